/-! ===== the start, and the law ===== -/
def iX : Nat → Nat := fun k => (List.lookup k [(0, 60), (1, 20), (2, 2), (3, 1), (9, 15), (10, 1)]).getD 0
def iZ : Nat → Nat → Nat := fun _ _ => 0
theorem i_A : AOK iX iZ iZ iZ := by
  refine ⟨by decide +kernel, fun k hk => absurd hk (Nat.not_lt_zero k), fun k hk => absurd hk (Nat.not_lt_zero k), fun k hk => absurd hk (Nat.not_lt_zero k), fun i j _ hk => absurd hk (Nat.not_lt_zero j), fun k hk => ?_, fun i k hk => absurd hk (Nat.not_lt_zero i)⟩
  have e : iX 7 = 0 := rfl
  rw [e, Nat.zero_testBit] at hk
  exact absurd hk (by decide)
theorem i_F : ∀ k, k < 14 → iFc (100 + k) = nI (iX k) := by decide +kernel
theorem i_M : ∀ k, k ≤ 10 → k ≠ 7 → iRm 0 (k + 2) = nI (iX k) := by
  have h : ∀ k, k < 11 → k ≠ 7 → iRm 0 (k + 2) = nI (iX k) := by decide +kernel
  exact fun k hk => h k (by omega)
theorem i_S : ∀ j, j < 4 → iFc (502 + 100 * j) = nI 0 ∧ iRm 17 j = nI 0 ∧ iFc (500 + 100 * j) = 0 ∧ iRm 16 j = -1 := by decide +kernel
theorem i_C : CS 100 iX iZ iZ iZ iFc iRc iPc [] := ⟨i_F, fun k hk => absurd hk (Nat.not_lt_zero k), fun k ad _ e => absurd e (by simp [iPc]), fun k hk => absurd hk (Nat.not_lt_zero k), fun i j hi => absurd hi (Nat.not_lt_zero i)⟩
theorem i_N : MS iX iZ iZ iZ (iRm 0) (iRm 8) (iFm 9) := ⟨⟨i_M, by decide +kernel, by decide +kernel, by decide +kernel⟩, fun k hk => absurd hk (Nat.not_lt_zero k), fun k hk => absurd hk (Nat.not_lt_zero k), by decide +kernel, fun k hk => absurd hk (Nat.not_lt_zero k)⟩
theorem i_I : INV iFc iRc iJc iPc [] iFm iRm iJm := by
  refine ⟨⟨iX, iZ, iZ, iZ, i_A, i_C, i_N⟩, ⟨fun k ad _ e => absurd e (by simp [iPc]), Or.inl ⟨by decide +kernel, by decide +kernel⟩⟩, ⟨0, by omega, by decide +kernel, by decide +kernel, fun k hk => absurd hk (Nat.not_lt_zero k)⟩, fun j hj => ?_, by decide +kernel⟩
  obtain ⟨h1, h2, h3, h4⟩ := i_S j hj
  exact ⟨0, 0, by omega, by omega, h1, h2, fun _ _ => rfl, Or.inl ⟨h3, h4⟩⟩
theorem law_ok : LawOK INV := ⟨T_builder, T_of, T_wall, T_hindrance, T_oath, T_type, T_bargain, T_count, T_day, T_use, T_drift, T_undo, T_seed, T_odds, T_oddsAt, T_sure, T_pace, T_plan, T_best, T_soonest, T_mean, T_image, T_restore, T_weather, T_film, T_sheet, T_drop, T_item, T_copy⟩
theorem whole_start {p : Program} {e : Env} {s : State} {m : MethodId} {below : List Frame} {meth : Method} {c : Code} (l : Launch) {b L : Nat} {xs : Nat → Int32} (hL : L ≤ 384) (C0 : lw_At p s m meth c b L xs) : W p l e room_1 s m #[Value.ref b] below meth c s.heap [] 0 0 (lw_Z below #[Value.ref b] s) (entryFrame m ([Value.ref b] : List Value).toArray 4) := start_of law_ok i_I l hL C0
