/-! ===== the pure part: use, undo ===== -/
theorem T_use (F : FT) (R : RT) (J : JT) (P : PT) (B : BT) (F0 : FT) (R0 : RT) (J0 : JT) (a1 : Int32) (I : INV F R J P B F0 R0 J0) : qW_use F R J P B a1 (fun r F R J P B => qM_use F0 R0 J0 a1 (fun r0 F0 R0 J0 => r = r0 ∧ INV F R J P B F0 R0 J0)) := by
  obtain ⟨x, b, h, p, A, H, M⟩ := id I.1
  have a1' := A.1
  have e12 : F 112 = nI (x 12) := H.n 12 (by decide)
  have g1 : R0 0 1 = nI (x 12) := M.1.2.2.1
  have e6 : F 106 = nI (x 6) := H.n 6 (by decide)
  have g8 : R0 0 8 = nI (x 6) := M.1.1 6 (by decide) (by decide)
  unfold qW_use
  rcases rgc a1 (x 12) (by omega) with hr | ⟨j, hj, rfl⟩
  · refine wic_n e12 hr ⟨fun c => absurd rfl c, fun _ => ?_⟩
    exact ih_n g1 hr ⟨fun c => absurd rfl c, fun _ => ⟨rfl, I⟩⟩
  refine wic_y (by omega) e12 hj ⟨fun _ => C_isUsed (s := x 6) (by omega) (by omega) e6 ?_, fun c => absurd c (by decide)⟩
  have mm : ∀ K : Int32 → FT → RT → JT → Prop, (qM_isUsed F0 R0 J0 (nI j) (fun r3 F3 R3 J3 => (r3 = 0 → (qM_isSummer F3 R3 J3 (fun r5 F5 R5 J5 => (r5 = 0 → (qM_notes F5 R5 J5 (fun F7 R7 J7 => qM_costOf F7 (va_up R7 0 (upd (R7 0) 8 ((R7 0 8) ||| ((1 : Int32) <<< (nI j &&& 31))))) J7 (nI j) (fun r8 F8 R8 J8 => qM_breaks F8 (va_up R8 0 (upd (R8 0) 9 (((upd (R7 0) 8 ((R7 0 8) ||| ((1 : Int32) <<< (nI j &&& 31)))) 9) + r8))) J8 (nI j) (fun r9 F9 R9 J9 => (r9 = 0 → (qM_use_90 F9 R9 J9 (0 : Int32) ((upd (R8 0) 9 (((upd (R7 0) 8 ((R7 0 8) ||| ((1 : Int32) <<< (nI j &&& 31)))) 9) + r8)) 10) (10 : Int32) K)) ∧ (¬ r9 = 0 → (qM_oathOf F9 R9 J9 (nI j) (fun r11 F11 R11 J11 => qM_use_90 F11 R11 J11 ((1 : Int32) <<< (r11 &&& 31)) ((upd (R8 0) 9 (((upd (R7 0) 8 ((R7 0 8) ||| ((1 : Int32) <<< (nI j &&& 31)))) 9) + r8)) 10) (10 : Int32) K)))))))) ∧ (¬ r5 = 0 → (K (-3 : Int32) F5 R5 J5))))) ∧ (¬ r3 = 0 → (K (-2 : Int32) F3 R3 J3)))) → qM_use F0 R0 J0 (nI j) K := fun K k => ih_y (by omega) g1 hj ⟨fun _ => k, fun c => absurd c (by decide)⟩
  by_cases hu : (x 6).testBit j = true
  · rw [if_pos hu]
    refine ⟨fun c => absurd c (by decide), fun _ => mm _ (M_isUsed (s := x 6) (by omega) (by omega) g8 ?_)⟩
    rw [if_pos hu]
    exact ⟨fun c => absurd c (by decide), fun _ => ⟨rfl, I⟩⟩
  rw [if_neg hu]
  have hu0 : (x 6).testBit j = false := by simpa using hu
  refine ⟨fun _ => C_summer A H ?_, fun c => absurd rfl c⟩
  by_cases hs : x 4 < x 1
  · rw [if_pos hs]
    refine ⟨fun _ => C_remember A H (fun F1 R1 H1 f1 r1 => C_hinder A.past H1 (j := j) hj (fun F2 H2 f2 => C_costToday (A.past.use (j := j) hj) H2 (mm _ (M_isUsed (s := x 6) (by omega) (by omega) g8 ?_)))), fun c => absurd rfl c⟩
    rw [if_neg hu]
    refine ⟨fun _ => M_summer A M ?_, fun c => absurd rfl c⟩
    rw [if_pos hs]
    refine ⟨fun _ => M_notes A M (fun F3 R3 M3 f3 r3 => ?_), fun c => absurd rfl c⟩
    have A3 := A.past
    have m8 : R3 0 8 = nI (x 6) := M3.1.1 6 (by decide) (by decide)
    have m9 : R3 0 9 = nI (cst h (x 12) (x 7)) := M3.1.2.2.2
    have m10 : R3 0 10 = nI (x 8) := M3.1.1 8 (by decide) (by decide)
    have m11 : R3 0 11 = nI (x 9) := M3.1.1 9 (by decide) (by decide)
    obtain ⟨mh1, mh2⟩ := M3.2.2.1 j hj
    have p2 : 2 ^ j < 2 ^ 32 := Nat.pow_lt_pow_right (by omega) (by omega)
    rw [m8, shl_k j (by omega), nI_or _ _ (by omega) p2]
    refine M_costOf (by omega) ?_
    rw [vu_eq, upd_ne (show 25 + 2 * j ≠ 8 by omega), mh1, upd_ne (show (9 : Nat) ≠ 8 by decide), m9, nI_add, bx_uu]
    have A1 := A.2.2.1 j hj
    have hms := M3.use A3 (j := j) hj hu0
    have u10 : upd (upd (R3 0) 8 (nI (x 6 ||| 2 ^ j))) 9 (nI (cst h (x 12) (x 7) + h j 0)) 10 = nI (x 8) := by rw [upd_ne (by decide), upd_ne (by decide)]; exact m10
    have b8 : useN (numN x) h j 8 = if brkN x h j then x 8 ||| 2 ^ h j 1 else x 8 := rfl
    have fin : ∀ (s0 : Int32), nI (x 8) ||| s0 = nI (useN (numN x) h j 8) → qM_use_90 F3 (va_up R3 0 (upd (upd (R3 0) 8 (nI (x 6 ||| 2 ^ j))) 9 (nI (cst h (x 12) (x 7) + h j 0)))) J0 s0 (nI (x 8)) (10 : Int32) (fun r0 F0 R0 J0 => nI (cst h (useN (numN x) h j 12) (useN (numN x) h j 7)) = r0 ∧ INV F2 R1 J P B F0 R0 J0) := by
      intro s0 es
      unfold qM_use_90
      refine ⟨vp_lit (by decide), ?_⟩
      rw [es, vu_eq, bx_uu, show (10 : Int32).toNatClampNeg = 10 from rfl]
      refine ⟨?_, I.site (A3.use (j := j) hj) H2 ?_ (fun k hk => by rw [f2 k (by omega) (by omega) (by omega), f1 k (by omega)]) (fun k hk => r1 k hk) (fun k hk => f3 k hk) (fun k h0 h8 => by rw [vu_ne h0, r3 k h8])⟩
      · rw [upd_ne (by decide), upd_eq]
        have hmc := hms.1.2.2.2
        rw [upd_ne (by decide), upd_eq] at hmc
        exact hmc.symm
      · rw [vu_eq, vu_ne (by decide)]
        exact hms
    refine M_brk (x := x) (h := h) (by omega) A1.2.2 (by omega) (by rw [vu_eq, upd_ne (by decide), upd_ne (by decide)]; exact m11) (by rw [vu_eq, upd_ne (by omega), upd_ne (by omega)]; exact mh2) ?_
    rw [u10]
    by_cases hb : brkN x h j = true
    · rw [if_pos hb]
      have h4 : h j 1 < 4 := by simp [brkN] at hb; exact hb.1
      refine ⟨fun c => absurd c (by decide), fun _ => M_oathOf (by omega) ?_⟩
      rw [vu_eq, upd_ne (show 26 + 2 * j ≠ 9 by omega), upd_ne (show 26 + 2 * j ≠ 8 by omega), mh2, oa_n h4, shl_k _ (by omega)]
      refine fin _ ?_
      rw [nI_or _ _ (by omega) (Nat.pow_lt_pow_right (by omega) (by omega)), b8, if_pos hb]
    · rw [if_neg hb]
      refine ⟨fun _ => fin _ ?_, fun c => absurd rfl c⟩
      rw [b8, if_neg hb]
      exact (nI_or (x 8) 0 (by omega) (by omega)).trans (congrArg nI (Nat.or_zero _))
  · rw [if_neg hs]
    refine ⟨fun c => absurd c (by decide), fun _ => mm _ (M_isUsed (s := x 6) (by omega) (by omega) g8 ?_)⟩
    rw [if_neg hu]
    refine ⟨fun _ => M_summer A M ?_, fun c => absurd rfl c⟩
    rw [if_neg hs]
    exact ⟨fun c => absurd c (by decide), fun _ => ⟨rfl, I⟩⟩
/-- the site behind an undone deed -/
def undN (x : Nat → Nat) (p : Nat → Nat → Nat) : Nat → Nat := fun k => if k = 13 then x 13 - 1 else if k = 4 then p (x 13 - 1) 0 else if k = 5 then p (x 13 - 1) 1 else if k = 6 then p (x 13 - 1) 2 else if k = 7 then p (x 13 - 1) 3 else if k = 8 then p (x 13 - 1) 4 else if k = 10 then p (x 13 - 1) 5 else x k
theorem AOK.und {x : Nat → Nat} {b h p : Nat → Nat → Nat} (A : AOK x b h p) (h0 : 0 < x 13) : AOK (undN x p) b h p := by
  obtain ⟨a1, a2, a3, a4, a5, a6, a7⟩ := A
  have q := a4 (x 13 - 1) (by omega)
  have s7 := a7 (x 13 - 1)
  refine ⟨?_, a2, a3, ?_, ?_, ?_, ?_⟩
  · show 1 ≤ x 0 ∧ x 0 ≤ 200 ∧ 1 ≤ x 1 ∧ x 1 ≤ 40 ∧ x 2 + x 3 ≤ 10 ∧ p (x 13 - 1) 0 ≤ x 1 ∧ p (x 13 - 1) 1 ≤ x 0 ∧ p (x 13 - 1) 2 < 64 ∧ p (x 13 - 1) 3 < 2 ^ x 12 ∧ p (x 13 - 1) 4 < 16 ∧ x 9 < 16 ∧ p (x 13 - 1) 5 < 2 ^ 31 ∧ x 11 ≤ 4 ∧ x 12 ≤ 6 ∧ x 13 - 1 ≤ 8
    omega
  · intro i hi
    have hi : i < x 13 - 1 := hi
    have h1 := a4 i (by omega)
    have h2 := a5 i (x 13 - 1) (by omega) (by omega)
    show p i 0 ≤ p (x 13 - 1) 0 ∧ p i 1 ≤ p (x 13 - 1) 1 ∧ p i 2 < 64 ∧ p i 3 < 2 ^ x 12 ∧ p i 4 < 16 ∧ p i 5 < 2 ^ 31
    omega
  · intro i j hij hj
    have hj : j < x 13 - 1 := hj
    exact a5 i j hij (by omega)
  · intro k hk; exact s7 k (by omega) hk
  · intro i k hi
    have hi : i < x 13 - 1 := hi
    exact a7 i k (by omega)
theorem T_undo (F : FT) (R : RT) (J : JT) (P : PT) (B : BT) (F0 : FT) (R0 : RT) (J0 : JT) (I : INV F R J P B F0 R0 J0) : qW_undo F R J P B (fun r F R J P B => qM_undo F0 R0 J0 (fun r0 F0 R0 J0 => r = r0 ∧ INV F R J P B F0 R0 J0)) := by
  obtain ⟨x, b, h, p, A, H, M⟩ := id I.1
  have a1' := A.1
  have e13 : F 113 = nI (x 13) := H.n 13 (by decide)
  have g9 : F0 9 = nI (x 13) := M.2.2.2.1
  unfold qW_undo
  by_cases h0 : 0 < x 13
  · have c0 : (0 : Int32) < F 113 := by rw [e13]; exact (n_lt (a := 0) (b := x 13) (by omega) (by omega)).mpr h0
    refine ⟨fun _ => ⟨fun _ => ?_, fun c => absurd c0 c⟩, fun c => absurd c0 c⟩
    obtain ⟨n, hn⟩ : ∃ n, x 13 = n + 1 := ⟨x 13 - 1, by omega⟩
    have en : F 113 - 1 = nI n := by rw [e13, hn]; exact nI_pred n
    have i0 : nI n * 6 = nI (6 * n) := (pk_mul n 6).trans (congrArg nI (by omega))
    have i1 : nI (6 * n) + 1 = nI (6 * n + 1) := nI_1 _
    have i2 : nI (6 * n) + 2 = nI (6 * n + 2) := nI_add _ 2
    have i3 : nI (6 * n) + 3 = nI (6 * n + 3) := nI_add _ 3
    have i4 : nI (6 * n) + 4 = nI (6 * n + 4) := nI_add _ 4
    have i5 : nI (6 * n) + 5 = nI (6 * n + 5) := nI_add _ 5
    have rr : ∀ j, j < 6 → R 117 (6 * n + j) = nI (p n j) := fun j hj => H.2.2.2.2 n j (by omega) hj
    have r0 : R 117 (6 * n) = nI (p n 0) := rr 0 (by omega)
    rw [en, i0, i1, i2, i3, i4, i5, nI_clamp (n := 6 * n) (by omega), nI_clamp (n := 6 * n + 1) (by omega), nI_clamp (n := 6 * n + 2) (by omega), nI_clamp (n := 6 * n + 3) (by omega), nI_clamp (n := 6 * n + 4) (by omega), nI_clamp (n := 6 * n + 5) (by omega), r0, rr 1 (by omega), rr 2 (by omega), rr 3 (by omega), rr 4 (by omega), rr 5 (by omega)]
    refine ⟨vp_in_nI (by omega) (by omega), vp_in_nI (by omega) (by omega), vp_in_nI (by omega) (by omega), vp_in_nI (by omega) (by omega), vp_in_nI (by omega) (by omega), vp_in_nI (by omega) (by omega), ?_⟩
    have hres : upd (upd (upd (upd (upd (upd (upd F 113 (nI n)) 104 (nI (p n 0))) 105 (nI (p n 1))) 106 (nI (p n 2))) 107 (nI (p n 3))) 108 (nI (p n 4))) 110 (nI (p n 5)) 113 = nI n := by rw [upd_ne (by decide), upd_ne (by decide), upd_ne (by decide), upd_ne (by decide), upd_ne (by decide), upd_ne (by decide), upd_eq]
    dsimp only
    rw [hres]
    -- the reference
    obtain ⟨⟨m1, m1a, m1b, m1c⟩, m2, m3, m4, m5⟩ := M
    obtain ⟨u0, u1, u2, u3, u4, u5⟩ := m5 n (by omega)
    have uu : ∀ t, t < 5 → R0 8 (6 * n + t) = (if t = 3 then nI (cst h (x 12) (p n 3)) else nI (p n t)) := by
      intro t ht
      rcases (show t = 0 ∨ t = 1 ∨ t = 2 ∨ t = 3 ∨ t = 4 by omega) with rfl | rfl | rfl | rfl | rfl
      · exact u0
      · exact u1
      · exact u2
      · exact u3
      · exact u4
    refine ⟨fun _ => ?_, fun c => ?_⟩
    · have e9 : F0 9 - 1 = nI n := by rw [g9, hn]; exact nI_pred n
      rw [e9]
      have f9 : upd F0 9 (nI n) 9 = nI n := upd_eq
      -- the state of the loop: k numbers are back
      have loop : ∀ m k, k + m = 5 → ∃ z, qM_undo_22 z (upd F0 9 (nI n)) (va_up R0 0 (fun j => if 6 ≤ j ∧ j < 6 + k then R0 8 (6 * n + (j - 6)) else R0 0 j)) J0 (nI k) (fun r0 F0 R0 J0 => nI n = r0 ∧ INV (upd (upd (upd (upd (upd (upd (upd F 113 (nI n)) 104 (nI (p n 0))) 105 (nI (p n 1))) 106 (nI (p n 2))) 107 (nI (p n 3))) 108 (nI (p n 4))) 110 (nI (p n 5))) R J P B F0 R0 J0) := by
        intro m
        induction m with
        | zero =>
          intro k hk
          have hk : k = 5 := by omega
          subst hk
          refine ⟨1, ?_⟩
          unfold qM_undo_22
          have i5' : (6 : Int32) * upd F0 9 (nI n) 9 + 5 = nI (6 * n + 5) := by rw [f9]; exact (congrArg (fun z => z + nI 5) (pk_mul 6 n)).trans (nI_add (6 * n) 5)
          refine ⟨fun _ => ?_, fun c => absurd (show (5 : Int32) ≤ nI 5 from (n_le (a := 5) (b := 5) (by omega) (by omega)).mpr (Nat.le_refl 5)) c⟩
          rw [i5', nI_clamp (n := 6 * n + 5) (by omega), f9, bx_uu, vu_eq, vu_ne (show (8 : Nat) ≠ 0 by decide), u5]
          refine ⟨vp_in_nI (by omega) (by omega), rfl, ?_⟩
          have c13 : x 13 - 1 = n := by omega
          refine I.site (A.und h0) (x := undN x p) ?_ ?_ (fun k hk => ?_) (fun k _ => rfl) (fun k hk => upd_ne hk) (fun k h0 _ => vu_ne h0)
          · refine H.num (fun k hk => ?_) rfl rfl (by show x 13 - 1 ≤ x 13; omega)
            unfold undN
            rw [c13]
            rcases (show k = 0 ∨ k = 1 ∨ k = 2 ∨ k = 3 ∨ k = 4 ∨ k = 5 ∨ k = 6 ∨ k = 7 ∨ k = 8 ∨ k = 9 ∨ k = 10 ∨ k = 11 ∨ k = 12 ∨ k = 13 by omega) with rfl | rfl | rfl | rfl | rfl | rfl | rfl | rfl | rfl | rfl | rfl | rfl | rfl | rfl
            all_goals first | rfl | exact H.n _ hk
          · rw [vu_eq, vu_ne (by decide), upd_eq]
            have u12 : undN x p 12 = x 12 := rfl
            refine ⟨⟨fun j hj hj7 => ?_, ?_, ?_, ?_⟩, fun j hj => ?_, fun j hj => ?_, ?_, fun i hi => ?_⟩
            · by_cases j10 : j = 10
              · subst j10; rw [upd_eq]; show _ = nI (p (x 13 - 1) 5); rw [c13]
              · rw [upd_ne (by omega)]
                by_cases hr : 6 ≤ j + 2 ∧ j + 2 < 6 + 5
                · rw [if_pos hr, show 6 * n + (j + 2 - 6) = 6 * n + (j - 4) by omega, uu (j - 4) (by omega), if_neg (by omega)]
                  unfold undN
                  rw [c13]
                  rcases (show j = 4 ∨ j = 5 ∨ j = 6 ∨ j = 8 by omega) with rfl | rfl | rfl | rfl <;> rfl
                · rw [if_neg hr, show undN x p j = x j by unfold undN; rw [if_neg (by omega), if_neg (by omega), if_neg (by omega), if_neg (by omega), if_neg (by omega), if_neg (by omega), if_neg (by omega)]]
                  exact m1 j hj hj7
            · rw [upd_ne (by decide), if_neg (by omega)]; exact m1a
            · rw [upd_ne (by decide), if_neg (by omega)]; exact m1b
            · rw [upd_ne (by decide), if_pos (by omega), u12]
              show R0 8 (6 * n + 3) = nI (cst h (x 12) (p (x 13 - 1) 3))
              rw [c13]; exact u3
            · have hj : j < x 11 := hj
              rw [upd_ne (by omega), upd_ne (by omega), upd_ne (by omega), if_neg (by omega), if_neg (by omega), if_neg (by omega)]; exact m2 j hj
            · have hj : j < x 12 := hj
              rw [upd_ne (by omega), upd_ne (by omega), if_neg (by omega), if_neg (by omega)]; exact m3 j hj
            · show nI n = nI (x 13 - 1); rw [c13]
            · have hi : i < x 13 - 1 := hi
              rw [u12]; exact m5 i (by omega)
          · rw [upd_ne (by omega), upd_ne (by omega), upd_ne (by omega), upd_ne (by omega), upd_ne (by omega), upd_ne (by omega), upd_ne (by omega)]
        | succ m ih =>
          intro k hk
          obtain ⟨z, hz⟩ := ih (k + 1) (by omega)
          refine ⟨z + 1, ?_⟩
          unfold qM_undo_22
          have ik : (6 : Int32) * upd F0 9 (nI n) 9 + nI k = nI (6 * n + k) := by rw [f9]; exact (congrArg (fun z => z + nI k) (pk_mul 6 n)).trans (nI_add (6 * n) k)
          have i6 : (6 : Int32) + nI k = nI (6 + k) := nI_add 6 k
          refine ⟨fun c => ?_, fun _ => ?_⟩
          · have := (n_le (a := 5) (b := k) (by omega) (by omega)).mp c; omega
          · rw [ik, i6, nI_clamp (n := 6 * n + k) (by omega), nI_clamp (n := 6 + k) (by omega), vu_eq, vu_ne (show (8 : Nat) ≠ 0 by decide), bx_uu, nI_1]
            refine ⟨vp_in_nI (by omega) (by omega), vp_in_nI (by omega) (by omega), ?_⟩
            have e : upd (fun j => if 6 ≤ j ∧ j < 6 + k then R0 8 (6 * n + (j - 6)) else R0 0 j) (6 + k) (R0 8 (6 * n + k)) = (fun j => if 6 ≤ j ∧ j < 6 + (k + 1) then R0 8 (6 * n + (j - 6)) else R0 0 j) := by
              funext j
              unfold upd
              by_cases h1 : j = 6 + k
              · subst h1; rw [if_pos rfl, if_pos (by omega), show 6 + k - 6 = k by omega]
              · rw [if_neg h1]
                dsimp only
                by_cases h2 : 6 ≤ j ∧ j < 6 + k
                · rw [if_pos h2, if_pos (by omega)]
                · rw [if_neg h2, if_neg (by omega)]
            rw [e]
            exact hz
      obtain ⟨z, hz⟩ := loop 5 0 rfl
      refine ⟨z, ?_⟩
      have e : va_up R0 0 (fun j => if 6 ≤ j ∧ j < 6 + 0 then R0 8 (6 * n + (j - 6)) else R0 0 j) = R0 := by
        funext j
        by_cases hj : j = 0
        · subst hj; rw [vu_eq]; funext t; rw [if_neg (by omega)]
        · rw [vu_ne hj]
      rw [e] at hz
      exact hz
    · rw [g9] at c
      have := (n_eq (a := x 13) (b := 0) (by omega) (by omega)).mp c
      omega
  · have e0 : x 13 = 0 := by omega
    rw [e13, e0]
    refine ⟨fun c => absurd c (by decide), fun _ => ⟨fun c => absurd ?_ c, fun _ => ⟨rfl, I⟩⟩⟩
    rw [g9, e0]; rfl
