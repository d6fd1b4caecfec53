/-! ===== the pure part: bits, costs, and the simple calls ===== -/
theorem sh_k : ∀ n, n < 32 → ((nI n &&& 31).toBitVec.smod 32).toNat = n := by decide +kernel
theorem bit_k {s k : Nat} (hs : s < 2 ^ 31) (hk : k < 32) : (nI s >>> (nI k &&& 31)) &&& 1 = nI (if s.testBit k then 1 else 0) := by
  rw [pk_shrN hs _ k (sh_k k hk), pk_andN (n := s / 2 ^ k) (Nat.lt_of_le_of_lt (Nat.div_le_self _ _) (by omega)) 1 (by decide), Nat.testBit_eq_decide_div_mod_eq]
  rcases Nat.mod_two_eq_zero_or_one (s / 2 ^ k) with h | h <;> simp [h]
theorem bit_0 {s k : Nat} (hs : s < 2 ^ 31) (hk : k < 32) : (nI s >>> (nI k &&& 31)) &&& 1 = 0 ↔ s.testBit k = false := by
  rw [bit_k hs hk]
  cases s.testBit k <;> decide
theorem bit_1 {s k : Nat} (hs : s < 2 ^ 31) (hk : k < 32) : (nI s >>> (nI k &&& 31)) &&& 1 = 1 ↔ s.testBit k = true := by
  rw [bit_k hs hk]
  cases s.testBit k <;> decide
theorem shl_k : ∀ k, k < 31 → (1 : Int32) <<< (nI k &&& 31) = nI (2 ^ k) := by decide +kernel
theorem nI_or (a b : Nat) (ha : a < 2 ^ 32) (hb : b < 2 ^ 32) : nI a ||| nI b = nI (a ||| b) := by
  apply Int32.toBitVec_inj.mp
  apply BitVec.eq_of_toNat_eq
  rw [Int32.toBitVec_or, BitVec.toNat_or, pk_tn ha, pk_tn hb, pk_tn (Nat.or_lt_two_pow ha hb)]
theorem nI_and (a b : Nat) (ha : a < 2 ^ 32) (hb : b < 2 ^ 32) : nI a &&& nI b = nI (a &&& b) := by
  apply Int32.toBitVec_inj.mp
  apply BitVec.eq_of_toNat_eq
  rw [Int32.toBitVec_and, BitVec.toNat_and, pk_tn ha, pk_tn hb, pk_tn (Nat.lt_of_le_of_lt Nat.and_le_left ha)]
theorem n_le {a b : Nat} (ha : a < 2 ^ 31) (hb : b < 2 ^ 31) : nI a ≤ nI b ↔ a ≤ b := nI_leI ha hb
theorem n_lt {a b : Nat} (ha : a < 2 ^ 31) (hb : b < 2 ^ 31) : nI a < nI b ↔ a < b := nI_ltI ha hb
theorem n_eq {a b : Nat} (ha : a < 2 ^ 31) (hb : b < 2 ^ 31) : nI a = nI b ↔ a = b := nI_eq ha hb
theorem cst_le (h : Nat → Nat → Nat) : ∀ n s, (∀ k, k < n → h k 0 ≤ 9) → cst h n s ≤ 9 * n := by
  intro n s
  induction n with
  | zero => intro _; simp [cst]
  | succ n ih =>
    intro hh
    have h1 := ih (fun k hk => hh k (by omega))
    have h2 := hh n (by omega)
    simp only [cst]
    split <;> omega
section PC
variable {x : Nat → Nat} {b h p : Nat → Nat → Nat} {F : FT} {R : RT} {J : JT} {P : PT} {B : BT}
theorem CS.n {o : Nat} (H : CS o x b h p F R P B) (k : Nat) (hk : k < 14) : F (o + k) = nI (x k) := H.1 k hk
theorem C_cost_loop (A : AOK x b h p) (H : CS 100 x b h p F R P B) {s : Nat} (hs : s < 2 ^ 31) {K : Int32 → FT → RT → JT → PT → BT → Prop} (hK : K (nI (cst h (x 12) s)) F R J P B) : ∀ m k, k + m = x 12 → ∃ n, qS_costOf_4 n F R J P B (nI s) (nI (cst h k s)) (nI k) K := by
  have e12 : F 112 = nI (x 12) := H.n 12 (by decide)
  have h6 : x 12 ≤ 6 := A.1.2.2.2.2.2.2.2.2.2.2.2.2.2.1
  intro m
  induction m with
  | zero =>
    intro k hk
    refine ⟨1, ?_⟩
    unfold qS_costOf_4
    refine ⟨fun _ => ?_, fun c => absurd ?_ c⟩
    · rw [show k = x 12 by omega]; exact hK
    · rw [e12, n_le (by omega) (by omega)]; omega
  | succ m ih =>
    intro k hk
    obtain ⟨n, hn⟩ := ih (k + 1) (by omega)
    refine ⟨n + 1, ?_⟩
    unfold qS_costOf_4
    refine ⟨fun c => ?_, fun _ => ⟨fun c => ?_, fun c => ⟨vp_in_nI (by omega) (by omega), ?_⟩⟩⟩
    · rw [e12, n_le (by omega) (by omega)] at c; omega
    · rw [bit_0 hs (by omega)] at c
      unfold qS_costOf_29
      rw [show cst h (k + 1) s = cst h k s by simp [cst, c]] at hn
      rw [nI_1]; exact hn
    · rw [bit_0 hs (by omega)] at c
      unfold qS_costOf_29
      have c : s.testBit k = true := by simpa using c
      rw [show cst h (k + 1) s = cst h k s + h k 0 by simp [cst, c]] at hn
      rw [nI_clamp (by omega), (H.2.2.2.1 k (by omega)).1, nI_add, nI_1]
      exact hn
theorem C_costOf (A : AOK x b h p) (H : CS 100 x b h p F R P B) {s : Nat} (hs : s < 2 ^ 31) {K : Int32 → FT → RT → JT → PT → BT → Prop} (hK : K (nI (cst h (x 12) s)) F R J P B) : qS_costOf F R J P B (nI s) K := C_cost_loop A H hs hK (x 12) 0 (by omega)
theorem A7 (A : AOK x b h p) : x 7 < 2 ^ 31 := by
  have h6 : x 12 ≤ 6 := A.1.2.2.2.2.2.2.2.2.2.2.2.2.2.1
  have h7 : x 7 < 2 ^ x 12 := A.1.2.2.2.2.2.2.2.2.1
  exact Nat.lt_of_lt_of_le h7 (Nat.le_trans (Nat.pow_le_pow_right (by omega) h6) (by omega))
theorem C_costToday (A : AOK x b h p) (H : CS 100 x b h p F R P B) {K : Int32 → FT → RT → JT → PT → BT → Prop} (hK : K (nI (cst h (x 12) (x 7))) F R J P B) : qS_costToday F R J P B K := by
  unfold qS_costToday
  rw [show F 107 = nI (x 7) from H.n 7 (by decide)]
  exact C_costOf A H (A7 A) hK
end PC
/-- the site of now changes in its numbers alone: the class's side -/
theorem CS.num {x x' : Nat → Nat} {b h p : Nat → Nat → Nat} {F F' : FT} {R : RT} {P : PT} {B : BT} (H : CS 100 x b h p F R P B) (hF : ∀ k, k < 14 → F' (100 + k) = nI (x' k)) (h11 : x' 11 = x 11) (h12 : x' 12 = x 12) (h13 : x' 13 ≤ x 13) : CS 100 x' b h p F' R P B := by
  obtain ⟨h1, h2, h3, h4, h5⟩ := H
  exact ⟨hF, fun k hk => h2 k (by omega), h3, fun k hk => h4 k (by omega), fun i j hi hj => h5 i j (by omega) hj⟩
/-- one number of the site changes, on both sides -/
theorem INV.num {F : FT} {R : RT} {J : JT} {P : PT} {B : BT} {F0 : FT} {R0 : RT} {J0 : JT} (I : INV F R J P B F0 R0 J0) {x : Nat → Nat} {b h p : Nat → Nat → Nat} (H : CS 100 x b h p F R P B) (M : MS x b h p (R0 0) (R0 8) (F0 9)) (k v : Nat) (hk : k ≤ 10) (hk7 : k ≠ 7) (A : AOK (va_up x k v) b h p) : INV (upd F (100 + k) (nI v)) R J P B F0 (va_up R0 0 (upd (R0 0) (k + 2) (nI v))) J0 := by
  refine I.cg ⟨va_up x k v, b, h, p, A, ?_, ?_⟩ (fun j hj => upd_ne (by omega)) (fun j hj => rfl) rfl (fun z hz => hz) (fun j hj => rfl) (fun j hj => vu_ne (by omega))
  · refine H.num (fun j hj => ?_) (vu_ne (by omega)) (vu_ne (by omega)) (by rw [vu_ne (by omega)]; exact Nat.le_refl _)
    by_cases e : j = k
    · subst e; rw [vu_eq]; exact upd_eq
    · rw [vu_ne e, upd_ne (by omega)]; exact H.n j hj
  · obtain ⟨⟨m1, m1a, m1b, m1c⟩, m2, m3, m4, m5⟩ := M
    have e11 : va_up x k v 11 = x 11 := vu_ne (by omega)
    have e12 : va_up x k v 12 = x 12 := vu_ne (by omega)
    have e13 : va_up x k v 13 = x 13 := vu_ne (by omega)
    have e7 : va_up x k v 7 = x 7 := vu_ne (by omega)
    rw [vu_eq, vu_ne (by decide)]
    refine ⟨⟨fun j hj hj7 => ?_, ?_, ?_, ?_⟩, fun j hj => ?_, fun j hj => ?_, by rw [e13]; exact m4, fun i hi => ?_⟩
    · by_cases e : j = k
      · subst e; rw [vu_eq]; exact upd_eq
      · rw [vu_ne e, upd_ne (by omega)]; exact m1 j hj hj7
    · rw [e11, upd_ne (by omega)]; exact m1a
    · rw [e12, upd_ne (by omega)]; exact m1b
    · rw [e12, e7, upd_ne (by omega)]; exact m1c
    · rw [upd_ne (by omega), upd_ne (by omega), upd_ne (by omega)]; exact m2 j (by rw [← e11]; exact hj)
    · rw [upd_ne (by omega), upd_ne (by omega)]; exact m3 j (by rw [← e12]; exact hj)
    · rw [e12]; exact m5 i (by rw [← e13]; exact hi)
theorem AOK.num {x : Nat → Nat} {b h p : Nat → Nat → Nat} (A : AOK x b h p) (k v : Nat) (hk : k ≤ 10) (hk6 : k ≠ 6 ∧ k ≠ 7) (h1 : 1 ≤ va_up x k v 0 ∧ va_up x k v 0 ≤ 200 ∧ 1 ≤ va_up x k v 1 ∧ va_up x k v 1 ≤ 40 ∧ va_up x k v 2 + va_up x k v 3 ≤ 10 ∧ x 4 ≤ va_up x k v 4 ∧ va_up x k v 4 ≤ va_up x k v 1 ∧ x 5 ≤ va_up x k v 5 ∧ va_up x k v 5 ≤ va_up x k v 0 ∧ va_up x k v 6 < 64 ∧ va_up x k v 7 < 2 ^ x 12 ∧ va_up x k v 8 < 16 ∧ va_up x k v 9 < 16 ∧ va_up x k v 10 < 2 ^ 31) : AOK (va_up x k v) b h p := by
  obtain ⟨a1, a2, a3, a4, a5, a6, a7⟩ := A
  have e11 : va_up x k v 11 = x 11 := vu_ne (by omega)
  have e12 : va_up x k v 12 = x 12 := vu_ne (by omega)
  have e13 : va_up x k v 13 = x 13 := vu_ne (by omega)
  have e6 : va_up x k v 6 = x 6 := vu_ne (by omega)
  have e7 : va_up x k v 7 = x 7 := vu_ne (by omega)
  obtain ⟨b0, b1, b2, b3, b4, b5, b6, b7, b8, b9, b10, b11, b12, b13⟩ := h1
  refine ⟨⟨b0, b1, b2, b3, b4, b6, b8, b9, by rw [e12]; exact b10, b11, b12, b13, by rw [e11]; omega, by rw [e12]; omega, by rw [e13]; omega⟩, by rw [e11]; exact a2, by rw [e12]; exact a3, ?_, by rw [e13]; exact a5, by rw [e6, e7]; exact a6, by rw [e13]; exact a7⟩
  rw [e13, e12]
  intro i hi
  have := a4 i hi
  omega
theorem T_seed (F : FT) (R : RT) (J : JT) (P : PT) (B : BT) (F0 : FT) (R0 : RT) (J0 : JT) (a1 : Int32) (I : INV F R J P B F0 R0 J0) : qW_seed F R J P B a1 (fun r F R J P B => qM_seed F0 R0 J0 a1 (fun r0 F0 R0 J0 => r = r0 ∧ INV F R J P B F0 R0 J0)) := by
  obtain ⟨x, b, h, p, A, H, M⟩ := id I.1
  refine ⟨fun c => ⟨fun _ => ⟨?_, ?_⟩, fun d => absurd c d⟩, fun c => ⟨fun d => absurd d c, fun _ => ⟨rfl, I⟩⟩⟩
  · rw [show F 110 = nI (x 10) from H.n 10 (by decide)]
    exact (M.1.1 10 (by omega) (by omega)).symm
  · obtain ⟨v, hv, rfl⟩ := nI_of (x := a1) (fun d => by rw [t_lt] at d; rw [t_le] at c; omega)
    refine I.num H M 10 v (by omega) (by omega) (A.num 10 v (by omega) (by decide) ?_)
    have a1 := A.1
    simp only [va_up]
    simp
    omega
/-- which number a call of wall changes, and the least and the most that it may be -/
theorem T_wall1 {F : FT} {R : RT} {J : JT} {P : PT} {B : BT} {F0 : FT} {R0 : RT} {J0 : JT} (I : INV F R J P B F0 R0 J0) {x : Nat → Nat} {b h p : Nat → Nat → Nat} (H : CS 100 x b h p F R P B) (M : MS x b h p (R0 0) (R0 8) (F0 9)) (A : AOK x b h p) (k v : Nat) (hk : k ≤ 3) (A' : AOK (va_up x k v) b h p) : F (100 + k) = R0 0 (k + 2) ∧ INV (upd F (100 + k) (nI v)) R J P B F0 (va_up R0 0 (upd (R0 0) (k + 2) (nI v))) J0 := ⟨by rw [H.n k (by omega), M.1.1 k (by omega) (by omega)], I.num H M k v (by omega) (by omega) A'⟩
theorem T_wall (F : FT) (R : RT) (J : JT) (P : PT) (B : BT) (F0 : FT) (R0 : RT) (J0 : JT) (a1 a2 : Int32) (I : INV F R J P B F0 R0 J0) : qW_wall F R J P B a1 a2 (fun r F R J P B => qM_wall F0 R0 J0 a1 a2 (fun r0 F0 R0 J0 => r = r0 ∧ INV F R J P B F0 R0 J0)) := by
  obtain ⟨x, b, h, p, A, H, M⟩ := id I.1
  have a1' := A.1
  have e5 : F 105 = nI (x 5) := H.n 5 (by decide)
  have e4 : F 104 = nI (x 4) := H.n 4 (by decide)
  have e2 : F 102 = nI (x 2) := H.n 2 (by decide)
  have e3 : F 103 = nI (x 3) := H.n 3 (by decide)
  have g7 : R0 0 7 = nI (x 5) := M.1.1 5 (by decide) (by decide)
  have g6 : R0 0 6 = nI (x 4) := M.1.1 4 (by decide) (by decide)
  have g5 : R0 0 5 = nI (x 3) := M.1.1 3 (by decide) (by decide)
  have g4 : R0 0 4 = nI (x 2) := M.1.1 2 (by decide) (by decide)
  refine ⟨fun c => ?_, fun c => ?_, fun c => ?_, fun c => ?_, fun c0 c1 c2 c3 => ?_⟩
  · subst c
    unfold qW_changeStones
    have mm : ∀ K : Int32 → FT → RT → JT → Prop, (qM_in F0 R0 J0 a2.toInt64 (1 : Int64) (200 : Int64) (fun r6 F6 R6 J6 => qM_wall_60 F6 R6 J6 0 a2 r6 K)) → qM_wall F0 R0 J0 0 a2 K := fun K k => ⟨fun c => absurd rfl c, fun _ => k⟩
    rcases rg a2 1 200 with hr | ⟨v, h1, h2, rfl⟩
    · refine wi_n hr ⟨fun c => absurd rfl c, fun _ => mm _ (mi_n hr ?_)⟩
      exact ⟨fun c => absurd rfl c, fun _ => ⟨rfl, I⟩⟩
    · have tv : (nI v).toInt = v := t_n (by omega)
      refine wi_y (by rw [tv]; exact Int.ofNat_le.mpr h1) (by rw [tv]; exact Int.ofNat_le.mpr h2) ⟨fun _ => ?_, fun c => absurd c (by decide)⟩
      refine ⟨fun c => ?_, fun c => ?_⟩
      · refine mm _ (mi_y (by rw [tv]; exact Int.ofNat_le.mpr h1) (by rw [tv]; exact Int.ofNat_le.mpr h2) ⟨fun _ => ⟨fun c => absurd rfl c, fun _ => ?_⟩, fun c => absurd c (by decide)⟩)
        rw [e5, n_le (by omega) (by omega)] at c
        refine ⟨fun _ => ⟨fun _ => ?_, fun c => absurd c (by decide)⟩, fun c => absurd c (by decide)⟩
        refine ⟨fun d => ?_, fun _ => ⟨fun _ => ⟨vp_lit (by decide), vp_lit (by decide), T_wall1 I H M A 0 v (by omega) (A.num 0 v (by omega) (by decide) ?_)⟩, fun d => ?_⟩⟩
        · rw [g7, n_lt (by omega) (by omega)] at d; omega
        · simp only [va_up]; simp; omega
        · exact absurd (show nI v ≤ nI 200 from (n_le (by omega) (by omega)).mpr h2) d
      · refine mm _ (mi_y (by rw [tv]; exact Int.ofNat_le.mpr h1) (by rw [tv]; exact Int.ofNat_le.mpr h2) ⟨fun _ => ⟨fun c => absurd rfl c, fun _ => ?_⟩, fun c => absurd c (by decide)⟩)
        rw [e5, n_le (by omega) (by omega)] at c
        refine ⟨fun _ => ⟨fun _ => ?_, fun c => absurd c (by decide)⟩, fun c => absurd c (by decide)⟩
        refine ⟨fun _ => ⟨rfl, I⟩, fun d => absurd ?_ d⟩
        rw [g7, n_lt (by omega) (by omega)]; omega
  · subst c
    unfold qW_changeDays
    have mm : ∀ K : Int32 → FT → RT → JT → Prop, (qM_in F0 R0 J0 a2.toInt64 (1 : Int64) (40 : Int64) (fun r6 F6 R6 J6 => qM_wall_60 F6 R6 J6 1 a2 r6 K)) → qM_wall F0 R0 J0 1 a2 K := fun K k => ⟨fun _ => ⟨fun c => absurd rfl c, fun _ => k⟩, fun c => absurd c (by decide)⟩
    rcases rg a2 1 40 with hr | ⟨v, h1, h2, rfl⟩
    · refine wi_n hr ⟨fun c => absurd rfl c, fun _ => mm _ (mi_n hr ?_)⟩
      exact ⟨fun c => absurd rfl c, fun _ => ⟨rfl, I⟩⟩
    · have tv : (nI v).toInt = v := t_n (by omega)
      refine wi_y (by rw [tv]; exact Int.ofNat_le.mpr h1) (by rw [tv]; exact Int.ofNat_le.mpr h2) ⟨fun _ => ?_, fun c => absurd c (by decide)⟩
      refine ⟨fun c => ?_, fun c => ?_⟩
      · refine mm _ (mi_y (by rw [tv]; exact Int.ofNat_le.mpr h1) (by rw [tv]; exact Int.ofNat_le.mpr h2) ⟨fun _ => ⟨fun _ => ⟨fun c => absurd rfl c, fun _ => ?_⟩, fun c => absurd c (by decide)⟩, fun c => absurd c (by decide)⟩)
        rw [e4, n_le (by omega) (by omega)] at c
        refine ⟨fun _ => ⟨fun _ => ?_, fun c => absurd c (by decide)⟩, fun c => absurd c (by decide)⟩
        refine ⟨fun d => ?_, fun _ => ⟨fun _ => ⟨vp_lit (by decide), vp_lit (by decide), T_wall1 I H M A 1 v (by omega) (A.num 1 v (by omega) (by decide) ?_)⟩, fun d => ?_⟩⟩
        · rw [g6, n_lt (by omega) (by omega)] at d; omega
        · simp only [va_up]; simp; omega
        · exact absurd (show nI v ≤ nI 200 from (n_le (by omega) (by omega)).mpr (by omega)) d
      · refine mm _ (mi_y (by rw [tv]; exact Int.ofNat_le.mpr h1) (by rw [tv]; exact Int.ofNat_le.mpr h2) ⟨fun _ => ⟨fun _ => ⟨fun c => absurd rfl c, fun _ => ?_⟩, fun c => absurd c (by decide)⟩, fun c => absurd c (by decide)⟩)
        rw [e4, n_le (by omega) (by omega)] at c
        refine ⟨fun _ => ⟨fun _ => ?_, fun c => absurd c (by decide)⟩, fun c => absurd c (by decide)⟩
        refine ⟨fun _ => ⟨rfl, I⟩, fun d => absurd ?_ d⟩
        rw [g6, n_lt (by omega) (by omega)]; omega
  · subst c
    unfold qW_changeFrost
    have mm : ∀ K : Int32 → FT → RT → JT → Prop, qM_wall_43 F0 R0 J0 2 a2 K → qM_wall F0 R0 J0 2 a2 K := fun K k => ⟨fun _ => ⟨fun _ => ⟨fun _ => k, fun c => absurd rfl c⟩, fun c => absurd c (by decide)⟩, fun c => absurd c (by decide)⟩
    rcases rg a2 0 10 with hr | ⟨v, h1, h2, rfl⟩
    · refine wi_n hr ⟨fun c => absurd rfl c, fun _ => mm _ (mi_n hr ⟨fun _ => ?_, fun c => absurd rfl c⟩)⟩
      exact ⟨fun c => absurd rfl c, fun _ => ⟨rfl, I⟩⟩
    · have tv : (nI v).toInt = v := t_n (by omega)
      refine wi_y (by rw [tv]; exact Int.ofNat_le.mpr h1) (by rw [tv]; exact Int.ofNat_le.mpr h2) ⟨fun _ => ?_, fun c => absurd c (by decide)⟩
      have hin : ∀ K : Int32 → FT → RT → JT → Prop, qM_wall_136 F0 R0 J0 2 (nI v) 0 (10 - R0 0 5) K → qM_wall F0 R0 J0 2 (nI v) K := fun K k => mm _ (mi_y (by rw [tv]; exact Int.ofNat_le.mpr h1) (by rw [tv]; exact Int.ofNat_le.mpr h2) ⟨fun c => absurd c (by decide), fun _ => ⟨fun _ => ⟨fun _ => ⟨fun _ => ⟨fun c => absurd rfl c, fun _ => k⟩, fun c => absurd c (by decide)⟩, fun c => absurd c (by decide)⟩, fun c => absurd c (by decide)⟩⟩)
      have e10 : (10 : Int32) - R0 0 5 = nI (10 - x 3) := by rw [g5]; exact pk_sub (a := 10) (b := x 3) (by omega)
      refine ⟨fun c => hin _ ?_, fun c => hin _ ?_⟩
      · rw [e3, nI_add] at c
        have c : v + x 3 ≤ 10 := (n_le (by omega) (by omega)).mp c
        refine ⟨fun d => ?_, fun _ => ⟨fun _ => ⟨vp_lit (by decide), vp_lit (by decide), T_wall1 I H M A 2 v (by omega) (A.num 2 v (by omega) (by decide) ?_)⟩, fun d => absurd ?_ d⟩⟩
        · have := (n_lt (a := v) (b := 0) (by omega) (by omega)).mp d; omega
        · simp only [va_up]; simp; omega
        · rw [e10, n_le (by omega) (by omega)]; omega
      · rw [e3, nI_add] at c
        have c : ¬ v + x 3 ≤ 10 := fun d => c ((n_le (a := v + x 3) (b := 10) (by omega) (by omega)).mpr d)
        refine ⟨fun d => ?_, fun _ => ⟨fun d => ?_, fun _ => ⟨rfl, I⟩⟩⟩
        · have := (n_lt (a := v) (b := 0) (by omega) (by omega)).mp d; omega
        · rw [e10, n_le (by omega) (by omega)] at d; omega
  · subst c
    unfold qW_changeThaw
    have mm : ∀ K : Int32 → FT → RT → JT → Prop, qM_wall_43 F0 R0 J0 3 a2 K → qM_wall F0 R0 J0 3 a2 K := fun K k => ⟨fun _ => ⟨fun _ => ⟨fun c => absurd c (by decide), fun _ => ⟨fun c => absurd rfl c, fun _ => k⟩⟩, fun c => absurd c (by decide)⟩, fun c => absurd c (by decide)⟩
    rcases rg a2 0 10 with hr | ⟨v, h1, h2, rfl⟩
    · refine wi_n hr ⟨fun c => absurd rfl c, fun _ => mm _ (mi_n hr ⟨fun _ => ?_, fun c => absurd rfl c⟩)⟩
      exact ⟨fun c => absurd rfl c, fun _ => ⟨rfl, I⟩⟩
    · have tv : (nI v).toInt = v := t_n (by omega)
      refine wi_y (by rw [tv]; exact Int.ofNat_le.mpr h1) (by rw [tv]; exact Int.ofNat_le.mpr h2) ⟨fun _ => ?_, fun c => absurd c (by decide)⟩
      have hin : ∀ K : Int32 → FT → RT → JT → Prop, qM_wall_136 F0 R0 J0 3 (nI v) 0 (10 - R0 0 4) K → qM_wall F0 R0 J0 3 (nI v) K := fun K k => mm _ (mi_y (by rw [tv]; exact Int.ofNat_le.mpr h1) (by rw [tv]; exact Int.ofNat_le.mpr h2) ⟨fun c => absurd c (by decide), fun _ => ⟨fun _ => ⟨fun _ => ⟨fun _ => ⟨fun _ => ⟨fun c => absurd rfl c, fun _ => k⟩, fun c => absurd c (by decide)⟩, fun c => absurd c (by decide)⟩, fun c => absurd c (by decide)⟩, fun c => absurd c (by decide)⟩⟩)
      have e10 : (10 : Int32) - R0 0 4 = nI (10 - x 2) := by rw [g4]; exact pk_sub (a := 10) (b := x 2) (by omega)
      refine ⟨fun c => hin _ ?_, fun c => hin _ ?_⟩
      · rw [e2, nI_add] at c
        have c : x 2 + v ≤ 10 := (n_le (by omega) (by omega)).mp c
        refine ⟨fun d => ?_, fun _ => ⟨fun _ => ⟨vp_lit (by decide), vp_lit (by decide), T_wall1 I H M A 3 v (by omega) (A.num 3 v (by omega) (by decide) ?_)⟩, fun d => absurd ?_ d⟩⟩
        · have := (n_lt (a := v) (b := 0) (by omega) (by omega)).mp d; omega
        · simp only [va_up]; simp; omega
        · rw [e10, n_le (by omega) (by omega)]; omega
      · rw [e2, nI_add] at c
        have c : ¬ x 2 + v ≤ 10 := fun d => c ((n_le (a := x 2 + v) (b := 10) (by omega) (by omega)).mpr d)
        refine ⟨fun d => ?_, fun _ => ⟨fun d => ?_, fun _ => ⟨rfl, I⟩⟩⟩
        · have := (n_lt (a := v) (b := 0) (by omega) (by omega)).mp d; omega
        · rw [e10, n_le (by omega) (by omega)] at d; omega
  · exact ⟨fun _ => ⟨fun _ => ⟨fun c => absurd c c2, fun _ => ⟨fun _ => ⟨fun c => absurd rfl c, fun _ => ⟨rfl, I⟩⟩, fun c => absurd c c3⟩⟩, fun c => absurd c c1⟩, fun c => absurd c c0⟩
