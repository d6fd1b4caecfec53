/-! ===== the pure part: use, undo ===== -/
theorem cnt_t {n : Nat} (hn : n < 2 ^ 30) : (nI n - 1).toInt = (n : Int) - 1 := pk_sub_toInt (a := n) (b := 1) hn (by omega)
theorem rgc (y : Int32) (n : Nat) (hn : n < 2 ^ 30) : (y.toInt < 0 ∨ (nI n - 1).toInt < y.toInt) ∨ ∃ j, j < n ∧ y = nI j := by
  rw [cnt_t hn]
  by_cases h : y.toInt < 0 ∨ (n : Int) - 1 < y.toInt
  · exact Or.inl h
  · right
    obtain ⟨j, hj, e⟩ := nI_of (x := y) (fun c => by rw [t_lt] at c; have : (0 : Int32).toInt = 0 := rfl; omega)
    refine ⟨j, ?_, e⟩
    rw [e, t_n hj] at h; omega
theorem wic_n {F : FT} {R : RT} {J : JT} {P : PT} {B : BT} {K : Int32 → FT → RT → JT → PT → BT → Prop} {y hi : Int32} {n : Nat} (e : hi = nI n) (h : y.toInt < 0 ∨ (nI n - 1).toInt < y.toInt) (k : K 0 F R J P B) : qW_within F R J P B y 0 (hi - 1) K := by subst e; exact wi_n h k
theorem wic_y {F : FT} {R : RT} {J : JT} {P : PT} {B : BT} {K : Int32 → FT → RT → JT → PT → BT → Prop} {hi : Int32} {n j : Nat} (hn : n < 2 ^ 30) (e : hi = nI n) (h : j < n) (k : K 1 F R J P B) : qW_within F R J P B (nI j) 0 (hi - 1) K := by
  subst e
  have t := t_n (n := j) (by omega)
  exact wi_y (by rw [t]; exact Int.ofNat_le.mpr (Nat.zero_le _)) (by rw [t, cnt_t hn]; omega) k
theorem mic_n {F : FT} {R : RT} {J : JT} {K : Int32 → FT → RT → JT → Prop} {y hi : Int32} {n : Nat} (e : hi = nI n) (h : y.toInt < 0 ∨ (nI n - 1).toInt < y.toInt) (k : K 0 F R J) : qM_in F R J y.toInt64 (0 : Int64) (hi - 1).toInt64 K := by subst e; exact mi_n (by rw [t_64]; exact h) k
theorem mic_y {F : FT} {R : RT} {J : JT} {K : Int32 → FT → RT → JT → Prop} {hi : Int32} {n j : Nat} (hn : n < 2 ^ 30) (e : hi = nI n) (h : j < n) (k : K 1 F R J) : qM_in F R J (nI j).toInt64 (0 : Int64) (hi - 1).toInt64 K := by
  subst e
  have t := t_n (n := j) (by omega)
  exact mi_y (by rw [t]; exact Int.ofNat_le.mpr (Nat.zero_le _)) (by rw [t, t_64, cnt_t hn]; omega) k
theorem ih_n {F : FT} {R : RT} {J : JT} {K : Int32 → FT → RT → JT → Prop} {y : Int32} {n : Nat} (e : R 0 1 = nI n) (h : y.toInt < 0 ∨ (nI n - 1).toInt < y.toInt) (k : K 0 F R J) : qM_isHindrance F R J y K := mic_n e h ⟨isB_0, k⟩
theorem ih_y {F : FT} {R : RT} {J : JT} {K : Int32 → FT → RT → JT → Prop} {n j : Nat} (hn : n < 2 ^ 30) (e : R 0 1 = nI n) (h : j < n) (k : K 1 F R J) : qM_isHindrance F R J (nI j) K := mic_y hn e h ⟨isB_1, k⟩
theorem ib_n {F : FT} {R : RT} {J : JT} {K : Int32 → FT → RT → JT → Prop} {y : Int32} {n : Nat} (e : R 0 0 = nI n) (h : y.toInt < 0 ∨ (nI n - 1).toInt < y.toInt) (k : K 0 F R J) : qM_isBuilder F R J y K := mic_n e h ⟨isB_0, k⟩
theorem ib_y {F : FT} {R : RT} {J : JT} {K : Int32 → FT → RT → JT → Prop} {n j : Nat} (hn : n < 2 ^ 30) (e : R 0 0 = nI n) (h : j < n) (k : K 1 F R J) : qM_isBuilder F R J (nI j) K := mic_y hn e h ⟨isB_1, k⟩
theorem cst_or (h : Nat → Nat → Nat) {s j : Nat} (hs : s.testBit j = false) : ∀ n, cst h n (s ||| 2 ^ j) = cst h n s + (if j < n then h j 0 else 0) := by
  intro n
  induction n with
  | zero => simp [cst]
  | succ n ih =>
    simp only [cst, ih, Nat.testBit_or, Nat.testBit_two_pow]
    by_cases e : j = n
    · subst e; simp [hs]
    · by_cases h2 : j < n
      · rw [if_pos h2, if_pos (show j < n + 1 by omega)]; simp [e]; omega
      · rw [if_neg h2, if_neg (show ¬ j < n + 1 by omega)]; simp [e]
def brkN (x : Nat → Nat) (h : Nat → Nat → Nat) (j : Nat) : Bool := decide (h j 1 < 4) && (x 9).testBit (h j 1)
def useN (x : Nat → Nat) (h : Nat → Nat → Nat) (j : Nat) : Nat → Nat := va_up (va_up (va_up x 6 (x 6 ||| 2 ^ j)) 7 (x 7 ||| 2 ^ j)) 8 (if brkN x h j then x 8 ||| 2 ^ h j 1 else x 8)
theorem useN_ne {x : Nat → Nat} {h : Nat → Nat → Nat} {j k : Nat} (h6 : k ≠ 6) (h7 : k ≠ 7) (h8 : k ≠ 8) : useN x h j k = x k := by unfold useN; rw [vu_ne h8, vu_ne h7, vu_ne h6]
theorem AOK.use {x : Nat → Nat} {b h p : Nat → Nat → Nat} (A : AOK x b h p) {j : Nat} (hj : j < x 12) : AOK (useN x h j) b h p := by
  obtain ⟨a1, a2, a3, a4, a5, a6, a7⟩ := A
  have e6 : useN x h j 6 = x 6 ||| 2 ^ j := rfl
  have e7 : useN x h j 7 = x 7 ||| 2 ^ j := rfl
  have e8 : useN x h j 8 = if brkN x h j then x 8 ||| 2 ^ h j 1 else x 8 := rfl
  have b6 : x 6 ||| 2 ^ j < 2 ^ 6 := Nat.or_lt_two_pow (by omega) (Nat.pow_lt_pow_right (by omega) (by omega))
  have b7 : x 7 ||| 2 ^ j < 2 ^ x 12 := Nat.or_lt_two_pow (by omega) (Nat.pow_lt_pow_right (by omega) hj)
  have b8 : (if brkN x h j then x 8 ||| 2 ^ h j 1 else x 8) < 16 := by
    by_cases hb : brkN x h j = true
    · rw [if_pos hb]
      have : h j 1 < 4 := by simp [brkN] at hb; exact hb.1
      exact Nat.or_lt_two_pow (n := 4) (by omega) (Nat.pow_lt_pow_right (by omega) this)
    · rw [if_neg hb]; omega
  refine ⟨?_, by rw [useN_ne (by decide) (by decide) (by decide)]; exact a2, by rw [useN_ne (by decide) (by decide) (by decide)]; exact a3, ?_, by rw [useN_ne (by decide) (by decide) (by decide)]; exact a5, ?_, by rw [useN_ne (by decide) (by decide) (by decide)]; exact a7⟩
  · rw [e6, e7, e8, useN_ne (k := 0) (by decide) (by decide) (by decide), useN_ne (k := 1) (by decide) (by decide) (by decide), useN_ne (k := 2) (by decide) (by decide) (by decide), useN_ne (k := 3) (by decide) (by decide) (by decide), useN_ne (k := 4) (by decide) (by decide) (by decide), useN_ne (k := 5) (by decide) (by decide) (by decide), useN_ne (k := 9) (by decide) (by decide) (by decide), useN_ne (k := 10) (by decide) (by decide) (by decide), useN_ne (k := 11) (by decide) (by decide) (by decide), useN_ne (k := 12) (by decide) (by decide) (by decide), useN_ne (k := 13) (by decide) (by decide) (by decide)]
    generalize (if brkN x h j then x 8 ||| 2 ^ h j 1 else x 8) = z8 at b8 ⊢
    generalize x 7 ||| 2 ^ j = z7 at b7 ⊢
    generalize x 6 ||| 2 ^ j = z6 at b6 ⊢
    omega
  · rw [useN_ne (k := 4) (by decide) (by decide) (by decide), useN_ne (k := 5) (by decide) (by decide) (by decide), useN_ne (k := 12) (by decide) (by decide) (by decide), useN_ne (k := 13) (by decide) (by decide) (by decide)]
    exact a4
  · rw [e6, e7]
    intro k hk
    rw [Nat.testBit_or] at hk ⊢
    simp only [Bool.or_eq_true] at hk ⊢
    rcases hk with hk | hk
    · exact Or.inl (a6 k hk)
    · exact Or.inr hk
theorem oa_4 : (oaV 4 : Int32) < 0 := by decide
theorem oa_n {o : Nat} (ho : o < 4) : oaV o = nI o := if_neg (by omega)
theorem C_brk {F : FT} {R : RT} {J : JT} {P : PT} {B : BT} {x : Nat → Nat} {h : Nat → Nat → Nat} {j : Nat} (hj : j < 6) (ho : h j 1 ≤ 4) (h9 : x 9 < 16) (e9 : F 109 = nI (x 9)) (e16 : R 116 j = oaV (h j 1)) {K : Int32 → FT → RT → JT → PT → BT → Prop} (hK : K (if brkN x h j then 1 else 0) F R J P B) : qS_breaksSworn F R J P B (nI j) K := by
  unfold qS_breaksSworn
  rw [nI_clamp (n := j) (by omega), e16, e9]
  refine ⟨vp_in_nI (by omega) (by omega), ?_⟩
  by_cases h4 : h j 1 < 4
  · rw [oa_n h4]
    refine ⟨fun c => absurd c (nI_pos (by omega)), fun _ => ⟨fun c => ?_, fun c => ?_⟩⟩
    · rw [bit_0 (by omega) (by omega)] at c
      simp [brkN, c] at hK; exact hK
    · rw [bit_0 (by omega) (by omega)] at c
      simp [brkN, c, h4] at hK; exact hK
  · have e4 : h j 1 = 4 := by omega
    rw [e4]
    refine ⟨fun _ => ?_, fun c => absurd oa_4 c⟩
    simp [brkN, e4] at hK; exact hK
theorem C_hinder {x : Nat → Nat} {b h p : Nat → Nat → Nat} {F : FT} {R : RT} {J : JT} {P : PT} {B : BT} (A : AOK x b h p) (H : CS 100 x b h p F R P B) {j : Nat} (hj : j < x 12) {K : FT → RT → JT → PT → BT → Prop} (hK : ∀ F', CS 100 (useN x h j) b h p F' R P B → (∀ k, k ≠ 106 → k ≠ 107 → k ≠ 108 → F' k = F k) → K F' R J P B) : qS_hinder F R J P B (nI j) K := by
  have a1 := A.1
  have a3 := A.2.2.1 j hj
  have e6 : F 106 = nI (x 6) := H.n 6 (by decide)
  have e7 : F 107 = nI (x 7) := H.n 7 (by decide)
  have e8 : F 108 = nI (x 8) := H.n 8 (by decide)
  have hp7 := A7 A
  have p2 : 2 ^ j < 2 ^ 32 := Nat.pow_lt_pow_right (by omega) (by omega)
  unfold qS_hinder
  rw [shl_k j (by omega), e6, e7, nI_or _ _ (by omega) p2, nI_or _ _ (by omega) p2]
  have r16 := (H.2.2.2.1 j hj).2
  refine C_brk (x := x) (h := h) (by omega) a3.2.2 (by omega) (by rw [upd_ne (by decide), upd_ne (by decide)]; exact H.n 9 (by decide)) r16 ?_
  have fin : ∀ F', F' 108 = nI (useN x h j 8) → (∀ k, k ≠ 108 → F' k = upd (upd F 106 (nI (x 6 ||| 2 ^ j))) 107 (nI (x 7 ||| 2 ^ j)) k) → K F' R J P B := by
    intro F' h8 hk
    refine hK F' (H.num (fun k hk14 => ?_) (useN_ne (by decide) (by decide) (by decide)) (useN_ne (by decide) (by decide) (by decide)) (by rw [useN_ne (by decide) (by decide) (by decide)]; exact Nat.le_refl _)) (fun k k6 k7 k8 => by rw [hk k k8, upd_ne k7, upd_ne k6])
    by_cases k8 : k = 8
    · subst k8; exact h8
    · rw [hk _ (by omega)]
      by_cases k7 : k = 7
      · subst k7; exact upd_eq
      · rw [upd_ne (by omega)]
        by_cases k6 : k = 6
        · subst k6; exact upd_eq
        · rw [upd_ne (by omega), useN_ne k6 k7 k8]; exact H.n k hk14
  by_cases hb : brkN x h j = true
  · rw [if_pos hb]
    refine ⟨fun c => absurd c (by decide), fun _ => ⟨vp_in_nI (by omega) (by omega), ?_⟩⟩
    have h4 : h j 1 < 4 := by simp [brkN] at hb; exact hb.1
    rw [nI_clamp (n := j) (by omega), show R 116 j = oaV (h j 1) from r16, oa_n h4, shl_k _ (by omega), upd_ne (by decide), upd_ne (by decide), e8, nI_or _ _ (by omega) (Nat.pow_lt_pow_right (by omega) (by omega))]
    exact fin _ (by rw [upd_eq]; show _ = nI (if brkN x h j then _ else _); rw [if_pos hb]) (fun k hk => upd_ne hk)
  · rw [if_neg hb]
    refine ⟨fun _ => ?_, fun c => absurd rfl c⟩
    exact fin _ (by rw [upd_ne (by decide), upd_ne (by decide), e8]; show _ = nI (if brkN x h j then _ else _); rw [if_neg hb]) (fun k hk => rfl)
theorem C_isUsed {F : FT} {R : RT} {J : JT} {P : PT} {B : BT} {s j : Nat} (hs : s < 64) (hj : j < 6) (e6 : F 106 = nI s) {K : Int32 → FT → RT → JT → PT → BT → Prop} (hK : K (if s.testBit j then 1 else 0) F R J P B) : qS_isUsed F R J P B (nI j) K := by
  unfold qS_isUsed
  rw [e6]
  refine ⟨fun c => ?_, fun c => ?_⟩
  · rw [bit_0 (by omega) (by omega)] at c; simp [c] at hK; exact hK
  · rw [bit_0 (by omega) (by omega)] at c; simp at c; simp [c] at hK; exact hK
theorem M_isUsed {F : FT} {R : RT} {J : JT} {s j : Nat} (hs : s < 64) (hj : j < 6) (e6 : R 0 8 = nI s) {K : Int32 → FT → RT → JT → Prop} (hK : K (if s.testBit j then 1 else 0) F R J) : qM_isUsed F R J (nI j) K := by
  unfold qM_isUsed
  rw [e6]
  refine ⟨fun c => ?_, fun c => ?_⟩
  · rw [bit_1 (by omega) (by omega)] at c; simp at c; simp [c] at hK; exact hK
  · rw [bit_1 (by omega) (by omega)] at c; simp [c] at hK; exact hK
theorem ix_25 {j : Nat} : (25 : Int32) + (2 : Int32) * nI j = nI (25 + 2 * j) := (congrArg (fun z => nI 25 + z) (pk_mul 2 j)).trans (nI_add 25 (2 * j))
theorem ix_26 {j : Nat} : nI (25 + 2 * j) + 1 = nI (26 + 2 * j) := (nI_1 _).trans (congrArg nI (by omega))
theorem M_costOf {F : FT} {R : RT} {J : JT} {j : Nat} (hj : j < 6) {K : Int32 → FT → RT → JT → Prop} (hK : K (R 0 (25 + 2 * j)) F R J) : qM_costOf F R J (nI j) K := by
  unfold qM_costOf
  rw [ix_25, nI_clamp (n := 25 + 2 * j) (by omega)]
  exact ⟨vp_in_nI (by omega) (by omega), hK⟩
theorem M_oathOf {F : FT} {R : RT} {J : JT} {j : Nat} (hj : j < 6) {K : Int32 → FT → RT → JT → Prop} (hK : K (R 0 (26 + 2 * j)) F R J) : qM_oathOf F R J (nI j) K := by
  unfold qM_oathOf
  rw [ix_25, ix_26, nI_clamp (n := 26 + 2 * j) (by omega)]
  exact ⟨vp_in_nI (by omega) (by omega), hK⟩
theorem M_brk {F : FT} {R : RT} {J : JT} {x : Nat → Nat} {h : Nat → Nat → Nat} {j : Nat} (hj : j < 6) (ho : h j 1 ≤ 4) (h9 : x 9 < 16) (e9 : R 0 11 = nI (x 9)) (e16 : R 0 (26 + 2 * j) = oaV (h j 1)) {K : Int32 → FT → RT → JT → Prop} (hK : K (if brkN x h j then 1 else 0) F R J) : qM_breaks F R J (nI j) K := by
  unfold qM_breaks
  refine M_oathOf hj ?_
  rw [e16]
  by_cases h4 : h j 1 < 4
  · rw [oa_n h4]
    refine ⟨fun c => ?_, fun _ => M_oathOf hj ?_⟩
    · have h1 : (nI (h j 1)).toInt = ((-4 : Int32)).toInt := congrArg Int32.toInt c
      rw [t_n (by omega)] at h1
      have : ((-4 : Int32)).toInt = -4 := rfl
      omega
    · rw [e16, oa_n h4, e9]
      refine ⟨fun c => ?_, fun c => ?_⟩
      · rw [bit_1 (by omega) (by omega)] at c; simp at c; simp [brkN, c] at hK; exact hK
      · rw [bit_1 (by omega) (by omega)] at c; simp [brkN, c, h4] at hK; exact hK
  · have e4 : h j 1 = 4 := by omega
    rw [e4]
    refine ⟨fun _ => ?_, fun c => absurd rfl c⟩
    simp [brkN, e4] at hK; exact hK
/-- the reference's numbers behind a hindrance that is used -/
theorem MS.use {x : Nat → Nat} {b h p : Nat → Nat → Nat} {n u : Nat → Int32} {nu : Int32} (A : AOK x b h p) (M : MS x b h p n u nu) {j : Nat} (hj : j < x 12) (hnu : (x 6).testBit j = false) : MS (useN x h j) b h p (upd (upd (upd n 8 (nI (x 6 ||| 2 ^ j))) 9 (nI (cst h (x 12) (x 7) + h j 0))) 10 (nI (useN x h j 8))) u nu := by
  have a1 := A.1
  have h7 : (x 7).testBit j = false := by
    cases hq : (x 7).testBit j with
    | false => rfl
    | true => rw [A.2.2.2.2.2.1 j hq] at hnu; cases hnu
  obtain ⟨⟨m1, m1a, m1b, m1c⟩, m2, m3, m4, m5⟩ := M
  have n13 : useN x h j 13 = x 13 := useN_ne (by decide) (by decide) (by decide)
  have n12 : useN x h j 12 = x 12 := useN_ne (by decide) (by decide) (by decide)
  have n11 : useN x h j 11 = x 11 := useN_ne (by decide) (by decide) (by decide)
  refine ⟨⟨fun k hk hk7 => ?_, ?_, ?_, ?_⟩, fun k hk => ?_, fun k hk => ?_, by rw [n13]; exact m4, by rw [n13, n12]; exact m5⟩
  · by_cases k8 : k = 8
    · subst k8; exact upd_eq
    · rw [upd_ne (by omega), upd_ne (by omega)]
      by_cases k6 : k = 6
      · subst k6; exact upd_eq
      · rw [upd_ne (by omega), useN_ne k6 hk7 k8]; exact m1 k hk hk7
  · rw [upd_ne (by decide), upd_ne (by decide), upd_ne (by decide), n11]; exact m1a
  · rw [upd_ne (by decide), upd_ne (by decide), upd_ne (by decide), n12]; exact m1b
  · rw [upd_ne (by decide), upd_eq, n12, show useN x h j 7 = x 7 ||| 2 ^ j from rfl, cst_or h h7, if_pos hj]
  · rw [n11] at hk
    rw [upd_ne (by omega), upd_ne (by omega), upd_ne (by omega), upd_ne (by omega), upd_ne (by omega), upd_ne (by omega), upd_ne (by omega), upd_ne (by omega), upd_ne (by omega)]
    exact m2 k hk
  · rw [n12] at hk
    rw [upd_ne (by omega), upd_ne (by omega), upd_ne (by omega), upd_ne (by omega), upd_ne (by omega), upd_ne (by omega)]
    exact m3 k hk
