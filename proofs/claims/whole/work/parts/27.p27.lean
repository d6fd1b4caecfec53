/-! ===== the pure part: what is remembered ===== -/
def rowN (x : Nat → Nat) (j : Nat) : Nat := if j = 0 then x 4 else if j = 1 then x 5 else if j = 2 then x 6 else if j = 3 then x 7 else if j = 4 then x 8 else x 10
/-- the past with what is now behind it: the eight last ones -/
def pastN (x : Nat → Nat) (p : Nat → Nat → Nat) : Nat → Nat → Nat := if x 13 < 8 then va_up p (x 13) (rowN x) else va_up (fun i => p (i + 1)) 7 (rowN x)
def numN (x : Nat → Nat) : Nat → Nat := va_up x 13 (if x 13 < 8 then x 13 + 1 else 8)
theorem AOK.past {x : Nat → Nat} {b h p : Nat → Nat → Nat} (A : AOK x b h p) : AOK (numN x) b h (pastN x p) := by
  obtain ⟨a1, a2, a3, a4, a5, a6, a7⟩ := A
  have n13 : ∀ k, k ≠ 13 → numN x k = x k := fun k hk => vu_ne hk
  have e13 : numN x 13 = if x 13 < 8 then x 13 + 1 else 8 := vu_eq
  have rw_ : rowN x 0 ≤ x 4 ∧ rowN x 1 ≤ x 5 ∧ rowN x 2 < 64 ∧ rowN x 3 < 2 ^ x 12 ∧ rowN x 4 < 16 ∧ rowN x 5 < 2 ^ 31 := by simp [rowN]; omega
  refine ⟨?_, by rw [n13 11 (by decide)]; exact a2, by rw [n13 12 (by decide)]; exact a3, ?_, ?_, by rw [n13 6 (by decide), n13 7 (by decide)]; exact a6, ?_⟩
  · rw [n13 0 (by decide), n13 1 (by decide), n13 2 (by decide), n13 3 (by decide), n13 4 (by decide), n13 5 (by decide), n13 6 (by decide), n13 7 (by decide), n13 8 (by decide), n13 9 (by decide), n13 10 (by decide), n13 11 (by decide), n13 12 (by decide), e13]
    split <;> omega
  · rw [n13 4 (by decide), n13 5 (by decide), n13 12 (by decide), e13]
    intro i hi
    unfold pastN
    by_cases h8 : x 13 < 8
    · rw [if_pos h8] at hi ⊢
      by_cases e : i = x 13
      · subst e; rw [vu_eq]; exact rw_
      · rw [vu_ne e]; exact a4 i (by omega)
    · rw [if_neg h8] at hi ⊢
      by_cases e : i = 7
      · subst e; rw [vu_eq]; exact rw_
      · rw [vu_ne e]; exact a4 (i + 1) (by omega)
  · rw [e13]
    intro i j hij hj
    unfold pastN
    have r0 : rowN x 0 = x 4 := rfl
    have r1 : rowN x 1 = x 5 := rfl
    by_cases h8 : x 13 < 8
    · rw [if_pos h8] at hj ⊢
      by_cases e : j = x 13
      · subst e
        rw [vu_eq, r0, r1]
        by_cases e2 : i = x 13
        · subst e2; rw [vu_eq, r0, r1]; omega
        · rw [vu_ne e2]; have := a4 i (by omega); omega
      · rw [vu_ne e, vu_ne (by omega)]; exact a5 i j hij (by omega)
    · rw [if_neg h8] at hj ⊢
      by_cases e : j = 7
      · subst e
        rw [vu_eq, r0, r1]
        by_cases e2 : i = 7
        · subst e2; rw [vu_eq, r0, r1]; omega
        · rw [vu_ne e2]; have := a4 (i + 1) (by omega); omega
      · rw [vu_ne e, vu_ne (by omega)]; exact a5 (i + 1) (j + 1) (by omega) (by omega)
  · rw [e13]
    intro i k hi
    unfold pastN
    by_cases h8 : x 13 < 8
    · rw [if_pos h8] at hi ⊢
      by_cases e : i = x 13
      · subst e; rw [vu_eq]; exact a6 k
      · rw [vu_ne e]; exact a7 i k (by omega)
    · rw [if_neg h8] at hi ⊢
      by_cases e : i = 7
      · subst e; rw [vu_eq]; exact a6 k
      · rw [vu_ne e]; exact a7 (i + 1) k (by omega)
theorem C_rem31 {x : Nat → Nat} {b h p p0 : Nat → Nat → Nat} {F : FT} {R : RT} {J : JT} {P : PT} {B : BT} (n : Nat) (hn : n < 8) (e13 : F 113 = nI n) (H : ∀ k, k < 13 → F (100 + k) = nI (x k)) (hp : ∀ i j, i < n → j < 6 → R 117 (6 * i + j) = nI (p0 i j)) {K : FT → RT → JT → PT → BT → Prop} (hK : ∀ F' R', F' 113 = nI (n + 1) → (∀ k, k ≠ 113 → F' k = F k) → (∀ k, k ≠ 117 → R' k = R k) → (∀ i j, i < n + 1 → j < 6 → R' 117 (6 * i + j) = nI (va_up p0 n (rowN x) i j)) → K F' R' J P B) : qS_remember_31 F R J P B K := by
  unfold qS_remember_31
  have i0 : F 113 * 6 = nI (6 * n) := by rw [e13]; exact (pk_mul n 6).trans (congrArg nI (by omega))
  have i1 : nI (6 * n) + 1 = nI (6 * n + 1) := nI_1 _
  have i2 : nI (6 * n) + 2 = nI (6 * n + 2) := nI_add _ 2
  have i3 : nI (6 * n) + 3 = nI (6 * n + 3) := nI_add _ 3
  have i4 : nI (6 * n) + 4 = nI (6 * n + 4) := nI_add _ 4
  have i5 : nI (6 * n) + 5 = nI (6 * n + 5) := nI_add _ 5
  rw [i0, i1, i2, i3, i4, i5, nI_clamp (n := 6 * n) (by omega), nI_clamp (n := 6 * n + 1) (by omega), nI_clamp (n := 6 * n + 2) (by omega), nI_clamp (n := 6 * n + 3) (by omega), nI_clamp (n := 6 * n + 4) (by omega), nI_clamp (n := 6 * n + 5) (by omega), e13, nI_1]
  refine ⟨vp_in_nI (by omega) (by omega), vp_in_nI (by omega) (by omega), vp_in_nI (by omega) (by omega), vp_in_nI (by omega) (by omega), vp_in_nI (by omega) (by omega), vp_in_nI (by omega) (by omega), hK _ _ upd_eq (fun k hk => upd_ne hk) (fun k hk => by rw [vu_ne hk, vu_ne hk, vu_ne hk, vu_ne hk, vu_ne hk, vu_ne hk]) (fun i j hi hj => ?_)⟩
  rw [vu_eq]
  have f4 : F 104 = nI (x 4) := H 4 (by omega)
  have f5 : F 105 = nI (x 5) := H 5 (by omega)
  have f6 : F 106 = nI (x 6) := H 6 (by omega)
  have f7 : F 107 = nI (x 7) := H 7 (by omega)
  have f8 : F 108 = nI (x 8) := H 8 (by omega)
  have f10 : F 110 = nI (x 10) := H 10 (by omega)
  by_cases e : i = n
  · subst e
    rw [vu_eq]
    rcases (show j = 0 ∨ j = 1 ∨ j = 2 ∨ j = 3 ∨ j = 4 ∨ j = 5 by omega) with rfl | rfl | rfl | rfl | rfl | rfl
    · rw [upd_ne (by omega), upd_ne (by omega), upd_ne (by omega), upd_ne (by omega), upd_ne (by omega), Nat.add_zero, upd_eq]; exact f4
    · rw [upd_ne (by omega), upd_ne (by omega), upd_ne (by omega), upd_ne (by omega), upd_eq]; exact f5
    · rw [upd_ne (by omega), upd_ne (by omega), upd_ne (by omega), upd_eq]; exact f6
    · rw [upd_ne (by omega), upd_ne (by omega), upd_eq]; exact f7
    · rw [upd_ne (by omega), upd_eq]; exact f8
    · rw [upd_eq]; exact f10
  · rw [vu_ne e, upd_ne (by omega), upd_ne (by omega), upd_ne (by omega), upd_ne (by omega), upd_ne (by omega), upd_ne (by omega)]
    exact hp i j (by omega) hj
theorem C_remember {x : Nat → Nat} {b h p : Nat → Nat → Nat} {F : FT} {R : RT} {J : JT} {P : PT} {B : BT} (A : AOK x b h p) (H : CS 100 x b h p F R P B) {K : FT → RT → JT → PT → BT → Prop} (hK : ∀ F' R', CS 100 (numN x) b h (pastN x p) F' R' P B → (∀ k, k ≠ 113 → F' k = F k) → (∀ k, k ≠ 117 → R' k = R k) → K F' R' J P B) : qS_remember F R J P B K := by
  have a1 := A.1
  have e13 : F 113 = nI (x 13) := H.n 13 (by decide)
  obtain ⟨c1, c2, c3, c4, c5⟩ := H
  have fin : ∀ (n : Nat) (p0 : Nat → Nat → Nat) (F' : FT) (R' : RT), numN x 13 = n + 1 → va_up p0 n (rowN x) = pastN x p → F' 113 = nI (n + 1) → (∀ k, k ≠ 113 → F' k = F k) → (∀ k, k ≠ 117 → R' k = R k) → (∀ i j, i < n + 1 → j < 6 → R' 117 (6 * i + j) = nI (va_up p0 n (rowN x) i j)) → K F' R' J P B := by
    intro n p0 F' R' hn hp h1 h2 h3 h4
    refine hK F' R' ⟨fun k hk => ?_, fun k hk => ?_, c3, fun k hk => ?_, fun i j hi hj => ?_⟩ h2 h3
    · by_cases e : k = 13
      · subst e; rw [hn]; exact h1
      · rw [h2 _ (by omega), show numN x k = x k from vu_ne e]; exact c1 k hk
    · exact c2 k (by rw [show numN x 11 = x 11 from vu_ne (by decide)] at hk; exact hk)
    · rw [h3 _ (by omega), h3 _ (by omega)]; exact c4 k (by rw [show numN x 12 = x 12 from vu_ne (by decide)] at hk; exact hk)
    · rw [← hp]; exact h4 i j (by rw [← hn]; exact hi) hj
  refine ⟨fun c => ?_, fun c => ?_⟩
  · rw [e13] at c
    have c : x 13 < 8 := (n_lt (a := x 13) (b := 8) (by omega) (by omega)).mp c
    exact C_rem31 (x := x) (p := p) (b := b) (h := h) (x 13) c e13 (fun k hk => c1 k (by omega)) c5 (fun F' R' h1 h2 h3 h4 => fin (x 13) p F' R' (by rw [numN, vu_eq, if_pos c]) (by rw [pastN, if_pos c]) h1 h2 h3 h4)
  · rw [e13] at c
    have c : ¬ x 13 < 8 := fun d => c ((n_lt (a := x 13) (b := 8) (by omega) (by omega)).mpr d)
    have c8 : x 13 = 8 := by omega
    refine C_rem31 (x := x) (p := p) (b := b) (h := h) (p0 := fun i => p (i + 1)) 7 (by omega) upd_eq (fun k hk => by rw [upd_ne (by omega)]; exact c1 k (by omega)) (fun i j hi hj => ?_) (fun F' R' h1 h2 h3 h4 => fin 7 (fun i => p (i + 1)) F' R' (by rw [numN, vu_eq, if_neg c]) ?_ h1 (fun k hk => by rw [h2 k hk, upd_ne hk]) (fun k hk => by rw [h3 k hk, vu_ne hk]) h4)
    · rw [vu_eq, pk_cpy_in (by exact Nat.zero_le _) (by show 6 * i + j < 0 + 42; omega)]
      show R 117 (6 + (6 * i + j - 0)) = _
      rw [show 6 + (6 * i + j - 0) = 6 * (i + 1) + j by omega]
      exact c5 (i + 1) j (by omega) hj
    · rw [pastN, if_neg c]
/-! the reference's side -/
def wrN (n : Nat) (now u : Nat → Int32) (k : Nat) : Nat → Int32 := fun j => if 6 * n ≤ j ∧ j < 6 * n + k then now (6 + (j - 6 * n)) else u j
theorem M_n47 {F : FT} {R : RT} {J : JT} {n : Nat} (hn : n < 8) (e9 : F 9 = nI n) {K : FT → RT → JT → Prop} (hK : K (upd F 9 (nI (n + 1))) (va_up R 8 (upd (wrN n (R 0) (R 8) 5) (6 * n + 5) (R 0 12))) J) : ∀ m k, k + m = 5 → ∃ z, qM_notes_47 z F (va_up R 8 (wrN n (R 0) (R 8) k)) J (nI k) K := by
  have i5 : (6 : Int32) * F 9 + 5 = nI (6 * n + 5) := by rw [e9]; exact (congrArg (fun z => z + nI 5) (pk_mul 6 n)).trans (nI_add (6 * n) 5)
  intro m
  induction m with
  | zero =>
    intro k hk
    have hk : k = 5 := by omega
    subst hk
    refine ⟨1, ?_⟩
    unfold qM_notes_47
    refine ⟨fun _ => ?_, fun c => absurd (show (5 : Int32) ≤ nI 5 from (n_le (a := 5) (b := 5) (by omega) (by omega)).mpr (Nat.le_refl 5)) c⟩
    rw [i5, nI_clamp (n := 6 * n + 5) (by omega), vu_eq, vu_ne (by decide), bx_uu, e9, nI_1]
    exact ⟨vp_in_nI (by omega) (by omega), hK⟩
  | succ m ih =>
    intro k hk
    obtain ⟨z, hz⟩ := ih (k + 1) (by omega)
    refine ⟨z + 1, ?_⟩
    unfold qM_notes_47
    have ik : (6 : Int32) * F 9 + nI k = nI (6 * n + k) := by rw [e9]; exact (congrArg (fun z => z + nI k) (pk_mul 6 n)).trans (nI_add (6 * n) k)
    have i6 : (6 : Int32) + nI k = nI (6 + k) := nI_add 6 k
    refine ⟨fun c => ?_, fun _ => ?_⟩
    · have := (n_le (a := 5) (b := k) (by omega) (by omega)).mp c; omega
    · rw [ik, i6, nI_clamp (n := 6 * n + k) (by omega), nI_clamp (n := 6 + k) (by omega), vu_eq, vu_ne (by decide), bx_uu, nI_1]
      refine ⟨vp_in_nI (by omega) (by omega), vp_in_nI (by omega) (by omega), ?_⟩
      have e : upd (wrN n (R 0) (R 8) k) (6 * n + k) (R 0 (6 + k)) = wrN n (R 0) (R 8) (k + 1) := by
        funext j
        unfold upd wrN
        by_cases h1 : j = 6 * n + k
        · subst h1; rw [if_pos rfl, if_pos (by omega), show 6 * n + k - 6 * n = k by omega]
        · rw [if_neg h1]
          by_cases h2 : 6 * n ≤ j ∧ j < 6 * n + k
          · rw [if_pos h2, if_pos (by omega)]
          · rw [if_neg h2, if_neg (by omega)]
      rw [e]
      exact hz
theorem M_n45 {F : FT} {R : RT} {J : JT} {n : Nat} (hn : n < 8) (e9 : F 9 = nI n) {K : FT → RT → JT → Prop} (hK : K (upd F 9 (nI (n + 1))) (va_up R 8 (upd (wrN n (R 0) (R 8) 5) (6 * n + 5) (R 0 12))) J) : qM_notes_45 F R J K := by
  obtain ⟨z, hz⟩ := M_n47 hn e9 hK 5 0 rfl
  refine ⟨z, ?_⟩
  have e : va_up R 8 (wrN n (R 0) (R 8) 0) = R := by
    funext j
    by_cases h : j = 8
    · subst h; rw [vu_eq]; funext t; unfold wrN; rw [if_neg (by omega)]
    · rw [vu_ne h]
  rw [e] at hz
  exact hz
def shN (u : Nat → Int32) (k : Nat) : Nat → Int32 := fun j => if j + 6 < k then u (j + 6) else u j
theorem M_n12 {F : FT} {R : RT} {J : JT} {K : FT → RT → JT → Prop} (hK : qM_notes_45 (upd F 9 7) (va_up R 8 (shN (R 8) 48)) J K) : ∀ m k, k + m = 48 → 6 ≤ k → ∃ z, qM_notes_12 z F (va_up R 8 (shN (R 8) k)) J (nI k) K := by
  intro m
  induction m with
  | zero =>
    intro k hk _
    have hk : k = 48 := by omega
    subst hk
    refine ⟨1, ?_⟩
    unfold qM_notes_12
    exact ⟨fun _ => hK, fun c => absurd (show (48 : Int32) ≤ nI 48 from (n_le (a := 48) (b := 48) (by omega) (by omega)).mpr (Nat.le_refl 48)) c⟩
  | succ m ih =>
    intro k hk h6
    obtain ⟨z, hz⟩ := ih (k + 1) (by omega) (by omega)
    refine ⟨z + 1, ?_⟩
    unfold qM_notes_12
    have ik : nI k - 6 = nI (k - 6) := pk_sub (a := k) (b := 6) h6
    refine ⟨fun c => ?_, fun _ => ?_⟩
    · have := (n_le (a := 48) (b := k) (by omega) (by omega)).mp c; omega
    · rw [ik, nI_clamp (n := k) (by omega), nI_clamp (n := k - 6) (by omega), vu_eq, bx_uu, nI_1]
      refine ⟨vp_in_nI (by omega) (by omega), vp_in_nI (by omega) (by omega), ?_⟩
      have e : upd (shN (R 8) k) (k - 6) (shN (R 8) k k) = shN (R 8) (k + 1) := by
        funext j
        unfold upd shN
        by_cases h1 : j = k - 6
        · subst h1; rw [if_pos rfl, if_neg (by omega), if_pos (by omega), show k - 6 + 6 = k by omega]
        · rw [if_neg h1]
          by_cases h2 : j + 6 < k
          · rw [if_pos h2, if_pos (by omega)]
          · rw [if_neg h2, if_neg (by omega)]
      rw [e]
      exact hz
theorem M_notes {x : Nat → Nat} {b h p : Nat → Nat → Nat} {F : FT} {R : RT} {J : JT} (A : AOK x b h p) (M : MS x b h p (R 0) (R 8) (F 9)) {K : FT → RT → JT → Prop} (hK : ∀ F' R', MS (numN x) b h (pastN x p) (R' 0) (R' 8) (F' 9) → (∀ k, k ≠ 9 → F' k = F k) → (∀ k, k ≠ 8 → R' k = R k) → K F' R' J) : qM_notes F R J K := by
  have a1 := A.1
  obtain ⟨⟨m1, m1a, m1b, m1c⟩, m2, m3, m4, m5⟩ := M
  have n13 : ∀ k, k ≠ 13 → numN x k = x k := fun k hk => vu_ne hk
  have fin : ∀ (n : Nat) (p0 : Nat → Nat → Nat) (F1 : FT) (R1 : RT), n < 8 → numN x 13 = n + 1 → va_up p0 n (rowN x) = pastN x p → F1 9 = nI n → (∀ k, k ≠ 9 → F1 k = F k) → (∀ k, k ≠ 8 → R1 k = R k) → (∀ i, i < n → R1 8 (6 * i) = nI (p0 i 0) ∧ R1 8 (6 * i + 1) = nI (p0 i 1) ∧ R1 8 (6 * i + 2) = nI (p0 i 2) ∧ R1 8 (6 * i + 3) = nI (cst h (x 12) (p0 i 3)) ∧ R1 8 (6 * i + 4) = nI (p0 i 4) ∧ R1 8 (6 * i + 5) = nI (p0 i 5)) → qM_notes_45 F1 R1 J K := by
    intro n p0 F1 R1 hn8 hn hp h1 h2 h3 h4
    have r0 : R1 0 = R 0 := h3 0 (by decide)
    refine M_n45 hn8 h1 (hK _ _ ?_ (fun k hk => by rw [upd_ne hk, h2 k hk]) (fun k hk => by rw [vu_ne hk, h3 k hk]))
    rw [vu_ne (by decide), vu_eq, upd_eq, r0]
    refine ⟨⟨fun j hj hj7 => ?_, ?_, ?_, ?_⟩, ?_, ?_, ?_, fun i hi => ?_⟩
    · rw [n13 j (by omega)]; exact m1 j hj hj7
    · rw [n13 11 (by decide)]; exact m1a
    · rw [n13 12 (by decide)]; exact m1b
    · rw [n13 12 (by decide), n13 7 (by decide)]; exact m1c
    · rw [n13 11 (by decide)]; exact m2
    · rw [n13 12 (by decide)]; exact m3
    · rw [hn]
    · rw [hn] at hi
      rw [n13 12 (by decide), ← hp]
      by_cases e : i = n
      · subst e
        rw [vu_eq]
        have q : ∀ t, t < 5 → upd (wrN i (R 0) (R1 8) 5) (6 * i + 5) (R 0 12) (6 * i + t) = R 0 (6 + t) := by
          intro t ht
          rw [upd_ne (by omega)]
          unfold wrN
          rw [if_pos (by omega), show 6 * i + t - 6 * i = t by omega]
        refine ⟨?_, ?_, ?_, ?_, ?_, ?_⟩
        · exact (q 0 (by omega)).trans (m1 4 (by omega) (by omega))
        · exact (q 1 (by omega)).trans (m1 5 (by omega) (by omega))
        · exact (q 2 (by omega)).trans (m1 6 (by omega) (by omega))
        · exact (q 3 (by omega)).trans m1c
        · exact (q 4 (by omega)).trans (m1 8 (by omega) (by omega))
        · rw [upd_eq]; exact m1 10 (by omega) (by omega)
      · rw [vu_ne e]
        have q : ∀ t, t < 6 → upd (wrN n (R 0) (R1 8) 5) (6 * n + 5) (R 0 12) (6 * i + t) = R1 8 (6 * i + t) := by
          intro t ht
          rw [upd_ne (by omega)]
          unfold wrN
          rw [if_neg (by omega)]
        have q0 : upd (wrN n (R 0) (R1 8) 5) (6 * n + 5) (R 0 12) (6 * i) = R1 8 (6 * i) := q 0 (by omega)
        rw [q0, q 1 (by omega), q 2 (by omega), q 3 (by omega), q 4 (by omega), q 5 (by omega)]
        exact h4 i (by omega)
  refine ⟨fun c => ?_, fun c => ?_⟩
  · have c : x 13 < 8 := by
      have : x 13 ≠ 8 := fun e => c (by rw [m4, e]; rfl)
      omega
    exact fin (x 13) p F R c (by rw [numN, vu_eq, if_pos c]) (by rw [pastN, if_pos c]) m4 (fun k _ => rfl) (fun k _ => rfl) m5
  · rw [m4] at c
    have c := (n_eq (a := x 13) (b := 8) (by omega) (by omega)).mp c
    have c8 : ¬ x 13 < 8 := by omega
    have key : qM_notes_45 (upd F 9 7) (va_up R 8 (shN (R 8) 48)) J K := by
      refine fin 7 (fun i => p (i + 1)) _ _ (by omega) (by rw [numN, vu_eq, if_neg c8]) (by rw [pastN, if_neg c8]) upd_eq (fun k hk => upd_ne hk) (fun k hk => vu_ne hk) (fun i hi => ?_)
      rw [vu_eq]
      have q : ∀ t, t < 6 → shN (R 8) 48 (6 * i + t) = R 8 (6 * (i + 1) + t) := by
        intro t ht
        unfold shN
        rw [if_pos (by omega), show 6 * i + t + 6 = 6 * (i + 1) + t by omega]
      have q0 := q 0 (by omega)
      rw [Nat.add_zero] at q0
      rw [q0, q 1 (by omega), q 2 (by omega), q 3 (by omega), q 4 (by omega), q 5 (by omega)]
      exact m5 (i + 1) (by omega)
    obtain ⟨z, hz⟩ := M_n12 key 42 6 (by omega) (by omega)
    refine ⟨z, ?_⟩
    have e : va_up R 8 (shN (R 8) 6) = R := by
      funext j
      by_cases h : j = 8
      · subst h; rw [vu_eq]; funext t; unfold shN; rw [if_neg (by omega)]
      · rw [vu_ne h]
    rw [e] at hz
    exact hz
