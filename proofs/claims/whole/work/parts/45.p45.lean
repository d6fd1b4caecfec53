/-! ===== the pure part: sure ===== -/
section PT
variable {F : FT} {R : RT} {J : JT} {P : PT} {B : BT} {a : Int32} {s : Nat}
theorem mln_t : (1000000 : Int32).toInt = 1000000 ∧ (1000000 : Int64).toInt = 1000000 ∧ (0 : Int32).toInt = 0 ∧ (0 : Int64).toInt = 0 := by decide
theorem ptW_n {K : Int32 → FT → RT → JT → PT → BT → Prop} (h : a.toInt < ((0 : Nat) : Int) ∨ ((1000000 : Nat) : Int) < a.toInt) (k : K 0 F R J P B) : qW_within F R J P B a (0 : Int32) (1000000 : Int32) K := wi_n (by have := mln_t; omega) k
theorem ptW_y {K : Int32 → FT → RT → JT → PT → BT → Prop} (h : s ≤ 1000000) (k : K 1 F R J P B) : qW_within F R J P B (nI s) (0 : Int32) (1000000 : Int32) K := wi_y (by have := mln_t; rw [t_n (by omega)]; omega) (by have := mln_t; rw [t_n (by omega)]; omega) k
theorem ptM_n {K : Int32 → FT → RT → JT → Prop} (h : a.toInt < ((0 : Nat) : Int) ∨ ((1000000 : Nat) : Int) < a.toInt) (k : K 0 F R J) : qM_isPart F R J a K := mi_n (by have := mln_t; omega) ⟨isB_0, k⟩
theorem ptM_y {K : Int32 → FT → RT → JT → Prop} (h : s ≤ 1000000) (k : K 1 F R J) : qM_isPart F R J (nI s) K := mi_y (by have := mln_t; rw [t_n (by omega)]; omega) (by have := mln_t; rw [t_n (by omega)]; omega) ⟨isB_1, k⟩
end PT
/-- the first of m days from the i-th on of which g is s or more -/
def sfN (g : Nat → Nat) (s d0 : Nat) : Nat → Nat → Int32
  | 0, _ => -4
  | m + 1, i => if s ≤ g i then nI (d0 + i) else sfN g s d0 m (i + 1)
section SL
variable {st dy fr th d0 l0 c0 : Nat} {su : Nat → Nat → Nat} {F : FT} {R : RT} {J : JT} {P : PT} {B : BT}
theorem C_sure_loop (N : NKb st dy fr th d0 l0 c0 su) (H : RKd st dy fr th d0 l0 c0 su F R) {s : Nat} (hs : s ≤ 1000000) {cr : Nat → Nat} (hk : d0 < dy → cr (dy - d0 - 1) = c0) (h0 : ∀ j, j < dy - d0 - 1 → cr j = 0) {g : Nat → Nat} (hg : g = fun i => od st fr th su cr (dy - d0 - i) (fpN st su l0 c0 i)) {K : Int32 → FT → RT → JT → PT → BT → Prop} (hK : ∀ R', (∀ k, k ≠ 403 → R' k = R k) → K (sfN g s d0 (dy - d0 + 1) 0) F R' J P B) : ∀ i R', d0 + i ≤ dy → (d0 + i < dy → RVl st l0 (fpN st su l0 c0 (i + 1)) (od st fr th su (fun _ => 0) (dy - d0 - i - 1)) (R' 403)) → (d0 + i = dy → RVl st l0 st (od st fr th su (fun _ => 0) 0) (R' 403)) → (∀ k, k ≠ 403 → R' k = R k) → qO_firstSureDay_37 (i + 1) F R' J P B (nI s) (sfN g s d0 (dy - d0 - i) (i + 1)) (nI (d0 + i)) K := by
  obtain ⟨n1, hsu⟩ := id N
  obtain ⟨fo, h1, h2, h3⟩ := id H
  obtain ⟨e7, e8, e9, e10, e11, e12, e13⟩ := id fo
  intro i
  induction i with
  | zero =>
    intro R' hi V V' f
    have ol := od_le (st := st) (su := su) (cr := cr) (show fr + th ≤ 10 by omega) (dy - d0) l0
    have e : sfN g s d0 (dy - d0 + 1) 0 = if s ≤ od st fr th su cr (dy - d0) l0 then nI d0 else sfN g s d0 (dy - d0) 1 := by rw [sfN, hg]; rfl
    have k := hK R' f
    unfold qO_firstSureDay_37
    refine pk_le d0 d0 (fun _ => ?_) (fun c => by omega) rfl e11
    rw [e13]
    refine C_td_o N (H.cg (fun _ _ _ => rfl) ⟨f _ (by decide), f _ (by decide), f _ (by decide)⟩) (v := od st fr th su (fun _ => 0) (dy - d0 - 1)) (Nat.le_refl _) (by omega) (od_le (by omega) _) (fun hd => V hd) ?_
    rw [today_od (cr := cr) (by omega) hk h0]
    rw [e] at k
    refine pk_lt (od st fr th su cr (dy - d0) l0) s (fun c => ?_) (fun c => ?_) rfl rfl (by omega) (by omega)
    · rw [if_neg (by omega)] at k; exact k
    · rw [if_pos c] at k; rw [e11]; exact k
  | succ i ih =>
    intro R' hi V V' f
    have fl := fp_le (su := su) (c0 := c0) (show l0 ≤ st by omega) (i + 1)
    have ol := od_le (st := st) (su := su) (cr := fun _ => 0) (show fr + th ≤ 10 by omega) (dy - d0 - (i + 1)) (fpN st su l0 c0 (i + 1))
    have e : sfN g s d0 (dy - d0 - i) (i + 1) = if s ≤ od st fr th su (fun _ => 0) (dy - d0 - (i + 1)) (fpN st su l0 c0 (i + 1)) then nI (d0 + (i + 1)) else sfN g s d0 (dy - d0 - (i + 1)) (i + 1 + 1) := by
      obtain ⟨q, hq⟩ : ∃ q, q = dy - d0 - (i + 1) := ⟨_, rfl⟩
      rw [← hq, show dy - d0 - i = q + 1 by omega, sfN, hg]
      show (if s ≤ od st fr th su cr (dy - d0 - (i + 1)) (fpN st su l0 c0 (i + 1)) then _ else _) = _
      rw [← hq, od_cg (cr' := fun _ => 0) q (fun j hj => h0 j (by omega))]
    have go : ∀ R2, RVl st l0 (fpN st su l0 c0 (i + 1)) (od st fr th su (fun _ => 0) (dy - d0 - (i + 1))) (R2 403) → (∀ k, k ≠ 403 → R2 k = R k) → qO_firstSureDay_69 (fun F R J P B v2 v3 v4 => qO_firstSureDay_37 (i + 1) F R J P B v2 v3 v4 K) F R2 J P B (nI s) (sfN g s d0 (dy - d0 - (i + 1)) (i + 1 + 1)) (nI (d0 + (i + 1))) K := by
      intro R2 V2 f2
      have ii := ih R2 (by omega) (fun _ => by rw [show dy - d0 - i - 1 = dy - d0 - (i + 1) by omega]; exact V2) (fun c => by omega) f2
      rw [e] at ii
      unfold qO_firstSureDay_69 qO_firstSureDay_88
      rw [nI_clamp (n := d0 + (i + 1)) (by omega), f2 405 (by decide), h3 (i + 1) (by omega), nI_clamp (n := fpN st su l0 c0 (i + 1)) (by omega), V2 _ fl.1 (Or.inl (Nat.le_refl _)), show d0 + (i + 1) = d0 + i + 1 by omega, pk_m1]
      refine ⟨vp_in_nI (by omega) (by omega), vp_in_nI (by omega) (by omega), pk_lt _ s (fun c => ?_) (fun c => ?_) rfl rfl (by omega) (by omega)⟩
      · rw [if_neg (by omega)] at ii; exact ii
      · rw [if_pos c] at ii; exact ii
    unfold qO_firstSureDay_37
    refine pk_le (d0 + (i + 1)) d0 (fun c => by omega) (fun _ => ?_) rfl e11
    refine pk_le dy (d0 + (i + 1)) (fun c => go R' (fun l a1 a2 => ?_) f) (fun c => ?_) e8
    · have := V' (by omega) l a1 (by omega)
      rw [show dy - d0 - (i + 1) = 0 by omega]; exact this
    · refine C_st_ob N (H.cg (fun _ _ _ => rfl) ⟨f _ (by decide), f _ (by decide), f _ (by decide)⟩) (cm := 0) (cr := fun _ => 0) rfl (by omega) (by omega) (by rw [f 401 (by decide)]; exact h2) (V c) (fun R2 V2 f2 => go R2 ?_ (fun k hk => by rw [f2 k hk, f k hk]))
      rw [show dy - d0 - (i + 1) = dy - d0 - (i + 1) - 1 + 1 by omega]
      exact V2
end SL
theorem M_sure_loop {x : Nat → Nat} {b h p : Nat → Nat → Nat} {F : FT} {R : RT} {J : JT} {u : Nat → Int32} {nu : Int32} (A : AOK x b h p) (M : MS x b h p (R 0) u nu) (hf : F 1 = -1) {s : Nat} (hs : s ≤ 1000000) {cr : Nat → Nat} (hR : ∀ t l, x 4 ≤ t → t ≤ x 1 → l ≤ x 0 → R 10 (201 * t + l) = nI (od (x 0) (x 2) (x 3) (fun w l => suN b w l 99 0 (x 11)) cr (x 1 - t) l)) {g : Nat → Nat} (hg : g = fun i => od (x 0) (x 2) (x 3) (fun w l => suN b w l 99 0 (x 11)) cr (x 1 - x 4 - i) (fpN (x 0) (fun w l => suN b w l 99 0 (x 11)) (x 5) (cst h (x 12) (x 7)) i)) {K : Int32 → FT → RT → JT → Prop} : ∀ m i, x 4 + i + m = x 1 + 1 → K (sfN g s (x 4) m i) F R J → qM_sure_32 (m + 1) F R J (nI s) (nI (fpN (x 0) (fun w l => suN b w l 99 0 (x 11)) (x 5) (cst h (x 12) (x 7)) i)) (nI (x 4 + i)) K := by
  have a1 := A.1
  have ac := Acst A (x 7)
  have g3 : R 0 3 = nI (x 1) := M.1.1 1 (by decide) (by decide)
  have g6 : R 0 6 = nI (x 4) := M.1.1 4 (by decide) (by decide)
  have g9 : R 0 9 = nI (cst h (x 12) (x 7)) := M.1.2.2.2
  intro m
  induction m with
  | zero =>
    intro i hi k
    unfold qM_sure_32
    exact pk_lt (x 1) (x 4 + i) (fun _ => k) (fun c => by omega) g3
  | succ m ih =>
    intro i hi k
    have fl := fp_le (su := (fun w l => suN b w l 99 0 (x 11))) (c0 := (cst h (x 12) (x 7))) (show x 5 ≤ x 0 by omega) i
    have ol := od_le (st := x 0) (su := (fun w l => suN b w l 99 0 (x 11))) (cr := cr) (show x 2 + x 3 ≤ 10 by omega) (x 1 - (x 4 + i)) (fpN (x 0) (fun w l => suN b w l 99 0 (x 11)) (x 5) (cst h (x 12) (x 7)) i)
    have ih1 := ih (i + 1) (by omega)
    rw [sfN] at k
    have eg : g i = od (x 0) (x 2) (x 3) (fun w l => suN b w l 99 0 (x 11)) cr (x 1 - (x 4 + i)) (fpN (x 0) (fun w l => suN b w l 99 0 (x 11)) (x 5) (cst h (x 12) (x 7)) i) := by
      rw [hg, show x 1 - (x 4 + i) = x 1 - x 4 - i by omega]
    rw [eg] at k
    unfold qM_sure_32 qM_sure_85
    rw [show (201 : Int32) * nI (x 4 + i) + nI (fpN (x 0) (fun w l => suN b w l 99 0 (x 11)) (x 5) (cst h (x 12) (x 7)) i) = nI (201 * (x 4 + i) + fpN (x 0) (fun w l => suN b w l 99 0 (x 11)) (x 5) (cst h (x 12) (x 7)) i) from (congrArg (fun z => z + nI (fpN (x 0) (fun w l => suN b w l 99 0 (x 11)) (x 5) (cst h (x 12) (x 7)) i)) (pk_mul 201 (x 4 + i))).trans (nI_add _ _), nI_clamp (n := 201 * (x 4 + i) + fpN (x 0) (fun w l => suN b w l 99 0 (x 11)) (x 5) (cst h (x 12) (x 7)) i) (by omega), hR _ _ (by omega) (by omega) fl.2, nI_1]
    refine pk_lt (x 1) (x 4 + i) (fun c => by omega) (fun _ => ⟨vp_in_nI (by omega) (by omega), pk_lt _ s (fun c => ?_) (fun c => ?_) rfl rfl (by omega) (by omega)⟩) g3
    · rw [if_neg (by omega)] at k
      have ih2 := ih1 k
      refine And.symm (pk_eq (x 4 + i) (x 4) (fun e => ?_) (fun e => ?_) rfl g6)
      · have hi0 : i = 0 := by omega
        subst hi0
        rw [g9]
        exact M_behind0 A M (w := 0) (by omega) (by omega) (by omega) hf ih2
      · have e0 : fpN (x 0) (fun w l => suN b w l 99 0 (x 11)) (x 5) (cst h (x 12) (x 7)) (i + 1) = bhN (x 0) (suN b 0 (fpN (x 0) (fun w l => suN b w l 99 0 (x 11)) (x 5) (cst h (x 12) (x 7)) i) 99 0 (x 11)) (fpN (x 0) (fun w l => suN b w l 99 0 (x 11)) (x 5) (cst h (x 12) (x 7)) i) 0 := by
          rw [fpN, if_neg (by omega)]
        rw [e0] at ih2
        exact M_behind0 A M (w := 0) (co := 0) (by omega) (by omega) (by omega) hf ih2
    · rw [if_pos c] at k; exact k
theorem T_sure (F : FT) (R : RT) (J : JT) (P : PT) (B : BT) (F0 : FT) (R0 : RT) (J0 : JT) (a1 : Int32) (I : INV F R J P B F0 R0 J0) : qW_sure F R J P B a1 (fun r F R J P B => qM_sure F0 R0 J0 a1 (fun r0 F0 R0 J0 => r = r0 ∧ INV F R J P B F0 R0 J0)) := by
  obtain ⟨x, b, h, p, A, H, M⟩ := id I.1
  have hfa : F0 1 = -1 := I.2.2.2.2
  have ax := A.1
  have ac := Acst A (x 7)
  unfold qW_sure
  rcases rg a1 0 1000000 with hr | ⟨s, -, hs, rfl⟩
  · refine ptW_n hr ⟨fun c => absurd rfl c, fun _ => ?_⟩
    unfold qM_sure
    exact ptM_n hr ⟨fun c => absurd rfl c, fun _ => ⟨rfl, I⟩⟩
  refine ptW_y hs ⟨fun _ => ?_, fun c => absurd c (by decide)⟩
  have ct := fun hd => cr_top (dy := x 1) (d0 := x 4) (c0 := (cst h (x 12) (x 7))) (me := 0) (se := -1) hd (by omega) (fun t ht e => absurd e (m1_ne t ht))
  unfold qO_firstSureDay
  refine C_costToday A H ?_
  rw [show F 104 = nI (x 4) from H.n 4 (by decide), show F 105 = nI (x 5) from H.n 5 (by decide)]
  refine C_lr A H (mo := 0) (by omega) no_f (by omega) (by omega) ac (fun F2 R2 N K2 H2 f2 r2 => ?_)
  obtain ⟨e7, e8, e9, e10, e11, e12, e13⟩ := id K2.1
  refine C_start (fr := x 2) (th := x 3) (su := (fun w l => suN b w l 99 0 (x 11))) (cr := fun _ => 0) e7 e12 (by omega) (by omega) (fun R3 V3 f3 => ?_)
  have K3 := K2.cg (F' := F2) (R' := R3) (fun _ _ _ => rfl) ⟨f3 _ (by decide), f3 _ (by decide), f3 _ (by decide)⟩
  rw [e8]
  have go := C_sure_loop N K3 hs (cr := crM (x 1) (nI (x 4)) (-1) (cst h (x 12) (x 7)) 0) (fun hd => by rw [(ct hd).1]; split <;> rfl) (fun j hj => (ct (by omega)).2 j hj) rfl (J := J) (P := P) (B := B) (K := fun r F R J P B => qM_sure F0 R0 J0 (nI s) (fun r0 F0 R0 J0 => r = r0 ∧ INV F R J P B F0 R0 J0)) (fun R4 f4 => ?_) (x 1 - x 4) R3 (by omega) (fun c => by omega) (fun _ => V3) (fun _ _ => rfl)
  · rw [show x 1 - x 4 - (x 1 - x 4) = 0 by omega, show x 4 + (x 1 - x 4) = x 1 by omega] at go
    exact ⟨_, go⟩
  · unfold qM_sure
    refine ptM_y hs ⟨fun _ => ?_, fun c => absurd c (by decide)⟩
    refine M_oddsBy A M (fa := 99) (mo := 0) (me := 0) (by omega) (by rw [hfa]; exact no_f) (fun c => by omega) (by omega) (fun R5 q1 q2 => ?_)
    have M5 : MS x b h p (R5 0) (R5 8) (F0 9) := by rw [q2 0 (by decide), q2 8 (by decide)]; exact M
    rw [show R5 0 7 = nI (x 5) from M5.1.1 5 (by decide) (by decide), show R5 0 6 = nI (x 4) from M5.1.1 4 (by decide) (by decide)]
    exact ⟨_, M_sure_loop A M5 hfa hs q1 rfl (x 1 - x 4 + 1) 0 (by omega) ⟨rfl, I.odds f2 (fun k hk => by rw [f4 k (by omega), f3 k (by omega), r2 k hk]) (fun _ _ => rfl) (fun k h10 _ _ => q2 k h10)⟩⟩
