/-! ===== the pure part: mean, the reference; mean ===== -/
section RM
variable {x : Nat → Nat} {b h p : Nat → Nat → Nat} {F : FT} {R : RT} {J : JT}
theorem M_sh36 (A : AOK x b h p) (M : MS x b h p (R 0) (R 8) (F 9)) (hfa : F 1 = -1) {k l co : Nat} (hk : k ≤ 6) (hl : l ≤ x 0) (hco : co = if k = 0 then (cst h (x 12) (x 7)) else 0) {v : Nat → Nat} (hv : v l ≤ 1000000) (hv0 : v l ≠ 0) (hV : R 11 l = nI (v l)) {k24 : FT → RT → JT → Int32 → Int32 → Prop} {K : FT → RT → JT → Prop} {w n : Nat} (hw : w < 3) {R1 : RT} {g : Nat → Nat} (hg : ∀ t, t < 201 → R1 12 t = nI (g t)) (f1 : ∀ k, k ≠ 12 → R1 k = R k) (hk36 : ∀ R2, (∀ t, t < 201 → R2 12 t = nI (g t + (if (bhN (x 0) (suN b w l 99 0 (x 11)) l co) = t then v l * owN (x 2) (x 3) w else 0))) → (∀ k, k ≠ 12 → R2 k = R k) → qM_shares_36 n k24 F R2 J (nI k) (nI l) (nI (w + 1)) K) : qM_shares_36 (n + 1) k24 F R1 J (nI k) (nI l) (nI w) K := by
  have a1 := A.1
  have ac := Acst A (x 7)
  have M1 : MS x b h p (R1 0) (R1 8) (F 9) := by rw [f1 0 (by decide), f1 8 (by decide)]; exact M
  have g4 : R1 0 4 = nI (x 2) := M1.1.1 2 (by decide) (by decide)
  have g5 : R1 0 5 = nI (x 3) := M1.1.1 3 (by decide) (by decide)
  have g9 : R1 0 9 = nI (cst h (x 12) (x 7)) := M1.1.2.2.2
  have v1 : R1 11 l = nI (v l) := by rw [f1 11 (by decide)]; exact hV
  have bb := bhN_ge (st := x 0) (su := suN b w l 99 0 (x 11)) (co := co) hl
  have b117 : ∀ z, z = nI co → ∀ y, y = nI (owN (x 2) (x 3) w) → qM_shares_117 k24 (fun F R J v1 v2 v3 => qM_shares_36 n k24 F R J v1 v2 v3 K) F R1 J (nI k) (nI l) (nI w) y z (nI l) (nI w) K := by
    intro z hz y hy
    subst hz hy
    unfold qM_shares_117
    refine M_behind0 A M1 (by omega) hl (by rw [hco]; split <;> omega) hfa ⟨vp_in_nI (by show (bhN (x 0) (suN b w l 99 0 (x 11)) l co) < 201; omega) (by omega), vp_in_nI (by omega) (by omega), vp_in_nI (by show (bhN (x 0) (suN b w l 99 0 (x 11)) l co) < 201; omega) (by omega), ?_⟩
    show qM_shares_36 n k24 F (va_up R1 12 (upd (R1 12) ((nI (bhN (x 0) (suN b w l 99 0 (x 11)) l co)).toNatClampNeg) (R1 12 ((nI (bhN (x 0) (suN b w l 99 0 (x 11)) l co)).toNatClampNeg) + R1 11 ((nI l).toNatClampNeg) * nI (owN (x 2) (x 3) w)))) J (nI k) (nI l) (nI w + 1) K
    rw [nI_clamp (n := (bhN (x 0) (suN b w l 99 0 (x 11)) l co)) (by omega), nI_clamp (n := l) (by omega), v1, nI_1]
    refine hk36 _ (fun t ht => ?_) (fun j hj => by rw [vu_ne hj, f1 j hj])
    rw [vu_eq]
    exact ad_1 (r := (bhN (x 0) (suN b w l 99 0 (x 11)) l co)) (c := v l * owN (x 2) (x 3) w) hg (by omega) rfl (pk_mul (v l) (owN (x 2) (x 3) w)) t ht
  have b93 : ∀ y, y = nI (owN (x 2) (x 3) w) → qM_shares_93 k24 (fun F R J v1 v2 v3 => qM_shares_36 n k24 F R J v1 v2 v3 K) F R1 J (nI k) (nI l) (nI w) y K := by
    intro y hy
    unfold qM_shares_93
    rw [g9]
    exact And.symm (pk_eq k 0 (fun e => b117 _ (by rw [hco, if_pos e]) y hy) (fun e => b117 _ (by rw [hco, if_neg e]; rfl) y hy))
  unfold qM_shares_36
  rw [nI_clamp (n := l) (by omega), v1, g4, g5, ten_n (by omega)]
  refine pk_le 3 w (fun c => by omega) (fun _ => ⟨vp_in_nI (by omega) (by omega), pk_le (v l) 0 (fun c => by omega) (fun _ => And.symm (pk_eq w 0 (fun e => b93 _ ?_) (fun e => And.symm (pk_eq w 1 (fun e1 => b93 _ ?_) (fun e1 => b93 _ ?_)))))⟩)
  · unfold owN; rw [if_pos e]
  · unfold owN; rw [if_neg e, if_pos e1]
  · unfold owN; rw [if_neg e, if_neg e1]
theorem M_shares (A : AOK x b h p) (M : MS x b h p (R 0) (R 8) (F 9)) (hfa : F 1 = -1) {k co : Nat} (hk : k ≤ 6) (hco : co = if k = 0 then (cst h (x 12) (x 7)) else 0) {v : Nat → Nat} (hv : ∀ t, v t ≤ 1000000) (hV : ∀ t, t < 201 → R 11 t = nI (v t)) {K : FT → RT → JT → Prop} (hK : ∀ R', (∀ t, t < 201 → R' 11 t = nI (spN (fun w l => bhN (x 0) (suN b w l 99 0 (x 11)) l co) (owN (x 2) (x 3)) v (x 0 + 1) t)) → (∀ k, k ≠ 11 → k ≠ 12 → R' k = R k) → K F R' J) : qM_shares F R J (nI k) K := by
  have a1 := A.1
  have l147 : ∀ g : Nat → Int32, (∀ t, t < 201 → g t = nI (spN (fun w l => bhN (x 0) (suN b w l 99 0 (x 11)) l co) (owN (x 2) (x 3)) v (x 0 + 1) t)) → ∀ m i R', i + m = 201 → R' 12 = g → (∀ t, t < i → R' 11 t = g t) → (∀ k, k ≠ 11 → k ≠ 12 → R' k = R k) → qM_shares_147 (m + 1) F R' J (nI i) K := by
    intro g hg m
    induction m with
    | zero =>
      intro i R' hi e V f
      have hi : i = 201 := by omega
      subst hi
      unfold qM_shares_147
      exact ⟨fun _ => hK R' (fun t ht => by rw [V t ht, hg t ht]) f, fun c => absurd (by decide) c⟩
    | succ m ih =>
      intro i R' hi e V f
      unfold qM_shares_147
      refine pk_le 201 i (fun c => by omega) (fun _ => ⟨vp_in_nI (by omega) (by omega), vp_in_nI (by omega) (by omega), ?_⟩)
      rw [nI_clamp (n := i) (by omega), nI_1]
      refine ih (i + 1) _ (by omega) (by rw [vu_ne (by decide)]; exact e) (fun t ht => ?_) (fun j q1 q2 => by rw [vu_ne q1, f j q1 q2])
      rw [vu_eq]
      by_cases q : t = i
      · rw [q, upd_eq, e]
      · rw [upd_ne q]; exact V t (by omega)
  have l24 : ∀ m l R', l + m = x 0 + 1 → (∀ t, t < 201 → R' 12 t = nI (spN (fun w l => bhN (x 0) (suN b w l 99 0 (x 11)) l co) (owN (x 2) (x 3)) v l t)) → (∀ k, k ≠ 12 → R' k = R k) → qM_shares_24 (m + 1) F R' J (nI k) (nI l) K := by
    intro m
    induction m with
    | zero =>
      intro l R' hl V f
      have hl : l = x 0 + 1 := by omega
      subst hl
      have g2 : R' 0 2 = nI (x 0) := by rw [f 0 (by decide)]; exact M.1.1 0 (by decide) (by decide)
      unfold qM_shares_24
      exact pk_lt (x 0) (x 0 + 1) (fun _ => ⟨202, l147 (R' 12) V 201 0 R' rfl rfl (fun t ht => absurd ht (Nat.not_lt_zero t)) (fun j _ q2 => f j q2)⟩) (fun c => by omega) g2
    | succ m ih =>
      intro l R' hl V f
      have g2 : R' 0 2 = nI (x 0) := by rw [f 0 (by decide)]; exact M.1.1 0 (by decide) (by decide)
      have hvl := hv l
      have vl : R 11 l = nI (v l) := hV l (by omega)
      have next : ∀ R2, (∀ t, t < 201 → R2 12 t = nI (spN (fun w l => bhN (x 0) (suN b w l 99 0 (x 11)) l co) (owN (x 2) (x 3)) v (l + 1) t)) → (∀ k, k ≠ 12 → R2 k = R k) → qM_shares_139 (fun F R J v1 v2 => qM_shares_24 (m + 1) F R J v1 v2 K) F R2 J (nI k) (nI l) K := by
        intro R2 V2 f2
        unfold qM_shares_139
        rw [nI_1]
        exact ih (l + 1) R2 (by omega) V2 f2
      unfold qM_shares_24
      refine pk_lt (x 0) l (fun c => by omega) (fun _ => ⟨4, ?_⟩) g2
      by_cases v0 : v l = 0
      · unfold qM_shares_36
        refine ⟨fun c => absurd c (by decide), fun _ => ?_⟩
        rw [nI_clamp (n := l) (by omega), f 11 (by decide), vl]
        refine ⟨vp_in_nI (by omega) (by omega), pk_le (v l) 0 (fun _ => next R' (fun t ht => ?_) f) (fun c => by omega)⟩
        rw [V t ht, spN, ct_0 v0, Nat.add_zero]
      · refine M_sh36 A M hfa hk (by omega) hco hvl v0 vl (w := 0) (by omega) V f (fun R2 V2 f2 => ?_)
        refine M_sh36 A M hfa hk (by omega) hco hvl v0 vl (w := 1) (by omega) V2 f2 (fun R3 V3 f3 => ?_)
        refine M_sh36 A M hfa hk (by omega) hco hvl v0 vl (w := 2) (by omega) V3 f3 (fun R4 V4 f4 => ?_)
        unfold qM_shares_36
        refine ⟨fun _ => next R4 (fun t ht => ?_) f4, fun c => absurd (by decide) c⟩
        have ec : ctN (fun w l => bhN (x 0) (suN b w l 99 0 (x 11)) l co) (owN (x 2) (x 3)) v l t = (if (bhN (x 0) (suN b 0 l 99 0 (x 11)) l co) = t then v l * owN (x 2) (x 3) 0 else 0) + (if (bhN (x 0) (suN b 1 l 99 0 (x 11)) l co) = t then v l * owN (x 2) (x 3) 1 else 0) + (if (bhN (x 0) (suN b 2 l 99 0 (x 11)) l co) = t then v l * owN (x 2) (x 3) 2 else 0) := rfl
        rw [V4 t ht, spN, ec]
        exact congrArg nI (by omega)
  have l2 : ∀ m i R', i + m = 201 → (∀ t, t < i → R' 12 t = 0) → (∀ k, k ≠ 12 → R' k = R k) → qM_shares_2 (m + 1) F R' J (nI k) (nI i) K := by
    intro m
    induction m with
    | zero =>
      intro i R' hi V f
      have hi : i = 201 := by omega
      subst hi
      unfold qM_shares_2
      exact ⟨fun _ => ⟨x 0 + 1 + 1, l24 (x 0 + 1) 0 R' (by omega) (fun t ht => V t ht) f⟩, fun c => absurd (by decide) c⟩
    | succ m ih =>
      intro i R' hi V f
      unfold qM_shares_2
      refine pk_le 201 i (fun c => by omega) (fun _ => ⟨vp_in_nI (by omega) (by omega), ?_⟩)
      rw [nI_clamp (n := i) (by omega), nI_1]
      refine ih (i + 1) _ (by omega) (fun t ht => ?_) (fun j hj => by rw [vu_ne hj, f j hj])
      rw [vu_eq]
      by_cases q : t = i
      · rw [q, upd_eq]
      · rw [upd_ne q]; exact V t (by omega)
  exact ⟨202, l2 201 0 R rfl (fun t ht => absurd ht (Nat.not_lt_zero t)) (fun _ _ => rfl)⟩
/-- the answer -/
def meA (wh ab be : Nat) : Int32 := if wh = 0 then nI (ab / Nat.gcd ab be) else nI (be / Nat.gcd ab be)
theorem gcd_b {ab be : Nat} (hb : 1 ≤ be) (hb2 : be ≤ 1000000) : 1 ≤ Nat.gcd ab be ∧ Nat.gcd ab be ≤ 1000000 := ⟨Nat.gcd_pos_of_pos_right _ (by omega), Nat.le_trans (Nat.le_of_dvd (by omega) (Nat.gcd_dvd_right ab be)) hb2⟩
theorem M_mean44 (A : AOK x b h p) (M : MS x b h p (R 0) (R 8) (F 9)) (hfa : F 1 = -1) {n wh : Nat} (hn : n ≤ 6) (hw : wh ≤ 1) {K : Int32 → FT → RT → JT → Prop} (hK : ∀ R', (∀ k, k ≠ 11 → k ≠ 12 → R' k = R k) → K (meA wh (wsN (vN (x 0) (x 5) (cst h (x 12) (x 7)) (x 2) (x 3) (fun w l => suN b w l 99 0 (x 11)) n) (x 0 + 1)) (10 ^ n)) F R' J) : ∃ n44, qM_mean_44 n44 F R J (nI n) (nI wh) (0 : Int32) K := by
  have a1 := A.1
  have tn := ten_6 hn
  have wb := vN_ws (st := x 0) (l0 := x 5) (c0 := (cst h (x 12) (x 7))) (fr := x 2) (th := x 3) (su := (fun w l => suN b w l 99 0 (x 11))) (by omega) (by omega) (by omega) hn
  have we : wsN (vN (x 0) (x 5) (cst h (x 12) (x 7)) (x 2) (x 3) (fun w l => suN b w l 99 0 (x 11)) n) 201 = wsN (vN (x 0) (x 5) (cst h (x 12) (x 7)) (x 2) (x 3) (fun w l => suN b w l 99 0 (x 11)) n) (x 0 + 1) := by
    have := ws_ext (v := (vN (x 0) (x 5) (cst h (x 12) (x 7)) (x 2) (x 3) (fun w l => suN b w l 99 0 (x 11)) n)) (N := x 0 + 1) (fun t ht => vN_high (by omega) n t (by omega)) (200 - x 0)
    rw [show x 0 + 1 + (200 - x 0) = 201 by omega] at this
    exact this
  have l113 : ∀ R', (∀ k, k ≠ 11 → k ≠ 12 → R' k = R k) → (∀ t, t < 201 → R' 11 t = nI (vN (x 0) (x 5) (cst h (x 12) (x 7)) (x 2) (x 3) (fun w l => suN b w l 99 0 (x 11)) n t)) → ∀ m l, l + m = 201 → qM_mean_113 (m + 1) F R' J (nI wh) (nI (10 ^ n)) (nI (wsN (vN (x 0) (x 5) (cst h (x 12) (x 7)) (x 2) (x 3) (fun w l => suN b w l 99 0 (x 11)) n) l)) (nI l) K := by
    intro R' f V m
    induction m with
    | zero =>
      intro l hl
      have hl : l = 201 := by omega
      subst hl
      unfold qM_mean_113
      refine ⟨fun _ => ?_, fun c => absurd (by decide) c⟩
      rw [we]
      have k := hK R' f
      generalize wsN (vN (x 0) (x 5) (cst h (x 12) (x 7)) (x 2) (x 3) (fun w l => suN b w l 99 0 (x 11)) n) (x 0 + 1) = ab at wb k ⊢
      generalize 10 ^ n = be at tn k ⊢
      have gb := gcd_b (ab := ab) tn.2 tn.1
      unfold meA at k
      refine M_gcd gb.1 (by omega) ⟨fun c => ?_, fun c => ?_⟩ be ab be (Nat.le_refl _) (by omega) (by omega) rfl
      · have c : ¬ wh = 0 := fun e => c (by rw [e]; rfl)
        rw [if_neg c] at k
        rw [pk_div (by omega) (by omega) (by omega)]; exact k
      · have c : wh = 0 := (n_eq (b := 0) (by omega) (by omega)).mp c
        rw [if_pos c] at k
        rw [pk_div (by omega) (by omega) (by omega)]; exact k
    | succ m ih =>
      intro l hl
      unfold qM_mean_113
      refine pk_le 201 l (fun c => by omega) (fun _ => ⟨vp_in_nI (by omega) (by omega), ?_⟩)
      rw [nI_clamp (n := l) (by omega), V l (by omega), pk_mul, nI_add, nI_1]
      exact ih (l + 1) (by omega)
  have l84 : ∀ m k R', k + m = n → (∀ k, k ≠ 11 → k ≠ 12 → R' k = R k) → (∀ t, t < 201 → R' 11 t = nI (vN (x 0) (x 5) (cst h (x 12) (x 7)) (x 2) (x 3) (fun w l => suN b w l 99 0 (x 11)) k t)) → qM_mean_84 (m + 1) F R' J (nI n) (nI wh) (nI (10 ^ k)) (nI k) K := by
    intro m
    induction m with
    | zero =>
      intro k R' hk f V
      have hk : k = n := by omega
      subst hk
      unfold qM_mean_84
      exact pk_le k k (fun _ => ⟨202, l113 R' f V 201 0 rfl⟩) (fun c => by omega)
    | succ m ih =>
      intro k R' hk f V
      have M' : MS x b h p (R' 0) (R' 8) (F 9) := by rw [f 0 (by decide) (by decide), f 8 (by decide) (by decide)]; exact M
      unfold qM_mean_84
      refine pk_le n k (fun c => by omega) (fun _ => M_shares A M' hfa (by omega) rfl (fun t => vN_le (by omega) (by omega) (by omega) t) V (fun R2 V2 f2 => ?_))
      rw [nI_1, show nI (10 ^ k) * (10 : Int32) = nI (10 ^ (k + 1)) from (pk_mul (10 ^ k) 10).trans (congrArg nI (Nat.pow_succ 10 k).symm)]
      exact ih (k + 1) R2 (by omega) (fun j q1 q2 => by rw [f2 j q1 q2, f j q1 q2]) V2
  have l44 : ∀ m i R', i + m = 201 → (∀ k, k ≠ 11 → k ≠ 12 → R' k = R k) → (∀ t, t < i → R' 11 t = nI (if t = x 5 then 1 else 0)) → qM_mean_44 (m + 1) F R' J (nI n) (nI wh) (nI i) K := by
    intro m
    induction m with
    | zero =>
      intro i R' hi f V
      have hi : i = 201 := by omega
      subst hi
      unfold qM_mean_44
      exact ⟨fun _ => ⟨n + 1, l84 n 0 R' (by omega) f V⟩, fun c => absurd (by decide) c⟩
    | succ m ih =>
      intro i R' hi f V
      have g7 : R' 0 7 = nI (x 5) := by rw [f 0 (by decide) (by decide)]; exact M.1.1 5 (by decide) (by decide)
      have go : ∀ z y, y = nI z → z = (if i = x 5 then 1 else 0) → qM_mean_72 (fun F R J v1 v2 v3 => qM_mean_44 (m + 1) F R J v1 v2 v3 K) F R' J (nI n) (nI wh) (nI i) y (nI i) K := by
        intro z y hy hz
        subst hy
        unfold qM_mean_72
        rw [nI_clamp (n := i) (by omega), nI_1]
        refine ⟨vp_in_nI (by omega) (by omega), ih (i + 1) _ (by omega) (fun j q1 q2 => by rw [vu_ne q1, f j q1 q2]) (fun t ht => ?_)⟩
        rw [vu_eq]
        by_cases q : t = i
        · rw [q, upd_eq, hz]
        · rw [upd_ne q]; exact V t (by omega)
      unfold qM_mean_44
      refine pk_le 201 i (fun c => by omega) (fun _ => And.symm (pk_eq i (x 5) (fun e => go 1 _ rfl (by rw [if_pos e])) (fun e => go 0 _ rfl (by rw [if_neg e])) rfl g7))
  exact ⟨202, l44 201 0 R rfl (fun _ _ _ => rfl) (fun t ht => absurd ht (Nat.not_lt_zero t))⟩
end RM
section P6
variable {F : FT} {R : RT} {J : JT} {P : PT} {B : BT} {a : Int32} {s : Nat}
theorem six_t : (6 : Int32).toInt = 6 ∧ (6 : Int64).toInt = 6 ∧ (0 : Int32).toInt = 0 ∧ (0 : Int64).toInt = 0 := by decide
theorem w6W_n {K : Int32 → FT → RT → JT → PT → BT → Prop} (h : a.toInt < ((0 : Nat) : Int) ∨ ((6 : Nat) : Int) < a.toInt) (k : K 0 F R J P B) : qW_within F R J P B a (0 : Int32) (6 : Int32) K := wi_n (by have := six_t; omega) k
theorem w6W_y {K : Int32 → FT → RT → JT → PT → BT → Prop} (h : s ≤ 6) (k : K 1 F R J P B) : qW_within F R J P B (nI s) (0 : Int32) (6 : Int32) K := wi_y (by have := six_t; rw [t_n (by omega)]; omega) (by have := six_t; rw [t_n (by omega)]; omega) k
theorem w6M_n {K : Int32 → FT → RT → JT → Prop} (h : a.toInt < ((0 : Nat) : Int) ∨ ((6 : Nat) : Int) < a.toInt) (k : K 0 F R J) : qM_in F R J a.toInt64 (0 : Int64) (6 : Int64) K := mi_n (by have := six_t; omega) k
theorem w6M_y {K : Int32 → FT → RT → JT → Prop} (h : s ≤ 6) (k : K 1 F R J) : qM_in F R J (nI s).toInt64 (0 : Int64) (6 : Int64) K := mi_y (by have := six_t; rw [t_n (by omega)]; omega) (by have := six_t; rw [t_n (by omega)]; omega) k
end P6
theorem T_mean (F : FT) (R : RT) (J : JT) (P : PT) (B : BT) (F0 : FT) (R0 : RT) (J0 : JT) (a1 a2 : Int32) (I : INV F R J P B F0 R0 J0) : qW_mean F R J P B a1 a2 (fun r F R J P B => qM_mean F0 R0 J0 a1 a2 (fun r0 F0 R0 J0 => r = r0 ∧ INV F R J P B F0 R0 J0)) := by
  obtain ⟨x, b, h, p, A, H, M⟩ := id I.1
  have hfa : F0 1 = -1 := I.2.2.2.2
  have ax := A.1
  have ac := Acst A (x 7)
  have e1 : F 101 = nI (x 1) := H.n 1 (by decide)
  have e4 : F 104 = nI (x 4) := H.n 4 (by decide)
  have g3 : R0 0 3 = nI (x 1) := M.1.1 1 (by decide) (by decide)
  have g6 : R0 0 6 = nI (x 4) := M.1.1 4 (by decide) (by decide)
  unfold qW_mean
  rcases rg a1 0 6 with hr | ⟨n, -, hn, rfl⟩
  · refine w6W_n hr ⟨fun _ => ?_, fun c => absurd rfl c⟩
    unfold qM_mean
    exact w6M_n hr ⟨fun _ => ⟨rfl, I⟩, fun c => absurd rfl c⟩
  refine w6W_y hn ⟨fun c => absurd c (by decide), fun _ => ?_⟩
  have es : F 101 - F 104 = nI (x 1 - x 4) := by rw [e1, e4]; exact pk_sub (by omega)
  have gs : R0 0 3 - R0 0 6 = nI (x 1 - x 4) := by rw [g3, g6]; exact pk_sub (by omega)
  have mgo : ∀ K : Int32 → FT → RT → JT → Prop, (x 1 - x 4 < n → K (-1) F0 R0 J0) ∧ (n ≤ x 1 - x 4 → qM_in F0 R0 J0 a2.toInt64 (0 : Int64) (1 : Int64) (fun r4 F4 R4 J4 => (¬ r4 = 0 → (∃ n44, qM_mean_44 n44 F4 R4 J4 (nI n) a2 (0 : Int32) K)) ∧ (r4 = 0 → (K (-1 : Int32) F4 R4 J4)))) → qM_mean F0 R0 J0 (nI n) a2 K := by
    intro K hK
    unfold qM_mean
    exact w6M_y hn ⟨fun c => absurd c (by decide), fun _ => pk_lt (x 1 - x 4) n hK.1 hK.2 gs⟩
  refine pk_lt (x 1 - x 4) n (fun c => mgo _ ⟨fun _ => ⟨rfl, I⟩, fun d => by omega⟩) (fun c => ?_) es
  rcases rg a2 0 1 with hr | ⟨wh, -, hw, rfl⟩
  · exact w1W_n hr ⟨fun c => absurd rfl c, fun _ => mgo _ ⟨fun d => by omega, fun _ => w1M_n hr ⟨fun c => absurd rfl c, fun _ => ⟨rfl, I⟩⟩⟩⟩
  refine w1W_y hw ⟨fun _ => ?_, fun c => absurd c (by decide)⟩
  unfold qO_sumOfLaid
  refine C_costToday A H ?_
  rw [e4, show F 105 = nI (x 5) from H.n 5 (by decide)]
  refine C_lr A H (mo := 0) (by omega) no_f (by omega) (by omega) ac (fun F2 R2 N K2 H2 f2 r2 => C_sm26 N K2 hn (fun R3 f3 => ?_))
  have tn := ten_6 hn
  have wb := vN_ws (st := x 0) (l0 := x 5) (c0 := (cst h (x 12) (x 7))) (fr := x 2) (th := x 3) (su := (fun w l => suN b w l 99 0 (x 11))) (by omega) (by omega) (by omega) hn
  have mm : ∀ r, r = meA wh (wsN (vN (x 0) (x 5) (cst h (x 12) (x 7)) (x 2) (x 3) (fun w l => suN b w l 99 0 (x 11)) n) (x 0 + 1)) (10 ^ n) → qM_mean F0 R0 J0 (nI n) (nI wh) (fun r0 F0 R0 J0 => r = r0 ∧ INV F2 R3 J P B F0 R0 J0) := fun r hr => mgo _ ⟨fun d => by omega, fun _ => w1M_y hw ⟨fun _ => M_mean44 A M hfa hn hw (fun R5 q5 => ⟨hr, I.odds f2 (fun k hk => by rw [f3 k (by omega), r2 k hk]) (fun _ _ => rfl) (fun k _ q1 q2 => q5 k q1 q2)⟩), fun c => absurd c (by decide)⟩⟩
  generalize wsN (vN (x 0) (x 5) (cst h (x 12) (x 7)) (x 2) (x 3) (fun w l => suN b w l 99 0 (x 11)) n) (x 0 + 1) = ab at wb mm ⊢
  have l59 : ∀ m k, k + m = n → qW_mean_59 (m + 1) F2 R3 J P B (nI n) (nI wh) (nI ab) (nI (10 ^ k)) (nI k) (fun r F R J P B => qM_mean F0 R0 J0 (nI n) (nI wh) (fun r0 F0 R0 J0 => r = r0 ∧ INV F R J P B F0 R0 J0)) := by
    intro m
    induction m with
    | zero =>
      intro k hk
      have hk : k = n := by omega
      subst hk
      unfold qW_mean_59
      refine pk_le k k (fun _ => ?_) (fun c => by omega)
      generalize 10 ^ k = be at tn mm ⊢
      have gb := gcd_b (ab := ab) tn.2 tn.1
      unfold qW_commonDivisor
      refine C_gcd 20 ab be 0 (by omega) (by omega) (by omega) (by omega) ?_
      generalize hG : Nat.gcd ab be = G at gb ⊢
      have nG : ¬ nI G = 0 := fun d => by have := (n_eq (b := 0) (by omega) (by omega)).mp d; omega
      rw [pk_div (by omega) (by omega) (by omega), pk_div (by omega) (by omega) (by omega)]
      refine pk_lt 0 G (fun _ => And.symm (pk_eq wh 0 (fun e => ⟨nG, mm _ ?_⟩) (fun e => ⟨nG, mm _ ?_⟩))) (fun c => by omega)
      · unfold meA; rw [if_pos e, hG]
      · unfold meA; rw [if_neg e, hG]
    | succ m ih =>
      intro k hk
      unfold qW_mean_59
      refine pk_le n k (fun c => by omega) (fun _ => ?_)
      rw [nI_1, show nI (10 ^ k) * (10 : Int32) = nI (10 ^ (k + 1)) from (pk_mul (10 ^ k) 10).trans (congrArg nI (Nat.pow_succ 10 k).symm)]
      exact ih (k + 1) (by omega)
  exact ⟨n + 1, l59 n 0 (by omega)⟩
