/-! ===== the pure part: odds, oddsAt ===== -/
theorem m1s (v : Int32) : v + (-1) = v - 1 := (Int32.sub_eq_add_neg v 1).symm
/-- what is lost on a day, in the reference's words -/
def csM (fi se : Int32) (lo me t : Nat) : Nat := (if nI t = fi then lo else 0) + (if nI t = se then me else 0)
def crM (dy : Nat) (fi se : Int32) (lo me : Nat) : Nat → Nat := fun m => csM fi se lo me (dy - 1 - m)
section MF
variable {x : Nat → Nat} {b h p : Nat → Nat → Nat} {F : FT} {R : RT} {J : JT} {u : Nat → Int32} {nu : Int32} {fa mo lo me : Nat} {fi se : Int32}
theorem M_fl111 (A : AOK x b h p) (M : MS x b h p (R 0) u nu) (hm : mo ≤ 20) (hf : ∀ k, k < 4 → (nI k = F 1 ↔ k = fa)) (hf2 : fa < 4 → F 2 = nI mo) {t co : Nat} {cr : Nat → Nat} (ht : t < x 1) (hco : co ≤ 200) (hcr : cr (x 1 - t - 1) = co) {k65 : FT → RT → JT → Int32 → Int32 → Int32 → Int32 → Int32 → Int32 → Prop} {v1 v2 v3 v4 v5 : Int32} {K : FT → RT → JT → Prop} (hk : ∀ R', (∀ t' l, t ≤ t' → t' ≤ x 1 → l ≤ x 0 → R' 10 (201 * t' + l) = nI (od (x 0) (x 2) (x 3) (fun w l => suN b w l fa mo (x 11)) cr (x 1 - t') l)) → (∀ k, k ≠ 10 → R' k = R k) → k65 F R' J v1 v2 v3 v4 v5 (nI t + (-1))) : ∀ m l R', l + m = x 0 → (∀ t' l, t + 1 ≤ t' → t' ≤ x 1 → l ≤ x 0 → R' 10 (201 * t' + l) = nI (od (x 0) (x 2) (x 3) (fun w l => suN b w l fa mo (x 11)) cr (x 1 - t') l)) → (∀ i, i < l → R' 10 (201 * t + i) = nI (od (x 0) (x 2) (x 3) (fun w l => suN b w l fa mo (x 11)) cr (x 1 - t) i)) → (∀ k, k ≠ 10 → R' k = R k) → qM_fills_111 (m + 1) k65 F R' J v1 v2 v3 v4 v5 (nI t) (nI co) (nI (201 * (t + 1))) (nI l) K := by
  have a1 := A.1
  have g2 : R 0 2 = nI (x 0) := M.1.1 0 (by decide) (by decide)
  have g4 : R 0 4 = nI (x 2) := M.1.1 2 (by decide) (by decide)
  have g5 : R 0 5 = nI (x 3) := M.1.1 3 (by decide) (by decide)
  have i1 : ∀ l, (201 : Int32) * nI t + nI l = nI (201 * t + l) := fun l => (congrArg (fun z => z + nI l) (pk_mul 201 t)).trans (nI_add _ _)
  have em : x 1 - t = x 1 - t - 1 + 1 := by omega
  intro m
  induction m with
  | zero =>
    intro l R' hl h1 h2 f
    have hl : l = x 0 := by omega
    have f0 : R' 0 = R 0 := f 0 (by decide)
    unfold qM_fills_111
    rw [f0, g2, i1, nI_clamp (n := 201 * t + x 0) (by omega)]
    refine pk_le (x 0) l (fun _ => ⟨vp_in_nI (by omega) (by omega), hk _ (fun t' i q1 q2 q3 => ?_) (fun k hk => by rw [vu_ne hk, f k hk])⟩) (fun c => by omega)
    rw [vu_eq]
    by_cases e : t' = t
    · subst e
      by_cases e2 : i = x 0
      · subst e2; rw [upd_eq, od_st]; rfl
      · rw [upd_ne (by omega)]; exact h2 i (by omega)
    · rw [upd_ne (by omega)]; exact h1 t' i (by omega) q2 q3
  | succ m ih =>
    intro l R' hl h1 h2 f
    have f0 : R' 0 = R 0 := f 0 (by decide)
    have M' : MS x b h p (R' 0) u nu := by rw [f0]; exact M
    have ol := od_le (st := x 0) (su := fun w l => suN b w l fa mo (x 11)) (cr := cr) (show x 2 + x 3 ≤ 10 by omega) (x 1 - t - 1)
    have rd : ∀ w, w < 3 → R' 10 (201 * (t + 1) + bhN (x 0) (suN b w l fa mo (x 11)) l co) = nI (od (x 0) (x 2) (x 3) (fun w l => suN b w l fa mo (x 11)) cr (x 1 - t - 1) (bhN (x 0) (suN b w l fa mo (x 11)) l co)) := by
      intro w hw
      have := h1 (t + 1) (bhN (x 0) (suN b w l fa mo (x 11)) l co) (Nat.le_refl _) (by omega) (bhN_ge (show l ≤ x 0 by omega)).2
      rw [show x 1 - (t + 1) = x 1 - t - 1 by omega] at this
      exact this
    have b0 := bhN_ge (st := x 0) (su := suN b 0 l fa mo (x 11)) (co := co) (show l ≤ x 0 by omega)
    have b1 := bhN_ge (st := x 0) (su := suN b 1 l fa mo (x 11)) (co := co) (show l ≤ x 0 by omega)
    have b2 := bhN_ge (st := x 0) (su := suN b 2 l fa mo (x 11)) (co := co) (show l ≤ x 0 by omega)
    unfold qM_fills_111
    refine pk_le (x 0) l (fun c => by omega) (fun _ => ?_) (by rw [f0]; exact g2)
    refine M_behind A M' (w := 0) (by omega) (by omega) hco hm hf hf2 ?_
    rw [nI_add]
    refine ⟨vp_in_nI (by omega) (by omega), M_behind A M' (w := 1) (by omega) (by omega) hco hm hf hf2 ?_⟩
    rw [nI_add]
    refine ⟨vp_in_nI (by omega) (by omega), M_behind A M' (w := 2) (by omega) (by omega) hco hm hf hf2 ?_⟩
    rw [nI_add]
    refine ⟨vp_in_nI (by omega) (by omega), ?_⟩
    unfold qM_mixed
    rw [nI_clamp (n := 201 * (t + 1) + bhN (x 0) (suN b 0 l fa mo (x 11)) l co) (by omega), nI_clamp (n := 201 * (t + 1) + bhN (x 0) (suN b 1 l fa mo (x 11)) l co) (by omega), nI_clamp (n := 201 * (t + 1) + bhN (x 0) (suN b 2 l fa mo (x 11)) l co) (by omega), rd 0 (by omega), rd 1 (by omega), rd 2 (by omega), f0, g4, g5, ten_n (by omega), mix_n (by omega) (ol _) (ol _) (ol _), i1, nI_clamp (n := 201 * t + l) (by omega), nI_1]
    refine ⟨vp_in_nI (by omega) (by omega), ih (l + 1) _ (by omega) (fun t' i q1 q2 q3 => ?_) (fun i hi => ?_) (fun k hk => by rw [vu_ne hk, f k hk])⟩
    · rw [vu_eq, upd_ne (by omega)]; exact h1 t' i q1 q2 q3
    · rw [vu_eq]
      by_cases e : i = l
      · subst e
        obtain ⟨q, hq1, hq2⟩ : ∃ q, x 1 - t = q + 1 ∧ x 1 - t - 1 = q := ⟨x 1 - t - 1, em, rfl⟩
        rw [hq2] at hcr
        rw [upd_eq, hq2, hq1]
        show _ = nI (if i = x 0 then _ else _)
        rw [if_neg (by omega), hcr]
      · rw [upd_ne (by omega)]; exact h2 i (by omega)
theorem M_fl65 (A : AOK x b h p) (M : MS x b h p (R 0) u nu) (hm : mo ≤ 20) (hf : ∀ k, k < 4 → (nI k = F 1 ↔ k = fa)) (hf2 : fa < 4 → F 2 = nI mo) (hlo : lo ≤ 100) (hme : me ≤ 100) {d : Nat} {K : FT → RT → JT → Prop} (hK : ∀ R', (∀ t l, d ≤ t → t ≤ x 1 → l ≤ x 0 → R' 10 (201 * t + l) = nI (od (x 0) (x 2) (x 3) (fun w l => suN b w l fa mo (x 11)) (crM (x 1) fi se lo me) (x 1 - t) l)) → (∀ k, k ≠ 10 → R' k = R k) → K F R' J) : ∀ n k R', k = d + n → k ≤ x 1 → (∀ t l, k ≤ t → t ≤ x 1 → l ≤ x 0 → R' 10 (201 * t + l) = nI (od (x 0) (x 2) (x 3) (fun w l => suN b w l fa mo (x 11)) (crM (x 1) fi se lo me) (x 1 - t) l)) → (∀ k, k ≠ 10 → R' k = R k) → qM_fills_65 (n + 1) F R' J (nI d) fi (nI lo) se (nI me) (nI k - 1) K := by
  have a1 := A.1
  intro n
  induction n with
  | zero =>
    intro k R' hk hk2 h1 f
    have hk : k = d := by omega
    subst hk
    unfold qM_fills_65
    refine ⟨fun _ => hK R' h1 f, fun c => absurd ?_ c⟩
    rw [t_lt, cnt_t (by omega), t_n (by omega)]; omega
  | succ n ih =>
    intro k R' hk hk2 h1 f
    have ek : k = d + n + 1 := by omega
    have e1 : nI k - 1 = nI (d + n) := by rw [ek]; exact pk_sub (b := 1) (by omega)
    have M' : MS x b h p (R' 0) u nu := by rw [f 0 (by decide)]; exact M
    have i8 : (201 : Int32) * (nI (d + n) + 1) = nI (201 * (d + n + 1)) := by rw [nI_1]; exact pk_mul 201 _
    have go : ∀ c1 c2, c1 + c2 = csM fi se lo me (d + n) → c1 + c2 ≤ 200 → qM_fills_95 (fun F R J v1 v2 v3 v4 v5 v6 => qM_fills_65 (n + 1) F R J v1 v2 v3 v4 v5 v6 K) F R' J (nI d) fi (nI lo) se (nI me) (nI (d + n)) (nI c2) (nI c1) K := by
      intro c1 c2 hc hc2
      unfold qM_fills_95
      rw [nI_add, i8]
      refine ⟨x 0 + 1, M_fl111 A M' hm hf hf2 (cr := crM (x 1) fi se lo me) (by omega) hc2 ?_ (fun R2 q1 q2 => ?_) (x 0) 0 R' (by omega) (fun t' l a b c => h1 t' l (by omega) b c) (fun i hi => absurd hi (Nat.not_lt_zero i)) (fun _ _ => rfl)⟩
      · unfold crM
        rw [show x 1 - 1 - (x 1 - (d + n) - 1) = d + n by omega]
        exact hc.symm
      · rw [m1s]
        exact ih (d + n) R2 rfl (by omega) q1 (fun k hk => by rw [q2 k hk, f k hk])
    unfold qM_fills_65
    rw [e1]
    refine pk_lt (d + n) d (fun c => by omega) (fun _ => ?_)
    unfold qM_fills_82
    refine ⟨fun c => ⟨fun c' => go 0 0 ?_ (by omega), fun c' => go 0 me ?_ (by omega)⟩, fun c => ⟨fun c' => go lo 0 ?_ (by omega), fun c' => go lo me ?_ (by omega)⟩⟩
    · unfold csM; rw [if_neg c, if_neg c']
    · unfold csM; rw [if_neg c, if_pos c']
    · unfold csM; rw [if_pos c, if_neg c']
    · unfold csM; rw [if_pos c, if_pos c']
theorem M_fills (A : AOK x b h p) (M : MS x b h p (R 0) u nu) (hm : mo ≤ 20) (hf : ∀ k, k < 4 → (nI k = F 1 ↔ k = fa)) (hf2 : fa < 4 → F 2 = nI mo) (hlo : lo ≤ 100) (hme : me ≤ 100) {d : Nat} (hd : d ≤ x 1) {K : FT → RT → JT → Prop} (hK : ∀ R', (∀ t l, d ≤ t → t ≤ x 1 → l ≤ x 0 → R' 10 (201 * t + l) = nI (od (x 0) (x 2) (x 3) (fun w l => suN b w l fa mo (x 11)) (crM (x 1) fi se lo me) (x 1 - t) l)) → (∀ k, k ≠ 10 → R' k = R k) → K F R' J) : qM_fills F R J (nI d) fi (nI lo) se (nI me) K := by
  have a1 := A.1
  have g2 : R 0 2 = nI (x 0) := M.1.1 0 (by decide) (by decide)
  have g3 : R 0 3 = nI (x 1) := M.1.1 1 (by decide) (by decide)
  have i1 : ∀ l, (201 : Int32) * nI (x 1) + nI l = nI (201 * x 1 + l) := fun l => (congrArg (fun z => z + nI l) (pk_mul 201 (x 1))).trans (nI_add _ _)
  have loop : ∀ m l R', l + m = x 0 + 1 → (∀ i, i < l → R' 10 (201 * x 1 + i) = nI (if i = x 0 then 1000000 else 0)) → (∀ k, k ≠ 10 → R' k = R k) → qM_fills_3 (m + 1) F R' J (nI d) fi (nI lo) se (nI me) (nI l) K := by
    intro m
    induction m with
    | zero =>
      intro l R' hl h1 f
      have f0 : R' 0 = R 0 := f 0 (by decide)
      have M' : MS x b h p (R' 0) u nu := by rw [f0]; exact M
      unfold qM_fills_3
      rw [f0, g3]
      refine pk_lt (x 0) l (fun _ => ⟨x 1 - d + 1, M_fl65 A M' hm hf hf2 hlo hme (fun R2 q1 q2 => hK R2 q1 (fun k hk => by rw [q2 k hk, f k hk])) (x 1 - d) (x 1) R' (by omega) (Nat.le_refl _) (fun t i q1 q2 q3 => ?_) (fun _ _ => rfl)⟩) (fun c => by omega) g2
      have e : t = x 1 := by omega
      subst e
      rw [h1 i (by omega), show x 1 - x 1 = 0 by omega]; rfl
    | succ m ih =>
      intro l R' hl h1 f
      have f0 : R' 0 = R 0 := f 0 (by decide)
      unfold qM_fills_3 qM_fills_48
      rw [f0, g2, g3, i1, nI_clamp (n := 201 * x 1 + l) (by omega), nI_1]
      have nx : ∀ v, v = (if l = x 0 then 1000000 else 0) → vp_in (nI (201 * x 1 + l)) 8241 ∧ qM_fills_3 (m + 1) F (va_up R' 10 (upd (R' 10) (201 * x 1 + l) (nI v))) J (nI d) fi (nI lo) se (nI me) (nI (l + 1)) K := by
        intro v hv
        refine ⟨vp_in_nI (by omega) (by omega), ih (l + 1) _ (by omega) (fun i hi => ?_) (fun k hk => by rw [vu_ne hk, f k hk])⟩
        rw [vu_eq]
        by_cases e : i = l
        · subst e; rw [upd_eq, hv]
        · rw [upd_ne (by omega)]; exact h1 i (by omega)
      refine pk_lt (x 0) l (fun c => by omega) (fun _ => And.symm (pk_eq l (x 0) (fun e => nx 1000000 (by rw [if_pos e])) (fun e => nx 0 (by rw [if_neg e]))))
  exact ⟨x 0 + 1 + 1, loop (x 0 + 1) 0 R (by omega) (fun i hi => absurd hi (Nat.not_lt_zero i)) (fun _ _ => rfl)⟩
theorem M_oddsBy (A : AOK x b h p) (M : MS x b h p (R 0) u nu) (hm : mo ≤ 20) (hf : ∀ k, k < 4 → (nI k = F 1 ↔ k = fa)) (hf2 : fa < 4 → F 2 = nI mo) (hme : me ≤ 100) {K : Int32 → FT → RT → JT → Prop} (hK : ∀ R', (∀ t l, x 4 ≤ t → t ≤ x 1 → l ≤ x 0 → R' 10 (201 * t + l) = nI (od (x 0) (x 2) (x 3) (fun w l => suN b w l fa mo (x 11)) (crM (x 1) (nI (x 4)) se (cst h (x 12) (x 7)) me) (x 1 - t) l)) → (∀ k, k ≠ 10 → R' k = R k) → K (nI (od (x 0) (x 2) (x 3) (fun w l => suN b w l fa mo (x 11)) (crM (x 1) (nI (x 4)) se (cst h (x 12) (x 7)) me) (x 1 - x 4) (x 5))) F R' J) : qM_oddsBy F R J se (nI me) K := by
  have a1 := A.1
  have ac := Acst A (x 7)
  have g6 : R 0 6 = nI (x 4) := M.1.1 4 (by decide) (by decide)
  have g7 : R 0 7 = nI (x 5) := M.1.1 5 (by decide) (by decide)
  have g9 : R 0 9 = nI (cst h (x 12) (x 7)) := M.1.2.2.2
  unfold qM_oddsBy
  rw [g6, g9]
  refine M_fills A M hm hf hf2 (by omega) hme (by omega) (fun R' q1 q2 => ?_)
  rw [q2 0 (by decide), g6, g7, show (201 : Int32) * nI (x 4) + nI (x 5) = nI (201 * x 4 + x 5) from (congrArg (fun z => z + nI (x 5)) (pk_mul 201 (x 4))).trans (nI_add _ _), nI_clamp (n := 201 * x 4 + x 5) (by omega), q1 _ _ (Nat.le_refl _) (by omega) (by omega)]
  exact ⟨vp_in_nI (by omega) (by omega), hK R' q1 q2⟩
end MF
/-- the costs that the class knows of: today's -/
theorem cr_top {dy d0 c0 me : Nat} {se : Int32} (hd : d0 < dy) (hdy : dy ≤ 40) (hse : ∀ t, t ≤ 40 → nI t = se → t = d0) : crM dy (nI d0) se c0 me (dy - d0 - 1) = c0 + (if nI d0 = se then me else 0) ∧ ∀ j, j < dy - d0 - 1 → crM dy (nI d0) se c0 me j = 0 := by
  refine ⟨?_, fun j hj => ?_⟩
  · unfold crM csM
    rw [show dy - 1 - (dy - d0 - 1) = d0 by omega, if_pos rfl]
  · unfold crM csM
    rw [if_neg (fun e => by have := (n_eq (by omega) (by omega)).mp e; omega), if_neg (fun e => by have := hse _ (by omega) e; omega)]
theorem m1_ne : ∀ t, t ≤ 40 → ¬ nI t = (-1 : Int32) := by decide +kernel
theorem FOd.look {st dy fr th d0 l0 c0 : Nat} {F : FT} (e0 : F 100 = nI st) (e1 : F 101 = nI dy) (e2 : F 102 = nI fr) (e3 : F 103 = nI th) : FOd st dy fr th d0 l0 c0 (upd (upd (upd (upd (upd (upd (upd F 407 (F 100)) 408 (F 101)) 409 (F 102)) 410 (F 103)) 411 (nI d0)) 412 (nI l0)) 413 (nI c0)) := by
  refine ⟨?_, ?_, ?_, ?_, ?_, ?_, upd_eq⟩
  · rw [upd_ne (by decide), upd_ne (by decide), upd_ne (by decide), upd_ne (by decide), upd_ne (by decide), upd_ne (by decide), upd_eq]; exact e0
  · rw [upd_ne (by decide), upd_ne (by decide), upd_ne (by decide), upd_ne (by decide), upd_ne (by decide), upd_eq]; exact e1
  · rw [upd_ne (by decide), upd_ne (by decide), upd_ne (by decide), upd_ne (by decide), upd_eq]; exact e2
  · rw [upd_ne (by decide), upd_ne (by decide), upd_ne (by decide), upd_eq]; exact e3
  · rw [upd_ne (by decide), upd_ne (by decide), upd_eq]
  · rw [upd_ne (by decide), upd_eq]
section CL
variable {x : Nat → Nat} {b h p : Nat → Nat → Nat} {F : FT} {R : RT} {J : JT} {P : PT} {B : BT}
/-- looked and reckoned -/
theorem C_lr (A : AOK x b h p) (H : CS 100 x b h p F R P B) {d0 l0 c0 fa mo : Nat} {vf : Int32} (hm : mo ≤ 20) (hf : ∀ k, k < 4 → (nI k = vf ↔ k = fa)) (hd : d0 ≤ x 1) (hl : l0 ≤ x 0) (hc : c0 ≤ 54) {K : FT → RT → JT → PT → BT → Prop} (hK : ∀ F' R', NKb (x 0) (x 1) (x 2) (x 3) d0 l0 c0 (fun w l => suN b w l fa mo (x 11)) → RKd (x 0) (x 1) (x 2) (x 3) d0 l0 c0 (fun w l => suN b w l fa mo (x 11)) F' R' → CS 100 x b h p F' R' P B → (∀ k, ¬ (407 ≤ k ∧ k ≤ 415) → F' k = F k) → (∀ k, ¬ (400 ≤ k ∧ k ≤ 406) → R' k = R k) → K F' R' J P B) : qO_look F R J P B (nI d0) (nI l0) (nI c0) (fun F2 R2 J2 P2 B2 => qO_reckonLays F2 R2 J2 P2 B2 vf (nI mo) K) := by
  have a1 := A.1
  unfold qO_look
  have fo := FOd.look (d0 := d0) (l0 := l0) (c0 := c0) (H.n 0 (by decide)) (H.n 1 (by decide)) (H.n 2 (by decide)) (H.n 3 (by decide))
  have ff : ∀ k, ¬ (407 ≤ k ∧ k ≤ 413) → upd (upd (upd (upd (upd (upd (upd F 407 (F 100)) 408 (F 101)) 409 (F 102)) 410 (F 103)) 411 (nI d0)) 412 (nI l0)) 413 (nI c0) k = F k := fun k hk => by rw [upd_ne (by omega), upd_ne (by omega), upd_ne (by omega), upd_ne (by omega), upd_ne (by omega), upd_ne (by omega), upd_ne (by omega)]
  generalize upd (upd (upd (upd (upd (upd (upd F 407 (F 100)) 408 (F 101)) 409 (F 102)) 410 (F 103)) 411 (nI d0)) 412 (nI l0)) 413 (nI c0) = F1 at fo ff ⊢
  have N : NKb (x 0) (x 1) (x 2) (x 3) d0 l0 c0 (fun w l => suN b w l fa mo (x 11)) := ⟨by omega, A.su fa hm⟩
  have H1 : CS 100 x b h p F1 R P B := H.cg (fun k hk => ff _ (by omega)) (fun _ _ _ => rfl) rfl (fun _ hz => hz)
  exact C_reckon A H1 hm hf N fo (fun R2 K2 f2 => hK F1 R2 N K2 (H1.cg (fun _ _ => rfl) (fun k a b => f2 _ (by omega) (by omega) (by omega)) rfl (fun _ hz => hz)) (fun k hk => ff k (by omega)) (fun k hk => f2 k (by omega) (by omega) (by omega)))
theorem C_oddsNow (A : AOK x b h p) (H : CS 100 x b h p F R P B) {fa mo : Nat} {vf : Int32} (hm : mo ≤ 20) (hf : ∀ k, k < 4 → (nI k = vf ↔ k = fa)) {K : Int32 → FT → RT → JT → PT → BT → Prop} (hK : ∀ F' R', CS 100 x b h p F' R' P B → (∀ k, ¬ (407 ≤ k ∧ k ≤ 415) → F' k = F k) → (∀ k, ¬ (400 ≤ k ∧ k ≤ 406) → R' k = R k) → K (nI (od (x 0) (x 2) (x 3) (fun w l => suN b w l fa mo (x 11)) (crM (x 1) (nI (x 4)) (-1) (cst h (x 12) (x 7)) 0) (x 1 - x 4) (x 5))) F' R' J P B) : qO_oddsNow F R J P B vf (nI mo) K := by
  have a1 := A.1
  have ac := Acst A (x 7)
  unfold qO_oddsNow
  refine C_costToday A H ?_
  rw [show F 104 = nI (x 4) from H.n 4 (by decide), show F 105 = nI (x 5) from H.n 5 (by decide)]
  refine C_lr A H hm hf (by omega) (by omega) ac (fun F2 R2 N K2 H2 f2 r2 => C_goB N K2 (fun R3 V3 f3 => ?_))
  have K3 := K2.cg (F' := F2) (R' := R3) (fun _ _ _ => rfl) ⟨f3 _ (by decide), f3 _ (by decide), f3 _ (by decide)⟩
  rw [show F2 413 = nI (cst h (x 12) (x 7)) from K2.1.2.2.2.2.2.2]
  refine C_td_o N K3 (v := od (x 0) (x 2) (x 3) (fun w l => suN b w l fa mo (x 11)) (fun _ => 0) (x 1 - x 4 - 1)) (Nat.le_refl _) (by omega) (od_le (by omega) _) V3 ?_
  have ct := fun hd => cr_top (dy := x 1) (d0 := x 4) (c0 := cst h (x 12) (x 7)) (me := 0) (se := -1) hd (by omega) (fun t ht e => absurd e (m1_ne t ht))
  rw [today_od (cr := crM (x 1) (nI (x 4)) (-1) (cst h (x 12) (x 7)) 0) (by omega) (fun hd => by rw [(ct hd).1]; split <;> rfl) (fun j hj => (ct (by omega)).2 j hj)]
  exact hK F2 R3 (H2.cg (fun _ _ => rfl) (fun k a b => f3 _ (by omega)) rfl (fun _ hz => hz)) f2 (fun k hk => by rw [f3 k (by omega), r2 k hk])
end CL
theorem T_odds (F : FT) (R : RT) (J : JT) (P : PT) (B : BT) (F0 : FT) (R0 : RT) (J0 : JT) (I : INV F R J P B F0 R0 J0) : qW_odds F R J P B (fun r F R J P B => qM_odds F0 R0 J0 (fun r0 F0 R0 J0 => r = r0 ∧ INV F R J P B F0 R0 J0)) := by
  obtain ⟨x, b, h, p, A, H, M⟩ := id I.1
  have hfa : F0 1 = -1 := I.2.2.2.2
  unfold qW_odds
  refine C_oddsNow A H (mo := 0) (by omega) no_f (fun F' R' H' f' r' => ?_)
  unfold qM_odds
  exact M_oddsBy A M (fa := 99) (mo := 0) (me := 0) (by omega) (by rw [hfa]; exact no_f) (fun c => by omega) (by omega) (fun R2 q1 q2 => ⟨rfl, I.odds f' r' (fun _ _ => rfl) (fun k h10 _ _ => q2 k h10)⟩)
theorem T_oddsAt (F : FT) (R : RT) (J : JT) (P : PT) (B : BT) (F0 : FT) (R0 : RT) (J0 : JT) (a1 a2 : Int32) (I : INV F R J P B F0 R0 J0) : qW_oddsAt F R J P B a1 a2 (fun r F R J P B => qM_oddsAt F0 R0 J0 a1 a2 (fun r0 F0 R0 J0 => r = r0 ∧ INV F R J P B F0 R0 J0)) := by
  obtain ⟨x, b, h, p, A, H, M⟩ := id I.1
  have hfa : F0 1 = -1 := I.2.2.2.2
  have ax := A.1
  have e0 : F 100 = nI (x 0) := H.n 0 (by decide)
  have e1 : F 101 = nI (x 1) := H.n 1 (by decide)
  have g2 : R0 0 2 = nI (x 0) := M.1.1 0 (by decide) (by decide)
  have g3 : R0 0 3 = nI (x 1) := M.1.1 1 (by decide) (by decide)
  have tx0 : (nI (x 0)).toInt = x 0 := t_n (by omega)
  have tx1 : (nI (x 1)).toInt = x 1 := t_n (by omega)
  unfold qW_oddsAt
  rw [e1]
  rcases rg a1 0 (x 1) with hr | ⟨d, -, hd, rfl⟩
  · refine wi_n (by rw [tx1]; exact hr) ⟨fun _ => ?_, fun c => absurd rfl c⟩
    unfold qM_oddsAt
    rw [g3]
    exact mi_n (by rw [t_64, tx1]; exact hr) ⟨fun _ => ⟨rfl, I⟩, fun c => absurd rfl c⟩
  have td : (nI d).toInt = d := t_n (by omega)
  have z0 : (0 : Int32).toInt = 0 := rfl
  have z06 : (0 : Int64).toInt = 0 := by decide
  refine wi_y (by rw [td, z0]; omega) (by rw [td, tx1]; omega) ⟨fun c => absurd c (by decide), fun _ => ?_⟩
  rw [e0]
  have mgo : ∀ K : Int32 → FT → RT → JT → Prop, qM_in F0 R0 J0 a2.toInt64 (0 : Int64) ((R0 0 2).toInt64) (fun r3 F3 R3 J3 => (¬ r3 = 0 → (qM_fills F3 R3 J3 (nI d) (-1 : Int32) (0 : Int32) (-1 : Int32) (0 : Int32) (fun F5 R5 J5 => (vp_in (((201 : Int32) * nI d) + a2) 8241) ∧ (K (R5 10 ((((201 : Int32) * nI d) + a2).toNatClampNeg)) F5 R5 J5)))) ∧ (r3 = 0 → (K (-1 : Int32) F3 R3 J3))) → qM_oddsAt F0 R0 J0 (nI d) a2 K := by
    intro K hK
    unfold qM_oddsAt
    rw [g3]
    exact mi_y (by rw [td, z06]; omega) (by rw [td, t_64, tx1]; omega) ⟨fun c => absurd c (by decide), fun _ => hK⟩
  rcases rg a2 0 (x 0) with hr | ⟨l, -, hl, rfl⟩
  · refine wi_n (by rw [tx0]; exact hr) ⟨fun c => absurd rfl c, fun _ => mgo _ ?_⟩
    rw [g2]
    exact mi_n (by rw [t_64, tx0]; exact hr) ⟨fun c => absurd rfl c, fun _ => ⟨rfl, I⟩⟩
  have tl : (nI l).toInt = l := t_n (by omega)
  refine wi_y (by rw [tl, z0]; omega) (by rw [tl, tx0]; omega) ⟨fun _ => ?_, fun c => absurd c (by decide)⟩
  unfold qO_oddsFrom
  refine C_lr A H (c0 := 0) (mo := 0) (by omega) no_f hd hl (by omega) (fun F2 R2 N K2 H2 f2 r2 => C_goB N K2 (fun R3 V3 f3 => ?_))
  have K3 := K2.cg (F' := F2) (R' := R3) (fun _ _ _ => rfl) ⟨f3 _ (by decide), f3 _ (by decide), f3 _ (by decide)⟩
  refine C_td_o N K3 (co := 0) (v := od (x 0) (x 2) (x 3) (fun w l => suN b w l 99 0 (x 11)) (fun _ => 0) (x 1 - d - 1)) (Nat.le_refl _) (by omega) (od_le (by omega) _) V3 ?_
  rw [today_od (cr := fun _ => 0) (by omega) (fun _ => rfl) (fun _ _ => rfl)]
  refine mgo _ ?_
  rw [g2]
  refine mi_y (by rw [tl, z06]; omega) (by rw [tl, t_64, tx0]; omega) ⟨fun _ => ?_, fun c => absurd c (by decide)⟩
  refine M_fills A M (fa := 99) (mo := 0) (lo := 0) (me := 0) (by omega) (by rw [hfa]; exact no_f) (fun c => by omega) (by omega) (by omega) hd (fun R5 q1 q2 => ?_)
  rw [show (201 : Int32) * nI d + nI l = nI (201 * d + l) from (congrArg (fun z => z + nI l) (pk_mul 201 d)).trans (nI_add _ _), nI_clamp (n := 201 * d + l) (by omega), q1 d l (Nat.le_refl _) hd hl]
  refine ⟨vp_in_nI (by omega) (by omega), ?_, I.odds f2 (fun k hk => by rw [f3 k (by omega), r2 k hk]) (fun _ _ => rfl) (fun k h10 _ _ => q2 k h10)⟩
  refine congrArg nI (od_cg _ (fun j hj => ?_) _)
  unfold crM csM
  rw [if_neg (m1_ne _ (by omega))]
