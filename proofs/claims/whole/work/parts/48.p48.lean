/-! ===== the pure part: best ===== -/
/-- the first of the least -/
def AMn (g : Nat → Nat) (lo hi t : Nat) : Prop := lo ≤ t ∧ t < hi ∧ (∀ j, lo ≤ j → j < hi → g t ≤ g j) ∧ (∀ j, lo ≤ j → j < t → g t < g j)
theorem AMn.one {g : Nat → Nat} {d hi : Nat} (h : hi = d + 1) : AMn g d hi d := ⟨Nat.le_refl _, by omega, fun j h1 h2 => by rw [show j = d by omega]; exact Nat.le_refl _, fun j h1 h2 => by omega⟩
theorem AMn.dn1 {g : Nat → Nat} {d hi t : Nat} (H : AMn g (d + 1) hi t) (c : g t < g d) : AMn g d hi t := by
  obtain ⟨h1, h2, h3, h4⟩ := H
  refine ⟨by omega, h2, fun j q1 q2 => ?_, fun j q1 q2 => ?_⟩
  · by_cases e : j = d
    · rw [e]; omega
    · exact h3 j (by omega) q2
  · by_cases e : j = d
    · rw [e]; exact c
    · exact h4 j (by omega) q2
theorem AMn.dn2 {g : Nat → Nat} {d hi t : Nat} (H : AMn g (d + 1) hi t) (c : g d ≤ g t) : AMn g d hi d := by
  obtain ⟨h1, h2, h3, h4⟩ := H
  refine ⟨Nat.le_refl _, by omega, fun j q1 q2 => ?_, fun j q1 q2 => by omega⟩
  by_cases e : j = d
  · rw [e]; exact Nat.le_refl _
  · have := h3 j (by omega) q2; omega
theorem AMn.up1 {g : Nat → Nat} {lo d t : Nat} (H : AMn g lo d t) (c : g t ≤ g d) : AMn g lo (d + 1) t := by
  obtain ⟨h1, h2, h3, h4⟩ := H
  refine ⟨h1, by omega, fun j q1 q2 => ?_, h4⟩
  by_cases e : j = d
  · rw [e]; exact c
  · exact h3 j q1 (by omega)
theorem AMn.up2 {g : Nat → Nat} {lo d t : Nat} (H : AMn g lo d t) (c : g d < g t) : AMn g lo (d + 1) d := by
  obtain ⟨h1, h2, h3, h4⟩ := H
  refine ⟨by omega, by omega, fun j q1 q2 => ?_, fun j q1 q2 => ?_⟩
  · by_cases e : j = d
    · rw [e]; exact Nat.le_refl _
    · have := h3 j q1 (by omega); omega
  · have := h3 j q1 (by omega); omega
theorem AMn.uq {g : Nat → Nat} {lo hi t u : Nat} (H : AMn g lo hi t) (H' : AMn g lo hi u) : t = u := by
  obtain ⟨h1, h2, h3, h4⟩ := H
  obtain ⟨k1, k2, k3, k4⟩ := H'
  by_cases c : t < u
  · have := k4 t h1 c; have := h3 u k1 k2; omega
  · by_cases d : u < t
    · have := h4 u k1 d; have := k3 t h1 h2; omega
    · omega
theorem cs_n {t d0 d c0 hc : Nat} (ht : t ≤ 40) (h0 : d0 ≤ 40) (hd : d ≤ 40) : csM (nI d0) (nI d) c0 hc t = (if t = d0 then c0 else 0) + (if t = d then hc else 0) := by
  have h1 : (if nI t = nI d0 then c0 else 0) = (if t = d0 then c0 else 0) := by
    by_cases e : t = d0
    · rw [if_pos e, if_pos (by rw [e])]
    · rw [if_neg e, if_neg (fun q => e ((n_eq (by omega) (by omega)).mp q))]
  have h2 : (if nI t = nI d then hc else 0) = (if t = d then hc else 0) := by
    by_cases e : t = d
    · rw [if_pos e, if_pos (by rw [e])]
    · rw [if_neg e, if_neg (fun q => e ((n_eq (by omega) (by omega)).mp q))]
  unfold csM
  rw [h1, h2]
theorem cr_n {dy d0 d c0 hc m : Nat} (hy : dy ≤ 40) (h0 : d0 ≤ 40) (hd : d ≤ 40) : crM dy (nI d0) (nI d) c0 hc m = (if dy - 1 - m = d0 then c0 else 0) + (if dy - 1 - m = d then hc else 0) := cs_n (by omega) h0 hd
section BE
variable {st dy fr th d0 l0 c0 : Nat} {su : Nat → Nat → Nat} {F : FT} {R : RT} {J : JT} {P : PT} {B : BT}
theorem C_ifH (N : NKb st dy fr th d0 l0 c0 su) (H : RKd st dy fr th d0 l0 c0 su F R) {hc i : Nat} (hi : 1 ≤ i) (hid : d0 + i < dy) (hT : LYr st l0 (fun w l => bhN st (su w l) l hc) (R 402)) (hV : RVl st l0 (fpN st su l0 c0 (i + 1)) (od st fr th su (fun _ => 0) (dy - d0 - (i + 1))) (R 403)) {K : Int32 → FT → RT → JT → PT → BT → Prop} (hK : ∀ R', (∀ k, k ≠ 404 → R' k = R k) → K (nI ((fun d => od st fr th su (crM dy (nI d0) (nI d) c0 hc) (dy - d0) l0) (d0 + i))) F R' J P B) : qO_oddsIfHindered F R J P B (nI (d0 + i)) K := by
  obtain ⟨n1, hsu⟩ := id N
  obtain ⟨fo, h1, h2, h3⟩ := id H
  obtain ⟨e7, e8, e9, e10, e11, e12, e13⟩ := id fo
  obtain ⟨cr, hcr⟩ : ∃ cr, cr = crM dy (nI d0) (nI (d0 + i)) c0 hc := ⟨_, rfl⟩
  have crn : ∀ m, cr m = (if dy - 1 - m = d0 then c0 else 0) + (if dy - 1 - m = d0 + i then hc else 0) := fun m => by rw [hcr]; exact cr_n (by omega) (by omega) (by omega)
  have cr0 : ∀ j, j < dy - d0 - (i + 1) → cr j = 0 := fun j hj => by rw [crn, if_neg (by omega), if_neg (by omega)]
  have crh : cr (dy - d0 - (i + 1)) = hc := by rw [crn, if_neg (by omega), if_pos (by omega), Nat.zero_add]
  have crt : cr (dy - d0 - 1) = c0 := by rw [crn, if_pos (by omega), if_neg (by omega)]; rfl
  have hK2 : ∀ R', (∀ k, k ≠ 404 → R' k = R k) → K (nI (od st fr th su cr (dy - d0) l0)) F R' J P B := by rw [hcr]; exact hK
  have loop : ∀ i' R', i' < i → RVl st l0 (fpN st su l0 c0 (i' + 1)) (od st fr th su cr (dy - d0 - i' - 1)) (R' 404) → (∀ k, k ≠ 404 → R' k = R k) → qO_oddsIfHindered_33 (i' + 1) F R' J P B (nI (d0 + i')) K := by
    intro i'
    induction i' with
    | zero =>
      intro R' hi' V f
      unfold qO_oddsIfHindered_33
      refine pk_le d0 d0 (fun _ => ?_) (fun c => by omega) rfl e11
      rw [e13]
      refine C_td_h N (H.cg (fun _ _ _ => rfl) ⟨f _ (by decide), f _ (by decide), f _ (by decide)⟩) (v := od st fr th su cr (dy - d0 - 1)) (Nat.le_refl _) (by omega) (od_le (by omega) _) (fun _ => V) ?_
      have k := hK2 R' f
      obtain ⟨q, hq1, hq2⟩ : ∃ q, dy - d0 = q + 1 ∧ dy - d0 - 1 = q := ⟨dy - d0 - 1, by omega, rfl⟩
      rw [hq2] at crt
      rw [hq1, od, crt] at k
      rw [hq2, if_pos (show d0 < dy by omega)]
      exact k
    | succ i' ih =>
      intro R' hi' V f
      unfold qO_oddsIfHindered_33
      refine pk_le (d0 + (i' + 1)) d0 (fun c => by omega) (fun _ => C_st_hb N (H.cg (fun _ _ _ => rfl) ⟨f _ (by decide), f _ (by decide), f _ (by decide)⟩) (cm := 0) (cr := cr) ?_ (by omega) (by omega) (by rw [f 401 (by decide)]; exact h2) V (fun R2 V2 f2 => ?_)) rfl e11
      · rw [crn, if_neg (by omega), if_neg (by omega)]
      · rw [show d0 + (i' + 1) = d0 + i' + 1 by omega, pk_m1]
        refine ih R2 (by omega) ?_ (fun k hk => by rw [f2 k hk, f k hk])
        rw [show dy - d0 - i' - 1 = dy - d0 - (i' + 1) - 1 + 1 by omega]
        exact V2
  unfold qO_oddsIfHindered
  have ec : ∀ l, l < 201 → va_cpy (R 403) (R 404) ((0 : Int32).toNatClampNeg) ((0 : Int32).toNatClampNeg) ((201 : Int32).toNatClampNeg) l = R 403 l := fun l hl => by
    rw [show (0 : Int32).toNatClampNeg = 0 by decide, show (201 : Int32).toNatClampNeg = 201 by decide]
    exact sb_cpy0 hl
  generalize va_cpy (R 403) (R 404) ((0 : Int32).toNatClampNeg) ((0 : Int32).toNatClampNeg) ((201 : Int32).toNatClampNeg) = g4 at ec ⊢
  refine C_st_hh N (H.cg (fun _ _ _ => rfl) ⟨vu_ne (by decide), vu_ne (by decide), vu_ne (by decide)⟩) (cm := hc) (cr := cr) (m := dy - d0 - (i + 1)) crh hi (by omega) (by rw [vu_ne (by decide)]; exact hT) (fun l q1 q2 => ?_) (fun R2 V2 f2 => ?_)
  · have fl := fp_le (su := su) (c0 := c0) (show l0 ≤ st by omega) (i + 1)
    rw [vu_eq, ec l (by omega), hV l q1 q2, od_cg (cr' := cr) _ (fun j hj => (cr0 j hj).symm)]
  · obtain ⟨i', rfl⟩ : ∃ i', i = i' + 1 := ⟨i - 1, by omega⟩
    rw [show nI (d0 + (i' + 1)) - (1 : Int32) = nI (d0 + i') from (pk_sub (b := 1) (by omega)).trans (congrArg nI (by omega))]
    refine ⟨i' + 1, loop i' R2 (by omega) ?_ (fun k hk => by rw [f2 k hk, vu_ne hk])⟩
    rw [show dy - d0 - i' - 1 = dy - d0 - (i' + 1 + 1) + 1 by omega]
    exact V2
theorem C_best_loop (N : NKb st dy fr th d0 l0 c0 su) (H : RKd st dy fr th d0 l0 c0 su F R) {hc : Nat} (hh : hc ≤ 100) (hd : d0 < dy) (hT : LYr st l0 (fun w l => bhN st (su w l) l hc) (R 402)) {g : Nat → Nat} (hg : g = (fun d => od st fr th su (crM dy (nI d0) (nI d) c0 hc) (dy - d0) l0)) {K : FT → RT → JT → PT → BT → Prop} (hK : ∀ F' R' t, (∀ k, k ≠ 414 → k ≠ 415 → F' k = F k) → (∀ k, k ≠ 403 → k ≠ 404 → R' k = R k) → AMn g d0 dy t → F' 414 = nI t → F' 415 = nI (g t) → K F' R' J P B) : ∀ n F' R', d0 + n ≤ dy → (∀ k, k ≠ 414 → k ≠ 415 → F' k = F k) → (∀ k, k ≠ 403 → k ≠ 404 → R' k = R k) → (1 ≤ n → RVl st l0 (fpN st su l0 c0 n) (od st fr th su (fun _ => 0) (dy - d0 - n)) (R' 403)) → ((d0 + n = dy ∧ F' 415 = nI 1000000) ∨ ∃ t, AMn g (d0 + n) dy t ∧ F' 414 = nI t ∧ F' 415 = nI (g t)) → qO_findBestDay_58 (n + 1) F' R' J P B (nI hc) (nI (d0 + n) - 1) K := by
  obtain ⟨n1, hsu⟩ := id N
  obtain ⟨fo, h1, h2, h3⟩ := id H
  obtain ⟨e7, e8, e9, e10, e11, e12, e13⟩ := id fo
  have gl : ∀ d, g d ≤ 1000000 := fun d => by rw [hg]; exact od_le (by omega) _ _
  intro n
  induction n with
  | zero =>
    intro F' R' hn f r V S
    unfold qO_findBestDay_58
    refine ⟨fun _ => ?_, fun c => absurd ?_ c⟩
    · rcases S with ⟨s1, -⟩ | ⟨t, s1, s2, s3⟩
      · omega
      · exact hK F' R' t f r s1 s2 s3
    · rw [f 411 (by decide) (by decide), e11, t_lt, cnt_t (by omega), t_n (by omega)]; omega
  | succ n ih =>
    intro F' R' hn f r V S
    have e1 : nI (d0 + (n + 1)) - 1 = nI (d0 + n) := (pk_sub (b := 1) (by omega)).trans (congrArg nI (by omega))
    have K' : ∀ F2 R2, (∀ k, k ≠ 414 → k ≠ 415 → F2 k = F k) → (∀ k, k ≠ 403 → k ≠ 404 → R2 k = R k) → RKd st dy fr th d0 l0 c0 su F2 R2 := fun F2 R2 f2 r2 => H.cg (fun k q1 q2 => f2 k (by omega) (by omega)) ⟨r2 _ (by decide) (by decide), r2 _ (by decide) (by decide), r2 _ (by decide) (by decide)⟩
    have sb : ∀ F2 R2, (∀ k, k ≠ 414 → k ≠ 415 → F2 k = F k) → (∀ k, k ≠ 403 → k ≠ 404 → R2 k = R k) → R2 403 = R' 403 → (∃ t, AMn g (d0 + n) dy t ∧ F2 414 = nI t ∧ F2 415 = nI (g t)) → qO_findBestDay_118 (fun F R J P B v2 v3 => qO_findBestDay_58 (n + 1) F R J P B v2 v3 K) F2 R2 J P B (nI hc) (nI (d0 + n)) K := by
      intro F2 R2 f2 r2 e3 S2
      unfold qO_findBestDay_118
      rw [m1s]
      by_cases n0 : n = 0
      · exact C_st_any N (K' F2 R2 f2 r2) (by omega) (fun R3 f3 => ih F2 R3 (by omega) f2 (fun k q1 q2 => by rw [f3 k q1, r2 k q1 q2]) (fun c => by omega) (Or.inr S2))
      · refine C_st_ob N (K' F2 R2 f2 r2) (cm := 0) (cr := fun _ => 0) (m := dy - d0 - (n + 1)) rfl (by omega) (by omega) (by rw [r2 401 (by decide) (by decide)]; exact h2) (by rw [e3]; exact V (by omega)) (fun R3 V3 f3 => ih F2 R3 (by omega) f2 (fun k q1 q2 => by rw [f3 k q1, r2 k q1 q2]) (fun c => ?_) (Or.inr S2))
        rw [show dy - d0 - n = dy - d0 - (n + 1) + 1 by omega]
        exact V3
    have fin : ∀ R2, (∀ k, k ≠ 403 → k ≠ 404 → R2 k = R k) → R2 403 = R' 403 → qO_findBestDay_96 (fun F R J P B v2 v3 => qO_findBestDay_58 (n + 1) F R J P B v2 v3 K) F' R2 J P B (nI hc) (nI (d0 + n)) (nI (g (d0 + n))) K := by
      intro R2 r2 e3
      have gn := gl (d0 + n)
      have yes : AMn g (d0 + n) dy (d0 + n) → qO_findBestDay_118 (fun F R J P B v2 v3 => qO_findBestDay_58 (n + 1) F R J P B v2 v3 K) (upd (upd F' 415 (nI (g (d0 + n)))) 414 (nI (d0 + n))) R2 J P B (nI hc) (nI (d0 + n)) K := fun am => sb _ R2 (fun k q1 q2 => by rw [upd_ne q1, upd_ne q2, f k q1 q2]) r2 e3 ⟨d0 + n, am, upd_eq, by rw [upd_ne (by decide), upd_eq]⟩
      unfold qO_findBestDay_96
      rcases S with ⟨s1, s2⟩ | ⟨t, s1, s2, s3⟩
      · exact pk_lt 1000000 (g (d0 + n)) (fun c => by omega) (fun _ => yes (AMn.one (by omega))) s2
      · have gt := gl t
        exact pk_lt (g t) (g (d0 + n)) (fun c => sb F' R2 f r2 e3 ⟨t, s1.dn1 c, s2, s3⟩) (fun c => yes (s1.dn2 c)) s3
    have e11' : F' 411 = nI d0 := by rw [f 411 (by decide) (by decide)]; exact e11
    have e13' : F' 413 = nI c0 := by rw [f 413 (by decide) (by decide)]; exact e13
    unfold qO_findBestDay_58
    rw [e1, e13', nI_add]
    refine pk_lt (d0 + n) d0 (fun c => by omega) (fun _ => And.symm (pk_eq (d0 + n) d0 (fun e => ?_) (fun e => ?_) rfl e11')) rfl e11'
    · have n0 : n = 0 := by omega
      subst n0
      refine C_td_o N (K' F' R' f r) (v := od st fr th su (fun _ => 0) (dy - d0 - 1)) (by omega) (by omega) (od_le (by omega) _) (fun _ => V (by omega)) ?_
      have cn := fun m => cr_n (dy := dy) (d0 := d0) (d := d0) (c0 := c0) (hc := hc) (m := m) (by omega) (by omega) (by omega)
      rw [today_od (cr := crM dy (nI d0) (nI d0) c0 hc) (by omega) (fun _ => by rw [cn, if_pos (by omega), if_pos (by omega)]) (fun j hj => by rw [cn, if_neg (by omega), if_neg (by omega)])]
      have := fin R' r rfl
      rw [hg] at this
      exact this
    · refine C_ifH N (K' F' R' f r) (by omega) (by omega) (by rw [r 402 (by decide) (by decide)]; exact hT) (V (by omega)) (fun R2 f2 => ?_)
      have := fin R2 (fun k q1 q2 => by rw [f2 k q2, r k q1 q2]) (f2 403 (by decide))
      rw [hg] at this
      exact this
end BE
theorem cst_1 (h : Nat → Nat → Nat) {n j : Nat} (hj : j < n) : cst h n (2 ^ j) = h j 0 := by
  have := cst_or h (s := 0) (j := j) (Nat.zero_testBit j) n
  rw [Nat.zero_or, cst_0, if_pos hj, Nat.zero_add] at this
  exact this
section BM
variable {x : Nat → Nat} {b h p : Nat → Nat → Nat} {F : FT} {R : RT} {J : JT} {j wh : Nat}
theorem M_best_loop (A : AOK x b h p) (M : MS x b h p (R 0) (R 8) (F 9)) (hfa : F 1 = -1) (hj : j < x 12) (hw : wh ≤ 1) (hd : x 4 < x 1) {g : Nat → Nat} (hg : g = (fun d => od (x 0) (x 2) (x 3) (fun w l => suN b w l 99 0 (x 11)) (crM (x 1) (nI (x 4)) (nI d) (cst h (x 12) (x 7)) (h j 0)) (x 1 - x 4) (x 5))) {K : Int32 → FT → RT → JT → Prop} (hK : ∀ R' t, (∀ k, k ≠ 10 → R' k = R k) → AMn g (x 4) (x 1) t → K (if wh = 0 then nI t else nI (g t)) F R' J) : ∀ m t R' v3 v4, t + m = x 1 → x 4 ≤ t → (∀ k, k ≠ 10 → R' k = R k) → ((t = x 4 ∧ v3 = -4) ∨ ∃ u, AMn g (x 4) t u ∧ v3 = nI u ∧ v4 = nI (g u)) → qM_best_47 (m + 1) F R' J (nI j) (nI wh) v3 v4 (nI t) K := by
  have a1 := A.1
  have gl : ∀ d, g d ≤ 1000000 := fun d => by rw [hg]; exact od_le (by omega) _ _
  intro m
  induction m with
  | zero =>
    intro t R' v3 v4 ht h4 f S
    have ht : t = x 1 := by omega
    subst ht
    have g3 : R' 0 3 = nI (x 1) := by rw [f 0 (by decide)]; exact M.1.1 1 (by decide) (by decide)
    unfold qM_best_47
    refine pk_le (x 1) (x 1) (fun _ => ?_) (fun c => by omega) g3
    rcases S with ⟨s1, -⟩ | ⟨u, s1, s2, s3⟩
    · omega
    · have k := hK R' u f s1
      refine And.symm (pk_eq wh 0 (fun e => ?_) (fun e => ?_))
      · rw [if_pos e] at k; rw [s2]; exact k
      · rw [if_neg e] at k; rw [s3]; exact k
  | succ m ih =>
    intro t R' v3 v4 ht h4 f S
    have M' : MS x b h p (R' 0) (R' 8) (F 9) := by rw [f 0 (by decide), f 8 (by decide)]; exact M
    have g3 : R' 0 3 = nI (x 1) := M'.1.1 1 (by decide) (by decide)
    have a3 := A.2.2.1 j hj
    unfold qM_best_47
    refine pk_le (x 1) t (fun c => by omega) (fun _ => M_costOf (by omega) ?_) g3
    rw [(M'.2.2.1 j hj).1]
    refine M_oddsBy A M' (fa := 99) (mo := 0) (me := h j 0) (by omega) (by rw [hfa]; exact no_f) (fun c => by omega) (by omega) (fun R2 q1 q2 => ?_)
    have f2 : ∀ k, k ≠ 10 → R2 k = R k := fun k hk => by rw [q2 k hk, f k hk]
    have eg : od (x 0) (x 2) (x 3) (fun w l => suN b w l 99 0 (x 11)) (crM (x 1) (nI (x 4)) (nI t) (cst h (x 12) (x 7)) (h j 0)) (x 1 - x 4) (x 5) = g t := by rw [hg]
    rw [eg]
    have gt := gl t
    unfold qM_best_84 qM_best_89 qM_best_102 qM_best_115
    rw [nI_1 t]
    have yes : AMn g (x 4) (t + 1) t → qM_best_47 (m + 1) F R2 J (nI j) (nI wh) (nI t) (nI (g t)) (nI (t + 1)) K := fun am => ih (t + 1) R2 _ _ (by omega) (by omega) f2 (Or.inr ⟨t, am, rfl, rfl⟩)
    rcases S with ⟨s1, s2⟩ | ⟨u, s1, s2, s3⟩
    · have y := yes (by rw [s1]; exact AMn.one rfl)
      exact ⟨fun _ => ⟨fun d => absurd d (by decide), fun _ => ⟨fun d => absurd d (by decide), fun _ => y⟩⟩, fun d => absurd s2 d⟩
    · have gu := gl u
      have hu := s1.2.1
      refine ⟨fun d => by rw [s2] at d; exact absurd d (ne_m4 u (by omega)), fun _ => ?_⟩
      rw [s3]
      refine pk_le (g u) (g t) (fun c => ⟨fun _ => ⟨fun _ => ?_, fun d => absurd rfl d⟩, fun d => absurd rfl d⟩) (fun c => ⟨fun d => absurd d (by decide), fun _ => ⟨fun d => absurd d (by decide), fun _ => yes (s1.up2 c)⟩⟩)
      exact ih (t + 1) R2 _ _ (by omega) (by omega) f2 (Or.inr ⟨u, s1.up1 c, s2, rfl⟩)
end BM
theorem T_best (F : FT) (R : RT) (J : JT) (P : PT) (B : BT) (F0 : FT) (R0 : RT) (J0 : JT) (a1 a2 : Int32) (I : INV F R J P B F0 R0 J0) : qW_best F R J P B a1 a2 (fun r F R J P B => qM_best F0 R0 J0 a1 a2 (fun r0 F0 R0 J0 => r = r0 ∧ INV F R J P B F0 R0 J0)) := by
  obtain ⟨x, b, h, p, A, H, M⟩ := id I.1
  have hfa : F0 1 = -1 := I.2.2.2.2
  have ax := A.1
  have ac := Acst A (x 7)
  have e12 : F 112 = nI (x 12) := H.n 12 (by decide)
  have g8 : R0 0 8 = nI (x 6) := M.1.1 6 (by decide) (by decide)
  unfold qW_best
  rcases rgc a1 (x 12) (by omega) with hr | ⟨j, hj, rfl⟩
  · refine wic_n e12 hr ⟨fun _ => ?_, fun c => absurd rfl c⟩
    unfold qM_best
    exact ih_n M.1.2.2.1 hr ⟨fun _ => ⟨rfl, I⟩, fun c => absurd rfl c⟩
  refine wic_y (by omega) e12 hj ⟨fun c => absurd c (by decide), fun _ => ?_⟩
  rcases rg a2 0 1 with hr | ⟨wh, -, hw, rfl⟩
  · refine w1W_n hr ⟨fun c => absurd rfl c, fun _ => ?_⟩
    unfold qM_best
    exact ih_y (by omega) M.1.2.2.1 hj ⟨fun c => absurd c (by decide), fun _ => w1M_n hr ⟨fun c => absurd rfl c, fun _ => ⟨rfl, I⟩⟩⟩
  have a3 := A.2.2.1 j hj
  have mgo : ∀ K : Int32 → FT → RT → JT → Prop, (((x 6).testBit j = true → K (-2) F0 R0 J0) ∧ ((x 6).testBit j = false → ∃ n47, qM_best_47 n47 F0 R0 J0 (nI j) (nI wh) (-4 : Int32) (-4 : Int32) (R0 0 6) K)) → qM_best F0 R0 J0 (nI j) (nI wh) K := by
    intro K hK
    unfold qM_best
    refine ih_y (by omega) M.1.2.2.1 hj ⟨fun c => absurd c (by decide), fun _ => w1M_y hw ⟨fun _ => M_isUsed (s := x 6) (by omega) (by omega) g8 ?_, fun c => absurd c (by decide)⟩⟩
    cases hu : (x 6).testBit j with
    | true => exact ⟨fun d => absurd d (by decide), fun _ => hK.1 hu⟩
    | false => exact ⟨fun _ => hK.2 hu, fun d => absurd rfl d⟩
  refine w1W_y hw ⟨fun _ => C_isUsed (s := x 6) (by omega) (by omega) (H.n 6 (by decide)) ?_, fun c => absurd c (by decide)⟩
  cases hu : (x 6).testBit j with
  | true => exact ⟨fun d => absurd d (by decide), fun _ => mgo _ ⟨fun _ => ⟨rfl, I⟩, fun c => by rw [hu] at c; exact absurd c (by decide)⟩⟩
  | false =>
    refine ⟨fun _ => C_summer A H ?_, fun d => absurd rfl d⟩
    by_cases hd : x 4 < x 1
    · rw [if_pos hd]
      refine ⟨fun _ => ?_, fun d => absurd rfl d⟩
      rw [shl_k j (by omega)]
      refine C_costOf A H (Nat.pow_lt_pow_right (by omega) (by omega)) ?_
      rw [cst_1 h hj]
      unfold qO_findBestDay
      refine C_costToday A H ?_
      rw [show F 104 = nI (x 4) from H.n 4 (by decide), show F 105 = nI (x 5) from H.n 5 (by decide)]
      refine C_lr A H (mo := 0) (by omega) no_f (by omega) (by omega) ac (fun F2 R2 N K2 H2 f2 r2 => ?_)
      obtain ⟨e7, e8, e9, e10, e11, e12', e13⟩ := id K2.1
      refine C_fh e7 e12' K2.2.1 N.2 (by omega) (by omega) (cm := h j 0) (by omega) (fun R3 L3 f3 => ?_)
      refine C_start (fr := x 2) (th := x 3) (su := (fun w l => suN b w l 99 0 (x 11))) (cr := fun _ => 0) e7 e12' (by omega) (by omega) (fun R4 V4 f4 => ?_)
      have K4 := K2.cg (F' := upd (upd F2 414 (F2 411)) 415 (1000000 : Int32)) (R' := R4) (fun k q1 q2 => by rw [upd_ne (by omega), upd_ne (by omega)]) ⟨by rw [f4 _ (by decide), f3 _ (by decide)], by rw [f4 _ (by decide), f3 _ (by decide)], by rw [f4 _ (by decide), f3 _ (by decide)]⟩
      rw [e8]
      refine ⟨x 1 - x 4 + 1, ?_⟩
      have go := C_best_loop N K4 (hc := h j 0) (by omega) hd (by rw [f4 402 (by decide)]; exact L3) rfl (J := J) (P := P) (B := B) (K := fun F10 R10 J10 P10 B10 => (¬ nI wh = 0 → qM_best F0 R0 J0 (nI j) (nI wh) (fun r0 F0 R0 J0 => F10 415 = r0 ∧ INV F10 R10 J10 P10 B10 F0 R0 J0)) ∧ (nI wh = 0 → qM_best F0 R0 J0 (nI j) (nI wh) (fun r0 F0 R0 J0 => F10 414 = r0 ∧ INV F10 R10 J10 P10 B10 F0 R0 J0))) (fun F5 R5 t f5 r5 am s1 s2 => ?_) (x 1 - x 4) (upd (upd F2 414 (F2 411)) 415 (1000000 : Int32)) R4 (by omega) (fun _ _ _ => rfl) (fun _ _ _ => rfl) (fun _ l q1 q2 => ?_) (Or.inl ⟨by omega, upd_eq⟩)
      · rw [show x 4 + (x 1 - x 4) = x 1 by omega] at go
        exact go
      · have INV5 : ∀ R6 : RT, (∀ k, k ≠ 10 → R6 k = R0 k) → INV F5 R5 J P B F0 R6 J0 := fun R6 q6 => I.odds (fun k hk => by rw [f5 k (by omega) (by omega), upd_ne (by omega), upd_ne (by omega), f2 k hk]) (fun k hk => by rw [r5 k (by omega) (by omega), f4 k (by omega), f3 k (by omega), r2 k hk]) (fun _ _ => rfl) (fun k h10 _ _ => q6 k h10)
        have mm : ∀ r, r = (if wh = 0 then nI t else nI ((fun d => od (x 0) (x 2) (x 3) (fun w l => suN b w l 99 0 (x 11)) (crM (x 1) (nI (x 4)) (nI d) (cst h (x 12) (x 7)) (h j 0)) (x 1 - x 4) (x 5)) t)) → qM_best F0 R0 J0 (nI j) (nI wh) (fun r0 F0 R0 J0 => r = r0 ∧ INV F5 R5 J P B F0 R0 J0) := by
          intro r hr
          refine mgo _ ⟨fun c => by rw [hu] at c; exact absurd c (by decide), fun _ => ⟨x 1 - x 4 + 1, ?_⟩⟩
          rw [show R0 0 6 = nI (x 4) from M.1.1 4 (by decide) (by decide)]
          refine M_best_loop A M hfa hj hw hd (g := (fun d => od (x 0) (x 2) (x 3) (fun w l => suN b w l 99 0 (x 11)) (crM (x 1) (nI (x 4)) (nI d) (cst h (x 12) (x 7)) (h j 0)) (x 1 - x 4) (x 5))) rfl (fun R6 t' q6 am' => ⟨?_, INV5 R6 q6⟩) (x 1 - x 4) (x 4) R0 (-4) (-4) (by omega) (Nat.le_refl _) (fun _ _ => rfl) (Or.inl ⟨rfl, rfl⟩)
          rw [hr, am.uq am']
        refine And.symm (pk_eq wh 0 (fun e => mm _ ?_) (fun e => mm _ ?_))
        · rw [if_pos e]; exact s1
        · rw [if_neg e]; exact s2
      · have fl := fp_le (su := (fun w l => suN b w l 99 0 (x 11))) (c0 := (cst h (x 12) (x 7))) (show x 5 ≤ x 0 by omega) (x 1 - x 4)
        rw [show x 1 - x 4 - (x 1 - x 4) = 0 by omega]
        exact V4 l q1 (by omega)
    · rw [if_neg hd]
      refine ⟨fun d => absurd d (by decide), fun _ => mgo _ ⟨fun c => by rw [hu] at c; exact absurd c (by decide), fun _ => ⟨1, ?_⟩⟩⟩
      unfold qM_best_47
      refine pk_le (x 1) (x 4) (fun _ => ⟨fun _ => ⟨rfl, I⟩, fun _ => ⟨rfl, I⟩⟩) (fun c => by omega) (M.1.1 1 (by decide) (by decide)) (M.1.1 4 (by decide) (by decide))
