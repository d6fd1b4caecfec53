/-! ===== the pure part: odds, the class's tables ===== -/
def FOd (st dy fr th d0 l0 c0 : Nat) (F : FT) : Prop := F 407 = nI st ∧ F 408 = nI dy ∧ F 409 = nI fr ∧ F 410 = nI th ∧ F 411 = nI d0 ∧ F 412 = nI l0 ∧ F 413 = nI c0
def NKb (st dy fr th d0 l0 c0 : Nat) (su : Nat → Nat → Nat) : Prop := (1 ≤ st ∧ st ≤ 200 ∧ 1 ≤ dy ∧ dy ≤ 40 ∧ fr + th ≤ 10 ∧ d0 ≤ dy ∧ l0 ≤ st ∧ c0 ≤ 54) ∧ SuOK su
def LYr (st l0 : Nat) (su : Nat → Nat → Nat) (f : Nat → Int32) : Prop := ∀ w l, w < 3 → l0 ≤ l → l ≤ st → f (w * 201 + l) = nI (su w l)
def LPp (st l0 : Nat) (su : Nat → Nat → Nat) (w l : Nat) (f : Nat → Int32) : Prop := ∀ w' l', w' < 3 → l0 ≤ l' → l' ≤ st → (w' < w ∨ (w' = w ∧ l' < l)) → f (w' * 201 + l') = nI (su w' l')
theorem LPp.up {st l0 : Nat} {su : Nat → Nat → Nat} {w l : Nat} {f : Nat → Int32} (H : LPp st l0 su w l f) (hst : st ≤ 200) (hl : l ≤ st) : LPp st l0 su w (l + 1) (upd f (w * 201 + l) (nI (su w l))) := by
  intro w' l' h1 h2 h3 h4
  by_cases e : w' = w ∧ l' = l
  · obtain ⟨rfl, rfl⟩ := e; exact upd_eq
  · rw [upd_ne (by omega)]; exact H w' l' h1 h2 h3 (by omega)
theorem LPp.nx {st l0 : Nat} {su : Nat → Nat → Nat} {w l l1 : Nat} {f : Nat → Int32} (H : LPp st l0 su w l f) (hl : st < l) (h1 : l1 ≤ l0) : LPp st l0 su (w + 1) l1 f := fun w' l' a1 a2 a3 a4 => H w' l' a1 a2 a3 (by omega)
theorem LPp.ly {st l0 : Nat} {su : Nat → Nat → Nat} {l : Nat} {f : Nat → Int32} (H : LPp st l0 su 3 l f) : LYr st l0 su f := fun w l h1 h2 h3 => H w l h1 h2 h3 (by omega)
section OC
variable {st dy fr th d0 l0 c0 : Nat} {su : Nat → Nat → Nat} {F : FT} {R : RT} {J : JT} {P : PT} {B : BT}
theorem ix_201 {w l : Nat} : nI w * (201 : Int32) + nI l = nI (w * 201 + l) := (congrArg (fun z => z + nI l) (pk_mul w 201)).trans (nI_add _ _)
theorem C_laidB (e7 : F 407 = nI st) (hL : LYr st l0 su (R 400)) (hs : SuOK su) (hst : st ≤ 200) {w l co : Nat} (hw : w < 3) (h1 : l0 ≤ l) (h2 : l ≤ st) (hc : co ≤ 400) {K : Int32 → FT → RT → JT → PT → BT → Prop} (hK : K (nI (bhN st (su w l) l co)) F R J P B) : qO_laidBehind F R J P B (nI w) (nI l) (nI co) K := by
  unfold qO_laidBehind
  have s3 := hs.2.2 w l (by omega) (by omega)
  rw [ix_201, nI_clamp (n := w * 201 + l) (by omega), hL w l hw h1 h2, e7]
  refine ⟨vp_in_nI (by omega) (by omega), ?_⟩
  generalize su w l = s at s3 hK ⊢
  unfold bhN at hK
  by_cases hlt : co < s
  · have es : nI s - nI co = nI (s - co) := pk_sub (by omega)
    rw [es, nI_add]
    refine ⟨fun _ => ?_, fun c => absurd ((n_lt (a := 0) (b := s - co) (by omega) (by omega)).mpr (by omega)) c⟩
    by_cases hle : l + (s - co) ≤ st
    · rw [if_pos hle] at hK
      by_cases hl2 : l + (s - co) < st
      · rw [if_pos ((n_lt (by omega) (by omega)).mpr hl2)]; exact hK
      · rw [if_neg (fun c => hl2 ((n_lt (by omega) (by omega)).mp c)), show st = l + (s - co) by omega]; exact hK
    · rw [if_neg hle] at hK
      rw [if_neg (fun c => by have := (n_lt (by omega) (by omega)).mp c; omega)]; exact hK
  · have hz : ¬ (0 : Int32) < nI s - nI co := by
      rw [t_lt, pk_sub_toInt (by omega) (by omega)]
      have : (0 : Int32).toInt = 0 := rfl
      omega
    refine ⟨fun c => absurd c hz, fun _ => ?_⟩
    rw [show s - co = 0 by omega, if_pos (by omega)] at hK
    exact hK
end OC
section OR
variable {x : Nat → Nat} {b h p : Nat → Nat → Nat} {st l0 : Nat} {F : FT} {R : RT} {J : JT} {P : PT} {B : BT}
theorem C_rk15 (A : AOK x b h p) (H : CS 100 x b h p F R P B) (e7 : F 407 = nI st) (hst : st ≤ 200) {fa mo : Nat} {vf : Int32} (hm : mo ≤ 20) (hf : ∀ k, k < 4 → (nI k = vf ↔ k = fa)) {w : Nat} (hw : w < 3) {k3 : FT → RT → JT → PT → BT → Int32 → Int32 → Int32 → Prop} {K : FT → RT → JT → PT → BT → Prop} (hk : ∀ R', LPp st l0 (fun w l => suN b w l fa mo (x 11)) (w + 1) l0 (R' 400) → (∀ k, k ≠ 400 → R' k = R k) → k3 F R' J P B vf (nI mo) (nI (w + 1))) : ∀ m l R', l + m = st + 1 → l0 ≤ l → LPp st l0 (fun w l => suN b w l fa mo (x 11)) w l (R' 400) → (∀ k, k ≠ 400 → R' k = R k) → qO_reckonLays_15 (m + 1) k3 F R' J P B vf (nI mo) (nI w) (nI l) K := by
  intro m
  induction m with
  | zero =>
    intro l R' hl _ L f
    unfold qO_reckonLays_15
    rw [nI_1 w]
    exact pk_lt st l (fun _ => hk R' (L.nx (by omega) (Nat.le_refl _)) f) (fun c => by omega) e7
  | succ m ih =>
    intro l R' hl h0 L f
    have H' : CS 100 x b h p F R' P B := H.cg (fun _ _ => rfl) (fun k a b => f _ (by omega)) rfl (fun _ hz => hz)
    unfold qO_reckonLays_15
    refine pk_lt st l (fun c => by omega) (fun _ => C_layT A H' (by omega) (by omega) hm hf ?_) e7
    rw [ix_201, nI_1 l, nI_clamp (n := w * 201 + l) (by omega)]
    refine ⟨vp_in_nI (by omega) (by omega), ih (l + 1) _ (by omega) (by omega) ?_ (fun k hk => by rw [vu_ne hk, f k hk])⟩
    rw [vu_eq]
    exact L.up hst (by omega)
theorem C_rk3 (A : AOK x b h p) (H : CS 100 x b h p F R P B) (e7 : F 407 = nI st) (e12 : F 412 = nI l0) (hst : st ≤ 200) (hl0 : l0 ≤ st) {fa mo : Nat} {vf : Int32} (hm : mo ≤ 20) (hf : ∀ k, k < 4 → (nI k = vf ↔ k = fa)) {K : FT → RT → JT → PT → BT → Prop} (hK : ∀ R', LYr st l0 (fun w l => suN b w l fa mo (x 11)) (R' 400) → (∀ k, k ≠ 400 → R' k = R k) → qO_fillBehind_b F R' J P B (0 : Int32) (fun F2 R2 J2 P2 B2 => (vp_in (F2 411) 41) ∧ (∃ n88, qO_reckonLays_88 n88 F2 (va_up R2 405 (upd (R2 405) ((F2 411).toNatClampNeg) (F2 412))) J2 P2 B2 (F2 411) K))) : ∀ m w R', w + m = 3 → LPp st l0 (fun w l => suN b w l fa mo (x 11)) w l0 (R' 400) → (∀ k, k ≠ 400 → R' k = R k) → qO_reckonLays_3 (m + 1) F R' J P B vf (nI mo) (nI w) K := by
  intro m
  induction m with
  | zero =>
    intro w R' hw L f
    have hw : w = 3 := by omega
    subst hw
    unfold qO_reckonLays_3
    exact ⟨fun _ => hK R' L.ly f, fun c => absurd (by decide) c⟩
  | succ m ih =>
    intro w R' hw L f
    have H' : CS 100 x b h p F R' P B := H.cg (fun _ _ => rfl) (fun k a b => f _ (by omega)) rfl (fun _ hz => hz)
    unfold qO_reckonLays_3
    rw [e12]
    refine pk_le 3 w (fun c => by omega) (fun _ => ⟨st + 1 - l0 + 1, C_rk15 A H' e7 hst hm hf (by omega) (fun R2 L2 f2 => ih (w + 1) R2 (by omega) L2 (fun k hk => by rw [f2 k hk, f k hk])) (st + 1 - l0) l0 R' (by omega) (Nat.le_refl _) L (fun _ _ => rfl)⟩)
end OR
section OF
variable {st dy fr th d0 l0 c0 : Nat} {su : Nat → Nat → Nat} {F : FT} {R : RT} {J : JT} {P : PT} {B : BT}
theorem C_fb13 (e7 : F 407 = nI st) (hL : LYr st l0 su (R 400)) (hs : SuOK su) (hst : st ≤ 200) {cm : Nat} (hc : cm ≤ 200) {w : Nat} (hw : w < 3) {k2 : FT → RT → JT → PT → BT → Int32 → Int32 → Prop} {K : FT → RT → JT → PT → BT → Prop} (hk : ∀ R', LPp st l0 (fun w l => bhN st (su w l) l cm) (w + 1) l0 (R' 401) → (∀ k, k ≠ 401 → R' k = R k) → k2 F R' J P B (nI cm) (nI (w + 1))) : ∀ m l R', l + m = st + 1 → l0 ≤ l → LPp st l0 (fun w l => bhN st (su w l) l cm) w l (R' 401) → (∀ k, k ≠ 401 → R' k = R k) → qO_fillBehind_b_13 (m + 1) k2 F R' J P B (nI cm) (nI w) (nI l) K := by
  intro m
  induction m with
  | zero =>
    intro l R' hl _ L f
    unfold qO_fillBehind_b_13
    rw [nI_1 w]
    exact pk_lt st l (fun _ => hk R' (L.nx (by omega) (Nat.le_refl _)) f) (fun c => by omega) e7
  | succ m ih =>
    intro l R' hl h0 L f
    unfold qO_fillBehind_b_13
    refine pk_lt st l (fun c => by omega) (fun _ => C_laidB e7 (by rw [f 400 (by decide)]; exact hL) hs hst hw h0 (by omega) (by omega) ?_) e7
    rw [ix_201, nI_1 l, nI_clamp (n := w * 201 + l) (by omega)]
    refine ⟨vp_in_nI (by omega) (by omega), ih (l + 1) _ (by omega) (by omega) ?_ (fun k hk => by rw [vu_ne hk, f k hk])⟩
    rw [vu_eq]
    exact L.up hst (by omega)
theorem C_fb2 (e7 : F 407 = nI st) (e12 : F 412 = nI l0) (hL : LYr st l0 su (R 400)) (hs : SuOK su) (hst : st ≤ 200) (hl0 : l0 ≤ st) {cm : Nat} (hc : cm ≤ 200) {K : FT → RT → JT → PT → BT → Prop} (hK : ∀ R', LYr st l0 (fun w l => bhN st (su w l) l cm) (R' 401) → (∀ k, k ≠ 401 → R' k = R k) → K F R' J P B) : ∀ m w R', w + m = 3 → LPp st l0 (fun w l => bhN st (su w l) l cm) w l0 (R' 401) → (∀ k, k ≠ 401 → R' k = R k) → qO_fillBehind_b_2 (m + 1) F R' J P B (nI cm) (nI w) K := by
  intro m
  induction m with
  | zero =>
    intro w R' hw L f
    have hw : w = 3 := by omega
    subst hw
    unfold qO_fillBehind_b_2
    exact ⟨fun _ => hK R' L.ly f, fun c => absurd (by decide) c⟩
  | succ m ih =>
    intro w R' hw L f
    unfold qO_fillBehind_b_2
    rw [e12]
    exact pk_le 3 w (fun c => by omega) (fun _ => ⟨st + 1 - l0 + 1, C_fb13 e7 (by rw [f 400 (by decide)]; exact hL) hs hst hc (by omega) (fun R2 L2 f2 => ih (w + 1) R2 (by omega) L2 (fun k hk => by rw [f2 k hk, f k hk])) (st + 1 - l0) l0 R' (by omega) (Nat.le_refl _) L (fun _ _ => rfl)⟩)
theorem C_fb (e7 : F 407 = nI st) (e12 : F 412 = nI l0) (hL : LYr st l0 su (R 400)) (hs : SuOK su) (hst : st ≤ 200) (hl0 : l0 ≤ st) {cm : Nat} (hc : cm ≤ 200) {K : FT → RT → JT → PT → BT → Prop} (hK : ∀ R', LYr st l0 (fun w l => bhN st (su w l) l cm) (R' 401) → (∀ k, k ≠ 401 → R' k = R k) → K F R' J P B) : qO_fillBehind_b F R J P B (nI cm) K := ⟨4, C_fb2 e7 e12 hL hs hst hl0 hc hK 3 0 R rfl (fun w' l' _ _ _ a => by omega) (fun _ _ => rfl)⟩
theorem C_fh13 (e7 : F 407 = nI st) (hL : LYr st l0 su (R 400)) (hs : SuOK su) (hst : st ≤ 200) {cm : Nat} (hc : cm ≤ 200) {w : Nat} (hw : w < 3) {k2 : FT → RT → JT → PT → BT → Int32 → Int32 → Prop} {K : FT → RT → JT → PT → BT → Prop} (hk : ∀ R', LPp st l0 (fun w l => bhN st (su w l) l cm) (w + 1) l0 (R' 402) → (∀ k, k ≠ 402 → R' k = R k) → k2 F R' J P B (nI cm) (nI (w + 1))) : ∀ m l R', l + m = st + 1 → l0 ≤ l → LPp st l0 (fun w l => bhN st (su w l) l cm) w l (R' 402) → (∀ k, k ≠ 402 → R' k = R k) → qO_fillBehind_h_13 (m + 1) k2 F R' J P B (nI cm) (nI w) (nI l) K := by
  intro m
  induction m with
  | zero =>
    intro l R' hl _ L f
    unfold qO_fillBehind_h_13
    rw [nI_1 w]
    exact pk_lt st l (fun _ => hk R' (L.nx (by omega) (Nat.le_refl _)) f) (fun c => by omega) e7
  | succ m ih =>
    intro l R' hl h0 L f
    unfold qO_fillBehind_h_13
    refine pk_lt st l (fun c => by omega) (fun _ => C_laidB e7 (by rw [f 400 (by decide)]; exact hL) hs hst hw h0 (by omega) (by omega) ?_) e7
    rw [ix_201, nI_1 l, nI_clamp (n := w * 201 + l) (by omega)]
    refine ⟨vp_in_nI (by omega) (by omega), ih (l + 1) _ (by omega) (by omega) ?_ (fun k hk => by rw [vu_ne hk, f k hk])⟩
    rw [vu_eq]
    exact L.up hst (by omega)
theorem C_fh2 (e7 : F 407 = nI st) (e12 : F 412 = nI l0) (hL : LYr st l0 su (R 400)) (hs : SuOK su) (hst : st ≤ 200) (hl0 : l0 ≤ st) {cm : Nat} (hc : cm ≤ 200) {K : FT → RT → JT → PT → BT → Prop} (hK : ∀ R', LYr st l0 (fun w l => bhN st (su w l) l cm) (R' 402) → (∀ k, k ≠ 402 → R' k = R k) → K F R' J P B) : ∀ m w R', w + m = 3 → LPp st l0 (fun w l => bhN st (su w l) l cm) w l0 (R' 402) → (∀ k, k ≠ 402 → R' k = R k) → qO_fillBehind_h_2 (m + 1) F R' J P B (nI cm) (nI w) K := by
  intro m
  induction m with
  | zero =>
    intro w R' hw L f
    have hw : w = 3 := by omega
    subst hw
    unfold qO_fillBehind_h_2
    exact ⟨fun _ => hK R' L.ly f, fun c => absurd (by decide) c⟩
  | succ m ih =>
    intro w R' hw L f
    unfold qO_fillBehind_h_2
    rw [e12]
    exact pk_le 3 w (fun c => by omega) (fun _ => ⟨st + 1 - l0 + 1, C_fh13 e7 (by rw [f 400 (by decide)]; exact hL) hs hst hc (by omega) (fun R2 L2 f2 => ih (w + 1) R2 (by omega) L2 (fun k hk => by rw [f2 k hk, f k hk])) (st + 1 - l0) l0 R' (by omega) (Nat.le_refl _) L (fun _ _ => rfl)⟩)
theorem C_fh (e7 : F 407 = nI st) (e12 : F 412 = nI l0) (hL : LYr st l0 su (R 400)) (hs : SuOK su) (hst : st ≤ 200) (hl0 : l0 ≤ st) {cm : Nat} (hc : cm ≤ 200) {K : FT → RT → JT → PT → BT → Prop} (hK : ∀ R', LYr st l0 (fun w l => bhN st (su w l) l cm) (R' 402) → (∀ k, k ≠ 402 → R' k = R k) → K F R' J P B) : qO_fillBehind_h F R J P B (nI cm) K := ⟨4, C_fh2 e7 e12 hL hs hst hl0 hc hK 3 0 R rfl (fun w' l' _ _ _ a => by omega) (fun _ _ => rfl)⟩
theorem C_rk88 (N : NKb st dy fr th d0 l0 c0 su) (fo : FOd st dy fr th d0 l0 c0 F) (hL : LYr st l0 su (R 400)) {K : FT → RT → JT → PT → BT → Prop} (hK : ∀ R', (∀ j, j ≤ dy - d0 → R' 405 (d0 + j) = nI (fpN st su l0 c0 j)) → (∀ k, k ≠ 405 → R' k = R k) → K F R' J P B) : ∀ m i R', d0 + i + m = dy → (∀ j, j ≤ i → R' 405 (d0 + j) = nI (fpN st su l0 c0 j)) → (∀ k, k ≠ 405 → R' k = R k) → qO_reckonLays_88 (m + 1) F R' J P B (nI (d0 + i)) K := by
  obtain ⟨n1, hs⟩ := N
  obtain ⟨e7, e8, e9, e10, e11, e12, e13⟩ := fo
  intro m
  induction m with
  | zero =>
    intro i R' hm h1 f
    unfold qO_reckonLays_88
    exact pk_le dy (d0 + i) (fun _ => hK R' (fun j hj => h1 j (by omega)) f) (fun c => by omega) e8
  | succ m ih =>
    intro i R' hm h1 f
    have fl := fp_le (su := su) (c0 := c0) (show l0 ≤ st by omega) i
    have go : ∀ co, co = (if i = 0 then c0 else 0) → qO_reckonLays_131 (fun F R J P B v4 => qO_reckonLays_88 (m + 1) F R J P B v4 K) F R' J P B (nI (d0 + i)) (nI co) (nI (fpN st su l0 c0 i)) (0 : Int32) (nI (d0 + i + 1)) K := by
      intro co hco
      unfold qO_reckonLays_131
      refine C_laidB (w := 0) e7 (by rw [f 400 (by decide)]; exact hL) hs (by omega) (by omega) fl.1 fl.2 (by rw [hco]; split <;> omega) ⟨vp_in_nI (by omega) (by omega), ?_⟩
      rw [nI_clamp (n := d0 + i + 1) (by omega), nI_1, hco]
      refine ih (i + 1) _ (by omega) (fun j hj => ?_) (fun k hk => by rw [vu_ne hk, f k hk])
      rw [vu_eq]
      by_cases e : j = i + 1
      · subst e; exact upd_eq
      · rw [upd_ne (by omega)]; exact h1 j (by omega)
    unfold qO_reckonLays_88
    rw [e11, e13, nI_1, nI_clamp (n := d0 + i) (by omega), h1 i (Nat.le_refl _)]
    refine pk_le dy (d0 + i) (fun c => by omega) (fun _ => ⟨vp_in_nI (by omega) (by omega), ?_⟩) e8
    refine And.symm (pk_eq (d0 + i) d0 (fun e => go c0 ?_) (fun e => go 0 ?_))
    · rw [if_pos (by omega)]
    · rw [if_neg (by omega)]
/-- reckoned -/
def RKd (st dy fr th d0 l0 c0 : Nat) (su : Nat → Nat → Nat) (F : FT) (R : RT) : Prop := FOd st dy fr th d0 l0 c0 F ∧ LYr st l0 su (R 400) ∧ LYr st l0 (fun w l => bhN st (su w l) l 0) (R 401) ∧ (∀ j, j ≤ dy - d0 → R 405 (d0 + j) = nI (fpN st su l0 c0 j))
theorem RKd.cg {F' : FT} {R' : RT} (H : RKd st dy fr th d0 l0 c0 su F R) (hF : ∀ k, 407 ≤ k → k ≤ 413 → F' k = F k) (hR : R' 400 = R 400 ∧ R' 401 = R 401 ∧ R' 405 = R 405) : RKd st dy fr th d0 l0 c0 su F' R' := by
  obtain ⟨⟨e7, e8, e9, e10, e11, e12, e13⟩, h1, h2, h3⟩ := H
  refine ⟨⟨by rw [hF _ (by omega) (by omega)]; exact e7, by rw [hF _ (by omega) (by omega)]; exact e8, by rw [hF _ (by omega) (by omega)]; exact e9, by rw [hF _ (by omega) (by omega)]; exact e10, by rw [hF _ (by omega) (by omega)]; exact e11, by rw [hF _ (by omega) (by omega)]; exact e12, by rw [hF _ (by omega) (by omega)]; exact e13⟩, by rw [hR.1]; exact h1, by rw [hR.2.1]; exact h2, by rw [hR.2.2]; exact h3⟩
end OF
theorem C_reckon {x : Nat → Nat} {b h p : Nat → Nat → Nat} {st dy fr th d0 l0 c0 : Nat} {F : FT} {R : RT} {J : JT} {P : PT} {B : BT} (A : AOK x b h p) (H : CS 100 x b h p F R P B) {fa mo : Nat} {vf : Int32} (hm : mo ≤ 20) (hf : ∀ k, k < 4 → (nI k = vf ↔ k = fa)) (N : NKb st dy fr th d0 l0 c0 (fun w l => suN b w l fa mo (x 11))) (fo : FOd st dy fr th d0 l0 c0 F) {K : FT → RT → JT → PT → BT → Prop} (hK : ∀ R', RKd st dy fr th d0 l0 c0 (fun w l => suN b w l fa mo (x 11)) F R' → (∀ k, k ≠ 400 → k ≠ 401 → k ≠ 405 → R' k = R k) → K F R' J P B) : qO_reckonLays F R J P B vf (nI mo) K := by
  obtain ⟨n1, hs⟩ := id N
  obtain ⟨e7, e8, e9, e10, e11, e12, e13⟩ := id fo
  refine ⟨4, C_rk3 A H e7 e12 (by omega) (by omega) hm hf (fun R1 L1 f1 => C_fb e7 e12 L1 hs (by omega) (by omega) (cm := 0) (by omega) (fun R2 L2 f2 => ?_)) 3 0 R rfl (fun w' l' _ _ _ a => by omega) (fun _ _ => rfl)⟩
  rw [e11, e12, nI_clamp (n := d0) (by omega)]
  have L1' : LYr st l0 (fun w l => suN b w l fa mo (x 11)) (va_up R2 405 (upd (R2 405) d0 (nI l0)) 400) := by rw [vu_ne (by decide), f2 _ (by decide)]; exact L1
  refine ⟨vp_in_nI (by omega) (by omega), dy - d0 + 1, C_rk88 N fo L1' (fun R3 q1 q2 => hK R3 ⟨fo, ?_, ?_, q1⟩ (fun k a1 a2 a3 => ?_)) (dy - d0) 0 _ (by omega) (fun j hj => ?_) (fun _ _ => rfl)⟩
  · rw [q2 400 (by decide)]; exact L1'
  · rw [q2 401 (by decide), vu_ne (by decide)]; exact L2
  · rw [q2 k a3, vu_ne a3, f2 k a2, f1 k a1]
  · have : j = 0 := by omega
    subst this
    rw [vu_eq]; exact upd_eq
/-- a row of odds: what of it holds -/
def RVl (st l0 f : Nat) (v : Nat → Nat) (g : Nat → Int32) : Prop := ∀ l, l0 ≤ l → (l ≤ f ∨ l = st) → g l = nI (v l)
section OS
variable {st dy fr th d0 l0 c0 : Nat} {su : Nat → Nat → Nat} {F : FT} {R : RT} {J : JT} {P : PT} {B : BT}
theorem C_start (e7 : F 407 = nI st) (e12 : F 412 = nI l0) (hst : st ≤ 200) (hl0 : l0 ≤ st) {cr : Nat → Nat} {K : FT → RT → JT → PT → BT → Prop} (hK : ∀ R', RVl st l0 st (od st fr th su cr 0) (R' 403) → (∀ k, k ≠ 403 → R' k = R k) → K F R' J P B) : qO_startAtSummer F R J P B K := by
  have loop : ∀ m l R', l + m = st → l0 ≤ l → (∀ i, l0 ≤ i → i < l → R' 403 i = 0) → (∀ k, k ≠ 403 → R' k = R k) → qO_startAtSummer_5 (m + 1) F R' J P B (nI l) K := by
    intro m
    induction m with
    | zero =>
      intro l R' hl h0 h1 f
      have hl : l = st := by omega
      subst hl
      unfold qO_startAtSummer_5
      rw [e7, nI_clamp (n := l) (by omega)]
      refine pk_le l l (fun _ => ⟨vp_in_nI (by omega) (by omega), hK _ (fun i hi h2 => ?_) (fun k hk => by rw [vu_ne hk, f k hk])⟩) (fun c => by omega)
      rw [vu_eq]
      by_cases e : i = l
      · subst e; rw [upd_eq, od_st]; rfl
      · rw [upd_ne e, h1 i hi (by omega)]
        unfold od
        rw [if_neg e]; rfl
    | succ m ih =>
      intro l R' hl h0 h1 f
      unfold qO_startAtSummer_5
      rw [nI_clamp (n := l) (by omega), nI_1]
      refine pk_le st l (fun c => by omega) (fun _ => ⟨vp_in_nI (by omega) (by omega), ih (l + 1) _ (by omega) (by omega) (fun i hi h2 => ?_) (fun k hk => by rw [vu_ne hk, f k hk])⟩) e7
      rw [vu_eq]
      by_cases e : i = l
      · subst e; exact upd_eq
      · rw [upd_ne e]; exact h1 i hi (by omega)
  unfold qO_startAtSummer
  rw [e12]
  exact ⟨st - l0 + 1, loop (st - l0) l0 R (by omega) (Nat.le_refl _) (fun i h1 h2 => by omega) (fun _ _ => rfl)⟩
theorem C_st_ob_37 (N : NKb st dy fr th d0 l0 c0 su) (fo : FOd st dy fr th d0 l0 c0 F) {cm f f1 most : Nat} {v : Nat → Nat} (hT : LYr st l0 (fun w l => bhN st (su w l) l cm) (R 401)) (hv : ∀ l, v l ≤ 1000000) (hf : ∀ w l, w < 3 → l0 ≤ l → l ≤ f → bhN st (su w l) l cm ≤ f1) (hm1 : most ≤ f) (hm2 : most + 1 ≤ st) {K : FT → RT → JT → PT → BT → Prop} (hK : ∀ R', (∀ i, l0 ≤ i → i ≤ most → R' 403 i = nI (mixN fr th (v (bhN st (su 0 i) i cm)) (v (bhN st (su 1 i) i cm)) (v (bhN st (su 2 i) i cm)))) → R' 403 st = nI (v st) → (∀ k, k ≠ 403 → R' k = R k) → K F R' J P B) : ∀ m l R', most + 1 ≤ l + m → l0 ≤ l → l ≤ st → (∀ i, l0 ≤ i → i < l → i ≤ most → R' 403 i = nI (mixN fr th (v (bhN st (su 0 i) i cm)) (v (bhN st (su 1 i) i cm)) (v (bhN st (su 2 i) i cm)))) → (∀ i, l ≤ i → (i ≤ f1 ∨ i = st) → R' 403 i = nI (v i)) → (∀ k, k ≠ 403 → R' k = R k) → qO_stepBack_ob_37 (m + 1) F R' J P B (nI most) (nI (10 - fr - th)) (nI l) K := by
  obtain ⟨n1, hs⟩ := N
  obtain ⟨e7, e8, e9, e10, e11, e12, e13⟩ := fo
  intro m
  induction m with
  | zero =>
    intro l R' hl h0 h2 h3 h4 h5
    unfold qO_stepBack_ob_37
    exact pk_lt most l (fun _ => hK R' (fun i a1 a2 => h3 i a1 (by omega) a2) (h4 st h2 (Or.inr rfl)) h5) (fun c => by omega)
  | succ m ih =>
    intro l R' hl h0 h2 h3 h4 h5
    unfold qO_stepBack_ob_37
    by_cases hlt : most < l
    · exact pk_lt most l (fun _ => hK R' (fun i a1 a2 => h3 i a1 (by omega) a2) (h4 st h2 (Or.inr rfl)) h5) (fun c => by omega)
    refine pk_lt most l (fun c => absurd c hlt) (fun _ => ?_)
    have t0 : R' 401 l = nI (bhN st (su 0 l) l cm) := by rw [h5 401 (by decide)]; have := hT 0 l (by omega) h0 h2; rw [show 0 * 201 + l = l by omega] at this; exact this
    have t1 : R' 401 (201 + l) = nI (bhN st (su 1 l) l cm) := by rw [h5 401 (by decide)]; have := hT 1 l (by omega) h0 h2; rw [show 1 * 201 + l = 201 + l by omega] at this; exact this
    have t2 : R' 401 (402 + l) = nI (bhN st (su 2 l) l cm) := by rw [h5 401 (by decide)]; have := hT 2 l (by omega) h0 h2; rw [show 2 * 201 + l = 402 + l by omega] at this; exact this
    have b0 := bhN_ge (su := su 0 l) (co := cm) h2
    have b1 := bhN_ge (su := su 1 l) (co := cm) h2
    have b2 := bhN_ge (su := su 2 l) (co := cm) h2
    have q0 := hf 0 l (by omega) h0 (by omega)
    have q1 := hf 1 l (by omega) h0 (by omega)
    have q2 := hf 2 l (by omega) h0 (by omega)
    have i1 : (201 : Int32) + nI l = nI (201 + l) := nI_add 201 l
    have i2 : (402 : Int32) + nI l = nI (402 + l) := nI_add 402 l
    rw [i1, i2, nI_clamp (n := l) (by omega), nI_clamp (n := 201 + l) (by omega), nI_clamp (n := 402 + l) (by omega), t0, t1, t2, nI_clamp (n := bhN st (su 0 l) l cm) (by omega), nI_clamp (n := bhN st (su 1 l) l cm) (by omega), nI_clamp (n := bhN st (su 2 l) l cm) (by omega), h4 _ b0.1 (Or.inl q0), h4 _ b1.1 (Or.inl q1), h4 _ b2.1 (Or.inl q2), e9, e10, mix_n (by omega) (hv _) (hv _) (hv _), nI_1]
    refine ⟨vp_in_nI (by omega) (by omega), vp_in_nI (by omega) (by omega), vp_in_nI (by omega) (by omega), vp_in_nI (by omega) (by omega), vp_in_nI (by omega) (by omega), vp_in_nI (by omega) (by omega), vp_in_nI (by omega) (by omega), ih (l + 1) _ (by omega) (by omega) (by omega) (fun i a1 a2 a3 => ?_) (fun i a1 a2 => ?_) (fun k hk => by rw [vu_ne hk, h5 k hk])⟩
    · rw [vu_eq]
      by_cases e : i = l
      · subst e; exact upd_eq
      · rw [upd_ne e]; exact h3 i a1 (by omega) a3
    · rw [vu_eq, upd_ne (by omega)]; exact h4 i (by omega) a2
/-- a day back, on the fair path -/
theorem C_st_ob (N : NKb st dy fr th d0 l0 c0 su) (H : RKd st dy fr th d0 l0 c0 su F R) {cm i m : Nat} {cr : Nat → Nat} (hcm : cr m = cm) (hi : 1 ≤ i) (hid : d0 + i ≤ dy) (hT : LYr st l0 (fun w l => bhN st (su w l) l cm) (R 401)) (hV : RVl st l0 (fpN st su l0 c0 (i + 1)) (od st fr th su cr m) (R 403)) {K : FT → RT → JT → PT → BT → Prop} (hK : ∀ R', RVl st l0 (fpN st su l0 c0 i) (od st fr th su cr (m + 1)) (R' 403) → (∀ k, k ≠ 403 → R' k = R k) → K F R' J P B) : qO_stepBack_ob F R J P B (nI (d0 + i)) K := by
  obtain ⟨n1, hs⟩ := id N
  obtain ⟨fo, h1, h2, h3⟩ := H
  obtain ⟨e7, e8, e9, e10, e11, e12, e13⟩ := id fo
  have fl := fp_le (su := su) (c0 := c0) (show l0 ≤ st by omega) i
  unfold qO_stepBack_ob
  rw [nI_clamp (n := d0 + i) (by omega), h3 i (by omega), e7, e9, e10, e12, ten_n (by omega), show nI st - (1 : Int32) = nI (st - 1) from pk_sub (b := 1) (by omega)]
  refine ⟨vp_in_nI (by omega) (by omega), ?_⟩
  have hf : ∀ w l, w < 3 → l0 ≤ l → l ≤ fpN st su l0 c0 i → bhN st (su w l) l cm ≤ fpN st su l0 c0 (i + 1) := by
    intro w l a1 a2 a3
    show _ ≤ bhN st (su 0 (fpN st su l0 c0 i)) (fpN st su l0 c0 i) (if i = 0 then c0 else 0)
    rw [if_neg (by omega)]
    exact bh_mono a3 (Nat.le_trans (hs.2.1 w l (by omega)) (hs.1 0 _ _ (by omega) a3)) (Nat.zero_le _)
  have em : (if nI (st - 1) < nI (fpN st su l0 c0 i) then nI (st - 1) else nI (fpN st su l0 c0 i)) = nI (if st - 1 < fpN st su l0 c0 i then st - 1 else fpN st su l0 c0 i) := by
    by_cases c : st - 1 < fpN st su l0 c0 i
    · rw [if_pos c, if_pos ((n_lt (by omega) (by omega)).mpr c)]
    · rw [if_neg c, if_neg (fun d => c ((n_lt (by omega) (by omega)).mp d))]
  rw [em]
  have mb : (if st - 1 < fpN st su l0 c0 i then st - 1 else fpN st su l0 c0 i) ≤ fpN st su l0 c0 i ∧ (if st - 1 < fpN st su l0 c0 i then st - 1 else fpN st su l0 c0 i) + 1 ≤ st ∧ ∀ l, l ≤ fpN st su l0 c0 i → l ≠ st → l ≤ (if st - 1 < fpN st su l0 c0 i then st - 1 else fpN st su l0 c0 i) := by
    split
    · exact ⟨by omega, by omega, fun l a b => by omega⟩
    · exact ⟨by omega, by omega, fun l a b => by omega⟩
  generalize (if st - 1 < fpN st su l0 c0 i then st - 1 else fpN st su l0 c0 i) = most at mb ⊢
  refine ⟨most + 1 - l0 + 1, C_st_ob_37 N fo (v := od st fr th su cr m) hT (od_le (by omega) m) hf mb.1 mb.2.1 (fun R' q1 q2 q3 => hK R' (fun l a1 a2 => ?_) q3) (most + 1 - l0) l0 R (by omega) (Nat.le_refl _) (by omega) (fun i a1 a2 => by omega) (fun l a1 a2 => hV l a1 a2) (fun _ _ => rfl)⟩
  by_cases e : l = st
  · subst e; rw [q2, od_st, od_st]
  · rw [q1 l a1 (mb.2.2 l (by omega) e)]
    show _ = nI (if l = st then _ else _)
    rw [if_neg e, hcm]
theorem C_st_hh_37 (N : NKb st dy fr th d0 l0 c0 su) (fo : FOd st dy fr th d0 l0 c0 F) {cm f f1 most : Nat} {v : Nat → Nat} (hT : LYr st l0 (fun w l => bhN st (su w l) l cm) (R 402)) (hv : ∀ l, v l ≤ 1000000) (hf : ∀ w l, w < 3 → l0 ≤ l → l ≤ f → bhN st (su w l) l cm ≤ f1) (hm1 : most ≤ f) (hm2 : most + 1 ≤ st) {K : FT → RT → JT → PT → BT → Prop} (hK : ∀ R', (∀ i, l0 ≤ i → i ≤ most → R' 404 i = nI (mixN fr th (v (bhN st (su 0 i) i cm)) (v (bhN st (su 1 i) i cm)) (v (bhN st (su 2 i) i cm)))) → R' 404 st = nI (v st) → (∀ k, k ≠ 404 → R' k = R k) → K F R' J P B) : ∀ m l R', most + 1 ≤ l + m → l0 ≤ l → l ≤ st → (∀ i, l0 ≤ i → i < l → i ≤ most → R' 404 i = nI (mixN fr th (v (bhN st (su 0 i) i cm)) (v (bhN st (su 1 i) i cm)) (v (bhN st (su 2 i) i cm)))) → (∀ i, l ≤ i → (i ≤ f1 ∨ i = st) → R' 404 i = nI (v i)) → (∀ k, k ≠ 404 → R' k = R k) → qO_stepBack_hh_37 (m + 1) F R' J P B (nI most) (nI (10 - fr - th)) (nI l) K := by
  obtain ⟨n1, hs⟩ := N
  obtain ⟨e7, e8, e9, e10, e11, e12, e13⟩ := fo
  intro m
  induction m with
  | zero =>
    intro l R' hl h0 h2 h3 h4 h5
    unfold qO_stepBack_hh_37
    exact pk_lt most l (fun _ => hK R' (fun i a1 a2 => h3 i a1 (by omega) a2) (h4 st h2 (Or.inr rfl)) h5) (fun c => by omega)
  | succ m ih =>
    intro l R' hl h0 h2 h3 h4 h5
    unfold qO_stepBack_hh_37
    by_cases hlt : most < l
    · exact pk_lt most l (fun _ => hK R' (fun i a1 a2 => h3 i a1 (by omega) a2) (h4 st h2 (Or.inr rfl)) h5) (fun c => by omega)
    refine pk_lt most l (fun c => absurd c hlt) (fun _ => ?_)
    have t0 : R' 402 l = nI (bhN st (su 0 l) l cm) := by rw [h5 402 (by decide)]; have := hT 0 l (by omega) h0 h2; rw [show 0 * 201 + l = l by omega] at this; exact this
    have t1 : R' 402 (201 + l) = nI (bhN st (su 1 l) l cm) := by rw [h5 402 (by decide)]; have := hT 1 l (by omega) h0 h2; rw [show 1 * 201 + l = 201 + l by omega] at this; exact this
    have t2 : R' 402 (402 + l) = nI (bhN st (su 2 l) l cm) := by rw [h5 402 (by decide)]; have := hT 2 l (by omega) h0 h2; rw [show 2 * 201 + l = 402 + l by omega] at this; exact this
    have b0 := bhN_ge (su := su 0 l) (co := cm) h2
    have b1 := bhN_ge (su := su 1 l) (co := cm) h2
    have b2 := bhN_ge (su := su 2 l) (co := cm) h2
    have q0 := hf 0 l (by omega) h0 (by omega)
    have q1 := hf 1 l (by omega) h0 (by omega)
    have q2 := hf 2 l (by omega) h0 (by omega)
    have i1 : (201 : Int32) + nI l = nI (201 + l) := nI_add 201 l
    have i2 : (402 : Int32) + nI l = nI (402 + l) := nI_add 402 l
    rw [i1, i2, nI_clamp (n := l) (by omega), nI_clamp (n := 201 + l) (by omega), nI_clamp (n := 402 + l) (by omega), t0, t1, t2, nI_clamp (n := bhN st (su 0 l) l cm) (by omega), nI_clamp (n := bhN st (su 1 l) l cm) (by omega), nI_clamp (n := bhN st (su 2 l) l cm) (by omega), h4 _ b0.1 (Or.inl q0), h4 _ b1.1 (Or.inl q1), h4 _ b2.1 (Or.inl q2), e9, e10, mix_n (by omega) (hv _) (hv _) (hv _), nI_1]
    refine ⟨vp_in_nI (by omega) (by omega), vp_in_nI (by omega) (by omega), vp_in_nI (by omega) (by omega), vp_in_nI (by omega) (by omega), vp_in_nI (by omega) (by omega), vp_in_nI (by omega) (by omega), vp_in_nI (by omega) (by omega), ih (l + 1) _ (by omega) (by omega) (by omega) (fun i a1 a2 a3 => ?_) (fun i a1 a2 => ?_) (fun k hk => by rw [vu_ne hk, h5 k hk])⟩
    · rw [vu_eq]
      by_cases e : i = l
      · subst e; exact upd_eq
      · rw [upd_ne e]; exact h3 i a1 (by omega) a3
    · rw [vu_eq, upd_ne (by omega)]; exact h4 i (by omega) a2
/-- a day back, on the fair path -/
theorem C_st_hh (N : NKb st dy fr th d0 l0 c0 su) (H : RKd st dy fr th d0 l0 c0 su F R) {cm i m : Nat} {cr : Nat → Nat} (hcm : cr m = cm) (hi : 1 ≤ i) (hid : d0 + i ≤ dy) (hT : LYr st l0 (fun w l => bhN st (su w l) l cm) (R 402)) (hV : RVl st l0 (fpN st su l0 c0 (i + 1)) (od st fr th su cr m) (R 404)) {K : FT → RT → JT → PT → BT → Prop} (hK : ∀ R', RVl st l0 (fpN st su l0 c0 i) (od st fr th su cr (m + 1)) (R' 404) → (∀ k, k ≠ 404 → R' k = R k) → K F R' J P B) : qO_stepBack_hh F R J P B (nI (d0 + i)) K := by
  obtain ⟨n1, hs⟩ := id N
  obtain ⟨fo, h1, h2, h3⟩ := H
  obtain ⟨e7, e8, e9, e10, e11, e12, e13⟩ := id fo
  have fl := fp_le (su := su) (c0 := c0) (show l0 ≤ st by omega) i
  unfold qO_stepBack_hh
  rw [nI_clamp (n := d0 + i) (by omega), h3 i (by omega), e7, e9, e10, e12, ten_n (by omega), show nI st - (1 : Int32) = nI (st - 1) from pk_sub (b := 1) (by omega)]
  refine ⟨vp_in_nI (by omega) (by omega), ?_⟩
  have hf : ∀ w l, w < 3 → l0 ≤ l → l ≤ fpN st su l0 c0 i → bhN st (su w l) l cm ≤ fpN st su l0 c0 (i + 1) := by
    intro w l a1 a2 a3
    show _ ≤ bhN st (su 0 (fpN st su l0 c0 i)) (fpN st su l0 c0 i) (if i = 0 then c0 else 0)
    rw [if_neg (by omega)]
    exact bh_mono a3 (Nat.le_trans (hs.2.1 w l (by omega)) (hs.1 0 _ _ (by omega) a3)) (Nat.zero_le _)
  have em : (if nI (st - 1) < nI (fpN st su l0 c0 i) then nI (st - 1) else nI (fpN st su l0 c0 i)) = nI (if st - 1 < fpN st su l0 c0 i then st - 1 else fpN st su l0 c0 i) := by
    by_cases c : st - 1 < fpN st su l0 c0 i
    · rw [if_pos c, if_pos ((n_lt (by omega) (by omega)).mpr c)]
    · rw [if_neg c, if_neg (fun d => c ((n_lt (by omega) (by omega)).mp d))]
  rw [em]
  have mb : (if st - 1 < fpN st su l0 c0 i then st - 1 else fpN st su l0 c0 i) ≤ fpN st su l0 c0 i ∧ (if st - 1 < fpN st su l0 c0 i then st - 1 else fpN st su l0 c0 i) + 1 ≤ st ∧ ∀ l, l ≤ fpN st su l0 c0 i → l ≠ st → l ≤ (if st - 1 < fpN st su l0 c0 i then st - 1 else fpN st su l0 c0 i) := by
    split
    · exact ⟨by omega, by omega, fun l a b => by omega⟩
    · exact ⟨by omega, by omega, fun l a b => by omega⟩
  generalize (if st - 1 < fpN st su l0 c0 i then st - 1 else fpN st su l0 c0 i) = most at mb ⊢
  refine ⟨most + 1 - l0 + 1, C_st_hh_37 N fo (v := od st fr th su cr m) hT (od_le (by omega) m) hf mb.1 mb.2.1 (fun R' q1 q2 q3 => hK R' (fun l a1 a2 => ?_) q3) (most + 1 - l0) l0 R (by omega) (Nat.le_refl _) (by omega) (fun i a1 a2 => by omega) (fun l a1 a2 => hV l a1 a2) (fun _ _ => rfl)⟩
  by_cases e : l = st
  · subst e; rw [q2, od_st, od_st]
  · rw [q1 l a1 (mb.2.2 l (by omega) e)]
    show _ = nI (if l = st then _ else _)
    rw [if_neg e, hcm]
theorem C_st_hb_37 (N : NKb st dy fr th d0 l0 c0 su) (fo : FOd st dy fr th d0 l0 c0 F) {cm f f1 most : Nat} {v : Nat → Nat} (hT : LYr st l0 (fun w l => bhN st (su w l) l cm) (R 401)) (hv : ∀ l, v l ≤ 1000000) (hf : ∀ w l, w < 3 → l0 ≤ l → l ≤ f → bhN st (su w l) l cm ≤ f1) (hm1 : most ≤ f) (hm2 : most + 1 ≤ st) {K : FT → RT → JT → PT → BT → Prop} (hK : ∀ R', (∀ i, l0 ≤ i → i ≤ most → R' 404 i = nI (mixN fr th (v (bhN st (su 0 i) i cm)) (v (bhN st (su 1 i) i cm)) (v (bhN st (su 2 i) i cm)))) → R' 404 st = nI (v st) → (∀ k, k ≠ 404 → R' k = R k) → K F R' J P B) : ∀ m l R', most + 1 ≤ l + m → l0 ≤ l → l ≤ st → (∀ i, l0 ≤ i → i < l → i ≤ most → R' 404 i = nI (mixN fr th (v (bhN st (su 0 i) i cm)) (v (bhN st (su 1 i) i cm)) (v (bhN st (su 2 i) i cm)))) → (∀ i, l ≤ i → (i ≤ f1 ∨ i = st) → R' 404 i = nI (v i)) → (∀ k, k ≠ 404 → R' k = R k) → qO_stepBack_hb_37 (m + 1) F R' J P B (nI most) (nI (10 - fr - th)) (nI l) K := by
  obtain ⟨n1, hs⟩ := N
  obtain ⟨e7, e8, e9, e10, e11, e12, e13⟩ := fo
  intro m
  induction m with
  | zero =>
    intro l R' hl h0 h2 h3 h4 h5
    unfold qO_stepBack_hb_37
    exact pk_lt most l (fun _ => hK R' (fun i a1 a2 => h3 i a1 (by omega) a2) (h4 st h2 (Or.inr rfl)) h5) (fun c => by omega)
  | succ m ih =>
    intro l R' hl h0 h2 h3 h4 h5
    unfold qO_stepBack_hb_37
    by_cases hlt : most < l
    · exact pk_lt most l (fun _ => hK R' (fun i a1 a2 => h3 i a1 (by omega) a2) (h4 st h2 (Or.inr rfl)) h5) (fun c => by omega)
    refine pk_lt most l (fun c => absurd c hlt) (fun _ => ?_)
    have t0 : R' 401 l = nI (bhN st (su 0 l) l cm) := by rw [h5 401 (by decide)]; have := hT 0 l (by omega) h0 h2; rw [show 0 * 201 + l = l by omega] at this; exact this
    have t1 : R' 401 (201 + l) = nI (bhN st (su 1 l) l cm) := by rw [h5 401 (by decide)]; have := hT 1 l (by omega) h0 h2; rw [show 1 * 201 + l = 201 + l by omega] at this; exact this
    have t2 : R' 401 (402 + l) = nI (bhN st (su 2 l) l cm) := by rw [h5 401 (by decide)]; have := hT 2 l (by omega) h0 h2; rw [show 2 * 201 + l = 402 + l by omega] at this; exact this
    have b0 := bhN_ge (su := su 0 l) (co := cm) h2
    have b1 := bhN_ge (su := su 1 l) (co := cm) h2
    have b2 := bhN_ge (su := su 2 l) (co := cm) h2
    have q0 := hf 0 l (by omega) h0 (by omega)
    have q1 := hf 1 l (by omega) h0 (by omega)
    have q2 := hf 2 l (by omega) h0 (by omega)
    have i1 : (201 : Int32) + nI l = nI (201 + l) := nI_add 201 l
    have i2 : (402 : Int32) + nI l = nI (402 + l) := nI_add 402 l
    rw [i1, i2, nI_clamp (n := l) (by omega), nI_clamp (n := 201 + l) (by omega), nI_clamp (n := 402 + l) (by omega), t0, t1, t2, nI_clamp (n := bhN st (su 0 l) l cm) (by omega), nI_clamp (n := bhN st (su 1 l) l cm) (by omega), nI_clamp (n := bhN st (su 2 l) l cm) (by omega), h4 _ b0.1 (Or.inl q0), h4 _ b1.1 (Or.inl q1), h4 _ b2.1 (Or.inl q2), e9, e10, mix_n (by omega) (hv _) (hv _) (hv _), nI_1]
    refine ⟨vp_in_nI (by omega) (by omega), vp_in_nI (by omega) (by omega), vp_in_nI (by omega) (by omega), vp_in_nI (by omega) (by omega), vp_in_nI (by omega) (by omega), vp_in_nI (by omega) (by omega), vp_in_nI (by omega) (by omega), ih (l + 1) _ (by omega) (by omega) (by omega) (fun i a1 a2 a3 => ?_) (fun i a1 a2 => ?_) (fun k hk => by rw [vu_ne hk, h5 k hk])⟩
    · rw [vu_eq]
      by_cases e : i = l
      · subst e; exact upd_eq
      · rw [upd_ne e]; exact h3 i a1 (by omega) a3
    · rw [vu_eq, upd_ne (by omega)]; exact h4 i (by omega) a2
/-- a day back, on the fair path -/
theorem C_st_hb (N : NKb st dy fr th d0 l0 c0 su) (H : RKd st dy fr th d0 l0 c0 su F R) {cm i m : Nat} {cr : Nat → Nat} (hcm : cr m = cm) (hi : 1 ≤ i) (hid : d0 + i ≤ dy) (hT : LYr st l0 (fun w l => bhN st (su w l) l cm) (R 401)) (hV : RVl st l0 (fpN st su l0 c0 (i + 1)) (od st fr th su cr m) (R 404)) {K : FT → RT → JT → PT → BT → Prop} (hK : ∀ R', RVl st l0 (fpN st su l0 c0 i) (od st fr th su cr (m + 1)) (R' 404) → (∀ k, k ≠ 404 → R' k = R k) → K F R' J P B) : qO_stepBack_hb F R J P B (nI (d0 + i)) K := by
  obtain ⟨n1, hs⟩ := id N
  obtain ⟨fo, h1, h2, h3⟩ := H
  obtain ⟨e7, e8, e9, e10, e11, e12, e13⟩ := id fo
  have fl := fp_le (su := su) (c0 := c0) (show l0 ≤ st by omega) i
  unfold qO_stepBack_hb
  rw [nI_clamp (n := d0 + i) (by omega), h3 i (by omega), e7, e9, e10, e12, ten_n (by omega), show nI st - (1 : Int32) = nI (st - 1) from pk_sub (b := 1) (by omega)]
  refine ⟨vp_in_nI (by omega) (by omega), ?_⟩
  have hf : ∀ w l, w < 3 → l0 ≤ l → l ≤ fpN st su l0 c0 i → bhN st (su w l) l cm ≤ fpN st su l0 c0 (i + 1) := by
    intro w l a1 a2 a3
    show _ ≤ bhN st (su 0 (fpN st su l0 c0 i)) (fpN st su l0 c0 i) (if i = 0 then c0 else 0)
    rw [if_neg (by omega)]
    exact bh_mono a3 (Nat.le_trans (hs.2.1 w l (by omega)) (hs.1 0 _ _ (by omega) a3)) (Nat.zero_le _)
  have em : (if nI (st - 1) < nI (fpN st su l0 c0 i) then nI (st - 1) else nI (fpN st su l0 c0 i)) = nI (if st - 1 < fpN st su l0 c0 i then st - 1 else fpN st su l0 c0 i) := by
    by_cases c : st - 1 < fpN st su l0 c0 i
    · rw [if_pos c, if_pos ((n_lt (by omega) (by omega)).mpr c)]
    · rw [if_neg c, if_neg (fun d => c ((n_lt (by omega) (by omega)).mp d))]
  rw [em]
  have mb : (if st - 1 < fpN st su l0 c0 i then st - 1 else fpN st su l0 c0 i) ≤ fpN st su l0 c0 i ∧ (if st - 1 < fpN st su l0 c0 i then st - 1 else fpN st su l0 c0 i) + 1 ≤ st ∧ ∀ l, l ≤ fpN st su l0 c0 i → l ≠ st → l ≤ (if st - 1 < fpN st su l0 c0 i then st - 1 else fpN st su l0 c0 i) := by
    split
    · exact ⟨by omega, by omega, fun l a b => by omega⟩
    · exact ⟨by omega, by omega, fun l a b => by omega⟩
  generalize (if st - 1 < fpN st su l0 c0 i then st - 1 else fpN st su l0 c0 i) = most at mb ⊢
  refine ⟨most + 1 - l0 + 1, C_st_hb_37 N fo (v := od st fr th su cr m) hT (od_le (by omega) m) hf mb.1 mb.2.1 (fun R' q1 q2 q3 => hK R' (fun l a1 a2 => ?_) q3) (most + 1 - l0) l0 R (by omega) (Nat.le_refl _) (by omega) (fun i a1 a2 => by omega) (fun l a1 a2 => hV l a1 a2) (fun _ _ => rfl)⟩
  by_cases e : l = st
  · subst e; rw [q2, od_st, od_st]
  · rw [q1 l a1 (mb.2.2 l (by omega) e)]
    show _ = nI (if l = st then _ else _)
    rw [if_neg e, hcm]
/-- a day back, whatever the row holds -/
theorem C_st_any (N : NKb st dy fr th d0 l0 c0 su) (H : RKd st dy fr th d0 l0 c0 su F R) {i : Nat} (hid : d0 + i ≤ dy) {K : FT → RT → JT → PT → BT → Prop} (hK : ∀ R', (∀ k, k ≠ 403 → R' k = R k) → K F R' J P B) : qO_stepBack_ob F R J P B (nI (d0 + i)) K := by
  obtain ⟨n1, hs⟩ := id N
  obtain ⟨fo, h1, h2, h3⟩ := H
  obtain ⟨e7, e8, e9, e10, e11, e12, e13⟩ := id fo
  have fl := fp_le (su := su) (c0 := c0) (show l0 ≤ st by omega) i
  have loop : ∀ most v5 m l R', most ≤ st → most + 1 ≤ l + m → l0 ≤ l → l ≤ 201 → (∀ k, k ≠ 403 → R' k = R k) → qO_stepBack_ob_37 (m + 1) F R' J P B (nI most) v5 (nI l) K := by
    intro most v5 m
    induction m with
    | zero =>
      intro l R' hm hl _ hl2 f
      unfold qO_stepBack_ob_37
      exact pk_lt most l (fun _ => hK R' f) (fun c => by omega)
    | succ m ih =>
      intro l R' hm hl h0 hl2 f
      unfold qO_stepBack_ob_37
      by_cases hlt : most < l
      · exact pk_lt most l (fun _ => hK R' f) (fun c => by omega)
      refine pk_lt most l (fun c => absurd c hlt) (fun _ => ?_)
      have t0 : R' 401 l = nI (bhN st (su 0 l) l 0) := by rw [f 401 (by decide)]; have := h2 0 l (by omega) h0 (by omega); rw [show 0 * 201 + l = l by omega] at this; exact this
      have t1 : R' 401 (201 + l) = nI (bhN st (su 1 l) l 0) := by rw [f 401 (by decide)]; have := h2 1 l (by omega) h0 (by omega); rw [show 1 * 201 + l = 201 + l by omega] at this; exact this
      have t2 : R' 401 (402 + l) = nI (bhN st (su 2 l) l 0) := by rw [f 401 (by decide)]; have := h2 2 l (by omega) h0 (by omega); rw [show 2 * 201 + l = 402 + l by omega] at this; exact this
      have b0 := bhN_ge (st := st) (su := su 0 l) (co := 0) (laid := l) (by omega)
      have b1 := bhN_ge (st := st) (su := su 1 l) (co := 0) (laid := l) (by omega)
      have b2 := bhN_ge (st := st) (su := su 2 l) (co := 0) (laid := l) (by omega)
      have i1 : (201 : Int32) + nI l = nI (201 + l) := nI_add 201 l
      have i2 : (402 : Int32) + nI l = nI (402 + l) := nI_add 402 l
      rw [i1, i2, nI_clamp (n := l) (by omega), nI_clamp (n := 201 + l) (by omega), nI_clamp (n := 402 + l) (by omega), t0, t1, t2, nI_1]
      exact ⟨vp_in_nI (by omega) (by omega), vp_in_nI (by omega) (by omega), vp_in_nI (by omega) (by omega), vp_in_nI (by omega) (by omega), vp_in_nI (by omega) (by omega), vp_in_nI (by omega) (by omega), vp_in_nI (by omega) (by omega), ih (l + 1) _ hm (by omega) (by omega) (by omega) (fun k hk => by rw [vu_ne hk, f k hk])⟩
  unfold qO_stepBack_ob
  rw [nI_clamp (n := d0 + i) (by omega), h3 i (by omega), e7, e12, show nI st - (1 : Int32) = nI (st - 1) from pk_sub (b := 1) (by omega)]
  refine ⟨vp_in_nI (by omega) (by omega), 202, ?_⟩
  split
  · exact loop (st - 1) _ 201 l0 R (by omega) (by omega) (Nat.le_refl _) (by omega) (fun _ _ => rfl)
  · exact loop _ _ 201 l0 R fl.2 (by omega) (Nat.le_refl _) (by omega) (fun _ _ => rfl)
theorem C_goB (N : NKb st dy fr th d0 l0 c0 su) (H : RKd st dy fr th d0 l0 c0 su F R) {K : FT → RT → JT → PT → BT → Prop} (hK : ∀ R', (d0 < dy → RVl st l0 (fpN st su l0 c0 1) (od st fr th su (fun _ => 0) (dy - d0 - 1)) (R' 403)) → (∀ k, k ≠ 403 → R' k = R k) → K F R' J P B) : qO_goBackToTomorrow F R J P B K := by
  obtain ⟨n1, hs⟩ := id N
  obtain ⟨fo, h1, h2, h3⟩ := id H
  obtain ⟨e7, e8, e9, e10, e11, e12, e13⟩ := id fo
  have loop : ∀ i R', d0 + i + 1 ≤ dy → RVl st l0 (fpN st su l0 c0 (i + 1)) (od st fr th su (fun _ => 0) (dy - d0 - i - 1)) (R' 403) → (∀ k, k ≠ 403 → R' k = R k) → qO_goBackToTomorrow_11 (i + 1) F R' J P B (nI (d0 + i)) K := by
    intro i
    induction i with
    | zero =>
      intro R' hi V f
      unfold qO_goBackToTomorrow_11
      exact pk_le d0 d0 (fun _ => hK R' (fun _ => V) f) (fun c => by omega) rfl e11
    | succ i ih =>
      intro R' hi V f
      unfold qO_goBackToTomorrow_11
      refine pk_le (d0 + (i + 1)) d0 (fun c => by omega) (fun _ => C_st_ob N (H.cg (fun _ _ _ => rfl) ⟨f _ (by decide), f _ (by decide), f _ (by decide)⟩) (cm := 0) (cr := fun _ => 0) rfl (by omega) (by omega) (by rw [f 401 (by decide)]; exact h2) V (fun R2 V2 f2 => ?_)) rfl e11
      rw [show d0 + (i + 1) = d0 + i + 1 by omega, pk_m1]
      refine ih R2 (by omega) ?_ (fun k hk => by rw [f2 k hk, f k hk])
      rw [show dy - d0 - i - 1 = dy - d0 - (i + 1) - 1 + 1 by omega]
      exact V2
  refine C_start (fr := fr) (th := th) (su := su) (cr := fun _ => 0) e7 e12 (by omega) (by omega) (fun R1 V1 f1 => ?_)
  rw [e8, show nI dy - (1 : Int32) = nI (dy - 1) from pk_sub (b := 1) (by omega)]
  by_cases hd : d0 < dy
  · refine ⟨dy - d0 - 1 + 1, ?_⟩
    have := loop (dy - d0 - 1) R1 (by omega) (fun l a1 a2 => ?_) f1
    · rw [show d0 + (dy - d0 - 1) = dy - 1 by omega] at this; exact this
    · rw [show dy - d0 - (dy - d0 - 1) - 1 = 0 by omega]
      have := (fp_le (su := su) (c0 := c0) (show l0 ≤ st by omega) (dy - d0 - 1 + 1)).2
      exact V1 l a1 (by omega)
  · refine ⟨1, ?_⟩
    unfold qO_goBackToTomorrow_11
    exact pk_le (dy - 1) d0 (fun _ => hK R1 (fun c => absurd c hd) f1) (fun c => by omega) rfl e11
theorem C_td_o (N : NKb st dy fr th d0 l0 c0 su) (H : RKd st dy fr th d0 l0 c0 su F R) {co : Nat} {v : Nat → Nat} (hco : c0 ≤ co) (hc : co ≤ 400) (hv : ∀ l, v l ≤ 1000000) (hV : d0 < dy → RVl st l0 (fpN st su l0 c0 1) v (R 403)) {K : Int32 → FT → RT → JT → PT → BT → Prop} (hK : K (nI (if l0 = st then 1000000 else if d0 < dy then mixN fr th (v (bhN st (su 0 l0) l0 co)) (v (bhN st (su 1 l0) l0 co)) (v (bhN st (su 2 l0) l0 co)) else 0)) F R J P B) : qO_oddsToday_o F R J P B (nI co) K := by
  obtain ⟨n1, hs⟩ := id N
  obtain ⟨fo, h1, h2, h3⟩ := id H
  obtain ⟨e7, e8, e9, e10, e11, e12, e13⟩ := id fo
  unfold qO_oddsToday_o
  by_cases hl : l0 = st
  · rw [if_pos hl] at hK
    exact pk_lt l0 st (fun c => by omega) (fun _ => hK) e12 e7
  rw [if_neg hl] at hK
  refine pk_lt l0 st (fun _ => ?_) (fun c => by omega) e12 e7
  by_cases hd : d0 < dy
  · rw [if_pos hd] at hK
    refine pk_lt d0 dy (fun _ => ?_) (fun c => by omega) e11 e8
    have V := hV hd
    have q : ∀ w, w < 3 → bhN st (su w l0) l0 co ≤ fpN st su l0 c0 1 := fun w hw => bh_mono (Nat.le_refl _) (hs.2.1 w l0 (by omega)) (by rw [if_pos rfl]; exact hco)
    have b0 := bhN_ge (su := su 0 l0) (co := co) (show l0 ≤ st by omega)
    have b1 := bhN_ge (su := su 1 l0) (co := co) (show l0 ≤ st by omega)
    have b2 := bhN_ge (su := su 2 l0) (co := co) (show l0 ≤ st by omega)
    rw [e12]
    refine C_laidB (w := 0) e7 h1 hs (by omega) (by omega) (Nat.le_refl _) (by omega) hc ⟨vp_in_nI (by omega) (by omega), ?_⟩
    rw [e12]
    refine C_laidB (w := 1) e7 h1 hs (by omega) (by omega) (Nat.le_refl _) (by omega) hc ⟨vp_in_nI (by omega) (by omega), ?_⟩
    rw [e12]
    refine C_laidB (w := 2) e7 h1 hs (by omega) (by omega) (Nat.le_refl _) (by omega) hc ⟨vp_in_nI (by omega) (by omega), ?_⟩
    rw [nI_clamp (n := bhN st (su 0 l0) l0 co) (by omega), nI_clamp (n := bhN st (su 1 l0) l0 co) (by omega), nI_clamp (n := bhN st (su 2 l0) l0 co) (by omega), V _ b0.1 (Or.inl (q 0 (by omega))), V _ b1.1 (Or.inl (q 1 (by omega))), V _ b2.1 (Or.inl (q 2 (by omega))), e9, e10, ten_n (by omega), mix_n (by omega) (hv _) (hv _) (hv _)]
    exact hK
  · rw [if_neg hd] at hK
    exact pk_lt d0 dy (fun c => absurd c hd) (fun _ => hK) e11 e8
theorem C_td_h (N : NKb st dy fr th d0 l0 c0 su) (H : RKd st dy fr th d0 l0 c0 su F R) {co : Nat} {v : Nat → Nat} (hco : c0 ≤ co) (hc : co ≤ 400) (hv : ∀ l, v l ≤ 1000000) (hV : d0 < dy → RVl st l0 (fpN st su l0 c0 1) v (R 404)) {K : Int32 → FT → RT → JT → PT → BT → Prop} (hK : K (nI (if l0 = st then 1000000 else if d0 < dy then mixN fr th (v (bhN st (su 0 l0) l0 co)) (v (bhN st (su 1 l0) l0 co)) (v (bhN st (su 2 l0) l0 co)) else 0)) F R J P B) : qO_oddsToday_h F R J P B (nI co) K := by
  obtain ⟨n1, hs⟩ := id N
  obtain ⟨fo, h1, h2, h3⟩ := id H
  obtain ⟨e7, e8, e9, e10, e11, e12, e13⟩ := id fo
  unfold qO_oddsToday_h
  by_cases hl : l0 = st
  · rw [if_pos hl] at hK
    exact pk_lt l0 st (fun c => by omega) (fun _ => hK) e12 e7
  rw [if_neg hl] at hK
  refine pk_lt l0 st (fun _ => ?_) (fun c => by omega) e12 e7
  by_cases hd : d0 < dy
  · rw [if_pos hd] at hK
    refine pk_lt d0 dy (fun _ => ?_) (fun c => by omega) e11 e8
    have V := hV hd
    have q : ∀ w, w < 3 → bhN st (su w l0) l0 co ≤ fpN st su l0 c0 1 := fun w hw => bh_mono (Nat.le_refl _) (hs.2.1 w l0 (by omega)) (by rw [if_pos rfl]; exact hco)
    have b0 := bhN_ge (su := su 0 l0) (co := co) (show l0 ≤ st by omega)
    have b1 := bhN_ge (su := su 1 l0) (co := co) (show l0 ≤ st by omega)
    have b2 := bhN_ge (su := su 2 l0) (co := co) (show l0 ≤ st by omega)
    rw [e12]
    refine C_laidB (w := 0) e7 h1 hs (by omega) (by omega) (Nat.le_refl _) (by omega) hc ⟨vp_in_nI (by omega) (by omega), ?_⟩
    rw [e12]
    refine C_laidB (w := 1) e7 h1 hs (by omega) (by omega) (Nat.le_refl _) (by omega) hc ⟨vp_in_nI (by omega) (by omega), ?_⟩
    rw [e12]
    refine C_laidB (w := 2) e7 h1 hs (by omega) (by omega) (Nat.le_refl _) (by omega) hc ⟨vp_in_nI (by omega) (by omega), ?_⟩
    rw [nI_clamp (n := bhN st (su 0 l0) l0 co) (by omega), nI_clamp (n := bhN st (su 1 l0) l0 co) (by omega), nI_clamp (n := bhN st (su 2 l0) l0 co) (by omega), V _ b0.1 (Or.inl (q 0 (by omega))), V _ b1.1 (Or.inl (q 1 (by omega))), V _ b2.1 (Or.inl (q 2 (by omega))), e9, e10, ten_n (by omega), mix_n (by omega) (hv _) (hv _) (hv _)]
    exact hK
  · rw [if_neg hd] at hK
    exact pk_lt d0 dy (fun c => absurd c hd) (fun _ => hK) e11 e8
/-- today's odds in the two forms -/
theorem today_od {cr : Nat → Nat} {co : Nat} (hd0 : d0 ≤ dy) (hk : d0 < dy → cr (dy - d0 - 1) = co) (h0 : ∀ j, j < dy - d0 - 1 → cr j = 0) : (if l0 = st then 1000000 else if d0 < dy then mixN fr th (od st fr th su (fun _ => 0) (dy - d0 - 1) (bhN st (su 0 l0) l0 co)) (od st fr th su (fun _ => 0) (dy - d0 - 1) (bhN st (su 1 l0) l0 co)) (od st fr th su (fun _ => 0) (dy - d0 - 1) (bhN st (su 2 l0) l0 co)) else 0) = od st fr th su cr (dy - d0) l0 := by
  by_cases hd : d0 < dy
  · rw [if_pos hd, show dy - d0 = dy - d0 - 1 + 1 by omega, od_top (hk hd) h0]; rfl
  · rw [if_neg hd, show dy - d0 = 0 by omega]; rfl
end OS
