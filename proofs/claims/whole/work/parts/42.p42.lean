/-! ===== the pure part: odds, the numbers ===== -/
def mixN (fr th a b c : Nat) : Nat := (a * (10 - fr - th) + b * fr + c * th) / 10
theorem mix_sum {fr th a b c M : Nat} (h : fr + th ≤ 10) (ha : a ≤ M) (hb : b ≤ M) (hc : c ≤ M) : a * (10 - fr - th) + b * fr + c * th ≤ M * 10 := by
  have h1 := Nat.mul_le_mul_right (10 - fr - th) ha
  have h2 := Nat.mul_le_mul_right fr hb
  have h3 := Nat.mul_le_mul_right th hc
  have e : M * 10 = M * (10 - fr - th) + M * fr + M * th := by rw [← Nat.mul_add, ← Nat.mul_add]; exact congrArg (M * ·) (by omega)
  omega
theorem mix_le {fr th a b c M : Nat} (h : fr + th ≤ 10) (ha : a ≤ M) (hb : b ≤ M) (hc : c ≤ M) : mixN fr th a b c ≤ M := by
  have := mix_sum h ha hb hc
  unfold mixN
  omega
theorem mix_mono {fr th a b c a' b' c' : Nat} (ha : a ≤ a') (hb : b ≤ b') (hc : c ≤ c') : mixN fr th a b c ≤ mixN fr th a' b' c' := by
  have h1 := Nat.mul_le_mul_right (10 - fr - th) ha
  have h2 := Nat.mul_le_mul_right fr hb
  have h3 := Nat.mul_le_mul_right th hc
  unfold mixN
  exact Nat.div_le_div_right (by omega)
theorem ten_n {fr th : Nat} (h : fr + th ≤ 10) : (10 : Int32) - nI fr - nI th = nI (10 - fr - th) := by
  rw [show (10 : Int32) - nI fr = nI (10 - fr) from pk_sub (a := 10) (by omega), pk_sub (by omega)]
theorem mix_n {fr th a b c : Nat} (h : fr + th ≤ 10) (ha : a ≤ 1000000) (hb : b ≤ 1000000) (hc : c ≤ 1000000) : (nI a * nI (10 - fr - th) + nI b * nI fr + nI c * nI th) / (10 : Int32) = nI (mixN fr th a b c) := by
  have := mix_sum h ha hb hc
  rw [pk_mul, pk_mul, pk_mul, nI_add, nI_add]
  exact pk_div (d := 10) (by omega) (by omega) (by omega)
def od (st fr th : Nat) (su : Nat → Nat → Nat) (cr : Nat → Nat) : Nat → Nat → Nat
  | 0, l => if l = st then 1000000 else 0
  | m + 1, l => if l = st then 1000000 else mixN fr th (od st fr th su cr m (bhN st (su 0 l) l (cr m))) (od st fr th su cr m (bhN st (su 1 l) l (cr m))) (od st fr th su cr m (bhN st (su 2 l) l (cr m)))
section OD
variable {st fr th : Nat} {su su' : Nat → Nat → Nat} {cr cr' : Nat → Nat}
theorem od_st : ∀ m, od st fr th su cr m st = 1000000 := by
  intro m
  cases m with
  | zero => exact if_pos rfl
  | succ m => exact if_pos rfl
theorem od_le (h : fr + th ≤ 10) : ∀ m l, od st fr th su cr m l ≤ 1000000 := by
  intro m
  induction m with
  | zero => intro l; unfold od; split <;> omega
  | succ m ih =>
    intro l
    unfold od
    split
    · omega
    · exact mix_le h (ih _) (ih _) (ih _)
theorem od_cg : ∀ m, (∀ j, j < m → cr j = cr' j) → ∀ l, od st fr th su cr m l = od st fr th su cr' m l := by
  intro m
  induction m with
  | zero => intro _ l; rfl
  | succ m ih =>
    intro h l
    unfold od
    rw [h m (by omega), ih (fun j hj => h j (by omega)), ih (fun j hj => h j (by omega)), ih (fun j hj => h j (by omega))]
theorem bh_mono {s s' l l' co co' : Nat} (hl : l ≤ l') (hs : s ≤ s') (hc : co' ≤ co) : bhN st s l co ≤ bhN st s' l' co' := by
  unfold bhN
  split <;> split <;> omega
/-- what is laid never falls with what is laid ahead -/
def SuOK (su : Nat → Nat → Nat) : Prop := (∀ w l l', w ≤ 2 → l ≤ l' → su w l ≤ su w l') ∧ (∀ w l, w ≤ 2 → su w l ≤ su 0 l) ∧ (∀ w l, w ≤ 2 → l ≤ 200 → su w l ≤ 304)
theorem od_mono (hs : SuOK su) (h : fr + th ≤ 10) : ∀ m l l', l ≤ l' → l' ≤ st → od st fr th su cr m l ≤ od st fr th su cr m l' := by
  intro m
  induction m with
  | zero =>
    intro l l' h1 h2
    unfold od
    by_cases e : l = st
    · rw [if_pos e, if_pos (by omega)]; exact Nat.le_refl _
    · rw [if_neg e]; exact Nat.zero_le _
  | succ m ih =>
    intro l l' h1 h2
    by_cases e' : l' = st
    · rw [e', od_st]; exact od_le h _ _
    · unfold od
      rw [if_neg (by omega), if_neg e']
      exact mix_mono (ih _ _ (bh_mono h1 (hs.1 0 _ _ (by omega) h1) (Nat.le_refl _)) (bhN_ge h2).2) (ih _ _ (bh_mono h1 (hs.1 1 _ _ (by omega) h1) (Nat.le_refl _)) (bhN_ge h2).2) (ih _ _ (bh_mono h1 (hs.1 2 _ _ (by omega) h1) (Nat.le_refl _)) (bhN_ge h2).2)
theorem od_su (hs' : SuOK su') (h : fr + th ≤ 10) (hss : ∀ w l, w ≤ 2 → su w l ≤ su' w l) : ∀ m l, l ≤ st → od st fr th su cr m l ≤ od st fr th su' cr m l := by
  intro m
  induction m with
  | zero => intro l _; exact Nat.le_refl _
  | succ m ih =>
    intro l hl
    by_cases e : l = st
    · rw [e, od_st, od_st]; exact Nat.le_refl _
    · unfold od
      rw [if_neg e, if_neg e]
      have go : ∀ w, w ≤ 2 → od st fr th su cr m (bhN st (su w l) l (cr m)) ≤ od st fr th su' cr m (bhN st (su' w l) l (cr m)) := fun w hw => Nat.le_trans (ih _ (bhN_ge hl).2) (od_mono hs' h m _ _ (bh_mono (Nat.le_refl _) (hss w l hw) (Nat.le_refl _)) (bhN_ge hl).2)
      exact mix_mono (go 0 (by omega)) (go 1 (by omega)) (go 2 (by omega))
theorem od_top {k l co : Nat} (hk : cr k = co) (h0 : ∀ j, j < k → cr j = 0) : od st fr th su cr (k + 1) l = if l = st then 1000000 else mixN fr th (od st fr th su (fun _ => 0) k (bhN st (su 0 l) l co)) (od st fr th su (fun _ => 0) k (bhN st (su 1 l) l co)) (od st fr th su (fun _ => 0) k (bhN st (su 2 l) l co)) := by
  rw [od, hk, od_cg (cr' := fun _ => 0) k h0, od_cg (cr' := fun _ => 0) k h0, od_cg (cr' := fun _ => 0) k h0]
end OD
/-- the most that can be laid, by days from now -/
def fpN (st : Nat) (su : Nat → Nat → Nat) (l0 c0 : Nat) : Nat → Nat
  | 0 => l0
  | k + 1 => bhN st (su 0 (fpN st su l0 c0 k)) (fpN st su l0 c0 k) (if k = 0 then c0 else 0)
theorem fp_le {st : Nat} {su : Nat → Nat → Nat} {l0 c0 : Nat} (h : l0 ≤ st) : ∀ k, l0 ≤ fpN st su l0 c0 k ∧ fpN st su l0 c0 k ≤ st := by
  intro k
  induction k with
  | zero => exact ⟨Nat.le_refl _, h⟩
  | succ k ih =>
    have := bhN_ge (st := st) (su := su 0 (fpN st su l0 c0 k)) (co := if k = 0 then c0 else 0) ih.2
    unfold fpN
    omega
theorem hv_mono {kd pc hs l l' m m' : Nat} (h : l ≤ l') (hm : m ≤ m') : hvN kd pc hs l m ≤ hvN kd pc hs l' m' := by
  have : l / 10 ≤ l' / 10 := Nat.div_le_div_right h
  unfold hvN
  split
  · omega
  · split
    · omega
    · split <;> omega
theorem lv_mono {w kd z z' : Nat} (h : z ≤ z') : lvN w kd z ≤ lvN w kd z' := by
  have : z / 2 ≤ z' / 2 := Nat.div_le_div_right h
  unfold lvN
  split
  · exact h
  · split
    · split <;> omega
    · split <;> omega
theorem ly_mono {b : Nat → Nat → Nat} {w l l' fa m m' k : Nat} (h : l ≤ l') (hm : m ≤ m') : lyN b w l fa m k ≤ lyN b w l' fa m' k := by
  unfold lyN
  refine lv_mono (hv_mono h ?_)
  split <;> omega
theorem ly_0 {b : Nat → Nat → Nat} {w l fa m k : Nat} : lyN b w l fa m k ≤ lyN b 0 l fa m k := by
  unfold lyN
  exact lvN_le
theorem su_mono {b : Nat → Nat → Nat} {w l l' fa m m' : Nat} (h : l ≤ l') (hm : m ≤ m') : ∀ n, suN b w l fa m n ≤ suN b w l' fa m' n := by
  intro n
  induction n with
  | zero => exact Nat.le_refl _
  | succ n ih => have := ly_mono (b := b) (w := w) (fa := fa) (k := n) h hm; unfold suN; omega
theorem su_0 {b : Nat → Nat → Nat} {w l fa m : Nat} : ∀ n, suN b w l fa m n ≤ suN b 0 l fa m n := by
  intro n
  induction n with
  | zero => exact Nat.le_refl _
  | succ n ih => have := ly_0 (b := b) (w := w) (l := l) (fa := fa) (m := m) (k := n); unfold suN; omega
theorem AOK.su {x : Nat → Nat} {b h p : Nat → Nat → Nat} (A : AOK x b h p) (fa : Nat) {mo : Nat} (hm : mo ≤ 20) : SuOK (fun w l => suN b w l fa mo (x 11)) := by
  have a1 := A.1
  refine ⟨fun w l l' _ h => su_mono h (Nat.le_refl _) _, fun w l _ => su_0 _, fun w l _ hl => ?_⟩
  have := suN_le (w := w) (fa := fa) hl hm (x 11) (fun k hk => ⟨(A.2.1 k hk).2.2.1, (A.2.1 k hk).2.2.2⟩)
  show suN b w l fa mo (x 11) ≤ 304
  omega
theorem INV.odds {F F' : FT} {R R' : RT} {J : JT} {P : PT} {B : BT} {F0 F0' : FT} {R0 R0' : RT} {J0 : JT} (I : INV F R J P B F0 R0 J0) (hF : ∀ k, ¬ (407 ≤ k ∧ k ≤ 415) → F' k = F k) (hR : ∀ k, ¬ (400 ≤ k ∧ k ≤ 406) → R' k = R k) (hF0 : ∀ k, k ≠ 2 → F0' k = F0 k) (hR0 : ∀ k, k ≠ 10 → k ≠ 11 → k ≠ 12 → R0' k = R0 k) : INV F' R' J P B F0' R0' J0 :=
  I.cg (I.1.cg (fun k a b => hF k (by omega)) (fun k a b => hR k (by omega)) rfl (fun _ hz => hz) (hF0 9 (by decide)) ⟨hR0 0 (by decide) (by decide) (by decide), hR0 8 (by decide) (by decide) (by decide)⟩) (fun k hk => hF k (by omega)) (fun k hk => hR k (by omega)) rfl (fun _ hz => hz) (fun k hk => hF0 k (by omega)) (fun k hk => hR0 k (by omega) (by omega) (by omega))
