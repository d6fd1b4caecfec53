/-! ===== the pure part: a bargain's reading, the class's side ===== -/
def sk (T : Nat → Nat) (nt : Nat) : Nat → Nat → Nat
  | 0, a => a
  | m + 1, a => if a < nt ∧ T a = 32 then sk T nt m (a + 1) else a
def skp (T : Nat → Nat) (nt a : Nat) : Nat := sk T nt (60 - a) a
def ch (T : Nat → Nat) (nt a : Nat) : Nat := if a < nt then T a else 0
theorem sk_le {T : Nat → Nat} {nt : Nat} : ∀ m a, a ≤ nt → a ≤ sk T nt m a ∧ sk T nt m a ≤ nt := by
  intro m
  induction m with
  | zero => intro a h; exact ⟨Nat.le_refl _, h⟩
  | succ m ih =>
    intro a h
    unfold sk
    by_cases c : a < nt ∧ T a = 32
    · rw [if_pos c]; have := ih (a + 1) (by omega); omega
    · rw [if_neg c]; exact ⟨Nat.le_refl _, h⟩
theorem sk_fix {T : Nat → Nat} {nt : Nat} : ∀ m a, nt ≤ a + m → ¬ (sk T nt m a < nt ∧ T (sk T nt m a) = 32) := by
  intro m
  induction m with
  | zero => intro a h c; have : a < nt := c.1; omega
  | succ m ih =>
    intro a h
    unfold sk
    by_cases c : a < nt ∧ T a = 32
    · rw [if_pos c]; exact ih (a + 1) (by omega)
    · rw [if_neg c]; exact c
theorem sk_id {T : Nat → Nat} {nt a : Nat} (h : ¬ (a < nt ∧ T a = 32)) : ∀ m, sk T nt m a = a := by
  intro m
  cases m with
  | zero => rfl
  | succ m => exact if_neg h
theorem skp_le {T : Nat → Nat} {nt a : Nat} (h : a ≤ nt) : a ≤ skp T nt a ∧ skp T nt a ≤ nt := sk_le _ a h
theorem skp_id {T : Nat → Nat} {nt a : Nat} (hn : nt ≤ 60) (h : a ≤ nt) : skp T nt (skp T nt a) = skp T nt a := sk_id (sk_fix _ _ (by omega)) _
theorem ch_lt {T : Nat → Nat} {nt a : Nat} (h : ch T nt a ≠ 0) : a < nt := by
  unfold ch at h
  by_cases c : a < nt
  · exact c
  · rw [if_neg c] at h; exact absurd rfl h
/-- a tape's letters -/
def TX (T : Nat → Nat) (nt : Nat) (f : Nat → Int32) : Prop := nt ≤ 60 ∧ ∀ k, k < nt → 32 ≤ T k ∧ T k ≤ 126 ∧ f k = nI (T k)
theorem TX.le {T : Nat → Nat} {nt : Nat} {f : Nat → Int32} (X : TX T nt f) (a : Nat) : ch T nt a ≤ 126 := by
  unfold ch
  by_cases c : a < nt
  · rw [if_pos c]; exact (X.2 a c).2.1
  · rw [if_neg c]; omega
def dgOK (lo c : Nat) : Bool := decide (48 ≤ c ∧ c ≤ 57 ∧ lo ≤ c - 48)
theorem dg_iff {lo c : Nat} : dgOK lo c = true ↔ (48 ≤ c ∧ c ≤ 57 ∧ lo ≤ c - 48) := decide_eq_true_iff
def dgs (T : Nat → Nat) (nt : Nat) : Nat → Nat → Nat → Nat × Nat
  | 0, a, v => (v, a)
  | m + 1, a, v => if a < nt ∧ 48 ≤ T a ∧ T a ≤ 57 then dgs T nt m (a + 1) (10 * v + (T a - 48)) else (v, a)
theorem dgs_le {T : Nat → Nat} {nt : Nat} : ∀ m a v, a ≤ nt → a ≤ (dgs T nt m a v).2 ∧ (dgs T nt m a v).2 ≤ nt := by
  intro m
  induction m with
  | zero => intro a v h; exact ⟨Nat.le_refl _, h⟩
  | succ m ih =>
    intro a v h
    unfold dgs
    by_cases c : a < nt ∧ 48 ≤ T a ∧ T a ≤ 57
    · rw [if_pos c]; have := ih (a + 1) (10 * v + (T a - 48)) (by omega); omega
    · rw [if_neg c]; exact ⟨Nat.le_refl _, h⟩
def kdN (c : Nat) : Nat := if c = 112 then 0 else if c = 104 then 1 else if c = 98 then 2 else if c = 103 then 3 else if c = 119 then 4 else 9
def rw3 (kd pc hs : Nat) : Nat → Nat := fun t => if t = 0 then kd else if t = 1 then pc else hs
def rw2 (c o : Nat) : Nat → Nat := fun t => if t = 0 then c else o
def bldE (T : Nat → Nat) (nt a : Nat) : Except Nat ((Nat × Nat × Nat) × Nat) :=
  if kdN (ch T nt (skp T nt a)) = 9 then .error (skp T nt a) else
  if dgOK 1 (ch T nt (skp T nt (skp T nt a + 1))) then
  if dgOK 0 (ch T nt (skp T nt (skp T nt (skp T nt a + 1) + 1))) then .ok ((kdN (ch T nt (skp T nt a)), ch T nt (skp T nt (skp T nt a + 1)) - 48, ch T nt (skp T nt (skp T nt (skp T nt a + 1) + 1)) - 48), skp T nt (skp T nt (skp T nt a + 1) + 1) + 1)
  else .error (skp T nt (skp T nt (skp T nt a + 1) + 1)) else .error (skp T nt (skp T nt a + 1))
def bldsE (T : Nat → Nat) (nt : Nat) : Nat → Nat → Nat → (Nat → Nat → Nat) → Except Nat (Nat × Nat × (Nat → Nat → Nat))
  | 0, k, a, bk => .ok (k, a, bk)
  | m + 1, k, a, bk => if 0 < k ∧ ch T nt (skp T nt a) ≠ 44 then .ok (k, skp T nt a, bk) else
    match bldE T nt (if 0 < k then skp T nt a + 1 else a) with
    | .error s => .error s
    | .ok ((kd, pc, hs), a') => bldsE T nt m (k + 1) a' (va_up bk k (rw3 kd pc hs))
def hndE (T : Nat → Nat) (nt a : Nat) : Except Nat ((Nat × Nat) × Nat) :=
  if dgOK 1 (ch T nt (skp T nt a)) then
  if 97 ≤ ch T nt (skp T nt (skp T nt a + 1)) ∧ ch T nt (skp T nt (skp T nt a + 1)) ≤ 100 then .ok ((ch T nt (skp T nt a) - 48, ch T nt (skp T nt (skp T nt a + 1)) - 97), skp T nt (skp T nt a + 1) + 1)
  else .ok ((ch T nt (skp T nt a) - 48, 4), skp T nt (skp T nt a + 1)) else .error (skp T nt a)
def hndsE (T : Nat → Nat) (nt : Nat) : Nat → Nat → Nat → (Nat → Nat → Nat) → Except Nat (Nat × (Nat → Nat → Nat))
  | 0, _, a, _ => .error a
  | m + 1, k, a, hk => if 0 < k ∧ ch T nt (skp T nt a) ≠ 44 then .error (skp T nt a) else
    match hndE T nt (if 0 < k then skp T nt a + 1 else a) with
    | .error s => .error s
    | .ok ((c, o), a') => if ch T nt (skp T nt a') = 0 then .ok (k + 1, va_up hk k (rw2 c o)) else hndsE T nt m (k + 1) (skp T nt a') (va_up hk k (rw2 c o))
/-- what a bargain says: stones, days, builders, hindrances -/
def par4 (T : Nat → Nat) (nt v0 v1 nb a : Nat) (bk hk : Nat → Nat → Nat) : Except Nat (Nat × Nat × (Nat × (Nat → Nat → Nat)) × (Nat × (Nat → Nat → Nat))) :=
  if ch T nt (skp T nt a) = 0 then .ok (v0, v1, (nb, bk), (0, hk)) else
  if ch T nt (skp T nt a) = 59 then
    match hndsE T nt 6 0 (skp T nt a + 1) hk with
    | .error s => .error s
    | .ok (nh, hk') => .ok (v0, v1, (nb, bk), (nh, hk'))
  else .error (skp T nt a)
def par3 (T : Nat → Nat) (nt v0 v1 a : Nat) (bk hk : Nat → Nat → Nat) : Except Nat (Nat × Nat × (Nat × (Nat → Nat → Nat)) × (Nat × (Nat → Nat → Nat))) :=
  if ch T nt (skp T nt a) = 59 then
    match bldsE T nt 4 0 (skp T nt a + 1) bk with
    | .error s => .error s
    | .ok (nb, a', bk') => par4 T nt v0 v1 nb a' bk' hk
  else .error (skp T nt a)
def par2 (T : Nat → Nat) (nt v0 a : Nat) (bk hk : Nat → Nat → Nat) : Except Nat (Nat × Nat × (Nat × (Nat → Nat → Nat)) × (Nat × (Nat → Nat → Nat))) :=
  if ch T nt (skp T nt a) = 44 then
    if 1 ≤ (dgs T nt 3 (skp T nt (skp T nt a + 1)) 0).1 ∧ (dgs T nt 3 (skp T nt (skp T nt a + 1)) 0).1 ≤ 40 then par3 T nt v0 (dgs T nt 3 (skp T nt (skp T nt a + 1)) 0).1 (dgs T nt 3 (skp T nt (skp T nt a + 1)) 0).2 bk hk
    else .error (skp T nt (skp T nt a + 1))
  else .error (skp T nt a)
def parE (T : Nat → Nat) (nt : Nat) (bk hk : Nat → Nat → Nat) : Except Nat (Nat × Nat × (Nat × (Nat → Nat → Nat)) × (Nat × (Nat → Nat → Nat))) :=
  if 1 ≤ (dgs T nt 3 (skp T nt 0) 0).1 ∧ (dgs T nt 3 (skp T nt 0) 0).1 ≤ 200 then par2 T nt (dgs T nt 3 (skp T nt 0) 0).1 (dgs T nt 3 (skp T nt 0) 0).2 bk hk else .error (skp T nt 0)
def bOKN (nb : Nat) (bk : Nat → Nat → Nat) : Prop := nb ≤ 4 ∧ ∀ k, k < nb → bk k 0 ≤ 4 ∧ 1 ≤ bk k 1 ∧ bk k 1 ≤ 9 ∧ bk k 2 ≤ 9
def hOKN (nh : Nat) (hk : Nat → Nat → Nat) : Prop := nh ≤ 6 ∧ ∀ k, k < nh → 1 ≤ hk k 0 ∧ hk k 0 ≤ 9 ∧ hk k 1 ≤ 4
/-- the class amid its reading -/
def CP (T : Nat → Nat) (nt : Nat) (F : FT) (R : RT) (a nb nh : Nat) (bk hk : Nat → Nat → Nat) : Prop :=
  TX T nt (R 300) ∧ a ≤ nt ∧ F 306 = nI nt ∧ F 312 = nI a ∧ (F 309 = nI nb ∧ bOKN nb bk ∧ ∀ k, k < nb → R 301 k = nI (bk k 0) ∧ R 302 k = nI (bk k 1) ∧ R 303 k = nI (bk k 2)) ∧ (F 310 = nI nh ∧ hOKN nh hk ∧ ∀ k, k < nh → R 304 k = nI (hk k 0) ∧ R 305 k = oaV (hk k 1))
theorem CP.mv {T : Nat → Nat} {nt : Nat} {F F' : FT} {R : RT} {a a' nb nh : Nat} {bk hk : Nat → Nat → Nat} (H : CP T nt F R a nb nh bk hk) (e : F' 312 = nI a') (h : a' ≤ nt) (f : ∀ k, k ≠ 312 → k ≠ 311 → F' k = F k) : CP T nt F' R a' nb nh bk hk := by
  obtain ⟨h1, h2, h3, h4, ⟨h5, h5b⟩, ⟨h6, h6b⟩⟩ := H
  exact ⟨h1, h, by rw [f _ (by decide) (by decide)]; exact h3, e, ⟨by rw [f _ (by decide) (by decide)]; exact h5, h5b⟩, ⟨by rw [f _ (by decide) (by decide)]; exact h6, h6b⟩⟩
section CPS
variable {T : Nat → Nat} {nt : Nat} {F : FT} {R : RT} {J : JT} {P : PT} {B : BT} {a nb nh : Nat} {bk hk : Nat → Nat → Nat}
theorem C_next_loop {K : Int32 → FT → RT → JT → PT → BT → Prop} : ∀ m a F, a + m = 60 → CP T nt F R a nb nh bk hk → (∀ F', CP T nt F' R (sk T nt m a) nb nh bk hk → (∀ k, k ≠ 312 → F' k = F k) → K (nI (ch T nt (sk T nt m a))) F' R J P B) → qT_next_0 (m + 1) F R J P B K := by
  intro m
  induction m with
  | zero =>
    intro a F hm H hK
    obtain ⟨h1, h2, h3, h4, -⟩ := id H
    have e : ch T nt a = 0 := if_neg (by have := h1.1; omega)
    have k0 : K 0 F R J P B := by
      have := hK F H (fun _ _ => rfl)
      rw [show sk T nt 0 a = a from rfl, e] at this
      exact this
    have n1 := h1.1
    unfold qT_next_0 qT_next_38
    exact pk_le nt a (fun _ => pk_le nt a (fun _ => k0) (fun c => by omega) h3 h4) (fun c => by omega) h3 h4
  | succ m ih =>
    intro a F hm H hK
    obtain ⟨h1, h2, h3, h4, -⟩ := id H
    have n1 := h1.1
    by_cases hlt : a < nt
    · obtain ⟨t1, t2, t3⟩ := h1.2 a hlt
      have cl : (F 312).toNatClampNeg = a := by rw [h4, nI_clamp (by omega)]
      have vi : vp_in (F 312) 60 := by rw [h4]; exact vp_in_nI (by omega) (by omega)
      unfold qT_next_0 qT_next_38
      rw [cl, t3]
      refine pk_le nt a (fun c => by omega) (fun _ => ⟨vi, fun c => ?_, fun c => ?_⟩) h3 h4
      · have ne : ¬ (a < nt ∧ T a = 32) := fun q => c (congrArg nI q.2)
        have := hK F (by rw [sk_id ne]; exact H) (fun _ _ => rfl)
        rw [sk_id ne, show ch T nt a = T a from if_pos hlt] at this
        exact pk_le nt a (fun c => by omega) (fun _ => ⟨vi, (pk_charN (q := T a) (by omega)).1, this⟩) h3 h4
      · have c : T a = 32 := (n_eq (b := 32) (by omega) (by omega)).mp c
        rw [show sk T nt (m + 1) a = sk T nt m (a + 1) from if_pos ⟨hlt, c⟩] at hK
        rw [h4, nI_1]
        refine ih (a + 1) _ (by omega) (H.mv upd_eq (by omega) (fun k h _ => upd_ne h)) (fun F' H' f' => hK F' H' (fun k hk => by rw [f' k hk, upd_ne hk]))
    · have e : ch T nt a = 0 := if_neg hlt
      have ne : ¬ (a < nt ∧ T a = 32) := fun q => hlt q.1
      have k0 : K 0 F R J P B := by
        have := hK F (by rw [sk_id ne]; exact H) (fun _ _ => rfl)
        rw [sk_id ne, e] at this
        exact this
      unfold qT_next_0 qT_next_38
      exact pk_le nt a (fun _ => pk_le nt a (fun _ => k0) (fun c => by omega) h3 h4) (fun c => by omega) h3 h4
theorem C_next (H : CP T nt F R a nb nh bk hk) {K : Int32 → FT → RT → JT → PT → BT → Prop} (hK : ∀ F', CP T nt F' R (skp T nt a) nb nh bk hk → (∀ k, k ≠ 312 → F' k = F k) → K (nI (ch T nt (skp T nt a))) F' R J P B) : qT_next F R J P B K := ⟨60 - a + 1, C_next_loop (60 - a) a F (by have := H.1.1; have := H.2.1; omega) H hK⟩
theorem C_sign (c : Nat) (hc : c ≠ 0) (hc2 : c < 2 ^ 31) (H : CP T nt F R a nb nh bk hk) {K : Int32 → FT → RT → JT → PT → BT → Prop} (h1 : ch T nt (skp T nt a) = c → ∀ F', CP T nt F' R (skp T nt a + 1) nb nh bk hk → (∀ k, k ≠ 312 → F' k = F k) → K 1 F' R J P B) (h2 : ch T nt (skp T nt a) ≠ c → ∀ F', F' 311 = nI (skp T nt a) → (∀ k, k ≠ 311 → k ≠ 312 → F' k = F k) → K 0 F' R J P B) : qT_readSign F R J P B (nI c) K := by
  refine C_next H (fun F' H' f' => ?_)
  have hb := H.1.le (skp T nt a)
  refine pk_eq _ c (fun e => ?_) (fun e => ⟨Or.inl rfl, ?_⟩)
  · have lt := ch_lt (T := T) (nt := nt) (a := skp T nt a) (by omega)
    rw [show F' 312 = nI (skp T nt a) from H'.2.2.2.1, nI_1]
    exact h1 e _ (H'.mv upd_eq (by omega) (fun k h _ => upd_ne h)) (fun k hk => by rw [upd_ne hk, f' k hk])
  · refine h2 e _ (by rw [upd_eq]; exact H'.2.2.2.1) (fun k q1 q2 => by rw [upd_ne q1, f' k q2])
theorem C_isDigit {c : Nat} (hc : c ≤ 126) {K : Int32 → FT → RT → JT → PT → BT → Prop} (h1 : 48 ≤ c ∧ c ≤ 57 → K 1 F R J P B) (h2 : ¬ (48 ≤ c ∧ c ≤ 57) → K 0 F R J P B) : qT_isDigit F R J P B (nI c) K := by
  unfold qT_isDigit
  exact pk_lt c 48 (fun q => h2 (by omega)) (fun q => pk_lt 57 c (fun q2 => h2 (by omega)) (fun q2 => h1 (by omega)))
theorem C_digit (lo : Nat) (hlo : lo ≤ 1) (H : CP T nt F R a nb nh bk hk) {K : Int32 → FT → RT → JT → PT → BT → Prop} (h1 : dgOK lo (ch T nt (skp T nt a)) → ∀ F', CP T nt F' R (skp T nt a + 1) nb nh bk hk → (∀ k, k ≠ 312 → F' k = F k) → K (nI (ch T nt (skp T nt a) - 48)) F' R J P B) (h2 : ¬ dgOK lo (ch T nt (skp T nt a)) → ∀ F', F' 311 = nI (skp T nt a) → (∀ k, k ≠ 311 → k ≠ 312 → F' k = F k) → K (-1) F' R J P B) : qT_readDigit F R J P B (nI lo) K := by
  refine C_next H (fun F' H' f' => ?_)
  have hb := H.1.le (skp T nt a)
  have fail : ¬ dgOK lo (ch T nt (skp T nt a)) → qT_readDigit_20 F' R J P B K := fun q => h2 q _ (by rw [upd_eq]; exact H'.2.2.2.1) (fun k q1 q2 => by rw [upd_ne q1, f' k q2])
  refine C_isDigit hb (fun q => ⟨fun c => absurd c (by decide), fun _ => ?_⟩) (fun q => ⟨fun _ => fail (fun d => q ⟨(dg_iff.mp d).1, (dg_iff.mp d).2.1⟩), fun c => absurd rfl c⟩)
  have es : nI (ch T nt (skp T nt a)) - (48 : Int32) = nI (ch T nt (skp T nt a) - 48) := pk_sub (b := 48) q.1
  rw [es]
  refine pk_le lo (ch T nt (skp T nt a) - 48) (fun d => ?_) (fun d => fail (fun d2 => by have := (dg_iff.mp d2).2.2; omega))
  have lt := ch_lt (T := T) (nt := nt) (a := skp T nt a) (by omega)
  rw [show F' 312 = nI (skp T nt a) from H'.2.2.2.1, nI_1]
  exact h1 (dg_iff.mpr ⟨q.1, q.2, d⟩) _ (H'.mv upd_eq (by omega) (fun k h _ => upd_ne h)) (fun k hk => by rw [upd_ne hk, f' k hk])
theorem C_num_loop (s most : Nat) (hmost : most ≤ 200) {K : Int32 → FT → RT → JT → PT → BT → Prop} : ∀ m a v F, a = s + (3 - m) → m ≤ 3 → v < 10 ^ (3 - m) → CP T nt F R a nb nh bk hk → (1 ≤ (dgs T nt m a v).1 ∧ (dgs T nt m a v).1 ≤ most → ∀ F', CP T nt F' R (dgs T nt m a v).2 nb nh bk hk → (∀ k, k ≠ 312 → F' k = F k) → K (nI (dgs T nt m a v).1) F' R J P B) → (¬ (1 ≤ (dgs T nt m a v).1 ∧ (dgs T nt m a v).1 ≤ most) → ∀ F', F' 311 = nI s → (∀ k, k ≠ 311 → k ≠ 312 → F' k = F k) → K (-1) F' R J P B) → qT_readNumber_12 (m + 1) F R J P B (nI most) (nI s) (nI v) K := by
  have fin : ∀ m a v F, v < 1000 → dgs T nt m a v = (v, a) → CP T nt F R a nb nh bk hk → (1 ≤ (dgs T nt m a v).1 ∧ (dgs T nt m a v).1 ≤ most → ∀ F', CP T nt F' R (dgs T nt m a v).2 nb nh bk hk → (∀ k, k ≠ 312 → F' k = F k) → K (nI (dgs T nt m a v).1) F' R J P B) → (¬ (1 ≤ (dgs T nt m a v).1 ∧ (dgs T nt m a v).1 ≤ most) → ∀ F', F' 311 = nI s → (∀ k, k ≠ 311 → k ≠ 312 → F' k = F k) → K (-1) F' R J P B) → qT_readNumber_79 F R J P B (nI most) (nI s) (nI v) K := by
    intro m a v F hv e H g1 g2
    rw [e] at g1 g2
    unfold qT_readNumber_79
    by_cases c : 1 ≤ v ∧ v ≤ most
    · exact wi_y (by rw [t_n (by omega)]; exact Int.ofNat_le.mpr c.1) (by rw [t_n (by omega), t_n (by omega)]; exact Int.ofNat_le.mpr c.2) ⟨fun _ => g1 c F H (fun _ _ => rfl), fun q => absurd q (by decide)⟩
    · refine wi_n ?_ ⟨fun q => absurd rfl q, fun _ => g2 c _ upd_eq (fun k q1 _ => upd_ne q1)⟩
      rw [t_n (n := v) (by omega), t_n (n := most) (by omega)]
      by_cases c1 : 1 ≤ v
      · right; omega
      · left; have : (1 : Int32).toInt = 1 := rfl
        omega
  intro m
  induction m with
  | zero =>
    intro a v F ha hm hv H g1 g2
    have f := fin 0 a v F (by simpa using hv) rfl H g1 g2
    obtain ⟨h1, h2, h3, h4, -⟩ := id H
    have n1 := h1.1
    have es : F 312 - nI s = nI 3 := by rw [h4, pk_sub (by omega)]; exact congrArg nI (by omega)
    unfold qT_readNumber_12
    rw [es]
    exact pk_le nt a (fun _ => f) (fun _ => ⟨fun _ => f, fun c => absurd (by decide) c⟩) h3 h4
  | succ m ih =>
    intro a v F ha hm hv H g1 g2
    obtain ⟨h1, h2, h3, h4, -⟩ := id H
    have n1 := h1.1
    have v1000 : v < 1000 := Nat.lt_of_lt_of_le hv (Nat.pow_le_pow_right (n := 10) (i := 3 - (m + 1)) (j := 3) (by omega) (by omega))
    have es : F 312 - nI s = nI (3 - (m + 1)) := by rw [h4, pk_sub (by omega)]; exact congrArg nI (by omega)
    by_cases hlt : a < nt
    · obtain ⟨t1, t2, t3⟩ := h1.2 a hlt
      have cl : (F 312).toNatClampNeg = a := by rw [h4, nI_clamp (by omega)]
      have vi : vp_in (F 312) 60 := by rw [h4]; exact vp_in_nI (by omega) (by omega)
      unfold qT_readNumber_12
      rw [es, cl, t3]
      refine pk_le nt a (fun c => by omega) (fun _ => pk_le 3 (3 - (m + 1)) (fun c => by omega) (fun _ => ⟨vi, C_isDigit t2 (fun q => ⟨fun c => absurd c (by decide), fun _ => ⟨vi, ?_⟩⟩) (fun q => ⟨fun _ => ?_, fun c => absurd rfl c⟩)⟩)) h3 h4
      · have e : dgs T nt (m + 1) a v = dgs T nt m (a + 1) (10 * v + (T a - 48)) := if_pos ⟨hlt, q⟩
        rw [e] at g1 g2
        have ev : nI v * 10 + (nI (T a) - 48) = nI (10 * v + (T a - 48)) := by
          rw [show nI (T a) - (48 : Int32) = nI (T a - 48) from pk_sub (b := 48) q.1, show nI v * (10 : Int32) = nI (v * 10) from pk_mul v 10, nI_add, Nat.mul_comm v 10]
        rw [cl, t3, h4, nI_1, ev]
        refine ih (a + 1) _ _ (by omega) (by omega) ?_ (H.mv upd_eq (by omega) (fun k h _ => upd_ne h)) (fun c F' H' f' => g1 c F' H' (fun k hk => by rw [f' k hk, upd_ne hk])) (fun c F' e' f' => g2 c F' e' (fun k q1 q2 => by rw [f' k q1 q2, upd_ne q2]))
        have e3 : 3 - m = (3 - (m + 1)) + 1 := by omega
        rw [e3, Nat.pow_succ]
        omega
      · exact fin (m + 1) a v F v1000 (if_neg (fun c => q c.2)) H g1 g2
    · have f := fin (m + 1) a v F v1000 (if_neg (fun c => hlt c.1)) H g1 g2
      unfold qT_readNumber_12
      exact pk_le nt a (fun _ => f) (fun c => by omega) h3 h4
theorem C_num (most : Nat) (hmost : most ≤ 200) (H : CP T nt F R a nb nh bk hk) {K : Int32 → FT → RT → JT → PT → BT → Prop} (g1 : 1 ≤ (dgs T nt 3 (skp T nt a) 0).1 ∧ (dgs T nt 3 (skp T nt a) 0).1 ≤ most → ∀ F', CP T nt F' R (dgs T nt 3 (skp T nt a) 0).2 nb nh bk hk → (∀ k, k ≠ 312 → F' k = F k) → K (nI (dgs T nt 3 (skp T nt a) 0).1) F' R J P B) (g2 : ¬ (1 ≤ (dgs T nt 3 (skp T nt a) 0).1 ∧ (dgs T nt 3 (skp T nt a) 0).1 ≤ most) → ∀ F', F' 311 = nI (skp T nt a) → (∀ k, k ≠ 311 → k ≠ 312 → F' k = F k) → K (-1) F' R J P B) : qT_readNumber F R J P B (nI most) K := by
  refine C_next H (fun F' H' f' => ⟨4, ?_⟩)
  rw [show F' 312 = nI (skp T nt a) from H'.2.2.2.1]
  exact C_num_loop (skp T nt a) most hmost 3 (skp T nt a) 0 F' (by omega) (by omega) (by decide) H' (fun c F2 H2 f2 => g1 c F2 H2 (fun k hk => by rw [f2 k hk, f' k hk])) (fun c F2 e2 f2 => g2 c F2 e2 (fun k q1 q2 => by rw [f2 k q1 q2, f' k q2]))
theorem C_kind {c : Nat} (hc : c ≤ 126) {K : Int32 → FT → RT → JT → PT → BT → Prop} (h1 : kdN c ≠ 9 → K (nI (kdN c)) F R J P B) (h2 : kdN c = 9 → K (-1) F R J P B) : qT_kindOf F R J P B (nI c) K := by
  have q : ∀ n, n < 2 ^ 31 → (nI c = nI n ↔ c = n) := fun n hn => n_eq (by omega) hn
  unfold qT_kindOf
  refine ⟨fun e => ?_, fun e => ?_, fun e => ?_, fun e => ?_, fun e => ?_, fun e1 e2 e3 e4 e5 => h2 ?_⟩
  · have e := (q 98 (by omega)).mp e; subst e; exact h1 (by decide)
  · have e := (q 103 (by omega)).mp e; subst e; exact h1 (by decide)
  · have e := (q 104 (by omega)).mp e; subst e; exact h1 (by decide)
  · have e := (q 112 (by omega)).mp e; subst e; exact h1 (by decide)
  · have e := (q 119 (by omega)).mp e; subst e; exact h1 (by decide)
  · unfold kdN
    rw [if_neg (fun e => e4 (congrArg nI e)), if_neg (fun e => e3 (congrArg nI e)), if_neg (fun e => e1 (congrArg nI e)), if_neg (fun e => e2 (congrArg nI e)), if_neg (fun e => e5 (congrArg nI e))]
theorem kdN_le {c : Nat} (h : kdN c ≠ 9) : kdN c ≤ 4 ∧ c ≠ 0 := by
  unfold kdN at h ⊢
  repeat' split
  all_goals first | omega | exact absurd (by repeat' (split <;> try omega)) h
end CPS
