/-! ===== the pure part: a bargain's reading, the reference's side ===== -/
def MB (T : Nat → Nat) (nt : Nat) (F : FT) (R : RT) (a : Nat) : Prop := TX T nt (R 3) ∧ a ≤ nt ∧ F 4 = nI nt ∧ F 5 = nI a
def MRw (R : RT) (nb nh : Nat) (bk hk : Nat → Nat → Nat) : Prop := nb ≤ 4 ∧ nh ≤ 6 ∧ (∀ k, k < nb → R 7 (3 * k) = nI (bk k 0) ∧ R 7 (3 * k + 1) = nI (bk k 1) ∧ R 7 (3 * k + 2) = nI (bk k 2)) ∧ (∀ k, k < nh → R 7 (12 + 2 * k) = nI (hk k 0) ∧ R 7 (13 + 2 * k) = oaV (hk k 1))
def FrM (F F' : FT) (R R' : RT) : Prop := (∀ k, k ≠ 5 → k ≠ 6 → F' k = F k) ∧ (∀ k, k ≠ 7 → R' k = R k)
theorem FrM.tr {F F1 F2 : FT} {R R1 R2 : RT} (h : FrM F F1 R R1) (g : FrM F1 F2 R1 R2) : FrM F F2 R R2 := ⟨fun k a b => (g.1 k a b).trans (h.1 k a b), fun k a => (g.2 k a).trans (h.2 k a)⟩
theorem FrM.rf {F : FT} {R : RT} : FrM F F R R := ⟨fun _ _ _ => rfl, fun _ _ => rfl⟩
theorem FrM.a {F F1 : FT} {R : RT} (h : ∀ k, k ≠ 5 → F1 k = F k) : FrM F F1 R R := ⟨fun k a _ => h k a, fun _ _ => rfl⟩
theorem MB.mv {T : Nat → Nat} {nt : Nat} {F F' : FT} {R : RT} {a a' : Nat} (H : MB T nt F R a) (e : F' 5 = nI a') (h : a' ≤ nt) (f : ∀ k, k ≠ 5 → k ≠ 6 → F' k = F k) : MB T nt F' R a' := ⟨H.1, h, by rw [f 4 (by decide) (by decide)]; exact H.2.2.1, e⟩
section MPS
variable {T : Nat → Nat} {nt : Nat} {F : FT} {R : RT} {J : JT} {a nb nh : Nat} {bk hk : Nat → Nat → Nat}
theorem M_here_loop {K : Int32 → FT → RT → JT → Prop} : ∀ m a F, a + m = 60 → MB T nt F R a → (∀ F', MB T nt F' R (sk T nt m a) → (∀ k, k ≠ 5 → F' k = F k) → K (nI (ch T nt (sk T nt m a))) F' R J) → qM_here_0 (m + 1) F R J K := by
  intro m
  induction m with
  | zero =>
    intro a F hm H hK
    obtain ⟨h1, h2, h3, h4⟩ := id H
    have n1 := h1.1
    have e : ch T nt a = 0 := if_neg (by omega)
    have k0 : K 0 F R J := by
      have := hK F H (fun _ _ => rfl)
      rw [show sk T nt 0 a = a from rfl, e] at this
      exact this
    unfold qM_here_0 qM_here_38
    exact pk_le nt a (fun _ => pk_le nt a (fun _ => k0) (fun c => by omega) h3 h4) (fun c => by omega) h3 h4
  | succ m ih =>
    intro a F hm H hK
    obtain ⟨h1, h2, h3, h4⟩ := id H
    have n1 := h1.1
    by_cases hlt : a < nt
    · obtain ⟨t1, t2, t3⟩ := h1.2 a hlt
      have cl : (F 5).toNatClampNeg = a := by rw [h4, nI_clamp (by omega)]
      have vi : vp_in (F 5) 60 := by rw [h4]; exact vp_in_nI (by omega) (by omega)
      unfold qM_here_0 qM_here_38
      rw [cl, t3]
      refine pk_le nt a (fun c => by omega) (fun _ => ⟨vi, fun c => ?_, fun c => ?_⟩) h3 h4
      · have ne : ¬ (a < nt ∧ T a = 32) := fun q => c (congrArg nI q.2)
        have := hK F (by rw [sk_id ne]; exact H) (fun _ _ => rfl)
        rw [sk_id ne, show ch T nt a = T a from if_pos hlt] at this
        exact pk_le nt a (fun c => by omega) (fun _ => ⟨vi, this⟩) h3 h4
      · have c : T a = 32 := (n_eq (b := 32) (by omega) (by omega)).mp c
        rw [show sk T nt (m + 1) a = sk T nt m (a + 1) from if_pos ⟨hlt, c⟩] at hK
        rw [h4, nI_1]
        refine ih (a + 1) _ (by omega) (H.mv upd_eq (by omega) (fun k h _ => upd_ne h)) (fun F' H' f' => hK F' H' (fun k hk => by rw [f' k hk, upd_ne hk]))
    · have e : ch T nt a = 0 := if_neg hlt
      have ne : ¬ (a < nt ∧ T a = 32) := fun q => hlt q.1
      have k0 : K 0 F R J := by
        have := hK F (by rw [sk_id ne]; exact H) (fun _ _ => rfl)
        rw [sk_id ne, e] at this
        exact this
      unfold qM_here_0 qM_here_38
      exact pk_le nt a (fun _ => pk_le nt a (fun _ => k0) (fun c => by omega) h3 h4) (fun c => by omega) h3 h4
theorem M_here (H : MB T nt F R a) {K : Int32 → FT → RT → JT → Prop} (hK : ∀ F', MB T nt F' R (skp T nt a) → (∀ k, k ≠ 5 → F' k = F k) → K (nI (ch T nt (skp T nt a))) F' R J) : qM_here F R J K := ⟨60 - a + 1, M_here_loop (60 - a) a F (by have := H.1.1; have := H.2.1; omega) H hK⟩
theorem M_must_y (h6 : F 6 = 0) {K : FT → RT → JT → Prop} (hK : K (upd F 6 0) R J) : qM_must F R J 1 K := ⟨fun c => absurd h6 c, fun _ => ⟨fun _ => hK, fun c => absurd c (by decide)⟩⟩
theorem M_must_n {K : FT → RT → JT → Prop} (hK : K (upd F 6 1) R J) : qM_must F R J 0 K := ⟨fun _ => hK, fun _ => ⟨fun c => absurd rfl c, fun _ => hK⟩⟩
theorem M_must_f (h6 : F 6 = 1) {v : Int32} {K : FT → RT → JT → Prop} (hK : K (upd F 6 1) R J) : qM_must F R J v K := ⟨fun _ => hK, fun c => by rw [h6] at c; exact absurd c (by decide)⟩
theorem up0 {v : Nat} : nI v + (0 : Int32) = nI v := nI_add v 0
theorem M_takes_y (c : Nat) (hc : c ≠ 0) (hc2 : c < 2 ^ 31) (H : MB T nt F R a) (h6 : F 6 = 0) {K : FT → RT → JT → Prop} (g1 : ch T nt (skp T nt a) = c → ∀ F', MB T nt F' R (skp T nt a + 1) → F' 6 = 0 → FrM F F' R R → K F' R J) (g2 : ch T nt (skp T nt a) ≠ c → ∀ F', MB T nt F' R (skp T nt a) → F' 6 = 1 → FrM F F' R R → K F' R J) : qM_takes F R J (nI c) K := by
  refine M_here H (fun F1 H1 f1 => And.symm (pk_eq _ c (fun e => ?_) (fun e => ?_) rfl rfl (by have := H.1.le (skp T nt a); omega) hc2))
  · have lt := ch_lt (T := T) (nt := nt) (a := skp T nt a) (by omega)
    unfold qM_takes_14
    refine M_must_y (by rw [f1 6 (by decide)]; exact h6) ⟨fun _ => ?_, fun q => absurd upd_eq q⟩
    rw [upd_ne (show (5 : Nat) ≠ 6 by decide), show F1 5 = nI (skp T nt a) from H1.2.2.2, nI_1]
    exact g1 e _ (H1.mv upd_eq (by omega) (fun k q1 q2 => by rw [upd_ne q1, upd_ne q2])) (by rw [upd_ne (by decide), upd_eq]) ⟨fun k q1 q2 => by rw [upd_ne q1, upd_ne q2, f1 k q1], fun _ _ => rfl⟩
  · unfold qM_takes_14
    refine M_must_n ⟨fun q => by rw [upd_eq] at q; exact absurd q (by decide), fun _ => ?_⟩
    rw [upd_ne (show (5 : Nat) ≠ 6 by decide), show F1 5 = nI (skp T nt a) from H1.2.2.2, up0]
    exact g2 e _ (H1.mv upd_eq H1.2.1 (fun k q1 q2 => by rw [upd_ne q1, upd_ne q2])) (by rw [upd_ne (by decide), upd_eq]) ⟨fun k q1 q2 => by rw [upd_ne q1, upd_ne q2, f1 k q1], fun _ _ => rfl⟩
theorem M_takes_f (c : Int32) (H : MB T nt F R a) (hs : skp T nt a = a) (h6 : F 6 = 1) {K : FT → RT → JT → Prop} (g : ∀ F', MB T nt F' R a → F' 6 = 1 → FrM F F' R R → K F' R J) : qM_takes F R J c K := by
  refine M_here H (fun F1 H1 f1 => ?_)
  rw [hs] at H1
  have go : ∀ v, qM_takes_14 F1 R J v K := by
    intro v
    unfold qM_takes_14
    refine M_must_f (by rw [f1 6 (by decide)]; exact h6) ⟨fun q => by rw [upd_eq] at q; exact absurd q (by decide), fun _ => ?_⟩
    rw [upd_ne (show (5 : Nat) ≠ 6 by decide), show F1 5 = nI a from H1.2.2.2, up0]
    exact g _ (H1.mv upd_eq H1.2.1 (fun k q1 q2 => by rw [upd_ne q1, upd_ne q2])) (by rw [upd_ne (by decide), upd_eq]) ⟨fun k q1 q2 => by rw [upd_ne q1, upd_ne q2, f1 k q1], fun _ _ => rfl⟩
  exact ⟨fun _ => go _, fun _ => go _⟩
theorem M_digit_f (lo hi : Int32) (hl : (-1 : Int32).toInt < lo.toInt) (h5 : F 5 = nI a) (h6 : F 6 = 1) {K : Int32 → FT → RT → JT → Prop} (g : ∀ v F', F' 5 = nI a → F' 6 = 1 → (∀ k, k ≠ 5 → k ≠ 6 → F' k = F k) → K v F' R J) : qM_digit F R J lo hi K := by
  refine ⟨fun c => by rw [h6] at c; exact absurd c (by decide), fun _ => ?_⟩
  unfold qM_digit_18
  refine mi_n (Or.inl (by rw [t_64]; exact hl)) (M_must_n ⟨fun q => by rw [upd_eq] at q; exact absurd q (by decide), fun _ => ?_⟩)
  rw [upd_ne (show (5 : Nat) ≠ 6 by decide), h5, up0]
  exact g _ _ upd_eq (by rw [upd_ne (by decide), upd_eq]) (fun k q1 q2 => by rw [upd_ne q1, upd_ne q2])
theorem M_digit_y (lo : Nat) (hlo : lo ≤ 1) (H : MB T nt F R a) (h6 : F 6 = 0) {K : Int32 → FT → RT → JT → Prop} (g1 : dgOK lo (ch T nt (skp T nt a)) = true → ∀ F', MB T nt F' R (skp T nt a + 1) → F' 6 = 0 → FrM F F' R R → K (nI (ch T nt (skp T nt a) - 48)) F' R J) (g2 : ¬ dgOK lo (ch T nt (skp T nt a)) = true → ∀ v F', F' 5 = nI (skp T nt a) → F' 6 = 1 → FrM F F' R R → K v F' R J) : qM_digit F R J (nI lo) 9 K := by
  refine ⟨fun _ => M_here H (fun F1 H1 f1 => ?_), fun c => absurd h6 c⟩
  have cb := H.1.le (skp T nt a)
  have ti : (nI (ch T nt (skp T nt a)) - (48 : Int32)).toInt = (ch T nt (skp T nt a) : Int) - 48 := pk_sub_toInt (b := 48) (by omega) (by omega)
  have l1 : ((nI lo).toInt64).toInt = (lo : Int) := by rw [t_64, t_n (by omega)]
  have l9 : (((9 : Int32)).toInt64).toInt = 9 := by decide
  unfold qM_digit_18
  by_cases d : dgOK lo (ch T nt (skp T nt a)) = true
  · have dd := dg_iff.mp d
    have lt := ch_lt (T := T) (nt := nt) (a := skp T nt a) (by omega)
    refine mi_y (by rw [ti, l1]; omega) (by rw [ti, l9]; omega) (M_must_y (by rw [f1 6 (by decide)]; exact h6) ⟨fun _ => ?_, fun q => absurd upd_eq q⟩)
    rw [upd_ne (show (5 : Nat) ≠ 6 by decide), show F1 5 = nI (skp T nt a) from H1.2.2.2, nI_1, show nI (ch T nt (skp T nt a)) - (48 : Int32) = nI (ch T nt (skp T nt a) - 48) from pk_sub (b := 48) dd.1]
    exact g1 d _ (H1.mv upd_eq (by omega) (fun k q1 q2 => by rw [upd_ne q1, upd_ne q2])) (by rw [upd_ne (by decide), upd_eq]) ⟨fun k q1 q2 => by rw [upd_ne q1, upd_ne q2, f1 k q1], fun _ _ => rfl⟩
  · refine mi_n ?_ (M_must_n ⟨fun q => by rw [upd_eq] at q; exact absurd q (by decide), fun _ => ?_⟩)
    · rw [ti, l1, l9]
      rw [dg_iff] at d
      omega
    · rw [upd_ne (show (5 : Nat) ≠ 6 by decide), show F1 5 = nI (skp T nt a) from H1.2.2.2, up0]
      exact g2 d _ _ upd_eq (by rw [upd_ne (by decide), upd_eq]) ⟨fun k q1 q2 => by rw [upd_ne q1, upd_ne q2, f1 k q1], fun _ _ => rfl⟩
theorem M_num_loop (s hi : Nat) (hhi : hi ≤ 200) {K : Int32 → FT → RT → JT → Prop} : ∀ m a v F, a = s + (3 - m) → m ≤ 3 → v < 10 ^ (3 - m) → MB T nt F R a → F 6 = 0 → (1 ≤ (dgs T nt m a v).1 ∧ (dgs T nt m a v).1 ≤ hi → ∀ F', MB T nt F' R (dgs T nt m a v).2 → F' 6 = 0 → FrM F F' R R → K (nI (dgs T nt m a v).1) F' R J) → (¬ (1 ≤ (dgs T nt m a v).1 ∧ (dgs T nt m a v).1 ≤ hi) → ∀ v' F', F' 5 = nI s → F' 6 = 1 → FrM F F' R R → K v' F' R J) → qM_number_40 (m + 1) F R J 1 (nI hi) (nI s) (nI v) K := by
  have fin : ∀ m a v F, v < 1000 → dgs T nt m a v = (v, a) → MB T nt F R a → F 6 = 0 → (1 ≤ (dgs T nt m a v).1 ∧ (dgs T nt m a v).1 ≤ hi → ∀ F', MB T nt F' R (dgs T nt m a v).2 → F' 6 = 0 → FrM F F' R R → K (nI (dgs T nt m a v).1) F' R J) → (¬ (1 ≤ (dgs T nt m a v).1 ∧ (dgs T nt m a v).1 ≤ hi) → ∀ v' F', F' 5 = nI s → F' 6 = 1 → FrM F F' R R → K v' F' R J) → qM_number_124 F R J 1 (nI hi) (nI s) (nI v) K := by
    intro m a v F hv e H h6 g1 g2
    rw [e] at g1 g2
    unfold qM_number_124
    refine ⟨fun c => absurd h6 c, fun _ => ?_⟩
    have l1 : (((1 : Int32)).toInt64).toInt = 1 := by decide
    have l9 : ((nI hi).toInt64).toInt = (hi : Int) := by rw [t_64, t_n (by omega)]
    by_cases c : 1 ≤ v ∧ v ≤ hi
    · exact mi_y (by rw [t_n (by omega), l1]; omega) (by rw [t_n (by omega), l9]; omega) ⟨fun _ => g1 c F H h6 FrM.rf, fun q => absurd q (by decide)⟩
    · refine mi_n (by rw [t_n (n := v) (by omega), l1, l9]; omega) ⟨fun q => absurd rfl q, fun _ => g2 c _ _ upd_eq (by rw [upd_ne (by decide), upd_eq]) ⟨fun k q1 q2 => by rw [upd_ne q1, upd_ne q2], fun _ _ => rfl⟩⟩
  intro m
  induction m with
  | zero =>
    intro a v F ha hm hv H h6 g1 g2
    have f := fin 0 a v F (by simpa using hv) rfl H h6 g1 g2
    obtain ⟨h1, h2, h3, h4⟩ := id H
    have n1 := h1.1
    have es : F 5 - nI s = nI 3 := by rw [h4, pk_sub (by omega)]; exact congrArg nI (by omega)
    unfold qM_number_40
    rw [es]
    exact ⟨fun c => absurd h6 c, fun _ => pk_le nt a (fun _ => f) (fun _ => ⟨fun _ => f, fun c => absurd (by decide) c⟩) h3 h4⟩
  | succ m ih =>
    intro a v F ha hm hv H h6 g1 g2
    obtain ⟨h1, h2, h3, h4⟩ := id H
    have n1 := h1.1
    have v1000 : v < 1000 := Nat.lt_of_lt_of_le hv (Nat.pow_le_pow_right (n := 10) (i := 3 - (m + 1)) (j := 3) (by omega) (by omega))
    have es : F 5 - nI s = nI (3 - (m + 1)) := by rw [h4, pk_sub (by omega)]; exact congrArg nI (by omega)
    by_cases hlt : a < nt
    · obtain ⟨t1, t2, t3⟩ := h1.2 a hlt
      have cl : (F 5).toNatClampNeg = a := by rw [h4, nI_clamp (by omega)]
      have vi : vp_in (F 5) 60 := by rw [h4]; exact vp_in_nI (by omega) (by omega)
      unfold qM_number_40
      rw [es, cl, t3]
      refine ⟨fun c => absurd h6 c, fun _ => pk_le nt a (fun c => by omega) (fun _ => pk_le 3 (3 - (m + 1)) (fun c => by omega) (fun _ => ⟨vi, ?_⟩)) h3 h4⟩
      have tT : (nI (T a)).toInt = (T a : Int) := t_n (by omega)
      have l48 : ((48 : Int64)).toInt = 48 := by decide
      have l57 : ((57 : Int64)).toInt = 57 := by decide
      by_cases q : 48 ≤ T a ∧ T a ≤ 57
      · refine mi_y (by rw [tT, l48]; omega) (by rw [tT, l57]; omega) ⟨fun c => absurd c (by decide), fun _ => ⟨vi, ?_⟩⟩
        have e : dgs T nt (m + 1) a v = dgs T nt m (a + 1) (10 * v + (T a - 48)) := if_pos ⟨hlt, q⟩
        rw [e] at g1 g2
        have ev : (10 : Int32) * nI v + nI (T a) - 48 = nI (10 * v + (T a - 48)) := by
          rw [show (10 : Int32) * nI v = nI (10 * v) from pk_mul 10 v, nI_add, show nI (10 * v + T a) - (48 : Int32) = nI (10 * v + T a - 48) from pk_sub (b := 48) (by omega)]
          exact congrArg nI (by omega)
        rw [cl, t3, h4, nI_1, ev]
        refine ih (a + 1) _ _ (by omega) (by omega) ?_ (H.mv upd_eq (by omega) (fun k h _ => upd_ne h)) (by rw [upd_ne (by decide)]; exact h6) (fun c F' H' h6' f' => g1 c F' H' h6' ((FrM.a (fun k h => upd_ne h)).tr f')) (fun c v' F' e' h6' f' => g2 c v' F' e' h6' ((FrM.a (fun k h => upd_ne h)).tr f'))
        have e3 : 3 - m = (3 - (m + 1)) + 1 := by omega
        rw [e3, Nat.pow_succ]
        omega
      · exact mi_n (by rw [tT, l48, l57]; omega) ⟨fun _ => fin (m + 1) a v F v1000 (if_neg (fun c => q c.2)) H h6 g1 g2, fun c => absurd rfl c⟩
    · have f := fin (m + 1) a v F v1000 (if_neg (fun c => hlt c.1)) H h6 g1 g2
      unfold qM_number_40
      exact ⟨fun c => absurd h6 c, fun _ => pk_le nt a (fun _ => f) (fun c => by omega) h3 h4⟩
theorem M_num_end (h6 : F 6 = 1) {v1 v2 v4 v5 : Int32} {K : Int32 → FT → RT → JT → Prop} (g : ∀ v, K v F R J) : qM_number_40 1 F R J v1 v2 v4 v5 K := by
  have n6 : ¬ F 6 = 0 := by rw [h6]; decide
  unfold qM_number_40 qM_number_124
  exact ⟨fun _ => ⟨fun _ => g _, fun c => absurd c n6⟩, fun c => absurd c n6⟩
theorem M_num_f (lo hi : Int32) (H : MB T nt F R a) (h6 : F 6 = 1) {K : Int32 → FT → RT → JT → Prop} (g : ∀ v F', MB T nt F' R a → F' 6 = 1 → FrM F F' R R → K v F' R J) : qM_number F R J lo hi K := by
  refine ⟨fun c => by rw [h6] at c; exact absurd c (by decide), fun _ => ?_⟩
  unfold qM_number_15
  refine mi_n (x := 0) (Or.inl (by decide)) (M_must_n ⟨1, M_num_end upd_eq (fun v => g v _ (H.mv (by rw [upd_ne (by decide)]; exact H.2.2.2) H.2.1 (fun k _ q => upd_ne q)) upd_eq ⟨fun k _ q => upd_ne q, fun _ _ => rfl⟩)⟩)
theorem M_num_y (hi : Nat) (hhi : hi ≤ 200) (H : MB T nt F R a) (h6 : F 6 = 0) {K : Int32 → FT → RT → JT → Prop} (g1 : 1 ≤ (dgs T nt 3 (skp T nt a) 0).1 ∧ (dgs T nt 3 (skp T nt a) 0).1 ≤ hi → ∀ F', MB T nt F' R (dgs T nt 3 (skp T nt a) 0).2 → F' 6 = 0 → FrM F F' R R → K (nI (dgs T nt 3 (skp T nt a) 0).1) F' R J) (g2 : ¬ (1 ≤ (dgs T nt 3 (skp T nt a) 0).1 ∧ (dgs T nt 3 (skp T nt a) 0).1 ≤ hi) → ∀ v F', MB T nt F' R (skp T nt a) → F' 6 = 1 → FrM F F' R R → K v F' R J) : qM_number F R J 1 (nI hi) K := by
  refine ⟨fun _ => M_here H (fun F1 H1 f1 => ?_), fun c => absurd h6 c⟩
  have cb := H.1.le (skp T nt a)
  have tT : (nI (ch T nt (skp T nt a))).toInt = (ch T nt (skp T nt a) : Int) := t_n (by omega)
  have l48 : ((48 : Int64)).toInt = 48 := by decide
  have l57 : ((57 : Int64)).toInt = 57 := by decide
  have e5 : F1 5 = nI (skp T nt a) := H1.2.2.2
  unfold qM_number_15
  by_cases q : 48 ≤ ch T nt (skp T nt a) ∧ ch T nt (skp T nt a) ≤ 57
  · refine mi_y (by rw [tT, l48]; omega) (by rw [tT, l57]; omega) (M_must_y (by rw [f1 6 (by decide)]; exact h6) ⟨4, ?_⟩)
    rw [e5]
    have fr : FrM F (upd F1 6 0) R R := ⟨fun k q1 q2 => by rw [upd_ne q2, f1 k q1], fun _ _ => rfl⟩
    refine M_num_loop (skp T nt a) hi hhi 3 (skp T nt a) 0 _ (by omega) (by omega) (by decide) (H1.mv (by rw [upd_ne (by decide)]; exact e5) H1.2.1 (fun k _ q => upd_ne q)) upd_eq (fun c F2 H2 h2 f2 => g1 c F2 H2 h2 (fr.tr f2)) (fun c v F2 e2 h2 f2 => g2 c v F2 (H1.mv e2 H1.2.1 (fun k q1 q2 => by rw [f2.1 k q1 q2, upd_ne q2])) h2 (fr.tr f2))
  · refine mi_n (by rw [tT, l48, l57]; omega) (M_must_n ⟨1, M_num_end upd_eq (fun v => g2 ?_ v _ (H1.mv (by rw [upd_ne (by decide)]; exact e5) H1.2.1 (fun k _ q => upd_ne q)) upd_eq ⟨fun k q1 q2 => by rw [upd_ne q2, f1 k q1], fun _ _ => rfl⟩)⟩)
    have e : dgs T nt 3 (skp T nt a) 0 = (0, skp T nt a) := if_neg (fun c => q (by rw [show ch T nt (skp T nt a) = T (skp T nt a) from if_pos c.1]; exact c.2))
    rw [e]
    exact fun c => Nat.not_succ_le_zero 0 c.1
end MPS
