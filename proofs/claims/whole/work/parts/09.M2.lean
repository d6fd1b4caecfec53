def qM_here_38 (F : FT) (R : RT) (J : JT)  (K : Int32 → FT → RT → JT → Prop) : Prop :=
  ((F 4) ≤ (F 5) → (K (0 : Int32) F R J)) ∧ (¬ (F 4) ≤ (F 5) → ((vp_in (F 5) 60) ∧ (K (R 3 ((F 5).toNatClampNeg)) F R J)))
set_option maxHeartbeats 4000000 in
set_option maxRecDepth 100000 in
theorem lM_here_38 {X : XT} {ka : Nat → ClassId} {ad : Nat → Nat} (C : Cx X cX10_here 1 RX10 (some .int) ka 1) {K : Int32 → FT → RT → JT → Prop} (hret : RetI X cX10_here .int 0 0 (fun z w => ∃ F R J, w = wM ad ka F R J ∧ K z F R J)) (F : FT) (R : RT) (J : JT)  (h : qM_here_38 F R J  K) : G X 0 0 (wM ad ka F R J) 38 [(0, .ref (ad 20))] [] := by
  unfold qM_here_38 at h
  refine g_aload_n C 0 dX10_here_38 rfl ?_
  refine Mg_place C (v := F 5) rfl dX10_here_39 ?_
  refine g_aload_n C 0 dX10_here_42 rfl ?_
  refine Mg_typed C (v := F 4) rfl dX10_here_43 ?_
  refine g_icmp_ge C 61 dX10_here_46 (by decide) (fun c1 => ?_) (fun c1 => ?_)
  · have h := h.1 c1
    refine g_iconst C (0 : Int32) dX10_here_61 ci_0 ?_
    exact hret _ _ _ _ ⟨_, _, _, rfl, h⟩ rfl dX10_here_62
  · have h := h.2 c1
    refine g_aload_n C 0 dX10_here_49 rfl ?_
    refine Mg_tape C dX10_here_50 ?_
    refine g_aload_n C 0 dX10_here_53 rfl ?_
    refine Mg_place C (v := F 5) rfl dX10_here_54 ?_
    refine Ma_tape C (f := R 3) rfl _ rfl h.1 dX10_here_57 ?_
    have h := h.2
    refine g_goto C 62 dX10_here_58 (by decide) ?_
    exact hret _ _ _ _ ⟨_, _, _, rfl, h⟩ rfl dX10_here_62
def qM_here_0 : Nat → FT → RT → JT → (Int32 → FT → RT → JT → Prop) → Prop
  | 0, _, _, _ => fun _ => False
  | n0 + 1, F, R, J => fun K => ((F 4) ≤ (F 5) → (qM_here_38 F R J K)) ∧ (¬ (F 4) ≤ (F 5) → ((vp_in (F 5) 60) ∧ ((¬ (R 3 ((F 5).toNatClampNeg)) = (32 : Int32) → (qM_here_38 F R J K)) ∧ ((R 3 ((F 5).toNatClampNeg)) = (32 : Int32) → (qM_here_0 n0 (upd F 5 ((F 5) + (1 : Int32))) R J K)))))
set_option maxHeartbeats 4000000 in
set_option maxRecDepth 100000 in
theorem lM_here_0 {X : XT} {ka : Nat → ClassId} {ad : Nat → Nat} (C : Cx X cX10_here 1 RX10 (some .int) ka 1) {K : Int32 → FT → RT → JT → Prop} (hret : RetI X cX10_here .int 0 0 (fun z w => ∃ F R J, w = wM ad ka F R J ∧ K z F R J)) : ∀ (n : Nat) (F : FT) (R : RT) (J : JT) , qM_here_0 n F R J  K → G X 0 0 (wM ad ka F R J) 0 [(0, .ref (ad 20))] [] := by
  intro n
  induction n with
  | zero => intro F R J  h; exact h.elim
  | succ n ih =>
    intro F R J  h
    refine g_aload_n C 0 dX10_here_0 rfl ?_
    refine Mg_place C (v := F 5) rfl dX10_here_1 ?_
    refine g_aload_n C 0 dX10_here_4 rfl ?_
    refine Mg_typed C (v := F 4) rfl dX10_here_5 ?_
    refine g_icmp_ge C 38 dX10_here_8 (by decide) (fun c1 => ?_) (fun c1 => ?_)
    · have h := h.1 c1
      exact g_lv [0] rfl (lM_here_38 C hret _ _ _ h)
    · have h := h.2 c1
      refine g_aload_n C 0 dX10_here_11 rfl ?_
      refine Mg_tape C dX10_here_12 ?_
      refine g_aload_n C 0 dX10_here_15 rfl ?_
      refine Mg_place C (v := F 5) rfl dX10_here_16 ?_
      refine Ma_tape C (f := R 3) rfl _ rfl h.1 dX10_here_19 ?_
      have h := h.2
      refine g_bipush C (32 : Int32) dX10_here_20 cb_32 ?_
      refine g_icmp_ne C 38 dX10_here_22 (by decide) (fun c2 => ?_) (fun c2 => ?_)
      · have h := h.1 c2
        exact g_lv [0] rfl (lM_here_38 C hret _ _ _ h)
      · have h := h.2 c2
        refine g_aload_n C 0 dX10_here_25 rfl ?_
        refine g_dup C dX10_here_26 rfl ?_
        refine Mg_place C (v := F 5) rfl dX10_here_27 ?_
        refine g_iconst C (1 : Int32) dX10_here_30 ci_1 ?_
        refine g_iadd C dX10_here_31 ?_
        refine Mp_place C dX10_here_32 ?_
        refine g_goto C 0 dX10_here_35 (by decide) ?_
        exact g_lv [0] rfl (ih _ _ _ h)
def qM_here (F : FT) (R : RT) (J : JT)  (K : Int32 → FT → RT → JT → Prop) : Prop :=
  ∃ n0, qM_here_0 n0 F R J K
set_option maxHeartbeats 4000000 in
set_option maxRecDepth 100000 in
theorem bM_here {X : XT} {ka : Nat → ClassId} {ad : Nat → Nat} (C : Cx X cX10_here 1 RX10 (some .int) ka 1) {K : Int32 → FT → RT → JT → Prop} (hret : RetI X cX10_here .int 0 0 (fun z w => ∃ F R J, w = wM ad ka F R J ∧ K z F R J)) (F : FT) (R : RT) (J : JT)  (h : qM_here F R J  K) : G X 0 0 (wM ad ka F R J) 0 [(0, .ref (ad 20))] [] := by
  unfold qM_here at h
  obtain ⟨n1, h⟩ := h
  exact g_lv [0] rfl (lM_here_0 C hret n1 _ _ _ h)
set_option maxHeartbeats 4000000 in
set_option maxRecDepth 100000 in
theorem kM_here (l : Launch) (D : va_G) (ka : Nat → ClassId) (ad : Nat → Nat) (F : FT) (R : RT) (J : JT)  (K : Int32 → FT → RT → JT → Prop) (h : qM_here F R J  K) : MI l D ka yX10_here cX10_here 1 (some .int) 1 0 0 [.ref (ad 20)] (wM ad ka F R J) (fun z w => ∃ F R J, w = wM ad ka F R J ∧ K z F R J) := MI_of (by decide) (Nat.le_of_ble_eq_true rfl) (fun X C hroom hret => bM_here C hret F R J  h)
set_option maxHeartbeats 4000000 in
set_option maxRecDepth 100000 in
theorem miX10_here : MInf yX10_here cX10_here 1 (some .int) 0 := ⟨(gw_of tw4_194 rfl), (gw_of tp_yX10_here rfl), (gw_of tw1_6 rfl), (gw_of tw4_195 rfl), by decide +kernel, by decide⟩

def qM_must (F : FT) (R : RT) (J : JT) (a1 : Int32) (K : FT → RT → JT → Prop) : Prop :=
  (¬ (F 6) = 0 → (K (upd F 6 (1 : Int32)) R J)) ∧ ((F 6) = 0 → ((¬ a1 = 0 → (K (upd F 6 (0 : Int32)) R J)) ∧ (a1 = 0 → (K (upd F 6 (1 : Int32)) R J))))
set_option maxHeartbeats 4000000 in
set_option maxRecDepth 100000 in
theorem bM_must {X : XT} {ka : Nat → ClassId} {ad : Nat → Nat} (C : Cx X cX10_must 2 RX10 none ka 1) {K : FT → RT → JT → Prop} (hret : RetV X cX10_must 0 0 (fun w => ∃ F R J, w = wM ad ka F R J ∧ K F R J)) (F : FT) (R : RT) (J : JT) (a1 : Int32) (h : qM_must F R J a1 K) : G X 0 0 (wM ad ka F R J) 0 [(0, .ref (ad 20)), (1, .int a1)] [] := by
  unfold qM_must at h
  refine g_aload_n C 0 dX10_must_0 rfl ?_
  refine g_aload_n C 0 dX10_must_1 rfl ?_
  refine Mg_isFault C (v := F 6) rfl dX10_must_2 ?_
  refine g_if_ne C 12 dX10_must_5 (by decide) (fun c1 => ?_) (fun c1 => ?_)
  · have h := h.1 c1
    refine g_iconst C (1 : Int32) dX10_must_12 ci_1 ?_
    refine g_goto C 17 dX10_must_13 (by decide) ?_
    refine Mp_isFault C isB_1 dX10_must_17 ?_
    exact hret _ _ _ ⟨_, _, _, rfl, h⟩ dX10_must_20
  · have h := h.2 c1
    refine g_iload_n C 1 dX10_must_8 rfl ?_
    refine g_if_ne C 16 dX10_must_9 (by decide) (fun c2 => ?_) (fun c2 => ?_)
    · have h := h.1 c2
      refine g_iconst C (0 : Int32) dX10_must_16 ci_0 ?_
      refine Mp_isFault C isB_0 dX10_must_17 ?_
      exact hret _ _ _ ⟨_, _, _, rfl, h⟩ dX10_must_20
    · have h := h.2 c2
      refine g_iconst C (1 : Int32) dX10_must_12 ci_1 ?_
      refine g_goto C 17 dX10_must_13 (by decide) ?_
      refine Mp_isFault C isB_1 dX10_must_17 ?_
      exact hret _ _ _ ⟨_, _, _, rfl, h⟩ dX10_must_20
set_option maxHeartbeats 4000000 in
set_option maxRecDepth 100000 in
theorem kM_must (l : Launch) (D : va_G) (ka : Nat → ClassId) (ad : Nat → Nat) (F : FT) (R : RT) (J : JT) (a1 : Int32) (K : FT → RT → JT → Prop) (h : qM_must F R J a1 K) : MV l D ka yX10_must cX10_must 2 none 1 0 0 [.ref (ad 20), .int a1] (wM ad ka F R J) (fun w => ∃ F R J, w = wM ad ka F R J ∧ K F R J) := MV_of (by decide) (Nat.le_of_ble_eq_true rfl) (fun X C hroom hret => bM_must C hret F R J a1 h)
set_option maxHeartbeats 4000000 in
set_option maxRecDepth 100000 in
theorem miX10_must : MInf yX10_must cX10_must 2 none 1 := ⟨(gw_of tw4_200 rfl), (gw_of tp_yX10_must rfl), (gw_of tw1_6 rfl), (gw_of tw4_201 rfl), by decide +kernel, by decide⟩

def qM_takes_14 (F : FT) (R : RT) (J : JT) (s0 : Int32) (K : FT → RT → JT → Prop) : Prop :=
  qM_must F R J s0 (fun F1 R1 J1 => ((F1 6) = 0 → (K (upd F1 5 ((F1 5) + (1 : Int32))) R1 J1)) ∧ (¬ (F1 6) = 0 → (K (upd F1 5 ((F1 5) + (0 : Int32))) R1 J1)))
set_option maxHeartbeats 4000000 in
set_option maxRecDepth 100000 in
theorem lM_takes_14 {X : XT} {ka : Nat → ClassId} {ad : Nat → Nat} (C : Cx X cX10_takes 2 RX10 none ka 2) {K : FT → RT → JT → Prop} (hret : RetV X cX10_takes 0 0 (fun w => ∃ F R J, w = wM ad ka F R J ∧ K F R J)) (F : FT) (R : RT) (J : JT) (s0 : Int32) (h : qM_takes_14 F R J s0 K) : G X 0 0 (wM ad ka F R J) 14 [(0, .ref (ad 20))] [.int s0, .ref (ad 20)] := by
  unfold qM_takes_14 at h
  refine g_callVv0 C (kM_must (xL X) (xD X) ka ad _ _ _ _ _ h) miX10_must (gw_of tw4_198 rfl) (by decide) wM_at rfl rfl rfl (Nat.le_of_ble_eq_true rfl) z00 dX10_takes_14 (fun w hw => ?_)
  obtain ⟨F1, R1, J1, rfl, h⟩ := hw
  refine g_aload_n C 0 dX10_takes_17 rfl ?_
  refine g_dup C dX10_takes_18 rfl ?_
  refine Mg_place C (v := F1 5) rfl dX10_takes_19 ?_
  refine g_aload_n C 0 dX10_takes_22 rfl ?_
  refine Mg_isFault C (v := F1 6) rfl dX10_takes_23 ?_
  refine g_if_eq C 33 dX10_takes_26 (by decide) (fun c2 => ?_) (fun c2 => ?_)
  · have h := h.1 c2
    refine g_iconst C (1 : Int32) dX10_takes_33 ci_1 ?_
    refine g_iadd C dX10_takes_34 ?_
    refine Mp_place C dX10_takes_35 ?_
    exact hret _ _ _ ⟨_, _, _, rfl, h⟩ dX10_takes_38
  · have h := h.2 c2
    refine g_iconst C (0 : Int32) dX10_takes_29 ci_0 ?_
    refine g_goto C 34 dX10_takes_30 (by decide) ?_
    refine g_iadd C dX10_takes_34 ?_
    refine Mp_place C dX10_takes_35 ?_
    exact hret _ _ _ ⟨_, _, _, rfl, h⟩ dX10_takes_38
def qM_takes (F : FT) (R : RT) (J : JT) (a1 : Int32) (K : FT → RT → JT → Prop) : Prop :=
  qM_here F R J (fun r1 F1 R1 J1 => (¬ r1 = a1 → (qM_takes_14 F1 R1 J1 (0 : Int32) K)) ∧ (r1 = a1 → (qM_takes_14 F1 R1 J1 (1 : Int32) K)))
set_option maxHeartbeats 4000000 in
set_option maxRecDepth 100000 in
theorem bM_takes {X : XT} {ka : Nat → ClassId} {ad : Nat → Nat} (C : Cx X cX10_takes 2 RX10 none ka 2) {K : FT → RT → JT → Prop} (hret : RetV X cX10_takes 0 0 (fun w => ∃ F R J, w = wM ad ka F R J ∧ K F R J)) (F : FT) (R : RT) (J : JT) (a1 : Int32) (h : qM_takes F R J a1 K) : G X 0 0 (wM ad ka F R J) 0 [(0, .ref (ad 20)), (1, .int a1)] [] := by
  unfold qM_takes at h
  refine g_aload_n C 0 dX10_takes_0 rfl ?_
  refine g_aload_n C 0 dX10_takes_1 rfl ?_
  refine g_callVi0 C (kM_here (xL X) (xD X) ka ad _ _ _ _ h) miX10_here (gw_of tw4_192 rfl) (by decide) wM_at rfl rfl rfl (Nat.le_of_ble_eq_true rfl) z00 dX10_takes_2 (fun r1 w hw => ?_)
  obtain ⟨F1, R1, J1, rfl, h⟩ := hw
  refine g_iload_n C 1 dX10_takes_5 rfl ?_
  refine g_icmp_ne C 13 dX10_takes_6 (by decide) (fun c2 => ?_) (fun c2 => ?_)
  · have h := h.1 c2
    refine g_iconst C (0 : Int32) dX10_takes_13 ci_0 ?_
    exact g_lv [0] rfl (lM_takes_14 C hret _ _ _ _ h)
  · have h := h.2 c2
    refine g_iconst C (1 : Int32) dX10_takes_9 ci_1 ?_
    refine g_goto C 14 dX10_takes_10 (by decide) ?_
    exact g_lv [0] rfl (lM_takes_14 C hret _ _ _ _ h)
set_option maxHeartbeats 4000000 in
set_option maxRecDepth 100000 in
theorem kM_takes (l : Launch) (D : va_G) (ka : Nat → ClassId) (ad : Nat → Nat) (F : FT) (R : RT) (J : JT) (a1 : Int32) (K : FT → RT → JT → Prop) (h : qM_takes F R J a1 K) : MV l D ka yX10_takes cX10_takes 2 none 2 0 0 [.ref (ad 20), .int a1] (wM ad ka F R J) (fun w => ∃ F R J, w = wM ad ka F R J ∧ K F R J) := MV_of (by decide) (Nat.le_of_ble_eq_true rfl) (fun X C hroom hret => bM_takes C hret F R J a1 h)
set_option maxHeartbeats 4000000 in
set_option maxRecDepth 100000 in
theorem miX10_takes : MInf yX10_takes cX10_takes 2 none 1 := ⟨(gw_of tw4_204 rfl), (gw_of tp_yX10_takes rfl), (gw_of tw1_6 rfl), (gw_of tw4_205 rfl), by decide +kernel, by decide⟩

def qM_digit_18 (F : FT) (R : RT) (J : JT) (v1 : Int32) (v2 : Int32) (s0 : Int32) (K : Int32 → FT → RT → JT → Prop) : Prop :=
  qM_in F R J s0.toInt64 v1.toInt64 v2.toInt64 (fun r1 F1 R1 J1 => qM_must F1 R1 J1 r1 (fun F2 R2 J2 => ((F2 6) = 0 → (K s0 (upd F2 5 ((F2 5) + (1 : Int32))) R2 J2)) ∧ (¬ (F2 6) = 0 → (K s0 (upd F2 5 ((F2 5) + (0 : Int32))) R2 J2))))
set_option maxHeartbeats 4000000 in
set_option maxRecDepth 100000 in
theorem lM_digit_18 {X : XT} {ka : Nat → ClassId} {ad : Nat → Nat} (C : Cx X cX10_digit 4 RX10 (some .int) ka 2) {K : Int32 → FT → RT → JT → Prop} (hret : RetI X cX10_digit .int 0 0 (fun z w => ∃ F R J, w = wM ad ka F R J ∧ K z F R J)) (F : FT) (R : RT) (J : JT) (v1 : Int32) (v2 : Int32) (s0 : Int32) (h : qM_digit_18 F R J v1 v2 s0 K) : G X 0 0 (wM ad ka F R J) 18 [(0, .ref (ad 20)), (1, .int v1), (2, .int v2)] [.int s0] := by
  unfold qM_digit_18 at h
  refine g_istore_n C [(3, .int s0), (0, .ref (ad 20)), (1, .int v1), (2, .int v2)] dX10_digit_18 (by decide) rfl ?_
  refine g_aload_n C 1 dX10_digit_19 rfl ?_
  refine g_iload_n C 0 dX10_digit_20 rfl ?_
  refine g_i2l C dX10_digit_21 ?_
  refine g_iload_n C 2 dX10_digit_22 rfl ?_
  refine g_i2l C dX10_digit_23 ?_
  refine g_iload_n C 3 dX10_digit_24 rfl ?_
  refine g_i2l C dX10_digit_25 ?_
  refine g_callSi0 C (kM_in (xL X) (xD X) ka ad _ _ _ _ _ _ _ h) siX10_in (gw_of tw4_136 rfl) (by decide) rfl rfl (Nat.le_of_ble_eq_true rfl) z00 dX10_digit_26 (fun r1 w hw => ?_)
  obtain ⟨F1, R1, J1, rfl, h⟩ := hw
  refine g_callVv0 C (kM_must (xL X) (xD X) ka ad _ _ _ _ _ h) miX10_must (gw_of tw4_198 rfl) (by decide) wM_at rfl rfl rfl (Nat.le_of_ble_eq_true rfl) z00 dX10_digit_29 (fun w hw => ?_)
  obtain ⟨F2, R2, J2, rfl, h⟩ := hw
  refine g_aload_n C 1 dX10_digit_32 rfl ?_
  refine g_dup C dX10_digit_33 rfl ?_
  refine Mg_place C (v := F2 5) rfl dX10_digit_34 ?_
  refine g_aload_n C 1 dX10_digit_37 rfl ?_
  refine Mg_isFault C (v := F2 6) rfl dX10_digit_38 ?_
  refine g_if_eq C 48 dX10_digit_41 (by decide) (fun c3 => ?_) (fun c3 => ?_)
  · have h := h.1 c3
    refine g_iconst C (1 : Int32) dX10_digit_48 ci_1 ?_
    refine g_iadd C dX10_digit_49 ?_
    refine Mp_place C dX10_digit_50 ?_
    refine g_iload_n C 0 dX10_digit_53 rfl ?_
    exact hret _ _ _ _ ⟨_, _, _, rfl, h⟩ rfl dX10_digit_54
  · have h := h.2 c3
    refine g_iconst C (0 : Int32) dX10_digit_44 ci_0 ?_
    refine g_goto C 49 dX10_digit_45 (by decide) ?_
    refine g_iadd C dX10_digit_49 ?_
    refine Mp_place C dX10_digit_50 ?_
    refine g_iload_n C 0 dX10_digit_53 rfl ?_
    exact hret _ _ _ _ ⟨_, _, _, rfl, h⟩ rfl dX10_digit_54
def qM_digit (F : FT) (R : RT) (J : JT) (a1 : Int32) (a2 : Int32) (K : Int32 → FT → RT → JT → Prop) : Prop :=
  ((F 6) = 0 → (qM_here F R J (fun r2 F2 R2 J2 => qM_digit_18 F2 R2 J2 a1 a2 (r2 - (48 : Int32)) K))) ∧ (¬ (F 6) = 0 → (qM_digit_18 F R J a1 a2 (-1 : Int32) K))
set_option maxHeartbeats 4000000 in
set_option maxRecDepth 100000 in
theorem bM_digit {X : XT} {ka : Nat → ClassId} {ad : Nat → Nat} (C : Cx X cX10_digit 4 RX10 (some .int) ka 2) {K : Int32 → FT → RT → JT → Prop} (hret : RetI X cX10_digit .int 0 0 (fun z w => ∃ F R J, w = wM ad ka F R J ∧ K z F R J)) (F : FT) (R : RT) (J : JT) (a1 : Int32) (a2 : Int32) (h : qM_digit F R J a1 a2 K) : G X 0 0 (wM ad ka F R J) 0 [(0, .ref (ad 20)), (1, .int a1), (2, .int a2)] [] := by
  unfold qM_digit at h
  refine g_aload_n C 0 dX10_digit_0 rfl ?_
  refine Mg_isFault C (v := F 6) rfl dX10_digit_1 ?_
  refine g_if_eq C 11 dX10_digit_4 (by decide) (fun c1 => ?_) (fun c1 => ?_)
  · have h := h.1 c1
    refine g_aload_n C 0 dX10_digit_11 rfl ?_
    refine g_callVi0 C (kM_here (xL X) (xD X) ka ad _ _ _ _ h) miX10_here (gw_of tw4_192 rfl) (by decide) wM_at rfl rfl rfl (Nat.le_of_ble_eq_true rfl) z00 dX10_digit_12 (fun r2 w hw => ?_)
    obtain ⟨F2, R2, J2, rfl, h⟩ := hw
    refine g_bipush C (48 : Int32) dX10_digit_15 cb_48 ?_
    refine g_isub C dX10_digit_17 ?_
    exact g_lv [0, 1, 2] rfl (lM_digit_18 C hret _ _ _ _ _ _ h)
  · have h := h.2 c1
    refine g_iconst C (-1 : Int32) dX10_digit_7 ci_m1 ?_
    refine g_goto C 18 dX10_digit_8 (by decide) ?_
    exact g_lv [0, 1, 2] rfl (lM_digit_18 C hret _ _ _ _ _ _ h)
set_option maxHeartbeats 4000000 in
set_option maxRecDepth 100000 in
theorem kM_digit (l : Launch) (D : va_G) (ka : Nat → ClassId) (ad : Nat → Nat) (F : FT) (R : RT) (J : JT) (a1 : Int32) (a2 : Int32) (K : Int32 → FT → RT → JT → Prop) (h : qM_digit F R J a1 a2 K) : MI l D ka yX10_digit cX10_digit 4 (some .int) 2 0 0 [.ref (ad 20), .int a1, .int a2] (wM ad ka F R J) (fun z w => ∃ F R J, w = wM ad ka F R J ∧ K z F R J) := MI_of (by decide) (Nat.le_of_ble_eq_true rfl) (fun X C hroom hret => bM_digit C hret F R J a1 a2 h)
set_option maxHeartbeats 4000000 in
set_option maxRecDepth 100000 in
theorem miX10_digit : MInf yX10_digit cX10_digit 4 (some .int) 2 := ⟨(gw_of tw4_212 rfl), (gw_of tp_yX10_digit rfl), (gw_of tw1_6 rfl), (gw_of tw4_213 rfl), by decide +kernel, by decide⟩

def qM_number_124 (F : FT) (R : RT) (J : JT) (v1 : Int32) (v2 : Int32) (v4 : Int32) (v5 : Int32) (K : Int32 → FT → RT → JT → Prop) : Prop :=
  (¬ (F 6) = 0 → (K v5 F R J)) ∧ ((F 6) = 0 → (qM_in F R J v5.toInt64 v1.toInt64 v2.toInt64 (fun r2 F2 R2 J2 => (¬ r2 = 0 → (K v5 F2 R2 J2)) ∧ (r2 = 0 → (K v5 (upd (upd F2 6 (1 : Int32)) 5 v4) R2 J2)))))
set_option maxHeartbeats 4000000 in
set_option maxRecDepth 100000 in
theorem lM_number_124 {X : XT} {ka : Nat → ClassId} {ad : Nat → Nat} (C : Cx X cX10_number 6 RX10 (some .int) ka 2) {K : Int32 → FT → RT → JT → Prop} (hret : RetI X cX10_number .int 0 0 (fun z w => ∃ F R J, w = wM ad ka F R J ∧ K z F R J)) (F : FT) (R : RT) (J : JT) (v1 : Int32) (v2 : Int32) (v4 : Int32) (v5 : Int32) (h : qM_number_124 F R J v1 v2 v4 v5 K) : G X 0 0 (wM ad ka F R J) 124 [(0, .ref (ad 20)), (1, .int v1), (2, .int v2), (4, .int v4), (5, .int v5)] [] := by
  unfold qM_number_124 at h
  refine g_aload_n C 0 dX10_number_124 rfl ?_
  refine Mg_isFault C (v := F 6) rfl dX10_number_125 ?_
  refine g_if_ne C 155 dX10_number_128 (by decide) (fun c1 => ?_) (fun c1 => ?_)
  · have h := h.1 c1
    refine g_iload C 4 dX10_number_155 rfl ?_
    exact hret _ _ _ _ ⟨_, _, _, rfl, h⟩ rfl dX10_number_157
  · have h := h.2 c1
    refine g_iload C 4 dX10_number_131 rfl ?_
    refine g_i2l C dX10_number_133 ?_
    refine g_iload_n C 1 dX10_number_134 rfl ?_
    refine g_i2l C dX10_number_135 ?_
    refine g_iload_n C 2 dX10_number_136 rfl ?_
    refine g_i2l C dX10_number_137 ?_
    refine g_callSi0 C (kM_in (xL X) (xD X) ka ad _ _ _ _ _ _ _ h) siX10_in (gw_of tw4_136 rfl) (by decide) rfl rfl (Nat.le_of_ble_eq_true rfl) z00 dX10_number_138 (fun r2 w hw => ?_)
    obtain ⟨F2, R2, J2, rfl, h⟩ := hw
    refine g_if_ne C 155 dX10_number_141 (by decide) (fun c3 => ?_) (fun c3 => ?_)
    · have h := h.1 c3
      refine g_iload C 4 dX10_number_155 rfl ?_
      exact hret _ _ _ _ ⟨_, _, _, rfl, h⟩ rfl dX10_number_157
    · have h := h.2 c3
      refine g_aload_n C 0 dX10_number_144 rfl ?_
      refine g_iconst C (1 : Int32) dX10_number_145 ci_1 ?_
      refine Mp_isFault C isB_1 dX10_number_146 ?_
      refine g_aload_n C 0 dX10_number_149 rfl ?_
      refine g_iload C 3 dX10_number_150 rfl ?_
      refine Mp_place C dX10_number_152 ?_
      refine g_iload C 4 dX10_number_155 rfl ?_
      exact hret _ _ _ _ ⟨_, _, _, rfl, h⟩ rfl dX10_number_157
def qM_number_40 : Nat → FT → RT → JT → Int32 → Int32 → Int32 → Int32 → (Int32 → FT → RT → JT → Prop) → Prop
  | 0, _, _, _, _, _, _, _ => fun _ => False
  | n40 + 1, F, R, J, v1, v2, v4, v5 => fun K => (¬ (F 6) = 0 → (qM_number_124 F R J v1 v2 v4 v5 K)) ∧ ((F 6) = 0 → (((F 4) ≤ (F 5) → (qM_number_124 F R J v1 v2 v4 v5 K)) ∧ (¬ (F 4) ≤ (F 5) → (((3 : Int32) ≤ ((F 5) - v4) → (qM_number_124 F R J v1 v2 v4 v5 K)) ∧ (¬ (3 : Int32) ≤ ((F 5) - v4) → ((vp_in (F 5) 60) ∧ (qM_in F R J ((R 3 ((F 5).toNatClampNeg)).toInt64) (48 : Int64) (57 : Int64) (fun r4 F4 R4 J4 => (r4 = 0 → (qM_number_124 F4 R4 J4 v1 v2 v4 v5 K)) ∧ (¬ r4 = 0 → ((vp_in (F4 5) 60) ∧ (qM_number_40 n40 (upd F4 5 ((F4 5) + (1 : Int32))) R4 J4 v1 v2 v4 ((((10 : Int32) * v5) + (R4 3 ((F4 5).toNatClampNeg))) - (48 : Int32)) K)))))))))))
set_option maxHeartbeats 4000000 in
set_option maxRecDepth 100000 in
theorem lM_number_40 {X : XT} {ka : Nat → ClassId} {ad : Nat → Nat} (C : Cx X cX10_number 6 RX10 (some .int) ka 2) {K : Int32 → FT → RT → JT → Prop} (hret : RetI X cX10_number .int 0 0 (fun z w => ∃ F R J, w = wM ad ka F R J ∧ K z F R J)) : ∀ (n : Nat) (F : FT) (R : RT) (J : JT) (v1 : Int32) (v2 : Int32) (v4 : Int32) (v5 : Int32), qM_number_40 n F R J v1 v2 v4 v5 K → G X 0 0 (wM ad ka F R J) 40 [(0, .ref (ad 20)), (1, .int v1), (2, .int v2), (4, .int v4), (5, .int v5)] [] := by
  intro n
  induction n with
  | zero => intro F R J v1 v2 v4 v5 h; exact h.elim
  | succ n ih =>
    intro F R J v1 v2 v4 v5 h
    refine g_aload_n C 0 dX10_number_40 rfl ?_
    refine Mg_isFault C (v := F 6) rfl dX10_number_41 ?_
    refine g_if_ne C 124 dX10_number_44 (by decide) (fun c1 => ?_) (fun c1 => ?_)
    · have h := h.1 c1
      exact g_lv [0, 1, 2, 3, 4] rfl (lM_number_124 C hret _ _ _ _ _ _ _ h)
    · have h := h.2 c1
      refine g_aload_n C 0 dX10_number_47 rfl ?_
      refine Mg_place C (v := F 5) rfl dX10_number_48 ?_
      refine g_aload_n C 0 dX10_number_51 rfl ?_
      refine Mg_typed C (v := F 4) rfl dX10_number_52 ?_
      refine g_icmp_ge C 124 dX10_number_55 (by decide) (fun c2 => ?_) (fun c2 => ?_)
      · have h := h.1 c2
        exact g_lv [0, 1, 2, 3, 4] rfl (lM_number_124 C hret _ _ _ _ _ _ _ h)
      · have h := h.2 c2
        refine g_aload_n C 0 dX10_number_58 rfl ?_
        refine Mg_place C (v := F 5) rfl dX10_number_59 ?_
        refine g_iload C 3 dX10_number_62 rfl ?_
        refine g_isub C dX10_number_64 ?_
        refine g_iconst C (3 : Int32) dX10_number_65 ci_3 ?_
        refine g_icmp_ge C 124 dX10_number_66 (by decide) (fun c3 => ?_) (fun c3 => ?_)
        · have h := h.1 c3
          exact g_lv [0, 1, 2, 3, 4] rfl (lM_number_124 C hret _ _ _ _ _ _ _ h)
        · have h := h.2 c3
          refine g_aload_n C 0 dX10_number_69 rfl ?_
          refine Mg_tape C dX10_number_70 ?_
          refine g_aload_n C 0 dX10_number_73 rfl ?_
          refine Mg_place C (v := F 5) rfl dX10_number_74 ?_
          refine Ma_tape C (f := R 3) rfl _ rfl h.1 dX10_number_77 ?_
          have h := h.2
          refine g_i2l C dX10_number_78 ?_
          refine g_ldc2 C (gw_of tw4_196 rfl) dX10_number_79 ?_
          refine g_ldc2 C (gw_of tw4_197 rfl) dX10_number_82 ?_
          refine g_callSi0 C (kM_in (xL X) (xD X) ka ad _ _ _ _ _ _ _ h) siX10_in (gw_of tw4_136 rfl) (by decide) rfl rfl (Nat.le_of_ble_eq_true rfl) z00 dX10_number_85 (fun r4 w hw => ?_)
          obtain ⟨F4, R4, J4, rfl, h⟩ := hw
          refine g_if_eq C 124 dX10_number_88 (by decide) (fun c5 => ?_) (fun c5 => ?_)
          · have h := h.1 c5
            exact g_lv [0, 1, 2, 3, 4] rfl (lM_number_124 C hret _ _ _ _ _ _ _ h)
          · have h := h.2 c5
            refine g_bipush C (10 : Int32) dX10_number_91 cb_10 ?_
            refine g_iload C 4 dX10_number_93 rfl ?_
            refine g_imul C dX10_number_95 ?_
            refine g_aload_n C 0 dX10_number_96 rfl ?_
            refine Mg_tape C dX10_number_97 ?_
            refine g_aload_n C 0 dX10_number_100 rfl ?_
            refine Mg_place C (v := F4 5) rfl dX10_number_101 ?_
            refine Ma_tape C (f := R4 3) rfl _ rfl h.1 dX10_number_104 ?_
            have h := h.2
            refine g_iadd C dX10_number_105 ?_
            refine g_bipush C (48 : Int32) dX10_number_106 cb_48 ?_
            refine g_isub C dX10_number_108 ?_
            refine g_istore C [(5, .int ((((10 : Int32) * v5) + (R4 3 ((F4 5).toNatClampNeg))) - (48 : Int32))), (0, .ref (ad 20)), (1, .int v1), (2, .int v2), (4, .int v4)] dX10_number_109 (by decide) rfl ?_
            refine g_aload_n C 1 dX10_number_111 rfl ?_
            refine g_dup C dX10_number_112 rfl ?_
            refine Mg_place C (v := F4 5) rfl dX10_number_113 ?_
            refine g_iconst C (1 : Int32) dX10_number_116 ci_1 ?_
            refine g_iadd C dX10_number_117 ?_
            refine Mp_place C dX10_number_118 ?_
            refine g_goto C 40 dX10_number_121 (by decide) ?_
            exact g_lv [1, 2, 3, 4, 0] rfl (ih _ _ _ _ _ _ _ h)
def qM_number_15 (F : FT) (R : RT) (J : JT) (v1 : Int32) (v2 : Int32) (s0 : Int32) (K : Int32 → FT → RT → JT → Prop) : Prop :=
  qM_in F R J s0.toInt64 (48 : Int64) (57 : Int64) (fun r1 F1 R1 J1 => qM_must F1 R1 J1 r1 (fun F2 R2 J2 => ∃ n40, qM_number_40 n40 F2 R2 J2 v1 v2 (F 5) (0 : Int32) K))
set_option maxHeartbeats 4000000 in
set_option maxRecDepth 100000 in
theorem lM_number_15 {X : XT} {ka : Nat → ClassId} {ad : Nat → Nat} (C : Cx X cX10_number 6 RX10 (some .int) ka 2) {K : Int32 → FT → RT → JT → Prop} (hret : RetI X cX10_number .int 0 0 (fun z w => ∃ F R J, w = wM ad ka F R J ∧ K z F R J)) (F : FT) (R : RT) (J : JT) (v1 : Int32) (v2 : Int32) (s0 : Int32) (h : qM_number_15 F R J v1 v2 s0 K) : G X 0 0 (wM ad ka F R J) 15 [(0, .ref (ad 20)), (1, .int v1), (2, .int v2)] [.int s0] := by
  unfold qM_number_15 at h
  refine g_istore_n C [(3, .int s0), (0, .ref (ad 20)), (1, .int v1), (2, .int v2)] dX10_number_15 (by decide) rfl ?_
  refine g_aload_n C 1 dX10_number_16 rfl ?_
  refine Mg_place C (v := F 5) rfl dX10_number_17 ?_
  refine g_istore C [(4, .int (F 5)), (3, .int s0), (0, .ref (ad 20)), (1, .int v1), (2, .int v2)] dX10_number_20 (by decide) rfl ?_
  refine g_iconst C (0 : Int32) dX10_number_22 ci_0 ?_
  refine g_istore C [(5, .int (0 : Int32)), (4, .int (F 5)), (3, .int s0), (0, .ref (ad 20)), (1, .int v1), (2, .int v2)] dX10_number_23 (by decide) rfl ?_
  refine g_aload_n C 3 dX10_number_25 rfl ?_
  refine g_iload_n C 2 dX10_number_26 rfl ?_
  refine g_i2l C dX10_number_27 ?_
  refine g_ldc2 C (gw_of tw4_196 rfl) dX10_number_28 ?_
  refine g_ldc2 C (gw_of tw4_197 rfl) dX10_number_31 ?_
  refine g_callSi0 C (kM_in (xL X) (xD X) ka ad _ _ _ _ _ _ _ h) siX10_in (gw_of tw4_136 rfl) (by decide) rfl rfl (Nat.le_of_ble_eq_true rfl) z00 dX10_number_34 (fun r1 w hw => ?_)
  obtain ⟨F1, R1, J1, rfl, h⟩ := hw
  refine g_callVv0 C (kM_must (xL X) (xD X) ka ad _ _ _ _ _ h) miX10_must (gw_of tw4_198 rfl) (by decide) wM_at rfl rfl rfl (Nat.le_of_ble_eq_true rfl) z00 dX10_number_37 (fun w hw => ?_)
  obtain ⟨F2, R2, J2, rfl, h⟩ := hw
  obtain ⟨n1, h⟩ := h
  exact g_lv [3, 4, 5, 1, 0] rfl (lM_number_40 C hret n1 _ _ _ _ _ _ _ h)
def qM_number (F : FT) (R : RT) (J : JT) (a1 : Int32) (a2 : Int32) (K : Int32 → FT → RT → JT → Prop) : Prop :=
  ((F 6) = 0 → (qM_here F R J (fun r2 F2 R2 J2 => qM_number_15 F2 R2 J2 a1 a2 r2 K))) ∧ (¬ (F 6) = 0 → (qM_number_15 F R J a1 a2 (0 : Int32) K))
set_option maxHeartbeats 4000000 in
set_option maxRecDepth 100000 in
theorem bM_number {X : XT} {ka : Nat → ClassId} {ad : Nat → Nat} (C : Cx X cX10_number 6 RX10 (some .int) ka 2) {K : Int32 → FT → RT → JT → Prop} (hret : RetI X cX10_number .int 0 0 (fun z w => ∃ F R J, w = wM ad ka F R J ∧ K z F R J)) (F : FT) (R : RT) (J : JT) (a1 : Int32) (a2 : Int32) (h : qM_number F R J a1 a2 K) : G X 0 0 (wM ad ka F R J) 0 [(0, .ref (ad 20)), (1, .int a1), (2, .int a2)] [] := by
  unfold qM_number at h
  refine g_aload_n C 0 dX10_number_0 rfl ?_
  refine Mg_isFault C (v := F 6) rfl dX10_number_1 ?_
  refine g_if_eq C 11 dX10_number_4 (by decide) (fun c1 => ?_) (fun c1 => ?_)
  · have h := h.1 c1
    refine g_aload_n C 0 dX10_number_11 rfl ?_
    refine g_callVi0 C (kM_here (xL X) (xD X) ka ad _ _ _ _ h) miX10_here (gw_of tw4_192 rfl) (by decide) wM_at rfl rfl rfl (Nat.le_of_ble_eq_true rfl) z00 dX10_number_12 (fun r2 w hw => ?_)
    obtain ⟨F2, R2, J2, rfl, h⟩ := hw
    exact g_lv [0, 1, 2] rfl (lM_number_15 C hret _ _ _ _ _ _ h)
  · have h := h.2 c1
    refine g_iconst C (0 : Int32) dX10_number_7 ci_0 ?_
    refine g_goto C 15 dX10_number_8 (by decide) ?_
    exact g_lv [0, 1, 2] rfl (lM_number_15 C hret _ _ _ _ _ _ h)
set_option maxHeartbeats 4000000 in
set_option maxRecDepth 100000 in
theorem kM_number (l : Launch) (D : va_G) (ka : Nat → ClassId) (ad : Nat → Nat) (F : FT) (R : RT) (J : JT) (a1 : Int32) (a2 : Int32) (K : Int32 → FT → RT → JT → Prop) (h : qM_number F R J a1 a2 K) : MI l D ka yX10_number cX10_number 6 (some .int) 2 0 0 [.ref (ad 20), .int a1, .int a2] (wM ad ka F R J) (fun z w => ∃ F R J, w = wM ad ka F R J ∧ K z F R J) := MI_of (by decide) (Nat.le_of_ble_eq_true rfl) (fun X C hroom hret => bM_number C hret F R J a1 a2 h)
set_option maxHeartbeats 4000000 in
set_option maxRecDepth 100000 in
theorem miX10_number : MInf yX10_number cX10_number 6 (some .int) 2 := ⟨(gw_of tw4_190 rfl), (gw_of tp_yX10_number rfl), (gw_of tw1_6 rfl), (gw_of tw4_191 rfl), by decide +kernel, by decide⟩

def qM_readBuilders_237 (k2 : FT → RT → JT → Int32 → Prop) (F : FT) (R : RT) (J : JT) (v1 : Int32) (K : Int32 → FT → RT → JT → Prop) : Prop :=
  k2 F R J (v1 + (1 : Int32))
set_option maxHeartbeats 4000000 in
set_option maxRecDepth 100000 in
theorem lM_readBuilders_237 {X : XT} {ka : Nat → ClassId} {ad : Nat → Nat} (C : Cx X cX10_readBuilders 6 RX10 (some .int) ka 3) {K : Int32 → FT → RT → JT → Prop} (hret : RetI X cX10_readBuilders .int 0 0 (fun z w => ∃ F R J, w = wM ad ka F R J ∧ K z F R J)) {k2 : FT → RT → JT → Int32 → Prop} (hk2 : ∀ (F : FT) (R : RT) (J : JT) (v1 : Int32), k2 F R J v1 → G X 0 0 (wM ad ka F R J) 2 [(0, .ref (ad 20)), (1, .int v1)] []) (F : FT) (R : RT) (J : JT) (v1 : Int32) (h : qM_readBuilders_237 k2 F R J v1 K) : G X 0 0 (wM ad ka F R J) 237 [(0, .ref (ad 20)), (1, .int v1)] [] := by
  unfold qM_readBuilders_237 at h
  refine g_iinc C 1 (v1 + (1 : Int32)) [(1, .int (v1 + (1 : Int32))), (0, .ref (ad 20))] dX10_readBuilders_237 rfl (by rw [ci_1]) (by decide) rfl ?_
  refine g_goto C 2 dX10_readBuilders_240 (by decide) ?_
  exact g_lv [1, 0] rfl (hk2 _ _ _ _ h)
def qM_readBuilders_175 (k2 : FT → RT → JT → Int32 → Prop) (F : FT) (R : RT) (J : JT) (v1 : Int32) (v3 : Int32) (s0 : Int32) (s1 : Int32) (K : Int32 → FT → RT → JT → Prop) : Prop :=
  qM_digit (upd F 5 (s1 + s0)) R J (1 : Int32) (9 : Int32) (fun r1 F1 R1 J1 => qM_digit F1 R1 J1 (0 : Int32) (9 : Int32) (fun r2 F2 R2 J2 => (¬ (F2 6) = 0 → (qM_readBuilders_237 k2 F2 R2 J2 v1 K)) ∧ ((F2 6) = 0 → ((vp_in ((3 : Int32) * v1) 24) ∧ ((vp_in (((3 : Int32) * v1) + (1 : Int32)) 24) ∧ ((vp_in (((3 : Int32) * v1) + (2 : Int32)) 24) ∧ (qM_readBuilders_237 k2 F2 (va_up (va_up (va_up R2 7 (upd (R2 7) (((3 : Int32) * v1).toNatClampNeg) v3)) 7 (upd (upd (R2 7) (((3 : Int32) * v1).toNatClampNeg) v3) ((((3 : Int32) * v1) + (1 : Int32)).toNatClampNeg) r1)) 7 (upd (upd (upd (R2 7) (((3 : Int32) * v1).toNatClampNeg) v3) ((((3 : Int32) * v1) + (1 : Int32)).toNatClampNeg) r1) ((((3 : Int32) * v1) + (2 : Int32)).toNatClampNeg) r2)) J2 v1 K)))))))
set_option maxHeartbeats 4000000 in
set_option maxRecDepth 100000 in
theorem lM_readBuilders_175 {X : XT} {ka : Nat → ClassId} {ad : Nat → Nat} (C : Cx X cX10_readBuilders 6 RX10 (some .int) ka 3) {K : Int32 → FT → RT → JT → Prop} (hret : RetI X cX10_readBuilders .int 0 0 (fun z w => ∃ F R J, w = wM ad ka F R J ∧ K z F R J)) {k2 : FT → RT → JT → Int32 → Prop} (hk2 : ∀ (F : FT) (R : RT) (J : JT) (v1 : Int32), k2 F R J v1 → G X 0 0 (wM ad ka F R J) 2 [(0, .ref (ad 20)), (1, .int v1)] []) (F : FT) (R : RT) (J : JT) (v1 : Int32) (v3 : Int32) (s0 : Int32) (s1 : Int32) (h : qM_readBuilders_175 k2 F R J v1 v3 s0 s1 K) : G X 0 0 (wM ad ka F R J) 175 [(0, .ref (ad 20)), (1, .int v1), (3, .int v3)] [.int s0, .int s1, .ref (ad 20)] := by
  unfold qM_readBuilders_175 at h
  refine g_iadd C dX10_readBuilders_175 ?_
  refine Mp_place C dX10_readBuilders_176 ?_
  refine g_aload_n C 0 dX10_readBuilders_179 rfl ?_
  refine g_iconst C (1 : Int32) dX10_readBuilders_180 ci_1 ?_
  refine g_bipush C (9 : Int32) dX10_readBuilders_181 cb_9 ?_
  refine g_callVi0 C (kM_digit (xL X) (xD X) ka ad _ _ _ _ _ _ h) miX10_digit (gw_of tw4_210 rfl) (by decide) wM_at rfl rfl rfl (Nat.le_of_ble_eq_true rfl) z00 dX10_readBuilders_183 (fun r1 w hw => ?_)
  obtain ⟨F1, R1, J1, rfl, h⟩ := hw
  refine g_istore C [(4, .int r1), (0, .ref (ad 20)), (1, .int v1), (3, .int v3)] dX10_readBuilders_186 (by decide) rfl ?_
  refine g_aload_n C 1 dX10_readBuilders_188 rfl ?_
  refine g_iconst C (0 : Int32) dX10_readBuilders_189 ci_0 ?_
  refine g_bipush C (9 : Int32) dX10_readBuilders_190 cb_9 ?_
  refine g_callVi0 C (kM_digit (xL X) (xD X) ka ad _ _ _ _ _ _ h) miX10_digit (gw_of tw4_210 rfl) (by decide) wM_at rfl rfl rfl (Nat.le_of_ble_eq_true rfl) z00 dX10_readBuilders_192 (fun r2 w hw => ?_)
  obtain ⟨F2, R2, J2, rfl, h⟩ := hw
  refine g_istore C [(5, .int r2), (4, .int r1), (0, .ref (ad 20)), (1, .int v1), (3, .int v3)] dX10_readBuilders_195 (by decide) rfl ?_
  refine g_aload_n C 2 dX10_readBuilders_197 rfl ?_
  refine Mg_isFault C (v := F2 6) rfl dX10_readBuilders_198 ?_
  refine g_if_ne C 237 dX10_readBuilders_201 (by decide) (fun c3 => ?_) (fun c3 => ?_)
  · have h := h.1 c3
    exact g_lv [2, 3] rfl (lM_readBuilders_237 C hret hk2 _ _ _ _ h)
  · have h := h.2 c3
    refine g_aload_n C 2 dX10_readBuilders_204 rfl ?_
    refine Mg_read C dX10_readBuilders_205 ?_
    refine g_iconst C (3 : Int32) dX10_readBuilders_208 ci_3 ?_
    refine g_iload_n C 3 dX10_readBuilders_209 rfl ?_
    refine g_imul C dX10_readBuilders_210 ?_
    refine g_iload_n C 4 dX10_readBuilders_211 rfl ?_
    refine Ms_read C (f := R2 7) rfl _ rfl h.1 dX10_readBuilders_212 ?_
    have h := h.2
    refine g_aload_n C 2 dX10_readBuilders_213 rfl ?_
    refine Mg_read C dX10_readBuilders_214 ?_
    refine g_iconst C (3 : Int32) dX10_readBuilders_217 ci_3 ?_
    refine g_iload_n C 3 dX10_readBuilders_218 rfl ?_
    refine g_imul C dX10_readBuilders_219 ?_
    refine g_iconst C (1 : Int32) dX10_readBuilders_220 ci_1 ?_
    refine g_iadd C dX10_readBuilders_221 ?_
    refine g_iload C 1 dX10_readBuilders_222 rfl ?_
    refine Ms_read (R := (va_up R2 7 (upd (R2 7) (((3 : Int32) * v1).toNatClampNeg) v3))) C (f := upd (R2 7) (((3 : Int32) * v1).toNatClampNeg) v3) rfl _ rfl h.1 dX10_readBuilders_224 ?_
    have h := h.2
    refine g_aload_n C 2 dX10_readBuilders_225 rfl ?_
    refine Mg_read C dX10_readBuilders_226 ?_
    refine g_iconst C (3 : Int32) dX10_readBuilders_229 ci_3 ?_
    refine g_iload_n C 3 dX10_readBuilders_230 rfl ?_
    refine g_imul C dX10_readBuilders_231 ?_
    refine g_iconst C (2 : Int32) dX10_readBuilders_232 ci_2 ?_
    refine g_iadd C dX10_readBuilders_233 ?_
    refine g_iload C 0 dX10_readBuilders_234 rfl ?_
    refine Ms_read (R := (va_up (va_up R2 7 (upd (R2 7) (((3 : Int32) * v1).toNatClampNeg) v3)) 7 (upd (upd (R2 7) (((3 : Int32) * v1).toNatClampNeg) v3) ((((3 : Int32) * v1) + (1 : Int32)).toNatClampNeg) r1))) C (f := upd (upd (R2 7) (((3 : Int32) * v1).toNatClampNeg) v3) ((((3 : Int32) * v1) + (1 : Int32)).toNatClampNeg) r1) rfl _ rfl h.1 dX10_readBuilders_236 ?_
    have h := h.2
    exact g_lv [2, 3] rfl (lM_readBuilders_237 C hret hk2 _ _ _ _ h)
def qM_readBuilders_155 (k2 : FT → RT → JT → Int32 → Prop) (F : FT) (R : RT) (J : JT) (v1 : Int32) (v3 : Int32) (s0 : Int32) (K : Int32 → FT → RT → JT → Prop) : Prop :=
  qM_must F R J s0 (fun F1 R1 J1 => ((F1 6) = 0 → (qM_readBuilders_175 k2 F1 R1 J1 v1 v3 (1 : Int32) (F1 5) K)) ∧ (¬ (F1 6) = 0 → (qM_readBuilders_175 k2 F1 R1 J1 v1 v3 (0 : Int32) (F1 5) K)))
set_option maxHeartbeats 4000000 in
set_option maxRecDepth 100000 in
theorem lM_readBuilders_155 {X : XT} {ka : Nat → ClassId} {ad : Nat → Nat} (C : Cx X cX10_readBuilders 6 RX10 (some .int) ka 3) {K : Int32 → FT → RT → JT → Prop} (hret : RetI X cX10_readBuilders .int 0 0 (fun z w => ∃ F R J, w = wM ad ka F R J ∧ K z F R J)) {k2 : FT → RT → JT → Int32 → Prop} (hk2 : ∀ (F : FT) (R : RT) (J : JT) (v1 : Int32), k2 F R J v1 → G X 0 0 (wM ad ka F R J) 2 [(0, .ref (ad 20)), (1, .int v1)] []) (F : FT) (R : RT) (J : JT) (v1 : Int32) (v3 : Int32) (s0 : Int32) (h : qM_readBuilders_155 k2 F R J v1 v3 s0 K) : G X 0 0 (wM ad ka F R J) 155 [(0, .ref (ad 20)), (1, .int v1), (3, .int v3)] [.int s0, .ref (ad 20)] := by
  unfold qM_readBuilders_155 at h
  refine g_callVv0 C (kM_must (xL X) (xD X) ka ad _ _ _ _ _ h) miX10_must (gw_of tw4_198 rfl) (by decide) wM_at rfl rfl rfl (Nat.le_of_ble_eq_true rfl) z00 dX10_readBuilders_155 (fun w hw => ?_)
  obtain ⟨F1, R1, J1, rfl, h⟩ := hw
  refine g_aload_n C 0 dX10_readBuilders_158 rfl ?_
  refine g_dup C dX10_readBuilders_159 rfl ?_
  refine Mg_place C (v := F1 5) rfl dX10_readBuilders_160 ?_
  refine g_aload_n C 0 dX10_readBuilders_163 rfl ?_
  refine Mg_isFault C (v := F1 6) rfl dX10_readBuilders_164 ?_
  refine g_if_eq C 174 dX10_readBuilders_167 (by decide) (fun c2 => ?_) (fun c2 => ?_)
  · have h := h.1 c2
    refine g_iconst C (1 : Int32) dX10_readBuilders_174 ci_1 ?_
    exact g_lv [0, 1, 2] rfl (lM_readBuilders_175 C hret hk2 _ _ _ _ _ _ _ h)
  · have h := h.2 c2
    refine g_iconst C (0 : Int32) dX10_readBuilders_170 ci_0 ?_
    refine g_goto C 175 dX10_readBuilders_171 (by decide) ?_
    exact g_lv [0, 1, 2] rfl (lM_readBuilders_175 C hret hk2 _ _ _ _ _ _ _ h)
def qM_readBuilders_144 (k2 : FT → RT → JT → Int32 → Prop) (F : FT) (R : RT) (J : JT) (v1 : Int32) (s0 : Int32) (K : Int32 → FT → RT → JT → Prop) : Prop :=
  (s0 < 0 → (qM_readBuilders_155 k2 F R J v1 s0 (0 : Int32) K)) ∧ (¬ s0 < 0 → (qM_readBuilders_155 k2 F R J v1 s0 (1 : Int32) K))
set_option maxHeartbeats 4000000 in
set_option maxRecDepth 100000 in
theorem lM_readBuilders_144 {X : XT} {ka : Nat → ClassId} {ad : Nat → Nat} (C : Cx X cX10_readBuilders 6 RX10 (some .int) ka 3) {K : Int32 → FT → RT → JT → Prop} (hret : RetI X cX10_readBuilders .int 0 0 (fun z w => ∃ F R J, w = wM ad ka F R J ∧ K z F R J)) {k2 : FT → RT → JT → Int32 → Prop} (hk2 : ∀ (F : FT) (R : RT) (J : JT) (v1 : Int32), k2 F R J v1 → G X 0 0 (wM ad ka F R J) 2 [(0, .ref (ad 20)), (1, .int v1)] []) (F : FT) (R : RT) (J : JT) (v1 : Int32) (s0 : Int32) (h : qM_readBuilders_144 k2 F R J v1 s0 K) : G X 0 0 (wM ad ka F R J) 144 [(0, .ref (ad 20)), (1, .int v1)] [.int s0] := by
  unfold qM_readBuilders_144 at h
  refine g_istore_n C [(3, .int s0), (0, .ref (ad 20)), (1, .int v1)] dX10_readBuilders_144 (by decide) rfl ?_
  refine g_aload_n C 1 dX10_readBuilders_145 rfl ?_
  refine g_iload_n C 0 dX10_readBuilders_146 rfl ?_
  refine g_if_lt C 154 dX10_readBuilders_147 (by decide) (fun c1 => ?_) (fun c1 => ?_)
  · have h := h.1 c1
    refine g_iconst C (0 : Int32) dX10_readBuilders_154 ci_0 ?_
    exact g_lv [1, 2, 0] rfl (lM_readBuilders_155 C hret hk2 _ _ _ _ _ _ h)
  · have h := h.2 c1
    refine g_iconst C (1 : Int32) dX10_readBuilders_150 ci_1 ?_
    refine g_goto C 155 dX10_readBuilders_151 (by decide) ?_
    exact g_lv [1, 2, 0] rfl (lM_readBuilders_155 C hret hk2 _ _ _ _ _ _ h)
def qM_readBuilders_92 (k2 : FT → RT → JT → Int32 → Prop) (F : FT) (R : RT) (J : JT) (v1 : Int32) (s0 : Int32) (K : Int32 → FT → RT → JT → Prop) : Prop :=
  (¬ s0 = (112 : Int32) → ((¬ s0 = (104 : Int32) → ((¬ s0 = (98 : Int32) → ((¬ s0 = (103 : Int32) → ((¬ s0 = (119 : Int32) → (qM_readBuilders_144 k2 F R J v1 (-1 : Int32) K)) ∧ (s0 = (119 : Int32) → (qM_readBuilders_144 k2 F R J v1 (4 : Int32) K)))) ∧ (s0 = (103 : Int32) → (qM_readBuilders_144 k2 F R J v1 (3 : Int32) K)))) ∧ (s0 = (98 : Int32) → (qM_readBuilders_144 k2 F R J v1 (2 : Int32) K)))) ∧ (s0 = (104 : Int32) → (qM_readBuilders_144 k2 F R J v1 (1 : Int32) K)))) ∧ (s0 = (112 : Int32) → (qM_readBuilders_144 k2 F R J v1 (0 : Int32) K))
set_option maxHeartbeats 4000000 in
set_option maxRecDepth 100000 in
theorem lM_readBuilders_92 {X : XT} {ka : Nat → ClassId} {ad : Nat → Nat} (C : Cx X cX10_readBuilders 6 RX10 (some .int) ka 3) {K : Int32 → FT → RT → JT → Prop} (hret : RetI X cX10_readBuilders .int 0 0 (fun z w => ∃ F R J, w = wM ad ka F R J ∧ K z F R J)) {k2 : FT → RT → JT → Int32 → Prop} (hk2 : ∀ (F : FT) (R : RT) (J : JT) (v1 : Int32), k2 F R J v1 → G X 0 0 (wM ad ka F R J) 2 [(0, .ref (ad 20)), (1, .int v1)] []) (F : FT) (R : RT) (J : JT) (v1 : Int32) (s0 : Int32) (h : qM_readBuilders_92 k2 F R J v1 s0 K) : G X 0 0 (wM ad ka F R J) 92 [(0, .ref (ad 20)), (1, .int v1)] [.int s0] := by
  unfold qM_readBuilders_92 at h
  refine g_istore_n C [(2, .int s0), (0, .ref (ad 20)), (1, .int v1)] dX10_readBuilders_92 (by decide) rfl ?_
  refine g_iload_n C 0 dX10_readBuilders_93 rfl ?_
  refine g_bipush C (112 : Int32) dX10_readBuilders_94 cb_112 ?_
  refine g_icmp_ne C 103 dX10_readBuilders_96 (by decide) (fun c1 => ?_) (fun c1 => ?_)
  · have h := h.1 c1
    refine g_iload_n C 0 dX10_readBuilders_103 rfl ?_
    refine g_bipush C (104 : Int32) dX10_readBuilders_104 cb_104 ?_
    refine g_icmp_ne C 113 dX10_readBuilders_106 (by decide) (fun c2 => ?_) (fun c2 => ?_)
    · have h := h.1 c2
      refine g_iload_n C 0 dX10_readBuilders_113 rfl ?_
      refine g_bipush C (98 : Int32) dX10_readBuilders_114 cb_98 ?_
      refine g_icmp_ne C 123 dX10_readBuilders_116 (by decide) (fun c3 => ?_) (fun c3 => ?_)
      · have h := h.1 c3
        refine g_iload_n C 0 dX10_readBuilders_123 rfl ?_
        refine g_bipush C (103 : Int32) dX10_readBuilders_124 cb_103 ?_
        refine g_icmp_ne C 133 dX10_readBuilders_126 (by decide) (fun c4 => ?_) (fun c4 => ?_)
        · have h := h.1 c4
          refine g_iload_n C 0 dX10_readBuilders_133 rfl ?_
          refine g_bipush C (119 : Int32) dX10_readBuilders_134 cb_119 ?_
          refine g_icmp_ne C 143 dX10_readBuilders_136 (by decide) (fun c5 => ?_) (fun c5 => ?_)
          · have h := h.1 c5
            refine g_iconst C (-1 : Int32) dX10_readBuilders_143 ci_m1 ?_
            exact g_lv [1, 2] rfl (lM_readBuilders_144 C hret hk2 _ _ _ _ _ h)
          · have h := h.2 c5
            refine g_iconst C (4 : Int32) dX10_readBuilders_139 ci_4 ?_
            refine g_goto C 144 dX10_readBuilders_140 (by decide) ?_
            exact g_lv [1, 2] rfl (lM_readBuilders_144 C hret hk2 _ _ _ _ _ h)
        · have h := h.2 c4
          refine g_iconst C (3 : Int32) dX10_readBuilders_129 ci_3 ?_
          refine g_goto C 144 dX10_readBuilders_130 (by decide) ?_
          exact g_lv [1, 2] rfl (lM_readBuilders_144 C hret hk2 _ _ _ _ _ h)
      · have h := h.2 c3
        refine g_iconst C (2 : Int32) dX10_readBuilders_119 ci_2 ?_
        refine g_goto C 144 dX10_readBuilders_120 (by decide) ?_
        exact g_lv [1, 2] rfl (lM_readBuilders_144 C hret hk2 _ _ _ _ _ h)
    · have h := h.2 c2
      refine g_iconst C (1 : Int32) dX10_readBuilders_109 ci_1 ?_
      refine g_goto C 144 dX10_readBuilders_110 (by decide) ?_
      exact g_lv [1, 2] rfl (lM_readBuilders_144 C hret hk2 _ _ _ _ _ h)
  · have h := h.2 c1
    refine g_iconst C (0 : Int32) dX10_readBuilders_99 ci_0 ?_
    refine g_goto C 144 dX10_readBuilders_100 (by decide) ?_
    exact g_lv [1, 2] rfl (lM_readBuilders_144 C hret hk2 _ _ _ _ _ h)
def qM_readBuilders_77 (k2 : FT → RT → JT → Int32 → Prop) (F : FT) (R : RT) (J : JT) (v1 : Int32) (K : Int32 → FT → RT → JT → Prop) : Prop :=
  ((F 6) = 0 → (qM_here F R J (fun r2 F2 R2 J2 => qM_readBuilders_92 k2 F2 R2 J2 v1 r2 K))) ∧ (¬ (F 6) = 0 → (qM_readBuilders_92 k2 F R J v1 (0 : Int32) K))
set_option maxHeartbeats 4000000 in
set_option maxRecDepth 100000 in
theorem lM_readBuilders_77 {X : XT} {ka : Nat → ClassId} {ad : Nat → Nat} (C : Cx X cX10_readBuilders 6 RX10 (some .int) ka 3) {K : Int32 → FT → RT → JT → Prop} (hret : RetI X cX10_readBuilders .int 0 0 (fun z w => ∃ F R J, w = wM ad ka F R J ∧ K z F R J)) {k2 : FT → RT → JT → Int32 → Prop} (hk2 : ∀ (F : FT) (R : RT) (J : JT) (v1 : Int32), k2 F R J v1 → G X 0 0 (wM ad ka F R J) 2 [(0, .ref (ad 20)), (1, .int v1)] []) (F : FT) (R : RT) (J : JT) (v1 : Int32) (h : qM_readBuilders_77 k2 F R J v1 K) : G X 0 0 (wM ad ka F R J) 77 [(0, .ref (ad 20)), (1, .int v1)] [] := by
  unfold qM_readBuilders_77 at h
  refine g_aload_n C 0 dX10_readBuilders_77 rfl ?_
  refine Mg_isFault C (v := F 6) rfl dX10_readBuilders_78 ?_
  refine g_if_eq C 88 dX10_readBuilders_81 (by decide) (fun c1 => ?_) (fun c1 => ?_)
  · have h := h.1 c1
    refine g_aload_n C 0 dX10_readBuilders_88 rfl ?_
    refine g_callVi0 C (kM_here (xL X) (xD X) ka ad _ _ _ _ h) miX10_here (gw_of tw4_192 rfl) (by decide) wM_at rfl rfl rfl (Nat.le_of_ble_eq_true rfl) z00 dX10_readBuilders_89 (fun r2 w hw => ?_)
    obtain ⟨F2, R2, J2, rfl, h⟩ := hw
    exact g_lv [0, 1] rfl (lM_readBuilders_92 C hret hk2 _ _ _ _ _ h)
  · have h := h.2 c1
    refine g_iconst C (0 : Int32) dX10_readBuilders_84 ci_0 ?_
    refine g_goto C 92 dX10_readBuilders_85 (by decide) ?_
    exact g_lv [0, 1] rfl (lM_readBuilders_92 C hret hk2 _ _ _ _ _ h)
def qM_readBuilders_73 (k2 : FT → RT → JT → Int32 → Prop) (F : FT) (R : RT) (J : JT) (v1 : Int32) (s0 : Int32) (s1 : Int32) (K : Int32 → FT → RT → JT → Prop) : Prop :=
  qM_readBuilders_77 k2 (upd F 5 (s1 + s0)) R J v1 K
set_option maxHeartbeats 4000000 in
set_option maxRecDepth 100000 in
theorem lM_readBuilders_73 {X : XT} {ka : Nat → ClassId} {ad : Nat → Nat} (C : Cx X cX10_readBuilders 6 RX10 (some .int) ka 3) {K : Int32 → FT → RT → JT → Prop} (hret : RetI X cX10_readBuilders .int 0 0 (fun z w => ∃ F R J, w = wM ad ka F R J ∧ K z F R J)) {k2 : FT → RT → JT → Int32 → Prop} (hk2 : ∀ (F : FT) (R : RT) (J : JT) (v1 : Int32), k2 F R J v1 → G X 0 0 (wM ad ka F R J) 2 [(0, .ref (ad 20)), (1, .int v1)] []) (F : FT) (R : RT) (J : JT) (v1 : Int32) (s0 : Int32) (s1 : Int32) (h : qM_readBuilders_73 k2 F R J v1 s0 s1 K) : G X 0 0 (wM ad ka F R J) 73 [(0, .ref (ad 20)), (1, .int v1)] [.int s0, .int s1, .ref (ad 20)] := by
  unfold qM_readBuilders_73 at h
  refine g_iadd C dX10_readBuilders_73 ?_
  refine Mp_place C dX10_readBuilders_74 ?_
  exact g_lv [0, 1] rfl (lM_readBuilders_77 C hret hk2 _ _ _ _ h)
def qM_readBuilders_53 (k2 : FT → RT → JT → Int32 → Prop) (F : FT) (R : RT) (J : JT) (v1 : Int32) (s0 : Int32) (K : Int32 → FT → RT → JT → Prop) : Prop :=
  qM_must F R J s0 (fun F1 R1 J1 => ((F1 6) = 0 → (qM_readBuilders_73 k2 F1 R1 J1 v1 (1 : Int32) (F1 5) K)) ∧ (¬ (F1 6) = 0 → (qM_readBuilders_73 k2 F1 R1 J1 v1 (0 : Int32) (F1 5) K)))
set_option maxHeartbeats 4000000 in
set_option maxRecDepth 100000 in
theorem lM_readBuilders_53 {X : XT} {ka : Nat → ClassId} {ad : Nat → Nat} (C : Cx X cX10_readBuilders 6 RX10 (some .int) ka 3) {K : Int32 → FT → RT → JT → Prop} (hret : RetI X cX10_readBuilders .int 0 0 (fun z w => ∃ F R J, w = wM ad ka F R J ∧ K z F R J)) {k2 : FT → RT → JT → Int32 → Prop} (hk2 : ∀ (F : FT) (R : RT) (J : JT) (v1 : Int32), k2 F R J v1 → G X 0 0 (wM ad ka F R J) 2 [(0, .ref (ad 20)), (1, .int v1)] []) (F : FT) (R : RT) (J : JT) (v1 : Int32) (s0 : Int32) (h : qM_readBuilders_53 k2 F R J v1 s0 K) : G X 0 0 (wM ad ka F R J) 53 [(0, .ref (ad 20)), (1, .int v1)] [.int s0, .ref (ad 20)] := by
  unfold qM_readBuilders_53 at h
  refine g_callVv0 C (kM_must (xL X) (xD X) ka ad _ _ _ _ _ h) miX10_must (gw_of tw4_198 rfl) (by decide) wM_at rfl rfl rfl (Nat.le_of_ble_eq_true rfl) z00 dX10_readBuilders_53 (fun w hw => ?_)
  obtain ⟨F1, R1, J1, rfl, h⟩ := hw
  refine g_aload_n C 0 dX10_readBuilders_56 rfl ?_
  refine g_dup C dX10_readBuilders_57 rfl ?_
  refine Mg_place C (v := F1 5) rfl dX10_readBuilders_58 ?_
  refine g_aload_n C 0 dX10_readBuilders_61 rfl ?_
  refine Mg_isFault C (v := F1 6) rfl dX10_readBuilders_62 ?_
  refine g_if_eq C 72 dX10_readBuilders_65 (by decide) (fun c2 => ?_) (fun c2 => ?_)
  · have h := h.1 c2
    refine g_iconst C (1 : Int32) dX10_readBuilders_72 ci_1 ?_
    exact g_lv [0, 1] rfl (lM_readBuilders_73 C hret hk2 _ _ _ _ _ _ h)
  · have h := h.2 c2
    refine g_iconst C (0 : Int32) dX10_readBuilders_68 ci_0 ?_
    refine g_goto C 73 dX10_readBuilders_69 (by decide) ?_
    exact g_lv [0, 1] rfl (lM_readBuilders_73 C hret hk2 _ _ _ _ _ _ h)
def qM_readBuilders_52 (k2 : FT → RT → JT → Int32 → Prop) (F : FT) (R : RT) (J : JT) (v1 : Int32) (K : Int32 → FT → RT → JT → Prop) : Prop :=
  qM_readBuilders_53 k2 F R J v1 (0 : Int32) K
set_option maxHeartbeats 4000000 in
set_option maxRecDepth 100000 in
theorem lM_readBuilders_52 {X : XT} {ka : Nat → ClassId} {ad : Nat → Nat} (C : Cx X cX10_readBuilders 6 RX10 (some .int) ka 3) {K : Int32 → FT → RT → JT → Prop} (hret : RetI X cX10_readBuilders .int 0 0 (fun z w => ∃ F R J, w = wM ad ka F R J ∧ K z F R J)) {k2 : FT → RT → JT → Int32 → Prop} (hk2 : ∀ (F : FT) (R : RT) (J : JT) (v1 : Int32), k2 F R J v1 → G X 0 0 (wM ad ka F R J) 2 [(0, .ref (ad 20)), (1, .int v1)] []) (F : FT) (R : RT) (J : JT) (v1 : Int32) (h : qM_readBuilders_52 k2 F R J v1 K) : G X 0 0 (wM ad ka F R J) 52 [(0, .ref (ad 20)), (1, .int v1)] [.ref (ad 20)] := by
  unfold qM_readBuilders_52 at h
  refine g_iconst C (0 : Int32) dX10_readBuilders_52 ci_0 ?_
  exact g_lv [0, 1] rfl (lM_readBuilders_53 C hret hk2 _ _ _ _ _ h)
def qM_readBuilders_29 (k2 : FT → RT → JT → Int32 → Prop) (F : FT) (R : RT) (J : JT) (v1 : Int32) (K : Int32 → FT → RT → JT → Prop) : Prop :=
  (v1 ≤ 0 → (qM_readBuilders_77 k2 F R J v1 K)) ∧ (¬ v1 ≤ 0 → (((4 : Int32) ≤ v1 → (qM_readBuilders_52 k2 F R J v1 K)) ∧ (¬ (4 : Int32) ≤ v1 → (qM_here F R J (fun r3 F3 R3 J3 => (¬ r3 = (44 : Int32) → (qM_readBuilders_52 k2 F3 R3 J3 v1 K)) ∧ (r3 = (44 : Int32) → (qM_readBuilders_53 k2 F3 R3 J3 v1 (1 : Int32) K)))))))
set_option maxHeartbeats 4000000 in
set_option maxRecDepth 100000 in
theorem lM_readBuilders_29 {X : XT} {ka : Nat → ClassId} {ad : Nat → Nat} (C : Cx X cX10_readBuilders 6 RX10 (some .int) ka 3) {K : Int32 → FT → RT → JT → Prop} (hret : RetI X cX10_readBuilders .int 0 0 (fun z w => ∃ F R J, w = wM ad ka F R J ∧ K z F R J)) {k2 : FT → RT → JT → Int32 → Prop} (hk2 : ∀ (F : FT) (R : RT) (J : JT) (v1 : Int32), k2 F R J v1 → G X 0 0 (wM ad ka F R J) 2 [(0, .ref (ad 20)), (1, .int v1)] []) (F : FT) (R : RT) (J : JT) (v1 : Int32) (h : qM_readBuilders_29 k2 F R J v1 K) : G X 0 0 (wM ad ka F R J) 29 [(0, .ref (ad 20)), (1, .int v1)] [] := by
  unfold qM_readBuilders_29 at h
  refine g_iload_n C 1 dX10_readBuilders_29 rfl ?_
  refine g_if_le C 77 dX10_readBuilders_30 (by decide) (fun c1 => ?_) (fun c1 => ?_)
  · have h := h.1 c1
    exact g_lv [0, 1] rfl (lM_readBuilders_77 C hret hk2 _ _ _ _ h)
  · have h := h.2 c1
    refine g_aload_n C 0 dX10_readBuilders_33 rfl ?_
    refine g_iload_n C 1 dX10_readBuilders_34 rfl ?_
    refine g_iconst C (4 : Int32) dX10_readBuilders_35 ci_4 ?_
    refine g_icmp_ge C 52 dX10_readBuilders_36 (by decide) (fun c2 => ?_) (fun c2 => ?_)
    · have h := h.1 c2
      exact g_lv [0, 1] rfl (lM_readBuilders_52 C hret hk2 _ _ _ _ h)
    · have h := h.2 c2
      refine g_aload_n C 0 dX10_readBuilders_39 rfl ?_
      refine g_callVi0 C (kM_here (xL X) (xD X) ka ad _ _ _ _ h) miX10_here (gw_of tw4_192 rfl) (by decide) wM_at rfl rfl rfl (Nat.le_of_ble_eq_true rfl) z00 dX10_readBuilders_40 (fun r3 w hw => ?_)
      obtain ⟨F3, R3, J3, rfl, h⟩ := hw
      refine g_bipush C (44 : Int32) dX10_readBuilders_43 cb_44 ?_
      refine g_icmp_ne C 52 dX10_readBuilders_45 (by decide) (fun c4 => ?_) (fun c4 => ?_)
      · have h := h.1 c4
        exact g_lv [0, 1] rfl (lM_readBuilders_52 C hret hk2 _ _ _ _ h)
      · have h := h.2 c4
        refine g_iconst C (1 : Int32) dX10_readBuilders_48 ci_1 ?_
        refine g_goto C 53 dX10_readBuilders_49 (by decide) ?_
        exact g_lv [0, 1] rfl (lM_readBuilders_53 C hret hk2 _ _ _ _ _ h)
def qM_readBuilders_2 : Nat → FT → RT → JT → Int32 → (Int32 → FT → RT → JT → Prop) → Prop
  | 0, _, _, _, _ => fun _ => False
  | n2 + 1, F, R, J, v1 => fun K => (¬ (F 6) = 0 → (K v1 F R J)) ∧ ((F 6) = 0 → ((v1 = 0 → (qM_readBuilders_29 (fun F R J v1 => qM_readBuilders_2 n2 F R J v1 K) F R J v1 K)) ∧ (¬ v1 = 0 → (qM_here F R J (fun r3 F3 R3 J3 => (r3 = 0 → (K v1 F3 R3 J3)) ∧ (¬ r3 = 0 → (qM_here F3 R3 J3 (fun r5 F5 R5 J5 => (r5 = (59 : Int32) → (K v1 F5 R5 J5)) ∧ (¬ r5 = (59 : Int32) → (qM_readBuilders_29 (fun F R J v1 => qM_readBuilders_2 n2 F R J v1 K) F5 R5 J5 v1 K))))))))))
set_option maxHeartbeats 4000000 in
set_option maxRecDepth 100000 in
theorem lM_readBuilders_2 {X : XT} {ka : Nat → ClassId} {ad : Nat → Nat} (C : Cx X cX10_readBuilders 6 RX10 (some .int) ka 3) {K : Int32 → FT → RT → JT → Prop} (hret : RetI X cX10_readBuilders .int 0 0 (fun z w => ∃ F R J, w = wM ad ka F R J ∧ K z F R J)) : ∀ (n : Nat) (F : FT) (R : RT) (J : JT) (v1 : Int32), qM_readBuilders_2 n F R J v1 K → G X 0 0 (wM ad ka F R J) 2 [(0, .ref (ad 20)), (1, .int v1)] [] := by
  intro n
  induction n with
  | zero => intro F R J v1 h; exact h.elim
  | succ n ih =>
    intro F R J v1 h
    refine g_aload_n C 0 dX10_readBuilders_2 rfl ?_
    refine Mg_isFault C (v := F 6) rfl dX10_readBuilders_3 ?_
    refine g_if_ne C 243 dX10_readBuilders_6 (by decide) (fun c1 => ?_) (fun c1 => ?_)
    · have h := h.1 c1
      refine g_iload_n C 1 dX10_readBuilders_243 rfl ?_
      exact hret _ _ _ _ ⟨_, _, _, rfl, h⟩ rfl dX10_readBuilders_244
    · have h := h.2 c1
      refine g_iload_n C 1 dX10_readBuilders_9 rfl ?_
      refine g_if_eq C 29 dX10_readBuilders_10 (by decide) (fun c2 => ?_) (fun c2 => ?_)
      · have h := h.1 c2
        exact g_lv [0, 1] rfl (lM_readBuilders_29 C hret (fun F R J v1 h => ih F R J v1 h) _ _ _ _ h)
      · have h := h.2 c2
        refine g_aload_n C 0 dX10_readBuilders_13 rfl ?_
        refine g_callVi0 C (kM_here (xL X) (xD X) ka ad _ _ _ _ h) miX10_here (gw_of tw4_192 rfl) (by decide) wM_at rfl rfl rfl (Nat.le_of_ble_eq_true rfl) z00 dX10_readBuilders_14 (fun r3 w hw => ?_)
        obtain ⟨F3, R3, J3, rfl, h⟩ := hw
        refine g_if_eq C 243 dX10_readBuilders_17 (by decide) (fun c4 => ?_) (fun c4 => ?_)
        · have h := h.1 c4
          refine g_iload_n C 1 dX10_readBuilders_243 rfl ?_
          exact hret _ _ _ _ ⟨_, _, _, rfl, h⟩ rfl dX10_readBuilders_244
        · have h := h.2 c4
          refine g_aload_n C 0 dX10_readBuilders_20 rfl ?_
          refine g_callVi0 C (kM_here (xL X) (xD X) ka ad _ _ _ _ h) miX10_here (gw_of tw4_192 rfl) (by decide) wM_at rfl rfl rfl (Nat.le_of_ble_eq_true rfl) z00 dX10_readBuilders_21 (fun r5 w hw => ?_)
          obtain ⟨F5, R5, J5, rfl, h⟩ := hw
          refine g_bipush C (59 : Int32) dX10_readBuilders_24 cb_59 ?_
          refine g_icmp_eq C 243 dX10_readBuilders_26 (by decide) (fun c6 => ?_) (fun c6 => ?_)
          · have h := h.1 c6
            refine g_iload_n C 1 dX10_readBuilders_243 rfl ?_
            exact hret _ _ _ _ ⟨_, _, _, rfl, h⟩ rfl dX10_readBuilders_244
          · have h := h.2 c6
            exact g_lv [0, 1] rfl (lM_readBuilders_29 C hret (fun F R J v1 h => ih F R J v1 h) _ _ _ _ h)
def qM_readBuilders (F : FT) (R : RT) (J : JT)  (K : Int32 → FT → RT → JT → Prop) : Prop :=
  ∃ n2, qM_readBuilders_2 n2 F R J (0 : Int32) K
set_option maxHeartbeats 4000000 in
set_option maxRecDepth 100000 in
theorem bM_readBuilders {X : XT} {ka : Nat → ClassId} {ad : Nat → Nat} (C : Cx X cX10_readBuilders 6 RX10 (some .int) ka 3) {K : Int32 → FT → RT → JT → Prop} (hret : RetI X cX10_readBuilders .int 0 0 (fun z w => ∃ F R J, w = wM ad ka F R J ∧ K z F R J)) (F : FT) (R : RT) (J : JT)  (h : qM_readBuilders F R J  K) : G X 0 0 (wM ad ka F R J) 0 [(0, .ref (ad 20))] [] := by
  unfold qM_readBuilders at h
  refine g_iconst C (0 : Int32) dX10_readBuilders_0 ci_0 ?_
  refine g_istore_n C [(1, .int (0 : Int32)), (0, .ref (ad 20))] dX10_readBuilders_1 (by decide) rfl ?_
  obtain ⟨n1, h⟩ := h
  exact g_lv [1, 0] rfl (lM_readBuilders_2 C hret n1 _ _ _ _ h)
set_option maxHeartbeats 4000000 in
set_option maxRecDepth 100000 in
theorem kM_readBuilders (l : Launch) (D : va_G) (ka : Nat → ClassId) (ad : Nat → Nat) (F : FT) (R : RT) (J : JT)  (K : Int32 → FT → RT → JT → Prop) (h : qM_readBuilders F R J  K) : MI l D ka yX10_readBuilders cX10_readBuilders 6 (some .int) 3 0 0 [.ref (ad 20)] (wM ad ka F R J) (fun z w => ∃ F R J, w = wM ad ka F R J ∧ K z F R J) := MI_of (by decide) (Nat.le_of_ble_eq_true rfl) (fun X C hroom hret => bM_readBuilders C hret F R J  h)
set_option maxHeartbeats 4000000 in
set_option maxRecDepth 100000 in
theorem miX10_readBuilders : MInf yX10_readBuilders cX10_readBuilders 6 (some .int) 0 := ⟨(gw_of tw4_208 rfl), (gw_of tp_yX10_readBuilders rfl), (gw_of tw1_6 rfl), (gw_of tw4_209 rfl), by decide +kernel, by decide⟩

def qM_readHindrances_169 (k2 : FT → RT → JT → Int32 → Prop) (F : FT) (R : RT) (J : JT) (v1 : Int32) (K : Int32 → FT → RT → JT → Prop) : Prop :=
  k2 F R J (v1 + (1 : Int32))
set_option maxHeartbeats 4000000 in
set_option maxRecDepth 100000 in
theorem lM_readHindrances_169 {X : XT} {ka : Nat → ClassId} {ad : Nat → Nat} (C : Cx X cX10_readHindrances 5 RX10 (some .int) ka 3) {K : Int32 → FT → RT → JT → Prop} (hret : RetI X cX10_readHindrances .int 0 0 (fun z w => ∃ F R J, w = wM ad ka F R J ∧ K z F R J)) {k2 : FT → RT → JT → Int32 → Prop} (hk2 : ∀ (F : FT) (R : RT) (J : JT) (v1 : Int32), k2 F R J v1 → G X 0 0 (wM ad ka F R J) 2 [(0, .ref (ad 20)), (1, .int v1)] []) (F : FT) (R : RT) (J : JT) (v1 : Int32) (h : qM_readHindrances_169 k2 F R J v1 K) : G X 0 0 (wM ad ka F R J) 169 [(0, .ref (ad 20)), (1, .int v1)] [] := by
  unfold qM_readHindrances_169 at h
  refine g_iinc C 1 (v1 + (1 : Int32)) [(1, .int (v1 + (1 : Int32))), (0, .ref (ad 20))] dX10_readHindrances_169 rfl (by rw [ci_1]) (by decide) rfl ?_
  refine g_goto C 2 dX10_readHindrances_172 (by decide) ?_
  exact g_lv [1, 0] rfl (hk2 _ _ _ _ h)
def qM_readHindrances_168 (k2 : FT → RT → JT → Int32 → Prop) (F : FT) (R : RT) (J : JT) (v1 : Int32) (s0 : Int32) (s1 : Int32) (K : Int32 → FT → RT → JT → Prop) : Prop :=
  (vp_in s1 24) ∧ (qM_readHindrances_169 k2 F (va_up R 7 (upd (R 7) s1.toNatClampNeg s0)) J v1 K)
set_option maxHeartbeats 4000000 in
set_option maxRecDepth 100000 in
theorem lM_readHindrances_168 {X : XT} {ka : Nat → ClassId} {ad : Nat → Nat} (C : Cx X cX10_readHindrances 5 RX10 (some .int) ka 3) {K : Int32 → FT → RT → JT → Prop} (hret : RetI X cX10_readHindrances .int 0 0 (fun z w => ∃ F R J, w = wM ad ka F R J ∧ K z F R J)) {k2 : FT → RT → JT → Int32 → Prop} (hk2 : ∀ (F : FT) (R : RT) (J : JT) (v1 : Int32), k2 F R J v1 → G X 0 0 (wM ad ka F R J) 2 [(0, .ref (ad 20)), (1, .int v1)] []) (F : FT) (R : RT) (J : JT) (v1 : Int32) (s0 : Int32) (s1 : Int32) (h : qM_readHindrances_168 k2 F R J v1 s0 s1 K) : G X 0 0 (wM ad ka F R J) 168 [(0, .ref (ad 20)), (1, .int v1)] [.int s0, .int s1, .ref (ad 7)] := by
  unfold qM_readHindrances_168 at h
  refine Ms_read C (f := R 7) rfl _ rfl h.1 dX10_readHindrances_168 ?_
  have h := h.2
  exact g_lv [0, 1] rfl (lM_readHindrances_169 C hret hk2 _ _ _ _ h)
def qM_readHindrances_121 (k2 : FT → RT → JT → Int32 → Prop) (F : FT) (R : RT) (J : JT) (v1 : Int32) (v2 : Int32) (v3 : Int32) (v4 : Int32) (s0 : Int32) (s1 : Int32) (K : Int32 → FT → RT → JT → Prop) : Prop :=
  (¬ (F 6) = 0 → (qM_readHindrances_169 k2 (upd F 5 (s1 + s0)) R J v1 K)) ∧ ((F 6) = 0 → ((vp_in ((12 : Int32) + ((2 : Int32) * v1)) 24) ∧ ((v4 = 0 → (qM_readHindrances_168 k2 (upd F 5 (s1 + s0)) (va_up R 7 (upd (R 7) (((12 : Int32) + ((2 : Int32) * v1)).toNatClampNeg) v2)) J v1 (-4 : Int32) ((13 : Int32) + ((2 : Int32) * v1)) K)) ∧ (¬ v4 = 0 → (qM_readHindrances_168 k2 (upd F 5 (s1 + s0)) (va_up R 7 (upd (R 7) (((12 : Int32) + ((2 : Int32) * v1)).toNatClampNeg) v2)) J v1 (v3 - (97 : Int32)) ((13 : Int32) + ((2 : Int32) * v1)) K)))))
set_option maxHeartbeats 4000000 in
set_option maxRecDepth 100000 in
theorem lM_readHindrances_121 {X : XT} {ka : Nat → ClassId} {ad : Nat → Nat} (C : Cx X cX10_readHindrances 5 RX10 (some .int) ka 3) {K : Int32 → FT → RT → JT → Prop} (hret : RetI X cX10_readHindrances .int 0 0 (fun z w => ∃ F R J, w = wM ad ka F R J ∧ K z F R J)) {k2 : FT → RT → JT → Int32 → Prop} (hk2 : ∀ (F : FT) (R : RT) (J : JT) (v1 : Int32), k2 F R J v1 → G X 0 0 (wM ad ka F R J) 2 [(0, .ref (ad 20)), (1, .int v1)] []) (F : FT) (R : RT) (J : JT) (v1 : Int32) (v2 : Int32) (v3 : Int32) (v4 : Int32) (s0 : Int32) (s1 : Int32) (h : qM_readHindrances_121 k2 F R J v1 v2 v3 v4 s0 s1 K) : G X 0 0 (wM ad ka F R J) 121 [(0, .ref (ad 20)), (1, .int v1), (2, .int v2), (3, .int v3), (4, .int v4)] [.int s0, .int s1, .ref (ad 20)] := by
  unfold qM_readHindrances_121 at h
  refine g_iadd C dX10_readHindrances_121 ?_
  refine Mp_place C dX10_readHindrances_122 ?_
  refine g_aload_n C 0 dX10_readHindrances_125 rfl ?_
  refine Mg_isFault (F := (upd F 5 (s1 + s0))) C (v := F 6) rfl dX10_readHindrances_126 ?_
  refine g_if_ne C 169 dX10_readHindrances_129 (by decide) (fun c1 => ?_) (fun c1 => ?_)
  · have h := h.1 c1
    exact g_lv [0, 1] rfl (lM_readHindrances_169 C hret hk2 _ _ _ _ h)
  · have h := h.2 c1
    refine g_aload_n C 0 dX10_readHindrances_132 rfl ?_
    refine Mg_read C dX10_readHindrances_133 ?_
    refine g_bipush C (12 : Int32) dX10_readHindrances_136 cb_12 ?_
    refine g_iconst C (2 : Int32) dX10_readHindrances_138 ci_2 ?_
    refine g_iload_n C 1 dX10_readHindrances_139 rfl ?_
    refine g_imul C dX10_readHindrances_140 ?_
    refine g_iadd C dX10_readHindrances_141 ?_
    refine g_iload_n C 2 dX10_readHindrances_142 rfl ?_
    refine Ms_read C (f := R 7) rfl _ rfl h.1 dX10_readHindrances_143 ?_
    have h := h.2
    refine g_aload_n C 0 dX10_readHindrances_144 rfl ?_
    refine Mg_read C dX10_readHindrances_145 ?_
    refine g_bipush C (13 : Int32) dX10_readHindrances_148 cb_13 ?_
    refine g_iconst C (2 : Int32) dX10_readHindrances_150 ci_2 ?_
    refine g_iload_n C 1 dX10_readHindrances_151 rfl ?_
    refine g_imul C dX10_readHindrances_152 ?_
    refine g_iadd C dX10_readHindrances_153 ?_
    refine g_iload C 4 dX10_readHindrances_154 rfl ?_
    refine g_if_eq C 166 dX10_readHindrances_156 (by decide) (fun c2 => ?_) (fun c2 => ?_)
    · have h := h.1 c2
      refine g_bipush C (-4 : Int32) dX10_readHindrances_166 cb_m4 ?_
      exact g_lv [0, 1] rfl (lM_readHindrances_168 C hret hk2 _ _ _ _ _ _ h)
    · have h := h.2 c2
      refine g_iload_n C 3 dX10_readHindrances_159 rfl ?_
      refine g_bipush C (97 : Int32) dX10_readHindrances_160 cb_97 ?_
      refine g_isub C dX10_readHindrances_162 ?_
      refine g_goto C 168 dX10_readHindrances_163 (by decide) ?_
      exact g_lv [0, 1] rfl (lM_readHindrances_168 C hret hk2 _ _ _ _ _ _ h)
def qM_readHindrances_92 (k2 : FT → RT → JT → Int32 → Prop) (F : FT) (R : RT) (J : JT) (v1 : Int32) (v2 : Int32) (s0 : Int32) (K : Int32 → FT → RT → JT → Prop) : Prop :=
  qM_in F R J s0.toInt64 (97 : Int64) (100 : Int64) (fun r1 F1 R1 J1 => (r1 = 0 → (qM_readHindrances_121 k2 F1 R1 J1 v1 v2 s0 r1 (0 : Int32) (F1 5) K)) ∧ (¬ r1 = 0 → (qM_readHindrances_121 k2 F1 R1 J1 v1 v2 s0 r1 (1 : Int32) (F1 5) K)))
set_option maxHeartbeats 4000000 in
set_option maxRecDepth 100000 in
theorem lM_readHindrances_92 {X : XT} {ka : Nat → ClassId} {ad : Nat → Nat} (C : Cx X cX10_readHindrances 5 RX10 (some .int) ka 3) {K : Int32 → FT → RT → JT → Prop} (hret : RetI X cX10_readHindrances .int 0 0 (fun z w => ∃ F R J, w = wM ad ka F R J ∧ K z F R J)) {k2 : FT → RT → JT → Int32 → Prop} (hk2 : ∀ (F : FT) (R : RT) (J : JT) (v1 : Int32), k2 F R J v1 → G X 0 0 (wM ad ka F R J) 2 [(0, .ref (ad 20)), (1, .int v1)] []) (F : FT) (R : RT) (J : JT) (v1 : Int32) (v2 : Int32) (s0 : Int32) (h : qM_readHindrances_92 k2 F R J v1 v2 s0 K) : G X 0 0 (wM ad ka F R J) 92 [(0, .ref (ad 20)), (1, .int v1), (2, .int v2)] [.int s0] := by
  unfold qM_readHindrances_92 at h
  refine g_istore_n C [(3, .int s0), (0, .ref (ad 20)), (1, .int v1), (2, .int v2)] dX10_readHindrances_92 (by decide) rfl ?_
  refine g_iload_n C 0 dX10_readHindrances_93 rfl ?_
  refine g_i2l C dX10_readHindrances_94 ?_
  refine g_ldc2 C (gw_of tw4_218 rfl) dX10_readHindrances_95 ?_
  refine g_ldc2 C (gw_of tw4_219 rfl) dX10_readHindrances_98 ?_
  refine g_callSi0 C (kM_in (xL X) (xD X) ka ad _ _ _ _ _ _ _ h) siX10_in (gw_of tw4_136 rfl) (by decide) rfl rfl (Nat.le_of_ble_eq_true rfl) z00 dX10_readHindrances_101 (fun r1 w hw => ?_)
  obtain ⟨F1, R1, J1, rfl, h⟩ := hw
  refine g_istore C [(4, .int r1), (3, .int s0), (0, .ref (ad 20)), (1, .int v1), (2, .int v2)] dX10_readHindrances_104 (by decide) rfl ?_
  refine g_aload_n C 2 dX10_readHindrances_106 rfl ?_
  refine g_dup C dX10_readHindrances_107 rfl ?_
  refine Mg_place C (v := F1 5) rfl dX10_readHindrances_108 ?_
  refine g_iload C 0 dX10_readHindrances_111 rfl ?_
  refine g_if_eq C 120 dX10_readHindrances_113 (by decide) (fun c2 => ?_) (fun c2 => ?_)
  · have h := h.1 c2
    refine g_iconst C (0 : Int32) dX10_readHindrances_120 ci_0 ?_
    exact g_lv [2, 3, 4, 1, 0] rfl (lM_readHindrances_121 C hret hk2 _ _ _ _ _ _ _ _ _ h)
  · have h := h.2 c2
    refine g_iconst C (1 : Int32) dX10_readHindrances_116 ci_1 ?_
    refine g_goto C 121 dX10_readHindrances_117 (by decide) ?_
    exact g_lv [2, 3, 4, 1, 0] rfl (lM_readHindrances_121 C hret hk2 _ _ _ _ _ _ _ _ _ h)
def qM_readHindrances_69 (k2 : FT → RT → JT → Int32 → Prop) (F : FT) (R : RT) (J : JT) (v1 : Int32) (K : Int32 → FT → RT → JT → Prop) : Prop :=
  qM_digit F R J (1 : Int32) (9 : Int32) (fun r1 F1 R1 J1 => ((F1 6) = 0 → (qM_here F1 R1 J1 (fun r3 F3 R3 J3 => qM_readHindrances_92 k2 F3 R3 J3 v1 r1 r3 K))) ∧ (¬ (F1 6) = 0 → (qM_readHindrances_92 k2 F1 R1 J1 v1 r1 (0 : Int32) K)))
set_option maxHeartbeats 4000000 in
set_option maxRecDepth 100000 in
theorem lM_readHindrances_69 {X : XT} {ka : Nat → ClassId} {ad : Nat → Nat} (C : Cx X cX10_readHindrances 5 RX10 (some .int) ka 3) {K : Int32 → FT → RT → JT → Prop} (hret : RetI X cX10_readHindrances .int 0 0 (fun z w => ∃ F R J, w = wM ad ka F R J ∧ K z F R J)) {k2 : FT → RT → JT → Int32 → Prop} (hk2 : ∀ (F : FT) (R : RT) (J : JT) (v1 : Int32), k2 F R J v1 → G X 0 0 (wM ad ka F R J) 2 [(0, .ref (ad 20)), (1, .int v1)] []) (F : FT) (R : RT) (J : JT) (v1 : Int32) (h : qM_readHindrances_69 k2 F R J v1 K) : G X 0 0 (wM ad ka F R J) 69 [(0, .ref (ad 20)), (1, .int v1)] [] := by
  unfold qM_readHindrances_69 at h
  refine g_aload_n C 0 dX10_readHindrances_69 rfl ?_
  refine g_iconst C (1 : Int32) dX10_readHindrances_70 ci_1 ?_
  refine g_bipush C (9 : Int32) dX10_readHindrances_71 cb_9 ?_
  refine g_callVi0 C (kM_digit (xL X) (xD X) ka ad _ _ _ _ _ _ h) miX10_digit (gw_of tw4_210 rfl) (by decide) wM_at rfl rfl rfl (Nat.le_of_ble_eq_true rfl) z00 dX10_readHindrances_73 (fun r1 w hw => ?_)
  obtain ⟨F1, R1, J1, rfl, h⟩ := hw
  refine g_istore_n C [(2, .int r1), (0, .ref (ad 20)), (1, .int v1)] dX10_readHindrances_76 (by decide) rfl ?_
  refine g_aload_n C 1 dX10_readHindrances_77 rfl ?_
  refine Mg_isFault C (v := F1 6) rfl dX10_readHindrances_78 ?_
  refine g_if_eq C 88 dX10_readHindrances_81 (by decide) (fun c2 => ?_) (fun c2 => ?_)
  · have h := h.1 c2
    refine g_aload_n C 1 dX10_readHindrances_88 rfl ?_
    refine g_callVi0 C (kM_here (xL X) (xD X) ka ad _ _ _ _ h) miX10_here (gw_of tw4_192 rfl) (by decide) wM_at rfl rfl rfl (Nat.le_of_ble_eq_true rfl) z00 dX10_readHindrances_89 (fun r3 w hw => ?_)
    obtain ⟨F3, R3, J3, rfl, h⟩ := hw
    exact g_lv [1, 2, 0] rfl (lM_readHindrances_92 C hret hk2 _ _ _ _ _ _ h)
  · have h := h.2 c2
    refine g_iconst C (0 : Int32) dX10_readHindrances_84 ci_0 ?_
    refine g_goto C 92 dX10_readHindrances_85 (by decide) ?_
    exact g_lv [1, 2, 0] rfl (lM_readHindrances_92 C hret hk2 _ _ _ _ _ _ h)
def qM_readHindrances_65 (k2 : FT → RT → JT → Int32 → Prop) (F : FT) (R : RT) (J : JT) (v1 : Int32) (s0 : Int32) (s1 : Int32) (K : Int32 → FT → RT → JT → Prop) : Prop :=
  qM_readHindrances_69 k2 (upd F 5 (s1 + s0)) R J v1 K
set_option maxHeartbeats 4000000 in
set_option maxRecDepth 100000 in
theorem lM_readHindrances_65 {X : XT} {ka : Nat → ClassId} {ad : Nat → Nat} (C : Cx X cX10_readHindrances 5 RX10 (some .int) ka 3) {K : Int32 → FT → RT → JT → Prop} (hret : RetI X cX10_readHindrances .int 0 0 (fun z w => ∃ F R J, w = wM ad ka F R J ∧ K z F R J)) {k2 : FT → RT → JT → Int32 → Prop} (hk2 : ∀ (F : FT) (R : RT) (J : JT) (v1 : Int32), k2 F R J v1 → G X 0 0 (wM ad ka F R J) 2 [(0, .ref (ad 20)), (1, .int v1)] []) (F : FT) (R : RT) (J : JT) (v1 : Int32) (s0 : Int32) (s1 : Int32) (h : qM_readHindrances_65 k2 F R J v1 s0 s1 K) : G X 0 0 (wM ad ka F R J) 65 [(0, .ref (ad 20)), (1, .int v1)] [.int s0, .int s1, .ref (ad 20)] := by
  unfold qM_readHindrances_65 at h
  refine g_iadd C dX10_readHindrances_65 ?_
  refine Mp_place C dX10_readHindrances_66 ?_
  exact g_lv [0, 1] rfl (lM_readHindrances_69 C hret hk2 _ _ _ _ h)
def qM_readHindrances_45 (k2 : FT → RT → JT → Int32 → Prop) (F : FT) (R : RT) (J : JT) (v1 : Int32) (s0 : Int32) (K : Int32 → FT → RT → JT → Prop) : Prop :=
  qM_must F R J s0 (fun F1 R1 J1 => ((F1 6) = 0 → (qM_readHindrances_65 k2 F1 R1 J1 v1 (1 : Int32) (F1 5) K)) ∧ (¬ (F1 6) = 0 → (qM_readHindrances_65 k2 F1 R1 J1 v1 (0 : Int32) (F1 5) K)))
set_option maxHeartbeats 4000000 in
set_option maxRecDepth 100000 in
theorem lM_readHindrances_45 {X : XT} {ka : Nat → ClassId} {ad : Nat → Nat} (C : Cx X cX10_readHindrances 5 RX10 (some .int) ka 3) {K : Int32 → FT → RT → JT → Prop} (hret : RetI X cX10_readHindrances .int 0 0 (fun z w => ∃ F R J, w = wM ad ka F R J ∧ K z F R J)) {k2 : FT → RT → JT → Int32 → Prop} (hk2 : ∀ (F : FT) (R : RT) (J : JT) (v1 : Int32), k2 F R J v1 → G X 0 0 (wM ad ka F R J) 2 [(0, .ref (ad 20)), (1, .int v1)] []) (F : FT) (R : RT) (J : JT) (v1 : Int32) (s0 : Int32) (h : qM_readHindrances_45 k2 F R J v1 s0 K) : G X 0 0 (wM ad ka F R J) 45 [(0, .ref (ad 20)), (1, .int v1)] [.int s0, .ref (ad 20)] := by
  unfold qM_readHindrances_45 at h
  refine g_callVv0 C (kM_must (xL X) (xD X) ka ad _ _ _ _ _ h) miX10_must (gw_of tw4_198 rfl) (by decide) wM_at rfl rfl rfl (Nat.le_of_ble_eq_true rfl) z00 dX10_readHindrances_45 (fun w hw => ?_)
  obtain ⟨F1, R1, J1, rfl, h⟩ := hw
  refine g_aload_n C 0 dX10_readHindrances_48 rfl ?_
  refine g_dup C dX10_readHindrances_49 rfl ?_
  refine Mg_place C (v := F1 5) rfl dX10_readHindrances_50 ?_
  refine g_aload_n C 0 dX10_readHindrances_53 rfl ?_
  refine Mg_isFault C (v := F1 6) rfl dX10_readHindrances_54 ?_
  refine g_if_eq C 64 dX10_readHindrances_57 (by decide) (fun c2 => ?_) (fun c2 => ?_)
  · have h := h.1 c2
    refine g_iconst C (1 : Int32) dX10_readHindrances_64 ci_1 ?_
    exact g_lv [0, 1] rfl (lM_readHindrances_65 C hret hk2 _ _ _ _ _ _ h)
  · have h := h.2 c2
    refine g_iconst C (0 : Int32) dX10_readHindrances_60 ci_0 ?_
    refine g_goto C 65 dX10_readHindrances_61 (by decide) ?_
    exact g_lv [0, 1] rfl (lM_readHindrances_65 C hret hk2 _ _ _ _ _ _ h)
def qM_readHindrances_44 (k2 : FT → RT → JT → Int32 → Prop) (F : FT) (R : RT) (J : JT) (v1 : Int32) (K : Int32 → FT → RT → JT → Prop) : Prop :=
  qM_readHindrances_45 k2 F R J v1 (0 : Int32) K
set_option maxHeartbeats 4000000 in
set_option maxRecDepth 100000 in
theorem lM_readHindrances_44 {X : XT} {ka : Nat → ClassId} {ad : Nat → Nat} (C : Cx X cX10_readHindrances 5 RX10 (some .int) ka 3) {K : Int32 → FT → RT → JT → Prop} (hret : RetI X cX10_readHindrances .int 0 0 (fun z w => ∃ F R J, w = wM ad ka F R J ∧ K z F R J)) {k2 : FT → RT → JT → Int32 → Prop} (hk2 : ∀ (F : FT) (R : RT) (J : JT) (v1 : Int32), k2 F R J v1 → G X 0 0 (wM ad ka F R J) 2 [(0, .ref (ad 20)), (1, .int v1)] []) (F : FT) (R : RT) (J : JT) (v1 : Int32) (h : qM_readHindrances_44 k2 F R J v1 K) : G X 0 0 (wM ad ka F R J) 44 [(0, .ref (ad 20)), (1, .int v1)] [.ref (ad 20)] := by
  unfold qM_readHindrances_44 at h
  refine g_iconst C (0 : Int32) dX10_readHindrances_44 ci_0 ?_
  exact g_lv [0, 1] rfl (lM_readHindrances_45 C hret hk2 _ _ _ _ _ h)
def qM_readHindrances_20 (k2 : FT → RT → JT → Int32 → Prop) (F : FT) (R : RT) (J : JT) (v1 : Int32) (K : Int32 → FT → RT → JT → Prop) : Prop :=
  (v1 ≤ 0 → (qM_readHindrances_69 k2 F R J v1 K)) ∧ (¬ v1 ≤ 0 → (((6 : Int32) ≤ v1 → (qM_readHindrances_44 k2 F R J v1 K)) ∧ (¬ (6 : Int32) ≤ v1 → (qM_here F R J (fun r3 F3 R3 J3 => (¬ r3 = (44 : Int32) → (qM_readHindrances_44 k2 F3 R3 J3 v1 K)) ∧ (r3 = (44 : Int32) → (qM_readHindrances_45 k2 F3 R3 J3 v1 (1 : Int32) K)))))))
set_option maxHeartbeats 4000000 in
set_option maxRecDepth 100000 in
theorem lM_readHindrances_20 {X : XT} {ka : Nat → ClassId} {ad : Nat → Nat} (C : Cx X cX10_readHindrances 5 RX10 (some .int) ka 3) {K : Int32 → FT → RT → JT → Prop} (hret : RetI X cX10_readHindrances .int 0 0 (fun z w => ∃ F R J, w = wM ad ka F R J ∧ K z F R J)) {k2 : FT → RT → JT → Int32 → Prop} (hk2 : ∀ (F : FT) (R : RT) (J : JT) (v1 : Int32), k2 F R J v1 → G X 0 0 (wM ad ka F R J) 2 [(0, .ref (ad 20)), (1, .int v1)] []) (F : FT) (R : RT) (J : JT) (v1 : Int32) (h : qM_readHindrances_20 k2 F R J v1 K) : G X 0 0 (wM ad ka F R J) 20 [(0, .ref (ad 20)), (1, .int v1)] [] := by
  unfold qM_readHindrances_20 at h
  refine g_iload_n C 1 dX10_readHindrances_20 rfl ?_
  refine g_if_le C 69 dX10_readHindrances_21 (by decide) (fun c1 => ?_) (fun c1 => ?_)
  · have h := h.1 c1
    exact g_lv [0, 1] rfl (lM_readHindrances_69 C hret hk2 _ _ _ _ h)
  · have h := h.2 c1
    refine g_aload_n C 0 dX10_readHindrances_24 rfl ?_
    refine g_iload_n C 1 dX10_readHindrances_25 rfl ?_
    refine g_bipush C (6 : Int32) dX10_readHindrances_26 cb_6 ?_
    refine g_icmp_ge C 44 dX10_readHindrances_28 (by decide) (fun c2 => ?_) (fun c2 => ?_)
    · have h := h.1 c2
      exact g_lv [0, 1] rfl (lM_readHindrances_44 C hret hk2 _ _ _ _ h)
    · have h := h.2 c2
      refine g_aload_n C 0 dX10_readHindrances_31 rfl ?_
      refine g_callVi0 C (kM_here (xL X) (xD X) ka ad _ _ _ _ h) miX10_here (gw_of tw4_192 rfl) (by decide) wM_at rfl rfl rfl (Nat.le_of_ble_eq_true rfl) z00 dX10_readHindrances_32 (fun r3 w hw => ?_)
      obtain ⟨F3, R3, J3, rfl, h⟩ := hw
      refine g_bipush C (44 : Int32) dX10_readHindrances_35 cb_44 ?_
      refine g_icmp_ne C 44 dX10_readHindrances_37 (by decide) (fun c4 => ?_) (fun c4 => ?_)
      · have h := h.1 c4
        exact g_lv [0, 1] rfl (lM_readHindrances_44 C hret hk2 _ _ _ _ h)
      · have h := h.2 c4
        refine g_iconst C (1 : Int32) dX10_readHindrances_40 ci_1 ?_
        refine g_goto C 45 dX10_readHindrances_41 (by decide) ?_
        exact g_lv [0, 1] rfl (lM_readHindrances_45 C hret hk2 _ _ _ _ _ h)
def qM_readHindrances_2 : Nat → FT → RT → JT → Int32 → (Int32 → FT → RT → JT → Prop) → Prop
  | 0, _, _, _, _ => fun _ => False
  | n2 + 1, F, R, J, v1 => fun K => (¬ (F 6) = 0 → (K v1 F R J)) ∧ ((F 6) = 0 → ((v1 = 0 → (qM_readHindrances_20 (fun F R J v1 => qM_readHindrances_2 n2 F R J v1 K) F R J v1 K)) ∧ (¬ v1 = 0 → (qM_here F R J (fun r3 F3 R3 J3 => (r3 = 0 → (K v1 F3 R3 J3)) ∧ (¬ r3 = 0 → (qM_readHindrances_20 (fun F R J v1 => qM_readHindrances_2 n2 F R J v1 K) F3 R3 J3 v1 K)))))))
set_option maxHeartbeats 4000000 in
set_option maxRecDepth 100000 in
theorem lM_readHindrances_2 {X : XT} {ka : Nat → ClassId} {ad : Nat → Nat} (C : Cx X cX10_readHindrances 5 RX10 (some .int) ka 3) {K : Int32 → FT → RT → JT → Prop} (hret : RetI X cX10_readHindrances .int 0 0 (fun z w => ∃ F R J, w = wM ad ka F R J ∧ K z F R J)) : ∀ (n : Nat) (F : FT) (R : RT) (J : JT) (v1 : Int32), qM_readHindrances_2 n F R J v1 K → G X 0 0 (wM ad ka F R J) 2 [(0, .ref (ad 20)), (1, .int v1)] [] := by
  intro n
  induction n with
  | zero => intro F R J v1 h; exact h.elim
  | succ n ih =>
    intro F R J v1 h
    refine g_aload_n C 0 dX10_readHindrances_2 rfl ?_
    refine Mg_isFault C (v := F 6) rfl dX10_readHindrances_3 ?_
    refine g_if_ne C 175 dX10_readHindrances_6 (by decide) (fun c1 => ?_) (fun c1 => ?_)
    · have h := h.1 c1
      refine g_iload_n C 1 dX10_readHindrances_175 rfl ?_
      exact hret _ _ _ _ ⟨_, _, _, rfl, h⟩ rfl dX10_readHindrances_176
    · have h := h.2 c1
      refine g_iload_n C 1 dX10_readHindrances_9 rfl ?_
      refine g_if_eq C 20 dX10_readHindrances_10 (by decide) (fun c2 => ?_) (fun c2 => ?_)
      · have h := h.1 c2
        exact g_lv [0, 1] rfl (lM_readHindrances_20 C hret (fun F R J v1 h => ih F R J v1 h) _ _ _ _ h)
      · have h := h.2 c2
        refine g_aload_n C 0 dX10_readHindrances_13 rfl ?_
        refine g_callVi0 C (kM_here (xL X) (xD X) ka ad _ _ _ _ h) miX10_here (gw_of tw4_192 rfl) (by decide) wM_at rfl rfl rfl (Nat.le_of_ble_eq_true rfl) z00 dX10_readHindrances_14 (fun r3 w hw => ?_)
        obtain ⟨F3, R3, J3, rfl, h⟩ := hw
        refine g_if_eq C 175 dX10_readHindrances_17 (by decide) (fun c4 => ?_) (fun c4 => ?_)
        · have h := h.1 c4
          refine g_iload_n C 1 dX10_readHindrances_175 rfl ?_
          exact hret _ _ _ _ ⟨_, _, _, rfl, h⟩ rfl dX10_readHindrances_176
        · have h := h.2 c4
          exact g_lv [0, 1] rfl (lM_readHindrances_20 C hret (fun F R J v1 h => ih F R J v1 h) _ _ _ _ h)
def qM_readHindrances (F : FT) (R : RT) (J : JT)  (K : Int32 → FT → RT → JT → Prop) : Prop :=
  ∃ n2, qM_readHindrances_2 n2 F R J (0 : Int32) K
set_option maxHeartbeats 4000000 in
set_option maxRecDepth 100000 in
theorem bM_readHindrances {X : XT} {ka : Nat → ClassId} {ad : Nat → Nat} (C : Cx X cX10_readHindrances 5 RX10 (some .int) ka 3) {K : Int32 → FT → RT → JT → Prop} (hret : RetI X cX10_readHindrances .int 0 0 (fun z w => ∃ F R J, w = wM ad ka F R J ∧ K z F R J)) (F : FT) (R : RT) (J : JT)  (h : qM_readHindrances F R J  K) : G X 0 0 (wM ad ka F R J) 0 [(0, .ref (ad 20))] [] := by
  unfold qM_readHindrances at h
  refine g_iconst C (0 : Int32) dX10_readHindrances_0 ci_0 ?_
  refine g_istore_n C [(1, .int (0 : Int32)), (0, .ref (ad 20))] dX10_readHindrances_1 (by decide) rfl ?_
  obtain ⟨n1, h⟩ := h
  exact g_lv [1, 0] rfl (lM_readHindrances_2 C hret n1 _ _ _ _ h)
set_option maxHeartbeats 4000000 in
set_option maxRecDepth 100000 in
theorem kM_readHindrances (l : Launch) (D : va_G) (ka : Nat → ClassId) (ad : Nat → Nat) (F : FT) (R : RT) (J : JT)  (K : Int32 → FT → RT → JT → Prop) (h : qM_readHindrances F R J  K) : MI l D ka yX10_readHindrances cX10_readHindrances 5 (some .int) 3 0 0 [.ref (ad 20)] (wM ad ka F R J) (fun z w => ∃ F R J, w = wM ad ka F R J ∧ K z F R J) := MI_of (by decide) (Nat.le_of_ble_eq_true rfl) (fun X C hroom hret => bM_readHindrances C hret F R J  h)
set_option maxHeartbeats 4000000 in
set_option maxRecDepth 100000 in
theorem miX10_readHindrances : MInf yX10_readHindrances cX10_readHindrances 5 (some .int) 0 := ⟨(gw_of tw4_216 rfl), (gw_of tp_yX10_readHindrances rfl), (gw_of tw1_6 rfl), (gw_of tw4_217 rfl), by decide +kernel, by decide⟩

def qM_bargain_165 : Nat → FT → RT → JT → Int32 → Int32 → (Int32 → FT → RT → JT → Prop) → Prop
  | 0, _, _, _, _, _ => fun _ => False
  | n165 + 1, F, R, J, v3, v5 => fun K => ((10 : Int32) < v5 → (K v3 (upd F 9 (0 : Int32)) R J)) ∧ (¬ (10 : Int32) < v5 → ((vp_in v5 37) ∧ (qM_bargain_165 n165 F (va_up R 0 (upd (R 0) v5.toNatClampNeg (0 : Int32))) J v3 (v5 + (1 : Int32)) K)))
set_option maxHeartbeats 4000000 in
set_option maxRecDepth 100000 in
theorem lM_bargain_165 {X : XT} {ka : Nat → ClassId} {ad : Nat → Nat} (C : Cx X cX10_bargain 6 RX10 (some .int) ka 4) {K : Int32 → FT → RT → JT → Prop} (hret : RetI X cX10_bargain .int 0 0 (fun z w => ∃ F R J, w = wM ad ka F R J ∧ K z F R J)) : ∀ (n : Nat) (F : FT) (R : RT) (J : JT) (v3 : Int32) (v5 : Int32), qM_bargain_165 n F R J v3 v5 K → G X 0 0 (wM ad ka F R J) 165 [(0, .ref (ad 20)), (3, .int v3), (5, .int v5)] [] := by
  intro n
  induction n with
  | zero => intro F R J v3 v5 h; exact h.elim
  | succ n ih =>
    intro F R J v3 v5 h
    refine g_iload C 2 dX10_bargain_165 rfl ?_
    refine g_bipush C (10 : Int32) dX10_bargain_167 cb_10 ?_
    refine g_icmp_gt C 186 dX10_bargain_169 (by decide) (fun c1 => ?_) (fun c1 => ?_)
    · have h := h.1 c1
      refine g_aload_n C 0 dX10_bargain_186 rfl ?_
      refine g_iconst C (0 : Int32) dX10_bargain_187 ci_0 ?_
      refine Mp_undos C dX10_bargain_188 ?_
      refine g_iload_n C 1 dX10_bargain_191 rfl ?_
      exact hret _ _ _ _ ⟨_, _, _, rfl, h⟩ rfl dX10_bargain_192
    · have h := h.2 c1
      refine g_aload_n C 0 dX10_bargain_172 rfl ?_
      refine Mg_now C dX10_bargain_173 ?_
      refine g_iload C 2 dX10_bargain_176 rfl ?_
      refine g_iconst C (0 : Int32) dX10_bargain_178 ci_0 ?_
      refine Ms_now C (f := R 0) rfl _ rfl h.1 dX10_bargain_179 ?_
      have h := h.2
      refine g_iinc C 2 (v5 + (1 : Int32)) [(5, .int (v5 + (1 : Int32))), (0, .ref (ad 20)), (3, .int v3)] dX10_bargain_180 rfl (by rw [ci_1]) (by decide) rfl ?_
      refine g_goto C 165 dX10_bargain_183 (by decide) ?_
      exact g_lv [1, 2, 0] rfl (ih _ _ _ _ _ h)
def qM_bargain_102 : Nat → FT → RT → JT → Int32 → Int32 → Int32 → Int32 → Int32 → (Int32 → FT → RT → JT → Prop) → Prop
  | 0, _, _, _, _, _, _, _, _ => fun _ => False
  | n102 + 1, F, R, J, v1, v2, v3, v4, v5 => fun K => ((24 : Int32) ≤ v5 → (∃ n165, qM_bargain_165 n165 F (va_up (va_up (va_up (va_up R 0 (upd (R 0) 0 v3)) 0 (upd (upd (R 0) 0 v3) 1 v4)) 0 (upd (upd (upd (R 0) 0 v3) 1 v4) 2 v1)) 0 (upd (upd (upd (upd (R 0) 0 v3) 1 v4) 2 v1) 3 v2)) J v3 (6 : Int32) K)) ∧ (¬ (24 : Int32) ≤ v5 → ((vp_in v5 24) ∧ ((vp_in ((13 : Int32) + v5) 37) ∧ (qM_bargain_102 n102 F (va_up R 0 (upd (R 0) (((13 : Int32) + v5).toNatClampNeg) (R 7 v5.toNatClampNeg))) J v1 v2 v3 v4 (v5 + (1 : Int32)) K))))
set_option maxHeartbeats 4000000 in
set_option maxRecDepth 100000 in
theorem lM_bargain_102 {X : XT} {ka : Nat → ClassId} {ad : Nat → Nat} (C : Cx X cX10_bargain 6 RX10 (some .int) ka 4) {K : Int32 → FT → RT → JT → Prop} (hret : RetI X cX10_bargain .int 0 0 (fun z w => ∃ F R J, w = wM ad ka F R J ∧ K z F R J)) : ∀ (n : Nat) (F : FT) (R : RT) (J : JT) (v1 : Int32) (v2 : Int32) (v3 : Int32) (v4 : Int32) (v5 : Int32), qM_bargain_102 n F R J v1 v2 v3 v4 v5 K → G X 0 0 (wM ad ka F R J) 102 [(0, .ref (ad 20)), (1, .int v1), (2, .int v2), (3, .int v3), (4, .int v4), (5, .int v5)] [] := by
  intro n
  induction n with
  | zero => intro F R J v1 v2 v3 v4 v5 h; exact h.elim
  | succ n ih =>
    intro F R J v1 v2 v3 v4 v5 h
    refine g_iload C 5 dX10_bargain_102 rfl ?_
    refine g_bipush C (24 : Int32) dX10_bargain_104 cb_24 ?_
    refine g_icmp_ge C 132 dX10_bargain_106 (by decide) (fun c1 => ?_) (fun c1 => ?_)
    · have h := h.1 c1
      refine g_aload_n C 0 dX10_bargain_132 rfl ?_
      refine Mg_now C dX10_bargain_133 ?_
      refine g_iconst C (0 : Int32) dX10_bargain_136 ci_0 ?_
      refine g_iload_n C 3 dX10_bargain_137 rfl ?_
      refine Ms_now C (f := R 0) rfl (0) (by decide) (vp_lit (by decide)) dX10_bargain_138 ?_
      refine g_aload_n C 0 dX10_bargain_139 rfl ?_
      refine Mg_now C dX10_bargain_140 ?_
      refine g_iconst C (1 : Int32) dX10_bargain_143 ci_1 ?_
      refine g_iload C 4 dX10_bargain_144 rfl ?_
      refine Ms_now (R := (va_up R 0 (upd (R 0) 0 v3))) C (f := upd (R 0) 0 v3) rfl (1) (by decide) (vp_lit (by decide)) dX10_bargain_146 ?_
      refine g_aload_n C 0 dX10_bargain_147 rfl ?_
      refine Mg_now C dX10_bargain_148 ?_
      refine g_iconst C (2 : Int32) dX10_bargain_151 ci_2 ?_
      refine g_iload_n C 1 dX10_bargain_152 rfl ?_
      refine Ms_now (R := (va_up (va_up R 0 (upd (R 0) 0 v3)) 0 (upd (upd (R 0) 0 v3) 1 v4))) C (f := upd (upd (R 0) 0 v3) 1 v4) rfl (2) (by decide) (vp_lit (by decide)) dX10_bargain_153 ?_
      refine g_aload_n C 0 dX10_bargain_154 rfl ?_
      refine Mg_now C dX10_bargain_155 ?_
      refine g_iconst C (3 : Int32) dX10_bargain_158 ci_3 ?_
      refine g_iload_n C 2 dX10_bargain_159 rfl ?_
      refine Ms_now (R := (va_up (va_up (va_up R 0 (upd (R 0) 0 v3)) 0 (upd (upd (R 0) 0 v3) 1 v4)) 0 (upd (upd (upd (R 0) 0 v3) 1 v4) 2 v1))) C (f := upd (upd (upd (R 0) 0 v3) 1 v4) 2 v1) rfl (3) (by decide) (vp_lit (by decide)) dX10_bargain_160 ?_
      refine g_bipush C (6 : Int32) dX10_bargain_161 cb_6 ?_
      refine g_istore C [(5, .int (6 : Int32)), (0, .ref (ad 20)), (1, .int v1), (2, .int v2), (3, .int v3), (4, .int v4)] dX10_bargain_163 (by decide) rfl ?_
      obtain ⟨n1, h⟩ := h
      exact g_lv [1, 4, 0] rfl (lM_bargain_165 C hret n1 _ _ _ _ _ h)
    · have h := h.2 c1
      refine g_aload_n C 0 dX10_bargain_109 rfl ?_
      refine Mg_now C dX10_bargain_110 ?_
      refine g_bipush C (13 : Int32) dX10_bargain_113 cb_13 ?_
      refine g_iload C 5 dX10_bargain_115 rfl ?_
      refine g_iadd C dX10_bargain_117 ?_
      refine g_aload_n C 0 dX10_bargain_118 rfl ?_
      refine Mg_read C dX10_bargain_119 ?_
      refine g_iload C 5 dX10_bargain_122 rfl ?_
      refine Ma_read C (f := R 7) rfl _ rfl h.1 dX10_bargain_124 ?_
      have h := h.2
      refine Ms_now C (f := R 0) rfl _ rfl h.1 dX10_bargain_125 ?_
      have h := h.2
      refine g_iinc C 5 (v5 + (1 : Int32)) [(5, .int (v5 + (1 : Int32))), (0, .ref (ad 20)), (1, .int v1), (2, .int v2), (3, .int v3), (4, .int v4)] dX10_bargain_126 rfl (by rw [ci_1]) (by decide) rfl ?_
      refine g_goto C 102 dX10_bargain_129 (by decide) ?_
      exact g_lv [1, 2, 3, 4, 5, 0] rfl (ih _ _ _ _ _ _ _ _ h)
def qM_bargain_79 (F : FT) (R : RT) (J : JT) (v1 : Int32) (v2 : Int32) (v3 : Int32) (v4 : Int32) (K : Int32 → FT → RT → JT → Prop) : Prop :=
  ((F 6) = 0 → (∃ n102, qM_bargain_102 n102 (upd F 4 (0 : Int32)) R J v1 v2 v3 v4 (0 : Int32) K)) ∧ (¬ (F 6) = 0 → (K ((-20 : Int32) - (F 5)) (upd F 4 (0 : Int32)) R J))
set_option maxHeartbeats 4000000 in
set_option maxRecDepth 100000 in
theorem lM_bargain_79 {X : XT} {ka : Nat → ClassId} {ad : Nat → Nat} (C : Cx X cX10_bargain 6 RX10 (some .int) ka 4) {K : Int32 → FT → RT → JT → Prop} (hret : RetI X cX10_bargain .int 0 0 (fun z w => ∃ F R J, w = wM ad ka F R J ∧ K z F R J)) (F : FT) (R : RT) (J : JT) (v1 : Int32) (v2 : Int32) (v3 : Int32) (v4 : Int32) (h : qM_bargain_79 F R J v1 v2 v3 v4 K) : G X 0 0 (wM ad ka F R J) 79 [(0, .ref (ad 20)), (1, .int v1), (2, .int v2), (3, .int v3), (4, .int v4)] [] := by
  unfold qM_bargain_79 at h
  refine g_aload_n C 0 dX10_bargain_79 rfl ?_
  refine g_iconst C (0 : Int32) dX10_bargain_80 ci_0 ?_
  refine Mp_typed C dX10_bargain_81 ?_
  refine g_aload_n C 0 dX10_bargain_84 rfl ?_
  refine Mg_isFault (F := (upd F 4 (0 : Int32))) C (v := F 6) rfl dX10_bargain_85 ?_
  refine g_if_eq C 99 dX10_bargain_88 (by decide) (fun c1 => ?_) (fun c1 => ?_)
  · have h := h.1 c1
    refine g_iconst C (0 : Int32) dX10_bargain_99 ci_0 ?_
    refine g_istore C [(5, .int (0 : Int32)), (0, .ref (ad 20)), (1, .int v1), (2, .int v2), (3, .int v3), (4, .int v4)] dX10_bargain_100 (by decide) rfl ?_
    obtain ⟨n1, h⟩ := h
    exact g_lv [1, 2, 3, 4, 5, 0] rfl (lM_bargain_102 C hret n1 _ _ _ _ _ _ _ _ h)
  · have h := h.2 c1
    refine g_bipush C (-20 : Int32) dX10_bargain_91 cb_m20 ?_
    refine g_aload_n C 0 dX10_bargain_93 rfl ?_
    refine Mg_place (F := (upd F 4 (0 : Int32))) C (v := F 5) rfl dX10_bargain_94 ?_
    refine g_isub C dX10_bargain_97 ?_
    exact hret _ _ _ _ ⟨_, _, _, rfl, h⟩ rfl dX10_bargain_98
def qM_bargain (F : FT) (R : RT) (J : JT)  (K : Int32 → FT → RT → JT → Prop) : Prop :=
  qM_number (upd (upd F 5 (0 : Int32)) 6 (0 : Int32)) R J (1 : Int32) (200 : Int32) (fun r1 F1 R1 J1 => qM_takes F1 R1 J1 (44 : Int32) (fun F2 R2 J2 => qM_number F2 R2 J2 (1 : Int32) (40 : Int32) (fun r3 F3 R3 J3 => qM_takes F3 R3 J3 (59 : Int32) (fun F4 R4 J4 => qM_readBuilders F4 R4 J4 (fun r5 F5 R5 J5 => (¬ (F5 6) = 0 → (qM_bargain_79 F5 R5 J5 r1 r3 r5 (0 : Int32) K)) ∧ ((F5 6) = 0 → (qM_here F5 R5 J5 (fun r7 F7 R7 J7 => (¬ r7 = (59 : Int32) → (qM_bargain_79 F7 R7 J7 r1 r3 r5 (0 : Int32) K)) ∧ (r7 = (59 : Int32) → (qM_readHindrances (upd F7 5 ((F7 5) + (1 : Int32))) R7 J7 (fun r9 F9 R9 J9 => qM_bargain_79 F9 R9 J9 r1 r3 r5 r9 K)))))))))))
set_option maxHeartbeats 4000000 in
set_option maxRecDepth 100000 in
theorem bM_bargain {X : XT} {ka : Nat → ClassId} {ad : Nat → Nat} (C : Cx X cX10_bargain 6 RX10 (some .int) ka 4) {K : Int32 → FT → RT → JT → Prop} (hret : RetI X cX10_bargain .int 0 0 (fun z w => ∃ F R J, w = wM ad ka F R J ∧ K z F R J)) (F : FT) (R : RT) (J : JT)  (h : qM_bargain F R J  K) : G X 0 0 (wM ad ka F R J) 0 [(0, .ref (ad 20))] [] := by
  unfold qM_bargain at h
  refine g_aload_n C 0 dX10_bargain_0 rfl ?_
  refine g_iconst C (0 : Int32) dX10_bargain_1 ci_0 ?_
  refine Mp_place C dX10_bargain_2 ?_
  refine g_aload_n C 0 dX10_bargain_5 rfl ?_
  refine g_iconst C (0 : Int32) dX10_bargain_6 ci_0 ?_
  refine Mp_isFault C isB_0 dX10_bargain_7 ?_
  refine g_aload_n C 0 dX10_bargain_10 rfl ?_
  refine g_iconst C (1 : Int32) dX10_bargain_11 ci_1 ?_
  refine g_sipush C (200 : Int32) dX10_bargain_12 cs_200 ?_
  refine g_callVi0 C (kM_number (xL X) (xD X) ka ad _ _ _ _ _ _ h) miX10_number (gw_of tw4_188 rfl) (by decide) wM_at rfl rfl rfl (Nat.le_of_ble_eq_true rfl) z00 dX10_bargain_15 (fun r1 w hw => ?_)
  obtain ⟨F1, R1, J1, rfl, h⟩ := hw
  refine g_istore_n C [(1, .int r1), (0, .ref (ad 20))] dX10_bargain_18 (by decide) rfl ?_
  refine g_aload_n C 1 dX10_bargain_19 rfl ?_
  refine g_bipush C (44 : Int32) dX10_bargain_20 cb_44 ?_
  refine g_callVv0 C (kM_takes (xL X) (xD X) ka ad _ _ _ _ _ h) miX10_takes (gw_of tw4_202 rfl) (by decide) wM_at rfl rfl rfl (Nat.le_of_ble_eq_true rfl) z00 dX10_bargain_22 (fun w hw => ?_)
  obtain ⟨F2, R2, J2, rfl, h⟩ := hw
  refine g_aload_n C 1 dX10_bargain_25 rfl ?_
  refine g_iconst C (1 : Int32) dX10_bargain_26 ci_1 ?_
  refine g_bipush C (40 : Int32) dX10_bargain_27 cb_40 ?_
  refine g_callVi0 C (kM_number (xL X) (xD X) ka ad _ _ _ _ _ _ h) miX10_number (gw_of tw4_188 rfl) (by decide) wM_at rfl rfl rfl (Nat.le_of_ble_eq_true rfl) z00 dX10_bargain_29 (fun r3 w hw => ?_)
  obtain ⟨F3, R3, J3, rfl, h⟩ := hw
  refine g_istore_n C [(2, .int r3), (1, .int r1), (0, .ref (ad 20))] dX10_bargain_32 (by decide) rfl ?_
  refine g_aload_n C 2 dX10_bargain_33 rfl ?_
  refine g_bipush C (59 : Int32) dX10_bargain_34 cb_59 ?_
  refine g_callVv0 C (kM_takes (xL X) (xD X) ka ad _ _ _ _ _ h) miX10_takes (gw_of tw4_202 rfl) (by decide) wM_at rfl rfl rfl (Nat.le_of_ble_eq_true rfl) z00 dX10_bargain_36 (fun w hw => ?_)
  obtain ⟨F4, R4, J4, rfl, h⟩ := hw
  refine g_aload_n C 2 dX10_bargain_39 rfl ?_
  refine g_callVi0 C (kM_readBuilders (xL X) (xD X) ka ad _ _ _ _ h) miX10_readBuilders (gw_of tw4_206 rfl) (by decide) wM_at rfl rfl rfl (Nat.le_of_ble_eq_true rfl) z00 dX10_bargain_40 (fun r5 w hw => ?_)
  obtain ⟨F5, R5, J5, rfl, h⟩ := hw
  refine g_istore_n C [(3, .int r5), (2, .int r3), (1, .int r1), (0, .ref (ad 20))] dX10_bargain_43 (by decide) rfl ?_
  refine g_iconst C (0 : Int32) dX10_bargain_44 ci_0 ?_
  refine g_istore C [(4, .int (0 : Int32)), (3, .int r5), (2, .int r3), (1, .int r1), (0, .ref (ad 20))] dX10_bargain_45 (by decide) rfl ?_
  refine g_aload_n C 4 dX10_bargain_47 rfl ?_
  refine Mg_isFault C (v := F5 6) rfl dX10_bargain_48 ?_
  refine g_if_ne C 79 dX10_bargain_51 (by decide) (fun c6 => ?_) (fun c6 => ?_)
  · have h := h.1 c6
    exact g_lv [4, 3, 2, 1, 0] rfl (lM_bargain_79 C hret _ _ _ _ _ _ _ h)
  · have h := h.2 c6
    refine g_aload_n C 4 dX10_bargain_54 rfl ?_
    refine g_callVi0 C (kM_here (xL X) (xD X) ka ad _ _ _ _ h) miX10_here (gw_of tw4_192 rfl) (by decide) wM_at rfl rfl rfl (Nat.le_of_ble_eq_true rfl) z00 dX10_bargain_55 (fun r7 w hw => ?_)
    obtain ⟨F7, R7, J7, rfl, h⟩ := hw
    refine g_bipush C (59 : Int32) dX10_bargain_58 cb_59 ?_
    refine g_icmp_ne C 79 dX10_bargain_60 (by decide) (fun c8 => ?_) (fun c8 => ?_)
    · have h := h.1 c8
      exact g_lv [4, 3, 2, 1, 0] rfl (lM_bargain_79 C hret _ _ _ _ _ _ _ h)
    · have h := h.2 c8
      refine g_aload_n C 4 dX10_bargain_63 rfl ?_
      refine g_dup C dX10_bargain_64 rfl ?_
      refine Mg_place C (v := F7 5) rfl dX10_bargain_65 ?_
      refine g_iconst C (1 : Int32) dX10_bargain_68 ci_1 ?_
      refine g_iadd C dX10_bargain_69 ?_
      refine Mp_place C dX10_bargain_70 ?_
      refine g_aload_n C 4 dX10_bargain_73 rfl ?_
      refine g_callVi0 C (kM_readHindrances (xL X) (xD X) ka ad _ _ _ _ h) miX10_readHindrances (gw_of tw4_214 rfl) (by decide) wM_at rfl rfl rfl (Nat.le_of_ble_eq_true rfl) z00 dX10_bargain_74 (fun r9 w hw => ?_)
      obtain ⟨F9, R9, J9, rfl, h⟩ := hw
      refine g_istore C [(4, .int r9), (3, .int r5), (2, .int r3), (1, .int r1), (0, .ref (ad 20))] dX10_bargain_77 (by decide) rfl ?_
      exact g_lv [4, 3, 2, 1, 0] rfl (lM_bargain_79 C hret _ _ _ _ _ _ _ h)
set_option maxHeartbeats 4000000 in
set_option maxRecDepth 100000 in
theorem kM_bargain (l : Launch) (D : va_G) (ka : Nat → ClassId) (ad : Nat → Nat) (F : FT) (R : RT) (J : JT)  (K : Int32 → FT → RT → JT → Prop) (h : qM_bargain F R J  K) : MI l D ka yX10_bargain cX10_bargain 6 (some .int) 4 0 0 [.ref (ad 20)] (wM ad ka F R J) (fun z w => ∃ F R J, w = wM ad ka F R J ∧ K z F R J) := MI_of (by decide) (Nat.le_of_ble_eq_true rfl) (fun X C hroom hret => bM_bargain C hret F R J  h)
set_option maxHeartbeats 4000000 in
set_option maxRecDepth 100000 in
theorem miX10_bargain : MInf yX10_bargain cX10_bargain 6 (some .int) 0 := ⟨(gw_of tw4_185 rfl), (gw_of tw4_186 rfl), (gw_of tw1_6 rfl), (gw_of tw4_187 rfl), by decide +kernel, by decide⟩
