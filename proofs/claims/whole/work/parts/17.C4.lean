def qH_renew_17 (j : Nat) : Nat → FT → RT → JT → PT → BT → Int32 → (FT → RT → JT → PT → BT → Prop) → Prop
  | 0, _, _, _, _, _, _ => fun _ => False
  | n17 + 1, F, R, J, P, B, v3 => fun K => ((24 : Int32) ≤ v3 → (K F R J P B)) ∧ (¬ (24 : Int32) ≤ v3 → ((vp_in v3 24) ∧ (qH_renew_17 j n17 F R (va_up J (503 + 100 * j) (vp_updL (J (503 + 100 * j)) v3.toNatClampNeg (0 : Int64))) P B (v3 + (1 : Int32)) K)))
set_option maxHeartbeats 4000000 in
set_option maxRecDepth 100000 in
theorem lH_renew_17 {X : XT} {ka : Nat → ClassId} {ad : Nat → Nat} (C : Cx X cX6_renew 4 RX6 none ka 1) {K : FT → RT → JT → PT → BT → Prop} (hret : RetV X cX6_renew 0 0 (fun w => ∃ F R J P B, w = wC ad ka F R J P B ∧ K F R J P B)) (j : Nat) (hj : j < 4) : ∀ (n : Nat) (F : FT) (R : RT) (J : JT) (P : PT) (B : BT) (v3 : Int32), qH_renew_17 j n F R J P B v3 K → G X 0 0 (wC ad ka F R J P B) 17 [(0, .ref (ad (599 + 100 * j))), (3, .int v3)] [] := by
  intro n
  induction n with
  | zero => intro F R J P B v3 h; exact h.elim
  | succ n ih =>
    intro F R J P B v3 h
    refine g_iload_n C 1 dX6_renew_17 rfl ?_
    refine g_bipush C (24 : Int32) dX6_renew_18 cb_24 ?_
    refine g_icmp_ge C 36 dX6_renew_20 (by decide) (fun c1 => ?_) (fun c1 => ?_)
    · have h := h.1 c1
      exact hret _ _ _ ⟨_, _, _, _, _, rfl, h⟩ dX6_renew_36
    · have h := h.2 c1
      refine g_aload_n C 0 dX6_renew_23 rfl ?_
      refine Sg_X6_items C j hj dX6_renew_24 ?_
      refine g_iload_n C 1 dX6_renew_27 rfl ?_
      refine g_lconst C (0 : Int64) dX6_renew_28 rfl ?_
      refine Ss_items C j hj (f := J (503 + 100 * j)) rfl _ rfl h.1 dX6_renew_29 ?_
      have h := h.2
      refine g_iinc C 1 (v3 + (1 : Int32)) [(3, .int (v3 + (1 : Int32))), (0, .ref (ad (599 + 100 * j)))] dX6_renew_30 rfl (by rw [ci_1]) (by decide) rfl ?_
      refine g_goto C 17 dX6_renew_33 (by decide) ?_
      exact g_lv [1, 0] rfl (ih _ _ _ _ _ _ h)
def qH_renew (j : Nat) (F : FT) (R : RT) (J : JT) (P : PT) (B : BT) (a1 : Int32) (a2 : Int32) (K : FT → RT → JT → PT → BT → Prop) : Prop :=
  ∃ n17, qH_renew_17 j n17 (upd (upd (upd F (500 + 100 * j) (1 : Int32)) (501 + 100 * j) a1) (502 + 100 * j) a2) R J P B (0 : Int32) K
set_option maxHeartbeats 4000000 in
set_option maxRecDepth 100000 in
theorem bH_renew {X : XT} {ka : Nat → ClassId} {ad : Nat → Nat} (C : Cx X cX6_renew 4 RX6 none ka 1) {K : FT → RT → JT → PT → BT → Prop} (hret : RetV X cX6_renew 0 0 (fun w => ∃ F R J P B, w = wC ad ka F R J P B ∧ K F R J P B)) (j : Nat) (hj : j < 4) (F : FT) (R : RT) (J : JT) (P : PT) (B : BT) (a1 : Int32) (a2 : Int32) (h : qH_renew j F R J P B a1 a2 K) : G X 0 0 (wC ad ka F R J P B) 0 [(0, .ref (ad (599 + 100 * j))), (1, .int a1), (2, .int a2)] [] := by
  unfold qH_renew at h
  refine g_aload_n C 0 dX6_renew_0 rfl ?_
  refine g_iconst C (1 : Int32) dX6_renew_1 ci_1 ?_
  refine Sp_X6_held C j hj isB_1 dX6_renew_2 ?_
  refine g_aload_n C 0 dX6_renew_5 rfl ?_
  refine g_iload_n C 1 dX6_renew_6 rfl ?_
  refine Sp_X6_lane C j hj dX6_renew_7 ?_
  refine g_aload_n C 0 dX6_renew_10 rfl ?_
  refine g_iload_n C 2 dX6_renew_11 rfl ?_
  refine Sp_X6_size C j hj dX6_renew_12 ?_
  refine g_iconst C (0 : Int32) dX6_renew_15 ci_0 ?_
  refine g_istore_n C [(3, .int (0 : Int32)), (0, .ref (ad (599 + 100 * j))), (1, .int a1), (2, .int a2)] dX6_renew_16 (by decide) rfl ?_
  obtain ⟨n1, h⟩ := h
  exact g_lv [1, 0] rfl (lH_renew_17 C hret j hj n1 _ _ _ _ _ _ h)
set_option maxHeartbeats 4000000 in
set_option maxRecDepth 100000 in
theorem kH_renew (l : Launch) (D : va_G) (ka : Nat → ClassId) (ad : Nat → Nat) (j : Nat) (hj : j < 4) (F : FT) (R : RT) (J : JT) (P : PT) (B : BT) (a1 : Int32) (a2 : Int32) (K : FT → RT → JT → PT → BT → Prop) (h : qH_renew j F R J P B a1 a2 K) : MV l D ka yX6_renew cX6_renew 4 none 1 0 0 [.ref (ad (599 + 100 * j)), .int a1, .int a2] (wC ad ka F R J P B) (fun w => ∃ F R J P B, w = wC ad ka F R J P B ∧ K F R J P B) := MV_of (by decide) (Nat.le_of_ble_eq_true rfl) (fun X C hroom hret => bH_renew C hret j hj F R J P B a1 a2 h)
set_option maxHeartbeats 4000000 in
set_option maxRecDepth 100000 in
theorem miX6_renew : MInf yX6_renew cX6_renew 4 none 2 := ⟨(gw_of tw4_47 rfl), (gw_of tw4_48 rfl), (gw_of tw1_5 rfl), (gw_of tw4_49 rfl), by decide +kernel, by decide⟩

def qH_cut (j : Nat) (F : FT) (R : RT) (J : JT) (P : PT) (B : BT) (a1 : Int64) (K : Int64 → FT → RT → JT → PT → BT → Prop) : Prop :=
  ((F (501 + 100 * j)) = (0 : Int32) → (K a1.toInt32.toInt8.toInt32.toInt64 F R J P B)) ∧ (((F (501 + 100 * j)) = (1 : Int32) → (K a1.toInt32.toInt16.toInt32.toInt64 F R J P B)) ∧ (((F (501 + 100 * j)) = (2 : Int32) → (K a1.toInt32.toInt64 F R J P B)) ∧ ((¬ (F (501 + 100 * j)) = (0 : Int32) → ¬ (F (501 + 100 * j)) = (1 : Int32) → ¬ (F (501 + 100 * j)) = (2 : Int32) → (K a1 F R J P B)))))
set_option maxHeartbeats 4000000 in
set_option maxRecDepth 100000 in
theorem bH_cut {X : XT} {ka : Nat → ClassId} {ad : Nat → Nat} (C : Cx X cX6_cut 3 RX6 (some .long) ka 1) {K : Int64 → FT → RT → JT → PT → BT → Prop} (hret : RetL X cX6_cut 0 0 (fun z w => ∃ F R J P B, w = wC ad ka F R J P B ∧ K z F R J P B)) (j : Nat) (hj : j < 4) (F : FT) (R : RT) (J : JT) (P : PT) (B : BT) (a1 : Int64) (h : qH_cut j F R J P B a1 K) : G X 0 0 (wC ad ka F R J P B) 0 [(0, .ref (ad (599 + 100 * j))), (1, .long a1)] [] := by
  unfold qH_cut at h
  refine g_aload_n C 0 dX6_cut_0 rfl ?_
  refine Sg_X6_lane C j hj (v := F (501 + 100 * j)) rfl dX6_cut_1 ?_
  by_cases c1 : (F (501 + 100 * j)) = (0 : Int32)
  · have h := h.1 c1
    refine g_tableIn C (28) 32 dX6_cut_4 (by rw [c1]; decide) (by rw [c1]; decide) (by rw [c1]; decide) (by decide) ?_
    refine g_lload_n C 1 dX6_cut_32 rfl ?_
    refine g_l2i C dX6_cut_33 ?_
    refine g_i2b C dX6_cut_34 ?_
    refine g_i2l C dX6_cut_35 ?_
    exact hret _ _ _ _ ⟨_, _, _, _, _, rfl, h⟩ dX6_cut_36
  have h := h.2
  by_cases c2 : (F (501 + 100 * j)) = (1 : Int32)
  · have h := h.1 c2
    refine g_tableIn C (33) 37 dX6_cut_4 (by rw [c2]; decide) (by rw [c2]; decide) (by rw [c2]; decide) (by decide) ?_
    refine g_lload_n C 1 dX6_cut_37 rfl ?_
    refine g_l2i C dX6_cut_38 ?_
    refine g_i2s C dX6_cut_39 ?_
    refine g_i2l C dX6_cut_40 ?_
    exact hret _ _ _ _ ⟨_, _, _, _, _, rfl, h⟩ dX6_cut_41
  have h := h.2
  by_cases c3 : (F (501 + 100 * j)) = (2 : Int32)
  · have h := h.1 c3
    refine g_tableIn C (38) 42 dX6_cut_4 (by rw [c3]; decide) (by rw [c3]; decide) (by rw [c3]; decide) (by decide) ?_
    refine g_lload_n C 1 dX6_cut_42 rfl ?_
    refine g_l2i C dX6_cut_43 ?_
    refine g_i2l C dX6_cut_44 ?_
    exact hret _ _ _ _ ⟨_, _, _, _, _, rfl, h⟩ dX6_cut_45
  have h := h.2
  have h := h c1 c2 c3
  refine g_tableOut C 46 dX6_cut_4 (by have ec1 := swn (0) (by decide) c1; have ec2 := swn (1) (by decide) c2; have ec3 := swn (2) (by decide) c3; omega) (by decide) ?_
  refine g_lload_n C 1 dX6_cut_46 rfl ?_
  exact hret _ _ _ _ ⟨_, _, _, _, _, rfl, h⟩ dX6_cut_47
set_option maxHeartbeats 4000000 in
set_option maxRecDepth 100000 in
theorem kH_cut (l : Launch) (D : va_G) (ka : Nat → ClassId) (ad : Nat → Nat) (j : Nat) (hj : j < 4) (F : FT) (R : RT) (J : JT) (P : PT) (B : BT) (a1 : Int64) (K : Int64 → FT → RT → JT → PT → BT → Prop) (h : qH_cut j F R J P B a1 K) : ML l D ka yX6_cut cX6_cut 3 (some .long) 1 0 0 [.ref (ad (599 + 100 * j)), .long a1] (wC ad ka F R J P B) (fun z w => ∃ F R J P B, w = wC ad ka F R J P B ∧ K z F R J P B) := ML_of (by decide) (Nat.le_of_ble_eq_true rfl) (fun X C hroom hret => bH_cut C hret j hj F R J P B a1 h)
set_option maxHeartbeats 4000000 in
set_option maxRecDepth 100000 in
theorem miX6_cut : MInf yX6_cut cX6_cut 3 (some .long) 1 := ⟨(gw_of tw4_40 rfl), (gw_of tp_yX6_cut rfl), (gw_of tw1_5 rfl), (gw_of tw4_41 rfl), by decide +kernel, by decide⟩

def qH_put (j : Nat) (F : FT) (R : RT) (J : JT) (P : PT) (B : BT) (a1 : Int32) (a2 : Int64) (K : FT → RT → JT → PT → BT → Prop) : Prop :=
  qW_within F R J P B a1 (0 : Int32) ((F (502 + 100 * j)) - (1 : Int32)) (fun r1 F1 R1 J1 P1 B1 => (r1 = 0 → (K F1 R1 J1 P1 B1)) ∧ (¬ r1 = 0 → (qH_cut j F1 R1 J1 P1 B1 a2 (fun r3 F3 R3 J3 P3 B3 => (vp_in a1 24) ∧ (K F3 R3 (va_up J3 (503 + 100 * j) (vp_updL (J3 (503 + 100 * j)) a1.toNatClampNeg r3)) P3 B3)))))
set_option maxHeartbeats 4000000 in
set_option maxRecDepth 100000 in
theorem bH_put {X : XT} {ka : Nat → ClassId} {ad : Nat → Nat} (C : Cx X cX6_put 4 RX6 none ka 2) {K : FT → RT → JT → PT → BT → Prop} (hret : RetV X cX6_put 0 0 (fun w => ∃ F R J P B, w = wC ad ka F R J P B ∧ K F R J P B)) (j : Nat) (hj : j < 4) (F : FT) (R : RT) (J : JT) (P : PT) (B : BT) (a1 : Int32) (a2 : Int64) (h : qH_put j F R J P B a1 a2 K) : G X 0 0 (wC ad ka F R J P B) 0 [(0, .ref (ad (599 + 100 * j))), (1, .int a1), (2, .long a2)] [] := by
  unfold qH_put at h
  refine g_iload_n C 1 dX6_put_0 rfl ?_
  refine g_iconst C (0 : Int32) dX6_put_1 ci_0 ?_
  refine g_aload_n C 0 dX6_put_2 rfl ?_
  refine Sg_X6_size C j hj (v := F (502 + 100 * j)) rfl dX6_put_3 ?_
  refine g_iconst C (1 : Int32) dX6_put_6 ci_1 ?_
  refine g_isub C dX6_put_7 ?_
  refine g_callSNi0 C (kW_within (xL X) (xD X) ka ad _ _ _ _ _ _ _ _ _ h) siX9_within (Ex.n6 C.ext) (by decide) rfl rfl (Nat.le_of_ble_eq_true rfl) z00 dX6_put_8 (fun r1 w hw => ?_)
  obtain ⟨F1, R1, J1, P1, B1, rfl, h⟩ := hw
  refine g_if_eq C 25 dX6_put_11 (by decide) (fun c2 => ?_) (fun c2 => ?_)
  · have h := h.1 c2
    exact hret _ _ _ ⟨_, _, _, _, _, rfl, h⟩ dX6_put_25
  · have h := h.2 c2
    refine g_aload_n C 0 dX6_put_14 rfl ?_
    refine Sg_X6_items C j hj dX6_put_15 ?_
    refine g_iload_n C 1 dX6_put_18 rfl ?_
    refine g_aload_n C 0 dX6_put_19 rfl ?_
    refine g_lload_n C 2 dX6_put_20 rfl ?_
    refine g_callVl0 C (kH_cut (xL X) (xD X) ka ad j hj _ _ _ _ _ _ _ h) miX6_cut (gw_of tw4_38 rfl) (by decide) (wC_s j hj) rfl rfl rfl (Nat.le_of_ble_eq_true rfl) z00 dX6_put_21 (fun r3 w hw => ?_)
    obtain ⟨F3, R3, J3, P3, B3, rfl, h⟩ := hw
    refine Ss_items C j hj (f := J3 (503 + 100 * j)) rfl _ rfl h.1 dX6_put_24 ?_
    have h := h.2
    exact hret _ _ _ ⟨_, _, _, _, _, rfl, h⟩ dX6_put_25
set_option maxHeartbeats 4000000 in
set_option maxRecDepth 100000 in
theorem kH_put (l : Launch) (D : va_G) (ka : Nat → ClassId) (ad : Nat → Nat) (j : Nat) (hj : j < 4) (F : FT) (R : RT) (J : JT) (P : PT) (B : BT) (a1 : Int32) (a2 : Int64) (K : FT → RT → JT → PT → BT → Prop) (h : qH_put j F R J P B a1 a2 K) : MV l D ka yX6_put cX6_put 4 none 2 0 0 [.ref (ad (599 + 100 * j)), .int a1, .long a2] (wC ad ka F R J P B) (fun w => ∃ F R J P B, w = wC ad ka F R J P B ∧ K F R J P B) := MV_of (by decide) (Nat.le_of_ble_eq_true rfl) (fun X C hroom hret => bH_put C hret j hj F R J P B a1 a2 h)
set_option maxHeartbeats 4000000 in
set_option maxRecDepth 100000 in
theorem miX6_put : MInf yX6_put cX6_put 4 none 2 := ⟨(gw_of tw4_34 rfl), (gw_of tw4_35 rfl), (gw_of tw1_5 rfl), (gw_of tw4_36 rfl), by decide +kernel, by decide⟩

def qW_builder (F : FT) (R : RT) (J : JT) (P : PT) (B : BT) (a1 : Int32) (a2 : Int32) (a3 : Int32) (K : Int32 → FT → RT → JT → PT → BT → Prop) : Prop :=
  qW_within F R J P B a1 (0 : Int32) (4 : Int32) (fun r1 F1 R1 J1 P1 B1 => (r1 = 0 → (K (-1 : Int32) F1 R1 J1 P1 B1)) ∧ (¬ r1 = 0 → (qW_within F1 R1 J1 P1 B1 a2 (1 : Int32) (9 : Int32) (fun r3 F3 R3 J3 P3 B3 => (r3 = 0 → (K (-1 : Int32) F3 R3 J3 P3 B3)) ∧ (¬ r3 = 0 → (qW_within F3 R3 J3 P3 B3 a3 (0 : Int32) (9 : Int32) (fun r5 F5 R5 J5 P5 B5 => (¬ r5 = 0 → (((F5 111) < (4 : Int32) → (qS_addBuilder F5 R5 J5 P5 B5 a1 a2 a3 (fun F8 R8 J8 P8 B8 => K ((F8 111) - (1 : Int32)) (upd F8 113 (0 : Int32)) R8 J8 P8 B8))) ∧ (¬ (F5 111) < (4 : Int32) → (K (-3 : Int32) F5 R5 J5 P5 B5)))) ∧ (r5 = 0 → (K (-1 : Int32) F5 R5 J5 P5 B5)))))))))
set_option maxHeartbeats 4000000 in
set_option maxRecDepth 100000 in
theorem bW_builder {X : XT} {ka : Nat → ClassId} {ad : Nat → Nat} (C : Cx X cX9_builder 4 RX9 (some .int) ka 6) (hroom : (xR X).cells = 1 ∧ (xR X).slots = 2) {K : Int32 → FT → RT → JT → PT → BT → Prop} (hret : RetI X cX9_builder .int 1 2 (fun z w => ∃ F R J P B, w = wC ad ka F R J P B ∧ K z F R J P B)) (F : FT) (R : RT) (J : JT) (P : PT) (B : BT) (a1 : Int32) (a2 : Int32) (a3 : Int32) (h : qW_builder F R J P B a1 a2 a3 K) : G X 0 0 (wC ad ka F R J P B) 0 [(0, .ref (ad 99)), (1, .int a1), (2, .int a2), (3, .int a3)] [] := by
  unfold qW_builder at h
  refine g_iload_n C 1 dX9_builder_0 rfl ?_
  refine g_iconst C (0 : Int32) dX9_builder_1 ci_0 ?_
  refine g_iconst C (4 : Int32) dX9_builder_2 ci_4 ?_
  refine g_callSi0 C (kW_within (xL X) (xD X) ka ad _ _ _ _ _ _ _ _ _ h) siX9_within (gw_of tw2_32 rfl) (by decide) rfl rfl (Nat.le_of_ble_eq_true rfl) (by rw [hroom.1, hroom.2]; decide) dX9_builder_3 (fun r1 w hw => ?_)
  obtain ⟨F1, R1, J1, P1, B1, rfl, h⟩ := hw
  refine g_if_eq C 29 dX9_builder_6 (by decide) (fun c2 => ?_) (fun c2 => ?_)
  · have h := h.1 c2
    refine g_iconst C (-1 : Int32) dX9_builder_29 ci_m1 ?_
    exact g_widen (by decide) (by decide) (hret _ _ _ _ ⟨_, _, _, _, _, rfl, h⟩ rfl dX9_builder_30)
  · have h := h.2 c2
    refine g_iload_n C 2 dX9_builder_9 rfl ?_
    refine g_iconst C (1 : Int32) dX9_builder_10 ci_1 ?_
    refine g_bipush C (9 : Int32) dX9_builder_11 cb_9 ?_
    refine g_callSi0 C (kW_within (xL X) (xD X) ka ad _ _ _ _ _ _ _ _ _ h) siX9_within (gw_of tw2_32 rfl) (by decide) rfl rfl (Nat.le_of_ble_eq_true rfl) (by rw [hroom.1, hroom.2]; decide) dX9_builder_13 (fun r3 w hw => ?_)
    obtain ⟨F3, R3, J3, P3, B3, rfl, h⟩ := hw
    refine g_if_eq C 29 dX9_builder_16 (by decide) (fun c4 => ?_) (fun c4 => ?_)
    · have h := h.1 c4
      refine g_iconst C (-1 : Int32) dX9_builder_29 ci_m1 ?_
      exact g_widen (by decide) (by decide) (hret _ _ _ _ ⟨_, _, _, _, _, rfl, h⟩ rfl dX9_builder_30)
    · have h := h.2 c4
      refine g_iload_n C 3 dX9_builder_19 rfl ?_
      refine g_iconst C (0 : Int32) dX9_builder_20 ci_0 ?_
      refine g_bipush C (9 : Int32) dX9_builder_21 cb_9 ?_
      refine g_callSi0 C (kW_within (xL X) (xD X) ka ad _ _ _ _ _ _ _ _ _ h) siX9_within (gw_of tw2_32 rfl) (by decide) rfl rfl (Nat.le_of_ble_eq_true rfl) (by rw [hroom.1, hroom.2]; decide) dX9_builder_23 (fun r5 w hw => ?_)
      obtain ⟨F5, R5, J5, P5, B5, rfl, h⟩ := hw
      refine g_if_ne C 31 dX9_builder_26 (by decide) (fun c6 => ?_) (fun c6 => ?_)
      · have h := h.1 c6
        refine g_aload_n C 0 dX9_builder_31 rfl ?_
        refine Cg_X9_0_now C dX9_builder_32 ?_
        refine Cg_X9_1_builderCount C (v := F5 111) rfl dX9_builder_35 ?_
        refine g_iconst C (4 : Int32) dX9_builder_38 ci_4 ?_
        refine g_icmp_lt C 45 dX9_builder_39 (by decide) (fun c7 => ?_) (fun c7 => ?_)
        · have h := h.1 c7
          refine g_aload_n C 0 dX9_builder_45 rfl ?_
          refine Cg_X9_0_now C dX9_builder_46 ?_
          refine g_iload_n C 1 dX9_builder_49 rfl ?_
          refine g_iload_n C 2 dX9_builder_50 rfl ?_
          refine g_iload_n C 3 dX9_builder_51 rfl ?_
          refine g_callVv C (kS_addBuilder (xL X) (xD X) ka ad _ _ _ _ _ _ _ _ _ h) miX7_addBuilder (gw_of tw2_35 rfl) (by decide) wC_o1 rfl rfl rfl (Nat.le_of_ble_eq_true rfl) (by rw [hroom.1, hroom.2]; decide) dX9_builder_52 (fun w hw => ?_)
          obtain ⟨F8, R8, J8, P8, B8, rfl, h⟩ := hw
          refine g_aload_n C 0 dX9_builder_55 rfl ?_
          refine Cg_X9_0_now C dX9_builder_56 ?_
          refine g_iconst C (0 : Int32) dX9_builder_59 ci_0 ?_
          refine Cp_X9_1_pastCount C dX9_builder_60 ?_
          refine g_aload_n C 0 dX9_builder_63 rfl ?_
          refine Cg_X9_0_now C dX9_builder_64 ?_
          refine Cg_X9_1_builderCount (F := (upd F8 113 (0 : Int32))) C (v := F8 111) rfl dX9_builder_67 ?_
          refine g_iconst C (1 : Int32) dX9_builder_70 ci_1 ?_
          refine g_isub C dX9_builder_71 ?_
          exact g_widen (by decide) (by decide) (hret _ _ _ _ ⟨_, _, _, _, _, rfl, h⟩ rfl dX9_builder_72)
        · have h := h.2 c7
          refine g_bipush C (-3 : Int32) dX9_builder_42 cb_m3 ?_
          exact g_widen (by decide) (by decide) (hret _ _ _ _ ⟨_, _, _, _, _, rfl, h⟩ rfl dX9_builder_44)
      · have h := h.2 c6
        refine g_iconst C (-1 : Int32) dX9_builder_29 ci_m1 ?_
        exact g_widen (by decide) (by decide) (hret _ _ _ _ ⟨_, _, _, _, _, rfl, h⟩ rfl dX9_builder_30)
set_option maxHeartbeats 4000000 in
set_option maxRecDepth 100000 in
theorem kW_builder (l : Launch) (D : va_G) (ka : Nat → ClassId) (ad : Nat → Nat) (F : FT) (R : RT) (J : JT) (P : PT) (B : BT) (a1 : Int32) (a2 : Int32) (a3 : Int32) (K : Int32 → FT → RT → JT → PT → BT → Prop) (h : qW_builder F R J P B a1 a2 a3 K) : MI l D ka yX9_builder cX9_builder 4 (some .int) 6 1 2 [.ref (ad 99), .int a1, .int a2, .int a3] (wC ad ka F R J P B) (fun z w => ∃ F R J P B, w = wC ad ka F R J P B ∧ K z F R J P B) := MI_of (by decide) (Nat.le_of_ble_eq_true rfl) (fun X C hroom hret => bW_builder C hroom hret F R J P B a1 a2 a3 h)
set_option maxHeartbeats 4000000 in
set_option maxRecDepth 100000 in
theorem miX9_builder : MInf yX9_builder cX9_builder 4 (some .int) 3 := ⟨(gw_of tw2_29 rfl), (gw_of tw2_30 rfl), (gw_of tw1_1 rfl), (gw_of tw2_31 rfl), by decide +kernel, by decide⟩

def qW_of (F : FT) (R : RT) (J : JT) (P : PT) (B : BT) (a1 : Int32) (a2 : Int32) (K : Int32 → FT → RT → JT → PT → BT → Prop) : Prop :=
  qW_within F R J P B a1 (0 : Int32) ((F 111) - (1 : Int32)) (fun r1 F1 R1 J1 P1 B1 => (¬ r1 = 0 → (vp_in a1 4 ∧ ∃ b3 : Nat, P1 114 a1.toNatClampNeg = some b3 ∧ ((a2 = (0 : Int32) → (qB_kind F1 R1 J1 P1 B1 b3  (fun r5 F5 R5 J5 P5 B5 => K r5 F5 R5 J5 P5 B5))) ∧ ((a2 = (1 : Int32) → (∃ (c7 : Nat) (p7 q7 : Int32), (b3, c7, p7, q7) ∈ B1 ∧ bOK c7 ∧ (K p7 F1 R1 J1 P1 B1))) ∧ ((a2 = (2 : Int32) → (∃ (c9 : Nat) (p9 q9 : Int32), (b3, c9, p9, q9) ∈ B1 ∧ bOK c9 ∧ (K q9 F1 R1 J1 P1 B1))) ∧ ((a2 = (3 : Int32) → (qB_hauls F1 R1 J1 P1 B1 b3 (F1 105) (0 : Int32) (fun r11 F11 R11 J11 P11 B11 => K r11 F11 R11 J11 P11 B11))) ∧ ((a2 = (4 : Int32) → (qB_lays F1 R1 J1 P1 B1 b3 (0 : Int32) (F1 105) (0 : Int32) (fun r13 F13 R13 J13 P13 B13 => K r13 F13 R13 J13 P13 B13))) ∧ ((a2 = (5 : Int32) → (qB_lays F1 R1 J1 P1 B1 b3 (1 : Int32) (F1 105) (0 : Int32) (fun r15 F15 R15 J15 P15 B15 => K r15 F15 R15 J15 P15 B15))) ∧ ((a2 = (6 : Int32) → (qB_lays F1 R1 J1 P1 B1 b3 (2 : Int32) (F1 105) (0 : Int32) (fun r17 F17 R17 J17 P17 B17 => K r17 F17 R17 J17 P17 B17))) ∧ ((¬ a2 = (0 : Int32) → ¬ a2 = (1 : Int32) → ¬ a2 = (2 : Int32) → ¬ a2 = (3 : Int32) → ¬ a2 = (4 : Int32) → ¬ a2 = (5 : Int32) → ¬ a2 = (6 : Int32) → (K (-1 : Int32) F1 R1 J1 P1 B1)))))))))))) ∧ (r1 = 0 → (K (-1 : Int32) F1 R1 J1 P1 B1)))
set_option maxHeartbeats 4000000 in
set_option maxRecDepth 100000 in
theorem bW_of {X : XT} {ka : Nat → ClassId} {ad : Nat → Nat} (C : Cx X cX9_of 4 RX9 (some .int) ka 4) {K : Int32 → FT → RT → JT → PT → BT → Prop} (hret : RetI X cX9_of .int 0 0 (fun z w => ∃ F R J P B, w = wC ad ka F R J P B ∧ K z F R J P B)) (F : FT) (R : RT) (J : JT) (P : PT) (B : BT) (a1 : Int32) (a2 : Int32) (h : qW_of F R J P B a1 a2 K) : G X 0 0 (wC ad ka F R J P B) 0 [(0, .ref (ad 99)), (1, .int a1), (2, .int a2)] [] := by
  unfold qW_of at h
  refine g_iload_n C 1 dX9_of_0 rfl ?_
  refine g_iconst C (0 : Int32) dX9_of_1 ci_0 ?_
  refine g_aload_n C 0 dX9_of_2 rfl ?_
  refine Cg_X9_0_now C dX9_of_3 ?_
  refine Cg_X9_1_builderCount C (v := F 111) rfl dX9_of_6 ?_
  refine g_iconst C (1 : Int32) dX9_of_9 ci_1 ?_
  refine g_isub C dX9_of_10 ?_
  refine g_callSi0 C (kW_within (xL X) (xD X) ka ad _ _ _ _ _ _ _ _ _ h) siX9_within (gw_of tw2_32 rfl) (by decide) rfl rfl (Nat.le_of_ble_eq_true rfl) z00 dX9_of_11 (fun r1 w hw => ?_)
  obtain ⟨F1, R1, J1, P1, B1, rfl, h⟩ := hw
  refine g_if_ne C 19 dX9_of_14 (by decide) (fun c2 => ?_) (fun c2 => ?_)
  · have h := h.1 c2
    refine g_aload_n C 0 dX9_of_19 rfl ?_
    refine Cg_X9_0_now C dX9_of_20 ?_
    refine Cg_X9_1_builders C dX9_of_23 ?_
    refine g_iload_n C 1 dX9_of_26 rfl ?_
    obtain ⟨hi3, b3, hb3, h⟩ := h
    refine Ca_Q114 C (f := P1 114) rfl hi3 hb3 dX9_of_27 ?_
    refine g_astore_n C [(3, .ref b3), (0, .ref (ad 99)), (1, .int a1), (2, .int a2)] dX9_of_28 (by decide) rfl ?_
    refine g_aload_n C 0 dX9_of_29 rfl ?_
    refine g_ifnonnull C 35 dX9_of_30 (by decide) ?_
    refine g_iload_n C 3 dX9_of_35 rfl ?_
    by_cases c4 : a2 = (0 : Int32)
    · have h := h.1 c4
      refine g_tableIn C (44) 80 dX9_of_36 (by rw [c4]; decide) (by rw [c4]; decide) (by rw [c4]; decide) (by decide) ?_
      refine g_aload_n C 0 dX9_of_80 rfl ?_
      refine gB_X9_kind C h (by decide) (Nat.le_of_ble_eq_true rfl) dX9_of_81 (fun r5 w hw => ?_)
      obtain ⟨F5, R5, J5, P5, B5, rfl, h⟩ := hw
      exact hret _ _ _ _ ⟨_, _, _, _, _, rfl, h⟩ rfl dX9_of_84
    have h := h.2
    by_cases c6 : a2 = (1 : Int32)
    · have h := h.1 c6
      refine g_tableIn C (49) 85 dX9_of_36 (by rw [c6]; decide) (by rw [c6]; decide) (by rw [c6]; decide) (by decide) ?_
      refine g_aload_n C 0 dX9_of_85 rfl ?_
      obtain ⟨c7, p7, q7, hm7, ho7, h⟩ := h
      refine Bg_X9_pace C hm7 ho7 dX9_of_86 ?_
      exact hret _ _ _ _ ⟨_, _, _, _, _, rfl, h⟩ rfl dX9_of_89
    have h := h.2
    by_cases c8 : a2 = (2 : Int32)
    · have h := h.1 c8
      refine g_tableIn C (54) 90 dX9_of_36 (by rw [c8]; decide) (by rw [c8]; decide) (by rw [c8]; decide) (by decide) ?_
      refine g_aload_n C 0 dX9_of_90 rfl ?_
      obtain ⟨c9, p9, q9, hm9, ho9, h⟩ := h
      refine Bg_X9_horse C hm9 ho9 dX9_of_91 ?_
      exact hret _ _ _ _ ⟨_, _, _, _, _, rfl, h⟩ rfl dX9_of_94
    have h := h.2
    by_cases c10 : a2 = (3 : Int32)
    · have h := h.1 c10
      refine g_tableIn C (59) 95 dX9_of_36 (by rw [c10]; decide) (by rw [c10]; decide) (by rw [c10]; decide) (by decide) ?_
      refine g_aload_n C 0 dX9_of_95 rfl ?_
      refine g_aload_n C 1 dX9_of_96 rfl ?_
      refine Cg_X9_0_now C dX9_of_97 ?_
      refine Cg_X9_1_laid C (v := F1 105) rfl dX9_of_100 ?_
      refine g_iconst C (0 : Int32) dX9_of_103 ci_0 ?_
      refine gB_X9_hauls C h (by decide) (Nat.le_of_ble_eq_true rfl) dX9_of_104 (fun r11 w hw => ?_)
      obtain ⟨F11, R11, J11, P11, B11, rfl, h⟩ := hw
      exact hret _ _ _ _ ⟨_, _, _, _, _, rfl, h⟩ rfl dX9_of_107
    have h := h.2
    by_cases c12 : a2 = (4 : Int32)
    · have h := h.1 c12
      refine g_tableIn C (72) 108 dX9_of_36 (by rw [c12]; decide) (by rw [c12]; decide) (by rw [c12]; decide) (by decide) ?_
      refine g_aload_n C 0 dX9_of_108 rfl ?_
      refine g_iconst C (0 : Int32) dX9_of_109 ci_0 ?_
      refine g_aload_n C 1 dX9_of_110 rfl ?_
      refine Cg_X9_0_now C dX9_of_111 ?_
      refine Cg_X9_1_laid C (v := F1 105) rfl dX9_of_114 ?_
      refine g_iconst C (0 : Int32) dX9_of_117 ci_0 ?_
      refine gB_X9_lays C h (by decide) (Nat.le_of_ble_eq_true rfl) dX9_of_118 (fun r13 w hw => ?_)
      obtain ⟨F13, R13, J13, P13, B13, rfl, h⟩ := hw
      exact hret _ _ _ _ ⟨_, _, _, _, _, rfl, h⟩ rfl dX9_of_121
    have h := h.2
    by_cases c14 : a2 = (5 : Int32)
    · have h := h.1 c14
      refine g_tableIn C (86) 122 dX9_of_36 (by rw [c14]; decide) (by rw [c14]; decide) (by rw [c14]; decide) (by decide) ?_
      refine g_aload_n C 0 dX9_of_122 rfl ?_
      refine g_iconst C (1 : Int32) dX9_of_123 ci_1 ?_
      refine g_aload_n C 1 dX9_of_124 rfl ?_
      refine Cg_X9_0_now C dX9_of_125 ?_
      refine Cg_X9_1_laid C (v := F1 105) rfl dX9_of_128 ?_
      refine g_iconst C (0 : Int32) dX9_of_131 ci_0 ?_
      refine gB_X9_lays C h (by decide) (Nat.le_of_ble_eq_true rfl) dX9_of_132 (fun r15 w hw => ?_)
      obtain ⟨F15, R15, J15, P15, B15, rfl, h⟩ := hw
      exact hret _ _ _ _ ⟨_, _, _, _, _, rfl, h⟩ rfl dX9_of_135
    have h := h.2
    by_cases c16 : a2 = (6 : Int32)
    · have h := h.1 c16
      refine g_tableIn C (100) 136 dX9_of_36 (by rw [c16]; decide) (by rw [c16]; decide) (by rw [c16]; decide) (by decide) ?_
      refine g_aload_n C 0 dX9_of_136 rfl ?_
      refine g_iconst C (2 : Int32) dX9_of_137 ci_2 ?_
      refine g_aload_n C 1 dX9_of_138 rfl ?_
      refine Cg_X9_0_now C dX9_of_139 ?_
      refine Cg_X9_1_laid C (v := F1 105) rfl dX9_of_142 ?_
      refine g_iconst C (0 : Int32) dX9_of_145 ci_0 ?_
      refine gB_X9_lays C h (by decide) (Nat.le_of_ble_eq_true rfl) dX9_of_146 (fun r17 w hw => ?_)
      obtain ⟨F17, R17, J17, P17, B17, rfl, h⟩ := hw
      exact hret _ _ _ _ ⟨_, _, _, _, _, rfl, h⟩ rfl dX9_of_149
    have h := h.2
    have h := h c4 c6 c8 c10 c12 c14 c16
    refine g_tableOut C 150 dX9_of_36 (by have ec4 := swn (0) (by decide) c4; have ec6 := swn (1) (by decide) c6; have ec8 := swn (2) (by decide) c8; have ec10 := swn (3) (by decide) c10; have ec12 := swn (4) (by decide) c12; have ec14 := swn (5) (by decide) c14; have ec16 := swn (6) (by decide) c16; omega) (by decide) ?_
    refine g_iconst C (-1 : Int32) dX9_of_150 ci_m1 ?_
    exact hret _ _ _ _ ⟨_, _, _, _, _, rfl, h⟩ rfl dX9_of_151
  · have h := h.2 c2
    refine g_iconst C (-1 : Int32) dX9_of_17 ci_m1 ?_
    exact hret _ _ _ _ ⟨_, _, _, _, _, rfl, h⟩ rfl dX9_of_18
set_option maxHeartbeats 4000000 in
set_option maxRecDepth 100000 in
theorem kW_of (l : Launch) (D : va_G) (ka : Nat → ClassId) (ad : Nat → Nat) (F : FT) (R : RT) (J : JT) (P : PT) (B : BT) (a1 : Int32) (a2 : Int32) (K : Int32 → FT → RT → JT → PT → BT → Prop) (h : qW_of F R J P B a1 a2 K) : MI l D ka yX9_of cX9_of 4 (some .int) 4 0 0 [.ref (ad 99), .int a1, .int a2] (wC ad ka F R J P B) (fun z w => ∃ F R J P B, w = wC ad ka F R J P B ∧ K z F R J P B) := MI_of (by decide) (Nat.le_of_ble_eq_true rfl) (fun X C hroom hret => bW_of C hret F R J P B a1 a2 h)
set_option maxHeartbeats 4000000 in
set_option maxRecDepth 100000 in
theorem miX9_of : MInf yX9_of cX9_of 4 (some .int) 2 := ⟨(gw_of tw2_100 rfl), (gw_of tw2_101 rfl), (gw_of tw1_1 rfl), (gw_of tw2_102 rfl), by decide +kernel, by decide⟩
