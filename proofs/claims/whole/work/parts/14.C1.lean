def qJ_bitCount (F : FT) (R : RT) (J : JT) (P : PT) (B : BT) (a1 : Int32) (K : Int32 → FT → RT → JT → PT → BT → Prop) : Prop :=
  K ((((((((a1 - (((a1.toUInt32 >>> ((1 : Int32).toUInt32 &&& Int32.toUInt32 31)).toInt32) &&& (1431655765 : Int32))) &&& (858993459 : Int32)) + ((((a1 - (((a1.toUInt32 >>> ((1 : Int32).toUInt32 &&& Int32.toUInt32 31)).toInt32) &&& (1431655765 : Int32))).toUInt32 >>> ((2 : Int32).toUInt32 &&& Int32.toUInt32 31)).toInt32) &&& (858993459 : Int32))) + (((((a1 - (((a1.toUInt32 >>> ((1 : Int32).toUInt32 &&& Int32.toUInt32 31)).toInt32) &&& (1431655765 : Int32))) &&& (858993459 : Int32)) + ((((a1 - (((a1.toUInt32 >>> ((1 : Int32).toUInt32 &&& Int32.toUInt32 31)).toInt32) &&& (1431655765 : Int32))).toUInt32 >>> ((2 : Int32).toUInt32 &&& Int32.toUInt32 31)).toInt32) &&& (858993459 : Int32))).toUInt32 >>> ((4 : Int32).toUInt32 &&& Int32.toUInt32 31)).toInt32)) &&& (252645135 : Int32)) + (((((((a1 - (((a1.toUInt32 >>> ((1 : Int32).toUInt32 &&& Int32.toUInt32 31)).toInt32) &&& (1431655765 : Int32))) &&& (858993459 : Int32)) + ((((a1 - (((a1.toUInt32 >>> ((1 : Int32).toUInt32 &&& Int32.toUInt32 31)).toInt32) &&& (1431655765 : Int32))).toUInt32 >>> ((2 : Int32).toUInt32 &&& Int32.toUInt32 31)).toInt32) &&& (858993459 : Int32))) + (((((a1 - (((a1.toUInt32 >>> ((1 : Int32).toUInt32 &&& Int32.toUInt32 31)).toInt32) &&& (1431655765 : Int32))) &&& (858993459 : Int32)) + ((((a1 - (((a1.toUInt32 >>> ((1 : Int32).toUInt32 &&& Int32.toUInt32 31)).toInt32) &&& (1431655765 : Int32))).toUInt32 >>> ((2 : Int32).toUInt32 &&& Int32.toUInt32 31)).toInt32) &&& (858993459 : Int32))).toUInt32 >>> ((4 : Int32).toUInt32 &&& Int32.toUInt32 31)).toInt32)) &&& (252645135 : Int32)).toUInt32 >>> ((8 : Int32).toUInt32 &&& Int32.toUInt32 31)).toInt32)) + ((((((((a1 - (((a1.toUInt32 >>> ((1 : Int32).toUInt32 &&& Int32.toUInt32 31)).toInt32) &&& (1431655765 : Int32))) &&& (858993459 : Int32)) + ((((a1 - (((a1.toUInt32 >>> ((1 : Int32).toUInt32 &&& Int32.toUInt32 31)).toInt32) &&& (1431655765 : Int32))).toUInt32 >>> ((2 : Int32).toUInt32 &&& Int32.toUInt32 31)).toInt32) &&& (858993459 : Int32))) + (((((a1 - (((a1.toUInt32 >>> ((1 : Int32).toUInt32 &&& Int32.toUInt32 31)).toInt32) &&& (1431655765 : Int32))) &&& (858993459 : Int32)) + ((((a1 - (((a1.toUInt32 >>> ((1 : Int32).toUInt32 &&& Int32.toUInt32 31)).toInt32) &&& (1431655765 : Int32))).toUInt32 >>> ((2 : Int32).toUInt32 &&& Int32.toUInt32 31)).toInt32) &&& (858993459 : Int32))).toUInt32 >>> ((4 : Int32).toUInt32 &&& Int32.toUInt32 31)).toInt32)) &&& (252645135 : Int32)) + (((((((a1 - (((a1.toUInt32 >>> ((1 : Int32).toUInt32 &&& Int32.toUInt32 31)).toInt32) &&& (1431655765 : Int32))) &&& (858993459 : Int32)) + ((((a1 - (((a1.toUInt32 >>> ((1 : Int32).toUInt32 &&& Int32.toUInt32 31)).toInt32) &&& (1431655765 : Int32))).toUInt32 >>> ((2 : Int32).toUInt32 &&& Int32.toUInt32 31)).toInt32) &&& (858993459 : Int32))) + (((((a1 - (((a1.toUInt32 >>> ((1 : Int32).toUInt32 &&& Int32.toUInt32 31)).toInt32) &&& (1431655765 : Int32))) &&& (858993459 : Int32)) + ((((a1 - (((a1.toUInt32 >>> ((1 : Int32).toUInt32 &&& Int32.toUInt32 31)).toInt32) &&& (1431655765 : Int32))).toUInt32 >>> ((2 : Int32).toUInt32 &&& Int32.toUInt32 31)).toInt32) &&& (858993459 : Int32))).toUInt32 >>> ((4 : Int32).toUInt32 &&& Int32.toUInt32 31)).toInt32)) &&& (252645135 : Int32)).toUInt32 >>> ((8 : Int32).toUInt32 &&& Int32.toUInt32 31)).toInt32)).toUInt32 >>> ((16 : Int32).toUInt32 &&& Int32.toUInt32 31)).toInt32)) &&& (63 : Int32)) F R J P B
set_option maxHeartbeats 4000000 in
set_option maxRecDepth 100000 in
theorem bJ_bitCount {X : XT} {ka : Nat → ClassId} {ad : Nat → Nat} (C : Cx X cJ6_bitCount_0f7a4 1 RJ6 (some .int) ka 1) {K : Int32 → FT → RT → JT → PT → BT → Prop} (hret : RetI X cJ6_bitCount_0f7a4 .int 0 0 (fun z w => ∃ F R J P B, w = wC ad ka F R J P B ∧ K z F R J P B)) (F : FT) (R : RT) (J : JT) (P : PT) (B : BT) (a1 : Int32) (h : qJ_bitCount F R J P B a1 K) : G X 0 0 (wC ad ka F R J P B) 0 [(0, .int a1)] [] := by
  unfold qJ_bitCount at h
  refine g_iload_n C 0 dJ6_bitCount_0f7a4_0 rfl ?_
  refine g_iload_n C 0 dJ6_bitCount_0f7a4_1 rfl ?_
  refine g_iconst C (1 : Int32) dJ6_bitCount_0f7a4_2 ci_1 ?_
  refine g_iushr C dJ6_bitCount_0f7a4_3 ?_
  refine g_ldcw C (gw_of tw3_192 rfl) dJ6_bitCount_0f7a4_4 ?_
  refine g_iand C dJ6_bitCount_0f7a4_7 ?_
  refine g_isub C dJ6_bitCount_0f7a4_8 ?_
  refine g_istore_n C [(0, .int (a1 - (((a1.toUInt32 >>> ((1 : Int32).toUInt32 &&& Int32.toUInt32 31)).toInt32) &&& (1431655765 : Int32))))] dJ6_bitCount_0f7a4_9 (by decide) rfl ?_
  refine g_iload_n C 0 dJ6_bitCount_0f7a4_10 rfl ?_
  refine g_ldcw C (gw_of tw3_193 rfl) dJ6_bitCount_0f7a4_11 ?_
  refine g_iand C dJ6_bitCount_0f7a4_14 ?_
  refine g_iload_n C 0 dJ6_bitCount_0f7a4_15 rfl ?_
  refine g_iconst C (2 : Int32) dJ6_bitCount_0f7a4_16 ci_2 ?_
  refine g_iushr C dJ6_bitCount_0f7a4_17 ?_
  refine g_ldcw C (gw_of tw3_193 rfl) dJ6_bitCount_0f7a4_18 ?_
  refine g_iand C dJ6_bitCount_0f7a4_21 ?_
  refine g_iadd C dJ6_bitCount_0f7a4_22 ?_
  refine g_istore_n C [(0, .int (((a1 - (((a1.toUInt32 >>> ((1 : Int32).toUInt32 &&& Int32.toUInt32 31)).toInt32) &&& (1431655765 : Int32))) &&& (858993459 : Int32)) + ((((a1 - (((a1.toUInt32 >>> ((1 : Int32).toUInt32 &&& Int32.toUInt32 31)).toInt32) &&& (1431655765 : Int32))).toUInt32 >>> ((2 : Int32).toUInt32 &&& Int32.toUInt32 31)).toInt32) &&& (858993459 : Int32))))] dJ6_bitCount_0f7a4_23 (by decide) rfl ?_
  refine g_iload_n C 0 dJ6_bitCount_0f7a4_24 rfl ?_
  refine g_iload_n C 0 dJ6_bitCount_0f7a4_25 rfl ?_
  refine g_iconst C (4 : Int32) dJ6_bitCount_0f7a4_26 ci_4 ?_
  refine g_iushr C dJ6_bitCount_0f7a4_27 ?_
  refine g_iadd C dJ6_bitCount_0f7a4_28 ?_
  refine g_ldcw C (gw_of tw3_194 rfl) dJ6_bitCount_0f7a4_29 ?_
  refine g_iand C dJ6_bitCount_0f7a4_32 ?_
  refine g_istore_n C [(0, .int (((((a1 - (((a1.toUInt32 >>> ((1 : Int32).toUInt32 &&& Int32.toUInt32 31)).toInt32) &&& (1431655765 : Int32))) &&& (858993459 : Int32)) + ((((a1 - (((a1.toUInt32 >>> ((1 : Int32).toUInt32 &&& Int32.toUInt32 31)).toInt32) &&& (1431655765 : Int32))).toUInt32 >>> ((2 : Int32).toUInt32 &&& Int32.toUInt32 31)).toInt32) &&& (858993459 : Int32))) + (((((a1 - (((a1.toUInt32 >>> ((1 : Int32).toUInt32 &&& Int32.toUInt32 31)).toInt32) &&& (1431655765 : Int32))) &&& (858993459 : Int32)) + ((((a1 - (((a1.toUInt32 >>> ((1 : Int32).toUInt32 &&& Int32.toUInt32 31)).toInt32) &&& (1431655765 : Int32))).toUInt32 >>> ((2 : Int32).toUInt32 &&& Int32.toUInt32 31)).toInt32) &&& (858993459 : Int32))).toUInt32 >>> ((4 : Int32).toUInt32 &&& Int32.toUInt32 31)).toInt32)) &&& (252645135 : Int32)))] dJ6_bitCount_0f7a4_33 (by decide) rfl ?_
  refine g_iload_n C 0 dJ6_bitCount_0f7a4_34 rfl ?_
  refine g_iload_n C 0 dJ6_bitCount_0f7a4_35 rfl ?_
  refine g_bipush C (8 : Int32) dJ6_bitCount_0f7a4_36 cb_8 ?_
  refine g_iushr C dJ6_bitCount_0f7a4_38 ?_
  refine g_iadd C dJ6_bitCount_0f7a4_39 ?_
  refine g_istore_n C [(0, .int ((((((a1 - (((a1.toUInt32 >>> ((1 : Int32).toUInt32 &&& Int32.toUInt32 31)).toInt32) &&& (1431655765 : Int32))) &&& (858993459 : Int32)) + ((((a1 - (((a1.toUInt32 >>> ((1 : Int32).toUInt32 &&& Int32.toUInt32 31)).toInt32) &&& (1431655765 : Int32))).toUInt32 >>> ((2 : Int32).toUInt32 &&& Int32.toUInt32 31)).toInt32) &&& (858993459 : Int32))) + (((((a1 - (((a1.toUInt32 >>> ((1 : Int32).toUInt32 &&& Int32.toUInt32 31)).toInt32) &&& (1431655765 : Int32))) &&& (858993459 : Int32)) + ((((a1 - (((a1.toUInt32 >>> ((1 : Int32).toUInt32 &&& Int32.toUInt32 31)).toInt32) &&& (1431655765 : Int32))).toUInt32 >>> ((2 : Int32).toUInt32 &&& Int32.toUInt32 31)).toInt32) &&& (858993459 : Int32))).toUInt32 >>> ((4 : Int32).toUInt32 &&& Int32.toUInt32 31)).toInt32)) &&& (252645135 : Int32)) + (((((((a1 - (((a1.toUInt32 >>> ((1 : Int32).toUInt32 &&& Int32.toUInt32 31)).toInt32) &&& (1431655765 : Int32))) &&& (858993459 : Int32)) + ((((a1 - (((a1.toUInt32 >>> ((1 : Int32).toUInt32 &&& Int32.toUInt32 31)).toInt32) &&& (1431655765 : Int32))).toUInt32 >>> ((2 : Int32).toUInt32 &&& Int32.toUInt32 31)).toInt32) &&& (858993459 : Int32))) + (((((a1 - (((a1.toUInt32 >>> ((1 : Int32).toUInt32 &&& Int32.toUInt32 31)).toInt32) &&& (1431655765 : Int32))) &&& (858993459 : Int32)) + ((((a1 - (((a1.toUInt32 >>> ((1 : Int32).toUInt32 &&& Int32.toUInt32 31)).toInt32) &&& (1431655765 : Int32))).toUInt32 >>> ((2 : Int32).toUInt32 &&& Int32.toUInt32 31)).toInt32) &&& (858993459 : Int32))).toUInt32 >>> ((4 : Int32).toUInt32 &&& Int32.toUInt32 31)).toInt32)) &&& (252645135 : Int32)).toUInt32 >>> ((8 : Int32).toUInt32 &&& Int32.toUInt32 31)).toInt32)))] dJ6_bitCount_0f7a4_40 (by decide) rfl ?_
  refine g_iload_n C 0 dJ6_bitCount_0f7a4_41 rfl ?_
  refine g_iload_n C 0 dJ6_bitCount_0f7a4_42 rfl ?_
  refine g_bipush C (16 : Int32) dJ6_bitCount_0f7a4_43 cb_16 ?_
  refine g_iushr C dJ6_bitCount_0f7a4_45 ?_
  refine g_iadd C dJ6_bitCount_0f7a4_46 ?_
  refine g_istore_n C [(0, .int (((((((a1 - (((a1.toUInt32 >>> ((1 : Int32).toUInt32 &&& Int32.toUInt32 31)).toInt32) &&& (1431655765 : Int32))) &&& (858993459 : Int32)) + ((((a1 - (((a1.toUInt32 >>> ((1 : Int32).toUInt32 &&& Int32.toUInt32 31)).toInt32) &&& (1431655765 : Int32))).toUInt32 >>> ((2 : Int32).toUInt32 &&& Int32.toUInt32 31)).toInt32) &&& (858993459 : Int32))) + (((((a1 - (((a1.toUInt32 >>> ((1 : Int32).toUInt32 &&& Int32.toUInt32 31)).toInt32) &&& (1431655765 : Int32))) &&& (858993459 : Int32)) + ((((a1 - (((a1.toUInt32 >>> ((1 : Int32).toUInt32 &&& Int32.toUInt32 31)).toInt32) &&& (1431655765 : Int32))).toUInt32 >>> ((2 : Int32).toUInt32 &&& Int32.toUInt32 31)).toInt32) &&& (858993459 : Int32))).toUInt32 >>> ((4 : Int32).toUInt32 &&& Int32.toUInt32 31)).toInt32)) &&& (252645135 : Int32)) + (((((((a1 - (((a1.toUInt32 >>> ((1 : Int32).toUInt32 &&& Int32.toUInt32 31)).toInt32) &&& (1431655765 : Int32))) &&& (858993459 : Int32)) + ((((a1 - (((a1.toUInt32 >>> ((1 : Int32).toUInt32 &&& Int32.toUInt32 31)).toInt32) &&& (1431655765 : Int32))).toUInt32 >>> ((2 : Int32).toUInt32 &&& Int32.toUInt32 31)).toInt32) &&& (858993459 : Int32))) + (((((a1 - (((a1.toUInt32 >>> ((1 : Int32).toUInt32 &&& Int32.toUInt32 31)).toInt32) &&& (1431655765 : Int32))) &&& (858993459 : Int32)) + ((((a1 - (((a1.toUInt32 >>> ((1 : Int32).toUInt32 &&& Int32.toUInt32 31)).toInt32) &&& (1431655765 : Int32))).toUInt32 >>> ((2 : Int32).toUInt32 &&& Int32.toUInt32 31)).toInt32) &&& (858993459 : Int32))).toUInt32 >>> ((4 : Int32).toUInt32 &&& Int32.toUInt32 31)).toInt32)) &&& (252645135 : Int32)).toUInt32 >>> ((8 : Int32).toUInt32 &&& Int32.toUInt32 31)).toInt32)) + ((((((((a1 - (((a1.toUInt32 >>> ((1 : Int32).toUInt32 &&& Int32.toUInt32 31)).toInt32) &&& (1431655765 : Int32))) &&& (858993459 : Int32)) + ((((a1 - (((a1.toUInt32 >>> ((1 : Int32).toUInt32 &&& Int32.toUInt32 31)).toInt32) &&& (1431655765 : Int32))).toUInt32 >>> ((2 : Int32).toUInt32 &&& Int32.toUInt32 31)).toInt32) &&& (858993459 : Int32))) + (((((a1 - (((a1.toUInt32 >>> ((1 : Int32).toUInt32 &&& Int32.toUInt32 31)).toInt32) &&& (1431655765 : Int32))) &&& (858993459 : Int32)) + ((((a1 - (((a1.toUInt32 >>> ((1 : Int32).toUInt32 &&& Int32.toUInt32 31)).toInt32) &&& (1431655765 : Int32))).toUInt32 >>> ((2 : Int32).toUInt32 &&& Int32.toUInt32 31)).toInt32) &&& (858993459 : Int32))).toUInt32 >>> ((4 : Int32).toUInt32 &&& Int32.toUInt32 31)).toInt32)) &&& (252645135 : Int32)) + (((((((a1 - (((a1.toUInt32 >>> ((1 : Int32).toUInt32 &&& Int32.toUInt32 31)).toInt32) &&& (1431655765 : Int32))) &&& (858993459 : Int32)) + ((((a1 - (((a1.toUInt32 >>> ((1 : Int32).toUInt32 &&& Int32.toUInt32 31)).toInt32) &&& (1431655765 : Int32))).toUInt32 >>> ((2 : Int32).toUInt32 &&& Int32.toUInt32 31)).toInt32) &&& (858993459 : Int32))) + (((((a1 - (((a1.toUInt32 >>> ((1 : Int32).toUInt32 &&& Int32.toUInt32 31)).toInt32) &&& (1431655765 : Int32))) &&& (858993459 : Int32)) + ((((a1 - (((a1.toUInt32 >>> ((1 : Int32).toUInt32 &&& Int32.toUInt32 31)).toInt32) &&& (1431655765 : Int32))).toUInt32 >>> ((2 : Int32).toUInt32 &&& Int32.toUInt32 31)).toInt32) &&& (858993459 : Int32))).toUInt32 >>> ((4 : Int32).toUInt32 &&& Int32.toUInt32 31)).toInt32)) &&& (252645135 : Int32)).toUInt32 >>> ((8 : Int32).toUInt32 &&& Int32.toUInt32 31)).toInt32)).toUInt32 >>> ((16 : Int32).toUInt32 &&& Int32.toUInt32 31)).toInt32)))] dJ6_bitCount_0f7a4_47 (by decide) rfl ?_
  refine g_iload_n C 0 dJ6_bitCount_0f7a4_48 rfl ?_
  refine g_bipush C (63 : Int32) dJ6_bitCount_0f7a4_49 cb_63 ?_
  refine g_iand C dJ6_bitCount_0f7a4_51 ?_
  exact hret _ _ _ _ ⟨_, _, _, _, _, rfl, h⟩ rfl dJ6_bitCount_0f7a4_52
set_option maxHeartbeats 4000000 in
set_option maxRecDepth 100000 in
theorem kJ_bitCount (l : Launch) (D : va_G) (ka : Nat → ClassId) (ad : Nat → Nat) (F : FT) (R : RT) (J : JT) (P : PT) (B : BT) (a1 : Int32) (K : Int32 → FT → RT → JT → PT → BT → Prop) (h : qJ_bitCount F R J P B a1 K) : MI l D ka yJ6_bitCount_0f7a4 cJ6_bitCount_0f7a4 1 (some .int) 1 0 0 [.int a1] (wC ad ka F R J P B) (fun z w => ∃ F R J P B, w = wC ad ka F R J P B ∧ K z F R J P B) := MI_of (by decide) (Nat.le_of_ble_eq_true rfl) (fun X C hroom hret => bJ_bitCount C hret F R J P B a1 h)
set_option maxHeartbeats 4000000 in
set_option maxRecDepth 100000 in
theorem siJ6_bitCount_0f7a4 : SInf yJ6_bitCount_0f7a4 cJ6_bitCount_0f7a4 1 (some .int) 1 := ⟨(gw_of tw3_190 rfl), (gw_of tw1_14 rfl), (gw_of tw3_191 rfl), by decide +kernel, by decide⟩

def qW_within (F : FT) (R : RT) (J : JT) (P : PT) (B : BT) (a1 : Int32) (a2 : Int32) (a3 : Int32) (K : Int32 → FT → RT → JT → PT → BT → Prop) : Prop :=
  (a1 < a2 → (K (0 : Int32) F R J P B)) ∧ (¬ a1 < a2 → ((a3 < a1 → (K (0 : Int32) F R J P B)) ∧ (¬ a3 < a1 → (K (1 : Int32) F R J P B))))
set_option maxHeartbeats 4000000 in
set_option maxRecDepth 100000 in
theorem bW_within {X : XT} {ka : Nat → ClassId} {ad : Nat → Nat} (C : Cx X cX9_within 3 RX9 (some .boolean) ka 1) {K : Int32 → FT → RT → JT → PT → BT → Prop} (hret : RetI X cX9_within .boolean 0 0 (fun z w => ∃ F R J P B, w = wC ad ka F R J P B ∧ K z F R J P B)) (F : FT) (R : RT) (J : JT) (P : PT) (B : BT) (a1 : Int32) (a2 : Int32) (a3 : Int32) (h : qW_within F R J P B a1 a2 a3 K) : G X 0 0 (wC ad ka F R J P B) 0 [(0, .int a1), (1, .int a2), (2, .int a3)] [] := by
  unfold qW_within at h
  refine g_iload_n C 0 dX9_within_0 rfl ?_
  refine g_iload_n C 1 dX9_within_1 rfl ?_
  refine g_icmp_lt C 14 dX9_within_2 (by decide) (fun c1 => ?_) (fun c1 => ?_)
  · have h := h.1 c1
    refine g_iconst C (0 : Int32) dX9_within_14 ci_0 ?_
    exact hret _ _ _ _ ⟨_, _, _, _, _, rfl, h⟩ rfl dX9_within_15
  · have h := h.2 c1
    refine g_iload_n C 0 dX9_within_5 rfl ?_
    refine g_iload_n C 2 dX9_within_6 rfl ?_
    refine g_icmp_gt C 14 dX9_within_7 (by decide) (fun c2 => ?_) (fun c2 => ?_)
    · have h := h.1 c2
      refine g_iconst C (0 : Int32) dX9_within_14 ci_0 ?_
      exact hret _ _ _ _ ⟨_, _, _, _, _, rfl, h⟩ rfl dX9_within_15
    · have h := h.2 c2
      refine g_iconst C (1 : Int32) dX9_within_10 ci_1 ?_
      refine g_goto C 15 dX9_within_11 (by decide) ?_
      exact hret _ _ _ _ ⟨_, _, _, _, _, rfl, h⟩ rfl dX9_within_15
set_option maxHeartbeats 4000000 in
set_option maxRecDepth 100000 in
theorem kW_within (l : Launch) (D : va_G) (ka : Nat → ClassId) (ad : Nat → Nat) (F : FT) (R : RT) (J : JT) (P : PT) (B : BT) (a1 : Int32) (a2 : Int32) (a3 : Int32) (K : Int32 → FT → RT → JT → PT → BT → Prop) (h : qW_within F R J P B a1 a2 a3 K) : MI l D ka yX9_within cX9_within 3 (some .boolean) 1 0 0 [.int a1, .int a2, .int a3] (wC ad ka F R J P B) (fun z w => ∃ F R J P B, w = wC ad ka F R J P B ∧ K z F R J P B) := MI_of (by decide) (Nat.le_of_ble_eq_true rfl) (fun X C hroom hret => bW_within C hret F R J P B a1 a2 a3 h)
set_option maxHeartbeats 4000000 in
set_option maxRecDepth 100000 in
theorem siX9_within : SInf yX9_within cX9_within 3 (some .boolean) 3 := ⟨(gw_of tw2_33 rfl), (gw_of tw1_1 rfl), (gw_of tw2_34 rfl), by decide +kernel, by decide⟩

def qW_isSheet (F : FT) (R : RT) (J : JT) (P : PT) (B : BT) (a1 : Int32) (K : Int32 → FT → RT → JT → PT → BT → Prop) : Prop :=
  qW_within F R J P B a1 (0 : Int32) (3 : Int32) (fun r1 F1 R1 J1 P1 B1 => isB r1 ∧ K r1 F1 R1 J1 P1 B1)
set_option maxHeartbeats 4000000 in
set_option maxRecDepth 100000 in
theorem bW_isSheet {X : XT} {ka : Nat → ClassId} {ad : Nat → Nat} (C : Cx X cX9_isSheet 1 RX9 (some .boolean) ka 2) {K : Int32 → FT → RT → JT → PT → BT → Prop} (hret : RetI X cX9_isSheet .boolean 0 0 (fun z w => ∃ F R J P B, w = wC ad ka F R J P B ∧ K z F R J P B)) (F : FT) (R : RT) (J : JT) (P : PT) (B : BT) (a1 : Int32) (h : qW_isSheet F R J P B a1 K) : G X 0 0 (wC ad ka F R J P B) 0 [(0, .int a1)] [] := by
  unfold qW_isSheet at h
  refine g_iload_n C 0 dX9_isSheet_0 rfl ?_
  refine g_iconst C (0 : Int32) dX9_isSheet_1 ci_0 ?_
  refine g_iconst C (3 : Int32) dX9_isSheet_2 ci_3 ?_
  refine g_callSi0 C (kW_within (xL X) (xD X) ka ad _ _ _ _ _ _ _ _ _ h) siX9_within (gw_of tw2_32 rfl) (by decide) rfl rfl (Nat.le_of_ble_eq_true rfl) z00 dX9_isSheet_3 (fun r1 w hw => ?_)
  obtain ⟨F1, R1, J1, P1, B1, rfl, h⟩ := hw
  exact hret _ _ _ _ ⟨_, _, _, _, _, rfl, h.2⟩ (nar_B h.1) dX9_isSheet_6
set_option maxHeartbeats 4000000 in
set_option maxRecDepth 100000 in
theorem kW_isSheet (l : Launch) (D : va_G) (ka : Nat → ClassId) (ad : Nat → Nat) (F : FT) (R : RT) (J : JT) (P : PT) (B : BT) (a1 : Int32) (K : Int32 → FT → RT → JT → PT → BT → Prop) (h : qW_isSheet F R J P B a1 K) : MI l D ka yX9_isSheet cX9_isSheet 1 (some .boolean) 2 0 0 [.int a1] (wC ad ka F R J P B) (fun z w => ∃ F R J P B, w = wC ad ka F R J P B ∧ K z F R J P B) := MI_of (by decide) (Nat.le_of_ble_eq_true rfl) (fun X C hroom hret => bW_isSheet C hret F R J P B a1 h)
set_option maxHeartbeats 4000000 in
set_option maxRecDepth 100000 in
theorem siX9_isSheet : SInf yX9_isSheet cX9_isSheet 1 (some .boolean) 1 := ⟨(gw_of tw4_8 rfl), (gw_of tw1_1 rfl), (gw_of tw4_9 rfl), by decide +kernel, by decide⟩

def qW_isLane (F : FT) (R : RT) (J : JT) (P : PT) (B : BT) (a1 : Int32) (K : Int32 → FT → RT → JT → PT → BT → Prop) : Prop :=
  qW_within F R J P B a1 (0 : Int32) (3 : Int32) (fun r1 F1 R1 J1 P1 B1 => isB r1 ∧ K r1 F1 R1 J1 P1 B1)
set_option maxHeartbeats 4000000 in
set_option maxRecDepth 100000 in
theorem bW_isLane {X : XT} {ka : Nat → ClassId} {ad : Nat → Nat} (C : Cx X cX9_isLane 1 RX9 (some .boolean) ka 2) {K : Int32 → FT → RT → JT → PT → BT → Prop} (hret : RetI X cX9_isLane .boolean 0 0 (fun z w => ∃ F R J P B, w = wC ad ka F R J P B ∧ K z F R J P B)) (F : FT) (R : RT) (J : JT) (P : PT) (B : BT) (a1 : Int32) (h : qW_isLane F R J P B a1 K) : G X 0 0 (wC ad ka F R J P B) 0 [(0, .int a1)] [] := by
  unfold qW_isLane at h
  refine g_iload_n C 0 dX9_isLane_0 rfl ?_
  refine g_iconst C (0 : Int32) dX9_isLane_1 ci_0 ?_
  refine g_iconst C (3 : Int32) dX9_isLane_2 ci_3 ?_
  refine g_callSi0 C (kW_within (xL X) (xD X) ka ad _ _ _ _ _ _ _ _ _ h) siX9_within (gw_of tw2_32 rfl) (by decide) rfl rfl (Nat.le_of_ble_eq_true rfl) z00 dX9_isLane_3 (fun r1 w hw => ?_)
  obtain ⟨F1, R1, J1, P1, B1, rfl, h⟩ := hw
  exact hret _ _ _ _ ⟨_, _, _, _, _, rfl, h.2⟩ (nar_B h.1) dX9_isLane_6
set_option maxHeartbeats 4000000 in
set_option maxRecDepth 100000 in
theorem kW_isLane (l : Launch) (D : va_G) (ka : Nat → ClassId) (ad : Nat → Nat) (F : FT) (R : RT) (J : JT) (P : PT) (B : BT) (a1 : Int32) (K : Int32 → FT → RT → JT → PT → BT → Prop) (h : qW_isLane F R J P B a1 K) : MI l D ka yX9_isLane cX9_isLane 1 (some .boolean) 2 0 0 [.int a1] (wC ad ka F R J P B) (fun z w => ∃ F R J P B, w = wC ad ka F R J P B ∧ K z F R J P B) := MI_of (by decide) (Nat.le_of_ble_eq_true rfl) (fun X C hroom hret => bW_isLane C hret F R J P B a1 h)
set_option maxHeartbeats 4000000 in
set_option maxRecDepth 100000 in
theorem siX9_isLane : SInf yX9_isLane cX9_isLane 1 (some .boolean) 1 := ⟨(gw_of tw4_11 rfl), (gw_of tw1_1 rfl), (gw_of tw4_12 rfl), by decide +kernel, by decide⟩

def qW_commonDivisor_7 : Nat → FT → RT → JT → PT → BT → Int32 → Int32 → Int32 → (Int32 → FT → RT → JT → PT → BT → Prop) → Prop
  | 0, _, _, _, _, _, _, _, _ => fun _ => False
  | n7 + 1, F, R, J, P, B, v2, v3, v4 => fun K => ((100 : Int32) ≤ v4 → (K v2 F R J P B)) ∧ (¬ (100 : Int32) ≤ v4 → ((v3 = 0 → (K v2 F R J P B)) ∧ (¬ v3 = 0 → ((¬ v3 = 0) ∧ (qW_commonDivisor_7 n7 F R J P B v3 (v2 - v2 / v3 * v3) (v4 + (1 : Int32)) K)))))
set_option maxHeartbeats 4000000 in
set_option maxRecDepth 100000 in
theorem lW_commonDivisor_7 {X : XT} {ka : Nat → ClassId} {ad : Nat → Nat} (C : Cx X cX9_commonDivisor 6 RX9 (some .int) ka 1) {K : Int32 → FT → RT → JT → PT → BT → Prop} (hret : RetI X cX9_commonDivisor .int 0 0 (fun z w => ∃ F R J P B, w = wC ad ka F R J P B ∧ K z F R J P B)) : ∀ (n : Nat) (F : FT) (R : RT) (J : JT) (P : PT) (B : BT) (v2 : Int32) (v3 : Int32) (v4 : Int32), qW_commonDivisor_7 n F R J P B v2 v3 v4 K → G X 0 0 (wC ad ka F R J P B) 7 [(2, .int v2), (3, .int v3), (4, .int v4)] [] := by
  intro n
  induction n with
  | zero => intro F R J P B v2 v3 v4 h; exact h.elim
  | succ n ih =>
    intro F R J P B v2 v3 v4 h
    refine g_iload C 2 dX9_commonDivisor_7 rfl ?_
    refine g_bipush C (100 : Int32) dX9_commonDivisor_9 cb_100 ?_
    refine g_icmp_ge C 34 dX9_commonDivisor_11 (by decide) (fun c1 => ?_) (fun c1 => ?_)
    · have h := h.1 c1
      refine g_iload_n C 0 dX9_commonDivisor_34 rfl ?_
      exact hret _ _ _ _ ⟨_, _, _, _, _, rfl, h⟩ rfl dX9_commonDivisor_35
    · have h := h.2 c1
      refine g_iload_n C 1 dX9_commonDivisor_14 rfl ?_
      refine g_if_eq C 34 dX9_commonDivisor_15 (by decide) (fun c2 => ?_) (fun c2 => ?_)
      · have h := h.1 c2
        refine g_iload_n C 0 dX9_commonDivisor_34 rfl ?_
        exact hret _ _ _ _ ⟨_, _, _, _, _, rfl, h⟩ rfl dX9_commonDivisor_35
      · have h := h.2 c2
        refine g_iload_n C 0 dX9_commonDivisor_18 rfl ?_
        refine g_iload_n C 1 dX9_commonDivisor_19 rfl ?_
        refine g_irem C dX9_commonDivisor_20 h.1 ?_
        have h := h.2
        refine g_istore C [(5, .int (v2 - v2 / v3 * v3)), (2, .int v2), (3, .int v3), (4, .int v4)] dX9_commonDivisor_21 (by decide) rfl ?_
        refine g_iload_n C 2 dX9_commonDivisor_23 rfl ?_
        refine g_istore_n C [(2, .int v3), (5, .int (v2 - v2 / v3 * v3)), (3, .int v3), (4, .int v4)] dX9_commonDivisor_24 (by decide) rfl ?_
        refine g_iload C 1 dX9_commonDivisor_25 rfl ?_
        refine g_istore_n C [(3, .int (v2 - v2 / v3 * v3)), (2, .int v3), (5, .int (v2 - v2 / v3 * v3)), (4, .int v4)] dX9_commonDivisor_27 (by decide) rfl ?_
        refine g_iinc C 3 (v4 + (1 : Int32)) [(4, .int (v4 + (1 : Int32))), (3, .int (v2 - v2 / v3 * v3)), (2, .int v3), (5, .int (v2 - v2 / v3 * v3))] dX9_commonDivisor_28 rfl (by rw [ci_1]) (by decide) rfl ?_
        refine g_goto C 7 dX9_commonDivisor_31 (by decide) ?_
        exact g_lv [2, 1, 0] rfl (ih _ _ _ _ _ _ _ _ h)
def qW_commonDivisor (F : FT) (R : RT) (J : JT) (P : PT) (B : BT) (a1 : Int32) (a2 : Int32) (K : Int32 → FT → RT → JT → PT → BT → Prop) : Prop :=
  ∃ n7, qW_commonDivisor_7 n7 F R J P B a1 a2 (0 : Int32) K
set_option maxHeartbeats 4000000 in
set_option maxRecDepth 100000 in
theorem bW_commonDivisor {X : XT} {ka : Nat → ClassId} {ad : Nat → Nat} (C : Cx X cX9_commonDivisor 6 RX9 (some .int) ka 1) {K : Int32 → FT → RT → JT → PT → BT → Prop} (hret : RetI X cX9_commonDivisor .int 0 0 (fun z w => ∃ F R J P B, w = wC ad ka F R J P B ∧ K z F R J P B)) (F : FT) (R : RT) (J : JT) (P : PT) (B : BT) (a1 : Int32) (a2 : Int32) (h : qW_commonDivisor F R J P B a1 a2 K) : G X 0 0 (wC ad ka F R J P B) 0 [(0, .int a1), (1, .int a2)] [] := by
  unfold qW_commonDivisor at h
  refine g_iload_n C 0 dX9_commonDivisor_0 rfl ?_
  refine g_istore_n C [(2, .int a1), (0, .int a1), (1, .int a2)] dX9_commonDivisor_1 (by decide) rfl ?_
  refine g_iload_n C 2 dX9_commonDivisor_2 rfl ?_
  refine g_istore_n C [(3, .int a2), (2, .int a1), (0, .int a1), (1, .int a2)] dX9_commonDivisor_3 (by decide) rfl ?_
  refine g_iconst C (0 : Int32) dX9_commonDivisor_4 ci_0 ?_
  refine g_istore C [(4, .int (0 : Int32)), (3, .int a2), (2, .int a1), (0, .int a1), (1, .int a2)] dX9_commonDivisor_5 (by decide) rfl ?_
  obtain ⟨n1, h⟩ := h
  exact g_lv [2, 1, 0] rfl (lW_commonDivisor_7 C hret n1 _ _ _ _ _ _ _ _ h)
set_option maxHeartbeats 4000000 in
set_option maxRecDepth 100000 in
theorem kW_commonDivisor (l : Launch) (D : va_G) (ka : Nat → ClassId) (ad : Nat → Nat) (F : FT) (R : RT) (J : JT) (P : PT) (B : BT) (a1 : Int32) (a2 : Int32) (K : Int32 → FT → RT → JT → PT → BT → Prop) (h : qW_commonDivisor F R J P B a1 a2 K) : MI l D ka yX9_commonDivisor cX9_commonDivisor 6 (some .int) 1 0 0 [.int a1, .int a2] (wC ad ka F R J P B) (fun z w => ∃ F R J P B, w = wC ad ka F R J P B ∧ K z F R J P B) := MI_of (by decide) (Nat.le_of_ble_eq_true rfl) (fun X C hroom hret => bW_commonDivisor C hret F R J P B a1 a2 h)
set_option maxHeartbeats 4000000 in
set_option maxRecDepth 100000 in
theorem siX9_commonDivisor : SInf yX9_commonDivisor cX9_commonDivisor 6 (some .int) 2 := ⟨(gw_of tw3_229 rfl), (gw_of tw1_1 rfl), (gw_of tw3_230 rfl), by decide +kernel, by decide⟩

def qS_isSummer (F : FT) (R : RT) (J : JT) (P : PT) (B : BT)  (K : Int32 → FT → RT → JT → PT → BT → Prop) : Prop :=
  ((F 104) < (F 101) → (K (0 : Int32) F R J P B)) ∧ (¬ (F 104) < (F 101) → (K (1 : Int32) F R J P B))
set_option maxHeartbeats 4000000 in
set_option maxRecDepth 100000 in
theorem bS_isSummer {X : XT} {ka : Nat → ClassId} {ad : Nat → Nat} (C : Cx X cX7_isSummer 1 RX7 (some .boolean) ka 1) {K : Int32 → FT → RT → JT → PT → BT → Prop} (hret : RetI X cX7_isSummer .boolean 0 0 (fun z w => ∃ F R J P B, w = wC ad ka F R J P B ∧ K z F R J P B)) (F : FT) (R : RT) (J : JT) (P : PT) (B : BT)  (h : qS_isSummer F R J P B  K) : G X 0 0 (wC ad ka F R J P B) 0 [(0, .ref (ad 199))] [] := by
  unfold qS_isSummer at h
  refine g_aload_n C 0 dX7_isSummer_0 rfl ?_
  refine Cg_X7_1_day C (v := F 104) rfl dX7_isSummer_1 ?_
  refine g_aload_n C 0 dX7_isSummer_4 rfl ?_
  refine Cg_X7_1_days C (v := F 101) rfl dX7_isSummer_5 ?_
  refine g_icmp_lt C 15 dX7_isSummer_8 (by decide) (fun c1 => ?_) (fun c1 => ?_)
  · have h := h.1 c1
    refine g_iconst C (0 : Int32) dX7_isSummer_15 ci_0 ?_
    exact hret _ _ _ _ ⟨_, _, _, _, _, rfl, h⟩ rfl dX7_isSummer_16
  · have h := h.2 c1
    refine g_iconst C (1 : Int32) dX7_isSummer_11 ci_1 ?_
    refine g_goto C 16 dX7_isSummer_12 (by decide) ?_
    exact hret _ _ _ _ ⟨_, _, _, _, _, rfl, h⟩ rfl dX7_isSummer_16
set_option maxHeartbeats 4000000 in
set_option maxRecDepth 100000 in
theorem kS_isSummer (l : Launch) (D : va_G) (ka : Nat → ClassId) (ad : Nat → Nat) (F : FT) (R : RT) (J : JT) (P : PT) (B : BT)  (K : Int32 → FT → RT → JT → PT → BT → Prop) (h : qS_isSummer F R J P B  K) : MI l D ka yX7_isSummer cX7_isSummer 1 (some .boolean) 1 0 0 [.ref (ad 199)] (wC ad ka F R J P B) (fun z w => ∃ F R J P B, w = wC ad ka F R J P B ∧ K z F R J P B) := MI_of (by decide) (Nat.le_of_ble_eq_true rfl) (fun X C hroom hret => bS_isSummer C hret F R J P B  h)
set_option maxHeartbeats 4000000 in
set_option maxRecDepth 100000 in
theorem miX7_isSummer : MInf yX7_isSummer cX7_isSummer 1 (some .boolean) 0 := ⟨(gw_of tw3_45 rfl), (gw_of tw3_46 rfl), (gw_of tw1_2 rfl), (gw_of tw3_47 rfl), by decide +kernel, by decide⟩

def qS_isUsed (F : FT) (R : RT) (J : JT) (P : PT) (B : BT) (a1 : Int32) (K : Int32 → FT → RT → JT → PT → BT → Prop) : Prop :=
  ((((F 106) >>> (a1 &&& 31)) &&& (1 : Int32)) = 0 → (K (0 : Int32) F R J P B)) ∧ (¬ (((F 106) >>> (a1 &&& 31)) &&& (1 : Int32)) = 0 → (K (1 : Int32) F R J P B))
set_option maxHeartbeats 4000000 in
set_option maxRecDepth 100000 in
theorem bS_isUsed {X : XT} {ka : Nat → ClassId} {ad : Nat → Nat} (C : Cx X cX7_isUsed 2 RX7 (some .boolean) ka 1) {K : Int32 → FT → RT → JT → PT → BT → Prop} (hret : RetI X cX7_isUsed .boolean 0 0 (fun z w => ∃ F R J P B, w = wC ad ka F R J P B ∧ K z F R J P B)) (F : FT) (R : RT) (J : JT) (P : PT) (B : BT) (a1 : Int32) (h : qS_isUsed F R J P B a1 K) : G X 0 0 (wC ad ka F R J P B) 0 [(0, .ref (ad 199)), (1, .int a1)] [] := by
  unfold qS_isUsed at h
  refine g_aload_n C 0 dX7_isUsed_0 rfl ?_
  refine Cg_X7_1_used C (v := F 106) rfl dX7_isUsed_1 ?_
  refine g_iload_n C 1 dX7_isUsed_4 rfl ?_
  refine g_ishr C dX7_isUsed_5 ?_
  refine g_iconst C (1 : Int32) dX7_isUsed_6 ci_1 ?_
  refine g_iand C dX7_isUsed_7 ?_
  refine g_if_eq C 15 dX7_isUsed_8 (by decide) (fun c1 => ?_) (fun c1 => ?_)
  · have h := h.1 c1
    refine g_iconst C (0 : Int32) dX7_isUsed_15 ci_0 ?_
    exact hret _ _ _ _ ⟨_, _, _, _, _, rfl, h⟩ rfl dX7_isUsed_16
  · have h := h.2 c1
    refine g_iconst C (1 : Int32) dX7_isUsed_11 ci_1 ?_
    refine g_goto C 16 dX7_isUsed_12 (by decide) ?_
    exact hret _ _ _ _ ⟨_, _, _, _, _, rfl, h⟩ rfl dX7_isUsed_16
set_option maxHeartbeats 4000000 in
set_option maxRecDepth 100000 in
theorem kS_isUsed (l : Launch) (D : va_G) (ka : Nat → ClassId) (ad : Nat → Nat) (F : FT) (R : RT) (J : JT) (P : PT) (B : BT) (a1 : Int32) (K : Int32 → FT → RT → JT → PT → BT → Prop) (h : qS_isUsed F R J P B a1 K) : MI l D ka yX7_isUsed cX7_isUsed 2 (some .boolean) 1 0 0 [.ref (ad 199), .int a1] (wC ad ka F R J P B) (fun z w => ∃ F R J P B, w = wC ad ka F R J P B ∧ K z F R J P B) := MI_of (by decide) (Nat.le_of_ble_eq_true rfl) (fun X C hroom hret => bS_isUsed C hret F R J P B a1 h)
set_option maxHeartbeats 4000000 in
set_option maxRecDepth 100000 in
theorem miX7_isUsed : MInf yX7_isUsed cX7_isUsed 2 (some .boolean) 1 := ⟨(gw_of tw3_77 rfl), (gw_of tw3_78 rfl), (gw_of tw1_2 rfl), (gw_of tw3_79 rfl), by decide +kernel, by decide⟩

def qS_addHindrance (F : FT) (R : RT) (J : JT) (P : PT) (B : BT) (a1 : Int32) (a2 : Int32) (K : FT → RT → JT → PT → BT → Prop) : Prop :=
  ((6 : Int32) ≤ (F 112) → (K F R J P B)) ∧ (¬ (6 : Int32) ≤ (F 112) → ((vp_in (F 112) 6) ∧ ((vp_in (F 112) 6) ∧ (K (upd F 112 ((F 112) + (1 : Int32))) (va_up (va_up R 115 (upd (R 115) ((F 112).toNatClampNeg) a1)) 116 (upd (R 116) ((F 112).toNatClampNeg) a2)) J P B))))
set_option maxHeartbeats 4000000 in
set_option maxRecDepth 100000 in
theorem bS_addHindrance {X : XT} {ka : Nat → ClassId} {ad : Nat → Nat} (C : Cx X cX7_addHindrance 3 RX7 none ka 1) {K : FT → RT → JT → PT → BT → Prop} (hret : RetV X cX7_addHindrance 0 0 (fun w => ∃ F R J P B, w = wC ad ka F R J P B ∧ K F R J P B)) (F : FT) (R : RT) (J : JT) (P : PT) (B : BT) (a1 : Int32) (a2 : Int32) (h : qS_addHindrance F R J P B a1 a2 K) : G X 0 0 (wC ad ka F R J P B) 0 [(0, .ref (ad 199)), (1, .int a1), (2, .int a2)] [] := by
  unfold qS_addHindrance at h
  refine g_aload_n C 0 dX7_addHindrance_0 rfl ?_
  refine Cg_X7_1_hindranceCount C (v := F 112) rfl dX7_addHindrance_1 ?_
  refine g_bipush C (6 : Int32) dX7_addHindrance_4 cb_6 ?_
  refine g_icmp_ge C 39 dX7_addHindrance_6 (by decide) (fun c1 => ?_) (fun c1 => ?_)
  · have h := h.1 c1
    exact hret _ _ _ ⟨_, _, _, _, _, rfl, h⟩ dX7_addHindrance_39
  · have h := h.2 c1
    refine g_aload_n C 0 dX7_addHindrance_9 rfl ?_
    refine Cg_X7_1_costs C dX7_addHindrance_10 ?_
    refine g_aload_n C 0 dX7_addHindrance_13 rfl ?_
    refine Cg_X7_1_hindranceCount C (v := F 112) rfl dX7_addHindrance_14 ?_
    refine g_iload_n C 1 dX7_addHindrance_17 rfl ?_
    refine Cs_115 C (f := R 115) rfl _ rfl h.1 dX7_addHindrance_18 ?_
    have h := h.2
    refine g_aload_n C 0 dX7_addHindrance_19 rfl ?_
    refine Cg_X7_1_oaths C dX7_addHindrance_20 ?_
    refine g_aload_n C 0 dX7_addHindrance_23 rfl ?_
    refine Cg_X7_1_hindranceCount C (v := F 112) rfl dX7_addHindrance_24 ?_
    refine g_iload_n C 2 dX7_addHindrance_27 rfl ?_
    refine Cs_116 (R := (va_up R 115 (upd (R 115) ((F 112).toNatClampNeg) a1))) C (f := R 116) rfl _ rfl h.1 dX7_addHindrance_28 ?_
    have h := h.2
    refine g_aload_n C 0 dX7_addHindrance_29 rfl ?_
    refine g_dup C dX7_addHindrance_30 rfl ?_
    refine Cg_X7_1_hindranceCount C (v := F 112) rfl dX7_addHindrance_31 ?_
    refine g_iconst C (1 : Int32) dX7_addHindrance_34 ci_1 ?_
    refine g_iadd C dX7_addHindrance_35 ?_
    refine Cp_X7_1_hindranceCount C dX7_addHindrance_36 ?_
    exact hret _ _ _ ⟨_, _, _, _, _, rfl, h⟩ dX7_addHindrance_39
set_option maxHeartbeats 4000000 in
set_option maxRecDepth 100000 in
theorem kS_addHindrance (l : Launch) (D : va_G) (ka : Nat → ClassId) (ad : Nat → Nat) (F : FT) (R : RT) (J : JT) (P : PT) (B : BT) (a1 : Int32) (a2 : Int32) (K : FT → RT → JT → PT → BT → Prop) (h : qS_addHindrance F R J P B a1 a2 K) : MV l D ka yX7_addHindrance cX7_addHindrance 3 none 1 0 0 [.ref (ad 199), .int a1, .int a2] (wC ad ka F R J P B) (fun w => ∃ F R J P B, w = wC ad ka F R J P B ∧ K F R J P B) := MV_of (by decide) (Nat.le_of_ble_eq_true rfl) (fun X C hroom hret => bS_addHindrance C hret F R J P B a1 a2 h)
set_option maxHeartbeats 4000000 in
set_option maxRecDepth 100000 in
theorem miX7_addHindrance : MInf yX7_addHindrance cX7_addHindrance 3 none 2 := ⟨(gw_of tw2_196 rfl), (gw_of tw2_197 rfl), (gw_of tw1_2 rfl), (gw_of tw2_198 rfl), by decide +kernel, by decide⟩

def qS_layTogether_6 : Nat → FT → RT → JT → PT → BT → Int32 → Int32 → Int32 → Int32 → Int32 → Int32 → (Int32 → FT → RT → JT → PT → BT → Prop) → Prop
  | 0, _, _, _, _, _, _, _, _, _, _, _ => fun _ => False
  | n6 + 1, F, R, J, P, B, v1, v2, v3, v4, v5, v6 => fun K => ((F 111) ≤ v6 → (K v5 F R J P B)) ∧ (¬ (F 111) ≤ v6 → (vp_in v6 4 ∧ ∃ b2 : Nat, P 114 v6.toNatClampNeg = some b2 ∧ ((¬ v6 = v3 → (qB_lays F R J P B b2 v1 v2 (0 : Int32) (fun r4 F4 R4 J4 P4 B4 => qS_layTogether_6 n6 F4 R4 J4 P4 B4 v1 v2 v3 v4 (v5 + r4) (v6 + (1 : Int32)) K))) ∧ (v6 = v3 → (qB_lays F R J P B b2 v1 v2 v4 (fun r5 F5 R5 J5 P5 B5 => qS_layTogether_6 n6 F5 R5 J5 P5 B5 v1 v2 v3 v4 (v5 + r5) (v6 + (1 : Int32)) K))))))
set_option maxHeartbeats 4000000 in
set_option maxRecDepth 100000 in
theorem lS_layTogether_6 {X : XT} {ka : Nat → ClassId} {ad : Nat → Nat} (C : Cx X cX7_layTogether 8 RX7 (some .int) ka 4) {K : Int32 → FT → RT → JT → PT → BT → Prop} (hret : RetI X cX7_layTogether .int 0 0 (fun z w => ∃ F R J P B, w = wC ad ka F R J P B ∧ K z F R J P B)) : ∀ (n : Nat) (F : FT) (R : RT) (J : JT) (P : PT) (B : BT) (v1 : Int32) (v2 : Int32) (v3 : Int32) (v4 : Int32) (v5 : Int32) (v6 : Int32), qS_layTogether_6 n F R J P B v1 v2 v3 v4 v5 v6 K → G X 0 0 (wC ad ka F R J P B) 6 [(0, .ref (ad 199)), (1, .int v1), (2, .int v2), (3, .int v3), (4, .int v4), (5, .int v5), (6, .int v6)] [] := by
  intro n
  induction n with
  | zero => intro F R J P B v1 v2 v3 v4 v5 v6 h; exact h.elim
  | succ n ih =>
    intro F R J P B v1 v2 v3 v4 v5 v6 h
    refine g_iload C 6 dX7_layTogether_6 rfl ?_
    refine g_aload_n C 0 dX7_layTogether_8 rfl ?_
    refine Cg_X7_1_builderCount C (v := F 111) rfl dX7_layTogether_9 ?_
    refine g_icmp_ge C 59 dX7_layTogether_12 (by decide) (fun c1 => ?_) (fun c1 => ?_)
    · have h := h.1 c1
      refine g_iload C 5 dX7_layTogether_59 rfl ?_
      exact hret _ _ _ _ ⟨_, _, _, _, _, rfl, h⟩ rfl dX7_layTogether_61
    · have h := h.2 c1
      refine g_aload_n C 0 dX7_layTogether_15 rfl ?_
      refine Cg_X7_1_builders C dX7_layTogether_16 ?_
      refine g_iload C 6 dX7_layTogether_19 rfl ?_
      obtain ⟨hi2, b2, hb2, h⟩ := h
      refine Ca_Q114 C (f := P 114) rfl hi2 hb2 dX7_layTogether_21 ?_
      refine g_astore C [(7, .ref b2), (0, .ref (ad 199)), (1, .int v1), (2, .int v2), (3, .int v3), (4, .int v4), (5, .int v5), (6, .int v6)] dX7_layTogether_22 (by decide) rfl ?_
      refine g_aload C 0 dX7_layTogether_24 rfl ?_
      refine g_ifnull C dX7_layTogether_26 ?_
      refine g_iload C 6 dX7_layTogether_29 rfl ?_
      refine g_aload C 0 dX7_layTogether_31 rfl ?_
      refine g_iload_n C 2 dX7_layTogether_33 rfl ?_
      refine g_iload_n C 3 dX7_layTogether_34 rfl ?_
      refine g_iload C 7 dX7_layTogether_35 rfl ?_
      refine g_iload_n C 4 dX7_layTogether_37 rfl ?_
      refine g_icmp_ne C 46 dX7_layTogether_38 (by decide) (fun c3 => ?_) (fun c3 => ?_)
      · have h := h.1 c3
        refine g_iconst C (0 : Int32) dX7_layTogether_46 ci_0 ?_
        refine gB_X7_lays C h (by decide) (Nat.le_of_ble_eq_true rfl) dX7_layTogether_47 (fun r4 w hw => ?_)
        obtain ⟨F4, R4, J4, P4, B4, rfl, h⟩ := hw
        refine g_iadd C dX7_layTogether_50 ?_
        refine g_istore C [(5, .int (v5 + r4)), (7, .ref b2), (0, .ref (ad 199)), (1, .int v1), (2, .int v2), (3, .int v3), (4, .int v4), (6, .int v6)] dX7_layTogether_51 (by decide) rfl ?_
        refine g_iinc C 7 (v6 + (1 : Int32)) [(6, .int (v6 + (1 : Int32))), (5, .int (v5 + r4)), (7, .ref b2), (0, .ref (ad 199)), (1, .int v1), (2, .int v2), (3, .int v3), (4, .int v4)] dX7_layTogether_53 rfl (by rw [ci_1]) (by decide) rfl ?_
        refine g_goto C 6 dX7_layTogether_56 (by decide) ?_
        exact g_lv [3, 4, 5, 6, 7, 1, 0] rfl (ih _ _ _ _ _ _ _ _ _ _ _ h)
      · have h := h.2 c3
        refine g_iload C 5 dX7_layTogether_41 rfl ?_
        refine g_goto C 47 dX7_layTogether_43 (by decide) ?_
        refine gB_X7_lays C h (by decide) (Nat.le_of_ble_eq_true rfl) dX7_layTogether_47 (fun r5 w hw => ?_)
        obtain ⟨F5, R5, J5, P5, B5, rfl, h⟩ := hw
        refine g_iadd C dX7_layTogether_50 ?_
        refine g_istore C [(5, .int (v5 + r5)), (7, .ref b2), (0, .ref (ad 199)), (1, .int v1), (2, .int v2), (3, .int v3), (4, .int v4), (6, .int v6)] dX7_layTogether_51 (by decide) rfl ?_
        refine g_iinc C 7 (v6 + (1 : Int32)) [(6, .int (v6 + (1 : Int32))), (5, .int (v5 + r5)), (7, .ref b2), (0, .ref (ad 199)), (1, .int v1), (2, .int v2), (3, .int v3), (4, .int v4)] dX7_layTogether_53 rfl (by rw [ci_1]) (by decide) rfl ?_
        refine g_goto C 6 dX7_layTogether_56 (by decide) ?_
        exact g_lv [3, 4, 5, 6, 7, 1, 0] rfl (ih _ _ _ _ _ _ _ _ _ _ _ h)
def qS_layTogether (F : FT) (R : RT) (J : JT) (P : PT) (B : BT) (a1 : Int32) (a2 : Int32) (a3 : Int32) (a4 : Int32) (K : Int32 → FT → RT → JT → PT → BT → Prop) : Prop :=
  ∃ n6, qS_layTogether_6 n6 F R J P B a1 a2 a3 a4 (0 : Int32) (0 : Int32) K
set_option maxHeartbeats 4000000 in
set_option maxRecDepth 100000 in
theorem bS_layTogether {X : XT} {ka : Nat → ClassId} {ad : Nat → Nat} (C : Cx X cX7_layTogether 8 RX7 (some .int) ka 4) {K : Int32 → FT → RT → JT → PT → BT → Prop} (hret : RetI X cX7_layTogether .int 0 0 (fun z w => ∃ F R J P B, w = wC ad ka F R J P B ∧ K z F R J P B)) (F : FT) (R : RT) (J : JT) (P : PT) (B : BT) (a1 : Int32) (a2 : Int32) (a3 : Int32) (a4 : Int32) (h : qS_layTogether F R J P B a1 a2 a3 a4 K) : G X 0 0 (wC ad ka F R J P B) 0 [(0, .ref (ad 199)), (1, .int a1), (2, .int a2), (3, .int a3), (4, .int a4)] [] := by
  unfold qS_layTogether at h
  refine g_iconst C (0 : Int32) dX7_layTogether_0 ci_0 ?_
  refine g_istore C [(5, .int (0 : Int32)), (0, .ref (ad 199)), (1, .int a1), (2, .int a2), (3, .int a3), (4, .int a4)] dX7_layTogether_1 (by decide) rfl ?_
  refine g_iconst C (0 : Int32) dX7_layTogether_3 ci_0 ?_
  refine g_istore C [(6, .int (0 : Int32)), (5, .int (0 : Int32)), (0, .ref (ad 199)), (1, .int a1), (2, .int a2), (3, .int a3), (4, .int a4)] dX7_layTogether_4 (by decide) rfl ?_
  obtain ⟨n1, h⟩ := h
  exact g_lv [2, 3, 4, 5, 6, 1, 0] rfl (lS_layTogether_6 C hret n1 _ _ _ _ _ _ _ _ _ _ _ h)
set_option maxHeartbeats 4000000 in
set_option maxRecDepth 100000 in
theorem kS_layTogether (l : Launch) (D : va_G) (ka : Nat → ClassId) (ad : Nat → Nat) (F : FT) (R : RT) (J : JT) (P : PT) (B : BT) (a1 : Int32) (a2 : Int32) (a3 : Int32) (a4 : Int32) (K : Int32 → FT → RT → JT → PT → BT → Prop) (h : qS_layTogether F R J P B a1 a2 a3 a4 K) : MI l D ka yX7_layTogether cX7_layTogether 8 (some .int) 4 0 0 [.ref (ad 199), .int a1, .int a2, .int a3, .int a4] (wC ad ka F R J P B) (fun z w => ∃ F R J P B, w = wC ad ka F R J P B ∧ K z F R J P B) := MI_of (by decide) (Nat.le_of_ble_eq_true rfl) (fun X C hroom hret => bS_layTogether C hret F R J P B a1 a2 a3 a4 h)
set_option maxHeartbeats 4000000 in
set_option maxRecDepth 100000 in
theorem miX7_layTogether : MInf yX7_layTogether cX7_layTogether 8 (some .int) 4 := ⟨(gw_of tw3_65 rfl), (gw_of tw3_66 rfl), (gw_of tw1_2 rfl), (gw_of tw3_67 rfl), by decide +kernel, by decide⟩

def qS_laidBehind (F : FT) (R : RT) (J : JT) (P : PT) (B : BT) (a1 : Int32) (a2 : Int32) (a3 : Int32) (K : Int32 → FT → RT → JT → PT → BT → Prop) : Prop :=
  qS_layTogether F R J P B a1 a2 (-1 : Int32) (0 : Int32) (fun r1 F1 R1 J1 P1 B1 => (0 < (r1 - a3) → (K (if (a2 + (r1 - a3)) < (F1 100) then (a2 + (r1 - a3)) else (F1 100)) F1 R1 J1 P1 B1)) ∧ (¬ 0 < (r1 - a3) → (K a2 F1 R1 J1 P1 B1)))
set_option maxHeartbeats 4000000 in
set_option maxRecDepth 100000 in
theorem bS_laidBehind {X : XT} {ka : Nat → ClassId} {ad : Nat → Nat} (C : Cx X cX7_laidBehind 5 RX7 (some .int) ka 5) {K : Int32 → FT → RT → JT → PT → BT → Prop} (hret : RetI X cX7_laidBehind .int 0 0 (fun z w => ∃ F R J P B, w = wC ad ka F R J P B ∧ K z F R J P B)) (F : FT) (R : RT) (J : JT) (P : PT) (B : BT) (a1 : Int32) (a2 : Int32) (a3 : Int32) (h : qS_laidBehind F R J P B a1 a2 a3 K) : G X 0 0 (wC ad ka F R J P B) 0 [(0, .ref (ad 199)), (1, .int a1), (2, .int a2), (3, .int a3)] [] := by
  unfold qS_laidBehind at h
  refine g_aload_n C 0 dX7_laidBehind_0 rfl ?_
  refine g_iload_n C 1 dX7_laidBehind_1 rfl ?_
  refine g_iload_n C 2 dX7_laidBehind_2 rfl ?_
  refine g_iconst C (-1 : Int32) dX7_laidBehind_3 ci_m1 ?_
  refine g_iconst C (0 : Int32) dX7_laidBehind_4 ci_0 ?_
  refine g_callVi0 C (kS_layTogether (xL X) (xD X) ka ad _ _ _ _ _ _ _ _ _ _ h) miX7_layTogether (gw_of tw3_64 rfl) (by decide) wC_o1 rfl rfl rfl (Nat.le_of_ble_eq_true rfl) z00 dX7_laidBehind_5 (fun r1 w hw => ?_)
  obtain ⟨F1, R1, J1, P1, B1, rfl, h⟩ := hw
  refine g_iload_n C 3 dX7_laidBehind_8 rfl ?_
  refine g_isub C dX7_laidBehind_9 ?_
  refine g_istore C [(4, .int (r1 - a3)), (0, .ref (ad 199)), (1, .int a1), (2, .int a2), (3, .int a3)] dX7_laidBehind_10 (by decide) rfl ?_
  refine g_iload C 0 dX7_laidBehind_12 rfl ?_
  refine g_if_gt C 21 dX7_laidBehind_14 (by decide) (fun c2 => ?_) (fun c2 => ?_)
  · have h := h.1 c2
    refine g_aload_n C 1 dX7_laidBehind_21 rfl ?_
    refine Cg_X7_1_stones C (v := F1 100) rfl dX7_laidBehind_22 ?_
    refine g_iload_n C 3 dX7_laidBehind_25 rfl ?_
    refine g_iload C 0 dX7_laidBehind_26 rfl ?_
    refine g_iadd C dX7_laidBehind_28 ?_
    refine g_mmin C (gw_of tw3_69 rfl) (by decide) (Nat.le_of_ble_eq_true rfl) z00 dX7_laidBehind_29 ?_
    exact hret _ _ _ _ ⟨_, _, _, _, _, rfl, h⟩ rfl dX7_laidBehind_32
  · have h := h.2 c2
    refine g_iload_n C 3 dX7_laidBehind_17 rfl ?_
    refine g_goto C 32 dX7_laidBehind_18 (by decide) ?_
    exact hret _ _ _ _ ⟨_, _, _, _, _, rfl, h⟩ rfl dX7_laidBehind_32
set_option maxHeartbeats 4000000 in
set_option maxRecDepth 100000 in
theorem kS_laidBehind (l : Launch) (D : va_G) (ka : Nat → ClassId) (ad : Nat → Nat) (F : FT) (R : RT) (J : JT) (P : PT) (B : BT) (a1 : Int32) (a2 : Int32) (a3 : Int32) (K : Int32 → FT → RT → JT → PT → BT → Prop) (h : qS_laidBehind F R J P B a1 a2 a3 K) : MI l D ka yX7_laidBehind cX7_laidBehind 5 (some .int) 5 0 0 [.ref (ad 199), .int a1, .int a2, .int a3] (wC ad ka F R J P B) (fun z w => ∃ F R J P B, w = wC ad ka F R J P B ∧ K z F R J P B) := MI_of (by decide) (Nat.le_of_ble_eq_true rfl) (fun X C hroom hret => bS_laidBehind C hret F R J P B a1 a2 a3 h)
set_option maxHeartbeats 4000000 in
set_option maxRecDepth 100000 in
theorem miX7_laidBehind : MInf yX7_laidBehind cX7_laidBehind 5 (some .int) 3 := ⟨(gw_of tw3_61 rfl), (gw_of tw3_62 rfl), (gw_of tw1_2 rfl), (gw_of tw3_63 rfl), by decide +kernel, by decide⟩

def qS_costOf_29 (k4 : FT → RT → JT → PT → BT → Int32 → Int32 → Int32 → Prop) (F : FT) (R : RT) (J : JT) (P : PT) (B : BT) (v1 : Int32) (v2 : Int32) (v3 : Int32) (K : Int32 → FT → RT → JT → PT → BT → Prop) : Prop :=
  k4 F R J P B v1 v2 (v3 + (1 : Int32))
set_option maxHeartbeats 4000000 in
set_option maxRecDepth 100000 in
theorem lS_costOf_29 {X : XT} {ka : Nat → ClassId} {ad : Nat → Nat} (C : Cx X cX7_costOf 4 RX7 (some .int) ka 1) {K : Int32 → FT → RT → JT → PT → BT → Prop} (hret : RetI X cX7_costOf .int 0 0 (fun z w => ∃ F R J P B, w = wC ad ka F R J P B ∧ K z F R J P B)) {k4 : FT → RT → JT → PT → BT → Int32 → Int32 → Int32 → Prop} (hk4 : ∀ (F : FT) (R : RT) (J : JT) (P : PT) (B : BT) (v1 : Int32) (v2 : Int32) (v3 : Int32), k4 F R J P B v1 v2 v3 → G X 0 0 (wC ad ka F R J P B) 4 [(0, .ref (ad 199)), (1, .int v1), (2, .int v2), (3, .int v3)] []) (F : FT) (R : RT) (J : JT) (P : PT) (B : BT) (v1 : Int32) (v2 : Int32) (v3 : Int32) (h : qS_costOf_29 k4 F R J P B v1 v2 v3 K) : G X 0 0 (wC ad ka F R J P B) 29 [(0, .ref (ad 199)), (1, .int v1), (2, .int v2), (3, .int v3)] [] := by
  unfold qS_costOf_29 at h
  refine g_iinc C 3 (v3 + (1 : Int32)) [(3, .int (v3 + (1 : Int32))), (0, .ref (ad 199)), (1, .int v1), (2, .int v2)] dX7_costOf_29 rfl (by rw [ci_1]) (by decide) rfl ?_
  refine g_goto C 4 dX7_costOf_32 (by decide) ?_
  exact g_lv [1, 2, 3, 0] rfl (hk4 _ _ _ _ _ _ _ _ h)
def qS_costOf_4 : Nat → FT → RT → JT → PT → BT → Int32 → Int32 → Int32 → (Int32 → FT → RT → JT → PT → BT → Prop) → Prop
  | 0, _, _, _, _, _, _, _, _ => fun _ => False
  | n4 + 1, F, R, J, P, B, v1, v2, v3 => fun K => ((F 112) ≤ v3 → (K v2 F R J P B)) ∧ (¬ (F 112) ≤ v3 → ((((v1 >>> (v3 &&& 31)) &&& (1 : Int32)) = 0 → (qS_costOf_29 (fun F R J P B v1 v2 v3 => qS_costOf_4 n4 F R J P B v1 v2 v3 K) F R J P B v1 v2 v3 K)) ∧ (¬ ((v1 >>> (v3 &&& 31)) &&& (1 : Int32)) = 0 → ((vp_in v3 6) ∧ (qS_costOf_29 (fun F R J P B v1 v2 v3 => qS_costOf_4 n4 F R J P B v1 v2 v3 K) F R J P B v1 (v2 + (R 115 v3.toNatClampNeg)) v3 K)))))
set_option maxHeartbeats 4000000 in
set_option maxRecDepth 100000 in
theorem lS_costOf_4 {X : XT} {ka : Nat → ClassId} {ad : Nat → Nat} (C : Cx X cX7_costOf 4 RX7 (some .int) ka 1) {K : Int32 → FT → RT → JT → PT → BT → Prop} (hret : RetI X cX7_costOf .int 0 0 (fun z w => ∃ F R J P B, w = wC ad ka F R J P B ∧ K z F R J P B)) : ∀ (n : Nat) (F : FT) (R : RT) (J : JT) (P : PT) (B : BT) (v1 : Int32) (v2 : Int32) (v3 : Int32), qS_costOf_4 n F R J P B v1 v2 v3 K → G X 0 0 (wC ad ka F R J P B) 4 [(0, .ref (ad 199)), (1, .int v1), (2, .int v2), (3, .int v3)] [] := by
  intro n
  induction n with
  | zero => intro F R J P B v1 v2 v3 h; exact h.elim
  | succ n ih =>
    intro F R J P B v1 v2 v3 h
    refine g_iload_n C 3 dX7_costOf_4 rfl ?_
    refine g_aload_n C 0 dX7_costOf_5 rfl ?_
    refine Cg_X7_1_hindranceCount C (v := F 112) rfl dX7_costOf_6 ?_
    refine g_icmp_ge C 35 dX7_costOf_9 (by decide) (fun c1 => ?_) (fun c1 => ?_)
    · have h := h.1 c1
      refine g_iload_n C 2 dX7_costOf_35 rfl ?_
      exact hret _ _ _ _ ⟨_, _, _, _, _, rfl, h⟩ rfl dX7_costOf_36
    · have h := h.2 c1
      refine g_iload_n C 1 dX7_costOf_12 rfl ?_
      refine g_iload_n C 3 dX7_costOf_13 rfl ?_
      refine g_ishr C dX7_costOf_14 ?_
      refine g_iconst C (1 : Int32) dX7_costOf_15 ci_1 ?_
      refine g_iand C dX7_costOf_16 ?_
      refine g_if_eq C 29 dX7_costOf_17 (by decide) (fun c2 => ?_) (fun c2 => ?_)
      · have h := h.1 c2
        exact g_lv [0, 1, 2, 3] rfl (lS_costOf_29 C hret (fun F R J P B v1 v2 v3 h => ih F R J P B v1 v2 v3 h) _ _ _ _ _ _ _ _ h)
      · have h := h.2 c2
        refine g_iload_n C 2 dX7_costOf_20 rfl ?_
        refine g_aload_n C 0 dX7_costOf_21 rfl ?_
        refine Cg_X7_1_costs C dX7_costOf_22 ?_
        refine g_iload_n C 3 dX7_costOf_25 rfl ?_
        refine Ca_115 C (f := R 115) rfl _ rfl h.1 dX7_costOf_26 ?_
        have h := h.2
        refine g_iadd C dX7_costOf_27 ?_
        refine g_istore_n C [(2, .int (v2 + (R 115 v3.toNatClampNeg))), (0, .ref (ad 199)), (1, .int v1), (3, .int v3)] dX7_costOf_28 (by decide) rfl ?_
        exact g_lv [1, 2, 0, 3] rfl (lS_costOf_29 C hret (fun F R J P B v1 v2 v3 h => ih F R J P B v1 v2 v3 h) _ _ _ _ _ _ _ _ h)
def qS_costOf (F : FT) (R : RT) (J : JT) (P : PT) (B : BT) (a1 : Int32) (K : Int32 → FT → RT → JT → PT → BT → Prop) : Prop :=
  ∃ n4, qS_costOf_4 n4 F R J P B a1 (0 : Int32) (0 : Int32) K
set_option maxHeartbeats 4000000 in
set_option maxRecDepth 100000 in
theorem bS_costOf {X : XT} {ka : Nat → ClassId} {ad : Nat → Nat} (C : Cx X cX7_costOf 4 RX7 (some .int) ka 1) {K : Int32 → FT → RT → JT → PT → BT → Prop} (hret : RetI X cX7_costOf .int 0 0 (fun z w => ∃ F R J P B, w = wC ad ka F R J P B ∧ K z F R J P B)) (F : FT) (R : RT) (J : JT) (P : PT) (B : BT) (a1 : Int32) (h : qS_costOf F R J P B a1 K) : G X 0 0 (wC ad ka F R J P B) 0 [(0, .ref (ad 199)), (1, .int a1)] [] := by
  unfold qS_costOf at h
  refine g_iconst C (0 : Int32) dX7_costOf_0 ci_0 ?_
  refine g_istore_n C [(2, .int (0 : Int32)), (0, .ref (ad 199)), (1, .int a1)] dX7_costOf_1 (by decide) rfl ?_
  refine g_iconst C (0 : Int32) dX7_costOf_2 ci_0 ?_
  refine g_istore_n C [(3, .int (0 : Int32)), (2, .int (0 : Int32)), (0, .ref (ad 199)), (1, .int a1)] dX7_costOf_3 (by decide) rfl ?_
  obtain ⟨n1, h⟩ := h
  exact g_lv [2, 3, 1, 0] rfl (lS_costOf_4 C hret n1 _ _ _ _ _ _ _ _ h)
set_option maxHeartbeats 4000000 in
set_option maxRecDepth 100000 in
theorem kS_costOf (l : Launch) (D : va_G) (ka : Nat → ClassId) (ad : Nat → Nat) (F : FT) (R : RT) (J : JT) (P : PT) (B : BT) (a1 : Int32) (K : Int32 → FT → RT → JT → PT → BT → Prop) (h : qS_costOf F R J P B a1 K) : MI l D ka yX7_costOf cX7_costOf 4 (some .int) 1 0 0 [.ref (ad 199), .int a1] (wC ad ka F R J P B) (fun z w => ∃ F R J P B, w = wC ad ka F R J P B ∧ K z F R J P B) := MI_of (by decide) (Nat.le_of_ble_eq_true rfl) (fun X C hroom hret => bS_costOf C hret F R J P B a1 h)
set_option maxHeartbeats 4000000 in
set_option maxRecDepth 100000 in
theorem miX7_costOf : MInf yX7_costOf cX7_costOf 4 (some .int) 1 := ⟨(gw_of tw3_37 rfl), (gw_of tw3_38 rfl), (gw_of tw1_2 rfl), (gw_of tw3_39 rfl), by decide +kernel, by decide⟩

def qS_costToday (F : FT) (R : RT) (J : JT) (P : PT) (B : BT)  (K : Int32 → FT → RT → JT → PT → BT → Prop) : Prop :=
  qS_costOf F R J P B (F 107) (fun r1 F1 R1 J1 P1 B1 => K r1 F1 R1 J1 P1 B1)
set_option maxHeartbeats 4000000 in
set_option maxRecDepth 100000 in
theorem bS_costToday {X : XT} {ka : Nat → ClassId} {ad : Nat → Nat} (C : Cx X cX7_costToday 1 RX7 (some .int) ka 2) {K : Int32 → FT → RT → JT → PT → BT → Prop} (hret : RetI X cX7_costToday .int 0 0 (fun z w => ∃ F R J P B, w = wC ad ka F R J P B ∧ K z F R J P B)) (F : FT) (R : RT) (J : JT) (P : PT) (B : BT)  (h : qS_costToday F R J P B  K) : G X 0 0 (wC ad ka F R J P B) 0 [(0, .ref (ad 199))] [] := by
  unfold qS_costToday at h
  refine g_aload_n C 0 dX7_costToday_0 rfl ?_
  refine g_aload_n C 0 dX7_costToday_1 rfl ?_
  refine Cg_X7_1_usedToday C (v := F 107) rfl dX7_costToday_2 ?_
  refine g_callVi0 C (kS_costOf (xL X) (xD X) ka ad _ _ _ _ _ _ _ h) miX7_costOf (gw_of tw3_36 rfl) (by decide) wC_o1 rfl rfl rfl (Nat.le_of_ble_eq_true rfl) z00 dX7_costToday_5 (fun r1 w hw => ?_)
  obtain ⟨F1, R1, J1, P1, B1, rfl, h⟩ := hw
  exact hret _ _ _ _ ⟨_, _, _, _, _, rfl, h⟩ rfl dX7_costToday_8
set_option maxHeartbeats 4000000 in
set_option maxRecDepth 100000 in
theorem kS_costToday (l : Launch) (D : va_G) (ka : Nat → ClassId) (ad : Nat → Nat) (F : FT) (R : RT) (J : JT) (P : PT) (B : BT)  (K : Int32 → FT → RT → JT → PT → BT → Prop) (h : qS_costToday F R J P B  K) : MI l D ka yX7_costToday cX7_costToday 1 (some .int) 2 0 0 [.ref (ad 199)] (wC ad ka F R J P B) (fun z w => ∃ F R J P B, w = wC ad ka F R J P B ∧ K z F R J P B) := MI_of (by decide) (Nat.le_of_ble_eq_true rfl) (fun X C hroom hret => bS_costToday C hret F R J P B  h)
set_option maxHeartbeats 4000000 in
set_option maxRecDepth 100000 in
theorem miX7_costToday : MInf yX7_costToday cX7_costToday 1 (some .int) 0 := ⟨(gw_of tw3_33 rfl), (gw_of tw3_34 rfl), (gw_of tw1_2 rfl), (gw_of tw3_35 rfl), by decide +kernel, by decide⟩

def qS_breaksSworn (F : FT) (R : RT) (J : JT) (P : PT) (B : BT) (a1 : Int32) (K : Int32 → FT → RT → JT → PT → BT → Prop) : Prop :=
  (vp_in a1 6) ∧ (((R 116 a1.toNatClampNeg) < 0 → (K (0 : Int32) F R J P B)) ∧ (¬ (R 116 a1.toNatClampNeg) < 0 → (((((F 109) >>> ((R 116 a1.toNatClampNeg) &&& 31)) &&& (1 : Int32)) = 0 → (K (0 : Int32) F R J P B)) ∧ (¬ (((F 109) >>> ((R 116 a1.toNatClampNeg) &&& 31)) &&& (1 : Int32)) = 0 → (K (1 : Int32) F R J P B)))))
set_option maxHeartbeats 4000000 in
set_option maxRecDepth 100000 in
theorem bS_breaksSworn {X : XT} {ka : Nat → ClassId} {ad : Nat → Nat} (C : Cx X cX7_breaksSworn 3 RX7 (some .boolean) ka 1) {K : Int32 → FT → RT → JT → PT → BT → Prop} (hret : RetI X cX7_breaksSworn .boolean 0 0 (fun z w => ∃ F R J P B, w = wC ad ka F R J P B ∧ K z F R J P B)) (F : FT) (R : RT) (J : JT) (P : PT) (B : BT) (a1 : Int32) (h : qS_breaksSworn F R J P B a1 K) : G X 0 0 (wC ad ka F R J P B) 0 [(0, .ref (ad 199)), (1, .int a1)] [] := by
  unfold qS_breaksSworn at h
  refine g_aload_n C 0 dX7_breaksSworn_0 rfl ?_
  refine Cg_X7_1_oaths C dX7_breaksSworn_1 ?_
  refine g_iload_n C 1 dX7_breaksSworn_4 rfl ?_
  refine Ca_116 C (f := R 116) rfl _ rfl h.1 dX7_breaksSworn_5 ?_
  have h := h.2
  refine g_istore_n C [(2, .int (R 116 a1.toNatClampNeg)), (0, .ref (ad 199)), (1, .int a1)] dX7_breaksSworn_6 (by decide) rfl ?_
  refine g_iload_n C 0 dX7_breaksSworn_7 rfl ?_
  refine g_if_lt C 26 dX7_breaksSworn_8 (by decide) (fun c1 => ?_) (fun c1 => ?_)
  · have h := h.1 c1
    refine g_iconst C (0 : Int32) dX7_breaksSworn_26 ci_0 ?_
    exact hret _ _ _ _ ⟨_, _, _, _, _, rfl, h⟩ rfl dX7_breaksSworn_27
  · have h := h.2 c1
    refine g_aload_n C 1 dX7_breaksSworn_11 rfl ?_
    refine Cg_X7_1_sworn C (v := F 109) rfl dX7_breaksSworn_12 ?_
    refine g_iload_n C 0 dX7_breaksSworn_15 rfl ?_
    refine g_ishr C dX7_breaksSworn_16 ?_
    refine g_iconst C (1 : Int32) dX7_breaksSworn_17 ci_1 ?_
    refine g_iand C dX7_breaksSworn_18 ?_
    refine g_if_eq C 26 dX7_breaksSworn_19 (by decide) (fun c2 => ?_) (fun c2 => ?_)
    · have h := h.1 c2
      refine g_iconst C (0 : Int32) dX7_breaksSworn_26 ci_0 ?_
      exact hret _ _ _ _ ⟨_, _, _, _, _, rfl, h⟩ rfl dX7_breaksSworn_27
    · have h := h.2 c2
      refine g_iconst C (1 : Int32) dX7_breaksSworn_22 ci_1 ?_
      refine g_goto C 27 dX7_breaksSworn_23 (by decide) ?_
      exact hret _ _ _ _ ⟨_, _, _, _, _, rfl, h⟩ rfl dX7_breaksSworn_27
set_option maxHeartbeats 4000000 in
set_option maxRecDepth 100000 in
theorem kS_breaksSworn (l : Launch) (D : va_G) (ka : Nat → ClassId) (ad : Nat → Nat) (F : FT) (R : RT) (J : JT) (P : PT) (B : BT) (a1 : Int32) (K : Int32 → FT → RT → JT → PT → BT → Prop) (h : qS_breaksSworn F R J P B a1 K) : MI l D ka yX7_breaksSworn cX7_breaksSworn 3 (some .boolean) 1 0 0 [.ref (ad 199), .int a1] (wC ad ka F R J P B) (fun z w => ∃ F R J P B, w = wC ad ka F R J P B ∧ K z F R J P B) := MI_of (by decide) (Nat.le_of_ble_eq_true rfl) (fun X C hroom hret => bS_breaksSworn C hret F R J P B a1 h)
set_option maxHeartbeats 4000000 in
set_option maxRecDepth 100000 in
theorem miX7_breaksSworn : MInf yX7_breaksSworn cX7_breaksSworn 3 (some .boolean) 1 := ⟨(gw_of tw3_85 rfl), (gw_of tw3_86 rfl), (gw_of tw1_2 rfl), (gw_of tw3_87 rfl), by decide +kernel, by decide⟩

def qS_forbidden_26 (k4 : FT → RT → JT → PT → BT → Int32 → Int32 → Prop) (F : FT) (R : RT) (J : JT) (P : PT) (B : BT) (v1 : Int32) (v2 : Int32) (K : Int32 → FT → RT → JT → PT → BT → Prop) : Prop :=
  k4 F R J P B v1 (v2 + (1 : Int32))
set_option maxHeartbeats 4000000 in
set_option maxRecDepth 100000 in
theorem lS_forbidden_26 {X : XT} {ka : Nat → ClassId} {ad : Nat → Nat} (C : Cx X cX7_forbidden 3 RX7 (some .int) ka 2) {K : Int32 → FT → RT → JT → PT → BT → Prop} (hret : RetI X cX7_forbidden .int 0 0 (fun z w => ∃ F R J P B, w = wC ad ka F R J P B ∧ K z F R J P B)) {k4 : FT → RT → JT → PT → BT → Int32 → Int32 → Prop} (hk4 : ∀ (F : FT) (R : RT) (J : JT) (P : PT) (B : BT) (v1 : Int32) (v2 : Int32), k4 F R J P B v1 v2 → G X 0 0 (wC ad ka F R J P B) 4 [(0, .ref (ad 199)), (1, .int v1), (2, .int v2)] []) (F : FT) (R : RT) (J : JT) (P : PT) (B : BT) (v1 : Int32) (v2 : Int32) (h : qS_forbidden_26 k4 F R J P B v1 v2 K) : G X 0 0 (wC ad ka F R J P B) 26 [(0, .ref (ad 199)), (1, .int v1), (2, .int v2)] [] := by
  unfold qS_forbidden_26 at h
  refine g_iinc C 2 (v2 + (1 : Int32)) [(2, .int (v2 + (1 : Int32))), (0, .ref (ad 199)), (1, .int v1)] dX7_forbidden_26 rfl (by rw [ci_1]) (by decide) rfl ?_
  refine g_goto C 4 dX7_forbidden_29 (by decide) ?_
  exact g_lv [1, 2, 0] rfl (hk4 _ _ _ _ _ _ _ h)
def qS_forbidden_4 : Nat → FT → RT → JT → PT → BT → Int32 → Int32 → (Int32 → FT → RT → JT → PT → BT → Prop) → Prop
  | 0, _, _, _, _, _, _, _ => fun _ => False
  | n4 + 1, F, R, J, P, B, v1, v2 => fun K => ((F 112) ≤ v2 → (K v1 F R J P B)) ∧ (¬ (F 112) ≤ v2 → (qS_breaksSworn F R J P B v2 (fun r2 F2 R2 J2 P2 B2 => (r2 = 0 → (qS_forbidden_26 (fun F R J P B v1 v2 => qS_forbidden_4 n4 F R J P B v1 v2 K) F2 R2 J2 P2 B2 v1 v2 K)) ∧ (¬ r2 = 0 → (qS_forbidden_26 (fun F R J P B v1 v2 => qS_forbidden_4 n4 F R J P B v1 v2 K) F2 R2 J2 P2 B2 (v1 ||| ((1 : Int32) <<< (v2 &&& 31))) v2 K)))))
set_option maxHeartbeats 4000000 in
set_option maxRecDepth 100000 in
theorem lS_forbidden_4 {X : XT} {ka : Nat → ClassId} {ad : Nat → Nat} (C : Cx X cX7_forbidden 3 RX7 (some .int) ka 2) {K : Int32 → FT → RT → JT → PT → BT → Prop} (hret : RetI X cX7_forbidden .int 0 0 (fun z w => ∃ F R J P B, w = wC ad ka F R J P B ∧ K z F R J P B)) : ∀ (n : Nat) (F : FT) (R : RT) (J : JT) (P : PT) (B : BT) (v1 : Int32) (v2 : Int32), qS_forbidden_4 n F R J P B v1 v2 K → G X 0 0 (wC ad ka F R J P B) 4 [(0, .ref (ad 199)), (1, .int v1), (2, .int v2)] [] := by
  intro n
  induction n with
  | zero => intro F R J P B v1 v2 h; exact h.elim
  | succ n ih =>
    intro F R J P B v1 v2 h
    refine g_iload_n C 2 dX7_forbidden_4 rfl ?_
    refine g_aload_n C 0 dX7_forbidden_5 rfl ?_
    refine Cg_X7_1_hindranceCount C (v := F 112) rfl dX7_forbidden_6 ?_
    refine g_icmp_ge C 32 dX7_forbidden_9 (by decide) (fun c1 => ?_) (fun c1 => ?_)
    · have h := h.1 c1
      refine g_iload_n C 1 dX7_forbidden_32 rfl ?_
      exact hret _ _ _ _ ⟨_, _, _, _, _, rfl, h⟩ rfl dX7_forbidden_33
    · have h := h.2 c1
      refine g_aload_n C 0 dX7_forbidden_12 rfl ?_
      refine g_iload_n C 2 dX7_forbidden_13 rfl ?_
      refine g_callVi0 C (kS_breaksSworn (xL X) (xD X) ka ad _ _ _ _ _ _ _ h) miX7_breaksSworn (gw_of tw3_84 rfl) (by decide) wC_o1 rfl rfl rfl (Nat.le_of_ble_eq_true rfl) z00 dX7_forbidden_14 (fun r2 w hw => ?_)
      obtain ⟨F2, R2, J2, P2, B2, rfl, h⟩ := hw
      refine g_if_eq C 26 dX7_forbidden_17 (by decide) (fun c3 => ?_) (fun c3 => ?_)
      · have h := h.1 c3
        exact g_lv [0, 1, 2] rfl (lS_forbidden_26 C hret (fun F R J P B v1 v2 h => ih F R J P B v1 v2 h) _ _ _ _ _ _ _ h)
      · have h := h.2 c3
        refine g_iload_n C 1 dX7_forbidden_20 rfl ?_
        refine g_iconst C (1 : Int32) dX7_forbidden_21 ci_1 ?_
        refine g_iload_n C 2 dX7_forbidden_22 rfl ?_
        refine g_ishl C dX7_forbidden_23 ?_
        refine g_ior C dX7_forbidden_24 ?_
        refine g_istore_n C [(1, .int (v1 ||| ((1 : Int32) <<< (v2 &&& 31)))), (0, .ref (ad 199)), (2, .int v2)] dX7_forbidden_25 (by decide) rfl ?_
        exact g_lv [1, 0, 2] rfl (lS_forbidden_26 C hret (fun F R J P B v1 v2 h => ih F R J P B v1 v2 h) _ _ _ _ _ _ _ h)
def qS_forbidden (F : FT) (R : RT) (J : JT) (P : PT) (B : BT)  (K : Int32 → FT → RT → JT → PT → BT → Prop) : Prop :=
  ∃ n4, qS_forbidden_4 n4 F R J P B (0 : Int32) (0 : Int32) K
set_option maxHeartbeats 4000000 in
set_option maxRecDepth 100000 in
theorem bS_forbidden {X : XT} {ka : Nat → ClassId} {ad : Nat → Nat} (C : Cx X cX7_forbidden 3 RX7 (some .int) ka 2) {K : Int32 → FT → RT → JT → PT → BT → Prop} (hret : RetI X cX7_forbidden .int 0 0 (fun z w => ∃ F R J P B, w = wC ad ka F R J P B ∧ K z F R J P B)) (F : FT) (R : RT) (J : JT) (P : PT) (B : BT)  (h : qS_forbidden F R J P B  K) : G X 0 0 (wC ad ka F R J P B) 0 [(0, .ref (ad 199))] [] := by
  unfold qS_forbidden at h
  refine g_iconst C (0 : Int32) dX7_forbidden_0 ci_0 ?_
  refine g_istore_n C [(1, .int (0 : Int32)), (0, .ref (ad 199))] dX7_forbidden_1 (by decide) rfl ?_
  refine g_iconst C (0 : Int32) dX7_forbidden_2 ci_0 ?_
  refine g_istore_n C [(2, .int (0 : Int32)), (1, .int (0 : Int32)), (0, .ref (ad 199))] dX7_forbidden_3 (by decide) rfl ?_
  obtain ⟨n1, h⟩ := h
  exact g_lv [2, 1, 0] rfl (lS_forbidden_4 C hret n1 _ _ _ _ _ _ _ h)
set_option maxHeartbeats 4000000 in
set_option maxRecDepth 100000 in
theorem kS_forbidden (l : Launch) (D : va_G) (ka : Nat → ClassId) (ad : Nat → Nat) (F : FT) (R : RT) (J : JT) (P : PT) (B : BT)  (K : Int32 → FT → RT → JT → PT → BT → Prop) (h : qS_forbidden F R J P B  K) : MI l D ka yX7_forbidden cX7_forbidden 3 (some .int) 2 0 0 [.ref (ad 199)] (wC ad ka F R J P B) (fun z w => ∃ F R J P B, w = wC ad ka F R J P B ∧ K z F R J P B) := MI_of (by decide) (Nat.le_of_ble_eq_true rfl) (fun X C hroom hret => bS_forbidden C hret F R J P B  h)
set_option maxHeartbeats 4000000 in
set_option maxRecDepth 100000 in
theorem miX7_forbidden : MInf yX7_forbidden cX7_forbidden 3 (some .int) 0 := ⟨(gw_of tw3_186 rfl), (gw_of tw3_187 rfl), (gw_of tw1_2 rfl), (gw_of tw3_188 rfl), by decide +kernel, by decide⟩

def qS_hinder (F : FT) (R : RT) (J : JT) (P : PT) (B : BT) (a1 : Int32) (K : FT → RT → JT → PT → BT → Prop) : Prop :=
  qS_breaksSworn (upd (upd F 106 ((F 106) ||| ((1 : Int32) <<< (a1 &&& 31)))) 107 ((F 107) ||| ((1 : Int32) <<< (a1 &&& 31)))) R J P B a1 (fun r1 F1 R1 J1 P1 B1 => (r1 = 0 → (K F1 R1 J1 P1 B1)) ∧ (¬ r1 = 0 → ((vp_in a1 6) ∧ (K (upd F1 108 ((F1 108) ||| ((1 : Int32) <<< ((R1 116 a1.toNatClampNeg) &&& 31)))) R1 J1 P1 B1))))
set_option maxHeartbeats 4000000 in
set_option maxRecDepth 100000 in
theorem bS_hinder {X : XT} {ka : Nat → ClassId} {ad : Nat → Nat} (C : Cx X cX7_hinder 2 RX7 none ka 2) {K : FT → RT → JT → PT → BT → Prop} (hret : RetV X cX7_hinder 0 0 (fun w => ∃ F R J P B, w = wC ad ka F R J P B ∧ K F R J P B)) (F : FT) (R : RT) (J : JT) (P : PT) (B : BT) (a1 : Int32) (h : qS_hinder F R J P B a1 K) : G X 0 0 (wC ad ka F R J P B) 0 [(0, .ref (ad 199)), (1, .int a1)] [] := by
  unfold qS_hinder at h
  refine g_aload_n C 0 dX7_hinder_0 rfl ?_
  refine g_dup C dX7_hinder_1 rfl ?_
  refine Cg_X7_1_used C (v := F 106) rfl dX7_hinder_2 ?_
  refine g_iconst C (1 : Int32) dX7_hinder_5 ci_1 ?_
  refine g_iload_n C 1 dX7_hinder_6 rfl ?_
  refine g_ishl C dX7_hinder_7 ?_
  refine g_ior C dX7_hinder_8 ?_
  refine Cp_X7_1_used C dX7_hinder_9 ?_
  refine g_aload_n C 0 dX7_hinder_12 rfl ?_
  refine g_dup C dX7_hinder_13 rfl ?_
  refine Cg_X7_1_usedToday (F := (upd F 106 ((F 106) ||| ((1 : Int32) <<< (a1 &&& 31))))) C (v := F 107) rfl dX7_hinder_14 ?_
  refine g_iconst C (1 : Int32) dX7_hinder_17 ci_1 ?_
  refine g_iload_n C 1 dX7_hinder_18 rfl ?_
  refine g_ishl C dX7_hinder_19 ?_
  refine g_ior C dX7_hinder_20 ?_
  refine Cp_X7_1_usedToday C dX7_hinder_21 ?_
  refine g_aload_n C 0 dX7_hinder_24 rfl ?_
  refine g_iload_n C 1 dX7_hinder_25 rfl ?_
  refine g_callVi0 C (kS_breaksSworn (xL X) (xD X) ka ad _ _ _ _ _ _ _ h) miX7_breaksSworn (gw_of tw3_84 rfl) (by decide) wC_o1 rfl rfl rfl (Nat.le_of_ble_eq_true rfl) z00 dX7_hinder_26 (fun r1 w hw => ?_)
  obtain ⟨F1, R1, J1, P1, B1, rfl, h⟩ := hw
  refine g_if_eq C 49 dX7_hinder_29 (by decide) (fun c2 => ?_) (fun c2 => ?_)
  · have h := h.1 c2
    exact hret _ _ _ ⟨_, _, _, _, _, rfl, h⟩ dX7_hinder_49
  · have h := h.2 c2
    refine g_aload_n C 0 dX7_hinder_32 rfl ?_
    refine g_dup C dX7_hinder_33 rfl ?_
    refine Cg_X7_1_broken C (v := F1 108) rfl dX7_hinder_34 ?_
    refine g_iconst C (1 : Int32) dX7_hinder_37 ci_1 ?_
    refine g_aload_n C 0 dX7_hinder_38 rfl ?_
    refine Cg_X7_1_oaths C dX7_hinder_39 ?_
    refine g_iload_n C 1 dX7_hinder_42 rfl ?_
    refine Ca_116 C (f := R1 116) rfl _ rfl h.1 dX7_hinder_43 ?_
    have h := h.2
    refine g_ishl C dX7_hinder_44 ?_
    refine g_ior C dX7_hinder_45 ?_
    refine Cp_X7_1_broken C dX7_hinder_46 ?_
    exact hret _ _ _ ⟨_, _, _, _, _, rfl, h⟩ dX7_hinder_49
set_option maxHeartbeats 4000000 in
set_option maxRecDepth 100000 in
theorem kS_hinder (l : Launch) (D : va_G) (ka : Nat → ClassId) (ad : Nat → Nat) (F : FT) (R : RT) (J : JT) (P : PT) (B : BT) (a1 : Int32) (K : FT → RT → JT → PT → BT → Prop) (h : qS_hinder F R J P B a1 K) : MV l D ka yX7_hinder cX7_hinder 2 none 2 0 0 [.ref (ad 199), .int a1] (wC ad ka F R J P B) (fun w => ∃ F R J P B, w = wC ad ka F R J P B ∧ K F R J P B) := MV_of (by decide) (Nat.le_of_ble_eq_true rfl) (fun X C hroom hret => bS_hinder C hret F R J P B a1 h)
set_option maxHeartbeats 4000000 in
set_option maxRecDepth 100000 in
theorem miX7_hinder : MInf yX7_hinder cX7_hinder 2 none 1 := ⟨(gw_of tw3_81 rfl), (gw_of tw3_82 rfl), (gw_of tw1_2 rfl), (gw_of tw3_83 rfl), by decide +kernel, by decide⟩

def qS_pass (F : FT) (R : RT) (J : JT) (P : PT) (B : BT) (a1 : Int32) (K : Int32 → FT → RT → JT → PT → BT → Prop) : Prop :=
  qS_costToday F R J P B (fun r1 F1 R1 J1 P1 B1 => qS_laidBehind F1 R1 J1 P1 B1 a1 (F 105) r1 (fun r2 F2 R2 J2 P2 B2 => K (r2 - (F 105)) (upd (upd (upd F2 105 r2) 107 (0 : Int32)) 104 ((F2 104) + (1 : Int32))) R2 J2 P2 B2))
set_option maxHeartbeats 4000000 in
set_option maxRecDepth 100000 in
theorem bS_pass {X : XT} {ka : Nat → ClassId} {ad : Nat → Nat} (C : Cx X cX7_pass 3 RX7 (some .int) ka 6) {K : Int32 → FT → RT → JT → PT → BT → Prop} (hret : RetI X cX7_pass .int 0 0 (fun z w => ∃ F R J P B, w = wC ad ka F R J P B ∧ K z F R J P B)) (F : FT) (R : RT) (J : JT) (P : PT) (B : BT) (a1 : Int32) (h : qS_pass F R J P B a1 K) : G X 0 0 (wC ad ka F R J P B) 0 [(0, .ref (ad 199)), (1, .int a1)] [] := by
  unfold qS_pass at h
  refine g_aload_n C 0 dX7_pass_0 rfl ?_
  refine Cg_X7_1_laid C (v := F 105) rfl dX7_pass_1 ?_
  refine g_istore_n C [(2, .int (F 105)), (0, .ref (ad 199)), (1, .int a1)] dX7_pass_4 (by decide) rfl ?_
  refine g_aload_n C 1 dX7_pass_5 rfl ?_
  refine g_aload_n C 1 dX7_pass_6 rfl ?_
  refine g_iload_n C 2 dX7_pass_7 rfl ?_
  refine g_iload_n C 0 dX7_pass_8 rfl ?_
  refine g_aload_n C 1 dX7_pass_9 rfl ?_
  refine g_callVi0 C (kS_costToday (xL X) (xD X) ka ad _ _ _ _ _ _ h) miX7_costToday (gw_of tw3_59 rfl) (by decide) wC_o1 rfl rfl rfl (Nat.le_of_ble_eq_true rfl) z00 dX7_pass_10 (fun r1 w hw => ?_)
  obtain ⟨F1, R1, J1, P1, B1, rfl, h⟩ := hw
  refine g_callVi0 C (kS_laidBehind (xL X) (xD X) ka ad _ _ _ _ _ _ _ _ _ h) miX7_laidBehind (gw_of tw3_60 rfl) (by decide) wC_o1 rfl rfl rfl (Nat.le_of_ble_eq_true rfl) z00 dX7_pass_13 (fun r2 w hw => ?_)
  obtain ⟨F2, R2, J2, P2, B2, rfl, h⟩ := hw
  refine Cp_X7_1_laid C dX7_pass_16 ?_
  refine g_aload_n C 1 dX7_pass_19 rfl ?_
  refine g_iconst C (0 : Int32) dX7_pass_20 ci_0 ?_
  refine Cp_X7_1_usedToday C dX7_pass_21 ?_
  refine g_aload_n C 1 dX7_pass_24 rfl ?_
  refine g_dup C dX7_pass_25 rfl ?_
  refine Cg_X7_1_day (F := (upd (upd F2 105 r2) 107 (0 : Int32))) C (v := F2 104) rfl dX7_pass_26 ?_
  refine g_iconst C (1 : Int32) dX7_pass_29 ci_1 ?_
  refine g_iadd C dX7_pass_30 ?_
  refine Cp_X7_1_day C dX7_pass_31 ?_
  refine g_aload_n C 1 dX7_pass_34 rfl ?_
  refine Cg_X7_1_laid (F := (upd (upd (upd F2 105 r2) 107 (0 : Int32)) 104 ((F2 104) + (1 : Int32)))) C (v := r2) rfl dX7_pass_35 ?_
  refine g_iload_n C 0 dX7_pass_38 rfl ?_
  refine g_isub C dX7_pass_39 ?_
  exact hret _ _ _ _ ⟨_, _, _, _, _, rfl, h⟩ rfl dX7_pass_40
set_option maxHeartbeats 4000000 in
set_option maxRecDepth 100000 in
theorem kS_pass (l : Launch) (D : va_G) (ka : Nat → ClassId) (ad : Nat → Nat) (F : FT) (R : RT) (J : JT) (P : PT) (B : BT) (a1 : Int32) (K : Int32 → FT → RT → JT → PT → BT → Prop) (h : qS_pass F R J P B a1 K) : MI l D ka yX7_pass cX7_pass 3 (some .int) 6 0 0 [.ref (ad 199), .int a1] (wC ad ka F R J P B) (fun z w => ∃ F R J P B, w = wC ad ka F R J P B ∧ K z F R J P B) := MI_of (by decide) (Nat.le_of_ble_eq_true rfl) (fun X C hroom hret => bS_pass C hret F R J P B a1 h)
set_option maxHeartbeats 4000000 in
set_option maxRecDepth 100000 in
theorem miX7_pass : MInf yX7_pass cX7_pass 3 (some .int) 1 := ⟨(gw_of tw3_56 rfl), (gw_of tw3_57 rfl), (gw_of tw1_2 rfl), (gw_of tw3_58 rfl), by decide +kernel, by decide⟩

def qS_drawWeather (F : FT) (R : RT) (J : JT) (P : PT) (B : BT)  (K : Int32 → FT → RT → JT → PT → BT → Prop) : Prop :=
  ((F 102) ≤ ((((((((F 110).toInt64) * (1103515245 : Int64)) + (12345 : Int64)) &&& (2147483647 : Int64)).toInt32) / (65536 : Int32)) - (((((((F 110).toInt64) * (1103515245 : Int64)) + (12345 : Int64)) &&& (2147483647 : Int64)).toInt32) / (65536 : Int32)) / (10 : Int32) * (10 : Int32)) → ((((F 102) + (F 103)) ≤ ((((((((F 110).toInt64) * (1103515245 : Int64)) + (12345 : Int64)) &&& (2147483647 : Int64)).toInt32) / (65536 : Int32)) - (((((((F 110).toInt64) * (1103515245 : Int64)) + (12345 : Int64)) &&& (2147483647 : Int64)).toInt32) / (65536 : Int32)) / (10 : Int32) * (10 : Int32)) → (K (0 : Int32) (upd F 110 ((((((F 110).toInt64) * (1103515245 : Int64)) + (12345 : Int64)) &&& (2147483647 : Int64)).toInt32)) R J P B)) ∧ (¬ ((F 102) + (F 103)) ≤ ((((((((F 110).toInt64) * (1103515245 : Int64)) + (12345 : Int64)) &&& (2147483647 : Int64)).toInt32) / (65536 : Int32)) - (((((((F 110).toInt64) * (1103515245 : Int64)) + (12345 : Int64)) &&& (2147483647 : Int64)).toInt32) / (65536 : Int32)) / (10 : Int32) * (10 : Int32)) → (K (2 : Int32) (upd F 110 ((((((F 110).toInt64) * (1103515245 : Int64)) + (12345 : Int64)) &&& (2147483647 : Int64)).toInt32)) R J P B)))) ∧ (¬ (F 102) ≤ ((((((((F 110).toInt64) * (1103515245 : Int64)) + (12345 : Int64)) &&& (2147483647 : Int64)).toInt32) / (65536 : Int32)) - (((((((F 110).toInt64) * (1103515245 : Int64)) + (12345 : Int64)) &&& (2147483647 : Int64)).toInt32) / (65536 : Int32)) / (10 : Int32) * (10 : Int32)) → (K (1 : Int32) (upd F 110 ((((((F 110).toInt64) * (1103515245 : Int64)) + (12345 : Int64)) &&& (2147483647 : Int64)).toInt32)) R J P B))
set_option maxHeartbeats 4000000 in
set_option maxRecDepth 100000 in
theorem bS_drawWeather {X : XT} {ka : Nat → ClassId} {ad : Nat → Nat} (C : Cx X cX7_drawWeather 2 RX7 (some .int) ka 1) {K : Int32 → FT → RT → JT → PT → BT → Prop} (hret : RetI X cX7_drawWeather .int 0 0 (fun z w => ∃ F R J P B, w = wC ad ka F R J P B ∧ K z F R J P B)) (F : FT) (R : RT) (J : JT) (P : PT) (B : BT)  (h : qS_drawWeather F R J P B  K) : G X 0 0 (wC ad ka F R J P B) 0 [(0, .ref (ad 199))] [] := by
  unfold qS_drawWeather at h
  refine g_aload_n C 0 dX7_drawWeather_0 rfl ?_
  refine g_aload_n C 0 dX7_drawWeather_1 rfl ?_
  refine Cg_X7_1_draw C (v := F 110) rfl dX7_drawWeather_2 ?_
  refine g_i2l C dX7_drawWeather_5 ?_
  refine g_ldc2 C (gw_of tw3_96 rfl) dX7_drawWeather_6 ?_
  refine g_lmul C dX7_drawWeather_9 ?_
  refine g_ldc2 C (gw_of tw3_97 rfl) dX7_drawWeather_10 ?_
  refine g_ladd C dX7_drawWeather_13 ?_
  refine g_ldc2 C (gw_of tw3_98 rfl) dX7_drawWeather_14 ?_
  refine g_land C dX7_drawWeather_17 ?_
  refine g_l2i C dX7_drawWeather_18 ?_
  refine Cp_X7_1_draw C dX7_drawWeather_19 ?_
  refine g_aload_n C 0 dX7_drawWeather_22 rfl ?_
  refine Cg_X7_1_draw (F := (upd F 110 ((((((F 110).toInt64) * (1103515245 : Int64)) + (12345 : Int64)) &&& (2147483647 : Int64)).toInt32))) C (v := (((((F 110).toInt64) * (1103515245 : Int64)) + (12345 : Int64)) &&& (2147483647 : Int64)).toInt32) rfl dX7_drawWeather_23 ?_
  refine g_ldc C (gw_of tw3_99 rfl) dX7_drawWeather_26 ?_
  refine g_idiv C dX7_drawWeather_28 (by decide) ?_
  refine g_bipush C (10 : Int32) dX7_drawWeather_29 cb_10 ?_
  refine g_irem C dX7_drawWeather_31 (by decide) ?_
  refine g_istore_n C [(1, .int ((((((((F 110).toInt64) * (1103515245 : Int64)) + (12345 : Int64)) &&& (2147483647 : Int64)).toInt32) / (65536 : Int32)) - (((((((F 110).toInt64) * (1103515245 : Int64)) + (12345 : Int64)) &&& (2147483647 : Int64)).toInt32) / (65536 : Int32)) / (10 : Int32) * (10 : Int32))), (0, .ref (ad 199))] dX7_drawWeather_32 (by decide) rfl ?_
  refine g_iload_n C 0 dX7_drawWeather_33 rfl ?_
  refine g_aload_n C 1 dX7_drawWeather_34 rfl ?_
  refine Cg_X7_1_frost (F := (upd F 110 ((((((F 110).toInt64) * (1103515245 : Int64)) + (12345 : Int64)) &&& (2147483647 : Int64)).toInt32))) C (v := F 102) rfl dX7_drawWeather_35 ?_
  refine g_icmp_ge C 43 dX7_drawWeather_38 (by decide) (fun c1 => ?_) (fun c1 => ?_)
  · have h := h.1 c1
    refine g_iload_n C 0 dX7_drawWeather_43 rfl ?_
    refine g_aload_n C 1 dX7_drawWeather_44 rfl ?_
    refine Cg_X7_1_frost (F := (upd F 110 ((((((F 110).toInt64) * (1103515245 : Int64)) + (12345 : Int64)) &&& (2147483647 : Int64)).toInt32))) C (v := F 102) rfl dX7_drawWeather_45 ?_
    refine g_aload_n C 1 dX7_drawWeather_48 rfl ?_
    refine Cg_X7_1_thaw (F := (upd F 110 ((((((F 110).toInt64) * (1103515245 : Int64)) + (12345 : Int64)) &&& (2147483647 : Int64)).toInt32))) C (v := F 103) rfl dX7_drawWeather_49 ?_
    refine g_iadd C dX7_drawWeather_52 ?_
    refine g_icmp_ge C 60 dX7_drawWeather_53 (by decide) (fun c2 => ?_) (fun c2 => ?_)
    · have h := h.1 c2
      refine g_iconst C (0 : Int32) dX7_drawWeather_60 ci_0 ?_
      exact hret _ _ _ _ ⟨_, _, _, _, _, rfl, h⟩ rfl dX7_drawWeather_61
    · have h := h.2 c2
      refine g_iconst C (2 : Int32) dX7_drawWeather_56 ci_2 ?_
      refine g_goto C 61 dX7_drawWeather_57 (by decide) ?_
      exact hret _ _ _ _ ⟨_, _, _, _, _, rfl, h⟩ rfl dX7_drawWeather_61
  · have h := h.2 c1
    refine g_iconst C (1 : Int32) dX7_drawWeather_41 ci_1 ?_
    exact hret _ _ _ _ ⟨_, _, _, _, _, rfl, h⟩ rfl dX7_drawWeather_42
set_option maxHeartbeats 4000000 in
set_option maxRecDepth 100000 in
theorem kS_drawWeather (l : Launch) (D : va_G) (ka : Nat → ClassId) (ad : Nat → Nat) (F : FT) (R : RT) (J : JT) (P : PT) (B : BT)  (K : Int32 → FT → RT → JT → PT → BT → Prop) (h : qS_drawWeather F R J P B  K) : MI l D ka yX7_drawWeather cX7_drawWeather 2 (some .int) 1 0 0 [.ref (ad 199)] (wC ad ka F R J P B) (fun z w => ∃ F R J P B, w = wC ad ka F R J P B ∧ K z F R J P B) := MI_of (by decide) (Nat.le_of_ble_eq_true rfl) (fun X C hroom hret => bS_drawWeather C hret F R J P B  h)
set_option maxHeartbeats 4000000 in
set_option maxRecDepth 100000 in
theorem miX7_drawWeather : MInf yX7_drawWeather cX7_drawWeather 2 (some .int) 0 := ⟨(gw_of tw3_93 rfl), (gw_of tw3_94 rfl), (gw_of tw1_2 rfl), (gw_of tw3_95 rfl), by decide +kernel, by decide⟩

def qS_remember_31 (F : FT) (R : RT) (J : JT) (P : PT) (B : BT)  (K : FT → RT → JT → PT → BT → Prop) : Prop :=
  (vp_in ((F 113) * (6 : Int32)) 48) ∧ ((vp_in (((F 113) * (6 : Int32)) + (1 : Int32)) 48) ∧ ((vp_in (((F 113) * (6 : Int32)) + (2 : Int32)) 48) ∧ ((vp_in (((F 113) * (6 : Int32)) + (3 : Int32)) 48) ∧ ((vp_in (((F 113) * (6 : Int32)) + (4 : Int32)) 48) ∧ ((vp_in (((F 113) * (6 : Int32)) + (5 : Int32)) 48) ∧ (K (upd F 113 ((F 113) + (1 : Int32))) (va_up (va_up (va_up (va_up (va_up (va_up R 117 (upd (R 117) (((F 113) * (6 : Int32)).toNatClampNeg) (F 104))) 117 (upd (upd (R 117) (((F 113) * (6 : Int32)).toNatClampNeg) (F 104)) ((((F 113) * (6 : Int32)) + (1 : Int32)).toNatClampNeg) (F 105))) 117 (upd (upd (upd (R 117) (((F 113) * (6 : Int32)).toNatClampNeg) (F 104)) ((((F 113) * (6 : Int32)) + (1 : Int32)).toNatClampNeg) (F 105)) ((((F 113) * (6 : Int32)) + (2 : Int32)).toNatClampNeg) (F 106))) 117 (upd (upd (upd (upd (R 117) (((F 113) * (6 : Int32)).toNatClampNeg) (F 104)) ((((F 113) * (6 : Int32)) + (1 : Int32)).toNatClampNeg) (F 105)) ((((F 113) * (6 : Int32)) + (2 : Int32)).toNatClampNeg) (F 106)) ((((F 113) * (6 : Int32)) + (3 : Int32)).toNatClampNeg) (F 107))) 117 (upd (upd (upd (upd (upd (R 117) (((F 113) * (6 : Int32)).toNatClampNeg) (F 104)) ((((F 113) * (6 : Int32)) + (1 : Int32)).toNatClampNeg) (F 105)) ((((F 113) * (6 : Int32)) + (2 : Int32)).toNatClampNeg) (F 106)) ((((F 113) * (6 : Int32)) + (3 : Int32)).toNatClampNeg) (F 107)) ((((F 113) * (6 : Int32)) + (4 : Int32)).toNatClampNeg) (F 108))) 117 (upd (upd (upd (upd (upd (upd (R 117) (((F 113) * (6 : Int32)).toNatClampNeg) (F 104)) ((((F 113) * (6 : Int32)) + (1 : Int32)).toNatClampNeg) (F 105)) ((((F 113) * (6 : Int32)) + (2 : Int32)).toNatClampNeg) (F 106)) ((((F 113) * (6 : Int32)) + (3 : Int32)).toNatClampNeg) (F 107)) ((((F 113) * (6 : Int32)) + (4 : Int32)).toNatClampNeg) (F 108)) ((((F 113) * (6 : Int32)) + (5 : Int32)).toNatClampNeg) (F 110))) J P B))))))
set_option maxHeartbeats 4000000 in
set_option maxRecDepth 100000 in
theorem lS_remember_31 {X : XT} {ka : Nat → ClassId} {ad : Nat → Nat} (C : Cx X cX7_remember 2 RX7 none ka 1) {K : FT → RT → JT → PT → BT → Prop} (hret : RetV X cX7_remember 0 0 (fun w => ∃ F R J P B, w = wC ad ka F R J P B ∧ K F R J P B)) (F : FT) (R : RT) (J : JT) (P : PT) (B : BT)  (h : qS_remember_31 F R J P B  K) : G X 0 0 (wC ad ka F R J P B) 31 [(0, .ref (ad 199))] [] := by
  unfold qS_remember_31 at h
  refine g_aload_n C 0 dX7_remember_31 rfl ?_
  refine Cg_X7_1_pastCount C (v := F 113) rfl dX7_remember_32 ?_
  refine g_bipush C (6 : Int32) dX7_remember_35 cb_6 ?_
  refine g_imul C dX7_remember_37 ?_
  refine g_istore_n C [(1, .int ((F 113) * (6 : Int32))), (0, .ref (ad 199))] dX7_remember_38 (by decide) rfl ?_
  refine g_aload_n C 1 dX7_remember_39 rfl ?_
  refine Cg_X7_1_past C dX7_remember_40 ?_
  refine g_iload_n C 0 dX7_remember_43 rfl ?_
  refine g_aload_n C 1 dX7_remember_44 rfl ?_
  refine Cg_X7_1_day C (v := F 104) rfl dX7_remember_45 ?_
  refine Cs_117 C (f := R 117) rfl _ rfl h.1 dX7_remember_48 ?_
  have h := h.2
  refine g_aload_n C 1 dX7_remember_49 rfl ?_
  refine Cg_X7_1_past C dX7_remember_50 ?_
  refine g_iload_n C 0 dX7_remember_53 rfl ?_
  refine g_iconst C (1 : Int32) dX7_remember_54 ci_1 ?_
  refine g_iadd C dX7_remember_55 ?_
  refine g_aload_n C 1 dX7_remember_56 rfl ?_
  refine Cg_X7_1_laid C (v := F 105) rfl dX7_remember_57 ?_
  refine Cs_117 (R := (va_up R 117 (upd (R 117) (((F 113) * (6 : Int32)).toNatClampNeg) (F 104)))) C (f := upd (R 117) (((F 113) * (6 : Int32)).toNatClampNeg) (F 104)) rfl _ rfl h.1 dX7_remember_60 ?_
  have h := h.2
  refine g_aload_n C 1 dX7_remember_61 rfl ?_
  refine Cg_X7_1_past C dX7_remember_62 ?_
  refine g_iload_n C 0 dX7_remember_65 rfl ?_
  refine g_iconst C (2 : Int32) dX7_remember_66 ci_2 ?_
  refine g_iadd C dX7_remember_67 ?_
  refine g_aload_n C 1 dX7_remember_68 rfl ?_
  refine Cg_X7_1_used C (v := F 106) rfl dX7_remember_69 ?_
  refine Cs_117 (R := (va_up (va_up R 117 (upd (R 117) (((F 113) * (6 : Int32)).toNatClampNeg) (F 104))) 117 (upd (upd (R 117) (((F 113) * (6 : Int32)).toNatClampNeg) (F 104)) ((((F 113) * (6 : Int32)) + (1 : Int32)).toNatClampNeg) (F 105)))) C (f := upd (upd (R 117) (((F 113) * (6 : Int32)).toNatClampNeg) (F 104)) ((((F 113) * (6 : Int32)) + (1 : Int32)).toNatClampNeg) (F 105)) rfl _ rfl h.1 dX7_remember_72 ?_
  have h := h.2
  refine g_aload_n C 1 dX7_remember_73 rfl ?_
  refine Cg_X7_1_past C dX7_remember_74 ?_
  refine g_iload_n C 0 dX7_remember_77 rfl ?_
  refine g_iconst C (3 : Int32) dX7_remember_78 ci_3 ?_
  refine g_iadd C dX7_remember_79 ?_
  refine g_aload_n C 1 dX7_remember_80 rfl ?_
  refine Cg_X7_1_usedToday C (v := F 107) rfl dX7_remember_81 ?_
  refine Cs_117 (R := (va_up (va_up (va_up R 117 (upd (R 117) (((F 113) * (6 : Int32)).toNatClampNeg) (F 104))) 117 (upd (upd (R 117) (((F 113) * (6 : Int32)).toNatClampNeg) (F 104)) ((((F 113) * (6 : Int32)) + (1 : Int32)).toNatClampNeg) (F 105))) 117 (upd (upd (upd (R 117) (((F 113) * (6 : Int32)).toNatClampNeg) (F 104)) ((((F 113) * (6 : Int32)) + (1 : Int32)).toNatClampNeg) (F 105)) ((((F 113) * (6 : Int32)) + (2 : Int32)).toNatClampNeg) (F 106)))) C (f := upd (upd (upd (R 117) (((F 113) * (6 : Int32)).toNatClampNeg) (F 104)) ((((F 113) * (6 : Int32)) + (1 : Int32)).toNatClampNeg) (F 105)) ((((F 113) * (6 : Int32)) + (2 : Int32)).toNatClampNeg) (F 106)) rfl _ rfl h.1 dX7_remember_84 ?_
  have h := h.2
  refine g_aload_n C 1 dX7_remember_85 rfl ?_
  refine Cg_X7_1_past C dX7_remember_86 ?_
  refine g_iload_n C 0 dX7_remember_89 rfl ?_
  refine g_iconst C (4 : Int32) dX7_remember_90 ci_4 ?_
  refine g_iadd C dX7_remember_91 ?_
  refine g_aload_n C 1 dX7_remember_92 rfl ?_
  refine Cg_X7_1_broken C (v := F 108) rfl dX7_remember_93 ?_
  refine Cs_117 (R := (va_up (va_up (va_up (va_up R 117 (upd (R 117) (((F 113) * (6 : Int32)).toNatClampNeg) (F 104))) 117 (upd (upd (R 117) (((F 113) * (6 : Int32)).toNatClampNeg) (F 104)) ((((F 113) * (6 : Int32)) + (1 : Int32)).toNatClampNeg) (F 105))) 117 (upd (upd (upd (R 117) (((F 113) * (6 : Int32)).toNatClampNeg) (F 104)) ((((F 113) * (6 : Int32)) + (1 : Int32)).toNatClampNeg) (F 105)) ((((F 113) * (6 : Int32)) + (2 : Int32)).toNatClampNeg) (F 106))) 117 (upd (upd (upd (upd (R 117) (((F 113) * (6 : Int32)).toNatClampNeg) (F 104)) ((((F 113) * (6 : Int32)) + (1 : Int32)).toNatClampNeg) (F 105)) ((((F 113) * (6 : Int32)) + (2 : Int32)).toNatClampNeg) (F 106)) ((((F 113) * (6 : Int32)) + (3 : Int32)).toNatClampNeg) (F 107)))) C (f := upd (upd (upd (upd (R 117) (((F 113) * (6 : Int32)).toNatClampNeg) (F 104)) ((((F 113) * (6 : Int32)) + (1 : Int32)).toNatClampNeg) (F 105)) ((((F 113) * (6 : Int32)) + (2 : Int32)).toNatClampNeg) (F 106)) ((((F 113) * (6 : Int32)) + (3 : Int32)).toNatClampNeg) (F 107)) rfl _ rfl h.1 dX7_remember_96 ?_
  have h := h.2
  refine g_aload_n C 1 dX7_remember_97 rfl ?_
  refine Cg_X7_1_past C dX7_remember_98 ?_
  refine g_iload_n C 0 dX7_remember_101 rfl ?_
  refine g_iconst C (5 : Int32) dX7_remember_102 ci_5 ?_
  refine g_iadd C dX7_remember_103 ?_
  refine g_aload_n C 1 dX7_remember_104 rfl ?_
  refine Cg_X7_1_draw C (v := F 110) rfl dX7_remember_105 ?_
  refine Cs_117 (R := (va_up (va_up (va_up (va_up (va_up R 117 (upd (R 117) (((F 113) * (6 : Int32)).toNatClampNeg) (F 104))) 117 (upd (upd (R 117) (((F 113) * (6 : Int32)).toNatClampNeg) (F 104)) ((((F 113) * (6 : Int32)) + (1 : Int32)).toNatClampNeg) (F 105))) 117 (upd (upd (upd (R 117) (((F 113) * (6 : Int32)).toNatClampNeg) (F 104)) ((((F 113) * (6 : Int32)) + (1 : Int32)).toNatClampNeg) (F 105)) ((((F 113) * (6 : Int32)) + (2 : Int32)).toNatClampNeg) (F 106))) 117 (upd (upd (upd (upd (R 117) (((F 113) * (6 : Int32)).toNatClampNeg) (F 104)) ((((F 113) * (6 : Int32)) + (1 : Int32)).toNatClampNeg) (F 105)) ((((F 113) * (6 : Int32)) + (2 : Int32)).toNatClampNeg) (F 106)) ((((F 113) * (6 : Int32)) + (3 : Int32)).toNatClampNeg) (F 107))) 117 (upd (upd (upd (upd (upd (R 117) (((F 113) * (6 : Int32)).toNatClampNeg) (F 104)) ((((F 113) * (6 : Int32)) + (1 : Int32)).toNatClampNeg) (F 105)) ((((F 113) * (6 : Int32)) + (2 : Int32)).toNatClampNeg) (F 106)) ((((F 113) * (6 : Int32)) + (3 : Int32)).toNatClampNeg) (F 107)) ((((F 113) * (6 : Int32)) + (4 : Int32)).toNatClampNeg) (F 108)))) C (f := upd (upd (upd (upd (upd (R 117) (((F 113) * (6 : Int32)).toNatClampNeg) (F 104)) ((((F 113) * (6 : Int32)) + (1 : Int32)).toNatClampNeg) (F 105)) ((((F 113) * (6 : Int32)) + (2 : Int32)).toNatClampNeg) (F 106)) ((((F 113) * (6 : Int32)) + (3 : Int32)).toNatClampNeg) (F 107)) ((((F 113) * (6 : Int32)) + (4 : Int32)).toNatClampNeg) (F 108)) rfl _ rfl h.1 dX7_remember_108 ?_
  have h := h.2
  refine g_aload_n C 1 dX7_remember_109 rfl ?_
  refine g_dup C dX7_remember_110 rfl ?_
  refine Cg_X7_1_pastCount C (v := F 113) rfl dX7_remember_111 ?_
  refine g_iconst C (1 : Int32) dX7_remember_114 ci_1 ?_
  refine g_iadd C dX7_remember_115 ?_
  refine Cp_X7_1_pastCount C dX7_remember_116 ?_
  exact hret _ _ _ ⟨_, _, _, _, _, rfl, h⟩ dX7_remember_119
def qS_remember (F : FT) (R : RT) (J : JT) (P : PT) (B : BT)  (K : FT → RT → JT → PT → BT → Prop) : Prop :=
  ((F 113) < (8 : Int32) → (qS_remember_31 F R J P B K)) ∧ (¬ (F 113) < (8 : Int32) → (qS_remember_31 (upd F 113 (7 : Int32)) (va_up R 117 (va_cpy (R 117) (R 117) ((6 : Int32).toNatClampNeg) ((0 : Int32).toNatClampNeg) ((42 : Int32).toNatClampNeg))) J P B K))
set_option maxHeartbeats 4000000 in
set_option maxRecDepth 100000 in
theorem bS_remember {X : XT} {ka : Nat → ClassId} {ad : Nat → Nat} (C : Cx X cX7_remember 2 RX7 none ka 1) {K : FT → RT → JT → PT → BT → Prop} (hret : RetV X cX7_remember 0 0 (fun w => ∃ F R J P B, w = wC ad ka F R J P B ∧ K F R J P B)) (F : FT) (R : RT) (J : JT) (P : PT) (B : BT)  (h : qS_remember F R J P B  K) : G X 0 0 (wC ad ka F R J P B) 0 [(0, .ref (ad 199))] [] := by
  unfold qS_remember at h
  refine g_aload_n C 0 dX7_remember_0 rfl ?_
  refine Cg_X7_1_pastCount C (v := F 113) rfl dX7_remember_1 ?_
  refine g_bipush C (8 : Int32) dX7_remember_4 cb_8 ?_
  refine g_icmp_lt C 31 dX7_remember_6 (by decide) (fun c1 => ?_) (fun c1 => ?_)
  · have h := h.1 c1
    exact g_lv [0] rfl (lS_remember_31 C hret _ _ _ _ _ h)
  · have h := h.2 c1
    refine g_aload_n C 0 dX7_remember_9 rfl ?_
    refine Cg_X7_1_past C dX7_remember_10 ?_
    refine g_bipush C (6 : Int32) dX7_remember_13 cb_6 ?_
    refine g_aload_n C 0 dX7_remember_15 rfl ?_
    refine Cg_X7_1_past C dX7_remember_16 ?_
    refine g_iconst C (0 : Int32) dX7_remember_19 ci_0 ?_
    refine g_bipush C (42 : Int32) dX7_remember_20 cb_42 ?_
    refine Cc_117_117 C (f := R 117) (g := R 117) rfl rfl (by decide) (by decide) (by decide) (by decide) (by decide) (gw_of tw3_52 rfl) (by decide) (Nat.le_of_ble_eq_true rfl) dX7_remember_22 ?_
    refine g_aload_n C 0 dX7_remember_25 rfl ?_
    refine g_bipush C (7 : Int32) dX7_remember_26 cb_7 ?_
    refine Cp_X7_1_pastCount C dX7_remember_28 ?_
    exact g_lv [0] rfl (lS_remember_31 C hret _ _ _ _ _ h)
set_option maxHeartbeats 4000000 in
set_option maxRecDepth 100000 in
theorem kS_remember (l : Launch) (D : va_G) (ka : Nat → ClassId) (ad : Nat → Nat) (F : FT) (R : RT) (J : JT) (P : PT) (B : BT)  (K : FT → RT → JT → PT → BT → Prop) (h : qS_remember F R J P B  K) : MV l D ka yX7_remember cX7_remember 2 none 1 0 0 [.ref (ad 199)] (wC ad ka F R J P B) (fun w => ∃ F R J P B, w = wC ad ka F R J P B ∧ K F R J P B) := MV_of (by decide) (Nat.le_of_ble_eq_true rfl) (fun X C hroom hret => bS_remember C hret F R J P B  h)
set_option maxHeartbeats 4000000 in
set_option maxRecDepth 100000 in
theorem miX7_remember : MInf yX7_remember cX7_remember 2 none 0 := ⟨(gw_of tw3_49 rfl), (gw_of tw3_50 rfl), (gw_of tw1_2 rfl), (gw_of tw3_51 rfl), by decide +kernel, by decide⟩

def qS_recall (F : FT) (R : RT) (J : JT) (P : PT) (B : BT)  (K : FT → RT → JT → PT → BT → Prop) : Prop :=
  (0 < (F 113) → ((vp_in (((F 113) - (1 : Int32)) * (6 : Int32)) 48) ∧ ((vp_in ((((F 113) - (1 : Int32)) * (6 : Int32)) + (1 : Int32)) 48) ∧ ((vp_in ((((F 113) - (1 : Int32)) * (6 : Int32)) + (2 : Int32)) 48) ∧ ((vp_in ((((F 113) - (1 : Int32)) * (6 : Int32)) + (3 : Int32)) 48) ∧ ((vp_in ((((F 113) - (1 : Int32)) * (6 : Int32)) + (4 : Int32)) 48) ∧ ((vp_in ((((F 113) - (1 : Int32)) * (6 : Int32)) + (5 : Int32)) 48) ∧ (K (upd (upd (upd (upd (upd (upd (upd F 113 ((F 113) - (1 : Int32))) 104 (R 117 ((((F 113) - (1 : Int32)) * (6 : Int32)).toNatClampNeg))) 105 (R 117 (((((F 113) - (1 : Int32)) * (6 : Int32)) + (1 : Int32)).toNatClampNeg))) 106 (R 117 (((((F 113) - (1 : Int32)) * (6 : Int32)) + (2 : Int32)).toNatClampNeg))) 107 (R 117 (((((F 113) - (1 : Int32)) * (6 : Int32)) + (3 : Int32)).toNatClampNeg))) 108 (R 117 (((((F 113) - (1 : Int32)) * (6 : Int32)) + (4 : Int32)).toNatClampNeg))) 110 (R 117 (((((F 113) - (1 : Int32)) * (6 : Int32)) + (5 : Int32)).toNatClampNeg))) R J P B)))))))) ∧ (¬ 0 < (F 113) → (K F R J P B))
set_option maxHeartbeats 4000000 in
set_option maxRecDepth 100000 in
theorem bS_recall {X : XT} {ka : Nat → ClassId} {ad : Nat → Nat} (C : Cx X cX7_recall 2 RX7 none ka 1) {K : FT → RT → JT → PT → BT → Prop} (hret : RetV X cX7_recall 0 0 (fun w => ∃ F R J P B, w = wC ad ka F R J P B ∧ K F R J P B)) (F : FT) (R : RT) (J : JT) (P : PT) (B : BT)  (h : qS_recall F R J P B  K) : G X 0 0 (wC ad ka F R J P B) 0 [(0, .ref (ad 199))] [] := by
  unfold qS_recall at h
  refine g_aload_n C 0 dX7_recall_0 rfl ?_
  refine Cg_X7_1_pastCount C (v := F 113) rfl dX7_recall_1 ?_
  refine g_if_gt C 8 dX7_recall_4 (by decide) (fun c1 => ?_) (fun c1 => ?_)
  · have h := h.1 c1
    refine g_aload_n C 0 dX7_recall_8 rfl ?_
    refine g_dup C dX7_recall_9 rfl ?_
    refine Cg_X7_1_pastCount C (v := F 113) rfl dX7_recall_10 ?_
    refine g_iconst C (1 : Int32) dX7_recall_13 ci_1 ?_
    refine g_isub C dX7_recall_14 ?_
    refine Cp_X7_1_pastCount C dX7_recall_15 ?_
    refine g_aload_n C 0 dX7_recall_18 rfl ?_
    refine Cg_X7_1_pastCount (F := (upd F 113 ((F 113) - (1 : Int32)))) C (v := (F 113) - (1 : Int32)) rfl dX7_recall_19 ?_
    refine g_bipush C (6 : Int32) dX7_recall_22 cb_6 ?_
    refine g_imul C dX7_recall_24 ?_
    refine g_istore_n C [(1, .int (((F 113) - (1 : Int32)) * (6 : Int32))), (0, .ref (ad 199))] dX7_recall_25 (by decide) rfl ?_
    refine g_aload_n C 1 dX7_recall_26 rfl ?_
    refine g_aload_n C 1 dX7_recall_27 rfl ?_
    refine Cg_X7_1_past C dX7_recall_28 ?_
    refine g_iload_n C 0 dX7_recall_31 rfl ?_
    refine Ca_117 C (f := R 117) rfl _ rfl h.1 dX7_recall_32 ?_
    have h := h.2
    refine Cp_X7_1_day C dX7_recall_33 ?_
    refine g_aload_n C 1 dX7_recall_36 rfl ?_
    refine g_aload_n C 1 dX7_recall_37 rfl ?_
    refine Cg_X7_1_past C dX7_recall_38 ?_
    refine g_iload_n C 0 dX7_recall_41 rfl ?_
    refine g_iconst C (1 : Int32) dX7_recall_42 ci_1 ?_
    refine g_iadd C dX7_recall_43 ?_
    refine Ca_117 C (f := R 117) rfl _ rfl h.1 dX7_recall_44 ?_
    have h := h.2
    refine Cp_X7_1_laid C dX7_recall_45 ?_
    refine g_aload_n C 1 dX7_recall_48 rfl ?_
    refine g_aload_n C 1 dX7_recall_49 rfl ?_
    refine Cg_X7_1_past C dX7_recall_50 ?_
    refine g_iload_n C 0 dX7_recall_53 rfl ?_
    refine g_iconst C (2 : Int32) dX7_recall_54 ci_2 ?_
    refine g_iadd C dX7_recall_55 ?_
    refine Ca_117 C (f := R 117) rfl _ rfl h.1 dX7_recall_56 ?_
    have h := h.2
    refine Cp_X7_1_used C dX7_recall_57 ?_
    refine g_aload_n C 1 dX7_recall_60 rfl ?_
    refine g_aload_n C 1 dX7_recall_61 rfl ?_
    refine Cg_X7_1_past C dX7_recall_62 ?_
    refine g_iload_n C 0 dX7_recall_65 rfl ?_
    refine g_iconst C (3 : Int32) dX7_recall_66 ci_3 ?_
    refine g_iadd C dX7_recall_67 ?_
    refine Ca_117 C (f := R 117) rfl _ rfl h.1 dX7_recall_68 ?_
    have h := h.2
    refine Cp_X7_1_usedToday C dX7_recall_69 ?_
    refine g_aload_n C 1 dX7_recall_72 rfl ?_
    refine g_aload_n C 1 dX7_recall_73 rfl ?_
    refine Cg_X7_1_past C dX7_recall_74 ?_
    refine g_iload_n C 0 dX7_recall_77 rfl ?_
    refine g_iconst C (4 : Int32) dX7_recall_78 ci_4 ?_
    refine g_iadd C dX7_recall_79 ?_
    refine Ca_117 C (f := R 117) rfl _ rfl h.1 dX7_recall_80 ?_
    have h := h.2
    refine Cp_X7_1_broken C dX7_recall_81 ?_
    refine g_aload_n C 1 dX7_recall_84 rfl ?_
    refine g_aload_n C 1 dX7_recall_85 rfl ?_
    refine Cg_X7_1_past C dX7_recall_86 ?_
    refine g_iload_n C 0 dX7_recall_89 rfl ?_
    refine g_iconst C (5 : Int32) dX7_recall_90 ci_5 ?_
    refine g_iadd C dX7_recall_91 ?_
    refine Ca_117 C (f := R 117) rfl _ rfl h.1 dX7_recall_92 ?_
    have h := h.2
    refine Cp_X7_1_draw C dX7_recall_93 ?_
    exact hret _ _ _ ⟨_, _, _, _, _, rfl, h⟩ dX7_recall_96
  · have h := h.2 c1
    exact hret _ _ _ ⟨_, _, _, _, _, rfl, h⟩ dX7_recall_7
set_option maxHeartbeats 4000000 in
set_option maxRecDepth 100000 in
theorem kS_recall (l : Launch) (D : va_G) (ka : Nat → ClassId) (ad : Nat → Nat) (F : FT) (R : RT) (J : JT) (P : PT) (B : BT)  (K : FT → RT → JT → PT → BT → Prop) (h : qS_recall F R J P B  K) : MV l D ka yX7_recall cX7_recall 2 none 1 0 0 [.ref (ad 199)] (wC ad ka F R J P B) (fun w => ∃ F R J P B, w = wC ad ka F R J P B ∧ K F R J P B) := MV_of (by decide) (Nat.le_of_ble_eq_true rfl) (fun X C hroom hret => bS_recall C hret F R J P B  h)
set_option maxHeartbeats 4000000 in
set_option maxRecDepth 100000 in
theorem miX7_recall : MInf yX7_recall cX7_recall 2 none 0 := ⟨(gw_of tw3_105 rfl), (gw_of tw3_106 rfl), (gw_of tw1_2 rfl), (gw_of tw3_107 rfl), by decide +kernel, by decide⟩
