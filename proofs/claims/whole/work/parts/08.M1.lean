def qM_in (F : FT) (R : RT) (J : JT) (a1 : Int64) (a2 : Int64) (a3 : Int64) (K : Int32 → FT → RT → JT → Prop) : Prop :=
  ((lg_cmp a1 a2) < 0 → (K (0 : Int32) F R J)) ∧ (¬ (lg_cmp a1 a2) < 0 → ((0 < (lg_cmp a1 a3) → (K (0 : Int32) F R J)) ∧ (¬ 0 < (lg_cmp a1 a3) → (K (1 : Int32) F R J))))
set_option maxHeartbeats 4000000 in
set_option maxRecDepth 100000 in
theorem bM_in {X : XT} {ka : Nat → ClassId} {ad : Nat → Nat} (C : Cx X cX10_in 6 RX10 (some .boolean) ka 1) {K : Int32 → FT → RT → JT → Prop} (hret : RetI X cX10_in .boolean 0 0 (fun z w => ∃ F R J, w = wM ad ka F R J ∧ K z F R J)) (F : FT) (R : RT) (J : JT) (a1 : Int64) (a2 : Int64) (a3 : Int64) (h : qM_in F R J a1 a2 a3 K) : G X 0 0 (wM ad ka F R J) 0 [(0, .long a1), (2, .long a2), (4, .long a3)] [] := by
  unfold qM_in at h
  refine g_lload_n C 0 dX10_in_0 rfl ?_
  refine g_lload_n C 1 dX10_in_1 rfl ?_
  refine g_lcmp C dX10_in_2 ?_
  refine g_if_lt C 17 dX10_in_3 (by decide) (fun c1 => ?_) (fun c1 => ?_)
  · have h := h.1 c1
    refine g_iconst C (0 : Int32) dX10_in_17 ci_0 ?_
    exact hret _ _ _ _ ⟨_, _, _, rfl, h⟩ rfl dX10_in_18
  · have h := h.2 c1
    refine g_lload_n C 0 dX10_in_6 rfl ?_
    refine g_lload C 2 dX10_in_7 rfl ?_
    refine g_lcmp C dX10_in_9 ?_
    refine g_if_gt C 17 dX10_in_10 (by decide) (fun c2 => ?_) (fun c2 => ?_)
    · have h := h.1 c2
      refine g_iconst C (0 : Int32) dX10_in_17 ci_0 ?_
      exact hret _ _ _ _ ⟨_, _, _, rfl, h⟩ rfl dX10_in_18
    · have h := h.2 c2
      refine g_iconst C (1 : Int32) dX10_in_13 ci_1 ?_
      refine g_goto C 18 dX10_in_14 (by decide) ?_
      exact hret _ _ _ _ ⟨_, _, _, rfl, h⟩ rfl dX10_in_18
set_option maxHeartbeats 4000000 in
set_option maxRecDepth 100000 in
theorem kM_in (l : Launch) (D : va_G) (ka : Nat → ClassId) (ad : Nat → Nat) (F : FT) (R : RT) (J : JT) (a1 : Int64) (a2 : Int64) (a3 : Int64) (K : Int32 → FT → RT → JT → Prop) (h : qM_in F R J a1 a2 a3 K) : MI l D ka yX10_in cX10_in 6 (some .boolean) 1 0 0 [.long a1, .long a2, .long a3] (wM ad ka F R J) (fun z w => ∃ F R J, w = wM ad ka F R J ∧ K z F R J) := MI_of (by decide) (Nat.le_of_ble_eq_true rfl) (fun X C hroom hret => bM_in C hret F R J a1 a2 a3 h)
set_option maxHeartbeats 4000000 in
set_option maxRecDepth 100000 in
theorem siX10_in : SInf yX10_in cX10_in 6 (some .boolean) 3 := ⟨(gw_of tw4_137 rfl), (gw_of tw1_6 rfl), (gw_of tw4_138 rfl), by decide +kernel, by decide⟩

def qM_isBuilder (F : FT) (R : RT) (J : JT) (a1 : Int32) (K : Int32 → FT → RT → JT → Prop) : Prop :=
  qM_in F R J a1.toInt64 (0 : Int64) (((R 0 0) - (1 : Int32)).toInt64) (fun r1 F1 R1 J1 => isB r1 ∧ K r1 F1 R1 J1)
set_option maxHeartbeats 4000000 in
set_option maxRecDepth 100000 in
theorem bM_isBuilder {X : XT} {ka : Nat → ClassId} {ad : Nat → Nat} (C : Cx X cX10_isBuilder 2 RX10 (some .boolean) ka 2) {K : Int32 → FT → RT → JT → Prop} (hret : RetI X cX10_isBuilder .boolean 0 0 (fun z w => ∃ F R J, w = wM ad ka F R J ∧ K z F R J)) (F : FT) (R : RT) (J : JT) (a1 : Int32) (h : qM_isBuilder F R J a1 K) : G X 0 0 (wM ad ka F R J) 0 [(0, .ref (ad 20)), (1, .int a1)] [] := by
  unfold qM_isBuilder at h
  refine g_iload_n C 1 dX10_isBuilder_0 rfl ?_
  refine g_i2l C dX10_isBuilder_1 ?_
  refine g_lconst C (0 : Int64) dX10_isBuilder_2 rfl ?_
  refine g_aload_n C 0 dX10_isBuilder_3 rfl ?_
  refine Mg_now C dX10_isBuilder_4 ?_
  refine g_iconst C (0 : Int32) dX10_isBuilder_7 ci_0 ?_
  refine Ma_now C (f := R 0) rfl (0) (by decide) (vp_lit (by decide)) dX10_isBuilder_8 ?_
  refine g_iconst C (1 : Int32) dX10_isBuilder_9 ci_1 ?_
  refine g_isub C dX10_isBuilder_10 ?_
  refine g_i2l C dX10_isBuilder_11 ?_
  refine g_callSi0 C (kM_in (xL X) (xD X) ka ad _ _ _ _ _ _ _ h) siX10_in (gw_of tw4_136 rfl) (by decide) rfl rfl (Nat.le_of_ble_eq_true rfl) z00 dX10_isBuilder_12 (fun r1 w hw => ?_)
  obtain ⟨F1, R1, J1, rfl, h⟩ := hw
  exact hret _ _ _ _ ⟨_, _, _, rfl, h.2⟩ (nar_B h.1) dX10_isBuilder_15
set_option maxHeartbeats 4000000 in
set_option maxRecDepth 100000 in
theorem kM_isBuilder (l : Launch) (D : va_G) (ka : Nat → ClassId) (ad : Nat → Nat) (F : FT) (R : RT) (J : JT) (a1 : Int32) (K : Int32 → FT → RT → JT → Prop) (h : qM_isBuilder F R J a1 K) : MI l D ka yX10_isBuilder cX10_isBuilder 2 (some .boolean) 2 0 0 [.ref (ad 20), .int a1] (wM ad ka F R J) (fun z w => ∃ F R J, w = wM ad ka F R J ∧ K z F R J) := MI_of (by decide) (Nat.le_of_ble_eq_true rfl) (fun X C hroom hret => bM_isBuilder C hret F R J a1 h)
set_option maxHeartbeats 4000000 in
set_option maxRecDepth 100000 in
theorem miX10_isBuilder : MInf yX10_isBuilder cX10_isBuilder 2 (some .boolean) 1 := ⟨(gw_of tw4_146 rfl), (gw_of tp_yX10_isBuilder rfl), (gw_of tw1_6 rfl), (gw_of tw4_147 rfl), by decide +kernel, by decide⟩

def qM_isHindrance (F : FT) (R : RT) (J : JT) (a1 : Int32) (K : Int32 → FT → RT → JT → Prop) : Prop :=
  qM_in F R J a1.toInt64 (0 : Int64) (((R 0 1) - (1 : Int32)).toInt64) (fun r1 F1 R1 J1 => isB r1 ∧ K r1 F1 R1 J1)
set_option maxHeartbeats 4000000 in
set_option maxRecDepth 100000 in
theorem bM_isHindrance {X : XT} {ka : Nat → ClassId} {ad : Nat → Nat} (C : Cx X cX10_isHindrance 2 RX10 (some .boolean) ka 2) {K : Int32 → FT → RT → JT → Prop} (hret : RetI X cX10_isHindrance .boolean 0 0 (fun z w => ∃ F R J, w = wM ad ka F R J ∧ K z F R J)) (F : FT) (R : RT) (J : JT) (a1 : Int32) (h : qM_isHindrance F R J a1 K) : G X 0 0 (wM ad ka F R J) 0 [(0, .ref (ad 20)), (1, .int a1)] [] := by
  unfold qM_isHindrance at h
  refine g_iload_n C 1 dX10_isHindrance_0 rfl ?_
  refine g_i2l C dX10_isHindrance_1 ?_
  refine g_lconst C (0 : Int64) dX10_isHindrance_2 rfl ?_
  refine g_aload_n C 0 dX10_isHindrance_3 rfl ?_
  refine Mg_now C dX10_isHindrance_4 ?_
  refine g_iconst C (1 : Int32) dX10_isHindrance_7 ci_1 ?_
  refine Ma_now C (f := R 0) rfl (1) (by decide) (vp_lit (by decide)) dX10_isHindrance_8 ?_
  refine g_iconst C (1 : Int32) dX10_isHindrance_9 ci_1 ?_
  refine g_isub C dX10_isHindrance_10 ?_
  refine g_i2l C dX10_isHindrance_11 ?_
  refine g_callSi0 C (kM_in (xL X) (xD X) ka ad _ _ _ _ _ _ _ h) siX10_in (gw_of tw4_136 rfl) (by decide) rfl rfl (Nat.le_of_ble_eq_true rfl) z00 dX10_isHindrance_12 (fun r1 w hw => ?_)
  obtain ⟨F1, R1, J1, rfl, h⟩ := hw
  exact hret _ _ _ _ ⟨_, _, _, rfl, h.2⟩ (nar_B h.1) dX10_isHindrance_15
set_option maxHeartbeats 4000000 in
set_option maxRecDepth 100000 in
theorem kM_isHindrance (l : Launch) (D : va_G) (ka : Nat → ClassId) (ad : Nat → Nat) (F : FT) (R : RT) (J : JT) (a1 : Int32) (K : Int32 → FT → RT → JT → Prop) (h : qM_isHindrance F R J a1 K) : MI l D ka yX10_isHindrance cX10_isHindrance 2 (some .boolean) 2 0 0 [.ref (ad 20), .int a1] (wM ad ka F R J) (fun z w => ∃ F R J, w = wM ad ka F R J ∧ K z F R J) := MI_of (by decide) (Nat.le_of_ble_eq_true rfl) (fun X C hroom hret => bM_isHindrance C hret F R J a1 h)
set_option maxHeartbeats 4000000 in
set_option maxRecDepth 100000 in
theorem miX10_isHindrance : MInf yX10_isHindrance cX10_isHindrance 2 (some .boolean) 1 := ⟨(gw_of tw5_10 rfl), (gw_of tp_yX10_isHindrance rfl), (gw_of tw1_6 rfl), (gw_of tw5_11 rfl), by decide +kernel, by decide⟩

def qM_isWeather (F : FT) (R : RT) (J : JT) (a1 : Int32) (K : Int32 → FT → RT → JT → Prop) : Prop :=
  qM_in F R J a1.toInt64 (0 : Int64) (2 : Int64) (fun r1 F1 R1 J1 => isB r1 ∧ K r1 F1 R1 J1)
set_option maxHeartbeats 4000000 in
set_option maxRecDepth 100000 in
theorem bM_isWeather {X : XT} {ka : Nat → ClassId} {ad : Nat → Nat} (C : Cx X cX10_isWeather 1 RX10 (some .boolean) ka 2) {K : Int32 → FT → RT → JT → Prop} (hret : RetI X cX10_isWeather .boolean 0 0 (fun z w => ∃ F R J, w = wM ad ka F R J ∧ K z F R J)) (F : FT) (R : RT) (J : JT) (a1 : Int32) (h : qM_isWeather F R J a1 K) : G X 0 0 (wM ad ka F R J) 0 [(0, .int a1)] [] := by
  unfold qM_isWeather at h
  refine g_iload_n C 0 dX10_isWeather_0 rfl ?_
  refine g_i2l C dX10_isWeather_1 ?_
  refine g_lconst C (0 : Int64) dX10_isWeather_2 rfl ?_
  refine g_ldc2 C (gw_of tw4_227 rfl) dX10_isWeather_3 ?_
  refine g_callSi0 C (kM_in (xL X) (xD X) ka ad _ _ _ _ _ _ _ h) siX10_in (gw_of tw4_136 rfl) (by decide) rfl rfl (Nat.le_of_ble_eq_true rfl) z00 dX10_isWeather_6 (fun r1 w hw => ?_)
  obtain ⟨F1, R1, J1, rfl, h⟩ := hw
  exact hret _ _ _ _ ⟨_, _, _, rfl, h.2⟩ (nar_B h.1) dX10_isWeather_9
set_option maxHeartbeats 4000000 in
set_option maxRecDepth 100000 in
theorem kM_isWeather (l : Launch) (D : va_G) (ka : Nat → ClassId) (ad : Nat → Nat) (F : FT) (R : RT) (J : JT) (a1 : Int32) (K : Int32 → FT → RT → JT → Prop) (h : qM_isWeather F R J a1 K) : MI l D ka yX10_isWeather cX10_isWeather 1 (some .boolean) 2 0 0 [.int a1] (wM ad ka F R J) (fun z w => ∃ F R J, w = wM ad ka F R J ∧ K z F R J) := MI_of (by decide) (Nat.le_of_ble_eq_true rfl) (fun X C hroom hret => bM_isWeather C hret F R J a1 h)
set_option maxHeartbeats 4000000 in
set_option maxRecDepth 100000 in
theorem siX10_isWeather : SInf yX10_isWeather cX10_isWeather 1 (some .boolean) 1 := ⟨(gw_of tw4_225 rfl), (gw_of tw1_6 rfl), (gw_of tw4_226 rfl), by decide +kernel, by decide⟩

def qM_haulsOf_31 (F : FT) (R : RT) (J : JT) (v2 : Int32) (v3 : Int32) (s0 : Int32) (s1 : Int32) (K : Int32 → FT → RT → JT → Prop) : Prop :=
  (vp_in v3 37) ∧ (((R 0 v3.toNatClampNeg) = (1 : Int32) → ((vp_in (v3 + (2 : Int32)) 37) ∧ (K ((s1 + s0) + (R 0 ((v3 + (2 : Int32)).toNatClampNeg))) F R J))) ∧ (((R 0 v3.toNatClampNeg) = (2 : Int32) → (K (s1 + s0) F R J)) ∧ (((R 0 v3.toNatClampNeg) = (3 : Int32) → ((vp_in (v3 + (2 : Int32)) 37) ∧ (K ((2 : Int32) * ((s1 + s0) + (R 0 ((v3 + (2 : Int32)).toNatClampNeg)))) F R J))) ∧ (((R 0 v3.toNatClampNeg) = (4 : Int32) → (K ((s1 + s0) + (v2 / (10 : Int32))) F R J)) ∧ ((¬ (R 0 v3.toNatClampNeg) = (1 : Int32) → ¬ (R 0 v3.toNatClampNeg) = (2 : Int32) → ¬ (R 0 v3.toNatClampNeg) = (3 : Int32) → ¬ (R 0 v3.toNatClampNeg) = (4 : Int32) → (K (s1 + s0) F R J)))))))
set_option maxHeartbeats 4000000 in
set_option maxRecDepth 100000 in
theorem lM_haulsOf_31 {X : XT} {ka : Nat → ClassId} {ad : Nat → Nat} (C : Cx X cX10_haulsOf 5 RX10 (some .int) ka 1) {K : Int32 → FT → RT → JT → Prop} (hret : RetI X cX10_haulsOf .int 0 0 (fun z w => ∃ F R J, w = wM ad ka F R J ∧ K z F R J)) (F : FT) (R : RT) (J : JT) (v2 : Int32) (v3 : Int32) (s0 : Int32) (s1 : Int32) (h : qM_haulsOf_31 F R J v2 v3 s0 s1 K) : G X 0 0 (wM ad ka F R J) 31 [(0, .ref (ad 20)), (2, .int v2), (3, .int v3)] [.int s0, .int s1] := by
  unfold qM_haulsOf_31 at h
  refine g_iadd C dX10_haulsOf_31 ?_
  refine g_istore C [(4, .int (s1 + s0)), (0, .ref (ad 20)), (2, .int v2), (3, .int v3)] dX10_haulsOf_32 (by decide) rfl ?_
  refine g_aload_n C 1 dX10_haulsOf_34 rfl ?_
  refine Mg_now C dX10_haulsOf_35 ?_
  refine g_iload_n C 3 dX10_haulsOf_38 rfl ?_
  refine Ma_now C (f := R 0) rfl _ rfl h.1 dX10_haulsOf_39 ?_
  have h := h.2
  by_cases c1 : (R 0 v3.toNatClampNeg) = (1 : Int32)
  · have h := h.1 c1
    refine g_tableIn C (32) 72 dX10_haulsOf_40 (by rw [c1]; decide) (by rw [c1]; decide) (by rw [c1]; decide) (by decide) ?_
    refine g_iload C 0 dX10_haulsOf_72 rfl ?_
    refine g_aload_n C 1 dX10_haulsOf_74 rfl ?_
    refine Mg_now C dX10_haulsOf_75 ?_
    refine g_iload_n C 3 dX10_haulsOf_78 rfl ?_
    refine g_iconst C (2 : Int32) dX10_haulsOf_79 ci_2 ?_
    refine g_iadd C dX10_haulsOf_80 ?_
    refine Ma_now C (f := R 0) rfl _ rfl h.1 dX10_haulsOf_81 ?_
    have h := h.2
    refine g_iadd C dX10_haulsOf_82 ?_
    exact hret _ _ _ _ ⟨_, _, _, rfl, h⟩ rfl dX10_haulsOf_83
  have h := h.2
  by_cases c2 : (R 0 v3.toNatClampNeg) = (2 : Int32)
  · have h := h.1 c2
    refine g_tableIn C (66) 106 dX10_haulsOf_40 (by rw [c2]; decide) (by rw [c2]; decide) (by rw [c2]; decide) (by decide) ?_
    refine g_iload C 0 dX10_haulsOf_106 rfl ?_
    exact hret _ _ _ _ ⟨_, _, _, rfl, h⟩ rfl dX10_haulsOf_108
  have h := h.2
  by_cases c3 : (R 0 v3.toNatClampNeg) = (3 : Int32)
  · have h := h.1 c3
    refine g_tableIn C (44) 84 dX10_haulsOf_40 (by rw [c3]; decide) (by rw [c3]; decide) (by rw [c3]; decide) (by decide) ?_
    refine g_iconst C (2 : Int32) dX10_haulsOf_84 ci_2 ?_
    refine g_iload C 0 dX10_haulsOf_85 rfl ?_
    refine g_aload_n C 1 dX10_haulsOf_87 rfl ?_
    refine Mg_now C dX10_haulsOf_88 ?_
    refine g_iload_n C 3 dX10_haulsOf_91 rfl ?_
    refine g_iconst C (2 : Int32) dX10_haulsOf_92 ci_2 ?_
    refine g_iadd C dX10_haulsOf_93 ?_
    refine Ma_now C (f := R 0) rfl _ rfl h.1 dX10_haulsOf_94 ?_
    have h := h.2
    refine g_iadd C dX10_haulsOf_95 ?_
    refine g_imul C dX10_haulsOf_96 ?_
    exact hret _ _ _ _ ⟨_, _, _, rfl, h⟩ rfl dX10_haulsOf_97
  have h := h.2
  by_cases c4 : (R 0 v3.toNatClampNeg) = (4 : Int32)
  · have h := h.1 c4
    refine g_tableIn C (58) 98 dX10_haulsOf_40 (by rw [c4]; decide) (by rw [c4]; decide) (by rw [c4]; decide) (by decide) ?_
    refine g_iload C 0 dX10_haulsOf_98 rfl ?_
    refine g_iload_n C 2 dX10_haulsOf_100 rfl ?_
    refine g_bipush C (10 : Int32) dX10_haulsOf_101 cb_10 ?_
    refine g_idiv C dX10_haulsOf_103 (by decide) ?_
    refine g_iadd C dX10_haulsOf_104 ?_
    exact hret _ _ _ _ ⟨_, _, _, rfl, h⟩ rfl dX10_haulsOf_105
  have h := h.2
  have h := h c1 c2 c3 c4
  refine g_tableOut C 106 dX10_haulsOf_40 (by have ec1 := swn (1) (by decide) c1; have ec2 := swn (2) (by decide) c2; have ec3 := swn (3) (by decide) c3; have ec4 := swn (4) (by decide) c4; omega) (by decide) ?_
  refine g_iload C 0 dX10_haulsOf_106 rfl ?_
  exact hret _ _ _ _ ⟨_, _, _, rfl, h⟩ rfl dX10_haulsOf_108
def qM_haulsOf (F : FT) (R : RT) (J : JT) (a1 : Int32) (a2 : Int32) (K : Int32 → FT → RT → JT → Prop) : Prop :=
  (vp_in (((13 : Int32) + ((3 : Int32) * a1)) + (1 : Int32)) 37) ∧ ((¬ a1 = (F 1) → (qM_haulsOf_31 F R J a2 ((13 : Int32) + ((3 : Int32) * a1)) (0 : Int32) (R 0 ((((13 : Int32) + ((3 : Int32) * a1)) + (1 : Int32)).toNatClampNeg)) K)) ∧ (a1 = (F 1) → (qM_haulsOf_31 F R J a2 ((13 : Int32) + ((3 : Int32) * a1)) (F 2) (R 0 ((((13 : Int32) + ((3 : Int32) * a1)) + (1 : Int32)).toNatClampNeg)) K)))
set_option maxHeartbeats 4000000 in
set_option maxRecDepth 100000 in
theorem bM_haulsOf {X : XT} {ka : Nat → ClassId} {ad : Nat → Nat} (C : Cx X cX10_haulsOf 5 RX10 (some .int) ka 1) {K : Int32 → FT → RT → JT → Prop} (hret : RetI X cX10_haulsOf .int 0 0 (fun z w => ∃ F R J, w = wM ad ka F R J ∧ K z F R J)) (F : FT) (R : RT) (J : JT) (a1 : Int32) (a2 : Int32) (h : qM_haulsOf F R J a1 a2 K) : G X 0 0 (wM ad ka F R J) 0 [(0, .ref (ad 20)), (1, .int a1), (2, .int a2)] [] := by
  unfold qM_haulsOf at h
  refine g_bipush C (13 : Int32) dX10_haulsOf_0 cb_13 ?_
  refine g_iconst C (3 : Int32) dX10_haulsOf_2 ci_3 ?_
  refine g_iload_n C 1 dX10_haulsOf_3 rfl ?_
  refine g_imul C dX10_haulsOf_4 ?_
  refine g_iadd C dX10_haulsOf_5 ?_
  refine g_istore_n C [(3, .int ((13 : Int32) + ((3 : Int32) * a1))), (0, .ref (ad 20)), (1, .int a1), (2, .int a2)] dX10_haulsOf_6 (by decide) rfl ?_
  refine g_aload_n C 1 dX10_haulsOf_7 rfl ?_
  refine Mg_now C dX10_haulsOf_8 ?_
  refine g_iload_n C 0 dX10_haulsOf_11 rfl ?_
  refine g_iconst C (1 : Int32) dX10_haulsOf_12 ci_1 ?_
  refine g_iadd C dX10_haulsOf_13 ?_
  refine Ma_now C (f := R 0) rfl _ rfl h.1 dX10_haulsOf_14 ?_
  have h := h.2
  refine g_iload_n C 2 dX10_haulsOf_15 rfl ?_
  refine g_aload_n C 1 dX10_haulsOf_16 rfl ?_
  refine Mg_faster C (v := F 1) rfl dX10_haulsOf_17 ?_
  refine g_icmp_ne C 30 dX10_haulsOf_20 (by decide) (fun c1 => ?_) (fun c1 => ?_)
  · have h := h.1 c1
    refine g_iconst C (0 : Int32) dX10_haulsOf_30 ci_0 ?_
    exact g_lv [1, 3, 0] rfl (lM_haulsOf_31 C hret _ _ _ _ _ _ _ h)
  · have h := h.2 c1
    refine g_aload_n C 1 dX10_haulsOf_23 rfl ?_
    refine Mg_by C (v := F 2) rfl dX10_haulsOf_24 ?_
    refine g_goto C 31 dX10_haulsOf_27 (by decide) ?_
    exact g_lv [1, 3, 0] rfl (lM_haulsOf_31 C hret _ _ _ _ _ _ _ h)
set_option maxHeartbeats 4000000 in
set_option maxRecDepth 100000 in
theorem kM_haulsOf (l : Launch) (D : va_G) (ka : Nat → ClassId) (ad : Nat → Nat) (F : FT) (R : RT) (J : JT) (a1 : Int32) (a2 : Int32) (K : Int32 → FT → RT → JT → Prop) (h : qM_haulsOf F R J a1 a2 K) : MI l D ka yX10_haulsOf cX10_haulsOf 5 (some .int) 1 0 0 [.ref (ad 20), .int a1, .int a2] (wM ad ka F R J) (fun z w => ∃ F R J, w = wM ad ka F R J ∧ K z F R J) := MI_of (by decide) (Nat.le_of_ble_eq_true rfl) (fun X C hroom hret => bM_haulsOf C hret F R J a1 a2 h)
set_option maxHeartbeats 4000000 in
set_option maxRecDepth 100000 in
theorem miX10_haulsOf : MInf yX10_haulsOf cX10_haulsOf 5 (some .int) 2 := ⟨(gw_of tw4_151 rfl), (gw_of tp_yX10_haulsOf rfl), (gw_of tw1_6 rfl), (gw_of tw4_152 rfl), by decide +kernel, by decide⟩

def qM_laysOf_68 (F : FT) (R : RT) (J : JT) (s0 : Int32) (K : Int32 → FT → RT → JT → Prop) : Prop :=
  (0 ≤ s0 → (K s0 F R J)) ∧ (¬ 0 ≤ s0 → (K (0 : Int32) F R J))
set_option maxHeartbeats 4000000 in
set_option maxRecDepth 100000 in
theorem lM_laysOf_68 {X : XT} {ka : Nat → ClassId} {ad : Nat → Nat} (C : Cx X cX10_laysOf 7 RX10 (some .int) ka 2) {K : Int32 → FT → RT → JT → Prop} (hret : RetI X cX10_laysOf .int 0 0 (fun z w => ∃ F R J, w = wM ad ka F R J ∧ K z F R J)) (F : FT) (R : RT) (J : JT) (s0 : Int32) (h : qM_laysOf_68 F R J s0 K) : G X 0 0 (wM ad ka F R J) 68 [] [.int s0] := by
  unfold qM_laysOf_68 at h
  refine g_istore C [(6, .int s0)] dX10_laysOf_68 (by decide) rfl ?_
  refine g_iload C 0 dX10_laysOf_70 rfl ?_
  refine g_if_ge C 79 dX10_laysOf_72 (by decide) (fun c1 => ?_) (fun c1 => ?_)
  · have h := h.1 c1
    refine g_iload C 0 dX10_laysOf_79 rfl ?_
    exact hret _ _ _ _ ⟨_, _, _, rfl, h⟩ rfl dX10_laysOf_81
  · have h := h.2 c1
    refine g_iconst C (0 : Int32) dX10_laysOf_75 ci_0 ?_
    refine g_goto C 81 dX10_laysOf_76 (by decide) ?_
    exact hret _ _ _ _ ⟨_, _, _, rfl, h⟩ rfl dX10_laysOf_81
def qM_laysOf_39 (F : FT) (R : RT) (J : JT) (v2 : Int32) (v4 : Int32) (v5 : Int32) (K : Int32 → FT → RT → JT → Prop) : Prop :=
  (¬ v2 = (1 : Int32) → ((¬ v5 = (3 : Int32) → (qM_laysOf_68 F R J (v4 - (1 : Int32)) K)) ∧ (v5 = (3 : Int32) → (qM_laysOf_68 F R J (v4 - (3 : Int32)) K)))) ∧ (v2 = (1 : Int32) → (qM_laysOf_68 F R J (v4 / (2 : Int32)) K))
set_option maxHeartbeats 4000000 in
set_option maxRecDepth 100000 in
theorem lM_laysOf_39 {X : XT} {ka : Nat → ClassId} {ad : Nat → Nat} (C : Cx X cX10_laysOf 7 RX10 (some .int) ka 2) {K : Int32 → FT → RT → JT → Prop} (hret : RetI X cX10_laysOf .int 0 0 (fun z w => ∃ F R J, w = wM ad ka F R J ∧ K z F R J)) (F : FT) (R : RT) (J : JT) (v2 : Int32) (v4 : Int32) (v5 : Int32) (h : qM_laysOf_39 F R J v2 v4 v5 K) : G X 0 0 (wM ad ka F R J) 39 [(2, .int v2), (4, .int v4), (5, .int v5)] [] := by
  unfold qM_laysOf_39 at h
  refine g_iload_n C 0 dX10_laysOf_39 rfl ?_
  refine g_iconst C (1 : Int32) dX10_laysOf_40 ci_1 ?_
  refine g_icmp_ne C 51 dX10_laysOf_41 (by decide) (fun c1 => ?_) (fun c1 => ?_)
  · have h := h.1 c1
    refine g_iload C 2 dX10_laysOf_51 rfl ?_
    refine g_iconst C (3 : Int32) dX10_laysOf_53 ci_3 ?_
    refine g_icmp_ne C 64 dX10_laysOf_54 (by decide) (fun c2 => ?_) (fun c2 => ?_)
    · have h := h.1 c2
      refine g_iload C 1 dX10_laysOf_64 rfl ?_
      refine g_iconst C (1 : Int32) dX10_laysOf_66 ci_1 ?_
      refine g_isub C dX10_laysOf_67 ?_
      exact g_lv [] rfl (lM_laysOf_68 C hret _ _ _ _ h)
    · have h := h.2 c2
      refine g_iload C 1 dX10_laysOf_57 rfl ?_
      refine g_iconst C (3 : Int32) dX10_laysOf_59 ci_3 ?_
      refine g_isub C dX10_laysOf_60 ?_
      refine g_goto C 68 dX10_laysOf_61 (by decide) ?_
      exact g_lv [] rfl (lM_laysOf_68 C hret _ _ _ _ h)
  · have h := h.2 c1
    refine g_iload C 1 dX10_laysOf_44 rfl ?_
    refine g_iconst C (2 : Int32) dX10_laysOf_46 ci_2 ?_
    refine g_idiv C dX10_laysOf_47 (by decide) ?_
    refine g_goto C 68 dX10_laysOf_48 (by decide) ?_
    exact g_lv [] rfl (lM_laysOf_68 C hret _ _ _ _ h)
def qM_laysOf (F : FT) (R : RT) (J : JT) (a1 : Int32) (a2 : Int32) (a3 : Int32) (K : Int32 → FT → RT → JT → Prop) : Prop :=
  qM_haulsOf F R J a1 a3 (fun r1 F1 R1 J1 => (vp_in ((13 : Int32) + ((3 : Int32) * a1)) 37) ∧ ((a2 = 0 → (K r1 F1 R1 J1)) ∧ (¬ a2 = 0 → ((¬ a2 = (1 : Int32) → (qM_laysOf_39 F1 R1 J1 a2 r1 (R1 0 (((13 : Int32) + ((3 : Int32) * a1)).toNatClampNeg)) K)) ∧ (a2 = (1 : Int32) → ((¬ (R1 0 (((13 : Int32) + ((3 : Int32) * a1)).toNatClampNeg)) = (2 : Int32) → (qM_laysOf_39 F1 R1 J1 a2 r1 (R1 0 (((13 : Int32) + ((3 : Int32) * a1)).toNatClampNeg)) K)) ∧ ((R1 0 (((13 : Int32) + ((3 : Int32) * a1)).toNatClampNeg)) = (2 : Int32) → (K r1 F1 R1 J1))))))))
set_option maxHeartbeats 4000000 in
set_option maxRecDepth 100000 in
theorem bM_laysOf {X : XT} {ka : Nat → ClassId} {ad : Nat → Nat} (C : Cx X cX10_laysOf 7 RX10 (some .int) ka 2) {K : Int32 → FT → RT → JT → Prop} (hret : RetI X cX10_laysOf .int 0 0 (fun z w => ∃ F R J, w = wM ad ka F R J ∧ K z F R J)) (F : FT) (R : RT) (J : JT) (a1 : Int32) (a2 : Int32) (a3 : Int32) (h : qM_laysOf F R J a1 a2 a3 K) : G X 0 0 (wM ad ka F R J) 0 [(0, .ref (ad 20)), (1, .int a1), (2, .int a2), (3, .int a3)] [] := by
  unfold qM_laysOf at h
  refine g_aload_n C 0 dX10_laysOf_0 rfl ?_
  refine g_iload_n C 1 dX10_laysOf_1 rfl ?_
  refine g_iload_n C 3 dX10_laysOf_2 rfl ?_
  refine g_callVi0 C (kM_haulsOf (xL X) (xD X) ka ad _ _ _ _ _ _ h) miX10_haulsOf (gw_of tw4_149 rfl) (by decide) wM_at rfl rfl rfl (Nat.le_of_ble_eq_true rfl) z00 dX10_laysOf_3 (fun r1 w hw => ?_)
  obtain ⟨F1, R1, J1, rfl, h⟩ := hw
  refine g_istore C [(4, .int r1), (0, .ref (ad 20)), (1, .int a1), (2, .int a2), (3, .int a3)] dX10_laysOf_6 (by decide) rfl ?_
  refine g_aload_n C 1 dX10_laysOf_8 rfl ?_
  refine Mg_now C dX10_laysOf_9 ?_
  refine g_bipush C (13 : Int32) dX10_laysOf_12 cb_13 ?_
  refine g_iconst C (3 : Int32) dX10_laysOf_14 ci_3 ?_
  refine g_iload_n C 2 dX10_laysOf_15 rfl ?_
  refine g_imul C dX10_laysOf_16 ?_
  refine g_iadd C dX10_laysOf_17 ?_
  refine Ma_now C (f := R1 0) rfl _ rfl h.1 dX10_laysOf_18 ?_
  have h := h.2
  refine g_istore C [(5, .int (R1 0 (((13 : Int32) + ((3 : Int32) * a1)).toNatClampNeg))), (4, .int r1), (0, .ref (ad 20)), (1, .int a1), (2, .int a2), (3, .int a3)] dX10_laysOf_19 (by decide) rfl ?_
  refine g_iload_n C 4 dX10_laysOf_21 rfl ?_
  refine g_if_eq C 36 dX10_laysOf_22 (by decide) (fun c2 => ?_) (fun c2 => ?_)
  · have h := h.1 c2
    refine g_iload C 1 dX10_laysOf_36 rfl ?_
    exact hret _ _ _ _ ⟨_, _, _, rfl, h⟩ rfl dX10_laysOf_38
  · have h := h.2 c2
    refine g_iload_n C 4 dX10_laysOf_25 rfl ?_
    refine g_iconst C (1 : Int32) dX10_laysOf_26 ci_1 ?_
    refine g_icmp_ne C 39 dX10_laysOf_27 (by decide) (fun c3 => ?_) (fun c3 => ?_)
    · have h := h.1 c3
      exact g_lv [4, 1, 0] rfl (lM_laysOf_39 C hret _ _ _ _ _ _ h)
    · have h := h.2 c3
      refine g_iload C 0 dX10_laysOf_30 rfl ?_
      refine g_iconst C (2 : Int32) dX10_laysOf_32 ci_2 ?_
      refine g_icmp_ne C 39 dX10_laysOf_33 (by decide) (fun c4 => ?_) (fun c4 => ?_)
      · have h := h.1 c4
        exact g_lv [4, 1, 0] rfl (lM_laysOf_39 C hret _ _ _ _ _ _ h)
      · have h := h.2 c4
        refine g_iload C 1 dX10_laysOf_36 rfl ?_
        exact hret _ _ _ _ ⟨_, _, _, rfl, h⟩ rfl dX10_laysOf_38
set_option maxHeartbeats 4000000 in
set_option maxRecDepth 100000 in
theorem kM_laysOf (l : Launch) (D : va_G) (ka : Nat → ClassId) (ad : Nat → Nat) (F : FT) (R : RT) (J : JT) (a1 : Int32) (a2 : Int32) (a3 : Int32) (K : Int32 → FT → RT → JT → Prop) (h : qM_laysOf F R J a1 a2 a3 K) : MI l D ka yX10_laysOf cX10_laysOf 7 (some .int) 2 0 0 [.ref (ad 20), .int a1, .int a2, .int a3] (wM ad ka F R J) (fun z w => ∃ F R J, w = wM ad ka F R J ∧ K z F R J) := MI_of (by decide) (Nat.le_of_ble_eq_true rfl) (fun X C hroom hret => bM_laysOf C hret F R J a1 a2 a3 h)
set_option maxHeartbeats 4000000 in
set_option maxRecDepth 100000 in
theorem miX10_laysOf : MInf yX10_laysOf cX10_laysOf 7 (some .int) 3 := ⟨(gw_of tw4_155 rfl), (gw_of tp_yX10_laysOf rfl), (gw_of tw1_6 rfl), (gw_of tw4_156 rfl), by decide +kernel, by decide⟩

def qM_behind_51 (F : FT) (R : RT) (J : JT) (s0 : Int32) (s1 : Int32) (K : Int32 → FT → RT → JT → Prop) : Prop :=
  ((s1 + s0) ≤ (R 0 2) → (K (s1 + s0) F R J)) ∧ (¬ (s1 + s0) ≤ (R 0 2) → (K (R 0 2) F R J))
set_option maxHeartbeats 4000000 in
set_option maxRecDepth 100000 in
theorem lM_behind_51 {X : XT} {ka : Nat → ClassId} {ad : Nat → Nat} (C : Cx X cX10_behind 6 RX10 (some .int) ka 3) {K : Int32 → FT → RT → JT → Prop} (hret : RetI X cX10_behind .int 0 0 (fun z w => ∃ F R J, w = wM ad ka F R J ∧ K z F R J)) (F : FT) (R : RT) (J : JT) (s0 : Int32) (s1 : Int32) (h : qM_behind_51 F R J s0 s1 K) : G X 0 0 (wM ad ka F R J) 51 [(0, .ref (ad 20))] [.int s0, .int s1] := by
  unfold qM_behind_51 at h
  refine g_iadd C dX10_behind_51 ?_
  refine g_istore C [(5, .int (s1 + s0)), (0, .ref (ad 20))] dX10_behind_52 (by decide) rfl ?_
  refine g_iload C 0 dX10_behind_54 rfl ?_
  refine g_aload_n C 1 dX10_behind_56 rfl ?_
  refine Mg_now C dX10_behind_57 ?_
  refine g_iconst C (2 : Int32) dX10_behind_60 ci_2 ?_
  refine Ma_now C (f := R 0) rfl (2) (by decide) (vp_lit (by decide)) dX10_behind_61 ?_
  refine g_icmp_le C 74 dX10_behind_62 (by decide) (fun c1 => ?_) (fun c1 => ?_)
  · have h := h.1 c1
    refine g_iload C 0 dX10_behind_74 rfl ?_
    exact hret _ _ _ _ ⟨_, _, _, rfl, h⟩ rfl dX10_behind_76
  · have h := h.2 c1
    refine g_aload_n C 1 dX10_behind_65 rfl ?_
    refine Mg_now C dX10_behind_66 ?_
    refine g_iconst C (2 : Int32) dX10_behind_69 ci_2 ?_
    refine Ma_now C (f := R 0) rfl (2) (by decide) (vp_lit (by decide)) dX10_behind_70 ?_
    refine g_goto C 76 dX10_behind_71 (by decide) ?_
    exact hret _ _ _ _ ⟨_, _, _, rfl, h⟩ rfl dX10_behind_76
def qM_behind_6 : Nat → FT → RT → JT → Int32 → Int32 → Int32 → Int32 → Int32 → (Int32 → FT → RT → JT → Prop) → Prop
  | 0, _, _, _, _, _, _, _, _ => fun _ => False
  | n6 + 1, F, R, J, v1, v2, v3, v4, v5 => fun K => ((R 0 0) ≤ v5 → ((v3 ≤ v4 → (qM_behind_51 F R J (v4 - v3) v2 K)) ∧ (¬ v3 ≤ v4 → (qM_behind_51 F R J (0 : Int32) v2 K)))) ∧ (¬ (R 0 0) ≤ v5 → (qM_laysOf F R J v5 v1 v2 (fun r3 F3 R3 J3 => qM_behind_6 n6 F3 R3 J3 v1 v2 v3 (v4 + r3) (v5 + (1 : Int32)) K)))
set_option maxHeartbeats 4000000 in
set_option maxRecDepth 100000 in
theorem lM_behind_6 {X : XT} {ka : Nat → ClassId} {ad : Nat → Nat} (C : Cx X cX10_behind 6 RX10 (some .int) ka 3) {K : Int32 → FT → RT → JT → Prop} (hret : RetI X cX10_behind .int 0 0 (fun z w => ∃ F R J, w = wM ad ka F R J ∧ K z F R J)) : ∀ (n : Nat) (F : FT) (R : RT) (J : JT) (v1 : Int32) (v2 : Int32) (v3 : Int32) (v4 : Int32) (v5 : Int32), qM_behind_6 n F R J v1 v2 v3 v4 v5 K → G X 0 0 (wM ad ka F R J) 6 [(0, .ref (ad 20)), (1, .int v1), (2, .int v2), (3, .int v3), (4, .int v4), (5, .int v5)] [] := by
  intro n
  induction n with
  | zero => intro F R J v1 v2 v3 v4 v5 h; exact h.elim
  | succ n ih =>
    intro F R J v1 v2 v3 v4 v5 h
    refine g_iload C 5 dX10_behind_6 rfl ?_
    refine g_aload_n C 0 dX10_behind_8 rfl ?_
    refine Mg_now C dX10_behind_9 ?_
    refine g_iconst C (0 : Int32) dX10_behind_12 ci_0 ?_
    refine Ma_now C (f := R 0) rfl (0) (by decide) (vp_lit (by decide)) dX10_behind_13 ?_
    refine g_icmp_ge C 36 dX10_behind_14 (by decide) (fun c1 => ?_) (fun c1 => ?_)
    · have h := h.1 c1
      refine g_iload_n C 2 dX10_behind_36 rfl ?_
      refine g_iload C 4 dX10_behind_37 rfl ?_
      refine g_iload_n C 3 dX10_behind_39 rfl ?_
      refine g_icmp_ge C 47 dX10_behind_40 (by decide) (fun c2 => ?_) (fun c2 => ?_)
      · have h := h.1 c2
        refine g_iload C 4 dX10_behind_47 rfl ?_
        refine g_iload_n C 3 dX10_behind_49 rfl ?_
        refine g_isub C dX10_behind_50 ?_
        exact g_lv [0] rfl (lM_behind_51 C hret _ _ _ _ _ h)
      · have h := h.2 c2
        refine g_iconst C (0 : Int32) dX10_behind_43 ci_0 ?_
        refine g_goto C 51 dX10_behind_44 (by decide) ?_
        exact g_lv [0] rfl (lM_behind_51 C hret _ _ _ _ _ h)
    · have h := h.2 c1
      refine g_iload C 4 dX10_behind_17 rfl ?_
      refine g_aload_n C 0 dX10_behind_19 rfl ?_
      refine g_iload C 5 dX10_behind_20 rfl ?_
      refine g_iload_n C 1 dX10_behind_22 rfl ?_
      refine g_iload_n C 2 dX10_behind_23 rfl ?_
      refine g_callVi0 C (kM_laysOf (xL X) (xD X) ka ad _ _ _ _ _ _ _ h) miX10_laysOf (gw_of tw4_153 rfl) (by decide) wM_at rfl rfl rfl (Nat.le_of_ble_eq_true rfl) z00 dX10_behind_24 (fun r3 w hw => ?_)
      obtain ⟨F3, R3, J3, rfl, h⟩ := hw
      refine g_iadd C dX10_behind_27 ?_
      refine g_istore C [(4, .int (v4 + r3)), (0, .ref (ad 20)), (1, .int v1), (2, .int v2), (3, .int v3), (5, .int v5)] dX10_behind_28 (by decide) rfl ?_
      refine g_iinc C 5 (v5 + (1 : Int32)) [(5, .int (v5 + (1 : Int32))), (4, .int (v4 + r3)), (0, .ref (ad 20)), (1, .int v1), (2, .int v2), (3, .int v3)] dX10_behind_30 rfl (by rw [ci_1]) (by decide) rfl ?_
      refine g_goto C 6 dX10_behind_33 (by decide) ?_
      exact g_lv [2, 3, 4, 5, 1, 0] rfl (ih _ _ _ _ _ _ _ _ h)
def qM_behind (F : FT) (R : RT) (J : JT) (a1 : Int32) (a2 : Int32) (a3 : Int32) (K : Int32 → FT → RT → JT → Prop) : Prop :=
  ∃ n6, qM_behind_6 n6 F R J a1 a2 a3 (0 : Int32) (0 : Int32) K
set_option maxHeartbeats 4000000 in
set_option maxRecDepth 100000 in
theorem bM_behind {X : XT} {ka : Nat → ClassId} {ad : Nat → Nat} (C : Cx X cX10_behind 6 RX10 (some .int) ka 3) {K : Int32 → FT → RT → JT → Prop} (hret : RetI X cX10_behind .int 0 0 (fun z w => ∃ F R J, w = wM ad ka F R J ∧ K z F R J)) (F : FT) (R : RT) (J : JT) (a1 : Int32) (a2 : Int32) (a3 : Int32) (h : qM_behind F R J a1 a2 a3 K) : G X 0 0 (wM ad ka F R J) 0 [(0, .ref (ad 20)), (1, .int a1), (2, .int a2), (3, .int a3)] [] := by
  unfold qM_behind at h
  refine g_iconst C (0 : Int32) dX10_behind_0 ci_0 ?_
  refine g_istore C [(4, .int (0 : Int32)), (0, .ref (ad 20)), (1, .int a1), (2, .int a2), (3, .int a3)] dX10_behind_1 (by decide) rfl ?_
  refine g_iconst C (0 : Int32) dX10_behind_3 ci_0 ?_
  refine g_istore C [(5, .int (0 : Int32)), (4, .int (0 : Int32)), (0, .ref (ad 20)), (1, .int a1), (2, .int a2), (3, .int a3)] dX10_behind_4 (by decide) rfl ?_
  obtain ⟨n1, h⟩ := h
  exact g_lv [2, 3, 4, 5, 1, 0] rfl (lM_behind_6 C hret n1 _ _ _ _ _ _ _ _ h)
set_option maxHeartbeats 4000000 in
set_option maxRecDepth 100000 in
theorem kM_behind (l : Launch) (D : va_G) (ka : Nat → ClassId) (ad : Nat → Nat) (F : FT) (R : RT) (J : JT) (a1 : Int32) (a2 : Int32) (a3 : Int32) (K : Int32 → FT → RT → JT → Prop) (h : qM_behind F R J a1 a2 a3 K) : MI l D ka yX10_behind cX10_behind 6 (some .int) 3 0 0 [.ref (ad 20), .int a1, .int a2, .int a3] (wM ad ka F R J) (fun z w => ∃ F R J, w = wM ad ka F R J ∧ K z F R J) := MI_of (by decide) (Nat.le_of_ble_eq_true rfl) (fun X C hroom hret => bM_behind C hret F R J a1 a2 a3 h)
set_option maxHeartbeats 4000000 in
set_option maxRecDepth 100000 in
theorem miX10_behind : MInf yX10_behind cX10_behind 6 (some .int) 3 := ⟨(gw_of tw5_2 rfl), (gw_of tp_yX10_behind rfl), (gw_of tw1_6 rfl), (gw_of tw5_3 rfl), by decide +kernel, by decide⟩

def qM_builder (F : FT) (R : RT) (J : JT) (a1 : Int32) (a2 : Int32) (a3 : Int32) (K : Int32 → FT → RT → JT → Prop) : Prop :=
  qM_in F R J a1.toInt64 (0 : Int64) (4 : Int64) (fun r1 F1 R1 J1 => (r1 = 0 → (K (-1 : Int32) F1 R1 J1)) ∧ (¬ r1 = 0 → (qM_in F1 R1 J1 a2.toInt64 (1 : Int64) (9 : Int64) (fun r3 F3 R3 J3 => (r3 = 0 → (K (-1 : Int32) F3 R3 J3)) ∧ (¬ r3 = 0 → (qM_in F3 R3 J3 a3.toInt64 (0 : Int64) (9 : Int64) (fun r5 F5 R5 J5 => (¬ r5 = 0 → ((¬ (R5 0 0) = (4 : Int32) → ((vp_in ((13 : Int32) + ((3 : Int32) * (R5 0 0))) 37) ∧ ((vp_in (((13 : Int32) + ((3 : Int32) * (R5 0 0))) + (1 : Int32)) 37) ∧ ((vp_in (((13 : Int32) + ((3 : Int32) * (R5 0 0))) + (2 : Int32)) 37) ∧ (K (((upd (upd (upd (upd (R5 0) (((13 : Int32) + ((3 : Int32) * (R5 0 0))).toNatClampNeg) a1) ((((13 : Int32) + ((3 : Int32) * (R5 0 0))) + (1 : Int32)).toNatClampNeg) a2) ((((13 : Int32) + ((3 : Int32) * (R5 0 0))) + (2 : Int32)).toNatClampNeg) a3) 0 (((upd (upd (upd (R5 0) (((13 : Int32) + ((3 : Int32) * (R5 0 0))).toNatClampNeg) a1) ((((13 : Int32) + ((3 : Int32) * (R5 0 0))) + (1 : Int32)).toNatClampNeg) a2) ((((13 : Int32) + ((3 : Int32) * (R5 0 0))) + (2 : Int32)).toNatClampNeg) a3) 0) + (1 : Int32))) 0) - (1 : Int32)) (upd F5 9 (0 : Int32)) (va_up (va_up (va_up (va_up R5 0 (upd (R5 0) (((13 : Int32) + ((3 : Int32) * (R5 0 0))).toNatClampNeg) a1)) 0 (upd (upd (R5 0) (((13 : Int32) + ((3 : Int32) * (R5 0 0))).toNatClampNeg) a1) ((((13 : Int32) + ((3 : Int32) * (R5 0 0))) + (1 : Int32)).toNatClampNeg) a2)) 0 (upd (upd (upd (R5 0) (((13 : Int32) + ((3 : Int32) * (R5 0 0))).toNatClampNeg) a1) ((((13 : Int32) + ((3 : Int32) * (R5 0 0))) + (1 : Int32)).toNatClampNeg) a2) ((((13 : Int32) + ((3 : Int32) * (R5 0 0))) + (2 : Int32)).toNatClampNeg) a3)) 0 (upd (upd (upd (upd (R5 0) (((13 : Int32) + ((3 : Int32) * (R5 0 0))).toNatClampNeg) a1) ((((13 : Int32) + ((3 : Int32) * (R5 0 0))) + (1 : Int32)).toNatClampNeg) a2) ((((13 : Int32) + ((3 : Int32) * (R5 0 0))) + (2 : Int32)).toNatClampNeg) a3) 0 (((upd (upd (upd (R5 0) (((13 : Int32) + ((3 : Int32) * (R5 0 0))).toNatClampNeg) a1) ((((13 : Int32) + ((3 : Int32) * (R5 0 0))) + (1 : Int32)).toNatClampNeg) a2) ((((13 : Int32) + ((3 : Int32) * (R5 0 0))) + (2 : Int32)).toNatClampNeg) a3) 0) + (1 : Int32)))) J5))))) ∧ ((R5 0 0) = (4 : Int32) → (K (-3 : Int32) F5 R5 J5)))) ∧ (r5 = 0 → (K (-1 : Int32) F5 R5 J5)))))))))
set_option maxHeartbeats 4000000 in
set_option maxRecDepth 100000 in
theorem bM_builder {X : XT} {ka : Nat → ClassId} {ad : Nat → Nat} (C : Cx X cX10_builder 5 RX10 (some .int) ka 2) {K : Int32 → FT → RT → JT → Prop} (hret : RetI X cX10_builder .int 0 0 (fun z w => ∃ F R J, w = wM ad ka F R J ∧ K z F R J)) (F : FT) (R : RT) (J : JT) (a1 : Int32) (a2 : Int32) (a3 : Int32) (h : qM_builder F R J a1 a2 a3 K) : G X 0 0 (wM ad ka F R J) 0 [(0, .ref (ad 20)), (1, .int a1), (2, .int a2), (3, .int a3)] [] := by
  unfold qM_builder at h
  refine g_iload_n C 1 dX10_builder_0 rfl ?_
  refine g_i2l C dX10_builder_1 ?_
  refine g_lconst C (0 : Int64) dX10_builder_2 rfl ?_
  refine g_ldc2 C (gw_of tw4_135 rfl) dX10_builder_3 ?_
  refine g_callSi0 C (kM_in (xL X) (xD X) ka ad _ _ _ _ _ _ _ h) siX10_in (gw_of tw4_136 rfl) (by decide) rfl rfl (Nat.le_of_ble_eq_true rfl) z00 dX10_builder_6 (fun r1 w hw => ?_)
  obtain ⟨F1, R1, J1, rfl, h⟩ := hw
  refine g_if_eq C 36 dX10_builder_9 (by decide) (fun c2 => ?_) (fun c2 => ?_)
  · have h := h.1 c2
    refine g_iconst C (-1 : Int32) dX10_builder_36 ci_m1 ?_
    exact hret _ _ _ _ ⟨_, _, _, rfl, h⟩ rfl dX10_builder_37
  · have h := h.2 c2
    refine g_iload_n C 2 dX10_builder_12 rfl ?_
    refine g_i2l C dX10_builder_13 ?_
    refine g_lconst C (1 : Int64) dX10_builder_14 rfl ?_
    refine g_ldc2 C (gw_of tw4_139 rfl) dX10_builder_15 ?_
    refine g_callSi0 C (kM_in (xL X) (xD X) ka ad _ _ _ _ _ _ _ h) siX10_in (gw_of tw4_136 rfl) (by decide) rfl rfl (Nat.le_of_ble_eq_true rfl) z00 dX10_builder_18 (fun r3 w hw => ?_)
    obtain ⟨F3, R3, J3, rfl, h⟩ := hw
    refine g_if_eq C 36 dX10_builder_21 (by decide) (fun c4 => ?_) (fun c4 => ?_)
    · have h := h.1 c4
      refine g_iconst C (-1 : Int32) dX10_builder_36 ci_m1 ?_
      exact hret _ _ _ _ ⟨_, _, _, rfl, h⟩ rfl dX10_builder_37
    · have h := h.2 c4
      refine g_iload_n C 3 dX10_builder_24 rfl ?_
      refine g_i2l C dX10_builder_25 ?_
      refine g_lconst C (0 : Int64) dX10_builder_26 rfl ?_
      refine g_ldc2 C (gw_of tw4_139 rfl) dX10_builder_27 ?_
      refine g_callSi0 C (kM_in (xL X) (xD X) ka ad _ _ _ _ _ _ _ h) siX10_in (gw_of tw4_136 rfl) (by decide) rfl rfl (Nat.le_of_ble_eq_true rfl) z00 dX10_builder_30 (fun r5 w hw => ?_)
      obtain ⟨F5, R5, J5, rfl, h⟩ := hw
      refine g_if_ne C 38 dX10_builder_33 (by decide) (fun c6 => ?_) (fun c6 => ?_)
      · have h := h.1 c6
        refine g_aload_n C 0 dX10_builder_38 rfl ?_
        refine Mg_now C dX10_builder_39 ?_
        refine g_iconst C (0 : Int32) dX10_builder_42 ci_0 ?_
        refine Ma_now C (f := R5 0) rfl (0) (by decide) (vp_lit (by decide)) dX10_builder_43 ?_
        refine g_iconst C (4 : Int32) dX10_builder_44 ci_4 ?_
        refine g_icmp_ne C 51 dX10_builder_45 (by decide) (fun c7 => ?_) (fun c7 => ?_)
        · have h := h.1 c7
          refine g_bipush C (13 : Int32) dX10_builder_51 cb_13 ?_
          refine g_iconst C (3 : Int32) dX10_builder_53 ci_3 ?_
          refine g_aload_n C 0 dX10_builder_54 rfl ?_
          refine Mg_now C dX10_builder_55 ?_
          refine g_iconst C (0 : Int32) dX10_builder_58 ci_0 ?_
          refine Ma_now C (f := R5 0) rfl (0) (by decide) (vp_lit (by decide)) dX10_builder_59 ?_
          refine g_imul C dX10_builder_60 ?_
          refine g_iadd C dX10_builder_61 ?_
          refine g_istore C [(4, .int ((13 : Int32) + ((3 : Int32) * (R5 0 0)))), (0, .ref (ad 20)), (1, .int a1), (2, .int a2), (3, .int a3)] dX10_builder_62 (by decide) rfl ?_
          refine g_aload_n C 1 dX10_builder_64 rfl ?_
          refine Mg_now C dX10_builder_65 ?_
          refine g_iload C 0 dX10_builder_68 rfl ?_
          refine g_iload_n C 2 dX10_builder_70 rfl ?_
          refine Ms_now C (f := R5 0) rfl _ rfl h.1 dX10_builder_71 ?_
          have h := h.2
          refine g_aload_n C 1 dX10_builder_72 rfl ?_
          refine Mg_now C dX10_builder_73 ?_
          refine g_iload C 0 dX10_builder_76 rfl ?_
          refine g_iconst C (1 : Int32) dX10_builder_78 ci_1 ?_
          refine g_iadd C dX10_builder_79 ?_
          refine g_iload_n C 3 dX10_builder_80 rfl ?_
          refine Ms_now (R := (va_up R5 0 (upd (R5 0) (((13 : Int32) + ((3 : Int32) * (R5 0 0))).toNatClampNeg) a1))) C (f := upd (R5 0) (((13 : Int32) + ((3 : Int32) * (R5 0 0))).toNatClampNeg) a1) rfl _ rfl h.1 dX10_builder_81 ?_
          have h := h.2
          refine g_aload_n C 1 dX10_builder_82 rfl ?_
          refine Mg_now C dX10_builder_83 ?_
          refine g_iload C 0 dX10_builder_86 rfl ?_
          refine g_iconst C (2 : Int32) dX10_builder_88 ci_2 ?_
          refine g_iadd C dX10_builder_89 ?_
          refine g_iload_n C 4 dX10_builder_90 rfl ?_
          refine Ms_now (R := (va_up (va_up R5 0 (upd (R5 0) (((13 : Int32) + ((3 : Int32) * (R5 0 0))).toNatClampNeg) a1)) 0 (upd (upd (R5 0) (((13 : Int32) + ((3 : Int32) * (R5 0 0))).toNatClampNeg) a1) ((((13 : Int32) + ((3 : Int32) * (R5 0 0))) + (1 : Int32)).toNatClampNeg) a2))) C (f := upd (upd (R5 0) (((13 : Int32) + ((3 : Int32) * (R5 0 0))).toNatClampNeg) a1) ((((13 : Int32) + ((3 : Int32) * (R5 0 0))) + (1 : Int32)).toNatClampNeg) a2) rfl _ rfl h.1 dX10_builder_91 ?_
          have h := h.2
          refine g_aload_n C 1 dX10_builder_92 rfl ?_
          refine Mg_now C dX10_builder_93 ?_
          refine g_iconst C (0 : Int32) dX10_builder_96 ci_0 ?_
          refine g_dup2 C dX10_builder_97 rfl rfl ?_
          refine Ma_now (R := (va_up (va_up (va_up R5 0 (upd (R5 0) (((13 : Int32) + ((3 : Int32) * (R5 0 0))).toNatClampNeg) a1)) 0 (upd (upd (R5 0) (((13 : Int32) + ((3 : Int32) * (R5 0 0))).toNatClampNeg) a1) ((((13 : Int32) + ((3 : Int32) * (R5 0 0))) + (1 : Int32)).toNatClampNeg) a2)) 0 (upd (upd (upd (R5 0) (((13 : Int32) + ((3 : Int32) * (R5 0 0))).toNatClampNeg) a1) ((((13 : Int32) + ((3 : Int32) * (R5 0 0))) + (1 : Int32)).toNatClampNeg) a2) ((((13 : Int32) + ((3 : Int32) * (R5 0 0))) + (2 : Int32)).toNatClampNeg) a3))) C (f := upd (upd (upd (R5 0) (((13 : Int32) + ((3 : Int32) * (R5 0 0))).toNatClampNeg) a1) ((((13 : Int32) + ((3 : Int32) * (R5 0 0))) + (1 : Int32)).toNatClampNeg) a2) ((((13 : Int32) + ((3 : Int32) * (R5 0 0))) + (2 : Int32)).toNatClampNeg) a3) rfl (0) (by decide) (vp_lit (by decide)) dX10_builder_98 ?_
          refine g_iconst C (1 : Int32) dX10_builder_99 ci_1 ?_
          refine g_iadd C dX10_builder_100 ?_
          refine Ms_now (R := (va_up (va_up (va_up R5 0 (upd (R5 0) (((13 : Int32) + ((3 : Int32) * (R5 0 0))).toNatClampNeg) a1)) 0 (upd (upd (R5 0) (((13 : Int32) + ((3 : Int32) * (R5 0 0))).toNatClampNeg) a1) ((((13 : Int32) + ((3 : Int32) * (R5 0 0))) + (1 : Int32)).toNatClampNeg) a2)) 0 (upd (upd (upd (R5 0) (((13 : Int32) + ((3 : Int32) * (R5 0 0))).toNatClampNeg) a1) ((((13 : Int32) + ((3 : Int32) * (R5 0 0))) + (1 : Int32)).toNatClampNeg) a2) ((((13 : Int32) + ((3 : Int32) * (R5 0 0))) + (2 : Int32)).toNatClampNeg) a3))) C (f := upd (upd (upd (R5 0) (((13 : Int32) + ((3 : Int32) * (R5 0 0))).toNatClampNeg) a1) ((((13 : Int32) + ((3 : Int32) * (R5 0 0))) + (1 : Int32)).toNatClampNeg) a2) ((((13 : Int32) + ((3 : Int32) * (R5 0 0))) + (2 : Int32)).toNatClampNeg) a3) rfl (0) (by decide) (vp_lit (by decide)) dX10_builder_101 ?_
          refine g_aload_n C 1 dX10_builder_102 rfl ?_
          refine g_iconst C (0 : Int32) dX10_builder_103 ci_0 ?_
          refine Mp_undos C dX10_builder_104 ?_
          refine g_aload_n C 1 dX10_builder_107 rfl ?_
          refine Mg_now C dX10_builder_108 ?_
          refine g_iconst C (0 : Int32) dX10_builder_111 ci_0 ?_
          refine Ma_now (R := (va_up (va_up (va_up (va_up R5 0 (upd (R5 0) (((13 : Int32) + ((3 : Int32) * (R5 0 0))).toNatClampNeg) a1)) 0 (upd (upd (R5 0) (((13 : Int32) + ((3 : Int32) * (R5 0 0))).toNatClampNeg) a1) ((((13 : Int32) + ((3 : Int32) * (R5 0 0))) + (1 : Int32)).toNatClampNeg) a2)) 0 (upd (upd (upd (R5 0) (((13 : Int32) + ((3 : Int32) * (R5 0 0))).toNatClampNeg) a1) ((((13 : Int32) + ((3 : Int32) * (R5 0 0))) + (1 : Int32)).toNatClampNeg) a2) ((((13 : Int32) + ((3 : Int32) * (R5 0 0))) + (2 : Int32)).toNatClampNeg) a3)) 0 (upd (upd (upd (upd (R5 0) (((13 : Int32) + ((3 : Int32) * (R5 0 0))).toNatClampNeg) a1) ((((13 : Int32) + ((3 : Int32) * (R5 0 0))) + (1 : Int32)).toNatClampNeg) a2) ((((13 : Int32) + ((3 : Int32) * (R5 0 0))) + (2 : Int32)).toNatClampNeg) a3) 0 (((upd (upd (upd (R5 0) (((13 : Int32) + ((3 : Int32) * (R5 0 0))).toNatClampNeg) a1) ((((13 : Int32) + ((3 : Int32) * (R5 0 0))) + (1 : Int32)).toNatClampNeg) a2) ((((13 : Int32) + ((3 : Int32) * (R5 0 0))) + (2 : Int32)).toNatClampNeg) a3) 0) + (1 : Int32))))) C (f := upd (upd (upd (upd (R5 0) (((13 : Int32) + ((3 : Int32) * (R5 0 0))).toNatClampNeg) a1) ((((13 : Int32) + ((3 : Int32) * (R5 0 0))) + (1 : Int32)).toNatClampNeg) a2) ((((13 : Int32) + ((3 : Int32) * (R5 0 0))) + (2 : Int32)).toNatClampNeg) a3) 0 (((upd (upd (upd (R5 0) (((13 : Int32) + ((3 : Int32) * (R5 0 0))).toNatClampNeg) a1) ((((13 : Int32) + ((3 : Int32) * (R5 0 0))) + (1 : Int32)).toNatClampNeg) a2) ((((13 : Int32) + ((3 : Int32) * (R5 0 0))) + (2 : Int32)).toNatClampNeg) a3) 0) + (1 : Int32))) rfl (0) (by decide) (vp_lit (by decide)) dX10_builder_112 ?_
          refine g_iconst C (1 : Int32) dX10_builder_113 ci_1 ?_
          refine g_isub C dX10_builder_114 ?_
          exact hret _ _ _ _ ⟨_, _, _, rfl, h⟩ rfl dX10_builder_115
        · have h := h.2 c7
          refine g_bipush C (-3 : Int32) dX10_builder_48 cb_m3 ?_
          exact hret _ _ _ _ ⟨_, _, _, rfl, h⟩ rfl dX10_builder_50
      · have h := h.2 c6
        refine g_iconst C (-1 : Int32) dX10_builder_36 ci_m1 ?_
        exact hret _ _ _ _ ⟨_, _, _, rfl, h⟩ rfl dX10_builder_37
set_option maxHeartbeats 4000000 in
set_option maxRecDepth 100000 in
theorem kM_builder (l : Launch) (D : va_G) (ka : Nat → ClassId) (ad : Nat → Nat) (F : FT) (R : RT) (J : JT) (a1 : Int32) (a2 : Int32) (a3 : Int32) (K : Int32 → FT → RT → JT → Prop) (h : qM_builder F R J a1 a2 a3 K) : MI l D ka yX10_builder cX10_builder 5 (some .int) 2 0 0 [.ref (ad 20), .int a1, .int a2, .int a3] (wM ad ka F R J) (fun z w => ∃ F R J, w = wM ad ka F R J ∧ K z F R J) := MI_of (by decide) (Nat.le_of_ble_eq_true rfl) (fun X C hroom hret => bM_builder C hret F R J a1 a2 a3 h)
set_option maxHeartbeats 4000000 in
set_option maxRecDepth 100000 in
theorem miX10_builder : MInf yX10_builder cX10_builder 5 (some .int) 3 := ⟨(gw_of tw4_132 rfl), (gw_of tw4_133 rfl), (gw_of tw1_6 rfl), (gw_of tw4_134 rfl), by decide +kernel, by decide⟩

def qM_of (F : FT) (R : RT) (J : JT) (a1 : Int32) (a2 : Int32) (K : Int32 → FT → RT → JT → Prop) : Prop :=
  qM_isBuilder F R J a1 (fun r1 F1 R1 J1 => (r1 = 0 → (K (-1 : Int32) F1 R1 J1)) ∧ (¬ r1 = 0 → (qM_in F1 R1 J1 a2.toInt64 (0 : Int64) (6 : Int64) (fun r3 F3 R3 J3 => (¬ r3 = 0 → (((3 : Int32) ≤ a2 → ((¬ a2 = (3 : Int32) → (qM_laysOf F3 R3 J3 a1 (a2 - (4 : Int32)) (R3 0 7) (fun r7 F7 R7 J7 => K r7 F7 R7 J7))) ∧ (a2 = (3 : Int32) → (qM_haulsOf F3 R3 J3 a1 (R3 0 7) (fun r8 F8 R8 J8 => K r8 F8 R8 J8))))) ∧ (¬ (3 : Int32) ≤ a2 → ((vp_in (((13 : Int32) + ((3 : Int32) * a1)) + a2) 37) ∧ (K (R3 0 ((((13 : Int32) + ((3 : Int32) * a1)) + a2).toNatClampNeg)) F3 R3 J3))))) ∧ (r3 = 0 → (K (-1 : Int32) F3 R3 J3))))))
set_option maxHeartbeats 4000000 in
set_option maxRecDepth 100000 in
theorem bM_of {X : XT} {ka : Nat → ClassId} {ad : Nat → Nat} (C : Cx X cX10_of 3 RX10 (some .int) ka 3) {K : Int32 → FT → RT → JT → Prop} (hret : RetI X cX10_of .int 0 0 (fun z w => ∃ F R J, w = wM ad ka F R J ∧ K z F R J)) (F : FT) (R : RT) (J : JT) (a1 : Int32) (a2 : Int32) (h : qM_of F R J a1 a2 K) : G X 0 0 (wM ad ka F R J) 0 [(0, .ref (ad 20)), (1, .int a1), (2, .int a2)] [] := by
  unfold qM_of at h
  refine g_aload_n C 0 dX10_of_0 rfl ?_
  refine g_iload_n C 1 dX10_of_1 rfl ?_
  refine g_callVi0 C (kM_isBuilder (xL X) (xD X) ka ad _ _ _ _ _ h) miX10_isBuilder (gw_of tw4_144 rfl) (by decide) wM_at rfl rfl rfl (Nat.le_of_ble_eq_true rfl) z00 dX10_of_2 (fun r1 w hw => ?_)
  obtain ⟨F1, R1, J1, rfl, h⟩ := hw
  refine g_if_eq C 20 dX10_of_5 (by decide) (fun c2 => ?_) (fun c2 => ?_)
  · have h := h.1 c2
    refine g_iconst C (-1 : Int32) dX10_of_20 ci_m1 ?_
    exact hret _ _ _ _ ⟨_, _, _, rfl, h⟩ rfl dX10_of_21
  · have h := h.2 c2
    refine g_iload_n C 2 dX10_of_8 rfl ?_
    refine g_i2l C dX10_of_9 ?_
    refine g_lconst C (0 : Int64) dX10_of_10 rfl ?_
    refine g_ldc2 C (gw_of tw4_148 rfl) dX10_of_11 ?_
    refine g_callSi0 C (kM_in (xL X) (xD X) ka ad _ _ _ _ _ _ _ h) siX10_in (gw_of tw4_136 rfl) (by decide) rfl rfl (Nat.le_of_ble_eq_true rfl) z00 dX10_of_14 (fun r3 w hw => ?_)
    obtain ⟨F3, R3, J3, rfl, h⟩ := hw
    refine g_if_ne C 22 dX10_of_17 (by decide) (fun c4 => ?_) (fun c4 => ?_)
    · have h := h.1 c4
      refine g_iload_n C 2 dX10_of_22 rfl ?_
      refine g_iconst C (3 : Int32) dX10_of_23 ci_3 ?_
      refine g_icmp_ge C 43 dX10_of_24 (by decide) (fun c5 => ?_) (fun c5 => ?_)
      · have h := h.1 c5
        refine g_iload_n C 2 dX10_of_43 rfl ?_
        refine g_iconst C (3 : Int32) dX10_of_44 ci_3 ?_
        refine g_icmp_ne C 63 dX10_of_45 (by decide) (fun c6 => ?_) (fun c6 => ?_)
        · have h := h.1 c6
          refine g_aload_n C 0 dX10_of_63 rfl ?_
          refine g_iload_n C 1 dX10_of_64 rfl ?_
          refine g_iload_n C 2 dX10_of_65 rfl ?_
          refine g_iconst C (4 : Int32) dX10_of_66 ci_4 ?_
          refine g_isub C dX10_of_67 ?_
          refine g_aload_n C 0 dX10_of_68 rfl ?_
          refine Mg_now C dX10_of_69 ?_
          refine g_bipush C (7 : Int32) dX10_of_72 cb_7 ?_
          refine Ma_now C (f := R3 0) rfl (7) (by decide) (vp_lit (by decide)) dX10_of_74 ?_
          refine g_callVi0 C (kM_laysOf (xL X) (xD X) ka ad _ _ _ _ _ _ _ h) miX10_laysOf (gw_of tw4_153 rfl) (by decide) wM_at rfl rfl rfl (Nat.le_of_ble_eq_true rfl) z00 dX10_of_75 (fun r7 w hw => ?_)
          obtain ⟨F7, R7, J7, rfl, h⟩ := hw
          exact hret _ _ _ _ ⟨_, _, _, rfl, h⟩ rfl dX10_of_78
        · have h := h.2 c6
          refine g_aload_n C 0 dX10_of_48 rfl ?_
          refine g_iload_n C 1 dX10_of_49 rfl ?_
          refine g_aload_n C 0 dX10_of_50 rfl ?_
          refine Mg_now C dX10_of_51 ?_
          refine g_bipush C (7 : Int32) dX10_of_54 cb_7 ?_
          refine Ma_now C (f := R3 0) rfl (7) (by decide) (vp_lit (by decide)) dX10_of_56 ?_
          refine g_callVi0 C (kM_haulsOf (xL X) (xD X) ka ad _ _ _ _ _ _ h) miX10_haulsOf (gw_of tw4_149 rfl) (by decide) wM_at rfl rfl rfl (Nat.le_of_ble_eq_true rfl) z00 dX10_of_57 (fun r8 w hw => ?_)
          obtain ⟨F8, R8, J8, rfl, h⟩ := hw
          refine g_goto C 78 dX10_of_60 (by decide) ?_
          exact hret _ _ _ _ ⟨_, _, _, rfl, h⟩ rfl dX10_of_78
      · have h := h.2 c5
        refine g_aload_n C 0 dX10_of_27 rfl ?_
        refine Mg_now C dX10_of_28 ?_
        refine g_bipush C (13 : Int32) dX10_of_31 cb_13 ?_
        refine g_iconst C (3 : Int32) dX10_of_33 ci_3 ?_
        refine g_iload_n C 1 dX10_of_34 rfl ?_
        refine g_imul C dX10_of_35 ?_
        refine g_iadd C dX10_of_36 ?_
        refine g_iload_n C 2 dX10_of_37 rfl ?_
        refine g_iadd C dX10_of_38 ?_
        refine Ma_now C (f := R3 0) rfl _ rfl h.1 dX10_of_39 ?_
        have h := h.2
        refine g_goto C 78 dX10_of_40 (by decide) ?_
        exact hret _ _ _ _ ⟨_, _, _, rfl, h⟩ rfl dX10_of_78
    · have h := h.2 c4
      refine g_iconst C (-1 : Int32) dX10_of_20 ci_m1 ?_
      exact hret _ _ _ _ ⟨_, _, _, rfl, h⟩ rfl dX10_of_21
set_option maxHeartbeats 4000000 in
set_option maxRecDepth 100000 in
theorem kM_of (l : Launch) (D : va_G) (ka : Nat → ClassId) (ad : Nat → Nat) (F : FT) (R : RT) (J : JT) (a1 : Int32) (a2 : Int32) (K : Int32 → FT → RT → JT → Prop) (h : qM_of F R J a1 a2 K) : MI l D ka yX10_of cX10_of 3 (some .int) 3 0 0 [.ref (ad 20), .int a1, .int a2] (wM ad ka F R J) (fun z w => ∃ F R J, w = wM ad ka F R J ∧ K z F R J) := MI_of (by decide) (Nat.le_of_ble_eq_true rfl) (fun X C hroom hret => bM_of C hret F R J a1 a2 h)
set_option maxHeartbeats 4000000 in
set_option maxRecDepth 100000 in
theorem miX10_of : MInf yX10_of cX10_of 3 (some .int) 2 := ⟨(gw_of tw4_141 rfl), (gw_of tw4_142 rfl), (gw_of tw1_6 rfl), (gw_of tw4_143 rfl), by decide +kernel, by decide⟩

def qM_wall_136 (F : FT) (R : RT) (J : JT) (v1 : Int32) (v2 : Int32) (v4 : Int32) (s0 : Int32) (K : Int32 → FT → RT → JT → Prop) : Prop :=
  (v2 < v4 → (K (-2 : Int32) F R J)) ∧ (¬ v2 < v4 → ((v2 ≤ s0 → ((vp_in ((2 : Int32) + v1) 37) ∧ ((vp_in ((2 : Int32) + v1) 37) ∧ (K (R 0 (((2 : Int32) + v1).toNatClampNeg)) F (va_up R 0 (upd (R 0) (((2 : Int32) + v1).toNatClampNeg) v2)) J)))) ∧ (¬ v2 ≤ s0 → (K (-2 : Int32) F R J))))
set_option maxHeartbeats 4000000 in
set_option maxRecDepth 100000 in
theorem lM_wall_136 {X : XT} {ka : Nat → ClassId} {ad : Nat → Nat} (C : Cx X cX10_wall 7 RX10 (some .int) ka 2) {K : Int32 → FT → RT → JT → Prop} (hret : RetI X cX10_wall .int 0 0 (fun z w => ∃ F R J, w = wM ad ka F R J ∧ K z F R J)) (F : FT) (R : RT) (J : JT) (v1 : Int32) (v2 : Int32) (v4 : Int32) (s0 : Int32) (h : qM_wall_136 F R J v1 v2 v4 s0 K) : G X 0 0 (wM ad ka F R J) 136 [(0, .ref (ad 20)), (1, .int v1), (2, .int v2), (4, .int v4)] [.int s0] := by
  unfold qM_wall_136 at h
  refine g_istore C [(5, .int s0), (0, .ref (ad 20)), (1, .int v1), (2, .int v2), (4, .int v4)] dX10_wall_136 (by decide) rfl ?_
  refine g_iload_n C 3 dX10_wall_138 rfl ?_
  refine g_iload C 4 dX10_wall_139 rfl ?_
  refine g_icmp_lt C 150 dX10_wall_141 (by decide) (fun c1 => ?_) (fun c1 => ?_)
  · have h := h.1 c1
    refine g_bipush C (-2 : Int32) dX10_wall_150 cb_m2 ?_
    exact hret _ _ _ _ ⟨_, _, _, rfl, h⟩ rfl dX10_wall_152
  · have h := h.2 c1
    refine g_iload_n C 3 dX10_wall_144 rfl ?_
    refine g_iload C 0 dX10_wall_145 rfl ?_
    refine g_icmp_le C 153 dX10_wall_147 (by decide) (fun c2 => ?_) (fun c2 => ?_)
    · have h := h.1 c2
      refine g_aload_n C 1 dX10_wall_153 rfl ?_
      refine Mg_now C dX10_wall_154 ?_
      refine g_iconst C (2 : Int32) dX10_wall_157 ci_2 ?_
      refine g_iload_n C 2 dX10_wall_158 rfl ?_
      refine g_iadd C dX10_wall_159 ?_
      refine Ma_now C (f := R 0) rfl _ rfl h.1 dX10_wall_160 ?_
      have h := h.2
      refine g_istore C [(6, .int (R 0 (((2 : Int32) + v1).toNatClampNeg))), (5, .int s0), (0, .ref (ad 20)), (1, .int v1), (2, .int v2), (4, .int v4)] dX10_wall_161 (by decide) rfl ?_
      refine g_aload_n C 2 dX10_wall_163 rfl ?_
      refine Mg_now C dX10_wall_164 ?_
      refine g_iconst C (2 : Int32) dX10_wall_167 ci_2 ?_
      refine g_iload_n C 3 dX10_wall_168 rfl ?_
      refine g_iadd C dX10_wall_169 ?_
      refine g_iload_n C 4 dX10_wall_170 rfl ?_
      refine Ms_now C (f := R 0) rfl _ rfl h.1 dX10_wall_171 ?_
      have h := h.2
      refine g_iload C 0 dX10_wall_172 rfl ?_
      exact hret _ _ _ _ ⟨_, _, _, rfl, h⟩ rfl dX10_wall_174
    · have h := h.2 c2
      refine g_bipush C (-2 : Int32) dX10_wall_150 cb_m2 ?_
      exact hret _ _ _ _ ⟨_, _, _, rfl, h⟩ rfl dX10_wall_152
def qM_wall_97 (F : FT) (R : RT) (J : JT) (v1 : Int32) (v2 : Int32) (s0 : Int32) (K : Int32 → FT → RT → JT → Prop) : Prop :=
  (¬ v1 = (2 : Int32) → ((¬ v1 = (3 : Int32) → (qM_wall_136 F R J v1 v2 s0 (200 : Int32) K)) ∧ (v1 = (3 : Int32) → (qM_wall_136 F R J v1 v2 s0 ((10 : Int32) - (R 0 4)) K)))) ∧ (v1 = (2 : Int32) → (qM_wall_136 F R J v1 v2 s0 ((10 : Int32) - (R 0 5)) K))
set_option maxHeartbeats 4000000 in
set_option maxRecDepth 100000 in
theorem lM_wall_97 {X : XT} {ka : Nat → ClassId} {ad : Nat → Nat} (C : Cx X cX10_wall 7 RX10 (some .int) ka 2) {K : Int32 → FT → RT → JT → Prop} (hret : RetI X cX10_wall .int 0 0 (fun z w => ∃ F R J, w = wM ad ka F R J ∧ K z F R J)) (F : FT) (R : RT) (J : JT) (v1 : Int32) (v2 : Int32) (s0 : Int32) (h : qM_wall_97 F R J v1 v2 s0 K) : G X 0 0 (wM ad ka F R J) 97 [(0, .ref (ad 20)), (1, .int v1), (2, .int v2)] [.int s0] := by
  unfold qM_wall_97 at h
  refine g_istore C [(4, .int s0), (0, .ref (ad 20)), (1, .int v1), (2, .int v2)] dX10_wall_97 (by decide) rfl ?_
  refine g_iload_n C 2 dX10_wall_99 rfl ?_
  refine g_iconst C (2 : Int32) dX10_wall_100 ci_2 ?_
  refine g_icmp_ne C 116 dX10_wall_101 (by decide) (fun c1 => ?_) (fun c1 => ?_)
  · have h := h.1 c1
    refine g_iload_n C 2 dX10_wall_116 rfl ?_
    refine g_iconst C (3 : Int32) dX10_wall_117 ci_3 ?_
    refine g_icmp_ne C 133 dX10_wall_118 (by decide) (fun c2 => ?_) (fun c2 => ?_)
    · have h := h.1 c2
      refine g_sipush C (200 : Int32) dX10_wall_133 cs_200 ?_
      exact g_lv [1, 2, 3, 0] rfl (lM_wall_136 C hret _ _ _ _ _ _ _ h)
    · have h := h.2 c2
      refine g_bipush C (10 : Int32) dX10_wall_121 cb_10 ?_
      refine g_aload_n C 1 dX10_wall_123 rfl ?_
      refine Mg_now C dX10_wall_124 ?_
      refine g_iconst C (4 : Int32) dX10_wall_127 ci_4 ?_
      refine Ma_now C (f := R 0) rfl (4) (by decide) (vp_lit (by decide)) dX10_wall_128 ?_
      refine g_isub C dX10_wall_129 ?_
      refine g_goto C 136 dX10_wall_130 (by decide) ?_
      exact g_lv [1, 2, 3, 0] rfl (lM_wall_136 C hret _ _ _ _ _ _ _ h)
  · have h := h.2 c1
    refine g_bipush C (10 : Int32) dX10_wall_104 cb_10 ?_
    refine g_aload_n C 1 dX10_wall_106 rfl ?_
    refine Mg_now C dX10_wall_107 ?_
    refine g_iconst C (5 : Int32) dX10_wall_110 ci_5 ?_
    refine Ma_now C (f := R 0) rfl (5) (by decide) (vp_lit (by decide)) dX10_wall_111 ?_
    refine g_isub C dX10_wall_112 ?_
    refine g_goto C 136 dX10_wall_113 (by decide) ?_
    exact g_lv [1, 2, 3, 0] rfl (lM_wall_136 C hret _ _ _ _ _ _ _ h)
def qM_wall_60 (F : FT) (R : RT) (J : JT) (v1 : Int32) (v2 : Int32) (s0 : Int32) (K : Int32 → FT → RT → JT → Prop) : Prop :=
  (¬ s0 = 0 → ((¬ v1 = 0 → ((¬ v1 = (1 : Int32) → (qM_wall_97 F R J v1 v2 (0 : Int32) K)) ∧ (v1 = (1 : Int32) → (qM_wall_97 F R J v1 v2 (R 0 6) K)))) ∧ (v1 = 0 → (qM_wall_97 F R J v1 v2 (R 0 7) K)))) ∧ (s0 = 0 → (K (-1 : Int32) F R J))
set_option maxHeartbeats 4000000 in
set_option maxRecDepth 100000 in
theorem lM_wall_60 {X : XT} {ka : Nat → ClassId} {ad : Nat → Nat} (C : Cx X cX10_wall 7 RX10 (some .int) ka 2) {K : Int32 → FT → RT → JT → Prop} (hret : RetI X cX10_wall .int 0 0 (fun z w => ∃ F R J, w = wM ad ka F R J ∧ K z F R J)) (F : FT) (R : RT) (J : JT) (v1 : Int32) (v2 : Int32) (s0 : Int32) (h : qM_wall_60 F R J v1 v2 s0 K) : G X 0 0 (wM ad ka F R J) 60 [(0, .ref (ad 20)), (1, .int v1), (2, .int v2)] [.int s0] := by
  unfold qM_wall_60 at h
  refine g_istore_n C [(3, .int s0), (0, .ref (ad 20)), (1, .int v1), (2, .int v2)] dX10_wall_60 (by decide) rfl ?_
  refine g_iload_n C 0 dX10_wall_61 rfl ?_
  refine g_if_ne C 67 dX10_wall_62 (by decide) (fun c1 => ?_) (fun c1 => ?_)
  · have h := h.1 c1
    refine g_iload_n C 2 dX10_wall_67 rfl ?_
    refine g_if_ne C 81 dX10_wall_68 (by decide) (fun c2 => ?_) (fun c2 => ?_)
    · have h := h.1 c2
      refine g_iload_n C 2 dX10_wall_81 rfl ?_
      refine g_iconst C (1 : Int32) dX10_wall_82 ci_1 ?_
      refine g_icmp_ne C 96 dX10_wall_83 (by decide) (fun c3 => ?_) (fun c3 => ?_)
      · have h := h.1 c3
        refine g_iconst C (0 : Int32) dX10_wall_96 ci_0 ?_
        exact g_lv [1, 2, 3] rfl (lM_wall_97 C hret _ _ _ _ _ _ h)
      · have h := h.2 c3
        refine g_aload_n C 1 dX10_wall_86 rfl ?_
        refine Mg_now C dX10_wall_87 ?_
        refine g_bipush C (6 : Int32) dX10_wall_90 cb_6 ?_
        refine Ma_now C (f := R 0) rfl (6) (by decide) (vp_lit (by decide)) dX10_wall_92 ?_
        refine g_goto C 97 dX10_wall_93 (by decide) ?_
        exact g_lv [1, 2, 3] rfl (lM_wall_97 C hret _ _ _ _ _ _ h)
    · have h := h.2 c2
      refine g_aload_n C 1 dX10_wall_71 rfl ?_
      refine Mg_now C dX10_wall_72 ?_
      refine g_bipush C (7 : Int32) dX10_wall_75 cb_7 ?_
      refine Ma_now C (f := R 0) rfl (7) (by decide) (vp_lit (by decide)) dX10_wall_77 ?_
      refine g_goto C 97 dX10_wall_78 (by decide) ?_
      exact g_lv [1, 2, 3] rfl (lM_wall_97 C hret _ _ _ _ _ _ h)
  · have h := h.2 c1
    refine g_iconst C (-1 : Int32) dX10_wall_65 ci_m1 ?_
    exact hret _ _ _ _ ⟨_, _, _, rfl, h⟩ rfl dX10_wall_66
def qM_wall_59 (F : FT) (R : RT) (J : JT) (v1 : Int32) (v2 : Int32) (K : Int32 → FT → RT → JT → Prop) : Prop :=
  qM_wall_60 F R J v1 v2 (0 : Int32) K
set_option maxHeartbeats 4000000 in
set_option maxRecDepth 100000 in
theorem lM_wall_59 {X : XT} {ka : Nat → ClassId} {ad : Nat → Nat} (C : Cx X cX10_wall 7 RX10 (some .int) ka 2) {K : Int32 → FT → RT → JT → Prop} (hret : RetI X cX10_wall .int 0 0 (fun z w => ∃ F R J, w = wM ad ka F R J ∧ K z F R J)) (F : FT) (R : RT) (J : JT) (v1 : Int32) (v2 : Int32) (h : qM_wall_59 F R J v1 v2 K) : G X 0 0 (wM ad ka F R J) 59 [(0, .ref (ad 20)), (1, .int v1), (2, .int v2)] [] := by
  unfold qM_wall_59 at h
  refine g_iconst C (0 : Int32) dX10_wall_59 ci_0 ?_
  exact g_lv [0, 1, 2] rfl (lM_wall_60 C hret _ _ _ _ _ _ h)
def qM_wall_43 (F : FT) (R : RT) (J : JT) (v1 : Int32) (v2 : Int32) (K : Int32 → FT → RT → JT → Prop) : Prop :=
  qM_in F R J v2.toInt64 (0 : Int64) (10 : Int64) (fun r1 F1 R1 J1 => (r1 = 0 → (qM_wall_59 F1 R1 J1 v1 v2 K)) ∧ (¬ r1 = 0 → (qM_wall_60 F1 R1 J1 v1 v2 (1 : Int32) K)))
set_option maxHeartbeats 4000000 in
set_option maxRecDepth 100000 in
theorem lM_wall_43 {X : XT} {ka : Nat → ClassId} {ad : Nat → Nat} (C : Cx X cX10_wall 7 RX10 (some .int) ka 2) {K : Int32 → FT → RT → JT → Prop} (hret : RetI X cX10_wall .int 0 0 (fun z w => ∃ F R J, w = wM ad ka F R J ∧ K z F R J)) (F : FT) (R : RT) (J : JT) (v1 : Int32) (v2 : Int32) (h : qM_wall_43 F R J v1 v2 K) : G X 0 0 (wM ad ka F R J) 43 [(0, .ref (ad 20)), (1, .int v1), (2, .int v2)] [] := by
  unfold qM_wall_43 at h
  refine g_iload_n C 2 dX10_wall_43 rfl ?_
  refine g_i2l C dX10_wall_44 ?_
  refine g_lconst C (0 : Int64) dX10_wall_45 rfl ?_
  refine g_ldc2 C (gw_of tw4_163 rfl) dX10_wall_46 ?_
  refine g_callSi0 C (kM_in (xL X) (xD X) ka ad _ _ _ _ _ _ _ h) siX10_in (gw_of tw4_136 rfl) (by decide) rfl rfl (Nat.le_of_ble_eq_true rfl) z00 dX10_wall_49 (fun r1 w hw => ?_)
  obtain ⟨F1, R1, J1, rfl, h⟩ := hw
  refine g_if_eq C 59 dX10_wall_52 (by decide) (fun c2 => ?_) (fun c2 => ?_)
  · have h := h.1 c2
    exact g_lv [0, 1, 2] rfl (lM_wall_59 C hret _ _ _ _ _ h)
  · have h := h.2 c2
    refine g_iconst C (1 : Int32) dX10_wall_55 ci_1 ?_
    refine g_goto C 60 dX10_wall_56 (by decide) ?_
    exact g_lv [0, 1, 2] rfl (lM_wall_60 C hret _ _ _ _ _ _ h)
def qM_wall (F : FT) (R : RT) (J : JT) (a1 : Int32) (a2 : Int32) (K : Int32 → FT → RT → JT → Prop) : Prop :=
  (¬ a1 = 0 → ((¬ a1 = (1 : Int32) → ((a1 = (2 : Int32) → (qM_wall_43 F R J a1 a2 K)) ∧ (¬ a1 = (2 : Int32) → ((¬ a1 = (3 : Int32) → (qM_wall_59 F R J a1 a2 K)) ∧ (a1 = (3 : Int32) → (qM_wall_43 F R J a1 a2 K)))))) ∧ (a1 = (1 : Int32) → (qM_in F R J a2.toInt64 (1 : Int64) (40 : Int64) (fun r5 F5 R5 J5 => qM_wall_60 F5 R5 J5 a1 a2 r5 K))))) ∧ (a1 = 0 → (qM_in F R J a2.toInt64 (1 : Int64) (200 : Int64) (fun r6 F6 R6 J6 => qM_wall_60 F6 R6 J6 a1 a2 r6 K)))
set_option maxHeartbeats 4000000 in
set_option maxRecDepth 100000 in
theorem bM_wall {X : XT} {ka : Nat → ClassId} {ad : Nat → Nat} (C : Cx X cX10_wall 7 RX10 (some .int) ka 2) {K : Int32 → FT → RT → JT → Prop} (hret : RetI X cX10_wall .int 0 0 (fun z w => ∃ F R J, w = wM ad ka F R J ∧ K z F R J)) (F : FT) (R : RT) (J : JT) (a1 : Int32) (a2 : Int32) (h : qM_wall F R J a1 a2 K) : G X 0 0 (wM ad ka F R J) 0 [(0, .ref (ad 20)), (1, .int a1), (2, .int a2)] [] := by
  unfold qM_wall at h
  refine g_iload_n C 1 dX10_wall_0 rfl ?_
  refine g_if_ne C 16 dX10_wall_1 (by decide) (fun c1 => ?_) (fun c1 => ?_)
  · have h := h.1 c1
    refine g_iload_n C 1 dX10_wall_16 rfl ?_
    refine g_iconst C (1 : Int32) dX10_wall_17 ci_1 ?_
    refine g_icmp_ne C 33 dX10_wall_18 (by decide) (fun c2 => ?_) (fun c2 => ?_)
    · have h := h.1 c2
      refine g_iload_n C 1 dX10_wall_33 rfl ?_
      refine g_iconst C (2 : Int32) dX10_wall_34 ci_2 ?_
      refine g_icmp_eq C 43 dX10_wall_35 (by decide) (fun c3 => ?_) (fun c3 => ?_)
      · have h := h.1 c3
        exact g_lv [0, 1, 2] rfl (lM_wall_43 C hret _ _ _ _ _ h)
      · have h := h.2 c3
        refine g_iload_n C 1 dX10_wall_38 rfl ?_
        refine g_iconst C (3 : Int32) dX10_wall_39 ci_3 ?_
        refine g_icmp_ne C 59 dX10_wall_40 (by decide) (fun c4 => ?_) (fun c4 => ?_)
        · have h := h.1 c4
          exact g_lv [0, 1, 2] rfl (lM_wall_59 C hret _ _ _ _ _ h)
        · have h := h.2 c4
          exact g_lv [0, 1, 2] rfl (lM_wall_43 C hret _ _ _ _ _ h)
    · have h := h.2 c2
      refine g_iload_n C 2 dX10_wall_21 rfl ?_
      refine g_i2l C dX10_wall_22 ?_
      refine g_lconst C (1 : Int64) dX10_wall_23 rfl ?_
      refine g_ldc2 C (gw_of tw4_162 rfl) dX10_wall_24 ?_
      refine g_callSi0 C (kM_in (xL X) (xD X) ka ad _ _ _ _ _ _ _ h) siX10_in (gw_of tw4_136 rfl) (by decide) rfl rfl (Nat.le_of_ble_eq_true rfl) z00 dX10_wall_27 (fun r5 w hw => ?_)
      obtain ⟨F5, R5, J5, rfl, h⟩ := hw
      refine g_goto C 60 dX10_wall_30 (by decide) ?_
      exact g_lv [0, 1, 2] rfl (lM_wall_60 C hret _ _ _ _ _ _ h)
  · have h := h.2 c1
    refine g_iload_n C 2 dX10_wall_4 rfl ?_
    refine g_i2l C dX10_wall_5 ?_
    refine g_lconst C (1 : Int64) dX10_wall_6 rfl ?_
    refine g_ldc2 C (gw_of tw4_161 rfl) dX10_wall_7 ?_
    refine g_callSi0 C (kM_in (xL X) (xD X) ka ad _ _ _ _ _ _ _ h) siX10_in (gw_of tw4_136 rfl) (by decide) rfl rfl (Nat.le_of_ble_eq_true rfl) z00 dX10_wall_10 (fun r6 w hw => ?_)
    obtain ⟨F6, R6, J6, rfl, h⟩ := hw
    refine g_goto C 60 dX10_wall_13 (by decide) ?_
    exact g_lv [0, 1, 2] rfl (lM_wall_60 C hret _ _ _ _ _ _ h)
set_option maxHeartbeats 4000000 in
set_option maxRecDepth 100000 in
theorem kM_wall (l : Launch) (D : va_G) (ka : Nat → ClassId) (ad : Nat → Nat) (F : FT) (R : RT) (J : JT) (a1 : Int32) (a2 : Int32) (K : Int32 → FT → RT → JT → Prop) (h : qM_wall F R J a1 a2 K) : MI l D ka yX10_wall cX10_wall 7 (some .int) 2 0 0 [.ref (ad 20), .int a1, .int a2] (wM ad ka F R J) (fun z w => ∃ F R J, w = wM ad ka F R J ∧ K z F R J) := MI_of (by decide) (Nat.le_of_ble_eq_true rfl) (fun X C hroom hret => bM_wall C hret F R J a1 a2 h)
set_option maxHeartbeats 4000000 in
set_option maxRecDepth 100000 in
theorem miX10_wall : MInf yX10_wall cX10_wall 7 (some .int) 2 := ⟨(gw_of tw4_158 rfl), (gw_of tw4_159 rfl), (gw_of tw1_6 rfl), (gw_of tw4_160 rfl), by decide +kernel, by decide⟩

def qM_hindrance_32 (F : FT) (R : RT) (J : JT) (v1 : Int32) (v2 : Int32) (K : Int32 → FT → RT → JT → Prop) : Prop :=
  (¬ (R 0 1) = (6 : Int32) → ((vp_in ((25 : Int32) + ((2 : Int32) * (R 0 1))) 37) ∧ ((vp_in (((25 : Int32) + ((2 : Int32) * ((upd (R 0) (((25 : Int32) + ((2 : Int32) * (R 0 1))).toNatClampNeg) v1) 1))) + (1 : Int32)) 37) ∧ (K (((upd (upd (upd (R 0) (((25 : Int32) + ((2 : Int32) * (R 0 1))).toNatClampNeg) v1) ((((25 : Int32) + ((2 : Int32) * ((upd (R 0) (((25 : Int32) + ((2 : Int32) * (R 0 1))).toNatClampNeg) v1) 1))) + (1 : Int32)).toNatClampNeg) v2) 1 (((upd (upd (R 0) (((25 : Int32) + ((2 : Int32) * (R 0 1))).toNatClampNeg) v1) ((((25 : Int32) + ((2 : Int32) * ((upd (R 0) (((25 : Int32) + ((2 : Int32) * (R 0 1))).toNatClampNeg) v1) 1))) + (1 : Int32)).toNatClampNeg) v2) 1) + (1 : Int32))) 1) - (1 : Int32)) (upd F 9 (0 : Int32)) (va_up (va_up (va_up R 0 (upd (R 0) (((25 : Int32) + ((2 : Int32) * (R 0 1))).toNatClampNeg) v1)) 0 (upd (upd (R 0) (((25 : Int32) + ((2 : Int32) * (R 0 1))).toNatClampNeg) v1) ((((25 : Int32) + ((2 : Int32) * ((upd (R 0) (((25 : Int32) + ((2 : Int32) * (R 0 1))).toNatClampNeg) v1) 1))) + (1 : Int32)).toNatClampNeg) v2)) 0 (upd (upd (upd (R 0) (((25 : Int32) + ((2 : Int32) * (R 0 1))).toNatClampNeg) v1) ((((25 : Int32) + ((2 : Int32) * ((upd (R 0) (((25 : Int32) + ((2 : Int32) * (R 0 1))).toNatClampNeg) v1) 1))) + (1 : Int32)).toNatClampNeg) v2) 1 (((upd (upd (R 0) (((25 : Int32) + ((2 : Int32) * (R 0 1))).toNatClampNeg) v1) ((((25 : Int32) + ((2 : Int32) * ((upd (R 0) (((25 : Int32) + ((2 : Int32) * (R 0 1))).toNatClampNeg) v1) 1))) + (1 : Int32)).toNatClampNeg) v2) 1) + (1 : Int32)))) J)))) ∧ ((R 0 1) = (6 : Int32) → (K (-3 : Int32) F R J))
set_option maxHeartbeats 4000000 in
set_option maxRecDepth 100000 in
theorem lM_hindrance_32 {X : XT} {ka : Nat → ClassId} {ad : Nat → Nat} (C : Cx X cX10_hindrance 3 RX10 (some .int) ka 2) {K : Int32 → FT → RT → JT → Prop} (hret : RetI X cX10_hindrance .int 0 0 (fun z w => ∃ F R J, w = wM ad ka F R J ∧ K z F R J)) (F : FT) (R : RT) (J : JT) (v1 : Int32) (v2 : Int32) (h : qM_hindrance_32 F R J v1 v2 K) : G X 0 0 (wM ad ka F R J) 32 [(0, .ref (ad 20)), (1, .int v1), (2, .int v2)] [] := by
  unfold qM_hindrance_32 at h
  refine g_aload_n C 0 dX10_hindrance_32 rfl ?_
  refine Mg_now C dX10_hindrance_33 ?_
  refine g_iconst C (1 : Int32) dX10_hindrance_36 ci_1 ?_
  refine Ma_now C (f := R 0) rfl (1) (by decide) (vp_lit (by decide)) dX10_hindrance_37 ?_
  refine g_bipush C (6 : Int32) dX10_hindrance_38 cb_6 ?_
  refine g_icmp_ne C 46 dX10_hindrance_40 (by decide) (fun c1 => ?_) (fun c1 => ?_)
  · have h := h.1 c1
    refine g_aload_n C 0 dX10_hindrance_46 rfl ?_
    refine Mg_now C dX10_hindrance_47 ?_
    refine g_bipush C (25 : Int32) dX10_hindrance_50 cb_25 ?_
    refine g_iconst C (2 : Int32) dX10_hindrance_52 ci_2 ?_
    refine g_aload_n C 0 dX10_hindrance_53 rfl ?_
    refine Mg_now C dX10_hindrance_54 ?_
    refine g_iconst C (1 : Int32) dX10_hindrance_57 ci_1 ?_
    refine Ma_now C (f := R 0) rfl (1) (by decide) (vp_lit (by decide)) dX10_hindrance_58 ?_
    refine g_imul C dX10_hindrance_59 ?_
    refine g_iadd C dX10_hindrance_60 ?_
    refine g_iload_n C 1 dX10_hindrance_61 rfl ?_
    refine Ms_now C (f := R 0) rfl _ rfl h.1 dX10_hindrance_62 ?_
    have h := h.2
    refine g_aload_n C 0 dX10_hindrance_63 rfl ?_
    refine Mg_now C dX10_hindrance_64 ?_
    refine g_bipush C (25 : Int32) dX10_hindrance_67 cb_25 ?_
    refine g_iconst C (2 : Int32) dX10_hindrance_69 ci_2 ?_
    refine g_aload_n C 0 dX10_hindrance_70 rfl ?_
    refine Mg_now C dX10_hindrance_71 ?_
    refine g_iconst C (1 : Int32) dX10_hindrance_74 ci_1 ?_
    refine Ma_now (R := (va_up R 0 (upd (R 0) (((25 : Int32) + ((2 : Int32) * (R 0 1))).toNatClampNeg) v1))) C (f := upd (R 0) (((25 : Int32) + ((2 : Int32) * (R 0 1))).toNatClampNeg) v1) rfl (1) (by decide) (vp_lit (by decide)) dX10_hindrance_75 ?_
    refine g_imul C dX10_hindrance_76 ?_
    refine g_iadd C dX10_hindrance_77 ?_
    refine g_iconst C (1 : Int32) dX10_hindrance_78 ci_1 ?_
    refine g_iadd C dX10_hindrance_79 ?_
    refine g_iload_n C 2 dX10_hindrance_80 rfl ?_
    refine Ms_now (R := (va_up R 0 (upd (R 0) (((25 : Int32) + ((2 : Int32) * (R 0 1))).toNatClampNeg) v1))) C (f := upd (R 0) (((25 : Int32) + ((2 : Int32) * (R 0 1))).toNatClampNeg) v1) rfl _ rfl h.1 dX10_hindrance_81 ?_
    have h := h.2
    refine g_aload_n C 0 dX10_hindrance_82 rfl ?_
    refine Mg_now C dX10_hindrance_83 ?_
    refine g_iconst C (1 : Int32) dX10_hindrance_86 ci_1 ?_
    refine g_dup2 C dX10_hindrance_87 rfl rfl ?_
    refine Ma_now (R := (va_up (va_up R 0 (upd (R 0) (((25 : Int32) + ((2 : Int32) * (R 0 1))).toNatClampNeg) v1)) 0 (upd (upd (R 0) (((25 : Int32) + ((2 : Int32) * (R 0 1))).toNatClampNeg) v1) ((((25 : Int32) + ((2 : Int32) * ((upd (R 0) (((25 : Int32) + ((2 : Int32) * (R 0 1))).toNatClampNeg) v1) 1))) + (1 : Int32)).toNatClampNeg) v2))) C (f := upd (upd (R 0) (((25 : Int32) + ((2 : Int32) * (R 0 1))).toNatClampNeg) v1) ((((25 : Int32) + ((2 : Int32) * ((upd (R 0) (((25 : Int32) + ((2 : Int32) * (R 0 1))).toNatClampNeg) v1) 1))) + (1 : Int32)).toNatClampNeg) v2) rfl (1) (by decide) (vp_lit (by decide)) dX10_hindrance_88 ?_
    refine g_iconst C (1 : Int32) dX10_hindrance_89 ci_1 ?_
    refine g_iadd C dX10_hindrance_90 ?_
    refine Ms_now (R := (va_up (va_up R 0 (upd (R 0) (((25 : Int32) + ((2 : Int32) * (R 0 1))).toNatClampNeg) v1)) 0 (upd (upd (R 0) (((25 : Int32) + ((2 : Int32) * (R 0 1))).toNatClampNeg) v1) ((((25 : Int32) + ((2 : Int32) * ((upd (R 0) (((25 : Int32) + ((2 : Int32) * (R 0 1))).toNatClampNeg) v1) 1))) + (1 : Int32)).toNatClampNeg) v2))) C (f := upd (upd (R 0) (((25 : Int32) + ((2 : Int32) * (R 0 1))).toNatClampNeg) v1) ((((25 : Int32) + ((2 : Int32) * ((upd (R 0) (((25 : Int32) + ((2 : Int32) * (R 0 1))).toNatClampNeg) v1) 1))) + (1 : Int32)).toNatClampNeg) v2) rfl (1) (by decide) (vp_lit (by decide)) dX10_hindrance_91 ?_
    refine g_aload_n C 0 dX10_hindrance_92 rfl ?_
    refine g_iconst C (0 : Int32) dX10_hindrance_93 ci_0 ?_
    refine Mp_undos C dX10_hindrance_94 ?_
    refine g_aload_n C 0 dX10_hindrance_97 rfl ?_
    refine Mg_now C dX10_hindrance_98 ?_
    refine g_iconst C (1 : Int32) dX10_hindrance_101 ci_1 ?_
    refine Ma_now (R := (va_up (va_up (va_up R 0 (upd (R 0) (((25 : Int32) + ((2 : Int32) * (R 0 1))).toNatClampNeg) v1)) 0 (upd (upd (R 0) (((25 : Int32) + ((2 : Int32) * (R 0 1))).toNatClampNeg) v1) ((((25 : Int32) + ((2 : Int32) * ((upd (R 0) (((25 : Int32) + ((2 : Int32) * (R 0 1))).toNatClampNeg) v1) 1))) + (1 : Int32)).toNatClampNeg) v2)) 0 (upd (upd (upd (R 0) (((25 : Int32) + ((2 : Int32) * (R 0 1))).toNatClampNeg) v1) ((((25 : Int32) + ((2 : Int32) * ((upd (R 0) (((25 : Int32) + ((2 : Int32) * (R 0 1))).toNatClampNeg) v1) 1))) + (1 : Int32)).toNatClampNeg) v2) 1 (((upd (upd (R 0) (((25 : Int32) + ((2 : Int32) * (R 0 1))).toNatClampNeg) v1) ((((25 : Int32) + ((2 : Int32) * ((upd (R 0) (((25 : Int32) + ((2 : Int32) * (R 0 1))).toNatClampNeg) v1) 1))) + (1 : Int32)).toNatClampNeg) v2) 1) + (1 : Int32))))) C (f := upd (upd (upd (R 0) (((25 : Int32) + ((2 : Int32) * (R 0 1))).toNatClampNeg) v1) ((((25 : Int32) + ((2 : Int32) * ((upd (R 0) (((25 : Int32) + ((2 : Int32) * (R 0 1))).toNatClampNeg) v1) 1))) + (1 : Int32)).toNatClampNeg) v2) 1 (((upd (upd (R 0) (((25 : Int32) + ((2 : Int32) * (R 0 1))).toNatClampNeg) v1) ((((25 : Int32) + ((2 : Int32) * ((upd (R 0) (((25 : Int32) + ((2 : Int32) * (R 0 1))).toNatClampNeg) v1) 1))) + (1 : Int32)).toNatClampNeg) v2) 1) + (1 : Int32))) rfl (1) (by decide) (vp_lit (by decide)) dX10_hindrance_102 ?_
    refine g_iconst C (1 : Int32) dX10_hindrance_103 ci_1 ?_
    refine g_isub C dX10_hindrance_104 ?_
    exact hret _ _ _ _ ⟨_, _, _, rfl, h⟩ rfl dX10_hindrance_105
  · have h := h.2 c1
    refine g_bipush C (-3 : Int32) dX10_hindrance_43 cb_m3 ?_
    exact hret _ _ _ _ ⟨_, _, _, rfl, h⟩ rfl dX10_hindrance_45
def qM_hindrance (F : FT) (R : RT) (J : JT) (a1 : Int32) (a2 : Int32) (K : Int32 → FT → RT → JT → Prop) : Prop :=
  qM_in F R J a1.toInt64 (1 : Int64) (9 : Int64) (fun r1 F1 R1 J1 => (r1 = 0 → (K (-1 : Int32) F1 R1 J1)) ∧ (¬ r1 = 0 → ((a2 = (-4 : Int32) → (qM_hindrance_32 F1 R1 J1 a1 a2 K)) ∧ (¬ a2 = (-4 : Int32) → (qM_in F1 R1 J1 a2.toInt64 (0 : Int64) (3 : Int64) (fun r4 F4 R4 J4 => (¬ r4 = 0 → (qM_hindrance_32 F4 R4 J4 a1 a2 K)) ∧ (r4 = 0 → (K (-1 : Int32) F4 R4 J4))))))))
set_option maxHeartbeats 4000000 in
set_option maxRecDepth 100000 in
theorem bM_hindrance {X : XT} {ka : Nat → ClassId} {ad : Nat → Nat} (C : Cx X cX10_hindrance 3 RX10 (some .int) ka 2) {K : Int32 → FT → RT → JT → Prop} (hret : RetI X cX10_hindrance .int 0 0 (fun z w => ∃ F R J, w = wM ad ka F R J ∧ K z F R J)) (F : FT) (R : RT) (J : JT) (a1 : Int32) (a2 : Int32) (h : qM_hindrance F R J a1 a2 K) : G X 0 0 (wM ad ka F R J) 0 [(0, .ref (ad 20)), (1, .int a1), (2, .int a2)] [] := by
  unfold qM_hindrance at h
  refine g_iload_n C 1 dX10_hindrance_0 rfl ?_
  refine g_i2l C dX10_hindrance_1 ?_
  refine g_lconst C (1 : Int64) dX10_hindrance_2 rfl ?_
  refine g_ldc2 C (gw_of tw4_139 rfl) dX10_hindrance_3 ?_
  refine g_callSi0 C (kM_in (xL X) (xD X) ka ad _ _ _ _ _ _ _ h) siX10_in (gw_of tw4_136 rfl) (by decide) rfl rfl (Nat.le_of_ble_eq_true rfl) z00 dX10_hindrance_6 (fun r1 w hw => ?_)
  obtain ⟨F1, R1, J1, rfl, h⟩ := hw
  refine g_if_eq C 30 dX10_hindrance_9 (by decide) (fun c2 => ?_) (fun c2 => ?_)
  · have h := h.1 c2
    refine g_iconst C (-1 : Int32) dX10_hindrance_30 ci_m1 ?_
    exact hret _ _ _ _ ⟨_, _, _, rfl, h⟩ rfl dX10_hindrance_31
  · have h := h.2 c2
    refine g_iload_n C 2 dX10_hindrance_12 rfl ?_
    refine g_bipush C (-4 : Int32) dX10_hindrance_13 cb_m4 ?_
    refine g_icmp_eq C 32 dX10_hindrance_15 (by decide) (fun c3 => ?_) (fun c3 => ?_)
    · have h := h.1 c3
      exact g_lv [0, 1, 2] rfl (lM_hindrance_32 C hret _ _ _ _ _ h)
    · have h := h.2 c3
      refine g_iload_n C 2 dX10_hindrance_18 rfl ?_
      refine g_i2l C dX10_hindrance_19 ?_
      refine g_lconst C (0 : Int64) dX10_hindrance_20 rfl ?_
      refine g_ldc2 C (gw_of tw4_168 rfl) dX10_hindrance_21 ?_
      refine g_callSi0 C (kM_in (xL X) (xD X) ka ad _ _ _ _ _ _ _ h) siX10_in (gw_of tw4_136 rfl) (by decide) rfl rfl (Nat.le_of_ble_eq_true rfl) z00 dX10_hindrance_24 (fun r4 w hw => ?_)
      obtain ⟨F4, R4, J4, rfl, h⟩ := hw
      refine g_if_ne C 32 dX10_hindrance_27 (by decide) (fun c5 => ?_) (fun c5 => ?_)
      · have h := h.1 c5
        exact g_lv [0, 1, 2] rfl (lM_hindrance_32 C hret _ _ _ _ _ h)
      · have h := h.2 c5
        refine g_iconst C (-1 : Int32) dX10_hindrance_30 ci_m1 ?_
        exact hret _ _ _ _ ⟨_, _, _, rfl, h⟩ rfl dX10_hindrance_31
set_option maxHeartbeats 4000000 in
set_option maxRecDepth 100000 in
theorem kM_hindrance (l : Launch) (D : va_G) (ka : Nat → ClassId) (ad : Nat → Nat) (F : FT) (R : RT) (J : JT) (a1 : Int32) (a2 : Int32) (K : Int32 → FT → RT → JT → Prop) (h : qM_hindrance F R J a1 a2 K) : MI l D ka yX10_hindrance cX10_hindrance 3 (some .int) 2 0 0 [.ref (ad 20), .int a1, .int a2] (wM ad ka F R J) (fun z w => ∃ F R J, w = wM ad ka F R J ∧ K z F R J) := MI_of (by decide) (Nat.le_of_ble_eq_true rfl) (fun X C hroom hret => bM_hindrance C hret F R J a1 a2 h)
set_option maxHeartbeats 4000000 in
set_option maxRecDepth 100000 in
theorem miX10_hindrance : MInf yX10_hindrance cX10_hindrance 3 (some .int) 2 := ⟨(gw_of tw4_165 rfl), (gw_of tw4_166 rfl), (gw_of tw1_6 rfl), (gw_of tw4_167 rfl), by decide +kernel, by decide⟩

def qM_oath (F : FT) (R : RT) (J : JT) (a1 : Int32) (a2 : Int32) (K : Int32 → FT → RT → JT → Prop) : Prop :=
  qM_in F R J a1.toInt64 (0 : Int64) (3 : Int64) (fun r1 F1 R1 J1 => (r1 = 0 → (K (-1 : Int32) F1 R1 J1)) ∧ (¬ r1 = 0 → (qM_in F1 R1 J1 a2.toInt64 (0 : Int64) (1 : Int64) (fun r3 F3 R3 J3 => (¬ r3 = 0 → ((¬ a2 = (1 : Int32) → (K (((R3 0 11) >>> (a1 &&& 31)) &&& (1 : Int32)) F3 (va_up R3 0 (upd (R3 0) 11 ((R3 0 11) &&& (((1 : Int32) <<< (a1 &&& 31)) ^^^ (-1 : Int32))))) J3)) ∧ (a2 = (1 : Int32) → (K (((R3 0 11) >>> (a1 &&& 31)) &&& (1 : Int32)) F3 (va_up R3 0 (upd (R3 0) 11 ((R3 0 11) ||| ((1 : Int32) <<< (a1 &&& 31))))) J3)))) ∧ (r3 = 0 → (K (-1 : Int32) F3 R3 J3))))))
set_option maxHeartbeats 4000000 in
set_option maxRecDepth 100000 in
theorem bM_oath {X : XT} {ka : Nat → ClassId} {ad : Nat → Nat} (C : Cx X cX10_oath 4 RX10 (some .int) ka 2) {K : Int32 → FT → RT → JT → Prop} (hret : RetI X cX10_oath .int 0 0 (fun z w => ∃ F R J, w = wM ad ka F R J ∧ K z F R J)) (F : FT) (R : RT) (J : JT) (a1 : Int32) (a2 : Int32) (h : qM_oath F R J a1 a2 K) : G X 0 0 (wM ad ka F R J) 0 [(0, .ref (ad 20)), (1, .int a1), (2, .int a2)] [] := by
  unfold qM_oath at h
  refine g_iload_n C 1 dX10_oath_0 rfl ?_
  refine g_i2l C dX10_oath_1 ?_
  refine g_lconst C (0 : Int64) dX10_oath_2 rfl ?_
  refine g_ldc2 C (gw_of tw4_168 rfl) dX10_oath_3 ?_
  refine g_callSi0 C (kM_in (xL X) (xD X) ka ad _ _ _ _ _ _ _ h) siX10_in (gw_of tw4_136 rfl) (by decide) rfl rfl (Nat.le_of_ble_eq_true rfl) z00 dX10_oath_6 (fun r1 w hw => ?_)
  obtain ⟨F1, R1, J1, rfl, h⟩ := hw
  refine g_if_eq C 22 dX10_oath_9 (by decide) (fun c2 => ?_) (fun c2 => ?_)
  · have h := h.1 c2
    refine g_iconst C (-1 : Int32) dX10_oath_22 ci_m1 ?_
    exact hret _ _ _ _ ⟨_, _, _, rfl, h⟩ rfl dX10_oath_23
  · have h := h.2 c2
    refine g_iload_n C 2 dX10_oath_12 rfl ?_
    refine g_i2l C dX10_oath_13 ?_
    refine g_lconst C (0 : Int64) dX10_oath_14 rfl ?_
    refine g_lconst C (1 : Int64) dX10_oath_15 rfl ?_
    refine g_callSi0 C (kM_in (xL X) (xD X) ka ad _ _ _ _ _ _ _ h) siX10_in (gw_of tw4_136 rfl) (by decide) rfl rfl (Nat.le_of_ble_eq_true rfl) z00 dX10_oath_16 (fun r3 w hw => ?_)
    obtain ⟨F3, R3, J3, rfl, h⟩ := hw
    refine g_if_ne C 24 dX10_oath_19 (by decide) (fun c4 => ?_) (fun c4 => ?_)
    · have h := h.1 c4
      refine g_aload_n C 0 dX10_oath_24 rfl ?_
      refine Mg_now C dX10_oath_25 ?_
      refine g_bipush C (11 : Int32) dX10_oath_28 cb_11 ?_
      refine Ma_now C (f := R3 0) rfl (11) (by decide) (vp_lit (by decide)) dX10_oath_30 ?_
      refine g_iload_n C 1 dX10_oath_31 rfl ?_
      refine g_ishr C dX10_oath_32 ?_
      refine g_iconst C (1 : Int32) dX10_oath_33 ci_1 ?_
      refine g_iand C dX10_oath_34 ?_
      refine g_istore_n C [(3, .int (((R3 0 11) >>> (a1 &&& 31)) &&& (1 : Int32))), (0, .ref (ad 20)), (1, .int a1), (2, .int a2)] dX10_oath_35 (by decide) rfl ?_
      refine g_aload_n C 1 dX10_oath_36 rfl ?_
      refine Mg_now C dX10_oath_37 ?_
      refine g_bipush C (11 : Int32) dX10_oath_40 cb_11 ?_
      refine g_iload_n C 3 dX10_oath_42 rfl ?_
      refine g_iconst C (1 : Int32) dX10_oath_43 ci_1 ?_
      refine g_icmp_ne C 61 dX10_oath_44 (by decide) (fun c5 => ?_) (fun c5 => ?_)
      · have h := h.1 c5
        refine g_aload_n C 1 dX10_oath_61 rfl ?_
        refine Mg_now C dX10_oath_62 ?_
        refine g_bipush C (11 : Int32) dX10_oath_65 cb_11 ?_
        refine Ma_now C (f := R3 0) rfl (11) (by decide) (vp_lit (by decide)) dX10_oath_67 ?_
        refine g_iconst C (1 : Int32) dX10_oath_68 ci_1 ?_
        refine g_iload_n C 2 dX10_oath_69 rfl ?_
        refine g_ishl C dX10_oath_70 ?_
        refine g_iconst C (-1 : Int32) dX10_oath_71 ci_m1 ?_
        refine g_ixor C dX10_oath_72 ?_
        refine g_iand C dX10_oath_73 ?_
        refine Ms_now C (f := R3 0) rfl (11) (by decide) (vp_lit (by decide)) dX10_oath_74 ?_
        refine g_iload_n C 0 dX10_oath_75 rfl ?_
        exact hret _ _ _ _ ⟨_, _, _, rfl, h⟩ rfl dX10_oath_76
      · have h := h.2 c5
        refine g_aload_n C 1 dX10_oath_47 rfl ?_
        refine Mg_now C dX10_oath_48 ?_
        refine g_bipush C (11 : Int32) dX10_oath_51 cb_11 ?_
        refine Ma_now C (f := R3 0) rfl (11) (by decide) (vp_lit (by decide)) dX10_oath_53 ?_
        refine g_iconst C (1 : Int32) dX10_oath_54 ci_1 ?_
        refine g_iload_n C 2 dX10_oath_55 rfl ?_
        refine g_ishl C dX10_oath_56 ?_
        refine g_ior C dX10_oath_57 ?_
        refine g_goto C 74 dX10_oath_58 (by decide) ?_
        refine Ms_now C (f := R3 0) rfl (11) (by decide) (vp_lit (by decide)) dX10_oath_74 ?_
        refine g_iload_n C 0 dX10_oath_75 rfl ?_
        exact hret _ _ _ _ ⟨_, _, _, rfl, h⟩ rfl dX10_oath_76
    · have h := h.2 c4
      refine g_iconst C (-1 : Int32) dX10_oath_22 ci_m1 ?_
      exact hret _ _ _ _ ⟨_, _, _, rfl, h⟩ rfl dX10_oath_23
set_option maxHeartbeats 4000000 in
set_option maxRecDepth 100000 in
theorem kM_oath (l : Launch) (D : va_G) (ka : Nat → ClassId) (ad : Nat → Nat) (F : FT) (R : RT) (J : JT) (a1 : Int32) (a2 : Int32) (K : Int32 → FT → RT → JT → Prop) (h : qM_oath F R J a1 a2 K) : MI l D ka yX10_oath cX10_oath 4 (some .int) 2 0 0 [.ref (ad 20), .int a1, .int a2] (wM ad ka F R J) (fun z w => ∃ F R J, w = wM ad ka F R J ∧ K z F R J) := MI_of (by decide) (Nat.le_of_ble_eq_true rfl) (fun X C hroom hret => bM_oath C hret F R J a1 a2 h)
set_option maxHeartbeats 4000000 in
set_option maxRecDepth 100000 in
theorem miX10_oath : MInf yX10_oath cX10_oath 4 (some .int) 2 := ⟨(gw_of tw4_170 rfl), (gw_of tw4_171 rfl), (gw_of tw1_6 rfl), (gw_of tw4_172 rfl), by decide +kernel, by decide⟩

def qM_count (F : FT) (R : RT) (J : JT) (a1 : Int32) (K : Int32 → FT → RT → JT → Prop) : Prop :=
  qM_in F R J a1.toInt64 (0 : Int64) (11 : Int64) (fun r1 F1 R1 J1 => (r1 = 0 → ((¬ a1 = (12 : Int32) → (K (-1 : Int32) F1 R1 J1)) ∧ (a1 = (12 : Int32) → (K (F1 9) F1 R1 J1)))) ∧ (¬ r1 = 0 → ((vp_in a1 37) ∧ (K (R1 0 a1.toNatClampNeg) F1 R1 J1))))
set_option maxHeartbeats 4000000 in
set_option maxRecDepth 100000 in
theorem bM_count {X : XT} {ka : Nat → ClassId} {ad : Nat → Nat} (C : Cx X cX10_count 2 RX10 (some .int) ka 2) {K : Int32 → FT → RT → JT → Prop} (hret : RetI X cX10_count .int 0 0 (fun z w => ∃ F R J, w = wM ad ka F R J ∧ K z F R J)) (F : FT) (R : RT) (J : JT) (a1 : Int32) (h : qM_count F R J a1 K) : G X 0 0 (wM ad ka F R J) 0 [(0, .ref (ad 20)), (1, .int a1)] [] := by
  unfold qM_count at h
  refine g_iload_n C 1 dX10_count_0 rfl ?_
  refine g_i2l C dX10_count_1 ?_
  refine g_lconst C (0 : Int64) dX10_count_2 rfl ?_
  refine g_ldc2 C (gw_of tw4_177 rfl) dX10_count_3 ?_
  refine g_callSi0 C (kM_in (xL X) (xD X) ka ad _ _ _ _ _ _ _ h) siX10_in (gw_of tw4_136 rfl) (by decide) rfl rfl (Nat.le_of_ble_eq_true rfl) z00 dX10_count_6 (fun r1 w hw => ?_)
  obtain ⟨F1, R1, J1, rfl, h⟩ := hw
  refine g_if_eq C 21 dX10_count_9 (by decide) (fun c2 => ?_) (fun c2 => ?_)
  · have h := h.1 c2
    refine g_iload_n C 1 dX10_count_21 rfl ?_
    refine g_bipush C (12 : Int32) dX10_count_22 cb_12 ?_
    refine g_icmp_ne C 34 dX10_count_24 (by decide) (fun c3 => ?_) (fun c3 => ?_)
    · have h := h.1 c3
      refine g_iconst C (-1 : Int32) dX10_count_34 ci_m1 ?_
      exact hret _ _ _ _ ⟨_, _, _, rfl, h⟩ rfl dX10_count_35
    · have h := h.2 c3
      refine g_aload_n C 0 dX10_count_27 rfl ?_
      refine Mg_undos C (v := F1 9) rfl dX10_count_28 ?_
      refine g_goto C 35 dX10_count_31 (by decide) ?_
      exact hret _ _ _ _ ⟨_, _, _, rfl, h⟩ rfl dX10_count_35
  · have h := h.2 c2
    refine g_aload_n C 0 dX10_count_12 rfl ?_
    refine Mg_now C dX10_count_13 ?_
    refine g_iload_n C 1 dX10_count_16 rfl ?_
    refine Ma_now C (f := R1 0) rfl _ rfl h.1 dX10_count_17 ?_
    have h := h.2
    refine g_goto C 35 dX10_count_18 (by decide) ?_
    exact hret _ _ _ _ ⟨_, _, _, rfl, h⟩ rfl dX10_count_35
set_option maxHeartbeats 4000000 in
set_option maxRecDepth 100000 in
theorem kM_count (l : Launch) (D : va_G) (ka : Nat → ClassId) (ad : Nat → Nat) (F : FT) (R : RT) (J : JT) (a1 : Int32) (K : Int32 → FT → RT → JT → Prop) (h : qM_count F R J a1 K) : MI l D ka yX10_count cX10_count 2 (some .int) 2 0 0 [.ref (ad 20), .int a1] (wM ad ka F R J) (fun z w => ∃ F R J, w = wM ad ka F R J ∧ K z F R J) := MI_of (by decide) (Nat.le_of_ble_eq_true rfl) (fun X C hroom hret => bM_count C hret F R J a1 h)
set_option maxHeartbeats 4000000 in
set_option maxRecDepth 100000 in
theorem miX10_count : MInf yX10_count cX10_count 2 (some .int) 1 := ⟨(gw_of tw4_174 rfl), (gw_of tw4_175 rfl), (gw_of tw1_6 rfl), (gw_of tw4_176 rfl), by decide +kernel, by decide⟩

def qM_type (F : FT) (R : RT) (J : JT) (a1 : Int32) (K : Int32 → FT → RT → JT → Prop) : Prop :=
  qM_in F R J a1.toInt64 (32 : Int64) (126 : Int64) (fun r1 F1 R1 J1 => (¬ r1 = 0 → ((¬ (F1 4) = (60 : Int32) → ((vp_in (F1 4) 60) ∧ (K ((F1 4) + (1 : Int32)) (upd F1 4 ((F1 4) + (1 : Int32))) (va_up R1 3 (upd (R1 3) ((F1 4).toNatClampNeg) a1)) J1))) ∧ ((F1 4) = (60 : Int32) → (K (-3 : Int32) F1 R1 J1)))) ∧ (r1 = 0 → (K (-1 : Int32) F1 R1 J1)))
set_option maxHeartbeats 4000000 in
set_option maxRecDepth 100000 in
theorem bM_type {X : XT} {ka : Nat → ClassId} {ad : Nat → Nat} (C : Cx X cX10_type 2 RX10 (some .int) ka 2) {K : Int32 → FT → RT → JT → Prop} (hret : RetI X cX10_type .int 0 0 (fun z w => ∃ F R J, w = wM ad ka F R J ∧ K z F R J)) (F : FT) (R : RT) (J : JT) (a1 : Int32) (h : qM_type F R J a1 K) : G X 0 0 (wM ad ka F R J) 0 [(0, .ref (ad 20)), (1, .int a1)] [] := by
  unfold qM_type at h
  refine g_iload_n C 1 dX10_type_0 rfl ?_
  refine g_i2l C dX10_type_1 ?_
  refine g_ldc2 C (gw_of tw4_182 rfl) dX10_type_2 ?_
  refine g_ldc2 C (gw_of tw4_183 rfl) dX10_type_5 ?_
  refine g_callSi0 C (kM_in (xL X) (xD X) ka ad _ _ _ _ _ _ _ h) siX10_in (gw_of tw4_136 rfl) (by decide) rfl rfl (Nat.le_of_ble_eq_true rfl) z00 dX10_type_8 (fun r1 w hw => ?_)
  obtain ⟨F1, R1, J1, rfl, h⟩ := hw
  refine g_if_ne C 16 dX10_type_11 (by decide) (fun c2 => ?_) (fun c2 => ?_)
  · have h := h.1 c2
    refine g_aload_n C 0 dX10_type_16 rfl ?_
    refine Mg_typed C (v := F1 4) rfl dX10_type_17 ?_
    refine g_bipush C (60 : Int32) dX10_type_20 cb_60 ?_
    refine g_icmp_ne C 28 dX10_type_22 (by decide) (fun c3 => ?_) (fun c3 => ?_)
    · have h := h.1 c3
      refine g_aload_n C 0 dX10_type_28 rfl ?_
      refine Mg_tape C dX10_type_29 ?_
      refine g_aload_n C 0 dX10_type_32 rfl ?_
      refine Mg_typed C (v := F1 4) rfl dX10_type_33 ?_
      refine g_iload_n C 1 dX10_type_36 rfl ?_
      refine Ms_tape C (f := R1 3) rfl _ rfl h.1 dX10_type_37 ?_
      have h := h.2
      refine g_aload_n C 0 dX10_type_38 rfl ?_
      refine g_dup C dX10_type_39 rfl ?_
      refine Mg_typed C (v := F1 4) rfl dX10_type_40 ?_
      refine g_iconst C (1 : Int32) dX10_type_43 ci_1 ?_
      refine g_iadd C dX10_type_44 ?_
      refine Mp_typed C dX10_type_45 ?_
      refine g_aload_n C 0 dX10_type_48 rfl ?_
      refine Mg_typed (F := (upd F1 4 ((F1 4) + (1 : Int32)))) C (v := (F1 4) + (1 : Int32)) rfl dX10_type_49 ?_
      exact hret _ _ _ _ ⟨_, _, _, rfl, h⟩ rfl dX10_type_52
    · have h := h.2 c3
      refine g_bipush C (-3 : Int32) dX10_type_25 cb_m3 ?_
      exact hret _ _ _ _ ⟨_, _, _, rfl, h⟩ rfl dX10_type_27
  · have h := h.2 c2
    refine g_iconst C (-1 : Int32) dX10_type_14 ci_m1 ?_
    exact hret _ _ _ _ ⟨_, _, _, rfl, h⟩ rfl dX10_type_15
set_option maxHeartbeats 4000000 in
set_option maxRecDepth 100000 in
theorem kM_type (l : Launch) (D : va_G) (ka : Nat → ClassId) (ad : Nat → Nat) (F : FT) (R : RT) (J : JT) (a1 : Int32) (K : Int32 → FT → RT → JT → Prop) (h : qM_type F R J a1 K) : MI l D ka yX10_type cX10_type 2 (some .int) 2 0 0 [.ref (ad 20), .int a1] (wM ad ka F R J) (fun z w => ∃ F R J, w = wM ad ka F R J ∧ K z F R J) := MI_of (by decide) (Nat.le_of_ble_eq_true rfl) (fun X C hroom hret => bM_type C hret F R J a1 h)
set_option maxHeartbeats 4000000 in
set_option maxRecDepth 100000 in
theorem miX10_type : MInf yX10_type cX10_type 2 (some .int) 1 := ⟨(gw_of tw4_179 rfl), (gw_of tw4_180 rfl), (gw_of tw1_6 rfl), (gw_of tw4_181 rfl), by decide +kernel, by decide⟩
