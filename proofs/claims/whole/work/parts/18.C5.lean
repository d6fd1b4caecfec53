def qW_changeStones (F : FT) (R : RT) (J : JT) (P : PT) (B : BT) (a1 : Int32) (K : Int32 → FT → RT → JT → PT → BT → Prop) : Prop :=
  qW_within F R J P B a1 (1 : Int32) (200 : Int32) (fun r1 F1 R1 J1 P1 B1 => (¬ r1 = 0 → (((F1 105) ≤ a1 → (K (F1 100) (upd F1 100 a1) R1 J1 P1 B1)) ∧ (¬ (F1 105) ≤ a1 → (K (-2 : Int32) F1 R1 J1 P1 B1)))) ∧ (r1 = 0 → (K (-1 : Int32) F1 R1 J1 P1 B1)))
set_option maxHeartbeats 4000000 in
set_option maxRecDepth 100000 in
theorem bW_changeStones {X : XT} {ka : Nat → ClassId} {ad : Nat → Nat} (C : Cx X cX9_changeStones 3 RX9 (some .int) ka 2) {K : Int32 → FT → RT → JT → PT → BT → Prop} (hret : RetI X cX9_changeStones .int 0 0 (fun z w => ∃ F R J P B, w = wC ad ka F R J P B ∧ K z F R J P B)) (F : FT) (R : RT) (J : JT) (P : PT) (B : BT) (a1 : Int32) (h : qW_changeStones F R J P B a1 K) : G X 0 0 (wC ad ka F R J P B) 0 [(0, .ref (ad 99)), (1, .int a1)] [] := by
  unfold qW_changeStones at h
  refine g_iload_n C 1 dX9_changeStones_0 rfl ?_
  refine g_iconst C (1 : Int32) dX9_changeStones_1 ci_1 ?_
  refine g_sipush C (200 : Int32) dX9_changeStones_2 cs_200 ?_
  refine g_callSi0 C (kW_within (xL X) (xD X) ka ad _ _ _ _ _ _ _ _ _ h) siX9_within (gw_of tw2_32 rfl) (by decide) rfl rfl (Nat.le_of_ble_eq_true rfl) z00 dX9_changeStones_5 (fun r1 w hw => ?_)
  obtain ⟨F1, R1, J1, P1, B1, rfl, h⟩ := hw
  refine g_if_ne C 13 dX9_changeStones_8 (by decide) (fun c2 => ?_) (fun c2 => ?_)
  · have h := h.1 c2
    refine g_iload_n C 1 dX9_changeStones_13 rfl ?_
    refine g_aload_n C 0 dX9_changeStones_14 rfl ?_
    refine Cg_X9_0_now C dX9_changeStones_15 ?_
    refine Cg_X9_1_laid C (v := F1 105) rfl dX9_changeStones_18 ?_
    refine g_icmp_ge C 27 dX9_changeStones_21 (by decide) (fun c3 => ?_) (fun c3 => ?_)
    · have h := h.1 c3
      refine g_aload_n C 0 dX9_changeStones_27 rfl ?_
      refine Cg_X9_0_now C dX9_changeStones_28 ?_
      refine Cg_X9_1_stones C (v := F1 100) rfl dX9_changeStones_31 ?_
      refine g_istore_n C [(2, .int (F1 100)), (0, .ref (ad 99)), (1, .int a1)] dX9_changeStones_34 (by decide) rfl ?_
      refine g_aload_n C 1 dX9_changeStones_35 rfl ?_
      refine Cg_X9_0_now C dX9_changeStones_36 ?_
      refine g_iload_n C 2 dX9_changeStones_39 rfl ?_
      refine Cp_X9_1_stones C dX9_changeStones_40 ?_
      refine g_iload_n C 0 dX9_changeStones_43 rfl ?_
      exact hret _ _ _ _ ⟨_, _, _, _, _, rfl, h⟩ rfl dX9_changeStones_44
    · have h := h.2 c3
      refine g_bipush C (-2 : Int32) dX9_changeStones_24 cb_m2 ?_
      exact hret _ _ _ _ ⟨_, _, _, _, _, rfl, h⟩ rfl dX9_changeStones_26
  · have h := h.2 c2
    refine g_iconst C (-1 : Int32) dX9_changeStones_11 ci_m1 ?_
    exact hret _ _ _ _ ⟨_, _, _, _, _, rfl, h⟩ rfl dX9_changeStones_12
set_option maxHeartbeats 4000000 in
set_option maxRecDepth 100000 in
theorem kW_changeStones (l : Launch) (D : va_G) (ka : Nat → ClassId) (ad : Nat → Nat) (F : FT) (R : RT) (J : JT) (P : PT) (B : BT) (a1 : Int32) (K : Int32 → FT → RT → JT → PT → BT → Prop) (h : qW_changeStones F R J P B a1 K) : MI l D ka yX9_changeStones cX9_changeStones 3 (some .int) 2 0 0 [.ref (ad 99), .int a1] (wC ad ka F R J P B) (fun z w => ∃ F R J P B, w = wC ad ka F R J P B ∧ K z F R J P B) := MI_of (by decide) (Nat.le_of_ble_eq_true rfl) (fun X C hroom hret => bW_changeStones C hret F R J P B a1 h)
set_option maxHeartbeats 4000000 in
set_option maxRecDepth 100000 in
theorem miX9_changeStones : MInf yX9_changeStones cX9_changeStones 3 (some .int) 1 := ⟨(gw_of tw2_177 rfl), (gw_of tp_yX9_changeStones rfl), (gw_of tw1_1 rfl), (gw_of tw2_178 rfl), by decide +kernel, by decide⟩

def qW_changeDays (F : FT) (R : RT) (J : JT) (P : PT) (B : BT) (a1 : Int32) (K : Int32 → FT → RT → JT → PT → BT → Prop) : Prop :=
  qW_within F R J P B a1 (1 : Int32) (40 : Int32) (fun r1 F1 R1 J1 P1 B1 => (¬ r1 = 0 → (((F1 104) ≤ a1 → (K (F1 101) (upd F1 101 a1) R1 J1 P1 B1)) ∧ (¬ (F1 104) ≤ a1 → (K (-2 : Int32) F1 R1 J1 P1 B1)))) ∧ (r1 = 0 → (K (-1 : Int32) F1 R1 J1 P1 B1)))
set_option maxHeartbeats 4000000 in
set_option maxRecDepth 100000 in
theorem bW_changeDays {X : XT} {ka : Nat → ClassId} {ad : Nat → Nat} (C : Cx X cX9_changeDays 3 RX9 (some .int) ka 2) {K : Int32 → FT → RT → JT → PT → BT → Prop} (hret : RetI X cX9_changeDays .int 0 0 (fun z w => ∃ F R J P B, w = wC ad ka F R J P B ∧ K z F R J P B)) (F : FT) (R : RT) (J : JT) (P : PT) (B : BT) (a1 : Int32) (h : qW_changeDays F R J P B a1 K) : G X 0 0 (wC ad ka F R J P B) 0 [(0, .ref (ad 99)), (1, .int a1)] [] := by
  unfold qW_changeDays at h
  refine g_iload_n C 1 dX9_changeDays_0 rfl ?_
  refine g_iconst C (1 : Int32) dX9_changeDays_1 ci_1 ?_
  refine g_bipush C (40 : Int32) dX9_changeDays_2 cb_40 ?_
  refine g_callSi0 C (kW_within (xL X) (xD X) ka ad _ _ _ _ _ _ _ _ _ h) siX9_within (gw_of tw2_32 rfl) (by decide) rfl rfl (Nat.le_of_ble_eq_true rfl) z00 dX9_changeDays_4 (fun r1 w hw => ?_)
  obtain ⟨F1, R1, J1, P1, B1, rfl, h⟩ := hw
  refine g_if_ne C 12 dX9_changeDays_7 (by decide) (fun c2 => ?_) (fun c2 => ?_)
  · have h := h.1 c2
    refine g_iload_n C 1 dX9_changeDays_12 rfl ?_
    refine g_aload_n C 0 dX9_changeDays_13 rfl ?_
    refine Cg_X9_0_now C dX9_changeDays_14 ?_
    refine Cg_X9_1_day C (v := F1 104) rfl dX9_changeDays_17 ?_
    refine g_icmp_ge C 26 dX9_changeDays_20 (by decide) (fun c3 => ?_) (fun c3 => ?_)
    · have h := h.1 c3
      refine g_aload_n C 0 dX9_changeDays_26 rfl ?_
      refine Cg_X9_0_now C dX9_changeDays_27 ?_
      refine Cg_X9_1_days C (v := F1 101) rfl dX9_changeDays_30 ?_
      refine g_istore_n C [(2, .int (F1 101)), (0, .ref (ad 99)), (1, .int a1)] dX9_changeDays_33 (by decide) rfl ?_
      refine g_aload_n C 1 dX9_changeDays_34 rfl ?_
      refine Cg_X9_0_now C dX9_changeDays_35 ?_
      refine g_iload_n C 2 dX9_changeDays_38 rfl ?_
      refine Cp_X9_1_days C dX9_changeDays_39 ?_
      refine g_iload_n C 0 dX9_changeDays_42 rfl ?_
      exact hret _ _ _ _ ⟨_, _, _, _, _, rfl, h⟩ rfl dX9_changeDays_43
    · have h := h.2 c3
      refine g_bipush C (-2 : Int32) dX9_changeDays_23 cb_m2 ?_
      exact hret _ _ _ _ ⟨_, _, _, _, _, rfl, h⟩ rfl dX9_changeDays_25
  · have h := h.2 c2
    refine g_iconst C (-1 : Int32) dX9_changeDays_10 ci_m1 ?_
    exact hret _ _ _ _ ⟨_, _, _, _, _, rfl, h⟩ rfl dX9_changeDays_11
set_option maxHeartbeats 4000000 in
set_option maxRecDepth 100000 in
theorem kW_changeDays (l : Launch) (D : va_G) (ka : Nat → ClassId) (ad : Nat → Nat) (F : FT) (R : RT) (J : JT) (P : PT) (B : BT) (a1 : Int32) (K : Int32 → FT → RT → JT → PT → BT → Prop) (h : qW_changeDays F R J P B a1 K) : MI l D ka yX9_changeDays cX9_changeDays 3 (some .int) 2 0 0 [.ref (ad 99), .int a1] (wC ad ka F R J P B) (fun z w => ∃ F R J P B, w = wC ad ka F R J P B ∧ K z F R J P B) := MI_of (by decide) (Nat.le_of_ble_eq_true rfl) (fun X C hroom hret => bW_changeDays C hret F R J P B a1 h)
set_option maxHeartbeats 4000000 in
set_option maxRecDepth 100000 in
theorem miX9_changeDays : MInf yX9_changeDays cX9_changeDays 3 (some .int) 1 := ⟨(gw_of tw2_181 rfl), (gw_of tp_yX9_changeDays rfl), (gw_of tw1_1 rfl), (gw_of tw2_182 rfl), by decide +kernel, by decide⟩

def qW_changeFrost (F : FT) (R : RT) (J : JT) (P : PT) (B : BT) (a1 : Int32) (K : Int32 → FT → RT → JT → PT → BT → Prop) : Prop :=
  qW_within F R J P B a1 (0 : Int32) (10 : Int32) (fun r1 F1 R1 J1 P1 B1 => (¬ r1 = 0 → (((a1 + (F1 103)) ≤ (10 : Int32) → (K (F1 102) (upd F1 102 a1) R1 J1 P1 B1)) ∧ (¬ (a1 + (F1 103)) ≤ (10 : Int32) → (K (-2 : Int32) F1 R1 J1 P1 B1)))) ∧ (r1 = 0 → (K (-1 : Int32) F1 R1 J1 P1 B1)))
set_option maxHeartbeats 4000000 in
set_option maxRecDepth 100000 in
theorem bW_changeFrost {X : XT} {ka : Nat → ClassId} {ad : Nat → Nat} (C : Cx X cX9_changeFrost 3 RX9 (some .int) ka 2) {K : Int32 → FT → RT → JT → PT → BT → Prop} (hret : RetI X cX9_changeFrost .int 0 0 (fun z w => ∃ F R J P B, w = wC ad ka F R J P B ∧ K z F R J P B)) (F : FT) (R : RT) (J : JT) (P : PT) (B : BT) (a1 : Int32) (h : qW_changeFrost F R J P B a1 K) : G X 0 0 (wC ad ka F R J P B) 0 [(0, .ref (ad 99)), (1, .int a1)] [] := by
  unfold qW_changeFrost at h
  refine g_iload_n C 1 dX9_changeFrost_0 rfl ?_
  refine g_iconst C (0 : Int32) dX9_changeFrost_1 ci_0 ?_
  refine g_bipush C (10 : Int32) dX9_changeFrost_2 cb_10 ?_
  refine g_callSi0 C (kW_within (xL X) (xD X) ka ad _ _ _ _ _ _ _ _ _ h) siX9_within (gw_of tw2_32 rfl) (by decide) rfl rfl (Nat.le_of_ble_eq_true rfl) z00 dX9_changeFrost_4 (fun r1 w hw => ?_)
  obtain ⟨F1, R1, J1, P1, B1, rfl, h⟩ := hw
  refine g_if_ne C 12 dX9_changeFrost_7 (by decide) (fun c2 => ?_) (fun c2 => ?_)
  · have h := h.1 c2
    refine g_iload_n C 1 dX9_changeFrost_12 rfl ?_
    refine g_aload_n C 0 dX9_changeFrost_13 rfl ?_
    refine Cg_X9_0_now C dX9_changeFrost_14 ?_
    refine Cg_X9_1_thaw C (v := F1 103) rfl dX9_changeFrost_17 ?_
    refine g_iadd C dX9_changeFrost_20 ?_
    refine g_bipush C (10 : Int32) dX9_changeFrost_21 cb_10 ?_
    refine g_icmp_le C 29 dX9_changeFrost_23 (by decide) (fun c3 => ?_) (fun c3 => ?_)
    · have h := h.1 c3
      refine g_aload_n C 0 dX9_changeFrost_29 rfl ?_
      refine Cg_X9_0_now C dX9_changeFrost_30 ?_
      refine Cg_X9_1_frost C (v := F1 102) rfl dX9_changeFrost_33 ?_
      refine g_istore_n C [(2, .int (F1 102)), (0, .ref (ad 99)), (1, .int a1)] dX9_changeFrost_36 (by decide) rfl ?_
      refine g_aload_n C 1 dX9_changeFrost_37 rfl ?_
      refine Cg_X9_0_now C dX9_changeFrost_38 ?_
      refine g_iload_n C 2 dX9_changeFrost_41 rfl ?_
      refine Cp_X9_1_frost C dX9_changeFrost_42 ?_
      refine g_iload_n C 0 dX9_changeFrost_45 rfl ?_
      exact hret _ _ _ _ ⟨_, _, _, _, _, rfl, h⟩ rfl dX9_changeFrost_46
    · have h := h.2 c3
      refine g_bipush C (-2 : Int32) dX9_changeFrost_26 cb_m2 ?_
      exact hret _ _ _ _ ⟨_, _, _, _, _, rfl, h⟩ rfl dX9_changeFrost_28
  · have h := h.2 c2
    refine g_iconst C (-1 : Int32) dX9_changeFrost_10 ci_m1 ?_
    exact hret _ _ _ _ ⟨_, _, _, _, _, rfl, h⟩ rfl dX9_changeFrost_11
set_option maxHeartbeats 4000000 in
set_option maxRecDepth 100000 in
theorem kW_changeFrost (l : Launch) (D : va_G) (ka : Nat → ClassId) (ad : Nat → Nat) (F : FT) (R : RT) (J : JT) (P : PT) (B : BT) (a1 : Int32) (K : Int32 → FT → RT → JT → PT → BT → Prop) (h : qW_changeFrost F R J P B a1 K) : MI l D ka yX9_changeFrost cX9_changeFrost 3 (some .int) 2 0 0 [.ref (ad 99), .int a1] (wC ad ka F R J P B) (fun z w => ∃ F R J P B, w = wC ad ka F R J P B ∧ K z F R J P B) := MI_of (by decide) (Nat.le_of_ble_eq_true rfl) (fun X C hroom hret => bW_changeFrost C hret F R J P B a1 h)
set_option maxHeartbeats 4000000 in
set_option maxRecDepth 100000 in
theorem miX9_changeFrost : MInf yX9_changeFrost cX9_changeFrost 3 (some .int) 1 := ⟨(gw_of tw2_185 rfl), (gw_of tp_yX9_changeFrost rfl), (gw_of tw1_1 rfl), (gw_of tw2_186 rfl), by decide +kernel, by decide⟩

def qW_changeThaw (F : FT) (R : RT) (J : JT) (P : PT) (B : BT) (a1 : Int32) (K : Int32 → FT → RT → JT → PT → BT → Prop) : Prop :=
  qW_within F R J P B a1 (0 : Int32) (10 : Int32) (fun r1 F1 R1 J1 P1 B1 => (¬ r1 = 0 → ((((F1 102) + a1) ≤ (10 : Int32) → (K (F1 103) (upd F1 103 a1) R1 J1 P1 B1)) ∧ (¬ ((F1 102) + a1) ≤ (10 : Int32) → (K (-2 : Int32) F1 R1 J1 P1 B1)))) ∧ (r1 = 0 → (K (-1 : Int32) F1 R1 J1 P1 B1)))
set_option maxHeartbeats 4000000 in
set_option maxRecDepth 100000 in
theorem bW_changeThaw {X : XT} {ka : Nat → ClassId} {ad : Nat → Nat} (C : Cx X cX9_changeThaw 3 RX9 (some .int) ka 2) {K : Int32 → FT → RT → JT → PT → BT → Prop} (hret : RetI X cX9_changeThaw .int 0 0 (fun z w => ∃ F R J P B, w = wC ad ka F R J P B ∧ K z F R J P B)) (F : FT) (R : RT) (J : JT) (P : PT) (B : BT) (a1 : Int32) (h : qW_changeThaw F R J P B a1 K) : G X 0 0 (wC ad ka F R J P B) 0 [(0, .ref (ad 99)), (1, .int a1)] [] := by
  unfold qW_changeThaw at h
  refine g_iload_n C 1 dX9_changeThaw_0 rfl ?_
  refine g_iconst C (0 : Int32) dX9_changeThaw_1 ci_0 ?_
  refine g_bipush C (10 : Int32) dX9_changeThaw_2 cb_10 ?_
  refine g_callSi0 C (kW_within (xL X) (xD X) ka ad _ _ _ _ _ _ _ _ _ h) siX9_within (gw_of tw2_32 rfl) (by decide) rfl rfl (Nat.le_of_ble_eq_true rfl) z00 dX9_changeThaw_4 (fun r1 w hw => ?_)
  obtain ⟨F1, R1, J1, P1, B1, rfl, h⟩ := hw
  refine g_if_ne C 12 dX9_changeThaw_7 (by decide) (fun c2 => ?_) (fun c2 => ?_)
  · have h := h.1 c2
    refine g_aload_n C 0 dX9_changeThaw_12 rfl ?_
    refine Cg_X9_0_now C dX9_changeThaw_13 ?_
    refine Cg_X9_1_frost C (v := F1 102) rfl dX9_changeThaw_16 ?_
    refine g_iload_n C 1 dX9_changeThaw_19 rfl ?_
    refine g_iadd C dX9_changeThaw_20 ?_
    refine g_bipush C (10 : Int32) dX9_changeThaw_21 cb_10 ?_
    refine g_icmp_le C 29 dX9_changeThaw_23 (by decide) (fun c3 => ?_) (fun c3 => ?_)
    · have h := h.1 c3
      refine g_aload_n C 0 dX9_changeThaw_29 rfl ?_
      refine Cg_X9_0_now C dX9_changeThaw_30 ?_
      refine Cg_X9_1_thaw C (v := F1 103) rfl dX9_changeThaw_33 ?_
      refine g_istore_n C [(2, .int (F1 103)), (0, .ref (ad 99)), (1, .int a1)] dX9_changeThaw_36 (by decide) rfl ?_
      refine g_aload_n C 1 dX9_changeThaw_37 rfl ?_
      refine Cg_X9_0_now C dX9_changeThaw_38 ?_
      refine g_iload_n C 2 dX9_changeThaw_41 rfl ?_
      refine Cp_X9_1_thaw C dX9_changeThaw_42 ?_
      refine g_iload_n C 0 dX9_changeThaw_45 rfl ?_
      exact hret _ _ _ _ ⟨_, _, _, _, _, rfl, h⟩ rfl dX9_changeThaw_46
    · have h := h.2 c3
      refine g_bipush C (-2 : Int32) dX9_changeThaw_26 cb_m2 ?_
      exact hret _ _ _ _ ⟨_, _, _, _, _, rfl, h⟩ rfl dX9_changeThaw_28
  · have h := h.2 c2
    refine g_iconst C (-1 : Int32) dX9_changeThaw_10 ci_m1 ?_
    exact hret _ _ _ _ ⟨_, _, _, _, _, rfl, h⟩ rfl dX9_changeThaw_11
set_option maxHeartbeats 4000000 in
set_option maxRecDepth 100000 in
theorem kW_changeThaw (l : Launch) (D : va_G) (ka : Nat → ClassId) (ad : Nat → Nat) (F : FT) (R : RT) (J : JT) (P : PT) (B : BT) (a1 : Int32) (K : Int32 → FT → RT → JT → PT → BT → Prop) (h : qW_changeThaw F R J P B a1 K) : MI l D ka yX9_changeThaw cX9_changeThaw 3 (some .int) 2 0 0 [.ref (ad 99), .int a1] (wC ad ka F R J P B) (fun z w => ∃ F R J P B, w = wC ad ka F R J P B ∧ K z F R J P B) := MI_of (by decide) (Nat.le_of_ble_eq_true rfl) (fun X C hroom hret => bW_changeThaw C hret F R J P B a1 h)
set_option maxHeartbeats 4000000 in
set_option maxRecDepth 100000 in
theorem miX9_changeThaw : MInf yX9_changeThaw cX9_changeThaw 3 (some .int) 1 := ⟨(gw_of tw2_189 rfl), (gw_of tp_yX9_changeThaw rfl), (gw_of tw1_1 rfl), (gw_of tw2_190 rfl), by decide +kernel, by decide⟩

def qW_wall (F : FT) (R : RT) (J : JT) (P : PT) (B : BT) (a1 : Int32) (a2 : Int32) (K : Int32 → FT → RT → JT → PT → BT → Prop) : Prop :=
  (a1 = (0 : Int32) → (qW_changeStones F R J P B a2 (fun r2 F2 R2 J2 P2 B2 => K r2 F2 R2 J2 P2 B2))) ∧ ((a1 = (1 : Int32) → (qW_changeDays F R J P B a2 (fun r4 F4 R4 J4 P4 B4 => K r4 F4 R4 J4 P4 B4))) ∧ ((a1 = (2 : Int32) → (qW_changeFrost F R J P B a2 (fun r6 F6 R6 J6 P6 B6 => K r6 F6 R6 J6 P6 B6))) ∧ ((a1 = (3 : Int32) → (qW_changeThaw F R J P B a2 (fun r8 F8 R8 J8 P8 B8 => K r8 F8 R8 J8 P8 B8))) ∧ ((¬ a1 = (0 : Int32) → ¬ a1 = (1 : Int32) → ¬ a1 = (2 : Int32) → ¬ a1 = (3 : Int32) → (K (-1 : Int32) F R J P B))))))
set_option maxHeartbeats 4000000 in
set_option maxRecDepth 100000 in
theorem bW_wall {X : XT} {ka : Nat → ClassId} {ad : Nat → Nat} (C : Cx X cX9_wall 3 RX9 (some .int) ka 3) {K : Int32 → FT → RT → JT → PT → BT → Prop} (hret : RetI X cX9_wall .int 0 0 (fun z w => ∃ F R J P B, w = wC ad ka F R J P B ∧ K z F R J P B)) (F : FT) (R : RT) (J : JT) (P : PT) (B : BT) (a1 : Int32) (a2 : Int32) (h : qW_wall F R J P B a1 a2 K) : G X 0 0 (wC ad ka F R J P B) 0 [(0, .ref (ad 99)), (1, .int a1), (2, .int a2)] [] := by
  unfold qW_wall at h
  refine g_iload_n C 1 dX9_wall_0 rfl ?_
  by_cases c1 : a1 = (0 : Int32)
  · have h := h.1 c1
    refine g_tableIn C (31) 32 dX9_wall_1 (by rw [c1]; decide) (by rw [c1]; decide) (by rw [c1]; decide) (by decide) ?_
    refine g_aload_n C 0 dX9_wall_32 rfl ?_
    refine g_iload_n C 2 dX9_wall_33 rfl ?_
    refine g_callVi0 C (kW_changeStones (xL X) (xD X) ka ad _ _ _ _ _ _ _ h) miX9_changeStones (gw_of tw2_175 rfl) (by decide) wC_o0 rfl rfl rfl (Nat.le_of_ble_eq_true rfl) z00 dX9_wall_34 (fun r2 w hw => ?_)
    obtain ⟨F2, R2, J2, P2, B2, rfl, h⟩ := hw
    exact hret _ _ _ _ ⟨_, _, _, _, _, rfl, h⟩ rfl dX9_wall_37
  have h := h.2
  by_cases c3 : a1 = (1 : Int32)
  · have h := h.1 c3
    refine g_tableIn C (37) 38 dX9_wall_1 (by rw [c3]; decide) (by rw [c3]; decide) (by rw [c3]; decide) (by decide) ?_
    refine g_aload_n C 0 dX9_wall_38 rfl ?_
    refine g_iload_n C 2 dX9_wall_39 rfl ?_
    refine g_callVi0 C (kW_changeDays (xL X) (xD X) ka ad _ _ _ _ _ _ _ h) miX9_changeDays (gw_of tw2_179 rfl) (by decide) wC_o0 rfl rfl rfl (Nat.le_of_ble_eq_true rfl) z00 dX9_wall_40 (fun r4 w hw => ?_)
    obtain ⟨F4, R4, J4, P4, B4, rfl, h⟩ := hw
    exact hret _ _ _ _ ⟨_, _, _, _, _, rfl, h⟩ rfl dX9_wall_43
  have h := h.2
  by_cases c5 : a1 = (2 : Int32)
  · have h := h.1 c5
    refine g_tableIn C (43) 44 dX9_wall_1 (by rw [c5]; decide) (by rw [c5]; decide) (by rw [c5]; decide) (by decide) ?_
    refine g_aload_n C 0 dX9_wall_44 rfl ?_
    refine g_iload_n C 2 dX9_wall_45 rfl ?_
    refine g_callVi0 C (kW_changeFrost (xL X) (xD X) ka ad _ _ _ _ _ _ _ h) miX9_changeFrost (gw_of tw2_183 rfl) (by decide) wC_o0 rfl rfl rfl (Nat.le_of_ble_eq_true rfl) z00 dX9_wall_46 (fun r6 w hw => ?_)
    obtain ⟨F6, R6, J6, P6, B6, rfl, h⟩ := hw
    exact hret _ _ _ _ ⟨_, _, _, _, _, rfl, h⟩ rfl dX9_wall_49
  have h := h.2
  by_cases c7 : a1 = (3 : Int32)
  · have h := h.1 c7
    refine g_tableIn C (49) 50 dX9_wall_1 (by rw [c7]; decide) (by rw [c7]; decide) (by rw [c7]; decide) (by decide) ?_
    refine g_aload_n C 0 dX9_wall_50 rfl ?_
    refine g_iload_n C 2 dX9_wall_51 rfl ?_
    refine g_callVi0 C (kW_changeThaw (xL X) (xD X) ka ad _ _ _ _ _ _ _ h) miX9_changeThaw (gw_of tw2_187 rfl) (by decide) wC_o0 rfl rfl rfl (Nat.le_of_ble_eq_true rfl) z00 dX9_wall_52 (fun r8 w hw => ?_)
    obtain ⟨F8, R8, J8, P8, B8, rfl, h⟩ := hw
    exact hret _ _ _ _ ⟨_, _, _, _, _, rfl, h⟩ rfl dX9_wall_55
  have h := h.2
  have h := h c1 c3 c5 c7
  refine g_tableOut C 56 dX9_wall_1 (by have ec1 := swn (0) (by decide) c1; have ec3 := swn (1) (by decide) c3; have ec5 := swn (2) (by decide) c5; have ec7 := swn (3) (by decide) c7; omega) (by decide) ?_
  refine g_iconst C (-1 : Int32) dX9_wall_56 ci_m1 ?_
  exact hret _ _ _ _ ⟨_, _, _, _, _, rfl, h⟩ rfl dX9_wall_57
set_option maxHeartbeats 4000000 in
set_option maxRecDepth 100000 in
theorem kW_wall (l : Launch) (D : va_G) (ka : Nat → ClassId) (ad : Nat → Nat) (F : FT) (R : RT) (J : JT) (P : PT) (B : BT) (a1 : Int32) (a2 : Int32) (K : Int32 → FT → RT → JT → PT → BT → Prop) (h : qW_wall F R J P B a1 a2 K) : MI l D ka yX9_wall cX9_wall 3 (some .int) 3 0 0 [.ref (ad 99), .int a1, .int a2] (wC ad ka F R J P B) (fun z w => ∃ F R J P B, w = wC ad ka F R J P B ∧ K z F R J P B) := MI_of (by decide) (Nat.le_of_ble_eq_true rfl) (fun X C hroom hret => bW_wall C hret F R J P B a1 a2 h)
set_option maxHeartbeats 4000000 in
set_option maxRecDepth 100000 in
theorem miX9_wall : MInf yX9_wall cX9_wall 3 (some .int) 2 := ⟨(gw_of tw2_172 rfl), (gw_of tw2_173 rfl), (gw_of tw1_1 rfl), (gw_of tw2_174 rfl), by decide +kernel, by decide⟩

def qW_hindrance_27 (F : FT) (R : RT) (J : JT) (P : PT) (B : BT) (v1 : Int32) (v2 : Int32) (K : Int32 → FT → RT → JT → PT → BT → Prop) : Prop :=
  ((F 112) < (6 : Int32) → (qS_addHindrance F R J P B v1 v2 (fun F2 R2 J2 P2 B2 => K ((F2 112) - (1 : Int32)) (upd F2 113 (0 : Int32)) R2 J2 P2 B2))) ∧ (¬ (F 112) < (6 : Int32) → (K (-3 : Int32) F R J P B))
set_option maxHeartbeats 4000000 in
set_option maxRecDepth 100000 in
theorem lW_hindrance_27 {X : XT} {ka : Nat → ClassId} {ad : Nat → Nat} (C : Cx X cX9_hindrance 3 RX9 (some .int) ka 2) {K : Int32 → FT → RT → JT → PT → BT → Prop} (hret : RetI X cX9_hindrance .int 0 0 (fun z w => ∃ F R J P B, w = wC ad ka F R J P B ∧ K z F R J P B)) (F : FT) (R : RT) (J : JT) (P : PT) (B : BT) (v1 : Int32) (v2 : Int32) (h : qW_hindrance_27 F R J P B v1 v2 K) : G X 0 0 (wC ad ka F R J P B) 27 [(0, .ref (ad 99)), (1, .int v1), (2, .int v2)] [] := by
  unfold qW_hindrance_27 at h
  refine g_aload_n C 0 dX9_hindrance_27 rfl ?_
  refine Cg_X9_0_now C dX9_hindrance_28 ?_
  refine Cg_X9_1_hindranceCount C (v := F 112) rfl dX9_hindrance_31 ?_
  refine g_bipush C (6 : Int32) dX9_hindrance_34 cb_6 ?_
  refine g_icmp_lt C 42 dX9_hindrance_36 (by decide) (fun c1 => ?_) (fun c1 => ?_)
  · have h := h.1 c1
    refine g_aload_n C 0 dX9_hindrance_42 rfl ?_
    refine Cg_X9_0_now C dX9_hindrance_43 ?_
    refine g_iload_n C 1 dX9_hindrance_46 rfl ?_
    refine g_iload_n C 2 dX9_hindrance_47 rfl ?_
    refine g_callVv0 C (kS_addHindrance (xL X) (xD X) ka ad _ _ _ _ _ _ _ _ h) miX7_addHindrance (gw_of tw2_195 rfl) (by decide) wC_o1 rfl rfl rfl (Nat.le_of_ble_eq_true rfl) z00 dX9_hindrance_48 (fun w hw => ?_)
    obtain ⟨F2, R2, J2, P2, B2, rfl, h⟩ := hw
    refine g_aload_n C 0 dX9_hindrance_51 rfl ?_
    refine Cg_X9_0_now C dX9_hindrance_52 ?_
    refine g_iconst C (0 : Int32) dX9_hindrance_55 ci_0 ?_
    refine Cp_X9_1_pastCount C dX9_hindrance_56 ?_
    refine g_aload_n C 0 dX9_hindrance_59 rfl ?_
    refine Cg_X9_0_now C dX9_hindrance_60 ?_
    refine Cg_X9_1_hindranceCount (F := (upd F2 113 (0 : Int32))) C (v := F2 112) rfl dX9_hindrance_63 ?_
    refine g_iconst C (1 : Int32) dX9_hindrance_66 ci_1 ?_
    refine g_isub C dX9_hindrance_67 ?_
    exact hret _ _ _ _ ⟨_, _, _, _, _, rfl, h⟩ rfl dX9_hindrance_68
  · have h := h.2 c1
    refine g_bipush C (-3 : Int32) dX9_hindrance_39 cb_m3 ?_
    exact hret _ _ _ _ ⟨_, _, _, _, _, rfl, h⟩ rfl dX9_hindrance_41
def qW_hindrance (F : FT) (R : RT) (J : JT) (P : PT) (B : BT) (a1 : Int32) (a2 : Int32) (K : Int32 → FT → RT → JT → PT → BT → Prop) : Prop :=
  qW_within F R J P B a1 (1 : Int32) (9 : Int32) (fun r1 F1 R1 J1 P1 B1 => (r1 = 0 → (K (-1 : Int32) F1 R1 J1 P1 B1)) ∧ (¬ r1 = 0 → ((a2 = (-4 : Int32) → (qW_hindrance_27 F1 R1 J1 P1 B1 a1 a2 K)) ∧ (¬ a2 = (-4 : Int32) → (qW_within F1 R1 J1 P1 B1 a2 (0 : Int32) (3 : Int32) (fun r4 F4 R4 J4 P4 B4 => (¬ r4 = 0 → (qW_hindrance_27 F4 R4 J4 P4 B4 a1 a2 K)) ∧ (r4 = 0 → (K (-1 : Int32) F4 R4 J4 P4 B4))))))))
set_option maxHeartbeats 4000000 in
set_option maxRecDepth 100000 in
theorem bW_hindrance {X : XT} {ka : Nat → ClassId} {ad : Nat → Nat} (C : Cx X cX9_hindrance 3 RX9 (some .int) ka 2) {K : Int32 → FT → RT → JT → PT → BT → Prop} (hret : RetI X cX9_hindrance .int 0 0 (fun z w => ∃ F R J P B, w = wC ad ka F R J P B ∧ K z F R J P B)) (F : FT) (R : RT) (J : JT) (P : PT) (B : BT) (a1 : Int32) (a2 : Int32) (h : qW_hindrance F R J P B a1 a2 K) : G X 0 0 (wC ad ka F R J P B) 0 [(0, .ref (ad 99)), (1, .int a1), (2, .int a2)] [] := by
  unfold qW_hindrance at h
  refine g_iload_n C 1 dX9_hindrance_0 rfl ?_
  refine g_iconst C (1 : Int32) dX9_hindrance_1 ci_1 ?_
  refine g_bipush C (9 : Int32) dX9_hindrance_2 cb_9 ?_
  refine g_callSi0 C (kW_within (xL X) (xD X) ka ad _ _ _ _ _ _ _ _ _ h) siX9_within (gw_of tw2_32 rfl) (by decide) rfl rfl (Nat.le_of_ble_eq_true rfl) z00 dX9_hindrance_4 (fun r1 w hw => ?_)
  obtain ⟨F1, R1, J1, P1, B1, rfl, h⟩ := hw
  refine g_if_eq C 25 dX9_hindrance_7 (by decide) (fun c2 => ?_) (fun c2 => ?_)
  · have h := h.1 c2
    refine g_iconst C (-1 : Int32) dX9_hindrance_25 ci_m1 ?_
    exact hret _ _ _ _ ⟨_, _, _, _, _, rfl, h⟩ rfl dX9_hindrance_26
  · have h := h.2 c2
    refine g_iload_n C 2 dX9_hindrance_10 rfl ?_
    refine g_bipush C (-4 : Int32) dX9_hindrance_11 cb_m4 ?_
    refine g_icmp_eq C 27 dX9_hindrance_13 (by decide) (fun c3 => ?_) (fun c3 => ?_)
    · have h := h.1 c3
      exact g_lv [0, 1, 2] rfl (lW_hindrance_27 C hret _ _ _ _ _ _ _ h)
    · have h := h.2 c3
      refine g_iload_n C 2 dX9_hindrance_16 rfl ?_
      refine g_iconst C (0 : Int32) dX9_hindrance_17 ci_0 ?_
      refine g_iconst C (3 : Int32) dX9_hindrance_18 ci_3 ?_
      refine g_callSi0 C (kW_within (xL X) (xD X) ka ad _ _ _ _ _ _ _ _ _ h) siX9_within (gw_of tw2_32 rfl) (by decide) rfl rfl (Nat.le_of_ble_eq_true rfl) z00 dX9_hindrance_19 (fun r4 w hw => ?_)
      obtain ⟨F4, R4, J4, P4, B4, rfl, h⟩ := hw
      refine g_if_ne C 27 dX9_hindrance_22 (by decide) (fun c5 => ?_) (fun c5 => ?_)
      · have h := h.1 c5
        exact g_lv [0, 1, 2] rfl (lW_hindrance_27 C hret _ _ _ _ _ _ _ h)
      · have h := h.2 c5
        refine g_iconst C (-1 : Int32) dX9_hindrance_25 ci_m1 ?_
        exact hret _ _ _ _ ⟨_, _, _, _, _, rfl, h⟩ rfl dX9_hindrance_26
set_option maxHeartbeats 4000000 in
set_option maxRecDepth 100000 in
theorem kW_hindrance (l : Launch) (D : va_G) (ka : Nat → ClassId) (ad : Nat → Nat) (F : FT) (R : RT) (J : JT) (P : PT) (B : BT) (a1 : Int32) (a2 : Int32) (K : Int32 → FT → RT → JT → PT → BT → Prop) (h : qW_hindrance F R J P B a1 a2 K) : MI l D ka yX9_hindrance cX9_hindrance 3 (some .int) 2 0 0 [.ref (ad 99), .int a1, .int a2] (wC ad ka F R J P B) (fun z w => ∃ F R J P B, w = wC ad ka F R J P B ∧ K z F R J P B) := MI_of (by decide) (Nat.le_of_ble_eq_true rfl) (fun X C hroom hret => bW_hindrance C hret F R J P B a1 a2 h)
set_option maxHeartbeats 4000000 in
set_option maxRecDepth 100000 in
theorem miX9_hindrance : MInf yX9_hindrance cX9_hindrance 3 (some .int) 2 := ⟨(gw_of tw2_192 rfl), (gw_of tw2_193 rfl), (gw_of tw1_1 rfl), (gw_of tw2_194 rfl), by decide +kernel, by decide⟩

def qW_oath (F : FT) (R : RT) (J : JT) (P : PT) (B : BT) (a1 : Int32) (a2 : Int32) (K : Int32 → FT → RT → JT → PT → BT → Prop) : Prop :=
  qW_within F R J P B a1 (0 : Int32) (3 : Int32) (fun r1 F1 R1 J1 P1 B1 => (r1 = 0 → (K (-1 : Int32) F1 R1 J1 P1 B1)) ∧ (¬ r1 = 0 → (qW_within F1 R1 J1 P1 B1 a2 (0 : Int32) (1 : Int32) (fun r3 F3 R3 J3 P3 B3 => (¬ r3 = 0 → (K (((F3 109) >>> (a1 &&& 31)) &&& (1 : Int32)) (upd F3 109 (((F3 109) &&& (((1 : Int32) <<< (a1 &&& 31)) ^^^ (-1 : Int32))) ||| (a2 <<< (a1 &&& 31)))) R3 J3 P3 B3)) ∧ (r3 = 0 → (K (-1 : Int32) F3 R3 J3 P3 B3))))))
set_option maxHeartbeats 4000000 in
set_option maxRecDepth 100000 in
theorem bW_oath {X : XT} {ka : Nat → ClassId} {ad : Nat → Nat} (C : Cx X cX9_oath 4 RX9 (some .int) ka 2) {K : Int32 → FT → RT → JT → PT → BT → Prop} (hret : RetI X cX9_oath .int 0 0 (fun z w => ∃ F R J P B, w = wC ad ka F R J P B ∧ K z F R J P B)) (F : FT) (R : RT) (J : JT) (P : PT) (B : BT) (a1 : Int32) (a2 : Int32) (h : qW_oath F R J P B a1 a2 K) : G X 0 0 (wC ad ka F R J P B) 0 [(0, .ref (ad 99)), (1, .int a1), (2, .int a2)] [] := by
  unfold qW_oath at h
  refine g_iload_n C 1 dX9_oath_0 rfl ?_
  refine g_iconst C (0 : Int32) dX9_oath_1 ci_0 ?_
  refine g_iconst C (3 : Int32) dX9_oath_2 ci_3 ?_
  refine g_callSi0 C (kW_within (xL X) (xD X) ka ad _ _ _ _ _ _ _ _ _ h) siX9_within (gw_of tw2_32 rfl) (by decide) rfl rfl (Nat.le_of_ble_eq_true rfl) z00 dX9_oath_3 (fun r1 w hw => ?_)
  obtain ⟨F1, R1, J1, P1, B1, rfl, h⟩ := hw
  refine g_if_eq C 18 dX9_oath_6 (by decide) (fun c2 => ?_) (fun c2 => ?_)
  · have h := h.1 c2
    refine g_iconst C (-1 : Int32) dX9_oath_18 ci_m1 ?_
    exact hret _ _ _ _ ⟨_, _, _, _, _, rfl, h⟩ rfl dX9_oath_19
  · have h := h.2 c2
    refine g_iload_n C 2 dX9_oath_9 rfl ?_
    refine g_iconst C (0 : Int32) dX9_oath_10 ci_0 ?_
    refine g_iconst C (1 : Int32) dX9_oath_11 ci_1 ?_
    refine g_callSi0 C (kW_within (xL X) (xD X) ka ad _ _ _ _ _ _ _ _ _ h) siX9_within (gw_of tw2_32 rfl) (by decide) rfl rfl (Nat.le_of_ble_eq_true rfl) z00 dX9_oath_12 (fun r3 w hw => ?_)
    obtain ⟨F3, R3, J3, P3, B3, rfl, h⟩ := hw
    refine g_if_ne C 20 dX9_oath_15 (by decide) (fun c4 => ?_) (fun c4 => ?_)
    · have h := h.1 c4
      refine g_aload_n C 0 dX9_oath_20 rfl ?_
      refine Cg_X9_0_now C dX9_oath_21 ?_
      refine Cg_X9_1_sworn C (v := F3 109) rfl dX9_oath_24 ?_
      refine g_iload_n C 1 dX9_oath_27 rfl ?_
      refine g_ishr C dX9_oath_28 ?_
      refine g_iconst C (1 : Int32) dX9_oath_29 ci_1 ?_
      refine g_iand C dX9_oath_30 ?_
      refine g_istore_n C [(3, .int (((F3 109) >>> (a1 &&& 31)) &&& (1 : Int32))), (0, .ref (ad 99)), (1, .int a1), (2, .int a2)] dX9_oath_31 (by decide) rfl ?_
      refine g_aload_n C 1 dX9_oath_32 rfl ?_
      refine Cg_X9_0_now C dX9_oath_33 ?_
      refine g_aload_n C 1 dX9_oath_36 rfl ?_
      refine Cg_X9_0_now C dX9_oath_37 ?_
      refine Cg_X9_1_sworn C (v := F3 109) rfl dX9_oath_40 ?_
      refine g_iconst C (1 : Int32) dX9_oath_43 ci_1 ?_
      refine g_iload_n C 2 dX9_oath_44 rfl ?_
      refine g_ishl C dX9_oath_45 ?_
      refine g_iconst C (-1 : Int32) dX9_oath_46 ci_m1 ?_
      refine g_ixor C dX9_oath_47 ?_
      refine g_iand C dX9_oath_48 ?_
      refine g_iload_n C 3 dX9_oath_49 rfl ?_
      refine g_iload_n C 2 dX9_oath_50 rfl ?_
      refine g_ishl C dX9_oath_51 ?_
      refine g_ior C dX9_oath_52 ?_
      refine Cp_X9_1_sworn C dX9_oath_53 ?_
      refine g_iload_n C 0 dX9_oath_56 rfl ?_
      exact hret _ _ _ _ ⟨_, _, _, _, _, rfl, h⟩ rfl dX9_oath_57
    · have h := h.2 c4
      refine g_iconst C (-1 : Int32) dX9_oath_18 ci_m1 ?_
      exact hret _ _ _ _ ⟨_, _, _, _, _, rfl, h⟩ rfl dX9_oath_19
set_option maxHeartbeats 4000000 in
set_option maxRecDepth 100000 in
theorem kW_oath (l : Launch) (D : va_G) (ka : Nat → ClassId) (ad : Nat → Nat) (F : FT) (R : RT) (J : JT) (P : PT) (B : BT) (a1 : Int32) (a2 : Int32) (K : Int32 → FT → RT → JT → PT → BT → Prop) (h : qW_oath F R J P B a1 a2 K) : MI l D ka yX9_oath cX9_oath 4 (some .int) 2 0 0 [.ref (ad 99), .int a1, .int a2] (wC ad ka F R J P B) (fun z w => ∃ F R J P B, w = wC ad ka F R J P B ∧ K z F R J P B) := MI_of (by decide) (Nat.le_of_ble_eq_true rfl) (fun X C hroom hret => bW_oath C hret F R J P B a1 a2 h)
set_option maxHeartbeats 4000000 in
set_option maxRecDepth 100000 in
theorem miX9_oath : MInf yX9_oath cX9_oath 4 (some .int) 2 := ⟨(gw_of tw2_200 rfl), (gw_of tw2_201 rfl), (gw_of tw1_1 rfl), (gw_of tw2_202 rfl), by decide +kernel, by decide⟩

def qW_type (F : FT) (R : RT) (J : JT) (P : PT) (B : BT) (a1 : Int32) (K : Int32 → FT → RT → JT → PT → BT → Prop) : Prop :=
  qW_within F R J P B a1 (32 : Int32) (126 : Int32) (fun r1 F1 R1 J1 P1 B1 => (¬ r1 = 0 → (((F1 306) < (60 : Int32) → (qT_append F1 R1 J1 P1 B1 ((a1.toUInt32 % 65536).toInt32) (fun F4 R4 J4 P4 B4 => K (F4 306) F4 R4 J4 P4 B4))) ∧ (¬ (F1 306) < (60 : Int32) → (K (-3 : Int32) F1 R1 J1 P1 B1)))) ∧ (r1 = 0 → (K (-1 : Int32) F1 R1 J1 P1 B1)))
set_option maxHeartbeats 4000000 in
set_option maxRecDepth 100000 in
theorem bW_type {X : XT} {ka : Nat → ClassId} {ad : Nat → Nat} (C : Cx X cX9_type 2 RX9 (some .int) ka 2) {K : Int32 → FT → RT → JT → PT → BT → Prop} (hret : RetI X cX9_type .int 0 0 (fun z w => ∃ F R J P B, w = wC ad ka F R J P B ∧ K z F R J P B)) (F : FT) (R : RT) (J : JT) (P : PT) (B : BT) (a1 : Int32) (h : qW_type F R J P B a1 K) : G X 0 0 (wC ad ka F R J P B) 0 [(0, .ref (ad 99)), (1, .int a1)] [] := by
  unfold qW_type at h
  refine g_iload_n C 1 dX9_type_0 rfl ?_
  refine g_bipush C (32 : Int32) dX9_type_1 cb_32 ?_
  refine g_bipush C (126 : Int32) dX9_type_3 cb_126 ?_
  refine g_callSi0 C (kW_within (xL X) (xD X) ka ad _ _ _ _ _ _ _ _ _ h) siX9_within (gw_of tw2_32 rfl) (by decide) rfl rfl (Nat.le_of_ble_eq_true rfl) z00 dX9_type_5 (fun r1 w hw => ?_)
  obtain ⟨F1, R1, J1, P1, B1, rfl, h⟩ := hw
  refine g_if_ne C 13 dX9_type_8 (by decide) (fun c2 => ?_) (fun c2 => ?_)
  · have h := h.1 c2
    refine g_aload_n C 0 dX9_type_13 rfl ?_
    refine Cg_X9_0_tape C dX9_type_14 ?_
    refine Cg_X9_3_length C (v := F1 306) rfl dX9_type_17 ?_
    refine g_bipush C (60 : Int32) dX9_type_20 cb_60 ?_
    refine g_icmp_lt C 28 dX9_type_22 (by decide) (fun c3 => ?_) (fun c3 => ?_)
    · have h := h.1 c3
      refine g_aload_n C 0 dX9_type_28 rfl ?_
      refine Cg_X9_0_tape C dX9_type_29 ?_
      refine g_iload_n C 1 dX9_type_32 rfl ?_
      refine g_i2c C dX9_type_33 ?_
      refine g_callVv0 C (kT_append (xL X) (xD X) ka ad _ _ _ _ _ _ _ h) miX8_append (gw_of tw2_207 rfl) (by decide) wC_o3 rfl rfl rfl (Nat.le_of_ble_eq_true rfl) z00 dX9_type_34 (fun w hw => ?_)
      obtain ⟨F4, R4, J4, P4, B4, rfl, h⟩ := hw
      refine g_aload_n C 0 dX9_type_37 rfl ?_
      refine Cg_X9_0_tape C dX9_type_38 ?_
      refine Cg_X9_3_length C (v := F4 306) rfl dX9_type_41 ?_
      exact hret _ _ _ _ ⟨_, _, _, _, _, rfl, h⟩ rfl dX9_type_44
    · have h := h.2 c3
      refine g_bipush C (-3 : Int32) dX9_type_25 cb_m3 ?_
      exact hret _ _ _ _ ⟨_, _, _, _, _, rfl, h⟩ rfl dX9_type_27
  · have h := h.2 c2
    refine g_iconst C (-1 : Int32) dX9_type_11 ci_m1 ?_
    exact hret _ _ _ _ ⟨_, _, _, _, _, rfl, h⟩ rfl dX9_type_12
set_option maxHeartbeats 4000000 in
set_option maxRecDepth 100000 in
theorem kW_type (l : Launch) (D : va_G) (ka : Nat → ClassId) (ad : Nat → Nat) (F : FT) (R : RT) (J : JT) (P : PT) (B : BT) (a1 : Int32) (K : Int32 → FT → RT → JT → PT → BT → Prop) (h : qW_type F R J P B a1 K) : MI l D ka yX9_type cX9_type 2 (some .int) 2 0 0 [.ref (ad 99), .int a1] (wC ad ka F R J P B) (fun z w => ∃ F R J P B, w = wC ad ka F R J P B ∧ K z F R J P B) := MI_of (by decide) (Nat.le_of_ble_eq_true rfl) (fun X C hroom hret => bW_type C hret F R J P B a1 h)
set_option maxHeartbeats 4000000 in
set_option maxRecDepth 100000 in
theorem miX9_type : MInf yX9_type cX9_type 2 (some .int) 1 := ⟨(gw_of tw2_204 rfl), (gw_of tw2_205 rfl), (gw_of tw1_1 rfl), (gw_of tw2_206 rfl), by decide +kernel, by decide⟩

def qW_bargain (F : FT) (R : RT) (J : JT) (P : PT) (B : BT)  (K : Int32 → FT → RT → JT → PT → BT → Prop) : Prop :=
  qT_read F R J P B (fun r1 F1 R1 J1 P1 B1 => (¬ r1 = 0 → (qS_begin (upd F1 306 (0 : Int32)) R1 J1 P1 B1 (fun F3 R3 J3 P3 B3 => K (F3 111) F3 R3 J3 P3 B3))) ∧ (r1 = 0 → (K ((-20 : Int32) - (F1 311)) (upd F1 306 (0 : Int32)) R1 J1 P1 B1)))
set_option maxHeartbeats 4000000 in
set_option maxRecDepth 100000 in
theorem bW_bargain {X : XT} {ka : Nat → ClassId} {ad : Nat → Nat} (C : Cx X cX9_bargain 2 RX9 (some .int) ka 7) (hroom : (xR X).cells = 4 ∧ (xR X).slots = 8) {K : Int32 → FT → RT → JT → PT → BT → Prop} (hret : RetI X cX9_bargain .int 4 8 (fun z w => ∃ F R J P B, w = wC ad ka F R J P B ∧ K z F R J P B)) (F : FT) (R : RT) (J : JT) (P : PT) (B : BT)  (h : qW_bargain F R J P B  K) : G X 0 0 (wC ad ka F R J P B) 0 [(0, .ref (ad 99))] [] := by
  unfold qW_bargain at h
  refine g_aload_n C 0 dX9_bargain_0 rfl ?_
  refine Cg_X9_0_tape C dX9_bargain_1 ?_
  refine g_callVi0 C (kT_read (xL X) (xD X) ka ad _ _ _ _ _ _ h) miX8_read (gw_of tw2_215 rfl) (by decide) wC_o3 rfl rfl rfl (Nat.le_of_ble_eq_true rfl) (by rw [hroom.1, hroom.2]; decide) dX9_bargain_4 (fun r1 w hw => ?_)
  obtain ⟨F1, R1, J1, P1, B1, rfl, h⟩ := hw
  refine g_istore_n C [(1, .int r1), (0, .ref (ad 99))] dX9_bargain_7 (by decide) rfl ?_
  refine g_aload_n C 1 dX9_bargain_8 rfl ?_
  refine Cg_X9_0_tape C dX9_bargain_9 ?_
  refine g_iconst C (0 : Int32) dX9_bargain_12 ci_0 ?_
  refine Cp_X9_3_length C dX9_bargain_13 ?_
  refine g_iload_n C 0 dX9_bargain_16 rfl ?_
  refine g_if_ne C 31 dX9_bargain_17 (by decide) (fun c2 => ?_) (fun c2 => ?_)
  · have h := h.1 c2
    refine g_aload_n C 1 dX9_bargain_31 rfl ?_
    refine Cg_X9_0_now C dX9_bargain_32 ?_
    refine g_aload_n C 1 dX9_bargain_35 rfl ?_
    refine Cg_X9_0_tape C dX9_bargain_36 ?_
    refine g_callVv C (kS_begin (xL X) (xD X) ka ad _ _ _ _ _ _ h) miX7_begin (gw_of tw3_22 rfl) (by decide) wC_o1 rfl rfl rfl (Nat.le_of_ble_eq_true rfl) (by rw [hroom.1, hroom.2]; decide) dX9_bargain_39 (fun w hw => ?_)
    obtain ⟨F3, R3, J3, P3, B3, rfl, h⟩ := hw
    refine g_aload_n C 1 dX9_bargain_42 rfl ?_
    refine Cg_X9_0_now C dX9_bargain_43 ?_
    refine Cg_X9_1_builderCount C (v := F3 111) rfl dX9_bargain_46 ?_
    exact g_widen (by decide) (by decide) (hret _ _ _ _ ⟨_, _, _, _, _, rfl, h⟩ rfl dX9_bargain_49)
  · have h := h.2 c2
    refine g_bipush C (-20 : Int32) dX9_bargain_20 cb_m20 ?_
    refine g_aload_n C 1 dX9_bargain_22 rfl ?_
    refine Cg_X9_0_tape C dX9_bargain_23 ?_
    refine Cg_X9_3_fault (F := (upd F1 306 (0 : Int32))) C (v := F1 311) rfl dX9_bargain_26 ?_
    refine g_isub C dX9_bargain_29 ?_
    exact g_widen (by decide) (by decide) (hret _ _ _ _ ⟨_, _, _, _, _, rfl, h⟩ rfl dX9_bargain_30)
set_option maxHeartbeats 4000000 in
set_option maxRecDepth 100000 in
theorem kW_bargain (l : Launch) (D : va_G) (ka : Nat → ClassId) (ad : Nat → Nat) (F : FT) (R : RT) (J : JT) (P : PT) (B : BT)  (K : Int32 → FT → RT → JT → PT → BT → Prop) (h : qW_bargain F R J P B  K) : MI l D ka yX9_bargain cX9_bargain 2 (some .int) 7 4 8 [.ref (ad 99)] (wC ad ka F R J P B) (fun z w => ∃ F R J P B, w = wC ad ka F R J P B ∧ K z F R J P B) := MI_of (by decide) (Nat.le_of_ble_eq_true rfl) (fun X C hroom hret => bW_bargain C hroom hret F R J P B  h)
set_option maxHeartbeats 4000000 in
set_option maxRecDepth 100000 in
theorem miX9_bargain : MInf yX9_bargain cX9_bargain 2 (some .int) 0 := ⟨(gw_of tw2_212 rfl), (gw_of tw2_213 rfl), (gw_of tw1_1 rfl), (gw_of tw2_214 rfl), by decide +kernel, by decide⟩

def qW_count (F : FT) (R : RT) (J : JT) (P : PT) (B : BT) (a1 : Int32) (K : Int32 → FT → RT → JT → PT → BT → Prop) : Prop :=
  (a1 = (0 : Int32) → (K (F 111) F R J P B)) ∧ ((a1 = (1 : Int32) → (K (F 112) F R J P B)) ∧ ((a1 = (2 : Int32) → (K (F 100) F R J P B)) ∧ ((a1 = (3 : Int32) → (K (F 101) F R J P B)) ∧ ((a1 = (4 : Int32) → (K (F 102) F R J P B)) ∧ ((a1 = (5 : Int32) → (K (F 103) F R J P B)) ∧ ((a1 = (6 : Int32) → (K (F 104) F R J P B)) ∧ ((a1 = (7 : Int32) → (K (F 105) F R J P B)) ∧ ((a1 = (8 : Int32) → (K (F 106) F R J P B)) ∧ ((a1 = (9 : Int32) → (qS_costToday F R J P B (fun r11 F11 R11 J11 P11 B11 => K r11 F11 R11 J11 P11 B11))) ∧ ((a1 = (10 : Int32) → (K (F 108) F R J P B)) ∧ ((a1 = (11 : Int32) → (K (F 109) F R J P B)) ∧ ((a1 = (12 : Int32) → (K (F 113) F R J P B)) ∧ ((¬ a1 = (0 : Int32) → ¬ a1 = (1 : Int32) → ¬ a1 = (2 : Int32) → ¬ a1 = (3 : Int32) → ¬ a1 = (4 : Int32) → ¬ a1 = (5 : Int32) → ¬ a1 = (6 : Int32) → ¬ a1 = (7 : Int32) → ¬ a1 = (8 : Int32) → ¬ a1 = (9 : Int32) → ¬ a1 = (10 : Int32) → ¬ a1 = (11 : Int32) → ¬ a1 = (12 : Int32) → (K (-1 : Int32) F R J P B)))))))))))))))
set_option maxHeartbeats 4000000 in
set_option maxRecDepth 100000 in
theorem bW_count {X : XT} {ka : Nat → ClassId} {ad : Nat → Nat} (C : Cx X cX9_count 2 RX9 (some .int) ka 3) {K : Int32 → FT → RT → JT → PT → BT → Prop} (hret : RetI X cX9_count .int 0 0 (fun z w => ∃ F R J P B, w = wC ad ka F R J P B ∧ K z F R J P B)) (F : FT) (R : RT) (J : JT) (P : PT) (B : BT) (a1 : Int32) (h : qW_count F R J P B a1 K) : G X 0 0 (wC ad ka F R J P B) 0 [(0, .ref (ad 99)), (1, .int a1)] [] := by
  unfold qW_count at h
  refine g_iload_n C 1 dX9_count_0 rfl ?_
  by_cases c1 : a1 = (0 : Int32)
  · have h := h.1 c1
    refine g_tableIn C (67) 68 dX9_count_1 (by rw [c1]; decide) (by rw [c1]; decide) (by rw [c1]; decide) (by decide) ?_
    refine g_aload_n C 0 dX9_count_68 rfl ?_
    refine Cg_X9_0_now C dX9_count_69 ?_
    refine Cg_X9_1_builderCount C (v := F 111) rfl dX9_count_72 ?_
    exact hret _ _ _ _ ⟨_, _, _, _, _, rfl, h⟩ rfl dX9_count_75
  have h := h.2
  by_cases c2 : a1 = (1 : Int32)
  · have h := h.1 c2
    refine g_tableIn C (75) 76 dX9_count_1 (by rw [c2]; decide) (by rw [c2]; decide) (by rw [c2]; decide) (by decide) ?_
    refine g_aload_n C 0 dX9_count_76 rfl ?_
    refine Cg_X9_0_now C dX9_count_77 ?_
    refine Cg_X9_1_hindranceCount C (v := F 112) rfl dX9_count_80 ?_
    exact hret _ _ _ _ ⟨_, _, _, _, _, rfl, h⟩ rfl dX9_count_83
  have h := h.2
  by_cases c3 : a1 = (2 : Int32)
  · have h := h.1 c3
    refine g_tableIn C (83) 84 dX9_count_1 (by rw [c3]; decide) (by rw [c3]; decide) (by rw [c3]; decide) (by decide) ?_
    refine g_aload_n C 0 dX9_count_84 rfl ?_
    refine Cg_X9_0_now C dX9_count_85 ?_
    refine Cg_X9_1_stones C (v := F 100) rfl dX9_count_88 ?_
    exact hret _ _ _ _ ⟨_, _, _, _, _, rfl, h⟩ rfl dX9_count_91
  have h := h.2
  by_cases c4 : a1 = (3 : Int32)
  · have h := h.1 c4
    refine g_tableIn C (91) 92 dX9_count_1 (by rw [c4]; decide) (by rw [c4]; decide) (by rw [c4]; decide) (by decide) ?_
    refine g_aload_n C 0 dX9_count_92 rfl ?_
    refine Cg_X9_0_now C dX9_count_93 ?_
    refine Cg_X9_1_days C (v := F 101) rfl dX9_count_96 ?_
    exact hret _ _ _ _ ⟨_, _, _, _, _, rfl, h⟩ rfl dX9_count_99
  have h := h.2
  by_cases c5 : a1 = (4 : Int32)
  · have h := h.1 c5
    refine g_tableIn C (99) 100 dX9_count_1 (by rw [c5]; decide) (by rw [c5]; decide) (by rw [c5]; decide) (by decide) ?_
    refine g_aload_n C 0 dX9_count_100 rfl ?_
    refine Cg_X9_0_now C dX9_count_101 ?_
    refine Cg_X9_1_frost C (v := F 102) rfl dX9_count_104 ?_
    exact hret _ _ _ _ ⟨_, _, _, _, _, rfl, h⟩ rfl dX9_count_107
  have h := h.2
  by_cases c6 : a1 = (5 : Int32)
  · have h := h.1 c6
    refine g_tableIn C (107) 108 dX9_count_1 (by rw [c6]; decide) (by rw [c6]; decide) (by rw [c6]; decide) (by decide) ?_
    refine g_aload_n C 0 dX9_count_108 rfl ?_
    refine Cg_X9_0_now C dX9_count_109 ?_
    refine Cg_X9_1_thaw C (v := F 103) rfl dX9_count_112 ?_
    exact hret _ _ _ _ ⟨_, _, _, _, _, rfl, h⟩ rfl dX9_count_115
  have h := h.2
  by_cases c7 : a1 = (6 : Int32)
  · have h := h.1 c7
    refine g_tableIn C (115) 116 dX9_count_1 (by rw [c7]; decide) (by rw [c7]; decide) (by rw [c7]; decide) (by decide) ?_
    refine g_aload_n C 0 dX9_count_116 rfl ?_
    refine Cg_X9_0_now C dX9_count_117 ?_
    refine Cg_X9_1_day C (v := F 104) rfl dX9_count_120 ?_
    exact hret _ _ _ _ ⟨_, _, _, _, _, rfl, h⟩ rfl dX9_count_123
  have h := h.2
  by_cases c8 : a1 = (7 : Int32)
  · have h := h.1 c8
    refine g_tableIn C (123) 124 dX9_count_1 (by rw [c8]; decide) (by rw [c8]; decide) (by rw [c8]; decide) (by decide) ?_
    refine g_aload_n C 0 dX9_count_124 rfl ?_
    refine Cg_X9_0_now C dX9_count_125 ?_
    refine Cg_X9_1_laid C (v := F 105) rfl dX9_count_128 ?_
    exact hret _ _ _ _ ⟨_, _, _, _, _, rfl, h⟩ rfl dX9_count_131
  have h := h.2
  by_cases c9 : a1 = (8 : Int32)
  · have h := h.1 c9
    refine g_tableIn C (131) 132 dX9_count_1 (by rw [c9]; decide) (by rw [c9]; decide) (by rw [c9]; decide) (by decide) ?_
    refine g_aload_n C 0 dX9_count_132 rfl ?_
    refine Cg_X9_0_now C dX9_count_133 ?_
    refine Cg_X9_1_used C (v := F 106) rfl dX9_count_136 ?_
    exact hret _ _ _ _ ⟨_, _, _, _, _, rfl, h⟩ rfl dX9_count_139
  have h := h.2
  by_cases c10 : a1 = (9 : Int32)
  · have h := h.1 c10
    refine g_tableIn C (139) 140 dX9_count_1 (by rw [c10]; decide) (by rw [c10]; decide) (by rw [c10]; decide) (by decide) ?_
    refine g_aload_n C 0 dX9_count_140 rfl ?_
    refine Cg_X9_0_now C dX9_count_141 ?_
    refine g_callVi0 C (kS_costToday (xL X) (xD X) ka ad _ _ _ _ _ _ h) miX7_costToday (gw_of tw3_32 rfl) (by decide) wC_o1 rfl rfl rfl (Nat.le_of_ble_eq_true rfl) z00 dX9_count_144 (fun r11 w hw => ?_)
    obtain ⟨F11, R11, J11, P11, B11, rfl, h⟩ := hw
    exact hret _ _ _ _ ⟨_, _, _, _, _, rfl, h⟩ rfl dX9_count_147
  have h := h.2
  by_cases c12 : a1 = (10 : Int32)
  · have h := h.1 c12
    refine g_tableIn C (147) 148 dX9_count_1 (by rw [c12]; decide) (by rw [c12]; decide) (by rw [c12]; decide) (by decide) ?_
    refine g_aload_n C 0 dX9_count_148 rfl ?_
    refine Cg_X9_0_now C dX9_count_149 ?_
    refine Cg_X9_1_broken C (v := F 108) rfl dX9_count_152 ?_
    exact hret _ _ _ _ ⟨_, _, _, _, _, rfl, h⟩ rfl dX9_count_155
  have h := h.2
  by_cases c13 : a1 = (11 : Int32)
  · have h := h.1 c13
    refine g_tableIn C (155) 156 dX9_count_1 (by rw [c13]; decide) (by rw [c13]; decide) (by rw [c13]; decide) (by decide) ?_
    refine g_aload_n C 0 dX9_count_156 rfl ?_
    refine Cg_X9_0_now C dX9_count_157 ?_
    refine Cg_X9_1_sworn C (v := F 109) rfl dX9_count_160 ?_
    exact hret _ _ _ _ ⟨_, _, _, _, _, rfl, h⟩ rfl dX9_count_163
  have h := h.2
  by_cases c14 : a1 = (12 : Int32)
  · have h := h.1 c14
    refine g_tableIn C (163) 164 dX9_count_1 (by rw [c14]; decide) (by rw [c14]; decide) (by rw [c14]; decide) (by decide) ?_
    refine g_aload_n C 0 dX9_count_164 rfl ?_
    refine Cg_X9_0_now C dX9_count_165 ?_
    refine Cg_X9_1_pastCount C (v := F 113) rfl dX9_count_168 ?_
    exact hret _ _ _ _ ⟨_, _, _, _, _, rfl, h⟩ rfl dX9_count_171
  have h := h.2
  have h := h c1 c2 c3 c4 c5 c6 c7 c8 c9 c10 c12 c13 c14
  refine g_tableOut C 172 dX9_count_1 (by have ec1 := swn (0) (by decide) c1; have ec2 := swn (1) (by decide) c2; have ec3 := swn (2) (by decide) c3; have ec4 := swn (3) (by decide) c4; have ec5 := swn (4) (by decide) c5; have ec6 := swn (5) (by decide) c6; have ec7 := swn (6) (by decide) c7; have ec8 := swn (7) (by decide) c8; have ec9 := swn (8) (by decide) c9; have ec10 := swn (9) (by decide) c10; have ec12 := swn (10) (by decide) c12; have ec13 := swn (11) (by decide) c13; have ec14 := swn (12) (by decide) c14; omega) (by decide) ?_
  refine g_iconst C (-1 : Int32) dX9_count_172 ci_m1 ?_
  exact hret _ _ _ _ ⟨_, _, _, _, _, rfl, h⟩ rfl dX9_count_173
set_option maxHeartbeats 4000000 in
set_option maxRecDepth 100000 in
theorem kW_count (l : Launch) (D : va_G) (ka : Nat → ClassId) (ad : Nat → Nat) (F : FT) (R : RT) (J : JT) (P : PT) (B : BT) (a1 : Int32) (K : Int32 → FT → RT → JT → PT → BT → Prop) (h : qW_count F R J P B a1 K) : MI l D ka yX9_count cX9_count 2 (some .int) 3 0 0 [.ref (ad 99), .int a1] (wC ad ka F R J P B) (fun z w => ∃ F R J P B, w = wC ad ka F R J P B ∧ K z F R J P B) := MI_of (by decide) (Nat.le_of_ble_eq_true rfl) (fun X C hroom hret => bW_count C hret F R J P B a1 h)
set_option maxHeartbeats 4000000 in
set_option maxRecDepth 100000 in
theorem miX9_count : MInf yX9_count cX9_count 2 (some .int) 1 := ⟨(gw_of tw3_29 rfl), (gw_of tw3_30 rfl), (gw_of tw1_1 rfl), (gw_of tw3_31 rfl), by decide +kernel, by decide⟩

def qW_day (F : FT) (R : RT) (J : JT) (P : PT) (B : BT) (a1 : Int32) (K : Int32 → FT → RT → JT → PT → BT → Prop) : Prop :=
  qW_within F R J P B a1 (0 : Int32) (2 : Int32) (fun r1 F1 R1 J1 P1 B1 => (¬ r1 = 0 → (qS_isSummer F1 R1 J1 P1 B1 (fun r3 F3 R3 J3 P3 B3 => (r3 = 0 → (qS_remember F3 R3 J3 P3 B3 (fun F5 R5 J5 P5 B5 => qS_pass F5 R5 J5 P5 B5 a1 (fun r6 F6 R6 J6 P6 B6 => K r6 F6 R6 J6 P6 B6)))) ∧ (¬ r3 = 0 → (K (-3 : Int32) F3 R3 J3 P3 B3))))) ∧ (r1 = 0 → (K (-1 : Int32) F1 R1 J1 P1 B1)))
set_option maxHeartbeats 4000000 in
set_option maxRecDepth 100000 in
theorem bW_day {X : XT} {ka : Nat → ClassId} {ad : Nat → Nat} (C : Cx X cX9_day 2 RX9 (some .int) ka 7) {K : Int32 → FT → RT → JT → PT → BT → Prop} (hret : RetI X cX9_day .int 0 0 (fun z w => ∃ F R J P B, w = wC ad ka F R J P B ∧ K z F R J P B)) (F : FT) (R : RT) (J : JT) (P : PT) (B : BT) (a1 : Int32) (h : qW_day F R J P B a1 K) : G X 0 0 (wC ad ka F R J P B) 0 [(0, .ref (ad 99)), (1, .int a1)] [] := by
  unfold qW_day at h
  refine g_iload_n C 1 dX9_day_0 rfl ?_
  refine g_iconst C (0 : Int32) dX9_day_1 ci_0 ?_
  refine g_iconst C (2 : Int32) dX9_day_2 ci_2 ?_
  refine g_callSi0 C (kW_within (xL X) (xD X) ka ad _ _ _ _ _ _ _ _ _ h) siX9_within (gw_of tw2_32 rfl) (by decide) rfl rfl (Nat.le_of_ble_eq_true rfl) z00 dX9_day_3 (fun r1 w hw => ?_)
  obtain ⟨F1, R1, J1, P1, B1, rfl, h⟩ := hw
  refine g_if_ne C 11 dX9_day_6 (by decide) (fun c2 => ?_) (fun c2 => ?_)
  · have h := h.1 c2
    refine g_aload_n C 0 dX9_day_11 rfl ?_
    refine Cg_X9_0_now C dX9_day_12 ?_
    refine g_callVi0 C (kS_isSummer (xL X) (xD X) ka ad _ _ _ _ _ _ h) miX7_isSummer (gw_of tw3_44 rfl) (by decide) wC_o1 rfl rfl rfl (Nat.le_of_ble_eq_true rfl) z00 dX9_day_15 (fun r3 w hw => ?_)
    obtain ⟨F3, R3, J3, P3, B3, rfl, h⟩ := hw
    refine g_if_eq C 24 dX9_day_18 (by decide) (fun c4 => ?_) (fun c4 => ?_)
    · have h := h.1 c4
      refine g_aload_n C 0 dX9_day_24 rfl ?_
      refine Cg_X9_0_now C dX9_day_25 ?_
      refine g_callVv0 C (kS_remember (xL X) (xD X) ka ad _ _ _ _ _ _ h) miX7_remember (gw_of tw3_48 rfl) (by decide) wC_o1 rfl rfl rfl (Nat.le_of_ble_eq_true rfl) z00 dX9_day_28 (fun w hw => ?_)
      obtain ⟨F5, R5, J5, P5, B5, rfl, h⟩ := hw
      refine g_aload_n C 0 dX9_day_31 rfl ?_
      refine Cg_X9_0_now C dX9_day_32 ?_
      refine g_iload_n C 1 dX9_day_35 rfl ?_
      refine g_callVi0 C (kS_pass (xL X) (xD X) ka ad _ _ _ _ _ _ _ h) miX7_pass (gw_of tw3_55 rfl) (by decide) wC_o1 rfl rfl rfl (Nat.le_of_ble_eq_true rfl) z00 dX9_day_36 (fun r6 w hw => ?_)
      obtain ⟨F6, R6, J6, P6, B6, rfl, h⟩ := hw
      exact hret _ _ _ _ ⟨_, _, _, _, _, rfl, h⟩ rfl dX9_day_39
    · have h := h.2 c4
      refine g_bipush C (-3 : Int32) dX9_day_21 cb_m3 ?_
      exact hret _ _ _ _ ⟨_, _, _, _, _, rfl, h⟩ rfl dX9_day_23
  · have h := h.2 c2
    refine g_iconst C (-1 : Int32) dX9_day_9 ci_m1 ?_
    exact hret _ _ _ _ ⟨_, _, _, _, _, rfl, h⟩ rfl dX9_day_10
set_option maxHeartbeats 4000000 in
set_option maxRecDepth 100000 in
theorem kW_day (l : Launch) (D : va_G) (ka : Nat → ClassId) (ad : Nat → Nat) (F : FT) (R : RT) (J : JT) (P : PT) (B : BT) (a1 : Int32) (K : Int32 → FT → RT → JT → PT → BT → Prop) (h : qW_day F R J P B a1 K) : MI l D ka yX9_day cX9_day 2 (some .int) 7 0 0 [.ref (ad 99), .int a1] (wC ad ka F R J P B) (fun z w => ∃ F R J P B, w = wC ad ka F R J P B ∧ K z F R J P B) := MI_of (by decide) (Nat.le_of_ble_eq_true rfl) (fun X C hroom hret => bW_day C hret F R J P B a1 h)
set_option maxHeartbeats 4000000 in
set_option maxRecDepth 100000 in
theorem miX9_day : MInf yX9_day cX9_day 2 (some .int) 1 := ⟨(gw_of tw3_41 rfl), (gw_of tw3_42 rfl), (gw_of tw1_1 rfl), (gw_of tw3_43 rfl), by decide +kernel, by decide⟩

def qW_use (F : FT) (R : RT) (J : JT) (P : PT) (B : BT) (a1 : Int32) (K : Int32 → FT → RT → JT → PT → BT → Prop) : Prop :=
  qW_within F R J P B a1 (0 : Int32) ((F 112) - (1 : Int32)) (fun r1 F1 R1 J1 P1 B1 => (¬ r1 = 0 → (qS_isUsed F1 R1 J1 P1 B1 a1 (fun r3 F3 R3 J3 P3 B3 => (r3 = 0 → (qS_isSummer F3 R3 J3 P3 B3 (fun r5 F5 R5 J5 P5 B5 => (r5 = 0 → (qS_remember F5 R5 J5 P5 B5 (fun F7 R7 J7 P7 B7 => qS_hinder F7 R7 J7 P7 B7 a1 (fun F8 R8 J8 P8 B8 => qS_costToday F8 R8 J8 P8 B8 (fun r9 F9 R9 J9 P9 B9 => K r9 F9 R9 J9 P9 B9))))) ∧ (¬ r5 = 0 → (K (-3 : Int32) F5 R5 J5 P5 B5))))) ∧ (¬ r3 = 0 → (K (-2 : Int32) F3 R3 J3 P3 B3))))) ∧ (r1 = 0 → (K (-1 : Int32) F1 R1 J1 P1 B1)))
set_option maxHeartbeats 4000000 in
set_option maxRecDepth 100000 in
theorem bW_use {X : XT} {ka : Nat → ClassId} {ad : Nat → Nat} (C : Cx X cX9_use 2 RX9 (some .int) ka 3) {K : Int32 → FT → RT → JT → PT → BT → Prop} (hret : RetI X cX9_use .int 0 0 (fun z w => ∃ F R J P B, w = wC ad ka F R J P B ∧ K z F R J P B)) (F : FT) (R : RT) (J : JT) (P : PT) (B : BT) (a1 : Int32) (h : qW_use F R J P B a1 K) : G X 0 0 (wC ad ka F R J P B) 0 [(0, .ref (ad 99)), (1, .int a1)] [] := by
  unfold qW_use at h
  refine g_iload_n C 1 dX9_use_0 rfl ?_
  refine g_iconst C (0 : Int32) dX9_use_1 ci_0 ?_
  refine g_aload_n C 0 dX9_use_2 rfl ?_
  refine Cg_X9_0_now C dX9_use_3 ?_
  refine Cg_X9_1_hindranceCount C (v := F 112) rfl dX9_use_6 ?_
  refine g_iconst C (1 : Int32) dX9_use_9 ci_1 ?_
  refine g_isub C dX9_use_10 ?_
  refine g_callSi0 C (kW_within (xL X) (xD X) ka ad _ _ _ _ _ _ _ _ _ h) siX9_within (gw_of tw2_32 rfl) (by decide) rfl rfl (Nat.le_of_ble_eq_true rfl) z00 dX9_use_11 (fun r1 w hw => ?_)
  obtain ⟨F1, R1, J1, P1, B1, rfl, h⟩ := hw
  refine g_if_ne C 19 dX9_use_14 (by decide) (fun c2 => ?_) (fun c2 => ?_)
  · have h := h.1 c2
    refine g_aload_n C 0 dX9_use_19 rfl ?_
    refine Cg_X9_0_now C dX9_use_20 ?_
    refine g_iload_n C 1 dX9_use_23 rfl ?_
    refine g_callVi0 C (kS_isUsed (xL X) (xD X) ka ad _ _ _ _ _ _ _ h) miX7_isUsed (gw_of tw3_76 rfl) (by decide) wC_o1 rfl rfl rfl (Nat.le_of_ble_eq_true rfl) z00 dX9_use_24 (fun r3 w hw => ?_)
    obtain ⟨F3, R3, J3, P3, B3, rfl, h⟩ := hw
    refine g_if_eq C 33 dX9_use_27 (by decide) (fun c4 => ?_) (fun c4 => ?_)
    · have h := h.1 c4
      refine g_aload_n C 0 dX9_use_33 rfl ?_
      refine Cg_X9_0_now C dX9_use_34 ?_
      refine g_callVi0 C (kS_isSummer (xL X) (xD X) ka ad _ _ _ _ _ _ h) miX7_isSummer (gw_of tw3_44 rfl) (by decide) wC_o1 rfl rfl rfl (Nat.le_of_ble_eq_true rfl) z00 dX9_use_37 (fun r5 w hw => ?_)
      obtain ⟨F5, R5, J5, P5, B5, rfl, h⟩ := hw
      refine g_if_eq C 46 dX9_use_40 (by decide) (fun c6 => ?_) (fun c6 => ?_)
      · have h := h.1 c6
        refine g_aload_n C 0 dX9_use_46 rfl ?_
        refine Cg_X9_0_now C dX9_use_47 ?_
        refine g_callVv0 C (kS_remember (xL X) (xD X) ka ad _ _ _ _ _ _ h) miX7_remember (gw_of tw3_48 rfl) (by decide) wC_o1 rfl rfl rfl (Nat.le_of_ble_eq_true rfl) z00 dX9_use_50 (fun w hw => ?_)
        obtain ⟨F7, R7, J7, P7, B7, rfl, h⟩ := hw
        refine g_aload_n C 0 dX9_use_53 rfl ?_
        refine Cg_X9_0_now C dX9_use_54 ?_
        refine g_iload_n C 1 dX9_use_57 rfl ?_
        refine g_callVv0 C (kS_hinder (xL X) (xD X) ka ad _ _ _ _ _ _ _ h) miX7_hinder (gw_of tw3_80 rfl) (by decide) wC_o1 rfl rfl rfl (Nat.le_of_ble_eq_true rfl) z00 dX9_use_58 (fun w hw => ?_)
        obtain ⟨F8, R8, J8, P8, B8, rfl, h⟩ := hw
        refine g_aload_n C 0 dX9_use_61 rfl ?_
        refine Cg_X9_0_now C dX9_use_62 ?_
        refine g_callVi0 C (kS_costToday (xL X) (xD X) ka ad _ _ _ _ _ _ h) miX7_costToday (gw_of tw3_32 rfl) (by decide) wC_o1 rfl rfl rfl (Nat.le_of_ble_eq_true rfl) z00 dX9_use_65 (fun r9 w hw => ?_)
        obtain ⟨F9, R9, J9, P9, B9, rfl, h⟩ := hw
        exact hret _ _ _ _ ⟨_, _, _, _, _, rfl, h⟩ rfl dX9_use_68
      · have h := h.2 c6
        refine g_bipush C (-3 : Int32) dX9_use_43 cb_m3 ?_
        exact hret _ _ _ _ ⟨_, _, _, _, _, rfl, h⟩ rfl dX9_use_45
    · have h := h.2 c4
      refine g_bipush C (-2 : Int32) dX9_use_30 cb_m2 ?_
      exact hret _ _ _ _ ⟨_, _, _, _, _, rfl, h⟩ rfl dX9_use_32
  · have h := h.2 c2
    refine g_iconst C (-1 : Int32) dX9_use_17 ci_m1 ?_
    exact hret _ _ _ _ ⟨_, _, _, _, _, rfl, h⟩ rfl dX9_use_18
set_option maxHeartbeats 4000000 in
set_option maxRecDepth 100000 in
theorem kW_use (l : Launch) (D : va_G) (ka : Nat → ClassId) (ad : Nat → Nat) (F : FT) (R : RT) (J : JT) (P : PT) (B : BT) (a1 : Int32) (K : Int32 → FT → RT → JT → PT → BT → Prop) (h : qW_use F R J P B a1 K) : MI l D ka yX9_use cX9_use 2 (some .int) 3 0 0 [.ref (ad 99), .int a1] (wC ad ka F R J P B) (fun z w => ∃ F R J P B, w = wC ad ka F R J P B ∧ K z F R J P B) := MI_of (by decide) (Nat.le_of_ble_eq_true rfl) (fun X C hroom hret => bW_use C hret F R J P B a1 h)
set_option maxHeartbeats 4000000 in
set_option maxRecDepth 100000 in
theorem miX9_use : MInf yX9_use cX9_use 2 (some .int) 1 := ⟨(gw_of tw3_73 rfl), (gw_of tw3_74 rfl), (gw_of tw1_1 rfl), (gw_of tw3_75 rfl), by decide +kernel, by decide⟩

def qW_drift_29 : Nat → FT → RT → JT → PT → BT → Int32 → Int32 → Int32 → (Int32 → FT → RT → JT → PT → BT → Prop) → Prop
  | 0, _, _, _, _, _, _, _, _ => fun _ => False
  | n29 + 1, F, R, J, P, B, v1, v2, v3 => fun K => (v1 ≤ v3 → (K v2 F R J P B)) ∧ (¬ v1 ≤ v3 → (qS_isSummer F R J P B (fun r2 F2 R2 J2 P2 B2 => (¬ r2 = 0 → (K v2 F2 R2 J2 P2 B2)) ∧ (r2 = 0 → (qS_remember F2 R2 J2 P2 B2 (fun F4 R4 J4 P4 B4 => qS_drawWeather F4 R4 J4 P4 B4 (fun r5 F5 R5 J5 P5 B5 => qS_pass F5 R5 J5 P5 B5 r5 (fun r6 F6 R6 J6 P6 B6 => qW_drift_29 n29 F6 R6 J6 P6 B6 v1 (v2 + r6) (v3 + (1 : Int32)) K))))))))
set_option maxHeartbeats 4000000 in
set_option maxRecDepth 100000 in
theorem lW_drift_29 {X : XT} {ka : Nat → ClassId} {ad : Nat → Nat} (C : Cx X cX9_drift 4 RX9 (some .int) ka 7) {K : Int32 → FT → RT → JT → PT → BT → Prop} (hret : RetI X cX9_drift .int 0 0 (fun z w => ∃ F R J P B, w = wC ad ka F R J P B ∧ K z F R J P B)) : ∀ (n : Nat) (F : FT) (R : RT) (J : JT) (P : PT) (B : BT) (v1 : Int32) (v2 : Int32) (v3 : Int32), qW_drift_29 n F R J P B v1 v2 v3 K → G X 0 0 (wC ad ka F R J P B) 29 [(0, .ref (ad 99)), (1, .int v1), (2, .int v2), (3, .int v3)] [] := by
  intro n
  induction n with
  | zero => intro F R J P B v1 v2 v3 h; exact h.elim
  | succ n ih =>
    intro F R J P B v1 v2 v3 h
    refine g_iload_n C 3 dX9_drift_29 rfl ?_
    refine g_iload_n C 1 dX9_drift_30 rfl ?_
    refine g_icmp_ge C 74 dX9_drift_31 (by decide) (fun c1 => ?_) (fun c1 => ?_)
    · have h := h.1 c1
      refine g_iload_n C 2 dX9_drift_74 rfl ?_
      exact hret _ _ _ _ ⟨_, _, _, _, _, rfl, h⟩ rfl dX9_drift_75
    · have h := h.2 c1
      refine g_aload_n C 0 dX9_drift_34 rfl ?_
      refine Cg_X9_0_now C dX9_drift_35 ?_
      refine g_callVi0 C (kS_isSummer (xL X) (xD X) ka ad _ _ _ _ _ _ h) miX7_isSummer (gw_of tw3_44 rfl) (by decide) wC_o1 rfl rfl rfl (Nat.le_of_ble_eq_true rfl) z00 dX9_drift_38 (fun r2 w hw => ?_)
      obtain ⟨F2, R2, J2, P2, B2, rfl, h⟩ := hw
      refine g_if_ne C 74 dX9_drift_41 (by decide) (fun c3 => ?_) (fun c3 => ?_)
      · have h := h.1 c3
        refine g_iload_n C 2 dX9_drift_74 rfl ?_
        exact hret _ _ _ _ ⟨_, _, _, _, _, rfl, h⟩ rfl dX9_drift_75
      · have h := h.2 c3
        refine g_aload_n C 0 dX9_drift_44 rfl ?_
        refine Cg_X9_0_now C dX9_drift_45 ?_
        refine g_callVv0 C (kS_remember (xL X) (xD X) ka ad _ _ _ _ _ _ h) miX7_remember (gw_of tw3_48 rfl) (by decide) wC_o1 rfl rfl rfl (Nat.le_of_ble_eq_true rfl) z00 dX9_drift_48 (fun w hw => ?_)
        obtain ⟨F4, R4, J4, P4, B4, rfl, h⟩ := hw
        refine g_iload_n C 2 dX9_drift_51 rfl ?_
        refine g_aload_n C 0 dX9_drift_52 rfl ?_
        refine Cg_X9_0_now C dX9_drift_53 ?_
        refine g_aload_n C 0 dX9_drift_56 rfl ?_
        refine Cg_X9_0_now C dX9_drift_57 ?_
        refine g_callVi0 C (kS_drawWeather (xL X) (xD X) ka ad _ _ _ _ _ _ h) miX7_drawWeather (gw_of tw3_92 rfl) (by decide) wC_o1 rfl rfl rfl (Nat.le_of_ble_eq_true rfl) z00 dX9_drift_60 (fun r5 w hw => ?_)
        obtain ⟨F5, R5, J5, P5, B5, rfl, h⟩ := hw
        refine g_callVi0 C (kS_pass (xL X) (xD X) ka ad _ _ _ _ _ _ _ h) miX7_pass (gw_of tw3_55 rfl) (by decide) wC_o1 rfl rfl rfl (Nat.le_of_ble_eq_true rfl) z00 dX9_drift_63 (fun r6 w hw => ?_)
        obtain ⟨F6, R6, J6, P6, B6, rfl, h⟩ := hw
        refine g_iadd C dX9_drift_66 ?_
        refine g_istore_n C [(2, .int (v2 + r6)), (0, .ref (ad 99)), (1, .int v1), (3, .int v3)] dX9_drift_67 (by decide) rfl ?_
        refine g_iinc C 3 (v3 + (1 : Int32)) [(3, .int (v3 + (1 : Int32))), (2, .int (v2 + r6)), (0, .ref (ad 99)), (1, .int v1)] dX9_drift_68 rfl (by rw [ci_1]) (by decide) rfl ?_
        refine g_goto C 29 dX9_drift_71 (by decide) ?_
        exact g_lv [2, 3, 1, 0] rfl (ih _ _ _ _ _ _ _ _ h)
def qW_drift (F : FT) (R : RT) (J : JT) (P : PT) (B : BT) (a1 : Int32) (K : Int32 → FT → RT → JT → PT → BT → Prop) : Prop :=
  qW_within F R J P B a1 (1 : Int32) (40 : Int32) (fun r1 F1 R1 J1 P1 B1 => (¬ r1 = 0 → (qS_isSummer F1 R1 J1 P1 B1 (fun r3 F3 R3 J3 P3 B3 => (r3 = 0 → (∃ n29, qW_drift_29 n29 F3 R3 J3 P3 B3 a1 (0 : Int32) (0 : Int32) K)) ∧ (¬ r3 = 0 → (K (-3 : Int32) F3 R3 J3 P3 B3))))) ∧ (r1 = 0 → (K (-1 : Int32) F1 R1 J1 P1 B1)))
set_option maxHeartbeats 4000000 in
set_option maxRecDepth 100000 in
theorem bW_drift {X : XT} {ka : Nat → ClassId} {ad : Nat → Nat} (C : Cx X cX9_drift 4 RX9 (some .int) ka 7) {K : Int32 → FT → RT → JT → PT → BT → Prop} (hret : RetI X cX9_drift .int 0 0 (fun z w => ∃ F R J P B, w = wC ad ka F R J P B ∧ K z F R J P B)) (F : FT) (R : RT) (J : JT) (P : PT) (B : BT) (a1 : Int32) (h : qW_drift F R J P B a1 K) : G X 0 0 (wC ad ka F R J P B) 0 [(0, .ref (ad 99)), (1, .int a1)] [] := by
  unfold qW_drift at h
  refine g_iload_n C 1 dX9_drift_0 rfl ?_
  refine g_iconst C (1 : Int32) dX9_drift_1 ci_1 ?_
  refine g_bipush C (40 : Int32) dX9_drift_2 cb_40 ?_
  refine g_callSi0 C (kW_within (xL X) (xD X) ka ad _ _ _ _ _ _ _ _ _ h) siX9_within (gw_of tw2_32 rfl) (by decide) rfl rfl (Nat.le_of_ble_eq_true rfl) z00 dX9_drift_4 (fun r1 w hw => ?_)
  obtain ⟨F1, R1, J1, P1, B1, rfl, h⟩ := hw
  refine g_if_ne C 12 dX9_drift_7 (by decide) (fun c2 => ?_) (fun c2 => ?_)
  · have h := h.1 c2
    refine g_aload_n C 0 dX9_drift_12 rfl ?_
    refine Cg_X9_0_now C dX9_drift_13 ?_
    refine g_callVi0 C (kS_isSummer (xL X) (xD X) ka ad _ _ _ _ _ _ h) miX7_isSummer (gw_of tw3_44 rfl) (by decide) wC_o1 rfl rfl rfl (Nat.le_of_ble_eq_true rfl) z00 dX9_drift_16 (fun r3 w hw => ?_)
    obtain ⟨F3, R3, J3, P3, B3, rfl, h⟩ := hw
    refine g_if_eq C 25 dX9_drift_19 (by decide) (fun c4 => ?_) (fun c4 => ?_)
    · have h := h.1 c4
      refine g_iconst C (0 : Int32) dX9_drift_25 ci_0 ?_
      refine g_istore_n C [(2, .int (0 : Int32)), (0, .ref (ad 99)), (1, .int a1)] dX9_drift_26 (by decide) rfl ?_
      refine g_iconst C (0 : Int32) dX9_drift_27 ci_0 ?_
      refine g_istore_n C [(3, .int (0 : Int32)), (2, .int (0 : Int32)), (0, .ref (ad 99)), (1, .int a1)] dX9_drift_28 (by decide) rfl ?_
      obtain ⟨n1, h⟩ := h
      exact g_lv [2, 3, 1, 0] rfl (lW_drift_29 C hret n1 _ _ _ _ _ _ _ _ h)
    · have h := h.2 c4
      refine g_bipush C (-3 : Int32) dX9_drift_22 cb_m3 ?_
      exact hret _ _ _ _ ⟨_, _, _, _, _, rfl, h⟩ rfl dX9_drift_24
  · have h := h.2 c2
    refine g_iconst C (-1 : Int32) dX9_drift_10 ci_m1 ?_
    exact hret _ _ _ _ ⟨_, _, _, _, _, rfl, h⟩ rfl dX9_drift_11
set_option maxHeartbeats 4000000 in
set_option maxRecDepth 100000 in
theorem kW_drift (l : Launch) (D : va_G) (ka : Nat → ClassId) (ad : Nat → Nat) (F : FT) (R : RT) (J : JT) (P : PT) (B : BT) (a1 : Int32) (K : Int32 → FT → RT → JT → PT → BT → Prop) (h : qW_drift F R J P B a1 K) : MI l D ka yX9_drift cX9_drift 4 (some .int) 7 0 0 [.ref (ad 99), .int a1] (wC ad ka F R J P B) (fun z w => ∃ F R J P B, w = wC ad ka F R J P B ∧ K z F R J P B) := MI_of (by decide) (Nat.le_of_ble_eq_true rfl) (fun X C hroom hret => bW_drift C hret F R J P B a1 h)
set_option maxHeartbeats 4000000 in
set_option maxRecDepth 100000 in
theorem miX9_drift : MInf yX9_drift cX9_drift 4 (some .int) 1 := ⟨(gw_of tw3_89 rfl), (gw_of tw3_90 rfl), (gw_of tw1_1 rfl), (gw_of tw3_91 rfl), by decide +kernel, by decide⟩

def qW_undo (F : FT) (R : RT) (J : JT) (P : PT) (B : BT)  (K : Int32 → FT → RT → JT → PT → BT → Prop) : Prop :=
  (0 < (F 113) → (qS_recall F R J P B (fun F2 R2 J2 P2 B2 => K (F2 113) F2 R2 J2 P2 B2))) ∧ (¬ 0 < (F 113) → (K (-4 : Int32) F R J P B))
set_option maxHeartbeats 4000000 in
set_option maxRecDepth 100000 in
theorem bW_undo {X : XT} {ka : Nat → ClassId} {ad : Nat → Nat} (C : Cx X cX9_undo 1 RX9 (some .int) ka 2) {K : Int32 → FT → RT → JT → PT → BT → Prop} (hret : RetI X cX9_undo .int 0 0 (fun z w => ∃ F R J P B, w = wC ad ka F R J P B ∧ K z F R J P B)) (F : FT) (R : RT) (J : JT) (P : PT) (B : BT)  (h : qW_undo F R J P B  K) : G X 0 0 (wC ad ka F R J P B) 0 [(0, .ref (ad 99))] [] := by
  unfold qW_undo at h
  refine g_aload_n C 0 dX9_undo_0 rfl ?_
  refine Cg_X9_0_now C dX9_undo_1 ?_
  refine Cg_X9_1_pastCount C (v := F 113) rfl dX9_undo_4 ?_
  refine g_if_gt C 13 dX9_undo_7 (by decide) (fun c1 => ?_) (fun c1 => ?_)
  · have h := h.1 c1
    refine g_aload_n C 0 dX9_undo_13 rfl ?_
    refine Cg_X9_0_now C dX9_undo_14 ?_
    refine g_callVv0 C (kS_recall (xL X) (xD X) ka ad _ _ _ _ _ _ h) miX7_recall (gw_of tw3_104 rfl) (by decide) wC_o1 rfl rfl rfl (Nat.le_of_ble_eq_true rfl) z00 dX9_undo_17 (fun w hw => ?_)
    obtain ⟨F2, R2, J2, P2, B2, rfl, h⟩ := hw
    refine g_aload_n C 0 dX9_undo_20 rfl ?_
    refine Cg_X9_0_now C dX9_undo_21 ?_
    refine Cg_X9_1_pastCount C (v := F2 113) rfl dX9_undo_24 ?_
    exact hret _ _ _ _ ⟨_, _, _, _, _, rfl, h⟩ rfl dX9_undo_27
  · have h := h.2 c1
    refine g_bipush C (-4 : Int32) dX9_undo_10 cb_m4 ?_
    exact hret _ _ _ _ ⟨_, _, _, _, _, rfl, h⟩ rfl dX9_undo_12
set_option maxHeartbeats 4000000 in
set_option maxRecDepth 100000 in
theorem kW_undo (l : Launch) (D : va_G) (ka : Nat → ClassId) (ad : Nat → Nat) (F : FT) (R : RT) (J : JT) (P : PT) (B : BT)  (K : Int32 → FT → RT → JT → PT → BT → Prop) (h : qW_undo F R J P B  K) : MI l D ka yX9_undo cX9_undo 1 (some .int) 2 0 0 [.ref (ad 99)] (wC ad ka F R J P B) (fun z w => ∃ F R J P B, w = wC ad ka F R J P B ∧ K z F R J P B) := MI_of (by decide) (Nat.le_of_ble_eq_true rfl) (fun X C hroom hret => bW_undo C hret F R J P B  h)
set_option maxHeartbeats 4000000 in
set_option maxRecDepth 100000 in
theorem miX9_undo : MInf yX9_undo cX9_undo 1 (some .int) 0 := ⟨(gw_of tw3_101 rfl), (gw_of tw3_102 rfl), (gw_of tw1_1 rfl), (gw_of tw3_103 rfl), by decide +kernel, by decide⟩

def qW_seed (F : FT) (R : RT) (J : JT) (P : PT) (B : BT) (a1 : Int32) (K : Int32 → FT → RT → JT → PT → BT → Prop) : Prop :=
  (0 ≤ a1 → (K (F 110) (upd F 110 a1) R J P B)) ∧ (¬ 0 ≤ a1 → (K (-1 : Int32) F R J P B))
set_option maxHeartbeats 4000000 in
set_option maxRecDepth 100000 in
theorem bW_seed {X : XT} {ka : Nat → ClassId} {ad : Nat → Nat} (C : Cx X cX9_seed 3 RX9 (some .int) ka 1) {K : Int32 → FT → RT → JT → PT → BT → Prop} (hret : RetI X cX9_seed .int 0 0 (fun z w => ∃ F R J P B, w = wC ad ka F R J P B ∧ K z F R J P B)) (F : FT) (R : RT) (J : JT) (P : PT) (B : BT) (a1 : Int32) (h : qW_seed F R J P B a1 K) : G X 0 0 (wC ad ka F R J P B) 0 [(0, .ref (ad 99)), (1, .int a1)] [] := by
  unfold qW_seed at h
  refine g_iload_n C 1 dX9_seed_0 rfl ?_
  refine g_if_ge C 6 dX9_seed_1 (by decide) (fun c1 => ?_) (fun c1 => ?_)
  · have h := h.1 c1
    refine g_aload_n C 0 dX9_seed_6 rfl ?_
    refine Cg_X9_0_now C dX9_seed_7 ?_
    refine Cg_X9_1_draw C (v := F 110) rfl dX9_seed_10 ?_
    refine g_istore_n C [(2, .int (F 110)), (0, .ref (ad 99)), (1, .int a1)] dX9_seed_13 (by decide) rfl ?_
    refine g_aload_n C 1 dX9_seed_14 rfl ?_
    refine Cg_X9_0_now C dX9_seed_15 ?_
    refine g_iload_n C 2 dX9_seed_18 rfl ?_
    refine Cp_X9_1_draw C dX9_seed_19 ?_
    refine g_iload_n C 0 dX9_seed_22 rfl ?_
    exact hret _ _ _ _ ⟨_, _, _, _, _, rfl, h⟩ rfl dX9_seed_23
  · have h := h.2 c1
    refine g_iconst C (-1 : Int32) dX9_seed_4 ci_m1 ?_
    exact hret _ _ _ _ ⟨_, _, _, _, _, rfl, h⟩ rfl dX9_seed_5
set_option maxHeartbeats 4000000 in
set_option maxRecDepth 100000 in
theorem kW_seed (l : Launch) (D : va_G) (ka : Nat → ClassId) (ad : Nat → Nat) (F : FT) (R : RT) (J : JT) (P : PT) (B : BT) (a1 : Int32) (K : Int32 → FT → RT → JT → PT → BT → Prop) (h : qW_seed F R J P B a1 K) : MI l D ka yX9_seed cX9_seed 3 (some .int) 1 0 0 [.ref (ad 99), .int a1] (wC ad ka F R J P B) (fun z w => ∃ F R J P B, w = wC ad ka F R J P B ∧ K z F R J P B) := MI_of (by decide) (Nat.le_of_ble_eq_true rfl) (fun X C hroom hret => bW_seed C hret F R J P B a1 h)
set_option maxHeartbeats 4000000 in
set_option maxRecDepth 100000 in
theorem miX9_seed : MInf yX9_seed cX9_seed 3 (some .int) 1 := ⟨(gw_of tw3_109 rfl), (gw_of tw3_110 rfl), (gw_of tw1_1 rfl), (gw_of tw3_111 rfl), by decide +kernel, by decide⟩

def qW_odds (F : FT) (R : RT) (J : JT) (P : PT) (B : BT)  (K : Int32 → FT → RT → JT → PT → BT → Prop) : Prop :=
  qO_oddsNow F R J P B (-1 : Int32) (0 : Int32) (fun r1 F1 R1 J1 P1 B1 => K r1 F1 R1 J1 P1 B1)
set_option maxHeartbeats 4000000 in
set_option maxRecDepth 100000 in
theorem bW_odds {X : XT} {ka : Nat → ClassId} {ad : Nat → Nat} (C : Cx X cX9_odds 1 RX9 (some .int) ka 7) {K : Int32 → FT → RT → JT → PT → BT → Prop} (hret : RetI X cX9_odds .int 0 0 (fun z w => ∃ F R J P B, w = wC ad ka F R J P B ∧ K z F R J P B)) (F : FT) (R : RT) (J : JT) (P : PT) (B : BT)  (h : qW_odds F R J P B  K) : G X 0 0 (wC ad ka F R J P B) 0 [(0, .ref (ad 99))] [] := by
  unfold qW_odds at h
  refine g_aload_n C 0 dX9_odds_0 rfl ?_
  refine Cg_X9_0_foretold C dX9_odds_1 ?_
  refine g_aload_n C 0 dX9_odds_4 rfl ?_
  refine Cg_X9_0_now C dX9_odds_5 ?_
  refine g_iconst C (-1 : Int32) dX9_odds_8 ci_m1 ?_
  refine g_iconst C (0 : Int32) dX9_odds_9 ci_0 ?_
  refine g_callVi0 C (kO_oddsNow (xL X) (xD X) ka ad _ _ _ _ _ _ _ _ h) miX1_oddsNow (gw_of tw3_116 rfl) (by decide) wC_o4 rfl rfl rfl (Nat.le_of_ble_eq_true rfl) z00 dX9_odds_10 (fun r1 w hw => ?_)
  obtain ⟨F1, R1, J1, P1, B1, rfl, h⟩ := hw
  exact hret _ _ _ _ ⟨_, _, _, _, _, rfl, h⟩ rfl dX9_odds_13
set_option maxHeartbeats 4000000 in
set_option maxRecDepth 100000 in
theorem kW_odds (l : Launch) (D : va_G) (ka : Nat → ClassId) (ad : Nat → Nat) (F : FT) (R : RT) (J : JT) (P : PT) (B : BT)  (K : Int32 → FT → RT → JT → PT → BT → Prop) (h : qW_odds F R J P B  K) : MI l D ka yX9_odds cX9_odds 1 (some .int) 7 0 0 [.ref (ad 99)] (wC ad ka F R J P B) (fun z w => ∃ F R J P B, w = wC ad ka F R J P B ∧ K z F R J P B) := MI_of (by decide) (Nat.le_of_ble_eq_true rfl) (fun X C hroom hret => bW_odds C hret F R J P B  h)
set_option maxHeartbeats 4000000 in
set_option maxRecDepth 100000 in
theorem miX9_odds : MInf yX9_odds cX9_odds 1 (some .int) 0 := ⟨(gw_of tw3_113 rfl), (gw_of tw3_114 rfl), (gw_of tw1_1 rfl), (gw_of tw3_115 rfl), by decide +kernel, by decide⟩

def qW_oddsAt (F : FT) (R : RT) (J : JT) (P : PT) (B : BT) (a1 : Int32) (a2 : Int32) (K : Int32 → FT → RT → JT → PT → BT → Prop) : Prop :=
  qW_within F R J P B a1 (0 : Int32) (F 101) (fun r1 F1 R1 J1 P1 B1 => (r1 = 0 → (K (-1 : Int32) F1 R1 J1 P1 B1)) ∧ (¬ r1 = 0 → (qW_within F1 R1 J1 P1 B1 a2 (0 : Int32) (F1 100) (fun r3 F3 R3 J3 P3 B3 => (¬ r3 = 0 → (qO_oddsFrom F3 R3 J3 P3 B3 a1 a2 (fun r5 F5 R5 J5 P5 B5 => K r5 F5 R5 J5 P5 B5))) ∧ (r3 = 0 → (K (-1 : Int32) F3 R3 J3 P3 B3))))))
set_option maxHeartbeats 4000000 in
set_option maxRecDepth 100000 in
theorem bW_oddsAt {X : XT} {ka : Nat → ClassId} {ad : Nat → Nat} (C : Cx X cX9_oddsAt 3 RX9 (some .int) ka 7) {K : Int32 → FT → RT → JT → PT → BT → Prop} (hret : RetI X cX9_oddsAt .int 0 0 (fun z w => ∃ F R J P B, w = wC ad ka F R J P B ∧ K z F R J P B)) (F : FT) (R : RT) (J : JT) (P : PT) (B : BT) (a1 : Int32) (a2 : Int32) (h : qW_oddsAt F R J P B a1 a2 K) : G X 0 0 (wC ad ka F R J P B) 0 [(0, .ref (ad 99)), (1, .int a1), (2, .int a2)] [] := by
  unfold qW_oddsAt at h
  refine g_iload_n C 1 dX9_oddsAt_0 rfl ?_
  refine g_iconst C (0 : Int32) dX9_oddsAt_1 ci_0 ?_
  refine g_aload_n C 0 dX9_oddsAt_2 rfl ?_
  refine Cg_X9_0_now C dX9_oddsAt_3 ?_
  refine Cg_X9_1_days C (v := F 101) rfl dX9_oddsAt_6 ?_
  refine g_callSi0 C (kW_within (xL X) (xD X) ka ad _ _ _ _ _ _ _ _ _ h) siX9_within (gw_of tw2_32 rfl) (by decide) rfl rfl (Nat.le_of_ble_eq_true rfl) z00 dX9_oddsAt_9 (fun r1 w hw => ?_)
  obtain ⟨F1, R1, J1, P1, B1, rfl, h⟩ := hw
  refine g_if_eq C 30 dX9_oddsAt_12 (by decide) (fun c2 => ?_) (fun c2 => ?_)
  · have h := h.1 c2
    refine g_iconst C (-1 : Int32) dX9_oddsAt_30 ci_m1 ?_
    exact hret _ _ _ _ ⟨_, _, _, _, _, rfl, h⟩ rfl dX9_oddsAt_31
  · have h := h.2 c2
    refine g_iload_n C 2 dX9_oddsAt_15 rfl ?_
    refine g_iconst C (0 : Int32) dX9_oddsAt_16 ci_0 ?_
    refine g_aload_n C 0 dX9_oddsAt_17 rfl ?_
    refine Cg_X9_0_now C dX9_oddsAt_18 ?_
    refine Cg_X9_1_stones C (v := F1 100) rfl dX9_oddsAt_21 ?_
    refine g_callSi0 C (kW_within (xL X) (xD X) ka ad _ _ _ _ _ _ _ _ _ h) siX9_within (gw_of tw2_32 rfl) (by decide) rfl rfl (Nat.le_of_ble_eq_true rfl) z00 dX9_oddsAt_24 (fun r3 w hw => ?_)
    obtain ⟨F3, R3, J3, P3, B3, rfl, h⟩ := hw
    refine g_if_ne C 32 dX9_oddsAt_27 (by decide) (fun c4 => ?_) (fun c4 => ?_)
    · have h := h.1 c4
      refine g_aload_n C 0 dX9_oddsAt_32 rfl ?_
      refine Cg_X9_0_foretold C dX9_oddsAt_33 ?_
      refine g_aload_n C 0 dX9_oddsAt_36 rfl ?_
      refine Cg_X9_0_now C dX9_oddsAt_37 ?_
      refine g_iload_n C 1 dX9_oddsAt_40 rfl ?_
      refine g_iload_n C 2 dX9_oddsAt_41 rfl ?_
      refine g_callVi0 C (kO_oddsFrom (xL X) (xD X) ka ad _ _ _ _ _ _ _ _ h) miX1_oddsFrom (gw_of tw3_160 rfl) (by decide) wC_o4 rfl rfl rfl (Nat.le_of_ble_eq_true rfl) z00 dX9_oddsAt_42 (fun r5 w hw => ?_)
      obtain ⟨F5, R5, J5, P5, B5, rfl, h⟩ := hw
      exact hret _ _ _ _ ⟨_, _, _, _, _, rfl, h⟩ rfl dX9_oddsAt_45
    · have h := h.2 c4
      refine g_iconst C (-1 : Int32) dX9_oddsAt_30 ci_m1 ?_
      exact hret _ _ _ _ ⟨_, _, _, _, _, rfl, h⟩ rfl dX9_oddsAt_31
set_option maxHeartbeats 4000000 in
set_option maxRecDepth 100000 in
theorem kW_oddsAt (l : Launch) (D : va_G) (ka : Nat → ClassId) (ad : Nat → Nat) (F : FT) (R : RT) (J : JT) (P : PT) (B : BT) (a1 : Int32) (a2 : Int32) (K : Int32 → FT → RT → JT → PT → BT → Prop) (h : qW_oddsAt F R J P B a1 a2 K) : MI l D ka yX9_oddsAt cX9_oddsAt 3 (some .int) 7 0 0 [.ref (ad 99), .int a1, .int a2] (wC ad ka F R J P B) (fun z w => ∃ F R J P B, w = wC ad ka F R J P B ∧ K z F R J P B) := MI_of (by decide) (Nat.le_of_ble_eq_true rfl) (fun X C hroom hret => bW_oddsAt C hret F R J P B a1 a2 h)
set_option maxHeartbeats 4000000 in
set_option maxRecDepth 100000 in
theorem miX9_oddsAt : MInf yX9_oddsAt cX9_oddsAt 3 (some .int) 2 := ⟨(gw_of tw3_157 rfl), (gw_of tw3_158 rfl), (gw_of tw1_1 rfl), (gw_of tw3_159 rfl), by decide +kernel, by decide⟩

def qW_sure (F : FT) (R : RT) (J : JT) (P : PT) (B : BT) (a1 : Int32) (K : Int32 → FT → RT → JT → PT → BT → Prop) : Prop :=
  qW_within F R J P B a1 (0 : Int32) (1000000 : Int32) (fun r1 F1 R1 J1 P1 B1 => (¬ r1 = 0 → (qO_firstSureDay F1 R1 J1 P1 B1 a1 (fun r3 F3 R3 J3 P3 B3 => K r3 F3 R3 J3 P3 B3))) ∧ (r1 = 0 → (K (-1 : Int32) F1 R1 J1 P1 B1)))
set_option maxHeartbeats 4000000 in
set_option maxRecDepth 100000 in
theorem bW_sure {X : XT} {ka : Nat → ClassId} {ad : Nat → Nat} (C : Cx X cX9_sure 2 RX9 (some .int) ka 7) {K : Int32 → FT → RT → JT → PT → BT → Prop} (hret : RetI X cX9_sure .int 0 0 (fun z w => ∃ F R J P B, w = wC ad ka F R J P B ∧ K z F R J P B)) (F : FT) (R : RT) (J : JT) (P : PT) (B : BT) (a1 : Int32) (h : qW_sure F R J P B a1 K) : G X 0 0 (wC ad ka F R J P B) 0 [(0, .ref (ad 99)), (1, .int a1)] [] := by
  unfold qW_sure at h
  refine g_iload_n C 1 dX9_sure_0 rfl ?_
  refine g_iconst C (0 : Int32) dX9_sure_1 ci_0 ?_
  refine g_ldc C (gw_of tw3_168 rfl) dX9_sure_2 ?_
  refine g_callSi0 C (kW_within (xL X) (xD X) ka ad _ _ _ _ _ _ _ _ _ h) siX9_within (gw_of tw2_32 rfl) (by decide) rfl rfl (Nat.le_of_ble_eq_true rfl) z00 dX9_sure_4 (fun r1 w hw => ?_)
  obtain ⟨F1, R1, J1, P1, B1, rfl, h⟩ := hw
  refine g_if_ne C 12 dX9_sure_7 (by decide) (fun c2 => ?_) (fun c2 => ?_)
  · have h := h.1 c2
    refine g_aload_n C 0 dX9_sure_12 rfl ?_
    refine Cg_X9_0_foretold C dX9_sure_13 ?_
    refine g_aload_n C 0 dX9_sure_16 rfl ?_
    refine Cg_X9_0_now C dX9_sure_17 ?_
    refine g_iload_n C 1 dX9_sure_20 rfl ?_
    refine g_callVi0 C (kO_firstSureDay (xL X) (xD X) ka ad _ _ _ _ _ _ _ h) miX1_firstSureDay (gw_of tw3_169 rfl) (by decide) wC_o4 rfl rfl rfl (Nat.le_of_ble_eq_true rfl) z00 dX9_sure_21 (fun r3 w hw => ?_)
    obtain ⟨F3, R3, J3, P3, B3, rfl, h⟩ := hw
    exact hret _ _ _ _ ⟨_, _, _, _, _, rfl, h⟩ rfl dX9_sure_24
  · have h := h.2 c2
    refine g_iconst C (-1 : Int32) dX9_sure_10 ci_m1 ?_
    exact hret _ _ _ _ ⟨_, _, _, _, _, rfl, h⟩ rfl dX9_sure_11
set_option maxHeartbeats 4000000 in
set_option maxRecDepth 100000 in
theorem kW_sure (l : Launch) (D : va_G) (ka : Nat → ClassId) (ad : Nat → Nat) (F : FT) (R : RT) (J : JT) (P : PT) (B : BT) (a1 : Int32) (K : Int32 → FT → RT → JT → PT → BT → Prop) (h : qW_sure F R J P B a1 K) : MI l D ka yX9_sure cX9_sure 2 (some .int) 7 0 0 [.ref (ad 99), .int a1] (wC ad ka F R J P B) (fun z w => ∃ F R J P B, w = wC ad ka F R J P B ∧ K z F R J P B) := MI_of (by decide) (Nat.le_of_ble_eq_true rfl) (fun X C hroom hret => bW_sure C hret F R J P B a1 h)
set_option maxHeartbeats 4000000 in
set_option maxRecDepth 100000 in
theorem miX9_sure : MInf yX9_sure cX9_sure 2 (some .int) 1 := ⟨(gw_of tw3_165 rfl), (gw_of tw3_166 rfl), (gw_of tw1_1 rfl), (gw_of tw3_167 rfl), by decide +kernel, by decide⟩

def qW_pace_78 (k35 : FT → RT → JT → PT → BT → Int32 → Int32 → Int32 → Int32 → Prop) (F : FT) (R : RT) (J : JT) (P : PT) (B : BT) (v1 : Int32) (v2 : Int32) (v3 : Int32) (v4 : Int32) (K : Int32 → FT → RT → JT → PT → BT → Prop) : Prop :=
  k35 F R J P B v1 v2 v3 (v4 / (2 : Int32))
set_option maxHeartbeats 4000000 in
set_option maxRecDepth 100000 in
theorem lW_pace_78 {X : XT} {ka : Nat → ClassId} {ad : Nat → Nat} (C : Cx X cX9_pace 6 RX9 (some .int) ka 7) {K : Int32 → FT → RT → JT → PT → BT → Prop} (hret : RetI X cX9_pace .int 0 0 (fun z w => ∃ F R J P B, w = wC ad ka F R J P B ∧ K z F R J P B)) {k35 : FT → RT → JT → PT → BT → Int32 → Int32 → Int32 → Int32 → Prop} (hk35 : ∀ (F : FT) (R : RT) (J : JT) (P : PT) (B : BT) (v1 : Int32) (v2 : Int32) (v3 : Int32) (v4 : Int32), k35 F R J P B v1 v2 v3 v4 → G X 0 0 (wC ad ka F R J P B) 35 [(0, .ref (ad 99)), (1, .int v1), (2, .int v2), (3, .int v3), (4, .int v4)] []) (F : FT) (R : RT) (J : JT) (P : PT) (B : BT) (v1 : Int32) (v2 : Int32) (v3 : Int32) (v4 : Int32) (h : qW_pace_78 k35 F R J P B v1 v2 v3 v4 K) : G X 0 0 (wC ad ka F R J P B) 78 [(0, .ref (ad 99)), (1, .int v1), (2, .int v2), (3, .int v3), (4, .int v4)] [] := by
  unfold qW_pace_78 at h
  refine g_iload C 4 dX9_pace_78 rfl ?_
  refine g_iconst C (2 : Int32) dX9_pace_80 ci_2 ?_
  refine g_idiv C dX9_pace_81 (by decide) ?_
  refine g_istore C [(4, .int (v4 / (2 : Int32))), (0, .ref (ad 99)), (1, .int v1), (2, .int v2), (3, .int v3)] dX9_pace_82 (by decide) rfl ?_
  refine g_goto C 35 dX9_pace_84 (by decide) ?_
  exact g_lv [1, 2, 3, 4, 0] rfl (hk35 _ _ _ _ _ _ _ _ _ h)
def qW_pace_35 : Nat → FT → RT → JT → PT → BT → Int32 → Int32 → Int32 → Int32 → (Int32 → FT → RT → JT → PT → BT → Prop) → Prop
  | 0, _, _, _, _, _, _, _, _, _ => fun _ => False
  | n35 + 1, F, R, J, P, B, v1, v2, v3, v4 => fun K => (v4 ≤ 0 → (((20 : Int32) < v3 → (K (-4 : Int32) F R J P B)) ∧ (¬ (20 : Int32) < v3 → (K v3 F R J P B)))) ∧ (¬ v4 ≤ 0 → (((20 : Int32) < ((v3 + v4) - (1 : Int32)) → (qW_pace_78 (fun F R J P B v1 v2 v3 v4 => qW_pace_35 n35 F R J P B v1 v2 v3 v4 K) F R J P B v1 v2 v3 v4 K)) ∧ (¬ (20 : Int32) < ((v3 + v4) - (1 : Int32)) → (qO_oddsNow F R J P B v1 ((v3 + v4) - (1 : Int32)) (fun r4 F4 R4 J4 P4 B4 => (v2 ≤ r4 → (qW_pace_78 (fun F R J P B v1 v2 v3 v4 => qW_pace_35 n35 F R J P B v1 v2 v3 v4 K) F4 R4 J4 P4 B4 v1 v2 v3 v4 K)) ∧ (¬ v2 ≤ r4 → (qW_pace_78 (fun F R J P B v1 v2 v3 v4 => qW_pace_35 n35 F R J P B v1 v2 v3 v4 K) F4 R4 J4 P4 B4 v1 v2 (v3 + v4) v4 K)))))))
set_option maxHeartbeats 4000000 in
set_option maxRecDepth 100000 in
theorem lW_pace_35 {X : XT} {ka : Nat → ClassId} {ad : Nat → Nat} (C : Cx X cX9_pace 6 RX9 (some .int) ka 7) {K : Int32 → FT → RT → JT → PT → BT → Prop} (hret : RetI X cX9_pace .int 0 0 (fun z w => ∃ F R J P B, w = wC ad ka F R J P B ∧ K z F R J P B)) : ∀ (n : Nat) (F : FT) (R : RT) (J : JT) (P : PT) (B : BT) (v1 : Int32) (v2 : Int32) (v3 : Int32) (v4 : Int32), qW_pace_35 n F R J P B v1 v2 v3 v4 K → G X 0 0 (wC ad ka F R J P B) 35 [(0, .ref (ad 99)), (1, .int v1), (2, .int v2), (3, .int v3), (4, .int v4)] [] := by
  intro n
  induction n with
  | zero => intro F R J P B v1 v2 v3 v4 h; exact h.elim
  | succ n ih =>
    intro F R J P B v1 v2 v3 v4 h
    refine g_iload C 4 dX9_pace_35 rfl ?_
    refine g_if_le C 87 dX9_pace_37 (by decide) (fun c1 => ?_) (fun c1 => ?_)
    · have h := h.1 c1
      refine g_iload_n C 3 dX9_pace_87 rfl ?_
      refine g_bipush C (20 : Int32) dX9_pace_88 cb_20 ?_
      refine g_icmp_gt C 97 dX9_pace_90 (by decide) (fun c2 => ?_) (fun c2 => ?_)
      · have h := h.1 c2
        refine g_bipush C (-4 : Int32) dX9_pace_97 cb_m4 ?_
        exact hret _ _ _ _ ⟨_, _, _, _, _, rfl, h⟩ rfl dX9_pace_99
      · have h := h.2 c2
        refine g_iload_n C 3 dX9_pace_93 rfl ?_
        refine g_goto C 99 dX9_pace_94 (by decide) ?_
        exact hret _ _ _ _ ⟨_, _, _, _, _, rfl, h⟩ rfl dX9_pace_99
    · have h := h.2 c1
      refine g_iload_n C 3 dX9_pace_40 rfl ?_
      refine g_iload C 4 dX9_pace_41 rfl ?_
      refine g_iadd C dX9_pace_43 ?_
      refine g_iconst C (1 : Int32) dX9_pace_44 ci_1 ?_
      refine g_isub C dX9_pace_45 ?_
      refine g_istore C [(5, .int ((v3 + v4) - (1 : Int32))), (0, .ref (ad 99)), (1, .int v1), (2, .int v2), (3, .int v3), (4, .int v4)] dX9_pace_46 (by decide) rfl ?_
      refine g_iload C 0 dX9_pace_48 rfl ?_
      refine g_bipush C (20 : Int32) dX9_pace_50 cb_20 ?_
      refine g_icmp_gt C 78 dX9_pace_52 (by decide) (fun c3 => ?_) (fun c3 => ?_)
      · have h := h.1 c3
        exact g_lv [1, 2, 3, 4, 5] rfl (lW_pace_78 C hret (fun F R J P B v1 v2 v3 v4 h => ih F R J P B v1 v2 v3 v4 h) _ _ _ _ _ _ _ _ _ h)
      · have h := h.2 c3
        refine g_aload_n C 1 dX9_pace_55 rfl ?_
        refine Cg_X9_0_foretold C dX9_pace_56 ?_
        refine g_aload_n C 1 dX9_pace_59 rfl ?_
        refine Cg_X9_0_now C dX9_pace_60 ?_
        refine g_iload_n C 2 dX9_pace_63 rfl ?_
        refine g_iload C 0 dX9_pace_64 rfl ?_
        refine g_callVi0 C (kO_oddsNow (xL X) (xD X) ka ad _ _ _ _ _ _ _ _ h) miX1_oddsNow (gw_of tw3_116 rfl) (by decide) wC_o4 rfl rfl rfl (Nat.le_of_ble_eq_true rfl) z00 dX9_pace_66 (fun r4 w hw => ?_)
        obtain ⟨F4, R4, J4, P4, B4, rfl, h⟩ := hw
        refine g_iload_n C 3 dX9_pace_69 rfl ?_
        refine g_icmp_ge C 78 dX9_pace_70 (by decide) (fun c5 => ?_) (fun c5 => ?_)
        · have h := h.1 c5
          exact g_lv [1, 2, 3, 4, 5] rfl (lW_pace_78 C hret (fun F R J P B v1 v2 v3 v4 h => ih F R J P B v1 v2 v3 v4 h) _ _ _ _ _ _ _ _ _ h)
        · have h := h.2 c5
          refine g_iload_n C 4 dX9_pace_73 rfl ?_
          refine g_iload C 5 dX9_pace_74 rfl ?_
          refine g_iadd C dX9_pace_76 ?_
          refine g_istore_n C [(3, .int (v3 + v4)), (5, .int ((v3 + v4) - (1 : Int32))), (0, .ref (ad 99)), (1, .int v1), (2, .int v2), (4, .int v4)] dX9_pace_77 (by decide) rfl ?_
          exact g_lv [2, 3, 4, 0, 5] rfl (lW_pace_78 C hret (fun F R J P B v1 v2 v3 v4 h => ih F R J P B v1 v2 v3 v4 h) _ _ _ _ _ _ _ _ _ h)
def qW_pace (F : FT) (R : RT) (J : JT) (P : PT) (B : BT) (a1 : Int32) (a2 : Int32) (K : Int32 → FT → RT → JT → PT → BT → Prop) : Prop :=
  qW_within F R J P B a1 (0 : Int32) ((F 111) - (1 : Int32)) (fun r1 F1 R1 J1 P1 B1 => (r1 = 0 → (K (-1 : Int32) F1 R1 J1 P1 B1)) ∧ (¬ r1 = 0 → (qW_within F1 R1 J1 P1 B1 a2 (0 : Int32) (1000000 : Int32) (fun r3 F3 R3 J3 P3 B3 => (¬ r3 = 0 → (∃ n35, qW_pace_35 n35 F3 R3 J3 P3 B3 a1 a2 (0 : Int32) (16 : Int32) K)) ∧ (r3 = 0 → (K (-1 : Int32) F3 R3 J3 P3 B3))))))
set_option maxHeartbeats 4000000 in
set_option maxRecDepth 100000 in
theorem bW_pace {X : XT} {ka : Nat → ClassId} {ad : Nat → Nat} (C : Cx X cX9_pace 6 RX9 (some .int) ka 7) {K : Int32 → FT → RT → JT → PT → BT → Prop} (hret : RetI X cX9_pace .int 0 0 (fun z w => ∃ F R J P B, w = wC ad ka F R J P B ∧ K z F R J P B)) (F : FT) (R : RT) (J : JT) (P : PT) (B : BT) (a1 : Int32) (a2 : Int32) (h : qW_pace F R J P B a1 a2 K) : G X 0 0 (wC ad ka F R J P B) 0 [(0, .ref (ad 99)), (1, .int a1), (2, .int a2)] [] := by
  unfold qW_pace at h
  refine g_iload_n C 1 dX9_pace_0 rfl ?_
  refine g_iconst C (0 : Int32) dX9_pace_1 ci_0 ?_
  refine g_aload_n C 0 dX9_pace_2 rfl ?_
  refine Cg_X9_0_now C dX9_pace_3 ?_
  refine Cg_X9_1_builderCount C (v := F 111) rfl dX9_pace_6 ?_
  refine g_iconst C (1 : Int32) dX9_pace_9 ci_1 ?_
  refine g_isub C dX9_pace_10 ?_
  refine g_callSi0 C (kW_within (xL X) (xD X) ka ad _ _ _ _ _ _ _ _ _ h) siX9_within (gw_of tw2_32 rfl) (by decide) rfl rfl (Nat.le_of_ble_eq_true rfl) z00 dX9_pace_11 (fun r1 w hw => ?_)
  obtain ⟨F1, R1, J1, P1, B1, rfl, h⟩ := hw
  refine g_if_eq C 27 dX9_pace_14 (by decide) (fun c2 => ?_) (fun c2 => ?_)
  · have h := h.1 c2
    refine g_iconst C (-1 : Int32) dX9_pace_27 ci_m1 ?_
    exact hret _ _ _ _ ⟨_, _, _, _, _, rfl, h⟩ rfl dX9_pace_28
  · have h := h.2 c2
    refine g_iload_n C 2 dX9_pace_17 rfl ?_
    refine g_iconst C (0 : Int32) dX9_pace_18 ci_0 ?_
    refine g_ldc C (gw_of tw3_168 rfl) dX9_pace_19 ?_
    refine g_callSi0 C (kW_within (xL X) (xD X) ka ad _ _ _ _ _ _ _ _ _ h) siX9_within (gw_of tw2_32 rfl) (by decide) rfl rfl (Nat.le_of_ble_eq_true rfl) z00 dX9_pace_21 (fun r3 w hw => ?_)
    obtain ⟨F3, R3, J3, P3, B3, rfl, h⟩ := hw
    refine g_if_ne C 29 dX9_pace_24 (by decide) (fun c4 => ?_) (fun c4 => ?_)
    · have h := h.1 c4
      refine g_iconst C (0 : Int32) dX9_pace_29 ci_0 ?_
      refine g_istore_n C [(3, .int (0 : Int32)), (0, .ref (ad 99)), (1, .int a1), (2, .int a2)] dX9_pace_30 (by decide) rfl ?_
      refine g_bipush C (16 : Int32) dX9_pace_31 cb_16 ?_
      refine g_istore C [(4, .int (16 : Int32)), (3, .int (0 : Int32)), (0, .ref (ad 99)), (1, .int a1), (2, .int a2)] dX9_pace_33 (by decide) rfl ?_
      obtain ⟨n1, h⟩ := h
      exact g_lv [2, 3, 4, 1, 0] rfl (lW_pace_35 C hret n1 _ _ _ _ _ _ _ _ _ h)
    · have h := h.2 c4
      refine g_iconst C (-1 : Int32) dX9_pace_27 ci_m1 ?_
      exact hret _ _ _ _ ⟨_, _, _, _, _, rfl, h⟩ rfl dX9_pace_28
set_option maxHeartbeats 4000000 in
set_option maxRecDepth 100000 in
theorem kW_pace (l : Launch) (D : va_G) (ka : Nat → ClassId) (ad : Nat → Nat) (F : FT) (R : RT) (J : JT) (P : PT) (B : BT) (a1 : Int32) (a2 : Int32) (K : Int32 → FT → RT → JT → PT → BT → Prop) (h : qW_pace F R J P B a1 a2 K) : MI l D ka yX9_pace cX9_pace 6 (some .int) 7 0 0 [.ref (ad 99), .int a1, .int a2] (wC ad ka F R J P B) (fun z w => ∃ F R J P B, w = wC ad ka F R J P B ∧ K z F R J P B) := MI_of (by decide) (Nat.le_of_ble_eq_true rfl) (fun X C hroom hret => bW_pace C hret F R J P B a1 a2 h)
set_option maxHeartbeats 4000000 in
set_option maxRecDepth 100000 in
theorem miX9_pace : MInf yX9_pace cX9_pace 6 (some .int) 2 := ⟨(gw_of tw3_174 rfl), (gw_of tw3_175 rfl), (gw_of tw1_1 rfl), (gw_of tw3_176 rfl), by decide +kernel, by decide⟩

def qW_plan (F : FT) (R : RT) (J : JT) (P : PT) (B : BT) (a1 : Int32) (a2 : Int32) (K : Int32 → FT → RT → JT → PT → BT → Prop) : Prop :=
  qW_within F R J P B a1 (0 : Int32) (1000000 : Int32) (fun r1 F1 R1 J1 P1 B1 => (r1 = 0 → (K (-1 : Int32) F1 R1 J1 P1 B1)) ∧ (¬ r1 = 0 → (qW_within F1 R1 J1 P1 B1 a2 (0 : Int32) (1 : Int32) (fun r3 F3 R3 J3 P3 B3 => (¬ r3 = 0 → (qO_fewestHindrances F3 R3 J3 P3 B3 a1 (fun r5 F5 R5 J5 P5 B5 => (0 ≤ r5 → ((¬ a2 = 0 → (K r5 F5 R5 J5 P5 B5)) ∧ (a2 = 0 → (qJ_bitCount F5 R5 J5 P5 B5 r5 (fun r8 F8 R8 J8 P8 B8 => K r8 F8 R8 J8 P8 B8))))) ∧ (¬ 0 ≤ r5 → (K (-4 : Int32) F5 R5 J5 P5 B5))))) ∧ (r3 = 0 → (K (-1 : Int32) F3 R3 J3 P3 B3))))))
set_option maxHeartbeats 4000000 in
set_option maxRecDepth 100000 in
theorem bW_plan {X : XT} {ka : Nat → ClassId} {ad : Nat → Nat} (C : Cx X cX9_plan 4 RX9 (some .int) ka 7) {K : Int32 → FT → RT → JT → PT → BT → Prop} (hret : RetI X cX9_plan .int 0 0 (fun z w => ∃ F R J P B, w = wC ad ka F R J P B ∧ K z F R J P B)) (F : FT) (R : RT) (J : JT) (P : PT) (B : BT) (a1 : Int32) (a2 : Int32) (h : qW_plan F R J P B a1 a2 K) : G X 0 0 (wC ad ka F R J P B) 0 [(0, .ref (ad 99)), (1, .int a1), (2, .int a2)] [] := by
  unfold qW_plan at h
  refine g_iload_n C 1 dX9_plan_0 rfl ?_
  refine g_iconst C (0 : Int32) dX9_plan_1 ci_0 ?_
  refine g_ldc C (gw_of tw3_168 rfl) dX9_plan_2 ?_
  refine g_callSi0 C (kW_within (xL X) (xD X) ka ad _ _ _ _ _ _ _ _ _ h) siX9_within (gw_of tw2_32 rfl) (by decide) rfl rfl (Nat.le_of_ble_eq_true rfl) z00 dX9_plan_4 (fun r1 w hw => ?_)
  obtain ⟨F1, R1, J1, P1, B1, rfl, h⟩ := hw
  refine g_if_eq C 19 dX9_plan_7 (by decide) (fun c2 => ?_) (fun c2 => ?_)
  · have h := h.1 c2
    refine g_iconst C (-1 : Int32) dX9_plan_19 ci_m1 ?_
    exact hret _ _ _ _ ⟨_, _, _, _, _, rfl, h⟩ rfl dX9_plan_20
  · have h := h.2 c2
    refine g_iload_n C 2 dX9_plan_10 rfl ?_
    refine g_iconst C (0 : Int32) dX9_plan_11 ci_0 ?_
    refine g_iconst C (1 : Int32) dX9_plan_12 ci_1 ?_
    refine g_callSi0 C (kW_within (xL X) (xD X) ka ad _ _ _ _ _ _ _ _ _ h) siX9_within (gw_of tw2_32 rfl) (by decide) rfl rfl (Nat.le_of_ble_eq_true rfl) z00 dX9_plan_13 (fun r3 w hw => ?_)
    obtain ⟨F3, R3, J3, P3, B3, rfl, h⟩ := hw
    refine g_if_ne C 21 dX9_plan_16 (by decide) (fun c4 => ?_) (fun c4 => ?_)
    · have h := h.1 c4
      refine g_aload_n C 0 dX9_plan_21 rfl ?_
      refine Cg_X9_0_foretold C dX9_plan_22 ?_
      refine g_aload_n C 0 dX9_plan_25 rfl ?_
      refine Cg_X9_0_now C dX9_plan_26 ?_
      refine g_iload_n C 1 dX9_plan_29 rfl ?_
      refine g_callVi0 C (kO_fewestHindrances (xL X) (xD X) ka ad _ _ _ _ _ _ _ h) miX1_fewestHindrances (gw_of tw3_181 rfl) (by decide) wC_o4 rfl rfl rfl (Nat.le_of_ble_eq_true rfl) z00 dX9_plan_30 (fun r5 w hw => ?_)
      obtain ⟨F5, R5, J5, P5, B5, rfl, h⟩ := hw
      refine g_istore_n C [(3, .int r5), (0, .ref (ad 99)), (1, .int a1), (2, .int a2)] dX9_plan_33 (by decide) rfl ?_
      refine g_iload_n C 0 dX9_plan_34 rfl ?_
      refine g_if_ge C 41 dX9_plan_35 (by decide) (fun c6 => ?_) (fun c6 => ?_)
      · have h := h.1 c6
        refine g_iload_n C 3 dX9_plan_41 rfl ?_
        refine g_if_ne C 52 dX9_plan_42 (by decide) (fun c7 => ?_) (fun c7 => ?_)
        · have h := h.1 c7
          refine g_iload_n C 0 dX9_plan_52 rfl ?_
          exact hret _ _ _ _ ⟨_, _, _, _, _, rfl, h⟩ rfl dX9_plan_53
        · have h := h.2 c7
          refine g_iload_n C 0 dX9_plan_45 rfl ?_
          refine g_callSi0 C (kJ_bitCount (xL X) (xD X) ka ad _ _ _ _ _ _ _ h) siJ6_bitCount_0f7a4 (gw_of tw3_196 rfl) (by decide) rfl rfl (Nat.le_of_ble_eq_true rfl) z00 dX9_plan_46 (fun r8 w hw => ?_)
          obtain ⟨F8, R8, J8, P8, B8, rfl, h⟩ := hw
          refine g_goto C 53 dX9_plan_49 (by decide) ?_
          exact hret _ _ _ _ ⟨_, _, _, _, _, rfl, h⟩ rfl dX9_plan_53
      · have h := h.2 c6
        refine g_bipush C (-4 : Int32) dX9_plan_38 cb_m4 ?_
        exact hret _ _ _ _ ⟨_, _, _, _, _, rfl, h⟩ rfl dX9_plan_40
    · have h := h.2 c4
      refine g_iconst C (-1 : Int32) dX9_plan_19 ci_m1 ?_
      exact hret _ _ _ _ ⟨_, _, _, _, _, rfl, h⟩ rfl dX9_plan_20
set_option maxHeartbeats 4000000 in
set_option maxRecDepth 100000 in
theorem kW_plan (l : Launch) (D : va_G) (ka : Nat → ClassId) (ad : Nat → Nat) (F : FT) (R : RT) (J : JT) (P : PT) (B : BT) (a1 : Int32) (a2 : Int32) (K : Int32 → FT → RT → JT → PT → BT → Prop) (h : qW_plan F R J P B a1 a2 K) : MI l D ka yX9_plan cX9_plan 4 (some .int) 7 0 0 [.ref (ad 99), .int a1, .int a2] (wC ad ka F R J P B) (fun z w => ∃ F R J P B, w = wC ad ka F R J P B ∧ K z F R J P B) := MI_of (by decide) (Nat.le_of_ble_eq_true rfl) (fun X C hroom hret => bW_plan C hret F R J P B a1 a2 h)
set_option maxHeartbeats 4000000 in
set_option maxRecDepth 100000 in
theorem miX9_plan : MInf yX9_plan cX9_plan 4 (some .int) 2 := ⟨(gw_of tw3_178 rfl), (gw_of tw3_179 rfl), (gw_of tw1_1 rfl), (gw_of tw3_180 rfl), by decide +kernel, by decide⟩

def qW_best (F : FT) (R : RT) (J : JT) (P : PT) (B : BT) (a1 : Int32) (a2 : Int32) (K : Int32 → FT → RT → JT → PT → BT → Prop) : Prop :=
  qW_within F R J P B a1 (0 : Int32) ((F 112) - (1 : Int32)) (fun r1 F1 R1 J1 P1 B1 => (r1 = 0 → (K (-1 : Int32) F1 R1 J1 P1 B1)) ∧ (¬ r1 = 0 → (qW_within F1 R1 J1 P1 B1 a2 (0 : Int32) (1 : Int32) (fun r3 F3 R3 J3 P3 B3 => (¬ r3 = 0 → (qS_isUsed F3 R3 J3 P3 B3 a1 (fun r5 F5 R5 J5 P5 B5 => (r5 = 0 → (qS_isSummer F5 R5 J5 P5 B5 (fun r7 F7 R7 J7 P7 B7 => (r7 = 0 → (qS_costOf F7 R7 J7 P7 B7 ((1 : Int32) <<< (a1 &&& 31)) (fun r9 F9 R9 J9 P9 B9 => qO_findBestDay F9 R9 J9 P9 B9 r9 (fun F10 R10 J10 P10 B10 => (¬ a2 = 0 → (K (F10 415) F10 R10 J10 P10 B10)) ∧ (a2 = 0 → (K (F10 414) F10 R10 J10 P10 B10)))))) ∧ (¬ r7 = 0 → (K (-4 : Int32) F7 R7 J7 P7 B7))))) ∧ (¬ r5 = 0 → (K (-2 : Int32) F5 R5 J5 P5 B5))))) ∧ (r3 = 0 → (K (-1 : Int32) F3 R3 J3 P3 B3))))))
set_option maxHeartbeats 4000000 in
set_option maxRecDepth 100000 in
theorem bW_best {X : XT} {ka : Nat → ClassId} {ad : Nat → Nat} (C : Cx X cX9_best 3 RX9 (some .int) ka 7) {K : Int32 → FT → RT → JT → PT → BT → Prop} (hret : RetI X cX9_best .int 0 0 (fun z w => ∃ F R J P B, w = wC ad ka F R J P B ∧ K z F R J P B)) (F : FT) (R : RT) (J : JT) (P : PT) (B : BT) (a1 : Int32) (a2 : Int32) (h : qW_best F R J P B a1 a2 K) : G X 0 0 (wC ad ka F R J P B) 0 [(0, .ref (ad 99)), (1, .int a1), (2, .int a2)] [] := by
  unfold qW_best at h
  refine g_iload_n C 1 dX9_best_0 rfl ?_
  refine g_iconst C (0 : Int32) dX9_best_1 ci_0 ?_
  refine g_aload_n C 0 dX9_best_2 rfl ?_
  refine Cg_X9_0_now C dX9_best_3 ?_
  refine Cg_X9_1_hindranceCount C (v := F 112) rfl dX9_best_6 ?_
  refine g_iconst C (1 : Int32) dX9_best_9 ci_1 ?_
  refine g_isub C dX9_best_10 ?_
  refine g_callSi0 C (kW_within (xL X) (xD X) ka ad _ _ _ _ _ _ _ _ _ h) siX9_within (gw_of tw2_32 rfl) (by decide) rfl rfl (Nat.le_of_ble_eq_true rfl) z00 dX9_best_11 (fun r1 w hw => ?_)
  obtain ⟨F1, R1, J1, P1, B1, rfl, h⟩ := hw
  refine g_if_eq C 26 dX9_best_14 (by decide) (fun c2 => ?_) (fun c2 => ?_)
  · have h := h.1 c2
    refine g_iconst C (-1 : Int32) dX9_best_26 ci_m1 ?_
    exact hret _ _ _ _ ⟨_, _, _, _, _, rfl, h⟩ rfl dX9_best_27
  · have h := h.2 c2
    refine g_iload_n C 2 dX9_best_17 rfl ?_
    refine g_iconst C (0 : Int32) dX9_best_18 ci_0 ?_
    refine g_iconst C (1 : Int32) dX9_best_19 ci_1 ?_
    refine g_callSi0 C (kW_within (xL X) (xD X) ka ad _ _ _ _ _ _ _ _ _ h) siX9_within (gw_of tw2_32 rfl) (by decide) rfl rfl (Nat.le_of_ble_eq_true rfl) z00 dX9_best_20 (fun r3 w hw => ?_)
    obtain ⟨F3, R3, J3, P3, B3, rfl, h⟩ := hw
    refine g_if_ne C 28 dX9_best_23 (by decide) (fun c4 => ?_) (fun c4 => ?_)
    · have h := h.1 c4
      refine g_aload_n C 0 dX9_best_28 rfl ?_
      refine Cg_X9_0_now C dX9_best_29 ?_
      refine g_iload_n C 1 dX9_best_32 rfl ?_
      refine g_callVi0 C (kS_isUsed (xL X) (xD X) ka ad _ _ _ _ _ _ _ h) miX7_isUsed (gw_of tw3_76 rfl) (by decide) wC_o1 rfl rfl rfl (Nat.le_of_ble_eq_true rfl) z00 dX9_best_33 (fun r5 w hw => ?_)
      obtain ⟨F5, R5, J5, P5, B5, rfl, h⟩ := hw
      refine g_if_eq C 42 dX9_best_36 (by decide) (fun c6 => ?_) (fun c6 => ?_)
      · have h := h.1 c6
        refine g_aload_n C 0 dX9_best_42 rfl ?_
        refine Cg_X9_0_now C dX9_best_43 ?_
        refine g_callVi0 C (kS_isSummer (xL X) (xD X) ka ad _ _ _ _ _ _ h) miX7_isSummer (gw_of tw3_44 rfl) (by decide) wC_o1 rfl rfl rfl (Nat.le_of_ble_eq_true rfl) z00 dX9_best_46 (fun r7 w hw => ?_)
        obtain ⟨F7, R7, J7, P7, B7, rfl, h⟩ := hw
        refine g_if_eq C 55 dX9_best_49 (by decide) (fun c8 => ?_) (fun c8 => ?_)
        · have h := h.1 c8
          refine g_aload_n C 0 dX9_best_55 rfl ?_
          refine Cg_X9_0_foretold C dX9_best_56 ?_
          refine g_aload_n C 0 dX9_best_59 rfl ?_
          refine Cg_X9_0_now C dX9_best_60 ?_
          refine g_aload_n C 0 dX9_best_63 rfl ?_
          refine Cg_X9_0_now C dX9_best_64 ?_
          refine g_iconst C (1 : Int32) dX9_best_67 ci_1 ?_
          refine g_iload_n C 1 dX9_best_68 rfl ?_
          refine g_ishl C dX9_best_69 ?_
          refine g_callVi0 C (kS_costOf (xL X) (xD X) ka ad _ _ _ _ _ _ _ h) miX7_costOf (gw_of tw3_201 rfl) (by decide) wC_o1 rfl rfl rfl (Nat.le_of_ble_eq_true rfl) z00 dX9_best_70 (fun r9 w hw => ?_)
          obtain ⟨F9, R9, J9, P9, B9, rfl, h⟩ := hw
          refine g_callVv0 C (kO_findBestDay (xL X) (xD X) ka ad _ _ _ _ _ _ _ h) miX1_findBestDay (gw_of tw3_202 rfl) (by decide) wC_o4 rfl rfl rfl (Nat.le_of_ble_eq_true rfl) z00 dX9_best_73 (fun w hw => ?_)
          obtain ⟨F10, R10, J10, P10, B10, rfl, h⟩ := hw
          refine g_iload_n C 2 dX9_best_76 rfl ?_
          refine g_if_ne C 90 dX9_best_77 (by decide) (fun c11 => ?_) (fun c11 => ?_)
          · have h := h.1 c11
            refine g_aload_n C 0 dX9_best_90 rfl ?_
            refine Cg_X9_0_foretold C dX9_best_91 ?_
            refine Cg_X9_4_bestOdds C (v := F10 415) rfl dX9_best_94 ?_
            exact hret _ _ _ _ ⟨_, _, _, _, _, rfl, h⟩ rfl dX9_best_97
          · have h := h.2 c11
            refine g_aload_n C 0 dX9_best_80 rfl ?_
            refine Cg_X9_0_foretold C dX9_best_81 ?_
            refine Cg_X9_4_bestDay C (v := F10 414) rfl dX9_best_84 ?_
            refine g_goto C 97 dX9_best_87 (by decide) ?_
            exact hret _ _ _ _ ⟨_, _, _, _, _, rfl, h⟩ rfl dX9_best_97
        · have h := h.2 c8
          refine g_bipush C (-4 : Int32) dX9_best_52 cb_m4 ?_
          exact hret _ _ _ _ ⟨_, _, _, _, _, rfl, h⟩ rfl dX9_best_54
      · have h := h.2 c6
        refine g_bipush C (-2 : Int32) dX9_best_39 cb_m2 ?_
        exact hret _ _ _ _ ⟨_, _, _, _, _, rfl, h⟩ rfl dX9_best_41
    · have h := h.2 c4
      refine g_iconst C (-1 : Int32) dX9_best_26 ci_m1 ?_
      exact hret _ _ _ _ ⟨_, _, _, _, _, rfl, h⟩ rfl dX9_best_27
set_option maxHeartbeats 4000000 in
set_option maxRecDepth 100000 in
theorem kW_best (l : Launch) (D : va_G) (ka : Nat → ClassId) (ad : Nat → Nat) (F : FT) (R : RT) (J : JT) (P : PT) (B : BT) (a1 : Int32) (a2 : Int32) (K : Int32 → FT → RT → JT → PT → BT → Prop) (h : qW_best F R J P B a1 a2 K) : MI l D ka yX9_best cX9_best 3 (some .int) 7 0 0 [.ref (ad 99), .int a1, .int a2] (wC ad ka F R J P B) (fun z w => ∃ F R J P B, w = wC ad ka F R J P B ∧ K z F R J P B) := MI_of (by decide) (Nat.le_of_ble_eq_true rfl) (fun X C hroom hret => bW_best C hret F R J P B a1 a2 h)
set_option maxHeartbeats 4000000 in
set_option maxRecDepth 100000 in
theorem miX9_best : MInf yX9_best cX9_best 3 (some .int) 2 := ⟨(gw_of tw3_198 rfl), (gw_of tw3_199 rfl), (gw_of tw1_1 rfl), (gw_of tw3_200 rfl), by decide +kernel, by decide⟩

def qW_soonest_61 (k21 : FT → RT → JT → PT → BT → Int32 → Int32 → Int32 → Prop) (F : FT) (R : RT) (J : JT) (P : PT) (B : BT) (v1 : Int32) (v3 : Int32) (s0 : Int32) (s1 : Int32) (s2 : Int32) (K : Int32 → FT → RT → JT → PT → BT → Prop) : Prop :=
  qS_laidBehind F R J P B s2 s1 s0 (fun r1 F1 R1 J1 P1 B1 => k21 F1 R1 J1 P1 B1 v1 r1 (v3 + (1 : Int32)))
set_option maxHeartbeats 4000000 in
set_option maxRecDepth 100000 in
theorem lW_soonest_61 {X : XT} {ka : Nat → ClassId} {ad : Nat → Nat} (C : Cx X cX9_soonest 4 RX9 (some .int) ka 6) {K : Int32 → FT → RT → JT → PT → BT → Prop} (hret : RetI X cX9_soonest .int 0 0 (fun z w => ∃ F R J P B, w = wC ad ka F R J P B ∧ K z F R J P B)) {k21 : FT → RT → JT → PT → BT → Int32 → Int32 → Int32 → Prop} (hk21 : ∀ (F : FT) (R : RT) (J : JT) (P : PT) (B : BT) (v1 : Int32) (v2 : Int32) (v3 : Int32), k21 F R J P B v1 v2 v3 → G X 0 0 (wC ad ka F R J P B) 21 [(0, .ref (ad 99)), (1, .int v1), (2, .int v2), (3, .int v3)] []) (F : FT) (R : RT) (J : JT) (P : PT) (B : BT) (v1 : Int32) (v3 : Int32) (s0 : Int32) (s1 : Int32) (s2 : Int32) (h : qW_soonest_61 k21 F R J P B v1 v3 s0 s1 s2 K) : G X 0 0 (wC ad ka F R J P B) 61 [(0, .ref (ad 99)), (1, .int v1), (3, .int v3)] [.int s0, .int s1, .int s2, .ref (ad 199)] := by
  unfold qW_soonest_61 at h
  refine g_callVi0 C (kS_laidBehind (xL X) (xD X) ka ad _ _ _ _ _ _ _ _ _ h) miX7_laidBehind (gw_of tw3_215 rfl) (by decide) wC_o1 rfl rfl rfl (Nat.le_of_ble_eq_true rfl) z00 dX9_soonest_61 (fun r1 w hw => ?_)
  obtain ⟨F1, R1, J1, P1, B1, rfl, h⟩ := hw
  refine g_istore_n C [(2, .int r1), (0, .ref (ad 99)), (1, .int v1), (3, .int v3)] dX9_soonest_64 (by decide) rfl ?_
  refine g_iinc C 3 (v3 + (1 : Int32)) [(3, .int (v3 + (1 : Int32))), (2, .int r1), (0, .ref (ad 99)), (1, .int v1)] dX9_soonest_65 rfl (by rw [ci_1]) (by decide) rfl ?_
  refine g_goto C 21 dX9_soonest_68 (by decide) ?_
  exact g_lv [2, 3, 1, 0] rfl (hk21 _ _ _ _ _ _ _ _ h)
def qW_soonest_21 : Nat → FT → RT → JT → PT → BT → Int32 → Int32 → Int32 → (Int32 → FT → RT → JT → PT → BT → Prop) → Prop
  | 0, _, _, _, _, _, _, _, _ => fun _ => False
  | n21 + 1, F, R, J, P, B, v1, v2, v3 => fun K => ((99 : Int32) < v3 → (K (-4 : Int32) F R J P B)) ∧ (¬ (99 : Int32) < v3 → ((v2 < (F 100) → ((¬ v3 = 0 → (qW_soonest_61 (fun F R J P B v1 v2 v3 => qW_soonest_21 n21 F R J P B v1 v2 v3 K) F R J P B v1 v3 (0 : Int32) v2 v1 K)) ∧ (v3 = 0 → (qS_costToday F R J P B (fun r4 F4 R4 J4 P4 B4 => qW_soonest_61 (fun F R J P B v1 v2 v3 => qW_soonest_21 n21 F R J P B v1 v2 v3 K) F4 R4 J4 P4 B4 v1 v3 r4 v2 v1 K))))) ∧ (¬ v2 < (F 100) → (K v3 F R J P B))))
set_option maxHeartbeats 4000000 in
set_option maxRecDepth 100000 in
theorem lW_soonest_21 {X : XT} {ka : Nat → ClassId} {ad : Nat → Nat} (C : Cx X cX9_soonest 4 RX9 (some .int) ka 6) {K : Int32 → FT → RT → JT → PT → BT → Prop} (hret : RetI X cX9_soonest .int 0 0 (fun z w => ∃ F R J P B, w = wC ad ka F R J P B ∧ K z F R J P B)) : ∀ (n : Nat) (F : FT) (R : RT) (J : JT) (P : PT) (B : BT) (v1 : Int32) (v2 : Int32) (v3 : Int32), qW_soonest_21 n F R J P B v1 v2 v3 K → G X 0 0 (wC ad ka F R J P B) 21 [(0, .ref (ad 99)), (1, .int v1), (2, .int v2), (3, .int v3)] [] := by
  intro n
  induction n with
  | zero => intro F R J P B v1 v2 v3 h; exact h.elim
  | succ n ih =>
    intro F R J P B v1 v2 v3 h
    refine g_iload_n C 3 dX9_soonest_21 rfl ?_
    refine g_bipush C (99 : Int32) dX9_soonest_22 cb_99 ?_
    refine g_icmp_gt C 71 dX9_soonest_24 (by decide) (fun c1 => ?_) (fun c1 => ?_)
    · have h := h.1 c1
      refine g_bipush C (-4 : Int32) dX9_soonest_71 cb_m4 ?_
      exact hret _ _ _ _ ⟨_, _, _, _, _, rfl, h⟩ rfl dX9_soonest_73
    · have h := h.2 c1
      refine g_iload_n C 2 dX9_soonest_27 rfl ?_
      refine g_aload_n C 0 dX9_soonest_28 rfl ?_
      refine Cg_X9_0_now C dX9_soonest_29 ?_
      refine Cg_X9_1_stones C (v := F 100) rfl dX9_soonest_32 ?_
      refine g_icmp_lt C 40 dX9_soonest_35 (by decide) (fun c2 => ?_) (fun c2 => ?_)
      · have h := h.1 c2
        refine g_aload_n C 0 dX9_soonest_40 rfl ?_
        refine Cg_X9_0_now C dX9_soonest_41 ?_
        refine g_iload_n C 1 dX9_soonest_44 rfl ?_
        refine g_iload_n C 2 dX9_soonest_45 rfl ?_
        refine g_iload_n C 3 dX9_soonest_46 rfl ?_
        refine g_if_ne C 60 dX9_soonest_47 (by decide) (fun c3 => ?_) (fun c3 => ?_)
        · have h := h.1 c3
          refine g_iconst C (0 : Int32) dX9_soonest_60 ci_0 ?_
          exact g_lv [0, 1, 3] rfl (lW_soonest_61 C hret (fun F R J P B v1 v2 v3 h => ih F R J P B v1 v2 v3 h) _ _ _ _ _ _ _ _ _ _ h)
        · have h := h.2 c3
          refine g_aload_n C 0 dX9_soonest_50 rfl ?_
          refine Cg_X9_0_now C dX9_soonest_51 ?_
          refine g_callVi0 C (kS_costToday (xL X) (xD X) ka ad _ _ _ _ _ _ h) miX7_costToday (gw_of tw3_32 rfl) (by decide) wC_o1 rfl rfl rfl (Nat.le_of_ble_eq_true rfl) z00 dX9_soonest_54 (fun r4 w hw => ?_)
          obtain ⟨F4, R4, J4, P4, B4, rfl, h⟩ := hw
          refine g_goto C 61 dX9_soonest_57 (by decide) ?_
          exact g_lv [0, 1, 3] rfl (lW_soonest_61 C hret (fun F R J P B v1 v2 v3 h => ih F R J P B v1 v2 v3 h) _ _ _ _ _ _ _ _ _ _ h)
      · have h := h.2 c2
        refine g_iload_n C 3 dX9_soonest_38 rfl ?_
        exact hret _ _ _ _ ⟨_, _, _, _, _, rfl, h⟩ rfl dX9_soonest_39
def qW_soonest (F : FT) (R : RT) (J : JT) (P : PT) (B : BT) (a1 : Int32) (K : Int32 → FT → RT → JT → PT → BT → Prop) : Prop :=
  qW_within F R J P B a1 (0 : Int32) (2 : Int32) (fun r1 F1 R1 J1 P1 B1 => (¬ r1 = 0 → (∃ n21, qW_soonest_21 n21 F1 R1 J1 P1 B1 a1 (F1 105) (0 : Int32) K)) ∧ (r1 = 0 → (K (-1 : Int32) F1 R1 J1 P1 B1)))
set_option maxHeartbeats 4000000 in
set_option maxRecDepth 100000 in
theorem bW_soonest {X : XT} {ka : Nat → ClassId} {ad : Nat → Nat} (C : Cx X cX9_soonest 4 RX9 (some .int) ka 6) {K : Int32 → FT → RT → JT → PT → BT → Prop} (hret : RetI X cX9_soonest .int 0 0 (fun z w => ∃ F R J P B, w = wC ad ka F R J P B ∧ K z F R J P B)) (F : FT) (R : RT) (J : JT) (P : PT) (B : BT) (a1 : Int32) (h : qW_soonest F R J P B a1 K) : G X 0 0 (wC ad ka F R J P B) 0 [(0, .ref (ad 99)), (1, .int a1)] [] := by
  unfold qW_soonest at h
  refine g_iload_n C 1 dX9_soonest_0 rfl ?_
  refine g_iconst C (0 : Int32) dX9_soonest_1 ci_0 ?_
  refine g_iconst C (2 : Int32) dX9_soonest_2 ci_2 ?_
  refine g_callSi0 C (kW_within (xL X) (xD X) ka ad _ _ _ _ _ _ _ _ _ h) siX9_within (gw_of tw2_32 rfl) (by decide) rfl rfl (Nat.le_of_ble_eq_true rfl) z00 dX9_soonest_3 (fun r1 w hw => ?_)
  obtain ⟨F1, R1, J1, P1, B1, rfl, h⟩ := hw
  refine g_if_ne C 11 dX9_soonest_6 (by decide) (fun c2 => ?_) (fun c2 => ?_)
  · have h := h.1 c2
    refine g_aload_n C 0 dX9_soonest_11 rfl ?_
    refine Cg_X9_0_now C dX9_soonest_12 ?_
    refine Cg_X9_1_laid C (v := F1 105) rfl dX9_soonest_15 ?_
    refine g_istore_n C [(2, .int (F1 105)), (0, .ref (ad 99)), (1, .int a1)] dX9_soonest_18 (by decide) rfl ?_
    refine g_iconst C (0 : Int32) dX9_soonest_19 ci_0 ?_
    refine g_istore_n C [(3, .int (0 : Int32)), (2, .int (F1 105)), (0, .ref (ad 99)), (1, .int a1)] dX9_soonest_20 (by decide) rfl ?_
    obtain ⟨n1, h⟩ := h
    exact g_lv [2, 3, 1, 0] rfl (lW_soonest_21 C hret n1 _ _ _ _ _ _ _ _ h)
  · have h := h.2 c2
    refine g_iconst C (-1 : Int32) dX9_soonest_9 ci_m1 ?_
    exact hret _ _ _ _ ⟨_, _, _, _, _, rfl, h⟩ rfl dX9_soonest_10
set_option maxHeartbeats 4000000 in
set_option maxRecDepth 100000 in
theorem kW_soonest (l : Launch) (D : va_G) (ka : Nat → ClassId) (ad : Nat → Nat) (F : FT) (R : RT) (J : JT) (P : PT) (B : BT) (a1 : Int32) (K : Int32 → FT → RT → JT → PT → BT → Prop) (h : qW_soonest F R J P B a1 K) : MI l D ka yX9_soonest cX9_soonest 4 (some .int) 6 0 0 [.ref (ad 99), .int a1] (wC ad ka F R J P B) (fun z w => ∃ F R J P B, w = wC ad ka F R J P B ∧ K z F R J P B) := MI_of (by decide) (Nat.le_of_ble_eq_true rfl) (fun X C hroom hret => bW_soonest C hret F R J P B a1 h)
set_option maxHeartbeats 4000000 in
set_option maxRecDepth 100000 in
theorem miX9_soonest : MInf yX9_soonest cX9_soonest 4 (some .int) 1 := ⟨(gw_of tw3_212 rfl), (gw_of tw3_213 rfl), (gw_of tw1_1 rfl), (gw_of tw3_214 rfl), by decide +kernel, by decide⟩

def qW_mean_59 : Nat → FT → RT → JT → PT → BT → Int32 → Int32 → Int32 → Int32 → Int32 → (Int32 → FT → RT → JT → PT → BT → Prop) → Prop
  | 0, _, _, _, _, _, _, _, _, _, _ => fun _ => False
  | n59 + 1, F, R, J, P, B, v1, v2, v3, v4, v5 => fun K => (v1 ≤ v5 → (qW_commonDivisor F R J P B v3 v4 (fun r2 F2 R2 J2 P2 B2 => (0 < r2 → ((¬ v2 = 0 → ((¬ r2 = 0) ∧ (K (v4 / r2) F2 R2 J2 P2 B2))) ∧ (v2 = 0 → ((¬ r2 = 0) ∧ (K (v3 / r2) F2 R2 J2 P2 B2))))) ∧ (¬ 0 < r2 → (K (-1 : Int32) F2 R2 J2 P2 B2))))) ∧ (¬ v1 ≤ v5 → (qW_mean_59 n59 F R J P B v1 v2 v3 (v4 * (10 : Int32)) (v5 + (1 : Int32)) K))
set_option maxHeartbeats 4000000 in
set_option maxRecDepth 100000 in
theorem lW_mean_59 {X : XT} {ka : Nat → ClassId} {ad : Nat → Nat} (C : Cx X cX9_mean 6 RX9 (some .int) ka 7) {K : Int32 → FT → RT → JT → PT → BT → Prop} (hret : RetI X cX9_mean .int 0 0 (fun z w => ∃ F R J P B, w = wC ad ka F R J P B ∧ K z F R J P B)) : ∀ (n : Nat) (F : FT) (R : RT) (J : JT) (P : PT) (B : BT) (v1 : Int32) (v2 : Int32) (v3 : Int32) (v4 : Int32) (v5 : Int32), qW_mean_59 n F R J P B v1 v2 v3 v4 v5 K → G X 0 0 (wC ad ka F R J P B) 59 [(1, .int v1), (2, .int v2), (3, .int v3), (4, .int v4), (5, .int v5)] [] := by
  intro n
  induction n with
  | zero => intro F R J P B v1 v2 v3 v4 v5 h; exact h.elim
  | succ n ih =>
    intro F R J P B v1 v2 v3 v4 v5 h
    refine g_iload C 4 dX9_mean_59 rfl ?_
    refine g_iload_n C 0 dX9_mean_61 rfl ?_
    refine g_icmp_ge C 78 dX9_mean_62 (by decide) (fun c1 => ?_) (fun c1 => ?_)
    · have h := h.1 c1
      refine g_iload_n C 2 dX9_mean_78 rfl ?_
      refine g_iload C 3 dX9_mean_79 rfl ?_
      refine g_callSi0 C (kW_commonDivisor (xL X) (xD X) ka ad _ _ _ _ _ _ _ _ h) siX9_commonDivisor (gw_of tw3_228 rfl) (by decide) rfl rfl (Nat.le_of_ble_eq_true rfl) z00 dX9_mean_81 (fun r2 w hw => ?_)
      obtain ⟨F2, R2, J2, P2, B2, rfl, h⟩ := hw
      refine g_istore C [(5, .int r2), (1, .int v1), (2, .int v2), (3, .int v3), (4, .int v4)] dX9_mean_84 (by decide) rfl ?_
      refine g_iload C 0 dX9_mean_86 rfl ?_
      refine g_if_gt C 93 dX9_mean_88 (by decide) (fun c3 => ?_) (fun c3 => ?_)
      · have h := h.1 c3
        refine g_iload_n C 2 dX9_mean_93 rfl ?_
        refine g_if_ne C 101 dX9_mean_94 (by decide) (fun c4 => ?_) (fun c4 => ?_)
        · have h := h.1 c4
          refine g_iload C 4 dX9_mean_101 rfl ?_
          refine g_iload C 0 dX9_mean_103 rfl ?_
          refine g_idiv C dX9_mean_105 h.1 ?_
          have h := h.2
          exact hret _ _ _ _ ⟨_, _, _, _, _, rfl, h⟩ rfl dX9_mean_106
        · have h := h.2 c4
          refine g_iload_n C 3 dX9_mean_97 rfl ?_
          refine g_goto C 103 dX9_mean_98 (by decide) ?_
          refine g_iload C 0 dX9_mean_103 rfl ?_
          refine g_idiv C dX9_mean_105 h.1 ?_
          have h := h.2
          exact hret _ _ _ _ ⟨_, _, _, _, _, rfl, h⟩ rfl dX9_mean_106
      · have h := h.2 c3
        refine g_iconst C (-1 : Int32) dX9_mean_91 ci_m1 ?_
        exact hret _ _ _ _ ⟨_, _, _, _, _, rfl, h⟩ rfl dX9_mean_92
    · have h := h.2 c1
      refine g_iload C 3 dX9_mean_65 rfl ?_
      refine g_bipush C (10 : Int32) dX9_mean_67 cb_10 ?_
      refine g_imul C dX9_mean_69 ?_
      refine g_istore C [(4, .int (v4 * (10 : Int32))), (1, .int v1), (2, .int v2), (3, .int v3), (5, .int v5)] dX9_mean_70 (by decide) rfl ?_
      refine g_iinc C 4 (v5 + (1 : Int32)) [(5, .int (v5 + (1 : Int32))), (4, .int (v4 * (10 : Int32))), (1, .int v1), (2, .int v2), (3, .int v3)] dX9_mean_72 rfl (by rw [ci_1]) (by decide) rfl ?_
      refine g_goto C 59 dX9_mean_75 (by decide) ?_
      exact g_lv [2, 3, 4, 1, 0] rfl (ih _ _ _ _ _ _ _ _ _ _ h)
def qW_mean (F : FT) (R : RT) (J : JT) (P : PT) (B : BT) (a1 : Int32) (a2 : Int32) (K : Int32 → FT → RT → JT → PT → BT → Prop) : Prop :=
  qW_within F R J P B a1 (0 : Int32) (6 : Int32) (fun r1 F1 R1 J1 P1 B1 => (r1 = 0 → (K (-1 : Int32) F1 R1 J1 P1 B1)) ∧ (¬ r1 = 0 → ((((F1 101) - (F1 104)) < a1 → (K (-1 : Int32) F1 R1 J1 P1 B1)) ∧ (¬ ((F1 101) - (F1 104)) < a1 → (qW_within F1 R1 J1 P1 B1 a2 (0 : Int32) (1 : Int32) (fun r4 F4 R4 J4 P4 B4 => (¬ r4 = 0 → (qO_sumOfLaid F4 R4 J4 P4 B4 a1 (fun r6 F6 R6 J6 P6 B6 => ∃ n59, qW_mean_59 n59 F6 R6 J6 P6 B6 a1 a2 r6 (1 : Int32) (0 : Int32) K))) ∧ (r4 = 0 → (K (-1 : Int32) F4 R4 J4 P4 B4))))))))
set_option maxHeartbeats 4000000 in
set_option maxRecDepth 100000 in
theorem bW_mean {X : XT} {ka : Nat → ClassId} {ad : Nat → Nat} (C : Cx X cX9_mean 6 RX9 (some .int) ka 7) {K : Int32 → FT → RT → JT → PT → BT → Prop} (hret : RetI X cX9_mean .int 0 0 (fun z w => ∃ F R J P B, w = wC ad ka F R J P B ∧ K z F R J P B)) (F : FT) (R : RT) (J : JT) (P : PT) (B : BT) (a1 : Int32) (a2 : Int32) (h : qW_mean F R J P B a1 a2 K) : G X 0 0 (wC ad ka F R J P B) 0 [(0, .ref (ad 99)), (1, .int a1), (2, .int a2)] [] := by
  unfold qW_mean at h
  refine g_iload_n C 1 dX9_mean_0 rfl ?_
  refine g_iconst C (0 : Int32) dX9_mean_1 ci_0 ?_
  refine g_bipush C (6 : Int32) dX9_mean_2 cb_6 ?_
  refine g_callSi0 C (kW_within (xL X) (xD X) ka ad _ _ _ _ _ _ _ _ _ h) siX9_within (gw_of tw2_32 rfl) (by decide) rfl rfl (Nat.le_of_ble_eq_true rfl) z00 dX9_mean_4 (fun r1 w hw => ?_)
  obtain ⟨F1, R1, J1, P1, B1, rfl, h⟩ := hw
  refine g_if_eq C 38 dX9_mean_7 (by decide) (fun c2 => ?_) (fun c2 => ?_)
  · have h := h.1 c2
    refine g_iconst C (-1 : Int32) dX9_mean_38 ci_m1 ?_
    exact hret _ _ _ _ ⟨_, _, _, _, _, rfl, h⟩ rfl dX9_mean_39
  · have h := h.2 c2
    refine g_iload_n C 1 dX9_mean_10 rfl ?_
    refine g_aload_n C 0 dX9_mean_11 rfl ?_
    refine Cg_X9_0_now C dX9_mean_12 ?_
    refine Cg_X9_1_days C (v := F1 101) rfl dX9_mean_15 ?_
    refine g_aload_n C 0 dX9_mean_18 rfl ?_
    refine Cg_X9_0_now C dX9_mean_19 ?_
    refine Cg_X9_1_day C (v := F1 104) rfl dX9_mean_22 ?_
    refine g_isub C dX9_mean_25 ?_
    refine g_icmp_gt C 38 dX9_mean_26 (by decide) (fun c3 => ?_) (fun c3 => ?_)
    · have h := h.1 c3
      refine g_iconst C (-1 : Int32) dX9_mean_38 ci_m1 ?_
      exact hret _ _ _ _ ⟨_, _, _, _, _, rfl, h⟩ rfl dX9_mean_39
    · have h := h.2 c3
      refine g_iload_n C 2 dX9_mean_29 rfl ?_
      refine g_iconst C (0 : Int32) dX9_mean_30 ci_0 ?_
      refine g_iconst C (1 : Int32) dX9_mean_31 ci_1 ?_
      refine g_callSi0 C (kW_within (xL X) (xD X) ka ad _ _ _ _ _ _ _ _ _ h) siX9_within (gw_of tw2_32 rfl) (by decide) rfl rfl (Nat.le_of_ble_eq_true rfl) z00 dX9_mean_32 (fun r4 w hw => ?_)
      obtain ⟨F4, R4, J4, P4, B4, rfl, h⟩ := hw
      refine g_if_ne C 40 dX9_mean_35 (by decide) (fun c5 => ?_) (fun c5 => ?_)
      · have h := h.1 c5
        refine g_aload_n C 0 dX9_mean_40 rfl ?_
        refine Cg_X9_0_foretold C dX9_mean_41 ?_
        refine g_aload_n C 0 dX9_mean_44 rfl ?_
        refine Cg_X9_0_now C dX9_mean_45 ?_
        refine g_iload_n C 1 dX9_mean_48 rfl ?_
        refine g_callVi0 C (kO_sumOfLaid (xL X) (xD X) ka ad _ _ _ _ _ _ _ h) miX1_sumOfLaid (gw_of tw3_220 rfl) (by decide) wC_o4 rfl rfl rfl (Nat.le_of_ble_eq_true rfl) z00 dX9_mean_49 (fun r6 w hw => ?_)
        obtain ⟨F6, R6, J6, P6, B6, rfl, h⟩ := hw
        refine g_istore_n C [(3, .int r6), (0, .ref (ad 99)), (1, .int a1), (2, .int a2)] dX9_mean_52 (by decide) rfl ?_
        refine g_iconst C (1 : Int32) dX9_mean_53 ci_1 ?_
        refine g_istore C [(4, .int (1 : Int32)), (3, .int r6), (0, .ref (ad 99)), (1, .int a1), (2, .int a2)] dX9_mean_54 (by decide) rfl ?_
        refine g_iconst C (0 : Int32) dX9_mean_56 ci_0 ?_
        refine g_istore C [(5, .int (0 : Int32)), (4, .int (1 : Int32)), (3, .int r6), (0, .ref (ad 99)), (1, .int a1), (2, .int a2)] dX9_mean_57 (by decide) rfl ?_
        obtain ⟨n1, h⟩ := h
        exact g_lv [4, 5, 2, 1, 0] rfl (lW_mean_59 C hret n1 _ _ _ _ _ _ _ _ _ _ h)
      · have h := h.2 c5
        refine g_iconst C (-1 : Int32) dX9_mean_38 ci_m1 ?_
        exact hret _ _ _ _ ⟨_, _, _, _, _, rfl, h⟩ rfl dX9_mean_39
set_option maxHeartbeats 4000000 in
set_option maxRecDepth 100000 in
theorem kW_mean (l : Launch) (D : va_G) (ka : Nat → ClassId) (ad : Nat → Nat) (F : FT) (R : RT) (J : JT) (P : PT) (B : BT) (a1 : Int32) (a2 : Int32) (K : Int32 → FT → RT → JT → PT → BT → Prop) (h : qW_mean F R J P B a1 a2 K) : MI l D ka yX9_mean cX9_mean 6 (some .int) 7 0 0 [.ref (ad 99), .int a1, .int a2] (wC ad ka F R J P B) (fun z w => ∃ F R J P B, w = wC ad ka F R J P B ∧ K z F R J P B) := MI_of (by decide) (Nat.le_of_ble_eq_true rfl) (fun X C hroom hret => bW_mean C hret F R J P B a1 a2 h)
set_option maxHeartbeats 4000000 in
set_option maxRecDepth 100000 in
theorem miX9_mean : MInf yX9_mean cX9_mean 6 (some .int) 2 := ⟨(gw_of tw3_217 rfl), (gw_of tw3_218 rfl), (gw_of tw1_1 rfl), (gw_of tw3_219 rfl), by decide +kernel, by decide⟩

def qW_image (F : FT) (R : RT) (J : JT) (P : PT) (B : BT)  (K : Int32 → FT → RT → JT → PT → BT → Prop) : Prop :=
  qS_becomes_kn F R J P B (fun F1 R1 J1 P1 B1 => K (1 : Int32) (upd F1 5 (1 : Int32)) R1 J1 P1 B1)
set_option maxHeartbeats 4000000 in
set_option maxRecDepth 100000 in
theorem bW_image {X : XT} {ka : Nat → ClassId} {ad : Nat → Nat} (C : Cx X cX9_image 1 RX9 (some .int) ka 2) {K : Int32 → FT → RT → JT → PT → BT → Prop} (hret : RetI X cX9_image .int 0 0 (fun z w => ∃ F R J P B, w = wC ad ka F R J P B ∧ K z F R J P B)) (F : FT) (R : RT) (J : JT) (P : PT) (B : BT)  (h : qW_image F R J P B  K) : G X 0 0 (wC ad ka F R J P B) 0 [(0, .ref (ad 99))] [] := by
  unfold qW_image at h
  refine g_aload_n C 0 dX9_image_0 rfl ?_
  refine Cg_X9_0_kept C dX9_image_1 ?_
  refine g_aload_n C 0 dX9_image_4 rfl ?_
  refine Cg_X9_0_now C dX9_image_5 ?_
  refine g_callVv0 C (kS_becomes_kn (xL X) (xD X) ka ad _ _ _ _ _ _ h) miX7_becomes (gw_of tw3_235 rfl) (by decide) wC_o2 rfl rfl rfl (Nat.le_of_ble_eq_true rfl) z00 dX9_image_8 (fun w hw => ?_)
  obtain ⟨F1, R1, J1, P1, B1, rfl, h⟩ := hw
  refine g_aload_n C 0 dX9_image_11 rfl ?_
  refine g_iconst C (1 : Int32) dX9_image_12 ci_1 ?_
  refine Cp_X9_0_imaged C isB_1 dX9_image_13 ?_
  refine g_iconst C (1 : Int32) dX9_image_16 ci_1 ?_
  exact hret _ _ _ _ ⟨_, _, _, _, _, rfl, h⟩ rfl dX9_image_17
set_option maxHeartbeats 4000000 in
set_option maxRecDepth 100000 in
theorem kW_image (l : Launch) (D : va_G) (ka : Nat → ClassId) (ad : Nat → Nat) (F : FT) (R : RT) (J : JT) (P : PT) (B : BT)  (K : Int32 → FT → RT → JT → PT → BT → Prop) (h : qW_image F R J P B  K) : MI l D ka yX9_image cX9_image 1 (some .int) 2 0 0 [.ref (ad 99)] (wC ad ka F R J P B) (fun z w => ∃ F R J P B, w = wC ad ka F R J P B ∧ K z F R J P B) := MI_of (by decide) (Nat.le_of_ble_eq_true rfl) (fun X C hroom hret => bW_image C hret F R J P B  h)
set_option maxHeartbeats 4000000 in
set_option maxRecDepth 100000 in
theorem miX9_image : MInf yX9_image cX9_image 1 (some .int) 0 := ⟨(gw_of tw3_232 rfl), (gw_of tw3_233 rfl), (gw_of tw1_1 rfl), (gw_of tw3_234 rfl), by decide +kernel, by decide⟩

def qW_restore (F : FT) (R : RT) (J : JT) (P : PT) (B : BT)  (K : Int32 → FT → RT → JT → PT → BT → Prop) : Prop :=
  (¬ (F 5) = 0 → (qS_becomes_nk F R J P B (fun F2 R2 J2 P2 B2 => K (1 : Int32) F2 R2 J2 P2 B2))) ∧ ((F 5) = 0 → (K (-4 : Int32) F R J P B))
set_option maxHeartbeats 4000000 in
set_option maxRecDepth 100000 in
theorem bW_restore {X : XT} {ka : Nat → ClassId} {ad : Nat → Nat} (C : Cx X cX9_restore 1 RX9 (some .int) ka 2) {K : Int32 → FT → RT → JT → PT → BT → Prop} (hret : RetI X cX9_restore .int 0 0 (fun z w => ∃ F R J P B, w = wC ad ka F R J P B ∧ K z F R J P B)) (F : FT) (R : RT) (J : JT) (P : PT) (B : BT)  (h : qW_restore F R J P B  K) : G X 0 0 (wC ad ka F R J P B) 0 [(0, .ref (ad 99))] [] := by
  unfold qW_restore at h
  refine g_aload_n C 0 dX9_restore_0 rfl ?_
  refine Cg_X9_0_imaged C (v := F 5) rfl dX9_restore_1 ?_
  refine g_if_ne C 10 dX9_restore_4 (by decide) (fun c1 => ?_) (fun c1 => ?_)
  · have h := h.1 c1
    refine g_aload_n C 0 dX9_restore_10 rfl ?_
    refine Cg_X9_0_now C dX9_restore_11 ?_
    refine g_aload_n C 0 dX9_restore_14 rfl ?_
    refine Cg_X9_0_kept C dX9_restore_15 ?_
    refine g_callVv0 C (kS_becomes_nk (xL X) (xD X) ka ad _ _ _ _ _ _ h) miX7_becomes (gw_of tw3_235 rfl) (by decide) wC_o1 rfl rfl rfl (Nat.le_of_ble_eq_true rfl) z00 dX9_restore_18 (fun w hw => ?_)
    obtain ⟨F2, R2, J2, P2, B2, rfl, h⟩ := hw
    refine g_iconst C (1 : Int32) dX9_restore_21 ci_1 ?_
    exact hret _ _ _ _ ⟨_, _, _, _, _, rfl, h⟩ rfl dX9_restore_22
  · have h := h.2 c1
    refine g_bipush C (-4 : Int32) dX9_restore_7 cb_m4 ?_
    exact hret _ _ _ _ ⟨_, _, _, _, _, rfl, h⟩ rfl dX9_restore_9
set_option maxHeartbeats 4000000 in
set_option maxRecDepth 100000 in
theorem kW_restore (l : Launch) (D : va_G) (ka : Nat → ClassId) (ad : Nat → Nat) (F : FT) (R : RT) (J : JT) (P : PT) (B : BT)  (K : Int32 → FT → RT → JT → PT → BT → Prop) (h : qW_restore F R J P B  K) : MI l D ka yX9_restore cX9_restore 1 (some .int) 2 0 0 [.ref (ad 99)] (wC ad ka F R J P B) (fun z w => ∃ F R J P B, w = wC ad ka F R J P B ∧ K z F R J P B) := MI_of (by decide) (Nat.le_of_ble_eq_true rfl) (fun X C hroom hret => bW_restore C hret F R J P B  h)
set_option maxHeartbeats 4000000 in
set_option maxRecDepth 100000 in
theorem miX9_restore : MInf yX9_restore cX9_restore 1 (some .int) 0 := ⟨(gw_of tw4_0 rfl), (gw_of tw4_1 rfl), (gw_of tw1_1 rfl), (gw_of tw4_2 rfl), by decide +kernel, by decide⟩

def qW_fittingWeathers_39 (k6 : FT → RT → JT → PT → BT → Int32 → Int64 → Int32 → Int32 → Int32 → Prop) (F : FT) (R : RT) (J : JT) (P : PT) (B : BT) (v1 : Int32) (v2 : Int64) (v4 : Int32) (v5 : Int32) (v6 : Int32) (K : Int32 → FT → RT → JT → PT → BT → Prop) : Prop :=
  k6 F R J P B v1 v2 v4 v5 (v6 + (1 : Int32))
set_option maxHeartbeats 4000000 in
set_option maxRecDepth 100000 in
theorem lW_fittingWeathers_39 {X : XT} {ka : Nat → ClassId} {ad : Nat → Nat} (C : Cx X cX9_fittingWeathers 7 RX9 (some .int) ka 6) {K : Int32 → FT → RT → JT → PT → BT → Prop} (hret : RetI X cX9_fittingWeathers .int 0 0 (fun z w => ∃ F R J P B, w = wC ad ka F R J P B ∧ K z F R J P B)) {k6 : FT → RT → JT → PT → BT → Int32 → Int64 → Int32 → Int32 → Int32 → Prop} (hk6 : ∀ (F : FT) (R : RT) (J : JT) (P : PT) (B : BT) (v1 : Int32) (v2 : Int64) (v4 : Int32) (v5 : Int32) (v6 : Int32), k6 F R J P B v1 v2 v4 v5 v6 → G X 0 0 (wC ad ka F R J P B) 6 [(0, .ref (ad 99)), (1, .int v1), (2, .long v2), (4, .int v4), (5, .int v5), (6, .int v6)] []) (F : FT) (R : RT) (J : JT) (P : PT) (B : BT) (v1 : Int32) (v2 : Int64) (v4 : Int32) (v5 : Int32) (v6 : Int32) (h : qW_fittingWeathers_39 k6 F R J P B v1 v2 v4 v5 v6 K) : G X 0 0 (wC ad ka F R J P B) 39 [(0, .ref (ad 99)), (1, .int v1), (2, .long v2), (4, .int v4), (5, .int v5), (6, .int v6)] [] := by
  unfold qW_fittingWeathers_39 at h
  refine g_iinc C 5 (v6 + (1 : Int32)) [(6, .int (v6 + (1 : Int32))), (0, .ref (ad 99)), (1, .int v1), (2, .long v2), (4, .int v4), (5, .int v5)] dX9_fittingWeathers_39 rfl (by rw [ci_1]) (by decide) rfl ?_
  refine g_goto C 6 dX9_fittingWeathers_42 (by decide) ?_
  exact g_lv [1, 2, 3, 4, 5, 0] rfl (hk6 _ _ _ _ _ _ _ _ _ _ h)
def qW_fittingWeathers_6 : Nat → FT → RT → JT → PT → BT → Int32 → Int64 → Int32 → Int32 → Int32 → (Int32 → FT → RT → JT → PT → BT → Prop) → Prop
  | 0, _, _, _, _, _, _, _, _, _, _ => fun _ => False
  | n6 + 1, F, R, J, P, B, v1, v2, v4, v5, v6 => fun K => ((3 : Int32) ≤ v6 → (K v5 F R J P B)) ∧ (¬ (3 : Int32) ≤ v6 → (qS_laidBehind F R J P B v6 v1 v4 (fun r2 F2 R2 J2 P2 B2 => (¬ (lg_cmp r2.toInt64 v2) = 0 → (qW_fittingWeathers_39 (fun F R J P B v1 v2 v4 v5 v6 => qW_fittingWeathers_6 n6 F R J P B v1 v2 v4 v5 v6 K) F2 R2 J2 P2 B2 v1 v2 v4 v5 v6 K)) ∧ ((lg_cmp r2.toInt64 v2) = 0 → (qW_fittingWeathers_39 (fun F R J P B v1 v2 v4 v5 v6 => qW_fittingWeathers_6 n6 F R J P B v1 v2 v4 v5 v6 K) F2 R2 J2 P2 B2 v1 v2 v4 (v5 ||| ((1 : Int32) <<< (v6 &&& 31))) v6 K)))))
set_option maxHeartbeats 4000000 in
set_option maxRecDepth 100000 in
theorem lW_fittingWeathers_6 {X : XT} {ka : Nat → ClassId} {ad : Nat → Nat} (C : Cx X cX9_fittingWeathers 7 RX9 (some .int) ka 6) {K : Int32 → FT → RT → JT → PT → BT → Prop} (hret : RetI X cX9_fittingWeathers .int 0 0 (fun z w => ∃ F R J P B, w = wC ad ka F R J P B ∧ K z F R J P B)) : ∀ (n : Nat) (F : FT) (R : RT) (J : JT) (P : PT) (B : BT) (v1 : Int32) (v2 : Int64) (v4 : Int32) (v5 : Int32) (v6 : Int32), qW_fittingWeathers_6 n F R J P B v1 v2 v4 v5 v6 K → G X 0 0 (wC ad ka F R J P B) 6 [(0, .ref (ad 99)), (1, .int v1), (2, .long v2), (4, .int v4), (5, .int v5), (6, .int v6)] [] := by
  intro n
  induction n with
  | zero => intro F R J P B v1 v2 v4 v5 v6 h; exact h.elim
  | succ n ih =>
    intro F R J P B v1 v2 v4 v5 v6 h
    refine g_iload C 5 dX9_fittingWeathers_6 rfl ?_
    refine g_iconst C (3 : Int32) dX9_fittingWeathers_8 ci_3 ?_
    refine g_icmp_ge C 45 dX9_fittingWeathers_9 (by decide) (fun c1 => ?_) (fun c1 => ?_)
    · have h := h.1 c1
      refine g_iload C 4 dX9_fittingWeathers_45 rfl ?_
      exact hret _ _ _ _ ⟨_, _, _, _, _, rfl, h⟩ rfl dX9_fittingWeathers_47
    · have h := h.2 c1
      refine g_aload_n C 0 dX9_fittingWeathers_12 rfl ?_
      refine Cg_X9_0_now C dX9_fittingWeathers_13 ?_
      refine g_iload C 5 dX9_fittingWeathers_16 rfl ?_
      refine g_iload_n C 1 dX9_fittingWeathers_18 rfl ?_
      refine g_iload C 3 dX9_fittingWeathers_19 rfl ?_
      refine g_callVi0 C (kS_laidBehind (xL X) (xD X) ka ad _ _ _ _ _ _ _ _ _ h) miX7_laidBehind (gw_of tw3_215 rfl) (by decide) wC_o1 rfl rfl rfl (Nat.le_of_ble_eq_true rfl) z00 dX9_fittingWeathers_21 (fun r2 w hw => ?_)
      obtain ⟨F2, R2, J2, P2, B2, rfl, h⟩ := hw
      refine g_i2l C dX9_fittingWeathers_24 ?_
      refine g_lload_n C 2 dX9_fittingWeathers_25 rfl ?_
      refine g_lcmp C dX9_fittingWeathers_26 ?_
      refine g_if_ne C 39 dX9_fittingWeathers_27 (by decide) (fun c3 => ?_) (fun c3 => ?_)
      · have h := h.1 c3
        exact g_lv [0, 1, 2, 3, 4, 5] rfl (lW_fittingWeathers_39 C hret (fun F R J P B v1 v2 v4 v5 v6 h => ih F R J P B v1 v2 v4 v5 v6 h) _ _ _ _ _ _ _ _ _ _ h)
      · have h := h.2 c3
        refine g_iload C 4 dX9_fittingWeathers_30 rfl ?_
        refine g_iconst C (1 : Int32) dX9_fittingWeathers_32 ci_1 ?_
        refine g_iload C 5 dX9_fittingWeathers_33 rfl ?_
        refine g_ishl C dX9_fittingWeathers_35 ?_
        refine g_ior C dX9_fittingWeathers_36 ?_
        refine g_istore C [(5, .int (v5 ||| ((1 : Int32) <<< (v6 &&& 31)))), (0, .ref (ad 99)), (1, .int v1), (2, .long v2), (4, .int v4), (6, .int v6)] dX9_fittingWeathers_37 (by decide) rfl ?_
        exact g_lv [1, 2, 3, 4, 0, 5] rfl (lW_fittingWeathers_39 C hret (fun F R J P B v1 v2 v4 v5 v6 h => ih F R J P B v1 v2 v4 v5 v6 h) _ _ _ _ _ _ _ _ _ _ h)
def qW_fittingWeathers (F : FT) (R : RT) (J : JT) (P : PT) (B : BT) (a1 : Int32) (a2 : Int64) (a3 : Int32) (K : Int32 → FT → RT → JT → PT → BT → Prop) : Prop :=
  ∃ n6, qW_fittingWeathers_6 n6 F R J P B a1 a2 a3 (0 : Int32) (0 : Int32) K
set_option maxHeartbeats 4000000 in
set_option maxRecDepth 100000 in
theorem bW_fittingWeathers {X : XT} {ka : Nat → ClassId} {ad : Nat → Nat} (C : Cx X cX9_fittingWeathers 7 RX9 (some .int) ka 6) {K : Int32 → FT → RT → JT → PT → BT → Prop} (hret : RetI X cX9_fittingWeathers .int 0 0 (fun z w => ∃ F R J P B, w = wC ad ka F R J P B ∧ K z F R J P B)) (F : FT) (R : RT) (J : JT) (P : PT) (B : BT) (a1 : Int32) (a2 : Int64) (a3 : Int32) (h : qW_fittingWeathers F R J P B a1 a2 a3 K) : G X 0 0 (wC ad ka F R J P B) 0 [(0, .ref (ad 99)), (1, .int a1), (2, .long a2), (4, .int a3)] [] := by
  unfold qW_fittingWeathers at h
  refine g_iconst C (0 : Int32) dX9_fittingWeathers_0 ci_0 ?_
  refine g_istore C [(5, .int (0 : Int32)), (0, .ref (ad 99)), (1, .int a1), (2, .long a2), (4, .int a3)] dX9_fittingWeathers_1 (by decide) rfl ?_
  refine g_iconst C (0 : Int32) dX9_fittingWeathers_3 ci_0 ?_
  refine g_istore C [(6, .int (0 : Int32)), (5, .int (0 : Int32)), (0, .ref (ad 99)), (1, .int a1), (2, .long a2), (4, .int a3)] dX9_fittingWeathers_4 (by decide) rfl ?_
  obtain ⟨n1, h⟩ := h
  exact g_lv [2, 3, 4, 5, 1, 0] rfl (lW_fittingWeathers_6 C hret n1 _ _ _ _ _ _ _ _ _ _ h)
set_option maxHeartbeats 4000000 in
set_option maxRecDepth 100000 in
theorem kW_fittingWeathers (l : Launch) (D : va_G) (ka : Nat → ClassId) (ad : Nat → Nat) (F : FT) (R : RT) (J : JT) (P : PT) (B : BT) (a1 : Int32) (a2 : Int64) (a3 : Int32) (K : Int32 → FT → RT → JT → PT → BT → Prop) (h : qW_fittingWeathers F R J P B a1 a2 a3 K) : MI l D ka yX9_fittingWeathers cX9_fittingWeathers 7 (some .int) 6 0 0 [.ref (ad 99), .int a1, .long a2, .int a3] (wC ad ka F R J P B) (fun z w => ∃ F R J P B, w = wC ad ka F R J P B ∧ K z F R J P B) := MI_of (by decide) (Nat.le_of_ble_eq_true rfl) (fun X C hroom hret => bW_fittingWeathers C hret F R J P B a1 a2 a3 h)
set_option maxHeartbeats 4000000 in
set_option maxRecDepth 100000 in
theorem miX9_fittingWeathers : MInf yX9_fittingWeathers cX9_fittingWeathers 7 (some .int) 3 := ⟨(gw_of tw4_27 rfl), (gw_of tp_yX9_fittingWeathers rfl), (gw_of tw1_1 rfl), (gw_of tw4_28 rfl), by decide +kernel, by decide⟩

def qW_weatherOf_82 (j : Nat) (k18 : FT → RT → JT → PT → BT → Int32 → Int32 → Int32 → Int32 → Int32 → Int32 → Int32 → Prop) (F : FT) (R : RT) (J : JT) (P : PT) (B : BT) (v2 : Int32) (v3 : Int32) (v4 : Int32) (v6 : Int32) (v7 : Int32) (v8 : Int32) (K : Int32 → FT → RT → JT → PT → BT → Prop) : Prop :=
  (vp_in (v2 + v8) 24) ∧ (k18 F R J P B v2 v3 v4 (((J (503 + 100 * j)) ((v2 + v8).toNatClampNeg)).toInt32) v6 v7 (v8 + (1 : Int32)))
set_option maxHeartbeats 4000000 in
set_option maxRecDepth 100000 in
theorem lW_weatherOf_82 {X : XT} {ka : Nat → ClassId} {ad : Nat → Nat} (C : Cx X cX9_weatherOf 10 RX9 (some .int) ka 7) {K : Int32 → FT → RT → JT → PT → BT → Prop} (hret : RetI X cX9_weatherOf .int 0 0 (fun z w => ∃ F R J P B, w = wC ad ka F R J P B ∧ K z F R J P B)) (j : Nat) (hj : j < 4) {k18 : FT → RT → JT → PT → BT → Int32 → Int32 → Int32 → Int32 → Int32 → Int32 → Int32 → Prop} (hk18 : ∀ (F : FT) (R : RT) (J : JT) (P : PT) (B : BT) (v2 : Int32) (v3 : Int32) (v4 : Int32) (v5 : Int32) (v6 : Int32) (v7 : Int32) (v8 : Int32), k18 F R J P B v2 v3 v4 v5 v6 v7 v8 → G X 0 0 (wC ad ka F R J P B) 18 [(0, .ref (ad 99)), (1, .ref (ad (503 + 100 * j))), (2, .int v2), (3, .int v3), (4, .int v4), (5, .int v5), (6, .int v6), (7, .int v7), (8, .int v8)] []) (F : FT) (R : RT) (J : JT) (P : PT) (B : BT) (v2 : Int32) (v3 : Int32) (v4 : Int32) (v6 : Int32) (v7 : Int32) (v8 : Int32) (h : qW_weatherOf_82 j k18 F R J P B v2 v3 v4 v6 v7 v8 K) : G X 0 0 (wC ad ka F R J P B) 82 [(0, .ref (ad 99)), (1, .ref (ad (503 + 100 * j))), (2, .int v2), (3, .int v3), (4, .int v4), (6, .int v6), (7, .int v7), (8, .int v8)] [] := by
  unfold qW_weatherOf_82 at h
  refine g_aload_n C 1 dX9_weatherOf_82 rfl ?_
  refine g_iload_n C 2 dX9_weatherOf_83 rfl ?_
  refine g_iload C 7 dX9_weatherOf_84 rfl ?_
  refine g_iadd C dX9_weatherOf_86 ?_
  refine Sa_items C j hj (f := J (503 + 100 * j)) rfl _ rfl h.1 dX9_weatherOf_87 ?_
  have h := h.2
  refine g_l2i C dX9_weatherOf_88 ?_
  refine g_istore C [(5, .int (((J (503 + 100 * j)) ((v2 + v8).toNatClampNeg)).toInt32)), (0, .ref (ad 99)), (1, .ref (ad (503 + 100 * j))), (2, .int v2), (3, .int v3), (4, .int v4), (6, .int v6), (7, .int v7), (8, .int v8)] dX9_weatherOf_89 (by decide) rfl ?_
  refine g_iinc C 8 (v8 + (1 : Int32)) [(8, .int (v8 + (1 : Int32))), (5, .int (((J (503 + 100 * j)) ((v2 + v8).toNatClampNeg)).toInt32)), (0, .ref (ad 99)), (1, .ref (ad (503 + 100 * j))), (2, .int v2), (3, .int v3), (4, .int v4), (6, .int v6), (7, .int v7)] dX9_weatherOf_91 rfl (by rw [ci_1]) (by decide) rfl ?_
  refine g_goto C 18 dX9_weatherOf_94 (by decide) ?_
  exact g_lv [2, 3, 4, 5, 6, 1, 7, 8, 0] rfl (hk18 _ _ _ _ _ _ _ _ _ _ _ _ h)
def qW_weatherOf_49 (j : Nat) (k18 : FT → RT → JT → PT → BT → Int32 → Int32 → Int32 → Int32 → Int32 → Int32 → Int32 → Prop) (F : FT) (R : RT) (J : JT) (P : PT) (B : BT) (v2 : Int32) (v3 : Int32) (v4 : Int32) (v6 : Int32) (v7 : Int32) (v8 : Int32) (s0 : Int32) (s1 : Int64) (s2 : Int32) (K : Int32 → FT → RT → JT → PT → BT → Prop) : Prop :=
  qW_fittingWeathers F R J P B s2 s1 s0 (fun r1 F1 R1 J1 P1 B1 => (¬ r1 = 0 → (qJ_bitCount F1 R1 J1 P1 B1 r1 (fun r3 F3 R3 J3 P3 B3 => (¬ v8 = v4 → (qW_weatherOf_82 j k18 F3 R3 J3 P3 B3 v2 v3 v4 (v6 * r3) v7 v8 K)) ∧ (v8 = v4 → (qW_weatherOf_82 j k18 F3 R3 J3 P3 B3 v2 v3 v4 (v6 * r3) r1 v8 K))))) ∧ (r1 = 0 → (K (0 : Int32) F1 R1 J1 P1 B1)))
set_option maxHeartbeats 4000000 in
set_option maxRecDepth 100000 in
theorem lW_weatherOf_49 {X : XT} {ka : Nat → ClassId} {ad : Nat → Nat} (C : Cx X cX9_weatherOf 10 RX9 (some .int) ka 7) {K : Int32 → FT → RT → JT → PT → BT → Prop} (hret : RetI X cX9_weatherOf .int 0 0 (fun z w => ∃ F R J P B, w = wC ad ka F R J P B ∧ K z F R J P B)) (j : Nat) (hj : j < 4) {k18 : FT → RT → JT → PT → BT → Int32 → Int32 → Int32 → Int32 → Int32 → Int32 → Int32 → Prop} (hk18 : ∀ (F : FT) (R : RT) (J : JT) (P : PT) (B : BT) (v2 : Int32) (v3 : Int32) (v4 : Int32) (v5 : Int32) (v6 : Int32) (v7 : Int32) (v8 : Int32), k18 F R J P B v2 v3 v4 v5 v6 v7 v8 → G X 0 0 (wC ad ka F R J P B) 18 [(0, .ref (ad 99)), (1, .ref (ad (503 + 100 * j))), (2, .int v2), (3, .int v3), (4, .int v4), (5, .int v5), (6, .int v6), (7, .int v7), (8, .int v8)] []) (F : FT) (R : RT) (J : JT) (P : PT) (B : BT) (v2 : Int32) (v3 : Int32) (v4 : Int32) (v6 : Int32) (v7 : Int32) (v8 : Int32) (s0 : Int32) (s1 : Int64) (s2 : Int32) (h : qW_weatherOf_49 j k18 F R J P B v2 v3 v4 v6 v7 v8 s0 s1 s2 K) : G X 0 0 (wC ad ka F R J P B) 49 [(0, .ref (ad 99)), (1, .ref (ad (503 + 100 * j))), (2, .int v2), (3, .int v3), (4, .int v4), (6, .int v6), (7, .int v7), (8, .int v8)] [.int s0, .long s1, .int s2, .ref (ad 99)] := by
  unfold qW_weatherOf_49 at h
  refine g_callVi0 C (kW_fittingWeathers (xL X) (xD X) ka ad _ _ _ _ _ _ _ _ _ h) miX9_fittingWeathers (gw_of tw4_25 rfl) (by decide) wC_o0 rfl rfl rfl (Nat.le_of_ble_eq_true rfl) z00 dX9_weatherOf_49 (fun r1 w hw => ?_)
  obtain ⟨F1, R1, J1, P1, B1, rfl, h⟩ := hw
  refine g_istore C [(9, .int r1), (0, .ref (ad 99)), (1, .ref (ad (503 + 100 * j))), (2, .int v2), (3, .int v3), (4, .int v4), (6, .int v6), (7, .int v7), (8, .int v8)] dX9_weatherOf_52 (by decide) rfl ?_
  refine g_iload C 0 dX9_weatherOf_54 rfl ?_
  refine g_if_ne C 61 dX9_weatherOf_56 (by decide) (fun c2 => ?_) (fun c2 => ?_)
  · have h := h.1 c2
    refine g_iload C 6 dX9_weatherOf_61 rfl ?_
    refine g_iload C 0 dX9_weatherOf_63 rfl ?_
    refine g_callSi0 C (kJ_bitCount (xL X) (xD X) ka ad _ _ _ _ _ _ _ h) siJ6_bitCount_0f7a4 (gw_of tw3_196 rfl) (by decide) rfl rfl (Nat.le_of_ble_eq_true rfl) z00 dX9_weatherOf_65 (fun r3 w hw => ?_)
    obtain ⟨F3, R3, J3, P3, B3, rfl, h⟩ := hw
    refine g_imul C dX9_weatherOf_68 ?_
    refine g_istore C [(6, .int (v6 * r3)), (9, .int r1), (0, .ref (ad 99)), (1, .ref (ad (503 + 100 * j))), (2, .int v2), (3, .int v3), (4, .int v4), (7, .int v7), (8, .int v8)] dX9_weatherOf_69 (by decide) rfl ?_
    refine g_iload C 8 dX9_weatherOf_71 rfl ?_
    refine g_iload C 6 dX9_weatherOf_73 rfl ?_
    refine g_icmp_ne C 82 dX9_weatherOf_75 (by decide) (fun c4 => ?_) (fun c4 => ?_)
    · have h := h.1 c4
      exact g_lv [2, 3, 4, 5, 6, 0, 7, 8] rfl (lW_weatherOf_82 C hret j hj hk18 _ _ _ _ _ _ _ _ _ _ _ h)
    · have h := h.2 c4
      refine g_iload C 1 dX9_weatherOf_78 rfl ?_
      refine g_istore C [(7, .int r1), (6, .int (v6 * r3)), (9, .int r1), (0, .ref (ad 99)), (1, .ref (ad (503 + 100 * j))), (2, .int v2), (3, .int v3), (4, .int v4), (8, .int v8)] dX9_weatherOf_80 (by decide) rfl ?_
      exact g_lv [3, 4, 5, 6, 7, 1, 0, 8] rfl (lW_weatherOf_82 C hret j hj hk18 _ _ _ _ _ _ _ _ _ _ _ h)
  · have h := h.2 c2
    refine g_iconst C (0 : Int32) dX9_weatherOf_59 ci_0 ?_
    exact hret _ _ _ _ ⟨_, _, _, _, _, rfl, h⟩ rfl dX9_weatherOf_60
def qW_weatherOf_18 (j : Nat) : Nat → FT → RT → JT → PT → BT → Int32 → Int32 → Int32 → Int32 → Int32 → Int32 → Int32 → (Int32 → FT → RT → JT → PT → BT → Prop) → Prop
  | 0, _, _, _, _, _, _, _, _, _, _, _, _ => fun _ => False
  | n18 + 1, F, R, J, P, B, v2, v3, v4, v5, v6, v7, v8 => fun K => (v3 ≤ v8 → ((0 ≤ v4 → (K v7 F R J P B)) ∧ (¬ 0 ≤ v4 → (K v6 F R J P B)))) ∧ (¬ v3 ≤ v8 → ((vp_in (v2 + v8) 24) ∧ ((¬ v8 = 0 → (qW_weatherOf_49 j (fun F R J P B v2 v3 v4 v5 v6 v7 v8 => qW_weatherOf_18 j n18 F R J P B v2 v3 v4 v5 v6 v7 v8 K) F R J P B v2 v3 v4 v6 v7 v8 (0 : Int32) ((J (503 + 100 * j)) ((v2 + v8).toNatClampNeg)) v5 K)) ∧ (v8 = 0 → (qS_costToday F R J P B (fun r4 F4 R4 J4 P4 B4 => qW_weatherOf_49 j (fun F R J P B v2 v3 v4 v5 v6 v7 v8 => qW_weatherOf_18 j n18 F R J P B v2 v3 v4 v5 v6 v7 v8 K) F4 R4 J4 P4 B4 v2 v3 v4 v6 v7 v8 r4 ((J (503 + 100 * j)) ((v2 + v8).toNatClampNeg)) v5 K))))))
set_option maxHeartbeats 4000000 in
set_option maxRecDepth 100000 in
theorem lW_weatherOf_18 {X : XT} {ka : Nat → ClassId} {ad : Nat → Nat} (C : Cx X cX9_weatherOf 10 RX9 (some .int) ka 7) {K : Int32 → FT → RT → JT → PT → BT → Prop} (hret : RetI X cX9_weatherOf .int 0 0 (fun z w => ∃ F R J P B, w = wC ad ka F R J P B ∧ K z F R J P B)) (j : Nat) (hj : j < 4) : ∀ (n : Nat) (F : FT) (R : RT) (J : JT) (P : PT) (B : BT) (v2 : Int32) (v3 : Int32) (v4 : Int32) (v5 : Int32) (v6 : Int32) (v7 : Int32) (v8 : Int32), qW_weatherOf_18 j n F R J P B v2 v3 v4 v5 v6 v7 v8 K → G X 0 0 (wC ad ka F R J P B) 18 [(0, .ref (ad 99)), (1, .ref (ad (503 + 100 * j))), (2, .int v2), (3, .int v3), (4, .int v4), (5, .int v5), (6, .int v6), (7, .int v7), (8, .int v8)] [] := by
  intro n
  induction n with
  | zero => intro F R J P B v2 v3 v4 v5 v6 v7 v8 h; exact h.elim
  | succ n ih =>
    intro F R J P B v2 v3 v4 v5 v6 v7 v8 h
    refine g_iload C 8 dX9_weatherOf_18 rfl ?_
    refine g_iload_n C 3 dX9_weatherOf_20 rfl ?_
    refine g_icmp_ge C 97 dX9_weatherOf_21 (by decide) (fun c1 => ?_) (fun c1 => ?_)
    · have h := h.1 c1
      refine g_iload C 4 dX9_weatherOf_97 rfl ?_
      refine g_if_ge C 107 dX9_weatherOf_99 (by decide) (fun c2 => ?_) (fun c2 => ?_)
      · have h := h.1 c2
        refine g_iload C 7 dX9_weatherOf_107 rfl ?_
        exact hret _ _ _ _ ⟨_, _, _, _, _, rfl, h⟩ rfl dX9_weatherOf_109
      · have h := h.2 c2
        refine g_iload C 6 dX9_weatherOf_102 rfl ?_
        refine g_goto C 109 dX9_weatherOf_104 (by decide) ?_
        exact hret _ _ _ _ ⟨_, _, _, _, _, rfl, h⟩ rfl dX9_weatherOf_109
    · have h := h.2 c1
      refine g_aload_n C 0 dX9_weatherOf_24 rfl ?_
      refine g_iload C 5 dX9_weatherOf_25 rfl ?_
      refine g_aload_n C 1 dX9_weatherOf_27 rfl ?_
      refine g_iload_n C 2 dX9_weatherOf_28 rfl ?_
      refine g_iload C 8 dX9_weatherOf_29 rfl ?_
      refine g_iadd C dX9_weatherOf_31 ?_
      refine Sa_items C j hj (f := J (503 + 100 * j)) rfl _ rfl h.1 dX9_weatherOf_32 ?_
      have h := h.2
      refine g_iload C 8 dX9_weatherOf_33 rfl ?_
      refine g_if_ne C 48 dX9_weatherOf_35 (by decide) (fun c3 => ?_) (fun c3 => ?_)
      · have h := h.1 c3
        refine g_iconst C (0 : Int32) dX9_weatherOf_48 ci_0 ?_
        exact g_lv [0, 1, 2, 3, 4, 6, 7, 8] rfl (lW_weatherOf_49 C hret j hj (fun F R J P B v2 v3 v4 v5 v6 v7 v8 h => ih F R J P B v2 v3 v4 v5 v6 v7 v8 h) _ _ _ _ _ _ _ _ _ _ _ _ _ _ h)
      · have h := h.2 c3
        refine g_aload_n C 0 dX9_weatherOf_38 rfl ?_
        refine Cg_X9_0_now C dX9_weatherOf_39 ?_
        refine g_callVi0 C (kS_costToday (xL X) (xD X) ka ad _ _ _ _ _ _ h) miX7_costToday (gw_of tw3_32 rfl) (by decide) wC_o1 rfl rfl rfl (Nat.le_of_ble_eq_true rfl) z00 dX9_weatherOf_42 (fun r4 w hw => ?_)
        obtain ⟨F4, R4, J4, P4, B4, rfl, h⟩ := hw
        refine g_goto C 49 dX9_weatherOf_45 (by decide) ?_
        exact g_lv [0, 1, 2, 3, 4, 6, 7, 8] rfl (lW_weatherOf_49 C hret j hj (fun F R J P B v2 v3 v4 v5 v6 v7 v8 h => ih F R J P B v2 v3 v4 v5 v6 v7 v8 h) _ _ _ _ _ _ _ _ _ _ _ _ _ _ h)
def qW_weatherOf (j : Nat) (F : FT) (R : RT) (J : JT) (P : PT) (B : BT) (a2 : Int32) (a3 : Int32) (a4 : Int32) (K : Int32 → FT → RT → JT → PT → BT → Prop) : Prop :=
  ∃ n18, qW_weatherOf_18 j n18 F R J P B a2 a3 a4 (F 105) (1 : Int32) (0 : Int32) (0 : Int32) K
set_option maxHeartbeats 4000000 in
set_option maxRecDepth 100000 in
theorem bW_weatherOf {X : XT} {ka : Nat → ClassId} {ad : Nat → Nat} (C : Cx X cX9_weatherOf 10 RX9 (some .int) ka 7) {K : Int32 → FT → RT → JT → PT → BT → Prop} (hret : RetI X cX9_weatherOf .int 0 0 (fun z w => ∃ F R J P B, w = wC ad ka F R J P B ∧ K z F R J P B)) (j : Nat) (hj : j < 4) (F : FT) (R : RT) (J : JT) (P : PT) (B : BT) (a2 : Int32) (a3 : Int32) (a4 : Int32) (h : qW_weatherOf j F R J P B a2 a3 a4 K) : G X 0 0 (wC ad ka F R J P B) 0 [(0, .ref (ad 99)), (1, .ref (ad (503 + 100 * j))), (2, .int a2), (3, .int a3), (4, .int a4)] [] := by
  unfold qW_weatherOf at h
  refine g_aload_n C 0 dX9_weatherOf_0 rfl ?_
  refine Cg_X9_0_now C dX9_weatherOf_1 ?_
  refine Cg_X9_1_laid C (v := F 105) rfl dX9_weatherOf_4 ?_
  refine g_istore C [(5, .int (F 105)), (0, .ref (ad 99)), (1, .ref (ad (503 + 100 * j))), (2, .int a2), (3, .int a3), (4, .int a4)] dX9_weatherOf_7 (by decide) rfl ?_
  refine g_iconst C (1 : Int32) dX9_weatherOf_9 ci_1 ?_
  refine g_istore C [(6, .int (1 : Int32)), (5, .int (F 105)), (0, .ref (ad 99)), (1, .ref (ad (503 + 100 * j))), (2, .int a2), (3, .int a3), (4, .int a4)] dX9_weatherOf_10 (by decide) rfl ?_
  refine g_iconst C (0 : Int32) dX9_weatherOf_12 ci_0 ?_
  refine g_istore C [(7, .int (0 : Int32)), (6, .int (1 : Int32)), (5, .int (F 105)), (0, .ref (ad 99)), (1, .ref (ad (503 + 100 * j))), (2, .int a2), (3, .int a3), (4, .int a4)] dX9_weatherOf_13 (by decide) rfl ?_
  refine g_iconst C (0 : Int32) dX9_weatherOf_15 ci_0 ?_
  refine g_istore C [(8, .int (0 : Int32)), (7, .int (0 : Int32)), (6, .int (1 : Int32)), (5, .int (F 105)), (0, .ref (ad 99)), (1, .ref (ad (503 + 100 * j))), (2, .int a2), (3, .int a3), (4, .int a4)] dX9_weatherOf_16 (by decide) rfl ?_
  obtain ⟨n1, h⟩ := h
  exact g_lv [4, 5, 6, 7, 8, 3, 2, 1, 0] rfl (lW_weatherOf_18 C hret j hj n1 _ _ _ _ _ _ _ _ _ _ _ _ h)
set_option maxHeartbeats 4000000 in
set_option maxRecDepth 100000 in
theorem kW_weatherOf (l : Launch) (D : va_G) (ka : Nat → ClassId) (ad : Nat → Nat) (j : Nat) (hj : j < 4) (F : FT) (R : RT) (J : JT) (P : PT) (B : BT) (a2 : Int32) (a3 : Int32) (a4 : Int32) (K : Int32 → FT → RT → JT → PT → BT → Prop) (h : qW_weatherOf j F R J P B a2 a3 a4 K) : MI l D ka yX9_weatherOf cX9_weatherOf 10 (some .int) 7 0 0 [.ref (ad 99), .ref (ad (503 + 100 * j)), .int a2, .int a3, .int a4] (wC ad ka F R J P B) (fun z w => ∃ F R J P B, w = wC ad ka F R J P B ∧ K z F R J P B) := MI_of (by decide) (Nat.le_of_ble_eq_true rfl) (fun X C hroom hret => bW_weatherOf C hret j hj F R J P B a2 a3 a4 h)
set_option maxHeartbeats 4000000 in
set_option maxRecDepth 100000 in
theorem miX9_weatherOf : MInf yX9_weatherOf cX9_weatherOf 10 (some .int) 4 := ⟨(gw_of tw4_23 rfl), (gw_of tp_yX9_weatherOf rfl), (gw_of tw1_1 rfl), (gw_of tw4_24 rfl), by decide +kernel, by decide⟩

def qW_weather (F : FT) (R : RT) (J : JT) (P : PT) (B : BT) (a1 : Int32) (a2 : Int32) (a3 : Int32) (a4 : Int32) (a5 : Int32) (K : Int32 → FT → RT → JT → PT → BT → Prop) : Prop :=
  qW_isSheet F R J P B a1 (fun r1 F1 R1 J1 P1 B1 => (r1 = 0 → (K (-1 : Int32) F1 R1 J1 P1 B1)) ∧ (¬ r1 = 0 → (qW_isLane F1 R1 J1 P1 B1 a2 (fun r3 F3 R3 J3 P3 B3 => (r3 = 0 → (K (-1 : Int32) F3 R3 J3 P3 B3)) ∧ (¬ r3 = 0 → (qW_within F3 R3 J3 P3 B3 a4 (1 : Int32) (8 : Int32) (fun r5 F5 R5 J5 P5 B5 => (r5 = 0 → (K (-1 : Int32) F5 R5 J5 P5 B5)) ∧ (¬ r5 = 0 → (qW_within F5 R5 J5 P5 B5 a5 (-1 : Int32) (a4 - (1 : Int32)) (fun r7 F7 R7 J7 P7 B7 => (¬ r7 = 0 → ((vp_in a1 4) ∧ (qH_find a1.toNatClampNeg F7 R7 J7 P7 B7 a2 a3 a4 (fun r10 F10 R10 J10 P10 B10 => (r10 = 0 → ((a4 ≤ ((F10 101) - (F10 104)) → ((vp_in a1 4) ∧ (qW_weatherOf a1.toNatClampNeg F10 R10 J10 P10 B10 a3 a4 a5 (fun r14 F14 R14 J14 P14 B14 => K r14 F14 R14 J14 P14 B14)))) ∧ (¬ a4 ≤ ((F10 101) - (F10 104)) → (K (-2 : Int32) F10 R10 J10 P10 B10)))) ∧ (¬ r10 = 0 → (K r10 F10 R10 J10 P10 B10)))))) ∧ (r7 = 0 → (K (-1 : Int32) F7 R7 J7 P7 B7))))))))))))
set_option maxHeartbeats 4000000 in
set_option maxRecDepth 100000 in
theorem bW_weather {X : XT} {ka : Nat → ClassId} {ad : Nat → Nat} (C : Cx X cX9_weather 7 RX9 (some .int) ka 8) {K : Int32 → FT → RT → JT → PT → BT → Prop} (hret : RetI X cX9_weather .int 0 0 (fun z w => ∃ F R J P B, w = wC ad ka F R J P B ∧ K z F R J P B)) (F : FT) (R : RT) (J : JT) (P : PT) (B : BT) (a1 : Int32) (a2 : Int32) (a3 : Int32) (a4 : Int32) (a5 : Int32) (h : qW_weather F R J P B a1 a2 a3 a4 a5 K) : G X 0 0 (wC ad ka F R J P B) 0 [(0, .ref (ad 99)), (1, .int a1), (2, .int a2), (3, .int a3), (4, .int a4), (5, .int a5)] [] := by
  unfold qW_weather at h
  refine g_iload_n C 1 dX9_weather_0 rfl ?_
  refine g_callSi0 C (kW_isSheet (xL X) (xD X) ka ad _ _ _ _ _ _ _ h) siX9_isSheet (gw_of tw4_7 rfl) (by decide) rfl rfl (Nat.le_of_ble_eq_true rfl) z00 dX9_weather_1 (fun r1 w hw => ?_)
  obtain ⟨F1, R1, J1, P1, B1, rfl, h⟩ := hw
  refine g_if_eq C 38 dX9_weather_4 (by decide) (fun c2 => ?_) (fun c2 => ?_)
  · have h := h.1 c2
    refine g_iconst C (-1 : Int32) dX9_weather_38 ci_m1 ?_
    exact hret _ _ _ _ ⟨_, _, _, _, _, rfl, h⟩ rfl dX9_weather_39
  · have h := h.2 c2
    refine g_iload_n C 2 dX9_weather_7 rfl ?_
    refine g_callSi0 C (kW_isLane (xL X) (xD X) ka ad _ _ _ _ _ _ _ h) siX9_isLane (gw_of tw4_10 rfl) (by decide) rfl rfl (Nat.le_of_ble_eq_true rfl) z00 dX9_weather_8 (fun r3 w hw => ?_)
    obtain ⟨F3, R3, J3, P3, B3, rfl, h⟩ := hw
    refine g_if_eq C 38 dX9_weather_11 (by decide) (fun c4 => ?_) (fun c4 => ?_)
    · have h := h.1 c4
      refine g_iconst C (-1 : Int32) dX9_weather_38 ci_m1 ?_
      exact hret _ _ _ _ ⟨_, _, _, _, _, rfl, h⟩ rfl dX9_weather_39
    · have h := h.2 c4
      refine g_iload C 4 dX9_weather_14 rfl ?_
      refine g_iconst C (1 : Int32) dX9_weather_16 ci_1 ?_
      refine g_bipush C (8 : Int32) dX9_weather_17 cb_8 ?_
      refine g_callSi0 C (kW_within (xL X) (xD X) ka ad _ _ _ _ _ _ _ _ _ h) siX9_within (gw_of tw2_32 rfl) (by decide) rfl rfl (Nat.le_of_ble_eq_true rfl) z00 dX9_weather_19 (fun r5 w hw => ?_)
      obtain ⟨F5, R5, J5, P5, B5, rfl, h⟩ := hw
      refine g_if_eq C 38 dX9_weather_22 (by decide) (fun c6 => ?_) (fun c6 => ?_)
      · have h := h.1 c6
        refine g_iconst C (-1 : Int32) dX9_weather_38 ci_m1 ?_
        exact hret _ _ _ _ ⟨_, _, _, _, _, rfl, h⟩ rfl dX9_weather_39
      · have h := h.2 c6
        refine g_iload C 5 dX9_weather_25 rfl ?_
        refine g_iconst C (-1 : Int32) dX9_weather_27 ci_m1 ?_
        refine g_iload C 4 dX9_weather_28 rfl ?_
        refine g_iconst C (1 : Int32) dX9_weather_30 ci_1 ?_
        refine g_isub C dX9_weather_31 ?_
        refine g_callSi0 C (kW_within (xL X) (xD X) ka ad _ _ _ _ _ _ _ _ _ h) siX9_within (gw_of tw2_32 rfl) (by decide) rfl rfl (Nat.le_of_ble_eq_true rfl) z00 dX9_weather_32 (fun r7 w hw => ?_)
        obtain ⟨F7, R7, J7, P7, B7, rfl, h⟩ := hw
        refine g_if_ne C 40 dX9_weather_35 (by decide) (fun c8 => ?_) (fun c8 => ?_)
        · have h := h.1 c8
          refine g_aload_n C 0 dX9_weather_40 rfl ?_
          refine Cg_X9_0_sheets C dX9_weather_41 ?_
          refine g_iload_n C 1 dX9_weather_44 rfl ?_
          refine Ca_sheets C h.1 dX9_weather_45 ?_
          have hj9 := vp_lt h.1
          have h := h.2
          refine g_iload_n C 2 dX9_weather_46 rfl ?_
          refine g_iload_n C 3 dX9_weather_47 rfl ?_
          refine g_iload C 4 dX9_weather_48 rfl ?_
          refine g_callVi0 C (kH_find (xL X) (xD X) ka ad a1.toNatClampNeg hj9 _ _ _ _ _ _ _ _ _ h) miX6_find (gw_of tw4_13 rfl) (by decide) (wC_s a1.toNatClampNeg hj9) rfl rfl rfl (Nat.le_of_ble_eq_true rfl) z00 dX9_weather_50 (fun r10 w hw => ?_)
          obtain ⟨F10, R10, J10, P10, B10, rfl, h⟩ := hw
          refine g_istore C [(6, .int r10), (0, .ref (ad 99)), (1, .int a1), (2, .int a2), (3, .int a3), (4, .int a4), (5, .int a5)] dX9_weather_53 (by decide) rfl ?_
          refine g_iload C 0 dX9_weather_55 rfl ?_
          refine g_if_eq C 63 dX9_weather_57 (by decide) (fun c11 => ?_) (fun c11 => ?_)
          · have h := h.1 c11
            refine g_iload C 5 dX9_weather_63 rfl ?_
            refine g_aload_n C 1 dX9_weather_65 rfl ?_
            refine Cg_X9_0_now C dX9_weather_66 ?_
            refine Cg_X9_1_days C (v := F10 101) rfl dX9_weather_69 ?_
            refine g_aload_n C 1 dX9_weather_72 rfl ?_
            refine Cg_X9_0_now C dX9_weather_73 ?_
            refine Cg_X9_1_day C (v := F10 104) rfl dX9_weather_76 ?_
            refine g_isub C dX9_weather_79 ?_
            refine g_icmp_le C 86 dX9_weather_80 (by decide) (fun c12 => ?_) (fun c12 => ?_)
            · have h := h.1 c12
              refine g_aload_n C 1 dX9_weather_86 rfl ?_
              refine g_aload_n C 1 dX9_weather_87 rfl ?_
              refine Cg_X9_0_sheets C dX9_weather_88 ?_
              refine g_iload_n C 2 dX9_weather_91 rfl ?_
              refine Ca_sheets C h.1 dX9_weather_92 ?_
              have hj13 := vp_lt h.1
              have h := h.2
              refine Sg_X9_items C a1.toNatClampNeg hj13 dX9_weather_93 ?_
              refine g_iload_n C 4 dX9_weather_96 rfl ?_
              refine g_iload C 5 dX9_weather_97 rfl ?_
              refine g_iload C 6 dX9_weather_99 rfl ?_
              refine g_callVi0 C (kW_weatherOf (xL X) (xD X) ka ad a1.toNatClampNeg hj13 _ _ _ _ _ _ _ _ _ h) miX9_weatherOf (gw_of tw4_21 rfl) (by decide) wC_o0 rfl rfl rfl (Nat.le_of_ble_eq_true rfl) z00 dX9_weather_101 (fun r14 w hw => ?_)
              obtain ⟨F14, R14, J14, P14, B14, rfl, h⟩ := hw
              exact hret _ _ _ _ ⟨_, _, _, _, _, rfl, h⟩ rfl dX9_weather_104
            · have h := h.2 c12
              refine g_bipush C (-2 : Int32) dX9_weather_83 cb_m2 ?_
              exact hret _ _ _ _ ⟨_, _, _, _, _, rfl, h⟩ rfl dX9_weather_85
          · have h := h.2 c11
            refine g_iload C 0 dX9_weather_60 rfl ?_
            exact hret _ _ _ _ ⟨_, _, _, _, _, rfl, h⟩ rfl dX9_weather_62
        · have h := h.2 c8
          refine g_iconst C (-1 : Int32) dX9_weather_38 ci_m1 ?_
          exact hret _ _ _ _ ⟨_, _, _, _, _, rfl, h⟩ rfl dX9_weather_39
set_option maxHeartbeats 4000000 in
set_option maxRecDepth 100000 in
theorem kW_weather (l : Launch) (D : va_G) (ka : Nat → ClassId) (ad : Nat → Nat) (F : FT) (R : RT) (J : JT) (P : PT) (B : BT) (a1 : Int32) (a2 : Int32) (a3 : Int32) (a4 : Int32) (a5 : Int32) (K : Int32 → FT → RT → JT → PT → BT → Prop) (h : qW_weather F R J P B a1 a2 a3 a4 a5 K) : MI l D ka yX9_weather cX9_weather 7 (some .int) 8 0 0 [.ref (ad 99), .int a1, .int a2, .int a3, .int a4, .int a5] (wC ad ka F R J P B) (fun z w => ∃ F R J P B, w = wC ad ka F R J P B ∧ K z F R J P B) := MI_of (by decide) (Nat.le_of_ble_eq_true rfl) (fun X C hroom hret => bW_weather C hret F R J P B a1 a2 a3 a4 a5 h)
set_option maxHeartbeats 4000000 in
set_option maxRecDepth 100000 in
theorem miX9_weather : MInf yX9_weather cX9_weather 7 (some .int) 5 := ⟨(gw_of tw4_4 rfl), (gw_of tw4_5 rfl), (gw_of tw1_1 rfl), (gw_of tw4_6 rfl), by decide +kernel, by decide⟩

def qW_film_101 (k72 : FT → RT → JT → PT → BT → Int32 → Int32 → Int32 → Int32 → Int32 → Int32 → Prop) (F : FT) (R : RT) (J : JT) (P : PT) (B : BT) (v1 : Int32) (v2 : Int32) (v3 : Int32) (v5 : Int32) (v8 : Int32) (s0 : Int32) (s1 : Int32) (s2 : Int32) (K : Int32 → FT → RT → JT → PT → BT → Prop) : Prop :=
  qS_laidBehind F R J P B s2 s1 s0 (fun r1 F1 R1 J1 P1 B1 => (vp_in v3 4) ∧ (qH_put v3.toNatClampNeg F1 R1 J1 P1 B1 (v5 + v8) r1.toInt64 (fun F3 R3 J3 P3 B3 => k72 F3 R3 J3 P3 B3 v1 v2 v3 v5 r1 (v8 + (1 : Int32)))))
set_option maxHeartbeats 4000000 in
set_option maxRecDepth 100000 in
theorem lW_film_101 {X : XT} {ka : Nat → ClassId} {ad : Nat → Nat} (C : Cx X cX9_film 9 RX9 (some .int) ka 6) {K : Int32 → FT → RT → JT → PT → BT → Prop} (hret : RetI X cX9_film .int 0 0 (fun z w => ∃ F R J P B, w = wC ad ka F R J P B ∧ K z F R J P B)) {k72 : FT → RT → JT → PT → BT → Int32 → Int32 → Int32 → Int32 → Int32 → Int32 → Prop} (hk72 : ∀ (F : FT) (R : RT) (J : JT) (P : PT) (B : BT) (v1 : Int32) (v2 : Int32) (v3 : Int32) (v5 : Int32) (v7 : Int32) (v8 : Int32), k72 F R J P B v1 v2 v3 v5 v7 v8 → G X 0 0 (wC ad ka F R J P B) 72 [(0, .ref (ad 99)), (1, .int v1), (2, .int v2), (3, .int v3), (5, .int v5), (7, .int v7), (8, .int v8)] []) (F : FT) (R : RT) (J : JT) (P : PT) (B : BT) (v1 : Int32) (v2 : Int32) (v3 : Int32) (v5 : Int32) (v8 : Int32) (s0 : Int32) (s1 : Int32) (s2 : Int32) (h : qW_film_101 k72 F R J P B v1 v2 v3 v5 v8 s0 s1 s2 K) : G X 0 0 (wC ad ka F R J P B) 101 [(0, .ref (ad 99)), (1, .int v1), (2, .int v2), (3, .int v3), (5, .int v5), (8, .int v8)] [.int s0, .int s1, .int s2, .ref (ad 199)] := by
  unfold qW_film_101 at h
  refine g_callVi0 C (kS_laidBehind (xL X) (xD X) ka ad _ _ _ _ _ _ _ _ _ h) miX7_laidBehind (gw_of tw3_215 rfl) (by decide) wC_o1 rfl rfl rfl (Nat.le_of_ble_eq_true rfl) z00 dX9_film_101 (fun r1 w hw => ?_)
  obtain ⟨F1, R1, J1, P1, B1, rfl, h⟩ := hw
  refine g_istore C [(7, .int r1), (0, .ref (ad 99)), (1, .int v1), (2, .int v2), (3, .int v3), (5, .int v5), (8, .int v8)] dX9_film_104 (by decide) rfl ?_
  refine g_aload_n C 1 dX9_film_106 rfl ?_
  refine Cg_X9_0_sheets C dX9_film_107 ?_
  refine g_iload_n C 4 dX9_film_110 rfl ?_
  refine Ca_sheets C h.1 dX9_film_111 ?_
  have hj2 := vp_lt h.1
  have h := h.2
  refine g_iload C 5 dX9_film_112 rfl ?_
  refine g_iload C 6 dX9_film_114 rfl ?_
  refine g_iadd C dX9_film_116 ?_
  refine g_iload C 0 dX9_film_117 rfl ?_
  refine g_i2l C dX9_film_119 ?_
  refine g_callVv0 C (kH_put (xL X) (xD X) ka ad v3.toNatClampNeg hj2 _ _ _ _ _ _ _ _ h) miX6_put (gw_of tw4_33 rfl) (by decide) (wC_s v3.toNatClampNeg hj2) rfl rfl rfl (Nat.le_of_ble_eq_true rfl) z00 dX9_film_120 (fun w hw => ?_)
  obtain ⟨F3, R3, J3, P3, B3, rfl, h⟩ := hw
  refine g_iinc C 6 (v8 + (1 : Int32)) [(8, .int (v8 + (1 : Int32))), (7, .int r1), (0, .ref (ad 99)), (1, .int v1), (2, .int v2), (3, .int v3), (5, .int v5)] dX9_film_123 rfl (by rw [ci_1]) (by decide) rfl ?_
  refine g_goto C 72 dX9_film_126 (by decide) ?_
  exact g_lv [2, 3, 4, 5, 6, 1, 0] rfl (hk72 _ _ _ _ _ _ _ _ _ _ _ h)
def qW_film_72 : Nat → FT → RT → JT → PT → BT → Int32 → Int32 → Int32 → Int32 → Int32 → Int32 → (Int32 → FT → RT → JT → PT → BT → Prop) → Prop
  | 0, _, _, _, _, _, _, _, _, _, _, _ => fun _ => False
  | n72 + 1, F, R, J, P, B, v1, v2, v3, v5, v7, v8 => fun K => (v2 ≤ v8 → (K v2 F R J P B)) ∧ (¬ v2 ≤ v8 → ((¬ v8 = 0 → (qW_film_101 (fun F R J P B v1 v2 v3 v5 v7 v8 => qW_film_72 n72 F R J P B v1 v2 v3 v5 v7 v8 K) F R J P B v1 v2 v3 v5 v8 (0 : Int32) v7 v1 K)) ∧ (v8 = 0 → (qS_costToday F R J P B (fun r3 F3 R3 J3 P3 B3 => qW_film_101 (fun F R J P B v1 v2 v3 v5 v7 v8 => qW_film_72 n72 F R J P B v1 v2 v3 v5 v7 v8 K) F3 R3 J3 P3 B3 v1 v2 v3 v5 v8 r3 v7 v1 K)))))
set_option maxHeartbeats 4000000 in
set_option maxRecDepth 100000 in
theorem lW_film_72 {X : XT} {ka : Nat → ClassId} {ad : Nat → Nat} (C : Cx X cX9_film 9 RX9 (some .int) ka 6) {K : Int32 → FT → RT → JT → PT → BT → Prop} (hret : RetI X cX9_film .int 0 0 (fun z w => ∃ F R J P B, w = wC ad ka F R J P B ∧ K z F R J P B)) : ∀ (n : Nat) (F : FT) (R : RT) (J : JT) (P : PT) (B : BT) (v1 : Int32) (v2 : Int32) (v3 : Int32) (v5 : Int32) (v7 : Int32) (v8 : Int32), qW_film_72 n F R J P B v1 v2 v3 v5 v7 v8 K → G X 0 0 (wC ad ka F R J P B) 72 [(0, .ref (ad 99)), (1, .int v1), (2, .int v2), (3, .int v3), (5, .int v5), (7, .int v7), (8, .int v8)] [] := by
  intro n
  induction n with
  | zero => intro F R J P B v1 v2 v3 v5 v7 v8 h; exact h.elim
  | succ n ih =>
    intro F R J P B v1 v2 v3 v5 v7 v8 h
    refine g_iload C 6 dX9_film_72 rfl ?_
    refine g_iload_n C 2 dX9_film_74 rfl ?_
    refine g_icmp_ge C 129 dX9_film_75 (by decide) (fun c1 => ?_) (fun c1 => ?_)
    · have h := h.1 c1
      refine g_iload_n C 2 dX9_film_129 rfl ?_
      exact hret _ _ _ _ ⟨_, _, _, _, _, rfl, h⟩ rfl dX9_film_130
    · have h := h.2 c1
      refine g_aload_n C 0 dX9_film_78 rfl ?_
      refine Cg_X9_0_now C dX9_film_79 ?_
      refine g_iload_n C 1 dX9_film_82 rfl ?_
      refine g_iload C 5 dX9_film_83 rfl ?_
      refine g_iload C 6 dX9_film_85 rfl ?_
      refine g_if_ne C 100 dX9_film_87 (by decide) (fun c2 => ?_) (fun c2 => ?_)
      · have h := h.1 c2
        refine g_iconst C (0 : Int32) dX9_film_100 ci_0 ?_
        exact g_lv [0, 1, 2, 3, 4, 6] rfl (lW_film_101 C hret (fun F R J P B v1 v2 v3 v5 v7 v8 h => ih F R J P B v1 v2 v3 v5 v7 v8 h) _ _ _ _ _ _ _ _ _ _ _ _ _ h)
      · have h := h.2 c2
        refine g_aload_n C 0 dX9_film_90 rfl ?_
        refine Cg_X9_0_now C dX9_film_91 ?_
        refine g_callVi0 C (kS_costToday (xL X) (xD X) ka ad _ _ _ _ _ _ h) miX7_costToday (gw_of tw3_32 rfl) (by decide) wC_o1 rfl rfl rfl (Nat.le_of_ble_eq_true rfl) z00 dX9_film_94 (fun r3 w hw => ?_)
        obtain ⟨F3, R3, J3, P3, B3, rfl, h⟩ := hw
        refine g_goto C 101 dX9_film_97 (by decide) ?_
        exact g_lv [0, 1, 2, 3, 4, 6] rfl (lW_film_101 C hret (fun F R J P B v1 v2 v3 v5 v7 v8 h => ih F R J P B v1 v2 v3 v5 v7 v8 h) _ _ _ _ _ _ _ _ _ _ _ _ _ h)
def qW_film (F : FT) (R : RT) (J : JT) (P : PT) (B : BT) (a1 : Int32) (a2 : Int32) (a3 : Int32) (a4 : Int32) (a5 : Int32) (K : Int32 → FT → RT → JT → PT → BT → Prop) : Prop :=
  qW_within F R J P B a1 (0 : Int32) (2 : Int32) (fun r1 F1 R1 J1 P1 B1 => (r1 = 0 → (K (-1 : Int32) F1 R1 J1 P1 B1)) ∧ (¬ r1 = 0 → (qW_within F1 R1 J1 P1 B1 a2 (1 : Int32) (24 : Int32) (fun r3 F3 R3 J3 P3 B3 => (r3 = 0 → (K (-1 : Int32) F3 R3 J3 P3 B3)) ∧ (¬ r3 = 0 → (qW_isSheet F3 R3 J3 P3 B3 a3 (fun r5 F5 R5 J5 P5 B5 => (r5 = 0 → (K (-1 : Int32) F5 R5 J5 P5 B5)) ∧ (¬ r5 = 0 → (qW_isLane F5 R5 J5 P5 B5 a4 (fun r7 F7 R7 J7 P7 B7 => (¬ r7 = 0 → ((vp_in a3 4) ∧ (qH_find a3.toNatClampNeg F7 R7 J7 P7 B7 a4 a5 a2 (fun r10 F10 R10 J10 P10 B10 => (r10 = 0 → (∃ n72, qW_film_72 n72 F10 R10 J10 P10 B10 a1 a2 a3 a5 (F10 105) (0 : Int32) K)) ∧ (¬ r10 = 0 → (K r10 F10 R10 J10 P10 B10)))))) ∧ (r7 = 0 → (K (-1 : Int32) F7 R7 J7 P7 B7))))))))))))
set_option maxHeartbeats 4000000 in
set_option maxRecDepth 100000 in
theorem bW_film {X : XT} {ka : Nat → ClassId} {ad : Nat → Nat} (C : Cx X cX9_film 9 RX9 (some .int) ka 6) {K : Int32 → FT → RT → JT → PT → BT → Prop} (hret : RetI X cX9_film .int 0 0 (fun z w => ∃ F R J P B, w = wC ad ka F R J P B ∧ K z F R J P B)) (F : FT) (R : RT) (J : JT) (P : PT) (B : BT) (a1 : Int32) (a2 : Int32) (a3 : Int32) (a4 : Int32) (a5 : Int32) (h : qW_film F R J P B a1 a2 a3 a4 a5 K) : G X 0 0 (wC ad ka F R J P B) 0 [(0, .ref (ad 99)), (1, .int a1), (2, .int a2), (3, .int a3), (4, .int a4), (5, .int a5)] [] := by
  unfold qW_film at h
  refine g_iload_n C 1 dX9_film_0 rfl ?_
  refine g_iconst C (0 : Int32) dX9_film_1 ci_0 ?_
  refine g_iconst C (2 : Int32) dX9_film_2 ci_2 ?_
  refine g_callSi0 C (kW_within (xL X) (xD X) ka ad _ _ _ _ _ _ _ _ _ h) siX9_within (gw_of tw2_32 rfl) (by decide) rfl rfl (Nat.le_of_ble_eq_true rfl) z00 dX9_film_3 (fun r1 w hw => ?_)
  obtain ⟨F1, R1, J1, P1, B1, rfl, h⟩ := hw
  refine g_if_eq C 34 dX9_film_6 (by decide) (fun c2 => ?_) (fun c2 => ?_)
  · have h := h.1 c2
    refine g_iconst C (-1 : Int32) dX9_film_34 ci_m1 ?_
    exact hret _ _ _ _ ⟨_, _, _, _, _, rfl, h⟩ rfl dX9_film_35
  · have h := h.2 c2
    refine g_iload_n C 2 dX9_film_9 rfl ?_
    refine g_iconst C (1 : Int32) dX9_film_10 ci_1 ?_
    refine g_bipush C (24 : Int32) dX9_film_11 cb_24 ?_
    refine g_callSi0 C (kW_within (xL X) (xD X) ka ad _ _ _ _ _ _ _ _ _ h) siX9_within (gw_of tw2_32 rfl) (by decide) rfl rfl (Nat.le_of_ble_eq_true rfl) z00 dX9_film_13 (fun r3 w hw => ?_)
    obtain ⟨F3, R3, J3, P3, B3, rfl, h⟩ := hw
    refine g_if_eq C 34 dX9_film_16 (by decide) (fun c4 => ?_) (fun c4 => ?_)
    · have h := h.1 c4
      refine g_iconst C (-1 : Int32) dX9_film_34 ci_m1 ?_
      exact hret _ _ _ _ ⟨_, _, _, _, _, rfl, h⟩ rfl dX9_film_35
    · have h := h.2 c4
      refine g_iload_n C 3 dX9_film_19 rfl ?_
      refine g_callSi0 C (kW_isSheet (xL X) (xD X) ka ad _ _ _ _ _ _ _ h) siX9_isSheet (gw_of tw4_7 rfl) (by decide) rfl rfl (Nat.le_of_ble_eq_true rfl) z00 dX9_film_20 (fun r5 w hw => ?_)
      obtain ⟨F5, R5, J5, P5, B5, rfl, h⟩ := hw
      refine g_if_eq C 34 dX9_film_23 (by decide) (fun c6 => ?_) (fun c6 => ?_)
      · have h := h.1 c6
        refine g_iconst C (-1 : Int32) dX9_film_34 ci_m1 ?_
        exact hret _ _ _ _ ⟨_, _, _, _, _, rfl, h⟩ rfl dX9_film_35
      · have h := h.2 c6
        refine g_iload C 4 dX9_film_26 rfl ?_
        refine g_callSi0 C (kW_isLane (xL X) (xD X) ka ad _ _ _ _ _ _ _ h) siX9_isLane (gw_of tw4_10 rfl) (by decide) rfl rfl (Nat.le_of_ble_eq_true rfl) z00 dX9_film_28 (fun r7 w hw => ?_)
        obtain ⟨F7, R7, J7, P7, B7, rfl, h⟩ := hw
        refine g_if_ne C 36 dX9_film_31 (by decide) (fun c8 => ?_) (fun c8 => ?_)
        · have h := h.1 c8
          refine g_aload_n C 0 dX9_film_36 rfl ?_
          refine Cg_X9_0_sheets C dX9_film_37 ?_
          refine g_iload_n C 3 dX9_film_40 rfl ?_
          refine Ca_sheets C h.1 dX9_film_41 ?_
          have hj9 := vp_lt h.1
          have h := h.2
          refine g_iload C 4 dX9_film_42 rfl ?_
          refine g_iload C 5 dX9_film_44 rfl ?_
          refine g_iload_n C 2 dX9_film_46 rfl ?_
          refine g_callVi0 C (kH_find (xL X) (xD X) ka ad a3.toNatClampNeg hj9 _ _ _ _ _ _ _ _ _ h) miX6_find (gw_of tw4_13 rfl) (by decide) (wC_s a3.toNatClampNeg hj9) rfl rfl rfl (Nat.le_of_ble_eq_true rfl) z00 dX9_film_47 (fun r10 w hw => ?_)
          obtain ⟨F10, R10, J10, P10, B10, rfl, h⟩ := hw
          refine g_istore C [(6, .int r10), (0, .ref (ad 99)), (1, .int a1), (2, .int a2), (3, .int a3), (4, .int a4), (5, .int a5)] dX9_film_50 (by decide) rfl ?_
          refine g_iload C 0 dX9_film_52 rfl ?_
          refine g_if_eq C 60 dX9_film_54 (by decide) (fun c11 => ?_) (fun c11 => ?_)
          · have h := h.1 c11
            refine g_aload_n C 1 dX9_film_60 rfl ?_
            refine Cg_X9_0_now C dX9_film_61 ?_
            refine Cg_X9_1_laid C (v := F10 105) rfl dX9_film_64 ?_
            refine g_istore C [(7, .int (F10 105)), (6, .int r10), (0, .ref (ad 99)), (1, .int a1), (2, .int a2), (3, .int a3), (4, .int a4), (5, .int a5)] dX9_film_67 (by decide) rfl ?_
            refine g_iconst C (0 : Int32) dX9_film_69 ci_0 ?_
            refine g_istore C [(8, .int (0 : Int32)), (7, .int (F10 105)), (6, .int r10), (0, .ref (ad 99)), (1, .int a1), (2, .int a2), (3, .int a3), (4, .int a4), (5, .int a5)] dX9_film_70 (by decide) rfl ?_
            obtain ⟨n1, h⟩ := h
            exact g_lv [3, 4, 5, 6, 8, 1, 0] rfl (lW_film_72 C hret n1 _ _ _ _ _ _ _ _ _ _ _ h)
          · have h := h.2 c11
            refine g_iload C 0 dX9_film_57 rfl ?_
            exact hret _ _ _ _ ⟨_, _, _, _, _, rfl, h⟩ rfl dX9_film_59
        · have h := h.2 c8
          refine g_iconst C (-1 : Int32) dX9_film_34 ci_m1 ?_
          exact hret _ _ _ _ ⟨_, _, _, _, _, rfl, h⟩ rfl dX9_film_35
set_option maxHeartbeats 4000000 in
set_option maxRecDepth 100000 in
theorem kW_film (l : Launch) (D : va_G) (ka : Nat → ClassId) (ad : Nat → Nat) (F : FT) (R : RT) (J : JT) (P : PT) (B : BT) (a1 : Int32) (a2 : Int32) (a3 : Int32) (a4 : Int32) (a5 : Int32) (K : Int32 → FT → RT → JT → PT → BT → Prop) (h : qW_film F R J P B a1 a2 a3 a4 a5 K) : MI l D ka yX9_film cX9_film 9 (some .int) 6 0 0 [.ref (ad 99), .int a1, .int a2, .int a3, .int a4, .int a5] (wC ad ka F R J P B) (fun z w => ∃ F R J P B, w = wC ad ka F R J P B ∧ K z F R J P B) := MI_of (by decide) (Nat.le_of_ble_eq_true rfl) (fun X C hroom hret => bW_film C hret F R J P B a1 a2 a3 a4 a5 h)
set_option maxHeartbeats 4000000 in
set_option maxRecDepth 100000 in
theorem miX9_film : MInf yX9_film cX9_film 9 (some .int) 5 := ⟨(gw_of tw4_30 rfl), (gw_of tw4_31 rfl), (gw_of tw1_1 rfl), (gw_of tw4_32 rfl), by decide +kernel, by decide⟩

def qW_sheet (F : FT) (R : RT) (J : JT) (P : PT) (B : BT) (a1 : Int32) (a2 : Int32) (a3 : Int32) (K : Int32 → FT → RT → JT → PT → BT → Prop) : Prop :=
  qW_isSheet F R J P B a1 (fun r1 F1 R1 J1 P1 B1 => (r1 = 0 → (K (-1 : Int32) F1 R1 J1 P1 B1)) ∧ (¬ r1 = 0 → (qW_isLane F1 R1 J1 P1 B1 a2 (fun r3 F3 R3 J3 P3 B3 => (r3 = 0 → (K (-1 : Int32) F3 R3 J3 P3 B3)) ∧ (¬ r3 = 0 → ((a3 ≤ (24 : Int32) → ((0 ≤ a3 → ((vp_in a1 4) ∧ (qH_renew a1.toNatClampNeg F3 R3 J3 P3 B3 a2 a3 (fun F8 R8 J8 P8 B8 => K a3 F8 R8 J8 P8 B8)))) ∧ (¬ 0 ≤ a3 → (K (-14 : Int32) F3 R3 J3 P3 B3)))) ∧ (¬ a3 ≤ (24 : Int32) → (K (-1 : Int32) F3 R3 J3 P3 B3))))))))
set_option maxHeartbeats 4000000 in
set_option maxRecDepth 100000 in
theorem bW_sheet {X : XT} {ka : Nat → ClassId} {ad : Nat → Nat} (C : Cx X cX9_sheet 4 RX9 (some .int) ka 3) {K : Int32 → FT → RT → JT → PT → BT → Prop} (hret : RetI X cX9_sheet .int 0 0 (fun z w => ∃ F R J P B, w = wC ad ka F R J P B ∧ K z F R J P B)) (F : FT) (R : RT) (J : JT) (P : PT) (B : BT) (a1 : Int32) (a2 : Int32) (a3 : Int32) (h : qW_sheet F R J P B a1 a2 a3 K) : G X 0 0 (wC ad ka F R J P B) 0 [(0, .ref (ad 99)), (1, .int a1), (2, .int a2), (3, .int a3)] [] := by
  unfold qW_sheet at h
  refine g_iload_n C 1 dX9_sheet_0 rfl ?_
  refine g_callSi0 C (kW_isSheet (xL X) (xD X) ka ad _ _ _ _ _ _ _ h) siX9_isSheet (gw_of tw4_7 rfl) (by decide) rfl rfl (Nat.le_of_ble_eq_true rfl) z00 dX9_sheet_1 (fun r1 w hw => ?_)
  obtain ⟨F1, R1, J1, P1, B1, rfl, h⟩ := hw
  refine g_if_eq C 20 dX9_sheet_4 (by decide) (fun c2 => ?_) (fun c2 => ?_)
  · have h := h.1 c2
    refine g_iconst C (-1 : Int32) dX9_sheet_20 ci_m1 ?_
    exact hret _ _ _ _ ⟨_, _, _, _, _, rfl, h⟩ rfl dX9_sheet_21
  · have h := h.2 c2
    refine g_iload_n C 2 dX9_sheet_7 rfl ?_
    refine g_callSi0 C (kW_isLane (xL X) (xD X) ka ad _ _ _ _ _ _ _ h) siX9_isLane (gw_of tw4_10 rfl) (by decide) rfl rfl (Nat.le_of_ble_eq_true rfl) z00 dX9_sheet_8 (fun r3 w hw => ?_)
    obtain ⟨F3, R3, J3, P3, B3, rfl, h⟩ := hw
    refine g_if_eq C 20 dX9_sheet_11 (by decide) (fun c4 => ?_) (fun c4 => ?_)
    · have h := h.1 c4
      refine g_iconst C (-1 : Int32) dX9_sheet_20 ci_m1 ?_
      exact hret _ _ _ _ ⟨_, _, _, _, _, rfl, h⟩ rfl dX9_sheet_21
    · have h := h.2 c4
      refine g_iload_n C 3 dX9_sheet_14 rfl ?_
      refine g_bipush C (24 : Int32) dX9_sheet_15 cb_24 ?_
      refine g_icmp_le C 22 dX9_sheet_17 (by decide) (fun c5 => ?_) (fun c5 => ?_)
      · have h := h.1 c5
        refine g_iload_n C 3 dX9_sheet_22 rfl ?_
        refine g_if_ge C 29 dX9_sheet_23 (by decide) (fun c6 => ?_) (fun c6 => ?_)
        · have h := h.1 c6
          refine g_aload_n C 0 dX9_sheet_29 rfl ?_
          refine Cg_X9_0_sheets C dX9_sheet_30 ?_
          refine g_iload_n C 1 dX9_sheet_33 rfl ?_
          refine Ca_sheets C h.1 dX9_sheet_34 ?_
          have hj7 := vp_lt h.1
          have h := h.2
          refine g_iload_n C 2 dX9_sheet_35 rfl ?_
          refine g_iload_n C 3 dX9_sheet_36 rfl ?_
          refine g_callVv0 C (kH_renew (xL X) (xD X) ka ad a1.toNatClampNeg hj7 _ _ _ _ _ _ _ _ h) miX6_renew (gw_of tw4_46 rfl) (by decide) (wC_s a1.toNatClampNeg hj7) rfl rfl rfl (Nat.le_of_ble_eq_true rfl) z00 dX9_sheet_37 (fun w hw => ?_)
          obtain ⟨F8, R8, J8, P8, B8, rfl, h⟩ := hw
          refine g_iload_n C 3 dX9_sheet_40 rfl ?_
          exact hret _ _ _ _ ⟨_, _, _, _, _, rfl, h⟩ rfl dX9_sheet_41
        · have h := h.2 c6
          refine g_bipush C (-14 : Int32) dX9_sheet_26 cb_m14 ?_
          exact hret _ _ _ _ ⟨_, _, _, _, _, rfl, h⟩ rfl dX9_sheet_28
      · have h := h.2 c5
        refine g_iconst C (-1 : Int32) dX9_sheet_20 ci_m1 ?_
        exact hret _ _ _ _ ⟨_, _, _, _, _, rfl, h⟩ rfl dX9_sheet_21
set_option maxHeartbeats 4000000 in
set_option maxRecDepth 100000 in
theorem kW_sheet (l : Launch) (D : va_G) (ka : Nat → ClassId) (ad : Nat → Nat) (F : FT) (R : RT) (J : JT) (P : PT) (B : BT) (a1 : Int32) (a2 : Int32) (a3 : Int32) (K : Int32 → FT → RT → JT → PT → BT → Prop) (h : qW_sheet F R J P B a1 a2 a3 K) : MI l D ka yX9_sheet cX9_sheet 4 (some .int) 3 0 0 [.ref (ad 99), .int a1, .int a2, .int a3] (wC ad ka F R J P B) (fun z w => ∃ F R J P B, w = wC ad ka F R J P B ∧ K z F R J P B) := MI_of (by decide) (Nat.le_of_ble_eq_true rfl) (fun X C hroom hret => bW_sheet C hret F R J P B a1 a2 a3 h)
set_option maxHeartbeats 4000000 in
set_option maxRecDepth 100000 in
theorem miX9_sheet : MInf yX9_sheet cX9_sheet 4 (some .int) 3 := ⟨(gw_of tw4_43 rfl), (gw_of tw4_44 rfl), (gw_of tw1_1 rfl), (gw_of tw4_45 rfl), by decide +kernel, by decide⟩

def qW_drop (F : FT) (R : RT) (J : JT) (P : PT) (B : BT) (a1 : Int32) (K : Int32 → FT → RT → JT → PT → BT → Prop) : Prop :=
  qW_isSheet F R J P B a1 (fun r1 F1 R1 J1 P1 B1 => (¬ r1 = 0 → ((vp_in a1 4) ∧ ((¬ (F1 (500 + 100 * a1.toNatClampNeg)) = 0 → ((vp_in a1 4) ∧ ((vp_in a1 4) ∧ (K ((upd F1 (500 + 100 * a1.toNatClampNeg) (0 : Int32)) (502 + 100 * a1.toNatClampNeg)) (upd F1 (500 + 100 * a1.toNatClampNeg) (0 : Int32)) R1 J1 P1 B1)))) ∧ ((F1 (500 + 100 * a1.toNatClampNeg)) = 0 → (K (-11 : Int32) F1 R1 J1 P1 B1))))) ∧ (r1 = 0 → (K (-1 : Int32) F1 R1 J1 P1 B1)))
set_option maxHeartbeats 4000000 in
set_option maxRecDepth 100000 in
theorem bW_drop {X : XT} {ka : Nat → ClassId} {ad : Nat → Nat} (C : Cx X cX9_drop 2 RX9 (some .int) ka 3) {K : Int32 → FT → RT → JT → PT → BT → Prop} (hret : RetI X cX9_drop .int 0 0 (fun z w => ∃ F R J P B, w = wC ad ka F R J P B ∧ K z F R J P B)) (F : FT) (R : RT) (J : JT) (P : PT) (B : BT) (a1 : Int32) (h : qW_drop F R J P B a1 K) : G X 0 0 (wC ad ka F R J P B) 0 [(0, .ref (ad 99)), (1, .int a1)] [] := by
  unfold qW_drop at h
  refine g_iload_n C 1 dX9_drop_0 rfl ?_
  refine g_callSi0 C (kW_isSheet (xL X) (xD X) ka ad _ _ _ _ _ _ _ h) siX9_isSheet (gw_of tw4_7 rfl) (by decide) rfl rfl (Nat.le_of_ble_eq_true rfl) z00 dX9_drop_1 (fun r1 w hw => ?_)
  obtain ⟨F1, R1, J1, P1, B1, rfl, h⟩ := hw
  refine g_if_ne C 9 dX9_drop_4 (by decide) (fun c2 => ?_) (fun c2 => ?_)
  · have h := h.1 c2
    refine g_aload_n C 0 dX9_drop_9 rfl ?_
    refine Cg_X9_0_sheets C dX9_drop_10 ?_
    refine g_iload_n C 1 dX9_drop_13 rfl ?_
    refine Ca_sheets C h.1 dX9_drop_14 ?_
    have hj3 := vp_lt h.1
    have h := h.2
    refine Sg_X9_held C a1.toNatClampNeg hj3 (v := F1 (500 + 100 * a1.toNatClampNeg)) rfl dX9_drop_15 ?_
    refine g_if_ne C 24 dX9_drop_18 (by decide) (fun c4 => ?_) (fun c4 => ?_)
    · have h := h.1 c4
      refine g_aload_n C 0 dX9_drop_24 rfl ?_
      refine Cg_X9_0_sheets C dX9_drop_25 ?_
      refine g_iload_n C 1 dX9_drop_28 rfl ?_
      refine Ca_sheets C h.1 dX9_drop_29 ?_
      have hj5 := vp_lt h.1
      have h := h.2
      refine g_iconst C (0 : Int32) dX9_drop_30 ci_0 ?_
      refine Sp_X9_held C a1.toNatClampNeg hj5 isB_0 dX9_drop_31 ?_
      refine g_aload_n C 0 dX9_drop_34 rfl ?_
      refine Cg_X9_0_sheets C dX9_drop_35 ?_
      refine g_iload_n C 1 dX9_drop_38 rfl ?_
      refine Ca_sheets C h.1 dX9_drop_39 ?_
      have hj6 := vp_lt h.1
      have h := h.2
      refine Sg_X9_size (F := (upd F1 (500 + 100 * a1.toNatClampNeg) (0 : Int32))) C a1.toNatClampNeg hj6 (v := (upd F1 (500 + 100 * a1.toNatClampNeg) (0 : Int32)) (502 + 100 * a1.toNatClampNeg)) rfl dX9_drop_40 ?_
      exact hret _ _ _ _ ⟨_, _, _, _, _, rfl, h⟩ rfl dX9_drop_43
    · have h := h.2 c4
      refine g_bipush C (-11 : Int32) dX9_drop_21 cb_m11 ?_
      exact hret _ _ _ _ ⟨_, _, _, _, _, rfl, h⟩ rfl dX9_drop_23
  · have h := h.2 c2
    refine g_iconst C (-1 : Int32) dX9_drop_7 ci_m1 ?_
    exact hret _ _ _ _ ⟨_, _, _, _, _, rfl, h⟩ rfl dX9_drop_8
set_option maxHeartbeats 4000000 in
set_option maxRecDepth 100000 in
theorem kW_drop (l : Launch) (D : va_G) (ka : Nat → ClassId) (ad : Nat → Nat) (F : FT) (R : RT) (J : JT) (P : PT) (B : BT) (a1 : Int32) (K : Int32 → FT → RT → JT → PT → BT → Prop) (h : qW_drop F R J P B a1 K) : MI l D ka yX9_drop cX9_drop 2 (some .int) 3 0 0 [.ref (ad 99), .int a1] (wC ad ka F R J P B) (fun z w => ∃ F R J P B, w = wC ad ka F R J P B ∧ K z F R J P B) := MI_of (by decide) (Nat.le_of_ble_eq_true rfl) (fun X C hroom hret => bW_drop C hret F R J P B a1 h)
set_option maxHeartbeats 4000000 in
set_option maxRecDepth 100000 in
theorem miX9_drop : MInf yX9_drop cX9_drop 2 (some .int) 1 := ⟨(gw_of tw4_51 rfl), (gw_of tw4_52 rfl), (gw_of tw1_1 rfl), (gw_of tw4_53 rfl), by decide +kernel, by decide⟩

def qW_item (F : FT) (R : RT) (J : JT) (P : PT) (B : BT) (a1 : Int32) (a2 : Int32) (a3 : Int32) (a4 : Int64) (K : Int32 → FT → RT → JT → PT → BT → Prop) : Prop :=
  qW_isSheet F R J P B a1 (fun r1 F1 R1 J1 P1 B1 => (r1 = 0 → (K (-1 : Int32) F1 R1 J1 P1 B1)) ∧ (¬ r1 = 0 → (qW_isLane F1 R1 J1 P1 B1 a2 (fun r3 F3 R3 J3 P3 B3 => (¬ r3 = 0 → ((vp_in a1 4) ∧ (qH_find a1.toNatClampNeg F3 R3 J3 P3 B3 a2 a3 (1 : Int32) (fun r6 F6 R6 J6 P6 B6 => (r6 = 0 → ((vp_in a1 4) ∧ (qH_put a1.toNatClampNeg F6 R6 J6 P6 B6 a3 a4 (fun F9 R9 J9 P9 B9 => K (1 : Int32) F9 R9 J9 P9 B9)))) ∧ (¬ r6 = 0 → (K r6 F6 R6 J6 P6 B6)))))) ∧ (r3 = 0 → (K (-1 : Int32) F3 R3 J3 P3 B3))))))
set_option maxHeartbeats 4000000 in
set_option maxRecDepth 100000 in
theorem bW_item {X : XT} {ka : Nat → ClassId} {ad : Nat → Nat} (C : Cx X cX9_item 7 RX9 (some .int) ka 3) {K : Int32 → FT → RT → JT → PT → BT → Prop} (hret : RetI X cX9_item .int 0 0 (fun z w => ∃ F R J P B, w = wC ad ka F R J P B ∧ K z F R J P B)) (F : FT) (R : RT) (J : JT) (P : PT) (B : BT) (a1 : Int32) (a2 : Int32) (a3 : Int32) (a4 : Int64) (h : qW_item F R J P B a1 a2 a3 a4 K) : G X 0 0 (wC ad ka F R J P B) 0 [(0, .ref (ad 99)), (1, .int a1), (2, .int a2), (3, .int a3), (4, .long a4)] [] := by
  unfold qW_item at h
  refine g_iload_n C 1 dX9_item_0 rfl ?_
  refine g_callSi0 C (kW_isSheet (xL X) (xD X) ka ad _ _ _ _ _ _ _ h) siX9_isSheet (gw_of tw4_7 rfl) (by decide) rfl rfl (Nat.le_of_ble_eq_true rfl) z00 dX9_item_1 (fun r1 w hw => ?_)
  obtain ⟨F1, R1, J1, P1, B1, rfl, h⟩ := hw
  refine g_if_eq C 14 dX9_item_4 (by decide) (fun c2 => ?_) (fun c2 => ?_)
  · have h := h.1 c2
    refine g_iconst C (-1 : Int32) dX9_item_14 ci_m1 ?_
    exact hret _ _ _ _ ⟨_, _, _, _, _, rfl, h⟩ rfl dX9_item_15
  · have h := h.2 c2
    refine g_iload_n C 2 dX9_item_7 rfl ?_
    refine g_callSi0 C (kW_isLane (xL X) (xD X) ka ad _ _ _ _ _ _ _ h) siX9_isLane (gw_of tw4_10 rfl) (by decide) rfl rfl (Nat.le_of_ble_eq_true rfl) z00 dX9_item_8 (fun r3 w hw => ?_)
    obtain ⟨F3, R3, J3, P3, B3, rfl, h⟩ := hw
    refine g_if_ne C 16 dX9_item_11 (by decide) (fun c4 => ?_) (fun c4 => ?_)
    · have h := h.1 c4
      refine g_aload_n C 0 dX9_item_16 rfl ?_
      refine Cg_X9_0_sheets C dX9_item_17 ?_
      refine g_iload_n C 1 dX9_item_20 rfl ?_
      refine Ca_sheets C h.1 dX9_item_21 ?_
      have hj5 := vp_lt h.1
      have h := h.2
      refine g_iload_n C 2 dX9_item_22 rfl ?_
      refine g_iload_n C 3 dX9_item_23 rfl ?_
      refine g_iconst C (1 : Int32) dX9_item_24 ci_1 ?_
      refine g_callVi0 C (kH_find (xL X) (xD X) ka ad a1.toNatClampNeg hj5 _ _ _ _ _ _ _ _ _ h) miX6_find (gw_of tw4_13 rfl) (by decide) (wC_s a1.toNatClampNeg hj5) rfl rfl rfl (Nat.le_of_ble_eq_true rfl) z00 dX9_item_25 (fun r6 w hw => ?_)
      obtain ⟨F6, R6, J6, P6, B6, rfl, h⟩ := hw
      refine g_istore C [(6, .int r6), (0, .ref (ad 99)), (1, .int a1), (2, .int a2), (3, .int a3), (4, .long a4)] dX9_item_28 (by decide) rfl ?_
      refine g_iload C 0 dX9_item_30 rfl ?_
      refine g_if_eq C 38 dX9_item_32 (by decide) (fun c7 => ?_) (fun c7 => ?_)
      · have h := h.1 c7
        refine g_aload_n C 1 dX9_item_38 rfl ?_
        refine Cg_X9_0_sheets C dX9_item_39 ?_
        refine g_iload_n C 2 dX9_item_42 rfl ?_
        refine Ca_sheets C h.1 dX9_item_43 ?_
        have hj8 := vp_lt h.1
        have h := h.2
        refine g_iload_n C 4 dX9_item_44 rfl ?_
        refine g_lload C 5 dX9_item_45 rfl ?_
        refine g_callVv0 C (kH_put (xL X) (xD X) ka ad a1.toNatClampNeg hj8 _ _ _ _ _ _ _ _ h) miX6_put (gw_of tw4_33 rfl) (by decide) (wC_s a1.toNatClampNeg hj8) rfl rfl rfl (Nat.le_of_ble_eq_true rfl) z00 dX9_item_47 (fun w hw => ?_)
        obtain ⟨F9, R9, J9, P9, B9, rfl, h⟩ := hw
        refine g_iconst C (1 : Int32) dX9_item_50 ci_1 ?_
        exact hret _ _ _ _ ⟨_, _, _, _, _, rfl, h⟩ rfl dX9_item_51
      · have h := h.2 c7
        refine g_iload C 0 dX9_item_35 rfl ?_
        exact hret _ _ _ _ ⟨_, _, _, _, _, rfl, h⟩ rfl dX9_item_37
    · have h := h.2 c4
      refine g_iconst C (-1 : Int32) dX9_item_14 ci_m1 ?_
      exact hret _ _ _ _ ⟨_, _, _, _, _, rfl, h⟩ rfl dX9_item_15
set_option maxHeartbeats 4000000 in
set_option maxRecDepth 100000 in
theorem kW_item (l : Launch) (D : va_G) (ka : Nat → ClassId) (ad : Nat → Nat) (F : FT) (R : RT) (J : JT) (P : PT) (B : BT) (a1 : Int32) (a2 : Int32) (a3 : Int32) (a4 : Int64) (K : Int32 → FT → RT → JT → PT → BT → Prop) (h : qW_item F R J P B a1 a2 a3 a4 K) : MI l D ka yX9_item cX9_item 7 (some .int) 3 0 0 [.ref (ad 99), .int a1, .int a2, .int a3, .long a4] (wC ad ka F R J P B) (fun z w => ∃ F R J P B, w = wC ad ka F R J P B ∧ K z F R J P B) := MI_of (by decide) (Nat.le_of_ble_eq_true rfl) (fun X C hroom hret => bW_item C hret F R J P B a1 a2 a3 a4 h)
set_option maxHeartbeats 4000000 in
set_option maxRecDepth 100000 in
theorem miX9_item : MInf yX9_item cX9_item 7 (some .int) 4 := ⟨(gw_of tw4_55 rfl), (gw_of tw4_56 rfl), (gw_of tw1_1 rfl), (gw_of tw4_57 rfl), by decide +kernel, by decide⟩

def qW_copy (F : FT) (R : RT) (J : JT) (P : PT) (B : BT) (a1 : Int32) (a2 : Int32) (a3 : Int32) (a4 : Int32) (a5 : Int32) (K : Int32 → FT → RT → JT → PT → BT → Prop) : Prop :=
  qW_isSheet F R J P B a1 (fun r1 F1 R1 J1 P1 B1 => (r1 = 0 → (K (-1 : Int32) F1 R1 J1 P1 B1)) ∧ (¬ r1 = 0 → (qW_isSheet F1 R1 J1 P1 B1 a3 (fun r3 F3 R3 J3 P3 B3 => (¬ r3 = 0 → ((vp_in a1 4) ∧ ((vp_in a3 4) ∧ (((F3 (500 + 100 * a1.toNatClampNeg)) = 0 → (K (-11 : Int32) F3 R3 J3 P3 B3)) ∧ (¬ (F3 (500 + 100 * a1.toNatClampNeg)) = 0 → ((¬ (F3 (500 + 100 * a3.toNatClampNeg)) = 0 → (((F3 (501 + 100 * a1.toNatClampNeg)) = (F3 (501 + 100 * a3.toNatClampNeg)) → (qH_has a1.toNatClampNeg F3 R3 J3 P3 B3 a2 a5 (fun r10 F10 R10 J10 P10 B10 => (r10 = 0 → (K (-13 : Int32) F10 R10 J10 P10 B10)) ∧ (¬ r10 = 0 → (qH_has a3.toNatClampNeg F10 R10 J10 P10 B10 a4 a5 (fun r12 F12 R12 J12 P12 B12 => (¬ r12 = 0 → ((¬ a2 < 0) ∧ (¬ a4 < 0) ∧ (¬ a5 < 0) ∧ (a2.toNatClampNeg + a5.toNatClampNeg ≤ 24) ∧ (a4.toNatClampNeg + a5.toNatClampNeg ≤ 24) ∧ (K a5 F12 R12 (va_up J12 (503 + 100 * a3.toNatClampNeg) (va_cpy (J12 (503 + 100 * a1.toNatClampNeg)) (J12 (503 + 100 * a3.toNatClampNeg)) a2.toNatClampNeg a4.toNatClampNeg a5.toNatClampNeg)) P12 B12))) ∧ (r12 = 0 → (K (-13 : Int32) F12 R12 J12 P12 B12)))))))) ∧ (¬ (F3 (501 + 100 * a1.toNatClampNeg)) = (F3 (501 + 100 * a3.toNatClampNeg)) → (K (-12 : Int32) F3 R3 J3 P3 B3)))) ∧ ((F3 (500 + 100 * a3.toNatClampNeg)) = 0 → (K (-11 : Int32) F3 R3 J3 P3 B3)))))))) ∧ (r3 = 0 → (K (-1 : Int32) F3 R3 J3 P3 B3))))))
set_option maxHeartbeats 4000000 in
set_option maxRecDepth 100000 in
theorem bW_copy {X : XT} {ka : Nat → ClassId} {ad : Nat → Nat} (C : Cx X cX9_copy 8 RX9 (some .int) ka 3) {K : Int32 → FT → RT → JT → PT → BT → Prop} (hret : RetI X cX9_copy .int 0 0 (fun z w => ∃ F R J P B, w = wC ad ka F R J P B ∧ K z F R J P B)) (F : FT) (R : RT) (J : JT) (P : PT) (B : BT) (a1 : Int32) (a2 : Int32) (a3 : Int32) (a4 : Int32) (a5 : Int32) (h : qW_copy F R J P B a1 a2 a3 a4 a5 K) : G X 0 0 (wC ad ka F R J P B) 0 [(0, .ref (ad 99)), (1, .int a1), (2, .int a2), (3, .int a3), (4, .int a4), (5, .int a5)] [] := by
  unfold qW_copy at h
  refine g_iload_n C 1 dX9_copy_0 rfl ?_
  refine g_callSi0 C (kW_isSheet (xL X) (xD X) ka ad _ _ _ _ _ _ _ h) siX9_isSheet (gw_of tw4_7 rfl) (by decide) rfl rfl (Nat.le_of_ble_eq_true rfl) z00 dX9_copy_1 (fun r1 w hw => ?_)
  obtain ⟨F1, R1, J1, P1, B1, rfl, h⟩ := hw
  refine g_if_eq C 14 dX9_copy_4 (by decide) (fun c2 => ?_) (fun c2 => ?_)
  · have h := h.1 c2
    refine g_iconst C (-1 : Int32) dX9_copy_14 ci_m1 ?_
    exact hret _ _ _ _ ⟨_, _, _, _, _, rfl, h⟩ rfl dX9_copy_15
  · have h := h.2 c2
    refine g_iload_n C 3 dX9_copy_7 rfl ?_
    refine g_callSi0 C (kW_isSheet (xL X) (xD X) ka ad _ _ _ _ _ _ _ h) siX9_isSheet (gw_of tw4_7 rfl) (by decide) rfl rfl (Nat.le_of_ble_eq_true rfl) z00 dX9_copy_8 (fun r3 w hw => ?_)
    obtain ⟨F3, R3, J3, P3, B3, rfl, h⟩ := hw
    refine g_if_ne C 16 dX9_copy_11 (by decide) (fun c4 => ?_) (fun c4 => ?_)
    · have h := h.1 c4
      refine g_aload_n C 0 dX9_copy_16 rfl ?_
      refine Cg_X9_0_sheets C dX9_copy_17 ?_
      refine g_iload_n C 1 dX9_copy_20 rfl ?_
      refine Ca_sheets C h.1 dX9_copy_21 ?_
      have hj5 := vp_lt h.1
      have h := h.2
      refine g_astore C [(6, .ref (ad (599 + 100 * a1.toNatClampNeg))), (0, .ref (ad 99)), (1, .int a1), (2, .int a2), (3, .int a3), (4, .int a4), (5, .int a5)] dX9_copy_22 (by decide) rfl ?_
      refine g_aload_n C 1 dX9_copy_24 rfl ?_
      refine Cg_X9_0_sheets C dX9_copy_25 ?_
      refine g_iload_n C 4 dX9_copy_28 rfl ?_
      refine Ca_sheets C h.1 dX9_copy_29 ?_
      have hj6 := vp_lt h.1
      have h := h.2
      refine g_astore C [(7, .ref (ad (599 + 100 * a3.toNatClampNeg))), (6, .ref (ad (599 + 100 * a1.toNatClampNeg))), (0, .ref (ad 99)), (1, .int a1), (2, .int a2), (3, .int a3), (4, .int a4), (5, .int a5)] dX9_copy_30 (by decide) rfl ?_
      refine g_aload C 1 dX9_copy_32 rfl ?_
      refine Sg_X9_held C a1.toNatClampNeg hj5 (v := F3 (500 + 100 * a1.toNatClampNeg)) rfl dX9_copy_34 ?_
      refine g_if_eq C 48 dX9_copy_37 (by decide) (fun c7 => ?_) (fun c7 => ?_)
      · have h := h.1 c7
        refine g_bipush C (-11 : Int32) dX9_copy_48 cb_m11 ?_
        exact hret _ _ _ _ ⟨_, _, _, _, _, rfl, h⟩ rfl dX9_copy_50
      · have h := h.2 c7
        refine g_aload C 0 dX9_copy_40 rfl ?_
        refine Sg_X9_held C a3.toNatClampNeg hj6 (v := F3 (500 + 100 * a3.toNatClampNeg)) rfl dX9_copy_42 ?_
        refine g_if_ne C 51 dX9_copy_45 (by decide) (fun c8 => ?_) (fun c8 => ?_)
        · have h := h.1 c8
          refine g_aload C 1 dX9_copy_51 rfl ?_
          refine Sg_X9_lane C a1.toNatClampNeg hj5 (v := F3 (501 + 100 * a1.toNatClampNeg)) rfl dX9_copy_53 ?_
          refine g_aload C 0 dX9_copy_56 rfl ?_
          refine Sg_X9_lane C a3.toNatClampNeg hj6 (v := F3 (501 + 100 * a3.toNatClampNeg)) rfl dX9_copy_58 ?_
          refine g_icmp_eq C 67 dX9_copy_61 (by decide) (fun c9 => ?_) (fun c9 => ?_)
          · have h := h.1 c9
            refine g_aload C 1 dX9_copy_67 rfl ?_
            refine g_iload_n C 4 dX9_copy_69 rfl ?_
            refine g_iload C 7 dX9_copy_70 rfl ?_
            refine g_callVi0 C (kH_has (xL X) (xD X) ka ad a1.toNatClampNeg hj5 _ _ _ _ _ _ _ _ h) miX6_has (gw_of tw4_62 rfl) (by decide) (wC_s a1.toNatClampNeg hj5) rfl rfl rfl (Nat.le_of_ble_eq_true rfl) z00 dX9_copy_72 (fun r10 w hw => ?_)
            obtain ⟨F10, R10, J10, P10, B10, rfl, h⟩ := hw
            refine g_if_eq C 90 dX9_copy_75 (by decide) (fun c11 => ?_) (fun c11 => ?_)
            · have h := h.1 c11
              refine g_bipush C (-13 : Int32) dX9_copy_90 cb_m13 ?_
              exact hret _ _ _ _ ⟨_, _, _, _, _, rfl, h⟩ rfl dX9_copy_92
            · have h := h.2 c11
              refine g_aload C 0 dX9_copy_78 rfl ?_
              refine g_iload C 6 dX9_copy_80 rfl ?_
              refine g_iload C 7 dX9_copy_82 rfl ?_
              refine g_callVi0 C (kH_has (xL X) (xD X) ka ad a3.toNatClampNeg hj6 _ _ _ _ _ _ _ _ h) miX6_has (gw_of tw4_62 rfl) (by decide) (wC_s a3.toNatClampNeg hj6) rfl rfl rfl (Nat.le_of_ble_eq_true rfl) z00 dX9_copy_84 (fun r12 w hw => ?_)
              obtain ⟨F12, R12, J12, P12, B12, rfl, h⟩ := hw
              refine g_if_ne C 93 dX9_copy_87 (by decide) (fun c13 => ?_) (fun c13 => ?_)
              · have h := h.1 c13
                refine g_aload C 1 dX9_copy_93 rfl ?_
                refine Sg_X9_items C a1.toNatClampNeg hj5 dX9_copy_95 ?_
                refine g_iload_n C 4 dX9_copy_98 rfl ?_
                refine g_aload C 0 dX9_copy_99 rfl ?_
                refine Sg_X9_items C a3.toNatClampNeg hj6 dX9_copy_101 ?_
                refine g_iload C 6 dX9_copy_104 rfl ?_
                refine g_iload C 7 dX9_copy_106 rfl ?_
                obtain ⟨e1, e2, e3, e4, e5, h⟩ := h
                refine Sc_items C a1.toNatClampNeg hj5 a3.toNatClampNeg hj6 e1 e2 e3 e4 e5 (gw_of tw4_63 rfl) (by decide) (Nat.le_of_ble_eq_true rfl) dX9_copy_108 ?_
                refine g_iload C 7 dX9_copy_111 rfl ?_
                exact hret _ _ _ _ ⟨_, _, _, _, _, rfl, h⟩ rfl dX9_copy_113
              · have h := h.2 c13
                refine g_bipush C (-13 : Int32) dX9_copy_90 cb_m13 ?_
                exact hret _ _ _ _ ⟨_, _, _, _, _, rfl, h⟩ rfl dX9_copy_92
          · have h := h.2 c9
            refine g_bipush C (-12 : Int32) dX9_copy_64 cb_m12 ?_
            exact hret _ _ _ _ ⟨_, _, _, _, _, rfl, h⟩ rfl dX9_copy_66
        · have h := h.2 c8
          refine g_bipush C (-11 : Int32) dX9_copy_48 cb_m11 ?_
          exact hret _ _ _ _ ⟨_, _, _, _, _, rfl, h⟩ rfl dX9_copy_50
    · have h := h.2 c4
      refine g_iconst C (-1 : Int32) dX9_copy_14 ci_m1 ?_
      exact hret _ _ _ _ ⟨_, _, _, _, _, rfl, h⟩ rfl dX9_copy_15
set_option maxHeartbeats 4000000 in
set_option maxRecDepth 100000 in
theorem kW_copy (l : Launch) (D : va_G) (ka : Nat → ClassId) (ad : Nat → Nat) (F : FT) (R : RT) (J : JT) (P : PT) (B : BT) (a1 : Int32) (a2 : Int32) (a3 : Int32) (a4 : Int32) (a5 : Int32) (K : Int32 → FT → RT → JT → PT → BT → Prop) (h : qW_copy F R J P B a1 a2 a3 a4 a5 K) : MI l D ka yX9_copy cX9_copy 8 (some .int) 3 0 0 [.ref (ad 99), .int a1, .int a2, .int a3, .int a4, .int a5] (wC ad ka F R J P B) (fun z w => ∃ F R J P B, w = wC ad ka F R J P B ∧ K z F R J P B) := MI_of (by decide) (Nat.le_of_ble_eq_true rfl) (fun X C hroom hret => bW_copy C hret F R J P B a1 a2 a3 a4 a5 h)
set_option maxHeartbeats 4000000 in
set_option maxRecDepth 100000 in
theorem miX9_copy : MInf yX9_copy cX9_copy 8 (some .int) 5 := ⟨(gw_of tw4_59 rfl), (gw_of tw4_60 rfl), (gw_of tw1_1 rfl), (gw_of tw4_61 rfl), by decide +kernel, by decide⟩
