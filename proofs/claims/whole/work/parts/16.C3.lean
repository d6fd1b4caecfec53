def qO_look (F : FT) (R : RT) (J : JT) (P : PT) (B : BT) (a2 : Int32) (a3 : Int32) (a4 : Int32) (K : FT → RT → JT → PT → BT → Prop) : Prop :=
  K (upd (upd (upd (upd (upd (upd (upd F 407 (F 100)) 408 (F 101)) 409 (F 102)) 410 (F 103)) 411 a2) 412 a3) 413 a4) R J P B
set_option maxHeartbeats 4000000 in
set_option maxRecDepth 100000 in
theorem bO_look {X : XT} {ka : Nat → ClassId} {ad : Nat → Nat} (C : Cx X cX1_look 5 RX1 none ka 1) {K : FT → RT → JT → PT → BT → Prop} (hret : RetV X cX1_look 0 0 (fun w => ∃ F R J P B, w = wC ad ka F R J P B ∧ K F R J P B)) (F : FT) (R : RT) (J : JT) (P : PT) (B : BT) (a2 : Int32) (a3 : Int32) (a4 : Int32) (h : qO_look F R J P B a2 a3 a4 K) : G X 0 0 (wC ad ka F R J P B) 0 [(0, .ref (ad 499)), (1, .ref (ad 199)), (2, .int a2), (3, .int a3), (4, .int a4)] [] := by
  unfold qO_look at h
  refine g_aload_n C 0 dX1_look_0 rfl ?_
  refine g_aload_n C 1 dX1_look_1 rfl ?_
  refine Cg_X1_1_stones C (v := F 100) rfl dX1_look_2 ?_
  refine Cp_X1_4_stones C dX1_look_5 ?_
  refine g_aload_n C 0 dX1_look_8 rfl ?_
  refine g_aload_n C 1 dX1_look_9 rfl ?_
  refine Cg_X1_1_days (F := (upd F 407 (F 100))) C (v := F 101) rfl dX1_look_10 ?_
  refine Cp_X1_4_days C dX1_look_13 ?_
  refine g_aload_n C 0 dX1_look_16 rfl ?_
  refine g_aload_n C 1 dX1_look_17 rfl ?_
  refine Cg_X1_1_frost (F := (upd (upd F 407 (F 100)) 408 (F 101))) C (v := F 102) rfl dX1_look_18 ?_
  refine Cp_X1_4_frost C dX1_look_21 ?_
  refine g_aload_n C 0 dX1_look_24 rfl ?_
  refine g_aload_n C 1 dX1_look_25 rfl ?_
  refine Cg_X1_1_thaw (F := (upd (upd (upd F 407 (F 100)) 408 (F 101)) 409 (F 102))) C (v := F 103) rfl dX1_look_26 ?_
  refine Cp_X1_4_thaw C dX1_look_29 ?_
  refine g_aload_n C 0 dX1_look_32 rfl ?_
  refine g_iload_n C 2 dX1_look_33 rfl ?_
  refine Cp_X1_4_day C dX1_look_34 ?_
  refine g_aload_n C 0 dX1_look_37 rfl ?_
  refine g_iload_n C 3 dX1_look_38 rfl ?_
  refine Cp_X1_4_laid C dX1_look_39 ?_
  refine g_aload_n C 0 dX1_look_42 rfl ?_
  refine g_iload C 4 dX1_look_43 rfl ?_
  refine Cp_X1_4_cost C dX1_look_45 ?_
  exact hret _ _ _ ⟨_, _, _, _, _, rfl, h⟩ dX1_look_48
set_option maxHeartbeats 4000000 in
set_option maxRecDepth 100000 in
theorem kO_look (l : Launch) (D : va_G) (ka : Nat → ClassId) (ad : Nat → Nat) (F : FT) (R : RT) (J : JT) (P : PT) (B : BT) (a2 : Int32) (a3 : Int32) (a4 : Int32) (K : FT → RT → JT → PT → BT → Prop) (h : qO_look F R J P B a2 a3 a4 K) : MV l D ka yX1_look cX1_look 5 none 1 0 0 [.ref (ad 499), .ref (ad 199), .int a2, .int a3, .int a4] (wC ad ka F R J P B) (fun w => ∃ F R J P B, w = wC ad ka F R J P B ∧ K F R J P B) := MV_of (by decide) (Nat.le_of_ble_eq_true rfl) (fun X C hroom hret => bO_look C hret F R J P B a2 a3 a4 h)
set_option maxHeartbeats 4000000 in
set_option maxRecDepth 100000 in
theorem miX1_look : MInf yX1_look cX1_look 5 none 4 := ⟨(gw_of tw3_123 rfl), (gw_of tp_yX1_look rfl), (gw_of tw1_4 rfl), (gw_of tw3_124 rfl), by decide +kernel, by decide⟩

def qO_laidBehind (F : FT) (R : RT) (J : JT) (P : PT) (B : BT) (a1 : Int32) (a2 : Int32) (a3 : Int32) (K : Int32 → FT → RT → JT → PT → BT → Prop) : Prop :=
  (vp_in ((a1 * (201 : Int32)) + a2) 603) ∧ ((0 < ((R 400 (((a1 * (201 : Int32)) + a2).toNatClampNeg)) - a3) → (K (if (a2 + ((R 400 (((a1 * (201 : Int32)) + a2).toNatClampNeg)) - a3)) < (F 407) then (a2 + ((R 400 (((a1 * (201 : Int32)) + a2).toNatClampNeg)) - a3)) else (F 407)) F R J P B)) ∧ (¬ 0 < ((R 400 (((a1 * (201 : Int32)) + a2).toNatClampNeg)) - a3) → (K a2 F R J P B)))
set_option maxHeartbeats 4000000 in
set_option maxRecDepth 100000 in
theorem bO_laidBehind {X : XT} {ka : Nat → ClassId} {ad : Nat → Nat} (C : Cx X cX1_laidBehind 5 RX1 (some .int) ka 1) {K : Int32 → FT → RT → JT → PT → BT → Prop} (hret : RetI X cX1_laidBehind .int 0 0 (fun z w => ∃ F R J P B, w = wC ad ka F R J P B ∧ K z F R J P B)) (F : FT) (R : RT) (J : JT) (P : PT) (B : BT) (a1 : Int32) (a2 : Int32) (a3 : Int32) (h : qO_laidBehind F R J P B a1 a2 a3 K) : G X 0 0 (wC ad ka F R J P B) 0 [(0, .ref (ad 499)), (1, .int a1), (2, .int a2), (3, .int a3)] [] := by
  unfold qO_laidBehind at h
  refine g_aload_n C 0 dX1_laidBehind_0 rfl ?_
  refine Cg_X1_4_lays C dX1_laidBehind_1 ?_
  refine g_iload_n C 1 dX1_laidBehind_4 rfl ?_
  refine g_sipush C (201 : Int32) dX1_laidBehind_5 cs_201 ?_
  refine g_imul C dX1_laidBehind_8 ?_
  refine g_iload_n C 2 dX1_laidBehind_9 rfl ?_
  refine g_iadd C dX1_laidBehind_10 ?_
  refine Ca_400 C (f := R 400) rfl _ rfl h.1 dX1_laidBehind_11 ?_
  have h := h.2
  refine g_iload_n C 3 dX1_laidBehind_12 rfl ?_
  refine g_isub C dX1_laidBehind_13 ?_
  refine g_istore C [(4, .int ((R 400 (((a1 * (201 : Int32)) + a2).toNatClampNeg)) - a3)), (0, .ref (ad 499)), (1, .int a1), (2, .int a2), (3, .int a3)] dX1_laidBehind_14 (by decide) rfl ?_
  refine g_iload C 0 dX1_laidBehind_16 rfl ?_
  refine g_if_gt C 25 dX1_laidBehind_18 (by decide) (fun c1 => ?_) (fun c1 => ?_)
  · have h := h.1 c1
    refine g_aload_n C 1 dX1_laidBehind_25 rfl ?_
    refine Cg_X1_4_stones C (v := F 407) rfl dX1_laidBehind_26 ?_
    refine g_iload_n C 3 dX1_laidBehind_29 rfl ?_
    refine g_iload C 0 dX1_laidBehind_30 rfl ?_
    refine g_iadd C dX1_laidBehind_32 ?_
    refine g_mmin C (gw_of tw3_138 rfl) (by decide) (Nat.le_of_ble_eq_true rfl) z00 dX1_laidBehind_33 ?_
    exact hret _ _ _ _ ⟨_, _, _, _, _, rfl, h⟩ rfl dX1_laidBehind_36
  · have h := h.2 c1
    refine g_iload_n C 3 dX1_laidBehind_21 rfl ?_
    refine g_goto C 36 dX1_laidBehind_22 (by decide) ?_
    exact hret _ _ _ _ ⟨_, _, _, _, _, rfl, h⟩ rfl dX1_laidBehind_36
set_option maxHeartbeats 4000000 in
set_option maxRecDepth 100000 in
theorem kO_laidBehind (l : Launch) (D : va_G) (ka : Nat → ClassId) (ad : Nat → Nat) (F : FT) (R : RT) (J : JT) (P : PT) (B : BT) (a1 : Int32) (a2 : Int32) (a3 : Int32) (K : Int32 → FT → RT → JT → PT → BT → Prop) (h : qO_laidBehind F R J P B a1 a2 a3 K) : MI l D ka yX1_laidBehind cX1_laidBehind 5 (some .int) 1 0 0 [.ref (ad 499), .int a1, .int a2, .int a3] (wC ad ka F R J P B) (fun z w => ∃ F R J P B, w = wC ad ka F R J P B ∧ K z F R J P B) := MI_of (by decide) (Nat.le_of_ble_eq_true rfl) (fun X C hroom hret => bO_laidBehind C hret F R J P B a1 a2 a3 h)
set_option maxHeartbeats 4000000 in
set_option maxRecDepth 100000 in
theorem miX1_laidBehind : MInf yX1_laidBehind cX1_laidBehind 5 (some .int) 3 := ⟨(gw_of tw3_136 rfl), (gw_of tp_yX1_laidBehind rfl), (gw_of tw1_4 rfl), (gw_of tw3_137 rfl), by decide +kernel, by decide⟩

def qO_fillBehind_b_13 : Nat → (FT → RT → JT → PT → BT → Int32 → Int32 → Prop) → FT → RT → JT → PT → BT → Int32 → Int32 → Int32 → (FT → RT → JT → PT → BT → Prop) → Prop
  | 0, _, _, _, _, _, _, _, _, _ => fun _ => False
  | n13 + 1, k2, F, R, J, P, B, v2, v3, v4 => fun K => ((F 407) < v4 → (k2 F R J P B v2 (v3 + (1 : Int32)))) ∧ (¬ (F 407) < v4 → (qO_laidBehind F R J P B v3 v4 v2 (fun r2 F2 R2 J2 P2 B2 => (vp_in ((v3 * (201 : Int32)) + v4) 603) ∧ (qO_fillBehind_b_13 n13 k2 F2 (va_up R2 401 (upd (R2 401) (((v3 * (201 : Int32)) + v4).toNatClampNeg) r2)) J2 P2 B2 v2 v3 (v4 + (1 : Int32)) K))))
set_option maxHeartbeats 4000000 in
set_option maxRecDepth 100000 in
theorem lO_fillBehind_b_13 {X : XT} {ka : Nat → ClassId} {ad : Nat → Nat} (C : Cx X cX1_fillBehind 5 RX1 none ka 2) {K : FT → RT → JT → PT → BT → Prop} (hret : RetV X cX1_fillBehind 0 0 (fun w => ∃ F R J P B, w = wC ad ka F R J P B ∧ K F R J P B)) {k2 : FT → RT → JT → PT → BT → Int32 → Int32 → Prop} (hk2 : ∀ (F : FT) (R : RT) (J : JT) (P : PT) (B : BT) (v2 : Int32) (v3 : Int32), k2 F R J P B v2 v3 → G X 0 0 (wC ad ka F R J P B) 2 [(0, .ref (ad 499)), (1, .ref (ad 401)), (2, .int v2), (3, .int v3)] []) : ∀ (n : Nat) (F : FT) (R : RT) (J : JT) (P : PT) (B : BT) (v2 : Int32) (v3 : Int32) (v4 : Int32), qO_fillBehind_b_13 n k2 F R J P B v2 v3 v4 K → G X 0 0 (wC ad ka F R J P B) 13 [(0, .ref (ad 499)), (1, .ref (ad 401)), (2, .int v2), (3, .int v3), (4, .int v4)] [] := by
  intro n
  induction n with
  | zero => intro F R J P B v2 v3 v4 h; exact h.elim
  | succ n ih =>
    intro F R J P B v2 v3 v4 h
    refine g_iload C 4 dX1_fillBehind_13 rfl ?_
    refine g_aload_n C 0 dX1_fillBehind_15 rfl ?_
    refine Cg_X1_4_stones C (v := F 407) rfl dX1_fillBehind_16 ?_
    refine g_icmp_gt C 46 dX1_fillBehind_19 (by decide) (fun c1 => ?_) (fun c1 => ?_)
    · have h := h.1 c1
      refine g_iinc C 3 (v3 + (1 : Int32)) [(3, .int (v3 + (1 : Int32))), (0, .ref (ad 499)), (1, .ref (ad 401)), (2, .int v2), (4, .int v4)] dX1_fillBehind_46 rfl (by rw [ci_1]) (by decide) rfl ?_
      refine g_goto C 2 dX1_fillBehind_49 (by decide) ?_
      exact g_lv [1, 2, 3, 0] rfl (hk2 _ _ _ _ _ _ _ h)
    · have h := h.2 c1
      refine g_aload_n C 1 dX1_fillBehind_22 rfl ?_
      refine g_iload_n C 3 dX1_fillBehind_23 rfl ?_
      refine g_sipush C (201 : Int32) dX1_fillBehind_24 cs_201 ?_
      refine g_imul C dX1_fillBehind_27 ?_
      refine g_iload C 4 dX1_fillBehind_28 rfl ?_
      refine g_iadd C dX1_fillBehind_30 ?_
      refine g_aload_n C 0 dX1_fillBehind_31 rfl ?_
      refine g_iload_n C 3 dX1_fillBehind_32 rfl ?_
      refine g_iload C 4 dX1_fillBehind_33 rfl ?_
      refine g_iload_n C 2 dX1_fillBehind_35 rfl ?_
      refine g_callVi0 C (kO_laidBehind (xL X) (xD X) ka ad _ _ _ _ _ _ _ _ _ h) miX1_laidBehind (gw_of tw3_134 rfl) (by decide) wC_o4 rfl rfl rfl (Nat.le_of_ble_eq_true rfl) z00 dX1_fillBehind_36 (fun r2 w hw => ?_)
      obtain ⟨F2, R2, J2, P2, B2, rfl, h⟩ := hw
      refine Cs_401 C (f := R2 401) rfl _ rfl h.1 dX1_fillBehind_39 ?_
      have h := h.2
      refine g_iinc C 4 (v4 + (1 : Int32)) [(4, .int (v4 + (1 : Int32))), (0, .ref (ad 499)), (1, .ref (ad 401)), (2, .int v2), (3, .int v3)] dX1_fillBehind_40 rfl (by rw [ci_1]) (by decide) rfl ?_
      refine g_goto C 13 dX1_fillBehind_43 (by decide) ?_
      exact g_lv [1, 2, 3, 4, 0] rfl (ih _ _ _ _ _ _ _ _ h)
def qO_fillBehind_b_2 : Nat → FT → RT → JT → PT → BT → Int32 → Int32 → (FT → RT → JT → PT → BT → Prop) → Prop
  | 0, _, _, _, _, _, _, _ => fun _ => False
  | n2 + 1, F, R, J, P, B, v2, v3 => fun K => ((3 : Int32) ≤ v3 → (K F R J P B)) ∧ (¬ (3 : Int32) ≤ v3 → (∃ n13, qO_fillBehind_b_13 n13 (fun F R J P B v2 v3 => qO_fillBehind_b_2 n2 F R J P B v2 v3 K) F R J P B v2 v3 (F 412) K))
set_option maxHeartbeats 4000000 in
set_option maxRecDepth 100000 in
theorem lO_fillBehind_b_2 {X : XT} {ka : Nat → ClassId} {ad : Nat → Nat} (C : Cx X cX1_fillBehind 5 RX1 none ka 2) {K : FT → RT → JT → PT → BT → Prop} (hret : RetV X cX1_fillBehind 0 0 (fun w => ∃ F R J P B, w = wC ad ka F R J P B ∧ K F R J P B)) : ∀ (n : Nat) (F : FT) (R : RT) (J : JT) (P : PT) (B : BT) (v2 : Int32) (v3 : Int32), qO_fillBehind_b_2 n F R J P B v2 v3 K → G X 0 0 (wC ad ka F R J P B) 2 [(0, .ref (ad 499)), (1, .ref (ad 401)), (2, .int v2), (3, .int v3)] [] := by
  intro n
  induction n with
  | zero => intro F R J P B v2 v3 h; exact h.elim
  | succ n ih =>
    intro F R J P B v2 v3 h
    refine g_iload_n C 3 dX1_fillBehind_2 rfl ?_
    refine g_iconst C (3 : Int32) dX1_fillBehind_3 ci_3 ?_
    refine g_icmp_ge C 52 dX1_fillBehind_4 (by decide) (fun c1 => ?_) (fun c1 => ?_)
    · have h := h.1 c1
      exact hret _ _ _ ⟨_, _, _, _, _, rfl, h⟩ dX1_fillBehind_52
    · have h := h.2 c1
      refine g_aload_n C 0 dX1_fillBehind_7 rfl ?_
      refine Cg_X1_4_laid C (v := F 412) rfl dX1_fillBehind_8 ?_
      refine g_istore C [(4, .int (F 412)), (0, .ref (ad 499)), (1, .ref (ad 401)), (2, .int v2), (3, .int v3)] dX1_fillBehind_11 (by decide) rfl ?_
      obtain ⟨n1, h⟩ := h
      exact g_lv [1, 2, 3, 4, 0] rfl (lO_fillBehind_b_13 C hret (fun F R J P B v2 v3 h => ih F R J P B v2 v3 h) n1 _ _ _ _ _ _ _ _ h)
def qO_fillBehind_b (F : FT) (R : RT) (J : JT) (P : PT) (B : BT) (a2 : Int32) (K : FT → RT → JT → PT → BT → Prop) : Prop :=
  ∃ n2, qO_fillBehind_b_2 n2 F R J P B a2 (0 : Int32) K
set_option maxHeartbeats 4000000 in
set_option maxRecDepth 100000 in
theorem bO_fillBehind_b {X : XT} {ka : Nat → ClassId} {ad : Nat → Nat} (C : Cx X cX1_fillBehind 5 RX1 none ka 2) {K : FT → RT → JT → PT → BT → Prop} (hret : RetV X cX1_fillBehind 0 0 (fun w => ∃ F R J P B, w = wC ad ka F R J P B ∧ K F R J P B)) (F : FT) (R : RT) (J : JT) (P : PT) (B : BT) (a2 : Int32) (h : qO_fillBehind_b F R J P B a2 K) : G X 0 0 (wC ad ka F R J P B) 0 [(0, .ref (ad 499)), (1, .ref (ad 401)), (2, .int a2)] [] := by
  unfold qO_fillBehind_b at h
  refine g_iconst C (0 : Int32) dX1_fillBehind_0 ci_0 ?_
  refine g_istore_n C [(3, .int (0 : Int32)), (0, .ref (ad 499)), (1, .ref (ad 401)), (2, .int a2)] dX1_fillBehind_1 (by decide) rfl ?_
  obtain ⟨n1, h⟩ := h
  exact g_lv [1, 2, 3, 0] rfl (lO_fillBehind_b_2 C hret n1 _ _ _ _ _ _ _ h)
set_option maxHeartbeats 4000000 in
set_option maxRecDepth 100000 in
theorem kO_fillBehind_b (l : Launch) (D : va_G) (ka : Nat → ClassId) (ad : Nat → Nat) (F : FT) (R : RT) (J : JT) (P : PT) (B : BT) (a2 : Int32) (K : FT → RT → JT → PT → BT → Prop) (h : qO_fillBehind_b F R J P B a2 K) : MV l D ka yX1_fillBehind cX1_fillBehind 5 none 2 0 0 [.ref (ad 499), .ref (ad 401), .int a2] (wC ad ka F R J P B) (fun w => ∃ F R J P B, w = wC ad ka F R J P B ∧ K F R J P B) := MV_of (by decide) (Nat.le_of_ble_eq_true rfl) (fun X C hroom hret => bO_fillBehind_b C hret F R J P B a2 h)
set_option maxHeartbeats 4000000 in
set_option maxRecDepth 100000 in
theorem miX1_fillBehind : MInf yX1_fillBehind cX1_fillBehind 5 none 2 := ⟨(gw_of tw3_132 rfl), (gw_of tp_yX1_fillBehind rfl), (gw_of tw1_4 rfl), (gw_of tw3_133 rfl), by decide +kernel, by decide⟩

def qO_fillBehind_h_13 : Nat → (FT → RT → JT → PT → BT → Int32 → Int32 → Prop) → FT → RT → JT → PT → BT → Int32 → Int32 → Int32 → (FT → RT → JT → PT → BT → Prop) → Prop
  | 0, _, _, _, _, _, _, _, _, _ => fun _ => False
  | n13 + 1, k2, F, R, J, P, B, v2, v3, v4 => fun K => ((F 407) < v4 → (k2 F R J P B v2 (v3 + (1 : Int32)))) ∧ (¬ (F 407) < v4 → (qO_laidBehind F R J P B v3 v4 v2 (fun r2 F2 R2 J2 P2 B2 => (vp_in ((v3 * (201 : Int32)) + v4) 603) ∧ (qO_fillBehind_h_13 n13 k2 F2 (va_up R2 402 (upd (R2 402) (((v3 * (201 : Int32)) + v4).toNatClampNeg) r2)) J2 P2 B2 v2 v3 (v4 + (1 : Int32)) K))))
set_option maxHeartbeats 4000000 in
set_option maxRecDepth 100000 in
theorem lO_fillBehind_h_13 {X : XT} {ka : Nat → ClassId} {ad : Nat → Nat} (C : Cx X cX1_fillBehind 5 RX1 none ka 2) {K : FT → RT → JT → PT → BT → Prop} (hret : RetV X cX1_fillBehind 0 0 (fun w => ∃ F R J P B, w = wC ad ka F R J P B ∧ K F R J P B)) {k2 : FT → RT → JT → PT → BT → Int32 → Int32 → Prop} (hk2 : ∀ (F : FT) (R : RT) (J : JT) (P : PT) (B : BT) (v2 : Int32) (v3 : Int32), k2 F R J P B v2 v3 → G X 0 0 (wC ad ka F R J P B) 2 [(0, .ref (ad 499)), (1, .ref (ad 402)), (2, .int v2), (3, .int v3)] []) : ∀ (n : Nat) (F : FT) (R : RT) (J : JT) (P : PT) (B : BT) (v2 : Int32) (v3 : Int32) (v4 : Int32), qO_fillBehind_h_13 n k2 F R J P B v2 v3 v4 K → G X 0 0 (wC ad ka F R J P B) 13 [(0, .ref (ad 499)), (1, .ref (ad 402)), (2, .int v2), (3, .int v3), (4, .int v4)] [] := by
  intro n
  induction n with
  | zero => intro F R J P B v2 v3 v4 h; exact h.elim
  | succ n ih =>
    intro F R J P B v2 v3 v4 h
    refine g_iload C 4 dX1_fillBehind_13 rfl ?_
    refine g_aload_n C 0 dX1_fillBehind_15 rfl ?_
    refine Cg_X1_4_stones C (v := F 407) rfl dX1_fillBehind_16 ?_
    refine g_icmp_gt C 46 dX1_fillBehind_19 (by decide) (fun c1 => ?_) (fun c1 => ?_)
    · have h := h.1 c1
      refine g_iinc C 3 (v3 + (1 : Int32)) [(3, .int (v3 + (1 : Int32))), (0, .ref (ad 499)), (1, .ref (ad 402)), (2, .int v2), (4, .int v4)] dX1_fillBehind_46 rfl (by rw [ci_1]) (by decide) rfl ?_
      refine g_goto C 2 dX1_fillBehind_49 (by decide) ?_
      exact g_lv [1, 2, 3, 0] rfl (hk2 _ _ _ _ _ _ _ h)
    · have h := h.2 c1
      refine g_aload_n C 1 dX1_fillBehind_22 rfl ?_
      refine g_iload_n C 3 dX1_fillBehind_23 rfl ?_
      refine g_sipush C (201 : Int32) dX1_fillBehind_24 cs_201 ?_
      refine g_imul C dX1_fillBehind_27 ?_
      refine g_iload C 4 dX1_fillBehind_28 rfl ?_
      refine g_iadd C dX1_fillBehind_30 ?_
      refine g_aload_n C 0 dX1_fillBehind_31 rfl ?_
      refine g_iload_n C 3 dX1_fillBehind_32 rfl ?_
      refine g_iload C 4 dX1_fillBehind_33 rfl ?_
      refine g_iload_n C 2 dX1_fillBehind_35 rfl ?_
      refine g_callVi0 C (kO_laidBehind (xL X) (xD X) ka ad _ _ _ _ _ _ _ _ _ h) miX1_laidBehind (gw_of tw3_134 rfl) (by decide) wC_o4 rfl rfl rfl (Nat.le_of_ble_eq_true rfl) z00 dX1_fillBehind_36 (fun r2 w hw => ?_)
      obtain ⟨F2, R2, J2, P2, B2, rfl, h⟩ := hw
      refine Cs_402 C (f := R2 402) rfl _ rfl h.1 dX1_fillBehind_39 ?_
      have h := h.2
      refine g_iinc C 4 (v4 + (1 : Int32)) [(4, .int (v4 + (1 : Int32))), (0, .ref (ad 499)), (1, .ref (ad 402)), (2, .int v2), (3, .int v3)] dX1_fillBehind_40 rfl (by rw [ci_1]) (by decide) rfl ?_
      refine g_goto C 13 dX1_fillBehind_43 (by decide) ?_
      exact g_lv [1, 2, 3, 4, 0] rfl (ih _ _ _ _ _ _ _ _ h)
def qO_fillBehind_h_2 : Nat → FT → RT → JT → PT → BT → Int32 → Int32 → (FT → RT → JT → PT → BT → Prop) → Prop
  | 0, _, _, _, _, _, _, _ => fun _ => False
  | n2 + 1, F, R, J, P, B, v2, v3 => fun K => ((3 : Int32) ≤ v3 → (K F R J P B)) ∧ (¬ (3 : Int32) ≤ v3 → (∃ n13, qO_fillBehind_h_13 n13 (fun F R J P B v2 v3 => qO_fillBehind_h_2 n2 F R J P B v2 v3 K) F R J P B v2 v3 (F 412) K))
set_option maxHeartbeats 4000000 in
set_option maxRecDepth 100000 in
theorem lO_fillBehind_h_2 {X : XT} {ka : Nat → ClassId} {ad : Nat → Nat} (C : Cx X cX1_fillBehind 5 RX1 none ka 2) {K : FT → RT → JT → PT → BT → Prop} (hret : RetV X cX1_fillBehind 0 0 (fun w => ∃ F R J P B, w = wC ad ka F R J P B ∧ K F R J P B)) : ∀ (n : Nat) (F : FT) (R : RT) (J : JT) (P : PT) (B : BT) (v2 : Int32) (v3 : Int32), qO_fillBehind_h_2 n F R J P B v2 v3 K → G X 0 0 (wC ad ka F R J P B) 2 [(0, .ref (ad 499)), (1, .ref (ad 402)), (2, .int v2), (3, .int v3)] [] := by
  intro n
  induction n with
  | zero => intro F R J P B v2 v3 h; exact h.elim
  | succ n ih =>
    intro F R J P B v2 v3 h
    refine g_iload_n C 3 dX1_fillBehind_2 rfl ?_
    refine g_iconst C (3 : Int32) dX1_fillBehind_3 ci_3 ?_
    refine g_icmp_ge C 52 dX1_fillBehind_4 (by decide) (fun c1 => ?_) (fun c1 => ?_)
    · have h := h.1 c1
      exact hret _ _ _ ⟨_, _, _, _, _, rfl, h⟩ dX1_fillBehind_52
    · have h := h.2 c1
      refine g_aload_n C 0 dX1_fillBehind_7 rfl ?_
      refine Cg_X1_4_laid C (v := F 412) rfl dX1_fillBehind_8 ?_
      refine g_istore C [(4, .int (F 412)), (0, .ref (ad 499)), (1, .ref (ad 402)), (2, .int v2), (3, .int v3)] dX1_fillBehind_11 (by decide) rfl ?_
      obtain ⟨n1, h⟩ := h
      exact g_lv [1, 2, 3, 4, 0] rfl (lO_fillBehind_h_13 C hret (fun F R J P B v2 v3 h => ih F R J P B v2 v3 h) n1 _ _ _ _ _ _ _ _ h)
def qO_fillBehind_h (F : FT) (R : RT) (J : JT) (P : PT) (B : BT) (a2 : Int32) (K : FT → RT → JT → PT → BT → Prop) : Prop :=
  ∃ n2, qO_fillBehind_h_2 n2 F R J P B a2 (0 : Int32) K
set_option maxHeartbeats 4000000 in
set_option maxRecDepth 100000 in
theorem bO_fillBehind_h {X : XT} {ka : Nat → ClassId} {ad : Nat → Nat} (C : Cx X cX1_fillBehind 5 RX1 none ka 2) {K : FT → RT → JT → PT → BT → Prop} (hret : RetV X cX1_fillBehind 0 0 (fun w => ∃ F R J P B, w = wC ad ka F R J P B ∧ K F R J P B)) (F : FT) (R : RT) (J : JT) (P : PT) (B : BT) (a2 : Int32) (h : qO_fillBehind_h F R J P B a2 K) : G X 0 0 (wC ad ka F R J P B) 0 [(0, .ref (ad 499)), (1, .ref (ad 402)), (2, .int a2)] [] := by
  unfold qO_fillBehind_h at h
  refine g_iconst C (0 : Int32) dX1_fillBehind_0 ci_0 ?_
  refine g_istore_n C [(3, .int (0 : Int32)), (0, .ref (ad 499)), (1, .ref (ad 402)), (2, .int a2)] dX1_fillBehind_1 (by decide) rfl ?_
  obtain ⟨n1, h⟩ := h
  exact g_lv [1, 2, 3, 0] rfl (lO_fillBehind_h_2 C hret n1 _ _ _ _ _ _ _ h)
set_option maxHeartbeats 4000000 in
set_option maxRecDepth 100000 in
theorem kO_fillBehind_h (l : Launch) (D : va_G) (ka : Nat → ClassId) (ad : Nat → Nat) (F : FT) (R : RT) (J : JT) (P : PT) (B : BT) (a2 : Int32) (K : FT → RT → JT → PT → BT → Prop) (h : qO_fillBehind_h F R J P B a2 K) : MV l D ka yX1_fillBehind cX1_fillBehind 5 none 2 0 0 [.ref (ad 499), .ref (ad 402), .int a2] (wC ad ka F R J P B) (fun w => ∃ F R J P B, w = wC ad ka F R J P B ∧ K F R J P B) := MV_of (by decide) (Nat.le_of_ble_eq_true rfl) (fun X C hroom hret => bO_fillBehind_h C hret F R J P B a2 h)

def qO_reckonLays_131 (k88 : FT → RT → JT → PT → BT → Int32 → Prop) (F : FT) (R : RT) (J : JT) (P : PT) (B : BT) (v4 : Int32) (s0 : Int32) (s1 : Int32) (s2 : Int32) (s4 : Int32) (K : FT → RT → JT → PT → BT → Prop) : Prop :=
  qO_laidBehind F R J P B s2 s1 s0 (fun r1 F1 R1 J1 P1 B1 => (vp_in s4 41) ∧ (k88 F1 (va_up R1 405 (upd (R1 405) s4.toNatClampNeg r1)) J1 P1 B1 (v4 + (1 : Int32))))
set_option maxHeartbeats 4000000 in
set_option maxRecDepth 100000 in
theorem lO_reckonLays_131 {X : XT} {ka : Nat → ClassId} {ad : Nat → Nat} (C : Cx X cX1_reckonLays 6 RX1 none ka 5) {K : FT → RT → JT → PT → BT → Prop} (hret : RetV X cX1_reckonLays 0 0 (fun w => ∃ F R J P B, w = wC ad ka F R J P B ∧ K F R J P B)) {k88 : FT → RT → JT → PT → BT → Int32 → Prop} (hk88 : ∀ (F : FT) (R : RT) (J : JT) (P : PT) (B : BT) (v4 : Int32), k88 F R J P B v4 → G X 0 0 (wC ad ka F R J P B) 88 [(0, .ref (ad 499)), (4, .int v4)] []) (F : FT) (R : RT) (J : JT) (P : PT) (B : BT) (v4 : Int32) (s0 : Int32) (s1 : Int32) (s2 : Int32) (s4 : Int32) (h : qO_reckonLays_131 k88 F R J P B v4 s0 s1 s2 s4 K) : G X 0 0 (wC ad ka F R J P B) 131 [(0, .ref (ad 499)), (4, .int v4)] [.int s0, .int s1, .int s2, .ref (ad 499), .int s4, .ref (ad 405)] := by
  unfold qO_reckonLays_131 at h
  refine g_callVi0 C (kO_laidBehind (xL X) (xD X) ka ad _ _ _ _ _ _ _ _ _ h) miX1_laidBehind (gw_of tw3_134 rfl) (by decide) wC_o4 rfl rfl rfl (Nat.le_of_ble_eq_true rfl) z00 dX1_reckonLays_131 (fun r1 w hw => ?_)
  obtain ⟨F1, R1, J1, P1, B1, rfl, h⟩ := hw
  refine Cs_405 C (f := R1 405) rfl _ rfl h.1 dX1_reckonLays_134 ?_
  have h := h.2
  refine g_iinc C 1 (v4 + (1 : Int32)) [(4, .int (v4 + (1 : Int32))), (0, .ref (ad 499))] dX1_reckonLays_135 rfl (by rw [ci_1]) (by decide) rfl ?_
  refine g_goto C 88 dX1_reckonLays_138 (by decide) ?_
  exact g_lv [1, 0] rfl (hk88 _ _ _ _ _ _ h)
def qO_reckonLays_88 : Nat → FT → RT → JT → PT → BT → Int32 → (FT → RT → JT → PT → BT → Prop) → Prop
  | 0, _, _, _, _, _, _ => fun _ => False
  | n88 + 1, F, R, J, P, B, v4 => fun K => ((F 408) ≤ v4 → (K F R J P B)) ∧ (¬ (F 408) ≤ v4 → ((vp_in v4 41) ∧ ((¬ v4 = (F 411) → (qO_reckonLays_131 (fun F R J P B v4 => qO_reckonLays_88 n88 F R J P B v4 K) F R J P B v4 (0 : Int32) (R 405 v4.toNatClampNeg) (0 : Int32) (v4 + (1 : Int32)) K)) ∧ (v4 = (F 411) → (qO_reckonLays_131 (fun F R J P B v4 => qO_reckonLays_88 n88 F R J P B v4 K) F R J P B v4 (F 413) (R 405 v4.toNatClampNeg) (0 : Int32) (v4 + (1 : Int32)) K)))))
set_option maxHeartbeats 4000000 in
set_option maxRecDepth 100000 in
theorem lO_reckonLays_88 {X : XT} {ka : Nat → ClassId} {ad : Nat → Nat} (C : Cx X cX1_reckonLays 6 RX1 none ka 5) {K : FT → RT → JT → PT → BT → Prop} (hret : RetV X cX1_reckonLays 0 0 (fun w => ∃ F R J P B, w = wC ad ka F R J P B ∧ K F R J P B)) : ∀ (n : Nat) (F : FT) (R : RT) (J : JT) (P : PT) (B : BT) (v4 : Int32), qO_reckonLays_88 n F R J P B v4 K → G X 0 0 (wC ad ka F R J P B) 88 [(0, .ref (ad 499)), (4, .int v4)] [] := by
  intro n
  induction n with
  | zero => intro F R J P B v4 h; exact h.elim
  | succ n ih =>
    intro F R J P B v4 h
    refine g_iload C 1 dX1_reckonLays_88 rfl ?_
    refine g_aload_n C 0 dX1_reckonLays_90 rfl ?_
    refine Cg_X1_4_days C (v := F 408) rfl dX1_reckonLays_91 ?_
    refine g_icmp_ge C 141 dX1_reckonLays_94 (by decide) (fun c1 => ?_) (fun c1 => ?_)
    · have h := h.1 c1
      exact hret _ _ _ ⟨_, _, _, _, _, rfl, h⟩ dX1_reckonLays_141
    · have h := h.2 c1
      refine g_aload_n C 0 dX1_reckonLays_97 rfl ?_
      refine Cg_X1_4_fairPath C dX1_reckonLays_98 ?_
      refine g_iload C 1 dX1_reckonLays_101 rfl ?_
      refine g_iconst C (1 : Int32) dX1_reckonLays_103 ci_1 ?_
      refine g_iadd C dX1_reckonLays_104 ?_
      refine g_aload_n C 0 dX1_reckonLays_105 rfl ?_
      refine g_iconst C (0 : Int32) dX1_reckonLays_106 ci_0 ?_
      refine g_aload_n C 0 dX1_reckonLays_107 rfl ?_
      refine Cg_X1_4_fairPath C dX1_reckonLays_108 ?_
      refine g_iload C 1 dX1_reckonLays_111 rfl ?_
      refine Ca_405 C (f := R 405) rfl _ rfl h.1 dX1_reckonLays_113 ?_
      have h := h.2
      refine g_iload C 1 dX1_reckonLays_114 rfl ?_
      refine g_aload_n C 0 dX1_reckonLays_116 rfl ?_
      refine Cg_X1_4_day C (v := F 411) rfl dX1_reckonLays_117 ?_
      refine g_icmp_ne C 130 dX1_reckonLays_120 (by decide) (fun c2 => ?_) (fun c2 => ?_)
      · have h := h.1 c2
        refine g_iconst C (0 : Int32) dX1_reckonLays_130 ci_0 ?_
        exact g_lv [0, 1] rfl (lO_reckonLays_131 C hret (fun F R J P B v4 h => ih F R J P B v4 h) _ _ _ _ _ _ _ _ _ _ h)
      · have h := h.2 c2
        refine g_aload_n C 0 dX1_reckonLays_123 rfl ?_
        refine Cg_X1_4_cost C (v := F 413) rfl dX1_reckonLays_124 ?_
        refine g_goto C 131 dX1_reckonLays_127 (by decide) ?_
        exact g_lv [0, 1] rfl (lO_reckonLays_131 C hret (fun F R J P B v4 h => ih F R J P B v4 h) _ _ _ _ _ _ _ _ _ _ h)
def qO_reckonLays_15 : Nat → (FT → RT → JT → PT → BT → Int32 → Int32 → Int32 → Prop) → FT → RT → JT → PT → BT → Int32 → Int32 → Int32 → Int32 → (FT → RT → JT → PT → BT → Prop) → Prop
  | 0, _, _, _, _, _, _, _, _, _, _ => fun _ => False
  | n15 + 1, k3, F, R, J, P, B, v2, v3, v4, v5 => fun K => ((F 407) < v5 → (k3 F R J P B v2 v3 (v4 + (1 : Int32)))) ∧ (¬ (F 407) < v5 → (qS_layTogether F R J P B v4 v5 v2 v3 (fun r2 F2 R2 J2 P2 B2 => (vp_in ((v4 * (201 : Int32)) + v5) 603) ∧ (qO_reckonLays_15 n15 k3 F2 (va_up R2 400 (upd (R2 400) (((v4 * (201 : Int32)) + v5).toNatClampNeg) r2)) J2 P2 B2 v2 v3 v4 (v5 + (1 : Int32)) K))))
set_option maxHeartbeats 4000000 in
set_option maxRecDepth 100000 in
theorem lO_reckonLays_15 {X : XT} {ka : Nat → ClassId} {ad : Nat → Nat} (C : Cx X cX1_reckonLays 6 RX1 none ka 5) {K : FT → RT → JT → PT → BT → Prop} (hret : RetV X cX1_reckonLays 0 0 (fun w => ∃ F R J P B, w = wC ad ka F R J P B ∧ K F R J P B)) {k3 : FT → RT → JT → PT → BT → Int32 → Int32 → Int32 → Prop} (hk3 : ∀ (F : FT) (R : RT) (J : JT) (P : PT) (B : BT) (v2 : Int32) (v3 : Int32) (v4 : Int32), k3 F R J P B v2 v3 v4 → G X 0 0 (wC ad ka F R J P B) 3 [(0, .ref (ad 499)), (1, .ref (ad 199)), (2, .int v2), (3, .int v3), (4, .int v4)] []) : ∀ (n : Nat) (F : FT) (R : RT) (J : JT) (P : PT) (B : BT) (v2 : Int32) (v3 : Int32) (v4 : Int32) (v5 : Int32), qO_reckonLays_15 n k3 F R J P B v2 v3 v4 v5 K → G X 0 0 (wC ad ka F R J P B) 15 [(0, .ref (ad 499)), (1, .ref (ad 199)), (2, .int v2), (3, .int v3), (4, .int v4), (5, .int v5)] [] := by
  intro n
  induction n with
  | zero => intro F R J P B v2 v3 v4 v5 h; exact h.elim
  | succ n ih =>
    intro F R J P B v2 v3 v4 v5 h
    refine g_iload C 5 dX1_reckonLays_15 rfl ?_
    refine g_aload_n C 0 dX1_reckonLays_17 rfl ?_
    refine Cg_X1_4_stones C (v := F 407) rfl dX1_reckonLays_18 ?_
    refine g_icmp_gt C 54 dX1_reckonLays_21 (by decide) (fun c1 => ?_) (fun c1 => ?_)
    · have h := h.1 c1
      refine g_iinc C 4 (v4 + (1 : Int32)) [(4, .int (v4 + (1 : Int32))), (0, .ref (ad 499)), (1, .ref (ad 199)), (2, .int v2), (3, .int v3), (5, .int v5)] dX1_reckonLays_54 rfl (by rw [ci_1]) (by decide) rfl ?_
      refine g_goto C 3 dX1_reckonLays_57 (by decide) ?_
      exact g_lv [1, 2, 3, 4, 0] rfl (hk3 _ _ _ _ _ _ _ _ h)
    · have h := h.2 c1
      refine g_aload_n C 0 dX1_reckonLays_24 rfl ?_
      refine Cg_X1_4_lays C dX1_reckonLays_25 ?_
      refine g_iload C 4 dX1_reckonLays_28 rfl ?_
      refine g_sipush C (201 : Int32) dX1_reckonLays_30 cs_201 ?_
      refine g_imul C dX1_reckonLays_33 ?_
      refine g_iload C 5 dX1_reckonLays_34 rfl ?_
      refine g_iadd C dX1_reckonLays_36 ?_
      refine g_aload_n C 1 dX1_reckonLays_37 rfl ?_
      refine g_iload C 4 dX1_reckonLays_38 rfl ?_
      refine g_iload C 5 dX1_reckonLays_40 rfl ?_
      refine g_iload_n C 2 dX1_reckonLays_42 rfl ?_
      refine g_iload_n C 3 dX1_reckonLays_43 rfl ?_
      refine g_callVi0 C (kS_layTogether (xL X) (xD X) ka ad _ _ _ _ _ _ _ _ _ _ h) miX7_layTogether (gw_of tw3_129 rfl) (by decide) wC_o1 rfl rfl rfl (Nat.le_of_ble_eq_true rfl) z00 dX1_reckonLays_44 (fun r2 w hw => ?_)
      obtain ⟨F2, R2, J2, P2, B2, rfl, h⟩ := hw
      refine Cs_400 C (f := R2 400) rfl _ rfl h.1 dX1_reckonLays_47 ?_
      have h := h.2
      refine g_iinc C 5 (v5 + (1 : Int32)) [(5, .int (v5 + (1 : Int32))), (0, .ref (ad 499)), (1, .ref (ad 199)), (2, .int v2), (3, .int v3), (4, .int v4)] dX1_reckonLays_48 rfl (by rw [ci_1]) (by decide) rfl ?_
      refine g_goto C 15 dX1_reckonLays_51 (by decide) ?_
      exact g_lv [1, 2, 3, 4, 5, 0] rfl (ih _ _ _ _ _ _ _ _ _ h)
def qO_reckonLays_3 : Nat → FT → RT → JT → PT → BT → Int32 → Int32 → Int32 → (FT → RT → JT → PT → BT → Prop) → Prop
  | 0, _, _, _, _, _, _, _, _ => fun _ => False
  | n3 + 1, F, R, J, P, B, v2, v3, v4 => fun K => ((3 : Int32) ≤ v4 → (qO_fillBehind_b F R J P B (0 : Int32) (fun F2 R2 J2 P2 B2 => (vp_in (F2 411) 41) ∧ (∃ n88, qO_reckonLays_88 n88 F2 (va_up R2 405 (upd (R2 405) ((F2 411).toNatClampNeg) (F2 412))) J2 P2 B2 (F2 411) K)))) ∧ (¬ (3 : Int32) ≤ v4 → (∃ n15, qO_reckonLays_15 n15 (fun F R J P B v2 v3 v4 => qO_reckonLays_3 n3 F R J P B v2 v3 v4 K) F R J P B v2 v3 v4 (F 412) K))
set_option maxHeartbeats 4000000 in
set_option maxRecDepth 100000 in
theorem lO_reckonLays_3 {X : XT} {ka : Nat → ClassId} {ad : Nat → Nat} (C : Cx X cX1_reckonLays 6 RX1 none ka 5) {K : FT → RT → JT → PT → BT → Prop} (hret : RetV X cX1_reckonLays 0 0 (fun w => ∃ F R J P B, w = wC ad ka F R J P B ∧ K F R J P B)) : ∀ (n : Nat) (F : FT) (R : RT) (J : JT) (P : PT) (B : BT) (v2 : Int32) (v3 : Int32) (v4 : Int32), qO_reckonLays_3 n F R J P B v2 v3 v4 K → G X 0 0 (wC ad ka F R J P B) 3 [(0, .ref (ad 499)), (1, .ref (ad 199)), (2, .int v2), (3, .int v3), (4, .int v4)] [] := by
  intro n
  induction n with
  | zero => intro F R J P B v2 v3 v4 h; exact h.elim
  | succ n ih =>
    intro F R J P B v2 v3 v4 h
    refine g_iload C 4 dX1_reckonLays_3 rfl ?_
    refine g_iconst C (3 : Int32) dX1_reckonLays_5 ci_3 ?_
    refine g_icmp_ge C 60 dX1_reckonLays_6 (by decide) (fun c1 => ?_) (fun c1 => ?_)
    · have h := h.1 c1
      refine g_aload_n C 0 dX1_reckonLays_60 rfl ?_
      refine g_aload_n C 0 dX1_reckonLays_61 rfl ?_
      refine Cg_X1_4_behind C dX1_reckonLays_62 ?_
      refine g_iconst C (0 : Int32) dX1_reckonLays_65 ci_0 ?_
      refine g_callVv0 C (kO_fillBehind_b (xL X) (xD X) ka ad _ _ _ _ _ _ _ h) miX1_fillBehind (gw_of tw3_130 rfl) (by decide) wC_o4 rfl rfl rfl (Nat.le_of_ble_eq_true rfl) z00 dX1_reckonLays_66 (fun w hw => ?_)
      obtain ⟨F2, R2, J2, P2, B2, rfl, h⟩ := hw
      refine g_aload_n C 0 dX1_reckonLays_69 rfl ?_
      refine Cg_X1_4_fairPath C dX1_reckonLays_70 ?_
      refine g_aload_n C 0 dX1_reckonLays_73 rfl ?_
      refine Cg_X1_4_day C (v := F2 411) rfl dX1_reckonLays_74 ?_
      refine g_aload_n C 0 dX1_reckonLays_77 rfl ?_
      refine Cg_X1_4_laid C (v := F2 412) rfl dX1_reckonLays_78 ?_
      refine Cs_405 C (f := R2 405) rfl _ rfl h.1 dX1_reckonLays_81 ?_
      have h := h.2
      refine g_aload_n C 0 dX1_reckonLays_82 rfl ?_
      refine Cg_X1_4_day C (v := F2 411) rfl dX1_reckonLays_83 ?_
      refine g_istore C [(4, .int (F2 411)), (0, .ref (ad 499)), (1, .ref (ad 199)), (2, .int v2), (3, .int v3)] dX1_reckonLays_86 (by decide) rfl ?_
      obtain ⟨n1, h⟩ := h
      exact g_lv [1, 0] rfl (lO_reckonLays_88 C hret n1 _ _ _ _ _ _ h)
    · have h := h.2 c1
      refine g_aload_n C 0 dX1_reckonLays_9 rfl ?_
      refine Cg_X1_4_laid C (v := F 412) rfl dX1_reckonLays_10 ?_
      refine g_istore C [(5, .int (F 412)), (0, .ref (ad 499)), (1, .ref (ad 199)), (2, .int v2), (3, .int v3), (4, .int v4)] dX1_reckonLays_13 (by decide) rfl ?_
      obtain ⟨n1, h⟩ := h
      exact g_lv [1, 2, 3, 4, 5, 0] rfl (lO_reckonLays_15 C hret (fun F R J P B v2 v3 v4 h => ih F R J P B v2 v3 v4 h) n1 _ _ _ _ _ _ _ _ _ h)
def qO_reckonLays (F : FT) (R : RT) (J : JT) (P : PT) (B : BT) (a2 : Int32) (a3 : Int32) (K : FT → RT → JT → PT → BT → Prop) : Prop :=
  ∃ n3, qO_reckonLays_3 n3 F R J P B a2 a3 (0 : Int32) K
set_option maxHeartbeats 4000000 in
set_option maxRecDepth 100000 in
theorem bO_reckonLays {X : XT} {ka : Nat → ClassId} {ad : Nat → Nat} (C : Cx X cX1_reckonLays 6 RX1 none ka 5) {K : FT → RT → JT → PT → BT → Prop} (hret : RetV X cX1_reckonLays 0 0 (fun w => ∃ F R J P B, w = wC ad ka F R J P B ∧ K F R J P B)) (F : FT) (R : RT) (J : JT) (P : PT) (B : BT) (a2 : Int32) (a3 : Int32) (h : qO_reckonLays F R J P B a2 a3 K) : G X 0 0 (wC ad ka F R J P B) 0 [(0, .ref (ad 499)), (1, .ref (ad 199)), (2, .int a2), (3, .int a3)] [] := by
  unfold qO_reckonLays at h
  refine g_iconst C (0 : Int32) dX1_reckonLays_0 ci_0 ?_
  refine g_istore C [(4, .int (0 : Int32)), (0, .ref (ad 499)), (1, .ref (ad 199)), (2, .int a2), (3, .int a3)] dX1_reckonLays_1 (by decide) rfl ?_
  obtain ⟨n1, h⟩ := h
  exact g_lv [1, 2, 3, 4, 0] rfl (lO_reckonLays_3 C hret n1 _ _ _ _ _ _ _ _ h)
set_option maxHeartbeats 4000000 in
set_option maxRecDepth 100000 in
theorem kO_reckonLays (l : Launch) (D : va_G) (ka : Nat → ClassId) (ad : Nat → Nat) (F : FT) (R : RT) (J : JT) (P : PT) (B : BT) (a2 : Int32) (a3 : Int32) (K : FT → RT → JT → PT → BT → Prop) (h : qO_reckonLays F R J P B a2 a3 K) : MV l D ka yX1_reckonLays cX1_reckonLays 6 none 5 0 0 [.ref (ad 499), .ref (ad 199), .int a2, .int a3] (wC ad ka F R J P B) (fun w => ∃ F R J P B, w = wC ad ka F R J P B ∧ K F R J P B) := MV_of (by decide) (Nat.le_of_ble_eq_true rfl) (fun X C hroom hret => bO_reckonLays C hret F R J P B a2 a3 h)
set_option maxHeartbeats 4000000 in
set_option maxRecDepth 100000 in
theorem miX1_reckonLays : MInf yX1_reckonLays cX1_reckonLays 6 none 3 := ⟨(gw_of tw3_127 rfl), (gw_of tp_yX1_reckonLays rfl), (gw_of tw1_4 rfl), (gw_of tw3_128 rfl), by decide +kernel, by decide⟩

def qO_startAtSummer_5 : Nat → FT → RT → JT → PT → BT → Int32 → (FT → RT → JT → PT → BT → Prop) → Prop
  | 0, _, _, _, _, _, _ => fun _ => False
  | n5 + 1, F, R, J, P, B, v1 => fun K => ((F 407) ≤ v1 → ((vp_in (F 407) 201) ∧ (K F (va_up R 403 (upd (R 403) ((F 407).toNatClampNeg) (1000000 : Int32))) J P B))) ∧ (¬ (F 407) ≤ v1 → ((vp_in v1 201) ∧ (qO_startAtSummer_5 n5 F (va_up R 403 (upd (R 403) v1.toNatClampNeg (0 : Int32))) J P B (v1 + (1 : Int32)) K)))
set_option maxHeartbeats 4000000 in
set_option maxRecDepth 100000 in
theorem lO_startAtSummer_5 {X : XT} {ka : Nat → ClassId} {ad : Nat → Nat} (C : Cx X cX1_startAtSummer 2 RX1 none ka 1) {K : FT → RT → JT → PT → BT → Prop} (hret : RetV X cX1_startAtSummer 0 0 (fun w => ∃ F R J P B, w = wC ad ka F R J P B ∧ K F R J P B)) : ∀ (n : Nat) (F : FT) (R : RT) (J : JT) (P : PT) (B : BT) (v1 : Int32), qO_startAtSummer_5 n F R J P B v1 K → G X 0 0 (wC ad ka F R J P B) 5 [(0, .ref (ad 499)), (1, .int v1)] [] := by
  intro n
  induction n with
  | zero => intro F R J P B v1 h; exact h.elim
  | succ n ih =>
    intro F R J P B v1 h
    refine g_iload_n C 1 dX1_startAtSummer_5 rfl ?_
    refine g_aload_n C 0 dX1_startAtSummer_6 rfl ?_
    refine Cg_X1_4_stones C (v := F 407) rfl dX1_startAtSummer_7 ?_
    refine g_icmp_ge C 26 dX1_startAtSummer_10 (by decide) (fun c1 => ?_) (fun c1 => ?_)
    · have h := h.1 c1
      refine g_aload_n C 0 dX1_startAtSummer_26 rfl ?_
      refine Cg_X1_4_odds C dX1_startAtSummer_27 ?_
      refine g_aload_n C 0 dX1_startAtSummer_30 rfl ?_
      refine Cg_X1_4_stones C (v := F 407) rfl dX1_startAtSummer_31 ?_
      refine g_ldc C (gw_of tw3_147 rfl) dX1_startAtSummer_34 ?_
      refine Cs_403 C (f := R 403) rfl _ rfl h.1 dX1_startAtSummer_36 ?_
      have h := h.2
      exact hret _ _ _ ⟨_, _, _, _, _, rfl, h⟩ dX1_startAtSummer_37
    · have h := h.2 c1
      refine g_aload_n C 0 dX1_startAtSummer_13 rfl ?_
      refine Cg_X1_4_odds C dX1_startAtSummer_14 ?_
      refine g_iload_n C 1 dX1_startAtSummer_17 rfl ?_
      refine g_iconst C (0 : Int32) dX1_startAtSummer_18 ci_0 ?_
      refine Cs_403 C (f := R 403) rfl _ rfl h.1 dX1_startAtSummer_19 ?_
      have h := h.2
      refine g_iinc C 1 (v1 + (1 : Int32)) [(1, .int (v1 + (1 : Int32))), (0, .ref (ad 499))] dX1_startAtSummer_20 rfl (by rw [ci_1]) (by decide) rfl ?_
      refine g_goto C 5 dX1_startAtSummer_23 (by decide) ?_
      exact g_lv [1, 0] rfl (ih _ _ _ _ _ _ h)
def qO_startAtSummer (F : FT) (R : RT) (J : JT) (P : PT) (B : BT)  (K : FT → RT → JT → PT → BT → Prop) : Prop :=
  ∃ n5, qO_startAtSummer_5 n5 F R J P B (F 412) K
set_option maxHeartbeats 4000000 in
set_option maxRecDepth 100000 in
theorem bO_startAtSummer {X : XT} {ka : Nat → ClassId} {ad : Nat → Nat} (C : Cx X cX1_startAtSummer 2 RX1 none ka 1) {K : FT → RT → JT → PT → BT → Prop} (hret : RetV X cX1_startAtSummer 0 0 (fun w => ∃ F R J P B, w = wC ad ka F R J P B ∧ K F R J P B)) (F : FT) (R : RT) (J : JT) (P : PT) (B : BT)  (h : qO_startAtSummer F R J P B  K) : G X 0 0 (wC ad ka F R J P B) 0 [(0, .ref (ad 499))] [] := by
  unfold qO_startAtSummer at h
  refine g_aload_n C 0 dX1_startAtSummer_0 rfl ?_
  refine Cg_X1_4_laid C (v := F 412) rfl dX1_startAtSummer_1 ?_
  refine g_istore_n C [(1, .int (F 412)), (0, .ref (ad 499))] dX1_startAtSummer_4 (by decide) rfl ?_
  obtain ⟨n1, h⟩ := h
  exact g_lv [1, 0] rfl (lO_startAtSummer_5 C hret n1 _ _ _ _ _ _ h)
set_option maxHeartbeats 4000000 in
set_option maxRecDepth 100000 in
theorem kO_startAtSummer (l : Launch) (D : va_G) (ka : Nat → ClassId) (ad : Nat → Nat) (F : FT) (R : RT) (J : JT) (P : PT) (B : BT)  (K : FT → RT → JT → PT → BT → Prop) (h : qO_startAtSummer F R J P B  K) : MV l D ka yX1_startAtSummer cX1_startAtSummer 2 none 1 0 0 [.ref (ad 499)] (wC ad ka F R J P B) (fun w => ∃ F R J P B, w = wC ad ka F R J P B ∧ K F R J P B) := MV_of (by decide) (Nat.le_of_ble_eq_true rfl) (fun X C hroom hret => bO_startAtSummer C hret F R J P B  h)
set_option maxHeartbeats 4000000 in
set_option maxRecDepth 100000 in
theorem miX1_startAtSummer : MInf yX1_startAtSummer cX1_startAtSummer 2 none 0 := ⟨(gw_of tw3_145 rfl), (gw_of tp_yX1_startAtSummer rfl), (gw_of tw1_4 rfl), (gw_of tw3_146 rfl), by decide +kernel, by decide⟩

def qO_stepBack_ob_37 : Nat → FT → RT → JT → PT → BT → Int32 → Int32 → Int32 → (FT → RT → JT → PT → BT → Prop) → Prop
  | 0, _, _, _, _, _, _, _, _ => fun _ => False
  | n37 + 1, F, R, J, P, B, v4, v5, v6 => fun K => (v4 < v6 → (K F R J P B)) ∧ (¬ v4 < v6 → ((vp_in v6 603) ∧ ((vp_in (R 401 v6.toNatClampNeg) 201) ∧ ((vp_in ((201 : Int32) + v6) 603) ∧ ((vp_in (R 401 (((201 : Int32) + v6).toNatClampNeg)) 201) ∧ ((vp_in ((402 : Int32) + v6) 603) ∧ ((vp_in (R 401 (((402 : Int32) + v6).toNatClampNeg)) 201) ∧ ((vp_in v6 201) ∧ (qO_stepBack_ob_37 n37 F (va_up R 403 (upd (R 403) v6.toNatClampNeg (((((R 403 ((R 401 v6.toNatClampNeg).toNatClampNeg)) * v5) + ((R 403 ((R 401 (((201 : Int32) + v6).toNatClampNeg)).toNatClampNeg)) * (F 409))) + ((R 403 ((R 401 (((402 : Int32) + v6).toNatClampNeg)).toNatClampNeg)) * (F 410))) / (10 : Int32)))) J P B v4 v5 (v6 + (1 : Int32)) K)))))))))
set_option maxHeartbeats 4000000 in
set_option maxRecDepth 100000 in
theorem lO_stepBack_ob_37 {X : XT} {ka : Nat → ClassId} {ad : Nat → Nat} (C : Cx X cX1_stepBack 7 RX1 none ka 1) {K : FT → RT → JT → PT → BT → Prop} (hret : RetV X cX1_stepBack 0 0 (fun w => ∃ F R J P B, w = wC ad ka F R J P B ∧ K F R J P B)) : ∀ (n : Nat) (F : FT) (R : RT) (J : JT) (P : PT) (B : BT) (v4 : Int32) (v5 : Int32) (v6 : Int32), qO_stepBack_ob_37 n F R J P B v4 v5 v6 K → G X 0 0 (wC ad ka F R J P B) 37 [(0, .ref (ad 499)), (1, .ref (ad 403)), (2, .ref (ad 401)), (4, .int v4), (5, .int v5), (6, .int v6)] [] := by
  intro n
  induction n with
  | zero => intro F R J P B v4 v5 v6 h; exact h.elim
  | succ n ih =>
    intro F R J P B v4 v5 v6 h
    refine g_iload C 5 dX1_stepBack_37 rfl ?_
    refine g_iload C 3 dX1_stepBack_39 rfl ?_
    refine g_icmp_gt C 98 dX1_stepBack_41 (by decide) (fun c1 => ?_) (fun c1 => ?_)
    · have h := h.1 c1
      exact hret _ _ _ ⟨_, _, _, _, _, rfl, h⟩ dX1_stepBack_98
    · have h := h.2 c1
      refine g_aload_n C 1 dX1_stepBack_44 rfl ?_
      refine g_iload C 5 dX1_stepBack_45 rfl ?_
      refine g_aload_n C 1 dX1_stepBack_47 rfl ?_
      refine g_aload_n C 2 dX1_stepBack_48 rfl ?_
      refine g_iload C 5 dX1_stepBack_49 rfl ?_
      refine Ca_401 C (f := R 401) rfl _ rfl h.1 dX1_stepBack_51 ?_
      have h := h.2
      refine Ca_403 C (f := R 403) rfl _ rfl h.1 dX1_stepBack_52 ?_
      have h := h.2
      refine g_iload C 4 dX1_stepBack_53 rfl ?_
      refine g_imul C dX1_stepBack_55 ?_
      refine g_aload_n C 1 dX1_stepBack_56 rfl ?_
      refine g_aload_n C 2 dX1_stepBack_57 rfl ?_
      refine g_sipush C (201 : Int32) dX1_stepBack_58 cs_201 ?_
      refine g_iload C 5 dX1_stepBack_61 rfl ?_
      refine g_iadd C dX1_stepBack_63 ?_
      refine Ca_401 C (f := R 401) rfl _ rfl h.1 dX1_stepBack_64 ?_
      have h := h.2
      refine Ca_403 C (f := R 403) rfl _ rfl h.1 dX1_stepBack_65 ?_
      have h := h.2
      refine g_aload_n C 0 dX1_stepBack_66 rfl ?_
      refine Cg_X1_4_frost C (v := F 409) rfl dX1_stepBack_67 ?_
      refine g_imul C dX1_stepBack_70 ?_
      refine g_iadd C dX1_stepBack_71 ?_
      refine g_aload_n C 1 dX1_stepBack_72 rfl ?_
      refine g_aload_n C 2 dX1_stepBack_73 rfl ?_
      refine g_sipush C (402 : Int32) dX1_stepBack_74 cs_402 ?_
      refine g_iload C 5 dX1_stepBack_77 rfl ?_
      refine g_iadd C dX1_stepBack_79 ?_
      refine Ca_401 C (f := R 401) rfl _ rfl h.1 dX1_stepBack_80 ?_
      have h := h.2
      refine Ca_403 C (f := R 403) rfl _ rfl h.1 dX1_stepBack_81 ?_
      have h := h.2
      refine g_aload_n C 0 dX1_stepBack_82 rfl ?_
      refine Cg_X1_4_thaw C (v := F 410) rfl dX1_stepBack_83 ?_
      refine g_imul C dX1_stepBack_86 ?_
      refine g_iadd C dX1_stepBack_87 ?_
      refine g_bipush C (10 : Int32) dX1_stepBack_88 cb_10 ?_
      refine g_idiv C dX1_stepBack_90 (by decide) ?_
      refine Cs_403 C (f := R 403) rfl _ rfl h.1 dX1_stepBack_91 ?_
      have h := h.2
      refine g_iinc C 5 (v6 + (1 : Int32)) [(6, .int (v6 + (1 : Int32))), (0, .ref (ad 499)), (1, .ref (ad 403)), (2, .ref (ad 401)), (4, .int v4), (5, .int v5)] dX1_stepBack_92 rfl (by rw [ci_1]) (by decide) rfl ?_
      refine g_goto C 37 dX1_stepBack_95 (by decide) ?_
      exact g_lv [1, 2, 3, 4, 5, 0] rfl (ih _ _ _ _ _ _ _ _ h)
def qO_stepBack_ob (F : FT) (R : RT) (J : JT) (P : PT) (B : BT) (a3 : Int32) (K : FT → RT → JT → PT → BT → Prop) : Prop :=
  (vp_in a3 41) ∧ (∃ n37, qO_stepBack_ob_37 n37 F R J P B (if ((F 407) - (1 : Int32)) < (R 405 a3.toNatClampNeg) then ((F 407) - (1 : Int32)) else (R 405 a3.toNatClampNeg)) (((10 : Int32) - (F 409)) - (F 410)) (F 412) K)
set_option maxHeartbeats 4000000 in
set_option maxRecDepth 100000 in
theorem bO_stepBack_ob {X : XT} {ka : Nat → ClassId} {ad : Nat → Nat} (C : Cx X cX1_stepBack 7 RX1 none ka 1) {K : FT → RT → JT → PT → BT → Prop} (hret : RetV X cX1_stepBack 0 0 (fun w => ∃ F R J P B, w = wC ad ka F R J P B ∧ K F R J P B)) (F : FT) (R : RT) (J : JT) (P : PT) (B : BT) (a3 : Int32) (h : qO_stepBack_ob F R J P B a3 K) : G X 0 0 (wC ad ka F R J P B) 0 [(0, .ref (ad 499)), (1, .ref (ad 403)), (2, .ref (ad 401)), (3, .int a3)] [] := by
  unfold qO_stepBack_ob at h
  refine g_aload_n C 0 dX1_stepBack_0 rfl ?_
  refine Cg_X1_4_fairPath C dX1_stepBack_1 ?_
  refine g_iload_n C 3 dX1_stepBack_4 rfl ?_
  refine Ca_405 C (f := R 405) rfl _ rfl h.1 dX1_stepBack_5 ?_
  have h := h.2
  refine g_aload_n C 0 dX1_stepBack_6 rfl ?_
  refine Cg_X1_4_stones C (v := F 407) rfl dX1_stepBack_7 ?_
  refine g_iconst C (1 : Int32) dX1_stepBack_10 ci_1 ?_
  refine g_isub C dX1_stepBack_11 ?_
  refine g_mmin C (gw_of tw3_138 rfl) (by decide) (Nat.le_of_ble_eq_true rfl) z00 dX1_stepBack_12 ?_
  refine g_istore C [(4, .int (if ((F 407) - (1 : Int32)) < (R 405 a3.toNatClampNeg) then ((F 407) - (1 : Int32)) else (R 405 a3.toNatClampNeg))), (0, .ref (ad 499)), (1, .ref (ad 403)), (2, .ref (ad 401)), (3, .int a3)] dX1_stepBack_15 (by decide) rfl ?_
  refine g_bipush C (10 : Int32) dX1_stepBack_17 cb_10 ?_
  refine g_aload_n C 1 dX1_stepBack_19 rfl ?_
  refine Cg_X1_4_frost C (v := F 409) rfl dX1_stepBack_20 ?_
  refine g_isub C dX1_stepBack_23 ?_
  refine g_aload_n C 1 dX1_stepBack_24 rfl ?_
  refine Cg_X1_4_thaw C (v := F 410) rfl dX1_stepBack_25 ?_
  refine g_isub C dX1_stepBack_28 ?_
  refine g_istore C [(5, .int (((10 : Int32) - (F 409)) - (F 410))), (4, .int (if ((F 407) - (1 : Int32)) < (R 405 a3.toNatClampNeg) then ((F 407) - (1 : Int32)) else (R 405 a3.toNatClampNeg))), (0, .ref (ad 499)), (1, .ref (ad 403)), (2, .ref (ad 401)), (3, .int a3)] dX1_stepBack_29 (by decide) rfl ?_
  refine g_aload_n C 2 dX1_stepBack_31 rfl ?_
  refine Cg_X1_4_laid C (v := F 412) rfl dX1_stepBack_32 ?_
  refine g_istore C [(6, .int (F 412)), (5, .int (((10 : Int32) - (F 409)) - (F 410))), (4, .int (if ((F 407) - (1 : Int32)) < (R 405 a3.toNatClampNeg) then ((F 407) - (1 : Int32)) else (R 405 a3.toNatClampNeg))), (0, .ref (ad 499)), (1, .ref (ad 403)), (2, .ref (ad 401)), (3, .int a3)] dX1_stepBack_35 (by decide) rfl ?_
  obtain ⟨n1, h⟩ := h
  exact g_lv [3, 4, 5, 2, 1, 0] rfl (lO_stepBack_ob_37 C hret n1 _ _ _ _ _ _ _ _ h)
set_option maxHeartbeats 4000000 in
set_option maxRecDepth 100000 in
theorem kO_stepBack_ob (l : Launch) (D : va_G) (ka : Nat → ClassId) (ad : Nat → Nat) (F : FT) (R : RT) (J : JT) (P : PT) (B : BT) (a3 : Int32) (K : FT → RT → JT → PT → BT → Prop) (h : qO_stepBack_ob F R J P B a3 K) : MV l D ka yX1_stepBack cX1_stepBack 7 none 1 0 0 [.ref (ad 499), .ref (ad 403), .ref (ad 401), .int a3] (wC ad ka F R J P B) (fun w => ∃ F R J P B, w = wC ad ka F R J P B ∧ K F R J P B) := MV_of (by decide) (Nat.le_of_ble_eq_true rfl) (fun X C hroom hret => bO_stepBack_ob C hret F R J P B a3 h)
set_option maxHeartbeats 4000000 in
set_option maxRecDepth 100000 in
theorem miX1_stepBack : MInf yX1_stepBack cX1_stepBack 7 none 3 := ⟨(gw_of tw3_150 rfl), (gw_of tp_yX1_stepBack rfl), (gw_of tw1_4 rfl), (gw_of tw3_151 rfl), by decide +kernel, by decide⟩

def qO_stepBack_hh_37 : Nat → FT → RT → JT → PT → BT → Int32 → Int32 → Int32 → (FT → RT → JT → PT → BT → Prop) → Prop
  | 0, _, _, _, _, _, _, _, _ => fun _ => False
  | n37 + 1, F, R, J, P, B, v4, v5, v6 => fun K => (v4 < v6 → (K F R J P B)) ∧ (¬ v4 < v6 → ((vp_in v6 603) ∧ ((vp_in (R 402 v6.toNatClampNeg) 201) ∧ ((vp_in ((201 : Int32) + v6) 603) ∧ ((vp_in (R 402 (((201 : Int32) + v6).toNatClampNeg)) 201) ∧ ((vp_in ((402 : Int32) + v6) 603) ∧ ((vp_in (R 402 (((402 : Int32) + v6).toNatClampNeg)) 201) ∧ ((vp_in v6 201) ∧ (qO_stepBack_hh_37 n37 F (va_up R 404 (upd (R 404) v6.toNatClampNeg (((((R 404 ((R 402 v6.toNatClampNeg).toNatClampNeg)) * v5) + ((R 404 ((R 402 (((201 : Int32) + v6).toNatClampNeg)).toNatClampNeg)) * (F 409))) + ((R 404 ((R 402 (((402 : Int32) + v6).toNatClampNeg)).toNatClampNeg)) * (F 410))) / (10 : Int32)))) J P B v4 v5 (v6 + (1 : Int32)) K)))))))))
set_option maxHeartbeats 4000000 in
set_option maxRecDepth 100000 in
theorem lO_stepBack_hh_37 {X : XT} {ka : Nat → ClassId} {ad : Nat → Nat} (C : Cx X cX1_stepBack 7 RX1 none ka 1) {K : FT → RT → JT → PT → BT → Prop} (hret : RetV X cX1_stepBack 0 0 (fun w => ∃ F R J P B, w = wC ad ka F R J P B ∧ K F R J P B)) : ∀ (n : Nat) (F : FT) (R : RT) (J : JT) (P : PT) (B : BT) (v4 : Int32) (v5 : Int32) (v6 : Int32), qO_stepBack_hh_37 n F R J P B v4 v5 v6 K → G X 0 0 (wC ad ka F R J P B) 37 [(0, .ref (ad 499)), (1, .ref (ad 404)), (2, .ref (ad 402)), (4, .int v4), (5, .int v5), (6, .int v6)] [] := by
  intro n
  induction n with
  | zero => intro F R J P B v4 v5 v6 h; exact h.elim
  | succ n ih =>
    intro F R J P B v4 v5 v6 h
    refine g_iload C 5 dX1_stepBack_37 rfl ?_
    refine g_iload C 3 dX1_stepBack_39 rfl ?_
    refine g_icmp_gt C 98 dX1_stepBack_41 (by decide) (fun c1 => ?_) (fun c1 => ?_)
    · have h := h.1 c1
      exact hret _ _ _ ⟨_, _, _, _, _, rfl, h⟩ dX1_stepBack_98
    · have h := h.2 c1
      refine g_aload_n C 1 dX1_stepBack_44 rfl ?_
      refine g_iload C 5 dX1_stepBack_45 rfl ?_
      refine g_aload_n C 1 dX1_stepBack_47 rfl ?_
      refine g_aload_n C 2 dX1_stepBack_48 rfl ?_
      refine g_iload C 5 dX1_stepBack_49 rfl ?_
      refine Ca_402 C (f := R 402) rfl _ rfl h.1 dX1_stepBack_51 ?_
      have h := h.2
      refine Ca_404 C (f := R 404) rfl _ rfl h.1 dX1_stepBack_52 ?_
      have h := h.2
      refine g_iload C 4 dX1_stepBack_53 rfl ?_
      refine g_imul C dX1_stepBack_55 ?_
      refine g_aload_n C 1 dX1_stepBack_56 rfl ?_
      refine g_aload_n C 2 dX1_stepBack_57 rfl ?_
      refine g_sipush C (201 : Int32) dX1_stepBack_58 cs_201 ?_
      refine g_iload C 5 dX1_stepBack_61 rfl ?_
      refine g_iadd C dX1_stepBack_63 ?_
      refine Ca_402 C (f := R 402) rfl _ rfl h.1 dX1_stepBack_64 ?_
      have h := h.2
      refine Ca_404 C (f := R 404) rfl _ rfl h.1 dX1_stepBack_65 ?_
      have h := h.2
      refine g_aload_n C 0 dX1_stepBack_66 rfl ?_
      refine Cg_X1_4_frost C (v := F 409) rfl dX1_stepBack_67 ?_
      refine g_imul C dX1_stepBack_70 ?_
      refine g_iadd C dX1_stepBack_71 ?_
      refine g_aload_n C 1 dX1_stepBack_72 rfl ?_
      refine g_aload_n C 2 dX1_stepBack_73 rfl ?_
      refine g_sipush C (402 : Int32) dX1_stepBack_74 cs_402 ?_
      refine g_iload C 5 dX1_stepBack_77 rfl ?_
      refine g_iadd C dX1_stepBack_79 ?_
      refine Ca_402 C (f := R 402) rfl _ rfl h.1 dX1_stepBack_80 ?_
      have h := h.2
      refine Ca_404 C (f := R 404) rfl _ rfl h.1 dX1_stepBack_81 ?_
      have h := h.2
      refine g_aload_n C 0 dX1_stepBack_82 rfl ?_
      refine Cg_X1_4_thaw C (v := F 410) rfl dX1_stepBack_83 ?_
      refine g_imul C dX1_stepBack_86 ?_
      refine g_iadd C dX1_stepBack_87 ?_
      refine g_bipush C (10 : Int32) dX1_stepBack_88 cb_10 ?_
      refine g_idiv C dX1_stepBack_90 (by decide) ?_
      refine Cs_404 C (f := R 404) rfl _ rfl h.1 dX1_stepBack_91 ?_
      have h := h.2
      refine g_iinc C 5 (v6 + (1 : Int32)) [(6, .int (v6 + (1 : Int32))), (0, .ref (ad 499)), (1, .ref (ad 404)), (2, .ref (ad 402)), (4, .int v4), (5, .int v5)] dX1_stepBack_92 rfl (by rw [ci_1]) (by decide) rfl ?_
      refine g_goto C 37 dX1_stepBack_95 (by decide) ?_
      exact g_lv [1, 2, 3, 4, 5, 0] rfl (ih _ _ _ _ _ _ _ _ h)
def qO_stepBack_hh (F : FT) (R : RT) (J : JT) (P : PT) (B : BT) (a3 : Int32) (K : FT → RT → JT → PT → BT → Prop) : Prop :=
  (vp_in a3 41) ∧ (∃ n37, qO_stepBack_hh_37 n37 F R J P B (if ((F 407) - (1 : Int32)) < (R 405 a3.toNatClampNeg) then ((F 407) - (1 : Int32)) else (R 405 a3.toNatClampNeg)) (((10 : Int32) - (F 409)) - (F 410)) (F 412) K)
set_option maxHeartbeats 4000000 in
set_option maxRecDepth 100000 in
theorem bO_stepBack_hh {X : XT} {ka : Nat → ClassId} {ad : Nat → Nat} (C : Cx X cX1_stepBack 7 RX1 none ka 1) {K : FT → RT → JT → PT → BT → Prop} (hret : RetV X cX1_stepBack 0 0 (fun w => ∃ F R J P B, w = wC ad ka F R J P B ∧ K F R J P B)) (F : FT) (R : RT) (J : JT) (P : PT) (B : BT) (a3 : Int32) (h : qO_stepBack_hh F R J P B a3 K) : G X 0 0 (wC ad ka F R J P B) 0 [(0, .ref (ad 499)), (1, .ref (ad 404)), (2, .ref (ad 402)), (3, .int a3)] [] := by
  unfold qO_stepBack_hh at h
  refine g_aload_n C 0 dX1_stepBack_0 rfl ?_
  refine Cg_X1_4_fairPath C dX1_stepBack_1 ?_
  refine g_iload_n C 3 dX1_stepBack_4 rfl ?_
  refine Ca_405 C (f := R 405) rfl _ rfl h.1 dX1_stepBack_5 ?_
  have h := h.2
  refine g_aload_n C 0 dX1_stepBack_6 rfl ?_
  refine Cg_X1_4_stones C (v := F 407) rfl dX1_stepBack_7 ?_
  refine g_iconst C (1 : Int32) dX1_stepBack_10 ci_1 ?_
  refine g_isub C dX1_stepBack_11 ?_
  refine g_mmin C (gw_of tw3_138 rfl) (by decide) (Nat.le_of_ble_eq_true rfl) z00 dX1_stepBack_12 ?_
  refine g_istore C [(4, .int (if ((F 407) - (1 : Int32)) < (R 405 a3.toNatClampNeg) then ((F 407) - (1 : Int32)) else (R 405 a3.toNatClampNeg))), (0, .ref (ad 499)), (1, .ref (ad 404)), (2, .ref (ad 402)), (3, .int a3)] dX1_stepBack_15 (by decide) rfl ?_
  refine g_bipush C (10 : Int32) dX1_stepBack_17 cb_10 ?_
  refine g_aload_n C 1 dX1_stepBack_19 rfl ?_
  refine Cg_X1_4_frost C (v := F 409) rfl dX1_stepBack_20 ?_
  refine g_isub C dX1_stepBack_23 ?_
  refine g_aload_n C 1 dX1_stepBack_24 rfl ?_
  refine Cg_X1_4_thaw C (v := F 410) rfl dX1_stepBack_25 ?_
  refine g_isub C dX1_stepBack_28 ?_
  refine g_istore C [(5, .int (((10 : Int32) - (F 409)) - (F 410))), (4, .int (if ((F 407) - (1 : Int32)) < (R 405 a3.toNatClampNeg) then ((F 407) - (1 : Int32)) else (R 405 a3.toNatClampNeg))), (0, .ref (ad 499)), (1, .ref (ad 404)), (2, .ref (ad 402)), (3, .int a3)] dX1_stepBack_29 (by decide) rfl ?_
  refine g_aload_n C 2 dX1_stepBack_31 rfl ?_
  refine Cg_X1_4_laid C (v := F 412) rfl dX1_stepBack_32 ?_
  refine g_istore C [(6, .int (F 412)), (5, .int (((10 : Int32) - (F 409)) - (F 410))), (4, .int (if ((F 407) - (1 : Int32)) < (R 405 a3.toNatClampNeg) then ((F 407) - (1 : Int32)) else (R 405 a3.toNatClampNeg))), (0, .ref (ad 499)), (1, .ref (ad 404)), (2, .ref (ad 402)), (3, .int a3)] dX1_stepBack_35 (by decide) rfl ?_
  obtain ⟨n1, h⟩ := h
  exact g_lv [3, 4, 5, 2, 1, 0] rfl (lO_stepBack_hh_37 C hret n1 _ _ _ _ _ _ _ _ h)
set_option maxHeartbeats 4000000 in
set_option maxRecDepth 100000 in
theorem kO_stepBack_hh (l : Launch) (D : va_G) (ka : Nat → ClassId) (ad : Nat → Nat) (F : FT) (R : RT) (J : JT) (P : PT) (B : BT) (a3 : Int32) (K : FT → RT → JT → PT → BT → Prop) (h : qO_stepBack_hh F R J P B a3 K) : MV l D ka yX1_stepBack cX1_stepBack 7 none 1 0 0 [.ref (ad 499), .ref (ad 404), .ref (ad 402), .int a3] (wC ad ka F R J P B) (fun w => ∃ F R J P B, w = wC ad ka F R J P B ∧ K F R J P B) := MV_of (by decide) (Nat.le_of_ble_eq_true rfl) (fun X C hroom hret => bO_stepBack_hh C hret F R J P B a3 h)

def qO_stepBack_hb_37 : Nat → FT → RT → JT → PT → BT → Int32 → Int32 → Int32 → (FT → RT → JT → PT → BT → Prop) → Prop
  | 0, _, _, _, _, _, _, _, _ => fun _ => False
  | n37 + 1, F, R, J, P, B, v4, v5, v6 => fun K => (v4 < v6 → (K F R J P B)) ∧ (¬ v4 < v6 → ((vp_in v6 603) ∧ ((vp_in (R 401 v6.toNatClampNeg) 201) ∧ ((vp_in ((201 : Int32) + v6) 603) ∧ ((vp_in (R 401 (((201 : Int32) + v6).toNatClampNeg)) 201) ∧ ((vp_in ((402 : Int32) + v6) 603) ∧ ((vp_in (R 401 (((402 : Int32) + v6).toNatClampNeg)) 201) ∧ ((vp_in v6 201) ∧ (qO_stepBack_hb_37 n37 F (va_up R 404 (upd (R 404) v6.toNatClampNeg (((((R 404 ((R 401 v6.toNatClampNeg).toNatClampNeg)) * v5) + ((R 404 ((R 401 (((201 : Int32) + v6).toNatClampNeg)).toNatClampNeg)) * (F 409))) + ((R 404 ((R 401 (((402 : Int32) + v6).toNatClampNeg)).toNatClampNeg)) * (F 410))) / (10 : Int32)))) J P B v4 v5 (v6 + (1 : Int32)) K)))))))))
set_option maxHeartbeats 4000000 in
set_option maxRecDepth 100000 in
theorem lO_stepBack_hb_37 {X : XT} {ka : Nat → ClassId} {ad : Nat → Nat} (C : Cx X cX1_stepBack 7 RX1 none ka 1) {K : FT → RT → JT → PT → BT → Prop} (hret : RetV X cX1_stepBack 0 0 (fun w => ∃ F R J P B, w = wC ad ka F R J P B ∧ K F R J P B)) : ∀ (n : Nat) (F : FT) (R : RT) (J : JT) (P : PT) (B : BT) (v4 : Int32) (v5 : Int32) (v6 : Int32), qO_stepBack_hb_37 n F R J P B v4 v5 v6 K → G X 0 0 (wC ad ka F R J P B) 37 [(0, .ref (ad 499)), (1, .ref (ad 404)), (2, .ref (ad 401)), (4, .int v4), (5, .int v5), (6, .int v6)] [] := by
  intro n
  induction n with
  | zero => intro F R J P B v4 v5 v6 h; exact h.elim
  | succ n ih =>
    intro F R J P B v4 v5 v6 h
    refine g_iload C 5 dX1_stepBack_37 rfl ?_
    refine g_iload C 3 dX1_stepBack_39 rfl ?_
    refine g_icmp_gt C 98 dX1_stepBack_41 (by decide) (fun c1 => ?_) (fun c1 => ?_)
    · have h := h.1 c1
      exact hret _ _ _ ⟨_, _, _, _, _, rfl, h⟩ dX1_stepBack_98
    · have h := h.2 c1
      refine g_aload_n C 1 dX1_stepBack_44 rfl ?_
      refine g_iload C 5 dX1_stepBack_45 rfl ?_
      refine g_aload_n C 1 dX1_stepBack_47 rfl ?_
      refine g_aload_n C 2 dX1_stepBack_48 rfl ?_
      refine g_iload C 5 dX1_stepBack_49 rfl ?_
      refine Ca_401 C (f := R 401) rfl _ rfl h.1 dX1_stepBack_51 ?_
      have h := h.2
      refine Ca_404 C (f := R 404) rfl _ rfl h.1 dX1_stepBack_52 ?_
      have h := h.2
      refine g_iload C 4 dX1_stepBack_53 rfl ?_
      refine g_imul C dX1_stepBack_55 ?_
      refine g_aload_n C 1 dX1_stepBack_56 rfl ?_
      refine g_aload_n C 2 dX1_stepBack_57 rfl ?_
      refine g_sipush C (201 : Int32) dX1_stepBack_58 cs_201 ?_
      refine g_iload C 5 dX1_stepBack_61 rfl ?_
      refine g_iadd C dX1_stepBack_63 ?_
      refine Ca_401 C (f := R 401) rfl _ rfl h.1 dX1_stepBack_64 ?_
      have h := h.2
      refine Ca_404 C (f := R 404) rfl _ rfl h.1 dX1_stepBack_65 ?_
      have h := h.2
      refine g_aload_n C 0 dX1_stepBack_66 rfl ?_
      refine Cg_X1_4_frost C (v := F 409) rfl dX1_stepBack_67 ?_
      refine g_imul C dX1_stepBack_70 ?_
      refine g_iadd C dX1_stepBack_71 ?_
      refine g_aload_n C 1 dX1_stepBack_72 rfl ?_
      refine g_aload_n C 2 dX1_stepBack_73 rfl ?_
      refine g_sipush C (402 : Int32) dX1_stepBack_74 cs_402 ?_
      refine g_iload C 5 dX1_stepBack_77 rfl ?_
      refine g_iadd C dX1_stepBack_79 ?_
      refine Ca_401 C (f := R 401) rfl _ rfl h.1 dX1_stepBack_80 ?_
      have h := h.2
      refine Ca_404 C (f := R 404) rfl _ rfl h.1 dX1_stepBack_81 ?_
      have h := h.2
      refine g_aload_n C 0 dX1_stepBack_82 rfl ?_
      refine Cg_X1_4_thaw C (v := F 410) rfl dX1_stepBack_83 ?_
      refine g_imul C dX1_stepBack_86 ?_
      refine g_iadd C dX1_stepBack_87 ?_
      refine g_bipush C (10 : Int32) dX1_stepBack_88 cb_10 ?_
      refine g_idiv C dX1_stepBack_90 (by decide) ?_
      refine Cs_404 C (f := R 404) rfl _ rfl h.1 dX1_stepBack_91 ?_
      have h := h.2
      refine g_iinc C 5 (v6 + (1 : Int32)) [(6, .int (v6 + (1 : Int32))), (0, .ref (ad 499)), (1, .ref (ad 404)), (2, .ref (ad 401)), (4, .int v4), (5, .int v5)] dX1_stepBack_92 rfl (by rw [ci_1]) (by decide) rfl ?_
      refine g_goto C 37 dX1_stepBack_95 (by decide) ?_
      exact g_lv [1, 2, 3, 4, 5, 0] rfl (ih _ _ _ _ _ _ _ _ h)
def qO_stepBack_hb (F : FT) (R : RT) (J : JT) (P : PT) (B : BT) (a3 : Int32) (K : FT → RT → JT → PT → BT → Prop) : Prop :=
  (vp_in a3 41) ∧ (∃ n37, qO_stepBack_hb_37 n37 F R J P B (if ((F 407) - (1 : Int32)) < (R 405 a3.toNatClampNeg) then ((F 407) - (1 : Int32)) else (R 405 a3.toNatClampNeg)) (((10 : Int32) - (F 409)) - (F 410)) (F 412) K)
set_option maxHeartbeats 4000000 in
set_option maxRecDepth 100000 in
theorem bO_stepBack_hb {X : XT} {ka : Nat → ClassId} {ad : Nat → Nat} (C : Cx X cX1_stepBack 7 RX1 none ka 1) {K : FT → RT → JT → PT → BT → Prop} (hret : RetV X cX1_stepBack 0 0 (fun w => ∃ F R J P B, w = wC ad ka F R J P B ∧ K F R J P B)) (F : FT) (R : RT) (J : JT) (P : PT) (B : BT) (a3 : Int32) (h : qO_stepBack_hb F R J P B a3 K) : G X 0 0 (wC ad ka F R J P B) 0 [(0, .ref (ad 499)), (1, .ref (ad 404)), (2, .ref (ad 401)), (3, .int a3)] [] := by
  unfold qO_stepBack_hb at h
  refine g_aload_n C 0 dX1_stepBack_0 rfl ?_
  refine Cg_X1_4_fairPath C dX1_stepBack_1 ?_
  refine g_iload_n C 3 dX1_stepBack_4 rfl ?_
  refine Ca_405 C (f := R 405) rfl _ rfl h.1 dX1_stepBack_5 ?_
  have h := h.2
  refine g_aload_n C 0 dX1_stepBack_6 rfl ?_
  refine Cg_X1_4_stones C (v := F 407) rfl dX1_stepBack_7 ?_
  refine g_iconst C (1 : Int32) dX1_stepBack_10 ci_1 ?_
  refine g_isub C dX1_stepBack_11 ?_
  refine g_mmin C (gw_of tw3_138 rfl) (by decide) (Nat.le_of_ble_eq_true rfl) z00 dX1_stepBack_12 ?_
  refine g_istore C [(4, .int (if ((F 407) - (1 : Int32)) < (R 405 a3.toNatClampNeg) then ((F 407) - (1 : Int32)) else (R 405 a3.toNatClampNeg))), (0, .ref (ad 499)), (1, .ref (ad 404)), (2, .ref (ad 401)), (3, .int a3)] dX1_stepBack_15 (by decide) rfl ?_
  refine g_bipush C (10 : Int32) dX1_stepBack_17 cb_10 ?_
  refine g_aload_n C 1 dX1_stepBack_19 rfl ?_
  refine Cg_X1_4_frost C (v := F 409) rfl dX1_stepBack_20 ?_
  refine g_isub C dX1_stepBack_23 ?_
  refine g_aload_n C 1 dX1_stepBack_24 rfl ?_
  refine Cg_X1_4_thaw C (v := F 410) rfl dX1_stepBack_25 ?_
  refine g_isub C dX1_stepBack_28 ?_
  refine g_istore C [(5, .int (((10 : Int32) - (F 409)) - (F 410))), (4, .int (if ((F 407) - (1 : Int32)) < (R 405 a3.toNatClampNeg) then ((F 407) - (1 : Int32)) else (R 405 a3.toNatClampNeg))), (0, .ref (ad 499)), (1, .ref (ad 404)), (2, .ref (ad 401)), (3, .int a3)] dX1_stepBack_29 (by decide) rfl ?_
  refine g_aload_n C 2 dX1_stepBack_31 rfl ?_
  refine Cg_X1_4_laid C (v := F 412) rfl dX1_stepBack_32 ?_
  refine g_istore C [(6, .int (F 412)), (5, .int (((10 : Int32) - (F 409)) - (F 410))), (4, .int (if ((F 407) - (1 : Int32)) < (R 405 a3.toNatClampNeg) then ((F 407) - (1 : Int32)) else (R 405 a3.toNatClampNeg))), (0, .ref (ad 499)), (1, .ref (ad 404)), (2, .ref (ad 401)), (3, .int a3)] dX1_stepBack_35 (by decide) rfl ?_
  obtain ⟨n1, h⟩ := h
  exact g_lv [3, 4, 5, 2, 1, 0] rfl (lO_stepBack_hb_37 C hret n1 _ _ _ _ _ _ _ _ h)
set_option maxHeartbeats 4000000 in
set_option maxRecDepth 100000 in
theorem kO_stepBack_hb (l : Launch) (D : va_G) (ka : Nat → ClassId) (ad : Nat → Nat) (F : FT) (R : RT) (J : JT) (P : PT) (B : BT) (a3 : Int32) (K : FT → RT → JT → PT → BT → Prop) (h : qO_stepBack_hb F R J P B a3 K) : MV l D ka yX1_stepBack cX1_stepBack 7 none 1 0 0 [.ref (ad 499), .ref (ad 404), .ref (ad 401), .int a3] (wC ad ka F R J P B) (fun w => ∃ F R J P B, w = wC ad ka F R J P B ∧ K F R J P B) := MV_of (by decide) (Nat.le_of_ble_eq_true rfl) (fun X C hroom hret => bO_stepBack_hb C hret F R J P B a3 h)

def qO_goBackToTomorrow_11 : Nat → FT → RT → JT → PT → BT → Int32 → (FT → RT → JT → PT → BT → Prop) → Prop
  | 0, _, _, _, _, _, _ => fun _ => False
  | n11 + 1, F, R, J, P, B, v1 => fun K => (v1 ≤ (F 411) → (K F R J P B)) ∧ (¬ v1 ≤ (F 411) → (qO_stepBack_ob F R J P B v1 (fun F2 R2 J2 P2 B2 => qO_goBackToTomorrow_11 n11 F2 R2 J2 P2 B2 (v1 + (-1 : Int32)) K)))
set_option maxHeartbeats 4000000 in
set_option maxRecDepth 100000 in
theorem lO_goBackToTomorrow_11 {X : XT} {ka : Nat → ClassId} {ad : Nat → Nat} (C : Cx X cX1_goBackToTomorrow 2 RX1 none ka 2) {K : FT → RT → JT → PT → BT → Prop} (hret : RetV X cX1_goBackToTomorrow 0 0 (fun w => ∃ F R J P B, w = wC ad ka F R J P B ∧ K F R J P B)) : ∀ (n : Nat) (F : FT) (R : RT) (J : JT) (P : PT) (B : BT) (v1 : Int32), qO_goBackToTomorrow_11 n F R J P B v1 K → G X 0 0 (wC ad ka F R J P B) 11 [(0, .ref (ad 499)), (1, .int v1)] [] := by
  intro n
  induction n with
  | zero => intro F R J P B v1 h; exact h.elim
  | succ n ih =>
    intro F R J P B v1 h
    refine g_iload_n C 1 dX1_goBackToTomorrow_11 rfl ?_
    refine g_aload_n C 0 dX1_goBackToTomorrow_12 rfl ?_
    refine Cg_X1_4_day C (v := F 411) rfl dX1_goBackToTomorrow_13 ?_
    refine g_icmp_le C 38 dX1_goBackToTomorrow_16 (by decide) (fun c1 => ?_) (fun c1 => ?_)
    · have h := h.1 c1
      exact hret _ _ _ ⟨_, _, _, _, _, rfl, h⟩ dX1_goBackToTomorrow_38
    · have h := h.2 c1
      refine g_aload_n C 0 dX1_goBackToTomorrow_19 rfl ?_
      refine g_aload_n C 0 dX1_goBackToTomorrow_20 rfl ?_
      refine Cg_X1_4_odds C dX1_goBackToTomorrow_21 ?_
      refine g_aload_n C 0 dX1_goBackToTomorrow_24 rfl ?_
      refine Cg_X1_4_behind C dX1_goBackToTomorrow_25 ?_
      refine g_iload_n C 1 dX1_goBackToTomorrow_28 rfl ?_
      refine g_callVv0 C (kO_stepBack_ob (xL X) (xD X) ka ad _ _ _ _ _ _ _ h) miX1_stepBack (gw_of tw3_148 rfl) (by decide) wC_o4 rfl rfl rfl (Nat.le_of_ble_eq_true rfl) z00 dX1_goBackToTomorrow_29 (fun w hw => ?_)
      obtain ⟨F2, R2, J2, P2, B2, rfl, h⟩ := hw
      refine g_iinc C 1 (v1 + (-1 : Int32)) [(1, .int (v1 + (-1 : Int32))), (0, .ref (ad 499))] dX1_goBackToTomorrow_32 rfl (by rw [ci_m1]) (by decide) rfl ?_
      refine g_goto C 11 dX1_goBackToTomorrow_35 (by decide) ?_
      exact g_lv [1, 0] rfl (ih _ _ _ _ _ _ h)
def qO_goBackToTomorrow (F : FT) (R : RT) (J : JT) (P : PT) (B : BT)  (K : FT → RT → JT → PT → BT → Prop) : Prop :=
  qO_startAtSummer F R J P B (fun F1 R1 J1 P1 B1 => ∃ n11, qO_goBackToTomorrow_11 n11 F1 R1 J1 P1 B1 ((F1 408) - (1 : Int32)) K)
set_option maxHeartbeats 4000000 in
set_option maxRecDepth 100000 in
theorem bO_goBackToTomorrow {X : XT} {ka : Nat → ClassId} {ad : Nat → Nat} (C : Cx X cX1_goBackToTomorrow 2 RX1 none ka 2) {K : FT → RT → JT → PT → BT → Prop} (hret : RetV X cX1_goBackToTomorrow 0 0 (fun w => ∃ F R J P B, w = wC ad ka F R J P B ∧ K F R J P B)) (F : FT) (R : RT) (J : JT) (P : PT) (B : BT)  (h : qO_goBackToTomorrow F R J P B  K) : G X 0 0 (wC ad ka F R J P B) 0 [(0, .ref (ad 499))] [] := by
  unfold qO_goBackToTomorrow at h
  refine g_aload_n C 0 dX1_goBackToTomorrow_0 rfl ?_
  refine g_callVv0 C (kO_startAtSummer (xL X) (xD X) ka ad _ _ _ _ _ _ h) miX1_startAtSummer (gw_of tw3_143 rfl) (by decide) wC_o4 rfl rfl rfl (Nat.le_of_ble_eq_true rfl) z00 dX1_goBackToTomorrow_1 (fun w hw => ?_)
  obtain ⟨F1, R1, J1, P1, B1, rfl, h⟩ := hw
  refine g_aload_n C 0 dX1_goBackToTomorrow_4 rfl ?_
  refine Cg_X1_4_days C (v := F1 408) rfl dX1_goBackToTomorrow_5 ?_
  refine g_iconst C (1 : Int32) dX1_goBackToTomorrow_8 ci_1 ?_
  refine g_isub C dX1_goBackToTomorrow_9 ?_
  refine g_istore_n C [(1, .int ((F1 408) - (1 : Int32))), (0, .ref (ad 499))] dX1_goBackToTomorrow_10 (by decide) rfl ?_
  obtain ⟨n1, h⟩ := h
  exact g_lv [1, 0] rfl (lO_goBackToTomorrow_11 C hret n1 _ _ _ _ _ _ h)
set_option maxHeartbeats 4000000 in
set_option maxRecDepth 100000 in
theorem kO_goBackToTomorrow (l : Launch) (D : va_G) (ka : Nat → ClassId) (ad : Nat → Nat) (F : FT) (R : RT) (J : JT) (P : PT) (B : BT)  (K : FT → RT → JT → PT → BT → Prop) (h : qO_goBackToTomorrow F R J P B  K) : MV l D ka yX1_goBackToTomorrow cX1_goBackToTomorrow 2 none 2 0 0 [.ref (ad 499)] (wC ad ka F R J P B) (fun w => ∃ F R J P B, w = wC ad ka F R J P B ∧ K F R J P B) := MV_of (by decide) (Nat.le_of_ble_eq_true rfl) (fun X C hroom hret => bO_goBackToTomorrow C hret F R J P B  h)
set_option maxHeartbeats 4000000 in
set_option maxRecDepth 100000 in
theorem miX1_goBackToTomorrow : MInf yX1_goBackToTomorrow cX1_goBackToTomorrow 2 none 0 := ⟨(gw_of tw3_141 rfl), (gw_of tp_yX1_goBackToTomorrow rfl), (gw_of tw1_4 rfl), (gw_of tw3_142 rfl), by decide +kernel, by decide⟩

def qO_oddsToday_o (F : FT) (R : RT) (J : JT) (P : PT) (B : BT) (a2 : Int32) (K : Int32 → FT → RT → JT → PT → BT → Prop) : Prop :=
  ((F 412) < (F 407) → (((F 411) < (F 408) → (qO_laidBehind F R J P B (0 : Int32) (F 412) a2 (fun r3 F3 R3 J3 P3 B3 => (vp_in r3 201) ∧ (qO_laidBehind F3 R3 J3 P3 B3 (1 : Int32) (F3 412) a2 (fun r4 F4 R4 J4 P4 B4 => (vp_in r4 201) ∧ (qO_laidBehind F4 R4 J4 P4 B4 (2 : Int32) (F4 412) a2 (fun r5 F5 R5 J5 P5 B5 => (vp_in r5 201) ∧ (K (((((R3 403 r3.toNatClampNeg) * (((10 : Int32) - (F3 409)) - (F3 410))) + ((R4 403 r4.toNatClampNeg) * (F4 409))) + ((R5 403 r5.toNatClampNeg) * (F5 410))) / (10 : Int32)) F5 R5 J5 P5 B5)))))))) ∧ (¬ (F 411) < (F 408) → (K (0 : Int32) F R J P B)))) ∧ (¬ (F 412) < (F 407) → (K (1000000 : Int32) F R J P B))
set_option maxHeartbeats 4000000 in
set_option maxRecDepth 100000 in
theorem bO_oddsToday_o {X : XT} {ka : Nat → ClassId} {ad : Nat → Nat} (C : Cx X cX1_oddsToday 3 RX1 (some .int) ka 2) {K : Int32 → FT → RT → JT → PT → BT → Prop} (hret : RetI X cX1_oddsToday .int 0 0 (fun z w => ∃ F R J P B, w = wC ad ka F R J P B ∧ K z F R J P B)) (F : FT) (R : RT) (J : JT) (P : PT) (B : BT) (a2 : Int32) (h : qO_oddsToday_o F R J P B a2 K) : G X 0 0 (wC ad ka F R J P B) 0 [(0, .ref (ad 499)), (1, .ref (ad 403)), (2, .int a2)] [] := by
  unfold qO_oddsToday_o at h
  refine g_aload_n C 0 dX1_oddsToday_0 rfl ?_
  refine Cg_X1_4_laid C (v := F 412) rfl dX1_oddsToday_1 ?_
  refine g_aload_n C 0 dX1_oddsToday_4 rfl ?_
  refine Cg_X1_4_stones C (v := F 407) rfl dX1_oddsToday_5 ?_
  refine g_icmp_lt C 14 dX1_oddsToday_8 (by decide) (fun c1 => ?_) (fun c1 => ?_)
  · have h := h.1 c1
    refine g_aload_n C 0 dX1_oddsToday_14 rfl ?_
    refine Cg_X1_4_day C (v := F 411) rfl dX1_oddsToday_15 ?_
    refine g_aload_n C 0 dX1_oddsToday_18 rfl ?_
    refine Cg_X1_4_days C (v := F 408) rfl dX1_oddsToday_19 ?_
    refine g_icmp_lt C 27 dX1_oddsToday_22 (by decide) (fun c2 => ?_) (fun c2 => ?_)
    · have h := h.1 c2
      refine g_aload_n C 1 dX1_oddsToday_27 rfl ?_
      refine g_aload_n C 0 dX1_oddsToday_28 rfl ?_
      refine g_iconst C (0 : Int32) dX1_oddsToday_29 ci_0 ?_
      refine g_aload_n C 0 dX1_oddsToday_30 rfl ?_
      refine Cg_X1_4_laid C (v := F 412) rfl dX1_oddsToday_31 ?_
      refine g_iload_n C 2 dX1_oddsToday_34 rfl ?_
      refine g_callVi0 C (kO_laidBehind (xL X) (xD X) ka ad _ _ _ _ _ _ _ _ _ h) miX1_laidBehind (gw_of tw3_134 rfl) (by decide) wC_o4 rfl rfl rfl (Nat.le_of_ble_eq_true rfl) z00 dX1_oddsToday_35 (fun r3 w hw => ?_)
      obtain ⟨F3, R3, J3, P3, B3, rfl, h⟩ := hw
      refine Ca_403 C (f := R3 403) rfl _ rfl h.1 dX1_oddsToday_38 ?_
      have h := h.2
      refine g_bipush C (10 : Int32) dX1_oddsToday_39 cb_10 ?_
      refine g_aload_n C 0 dX1_oddsToday_41 rfl ?_
      refine Cg_X1_4_frost C (v := F3 409) rfl dX1_oddsToday_42 ?_
      refine g_isub C dX1_oddsToday_45 ?_
      refine g_aload_n C 0 dX1_oddsToday_46 rfl ?_
      refine Cg_X1_4_thaw C (v := F3 410) rfl dX1_oddsToday_47 ?_
      refine g_isub C dX1_oddsToday_50 ?_
      refine g_imul C dX1_oddsToday_51 ?_
      refine g_aload_n C 1 dX1_oddsToday_52 rfl ?_
      refine g_aload_n C 0 dX1_oddsToday_53 rfl ?_
      refine g_iconst C (1 : Int32) dX1_oddsToday_54 ci_1 ?_
      refine g_aload_n C 0 dX1_oddsToday_55 rfl ?_
      refine Cg_X1_4_laid C (v := F3 412) rfl dX1_oddsToday_56 ?_
      refine g_iload_n C 2 dX1_oddsToday_59 rfl ?_
      refine g_callVi0 C (kO_laidBehind (xL X) (xD X) ka ad _ _ _ _ _ _ _ _ _ h) miX1_laidBehind (gw_of tw3_134 rfl) (by decide) wC_o4 rfl rfl rfl (Nat.le_of_ble_eq_true rfl) z00 dX1_oddsToday_60 (fun r4 w hw => ?_)
      obtain ⟨F4, R4, J4, P4, B4, rfl, h⟩ := hw
      refine Ca_403 C (f := R4 403) rfl _ rfl h.1 dX1_oddsToday_63 ?_
      have h := h.2
      refine g_aload_n C 0 dX1_oddsToday_64 rfl ?_
      refine Cg_X1_4_frost C (v := F4 409) rfl dX1_oddsToday_65 ?_
      refine g_imul C dX1_oddsToday_68 ?_
      refine g_iadd C dX1_oddsToday_69 ?_
      refine g_aload_n C 1 dX1_oddsToday_70 rfl ?_
      refine g_aload_n C 0 dX1_oddsToday_71 rfl ?_
      refine g_iconst C (2 : Int32) dX1_oddsToday_72 ci_2 ?_
      refine g_aload_n C 0 dX1_oddsToday_73 rfl ?_
      refine Cg_X1_4_laid C (v := F4 412) rfl dX1_oddsToday_74 ?_
      refine g_iload_n C 2 dX1_oddsToday_77 rfl ?_
      refine g_callVi0 C (kO_laidBehind (xL X) (xD X) ka ad _ _ _ _ _ _ _ _ _ h) miX1_laidBehind (gw_of tw3_134 rfl) (by decide) wC_o4 rfl rfl rfl (Nat.le_of_ble_eq_true rfl) z00 dX1_oddsToday_78 (fun r5 w hw => ?_)
      obtain ⟨F5, R5, J5, P5, B5, rfl, h⟩ := hw
      refine Ca_403 C (f := R5 403) rfl _ rfl h.1 dX1_oddsToday_81 ?_
      have h := h.2
      refine g_aload_n C 0 dX1_oddsToday_82 rfl ?_
      refine Cg_X1_4_thaw C (v := F5 410) rfl dX1_oddsToday_83 ?_
      refine g_imul C dX1_oddsToday_86 ?_
      refine g_iadd C dX1_oddsToday_87 ?_
      refine g_bipush C (10 : Int32) dX1_oddsToday_88 cb_10 ?_
      refine g_idiv C dX1_oddsToday_90 (by decide) ?_
      exact hret _ _ _ _ ⟨_, _, _, _, _, rfl, h⟩ rfl dX1_oddsToday_91
    · have h := h.2 c2
      refine g_iconst C (0 : Int32) dX1_oddsToday_25 ci_0 ?_
      exact hret _ _ _ _ ⟨_, _, _, _, _, rfl, h⟩ rfl dX1_oddsToday_26
  · have h := h.2 c1
    refine g_ldc C (gw_of tw3_147 rfl) dX1_oddsToday_11 ?_
    exact hret _ _ _ _ ⟨_, _, _, _, _, rfl, h⟩ rfl dX1_oddsToday_13
set_option maxHeartbeats 4000000 in
set_option maxRecDepth 100000 in
theorem kO_oddsToday_o (l : Launch) (D : va_G) (ka : Nat → ClassId) (ad : Nat → Nat) (F : FT) (R : RT) (J : JT) (P : PT) (B : BT) (a2 : Int32) (K : Int32 → FT → RT → JT → PT → BT → Prop) (h : qO_oddsToday_o F R J P B a2 K) : MI l D ka yX1_oddsToday cX1_oddsToday 3 (some .int) 2 0 0 [.ref (ad 499), .ref (ad 403), .int a2] (wC ad ka F R J P B) (fun z w => ∃ F R J P B, w = wC ad ka F R J P B ∧ K z F R J P B) := MI_of (by decide) (Nat.le_of_ble_eq_true rfl) (fun X C hroom hret => bO_oddsToday_o C hret F R J P B a2 h)
set_option maxHeartbeats 4000000 in
set_option maxRecDepth 100000 in
theorem miX1_oddsToday : MInf yX1_oddsToday cX1_oddsToday 3 (some .int) 2 := ⟨(gw_of tw3_154 rfl), (gw_of tp_yX1_oddsToday rfl), (gw_of tw1_4 rfl), (gw_of tw3_155 rfl), by decide +kernel, by decide⟩

def qO_oddsToday_h (F : FT) (R : RT) (J : JT) (P : PT) (B : BT) (a2 : Int32) (K : Int32 → FT → RT → JT → PT → BT → Prop) : Prop :=
  ((F 412) < (F 407) → (((F 411) < (F 408) → (qO_laidBehind F R J P B (0 : Int32) (F 412) a2 (fun r3 F3 R3 J3 P3 B3 => (vp_in r3 201) ∧ (qO_laidBehind F3 R3 J3 P3 B3 (1 : Int32) (F3 412) a2 (fun r4 F4 R4 J4 P4 B4 => (vp_in r4 201) ∧ (qO_laidBehind F4 R4 J4 P4 B4 (2 : Int32) (F4 412) a2 (fun r5 F5 R5 J5 P5 B5 => (vp_in r5 201) ∧ (K (((((R3 404 r3.toNatClampNeg) * (((10 : Int32) - (F3 409)) - (F3 410))) + ((R4 404 r4.toNatClampNeg) * (F4 409))) + ((R5 404 r5.toNatClampNeg) * (F5 410))) / (10 : Int32)) F5 R5 J5 P5 B5)))))))) ∧ (¬ (F 411) < (F 408) → (K (0 : Int32) F R J P B)))) ∧ (¬ (F 412) < (F 407) → (K (1000000 : Int32) F R J P B))
set_option maxHeartbeats 4000000 in
set_option maxRecDepth 100000 in
theorem bO_oddsToday_h {X : XT} {ka : Nat → ClassId} {ad : Nat → Nat} (C : Cx X cX1_oddsToday 3 RX1 (some .int) ka 2) {K : Int32 → FT → RT → JT → PT → BT → Prop} (hret : RetI X cX1_oddsToday .int 0 0 (fun z w => ∃ F R J P B, w = wC ad ka F R J P B ∧ K z F R J P B)) (F : FT) (R : RT) (J : JT) (P : PT) (B : BT) (a2 : Int32) (h : qO_oddsToday_h F R J P B a2 K) : G X 0 0 (wC ad ka F R J P B) 0 [(0, .ref (ad 499)), (1, .ref (ad 404)), (2, .int a2)] [] := by
  unfold qO_oddsToday_h at h
  refine g_aload_n C 0 dX1_oddsToday_0 rfl ?_
  refine Cg_X1_4_laid C (v := F 412) rfl dX1_oddsToday_1 ?_
  refine g_aload_n C 0 dX1_oddsToday_4 rfl ?_
  refine Cg_X1_4_stones C (v := F 407) rfl dX1_oddsToday_5 ?_
  refine g_icmp_lt C 14 dX1_oddsToday_8 (by decide) (fun c1 => ?_) (fun c1 => ?_)
  · have h := h.1 c1
    refine g_aload_n C 0 dX1_oddsToday_14 rfl ?_
    refine Cg_X1_4_day C (v := F 411) rfl dX1_oddsToday_15 ?_
    refine g_aload_n C 0 dX1_oddsToday_18 rfl ?_
    refine Cg_X1_4_days C (v := F 408) rfl dX1_oddsToday_19 ?_
    refine g_icmp_lt C 27 dX1_oddsToday_22 (by decide) (fun c2 => ?_) (fun c2 => ?_)
    · have h := h.1 c2
      refine g_aload_n C 1 dX1_oddsToday_27 rfl ?_
      refine g_aload_n C 0 dX1_oddsToday_28 rfl ?_
      refine g_iconst C (0 : Int32) dX1_oddsToday_29 ci_0 ?_
      refine g_aload_n C 0 dX1_oddsToday_30 rfl ?_
      refine Cg_X1_4_laid C (v := F 412) rfl dX1_oddsToday_31 ?_
      refine g_iload_n C 2 dX1_oddsToday_34 rfl ?_
      refine g_callVi0 C (kO_laidBehind (xL X) (xD X) ka ad _ _ _ _ _ _ _ _ _ h) miX1_laidBehind (gw_of tw3_134 rfl) (by decide) wC_o4 rfl rfl rfl (Nat.le_of_ble_eq_true rfl) z00 dX1_oddsToday_35 (fun r3 w hw => ?_)
      obtain ⟨F3, R3, J3, P3, B3, rfl, h⟩ := hw
      refine Ca_404 C (f := R3 404) rfl _ rfl h.1 dX1_oddsToday_38 ?_
      have h := h.2
      refine g_bipush C (10 : Int32) dX1_oddsToday_39 cb_10 ?_
      refine g_aload_n C 0 dX1_oddsToday_41 rfl ?_
      refine Cg_X1_4_frost C (v := F3 409) rfl dX1_oddsToday_42 ?_
      refine g_isub C dX1_oddsToday_45 ?_
      refine g_aload_n C 0 dX1_oddsToday_46 rfl ?_
      refine Cg_X1_4_thaw C (v := F3 410) rfl dX1_oddsToday_47 ?_
      refine g_isub C dX1_oddsToday_50 ?_
      refine g_imul C dX1_oddsToday_51 ?_
      refine g_aload_n C 1 dX1_oddsToday_52 rfl ?_
      refine g_aload_n C 0 dX1_oddsToday_53 rfl ?_
      refine g_iconst C (1 : Int32) dX1_oddsToday_54 ci_1 ?_
      refine g_aload_n C 0 dX1_oddsToday_55 rfl ?_
      refine Cg_X1_4_laid C (v := F3 412) rfl dX1_oddsToday_56 ?_
      refine g_iload_n C 2 dX1_oddsToday_59 rfl ?_
      refine g_callVi0 C (kO_laidBehind (xL X) (xD X) ka ad _ _ _ _ _ _ _ _ _ h) miX1_laidBehind (gw_of tw3_134 rfl) (by decide) wC_o4 rfl rfl rfl (Nat.le_of_ble_eq_true rfl) z00 dX1_oddsToday_60 (fun r4 w hw => ?_)
      obtain ⟨F4, R4, J4, P4, B4, rfl, h⟩ := hw
      refine Ca_404 C (f := R4 404) rfl _ rfl h.1 dX1_oddsToday_63 ?_
      have h := h.2
      refine g_aload_n C 0 dX1_oddsToday_64 rfl ?_
      refine Cg_X1_4_frost C (v := F4 409) rfl dX1_oddsToday_65 ?_
      refine g_imul C dX1_oddsToday_68 ?_
      refine g_iadd C dX1_oddsToday_69 ?_
      refine g_aload_n C 1 dX1_oddsToday_70 rfl ?_
      refine g_aload_n C 0 dX1_oddsToday_71 rfl ?_
      refine g_iconst C (2 : Int32) dX1_oddsToday_72 ci_2 ?_
      refine g_aload_n C 0 dX1_oddsToday_73 rfl ?_
      refine Cg_X1_4_laid C (v := F4 412) rfl dX1_oddsToday_74 ?_
      refine g_iload_n C 2 dX1_oddsToday_77 rfl ?_
      refine g_callVi0 C (kO_laidBehind (xL X) (xD X) ka ad _ _ _ _ _ _ _ _ _ h) miX1_laidBehind (gw_of tw3_134 rfl) (by decide) wC_o4 rfl rfl rfl (Nat.le_of_ble_eq_true rfl) z00 dX1_oddsToday_78 (fun r5 w hw => ?_)
      obtain ⟨F5, R5, J5, P5, B5, rfl, h⟩ := hw
      refine Ca_404 C (f := R5 404) rfl _ rfl h.1 dX1_oddsToday_81 ?_
      have h := h.2
      refine g_aload_n C 0 dX1_oddsToday_82 rfl ?_
      refine Cg_X1_4_thaw C (v := F5 410) rfl dX1_oddsToday_83 ?_
      refine g_imul C dX1_oddsToday_86 ?_
      refine g_iadd C dX1_oddsToday_87 ?_
      refine g_bipush C (10 : Int32) dX1_oddsToday_88 cb_10 ?_
      refine g_idiv C dX1_oddsToday_90 (by decide) ?_
      exact hret _ _ _ _ ⟨_, _, _, _, _, rfl, h⟩ rfl dX1_oddsToday_91
    · have h := h.2 c2
      refine g_iconst C (0 : Int32) dX1_oddsToday_25 ci_0 ?_
      exact hret _ _ _ _ ⟨_, _, _, _, _, rfl, h⟩ rfl dX1_oddsToday_26
  · have h := h.2 c1
    refine g_ldc C (gw_of tw3_147 rfl) dX1_oddsToday_11 ?_
    exact hret _ _ _ _ ⟨_, _, _, _, _, rfl, h⟩ rfl dX1_oddsToday_13
set_option maxHeartbeats 4000000 in
set_option maxRecDepth 100000 in
theorem kO_oddsToday_h (l : Launch) (D : va_G) (ka : Nat → ClassId) (ad : Nat → Nat) (F : FT) (R : RT) (J : JT) (P : PT) (B : BT) (a2 : Int32) (K : Int32 → FT → RT → JT → PT → BT → Prop) (h : qO_oddsToday_h F R J P B a2 K) : MI l D ka yX1_oddsToday cX1_oddsToday 3 (some .int) 2 0 0 [.ref (ad 499), .ref (ad 404), .int a2] (wC ad ka F R J P B) (fun z w => ∃ F R J P B, w = wC ad ka F R J P B ∧ K z F R J P B) := MI_of (by decide) (Nat.le_of_ble_eq_true rfl) (fun X C hroom hret => bO_oddsToday_h C hret F R J P B a2 h)

def qO_oddsNow (F : FT) (R : RT) (J : JT) (P : PT) (B : BT) (a2 : Int32) (a3 : Int32) (K : Int32 → FT → RT → JT → PT → BT → Prop) : Prop :=
  qS_costToday F R J P B (fun r1 F1 R1 J1 P1 B1 => qO_look F1 R1 J1 P1 B1 (F 104) (F 105) r1 (fun F2 R2 J2 P2 B2 => qO_reckonLays F2 R2 J2 P2 B2 a2 a3 (fun F3 R3 J3 P3 B3 => qO_goBackToTomorrow F3 R3 J3 P3 B3 (fun F4 R4 J4 P4 B4 => qO_oddsToday_o F4 R4 J4 P4 B4 (F4 413) (fun r5 F5 R5 J5 P5 B5 => K r5 F5 R5 J5 P5 B5)))))
set_option maxHeartbeats 4000000 in
set_option maxRecDepth 100000 in
theorem bO_oddsNow {X : XT} {ka : Nat → ClassId} {ad : Nat → Nat} (C : Cx X cX1_oddsNow 4 RX1 (some .int) ka 6) {K : Int32 → FT → RT → JT → PT → BT → Prop} (hret : RetI X cX1_oddsNow .int 0 0 (fun z w => ∃ F R J P B, w = wC ad ka F R J P B ∧ K z F R J P B)) (F : FT) (R : RT) (J : JT) (P : PT) (B : BT) (a2 : Int32) (a3 : Int32) (h : qO_oddsNow F R J P B a2 a3 K) : G X 0 0 (wC ad ka F R J P B) 0 [(0, .ref (ad 499)), (1, .ref (ad 199)), (2, .int a2), (3, .int a3)] [] := by
  unfold qO_oddsNow at h
  refine g_aload_n C 0 dX1_oddsNow_0 rfl ?_
  refine g_aload_n C 1 dX1_oddsNow_1 rfl ?_
  refine g_aload_n C 1 dX1_oddsNow_2 rfl ?_
  refine Cg_X1_1_day C (v := F 104) rfl dX1_oddsNow_3 ?_
  refine g_aload_n C 1 dX1_oddsNow_6 rfl ?_
  refine Cg_X1_1_laid C (v := F 105) rfl dX1_oddsNow_7 ?_
  refine g_aload_n C 1 dX1_oddsNow_10 rfl ?_
  refine g_callVi0 C (kS_costToday (xL X) (xD X) ka ad _ _ _ _ _ _ h) miX7_costToday (gw_of tw3_120 rfl) (by decide) wC_o1 rfl rfl rfl (Nat.le_of_ble_eq_true rfl) z00 dX1_oddsNow_11 (fun r1 w hw => ?_)
  obtain ⟨F1, R1, J1, P1, B1, rfl, h⟩ := hw
  refine g_callVv0 C (kO_look (xL X) (xD X) ka ad _ _ _ _ _ _ _ _ _ h) miX1_look (gw_of tw3_121 rfl) (by decide) wC_o4 rfl rfl rfl (Nat.le_of_ble_eq_true rfl) z00 dX1_oddsNow_14 (fun w hw => ?_)
  obtain ⟨F2, R2, J2, P2, B2, rfl, h⟩ := hw
  refine g_aload_n C 0 dX1_oddsNow_17 rfl ?_
  refine g_aload_n C 1 dX1_oddsNow_18 rfl ?_
  refine g_iload_n C 2 dX1_oddsNow_19 rfl ?_
  refine g_iload_n C 3 dX1_oddsNow_20 rfl ?_
  refine g_callVv0 C (kO_reckonLays (xL X) (xD X) ka ad _ _ _ _ _ _ _ _ h) miX1_reckonLays (gw_of tw3_125 rfl) (by decide) wC_o4 rfl rfl rfl (Nat.le_of_ble_eq_true rfl) z00 dX1_oddsNow_21 (fun w hw => ?_)
  obtain ⟨F3, R3, J3, P3, B3, rfl, h⟩ := hw
  refine g_aload_n C 0 dX1_oddsNow_24 rfl ?_
  refine g_callVv0 C (kO_goBackToTomorrow (xL X) (xD X) ka ad _ _ _ _ _ _ h) miX1_goBackToTomorrow (gw_of tw3_139 rfl) (by decide) wC_o4 rfl rfl rfl (Nat.le_of_ble_eq_true rfl) z00 dX1_oddsNow_25 (fun w hw => ?_)
  obtain ⟨F4, R4, J4, P4, B4, rfl, h⟩ := hw
  refine g_aload_n C 0 dX1_oddsNow_28 rfl ?_
  refine g_aload_n C 0 dX1_oddsNow_29 rfl ?_
  refine Cg_X1_4_odds C dX1_oddsNow_30 ?_
  refine g_aload_n C 0 dX1_oddsNow_33 rfl ?_
  refine Cg_X1_4_cost C (v := F4 413) rfl dX1_oddsNow_34 ?_
  refine g_callVi0 C (kO_oddsToday_o (xL X) (xD X) ka ad _ _ _ _ _ _ _ h) miX1_oddsToday (gw_of tw3_152 rfl) (by decide) wC_o4 rfl rfl rfl (Nat.le_of_ble_eq_true rfl) z00 dX1_oddsNow_37 (fun r5 w hw => ?_)
  obtain ⟨F5, R5, J5, P5, B5, rfl, h⟩ := hw
  exact hret _ _ _ _ ⟨_, _, _, _, _, rfl, h⟩ rfl dX1_oddsNow_40
set_option maxHeartbeats 4000000 in
set_option maxRecDepth 100000 in
theorem kO_oddsNow (l : Launch) (D : va_G) (ka : Nat → ClassId) (ad : Nat → Nat) (F : FT) (R : RT) (J : JT) (P : PT) (B : BT) (a2 : Int32) (a3 : Int32) (K : Int32 → FT → RT → JT → PT → BT → Prop) (h : qO_oddsNow F R J P B a2 a3 K) : MI l D ka yX1_oddsNow cX1_oddsNow 4 (some .int) 6 0 0 [.ref (ad 499), .ref (ad 199), .int a2, .int a3] (wC ad ka F R J P B) (fun z w => ∃ F R J P B, w = wC ad ka F R J P B ∧ K z F R J P B) := MI_of (by decide) (Nat.le_of_ble_eq_true rfl) (fun X C hroom hret => bO_oddsNow C hret F R J P B a2 a3 h)
set_option maxHeartbeats 4000000 in
set_option maxRecDepth 100000 in
theorem miX1_oddsNow : MInf yX1_oddsNow cX1_oddsNow 4 (some .int) 3 := ⟨(gw_of tw3_117 rfl), (gw_of tw3_118 rfl), (gw_of tw1_4 rfl), (gw_of tw3_119 rfl), by decide +kernel, by decide⟩

def qO_oddsFrom (F : FT) (R : RT) (J : JT) (P : PT) (B : BT) (a2 : Int32) (a3 : Int32) (K : Int32 → FT → RT → JT → PT → BT → Prop) : Prop :=
  qO_look F R J P B a2 a3 (0 : Int32) (fun F1 R1 J1 P1 B1 => qO_reckonLays F1 R1 J1 P1 B1 (-1 : Int32) (0 : Int32) (fun F2 R2 J2 P2 B2 => qO_goBackToTomorrow F2 R2 J2 P2 B2 (fun F3 R3 J3 P3 B3 => qO_oddsToday_o F3 R3 J3 P3 B3 (0 : Int32) (fun r4 F4 R4 J4 P4 B4 => K r4 F4 R4 J4 P4 B4))))
set_option maxHeartbeats 4000000 in
set_option maxRecDepth 100000 in
theorem bO_oddsFrom {X : XT} {ka : Nat → ClassId} {ad : Nat → Nat} (C : Cx X cX1_oddsFrom 4 RX1 (some .int) ka 6) {K : Int32 → FT → RT → JT → PT → BT → Prop} (hret : RetI X cX1_oddsFrom .int 0 0 (fun z w => ∃ F R J P B, w = wC ad ka F R J P B ∧ K z F R J P B)) (F : FT) (R : RT) (J : JT) (P : PT) (B : BT) (a2 : Int32) (a3 : Int32) (h : qO_oddsFrom F R J P B a2 a3 K) : G X 0 0 (wC ad ka F R J P B) 0 [(0, .ref (ad 499)), (1, .ref (ad 199)), (2, .int a2), (3, .int a3)] [] := by
  unfold qO_oddsFrom at h
  refine g_aload_n C 0 dX1_oddsFrom_0 rfl ?_
  refine g_aload_n C 1 dX1_oddsFrom_1 rfl ?_
  refine g_iload_n C 2 dX1_oddsFrom_2 rfl ?_
  refine g_iload_n C 3 dX1_oddsFrom_3 rfl ?_
  refine g_iconst C (0 : Int32) dX1_oddsFrom_4 ci_0 ?_
  refine g_callVv0 C (kO_look (xL X) (xD X) ka ad _ _ _ _ _ _ _ _ _ h) miX1_look (gw_of tw3_121 rfl) (by decide) wC_o4 rfl rfl rfl (Nat.le_of_ble_eq_true rfl) z00 dX1_oddsFrom_5 (fun w hw => ?_)
  obtain ⟨F1, R1, J1, P1, B1, rfl, h⟩ := hw
  refine g_aload_n C 0 dX1_oddsFrom_8 rfl ?_
  refine g_aload_n C 1 dX1_oddsFrom_9 rfl ?_
  refine g_iconst C (-1 : Int32) dX1_oddsFrom_10 ci_m1 ?_
  refine g_iconst C (0 : Int32) dX1_oddsFrom_11 ci_0 ?_
  refine g_callVv0 C (kO_reckonLays (xL X) (xD X) ka ad _ _ _ _ _ _ _ _ h) miX1_reckonLays (gw_of tw3_125 rfl) (by decide) wC_o4 rfl rfl rfl (Nat.le_of_ble_eq_true rfl) z00 dX1_oddsFrom_12 (fun w hw => ?_)
  obtain ⟨F2, R2, J2, P2, B2, rfl, h⟩ := hw
  refine g_aload_n C 0 dX1_oddsFrom_15 rfl ?_
  refine g_callVv0 C (kO_goBackToTomorrow (xL X) (xD X) ka ad _ _ _ _ _ _ h) miX1_goBackToTomorrow (gw_of tw3_139 rfl) (by decide) wC_o4 rfl rfl rfl (Nat.le_of_ble_eq_true rfl) z00 dX1_oddsFrom_16 (fun w hw => ?_)
  obtain ⟨F3, R3, J3, P3, B3, rfl, h⟩ := hw
  refine g_aload_n C 0 dX1_oddsFrom_19 rfl ?_
  refine g_aload_n C 0 dX1_oddsFrom_20 rfl ?_
  refine Cg_X1_4_odds C dX1_oddsFrom_21 ?_
  refine g_iconst C (0 : Int32) dX1_oddsFrom_24 ci_0 ?_
  refine g_callVi0 C (kO_oddsToday_o (xL X) (xD X) ka ad _ _ _ _ _ _ _ h) miX1_oddsToday (gw_of tw3_152 rfl) (by decide) wC_o4 rfl rfl rfl (Nat.le_of_ble_eq_true rfl) z00 dX1_oddsFrom_25 (fun r4 w hw => ?_)
  obtain ⟨F4, R4, J4, P4, B4, rfl, h⟩ := hw
  exact hret _ _ _ _ ⟨_, _, _, _, _, rfl, h⟩ rfl dX1_oddsFrom_28
set_option maxHeartbeats 4000000 in
set_option maxRecDepth 100000 in
theorem kO_oddsFrom (l : Launch) (D : va_G) (ka : Nat → ClassId) (ad : Nat → Nat) (F : FT) (R : RT) (J : JT) (P : PT) (B : BT) (a2 : Int32) (a3 : Int32) (K : Int32 → FT → RT → JT → PT → BT → Prop) (h : qO_oddsFrom F R J P B a2 a3 K) : MI l D ka yX1_oddsFrom cX1_oddsFrom 4 (some .int) 6 0 0 [.ref (ad 499), .ref (ad 199), .int a2, .int a3] (wC ad ka F R J P B) (fun z w => ∃ F R J P B, w = wC ad ka F R J P B ∧ K z F R J P B) := MI_of (by decide) (Nat.le_of_ble_eq_true rfl) (fun X C hroom hret => bO_oddsFrom C hret F R J P B a2 a3 h)
set_option maxHeartbeats 4000000 in
set_option maxRecDepth 100000 in
theorem miX1_oddsFrom : MInf yX1_oddsFrom cX1_oddsFrom 4 (some .int) 3 := ⟨(gw_of tw3_161 rfl), (gw_of tw3_162 rfl), (gw_of tw1_4 rfl), (gw_of tw3_163 rfl), by decide +kernel, by decide⟩

def qO_firstSureDay_88 (k37 : FT → RT → JT → PT → BT → Int32 → Int32 → Int32 → Prop) (F : FT) (R : RT) (J : JT) (P : PT) (B : BT) (v2 : Int32) (v3 : Int32) (v4 : Int32) (K : Int32 → FT → RT → JT → PT → BT → Prop) : Prop :=
  k37 F R J P B v2 v3 (v4 + (-1 : Int32))
set_option maxHeartbeats 4000000 in
set_option maxRecDepth 100000 in
theorem lO_firstSureDay_88 {X : XT} {ka : Nat → ClassId} {ad : Nat → Nat} (C : Cx X cX1_firstSureDay 5 RX1 (some .int) ka 6) {K : Int32 → FT → RT → JT → PT → BT → Prop} (hret : RetI X cX1_firstSureDay .int 0 0 (fun z w => ∃ F R J P B, w = wC ad ka F R J P B ∧ K z F R J P B)) {k37 : FT → RT → JT → PT → BT → Int32 → Int32 → Int32 → Prop} (hk37 : ∀ (F : FT) (R : RT) (J : JT) (P : PT) (B : BT) (v2 : Int32) (v3 : Int32) (v4 : Int32), k37 F R J P B v2 v3 v4 → G X 0 0 (wC ad ka F R J P B) 37 [(0, .ref (ad 499)), (2, .int v2), (3, .int v3), (4, .int v4)] []) (F : FT) (R : RT) (J : JT) (P : PT) (B : BT) (v2 : Int32) (v3 : Int32) (v4 : Int32) (h : qO_firstSureDay_88 k37 F R J P B v2 v3 v4 K) : G X 0 0 (wC ad ka F R J P B) 88 [(0, .ref (ad 499)), (2, .int v2), (3, .int v3), (4, .int v4)] [] := by
  unfold qO_firstSureDay_88 at h
  refine g_iinc C 3 (v4 + (-1 : Int32)) [(4, .int (v4 + (-1 : Int32))), (0, .ref (ad 499)), (2, .int v2), (3, .int v3)] dX1_firstSureDay_88 rfl (by rw [ci_m1]) (by decide) rfl ?_
  refine g_goto C 37 dX1_firstSureDay_91 (by decide) ?_
  exact g_lv [1, 2, 3, 0] rfl (hk37 _ _ _ _ _ _ _ _ h)
def qO_firstSureDay_69 (k37 : FT → RT → JT → PT → BT → Int32 → Int32 → Int32 → Prop) (F : FT) (R : RT) (J : JT) (P : PT) (B : BT) (v2 : Int32) (v3 : Int32) (v4 : Int32) (K : Int32 → FT → RT → JT → PT → BT → Prop) : Prop :=
  (vp_in v4 41) ∧ ((vp_in (R 405 v4.toNatClampNeg) 201) ∧ (((R 403 ((R 405 v4.toNatClampNeg).toNatClampNeg)) < v2 → (qO_firstSureDay_88 k37 F R J P B v2 v3 v4 K)) ∧ (¬ (R 403 ((R 405 v4.toNatClampNeg).toNatClampNeg)) < v2 → (qO_firstSureDay_88 k37 F R J P B v2 v4 v4 K))))
set_option maxHeartbeats 4000000 in
set_option maxRecDepth 100000 in
theorem lO_firstSureDay_69 {X : XT} {ka : Nat → ClassId} {ad : Nat → Nat} (C : Cx X cX1_firstSureDay 5 RX1 (some .int) ka 6) {K : Int32 → FT → RT → JT → PT → BT → Prop} (hret : RetI X cX1_firstSureDay .int 0 0 (fun z w => ∃ F R J P B, w = wC ad ka F R J P B ∧ K z F R J P B)) {k37 : FT → RT → JT → PT → BT → Int32 → Int32 → Int32 → Prop} (hk37 : ∀ (F : FT) (R : RT) (J : JT) (P : PT) (B : BT) (v2 : Int32) (v3 : Int32) (v4 : Int32), k37 F R J P B v2 v3 v4 → G X 0 0 (wC ad ka F R J P B) 37 [(0, .ref (ad 499)), (2, .int v2), (3, .int v3), (4, .int v4)] []) (F : FT) (R : RT) (J : JT) (P : PT) (B : BT) (v2 : Int32) (v3 : Int32) (v4 : Int32) (h : qO_firstSureDay_69 k37 F R J P B v2 v3 v4 K) : G X 0 0 (wC ad ka F R J P B) 69 [(0, .ref (ad 499)), (2, .int v2), (3, .int v3), (4, .int v4)] [] := by
  unfold qO_firstSureDay_69 at h
  refine g_aload_n C 0 dX1_firstSureDay_69 rfl ?_
  refine Cg_X1_4_odds C dX1_firstSureDay_70 ?_
  refine g_aload_n C 0 dX1_firstSureDay_73 rfl ?_
  refine Cg_X1_4_fairPath C dX1_firstSureDay_74 ?_
  refine g_iload C 3 dX1_firstSureDay_77 rfl ?_
  refine Ca_405 C (f := R 405) rfl _ rfl h.1 dX1_firstSureDay_79 ?_
  have h := h.2
  refine Ca_403 C (f := R 403) rfl _ rfl h.1 dX1_firstSureDay_80 ?_
  have h := h.2
  refine g_iload_n C 1 dX1_firstSureDay_81 rfl ?_
  refine g_icmp_lt C 88 dX1_firstSureDay_82 (by decide) (fun c1 => ?_) (fun c1 => ?_)
  · have h := h.1 c1
    exact g_lv [0, 1, 2, 3] rfl (lO_firstSureDay_88 C hret hk37 _ _ _ _ _ _ _ _ h)
  · have h := h.2 c1
    refine g_iload C 3 dX1_firstSureDay_85 rfl ?_
    refine g_istore_n C [(3, .int v4), (0, .ref (ad 499)), (2, .int v2), (4, .int v4)] dX1_firstSureDay_87 (by decide) rfl ?_
    exact g_lv [1, 2, 0, 3] rfl (lO_firstSureDay_88 C hret hk37 _ _ _ _ _ _ _ _ h)
def qO_firstSureDay_37 : Nat → FT → RT → JT → PT → BT → Int32 → Int32 → Int32 → (Int32 → FT → RT → JT → PT → BT → Prop) → Prop
  | 0, _, _, _, _, _, _, _, _ => fun _ => False
  | n37 + 1, F, R, J, P, B, v2, v3, v4 => fun K => (v4 ≤ (F 411) → (qO_oddsToday_o F R J P B (F 413) (fun r2 F2 R2 J2 P2 B2 => (r2 < v2 → (K v3 F2 R2 J2 P2 B2)) ∧ (¬ r2 < v2 → (K (F2 411) F2 R2 J2 P2 B2))))) ∧ (¬ v4 ≤ (F 411) → (((F 408) ≤ v4 → (qO_firstSureDay_69 (fun F R J P B v2 v3 v4 => qO_firstSureDay_37 n37 F R J P B v2 v3 v4 K) F R J P B v2 v3 v4 K)) ∧ (¬ (F 408) ≤ v4 → (qO_stepBack_ob F R J P B v4 (fun F5 R5 J5 P5 B5 => qO_firstSureDay_69 (fun F R J P B v2 v3 v4 => qO_firstSureDay_37 n37 F R J P B v2 v3 v4 K) F5 R5 J5 P5 B5 v2 v3 v4 K)))))
set_option maxHeartbeats 4000000 in
set_option maxRecDepth 100000 in
theorem lO_firstSureDay_37 {X : XT} {ka : Nat → ClassId} {ad : Nat → Nat} (C : Cx X cX1_firstSureDay 5 RX1 (some .int) ka 6) {K : Int32 → FT → RT → JT → PT → BT → Prop} (hret : RetI X cX1_firstSureDay .int 0 0 (fun z w => ∃ F R J P B, w = wC ad ka F R J P B ∧ K z F R J P B)) : ∀ (n : Nat) (F : FT) (R : RT) (J : JT) (P : PT) (B : BT) (v2 : Int32) (v3 : Int32) (v4 : Int32), qO_firstSureDay_37 n F R J P B v2 v3 v4 K → G X 0 0 (wC ad ka F R J P B) 37 [(0, .ref (ad 499)), (2, .int v2), (3, .int v3), (4, .int v4)] [] := by
  intro n
  induction n with
  | zero => intro F R J P B v2 v3 v4 h; exact h.elim
  | succ n ih =>
    intro F R J P B v2 v3 v4 h
    refine g_iload C 3 dX1_firstSureDay_37 rfl ?_
    refine g_aload_n C 0 dX1_firstSureDay_39 rfl ?_
    refine Cg_X1_4_day C (v := F 411) rfl dX1_firstSureDay_40 ?_
    refine g_icmp_le C 94 dX1_firstSureDay_43 (by decide) (fun c1 => ?_) (fun c1 => ?_)
    · have h := h.1 c1
      refine g_aload_n C 0 dX1_firstSureDay_94 rfl ?_
      refine g_aload_n C 0 dX1_firstSureDay_95 rfl ?_
      refine Cg_X1_4_odds C dX1_firstSureDay_96 ?_
      refine g_aload_n C 0 dX1_firstSureDay_99 rfl ?_
      refine Cg_X1_4_cost C (v := F 413) rfl dX1_firstSureDay_100 ?_
      refine g_callVi0 C (kO_oddsToday_o (xL X) (xD X) ka ad _ _ _ _ _ _ _ h) miX1_oddsToday (gw_of tw3_152 rfl) (by decide) wC_o4 rfl rfl rfl (Nat.le_of_ble_eq_true rfl) z00 dX1_firstSureDay_103 (fun r2 w hw => ?_)
      obtain ⟨F2, R2, J2, P2, B2, rfl, h⟩ := hw
      refine g_iload_n C 1 dX1_firstSureDay_106 rfl ?_
      refine g_icmp_lt C 117 dX1_firstSureDay_107 (by decide) (fun c3 => ?_) (fun c3 => ?_)
      · have h := h.1 c3
        refine g_iload_n C 2 dX1_firstSureDay_117 rfl ?_
        exact hret _ _ _ _ ⟨_, _, _, _, _, rfl, h⟩ rfl dX1_firstSureDay_118
      · have h := h.2 c3
        refine g_aload_n C 0 dX1_firstSureDay_110 rfl ?_
        refine Cg_X1_4_day C (v := F2 411) rfl dX1_firstSureDay_111 ?_
        refine g_goto C 118 dX1_firstSureDay_114 (by decide) ?_
        exact hret _ _ _ _ ⟨_, _, _, _, _, rfl, h⟩ rfl dX1_firstSureDay_118
    · have h := h.2 c1
      refine g_iload C 3 dX1_firstSureDay_46 rfl ?_
      refine g_aload_n C 0 dX1_firstSureDay_48 rfl ?_
      refine Cg_X1_4_days C (v := F 408) rfl dX1_firstSureDay_49 ?_
      refine g_icmp_ge C 69 dX1_firstSureDay_52 (by decide) (fun c4 => ?_) (fun c4 => ?_)
      · have h := h.1 c4
        exact g_lv [0, 1, 2, 3] rfl (lO_firstSureDay_69 C hret (fun F R J P B v2 v3 v4 h => ih F R J P B v2 v3 v4 h) _ _ _ _ _ _ _ _ h)
      · have h := h.2 c4
        refine g_aload_n C 0 dX1_firstSureDay_55 rfl ?_
        refine g_aload_n C 0 dX1_firstSureDay_56 rfl ?_
        refine Cg_X1_4_odds C dX1_firstSureDay_57 ?_
        refine g_aload_n C 0 dX1_firstSureDay_60 rfl ?_
        refine Cg_X1_4_behind C dX1_firstSureDay_61 ?_
        refine g_iload C 3 dX1_firstSureDay_64 rfl ?_
        refine g_callVv0 C (kO_stepBack_ob (xL X) (xD X) ka ad _ _ _ _ _ _ _ h) miX1_stepBack (gw_of tw3_148 rfl) (by decide) wC_o4 rfl rfl rfl (Nat.le_of_ble_eq_true rfl) z00 dX1_firstSureDay_66 (fun w hw => ?_)
        obtain ⟨F5, R5, J5, P5, B5, rfl, h⟩ := hw
        exact g_lv [0, 1, 2, 3] rfl (lO_firstSureDay_69 C hret (fun F R J P B v2 v3 v4 h => ih F R J P B v2 v3 v4 h) _ _ _ _ _ _ _ _ h)
def qO_firstSureDay (F : FT) (R : RT) (J : JT) (P : PT) (B : BT) (a2 : Int32) (K : Int32 → FT → RT → JT → PT → BT → Prop) : Prop :=
  qS_costToday F R J P B (fun r1 F1 R1 J1 P1 B1 => qO_look F1 R1 J1 P1 B1 (F 104) (F 105) r1 (fun F2 R2 J2 P2 B2 => qO_reckonLays F2 R2 J2 P2 B2 (-1 : Int32) (0 : Int32) (fun F3 R3 J3 P3 B3 => qO_startAtSummer F3 R3 J3 P3 B3 (fun F4 R4 J4 P4 B4 => ∃ n37, qO_firstSureDay_37 n37 F4 R4 J4 P4 B4 a2 (-4 : Int32) (F4 408) K))))
set_option maxHeartbeats 4000000 in
set_option maxRecDepth 100000 in
theorem bO_firstSureDay {X : XT} {ka : Nat → ClassId} {ad : Nat → Nat} (C : Cx X cX1_firstSureDay 5 RX1 (some .int) ka 6) {K : Int32 → FT → RT → JT → PT → BT → Prop} (hret : RetI X cX1_firstSureDay .int 0 0 (fun z w => ∃ F R J P B, w = wC ad ka F R J P B ∧ K z F R J P B)) (F : FT) (R : RT) (J : JT) (P : PT) (B : BT) (a2 : Int32) (h : qO_firstSureDay F R J P B a2 K) : G X 0 0 (wC ad ka F R J P B) 0 [(0, .ref (ad 499)), (1, .ref (ad 199)), (2, .int a2)] [] := by
  unfold qO_firstSureDay at h
  refine g_aload_n C 0 dX1_firstSureDay_0 rfl ?_
  refine g_aload_n C 1 dX1_firstSureDay_1 rfl ?_
  refine g_aload_n C 1 dX1_firstSureDay_2 rfl ?_
  refine Cg_X1_1_day C (v := F 104) rfl dX1_firstSureDay_3 ?_
  refine g_aload_n C 1 dX1_firstSureDay_6 rfl ?_
  refine Cg_X1_1_laid C (v := F 105) rfl dX1_firstSureDay_7 ?_
  refine g_aload_n C 1 dX1_firstSureDay_10 rfl ?_
  refine g_callVi0 C (kS_costToday (xL X) (xD X) ka ad _ _ _ _ _ _ h) miX7_costToday (gw_of tw3_120 rfl) (by decide) wC_o1 rfl rfl rfl (Nat.le_of_ble_eq_true rfl) z00 dX1_firstSureDay_11 (fun r1 w hw => ?_)
  obtain ⟨F1, R1, J1, P1, B1, rfl, h⟩ := hw
  refine g_callVv0 C (kO_look (xL X) (xD X) ka ad _ _ _ _ _ _ _ _ _ h) miX1_look (gw_of tw3_121 rfl) (by decide) wC_o4 rfl rfl rfl (Nat.le_of_ble_eq_true rfl) z00 dX1_firstSureDay_14 (fun w hw => ?_)
  obtain ⟨F2, R2, J2, P2, B2, rfl, h⟩ := hw
  refine g_aload_n C 0 dX1_firstSureDay_17 rfl ?_
  refine g_aload_n C 1 dX1_firstSureDay_18 rfl ?_
  refine g_iconst C (-1 : Int32) dX1_firstSureDay_19 ci_m1 ?_
  refine g_iconst C (0 : Int32) dX1_firstSureDay_20 ci_0 ?_
  refine g_callVv0 C (kO_reckonLays (xL X) (xD X) ka ad _ _ _ _ _ _ _ _ h) miX1_reckonLays (gw_of tw3_125 rfl) (by decide) wC_o4 rfl rfl rfl (Nat.le_of_ble_eq_true rfl) z00 dX1_firstSureDay_21 (fun w hw => ?_)
  obtain ⟨F3, R3, J3, P3, B3, rfl, h⟩ := hw
  refine g_aload_n C 0 dX1_firstSureDay_24 rfl ?_
  refine g_callVv0 C (kO_startAtSummer (xL X) (xD X) ka ad _ _ _ _ _ _ h) miX1_startAtSummer (gw_of tw3_143 rfl) (by decide) wC_o4 rfl rfl rfl (Nat.le_of_ble_eq_true rfl) z00 dX1_firstSureDay_25 (fun w hw => ?_)
  obtain ⟨F4, R4, J4, P4, B4, rfl, h⟩ := hw
  refine g_bipush C (-4 : Int32) dX1_firstSureDay_28 cb_m4 ?_
  refine g_istore_n C [(3, .int (-4 : Int32)), (0, .ref (ad 499)), (1, .ref (ad 199)), (2, .int a2)] dX1_firstSureDay_30 (by decide) rfl ?_
  refine g_aload_n C 1 dX1_firstSureDay_31 rfl ?_
  refine Cg_X1_4_days C (v := F4 408) rfl dX1_firstSureDay_32 ?_
  refine g_istore C [(4, .int (F4 408)), (3, .int (-4 : Int32)), (0, .ref (ad 499)), (1, .ref (ad 199)), (2, .int a2)] dX1_firstSureDay_35 (by decide) rfl ?_
  obtain ⟨n1, h⟩ := h
  exact g_lv [2, 4, 1, 0] rfl (lO_firstSureDay_37 C hret n1 _ _ _ _ _ _ _ _ h)
set_option maxHeartbeats 4000000 in
set_option maxRecDepth 100000 in
theorem kO_firstSureDay (l : Launch) (D : va_G) (ka : Nat → ClassId) (ad : Nat → Nat) (F : FT) (R : RT) (J : JT) (P : PT) (B : BT) (a2 : Int32) (K : Int32 → FT → RT → JT → PT → BT → Prop) (h : qO_firstSureDay F R J P B a2 K) : MI l D ka yX1_firstSureDay cX1_firstSureDay 5 (some .int) 6 0 0 [.ref (ad 499), .ref (ad 199), .int a2] (wC ad ka F R J P B) (fun z w => ∃ F R J P B, w = wC ad ka F R J P B ∧ K z F R J P B) := MI_of (by decide) (Nat.le_of_ble_eq_true rfl) (fun X C hroom hret => bO_firstSureDay C hret F R J P B a2 h)
set_option maxHeartbeats 4000000 in
set_option maxRecDepth 100000 in
theorem miX1_firstSureDay : MInf yX1_firstSureDay cX1_firstSureDay 5 (some .int) 2 := ⟨(gw_of tw3_170 rfl), (gw_of tw3_171 rfl), (gw_of tw1_4 rfl), (gw_of tw3_172 rfl), by decide +kernel, by decide⟩

def qO_fewestHindrances_119 (k44 : FT → RT → JT → PT → BT → Int32 → Int32 → Int32 → Int32 → Prop) (F : FT) (R : RT) (J : JT) (P : PT) (B : BT) (v2 : Int32) (v3 : Int32) (v4 : Int32) (v5 : Int32) (K : Int32 → FT → RT → JT → PT → BT → Prop) : Prop :=
  k44 F R J P B v2 v3 v4 (v5 + (1 : Int32))
set_option maxHeartbeats 4000000 in
set_option maxRecDepth 100000 in
theorem lO_fewestHindrances_119 {X : XT} {ka : Nat → ClassId} {ad : Nat → Nat} (C : Cx X cX1_fewestHindrances 7 RX1 (some .int) ka 6) {K : Int32 → FT → RT → JT → PT → BT → Prop} (hret : RetI X cX1_fewestHindrances .int 0 0 (fun z w => ∃ F R J P B, w = wC ad ka F R J P B ∧ K z F R J P B)) {k44 : FT → RT → JT → PT → BT → Int32 → Int32 → Int32 → Int32 → Prop} (hk44 : ∀ (F : FT) (R : RT) (J : JT) (P : PT) (B : BT) (v2 : Int32) (v3 : Int32) (v4 : Int32) (v5 : Int32), k44 F R J P B v2 v3 v4 v5 → G X 0 0 (wC ad ka F R J P B) 44 [(0, .ref (ad 499)), (1, .ref (ad 199)), (2, .int v2), (3, .int v3), (4, .int v4), (5, .int v5)] []) (F : FT) (R : RT) (J : JT) (P : PT) (B : BT) (v2 : Int32) (v3 : Int32) (v4 : Int32) (v5 : Int32) (h : qO_fewestHindrances_119 k44 F R J P B v2 v3 v4 v5 K) : G X 0 0 (wC ad ka F R J P B) 119 [(0, .ref (ad 499)), (1, .ref (ad 199)), (2, .int v2), (3, .int v3), (4, .int v4), (5, .int v5)] [] := by
  unfold qO_fewestHindrances_119 at h
  refine g_iinc C 5 (v5 + (1 : Int32)) [(5, .int (v5 + (1 : Int32))), (0, .ref (ad 499)), (1, .ref (ad 199)), (2, .int v2), (3, .int v3), (4, .int v4)] dX1_fewestHindrances_119 rfl (by rw [ci_1]) (by decide) rfl ?_
  refine g_goto C 44 dX1_fewestHindrances_122 (by decide) ?_
  exact g_lv [1, 2, 3, 4, 5, 0] rfl (hk44 _ _ _ _ _ _ _ _ _ h)
def qO_fewestHindrances_78 (k44 : FT → RT → JT → PT → BT → Int32 → Int32 → Int32 → Int32 → Prop) (F : FT) (R : RT) (J : JT) (P : PT) (B : BT) (v2 : Int32) (v3 : Int32) (v4 : Int32) (v5 : Int32) (s0 : Int32) (K : Int32 → FT → RT → JT → PT → BT → Prop) : Prop :=
  (s0 = 0 → (qO_fewestHindrances_119 k44 F R J P B v2 v3 v4 v5 K)) ∧ (¬ s0 = 0 → ((¬ (v5 &&& v3) = 0 → (qO_fewestHindrances_119 k44 F R J P B v2 v3 v4 v5 K)) ∧ ((v5 &&& v3) = 0 → (qS_costOf F R J P B v5 (fun r3 F3 R3 J3 P3 B3 => qO_oddsToday_o F3 R3 J3 P3 B3 ((F 413) + r3) (fun r4 F4 R4 J4 P4 B4 => (v2 < r4 → (qO_fewestHindrances_119 k44 F4 R4 J4 P4 B4 v2 v3 v4 v5 K)) ∧ (¬ v2 < r4 → (qO_fewestHindrances_119 k44 F4 R4 J4 P4 B4 v2 v3 v5 v5 K))))))))
set_option maxHeartbeats 4000000 in
set_option maxRecDepth 100000 in
theorem lO_fewestHindrances_78 {X : XT} {ka : Nat → ClassId} {ad : Nat → Nat} (C : Cx X cX1_fewestHindrances 7 RX1 (some .int) ka 6) {K : Int32 → FT → RT → JT → PT → BT → Prop} (hret : RetI X cX1_fewestHindrances .int 0 0 (fun z w => ∃ F R J P B, w = wC ad ka F R J P B ∧ K z F R J P B)) {k44 : FT → RT → JT → PT → BT → Int32 → Int32 → Int32 → Int32 → Prop} (hk44 : ∀ (F : FT) (R : RT) (J : JT) (P : PT) (B : BT) (v2 : Int32) (v3 : Int32) (v4 : Int32) (v5 : Int32), k44 F R J P B v2 v3 v4 v5 → G X 0 0 (wC ad ka F R J P B) 44 [(0, .ref (ad 499)), (1, .ref (ad 199)), (2, .int v2), (3, .int v3), (4, .int v4), (5, .int v5)] []) (F : FT) (R : RT) (J : JT) (P : PT) (B : BT) (v2 : Int32) (v3 : Int32) (v4 : Int32) (v5 : Int32) (s0 : Int32) (h : qO_fewestHindrances_78 k44 F R J P B v2 v3 v4 v5 s0 K) : G X 0 0 (wC ad ka F R J P B) 78 [(0, .ref (ad 499)), (1, .ref (ad 199)), (2, .int v2), (3, .int v3), (4, .int v4), (5, .int v5)] [.int s0] := by
  unfold qO_fewestHindrances_78 at h
  refine g_istore C [(6, .int s0), (0, .ref (ad 499)), (1, .ref (ad 199)), (2, .int v2), (3, .int v3), (4, .int v4), (5, .int v5)] dX1_fewestHindrances_78 (by decide) rfl ?_
  refine g_iload C 0 dX1_fewestHindrances_80 rfl ?_
  refine g_if_eq C 119 dX1_fewestHindrances_82 (by decide) (fun c1 => ?_) (fun c1 => ?_)
  · have h := h.1 c1
    exact g_lv [1, 2, 3, 4, 5, 6] rfl (lO_fewestHindrances_119 C hret hk44 _ _ _ _ _ _ _ _ _ h)
  · have h := h.2 c1
    refine g_iload C 6 dX1_fewestHindrances_85 rfl ?_
    refine g_iload_n C 4 dX1_fewestHindrances_87 rfl ?_
    refine g_iand C dX1_fewestHindrances_88 ?_
    refine g_if_ne C 119 dX1_fewestHindrances_89 (by decide) (fun c2 => ?_) (fun c2 => ?_)
    · have h := h.1 c2
      exact g_lv [1, 2, 3, 4, 5, 6] rfl (lO_fewestHindrances_119 C hret hk44 _ _ _ _ _ _ _ _ _ h)
    · have h := h.2 c2
      refine g_aload_n C 1 dX1_fewestHindrances_92 rfl ?_
      refine g_aload_n C 1 dX1_fewestHindrances_93 rfl ?_
      refine Cg_X1_4_odds C dX1_fewestHindrances_94 ?_
      refine g_aload_n C 1 dX1_fewestHindrances_97 rfl ?_
      refine Cg_X1_4_cost C (v := F 413) rfl dX1_fewestHindrances_98 ?_
      refine g_aload_n C 2 dX1_fewestHindrances_101 rfl ?_
      refine g_iload C 6 dX1_fewestHindrances_102 rfl ?_
      refine g_callVi0 C (kS_costOf (xL X) (xD X) ka ad _ _ _ _ _ _ _ h) miX7_costOf (gw_of tw3_195 rfl) (by decide) wC_o1 rfl rfl rfl (Nat.le_of_ble_eq_true rfl) z00 dX1_fewestHindrances_104 (fun r3 w hw => ?_)
      obtain ⟨F3, R3, J3, P3, B3, rfl, h⟩ := hw
      refine g_iadd C dX1_fewestHindrances_107 ?_
      refine g_callVi0 C (kO_oddsToday_o (xL X) (xD X) ka ad _ _ _ _ _ _ _ h) miX1_oddsToday (gw_of tw3_152 rfl) (by decide) wC_o4 rfl rfl rfl (Nat.le_of_ble_eq_true rfl) z00 dX1_fewestHindrances_108 (fun r4 w hw => ?_)
      obtain ⟨F4, R4, J4, P4, B4, rfl, h⟩ := hw
      refine g_iload_n C 3 dX1_fewestHindrances_111 rfl ?_
      refine g_icmp_gt C 119 dX1_fewestHindrances_112 (by decide) (fun c5 => ?_) (fun c5 => ?_)
      · have h := h.1 c5
        exact g_lv [1, 2, 3, 4, 5, 6] rfl (lO_fewestHindrances_119 C hret hk44 _ _ _ _ _ _ _ _ _ h)
      · have h := h.2 c5
        refine g_iload C 6 dX1_fewestHindrances_115 rfl ?_
        refine g_istore C [(4, .int v5), (6, .int s0), (0, .ref (ad 499)), (1, .ref (ad 199)), (2, .int v2), (3, .int v3), (5, .int v5)] dX1_fewestHindrances_117 (by decide) rfl ?_
        exact g_lv [2, 3, 4, 5, 0, 6] rfl (lO_fewestHindrances_119 C hret hk44 _ _ _ _ _ _ _ _ _ h)
def qO_fewestHindrances_73 (k44 : FT → RT → JT → PT → BT → Int32 → Int32 → Int32 → Int32 → Prop) (F : FT) (R : RT) (J : JT) (P : PT) (B : BT) (v2 : Int32) (v3 : Int32) (v4 : Int32) (v5 : Int32) (K : Int32 → FT → RT → JT → PT → BT → Prop) : Prop :=
  qO_fewestHindrances_78 k44 F R J P B v2 v3 v4 v5 (1 : Int32) K
set_option maxHeartbeats 4000000 in
set_option maxRecDepth 100000 in
theorem lO_fewestHindrances_73 {X : XT} {ka : Nat → ClassId} {ad : Nat → Nat} (C : Cx X cX1_fewestHindrances 7 RX1 (some .int) ka 6) {K : Int32 → FT → RT → JT → PT → BT → Prop} (hret : RetI X cX1_fewestHindrances .int 0 0 (fun z w => ∃ F R J P B, w = wC ad ka F R J P B ∧ K z F R J P B)) {k44 : FT → RT → JT → PT → BT → Int32 → Int32 → Int32 → Int32 → Prop} (hk44 : ∀ (F : FT) (R : RT) (J : JT) (P : PT) (B : BT) (v2 : Int32) (v3 : Int32) (v4 : Int32) (v5 : Int32), k44 F R J P B v2 v3 v4 v5 → G X 0 0 (wC ad ka F R J P B) 44 [(0, .ref (ad 499)), (1, .ref (ad 199)), (2, .int v2), (3, .int v3), (4, .int v4), (5, .int v5)] []) (F : FT) (R : RT) (J : JT) (P : PT) (B : BT) (v2 : Int32) (v3 : Int32) (v4 : Int32) (v5 : Int32) (h : qO_fewestHindrances_73 k44 F R J P B v2 v3 v4 v5 K) : G X 0 0 (wC ad ka F R J P B) 73 [(0, .ref (ad 499)), (1, .ref (ad 199)), (2, .int v2), (3, .int v3), (4, .int v4), (5, .int v5)] [] := by
  unfold qO_fewestHindrances_73 at h
  refine g_iconst C (1 : Int32) dX1_fewestHindrances_73 ci_1 ?_
  refine g_goto C 78 dX1_fewestHindrances_74 (by decide) ?_
  exact g_lv [0, 1, 2, 3, 4, 5] rfl (lO_fewestHindrances_78 C hret hk44 _ _ _ _ _ _ _ _ _ _ h)
def qO_fewestHindrances_44 : Nat → FT → RT → JT → PT → BT → Int32 → Int32 → Int32 → Int32 → (Int32 → FT → RT → JT → PT → BT → Prop) → Prop
  | 0, _, _, _, _, _, _, _, _, _ => fun _ => False
  | n44 + 1, F, R, J, P, B, v2, v3, v4, v5 => fun K => (((1 : Int32) <<< ((F 112) &&& 31)) ≤ v5 → (K v4 F R J P B)) ∧ (¬ ((1 : Int32) <<< ((F 112) &&& 31)) ≤ v5 → ((v4 < 0 → (qO_fewestHindrances_73 (fun F R J P B v2 v3 v4 v5 => qO_fewestHindrances_44 n44 F R J P B v2 v3 v4 v5 K) F R J P B v2 v3 v4 v5 K)) ∧ (¬ v4 < 0 → (qJ_bitCount F R J P B v5 (fun r3 F3 R3 J3 P3 B3 => qJ_bitCount F3 R3 J3 P3 B3 v4 (fun r4 F4 R4 J4 P4 B4 => (r4 ≤ r3 → (qO_fewestHindrances_78 (fun F R J P B v2 v3 v4 v5 => qO_fewestHindrances_44 n44 F R J P B v2 v3 v4 v5 K) F4 R4 J4 P4 B4 v2 v3 v4 v5 (0 : Int32) K)) ∧ (¬ r4 ≤ r3 → (qO_fewestHindrances_73 (fun F R J P B v2 v3 v4 v5 => qO_fewestHindrances_44 n44 F R J P B v2 v3 v4 v5 K) F4 R4 J4 P4 B4 v2 v3 v4 v5 K))))))))
set_option maxHeartbeats 4000000 in
set_option maxRecDepth 100000 in
theorem lO_fewestHindrances_44 {X : XT} {ka : Nat → ClassId} {ad : Nat → Nat} (C : Cx X cX1_fewestHindrances 7 RX1 (some .int) ka 6) {K : Int32 → FT → RT → JT → PT → BT → Prop} (hret : RetI X cX1_fewestHindrances .int 0 0 (fun z w => ∃ F R J P B, w = wC ad ka F R J P B ∧ K z F R J P B)) : ∀ (n : Nat) (F : FT) (R : RT) (J : JT) (P : PT) (B : BT) (v2 : Int32) (v3 : Int32) (v4 : Int32) (v5 : Int32), qO_fewestHindrances_44 n F R J P B v2 v3 v4 v5 K → G X 0 0 (wC ad ka F R J P B) 44 [(0, .ref (ad 499)), (1, .ref (ad 199)), (2, .int v2), (3, .int v3), (4, .int v4), (5, .int v5)] [] := by
  intro n
  induction n with
  | zero => intro F R J P B v2 v3 v4 v5 h; exact h.elim
  | succ n ih =>
    intro F R J P B v2 v3 v4 v5 h
    refine g_iload C 5 dX1_fewestHindrances_44 rfl ?_
    refine g_iconst C (1 : Int32) dX1_fewestHindrances_46 ci_1 ?_
    refine g_aload_n C 1 dX1_fewestHindrances_47 rfl ?_
    refine Cg_X1_1_hindranceCount C (v := F 112) rfl dX1_fewestHindrances_48 ?_
    refine g_ishl C dX1_fewestHindrances_51 ?_
    refine g_icmp_ge C 125 dX1_fewestHindrances_52 (by decide) (fun c1 => ?_) (fun c1 => ?_)
    · have h := h.1 c1
      refine g_iload C 4 dX1_fewestHindrances_125 rfl ?_
      exact hret _ _ _ _ ⟨_, _, _, _, _, rfl, h⟩ rfl dX1_fewestHindrances_127
    · have h := h.2 c1
      refine g_iload C 4 dX1_fewestHindrances_55 rfl ?_
      refine g_if_lt C 73 dX1_fewestHindrances_57 (by decide) (fun c2 => ?_) (fun c2 => ?_)
      · have h := h.1 c2
        exact g_lv [0, 1, 2, 3, 4, 5] rfl (lO_fewestHindrances_73 C hret (fun F R J P B v2 v3 v4 v5 h => ih F R J P B v2 v3 v4 v5 h) _ _ _ _ _ _ _ _ _ h)
      · have h := h.2 c2
        refine g_iload C 5 dX1_fewestHindrances_60 rfl ?_
        refine g_callSi0 C (kJ_bitCount (xL X) (xD X) ka ad _ _ _ _ _ _ _ h) siJ6_bitCount_0f7a4 (gw_of tw3_189 rfl) (by decide) rfl rfl (Nat.le_of_ble_eq_true rfl) z00 dX1_fewestHindrances_62 (fun r3 w hw => ?_)
        obtain ⟨F3, R3, J3, P3, B3, rfl, h⟩ := hw
        refine g_iload C 4 dX1_fewestHindrances_65 rfl ?_
        refine g_callSi0 C (kJ_bitCount (xL X) (xD X) ka ad _ _ _ _ _ _ _ h) siJ6_bitCount_0f7a4 (gw_of tw3_189 rfl) (by decide) rfl rfl (Nat.le_of_ble_eq_true rfl) z00 dX1_fewestHindrances_67 (fun r4 w hw => ?_)
        obtain ⟨F4, R4, J4, P4, B4, rfl, h⟩ := hw
        refine g_icmp_ge C 77 dX1_fewestHindrances_70 (by decide) (fun c5 => ?_) (fun c5 => ?_)
        · have h := h.1 c5
          refine g_iconst C (0 : Int32) dX1_fewestHindrances_77 ci_0 ?_
          exact g_lv [0, 1, 2, 3, 4, 5] rfl (lO_fewestHindrances_78 C hret (fun F R J P B v2 v3 v4 v5 h => ih F R J P B v2 v3 v4 v5 h) _ _ _ _ _ _ _ _ _ _ h)
        · have h := h.2 c5
          exact g_lv [0, 1, 2, 3, 4, 5] rfl (lO_fewestHindrances_73 C hret (fun F R J P B v2 v3 v4 v5 h => ih F R J P B v2 v3 v4 v5 h) _ _ _ _ _ _ _ _ _ h)
def qO_fewestHindrances (F : FT) (R : RT) (J : JT) (P : PT) (B : BT) (a2 : Int32) (K : Int32 → FT → RT → JT → PT → BT → Prop) : Prop :=
  qS_costToday F R J P B (fun r1 F1 R1 J1 P1 B1 => qO_look F1 R1 J1 P1 B1 (F 104) (F 105) r1 (fun F2 R2 J2 P2 B2 => qO_reckonLays F2 R2 J2 P2 B2 (-1 : Int32) (0 : Int32) (fun F3 R3 J3 P3 B3 => qO_goBackToTomorrow F3 R3 J3 P3 B3 (fun F4 R4 J4 P4 B4 => qS_forbidden F4 R4 J4 P4 B4 (fun r5 F5 R5 J5 P5 B5 => ∃ n44, qO_fewestHindrances_44 n44 F5 R5 J5 P5 B5 a2 ((F4 106) ||| r5) (-1 : Int32) (0 : Int32) K)))))
set_option maxHeartbeats 4000000 in
set_option maxRecDepth 100000 in
theorem bO_fewestHindrances {X : XT} {ka : Nat → ClassId} {ad : Nat → Nat} (C : Cx X cX1_fewestHindrances 7 RX1 (some .int) ka 6) {K : Int32 → FT → RT → JT → PT → BT → Prop} (hret : RetI X cX1_fewestHindrances .int 0 0 (fun z w => ∃ F R J P B, w = wC ad ka F R J P B ∧ K z F R J P B)) (F : FT) (R : RT) (J : JT) (P : PT) (B : BT) (a2 : Int32) (h : qO_fewestHindrances F R J P B a2 K) : G X 0 0 (wC ad ka F R J P B) 0 [(0, .ref (ad 499)), (1, .ref (ad 199)), (2, .int a2)] [] := by
  unfold qO_fewestHindrances at h
  refine g_aload_n C 0 dX1_fewestHindrances_0 rfl ?_
  refine g_aload_n C 1 dX1_fewestHindrances_1 rfl ?_
  refine g_aload_n C 1 dX1_fewestHindrances_2 rfl ?_
  refine Cg_X1_1_day C (v := F 104) rfl dX1_fewestHindrances_3 ?_
  refine g_aload_n C 1 dX1_fewestHindrances_6 rfl ?_
  refine Cg_X1_1_laid C (v := F 105) rfl dX1_fewestHindrances_7 ?_
  refine g_aload_n C 1 dX1_fewestHindrances_10 rfl ?_
  refine g_callVi0 C (kS_costToday (xL X) (xD X) ka ad _ _ _ _ _ _ h) miX7_costToday (gw_of tw3_120 rfl) (by decide) wC_o1 rfl rfl rfl (Nat.le_of_ble_eq_true rfl) z00 dX1_fewestHindrances_11 (fun r1 w hw => ?_)
  obtain ⟨F1, R1, J1, P1, B1, rfl, h⟩ := hw
  refine g_callVv0 C (kO_look (xL X) (xD X) ka ad _ _ _ _ _ _ _ _ _ h) miX1_look (gw_of tw3_121 rfl) (by decide) wC_o4 rfl rfl rfl (Nat.le_of_ble_eq_true rfl) z00 dX1_fewestHindrances_14 (fun w hw => ?_)
  obtain ⟨F2, R2, J2, P2, B2, rfl, h⟩ := hw
  refine g_aload_n C 0 dX1_fewestHindrances_17 rfl ?_
  refine g_aload_n C 1 dX1_fewestHindrances_18 rfl ?_
  refine g_iconst C (-1 : Int32) dX1_fewestHindrances_19 ci_m1 ?_
  refine g_iconst C (0 : Int32) dX1_fewestHindrances_20 ci_0 ?_
  refine g_callVv0 C (kO_reckonLays (xL X) (xD X) ka ad _ _ _ _ _ _ _ _ h) miX1_reckonLays (gw_of tw3_125 rfl) (by decide) wC_o4 rfl rfl rfl (Nat.le_of_ble_eq_true rfl) z00 dX1_fewestHindrances_21 (fun w hw => ?_)
  obtain ⟨F3, R3, J3, P3, B3, rfl, h⟩ := hw
  refine g_aload_n C 0 dX1_fewestHindrances_24 rfl ?_
  refine g_callVv0 C (kO_goBackToTomorrow (xL X) (xD X) ka ad _ _ _ _ _ _ h) miX1_goBackToTomorrow (gw_of tw3_139 rfl) (by decide) wC_o4 rfl rfl rfl (Nat.le_of_ble_eq_true rfl) z00 dX1_fewestHindrances_25 (fun w hw => ?_)
  obtain ⟨F4, R4, J4, P4, B4, rfl, h⟩ := hw
  refine g_aload_n C 1 dX1_fewestHindrances_28 rfl ?_
  refine Cg_X1_1_used C (v := F4 106) rfl dX1_fewestHindrances_29 ?_
  refine g_aload_n C 1 dX1_fewestHindrances_32 rfl ?_
  refine g_callVi0 C (kS_forbidden (xL X) (xD X) ka ad _ _ _ _ _ _ h) miX7_forbidden (gw_of tw3_185 rfl) (by decide) wC_o1 rfl rfl rfl (Nat.le_of_ble_eq_true rfl) z00 dX1_fewestHindrances_33 (fun r5 w hw => ?_)
  obtain ⟨F5, R5, J5, P5, B5, rfl, h⟩ := hw
  refine g_ior C dX1_fewestHindrances_36 ?_
  refine g_istore_n C [(3, .int ((F4 106) ||| r5)), (0, .ref (ad 499)), (1, .ref (ad 199)), (2, .int a2)] dX1_fewestHindrances_37 (by decide) rfl ?_
  refine g_iconst C (-1 : Int32) dX1_fewestHindrances_38 ci_m1 ?_
  refine g_istore C [(4, .int (-1 : Int32)), (3, .int ((F4 106) ||| r5)), (0, .ref (ad 499)), (1, .ref (ad 199)), (2, .int a2)] dX1_fewestHindrances_39 (by decide) rfl ?_
  refine g_iconst C (0 : Int32) dX1_fewestHindrances_41 ci_0 ?_
  refine g_istore C [(5, .int (0 : Int32)), (4, .int (-1 : Int32)), (3, .int ((F4 106) ||| r5)), (0, .ref (ad 499)), (1, .ref (ad 199)), (2, .int a2)] dX1_fewestHindrances_42 (by decide) rfl ?_
  obtain ⟨n1, h⟩ := h
  exact g_lv [3, 4, 5, 2, 1, 0] rfl (lO_fewestHindrances_44 C hret n1 _ _ _ _ _ _ _ _ _ h)
set_option maxHeartbeats 4000000 in
set_option maxRecDepth 100000 in
theorem kO_fewestHindrances (l : Launch) (D : va_G) (ka : Nat → ClassId) (ad : Nat → Nat) (F : FT) (R : RT) (J : JT) (P : PT) (B : BT) (a2 : Int32) (K : Int32 → FT → RT → JT → PT → BT → Prop) (h : qO_fewestHindrances F R J P B a2 K) : MI l D ka yX1_fewestHindrances cX1_fewestHindrances 7 (some .int) 6 0 0 [.ref (ad 499), .ref (ad 199), .int a2] (wC ad ka F R J P B) (fun z w => ∃ F R J P B, w = wC ad ka F R J P B ∧ K z F R J P B) := MI_of (by decide) (Nat.le_of_ble_eq_true rfl) (fun X C hroom hret => bO_fewestHindrances C hret F R J P B a2 h)
set_option maxHeartbeats 4000000 in
set_option maxRecDepth 100000 in
theorem miX1_fewestHindrances : MInf yX1_fewestHindrances cX1_fewestHindrances 7 (some .int) 2 := ⟨(gw_of tw3_182 rfl), (gw_of tw3_183 rfl), (gw_of tw1_4 rfl), (gw_of tw3_184 rfl), by decide +kernel, by decide⟩

def qO_oddsIfHindered_33 : Nat → FT → RT → JT → PT → BT → Int32 → (Int32 → FT → RT → JT → PT → BT → Prop) → Prop
  | 0, _, _, _, _, _, _ => fun _ => False
  | n33 + 1, F, R, J, P, B, v2 => fun K => (v2 ≤ (F 411) → (qO_oddsToday_h F R J P B (F 413) (fun r2 F2 R2 J2 P2 B2 => K r2 F2 R2 J2 P2 B2))) ∧ (¬ v2 ≤ (F 411) → (qO_stepBack_hb F R J P B v2 (fun F3 R3 J3 P3 B3 => qO_oddsIfHindered_33 n33 F3 R3 J3 P3 B3 (v2 + (-1 : Int32)) K)))
set_option maxHeartbeats 4000000 in
set_option maxRecDepth 100000 in
theorem lO_oddsIfHindered_33 {X : XT} {ka : Nat → ClassId} {ad : Nat → Nat} (C : Cx X cX1_oddsIfHindered 3 RX1 (some .int) ka 3) {K : Int32 → FT → RT → JT → PT → BT → Prop} (hret : RetI X cX1_oddsIfHindered .int 0 0 (fun z w => ∃ F R J P B, w = wC ad ka F R J P B ∧ K z F R J P B)) : ∀ (n : Nat) (F : FT) (R : RT) (J : JT) (P : PT) (B : BT) (v2 : Int32), qO_oddsIfHindered_33 n F R J P B v2 K → G X 0 0 (wC ad ka F R J P B) 33 [(0, .ref (ad 499)), (2, .int v2)] [] := by
  intro n
  induction n with
  | zero => intro F R J P B v2 h; exact h.elim
  | succ n ih =>
    intro F R J P B v2 h
    refine g_iload_n C 1 dX1_oddsIfHindered_33 rfl ?_
    refine g_aload_n C 0 dX1_oddsIfHindered_34 rfl ?_
    refine Cg_X1_4_day C (v := F 411) rfl dX1_oddsIfHindered_35 ?_
    refine g_icmp_le C 60 dX1_oddsIfHindered_38 (by decide) (fun c1 => ?_) (fun c1 => ?_)
    · have h := h.1 c1
      refine g_aload_n C 0 dX1_oddsIfHindered_60 rfl ?_
      refine g_aload_n C 0 dX1_oddsIfHindered_61 rfl ?_
      refine Cg_X1_4_oddsHindered C dX1_oddsIfHindered_62 ?_
      refine g_aload_n C 0 dX1_oddsIfHindered_65 rfl ?_
      refine Cg_X1_4_cost C (v := F 413) rfl dX1_oddsIfHindered_66 ?_
      refine g_callVi0 C (kO_oddsToday_h (xL X) (xD X) ka ad _ _ _ _ _ _ _ h) miX1_oddsToday (gw_of tw3_152 rfl) (by decide) wC_o4 rfl rfl rfl (Nat.le_of_ble_eq_true rfl) z00 dX1_oddsIfHindered_69 (fun r2 w hw => ?_)
      obtain ⟨F2, R2, J2, P2, B2, rfl, h⟩ := hw
      exact hret _ _ _ _ ⟨_, _, _, _, _, rfl, h⟩ rfl dX1_oddsIfHindered_72
    · have h := h.2 c1
      refine g_aload_n C 0 dX1_oddsIfHindered_41 rfl ?_
      refine g_aload_n C 0 dX1_oddsIfHindered_42 rfl ?_
      refine Cg_X1_4_oddsHindered C dX1_oddsIfHindered_43 ?_
      refine g_aload_n C 0 dX1_oddsIfHindered_46 rfl ?_
      refine Cg_X1_4_behind C dX1_oddsIfHindered_47 ?_
      refine g_iload_n C 1 dX1_oddsIfHindered_50 rfl ?_
      refine g_callVv0 C (kO_stepBack_hb (xL X) (xD X) ka ad _ _ _ _ _ _ _ h) miX1_stepBack (gw_of tw3_148 rfl) (by decide) wC_o4 rfl rfl rfl (Nat.le_of_ble_eq_true rfl) z00 dX1_oddsIfHindered_51 (fun w hw => ?_)
      obtain ⟨F3, R3, J3, P3, B3, rfl, h⟩ := hw
      refine g_iinc C 1 (v2 + (-1 : Int32)) [(2, .int (v2 + (-1 : Int32))), (0, .ref (ad 499))] dX1_oddsIfHindered_54 rfl (by rw [ci_m1]) (by decide) rfl ?_
      refine g_goto C 33 dX1_oddsIfHindered_57 (by decide) ?_
      exact g_lv [1, 0] rfl (ih _ _ _ _ _ _ h)
def qO_oddsIfHindered (F : FT) (R : RT) (J : JT) (P : PT) (B : BT) (a1 : Int32) (K : Int32 → FT → RT → JT → PT → BT → Prop) : Prop :=
  qO_stepBack_hh F (va_up R 404 (va_cpy (R 403) (R 404) ((0 : Int32).toNatClampNeg) ((0 : Int32).toNatClampNeg) ((201 : Int32).toNatClampNeg))) J P B a1 (fun F1 R1 J1 P1 B1 => ∃ n33, qO_oddsIfHindered_33 n33 F1 R1 J1 P1 B1 (a1 - (1 : Int32)) K)
set_option maxHeartbeats 4000000 in
set_option maxRecDepth 100000 in
theorem bO_oddsIfHindered {X : XT} {ka : Nat → ClassId} {ad : Nat → Nat} (C : Cx X cX1_oddsIfHindered 3 RX1 (some .int) ka 3) {K : Int32 → FT → RT → JT → PT → BT → Prop} (hret : RetI X cX1_oddsIfHindered .int 0 0 (fun z w => ∃ F R J P B, w = wC ad ka F R J P B ∧ K z F R J P B)) (F : FT) (R : RT) (J : JT) (P : PT) (B : BT) (a1 : Int32) (h : qO_oddsIfHindered F R J P B a1 K) : G X 0 0 (wC ad ka F R J P B) 0 [(0, .ref (ad 499)), (1, .int a1)] [] := by
  unfold qO_oddsIfHindered at h
  refine g_aload_n C 0 dX1_oddsIfHindered_0 rfl ?_
  refine Cg_X1_4_odds C dX1_oddsIfHindered_1 ?_
  refine g_iconst C (0 : Int32) dX1_oddsIfHindered_4 ci_0 ?_
  refine g_aload_n C 0 dX1_oddsIfHindered_5 rfl ?_
  refine Cg_X1_4_oddsHindered C dX1_oddsIfHindered_6 ?_
  refine g_iconst C (0 : Int32) dX1_oddsIfHindered_9 ci_0 ?_
  refine g_sipush C (201 : Int32) dX1_oddsIfHindered_10 cs_201 ?_
  refine Cc_403_404 C (f := R 403) (g := R 404) rfl rfl (by decide) (by decide) (by decide) (by decide) (by decide) (gw_of tw3_210 rfl) (by decide) (Nat.le_of_ble_eq_true rfl) dX1_oddsIfHindered_13 ?_
  refine g_aload_n C 0 dX1_oddsIfHindered_16 rfl ?_
  refine g_aload_n C 0 dX1_oddsIfHindered_17 rfl ?_
  refine Cg_X1_4_oddsHindered C dX1_oddsIfHindered_18 ?_
  refine g_aload_n C 0 dX1_oddsIfHindered_21 rfl ?_
  refine Cg_X1_4_behindHindered C dX1_oddsIfHindered_22 ?_
  refine g_iload_n C 1 dX1_oddsIfHindered_25 rfl ?_
  refine g_callVv0 C (kO_stepBack_hh (xL X) (xD X) ka ad _ _ _ _ _ _ _ h) miX1_stepBack (gw_of tw3_148 rfl) (by decide) wC_o4 rfl rfl rfl (Nat.le_of_ble_eq_true rfl) z00 dX1_oddsIfHindered_26 (fun w hw => ?_)
  obtain ⟨F1, R1, J1, P1, B1, rfl, h⟩ := hw
  refine g_iload_n C 1 dX1_oddsIfHindered_29 rfl ?_
  refine g_iconst C (1 : Int32) dX1_oddsIfHindered_30 ci_1 ?_
  refine g_isub C dX1_oddsIfHindered_31 ?_
  refine g_istore_n C [(2, .int (a1 - (1 : Int32))), (0, .ref (ad 499)), (1, .int a1)] dX1_oddsIfHindered_32 (by decide) rfl ?_
  obtain ⟨n1, h⟩ := h
  exact g_lv [1, 0] rfl (lO_oddsIfHindered_33 C hret n1 _ _ _ _ _ _ h)
set_option maxHeartbeats 4000000 in
set_option maxRecDepth 100000 in
theorem kO_oddsIfHindered (l : Launch) (D : va_G) (ka : Nat → ClassId) (ad : Nat → Nat) (F : FT) (R : RT) (J : JT) (P : PT) (B : BT) (a1 : Int32) (K : Int32 → FT → RT → JT → PT → BT → Prop) (h : qO_oddsIfHindered F R J P B a1 K) : MI l D ka yX1_oddsIfHindered cX1_oddsIfHindered 3 (some .int) 3 0 0 [.ref (ad 499), .int a1] (wC ad ka F R J P B) (fun z w => ∃ F R J P B, w = wC ad ka F R J P B ∧ K z F R J P B) := MI_of (by decide) (Nat.le_of_ble_eq_true rfl) (fun X C hroom hret => bO_oddsIfHindered C hret F R J P B a1 h)
set_option maxHeartbeats 4000000 in
set_option maxRecDepth 100000 in
theorem miX1_oddsIfHindered : MInf yX1_oddsIfHindered cX1_oddsIfHindered 3 (some .int) 1 := ⟨(gw_of tw3_208 rfl), (gw_of tp_yX1_oddsIfHindered rfl), (gw_of tw1_4 rfl), (gw_of tw3_209 rfl), by decide +kernel, by decide⟩

def qO_findBestDay_118 (k58 : FT → RT → JT → PT → BT → Int32 → Int32 → Prop) (F : FT) (R : RT) (J : JT) (P : PT) (B : BT) (v2 : Int32) (v3 : Int32) (K : FT → RT → JT → PT → BT → Prop) : Prop :=
  qO_stepBack_ob F R J P B v3 (fun F1 R1 J1 P1 B1 => k58 F1 R1 J1 P1 B1 v2 (v3 + (-1 : Int32)))
set_option maxHeartbeats 4000000 in
set_option maxRecDepth 100000 in
theorem lO_findBestDay_118 {X : XT} {ka : Nat → ClassId} {ad : Nat → Nat} (C : Cx X cX1_findBestDay 5 RX1 none ka 6) {K : FT → RT → JT → PT → BT → Prop} (hret : RetV X cX1_findBestDay 0 0 (fun w => ∃ F R J P B, w = wC ad ka F R J P B ∧ K F R J P B)) {k58 : FT → RT → JT → PT → BT → Int32 → Int32 → Prop} (hk58 : ∀ (F : FT) (R : RT) (J : JT) (P : PT) (B : BT) (v2 : Int32) (v3 : Int32), k58 F R J P B v2 v3 → G X 0 0 (wC ad ka F R J P B) 58 [(0, .ref (ad 499)), (2, .int v2), (3, .int v3)] []) (F : FT) (R : RT) (J : JT) (P : PT) (B : BT) (v2 : Int32) (v3 : Int32) (h : qO_findBestDay_118 k58 F R J P B v2 v3 K) : G X 0 0 (wC ad ka F R J P B) 118 [(0, .ref (ad 499)), (2, .int v2), (3, .int v3)] [] := by
  unfold qO_findBestDay_118 at h
  refine g_aload_n C 0 dX1_findBestDay_118 rfl ?_
  refine g_aload_n C 0 dX1_findBestDay_119 rfl ?_
  refine Cg_X1_4_odds C dX1_findBestDay_120 ?_
  refine g_aload_n C 0 dX1_findBestDay_123 rfl ?_
  refine Cg_X1_4_behind C dX1_findBestDay_124 ?_
  refine g_iload_n C 2 dX1_findBestDay_127 rfl ?_
  refine g_callVv0 C (kO_stepBack_ob (xL X) (xD X) ka ad _ _ _ _ _ _ _ h) miX1_stepBack (gw_of tw3_148 rfl) (by decide) wC_o4 rfl rfl rfl (Nat.le_of_ble_eq_true rfl) z00 dX1_findBestDay_128 (fun w hw => ?_)
  obtain ⟨F1, R1, J1, P1, B1, rfl, h⟩ := hw
  refine g_iinc C 2 (v3 + (-1 : Int32)) [(3, .int (v3 + (-1 : Int32))), (0, .ref (ad 499)), (2, .int v2)] dX1_findBestDay_131 rfl (by rw [ci_m1]) (by decide) rfl ?_
  refine g_goto C 58 dX1_findBestDay_134 (by decide) ?_
  exact g_lv [1, 2, 0] rfl (hk58 _ _ _ _ _ _ _ h)
def qO_findBestDay_96 (k58 : FT → RT → JT → PT → BT → Int32 → Int32 → Prop) (F : FT) (R : RT) (J : JT) (P : PT) (B : BT) (v2 : Int32) (v3 : Int32) (s0 : Int32) (K : FT → RT → JT → PT → BT → Prop) : Prop :=
  ((F 415) < s0 → (qO_findBestDay_118 k58 F R J P B v2 v3 K)) ∧ (¬ (F 415) < s0 → (qO_findBestDay_118 k58 (upd (upd F 415 s0) 414 v3) R J P B v2 v3 K))
set_option maxHeartbeats 4000000 in
set_option maxRecDepth 100000 in
theorem lO_findBestDay_96 {X : XT} {ka : Nat → ClassId} {ad : Nat → Nat} (C : Cx X cX1_findBestDay 5 RX1 none ka 6) {K : FT → RT → JT → PT → BT → Prop} (hret : RetV X cX1_findBestDay 0 0 (fun w => ∃ F R J P B, w = wC ad ka F R J P B ∧ K F R J P B)) {k58 : FT → RT → JT → PT → BT → Int32 → Int32 → Prop} (hk58 : ∀ (F : FT) (R : RT) (J : JT) (P : PT) (B : BT) (v2 : Int32) (v3 : Int32), k58 F R J P B v2 v3 → G X 0 0 (wC ad ka F R J P B) 58 [(0, .ref (ad 499)), (2, .int v2), (3, .int v3)] []) (F : FT) (R : RT) (J : JT) (P : PT) (B : BT) (v2 : Int32) (v3 : Int32) (s0 : Int32) (h : qO_findBestDay_96 k58 F R J P B v2 v3 s0 K) : G X 0 0 (wC ad ka F R J P B) 96 [(0, .ref (ad 499)), (2, .int v2), (3, .int v3)] [.int s0] := by
  unfold qO_findBestDay_96 at h
  refine g_istore C [(4, .int s0), (0, .ref (ad 499)), (2, .int v2), (3, .int v3)] dX1_findBestDay_96 (by decide) rfl ?_
  refine g_iload C 0 dX1_findBestDay_98 rfl ?_
  refine g_aload_n C 1 dX1_findBestDay_100 rfl ?_
  refine Cg_X1_4_bestOdds C (v := F 415) rfl dX1_findBestDay_101 ?_
  refine g_icmp_gt C 118 dX1_findBestDay_104 (by decide) (fun c1 => ?_) (fun c1 => ?_)
  · have h := h.1 c1
    exact g_lv [1, 2, 3] rfl (lO_findBestDay_118 C hret hk58 _ _ _ _ _ _ _ h)
  · have h := h.2 c1
    refine g_aload_n C 1 dX1_findBestDay_107 rfl ?_
    refine g_iload C 0 dX1_findBestDay_108 rfl ?_
    refine Cp_X1_4_bestOdds C dX1_findBestDay_110 ?_
    refine g_aload_n C 1 dX1_findBestDay_113 rfl ?_
    refine g_iload_n C 3 dX1_findBestDay_114 rfl ?_
    refine Cp_X1_4_bestDay C dX1_findBestDay_115 ?_
    exact g_lv [1, 2, 3] rfl (lO_findBestDay_118 C hret hk58 _ _ _ _ _ _ _ h)
def qO_findBestDay_58 : Nat → FT → RT → JT → PT → BT → Int32 → Int32 → (FT → RT → JT → PT → BT → Prop) → Prop
  | 0, _, _, _, _, _, _, _ => fun _ => False
  | n58 + 1, F, R, J, P, B, v2, v3 => fun K => (v3 < (F 411) → (K F R J P B)) ∧ (¬ v3 < (F 411) → ((¬ v3 = (F 411) → (qO_oddsIfHindered F R J P B v3 (fun r3 F3 R3 J3 P3 B3 => qO_findBestDay_96 (fun F R J P B v2 v3 => qO_findBestDay_58 n58 F R J P B v2 v3 K) F3 R3 J3 P3 B3 v2 v3 r3 K))) ∧ (v3 = (F 411) → (qO_oddsToday_o F R J P B ((F 413) + v2) (fun r4 F4 R4 J4 P4 B4 => qO_findBestDay_96 (fun F R J P B v2 v3 => qO_findBestDay_58 n58 F R J P B v2 v3 K) F4 R4 J4 P4 B4 v2 v3 r4 K)))))
set_option maxHeartbeats 4000000 in
set_option maxRecDepth 100000 in
theorem lO_findBestDay_58 {X : XT} {ka : Nat → ClassId} {ad : Nat → Nat} (C : Cx X cX1_findBestDay 5 RX1 none ka 6) {K : FT → RT → JT → PT → BT → Prop} (hret : RetV X cX1_findBestDay 0 0 (fun w => ∃ F R J P B, w = wC ad ka F R J P B ∧ K F R J P B)) : ∀ (n : Nat) (F : FT) (R : RT) (J : JT) (P : PT) (B : BT) (v2 : Int32) (v3 : Int32), qO_findBestDay_58 n F R J P B v2 v3 K → G X 0 0 (wC ad ka F R J P B) 58 [(0, .ref (ad 499)), (2, .int v2), (3, .int v3)] [] := by
  intro n
  induction n with
  | zero => intro F R J P B v2 v3 h; exact h.elim
  | succ n ih =>
    intro F R J P B v2 v3 h
    refine g_iload_n C 2 dX1_findBestDay_58 rfl ?_
    refine g_aload_n C 0 dX1_findBestDay_59 rfl ?_
    refine Cg_X1_4_day C (v := F 411) rfl dX1_findBestDay_60 ?_
    refine g_icmp_lt C 137 dX1_findBestDay_63 (by decide) (fun c1 => ?_) (fun c1 => ?_)
    · have h := h.1 c1
      exact hret _ _ _ ⟨_, _, _, _, _, rfl, h⟩ dX1_findBestDay_137
    · have h := h.2 c1
      refine g_iload_n C 2 dX1_findBestDay_66 rfl ?_
      refine g_aload_n C 0 dX1_findBestDay_67 rfl ?_
      refine Cg_X1_4_day C (v := F 411) rfl dX1_findBestDay_68 ?_
      refine g_icmp_ne C 91 dX1_findBestDay_71 (by decide) (fun c2 => ?_) (fun c2 => ?_)
      · have h := h.1 c2
        refine g_aload_n C 0 dX1_findBestDay_91 rfl ?_
        refine g_iload_n C 2 dX1_findBestDay_92 rfl ?_
        refine g_callVi0 C (kO_oddsIfHindered (xL X) (xD X) ka ad _ _ _ _ _ _ _ h) miX1_oddsIfHindered (gw_of tw3_206 rfl) (by decide) wC_o4 rfl rfl rfl (Nat.le_of_ble_eq_true rfl) z00 dX1_findBestDay_93 (fun r3 w hw => ?_)
        obtain ⟨F3, R3, J3, P3, B3, rfl, h⟩ := hw
        exact g_lv [0, 1, 2] rfl (lO_findBestDay_96 C hret (fun F R J P B v2 v3 h => ih F R J P B v2 v3 h) _ _ _ _ _ _ _ _ h)
      · have h := h.2 c2
        refine g_aload_n C 0 dX1_findBestDay_74 rfl ?_
        refine g_aload_n C 0 dX1_findBestDay_75 rfl ?_
        refine Cg_X1_4_odds C dX1_findBestDay_76 ?_
        refine g_aload_n C 0 dX1_findBestDay_79 rfl ?_
        refine Cg_X1_4_cost C (v := F 413) rfl dX1_findBestDay_80 ?_
        refine g_iload_n C 1 dX1_findBestDay_83 rfl ?_
        refine g_iadd C dX1_findBestDay_84 ?_
        refine g_callVi0 C (kO_oddsToday_o (xL X) (xD X) ka ad _ _ _ _ _ _ _ h) miX1_oddsToday (gw_of tw3_152 rfl) (by decide) wC_o4 rfl rfl rfl (Nat.le_of_ble_eq_true rfl) z00 dX1_findBestDay_85 (fun r4 w hw => ?_)
        obtain ⟨F4, R4, J4, P4, B4, rfl, h⟩ := hw
        refine g_goto C 96 dX1_findBestDay_88 (by decide) ?_
        exact g_lv [0, 1, 2] rfl (lO_findBestDay_96 C hret (fun F R J P B v2 v3 h => ih F R J P B v2 v3 h) _ _ _ _ _ _ _ _ h)
def qO_findBestDay (F : FT) (R : RT) (J : JT) (P : PT) (B : BT) (a2 : Int32) (K : FT → RT → JT → PT → BT → Prop) : Prop :=
  qS_costToday F R J P B (fun r1 F1 R1 J1 P1 B1 => qO_look F1 R1 J1 P1 B1 (F 104) (F 105) r1 (fun F2 R2 J2 P2 B2 => qO_reckonLays F2 R2 J2 P2 B2 (-1 : Int32) (0 : Int32) (fun F3 R3 J3 P3 B3 => qO_fillBehind_h F3 R3 J3 P3 B3 a2 (fun F4 R4 J4 P4 B4 => qO_startAtSummer F4 R4 J4 P4 B4 (fun F5 R5 J5 P5 B5 => ∃ n58, qO_findBestDay_58 n58 (upd (upd F5 414 (F5 411)) 415 (1000000 : Int32)) R5 J5 P5 B5 a2 ((F5 408) - (1 : Int32)) K)))))
set_option maxHeartbeats 4000000 in
set_option maxRecDepth 100000 in
theorem bO_findBestDay {X : XT} {ka : Nat → ClassId} {ad : Nat → Nat} (C : Cx X cX1_findBestDay 5 RX1 none ka 6) {K : FT → RT → JT → PT → BT → Prop} (hret : RetV X cX1_findBestDay 0 0 (fun w => ∃ F R J P B, w = wC ad ka F R J P B ∧ K F R J P B)) (F : FT) (R : RT) (J : JT) (P : PT) (B : BT) (a2 : Int32) (h : qO_findBestDay F R J P B a2 K) : G X 0 0 (wC ad ka F R J P B) 0 [(0, .ref (ad 499)), (1, .ref (ad 199)), (2, .int a2)] [] := by
  unfold qO_findBestDay at h
  refine g_aload_n C 0 dX1_findBestDay_0 rfl ?_
  refine g_aload_n C 1 dX1_findBestDay_1 rfl ?_
  refine g_aload_n C 1 dX1_findBestDay_2 rfl ?_
  refine Cg_X1_1_day C (v := F 104) rfl dX1_findBestDay_3 ?_
  refine g_aload_n C 1 dX1_findBestDay_6 rfl ?_
  refine Cg_X1_1_laid C (v := F 105) rfl dX1_findBestDay_7 ?_
  refine g_aload_n C 1 dX1_findBestDay_10 rfl ?_
  refine g_callVi0 C (kS_costToday (xL X) (xD X) ka ad _ _ _ _ _ _ h) miX7_costToday (gw_of tw3_120 rfl) (by decide) wC_o1 rfl rfl rfl (Nat.le_of_ble_eq_true rfl) z00 dX1_findBestDay_11 (fun r1 w hw => ?_)
  obtain ⟨F1, R1, J1, P1, B1, rfl, h⟩ := hw
  refine g_callVv0 C (kO_look (xL X) (xD X) ka ad _ _ _ _ _ _ _ _ _ h) miX1_look (gw_of tw3_121 rfl) (by decide) wC_o4 rfl rfl rfl (Nat.le_of_ble_eq_true rfl) z00 dX1_findBestDay_14 (fun w hw => ?_)
  obtain ⟨F2, R2, J2, P2, B2, rfl, h⟩ := hw
  refine g_aload_n C 0 dX1_findBestDay_17 rfl ?_
  refine g_aload_n C 1 dX1_findBestDay_18 rfl ?_
  refine g_iconst C (-1 : Int32) dX1_findBestDay_19 ci_m1 ?_
  refine g_iconst C (0 : Int32) dX1_findBestDay_20 ci_0 ?_
  refine g_callVv0 C (kO_reckonLays (xL X) (xD X) ka ad _ _ _ _ _ _ _ _ h) miX1_reckonLays (gw_of tw3_125 rfl) (by decide) wC_o4 rfl rfl rfl (Nat.le_of_ble_eq_true rfl) z00 dX1_findBestDay_21 (fun w hw => ?_)
  obtain ⟨F3, R3, J3, P3, B3, rfl, h⟩ := hw
  refine g_aload_n C 0 dX1_findBestDay_24 rfl ?_
  refine g_aload_n C 0 dX1_findBestDay_25 rfl ?_
  refine Cg_X1_4_behindHindered C dX1_findBestDay_26 ?_
  refine g_iload_n C 2 dX1_findBestDay_29 rfl ?_
  refine g_callVv0 C (kO_fillBehind_h (xL X) (xD X) ka ad _ _ _ _ _ _ _ h) miX1_fillBehind (gw_of tw3_130 rfl) (by decide) wC_o4 rfl rfl rfl (Nat.le_of_ble_eq_true rfl) z00 dX1_findBestDay_30 (fun w hw => ?_)
  obtain ⟨F4, R4, J4, P4, B4, rfl, h⟩ := hw
  refine g_aload_n C 0 dX1_findBestDay_33 rfl ?_
  refine g_callVv0 C (kO_startAtSummer (xL X) (xD X) ka ad _ _ _ _ _ _ h) miX1_startAtSummer (gw_of tw3_143 rfl) (by decide) wC_o4 rfl rfl rfl (Nat.le_of_ble_eq_true rfl) z00 dX1_findBestDay_34 (fun w hw => ?_)
  obtain ⟨F5, R5, J5, P5, B5, rfl, h⟩ := hw
  refine g_aload_n C 0 dX1_findBestDay_37 rfl ?_
  refine g_aload_n C 0 dX1_findBestDay_38 rfl ?_
  refine Cg_X1_4_day C (v := F5 411) rfl dX1_findBestDay_39 ?_
  refine Cp_X1_4_bestDay C dX1_findBestDay_42 ?_
  refine g_aload_n C 0 dX1_findBestDay_45 rfl ?_
  refine g_ldc C (gw_of tw3_147 rfl) dX1_findBestDay_46 ?_
  refine Cp_X1_4_bestOdds C dX1_findBestDay_48 ?_
  refine g_aload_n C 0 dX1_findBestDay_51 rfl ?_
  refine Cg_X1_4_days (F := (upd (upd F5 414 (F5 411)) 415 (1000000 : Int32))) C (v := F5 408) rfl dX1_findBestDay_52 ?_
  refine g_iconst C (1 : Int32) dX1_findBestDay_55 ci_1 ?_
  refine g_isub C dX1_findBestDay_56 ?_
  refine g_istore_n C [(3, .int ((F5 408) - (1 : Int32))), (0, .ref (ad 499)), (1, .ref (ad 199)), (2, .int a2)] dX1_findBestDay_57 (by decide) rfl ?_
  obtain ⟨n1, h⟩ := h
  exact g_lv [1, 3, 0] rfl (lO_findBestDay_58 C hret n1 _ _ _ _ _ _ _ h)
set_option maxHeartbeats 4000000 in
set_option maxRecDepth 100000 in
theorem kO_findBestDay (l : Launch) (D : va_G) (ka : Nat → ClassId) (ad : Nat → Nat) (F : FT) (R : RT) (J : JT) (P : PT) (B : BT) (a2 : Int32) (K : FT → RT → JT → PT → BT → Prop) (h : qO_findBestDay F R J P B a2 K) : MV l D ka yX1_findBestDay cX1_findBestDay 5 none 6 0 0 [.ref (ad 499), .ref (ad 199), .int a2] (wC ad ka F R J P B) (fun w => ∃ F R J P B, w = wC ad ka F R J P B ∧ K F R J P B) := MV_of (by decide) (Nat.le_of_ble_eq_true rfl) (fun X C hroom hret => bO_findBestDay C hret F R J P B a2 h)
set_option maxHeartbeats 4000000 in
set_option maxRecDepth 100000 in
theorem miX1_findBestDay : MInf yX1_findBestDay cX1_findBestDay 5 none 2 := ⟨(gw_of tw3_203 rfl), (gw_of tw3_204 rfl), (gw_of tw1_4 rfl), (gw_of tw3_205 rfl), by decide +kernel, by decide⟩

def qO_spread_102 (k5 : FT → RT → JT → PT → BT → Int32 → Int32 → Prop) (F : FT) (R : RT) (J : JT) (P : PT) (B : BT) (v1 : Int32) (v2 : Int32) (K : FT → RT → JT → PT → BT → Prop) : Prop :=
  k5 F R J P B v1 (v2 + (-1 : Int32))
set_option maxHeartbeats 4000000 in
set_option maxRecDepth 100000 in
theorem lO_spread_102 {X : XT} {ka : Nat → ClassId} {ad : Nat → Nat} (C : Cx X cX1_spread 4 RX1 none ka 2) {K : FT → RT → JT → PT → BT → Prop} (hret : RetV X cX1_spread 0 0 (fun w => ∃ F R J P B, w = wC ad ka F R J P B ∧ K F R J P B)) {k5 : FT → RT → JT → PT → BT → Int32 → Int32 → Prop} (hk5 : ∀ (F : FT) (R : RT) (J : JT) (P : PT) (B : BT) (v1 : Int32) (v2 : Int32), k5 F R J P B v1 v2 → G X 0 0 (wC ad ka F R J P B) 5 [(0, .ref (ad 499)), (1, .int v1), (2, .int v2)] []) (F : FT) (R : RT) (J : JT) (P : PT) (B : BT) (v1 : Int32) (v2 : Int32) (h : qO_spread_102 k5 F R J P B v1 v2 K) : G X 0 0 (wC ad ka F R J P B) 102 [(0, .ref (ad 499)), (1, .int v1), (2, .int v2)] [] := by
  unfold qO_spread_102 at h
  refine g_iinc C 2 (v2 + (-1 : Int32)) [(2, .int (v2 + (-1 : Int32))), (0, .ref (ad 499)), (1, .int v1)] dX1_spread_102 rfl (by rw [ci_m1]) (by decide) rfl ?_
  refine g_goto C 5 dX1_spread_105 (by decide) ?_
  exact g_lv [1, 2, 0] rfl (hk5 _ _ _ _ _ _ _ h)
def qO_spread_5 : Nat → FT → RT → JT → PT → BT → Int32 → Int32 → (FT → RT → JT → PT → BT → Prop) → Prop
  | 0, _, _, _, _, _, _, _ => fun _ => False
  | n5 + 1, F, R, J, P, B, v1, v2 => fun K => (v2 < (F 412) → (K F R J P B)) ∧ (¬ v2 < (F 412) → ((vp_in v2 201) ∧ (((R 406 v2.toNatClampNeg) = 0 → (qO_spread_102 (fun F R J P B v1 v2 => qO_spread_5 n5 F R J P B v1 v2 K) F R J P B v1 v2 K)) ∧ (¬ (R 406 v2.toNatClampNeg) = 0 → ((vp_in v2 201) ∧ (qO_laidBehind F (va_up R 406 (upd (R 406) v2.toNatClampNeg (0 : Int32))) J P B (0 : Int32) v2 v1 (fun r3 F3 R3 J3 P3 B3 => (vp_in r3 201) ∧ ((vp_in r3 201) ∧ (qO_laidBehind F3 (va_up R3 406 (upd (R3 406) r3.toNatClampNeg ((R3 406 r3.toNatClampNeg) + ((R 406 v2.toNatClampNeg) * (((10 : Int32) - (F3 409)) - (F3 410)))))) J3 P3 B3 (1 : Int32) v2 v1 (fun r4 F4 R4 J4 P4 B4 => (vp_in r4 201) ∧ ((vp_in r4 201) ∧ (qO_laidBehind F4 (va_up R4 406 (upd (R4 406) r4.toNatClampNeg ((R4 406 r4.toNatClampNeg) + ((R 406 v2.toNatClampNeg) * (F4 409))))) J4 P4 B4 (2 : Int32) v2 v1 (fun r5 F5 R5 J5 P5 B5 => (vp_in r5 201) ∧ ((vp_in r5 201) ∧ (qO_spread_102 (fun F R J P B v1 v2 => qO_spread_5 n5 F R J P B v1 v2 K) F5 (va_up R5 406 (upd (R5 406) r5.toNatClampNeg ((R5 406 r5.toNatClampNeg) + ((R 406 v2.toNatClampNeg) * (F5 410))))) J5 P5 B5 v1 v2 K)))))))))))))))
set_option maxHeartbeats 4000000 in
set_option maxRecDepth 100000 in
theorem lO_spread_5 {X : XT} {ka : Nat → ClassId} {ad : Nat → Nat} (C : Cx X cX1_spread 4 RX1 none ka 2) {K : FT → RT → JT → PT → BT → Prop} (hret : RetV X cX1_spread 0 0 (fun w => ∃ F R J P B, w = wC ad ka F R J P B ∧ K F R J P B)) : ∀ (n : Nat) (F : FT) (R : RT) (J : JT) (P : PT) (B : BT) (v1 : Int32) (v2 : Int32), qO_spread_5 n F R J P B v1 v2 K → G X 0 0 (wC ad ka F R J P B) 5 [(0, .ref (ad 499)), (1, .int v1), (2, .int v2)] [] := by
  intro n
  induction n with
  | zero => intro F R J P B v1 v2 h; exact h.elim
  | succ n ih =>
    intro F R J P B v1 v2 h
    refine g_iload_n C 2 dX1_spread_5 rfl ?_
    refine g_aload_n C 0 dX1_spread_6 rfl ?_
    refine Cg_X1_4_laid C (v := F 412) rfl dX1_spread_7 ?_
    refine g_icmp_lt C 108 dX1_spread_10 (by decide) (fun c1 => ?_) (fun c1 => ?_)
    · have h := h.1 c1
      exact hret _ _ _ ⟨_, _, _, _, _, rfl, h⟩ dX1_spread_108
    · have h := h.2 c1
      refine g_aload_n C 0 dX1_spread_13 rfl ?_
      refine Cg_X1_4_parts C dX1_spread_14 ?_
      refine g_iload_n C 2 dX1_spread_17 rfl ?_
      refine Ca_406 C (f := R 406) rfl _ rfl h.1 dX1_spread_18 ?_
      have h := h.2
      refine g_istore_n C [(3, .int (R 406 v2.toNatClampNeg)), (0, .ref (ad 499)), (1, .int v1), (2, .int v2)] dX1_spread_19 (by decide) rfl ?_
      refine g_iload_n C 0 dX1_spread_20 rfl ?_
      refine g_if_eq C 102 dX1_spread_21 (by decide) (fun c2 => ?_) (fun c2 => ?_)
      · have h := h.1 c2
        exact g_lv [1, 2, 3] rfl (lO_spread_102 C hret (fun F R J P B v1 v2 h => ih F R J P B v1 v2 h) _ _ _ _ _ _ _ h)
      · have h := h.2 c2
        refine g_aload_n C 1 dX1_spread_24 rfl ?_
        refine Cg_X1_4_parts C dX1_spread_25 ?_
        refine g_iload_n C 3 dX1_spread_28 rfl ?_
        refine g_iconst C (0 : Int32) dX1_spread_29 ci_0 ?_
        refine Cs_406 C (f := R 406) rfl _ rfl h.1 dX1_spread_30 ?_
        have h := h.2
        refine g_aload_n C 1 dX1_spread_31 rfl ?_
        refine Cg_X1_4_parts C dX1_spread_32 ?_
        refine g_aload_n C 1 dX1_spread_35 rfl ?_
        refine g_iconst C (0 : Int32) dX1_spread_36 ci_0 ?_
        refine g_iload_n C 3 dX1_spread_37 rfl ?_
        refine g_iload_n C 2 dX1_spread_38 rfl ?_
        refine g_callVi0 C (kO_laidBehind (xL X) (xD X) ka ad _ _ _ _ _ _ _ _ _ h) miX1_laidBehind (gw_of tw3_134 rfl) (by decide) wC_o4 rfl rfl rfl (Nat.le_of_ble_eq_true rfl) z00 dX1_spread_39 (fun r3 w hw => ?_)
        obtain ⟨F3, R3, J3, P3, B3, rfl, h⟩ := hw
        refine g_dup2 C dX1_spread_42 rfl rfl ?_
        refine Ca_406 C (f := R3 406) rfl _ rfl h.1 dX1_spread_43 ?_
        have h := h.2
        refine g_iload_n C 0 dX1_spread_44 rfl ?_
        refine g_bipush C (10 : Int32) dX1_spread_45 cb_10 ?_
        refine g_aload_n C 1 dX1_spread_47 rfl ?_
        refine Cg_X1_4_frost C (v := F3 409) rfl dX1_spread_48 ?_
        refine g_isub C dX1_spread_51 ?_
        refine g_aload_n C 1 dX1_spread_52 rfl ?_
        refine Cg_X1_4_thaw C (v := F3 410) rfl dX1_spread_53 ?_
        refine g_isub C dX1_spread_56 ?_
        refine g_imul C dX1_spread_57 ?_
        refine g_iadd C dX1_spread_58 ?_
        refine Cs_406 C (f := R3 406) rfl _ rfl h.1 dX1_spread_59 ?_
        have h := h.2
        refine g_aload_n C 1 dX1_spread_60 rfl ?_
        refine Cg_X1_4_parts C dX1_spread_61 ?_
        refine g_aload_n C 1 dX1_spread_64 rfl ?_
        refine g_iconst C (1 : Int32) dX1_spread_65 ci_1 ?_
        refine g_iload_n C 3 dX1_spread_66 rfl ?_
        refine g_iload_n C 2 dX1_spread_67 rfl ?_
        refine g_callVi0 C (kO_laidBehind (xL X) (xD X) ka ad _ _ _ _ _ _ _ _ _ h) miX1_laidBehind (gw_of tw3_134 rfl) (by decide) wC_o4 rfl rfl rfl (Nat.le_of_ble_eq_true rfl) z00 dX1_spread_68 (fun r4 w hw => ?_)
        obtain ⟨F4, R4, J4, P4, B4, rfl, h⟩ := hw
        refine g_dup2 C dX1_spread_71 rfl rfl ?_
        refine Ca_406 C (f := R4 406) rfl _ rfl h.1 dX1_spread_72 ?_
        have h := h.2
        refine g_iload_n C 0 dX1_spread_73 rfl ?_
        refine g_aload_n C 1 dX1_spread_74 rfl ?_
        refine Cg_X1_4_frost C (v := F4 409) rfl dX1_spread_75 ?_
        refine g_imul C dX1_spread_78 ?_
        refine g_iadd C dX1_spread_79 ?_
        refine Cs_406 C (f := R4 406) rfl _ rfl h.1 dX1_spread_80 ?_
        have h := h.2
        refine g_aload_n C 1 dX1_spread_81 rfl ?_
        refine Cg_X1_4_parts C dX1_spread_82 ?_
        refine g_aload_n C 1 dX1_spread_85 rfl ?_
        refine g_iconst C (2 : Int32) dX1_spread_86 ci_2 ?_
        refine g_iload_n C 3 dX1_spread_87 rfl ?_
        refine g_iload_n C 2 dX1_spread_88 rfl ?_
        refine g_callVi0 C (kO_laidBehind (xL X) (xD X) ka ad _ _ _ _ _ _ _ _ _ h) miX1_laidBehind (gw_of tw3_134 rfl) (by decide) wC_o4 rfl rfl rfl (Nat.le_of_ble_eq_true rfl) z00 dX1_spread_89 (fun r5 w hw => ?_)
        obtain ⟨F5, R5, J5, P5, B5, rfl, h⟩ := hw
        refine g_dup2 C dX1_spread_92 rfl rfl ?_
        refine Ca_406 C (f := R5 406) rfl _ rfl h.1 dX1_spread_93 ?_
        have h := h.2
        refine g_iload_n C 0 dX1_spread_94 rfl ?_
        refine g_aload_n C 1 dX1_spread_95 rfl ?_
        refine Cg_X1_4_thaw C (v := F5 410) rfl dX1_spread_96 ?_
        refine g_imul C dX1_spread_99 ?_
        refine g_iadd C dX1_spread_100 ?_
        refine Cs_406 C (f := R5 406) rfl _ rfl h.1 dX1_spread_101 ?_
        have h := h.2
        exact g_lv [1, 2, 3] rfl (lO_spread_102 C hret (fun F R J P B v1 v2 h => ih F R J P B v1 v2 h) _ _ _ _ _ _ _ h)
def qO_spread (F : FT) (R : RT) (J : JT) (P : PT) (B : BT) (a1 : Int32) (K : FT → RT → JT → PT → BT → Prop) : Prop :=
  ∃ n5, qO_spread_5 n5 F R J P B a1 (F 407) K
set_option maxHeartbeats 4000000 in
set_option maxRecDepth 100000 in
theorem bO_spread {X : XT} {ka : Nat → ClassId} {ad : Nat → Nat} (C : Cx X cX1_spread 4 RX1 none ka 2) {K : FT → RT → JT → PT → BT → Prop} (hret : RetV X cX1_spread 0 0 (fun w => ∃ F R J P B, w = wC ad ka F R J P B ∧ K F R J P B)) (F : FT) (R : RT) (J : JT) (P : PT) (B : BT) (a1 : Int32) (h : qO_spread F R J P B a1 K) : G X 0 0 (wC ad ka F R J P B) 0 [(0, .ref (ad 499)), (1, .int a1)] [] := by
  unfold qO_spread at h
  refine g_aload_n C 0 dX1_spread_0 rfl ?_
  refine Cg_X1_4_stones C (v := F 407) rfl dX1_spread_1 ?_
  refine g_istore_n C [(2, .int (F 407)), (0, .ref (ad 499)), (1, .int a1)] dX1_spread_4 (by decide) rfl ?_
  obtain ⟨n1, h⟩ := h
  exact g_lv [1, 2, 0] rfl (lO_spread_5 C hret n1 _ _ _ _ _ _ _ h)
set_option maxHeartbeats 4000000 in
set_option maxRecDepth 100000 in
theorem kO_spread (l : Launch) (D : va_G) (ka : Nat → ClassId) (ad : Nat → Nat) (F : FT) (R : RT) (J : JT) (P : PT) (B : BT) (a1 : Int32) (K : FT → RT → JT → PT → BT → Prop) (h : qO_spread F R J P B a1 K) : MV l D ka yX1_spread cX1_spread 4 none 2 0 0 [.ref (ad 499), .int a1] (wC ad ka F R J P B) (fun w => ∃ F R J P B, w = wC ad ka F R J P B ∧ K F R J P B) := MV_of (by decide) (Nat.le_of_ble_eq_true rfl) (fun X C hroom hret => bO_spread C hret F R J P B a1 h)
set_option maxHeartbeats 4000000 in
set_option maxRecDepth 100000 in
theorem miX1_spread : MInf yX1_spread cX1_spread 4 none 1 := ⟨(gw_of tw3_226 rfl), (gw_of tp_yX1_spread rfl), (gw_of tw1_4 rfl), (gw_of tw3_227 rfl), by decide +kernel, by decide⟩

def qO_sumOfLaid_93 : Nat → FT → RT → JT → PT → BT → Int32 → Int32 → (Int32 → FT → RT → JT → PT → BT → Prop) → Prop
  | 0, _, _, _, _, _, _, _ => fun _ => False
  | n93 + 1, F, R, J, P, B, v3, v4 => fun K => ((F 407) < v4 → (K v3 F R J P B)) ∧ (¬ (F 407) < v4 → ((vp_in v4 201) ∧ (qO_sumOfLaid_93 n93 F R J P B (v3 + (v4 * (R 406 v4.toNatClampNeg))) (v4 + (1 : Int32)) K)))
set_option maxHeartbeats 4000000 in
set_option maxRecDepth 100000 in
theorem lO_sumOfLaid_93 {X : XT} {ka : Nat → ClassId} {ad : Nat → Nat} (C : Cx X cX1_sumOfLaid 5 RX1 (some .int) ka 6) {K : Int32 → FT → RT → JT → PT → BT → Prop} (hret : RetI X cX1_sumOfLaid .int 0 0 (fun z w => ∃ F R J P B, w = wC ad ka F R J P B ∧ K z F R J P B)) : ∀ (n : Nat) (F : FT) (R : RT) (J : JT) (P : PT) (B : BT) (v3 : Int32) (v4 : Int32), qO_sumOfLaid_93 n F R J P B v3 v4 K → G X 0 0 (wC ad ka F R J P B) 93 [(0, .ref (ad 499)), (3, .int v3), (4, .int v4)] [] := by
  intro n
  induction n with
  | zero => intro F R J P B v3 v4 h; exact h.elim
  | succ n ih =>
    intro F R J P B v3 v4 h
    refine g_iload C 2 dX1_sumOfLaid_93 rfl ?_
    refine g_aload_n C 0 dX1_sumOfLaid_95 rfl ?_
    refine Cg_X1_4_stones C (v := F 407) rfl dX1_sumOfLaid_96 ?_
    refine g_icmp_gt C 121 dX1_sumOfLaid_99 (by decide) (fun c1 => ?_) (fun c1 => ?_)
    · have h := h.1 c1
      refine g_iload_n C 1 dX1_sumOfLaid_121 rfl ?_
      exact hret _ _ _ _ ⟨_, _, _, _, _, rfl, h⟩ rfl dX1_sumOfLaid_122
    · have h := h.2 c1
      refine g_iload_n C 1 dX1_sumOfLaid_102 rfl ?_
      refine g_iload C 2 dX1_sumOfLaid_103 rfl ?_
      refine g_aload_n C 0 dX1_sumOfLaid_105 rfl ?_
      refine Cg_X1_4_parts C dX1_sumOfLaid_106 ?_
      refine g_iload C 2 dX1_sumOfLaid_109 rfl ?_
      refine Ca_406 C (f := R 406) rfl _ rfl h.1 dX1_sumOfLaid_111 ?_
      have h := h.2
      refine g_imul C dX1_sumOfLaid_112 ?_
      refine g_iadd C dX1_sumOfLaid_113 ?_
      refine g_istore_n C [(3, .int (v3 + (v4 * (R 406 v4.toNatClampNeg)))), (0, .ref (ad 499)), (4, .int v4)] dX1_sumOfLaid_114 (by decide) rfl ?_
      refine g_iinc C 2 (v4 + (1 : Int32)) [(4, .int (v4 + (1 : Int32))), (3, .int (v3 + (v4 * (R 406 v4.toNatClampNeg)))), (0, .ref (ad 499))] dX1_sumOfLaid_115 rfl (by rw [ci_1]) (by decide) rfl ?_
      refine g_goto C 93 dX1_sumOfLaid_118 (by decide) ?_
      exact g_lv [2, 1, 0] rfl (ih _ _ _ _ _ _ _ h)
def qO_sumOfLaid_76 (k58 : FT → RT → JT → PT → BT → Int32 → Int32 → Prop) (F : FT) (R : RT) (J : JT) (P : PT) (B : BT) (v2 : Int32) (v3 : Int32) (s0 : Int32) (K : Int32 → FT → RT → JT → PT → BT → Prop) : Prop :=
  qO_spread F R J P B s0 (fun F1 R1 J1 P1 B1 => k58 F1 R1 J1 P1 B1 v2 (v3 + (1 : Int32)))
set_option maxHeartbeats 4000000 in
set_option maxRecDepth 100000 in
theorem lO_sumOfLaid_76 {X : XT} {ka : Nat → ClassId} {ad : Nat → Nat} (C : Cx X cX1_sumOfLaid 5 RX1 (some .int) ka 6) {K : Int32 → FT → RT → JT → PT → BT → Prop} (hret : RetI X cX1_sumOfLaid .int 0 0 (fun z w => ∃ F R J P B, w = wC ad ka F R J P B ∧ K z F R J P B)) {k58 : FT → RT → JT → PT → BT → Int32 → Int32 → Prop} (hk58 : ∀ (F : FT) (R : RT) (J : JT) (P : PT) (B : BT) (v2 : Int32) (v3 : Int32), k58 F R J P B v2 v3 → G X 0 0 (wC ad ka F R J P B) 58 [(0, .ref (ad 499)), (2, .int v2), (3, .int v3)] []) (F : FT) (R : RT) (J : JT) (P : PT) (B : BT) (v2 : Int32) (v3 : Int32) (s0 : Int32) (h : qO_sumOfLaid_76 k58 F R J P B v2 v3 s0 K) : G X 0 0 (wC ad ka F R J P B) 76 [(0, .ref (ad 499)), (2, .int v2), (3, .int v3)] [.int s0, .ref (ad 499)] := by
  unfold qO_sumOfLaid_76 at h
  refine g_callVv0 C (kO_spread (xL X) (xD X) ka ad _ _ _ _ _ _ _ h) miX1_spread (gw_of tw3_224 rfl) (by decide) wC_o4 rfl rfl rfl (Nat.le_of_ble_eq_true rfl) z00 dX1_sumOfLaid_76 (fun w hw => ?_)
  obtain ⟨F1, R1, J1, P1, B1, rfl, h⟩ := hw
  refine g_iinc C 2 (v3 + (1 : Int32)) [(3, .int (v3 + (1 : Int32))), (0, .ref (ad 499)), (2, .int v2)] dX1_sumOfLaid_79 rfl (by rw [ci_1]) (by decide) rfl ?_
  refine g_goto C 58 dX1_sumOfLaid_82 (by decide) ?_
  exact g_lv [1, 2, 0] rfl (hk58 _ _ _ _ _ _ _ h)
def qO_sumOfLaid_58 : Nat → FT → RT → JT → PT → BT → Int32 → Int32 → (Int32 → FT → RT → JT → PT → BT → Prop) → Prop
  | 0, _, _, _, _, _, _, _ => fun _ => False
  | n58 + 1, F, R, J, P, B, v2, v3 => fun K => (v2 ≤ v3 → (∃ n93, qO_sumOfLaid_93 n93 F R J P B (0 : Int32) (F 412) K)) ∧ (¬ v2 ≤ v3 → ((¬ v3 = 0 → (qO_sumOfLaid_76 (fun F R J P B v2 v3 => qO_sumOfLaid_58 n58 F R J P B v2 v3 K) F R J P B v2 v3 (0 : Int32) K)) ∧ (v3 = 0 → (qO_sumOfLaid_76 (fun F R J P B v2 v3 => qO_sumOfLaid_58 n58 F R J P B v2 v3 K) F R J P B v2 v3 (F 413) K))))
set_option maxHeartbeats 4000000 in
set_option maxRecDepth 100000 in
theorem lO_sumOfLaid_58 {X : XT} {ka : Nat → ClassId} {ad : Nat → Nat} (C : Cx X cX1_sumOfLaid 5 RX1 (some .int) ka 6) {K : Int32 → FT → RT → JT → PT → BT → Prop} (hret : RetI X cX1_sumOfLaid .int 0 0 (fun z w => ∃ F R J P B, w = wC ad ka F R J P B ∧ K z F R J P B)) : ∀ (n : Nat) (F : FT) (R : RT) (J : JT) (P : PT) (B : BT) (v2 : Int32) (v3 : Int32), qO_sumOfLaid_58 n F R J P B v2 v3 K → G X 0 0 (wC ad ka F R J P B) 58 [(0, .ref (ad 499)), (2, .int v2), (3, .int v3)] [] := by
  intro n
  induction n with
  | zero => intro F R J P B v2 v3 h; exact h.elim
  | succ n ih =>
    intro F R J P B v2 v3 h
    refine g_iload_n C 2 dX1_sumOfLaid_58 rfl ?_
    refine g_iload_n C 1 dX1_sumOfLaid_59 rfl ?_
    refine g_icmp_ge C 85 dX1_sumOfLaid_60 (by decide) (fun c1 => ?_) (fun c1 => ?_)
    · have h := h.1 c1
      refine g_iconst C (0 : Int32) dX1_sumOfLaid_85 ci_0 ?_
      refine g_istore_n C [(3, .int (0 : Int32)), (0, .ref (ad 499)), (2, .int v2)] dX1_sumOfLaid_86 (by decide) rfl ?_
      refine g_aload_n C 1 dX1_sumOfLaid_87 rfl ?_
      refine Cg_X1_4_laid C (v := F 412) rfl dX1_sumOfLaid_88 ?_
      refine g_istore C [(4, .int (F 412)), (3, .int (0 : Int32)), (0, .ref (ad 499)), (2, .int v2)] dX1_sumOfLaid_91 (by decide) rfl ?_
      obtain ⟨n1, h⟩ := h
      exact g_lv [2, 1, 0] rfl (lO_sumOfLaid_93 C hret n1 _ _ _ _ _ _ _ h)
    · have h := h.2 c1
      refine g_aload_n C 0 dX1_sumOfLaid_63 rfl ?_
      refine g_iload_n C 2 dX1_sumOfLaid_64 rfl ?_
      refine g_if_ne C 75 dX1_sumOfLaid_65 (by decide) (fun c2 => ?_) (fun c2 => ?_)
      · have h := h.1 c2
        refine g_iconst C (0 : Int32) dX1_sumOfLaid_75 ci_0 ?_
        exact g_lv [0, 1, 2] rfl (lO_sumOfLaid_76 C hret (fun F R J P B v2 v3 h => ih F R J P B v2 v3 h) _ _ _ _ _ _ _ _ h)
      · have h := h.2 c2
        refine g_aload_n C 0 dX1_sumOfLaid_68 rfl ?_
        refine Cg_X1_4_cost C (v := F 413) rfl dX1_sumOfLaid_69 ?_
        refine g_goto C 76 dX1_sumOfLaid_72 (by decide) ?_
        exact g_lv [0, 1, 2] rfl (lO_sumOfLaid_76 C hret (fun F R J P B v2 v3 h => ih F R J P B v2 v3 h) _ _ _ _ _ _ _ _ h)
def qO_sumOfLaid_26 : Nat → FT → RT → JT → PT → BT → Int32 → Int32 → (Int32 → FT → RT → JT → PT → BT → Prop) → Prop
  | 0, _, _, _, _, _, _, _ => fun _ => False
  | n26 + 1, F, R, J, P, B, v2, v3 => fun K => ((201 : Int32) ≤ v3 → ((vp_in (F 412) 201) ∧ (∃ n58, qO_sumOfLaid_58 n58 F (va_up R 406 (upd (R 406) ((F 412).toNatClampNeg) (1 : Int32))) J P B v2 (0 : Int32) K))) ∧ (¬ (201 : Int32) ≤ v3 → ((vp_in v3 201) ∧ (qO_sumOfLaid_26 n26 F (va_up R 406 (upd (R 406) v3.toNatClampNeg (0 : Int32))) J P B v2 (v3 + (1 : Int32)) K)))
set_option maxHeartbeats 4000000 in
set_option maxRecDepth 100000 in
theorem lO_sumOfLaid_26 {X : XT} {ka : Nat → ClassId} {ad : Nat → Nat} (C : Cx X cX1_sumOfLaid 5 RX1 (some .int) ka 6) {K : Int32 → FT → RT → JT → PT → BT → Prop} (hret : RetI X cX1_sumOfLaid .int 0 0 (fun z w => ∃ F R J P B, w = wC ad ka F R J P B ∧ K z F R J P B)) : ∀ (n : Nat) (F : FT) (R : RT) (J : JT) (P : PT) (B : BT) (v2 : Int32) (v3 : Int32), qO_sumOfLaid_26 n F R J P B v2 v3 K → G X 0 0 (wC ad ka F R J P B) 26 [(0, .ref (ad 499)), (2, .int v2), (3, .int v3)] [] := by
  intro n
  induction n with
  | zero => intro F R J P B v2 v3 h; exact h.elim
  | succ n ih =>
    intro F R J P B v2 v3 h
    refine g_iload_n C 2 dX1_sumOfLaid_26 rfl ?_
    refine g_sipush C (201 : Int32) dX1_sumOfLaid_27 cs_201 ?_
    refine g_icmp_ge C 46 dX1_sumOfLaid_30 (by decide) (fun c1 => ?_) (fun c1 => ?_)
    · have h := h.1 c1
      refine g_aload_n C 0 dX1_sumOfLaid_46 rfl ?_
      refine Cg_X1_4_parts C dX1_sumOfLaid_47 ?_
      refine g_aload_n C 0 dX1_sumOfLaid_50 rfl ?_
      refine Cg_X1_4_laid C (v := F 412) rfl dX1_sumOfLaid_51 ?_
      refine g_iconst C (1 : Int32) dX1_sumOfLaid_54 ci_1 ?_
      refine Cs_406 C (f := R 406) rfl _ rfl h.1 dX1_sumOfLaid_55 ?_
      have h := h.2
      refine g_iconst C (0 : Int32) dX1_sumOfLaid_56 ci_0 ?_
      refine g_istore_n C [(3, .int (0 : Int32)), (0, .ref (ad 499)), (2, .int v2)] dX1_sumOfLaid_57 (by decide) rfl ?_
      obtain ⟨n1, h⟩ := h
      exact g_lv [1, 2, 0] rfl (lO_sumOfLaid_58 C hret n1 _ _ _ _ _ _ _ h)
    · have h := h.2 c1
      refine g_aload_n C 0 dX1_sumOfLaid_33 rfl ?_
      refine Cg_X1_4_parts C dX1_sumOfLaid_34 ?_
      refine g_iload_n C 2 dX1_sumOfLaid_37 rfl ?_
      refine g_iconst C (0 : Int32) dX1_sumOfLaid_38 ci_0 ?_
      refine Cs_406 C (f := R 406) rfl _ rfl h.1 dX1_sumOfLaid_39 ?_
      have h := h.2
      refine g_iinc C 2 (v3 + (1 : Int32)) [(3, .int (v3 + (1 : Int32))), (0, .ref (ad 499)), (2, .int v2)] dX1_sumOfLaid_40 rfl (by rw [ci_1]) (by decide) rfl ?_
      refine g_goto C 26 dX1_sumOfLaid_43 (by decide) ?_
      exact g_lv [1, 2, 0] rfl (ih _ _ _ _ _ _ _ h)
def qO_sumOfLaid (F : FT) (R : RT) (J : JT) (P : PT) (B : BT) (a2 : Int32) (K : Int32 → FT → RT → JT → PT → BT → Prop) : Prop :=
  qS_costToday F R J P B (fun r1 F1 R1 J1 P1 B1 => qO_look F1 R1 J1 P1 B1 (F 104) (F 105) r1 (fun F2 R2 J2 P2 B2 => qO_reckonLays F2 R2 J2 P2 B2 (-1 : Int32) (0 : Int32) (fun F3 R3 J3 P3 B3 => ∃ n26, qO_sumOfLaid_26 n26 F3 R3 J3 P3 B3 a2 (0 : Int32) K)))
set_option maxHeartbeats 4000000 in
set_option maxRecDepth 100000 in
theorem bO_sumOfLaid {X : XT} {ka : Nat → ClassId} {ad : Nat → Nat} (C : Cx X cX1_sumOfLaid 5 RX1 (some .int) ka 6) {K : Int32 → FT → RT → JT → PT → BT → Prop} (hret : RetI X cX1_sumOfLaid .int 0 0 (fun z w => ∃ F R J P B, w = wC ad ka F R J P B ∧ K z F R J P B)) (F : FT) (R : RT) (J : JT) (P : PT) (B : BT) (a2 : Int32) (h : qO_sumOfLaid F R J P B a2 K) : G X 0 0 (wC ad ka F R J P B) 0 [(0, .ref (ad 499)), (1, .ref (ad 199)), (2, .int a2)] [] := by
  unfold qO_sumOfLaid at h
  refine g_aload_n C 0 dX1_sumOfLaid_0 rfl ?_
  refine g_aload_n C 1 dX1_sumOfLaid_1 rfl ?_
  refine g_aload_n C 1 dX1_sumOfLaid_2 rfl ?_
  refine Cg_X1_1_day C (v := F 104) rfl dX1_sumOfLaid_3 ?_
  refine g_aload_n C 1 dX1_sumOfLaid_6 rfl ?_
  refine Cg_X1_1_laid C (v := F 105) rfl dX1_sumOfLaid_7 ?_
  refine g_aload_n C 1 dX1_sumOfLaid_10 rfl ?_
  refine g_callVi0 C (kS_costToday (xL X) (xD X) ka ad _ _ _ _ _ _ h) miX7_costToday (gw_of tw3_120 rfl) (by decide) wC_o1 rfl rfl rfl (Nat.le_of_ble_eq_true rfl) z00 dX1_sumOfLaid_11 (fun r1 w hw => ?_)
  obtain ⟨F1, R1, J1, P1, B1, rfl, h⟩ := hw
  refine g_callVv0 C (kO_look (xL X) (xD X) ka ad _ _ _ _ _ _ _ _ _ h) miX1_look (gw_of tw3_121 rfl) (by decide) wC_o4 rfl rfl rfl (Nat.le_of_ble_eq_true rfl) z00 dX1_sumOfLaid_14 (fun w hw => ?_)
  obtain ⟨F2, R2, J2, P2, B2, rfl, h⟩ := hw
  refine g_aload_n C 0 dX1_sumOfLaid_17 rfl ?_
  refine g_aload_n C 1 dX1_sumOfLaid_18 rfl ?_
  refine g_iconst C (-1 : Int32) dX1_sumOfLaid_19 ci_m1 ?_
  refine g_iconst C (0 : Int32) dX1_sumOfLaid_20 ci_0 ?_
  refine g_callVv0 C (kO_reckonLays (xL X) (xD X) ka ad _ _ _ _ _ _ _ _ h) miX1_reckonLays (gw_of tw3_125 rfl) (by decide) wC_o4 rfl rfl rfl (Nat.le_of_ble_eq_true rfl) z00 dX1_sumOfLaid_21 (fun w hw => ?_)
  obtain ⟨F3, R3, J3, P3, B3, rfl, h⟩ := hw
  refine g_iconst C (0 : Int32) dX1_sumOfLaid_24 ci_0 ?_
  refine g_istore_n C [(3, .int (0 : Int32)), (0, .ref (ad 499)), (1, .ref (ad 199)), (2, .int a2)] dX1_sumOfLaid_25 (by decide) rfl ?_
  obtain ⟨n1, h⟩ := h
  exact g_lv [1, 3, 0] rfl (lO_sumOfLaid_26 C hret n1 _ _ _ _ _ _ _ h)
set_option maxHeartbeats 4000000 in
set_option maxRecDepth 100000 in
theorem kO_sumOfLaid (l : Launch) (D : va_G) (ka : Nat → ClassId) (ad : Nat → Nat) (F : FT) (R : RT) (J : JT) (P : PT) (B : BT) (a2 : Int32) (K : Int32 → FT → RT → JT → PT → BT → Prop) (h : qO_sumOfLaid F R J P B a2 K) : MI l D ka yX1_sumOfLaid cX1_sumOfLaid 5 (some .int) 6 0 0 [.ref (ad 499), .ref (ad 199), .int a2] (wC ad ka F R J P B) (fun z w => ∃ F R J P B, w = wC ad ka F R J P B ∧ K z F R J P B) := MI_of (by decide) (Nat.le_of_ble_eq_true rfl) (fun X C hroom hret => bO_sumOfLaid C hret F R J P B a2 h)
set_option maxHeartbeats 4000000 in
set_option maxRecDepth 100000 in
theorem miX1_sumOfLaid : MInf yX1_sumOfLaid cX1_sumOfLaid 5 (some .int) 2 := ⟨(gw_of tw3_221 rfl), (gw_of tw3_222 rfl), (gw_of tw1_4 rfl), (gw_of tw3_223 rfl), by decide +kernel, by decide⟩

def qH_has (j : Nat) (F : FT) (R : RT) (J : JT) (P : PT) (B : BT) (a1 : Int32) (a2 : Int32) (K : Int32 → FT → RT → JT → PT → BT → Prop) : Prop :=
  (a1 < 0 → (K (0 : Int32) F R J P B)) ∧ (¬ a1 < 0 → ((a2 < 0 → (K (0 : Int32) F R J P B)) ∧ (¬ a2 < 0 → ((((F (502 + 100 * j)) - a2) < a1 → (K (0 : Int32) F R J P B)) ∧ (¬ ((F (502 + 100 * j)) - a2) < a1 → (K (1 : Int32) F R J P B))))))
set_option maxHeartbeats 4000000 in
set_option maxRecDepth 100000 in
theorem bH_has {X : XT} {ka : Nat → ClassId} {ad : Nat → Nat} (C : Cx X cX6_has 3 RX6 (some .boolean) ka 1) {K : Int32 → FT → RT → JT → PT → BT → Prop} (hret : RetI X cX6_has .boolean 0 0 (fun z w => ∃ F R J P B, w = wC ad ka F R J P B ∧ K z F R J P B)) (j : Nat) (hj : j < 4) (F : FT) (R : RT) (J : JT) (P : PT) (B : BT) (a1 : Int32) (a2 : Int32) (h : qH_has j F R J P B a1 a2 K) : G X 0 0 (wC ad ka F R J P B) 0 [(0, .ref (ad (599 + 100 * j))), (1, .int a1), (2, .int a2)] [] := by
  unfold qH_has at h
  refine g_iload_n C 1 dX6_has_0 rfl ?_
  refine g_if_lt C 22 dX6_has_1 (by decide) (fun c1 => ?_) (fun c1 => ?_)
  · have h := h.1 c1
    refine g_iconst C (0 : Int32) dX6_has_22 ci_0 ?_
    exact hret _ _ _ _ ⟨_, _, _, _, _, rfl, h⟩ rfl dX6_has_23
  · have h := h.2 c1
    refine g_iload_n C 2 dX6_has_4 rfl ?_
    refine g_if_lt C 22 dX6_has_5 (by decide) (fun c2 => ?_) (fun c2 => ?_)
    · have h := h.1 c2
      refine g_iconst C (0 : Int32) dX6_has_22 ci_0 ?_
      exact hret _ _ _ _ ⟨_, _, _, _, _, rfl, h⟩ rfl dX6_has_23
    · have h := h.2 c2
      refine g_iload_n C 1 dX6_has_8 rfl ?_
      refine g_aload_n C 0 dX6_has_9 rfl ?_
      refine Sg_X6_size C j hj (v := F (502 + 100 * j)) rfl dX6_has_10 ?_
      refine g_iload_n C 2 dX6_has_13 rfl ?_
      refine g_isub C dX6_has_14 ?_
      refine g_icmp_gt C 22 dX6_has_15 (by decide) (fun c3 => ?_) (fun c3 => ?_)
      · have h := h.1 c3
        refine g_iconst C (0 : Int32) dX6_has_22 ci_0 ?_
        exact hret _ _ _ _ ⟨_, _, _, _, _, rfl, h⟩ rfl dX6_has_23
      · have h := h.2 c3
        refine g_iconst C (1 : Int32) dX6_has_18 ci_1 ?_
        refine g_goto C 23 dX6_has_19 (by decide) ?_
        exact hret _ _ _ _ ⟨_, _, _, _, _, rfl, h⟩ rfl dX6_has_23
set_option maxHeartbeats 4000000 in
set_option maxRecDepth 100000 in
theorem kH_has (l : Launch) (D : va_G) (ka : Nat → ClassId) (ad : Nat → Nat) (j : Nat) (hj : j < 4) (F : FT) (R : RT) (J : JT) (P : PT) (B : BT) (a1 : Int32) (a2 : Int32) (K : Int32 → FT → RT → JT → PT → BT → Prop) (h : qH_has j F R J P B a1 a2 K) : MI l D ka yX6_has cX6_has 3 (some .boolean) 1 0 0 [.ref (ad (599 + 100 * j)), .int a1, .int a2] (wC ad ka F R J P B) (fun z w => ∃ F R J P B, w = wC ad ka F R J P B ∧ K z F R J P B) := MI_of (by decide) (Nat.le_of_ble_eq_true rfl) (fun X C hroom hret => bH_has C hret j hj F R J P B a1 a2 h)
set_option maxHeartbeats 4000000 in
set_option maxRecDepth 100000 in
theorem miX6_has : MInf yX6_has cX6_has 3 (some .boolean) 2 := ⟨(gw_of tw4_18 rfl), (gw_of tw4_19 rfl), (gw_of tw1_5 rfl), (gw_of tw4_20 rfl), by decide +kernel, by decide⟩

def qH_find (j : Nat) (F : FT) (R : RT) (J : JT) (P : PT) (B : BT) (a1 : Int32) (a2 : Int32) (a3 : Int32) (K : Int32 → FT → RT → JT → PT → BT → Prop) : Prop :=
  (¬ (F (500 + 100 * j)) = 0 → (((F (501 + 100 * j)) = a1 → (qH_has j F R J P B a2 a3 (fun r3 F3 R3 J3 P3 B3 => (r3 = 0 → (K (-13 : Int32) F3 R3 J3 P3 B3)) ∧ (¬ r3 = 0 → (K (0 : Int32) F3 R3 J3 P3 B3))))) ∧ (¬ (F (501 + 100 * j)) = a1 → (K (-12 : Int32) F R J P B)))) ∧ ((F (500 + 100 * j)) = 0 → (K (-11 : Int32) F R J P B))
set_option maxHeartbeats 4000000 in
set_option maxRecDepth 100000 in
theorem bH_find {X : XT} {ka : Nat → ClassId} {ad : Nat → Nat} (C : Cx X cX6_find 4 RX6 (some .int) ka 2) {K : Int32 → FT → RT → JT → PT → BT → Prop} (hret : RetI X cX6_find .int 0 0 (fun z w => ∃ F R J P B, w = wC ad ka F R J P B ∧ K z F R J P B)) (j : Nat) (hj : j < 4) (F : FT) (R : RT) (J : JT) (P : PT) (B : BT) (a1 : Int32) (a2 : Int32) (a3 : Int32) (h : qH_find j F R J P B a1 a2 a3 K) : G X 0 0 (wC ad ka F R J P B) 0 [(0, .ref (ad (599 + 100 * j))), (1, .int a1), (2, .int a2), (3, .int a3)] [] := by
  unfold qH_find at h
  refine g_aload_n C 0 dX6_find_0 rfl ?_
  refine Sg_X6_held C j hj (v := F (500 + 100 * j)) rfl dX6_find_1 ?_
  refine g_if_ne C 10 dX6_find_4 (by decide) (fun c1 => ?_) (fun c1 => ?_)
  · have h := h.1 c1
    refine g_aload_n C 0 dX6_find_10 rfl ?_
    refine Sg_X6_lane C j hj (v := F (501 + 100 * j)) rfl dX6_find_11 ?_
    refine g_iload_n C 1 dX6_find_14 rfl ?_
    refine g_icmp_eq C 21 dX6_find_15 (by decide) (fun c2 => ?_) (fun c2 => ?_)
    · have h := h.1 c2
      refine g_aload_n C 0 dX6_find_21 rfl ?_
      refine g_iload_n C 2 dX6_find_22 rfl ?_
      refine g_iload_n C 3 dX6_find_23 rfl ?_
      refine g_callVi0 C (kH_has (xL X) (xD X) ka ad j hj _ _ _ _ _ _ _ _ h) miX6_has (gw_of tw4_17 rfl) (by decide) (wC_s j hj) rfl rfl rfl (Nat.le_of_ble_eq_true rfl) z00 dX6_find_24 (fun r3 w hw => ?_)
      obtain ⟨F3, R3, J3, P3, B3, rfl, h⟩ := hw
      refine g_if_eq C 34 dX6_find_27 (by decide) (fun c4 => ?_) (fun c4 => ?_)
      · have h := h.1 c4
        refine g_bipush C (-13 : Int32) dX6_find_34 cb_m13 ?_
        exact hret _ _ _ _ ⟨_, _, _, _, _, rfl, h⟩ rfl dX6_find_36
      · have h := h.2 c4
        refine g_iconst C (0 : Int32) dX6_find_30 ci_0 ?_
        refine g_goto C 36 dX6_find_31 (by decide) ?_
        exact hret _ _ _ _ ⟨_, _, _, _, _, rfl, h⟩ rfl dX6_find_36
    · have h := h.2 c2
      refine g_bipush C (-12 : Int32) dX6_find_18 cb_m12 ?_
      exact hret _ _ _ _ ⟨_, _, _, _, _, rfl, h⟩ rfl dX6_find_20
  · have h := h.2 c1
    refine g_bipush C (-11 : Int32) dX6_find_7 cb_m11 ?_
    exact hret _ _ _ _ ⟨_, _, _, _, _, rfl, h⟩ rfl dX6_find_9
set_option maxHeartbeats 4000000 in
set_option maxRecDepth 100000 in
theorem kH_find (l : Launch) (D : va_G) (ka : Nat → ClassId) (ad : Nat → Nat) (j : Nat) (hj : j < 4) (F : FT) (R : RT) (J : JT) (P : PT) (B : BT) (a1 : Int32) (a2 : Int32) (a3 : Int32) (K : Int32 → FT → RT → JT → PT → BT → Prop) (h : qH_find j F R J P B a1 a2 a3 K) : MI l D ka yX6_find cX6_find 4 (some .int) 2 0 0 [.ref (ad (599 + 100 * j)), .int a1, .int a2, .int a3] (wC ad ka F R J P B) (fun z w => ∃ F R J P B, w = wC ad ka F R J P B ∧ K z F R J P B) := MI_of (by decide) (Nat.le_of_ble_eq_true rfl) (fun X C hroom hret => bH_find C hret j hj F R J P B a1 a2 a3 h)
set_option maxHeartbeats 4000000 in
set_option maxRecDepth 100000 in
theorem miX6_find : MInf yX6_find cX6_find 4 (some .int) 3 := ⟨(gw_of tw4_14 rfl), (gw_of tw4_15 rfl), (gw_of tw1_5 rfl), (gw_of tw4_16 rfl), by decide +kernel, by decide⟩
