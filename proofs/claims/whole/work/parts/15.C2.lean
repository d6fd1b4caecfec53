def qS_addBuilder (F : FT) (R : RT) (J : JT) (P : PT) (B : BT) (a1 : Int32) (a2 : Int32) (a3 : Int32) (K : FT → RT → JT → PT → BT → Prop) : Prop :=
  ((4 : Int32) ≤ (F 111) → (K F R J P B)) ∧ (¬ (4 : Int32) ≤ (F 111) → (qB_ofKind F R J P B a1 a2 a3 (fun r2 F2 R2 J2 P2 B2 => (vp_in (F 111) 4) ∧ ((inB B2 r2) ∧ (K (upd F2 111 ((F2 111) + (1 : Int32))) R2 J2 (va_up P2 114 (va_up (P2 114) ((F 111).toNatClampNeg) (some r2))) B2)))))
set_option maxHeartbeats 4000000 in
set_option maxRecDepth 100000 in
theorem bS_addBuilder {X : XT} {ka : Nat → ClassId} {ad : Nat → Nat} (C : Cx X cX7_addBuilder 4 RX7 none ka 5) (hroom : (xR X).cells = 1 ∧ (xR X).slots = 2) {K : FT → RT → JT → PT → BT → Prop} (hret : RetV X cX7_addBuilder 1 2 (fun w => ∃ F R J P B, w = wC ad ka F R J P B ∧ K F R J P B)) (F : FT) (R : RT) (J : JT) (P : PT) (B : BT) (a1 : Int32) (a2 : Int32) (a3 : Int32) (h : qS_addBuilder F R J P B a1 a2 a3 K) : G X 0 0 (wC ad ka F R J P B) 0 [(0, .ref (ad 199)), (1, .int a1), (2, .int a2), (3, .int a3)] [] := by
  unfold qS_addBuilder at h
  refine g_aload_n C 0 dX7_addBuilder_0 rfl ?_
  refine Cg_X7_1_builderCount C (v := F 111) rfl dX7_addBuilder_1 ?_
  refine g_iconst C (4 : Int32) dX7_addBuilder_4 ci_4 ?_
  refine g_icmp_ge C 33 dX7_addBuilder_5 (by decide) (fun c1 => ?_) (fun c1 => ?_)
  · have h := h.1 c1
    exact g_widen (by decide) (by decide) (hret _ _ _ ⟨_, _, _, _, _, rfl, h⟩ dX7_addBuilder_33)
  · have h := h.2 c1
    refine g_aload_n C 0 dX7_addBuilder_8 rfl ?_
    refine Cg_X7_1_builders C dX7_addBuilder_9 ?_
    refine g_aload_n C 0 dX7_addBuilder_12 rfl ?_
    refine Cg_X7_1_builderCount C (v := F 111) rfl dX7_addBuilder_13 ?_
    refine g_iload_n C 1 dX7_addBuilder_16 rfl ?_
    refine g_iload_n C 2 dX7_addBuilder_17 rfl ?_
    refine g_iload_n C 3 dX7_addBuilder_18 rfl ?_
    refine gB_ofKind C h (by decide) (Nat.le_of_ble_eq_true rfl) (by rw [hroom.1, hroom.2]; decide) dX7_addBuilder_19 (fun r2 w hw => ?_)
    obtain ⟨F2, R2, J2, P2, B2, rfl, h⟩ := hw
    refine Cs_P114 C (f := P2 114) rfl h.1 h.2.1 dX7_addBuilder_22 ?_
    have h := h.2.2
    refine g_aload_n C 0 dX7_addBuilder_23 rfl ?_
    refine g_dup C dX7_addBuilder_24 rfl ?_
    refine Cg_X7_1_builderCount C (v := F2 111) rfl dX7_addBuilder_25 ?_
    refine g_iconst C (1 : Int32) dX7_addBuilder_28 ci_1 ?_
    refine g_iadd C dX7_addBuilder_29 ?_
    refine Cp_X7_1_builderCount C dX7_addBuilder_30 ?_
    exact g_widen (by decide) (by decide) (hret _ _ _ ⟨_, _, _, _, _, rfl, h⟩ dX7_addBuilder_33)
set_option maxHeartbeats 4000000 in
set_option maxRecDepth 100000 in
theorem kS_addBuilder (l : Launch) (D : va_G) (ka : Nat → ClassId) (ad : Nat → Nat) (F : FT) (R : RT) (J : JT) (P : PT) (B : BT) (a1 : Int32) (a2 : Int32) (a3 : Int32) (K : FT → RT → JT → PT → BT → Prop) (h : qS_addBuilder F R J P B a1 a2 a3 K) : MV l D ka yX7_addBuilder cX7_addBuilder 4 none 5 1 2 [.ref (ad 199), .int a1, .int a2, .int a3] (wC ad ka F R J P B) (fun w => ∃ F R J P B, w = wC ad ka F R J P B ∧ K F R J P B) := MV_of (by decide) (Nat.le_of_ble_eq_true rfl) (fun X C hroom hret => bS_addBuilder C hroom hret F R J P B a1 a2 a3 h)
set_option maxHeartbeats 4000000 in
set_option maxRecDepth 100000 in
theorem miX7_addBuilder : MInf yX7_addBuilder cX7_addBuilder 4 none 3 := ⟨(gw_of tw2_36 rfl), (gw_of tw2_37 rfl), (gw_of tw1_2 rfl), (gw_of tw2_38 rfl), by decide +kernel, by decide⟩

def qS_begin_96 : Nat → FT → RT → JT → PT → BT → Nat → Int32 → (FT → RT → JT → PT → BT → Prop) → Prop
  | 0, _, _, _, _, _, _, _ => fun _ => False
  | n96 + 1, F, R, J, P, B, c, v2 => fun K => ((F 310) ≤ v2 → (c ≤ 4 ∧ K F R J P B)) ∧ (¬ (F 310) ≤ v2 → ((vp_in v2 6) ∧ ((vp_in v2 6) ∧ (c ≤ 4 ∧ qS_addHindrance F R J P B (R 304 v2.toNatClampNeg) (R 305 v2.toNatClampNeg) (fun F2 R2 J2 P2 B2 => qS_begin_96 n96 F2 R2 J2 P2 B2 c (v2 + (1 : Int32)) K)))))
set_option maxHeartbeats 4000000 in
set_option maxRecDepth 100000 in
theorem lS_begin_96 {X : XT} {ka : Nat → ClassId} {ad : Nat → Nat} (C : Cx X cX7_begin 3 RX7 none ka 6) (hroom : (xR X).cells = 4 ∧ (xR X).slots = 8) {K : FT → RT → JT → PT → BT → Prop} (hret : RetV X cX7_begin 4 8 (fun w => ∃ F R J P B, w = wC ad ka F R J P B ∧ K F R J P B)) : ∀ (n : Nat) (F : FT) (R : RT) (J : JT) (P : PT) (B : BT) (c : Nat) (v2 : Int32), qS_begin_96 n F R J P B c v2 K → G X c (2 * c) (wC ad ka F R J P B) 96 [(0, .ref (ad 199)), (1, .ref (ad 399)), (2, .int v2)] [] := by
  intro n
  induction n with
  | zero => intro F R J P B c v2 h; exact h.elim
  | succ n ih =>
    intro F R J P B c v2 h
    refine g_iload_n C 2 dX7_begin_96 rfl ?_
    refine g_aload_n C 1 dX7_begin_97 rfl ?_
    refine Cg_X7_3_hindranceCount C (v := F 310) rfl dX7_begin_98 ?_
    refine g_icmp_ge C 126 dX7_begin_101 (by decide) (fun c1 => ?_) (fun c1 => ?_)
    · have h := h.1 c1
      exact g_widen h.1 (by have := h.1; omega) (hret _ _ _ ⟨_, _, _, _, _, rfl, h.2⟩ dX7_begin_126)
    · have h := h.2 c1
      refine g_aload_n C 0 dX7_begin_104 rfl ?_
      refine g_aload_n C 1 dX7_begin_105 rfl ?_
      refine Cg_X7_3_costs C dX7_begin_106 ?_
      refine g_iload_n C 2 dX7_begin_109 rfl ?_
      refine Ca_304 C (f := R 304) rfl _ rfl h.1 dX7_begin_110 ?_
      have h := h.2
      refine g_aload_n C 1 dX7_begin_111 rfl ?_
      refine Cg_X7_3_oaths C dX7_begin_112 ?_
      refine g_iload_n C 2 dX7_begin_115 rfl ?_
      refine Ca_305 C (f := R 305) rfl _ rfl h.1 dX7_begin_116 ?_
      have h := h.2
      have hal := h.1
      have h := h.2
      refine g_callVv0 C (kS_addHindrance (xL X) (xD X) ka ad _ _ _ _ _ _ _ _ h) miX7_addHindrance (gw_of tw3_27 rfl) (by decide) wC_o1 rfl rfl rfl (Nat.le_of_ble_eq_true rfl) (by rw [hroom.1, hroom.2]; omega) dX7_begin_117 (fun w hw => ?_)
      obtain ⟨F2, R2, J2, P2, B2, rfl, h⟩ := hw
      refine g_iinc C 2 (v2 + (1 : Int32)) [(2, .int (v2 + (1 : Int32))), (0, .ref (ad 199)), (1, .ref (ad 399))] dX7_begin_120 rfl (by rw [ci_1]) (by decide) rfl ?_
      refine g_goto C 96 dX7_begin_123 (by decide) ?_
      exact g_lv [1, 2, 0] rfl (ih _ _ _ _ _ _ _ h)
def qS_begin_58 : Nat → FT → RT → JT → PT → BT → Nat → Int32 → (FT → RT → JT → PT → BT → Prop) → Prop
  | 0, _, _, _, _, _, _, _ => fun _ => False
  | n58 + 1, F, R, J, P, B, c, v2 => fun K => ((F 309) ≤ v2 → (∃ n96, qS_begin_96 n96 F R J P B c (0 : Int32) K)) ∧ (¬ (F 309) ≤ v2 → ((vp_in v2 4) ∧ ((vp_in v2 4) ∧ ((vp_in v2 4) ∧ (c + 1 ≤ 4 ∧ qS_addBuilder F R J P B (R 301 v2.toNatClampNeg) (R 302 v2.toNatClampNeg) (R 303 v2.toNatClampNeg) (fun F2 R2 J2 P2 B2 => qS_begin_58 n58 F2 R2 J2 P2 B2 (c + 1) (v2 + (1 : Int32)) K))))))
set_option maxHeartbeats 4000000 in
set_option maxRecDepth 100000 in
theorem lS_begin_58 {X : XT} {ka : Nat → ClassId} {ad : Nat → Nat} (C : Cx X cX7_begin 3 RX7 none ka 6) (hroom : (xR X).cells = 4 ∧ (xR X).slots = 8) {K : FT → RT → JT → PT → BT → Prop} (hret : RetV X cX7_begin 4 8 (fun w => ∃ F R J P B, w = wC ad ka F R J P B ∧ K F R J P B)) : ∀ (n : Nat) (F : FT) (R : RT) (J : JT) (P : PT) (B : BT) (c : Nat) (v2 : Int32), qS_begin_58 n F R J P B c v2 K → G X c (2 * c) (wC ad ka F R J P B) 58 [(0, .ref (ad 199)), (1, .ref (ad 399)), (2, .int v2)] [] := by
  intro n
  induction n with
  | zero => intro F R J P B c v2 h; exact h.elim
  | succ n ih =>
    intro F R J P B c v2 h
    refine g_iload_n C 2 dX7_begin_58 rfl ?_
    refine g_aload_n C 1 dX7_begin_59 rfl ?_
    refine Cg_X7_3_builderCount C (v := F 309) rfl dX7_begin_60 ?_
    refine g_icmp_ge C 94 dX7_begin_63 (by decide) (fun c1 => ?_) (fun c1 => ?_)
    · have h := h.1 c1
      refine g_iconst C (0 : Int32) dX7_begin_94 ci_0 ?_
      refine g_istore_n C [(2, .int (0 : Int32)), (0, .ref (ad 199)), (1, .ref (ad 399))] dX7_begin_95 (by decide) rfl ?_
      obtain ⟨n1, h⟩ := h
      exact g_lv [1, 2, 0] rfl (lS_begin_96 C hroom hret n1 _ _ _ _ _ _ _ h)
    · have h := h.2 c1
      refine g_aload_n C 0 dX7_begin_66 rfl ?_
      refine g_aload_n C 1 dX7_begin_67 rfl ?_
      refine Cg_X7_3_kinds C dX7_begin_68 ?_
      refine g_iload_n C 2 dX7_begin_71 rfl ?_
      refine Ca_301 C (f := R 301) rfl _ rfl h.1 dX7_begin_72 ?_
      have h := h.2
      refine g_aload_n C 1 dX7_begin_73 rfl ?_
      refine Cg_X7_3_paces C dX7_begin_74 ?_
      refine g_iload_n C 2 dX7_begin_77 rfl ?_
      refine Ca_302 C (f := R 302) rfl _ rfl h.1 dX7_begin_78 ?_
      have h := h.2
      refine g_aload_n C 1 dX7_begin_79 rfl ?_
      refine Cg_X7_3_horses C dX7_begin_80 ?_
      refine g_iload_n C 2 dX7_begin_83 rfl ?_
      refine Ca_303 C (f := R 303) rfl _ rfl h.1 dX7_begin_84 ?_
      have h := h.2
      have hal := h.1
      have h := h.2
      refine g_callVv C (kS_addBuilder (xL X) (xD X) ka ad _ _ _ _ _ _ _ _ _ h) miX7_addBuilder (gw_of tw3_26 rfl) (by decide) wC_o1 rfl rfl rfl (Nat.le_of_ble_eq_true rfl) (by rw [hroom.1, hroom.2]; omega) dX7_begin_85 (fun w hw => ?_)
      obtain ⟨F2, R2, J2, P2, B2, rfl, h⟩ := hw
      refine g_iinc C 2 (v2 + (1 : Int32)) [(2, .int (v2 + (1 : Int32))), (0, .ref (ad 199)), (1, .ref (ad 399))] dX7_begin_88 rfl (by rw [ci_1]) (by decide) rfl ?_
      refine g_goto C 58 dX7_begin_91 (by decide) ?_
      exact g_lv [1, 2, 0] rfl (ih _ _ _ _ _ _ _ h)
def qS_begin (F : FT) (R : RT) (J : JT) (P : PT) (B : BT)  (K : FT → RT → JT → PT → BT → Prop) : Prop :=
  ∃ n58, qS_begin_58 n58 (upd (upd (upd (upd (upd (upd (upd (upd (upd (upd F 100 (F 307)) 101 (F 308)) 104 (0 : Int32)) 105 (0 : Int32)) 106 (0 : Int32)) 107 (0 : Int32)) 108 (0 : Int32)) 113 (0 : Int32)) 111 (0 : Int32)) 112 (0 : Int32)) R J P B 0 (0 : Int32) K
set_option maxHeartbeats 4000000 in
set_option maxRecDepth 100000 in
theorem bS_begin {X : XT} {ka : Nat → ClassId} {ad : Nat → Nat} (C : Cx X cX7_begin 3 RX7 none ka 6) (hroom : (xR X).cells = 4 ∧ (xR X).slots = 8) {K : FT → RT → JT → PT → BT → Prop} (hret : RetV X cX7_begin 4 8 (fun w => ∃ F R J P B, w = wC ad ka F R J P B ∧ K F R J P B)) (F : FT) (R : RT) (J : JT) (P : PT) (B : BT)  (h : qS_begin F R J P B  K) : G X 0 0 (wC ad ka F R J P B) 0 [(0, .ref (ad 199)), (1, .ref (ad 399))] [] := by
  unfold qS_begin at h
  refine g_aload_n C 0 dX7_begin_0 rfl ?_
  refine g_aload_n C 1 dX7_begin_1 rfl ?_
  refine Cg_X7_3_stones C (v := F 307) rfl dX7_begin_2 ?_
  refine Cp_X7_1_stones C dX7_begin_5 ?_
  refine g_aload_n C 0 dX7_begin_8 rfl ?_
  refine g_aload_n C 1 dX7_begin_9 rfl ?_
  refine Cg_X7_3_days (F := (upd F 100 (F 307))) C (v := F 308) rfl dX7_begin_10 ?_
  refine Cp_X7_1_days C dX7_begin_13 ?_
  refine g_aload_n C 0 dX7_begin_16 rfl ?_
  refine g_iconst C (0 : Int32) dX7_begin_17 ci_0 ?_
  refine Cp_X7_1_day C dX7_begin_18 ?_
  refine g_aload_n C 0 dX7_begin_21 rfl ?_
  refine g_iconst C (0 : Int32) dX7_begin_22 ci_0 ?_
  refine Cp_X7_1_laid C dX7_begin_23 ?_
  refine g_aload_n C 0 dX7_begin_26 rfl ?_
  refine g_iconst C (0 : Int32) dX7_begin_27 ci_0 ?_
  refine Cp_X7_1_used C dX7_begin_28 ?_
  refine g_aload_n C 0 dX7_begin_31 rfl ?_
  refine g_iconst C (0 : Int32) dX7_begin_32 ci_0 ?_
  refine Cp_X7_1_usedToday C dX7_begin_33 ?_
  refine g_aload_n C 0 dX7_begin_36 rfl ?_
  refine g_iconst C (0 : Int32) dX7_begin_37 ci_0 ?_
  refine Cp_X7_1_broken C dX7_begin_38 ?_
  refine g_aload_n C 0 dX7_begin_41 rfl ?_
  refine g_iconst C (0 : Int32) dX7_begin_42 ci_0 ?_
  refine Cp_X7_1_pastCount C dX7_begin_43 ?_
  refine g_aload_n C 0 dX7_begin_46 rfl ?_
  refine g_iconst C (0 : Int32) dX7_begin_47 ci_0 ?_
  refine Cp_X7_1_builderCount C dX7_begin_48 ?_
  refine g_aload_n C 0 dX7_begin_51 rfl ?_
  refine g_iconst C (0 : Int32) dX7_begin_52 ci_0 ?_
  refine Cp_X7_1_hindranceCount C dX7_begin_53 ?_
  refine g_iconst C (0 : Int32) dX7_begin_56 ci_0 ?_
  refine g_istore_n C [(2, .int (0 : Int32)), (0, .ref (ad 199)), (1, .ref (ad 399))] dX7_begin_57 (by decide) rfl ?_
  obtain ⟨n1, h⟩ := h
  exact g_lv [1, 2, 0] rfl (lS_begin_58 C hroom hret n1 _ _ _ _ _ _ _ h)
set_option maxHeartbeats 4000000 in
set_option maxRecDepth 100000 in
theorem kS_begin (l : Launch) (D : va_G) (ka : Nat → ClassId) (ad : Nat → Nat) (F : FT) (R : RT) (J : JT) (P : PT) (B : BT)  (K : FT → RT → JT → PT → BT → Prop) (h : qS_begin F R J P B  K) : MV l D ka yX7_begin cX7_begin 3 none 6 4 8 [.ref (ad 199), .ref (ad 399)] (wC ad ka F R J P B) (fun w => ∃ F R J P B, w = wC ad ka F R J P B ∧ K F R J P B) := MV_of (by decide) (Nat.le_of_ble_eq_true rfl) (fun X C hroom hret => bS_begin C hroom hret F R J P B  h)
set_option maxHeartbeats 4000000 in
set_option maxRecDepth 100000 in
theorem miX7_begin : MInf yX7_begin cX7_begin 3 none 1 := ⟨(gw_of tw3_23 rfl), (gw_of tw3_24 rfl), (gw_of tw1_2 rfl), (gw_of tw3_25 rfl), by decide +kernel, by decide⟩

def qS_becomes_kn_114 : Nat → FT → RT → JT → PT → BT → Int32 → (FT → RT → JT → PT → BT → Prop) → Prop
  | 0, _, _, _, _, _, _ => fun _ => False
  | n114 + 1, F, R, J, P, B, v2 => fun K => ((4 : Int32) ≤ v2 → (K F (va_up (va_up (va_up R 215 (va_cpy (R 115) (R 215) ((0 : Int32).toNatClampNeg) ((0 : Int32).toNatClampNeg) ((6 : Int32).toNatClampNeg))) 216 (va_cpy (R 116) (R 216) ((0 : Int32).toNatClampNeg) ((0 : Int32).toNatClampNeg) ((6 : Int32).toNatClampNeg))) 217 (va_cpy (R 117) (R 217) ((0 : Int32).toNatClampNeg) ((0 : Int32).toNatClampNeg) ((48 : Int32).toNatClampNeg))) J P B)) ∧ (¬ (4 : Int32) ≤ v2 → ((vp_in v2 4) ∧ ((vp_in v2 4) ∧ ((∀ b : Nat, P 114 v2.toNatClampNeg = some b → inB B b) ∧ (qS_becomes_kn_114 n114 F R J (va_up P 214 (va_up (P 214) v2.toNatClampNeg (P 114 v2.toNatClampNeg))) B (v2 + (1 : Int32)) K)))))
set_option maxHeartbeats 4000000 in
set_option maxRecDepth 100000 in
theorem lS_becomes_kn_114 {X : XT} {ka : Nat → ClassId} {ad : Nat → Nat} (C : Cx X cX7_becomes 3 RX7 none ka 1) {K : FT → RT → JT → PT → BT → Prop} (hret : RetV X cX7_becomes 0 0 (fun w => ∃ F R J P B, w = wC ad ka F R J P B ∧ K F R J P B)) : ∀ (n : Nat) (F : FT) (R : RT) (J : JT) (P : PT) (B : BT) (v2 : Int32), qS_becomes_kn_114 n F R J P B v2 K → G X 0 0 (wC ad ka F R J P B) 114 [(0, .ref (ad 299)), (1, .ref (ad 199)), (2, .int v2)] [] := by
  intro n
  induction n with
  | zero => intro F R J P B v2 h; exact h.elim
  | succ n ih =>
    intro F R J P B v2 h
    refine g_iload_n C 2 dX7_becomes_114 rfl ?_
    refine g_iconst C (4 : Int32) dX7_becomes_115 ci_4 ?_
    refine g_icmp_ge C 137 dX7_becomes_116 (by decide) (fun c1 => ?_) (fun c1 => ?_)
    · have h := h.1 c1
      refine g_aload_n C 1 dX7_becomes_137 rfl ?_
      refine Cg_X7_1_costs C dX7_becomes_138 ?_
      refine g_iconst C (0 : Int32) dX7_becomes_141 ci_0 ?_
      refine g_aload_n C 0 dX7_becomes_142 rfl ?_
      refine Cg_X7_2_costs C dX7_becomes_143 ?_
      refine g_iconst C (0 : Int32) dX7_becomes_146 ci_0 ?_
      refine g_bipush C (6 : Int32) dX7_becomes_147 cb_6 ?_
      refine Cc_115_215 C (f := R 115) (g := R 215) rfl rfl (by decide) (by decide) (by decide) (by decide) (by decide) (gw_of tw3_52 rfl) (by decide) (Nat.le_of_ble_eq_true rfl) dX7_becomes_149 ?_
      refine g_aload_n C 1 dX7_becomes_152 rfl ?_
      refine Cg_X7_1_oaths C dX7_becomes_153 ?_
      refine g_iconst C (0 : Int32) dX7_becomes_156 ci_0 ?_
      refine g_aload_n C 0 dX7_becomes_157 rfl ?_
      refine Cg_X7_2_oaths C dX7_becomes_158 ?_
      refine g_iconst C (0 : Int32) dX7_becomes_161 ci_0 ?_
      refine g_bipush C (6 : Int32) dX7_becomes_162 cb_6 ?_
      refine Cc_116_216 (R := (va_up R 215 (va_cpy (R 115) (R 215) ((0 : Int32).toNatClampNeg) ((0 : Int32).toNatClampNeg) ((6 : Int32).toNatClampNeg)))) C (f := R 116) (g := R 216) rfl rfl (by decide) (by decide) (by decide) (by decide) (by decide) (gw_of tw3_52 rfl) (by decide) (Nat.le_of_ble_eq_true rfl) dX7_becomes_164 ?_
      refine g_aload_n C 1 dX7_becomes_167 rfl ?_
      refine Cg_X7_1_past C dX7_becomes_168 ?_
      refine g_iconst C (0 : Int32) dX7_becomes_171 ci_0 ?_
      refine g_aload_n C 0 dX7_becomes_172 rfl ?_
      refine Cg_X7_2_past C dX7_becomes_173 ?_
      refine g_iconst C (0 : Int32) dX7_becomes_176 ci_0 ?_
      refine g_bipush C (48 : Int32) dX7_becomes_177 cb_48 ?_
      refine Cc_117_217 (R := (va_up (va_up R 215 (va_cpy (R 115) (R 215) ((0 : Int32).toNatClampNeg) ((0 : Int32).toNatClampNeg) ((6 : Int32).toNatClampNeg))) 216 (va_cpy (R 116) (R 216) ((0 : Int32).toNatClampNeg) ((0 : Int32).toNatClampNeg) ((6 : Int32).toNatClampNeg)))) C (f := R 117) (g := R 217) rfl rfl (by decide) (by decide) (by decide) (by decide) (by decide) (gw_of tw3_52 rfl) (by decide) (Nat.le_of_ble_eq_true rfl) dX7_becomes_179 ?_
      exact hret _ _ _ ⟨_, _, _, _, _, rfl, h⟩ dX7_becomes_182
    · have h := h.2 c1
      refine g_aload_n C 0 dX7_becomes_119 rfl ?_
      refine Cg_X7_2_builders C dX7_becomes_120 ?_
      refine g_iload_n C 2 dX7_becomes_123 rfl ?_
      refine g_aload_n C 1 dX7_becomes_124 rfl ?_
      refine Cg_X7_1_builders C dX7_becomes_125 ?_
      refine g_iload_n C 2 dX7_becomes_128 rfl ?_
      refine Ca_P114 C (f := P 114) rfl h.1 dX7_becomes_129 ?_
      have h := h.2
      refine Cs_Q214 C (f := P 214) rfl h.1 h.2.1 dX7_becomes_130 ?_
      have h := h.2.2
      refine g_iinc C 2 (v2 + (1 : Int32)) [(2, .int (v2 + (1 : Int32))), (0, .ref (ad 299)), (1, .ref (ad 199))] dX7_becomes_131 rfl (by rw [ci_1]) (by decide) rfl ?_
      refine g_goto C 114 dX7_becomes_134 (by decide) ?_
      exact g_lv [1, 2, 0] rfl (ih _ _ _ _ _ _ h)
def qS_becomes_kn (F : FT) (R : RT) (J : JT) (P : PT) (B : BT)  (K : FT → RT → JT → PT → BT → Prop) : Prop :=
  ∃ n114, qS_becomes_kn_114 n114 (upd (upd (upd (upd (upd (upd (upd (upd (upd (upd (upd (upd (upd (upd F 200 (F 100)) 201 (F 101)) 202 (F 102)) 203 (F 103)) 204 (F 104)) 205 (F 105)) 206 (F 106)) 207 (F 107)) 208 (F 108)) 209 (F 109)) 210 (F 110)) 211 (F 111)) 212 (F 112)) 213 (F 113)) R J P B (0 : Int32) K
set_option maxHeartbeats 4000000 in
set_option maxRecDepth 100000 in
theorem bS_becomes_kn {X : XT} {ka : Nat → ClassId} {ad : Nat → Nat} (C : Cx X cX7_becomes 3 RX7 none ka 1) {K : FT → RT → JT → PT → BT → Prop} (hret : RetV X cX7_becomes 0 0 (fun w => ∃ F R J P B, w = wC ad ka F R J P B ∧ K F R J P B)) (F : FT) (R : RT) (J : JT) (P : PT) (B : BT)  (h : qS_becomes_kn F R J P B  K) : G X 0 0 (wC ad ka F R J P B) 0 [(0, .ref (ad 299)), (1, .ref (ad 199))] [] := by
  unfold qS_becomes_kn at h
  refine g_aload_n C 0 dX7_becomes_0 rfl ?_
  refine g_aload_n C 1 dX7_becomes_1 rfl ?_
  refine Cg_X7_1_stones C (v := F 100) rfl dX7_becomes_2 ?_
  refine Cp_X7_2_stones C dX7_becomes_5 ?_
  refine g_aload_n C 0 dX7_becomes_8 rfl ?_
  refine g_aload_n C 1 dX7_becomes_9 rfl ?_
  refine Cg_X7_1_days (F := (upd F 200 (F 100))) C (v := F 101) rfl dX7_becomes_10 ?_
  refine Cp_X7_2_days C dX7_becomes_13 ?_
  refine g_aload_n C 0 dX7_becomes_16 rfl ?_
  refine g_aload_n C 1 dX7_becomes_17 rfl ?_
  refine Cg_X7_1_frost (F := (upd (upd F 200 (F 100)) 201 (F 101))) C (v := F 102) rfl dX7_becomes_18 ?_
  refine Cp_X7_2_frost C dX7_becomes_21 ?_
  refine g_aload_n C 0 dX7_becomes_24 rfl ?_
  refine g_aload_n C 1 dX7_becomes_25 rfl ?_
  refine Cg_X7_1_thaw (F := (upd (upd (upd F 200 (F 100)) 201 (F 101)) 202 (F 102))) C (v := F 103) rfl dX7_becomes_26 ?_
  refine Cp_X7_2_thaw C dX7_becomes_29 ?_
  refine g_aload_n C 0 dX7_becomes_32 rfl ?_
  refine g_aload_n C 1 dX7_becomes_33 rfl ?_
  refine Cg_X7_1_day (F := (upd (upd (upd (upd F 200 (F 100)) 201 (F 101)) 202 (F 102)) 203 (F 103))) C (v := F 104) rfl dX7_becomes_34 ?_
  refine Cp_X7_2_day C dX7_becomes_37 ?_
  refine g_aload_n C 0 dX7_becomes_40 rfl ?_
  refine g_aload_n C 1 dX7_becomes_41 rfl ?_
  refine Cg_X7_1_laid (F := (upd (upd (upd (upd (upd F 200 (F 100)) 201 (F 101)) 202 (F 102)) 203 (F 103)) 204 (F 104))) C (v := F 105) rfl dX7_becomes_42 ?_
  refine Cp_X7_2_laid C dX7_becomes_45 ?_
  refine g_aload_n C 0 dX7_becomes_48 rfl ?_
  refine g_aload_n C 1 dX7_becomes_49 rfl ?_
  refine Cg_X7_1_used (F := (upd (upd (upd (upd (upd (upd F 200 (F 100)) 201 (F 101)) 202 (F 102)) 203 (F 103)) 204 (F 104)) 205 (F 105))) C (v := F 106) rfl dX7_becomes_50 ?_
  refine Cp_X7_2_used C dX7_becomes_53 ?_
  refine g_aload_n C 0 dX7_becomes_56 rfl ?_
  refine g_aload_n C 1 dX7_becomes_57 rfl ?_
  refine Cg_X7_1_usedToday (F := (upd (upd (upd (upd (upd (upd (upd F 200 (F 100)) 201 (F 101)) 202 (F 102)) 203 (F 103)) 204 (F 104)) 205 (F 105)) 206 (F 106))) C (v := F 107) rfl dX7_becomes_58 ?_
  refine Cp_X7_2_usedToday C dX7_becomes_61 ?_
  refine g_aload_n C 0 dX7_becomes_64 rfl ?_
  refine g_aload_n C 1 dX7_becomes_65 rfl ?_
  refine Cg_X7_1_broken (F := (upd (upd (upd (upd (upd (upd (upd (upd F 200 (F 100)) 201 (F 101)) 202 (F 102)) 203 (F 103)) 204 (F 104)) 205 (F 105)) 206 (F 106)) 207 (F 107))) C (v := F 108) rfl dX7_becomes_66 ?_
  refine Cp_X7_2_broken C dX7_becomes_69 ?_
  refine g_aload_n C 0 dX7_becomes_72 rfl ?_
  refine g_aload_n C 1 dX7_becomes_73 rfl ?_
  refine Cg_X7_1_sworn (F := (upd (upd (upd (upd (upd (upd (upd (upd (upd F 200 (F 100)) 201 (F 101)) 202 (F 102)) 203 (F 103)) 204 (F 104)) 205 (F 105)) 206 (F 106)) 207 (F 107)) 208 (F 108))) C (v := F 109) rfl dX7_becomes_74 ?_
  refine Cp_X7_2_sworn C dX7_becomes_77 ?_
  refine g_aload_n C 0 dX7_becomes_80 rfl ?_
  refine g_aload_n C 1 dX7_becomes_81 rfl ?_
  refine Cg_X7_1_draw (F := (upd (upd (upd (upd (upd (upd (upd (upd (upd (upd F 200 (F 100)) 201 (F 101)) 202 (F 102)) 203 (F 103)) 204 (F 104)) 205 (F 105)) 206 (F 106)) 207 (F 107)) 208 (F 108)) 209 (F 109))) C (v := F 110) rfl dX7_becomes_82 ?_
  refine Cp_X7_2_draw C dX7_becomes_85 ?_
  refine g_aload_n C 0 dX7_becomes_88 rfl ?_
  refine g_aload_n C 1 dX7_becomes_89 rfl ?_
  refine Cg_X7_1_builderCount (F := (upd (upd (upd (upd (upd (upd (upd (upd (upd (upd (upd F 200 (F 100)) 201 (F 101)) 202 (F 102)) 203 (F 103)) 204 (F 104)) 205 (F 105)) 206 (F 106)) 207 (F 107)) 208 (F 108)) 209 (F 109)) 210 (F 110))) C (v := F 111) rfl dX7_becomes_90 ?_
  refine Cp_X7_2_builderCount C dX7_becomes_93 ?_
  refine g_aload_n C 0 dX7_becomes_96 rfl ?_
  refine g_aload_n C 1 dX7_becomes_97 rfl ?_
  refine Cg_X7_1_hindranceCount (F := (upd (upd (upd (upd (upd (upd (upd (upd (upd (upd (upd (upd F 200 (F 100)) 201 (F 101)) 202 (F 102)) 203 (F 103)) 204 (F 104)) 205 (F 105)) 206 (F 106)) 207 (F 107)) 208 (F 108)) 209 (F 109)) 210 (F 110)) 211 (F 111))) C (v := F 112) rfl dX7_becomes_98 ?_
  refine Cp_X7_2_hindranceCount C dX7_becomes_101 ?_
  refine g_aload_n C 0 dX7_becomes_104 rfl ?_
  refine g_aload_n C 1 dX7_becomes_105 rfl ?_
  refine Cg_X7_1_pastCount (F := (upd (upd (upd (upd (upd (upd (upd (upd (upd (upd (upd (upd (upd F 200 (F 100)) 201 (F 101)) 202 (F 102)) 203 (F 103)) 204 (F 104)) 205 (F 105)) 206 (F 106)) 207 (F 107)) 208 (F 108)) 209 (F 109)) 210 (F 110)) 211 (F 111)) 212 (F 112))) C (v := F 113) rfl dX7_becomes_106 ?_
  refine Cp_X7_2_pastCount C dX7_becomes_109 ?_
  refine g_iconst C (0 : Int32) dX7_becomes_112 ci_0 ?_
  refine g_istore_n C [(2, .int (0 : Int32)), (0, .ref (ad 299)), (1, .ref (ad 199))] dX7_becomes_113 (by decide) rfl ?_
  obtain ⟨n1, h⟩ := h
  exact g_lv [1, 2, 0] rfl (lS_becomes_kn_114 C hret n1 _ _ _ _ _ _ h)
set_option maxHeartbeats 4000000 in
set_option maxRecDepth 100000 in
theorem kS_becomes_kn (l : Launch) (D : va_G) (ka : Nat → ClassId) (ad : Nat → Nat) (F : FT) (R : RT) (J : JT) (P : PT) (B : BT)  (K : FT → RT → JT → PT → BT → Prop) (h : qS_becomes_kn F R J P B  K) : MV l D ka yX7_becomes cX7_becomes 3 none 1 0 0 [.ref (ad 299), .ref (ad 199)] (wC ad ka F R J P B) (fun w => ∃ F R J P B, w = wC ad ka F R J P B ∧ K F R J P B) := MV_of (by decide) (Nat.le_of_ble_eq_true rfl) (fun X C hroom hret => bS_becomes_kn C hret F R J P B  h)
set_option maxHeartbeats 4000000 in
set_option maxRecDepth 100000 in
theorem miX7_becomes : MInf yX7_becomes cX7_becomes 3 none 1 := ⟨(gw_of tw3_236 rfl), (gw_of tw3_237 rfl), (gw_of tw1_2 rfl), (gw_of tw3_238 rfl), by decide +kernel, by decide⟩

def qS_becomes_nk_114 : Nat → FT → RT → JT → PT → BT → Int32 → (FT → RT → JT → PT → BT → Prop) → Prop
  | 0, _, _, _, _, _, _ => fun _ => False
  | n114 + 1, F, R, J, P, B, v2 => fun K => ((4 : Int32) ≤ v2 → (K F (va_up (va_up (va_up R 115 (va_cpy (R 215) (R 115) ((0 : Int32).toNatClampNeg) ((0 : Int32).toNatClampNeg) ((6 : Int32).toNatClampNeg))) 116 (va_cpy (R 216) (R 116) ((0 : Int32).toNatClampNeg) ((0 : Int32).toNatClampNeg) ((6 : Int32).toNatClampNeg))) 117 (va_cpy (R 217) (R 117) ((0 : Int32).toNatClampNeg) ((0 : Int32).toNatClampNeg) ((48 : Int32).toNatClampNeg))) J P B)) ∧ (¬ (4 : Int32) ≤ v2 → ((vp_in v2 4) ∧ ((vp_in v2 4) ∧ ((∀ b : Nat, P 214 v2.toNatClampNeg = some b → inB B b) ∧ (qS_becomes_nk_114 n114 F R J (va_up P 114 (va_up (P 114) v2.toNatClampNeg (P 214 v2.toNatClampNeg))) B (v2 + (1 : Int32)) K)))))
set_option maxHeartbeats 4000000 in
set_option maxRecDepth 100000 in
theorem lS_becomes_nk_114 {X : XT} {ka : Nat → ClassId} {ad : Nat → Nat} (C : Cx X cX7_becomes 3 RX7 none ka 1) {K : FT → RT → JT → PT → BT → Prop} (hret : RetV X cX7_becomes 0 0 (fun w => ∃ F R J P B, w = wC ad ka F R J P B ∧ K F R J P B)) : ∀ (n : Nat) (F : FT) (R : RT) (J : JT) (P : PT) (B : BT) (v2 : Int32), qS_becomes_nk_114 n F R J P B v2 K → G X 0 0 (wC ad ka F R J P B) 114 [(0, .ref (ad 199)), (1, .ref (ad 299)), (2, .int v2)] [] := by
  intro n
  induction n with
  | zero => intro F R J P B v2 h; exact h.elim
  | succ n ih =>
    intro F R J P B v2 h
    refine g_iload_n C 2 dX7_becomes_114 rfl ?_
    refine g_iconst C (4 : Int32) dX7_becomes_115 ci_4 ?_
    refine g_icmp_ge C 137 dX7_becomes_116 (by decide) (fun c1 => ?_) (fun c1 => ?_)
    · have h := h.1 c1
      refine g_aload_n C 1 dX7_becomes_137 rfl ?_
      refine Cg_X7_2_costs C dX7_becomes_138 ?_
      refine g_iconst C (0 : Int32) dX7_becomes_141 ci_0 ?_
      refine g_aload_n C 0 dX7_becomes_142 rfl ?_
      refine Cg_X7_1_costs C dX7_becomes_143 ?_
      refine g_iconst C (0 : Int32) dX7_becomes_146 ci_0 ?_
      refine g_bipush C (6 : Int32) dX7_becomes_147 cb_6 ?_
      refine Cc_215_115 C (f := R 215) (g := R 115) rfl rfl (by decide) (by decide) (by decide) (by decide) (by decide) (gw_of tw3_52 rfl) (by decide) (Nat.le_of_ble_eq_true rfl) dX7_becomes_149 ?_
      refine g_aload_n C 1 dX7_becomes_152 rfl ?_
      refine Cg_X7_2_oaths C dX7_becomes_153 ?_
      refine g_iconst C (0 : Int32) dX7_becomes_156 ci_0 ?_
      refine g_aload_n C 0 dX7_becomes_157 rfl ?_
      refine Cg_X7_1_oaths C dX7_becomes_158 ?_
      refine g_iconst C (0 : Int32) dX7_becomes_161 ci_0 ?_
      refine g_bipush C (6 : Int32) dX7_becomes_162 cb_6 ?_
      refine Cc_216_116 (R := (va_up R 115 (va_cpy (R 215) (R 115) ((0 : Int32).toNatClampNeg) ((0 : Int32).toNatClampNeg) ((6 : Int32).toNatClampNeg)))) C (f := R 216) (g := R 116) rfl rfl (by decide) (by decide) (by decide) (by decide) (by decide) (gw_of tw3_52 rfl) (by decide) (Nat.le_of_ble_eq_true rfl) dX7_becomes_164 ?_
      refine g_aload_n C 1 dX7_becomes_167 rfl ?_
      refine Cg_X7_2_past C dX7_becomes_168 ?_
      refine g_iconst C (0 : Int32) dX7_becomes_171 ci_0 ?_
      refine g_aload_n C 0 dX7_becomes_172 rfl ?_
      refine Cg_X7_1_past C dX7_becomes_173 ?_
      refine g_iconst C (0 : Int32) dX7_becomes_176 ci_0 ?_
      refine g_bipush C (48 : Int32) dX7_becomes_177 cb_48 ?_
      refine Cc_217_117 (R := (va_up (va_up R 115 (va_cpy (R 215) (R 115) ((0 : Int32).toNatClampNeg) ((0 : Int32).toNatClampNeg) ((6 : Int32).toNatClampNeg))) 116 (va_cpy (R 216) (R 116) ((0 : Int32).toNatClampNeg) ((0 : Int32).toNatClampNeg) ((6 : Int32).toNatClampNeg)))) C (f := R 217) (g := R 117) rfl rfl (by decide) (by decide) (by decide) (by decide) (by decide) (gw_of tw3_52 rfl) (by decide) (Nat.le_of_ble_eq_true rfl) dX7_becomes_179 ?_
      exact hret _ _ _ ⟨_, _, _, _, _, rfl, h⟩ dX7_becomes_182
    · have h := h.2 c1
      refine g_aload_n C 0 dX7_becomes_119 rfl ?_
      refine Cg_X7_1_builders C dX7_becomes_120 ?_
      refine g_iload_n C 2 dX7_becomes_123 rfl ?_
      refine g_aload_n C 1 dX7_becomes_124 rfl ?_
      refine Cg_X7_2_builders C dX7_becomes_125 ?_
      refine g_iload_n C 2 dX7_becomes_128 rfl ?_
      refine Ca_P214 C (f := P 214) rfl h.1 dX7_becomes_129 ?_
      have h := h.2
      refine Cs_Q114 C (f := P 114) rfl h.1 h.2.1 dX7_becomes_130 ?_
      have h := h.2.2
      refine g_iinc C 2 (v2 + (1 : Int32)) [(2, .int (v2 + (1 : Int32))), (0, .ref (ad 199)), (1, .ref (ad 299))] dX7_becomes_131 rfl (by rw [ci_1]) (by decide) rfl ?_
      refine g_goto C 114 dX7_becomes_134 (by decide) ?_
      exact g_lv [1, 2, 0] rfl (ih _ _ _ _ _ _ h)
def qS_becomes_nk (F : FT) (R : RT) (J : JT) (P : PT) (B : BT)  (K : FT → RT → JT → PT → BT → Prop) : Prop :=
  ∃ n114, qS_becomes_nk_114 n114 (upd (upd (upd (upd (upd (upd (upd (upd (upd (upd (upd (upd (upd (upd F 100 (F 200)) 101 (F 201)) 102 (F 202)) 103 (F 203)) 104 (F 204)) 105 (F 205)) 106 (F 206)) 107 (F 207)) 108 (F 208)) 109 (F 209)) 110 (F 210)) 111 (F 211)) 112 (F 212)) 113 (F 213)) R J P B (0 : Int32) K
set_option maxHeartbeats 4000000 in
set_option maxRecDepth 100000 in
theorem bS_becomes_nk {X : XT} {ka : Nat → ClassId} {ad : Nat → Nat} (C : Cx X cX7_becomes 3 RX7 none ka 1) {K : FT → RT → JT → PT → BT → Prop} (hret : RetV X cX7_becomes 0 0 (fun w => ∃ F R J P B, w = wC ad ka F R J P B ∧ K F R J P B)) (F : FT) (R : RT) (J : JT) (P : PT) (B : BT)  (h : qS_becomes_nk F R J P B  K) : G X 0 0 (wC ad ka F R J P B) 0 [(0, .ref (ad 199)), (1, .ref (ad 299))] [] := by
  unfold qS_becomes_nk at h
  refine g_aload_n C 0 dX7_becomes_0 rfl ?_
  refine g_aload_n C 1 dX7_becomes_1 rfl ?_
  refine Cg_X7_2_stones C (v := F 200) rfl dX7_becomes_2 ?_
  refine Cp_X7_1_stones C dX7_becomes_5 ?_
  refine g_aload_n C 0 dX7_becomes_8 rfl ?_
  refine g_aload_n C 1 dX7_becomes_9 rfl ?_
  refine Cg_X7_2_days (F := (upd F 100 (F 200))) C (v := F 201) rfl dX7_becomes_10 ?_
  refine Cp_X7_1_days C dX7_becomes_13 ?_
  refine g_aload_n C 0 dX7_becomes_16 rfl ?_
  refine g_aload_n C 1 dX7_becomes_17 rfl ?_
  refine Cg_X7_2_frost (F := (upd (upd F 100 (F 200)) 101 (F 201))) C (v := F 202) rfl dX7_becomes_18 ?_
  refine Cp_X7_1_frost C dX7_becomes_21 ?_
  refine g_aload_n C 0 dX7_becomes_24 rfl ?_
  refine g_aload_n C 1 dX7_becomes_25 rfl ?_
  refine Cg_X7_2_thaw (F := (upd (upd (upd F 100 (F 200)) 101 (F 201)) 102 (F 202))) C (v := F 203) rfl dX7_becomes_26 ?_
  refine Cp_X7_1_thaw C dX7_becomes_29 ?_
  refine g_aload_n C 0 dX7_becomes_32 rfl ?_
  refine g_aload_n C 1 dX7_becomes_33 rfl ?_
  refine Cg_X7_2_day (F := (upd (upd (upd (upd F 100 (F 200)) 101 (F 201)) 102 (F 202)) 103 (F 203))) C (v := F 204) rfl dX7_becomes_34 ?_
  refine Cp_X7_1_day C dX7_becomes_37 ?_
  refine g_aload_n C 0 dX7_becomes_40 rfl ?_
  refine g_aload_n C 1 dX7_becomes_41 rfl ?_
  refine Cg_X7_2_laid (F := (upd (upd (upd (upd (upd F 100 (F 200)) 101 (F 201)) 102 (F 202)) 103 (F 203)) 104 (F 204))) C (v := F 205) rfl dX7_becomes_42 ?_
  refine Cp_X7_1_laid C dX7_becomes_45 ?_
  refine g_aload_n C 0 dX7_becomes_48 rfl ?_
  refine g_aload_n C 1 dX7_becomes_49 rfl ?_
  refine Cg_X7_2_used (F := (upd (upd (upd (upd (upd (upd F 100 (F 200)) 101 (F 201)) 102 (F 202)) 103 (F 203)) 104 (F 204)) 105 (F 205))) C (v := F 206) rfl dX7_becomes_50 ?_
  refine Cp_X7_1_used C dX7_becomes_53 ?_
  refine g_aload_n C 0 dX7_becomes_56 rfl ?_
  refine g_aload_n C 1 dX7_becomes_57 rfl ?_
  refine Cg_X7_2_usedToday (F := (upd (upd (upd (upd (upd (upd (upd F 100 (F 200)) 101 (F 201)) 102 (F 202)) 103 (F 203)) 104 (F 204)) 105 (F 205)) 106 (F 206))) C (v := F 207) rfl dX7_becomes_58 ?_
  refine Cp_X7_1_usedToday C dX7_becomes_61 ?_
  refine g_aload_n C 0 dX7_becomes_64 rfl ?_
  refine g_aload_n C 1 dX7_becomes_65 rfl ?_
  refine Cg_X7_2_broken (F := (upd (upd (upd (upd (upd (upd (upd (upd F 100 (F 200)) 101 (F 201)) 102 (F 202)) 103 (F 203)) 104 (F 204)) 105 (F 205)) 106 (F 206)) 107 (F 207))) C (v := F 208) rfl dX7_becomes_66 ?_
  refine Cp_X7_1_broken C dX7_becomes_69 ?_
  refine g_aload_n C 0 dX7_becomes_72 rfl ?_
  refine g_aload_n C 1 dX7_becomes_73 rfl ?_
  refine Cg_X7_2_sworn (F := (upd (upd (upd (upd (upd (upd (upd (upd (upd F 100 (F 200)) 101 (F 201)) 102 (F 202)) 103 (F 203)) 104 (F 204)) 105 (F 205)) 106 (F 206)) 107 (F 207)) 108 (F 208))) C (v := F 209) rfl dX7_becomes_74 ?_
  refine Cp_X7_1_sworn C dX7_becomes_77 ?_
  refine g_aload_n C 0 dX7_becomes_80 rfl ?_
  refine g_aload_n C 1 dX7_becomes_81 rfl ?_
  refine Cg_X7_2_draw (F := (upd (upd (upd (upd (upd (upd (upd (upd (upd (upd F 100 (F 200)) 101 (F 201)) 102 (F 202)) 103 (F 203)) 104 (F 204)) 105 (F 205)) 106 (F 206)) 107 (F 207)) 108 (F 208)) 109 (F 209))) C (v := F 210) rfl dX7_becomes_82 ?_
  refine Cp_X7_1_draw C dX7_becomes_85 ?_
  refine g_aload_n C 0 dX7_becomes_88 rfl ?_
  refine g_aload_n C 1 dX7_becomes_89 rfl ?_
  refine Cg_X7_2_builderCount (F := (upd (upd (upd (upd (upd (upd (upd (upd (upd (upd (upd F 100 (F 200)) 101 (F 201)) 102 (F 202)) 103 (F 203)) 104 (F 204)) 105 (F 205)) 106 (F 206)) 107 (F 207)) 108 (F 208)) 109 (F 209)) 110 (F 210))) C (v := F 211) rfl dX7_becomes_90 ?_
  refine Cp_X7_1_builderCount C dX7_becomes_93 ?_
  refine g_aload_n C 0 dX7_becomes_96 rfl ?_
  refine g_aload_n C 1 dX7_becomes_97 rfl ?_
  refine Cg_X7_2_hindranceCount (F := (upd (upd (upd (upd (upd (upd (upd (upd (upd (upd (upd (upd F 100 (F 200)) 101 (F 201)) 102 (F 202)) 103 (F 203)) 104 (F 204)) 105 (F 205)) 106 (F 206)) 107 (F 207)) 108 (F 208)) 109 (F 209)) 110 (F 210)) 111 (F 211))) C (v := F 212) rfl dX7_becomes_98 ?_
  refine Cp_X7_1_hindranceCount C dX7_becomes_101 ?_
  refine g_aload_n C 0 dX7_becomes_104 rfl ?_
  refine g_aload_n C 1 dX7_becomes_105 rfl ?_
  refine Cg_X7_2_pastCount (F := (upd (upd (upd (upd (upd (upd (upd (upd (upd (upd (upd (upd (upd F 100 (F 200)) 101 (F 201)) 102 (F 202)) 103 (F 203)) 104 (F 204)) 105 (F 205)) 106 (F 206)) 107 (F 207)) 108 (F 208)) 109 (F 209)) 110 (F 210)) 111 (F 211)) 112 (F 212))) C (v := F 213) rfl dX7_becomes_106 ?_
  refine Cp_X7_1_pastCount C dX7_becomes_109 ?_
  refine g_iconst C (0 : Int32) dX7_becomes_112 ci_0 ?_
  refine g_istore_n C [(2, .int (0 : Int32)), (0, .ref (ad 199)), (1, .ref (ad 299))] dX7_becomes_113 (by decide) rfl ?_
  obtain ⟨n1, h⟩ := h
  exact g_lv [1, 2, 0] rfl (lS_becomes_nk_114 C hret n1 _ _ _ _ _ _ h)
set_option maxHeartbeats 4000000 in
set_option maxRecDepth 100000 in
theorem kS_becomes_nk (l : Launch) (D : va_G) (ka : Nat → ClassId) (ad : Nat → Nat) (F : FT) (R : RT) (J : JT) (P : PT) (B : BT)  (K : FT → RT → JT → PT → BT → Prop) (h : qS_becomes_nk F R J P B  K) : MV l D ka yX7_becomes cX7_becomes 3 none 1 0 0 [.ref (ad 199), .ref (ad 299)] (wC ad ka F R J P B) (fun w => ∃ F R J P B, w = wC ad ka F R J P B ∧ K F R J P B) := MV_of (by decide) (Nat.le_of_ble_eq_true rfl) (fun X C hroom hret => bS_becomes_nk C hret F R J P B  h)

def qT_append (F : FT) (R : RT) (J : JT) (P : PT) (B : BT) (a1 : Int32) (K : FT → RT → JT → PT → BT → Prop) : Prop :=
  ((60 : Int32) ≤ (F 306) → (K F R J P B)) ∧ (¬ (60 : Int32) ≤ (F 306) → ((vp_in (F 306) 60) ∧ (K (upd F 306 ((F 306) + (1 : Int32))) (va_up R 300 (upd (R 300) ((F 306).toNatClampNeg) (vp_nar .char a1))) J P B)))
set_option maxHeartbeats 4000000 in
set_option maxRecDepth 100000 in
theorem bT_append {X : XT} {ka : Nat → ClassId} {ad : Nat → Nat} (C : Cx X cX8_append 2 RX8 none ka 1) {K : FT → RT → JT → PT → BT → Prop} (hret : RetV X cX8_append 0 0 (fun w => ∃ F R J P B, w = wC ad ka F R J P B ∧ K F R J P B)) (F : FT) (R : RT) (J : JT) (P : PT) (B : BT) (a1 : Int32) (h : qT_append F R J P B a1 K) : G X 0 0 (wC ad ka F R J P B) 0 [(0, .ref (ad 399)), (1, .int a1)] [] := by
  unfold qT_append at h
  refine g_aload_n C 0 dX8_append_0 rfl ?_
  refine Cg_X8_3_length C (v := F 306) rfl dX8_append_1 ?_
  refine g_bipush C (60 : Int32) dX8_append_4 cb_60 ?_
  refine g_icmp_ge C 29 dX8_append_6 (by decide) (fun c1 => ?_) (fun c1 => ?_)
  · have h := h.1 c1
    exact hret _ _ _ ⟨_, _, _, _, _, rfl, h⟩ dX8_append_29
  · have h := h.2 c1
    refine g_aload_n C 0 dX8_append_9 rfl ?_
    refine Cg_X8_3_letters C dX8_append_10 ?_
    refine g_aload_n C 0 dX8_append_13 rfl ?_
    refine Cg_X8_3_length C (v := F 306) rfl dX8_append_14 ?_
    refine g_iload_n C 1 dX8_append_17 rfl ?_
    refine Cs_300 C (f := R 300) rfl _ rfl h.1 dX8_append_18 ?_
    have h := h.2
    refine g_aload_n C 0 dX8_append_19 rfl ?_
    refine g_dup C dX8_append_20 rfl ?_
    refine Cg_X8_3_length C (v := F 306) rfl dX8_append_21 ?_
    refine g_iconst C (1 : Int32) dX8_append_24 ci_1 ?_
    refine g_iadd C dX8_append_25 ?_
    refine Cp_X8_3_length C dX8_append_26 ?_
    exact hret _ _ _ ⟨_, _, _, _, _, rfl, h⟩ dX8_append_29
set_option maxHeartbeats 4000000 in
set_option maxRecDepth 100000 in
theorem kT_append (l : Launch) (D : va_G) (ka : Nat → ClassId) (ad : Nat → Nat) (F : FT) (R : RT) (J : JT) (P : PT) (B : BT) (a1 : Int32) (K : FT → RT → JT → PT → BT → Prop) (h : qT_append F R J P B a1 K) : MV l D ka yX8_append cX8_append 2 none 1 0 0 [.ref (ad 399), .int a1] (wC ad ka F R J P B) (fun w => ∃ F R J P B, w = wC ad ka F R J P B ∧ K F R J P B) := MV_of (by decide) (Nat.le_of_ble_eq_true rfl) (fun X C hroom hret => bT_append C hret F R J P B a1 h)
set_option maxHeartbeats 4000000 in
set_option maxRecDepth 100000 in
theorem miX8_append : MInf yX8_append cX8_append 2 none 1 := ⟨(gw_of tw2_208 rfl), (gw_of tw2_209 rfl), (gw_of tw1_3 rfl), (gw_of tw2_210 rfl), by decide +kernel, by decide⟩

def qT_failAt (F : FT) (R : RT) (J : JT) (P : PT) (B : BT) (a1 : Int32) (K : Int32 → FT → RT → JT → PT → BT → Prop) : Prop :=
  K (0 : Int32) (upd F 311 a1) R J P B
set_option maxHeartbeats 4000000 in
set_option maxRecDepth 100000 in
theorem bT_failAt {X : XT} {ka : Nat → ClassId} {ad : Nat → Nat} (C : Cx X cX8_failAt 2 RX8 (some .boolean) ka 1) {K : Int32 → FT → RT → JT → PT → BT → Prop} (hret : RetI X cX8_failAt .boolean 0 0 (fun z w => ∃ F R J P B, w = wC ad ka F R J P B ∧ K z F R J P B)) (F : FT) (R : RT) (J : JT) (P : PT) (B : BT) (a1 : Int32) (h : qT_failAt F R J P B a1 K) : G X 0 0 (wC ad ka F R J P B) 0 [(0, .ref (ad 399)), (1, .int a1)] [] := by
  unfold qT_failAt at h
  refine g_aload_n C 0 dX8_failAt_0 rfl ?_
  refine g_iload_n C 1 dX8_failAt_1 rfl ?_
  refine Cp_X8_3_fault C dX8_failAt_2 ?_
  refine g_iconst C (0 : Int32) dX8_failAt_5 ci_0 ?_
  exact hret _ _ _ _ ⟨_, _, _, _, _, rfl, h⟩ rfl dX8_failAt_6
set_option maxHeartbeats 4000000 in
set_option maxRecDepth 100000 in
theorem kT_failAt (l : Launch) (D : va_G) (ka : Nat → ClassId) (ad : Nat → Nat) (F : FT) (R : RT) (J : JT) (P : PT) (B : BT) (a1 : Int32) (K : Int32 → FT → RT → JT → PT → BT → Prop) (h : qT_failAt F R J P B a1 K) : MI l D ka yX8_failAt cX8_failAt 2 (some .boolean) 1 0 0 [.ref (ad 399), .int a1] (wC ad ka F R J P B) (fun z w => ∃ F R J P B, w = wC ad ka F R J P B ∧ K z F R J P B) := MI_of (by decide) (Nat.le_of_ble_eq_true rfl) (fun X C hroom hret => bT_failAt C hret F R J P B a1 h)
set_option maxHeartbeats 4000000 in
set_option maxRecDepth 100000 in
theorem miX8_failAt : MInf yX8_failAt cX8_failAt 2 (some .boolean) 1 := ⟨(gw_of tw2_233 rfl), (gw_of tp_yX8_failAt rfl), (gw_of tw1_3 rfl), (gw_of tw2_234 rfl), by decide +kernel, by decide⟩

def qT_isDigit (F : FT) (R : RT) (J : JT) (P : PT) (B : BT) (a1 : Int32) (K : Int32 → FT → RT → JT → PT → BT → Prop) : Prop :=
  (a1 < (48 : Int32) → (K (0 : Int32) F R J P B)) ∧ (¬ a1 < (48 : Int32) → (((57 : Int32) < a1 → (K (0 : Int32) F R J P B)) ∧ (¬ (57 : Int32) < a1 → (K (1 : Int32) F R J P B))))
set_option maxHeartbeats 4000000 in
set_option maxRecDepth 100000 in
theorem bT_isDigit {X : XT} {ka : Nat → ClassId} {ad : Nat → Nat} (C : Cx X cX8_isDigit 1 RX8 (some .boolean) ka 1) {K : Int32 → FT → RT → JT → PT → BT → Prop} (hret : RetI X cX8_isDigit .boolean 0 0 (fun z w => ∃ F R J P B, w = wC ad ka F R J P B ∧ K z F R J P B)) (F : FT) (R : RT) (J : JT) (P : PT) (B : BT) (a1 : Int32) (h : qT_isDigit F R J P B a1 K) : G X 0 0 (wC ad ka F R J P B) 0 [(0, .int a1)] [] := by
  unfold qT_isDigit at h
  refine g_iload_n C 0 dX8_isDigit_0 rfl ?_
  refine g_bipush C (48 : Int32) dX8_isDigit_1 cb_48 ?_
  refine g_icmp_lt C 16 dX8_isDigit_3 (by decide) (fun c1 => ?_) (fun c1 => ?_)
  · have h := h.1 c1
    refine g_iconst C (0 : Int32) dX8_isDigit_16 ci_0 ?_
    exact hret _ _ _ _ ⟨_, _, _, _, _, rfl, h⟩ rfl dX8_isDigit_17
  · have h := h.2 c1
    refine g_iload_n C 0 dX8_isDigit_6 rfl ?_
    refine g_bipush C (57 : Int32) dX8_isDigit_7 cb_57 ?_
    refine g_icmp_gt C 16 dX8_isDigit_9 (by decide) (fun c2 => ?_) (fun c2 => ?_)
    · have h := h.1 c2
      refine g_iconst C (0 : Int32) dX8_isDigit_16 ci_0 ?_
      exact hret _ _ _ _ ⟨_, _, _, _, _, rfl, h⟩ rfl dX8_isDigit_17
    · have h := h.2 c2
      refine g_iconst C (1 : Int32) dX8_isDigit_12 ci_1 ?_
      refine g_goto C 17 dX8_isDigit_13 (by decide) ?_
      exact hret _ _ _ _ ⟨_, _, _, _, _, rfl, h⟩ rfl dX8_isDigit_17
set_option maxHeartbeats 4000000 in
set_option maxRecDepth 100000 in
theorem kT_isDigit (l : Launch) (D : va_G) (ka : Nat → ClassId) (ad : Nat → Nat) (F : FT) (R : RT) (J : JT) (P : PT) (B : BT) (a1 : Int32) (K : Int32 → FT → RT → JT → PT → BT → Prop) (h : qT_isDigit F R J P B a1 K) : MI l D ka yX8_isDigit cX8_isDigit 1 (some .boolean) 1 0 0 [.int a1] (wC ad ka F R J P B) (fun z w => ∃ F R J P B, w = wC ad ka F R J P B ∧ K z F R J P B) := MI_of (by decide) (Nat.le_of_ble_eq_true rfl) (fun X C hroom hret => bT_isDigit C hret F R J P B a1 h)
set_option maxHeartbeats 4000000 in
set_option maxRecDepth 100000 in
theorem siX8_isDigit : SInf yX8_isDigit cX8_isDigit 1 (some .boolean) 1 := ⟨(gw_of tw2_228 rfl), (gw_of tw1_3 rfl), (gw_of tw2_229 rfl), by decide +kernel, by decide⟩

def qT_kindOf (F : FT) (R : RT) (J : JT) (P : PT) (B : BT) (a1 : Int32) (K : Int32 → FT → RT → JT → PT → BT → Prop) : Prop :=
  (a1 = (98 : Int32) → (K (2 : Int32) F R J P B)) ∧ ((a1 = (103 : Int32) → (K (3 : Int32) F R J P B)) ∧ ((a1 = (104 : Int32) → (K (1 : Int32) F R J P B)) ∧ ((a1 = (112 : Int32) → (K (0 : Int32) F R J P B)) ∧ ((a1 = (119 : Int32) → (K (4 : Int32) F R J P B)) ∧ ((¬ a1 = (98 : Int32) → ¬ a1 = (103 : Int32) → ¬ a1 = (104 : Int32) → ¬ a1 = (112 : Int32) → ¬ a1 = (119 : Int32) → (K (-1 : Int32) F R J P B)))))))
set_option maxHeartbeats 4000000 in
set_option maxRecDepth 100000 in
theorem bT_kindOf {X : XT} {ka : Nat → ClassId} {ad : Nat → Nat} (C : Cx X cX8_kindOf 1 RX8 (some .int) ka 1) {K : Int32 → FT → RT → JT → PT → BT → Prop} (hret : RetI X cX8_kindOf .int 0 0 (fun z w => ∃ F R J P B, w = wC ad ka F R J P B ∧ K z F R J P B)) (F : FT) (R : RT) (J : JT) (P : PT) (B : BT) (a1 : Int32) (h : qT_kindOf F R J P B a1 K) : G X 0 0 (wC ad ka F R J P B) 0 [(0, .int a1)] [] := by
  unfold qT_kindOf at h
  refine g_iload_n C 0 dX8_kindOf_0 rfl ?_
  by_cases c1 : a1 = (98 : Int32)
  · have h := h.1 c1
    refine g_lookup C (55) 56 dX8_kindOf_1 (by decide) (by rw [c1]; decide) (by decide) ?_
    refine g_iconst C (2 : Int32) dX8_kindOf_56 ci_2 ?_
    exact hret _ _ _ _ ⟨_, _, _, _, _, rfl, h⟩ rfl dX8_kindOf_57
  have h := h.2
  by_cases c2 : a1 = (103 : Int32)
  · have h := h.1 c2
    refine g_lookup C (57) 58 dX8_kindOf_1 (by decide) (by rw [c2]; decide) (by decide) ?_
    refine g_iconst C (3 : Int32) dX8_kindOf_58 ci_3 ?_
    exact hret _ _ _ _ ⟨_, _, _, _, _, rfl, h⟩ rfl dX8_kindOf_59
  have h := h.2
  by_cases c3 : a1 = (104 : Int32)
  · have h := h.1 c3
    refine g_lookup C (53) 54 dX8_kindOf_1 (by decide) (by rw [c3]; decide) (by decide) ?_
    refine g_iconst C (1 : Int32) dX8_kindOf_54 ci_1 ?_
    exact hret _ _ _ _ ⟨_, _, _, _, _, rfl, h⟩ rfl dX8_kindOf_55
  have h := h.2
  by_cases c4 : a1 = (112 : Int32)
  · have h := h.1 c4
    refine g_lookup C (51) 52 dX8_kindOf_1 (by decide) (by rw [c4]; decide) (by decide) ?_
    refine g_iconst C (0 : Int32) dX8_kindOf_52 ci_0 ?_
    exact hret _ _ _ _ ⟨_, _, _, _, _, rfl, h⟩ rfl dX8_kindOf_53
  have h := h.2
  by_cases c5 : a1 = (119 : Int32)
  · have h := h.1 c5
    refine g_lookup C (59) 60 dX8_kindOf_1 (by decide) (by rw [c5]; decide) (by decide) ?_
    refine g_iconst C (4 : Int32) dX8_kindOf_60 ci_4 ?_
    exact hret _ _ _ _ ⟨_, _, _, _, _, rfl, h⟩ rfl dX8_kindOf_61
  have h := h.2
  have h := h c1 c2 c3 c4 c5
  refine g_lookup C (61) 62 dX8_kindOf_1 (by decide) (by have ec1 := swn (98) (by decide) c1; have ec2 := swn (103) (by decide) c2; have ec3 := swn (104) (by decide) c3; have ec4 := swn (112) (by decide) c4; have ec5 := swn (119) (by decide) c5; simp [Op.lookupswitch.offset, Ne.symm ec1, Ne.symm ec2, Ne.symm ec3, Ne.symm ec4, Ne.symm ec5]) (by decide) ?_
  refine g_iconst C (-1 : Int32) dX8_kindOf_62 ci_m1 ?_
  exact hret _ _ _ _ ⟨_, _, _, _, _, rfl, h⟩ rfl dX8_kindOf_63
set_option maxHeartbeats 4000000 in
set_option maxRecDepth 100000 in
theorem kT_kindOf (l : Launch) (D : va_G) (ka : Nat → ClassId) (ad : Nat → Nat) (F : FT) (R : RT) (J : JT) (P : PT) (B : BT) (a1 : Int32) (K : Int32 → FT → RT → JT → PT → BT → Prop) (h : qT_kindOf F R J P B a1 K) : MI l D ka yX8_kindOf cX8_kindOf 1 (some .int) 1 0 0 [.int a1] (wC ad ka F R J P B) (fun z w => ∃ F R J P B, w = wC ad ka F R J P B ∧ K z F R J P B) := MI_of (by decide) (Nat.le_of_ble_eq_true rfl) (fun X C hroom hret => bT_kindOf C hret F R J P B a1 h)
set_option maxHeartbeats 4000000 in
set_option maxRecDepth 100000 in
theorem siX8_kindOf : SInf yX8_kindOf cX8_kindOf 1 (some .int) 1 := ⟨(gw_of tw3_8 rfl), (gw_of tw1_3 rfl), (gw_of tw3_9 rfl), by decide +kernel, by decide⟩

def qT_next_38 (F : FT) (R : RT) (J : JT) (P : PT) (B : BT)  (K : Int32 → FT → RT → JT → PT → BT → Prop) : Prop :=
  ((F 306) ≤ (F 312) → (K (0 : Int32) F R J P B)) ∧ (¬ (F 306) ≤ (F 312) → ((vp_in (F 312) 60) ∧ (narrow .char (.int (R 300 ((F 312).toNatClampNeg))) = .int (R 300 ((F 312).toNatClampNeg)) ∧ K (R 300 ((F 312).toNatClampNeg)) F R J P B)))
set_option maxHeartbeats 4000000 in
set_option maxRecDepth 100000 in
theorem lT_next_38 {X : XT} {ka : Nat → ClassId} {ad : Nat → Nat} (C : Cx X cX8_next 1 RX8 (some .char) ka 1) {K : Int32 → FT → RT → JT → PT → BT → Prop} (hret : RetI X cX8_next .char 0 0 (fun z w => ∃ F R J P B, w = wC ad ka F R J P B ∧ K z F R J P B)) (F : FT) (R : RT) (J : JT) (P : PT) (B : BT)  (h : qT_next_38 F R J P B  K) : G X 0 0 (wC ad ka F R J P B) 38 [(0, .ref (ad 399))] [] := by
  unfold qT_next_38 at h
  refine g_aload_n C 0 dX8_next_38 rfl ?_
  refine Cg_X8_3_at C (v := F 312) rfl dX8_next_39 ?_
  refine g_aload_n C 0 dX8_next_42 rfl ?_
  refine Cg_X8_3_length C (v := F 306) rfl dX8_next_43 ?_
  refine g_icmp_ge C 61 dX8_next_46 (by decide) (fun c1 => ?_) (fun c1 => ?_)
  · have h := h.1 c1
    refine g_iconst C (0 : Int32) dX8_next_61 ci_0 ?_
    exact hret _ _ _ _ ⟨_, _, _, _, _, rfl, h⟩ rfl dX8_next_62
  · have h := h.2 c1
    refine g_aload_n C 0 dX8_next_49 rfl ?_
    refine Cg_X8_3_letters C dX8_next_50 ?_
    refine g_aload_n C 0 dX8_next_53 rfl ?_
    refine Cg_X8_3_at C (v := F 312) rfl dX8_next_54 ?_
    refine Ca_300 C (f := R 300) rfl _ rfl h.1 dX8_next_57 ?_
    have h := h.2
    refine g_goto C 62 dX8_next_58 (by decide) ?_
    exact hret _ _ _ _ ⟨_, _, _, _, _, rfl, h.2⟩ h.1 dX8_next_62
def qT_next_0 : Nat → FT → RT → JT → PT → BT → (Int32 → FT → RT → JT → PT → BT → Prop) → Prop
  | 0, _, _, _, _, _ => fun _ => False
  | n0 + 1, F, R, J, P, B => fun K => ((F 306) ≤ (F 312) → (qT_next_38 F R J P B K)) ∧ (¬ (F 306) ≤ (F 312) → ((vp_in (F 312) 60) ∧ ((¬ (R 300 ((F 312).toNatClampNeg)) = (32 : Int32) → (qT_next_38 F R J P B K)) ∧ ((R 300 ((F 312).toNatClampNeg)) = (32 : Int32) → (qT_next_0 n0 (upd F 312 ((F 312) + (1 : Int32))) R J P B K)))))
set_option maxHeartbeats 4000000 in
set_option maxRecDepth 100000 in
theorem lT_next_0 {X : XT} {ka : Nat → ClassId} {ad : Nat → Nat} (C : Cx X cX8_next 1 RX8 (some .char) ka 1) {K : Int32 → FT → RT → JT → PT → BT → Prop} (hret : RetI X cX8_next .char 0 0 (fun z w => ∃ F R J P B, w = wC ad ka F R J P B ∧ K z F R J P B)) : ∀ (n : Nat) (F : FT) (R : RT) (J : JT) (P : PT) (B : BT) , qT_next_0 n F R J P B  K → G X 0 0 (wC ad ka F R J P B) 0 [(0, .ref (ad 399))] [] := by
  intro n
  induction n with
  | zero => intro F R J P B  h; exact h.elim
  | succ n ih =>
    intro F R J P B  h
    refine g_aload_n C 0 dX8_next_0 rfl ?_
    refine Cg_X8_3_at C (v := F 312) rfl dX8_next_1 ?_
    refine g_aload_n C 0 dX8_next_4 rfl ?_
    refine Cg_X8_3_length C (v := F 306) rfl dX8_next_5 ?_
    refine g_icmp_ge C 38 dX8_next_8 (by decide) (fun c1 => ?_) (fun c1 => ?_)
    · have h := h.1 c1
      exact g_lv [0] rfl (lT_next_38 C hret _ _ _ _ _ h)
    · have h := h.2 c1
      refine g_aload_n C 0 dX8_next_11 rfl ?_
      refine Cg_X8_3_letters C dX8_next_12 ?_
      refine g_aload_n C 0 dX8_next_15 rfl ?_
      refine Cg_X8_3_at C (v := F 312) rfl dX8_next_16 ?_
      refine Ca_300 C (f := R 300) rfl _ rfl h.1 dX8_next_19 ?_
      have h := h.2
      refine g_bipush C (32 : Int32) dX8_next_20 cb_32 ?_
      refine g_icmp_ne C 38 dX8_next_22 (by decide) (fun c2 => ?_) (fun c2 => ?_)
      · have h := h.1 c2
        exact g_lv [0] rfl (lT_next_38 C hret _ _ _ _ _ h)
      · have h := h.2 c2
        refine g_aload_n C 0 dX8_next_25 rfl ?_
        refine g_dup C dX8_next_26 rfl ?_
        refine Cg_X8_3_at C (v := F 312) rfl dX8_next_27 ?_
        refine g_iconst C (1 : Int32) dX8_next_30 ci_1 ?_
        refine g_iadd C dX8_next_31 ?_
        refine Cp_X8_3_at C dX8_next_32 ?_
        refine g_goto C 0 dX8_next_35 (by decide) ?_
        exact g_lv [0] rfl (ih _ _ _ _ _ h)
def qT_next (F : FT) (R : RT) (J : JT) (P : PT) (B : BT)  (K : Int32 → FT → RT → JT → PT → BT → Prop) : Prop :=
  ∃ n0, qT_next_0 n0 F R J P B K
set_option maxHeartbeats 4000000 in
set_option maxRecDepth 100000 in
theorem bT_next {X : XT} {ka : Nat → ClassId} {ad : Nat → Nat} (C : Cx X cX8_next 1 RX8 (some .char) ka 1) {K : Int32 → FT → RT → JT → PT → BT → Prop} (hret : RetI X cX8_next .char 0 0 (fun z w => ∃ F R J P B, w = wC ad ka F R J P B ∧ K z F R J P B)) (F : FT) (R : RT) (J : JT) (P : PT) (B : BT)  (h : qT_next F R J P B  K) : G X 0 0 (wC ad ka F R J P B) 0 [(0, .ref (ad 399))] [] := by
  unfold qT_next at h
  obtain ⟨n1, h⟩ := h
  exact g_lv [0] rfl (lT_next_0 C hret n1 _ _ _ _ _ h)
set_option maxHeartbeats 4000000 in
set_option maxRecDepth 100000 in
theorem kT_next (l : Launch) (D : va_G) (ka : Nat → ClassId) (ad : Nat → Nat) (F : FT) (R : RT) (J : JT) (P : PT) (B : BT)  (K : Int32 → FT → RT → JT → PT → BT → Prop) (h : qT_next F R J P B  K) : MI l D ka yX8_next cX8_next 1 (some .char) 1 0 0 [.ref (ad 399)] (wC ad ka F R J P B) (fun z w => ∃ F R J P B, w = wC ad ka F R J P B ∧ K z F R J P B) := MI_of (by decide) (Nat.le_of_ble_eq_true rfl) (fun X C hroom hret => bT_next C hret F R J P B  h)
set_option maxHeartbeats 4000000 in
set_option maxRecDepth 100000 in
theorem miX8_next : MInf yX8_next cX8_next 1 (some .char) 0 := ⟨(gw_of tw2_225 rfl), (gw_of tp_yX8_next rfl), (gw_of tw1_3 rfl), (gw_of tw2_226 rfl), by decide +kernel, by decide⟩

def qT_readSign (F : FT) (R : RT) (J : JT) (P : PT) (B : BT) (a1 : Int32) (K : Int32 → FT → RT → JT → PT → BT → Prop) : Prop :=
  qT_next F R J P B (fun r1 F1 R1 J1 P1 B1 => (r1 = a1 → (K (1 : Int32) (upd F1 312 ((F1 312) + (1 : Int32))) R1 J1 P1 B1)) ∧ (¬ r1 = a1 → (qT_failAt F1 R1 J1 P1 B1 (F1 312) (fun r3 F3 R3 J3 P3 B3 => isB r3 ∧ K r3 F3 R3 J3 P3 B3))))
set_option maxHeartbeats 4000000 in
set_option maxRecDepth 100000 in
theorem bT_readSign {X : XT} {ka : Nat → ClassId} {ad : Nat → Nat} (C : Cx X cX8_readSign 2 RX8 (some .boolean) ka 2) {K : Int32 → FT → RT → JT → PT → BT → Prop} (hret : RetI X cX8_readSign .boolean 0 0 (fun z w => ∃ F R J P B, w = wC ad ka F R J P B ∧ K z F R J P B)) (F : FT) (R : RT) (J : JT) (P : PT) (B : BT) (a1 : Int32) (h : qT_readSign F R J P B a1 K) : G X 0 0 (wC ad ka F R J P B) 0 [(0, .ref (ad 399)), (1, .int a1)] [] := by
  unfold qT_readSign at h
  refine g_aload_n C 0 dX8_readSign_0 rfl ?_
  refine g_callVi0 C (kT_next (xL X) (xD X) ka ad _ _ _ _ _ _ h) miX8_next (gw_of tw2_223 rfl) (by decide) wC_o3 rfl rfl rfl (Nat.le_of_ble_eq_true rfl) z00 dX8_readSign_1 (fun r1 w hw => ?_)
  obtain ⟨F1, R1, J1, P1, B1, rfl, h⟩ := hw
  refine g_iload_n C 1 dX8_readSign_4 rfl ?_
  refine g_icmp_eq C 17 dX8_readSign_5 (by decide) (fun c2 => ?_) (fun c2 => ?_)
  · have h := h.1 c2
    refine g_aload_n C 0 dX8_readSign_17 rfl ?_
    refine g_dup C dX8_readSign_18 rfl ?_
    refine Cg_X8_3_at C (v := F1 312) rfl dX8_readSign_19 ?_
    refine g_iconst C (1 : Int32) dX8_readSign_22 ci_1 ?_
    refine g_iadd C dX8_readSign_23 ?_
    refine Cp_X8_3_at C dX8_readSign_24 ?_
    refine g_iconst C (1 : Int32) dX8_readSign_27 ci_1 ?_
    exact hret _ _ _ _ ⟨_, _, _, _, _, rfl, h⟩ rfl dX8_readSign_28
  · have h := h.2 c2
    refine g_aload_n C 0 dX8_readSign_8 rfl ?_
    refine g_aload_n C 0 dX8_readSign_9 rfl ?_
    refine Cg_X8_3_at C (v := F1 312) rfl dX8_readSign_10 ?_
    refine g_callVi0 C (kT_failAt (xL X) (xD X) ka ad _ _ _ _ _ _ _ h) miX8_failAt (gw_of tw2_231 rfl) (by decide) wC_o3 rfl rfl rfl (Nat.le_of_ble_eq_true rfl) z00 dX8_readSign_13 (fun r3 w hw => ?_)
    obtain ⟨F3, R3, J3, P3, B3, rfl, h⟩ := hw
    exact hret _ _ _ _ ⟨_, _, _, _, _, rfl, h.2⟩ (nar_B h.1) dX8_readSign_16
set_option maxHeartbeats 4000000 in
set_option maxRecDepth 100000 in
theorem kT_readSign (l : Launch) (D : va_G) (ka : Nat → ClassId) (ad : Nat → Nat) (F : FT) (R : RT) (J : JT) (P : PT) (B : BT) (a1 : Int32) (K : Int32 → FT → RT → JT → PT → BT → Prop) (h : qT_readSign F R J P B a1 K) : MI l D ka yX8_readSign cX8_readSign 2 (some .boolean) 2 0 0 [.ref (ad 399), .int a1] (wC ad ka F R J P B) (fun z w => ∃ F R J P B, w = wC ad ka F R J P B ∧ K z F R J P B) := MI_of (by decide) (Nat.le_of_ble_eq_true rfl) (fun X C hroom hret => bT_readSign C hret F R J P B a1 h)
set_option maxHeartbeats 4000000 in
set_option maxRecDepth 100000 in
theorem miX8_readSign : MInf yX8_readSign cX8_readSign 2 (some .boolean) 1 := ⟨(gw_of tw2_237 rfl), (gw_of tp_yX8_readSign rfl), (gw_of tw1_3 rfl), (gw_of tw2_238 rfl), by decide +kernel, by decide⟩

def qT_readDigit_20 (F : FT) (R : RT) (J : JT) (P : PT) (B : BT)  (K : Int32 → FT → RT → JT → PT → BT → Prop) : Prop :=
  qT_failAt F R J P B (F 312) (fun r1 F1 R1 J1 P1 B1 => K (-1 : Int32) F1 R1 J1 P1 B1)
set_option maxHeartbeats 4000000 in
set_option maxRecDepth 100000 in
theorem lT_readDigit_20 {X : XT} {ka : Nat → ClassId} {ad : Nat → Nat} (C : Cx X cX8_readDigit 3 RX8 (some .int) ka 2) {K : Int32 → FT → RT → JT → PT → BT → Prop} (hret : RetI X cX8_readDigit .int 0 0 (fun z w => ∃ F R J P B, w = wC ad ka F R J P B ∧ K z F R J P B)) (F : FT) (R : RT) (J : JT) (P : PT) (B : BT)  (h : qT_readDigit_20 F R J P B  K) : G X 0 0 (wC ad ka F R J P B) 20 [(0, .ref (ad 399))] [] := by
  unfold qT_readDigit_20 at h
  refine g_aload_n C 0 dX8_readDigit_20 rfl ?_
  refine g_aload_n C 0 dX8_readDigit_21 rfl ?_
  refine Cg_X8_3_at C (v := F 312) rfl dX8_readDigit_22 ?_
  refine g_callVi0 C (kT_failAt (xL X) (xD X) ka ad _ _ _ _ _ _ _ h) miX8_failAt (gw_of tw2_231 rfl) (by decide) wC_o3 rfl rfl rfl (Nat.le_of_ble_eq_true rfl) z00 dX8_readDigit_25 (fun r1 w hw => ?_)
  obtain ⟨F1, R1, J1, P1, B1, rfl, h⟩ := hw
  refine g_pop C dX8_readDigit_28 rfl ?_
  refine g_iconst C (-1 : Int32) dX8_readDigit_29 ci_m1 ?_
  exact hret _ _ _ _ ⟨_, _, _, _, _, rfl, h⟩ rfl dX8_readDigit_30
def qT_readDigit (F : FT) (R : RT) (J : JT) (P : PT) (B : BT) (a1 : Int32) (K : Int32 → FT → RT → JT → PT → BT → Prop) : Prop :=
  qT_next F R J P B (fun r1 F1 R1 J1 P1 B1 => qT_isDigit F1 R1 J1 P1 B1 r1 (fun r2 F2 R2 J2 P2 B2 => (r2 = 0 → (qT_readDigit_20 F2 R2 J2 P2 B2 K)) ∧ (¬ r2 = 0 → ((a1 ≤ (r1 - (48 : Int32)) → (K (r1 - (48 : Int32)) (upd F2 312 ((F2 312) + (1 : Int32))) R2 J2 P2 B2)) ∧ (¬ a1 ≤ (r1 - (48 : Int32)) → (qT_readDigit_20 F2 R2 J2 P2 B2 K))))))
set_option maxHeartbeats 4000000 in
set_option maxRecDepth 100000 in
theorem bT_readDigit {X : XT} {ka : Nat → ClassId} {ad : Nat → Nat} (C : Cx X cX8_readDigit 3 RX8 (some .int) ka 2) {K : Int32 → FT → RT → JT → PT → BT → Prop} (hret : RetI X cX8_readDigit .int 0 0 (fun z w => ∃ F R J P B, w = wC ad ka F R J P B ∧ K z F R J P B)) (F : FT) (R : RT) (J : JT) (P : PT) (B : BT) (a1 : Int32) (h : qT_readDigit F R J P B a1 K) : G X 0 0 (wC ad ka F R J P B) 0 [(0, .ref (ad 399)), (1, .int a1)] [] := by
  unfold qT_readDigit at h
  refine g_aload_n C 0 dX8_readDigit_0 rfl ?_
  refine g_callVi0 C (kT_next (xL X) (xD X) ka ad _ _ _ _ _ _ h) miX8_next (gw_of tw2_223 rfl) (by decide) wC_o3 rfl rfl rfl (Nat.le_of_ble_eq_true rfl) z00 dX8_readDigit_1 (fun r1 w hw => ?_)
  obtain ⟨F1, R1, J1, P1, B1, rfl, h⟩ := hw
  refine g_istore_n C [(2, .int r1), (0, .ref (ad 399)), (1, .int a1)] dX8_readDigit_4 (by decide) rfl ?_
  refine g_iload_n C 0 dX8_readDigit_5 rfl ?_
  refine g_callSi0 C (kT_isDigit (xL X) (xD X) ka ad _ _ _ _ _ _ _ h) siX8_isDigit (gw_of tw2_227 rfl) (by decide) rfl rfl (Nat.le_of_ble_eq_true rfl) z00 dX8_readDigit_6 (fun r2 w hw => ?_)
  obtain ⟨F2, R2, J2, P2, B2, rfl, h⟩ := hw
  refine g_if_eq C 20 dX8_readDigit_9 (by decide) (fun c3 => ?_) (fun c3 => ?_)
  · have h := h.1 c3
    exact g_lv [1] rfl (lT_readDigit_20 C hret _ _ _ _ _ h)
  · have h := h.2 c3
    refine g_iload_n C 0 dX8_readDigit_12 rfl ?_
    refine g_bipush C (48 : Int32) dX8_readDigit_13 cb_48 ?_
    refine g_isub C dX8_readDigit_15 ?_
    refine g_iload_n C 2 dX8_readDigit_16 rfl ?_
    refine g_icmp_ge C 31 dX8_readDigit_17 (by decide) (fun c4 => ?_) (fun c4 => ?_)
    · have h := h.1 c4
      refine g_aload_n C 1 dX8_readDigit_31 rfl ?_
      refine g_dup C dX8_readDigit_32 rfl ?_
      refine Cg_X8_3_at C (v := F2 312) rfl dX8_readDigit_33 ?_
      refine g_iconst C (1 : Int32) dX8_readDigit_36 ci_1 ?_
      refine g_iadd C dX8_readDigit_37 ?_
      refine Cp_X8_3_at C dX8_readDigit_38 ?_
      refine g_iload_n C 0 dX8_readDigit_41 rfl ?_
      refine g_bipush C (48 : Int32) dX8_readDigit_42 cb_48 ?_
      refine g_isub C dX8_readDigit_44 ?_
      exact hret _ _ _ _ ⟨_, _, _, _, _, rfl, h⟩ rfl dX8_readDigit_45
    · have h := h.2 c4
      exact g_lv [1] rfl (lT_readDigit_20 C hret _ _ _ _ _ h)
set_option maxHeartbeats 4000000 in
set_option maxRecDepth 100000 in
theorem kT_readDigit (l : Launch) (D : va_G) (ka : Nat → ClassId) (ad : Nat → Nat) (F : FT) (R : RT) (J : JT) (P : PT) (B : BT) (a1 : Int32) (K : Int32 → FT → RT → JT → PT → BT → Prop) (h : qT_readDigit F R J P B a1 K) : MI l D ka yX8_readDigit cX8_readDigit 3 (some .int) 2 0 0 [.ref (ad 399), .int a1] (wC ad ka F R J P B) (fun z w => ∃ F R J P B, w = wC ad ka F R J P B ∧ K z F R J P B) := MI_of (by decide) (Nat.le_of_ble_eq_true rfl) (fun X C hroom hret => bT_readDigit C hret F R J P B a1 h)
set_option maxHeartbeats 4000000 in
set_option maxRecDepth 100000 in
theorem miX8_readDigit : MInf yX8_readDigit cX8_readDigit 3 (some .int) 1 := ⟨(gw_of tw3_12 rfl), (gw_of tp_yX8_readDigit rfl), (gw_of tw1_3 rfl), (gw_of tw3_13 rfl), by decide +kernel, by decide⟩

def qT_readNumber_79 (F : FT) (R : RT) (J : JT) (P : PT) (B : BT) (v1 : Int32) (v2 : Int32) (v3 : Int32) (K : Int32 → FT → RT → JT → PT → BT → Prop) : Prop :=
  qW_within F R J P B v3 (1 : Int32) v1 (fun r1 F1 R1 J1 P1 B1 => (¬ r1 = 0 → (K v3 F1 R1 J1 P1 B1)) ∧ (r1 = 0 → (qT_failAt F1 R1 J1 P1 B1 v2 (fun r3 F3 R3 J3 P3 B3 => K (-1 : Int32) F3 R3 J3 P3 B3))))
set_option maxHeartbeats 4000000 in
set_option maxRecDepth 100000 in
theorem lT_readNumber_79 {X : XT} {ka : Nat → ClassId} {ad : Nat → Nat} (C : Cx X cX8_readNumber 4 RX8 (some .int) ka 2) {K : Int32 → FT → RT → JT → PT → BT → Prop} (hret : RetI X cX8_readNumber .int 0 0 (fun z w => ∃ F R J P B, w = wC ad ka F R J P B ∧ K z F R J P B)) (F : FT) (R : RT) (J : JT) (P : PT) (B : BT) (v1 : Int32) (v2 : Int32) (v3 : Int32) (h : qT_readNumber_79 F R J P B v1 v2 v3 K) : G X 0 0 (wC ad ka F R J P B) 79 [(0, .ref (ad 399)), (1, .int v1), (2, .int v2), (3, .int v3)] [] := by
  unfold qT_readNumber_79 at h
  refine g_iload_n C 3 dX8_readNumber_79 rfl ?_
  refine g_iconst C (1 : Int32) dX8_readNumber_80 ci_1 ?_
  refine g_iload_n C 1 dX8_readNumber_81 rfl ?_
  refine g_callSNi0 C (kW_within (xL X) (xD X) ka ad _ _ _ _ _ _ _ _ _ h) siX9_within (Ex.n8 C.ext) (by decide) rfl rfl (Nat.le_of_ble_eq_true rfl) z00 dX8_readNumber_82 (fun r1 w hw => ?_)
  obtain ⟨F1, R1, J1, P1, B1, rfl, h⟩ := hw
  refine g_if_ne C 96 dX8_readNumber_85 (by decide) (fun c2 => ?_) (fun c2 => ?_)
  · have h := h.1 c2
    refine g_iload_n C 3 dX8_readNumber_96 rfl ?_
    exact hret _ _ _ _ ⟨_, _, _, _, _, rfl, h⟩ rfl dX8_readNumber_97
  · have h := h.2 c2
    refine g_aload_n C 0 dX8_readNumber_88 rfl ?_
    refine g_iload_n C 2 dX8_readNumber_89 rfl ?_
    refine g_callVi0 C (kT_failAt (xL X) (xD X) ka ad _ _ _ _ _ _ _ h) miX8_failAt (gw_of tw2_231 rfl) (by decide) wC_o3 rfl rfl rfl (Nat.le_of_ble_eq_true rfl) z00 dX8_readNumber_90 (fun r3 w hw => ?_)
    obtain ⟨F3, R3, J3, P3, B3, rfl, h⟩ := hw
    refine g_pop C dX8_readNumber_93 rfl ?_
    refine g_iconst C (-1 : Int32) dX8_readNumber_94 ci_m1 ?_
    exact hret _ _ _ _ ⟨_, _, _, _, _, rfl, h⟩ rfl dX8_readNumber_95
def qT_readNumber_12 : Nat → FT → RT → JT → PT → BT → Int32 → Int32 → Int32 → (Int32 → FT → RT → JT → PT → BT → Prop) → Prop
  | 0, _, _, _, _, _, _, _, _ => fun _ => False
  | n12 + 1, F, R, J, P, B, v1, v2, v3 => fun K => ((F 306) ≤ (F 312) → (qT_readNumber_79 F R J P B v1 v2 v3 K)) ∧ (¬ (F 306) ≤ (F 312) → (((3 : Int32) ≤ ((F 312) - v2) → (qT_readNumber_79 F R J P B v1 v2 v3 K)) ∧ (¬ (3 : Int32) ≤ ((F 312) - v2) → ((vp_in (F 312) 60) ∧ (qT_isDigit F R J P B (R 300 ((F 312).toNatClampNeg)) (fun r3 F3 R3 J3 P3 B3 => (r3 = 0 → (qT_readNumber_79 F3 R3 J3 P3 B3 v1 v2 v3 K)) ∧ (¬ r3 = 0 → ((vp_in (F3 312) 60) ∧ (qT_readNumber_12 n12 (upd F3 312 ((F3 312) + (1 : Int32))) R3 J3 P3 B3 v1 v2 ((v3 * (10 : Int32)) + ((R3 300 ((F3 312).toNatClampNeg)) - (48 : Int32))) K)))))))))
set_option maxHeartbeats 4000000 in
set_option maxRecDepth 100000 in
theorem lT_readNumber_12 {X : XT} {ka : Nat → ClassId} {ad : Nat → Nat} (C : Cx X cX8_readNumber 4 RX8 (some .int) ka 2) {K : Int32 → FT → RT → JT → PT → BT → Prop} (hret : RetI X cX8_readNumber .int 0 0 (fun z w => ∃ F R J P B, w = wC ad ka F R J P B ∧ K z F R J P B)) : ∀ (n : Nat) (F : FT) (R : RT) (J : JT) (P : PT) (B : BT) (v1 : Int32) (v2 : Int32) (v3 : Int32), qT_readNumber_12 n F R J P B v1 v2 v3 K → G X 0 0 (wC ad ka F R J P B) 12 [(0, .ref (ad 399)), (1, .int v1), (2, .int v2), (3, .int v3)] [] := by
  intro n
  induction n with
  | zero => intro F R J P B v1 v2 v3 h; exact h.elim
  | succ n ih =>
    intro F R J P B v1 v2 v3 h
    refine g_aload_n C 0 dX8_readNumber_12 rfl ?_
    refine Cg_X8_3_at C (v := F 312) rfl dX8_readNumber_13 ?_
    refine g_aload_n C 0 dX8_readNumber_16 rfl ?_
    refine Cg_X8_3_length C (v := F 306) rfl dX8_readNumber_17 ?_
    refine g_icmp_ge C 79 dX8_readNumber_20 (by decide) (fun c1 => ?_) (fun c1 => ?_)
    · have h := h.1 c1
      exact g_lv [0, 1, 2, 3] rfl (lT_readNumber_79 C hret _ _ _ _ _ _ _ _ h)
    · have h := h.2 c1
      refine g_aload_n C 0 dX8_readNumber_23 rfl ?_
      refine Cg_X8_3_at C (v := F 312) rfl dX8_readNumber_24 ?_
      refine g_iload_n C 2 dX8_readNumber_27 rfl ?_
      refine g_isub C dX8_readNumber_28 ?_
      refine g_iconst C (3 : Int32) dX8_readNumber_29 ci_3 ?_
      refine g_icmp_ge C 79 dX8_readNumber_30 (by decide) (fun c2 => ?_) (fun c2 => ?_)
      · have h := h.1 c2
        exact g_lv [0, 1, 2, 3] rfl (lT_readNumber_79 C hret _ _ _ _ _ _ _ _ h)
      · have h := h.2 c2
        refine g_aload_n C 0 dX8_readNumber_33 rfl ?_
        refine Cg_X8_3_letters C dX8_readNumber_34 ?_
        refine g_aload_n C 0 dX8_readNumber_37 rfl ?_
        refine Cg_X8_3_at C (v := F 312) rfl dX8_readNumber_38 ?_
        refine Ca_300 C (f := R 300) rfl _ rfl h.1 dX8_readNumber_41 ?_
        have h := h.2
        refine g_callSi0 C (kT_isDigit (xL X) (xD X) ka ad _ _ _ _ _ _ _ h) siX8_isDigit (gw_of tw2_227 rfl) (by decide) rfl rfl (Nat.le_of_ble_eq_true rfl) z00 dX8_readNumber_42 (fun r3 w hw => ?_)
        obtain ⟨F3, R3, J3, P3, B3, rfl, h⟩ := hw
        refine g_if_eq C 79 dX8_readNumber_45 (by decide) (fun c4 => ?_) (fun c4 => ?_)
        · have h := h.1 c4
          exact g_lv [0, 1, 2, 3] rfl (lT_readNumber_79 C hret _ _ _ _ _ _ _ _ h)
        · have h := h.2 c4
          refine g_iload_n C 3 dX8_readNumber_48 rfl ?_
          refine g_bipush C (10 : Int32) dX8_readNumber_49 cb_10 ?_
          refine g_imul C dX8_readNumber_51 ?_
          refine g_aload_n C 0 dX8_readNumber_52 rfl ?_
          refine Cg_X8_3_letters C dX8_readNumber_53 ?_
          refine g_aload_n C 0 dX8_readNumber_56 rfl ?_
          refine Cg_X8_3_at C (v := F3 312) rfl dX8_readNumber_57 ?_
          refine Ca_300 C (f := R3 300) rfl _ rfl h.1 dX8_readNumber_60 ?_
          have h := h.2
          refine g_bipush C (48 : Int32) dX8_readNumber_61 cb_48 ?_
          refine g_isub C dX8_readNumber_63 ?_
          refine g_iadd C dX8_readNumber_64 ?_
          refine g_istore_n C [(3, .int ((v3 * (10 : Int32)) + ((R3 300 ((F3 312).toNatClampNeg)) - (48 : Int32)))), (0, .ref (ad 399)), (1, .int v1), (2, .int v2)] dX8_readNumber_65 (by decide) rfl ?_
          refine g_aload_n C 1 dX8_readNumber_66 rfl ?_
          refine g_dup C dX8_readNumber_67 rfl ?_
          refine Cg_X8_3_at C (v := F3 312) rfl dX8_readNumber_68 ?_
          refine g_iconst C (1 : Int32) dX8_readNumber_71 ci_1 ?_
          refine g_iadd C dX8_readNumber_72 ?_
          refine Cp_X8_3_at C dX8_readNumber_73 ?_
          refine g_goto C 12 dX8_readNumber_76 (by decide) ?_
          exact g_lv [1, 2, 3, 0] rfl (ih _ _ _ _ _ _ _ _ h)
def qT_readNumber (F : FT) (R : RT) (J : JT) (P : PT) (B : BT) (a1 : Int32) (K : Int32 → FT → RT → JT → PT → BT → Prop) : Prop :=
  qT_next F R J P B (fun r1 F1 R1 J1 P1 B1 => ∃ n12, qT_readNumber_12 n12 F1 R1 J1 P1 B1 a1 (F1 312) (0 : Int32) K)
set_option maxHeartbeats 4000000 in
set_option maxRecDepth 100000 in
theorem bT_readNumber {X : XT} {ka : Nat → ClassId} {ad : Nat → Nat} (C : Cx X cX8_readNumber 4 RX8 (some .int) ka 2) {K : Int32 → FT → RT → JT → PT → BT → Prop} (hret : RetI X cX8_readNumber .int 0 0 (fun z w => ∃ F R J P B, w = wC ad ka F R J P B ∧ K z F R J P B)) (F : FT) (R : RT) (J : JT) (P : PT) (B : BT) (a1 : Int32) (h : qT_readNumber F R J P B a1 K) : G X 0 0 (wC ad ka F R J P B) 0 [(0, .ref (ad 399)), (1, .int a1)] [] := by
  unfold qT_readNumber at h
  refine g_aload_n C 0 dX8_readNumber_0 rfl ?_
  refine g_callVi0 C (kT_next (xL X) (xD X) ka ad _ _ _ _ _ _ h) miX8_next (gw_of tw2_223 rfl) (by decide) wC_o3 rfl rfl rfl (Nat.le_of_ble_eq_true rfl) z00 dX8_readNumber_1 (fun r1 w hw => ?_)
  obtain ⟨F1, R1, J1, P1, B1, rfl, h⟩ := hw
  refine g_pop C dX8_readNumber_4 rfl ?_
  refine g_aload_n C 0 dX8_readNumber_5 rfl ?_
  refine Cg_X8_3_at C (v := F1 312) rfl dX8_readNumber_6 ?_
  refine g_istore_n C [(2, .int (F1 312)), (0, .ref (ad 399)), (1, .int a1)] dX8_readNumber_9 (by decide) rfl ?_
  refine g_iconst C (0 : Int32) dX8_readNumber_10 ci_0 ?_
  refine g_istore_n C [(3, .int (0 : Int32)), (2, .int (F1 312)), (0, .ref (ad 399)), (1, .int a1)] dX8_readNumber_11 (by decide) rfl ?_
  obtain ⟨n1, h⟩ := h
  exact g_lv [2, 3, 1, 0] rfl (lT_readNumber_12 C hret n1 _ _ _ _ _ _ _ _ h)
set_option maxHeartbeats 4000000 in
set_option maxRecDepth 100000 in
theorem kT_readNumber (l : Launch) (D : va_G) (ka : Nat → ClassId) (ad : Nat → Nat) (F : FT) (R : RT) (J : JT) (P : PT) (B : BT) (a1 : Int32) (K : Int32 → FT → RT → JT → PT → BT → Prop) (h : qT_readNumber F R J P B a1 K) : MI l D ka yX8_readNumber cX8_readNumber 4 (some .int) 2 0 0 [.ref (ad 399), .int a1] (wC ad ka F R J P B) (fun z w => ∃ F R J P B, w = wC ad ka F R J P B ∧ K z F R J P B) := MI_of (by decide) (Nat.le_of_ble_eq_true rfl) (fun X C hroom hret => bT_readNumber C hret F R J P B a1 h)
set_option maxHeartbeats 4000000 in
set_option maxRecDepth 100000 in
theorem miX8_readNumber : MInf yX8_readNumber cX8_readNumber 4 (some .int) 1 := ⟨(gw_of tw2_221 rfl), (gw_of tp_yX8_readNumber rfl), (gw_of tw1_3 rfl), (gw_of tw2_222 rfl), by decide +kernel, by decide⟩

def qT_readBuilder (F : FT) (R : RT) (J : JT) (P : PT) (B : BT)  (K : Int32 → FT → RT → JT → PT → BT → Prop) : Prop :=
  qT_next F R J P B (fun r1 F1 R1 J1 P1 B1 => qT_kindOf F1 R1 J1 P1 B1 r1 (fun r2 F2 R2 J2 P2 B2 => (0 ≤ r2 → (qT_readDigit (upd F2 312 ((F2 312) + (1 : Int32))) R2 J2 P2 B2 (1 : Int32) (fun r4 F4 R4 J4 P4 B4 => (0 ≤ r4 → (qT_readDigit F4 R4 J4 P4 B4 (0 : Int32) (fun r6 F6 R6 J6 P6 B6 => (r6 < 0 → (K (0 : Int32) F6 R6 J6 P6 B6)) ∧ (¬ r6 < 0 → (((F6 309) < (4 : Int32) → ((vp_in (F6 309) 4) ∧ ((vp_in (F6 309) 4) ∧ ((vp_in (F6 309) 4) ∧ (K (1 : Int32) (upd F6 309 ((F6 309) + (1 : Int32))) (va_up (va_up (va_up R6 301 (upd (R6 301) ((F6 309).toNatClampNeg) r2)) 302 (upd (R6 302) ((F6 309).toNatClampNeg) r4)) 303 (upd (R6 303) ((F6 309).toNatClampNeg) r6)) J6 P6 B6))))) ∧ (¬ (F6 309) < (4 : Int32) → (K (0 : Int32) F6 R6 J6 P6 B6))))))) ∧ (¬ 0 ≤ r4 → (K (0 : Int32) F4 R4 J4 P4 B4))))) ∧ (¬ 0 ≤ r2 → (qT_failAt F2 R2 J2 P2 B2 (F2 312) (fun r9 F9 R9 J9 P9 B9 => isB r9 ∧ K r9 F9 R9 J9 P9 B9)))))
set_option maxHeartbeats 4000000 in
set_option maxRecDepth 100000 in
theorem bT_readBuilder {X : XT} {ka : Nat → ClassId} {ad : Nat → Nat} (C : Cx X cX8_readBuilder 4 RX8 (some .boolean) ka 3) {K : Int32 → FT → RT → JT → PT → BT → Prop} (hret : RetI X cX8_readBuilder .boolean 0 0 (fun z w => ∃ F R J P B, w = wC ad ka F R J P B ∧ K z F R J P B)) (F : FT) (R : RT) (J : JT) (P : PT) (B : BT)  (h : qT_readBuilder F R J P B  K) : G X 0 0 (wC ad ka F R J P B) 0 [(0, .ref (ad 399))] [] := by
  unfold qT_readBuilder at h
  refine g_aload_n C 0 dX8_readBuilder_0 rfl ?_
  refine g_callVi0 C (kT_next (xL X) (xD X) ka ad _ _ _ _ _ _ h) miX8_next (gw_of tw2_223 rfl) (by decide) wC_o3 rfl rfl rfl (Nat.le_of_ble_eq_true rfl) z00 dX8_readBuilder_1 (fun r1 w hw => ?_)
  obtain ⟨F1, R1, J1, P1, B1, rfl, h⟩ := hw
  refine g_callSi0 C (kT_kindOf (xL X) (xD X) ka ad _ _ _ _ _ _ _ h) siX8_kindOf (gw_of tw3_7 rfl) (by decide) rfl rfl (Nat.le_of_ble_eq_true rfl) z00 dX8_readBuilder_4 (fun r2 w hw => ?_)
  obtain ⟨F2, R2, J2, P2, B2, rfl, h⟩ := hw
  refine g_istore_n C [(1, .int r2), (0, .ref (ad 399))] dX8_readBuilder_7 (by decide) rfl ?_
  refine g_iload_n C 0 dX8_readBuilder_8 rfl ?_
  refine g_if_ge C 21 dX8_readBuilder_9 (by decide) (fun c3 => ?_) (fun c3 => ?_)
  · have h := h.1 c3
    refine g_aload_n C 1 dX8_readBuilder_21 rfl ?_
    refine g_dup C dX8_readBuilder_22 rfl ?_
    refine Cg_X8_3_at C (v := F2 312) rfl dX8_readBuilder_23 ?_
    refine g_iconst C (1 : Int32) dX8_readBuilder_26 ci_1 ?_
    refine g_iadd C dX8_readBuilder_27 ?_
    refine Cp_X8_3_at C dX8_readBuilder_28 ?_
    refine g_aload_n C 1 dX8_readBuilder_31 rfl ?_
    refine g_iconst C (1 : Int32) dX8_readBuilder_32 ci_1 ?_
    refine g_callVi0 C (kT_readDigit (xL X) (xD X) ka ad _ _ _ _ _ _ _ h) miX8_readDigit (gw_of tw3_10 rfl) (by decide) wC_o3 rfl rfl rfl (Nat.le_of_ble_eq_true rfl) z00 dX8_readBuilder_33 (fun r4 w hw => ?_)
    obtain ⟨F4, R4, J4, P4, B4, rfl, h⟩ := hw
    refine g_istore_n C [(2, .int r4), (1, .int r2), (0, .ref (ad 399))] dX8_readBuilder_36 (by decide) rfl ?_
    refine g_iload_n C 0 dX8_readBuilder_37 rfl ?_
    refine g_if_ge C 43 dX8_readBuilder_38 (by decide) (fun c5 => ?_) (fun c5 => ?_)
    · have h := h.1 c5
      refine g_aload_n C 2 dX8_readBuilder_43 rfl ?_
      refine g_iconst C (0 : Int32) dX8_readBuilder_44 ci_0 ?_
      refine g_callVi0 C (kT_readDigit (xL X) (xD X) ka ad _ _ _ _ _ _ _ h) miX8_readDigit (gw_of tw3_10 rfl) (by decide) wC_o3 rfl rfl rfl (Nat.le_of_ble_eq_true rfl) z00 dX8_readBuilder_45 (fun r6 w hw => ?_)
      obtain ⟨F6, R6, J6, P6, B6, rfl, h⟩ := hw
      refine g_istore_n C [(3, .int r6), (2, .int r4), (1, .int r2), (0, .ref (ad 399))] dX8_readBuilder_48 (by decide) rfl ?_
      refine g_iload_n C 0 dX8_readBuilder_49 rfl ?_
      refine g_if_lt C 61 dX8_readBuilder_50 (by decide) (fun c7 => ?_) (fun c7 => ?_)
      · have h := h.1 c7
        refine g_iconst C (0 : Int32) dX8_readBuilder_61 ci_0 ?_
        exact hret _ _ _ _ ⟨_, _, _, _, _, rfl, h⟩ rfl dX8_readBuilder_62
      · have h := h.2 c7
        refine g_aload_n C 3 dX8_readBuilder_53 rfl ?_
        refine Cg_X8_3_builderCount C (v := F6 309) rfl dX8_readBuilder_54 ?_
        refine g_iconst C (4 : Int32) dX8_readBuilder_57 ci_4 ?_
        refine g_icmp_lt C 63 dX8_readBuilder_58 (by decide) (fun c8 => ?_) (fun c8 => ?_)
        · have h := h.1 c8
          refine g_aload_n C 3 dX8_readBuilder_63 rfl ?_
          refine Cg_X8_3_kinds C dX8_readBuilder_64 ?_
          refine g_aload_n C 3 dX8_readBuilder_67 rfl ?_
          refine Cg_X8_3_builderCount C (v := F6 309) rfl dX8_readBuilder_68 ?_
          refine g_iload_n C 2 dX8_readBuilder_71 rfl ?_
          refine Cs_301 C (f := R6 301) rfl _ rfl h.1 dX8_readBuilder_72 ?_
          have h := h.2
          refine g_aload_n C 3 dX8_readBuilder_73 rfl ?_
          refine Cg_X8_3_paces C dX8_readBuilder_74 ?_
          refine g_aload_n C 3 dX8_readBuilder_77 rfl ?_
          refine Cg_X8_3_builderCount C (v := F6 309) rfl dX8_readBuilder_78 ?_
          refine g_iload_n C 1 dX8_readBuilder_81 rfl ?_
          refine Cs_302 (R := (va_up R6 301 (upd (R6 301) ((F6 309).toNatClampNeg) r2))) C (f := R6 302) rfl _ rfl h.1 dX8_readBuilder_82 ?_
          have h := h.2
          refine g_aload_n C 3 dX8_readBuilder_83 rfl ?_
          refine Cg_X8_3_horses C dX8_readBuilder_84 ?_
          refine g_aload_n C 3 dX8_readBuilder_87 rfl ?_
          refine Cg_X8_3_builderCount C (v := F6 309) rfl dX8_readBuilder_88 ?_
          refine g_iload_n C 0 dX8_readBuilder_91 rfl ?_
          refine Cs_303 (R := (va_up (va_up R6 301 (upd (R6 301) ((F6 309).toNatClampNeg) r2)) 302 (upd (R6 302) ((F6 309).toNatClampNeg) r4))) C (f := R6 303) rfl _ rfl h.1 dX8_readBuilder_92 ?_
          have h := h.2
          refine g_aload_n C 3 dX8_readBuilder_93 rfl ?_
          refine g_dup C dX8_readBuilder_94 rfl ?_
          refine Cg_X8_3_builderCount C (v := F6 309) rfl dX8_readBuilder_95 ?_
          refine g_iconst C (1 : Int32) dX8_readBuilder_98 ci_1 ?_
          refine g_iadd C dX8_readBuilder_99 ?_
          refine Cp_X8_3_builderCount C dX8_readBuilder_100 ?_
          refine g_iconst C (1 : Int32) dX8_readBuilder_103 ci_1 ?_
          exact hret _ _ _ _ ⟨_, _, _, _, _, rfl, h⟩ rfl dX8_readBuilder_104
        · have h := h.2 c8
          refine g_iconst C (0 : Int32) dX8_readBuilder_61 ci_0 ?_
          exact hret _ _ _ _ ⟨_, _, _, _, _, rfl, h⟩ rfl dX8_readBuilder_62
    · have h := h.2 c5
      refine g_iconst C (0 : Int32) dX8_readBuilder_41 ci_0 ?_
      exact hret _ _ _ _ ⟨_, _, _, _, _, rfl, h⟩ rfl dX8_readBuilder_42
  · have h := h.2 c3
    refine g_aload_n C 1 dX8_readBuilder_12 rfl ?_
    refine g_aload_n C 1 dX8_readBuilder_13 rfl ?_
    refine Cg_X8_3_at C (v := F2 312) rfl dX8_readBuilder_14 ?_
    refine g_callVi0 C (kT_failAt (xL X) (xD X) ka ad _ _ _ _ _ _ _ h) miX8_failAt (gw_of tw2_231 rfl) (by decide) wC_o3 rfl rfl rfl (Nat.le_of_ble_eq_true rfl) z00 dX8_readBuilder_17 (fun r9 w hw => ?_)
    obtain ⟨F9, R9, J9, P9, B9, rfl, h⟩ := hw
    exact hret _ _ _ _ ⟨_, _, _, _, _, rfl, h.2⟩ (nar_B h.1) dX8_readBuilder_20
set_option maxHeartbeats 4000000 in
set_option maxRecDepth 100000 in
theorem kT_readBuilder (l : Launch) (D : va_G) (ka : Nat → ClassId) (ad : Nat → Nat) (F : FT) (R : RT) (J : JT) (P : PT) (B : BT)  (K : Int32 → FT → RT → JT → PT → BT → Prop) (h : qT_readBuilder F R J P B  K) : MI l D ka yX8_readBuilder cX8_readBuilder 4 (some .boolean) 3 0 0 [.ref (ad 399)] (wC ad ka F R J P B) (fun z w => ∃ F R J P B, w = wC ad ka F R J P B ∧ K z F R J P B) := MI_of (by decide) (Nat.le_of_ble_eq_true rfl) (fun X C hroom hret => bT_readBuilder C hret F R J P B  h)
set_option maxHeartbeats 4000000 in
set_option maxRecDepth 100000 in
theorem miX8_readBuilder : MInf yX8_readBuilder cX8_readBuilder 4 (some .boolean) 0 := ⟨(gw_of tw3_5 rfl), (gw_of tp_yX8_readBuilder rfl), (gw_of tw1_3 rfl), (gw_of tw3_6 rfl), by decide +kernel, by decide⟩

def qT_readBuilders_32 (k2 : FT → RT → JT → PT → BT → Int32 → Prop) (F : FT) (R : RT) (J : JT) (P : PT) (B : BT) (v1 : Int32) (K : Int32 → FT → RT → JT → PT → BT → Prop) : Prop :=
  qT_readBuilder F R J P B (fun r1 F1 R1 J1 P1 B1 => (¬ r1 = 0 → (k2 F1 R1 J1 P1 B1 (v1 + (1 : Int32)))) ∧ (r1 = 0 → (K (0 : Int32) F1 R1 J1 P1 B1)))
set_option maxHeartbeats 4000000 in
set_option maxRecDepth 100000 in
theorem lT_readBuilders_32 {X : XT} {ka : Nat → ClassId} {ad : Nat → Nat} (C : Cx X cX8_readBuilders 2 RX8 (some .boolean) ka 4) {K : Int32 → FT → RT → JT → PT → BT → Prop} (hret : RetI X cX8_readBuilders .boolean 0 0 (fun z w => ∃ F R J P B, w = wC ad ka F R J P B ∧ K z F R J P B)) {k2 : FT → RT → JT → PT → BT → Int32 → Prop} (hk2 : ∀ (F : FT) (R : RT) (J : JT) (P : PT) (B : BT) (v1 : Int32), k2 F R J P B v1 → G X 0 0 (wC ad ka F R J P B) 2 [(0, .ref (ad 399)), (1, .int v1)] []) (F : FT) (R : RT) (J : JT) (P : PT) (B : BT) (v1 : Int32) (h : qT_readBuilders_32 k2 F R J P B v1 K) : G X 0 0 (wC ad ka F R J P B) 32 [(0, .ref (ad 399)), (1, .int v1)] [] := by
  unfold qT_readBuilders_32 at h
  refine g_aload_n C 0 dX8_readBuilders_32 rfl ?_
  refine g_callVi0 C (kT_readBuilder (xL X) (xD X) ka ad _ _ _ _ _ _ h) miX8_readBuilder (gw_of tw3_3 rfl) (by decide) wC_o3 rfl rfl rfl (Nat.le_of_ble_eq_true rfl) z00 dX8_readBuilders_33 (fun r1 w hw => ?_)
  obtain ⟨F1, R1, J1, P1, B1, rfl, h⟩ := hw
  refine g_if_ne C 41 dX8_readBuilders_36 (by decide) (fun c2 => ?_) (fun c2 => ?_)
  · have h := h.1 c2
    refine g_iinc C 1 (v1 + (1 : Int32)) [(1, .int (v1 + (1 : Int32))), (0, .ref (ad 399))] dX8_readBuilders_41 rfl (by rw [ci_1]) (by decide) rfl ?_
    refine g_goto C 2 dX8_readBuilders_44 (by decide) ?_
    exact g_lv [1, 0] rfl (hk2 _ _ _ _ _ _ h)
  · have h := h.2 c2
    refine g_iconst C (0 : Int32) dX8_readBuilders_39 ci_0 ?_
    exact hret _ _ _ _ ⟨_, _, _, _, _, rfl, h⟩ rfl dX8_readBuilders_40
def qT_readBuilders_2 : Nat → FT → RT → JT → PT → BT → Int32 → (Int32 → FT → RT → JT → PT → BT → Prop) → Prop
  | 0, _, _, _, _, _, _ => fun _ => False
  | n2 + 1, F, R, J, P, B, v1 => fun K => ((4 : Int32) ≤ v1 → (K (1 : Int32) F R J P B)) ∧ (¬ (4 : Int32) ≤ v1 → ((v1 ≤ 0 → (qT_readBuilders_32 (fun F R J P B v1 => qT_readBuilders_2 n2 F R J P B v1 K) F R J P B v1 K)) ∧ (¬ v1 ≤ 0 → (qT_next F R J P B (fun r3 F3 R3 J3 P3 B3 => (r3 = (44 : Int32) → (qT_readBuilders_32 (fun F R J P B v1 => qT_readBuilders_2 n2 F R J P B v1 K) (upd F3 312 ((F3 312) + (1 : Int32))) R3 J3 P3 B3 v1 K)) ∧ (¬ r3 = (44 : Int32) → (K (1 : Int32) F3 R3 J3 P3 B3)))))))
set_option maxHeartbeats 4000000 in
set_option maxRecDepth 100000 in
theorem lT_readBuilders_2 {X : XT} {ka : Nat → ClassId} {ad : Nat → Nat} (C : Cx X cX8_readBuilders 2 RX8 (some .boolean) ka 4) {K : Int32 → FT → RT → JT → PT → BT → Prop} (hret : RetI X cX8_readBuilders .boolean 0 0 (fun z w => ∃ F R J P B, w = wC ad ka F R J P B ∧ K z F R J P B)) : ∀ (n : Nat) (F : FT) (R : RT) (J : JT) (P : PT) (B : BT) (v1 : Int32), qT_readBuilders_2 n F R J P B v1 K → G X 0 0 (wC ad ka F R J P B) 2 [(0, .ref (ad 399)), (1, .int v1)] [] := by
  intro n
  induction n with
  | zero => intro F R J P B v1 h; exact h.elim
  | succ n ih =>
    intro F R J P B v1 h
    refine g_iload_n C 1 dX8_readBuilders_2 rfl ?_
    refine g_iconst C (4 : Int32) dX8_readBuilders_3 ci_4 ?_
    refine g_icmp_ge C 47 dX8_readBuilders_4 (by decide) (fun c1 => ?_) (fun c1 => ?_)
    · have h := h.1 c1
      refine g_iconst C (1 : Int32) dX8_readBuilders_47 ci_1 ?_
      exact hret _ _ _ _ ⟨_, _, _, _, _, rfl, h⟩ rfl dX8_readBuilders_48
    · have h := h.2 c1
      refine g_iload_n C 1 dX8_readBuilders_7 rfl ?_
      refine g_if_le C 32 dX8_readBuilders_8 (by decide) (fun c2 => ?_) (fun c2 => ?_)
      · have h := h.1 c2
        exact g_lv [0, 1] rfl (lT_readBuilders_32 C hret (fun F R J P B v1 h => ih F R J P B v1 h) _ _ _ _ _ _ h)
      · have h := h.2 c2
        refine g_aload_n C 0 dX8_readBuilders_11 rfl ?_
        refine g_callVi0 C (kT_next (xL X) (xD X) ka ad _ _ _ _ _ _ h) miX8_next (gw_of tw2_223 rfl) (by decide) wC_o3 rfl rfl rfl (Nat.le_of_ble_eq_true rfl) z00 dX8_readBuilders_12 (fun r3 w hw => ?_)
        obtain ⟨F3, R3, J3, P3, B3, rfl, h⟩ := hw
        refine g_bipush C (44 : Int32) dX8_readBuilders_15 cb_44 ?_
        refine g_icmp_eq C 22 dX8_readBuilders_17 (by decide) (fun c4 => ?_) (fun c4 => ?_)
        · have h := h.1 c4
          refine g_aload_n C 0 dX8_readBuilders_22 rfl ?_
          refine g_dup C dX8_readBuilders_23 rfl ?_
          refine Cg_X8_3_at C (v := F3 312) rfl dX8_readBuilders_24 ?_
          refine g_iconst C (1 : Int32) dX8_readBuilders_27 ci_1 ?_
          refine g_iadd C dX8_readBuilders_28 ?_
          refine Cp_X8_3_at C dX8_readBuilders_29 ?_
          exact g_lv [0, 1] rfl (lT_readBuilders_32 C hret (fun F R J P B v1 h => ih F R J P B v1 h) _ _ _ _ _ _ h)
        · have h := h.2 c4
          refine g_iconst C (1 : Int32) dX8_readBuilders_20 ci_1 ?_
          exact hret _ _ _ _ ⟨_, _, _, _, _, rfl, h⟩ rfl dX8_readBuilders_21
def qT_readBuilders (F : FT) (R : RT) (J : JT) (P : PT) (B : BT)  (K : Int32 → FT → RT → JT → PT → BT → Prop) : Prop :=
  ∃ n2, qT_readBuilders_2 n2 F R J P B (0 : Int32) K
set_option maxHeartbeats 4000000 in
set_option maxRecDepth 100000 in
theorem bT_readBuilders {X : XT} {ka : Nat → ClassId} {ad : Nat → Nat} (C : Cx X cX8_readBuilders 2 RX8 (some .boolean) ka 4) {K : Int32 → FT → RT → JT → PT → BT → Prop} (hret : RetI X cX8_readBuilders .boolean 0 0 (fun z w => ∃ F R J P B, w = wC ad ka F R J P B ∧ K z F R J P B)) (F : FT) (R : RT) (J : JT) (P : PT) (B : BT)  (h : qT_readBuilders F R J P B  K) : G X 0 0 (wC ad ka F R J P B) 0 [(0, .ref (ad 399))] [] := by
  unfold qT_readBuilders at h
  refine g_iconst C (0 : Int32) dX8_readBuilders_0 ci_0 ?_
  refine g_istore_n C [(1, .int (0 : Int32)), (0, .ref (ad 399))] dX8_readBuilders_1 (by decide) rfl ?_
  obtain ⟨n1, h⟩ := h
  exact g_lv [1, 0] rfl (lT_readBuilders_2 C hret n1 _ _ _ _ _ _ h)
set_option maxHeartbeats 4000000 in
set_option maxRecDepth 100000 in
theorem kT_readBuilders (l : Launch) (D : va_G) (ka : Nat → ClassId) (ad : Nat → Nat) (F : FT) (R : RT) (J : JT) (P : PT) (B : BT)  (K : Int32 → FT → RT → JT → PT → BT → Prop) (h : qT_readBuilders F R J P B  K) : MI l D ka yX8_readBuilders cX8_readBuilders 2 (some .boolean) 4 0 0 [.ref (ad 399)] (wC ad ka F R J P B) (fun z w => ∃ F R J P B, w = wC ad ka F R J P B ∧ K z F R J P B) := MI_of (by decide) (Nat.le_of_ble_eq_true rfl) (fun X C hroom hret => bT_readBuilders C hret F R J P B  h)
set_option maxHeartbeats 4000000 in
set_option maxRecDepth 100000 in
theorem miX8_readBuilders : MInf yX8_readBuilders cX8_readBuilders 2 (some .boolean) 0 := ⟨(gw_of tw3_1 rfl), (gw_of tp_yX8_readBuilders rfl), (gw_of tw1_3 rfl), (gw_of tw3_2 rfl), by decide +kernel, by decide⟩

def qT_readHindrance_78 (F : FT) (R : RT) (J : JT) (P : PT) (B : BT) (s0 : Int32) (s1 : Int32) (K : Int32 → FT → RT → JT → PT → BT → Prop) : Prop :=
  (vp_in s1 6) ∧ (K (1 : Int32) (upd F 310 ((F 310) + (1 : Int32))) (va_up R 305 (upd (R 305) s1.toNatClampNeg s0)) J P B)
set_option maxHeartbeats 4000000 in
set_option maxRecDepth 100000 in
theorem lT_readHindrance_78 {X : XT} {ka : Nat → ClassId} {ad : Nat → Nat} (C : Cx X cX8_readHindrance 4 RX8 (some .boolean) ka 3) {K : Int32 → FT → RT → JT → PT → BT → Prop} (hret : RetI X cX8_readHindrance .boolean 0 0 (fun z w => ∃ F R J P B, w = wC ad ka F R J P B ∧ K z F R J P B)) (F : FT) (R : RT) (J : JT) (P : PT) (B : BT) (s0 : Int32) (s1 : Int32) (h : qT_readHindrance_78 F R J P B s0 s1 K) : G X 0 0 (wC ad ka F R J P B) 78 [(0, .ref (ad 399))] [.int s0, .int s1, .ref (ad 305)] := by
  unfold qT_readHindrance_78 at h
  refine Cs_305 C (f := R 305) rfl _ rfl h.1 dX8_readHindrance_78 ?_
  have h := h.2
  refine g_aload_n C 0 dX8_readHindrance_79 rfl ?_
  refine g_dup C dX8_readHindrance_80 rfl ?_
  refine Cg_X8_3_hindranceCount C (v := F 310) rfl dX8_readHindrance_81 ?_
  refine g_iconst C (1 : Int32) dX8_readHindrance_84 ci_1 ?_
  refine g_iadd C dX8_readHindrance_85 ?_
  refine Cp_X8_3_hindranceCount C dX8_readHindrance_86 ?_
  refine g_iconst C (1 : Int32) dX8_readHindrance_89 ci_1 ?_
  exact hret _ _ _ _ ⟨_, _, _, _, _, rfl, h⟩ rfl dX8_readHindrance_90
def qT_readHindrance_50 (F : FT) (R : RT) (J : JT) (P : PT) (B : BT) (v1 : Int32) (v2 : Int32) (v3 : Int32) (K : Int32 → FT → RT → JT → PT → BT → Prop) : Prop :=
  (vp_in (F 310) 6) ∧ ((v3 = 0 → (qT_readHindrance_78 F (va_up R 304 (upd (R 304) ((F 310).toNatClampNeg) v1)) J P B (-4 : Int32) (F 310) K)) ∧ (¬ v3 = 0 → (qT_readHindrance_78 F (va_up R 304 (upd (R 304) ((F 310).toNatClampNeg) v1)) J P B v2 (F 310) K)))
set_option maxHeartbeats 4000000 in
set_option maxRecDepth 100000 in
theorem lT_readHindrance_50 {X : XT} {ka : Nat → ClassId} {ad : Nat → Nat} (C : Cx X cX8_readHindrance 4 RX8 (some .boolean) ka 3) {K : Int32 → FT → RT → JT → PT → BT → Prop} (hret : RetI X cX8_readHindrance .boolean 0 0 (fun z w => ∃ F R J P B, w = wC ad ka F R J P B ∧ K z F R J P B)) (F : FT) (R : RT) (J : JT) (P : PT) (B : BT) (v1 : Int32) (v2 : Int32) (v3 : Int32) (h : qT_readHindrance_50 F R J P B v1 v2 v3 K) : G X 0 0 (wC ad ka F R J P B) 50 [(0, .ref (ad 399)), (1, .int v1), (2, .int v2), (3, .int v3)] [] := by
  unfold qT_readHindrance_50 at h
  refine g_aload_n C 0 dX8_readHindrance_50 rfl ?_
  refine Cg_X8_3_costs C dX8_readHindrance_51 ?_
  refine g_aload_n C 0 dX8_readHindrance_54 rfl ?_
  refine Cg_X8_3_hindranceCount C (v := F 310) rfl dX8_readHindrance_55 ?_
  refine g_iload_n C 1 dX8_readHindrance_58 rfl ?_
  refine Cs_304 C (f := R 304) rfl _ rfl h.1 dX8_readHindrance_59 ?_
  have h := h.2
  refine g_aload_n C 0 dX8_readHindrance_60 rfl ?_
  refine Cg_X8_3_oaths C dX8_readHindrance_61 ?_
  refine g_aload_n C 0 dX8_readHindrance_64 rfl ?_
  refine Cg_X8_3_hindranceCount C (v := F 310) rfl dX8_readHindrance_65 ?_
  refine g_iload_n C 3 dX8_readHindrance_68 rfl ?_
  refine g_if_eq C 76 dX8_readHindrance_69 (by decide) (fun c1 => ?_) (fun c1 => ?_)
  · have h := h.1 c1
    refine g_bipush C (-4 : Int32) dX8_readHindrance_76 cb_m4 ?_
    exact g_lv [0] rfl (lT_readHindrance_78 C hret _ _ _ _ _ _ _ h)
  · have h := h.2 c1
    refine g_iload_n C 2 dX8_readHindrance_72 rfl ?_
    refine g_goto C 78 dX8_readHindrance_73 (by decide) ?_
    exact g_lv [0] rfl (lT_readHindrance_78 C hret _ _ _ _ _ _ _ h)
def qT_readHindrance (F : FT) (R : RT) (J : JT) (P : PT) (B : BT)  (K : Int32 → FT → RT → JT → PT → BT → Prop) : Prop :=
  qT_readDigit F R J P B (1 : Int32) (fun r1 F1 R1 J1 P1 B1 => (r1 < 0 → (K (0 : Int32) F1 R1 J1 P1 B1)) ∧ (¬ r1 < 0 → (((F1 310) < (6 : Int32) → (qT_next F1 R1 J1 P1 B1 (fun r4 F4 R4 J4 P4 B4 => qW_within F4 R4 J4 P4 B4 (r4 - (97 : Int32)) (0 : Int32) (3 : Int32) (fun r5 F5 R5 J5 P5 B5 => (r5 = 0 → (qT_readHindrance_50 F5 R5 J5 P5 B5 r1 (r4 - (97 : Int32)) r5 K)) ∧ (¬ r5 = 0 → (qT_readHindrance_50 (upd F5 312 ((F5 312) + (1 : Int32))) R5 J5 P5 B5 r1 (r4 - (97 : Int32)) r5 K)))))) ∧ (¬ (F1 310) < (6 : Int32) → (K (0 : Int32) F1 R1 J1 P1 B1)))))
set_option maxHeartbeats 4000000 in
set_option maxRecDepth 100000 in
theorem bT_readHindrance {X : XT} {ka : Nat → ClassId} {ad : Nat → Nat} (C : Cx X cX8_readHindrance 4 RX8 (some .boolean) ka 3) {K : Int32 → FT → RT → JT → PT → BT → Prop} (hret : RetI X cX8_readHindrance .boolean 0 0 (fun z w => ∃ F R J P B, w = wC ad ka F R J P B ∧ K z F R J P B)) (F : FT) (R : RT) (J : JT) (P : PT) (B : BT)  (h : qT_readHindrance F R J P B  K) : G X 0 0 (wC ad ka F R J P B) 0 [(0, .ref (ad 399))] [] := by
  unfold qT_readHindrance at h
  refine g_aload_n C 0 dX8_readHindrance_0 rfl ?_
  refine g_iconst C (1 : Int32) dX8_readHindrance_1 ci_1 ?_
  refine g_callVi0 C (kT_readDigit (xL X) (xD X) ka ad _ _ _ _ _ _ _ h) miX8_readDigit (gw_of tw3_10 rfl) (by decide) wC_o3 rfl rfl rfl (Nat.le_of_ble_eq_true rfl) z00 dX8_readHindrance_2 (fun r1 w hw => ?_)
  obtain ⟨F1, R1, J1, P1, B1, rfl, h⟩ := hw
  refine g_istore_n C [(1, .int r1), (0, .ref (ad 399))] dX8_readHindrance_5 (by decide) rfl ?_
  refine g_iload_n C 0 dX8_readHindrance_6 rfl ?_
  refine g_if_lt C 19 dX8_readHindrance_7 (by decide) (fun c2 => ?_) (fun c2 => ?_)
  · have h := h.1 c2
    refine g_iconst C (0 : Int32) dX8_readHindrance_19 ci_0 ?_
    exact hret _ _ _ _ ⟨_, _, _, _, _, rfl, h⟩ rfl dX8_readHindrance_20
  · have h := h.2 c2
    refine g_aload_n C 1 dX8_readHindrance_10 rfl ?_
    refine Cg_X8_3_hindranceCount C (v := F1 310) rfl dX8_readHindrance_11 ?_
    refine g_bipush C (6 : Int32) dX8_readHindrance_14 cb_6 ?_
    refine g_icmp_lt C 21 dX8_readHindrance_16 (by decide) (fun c3 => ?_) (fun c3 => ?_)
    · have h := h.1 c3
      refine g_aload_n C 1 dX8_readHindrance_21 rfl ?_
      refine g_callVi0 C (kT_next (xL X) (xD X) ka ad _ _ _ _ _ _ h) miX8_next (gw_of tw2_223 rfl) (by decide) wC_o3 rfl rfl rfl (Nat.le_of_ble_eq_true rfl) z00 dX8_readHindrance_22 (fun r4 w hw => ?_)
      obtain ⟨F4, R4, J4, P4, B4, rfl, h⟩ := hw
      refine g_bipush C (97 : Int32) dX8_readHindrance_25 cb_97 ?_
      refine g_isub C dX8_readHindrance_27 ?_
      refine g_istore_n C [(2, .int (r4 - (97 : Int32))), (1, .int r1), (0, .ref (ad 399))] dX8_readHindrance_28 (by decide) rfl ?_
      refine g_iload_n C 0 dX8_readHindrance_29 rfl ?_
      refine g_iconst C (0 : Int32) dX8_readHindrance_30 ci_0 ?_
      refine g_iconst C (3 : Int32) dX8_readHindrance_31 ci_3 ?_
      refine g_callSNi0 C (kW_within (xL X) (xD X) ka ad _ _ _ _ _ _ _ _ _ h) siX9_within (Ex.n8 C.ext) (by decide) rfl rfl (Nat.le_of_ble_eq_true rfl) z00 dX8_readHindrance_32 (fun r5 w hw => ?_)
      obtain ⟨F5, R5, J5, P5, B5, rfl, h⟩ := hw
      refine g_istore_n C [(3, .int r5), (2, .int (r4 - (97 : Int32))), (1, .int r1), (0, .ref (ad 399))] dX8_readHindrance_35 (by decide) rfl ?_
      refine g_iload_n C 0 dX8_readHindrance_36 rfl ?_
      refine g_if_eq C 50 dX8_readHindrance_37 (by decide) (fun c6 => ?_) (fun c6 => ?_)
      · have h := h.1 c6
        exact g_lv [3, 2, 1, 0] rfl (lT_readHindrance_50 C hret _ _ _ _ _ _ _ _ h)
      · have h := h.2 c6
        refine g_aload_n C 3 dX8_readHindrance_40 rfl ?_
        refine g_dup C dX8_readHindrance_41 rfl ?_
        refine Cg_X8_3_at C (v := F5 312) rfl dX8_readHindrance_42 ?_
        refine g_iconst C (1 : Int32) dX8_readHindrance_45 ci_1 ?_
        refine g_iadd C dX8_readHindrance_46 ?_
        refine Cp_X8_3_at C dX8_readHindrance_47 ?_
        exact g_lv [3, 2, 1, 0] rfl (lT_readHindrance_50 C hret _ _ _ _ _ _ _ _ h)
    · have h := h.2 c3
      refine g_iconst C (0 : Int32) dX8_readHindrance_19 ci_0 ?_
      exact hret _ _ _ _ ⟨_, _, _, _, _, rfl, h⟩ rfl dX8_readHindrance_20
set_option maxHeartbeats 4000000 in
set_option maxRecDepth 100000 in
theorem kT_readHindrance (l : Launch) (D : va_G) (ka : Nat → ClassId) (ad : Nat → Nat) (F : FT) (R : RT) (J : JT) (P : PT) (B : BT)  (K : Int32 → FT → RT → JT → PT → BT → Prop) (h : qT_readHindrance F R J P B  K) : MI l D ka yX8_readHindrance cX8_readHindrance 4 (some .boolean) 3 0 0 [.ref (ad 399)] (wC ad ka F R J P B) (fun z w => ∃ F R J P B, w = wC ad ka F R J P B ∧ K z F R J P B) := MI_of (by decide) (Nat.le_of_ble_eq_true rfl) (fun X C hroom hret => bT_readHindrance C hret F R J P B  h)
set_option maxHeartbeats 4000000 in
set_option maxRecDepth 100000 in
theorem miX8_readHindrance : MInf yX8_readHindrance cX8_readHindrance 4 (some .boolean) 0 := ⟨(gw_of tw3_20 rfl), (gw_of tp_yX8_readHindrance rfl), (gw_of tw1_3 rfl), (gw_of tw3_21 rfl), by decide +kernel, by decide⟩

def qT_readHindrances_23 (k2 : FT → RT → JT → PT → BT → Int32 → Prop) (F : FT) (R : RT) (J : JT) (P : PT) (B : BT) (v1 : Int32) (K : Int32 → FT → RT → JT → PT → BT → Prop) : Prop :=
  qT_readHindrance F R J P B (fun r1 F1 R1 J1 P1 B1 => (¬ r1 = 0 → (qT_next F1 R1 J1 P1 B1 (fun r3 F3 R3 J3 P3 B3 => (¬ r3 = 0 → (k2 F3 R3 J3 P3 B3 (v1 + (1 : Int32)))) ∧ (r3 = 0 → (K (1 : Int32) F3 R3 J3 P3 B3))))) ∧ (r1 = 0 → (K (0 : Int32) F1 R1 J1 P1 B1)))
set_option maxHeartbeats 4000000 in
set_option maxRecDepth 100000 in
theorem lT_readHindrances_23 {X : XT} {ka : Nat → ClassId} {ad : Nat → Nat} (C : Cx X cX8_readHindrances 2 RX8 (some .boolean) ka 4) {K : Int32 → FT → RT → JT → PT → BT → Prop} (hret : RetI X cX8_readHindrances .boolean 0 0 (fun z w => ∃ F R J P B, w = wC ad ka F R J P B ∧ K z F R J P B)) {k2 : FT → RT → JT → PT → BT → Int32 → Prop} (hk2 : ∀ (F : FT) (R : RT) (J : JT) (P : PT) (B : BT) (v1 : Int32), k2 F R J P B v1 → G X 0 0 (wC ad ka F R J P B) 2 [(0, .ref (ad 399)), (1, .int v1)] []) (F : FT) (R : RT) (J : JT) (P : PT) (B : BT) (v1 : Int32) (h : qT_readHindrances_23 k2 F R J P B v1 K) : G X 0 0 (wC ad ka F R J P B) 23 [(0, .ref (ad 399)), (1, .int v1)] [] := by
  unfold qT_readHindrances_23 at h
  refine g_aload_n C 0 dX8_readHindrances_23 rfl ?_
  refine g_callVi0 C (kT_readHindrance (xL X) (xD X) ka ad _ _ _ _ _ _ h) miX8_readHindrance (gw_of tw3_18 rfl) (by decide) wC_o3 rfl rfl rfl (Nat.le_of_ble_eq_true rfl) z00 dX8_readHindrances_24 (fun r1 w hw => ?_)
  obtain ⟨F1, R1, J1, P1, B1, rfl, h⟩ := hw
  refine g_if_ne C 32 dX8_readHindrances_27 (by decide) (fun c2 => ?_) (fun c2 => ?_)
  · have h := h.1 c2
    refine g_aload_n C 0 dX8_readHindrances_32 rfl ?_
    refine g_callVi0 C (kT_next (xL X) (xD X) ka ad _ _ _ _ _ _ h) miX8_next (gw_of tw2_223 rfl) (by decide) wC_o3 rfl rfl rfl (Nat.le_of_ble_eq_true rfl) z00 dX8_readHindrances_33 (fun r3 w hw => ?_)
    obtain ⟨F3, R3, J3, P3, B3, rfl, h⟩ := hw
    refine g_if_ne C 41 dX8_readHindrances_36 (by decide) (fun c4 => ?_) (fun c4 => ?_)
    · have h := h.1 c4
      refine g_iinc C 1 (v1 + (1 : Int32)) [(1, .int (v1 + (1 : Int32))), (0, .ref (ad 399))] dX8_readHindrances_41 rfl (by rw [ci_1]) (by decide) rfl ?_
      refine g_goto C 2 dX8_readHindrances_44 (by decide) ?_
      exact g_lv [1, 0] rfl (hk2 _ _ _ _ _ _ h)
    · have h := h.2 c4
      refine g_iconst C (1 : Int32) dX8_readHindrances_39 ci_1 ?_
      exact hret _ _ _ _ ⟨_, _, _, _, _, rfl, h⟩ rfl dX8_readHindrances_40
  · have h := h.2 c2
    refine g_iconst C (0 : Int32) dX8_readHindrances_30 ci_0 ?_
    exact hret _ _ _ _ ⟨_, _, _, _, _, rfl, h⟩ rfl dX8_readHindrances_31
def qT_readHindrances_2 : Nat → FT → RT → JT → PT → BT → Int32 → (Int32 → FT → RT → JT → PT → BT → Prop) → Prop
  | 0, _, _, _, _, _, _ => fun _ => False
  | n2 + 1, F, R, J, P, B, v1 => fun K => ((6 : Int32) ≤ v1 → (qT_failAt F R J P B (F 312) (fun r2 F2 R2 J2 P2 B2 => isB r2 ∧ K r2 F2 R2 J2 P2 B2))) ∧ (¬ (6 : Int32) ≤ v1 → ((v1 ≤ 0 → (qT_readHindrances_23 (fun F R J P B v1 => qT_readHindrances_2 n2 F R J P B v1 K) F R J P B v1 K)) ∧ (¬ v1 ≤ 0 → (qT_readSign F R J P B (44 : Int32) (fun r4 F4 R4 J4 P4 B4 => (¬ r4 = 0 → (qT_readHindrances_23 (fun F R J P B v1 => qT_readHindrances_2 n2 F R J P B v1 K) F4 R4 J4 P4 B4 v1 K)) ∧ (r4 = 0 → (K (0 : Int32) F4 R4 J4 P4 B4)))))))
set_option maxHeartbeats 4000000 in
set_option maxRecDepth 100000 in
theorem lT_readHindrances_2 {X : XT} {ka : Nat → ClassId} {ad : Nat → Nat} (C : Cx X cX8_readHindrances 2 RX8 (some .boolean) ka 4) {K : Int32 → FT → RT → JT → PT → BT → Prop} (hret : RetI X cX8_readHindrances .boolean 0 0 (fun z w => ∃ F R J P B, w = wC ad ka F R J P B ∧ K z F R J P B)) : ∀ (n : Nat) (F : FT) (R : RT) (J : JT) (P : PT) (B : BT) (v1 : Int32), qT_readHindrances_2 n F R J P B v1 K → G X 0 0 (wC ad ka F R J P B) 2 [(0, .ref (ad 399)), (1, .int v1)] [] := by
  intro n
  induction n with
  | zero => intro F R J P B v1 h; exact h.elim
  | succ n ih =>
    intro F R J P B v1 h
    refine g_iload_n C 1 dX8_readHindrances_2 rfl ?_
    refine g_bipush C (6 : Int32) dX8_readHindrances_3 cb_6 ?_
    refine g_icmp_ge C 47 dX8_readHindrances_5 (by decide) (fun c1 => ?_) (fun c1 => ?_)
    · have h := h.1 c1
      refine g_aload_n C 0 dX8_readHindrances_47 rfl ?_
      refine g_aload_n C 0 dX8_readHindrances_48 rfl ?_
      refine Cg_X8_3_at C (v := F 312) rfl dX8_readHindrances_49 ?_
      refine g_callVi0 C (kT_failAt (xL X) (xD X) ka ad _ _ _ _ _ _ _ h) miX8_failAt (gw_of tw2_231 rfl) (by decide) wC_o3 rfl rfl rfl (Nat.le_of_ble_eq_true rfl) z00 dX8_readHindrances_52 (fun r2 w hw => ?_)
      obtain ⟨F2, R2, J2, P2, B2, rfl, h⟩ := hw
      exact hret _ _ _ _ ⟨_, _, _, _, _, rfl, h.2⟩ (nar_B h.1) dX8_readHindrances_55
    · have h := h.2 c1
      refine g_iload_n C 1 dX8_readHindrances_8 rfl ?_
      refine g_if_le C 23 dX8_readHindrances_9 (by decide) (fun c3 => ?_) (fun c3 => ?_)
      · have h := h.1 c3
        exact g_lv [0, 1] rfl (lT_readHindrances_23 C hret (fun F R J P B v1 h => ih F R J P B v1 h) _ _ _ _ _ _ h)
      · have h := h.2 c3
        refine g_aload_n C 0 dX8_readHindrances_12 rfl ?_
        refine g_bipush C (44 : Int32) dX8_readHindrances_13 cb_44 ?_
        refine g_callVi0 C (kT_readSign (xL X) (xD X) ka ad _ _ _ _ _ _ _ h) miX8_readSign (gw_of tw2_235 rfl) (by decide) wC_o3 rfl rfl rfl (Nat.le_of_ble_eq_true rfl) z00 dX8_readHindrances_15 (fun r4 w hw => ?_)
        obtain ⟨F4, R4, J4, P4, B4, rfl, h⟩ := hw
        refine g_if_ne C 23 dX8_readHindrances_18 (by decide) (fun c5 => ?_) (fun c5 => ?_)
        · have h := h.1 c5
          exact g_lv [0, 1] rfl (lT_readHindrances_23 C hret (fun F R J P B v1 h => ih F R J P B v1 h) _ _ _ _ _ _ h)
        · have h := h.2 c5
          refine g_iconst C (0 : Int32) dX8_readHindrances_21 ci_0 ?_
          exact hret _ _ _ _ ⟨_, _, _, _, _, rfl, h⟩ rfl dX8_readHindrances_22
def qT_readHindrances (F : FT) (R : RT) (J : JT) (P : PT) (B : BT)  (K : Int32 → FT → RT → JT → PT → BT → Prop) : Prop :=
  ∃ n2, qT_readHindrances_2 n2 F R J P B (0 : Int32) K
set_option maxHeartbeats 4000000 in
set_option maxRecDepth 100000 in
theorem bT_readHindrances {X : XT} {ka : Nat → ClassId} {ad : Nat → Nat} (C : Cx X cX8_readHindrances 2 RX8 (some .boolean) ka 4) {K : Int32 → FT → RT → JT → PT → BT → Prop} (hret : RetI X cX8_readHindrances .boolean 0 0 (fun z w => ∃ F R J P B, w = wC ad ka F R J P B ∧ K z F R J P B)) (F : FT) (R : RT) (J : JT) (P : PT) (B : BT)  (h : qT_readHindrances F R J P B  K) : G X 0 0 (wC ad ka F R J P B) 0 [(0, .ref (ad 399))] [] := by
  unfold qT_readHindrances at h
  refine g_iconst C (0 : Int32) dX8_readHindrances_0 ci_0 ?_
  refine g_istore_n C [(1, .int (0 : Int32)), (0, .ref (ad 399))] dX8_readHindrances_1 (by decide) rfl ?_
  obtain ⟨n1, h⟩ := h
  exact g_lv [1, 0] rfl (lT_readHindrances_2 C hret n1 _ _ _ _ _ _ h)
set_option maxHeartbeats 4000000 in
set_option maxRecDepth 100000 in
theorem kT_readHindrances (l : Launch) (D : va_G) (ka : Nat → ClassId) (ad : Nat → Nat) (F : FT) (R : RT) (J : JT) (P : PT) (B : BT)  (K : Int32 → FT → RT → JT → PT → BT → Prop) (h : qT_readHindrances F R J P B  K) : MI l D ka yX8_readHindrances cX8_readHindrances 2 (some .boolean) 4 0 0 [.ref (ad 399)] (wC ad ka F R J P B) (fun z w => ∃ F R J P B, w = wC ad ka F R J P B ∧ K z F R J P B) := MI_of (by decide) (Nat.le_of_ble_eq_true rfl) (fun X C hroom hret => bT_readHindrances C hret F R J P B  h)
set_option maxHeartbeats 4000000 in
set_option maxRecDepth 100000 in
theorem miX8_readHindrances : MInf yX8_readHindrances cX8_readHindrances 2 (some .boolean) 0 := ⟨(gw_of tw3_16 rfl), (gw_of tp_yX8_readHindrances rfl), (gw_of tw1_3 rfl), (gw_of tw3_17 rfl), by decide +kernel, by decide⟩

def qT_read (F : FT) (R : RT) (J : JT) (P : PT) (B : BT)  (K : Int32 → FT → RT → JT → PT → BT → Prop) : Prop :=
  qT_readNumber (upd (upd (upd F 312 (0 : Int32)) 309 (0 : Int32)) 310 (0 : Int32)) R J P B (200 : Int32) (fun r1 F1 R1 J1 P1 B1 => (r1 < 0 → (K (0 : Int32) (upd F1 307 r1) R1 J1 P1 B1)) ∧ (¬ r1 < 0 → (qT_readSign (upd F1 307 r1) R1 J1 P1 B1 (44 : Int32) (fun r3 F3 R3 J3 P3 B3 => (¬ r3 = 0 → (qT_readNumber F3 R3 J3 P3 B3 (40 : Int32) (fun r5 F5 R5 J5 P5 B5 => (r5 < 0 → (K (0 : Int32) (upd F5 308 r5) R5 J5 P5 B5)) ∧ (¬ r5 < 0 → (qT_readSign (upd F5 308 r5) R5 J5 P5 B5 (59 : Int32) (fun r7 F7 R7 J7 P7 B7 => (r7 = 0 → (K (0 : Int32) F7 R7 J7 P7 B7)) ∧ (¬ r7 = 0 → (qT_readBuilders F7 R7 J7 P7 B7 (fun r9 F9 R9 J9 P9 B9 => (¬ r9 = 0 → (qT_next F9 R9 J9 P9 B9 (fun r11 F11 R11 J11 P11 B11 => (¬ r11 = 0 → (qT_readSign F11 R11 J11 P11 B11 (59 : Int32) (fun r13 F13 R13 J13 P13 B13 => (r13 = 0 → (K (0 : Int32) F13 R13 J13 P13 B13)) ∧ (¬ r13 = 0 → (qT_readHindrances F13 R13 J13 P13 B13 (fun r15 F15 R15 J15 P15 B15 => (r15 = 0 → (K (0 : Int32) F15 R15 J15 P15 B15)) ∧ (¬ r15 = 0 → (K (1 : Int32) F15 R15 J15 P15 B15)))))))) ∧ (r11 = 0 → (K (1 : Int32) F11 R11 J11 P11 B11))))) ∧ (r9 = 0 → (K (0 : Int32) F9 R9 J9 P9 B9))))))))))) ∧ (r3 = 0 → (K (0 : Int32) F3 R3 J3 P3 B3))))))
set_option maxHeartbeats 4000000 in
set_option maxRecDepth 100000 in
theorem bT_read {X : XT} {ka : Nat → ClassId} {ad : Nat → Nat} (C : Cx X cX8_read 1 RX8 (some .boolean) ka 5) {K : Int32 → FT → RT → JT → PT → BT → Prop} (hret : RetI X cX8_read .boolean 0 0 (fun z w => ∃ F R J P B, w = wC ad ka F R J P B ∧ K z F R J P B)) (F : FT) (R : RT) (J : JT) (P : PT) (B : BT)  (h : qT_read F R J P B  K) : G X 0 0 (wC ad ka F R J P B) 0 [(0, .ref (ad 399))] [] := by
  unfold qT_read at h
  refine g_aload_n C 0 dX8_read_0 rfl ?_
  refine g_iconst C (0 : Int32) dX8_read_1 ci_0 ?_
  refine Cp_X8_3_at C dX8_read_2 ?_
  refine g_aload_n C 0 dX8_read_5 rfl ?_
  refine g_iconst C (0 : Int32) dX8_read_6 ci_0 ?_
  refine Cp_X8_3_builderCount C dX8_read_7 ?_
  refine g_aload_n C 0 dX8_read_10 rfl ?_
  refine g_iconst C (0 : Int32) dX8_read_11 ci_0 ?_
  refine Cp_X8_3_hindranceCount C dX8_read_12 ?_
  refine g_aload_n C 0 dX8_read_15 rfl ?_
  refine g_aload_n C 0 dX8_read_16 rfl ?_
  refine g_sipush C (200 : Int32) dX8_read_17 cs_200 ?_
  refine g_callVi0 C (kT_readNumber (xL X) (xD X) ka ad _ _ _ _ _ _ _ h) miX8_readNumber (gw_of tw2_219 rfl) (by decide) wC_o3 rfl rfl rfl (Nat.le_of_ble_eq_true rfl) z00 dX8_read_20 (fun r1 w hw => ?_)
  obtain ⟨F1, R1, J1, P1, B1, rfl, h⟩ := hw
  refine Cp_X8_3_stones C dX8_read_23 ?_
  refine g_aload_n C 0 dX8_read_26 rfl ?_
  refine Cg_X8_3_stones (F := (upd F1 307 r1)) C (v := r1) rfl dX8_read_27 ?_
  refine g_if_lt C 42 dX8_read_30 (by decide) (fun c2 => ?_) (fun c2 => ?_)
  · have h := h.1 c2
    refine g_iconst C (0 : Int32) dX8_read_42 ci_0 ?_
    exact hret _ _ _ _ ⟨_, _, _, _, _, rfl, h⟩ rfl dX8_read_43
  · have h := h.2 c2
    refine g_aload_n C 0 dX8_read_33 rfl ?_
    refine g_bipush C (44 : Int32) dX8_read_34 cb_44 ?_
    refine g_callVi0 C (kT_readSign (xL X) (xD X) ka ad _ _ _ _ _ _ _ h) miX8_readSign (gw_of tw2_235 rfl) (by decide) wC_o3 rfl rfl rfl (Nat.le_of_ble_eq_true rfl) z00 dX8_read_36 (fun r3 w hw => ?_)
    obtain ⟨F3, R3, J3, P3, B3, rfl, h⟩ := hw
    refine g_if_ne C 44 dX8_read_39 (by decide) (fun c4 => ?_) (fun c4 => ?_)
    · have h := h.1 c4
      refine g_aload_n C 0 dX8_read_44 rfl ?_
      refine g_aload_n C 0 dX8_read_45 rfl ?_
      refine g_bipush C (40 : Int32) dX8_read_46 cb_40 ?_
      refine g_callVi0 C (kT_readNumber (xL X) (xD X) ka ad _ _ _ _ _ _ _ h) miX8_readNumber (gw_of tw2_219 rfl) (by decide) wC_o3 rfl rfl rfl (Nat.le_of_ble_eq_true rfl) z00 dX8_read_48 (fun r5 w hw => ?_)
      obtain ⟨F5, R5, J5, P5, B5, rfl, h⟩ := hw
      refine Cp_X8_3_days C dX8_read_51 ?_
      refine g_aload_n C 0 dX8_read_54 rfl ?_
      refine Cg_X8_3_days (F := (upd F5 308 r5)) C (v := r5) rfl dX8_read_55 ?_
      refine g_if_lt C 77 dX8_read_58 (by decide) (fun c6 => ?_) (fun c6 => ?_)
      · have h := h.1 c6
        refine g_iconst C (0 : Int32) dX8_read_77 ci_0 ?_
        exact hret _ _ _ _ ⟨_, _, _, _, _, rfl, h⟩ rfl dX8_read_78
      · have h := h.2 c6
        refine g_aload_n C 0 dX8_read_61 rfl ?_
        refine g_bipush C (59 : Int32) dX8_read_62 cb_59 ?_
        refine g_callVi0 C (kT_readSign (xL X) (xD X) ka ad _ _ _ _ _ _ _ h) miX8_readSign (gw_of tw2_235 rfl) (by decide) wC_o3 rfl rfl rfl (Nat.le_of_ble_eq_true rfl) z00 dX8_read_64 (fun r7 w hw => ?_)
        obtain ⟨F7, R7, J7, P7, B7, rfl, h⟩ := hw
        refine g_if_eq C 77 dX8_read_67 (by decide) (fun c8 => ?_) (fun c8 => ?_)
        · have h := h.1 c8
          refine g_iconst C (0 : Int32) dX8_read_77 ci_0 ?_
          exact hret _ _ _ _ ⟨_, _, _, _, _, rfl, h⟩ rfl dX8_read_78
        · have h := h.2 c8
          refine g_aload_n C 0 dX8_read_70 rfl ?_
          refine g_callVi0 C (kT_readBuilders (xL X) (xD X) ka ad _ _ _ _ _ _ h) miX8_readBuilders (gw_of tw2_239 rfl) (by decide) wC_o3 rfl rfl rfl (Nat.le_of_ble_eq_true rfl) z00 dX8_read_71 (fun r9 w hw => ?_)
          obtain ⟨F9, R9, J9, P9, B9, rfl, h⟩ := hw
          refine g_if_ne C 79 dX8_read_74 (by decide) (fun c10 => ?_) (fun c10 => ?_)
          · have h := h.1 c10
            refine g_aload_n C 0 dX8_read_79 rfl ?_
            refine g_callVi0 C (kT_next (xL X) (xD X) ka ad _ _ _ _ _ _ h) miX8_next (gw_of tw2_223 rfl) (by decide) wC_o3 rfl rfl rfl (Nat.le_of_ble_eq_true rfl) z00 dX8_read_80 (fun r11 w hw => ?_)
            obtain ⟨F11, R11, J11, P11, B11, rfl, h⟩ := hw
            refine g_if_ne C 88 dX8_read_83 (by decide) (fun c12 => ?_) (fun c12 => ?_)
            · have h := h.1 c12
              refine g_aload_n C 0 dX8_read_88 rfl ?_
              refine g_bipush C (59 : Int32) dX8_read_89 cb_59 ?_
              refine g_callVi0 C (kT_readSign (xL X) (xD X) ka ad _ _ _ _ _ _ _ h) miX8_readSign (gw_of tw2_235 rfl) (by decide) wC_o3 rfl rfl rfl (Nat.le_of_ble_eq_true rfl) z00 dX8_read_91 (fun r13 w hw => ?_)
              obtain ⟨F13, R13, J13, P13, B13, rfl, h⟩ := hw
              refine g_if_eq C 108 dX8_read_94 (by decide) (fun c14 => ?_) (fun c14 => ?_)
              · have h := h.1 c14
                refine g_iconst C (0 : Int32) dX8_read_108 ci_0 ?_
                exact hret _ _ _ _ ⟨_, _, _, _, _, rfl, h⟩ rfl dX8_read_109
              · have h := h.2 c14
                refine g_aload_n C 0 dX8_read_97 rfl ?_
                refine g_callVi0 C (kT_readHindrances (xL X) (xD X) ka ad _ _ _ _ _ _ h) miX8_readHindrances (gw_of tw3_14 rfl) (by decide) wC_o3 rfl rfl rfl (Nat.le_of_ble_eq_true rfl) z00 dX8_read_98 (fun r15 w hw => ?_)
                obtain ⟨F15, R15, J15, P15, B15, rfl, h⟩ := hw
                refine g_if_eq C 108 dX8_read_101 (by decide) (fun c16 => ?_) (fun c16 => ?_)
                · have h := h.1 c16
                  refine g_iconst C (0 : Int32) dX8_read_108 ci_0 ?_
                  exact hret _ _ _ _ ⟨_, _, _, _, _, rfl, h⟩ rfl dX8_read_109
                · have h := h.2 c16
                  refine g_iconst C (1 : Int32) dX8_read_104 ci_1 ?_
                  refine g_goto C 109 dX8_read_105 (by decide) ?_
                  exact hret _ _ _ _ ⟨_, _, _, _, _, rfl, h⟩ rfl dX8_read_109
            · have h := h.2 c12
              refine g_iconst C (1 : Int32) dX8_read_86 ci_1 ?_
              exact hret _ _ _ _ ⟨_, _, _, _, _, rfl, h⟩ rfl dX8_read_87
          · have h := h.2 c10
            refine g_iconst C (0 : Int32) dX8_read_77 ci_0 ?_
            exact hret _ _ _ _ ⟨_, _, _, _, _, rfl, h⟩ rfl dX8_read_78
    · have h := h.2 c4
      refine g_iconst C (0 : Int32) dX8_read_42 ci_0 ?_
      exact hret _ _ _ _ ⟨_, _, _, _, _, rfl, h⟩ rfl dX8_read_43
set_option maxHeartbeats 4000000 in
set_option maxRecDepth 100000 in
theorem kT_read (l : Launch) (D : va_G) (ka : Nat → ClassId) (ad : Nat → Nat) (F : FT) (R : RT) (J : JT) (P : PT) (B : BT)  (K : Int32 → FT → RT → JT → PT → BT → Prop) (h : qT_read F R J P B  K) : MI l D ka yX8_read cX8_read 1 (some .boolean) 5 0 0 [.ref (ad 399)] (wC ad ka F R J P B) (fun z w => ∃ F R J P B, w = wC ad ka F R J P B ∧ K z F R J P B) := MI_of (by decide) (Nat.le_of_ble_eq_true rfl) (fun X C hroom hret => bT_read C hret F R J P B  h)
set_option maxHeartbeats 4000000 in
set_option maxRecDepth 100000 in
theorem miX8_read : MInf yX8_read cX8_read 1 (some .boolean) 0 := ⟨(gw_of tw2_216 rfl), (gw_of tw2_217 rfl), (gw_of tw1_3 rfl), (gw_of tw2_218 rfl), by decide +kernel, by decide⟩
