def qM_notes_47 : Nat → FT → RT → JT → Int32 → (FT → RT → JT → Prop) → Prop
  | 0, _, _, _, _ => fun _ => False
  | n47 + 1, F, R, J, v1 => fun K => ((5 : Int32) ≤ v1 → ((vp_in (((6 : Int32) * (F 9)) + (5 : Int32)) 48) ∧ (K (upd F 9 ((F 9) + (1 : Int32))) (va_up R 8 (upd (R 8) ((((6 : Int32) * (F 9)) + (5 : Int32)).toNatClampNeg) (R 0 12))) J))) ∧ (¬ (5 : Int32) ≤ v1 → ((vp_in ((6 : Int32) + v1) 37) ∧ ((vp_in (((6 : Int32) * (F 9)) + v1) 48) ∧ (qM_notes_47 n47 F (va_up R 8 (upd (R 8) ((((6 : Int32) * (F 9)) + v1).toNatClampNeg) (R 0 (((6 : Int32) + v1).toNatClampNeg)))) J (v1 + (1 : Int32)) K))))
set_option maxHeartbeats 4000000 in
set_option maxRecDepth 100000 in
theorem lM_notes_47 {X : XT} {ka : Nat → ClassId} {ad : Nat → Nat} (C : Cx X cX10_notes 2 RX10 none ka 1) {K : FT → RT → JT → Prop} (hret : RetV X cX10_notes 0 0 (fun w => ∃ F R J, w = wM ad ka F R J ∧ K F R J)) : ∀ (n : Nat) (F : FT) (R : RT) (J : JT) (v1 : Int32), qM_notes_47 n F R J v1 K → G X 0 0 (wM ad ka F R J) 47 [(0, .ref (ad 20)), (1, .int v1)] [] := by
  intro n
  induction n with
  | zero => intro F R J v1 h; exact h.elim
  | succ n ih =>
    intro F R J v1 h
    refine g_iload_n C 1 dX10_notes_47 rfl ?_
    refine g_iconst C (5 : Int32) dX10_notes_48 ci_5 ?_
    refine g_icmp_ge C 81 dX10_notes_49 (by decide) (fun c1 => ?_) (fun c1 => ?_)
    · have h := h.1 c1
      refine g_aload_n C 0 dX10_notes_81 rfl ?_
      refine Mg_undone C dX10_notes_82 ?_
      refine g_bipush C (6 : Int32) dX10_notes_85 cb_6 ?_
      refine g_aload_n C 0 dX10_notes_87 rfl ?_
      refine Mg_undos C (v := F 9) rfl dX10_notes_88 ?_
      refine g_imul C dX10_notes_91 ?_
      refine g_iconst C (5 : Int32) dX10_notes_92 ci_5 ?_
      refine g_iadd C dX10_notes_93 ?_
      refine g_aload_n C 0 dX10_notes_94 rfl ?_
      refine Mg_now C dX10_notes_95 ?_
      refine g_bipush C (12 : Int32) dX10_notes_98 cb_12 ?_
      refine Ma_now C (f := R 0) rfl (12) (by decide) (vp_lit (by decide)) dX10_notes_100 ?_
      refine Ms_undone C (f := R 8) rfl _ rfl h.1 dX10_notes_101 ?_
      have h := h.2
      refine g_aload_n C 0 dX10_notes_102 rfl ?_
      refine g_dup C dX10_notes_103 rfl ?_
      refine Mg_undos C (v := F 9) rfl dX10_notes_104 ?_
      refine g_iconst C (1 : Int32) dX10_notes_107 ci_1 ?_
      refine g_iadd C dX10_notes_108 ?_
      refine Mp_undos C dX10_notes_109 ?_
      exact hret _ _ _ ⟨_, _, _, rfl, h⟩ dX10_notes_112
    · have h := h.2 c1
      refine g_aload_n C 0 dX10_notes_52 rfl ?_
      refine Mg_undone C dX10_notes_53 ?_
      refine g_bipush C (6 : Int32) dX10_notes_56 cb_6 ?_
      refine g_aload_n C 0 dX10_notes_58 rfl ?_
      refine Mg_undos C (v := F 9) rfl dX10_notes_59 ?_
      refine g_imul C dX10_notes_62 ?_
      refine g_iload_n C 1 dX10_notes_63 rfl ?_
      refine g_iadd C dX10_notes_64 ?_
      refine g_aload_n C 0 dX10_notes_65 rfl ?_
      refine Mg_now C dX10_notes_66 ?_
      refine g_bipush C (6 : Int32) dX10_notes_69 cb_6 ?_
      refine g_iload_n C 1 dX10_notes_71 rfl ?_
      refine g_iadd C dX10_notes_72 ?_
      refine Ma_now C (f := R 0) rfl _ rfl h.1 dX10_notes_73 ?_
      have h := h.2
      refine Ms_undone C (f := R 8) rfl _ rfl h.1 dX10_notes_74 ?_
      have h := h.2
      refine g_iinc C 1 (v1 + (1 : Int32)) [(1, .int (v1 + (1 : Int32))), (0, .ref (ad 20))] dX10_notes_75 rfl (by rw [ci_1]) (by decide) rfl ?_
      refine g_goto C 47 dX10_notes_78 (by decide) ?_
      exact g_lv [1, 0] rfl (ih _ _ _ _ h)
def qM_notes_45 (F : FT) (R : RT) (J : JT)  (K : FT → RT → JT → Prop) : Prop :=
  ∃ n47, qM_notes_47 n47 F R J (0 : Int32) K
set_option maxHeartbeats 4000000 in
set_option maxRecDepth 100000 in
theorem lM_notes_45 {X : XT} {ka : Nat → ClassId} {ad : Nat → Nat} (C : Cx X cX10_notes 2 RX10 none ka 1) {K : FT → RT → JT → Prop} (hret : RetV X cX10_notes 0 0 (fun w => ∃ F R J, w = wM ad ka F R J ∧ K F R J)) (F : FT) (R : RT) (J : JT)  (h : qM_notes_45 F R J  K) : G X 0 0 (wM ad ka F R J) 45 [(0, .ref (ad 20))] [] := by
  unfold qM_notes_45 at h
  refine g_iconst C (0 : Int32) dX10_notes_45 ci_0 ?_
  refine g_istore_n C [(1, .int (0 : Int32)), (0, .ref (ad 20))] dX10_notes_46 (by decide) rfl ?_
  obtain ⟨n1, h⟩ := h
  exact g_lv [1, 0] rfl (lM_notes_47 C hret n1 _ _ _ _ h)
def qM_notes_12 : Nat → FT → RT → JT → Int32 → (FT → RT → JT → Prop) → Prop
  | 0, _, _, _, _ => fun _ => False
  | n12 + 1, F, R, J, v1 => fun K => ((48 : Int32) ≤ v1 → (qM_notes_45 (upd F 9 (7 : Int32)) R J K)) ∧ (¬ (48 : Int32) ≤ v1 → ((vp_in v1 48) ∧ ((vp_in (v1 - (6 : Int32)) 48) ∧ (qM_notes_12 n12 F (va_up R 8 (upd (R 8) ((v1 - (6 : Int32)).toNatClampNeg) (R 8 v1.toNatClampNeg))) J (v1 + (1 : Int32)) K))))
set_option maxHeartbeats 4000000 in
set_option maxRecDepth 100000 in
theorem lM_notes_12 {X : XT} {ka : Nat → ClassId} {ad : Nat → Nat} (C : Cx X cX10_notes 2 RX10 none ka 1) {K : FT → RT → JT → Prop} (hret : RetV X cX10_notes 0 0 (fun w => ∃ F R J, w = wM ad ka F R J ∧ K F R J)) : ∀ (n : Nat) (F : FT) (R : RT) (J : JT) (v1 : Int32), qM_notes_12 n F R J v1 K → G X 0 0 (wM ad ka F R J) 12 [(0, .ref (ad 20)), (1, .int v1)] [] := by
  intro n
  induction n with
  | zero => intro F R J v1 h; exact h.elim
  | succ n ih =>
    intro F R J v1 h
    refine g_iload_n C 1 dX10_notes_12 rfl ?_
    refine g_bipush C (48 : Int32) dX10_notes_13 cb_48 ?_
    refine g_icmp_ge C 39 dX10_notes_15 (by decide) (fun c1 => ?_) (fun c1 => ?_)
    · have h := h.1 c1
      refine g_aload_n C 0 dX10_notes_39 rfl ?_
      refine g_bipush C (7 : Int32) dX10_notes_40 cb_7 ?_
      refine Mp_undos C dX10_notes_42 ?_
      exact g_lv [0] rfl (lM_notes_45 C hret _ _ _ h)
    · have h := h.2 c1
      refine g_aload_n C 0 dX10_notes_18 rfl ?_
      refine Mg_undone C dX10_notes_19 ?_
      refine g_iload_n C 1 dX10_notes_22 rfl ?_
      refine g_bipush C (6 : Int32) dX10_notes_23 cb_6 ?_
      refine g_isub C dX10_notes_25 ?_
      refine g_aload_n C 0 dX10_notes_26 rfl ?_
      refine Mg_undone C dX10_notes_27 ?_
      refine g_iload_n C 1 dX10_notes_30 rfl ?_
      refine Ma_undone C (f := R 8) rfl _ rfl h.1 dX10_notes_31 ?_
      have h := h.2
      refine Ms_undone C (f := R 8) rfl _ rfl h.1 dX10_notes_32 ?_
      have h := h.2
      refine g_iinc C 1 (v1 + (1 : Int32)) [(1, .int (v1 + (1 : Int32))), (0, .ref (ad 20))] dX10_notes_33 rfl (by rw [ci_1]) (by decide) rfl ?_
      refine g_goto C 12 dX10_notes_36 (by decide) ?_
      exact g_lv [1, 0] rfl (ih _ _ _ _ h)
def qM_notes (F : FT) (R : RT) (J : JT)  (K : FT → RT → JT → Prop) : Prop :=
  (¬ (F 9) = (8 : Int32) → (qM_notes_45 F R J K)) ∧ ((F 9) = (8 : Int32) → (∃ n12, qM_notes_12 n12 F R J (6 : Int32) K))
set_option maxHeartbeats 4000000 in
set_option maxRecDepth 100000 in
theorem bM_notes {X : XT} {ka : Nat → ClassId} {ad : Nat → Nat} (C : Cx X cX10_notes 2 RX10 none ka 1) {K : FT → RT → JT → Prop} (hret : RetV X cX10_notes 0 0 (fun w => ∃ F R J, w = wM ad ka F R J ∧ K F R J)) (F : FT) (R : RT) (J : JT)  (h : qM_notes F R J  K) : G X 0 0 (wM ad ka F R J) 0 [(0, .ref (ad 20))] [] := by
  unfold qM_notes at h
  refine g_aload_n C 0 dX10_notes_0 rfl ?_
  refine Mg_undos C (v := F 9) rfl dX10_notes_1 ?_
  refine g_bipush C (8 : Int32) dX10_notes_4 cb_8 ?_
  refine g_icmp_ne C 45 dX10_notes_6 (by decide) (fun c1 => ?_) (fun c1 => ?_)
  · have h := h.1 c1
    exact g_lv [0] rfl (lM_notes_45 C hret _ _ _ h)
  · have h := h.2 c1
    refine g_bipush C (6 : Int32) dX10_notes_9 cb_6 ?_
    refine g_istore_n C [(1, .int (6 : Int32)), (0, .ref (ad 20))] dX10_notes_11 (by decide) rfl ?_
    obtain ⟨n1, h⟩ := h
    exact g_lv [1, 0] rfl (lM_notes_12 C hret n1 _ _ _ _ h)
set_option maxHeartbeats 4000000 in
set_option maxRecDepth 100000 in
theorem kM_notes (l : Launch) (D : va_G) (ka : Nat → ClassId) (ad : Nat → Nat) (F : FT) (R : RT) (J : JT)  (K : FT → RT → JT → Prop) (h : qM_notes F R J  K) : MV l D ka yX10_notes cX10_notes 2 none 1 0 0 [.ref (ad 20)] (wM ad ka F R J) (fun w => ∃ F R J, w = wM ad ka F R J ∧ K F R J) := MV_of (by decide) (Nat.le_of_ble_eq_true rfl) (fun X C hroom hret => bM_notes C hret F R J  h)
set_option maxHeartbeats 4000000 in
set_option maxRecDepth 100000 in
theorem miX10_notes : MInf yX10_notes cX10_notes 2 none 0 := ⟨(gw_of tw4_234 rfl), (gw_of tp_yX10_notes rfl), (gw_of tw1_6 rfl), (gw_of tw4_235 rfl), by decide +kernel, by decide⟩

def qM_isSummer (F : FT) (R : RT) (J : JT)  (K : Int32 → FT → RT → JT → Prop) : Prop :=
  (¬ (R 0 6) = (R 0 3) → (K (0 : Int32) F R J)) ∧ ((R 0 6) = (R 0 3) → (K (1 : Int32) F R J))
set_option maxHeartbeats 4000000 in
set_option maxRecDepth 100000 in
theorem bM_isSummer {X : XT} {ka : Nat → ClassId} {ad : Nat → Nat} (C : Cx X cX10_isSummer 1 RX10 (some .boolean) ka 1) {K : Int32 → FT → RT → JT → Prop} (hret : RetI X cX10_isSummer .boolean 0 0 (fun z w => ∃ F R J, w = wM ad ka F R J ∧ K z F R J)) (F : FT) (R : RT) (J : JT)  (h : qM_isSummer F R J  K) : G X 0 0 (wM ad ka F R J) 0 [(0, .ref (ad 20))] [] := by
  unfold qM_isSummer at h
  refine g_aload_n C 0 dX10_isSummer_0 rfl ?_
  refine Mg_now C dX10_isSummer_1 ?_
  refine g_bipush C (6 : Int32) dX10_isSummer_4 cb_6 ?_
  refine Ma_now C (f := R 0) rfl (6) (by decide) (vp_lit (by decide)) dX10_isSummer_6 ?_
  refine g_aload_n C 0 dX10_isSummer_7 rfl ?_
  refine Mg_now C dX10_isSummer_8 ?_
  refine g_iconst C (3 : Int32) dX10_isSummer_11 ci_3 ?_
  refine Ma_now C (f := R 0) rfl (3) (by decide) (vp_lit (by decide)) dX10_isSummer_12 ?_
  refine g_icmp_ne C 20 dX10_isSummer_13 (by decide) (fun c1 => ?_) (fun c1 => ?_)
  · have h := h.1 c1
    refine g_iconst C (0 : Int32) dX10_isSummer_20 ci_0 ?_
    exact hret _ _ _ _ ⟨_, _, _, rfl, h⟩ rfl dX10_isSummer_21
  · have h := h.2 c1
    refine g_iconst C (1 : Int32) dX10_isSummer_16 ci_1 ?_
    refine g_goto C 21 dX10_isSummer_17 (by decide) ?_
    exact hret _ _ _ _ ⟨_, _, _, rfl, h⟩ rfl dX10_isSummer_21
set_option maxHeartbeats 4000000 in
set_option maxRecDepth 100000 in
theorem kM_isSummer (l : Launch) (D : va_G) (ka : Nat → ClassId) (ad : Nat → Nat) (F : FT) (R : RT) (J : JT)  (K : Int32 → FT → RT → JT → Prop) (h : qM_isSummer F R J  K) : MI l D ka yX10_isSummer cX10_isSummer 1 (some .boolean) 1 0 0 [.ref (ad 20)] (wM ad ka F R J) (fun z w => ∃ F R J, w = wM ad ka F R J ∧ K z F R J) := MI_of (by decide) (Nat.le_of_ble_eq_true rfl) (fun X C hroom hret => bM_isSummer C hret F R J  h)
set_option maxHeartbeats 4000000 in
set_option maxRecDepth 100000 in
theorem miX10_isSummer : MInf yX10_isSummer cX10_isSummer 1 (some .boolean) 0 := ⟨(gw_of tw4_230 rfl), (gw_of tp_yX10_isSummer rfl), (gw_of tw1_6 rfl), (gw_of tw4_231 rfl), by decide +kernel, by decide⟩

def qM_goesBy (F : FT) (R : RT) (J : JT) (a1 : Int32) (K : Int32 → FT → RT → JT → Prop) : Prop :=
  qM_behind F R J a1 (R 0 7) (R 0 9) (fun r1 F1 R1 J1 => K (((upd (upd (upd (R1 0) 7 r1) 9 (0 : Int32)) 6 (((upd (upd (R1 0) 7 r1) 9 (0 : Int32)) 6) + (1 : Int32))) 7) - (R 0 7)) F1 (va_up (va_up (va_up R1 0 (upd (R1 0) 7 r1)) 0 (upd (upd (R1 0) 7 r1) 9 (0 : Int32))) 0 (upd (upd (upd (R1 0) 7 r1) 9 (0 : Int32)) 6 (((upd (upd (R1 0) 7 r1) 9 (0 : Int32)) 6) + (1 : Int32)))) J1)
set_option maxHeartbeats 4000000 in
set_option maxRecDepth 100000 in
theorem bM_goesBy {X : XT} {ka : Nat → ClassId} {ad : Nat → Nat} (C : Cx X cX10_goesBy 3 RX10 (some .int) ka 4) {K : Int32 → FT → RT → JT → Prop} (hret : RetI X cX10_goesBy .int 0 0 (fun z w => ∃ F R J, w = wM ad ka F R J ∧ K z F R J)) (F : FT) (R : RT) (J : JT) (a1 : Int32) (h : qM_goesBy F R J a1 K) : G X 0 0 (wM ad ka F R J) 0 [(0, .ref (ad 20)), (1, .int a1)] [] := by
  unfold qM_goesBy at h
  refine g_aload_n C 0 dX10_goesBy_0 rfl ?_
  refine Mg_now C dX10_goesBy_1 ?_
  refine g_bipush C (7 : Int32) dX10_goesBy_4 cb_7 ?_
  refine Ma_now C (f := R 0) rfl (7) (by decide) (vp_lit (by decide)) dX10_goesBy_6 ?_
  refine g_istore_n C [(2, .int (R 0 7)), (0, .ref (ad 20)), (1, .int a1)] dX10_goesBy_7 (by decide) rfl ?_
  refine g_aload_n C 1 dX10_goesBy_8 rfl ?_
  refine Mg_now C dX10_goesBy_9 ?_
  refine g_bipush C (7 : Int32) dX10_goesBy_12 cb_7 ?_
  refine g_aload_n C 1 dX10_goesBy_14 rfl ?_
  refine g_iload_n C 2 dX10_goesBy_15 rfl ?_
  refine g_iload_n C 0 dX10_goesBy_16 rfl ?_
  refine g_aload_n C 1 dX10_goesBy_17 rfl ?_
  refine Mg_now C dX10_goesBy_18 ?_
  refine g_bipush C (9 : Int32) dX10_goesBy_21 cb_9 ?_
  refine Ma_now C (f := R 0) rfl (9) (by decide) (vp_lit (by decide)) dX10_goesBy_23 ?_
  refine g_callVi0 C (kM_behind (xL X) (xD X) ka ad _ _ _ _ _ _ _ h) miX10_behind (gw_of tw5_0 rfl) (by decide) wM_at rfl rfl rfl (Nat.le_of_ble_eq_true rfl) z00 dX10_goesBy_24 (fun r1 w hw => ?_)
  obtain ⟨F1, R1, J1, rfl, h⟩ := hw
  refine Ms_now C (f := R1 0) rfl (7) (by decide) (vp_lit (by decide)) dX10_goesBy_27 ?_
  refine g_aload_n C 1 dX10_goesBy_28 rfl ?_
  refine Mg_now C dX10_goesBy_29 ?_
  refine g_bipush C (9 : Int32) dX10_goesBy_32 cb_9 ?_
  refine g_iconst C (0 : Int32) dX10_goesBy_34 ci_0 ?_
  refine Ms_now (R := (va_up R1 0 (upd (R1 0) 7 r1))) C (f := upd (R1 0) 7 r1) rfl (9) (by decide) (vp_lit (by decide)) dX10_goesBy_35 ?_
  refine g_aload_n C 1 dX10_goesBy_36 rfl ?_
  refine Mg_now C dX10_goesBy_37 ?_
  refine g_bipush C (6 : Int32) dX10_goesBy_40 cb_6 ?_
  refine g_dup2 C dX10_goesBy_42 rfl rfl ?_
  refine Ma_now (R := (va_up (va_up R1 0 (upd (R1 0) 7 r1)) 0 (upd (upd (R1 0) 7 r1) 9 (0 : Int32)))) C (f := upd (upd (R1 0) 7 r1) 9 (0 : Int32)) rfl (6) (by decide) (vp_lit (by decide)) dX10_goesBy_43 ?_
  refine g_iconst C (1 : Int32) dX10_goesBy_44 ci_1 ?_
  refine g_iadd C dX10_goesBy_45 ?_
  refine Ms_now (R := (va_up (va_up R1 0 (upd (R1 0) 7 r1)) 0 (upd (upd (R1 0) 7 r1) 9 (0 : Int32)))) C (f := upd (upd (R1 0) 7 r1) 9 (0 : Int32)) rfl (6) (by decide) (vp_lit (by decide)) dX10_goesBy_46 ?_
  refine g_aload_n C 1 dX10_goesBy_47 rfl ?_
  refine Mg_now C dX10_goesBy_48 ?_
  refine g_bipush C (7 : Int32) dX10_goesBy_51 cb_7 ?_
  refine Ma_now (R := (va_up (va_up (va_up R1 0 (upd (R1 0) 7 r1)) 0 (upd (upd (R1 0) 7 r1) 9 (0 : Int32))) 0 (upd (upd (upd (R1 0) 7 r1) 9 (0 : Int32)) 6 (((upd (upd (R1 0) 7 r1) 9 (0 : Int32)) 6) + (1 : Int32))))) C (f := upd (upd (upd (R1 0) 7 r1) 9 (0 : Int32)) 6 (((upd (upd (R1 0) 7 r1) 9 (0 : Int32)) 6) + (1 : Int32))) rfl (7) (by decide) (vp_lit (by decide)) dX10_goesBy_53 ?_
  refine g_iload_n C 0 dX10_goesBy_54 rfl ?_
  refine g_isub C dX10_goesBy_55 ?_
  exact hret _ _ _ _ ⟨_, _, _, rfl, h⟩ rfl dX10_goesBy_56
set_option maxHeartbeats 4000000 in
set_option maxRecDepth 100000 in
theorem kM_goesBy (l : Launch) (D : va_G) (ka : Nat → ClassId) (ad : Nat → Nat) (F : FT) (R : RT) (J : JT) (a1 : Int32) (K : Int32 → FT → RT → JT → Prop) (h : qM_goesBy F R J a1 K) : MI l D ka yX10_goesBy cX10_goesBy 3 (some .int) 4 0 0 [.ref (ad 20), .int a1] (wM ad ka F R J) (fun z w => ∃ F R J, w = wM ad ka F R J ∧ K z F R J) := MI_of (by decide) (Nat.le_of_ble_eq_true rfl) (fun X C hroom hret => bM_goesBy C hret F R J a1 h)
set_option maxHeartbeats 4000000 in
set_option maxRecDepth 100000 in
theorem miX10_goesBy : MInf yX10_goesBy cX10_goesBy 3 (some .int) 1 := ⟨(gw_of tw4_238 rfl), (gw_of tp_yX10_goesBy rfl), (gw_of tw1_6 rfl), (gw_of tw4_239 rfl), by decide +kernel, by decide⟩

def qM_day (F : FT) (R : RT) (J : JT) (a1 : Int32) (K : Int32 → FT → RT → JT → Prop) : Prop :=
  qM_isWeather F R J a1 (fun r1 F1 R1 J1 => (¬ r1 = 0 → (qM_isSummer F1 R1 J1 (fun r3 F3 R3 J3 => (r3 = 0 → (qM_notes F3 R3 J3 (fun F5 R5 J5 => qM_goesBy F5 R5 J5 a1 (fun r6 F6 R6 J6 => K r6 F6 R6 J6)))) ∧ (¬ r3 = 0 → (K (-3 : Int32) F3 R3 J3))))) ∧ (r1 = 0 → (K (-1 : Int32) F1 R1 J1)))
set_option maxHeartbeats 4000000 in
set_option maxRecDepth 100000 in
theorem bM_day {X : XT} {ka : Nat → ClassId} {ad : Nat → Nat} (C : Cx X cX10_day 2 RX10 (some .int) ka 5) {K : Int32 → FT → RT → JT → Prop} (hret : RetI X cX10_day .int 0 0 (fun z w => ∃ F R J, w = wM ad ka F R J ∧ K z F R J)) (F : FT) (R : RT) (J : JT) (a1 : Int32) (h : qM_day F R J a1 K) : G X 0 0 (wM ad ka F R J) 0 [(0, .ref (ad 20)), (1, .int a1)] [] := by
  unfold qM_day at h
  refine g_iload_n C 1 dX10_day_0 rfl ?_
  refine g_callSi0 C (kM_isWeather (xL X) (xD X) ka ad _ _ _ _ _ h) siX10_isWeather (gw_of tw4_224 rfl) (by decide) rfl rfl (Nat.le_of_ble_eq_true rfl) z00 dX10_day_1 (fun r1 w hw => ?_)
  obtain ⟨F1, R1, J1, rfl, h⟩ := hw
  refine g_if_ne C 9 dX10_day_4 (by decide) (fun c2 => ?_) (fun c2 => ?_)
  · have h := h.1 c2
    refine g_aload_n C 0 dX10_day_9 rfl ?_
    refine g_callVi0 C (kM_isSummer (xL X) (xD X) ka ad _ _ _ _ h) miX10_isSummer (gw_of tw4_228 rfl) (by decide) wM_at rfl rfl rfl (Nat.le_of_ble_eq_true rfl) z00 dX10_day_10 (fun r3 w hw => ?_)
    obtain ⟨F3, R3, J3, rfl, h⟩ := hw
    refine g_if_eq C 19 dX10_day_13 (by decide) (fun c4 => ?_) (fun c4 => ?_)
    · have h := h.1 c4
      refine g_aload_n C 0 dX10_day_19 rfl ?_
      refine g_callVv0 C (kM_notes (xL X) (xD X) ka ad _ _ _ _ h) miX10_notes (gw_of tw4_232 rfl) (by decide) wM_at rfl rfl rfl (Nat.le_of_ble_eq_true rfl) z00 dX10_day_20 (fun w hw => ?_)
      obtain ⟨F5, R5, J5, rfl, h⟩ := hw
      refine g_aload_n C 0 dX10_day_23 rfl ?_
      refine g_iload_n C 1 dX10_day_24 rfl ?_
      refine g_callVi0 C (kM_goesBy (xL X) (xD X) ka ad _ _ _ _ _ h) miX10_goesBy (gw_of tw4_236 rfl) (by decide) wM_at rfl rfl rfl (Nat.le_of_ble_eq_true rfl) z00 dX10_day_25 (fun r6 w hw => ?_)
      obtain ⟨F6, R6, J6, rfl, h⟩ := hw
      exact hret _ _ _ _ ⟨_, _, _, rfl, h⟩ rfl dX10_day_28
    · have h := h.2 c4
      refine g_bipush C (-3 : Int32) dX10_day_16 cb_m3 ?_
      exact hret _ _ _ _ ⟨_, _, _, rfl, h⟩ rfl dX10_day_18
  · have h := h.2 c2
    refine g_iconst C (-1 : Int32) dX10_day_7 ci_m1 ?_
    exact hret _ _ _ _ ⟨_, _, _, rfl, h⟩ rfl dX10_day_8
set_option maxHeartbeats 4000000 in
set_option maxRecDepth 100000 in
theorem kM_day (l : Launch) (D : va_G) (ka : Nat → ClassId) (ad : Nat → Nat) (F : FT) (R : RT) (J : JT) (a1 : Int32) (K : Int32 → FT → RT → JT → Prop) (h : qM_day F R J a1 K) : MI l D ka yX10_day cX10_day 2 (some .int) 5 0 0 [.ref (ad 20), .int a1] (wM ad ka F R J) (fun z w => ∃ F R J, w = wM ad ka F R J ∧ K z F R J) := MI_of (by decide) (Nat.le_of_ble_eq_true rfl) (fun X C hroom hret => bM_day C hret F R J a1 h)
set_option maxHeartbeats 4000000 in
set_option maxRecDepth 100000 in
theorem miX10_day : MInf yX10_day cX10_day 2 (some .int) 1 := ⟨(gw_of tw4_221 rfl), (gw_of tw4_222 rfl), (gw_of tw1_6 rfl), (gw_of tw4_223 rfl), by decide +kernel, by decide⟩

def qM_costOf (F : FT) (R : RT) (J : JT) (a1 : Int32) (K : Int32 → FT → RT → JT → Prop) : Prop :=
  (vp_in ((25 : Int32) + ((2 : Int32) * a1)) 37) ∧ (K (R 0 (((25 : Int32) + ((2 : Int32) * a1)).toNatClampNeg)) F R J)
set_option maxHeartbeats 4000000 in
set_option maxRecDepth 100000 in
theorem bM_costOf {X : XT} {ka : Nat → ClassId} {ad : Nat → Nat} (C : Cx X cX10_costOf 2 RX10 (some .int) ka 1) {K : Int32 → FT → RT → JT → Prop} (hret : RetI X cX10_costOf .int 0 0 (fun z w => ∃ F R J, w = wM ad ka F R J ∧ K z F R J)) (F : FT) (R : RT) (J : JT) (a1 : Int32) (h : qM_costOf F R J a1 K) : G X 0 0 (wM ad ka F R J) 0 [(0, .ref (ad 20)), (1, .int a1)] [] := by
  unfold qM_costOf at h
  refine g_aload_n C 0 dX10_costOf_0 rfl ?_
  refine Mg_now C dX10_costOf_1 ?_
  refine g_bipush C (25 : Int32) dX10_costOf_4 cb_25 ?_
  refine g_iconst C (2 : Int32) dX10_costOf_6 ci_2 ?_
  refine g_iload_n C 1 dX10_costOf_7 rfl ?_
  refine g_imul C dX10_costOf_8 ?_
  refine g_iadd C dX10_costOf_9 ?_
  refine Ma_now C (f := R 0) rfl _ rfl h.1 dX10_costOf_10 ?_
  have h := h.2
  exact hret _ _ _ _ ⟨_, _, _, rfl, h⟩ rfl dX10_costOf_11
set_option maxHeartbeats 4000000 in
set_option maxRecDepth 100000 in
theorem kM_costOf (l : Launch) (D : va_G) (ka : Nat → ClassId) (ad : Nat → Nat) (F : FT) (R : RT) (J : JT) (a1 : Int32) (K : Int32 → FT → RT → JT → Prop) (h : qM_costOf F R J a1 K) : MI l D ka yX10_costOf cX10_costOf 2 (some .int) 1 0 0 [.ref (ad 20), .int a1] (wM ad ka F R J) (fun z w => ∃ F R J, w = wM ad ka F R J ∧ K z F R J) := MI_of (by decide) (Nat.le_of_ble_eq_true rfl) (fun X C hroom hret => bM_costOf C hret F R J a1 h)
set_option maxHeartbeats 4000000 in
set_option maxRecDepth 100000 in
theorem miX10_costOf : MInf yX10_costOf cX10_costOf 2 (some .int) 1 := ⟨(gw_of tw5_18 rfl), (gw_of tp_yX10_costOf rfl), (gw_of tw1_6 rfl), (gw_of tw5_19 rfl), by decide +kernel, by decide⟩

def qM_oathOf (F : FT) (R : RT) (J : JT) (a1 : Int32) (K : Int32 → FT → RT → JT → Prop) : Prop :=
  (vp_in (((25 : Int32) + ((2 : Int32) * a1)) + (1 : Int32)) 37) ∧ (K (R 0 ((((25 : Int32) + ((2 : Int32) * a1)) + (1 : Int32)).toNatClampNeg)) F R J)
set_option maxHeartbeats 4000000 in
set_option maxRecDepth 100000 in
theorem bM_oathOf {X : XT} {ka : Nat → ClassId} {ad : Nat → Nat} (C : Cx X cX10_oathOf 2 RX10 (some .int) ka 1) {K : Int32 → FT → RT → JT → Prop} (hret : RetI X cX10_oathOf .int 0 0 (fun z w => ∃ F R J, w = wM ad ka F R J ∧ K z F R J)) (F : FT) (R : RT) (J : JT) (a1 : Int32) (h : qM_oathOf F R J a1 K) : G X 0 0 (wM ad ka F R J) 0 [(0, .ref (ad 20)), (1, .int a1)] [] := by
  unfold qM_oathOf at h
  refine g_aload_n C 0 dX10_oathOf_0 rfl ?_
  refine Mg_now C dX10_oathOf_1 ?_
  refine g_bipush C (25 : Int32) dX10_oathOf_4 cb_25 ?_
  refine g_iconst C (2 : Int32) dX10_oathOf_6 ci_2 ?_
  refine g_iload_n C 1 dX10_oathOf_7 rfl ?_
  refine g_imul C dX10_oathOf_8 ?_
  refine g_iadd C dX10_oathOf_9 ?_
  refine g_iconst C (1 : Int32) dX10_oathOf_10 ci_1 ?_
  refine g_iadd C dX10_oathOf_11 ?_
  refine Ma_now C (f := R 0) rfl _ rfl h.1 dX10_oathOf_12 ?_
  have h := h.2
  exact hret _ _ _ _ ⟨_, _, _, rfl, h⟩ rfl dX10_oathOf_13
set_option maxHeartbeats 4000000 in
set_option maxRecDepth 100000 in
theorem kM_oathOf (l : Launch) (D : va_G) (ka : Nat → ClassId) (ad : Nat → Nat) (F : FT) (R : RT) (J : JT) (a1 : Int32) (K : Int32 → FT → RT → JT → Prop) (h : qM_oathOf F R J a1 K) : MI l D ka yX10_oathOf cX10_oathOf 2 (some .int) 1 0 0 [.ref (ad 20), .int a1] (wM ad ka F R J) (fun z w => ∃ F R J, w = wM ad ka F R J ∧ K z F R J) := MI_of (by decide) (Nat.le_of_ble_eq_true rfl) (fun X C hroom hret => bM_oathOf C hret F R J a1 h)
set_option maxHeartbeats 4000000 in
set_option maxRecDepth 100000 in
theorem miX10_oathOf : MInf yX10_oathOf cX10_oathOf 2 (some .int) 1 := ⟨(gw_of tw5_26 rfl), (gw_of tp_yX10_oathOf rfl), (gw_of tw1_6 rfl), (gw_of tw5_27 rfl), by decide +kernel, by decide⟩

def qM_breaks (F : FT) (R : RT) (J : JT) (a1 : Int32) (K : Int32 → FT → RT → JT → Prop) : Prop :=
  qM_oathOf F R J a1 (fun r1 F1 R1 J1 => (r1 = (-4 : Int32) → (K (0 : Int32) F1 R1 J1)) ∧ (¬ r1 = (-4 : Int32) → (qM_oathOf F1 R1 J1 a1 (fun r3 F3 R3 J3 => (¬ (((R1 0 11) >>> (r3 &&& 31)) &&& (1 : Int32)) = (1 : Int32) → (K (0 : Int32) F3 R3 J3)) ∧ ((((R1 0 11) >>> (r3 &&& 31)) &&& (1 : Int32)) = (1 : Int32) → (K (1 : Int32) F3 R3 J3))))))
set_option maxHeartbeats 4000000 in
set_option maxRecDepth 100000 in
theorem bM_breaks {X : XT} {ka : Nat → ClassId} {ad : Nat → Nat} (C : Cx X cX10_breaks 2 RX10 (some .boolean) ka 2) {K : Int32 → FT → RT → JT → Prop} (hret : RetI X cX10_breaks .boolean 0 0 (fun z w => ∃ F R J, w = wM ad ka F R J ∧ K z F R J)) (F : FT) (R : RT) (J : JT) (a1 : Int32) (h : qM_breaks F R J a1 K) : G X 0 0 (wM ad ka F R J) 0 [(0, .ref (ad 20)), (1, .int a1)] [] := by
  unfold qM_breaks at h
  refine g_aload_n C 0 dX10_breaks_0 rfl ?_
  refine g_iload_n C 1 dX10_breaks_1 rfl ?_
  refine g_callVi0 C (kM_oathOf (xL X) (xD X) ka ad _ _ _ _ _ h) miX10_oathOf (gw_of tw5_24 rfl) (by decide) wM_at rfl rfl rfl (Nat.le_of_ble_eq_true rfl) z00 dX10_breaks_2 (fun r1 w hw => ?_)
  obtain ⟨F1, R1, J1, rfl, h⟩ := hw
  refine g_bipush C (-4 : Int32) dX10_breaks_5 cb_m4 ?_
  refine g_icmp_eq C 33 dX10_breaks_7 (by decide) (fun c2 => ?_) (fun c2 => ?_)
  · have h := h.1 c2
    refine g_iconst C (0 : Int32) dX10_breaks_33 ci_0 ?_
    exact hret _ _ _ _ ⟨_, _, _, rfl, h⟩ rfl dX10_breaks_34
  · have h := h.2 c2
    refine g_aload_n C 0 dX10_breaks_10 rfl ?_
    refine Mg_now C dX10_breaks_11 ?_
    refine g_bipush C (11 : Int32) dX10_breaks_14 cb_11 ?_
    refine Ma_now C (f := R1 0) rfl (11) (by decide) (vp_lit (by decide)) dX10_breaks_16 ?_
    refine g_aload_n C 0 dX10_breaks_17 rfl ?_
    refine g_iload_n C 1 dX10_breaks_18 rfl ?_
    refine g_callVi0 C (kM_oathOf (xL X) (xD X) ka ad _ _ _ _ _ h) miX10_oathOf (gw_of tw5_24 rfl) (by decide) wM_at rfl rfl rfl (Nat.le_of_ble_eq_true rfl) z00 dX10_breaks_19 (fun r3 w hw => ?_)
    obtain ⟨F3, R3, J3, rfl, h⟩ := hw
    refine g_ishr C dX10_breaks_22 ?_
    refine g_iconst C (1 : Int32) dX10_breaks_23 ci_1 ?_
    refine g_iand C dX10_breaks_24 ?_
    refine g_iconst C (1 : Int32) dX10_breaks_25 ci_1 ?_
    refine g_icmp_ne C 33 dX10_breaks_26 (by decide) (fun c4 => ?_) (fun c4 => ?_)
    · have h := h.1 c4
      refine g_iconst C (0 : Int32) dX10_breaks_33 ci_0 ?_
      exact hret _ _ _ _ ⟨_, _, _, rfl, h⟩ rfl dX10_breaks_34
    · have h := h.2 c4
      refine g_iconst C (1 : Int32) dX10_breaks_29 ci_1 ?_
      refine g_goto C 34 dX10_breaks_30 (by decide) ?_
      exact hret _ _ _ _ ⟨_, _, _, rfl, h⟩ rfl dX10_breaks_34
set_option maxHeartbeats 4000000 in
set_option maxRecDepth 100000 in
theorem kM_breaks (l : Launch) (D : va_G) (ka : Nat → ClassId) (ad : Nat → Nat) (F : FT) (R : RT) (J : JT) (a1 : Int32) (K : Int32 → FT → RT → JT → Prop) (h : qM_breaks F R J a1 K) : MI l D ka yX10_breaks cX10_breaks 2 (some .boolean) 2 0 0 [.ref (ad 20), .int a1] (wM ad ka F R J) (fun z w => ∃ F R J, w = wM ad ka F R J ∧ K z F R J) := MI_of (by decide) (Nat.le_of_ble_eq_true rfl) (fun X C hroom hret => bM_breaks C hret F R J a1 h)
set_option maxHeartbeats 4000000 in
set_option maxRecDepth 100000 in
theorem miX10_breaks : MInf yX10_breaks cX10_breaks 2 (some .boolean) 1 := ⟨(gw_of tw5_22 rfl), (gw_of tp_yX10_breaks rfl), (gw_of tw1_6 rfl), (gw_of tw5_23 rfl), by decide +kernel, by decide⟩

def qM_isUsed (F : FT) (R : RT) (J : JT) (a1 : Int32) (K : Int32 → FT → RT → JT → Prop) : Prop :=
  (¬ (((R 0 8) >>> (a1 &&& 31)) &&& (1 : Int32)) = (1 : Int32) → (K (0 : Int32) F R J)) ∧ ((((R 0 8) >>> (a1 &&& 31)) &&& (1 : Int32)) = (1 : Int32) → (K (1 : Int32) F R J))
set_option maxHeartbeats 4000000 in
set_option maxRecDepth 100000 in
theorem bM_isUsed {X : XT} {ka : Nat → ClassId} {ad : Nat → Nat} (C : Cx X cX10_isUsed 2 RX10 (some .boolean) ka 1) {K : Int32 → FT → RT → JT → Prop} (hret : RetI X cX10_isUsed .boolean 0 0 (fun z w => ∃ F R J, w = wM ad ka F R J ∧ K z F R J)) (F : FT) (R : RT) (J : JT) (a1 : Int32) (h : qM_isUsed F R J a1 K) : G X 0 0 (wM ad ka F R J) 0 [(0, .ref (ad 20)), (1, .int a1)] [] := by
  unfold qM_isUsed at h
  refine g_aload_n C 0 dX10_isUsed_0 rfl ?_
  refine Mg_now C dX10_isUsed_1 ?_
  refine g_bipush C (8 : Int32) dX10_isUsed_4 cb_8 ?_
  refine Ma_now C (f := R 0) rfl (8) (by decide) (vp_lit (by decide)) dX10_isUsed_6 ?_
  refine g_iload_n C 1 dX10_isUsed_7 rfl ?_
  refine g_ishr C dX10_isUsed_8 ?_
  refine g_iconst C (1 : Int32) dX10_isUsed_9 ci_1 ?_
  refine g_iand C dX10_isUsed_10 ?_
  refine g_iconst C (1 : Int32) dX10_isUsed_11 ci_1 ?_
  refine g_icmp_ne C 19 dX10_isUsed_12 (by decide) (fun c1 => ?_) (fun c1 => ?_)
  · have h := h.1 c1
    refine g_iconst C (0 : Int32) dX10_isUsed_19 ci_0 ?_
    exact hret _ _ _ _ ⟨_, _, _, rfl, h⟩ rfl dX10_isUsed_20
  · have h := h.2 c1
    refine g_iconst C (1 : Int32) dX10_isUsed_15 ci_1 ?_
    refine g_goto C 20 dX10_isUsed_16 (by decide) ?_
    exact hret _ _ _ _ ⟨_, _, _, rfl, h⟩ rfl dX10_isUsed_20
set_option maxHeartbeats 4000000 in
set_option maxRecDepth 100000 in
theorem kM_isUsed (l : Launch) (D : va_G) (ka : Nat → ClassId) (ad : Nat → Nat) (F : FT) (R : RT) (J : JT) (a1 : Int32) (K : Int32 → FT → RT → JT → Prop) (h : qM_isUsed F R J a1 K) : MI l D ka yX10_isUsed cX10_isUsed 2 (some .boolean) 1 0 0 [.ref (ad 20), .int a1] (wM ad ka F R J) (fun z w => ∃ F R J, w = wM ad ka F R J ∧ K z F R J) := MI_of (by decide) (Nat.le_of_ble_eq_true rfl) (fun X C hroom hret => bM_isUsed C hret F R J a1 h)
set_option maxHeartbeats 4000000 in
set_option maxRecDepth 100000 in
theorem miX10_isUsed : MInf yX10_isUsed cX10_isUsed 2 (some .boolean) 1 := ⟨(gw_of tw5_14 rfl), (gw_of tp_yX10_isUsed rfl), (gw_of tw1_6 rfl), (gw_of tw5_15 rfl), by decide +kernel, by decide⟩

def qM_use_90 (F : FT) (R : RT) (J : JT) (s0 : Int32) (s1 : Int32) (s2 : Int32) (K : Int32 → FT → RT → JT → Prop) : Prop :=
  (vp_in s2 37) ∧ (K ((upd (R 0) s2.toNatClampNeg (s1 ||| s0)) 9) F (va_up R 0 (upd (R 0) s2.toNatClampNeg (s1 ||| s0))) J)
set_option maxHeartbeats 4000000 in
set_option maxRecDepth 100000 in
theorem lM_use_90 {X : XT} {ka : Nat → ClassId} {ad : Nat → Nat} (C : Cx X cX10_use 2 RX10 (some .int) ka 3) {K : Int32 → FT → RT → JT → Prop} (hret : RetI X cX10_use .int 0 0 (fun z w => ∃ F R J, w = wM ad ka F R J ∧ K z F R J)) (F : FT) (R : RT) (J : JT) (s0 : Int32) (s1 : Int32) (s2 : Int32) (h : qM_use_90 F R J s0 s1 s2 K) : G X 0 0 (wM ad ka F R J) 90 [(0, .ref (ad 20))] [.int s0, .int s1, .int s2, .ref (ad 0)] := by
  unfold qM_use_90 at h
  refine g_ior C dX10_use_90 ?_
  refine Ms_now C (f := R 0) rfl _ rfl h.1 dX10_use_91 ?_
  have h := h.2
  refine g_aload_n C 0 dX10_use_92 rfl ?_
  refine Mg_now C dX10_use_93 ?_
  refine g_bipush C (9 : Int32) dX10_use_96 cb_9 ?_
  refine Ma_now (R := (va_up R 0 (upd (R 0) s2.toNatClampNeg (s1 ||| s0)))) C (f := upd (R 0) s2.toNatClampNeg (s1 ||| s0)) rfl (9) (by decide) (vp_lit (by decide)) dX10_use_98 ?_
  exact hret _ _ _ _ ⟨_, _, _, rfl, h⟩ rfl dX10_use_99
def qM_use (F : FT) (R : RT) (J : JT) (a1 : Int32) (K : Int32 → FT → RT → JT → Prop) : Prop :=
  qM_isHindrance F R J a1 (fun r1 F1 R1 J1 => (¬ r1 = 0 → (qM_isUsed F1 R1 J1 a1 (fun r3 F3 R3 J3 => (r3 = 0 → (qM_isSummer F3 R3 J3 (fun r5 F5 R5 J5 => (r5 = 0 → (qM_notes F5 R5 J5 (fun F7 R7 J7 => qM_costOf F7 (va_up R7 0 (upd (R7 0) 8 ((R7 0 8) ||| ((1 : Int32) <<< (a1 &&& 31))))) J7 a1 (fun r8 F8 R8 J8 => qM_breaks F8 (va_up R8 0 (upd (R8 0) 9 (((upd (R7 0) 8 ((R7 0 8) ||| ((1 : Int32) <<< (a1 &&& 31)))) 9) + r8))) J8 a1 (fun r9 F9 R9 J9 => (r9 = 0 → (qM_use_90 F9 R9 J9 (0 : Int32) ((upd (R8 0) 9 (((upd (R7 0) 8 ((R7 0 8) ||| ((1 : Int32) <<< (a1 &&& 31)))) 9) + r8)) 10) (10 : Int32) K)) ∧ (¬ r9 = 0 → (qM_oathOf F9 R9 J9 a1 (fun r11 F11 R11 J11 => qM_use_90 F11 R11 J11 ((1 : Int32) <<< (r11 &&& 31)) ((upd (R8 0) 9 (((upd (R7 0) 8 ((R7 0 8) ||| ((1 : Int32) <<< (a1 &&& 31)))) 9) + r8)) 10) (10 : Int32) K)))))))) ∧ (¬ r5 = 0 → (K (-3 : Int32) F5 R5 J5))))) ∧ (¬ r3 = 0 → (K (-2 : Int32) F3 R3 J3))))) ∧ (r1 = 0 → (K (-1 : Int32) F1 R1 J1)))
set_option maxHeartbeats 4000000 in
set_option maxRecDepth 100000 in
theorem bM_use {X : XT} {ka : Nat → ClassId} {ad : Nat → Nat} (C : Cx X cX10_use 2 RX10 (some .int) ka 3) {K : Int32 → FT → RT → JT → Prop} (hret : RetI X cX10_use .int 0 0 (fun z w => ∃ F R J, w = wM ad ka F R J ∧ K z F R J)) (F : FT) (R : RT) (J : JT) (a1 : Int32) (h : qM_use F R J a1 K) : G X 0 0 (wM ad ka F R J) 0 [(0, .ref (ad 20)), (1, .int a1)] [] := by
  unfold qM_use at h
  refine g_aload_n C 0 dX10_use_0 rfl ?_
  refine g_iload_n C 1 dX10_use_1 rfl ?_
  refine g_callVi0 C (kM_isHindrance (xL X) (xD X) ka ad _ _ _ _ _ h) miX10_isHindrance (gw_of tw5_8 rfl) (by decide) wM_at rfl rfl rfl (Nat.le_of_ble_eq_true rfl) z00 dX10_use_2 (fun r1 w hw => ?_)
  obtain ⟨F1, R1, J1, rfl, h⟩ := hw
  refine g_if_ne C 10 dX10_use_5 (by decide) (fun c2 => ?_) (fun c2 => ?_)
  · have h := h.1 c2
    refine g_aload_n C 0 dX10_use_10 rfl ?_
    refine g_iload_n C 1 dX10_use_11 rfl ?_
    refine g_callVi0 C (kM_isUsed (xL X) (xD X) ka ad _ _ _ _ _ h) miX10_isUsed (gw_of tw5_12 rfl) (by decide) wM_at rfl rfl rfl (Nat.le_of_ble_eq_true rfl) z00 dX10_use_12 (fun r3 w hw => ?_)
    obtain ⟨F3, R3, J3, rfl, h⟩ := hw
    refine g_if_eq C 21 dX10_use_15 (by decide) (fun c4 => ?_) (fun c4 => ?_)
    · have h := h.1 c4
      refine g_aload_n C 0 dX10_use_21 rfl ?_
      refine g_callVi0 C (kM_isSummer (xL X) (xD X) ka ad _ _ _ _ h) miX10_isSummer (gw_of tw4_228 rfl) (by decide) wM_at rfl rfl rfl (Nat.le_of_ble_eq_true rfl) z00 dX10_use_22 (fun r5 w hw => ?_)
      obtain ⟨F5, R5, J5, rfl, h⟩ := hw
      refine g_if_eq C 31 dX10_use_25 (by decide) (fun c6 => ?_) (fun c6 => ?_)
      · have h := h.1 c6
        refine g_aload_n C 0 dX10_use_31 rfl ?_
        refine g_callVv0 C (kM_notes (xL X) (xD X) ka ad _ _ _ _ h) miX10_notes (gw_of tw4_232 rfl) (by decide) wM_at rfl rfl rfl (Nat.le_of_ble_eq_true rfl) z00 dX10_use_32 (fun w hw => ?_)
        obtain ⟨F7, R7, J7, rfl, h⟩ := hw
        refine g_aload_n C 0 dX10_use_35 rfl ?_
        refine Mg_now C dX10_use_36 ?_
        refine g_bipush C (8 : Int32) dX10_use_39 cb_8 ?_
        refine g_dup2 C dX10_use_41 rfl rfl ?_
        refine Ma_now C (f := R7 0) rfl (8) (by decide) (vp_lit (by decide)) dX10_use_42 ?_
        refine g_iconst C (1 : Int32) dX10_use_43 ci_1 ?_
        refine g_iload_n C 1 dX10_use_44 rfl ?_
        refine g_ishl C dX10_use_45 ?_
        refine g_ior C dX10_use_46 ?_
        refine Ms_now C (f := R7 0) rfl (8) (by decide) (vp_lit (by decide)) dX10_use_47 ?_
        refine g_aload_n C 0 dX10_use_48 rfl ?_
        refine Mg_now C dX10_use_49 ?_
        refine g_bipush C (9 : Int32) dX10_use_52 cb_9 ?_
        refine g_dup2 C dX10_use_54 rfl rfl ?_
        refine Ma_now (R := (va_up R7 0 (upd (R7 0) 8 ((R7 0 8) ||| ((1 : Int32) <<< (a1 &&& 31)))))) C (f := upd (R7 0) 8 ((R7 0 8) ||| ((1 : Int32) <<< (a1 &&& 31)))) rfl (9) (by decide) (vp_lit (by decide)) dX10_use_55 ?_
        refine g_aload_n C 0 dX10_use_56 rfl ?_
        refine g_iload_n C 1 dX10_use_57 rfl ?_
        refine g_callVi0 C (kM_costOf (xL X) (xD X) ka ad _ _ _ _ _ h) miX10_costOf (gw_of tw5_16 rfl) (by decide) wM_at rfl rfl rfl (Nat.le_of_ble_eq_true rfl) z00 dX10_use_58 (fun r8 w hw => ?_)
        obtain ⟨F8, R8, J8, rfl, h⟩ := hw
        refine g_iadd C dX10_use_61 ?_
        refine Ms_now C (f := R8 0) rfl (9) (by decide) (vp_lit (by decide)) dX10_use_62 ?_
        refine g_aload_n C 0 dX10_use_63 rfl ?_
        refine Mg_now C dX10_use_64 ?_
        refine g_bipush C (10 : Int32) dX10_use_67 cb_10 ?_
        refine g_dup2 C dX10_use_69 rfl rfl ?_
        refine Ma_now (R := (va_up R8 0 (upd (R8 0) 9 (((upd (R7 0) 8 ((R7 0 8) ||| ((1 : Int32) <<< (a1 &&& 31)))) 9) + r8)))) C (f := upd (R8 0) 9 (((upd (R7 0) 8 ((R7 0 8) ||| ((1 : Int32) <<< (a1 &&& 31)))) 9) + r8)) rfl (10) (by decide) (vp_lit (by decide)) dX10_use_70 ?_
        refine g_aload_n C 0 dX10_use_71 rfl ?_
        refine g_iload_n C 1 dX10_use_72 rfl ?_
        refine g_callVi0 C (kM_breaks (xL X) (xD X) ka ad _ _ _ _ _ h) miX10_breaks (gw_of tw5_20 rfl) (by decide) wM_at rfl rfl rfl (Nat.le_of_ble_eq_true rfl) z00 dX10_use_73 (fun r9 w hw => ?_)
        obtain ⟨F9, R9, J9, rfl, h⟩ := hw
        refine g_if_eq C 89 dX10_use_76 (by decide) (fun c10 => ?_) (fun c10 => ?_)
        · have h := h.1 c10
          refine g_iconst C (0 : Int32) dX10_use_89 ci_0 ?_
          exact g_lv [0] rfl (lM_use_90 C hret _ _ _ _ _ _ h)
        · have h := h.2 c10
          refine g_iconst C (1 : Int32) dX10_use_79 ci_1 ?_
          refine g_aload_n C 0 dX10_use_80 rfl ?_
          refine g_iload_n C 1 dX10_use_81 rfl ?_
          refine g_callVi0 C (kM_oathOf (xL X) (xD X) ka ad _ _ _ _ _ h) miX10_oathOf (gw_of tw5_24 rfl) (by decide) wM_at rfl rfl rfl (Nat.le_of_ble_eq_true rfl) z00 dX10_use_82 (fun r11 w hw => ?_)
          obtain ⟨F11, R11, J11, rfl, h⟩ := hw
          refine g_ishl C dX10_use_85 ?_
          refine g_goto C 90 dX10_use_86 (by decide) ?_
          exact g_lv [0] rfl (lM_use_90 C hret _ _ _ _ _ _ h)
      · have h := h.2 c6
        refine g_bipush C (-3 : Int32) dX10_use_28 cb_m3 ?_
        exact hret _ _ _ _ ⟨_, _, _, rfl, h⟩ rfl dX10_use_30
    · have h := h.2 c4
      refine g_bipush C (-2 : Int32) dX10_use_18 cb_m2 ?_
      exact hret _ _ _ _ ⟨_, _, _, rfl, h⟩ rfl dX10_use_20
  · have h := h.2 c2
    refine g_iconst C (-1 : Int32) dX10_use_8 ci_m1 ?_
    exact hret _ _ _ _ ⟨_, _, _, rfl, h⟩ rfl dX10_use_9
set_option maxHeartbeats 4000000 in
set_option maxRecDepth 100000 in
theorem kM_use (l : Launch) (D : va_G) (ka : Nat → ClassId) (ad : Nat → Nat) (F : FT) (R : RT) (J : JT) (a1 : Int32) (K : Int32 → FT → RT → JT → Prop) (h : qM_use F R J a1 K) : MI l D ka yX10_use cX10_use 2 (some .int) 3 0 0 [.ref (ad 20), .int a1] (wM ad ka F R J) (fun z w => ∃ F R J, w = wM ad ka F R J ∧ K z F R J) := MI_of (by decide) (Nat.le_of_ble_eq_true rfl) (fun X C hroom hret => bM_use C hret F R J a1 h)
set_option maxHeartbeats 4000000 in
set_option maxRecDepth 100000 in
theorem miX10_use : MInf yX10_use cX10_use 2 (some .int) 1 := ⟨(gw_of tw5_5 rfl), (gw_of tw5_6 rfl), (gw_of tw1_6 rfl), (gw_of tw5_7 rfl), by decide +kernel, by decide⟩

def qM_drift_127 (k28 : FT → RT → JT → Int32 → Int32 → Int32 → Prop) (F : FT) (R : RT) (J : JT) (v1 : Int32) (v3 : Int32) (s0 : Int32) (s2 : Int32) (K : Int32 → FT → RT → JT → Prop) : Prop :=
  qM_goesBy F R J s0 (fun r1 F1 R1 J1 => k28 F1 R1 J1 v1 (s2 + r1) (v3 + (1 : Int32)))
set_option maxHeartbeats 4000000 in
set_option maxRecDepth 100000 in
theorem lM_drift_127 {X : XT} {ka : Nat → ClassId} {ad : Nat → Nat} (C : Cx X cX10_drift 5 RX10 (some .int) ka 5) {K : Int32 → FT → RT → JT → Prop} (hret : RetI X cX10_drift .int 0 0 (fun z w => ∃ F R J, w = wM ad ka F R J ∧ K z F R J)) {k28 : FT → RT → JT → Int32 → Int32 → Int32 → Prop} (hk28 : ∀ (F : FT) (R : RT) (J : JT) (v1 : Int32) (v2 : Int32) (v3 : Int32), k28 F R J v1 v2 v3 → G X 0 0 (wM ad ka F R J) 28 [(0, .ref (ad 20)), (1, .int v1), (2, .int v2), (3, .int v3)] []) (F : FT) (R : RT) (J : JT) (v1 : Int32) (v3 : Int32) (s0 : Int32) (s2 : Int32) (h : qM_drift_127 k28 F R J v1 v3 s0 s2 K) : G X 0 0 (wM ad ka F R J) 127 [(0, .ref (ad 20)), (1, .int v1), (3, .int v3)] [.int s0, .ref (ad 20), .int s2] := by
  unfold qM_drift_127 at h
  refine g_callVi0 C (kM_goesBy (xL X) (xD X) ka ad _ _ _ _ _ h) miX10_goesBy (gw_of tw4_236 rfl) (by decide) wM_at rfl rfl rfl (Nat.le_of_ble_eq_true rfl) z00 dX10_drift_127 (fun r1 w hw => ?_)
  obtain ⟨F1, R1, J1, rfl, h⟩ := hw
  refine g_iadd C dX10_drift_130 ?_
  refine g_istore_n C [(2, .int (s2 + r1)), (0, .ref (ad 20)), (1, .int v1), (3, .int v3)] dX10_drift_131 (by decide) rfl ?_
  refine g_iinc C 3 (v3 + (1 : Int32)) [(3, .int (v3 + (1 : Int32))), (2, .int (s2 + r1)), (0, .ref (ad 20)), (1, .int v1)] dX10_drift_132 rfl (by rw [ci_1]) (by decide) rfl ?_
  refine g_goto C 28 dX10_drift_135 (by decide) ?_
  exact g_lv [2, 3, 1, 0] rfl (hk28 _ _ _ _ _ _ h)
def qM_drift_28 : Nat → FT → RT → JT → Int32 → Int32 → Int32 → (Int32 → FT → RT → JT → Prop) → Prop
  | 0, _, _, _, _, _, _ => fun _ => False
  | n28 + 1, F, R, J, v1, v2, v3 => fun K => (v1 ≤ v3 → (K v2 F R J)) ∧ (¬ v1 ≤ v3 → (qM_isSummer F R J (fun r2 F2 R2 J2 => (¬ r2 = 0 → (K v2 F2 R2 J2)) ∧ (r2 = 0 → (qM_notes F2 R2 J2 (fun F4 R4 J4 => (((upd (R4 0) 12 ((((((R4 0 12).toInt64) * (1103515245 : Int64)) + (12345 : Int64)) &&& (2147483647 : Int64)).toInt32)) 4) ≤ ((((upd (R4 0) 12 ((((((R4 0 12).toInt64) * (1103515245 : Int64)) + (12345 : Int64)) &&& (2147483647 : Int64)).toInt32)) 12) / (65536 : Int32)) - (((upd (R4 0) 12 ((((((R4 0 12).toInt64) * (1103515245 : Int64)) + (12345 : Int64)) &&& (2147483647 : Int64)).toInt32)) 12) / (65536 : Int32)) / (10 : Int32) * (10 : Int32)) → (((((upd (R4 0) 12 ((((((R4 0 12).toInt64) * (1103515245 : Int64)) + (12345 : Int64)) &&& (2147483647 : Int64)).toInt32)) 4) + ((upd (R4 0) 12 ((((((R4 0 12).toInt64) * (1103515245 : Int64)) + (12345 : Int64)) &&& (2147483647 : Int64)).toInt32)) 5)) ≤ ((((upd (R4 0) 12 ((((((R4 0 12).toInt64) * (1103515245 : Int64)) + (12345 : Int64)) &&& (2147483647 : Int64)).toInt32)) 12) / (65536 : Int32)) - (((upd (R4 0) 12 ((((((R4 0 12).toInt64) * (1103515245 : Int64)) + (12345 : Int64)) &&& (2147483647 : Int64)).toInt32)) 12) / (65536 : Int32)) / (10 : Int32) * (10 : Int32)) → (qM_drift_127 (fun F R J v1 v2 v3 => qM_drift_28 n28 F R J v1 v2 v3 K) F4 (va_up R4 0 (upd (R4 0) 12 ((((((R4 0 12).toInt64) * (1103515245 : Int64)) + (12345 : Int64)) &&& (2147483647 : Int64)).toInt32))) J4 v1 v3 (0 : Int32) v2 K)) ∧ (¬ (((upd (R4 0) 12 ((((((R4 0 12).toInt64) * (1103515245 : Int64)) + (12345 : Int64)) &&& (2147483647 : Int64)).toInt32)) 4) + ((upd (R4 0) 12 ((((((R4 0 12).toInt64) * (1103515245 : Int64)) + (12345 : Int64)) &&& (2147483647 : Int64)).toInt32)) 5)) ≤ ((((upd (R4 0) 12 ((((((R4 0 12).toInt64) * (1103515245 : Int64)) + (12345 : Int64)) &&& (2147483647 : Int64)).toInt32)) 12) / (65536 : Int32)) - (((upd (R4 0) 12 ((((((R4 0 12).toInt64) * (1103515245 : Int64)) + (12345 : Int64)) &&& (2147483647 : Int64)).toInt32)) 12) / (65536 : Int32)) / (10 : Int32) * (10 : Int32)) → (qM_drift_127 (fun F R J v1 v2 v3 => qM_drift_28 n28 F R J v1 v2 v3 K) F4 (va_up R4 0 (upd (R4 0) 12 ((((((R4 0 12).toInt64) * (1103515245 : Int64)) + (12345 : Int64)) &&& (2147483647 : Int64)).toInt32))) J4 v1 v3 (2 : Int32) v2 K)))) ∧ (¬ ((upd (R4 0) 12 ((((((R4 0 12).toInt64) * (1103515245 : Int64)) + (12345 : Int64)) &&& (2147483647 : Int64)).toInt32)) 4) ≤ ((((upd (R4 0) 12 ((((((R4 0 12).toInt64) * (1103515245 : Int64)) + (12345 : Int64)) &&& (2147483647 : Int64)).toInt32)) 12) / (65536 : Int32)) - (((upd (R4 0) 12 ((((((R4 0 12).toInt64) * (1103515245 : Int64)) + (12345 : Int64)) &&& (2147483647 : Int64)).toInt32)) 12) / (65536 : Int32)) / (10 : Int32) * (10 : Int32)) → (qM_drift_127 (fun F R J v1 v2 v3 => qM_drift_28 n28 F R J v1 v2 v3 K) F4 (va_up R4 0 (upd (R4 0) 12 ((((((R4 0 12).toInt64) * (1103515245 : Int64)) + (12345 : Int64)) &&& (2147483647 : Int64)).toInt32))) J4 v1 v3 (1 : Int32) v2 K))))))))
set_option maxHeartbeats 4000000 in
set_option maxRecDepth 100000 in
theorem lM_drift_28 {X : XT} {ka : Nat → ClassId} {ad : Nat → Nat} (C : Cx X cX10_drift 5 RX10 (some .int) ka 5) {K : Int32 → FT → RT → JT → Prop} (hret : RetI X cX10_drift .int 0 0 (fun z w => ∃ F R J, w = wM ad ka F R J ∧ K z F R J)) : ∀ (n : Nat) (F : FT) (R : RT) (J : JT) (v1 : Int32) (v2 : Int32) (v3 : Int32), qM_drift_28 n F R J v1 v2 v3 K → G X 0 0 (wM ad ka F R J) 28 [(0, .ref (ad 20)), (1, .int v1), (2, .int v2), (3, .int v3)] [] := by
  intro n
  induction n with
  | zero => intro F R J v1 v2 v3 h; exact h.elim
  | succ n ih =>
    intro F R J v1 v2 v3 h
    refine g_iload_n C 3 dX10_drift_28 rfl ?_
    refine g_iload_n C 1 dX10_drift_29 rfl ?_
    refine g_icmp_ge C 138 dX10_drift_30 (by decide) (fun c1 => ?_) (fun c1 => ?_)
    · have h := h.1 c1
      refine g_iload_n C 2 dX10_drift_138 rfl ?_
      exact hret _ _ _ _ ⟨_, _, _, rfl, h⟩ rfl dX10_drift_139
    · have h := h.2 c1
      refine g_aload_n C 0 dX10_drift_33 rfl ?_
      refine g_callVi0 C (kM_isSummer (xL X) (xD X) ka ad _ _ _ _ h) miX10_isSummer (gw_of tw4_228 rfl) (by decide) wM_at rfl rfl rfl (Nat.le_of_ble_eq_true rfl) z00 dX10_drift_34 (fun r2 w hw => ?_)
      obtain ⟨F2, R2, J2, rfl, h⟩ := hw
      refine g_if_ne C 138 dX10_drift_37 (by decide) (fun c3 => ?_) (fun c3 => ?_)
      · have h := h.1 c3
        refine g_iload_n C 2 dX10_drift_138 rfl ?_
        exact hret _ _ _ _ ⟨_, _, _, rfl, h⟩ rfl dX10_drift_139
      · have h := h.2 c3
        refine g_aload_n C 0 dX10_drift_40 rfl ?_
        refine g_callVv0 C (kM_notes (xL X) (xD X) ka ad _ _ _ _ h) miX10_notes (gw_of tw4_232 rfl) (by decide) wM_at rfl rfl rfl (Nat.le_of_ble_eq_true rfl) z00 dX10_drift_41 (fun w hw => ?_)
        obtain ⟨F4, R4, J4, rfl, h⟩ := hw
        refine g_aload_n C 0 dX10_drift_44 rfl ?_
        refine Mg_now C dX10_drift_45 ?_
        refine g_bipush C (12 : Int32) dX10_drift_48 cb_12 ?_
        refine g_aload_n C 0 dX10_drift_50 rfl ?_
        refine Mg_now C dX10_drift_51 ?_
        refine g_bipush C (12 : Int32) dX10_drift_54 cb_12 ?_
        refine Ma_now C (f := R4 0) rfl (12) (by decide) (vp_lit (by decide)) dX10_drift_56 ?_
        refine g_i2l C dX10_drift_57 ?_
        refine g_ldc2 C (gw_of tw5_32 rfl) dX10_drift_58 ?_
        refine g_lmul C dX10_drift_61 ?_
        refine g_ldc2 C (gw_of tw5_33 rfl) dX10_drift_62 ?_
        refine g_ladd C dX10_drift_65 ?_
        refine g_ldc2 C (gw_of tw5_34 rfl) dX10_drift_66 ?_
        refine g_land C dX10_drift_69 ?_
        refine g_l2i C dX10_drift_70 ?_
        refine Ms_now C (f := R4 0) rfl (12) (by decide) (vp_lit (by decide)) dX10_drift_71 ?_
        refine g_aload_n C 0 dX10_drift_72 rfl ?_
        refine Mg_now C dX10_drift_73 ?_
        refine g_bipush C (12 : Int32) dX10_drift_76 cb_12 ?_
        refine Ma_now (R := (va_up R4 0 (upd (R4 0) 12 ((((((R4 0 12).toInt64) * (1103515245 : Int64)) + (12345 : Int64)) &&& (2147483647 : Int64)).toInt32)))) C (f := upd (R4 0) 12 ((((((R4 0 12).toInt64) * (1103515245 : Int64)) + (12345 : Int64)) &&& (2147483647 : Int64)).toInt32)) rfl (12) (by decide) (vp_lit (by decide)) dX10_drift_78 ?_
        refine g_ldc C (gw_of tw5_35 rfl) dX10_drift_79 ?_
        refine g_idiv C dX10_drift_81 (by decide) ?_
        refine g_bipush C (10 : Int32) dX10_drift_82 cb_10 ?_
        refine g_irem C dX10_drift_84 (by decide) ?_
        refine g_istore C [(4, .int ((((upd (R4 0) 12 ((((((R4 0 12).toInt64) * (1103515245 : Int64)) + (12345 : Int64)) &&& (2147483647 : Int64)).toInt32)) 12) / (65536 : Int32)) - (((upd (R4 0) 12 ((((((R4 0 12).toInt64) * (1103515245 : Int64)) + (12345 : Int64)) &&& (2147483647 : Int64)).toInt32)) 12) / (65536 : Int32)) / (10 : Int32) * (10 : Int32))), (0, .ref (ad 20)), (1, .int v1), (2, .int v2), (3, .int v3)] dX10_drift_85 (by decide) rfl ?_
        refine g_iload_n C 3 dX10_drift_87 rfl ?_
        refine g_aload_n C 1 dX10_drift_88 rfl ?_
        refine g_iload C 0 dX10_drift_89 rfl ?_
        refine g_aload_n C 1 dX10_drift_91 rfl ?_
        refine Mg_now C dX10_drift_92 ?_
        refine g_iconst C (4 : Int32) dX10_drift_95 ci_4 ?_
        refine Ma_now (R := (va_up R4 0 (upd (R4 0) 12 ((((((R4 0 12).toInt64) * (1103515245 : Int64)) + (12345 : Int64)) &&& (2147483647 : Int64)).toInt32)))) C (f := upd (R4 0) 12 ((((((R4 0 12).toInt64) * (1103515245 : Int64)) + (12345 : Int64)) &&& (2147483647 : Int64)).toInt32)) rfl (4) (by decide) (vp_lit (by decide)) dX10_drift_96 ?_
        refine g_icmp_ge C 104 dX10_drift_97 (by decide) (fun c5 => ?_) (fun c5 => ?_)
        · have h := h.1 c5
          refine g_iload C 0 dX10_drift_104 rfl ?_
          refine g_aload_n C 1 dX10_drift_106 rfl ?_
          refine Mg_now C dX10_drift_107 ?_
          refine g_iconst C (4 : Int32) dX10_drift_110 ci_4 ?_
          refine Ma_now (R := (va_up R4 0 (upd (R4 0) 12 ((((((R4 0 12).toInt64) * (1103515245 : Int64)) + (12345 : Int64)) &&& (2147483647 : Int64)).toInt32)))) C (f := upd (R4 0) 12 ((((((R4 0 12).toInt64) * (1103515245 : Int64)) + (12345 : Int64)) &&& (2147483647 : Int64)).toInt32)) rfl (4) (by decide) (vp_lit (by decide)) dX10_drift_111 ?_
          refine g_aload_n C 1 dX10_drift_112 rfl ?_
          refine Mg_now C dX10_drift_113 ?_
          refine g_iconst C (5 : Int32) dX10_drift_116 ci_5 ?_
          refine Ma_now (R := (va_up R4 0 (upd (R4 0) 12 ((((((R4 0 12).toInt64) * (1103515245 : Int64)) + (12345 : Int64)) &&& (2147483647 : Int64)).toInt32)))) C (f := upd (R4 0) 12 ((((((R4 0 12).toInt64) * (1103515245 : Int64)) + (12345 : Int64)) &&& (2147483647 : Int64)).toInt32)) rfl (5) (by decide) (vp_lit (by decide)) dX10_drift_117 ?_
          refine g_iadd C dX10_drift_118 ?_
          refine g_icmp_ge C 126 dX10_drift_119 (by decide) (fun c6 => ?_) (fun c6 => ?_)
          · have h := h.1 c6
            refine g_iconst C (0 : Int32) dX10_drift_126 ci_0 ?_
            exact g_lv [1, 2, 4] rfl (lM_drift_127 C hret (fun F R J v1 v2 v3 h => ih F R J v1 v2 v3 h) _ _ _ _ _ _ _ h)
          · have h := h.2 c6
            refine g_iconst C (2 : Int32) dX10_drift_122 ci_2 ?_
            refine g_goto C 127 dX10_drift_123 (by decide) ?_
            exact g_lv [1, 2, 4] rfl (lM_drift_127 C hret (fun F R J v1 v2 v3 h => ih F R J v1 v2 v3 h) _ _ _ _ _ _ _ h)
        · have h := h.2 c5
          refine g_iconst C (1 : Int32) dX10_drift_100 ci_1 ?_
          refine g_goto C 127 dX10_drift_101 (by decide) ?_
          exact g_lv [1, 2, 4] rfl (lM_drift_127 C hret (fun F R J v1 v2 v3 h => ih F R J v1 v2 v3 h) _ _ _ _ _ _ _ h)
def qM_drift (F : FT) (R : RT) (J : JT) (a1 : Int32) (K : Int32 → FT → RT → JT → Prop) : Prop :=
  qM_in F R J a1.toInt64 (1 : Int64) (40 : Int64) (fun r1 F1 R1 J1 => (¬ r1 = 0 → (qM_isSummer F1 R1 J1 (fun r3 F3 R3 J3 => (r3 = 0 → (∃ n28, qM_drift_28 n28 F3 R3 J3 a1 (0 : Int32) (0 : Int32) K)) ∧ (¬ r3 = 0 → (K (-3 : Int32) F3 R3 J3))))) ∧ (r1 = 0 → (K (-1 : Int32) F1 R1 J1)))
set_option maxHeartbeats 4000000 in
set_option maxRecDepth 100000 in
theorem bM_drift {X : XT} {ka : Nat → ClassId} {ad : Nat → Nat} (C : Cx X cX10_drift 5 RX10 (some .int) ka 5) {K : Int32 → FT → RT → JT → Prop} (hret : RetI X cX10_drift .int 0 0 (fun z w => ∃ F R J, w = wM ad ka F R J ∧ K z F R J)) (F : FT) (R : RT) (J : JT) (a1 : Int32) (h : qM_drift F R J a1 K) : G X 0 0 (wM ad ka F R J) 0 [(0, .ref (ad 20)), (1, .int a1)] [] := by
  unfold qM_drift at h
  refine g_iload_n C 1 dX10_drift_0 rfl ?_
  refine g_i2l C dX10_drift_1 ?_
  refine g_lconst C (1 : Int64) dX10_drift_2 rfl ?_
  refine g_ldc2 C (gw_of tw4_162 rfl) dX10_drift_3 ?_
  refine g_callSi0 C (kM_in (xL X) (xD X) ka ad _ _ _ _ _ _ _ h) siX10_in (gw_of tw4_136 rfl) (by decide) rfl rfl (Nat.le_of_ble_eq_true rfl) z00 dX10_drift_6 (fun r1 w hw => ?_)
  obtain ⟨F1, R1, J1, rfl, h⟩ := hw
  refine g_if_ne C 14 dX10_drift_9 (by decide) (fun c2 => ?_) (fun c2 => ?_)
  · have h := h.1 c2
    refine g_aload_n C 0 dX10_drift_14 rfl ?_
    refine g_callVi0 C (kM_isSummer (xL X) (xD X) ka ad _ _ _ _ h) miX10_isSummer (gw_of tw4_228 rfl) (by decide) wM_at rfl rfl rfl (Nat.le_of_ble_eq_true rfl) z00 dX10_drift_15 (fun r3 w hw => ?_)
    obtain ⟨F3, R3, J3, rfl, h⟩ := hw
    refine g_if_eq C 24 dX10_drift_18 (by decide) (fun c4 => ?_) (fun c4 => ?_)
    · have h := h.1 c4
      refine g_iconst C (0 : Int32) dX10_drift_24 ci_0 ?_
      refine g_istore_n C [(2, .int (0 : Int32)), (0, .ref (ad 20)), (1, .int a1)] dX10_drift_25 (by decide) rfl ?_
      refine g_iconst C (0 : Int32) dX10_drift_26 ci_0 ?_
      refine g_istore_n C [(3, .int (0 : Int32)), (2, .int (0 : Int32)), (0, .ref (ad 20)), (1, .int a1)] dX10_drift_27 (by decide) rfl ?_
      obtain ⟨n1, h⟩ := h
      exact g_lv [2, 3, 1, 0] rfl (lM_drift_28 C hret n1 _ _ _ _ _ _ h)
    · have h := h.2 c4
      refine g_bipush C (-3 : Int32) dX10_drift_21 cb_m3 ?_
      exact hret _ _ _ _ ⟨_, _, _, rfl, h⟩ rfl dX10_drift_23
  · have h := h.2 c2
    refine g_iconst C (-1 : Int32) dX10_drift_12 ci_m1 ?_
    exact hret _ _ _ _ ⟨_, _, _, rfl, h⟩ rfl dX10_drift_13
set_option maxHeartbeats 4000000 in
set_option maxRecDepth 100000 in
theorem kM_drift (l : Launch) (D : va_G) (ka : Nat → ClassId) (ad : Nat → Nat) (F : FT) (R : RT) (J : JT) (a1 : Int32) (K : Int32 → FT → RT → JT → Prop) (h : qM_drift F R J a1 K) : MI l D ka yX10_drift cX10_drift 5 (some .int) 5 0 0 [.ref (ad 20), .int a1] (wM ad ka F R J) (fun z w => ∃ F R J, w = wM ad ka F R J ∧ K z F R J) := MI_of (by decide) (Nat.le_of_ble_eq_true rfl) (fun X C hroom hret => bM_drift C hret F R J a1 h)
set_option maxHeartbeats 4000000 in
set_option maxRecDepth 100000 in
theorem miX10_drift : MInf yX10_drift cX10_drift 5 (some .int) 1 := ⟨(gw_of tw5_29 rfl), (gw_of tw5_30 rfl), (gw_of tw1_6 rfl), (gw_of tw5_31 rfl), by decide +kernel, by decide⟩

def qM_undo_22 : Nat → FT → RT → JT → Int32 → (Int32 → FT → RT → JT → Prop) → Prop
  | 0, _, _, _, _ => fun _ => False
  | n22 + 1, F, R, J, v1 => fun K => ((5 : Int32) ≤ v1 → ((vp_in (((6 : Int32) * (F 9)) + (5 : Int32)) 48) ∧ (K (F 9) F (va_up R 0 (upd (R 0) 12 (R 8 ((((6 : Int32) * (F 9)) + (5 : Int32)).toNatClampNeg)))) J))) ∧ (¬ (5 : Int32) ≤ v1 → ((vp_in (((6 : Int32) * (F 9)) + v1) 48) ∧ ((vp_in ((6 : Int32) + v1) 37) ∧ (qM_undo_22 n22 F (va_up R 0 (upd (R 0) (((6 : Int32) + v1).toNatClampNeg) (R 8 ((((6 : Int32) * (F 9)) + v1).toNatClampNeg)))) J (v1 + (1 : Int32)) K))))
set_option maxHeartbeats 4000000 in
set_option maxRecDepth 100000 in
theorem lM_undo_22 {X : XT} {ka : Nat → ClassId} {ad : Nat → Nat} (C : Cx X cX10_undo 2 RX10 (some .int) ka 1) {K : Int32 → FT → RT → JT → Prop} (hret : RetI X cX10_undo .int 0 0 (fun z w => ∃ F R J, w = wM ad ka F R J ∧ K z F R J)) : ∀ (n : Nat) (F : FT) (R : RT) (J : JT) (v1 : Int32), qM_undo_22 n F R J v1 K → G X 0 0 (wM ad ka F R J) 22 [(0, .ref (ad 20)), (1, .int v1)] [] := by
  intro n
  induction n with
  | zero => intro F R J v1 h; exact h.elim
  | succ n ih =>
    intro F R J v1 h
    refine g_iload_n C 1 dX10_undo_22 rfl ?_
    refine g_iconst C (5 : Int32) dX10_undo_23 ci_5 ?_
    refine g_icmp_ge C 56 dX10_undo_24 (by decide) (fun c1 => ?_) (fun c1 => ?_)
    · have h := h.1 c1
      refine g_aload_n C 0 dX10_undo_56 rfl ?_
      refine Mg_now C dX10_undo_57 ?_
      refine g_bipush C (12 : Int32) dX10_undo_60 cb_12 ?_
      refine g_aload_n C 0 dX10_undo_62 rfl ?_
      refine Mg_undone C dX10_undo_63 ?_
      refine g_bipush C (6 : Int32) dX10_undo_66 cb_6 ?_
      refine g_aload_n C 0 dX10_undo_68 rfl ?_
      refine Mg_undos C (v := F 9) rfl dX10_undo_69 ?_
      refine g_imul C dX10_undo_72 ?_
      refine g_iconst C (5 : Int32) dX10_undo_73 ci_5 ?_
      refine g_iadd C dX10_undo_74 ?_
      refine Ma_undone C (f := R 8) rfl _ rfl h.1 dX10_undo_75 ?_
      have h := h.2
      refine Ms_now C (f := R 0) rfl (12) (by decide) (vp_lit (by decide)) dX10_undo_76 ?_
      refine g_aload_n C 0 dX10_undo_77 rfl ?_
      refine Mg_undos C (v := F 9) rfl dX10_undo_78 ?_
      exact hret _ _ _ _ ⟨_, _, _, rfl, h⟩ rfl dX10_undo_81
    · have h := h.2 c1
      refine g_aload_n C 0 dX10_undo_27 rfl ?_
      refine Mg_now C dX10_undo_28 ?_
      refine g_bipush C (6 : Int32) dX10_undo_31 cb_6 ?_
      refine g_iload_n C 1 dX10_undo_33 rfl ?_
      refine g_iadd C dX10_undo_34 ?_
      refine g_aload_n C 0 dX10_undo_35 rfl ?_
      refine Mg_undone C dX10_undo_36 ?_
      refine g_bipush C (6 : Int32) dX10_undo_39 cb_6 ?_
      refine g_aload_n C 0 dX10_undo_41 rfl ?_
      refine Mg_undos C (v := F 9) rfl dX10_undo_42 ?_
      refine g_imul C dX10_undo_45 ?_
      refine g_iload_n C 1 dX10_undo_46 rfl ?_
      refine g_iadd C dX10_undo_47 ?_
      refine Ma_undone C (f := R 8) rfl _ rfl h.1 dX10_undo_48 ?_
      have h := h.2
      refine Ms_now C (f := R 0) rfl _ rfl h.1 dX10_undo_49 ?_
      have h := h.2
      refine g_iinc C 1 (v1 + (1 : Int32)) [(1, .int (v1 + (1 : Int32))), (0, .ref (ad 20))] dX10_undo_50 rfl (by rw [ci_1]) (by decide) rfl ?_
      refine g_goto C 22 dX10_undo_53 (by decide) ?_
      exact g_lv [1, 0] rfl (ih _ _ _ _ h)
def qM_undo (F : FT) (R : RT) (J : JT)  (K : Int32 → FT → RT → JT → Prop) : Prop :=
  (¬ (F 9) = 0 → (∃ n22, qM_undo_22 n22 (upd F 9 ((F 9) - (1 : Int32))) R J (0 : Int32) K)) ∧ ((F 9) = 0 → (K (-4 : Int32) F R J))
set_option maxHeartbeats 4000000 in
set_option maxRecDepth 100000 in
theorem bM_undo {X : XT} {ka : Nat → ClassId} {ad : Nat → Nat} (C : Cx X cX10_undo 2 RX10 (some .int) ka 1) {K : Int32 → FT → RT → JT → Prop} (hret : RetI X cX10_undo .int 0 0 (fun z w => ∃ F R J, w = wM ad ka F R J ∧ K z F R J)) (F : FT) (R : RT) (J : JT)  (h : qM_undo F R J  K) : G X 0 0 (wM ad ka F R J) 0 [(0, .ref (ad 20))] [] := by
  unfold qM_undo at h
  refine g_aload_n C 0 dX10_undo_0 rfl ?_
  refine Mg_undos C (v := F 9) rfl dX10_undo_1 ?_
  refine g_if_ne C 10 dX10_undo_4 (by decide) (fun c1 => ?_) (fun c1 => ?_)
  · have h := h.1 c1
    refine g_aload_n C 0 dX10_undo_10 rfl ?_
    refine g_dup C dX10_undo_11 rfl ?_
    refine Mg_undos C (v := F 9) rfl dX10_undo_12 ?_
    refine g_iconst C (1 : Int32) dX10_undo_15 ci_1 ?_
    refine g_isub C dX10_undo_16 ?_
    refine Mp_undos C dX10_undo_17 ?_
    refine g_iconst C (0 : Int32) dX10_undo_20 ci_0 ?_
    refine g_istore_n C [(1, .int (0 : Int32)), (0, .ref (ad 20))] dX10_undo_21 (by decide) rfl ?_
    obtain ⟨n1, h⟩ := h
    exact g_lv [1, 0] rfl (lM_undo_22 C hret n1 _ _ _ _ h)
  · have h := h.2 c1
    refine g_bipush C (-4 : Int32) dX10_undo_7 cb_m4 ?_
    exact hret _ _ _ _ ⟨_, _, _, rfl, h⟩ rfl dX10_undo_9
set_option maxHeartbeats 4000000 in
set_option maxRecDepth 100000 in
theorem kM_undo (l : Launch) (D : va_G) (ka : Nat → ClassId) (ad : Nat → Nat) (F : FT) (R : RT) (J : JT)  (K : Int32 → FT → RT → JT → Prop) (h : qM_undo F R J  K) : MI l D ka yX10_undo cX10_undo 2 (some .int) 1 0 0 [.ref (ad 20)] (wM ad ka F R J) (fun z w => ∃ F R J, w = wM ad ka F R J ∧ K z F R J) := MI_of (by decide) (Nat.le_of_ble_eq_true rfl) (fun X C hroom hret => bM_undo C hret F R J  h)
set_option maxHeartbeats 4000000 in
set_option maxRecDepth 100000 in
theorem miX10_undo : MInf yX10_undo cX10_undo 2 (some .int) 0 := ⟨(gw_of tw5_37 rfl), (gw_of tw5_38 rfl), (gw_of tw1_6 rfl), (gw_of tw5_39 rfl), by decide +kernel, by decide⟩

def qM_seed (F : FT) (R : RT) (J : JT) (a1 : Int32) (K : Int32 → FT → RT → JT → Prop) : Prop :=
  (0 ≤ a1 → (K (R 0 12) F (va_up R 0 (upd (R 0) 12 a1)) J)) ∧ (¬ 0 ≤ a1 → (K (-1 : Int32) F R J))
set_option maxHeartbeats 4000000 in
set_option maxRecDepth 100000 in
theorem bM_seed {X : XT} {ka : Nat → ClassId} {ad : Nat → Nat} (C : Cx X cX10_seed 3 RX10 (some .int) ka 1) {K : Int32 → FT → RT → JT → Prop} (hret : RetI X cX10_seed .int 0 0 (fun z w => ∃ F R J, w = wM ad ka F R J ∧ K z F R J)) (F : FT) (R : RT) (J : JT) (a1 : Int32) (h : qM_seed F R J a1 K) : G X 0 0 (wM ad ka F R J) 0 [(0, .ref (ad 20)), (1, .int a1)] [] := by
  unfold qM_seed at h
  refine g_iload_n C 1 dX10_seed_0 rfl ?_
  refine g_if_ge C 6 dX10_seed_1 (by decide) (fun c1 => ?_) (fun c1 => ?_)
  · have h := h.1 c1
    refine g_aload_n C 0 dX10_seed_6 rfl ?_
    refine Mg_now C dX10_seed_7 ?_
    refine g_bipush C (12 : Int32) dX10_seed_10 cb_12 ?_
    refine Ma_now C (f := R 0) rfl (12) (by decide) (vp_lit (by decide)) dX10_seed_12 ?_
    refine g_istore_n C [(2, .int (R 0 12)), (0, .ref (ad 20)), (1, .int a1)] dX10_seed_13 (by decide) rfl ?_
    refine g_aload_n C 1 dX10_seed_14 rfl ?_
    refine Mg_now C dX10_seed_15 ?_
    refine g_bipush C (12 : Int32) dX10_seed_18 cb_12 ?_
    refine g_iload_n C 2 dX10_seed_20 rfl ?_
    refine Ms_now C (f := R 0) rfl (12) (by decide) (vp_lit (by decide)) dX10_seed_21 ?_
    refine g_iload_n C 0 dX10_seed_22 rfl ?_
    exact hret _ _ _ _ ⟨_, _, _, rfl, h⟩ rfl dX10_seed_23
  · have h := h.2 c1
    refine g_iconst C (-1 : Int32) dX10_seed_4 ci_m1 ?_
    exact hret _ _ _ _ ⟨_, _, _, rfl, h⟩ rfl dX10_seed_5
set_option maxHeartbeats 4000000 in
set_option maxRecDepth 100000 in
theorem kM_seed (l : Launch) (D : va_G) (ka : Nat → ClassId) (ad : Nat → Nat) (F : FT) (R : RT) (J : JT) (a1 : Int32) (K : Int32 → FT → RT → JT → Prop) (h : qM_seed F R J a1 K) : MI l D ka yX10_seed cX10_seed 3 (some .int) 1 0 0 [.ref (ad 20), .int a1] (wM ad ka F R J) (fun z w => ∃ F R J, w = wM ad ka F R J ∧ K z F R J) := MI_of (by decide) (Nat.le_of_ble_eq_true rfl) (fun X C hroom hret => bM_seed C hret F R J a1 h)
set_option maxHeartbeats 4000000 in
set_option maxRecDepth 100000 in
theorem miX10_seed : MInf yX10_seed cX10_seed 3 (some .int) 1 := ⟨(gw_of tw5_41 rfl), (gw_of tw5_42 rfl), (gw_of tw1_6 rfl), (gw_of tw5_43 rfl), by decide +kernel, by decide⟩

def qM_mixed (F : FT) (R : RT) (J : JT) (a1 : Int32) (a2 : Int32) (a3 : Int32) (K : Int32 → FT → RT → JT → Prop) : Prop :=
  K ((((a1 * (((10 : Int32) - (R 0 4)) - (R 0 5))) + (a2 * (R 0 4))) + (a3 * (R 0 5))) / (10 : Int32)) F R J
set_option maxHeartbeats 4000000 in
set_option maxRecDepth 100000 in
theorem bM_mixed {X : XT} {ka : Nat → ClassId} {ad : Nat → Nat} (C : Cx X cX10_mixed 4 RX10 (some .int) ka 1) {K : Int32 → FT → RT → JT → Prop} (hret : RetI X cX10_mixed .int 0 0 (fun z w => ∃ F R J, w = wM ad ka F R J ∧ K z F R J)) (F : FT) (R : RT) (J : JT) (a1 : Int32) (a2 : Int32) (a3 : Int32) (h : qM_mixed F R J a1 a2 a3 K) : G X 0 0 (wM ad ka F R J) 0 [(0, .ref (ad 20)), (1, .int a1), (2, .int a2), (3, .int a3)] [] := by
  unfold qM_mixed at h
  refine g_iload_n C 1 dX10_mixed_0 rfl ?_
  refine g_bipush C (10 : Int32) dX10_mixed_1 cb_10 ?_
  refine g_aload_n C 0 dX10_mixed_3 rfl ?_
  refine Mg_now C dX10_mixed_4 ?_
  refine g_iconst C (4 : Int32) dX10_mixed_7 ci_4 ?_
  refine Ma_now C (f := R 0) rfl (4) (by decide) (vp_lit (by decide)) dX10_mixed_8 ?_
  refine g_isub C dX10_mixed_9 ?_
  refine g_aload_n C 0 dX10_mixed_10 rfl ?_
  refine Mg_now C dX10_mixed_11 ?_
  refine g_iconst C (5 : Int32) dX10_mixed_14 ci_5 ?_
  refine Ma_now C (f := R 0) rfl (5) (by decide) (vp_lit (by decide)) dX10_mixed_15 ?_
  refine g_isub C dX10_mixed_16 ?_
  refine g_imul C dX10_mixed_17 ?_
  refine g_iload_n C 2 dX10_mixed_18 rfl ?_
  refine g_aload_n C 0 dX10_mixed_19 rfl ?_
  refine Mg_now C dX10_mixed_20 ?_
  refine g_iconst C (4 : Int32) dX10_mixed_23 ci_4 ?_
  refine Ma_now C (f := R 0) rfl (4) (by decide) (vp_lit (by decide)) dX10_mixed_24 ?_
  refine g_imul C dX10_mixed_25 ?_
  refine g_iadd C dX10_mixed_26 ?_
  refine g_iload_n C 3 dX10_mixed_27 rfl ?_
  refine g_aload_n C 0 dX10_mixed_28 rfl ?_
  refine Mg_now C dX10_mixed_29 ?_
  refine g_iconst C (5 : Int32) dX10_mixed_32 ci_5 ?_
  refine Ma_now C (f := R 0) rfl (5) (by decide) (vp_lit (by decide)) dX10_mixed_33 ?_
  refine g_imul C dX10_mixed_34 ?_
  refine g_iadd C dX10_mixed_35 ?_
  refine g_bipush C (10 : Int32) dX10_mixed_36 cb_10 ?_
  refine g_idiv C dX10_mixed_38 (by decide) ?_
  exact hret _ _ _ _ ⟨_, _, _, rfl, h⟩ rfl dX10_mixed_39
set_option maxHeartbeats 4000000 in
set_option maxRecDepth 100000 in
theorem kM_mixed (l : Launch) (D : va_G) (ka : Nat → ClassId) (ad : Nat → Nat) (F : FT) (R : RT) (J : JT) (a1 : Int32) (a2 : Int32) (a3 : Int32) (K : Int32 → FT → RT → JT → Prop) (h : qM_mixed F R J a1 a2 a3 K) : MI l D ka yX10_mixed cX10_mixed 4 (some .int) 1 0 0 [.ref (ad 20), .int a1, .int a2, .int a3] (wM ad ka F R J) (fun z w => ∃ F R J, w = wM ad ka F R J ∧ K z F R J) := MI_of (by decide) (Nat.le_of_ble_eq_true rfl) (fun X C hroom hret => bM_mixed C hret F R J a1 a2 a3 h)
set_option maxHeartbeats 4000000 in
set_option maxRecDepth 100000 in
theorem miX10_mixed : MInf yX10_mixed cX10_mixed 4 (some .int) 3 := ⟨(gw_of tw5_59 rfl), (gw_of tp_yX10_mixed rfl), (gw_of tw1_6 rfl), (gw_of tw5_60 rfl), by decide +kernel, by decide⟩

def qM_fills_111 : Nat → (FT → RT → JT → Int32 → Int32 → Int32 → Int32 → Int32 → Int32 → Prop) → FT → RT → JT → Int32 → Int32 → Int32 → Int32 → Int32 → Int32 → Int32 → Int32 → Int32 → (FT → RT → JT → Prop) → Prop
  | 0, _, _, _, _, _, _, _, _, _, _, _, _, _ => fun _ => False
  | n111 + 1, k65, F, R, J, v1, v2, v3, v4, v5, v6, v7, v8, v9 => fun K => ((R 0 2) ≤ v9 → ((vp_in (((201 : Int32) * v6) + (R 0 2)) 8241) ∧ (k65 F (va_up R 10 (upd (R 10) ((((201 : Int32) * v6) + (R 0 2)).toNatClampNeg) (1000000 : Int32))) J v1 v2 v3 v4 v5 (v6 + (-1 : Int32))))) ∧ (¬ (R 0 2) ≤ v9 → (qM_behind F R J (0 : Int32) v9 v7 (fun r2 F2 R2 J2 => (vp_in (v8 + r2) 8241) ∧ (qM_behind F2 R2 J2 (1 : Int32) v9 v7 (fun r3 F3 R3 J3 => (vp_in (v8 + r3) 8241) ∧ (qM_behind F3 R3 J3 (2 : Int32) v9 v7 (fun r4 F4 R4 J4 => (vp_in (v8 + r4) 8241) ∧ (qM_mixed F4 R4 J4 (R2 10 ((v8 + r2).toNatClampNeg)) (R3 10 ((v8 + r3).toNatClampNeg)) (R4 10 ((v8 + r4).toNatClampNeg)) (fun r5 F5 R5 J5 => (vp_in (((201 : Int32) * v6) + v9) 8241) ∧ (qM_fills_111 n111 k65 F5 (va_up R5 10 (upd (R5 10) ((((201 : Int32) * v6) + v9).toNatClampNeg) r5)) J5 v1 v2 v3 v4 v5 v6 v7 v8 (v9 + (1 : Int32)) K))))))))))
set_option maxHeartbeats 4000000 in
set_option maxRecDepth 100000 in
theorem lM_fills_111 {X : XT} {ka : Nat → ClassId} {ad : Nat → Nat} (C : Cx X cX10_fills 10 RX10 none ka 4) {K : FT → RT → JT → Prop} (hret : RetV X cX10_fills 0 0 (fun w => ∃ F R J, w = wM ad ka F R J ∧ K F R J)) {k65 : FT → RT → JT → Int32 → Int32 → Int32 → Int32 → Int32 → Int32 → Prop} (hk65 : ∀ (F : FT) (R : RT) (J : JT) (v1 : Int32) (v2 : Int32) (v3 : Int32) (v4 : Int32) (v5 : Int32) (v6 : Int32), k65 F R J v1 v2 v3 v4 v5 v6 → G X 0 0 (wM ad ka F R J) 65 [(0, .ref (ad 20)), (1, .int v1), (2, .int v2), (3, .int v3), (4, .int v4), (5, .int v5), (6, .int v6)] []) : ∀ (n : Nat) (F : FT) (R : RT) (J : JT) (v1 : Int32) (v2 : Int32) (v3 : Int32) (v4 : Int32) (v5 : Int32) (v6 : Int32) (v7 : Int32) (v8 : Int32) (v9 : Int32), qM_fills_111 n k65 F R J v1 v2 v3 v4 v5 v6 v7 v8 v9 K → G X 0 0 (wM ad ka F R J) 111 [(0, .ref (ad 20)), (1, .int v1), (2, .int v2), (3, .int v3), (4, .int v4), (5, .int v5), (6, .int v6), (7, .int v7), (8, .int v8), (9, .int v9)] [] := by
  intro n
  induction n with
  | zero => intro F R J v1 v2 v3 v4 v5 v6 v7 v8 v9 h; exact h.elim
  | succ n ih =>
    intro F R J v1 v2 v3 v4 v5 v6 v7 v8 v9 h
    refine g_iload C 9 dX10_fills_111 rfl ?_
    refine g_aload_n C 0 dX10_fills_113 rfl ?_
    refine Mg_now C dX10_fills_114 ?_
    refine g_iconst C (2 : Int32) dX10_fills_117 ci_2 ?_
    refine Ma_now C (f := R 0) rfl (2) (by decide) (vp_lit (by decide)) dX10_fills_118 ?_
    refine g_icmp_ge C 197 dX10_fills_119 (by decide) (fun c1 => ?_) (fun c1 => ?_)
    · have h := h.1 c1
      refine g_aload_n C 0 dX10_fills_197 rfl ?_
      refine Mg_chances C dX10_fills_198 ?_
      refine g_sipush C (201 : Int32) dX10_fills_201 cs_201 ?_
      refine g_iload C 6 dX10_fills_204 rfl ?_
      refine g_imul C dX10_fills_206 ?_
      refine g_aload_n C 0 dX10_fills_207 rfl ?_
      refine Mg_now C dX10_fills_208 ?_
      refine g_iconst C (2 : Int32) dX10_fills_211 ci_2 ?_
      refine Ma_now C (f := R 0) rfl (2) (by decide) (vp_lit (by decide)) dX10_fills_212 ?_
      refine g_iadd C dX10_fills_213 ?_
      refine g_ldc C (gw_of tw5_56 rfl) dX10_fills_214 ?_
      refine Ms_chances C (f := R 10) rfl _ rfl h.1 dX10_fills_216 ?_
      have h := h.2
      refine g_iinc C 6 (v6 + (-1 : Int32)) [(6, .int (v6 + (-1 : Int32))), (0, .ref (ad 20)), (1, .int v1), (2, .int v2), (3, .int v3), (4, .int v4), (5, .int v5), (7, .int v7), (8, .int v8), (9, .int v9)] dX10_fills_217 rfl (by rw [ci_m1]) (by decide) rfl ?_
      refine g_goto C 65 dX10_fills_220 (by decide) ?_
      exact g_lv [1, 2, 3, 4, 5, 6, 0] rfl (hk65 _ _ _ _ _ _ _ _ _ h)
    · have h := h.2 c1
      refine g_aload_n C 0 dX10_fills_122 rfl ?_
      refine Mg_chances C dX10_fills_123 ?_
      refine g_sipush C (201 : Int32) dX10_fills_126 cs_201 ?_
      refine g_iload C 6 dX10_fills_129 rfl ?_
      refine g_imul C dX10_fills_131 ?_
      refine g_iload C 9 dX10_fills_132 rfl ?_
      refine g_iadd C dX10_fills_134 ?_
      refine g_aload_n C 0 dX10_fills_135 rfl ?_
      refine g_aload_n C 0 dX10_fills_136 rfl ?_
      refine Mg_chances C dX10_fills_137 ?_
      refine g_iload C 8 dX10_fills_140 rfl ?_
      refine g_aload_n C 0 dX10_fills_142 rfl ?_
      refine g_iconst C (0 : Int32) dX10_fills_143 ci_0 ?_
      refine g_iload C 9 dX10_fills_144 rfl ?_
      refine g_iload C 7 dX10_fills_146 rfl ?_
      refine g_callVi0 C (kM_behind (xL X) (xD X) ka ad _ _ _ _ _ _ _ h) miX10_behind (gw_of tw5_0 rfl) (by decide) wM_at rfl rfl rfl (Nat.le_of_ble_eq_true rfl) z00 dX10_fills_148 (fun r2 w hw => ?_)
      obtain ⟨F2, R2, J2, rfl, h⟩ := hw
      refine g_iadd C dX10_fills_151 ?_
      refine Ma_chances C (f := R2 10) rfl _ rfl h.1 dX10_fills_152 ?_
      have h := h.2
      refine g_aload_n C 0 dX10_fills_153 rfl ?_
      refine Mg_chances C dX10_fills_154 ?_
      refine g_iload C 8 dX10_fills_157 rfl ?_
      refine g_aload_n C 0 dX10_fills_159 rfl ?_
      refine g_iconst C (1 : Int32) dX10_fills_160 ci_1 ?_
      refine g_iload C 9 dX10_fills_161 rfl ?_
      refine g_iload C 7 dX10_fills_163 rfl ?_
      refine g_callVi0 C (kM_behind (xL X) (xD X) ka ad _ _ _ _ _ _ _ h) miX10_behind (gw_of tw5_0 rfl) (by decide) wM_at rfl rfl rfl (Nat.le_of_ble_eq_true rfl) z00 dX10_fills_165 (fun r3 w hw => ?_)
      obtain ⟨F3, R3, J3, rfl, h⟩ := hw
      refine g_iadd C dX10_fills_168 ?_
      refine Ma_chances C (f := R3 10) rfl _ rfl h.1 dX10_fills_169 ?_
      have h := h.2
      refine g_aload_n C 0 dX10_fills_170 rfl ?_
      refine Mg_chances C dX10_fills_171 ?_
      refine g_iload C 8 dX10_fills_174 rfl ?_
      refine g_aload_n C 0 dX10_fills_176 rfl ?_
      refine g_iconst C (2 : Int32) dX10_fills_177 ci_2 ?_
      refine g_iload C 9 dX10_fills_178 rfl ?_
      refine g_iload C 7 dX10_fills_180 rfl ?_
      refine g_callVi0 C (kM_behind (xL X) (xD X) ka ad _ _ _ _ _ _ _ h) miX10_behind (gw_of tw5_0 rfl) (by decide) wM_at rfl rfl rfl (Nat.le_of_ble_eq_true rfl) z00 dX10_fills_182 (fun r4 w hw => ?_)
      obtain ⟨F4, R4, J4, rfl, h⟩ := hw
      refine g_iadd C dX10_fills_185 ?_
      refine Ma_chances C (f := R4 10) rfl _ rfl h.1 dX10_fills_186 ?_
      have h := h.2
      refine g_callVi0 C (kM_mixed (xL X) (xD X) ka ad _ _ _ _ _ _ _ h) miX10_mixed (gw_of tw5_57 rfl) (by decide) wM_at rfl rfl rfl (Nat.le_of_ble_eq_true rfl) z00 dX10_fills_187 (fun r5 w hw => ?_)
      obtain ⟨F5, R5, J5, rfl, h⟩ := hw
      refine Ms_chances C (f := R5 10) rfl _ rfl h.1 dX10_fills_190 ?_
      have h := h.2
      refine g_iinc C 9 (v9 + (1 : Int32)) [(9, .int (v9 + (1 : Int32))), (0, .ref (ad 20)), (1, .int v1), (2, .int v2), (3, .int v3), (4, .int v4), (5, .int v5), (6, .int v6), (7, .int v7), (8, .int v8)] dX10_fills_191 rfl (by rw [ci_1]) (by decide) rfl ?_
      refine g_goto C 111 dX10_fills_194 (by decide) ?_
      exact g_lv [1, 2, 3, 4, 5, 6, 7, 8, 9, 0] rfl (ih _ _ _ _ _ _ _ _ _ _ _ _ h)
def qM_fills_95 (k65 : FT → RT → JT → Int32 → Int32 → Int32 → Int32 → Int32 → Int32 → Prop) (F : FT) (R : RT) (J : JT) (v1 : Int32) (v2 : Int32) (v3 : Int32) (v4 : Int32) (v5 : Int32) (v6 : Int32) (s0 : Int32) (s1 : Int32) (K : FT → RT → JT → Prop) : Prop :=
  ∃ n111, qM_fills_111 n111 k65 F R J v1 v2 v3 v4 v5 v6 (s1 + s0) ((201 : Int32) * (v6 + (1 : Int32))) (0 : Int32) K
set_option maxHeartbeats 4000000 in
set_option maxRecDepth 100000 in
theorem lM_fills_95 {X : XT} {ka : Nat → ClassId} {ad : Nat → Nat} (C : Cx X cX10_fills 10 RX10 none ka 4) {K : FT → RT → JT → Prop} (hret : RetV X cX10_fills 0 0 (fun w => ∃ F R J, w = wM ad ka F R J ∧ K F R J)) {k65 : FT → RT → JT → Int32 → Int32 → Int32 → Int32 → Int32 → Int32 → Prop} (hk65 : ∀ (F : FT) (R : RT) (J : JT) (v1 : Int32) (v2 : Int32) (v3 : Int32) (v4 : Int32) (v5 : Int32) (v6 : Int32), k65 F R J v1 v2 v3 v4 v5 v6 → G X 0 0 (wM ad ka F R J) 65 [(0, .ref (ad 20)), (1, .int v1), (2, .int v2), (3, .int v3), (4, .int v4), (5, .int v5), (6, .int v6)] []) (F : FT) (R : RT) (J : JT) (v1 : Int32) (v2 : Int32) (v3 : Int32) (v4 : Int32) (v5 : Int32) (v6 : Int32) (s0 : Int32) (s1 : Int32) (h : qM_fills_95 k65 F R J v1 v2 v3 v4 v5 v6 s0 s1 K) : G X 0 0 (wM ad ka F R J) 95 [(0, .ref (ad 20)), (1, .int v1), (2, .int v2), (3, .int v3), (4, .int v4), (5, .int v5), (6, .int v6)] [.int s0, .int s1] := by
  unfold qM_fills_95 at h
  refine g_iadd C dX10_fills_95 ?_
  refine g_istore C [(7, .int (s1 + s0)), (0, .ref (ad 20)), (1, .int v1), (2, .int v2), (3, .int v3), (4, .int v4), (5, .int v5), (6, .int v6)] dX10_fills_96 (by decide) rfl ?_
  refine g_sipush C (201 : Int32) dX10_fills_98 cs_201 ?_
  refine g_iload C 7 dX10_fills_101 rfl ?_
  refine g_iconst C (1 : Int32) dX10_fills_103 ci_1 ?_
  refine g_iadd C dX10_fills_104 ?_
  refine g_imul C dX10_fills_105 ?_
  refine g_istore C [(8, .int ((201 : Int32) * (v6 + (1 : Int32)))), (7, .int (s1 + s0)), (0, .ref (ad 20)), (1, .int v1), (2, .int v2), (3, .int v3), (4, .int v4), (5, .int v5), (6, .int v6)] dX10_fills_106 (by decide) rfl ?_
  refine g_iconst C (0 : Int32) dX10_fills_108 ci_0 ?_
  refine g_istore C [(9, .int (0 : Int32)), (8, .int ((201 : Int32) * (v6 + (1 : Int32)))), (7, .int (s1 + s0)), (0, .ref (ad 20)), (1, .int v1), (2, .int v2), (3, .int v3), (4, .int v4), (5, .int v5), (6, .int v6)] dX10_fills_109 (by decide) rfl ?_
  obtain ⟨n1, h⟩ := h
  exact g_lv [3, 4, 5, 6, 7, 8, 9, 2, 1, 0] rfl (lM_fills_111 C hret hk65 n1 _ _ _ _ _ _ _ _ _ _ _ _ h)
def qM_fills_82 (k65 : FT → RT → JT → Int32 → Int32 → Int32 → Int32 → Int32 → Int32 → Prop) (F : FT) (R : RT) (J : JT) (v1 : Int32) (v2 : Int32) (v3 : Int32) (v4 : Int32) (v5 : Int32) (v6 : Int32) (s0 : Int32) (K : FT → RT → JT → Prop) : Prop :=
  (¬ v6 = v4 → (qM_fills_95 k65 F R J v1 v2 v3 v4 v5 v6 (0 : Int32) s0 K)) ∧ (v6 = v4 → (qM_fills_95 k65 F R J v1 v2 v3 v4 v5 v6 v5 s0 K))
set_option maxHeartbeats 4000000 in
set_option maxRecDepth 100000 in
theorem lM_fills_82 {X : XT} {ka : Nat → ClassId} {ad : Nat → Nat} (C : Cx X cX10_fills 10 RX10 none ka 4) {K : FT → RT → JT → Prop} (hret : RetV X cX10_fills 0 0 (fun w => ∃ F R J, w = wM ad ka F R J ∧ K F R J)) {k65 : FT → RT → JT → Int32 → Int32 → Int32 → Int32 → Int32 → Int32 → Prop} (hk65 : ∀ (F : FT) (R : RT) (J : JT) (v1 : Int32) (v2 : Int32) (v3 : Int32) (v4 : Int32) (v5 : Int32) (v6 : Int32), k65 F R J v1 v2 v3 v4 v5 v6 → G X 0 0 (wM ad ka F R J) 65 [(0, .ref (ad 20)), (1, .int v1), (2, .int v2), (3, .int v3), (4, .int v4), (5, .int v5), (6, .int v6)] []) (F : FT) (R : RT) (J : JT) (v1 : Int32) (v2 : Int32) (v3 : Int32) (v4 : Int32) (v5 : Int32) (v6 : Int32) (s0 : Int32) (h : qM_fills_82 k65 F R J v1 v2 v3 v4 v5 v6 s0 K) : G X 0 0 (wM ad ka F R J) 82 [(0, .ref (ad 20)), (1, .int v1), (2, .int v2), (3, .int v3), (4, .int v4), (5, .int v5), (6, .int v6)] [.int s0] := by
  unfold qM_fills_82 at h
  refine g_iload C 6 dX10_fills_82 rfl ?_
  refine g_iload C 4 dX10_fills_84 rfl ?_
  refine g_icmp_ne C 94 dX10_fills_86 (by decide) (fun c1 => ?_) (fun c1 => ?_)
  · have h := h.1 c1
    refine g_iconst C (0 : Int32) dX10_fills_94 ci_0 ?_
    exact g_lv [0, 1, 2, 3, 4, 5, 6] rfl (lM_fills_95 C hret hk65 _ _ _ _ _ _ _ _ _ _ _ h)
  · have h := h.2 c1
    refine g_iload C 5 dX10_fills_89 rfl ?_
    refine g_goto C 95 dX10_fills_91 (by decide) ?_
    exact g_lv [0, 1, 2, 3, 4, 5, 6] rfl (lM_fills_95 C hret hk65 _ _ _ _ _ _ _ _ _ _ _ h)
def qM_fills_65 : Nat → FT → RT → JT → Int32 → Int32 → Int32 → Int32 → Int32 → Int32 → (FT → RT → JT → Prop) → Prop
  | 0, _, _, _, _, _, _, _, _, _ => fun _ => False
  | n65 + 1, F, R, J, v1, v2, v3, v4, v5, v6 => fun K => (v6 < v1 → (K F R J)) ∧ (¬ v6 < v1 → ((¬ v6 = v2 → (qM_fills_82 (fun F R J v1 v2 v3 v4 v5 v6 => qM_fills_65 n65 F R J v1 v2 v3 v4 v5 v6 K) F R J v1 v2 v3 v4 v5 v6 (0 : Int32) K)) ∧ (v6 = v2 → (qM_fills_82 (fun F R J v1 v2 v3 v4 v5 v6 => qM_fills_65 n65 F R J v1 v2 v3 v4 v5 v6 K) F R J v1 v2 v3 v4 v5 v6 v3 K))))
set_option maxHeartbeats 4000000 in
set_option maxRecDepth 100000 in
theorem lM_fills_65 {X : XT} {ka : Nat → ClassId} {ad : Nat → Nat} (C : Cx X cX10_fills 10 RX10 none ka 4) {K : FT → RT → JT → Prop} (hret : RetV X cX10_fills 0 0 (fun w => ∃ F R J, w = wM ad ka F R J ∧ K F R J)) : ∀ (n : Nat) (F : FT) (R : RT) (J : JT) (v1 : Int32) (v2 : Int32) (v3 : Int32) (v4 : Int32) (v5 : Int32) (v6 : Int32), qM_fills_65 n F R J v1 v2 v3 v4 v5 v6 K → G X 0 0 (wM ad ka F R J) 65 [(0, .ref (ad 20)), (1, .int v1), (2, .int v2), (3, .int v3), (4, .int v4), (5, .int v5), (6, .int v6)] [] := by
  intro n
  induction n with
  | zero => intro F R J v1 v2 v3 v4 v5 v6 h; exact h.elim
  | succ n ih =>
    intro F R J v1 v2 v3 v4 v5 v6 h
    refine g_iload C 6 dX10_fills_65 rfl ?_
    refine g_iload_n C 1 dX10_fills_67 rfl ?_
    refine g_icmp_lt C 223 dX10_fills_68 (by decide) (fun c1 => ?_) (fun c1 => ?_)
    · have h := h.1 c1
      exact hret _ _ _ ⟨_, _, _, rfl, h⟩ dX10_fills_223
    · have h := h.2 c1
      refine g_iload C 6 dX10_fills_71 rfl ?_
      refine g_iload_n C 2 dX10_fills_73 rfl ?_
      refine g_icmp_ne C 81 dX10_fills_74 (by decide) (fun c2 => ?_) (fun c2 => ?_)
      · have h := h.1 c2
        refine g_iconst C (0 : Int32) dX10_fills_81 ci_0 ?_
        exact g_lv [0, 1, 2, 3, 4, 5, 6] rfl (lM_fills_82 C hret (fun F R J v1 v2 v3 v4 v5 v6 h => ih F R J v1 v2 v3 v4 v5 v6 h) _ _ _ _ _ _ _ _ _ _ h)
      · have h := h.2 c2
        refine g_iload_n C 3 dX10_fills_77 rfl ?_
        refine g_goto C 82 dX10_fills_78 (by decide) ?_
        exact g_lv [0, 1, 2, 3, 4, 5, 6] rfl (lM_fills_82 C hret (fun F R J v1 v2 v3 v4 v5 v6 h => ih F R J v1 v2 v3 v4 v5 v6 h) _ _ _ _ _ _ _ _ _ _ h)
def qM_fills_48 (k3 : FT → RT → JT → Int32 → Int32 → Int32 → Int32 → Int32 → Int32 → Prop) (F : FT) (R : RT) (J : JT) (v1 : Int32) (v2 : Int32) (v3 : Int32) (v4 : Int32) (v5 : Int32) (v6 : Int32) (s0 : Int32) (s1 : Int32) (K : FT → RT → JT → Prop) : Prop :=
  (vp_in s1 8241) ∧ (k3 F (va_up R 10 (upd (R 10) s1.toNatClampNeg s0)) J v1 v2 v3 v4 v5 (v6 + (1 : Int32)))
set_option maxHeartbeats 4000000 in
set_option maxRecDepth 100000 in
theorem lM_fills_48 {X : XT} {ka : Nat → ClassId} {ad : Nat → Nat} (C : Cx X cX10_fills 10 RX10 none ka 4) {K : FT → RT → JT → Prop} (hret : RetV X cX10_fills 0 0 (fun w => ∃ F R J, w = wM ad ka F R J ∧ K F R J)) {k3 : FT → RT → JT → Int32 → Int32 → Int32 → Int32 → Int32 → Int32 → Prop} (hk3 : ∀ (F : FT) (R : RT) (J : JT) (v1 : Int32) (v2 : Int32) (v3 : Int32) (v4 : Int32) (v5 : Int32) (v6 : Int32), k3 F R J v1 v2 v3 v4 v5 v6 → G X 0 0 (wM ad ka F R J) 3 [(0, .ref (ad 20)), (1, .int v1), (2, .int v2), (3, .int v3), (4, .int v4), (5, .int v5), (6, .int v6)] []) (F : FT) (R : RT) (J : JT) (v1 : Int32) (v2 : Int32) (v3 : Int32) (v4 : Int32) (v5 : Int32) (v6 : Int32) (s0 : Int32) (s1 : Int32) (h : qM_fills_48 k3 F R J v1 v2 v3 v4 v5 v6 s0 s1 K) : G X 0 0 (wM ad ka F R J) 48 [(0, .ref (ad 20)), (1, .int v1), (2, .int v2), (3, .int v3), (4, .int v4), (5, .int v5), (6, .int v6)] [.int s0, .int s1, .ref (ad 10)] := by
  unfold qM_fills_48 at h
  refine Ms_chances C (f := R 10) rfl _ rfl h.1 dX10_fills_48 ?_
  have h := h.2
  refine g_iinc C 6 (v6 + (1 : Int32)) [(6, .int (v6 + (1 : Int32))), (0, .ref (ad 20)), (1, .int v1), (2, .int v2), (3, .int v3), (4, .int v4), (5, .int v5)] dX10_fills_49 rfl (by rw [ci_1]) (by decide) rfl ?_
  refine g_goto C 3 dX10_fills_52 (by decide) ?_
  exact g_lv [1, 2, 3, 4, 5, 6, 0] rfl (hk3 _ _ _ _ _ _ _ _ _ h)
def qM_fills_3 : Nat → FT → RT → JT → Int32 → Int32 → Int32 → Int32 → Int32 → Int32 → (FT → RT → JT → Prop) → Prop
  | 0, _, _, _, _, _, _, _, _, _ => fun _ => False
  | n3 + 1, F, R, J, v1, v2, v3, v4, v5, v6 => fun K => ((R 0 2) < v6 → (∃ n65, qM_fills_65 n65 F R J v1 v2 v3 v4 v5 ((R 0 3) - (1 : Int32)) K)) ∧ (¬ (R 0 2) < v6 → ((¬ v6 = (R 0 2) → (qM_fills_48 (fun F R J v1 v2 v3 v4 v5 v6 => qM_fills_3 n3 F R J v1 v2 v3 v4 v5 v6 K) F R J v1 v2 v3 v4 v5 v6 (0 : Int32) (((201 : Int32) * (R 0 3)) + v6) K)) ∧ (v6 = (R 0 2) → (qM_fills_48 (fun F R J v1 v2 v3 v4 v5 v6 => qM_fills_3 n3 F R J v1 v2 v3 v4 v5 v6 K) F R J v1 v2 v3 v4 v5 v6 (1000000 : Int32) (((201 : Int32) * (R 0 3)) + v6) K))))
set_option maxHeartbeats 4000000 in
set_option maxRecDepth 100000 in
theorem lM_fills_3 {X : XT} {ka : Nat → ClassId} {ad : Nat → Nat} (C : Cx X cX10_fills 10 RX10 none ka 4) {K : FT → RT → JT → Prop} (hret : RetV X cX10_fills 0 0 (fun w => ∃ F R J, w = wM ad ka F R J ∧ K F R J)) : ∀ (n : Nat) (F : FT) (R : RT) (J : JT) (v1 : Int32) (v2 : Int32) (v3 : Int32) (v4 : Int32) (v5 : Int32) (v6 : Int32), qM_fills_3 n F R J v1 v2 v3 v4 v5 v6 K → G X 0 0 (wM ad ka F R J) 3 [(0, .ref (ad 20)), (1, .int v1), (2, .int v2), (3, .int v3), (4, .int v4), (5, .int v5), (6, .int v6)] [] := by
  intro n
  induction n with
  | zero => intro F R J v1 v2 v3 v4 v5 v6 h; exact h.elim
  | succ n ih =>
    intro F R J v1 v2 v3 v4 v5 v6 h
    refine g_iload C 6 dX10_fills_3 rfl ?_
    refine g_aload_n C 0 dX10_fills_5 rfl ?_
    refine Mg_now C dX10_fills_6 ?_
    refine g_iconst C (2 : Int32) dX10_fills_9 ci_2 ?_
    refine Ma_now C (f := R 0) rfl (2) (by decide) (vp_lit (by decide)) dX10_fills_10 ?_
    refine g_icmp_gt C 55 dX10_fills_11 (by decide) (fun c1 => ?_) (fun c1 => ?_)
    · have h := h.1 c1
      refine g_aload_n C 0 dX10_fills_55 rfl ?_
      refine Mg_now C dX10_fills_56 ?_
      refine g_iconst C (3 : Int32) dX10_fills_59 ci_3 ?_
      refine Ma_now C (f := R 0) rfl (3) (by decide) (vp_lit (by decide)) dX10_fills_60 ?_
      refine g_iconst C (1 : Int32) dX10_fills_61 ci_1 ?_
      refine g_isub C dX10_fills_62 ?_
      refine g_istore C [(6, .int ((R 0 3) - (1 : Int32))), (0, .ref (ad 20)), (1, .int v1), (2, .int v2), (3, .int v3), (4, .int v4), (5, .int v5)] dX10_fills_63 (by decide) rfl ?_
      obtain ⟨n1, h⟩ := h
      exact g_lv [1, 2, 3, 4, 5, 6, 0] rfl (lM_fills_65 C hret n1 _ _ _ _ _ _ _ _ _ h)
    · have h := h.2 c1
      refine g_aload_n C 0 dX10_fills_14 rfl ?_
      refine Mg_chances C dX10_fills_15 ?_
      refine g_sipush C (201 : Int32) dX10_fills_18 cs_201 ?_
      refine g_aload_n C 0 dX10_fills_21 rfl ?_
      refine Mg_now C dX10_fills_22 ?_
      refine g_iconst C (3 : Int32) dX10_fills_25 ci_3 ?_
      refine Ma_now C (f := R 0) rfl (3) (by decide) (vp_lit (by decide)) dX10_fills_26 ?_
      refine g_imul C dX10_fills_27 ?_
      refine g_iload C 6 dX10_fills_28 rfl ?_
      refine g_iadd C dX10_fills_30 ?_
      refine g_iload C 6 dX10_fills_31 rfl ?_
      refine g_aload_n C 0 dX10_fills_33 rfl ?_
      refine Mg_now C dX10_fills_34 ?_
      refine g_iconst C (2 : Int32) dX10_fills_37 ci_2 ?_
      refine Ma_now C (f := R 0) rfl (2) (by decide) (vp_lit (by decide)) dX10_fills_38 ?_
      refine g_icmp_ne C 47 dX10_fills_39 (by decide) (fun c2 => ?_) (fun c2 => ?_)
      · have h := h.1 c2
        refine g_iconst C (0 : Int32) dX10_fills_47 ci_0 ?_
        exact g_lv [0, 1, 2, 3, 4, 5, 6] rfl (lM_fills_48 C hret (fun F R J v1 v2 v3 v4 v5 v6 h => ih F R J v1 v2 v3 v4 v5 v6 h) _ _ _ _ _ _ _ _ _ _ _ h)
      · have h := h.2 c2
        refine g_ldc C (gw_of tw5_56 rfl) dX10_fills_42 ?_
        refine g_goto C 48 dX10_fills_44 (by decide) ?_
        exact g_lv [0, 1, 2, 3, 4, 5, 6] rfl (lM_fills_48 C hret (fun F R J v1 v2 v3 v4 v5 v6 h => ih F R J v1 v2 v3 v4 v5 v6 h) _ _ _ _ _ _ _ _ _ _ _ h)
def qM_fills (F : FT) (R : RT) (J : JT) (a1 : Int32) (a2 : Int32) (a3 : Int32) (a4 : Int32) (a5 : Int32) (K : FT → RT → JT → Prop) : Prop :=
  ∃ n3, qM_fills_3 n3 F R J a1 a2 a3 a4 a5 (0 : Int32) K
set_option maxHeartbeats 4000000 in
set_option maxRecDepth 100000 in
theorem bM_fills {X : XT} {ka : Nat → ClassId} {ad : Nat → Nat} (C : Cx X cX10_fills 10 RX10 none ka 4) {K : FT → RT → JT → Prop} (hret : RetV X cX10_fills 0 0 (fun w => ∃ F R J, w = wM ad ka F R J ∧ K F R J)) (F : FT) (R : RT) (J : JT) (a1 : Int32) (a2 : Int32) (a3 : Int32) (a4 : Int32) (a5 : Int32) (h : qM_fills F R J a1 a2 a3 a4 a5 K) : G X 0 0 (wM ad ka F R J) 0 [(0, .ref (ad 20)), (1, .int a1), (2, .int a2), (3, .int a3), (4, .int a4), (5, .int a5)] [] := by
  unfold qM_fills at h
  refine g_iconst C (0 : Int32) dX10_fills_0 ci_0 ?_
  refine g_istore C [(6, .int (0 : Int32)), (0, .ref (ad 20)), (1, .int a1), (2, .int a2), (3, .int a3), (4, .int a4), (5, .int a5)] dX10_fills_1 (by decide) rfl ?_
  obtain ⟨n1, h⟩ := h
  exact g_lv [1, 2, 3, 4, 5, 6, 0] rfl (lM_fills_3 C hret n1 _ _ _ _ _ _ _ _ _ h)
set_option maxHeartbeats 4000000 in
set_option maxRecDepth 100000 in
theorem kM_fills (l : Launch) (D : va_G) (ka : Nat → ClassId) (ad : Nat → Nat) (F : FT) (R : RT) (J : JT) (a1 : Int32) (a2 : Int32) (a3 : Int32) (a4 : Int32) (a5 : Int32) (K : FT → RT → JT → Prop) (h : qM_fills F R J a1 a2 a3 a4 a5 K) : MV l D ka yX10_fills cX10_fills 10 none 4 0 0 [.ref (ad 20), .int a1, .int a2, .int a3, .int a4, .int a5] (wM ad ka F R J) (fun w => ∃ F R J, w = wM ad ka F R J ∧ K F R J) := MV_of (by decide) (Nat.le_of_ble_eq_true rfl) (fun X C hroom hret => bM_fills C hret F R J a1 a2 a3 a4 a5 h)
set_option maxHeartbeats 4000000 in
set_option maxRecDepth 100000 in
theorem miX10_fills : MInf yX10_fills cX10_fills 10 none 5 := ⟨(gw_of tw5_54 rfl), (gw_of tp_yX10_fills rfl), (gw_of tw1_6 rfl), (gw_of tw5_55 rfl), by decide +kernel, by decide⟩

def qM_oddsBy (F : FT) (R : RT) (J : JT) (a1 : Int32) (a2 : Int32) (K : Int32 → FT → RT → JT → Prop) : Prop :=
  qM_fills F R J (R 0 6) (R 0 6) (R 0 9) a1 a2 (fun F1 R1 J1 => (vp_in (((201 : Int32) * (R1 0 6)) + (R1 0 7)) 8241) ∧ (K (R1 10 ((((201 : Int32) * (R1 0 6)) + (R1 0 7)).toNatClampNeg)) F1 R1 J1))
set_option maxHeartbeats 4000000 in
set_option maxRecDepth 100000 in
theorem bM_oddsBy {X : XT} {ka : Nat → ClassId} {ad : Nat → Nat} (C : Cx X cX10_oddsBy 3 RX10 (some .int) ka 5) {K : Int32 → FT → RT → JT → Prop} (hret : RetI X cX10_oddsBy .int 0 0 (fun z w => ∃ F R J, w = wM ad ka F R J ∧ K z F R J)) (F : FT) (R : RT) (J : JT) (a1 : Int32) (a2 : Int32) (h : qM_oddsBy F R J a1 a2 K) : G X 0 0 (wM ad ka F R J) 0 [(0, .ref (ad 20)), (1, .int a1), (2, .int a2)] [] := by
  unfold qM_oddsBy at h
  refine g_aload_n C 0 dX10_oddsBy_0 rfl ?_
  refine g_aload_n C 0 dX10_oddsBy_1 rfl ?_
  refine Mg_now C dX10_oddsBy_2 ?_
  refine g_bipush C (6 : Int32) dX10_oddsBy_5 cb_6 ?_
  refine Ma_now C (f := R 0) rfl (6) (by decide) (vp_lit (by decide)) dX10_oddsBy_7 ?_
  refine g_aload_n C 0 dX10_oddsBy_8 rfl ?_
  refine Mg_now C dX10_oddsBy_9 ?_
  refine g_bipush C (6 : Int32) dX10_oddsBy_12 cb_6 ?_
  refine Ma_now C (f := R 0) rfl (6) (by decide) (vp_lit (by decide)) dX10_oddsBy_14 ?_
  refine g_aload_n C 0 dX10_oddsBy_15 rfl ?_
  refine Mg_now C dX10_oddsBy_16 ?_
  refine g_bipush C (9 : Int32) dX10_oddsBy_19 cb_9 ?_
  refine Ma_now C (f := R 0) rfl (9) (by decide) (vp_lit (by decide)) dX10_oddsBy_21 ?_
  refine g_iload_n C 1 dX10_oddsBy_22 rfl ?_
  refine g_iload_n C 2 dX10_oddsBy_23 rfl ?_
  refine g_callVv0 C (kM_fills (xL X) (xD X) ka ad _ _ _ _ _ _ _ _ _ h) miX10_fills (gw_of tw5_52 rfl) (by decide) wM_at rfl rfl rfl (Nat.le_of_ble_eq_true rfl) z00 dX10_oddsBy_24 (fun w hw => ?_)
  obtain ⟨F1, R1, J1, rfl, h⟩ := hw
  refine g_aload_n C 0 dX10_oddsBy_27 rfl ?_
  refine Mg_chances C dX10_oddsBy_28 ?_
  refine g_sipush C (201 : Int32) dX10_oddsBy_31 cs_201 ?_
  refine g_aload_n C 0 dX10_oddsBy_34 rfl ?_
  refine Mg_now C dX10_oddsBy_35 ?_
  refine g_bipush C (6 : Int32) dX10_oddsBy_38 cb_6 ?_
  refine Ma_now C (f := R1 0) rfl (6) (by decide) (vp_lit (by decide)) dX10_oddsBy_40 ?_
  refine g_imul C dX10_oddsBy_41 ?_
  refine g_aload_n C 0 dX10_oddsBy_42 rfl ?_
  refine Mg_now C dX10_oddsBy_43 ?_
  refine g_bipush C (7 : Int32) dX10_oddsBy_46 cb_7 ?_
  refine Ma_now C (f := R1 0) rfl (7) (by decide) (vp_lit (by decide)) dX10_oddsBy_48 ?_
  refine g_iadd C dX10_oddsBy_49 ?_
  refine Ma_chances C (f := R1 10) rfl _ rfl h.1 dX10_oddsBy_50 ?_
  have h := h.2
  exact hret _ _ _ _ ⟨_, _, _, rfl, h⟩ rfl dX10_oddsBy_51
set_option maxHeartbeats 4000000 in
set_option maxRecDepth 100000 in
theorem kM_oddsBy (l : Launch) (D : va_G) (ka : Nat → ClassId) (ad : Nat → Nat) (F : FT) (R : RT) (J : JT) (a1 : Int32) (a2 : Int32) (K : Int32 → FT → RT → JT → Prop) (h : qM_oddsBy F R J a1 a2 K) : MI l D ka yX10_oddsBy cX10_oddsBy 3 (some .int) 5 0 0 [.ref (ad 20), .int a1, .int a2] (wM ad ka F R J) (fun z w => ∃ F R J, w = wM ad ka F R J ∧ K z F R J) := MI_of (by decide) (Nat.le_of_ble_eq_true rfl) (fun X C hroom hret => bM_oddsBy C hret F R J a1 a2 h)
set_option maxHeartbeats 4000000 in
set_option maxRecDepth 100000 in
theorem miX10_oddsBy : MInf yX10_oddsBy cX10_oddsBy 3 (some .int) 2 := ⟨(gw_of tw5_50 rfl), (gw_of tp_yX10_oddsBy rfl), (gw_of tw1_6 rfl), (gw_of tw5_51 rfl), by decide +kernel, by decide⟩

def qM_odds (F : FT) (R : RT) (J : JT)  (K : Int32 → FT → RT → JT → Prop) : Prop :=
  qM_oddsBy F R J (-1 : Int32) (0 : Int32) (fun r1 F1 R1 J1 => K r1 F1 R1 J1)
set_option maxHeartbeats 4000000 in
set_option maxRecDepth 100000 in
theorem bM_odds {X : XT} {ka : Nat → ClassId} {ad : Nat → Nat} (C : Cx X cX10_odds 1 RX10 (some .int) ka 6) {K : Int32 → FT → RT → JT → Prop} (hret : RetI X cX10_odds .int 0 0 (fun z w => ∃ F R J, w = wM ad ka F R J ∧ K z F R J)) (F : FT) (R : RT) (J : JT)  (h : qM_odds F R J  K) : G X 0 0 (wM ad ka F R J) 0 [(0, .ref (ad 20))] [] := by
  unfold qM_odds at h
  refine g_aload_n C 0 dX10_odds_0 rfl ?_
  refine g_iconst C (-1 : Int32) dX10_odds_1 ci_m1 ?_
  refine g_iconst C (0 : Int32) dX10_odds_2 ci_0 ?_
  refine g_callVi0 C (kM_oddsBy (xL X) (xD X) ka ad _ _ _ _ _ _ h) miX10_oddsBy (gw_of tw5_48 rfl) (by decide) wM_at rfl rfl rfl (Nat.le_of_ble_eq_true rfl) z00 dX10_odds_3 (fun r1 w hw => ?_)
  obtain ⟨F1, R1, J1, rfl, h⟩ := hw
  exact hret _ _ _ _ ⟨_, _, _, rfl, h⟩ rfl dX10_odds_6
set_option maxHeartbeats 4000000 in
set_option maxRecDepth 100000 in
theorem kM_odds (l : Launch) (D : va_G) (ka : Nat → ClassId) (ad : Nat → Nat) (F : FT) (R : RT) (J : JT)  (K : Int32 → FT → RT → JT → Prop) (h : qM_odds F R J  K) : MI l D ka yX10_odds cX10_odds 1 (some .int) 6 0 0 [.ref (ad 20)] (wM ad ka F R J) (fun z w => ∃ F R J, w = wM ad ka F R J ∧ K z F R J) := MI_of (by decide) (Nat.le_of_ble_eq_true rfl) (fun X C hroom hret => bM_odds C hret F R J  h)
set_option maxHeartbeats 4000000 in
set_option maxRecDepth 100000 in
theorem miX10_odds : MInf yX10_odds cX10_odds 1 (some .int) 0 := ⟨(gw_of tw5_45 rfl), (gw_of tw5_46 rfl), (gw_of tw1_6 rfl), (gw_of tw5_47 rfl), by decide +kernel, by decide⟩

def qM_oddsAt (F : FT) (R : RT) (J : JT) (a1 : Int32) (a2 : Int32) (K : Int32 → FT → RT → JT → Prop) : Prop :=
  qM_in F R J a1.toInt64 (0 : Int64) ((R 0 3).toInt64) (fun r1 F1 R1 J1 => (r1 = 0 → (K (-1 : Int32) F1 R1 J1)) ∧ (¬ r1 = 0 → (qM_in F1 R1 J1 a2.toInt64 (0 : Int64) ((R1 0 2).toInt64) (fun r3 F3 R3 J3 => (¬ r3 = 0 → (qM_fills F3 R3 J3 a1 (-1 : Int32) (0 : Int32) (-1 : Int32) (0 : Int32) (fun F5 R5 J5 => (vp_in (((201 : Int32) * a1) + a2) 8241) ∧ (K (R5 10 ((((201 : Int32) * a1) + a2).toNatClampNeg)) F5 R5 J5)))) ∧ (r3 = 0 → (K (-1 : Int32) F3 R3 J3))))))
set_option maxHeartbeats 4000000 in
set_option maxRecDepth 100000 in
theorem bM_oddsAt {X : XT} {ka : Nat → ClassId} {ad : Nat → Nat} (C : Cx X cX10_oddsAt 3 RX10 (some .int) ka 5) {K : Int32 → FT → RT → JT → Prop} (hret : RetI X cX10_oddsAt .int 0 0 (fun z w => ∃ F R J, w = wM ad ka F R J ∧ K z F R J)) (F : FT) (R : RT) (J : JT) (a1 : Int32) (a2 : Int32) (h : qM_oddsAt F R J a1 a2 K) : G X 0 0 (wM ad ka F R J) 0 [(0, .ref (ad 20)), (1, .int a1), (2, .int a2)] [] := by
  unfold qM_oddsAt at h
  refine g_iload_n C 1 dX10_oddsAt_0 rfl ?_
  refine g_i2l C dX10_oddsAt_1 ?_
  refine g_lconst C (0 : Int64) dX10_oddsAt_2 rfl ?_
  refine g_aload_n C 0 dX10_oddsAt_3 rfl ?_
  refine Mg_now C dX10_oddsAt_4 ?_
  refine g_iconst C (3 : Int32) dX10_oddsAt_7 ci_3 ?_
  refine Ma_now C (f := R 0) rfl (3) (by decide) (vp_lit (by decide)) dX10_oddsAt_8 ?_
  refine g_i2l C dX10_oddsAt_9 ?_
  refine g_callSi0 C (kM_in (xL X) (xD X) ka ad _ _ _ _ _ _ _ h) siX10_in (gw_of tw4_136 rfl) (by decide) rfl rfl (Nat.le_of_ble_eq_true rfl) z00 dX10_oddsAt_10 (fun r1 w hw => ?_)
  obtain ⟨F1, R1, J1, rfl, h⟩ := hw
  refine g_if_eq C 32 dX10_oddsAt_13 (by decide) (fun c2 => ?_) (fun c2 => ?_)
  · have h := h.1 c2
    refine g_iconst C (-1 : Int32) dX10_oddsAt_32 ci_m1 ?_
    exact hret _ _ _ _ ⟨_, _, _, rfl, h⟩ rfl dX10_oddsAt_33
  · have h := h.2 c2
    refine g_iload_n C 2 dX10_oddsAt_16 rfl ?_
    refine g_i2l C dX10_oddsAt_17 ?_
    refine g_lconst C (0 : Int64) dX10_oddsAt_18 rfl ?_
    refine g_aload_n C 0 dX10_oddsAt_19 rfl ?_
    refine Mg_now C dX10_oddsAt_20 ?_
    refine g_iconst C (2 : Int32) dX10_oddsAt_23 ci_2 ?_
    refine Ma_now C (f := R1 0) rfl (2) (by decide) (vp_lit (by decide)) dX10_oddsAt_24 ?_
    refine g_i2l C dX10_oddsAt_25 ?_
    refine g_callSi0 C (kM_in (xL X) (xD X) ka ad _ _ _ _ _ _ _ h) siX10_in (gw_of tw4_136 rfl) (by decide) rfl rfl (Nat.le_of_ble_eq_true rfl) z00 dX10_oddsAt_26 (fun r3 w hw => ?_)
    obtain ⟨F3, R3, J3, rfl, h⟩ := hw
    refine g_if_ne C 34 dX10_oddsAt_29 (by decide) (fun c4 => ?_) (fun c4 => ?_)
    · have h := h.1 c4
      refine g_aload_n C 0 dX10_oddsAt_34 rfl ?_
      refine g_iload_n C 1 dX10_oddsAt_35 rfl ?_
      refine g_iconst C (-1 : Int32) dX10_oddsAt_36 ci_m1 ?_
      refine g_iconst C (0 : Int32) dX10_oddsAt_37 ci_0 ?_
      refine g_iconst C (-1 : Int32) dX10_oddsAt_38 ci_m1 ?_
      refine g_iconst C (0 : Int32) dX10_oddsAt_39 ci_0 ?_
      refine g_callVv0 C (kM_fills (xL X) (xD X) ka ad _ _ _ _ _ _ _ _ _ h) miX10_fills (gw_of tw5_52 rfl) (by decide) wM_at rfl rfl rfl (Nat.le_of_ble_eq_true rfl) z00 dX10_oddsAt_40 (fun w hw => ?_)
      obtain ⟨F5, R5, J5, rfl, h⟩ := hw
      refine g_aload_n C 0 dX10_oddsAt_43 rfl ?_
      refine Mg_chances C dX10_oddsAt_44 ?_
      refine g_sipush C (201 : Int32) dX10_oddsAt_47 cs_201 ?_
      refine g_iload_n C 1 dX10_oddsAt_50 rfl ?_
      refine g_imul C dX10_oddsAt_51 ?_
      refine g_iload_n C 2 dX10_oddsAt_52 rfl ?_
      refine g_iadd C dX10_oddsAt_53 ?_
      refine Ma_chances C (f := R5 10) rfl _ rfl h.1 dX10_oddsAt_54 ?_
      have h := h.2
      exact hret _ _ _ _ ⟨_, _, _, rfl, h⟩ rfl dX10_oddsAt_55
    · have h := h.2 c4
      refine g_iconst C (-1 : Int32) dX10_oddsAt_32 ci_m1 ?_
      exact hret _ _ _ _ ⟨_, _, _, rfl, h⟩ rfl dX10_oddsAt_33
set_option maxHeartbeats 4000000 in
set_option maxRecDepth 100000 in
theorem kM_oddsAt (l : Launch) (D : va_G) (ka : Nat → ClassId) (ad : Nat → Nat) (F : FT) (R : RT) (J : JT) (a1 : Int32) (a2 : Int32) (K : Int32 → FT → RT → JT → Prop) (h : qM_oddsAt F R J a1 a2 K) : MI l D ka yX10_oddsAt cX10_oddsAt 3 (some .int) 5 0 0 [.ref (ad 20), .int a1, .int a2] (wM ad ka F R J) (fun z w => ∃ F R J, w = wM ad ka F R J ∧ K z F R J) := MI_of (by decide) (Nat.le_of_ble_eq_true rfl) (fun X C hroom hret => bM_oddsAt C hret F R J a1 a2 h)
set_option maxHeartbeats 4000000 in
set_option maxRecDepth 100000 in
theorem miX10_oddsAt : MInf yX10_oddsAt cX10_oddsAt 3 (some .int) 2 := ⟨(gw_of tw5_62 rfl), (gw_of tw5_63 rfl), (gw_of tw1_6 rfl), (gw_of tw5_64 rfl), by decide +kernel, by decide⟩

def qM_isPart (F : FT) (R : RT) (J : JT) (a1 : Int32) (K : Int32 → FT → RT → JT → Prop) : Prop :=
  qM_in F R J a1.toInt64 (0 : Int64) (1000000 : Int64) (fun r1 F1 R1 J1 => isB r1 ∧ K r1 F1 R1 J1)
set_option maxHeartbeats 4000000 in
set_option maxRecDepth 100000 in
theorem bM_isPart {X : XT} {ka : Nat → ClassId} {ad : Nat → Nat} (C : Cx X cX10_isPart 1 RX10 (some .boolean) ka 2) {K : Int32 → FT → RT → JT → Prop} (hret : RetI X cX10_isPart .boolean 0 0 (fun z w => ∃ F R J, w = wM ad ka F R J ∧ K z F R J)) (F : FT) (R : RT) (J : JT) (a1 : Int32) (h : qM_isPart F R J a1 K) : G X 0 0 (wM ad ka F R J) 0 [(0, .int a1)] [] := by
  unfold qM_isPart at h
  refine g_iload_n C 0 dX10_isPart_0 rfl ?_
  refine g_i2l C dX10_isPart_1 ?_
  refine g_lconst C (0 : Int64) dX10_isPart_2 rfl ?_
  refine g_ldc2 C (gw_of tw5_72 rfl) dX10_isPart_3 ?_
  refine g_callSi0 C (kM_in (xL X) (xD X) ka ad _ _ _ _ _ _ _ h) siX10_in (gw_of tw4_136 rfl) (by decide) rfl rfl (Nat.le_of_ble_eq_true rfl) z00 dX10_isPart_6 (fun r1 w hw => ?_)
  obtain ⟨F1, R1, J1, rfl, h⟩ := hw
  exact hret _ _ _ _ ⟨_, _, _, rfl, h.2⟩ (nar_B h.1) dX10_isPart_9
set_option maxHeartbeats 4000000 in
set_option maxRecDepth 100000 in
theorem kM_isPart (l : Launch) (D : va_G) (ka : Nat → ClassId) (ad : Nat → Nat) (F : FT) (R : RT) (J : JT) (a1 : Int32) (K : Int32 → FT → RT → JT → Prop) (h : qM_isPart F R J a1 K) : MI l D ka yX10_isPart cX10_isPart 1 (some .boolean) 2 0 0 [.int a1] (wM ad ka F R J) (fun z w => ∃ F R J, w = wM ad ka F R J ∧ K z F R J) := MI_of (by decide) (Nat.le_of_ble_eq_true rfl) (fun X C hroom hret => bM_isPart C hret F R J a1 h)
set_option maxHeartbeats 4000000 in
set_option maxRecDepth 100000 in
theorem siX10_isPart : SInf yX10_isPart cX10_isPart 1 (some .boolean) 1 := ⟨(gw_of tw5_70 rfl), (gw_of tw1_6 rfl), (gw_of tw5_71 rfl), by decide +kernel, by decide⟩
