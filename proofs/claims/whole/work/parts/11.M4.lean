def qM_sure_85 (k32 : FT → RT → JT → Int32 → Int32 → Int32 → Prop) (F : FT) (R : RT) (J : JT) (v1 : Int32) (v3 : Int32) (s0 : Int32) (s1 : Int32) (s2 : Int32) (K : Int32 → FT → RT → JT → Prop) : Prop :=
  qM_behind F R J s2 s1 s0 (fun r1 F1 R1 J1 => k32 F1 R1 J1 v1 r1 (v3 + (1 : Int32)))
set_option maxHeartbeats 4000000 in
set_option maxRecDepth 100000 in
theorem lM_sure_85 {X : XT} {ka : Nat → ClassId} {ad : Nat → Nat} (C : Cx X cX10_sure 4 RX10 (some .int) ka 6) {K : Int32 → FT → RT → JT → Prop} (hret : RetI X cX10_sure .int 0 0 (fun z w => ∃ F R J, w = wM ad ka F R J ∧ K z F R J)) {k32 : FT → RT → JT → Int32 → Int32 → Int32 → Prop} (hk32 : ∀ (F : FT) (R : RT) (J : JT) (v1 : Int32) (v2 : Int32) (v3 : Int32), k32 F R J v1 v2 v3 → G X 0 0 (wM ad ka F R J) 32 [(0, .ref (ad 20)), (1, .int v1), (2, .int v2), (3, .int v3)] []) (F : FT) (R : RT) (J : JT) (v1 : Int32) (v3 : Int32) (s0 : Int32) (s1 : Int32) (s2 : Int32) (h : qM_sure_85 k32 F R J v1 v3 s0 s1 s2 K) : G X 0 0 (wM ad ka F R J) 85 [(0, .ref (ad 20)), (1, .int v1), (3, .int v3)] [.int s0, .int s1, .int s2, .ref (ad 20)] := by
  unfold qM_sure_85 at h
  refine g_callVi0 C (kM_behind (xL X) (xD X) ka ad _ _ _ _ _ _ _ h) miX10_behind (gw_of tw5_0 rfl) (by decide) wM_at rfl rfl rfl (Nat.le_of_ble_eq_true rfl) z00 dX10_sure_85 (fun r1 w hw => ?_)
  obtain ⟨F1, R1, J1, rfl, h⟩ := hw
  refine g_istore_n C [(2, .int r1), (0, .ref (ad 20)), (1, .int v1), (3, .int v3)] dX10_sure_88 (by decide) rfl ?_
  refine g_iinc C 3 (v3 + (1 : Int32)) [(3, .int (v3 + (1 : Int32))), (2, .int r1), (0, .ref (ad 20)), (1, .int v1)] dX10_sure_89 rfl (by rw [ci_1]) (by decide) rfl ?_
  refine g_goto C 32 dX10_sure_92 (by decide) ?_
  exact g_lv [2, 3, 1, 0] rfl (hk32 _ _ _ _ _ _ h)
def qM_sure_32 : Nat → FT → RT → JT → Int32 → Int32 → Int32 → (Int32 → FT → RT → JT → Prop) → Prop
  | 0, _, _, _, _, _, _ => fun _ => False
  | n32 + 1, F, R, J, v1, v2, v3 => fun K => ((R 0 3) < v3 → (K (-4 : Int32) F R J)) ∧ (¬ (R 0 3) < v3 → ((vp_in (((201 : Int32) * v3) + v2) 8241) ∧ (((R 10 ((((201 : Int32) * v3) + v2).toNatClampNeg)) < v1 → ((¬ v3 = (R 0 6) → (qM_sure_85 (fun F R J v1 v2 v3 => qM_sure_32 n32 F R J v1 v2 v3 K) F R J v1 v3 (0 : Int32) v2 (0 : Int32) K)) ∧ (v3 = (R 0 6) → (qM_sure_85 (fun F R J v1 v2 v3 => qM_sure_32 n32 F R J v1 v2 v3 K) F R J v1 v3 (R 0 9) v2 (0 : Int32) K)))) ∧ (¬ (R 10 ((((201 : Int32) * v3) + v2).toNatClampNeg)) < v1 → (K v3 F R J)))))
set_option maxHeartbeats 4000000 in
set_option maxRecDepth 100000 in
theorem lM_sure_32 {X : XT} {ka : Nat → ClassId} {ad : Nat → Nat} (C : Cx X cX10_sure 4 RX10 (some .int) ka 6) {K : Int32 → FT → RT → JT → Prop} (hret : RetI X cX10_sure .int 0 0 (fun z w => ∃ F R J, w = wM ad ka F R J ∧ K z F R J)) : ∀ (n : Nat) (F : FT) (R : RT) (J : JT) (v1 : Int32) (v2 : Int32) (v3 : Int32), qM_sure_32 n F R J v1 v2 v3 K → G X 0 0 (wM ad ka F R J) 32 [(0, .ref (ad 20)), (1, .int v1), (2, .int v2), (3, .int v3)] [] := by
  intro n
  induction n with
  | zero => intro F R J v1 v2 v3 h; exact h.elim
  | succ n ih =>
    intro F R J v1 v2 v3 h
    refine g_iload_n C 3 dX10_sure_32 rfl ?_
    refine g_aload_n C 0 dX10_sure_33 rfl ?_
    refine Mg_now C dX10_sure_34 ?_
    refine g_iconst C (3 : Int32) dX10_sure_37 ci_3 ?_
    refine Ma_now C (f := R 0) rfl (3) (by decide) (vp_lit (by decide)) dX10_sure_38 ?_
    refine g_icmp_gt C 95 dX10_sure_39 (by decide) (fun c1 => ?_) (fun c1 => ?_)
    · have h := h.1 c1
      refine g_bipush C (-4 : Int32) dX10_sure_95 cb_m4 ?_
      exact hret _ _ _ _ ⟨_, _, _, rfl, h⟩ rfl dX10_sure_97
    · have h := h.2 c1
      refine g_aload_n C 0 dX10_sure_42 rfl ?_
      refine Mg_chances C dX10_sure_43 ?_
      refine g_sipush C (201 : Int32) dX10_sure_46 cs_201 ?_
      refine g_iload_n C 3 dX10_sure_49 rfl ?_
      refine g_imul C dX10_sure_50 ?_
      refine g_iload_n C 2 dX10_sure_51 rfl ?_
      refine g_iadd C dX10_sure_52 ?_
      refine Ma_chances C (f := R 10) rfl _ rfl h.1 dX10_sure_53 ?_
      have h := h.2
      refine g_iload_n C 1 dX10_sure_54 rfl ?_
      refine g_icmp_lt C 60 dX10_sure_55 (by decide) (fun c2 => ?_) (fun c2 => ?_)
      · have h := h.1 c2
        refine g_aload_n C 0 dX10_sure_60 rfl ?_
        refine g_iconst C (0 : Int32) dX10_sure_61 ci_0 ?_
        refine g_iload_n C 2 dX10_sure_62 rfl ?_
        refine g_iload_n C 3 dX10_sure_63 rfl ?_
        refine g_aload_n C 0 dX10_sure_64 rfl ?_
        refine Mg_now C dX10_sure_65 ?_
        refine g_bipush C (6 : Int32) dX10_sure_68 cb_6 ?_
        refine Ma_now C (f := R 0) rfl (6) (by decide) (vp_lit (by decide)) dX10_sure_70 ?_
        refine g_icmp_ne C 84 dX10_sure_71 (by decide) (fun c3 => ?_) (fun c3 => ?_)
        · have h := h.1 c3
          refine g_iconst C (0 : Int32) dX10_sure_84 ci_0 ?_
          exact g_lv [0, 1, 3] rfl (lM_sure_85 C hret (fun F R J v1 v2 v3 h => ih F R J v1 v2 v3 h) _ _ _ _ _ _ _ _ h)
        · have h := h.2 c3
          refine g_aload_n C 0 dX10_sure_74 rfl ?_
          refine Mg_now C dX10_sure_75 ?_
          refine g_bipush C (9 : Int32) dX10_sure_78 cb_9 ?_
          refine Ma_now C (f := R 0) rfl (9) (by decide) (vp_lit (by decide)) dX10_sure_80 ?_
          refine g_goto C 85 dX10_sure_81 (by decide) ?_
          exact g_lv [0, 1, 3] rfl (lM_sure_85 C hret (fun F R J v1 v2 v3 h => ih F R J v1 v2 v3 h) _ _ _ _ _ _ _ _ h)
      · have h := h.2 c2
        refine g_iload_n C 3 dX10_sure_58 rfl ?_
        exact hret _ _ _ _ ⟨_, _, _, rfl, h⟩ rfl dX10_sure_59
def qM_sure (F : FT) (R : RT) (J : JT) (a1 : Int32) (K : Int32 → FT → RT → JT → Prop) : Prop :=
  qM_isPart F R J a1 (fun r1 F1 R1 J1 => (¬ r1 = 0 → (qM_oddsBy F1 R1 J1 (-1 : Int32) (0 : Int32) (fun r3 F3 R3 J3 => ∃ n32, qM_sure_32 n32 F3 R3 J3 a1 (R3 0 7) (R3 0 6) K))) ∧ (r1 = 0 → (K (-1 : Int32) F1 R1 J1)))
set_option maxHeartbeats 4000000 in
set_option maxRecDepth 100000 in
theorem bM_sure {X : XT} {ka : Nat → ClassId} {ad : Nat → Nat} (C : Cx X cX10_sure 4 RX10 (some .int) ka 6) {K : Int32 → FT → RT → JT → Prop} (hret : RetI X cX10_sure .int 0 0 (fun z w => ∃ F R J, w = wM ad ka F R J ∧ K z F R J)) (F : FT) (R : RT) (J : JT) (a1 : Int32) (h : qM_sure F R J a1 K) : G X 0 0 (wM ad ka F R J) 0 [(0, .ref (ad 20)), (1, .int a1)] [] := by
  unfold qM_sure at h
  refine g_iload_n C 1 dX10_sure_0 rfl ?_
  refine g_callSi0 C (kM_isPart (xL X) (xD X) ka ad _ _ _ _ _ h) siX10_isPart (gw_of tw5_69 rfl) (by decide) rfl rfl (Nat.le_of_ble_eq_true rfl) z00 dX10_sure_1 (fun r1 w hw => ?_)
  obtain ⟨F1, R1, J1, rfl, h⟩ := hw
  refine g_if_ne C 9 dX10_sure_4 (by decide) (fun c2 => ?_) (fun c2 => ?_)
  · have h := h.1 c2
    refine g_aload_n C 0 dX10_sure_9 rfl ?_
    refine g_iconst C (-1 : Int32) dX10_sure_10 ci_m1 ?_
    refine g_iconst C (0 : Int32) dX10_sure_11 ci_0 ?_
    refine g_callVi0 C (kM_oddsBy (xL X) (xD X) ka ad _ _ _ _ _ _ h) miX10_oddsBy (gw_of tw5_48 rfl) (by decide) wM_at rfl rfl rfl (Nat.le_of_ble_eq_true rfl) z00 dX10_sure_12 (fun r3 w hw => ?_)
    obtain ⟨F3, R3, J3, rfl, h⟩ := hw
    refine g_pop C dX10_sure_15 rfl ?_
    refine g_aload_n C 0 dX10_sure_16 rfl ?_
    refine Mg_now C dX10_sure_17 ?_
    refine g_bipush C (7 : Int32) dX10_sure_20 cb_7 ?_
    refine Ma_now C (f := R3 0) rfl (7) (by decide) (vp_lit (by decide)) dX10_sure_22 ?_
    refine g_istore_n C [(2, .int (R3 0 7)), (0, .ref (ad 20)), (1, .int a1)] dX10_sure_23 (by decide) rfl ?_
    refine g_aload_n C 1 dX10_sure_24 rfl ?_
    refine Mg_now C dX10_sure_25 ?_
    refine g_bipush C (6 : Int32) dX10_sure_28 cb_6 ?_
    refine Ma_now C (f := R3 0) rfl (6) (by decide) (vp_lit (by decide)) dX10_sure_30 ?_
    refine g_istore_n C [(3, .int (R3 0 6)), (2, .int (R3 0 7)), (0, .ref (ad 20)), (1, .int a1)] dX10_sure_31 (by decide) rfl ?_
    obtain ⟨n1, h⟩ := h
    exact g_lv [2, 3, 1, 0] rfl (lM_sure_32 C hret n1 _ _ _ _ _ _ h)
  · have h := h.2 c2
    refine g_iconst C (-1 : Int32) dX10_sure_7 ci_m1 ?_
    exact hret _ _ _ _ ⟨_, _, _, rfl, h⟩ rfl dX10_sure_8
set_option maxHeartbeats 4000000 in
set_option maxRecDepth 100000 in
theorem kM_sure (l : Launch) (D : va_G) (ka : Nat → ClassId) (ad : Nat → Nat) (F : FT) (R : RT) (J : JT) (a1 : Int32) (K : Int32 → FT → RT → JT → Prop) (h : qM_sure F R J a1 K) : MI l D ka yX10_sure cX10_sure 4 (some .int) 6 0 0 [.ref (ad 20), .int a1] (wM ad ka F R J) (fun z w => ∃ F R J, w = wM ad ka F R J ∧ K z F R J) := MI_of (by decide) (Nat.le_of_ble_eq_true rfl) (fun X C hroom hret => bM_sure C hret F R J a1 h)
set_option maxHeartbeats 4000000 in
set_option maxRecDepth 100000 in
theorem miX10_sure : MInf yX10_sure cX10_sure 4 (some .int) 1 := ⟨(gw_of tw5_66 rfl), (gw_of tw5_67 rfl), (gw_of tw1_6 rfl), (gw_of tw5_68 rfl), by decide +kernel, by decide⟩

def qM_pace_69 (F : FT) (R : RT) (J : JT) (v3 : Int32) (K : Int32 → FT → RT → JT → Prop) : Prop :=
  K v3 (upd F 1 (-1 : Int32)) R J
set_option maxHeartbeats 4000000 in
set_option maxRecDepth 100000 in
theorem lM_pace_69 {X : XT} {ka : Nat → ClassId} {ad : Nat → Nat} (C : Cx X cX10_pace 5 RX10 (some .int) ka 7) {K : Int32 → FT → RT → JT → Prop} (hret : RetI X cX10_pace .int 0 0 (fun z w => ∃ F R J, w = wM ad ka F R J ∧ K z F R J)) (F : FT) (R : RT) (J : JT) (v3 : Int32) (h : qM_pace_69 F R J v3 K) : G X 0 0 (wM ad ka F R J) 69 [(0, .ref (ad 20)), (3, .int v3)] [] := by
  unfold qM_pace_69 at h
  refine g_aload_n C 0 dX10_pace_69 rfl ?_
  refine g_iconst C (-1 : Int32) dX10_pace_70 ci_m1 ?_
  refine Mp_faster C dX10_pace_71 ?_
  refine g_iload_n C 1 dX10_pace_74 rfl ?_
  exact hret _ _ _ _ ⟨_, _, _, rfl, h⟩ rfl dX10_pace_75
def qM_pace_62 (k23 : FT → RT → JT → Int32 → Int32 → Int32 → Int32 → Prop) (F : FT) (R : RT) (J : JT) (v1 : Int32) (v2 : Int32) (v4 : Int32) (s0 : Int32) (K : Int32 → FT → RT → JT → Prop) : Prop :=
  k23 F R J v1 v2 s0 (v4 + (1 : Int32))
set_option maxHeartbeats 4000000 in
set_option maxRecDepth 100000 in
theorem lM_pace_62 {X : XT} {ka : Nat → ClassId} {ad : Nat → Nat} (C : Cx X cX10_pace 5 RX10 (some .int) ka 7) {K : Int32 → FT → RT → JT → Prop} (hret : RetI X cX10_pace .int 0 0 (fun z w => ∃ F R J, w = wM ad ka F R J ∧ K z F R J)) {k23 : FT → RT → JT → Int32 → Int32 → Int32 → Int32 → Prop} (hk23 : ∀ (F : FT) (R : RT) (J : JT) (v1 : Int32) (v2 : Int32) (v3 : Int32) (v4 : Int32), k23 F R J v1 v2 v3 v4 → G X 0 0 (wM ad ka F R J) 23 [(0, .ref (ad 20)), (1, .int v1), (2, .int v2), (3, .int v3), (4, .int v4)] []) (F : FT) (R : RT) (J : JT) (v1 : Int32) (v2 : Int32) (v4 : Int32) (s0 : Int32) (h : qM_pace_62 k23 F R J v1 v2 v4 s0 K) : G X 0 0 (wM ad ka F R J) 62 [(0, .ref (ad 20)), (1, .int v1), (2, .int v2), (4, .int v4)] [.int s0] := by
  unfold qM_pace_62 at h
  refine g_istore_n C [(3, .int s0), (0, .ref (ad 20)), (1, .int v1), (2, .int v2), (4, .int v4)] dX10_pace_62 (by decide) rfl ?_
  refine g_iinc C 4 (v4 + (1 : Int32)) [(4, .int (v4 + (1 : Int32))), (3, .int s0), (0, .ref (ad 20)), (1, .int v1), (2, .int v2)] dX10_pace_63 rfl (by rw [ci_1]) (by decide) rfl ?_
  refine g_goto C 23 dX10_pace_66 (by decide) ?_
  exact g_lv [2, 3, 4, 1, 0] rfl (hk23 _ _ _ _ _ _ _ h)
def qM_pace_23 : Nat → FT → RT → JT → Int32 → Int32 → Int32 → Int32 → (Int32 → FT → RT → JT → Prop) → Prop
  | 0, _, _, _, _, _, _, _ => fun _ => False
  | n23 + 1, F, R, J, v1, v2, v3, v4 => fun K => ((21 : Int32) ≤ v4 → (qM_pace_69 F R J v3 K)) ∧ (¬ (21 : Int32) ≤ v4 → ((¬ v3 = (-4 : Int32) → (qM_pace_69 F R J v3 K)) ∧ (v3 = (-4 : Int32) → (qM_odds (upd (upd F 1 v1) 2 v4) R J (fun r3 F3 R3 J3 => (r3 < v2 → (qM_pace_62 (fun F R J v1 v2 v3 v4 => qM_pace_23 n23 F R J v1 v2 v3 v4 K) F3 R3 J3 v1 v2 v4 (-4 : Int32) K)) ∧ (¬ r3 < v2 → (qM_pace_62 (fun F R J v1 v2 v3 v4 => qM_pace_23 n23 F R J v1 v2 v3 v4 K) F3 R3 J3 v1 v2 v4 v4 K)))))))
set_option maxHeartbeats 4000000 in
set_option maxRecDepth 100000 in
theorem lM_pace_23 {X : XT} {ka : Nat → ClassId} {ad : Nat → Nat} (C : Cx X cX10_pace 5 RX10 (some .int) ka 7) {K : Int32 → FT → RT → JT → Prop} (hret : RetI X cX10_pace .int 0 0 (fun z w => ∃ F R J, w = wM ad ka F R J ∧ K z F R J)) : ∀ (n : Nat) (F : FT) (R : RT) (J : JT) (v1 : Int32) (v2 : Int32) (v3 : Int32) (v4 : Int32), qM_pace_23 n F R J v1 v2 v3 v4 K → G X 0 0 (wM ad ka F R J) 23 [(0, .ref (ad 20)), (1, .int v1), (2, .int v2), (3, .int v3), (4, .int v4)] [] := by
  intro n
  induction n with
  | zero => intro F R J v1 v2 v3 v4 h; exact h.elim
  | succ n ih =>
    intro F R J v1 v2 v3 v4 h
    refine g_iload C 4 dX10_pace_23 rfl ?_
    refine g_bipush C (21 : Int32) dX10_pace_25 cb_21 ?_
    refine g_icmp_ge C 69 dX10_pace_27 (by decide) (fun c1 => ?_) (fun c1 => ?_)
    · have h := h.1 c1
      exact g_lv [0, 3] rfl (lM_pace_69 C hret _ _ _ _ h)
    · have h := h.2 c1
      refine g_iload_n C 3 dX10_pace_30 rfl ?_
      refine g_bipush C (-4 : Int32) dX10_pace_31 cb_m4 ?_
      refine g_icmp_ne C 69 dX10_pace_33 (by decide) (fun c2 => ?_) (fun c2 => ?_)
      · have h := h.1 c2
        exact g_lv [0, 3] rfl (lM_pace_69 C hret _ _ _ _ h)
      · have h := h.2 c2
        refine g_aload_n C 0 dX10_pace_36 rfl ?_
        refine g_iload_n C 1 dX10_pace_37 rfl ?_
        refine Mp_faster C dX10_pace_38 ?_
        refine g_aload_n C 0 dX10_pace_41 rfl ?_
        refine g_iload C 4 dX10_pace_42 rfl ?_
        refine Mp_by C dX10_pace_44 ?_
        refine g_aload_n C 0 dX10_pace_47 rfl ?_
        refine g_callVi0 C (kM_odds (xL X) (xD X) ka ad _ _ _ _ h) miX10_odds (gw_of tw5_77 rfl) (by decide) wM_at rfl rfl rfl (Nat.le_of_ble_eq_true rfl) z00 dX10_pace_48 (fun r3 w hw => ?_)
        obtain ⟨F3, R3, J3, rfl, h⟩ := hw
        refine g_iload_n C 2 dX10_pace_51 rfl ?_
        refine g_icmp_lt C 60 dX10_pace_52 (by decide) (fun c4 => ?_) (fun c4 => ?_)
        · have h := h.1 c4
          refine g_bipush C (-4 : Int32) dX10_pace_60 cb_m4 ?_
          exact g_lv [0, 1, 2, 4] rfl (lM_pace_62 C hret (fun F R J v1 v2 v3 v4 h => ih F R J v1 v2 v3 v4 h) _ _ _ _ _ _ _ h)
        · have h := h.2 c4
          refine g_iload C 4 dX10_pace_55 rfl ?_
          refine g_goto C 62 dX10_pace_57 (by decide) ?_
          exact g_lv [0, 1, 2, 4] rfl (lM_pace_62 C hret (fun F R J v1 v2 v3 v4 h => ih F R J v1 v2 v3 v4 h) _ _ _ _ _ _ _ h)
def qM_pace (F : FT) (R : RT) (J : JT) (a1 : Int32) (a2 : Int32) (K : Int32 → FT → RT → JT → Prop) : Prop :=
  qM_isBuilder F R J a1 (fun r1 F1 R1 J1 => (r1 = 0 → (K (-1 : Int32) F1 R1 J1)) ∧ (¬ r1 = 0 → (qM_isPart F1 R1 J1 a2 (fun r3 F3 R3 J3 => (¬ r3 = 0 → (∃ n23, qM_pace_23 n23 F3 R3 J3 a1 a2 (-4 : Int32) (0 : Int32) K)) ∧ (r3 = 0 → (K (-1 : Int32) F3 R3 J3))))))
set_option maxHeartbeats 4000000 in
set_option maxRecDepth 100000 in
theorem bM_pace {X : XT} {ka : Nat → ClassId} {ad : Nat → Nat} (C : Cx X cX10_pace 5 RX10 (some .int) ka 7) {K : Int32 → FT → RT → JT → Prop} (hret : RetI X cX10_pace .int 0 0 (fun z w => ∃ F R J, w = wM ad ka F R J ∧ K z F R J)) (F : FT) (R : RT) (J : JT) (a1 : Int32) (a2 : Int32) (h : qM_pace F R J a1 a2 K) : G X 0 0 (wM ad ka F R J) 0 [(0, .ref (ad 20)), (1, .int a1), (2, .int a2)] [] := by
  unfold qM_pace at h
  refine g_aload_n C 0 dX10_pace_0 rfl ?_
  refine g_iload_n C 1 dX10_pace_1 rfl ?_
  refine g_callVi0 C (kM_isBuilder (xL X) (xD X) ka ad _ _ _ _ _ h) miX10_isBuilder (gw_of tw4_144 rfl) (by decide) wM_at rfl rfl rfl (Nat.le_of_ble_eq_true rfl) z00 dX10_pace_2 (fun r1 w hw => ?_)
  obtain ⟨F1, R1, J1, rfl, h⟩ := hw
  refine g_if_eq C 15 dX10_pace_5 (by decide) (fun c2 => ?_) (fun c2 => ?_)
  · have h := h.1 c2
    refine g_iconst C (-1 : Int32) dX10_pace_15 ci_m1 ?_
    exact hret _ _ _ _ ⟨_, _, _, rfl, h⟩ rfl dX10_pace_16
  · have h := h.2 c2
    refine g_iload_n C 2 dX10_pace_8 rfl ?_
    refine g_callSi0 C (kM_isPart (xL X) (xD X) ka ad _ _ _ _ _ h) siX10_isPart (gw_of tw5_69 rfl) (by decide) rfl rfl (Nat.le_of_ble_eq_true rfl) z00 dX10_pace_9 (fun r3 w hw => ?_)
    obtain ⟨F3, R3, J3, rfl, h⟩ := hw
    refine g_if_ne C 17 dX10_pace_12 (by decide) (fun c4 => ?_) (fun c4 => ?_)
    · have h := h.1 c4
      refine g_bipush C (-4 : Int32) dX10_pace_17 cb_m4 ?_
      refine g_istore_n C [(3, .int (-4 : Int32)), (0, .ref (ad 20)), (1, .int a1), (2, .int a2)] dX10_pace_19 (by decide) rfl ?_
      refine g_iconst C (0 : Int32) dX10_pace_20 ci_0 ?_
      refine g_istore C [(4, .int (0 : Int32)), (3, .int (-4 : Int32)), (0, .ref (ad 20)), (1, .int a1), (2, .int a2)] dX10_pace_21 (by decide) rfl ?_
      obtain ⟨n1, h⟩ := h
      exact g_lv [2, 3, 4, 1, 0] rfl (lM_pace_23 C hret n1 _ _ _ _ _ _ _ h)
    · have h := h.2 c4
      refine g_iconst C (-1 : Int32) dX10_pace_15 ci_m1 ?_
      exact hret _ _ _ _ ⟨_, _, _, rfl, h⟩ rfl dX10_pace_16
set_option maxHeartbeats 4000000 in
set_option maxRecDepth 100000 in
theorem kM_pace (l : Launch) (D : va_G) (ka : Nat → ClassId) (ad : Nat → Nat) (F : FT) (R : RT) (J : JT) (a1 : Int32) (a2 : Int32) (K : Int32 → FT → RT → JT → Prop) (h : qM_pace F R J a1 a2 K) : MI l D ka yX10_pace cX10_pace 5 (some .int) 7 0 0 [.ref (ad 20), .int a1, .int a2] (wM ad ka F R J) (fun z w => ∃ F R J, w = wM ad ka F R J ∧ K z F R J) := MI_of (by decide) (Nat.le_of_ble_eq_true rfl) (fun X C hroom hret => bM_pace C hret F R J a1 a2 h)
set_option maxHeartbeats 4000000 in
set_option maxRecDepth 100000 in
theorem miX10_pace : MInf yX10_pace cX10_pace 5 (some .int) 2 := ⟨(gw_of tw5_74 rfl), (gw_of tw5_75 rfl), (gw_of tw1_6 rfl), (gw_of tw5_76 rfl), by decide +kernel, by decide⟩

def qM_many_4 : Nat → FT → RT → JT → Int32 → Int32 → (Int32 → FT → RT → JT → Prop) → Prop
  | 0, _, _, _, _, _ => fun _ => False
  | n4 + 1, F, R, J, v1, v2 => fun K => (v2 = 0 → (K v1 F R J)) ∧ (¬ v2 = 0 → (qM_many_4 n4 F R J (v1 + (1 : Int32)) (v2 &&& (v2 - (1 : Int32))) K))
set_option maxHeartbeats 4000000 in
set_option maxRecDepth 100000 in
theorem lM_many_4 {X : XT} {ka : Nat → ClassId} {ad : Nat → Nat} (C : Cx X cX10_many 3 RX10 (some .int) ka 1) {K : Int32 → FT → RT → JT → Prop} (hret : RetI X cX10_many .int 0 0 (fun z w => ∃ F R J, w = wM ad ka F R J ∧ K z F R J)) : ∀ (n : Nat) (F : FT) (R : RT) (J : JT) (v1 : Int32) (v2 : Int32), qM_many_4 n F R J v1 v2 K → G X 0 0 (wM ad ka F R J) 4 [(1, .int v1), (2, .int v2)] [] := by
  intro n
  induction n with
  | zero => intro F R J v1 v2 h; exact h.elim
  | succ n ih =>
    intro F R J v1 v2 h
    refine g_iload_n C 1 dX10_many_4 rfl ?_
    refine g_if_eq C 20 dX10_many_5 (by decide) (fun c1 => ?_) (fun c1 => ?_)
    · have h := h.1 c1
      refine g_iload_n C 0 dX10_many_20 rfl ?_
      exact hret _ _ _ _ ⟨_, _, _, rfl, h⟩ rfl dX10_many_21
    · have h := h.2 c1
      refine g_iinc C 0 (v1 + (1 : Int32)) [(1, .int (v1 + (1 : Int32))), (2, .int v2)] dX10_many_8 rfl (by rw [ci_1]) (by decide) rfl ?_
      refine g_iload_n C 1 dX10_many_11 rfl ?_
      refine g_iload_n C 1 dX10_many_12 rfl ?_
      refine g_iconst C (1 : Int32) dX10_many_13 ci_1 ?_
      refine g_isub C dX10_many_14 ?_
      refine g_iand C dX10_many_15 ?_
      refine g_istore_n C [(2, .int (v2 &&& (v2 - (1 : Int32)))), (1, .int (v1 + (1 : Int32)))] dX10_many_16 (by decide) rfl ?_
      refine g_goto C 4 dX10_many_17 (by decide) ?_
      exact g_lv [1, 0] rfl (ih _ _ _ _ _ h)
def qM_many (F : FT) (R : RT) (J : JT) (a1 : Int32) (K : Int32 → FT → RT → JT → Prop) : Prop :=
  ∃ n4, qM_many_4 n4 F R J (0 : Int32) a1 K
set_option maxHeartbeats 4000000 in
set_option maxRecDepth 100000 in
theorem bM_many {X : XT} {ka : Nat → ClassId} {ad : Nat → Nat} (C : Cx X cX10_many 3 RX10 (some .int) ka 1) {K : Int32 → FT → RT → JT → Prop} (hret : RetI X cX10_many .int 0 0 (fun z w => ∃ F R J, w = wM ad ka F R J ∧ K z F R J)) (F : FT) (R : RT) (J : JT) (a1 : Int32) (h : qM_many F R J a1 K) : G X 0 0 (wM ad ka F R J) 0 [(0, .int a1)] [] := by
  unfold qM_many at h
  refine g_iconst C (0 : Int32) dX10_many_0 ci_0 ?_
  refine g_istore_n C [(1, .int (0 : Int32)), (0, .int a1)] dX10_many_1 (by decide) rfl ?_
  refine g_iload_n C 1 dX10_many_2 rfl ?_
  refine g_istore_n C [(2, .int a1), (1, .int (0 : Int32)), (0, .int a1)] dX10_many_3 (by decide) rfl ?_
  obtain ⟨n1, h⟩ := h
  exact g_lv [1, 0] rfl (lM_many_4 C hret n1 _ _ _ _ _ h)
set_option maxHeartbeats 4000000 in
set_option maxRecDepth 100000 in
theorem kM_many (l : Launch) (D : va_G) (ka : Nat → ClassId) (ad : Nat → Nat) (F : FT) (R : RT) (J : JT) (a1 : Int32) (K : Int32 → FT → RT → JT → Prop) (h : qM_many F R J a1 K) : MI l D ka yX10_many cX10_many 3 (some .int) 1 0 0 [.int a1] (wM ad ka F R J) (fun z w => ∃ F R J, w = wM ad ka F R J ∧ K z F R J) := MI_of (by decide) (Nat.le_of_ble_eq_true rfl) (fun X C hroom hret => bM_many C hret F R J a1 h)
set_option maxHeartbeats 4000000 in
set_option maxRecDepth 100000 in
theorem siX10_many : SInf yX10_many cX10_many 3 (some .int) 1 := ⟨(gw_of tw5_83 rfl), (gw_of tw1_6 rfl), (gw_of tw5_84 rfl), by decide +kernel, by decide⟩

def qM_plan_187 (k25 : FT → RT → JT → Int32 → Int32 → Int32 → Int32 → Prop) (F : FT) (R : RT) (J : JT) (v1 : Int32) (v2 : Int32) (v4 : Int32) (s0 : Int32) (K : Int32 → FT → RT → JT → Prop) : Prop :=
  k25 F R J v1 v2 s0 (v4 + (1 : Int32))
set_option maxHeartbeats 4000000 in
set_option maxRecDepth 100000 in
theorem lM_plan_187 {X : XT} {ka : Nat → ClassId} {ad : Nat → Nat} (C : Cx X cX10_plan 9 RX10 (some .int) ka 6) {K : Int32 → FT → RT → JT → Prop} (hret : RetI X cX10_plan .int 0 0 (fun z w => ∃ F R J, w = wM ad ka F R J ∧ K z F R J)) {k25 : FT → RT → JT → Int32 → Int32 → Int32 → Int32 → Prop} (hk25 : ∀ (F : FT) (R : RT) (J : JT) (v1 : Int32) (v2 : Int32) (v3 : Int32) (v4 : Int32), k25 F R J v1 v2 v3 v4 → G X 0 0 (wM ad ka F R J) 25 [(0, .ref (ad 20)), (1, .int v1), (2, .int v2), (3, .int v3), (4, .int v4)] []) (F : FT) (R : RT) (J : JT) (v1 : Int32) (v2 : Int32) (v4 : Int32) (s0 : Int32) (h : qM_plan_187 k25 F R J v1 v2 v4 s0 K) : G X 0 0 (wM ad ka F R J) 187 [(0, .ref (ad 20)), (1, .int v1), (2, .int v2), (4, .int v4)] [.int s0] := by
  unfold qM_plan_187 at h
  refine g_istore_n C [(3, .int s0), (0, .ref (ad 20)), (1, .int v1), (2, .int v2), (4, .int v4)] dX10_plan_187 (by decide) rfl ?_
  refine g_iinc C 4 (v4 + (1 : Int32)) [(4, .int (v4 + (1 : Int32))), (3, .int s0), (0, .ref (ad 20)), (1, .int v1), (2, .int v2)] dX10_plan_188 rfl (by rw [ci_1]) (by decide) rfl ?_
  refine g_goto C 25 dX10_plan_191 (by decide) ?_
  exact g_lv [2, 3, 4, 1, 0] rfl (hk25 _ _ _ _ _ _ _ h)
def qM_plan_186 (k25 : FT → RT → JT → Int32 → Int32 → Int32 → Int32 → Prop) (F : FT) (R : RT) (J : JT) (v1 : Int32) (v2 : Int32) (v3 : Int32) (v4 : Int32) (K : Int32 → FT → RT → JT → Prop) : Prop :=
  qM_plan_187 k25 F R J v1 v2 v4 v3 K
set_option maxHeartbeats 4000000 in
set_option maxRecDepth 100000 in
theorem lM_plan_186 {X : XT} {ka : Nat → ClassId} {ad : Nat → Nat} (C : Cx X cX10_plan 9 RX10 (some .int) ka 6) {K : Int32 → FT → RT → JT → Prop} (hret : RetI X cX10_plan .int 0 0 (fun z w => ∃ F R J, w = wM ad ka F R J ∧ K z F R J)) {k25 : FT → RT → JT → Int32 → Int32 → Int32 → Int32 → Prop} (hk25 : ∀ (F : FT) (R : RT) (J : JT) (v1 : Int32) (v2 : Int32) (v3 : Int32) (v4 : Int32), k25 F R J v1 v2 v3 v4 → G X 0 0 (wM ad ka F R J) 25 [(0, .ref (ad 20)), (1, .int v1), (2, .int v2), (3, .int v3), (4, .int v4)] []) (F : FT) (R : RT) (J : JT) (v1 : Int32) (v2 : Int32) (v3 : Int32) (v4 : Int32) (h : qM_plan_186 k25 F R J v1 v2 v3 v4 K) : G X 0 0 (wM ad ka F R J) 186 [(0, .ref (ad 20)), (1, .int v1), (2, .int v2), (3, .int v3), (4, .int v4)] [] := by
  unfold qM_plan_186 at h
  refine g_iload_n C 3 dX10_plan_186 rfl ?_
  exact g_lv [0, 1, 2, 4] rfl (lM_plan_187 C hret hk25 _ _ _ _ _ _ _ h)
def qM_plan_151 (k25 : FT → RT → JT → Int32 → Int32 → Int32 → Int32 → Prop) (k69 : FT → RT → JT → Int32 → Int32 → Int32 → Int32 → Int32 → Int32 → Int32 → Prop) (F : FT) (R : RT) (J : JT) (v1 : Int32) (v2 : Int32) (v3 : Int32) (v4 : Int32) (v5 : Int32) (v7 : Int32) (s0 : Int32) (K : Int32 → FT → RT → JT → Prop) : Prop :=
  k69 F R J v1 v2 v3 v4 v5 s0 (v7 + (1 : Int32))
set_option maxHeartbeats 4000000 in
set_option maxRecDepth 100000 in
theorem lM_plan_151 {X : XT} {ka : Nat → ClassId} {ad : Nat → Nat} (C : Cx X cX10_plan 9 RX10 (some .int) ka 6) {K : Int32 → FT → RT → JT → Prop} (hret : RetI X cX10_plan .int 0 0 (fun z w => ∃ F R J, w = wM ad ka F R J ∧ K z F R J)) {k25 : FT → RT → JT → Int32 → Int32 → Int32 → Int32 → Prop} {k69 : FT → RT → JT → Int32 → Int32 → Int32 → Int32 → Int32 → Int32 → Int32 → Prop} (hk25 : ∀ (F : FT) (R : RT) (J : JT) (v1 : Int32) (v2 : Int32) (v3 : Int32) (v4 : Int32), k25 F R J v1 v2 v3 v4 → G X 0 0 (wM ad ka F R J) 25 [(0, .ref (ad 20)), (1, .int v1), (2, .int v2), (3, .int v3), (4, .int v4)] []) (hk69 : ∀ (F : FT) (R : RT) (J : JT) (v1 : Int32) (v2 : Int32) (v3 : Int32) (v4 : Int32) (v5 : Int32) (v6 : Int32) (v7 : Int32), k69 F R J v1 v2 v3 v4 v5 v6 v7 → G X 0 0 (wM ad ka F R J) 69 [(0, .ref (ad 20)), (1, .int v1), (2, .int v2), (3, .int v3), (4, .int v4), (5, .int v5), (6, .int v6), (7, .int v7)] []) (F : FT) (R : RT) (J : JT) (v1 : Int32) (v2 : Int32) (v3 : Int32) (v4 : Int32) (v5 : Int32) (v7 : Int32) (s0 : Int32) (h : qM_plan_151 k25 k69 F R J v1 v2 v3 v4 v5 v7 s0 K) : G X 0 0 (wM ad ka F R J) 151 [(0, .ref (ad 20)), (1, .int v1), (2, .int v2), (3, .int v3), (4, .int v4), (5, .int v5), (7, .int v7)] [.int s0] := by
  unfold qM_plan_151 at h
  refine g_istore C [(6, .int s0), (0, .ref (ad 20)), (1, .int v1), (2, .int v2), (3, .int v3), (4, .int v4), (5, .int v5), (7, .int v7)] dX10_plan_151 (by decide) rfl ?_
  refine g_iinc C 7 (v7 + (1 : Int32)) [(7, .int (v7 + (1 : Int32))), (6, .int s0), (0, .ref (ad 20)), (1, .int v1), (2, .int v2), (3, .int v3), (4, .int v4), (5, .int v5)] dX10_plan_153 rfl (by rw [ci_1]) (by decide) rfl ?_
  refine g_goto C 69 dX10_plan_156 (by decide) ?_
  exact g_lv [2, 3, 4, 5, 6, 7, 1, 0] rfl (hk69 _ _ _ _ _ _ _ _ _ _ h)
def qM_plan_150 (k25 : FT → RT → JT → Int32 → Int32 → Int32 → Int32 → Prop) (k69 : FT → RT → JT → Int32 → Int32 → Int32 → Int32 → Int32 → Int32 → Int32 → Prop) (F : FT) (R : RT) (J : JT) (v1 : Int32) (v2 : Int32) (v3 : Int32) (v4 : Int32) (v5 : Int32) (v7 : Int32) (K : Int32 → FT → RT → JT → Prop) : Prop :=
  qM_plan_151 k25 k69 F R J v1 v2 v3 v4 v5 v7 (0 : Int32) K
set_option maxHeartbeats 4000000 in
set_option maxRecDepth 100000 in
theorem lM_plan_150 {X : XT} {ka : Nat → ClassId} {ad : Nat → Nat} (C : Cx X cX10_plan 9 RX10 (some .int) ka 6) {K : Int32 → FT → RT → JT → Prop} (hret : RetI X cX10_plan .int 0 0 (fun z w => ∃ F R J, w = wM ad ka F R J ∧ K z F R J)) {k25 : FT → RT → JT → Int32 → Int32 → Int32 → Int32 → Prop} {k69 : FT → RT → JT → Int32 → Int32 → Int32 → Int32 → Int32 → Int32 → Int32 → Prop} (hk25 : ∀ (F : FT) (R : RT) (J : JT) (v1 : Int32) (v2 : Int32) (v3 : Int32) (v4 : Int32), k25 F R J v1 v2 v3 v4 → G X 0 0 (wM ad ka F R J) 25 [(0, .ref (ad 20)), (1, .int v1), (2, .int v2), (3, .int v3), (4, .int v4)] []) (hk69 : ∀ (F : FT) (R : RT) (J : JT) (v1 : Int32) (v2 : Int32) (v3 : Int32) (v4 : Int32) (v5 : Int32) (v6 : Int32) (v7 : Int32), k69 F R J v1 v2 v3 v4 v5 v6 v7 → G X 0 0 (wM ad ka F R J) 69 [(0, .ref (ad 20)), (1, .int v1), (2, .int v2), (3, .int v3), (4, .int v4), (5, .int v5), (6, .int v6), (7, .int v7)] []) (F : FT) (R : RT) (J : JT) (v1 : Int32) (v2 : Int32) (v3 : Int32) (v4 : Int32) (v5 : Int32) (v7 : Int32) (h : qM_plan_150 k25 k69 F R J v1 v2 v3 v4 v5 v7 K) : G X 0 0 (wM ad ka F R J) 150 [(0, .ref (ad 20)), (1, .int v1), (2, .int v2), (3, .int v3), (4, .int v4), (5, .int v5), (7, .int v7)] [] := by
  unfold qM_plan_150 at h
  refine g_iconst C (0 : Int32) dX10_plan_150 ci_0 ?_
  exact g_lv [0, 1, 2, 3, 4, 5, 6] rfl (lM_plan_151 C hret hk25 hk69 _ _ _ _ _ _ _ _ _ _ h)
def qM_plan_146 (k25 : FT → RT → JT → Int32 → Int32 → Int32 → Int32 → Prop) (k69 : FT → RT → JT → Int32 → Int32 → Int32 → Int32 → Int32 → Int32 → Int32 → Prop) (F : FT) (R : RT) (J : JT) (v1 : Int32) (v2 : Int32) (v3 : Int32) (v4 : Int32) (v5 : Int32) (v7 : Int32) (K : Int32 → FT → RT → JT → Prop) : Prop :=
  qM_plan_151 k25 k69 F R J v1 v2 v3 v4 v5 v7 (1 : Int32) K
set_option maxHeartbeats 4000000 in
set_option maxRecDepth 100000 in
theorem lM_plan_146 {X : XT} {ka : Nat → ClassId} {ad : Nat → Nat} (C : Cx X cX10_plan 9 RX10 (some .int) ka 6) {K : Int32 → FT → RT → JT → Prop} (hret : RetI X cX10_plan .int 0 0 (fun z w => ∃ F R J, w = wM ad ka F R J ∧ K z F R J)) {k25 : FT → RT → JT → Int32 → Int32 → Int32 → Int32 → Prop} {k69 : FT → RT → JT → Int32 → Int32 → Int32 → Int32 → Int32 → Int32 → Int32 → Prop} (hk25 : ∀ (F : FT) (R : RT) (J : JT) (v1 : Int32) (v2 : Int32) (v3 : Int32) (v4 : Int32), k25 F R J v1 v2 v3 v4 → G X 0 0 (wM ad ka F R J) 25 [(0, .ref (ad 20)), (1, .int v1), (2, .int v2), (3, .int v3), (4, .int v4)] []) (hk69 : ∀ (F : FT) (R : RT) (J : JT) (v1 : Int32) (v2 : Int32) (v3 : Int32) (v4 : Int32) (v5 : Int32) (v6 : Int32) (v7 : Int32), k69 F R J v1 v2 v3 v4 v5 v6 v7 → G X 0 0 (wM ad ka F R J) 69 [(0, .ref (ad 20)), (1, .int v1), (2, .int v2), (3, .int v3), (4, .int v4), (5, .int v5), (6, .int v6), (7, .int v7)] []) (F : FT) (R : RT) (J : JT) (v1 : Int32) (v2 : Int32) (v3 : Int32) (v4 : Int32) (v5 : Int32) (v7 : Int32) (h : qM_plan_146 k25 k69 F R J v1 v2 v3 v4 v5 v7 K) : G X 0 0 (wM ad ka F R J) 146 [(0, .ref (ad 20)), (1, .int v1), (2, .int v2), (3, .int v3), (4, .int v4), (5, .int v5), (7, .int v7)] [] := by
  unfold qM_plan_146 at h
  refine g_iconst C (1 : Int32) dX10_plan_146 ci_1 ?_
  refine g_goto C 151 dX10_plan_147 (by decide) ?_
  exact g_lv [0, 1, 2, 3, 4, 5, 6] rfl (lM_plan_151 C hret hk25 hk69 _ _ _ _ _ _ _ _ _ _ h)
def qM_plan_115 (k25 : FT → RT → JT → Int32 → Int32 → Int32 → Int32 → Prop) (k69 : FT → RT → JT → Int32 → Int32 → Int32 → Int32 → Int32 → Int32 → Int32 → Prop) (F : FT) (R : RT) (J : JT) (v1 : Int32) (v2 : Int32) (v3 : Int32) (v4 : Int32) (v6 : Int32) (v7 : Int32) (v8 : Int32) (s0 : Int32) (s1 : Int32) (K : Int32 → FT → RT → JT → Prop) : Prop :=
  (v6 = 0 → (qM_plan_150 k25 k69 F R J v1 v2 v3 v4 (s1 + s0) v7 K)) ∧ (¬ v6 = 0 → ((v8 = 0 → (qM_plan_146 k25 k69 F R J v1 v2 v3 v4 (s1 + s0) v7 K)) ∧ (¬ v8 = 0 → (qM_isUsed F R J v7 (fun r3 F3 R3 J3 => (¬ r3 = 0 → (qM_plan_150 k25 k69 F3 R3 J3 v1 v2 v3 v4 (s1 + s0) v7 K)) ∧ (r3 = 0 → (qM_breaks F3 R3 J3 v7 (fun r5 F5 R5 J5 => (¬ r5 = 0 → (qM_plan_150 k25 k69 F5 R5 J5 v1 v2 v3 v4 (s1 + s0) v7 K)) ∧ (r5 = 0 → (qM_plan_146 k25 k69 F5 R5 J5 v1 v2 v3 v4 (s1 + s0) v7 K))))))))))
set_option maxHeartbeats 4000000 in
set_option maxRecDepth 100000 in
theorem lM_plan_115 {X : XT} {ka : Nat → ClassId} {ad : Nat → Nat} (C : Cx X cX10_plan 9 RX10 (some .int) ka 6) {K : Int32 → FT → RT → JT → Prop} (hret : RetI X cX10_plan .int 0 0 (fun z w => ∃ F R J, w = wM ad ka F R J ∧ K z F R J)) {k25 : FT → RT → JT → Int32 → Int32 → Int32 → Int32 → Prop} {k69 : FT → RT → JT → Int32 → Int32 → Int32 → Int32 → Int32 → Int32 → Int32 → Prop} (hk25 : ∀ (F : FT) (R : RT) (J : JT) (v1 : Int32) (v2 : Int32) (v3 : Int32) (v4 : Int32), k25 F R J v1 v2 v3 v4 → G X 0 0 (wM ad ka F R J) 25 [(0, .ref (ad 20)), (1, .int v1), (2, .int v2), (3, .int v3), (4, .int v4)] []) (hk69 : ∀ (F : FT) (R : RT) (J : JT) (v1 : Int32) (v2 : Int32) (v3 : Int32) (v4 : Int32) (v5 : Int32) (v6 : Int32) (v7 : Int32), k69 F R J v1 v2 v3 v4 v5 v6 v7 → G X 0 0 (wM ad ka F R J) 69 [(0, .ref (ad 20)), (1, .int v1), (2, .int v2), (3, .int v3), (4, .int v4), (5, .int v5), (6, .int v6), (7, .int v7)] []) (F : FT) (R : RT) (J : JT) (v1 : Int32) (v2 : Int32) (v3 : Int32) (v4 : Int32) (v6 : Int32) (v7 : Int32) (v8 : Int32) (s0 : Int32) (s1 : Int32) (h : qM_plan_115 k25 k69 F R J v1 v2 v3 v4 v6 v7 v8 s0 s1 K) : G X 0 0 (wM ad ka F R J) 115 [(0, .ref (ad 20)), (1, .int v1), (2, .int v2), (3, .int v3), (4, .int v4), (6, .int v6), (7, .int v7), (8, .int v8)] [.int s0, .int s1] := by
  unfold qM_plan_115 at h
  refine g_iadd C dX10_plan_115 ?_
  refine g_istore C [(5, .int (s1 + s0)), (0, .ref (ad 20)), (1, .int v1), (2, .int v2), (3, .int v3), (4, .int v4), (6, .int v6), (7, .int v7), (8, .int v8)] dX10_plan_116 (by decide) rfl ?_
  refine g_iload C 6 dX10_plan_118 rfl ?_
  refine g_if_eq C 150 dX10_plan_120 (by decide) (fun c1 => ?_) (fun c1 => ?_)
  · have h := h.1 c1
    exact g_lv [1, 2, 3, 4, 5, 0, 7] rfl (lM_plan_150 C hret hk25 hk69 _ _ _ _ _ _ _ _ _ h)
  · have h := h.2 c1
    refine g_iload C 8 dX10_plan_123 rfl ?_
    refine g_if_eq C 146 dX10_plan_125 (by decide) (fun c2 => ?_) (fun c2 => ?_)
    · have h := h.1 c2
      exact g_lv [1, 2, 3, 4, 5, 0, 7] rfl (lM_plan_146 C hret hk25 hk69 _ _ _ _ _ _ _ _ _ h)
    · have h := h.2 c2
      refine g_aload_n C 1 dX10_plan_128 rfl ?_
      refine g_iload C 7 dX10_plan_129 rfl ?_
      refine g_callVi0 C (kM_isUsed (xL X) (xD X) ka ad _ _ _ _ _ h) miX10_isUsed (gw_of tw5_12 rfl) (by decide) wM_at rfl rfl rfl (Nat.le_of_ble_eq_true rfl) z00 dX10_plan_131 (fun r3 w hw => ?_)
      obtain ⟨F3, R3, J3, rfl, h⟩ := hw
      refine g_if_ne C 150 dX10_plan_134 (by decide) (fun c4 => ?_) (fun c4 => ?_)
      · have h := h.1 c4
        exact g_lv [1, 2, 3, 4, 5, 0, 7] rfl (lM_plan_150 C hret hk25 hk69 _ _ _ _ _ _ _ _ _ h)
      · have h := h.2 c4
        refine g_aload_n C 1 dX10_plan_137 rfl ?_
        refine g_iload C 7 dX10_plan_138 rfl ?_
        refine g_callVi0 C (kM_breaks (xL X) (xD X) ka ad _ _ _ _ _ h) miX10_breaks (gw_of tw5_20 rfl) (by decide) wM_at rfl rfl rfl (Nat.le_of_ble_eq_true rfl) z00 dX10_plan_140 (fun r5 w hw => ?_)
        obtain ⟨F5, R5, J5, rfl, h⟩ := hw
        refine g_if_ne C 150 dX10_plan_143 (by decide) (fun c6 => ?_) (fun c6 => ?_)
        · have h := h.1 c6
          exact g_lv [1, 2, 3, 4, 5, 0, 7] rfl (lM_plan_150 C hret hk25 hk69 _ _ _ _ _ _ _ _ _ h)
        · have h := h.2 c6
          exact g_lv [1, 2, 3, 4, 5, 0, 7] rfl (lM_plan_146 C hret hk25 hk69 _ _ _ _ _ _ _ _ _ h)
def qM_plan_96 (k25 : FT → RT → JT → Int32 → Int32 → Int32 → Int32 → Prop) (k69 : FT → RT → JT → Int32 → Int32 → Int32 → Int32 → Int32 → Int32 → Int32 → Prop) (F : FT) (R : RT) (J : JT) (v1 : Int32) (v2 : Int32) (v3 : Int32) (v4 : Int32) (v5 : Int32) (v6 : Int32) (v7 : Int32) (s0 : Int32) (K : Int32 → FT → RT → JT → Prop) : Prop :=
  (s0 = 0 → (qM_plan_115 k25 k69 F R J v1 v2 v3 v4 v6 v7 s0 (0 : Int32) v5 K)) ∧ (¬ s0 = 0 → (qM_costOf F R J v7 (fun r2 F2 R2 J2 => qM_plan_115 k25 k69 F2 R2 J2 v1 v2 v3 v4 v6 v7 s0 r2 v5 K)))
set_option maxHeartbeats 4000000 in
set_option maxRecDepth 100000 in
theorem lM_plan_96 {X : XT} {ka : Nat → ClassId} {ad : Nat → Nat} (C : Cx X cX10_plan 9 RX10 (some .int) ka 6) {K : Int32 → FT → RT → JT → Prop} (hret : RetI X cX10_plan .int 0 0 (fun z w => ∃ F R J, w = wM ad ka F R J ∧ K z F R J)) {k25 : FT → RT → JT → Int32 → Int32 → Int32 → Int32 → Prop} {k69 : FT → RT → JT → Int32 → Int32 → Int32 → Int32 → Int32 → Int32 → Int32 → Prop} (hk25 : ∀ (F : FT) (R : RT) (J : JT) (v1 : Int32) (v2 : Int32) (v3 : Int32) (v4 : Int32), k25 F R J v1 v2 v3 v4 → G X 0 0 (wM ad ka F R J) 25 [(0, .ref (ad 20)), (1, .int v1), (2, .int v2), (3, .int v3), (4, .int v4)] []) (hk69 : ∀ (F : FT) (R : RT) (J : JT) (v1 : Int32) (v2 : Int32) (v3 : Int32) (v4 : Int32) (v5 : Int32) (v6 : Int32) (v7 : Int32), k69 F R J v1 v2 v3 v4 v5 v6 v7 → G X 0 0 (wM ad ka F R J) 69 [(0, .ref (ad 20)), (1, .int v1), (2, .int v2), (3, .int v3), (4, .int v4), (5, .int v5), (6, .int v6), (7, .int v7)] []) (F : FT) (R : RT) (J : JT) (v1 : Int32) (v2 : Int32) (v3 : Int32) (v4 : Int32) (v5 : Int32) (v6 : Int32) (v7 : Int32) (s0 : Int32) (h : qM_plan_96 k25 k69 F R J v1 v2 v3 v4 v5 v6 v7 s0 K) : G X 0 0 (wM ad ka F R J) 96 [(0, .ref (ad 20)), (1, .int v1), (2, .int v2), (3, .int v3), (4, .int v4), (5, .int v5), (6, .int v6), (7, .int v7)] [.int s0] := by
  unfold qM_plan_96 at h
  refine g_istore C [(8, .int s0), (0, .ref (ad 20)), (1, .int v1), (2, .int v2), (3, .int v3), (4, .int v4), (5, .int v5), (6, .int v6), (7, .int v7)] dX10_plan_96 (by decide) rfl ?_
  refine g_iload C 6 dX10_plan_98 rfl ?_
  refine g_iload C 0 dX10_plan_100 rfl ?_
  refine g_if_eq C 114 dX10_plan_102 (by decide) (fun c1 => ?_) (fun c1 => ?_)
  · have h := h.1 c1
    refine g_iconst C (0 : Int32) dX10_plan_114 ci_0 ?_
    exact g_lv [1, 2, 3, 4, 5, 7, 8, 0] rfl (lM_plan_115 C hret hk25 hk69 _ _ _ _ _ _ _ _ _ _ _ _ h)
  · have h := h.2 c1
    refine g_aload_n C 1 dX10_plan_105 rfl ?_
    refine g_iload C 8 dX10_plan_106 rfl ?_
    refine g_callVi0 C (kM_costOf (xL X) (xD X) ka ad _ _ _ _ _ h) miX10_costOf (gw_of tw5_16 rfl) (by decide) wM_at rfl rfl rfl (Nat.le_of_ble_eq_true rfl) z00 dX10_plan_108 (fun r2 w hw => ?_)
    obtain ⟨F2, R2, J2, rfl, h⟩ := hw
    refine g_goto C 115 dX10_plan_111 (by decide) ?_
    exact g_lv [1, 2, 3, 4, 5, 7, 8, 0] rfl (lM_plan_115 C hret hk25 hk69 _ _ _ _ _ _ _ _ _ _ _ _ h)
def qM_plan_69 : Nat → (FT → RT → JT → Int32 → Int32 → Int32 → Int32 → Prop) → FT → RT → JT → Int32 → Int32 → Int32 → Int32 → Int32 → Int32 → Int32 → (Int32 → FT → RT → JT → Prop) → Prop
  | 0, _, _, _, _, _, _, _, _, _, _, _ => fun _ => False
  | n69 + 1, k25, F, R, J, v1, v2, v3, v4, v5, v6, v7 => fun K => ((R 0 1) ≤ v7 → ((v6 = 0 → (qM_plan_186 k25 F R J v1 v2 v3 v4 K)) ∧ (¬ v6 = 0 → (qM_oddsBy F R J (R 0 6) v5 (fun r3 F3 R3 J3 => (v1 < r3 → (qM_plan_186 k25 F3 R3 J3 v1 v2 v3 v4 K)) ∧ (¬ v1 < r3 → (qM_plan_187 k25 F3 R3 J3 v1 v2 v4 v4 K))))))) ∧ (¬ (R 0 1) ≤ v7 → ((¬ ((v4 >>> (v7 &&& 31)) &&& (1 : Int32)) = (1 : Int32) → (qM_plan_96 k25 (fun F R J v1 v2 v3 v4 v5 v6 v7 => qM_plan_69 n69 k25 F R J v1 v2 v3 v4 v5 v6 v7 K) F R J v1 v2 v3 v4 v5 v6 v7 (0 : Int32) K)) ∧ (((v4 >>> (v7 &&& 31)) &&& (1 : Int32)) = (1 : Int32) → (qM_plan_96 k25 (fun F R J v1 v2 v3 v4 v5 v6 v7 => qM_plan_69 n69 k25 F R J v1 v2 v3 v4 v5 v6 v7 K) F R J v1 v2 v3 v4 v5 v6 v7 (1 : Int32) K))))
set_option maxHeartbeats 4000000 in
set_option maxRecDepth 100000 in
theorem lM_plan_69 {X : XT} {ka : Nat → ClassId} {ad : Nat → Nat} (C : Cx X cX10_plan 9 RX10 (some .int) ka 6) {K : Int32 → FT → RT → JT → Prop} (hret : RetI X cX10_plan .int 0 0 (fun z w => ∃ F R J, w = wM ad ka F R J ∧ K z F R J)) {k25 : FT → RT → JT → Int32 → Int32 → Int32 → Int32 → Prop} (hk25 : ∀ (F : FT) (R : RT) (J : JT) (v1 : Int32) (v2 : Int32) (v3 : Int32) (v4 : Int32), k25 F R J v1 v2 v3 v4 → G X 0 0 (wM ad ka F R J) 25 [(0, .ref (ad 20)), (1, .int v1), (2, .int v2), (3, .int v3), (4, .int v4)] []) : ∀ (n : Nat) (F : FT) (R : RT) (J : JT) (v1 : Int32) (v2 : Int32) (v3 : Int32) (v4 : Int32) (v5 : Int32) (v6 : Int32) (v7 : Int32), qM_plan_69 n k25 F R J v1 v2 v3 v4 v5 v6 v7 K → G X 0 0 (wM ad ka F R J) 69 [(0, .ref (ad 20)), (1, .int v1), (2, .int v2), (3, .int v3), (4, .int v4), (5, .int v5), (6, .int v6), (7, .int v7)] [] := by
  intro n
  induction n with
  | zero => intro F R J v1 v2 v3 v4 v5 v6 v7 h; exact h.elim
  | succ n ih =>
    intro F R J v1 v2 v3 v4 v5 v6 v7 h
    refine g_iload C 7 dX10_plan_69 rfl ?_
    refine g_aload_n C 0 dX10_plan_71 rfl ?_
    refine Mg_now C dX10_plan_72 ?_
    refine g_iconst C (1 : Int32) dX10_plan_75 ci_1 ?_
    refine Ma_now C (f := R 0) rfl (1) (by decide) (vp_lit (by decide)) dX10_plan_76 ?_
    refine g_icmp_ge C 159 dX10_plan_77 (by decide) (fun c1 => ?_) (fun c1 => ?_)
    · have h := h.1 c1
      refine g_iload C 6 dX10_plan_159 rfl ?_
      refine g_if_eq C 186 dX10_plan_161 (by decide) (fun c2 => ?_) (fun c2 => ?_)
      · have h := h.1 c2
        exact g_lv [0, 1, 2, 3, 4] rfl (lM_plan_186 C hret hk25 _ _ _ _ _ _ _ h)
      · have h := h.2 c2
        refine g_aload_n C 0 dX10_plan_164 rfl ?_
        refine g_aload_n C 0 dX10_plan_165 rfl ?_
        refine Mg_now C dX10_plan_166 ?_
        refine g_bipush C (6 : Int32) dX10_plan_169 cb_6 ?_
        refine Ma_now C (f := R 0) rfl (6) (by decide) (vp_lit (by decide)) dX10_plan_171 ?_
        refine g_iload C 5 dX10_plan_172 rfl ?_
        refine g_callVi0 C (kM_oddsBy (xL X) (xD X) ka ad _ _ _ _ _ _ h) miX10_oddsBy (gw_of tw5_48 rfl) (by decide) wM_at rfl rfl rfl (Nat.le_of_ble_eq_true rfl) z00 dX10_plan_174 (fun r3 w hw => ?_)
        obtain ⟨F3, R3, J3, rfl, h⟩ := hw
        refine g_iload_n C 1 dX10_plan_177 rfl ?_
        refine g_icmp_gt C 186 dX10_plan_178 (by decide) (fun c4 => ?_) (fun c4 => ?_)
        · have h := h.1 c4
          exact g_lv [0, 1, 2, 3, 4] rfl (lM_plan_186 C hret hk25 _ _ _ _ _ _ _ h)
        · have h := h.2 c4
          refine g_iload C 4 dX10_plan_181 rfl ?_
          refine g_goto C 187 dX10_plan_183 (by decide) ?_
          exact g_lv [0, 1, 2, 4] rfl (lM_plan_187 C hret hk25 _ _ _ _ _ _ _ h)
    · have h := h.2 c1
      refine g_iload C 4 dX10_plan_80 rfl ?_
      refine g_iload C 7 dX10_plan_82 rfl ?_
      refine g_ishr C dX10_plan_84 ?_
      refine g_iconst C (1 : Int32) dX10_plan_85 ci_1 ?_
      refine g_iand C dX10_plan_86 ?_
      refine g_iconst C (1 : Int32) dX10_plan_87 ci_1 ?_
      refine g_icmp_ne C 95 dX10_plan_88 (by decide) (fun c5 => ?_) (fun c5 => ?_)
      · have h := h.1 c5
        refine g_iconst C (0 : Int32) dX10_plan_95 ci_0 ?_
        exact g_lv [0, 1, 2, 3, 4, 5, 6, 7] rfl (lM_plan_96 C hret hk25 (fun F R J v1 v2 v3 v4 v5 v6 v7 h => ih F R J v1 v2 v3 v4 v5 v6 v7 h) _ _ _ _ _ _ _ _ _ _ _ h)
      · have h := h.2 c5
        refine g_iconst C (1 : Int32) dX10_plan_91 ci_1 ?_
        refine g_goto C 96 dX10_plan_92 (by decide) ?_
        exact g_lv [0, 1, 2, 3, 4, 5, 6, 7] rfl (lM_plan_96 C hret hk25 (fun F R J v1 v2 v3 v4 v5 v6 v7 h => ih F R J v1 v2 v3 v4 v5 v6 v7 h) _ _ _ _ _ _ _ _ _ _ _ h)
def qM_plan_64 (k25 : FT → RT → JT → Int32 → Int32 → Int32 → Int32 → Prop) (F : FT) (R : RT) (J : JT) (v1 : Int32) (v2 : Int32) (v3 : Int32) (v4 : Int32) (v5 : Int32) (s0 : Int32) (K : Int32 → FT → RT → JT → Prop) : Prop :=
  ∃ n69, qM_plan_69 n69 k25 F R J v1 v2 v3 v4 v5 s0 (0 : Int32) K
set_option maxHeartbeats 4000000 in
set_option maxRecDepth 100000 in
theorem lM_plan_64 {X : XT} {ka : Nat → ClassId} {ad : Nat → Nat} (C : Cx X cX10_plan 9 RX10 (some .int) ka 6) {K : Int32 → FT → RT → JT → Prop} (hret : RetI X cX10_plan .int 0 0 (fun z w => ∃ F R J, w = wM ad ka F R J ∧ K z F R J)) {k25 : FT → RT → JT → Int32 → Int32 → Int32 → Int32 → Prop} (hk25 : ∀ (F : FT) (R : RT) (J : JT) (v1 : Int32) (v2 : Int32) (v3 : Int32) (v4 : Int32), k25 F R J v1 v2 v3 v4 → G X 0 0 (wM ad ka F R J) 25 [(0, .ref (ad 20)), (1, .int v1), (2, .int v2), (3, .int v3), (4, .int v4)] []) (F : FT) (R : RT) (J : JT) (v1 : Int32) (v2 : Int32) (v3 : Int32) (v4 : Int32) (v5 : Int32) (s0 : Int32) (h : qM_plan_64 k25 F R J v1 v2 v3 v4 v5 s0 K) : G X 0 0 (wM ad ka F R J) 64 [(0, .ref (ad 20)), (1, .int v1), (2, .int v2), (3, .int v3), (4, .int v4), (5, .int v5)] [.int s0] := by
  unfold qM_plan_64 at h
  refine g_istore C [(6, .int s0), (0, .ref (ad 20)), (1, .int v1), (2, .int v2), (3, .int v3), (4, .int v4), (5, .int v5)] dX10_plan_64 (by decide) rfl ?_
  refine g_iconst C (0 : Int32) dX10_plan_66 ci_0 ?_
  refine g_istore C [(7, .int (0 : Int32)), (6, .int s0), (0, .ref (ad 20)), (1, .int v1), (2, .int v2), (3, .int v3), (4, .int v4), (5, .int v5)] dX10_plan_67 (by decide) rfl ?_
  obtain ⟨n1, h⟩ := h
  exact g_lv [2, 3, 4, 5, 6, 7, 1, 0] rfl (lM_plan_69 C hret hk25 n1 _ _ _ _ _ _ _ _ _ _ h)
def qM_plan_59 (k25 : FT → RT → JT → Int32 → Int32 → Int32 → Int32 → Prop) (F : FT) (R : RT) (J : JT) (v1 : Int32) (v2 : Int32) (v3 : Int32) (v4 : Int32) (v5 : Int32) (K : Int32 → FT → RT → JT → Prop) : Prop :=
  qM_plan_64 k25 F R J v1 v2 v3 v4 v5 (1 : Int32) K
set_option maxHeartbeats 4000000 in
set_option maxRecDepth 100000 in
theorem lM_plan_59 {X : XT} {ka : Nat → ClassId} {ad : Nat → Nat} (C : Cx X cX10_plan 9 RX10 (some .int) ka 6) {K : Int32 → FT → RT → JT → Prop} (hret : RetI X cX10_plan .int 0 0 (fun z w => ∃ F R J, w = wM ad ka F R J ∧ K z F R J)) {k25 : FT → RT → JT → Int32 → Int32 → Int32 → Int32 → Prop} (hk25 : ∀ (F : FT) (R : RT) (J : JT) (v1 : Int32) (v2 : Int32) (v3 : Int32) (v4 : Int32), k25 F R J v1 v2 v3 v4 → G X 0 0 (wM ad ka F R J) 25 [(0, .ref (ad 20)), (1, .int v1), (2, .int v2), (3, .int v3), (4, .int v4)] []) (F : FT) (R : RT) (J : JT) (v1 : Int32) (v2 : Int32) (v3 : Int32) (v4 : Int32) (v5 : Int32) (h : qM_plan_59 k25 F R J v1 v2 v3 v4 v5 K) : G X 0 0 (wM ad ka F R J) 59 [(0, .ref (ad 20)), (1, .int v1), (2, .int v2), (3, .int v3), (4, .int v4), (5, .int v5)] [] := by
  unfold qM_plan_59 at h
  refine g_iconst C (1 : Int32) dX10_plan_59 ci_1 ?_
  refine g_goto C 64 dX10_plan_60 (by decide) ?_
  exact g_lv [0, 1, 2, 3, 4, 5] rfl (lM_plan_64 C hret hk25 _ _ _ _ _ _ _ _ _ h)
def qM_plan_25 : Nat → FT → RT → JT → Int32 → Int32 → Int32 → Int32 → (Int32 → FT → RT → JT → Prop) → Prop
  | 0, _, _, _, _, _, _, _ => fun _ => False
  | n25 + 1, F, R, J, v1, v2, v3, v4 => fun K => (((1 : Int32) <<< ((R 0 1) &&& 31)) ≤ v4 → ((v2 = (1 : Int32) → (K v3 F R J)) ∧ (¬ v2 = (1 : Int32) → ((¬ v3 = (-4 : Int32) → (qM_many F R J v3 (fun r4 F4 R4 J4 => K r4 F4 R4 J4))) ∧ (v3 = (-4 : Int32) → (K v3 F R J)))))) ∧ (¬ ((1 : Int32) <<< ((R 0 1) &&& 31)) ≤ v4 → ((v3 = (-4 : Int32) → (qM_plan_59 (fun F R J v1 v2 v3 v4 => qM_plan_25 n25 F R J v1 v2 v3 v4 K) F R J v1 v2 v3 v4 (0 : Int32) K)) ∧ (¬ v3 = (-4 : Int32) → (qM_many F R J v4 (fun r6 F6 R6 J6 => qM_many F6 R6 J6 v3 (fun r7 F7 R7 J7 => (r7 ≤ r6 → (qM_plan_64 (fun F R J v1 v2 v3 v4 => qM_plan_25 n25 F R J v1 v2 v3 v4 K) F7 R7 J7 v1 v2 v3 v4 (0 : Int32) (0 : Int32) K)) ∧ (¬ r7 ≤ r6 → (qM_plan_59 (fun F R J v1 v2 v3 v4 => qM_plan_25 n25 F R J v1 v2 v3 v4 K) F7 R7 J7 v1 v2 v3 v4 (0 : Int32) K))))))))
set_option maxHeartbeats 4000000 in
set_option maxRecDepth 100000 in
theorem lM_plan_25 {X : XT} {ka : Nat → ClassId} {ad : Nat → Nat} (C : Cx X cX10_plan 9 RX10 (some .int) ka 6) {K : Int32 → FT → RT → JT → Prop} (hret : RetI X cX10_plan .int 0 0 (fun z w => ∃ F R J, w = wM ad ka F R J ∧ K z F R J)) : ∀ (n : Nat) (F : FT) (R : RT) (J : JT) (v1 : Int32) (v2 : Int32) (v3 : Int32) (v4 : Int32), qM_plan_25 n F R J v1 v2 v3 v4 K → G X 0 0 (wM ad ka F R J) 25 [(0, .ref (ad 20)), (1, .int v1), (2, .int v2), (3, .int v3), (4, .int v4)] [] := by
  intro n
  induction n with
  | zero => intro F R J v1 v2 v3 v4 h; exact h.elim
  | succ n ih =>
    intro F R J v1 v2 v3 v4 h
    refine g_iload C 4 dX10_plan_25 rfl ?_
    refine g_iconst C (1 : Int32) dX10_plan_27 ci_1 ?_
    refine g_aload_n C 0 dX10_plan_28 rfl ?_
    refine Mg_now C dX10_plan_29 ?_
    refine g_iconst C (1 : Int32) dX10_plan_32 ci_1 ?_
    refine Ma_now C (f := R 0) rfl (1) (by decide) (vp_lit (by decide)) dX10_plan_33 ?_
    refine g_ishl C dX10_plan_34 ?_
    refine g_icmp_ge C 194 dX10_plan_35 (by decide) (fun c1 => ?_) (fun c1 => ?_)
    · have h := h.1 c1
      refine g_iload_n C 2 dX10_plan_194 rfl ?_
      refine g_iconst C (1 : Int32) dX10_plan_195 ci_1 ?_
      refine g_icmp_eq C 205 dX10_plan_196 (by decide) (fun c2 => ?_) (fun c2 => ?_)
      · have h := h.1 c2
        refine g_iload_n C 3 dX10_plan_205 rfl ?_
        refine g_goto C 213 dX10_plan_206 (by decide) ?_
        exact hret _ _ _ _ ⟨_, _, _, rfl, h⟩ rfl dX10_plan_213
      · have h := h.2 c2
        refine g_iload_n C 3 dX10_plan_199 rfl ?_
        refine g_bipush C (-4 : Int32) dX10_plan_200 cb_m4 ?_
        refine g_icmp_ne C 209 dX10_plan_202 (by decide) (fun c3 => ?_) (fun c3 => ?_)
        · have h := h.1 c3
          refine g_iload_n C 3 dX10_plan_209 rfl ?_
          refine g_callSi0 C (kM_many (xL X) (xD X) ka ad _ _ _ _ _ h) siX10_many (gw_of tw5_82 rfl) (by decide) rfl rfl (Nat.le_of_ble_eq_true rfl) z00 dX10_plan_210 (fun r4 w hw => ?_)
          obtain ⟨F4, R4, J4, rfl, h⟩ := hw
          exact hret _ _ _ _ ⟨_, _, _, rfl, h⟩ rfl dX10_plan_213
        · have h := h.2 c3
          refine g_iload_n C 3 dX10_plan_205 rfl ?_
          refine g_goto C 213 dX10_plan_206 (by decide) ?_
          exact hret _ _ _ _ ⟨_, _, _, rfl, h⟩ rfl dX10_plan_213
    · have h := h.2 c1
      refine g_iconst C (0 : Int32) dX10_plan_38 ci_0 ?_
      refine g_istore C [(5, .int (0 : Int32)), (0, .ref (ad 20)), (1, .int v1), (2, .int v2), (3, .int v3), (4, .int v4)] dX10_plan_39 (by decide) rfl ?_
      refine g_iload_n C 4 dX10_plan_41 rfl ?_
      refine g_bipush C (-4 : Int32) dX10_plan_42 cb_m4 ?_
      refine g_icmp_eq C 59 dX10_plan_44 (by decide) (fun c5 => ?_) (fun c5 => ?_)
      · have h := h.1 c5
        exact g_lv [1, 2, 3, 4, 5, 0] rfl (lM_plan_59 C hret (fun F R J v1 v2 v3 v4 h => ih F R J v1 v2 v3 v4 h) _ _ _ _ _ _ _ _ h)
      · have h := h.2 c5
        refine g_iload C 5 dX10_plan_47 rfl ?_
        refine g_callSi0 C (kM_many (xL X) (xD X) ka ad _ _ _ _ _ h) siX10_many (gw_of tw5_82 rfl) (by decide) rfl rfl (Nat.le_of_ble_eq_true rfl) z00 dX10_plan_49 (fun r6 w hw => ?_)
        obtain ⟨F6, R6, J6, rfl, h⟩ := hw
        refine g_iload_n C 4 dX10_plan_52 rfl ?_
        refine g_callSi0 C (kM_many (xL X) (xD X) ka ad _ _ _ _ _ h) siX10_many (gw_of tw5_82 rfl) (by decide) rfl rfl (Nat.le_of_ble_eq_true rfl) z00 dX10_plan_53 (fun r7 w hw => ?_)
        obtain ⟨F7, R7, J7, rfl, h⟩ := hw
        refine g_icmp_ge C 63 dX10_plan_56 (by decide) (fun c8 => ?_) (fun c8 => ?_)
        · have h := h.1 c8
          refine g_iconst C (0 : Int32) dX10_plan_63 ci_0 ?_
          exact g_lv [1, 2, 3, 4, 5, 0] rfl (lM_plan_64 C hret (fun F R J v1 v2 v3 v4 h => ih F R J v1 v2 v3 v4 h) _ _ _ _ _ _ _ _ _ h)
        · have h := h.2 c8
          exact g_lv [1, 2, 3, 4, 5, 0] rfl (lM_plan_59 C hret (fun F R J v1 v2 v3 v4 h => ih F R J v1 v2 v3 v4 h) _ _ _ _ _ _ _ _ h)
def qM_plan (F : FT) (R : RT) (J : JT) (a1 : Int32) (a2 : Int32) (K : Int32 → FT → RT → JT → Prop) : Prop :=
  qM_isPart F R J a1 (fun r1 F1 R1 J1 => (r1 = 0 → (K (-1 : Int32) F1 R1 J1)) ∧ (¬ r1 = 0 → (qM_in F1 R1 J1 a2.toInt64 (0 : Int64) (1 : Int64) (fun r3 F3 R3 J3 => (¬ r3 = 0 → (∃ n25, qM_plan_25 n25 F3 R3 J3 a1 a2 (-4 : Int32) (0 : Int32) K)) ∧ (r3 = 0 → (K (-1 : Int32) F3 R3 J3))))))
set_option maxHeartbeats 4000000 in
set_option maxRecDepth 100000 in
theorem bM_plan {X : XT} {ka : Nat → ClassId} {ad : Nat → Nat} (C : Cx X cX10_plan 9 RX10 (some .int) ka 6) {K : Int32 → FT → RT → JT → Prop} (hret : RetI X cX10_plan .int 0 0 (fun z w => ∃ F R J, w = wM ad ka F R J ∧ K z F R J)) (F : FT) (R : RT) (J : JT) (a1 : Int32) (a2 : Int32) (h : qM_plan F R J a1 a2 K) : G X 0 0 (wM ad ka F R J) 0 [(0, .ref (ad 20)), (1, .int a1), (2, .int a2)] [] := by
  unfold qM_plan at h
  refine g_iload_n C 1 dX10_plan_0 rfl ?_
  refine g_callSi0 C (kM_isPart (xL X) (xD X) ka ad _ _ _ _ _ h) siX10_isPart (gw_of tw5_69 rfl) (by decide) rfl rfl (Nat.le_of_ble_eq_true rfl) z00 dX10_plan_1 (fun r1 w hw => ?_)
  obtain ⟨F1, R1, J1, rfl, h⟩ := hw
  refine g_if_eq C 17 dX10_plan_4 (by decide) (fun c2 => ?_) (fun c2 => ?_)
  · have h := h.1 c2
    refine g_iconst C (-1 : Int32) dX10_plan_17 ci_m1 ?_
    exact hret _ _ _ _ ⟨_, _, _, rfl, h⟩ rfl dX10_plan_18
  · have h := h.2 c2
    refine g_iload_n C 2 dX10_plan_7 rfl ?_
    refine g_i2l C dX10_plan_8 ?_
    refine g_lconst C (0 : Int64) dX10_plan_9 rfl ?_
    refine g_lconst C (1 : Int64) dX10_plan_10 rfl ?_
    refine g_callSi0 C (kM_in (xL X) (xD X) ka ad _ _ _ _ _ _ _ h) siX10_in (gw_of tw4_136 rfl) (by decide) rfl rfl (Nat.le_of_ble_eq_true rfl) z00 dX10_plan_11 (fun r3 w hw => ?_)
    obtain ⟨F3, R3, J3, rfl, h⟩ := hw
    refine g_if_ne C 19 dX10_plan_14 (by decide) (fun c4 => ?_) (fun c4 => ?_)
    · have h := h.1 c4
      refine g_bipush C (-4 : Int32) dX10_plan_19 cb_m4 ?_
      refine g_istore_n C [(3, .int (-4 : Int32)), (0, .ref (ad 20)), (1, .int a1), (2, .int a2)] dX10_plan_21 (by decide) rfl ?_
      refine g_iconst C (0 : Int32) dX10_plan_22 ci_0 ?_
      refine g_istore C [(4, .int (0 : Int32)), (3, .int (-4 : Int32)), (0, .ref (ad 20)), (1, .int a1), (2, .int a2)] dX10_plan_23 (by decide) rfl ?_
      obtain ⟨n1, h⟩ := h
      exact g_lv [2, 3, 4, 1, 0] rfl (lM_plan_25 C hret n1 _ _ _ _ _ _ _ h)
    · have h := h.2 c4
      refine g_iconst C (-1 : Int32) dX10_plan_17 ci_m1 ?_
      exact hret _ _ _ _ ⟨_, _, _, rfl, h⟩ rfl dX10_plan_18
set_option maxHeartbeats 4000000 in
set_option maxRecDepth 100000 in
theorem kM_plan (l : Launch) (D : va_G) (ka : Nat → ClassId) (ad : Nat → Nat) (F : FT) (R : RT) (J : JT) (a1 : Int32) (a2 : Int32) (K : Int32 → FT → RT → JT → Prop) (h : qM_plan F R J a1 a2 K) : MI l D ka yX10_plan cX10_plan 9 (some .int) 6 0 0 [.ref (ad 20), .int a1, .int a2] (wM ad ka F R J) (fun z w => ∃ F R J, w = wM ad ka F R J ∧ K z F R J) := MI_of (by decide) (Nat.le_of_ble_eq_true rfl) (fun X C hroom hret => bM_plan C hret F R J a1 a2 h)
set_option maxHeartbeats 4000000 in
set_option maxRecDepth 100000 in
theorem miX10_plan : MInf yX10_plan cX10_plan 9 (some .int) 2 := ⟨(gw_of tw5_79 rfl), (gw_of tw5_80 rfl), (gw_of tw1_6 rfl), (gw_of tw5_81 rfl), by decide +kernel, by decide⟩

def qM_best_115 (k47 : FT → RT → JT → Int32 → Int32 → Int32 → Int32 → Int32 → Prop) (F : FT) (R : RT) (J : JT) (v1 : Int32) (v2 : Int32) (v3 : Int32) (v5 : Int32) (s0 : Int32) (K : Int32 → FT → RT → JT → Prop) : Prop :=
  k47 F R J v1 v2 v3 s0 (v5 + (1 : Int32))
set_option maxHeartbeats 4000000 in
set_option maxRecDepth 100000 in
theorem lM_best_115 {X : XT} {ka : Nat → ClassId} {ad : Nat → Nat} (C : Cx X cX10_best 8 RX10 (some .int) ka 6) {K : Int32 → FT → RT → JT → Prop} (hret : RetI X cX10_best .int 0 0 (fun z w => ∃ F R J, w = wM ad ka F R J ∧ K z F R J)) {k47 : FT → RT → JT → Int32 → Int32 → Int32 → Int32 → Int32 → Prop} (hk47 : ∀ (F : FT) (R : RT) (J : JT) (v1 : Int32) (v2 : Int32) (v3 : Int32) (v4 : Int32) (v5 : Int32), k47 F R J v1 v2 v3 v4 v5 → G X 0 0 (wM ad ka F R J) 47 [(0, .ref (ad 20)), (1, .int v1), (2, .int v2), (3, .int v3), (4, .int v4), (5, .int v5)] []) (F : FT) (R : RT) (J : JT) (v1 : Int32) (v2 : Int32) (v3 : Int32) (v5 : Int32) (s0 : Int32) (h : qM_best_115 k47 F R J v1 v2 v3 v5 s0 K) : G X 0 0 (wM ad ka F R J) 115 [(0, .ref (ad 20)), (1, .int v1), (2, .int v2), (3, .int v3), (5, .int v5)] [.int s0] := by
  unfold qM_best_115 at h
  refine g_istore C [(4, .int s0), (0, .ref (ad 20)), (1, .int v1), (2, .int v2), (3, .int v3), (5, .int v5)] dX10_best_115 (by decide) rfl ?_
  refine g_iinc C 5 (v5 + (1 : Int32)) [(5, .int (v5 + (1 : Int32))), (4, .int s0), (0, .ref (ad 20)), (1, .int v1), (2, .int v2), (3, .int v3)] dX10_best_117 rfl (by rw [ci_1]) (by decide) rfl ?_
  refine g_goto C 47 dX10_best_120 (by decide) ?_
  exact g_lv [2, 3, 4, 5, 1, 0] rfl (hk47 _ _ _ _ _ _ _ _ h)
def qM_best_102 (k47 : FT → RT → JT → Int32 → Int32 → Int32 → Int32 → Int32 → Prop) (F : FT) (R : RT) (J : JT) (v1 : Int32) (v2 : Int32) (v4 : Int32) (v5 : Int32) (v6 : Int32) (v7 : Int32) (s0 : Int32) (K : Int32 → FT → RT → JT → Prop) : Prop :=
  (v7 = 0 → (qM_best_115 k47 F R J v1 v2 s0 v5 v4 K)) ∧ (¬ v7 = 0 → (qM_best_115 k47 F R J v1 v2 s0 v5 v6 K))
set_option maxHeartbeats 4000000 in
set_option maxRecDepth 100000 in
theorem lM_best_102 {X : XT} {ka : Nat → ClassId} {ad : Nat → Nat} (C : Cx X cX10_best 8 RX10 (some .int) ka 6) {K : Int32 → FT → RT → JT → Prop} (hret : RetI X cX10_best .int 0 0 (fun z w => ∃ F R J, w = wM ad ka F R J ∧ K z F R J)) {k47 : FT → RT → JT → Int32 → Int32 → Int32 → Int32 → Int32 → Prop} (hk47 : ∀ (F : FT) (R : RT) (J : JT) (v1 : Int32) (v2 : Int32) (v3 : Int32) (v4 : Int32) (v5 : Int32), k47 F R J v1 v2 v3 v4 v5 → G X 0 0 (wM ad ka F R J) 47 [(0, .ref (ad 20)), (1, .int v1), (2, .int v2), (3, .int v3), (4, .int v4), (5, .int v5)] []) (F : FT) (R : RT) (J : JT) (v1 : Int32) (v2 : Int32) (v4 : Int32) (v5 : Int32) (v6 : Int32) (v7 : Int32) (s0 : Int32) (h : qM_best_102 k47 F R J v1 v2 v4 v5 v6 v7 s0 K) : G X 0 0 (wM ad ka F R J) 102 [(0, .ref (ad 20)), (1, .int v1), (2, .int v2), (4, .int v4), (5, .int v5), (6, .int v6), (7, .int v7)] [.int s0] := by
  unfold qM_best_102 at h
  refine g_istore_n C [(3, .int s0), (0, .ref (ad 20)), (1, .int v1), (2, .int v2), (4, .int v4), (5, .int v5), (6, .int v6), (7, .int v7)] dX10_best_102 (by decide) rfl ?_
  refine g_iload C 7 dX10_best_103 rfl ?_
  refine g_if_eq C 113 dX10_best_105 (by decide) (fun c1 => ?_) (fun c1 => ?_)
  · have h := h.1 c1
    refine g_iload C 4 dX10_best_113 rfl ?_
    exact g_lv [1, 2, 3, 0, 5] rfl (lM_best_115 C hret hk47 _ _ _ _ _ _ _ _ h)
  · have h := h.2 c1
    refine g_iload C 6 dX10_best_108 rfl ?_
    refine g_goto C 115 dX10_best_110 (by decide) ?_
    exact g_lv [1, 2, 3, 0, 5] rfl (lM_best_115 C hret hk47 _ _ _ _ _ _ _ _ h)
def qM_best_89 (k47 : FT → RT → JT → Int32 → Int32 → Int32 → Int32 → Int32 → Prop) (F : FT) (R : RT) (J : JT) (v1 : Int32) (v2 : Int32) (v3 : Int32) (v4 : Int32) (v5 : Int32) (v6 : Int32) (s0 : Int32) (K : Int32 → FT → RT → JT → Prop) : Prop :=
  (s0 = 0 → (qM_best_102 k47 F R J v1 v2 v4 v5 v6 s0 v3 K)) ∧ (¬ s0 = 0 → (qM_best_102 k47 F R J v1 v2 v4 v5 v6 s0 v5 K))
set_option maxHeartbeats 4000000 in
set_option maxRecDepth 100000 in
theorem lM_best_89 {X : XT} {ka : Nat → ClassId} {ad : Nat → Nat} (C : Cx X cX10_best 8 RX10 (some .int) ka 6) {K : Int32 → FT → RT → JT → Prop} (hret : RetI X cX10_best .int 0 0 (fun z w => ∃ F R J, w = wM ad ka F R J ∧ K z F R J)) {k47 : FT → RT → JT → Int32 → Int32 → Int32 → Int32 → Int32 → Prop} (hk47 : ∀ (F : FT) (R : RT) (J : JT) (v1 : Int32) (v2 : Int32) (v3 : Int32) (v4 : Int32) (v5 : Int32), k47 F R J v1 v2 v3 v4 v5 → G X 0 0 (wM ad ka F R J) 47 [(0, .ref (ad 20)), (1, .int v1), (2, .int v2), (3, .int v3), (4, .int v4), (5, .int v5)] []) (F : FT) (R : RT) (J : JT) (v1 : Int32) (v2 : Int32) (v3 : Int32) (v4 : Int32) (v5 : Int32) (v6 : Int32) (s0 : Int32) (h : qM_best_89 k47 F R J v1 v2 v3 v4 v5 v6 s0 K) : G X 0 0 (wM ad ka F R J) 89 [(0, .ref (ad 20)), (1, .int v1), (2, .int v2), (3, .int v3), (4, .int v4), (5, .int v5), (6, .int v6)] [.int s0] := by
  unfold qM_best_89 at h
  refine g_istore C [(7, .int s0), (0, .ref (ad 20)), (1, .int v1), (2, .int v2), (3, .int v3), (4, .int v4), (5, .int v5), (6, .int v6)] dX10_best_89 (by decide) rfl ?_
  refine g_iload C 0 dX10_best_91 rfl ?_
  refine g_if_eq C 101 dX10_best_93 (by decide) (fun c1 => ?_) (fun c1 => ?_)
  · have h := h.1 c1
    refine g_iload_n C 4 dX10_best_101 rfl ?_
    exact g_lv [1, 2, 3, 5, 6, 7, 0] rfl (lM_best_102 C hret hk47 _ _ _ _ _ _ _ _ _ _ h)
  · have h := h.2 c1
    refine g_iload C 6 dX10_best_96 rfl ?_
    refine g_goto C 102 dX10_best_98 (by decide) ?_
    exact g_lv [1, 2, 3, 5, 6, 7, 0] rfl (lM_best_102 C hret hk47 _ _ _ _ _ _ _ _ _ _ h)
def qM_best_84 (k47 : FT → RT → JT → Int32 → Int32 → Int32 → Int32 → Int32 → Prop) (F : FT) (R : RT) (J : JT) (v1 : Int32) (v2 : Int32) (v3 : Int32) (v4 : Int32) (v5 : Int32) (v6 : Int32) (K : Int32 → FT → RT → JT → Prop) : Prop :=
  qM_best_89 k47 F R J v1 v2 v3 v4 v5 v6 (1 : Int32) K
set_option maxHeartbeats 4000000 in
set_option maxRecDepth 100000 in
theorem lM_best_84 {X : XT} {ka : Nat → ClassId} {ad : Nat → Nat} (C : Cx X cX10_best 8 RX10 (some .int) ka 6) {K : Int32 → FT → RT → JT → Prop} (hret : RetI X cX10_best .int 0 0 (fun z w => ∃ F R J, w = wM ad ka F R J ∧ K z F R J)) {k47 : FT → RT → JT → Int32 → Int32 → Int32 → Int32 → Int32 → Prop} (hk47 : ∀ (F : FT) (R : RT) (J : JT) (v1 : Int32) (v2 : Int32) (v3 : Int32) (v4 : Int32) (v5 : Int32), k47 F R J v1 v2 v3 v4 v5 → G X 0 0 (wM ad ka F R J) 47 [(0, .ref (ad 20)), (1, .int v1), (2, .int v2), (3, .int v3), (4, .int v4), (5, .int v5)] []) (F : FT) (R : RT) (J : JT) (v1 : Int32) (v2 : Int32) (v3 : Int32) (v4 : Int32) (v5 : Int32) (v6 : Int32) (h : qM_best_84 k47 F R J v1 v2 v3 v4 v5 v6 K) : G X 0 0 (wM ad ka F R J) 84 [(0, .ref (ad 20)), (1, .int v1), (2, .int v2), (3, .int v3), (4, .int v4), (5, .int v5), (6, .int v6)] [] := by
  unfold qM_best_84 at h
  refine g_iconst C (1 : Int32) dX10_best_84 ci_1 ?_
  refine g_goto C 89 dX10_best_85 (by decide) ?_
  exact g_lv [0, 1, 2, 3, 4, 5, 6] rfl (lM_best_89 C hret hk47 _ _ _ _ _ _ _ _ _ _ h)
def qM_best_47 : Nat → FT → RT → JT → Int32 → Int32 → Int32 → Int32 → Int32 → (Int32 → FT → RT → JT → Prop) → Prop
  | 0, _, _, _, _, _, _, _, _ => fun _ => False
  | n47 + 1, F, R, J, v1, v2, v3, v4, v5 => fun K => ((R 0 3) ≤ v5 → ((¬ v2 = 0 → (K v4 F R J)) ∧ (v2 = 0 → (K v3 F R J)))) ∧ (¬ (R 0 3) ≤ v5 → (qM_costOf F R J v1 (fun r3 F3 R3 J3 => qM_oddsBy F3 R3 J3 v5 r3 (fun r4 F4 R4 J4 => (v3 = (-4 : Int32) → (qM_best_84 (fun F R J v1 v2 v3 v4 v5 => qM_best_47 n47 F R J v1 v2 v3 v4 v5 K) F4 R4 J4 v1 v2 v3 v4 v5 r4 K)) ∧ (¬ v3 = (-4 : Int32) → ((v4 ≤ r4 → (qM_best_89 (fun F R J v1 v2 v3 v4 v5 => qM_best_47 n47 F R J v1 v2 v3 v4 v5 K) F4 R4 J4 v1 v2 v3 v4 v5 r4 (0 : Int32) K)) ∧ (¬ v4 ≤ r4 → (qM_best_84 (fun F R J v1 v2 v3 v4 v5 => qM_best_47 n47 F R J v1 v2 v3 v4 v5 K) F4 R4 J4 v1 v2 v3 v4 v5 r4 K))))))))
set_option maxHeartbeats 4000000 in
set_option maxRecDepth 100000 in
theorem lM_best_47 {X : XT} {ka : Nat → ClassId} {ad : Nat → Nat} (C : Cx X cX10_best 8 RX10 (some .int) ka 6) {K : Int32 → FT → RT → JT → Prop} (hret : RetI X cX10_best .int 0 0 (fun z w => ∃ F R J, w = wM ad ka F R J ∧ K z F R J)) : ∀ (n : Nat) (F : FT) (R : RT) (J : JT) (v1 : Int32) (v2 : Int32) (v3 : Int32) (v4 : Int32) (v5 : Int32), qM_best_47 n F R J v1 v2 v3 v4 v5 K → G X 0 0 (wM ad ka F R J) 47 [(0, .ref (ad 20)), (1, .int v1), (2, .int v2), (3, .int v3), (4, .int v4), (5, .int v5)] [] := by
  intro n
  induction n with
  | zero => intro F R J v1 v2 v3 v4 v5 h; exact h.elim
  | succ n ih =>
    intro F R J v1 v2 v3 v4 v5 h
    refine g_iload C 5 dX10_best_47 rfl ?_
    refine g_aload_n C 0 dX10_best_49 rfl ?_
    refine Mg_now C dX10_best_50 ?_
    refine g_iconst C (3 : Int32) dX10_best_53 ci_3 ?_
    refine Ma_now C (f := R 0) rfl (3) (by decide) (vp_lit (by decide)) dX10_best_54 ?_
    refine g_icmp_ge C 123 dX10_best_55 (by decide) (fun c1 => ?_) (fun c1 => ?_)
    · have h := h.1 c1
      refine g_iload_n C 2 dX10_best_123 rfl ?_
      refine g_if_ne C 131 dX10_best_124 (by decide) (fun c2 => ?_) (fun c2 => ?_)
      · have h := h.1 c2
        refine g_iload C 4 dX10_best_131 rfl ?_
        exact hret _ _ _ _ ⟨_, _, _, rfl, h⟩ rfl dX10_best_133
      · have h := h.2 c2
        refine g_iload_n C 3 dX10_best_127 rfl ?_
        refine g_goto C 133 dX10_best_128 (by decide) ?_
        exact hret _ _ _ _ ⟨_, _, _, rfl, h⟩ rfl dX10_best_133
    · have h := h.2 c1
      refine g_aload_n C 0 dX10_best_58 rfl ?_
      refine g_iload C 5 dX10_best_59 rfl ?_
      refine g_aload_n C 0 dX10_best_61 rfl ?_
      refine g_iload_n C 1 dX10_best_62 rfl ?_
      refine g_callVi0 C (kM_costOf (xL X) (xD X) ka ad _ _ _ _ _ h) miX10_costOf (gw_of tw5_16 rfl) (by decide) wM_at rfl rfl rfl (Nat.le_of_ble_eq_true rfl) z00 dX10_best_63 (fun r3 w hw => ?_)
      obtain ⟨F3, R3, J3, rfl, h⟩ := hw
      refine g_callVi0 C (kM_oddsBy (xL X) (xD X) ka ad _ _ _ _ _ _ h) miX10_oddsBy (gw_of tw5_48 rfl) (by decide) wM_at rfl rfl rfl (Nat.le_of_ble_eq_true rfl) z00 dX10_best_66 (fun r4 w hw => ?_)
      obtain ⟨F4, R4, J4, rfl, h⟩ := hw
      refine g_istore C [(6, .int r4), (0, .ref (ad 20)), (1, .int v1), (2, .int v2), (3, .int v3), (4, .int v4), (5, .int v5)] dX10_best_69 (by decide) rfl ?_
      refine g_iload_n C 4 dX10_best_71 rfl ?_
      refine g_bipush C (-4 : Int32) dX10_best_72 cb_m4 ?_
      refine g_icmp_eq C 84 dX10_best_74 (by decide) (fun c5 => ?_) (fun c5 => ?_)
      · have h := h.1 c5
        exact g_lv [1, 2, 3, 4, 5, 6, 0] rfl (lM_best_84 C hret (fun F R J v1 v2 v3 v4 v5 h => ih F R J v1 v2 v3 v4 v5 h) _ _ _ _ _ _ _ _ _ h)
      · have h := h.2 c5
        refine g_iload C 0 dX10_best_77 rfl ?_
        refine g_iload C 5 dX10_best_79 rfl ?_
        refine g_icmp_ge C 88 dX10_best_81 (by decide) (fun c6 => ?_) (fun c6 => ?_)
        · have h := h.1 c6
          refine g_iconst C (0 : Int32) dX10_best_88 ci_0 ?_
          exact g_lv [1, 2, 3, 4, 5, 6, 0] rfl (lM_best_89 C hret (fun F R J v1 v2 v3 v4 v5 h => ih F R J v1 v2 v3 v4 v5 h) _ _ _ _ _ _ _ _ _ _ h)
        · have h := h.2 c6
          exact g_lv [1, 2, 3, 4, 5, 6, 0] rfl (lM_best_84 C hret (fun F R J v1 v2 v3 v4 v5 h => ih F R J v1 v2 v3 v4 v5 h) _ _ _ _ _ _ _ _ _ h)
def qM_best (F : FT) (R : RT) (J : JT) (a1 : Int32) (a2 : Int32) (K : Int32 → FT → RT → JT → Prop) : Prop :=
  qM_isHindrance F R J a1 (fun r1 F1 R1 J1 => (r1 = 0 → (K (-1 : Int32) F1 R1 J1)) ∧ (¬ r1 = 0 → (qM_in F1 R1 J1 a2.toInt64 (0 : Int64) (1 : Int64) (fun r3 F3 R3 J3 => (¬ r3 = 0 → (qM_isUsed F3 R3 J3 a1 (fun r5 F5 R5 J5 => (r5 = 0 → (∃ n47, qM_best_47 n47 F5 R5 J5 a1 a2 (-4 : Int32) (-4 : Int32) (R5 0 6) K)) ∧ (¬ r5 = 0 → (K (-2 : Int32) F5 R5 J5))))) ∧ (r3 = 0 → (K (-1 : Int32) F3 R3 J3))))))
set_option maxHeartbeats 4000000 in
set_option maxRecDepth 100000 in
theorem bM_best {X : XT} {ka : Nat → ClassId} {ad : Nat → Nat} (C : Cx X cX10_best 8 RX10 (some .int) ka 6) {K : Int32 → FT → RT → JT → Prop} (hret : RetI X cX10_best .int 0 0 (fun z w => ∃ F R J, w = wM ad ka F R J ∧ K z F R J)) (F : FT) (R : RT) (J : JT) (a1 : Int32) (a2 : Int32) (h : qM_best F R J a1 a2 K) : G X 0 0 (wM ad ka F R J) 0 [(0, .ref (ad 20)), (1, .int a1), (2, .int a2)] [] := by
  unfold qM_best at h
  refine g_aload_n C 0 dX10_best_0 rfl ?_
  refine g_iload_n C 1 dX10_best_1 rfl ?_
  refine g_callVi0 C (kM_isHindrance (xL X) (xD X) ka ad _ _ _ _ _ h) miX10_isHindrance (gw_of tw5_8 rfl) (by decide) wM_at rfl rfl rfl (Nat.le_of_ble_eq_true rfl) z00 dX10_best_2 (fun r1 w hw => ?_)
  obtain ⟨F1, R1, J1, rfl, h⟩ := hw
  refine g_if_eq C 18 dX10_best_5 (by decide) (fun c2 => ?_) (fun c2 => ?_)
  · have h := h.1 c2
    refine g_iconst C (-1 : Int32) dX10_best_18 ci_m1 ?_
    exact hret _ _ _ _ ⟨_, _, _, rfl, h⟩ rfl dX10_best_19
  · have h := h.2 c2
    refine g_iload_n C 2 dX10_best_8 rfl ?_
    refine g_i2l C dX10_best_9 ?_
    refine g_lconst C (0 : Int64) dX10_best_10 rfl ?_
    refine g_lconst C (1 : Int64) dX10_best_11 rfl ?_
    refine g_callSi0 C (kM_in (xL X) (xD X) ka ad _ _ _ _ _ _ _ h) siX10_in (gw_of tw4_136 rfl) (by decide) rfl rfl (Nat.le_of_ble_eq_true rfl) z00 dX10_best_12 (fun r3 w hw => ?_)
    obtain ⟨F3, R3, J3, rfl, h⟩ := hw
    refine g_if_ne C 20 dX10_best_15 (by decide) (fun c4 => ?_) (fun c4 => ?_)
    · have h := h.1 c4
      refine g_aload_n C 0 dX10_best_20 rfl ?_
      refine g_iload_n C 1 dX10_best_21 rfl ?_
      refine g_callVi0 C (kM_isUsed (xL X) (xD X) ka ad _ _ _ _ _ h) miX10_isUsed (gw_of tw5_12 rfl) (by decide) wM_at rfl rfl rfl (Nat.le_of_ble_eq_true rfl) z00 dX10_best_22 (fun r5 w hw => ?_)
      obtain ⟨F5, R5, J5, rfl, h⟩ := hw
      refine g_if_eq C 31 dX10_best_25 (by decide) (fun c6 => ?_) (fun c6 => ?_)
      · have h := h.1 c6
        refine g_bipush C (-4 : Int32) dX10_best_31 cb_m4 ?_
        refine g_istore_n C [(3, .int (-4 : Int32)), (0, .ref (ad 20)), (1, .int a1), (2, .int a2)] dX10_best_33 (by decide) rfl ?_
        refine g_bipush C (-4 : Int32) dX10_best_34 cb_m4 ?_
        refine g_istore C [(4, .int (-4 : Int32)), (3, .int (-4 : Int32)), (0, .ref (ad 20)), (1, .int a1), (2, .int a2)] dX10_best_36 (by decide) rfl ?_
        refine g_aload_n C 2 dX10_best_38 rfl ?_
        refine Mg_now C dX10_best_39 ?_
        refine g_bipush C (6 : Int32) dX10_best_42 cb_6 ?_
        refine Ma_now C (f := R5 0) rfl (6) (by decide) (vp_lit (by decide)) dX10_best_44 ?_
        refine g_istore C [(5, .int (R5 0 6)), (4, .int (-4 : Int32)), (3, .int (-4 : Int32)), (0, .ref (ad 20)), (1, .int a1), (2, .int a2)] dX10_best_45 (by decide) rfl ?_
        obtain ⟨n1, h⟩ := h
        exact g_lv [3, 4, 5, 2, 1, 0] rfl (lM_best_47 C hret n1 _ _ _ _ _ _ _ _ h)
      · have h := h.2 c6
        refine g_bipush C (-2 : Int32) dX10_best_28 cb_m2 ?_
        exact hret _ _ _ _ ⟨_, _, _, rfl, h⟩ rfl dX10_best_30
    · have h := h.2 c4
      refine g_iconst C (-1 : Int32) dX10_best_18 ci_m1 ?_
      exact hret _ _ _ _ ⟨_, _, _, rfl, h⟩ rfl dX10_best_19
set_option maxHeartbeats 4000000 in
set_option maxRecDepth 100000 in
theorem kM_best (l : Launch) (D : va_G) (ka : Nat → ClassId) (ad : Nat → Nat) (F : FT) (R : RT) (J : JT) (a1 : Int32) (a2 : Int32) (K : Int32 → FT → RT → JT → Prop) (h : qM_best F R J a1 a2 K) : MI l D ka yX10_best cX10_best 8 (some .int) 6 0 0 [.ref (ad 20), .int a1, .int a2] (wM ad ka F R J) (fun z w => ∃ F R J, w = wM ad ka F R J ∧ K z F R J) := MI_of (by decide) (Nat.le_of_ble_eq_true rfl) (fun X C hroom hret => bM_best C hret F R J a1 a2 h)
set_option maxHeartbeats 4000000 in
set_option maxRecDepth 100000 in
theorem miX10_best : MInf yX10_best cX10_best 8 (some .int) 2 := ⟨(gw_of tw5_86 rfl), (gw_of tw5_87 rfl), (gw_of tw1_6 rfl), (gw_of tw5_88 rfl), by decide +kernel, by decide⟩

def qM_soonest_55 (k19 : FT → RT → JT → Int32 → Int32 → Int32 → Prop) (F : FT) (R : RT) (J : JT) (v1 : Int32) (v3 : Int32) (s0 : Int32) (s1 : Int32) (s2 : Int32) (K : Int32 → FT → RT → JT → Prop) : Prop :=
  qM_behind F R J s2 s1 s0 (fun r1 F1 R1 J1 => k19 F1 R1 J1 v1 r1 (v3 + (1 : Int32)))
set_option maxHeartbeats 4000000 in
set_option maxRecDepth 100000 in
theorem lM_soonest_55 {X : XT} {ka : Nat → ClassId} {ad : Nat → Nat} (C : Cx X cX10_soonest 4 RX10 (some .int) ka 4) {K : Int32 → FT → RT → JT → Prop} (hret : RetI X cX10_soonest .int 0 0 (fun z w => ∃ F R J, w = wM ad ka F R J ∧ K z F R J)) {k19 : FT → RT → JT → Int32 → Int32 → Int32 → Prop} (hk19 : ∀ (F : FT) (R : RT) (J : JT) (v1 : Int32) (v2 : Int32) (v3 : Int32), k19 F R J v1 v2 v3 → G X 0 0 (wM ad ka F R J) 19 [(0, .ref (ad 20)), (1, .int v1), (2, .int v2), (3, .int v3)] []) (F : FT) (R : RT) (J : JT) (v1 : Int32) (v3 : Int32) (s0 : Int32) (s1 : Int32) (s2 : Int32) (h : qM_soonest_55 k19 F R J v1 v3 s0 s1 s2 K) : G X 0 0 (wM ad ka F R J) 55 [(0, .ref (ad 20)), (1, .int v1), (3, .int v3)] [.int s0, .int s1, .int s2, .ref (ad 20)] := by
  unfold qM_soonest_55 at h
  refine g_callVi0 C (kM_behind (xL X) (xD X) ka ad _ _ _ _ _ _ _ h) miX10_behind (gw_of tw5_0 rfl) (by decide) wM_at rfl rfl rfl (Nat.le_of_ble_eq_true rfl) z00 dX10_soonest_55 (fun r1 w hw => ?_)
  obtain ⟨F1, R1, J1, rfl, h⟩ := hw
  refine g_istore_n C [(2, .int r1), (0, .ref (ad 20)), (1, .int v1), (3, .int v3)] dX10_soonest_58 (by decide) rfl ?_
  refine g_iinc C 3 (v3 + (1 : Int32)) [(3, .int (v3 + (1 : Int32))), (2, .int r1), (0, .ref (ad 20)), (1, .int v1)] dX10_soonest_59 rfl (by rw [ci_1]) (by decide) rfl ?_
  refine g_goto C 19 dX10_soonest_62 (by decide) ?_
  exact g_lv [2, 3, 1, 0] rfl (hk19 _ _ _ _ _ _ h)
def qM_soonest_19 : Nat → FT → RT → JT → Int32 → Int32 → Int32 → (Int32 → FT → RT → JT → Prop) → Prop
  | 0, _, _, _, _, _, _ => fun _ => False
  | n19 + 1, F, R, J, v1, v2, v3 => fun K => ((100 : Int32) ≤ v3 → (K (-4 : Int32) F R J)) ∧ (¬ (100 : Int32) ≤ v3 → ((¬ v2 = (R 0 2) → ((¬ v3 = 0 → (qM_soonest_55 (fun F R J v1 v2 v3 => qM_soonest_19 n19 F R J v1 v2 v3 K) F R J v1 v3 (0 : Int32) v2 v1 K)) ∧ (v3 = 0 → (qM_soonest_55 (fun F R J v1 v2 v3 => qM_soonest_19 n19 F R J v1 v2 v3 K) F R J v1 v3 (R 0 9) v2 v1 K)))) ∧ (v2 = (R 0 2) → (K v3 F R J))))
set_option maxHeartbeats 4000000 in
set_option maxRecDepth 100000 in
theorem lM_soonest_19 {X : XT} {ka : Nat → ClassId} {ad : Nat → Nat} (C : Cx X cX10_soonest 4 RX10 (some .int) ka 4) {K : Int32 → FT → RT → JT → Prop} (hret : RetI X cX10_soonest .int 0 0 (fun z w => ∃ F R J, w = wM ad ka F R J ∧ K z F R J)) : ∀ (n : Nat) (F : FT) (R : RT) (J : JT) (v1 : Int32) (v2 : Int32) (v3 : Int32), qM_soonest_19 n F R J v1 v2 v3 K → G X 0 0 (wM ad ka F R J) 19 [(0, .ref (ad 20)), (1, .int v1), (2, .int v2), (3, .int v3)] [] := by
  intro n
  induction n with
  | zero => intro F R J v1 v2 v3 h; exact h.elim
  | succ n ih =>
    intro F R J v1 v2 v3 h
    refine g_iload_n C 3 dX10_soonest_19 rfl ?_
    refine g_bipush C (100 : Int32) dX10_soonest_20 cb_100 ?_
    refine g_icmp_ge C 65 dX10_soonest_22 (by decide) (fun c1 => ?_) (fun c1 => ?_)
    · have h := h.1 c1
      refine g_bipush C (-4 : Int32) dX10_soonest_65 cb_m4 ?_
      exact hret _ _ _ _ ⟨_, _, _, rfl, h⟩ rfl dX10_soonest_67
    · have h := h.2 c1
      refine g_iload_n C 2 dX10_soonest_25 rfl ?_
      refine g_aload_n C 0 dX10_soonest_26 rfl ?_
      refine Mg_now C dX10_soonest_27 ?_
      refine g_iconst C (2 : Int32) dX10_soonest_30 ci_2 ?_
      refine Ma_now C (f := R 0) rfl (2) (by decide) (vp_lit (by decide)) dX10_soonest_31 ?_
      refine g_icmp_ne C 37 dX10_soonest_32 (by decide) (fun c2 => ?_) (fun c2 => ?_)
      · have h := h.1 c2
        refine g_aload_n C 0 dX10_soonest_37 rfl ?_
        refine g_iload_n C 1 dX10_soonest_38 rfl ?_
        refine g_iload_n C 2 dX10_soonest_39 rfl ?_
        refine g_iload_n C 3 dX10_soonest_40 rfl ?_
        refine g_if_ne C 54 dX10_soonest_41 (by decide) (fun c3 => ?_) (fun c3 => ?_)
        · have h := h.1 c3
          refine g_iconst C (0 : Int32) dX10_soonest_54 ci_0 ?_
          exact g_lv [0, 1, 3] rfl (lM_soonest_55 C hret (fun F R J v1 v2 v3 h => ih F R J v1 v2 v3 h) _ _ _ _ _ _ _ _ h)
        · have h := h.2 c3
          refine g_aload_n C 0 dX10_soonest_44 rfl ?_
          refine Mg_now C dX10_soonest_45 ?_
          refine g_bipush C (9 : Int32) dX10_soonest_48 cb_9 ?_
          refine Ma_now C (f := R 0) rfl (9) (by decide) (vp_lit (by decide)) dX10_soonest_50 ?_
          refine g_goto C 55 dX10_soonest_51 (by decide) ?_
          exact g_lv [0, 1, 3] rfl (lM_soonest_55 C hret (fun F R J v1 v2 v3 h => ih F R J v1 v2 v3 h) _ _ _ _ _ _ _ _ h)
      · have h := h.2 c2
        refine g_iload_n C 3 dX10_soonest_35 rfl ?_
        exact hret _ _ _ _ ⟨_, _, _, rfl, h⟩ rfl dX10_soonest_36
def qM_soonest (F : FT) (R : RT) (J : JT) (a1 : Int32) (K : Int32 → FT → RT → JT → Prop) : Prop :=
  qM_isWeather F R J a1 (fun r1 F1 R1 J1 => (¬ r1 = 0 → (∃ n19, qM_soonest_19 n19 F1 R1 J1 a1 (R1 0 7) (0 : Int32) K)) ∧ (r1 = 0 → (K (-1 : Int32) F1 R1 J1)))
set_option maxHeartbeats 4000000 in
set_option maxRecDepth 100000 in
theorem bM_soonest {X : XT} {ka : Nat → ClassId} {ad : Nat → Nat} (C : Cx X cX10_soonest 4 RX10 (some .int) ka 4) {K : Int32 → FT → RT → JT → Prop} (hret : RetI X cX10_soonest .int 0 0 (fun z w => ∃ F R J, w = wM ad ka F R J ∧ K z F R J)) (F : FT) (R : RT) (J : JT) (a1 : Int32) (h : qM_soonest F R J a1 K) : G X 0 0 (wM ad ka F R J) 0 [(0, .ref (ad 20)), (1, .int a1)] [] := by
  unfold qM_soonest at h
  refine g_iload_n C 1 dX10_soonest_0 rfl ?_
  refine g_callSi0 C (kM_isWeather (xL X) (xD X) ka ad _ _ _ _ _ h) siX10_isWeather (gw_of tw4_224 rfl) (by decide) rfl rfl (Nat.le_of_ble_eq_true rfl) z00 dX10_soonest_1 (fun r1 w hw => ?_)
  obtain ⟨F1, R1, J1, rfl, h⟩ := hw
  refine g_if_ne C 9 dX10_soonest_4 (by decide) (fun c2 => ?_) (fun c2 => ?_)
  · have h := h.1 c2
    refine g_aload_n C 0 dX10_soonest_9 rfl ?_
    refine Mg_now C dX10_soonest_10 ?_
    refine g_bipush C (7 : Int32) dX10_soonest_13 cb_7 ?_
    refine Ma_now C (f := R1 0) rfl (7) (by decide) (vp_lit (by decide)) dX10_soonest_15 ?_
    refine g_istore_n C [(2, .int (R1 0 7)), (0, .ref (ad 20)), (1, .int a1)] dX10_soonest_16 (by decide) rfl ?_
    refine g_iconst C (0 : Int32) dX10_soonest_17 ci_0 ?_
    refine g_istore_n C [(3, .int (0 : Int32)), (2, .int (R1 0 7)), (0, .ref (ad 20)), (1, .int a1)] dX10_soonest_18 (by decide) rfl ?_
    obtain ⟨n1, h⟩ := h
    exact g_lv [2, 3, 1, 0] rfl (lM_soonest_19 C hret n1 _ _ _ _ _ _ h)
  · have h := h.2 c2
    refine g_iconst C (-1 : Int32) dX10_soonest_7 ci_m1 ?_
    exact hret _ _ _ _ ⟨_, _, _, rfl, h⟩ rfl dX10_soonest_8
set_option maxHeartbeats 4000000 in
set_option maxRecDepth 100000 in
theorem kM_soonest (l : Launch) (D : va_G) (ka : Nat → ClassId) (ad : Nat → Nat) (F : FT) (R : RT) (J : JT) (a1 : Int32) (K : Int32 → FT → RT → JT → Prop) (h : qM_soonest F R J a1 K) : MI l D ka yX10_soonest cX10_soonest 4 (some .int) 4 0 0 [.ref (ad 20), .int a1] (wM ad ka F R J) (fun z w => ∃ F R J, w = wM ad ka F R J ∧ K z F R J) := MI_of (by decide) (Nat.le_of_ble_eq_true rfl) (fun X C hroom hret => bM_soonest C hret F R J a1 h)
set_option maxHeartbeats 4000000 in
set_option maxRecDepth 100000 in
theorem miX10_soonest : MInf yX10_soonest cX10_soonest 4 (some .int) 1 := ⟨(gw_of tw5_90 rfl), (gw_of tw5_91 rfl), (gw_of tw1_6 rfl), (gw_of tw5_92 rfl), by decide +kernel, by decide⟩

def qM_shares_147 : Nat → FT → RT → JT → Int32 → (FT → RT → JT → Prop) → Prop
  | 0, _, _, _, _ => fun _ => False
  | n147 + 1, F, R, J, v2 => fun K => ((201 : Int32) ≤ v2 → (K F R J)) ∧ (¬ (201 : Int32) ≤ v2 → ((vp_in v2 201) ∧ ((vp_in v2 201) ∧ (qM_shares_147 n147 F (va_up R 11 (upd (R 11) v2.toNatClampNeg (R 12 v2.toNatClampNeg))) J (v2 + (1 : Int32)) K))))
set_option maxHeartbeats 4000000 in
set_option maxRecDepth 100000 in
theorem lM_shares_147 {X : XT} {ka : Nat → ClassId} {ad : Nat → Nat} (C : Cx X cX10_shares 5 RX10 none ka 4) {K : FT → RT → JT → Prop} (hret : RetV X cX10_shares 0 0 (fun w => ∃ F R J, w = wM ad ka F R J ∧ K F R J)) : ∀ (n : Nat) (F : FT) (R : RT) (J : JT) (v2 : Int32), qM_shares_147 n F R J v2 K → G X 0 0 (wM ad ka F R J) 147 [(0, .ref (ad 20)), (2, .int v2)] [] := by
  intro n
  induction n with
  | zero => intro F R J v2 h; exact h.elim
  | succ n ih =>
    intro F R J v2 h
    refine g_iload_n C 1 dX10_shares_147 rfl ?_
    refine g_sipush C (201 : Int32) dX10_shares_148 cs_201 ?_
    refine g_icmp_ge C 172 dX10_shares_151 (by decide) (fun c1 => ?_) (fun c1 => ?_)
    · have h := h.1 c1
      exact hret _ _ _ ⟨_, _, _, rfl, h⟩ dX10_shares_172
    · have h := h.2 c1
      refine g_aload_n C 0 dX10_shares_154 rfl ?_
      refine Mg_parts C dX10_shares_155 ?_
      refine g_iload_n C 1 dX10_shares_158 rfl ?_
      refine g_aload_n C 0 dX10_shares_159 rfl ?_
      refine Mg_nexts C dX10_shares_160 ?_
      refine g_iload_n C 1 dX10_shares_163 rfl ?_
      refine Ma_nexts C (f := R 12) rfl _ rfl h.1 dX10_shares_164 ?_
      have h := h.2
      refine Ms_parts C (f := R 11) rfl _ rfl h.1 dX10_shares_165 ?_
      have h := h.2
      refine g_iinc C 1 (v2 + (1 : Int32)) [(2, .int (v2 + (1 : Int32))), (0, .ref (ad 20))] dX10_shares_166 rfl (by rw [ci_1]) (by decide) rfl ?_
      refine g_goto C 147 dX10_shares_169 (by decide) ?_
      exact g_lv [1, 0] rfl (ih _ _ _ _ h)
def qM_shares_139 (k24 : FT → RT → JT → Int32 → Int32 → Prop) (F : FT) (R : RT) (J : JT) (v1 : Int32) (v2 : Int32) (K : FT → RT → JT → Prop) : Prop :=
  k24 F R J v1 (v2 + (1 : Int32))
set_option maxHeartbeats 4000000 in
set_option maxRecDepth 100000 in
theorem lM_shares_139 {X : XT} {ka : Nat → ClassId} {ad : Nat → Nat} (C : Cx X cX10_shares 5 RX10 none ka 4) {K : FT → RT → JT → Prop} (hret : RetV X cX10_shares 0 0 (fun w => ∃ F R J, w = wM ad ka F R J ∧ K F R J)) {k24 : FT → RT → JT → Int32 → Int32 → Prop} (hk24 : ∀ (F : FT) (R : RT) (J : JT) (v1 : Int32) (v2 : Int32), k24 F R J v1 v2 → G X 0 0 (wM ad ka F R J) 24 [(0, .ref (ad 20)), (1, .int v1), (2, .int v2)] []) (F : FT) (R : RT) (J : JT) (v1 : Int32) (v2 : Int32) (h : qM_shares_139 k24 F R J v1 v2 K) : G X 0 0 (wM ad ka F R J) 139 [(0, .ref (ad 20)), (1, .int v1), (2, .int v2)] [] := by
  unfold qM_shares_139 at h
  refine g_iinc C 2 (v2 + (1 : Int32)) [(2, .int (v2 + (1 : Int32))), (0, .ref (ad 20)), (1, .int v1)] dX10_shares_139 rfl (by rw [ci_1]) (by decide) rfl ?_
  refine g_goto C 24 dX10_shares_142 (by decide) ?_
  exact g_lv [1, 2, 0] rfl (hk24 _ _ _ _ _ h)
def qM_shares_117 (k24 : FT → RT → JT → Int32 → Int32 → Prop) (k36 : FT → RT → JT → Int32 → Int32 → Int32 → Prop) (F : FT) (R : RT) (J : JT) (v1 : Int32) (v2 : Int32) (v3 : Int32) (v4 : Int32) (s0 : Int32) (s1 : Int32) (s2 : Int32) (K : FT → RT → JT → Prop) : Prop :=
  qM_behind F R J s2 s1 s0 (fun r1 F1 R1 J1 => (vp_in r1 201) ∧ ((vp_in v2 201) ∧ ((vp_in r1 201) ∧ (k36 F1 (va_up R1 12 (upd (R1 12) r1.toNatClampNeg ((R1 12 r1.toNatClampNeg) + ((R1 11 v2.toNatClampNeg) * v4)))) J1 v1 v2 (v3 + (1 : Int32))))))
set_option maxHeartbeats 4000000 in
set_option maxRecDepth 100000 in
theorem lM_shares_117 {X : XT} {ka : Nat → ClassId} {ad : Nat → Nat} (C : Cx X cX10_shares 5 RX10 none ka 4) {K : FT → RT → JT → Prop} (hret : RetV X cX10_shares 0 0 (fun w => ∃ F R J, w = wM ad ka F R J ∧ K F R J)) {k24 : FT → RT → JT → Int32 → Int32 → Prop} {k36 : FT → RT → JT → Int32 → Int32 → Int32 → Prop} (hk24 : ∀ (F : FT) (R : RT) (J : JT) (v1 : Int32) (v2 : Int32), k24 F R J v1 v2 → G X 0 0 (wM ad ka F R J) 24 [(0, .ref (ad 20)), (1, .int v1), (2, .int v2)] []) (hk36 : ∀ (F : FT) (R : RT) (J : JT) (v1 : Int32) (v2 : Int32) (v3 : Int32), k36 F R J v1 v2 v3 → G X 0 0 (wM ad ka F R J) 36 [(0, .ref (ad 20)), (1, .int v1), (2, .int v2), (3, .int v3)] []) (F : FT) (R : RT) (J : JT) (v1 : Int32) (v2 : Int32) (v3 : Int32) (v4 : Int32) (s0 : Int32) (s1 : Int32) (s2 : Int32) (h : qM_shares_117 k24 k36 F R J v1 v2 v3 v4 s0 s1 s2 K) : G X 0 0 (wM ad ka F R J) 117 [(0, .ref (ad 20)), (1, .int v1), (2, .int v2), (3, .int v3), (4, .int v4)] [.int s0, .int s1, .int s2, .ref (ad 20), .ref (ad 12)] := by
  unfold qM_shares_117 at h
  refine g_callVi0 C (kM_behind (xL X) (xD X) ka ad _ _ _ _ _ _ _ h) miX10_behind (gw_of tw5_0 rfl) (by decide) wM_at rfl rfl rfl (Nat.le_of_ble_eq_true rfl) z00 dX10_shares_117 (fun r1 w hw => ?_)
  obtain ⟨F1, R1, J1, rfl, h⟩ := hw
  refine g_dup2 C dX10_shares_120 rfl rfl ?_
  refine Ma_nexts C (f := R1 12) rfl _ rfl h.1 dX10_shares_121 ?_
  have h := h.2
  refine g_aload_n C 0 dX10_shares_122 rfl ?_
  refine Mg_parts C dX10_shares_123 ?_
  refine g_iload_n C 2 dX10_shares_126 rfl ?_
  refine Ma_parts C (f := R1 11) rfl _ rfl h.1 dX10_shares_127 ?_
  have h := h.2
  refine g_iload C 4 dX10_shares_128 rfl ?_
  refine g_imul C dX10_shares_130 ?_
  refine g_iadd C dX10_shares_131 ?_
  refine Ms_nexts C (f := R1 12) rfl _ rfl h.1 dX10_shares_132 ?_
  have h := h.2
  refine g_iinc C 3 (v3 + (1 : Int32)) [(3, .int (v3 + (1 : Int32))), (0, .ref (ad 20)), (1, .int v1), (2, .int v2), (4, .int v4)] dX10_shares_133 rfl (by rw [ci_1]) (by decide) rfl ?_
  refine g_goto C 36 dX10_shares_136 (by decide) ?_
  exact g_lv [1, 2, 3, 0] rfl (hk36 _ _ _ _ _ _ h)
def qM_shares_93 (k24 : FT → RT → JT → Int32 → Int32 → Prop) (k36 : FT → RT → JT → Int32 → Int32 → Int32 → Prop) (F : FT) (R : RT) (J : JT) (v1 : Int32) (v2 : Int32) (v3 : Int32) (s0 : Int32) (K : FT → RT → JT → Prop) : Prop :=
  (¬ v1 = 0 → (qM_shares_117 k24 k36 F R J v1 v2 v3 s0 (0 : Int32) v2 v3 K)) ∧ (v1 = 0 → (qM_shares_117 k24 k36 F R J v1 v2 v3 s0 (R 0 9) v2 v3 K))
set_option maxHeartbeats 4000000 in
set_option maxRecDepth 100000 in
theorem lM_shares_93 {X : XT} {ka : Nat → ClassId} {ad : Nat → Nat} (C : Cx X cX10_shares 5 RX10 none ka 4) {K : FT → RT → JT → Prop} (hret : RetV X cX10_shares 0 0 (fun w => ∃ F R J, w = wM ad ka F R J ∧ K F R J)) {k24 : FT → RT → JT → Int32 → Int32 → Prop} {k36 : FT → RT → JT → Int32 → Int32 → Int32 → Prop} (hk24 : ∀ (F : FT) (R : RT) (J : JT) (v1 : Int32) (v2 : Int32), k24 F R J v1 v2 → G X 0 0 (wM ad ka F R J) 24 [(0, .ref (ad 20)), (1, .int v1), (2, .int v2)] []) (hk36 : ∀ (F : FT) (R : RT) (J : JT) (v1 : Int32) (v2 : Int32) (v3 : Int32), k36 F R J v1 v2 v3 → G X 0 0 (wM ad ka F R J) 36 [(0, .ref (ad 20)), (1, .int v1), (2, .int v2), (3, .int v3)] []) (F : FT) (R : RT) (J : JT) (v1 : Int32) (v2 : Int32) (v3 : Int32) (s0 : Int32) (h : qM_shares_93 k24 k36 F R J v1 v2 v3 s0 K) : G X 0 0 (wM ad ka F R J) 93 [(0, .ref (ad 20)), (1, .int v1), (2, .int v2), (3, .int v3)] [.int s0] := by
  unfold qM_shares_93 at h
  refine g_istore C [(4, .int s0), (0, .ref (ad 20)), (1, .int v1), (2, .int v2), (3, .int v3)] dX10_shares_93 (by decide) rfl ?_
  refine g_aload_n C 1 dX10_shares_95 rfl ?_
  refine Mg_nexts C dX10_shares_96 ?_
  refine g_aload_n C 1 dX10_shares_99 rfl ?_
  refine g_iload_n C 4 dX10_shares_100 rfl ?_
  refine g_iload_n C 3 dX10_shares_101 rfl ?_
  refine g_iload_n C 2 dX10_shares_102 rfl ?_
  refine g_if_ne C 116 dX10_shares_103 (by decide) (fun c1 => ?_) (fun c1 => ?_)
  · have h := h.1 c1
    refine g_iconst C (0 : Int32) dX10_shares_116 ci_0 ?_
    exact g_lv [1, 2, 3, 4, 0] rfl (lM_shares_117 C hret hk24 hk36 _ _ _ _ _ _ _ _ _ _ h)
  · have h := h.2 c1
    refine g_aload_n C 1 dX10_shares_106 rfl ?_
    refine Mg_now C dX10_shares_107 ?_
    refine g_bipush C (9 : Int32) dX10_shares_110 cb_9 ?_
    refine Ma_now C (f := R 0) rfl (9) (by decide) (vp_lit (by decide)) dX10_shares_112 ?_
    refine g_goto C 117 dX10_shares_113 (by decide) ?_
    exact g_lv [1, 2, 3, 4, 0] rfl (lM_shares_117 C hret hk24 hk36 _ _ _ _ _ _ _ _ _ _ h)
def qM_shares_36 : Nat → (FT → RT → JT → Int32 → Int32 → Prop) → FT → RT → JT → Int32 → Int32 → Int32 → (FT → RT → JT → Prop) → Prop
  | 0, _, _, _, _, _, _, _ => fun _ => False
  | n36 + 1, k24, F, R, J, v1, v2, v3 => fun K => ((3 : Int32) ≤ v3 → (qM_shares_139 k24 F R J v1 v2 K)) ∧ (¬ (3 : Int32) ≤ v3 → ((vp_in v2 201) ∧ (((R 11 v2.toNatClampNeg) ≤ 0 → (qM_shares_139 k24 F R J v1 v2 K)) ∧ (¬ (R 11 v2.toNatClampNeg) ≤ 0 → ((¬ v3 = 0 → ((¬ v3 = (1 : Int32) → (qM_shares_93 k24 (fun F R J v1 v2 v3 => qM_shares_36 n36 k24 F R J v1 v2 v3 K) F R J v1 v2 v3 (R 0 5) K)) ∧ (v3 = (1 : Int32) → (qM_shares_93 k24 (fun F R J v1 v2 v3 => qM_shares_36 n36 k24 F R J v1 v2 v3 K) F R J v1 v2 v3 (R 0 4) K)))) ∧ (v3 = 0 → (qM_shares_93 k24 (fun F R J v1 v2 v3 => qM_shares_36 n36 k24 F R J v1 v2 v3 K) F R J v1 v2 v3 (((10 : Int32) - (R 0 4)) - (R 0 5)) K)))))))
set_option maxHeartbeats 4000000 in
set_option maxRecDepth 100000 in
theorem lM_shares_36 {X : XT} {ka : Nat → ClassId} {ad : Nat → Nat} (C : Cx X cX10_shares 5 RX10 none ka 4) {K : FT → RT → JT → Prop} (hret : RetV X cX10_shares 0 0 (fun w => ∃ F R J, w = wM ad ka F R J ∧ K F R J)) {k24 : FT → RT → JT → Int32 → Int32 → Prop} (hk24 : ∀ (F : FT) (R : RT) (J : JT) (v1 : Int32) (v2 : Int32), k24 F R J v1 v2 → G X 0 0 (wM ad ka F R J) 24 [(0, .ref (ad 20)), (1, .int v1), (2, .int v2)] []) : ∀ (n : Nat) (F : FT) (R : RT) (J : JT) (v1 : Int32) (v2 : Int32) (v3 : Int32), qM_shares_36 n k24 F R J v1 v2 v3 K → G X 0 0 (wM ad ka F R J) 36 [(0, .ref (ad 20)), (1, .int v1), (2, .int v2), (3, .int v3)] [] := by
  intro n
  induction n with
  | zero => intro F R J v1 v2 v3 h; exact h.elim
  | succ n ih =>
    intro F R J v1 v2 v3 h
    refine g_iload_n C 3 dX10_shares_36 rfl ?_
    refine g_iconst C (3 : Int32) dX10_shares_37 ci_3 ?_
    refine g_icmp_ge C 139 dX10_shares_38 (by decide) (fun c1 => ?_) (fun c1 => ?_)
    · have h := h.1 c1
      exact g_lv [0, 1, 2] rfl (lM_shares_139 C hret hk24 _ _ _ _ _ h)
    · have h := h.2 c1
      refine g_aload_n C 0 dX10_shares_41 rfl ?_
      refine Mg_parts C dX10_shares_42 ?_
      refine g_iload_n C 2 dX10_shares_45 rfl ?_
      refine Ma_parts C (f := R 11) rfl _ rfl h.1 dX10_shares_46 ?_
      have h := h.2
      refine g_if_le C 139 dX10_shares_47 (by decide) (fun c2 => ?_) (fun c2 => ?_)
      · have h := h.1 c2
        exact g_lv [0, 1, 2] rfl (lM_shares_139 C hret hk24 _ _ _ _ _ h)
      · have h := h.2 c2
        refine g_iload_n C 3 dX10_shares_50 rfl ?_
        refine g_if_ne C 73 dX10_shares_51 (by decide) (fun c3 => ?_) (fun c3 => ?_)
        · have h := h.1 c3
          refine g_iload_n C 3 dX10_shares_73 rfl ?_
          refine g_iconst C (1 : Int32) dX10_shares_74 ci_1 ?_
          refine g_icmp_ne C 87 dX10_shares_75 (by decide) (fun c4 => ?_) (fun c4 => ?_)
          · have h := h.1 c4
            refine g_aload_n C 0 dX10_shares_87 rfl ?_
            refine Mg_now C dX10_shares_88 ?_
            refine g_iconst C (5 : Int32) dX10_shares_91 ci_5 ?_
            refine Ma_now C (f := R 0) rfl (5) (by decide) (vp_lit (by decide)) dX10_shares_92 ?_
            exact g_lv [0, 1, 2, 3] rfl (lM_shares_93 C hret hk24 (fun F R J v1 v2 v3 h => ih F R J v1 v2 v3 h) _ _ _ _ _ _ _ h)
          · have h := h.2 c4
            refine g_aload_n C 0 dX10_shares_78 rfl ?_
            refine Mg_now C dX10_shares_79 ?_
            refine g_iconst C (4 : Int32) dX10_shares_82 ci_4 ?_
            refine Ma_now C (f := R 0) rfl (4) (by decide) (vp_lit (by decide)) dX10_shares_83 ?_
            refine g_goto C 93 dX10_shares_84 (by decide) ?_
            exact g_lv [0, 1, 2, 3] rfl (lM_shares_93 C hret hk24 (fun F R J v1 v2 v3 h => ih F R J v1 v2 v3 h) _ _ _ _ _ _ _ h)
        · have h := h.2 c3
          refine g_bipush C (10 : Int32) dX10_shares_54 cb_10 ?_
          refine g_aload_n C 0 dX10_shares_56 rfl ?_
          refine Mg_now C dX10_shares_57 ?_
          refine g_iconst C (4 : Int32) dX10_shares_60 ci_4 ?_
          refine Ma_now C (f := R 0) rfl (4) (by decide) (vp_lit (by decide)) dX10_shares_61 ?_
          refine g_isub C dX10_shares_62 ?_
          refine g_aload_n C 0 dX10_shares_63 rfl ?_
          refine Mg_now C dX10_shares_64 ?_
          refine g_iconst C (5 : Int32) dX10_shares_67 ci_5 ?_
          refine Ma_now C (f := R 0) rfl (5) (by decide) (vp_lit (by decide)) dX10_shares_68 ?_
          refine g_isub C dX10_shares_69 ?_
          refine g_goto C 93 dX10_shares_70 (by decide) ?_
          exact g_lv [0, 1, 2, 3] rfl (lM_shares_93 C hret hk24 (fun F R J v1 v2 v3 h => ih F R J v1 v2 v3 h) _ _ _ _ _ _ _ h)
def qM_shares_24 : Nat → FT → RT → JT → Int32 → Int32 → (FT → RT → JT → Prop) → Prop
  | 0, _, _, _, _, _ => fun _ => False
  | n24 + 1, F, R, J, v1, v2 => fun K => ((R 0 2) < v2 → (∃ n147, qM_shares_147 n147 F R J (0 : Int32) K)) ∧ (¬ (R 0 2) < v2 → (∃ n36, qM_shares_36 n36 (fun F R J v1 v2 => qM_shares_24 n24 F R J v1 v2 K) F R J v1 v2 (0 : Int32) K))
set_option maxHeartbeats 4000000 in
set_option maxRecDepth 100000 in
theorem lM_shares_24 {X : XT} {ka : Nat → ClassId} {ad : Nat → Nat} (C : Cx X cX10_shares 5 RX10 none ka 4) {K : FT → RT → JT → Prop} (hret : RetV X cX10_shares 0 0 (fun w => ∃ F R J, w = wM ad ka F R J ∧ K F R J)) : ∀ (n : Nat) (F : FT) (R : RT) (J : JT) (v1 : Int32) (v2 : Int32), qM_shares_24 n F R J v1 v2 K → G X 0 0 (wM ad ka F R J) 24 [(0, .ref (ad 20)), (1, .int v1), (2, .int v2)] [] := by
  intro n
  induction n with
  | zero => intro F R J v1 v2 h; exact h.elim
  | succ n ih =>
    intro F R J v1 v2 h
    refine g_iload_n C 2 dX10_shares_24 rfl ?_
    refine g_aload_n C 0 dX10_shares_25 rfl ?_
    refine Mg_now C dX10_shares_26 ?_
    refine g_iconst C (2 : Int32) dX10_shares_29 ci_2 ?_
    refine Ma_now C (f := R 0) rfl (2) (by decide) (vp_lit (by decide)) dX10_shares_30 ?_
    refine g_icmp_gt C 145 dX10_shares_31 (by decide) (fun c1 => ?_) (fun c1 => ?_)
    · have h := h.1 c1
      refine g_iconst C (0 : Int32) dX10_shares_145 ci_0 ?_
      refine g_istore_n C [(2, .int (0 : Int32)), (0, .ref (ad 20)), (1, .int v1)] dX10_shares_146 (by decide) rfl ?_
      obtain ⟨n1, h⟩ := h
      exact g_lv [1, 0] rfl (lM_shares_147 C hret n1 _ _ _ _ h)
    · have h := h.2 c1
      refine g_iconst C (0 : Int32) dX10_shares_34 ci_0 ?_
      refine g_istore_n C [(3, .int (0 : Int32)), (0, .ref (ad 20)), (1, .int v1), (2, .int v2)] dX10_shares_35 (by decide) rfl ?_
      obtain ⟨n1, h⟩ := h
      exact g_lv [1, 2, 3, 0] rfl (lM_shares_36 C hret (fun F R J v1 v2 h => ih F R J v1 v2 h) n1 _ _ _ _ _ _ h)
def qM_shares_2 : Nat → FT → RT → JT → Int32 → Int32 → (FT → RT → JT → Prop) → Prop
  | 0, _, _, _, _, _ => fun _ => False
  | n2 + 1, F, R, J, v1, v2 => fun K => ((201 : Int32) ≤ v2 → (∃ n24, qM_shares_24 n24 F R J v1 (0 : Int32) K)) ∧ (¬ (201 : Int32) ≤ v2 → ((vp_in v2 201) ∧ (qM_shares_2 n2 F (va_up R 12 (upd (R 12) v2.toNatClampNeg (0 : Int32))) J v1 (v2 + (1 : Int32)) K)))
set_option maxHeartbeats 4000000 in
set_option maxRecDepth 100000 in
theorem lM_shares_2 {X : XT} {ka : Nat → ClassId} {ad : Nat → Nat} (C : Cx X cX10_shares 5 RX10 none ka 4) {K : FT → RT → JT → Prop} (hret : RetV X cX10_shares 0 0 (fun w => ∃ F R J, w = wM ad ka F R J ∧ K F R J)) : ∀ (n : Nat) (F : FT) (R : RT) (J : JT) (v1 : Int32) (v2 : Int32), qM_shares_2 n F R J v1 v2 K → G X 0 0 (wM ad ka F R J) 2 [(0, .ref (ad 20)), (1, .int v1), (2, .int v2)] [] := by
  intro n
  induction n with
  | zero => intro F R J v1 v2 h; exact h.elim
  | succ n ih =>
    intro F R J v1 v2 h
    refine g_iload_n C 2 dX10_shares_2 rfl ?_
    refine g_sipush C (201 : Int32) dX10_shares_3 cs_201 ?_
    refine g_icmp_ge C 22 dX10_shares_6 (by decide) (fun c1 => ?_) (fun c1 => ?_)
    · have h := h.1 c1
      refine g_iconst C (0 : Int32) dX10_shares_22 ci_0 ?_
      refine g_istore_n C [(2, .int (0 : Int32)), (0, .ref (ad 20)), (1, .int v1)] dX10_shares_23 (by decide) rfl ?_
      obtain ⟨n1, h⟩ := h
      exact g_lv [1, 2, 0] rfl (lM_shares_24 C hret n1 _ _ _ _ _ h)
    · have h := h.2 c1
      refine g_aload_n C 0 dX10_shares_9 rfl ?_
      refine Mg_nexts C dX10_shares_10 ?_
      refine g_iload_n C 2 dX10_shares_13 rfl ?_
      refine g_iconst C (0 : Int32) dX10_shares_14 ci_0 ?_
      refine Ms_nexts C (f := R 12) rfl _ rfl h.1 dX10_shares_15 ?_
      have h := h.2
      refine g_iinc C 2 (v2 + (1 : Int32)) [(2, .int (v2 + (1 : Int32))), (0, .ref (ad 20)), (1, .int v1)] dX10_shares_16 rfl (by rw [ci_1]) (by decide) rfl ?_
      refine g_goto C 2 dX10_shares_19 (by decide) ?_
      exact g_lv [1, 2, 0] rfl (ih _ _ _ _ _ h)
def qM_shares (F : FT) (R : RT) (J : JT) (a1 : Int32) (K : FT → RT → JT → Prop) : Prop :=
  ∃ n2, qM_shares_2 n2 F R J a1 (0 : Int32) K
set_option maxHeartbeats 4000000 in
set_option maxRecDepth 100000 in
theorem bM_shares {X : XT} {ka : Nat → ClassId} {ad : Nat → Nat} (C : Cx X cX10_shares 5 RX10 none ka 4) {K : FT → RT → JT → Prop} (hret : RetV X cX10_shares 0 0 (fun w => ∃ F R J, w = wM ad ka F R J ∧ K F R J)) (F : FT) (R : RT) (J : JT) (a1 : Int32) (h : qM_shares F R J a1 K) : G X 0 0 (wM ad ka F R J) 0 [(0, .ref (ad 20)), (1, .int a1)] [] := by
  unfold qM_shares at h
  refine g_iconst C (0 : Int32) dX10_shares_0 ci_0 ?_
  refine g_istore_n C [(2, .int (0 : Int32)), (0, .ref (ad 20)), (1, .int a1)] dX10_shares_1 (by decide) rfl ?_
  obtain ⟨n1, h⟩ := h
  exact g_lv [1, 2, 0] rfl (lM_shares_2 C hret n1 _ _ _ _ _ h)
set_option maxHeartbeats 4000000 in
set_option maxRecDepth 100000 in
theorem kM_shares (l : Launch) (D : va_G) (ka : Nat → ClassId) (ad : Nat → Nat) (F : FT) (R : RT) (J : JT) (a1 : Int32) (K : FT → RT → JT → Prop) (h : qM_shares F R J a1 K) : MV l D ka yX10_shares cX10_shares 5 none 4 0 0 [.ref (ad 20), .int a1] (wM ad ka F R J) (fun w => ∃ F R J, w = wM ad ka F R J ∧ K F R J) := MV_of (by decide) (Nat.le_of_ble_eq_true rfl) (fun X C hroom hret => bM_shares C hret F R J a1 h)
set_option maxHeartbeats 4000000 in
set_option maxRecDepth 100000 in
theorem miX10_shares : MInf yX10_shares cX10_shares 5 none 1 := ⟨(gw_of tw5_99 rfl), (gw_of tp_yX10_shares rfl), (gw_of tw1_6 rfl), (gw_of tw5_100 rfl), by decide +kernel, by decide⟩

def qM_mean_149 : Nat → FT → RT → JT → Int32 → Int32 → Int32 → Int32 → Int32 → (Int32 → FT → RT → JT → Prop) → Prop
  | 0, _, _, _, _, _, _, _, _ => fun _ => False
  | n149 + 1, F, R, J, v2, v3, v4, v5, v6 => fun K => (v6 = 0 → ((¬ v2 = 0 → ((¬ v5 = 0) ∧ (K (v3 / v5) F R J))) ∧ (v2 = 0 → ((¬ v5 = 0) ∧ (K (v4 / v5) F R J))))) ∧ (¬ v6 = 0 → ((¬ v6 = 0) ∧ (qM_mean_149 n149 F R J v2 v3 v4 v6 (v5 - v5 / v6 * v6) K)))
set_option maxHeartbeats 4000000 in
set_option maxRecDepth 100000 in
theorem lM_mean_149 {X : XT} {ka : Nat → ClassId} {ad : Nat → Nat} (C : Cx X cX10_mean 8 RX10 (some .int) ka 5) {K : Int32 → FT → RT → JT → Prop} (hret : RetI X cX10_mean .int 0 0 (fun z w => ∃ F R J, w = wM ad ka F R J ∧ K z F R J)) : ∀ (n : Nat) (F : FT) (R : RT) (J : JT) (v2 : Int32) (v3 : Int32) (v4 : Int32) (v5 : Int32) (v6 : Int32), qM_mean_149 n F R J v2 v3 v4 v5 v6 K → G X 0 0 (wM ad ka F R J) 149 [(2, .int v2), (3, .int v3), (4, .int v4), (5, .int v5), (6, .int v6)] [] := by
  intro n
  induction n with
  | zero => intro F R J v2 v3 v4 v5 v6 h; exact h.elim
  | succ n ih =>
    intro F R J v2 v3 v4 v5 v6 h
    refine g_iload C 4 dX10_mean_149 rfl ?_
    refine g_if_eq C 172 dX10_mean_151 (by decide) (fun c1 => ?_) (fun c1 => ?_)
    · have h := h.1 c1
      refine g_iload_n C 0 dX10_mean_172 rfl ?_
      refine g_if_ne C 184 dX10_mean_173 (by decide) (fun c2 => ?_) (fun c2 => ?_)
      · have h := h.1 c2
        refine g_iload_n C 1 dX10_mean_184 rfl ?_
        refine g_iload C 3 dX10_mean_185 rfl ?_
        refine g_idiv C dX10_mean_187 h.1 ?_
        have h := h.2
        exact hret _ _ _ _ ⟨_, _, _, rfl, h⟩ rfl dX10_mean_188
      · have h := h.2 c2
        refine g_iload C 2 dX10_mean_176 rfl ?_
        refine g_iload C 3 dX10_mean_178 rfl ?_
        refine g_idiv C dX10_mean_180 h.1 ?_
        have h := h.2
        refine g_goto C 188 dX10_mean_181 (by decide) ?_
        exact hret _ _ _ _ ⟨_, _, _, rfl, h⟩ rfl dX10_mean_188
    · have h := h.2 c1
      refine g_iload C 3 dX10_mean_154 rfl ?_
      refine g_iload C 4 dX10_mean_156 rfl ?_
      refine g_irem C dX10_mean_158 h.1 ?_
      have h := h.2
      refine g_istore C [(7, .int (v5 - v5 / v6 * v6)), (2, .int v2), (3, .int v3), (4, .int v4), (5, .int v5), (6, .int v6)] dX10_mean_159 (by decide) rfl ?_
      refine g_iload C 5 dX10_mean_161 rfl ?_
      refine g_istore C [(5, .int v6), (7, .int (v5 - v5 / v6 * v6)), (2, .int v2), (3, .int v3), (4, .int v4), (6, .int v6)] dX10_mean_163 (by decide) rfl ?_
      refine g_iload C 1 dX10_mean_165 rfl ?_
      refine g_istore C [(6, .int (v5 - v5 / v6 * v6)), (5, .int v6), (7, .int (v5 - v5 / v6 * v6)), (2, .int v2), (3, .int v3), (4, .int v4)] dX10_mean_167 (by decide) rfl ?_
      refine g_goto C 149 dX10_mean_169 (by decide) ?_
      exact g_lv [3, 4, 5, 1, 0] rfl (ih _ _ _ _ _ _ _ _ h)
def qM_mean_113 : Nat → FT → RT → JT → Int32 → Int32 → Int32 → Int32 → (Int32 → FT → RT → JT → Prop) → Prop
  | 0, _, _, _, _, _, _, _ => fun _ => False
  | n113 + 1, F, R, J, v2, v3, v4, v5 => fun K => ((201 : Int32) ≤ v5 → (∃ n149, qM_mean_149 n149 F R J v2 v3 v4 v4 v3 K)) ∧ (¬ (201 : Int32) ≤ v5 → ((vp_in v5 201) ∧ (qM_mean_113 n113 F R J v2 v3 (v4 + (v5 * (R 11 v5.toNatClampNeg))) (v5 + (1 : Int32)) K)))
set_option maxHeartbeats 4000000 in
set_option maxRecDepth 100000 in
theorem lM_mean_113 {X : XT} {ka : Nat → ClassId} {ad : Nat → Nat} (C : Cx X cX10_mean 8 RX10 (some .int) ka 5) {K : Int32 → FT → RT → JT → Prop} (hret : RetI X cX10_mean .int 0 0 (fun z w => ∃ F R J, w = wM ad ka F R J ∧ K z F R J)) : ∀ (n : Nat) (F : FT) (R : RT) (J : JT) (v2 : Int32) (v3 : Int32) (v4 : Int32) (v5 : Int32), qM_mean_113 n F R J v2 v3 v4 v5 K → G X 0 0 (wM ad ka F R J) 113 [(0, .ref (ad 20)), (2, .int v2), (3, .int v3), (4, .int v4), (5, .int v5)] [] := by
  intro n
  induction n with
  | zero => intro F R J v2 v3 v4 v5 h; exact h.elim
  | succ n ih =>
    intro F R J v2 v3 v4 v5 h
    refine g_iload C 4 dX10_mean_113 rfl ?_
    refine g_sipush C (201 : Int32) dX10_mean_115 cs_201 ?_
    refine g_icmp_ge C 142 dX10_mean_118 (by decide) (fun c1 => ?_) (fun c1 => ?_)
    · have h := h.1 c1
      refine g_iload C 3 dX10_mean_142 rfl ?_
      refine g_istore C [(5, .int v4), (0, .ref (ad 20)), (2, .int v2), (3, .int v3), (4, .int v4)] dX10_mean_144 (by decide) rfl ?_
      refine g_iload_n C 3 dX10_mean_146 rfl ?_
      refine g_istore C [(6, .int v3), (5, .int v4), (0, .ref (ad 20)), (2, .int v2), (3, .int v3), (4, .int v4)] dX10_mean_147 (by decide) rfl ?_
      obtain ⟨n1, h⟩ := h
      exact g_lv [3, 4, 5, 1, 0] rfl (lM_mean_149 C hret n1 _ _ _ _ _ _ _ _ h)
    · have h := h.2 c1
      refine g_iload C 3 dX10_mean_121 rfl ?_
      refine g_iload C 4 dX10_mean_123 rfl ?_
      refine g_aload_n C 0 dX10_mean_125 rfl ?_
      refine Mg_parts C dX10_mean_126 ?_
      refine g_iload C 4 dX10_mean_129 rfl ?_
      refine Ma_parts C (f := R 11) rfl _ rfl h.1 dX10_mean_131 ?_
      have h := h.2
      refine g_imul C dX10_mean_132 ?_
      refine g_iadd C dX10_mean_133 ?_
      refine g_istore C [(4, .int (v4 + (v5 * (R 11 v5.toNatClampNeg)))), (0, .ref (ad 20)), (2, .int v2), (3, .int v3), (5, .int v5)] dX10_mean_134 (by decide) rfl ?_
      refine g_iinc C 4 (v5 + (1 : Int32)) [(5, .int (v5 + (1 : Int32))), (4, .int (v4 + (v5 * (R 11 v5.toNatClampNeg)))), (0, .ref (ad 20)), (2, .int v2), (3, .int v3)] dX10_mean_136 rfl (by rw [ci_1]) (by decide) rfl ?_
      refine g_goto C 113 dX10_mean_139 (by decide) ?_
      exact g_lv [2, 3, 4, 1, 0] rfl (ih _ _ _ _ _ _ _ h)
def qM_mean_84 : Nat → FT → RT → JT → Int32 → Int32 → Int32 → Int32 → (Int32 → FT → RT → JT → Prop) → Prop
  | 0, _, _, _, _, _, _, _ => fun _ => False
  | n84 + 1, F, R, J, v1, v2, v3, v4 => fun K => (v1 ≤ v4 → (∃ n113, qM_mean_113 n113 F R J v2 v3 (0 : Int32) (0 : Int32) K)) ∧ (¬ v1 ≤ v4 → (qM_shares F R J v4 (fun F2 R2 J2 => qM_mean_84 n84 F2 R2 J2 v1 v2 (v3 * (10 : Int32)) (v4 + (1 : Int32)) K)))
set_option maxHeartbeats 4000000 in
set_option maxRecDepth 100000 in
theorem lM_mean_84 {X : XT} {ka : Nat → ClassId} {ad : Nat → Nat} (C : Cx X cX10_mean 8 RX10 (some .int) ka 5) {K : Int32 → FT → RT → JT → Prop} (hret : RetI X cX10_mean .int 0 0 (fun z w => ∃ F R J, w = wM ad ka F R J ∧ K z F R J)) : ∀ (n : Nat) (F : FT) (R : RT) (J : JT) (v1 : Int32) (v2 : Int32) (v3 : Int32) (v4 : Int32), qM_mean_84 n F R J v1 v2 v3 v4 K → G X 0 0 (wM ad ka F R J) 84 [(0, .ref (ad 20)), (1, .int v1), (2, .int v2), (3, .int v3), (4, .int v4)] [] := by
  intro n
  induction n with
  | zero => intro F R J v1 v2 v3 v4 h; exact h.elim
  | succ n ih =>
    intro F R J v1 v2 v3 v4 h
    refine g_iload C 4 dX10_mean_84 rfl ?_
    refine g_iload_n C 1 dX10_mean_86 rfl ?_
    refine g_icmp_ge C 107 dX10_mean_87 (by decide) (fun c1 => ?_) (fun c1 => ?_)
    · have h := h.1 c1
      refine g_iconst C (0 : Int32) dX10_mean_107 ci_0 ?_
      refine g_istore C [(4, .int (0 : Int32)), (0, .ref (ad 20)), (1, .int v1), (2, .int v2), (3, .int v3)] dX10_mean_108 (by decide) rfl ?_
      refine g_iconst C (0 : Int32) dX10_mean_110 ci_0 ?_
      refine g_istore C [(5, .int (0 : Int32)), (4, .int (0 : Int32)), (0, .ref (ad 20)), (1, .int v1), (2, .int v2), (3, .int v3)] dX10_mean_111 (by decide) rfl ?_
      obtain ⟨n1, h⟩ := h
      exact g_lv [2, 4, 5, 1, 0] rfl (lM_mean_113 C hret n1 _ _ _ _ _ _ _ h)
    · have h := h.2 c1
      refine g_aload_n C 0 dX10_mean_90 rfl ?_
      refine g_iload C 4 dX10_mean_91 rfl ?_
      refine g_callVv0 C (kM_shares (xL X) (xD X) ka ad _ _ _ _ _ h) miX10_shares (gw_of tw5_97 rfl) (by decide) wM_at rfl rfl rfl (Nat.le_of_ble_eq_true rfl) z00 dX10_mean_93 (fun w hw => ?_)
      obtain ⟨F2, R2, J2, rfl, h⟩ := hw
      refine g_iload_n C 3 dX10_mean_96 rfl ?_
      refine g_bipush C (10 : Int32) dX10_mean_97 cb_10 ?_
      refine g_imul C dX10_mean_99 ?_
      refine g_istore_n C [(3, .int (v3 * (10 : Int32))), (0, .ref (ad 20)), (1, .int v1), (2, .int v2), (4, .int v4)] dX10_mean_100 (by decide) rfl ?_
      refine g_iinc C 4 (v4 + (1 : Int32)) [(4, .int (v4 + (1 : Int32))), (3, .int (v3 * (10 : Int32))), (0, .ref (ad 20)), (1, .int v1), (2, .int v2)] dX10_mean_101 rfl (by rw [ci_1]) (by decide) rfl ?_
      refine g_goto C 84 dX10_mean_104 (by decide) ?_
      exact g_lv [2, 3, 4, 1, 0] rfl (ih _ _ _ _ _ _ _ h)
def qM_mean_72 (k44 : FT → RT → JT → Int32 → Int32 → Int32 → Prop) (F : FT) (R : RT) (J : JT) (v1 : Int32) (v2 : Int32) (v3 : Int32) (s0 : Int32) (s1 : Int32) (K : Int32 → FT → RT → JT → Prop) : Prop :=
  (vp_in s1 201) ∧ (k44 F (va_up R 11 (upd (R 11) s1.toNatClampNeg s0)) J v1 v2 (v3 + (1 : Int32)))
set_option maxHeartbeats 4000000 in
set_option maxRecDepth 100000 in
theorem lM_mean_72 {X : XT} {ka : Nat → ClassId} {ad : Nat → Nat} (C : Cx X cX10_mean 8 RX10 (some .int) ka 5) {K : Int32 → FT → RT → JT → Prop} (hret : RetI X cX10_mean .int 0 0 (fun z w => ∃ F R J, w = wM ad ka F R J ∧ K z F R J)) {k44 : FT → RT → JT → Int32 → Int32 → Int32 → Prop} (hk44 : ∀ (F : FT) (R : RT) (J : JT) (v1 : Int32) (v2 : Int32) (v3 : Int32), k44 F R J v1 v2 v3 → G X 0 0 (wM ad ka F R J) 44 [(0, .ref (ad 20)), (1, .int v1), (2, .int v2), (3, .int v3)] []) (F : FT) (R : RT) (J : JT) (v1 : Int32) (v2 : Int32) (v3 : Int32) (s0 : Int32) (s1 : Int32) (h : qM_mean_72 k44 F R J v1 v2 v3 s0 s1 K) : G X 0 0 (wM ad ka F R J) 72 [(0, .ref (ad 20)), (1, .int v1), (2, .int v2), (3, .int v3)] [.int s0, .int s1, .ref (ad 11)] := by
  unfold qM_mean_72 at h
  refine Ms_parts C (f := R 11) rfl _ rfl h.1 dX10_mean_72 ?_
  have h := h.2
  refine g_iinc C 3 (v3 + (1 : Int32)) [(3, .int (v3 + (1 : Int32))), (0, .ref (ad 20)), (1, .int v1), (2, .int v2)] dX10_mean_73 rfl (by rw [ci_1]) (by decide) rfl ?_
  refine g_goto C 44 dX10_mean_76 (by decide) ?_
  exact g_lv [1, 2, 3, 0] rfl (hk44 _ _ _ _ _ _ h)
def qM_mean_44 : Nat → FT → RT → JT → Int32 → Int32 → Int32 → (Int32 → FT → RT → JT → Prop) → Prop
  | 0, _, _, _, _, _, _ => fun _ => False
  | n44 + 1, F, R, J, v1, v2, v3 => fun K => ((201 : Int32) ≤ v3 → (∃ n84, qM_mean_84 n84 F R J v1 v2 (1 : Int32) (0 : Int32) K)) ∧ (¬ (201 : Int32) ≤ v3 → ((¬ v3 = (R 0 7) → (qM_mean_72 (fun F R J v1 v2 v3 => qM_mean_44 n44 F R J v1 v2 v3 K) F R J v1 v2 v3 (0 : Int32) v3 K)) ∧ (v3 = (R 0 7) → (qM_mean_72 (fun F R J v1 v2 v3 => qM_mean_44 n44 F R J v1 v2 v3 K) F R J v1 v2 v3 (1 : Int32) v3 K))))
set_option maxHeartbeats 4000000 in
set_option maxRecDepth 100000 in
theorem lM_mean_44 {X : XT} {ka : Nat → ClassId} {ad : Nat → Nat} (C : Cx X cX10_mean 8 RX10 (some .int) ka 5) {K : Int32 → FT → RT → JT → Prop} (hret : RetI X cX10_mean .int 0 0 (fun z w => ∃ F R J, w = wM ad ka F R J ∧ K z F R J)) : ∀ (n : Nat) (F : FT) (R : RT) (J : JT) (v1 : Int32) (v2 : Int32) (v3 : Int32), qM_mean_44 n F R J v1 v2 v3 K → G X 0 0 (wM ad ka F R J) 44 [(0, .ref (ad 20)), (1, .int v1), (2, .int v2), (3, .int v3)] [] := by
  intro n
  induction n with
  | zero => intro F R J v1 v2 v3 h; exact h.elim
  | succ n ih =>
    intro F R J v1 v2 v3 h
    refine g_iload_n C 3 dX10_mean_44 rfl ?_
    refine g_sipush C (201 : Int32) dX10_mean_45 cs_201 ?_
    refine g_icmp_ge C 79 dX10_mean_48 (by decide) (fun c1 => ?_) (fun c1 => ?_)
    · have h := h.1 c1
      refine g_iconst C (1 : Int32) dX10_mean_79 ci_1 ?_
      refine g_istore_n C [(3, .int (1 : Int32)), (0, .ref (ad 20)), (1, .int v1), (2, .int v2)] dX10_mean_80 (by decide) rfl ?_
      refine g_iconst C (0 : Int32) dX10_mean_81 ci_0 ?_
      refine g_istore C [(4, .int (0 : Int32)), (3, .int (1 : Int32)), (0, .ref (ad 20)), (1, .int v1), (2, .int v2)] dX10_mean_82 (by decide) rfl ?_
      obtain ⟨n1, h⟩ := h
      exact g_lv [2, 3, 4, 1, 0] rfl (lM_mean_84 C hret n1 _ _ _ _ _ _ _ h)
    · have h := h.2 c1
      refine g_aload_n C 0 dX10_mean_51 rfl ?_
      refine Mg_parts C dX10_mean_52 ?_
      refine g_iload_n C 3 dX10_mean_55 rfl ?_
      refine g_iload_n C 3 dX10_mean_56 rfl ?_
      refine g_aload_n C 0 dX10_mean_57 rfl ?_
      refine Mg_now C dX10_mean_58 ?_
      refine g_bipush C (7 : Int32) dX10_mean_61 cb_7 ?_
      refine Ma_now C (f := R 0) rfl (7) (by decide) (vp_lit (by decide)) dX10_mean_63 ?_
      refine g_icmp_ne C 71 dX10_mean_64 (by decide) (fun c2 => ?_) (fun c2 => ?_)
      · have h := h.1 c2
        refine g_iconst C (0 : Int32) dX10_mean_71 ci_0 ?_
        exact g_lv [0, 1, 2, 3] rfl (lM_mean_72 C hret (fun F R J v1 v2 v3 h => ih F R J v1 v2 v3 h) _ _ _ _ _ _ _ _ h)
      · have h := h.2 c2
        refine g_iconst C (1 : Int32) dX10_mean_67 ci_1 ?_
        refine g_goto C 72 dX10_mean_68 (by decide) ?_
        exact g_lv [0, 1, 2, 3] rfl (lM_mean_72 C hret (fun F R J v1 v2 v3 h => ih F R J v1 v2 v3 h) _ _ _ _ _ _ _ _ h)
def qM_mean (F : FT) (R : RT) (J : JT) (a1 : Int32) (a2 : Int32) (K : Int32 → FT → RT → JT → Prop) : Prop :=
  qM_in F R J a1.toInt64 (0 : Int64) (6 : Int64) (fun r1 F1 R1 J1 => (r1 = 0 → (K (-1 : Int32) F1 R1 J1)) ∧ (¬ r1 = 0 → ((((R1 0 3) - (R1 0 6)) < a1 → (K (-1 : Int32) F1 R1 J1)) ∧ (¬ ((R1 0 3) - (R1 0 6)) < a1 → (qM_in F1 R1 J1 a2.toInt64 (0 : Int64) (1 : Int64) (fun r4 F4 R4 J4 => (¬ r4 = 0 → (∃ n44, qM_mean_44 n44 F4 R4 J4 a1 a2 (0 : Int32) K)) ∧ (r4 = 0 → (K (-1 : Int32) F4 R4 J4))))))))
set_option maxHeartbeats 4000000 in
set_option maxRecDepth 100000 in
theorem bM_mean {X : XT} {ka : Nat → ClassId} {ad : Nat → Nat} (C : Cx X cX10_mean 8 RX10 (some .int) ka 5) {K : Int32 → FT → RT → JT → Prop} (hret : RetI X cX10_mean .int 0 0 (fun z w => ∃ F R J, w = wM ad ka F R J ∧ K z F R J)) (F : FT) (R : RT) (J : JT) (a1 : Int32) (a2 : Int32) (h : qM_mean F R J a1 a2 K) : G X 0 0 (wM ad ka F R J) 0 [(0, .ref (ad 20)), (1, .int a1), (2, .int a2)] [] := by
  unfold qM_mean at h
  refine g_iload_n C 1 dX10_mean_0 rfl ?_
  refine g_i2l C dX10_mean_1 ?_
  refine g_lconst C (0 : Int64) dX10_mean_2 rfl ?_
  refine g_ldc2 C (gw_of tw4_148 rfl) dX10_mean_3 ?_
  refine g_callSi0 C (kM_in (xL X) (xD X) ka ad _ _ _ _ _ _ _ h) siX10_in (gw_of tw4_136 rfl) (by decide) rfl rfl (Nat.le_of_ble_eq_true rfl) z00 dX10_mean_6 (fun r1 w hw => ?_)
  obtain ⟨F1, R1, J1, rfl, h⟩ := hw
  refine g_if_eq C 40 dX10_mean_9 (by decide) (fun c2 => ?_) (fun c2 => ?_)
  · have h := h.1 c2
    refine g_iconst C (-1 : Int32) dX10_mean_40 ci_m1 ?_
    exact hret _ _ _ _ ⟨_, _, _, rfl, h⟩ rfl dX10_mean_41
  · have h := h.2 c2
    refine g_iload_n C 1 dX10_mean_12 rfl ?_
    refine g_aload_n C 0 dX10_mean_13 rfl ?_
    refine Mg_now C dX10_mean_14 ?_
    refine g_iconst C (3 : Int32) dX10_mean_17 ci_3 ?_
    refine Ma_now C (f := R1 0) rfl (3) (by decide) (vp_lit (by decide)) dX10_mean_18 ?_
    refine g_aload_n C 0 dX10_mean_19 rfl ?_
    refine Mg_now C dX10_mean_20 ?_
    refine g_bipush C (6 : Int32) dX10_mean_23 cb_6 ?_
    refine Ma_now C (f := R1 0) rfl (6) (by decide) (vp_lit (by decide)) dX10_mean_25 ?_
    refine g_isub C dX10_mean_26 ?_
    refine g_icmp_gt C 40 dX10_mean_27 (by decide) (fun c3 => ?_) (fun c3 => ?_)
    · have h := h.1 c3
      refine g_iconst C (-1 : Int32) dX10_mean_40 ci_m1 ?_
      exact hret _ _ _ _ ⟨_, _, _, rfl, h⟩ rfl dX10_mean_41
    · have h := h.2 c3
      refine g_iload_n C 2 dX10_mean_30 rfl ?_
      refine g_i2l C dX10_mean_31 ?_
      refine g_lconst C (0 : Int64) dX10_mean_32 rfl ?_
      refine g_lconst C (1 : Int64) dX10_mean_33 rfl ?_
      refine g_callSi0 C (kM_in (xL X) (xD X) ka ad _ _ _ _ _ _ _ h) siX10_in (gw_of tw4_136 rfl) (by decide) rfl rfl (Nat.le_of_ble_eq_true rfl) z00 dX10_mean_34 (fun r4 w hw => ?_)
      obtain ⟨F4, R4, J4, rfl, h⟩ := hw
      refine g_if_ne C 42 dX10_mean_37 (by decide) (fun c5 => ?_) (fun c5 => ?_)
      · have h := h.1 c5
        refine g_iconst C (0 : Int32) dX10_mean_42 ci_0 ?_
        refine g_istore_n C [(3, .int (0 : Int32)), (0, .ref (ad 20)), (1, .int a1), (2, .int a2)] dX10_mean_43 (by decide) rfl ?_
        obtain ⟨n1, h⟩ := h
        exact g_lv [1, 2, 3, 0] rfl (lM_mean_44 C hret n1 _ _ _ _ _ _ h)
      · have h := h.2 c5
        refine g_iconst C (-1 : Int32) dX10_mean_40 ci_m1 ?_
        exact hret _ _ _ _ ⟨_, _, _, rfl, h⟩ rfl dX10_mean_41
set_option maxHeartbeats 4000000 in
set_option maxRecDepth 100000 in
theorem kM_mean (l : Launch) (D : va_G) (ka : Nat → ClassId) (ad : Nat → Nat) (F : FT) (R : RT) (J : JT) (a1 : Int32) (a2 : Int32) (K : Int32 → FT → RT → JT → Prop) (h : qM_mean F R J a1 a2 K) : MI l D ka yX10_mean cX10_mean 8 (some .int) 5 0 0 [.ref (ad 20), .int a1, .int a2] (wM ad ka F R J) (fun z w => ∃ F R J, w = wM ad ka F R J ∧ K z F R J) := MI_of (by decide) (Nat.le_of_ble_eq_true rfl) (fun X C hroom hret => bM_mean C hret F R J a1 a2 h)
set_option maxHeartbeats 4000000 in
set_option maxRecDepth 100000 in
theorem miX10_mean : MInf yX10_mean cX10_mean 8 (some .int) 2 := ⟨(gw_of tw5_94 rfl), (gw_of tw5_95 rfl), (gw_of tw1_6 rfl), (gw_of tw5_96 rfl), by decide +kernel, by decide⟩

def qM_image_28 : Nat → FT → RT → JT → Int32 → (Int32 → FT → RT → JT → Prop) → Prop
  | 0, _, _, _, _ => fun _ => False
  | n28 + 1, F, R, J, v1 => fun K => ((48 : Int32) ≤ v1 → (K (1 : Int32) (upd (upd F 14 (F 9)) 15 (1 : Int32)) R J)) ∧ (¬ (48 : Int32) ≤ v1 → ((vp_in v1 48) ∧ ((vp_in ((37 : Int32) + v1) 85) ∧ (qM_image_28 n28 F (va_up R 13 (upd (R 13) (((37 : Int32) + v1).toNatClampNeg) (R 8 v1.toNatClampNeg))) J (v1 + (1 : Int32)) K))))
set_option maxHeartbeats 4000000 in
set_option maxRecDepth 100000 in
theorem lM_image_28 {X : XT} {ka : Nat → ClassId} {ad : Nat → Nat} (C : Cx X cX10_image 2 RX10 (some .int) ka 1) {K : Int32 → FT → RT → JT → Prop} (hret : RetI X cX10_image .int 0 0 (fun z w => ∃ F R J, w = wM ad ka F R J ∧ K z F R J)) : ∀ (n : Nat) (F : FT) (R : RT) (J : JT) (v1 : Int32), qM_image_28 n F R J v1 K → G X 0 0 (wM ad ka F R J) 28 [(0, .ref (ad 20)), (1, .int v1)] [] := by
  intro n
  induction n with
  | zero => intro F R J v1 h; exact h.elim
  | succ n ih =>
    intro F R J v1 h
    refine g_iload_n C 1 dX10_image_28 rfl ?_
    refine g_bipush C (48 : Int32) dX10_image_29 cb_48 ?_
    refine g_icmp_ge C 55 dX10_image_31 (by decide) (fun c1 => ?_) (fun c1 => ?_)
    · have h := h.1 c1
      refine g_aload_n C 0 dX10_image_55 rfl ?_
      refine g_aload_n C 0 dX10_image_56 rfl ?_
      refine Mg_undos C (v := F 9) rfl dX10_image_57 ?_
      refine Mp_keptUndos C dX10_image_60 ?_
      refine g_aload_n C 0 dX10_image_63 rfl ?_
      refine g_iconst C (1 : Int32) dX10_image_64 ci_1 ?_
      refine Mp_isKept C isB_1 dX10_image_65 ?_
      refine g_iconst C (1 : Int32) dX10_image_68 ci_1 ?_
      exact hret _ _ _ _ ⟨_, _, _, rfl, h⟩ rfl dX10_image_69
    · have h := h.2 c1
      refine g_aload_n C 0 dX10_image_34 rfl ?_
      refine Mg_kept C dX10_image_35 ?_
      refine g_bipush C (37 : Int32) dX10_image_38 cb_37 ?_
      refine g_iload_n C 1 dX10_image_40 rfl ?_
      refine g_iadd C dX10_image_41 ?_
      refine g_aload_n C 0 dX10_image_42 rfl ?_
      refine Mg_undone C dX10_image_43 ?_
      refine g_iload_n C 1 dX10_image_46 rfl ?_
      refine Ma_undone C (f := R 8) rfl _ rfl h.1 dX10_image_47 ?_
      have h := h.2
      refine Ms_kept C (f := R 13) rfl _ rfl h.1 dX10_image_48 ?_
      have h := h.2
      refine g_iinc C 1 (v1 + (1 : Int32)) [(1, .int (v1 + (1 : Int32))), (0, .ref (ad 20))] dX10_image_49 rfl (by rw [ci_1]) (by decide) rfl ?_
      refine g_goto C 28 dX10_image_52 (by decide) ?_
      exact g_lv [1, 0] rfl (ih _ _ _ _ h)
def qM_image_2 : Nat → FT → RT → JT → Int32 → (Int32 → FT → RT → JT → Prop) → Prop
  | 0, _, _, _, _ => fun _ => False
  | n2 + 1, F, R, J, v1 => fun K => ((37 : Int32) ≤ v1 → (∃ n28, qM_image_28 n28 F R J (0 : Int32) K)) ∧ (¬ (37 : Int32) ≤ v1 → ((vp_in v1 37) ∧ ((vp_in v1 85) ∧ (qM_image_2 n2 F (va_up R 13 (upd (R 13) v1.toNatClampNeg (R 0 v1.toNatClampNeg))) J (v1 + (1 : Int32)) K))))
set_option maxHeartbeats 4000000 in
set_option maxRecDepth 100000 in
theorem lM_image_2 {X : XT} {ka : Nat → ClassId} {ad : Nat → Nat} (C : Cx X cX10_image 2 RX10 (some .int) ka 1) {K : Int32 → FT → RT → JT → Prop} (hret : RetI X cX10_image .int 0 0 (fun z w => ∃ F R J, w = wM ad ka F R J ∧ K z F R J)) : ∀ (n : Nat) (F : FT) (R : RT) (J : JT) (v1 : Int32), qM_image_2 n F R J v1 K → G X 0 0 (wM ad ka F R J) 2 [(0, .ref (ad 20)), (1, .int v1)] [] := by
  intro n
  induction n with
  | zero => intro F R J v1 h; exact h.elim
  | succ n ih =>
    intro F R J v1 h
    refine g_iload_n C 1 dX10_image_2 rfl ?_
    refine g_bipush C (37 : Int32) dX10_image_3 cb_37 ?_
    refine g_icmp_ge C 26 dX10_image_5 (by decide) (fun c1 => ?_) (fun c1 => ?_)
    · have h := h.1 c1
      refine g_iconst C (0 : Int32) dX10_image_26 ci_0 ?_
      refine g_istore_n C [(1, .int (0 : Int32)), (0, .ref (ad 20))] dX10_image_27 (by decide) rfl ?_
      obtain ⟨n1, h⟩ := h
      exact g_lv [1, 0] rfl (lM_image_28 C hret n1 _ _ _ _ h)
    · have h := h.2 c1
      refine g_aload_n C 0 dX10_image_8 rfl ?_
      refine Mg_kept C dX10_image_9 ?_
      refine g_iload_n C 1 dX10_image_12 rfl ?_
      refine g_aload_n C 0 dX10_image_13 rfl ?_
      refine Mg_now C dX10_image_14 ?_
      refine g_iload_n C 1 dX10_image_17 rfl ?_
      refine Ma_now C (f := R 0) rfl _ rfl h.1 dX10_image_18 ?_
      have h := h.2
      refine Ms_kept C (f := R 13) rfl _ rfl h.1 dX10_image_19 ?_
      have h := h.2
      refine g_iinc C 1 (v1 + (1 : Int32)) [(1, .int (v1 + (1 : Int32))), (0, .ref (ad 20))] dX10_image_20 rfl (by rw [ci_1]) (by decide) rfl ?_
      refine g_goto C 2 dX10_image_23 (by decide) ?_
      exact g_lv [1, 0] rfl (ih _ _ _ _ h)
def qM_image (F : FT) (R : RT) (J : JT)  (K : Int32 → FT → RT → JT → Prop) : Prop :=
  ∃ n2, qM_image_2 n2 F R J (0 : Int32) K
set_option maxHeartbeats 4000000 in
set_option maxRecDepth 100000 in
theorem bM_image {X : XT} {ka : Nat → ClassId} {ad : Nat → Nat} (C : Cx X cX10_image 2 RX10 (some .int) ka 1) {K : Int32 → FT → RT → JT → Prop} (hret : RetI X cX10_image .int 0 0 (fun z w => ∃ F R J, w = wM ad ka F R J ∧ K z F R J)) (F : FT) (R : RT) (J : JT)  (h : qM_image F R J  K) : G X 0 0 (wM ad ka F R J) 0 [(0, .ref (ad 20))] [] := by
  unfold qM_image at h
  refine g_iconst C (0 : Int32) dX10_image_0 ci_0 ?_
  refine g_istore_n C [(1, .int (0 : Int32)), (0, .ref (ad 20))] dX10_image_1 (by decide) rfl ?_
  obtain ⟨n1, h⟩ := h
  exact g_lv [1, 0] rfl (lM_image_2 C hret n1 _ _ _ _ h)
set_option maxHeartbeats 4000000 in
set_option maxRecDepth 100000 in
theorem kM_image (l : Launch) (D : va_G) (ka : Nat → ClassId) (ad : Nat → Nat) (F : FT) (R : RT) (J : JT)  (K : Int32 → FT → RT → JT → Prop) (h : qM_image F R J  K) : MI l D ka yX10_image cX10_image 2 (some .int) 1 0 0 [.ref (ad 20)] (wM ad ka F R J) (fun z w => ∃ F R J, w = wM ad ka F R J ∧ K z F R J) := MI_of (by decide) (Nat.le_of_ble_eq_true rfl) (fun X C hroom hret => bM_image C hret F R J  h)
set_option maxHeartbeats 4000000 in
set_option maxRecDepth 100000 in
theorem miX10_image : MInf yX10_image cX10_image 2 (some .int) 0 := ⟨(gw_of tw5_102 rfl), (gw_of tw5_103 rfl), (gw_of tw1_6 rfl), (gw_of tw5_104 rfl), by decide +kernel, by decide⟩

def qM_restore_38 : Nat → FT → RT → JT → Int32 → (Int32 → FT → RT → JT → Prop) → Prop
  | 0, _, _, _, _ => fun _ => False
  | n38 + 1, F, R, J, v1 => fun K => ((48 : Int32) ≤ v1 → (K (1 : Int32) (upd F 9 (F 14)) R J)) ∧ (¬ (48 : Int32) ≤ v1 → ((vp_in ((37 : Int32) + v1) 85) ∧ ((vp_in v1 48) ∧ (qM_restore_38 n38 F (va_up R 8 (upd (R 8) v1.toNatClampNeg (R 13 (((37 : Int32) + v1).toNatClampNeg)))) J (v1 + (1 : Int32)) K))))
set_option maxHeartbeats 4000000 in
set_option maxRecDepth 100000 in
theorem lM_restore_38 {X : XT} {ka : Nat → ClassId} {ad : Nat → Nat} (C : Cx X cX10_restore 2 RX10 (some .int) ka 1) {K : Int32 → FT → RT → JT → Prop} (hret : RetI X cX10_restore .int 0 0 (fun z w => ∃ F R J, w = wM ad ka F R J ∧ K z F R J)) : ∀ (n : Nat) (F : FT) (R : RT) (J : JT) (v1 : Int32), qM_restore_38 n F R J v1 K → G X 0 0 (wM ad ka F R J) 38 [(0, .ref (ad 20)), (1, .int v1)] [] := by
  intro n
  induction n with
  | zero => intro F R J v1 h; exact h.elim
  | succ n ih =>
    intro F R J v1 h
    refine g_iload_n C 1 dX10_restore_38 rfl ?_
    refine g_bipush C (48 : Int32) dX10_restore_39 cb_48 ?_
    refine g_icmp_ge C 65 dX10_restore_41 (by decide) (fun c1 => ?_) (fun c1 => ?_)
    · have h := h.1 c1
      refine g_aload_n C 0 dX10_restore_65 rfl ?_
      refine g_aload_n C 0 dX10_restore_66 rfl ?_
      refine Mg_keptUndos C (v := F 14) rfl dX10_restore_67 ?_
      refine Mp_undos C dX10_restore_70 ?_
      refine g_iconst C (1 : Int32) dX10_restore_73 ci_1 ?_
      exact hret _ _ _ _ ⟨_, _, _, rfl, h⟩ rfl dX10_restore_74
    · have h := h.2 c1
      refine g_aload_n C 0 dX10_restore_44 rfl ?_
      refine Mg_undone C dX10_restore_45 ?_
      refine g_iload_n C 1 dX10_restore_48 rfl ?_
      refine g_aload_n C 0 dX10_restore_49 rfl ?_
      refine Mg_kept C dX10_restore_50 ?_
      refine g_bipush C (37 : Int32) dX10_restore_53 cb_37 ?_
      refine g_iload_n C 1 dX10_restore_55 rfl ?_
      refine g_iadd C dX10_restore_56 ?_
      refine Ma_kept C (f := R 13) rfl _ rfl h.1 dX10_restore_57 ?_
      have h := h.2
      refine Ms_undone C (f := R 8) rfl _ rfl h.1 dX10_restore_58 ?_
      have h := h.2
      refine g_iinc C 1 (v1 + (1 : Int32)) [(1, .int (v1 + (1 : Int32))), (0, .ref (ad 20))] dX10_restore_59 rfl (by rw [ci_1]) (by decide) rfl ?_
      refine g_goto C 38 dX10_restore_62 (by decide) ?_
      exact g_lv [1, 0] rfl (ih _ _ _ _ h)
def qM_restore_12 : Nat → FT → RT → JT → Int32 → (Int32 → FT → RT → JT → Prop) → Prop
  | 0, _, _, _, _ => fun _ => False
  | n12 + 1, F, R, J, v1 => fun K => ((37 : Int32) ≤ v1 → (∃ n38, qM_restore_38 n38 F R J (0 : Int32) K)) ∧ (¬ (37 : Int32) ≤ v1 → ((vp_in v1 85) ∧ ((vp_in v1 37) ∧ (qM_restore_12 n12 F (va_up R 0 (upd (R 0) v1.toNatClampNeg (R 13 v1.toNatClampNeg))) J (v1 + (1 : Int32)) K))))
set_option maxHeartbeats 4000000 in
set_option maxRecDepth 100000 in
theorem lM_restore_12 {X : XT} {ka : Nat → ClassId} {ad : Nat → Nat} (C : Cx X cX10_restore 2 RX10 (some .int) ka 1) {K : Int32 → FT → RT → JT → Prop} (hret : RetI X cX10_restore .int 0 0 (fun z w => ∃ F R J, w = wM ad ka F R J ∧ K z F R J)) : ∀ (n : Nat) (F : FT) (R : RT) (J : JT) (v1 : Int32), qM_restore_12 n F R J v1 K → G X 0 0 (wM ad ka F R J) 12 [(0, .ref (ad 20)), (1, .int v1)] [] := by
  intro n
  induction n with
  | zero => intro F R J v1 h; exact h.elim
  | succ n ih =>
    intro F R J v1 h
    refine g_iload_n C 1 dX10_restore_12 rfl ?_
    refine g_bipush C (37 : Int32) dX10_restore_13 cb_37 ?_
    refine g_icmp_ge C 36 dX10_restore_15 (by decide) (fun c1 => ?_) (fun c1 => ?_)
    · have h := h.1 c1
      refine g_iconst C (0 : Int32) dX10_restore_36 ci_0 ?_
      refine g_istore_n C [(1, .int (0 : Int32)), (0, .ref (ad 20))] dX10_restore_37 (by decide) rfl ?_
      obtain ⟨n1, h⟩ := h
      exact g_lv [1, 0] rfl (lM_restore_38 C hret n1 _ _ _ _ h)
    · have h := h.2 c1
      refine g_aload_n C 0 dX10_restore_18 rfl ?_
      refine Mg_now C dX10_restore_19 ?_
      refine g_iload_n C 1 dX10_restore_22 rfl ?_
      refine g_aload_n C 0 dX10_restore_23 rfl ?_
      refine Mg_kept C dX10_restore_24 ?_
      refine g_iload_n C 1 dX10_restore_27 rfl ?_
      refine Ma_kept C (f := R 13) rfl _ rfl h.1 dX10_restore_28 ?_
      have h := h.2
      refine Ms_now C (f := R 0) rfl _ rfl h.1 dX10_restore_29 ?_
      have h := h.2
      refine g_iinc C 1 (v1 + (1 : Int32)) [(1, .int (v1 + (1 : Int32))), (0, .ref (ad 20))] dX10_restore_30 rfl (by rw [ci_1]) (by decide) rfl ?_
      refine g_goto C 12 dX10_restore_33 (by decide) ?_
      exact g_lv [1, 0] rfl (ih _ _ _ _ h)
def qM_restore (F : FT) (R : RT) (J : JT)  (K : Int32 → FT → RT → JT → Prop) : Prop :=
  (¬ (F 15) = 0 → (∃ n12, qM_restore_12 n12 F R J (0 : Int32) K)) ∧ ((F 15) = 0 → (K (-4 : Int32) F R J))
set_option maxHeartbeats 4000000 in
set_option maxRecDepth 100000 in
theorem bM_restore {X : XT} {ka : Nat → ClassId} {ad : Nat → Nat} (C : Cx X cX10_restore 2 RX10 (some .int) ka 1) {K : Int32 → FT → RT → JT → Prop} (hret : RetI X cX10_restore .int 0 0 (fun z w => ∃ F R J, w = wM ad ka F R J ∧ K z F R J)) (F : FT) (R : RT) (J : JT)  (h : qM_restore F R J  K) : G X 0 0 (wM ad ka F R J) 0 [(0, .ref (ad 20))] [] := by
  unfold qM_restore at h
  refine g_aload_n C 0 dX10_restore_0 rfl ?_
  refine Mg_isKept C (v := F 15) rfl dX10_restore_1 ?_
  refine g_if_ne C 10 dX10_restore_4 (by decide) (fun c1 => ?_) (fun c1 => ?_)
  · have h := h.1 c1
    refine g_iconst C (0 : Int32) dX10_restore_10 ci_0 ?_
    refine g_istore_n C [(1, .int (0 : Int32)), (0, .ref (ad 20))] dX10_restore_11 (by decide) rfl ?_
    obtain ⟨n1, h⟩ := h
    exact g_lv [1, 0] rfl (lM_restore_12 C hret n1 _ _ _ _ h)
  · have h := h.2 c1
    refine g_bipush C (-4 : Int32) dX10_restore_7 cb_m4 ?_
    exact hret _ _ _ _ ⟨_, _, _, rfl, h⟩ rfl dX10_restore_9
set_option maxHeartbeats 4000000 in
set_option maxRecDepth 100000 in
theorem kM_restore (l : Launch) (D : va_G) (ka : Nat → ClassId) (ad : Nat → Nat) (F : FT) (R : RT) (J : JT)  (K : Int32 → FT → RT → JT → Prop) (h : qM_restore F R J  K) : MI l D ka yX10_restore cX10_restore 2 (some .int) 1 0 0 [.ref (ad 20)] (wM ad ka F R J) (fun z w => ∃ F R J, w = wM ad ka F R J ∧ K z F R J) := MI_of (by decide) (Nat.le_of_ble_eq_true rfl) (fun X C hroom hret => bM_restore C hret F R J  h)
set_option maxHeartbeats 4000000 in
set_option maxRecDepth 100000 in
theorem miX10_restore : MInf yX10_restore cX10_restore 2 (some .int) 0 := ⟨(gw_of tw5_106 rfl), (gw_of tw5_107 rfl), (gw_of tw1_6 rfl), (gw_of tw5_108 rfl), by decide +kernel, by decide⟩

def qM_isSheet (F : FT) (R : RT) (J : JT) (a1 : Int32) (K : Int32 → FT → RT → JT → Prop) : Prop :=
  qM_in F R J a1.toInt64 (0 : Int64) (3 : Int64) (fun r1 F1 R1 J1 => isB r1 ∧ K r1 F1 R1 J1)
set_option maxHeartbeats 4000000 in
set_option maxRecDepth 100000 in
theorem bM_isSheet {X : XT} {ka : Nat → ClassId} {ad : Nat → Nat} (C : Cx X cX10_isSheet 1 RX10 (some .boolean) ka 2) {K : Int32 → FT → RT → JT → Prop} (hret : RetI X cX10_isSheet .boolean 0 0 (fun z w => ∃ F R J, w = wM ad ka F R J ∧ K z F R J)) (F : FT) (R : RT) (J : JT) (a1 : Int32) (h : qM_isSheet F R J a1 K) : G X 0 0 (wM ad ka F R J) 0 [(0, .int a1)] [] := by
  unfold qM_isSheet at h
  refine g_iload_n C 0 dX10_isSheet_0 rfl ?_
  refine g_i2l C dX10_isSheet_1 ?_
  refine g_lconst C (0 : Int64) dX10_isSheet_2 rfl ?_
  refine g_ldc2 C (gw_of tw4_168 rfl) dX10_isSheet_3 ?_
  refine g_callSi0 C (kM_in (xL X) (xD X) ka ad _ _ _ _ _ _ _ h) siX10_in (gw_of tw4_136 rfl) (by decide) rfl rfl (Nat.le_of_ble_eq_true rfl) z00 dX10_isSheet_6 (fun r1 w hw => ?_)
  obtain ⟨F1, R1, J1, rfl, h⟩ := hw
  exact hret _ _ _ _ ⟨_, _, _, rfl, h.2⟩ (nar_B h.1) dX10_isSheet_9
set_option maxHeartbeats 4000000 in
set_option maxRecDepth 100000 in
theorem kM_isSheet (l : Launch) (D : va_G) (ka : Nat → ClassId) (ad : Nat → Nat) (F : FT) (R : RT) (J : JT) (a1 : Int32) (K : Int32 → FT → RT → JT → Prop) (h : qM_isSheet F R J a1 K) : MI l D ka yX10_isSheet cX10_isSheet 1 (some .boolean) 2 0 0 [.int a1] (wM ad ka F R J) (fun z w => ∃ F R J, w = wM ad ka F R J ∧ K z F R J) := MI_of (by decide) (Nat.le_of_ble_eq_true rfl) (fun X C hroom hret => bM_isSheet C hret F R J a1 h)
set_option maxHeartbeats 4000000 in
set_option maxRecDepth 100000 in
theorem siX10_isSheet : SInf yX10_isSheet cX10_isSheet 1 (some .boolean) 1 := ⟨(gw_of tw5_114 rfl), (gw_of tw1_6 rfl), (gw_of tw5_115 rfl), by decide +kernel, by decide⟩

def qM_isLane (F : FT) (R : RT) (J : JT) (a1 : Int32) (K : Int32 → FT → RT → JT → Prop) : Prop :=
  qM_in F R J a1.toInt64 (0 : Int64) (3 : Int64) (fun r1 F1 R1 J1 => isB r1 ∧ K r1 F1 R1 J1)
set_option maxHeartbeats 4000000 in
set_option maxRecDepth 100000 in
theorem bM_isLane {X : XT} {ka : Nat → ClassId} {ad : Nat → Nat} (C : Cx X cX10_isLane 1 RX10 (some .boolean) ka 2) {K : Int32 → FT → RT → JT → Prop} (hret : RetI X cX10_isLane .boolean 0 0 (fun z w => ∃ F R J, w = wM ad ka F R J ∧ K z F R J)) (F : FT) (R : RT) (J : JT) (a1 : Int32) (h : qM_isLane F R J a1 K) : G X 0 0 (wM ad ka F R J) 0 [(0, .int a1)] [] := by
  unfold qM_isLane at h
  refine g_iload_n C 0 dX10_isLane_0 rfl ?_
  refine g_i2l C dX10_isLane_1 ?_
  refine g_lconst C (0 : Int64) dX10_isLane_2 rfl ?_
  refine g_ldc2 C (gw_of tw4_168 rfl) dX10_isLane_3 ?_
  refine g_callSi0 C (kM_in (xL X) (xD X) ka ad _ _ _ _ _ _ _ h) siX10_in (gw_of tw4_136 rfl) (by decide) rfl rfl (Nat.le_of_ble_eq_true rfl) z00 dX10_isLane_6 (fun r1 w hw => ?_)
  obtain ⟨F1, R1, J1, rfl, h⟩ := hw
  exact hret _ _ _ _ ⟨_, _, _, rfl, h.2⟩ (nar_B h.1) dX10_isLane_9
set_option maxHeartbeats 4000000 in
set_option maxRecDepth 100000 in
theorem kM_isLane (l : Launch) (D : va_G) (ka : Nat → ClassId) (ad : Nat → Nat) (F : FT) (R : RT) (J : JT) (a1 : Int32) (K : Int32 → FT → RT → JT → Prop) (h : qM_isLane F R J a1 K) : MI l D ka yX10_isLane cX10_isLane 1 (some .boolean) 2 0 0 [.int a1] (wM ad ka F R J) (fun z w => ∃ F R J, w = wM ad ka F R J ∧ K z F R J) := MI_of (by decide) (Nat.le_of_ble_eq_true rfl) (fun X C hroom hret => bM_isLane C hret F R J a1 h)
set_option maxHeartbeats 4000000 in
set_option maxRecDepth 100000 in
theorem siX10_isLane : SInf yX10_isLane cX10_isLane 1 (some .boolean) 1 := ⟨(gw_of tw5_117 rfl), (gw_of tw1_6 rfl), (gw_of tw5_118 rfl), by decide +kernel, by decide⟩

def qM_why (F : FT) (R : RT) (J : JT) (a1 : Int32) (a2 : Int32) (a3 : Int32) (a4 : Int32) (K : Int32 → FT → RT → JT → Prop) : Prop :=
  (vp_in a1 4) ∧ ((0 ≤ (R 16 a1.toNatClampNeg) → ((vp_in a1 4) ∧ (((R 16 a1.toNatClampNeg) = a2 → ((a3 < 0 → (K (-13 : Int32) F R J)) ∧ (¬ a3 < 0 → ((a4 < 0 → (K (-13 : Int32) F R J)) ∧ (¬ a4 < 0 → ((vp_in a1 4) ∧ (((lg_cmp (a3.toInt64 + a4.toInt64) ((R 17 a1.toNatClampNeg).toInt64)) ≤ 0 → (K (0 : Int32) F R J)) ∧ (¬ (lg_cmp (a3.toInt64 + a4.toInt64) ((R 17 a1.toNatClampNeg).toInt64)) ≤ 0 → (K (-13 : Int32) F R J))))))))) ∧ (¬ (R 16 a1.toNatClampNeg) = a2 → (K (-12 : Int32) F R J))))) ∧ (¬ 0 ≤ (R 16 a1.toNatClampNeg) → (K (-11 : Int32) F R J)))
set_option maxHeartbeats 4000000 in
set_option maxRecDepth 100000 in
theorem bM_why {X : XT} {ka : Nat → ClassId} {ad : Nat → Nat} (C : Cx X cX10_why 5 RX10 (some .int) ka 1) {K : Int32 → FT → RT → JT → Prop} (hret : RetI X cX10_why .int 0 0 (fun z w => ∃ F R J, w = wM ad ka F R J ∧ K z F R J)) (F : FT) (R : RT) (J : JT) (a1 : Int32) (a2 : Int32) (a3 : Int32) (a4 : Int32) (h : qM_why F R J a1 a2 a3 a4 K) : G X 0 0 (wM ad ka F R J) 0 [(0, .ref (ad 20)), (1, .int a1), (2, .int a2), (3, .int a3), (4, .int a4)] [] := by
  unfold qM_why at h
  refine g_aload_n C 0 dX10_why_0 rfl ?_
  refine Mg_lanes C dX10_why_1 ?_
  refine g_iload_n C 1 dX10_why_4 rfl ?_
  refine Ma_lanes C (f := R 16) rfl _ rfl h.1 dX10_why_5 ?_
  have h := h.2
  refine g_if_ge C 12 dX10_why_6 (by decide) (fun c1 => ?_) (fun c1 => ?_)
  · have h := h.1 c1
    refine g_aload_n C 0 dX10_why_12 rfl ?_
    refine Mg_lanes C dX10_why_13 ?_
    refine g_iload_n C 1 dX10_why_16 rfl ?_
    refine Ma_lanes C (f := R 16) rfl _ rfl h.1 dX10_why_17 ?_
    have h := h.2
    refine g_iload_n C 2 dX10_why_18 rfl ?_
    refine g_icmp_eq C 25 dX10_why_19 (by decide) (fun c2 => ?_) (fun c2 => ?_)
    · have h := h.1 c2
      refine g_iload_n C 3 dX10_why_25 rfl ?_
      refine g_if_lt C 51 dX10_why_26 (by decide) (fun c3 => ?_) (fun c3 => ?_)
      · have h := h.1 c3
        refine g_bipush C (-13 : Int32) dX10_why_51 cb_m13 ?_
        refine g_goto C 57 dX10_why_53 (by decide) ?_
        exact hret _ _ _ _ ⟨_, _, _, rfl, h⟩ rfl dX10_why_57
      · have h := h.2 c3
        refine g_iload C 4 dX10_why_29 rfl ?_
        refine g_if_lt C 51 dX10_why_31 (by decide) (fun c4 => ?_) (fun c4 => ?_)
        · have h := h.1 c4
          refine g_bipush C (-13 : Int32) dX10_why_51 cb_m13 ?_
          refine g_goto C 57 dX10_why_53 (by decide) ?_
          exact hret _ _ _ _ ⟨_, _, _, rfl, h⟩ rfl dX10_why_57
        · have h := h.2 c4
          refine g_iload_n C 3 dX10_why_34 rfl ?_
          refine g_i2l C dX10_why_35 ?_
          refine g_iload C 4 dX10_why_36 rfl ?_
          refine g_i2l C dX10_why_38 ?_
          refine g_ladd C dX10_why_39 ?_
          refine g_aload_n C 0 dX10_why_40 rfl ?_
          refine Mg_sizes C dX10_why_41 ?_
          refine g_iload_n C 1 dX10_why_44 rfl ?_
          refine Ma_sizes C (f := R 17) rfl _ rfl h.1 dX10_why_45 ?_
          have h := h.2
          refine g_i2l C dX10_why_46 ?_
          refine g_lcmp C dX10_why_47 ?_
          refine g_if_le C 56 dX10_why_48 (by decide) (fun c5 => ?_) (fun c5 => ?_)
          · have h := h.1 c5
            refine g_iconst C (0 : Int32) dX10_why_56 ci_0 ?_
            exact hret _ _ _ _ ⟨_, _, _, rfl, h⟩ rfl dX10_why_57
          · have h := h.2 c5
            refine g_bipush C (-13 : Int32) dX10_why_51 cb_m13 ?_
            refine g_goto C 57 dX10_why_53 (by decide) ?_
            exact hret _ _ _ _ ⟨_, _, _, rfl, h⟩ rfl dX10_why_57
    · have h := h.2 c2
      refine g_bipush C (-12 : Int32) dX10_why_22 cb_m12 ?_
      exact hret _ _ _ _ ⟨_, _, _, rfl, h⟩ rfl dX10_why_24
  · have h := h.2 c1
    refine g_bipush C (-11 : Int32) dX10_why_9 cb_m11 ?_
    exact hret _ _ _ _ ⟨_, _, _, rfl, h⟩ rfl dX10_why_11
set_option maxHeartbeats 4000000 in
set_option maxRecDepth 100000 in
theorem kM_why (l : Launch) (D : va_G) (ka : Nat → ClassId) (ad : Nat → Nat) (F : FT) (R : RT) (J : JT) (a1 : Int32) (a2 : Int32) (a3 : Int32) (a4 : Int32) (K : Int32 → FT → RT → JT → Prop) (h : qM_why F R J a1 a2 a3 a4 K) : MI l D ka yX10_why cX10_why 5 (some .int) 1 0 0 [.ref (ad 20), .int a1, .int a2, .int a3, .int a4] (wM ad ka F R J) (fun z w => ∃ F R J, w = wM ad ka F R J ∧ K z F R J) := MI_of (by decide) (Nat.le_of_ble_eq_true rfl) (fun X C hroom hret => bM_why C hret F R J a1 a2 a3 a4 h)
set_option maxHeartbeats 4000000 in
set_option maxRecDepth 100000 in
theorem miX10_why : MInf yX10_why cX10_why 5 (some .int) 4 := ⟨(gw_of tw5_123 rfl), (gw_of tp_yX10_why rfl), (gw_of tw1_6 rfl), (gw_of tw5_124 rfl), by decide +kernel, by decide⟩

def qM_weather_242 (F : FT) (R : RT) (J : JT) (v5 : Int32) (v8 : Int32) (v9 : Int32) (K : Int32 → FT → RT → JT → Prop) : Prop :=
  (0 ≤ v5 → ((¬ v8 = 0 → (K v9 F R J)) ∧ (v8 = 0 → (K (0 : Int32) F R J)))) ∧ (¬ 0 ≤ v5 → (K v8 F R J))
set_option maxHeartbeats 4000000 in
set_option maxRecDepth 100000 in
theorem lM_weather_242 {X : XT} {ka : Nat → ClassId} {ad : Nat → Nat} (C : Cx X cX10_weather 15 RX10 (some .int) ka 4) {K : Int32 → FT → RT → JT → Prop} (hret : RetI X cX10_weather .int 0 0 (fun z w => ∃ F R J, w = wM ad ka F R J ∧ K z F R J)) (F : FT) (R : RT) (J : JT) (v5 : Int32) (v8 : Int32) (v9 : Int32) (h : qM_weather_242 F R J v5 v8 v9 K) : G X 0 0 (wM ad ka F R J) 242 [(5, .int v5), (8, .int v8), (9, .int v9)] [] := by
  unfold qM_weather_242 at h
  refine g_iload C 0 dX10_weather_242 rfl ?_
  refine g_if_ge C 252 dX10_weather_244 (by decide) (fun c1 => ?_) (fun c1 => ?_)
  · have h := h.1 c1
    refine g_iload C 1 dX10_weather_252 rfl ?_
    refine g_if_ne C 261 dX10_weather_254 (by decide) (fun c2 => ?_) (fun c2 => ?_)
    · have h := h.1 c2
      refine g_iload C 2 dX10_weather_261 rfl ?_
      exact hret _ _ _ _ ⟨_, _, _, rfl, h⟩ rfl dX10_weather_263
    · have h := h.2 c2
      refine g_iconst C (0 : Int32) dX10_weather_257 ci_0 ?_
      refine g_goto C 263 dX10_weather_258 (by decide) ?_
      exact hret _ _ _ _ ⟨_, _, _, rfl, h⟩ rfl dX10_weather_263
  · have h := h.2 c1
    refine g_iload C 1 dX10_weather_247 rfl ?_
    refine g_goto C 263 dX10_weather_249 (by decide) ?_
    exact hret _ _ _ _ ⟨_, _, _, rfl, h⟩ rfl dX10_weather_263
def qM_weather_234 (k105 : FT → RT → JT → Int32 → Int32 → Int32 → Int32 → Int32 → Int32 → Int32 → Int32 → Prop) (F : FT) (R : RT) (J : JT) (v1 : Int32) (v3 : Int32) (v4 : Int32) (v5 : Int32) (v8 : Int32) (v9 : Int32) (v10 : Int32) (s0 : Int32) (K : Int32 → FT → RT → JT → Prop) : Prop :=
  k105 F R J v1 v3 v4 v5 s0 v8 v9 (v10 + (1 : Int32))
set_option maxHeartbeats 4000000 in
set_option maxRecDepth 100000 in
theorem lM_weather_234 {X : XT} {ka : Nat → ClassId} {ad : Nat → Nat} (C : Cx X cX10_weather 15 RX10 (some .int) ka 4) {K : Int32 → FT → RT → JT → Prop} (hret : RetI X cX10_weather .int 0 0 (fun z w => ∃ F R J, w = wM ad ka F R J ∧ K z F R J)) {k105 : FT → RT → JT → Int32 → Int32 → Int32 → Int32 → Int32 → Int32 → Int32 → Int32 → Prop} (hk105 : ∀ (F : FT) (R : RT) (J : JT) (v1 : Int32) (v3 : Int32) (v4 : Int32) (v5 : Int32) (v7 : Int32) (v8 : Int32) (v9 : Int32) (v10 : Int32), k105 F R J v1 v3 v4 v5 v7 v8 v9 v10 → G X 0 0 (wM ad ka F R J) 105 [(0, .ref (ad 20)), (1, .int v1), (3, .int v3), (4, .int v4), (5, .int v5), (7, .int v7), (8, .int v8), (9, .int v9), (10, .int v10)] []) (F : FT) (R : RT) (J : JT) (v1 : Int32) (v3 : Int32) (v4 : Int32) (v5 : Int32) (v8 : Int32) (v9 : Int32) (v10 : Int32) (s0 : Int32) (h : qM_weather_234 k105 F R J v1 v3 v4 v5 v8 v9 v10 s0 K) : G X 0 0 (wM ad ka F R J) 234 [(0, .ref (ad 20)), (1, .int v1), (3, .int v3), (4, .int v4), (5, .int v5), (8, .int v8), (9, .int v9), (10, .int v10)] [.int s0] := by
  unfold qM_weather_234 at h
  refine g_istore C [(7, .int s0), (0, .ref (ad 20)), (1, .int v1), (3, .int v3), (4, .int v4), (5, .int v5), (8, .int v8), (9, .int v9), (10, .int v10)] dX10_weather_234 (by decide) rfl ?_
  refine g_iinc C 8 (v10 + (1 : Int32)) [(10, .int (v10 + (1 : Int32))), (7, .int s0), (0, .ref (ad 20)), (1, .int v1), (3, .int v3), (4, .int v4), (5, .int v5), (8, .int v8), (9, .int v9)] dX10_weather_236 rfl (by rw [ci_1]) (by decide) rfl ?_
  refine g_goto C 105 dX10_weather_239 (by decide) ?_
  exact g_lv [2, 3, 4, 5, 6, 1, 7, 8, 0] rfl (hk105 _ _ _ _ _ _ _ _ _ _ _ h)
def qM_weather_209 (k105 : FT → RT → JT → Int32 → Int32 → Int32 → Int32 → Int32 → Int32 → Int32 → Int32 → Prop) (F : FT) (R : RT) (J : JT) (v1 : Int32) (v3 : Int32) (v4 : Int32) (v5 : Int32) (v7 : Int32) (v8 : Int32) (v10 : Int32) (v11 : Int64) (v13 : Int32) (s0 : Int32) (K : Int32 → FT → RT → JT → Prop) : Prop :=
  qM_many F R J v13 (fun r1 F1 R1 J1 => ((v8 * r1) ≤ 0 → (qM_weather_234 k105 F1 R1 J1 v1 v3 v4 v5 (v8 * r1) s0 v10 v7 K)) ∧ (¬ (v8 * r1) ≤ 0 → (qM_weather_234 k105 F1 R1 J1 v1 v3 v4 v5 (v8 * r1) s0 v10 v11.toInt32 K)))
set_option maxHeartbeats 4000000 in
set_option maxRecDepth 100000 in
theorem lM_weather_209 {X : XT} {ka : Nat → ClassId} {ad : Nat → Nat} (C : Cx X cX10_weather 15 RX10 (some .int) ka 4) {K : Int32 → FT → RT → JT → Prop} (hret : RetI X cX10_weather .int 0 0 (fun z w => ∃ F R J, w = wM ad ka F R J ∧ K z F R J)) {k105 : FT → RT → JT → Int32 → Int32 → Int32 → Int32 → Int32 → Int32 → Int32 → Int32 → Prop} (hk105 : ∀ (F : FT) (R : RT) (J : JT) (v1 : Int32) (v3 : Int32) (v4 : Int32) (v5 : Int32) (v7 : Int32) (v8 : Int32) (v9 : Int32) (v10 : Int32), k105 F R J v1 v3 v4 v5 v7 v8 v9 v10 → G X 0 0 (wM ad ka F R J) 105 [(0, .ref (ad 20)), (1, .int v1), (3, .int v3), (4, .int v4), (5, .int v5), (7, .int v7), (8, .int v8), (9, .int v9), (10, .int v10)] []) (F : FT) (R : RT) (J : JT) (v1 : Int32) (v3 : Int32) (v4 : Int32) (v5 : Int32) (v7 : Int32) (v8 : Int32) (v10 : Int32) (v11 : Int64) (v13 : Int32) (s0 : Int32) (h : qM_weather_209 k105 F R J v1 v3 v4 v5 v7 v8 v10 v11 v13 s0 K) : G X 0 0 (wM ad ka F R J) 209 [(0, .ref (ad 20)), (1, .int v1), (3, .int v3), (4, .int v4), (5, .int v5), (7, .int v7), (8, .int v8), (10, .int v10), (11, .long v11), (13, .int v13)] [.int s0] := by
  unfold qM_weather_209 at h
  refine g_istore C [(9, .int s0), (0, .ref (ad 20)), (1, .int v1), (3, .int v3), (4, .int v4), (5, .int v5), (7, .int v7), (8, .int v8), (10, .int v10), (11, .long v11), (13, .int v13)] dX10_weather_209 (by decide) rfl ?_
  refine g_iload C 7 dX10_weather_211 rfl ?_
  refine g_iload C 10 dX10_weather_213 rfl ?_
  refine g_callSi0 C (kM_many (xL X) (xD X) ka ad _ _ _ _ _ h) siX10_many (gw_of tw5_82 rfl) (by decide) rfl rfl (Nat.le_of_ble_eq_true rfl) z00 dX10_weather_215 (fun r1 w hw => ?_)
  obtain ⟨F1, R1, J1, rfl, h⟩ := hw
  refine g_imul C dX10_weather_218 ?_
  refine g_istore C [(8, .int (v8 * r1)), (9, .int s0), (0, .ref (ad 20)), (1, .int v1), (3, .int v3), (4, .int v4), (5, .int v5), (7, .int v7), (10, .int v10), (11, .long v11), (13, .int v13)] dX10_weather_219 (by decide) rfl ?_
  refine g_iload C 0 dX10_weather_221 rfl ?_
  refine g_if_le C 232 dX10_weather_223 (by decide) (fun c2 => ?_) (fun c2 => ?_)
  · have h := h.1 c2
    refine g_iload C 7 dX10_weather_232 rfl ?_
    exact g_lv [2, 3, 4, 5, 6, 0, 1, 8] rfl (lM_weather_234 C hret hk105 _ _ _ _ _ _ _ _ _ _ _ h)
  · have h := h.2 c2
    refine g_lload C 9 dX10_weather_226 rfl ?_
    refine g_l2i C dX10_weather_228 ?_
    refine g_goto C 234 dX10_weather_229 (by decide) ?_
    exact g_lv [2, 3, 4, 5, 6, 0, 1, 8] rfl (lM_weather_234 C hret hk105 _ _ _ _ _ _ _ _ _ _ _ h)
def qM_weather_186 (k105 : FT → RT → JT → Int32 → Int32 → Int32 → Int32 → Int32 → Int32 → Int32 → Int32 → Prop) (k139 : FT → RT → JT → Int32 → Int32 → Int32 → Int32 → Int32 → Int32 → Int32 → Int32 → Int64 → Int32 → Int32 → Prop) (F : FT) (R : RT) (J : JT) (v1 : Int32) (v3 : Int32) (v4 : Int32) (v5 : Int32) (v7 : Int32) (v8 : Int32) (v9 : Int32) (v10 : Int32) (v11 : Int64) (v14 : Int32) (s0 : Int32) (s1 : Int32) (K : Int32 → FT → RT → JT → Prop) : Prop :=
  k139 F R J v1 v3 v4 v5 v7 v8 v9 v10 v11 (s1 ||| s0) (v14 + (1 : Int32))
set_option maxHeartbeats 4000000 in
set_option maxRecDepth 100000 in
theorem lM_weather_186 {X : XT} {ka : Nat → ClassId} {ad : Nat → Nat} (C : Cx X cX10_weather 15 RX10 (some .int) ka 4) {K : Int32 → FT → RT → JT → Prop} (hret : RetI X cX10_weather .int 0 0 (fun z w => ∃ F R J, w = wM ad ka F R J ∧ K z F R J)) {k105 : FT → RT → JT → Int32 → Int32 → Int32 → Int32 → Int32 → Int32 → Int32 → Int32 → Prop} {k139 : FT → RT → JT → Int32 → Int32 → Int32 → Int32 → Int32 → Int32 → Int32 → Int32 → Int64 → Int32 → Int32 → Prop} (hk105 : ∀ (F : FT) (R : RT) (J : JT) (v1 : Int32) (v3 : Int32) (v4 : Int32) (v5 : Int32) (v7 : Int32) (v8 : Int32) (v9 : Int32) (v10 : Int32), k105 F R J v1 v3 v4 v5 v7 v8 v9 v10 → G X 0 0 (wM ad ka F R J) 105 [(0, .ref (ad 20)), (1, .int v1), (3, .int v3), (4, .int v4), (5, .int v5), (7, .int v7), (8, .int v8), (9, .int v9), (10, .int v10)] []) (hk139 : ∀ (F : FT) (R : RT) (J : JT) (v1 : Int32) (v3 : Int32) (v4 : Int32) (v5 : Int32) (v7 : Int32) (v8 : Int32) (v9 : Int32) (v10 : Int32) (v11 : Int64) (v13 : Int32) (v14 : Int32), k139 F R J v1 v3 v4 v5 v7 v8 v9 v10 v11 v13 v14 → G X 0 0 (wM ad ka F R J) 139 [(0, .ref (ad 20)), (1, .int v1), (3, .int v3), (4, .int v4), (5, .int v5), (7, .int v7), (8, .int v8), (9, .int v9), (10, .int v10), (11, .long v11), (13, .int v13), (14, .int v14)] []) (F : FT) (R : RT) (J : JT) (v1 : Int32) (v3 : Int32) (v4 : Int32) (v5 : Int32) (v7 : Int32) (v8 : Int32) (v9 : Int32) (v10 : Int32) (v11 : Int64) (v14 : Int32) (s0 : Int32) (s1 : Int32) (h : qM_weather_186 k105 k139 F R J v1 v3 v4 v5 v7 v8 v9 v10 v11 v14 s0 s1 K) : G X 0 0 (wM ad ka F R J) 186 [(0, .ref (ad 20)), (1, .int v1), (3, .int v3), (4, .int v4), (5, .int v5), (7, .int v7), (8, .int v8), (9, .int v9), (10, .int v10), (11, .long v11), (14, .int v14)] [.int s0, .int s1] := by
  unfold qM_weather_186 at h
  refine g_ior C dX10_weather_186 ?_
  refine g_istore C [(13, .int (s1 ||| s0)), (0, .ref (ad 20)), (1, .int v1), (3, .int v3), (4, .int v4), (5, .int v5), (7, .int v7), (8, .int v8), (9, .int v9), (10, .int v10), (11, .long v11), (14, .int v14)] dX10_weather_187 (by decide) rfl ?_
  refine g_iinc C 11 (v14 + (1 : Int32)) [(14, .int (v14 + (1 : Int32))), (13, .int (s1 ||| s0)), (0, .ref (ad 20)), (1, .int v1), (3, .int v3), (4, .int v4), (5, .int v5), (7, .int v7), (8, .int v8), (9, .int v9), (10, .int v10), (11, .long v11)] dX10_weather_189 rfl (by rw [ci_1]) (by decide) rfl ?_
  refine g_goto C 139 dX10_weather_192 (by decide) ?_
  exact g_lv [2, 3, 4, 5, 6, 7, 8, 9, 10, 11, 1, 0] rfl (hk139 _ _ _ _ _ _ _ _ _ _ _ _ _ _ h)
def qM_weather_168 (k105 : FT → RT → JT → Int32 → Int32 → Int32 → Int32 → Int32 → Int32 → Int32 → Int32 → Prop) (k139 : FT → RT → JT → Int32 → Int32 → Int32 → Int32 → Int32 → Int32 → Int32 → Int32 → Int64 → Int32 → Int32 → Prop) (F : FT) (R : RT) (J : JT) (v1 : Int32) (v3 : Int32) (v4 : Int32) (v5 : Int32) (v7 : Int32) (v8 : Int32) (v9 : Int32) (v10 : Int32) (v11 : Int64) (v14 : Int32) (s0 : Int32) (s1 : Int32) (s2 : Int32) (s4 : Int32) (K : Int32 → FT → RT → JT → Prop) : Prop :=
  qM_behind F R J s2 s1 s0 (fun r1 F1 R1 J1 => (¬ (lg_cmp r1.toInt64 v11) = 0 → (qM_weather_186 k105 k139 F1 R1 J1 v1 v3 v4 v5 v7 v8 v9 v10 v11 v14 (0 : Int32) s4 K)) ∧ ((lg_cmp r1.toInt64 v11) = 0 → (qM_weather_186 k105 k139 F1 R1 J1 v1 v3 v4 v5 v7 v8 v9 v10 v11 v14 ((1 : Int32) <<< (v14 &&& 31)) s4 K)))
set_option maxHeartbeats 4000000 in
set_option maxRecDepth 100000 in
theorem lM_weather_168 {X : XT} {ka : Nat → ClassId} {ad : Nat → Nat} (C : Cx X cX10_weather 15 RX10 (some .int) ka 4) {K : Int32 → FT → RT → JT → Prop} (hret : RetI X cX10_weather .int 0 0 (fun z w => ∃ F R J, w = wM ad ka F R J ∧ K z F R J)) {k105 : FT → RT → JT → Int32 → Int32 → Int32 → Int32 → Int32 → Int32 → Int32 → Int32 → Prop} {k139 : FT → RT → JT → Int32 → Int32 → Int32 → Int32 → Int32 → Int32 → Int32 → Int32 → Int64 → Int32 → Int32 → Prop} (hk105 : ∀ (F : FT) (R : RT) (J : JT) (v1 : Int32) (v3 : Int32) (v4 : Int32) (v5 : Int32) (v7 : Int32) (v8 : Int32) (v9 : Int32) (v10 : Int32), k105 F R J v1 v3 v4 v5 v7 v8 v9 v10 → G X 0 0 (wM ad ka F R J) 105 [(0, .ref (ad 20)), (1, .int v1), (3, .int v3), (4, .int v4), (5, .int v5), (7, .int v7), (8, .int v8), (9, .int v9), (10, .int v10)] []) (hk139 : ∀ (F : FT) (R : RT) (J : JT) (v1 : Int32) (v3 : Int32) (v4 : Int32) (v5 : Int32) (v7 : Int32) (v8 : Int32) (v9 : Int32) (v10 : Int32) (v11 : Int64) (v13 : Int32) (v14 : Int32), k139 F R J v1 v3 v4 v5 v7 v8 v9 v10 v11 v13 v14 → G X 0 0 (wM ad ka F R J) 139 [(0, .ref (ad 20)), (1, .int v1), (3, .int v3), (4, .int v4), (5, .int v5), (7, .int v7), (8, .int v8), (9, .int v9), (10, .int v10), (11, .long v11), (13, .int v13), (14, .int v14)] []) (F : FT) (R : RT) (J : JT) (v1 : Int32) (v3 : Int32) (v4 : Int32) (v5 : Int32) (v7 : Int32) (v8 : Int32) (v9 : Int32) (v10 : Int32) (v11 : Int64) (v14 : Int32) (s0 : Int32) (s1 : Int32) (s2 : Int32) (s4 : Int32) (h : qM_weather_168 k105 k139 F R J v1 v3 v4 v5 v7 v8 v9 v10 v11 v14 s0 s1 s2 s4 K) : G X 0 0 (wM ad ka F R J) 168 [(0, .ref (ad 20)), (1, .int v1), (3, .int v3), (4, .int v4), (5, .int v5), (7, .int v7), (8, .int v8), (9, .int v9), (10, .int v10), (11, .long v11), (14, .int v14)] [.int s0, .int s1, .int s2, .ref (ad 20), .int s4] := by
  unfold qM_weather_168 at h
  refine g_callVi0 C (kM_behind (xL X) (xD X) ka ad _ _ _ _ _ _ _ h) miX10_behind (gw_of tw5_0 rfl) (by decide) wM_at rfl rfl rfl (Nat.le_of_ble_eq_true rfl) z00 dX10_weather_168 (fun r1 w hw => ?_)
  obtain ⟨F1, R1, J1, rfl, h⟩ := hw
  refine g_i2l C dX10_weather_171 ?_
  refine g_lload C 9 dX10_weather_172 rfl ?_
  refine g_lcmp C dX10_weather_174 ?_
  refine g_if_ne C 185 dX10_weather_175 (by decide) (fun c2 => ?_) (fun c2 => ?_)
  · have h := h.1 c2
    refine g_iconst C (0 : Int32) dX10_weather_185 ci_0 ?_
    exact g_lv [0, 1, 2, 3, 4, 5, 6, 7, 8, 9, 10] rfl (lM_weather_186 C hret hk105 hk139 _ _ _ _ _ _ _ _ _ _ _ _ _ _ _ h)
  · have h := h.2 c2
    refine g_iconst C (1 : Int32) dX10_weather_178 ci_1 ?_
    refine g_iload C 10 dX10_weather_179 rfl ?_
    refine g_ishl C dX10_weather_181 ?_
    refine g_goto C 186 dX10_weather_182 (by decide) ?_
    exact g_lv [0, 1, 2, 3, 4, 5, 6, 7, 8, 9, 10] rfl (lM_weather_186 C hret hk105 hk139 _ _ _ _ _ _ _ _ _ _ _ _ _ _ _ h)
def qM_weather_139 : Nat → (FT → RT → JT → Int32 → Int32 → Int32 → Int32 → Int32 → Int32 → Int32 → Int32 → Prop) → FT → RT → JT → Int32 → Int32 → Int32 → Int32 → Int32 → Int32 → Int32 → Int32 → Int64 → Int32 → Int32 → (Int32 → FT → RT → JT → Prop) → Prop
  | 0, _, _, _, _, _, _, _, _, _, _, _, _, _, _, _ => fun _ => False
  | n139 + 1, k105, F, R, J, v1, v3, v4, v5, v7, v8, v9, v10, v11, v13, v14 => fun K => ((3 : Int32) ≤ v14 → ((¬ v10 = v5 → (qM_weather_209 k105 F R J v1 v3 v4 v5 v7 v8 v10 v11 v13 v9 K)) ∧ (v10 = v5 → (qM_weather_209 k105 F R J v1 v3 v4 v5 v7 v8 v10 v11 v13 v13 K)))) ∧ (¬ (3 : Int32) ≤ v14 → ((¬ v10 = 0 → (qM_weather_168 k105 (fun F R J v1 v3 v4 v5 v7 v8 v9 v10 v11 v13 v14 => qM_weather_139 n139 k105 F R J v1 v3 v4 v5 v7 v8 v9 v10 v11 v13 v14 K) F R J v1 v3 v4 v5 v7 v8 v9 v10 v11 v14 (0 : Int32) v7 v14 v13 K)) ∧ (v10 = 0 → (qM_weather_168 k105 (fun F R J v1 v3 v4 v5 v7 v8 v9 v10 v11 v13 v14 => qM_weather_139 n139 k105 F R J v1 v3 v4 v5 v7 v8 v9 v10 v11 v13 v14 K) F R J v1 v3 v4 v5 v7 v8 v9 v10 v11 v14 (R 0 9) v7 v14 v13 K))))
set_option maxHeartbeats 4000000 in
set_option maxRecDepth 100000 in
theorem lM_weather_139 {X : XT} {ka : Nat → ClassId} {ad : Nat → Nat} (C : Cx X cX10_weather 15 RX10 (some .int) ka 4) {K : Int32 → FT → RT → JT → Prop} (hret : RetI X cX10_weather .int 0 0 (fun z w => ∃ F R J, w = wM ad ka F R J ∧ K z F R J)) {k105 : FT → RT → JT → Int32 → Int32 → Int32 → Int32 → Int32 → Int32 → Int32 → Int32 → Prop} (hk105 : ∀ (F : FT) (R : RT) (J : JT) (v1 : Int32) (v3 : Int32) (v4 : Int32) (v5 : Int32) (v7 : Int32) (v8 : Int32) (v9 : Int32) (v10 : Int32), k105 F R J v1 v3 v4 v5 v7 v8 v9 v10 → G X 0 0 (wM ad ka F R J) 105 [(0, .ref (ad 20)), (1, .int v1), (3, .int v3), (4, .int v4), (5, .int v5), (7, .int v7), (8, .int v8), (9, .int v9), (10, .int v10)] []) : ∀ (n : Nat) (F : FT) (R : RT) (J : JT) (v1 : Int32) (v3 : Int32) (v4 : Int32) (v5 : Int32) (v7 : Int32) (v8 : Int32) (v9 : Int32) (v10 : Int32) (v11 : Int64) (v13 : Int32) (v14 : Int32), qM_weather_139 n k105 F R J v1 v3 v4 v5 v7 v8 v9 v10 v11 v13 v14 K → G X 0 0 (wM ad ka F R J) 139 [(0, .ref (ad 20)), (1, .int v1), (3, .int v3), (4, .int v4), (5, .int v5), (7, .int v7), (8, .int v8), (9, .int v9), (10, .int v10), (11, .long v11), (13, .int v13), (14, .int v14)] [] := by
  intro n
  induction n with
  | zero => intro F R J v1 v3 v4 v5 v7 v8 v9 v10 v11 v13 v14 h; exact h.elim
  | succ n ih =>
    intro F R J v1 v3 v4 v5 v7 v8 v9 v10 v11 v13 v14 h
    refine g_iload C 11 dX10_weather_139 rfl ?_
    refine g_iconst C (3 : Int32) dX10_weather_141 ci_3 ?_
    refine g_icmp_ge C 195 dX10_weather_142 (by decide) (fun c1 => ?_) (fun c1 => ?_)
    · have h := h.1 c1
      refine g_iload C 8 dX10_weather_195 rfl ?_
      refine g_iload C 4 dX10_weather_197 rfl ?_
      refine g_icmp_ne C 207 dX10_weather_199 (by decide) (fun c2 => ?_) (fun c2 => ?_)
      · have h := h.1 c2
        refine g_iload C 7 dX10_weather_207 rfl ?_
        exact g_lv [0, 1, 2, 3, 4, 5, 6, 8, 9, 10] rfl (lM_weather_209 C hret hk105 _ _ _ _ _ _ _ _ _ _ _ _ _ h)
      · have h := h.2 c2
        refine g_iload C 10 dX10_weather_202 rfl ?_
        refine g_goto C 209 dX10_weather_204 (by decide) ?_
        exact g_lv [0, 1, 2, 3, 4, 5, 6, 8, 9, 10] rfl (lM_weather_209 C hret hk105 _ _ _ _ _ _ _ _ _ _ _ _ _ h)
    · have h := h.2 c1
      refine g_iload C 10 dX10_weather_145 rfl ?_
      refine g_aload_n C 0 dX10_weather_147 rfl ?_
      refine g_iload C 11 dX10_weather_148 rfl ?_
      refine g_iload C 5 dX10_weather_150 rfl ?_
      refine g_iload C 8 dX10_weather_152 rfl ?_
      refine g_if_ne C 167 dX10_weather_154 (by decide) (fun c3 => ?_) (fun c3 => ?_)
      · have h := h.1 c3
        refine g_iconst C (0 : Int32) dX10_weather_167 ci_0 ?_
        exact g_lv [0, 1, 2, 3, 4, 5, 6, 7, 8, 9, 11] rfl (lM_weather_168 C hret hk105 (fun F R J v1 v3 v4 v5 v7 v8 v9 v10 v11 v13 v14 h => ih F R J v1 v3 v4 v5 v7 v8 v9 v10 v11 v13 v14 h) _ _ _ _ _ _ _ _ _ _ _ _ _ _ _ _ _ h)
      · have h := h.2 c3
        refine g_aload_n C 0 dX10_weather_157 rfl ?_
        refine Mg_now C dX10_weather_158 ?_
        refine g_bipush C (9 : Int32) dX10_weather_161 cb_9 ?_
        refine Ma_now C (f := R 0) rfl (9) (by decide) (vp_lit (by decide)) dX10_weather_163 ?_
        refine g_goto C 168 dX10_weather_164 (by decide) ?_
        exact g_lv [0, 1, 2, 3, 4, 5, 6, 7, 8, 9, 11] rfl (lM_weather_168 C hret hk105 (fun F R J v1 v3 v4 v5 v7 v8 v9 v10 v11 v13 v14 h => ih F R J v1 v3 v4 v5 v7 v8 v9 v10 v11 v13 v14 h) _ _ _ _ _ _ _ _ _ _ _ _ _ _ _ _ _ h)
def qM_weather_105 : Nat → FT → RT → JT → Int32 → Int32 → Int32 → Int32 → Int32 → Int32 → Int32 → Int32 → (Int32 → FT → RT → JT → Prop) → Prop
  | 0, _, _, _, _, _, _, _, _, _, _, _ => fun _ => False
  | n105 + 1, F, R, J, v1, v3, v4, v5, v7, v8, v9, v10 => fun K => (v4 ≤ v10 → (qM_weather_242 F R J v5 v8 v9 K)) ∧ (¬ v4 ≤ v10 → ((v8 ≤ 0 → (qM_weather_242 F R J v5 v8 v9 K)) ∧ (¬ v8 ≤ 0 → ((vp_in ((((24 : Int32) * v1) + v3) + v10) 96) ∧ (∃ n139, qM_weather_139 n139 (fun F R J v1 v3 v4 v5 v7 v8 v9 v10 => qM_weather_105 n105 F R J v1 v3 v4 v5 v7 v8 v9 v10 K) F R J v1 v3 v4 v5 v7 v8 v9 v10 (J 18 (((((24 : Int32) * v1) + v3) + v10).toNatClampNeg)) (0 : Int32) (0 : Int32) K)))))
set_option maxHeartbeats 4000000 in
set_option maxRecDepth 100000 in
theorem lM_weather_105 {X : XT} {ka : Nat → ClassId} {ad : Nat → Nat} (C : Cx X cX10_weather 15 RX10 (some .int) ka 4) {K : Int32 → FT → RT → JT → Prop} (hret : RetI X cX10_weather .int 0 0 (fun z w => ∃ F R J, w = wM ad ka F R J ∧ K z F R J)) : ∀ (n : Nat) (F : FT) (R : RT) (J : JT) (v1 : Int32) (v3 : Int32) (v4 : Int32) (v5 : Int32) (v7 : Int32) (v8 : Int32) (v9 : Int32) (v10 : Int32), qM_weather_105 n F R J v1 v3 v4 v5 v7 v8 v9 v10 K → G X 0 0 (wM ad ka F R J) 105 [(0, .ref (ad 20)), (1, .int v1), (3, .int v3), (4, .int v4), (5, .int v5), (7, .int v7), (8, .int v8), (9, .int v9), (10, .int v10)] [] := by
  intro n
  induction n with
  | zero => intro F R J v1 v3 v4 v5 v7 v8 v9 v10 h; exact h.elim
  | succ n ih =>
    intro F R J v1 v3 v4 v5 v7 v8 v9 v10 h
    refine g_iload C 8 dX10_weather_105 rfl ?_
    refine g_iload C 3 dX10_weather_107 rfl ?_
    refine g_icmp_ge C 242 dX10_weather_109 (by decide) (fun c1 => ?_) (fun c1 => ?_)
    · have h := h.1 c1
      exact g_lv [4, 6, 7] rfl (lM_weather_242 C hret _ _ _ _ _ _ h)
    · have h := h.2 c1
      refine g_iload C 6 dX10_weather_112 rfl ?_
      refine g_if_le C 242 dX10_weather_114 (by decide) (fun c2 => ?_) (fun c2 => ?_)
      · have h := h.1 c2
        exact g_lv [4, 6, 7] rfl (lM_weather_242 C hret _ _ _ _ _ _ h)
      · have h := h.2 c2
        refine g_aload_n C 0 dX10_weather_117 rfl ?_
        refine Mg_items C dX10_weather_118 ?_
        refine g_bipush C (24 : Int32) dX10_weather_121 cb_24 ?_
        refine g_iload_n C 1 dX10_weather_123 rfl ?_
        refine g_imul C dX10_weather_124 ?_
        refine g_iload_n C 2 dX10_weather_125 rfl ?_
        refine g_iadd C dX10_weather_126 ?_
        refine g_iload C 8 dX10_weather_127 rfl ?_
        refine g_iadd C dX10_weather_129 ?_
        refine Ma_items C (f := J 18) rfl _ rfl h.1 dX10_weather_130 ?_
        have h := h.2
        refine g_lstore C [(11, .long (J 18 (((((24 : Int32) * v1) + v3) + v10).toNatClampNeg))), (0, .ref (ad 20)), (1, .int v1), (3, .int v3), (4, .int v4), (5, .int v5), (7, .int v7), (8, .int v8), (9, .int v9), (10, .int v10)] dX10_weather_131 (by decide) rfl ?_
        refine g_iconst C (0 : Int32) dX10_weather_133 ci_0 ?_
        refine g_istore C [(13, .int (0 : Int32)), (11, .long (J 18 (((((24 : Int32) * v1) + v3) + v10).toNatClampNeg))), (0, .ref (ad 20)), (1, .int v1), (3, .int v3), (4, .int v4), (5, .int v5), (7, .int v7), (8, .int v8), (9, .int v9), (10, .int v10)] dX10_weather_134 (by decide) rfl ?_
        refine g_iconst C (0 : Int32) dX10_weather_136 ci_0 ?_
        refine g_istore C [(14, .int (0 : Int32)), (13, .int (0 : Int32)), (11, .long (J 18 (((((24 : Int32) * v1) + v3) + v10).toNatClampNeg))), (0, .ref (ad 20)), (1, .int v1), (3, .int v3), (4, .int v4), (5, .int v5), (7, .int v7), (8, .int v8), (9, .int v9), (10, .int v10)] dX10_weather_137 (by decide) rfl ?_
        obtain ⟨n1, h⟩ := h
        exact g_lv [3, 4, 5, 6, 7, 8, 9, 10, 11, 2, 1, 0] rfl (lM_weather_139 C hret (fun F R J v1 v3 v4 v5 v7 v8 v9 v10 h => ih F R J v1 v3 v4 v5 v7 v8 v9 v10 h) n1 _ _ _ _ _ _ _ _ _ _ _ _ _ _ h)
def qM_weather (F : FT) (R : RT) (J : JT) (a1 : Int32) (a2 : Int32) (a3 : Int32) (a4 : Int32) (a5 : Int32) (K : Int32 → FT → RT → JT → Prop) : Prop :=
  qM_isSheet F R J a1 (fun r1 F1 R1 J1 => (r1 = 0 → (K (-1 : Int32) F1 R1 J1)) ∧ (¬ r1 = 0 → (qM_isLane F1 R1 J1 a2 (fun r3 F3 R3 J3 => (r3 = 0 → (K (-1 : Int32) F3 R3 J3)) ∧ (¬ r3 = 0 → (qM_in F3 R3 J3 a4.toInt64 (1 : Int64) (8 : Int64) (fun r5 F5 R5 J5 => (r5 = 0 → (K (-1 : Int32) F5 R5 J5)) ∧ (¬ r5 = 0 → (qM_in F5 R5 J5 a5.toInt64 (-1 : Int64) ((a4 - (1 : Int32)).toInt64) (fun r7 F7 R7 J7 => (¬ r7 = 0 → (qM_why F7 R7 J7 a1 a2 a3 a4 (fun r9 F9 R9 J9 => (0 ≤ r9 → ((a4 ≤ ((R9 0 3) - (R9 0 6)) → (∃ n105, qM_weather_105 n105 F9 R9 J9 a1 a3 a4 a5 (R9 0 7) (1 : Int32) (0 : Int32) (0 : Int32) K)) ∧ (¬ a4 ≤ ((R9 0 3) - (R9 0 6)) → (K (-2 : Int32) F9 R9 J9)))) ∧ (¬ 0 ≤ r9 → (K r9 F9 R9 J9))))) ∧ (r7 = 0 → (K (-1 : Int32) F7 R7 J7))))))))))))
set_option maxHeartbeats 4000000 in
set_option maxRecDepth 100000 in
theorem bM_weather {X : XT} {ka : Nat → ClassId} {ad : Nat → Nat} (C : Cx X cX10_weather 15 RX10 (some .int) ka 4) {K : Int32 → FT → RT → JT → Prop} (hret : RetI X cX10_weather .int 0 0 (fun z w => ∃ F R J, w = wM ad ka F R J ∧ K z F R J)) (F : FT) (R : RT) (J : JT) (a1 : Int32) (a2 : Int32) (a3 : Int32) (a4 : Int32) (a5 : Int32) (h : qM_weather F R J a1 a2 a3 a4 a5 K) : G X 0 0 (wM ad ka F R J) 0 [(0, .ref (ad 20)), (1, .int a1), (2, .int a2), (3, .int a3), (4, .int a4), (5, .int a5)] [] := by
  unfold qM_weather at h
  refine g_iload_n C 1 dX10_weather_0 rfl ?_
  refine g_callSi0 C (kM_isSheet (xL X) (xD X) ka ad _ _ _ _ _ h) siX10_isSheet (gw_of tw5_113 rfl) (by decide) rfl rfl (Nat.le_of_ble_eq_true rfl) z00 dX10_weather_1 (fun r1 w hw => ?_)
  obtain ⟨F1, R1, J1, rfl, h⟩ := hw
  refine g_if_eq C 44 dX10_weather_4 (by decide) (fun c2 => ?_) (fun c2 => ?_)
  · have h := h.1 c2
    refine g_iconst C (-1 : Int32) dX10_weather_44 ci_m1 ?_
    exact hret _ _ _ _ ⟨_, _, _, rfl, h⟩ rfl dX10_weather_45
  · have h := h.2 c2
    refine g_iload_n C 2 dX10_weather_7 rfl ?_
    refine g_callSi0 C (kM_isLane (xL X) (xD X) ka ad _ _ _ _ _ h) siX10_isLane (gw_of tw5_116 rfl) (by decide) rfl rfl (Nat.le_of_ble_eq_true rfl) z00 dX10_weather_8 (fun r3 w hw => ?_)
    obtain ⟨F3, R3, J3, rfl, h⟩ := hw
    refine g_if_eq C 44 dX10_weather_11 (by decide) (fun c4 => ?_) (fun c4 => ?_)
    · have h := h.1 c4
      refine g_iconst C (-1 : Int32) dX10_weather_44 ci_m1 ?_
      exact hret _ _ _ _ ⟨_, _, _, rfl, h⟩ rfl dX10_weather_45
    · have h := h.2 c4
      refine g_iload C 4 dX10_weather_14 rfl ?_
      refine g_i2l C dX10_weather_16 ?_
      refine g_lconst C (1 : Int64) dX10_weather_17 rfl ?_
      refine g_ldc2 C (gw_of tw5_119 rfl) dX10_weather_18 ?_
      refine g_callSi0 C (kM_in (xL X) (xD X) ka ad _ _ _ _ _ _ _ h) siX10_in (gw_of tw4_136 rfl) (by decide) rfl rfl (Nat.le_of_ble_eq_true rfl) z00 dX10_weather_21 (fun r5 w hw => ?_)
      obtain ⟨F5, R5, J5, rfl, h⟩ := hw
      refine g_if_eq C 44 dX10_weather_24 (by decide) (fun c6 => ?_) (fun c6 => ?_)
      · have h := h.1 c6
        refine g_iconst C (-1 : Int32) dX10_weather_44 ci_m1 ?_
        exact hret _ _ _ _ ⟨_, _, _, rfl, h⟩ rfl dX10_weather_45
      · have h := h.2 c6
        refine g_iload C 5 dX10_weather_27 rfl ?_
        refine g_i2l C dX10_weather_29 ?_
        refine g_ldc2 C (gw_of tw5_120 rfl) dX10_weather_30 ?_
        refine g_iload C 4 dX10_weather_33 rfl ?_
        refine g_iconst C (1 : Int32) dX10_weather_35 ci_1 ?_
        refine g_isub C dX10_weather_36 ?_
        refine g_i2l C dX10_weather_37 ?_
        refine g_callSi0 C (kM_in (xL X) (xD X) ka ad _ _ _ _ _ _ _ h) siX10_in (gw_of tw4_136 rfl) (by decide) rfl rfl (Nat.le_of_ble_eq_true rfl) z00 dX10_weather_38 (fun r7 w hw => ?_)
        obtain ⟨F7, R7, J7, rfl, h⟩ := hw
        refine g_if_ne C 46 dX10_weather_41 (by decide) (fun c8 => ?_) (fun c8 => ?_)
        · have h := h.1 c8
          refine g_aload_n C 0 dX10_weather_46 rfl ?_
          refine g_iload_n C 1 dX10_weather_47 rfl ?_
          refine g_iload_n C 2 dX10_weather_48 rfl ?_
          refine g_iload_n C 3 dX10_weather_49 rfl ?_
          refine g_iload C 4 dX10_weather_50 rfl ?_
          refine g_callVi0 C (kM_why (xL X) (xD X) ka ad _ _ _ _ _ _ _ _ h) miX10_why (gw_of tw5_121 rfl) (by decide) wM_at rfl rfl rfl (Nat.le_of_ble_eq_true rfl) z00 dX10_weather_52 (fun r9 w hw => ?_)
          obtain ⟨F9, R9, J9, rfl, h⟩ := hw
          refine g_istore C [(6, .int r9), (0, .ref (ad 20)), (1, .int a1), (2, .int a2), (3, .int a3), (4, .int a4), (5, .int a5)] dX10_weather_55 (by decide) rfl ?_
          refine g_iload C 0 dX10_weather_57 rfl ?_
          refine g_if_ge C 65 dX10_weather_59 (by decide) (fun c10 => ?_) (fun c10 => ?_)
          · have h := h.1 c10
            refine g_iload C 5 dX10_weather_65 rfl ?_
            refine g_aload_n C 1 dX10_weather_67 rfl ?_
            refine Mg_now C dX10_weather_68 ?_
            refine g_iconst C (3 : Int32) dX10_weather_71 ci_3 ?_
            refine Ma_now C (f := R9 0) rfl (3) (by decide) (vp_lit (by decide)) dX10_weather_72 ?_
            refine g_aload_n C 1 dX10_weather_73 rfl ?_
            refine Mg_now C dX10_weather_74 ?_
            refine g_bipush C (6 : Int32) dX10_weather_77 cb_6 ?_
            refine Ma_now C (f := R9 0) rfl (6) (by decide) (vp_lit (by decide)) dX10_weather_79 ?_
            refine g_isub C dX10_weather_80 ?_
            refine g_icmp_le C 87 dX10_weather_81 (by decide) (fun c11 => ?_) (fun c11 => ?_)
            · have h := h.1 c11
              refine g_aload_n C 1 dX10_weather_87 rfl ?_
              refine Mg_now C dX10_weather_88 ?_
              refine g_bipush C (7 : Int32) dX10_weather_91 cb_7 ?_
              refine Ma_now C (f := R9 0) rfl (7) (by decide) (vp_lit (by decide)) dX10_weather_93 ?_
              refine g_istore C [(7, .int (R9 0 7)), (6, .int r9), (0, .ref (ad 20)), (1, .int a1), (2, .int a2), (3, .int a3), (4, .int a4), (5, .int a5)] dX10_weather_94 (by decide) rfl ?_
              refine g_iconst C (1 : Int32) dX10_weather_96 ci_1 ?_
              refine g_istore C [(8, .int (1 : Int32)), (7, .int (R9 0 7)), (6, .int r9), (0, .ref (ad 20)), (1, .int a1), (2, .int a2), (3, .int a3), (4, .int a4), (5, .int a5)] dX10_weather_97 (by decide) rfl ?_
              refine g_iconst C (0 : Int32) dX10_weather_99 ci_0 ?_
              refine g_istore C [(9, .int (0 : Int32)), (8, .int (1 : Int32)), (7, .int (R9 0 7)), (6, .int r9), (0, .ref (ad 20)), (1, .int a1), (2, .int a2), (3, .int a3), (4, .int a4), (5, .int a5)] dX10_weather_100 (by decide) rfl ?_
              refine g_iconst C (0 : Int32) dX10_weather_102 ci_0 ?_
              refine g_istore C [(10, .int (0 : Int32)), (9, .int (0 : Int32)), (8, .int (1 : Int32)), (7, .int (R9 0 7)), (6, .int r9), (0, .ref (ad 20)), (1, .int a1), (2, .int a2), (3, .int a3), (4, .int a4), (5, .int a5)] dX10_weather_103 (by decide) rfl ?_
              obtain ⟨n1, h⟩ := h
              exact g_lv [5, 6, 8, 9, 10, 3, 2, 1, 0] rfl (lM_weather_105 C hret n1 _ _ _ _ _ _ _ _ _ _ _ h)
            · have h := h.2 c11
              refine g_bipush C (-2 : Int32) dX10_weather_84 cb_m2 ?_
              exact hret _ _ _ _ ⟨_, _, _, rfl, h⟩ rfl dX10_weather_86
          · have h := h.2 c10
            refine g_iload C 0 dX10_weather_62 rfl ?_
            exact hret _ _ _ _ ⟨_, _, _, rfl, h⟩ rfl dX10_weather_64
        · have h := h.2 c8
          refine g_iconst C (-1 : Int32) dX10_weather_44 ci_m1 ?_
          exact hret _ _ _ _ ⟨_, _, _, rfl, h⟩ rfl dX10_weather_45
set_option maxHeartbeats 4000000 in
set_option maxRecDepth 100000 in
theorem kM_weather (l : Launch) (D : va_G) (ka : Nat → ClassId) (ad : Nat → Nat) (F : FT) (R : RT) (J : JT) (a1 : Int32) (a2 : Int32) (a3 : Int32) (a4 : Int32) (a5 : Int32) (K : Int32 → FT → RT → JT → Prop) (h : qM_weather F R J a1 a2 a3 a4 a5 K) : MI l D ka yX10_weather cX10_weather 15 (some .int) 4 0 0 [.ref (ad 20), .int a1, .int a2, .int a3, .int a4, .int a5] (wM ad ka F R J) (fun z w => ∃ F R J, w = wM ad ka F R J ∧ K z F R J) := MI_of (by decide) (Nat.le_of_ble_eq_true rfl) (fun X C hroom hret => bM_weather C hret F R J a1 a2 a3 a4 a5 h)
set_option maxHeartbeats 4000000 in
set_option maxRecDepth 100000 in
theorem miX10_weather : MInf yX10_weather cX10_weather 15 (some .int) 5 := ⟨(gw_of tw5_110 rfl), (gw_of tw5_111 rfl), (gw_of tw1_6 rfl), (gw_of tw5_112 rfl), by decide +kernel, by decide⟩

def qM_film_128 (k68 : FT → RT → JT → Int32 → Int32 → Int32 → Int32 → Int32 → Int32 → Int32 → Prop) (F : FT) (R : RT) (J : JT) (v1 : Int32) (v2 : Int32) (v3 : Int32) (v4 : Int32) (v5 : Int32) (v7 : Int32) (v8 : Int32) (s0 : Int64) (s1 : Int32) (K : Int32 → FT → RT → JT → Prop) : Prop :=
  (vp_in s1 96) ∧ (k68 F R (va_up J 18 (vp_updL (J 18) s1.toNatClampNeg s0)) v1 v2 v3 v4 v5 v7 (v8 + (1 : Int32)))
set_option maxHeartbeats 4000000 in
set_option maxRecDepth 100000 in
theorem lM_film_128 {X : XT} {ka : Nat → ClassId} {ad : Nat → Nat} (C : Cx X cX10_film 9 RX10 (some .int) ka 4) {K : Int32 → FT → RT → JT → Prop} (hret : RetI X cX10_film .int 0 0 (fun z w => ∃ F R J, w = wM ad ka F R J ∧ K z F R J)) {k68 : FT → RT → JT → Int32 → Int32 → Int32 → Int32 → Int32 → Int32 → Int32 → Prop} (hk68 : ∀ (F : FT) (R : RT) (J : JT) (v1 : Int32) (v2 : Int32) (v3 : Int32) (v4 : Int32) (v5 : Int32) (v7 : Int32) (v8 : Int32), k68 F R J v1 v2 v3 v4 v5 v7 v8 → G X 0 0 (wM ad ka F R J) 68 [(0, .ref (ad 20)), (1, .int v1), (2, .int v2), (3, .int v3), (4, .int v4), (5, .int v5), (7, .int v7), (8, .int v8)] []) (F : FT) (R : RT) (J : JT) (v1 : Int32) (v2 : Int32) (v3 : Int32) (v4 : Int32) (v5 : Int32) (v7 : Int32) (v8 : Int32) (s0 : Int64) (s1 : Int32) (h : qM_film_128 k68 F R J v1 v2 v3 v4 v5 v7 v8 s0 s1 K) : G X 0 0 (wM ad ka F R J) 128 [(0, .ref (ad 20)), (1, .int v1), (2, .int v2), (3, .int v3), (4, .int v4), (5, .int v5), (7, .int v7), (8, .int v8)] [.long s0, .int s1, .ref (ad 18)] := by
  unfold qM_film_128 at h
  refine Ms_items C (f := J 18) rfl _ rfl h.1 dX10_film_128 ?_
  have h := h.2
  refine g_iinc C 7 (v8 + (1 : Int32)) [(8, .int (v8 + (1 : Int32))), (0, .ref (ad 20)), (1, .int v1), (2, .int v2), (3, .int v3), (4, .int v4), (5, .int v5), (7, .int v7)] dX10_film_129 rfl (by rw [ci_1]) (by decide) rfl ?_
  refine g_goto C 68 dX10_film_132 (by decide) ?_
  exact g_lv [1, 2, 3, 4, 5, 6, 7, 0] rfl (hk68 _ _ _ _ _ _ _ _ _ _ h)
def qM_film_94 (k68 : FT → RT → JT → Int32 → Int32 → Int32 → Int32 → Int32 → Int32 → Int32 → Prop) (F : FT) (R : RT) (J : JT) (v1 : Int32) (v2 : Int32) (v3 : Int32) (v4 : Int32) (v5 : Int32) (v8 : Int32) (s0 : Int32) (s1 : Int32) (s2 : Int32) (K : Int32 → FT → RT → JT → Prop) : Prop :=
  qM_behind F R J s2 s1 s0 (fun r1 F1 R1 J1 => (¬ v4 = 0 → (qM_film_128 k68 F1 R1 J1 v1 v2 v3 v4 v5 r1 v8 r1.toInt64 ((((24 : Int32) * v3) + v5) + v8) K)) ∧ (v4 = 0 → (qM_film_128 k68 F1 R1 J1 v1 v2 v3 v4 v5 r1 v8 r1.toInt8.toInt32.toInt64 ((((24 : Int32) * v3) + v5) + v8) K)))
set_option maxHeartbeats 4000000 in
set_option maxRecDepth 100000 in
theorem lM_film_94 {X : XT} {ka : Nat → ClassId} {ad : Nat → Nat} (C : Cx X cX10_film 9 RX10 (some .int) ka 4) {K : Int32 → FT → RT → JT → Prop} (hret : RetI X cX10_film .int 0 0 (fun z w => ∃ F R J, w = wM ad ka F R J ∧ K z F R J)) {k68 : FT → RT → JT → Int32 → Int32 → Int32 → Int32 → Int32 → Int32 → Int32 → Prop} (hk68 : ∀ (F : FT) (R : RT) (J : JT) (v1 : Int32) (v2 : Int32) (v3 : Int32) (v4 : Int32) (v5 : Int32) (v7 : Int32) (v8 : Int32), k68 F R J v1 v2 v3 v4 v5 v7 v8 → G X 0 0 (wM ad ka F R J) 68 [(0, .ref (ad 20)), (1, .int v1), (2, .int v2), (3, .int v3), (4, .int v4), (5, .int v5), (7, .int v7), (8, .int v8)] []) (F : FT) (R : RT) (J : JT) (v1 : Int32) (v2 : Int32) (v3 : Int32) (v4 : Int32) (v5 : Int32) (v8 : Int32) (s0 : Int32) (s1 : Int32) (s2 : Int32) (h : qM_film_94 k68 F R J v1 v2 v3 v4 v5 v8 s0 s1 s2 K) : G X 0 0 (wM ad ka F R J) 94 [(0, .ref (ad 20)), (1, .int v1), (2, .int v2), (3, .int v3), (4, .int v4), (5, .int v5), (8, .int v8)] [.int s0, .int s1, .int s2, .ref (ad 20)] := by
  unfold qM_film_94 at h
  refine g_callVi0 C (kM_behind (xL X) (xD X) ka ad _ _ _ _ _ _ _ h) miX10_behind (gw_of tw5_0 rfl) (by decide) wM_at rfl rfl rfl (Nat.le_of_ble_eq_true rfl) z00 dX10_film_94 (fun r1 w hw => ?_)
  obtain ⟨F1, R1, J1, rfl, h⟩ := hw
  refine g_istore C [(7, .int r1), (0, .ref (ad 20)), (1, .int v1), (2, .int v2), (3, .int v3), (4, .int v4), (5, .int v5), (8, .int v8)] dX10_film_97 (by decide) rfl ?_
  refine g_aload_n C 1 dX10_film_99 rfl ?_
  refine Mg_items C dX10_film_100 ?_
  refine g_bipush C (24 : Int32) dX10_film_103 cb_24 ?_
  refine g_iload_n C 4 dX10_film_105 rfl ?_
  refine g_imul C dX10_film_106 ?_
  refine g_iload C 6 dX10_film_107 rfl ?_
  refine g_iadd C dX10_film_109 ?_
  refine g_iload C 7 dX10_film_110 rfl ?_
  refine g_iadd C dX10_film_112 ?_
  refine g_iload C 5 dX10_film_113 rfl ?_
  refine g_if_ne C 125 dX10_film_115 (by decide) (fun c2 => ?_) (fun c2 => ?_)
  · have h := h.1 c2
    refine g_iload C 0 dX10_film_125 rfl ?_
    refine g_i2l C dX10_film_127 ?_
    exact g_lv [1, 2, 3, 4, 5, 6, 0, 7] rfl (lM_film_128 C hret hk68 _ _ _ _ _ _ _ _ _ _ _ _ h)
  · have h := h.2 c2
    refine g_iload C 0 dX10_film_118 rfl ?_
    refine g_i2b C dX10_film_120 ?_
    refine g_i2l C dX10_film_121 ?_
    refine g_goto C 128 dX10_film_122 (by decide) ?_
    exact g_lv [1, 2, 3, 4, 5, 6, 0, 7] rfl (lM_film_128 C hret hk68 _ _ _ _ _ _ _ _ _ _ _ _ h)
def qM_film_68 : Nat → FT → RT → JT → Int32 → Int32 → Int32 → Int32 → Int32 → Int32 → Int32 → (Int32 → FT → RT → JT → Prop) → Prop
  | 0, _, _, _, _, _, _, _, _, _, _ => fun _ => False
  | n68 + 1, F, R, J, v1, v2, v3, v4, v5, v7, v8 => fun K => (v2 ≤ v8 → (K v2 F R J)) ∧ (¬ v2 ≤ v8 → ((¬ v8 = 0 → (qM_film_94 (fun F R J v1 v2 v3 v4 v5 v7 v8 => qM_film_68 n68 F R J v1 v2 v3 v4 v5 v7 v8 K) F R J v1 v2 v3 v4 v5 v8 (0 : Int32) v7 v1 K)) ∧ (v8 = 0 → (qM_film_94 (fun F R J v1 v2 v3 v4 v5 v7 v8 => qM_film_68 n68 F R J v1 v2 v3 v4 v5 v7 v8 K) F R J v1 v2 v3 v4 v5 v8 (R 0 9) v7 v1 K))))
set_option maxHeartbeats 4000000 in
set_option maxRecDepth 100000 in
theorem lM_film_68 {X : XT} {ka : Nat → ClassId} {ad : Nat → Nat} (C : Cx X cX10_film 9 RX10 (some .int) ka 4) {K : Int32 → FT → RT → JT → Prop} (hret : RetI X cX10_film .int 0 0 (fun z w => ∃ F R J, w = wM ad ka F R J ∧ K z F R J)) : ∀ (n : Nat) (F : FT) (R : RT) (J : JT) (v1 : Int32) (v2 : Int32) (v3 : Int32) (v4 : Int32) (v5 : Int32) (v7 : Int32) (v8 : Int32), qM_film_68 n F R J v1 v2 v3 v4 v5 v7 v8 K → G X 0 0 (wM ad ka F R J) 68 [(0, .ref (ad 20)), (1, .int v1), (2, .int v2), (3, .int v3), (4, .int v4), (5, .int v5), (7, .int v7), (8, .int v8)] [] := by
  intro n
  induction n with
  | zero => intro F R J v1 v2 v3 v4 v5 v7 v8 h; exact h.elim
  | succ n ih =>
    intro F R J v1 v2 v3 v4 v5 v7 v8 h
    refine g_iload C 7 dX10_film_68 rfl ?_
    refine g_iload_n C 2 dX10_film_70 rfl ?_
    refine g_icmp_ge C 135 dX10_film_71 (by decide) (fun c1 => ?_) (fun c1 => ?_)
    · have h := h.1 c1
      refine g_iload_n C 2 dX10_film_135 rfl ?_
      exact hret _ _ _ _ ⟨_, _, _, rfl, h⟩ rfl dX10_film_136
    · have h := h.2 c1
      refine g_aload_n C 0 dX10_film_74 rfl ?_
      refine g_iload_n C 1 dX10_film_75 rfl ?_
      refine g_iload C 6 dX10_film_76 rfl ?_
      refine g_iload C 7 dX10_film_78 rfl ?_
      refine g_if_ne C 93 dX10_film_80 (by decide) (fun c2 => ?_) (fun c2 => ?_)
      · have h := h.1 c2
        refine g_iconst C (0 : Int32) dX10_film_93 ci_0 ?_
        exact g_lv [0, 1, 2, 3, 4, 5, 7] rfl (lM_film_94 C hret (fun F R J v1 v2 v3 v4 v5 v7 v8 h => ih F R J v1 v2 v3 v4 v5 v7 v8 h) _ _ _ _ _ _ _ _ _ _ _ _ h)
      · have h := h.2 c2
        refine g_aload_n C 0 dX10_film_83 rfl ?_
        refine Mg_now C dX10_film_84 ?_
        refine g_bipush C (9 : Int32) dX10_film_87 cb_9 ?_
        refine Ma_now C (f := R 0) rfl (9) (by decide) (vp_lit (by decide)) dX10_film_89 ?_
        refine g_goto C 94 dX10_film_90 (by decide) ?_
        exact g_lv [0, 1, 2, 3, 4, 5, 7] rfl (lM_film_94 C hret (fun F R J v1 v2 v3 v4 v5 v7 v8 h => ih F R J v1 v2 v3 v4 v5 v7 v8 h) _ _ _ _ _ _ _ _ _ _ _ _ h)
def qM_film (F : FT) (R : RT) (J : JT) (a1 : Int32) (a2 : Int32) (a3 : Int32) (a4 : Int32) (a5 : Int32) (K : Int32 → FT → RT → JT → Prop) : Prop :=
  qM_isWeather F R J a1 (fun r1 F1 R1 J1 => (r1 = 0 → (K (-1 : Int32) F1 R1 J1)) ∧ (¬ r1 = 0 → (qM_in F1 R1 J1 a2.toInt64 (1 : Int64) (24 : Int64) (fun r3 F3 R3 J3 => (r3 = 0 → (K (-1 : Int32) F3 R3 J3)) ∧ (¬ r3 = 0 → (qM_isSheet F3 R3 J3 a3 (fun r5 F5 R5 J5 => (r5 = 0 → (K (-1 : Int32) F5 R5 J5)) ∧ (¬ r5 = 0 → (qM_isLane F5 R5 J5 a4 (fun r7 F7 R7 J7 => (¬ r7 = 0 → (qM_why F7 R7 J7 a3 a4 a5 a2 (fun r9 F9 R9 J9 => (0 ≤ r9 → (∃ n68, qM_film_68 n68 F9 R9 J9 a1 a2 a3 a4 a5 (R9 0 7) (0 : Int32) K)) ∧ (¬ 0 ≤ r9 → (K r9 F9 R9 J9))))) ∧ (r7 = 0 → (K (-1 : Int32) F7 R7 J7))))))))))))
set_option maxHeartbeats 4000000 in
set_option maxRecDepth 100000 in
theorem bM_film {X : XT} {ka : Nat → ClassId} {ad : Nat → Nat} (C : Cx X cX10_film 9 RX10 (some .int) ka 4) {K : Int32 → FT → RT → JT → Prop} (hret : RetI X cX10_film .int 0 0 (fun z w => ∃ F R J, w = wM ad ka F R J ∧ K z F R J)) (F : FT) (R : RT) (J : JT) (a1 : Int32) (a2 : Int32) (a3 : Int32) (a4 : Int32) (a5 : Int32) (h : qM_film F R J a1 a2 a3 a4 a5 K) : G X 0 0 (wM ad ka F R J) 0 [(0, .ref (ad 20)), (1, .int a1), (2, .int a2), (3, .int a3), (4, .int a4), (5, .int a5)] [] := by
  unfold qM_film at h
  refine g_iload_n C 1 dX10_film_0 rfl ?_
  refine g_callSi0 C (kM_isWeather (xL X) (xD X) ka ad _ _ _ _ _ h) siX10_isWeather (gw_of tw4_224 rfl) (by decide) rfl rfl (Nat.le_of_ble_eq_true rfl) z00 dX10_film_1 (fun r1 w hw => ?_)
  obtain ⟨F1, R1, J1, rfl, h⟩ := hw
  refine g_if_eq C 34 dX10_film_4 (by decide) (fun c2 => ?_) (fun c2 => ?_)
  · have h := h.1 c2
    refine g_iconst C (-1 : Int32) dX10_film_34 ci_m1 ?_
    exact hret _ _ _ _ ⟨_, _, _, rfl, h⟩ rfl dX10_film_35
  · have h := h.2 c2
    refine g_iload_n C 2 dX10_film_7 rfl ?_
    refine g_i2l C dX10_film_8 ?_
    refine g_lconst C (1 : Int64) dX10_film_9 rfl ?_
    refine g_ldc2 C (gw_of tw5_129 rfl) dX10_film_10 ?_
    refine g_callSi0 C (kM_in (xL X) (xD X) ka ad _ _ _ _ _ _ _ h) siX10_in (gw_of tw4_136 rfl) (by decide) rfl rfl (Nat.le_of_ble_eq_true rfl) z00 dX10_film_13 (fun r3 w hw => ?_)
    obtain ⟨F3, R3, J3, rfl, h⟩ := hw
    refine g_if_eq C 34 dX10_film_16 (by decide) (fun c4 => ?_) (fun c4 => ?_)
    · have h := h.1 c4
      refine g_iconst C (-1 : Int32) dX10_film_34 ci_m1 ?_
      exact hret _ _ _ _ ⟨_, _, _, rfl, h⟩ rfl dX10_film_35
    · have h := h.2 c4
      refine g_iload_n C 3 dX10_film_19 rfl ?_
      refine g_callSi0 C (kM_isSheet (xL X) (xD X) ka ad _ _ _ _ _ h) siX10_isSheet (gw_of tw5_113 rfl) (by decide) rfl rfl (Nat.le_of_ble_eq_true rfl) z00 dX10_film_20 (fun r5 w hw => ?_)
      obtain ⟨F5, R5, J5, rfl, h⟩ := hw
      refine g_if_eq C 34 dX10_film_23 (by decide) (fun c6 => ?_) (fun c6 => ?_)
      · have h := h.1 c6
        refine g_iconst C (-1 : Int32) dX10_film_34 ci_m1 ?_
        exact hret _ _ _ _ ⟨_, _, _, rfl, h⟩ rfl dX10_film_35
      · have h := h.2 c6
        refine g_iload C 4 dX10_film_26 rfl ?_
        refine g_callSi0 C (kM_isLane (xL X) (xD X) ka ad _ _ _ _ _ h) siX10_isLane (gw_of tw5_116 rfl) (by decide) rfl rfl (Nat.le_of_ble_eq_true rfl) z00 dX10_film_28 (fun r7 w hw => ?_)
        obtain ⟨F7, R7, J7, rfl, h⟩ := hw
        refine g_if_ne C 36 dX10_film_31 (by decide) (fun c8 => ?_) (fun c8 => ?_)
        · have h := h.1 c8
          refine g_aload_n C 0 dX10_film_36 rfl ?_
          refine g_iload_n C 3 dX10_film_37 rfl ?_
          refine g_iload C 4 dX10_film_38 rfl ?_
          refine g_iload C 5 dX10_film_40 rfl ?_
          refine g_iload_n C 2 dX10_film_42 rfl ?_
          refine g_callVi0 C (kM_why (xL X) (xD X) ka ad _ _ _ _ _ _ _ _ h) miX10_why (gw_of tw5_121 rfl) (by decide) wM_at rfl rfl rfl (Nat.le_of_ble_eq_true rfl) z00 dX10_film_43 (fun r9 w hw => ?_)
          obtain ⟨F9, R9, J9, rfl, h⟩ := hw
          refine g_istore C [(6, .int r9), (0, .ref (ad 20)), (1, .int a1), (2, .int a2), (3, .int a3), (4, .int a4), (5, .int a5)] dX10_film_46 (by decide) rfl ?_
          refine g_iload C 0 dX10_film_48 rfl ?_
          refine g_if_ge C 56 dX10_film_50 (by decide) (fun c10 => ?_) (fun c10 => ?_)
          · have h := h.1 c10
            refine g_aload_n C 1 dX10_film_56 rfl ?_
            refine Mg_now C dX10_film_57 ?_
            refine g_bipush C (7 : Int32) dX10_film_60 cb_7 ?_
            refine Ma_now C (f := R9 0) rfl (7) (by decide) (vp_lit (by decide)) dX10_film_62 ?_
            refine g_istore C [(7, .int (R9 0 7)), (6, .int r9), (0, .ref (ad 20)), (1, .int a1), (2, .int a2), (3, .int a3), (4, .int a4), (5, .int a5)] dX10_film_63 (by decide) rfl ?_
            refine g_iconst C (0 : Int32) dX10_film_65 ci_0 ?_
            refine g_istore C [(8, .int (0 : Int32)), (7, .int (R9 0 7)), (6, .int r9), (0, .ref (ad 20)), (1, .int a1), (2, .int a2), (3, .int a3), (4, .int a4), (5, .int a5)] dX10_film_66 (by decide) rfl ?_
            obtain ⟨n1, h⟩ := h
            exact g_lv [3, 4, 5, 6, 7, 8, 1, 0] rfl (lM_film_68 C hret n1 _ _ _ _ _ _ _ _ _ _ h)
          · have h := h.2 c10
            refine g_iload C 0 dX10_film_53 rfl ?_
            exact hret _ _ _ _ ⟨_, _, _, rfl, h⟩ rfl dX10_film_55
        · have h := h.2 c8
          refine g_iconst C (-1 : Int32) dX10_film_34 ci_m1 ?_
          exact hret _ _ _ _ ⟨_, _, _, rfl, h⟩ rfl dX10_film_35
set_option maxHeartbeats 4000000 in
set_option maxRecDepth 100000 in
theorem kM_film (l : Launch) (D : va_G) (ka : Nat → ClassId) (ad : Nat → Nat) (F : FT) (R : RT) (J : JT) (a1 : Int32) (a2 : Int32) (a3 : Int32) (a4 : Int32) (a5 : Int32) (K : Int32 → FT → RT → JT → Prop) (h : qM_film F R J a1 a2 a3 a4 a5 K) : MI l D ka yX10_film cX10_film 9 (some .int) 4 0 0 [.ref (ad 20), .int a1, .int a2, .int a3, .int a4, .int a5] (wM ad ka F R J) (fun z w => ∃ F R J, w = wM ad ka F R J ∧ K z F R J) := MI_of (by decide) (Nat.le_of_ble_eq_true rfl) (fun X C hroom hret => bM_film C hret F R J a1 a2 a3 a4 a5 h)
set_option maxHeartbeats 4000000 in
set_option maxRecDepth 100000 in
theorem miX10_film : MInf yX10_film cX10_film 9 (some .int) 5 := ⟨(gw_of tw5_126 rfl), (gw_of tw5_127 rfl), (gw_of tw1_6 rfl), (gw_of tw5_128 rfl), by decide +kernel, by decide⟩

def qM_sheet_46 : Nat → FT → RT → JT → Int32 → Int32 → Int32 → (Int32 → FT → RT → JT → Prop) → Prop
  | 0, _, _, _, _, _, _ => fun _ => False
  | n46 + 1, F, R, J, v1, v3, v4 => fun K => ((24 : Int32) ≤ v4 → (K v3 F R J)) ∧ (¬ (24 : Int32) ≤ v4 → ((vp_in (((24 : Int32) * v1) + v4) 96) ∧ (qM_sheet_46 n46 F R (va_up J 18 (vp_updL (J 18) ((((24 : Int32) * v1) + v4).toNatClampNeg) (0 : Int64))) v1 v3 (v4 + (1 : Int32)) K)))
set_option maxHeartbeats 4000000 in
set_option maxRecDepth 100000 in
theorem lM_sheet_46 {X : XT} {ka : Nat → ClassId} {ad : Nat → Nat} (C : Cx X cX10_sheet 5 RX10 (some .int) ka 3) {K : Int32 → FT → RT → JT → Prop} (hret : RetI X cX10_sheet .int 0 0 (fun z w => ∃ F R J, w = wM ad ka F R J ∧ K z F R J)) : ∀ (n : Nat) (F : FT) (R : RT) (J : JT) (v1 : Int32) (v3 : Int32) (v4 : Int32), qM_sheet_46 n F R J v1 v3 v4 K → G X 0 0 (wM ad ka F R J) 46 [(0, .ref (ad 20)), (1, .int v1), (3, .int v3), (4, .int v4)] [] := by
  intro n
  induction n with
  | zero => intro F R J v1 v3 v4 h; exact h.elim
  | succ n ih =>
    intro F R J v1 v3 v4 h
    refine g_iload C 3 dX10_sheet_46 rfl ?_
    refine g_bipush C (24 : Int32) dX10_sheet_48 cb_24 ?_
    refine g_icmp_ge C 72 dX10_sheet_50 (by decide) (fun c1 => ?_) (fun c1 => ?_)
    · have h := h.1 c1
      refine g_iload_n C 2 dX10_sheet_72 rfl ?_
      exact hret _ _ _ _ ⟨_, _, _, rfl, h⟩ rfl dX10_sheet_73
    · have h := h.2 c1
      refine g_aload_n C 0 dX10_sheet_53 rfl ?_
      refine Mg_items C dX10_sheet_54 ?_
      refine g_bipush C (24 : Int32) dX10_sheet_57 cb_24 ?_
      refine g_iload_n C 1 dX10_sheet_59 rfl ?_
      refine g_imul C dX10_sheet_60 ?_
      refine g_iload C 3 dX10_sheet_61 rfl ?_
      refine g_iadd C dX10_sheet_63 ?_
      refine g_lconst C (0 : Int64) dX10_sheet_64 rfl ?_
      refine Ms_items C (f := J 18) rfl _ rfl h.1 dX10_sheet_65 ?_
      have h := h.2
      refine g_iinc C 3 (v4 + (1 : Int32)) [(4, .int (v4 + (1 : Int32))), (0, .ref (ad 20)), (1, .int v1), (3, .int v3)] dX10_sheet_66 rfl (by rw [ci_1]) (by decide) rfl ?_
      refine g_goto C 46 dX10_sheet_69 (by decide) ?_
      exact g_lv [1, 2, 3, 0] rfl (ih _ _ _ _ _ _ h)
def qM_sheet (F : FT) (R : RT) (J : JT) (a1 : Int32) (a2 : Int32) (a3 : Int32) (K : Int32 → FT → RT → JT → Prop) : Prop :=
  qM_isSheet F R J a1 (fun r1 F1 R1 J1 => (r1 = 0 → (K (-1 : Int32) F1 R1 J1)) ∧ (¬ r1 = 0 → (qM_isLane F1 R1 J1 a2 (fun r3 F3 R3 J3 => (r3 = 0 → (K (-1 : Int32) F3 R3 J3)) ∧ (¬ r3 = 0 → ((a3 ≤ (24 : Int32) → ((0 ≤ a3 → ((vp_in a1 4) ∧ ((vp_in a1 4) ∧ (∃ n46, qM_sheet_46 n46 F3 (va_up (va_up R3 16 (upd (R3 16) a1.toNatClampNeg a2)) 17 (upd (R3 17) a1.toNatClampNeg a3)) J3 a1 a3 (0 : Int32) K)))) ∧ (¬ 0 ≤ a3 → (K (-14 : Int32) F3 R3 J3)))) ∧ (¬ a3 ≤ (24 : Int32) → (K (-1 : Int32) F3 R3 J3))))))))
set_option maxHeartbeats 4000000 in
set_option maxRecDepth 100000 in
theorem bM_sheet {X : XT} {ka : Nat → ClassId} {ad : Nat → Nat} (C : Cx X cX10_sheet 5 RX10 (some .int) ka 3) {K : Int32 → FT → RT → JT → Prop} (hret : RetI X cX10_sheet .int 0 0 (fun z w => ∃ F R J, w = wM ad ka F R J ∧ K z F R J)) (F : FT) (R : RT) (J : JT) (a1 : Int32) (a2 : Int32) (a3 : Int32) (h : qM_sheet F R J a1 a2 a3 K) : G X 0 0 (wM ad ka F R J) 0 [(0, .ref (ad 20)), (1, .int a1), (2, .int a2), (3, .int a3)] [] := by
  unfold qM_sheet at h
  refine g_iload_n C 1 dX10_sheet_0 rfl ?_
  refine g_callSi0 C (kM_isSheet (xL X) (xD X) ka ad _ _ _ _ _ h) siX10_isSheet (gw_of tw5_113 rfl) (by decide) rfl rfl (Nat.le_of_ble_eq_true rfl) z00 dX10_sheet_1 (fun r1 w hw => ?_)
  obtain ⟨F1, R1, J1, rfl, h⟩ := hw
  refine g_if_eq C 20 dX10_sheet_4 (by decide) (fun c2 => ?_) (fun c2 => ?_)
  · have h := h.1 c2
    refine g_iconst C (-1 : Int32) dX10_sheet_20 ci_m1 ?_
    exact hret _ _ _ _ ⟨_, _, _, rfl, h⟩ rfl dX10_sheet_21
  · have h := h.2 c2
    refine g_iload_n C 2 dX10_sheet_7 rfl ?_
    refine g_callSi0 C (kM_isLane (xL X) (xD X) ka ad _ _ _ _ _ h) siX10_isLane (gw_of tw5_116 rfl) (by decide) rfl rfl (Nat.le_of_ble_eq_true rfl) z00 dX10_sheet_8 (fun r3 w hw => ?_)
    obtain ⟨F3, R3, J3, rfl, h⟩ := hw
    refine g_if_eq C 20 dX10_sheet_11 (by decide) (fun c4 => ?_) (fun c4 => ?_)
    · have h := h.1 c4
      refine g_iconst C (-1 : Int32) dX10_sheet_20 ci_m1 ?_
      exact hret _ _ _ _ ⟨_, _, _, rfl, h⟩ rfl dX10_sheet_21
    · have h := h.2 c4
      refine g_iload_n C 3 dX10_sheet_14 rfl ?_
      refine g_bipush C (24 : Int32) dX10_sheet_15 cb_24 ?_
      refine g_icmp_le C 22 dX10_sheet_17 (by decide) (fun c5 => ?_) (fun c5 => ?_)
      · have h := h.1 c5
        refine g_iload_n C 3 dX10_sheet_22 rfl ?_
        refine g_if_ge C 29 dX10_sheet_23 (by decide) (fun c6 => ?_) (fun c6 => ?_)
        · have h := h.1 c6
          refine g_aload_n C 0 dX10_sheet_29 rfl ?_
          refine Mg_lanes C dX10_sheet_30 ?_
          refine g_iload_n C 1 dX10_sheet_33 rfl ?_
          refine g_iload_n C 2 dX10_sheet_34 rfl ?_
          refine Ms_lanes C (f := R3 16) rfl _ rfl h.1 dX10_sheet_35 ?_
          have h := h.2
          refine g_aload_n C 0 dX10_sheet_36 rfl ?_
          refine Mg_sizes C dX10_sheet_37 ?_
          refine g_iload_n C 1 dX10_sheet_40 rfl ?_
          refine g_iload_n C 3 dX10_sheet_41 rfl ?_
          refine Ms_sizes (R := (va_up R3 16 (upd (R3 16) a1.toNatClampNeg a2))) C (f := R3 17) rfl _ rfl h.1 dX10_sheet_42 ?_
          have h := h.2
          refine g_iconst C (0 : Int32) dX10_sheet_43 ci_0 ?_
          refine g_istore C [(4, .int (0 : Int32)), (0, .ref (ad 20)), (1, .int a1), (2, .int a2), (3, .int a3)] dX10_sheet_44 (by decide) rfl ?_
          obtain ⟨n1, h⟩ := h
          exact g_lv [1, 2, 4, 0] rfl (lM_sheet_46 C hret n1 _ _ _ _ _ _ h)
        · have h := h.2 c6
          refine g_bipush C (-14 : Int32) dX10_sheet_26 cb_m14 ?_
          exact hret _ _ _ _ ⟨_, _, _, rfl, h⟩ rfl dX10_sheet_28
      · have h := h.2 c5
        refine g_iconst C (-1 : Int32) dX10_sheet_20 ci_m1 ?_
        exact hret _ _ _ _ ⟨_, _, _, rfl, h⟩ rfl dX10_sheet_21
set_option maxHeartbeats 4000000 in
set_option maxRecDepth 100000 in
theorem kM_sheet (l : Launch) (D : va_G) (ka : Nat → ClassId) (ad : Nat → Nat) (F : FT) (R : RT) (J : JT) (a1 : Int32) (a2 : Int32) (a3 : Int32) (K : Int32 → FT → RT → JT → Prop) (h : qM_sheet F R J a1 a2 a3 K) : MI l D ka yX10_sheet cX10_sheet 5 (some .int) 3 0 0 [.ref (ad 20), .int a1, .int a2, .int a3] (wM ad ka F R J) (fun z w => ∃ F R J, w = wM ad ka F R J ∧ K z F R J) := MI_of (by decide) (Nat.le_of_ble_eq_true rfl) (fun X C hroom hret => bM_sheet C hret F R J a1 a2 a3 h)
set_option maxHeartbeats 4000000 in
set_option maxRecDepth 100000 in
theorem miX10_sheet : MInf yX10_sheet cX10_sheet 5 (some .int) 3 := ⟨(gw_of tw5_131 rfl), (gw_of tw5_132 rfl), (gw_of tw1_6 rfl), (gw_of tw5_133 rfl), by decide +kernel, by decide⟩

def qM_drop (F : FT) (R : RT) (J : JT) (a1 : Int32) (K : Int32 → FT → RT → JT → Prop) : Prop :=
  qM_isSheet F R J a1 (fun r1 F1 R1 J1 => (¬ r1 = 0 → ((vp_in a1 4) ∧ ((0 ≤ (R1 16 a1.toNatClampNeg) → ((vp_in a1 4) ∧ ((vp_in a1 4) ∧ (K (R1 17 a1.toNatClampNeg) F1 (va_up R1 16 (upd (R1 16) a1.toNatClampNeg (-1 : Int32))) J1)))) ∧ (¬ 0 ≤ (R1 16 a1.toNatClampNeg) → (K (-11 : Int32) F1 R1 J1))))) ∧ (r1 = 0 → (K (-1 : Int32) F1 R1 J1)))
set_option maxHeartbeats 4000000 in
set_option maxRecDepth 100000 in
theorem bM_drop {X : XT} {ka : Nat → ClassId} {ad : Nat → Nat} (C : Cx X cX10_drop 2 RX10 (some .int) ka 3) {K : Int32 → FT → RT → JT → Prop} (hret : RetI X cX10_drop .int 0 0 (fun z w => ∃ F R J, w = wM ad ka F R J ∧ K z F R J)) (F : FT) (R : RT) (J : JT) (a1 : Int32) (h : qM_drop F R J a1 K) : G X 0 0 (wM ad ka F R J) 0 [(0, .ref (ad 20)), (1, .int a1)] [] := by
  unfold qM_drop at h
  refine g_iload_n C 1 dX10_drop_0 rfl ?_
  refine g_callSi0 C (kM_isSheet (xL X) (xD X) ka ad _ _ _ _ _ h) siX10_isSheet (gw_of tw5_113 rfl) (by decide) rfl rfl (Nat.le_of_ble_eq_true rfl) z00 dX10_drop_1 (fun r1 w hw => ?_)
  obtain ⟨F1, R1, J1, rfl, h⟩ := hw
  refine g_if_ne C 9 dX10_drop_4 (by decide) (fun c2 => ?_) (fun c2 => ?_)
  · have h := h.1 c2
    refine g_aload_n C 0 dX10_drop_9 rfl ?_
    refine Mg_lanes C dX10_drop_10 ?_
    refine g_iload_n C 1 dX10_drop_13 rfl ?_
    refine Ma_lanes C (f := R1 16) rfl _ rfl h.1 dX10_drop_14 ?_
    have h := h.2
    refine g_if_ge C 21 dX10_drop_15 (by decide) (fun c3 => ?_) (fun c3 => ?_)
    · have h := h.1 c3
      refine g_aload_n C 0 dX10_drop_21 rfl ?_
      refine Mg_lanes C dX10_drop_22 ?_
      refine g_iload_n C 1 dX10_drop_25 rfl ?_
      refine g_iconst C (-1 : Int32) dX10_drop_26 ci_m1 ?_
      refine Ms_lanes C (f := R1 16) rfl _ rfl h.1 dX10_drop_27 ?_
      have h := h.2
      refine g_aload_n C 0 dX10_drop_28 rfl ?_
      refine Mg_sizes C dX10_drop_29 ?_
      refine g_iload_n C 1 dX10_drop_32 rfl ?_
      refine Ma_sizes (R := (va_up R1 16 (upd (R1 16) a1.toNatClampNeg (-1 : Int32)))) C (f := R1 17) rfl _ rfl h.1 dX10_drop_33 ?_
      have h := h.2
      exact hret _ _ _ _ ⟨_, _, _, rfl, h⟩ rfl dX10_drop_34
    · have h := h.2 c3
      refine g_bipush C (-11 : Int32) dX10_drop_18 cb_m11 ?_
      exact hret _ _ _ _ ⟨_, _, _, rfl, h⟩ rfl dX10_drop_20
  · have h := h.2 c2
    refine g_iconst C (-1 : Int32) dX10_drop_7 ci_m1 ?_
    exact hret _ _ _ _ ⟨_, _, _, rfl, h⟩ rfl dX10_drop_8
set_option maxHeartbeats 4000000 in
set_option maxRecDepth 100000 in
theorem kM_drop (l : Launch) (D : va_G) (ka : Nat → ClassId) (ad : Nat → Nat) (F : FT) (R : RT) (J : JT) (a1 : Int32) (K : Int32 → FT → RT → JT → Prop) (h : qM_drop F R J a1 K) : MI l D ka yX10_drop cX10_drop 2 (some .int) 3 0 0 [.ref (ad 20), .int a1] (wM ad ka F R J) (fun z w => ∃ F R J, w = wM ad ka F R J ∧ K z F R J) := MI_of (by decide) (Nat.le_of_ble_eq_true rfl) (fun X C hroom hret => bM_drop C hret F R J a1 h)
set_option maxHeartbeats 4000000 in
set_option maxRecDepth 100000 in
theorem miX10_drop : MInf yX10_drop cX10_drop 2 (some .int) 1 := ⟨(gw_of tw5_135 rfl), (gw_of tw5_136 rfl), (gw_of tw1_6 rfl), (gw_of tw5_137 rfl), by decide +kernel, by decide⟩

def qM_item (F : FT) (R : RT) (J : JT) (a1 : Int32) (a2 : Int32) (a3 : Int32) (a4 : Int64) (K : Int32 → FT → RT → JT → Prop) : Prop :=
  qM_isSheet F R J a1 (fun r1 F1 R1 J1 => (r1 = 0 → (K (-1 : Int32) F1 R1 J1)) ∧ (¬ r1 = 0 → (qM_isLane F1 R1 J1 a2 (fun r3 F3 R3 J3 => (¬ r3 = 0 → (qM_why F3 R3 J3 a1 a2 a3 (1 : Int32) (fun r5 F5 R5 J5 => (0 ≤ r5 → ((¬ a2 = 0 → ((¬ a2 = (1 : Int32) → ((¬ a2 = (2 : Int32) → ((vp_in (((24 : Int32) * a1) + a3) 96) ∧ (K (1 : Int32) F5 R5 (va_up J5 18 (vp_updL (J5 18) ((((24 : Int32) * a1) + a3).toNatClampNeg) a4))))) ∧ (a2 = (2 : Int32) → ((vp_in (((24 : Int32) * a1) + a3) 96) ∧ (K (1 : Int32) F5 R5 (va_up J5 18 (vp_updL (J5 18) ((((24 : Int32) * a1) + a3).toNatClampNeg) a4.toInt32.toInt64))))))) ∧ (a2 = (1 : Int32) → ((vp_in (((24 : Int32) * a1) + a3) 96) ∧ (K (1 : Int32) F5 R5 (va_up J5 18 (vp_updL (J5 18) ((((24 : Int32) * a1) + a3).toNatClampNeg) a4.toInt32.toInt16.toInt32.toInt64))))))) ∧ (a2 = 0 → ((vp_in (((24 : Int32) * a1) + a3) 96) ∧ (K (1 : Int32) F5 R5 (va_up J5 18 (vp_updL (J5 18) ((((24 : Int32) * a1) + a3).toNatClampNeg) a4.toInt32.toInt8.toInt32.toInt64))))))) ∧ (¬ 0 ≤ r5 → (K r5 F5 R5 J5))))) ∧ (r3 = 0 → (K (-1 : Int32) F3 R3 J3))))))
set_option maxHeartbeats 4000000 in
set_option maxRecDepth 100000 in
theorem bM_item {X : XT} {ka : Nat → ClassId} {ad : Nat → Nat} (C : Cx X cX10_item 7 RX10 (some .int) ka 3) {K : Int32 → FT → RT → JT → Prop} (hret : RetI X cX10_item .int 0 0 (fun z w => ∃ F R J, w = wM ad ka F R J ∧ K z F R J)) (F : FT) (R : RT) (J : JT) (a1 : Int32) (a2 : Int32) (a3 : Int32) (a4 : Int64) (h : qM_item F R J a1 a2 a3 a4 K) : G X 0 0 (wM ad ka F R J) 0 [(0, .ref (ad 20)), (1, .int a1), (2, .int a2), (3, .int a3), (4, .long a4)] [] := by
  unfold qM_item at h
  refine g_iload_n C 1 dX10_item_0 rfl ?_
  refine g_callSi0 C (kM_isSheet (xL X) (xD X) ka ad _ _ _ _ _ h) siX10_isSheet (gw_of tw5_113 rfl) (by decide) rfl rfl (Nat.le_of_ble_eq_true rfl) z00 dX10_item_1 (fun r1 w hw => ?_)
  obtain ⟨F1, R1, J1, rfl, h⟩ := hw
  refine g_if_eq C 14 dX10_item_4 (by decide) (fun c2 => ?_) (fun c2 => ?_)
  · have h := h.1 c2
    refine g_iconst C (-1 : Int32) dX10_item_14 ci_m1 ?_
    exact hret _ _ _ _ ⟨_, _, _, rfl, h⟩ rfl dX10_item_15
  · have h := h.2 c2
    refine g_iload_n C 2 dX10_item_7 rfl ?_
    refine g_callSi0 C (kM_isLane (xL X) (xD X) ka ad _ _ _ _ _ h) siX10_isLane (gw_of tw5_116 rfl) (by decide) rfl rfl (Nat.le_of_ble_eq_true rfl) z00 dX10_item_8 (fun r3 w hw => ?_)
    obtain ⟨F3, R3, J3, rfl, h⟩ := hw
    refine g_if_ne C 16 dX10_item_11 (by decide) (fun c4 => ?_) (fun c4 => ?_)
    · have h := h.1 c4
      refine g_aload_n C 0 dX10_item_16 rfl ?_
      refine g_iload_n C 1 dX10_item_17 rfl ?_
      refine g_iload_n C 2 dX10_item_18 rfl ?_
      refine g_iload_n C 3 dX10_item_19 rfl ?_
      refine g_iconst C (1 : Int32) dX10_item_20 ci_1 ?_
      refine g_callVi0 C (kM_why (xL X) (xD X) ka ad _ _ _ _ _ _ _ _ h) miX10_why (gw_of tw5_121 rfl) (by decide) wM_at rfl rfl rfl (Nat.le_of_ble_eq_true rfl) z00 dX10_item_21 (fun r5 w hw => ?_)
      obtain ⟨F5, R5, J5, rfl, h⟩ := hw
      refine g_istore C [(6, .int r5), (0, .ref (ad 20)), (1, .int a1), (2, .int a2), (3, .int a3), (4, .long a4)] dX10_item_24 (by decide) rfl ?_
      refine g_iload C 0 dX10_item_26 rfl ?_
      refine g_if_ge C 34 dX10_item_28 (by decide) (fun c6 => ?_) (fun c6 => ?_)
      · have h := h.1 c6
        refine g_aload_n C 1 dX10_item_34 rfl ?_
        refine Mg_items C dX10_item_35 ?_
        refine g_bipush C (24 : Int32) dX10_item_38 cb_24 ?_
        refine g_iload_n C 2 dX10_item_40 rfl ?_
        refine g_imul C dX10_item_41 ?_
        refine g_iload_n C 4 dX10_item_42 rfl ?_
        refine g_iadd C dX10_item_43 ?_
        refine g_iload_n C 3 dX10_item_44 rfl ?_
        refine g_if_ne C 56 dX10_item_45 (by decide) (fun c7 => ?_) (fun c7 => ?_)
        · have h := h.1 c7
          refine g_iload_n C 3 dX10_item_56 rfl ?_
          refine g_iconst C (1 : Int32) dX10_item_57 ci_1 ?_
          refine g_icmp_ne C 69 dX10_item_58 (by decide) (fun c8 => ?_) (fun c8 => ?_)
          · have h := h.1 c8
            refine g_iload_n C 3 dX10_item_69 rfl ?_
            refine g_iconst C (2 : Int32) dX10_item_70 ci_2 ?_
            refine g_icmp_ne C 81 dX10_item_71 (by decide) (fun c9 => ?_) (fun c9 => ?_)
            · have h := h.1 c9
              refine g_lload C 5 dX10_item_81 rfl ?_
              refine Ms_items C (f := J5 18) rfl _ rfl h.1 dX10_item_83 ?_
              have h := h.2
              refine g_iconst C (1 : Int32) dX10_item_84 ci_1 ?_
              exact hret _ _ _ _ ⟨_, _, _, rfl, h⟩ rfl dX10_item_85
            · have h := h.2 c9
              refine g_lload C 5 dX10_item_74 rfl ?_
              refine g_l2i C dX10_item_76 ?_
              refine g_i2l C dX10_item_77 ?_
              refine g_goto C 83 dX10_item_78 (by decide) ?_
              refine Ms_items C (f := J5 18) rfl _ rfl h.1 dX10_item_83 ?_
              have h := h.2
              refine g_iconst C (1 : Int32) dX10_item_84 ci_1 ?_
              exact hret _ _ _ _ ⟨_, _, _, rfl, h⟩ rfl dX10_item_85
          · have h := h.2 c8
            refine g_lload C 5 dX10_item_61 rfl ?_
            refine g_l2i C dX10_item_63 ?_
            refine g_i2s C dX10_item_64 ?_
            refine g_i2l C dX10_item_65 ?_
            refine g_goto C 83 dX10_item_66 (by decide) ?_
            refine Ms_items C (f := J5 18) rfl _ rfl h.1 dX10_item_83 ?_
            have h := h.2
            refine g_iconst C (1 : Int32) dX10_item_84 ci_1 ?_
            exact hret _ _ _ _ ⟨_, _, _, rfl, h⟩ rfl dX10_item_85
        · have h := h.2 c7
          refine g_lload C 5 dX10_item_48 rfl ?_
          refine g_l2i C dX10_item_50 ?_
          refine g_i2b C dX10_item_51 ?_
          refine g_i2l C dX10_item_52 ?_
          refine g_goto C 83 dX10_item_53 (by decide) ?_
          refine Ms_items C (f := J5 18) rfl _ rfl h.1 dX10_item_83 ?_
          have h := h.2
          refine g_iconst C (1 : Int32) dX10_item_84 ci_1 ?_
          exact hret _ _ _ _ ⟨_, _, _, rfl, h⟩ rfl dX10_item_85
      · have h := h.2 c6
        refine g_iload C 0 dX10_item_31 rfl ?_
        exact hret _ _ _ _ ⟨_, _, _, rfl, h⟩ rfl dX10_item_33
    · have h := h.2 c4
      refine g_iconst C (-1 : Int32) dX10_item_14 ci_m1 ?_
      exact hret _ _ _ _ ⟨_, _, _, rfl, h⟩ rfl dX10_item_15
set_option maxHeartbeats 4000000 in
set_option maxRecDepth 100000 in
theorem kM_item (l : Launch) (D : va_G) (ka : Nat → ClassId) (ad : Nat → Nat) (F : FT) (R : RT) (J : JT) (a1 : Int32) (a2 : Int32) (a3 : Int32) (a4 : Int64) (K : Int32 → FT → RT → JT → Prop) (h : qM_item F R J a1 a2 a3 a4 K) : MI l D ka yX10_item cX10_item 7 (some .int) 3 0 0 [.ref (ad 20), .int a1, .int a2, .int a3, .long a4] (wM ad ka F R J) (fun z w => ∃ F R J, w = wM ad ka F R J ∧ K z F R J) := MI_of (by decide) (Nat.le_of_ble_eq_true rfl) (fun X C hroom hret => bM_item C hret F R J a1 a2 a3 a4 h)
set_option maxHeartbeats 4000000 in
set_option maxRecDepth 100000 in
theorem miX10_item : MInf yX10_item cX10_item 7 (some .int) 4 := ⟨(gw_of tw5_139 rfl), (gw_of tw5_140 rfl), (gw_of tw1_6 rfl), (gw_of tw5_141 rfl), by decide +kernel, by decide⟩

def qM_copy_128 : Nat → FT → RT → JT → Int32 → Int32 → Int32 → Int32 → (Int32 → FT → RT → JT → Prop) → Prop
  | 0, _, _, _, _, _, _, _ => fun _ => False
  | n128 + 1, F, R, J, v3, v4, v5, v7 => fun K => (v5 ≤ v7 → (K v5 F R J)) ∧ (¬ v5 ≤ v7 → ((vp_in v7 24) ∧ ((vp_in ((((24 : Int32) * v3) + v4) + v7) 96) ∧ (qM_copy_128 n128 F R (va_up J 18 (vp_updL (J 18) (((((24 : Int32) * v3) + v4) + v7).toNatClampNeg) (J 19 v7.toNatClampNeg))) v3 v4 v5 (v7 + (1 : Int32)) K))))
set_option maxHeartbeats 4000000 in
set_option maxRecDepth 100000 in
theorem lM_copy_128 {X : XT} {ka : Nat → ClassId} {ad : Nat → Nat} (C : Cx X cX10_copy 8 RX10 (some .int) ka 3) {K : Int32 → FT → RT → JT → Prop} (hret : RetI X cX10_copy .int 0 0 (fun z w => ∃ F R J, w = wM ad ka F R J ∧ K z F R J)) : ∀ (n : Nat) (F : FT) (R : RT) (J : JT) (v3 : Int32) (v4 : Int32) (v5 : Int32) (v7 : Int32), qM_copy_128 n F R J v3 v4 v5 v7 K → G X 0 0 (wM ad ka F R J) 128 [(0, .ref (ad 20)), (3, .int v3), (4, .int v4), (5, .int v5), (7, .int v7)] [] := by
  intro n
  induction n with
  | zero => intro F R J v3 v4 v5 v7 h; exact h.elim
  | succ n ih =>
    intro F R J v3 v4 v5 v7 h
    refine g_iload C 4 dX10_copy_128 rfl ?_
    refine g_iload C 3 dX10_copy_130 rfl ?_
    refine g_icmp_ge C 163 dX10_copy_132 (by decide) (fun c1 => ?_) (fun c1 => ?_)
    · have h := h.1 c1
      refine g_iload C 3 dX10_copy_163 rfl ?_
      exact hret _ _ _ _ ⟨_, _, _, rfl, h⟩ rfl dX10_copy_165
    · have h := h.2 c1
      refine g_aload_n C 0 dX10_copy_135 rfl ?_
      refine Mg_items C dX10_copy_136 ?_
      refine g_bipush C (24 : Int32) dX10_copy_139 cb_24 ?_
      refine g_iload_n C 1 dX10_copy_141 rfl ?_
      refine g_imul C dX10_copy_142 ?_
      refine g_iload C 2 dX10_copy_143 rfl ?_
      refine g_iadd C dX10_copy_145 ?_
      refine g_iload C 4 dX10_copy_146 rfl ?_
      refine g_iadd C dX10_copy_148 ?_
      refine g_aload_n C 0 dX10_copy_149 rfl ?_
      refine Mg_moved C dX10_copy_150 ?_
      refine g_iload C 4 dX10_copy_153 rfl ?_
      refine Ma_moved C (f := J 19) rfl _ rfl h.1 dX10_copy_155 ?_
      have h := h.2
      refine Ms_items C (f := J 18) rfl _ rfl h.1 dX10_copy_156 ?_
      have h := h.2
      refine g_iinc C 4 (v7 + (1 : Int32)) [(7, .int (v7 + (1 : Int32))), (0, .ref (ad 20)), (3, .int v3), (4, .int v4), (5, .int v5)] dX10_copy_157 rfl (by rw [ci_1]) (by decide) rfl ?_
      refine g_goto C 128 dX10_copy_160 (by decide) ?_
      exact g_lv [1, 2, 3, 4, 0] rfl (ih _ _ _ _ _ _ _ h)
def qM_copy_91 : Nat → FT → RT → JT → Int32 → Int32 → Int32 → Int32 → Int32 → Int32 → (Int32 → FT → RT → JT → Prop) → Prop
  | 0, _, _, _, _, _, _, _, _, _ => fun _ => False
  | n91 + 1, F, R, J, v1, v2, v3, v4, v5, v7 => fun K => (v5 ≤ v7 → (∃ n128, qM_copy_128 n128 F R J v3 v4 v5 (0 : Int32) K)) ∧ (¬ v5 ≤ v7 → ((vp_in ((((24 : Int32) * v1) + v2) + v7) 96) ∧ ((vp_in v7 24) ∧ (qM_copy_91 n91 F R (va_up J 19 (vp_updL (J 19) v7.toNatClampNeg (J 18 (((((24 : Int32) * v1) + v2) + v7).toNatClampNeg)))) v1 v2 v3 v4 v5 (v7 + (1 : Int32)) K))))
set_option maxHeartbeats 4000000 in
set_option maxRecDepth 100000 in
theorem lM_copy_91 {X : XT} {ka : Nat → ClassId} {ad : Nat → Nat} (C : Cx X cX10_copy 8 RX10 (some .int) ka 3) {K : Int32 → FT → RT → JT → Prop} (hret : RetI X cX10_copy .int 0 0 (fun z w => ∃ F R J, w = wM ad ka F R J ∧ K z F R J)) : ∀ (n : Nat) (F : FT) (R : RT) (J : JT) (v1 : Int32) (v2 : Int32) (v3 : Int32) (v4 : Int32) (v5 : Int32) (v7 : Int32), qM_copy_91 n F R J v1 v2 v3 v4 v5 v7 K → G X 0 0 (wM ad ka F R J) 91 [(0, .ref (ad 20)), (1, .int v1), (2, .int v2), (3, .int v3), (4, .int v4), (5, .int v5), (7, .int v7)] [] := by
  intro n
  induction n with
  | zero => intro F R J v1 v2 v3 v4 v5 v7 h; exact h.elim
  | succ n ih =>
    intro F R J v1 v2 v3 v4 v5 v7 h
    refine g_iload C 6 dX10_copy_91 rfl ?_
    refine g_iload C 5 dX10_copy_93 rfl ?_
    refine g_icmp_ge C 125 dX10_copy_95 (by decide) (fun c1 => ?_) (fun c1 => ?_)
    · have h := h.1 c1
      refine g_iconst C (0 : Int32) dX10_copy_125 ci_0 ?_
      refine g_istore C [(7, .int (0 : Int32)), (0, .ref (ad 20)), (1, .int v1), (2, .int v2), (3, .int v3), (4, .int v4), (5, .int v5)] dX10_copy_126 (by decide) rfl ?_
      obtain ⟨n1, h⟩ := h
      exact g_lv [1, 4, 5, 6, 0] rfl (lM_copy_128 C hret n1 _ _ _ _ _ _ _ h)
    · have h := h.2 c1
      refine g_aload_n C 0 dX10_copy_98 rfl ?_
      refine Mg_moved C dX10_copy_99 ?_
      refine g_iload C 6 dX10_copy_102 rfl ?_
      refine g_aload_n C 0 dX10_copy_104 rfl ?_
      refine Mg_items C dX10_copy_105 ?_
      refine g_bipush C (24 : Int32) dX10_copy_108 cb_24 ?_
      refine g_iload_n C 1 dX10_copy_110 rfl ?_
      refine g_imul C dX10_copy_111 ?_
      refine g_iload_n C 2 dX10_copy_112 rfl ?_
      refine g_iadd C dX10_copy_113 ?_
      refine g_iload C 6 dX10_copy_114 rfl ?_
      refine g_iadd C dX10_copy_116 ?_
      refine Ma_items C (f := J 18) rfl _ rfl h.1 dX10_copy_117 ?_
      have h := h.2
      refine Ms_moved C (f := J 19) rfl _ rfl h.1 dX10_copy_118 ?_
      have h := h.2
      refine g_iinc C 6 (v7 + (1 : Int32)) [(7, .int (v7 + (1 : Int32))), (0, .ref (ad 20)), (1, .int v1), (2, .int v2), (3, .int v3), (4, .int v4), (5, .int v5)] dX10_copy_119 rfl (by rw [ci_1]) (by decide) rfl ?_
      refine g_goto C 91 dX10_copy_122 (by decide) ?_
      exact g_lv [1, 2, 3, 4, 5, 6, 0] rfl (ih _ _ _ _ _ _ _ _ _ h)
def qM_copy_78 (F : FT) (R : RT) (J : JT) (v1 : Int32) (v2 : Int32) (v3 : Int32) (v4 : Int32) (v5 : Int32) (s0 : Int32) (K : Int32 → FT → RT → JT → Prop) : Prop :=
  (0 ≤ s0 → (∃ n91, qM_copy_91 n91 F R J v1 v2 v3 v4 v5 (0 : Int32) K)) ∧ (¬ 0 ≤ s0 → (K s0 F R J))
set_option maxHeartbeats 4000000 in
set_option maxRecDepth 100000 in
theorem lM_copy_78 {X : XT} {ka : Nat → ClassId} {ad : Nat → Nat} (C : Cx X cX10_copy 8 RX10 (some .int) ka 3) {K : Int32 → FT → RT → JT → Prop} (hret : RetI X cX10_copy .int 0 0 (fun z w => ∃ F R J, w = wM ad ka F R J ∧ K z F R J)) (F : FT) (R : RT) (J : JT) (v1 : Int32) (v2 : Int32) (v3 : Int32) (v4 : Int32) (v5 : Int32) (s0 : Int32) (h : qM_copy_78 F R J v1 v2 v3 v4 v5 s0 K) : G X 0 0 (wM ad ka F R J) 78 [(0, .ref (ad 20)), (1, .int v1), (2, .int v2), (3, .int v3), (4, .int v4), (5, .int v5)] [.int s0] := by
  unfold qM_copy_78 at h
  refine g_istore C [(6, .int s0), (0, .ref (ad 20)), (1, .int v1), (2, .int v2), (3, .int v3), (4, .int v4), (5, .int v5)] dX10_copy_78 (by decide) rfl ?_
  refine g_iload C 0 dX10_copy_80 rfl ?_
  refine g_if_ge C 88 dX10_copy_82 (by decide) (fun c1 => ?_) (fun c1 => ?_)
  · have h := h.1 c1
    refine g_iconst C (0 : Int32) dX10_copy_88 ci_0 ?_
    refine g_istore C [(7, .int (0 : Int32)), (6, .int s0), (0, .ref (ad 20)), (1, .int v1), (2, .int v2), (3, .int v3), (4, .int v4), (5, .int v5)] dX10_copy_89 (by decide) rfl ?_
    obtain ⟨n1, h⟩ := h
    exact g_lv [2, 3, 4, 5, 6, 7, 0] rfl (lM_copy_91 C hret n1 _ _ _ _ _ _ _ _ _ h)
  · have h := h.2 c1
    refine g_iload C 0 dX10_copy_85 rfl ?_
    exact hret _ _ _ _ ⟨_, _, _, rfl, h⟩ rfl dX10_copy_87
def qM_copy (F : FT) (R : RT) (J : JT) (a1 : Int32) (a2 : Int32) (a3 : Int32) (a4 : Int32) (a5 : Int32) (K : Int32 → FT → RT → JT → Prop) : Prop :=
  qM_isSheet F R J a1 (fun r1 F1 R1 J1 => (r1 = 0 → (K (-1 : Int32) F1 R1 J1)) ∧ (¬ r1 = 0 → (qM_isSheet F1 R1 J1 a3 (fun r3 F3 R3 J3 => (¬ r3 = 0 → ((vp_in a1 4) ∧ (((R3 16 a1.toNatClampNeg) < 0 → (K (-11 : Int32) F3 R3 J3)) ∧ (¬ (R3 16 a1.toNatClampNeg) < 0 → ((vp_in a3 4) ∧ ((0 ≤ (R3 16 a3.toNatClampNeg) → ((vp_in a1 4) ∧ (qM_why F3 R3 J3 a3 (R3 16 a1.toNatClampNeg) a4 a5 (fun r7 F7 R7 J7 => (¬ r7 = 0 → (qM_copy_78 F7 R7 J7 a1 a2 a3 a4 a5 r7 K)) ∧ (r7 = 0 → ((vp_in a1 4) ∧ (qM_why F7 R7 J7 a1 (R7 16 a1.toNatClampNeg) a2 a5 (fun r9 F9 R9 J9 => qM_copy_78 F9 R9 J9 a1 a2 a3 a4 a5 r9 K)))))))) ∧ (¬ 0 ≤ (R3 16 a3.toNatClampNeg) → (K (-11 : Int32) F3 R3 J3)))))))) ∧ (r3 = 0 → (K (-1 : Int32) F3 R3 J3))))))
set_option maxHeartbeats 4000000 in
set_option maxRecDepth 100000 in
theorem bM_copy {X : XT} {ka : Nat → ClassId} {ad : Nat → Nat} (C : Cx X cX10_copy 8 RX10 (some .int) ka 3) {K : Int32 → FT → RT → JT → Prop} (hret : RetI X cX10_copy .int 0 0 (fun z w => ∃ F R J, w = wM ad ka F R J ∧ K z F R J)) (F : FT) (R : RT) (J : JT) (a1 : Int32) (a2 : Int32) (a3 : Int32) (a4 : Int32) (a5 : Int32) (h : qM_copy F R J a1 a2 a3 a4 a5 K) : G X 0 0 (wM ad ka F R J) 0 [(0, .ref (ad 20)), (1, .int a1), (2, .int a2), (3, .int a3), (4, .int a4), (5, .int a5)] [] := by
  unfold qM_copy at h
  refine g_iload_n C 1 dX10_copy_0 rfl ?_
  refine g_callSi0 C (kM_isSheet (xL X) (xD X) ka ad _ _ _ _ _ h) siX10_isSheet (gw_of tw5_113 rfl) (by decide) rfl rfl (Nat.le_of_ble_eq_true rfl) z00 dX10_copy_1 (fun r1 w hw => ?_)
  obtain ⟨F1, R1, J1, rfl, h⟩ := hw
  refine g_if_eq C 14 dX10_copy_4 (by decide) (fun c2 => ?_) (fun c2 => ?_)
  · have h := h.1 c2
    refine g_iconst C (-1 : Int32) dX10_copy_14 ci_m1 ?_
    exact hret _ _ _ _ ⟨_, _, _, rfl, h⟩ rfl dX10_copy_15
  · have h := h.2 c2
    refine g_iload_n C 3 dX10_copy_7 rfl ?_
    refine g_callSi0 C (kM_isSheet (xL X) (xD X) ka ad _ _ _ _ _ h) siX10_isSheet (gw_of tw5_113 rfl) (by decide) rfl rfl (Nat.le_of_ble_eq_true rfl) z00 dX10_copy_8 (fun r3 w hw => ?_)
    obtain ⟨F3, R3, J3, rfl, h⟩ := hw
    refine g_if_ne C 16 dX10_copy_11 (by decide) (fun c4 => ?_) (fun c4 => ?_)
    · have h := h.1 c4
      refine g_aload_n C 0 dX10_copy_16 rfl ?_
      refine Mg_lanes C dX10_copy_17 ?_
      refine g_iload_n C 1 dX10_copy_20 rfl ?_
      refine Ma_lanes C (f := R3 16) rfl _ rfl h.1 dX10_copy_21 ?_
      have h := h.2
      refine g_if_lt C 34 dX10_copy_22 (by decide) (fun c5 => ?_) (fun c5 => ?_)
      · have h := h.1 c5
        refine g_bipush C (-11 : Int32) dX10_copy_34 cb_m11 ?_
        exact hret _ _ _ _ ⟨_, _, _, rfl, h⟩ rfl dX10_copy_36
      · have h := h.2 c5
        refine g_aload_n C 0 dX10_copy_25 rfl ?_
        refine Mg_lanes C dX10_copy_26 ?_
        refine g_iload_n C 3 dX10_copy_29 rfl ?_
        refine Ma_lanes C (f := R3 16) rfl _ rfl h.1 dX10_copy_30 ?_
        have h := h.2
        refine g_if_ge C 37 dX10_copy_31 (by decide) (fun c6 => ?_) (fun c6 => ?_)
        · have h := h.1 c6
          refine g_aload_n C 0 dX10_copy_37 rfl ?_
          refine g_iload_n C 3 dX10_copy_38 rfl ?_
          refine g_aload_n C 0 dX10_copy_39 rfl ?_
          refine Mg_lanes C dX10_copy_40 ?_
          refine g_iload_n C 1 dX10_copy_43 rfl ?_
          refine Ma_lanes C (f := R3 16) rfl _ rfl h.1 dX10_copy_44 ?_
          have h := h.2
          refine g_iload C 4 dX10_copy_45 rfl ?_
          refine g_iload C 5 dX10_copy_47 rfl ?_
          refine g_callVi0 C (kM_why (xL X) (xD X) ka ad _ _ _ _ _ _ _ _ h) miX10_why (gw_of tw5_121 rfl) (by decide) wM_at rfl rfl rfl (Nat.le_of_ble_eq_true rfl) z00 dX10_copy_49 (fun r7 w hw => ?_)
          obtain ⟨F7, R7, J7, rfl, h⟩ := hw
          refine g_istore C [(6, .int r7), (0, .ref (ad 20)), (1, .int a1), (2, .int a2), (3, .int a3), (4, .int a4), (5, .int a5)] dX10_copy_52 (by decide) rfl ?_
          refine g_iload C 0 dX10_copy_54 rfl ?_
          refine g_if_ne C 76 dX10_copy_56 (by decide) (fun c8 => ?_) (fun c8 => ?_)
          · have h := h.1 c8
            refine g_iload C 0 dX10_copy_76 rfl ?_
            exact g_lv [1, 2, 3, 4, 5, 6] rfl (lM_copy_78 C hret _ _ _ _ _ _ _ _ _ h)
          · have h := h.2 c8
            refine g_aload_n C 1 dX10_copy_59 rfl ?_
            refine g_iload_n C 2 dX10_copy_60 rfl ?_
            refine g_aload_n C 1 dX10_copy_61 rfl ?_
            refine Mg_lanes C dX10_copy_62 ?_
            refine g_iload_n C 2 dX10_copy_65 rfl ?_
            refine Ma_lanes C (f := R7 16) rfl _ rfl h.1 dX10_copy_66 ?_
            have h := h.2
            refine g_iload_n C 3 dX10_copy_67 rfl ?_
            refine g_iload C 6 dX10_copy_68 rfl ?_
            refine g_callVi0 C (kM_why (xL X) (xD X) ka ad _ _ _ _ _ _ _ _ h) miX10_why (gw_of tw5_121 rfl) (by decide) wM_at rfl rfl rfl (Nat.le_of_ble_eq_true rfl) z00 dX10_copy_70 (fun r9 w hw => ?_)
            obtain ⟨F9, R9, J9, rfl, h⟩ := hw
            refine g_goto C 78 dX10_copy_73 (by decide) ?_
            exact g_lv [1, 2, 3, 4, 5, 6] rfl (lM_copy_78 C hret _ _ _ _ _ _ _ _ _ h)
        · have h := h.2 c6
          refine g_bipush C (-11 : Int32) dX10_copy_34 cb_m11 ?_
          exact hret _ _ _ _ ⟨_, _, _, rfl, h⟩ rfl dX10_copy_36
    · have h := h.2 c4
      refine g_iconst C (-1 : Int32) dX10_copy_14 ci_m1 ?_
      exact hret _ _ _ _ ⟨_, _, _, rfl, h⟩ rfl dX10_copy_15
set_option maxHeartbeats 4000000 in
set_option maxRecDepth 100000 in
theorem kM_copy (l : Launch) (D : va_G) (ka : Nat → ClassId) (ad : Nat → Nat) (F : FT) (R : RT) (J : JT) (a1 : Int32) (a2 : Int32) (a3 : Int32) (a4 : Int32) (a5 : Int32) (K : Int32 → FT → RT → JT → Prop) (h : qM_copy F R J a1 a2 a3 a4 a5 K) : MI l D ka yX10_copy cX10_copy 8 (some .int) 3 0 0 [.ref (ad 20), .int a1, .int a2, .int a3, .int a4, .int a5] (wM ad ka F R J) (fun z w => ∃ F R J, w = wM ad ka F R J ∧ K z F R J) := MI_of (by decide) (Nat.le_of_ble_eq_true rfl) (fun X C hroom hret => bM_copy C hret F R J a1 a2 a3 a4 a5 h)
set_option maxHeartbeats 4000000 in
set_option maxRecDepth 100000 in
theorem miX10_copy : MInf yX10_copy cX10_copy 8 (some .int) 5 := ⟨(gw_of tw5_143 rfl), (gw_of tw5_144 rfl), (gw_of tw1_6 rfl), (gw_of tw5_145 rfl), by decide +kernel, by decide⟩
