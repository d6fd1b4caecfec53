theorem g_callSU2 {X : XT} {cc : ByteArray} {nL : Nat} {own : String} {rt : Option FieldType} {ka : Nat → ClassId} {lvl cells slots : Nat} {ws : va_W} {pc : Nat} {lv : List (Nat × Value)} {st st0 : List Value} {x y : MethodName} {b : ByteArray} {n lc np index : Nat} {r : Option FieldType} {As : List Value} {a : Nat} {q ci : Nat} {fs : List Value} {T : u_T} {N : Nat} (C : Cx X cc nL own rt ka lvl) {post : Int32 → va_W → Prop} {Cn : String} (hM : MI (xL X) (xD X) ka y b n r lc 0 0 (.ref a :: As) ws post) (hlink : Cond.methodLink own index x ∈ gw) (hsame : Cond.sameMethod x.cls y.cls x.name x.desc ∈ gw) (hxy : y = ⟨y.cls, x.name, x.desc⟩) (hsup : Cond.superclass own x.cls ∈ gw) (hsup2 : Cond.superclass x.cls y.cls ∈ gw) (hinst : Cond.instanceMethod y ∈ gw) (hini : Cond.initialized y.cls ∈ gw) (hcode : Cond.code y b n r ∈ gw) (hno : x.name ≠ "<init>") (hd : (parseMethodDescriptor y.desc).map (fun d => d.parameters.length) = some np) (hn20 : n ≤ 20) (hlc : lc < lvl) (he : ws[q]? = some (a, .inr (ci, fs))) (hc : vwCl[ci]? = some (Cn, T, N)) (hn : As.length = np) (hst : st0 = As.reverse ++ .ref a :: st) (hsum : (st.map fun v => v.category).sum ≤ 8) (hcs : cells ≤ (xR X).cells ∧ slots ≤ (xR X).slots) (d : decode cc pc = .ok (.invokespecial index, 3)) (k : ∀ (z : Int32) (w : va_W), post z w → G X cells slots w (pc + 3) lv (.int z :: st)) : G X cells slots ws pc lv st0 := by
  intro H locs ls hP hD hS hl
  subst hst
  have hF := va_freeA hD hS C.fr
  have hlen : ∀ sig, parseMethodDescriptor y.desc = some sig → As.length = sig.parameters.length := by
    intro sig h
    rw [h] at hd
    exact hn.trans (Option.some.inj hd).symm
  obtain ⟨cellB, hcB, hoB, hclB⟩ := va_recv C.ks hP hc he
  obtain ⟨hfc, kB, hkB, -⟩ := (C.ks.1 ci _ hc).2
  have ec := Option.some.inj (hfc.symm.trans hclB)
  rw [ec] at hkB
  have run : va_Run (xP X) (xL X) (xE X) (xR X) (xS X) (xM X) (xA X) (xB X) (xMe X) (xC X) H locs cells slots 0 0 (F0 (xM X) pc ls (As.reverse ++ .ref a :: st)) st (va_Qi post (PosW (xD X) ka ws H.size) (va_A ws H.size) (Value.ref a :: As).toArray) (va_A ws H.size) := by
    have hK := back_of (l := xL X) (R := xR X) (p := xP X) (e := xE X) (below := xB X) (s := xS X) (sargs := xA X) (len := 3) (W := 8) (bytes := b) (maxL := n) (ret := r) (hM H.size) PreW.blind rfl rfl (Nat.le_trans hlc C.rf) (by have := C.rl; show 8 + (n + 11) + 40 * lc ≤ (xR X).locals; omega) (pay_in C.ts (wg_good hcode)) List.mem_cons_self (fun a' U hW => word_at hW (Or.inl (by first | rfl | simp [Cond.onTables, Cond.keeps, Cond.steady])) (C.ts _ hini))
    intro T hT XX
    obtain ⟨v, vm₁, ⟨U', l2, c2, s2⟩, hW₁, X', ⟨g', mk, t, L, e1, e2, hq, h1, hL, h2, h3⟩, stp⟩ := va_callSU2 XX C.ex (bytes := b) (maxL := n) (ret := r) C.ow (C.ts _ hlink) (C.ts _ hsame) hxy (C.ts _ hsup) (C.ts _ hsup2) (C.ts _ hinst) (C.ts _ hcode) hno hK (by rw [hT]; exact hcB) hoB hkB (g := F0 (xM X) pc ls (As.reverse ++ .ref a :: st)) rfl hl.1 (argsL := As) (rest := st) hlen rfl (by show 2 * 0 + _ ≤ 8; omega) (by rw [C.co]; exact d)
      (fun vm₁ hW₁ => ⟨hcs.1, hcs.2, pre_ws C hP hD (T.setVm vm₁) hT hW₁⟩)
    dsimp only [Pt.U, Pt.locs, Pt.cells, Pt.slots] at X' e1 e2 h1 h2 h3 stp
    subst h1; subst h2; subst h3
    exact ⟨v, (T.setVm vm₁).calling g' mk (Value.ref a :: As).toArray, t, U', L, hT, X', hL, e1, e2, hq, stp⟩
  refine va_calli run hS (fun q _ h => hF q h) hF (fun z w t H1 locs1 ht hvm hw hB hz1 hk1 hS1 => ?_)
  obtain ⟨hP1, -, hD1⟩ := hB
  rw [ht] at hP1
  exact k z w hw H1 locs1 ls hP1 (hD1.weaken (fun _ q _ h => hF q.1 h)) hS1 hl
set_option maxRecDepth 100000 in
theorem kB_thaw2 (l : Launch) (D : va_G) (ka : Nat → ClassId) {ws : va_W} {q b c : Nat} {p h : Int32} (ho : c = 2) (he : ws[q]? = some (b, .inr (c, [.int p, .int h]))) (x : Int32) : MI l D ka yX2_laysInThaw cX2_laysInThaw 3 (some .int) 2 0 0 [.ref b, .int x] ws (fun z w => z = thawV c x ∧ w = ws) := by
  refine MI_of (by decide) (Nat.le_of_ble_eq_true rfl) (fun X C _ hret => ?_)
  show G X 0 0 ws 0 [(0, .ref b), (1, .int x)] []
  refine g_aload_n C 0 dX2_laysInThaw_0 rfl ?_
  refine g_iload_n C 1 dX2_laysInThaw_1 rfl ?_
  subst ho
  refine g_callSU2 (np := 1) C (x := ⟨"SummerWall$Horsed", "laysInThaw", "(I)I"⟩) (kB_thaw5 (xL X) (xD X) ka (Or.inr (Or.inl rfl)) he x) (gw_of tw2_165 rfl) (gw_of tw2_166 rfl) rfl (gw_of tw2_83 rfl) (gw_of tw2_65 rfl) (gw_of tw2_158 rfl) (gw_of tw1_7 rfl) (gw_of tw2_170 rfl) (by decide) (by decide +kernel) (by decide) (by decide) he (hc := rfl) rfl rfl (Nat.le_of_ble_eq_true rfl) z00 dX2_laysInThaw_2 (fun z w hw => ?_)
  obtain ⟨rfl, rfl⟩ := hw
  refine g_istore_n C [(2, .int (thaw1 x)), (0, .ref b), (1, .int x)] dX2_laysInThaw_5 (by decide) rfl ?_
  refine g_iload_n C 0 dX2_laysInThaw_6 rfl ?_
  refine g_iconst C (2 : Int32) dX2_laysInThaw_7 ci_2 ?_
  refine g_icmp_lt C 17 dX2_laysInThaw_8 (by decide) (fun c1 => ?_) (fun c1 => ?_)
  · refine g_iconst C (0 : Int32) dX2_laysInThaw_17 ci_0 ?_
    exact hret _ _ _ _ ⟨by rw [thawV, if_pos rfl, if_pos c1], rfl⟩ rfl dX2_laysInThaw_18
  · refine g_iload_n C 0 dX2_laysInThaw_11 rfl ?_
    refine g_iconst C (2 : Int32) dX2_laysInThaw_12 ci_2 ?_
    refine g_isub C dX2_laysInThaw_13 ?_
    refine g_goto C 18 dX2_laysInThaw_14 (by decide) ?_
    exact hret _ _ _ _ ⟨by rw [thawV, if_pos rfl, if_neg c1], rfl⟩ rfl dX2_laysInThaw_18
theorem gvX5_hauls {X : XT} {cc : ByteArray} {nL : Nat} {rt : Option FieldType} {ka : Nat → ClassId} {lvl pc : Nat} {lv : List (Nat × Value)} {st : List Value} {ws : va_W} {q b c : Nat} {p h laid more : Int32} (C : Cx X cc nL RX5 rt ka lvl) (ho : bOK c) (he : ws[q]? = some (b, .inr (c, [.int p, .int h]))) (hlc : 2 < lvl) (hsum : (st.map fun v => v.category).sum ≤ 8) (d : decode cc pc = .ok (.invokevirtual 33, 3)) (k : G X 0 0 ws (pc + 3) lv (.int (haulsV c p h laid more) :: st)) : G X 0 0 ws pc lv (.int more :: .int laid :: .ref b :: st) := by
  rcases ho with rfl | rfl | rfl | rfl | rfl
  · refine g_callU (np := 2) C (As := [.int laid, .int more]) (x := yX5_hauls) (owner := RX5) (kB_hauls5 (xL X) (xD X) ka (Or.inl rfl) he laid more) (gw_of tw2_145 rfl) (gw_of tw2_123 rfl) (gw_of tw2_135 rfl) (gw_of tw2_121 rfl) (gw_of tw2_124 rfl) (gw_of tw2_121 rfl) (gw_of tw1_7 rfl) (gw_of tw2_135 rfl) (by decide +kernel) (by decide) (by omega) he (hc := rfl) rfl rfl hsum z00 d (fun z w hw => ?_)
    obtain ⟨rfl, rfl⟩ := hw
    exact k
  · refine g_callU (np := 2) C (As := [.int laid, .int more]) (x := yX5_hauls) (owner := RX5) (kB_hauls2 (xL X) (xD X) ka rfl he laid more) (gw_of tw2_145 rfl) (gw_of tw2_123 rfl) (gw_of tw2_135 rfl) (gw_of tw2_121 rfl) (gw_of tw2_125 rfl) (gw_of tw2_126 rfl) (gw_of tw1_10 rfl) (gw_of tw2_127 rfl) (by decide +kernel) (by decide) (by omega) he (hc := rfl) rfl rfl hsum z00 d (fun z w hw => ?_)
    obtain ⟨rfl, rfl⟩ := hw
    exact k
  · refine g_callU (np := 2) C (As := [.int laid, .int more]) (x := yX5_hauls) (owner := RX5) (kB_hauls3 (xL X) (xD X) ka (Or.inr rfl) he laid more) (gw_of tw2_145 rfl) (gw_of tw2_123 rfl) (gw_of tw2_135 rfl) (gw_of tw2_121 rfl) (gw_of tw2_131 rfl) (gw_of tw2_129 rfl) (gw_of tw1_8 rfl) (gw_of tw2_130 rfl) (by decide +kernel) (by decide) (by omega) he (hc := rfl) rfl rfl hsum z00 d (fun z w hw => ?_)
    obtain ⟨rfl, rfl⟩ := hw
    exact k
  · refine g_callU (np := 2) C (As := [.int laid, .int more]) (x := yX5_hauls) (owner := RX5) (kB_hauls4 (xL X) (xD X) ka rfl he laid more) (gw_of tw2_145 rfl) (gw_of tw2_123 rfl) (gw_of tw2_135 rfl) (gw_of tw2_121 rfl) (gw_of tw2_132 rfl) (gw_of tw2_133 rfl) (gw_of tw1_11 rfl) (gw_of tw2_134 rfl) (by decide +kernel) (by decide) (by omega) he (hc := rfl) rfl rfl hsum z00 d (fun z w hw => ?_)
    obtain ⟨rfl, rfl⟩ := hw
    exact k
  · refine g_callU (np := 2) C (As := [.int laid, .int more]) (x := yX5_hauls) (owner := RX5) (kB_hauls5 (xL X) (xD X) ka (Or.inr (Or.inr (Or.inr (Or.inr rfl)))) he laid more) (gw_of tw2_145 rfl) (gw_of tw2_123 rfl) (gw_of tw2_135 rfl) (gw_of tw2_121 rfl) (gw_of tw2_122 rfl) (gw_of tw2_121 rfl) (gw_of tw1_7 rfl) (gw_of tw2_135 rfl) (by decide +kernel) (by decide) (by omega) he (hc := rfl) rfl rfl hsum z00 d (fun z w hw => ?_)
    obtain ⟨rfl, rfl⟩ := hw
    exact k
theorem gvX5_laysInFrost {X : XT} {cc : ByteArray} {nL : Nat} {rt : Option FieldType} {ka : Nat → ClassId} {lvl pc : Nat} {lv : List (Nat × Value)} {st : List Value} {ws : va_W} {q b c : Nat} {p h x : Int32} (C : Cx X cc nL RX5 rt ka lvl) (ho : bOK c) (he : ws[q]? = some (b, .inr (c, [.int p, .int h]))) (hlc : 1 < lvl) (hsum : (st.map fun v => v.category).sum ≤ 8) (d : decode cc pc = .ok (.invokevirtual 37, 3)) (k : G X 0 0 ws (pc + 3) lv (.int (frostV c x) :: st)) : G X 0 0 ws pc lv (.int x :: .ref b :: st) := by
  rcases ho with rfl | rfl | rfl | rfl | rfl
  · refine g_callU (np := 1) C (As := [.int x]) (x := yX5_laysInFrost) (owner := RX5) (kB_frost0 (xL X) (xD X) ka (Or.inl rfl) he x) (gw_of tw2_146 rfl) (gw_of tw2_149 rfl) (gw_of tw2_156 rfl) (gw_of tw2_147 rfl) (gw_of tw2_150 rfl) (gw_of tw2_151 rfl) (gw_of tw1_9 rfl) (gw_of tw2_152 rfl) (by decide +kernel) (by decide) (by omega) he (hc := rfl) rfl rfl hsum z00 d (fun z w hw => ?_)
    obtain ⟨rfl, rfl⟩ := hw
    exact k
  · refine g_callU (np := 1) C (As := [.int x]) (x := yX5_laysInFrost) (owner := RX5) (kB_frost5 (xL X) (xD X) ka (Or.inr (Or.inl rfl)) he x) (gw_of tw2_146 rfl) (gw_of tw2_149 rfl) (gw_of tw2_156 rfl) (gw_of tw2_147 rfl) (gw_of tw2_153 rfl) (gw_of tw2_147 rfl) (gw_of tw1_7 rfl) (gw_of tw2_156 rfl) (by decide +kernel) (by decide) (by omega) he (hc := rfl) rfl rfl hsum z00 d (fun z w hw => ?_)
    obtain ⟨rfl, rfl⟩ := hw
    exact k
  · refine g_callU (np := 1) C (As := [.int x]) (x := yX5_laysInFrost) (owner := RX5) (kB_frost5 (xL X) (xD X) ka (Or.inr (Or.inr (Or.inl rfl))) he x) (gw_of tw2_146 rfl) (gw_of tw2_149 rfl) (gw_of tw2_156 rfl) (gw_of tw2_147 rfl) (gw_of tw2_154 rfl) (gw_of tw2_147 rfl) (gw_of tw1_7 rfl) (gw_of tw2_156 rfl) (by decide +kernel) (by decide) (by omega) he (hc := rfl) rfl rfl hsum z00 d (fun z w hw => ?_)
    obtain ⟨rfl, rfl⟩ := hw
    exact k
  · refine g_callU (np := 1) C (As := [.int x]) (x := yX5_laysInFrost) (owner := RX5) (kB_frost5 (xL X) (xD X) ka (Or.inr (Or.inr (Or.inr (Or.inl rfl)))) he x) (gw_of tw2_146 rfl) (gw_of tw2_149 rfl) (gw_of tw2_156 rfl) (gw_of tw2_147 rfl) (gw_of tw2_155 rfl) (gw_of tw2_147 rfl) (gw_of tw1_7 rfl) (gw_of tw2_156 rfl) (by decide +kernel) (by decide) (by omega) he (hc := rfl) rfl rfl hsum z00 d (fun z w hw => ?_)
    obtain ⟨rfl, rfl⟩ := hw
    exact k
  · refine g_callU (np := 1) C (As := [.int x]) (x := yX5_laysInFrost) (owner := RX5) (kB_frost5 (xL X) (xD X) ka (Or.inr (Or.inr (Or.inr (Or.inr rfl)))) he x) (gw_of tw2_146 rfl) (gw_of tw2_149 rfl) (gw_of tw2_156 rfl) (gw_of tw2_147 rfl) (gw_of tw2_148 rfl) (gw_of tw2_147 rfl) (gw_of tw1_7 rfl) (gw_of tw2_156 rfl) (by decide +kernel) (by decide) (by omega) he (hc := rfl) rfl rfl hsum z00 d (fun z w hw => ?_)
    obtain ⟨rfl, rfl⟩ := hw
    exact k
theorem gvX5_laysInThaw {X : XT} {cc : ByteArray} {nL : Nat} {rt : Option FieldType} {ka : Nat → ClassId} {lvl pc : Nat} {lv : List (Nat × Value)} {st : List Value} {ws : va_W} {q b c : Nat} {p h x : Int32} (C : Cx X cc nL RX5 rt ka lvl) (ho : bOK c) (he : ws[q]? = some (b, .inr (c, [.int p, .int h]))) (hlc : 2 < lvl) (hsum : (st.map fun v => v.category).sum ≤ 8) (d : decode cc pc = .ok (.invokevirtual 41, 3)) (k : G X 0 0 ws (pc + 3) lv (.int (thawV c x) :: st)) : G X 0 0 ws pc lv (.int x :: .ref b :: st) := by
  rcases ho with rfl | rfl | rfl | rfl | rfl
  · refine g_callU (np := 1) C (As := [.int x]) (x := yX5_laysInThaw) (owner := RX5) (kB_thaw5 (xL X) (xD X) ka (Or.inl rfl) he x) (gw_of tw2_157 rfl) (gw_of tw2_160 rfl) (gw_of tw2_170 rfl) (gw_of tw2_158 rfl) (gw_of tw2_161 rfl) (gw_of tw2_158 rfl) (gw_of tw1_7 rfl) (gw_of tw2_170 rfl) (by decide +kernel) (by decide) (by omega) he (hc := rfl) rfl rfl hsum z00 d (fun z w hw => ?_)
    obtain ⟨rfl, rfl⟩ := hw
    exact k
  · refine g_callU (np := 1) C (As := [.int x]) (x := yX5_laysInThaw) (owner := RX5) (kB_thaw2 (xL X) (xD X) ka rfl he x) (gw_of tw2_157 rfl) (gw_of tw2_160 rfl) (gw_of tw2_170 rfl) (gw_of tw2_158 rfl) (gw_of tw2_162 rfl) (gw_of tw2_163 rfl) (gw_of tw1_10 rfl) (gw_of tw2_164 rfl) (by decide +kernel) (by decide) (by omega) he (hc := rfl) rfl rfl hsum z00 d (fun z w hw => ?_)
    obtain ⟨rfl, rfl⟩ := hw
    exact k
  · refine g_callU (np := 1) C (As := [.int x]) (x := yX5_laysInThaw) (owner := RX5) (kB_thaw5 (xL X) (xD X) ka (Or.inr (Or.inr (Or.inl rfl))) he x) (gw_of tw2_157 rfl) (gw_of tw2_160 rfl) (gw_of tw2_170 rfl) (gw_of tw2_158 rfl) (gw_of tw2_168 rfl) (gw_of tw2_158 rfl) (gw_of tw1_7 rfl) (gw_of tw2_170 rfl) (by decide +kernel) (by decide) (by omega) he (hc := rfl) rfl rfl hsum z00 d (fun z w hw => ?_)
    obtain ⟨rfl, rfl⟩ := hw
    exact k
  · refine g_callU (np := 1) C (As := [.int x]) (x := yX5_laysInThaw) (owner := RX5) (kB_thaw5 (xL X) (xD X) ka (Or.inr (Or.inr (Or.inr (Or.inl rfl)))) he x) (gw_of tw2_157 rfl) (gw_of tw2_160 rfl) (gw_of tw2_170 rfl) (gw_of tw2_158 rfl) (gw_of tw2_169 rfl) (gw_of tw2_158 rfl) (gw_of tw1_7 rfl) (gw_of tw2_170 rfl) (by decide +kernel) (by decide) (by omega) he (hc := rfl) rfl rfl hsum z00 d (fun z w hw => ?_)
    obtain ⟨rfl, rfl⟩ := hw
    exact k
  · refine g_callU (np := 1) C (As := [.int x]) (x := yX5_laysInThaw) (owner := RX5) (kB_thaw5 (xL X) (xD X) ka (Or.inr (Or.inr (Or.inr (Or.inr rfl)))) he x) (gw_of tw2_157 rfl) (gw_of tw2_160 rfl) (gw_of tw2_170 rfl) (gw_of tw2_158 rfl) (gw_of tw2_159 rfl) (gw_of tw2_158 rfl) (gw_of tw1_7 rfl) (gw_of tw2_170 rfl) (by decide +kernel) (by decide) (by omega) he (hc := rfl) rfl rfl hsum z00 d (fun z w hw => ?_)
    obtain ⟨rfl, rfl⟩ := hw
    exact k
set_option maxRecDepth 100000 in
theorem kB_lays (l : Launch) (D : va_G) (ka : Nat → ClassId) {ws : va_W} {q b c : Nat} {p h : Int32} (ho : bOK c) (he : ws[q]? = some (b, .inr (c, [.int p, .int h]))) (wt laid more : Int32) : MI l D ka yX5_lays cX5_lays 5 (some .int) 3 0 0 [.ref b, .int wt, .int laid, .int more] ws (fun z w => z = laysV c p h wt laid more ∧ w = ws) := by
  refine MI_of (by decide) (Nat.le_of_ble_eq_true rfl) (fun X C _ hret => ?_)
  show G X 0 0 ws 0 [(0, .ref b), (1, .int wt), (2, .int laid), (3, .int more)] []
  refine g_aload_n C 0 dX5_lays_0 rfl ?_
  refine g_iload_n C 2 dX5_lays_1 rfl ?_
  refine g_iload_n C 3 dX5_lays_2 rfl ?_
  refine gvX5_hauls C ho he (by decide) (Nat.le_of_ble_eq_true rfl) dX5_lays_3 ?_
  refine g_istore C [(4, .int (haulsV c p h laid more)), (0, .ref b), (1, .int wt), (2, .int laid), (3, .int more)] dX5_lays_6 (by decide) rfl ?_
  refine g_iload_n C 2 dX5_lays_8 rfl ?_
  by_cases c1 : wt = 1
  · refine g_lookup C 27 36 dX5_lays_9 (by decide) (by rw [c1]; decide) (by decide) ?_
    refine g_aload_n C 1 dX5_lays_36 rfl ?_
    refine g_iload C 0 dX5_lays_37 rfl ?_
    refine gvX5_laysInFrost C ho he (by decide) (Nat.le_of_ble_eq_true rfl) dX5_lays_39 ?_
    exact hret _ _ _ _ ⟨by rw [laysV, if_pos c1], rfl⟩ rfl dX5_lays_42
  · by_cases c2 : wt = 2
    · refine g_lookup C 34 43 dX5_lays_9 (by decide) (by rw [c2]; decide) (by decide) ?_
      refine g_aload_n C 1 dX5_lays_43 rfl ?_
      refine g_iload C 0 dX5_lays_44 rfl ?_
      refine gvX5_laysInThaw C ho he (by decide) (Nat.le_of_ble_eq_true rfl) dX5_lays_46 ?_
      exact hret _ _ _ _ ⟨by rw [laysV, if_neg c1, if_pos c2], rfl⟩ rfl dX5_lays_49
    · refine g_lookup C 41 50 dX5_lays_9 (by decide) (by have e1 := swn 1 (by decide) c1; have e2 := swn 2 (by decide) c2; simp [Op.lookupswitch.offset, Ne.symm e1, Ne.symm e2]) (by decide) ?_
      refine g_iload C 0 dX5_lays_50 rfl ?_
      exact hret _ _ _ _ ⟨by rw [laysV, if_neg c1, if_neg c2], rfl⟩ rfl dX5_lays_52
theorem gvX7_lays {X : XT} {cc : ByteArray} {nL : Nat} {rt : Option FieldType} {ka : Nat → ClassId} {lvl pc : Nat} {lv : List (Nat × Value)} {st : List Value} {ws : va_W} {q b c : Nat} {p h wt laid more : Int32} (C : Cx X cc nL RX7 rt ka lvl) (ho : bOK c) (he : ws[q]? = some (b, .inr (c, [.int p, .int h]))) (hlc : 3 < lvl) (hsum : (st.map fun v => v.category).sum ≤ 8) (d : decode cc pc = .ok (.invokevirtual 62, 3)) (k : G X 0 0 ws (pc + 3) lv (.int (laysV c p h wt laid more) :: st)) : G X 0 0 ws pc lv (.int more :: .int laid :: .int wt :: .ref b :: st) := by
  rcases ho with rfl | rfl | rfl | rfl | rfl
  · refine g_callU (np := 3) C (As := [.int wt, .int laid, .int more]) (x := yX5_lays) (owner := RX5) (kB_lays (xL X) (xD X) ka (Or.inl rfl) he wt laid more) (gw_of tw3_68 rfl) (gw_of tw2_139 rfl) (gw_of tw2_144 rfl) (gw_of tw2_137 rfl) (gw_of tw2_140 rfl) (gw_of tw2_137 rfl) (gw_of tw1_7 rfl) (gw_of tw2_144 rfl) (by decide +kernel) (by decide) (by omega) he (hc := rfl) rfl rfl hsum z00 d (fun z w hw => ?_)
    obtain ⟨rfl, rfl⟩ := hw
    exact k
  · refine g_callU (np := 3) C (As := [.int wt, .int laid, .int more]) (x := yX5_lays) (owner := RX5) (kB_lays (xL X) (xD X) ka (Or.inr (Or.inl rfl)) he wt laid more) (gw_of tw3_68 rfl) (gw_of tw2_139 rfl) (gw_of tw2_144 rfl) (gw_of tw2_137 rfl) (gw_of tw2_141 rfl) (gw_of tw2_137 rfl) (gw_of tw1_7 rfl) (gw_of tw2_144 rfl) (by decide +kernel) (by decide) (by omega) he (hc := rfl) rfl rfl hsum z00 d (fun z w hw => ?_)
    obtain ⟨rfl, rfl⟩ := hw
    exact k
  · refine g_callU (np := 3) C (As := [.int wt, .int laid, .int more]) (x := yX5_lays) (owner := RX5) (kB_lays (xL X) (xD X) ka (Or.inr (Or.inr (Or.inl rfl))) he wt laid more) (gw_of tw3_68 rfl) (gw_of tw2_139 rfl) (gw_of tw2_144 rfl) (gw_of tw2_137 rfl) (gw_of tw2_142 rfl) (gw_of tw2_137 rfl) (gw_of tw1_7 rfl) (gw_of tw2_144 rfl) (by decide +kernel) (by decide) (by omega) he (hc := rfl) rfl rfl hsum z00 d (fun z w hw => ?_)
    obtain ⟨rfl, rfl⟩ := hw
    exact k
  · refine g_callU (np := 3) C (As := [.int wt, .int laid, .int more]) (x := yX5_lays) (owner := RX5) (kB_lays (xL X) (xD X) ka (Or.inr (Or.inr (Or.inr (Or.inl rfl)))) he wt laid more) (gw_of tw3_68 rfl) (gw_of tw2_139 rfl) (gw_of tw2_144 rfl) (gw_of tw2_137 rfl) (gw_of tw2_143 rfl) (gw_of tw2_137 rfl) (gw_of tw1_7 rfl) (gw_of tw2_144 rfl) (by decide +kernel) (by decide) (by omega) he (hc := rfl) rfl rfl hsum z00 d (fun z w hw => ?_)
    obtain ⟨rfl, rfl⟩ := hw
    exact k
  · refine g_callU (np := 3) C (As := [.int wt, .int laid, .int more]) (x := yX5_lays) (owner := RX5) (kB_lays (xL X) (xD X) ka (Or.inr (Or.inr (Or.inr (Or.inr rfl)))) he wt laid more) (gw_of tw3_68 rfl) (gw_of tw2_139 rfl) (gw_of tw2_144 rfl) (gw_of tw2_137 rfl) (gw_of tw2_138 rfl) (gw_of tw2_137 rfl) (gw_of tw1_7 rfl) (gw_of tw2_144 rfl) (by decide +kernel) (by decide) (by omega) he (hc := rfl) rfl rfl hsum z00 d (fun z w hw => ?_)
    obtain ⟨rfl, rfl⟩ := hw
    exact k
theorem gvX9_kind {X : XT} {cc : ByteArray} {nL : Nat} {rt : Option FieldType} {ka : Nat → ClassId} {lvl pc : Nat} {lv : List (Nat × Value)} {st : List Value} {ws : va_W} {q b c : Nat} {p h : Int32} (C : Cx X cc nL RX9 rt ka lvl) (ho : bOK c) (he : ws[q]? = some (b, .inr (c, [.int p, .int h]))) (hlc : 1 < lvl) (hsum : (st.map fun v => v.category).sum ≤ 8) (d : decode cc pc = .ok (.invokevirtual 59, 3)) (k : G X 0 0 ws (pc + 3) lv (.int (kindV c) :: st)) : G X 0 0 ws pc lv (.ref b :: st) := by
  rcases ho with rfl | rfl | rfl | rfl | rfl
  · refine g_callU (np := 0) C (As := []) (x := yX5_kind) (owner := RX5) (kB_kind0 (xL X) (xD X) ka rfl he) (gw_of tw2_103 rfl) (gw_of tw2_106 rfl) (gw_of tw2_119 rfl) (gw_of tw2_104 rfl) (gw_of tw2_107 rfl) (gw_of tw2_108 rfl) (gw_of tw1_9 rfl) (gw_of tw2_109 rfl) (by decide +kernel) (by decide) (by omega) he (hc := rfl) rfl rfl hsum z00 d (fun z w hw => ?_)
    obtain ⟨rfl, rfl⟩ := hw
    exact k
  · refine g_callU (np := 0) C (As := []) (x := yX5_kind) (owner := RX5) (kB_kind2 (xL X) (xD X) ka rfl he) (gw_of tw2_103 rfl) (gw_of tw2_106 rfl) (gw_of tw2_119 rfl) (gw_of tw2_104 rfl) (gw_of tw2_110 rfl) (gw_of tw2_111 rfl) (gw_of tw1_10 rfl) (gw_of tw2_112 rfl) (by decide +kernel) (by decide) (by omega) he (hc := rfl) rfl rfl hsum z00 d (fun z w hw => ?_)
    obtain ⟨rfl, rfl⟩ := hw
    exact k
  · refine g_callU (np := 0) C (As := []) (x := yX5_kind) (owner := RX5) (kB_kind3 (xL X) (xD X) ka rfl he) (gw_of tw2_103 rfl) (gw_of tw2_106 rfl) (gw_of tw2_119 rfl) (gw_of tw2_104 rfl) (gw_of tw2_113 rfl) (gw_of tw2_114 rfl) (gw_of tw1_8 rfl) (gw_of tw2_115 rfl) (by decide +kernel) (by decide) (by omega) he (hc := rfl) rfl rfl hsum z00 d (fun z w hw => ?_)
    obtain ⟨rfl, rfl⟩ := hw
    exact k
  · refine g_callU (np := 0) C (As := []) (x := yX5_kind) (owner := RX5) (kB_kind4 (xL X) (xD X) ka rfl he) (gw_of tw2_103 rfl) (gw_of tw2_106 rfl) (gw_of tw2_119 rfl) (gw_of tw2_104 rfl) (gw_of tw2_116 rfl) (gw_of tw2_117 rfl) (gw_of tw1_11 rfl) (gw_of tw2_118 rfl) (by decide +kernel) (by decide) (by omega) he (hc := rfl) rfl rfl hsum z00 d (fun z w hw => ?_)
    obtain ⟨rfl, rfl⟩ := hw
    exact k
  · refine g_callU (np := 0) C (As := []) (x := yX5_kind) (owner := RX5) (kB_kind5 (xL X) (xD X) ka rfl he) (gw_of tw2_103 rfl) (gw_of tw2_106 rfl) (gw_of tw2_119 rfl) (gw_of tw2_104 rfl) (gw_of tw2_105 rfl) (gw_of tw2_104 rfl) (gw_of tw1_7 rfl) (gw_of tw2_119 rfl) (by decide +kernel) (by decide) (by omega) he (hc := rfl) rfl rfl hsum z00 d (fun z w hw => ?_)
    obtain ⟨rfl, rfl⟩ := hw
    exact k
theorem gvX9_hauls {X : XT} {cc : ByteArray} {nL : Nat} {rt : Option FieldType} {ka : Nat → ClassId} {lvl pc : Nat} {lv : List (Nat × Value)} {st : List Value} {ws : va_W} {q b c : Nat} {p h laid more : Int32} (C : Cx X cc nL RX9 rt ka lvl) (ho : bOK c) (he : ws[q]? = some (b, .inr (c, [.int p, .int h]))) (hlc : 2 < lvl) (hsum : (st.map fun v => v.category).sum ≤ 8) (d : decode cc pc = .ok (.invokevirtual 74, 3)) (k : G X 0 0 ws (pc + 3) lv (.int (haulsV c p h laid more) :: st)) : G X 0 0 ws pc lv (.int more :: .int laid :: .ref b :: st) := by
  rcases ho with rfl | rfl | rfl | rfl | rfl
  · refine g_callU (np := 2) C (As := [.int laid, .int more]) (x := yX5_hauls) (owner := RX5) (kB_hauls5 (xL X) (xD X) ka (Or.inl rfl) he laid more) (gw_of tw2_120 rfl) (gw_of tw2_123 rfl) (gw_of tw2_135 rfl) (gw_of tw2_121 rfl) (gw_of tw2_124 rfl) (gw_of tw2_121 rfl) (gw_of tw1_7 rfl) (gw_of tw2_135 rfl) (by decide +kernel) (by decide) (by omega) he (hc := rfl) rfl rfl hsum z00 d (fun z w hw => ?_)
    obtain ⟨rfl, rfl⟩ := hw
    exact k
  · refine g_callU (np := 2) C (As := [.int laid, .int more]) (x := yX5_hauls) (owner := RX5) (kB_hauls2 (xL X) (xD X) ka rfl he laid more) (gw_of tw2_120 rfl) (gw_of tw2_123 rfl) (gw_of tw2_135 rfl) (gw_of tw2_121 rfl) (gw_of tw2_125 rfl) (gw_of tw2_126 rfl) (gw_of tw1_10 rfl) (gw_of tw2_127 rfl) (by decide +kernel) (by decide) (by omega) he (hc := rfl) rfl rfl hsum z00 d (fun z w hw => ?_)
    obtain ⟨rfl, rfl⟩ := hw
    exact k
  · refine g_callU (np := 2) C (As := [.int laid, .int more]) (x := yX5_hauls) (owner := RX5) (kB_hauls3 (xL X) (xD X) ka (Or.inr rfl) he laid more) (gw_of tw2_120 rfl) (gw_of tw2_123 rfl) (gw_of tw2_135 rfl) (gw_of tw2_121 rfl) (gw_of tw2_131 rfl) (gw_of tw2_129 rfl) (gw_of tw1_8 rfl) (gw_of tw2_130 rfl) (by decide +kernel) (by decide) (by omega) he (hc := rfl) rfl rfl hsum z00 d (fun z w hw => ?_)
    obtain ⟨rfl, rfl⟩ := hw
    exact k
  · refine g_callU (np := 2) C (As := [.int laid, .int more]) (x := yX5_hauls) (owner := RX5) (kB_hauls4 (xL X) (xD X) ka rfl he laid more) (gw_of tw2_120 rfl) (gw_of tw2_123 rfl) (gw_of tw2_135 rfl) (gw_of tw2_121 rfl) (gw_of tw2_132 rfl) (gw_of tw2_133 rfl) (gw_of tw1_11 rfl) (gw_of tw2_134 rfl) (by decide +kernel) (by decide) (by omega) he (hc := rfl) rfl rfl hsum z00 d (fun z w hw => ?_)
    obtain ⟨rfl, rfl⟩ := hw
    exact k
  · refine g_callU (np := 2) C (As := [.int laid, .int more]) (x := yX5_hauls) (owner := RX5) (kB_hauls5 (xL X) (xD X) ka (Or.inr (Or.inr (Or.inr (Or.inr rfl)))) he laid more) (gw_of tw2_120 rfl) (gw_of tw2_123 rfl) (gw_of tw2_135 rfl) (gw_of tw2_121 rfl) (gw_of tw2_122 rfl) (gw_of tw2_121 rfl) (gw_of tw1_7 rfl) (gw_of tw2_135 rfl) (by decide +kernel) (by decide) (by omega) he (hc := rfl) rfl rfl hsum z00 d (fun z w hw => ?_)
    obtain ⟨rfl, rfl⟩ := hw
    exact k
theorem gvX9_lays {X : XT} {cc : ByteArray} {nL : Nat} {rt : Option FieldType} {ka : Nat → ClassId} {lvl pc : Nat} {lv : List (Nat × Value)} {st : List Value} {ws : va_W} {q b c : Nat} {p h wt laid more : Int32} (C : Cx X cc nL RX9 rt ka lvl) (ho : bOK c) (he : ws[q]? = some (b, .inr (c, [.int p, .int h]))) (hlc : 3 < lvl) (hsum : (st.map fun v => v.category).sum ≤ 8) (d : decode cc pc = .ok (.invokevirtual 78, 3)) (k : G X 0 0 ws (pc + 3) lv (.int (laysV c p h wt laid more) :: st)) : G X 0 0 ws pc lv (.int more :: .int laid :: .int wt :: .ref b :: st) := by
  rcases ho with rfl | rfl | rfl | rfl | rfl
  · refine g_callU (np := 3) C (As := [.int wt, .int laid, .int more]) (x := yX5_lays) (owner := RX5) (kB_lays (xL X) (xD X) ka (Or.inl rfl) he wt laid more) (gw_of tw2_136 rfl) (gw_of tw2_139 rfl) (gw_of tw2_144 rfl) (gw_of tw2_137 rfl) (gw_of tw2_140 rfl) (gw_of tw2_137 rfl) (gw_of tw1_7 rfl) (gw_of tw2_144 rfl) (by decide +kernel) (by decide) (by omega) he (hc := rfl) rfl rfl hsum z00 d (fun z w hw => ?_)
    obtain ⟨rfl, rfl⟩ := hw
    exact k
  · refine g_callU (np := 3) C (As := [.int wt, .int laid, .int more]) (x := yX5_lays) (owner := RX5) (kB_lays (xL X) (xD X) ka (Or.inr (Or.inl rfl)) he wt laid more) (gw_of tw2_136 rfl) (gw_of tw2_139 rfl) (gw_of tw2_144 rfl) (gw_of tw2_137 rfl) (gw_of tw2_141 rfl) (gw_of tw2_137 rfl) (gw_of tw1_7 rfl) (gw_of tw2_144 rfl) (by decide +kernel) (by decide) (by omega) he (hc := rfl) rfl rfl hsum z00 d (fun z w hw => ?_)
    obtain ⟨rfl, rfl⟩ := hw
    exact k
  · refine g_callU (np := 3) C (As := [.int wt, .int laid, .int more]) (x := yX5_lays) (owner := RX5) (kB_lays (xL X) (xD X) ka (Or.inr (Or.inr (Or.inl rfl))) he wt laid more) (gw_of tw2_136 rfl) (gw_of tw2_139 rfl) (gw_of tw2_144 rfl) (gw_of tw2_137 rfl) (gw_of tw2_142 rfl) (gw_of tw2_137 rfl) (gw_of tw1_7 rfl) (gw_of tw2_144 rfl) (by decide +kernel) (by decide) (by omega) he (hc := rfl) rfl rfl hsum z00 d (fun z w hw => ?_)
    obtain ⟨rfl, rfl⟩ := hw
    exact k
  · refine g_callU (np := 3) C (As := [.int wt, .int laid, .int more]) (x := yX5_lays) (owner := RX5) (kB_lays (xL X) (xD X) ka (Or.inr (Or.inr (Or.inr (Or.inl rfl)))) he wt laid more) (gw_of tw2_136 rfl) (gw_of tw2_139 rfl) (gw_of tw2_144 rfl) (gw_of tw2_137 rfl) (gw_of tw2_143 rfl) (gw_of tw2_137 rfl) (gw_of tw1_7 rfl) (gw_of tw2_144 rfl) (by decide +kernel) (by decide) (by omega) he (hc := rfl) rfl rfl hsum z00 d (fun z w hw => ?_)
    obtain ⟨rfl, rfl⟩ := hw
    exact k
  · refine g_callU (np := 3) C (As := [.int wt, .int laid, .int more]) (x := yX5_lays) (owner := RX5) (kB_lays (xL X) (xD X) ka (Or.inr (Or.inr (Or.inr (Or.inr rfl)))) he wt laid more) (gw_of tw2_136 rfl) (gw_of tw2_139 rfl) (gw_of tw2_144 rfl) (gw_of tw2_137 rfl) (gw_of tw2_138 rfl) (gw_of tw2_137 rfl) (gw_of tw1_7 rfl) (gw_of tw2_144 rfl) (by decide +kernel) (by decide) (by omega) he (hc := rfl) rfl rfl hsum z00 d (fun z w hw => ?_)
    obtain ⟨rfl, rfl⟩ := hw
    exact k
/-- a builder's place in the world -/
theorem wC_b {ad : Nat → Nat} {ka : Nat → ClassId} {F : FT} {R : RT} {J : JT} {P : PT} {B : BT} {b c : Nat} {p q : Int32} (hm : (b, c, p, q) ∈ B) : ∃ i : Nat, (wC ad ka F R J P B)[i]? = some (b, .inr (c, [.int p, .int q])) := by
  obtain ⟨i, hi⟩ := List.getElem?_of_mem hm
  refine ⟨35 + i, ?_⟩
  show (wCs ad ka F R J P ++ B.map bcell)[35 + i]? = _
  rw [List.getElem?_append_right (show (wCs ad ka F R J P).length ≤ 35 + i from Nat.le_add_right 35 i)]
  show (B.map bcell)[35 + i - 35]? = _
  rw [Nat.add_sub_cancel_left, List.getElem?_map, hi]
  rfl
def qB_kind (F : FT) (R : RT) (J : JT) (P : PT) (B : BT) (b : Nat)  (K : Int32 → FT → RT → JT → PT → BT → Prop) : Prop := ∃ (c : Nat) (p h : Int32), (b, c, p, h) ∈ B ∧ bOK c ∧ K (kindV c) F R J P B
def qB_hauls (F : FT) (R : RT) (J : JT) (P : PT) (B : BT) (b : Nat) (laid : Int32) (more : Int32) (K : Int32 → FT → RT → JT → PT → BT → Prop) : Prop := ∃ (c : Nat) (p h : Int32), (b, c, p, h) ∈ B ∧ bOK c ∧ K (haulsV c p h laid more) F R J P B
def qB_lays (F : FT) (R : RT) (J : JT) (P : PT) (B : BT) (b : Nat) (wt : Int32) (laid : Int32) (more : Int32) (K : Int32 → FT → RT → JT → PT → BT → Prop) : Prop := ∃ (c : Nat) (p h : Int32), (b, c, p, h) ∈ B ∧ bOK c ∧ K (laysV c p h wt laid more) F R J P B
theorem gB_X7_lays {X : XT} {cc : ByteArray} {nL : Nat} {rt : Option FieldType} {ka : Nat → ClassId} {lvl pc : Nat} {lv : List (Nat × Value)} {st : List Value} {ad : Nat → Nat} {F : FT} {R : RT} {J : JT} {P : PT} {B : BT} {b : Nat} {wt laid more : Int32} {K : Int32 → FT → RT → JT → PT → BT → Prop} (C : Cx X cc nL RX7 rt ka lvl) (hq : qB_lays F R J P B b wt laid more K) (hlc : 3 < lvl) (hsum : (st.map fun v => v.category).sum ≤ 8) (d : decode cc pc = .ok (.invokevirtual 62, 3)) (k : ∀ (z : Int32) (w : va_W), (∃ F R J P B, w = wC ad ka F R J P B ∧ K z F R J P B) → G X 0 0 w (pc + 3) lv (.int z :: st)) : G X 0 0 (wC ad ka F R J P B) pc lv (.int more :: .int laid :: .int wt :: .ref b :: st) := by
  obtain ⟨c, p, h, hm, ho, hK⟩ := hq
  obtain ⟨i, he⟩ := wC_b (ad := ad) (ka := ka) (F := F) (R := R) (J := J) (P := P) hm
  exact gvX7_lays C ho he hlc hsum d (k _ _ ⟨_, _, _, _, _, rfl, hK⟩)
theorem gB_X9_kind {X : XT} {cc : ByteArray} {nL : Nat} {rt : Option FieldType} {ka : Nat → ClassId} {lvl pc : Nat} {lv : List (Nat × Value)} {st : List Value} {ad : Nat → Nat} {F : FT} {R : RT} {J : JT} {P : PT} {B : BT} {b : Nat} {K : Int32 → FT → RT → JT → PT → BT → Prop} (C : Cx X cc nL RX9 rt ka lvl) (hq : qB_kind F R J P B b  K) (hlc : 1 < lvl) (hsum : (st.map fun v => v.category).sum ≤ 8) (d : decode cc pc = .ok (.invokevirtual 59, 3)) (k : ∀ (z : Int32) (w : va_W), (∃ F R J P B, w = wC ad ka F R J P B ∧ K z F R J P B) → G X 0 0 w (pc + 3) lv (.int z :: st)) : G X 0 0 (wC ad ka F R J P B) pc lv (.ref b :: st) := by
  obtain ⟨c, p, h, hm, ho, hK⟩ := hq
  obtain ⟨i, he⟩ := wC_b (ad := ad) (ka := ka) (F := F) (R := R) (J := J) (P := P) hm
  exact gvX9_kind C ho he hlc hsum d (k _ _ ⟨_, _, _, _, _, rfl, hK⟩)
theorem gB_X9_hauls {X : XT} {cc : ByteArray} {nL : Nat} {rt : Option FieldType} {ka : Nat → ClassId} {lvl pc : Nat} {lv : List (Nat × Value)} {st : List Value} {ad : Nat → Nat} {F : FT} {R : RT} {J : JT} {P : PT} {B : BT} {b : Nat} {laid more : Int32} {K : Int32 → FT → RT → JT → PT → BT → Prop} (C : Cx X cc nL RX9 rt ka lvl) (hq : qB_hauls F R J P B b laid more K) (hlc : 2 < lvl) (hsum : (st.map fun v => v.category).sum ≤ 8) (d : decode cc pc = .ok (.invokevirtual 74, 3)) (k : ∀ (z : Int32) (w : va_W), (∃ F R J P B, w = wC ad ka F R J P B ∧ K z F R J P B) → G X 0 0 w (pc + 3) lv (.int z :: st)) : G X 0 0 (wC ad ka F R J P B) pc lv (.int more :: .int laid :: .ref b :: st) := by
  obtain ⟨c, p, h, hm, ho, hK⟩ := hq
  obtain ⟨i, he⟩ := wC_b (ad := ad) (ka := ka) (F := F) (R := R) (J := J) (P := P) hm
  exact gvX9_hauls C ho he hlc hsum d (k _ _ ⟨_, _, _, _, _, rfl, hK⟩)
theorem gB_X9_lays {X : XT} {cc : ByteArray} {nL : Nat} {rt : Option FieldType} {ka : Nat → ClassId} {lvl pc : Nat} {lv : List (Nat × Value)} {st : List Value} {ad : Nat → Nat} {F : FT} {R : RT} {J : JT} {P : PT} {B : BT} {b : Nat} {wt laid more : Int32} {K : Int32 → FT → RT → JT → PT → BT → Prop} (C : Cx X cc nL RX9 rt ka lvl) (hq : qB_lays F R J P B b wt laid more K) (hlc : 3 < lvl) (hsum : (st.map fun v => v.category).sum ≤ 8) (d : decode cc pc = .ok (.invokevirtual 78, 3)) (k : ∀ (z : Int32) (w : va_W), (∃ F R J P B, w = wC ad ka F R J P B ∧ K z F R J P B) → G X 0 0 w (pc + 3) lv (.int z :: st)) : G X 0 0 (wC ad ka F R J P B) pc lv (.int more :: .int laid :: .int wt :: .ref b :: st) := by
  obtain ⟨c, p, h, hm, ho, hK⟩ := hq
  obtain ⟨i, he⟩ := wC_b (ad := ad) (ka := ka) (F := F) (R := R) (J := J) (P := P) hm
  exact gvX9_lays C ho he hlc hsum d (k _ _ ⟨_, _, _, _, _, rfl, hK⟩)
theorem Bg_X9_pace {X : XT} {cc : ByteArray} {nL : Nat} {rt : Option FieldType} {ka : Nat → ClassId} {lvl cells slots pc : Nat} {lv : List (Nat × Value)} {st : List Value} {ad : Nat → Nat} {F : FT} {R : RT} {J : JT} {P : PT} {B : BT} {b c : Nat} {p h : Int32} (C : Cx X cc nL RX9 rt ka lvl) (hm : (b, c, p, h) ∈ B) (ho : bOK c) (d : decode cc pc = .ok (.getfield 65, 3)) (kk : G X cells slots (wC ad ka F R J P B) (pc + 3) lv (.int p :: st)) : G X cells slots (wC ad ka F R J P B) pc lv (.ref b :: st) := by
  obtain ⟨i, he⟩ := wC_b (ad := ad) (ka := ka) (F := F) (R := R) (J := J) (P := P) hm
  exact gbX9_pace C ho he d kk
theorem Bg_X9_horse {X : XT} {cc : ByteArray} {nL : Nat} {rt : Option FieldType} {ka : Nat → ClassId} {lvl cells slots pc : Nat} {lv : List (Nat × Value)} {st : List Value} {ad : Nat → Nat} {F : FT} {R : RT} {J : JT} {P : PT} {B : BT} {b c : Nat} {p h : Int32} (C : Cx X cc nL RX9 rt ka lvl) (hm : (b, c, p, h) ∈ B) (ho : bOK c) (d : decode cc pc = .ok (.getfield 68, 3)) (kk : G X cells slots (wC ad ka F R J P B) (pc + 3) lv (.int h :: st)) : G X cells slots (wC ad ka F R J P B) pc lv (.ref b :: st) := by
  obtain ⟨i, he⟩ := wC_b (ad := ad) (ka := ka) (F := F) (R := R) (J := J) (P := P) hm
  exact gbX9_horse C ho he d kk
theorem Ca_sheets {X : XT} {cc : ByteArray} {nL : Nat} {own : String} {rt : Option FieldType} {ka : Nat → ClassId} {lvl cells slots pc : Nat} {lv : List (Nat × Value)} {st : List Value} {ad : Nat → Nat} {F : FT} {R : RT} {J : JT} {P : PT} {B : BT} (C : Cx X cc nL own rt ka lvl) {i : Int32} (hi : vp_in i 4) (d : decode cc pc = .ok (.aaload, 1)) (kk : G X cells slots (wC ad ka F R J P B) (pc + 1) lv (.ref (ad (599 + 100 * i.toNatClampNeg)) :: st)) : G X cells slots (wC ad ka F R J P B) pc lv (.int i :: .ref (ad 4) :: st) := by
  intro H locs ls hP hD hS hl
  refine va_aldq (f := shF ad) C.ex C.co C.ks hP 30 4 rfl rfl hi d ?_
  have e : shF ad i.toNatClampNeg = some (ad (599 + 100 * i.toNatClampNeg)) := by
    have hj := vp_lt hi
    generalize i.toNatClampNeg = j at hj ⊢
    match j, hj with | 0, _ => rfl | 1, _ => rfl | 2, _ => rfl | 3, _ => rfl
  rw [e]
  exact kk H locs ls hP hD hS hl
theorem Ca_P114 {X : XT} {cc : ByteArray} {nL : Nat} {own : String} {rt : Option FieldType} {ka : Nat → ClassId} {lvl cells slots pc : Nat} {lv : List (Nat × Value)} {st : List Value} {ad : Nat → Nat} {F : FT} {R : RT} {J : JT} {P : PT} {B : BT} (C : Cx X cc nL own rt ka lvl) {f : Nat → Option Nat} (hf : P 114 = f) {i : Int32} (hi : vp_in i 4) (d : decode cc pc = .ok (.aaload, 1)) (kk : G X cells slots (wC ad ka F R J P B) (pc + 1) lv (va_rf (f i.toNatClampNeg) :: st)) : G X cells slots (wC ad ka F R J P B) pc lv (.int i :: .ref (ad 114) :: st) := by
  subst hf
  exact fun H locs ls hP hD hS hl => va_aldq (f := P 114) C.ex C.co C.ks hP 9 3 rfl rfl hi d (kk H locs ls hP hD hS hl)
theorem Ca_Q114 {X : XT} {cc : ByteArray} {nL : Nat} {own : String} {rt : Option FieldType} {ka : Nat → ClassId} {lvl cells slots pc : Nat} {lv : List (Nat × Value)} {st : List Value} {ad : Nat → Nat} {F : FT} {R : RT} {J : JT} {P : PT} {B : BT} (C : Cx X cc nL own rt ka lvl) {f : Nat → Option Nat} (hf : P 114 = f) {i : Int32} (hi : vp_in i 4) {b : Nat} (hb : f i.toNatClampNeg = some b) (d : decode cc pc = .ok (.aaload, 1)) (kk : G X cells slots (wC ad ka F R J P B) (pc + 1) lv (.ref b :: st)) : G X cells slots (wC ad ka F R J P B) pc lv (.int i :: .ref (ad 114) :: st) := by
  refine Ca_P114 C hf hi d ?_
  rw [hb]
  exact kk
theorem Cs_P114 {X : XT} {cc : ByteArray} {nL : Nat} {own : String} {rt : Option FieldType} {ka : Nat → ClassId} {lvl cells slots pc : Nat} {lv : List (Nat × Value)} {st : List Value} {ad : Nat → Nat} {F : FT} {R : RT} {J : JT} {P : PT} {B : BT} (C : Cx X cc nL own rt ka lvl) {f : Nat → Option Nat} (hf : P 114 = f) {i : Int32} (hi : vp_in i 4) {b : Nat} (hb : inB B b) (d : decode cc pc = .ok (.aastore, 1)) (kk : G X cells slots (wC ad ka F R J (va_up P 114 (va_up f i.toNatClampNeg (some b))) B) (pc + 1) lv st) : G X cells slots (wC ad ka F R J P B) pc lv (.ref b :: .int i :: .ref (ad 114) :: st) := by
  subst hf
  obtain ⟨c, p, h, hm, ho⟩ := hb
  obtain ⟨j, he⟩ := wC_b (ad := ad) (ka := ka) (F := F) (R := R) (J := J) (P := P) hm
  intro H locs ls hP hD hS hl
  rcases ho with rfl | rfl | rfl | rfl | rfl
  · exact va_astqO C.ex C.co C.ks hP hD hS 9 3 j 0 (f := P 114) (E := RX5) rfl rfl (r := (RX0, TX0, 2)) C.ext.c0 he rfl hi d (fun H1 locs1 hP1 hD1 hS1 => kk H1 locs1 ls hP1 hD1 hS1 hl)
  · exact va_astqO C.ex C.co C.ks hP hD hS 9 3 j 2 (f := P 114) (E := RX5) rfl rfl (r := (RX2, TX2, 2)) C.ext.c2 he rfl hi d (fun H1 locs1 hP1 hD1 hS1 => kk H1 locs1 ls hP1 hD1 hS1 hl)
  · exact va_astqO C.ex C.co C.ks hP hD hS 9 3 j 3 (f := P 114) (E := RX5) rfl rfl (r := (RX3, TX3, 2)) C.ext.c3 he rfl hi d (fun H1 locs1 hP1 hD1 hS1 => kk H1 locs1 ls hP1 hD1 hS1 hl)
  · exact va_astqO C.ex C.co C.ks hP hD hS 9 3 j 4 (f := P 114) (E := RX5) rfl rfl (r := (RX4, TX4, 2)) C.ext.c4 he rfl hi d (fun H1 locs1 hP1 hD1 hS1 => kk H1 locs1 ls hP1 hD1 hS1 hl)
  · exact va_astq C.ex C.co C.ks hP hD hS 9 3 j 5 (f := P 114) (r := (RX5, TX5, 2)) rfl rfl he rfl hi d (fun H1 locs1 hP1 hD1 hS1 => kk H1 locs1 ls hP1 hD1 hS1 hl)
theorem Cs_Q114 {X : XT} {cc : ByteArray} {nL : Nat} {own : String} {rt : Option FieldType} {ka : Nat → ClassId} {lvl cells slots pc : Nat} {lv : List (Nat × Value)} {st : List Value} {ad : Nat → Nat} {F : FT} {R : RT} {J : JT} {P : PT} {B : BT} (C : Cx X cc nL own rt ka lvl) {f : Nat → Option Nat} (hf : P 114 = f) {i : Int32} (hi : vp_in i 4) {z : Option Nat} (hb : ∀ b : Nat, z = some b → inB B b) (d : decode cc pc = .ok (.aastore, 1)) (kk : G X cells slots (wC ad ka F R J (va_up P 114 (va_up f i.toNatClampNeg z)) B) (pc + 1) lv st) : G X cells slots (wC ad ka F R J P B) pc lv (va_rf z :: .int i :: .ref (ad 114) :: st) := by
  cases z with
  | some b => exact Cs_P114 C hf hi (hb b rfl) d kk
  | none =>
    subst hf
    exact fun H locs ls hP hD hS hl => va_astqN C.ex C.co C.ks hP hD hS 9 3 (f := P 114) rfl rfl hi d (fun H1 locs1 hP1 hD1 hS1 => kk H1 locs1 ls hP1 hD1 hS1 hl)
theorem Ca_P214 {X : XT} {cc : ByteArray} {nL : Nat} {own : String} {rt : Option FieldType} {ka : Nat → ClassId} {lvl cells slots pc : Nat} {lv : List (Nat × Value)} {st : List Value} {ad : Nat → Nat} {F : FT} {R : RT} {J : JT} {P : PT} {B : BT} (C : Cx X cc nL own rt ka lvl) {f : Nat → Option Nat} (hf : P 214 = f) {i : Int32} (hi : vp_in i 4) (d : decode cc pc = .ok (.aaload, 1)) (kk : G X cells slots (wC ad ka F R J P B) (pc + 1) lv (va_rf (f i.toNatClampNeg) :: st)) : G X cells slots (wC ad ka F R J P B) pc lv (.int i :: .ref (ad 214) :: st) := by
  subst hf
  exact fun H locs ls hP hD hS hl => va_aldq (f := P 214) C.ex C.co C.ks hP 13 3 rfl rfl hi d (kk H locs ls hP hD hS hl)
theorem Ca_Q214 {X : XT} {cc : ByteArray} {nL : Nat} {own : String} {rt : Option FieldType} {ka : Nat → ClassId} {lvl cells slots pc : Nat} {lv : List (Nat × Value)} {st : List Value} {ad : Nat → Nat} {F : FT} {R : RT} {J : JT} {P : PT} {B : BT} (C : Cx X cc nL own rt ka lvl) {f : Nat → Option Nat} (hf : P 214 = f) {i : Int32} (hi : vp_in i 4) {b : Nat} (hb : f i.toNatClampNeg = some b) (d : decode cc pc = .ok (.aaload, 1)) (kk : G X cells slots (wC ad ka F R J P B) (pc + 1) lv (.ref b :: st)) : G X cells slots (wC ad ka F R J P B) pc lv (.int i :: .ref (ad 214) :: st) := by
  refine Ca_P214 C hf hi d ?_
  rw [hb]
  exact kk
theorem Cs_P214 {X : XT} {cc : ByteArray} {nL : Nat} {own : String} {rt : Option FieldType} {ka : Nat → ClassId} {lvl cells slots pc : Nat} {lv : List (Nat × Value)} {st : List Value} {ad : Nat → Nat} {F : FT} {R : RT} {J : JT} {P : PT} {B : BT} (C : Cx X cc nL own rt ka lvl) {f : Nat → Option Nat} (hf : P 214 = f) {i : Int32} (hi : vp_in i 4) {b : Nat} (hb : inB B b) (d : decode cc pc = .ok (.aastore, 1)) (kk : G X cells slots (wC ad ka F R J (va_up P 214 (va_up f i.toNatClampNeg (some b))) B) (pc + 1) lv st) : G X cells slots (wC ad ka F R J P B) pc lv (.ref b :: .int i :: .ref (ad 214) :: st) := by
  subst hf
  obtain ⟨c, p, h, hm, ho⟩ := hb
  obtain ⟨j, he⟩ := wC_b (ad := ad) (ka := ka) (F := F) (R := R) (J := J) (P := P) hm
  intro H locs ls hP hD hS hl
  rcases ho with rfl | rfl | rfl | rfl | rfl
  · exact va_astqO C.ex C.co C.ks hP hD hS 13 3 j 0 (f := P 214) (E := RX5) rfl rfl (r := (RX0, TX0, 2)) C.ext.c0 he rfl hi d (fun H1 locs1 hP1 hD1 hS1 => kk H1 locs1 ls hP1 hD1 hS1 hl)
  · exact va_astqO C.ex C.co C.ks hP hD hS 13 3 j 2 (f := P 214) (E := RX5) rfl rfl (r := (RX2, TX2, 2)) C.ext.c2 he rfl hi d (fun H1 locs1 hP1 hD1 hS1 => kk H1 locs1 ls hP1 hD1 hS1 hl)
  · exact va_astqO C.ex C.co C.ks hP hD hS 13 3 j 3 (f := P 214) (E := RX5) rfl rfl (r := (RX3, TX3, 2)) C.ext.c3 he rfl hi d (fun H1 locs1 hP1 hD1 hS1 => kk H1 locs1 ls hP1 hD1 hS1 hl)
  · exact va_astqO C.ex C.co C.ks hP hD hS 13 3 j 4 (f := P 214) (E := RX5) rfl rfl (r := (RX4, TX4, 2)) C.ext.c4 he rfl hi d (fun H1 locs1 hP1 hD1 hS1 => kk H1 locs1 ls hP1 hD1 hS1 hl)
  · exact va_astq C.ex C.co C.ks hP hD hS 13 3 j 5 (f := P 214) (r := (RX5, TX5, 2)) rfl rfl he rfl hi d (fun H1 locs1 hP1 hD1 hS1 => kk H1 locs1 ls hP1 hD1 hS1 hl)
theorem Cs_Q214 {X : XT} {cc : ByteArray} {nL : Nat} {own : String} {rt : Option FieldType} {ka : Nat → ClassId} {lvl cells slots pc : Nat} {lv : List (Nat × Value)} {st : List Value} {ad : Nat → Nat} {F : FT} {R : RT} {J : JT} {P : PT} {B : BT} (C : Cx X cc nL own rt ka lvl) {f : Nat → Option Nat} (hf : P 214 = f) {i : Int32} (hi : vp_in i 4) {z : Option Nat} (hb : ∀ b : Nat, z = some b → inB B b) (d : decode cc pc = .ok (.aastore, 1)) (kk : G X cells slots (wC ad ka F R J (va_up P 214 (va_up f i.toNatClampNeg z)) B) (pc + 1) lv st) : G X cells slots (wC ad ka F R J P B) pc lv (va_rf z :: .int i :: .ref (ad 214) :: st) := by
  cases z with
  | some b => exact Cs_P214 C hf hi (hb b rfl) d kk
  | none =>
    subst hf
    exact fun H locs ls hP hD hS hl => va_astqN C.ex C.co C.ks hP hD hS 13 3 (f := P 214) rfl rfl hi d (fun H1 locs1 hP1 hD1 hS1 => kk H1 locs1 ls hP1 hD1 hS1 hl)
theorem Sc_items {X : XT} {cc : ByteArray} {nL : Nat} {own : String} {rt : Option FieldType} {ka : Nat → ClassId} {lvl cells slots pc : Nat} {lv : List (Nat × Value)} {st : List Value} {ad : Nat → Nat} {F : FT} {R : RT} {J : JT} {P : PT} {B : BT} (C : Cx X cc nL own rt ka lvl) (j0 : Nat) (h0 : j0 < 4) (j1 : Nat) (h1 : j1 < 4) {sp dp n : Int32} (e1 : ¬ sp < 0) (e2 : ¬ dp < 0) (e3 : ¬ n < 0) (e4 : sp.toNatClampNeg + n.toNatClampNeg ≤ 24) (e5 : dp.toNatClampNeg + n.toNatClampNeg ≤ 24) {index : Nat} (hlink : Cond.methodLink own index arraycopyName ∈ gw) (hlv : 0 < lvl) (hsum : (st.map fun v => v.category).sum ≤ 8) (d : decode cc pc = .ok (.invokestatic index, 3)) (kk : G X cells slots (wC ad ka F R (va_up J (503 + 100 * j1) (va_cpy (J (503 + 100 * j0)) (J (503 + 100 * j1)) sp.toNatClampNeg dp.toNatClampNeg n.toNatClampNeg)) P B) (pc + 3) lv st) : G X cells slots (wC ad ka F R J P B) pc lv (.int n :: .int dp :: .ref (ad (503 + 100 * j1)) :: .int sp :: .ref (ad (503 + 100 * j0)) :: st) := g_copyl C (31 + j0) (31 + j1) (wC_i j0 h0) (wC_i j1 h1) e1 e2 e3 e4 e5 hlink hlv hsum _ (wC_is j1 h1 _) d kk
/-- Plain(pace, horse), on an object of any of the five classes -/
theorem kB_init5 (l : Launch) (D : va_G) (ka : Nat → ClassId) (ws0 : va_W) (b c : Nat) (ho : bOK c) (p h : Int32) : MV l D ka yX5_init cX5_init 3 none 1 0 0 [.ref b, .int p, .int h] (ws0 ++ [(b, .inr (c, [.int 0, .int 0]))]) (fun w => w = ws0 ++ [(b, .inr (c, [.int p, .int h]))]) := by
  refine MVn_of (by decide) (Nat.le_of_ble_eq_true rfl) (fun X C hnm _ hret => ?_)
  show G X 0 0 _ 0 [(0, .ref b), (1, .int p), (2, .int h)] []
  have hat : ∀ e : va_E, (ws0 ++ [(b, e)])[ws0.length]? = some (b, e) := fun e => by simp
  have hset : ∀ e e' : va_E, (ws0 ++ [(b, e)]).set ws0.length (b, e') = ws0 ++ [(b, e')] := fun e e' => by simp
  refine g_aload_n C 0 dX5_init_0 rfl ?_
  refine g_objInit C (gw_of tw2_50 rfl) (by decide) (Nat.le_of_ble_eq_true rfl) dX5_init_1 ?_
  refine g_aload_n C 0 dX5_init_4 rfl ?_
  refine g_iload_n C 1 dX5_init_5 rfl ?_
  rcases ho with rfl | rfl | rfl | rfl | rfl
  · refine g_putF C ws0.length (hat _) (hc := rfl) inX0 tyX0 tyX0_ok nmX0 0 (by decide) (index := 9) (ref := "SummerWall$Plain") (gw_of tw2_51 rfl) rfl rfl hnm rfl rfl rfl (Nat.le_of_ble_eq_true rfl) _ (hset _ _) dX5_init_6 ?_
    refine g_aload_n C 0 dX5_init_9 rfl ?_
    refine g_iload_n C 2 dX5_init_10 rfl ?_
    refine g_putF C ws0.length (hat _) (hc := rfl) inX0 tyX0 tyX0_ok nmX0 1 (by decide) (index := 15) (ref := "SummerWall$Plain") (gw_of tw2_57 rfl) rfl rfl hnm rfl rfl rfl (Nat.le_of_ble_eq_true rfl) _ (hset _ _) dX5_init_11 ?_
    exact hret _ _ _ rfl dX5_init_14
  · refine g_putF C ws0.length (hat _) (hc := rfl) inX2 tyX2 tyX2_ok nmX2 0 (by decide) (index := 9) (ref := "SummerWall$Plain") (gw_of tw2_51 rfl) rfl rfl hnm rfl rfl rfl (Nat.le_of_ble_eq_true rfl) _ (hset _ _) dX5_init_6 ?_
    refine g_aload_n C 0 dX5_init_9 rfl ?_
    refine g_iload_n C 2 dX5_init_10 rfl ?_
    refine g_putF C ws0.length (hat _) (hc := rfl) inX2 tyX2 tyX2_ok nmX2 1 (by decide) (index := 15) (ref := "SummerWall$Plain") (gw_of tw2_57 rfl) rfl rfl hnm rfl rfl rfl (Nat.le_of_ble_eq_true rfl) _ (hset _ _) dX5_init_11 ?_
    exact hret _ _ _ rfl dX5_init_14
  · refine g_putF C ws0.length (hat _) (hc := rfl) inX3 tyX3 tyX3_ok nmX3 0 (by decide) (index := 9) (ref := "SummerWall$Plain") (gw_of tw2_51 rfl) rfl rfl hnm rfl rfl rfl (Nat.le_of_ble_eq_true rfl) _ (hset _ _) dX5_init_6 ?_
    refine g_aload_n C 0 dX5_init_9 rfl ?_
    refine g_iload_n C 2 dX5_init_10 rfl ?_
    refine g_putF C ws0.length (hat _) (hc := rfl) inX3 tyX3 tyX3_ok nmX3 1 (by decide) (index := 15) (ref := "SummerWall$Plain") (gw_of tw2_57 rfl) rfl rfl hnm rfl rfl rfl (Nat.le_of_ble_eq_true rfl) _ (hset _ _) dX5_init_11 ?_
    exact hret _ _ _ rfl dX5_init_14
  · refine g_putF C ws0.length (hat _) (hc := rfl) inX4 tyX4 tyX4_ok nmX4 0 (by decide) (index := 9) (ref := "SummerWall$Plain") (gw_of tw2_51 rfl) rfl rfl hnm rfl rfl rfl (Nat.le_of_ble_eq_true rfl) _ (hset _ _) dX5_init_6 ?_
    refine g_aload_n C 0 dX5_init_9 rfl ?_
    refine g_iload_n C 2 dX5_init_10 rfl ?_
    refine g_putF C ws0.length (hat _) (hc := rfl) inX4 tyX4 tyX4_ok nmX4 1 (by decide) (index := 15) (ref := "SummerWall$Plain") (gw_of tw2_57 rfl) rfl rfl hnm rfl rfl rfl (Nat.le_of_ble_eq_true rfl) _ (hset _ _) dX5_init_11 ?_
    exact hret _ _ _ rfl dX5_init_14
  · refine g_putF C ws0.length (hat _) (hc := rfl) inX5 tyX5 tyX5_ok nmX5 0 (by decide) (index := 9) (ref := "SummerWall$Plain") (gw_of tw2_51 rfl) rfl rfl hnm rfl rfl rfl (Nat.le_of_ble_eq_true rfl) _ (hset _ _) dX5_init_6 ?_
    refine g_aload_n C 0 dX5_init_9 rfl ?_
    refine g_iload_n C 2 dX5_init_10 rfl ?_
    refine g_putF C ws0.length (hat _) (hc := rfl) inX5 tyX5 tyX5_ok nmX5 1 (by decide) (index := 15) (ref := "SummerWall$Plain") (gw_of tw2_57 rfl) rfl rfl hnm rfl rfl rfl (Nat.le_of_ble_eq_true rfl) _ (hset _ _) dX5_init_11 ?_
    exact hret _ _ _ rfl dX5_init_14
theorem kB_init3 (l : Launch) (D : va_G) (ka : Nat → ClassId) (ws0 : va_W) (b c : Nat) (ho : c = 3 ∨ c = 2) (p h : Int32) : MV l D ka yX3_init cX3_init 3 none 2 0 0 [.ref b, .int p, .int h] (ws0 ++ [(b, .inr (c, [.int 0, .int 0]))]) (fun w => w = ws0 ++ [(b, .inr (c, [.int p, .int h]))]) := by
  refine MVn_of (by decide) (Nat.le_of_ble_eq_true rfl) (fun X C hnm _ hret => ?_)
  show G X 0 0 _ 0 [(0, .ref b), (1, .int p), (2, .int h)] []
  refine g_aload_n C 0 dX3_init_0 rfl ?_
  refine g_iload_n C 1 dX3_init_1 rfl ?_
  refine g_iload_n C 2 dX3_init_2 rfl ?_
  refine g_callI (np := 2) C (As := [.int p, .int h]) (kB_init5 (xL X) (xD X) ka ws0 b c (by rcases ho with rfl | rfl; exact Or.inr (Or.inr (Or.inl rfl)); exact Or.inr (Or.inl rfl)) p h) rfl (gw_of tw2_48 rfl) (gw_of tw1_7 rfl) (gw_of tw2_49 rfl) (by decide +kernel) (by decide) (gw_of tw2_47 rfl) (by decide) rfl rfl (Nat.le_of_ble_eq_true rfl) z00 dX3_init_3 (fun w hw => ?_)
  subst hw
  exact hret _ _ _ rfl dX3_init_6
theorem kB_init0 (l : Launch) (D : va_G) (ka : Nat → ClassId) (ws0 : va_W) (b c : Nat) (ho : c = 0) (p h : Int32) : MV l D ka yX0_init cX0_init 3 none 2 0 0 [.ref b, .int p, .int h] (ws0 ++ [(b, .inr (c, [.int 0, .int 0]))]) (fun w => w = ws0 ++ [(b, .inr (c, [.int p, .int h]))]) := by
  refine MVn_of (by decide) (Nat.le_of_ble_eq_true rfl) (fun X C hnm _ hret => ?_)
  show G X 0 0 _ 0 [(0, .ref b), (1, .int p), (2, .int h)] []
  refine g_aload_n C 0 dX0_init_0 rfl ?_
  refine g_iload_n C 1 dX0_init_1 rfl ?_
  refine g_iload_n C 2 dX0_init_2 rfl ?_
  refine g_callI (np := 2) C (As := [.int p, .int h]) (kB_init5 (xL X) (xD X) ka ws0 b c (by subst ho; exact Or.inl rfl) p h) rfl (gw_of tw2_48 rfl) (gw_of tw1_7 rfl) (gw_of tw2_49 rfl) (by decide +kernel) (by decide) (gw_of tw2_71 rfl) (by decide) rfl rfl (Nat.le_of_ble_eq_true rfl) z00 dX0_init_3 (fun w hw => ?_)
  subst hw
  exact hret _ _ _ rfl dX0_init_6
theorem kB_init4 (l : Launch) (D : va_G) (ka : Nat → ClassId) (ws0 : va_W) (b c : Nat) (ho : c = 4) (p h : Int32) : MV l D ka yX4_init cX4_init 3 none 2 0 0 [.ref b, .int p, .int h] (ws0 ++ [(b, .inr (c, [.int 0, .int 0]))]) (fun w => w = ws0 ++ [(b, .inr (c, [.int p, .int h]))]) := by
  refine MVn_of (by decide) (Nat.le_of_ble_eq_true rfl) (fun X C hnm _ hret => ?_)
  show G X 0 0 _ 0 [(0, .ref b), (1, .int p), (2, .int h)] []
  refine g_aload_n C 0 dX4_init_0 rfl ?_
  refine g_iload_n C 1 dX4_init_1 rfl ?_
  refine g_iload_n C 2 dX4_init_2 rfl ?_
  refine g_callI (np := 2) C (As := [.int p, .int h]) (kB_init5 (xL X) (xD X) ka ws0 b c (by subst ho; exact Or.inr (Or.inr (Or.inr (Or.inl rfl)))) p h) rfl (gw_of tw2_48 rfl) (gw_of tw1_7 rfl) (gw_of tw2_49 rfl) (by decide +kernel) (by decide) (gw_of tw2_89 rfl) (by decide) rfl rfl (Nat.le_of_ble_eq_true rfl) z00 dX4_init_3 (fun w hw => ?_)
  subst hw
  exact hret _ _ _ rfl dX4_init_6
theorem kB_init2 (l : Launch) (D : va_G) (ka : Nat → ClassId) (ws0 : va_W) (b c : Nat) (ho : c = 2) (p h : Int32) : MV l D ka yX2_init cX2_init 3 none 3 0 0 [.ref b, .int p, .int h] (ws0 ++ [(b, .inr (c, [.int 0, .int 0]))]) (fun w => w = ws0 ++ [(b, .inr (c, [.int p, .int h]))]) := by
  refine MVn_of (by decide) (Nat.le_of_ble_eq_true rfl) (fun X C hnm _ hret => ?_)
  show G X 0 0 _ 0 [(0, .ref b), (1, .int p), (2, .int h)] []
  refine g_aload_n C 0 dX2_init_0 rfl ?_
  refine g_iload_n C 1 dX2_init_1 rfl ?_
  refine g_iload_n C 2 dX2_init_2 rfl ?_
  refine g_callI (np := 2) C (As := [.int p, .int h]) (kB_init3 (xL X) (xD X) ka ws0 b c (Or.inr ho) p h) rfl (gw_of tw2_45 rfl) (gw_of tw1_8 rfl) (gw_of tw2_46 rfl) (by decide +kernel) (by decide) (gw_of tw2_80 rfl) (by decide) rfl rfl (Nat.le_of_ble_eq_true rfl) z00 dX2_init_3 (fun w hw => ?_)
  subst hw
  exact hret _ _ _ rfl dX2_init_6
def clsOf (k : Int32) : Nat := if k = 1 then 3 else if k = 2 then 0 else if k = 3 then 2 else if k = 4 then 4 else 5
theorem kB_ofKind (l : Launch) (D : va_G) (ka : Nat → ClassId) (ws : va_W) (k p h : Int32) : MR l D ka yX5_ofKind cX5_ofKind 3 (some (.object "SummerWall$Plain")) 4 1 2 [.int k, .int p, .int h] ws (fun z w => w = ws ++ [(z, .inr (clsOf k, [.int p, .int h]))]) := by
  refine MR_of (by decide) (Nat.le_of_ble_eq_true rfl) (fun X C hroom hret => ?_)
  show G X 0 0 _ 0 [(0, .int k), (1, .int p), (2, .int h)] []
  refine g_iload_n C 0 dX5_ofKind_0 rfl ?_
  by_cases c1 : k = 1
  · refine g_tableIn C (31) 32 dX5_ofKind_1 (by rw [c1]; decide) (by rw [c1]; decide) (by rw [c1]; decide) (by decide) ?_
    refine g_new C 3 (hc := rfl) inX3 tyX3 tyX3_ok (gw_of tw2_42 rfl) (gw_of tw2_43 rfl) (gw_of tw1_8 rfl) [.int 0, .int 0] (fun j hj => by rcases (show j = 0 ∨ j = 1 by omega) with rfl | rfl <;> rfl) (by rw [hroom.1, hroom.2]; decide) dX5_ofKind_32 (fun z => ?_)
    refine g_dup C dX5_ofKind_35 rfl ?_
    refine g_iload_n C 1 dX5_ofKind_36 rfl ?_
    refine g_iload_n C 2 dX5_ofKind_37 rfl ?_
    refine g_callI (np := 2) C (mc := 0) (ms := 0) (As := [.int p, .int h]) (kB_init3 (xL X) (xD X) ka ws z 3 (Or.inl rfl) p h) rfl (gw_of tw2_45 rfl) (gw_of tw1_8 rfl) (gw_of tw2_46 rfl) (by decide +kernel) (by decide) (gw_of tw2_44 rfl) (by decide) rfl rfl (Nat.le_of_ble_eq_true rfl) (by rw [hroom.1, hroom.2]; decide) dX5_ofKind_38 (fun w hw => ?_)
    exact hret _ _ _ _ (by rw [hw, show clsOf k = 3 by rw [c1]; rfl]) dX5_ofKind_41
  by_cases c2 : k = 2
  · refine g_tableIn C (41) 42 dX5_ofKind_1 (by rw [c2]; decide) (by rw [c2]; decide) (by rw [c2]; decide) (by decide) ?_
    refine g_new C 0 (hc := rfl) inX0 tyX0 tyX0_ok (gw_of tw2_66 rfl) (gw_of tw2_67 rfl) (gw_of tw1_9 rfl) [.int 0, .int 0] (fun j hj => by rcases (show j = 0 ∨ j = 1 by omega) with rfl | rfl <;> rfl) (by rw [hroom.1, hroom.2]; decide) dX5_ofKind_42 (fun z => ?_)
    refine g_dup C dX5_ofKind_45 rfl ?_
    refine g_iload_n C 1 dX5_ofKind_46 rfl ?_
    refine g_iload_n C 2 dX5_ofKind_47 rfl ?_
    refine g_callI (np := 2) C (mc := 0) (ms := 0) (As := [.int p, .int h]) (kB_init0 (xL X) (xD X) ka ws z 0 (rfl) p h) rfl (gw_of tw2_69 rfl) (gw_of tw1_9 rfl) (gw_of tw2_70 rfl) (by decide +kernel) (by decide) (gw_of tw2_68 rfl) (by decide) rfl rfl (Nat.le_of_ble_eq_true rfl) (by rw [hroom.1, hroom.2]; decide) dX5_ofKind_48 (fun w hw => ?_)
    exact hret _ _ _ _ (by rw [hw, show clsOf k = 0 by rw [c2]; rfl]) dX5_ofKind_51
  by_cases c3 : k = 3
  · refine g_tableIn C (51) 52 dX5_ofKind_1 (by rw [c3]; decide) (by rw [c3]; decide) (by rw [c3]; decide) (by decide) ?_
    refine g_new C 2 (hc := rfl) inX2 tyX2 tyX2_ok (gw_of tw2_75 rfl) (gw_of tw2_76 rfl) (gw_of tw1_10 rfl) [.int 0, .int 0] (fun j hj => by rcases (show j = 0 ∨ j = 1 by omega) with rfl | rfl <;> rfl) (by rw [hroom.1, hroom.2]; decide) dX5_ofKind_52 (fun z => ?_)
    refine g_dup C dX5_ofKind_55 rfl ?_
    refine g_iload_n C 1 dX5_ofKind_56 rfl ?_
    refine g_iload_n C 2 dX5_ofKind_57 rfl ?_
    refine g_callI (np := 2) C (mc := 0) (ms := 0) (As := [.int p, .int h]) (kB_init2 (xL X) (xD X) ka ws z 2 (rfl) p h) rfl (gw_of tw2_78 rfl) (gw_of tw1_10 rfl) (gw_of tw2_79 rfl) (by decide +kernel) (by decide) (gw_of tw2_77 rfl) (by decide) rfl rfl (Nat.le_of_ble_eq_true rfl) (by rw [hroom.1, hroom.2]; decide) dX5_ofKind_58 (fun w hw => ?_)
    exact hret _ _ _ _ (by rw [hw, show clsOf k = 2 by rw [c3]; rfl]) dX5_ofKind_61
  by_cases c4 : k = 4
  · refine g_tableIn C (61) 62 dX5_ofKind_1 (by rw [c4]; decide) (by rw [c4]; decide) (by rw [c4]; decide) (by decide) ?_
    refine g_new C 4 (hc := rfl) inX4 tyX4 tyX4_ok (gw_of tw2_84 rfl) (gw_of tw2_85 rfl) (gw_of tw1_11 rfl) [.int 0, .int 0] (fun j hj => by rcases (show j = 0 ∨ j = 1 by omega) with rfl | rfl <;> rfl) (by rw [hroom.1, hroom.2]; decide) dX5_ofKind_62 (fun z => ?_)
    refine g_dup C dX5_ofKind_65 rfl ?_
    refine g_iload_n C 1 dX5_ofKind_66 rfl ?_
    refine g_iload_n C 2 dX5_ofKind_67 rfl ?_
    refine g_callI (np := 2) C (mc := 0) (ms := 0) (As := [.int p, .int h]) (kB_init4 (xL X) (xD X) ka ws z 4 (rfl) p h) rfl (gw_of tw2_87 rfl) (gw_of tw1_11 rfl) (gw_of tw2_88 rfl) (by decide +kernel) (by decide) (gw_of tw2_86 rfl) (by decide) rfl rfl (Nat.le_of_ble_eq_true rfl) (by rw [hroom.1, hroom.2]; decide) dX5_ofKind_68 (fun w hw => ?_)
    exact hret _ _ _ _ (by rw [hw, show clsOf k = 4 by rw [c4]; rfl]) dX5_ofKind_71
  refine g_tableOut C 72 dX5_ofKind_1 (by have e1 := swn 1 (by decide) c1; have e2 := swn 2 (by decide) c2; have e3 := swn 3 (by decide) c3; have e4 := swn 4 (by decide) c4; omega) (by decide) ?_
  refine g_new C 5 (hc := rfl) inX5 tyX5 tyX5_ok (gw_of tw2_93 rfl) (gw_of tw2_94 rfl) (gw_of tw1_7 rfl) [.int 0, .int 0] (fun j hj => by rcases (show j = 0 ∨ j = 1 by omega) with rfl | rfl <;> rfl) (by rw [hroom.1, hroom.2]; decide) dX5_ofKind_72 (fun z => ?_)
  refine g_dup C dX5_ofKind_75 rfl ?_
  refine g_iload_n C 1 dX5_ofKind_76 rfl ?_
  refine g_iload_n C 2 dX5_ofKind_77 rfl ?_
  refine g_callI (np := 2) C (mc := 0) (ms := 0) (As := [.int p, .int h]) (kB_init5 (xL X) (xD X) ka ws z 5 (Or.inr (Or.inr (Or.inr (Or.inr rfl)))) p h) rfl (gw_of tw2_48 rfl) (gw_of tw1_7 rfl) (gw_of tw2_49 rfl) (by decide +kernel) (by decide) (gw_of tw2_95 rfl) (by decide) rfl rfl (Nat.le_of_ble_eq_true rfl) (by rw [hroom.1, hroom.2]; decide) dX5_ofKind_78 (fun w hw => ?_)
  exact hret _ _ _ _ (by rw [hw, show clsOf k = 5 by rw [clsOf, if_neg c1, if_neg c2, if_neg c3, if_neg c4]]) dX5_ofKind_81
theorem siX5_ofKind : SInf yX5_ofKind cX5_ofKind 3 (some (.object "SummerWall$Plain")) 3 := ⟨(gw_of tw2_40 rfl), (gw_of tw1_7 rfl), (gw_of tw2_41 rfl), by decide +kernel, by decide⟩
/-- a new builder: his address is none of theirs -/
def qB_ofKind (F : FT) (R : RT) (J : JT) (P : PT) (B : BT) (k p h : Int32) (K : Nat → FT → RT → JT → PT → BT → Prop) : Prop := ∀ b : Nat, K b F R J P (B ++ [(b, clsOf k, p, h)])
theorem gB_ofKind {X : XT} {cc : ByteArray} {nL : Nat} {rt : Option FieldType} {ka : Nat → ClassId} {lvl cells slots pc : Nat} {lv : List (Nat × Value)} {st : List Value} {ad : Nat → Nat} {F : FT} {R : RT} {J : JT} {P : PT} {B : BT} {k p h : Int32} {K : Nat → FT → RT → JT → PT → BT → Prop} (C : Cx X cc nL RX7 rt ka lvl) (hq : qB_ofKind F R J P B k p h K) (hlc : 4 < lvl) (hsum : (st.map fun v => v.category).sum ≤ 8) (hcs : cells + 1 ≤ (xR X).cells ∧ slots + 2 ≤ (xR X).slots) (d : decode cc pc = .ok (.invokestatic 55, 3)) (kk : ∀ (z : Nat) (w : va_W), (∃ F R J P B, w = wC ad ka F R J P B ∧ K z F R J P B) → G X (cells + 1) (slots + 2) w (pc + 3) lv (.ref z :: st)) : G X cells slots (wC ad ka F R J P B) pc lv (.int h :: .int p :: .int k :: st) := by
  refine g_callSr C (As := [.int k, .int p, .int h]) (kB_ofKind (xL X) (xD X) ka _ k p h) siX5_ofKind (gw_of tw2_39 rfl) hlc rfl rfl hsum hcs d (fun z w hw => ?_)
  refine kk z w ⟨F, R, J, P, B ++ [(z, clsOf k, p, h)], ?_, hq z⟩
  rw [hw]
  show (wCs ad ka F R J P ++ B.map bcell) ++ _ = wCs ad ka F R J P ++ (B ++ _).map bcell
  rw [List.map_append, List.append_assoc]
  rfl
set_option maxHeartbeats 4000000 in
set_option maxRecDepth 100000 in
theorem Cg_X7_1_day {X : XT} {cc : ByteArray} {nL : Nat} {rt : Option FieldType} {ka : Nat → ClassId} {lvl cells slots pc : Nat} {lv : List (Nat × Value)} {st : List Value} {ad : Nat → Nat} {F : FT} {R : RT} {J : JT} {P : PT} {B : BT} (C : Cx X cc nL RX7 rt ka lvl) {v : Int32} (hv : F 104 = v) (d : decode cc pc = .ok (.getfield 46, 3)) (kk : G X cells slots (wC ad ka F R J P B) (pc + 3) lv (.int v :: st)) : G X cells slots (wC ad ka F R J P B) pc lv (.ref (ad 199) :: st) := by
  subst hv
  exact g_get C 1 wC_o1 (hc := rfl) inX7 4 (by decide) (index := 46) (ref := "SummerWall$Site") (gw_of tw1_43 rfl) rfl rfl d kk
set_option maxHeartbeats 4000000 in
set_option maxRecDepth 100000 in
theorem Cg_X7_1_days {X : XT} {cc : ByteArray} {nL : Nat} {rt : Option FieldType} {ka : Nat → ClassId} {lvl cells slots pc : Nat} {lv : List (Nat × Value)} {st : List Value} {ad : Nat → Nat} {F : FT} {R : RT} {J : JT} {P : PT} {B : BT} (C : Cx X cc nL RX7 rt ka lvl) {v : Int32} (hv : F 101 = v) (d : decode cc pc = .ok (.getfield 15, 3)) (kk : G X cells slots (wC ad ka F R J P B) (pc + 3) lv (.int v :: st)) : G X cells slots (wC ad ka F R J P B) pc lv (.ref (ad 199) :: st) := by
  subst hv
  exact g_get C 1 wC_o1 (hc := rfl) inX7 1 (by decide) (index := 15) (ref := "SummerWall$Site") (gw_of tw1_34 rfl) rfl rfl d kk
set_option maxHeartbeats 4000000 in
set_option maxRecDepth 100000 in
theorem Cg_X7_1_used {X : XT} {cc : ByteArray} {nL : Nat} {rt : Option FieldType} {ka : Nat → ClassId} {lvl cells slots pc : Nat} {lv : List (Nat × Value)} {st : List Value} {ad : Nat → Nat} {F : FT} {R : RT} {J : JT} {P : PT} {B : BT} (C : Cx X cc nL RX7 rt ka lvl) {v : Int32} (hv : F 106 = v) (d : decode cc pc = .ok (.getfield 49, 3)) (kk : G X cells slots (wC ad ka F R J P B) (pc + 3) lv (.int v :: st)) : G X cells slots (wC ad ka F R J P B) pc lv (.ref (ad 199) :: st) := by
  subst hv
  exact g_get C 1 wC_o1 (hc := rfl) inX7 6 (by decide) (index := 49) (ref := "SummerWall$Site") (gw_of tw1_49 rfl) rfl rfl d kk
set_option maxHeartbeats 4000000 in
set_option maxRecDepth 100000 in
theorem Cg_X7_1_hindranceCount {X : XT} {cc : ByteArray} {nL : Nat} {rt : Option FieldType} {ka : Nat → ClassId} {lvl cells slots pc : Nat} {lv : List (Nat × Value)} {st : List Value} {ad : Nat → Nat} {F : FT} {R : RT} {J : JT} {P : PT} {B : BT} (C : Cx X cc nL RX7 rt ka lvl) {v : Int32} (hv : F 112 = v) (d : decode cc pc = .ok (.getfield 59, 3)) (kk : G X cells slots (wC ad ka F R J P B) (pc + 3) lv (.int v :: st)) : G X cells slots (wC ad ka F R J P B) pc lv (.ref (ad 199) :: st) := by
  subst hv
  exact g_get C 1 wC_o1 (hc := rfl) inX7 12 (by decide) (index := 59) (ref := "SummerWall$Site") (gw_of tw1_61 rfl) rfl rfl d kk
set_option maxHeartbeats 4000000 in
set_option maxRecDepth 100000 in
theorem Cg_X7_1_costs {X : XT} {cc : ByteArray} {nL : Nat} {rt : Option FieldType} {ka : Nat → ClassId} {lvl cells slots pc : Nat} {lv : List (Nat × Value)} {st : List Value} {ad : Nat → Nat} {F : FT} {R : RT} {J : JT} {P : PT} {B : BT} (C : Cx X cc nL RX7 rt ka lvl) (d : decode cc pc = .ok (.getfield 36, 3)) (kk : G X cells slots (wC ad ka F R J P B) (pc + 3) lv (.ref (ad 115) :: st)) : G X cells slots (wC ad ka F R J P B) pc lv (.ref (ad 199) :: st) := g_get C 1 wC_o1 (hc := rfl) inX7 15 (by decide) (index := 36) (ref := "SummerWall$Site") (gw_of tw1_68 rfl) rfl rfl d kk
set_option maxHeartbeats 4000000 in
set_option maxRecDepth 100000 in
theorem Cs_115 {X : XT} {cc : ByteArray} {nL : Nat} {own : String} {rt : Option FieldType} {ka : Nat → ClassId} {lvl cells slots pc : Nat} {lv : List (Nat × Value)} {st : List Value} {ad : Nat → Nat} {F : FT} {R : RT} {J : JT} {P : PT} {B : BT} (C : Cx X cc nL own rt ka lvl) {f : Nat → Int32} (hf : R 115 = f) {i x : Int32} (j : Nat) (hj : i.toNatClampNeg = j) (hi : vp_in i 6) (d : decode cc pc = .ok (.iastore, 1)) (kk : G X cells slots (wC ad ka F (va_up R 115 (upd f j x)) J P B) (pc + 1) lv st) : G X cells slots (wC ad ka F R J P B) pc lv (.int x :: .int i :: .ref (ad 115) :: st) := by
  subst hf; subst hj
  exact g_iast C 10 rfl hi _ rfl d kk
set_option maxHeartbeats 4000000 in
set_option maxRecDepth 100000 in
theorem Cg_X7_1_oaths {X : XT} {cc : ByteArray} {nL : Nat} {rt : Option FieldType} {ka : Nat → ClassId} {lvl cells slots pc : Nat} {lv : List (Nat × Value)} {st : List Value} {ad : Nat → Nat} {F : FT} {R : RT} {J : JT} {P : PT} {B : BT} (C : Cx X cc nL RX7 rt ka lvl) (d : decode cc pc = .ok (.getfield 40, 3)) (kk : G X cells slots (wC ad ka F R J P B) (pc + 3) lv (.ref (ad 116) :: st)) : G X cells slots (wC ad ka F R J P B) pc lv (.ref (ad 199) :: st) := g_get C 1 wC_o1 (hc := rfl) inX7 16 (by decide) (index := 40) (ref := "SummerWall$Site") (gw_of tw1_69 rfl) rfl rfl d kk
set_option maxHeartbeats 4000000 in
set_option maxRecDepth 100000 in
theorem Cs_116 {X : XT} {cc : ByteArray} {nL : Nat} {own : String} {rt : Option FieldType} {ka : Nat → ClassId} {lvl cells slots pc : Nat} {lv : List (Nat × Value)} {st : List Value} {ad : Nat → Nat} {F : FT} {R : RT} {J : JT} {P : PT} {B : BT} (C : Cx X cc nL own rt ka lvl) {f : Nat → Int32} (hf : R 116 = f) {i x : Int32} (j : Nat) (hj : i.toNatClampNeg = j) (hi : vp_in i 6) (d : decode cc pc = .ok (.iastore, 1)) (kk : G X cells slots (wC ad ka F (va_up R 116 (upd f j x)) J P B) (pc + 1) lv st) : G X cells slots (wC ad ka F R J P B) pc lv (.int x :: .int i :: .ref (ad 116) :: st) := by
  subst hf; subst hj
  exact g_iast C 11 rfl hi _ rfl d kk
set_option maxHeartbeats 4000000 in
set_option maxRecDepth 100000 in
theorem Cp_X7_1_hindranceCount {X : XT} {cc : ByteArray} {nL : Nat} {rt : Option FieldType} {ka : Nat → ClassId} {lvl cells slots pc : Nat} {lv : List (Nat × Value)} {st : List Value} {ad : Nat → Nat} {F : FT} {R : RT} {J : JT} {P : PT} {B : BT} (C : Cx X cc nL RX7 rt ka lvl) {x : Int32} (d : decode cc pc = .ok (.putfield 59, 3)) (kk : G X cells slots (wC ad ka (upd F 112 x) R J P B) (pc + 3) lv st) : G X cells slots (wC ad ka F R J P B) pc lv (.int x :: .ref (ad 199) :: st) := g_put C 1 wC_o1 (hc := rfl) inX7 tyX7 tyX7_ok nmX7 12 (by decide) (index := 59) (ref := "SummerWall$Site") (gw_of tw1_61 rfl) rfl rfl rfl rfl (Nat.le_of_ble_eq_true rfl) _ rfl d kk
set_option maxHeartbeats 4000000 in
set_option maxRecDepth 100000 in
theorem Cg_X7_1_builderCount {X : XT} {cc : ByteArray} {nL : Nat} {rt : Option FieldType} {ka : Nat → ClassId} {lvl cells slots pc : Nat} {lv : List (Nat × Value)} {st : List Value} {ad : Nat → Nat} {F : FT} {R : RT} {J : JT} {P : PT} {B : BT} (C : Cx X cc nL RX7 rt ka lvl) {v : Int32} (hv : F 111 = v) (d : decode cc pc = .ok (.getfield 52, 3)) (kk : G X cells slots (wC ad ka F R J P B) (pc + 3) lv (.int v :: st)) : G X cells slots (wC ad ka F R J P B) pc lv (.ref (ad 199) :: st) := by
  subst hv
  exact g_get C 1 wC_o1 (hc := rfl) inX7 11 (by decide) (index := 52) (ref := "SummerWall$Site") (gw_of tw1_60 rfl) rfl rfl d kk
set_option maxHeartbeats 4000000 in
set_option maxRecDepth 100000 in
theorem Cg_X7_1_builders {X : XT} {cc : ByteArray} {nL : Nat} {rt : Option FieldType} {ka : Nat → ClassId} {lvl cells slots pc : Nat} {lv : List (Nat × Value)} {st : List Value} {ad : Nat → Nat} {F : FT} {R : RT} {J : JT} {P : PT} {B : BT} (C : Cx X cc nL RX7 rt ka lvl) (d : decode cc pc = .ok (.getfield 32, 3)) (kk : G X cells slots (wC ad ka F R J P B) (pc + 3) lv (.ref (ad 114) :: st)) : G X cells slots (wC ad ka F R J P B) pc lv (.ref (ad 199) :: st) := g_get C 1 wC_o1 (hc := rfl) inX7 14 (by decide) (index := 32) (ref := "SummerWall$Site") (gw_of tw1_66 rfl) rfl rfl d kk
set_option maxHeartbeats 4000000 in
set_option maxRecDepth 100000 in
theorem Cg_X7_1_stones {X : XT} {cc : ByteArray} {nL : Nat} {rt : Option FieldType} {ka : Nat → ClassId} {lvl cells slots pc : Nat} {lv : List (Nat × Value)} {st : List Value} {ad : Nat → Nat} {F : FT} {R : RT} {J : JT} {P : PT} {B : BT} (C : Cx X cc nL RX7 rt ka lvl) {v : Int32} (hv : F 100 = v) (d : decode cc pc = .ok (.getfield 9, 3)) (kk : G X cells slots (wC ad ka F R J P B) (pc + 3) lv (.int v :: st)) : G X cells slots (wC ad ka F R J P B) pc lv (.ref (ad 199) :: st) := by
  subst hv
  exact g_get C 1 wC_o1 (hc := rfl) inX7 0 (by decide) (index := 9) (ref := "SummerWall$Site") (gw_of tw1_31 rfl) rfl rfl d kk
set_option maxHeartbeats 4000000 in
set_option maxRecDepth 100000 in
theorem Ca_115 {X : XT} {cc : ByteArray} {nL : Nat} {own : String} {rt : Option FieldType} {ka : Nat → ClassId} {lvl cells slots pc : Nat} {lv : List (Nat × Value)} {st : List Value} {ad : Nat → Nat} {F : FT} {R : RT} {J : JT} {P : PT} {B : BT} (C : Cx X cc nL own rt ka lvl) {f : Nat → Int32} (hf : R 115 = f) {i : Int32} (j : Nat) (hj : i.toNatClampNeg = j) (hi : vp_in i 6) (d : decode cc pc = .ok (.iaload, 1)) (kk : G X cells slots (wC ad ka F R J P B) (pc + 1) lv (.int (f j) :: st)) : G X cells slots (wC ad ka F R J P B) pc lv (.int i :: .ref (ad 115) :: st) := by
  subst hf; subst hj
  exact g_iald C 10 rfl hi d kk
set_option maxHeartbeats 4000000 in
set_option maxRecDepth 100000 in
theorem Cg_X7_1_usedToday {X : XT} {cc : ByteArray} {nL : Nat} {rt : Option FieldType} {ka : Nat → ClassId} {lvl cells slots pc : Nat} {lv : List (Nat × Value)} {st : List Value} {ad : Nat → Nat} {F : FT} {R : RT} {J : JT} {P : PT} {B : BT} (C : Cx X cc nL RX7 rt ka lvl) {v : Int32} (hv : F 107 = v) (d : decode cc pc = .ok (.getfield 76, 3)) (kk : G X cells slots (wC ad ka F R J P B) (pc + 3) lv (.int v :: st)) : G X cells slots (wC ad ka F R J P B) pc lv (.ref (ad 199) :: st) := by
  subst hv
  exact g_get C 1 wC_o1 (hc := rfl) inX7 7 (by decide) (index := 76) (ref := "SummerWall$Site") (gw_of tw1_52 rfl) rfl rfl d kk
set_option maxHeartbeats 4000000 in
set_option maxRecDepth 100000 in
theorem Ca_116 {X : XT} {cc : ByteArray} {nL : Nat} {own : String} {rt : Option FieldType} {ka : Nat → ClassId} {lvl cells slots pc : Nat} {lv : List (Nat × Value)} {st : List Value} {ad : Nat → Nat} {F : FT} {R : RT} {J : JT} {P : PT} {B : BT} (C : Cx X cc nL own rt ka lvl) {f : Nat → Int32} (hf : R 116 = f) {i : Int32} (j : Nat) (hj : i.toNatClampNeg = j) (hi : vp_in i 6) (d : decode cc pc = .ok (.iaload, 1)) (kk : G X cells slots (wC ad ka F R J P B) (pc + 1) lv (.int (f j) :: st)) : G X cells slots (wC ad ka F R J P B) pc lv (.int i :: .ref (ad 116) :: st) := by
  subst hf; subst hj
  exact g_iald C 11 rfl hi d kk
set_option maxHeartbeats 4000000 in
set_option maxRecDepth 100000 in
theorem Cg_X7_1_sworn {X : XT} {cc : ByteArray} {nL : Nat} {rt : Option FieldType} {ka : Nat → ClassId} {lvl cells slots pc : Nat} {lv : List (Nat × Value)} {st : List Value} {ad : Nat → Nat} {F : FT} {R : RT} {J : JT} {P : PT} {B : BT} (C : Cx X cc nL RX7 rt ka lvl) {v : Int32} (hv : F 109 = v) (d : decode cc pc = .ok (.getfield 24, 3)) (kk : G X cells slots (wC ad ka F R J P B) (pc + 3) lv (.int v :: st)) : G X cells slots (wC ad ka F R J P B) pc lv (.ref (ad 199) :: st) := by
  subst hv
  exact g_get C 1 wC_o1 (hc := rfl) inX7 9 (by decide) (index := 24) (ref := "SummerWall$Site") (gw_of tw1_55 rfl) rfl rfl d kk
set_option maxHeartbeats 4000000 in
set_option maxRecDepth 100000 in
theorem Cp_X7_1_used {X : XT} {cc : ByteArray} {nL : Nat} {rt : Option FieldType} {ka : Nat → ClassId} {lvl cells slots pc : Nat} {lv : List (Nat × Value)} {st : List Value} {ad : Nat → Nat} {F : FT} {R : RT} {J : JT} {P : PT} {B : BT} (C : Cx X cc nL RX7 rt ka lvl) {x : Int32} (d : decode cc pc = .ok (.putfield 49, 3)) (kk : G X cells slots (wC ad ka (upd F 106 x) R J P B) (pc + 3) lv st) : G X cells slots (wC ad ka F R J P B) pc lv (.int x :: .ref (ad 199) :: st) := g_put C 1 wC_o1 (hc := rfl) inX7 tyX7 tyX7_ok nmX7 6 (by decide) (index := 49) (ref := "SummerWall$Site") (gw_of tw1_49 rfl) rfl rfl rfl rfl (Nat.le_of_ble_eq_true rfl) _ rfl d kk
set_option maxHeartbeats 4000000 in
set_option maxRecDepth 100000 in
theorem Cp_X7_1_usedToday {X : XT} {cc : ByteArray} {nL : Nat} {rt : Option FieldType} {ka : Nat → ClassId} {lvl cells slots pc : Nat} {lv : List (Nat × Value)} {st : List Value} {ad : Nat → Nat} {F : FT} {R : RT} {J : JT} {P : PT} {B : BT} (C : Cx X cc nL RX7 rt ka lvl) {x : Int32} (d : decode cc pc = .ok (.putfield 76, 3)) (kk : G X cells slots (wC ad ka (upd F 107 x) R J P B) (pc + 3) lv st) : G X cells slots (wC ad ka F R J P B) pc lv (.int x :: .ref (ad 199) :: st) := g_put C 1 wC_o1 (hc := rfl) inX7 tyX7 tyX7_ok nmX7 7 (by decide) (index := 76) (ref := "SummerWall$Site") (gw_of tw1_52 rfl) rfl rfl rfl rfl (Nat.le_of_ble_eq_true rfl) _ rfl d kk
set_option maxHeartbeats 4000000 in
set_option maxRecDepth 100000 in
theorem Cg_X7_1_broken {X : XT} {cc : ByteArray} {nL : Nat} {rt : Option FieldType} {ka : Nat → ClassId} {lvl cells slots pc : Nat} {lv : List (Nat × Value)} {st : List Value} {ad : Nat → Nat} {F : FT} {R : RT} {J : JT} {P : PT} {B : BT} (C : Cx X cc nL RX7 rt ka lvl) {v : Int32} (hv : F 108 = v) (d : decode cc pc = .ok (.getfield 87, 3)) (kk : G X cells slots (wC ad ka F R J P B) (pc + 3) lv (.int v :: st)) : G X cells slots (wC ad ka F R J P B) pc lv (.ref (ad 199) :: st) := by
  subst hv
  exact g_get C 1 wC_o1 (hc := rfl) inX7 8 (by decide) (index := 87) (ref := "SummerWall$Site") (gw_of tw1_53 rfl) rfl rfl d kk
set_option maxHeartbeats 4000000 in
set_option maxRecDepth 100000 in
theorem Cp_X7_1_broken {X : XT} {cc : ByteArray} {nL : Nat} {rt : Option FieldType} {ka : Nat → ClassId} {lvl cells slots pc : Nat} {lv : List (Nat × Value)} {st : List Value} {ad : Nat → Nat} {F : FT} {R : RT} {J : JT} {P : PT} {B : BT} (C : Cx X cc nL RX7 rt ka lvl) {x : Int32} (d : decode cc pc = .ok (.putfield 87, 3)) (kk : G X cells slots (wC ad ka (upd F 108 x) R J P B) (pc + 3) lv st) : G X cells slots (wC ad ka F R J P B) pc lv (.int x :: .ref (ad 199) :: st) := g_put C 1 wC_o1 (hc := rfl) inX7 tyX7 tyX7_ok nmX7 8 (by decide) (index := 87) (ref := "SummerWall$Site") (gw_of tw1_53 rfl) rfl rfl rfl rfl (Nat.le_of_ble_eq_true rfl) _ rfl d kk
set_option maxHeartbeats 4000000 in
set_option maxRecDepth 100000 in
theorem Cg_X7_1_laid {X : XT} {cc : ByteArray} {nL : Nat} {rt : Option FieldType} {ka : Nat → ClassId} {lvl cells slots pc : Nat} {lv : List (Nat × Value)} {st : List Value} {ad : Nat → Nat} {F : FT} {R : RT} {J : JT} {P : PT} {B : BT} (C : Cx X cc nL RX7 rt ka lvl) {v : Int32} (hv : F 105 = v) (d : decode cc pc = .ok (.getfield 90, 3)) (kk : G X cells slots (wC ad ka F R J P B) (pc + 3) lv (.int v :: st)) : G X cells slots (wC ad ka F R J P B) pc lv (.ref (ad 199) :: st) := by
  subst hv
  exact g_get C 1 wC_o1 (hc := rfl) inX7 5 (by decide) (index := 90) (ref := "SummerWall$Site") (gw_of tw1_48 rfl) rfl rfl d kk
set_option maxHeartbeats 4000000 in
set_option maxRecDepth 100000 in
theorem Cp_X7_1_laid {X : XT} {cc : ByteArray} {nL : Nat} {rt : Option FieldType} {ka : Nat → ClassId} {lvl cells slots pc : Nat} {lv : List (Nat × Value)} {st : List Value} {ad : Nat → Nat} {F : FT} {R : RT} {J : JT} {P : PT} {B : BT} (C : Cx X cc nL RX7 rt ka lvl) {x : Int32} (d : decode cc pc = .ok (.putfield 90, 3)) (kk : G X cells slots (wC ad ka (upd F 105 x) R J P B) (pc + 3) lv st) : G X cells slots (wC ad ka F R J P B) pc lv (.int x :: .ref (ad 199) :: st) := g_put C 1 wC_o1 (hc := rfl) inX7 tyX7 tyX7_ok nmX7 5 (by decide) (index := 90) (ref := "SummerWall$Site") (gw_of tw1_48 rfl) rfl rfl rfl rfl (Nat.le_of_ble_eq_true rfl) _ rfl d kk
set_option maxHeartbeats 4000000 in
set_option maxRecDepth 100000 in
theorem Cp_X7_1_day {X : XT} {cc : ByteArray} {nL : Nat} {rt : Option FieldType} {ka : Nat → ClassId} {lvl cells slots pc : Nat} {lv : List (Nat × Value)} {st : List Value} {ad : Nat → Nat} {F : FT} {R : RT} {J : JT} {P : PT} {B : BT} (C : Cx X cc nL RX7 rt ka lvl) {x : Int32} (d : decode cc pc = .ok (.putfield 46, 3)) (kk : G X cells slots (wC ad ka (upd F 104 x) R J P B) (pc + 3) lv st) : G X cells slots (wC ad ka F R J P B) pc lv (.int x :: .ref (ad 199) :: st) := g_put C 1 wC_o1 (hc := rfl) inX7 tyX7 tyX7_ok nmX7 4 (by decide) (index := 46) (ref := "SummerWall$Site") (gw_of tw1_43 rfl) rfl rfl rfl rfl (Nat.le_of_ble_eq_true rfl) _ rfl d kk
set_option maxHeartbeats 4000000 in
set_option maxRecDepth 100000 in
theorem Cg_X7_1_draw {X : XT} {cc : ByteArray} {nL : Nat} {rt : Option FieldType} {ka : Nat → ClassId} {lvl cells slots pc : Nat} {lv : List (Nat × Value)} {st : List Value} {ad : Nat → Nat} {F : FT} {R : RT} {J : JT} {P : PT} {B : BT} (C : Cx X cc nL RX7 rt ka lvl) {v : Int32} (hv : F 110 = v) (d : decode cc pc = .ok (.getfield 27, 3)) (kk : G X cells slots (wC ad ka F R J P B) (pc + 3) lv (.int v :: st)) : G X cells slots (wC ad ka F R J P B) pc lv (.ref (ad 199) :: st) := by
  subst hv
  exact g_get C 1 wC_o1 (hc := rfl) inX7 10 (by decide) (index := 27) (ref := "SummerWall$Site") (gw_of tw1_57 rfl) rfl rfl d kk
set_option maxHeartbeats 4000000 in
set_option maxRecDepth 100000 in
theorem Cp_X7_1_draw {X : XT} {cc : ByteArray} {nL : Nat} {rt : Option FieldType} {ka : Nat → ClassId} {lvl cells slots pc : Nat} {lv : List (Nat × Value)} {st : List Value} {ad : Nat → Nat} {F : FT} {R : RT} {J : JT} {P : PT} {B : BT} (C : Cx X cc nL RX7 rt ka lvl) {x : Int32} (d : decode cc pc = .ok (.putfield 27, 3)) (kk : G X cells slots (wC ad ka (upd F 110 x) R J P B) (pc + 3) lv st) : G X cells slots (wC ad ka F R J P B) pc lv (.int x :: .ref (ad 199) :: st) := g_put C 1 wC_o1 (hc := rfl) inX7 tyX7 tyX7_ok nmX7 10 (by decide) (index := 27) (ref := "SummerWall$Site") (gw_of tw1_57 rfl) rfl rfl rfl rfl (Nat.le_of_ble_eq_true rfl) _ rfl d kk
set_option maxHeartbeats 4000000 in
set_option maxRecDepth 100000 in
theorem Cg_X7_1_frost {X : XT} {cc : ByteArray} {nL : Nat} {rt : Option FieldType} {ka : Nat → ClassId} {lvl cells slots pc : Nat} {lv : List (Nat × Value)} {st : List Value} {ad : Nat → Nat} {F : FT} {R : RT} {J : JT} {P : PT} {B : BT} (C : Cx X cc nL RX7 rt ka lvl) {v : Int32} (hv : F 102 = v) (d : decode cc pc = .ok (.getfield 18, 3)) (kk : G X cells slots (wC ad ka F R J P B) (pc + 3) lv (.int v :: st)) : G X cells slots (wC ad ka F R J P B) pc lv (.ref (ad 199) :: st) := by
  subst hv
  exact g_get C 1 wC_o1 (hc := rfl) inX7 2 (by decide) (index := 18) (ref := "SummerWall$Site") (gw_of tw1_37 rfl) rfl rfl d kk
set_option maxHeartbeats 4000000 in
set_option maxRecDepth 100000 in
theorem Cg_X7_1_thaw {X : XT} {cc : ByteArray} {nL : Nat} {rt : Option FieldType} {ka : Nat → ClassId} {lvl cells slots pc : Nat} {lv : List (Nat × Value)} {st : List Value} {ad : Nat → Nat} {F : FT} {R : RT} {J : JT} {P : PT} {B : BT} (C : Cx X cc nL RX7 rt ka lvl) {v : Int32} (hv : F 103 = v) (d : decode cc pc = .ok (.getfield 21, 3)) (kk : G X cells slots (wC ad ka F R J P B) (pc + 3) lv (.int v :: st)) : G X cells slots (wC ad ka F R J P B) pc lv (.ref (ad 199) :: st) := by
  subst hv
  exact g_get C 1 wC_o1 (hc := rfl) inX7 3 (by decide) (index := 21) (ref := "SummerWall$Site") (gw_of tw1_40 rfl) rfl rfl d kk
set_option maxHeartbeats 4000000 in
set_option maxRecDepth 100000 in
theorem Cg_X7_1_pastCount {X : XT} {cc : ByteArray} {nL : Nat} {rt : Option FieldType} {ka : Nat → ClassId} {lvl cells slots pc : Nat} {lv : List (Nat × Value)} {st : List Value} {ad : Nat → Nat} {F : FT} {R : RT} {J : JT} {P : PT} {B : BT} (C : Cx X cc nL RX7 rt ka lvl) {v : Int32} (hv : F 113 = v) (d : decode cc pc = .ok (.getfield 107, 3)) (kk : G X cells slots (wC ad ka F R J P B) (pc + 3) lv (.int v :: st)) : G X cells slots (wC ad ka F R J P B) pc lv (.ref (ad 199) :: st) := by
  subst hv
  exact g_get C 1 wC_o1 (hc := rfl) inX7 13 (by decide) (index := 107) (ref := "SummerWall$Site") (gw_of tw1_65 rfl) rfl rfl d kk
set_option maxHeartbeats 4000000 in
set_option maxRecDepth 100000 in
theorem Cg_X7_1_past {X : XT} {cc : ByteArray} {nL : Nat} {rt : Option FieldType} {ka : Nat → ClassId} {lvl cells slots pc : Nat} {lv : List (Nat × Value)} {st : List Value} {ad : Nat → Nat} {F : FT} {R : RT} {J : JT} {P : PT} {B : BT} (C : Cx X cc nL RX7 rt ka lvl) (d : decode cc pc = .ok (.getfield 43, 3)) (kk : G X cells slots (wC ad ka F R J P B) (pc + 3) lv (.ref (ad 117) :: st)) : G X cells slots (wC ad ka F R J P B) pc lv (.ref (ad 199) :: st) := g_get C 1 wC_o1 (hc := rfl) inX7 17 (by decide) (index := 43) (ref := "SummerWall$Site") (gw_of tw1_70 rfl) rfl rfl d kk
set_option maxHeartbeats 4000000 in
set_option maxRecDepth 100000 in
theorem Cc_117_117 {X : XT} {cc : ByteArray} {nL : Nat} {own : String} {rt : Option FieldType} {ka : Nat → ClassId} {lvl cells slots pc : Nat} {lv : List (Nat × Value)} {st : List Value} {ad : Nat → Nat} {F : FT} {R : RT} {J : JT} {P : PT} {B : BT} (C : Cx X cc nL own rt ka lvl) {f g : Nat → Int32} (hf : R 117 = f) (hg : R 117 = g) {sp dp n : Int32} (h1 : ¬ sp < 0) (h2 : ¬ dp < 0) (h3 : ¬ n < 0) (h4 : sp.toNatClampNeg + n.toNatClampNeg ≤ 48) (h5 : dp.toNatClampNeg + n.toNatClampNeg ≤ 48) {index : Nat} (hlink : Cond.methodLink own index arraycopyName ∈ gw) (hlv : 0 < lvl) (hsum : (st.map fun v => v.category).sum ≤ 8) (d : decode cc pc = .ok (.invokestatic index, 3)) (kk : G X cells slots (wC ad ka F (va_up R 117 (va_cpy f g sp.toNatClampNeg dp.toNatClampNeg n.toNatClampNeg)) J P B) (pc + 3) lv st) : G X cells slots (wC ad ka F R J P B) pc lv (.int n :: .int dp :: .ref (ad 117) :: .int sp :: .ref (ad 117) :: st) := by
  subst hf; subst hg
  exact g_copyi C 12 12 rfl rfl h1 h2 h3 h4 h5 hlink hlv hsum _ rfl d kk
set_option maxHeartbeats 4000000 in
set_option maxRecDepth 100000 in
theorem Cp_X7_1_pastCount {X : XT} {cc : ByteArray} {nL : Nat} {rt : Option FieldType} {ka : Nat → ClassId} {lvl cells slots pc : Nat} {lv : List (Nat × Value)} {st : List Value} {ad : Nat → Nat} {F : FT} {R : RT} {J : JT} {P : PT} {B : BT} (C : Cx X cc nL RX7 rt ka lvl) {x : Int32} (d : decode cc pc = .ok (.putfield 107, 3)) (kk : G X cells slots (wC ad ka (upd F 113 x) R J P B) (pc + 3) lv st) : G X cells slots (wC ad ka F R J P B) pc lv (.int x :: .ref (ad 199) :: st) := g_put C 1 wC_o1 (hc := rfl) inX7 tyX7 tyX7_ok nmX7 13 (by decide) (index := 107) (ref := "SummerWall$Site") (gw_of tw1_65 rfl) rfl rfl rfl rfl (Nat.le_of_ble_eq_true rfl) _ rfl d kk
set_option maxHeartbeats 4000000 in
set_option maxRecDepth 100000 in
theorem Cs_117 {X : XT} {cc : ByteArray} {nL : Nat} {own : String} {rt : Option FieldType} {ka : Nat → ClassId} {lvl cells slots pc : Nat} {lv : List (Nat × Value)} {st : List Value} {ad : Nat → Nat} {F : FT} {R : RT} {J : JT} {P : PT} {B : BT} (C : Cx X cc nL own rt ka lvl) {f : Nat → Int32} (hf : R 117 = f) {i x : Int32} (j : Nat) (hj : i.toNatClampNeg = j) (hi : vp_in i 48) (d : decode cc pc = .ok (.iastore, 1)) (kk : G X cells slots (wC ad ka F (va_up R 117 (upd f j x)) J P B) (pc + 1) lv st) : G X cells slots (wC ad ka F R J P B) pc lv (.int x :: .int i :: .ref (ad 117) :: st) := by
  subst hf; subst hj
  exact g_iast C 12 rfl hi _ rfl d kk
set_option maxHeartbeats 4000000 in
set_option maxRecDepth 100000 in
theorem Ca_117 {X : XT} {cc : ByteArray} {nL : Nat} {own : String} {rt : Option FieldType} {ka : Nat → ClassId} {lvl cells slots pc : Nat} {lv : List (Nat × Value)} {st : List Value} {ad : Nat → Nat} {F : FT} {R : RT} {J : JT} {P : PT} {B : BT} (C : Cx X cc nL own rt ka lvl) {f : Nat → Int32} (hf : R 117 = f) {i : Int32} (j : Nat) (hj : i.toNatClampNeg = j) (hi : vp_in i 48) (d : decode cc pc = .ok (.iaload, 1)) (kk : G X cells slots (wC ad ka F R J P B) (pc + 1) lv (.int (f j) :: st)) : G X cells slots (wC ad ka F R J P B) pc lv (.int i :: .ref (ad 117) :: st) := by
  subst hf; subst hj
  exact g_iald C 12 rfl hi d kk
set_option maxHeartbeats 4000000 in
set_option maxRecDepth 100000 in
theorem Cp_X7_1_builderCount {X : XT} {cc : ByteArray} {nL : Nat} {rt : Option FieldType} {ka : Nat → ClassId} {lvl cells slots pc : Nat} {lv : List (Nat × Value)} {st : List Value} {ad : Nat → Nat} {F : FT} {R : RT} {J : JT} {P : PT} {B : BT} (C : Cx X cc nL RX7 rt ka lvl) {x : Int32} (d : decode cc pc = .ok (.putfield 52, 3)) (kk : G X cells slots (wC ad ka (upd F 111 x) R J P B) (pc + 3) lv st) : G X cells slots (wC ad ka F R J P B) pc lv (.int x :: .ref (ad 199) :: st) := g_put C 1 wC_o1 (hc := rfl) inX7 tyX7 tyX7_ok nmX7 11 (by decide) (index := 52) (ref := "SummerWall$Site") (gw_of tw1_60 rfl) rfl rfl rfl rfl (Nat.le_of_ble_eq_true rfl) _ rfl d kk
set_option maxHeartbeats 4000000 in
set_option maxRecDepth 100000 in
theorem Cg_X7_3_stones {X : XT} {cc : ByteArray} {nL : Nat} {rt : Option FieldType} {ka : Nat → ClassId} {lvl cells slots pc : Nat} {lv : List (Nat × Value)} {st : List Value} {ad : Nat → Nat} {F : FT} {R : RT} {J : JT} {P : PT} {B : BT} (C : Cx X cc nL RX7 rt ka lvl) {v : Int32} (hv : F 307 = v) (d : decode cc pc = .ok (.getfield 116, 3)) (kk : G X cells slots (wC ad ka F R J P B) (pc + 3) lv (.int v :: st)) : G X cells slots (wC ad ka F R J P B) pc lv (.ref (ad 399) :: st) := by
  subst hv
  exact g_get C 3 wC_o3 (hc := rfl) inX8 7 (by decide) (index := 116) (ref := "SummerWall$Tape") (gw_of tw1_129 rfl) rfl rfl d kk
set_option maxHeartbeats 4000000 in
set_option maxRecDepth 100000 in
theorem Cp_X7_1_stones {X : XT} {cc : ByteArray} {nL : Nat} {rt : Option FieldType} {ka : Nat → ClassId} {lvl cells slots pc : Nat} {lv : List (Nat × Value)} {st : List Value} {ad : Nat → Nat} {F : FT} {R : RT} {J : JT} {P : PT} {B : BT} (C : Cx X cc nL RX7 rt ka lvl) {x : Int32} (d : decode cc pc = .ok (.putfield 9, 3)) (kk : G X cells slots (wC ad ka (upd F 100 x) R J P B) (pc + 3) lv st) : G X cells slots (wC ad ka F R J P B) pc lv (.int x :: .ref (ad 199) :: st) := g_put C 1 wC_o1 (hc := rfl) inX7 tyX7 tyX7_ok nmX7 0 (by decide) (index := 9) (ref := "SummerWall$Site") (gw_of tw1_31 rfl) rfl rfl rfl rfl (Nat.le_of_ble_eq_true rfl) _ rfl d kk
set_option maxHeartbeats 4000000 in
set_option maxRecDepth 100000 in
theorem Cg_X7_3_days {X : XT} {cc : ByteArray} {nL : Nat} {rt : Option FieldType} {ka : Nat → ClassId} {lvl cells slots pc : Nat} {lv : List (Nat × Value)} {st : List Value} {ad : Nat → Nat} {F : FT} {R : RT} {J : JT} {P : PT} {B : BT} (C : Cx X cc nL RX7 rt ka lvl) {v : Int32} (hv : F 308 = v) (d : decode cc pc = .ok (.getfield 119, 3)) (kk : G X cells slots (wC ad ka F R J P B) (pc + 3) lv (.int v :: st)) : G X cells slots (wC ad ka F R J P B) pc lv (.ref (ad 399) :: st) := by
  subst hv
  exact g_get C 3 wC_o3 (hc := rfl) inX8 8 (by decide) (index := 119) (ref := "SummerWall$Tape") (gw_of tw1_131 rfl) rfl rfl d kk
set_option maxHeartbeats 4000000 in
set_option maxRecDepth 100000 in
theorem Cp_X7_1_days {X : XT} {cc : ByteArray} {nL : Nat} {rt : Option FieldType} {ka : Nat → ClassId} {lvl cells slots pc : Nat} {lv : List (Nat × Value)} {st : List Value} {ad : Nat → Nat} {F : FT} {R : RT} {J : JT} {P : PT} {B : BT} (C : Cx X cc nL RX7 rt ka lvl) {x : Int32} (d : decode cc pc = .ok (.putfield 15, 3)) (kk : G X cells slots (wC ad ka (upd F 101 x) R J P B) (pc + 3) lv st) : G X cells slots (wC ad ka F R J P B) pc lv (.int x :: .ref (ad 199) :: st) := g_put C 1 wC_o1 (hc := rfl) inX7 tyX7 tyX7_ok nmX7 1 (by decide) (index := 15) (ref := "SummerWall$Site") (gw_of tw1_34 rfl) rfl rfl rfl rfl (Nat.le_of_ble_eq_true rfl) _ rfl d kk
set_option maxHeartbeats 4000000 in
set_option maxRecDepth 100000 in
theorem Cg_X7_3_builderCount {X : XT} {cc : ByteArray} {nL : Nat} {rt : Option FieldType} {ka : Nat → ClassId} {lvl cells slots pc : Nat} {lv : List (Nat × Value)} {st : List Value} {ad : Nat → Nat} {F : FT} {R : RT} {J : JT} {P : PT} {B : BT} (C : Cx X cc nL RX7 rt ka lvl) {v : Int32} (hv : F 309 = v) (d : decode cc pc = .ok (.getfield 120, 3)) (kk : G X cells slots (wC ad ka F R J P B) (pc + 3) lv (.int v :: st)) : G X cells slots (wC ad ka F R J P B) pc lv (.ref (ad 399) :: st) := by
  subst hv
  exact g_get C 3 wC_o3 (hc := rfl) inX8 9 (by decide) (index := 120) (ref := "SummerWall$Tape") (gw_of tw1_133 rfl) rfl rfl d kk
set_option maxHeartbeats 4000000 in
set_option maxRecDepth 100000 in
theorem Cg_X7_3_kinds {X : XT} {cc : ByteArray} {nL : Nat} {rt : Option FieldType} {ka : Nat → ClassId} {lvl cells slots pc : Nat} {lv : List (Nat × Value)} {st : List Value} {ad : Nat → Nat} {F : FT} {R : RT} {J : JT} {P : PT} {B : BT} (C : Cx X cc nL RX7 rt ka lvl) (d : decode cc pc = .ok (.getfield 121, 3)) (kk : G X cells slots (wC ad ka F R J P B) (pc + 3) lv (.ref (ad 301) :: st)) : G X cells slots (wC ad ka F R J P B) pc lv (.ref (ad 399) :: st) := g_get C 3 wC_o3 (hc := rfl) inX8 1 (by decide) (index := 121) (ref := "SummerWall$Tape") (gw_of tw1_117 rfl) rfl rfl d kk
set_option maxHeartbeats 4000000 in
set_option maxRecDepth 100000 in
theorem Ca_301 {X : XT} {cc : ByteArray} {nL : Nat} {own : String} {rt : Option FieldType} {ka : Nat → ClassId} {lvl cells slots pc : Nat} {lv : List (Nat × Value)} {st : List Value} {ad : Nat → Nat} {F : FT} {R : RT} {J : JT} {P : PT} {B : BT} (C : Cx X cc nL own rt ka lvl) {f : Nat → Int32} (hf : R 301 = f) {i : Int32} (j : Nat) (hj : i.toNatClampNeg = j) (hi : vp_in i 4) (d : decode cc pc = .ok (.iaload, 1)) (kk : G X cells slots (wC ad ka F R J P B) (pc + 1) lv (.int (f j) :: st)) : G X cells slots (wC ad ka F R J P B) pc lv (.int i :: .ref (ad 301) :: st) := by
  subst hf; subst hj
  exact g_iald C 18 rfl hi d kk
set_option maxHeartbeats 4000000 in
set_option maxRecDepth 100000 in
theorem Cg_X7_3_paces {X : XT} {cc : ByteArray} {nL : Nat} {rt : Option FieldType} {ka : Nat → ClassId} {lvl cells slots pc : Nat} {lv : List (Nat × Value)} {st : List Value} {ad : Nat → Nat} {F : FT} {R : RT} {J : JT} {P : PT} {B : BT} (C : Cx X cc nL RX7 rt ka lvl) (d : decode cc pc = .ok (.getfield 124, 3)) (kk : G X cells slots (wC ad ka F R J P B) (pc + 3) lv (.ref (ad 302) :: st)) : G X cells slots (wC ad ka F R J P B) pc lv (.ref (ad 399) :: st) := g_get C 3 wC_o3 (hc := rfl) inX8 2 (by decide) (index := 124) (ref := "SummerWall$Tape") (gw_of tw1_119 rfl) rfl rfl d kk
set_option maxHeartbeats 4000000 in
set_option maxRecDepth 100000 in
theorem Ca_302 {X : XT} {cc : ByteArray} {nL : Nat} {own : String} {rt : Option FieldType} {ka : Nat → ClassId} {lvl cells slots pc : Nat} {lv : List (Nat × Value)} {st : List Value} {ad : Nat → Nat} {F : FT} {R : RT} {J : JT} {P : PT} {B : BT} (C : Cx X cc nL own rt ka lvl) {f : Nat → Int32} (hf : R 302 = f) {i : Int32} (j : Nat) (hj : i.toNatClampNeg = j) (hi : vp_in i 4) (d : decode cc pc = .ok (.iaload, 1)) (kk : G X cells slots (wC ad ka F R J P B) (pc + 1) lv (.int (f j) :: st)) : G X cells slots (wC ad ka F R J P B) pc lv (.int i :: .ref (ad 302) :: st) := by
  subst hf; subst hj
  exact g_iald C 19 rfl hi d kk
set_option maxHeartbeats 4000000 in
set_option maxRecDepth 100000 in
theorem Cg_X7_3_horses {X : XT} {cc : ByteArray} {nL : Nat} {rt : Option FieldType} {ka : Nat → ClassId} {lvl cells slots pc : Nat} {lv : List (Nat × Value)} {st : List Value} {ad : Nat → Nat} {F : FT} {R : RT} {J : JT} {P : PT} {B : BT} (C : Cx X cc nL RX7 rt ka lvl) (d : decode cc pc = .ok (.getfield 127, 3)) (kk : G X cells slots (wC ad ka F R J P B) (pc + 3) lv (.ref (ad 303) :: st)) : G X cells slots (wC ad ka F R J P B) pc lv (.ref (ad 399) :: st) := g_get C 3 wC_o3 (hc := rfl) inX8 3 (by decide) (index := 127) (ref := "SummerWall$Tape") (gw_of tw1_121 rfl) rfl rfl d kk
set_option maxHeartbeats 4000000 in
set_option maxRecDepth 100000 in
theorem Ca_303 {X : XT} {cc : ByteArray} {nL : Nat} {own : String} {rt : Option FieldType} {ka : Nat → ClassId} {lvl cells slots pc : Nat} {lv : List (Nat × Value)} {st : List Value} {ad : Nat → Nat} {F : FT} {R : RT} {J : JT} {P : PT} {B : BT} (C : Cx X cc nL own rt ka lvl) {f : Nat → Int32} (hf : R 303 = f) {i : Int32} (j : Nat) (hj : i.toNatClampNeg = j) (hi : vp_in i 4) (d : decode cc pc = .ok (.iaload, 1)) (kk : G X cells slots (wC ad ka F R J P B) (pc + 1) lv (.int (f j) :: st)) : G X cells slots (wC ad ka F R J P B) pc lv (.int i :: .ref (ad 303) :: st) := by
  subst hf; subst hj
  exact g_iald C 20 rfl hi d kk
set_option maxHeartbeats 4000000 in
set_option maxRecDepth 100000 in
theorem Cg_X7_3_hindranceCount {X : XT} {cc : ByteArray} {nL : Nat} {rt : Option FieldType} {ka : Nat → ClassId} {lvl cells slots pc : Nat} {lv : List (Nat × Value)} {st : List Value} {ad : Nat → Nat} {F : FT} {R : RT} {J : JT} {P : PT} {B : BT} (C : Cx X cc nL RX7 rt ka lvl) {v : Int32} (hv : F 310 = v) (d : decode cc pc = .ok (.getfield 134, 3)) (kk : G X cells slots (wC ad ka F R J P B) (pc + 3) lv (.int v :: st)) : G X cells slots (wC ad ka F R J P B) pc lv (.ref (ad 399) :: st) := by
  subst hv
  exact g_get C 3 wC_o3 (hc := rfl) inX8 10 (by decide) (index := 134) (ref := "SummerWall$Tape") (gw_of tw1_135 rfl) rfl rfl d kk
set_option maxHeartbeats 4000000 in
set_option maxRecDepth 100000 in
theorem Cg_X7_3_costs {X : XT} {cc : ByteArray} {nL : Nat} {rt : Option FieldType} {ka : Nat → ClassId} {lvl cells slots pc : Nat} {lv : List (Nat × Value)} {st : List Value} {ad : Nat → Nat} {F : FT} {R : RT} {J : JT} {P : PT} {B : BT} (C : Cx X cc nL RX7 rt ka lvl) (d : decode cc pc = .ok (.getfield 135, 3)) (kk : G X cells slots (wC ad ka F R J P B) (pc + 3) lv (.ref (ad 304) :: st)) : G X cells slots (wC ad ka F R J P B) pc lv (.ref (ad 399) :: st) := g_get C 3 wC_o3 (hc := rfl) inX8 4 (by decide) (index := 135) (ref := "SummerWall$Tape") (gw_of tw1_123 rfl) rfl rfl d kk
set_option maxHeartbeats 4000000 in
set_option maxRecDepth 100000 in
theorem Ca_304 {X : XT} {cc : ByteArray} {nL : Nat} {own : String} {rt : Option FieldType} {ka : Nat → ClassId} {lvl cells slots pc : Nat} {lv : List (Nat × Value)} {st : List Value} {ad : Nat → Nat} {F : FT} {R : RT} {J : JT} {P : PT} {B : BT} (C : Cx X cc nL own rt ka lvl) {f : Nat → Int32} (hf : R 304 = f) {i : Int32} (j : Nat) (hj : i.toNatClampNeg = j) (hi : vp_in i 6) (d : decode cc pc = .ok (.iaload, 1)) (kk : G X cells slots (wC ad ka F R J P B) (pc + 1) lv (.int (f j) :: st)) : G X cells slots (wC ad ka F R J P B) pc lv (.int i :: .ref (ad 304) :: st) := by
  subst hf; subst hj
  exact g_iald C 21 rfl hi d kk
set_option maxHeartbeats 4000000 in
set_option maxRecDepth 100000 in
theorem Cg_X7_3_oaths {X : XT} {cc : ByteArray} {nL : Nat} {rt : Option FieldType} {ka : Nat → ClassId} {lvl cells slots pc : Nat} {lv : List (Nat × Value)} {st : List Value} {ad : Nat → Nat} {F : FT} {R : RT} {J : JT} {P : PT} {B : BT} (C : Cx X cc nL RX7 rt ka lvl) (d : decode cc pc = .ok (.getfield 136, 3)) (kk : G X cells slots (wC ad ka F R J P B) (pc + 3) lv (.ref (ad 305) :: st)) : G X cells slots (wC ad ka F R J P B) pc lv (.ref (ad 399) :: st) := g_get C 3 wC_o3 (hc := rfl) inX8 5 (by decide) (index := 136) (ref := "SummerWall$Tape") (gw_of tw1_125 rfl) rfl rfl d kk
set_option maxHeartbeats 4000000 in
set_option maxRecDepth 100000 in
theorem Ca_305 {X : XT} {cc : ByteArray} {nL : Nat} {own : String} {rt : Option FieldType} {ka : Nat → ClassId} {lvl cells slots pc : Nat} {lv : List (Nat × Value)} {st : List Value} {ad : Nat → Nat} {F : FT} {R : RT} {J : JT} {P : PT} {B : BT} (C : Cx X cc nL own rt ka lvl) {f : Nat → Int32} (hf : R 305 = f) {i : Int32} (j : Nat) (hj : i.toNatClampNeg = j) (hi : vp_in i 6) (d : decode cc pc = .ok (.iaload, 1)) (kk : G X cells slots (wC ad ka F R J P B) (pc + 1) lv (.int (f j) :: st)) : G X cells slots (wC ad ka F R J P B) pc lv (.int i :: .ref (ad 305) :: st) := by
  subst hf; subst hj
  exact g_iald C 22 rfl hi d kk
set_option maxHeartbeats 4000000 in
set_option maxRecDepth 100000 in
theorem Cp_X7_2_stones {X : XT} {cc : ByteArray} {nL : Nat} {rt : Option FieldType} {ka : Nat → ClassId} {lvl cells slots pc : Nat} {lv : List (Nat × Value)} {st : List Value} {ad : Nat → Nat} {F : FT} {R : RT} {J : JT} {P : PT} {B : BT} (C : Cx X cc nL RX7 rt ka lvl) {x : Int32} (d : decode cc pc = .ok (.putfield 9, 3)) (kk : G X cells slots (wC ad ka (upd F 200 x) R J P B) (pc + 3) lv st) : G X cells slots (wC ad ka F R J P B) pc lv (.int x :: .ref (ad 299) :: st) := g_put C 2 wC_o2 (hc := rfl) inX7 tyX7 tyX7_ok nmX7 0 (by decide) (index := 9) (ref := "SummerWall$Site") (gw_of tw1_31 rfl) rfl rfl rfl rfl (Nat.le_of_ble_eq_true rfl) _ rfl d kk
set_option maxHeartbeats 4000000 in
set_option maxRecDepth 100000 in
theorem Cp_X7_2_days {X : XT} {cc : ByteArray} {nL : Nat} {rt : Option FieldType} {ka : Nat → ClassId} {lvl cells slots pc : Nat} {lv : List (Nat × Value)} {st : List Value} {ad : Nat → Nat} {F : FT} {R : RT} {J : JT} {P : PT} {B : BT} (C : Cx X cc nL RX7 rt ka lvl) {x : Int32} (d : decode cc pc = .ok (.putfield 15, 3)) (kk : G X cells slots (wC ad ka (upd F 201 x) R J P B) (pc + 3) lv st) : G X cells slots (wC ad ka F R J P B) pc lv (.int x :: .ref (ad 299) :: st) := g_put C 2 wC_o2 (hc := rfl) inX7 tyX7 tyX7_ok nmX7 1 (by decide) (index := 15) (ref := "SummerWall$Site") (gw_of tw1_34 rfl) rfl rfl rfl rfl (Nat.le_of_ble_eq_true rfl) _ rfl d kk
set_option maxHeartbeats 4000000 in
set_option maxRecDepth 100000 in
theorem Cp_X7_2_frost {X : XT} {cc : ByteArray} {nL : Nat} {rt : Option FieldType} {ka : Nat → ClassId} {lvl cells slots pc : Nat} {lv : List (Nat × Value)} {st : List Value} {ad : Nat → Nat} {F : FT} {R : RT} {J : JT} {P : PT} {B : BT} (C : Cx X cc nL RX7 rt ka lvl) {x : Int32} (d : decode cc pc = .ok (.putfield 18, 3)) (kk : G X cells slots (wC ad ka (upd F 202 x) R J P B) (pc + 3) lv st) : G X cells slots (wC ad ka F R J P B) pc lv (.int x :: .ref (ad 299) :: st) := g_put C 2 wC_o2 (hc := rfl) inX7 tyX7 tyX7_ok nmX7 2 (by decide) (index := 18) (ref := "SummerWall$Site") (gw_of tw1_37 rfl) rfl rfl rfl rfl (Nat.le_of_ble_eq_true rfl) _ rfl d kk
set_option maxHeartbeats 4000000 in
set_option maxRecDepth 100000 in
theorem Cp_X7_2_thaw {X : XT} {cc : ByteArray} {nL : Nat} {rt : Option FieldType} {ka : Nat → ClassId} {lvl cells slots pc : Nat} {lv : List (Nat × Value)} {st : List Value} {ad : Nat → Nat} {F : FT} {R : RT} {J : JT} {P : PT} {B : BT} (C : Cx X cc nL RX7 rt ka lvl) {x : Int32} (d : decode cc pc = .ok (.putfield 21, 3)) (kk : G X cells slots (wC ad ka (upd F 203 x) R J P B) (pc + 3) lv st) : G X cells slots (wC ad ka F R J P B) pc lv (.int x :: .ref (ad 299) :: st) := g_put C 2 wC_o2 (hc := rfl) inX7 tyX7 tyX7_ok nmX7 3 (by decide) (index := 21) (ref := "SummerWall$Site") (gw_of tw1_40 rfl) rfl rfl rfl rfl (Nat.le_of_ble_eq_true rfl) _ rfl d kk
set_option maxHeartbeats 4000000 in
set_option maxRecDepth 100000 in
theorem Cp_X7_2_day {X : XT} {cc : ByteArray} {nL : Nat} {rt : Option FieldType} {ka : Nat → ClassId} {lvl cells slots pc : Nat} {lv : List (Nat × Value)} {st : List Value} {ad : Nat → Nat} {F : FT} {R : RT} {J : JT} {P : PT} {B : BT} (C : Cx X cc nL RX7 rt ka lvl) {x : Int32} (d : decode cc pc = .ok (.putfield 46, 3)) (kk : G X cells slots (wC ad ka (upd F 204 x) R J P B) (pc + 3) lv st) : G X cells slots (wC ad ka F R J P B) pc lv (.int x :: .ref (ad 299) :: st) := g_put C 2 wC_o2 (hc := rfl) inX7 tyX7 tyX7_ok nmX7 4 (by decide) (index := 46) (ref := "SummerWall$Site") (gw_of tw1_43 rfl) rfl rfl rfl rfl (Nat.le_of_ble_eq_true rfl) _ rfl d kk
set_option maxHeartbeats 4000000 in
set_option maxRecDepth 100000 in
theorem Cp_X7_2_laid {X : XT} {cc : ByteArray} {nL : Nat} {rt : Option FieldType} {ka : Nat → ClassId} {lvl cells slots pc : Nat} {lv : List (Nat × Value)} {st : List Value} {ad : Nat → Nat} {F : FT} {R : RT} {J : JT} {P : PT} {B : BT} (C : Cx X cc nL RX7 rt ka lvl) {x : Int32} (d : decode cc pc = .ok (.putfield 90, 3)) (kk : G X cells slots (wC ad ka (upd F 205 x) R J P B) (pc + 3) lv st) : G X cells slots (wC ad ka F R J P B) pc lv (.int x :: .ref (ad 299) :: st) := g_put C 2 wC_o2 (hc := rfl) inX7 tyX7 tyX7_ok nmX7 5 (by decide) (index := 90) (ref := "SummerWall$Site") (gw_of tw1_48 rfl) rfl rfl rfl rfl (Nat.le_of_ble_eq_true rfl) _ rfl d kk
set_option maxHeartbeats 4000000 in
set_option maxRecDepth 100000 in
theorem Cp_X7_2_used {X : XT} {cc : ByteArray} {nL : Nat} {rt : Option FieldType} {ka : Nat → ClassId} {lvl cells slots pc : Nat} {lv : List (Nat × Value)} {st : List Value} {ad : Nat → Nat} {F : FT} {R : RT} {J : JT} {P : PT} {B : BT} (C : Cx X cc nL RX7 rt ka lvl) {x : Int32} (d : decode cc pc = .ok (.putfield 49, 3)) (kk : G X cells slots (wC ad ka (upd F 206 x) R J P B) (pc + 3) lv st) : G X cells slots (wC ad ka F R J P B) pc lv (.int x :: .ref (ad 299) :: st) := g_put C 2 wC_o2 (hc := rfl) inX7 tyX7 tyX7_ok nmX7 6 (by decide) (index := 49) (ref := "SummerWall$Site") (gw_of tw1_49 rfl) rfl rfl rfl rfl (Nat.le_of_ble_eq_true rfl) _ rfl d kk
set_option maxHeartbeats 4000000 in
set_option maxRecDepth 100000 in
theorem Cp_X7_2_usedToday {X : XT} {cc : ByteArray} {nL : Nat} {rt : Option FieldType} {ka : Nat → ClassId} {lvl cells slots pc : Nat} {lv : List (Nat × Value)} {st : List Value} {ad : Nat → Nat} {F : FT} {R : RT} {J : JT} {P : PT} {B : BT} (C : Cx X cc nL RX7 rt ka lvl) {x : Int32} (d : decode cc pc = .ok (.putfield 76, 3)) (kk : G X cells slots (wC ad ka (upd F 207 x) R J P B) (pc + 3) lv st) : G X cells slots (wC ad ka F R J P B) pc lv (.int x :: .ref (ad 299) :: st) := g_put C 2 wC_o2 (hc := rfl) inX7 tyX7 tyX7_ok nmX7 7 (by decide) (index := 76) (ref := "SummerWall$Site") (gw_of tw1_52 rfl) rfl rfl rfl rfl (Nat.le_of_ble_eq_true rfl) _ rfl d kk
set_option maxHeartbeats 4000000 in
set_option maxRecDepth 100000 in
theorem Cp_X7_2_broken {X : XT} {cc : ByteArray} {nL : Nat} {rt : Option FieldType} {ka : Nat → ClassId} {lvl cells slots pc : Nat} {lv : List (Nat × Value)} {st : List Value} {ad : Nat → Nat} {F : FT} {R : RT} {J : JT} {P : PT} {B : BT} (C : Cx X cc nL RX7 rt ka lvl) {x : Int32} (d : decode cc pc = .ok (.putfield 87, 3)) (kk : G X cells slots (wC ad ka (upd F 208 x) R J P B) (pc + 3) lv st) : G X cells slots (wC ad ka F R J P B) pc lv (.int x :: .ref (ad 299) :: st) := g_put C 2 wC_o2 (hc := rfl) inX7 tyX7 tyX7_ok nmX7 8 (by decide) (index := 87) (ref := "SummerWall$Site") (gw_of tw1_53 rfl) rfl rfl rfl rfl (Nat.le_of_ble_eq_true rfl) _ rfl d kk
set_option maxHeartbeats 4000000 in
set_option maxRecDepth 100000 in
theorem Cp_X7_2_sworn {X : XT} {cc : ByteArray} {nL : Nat} {rt : Option FieldType} {ka : Nat → ClassId} {lvl cells slots pc : Nat} {lv : List (Nat × Value)} {st : List Value} {ad : Nat → Nat} {F : FT} {R : RT} {J : JT} {P : PT} {B : BT} (C : Cx X cc nL RX7 rt ka lvl) {x : Int32} (d : decode cc pc = .ok (.putfield 24, 3)) (kk : G X cells slots (wC ad ka (upd F 209 x) R J P B) (pc + 3) lv st) : G X cells slots (wC ad ka F R J P B) pc lv (.int x :: .ref (ad 299) :: st) := g_put C 2 wC_o2 (hc := rfl) inX7 tyX7 tyX7_ok nmX7 9 (by decide) (index := 24) (ref := "SummerWall$Site") (gw_of tw1_55 rfl) rfl rfl rfl rfl (Nat.le_of_ble_eq_true rfl) _ rfl d kk
set_option maxHeartbeats 4000000 in
set_option maxRecDepth 100000 in
theorem Cp_X7_2_draw {X : XT} {cc : ByteArray} {nL : Nat} {rt : Option FieldType} {ka : Nat → ClassId} {lvl cells slots pc : Nat} {lv : List (Nat × Value)} {st : List Value} {ad : Nat → Nat} {F : FT} {R : RT} {J : JT} {P : PT} {B : BT} (C : Cx X cc nL RX7 rt ka lvl) {x : Int32} (d : decode cc pc = .ok (.putfield 27, 3)) (kk : G X cells slots (wC ad ka (upd F 210 x) R J P B) (pc + 3) lv st) : G X cells slots (wC ad ka F R J P B) pc lv (.int x :: .ref (ad 299) :: st) := g_put C 2 wC_o2 (hc := rfl) inX7 tyX7 tyX7_ok nmX7 10 (by decide) (index := 27) (ref := "SummerWall$Site") (gw_of tw1_57 rfl) rfl rfl rfl rfl (Nat.le_of_ble_eq_true rfl) _ rfl d kk
set_option maxHeartbeats 4000000 in
set_option maxRecDepth 100000 in
theorem Cp_X7_2_builderCount {X : XT} {cc : ByteArray} {nL : Nat} {rt : Option FieldType} {ka : Nat → ClassId} {lvl cells slots pc : Nat} {lv : List (Nat × Value)} {st : List Value} {ad : Nat → Nat} {F : FT} {R : RT} {J : JT} {P : PT} {B : BT} (C : Cx X cc nL RX7 rt ka lvl) {x : Int32} (d : decode cc pc = .ok (.putfield 52, 3)) (kk : G X cells slots (wC ad ka (upd F 211 x) R J P B) (pc + 3) lv st) : G X cells slots (wC ad ka F R J P B) pc lv (.int x :: .ref (ad 299) :: st) := g_put C 2 wC_o2 (hc := rfl) inX7 tyX7 tyX7_ok nmX7 11 (by decide) (index := 52) (ref := "SummerWall$Site") (gw_of tw1_60 rfl) rfl rfl rfl rfl (Nat.le_of_ble_eq_true rfl) _ rfl d kk
set_option maxHeartbeats 4000000 in
set_option maxRecDepth 100000 in
theorem Cp_X7_2_hindranceCount {X : XT} {cc : ByteArray} {nL : Nat} {rt : Option FieldType} {ka : Nat → ClassId} {lvl cells slots pc : Nat} {lv : List (Nat × Value)} {st : List Value} {ad : Nat → Nat} {F : FT} {R : RT} {J : JT} {P : PT} {B : BT} (C : Cx X cc nL RX7 rt ka lvl) {x : Int32} (d : decode cc pc = .ok (.putfield 59, 3)) (kk : G X cells slots (wC ad ka (upd F 212 x) R J P B) (pc + 3) lv st) : G X cells slots (wC ad ka F R J P B) pc lv (.int x :: .ref (ad 299) :: st) := g_put C 2 wC_o2 (hc := rfl) inX7 tyX7 tyX7_ok nmX7 12 (by decide) (index := 59) (ref := "SummerWall$Site") (gw_of tw1_61 rfl) rfl rfl rfl rfl (Nat.le_of_ble_eq_true rfl) _ rfl d kk
set_option maxHeartbeats 4000000 in
set_option maxRecDepth 100000 in
theorem Cp_X7_2_pastCount {X : XT} {cc : ByteArray} {nL : Nat} {rt : Option FieldType} {ka : Nat → ClassId} {lvl cells slots pc : Nat} {lv : List (Nat × Value)} {st : List Value} {ad : Nat → Nat} {F : FT} {R : RT} {J : JT} {P : PT} {B : BT} (C : Cx X cc nL RX7 rt ka lvl) {x : Int32} (d : decode cc pc = .ok (.putfield 107, 3)) (kk : G X cells slots (wC ad ka (upd F 213 x) R J P B) (pc + 3) lv st) : G X cells slots (wC ad ka F R J P B) pc lv (.int x :: .ref (ad 299) :: st) := g_put C 2 wC_o2 (hc := rfl) inX7 tyX7 tyX7_ok nmX7 13 (by decide) (index := 107) (ref := "SummerWall$Site") (gw_of tw1_65 rfl) rfl rfl rfl rfl (Nat.le_of_ble_eq_true rfl) _ rfl d kk
set_option maxHeartbeats 4000000 in
set_option maxRecDepth 100000 in
theorem Cg_X7_2_costs {X : XT} {cc : ByteArray} {nL : Nat} {rt : Option FieldType} {ka : Nat → ClassId} {lvl cells slots pc : Nat} {lv : List (Nat × Value)} {st : List Value} {ad : Nat → Nat} {F : FT} {R : RT} {J : JT} {P : PT} {B : BT} (C : Cx X cc nL RX7 rt ka lvl) (d : decode cc pc = .ok (.getfield 36, 3)) (kk : G X cells slots (wC ad ka F R J P B) (pc + 3) lv (.ref (ad 215) :: st)) : G X cells slots (wC ad ka F R J P B) pc lv (.ref (ad 299) :: st) := g_get C 2 wC_o2 (hc := rfl) inX7 15 (by decide) (index := 36) (ref := "SummerWall$Site") (gw_of tw1_68 rfl) rfl rfl d kk
set_option maxHeartbeats 4000000 in
set_option maxRecDepth 100000 in
theorem Cc_115_215 {X : XT} {cc : ByteArray} {nL : Nat} {own : String} {rt : Option FieldType} {ka : Nat → ClassId} {lvl cells slots pc : Nat} {lv : List (Nat × Value)} {st : List Value} {ad : Nat → Nat} {F : FT} {R : RT} {J : JT} {P : PT} {B : BT} (C : Cx X cc nL own rt ka lvl) {f g : Nat → Int32} (hf : R 115 = f) (hg : R 215 = g) {sp dp n : Int32} (h1 : ¬ sp < 0) (h2 : ¬ dp < 0) (h3 : ¬ n < 0) (h4 : sp.toNatClampNeg + n.toNatClampNeg ≤ 6) (h5 : dp.toNatClampNeg + n.toNatClampNeg ≤ 6) {index : Nat} (hlink : Cond.methodLink own index arraycopyName ∈ gw) (hlv : 0 < lvl) (hsum : (st.map fun v => v.category).sum ≤ 8) (d : decode cc pc = .ok (.invokestatic index, 3)) (kk : G X cells slots (wC ad ka F (va_up R 215 (va_cpy f g sp.toNatClampNeg dp.toNatClampNeg n.toNatClampNeg)) J P B) (pc + 3) lv st) : G X cells slots (wC ad ka F R J P B) pc lv (.int n :: .int dp :: .ref (ad 215) :: .int sp :: .ref (ad 115) :: st) := by
  subst hf; subst hg
  exact g_copyi C 10 14 rfl rfl h1 h2 h3 h4 h5 hlink hlv hsum _ rfl d kk
set_option maxHeartbeats 4000000 in
set_option maxRecDepth 100000 in
theorem Cg_X7_2_oaths {X : XT} {cc : ByteArray} {nL : Nat} {rt : Option FieldType} {ka : Nat → ClassId} {lvl cells slots pc : Nat} {lv : List (Nat × Value)} {st : List Value} {ad : Nat → Nat} {F : FT} {R : RT} {J : JT} {P : PT} {B : BT} (C : Cx X cc nL RX7 rt ka lvl) (d : decode cc pc = .ok (.getfield 40, 3)) (kk : G X cells slots (wC ad ka F R J P B) (pc + 3) lv (.ref (ad 216) :: st)) : G X cells slots (wC ad ka F R J P B) pc lv (.ref (ad 299) :: st) := g_get C 2 wC_o2 (hc := rfl) inX7 16 (by decide) (index := 40) (ref := "SummerWall$Site") (gw_of tw1_69 rfl) rfl rfl d kk
set_option maxHeartbeats 4000000 in
set_option maxRecDepth 100000 in
theorem Cc_116_216 {X : XT} {cc : ByteArray} {nL : Nat} {own : String} {rt : Option FieldType} {ka : Nat → ClassId} {lvl cells slots pc : Nat} {lv : List (Nat × Value)} {st : List Value} {ad : Nat → Nat} {F : FT} {R : RT} {J : JT} {P : PT} {B : BT} (C : Cx X cc nL own rt ka lvl) {f g : Nat → Int32} (hf : R 116 = f) (hg : R 216 = g) {sp dp n : Int32} (h1 : ¬ sp < 0) (h2 : ¬ dp < 0) (h3 : ¬ n < 0) (h4 : sp.toNatClampNeg + n.toNatClampNeg ≤ 6) (h5 : dp.toNatClampNeg + n.toNatClampNeg ≤ 6) {index : Nat} (hlink : Cond.methodLink own index arraycopyName ∈ gw) (hlv : 0 < lvl) (hsum : (st.map fun v => v.category).sum ≤ 8) (d : decode cc pc = .ok (.invokestatic index, 3)) (kk : G X cells slots (wC ad ka F (va_up R 216 (va_cpy f g sp.toNatClampNeg dp.toNatClampNeg n.toNatClampNeg)) J P B) (pc + 3) lv st) : G X cells slots (wC ad ka F R J P B) pc lv (.int n :: .int dp :: .ref (ad 216) :: .int sp :: .ref (ad 116) :: st) := by
  subst hf; subst hg
  exact g_copyi C 11 15 rfl rfl h1 h2 h3 h4 h5 hlink hlv hsum _ rfl d kk
set_option maxHeartbeats 4000000 in
set_option maxRecDepth 100000 in
theorem Cg_X7_2_past {X : XT} {cc : ByteArray} {nL : Nat} {rt : Option FieldType} {ka : Nat → ClassId} {lvl cells slots pc : Nat} {lv : List (Nat × Value)} {st : List Value} {ad : Nat → Nat} {F : FT} {R : RT} {J : JT} {P : PT} {B : BT} (C : Cx X cc nL RX7 rt ka lvl) (d : decode cc pc = .ok (.getfield 43, 3)) (kk : G X cells slots (wC ad ka F R J P B) (pc + 3) lv (.ref (ad 217) :: st)) : G X cells slots (wC ad ka F R J P B) pc lv (.ref (ad 299) :: st) := g_get C 2 wC_o2 (hc := rfl) inX7 17 (by decide) (index := 43) (ref := "SummerWall$Site") (gw_of tw1_70 rfl) rfl rfl d kk
set_option maxHeartbeats 4000000 in
set_option maxRecDepth 100000 in
theorem Cc_117_217 {X : XT} {cc : ByteArray} {nL : Nat} {own : String} {rt : Option FieldType} {ka : Nat → ClassId} {lvl cells slots pc : Nat} {lv : List (Nat × Value)} {st : List Value} {ad : Nat → Nat} {F : FT} {R : RT} {J : JT} {P : PT} {B : BT} (C : Cx X cc nL own rt ka lvl) {f g : Nat → Int32} (hf : R 117 = f) (hg : R 217 = g) {sp dp n : Int32} (h1 : ¬ sp < 0) (h2 : ¬ dp < 0) (h3 : ¬ n < 0) (h4 : sp.toNatClampNeg + n.toNatClampNeg ≤ 48) (h5 : dp.toNatClampNeg + n.toNatClampNeg ≤ 48) {index : Nat} (hlink : Cond.methodLink own index arraycopyName ∈ gw) (hlv : 0 < lvl) (hsum : (st.map fun v => v.category).sum ≤ 8) (d : decode cc pc = .ok (.invokestatic index, 3)) (kk : G X cells slots (wC ad ka F (va_up R 217 (va_cpy f g sp.toNatClampNeg dp.toNatClampNeg n.toNatClampNeg)) J P B) (pc + 3) lv st) : G X cells slots (wC ad ka F R J P B) pc lv (.int n :: .int dp :: .ref (ad 217) :: .int sp :: .ref (ad 117) :: st) := by
  subst hf; subst hg
  exact g_copyi C 12 16 rfl rfl h1 h2 h3 h4 h5 hlink hlv hsum _ rfl d kk
set_option maxHeartbeats 4000000 in
set_option maxRecDepth 100000 in
theorem Cg_X7_2_builders {X : XT} {cc : ByteArray} {nL : Nat} {rt : Option FieldType} {ka : Nat → ClassId} {lvl cells slots pc : Nat} {lv : List (Nat × Value)} {st : List Value} {ad : Nat → Nat} {F : FT} {R : RT} {J : JT} {P : PT} {B : BT} (C : Cx X cc nL RX7 rt ka lvl) (d : decode cc pc = .ok (.getfield 32, 3)) (kk : G X cells slots (wC ad ka F R J P B) (pc + 3) lv (.ref (ad 214) :: st)) : G X cells slots (wC ad ka F R J P B) pc lv (.ref (ad 299) :: st) := g_get C 2 wC_o2 (hc := rfl) inX7 14 (by decide) (index := 32) (ref := "SummerWall$Site") (gw_of tw1_66 rfl) rfl rfl d kk
set_option maxHeartbeats 4000000 in
set_option maxRecDepth 100000 in
theorem Cg_X7_2_stones {X : XT} {cc : ByteArray} {nL : Nat} {rt : Option FieldType} {ka : Nat → ClassId} {lvl cells slots pc : Nat} {lv : List (Nat × Value)} {st : List Value} {ad : Nat → Nat} {F : FT} {R : RT} {J : JT} {P : PT} {B : BT} (C : Cx X cc nL RX7 rt ka lvl) {v : Int32} (hv : F 200 = v) (d : decode cc pc = .ok (.getfield 9, 3)) (kk : G X cells slots (wC ad ka F R J P B) (pc + 3) lv (.int v :: st)) : G X cells slots (wC ad ka F R J P B) pc lv (.ref (ad 299) :: st) := by
  subst hv
  exact g_get C 2 wC_o2 (hc := rfl) inX7 0 (by decide) (index := 9) (ref := "SummerWall$Site") (gw_of tw1_31 rfl) rfl rfl d kk
set_option maxHeartbeats 4000000 in
set_option maxRecDepth 100000 in
theorem Cg_X7_2_days {X : XT} {cc : ByteArray} {nL : Nat} {rt : Option FieldType} {ka : Nat → ClassId} {lvl cells slots pc : Nat} {lv : List (Nat × Value)} {st : List Value} {ad : Nat → Nat} {F : FT} {R : RT} {J : JT} {P : PT} {B : BT} (C : Cx X cc nL RX7 rt ka lvl) {v : Int32} (hv : F 201 = v) (d : decode cc pc = .ok (.getfield 15, 3)) (kk : G X cells slots (wC ad ka F R J P B) (pc + 3) lv (.int v :: st)) : G X cells slots (wC ad ka F R J P B) pc lv (.ref (ad 299) :: st) := by
  subst hv
  exact g_get C 2 wC_o2 (hc := rfl) inX7 1 (by decide) (index := 15) (ref := "SummerWall$Site") (gw_of tw1_34 rfl) rfl rfl d kk
set_option maxHeartbeats 4000000 in
set_option maxRecDepth 100000 in
theorem Cg_X7_2_frost {X : XT} {cc : ByteArray} {nL : Nat} {rt : Option FieldType} {ka : Nat → ClassId} {lvl cells slots pc : Nat} {lv : List (Nat × Value)} {st : List Value} {ad : Nat → Nat} {F : FT} {R : RT} {J : JT} {P : PT} {B : BT} (C : Cx X cc nL RX7 rt ka lvl) {v : Int32} (hv : F 202 = v) (d : decode cc pc = .ok (.getfield 18, 3)) (kk : G X cells slots (wC ad ka F R J P B) (pc + 3) lv (.int v :: st)) : G X cells slots (wC ad ka F R J P B) pc lv (.ref (ad 299) :: st) := by
  subst hv
  exact g_get C 2 wC_o2 (hc := rfl) inX7 2 (by decide) (index := 18) (ref := "SummerWall$Site") (gw_of tw1_37 rfl) rfl rfl d kk
set_option maxHeartbeats 4000000 in
set_option maxRecDepth 100000 in
theorem Cp_X7_1_frost {X : XT} {cc : ByteArray} {nL : Nat} {rt : Option FieldType} {ka : Nat → ClassId} {lvl cells slots pc : Nat} {lv : List (Nat × Value)} {st : List Value} {ad : Nat → Nat} {F : FT} {R : RT} {J : JT} {P : PT} {B : BT} (C : Cx X cc nL RX7 rt ka lvl) {x : Int32} (d : decode cc pc = .ok (.putfield 18, 3)) (kk : G X cells slots (wC ad ka (upd F 102 x) R J P B) (pc + 3) lv st) : G X cells slots (wC ad ka F R J P B) pc lv (.int x :: .ref (ad 199) :: st) := g_put C 1 wC_o1 (hc := rfl) inX7 tyX7 tyX7_ok nmX7 2 (by decide) (index := 18) (ref := "SummerWall$Site") (gw_of tw1_37 rfl) rfl rfl rfl rfl (Nat.le_of_ble_eq_true rfl) _ rfl d kk
set_option maxHeartbeats 4000000 in
set_option maxRecDepth 100000 in
theorem Cg_X7_2_thaw {X : XT} {cc : ByteArray} {nL : Nat} {rt : Option FieldType} {ka : Nat → ClassId} {lvl cells slots pc : Nat} {lv : List (Nat × Value)} {st : List Value} {ad : Nat → Nat} {F : FT} {R : RT} {J : JT} {P : PT} {B : BT} (C : Cx X cc nL RX7 rt ka lvl) {v : Int32} (hv : F 203 = v) (d : decode cc pc = .ok (.getfield 21, 3)) (kk : G X cells slots (wC ad ka F R J P B) (pc + 3) lv (.int v :: st)) : G X cells slots (wC ad ka F R J P B) pc lv (.ref (ad 299) :: st) := by
  subst hv
  exact g_get C 2 wC_o2 (hc := rfl) inX7 3 (by decide) (index := 21) (ref := "SummerWall$Site") (gw_of tw1_40 rfl) rfl rfl d kk
set_option maxHeartbeats 4000000 in
set_option maxRecDepth 100000 in
theorem Cp_X7_1_thaw {X : XT} {cc : ByteArray} {nL : Nat} {rt : Option FieldType} {ka : Nat → ClassId} {lvl cells slots pc : Nat} {lv : List (Nat × Value)} {st : List Value} {ad : Nat → Nat} {F : FT} {R : RT} {J : JT} {P : PT} {B : BT} (C : Cx X cc nL RX7 rt ka lvl) {x : Int32} (d : decode cc pc = .ok (.putfield 21, 3)) (kk : G X cells slots (wC ad ka (upd F 103 x) R J P B) (pc + 3) lv st) : G X cells slots (wC ad ka F R J P B) pc lv (.int x :: .ref (ad 199) :: st) := g_put C 1 wC_o1 (hc := rfl) inX7 tyX7 tyX7_ok nmX7 3 (by decide) (index := 21) (ref := "SummerWall$Site") (gw_of tw1_40 rfl) rfl rfl rfl rfl (Nat.le_of_ble_eq_true rfl) _ rfl d kk
set_option maxHeartbeats 4000000 in
set_option maxRecDepth 100000 in
theorem Cg_X7_2_day {X : XT} {cc : ByteArray} {nL : Nat} {rt : Option FieldType} {ka : Nat → ClassId} {lvl cells slots pc : Nat} {lv : List (Nat × Value)} {st : List Value} {ad : Nat → Nat} {F : FT} {R : RT} {J : JT} {P : PT} {B : BT} (C : Cx X cc nL RX7 rt ka lvl) {v : Int32} (hv : F 204 = v) (d : decode cc pc = .ok (.getfield 46, 3)) (kk : G X cells slots (wC ad ka F R J P B) (pc + 3) lv (.int v :: st)) : G X cells slots (wC ad ka F R J P B) pc lv (.ref (ad 299) :: st) := by
  subst hv
  exact g_get C 2 wC_o2 (hc := rfl) inX7 4 (by decide) (index := 46) (ref := "SummerWall$Site") (gw_of tw1_43 rfl) rfl rfl d kk
set_option maxHeartbeats 4000000 in
set_option maxRecDepth 100000 in
theorem Cg_X7_2_laid {X : XT} {cc : ByteArray} {nL : Nat} {rt : Option FieldType} {ka : Nat → ClassId} {lvl cells slots pc : Nat} {lv : List (Nat × Value)} {st : List Value} {ad : Nat → Nat} {F : FT} {R : RT} {J : JT} {P : PT} {B : BT} (C : Cx X cc nL RX7 rt ka lvl) {v : Int32} (hv : F 205 = v) (d : decode cc pc = .ok (.getfield 90, 3)) (kk : G X cells slots (wC ad ka F R J P B) (pc + 3) lv (.int v :: st)) : G X cells slots (wC ad ka F R J P B) pc lv (.ref (ad 299) :: st) := by
  subst hv
  exact g_get C 2 wC_o2 (hc := rfl) inX7 5 (by decide) (index := 90) (ref := "SummerWall$Site") (gw_of tw1_48 rfl) rfl rfl d kk
set_option maxHeartbeats 4000000 in
set_option maxRecDepth 100000 in
theorem Cg_X7_2_used {X : XT} {cc : ByteArray} {nL : Nat} {rt : Option FieldType} {ka : Nat → ClassId} {lvl cells slots pc : Nat} {lv : List (Nat × Value)} {st : List Value} {ad : Nat → Nat} {F : FT} {R : RT} {J : JT} {P : PT} {B : BT} (C : Cx X cc nL RX7 rt ka lvl) {v : Int32} (hv : F 206 = v) (d : decode cc pc = .ok (.getfield 49, 3)) (kk : G X cells slots (wC ad ka F R J P B) (pc + 3) lv (.int v :: st)) : G X cells slots (wC ad ka F R J P B) pc lv (.ref (ad 299) :: st) := by
  subst hv
  exact g_get C 2 wC_o2 (hc := rfl) inX7 6 (by decide) (index := 49) (ref := "SummerWall$Site") (gw_of tw1_49 rfl) rfl rfl d kk
set_option maxHeartbeats 4000000 in
set_option maxRecDepth 100000 in
theorem Cg_X7_2_usedToday {X : XT} {cc : ByteArray} {nL : Nat} {rt : Option FieldType} {ka : Nat → ClassId} {lvl cells slots pc : Nat} {lv : List (Nat × Value)} {st : List Value} {ad : Nat → Nat} {F : FT} {R : RT} {J : JT} {P : PT} {B : BT} (C : Cx X cc nL RX7 rt ka lvl) {v : Int32} (hv : F 207 = v) (d : decode cc pc = .ok (.getfield 76, 3)) (kk : G X cells slots (wC ad ka F R J P B) (pc + 3) lv (.int v :: st)) : G X cells slots (wC ad ka F R J P B) pc lv (.ref (ad 299) :: st) := by
  subst hv
  exact g_get C 2 wC_o2 (hc := rfl) inX7 7 (by decide) (index := 76) (ref := "SummerWall$Site") (gw_of tw1_52 rfl) rfl rfl d kk
set_option maxHeartbeats 4000000 in
set_option maxRecDepth 100000 in
theorem Cg_X7_2_broken {X : XT} {cc : ByteArray} {nL : Nat} {rt : Option FieldType} {ka : Nat → ClassId} {lvl cells slots pc : Nat} {lv : List (Nat × Value)} {st : List Value} {ad : Nat → Nat} {F : FT} {R : RT} {J : JT} {P : PT} {B : BT} (C : Cx X cc nL RX7 rt ka lvl) {v : Int32} (hv : F 208 = v) (d : decode cc pc = .ok (.getfield 87, 3)) (kk : G X cells slots (wC ad ka F R J P B) (pc + 3) lv (.int v :: st)) : G X cells slots (wC ad ka F R J P B) pc lv (.ref (ad 299) :: st) := by
  subst hv
  exact g_get C 2 wC_o2 (hc := rfl) inX7 8 (by decide) (index := 87) (ref := "SummerWall$Site") (gw_of tw1_53 rfl) rfl rfl d kk
set_option maxHeartbeats 4000000 in
set_option maxRecDepth 100000 in
theorem Cg_X7_2_sworn {X : XT} {cc : ByteArray} {nL : Nat} {rt : Option FieldType} {ka : Nat → ClassId} {lvl cells slots pc : Nat} {lv : List (Nat × Value)} {st : List Value} {ad : Nat → Nat} {F : FT} {R : RT} {J : JT} {P : PT} {B : BT} (C : Cx X cc nL RX7 rt ka lvl) {v : Int32} (hv : F 209 = v) (d : decode cc pc = .ok (.getfield 24, 3)) (kk : G X cells slots (wC ad ka F R J P B) (pc + 3) lv (.int v :: st)) : G X cells slots (wC ad ka F R J P B) pc lv (.ref (ad 299) :: st) := by
  subst hv
  exact g_get C 2 wC_o2 (hc := rfl) inX7 9 (by decide) (index := 24) (ref := "SummerWall$Site") (gw_of tw1_55 rfl) rfl rfl d kk
set_option maxHeartbeats 4000000 in
set_option maxRecDepth 100000 in
theorem Cp_X7_1_sworn {X : XT} {cc : ByteArray} {nL : Nat} {rt : Option FieldType} {ka : Nat → ClassId} {lvl cells slots pc : Nat} {lv : List (Nat × Value)} {st : List Value} {ad : Nat → Nat} {F : FT} {R : RT} {J : JT} {P : PT} {B : BT} (C : Cx X cc nL RX7 rt ka lvl) {x : Int32} (d : decode cc pc = .ok (.putfield 24, 3)) (kk : G X cells slots (wC ad ka (upd F 109 x) R J P B) (pc + 3) lv st) : G X cells slots (wC ad ka F R J P B) pc lv (.int x :: .ref (ad 199) :: st) := g_put C 1 wC_o1 (hc := rfl) inX7 tyX7 tyX7_ok nmX7 9 (by decide) (index := 24) (ref := "SummerWall$Site") (gw_of tw1_55 rfl) rfl rfl rfl rfl (Nat.le_of_ble_eq_true rfl) _ rfl d kk
set_option maxHeartbeats 4000000 in
set_option maxRecDepth 100000 in
theorem Cg_X7_2_draw {X : XT} {cc : ByteArray} {nL : Nat} {rt : Option FieldType} {ka : Nat → ClassId} {lvl cells slots pc : Nat} {lv : List (Nat × Value)} {st : List Value} {ad : Nat → Nat} {F : FT} {R : RT} {J : JT} {P : PT} {B : BT} (C : Cx X cc nL RX7 rt ka lvl) {v : Int32} (hv : F 210 = v) (d : decode cc pc = .ok (.getfield 27, 3)) (kk : G X cells slots (wC ad ka F R J P B) (pc + 3) lv (.int v :: st)) : G X cells slots (wC ad ka F R J P B) pc lv (.ref (ad 299) :: st) := by
  subst hv
  exact g_get C 2 wC_o2 (hc := rfl) inX7 10 (by decide) (index := 27) (ref := "SummerWall$Site") (gw_of tw1_57 rfl) rfl rfl d kk
set_option maxHeartbeats 4000000 in
set_option maxRecDepth 100000 in
theorem Cg_X7_2_builderCount {X : XT} {cc : ByteArray} {nL : Nat} {rt : Option FieldType} {ka : Nat → ClassId} {lvl cells slots pc : Nat} {lv : List (Nat × Value)} {st : List Value} {ad : Nat → Nat} {F : FT} {R : RT} {J : JT} {P : PT} {B : BT} (C : Cx X cc nL RX7 rt ka lvl) {v : Int32} (hv : F 211 = v) (d : decode cc pc = .ok (.getfield 52, 3)) (kk : G X cells slots (wC ad ka F R J P B) (pc + 3) lv (.int v :: st)) : G X cells slots (wC ad ka F R J P B) pc lv (.ref (ad 299) :: st) := by
  subst hv
  exact g_get C 2 wC_o2 (hc := rfl) inX7 11 (by decide) (index := 52) (ref := "SummerWall$Site") (gw_of tw1_60 rfl) rfl rfl d kk
set_option maxHeartbeats 4000000 in
set_option maxRecDepth 100000 in
theorem Cg_X7_2_hindranceCount {X : XT} {cc : ByteArray} {nL : Nat} {rt : Option FieldType} {ka : Nat → ClassId} {lvl cells slots pc : Nat} {lv : List (Nat × Value)} {st : List Value} {ad : Nat → Nat} {F : FT} {R : RT} {J : JT} {P : PT} {B : BT} (C : Cx X cc nL RX7 rt ka lvl) {v : Int32} (hv : F 212 = v) (d : decode cc pc = .ok (.getfield 59, 3)) (kk : G X cells slots (wC ad ka F R J P B) (pc + 3) lv (.int v :: st)) : G X cells slots (wC ad ka F R J P B) pc lv (.ref (ad 299) :: st) := by
  subst hv
  exact g_get C 2 wC_o2 (hc := rfl) inX7 12 (by decide) (index := 59) (ref := "SummerWall$Site") (gw_of tw1_61 rfl) rfl rfl d kk
set_option maxHeartbeats 4000000 in
set_option maxRecDepth 100000 in
theorem Cg_X7_2_pastCount {X : XT} {cc : ByteArray} {nL : Nat} {rt : Option FieldType} {ka : Nat → ClassId} {lvl cells slots pc : Nat} {lv : List (Nat × Value)} {st : List Value} {ad : Nat → Nat} {F : FT} {R : RT} {J : JT} {P : PT} {B : BT} (C : Cx X cc nL RX7 rt ka lvl) {v : Int32} (hv : F 213 = v) (d : decode cc pc = .ok (.getfield 107, 3)) (kk : G X cells slots (wC ad ka F R J P B) (pc + 3) lv (.int v :: st)) : G X cells slots (wC ad ka F R J P B) pc lv (.ref (ad 299) :: st) := by
  subst hv
  exact g_get C 2 wC_o2 (hc := rfl) inX7 13 (by decide) (index := 107) (ref := "SummerWall$Site") (gw_of tw1_65 rfl) rfl rfl d kk
set_option maxHeartbeats 4000000 in
set_option maxRecDepth 100000 in
theorem Cc_215_115 {X : XT} {cc : ByteArray} {nL : Nat} {own : String} {rt : Option FieldType} {ka : Nat → ClassId} {lvl cells slots pc : Nat} {lv : List (Nat × Value)} {st : List Value} {ad : Nat → Nat} {F : FT} {R : RT} {J : JT} {P : PT} {B : BT} (C : Cx X cc nL own rt ka lvl) {f g : Nat → Int32} (hf : R 215 = f) (hg : R 115 = g) {sp dp n : Int32} (h1 : ¬ sp < 0) (h2 : ¬ dp < 0) (h3 : ¬ n < 0) (h4 : sp.toNatClampNeg + n.toNatClampNeg ≤ 6) (h5 : dp.toNatClampNeg + n.toNatClampNeg ≤ 6) {index : Nat} (hlink : Cond.methodLink own index arraycopyName ∈ gw) (hlv : 0 < lvl) (hsum : (st.map fun v => v.category).sum ≤ 8) (d : decode cc pc = .ok (.invokestatic index, 3)) (kk : G X cells slots (wC ad ka F (va_up R 115 (va_cpy f g sp.toNatClampNeg dp.toNatClampNeg n.toNatClampNeg)) J P B) (pc + 3) lv st) : G X cells slots (wC ad ka F R J P B) pc lv (.int n :: .int dp :: .ref (ad 115) :: .int sp :: .ref (ad 215) :: st) := by
  subst hf; subst hg
  exact g_copyi C 14 10 rfl rfl h1 h2 h3 h4 h5 hlink hlv hsum _ rfl d kk
set_option maxHeartbeats 4000000 in
set_option maxRecDepth 100000 in
theorem Cc_216_116 {X : XT} {cc : ByteArray} {nL : Nat} {own : String} {rt : Option FieldType} {ka : Nat → ClassId} {lvl cells slots pc : Nat} {lv : List (Nat × Value)} {st : List Value} {ad : Nat → Nat} {F : FT} {R : RT} {J : JT} {P : PT} {B : BT} (C : Cx X cc nL own rt ka lvl) {f g : Nat → Int32} (hf : R 216 = f) (hg : R 116 = g) {sp dp n : Int32} (h1 : ¬ sp < 0) (h2 : ¬ dp < 0) (h3 : ¬ n < 0) (h4 : sp.toNatClampNeg + n.toNatClampNeg ≤ 6) (h5 : dp.toNatClampNeg + n.toNatClampNeg ≤ 6) {index : Nat} (hlink : Cond.methodLink own index arraycopyName ∈ gw) (hlv : 0 < lvl) (hsum : (st.map fun v => v.category).sum ≤ 8) (d : decode cc pc = .ok (.invokestatic index, 3)) (kk : G X cells slots (wC ad ka F (va_up R 116 (va_cpy f g sp.toNatClampNeg dp.toNatClampNeg n.toNatClampNeg)) J P B) (pc + 3) lv st) : G X cells slots (wC ad ka F R J P B) pc lv (.int n :: .int dp :: .ref (ad 116) :: .int sp :: .ref (ad 216) :: st) := by
  subst hf; subst hg
  exact g_copyi C 15 11 rfl rfl h1 h2 h3 h4 h5 hlink hlv hsum _ rfl d kk
set_option maxHeartbeats 4000000 in
set_option maxRecDepth 100000 in
theorem Cc_217_117 {X : XT} {cc : ByteArray} {nL : Nat} {own : String} {rt : Option FieldType} {ka : Nat → ClassId} {lvl cells slots pc : Nat} {lv : List (Nat × Value)} {st : List Value} {ad : Nat → Nat} {F : FT} {R : RT} {J : JT} {P : PT} {B : BT} (C : Cx X cc nL own rt ka lvl) {f g : Nat → Int32} (hf : R 217 = f) (hg : R 117 = g) {sp dp n : Int32} (h1 : ¬ sp < 0) (h2 : ¬ dp < 0) (h3 : ¬ n < 0) (h4 : sp.toNatClampNeg + n.toNatClampNeg ≤ 48) (h5 : dp.toNatClampNeg + n.toNatClampNeg ≤ 48) {index : Nat} (hlink : Cond.methodLink own index arraycopyName ∈ gw) (hlv : 0 < lvl) (hsum : (st.map fun v => v.category).sum ≤ 8) (d : decode cc pc = .ok (.invokestatic index, 3)) (kk : G X cells slots (wC ad ka F (va_up R 117 (va_cpy f g sp.toNatClampNeg dp.toNatClampNeg n.toNatClampNeg)) J P B) (pc + 3) lv st) : G X cells slots (wC ad ka F R J P B) pc lv (.int n :: .int dp :: .ref (ad 117) :: .int sp :: .ref (ad 217) :: st) := by
  subst hf; subst hg
  exact g_copyi C 16 12 rfl rfl h1 h2 h3 h4 h5 hlink hlv hsum _ rfl d kk
set_option maxHeartbeats 4000000 in
set_option maxRecDepth 100000 in
theorem Cg_X8_3_length {X : XT} {cc : ByteArray} {nL : Nat} {rt : Option FieldType} {ka : Nat → ClassId} {lvl cells slots pc : Nat} {lv : List (Nat × Value)} {st : List Value} {ad : Nat → Nat} {F : FT} {R : RT} {J : JT} {P : PT} {B : BT} (C : Cx X cc nL RX8 rt ka lvl) {v : Int32} (hv : F 306 = v) (d : decode cc pc = .ok (.getfield 31, 3)) (kk : G X cells slots (wC ad ka F R J P B) (pc + 3) lv (.int v :: st)) : G X cells slots (wC ad ka F R J P B) pc lv (.ref (ad 399) :: st) := by
  subst hv
  exact g_get C 3 wC_o3 (hc := rfl) inX8 6 (by decide) (index := 31) (ref := "SummerWall$Tape") (gw_of tw1_126 rfl) rfl rfl d kk
set_option maxHeartbeats 4000000 in
set_option maxRecDepth 100000 in
theorem Cg_X8_3_letters {X : XT} {cc : ByteArray} {nL : Nat} {rt : Option FieldType} {ka : Nat → ClassId} {lvl cells slots pc : Nat} {lv : List (Nat × Value)} {st : List Value} {ad : Nat → Nat} {F : FT} {R : RT} {J : JT} {P : PT} {B : BT} (C : Cx X cc nL RX8 rt ka lvl) (d : decode cc pc = .ok (.getfield 9, 3)) (kk : G X cells slots (wC ad ka F R J P B) (pc + 3) lv (.ref (ad 300) :: st)) : G X cells slots (wC ad ka F R J P B) pc lv (.ref (ad 399) :: st) := g_get C 3 wC_o3 (hc := rfl) inX8 0 (by decide) (index := 9) (ref := "SummerWall$Tape") (gw_of tw1_115 rfl) rfl rfl d kk
set_option maxHeartbeats 4000000 in
set_option maxRecDepth 100000 in
theorem Cs_300 {X : XT} {cc : ByteArray} {nL : Nat} {own : String} {rt : Option FieldType} {ka : Nat → ClassId} {lvl cells slots pc : Nat} {lv : List (Nat × Value)} {st : List Value} {ad : Nat → Nat} {F : FT} {R : RT} {J : JT} {P : PT} {B : BT} (C : Cx X cc nL own rt ka lvl) {f : Nat → Int32} (hf : R 300 = f) {i x : Int32} (j : Nat) (hj : i.toNatClampNeg = j) (hi : vp_in i 60) (d : decode cc pc = .ok (.castore, 1)) (kk : G X cells slots (wC ad ka F (va_up R 300 (upd f j (vp_nar .char x))) J P B) (pc + 1) lv st) : G X cells slots (wC ad ka F R J P B) pc lv (.int x :: .int i :: .ref (ad 300) :: st) := by
  subst hf; subst hj
  exact g_cast C 17 rfl hi _ rfl d kk
set_option maxHeartbeats 4000000 in
set_option maxRecDepth 100000 in
theorem Cp_X8_3_length {X : XT} {cc : ByteArray} {nL : Nat} {rt : Option FieldType} {ka : Nat → ClassId} {lvl cells slots pc : Nat} {lv : List (Nat × Value)} {st : List Value} {ad : Nat → Nat} {F : FT} {R : RT} {J : JT} {P : PT} {B : BT} (C : Cx X cc nL RX8 rt ka lvl) {x : Int32} (d : decode cc pc = .ok (.putfield 31, 3)) (kk : G X cells slots (wC ad ka (upd F 306 x) R J P B) (pc + 3) lv st) : G X cells slots (wC ad ka F R J P B) pc lv (.int x :: .ref (ad 399) :: st) := g_put C 3 wC_o3 (hc := rfl) inX8 tyX8 tyX8_ok nmX8 6 (by decide) (index := 31) (ref := "SummerWall$Tape") (gw_of tw1_126 rfl) rfl rfl rfl rfl (Nat.le_of_ble_eq_true rfl) _ rfl d kk
set_option maxHeartbeats 4000000 in
set_option maxRecDepth 100000 in
theorem Cp_X8_3_fault {X : XT} {cc : ByteArray} {nL : Nat} {rt : Option FieldType} {ka : Nat → ClassId} {lvl cells slots pc : Nat} {lv : List (Nat × Value)} {st : List Value} {ad : Nat → Nat} {F : FT} {R : RT} {J : JT} {P : PT} {B : BT} (C : Cx X cc nL RX8 rt ka lvl) {x : Int32} (d : decode cc pc = .ok (.putfield 93, 3)) (kk : G X cells slots (wC ad ka (upd F 311 x) R J P B) (pc + 3) lv st) : G X cells slots (wC ad ka F R J P B) pc lv (.int x :: .ref (ad 399) :: st) := g_put C 3 wC_o3 (hc := rfl) inX8 tyX8 tyX8_ok nmX8 11 (by decide) (index := 93) (ref := "SummerWall$Tape") (gw_of tw1_136 rfl) rfl rfl rfl rfl (Nat.le_of_ble_eq_true rfl) _ rfl d kk
set_option maxHeartbeats 4000000 in
set_option maxRecDepth 100000 in
theorem Cg_X8_3_at {X : XT} {cc : ByteArray} {nL : Nat} {rt : Option FieldType} {ka : Nat → ClassId} {lvl cells slots pc : Nat} {lv : List (Nat × Value)} {st : List Value} {ad : Nat → Nat} {F : FT} {R : RT} {J : JT} {P : PT} {B : BT} (C : Cx X cc nL RX8 rt ka lvl) {v : Int32} (hv : F 312 = v) (d : decode cc pc = .ok (.getfield 35, 3)) (kk : G X cells slots (wC ad ka F R J P B) (pc + 3) lv (.int v :: st)) : G X cells slots (wC ad ka F R J P B) pc lv (.ref (ad 399) :: st) := by
  subst hv
  exact g_get C 3 wC_o3 (hc := rfl) inX8 12 (by decide) (index := 35) (ref := "SummerWall$Tape") (gw_of tw1_138 rfl) rfl rfl d kk
set_option maxHeartbeats 4000000 in
set_option maxRecDepth 100000 in
theorem Ca_300 {X : XT} {cc : ByteArray} {nL : Nat} {own : String} {rt : Option FieldType} {ka : Nat → ClassId} {lvl cells slots pc : Nat} {lv : List (Nat × Value)} {st : List Value} {ad : Nat → Nat} {F : FT} {R : RT} {J : JT} {P : PT} {B : BT} (C : Cx X cc nL own rt ka lvl) {f : Nat → Int32} (hf : R 300 = f) {i : Int32} (j : Nat) (hj : i.toNatClampNeg = j) (hi : vp_in i 60) (d : decode cc pc = .ok (.caload, 1)) (kk : G X cells slots (wC ad ka F R J P B) (pc + 1) lv (.int (f j) :: st)) : G X cells slots (wC ad ka F R J P B) pc lv (.int i :: .ref (ad 300) :: st) := by
  subst hf; subst hj
  exact g_cald C 17 rfl hi d kk
set_option maxHeartbeats 4000000 in
set_option maxRecDepth 100000 in
theorem Cp_X8_3_at {X : XT} {cc : ByteArray} {nL : Nat} {rt : Option FieldType} {ka : Nat → ClassId} {lvl cells slots pc : Nat} {lv : List (Nat × Value)} {st : List Value} {ad : Nat → Nat} {F : FT} {R : RT} {J : JT} {P : PT} {B : BT} (C : Cx X cc nL RX8 rt ka lvl) {x : Int32} (d : decode cc pc = .ok (.putfield 35, 3)) (kk : G X cells slots (wC ad ka (upd F 312 x) R J P B) (pc + 3) lv st) : G X cells slots (wC ad ka F R J P B) pc lv (.int x :: .ref (ad 399) :: st) := g_put C 3 wC_o3 (hc := rfl) inX8 tyX8 tyX8_ok nmX8 12 (by decide) (index := 35) (ref := "SummerWall$Tape") (gw_of tw1_138 rfl) rfl rfl rfl rfl (Nat.le_of_ble_eq_true rfl) _ rfl d kk
set_option maxHeartbeats 4000000 in
set_option maxRecDepth 100000 in
theorem Cg_X8_3_builderCount {X : XT} {cc : ByteArray} {nL : Nat} {rt : Option FieldType} {ka : Nat → ClassId} {lvl cells slots pc : Nat} {lv : List (Nat × Value)} {st : List Value} {ad : Nat → Nat} {F : FT} {R : RT} {J : JT} {P : PT} {B : BT} (C : Cx X cc nL RX8 rt ka lvl) {v : Int32} (hv : F 309 = v) (d : decode cc pc = .ok (.getfield 38, 3)) (kk : G X cells slots (wC ad ka F R J P B) (pc + 3) lv (.int v :: st)) : G X cells slots (wC ad ka F R J P B) pc lv (.ref (ad 399) :: st) := by
  subst hv
  exact g_get C 3 wC_o3 (hc := rfl) inX8 9 (by decide) (index := 38) (ref := "SummerWall$Tape") (gw_of tw1_132 rfl) rfl rfl d kk
set_option maxHeartbeats 4000000 in
set_option maxRecDepth 100000 in
theorem Cg_X8_3_kinds {X : XT} {cc : ByteArray} {nL : Nat} {rt : Option FieldType} {ka : Nat → ClassId} {lvl cells slots pc : Nat} {lv : List (Nat × Value)} {st : List Value} {ad : Nat → Nat} {F : FT} {R : RT} {J : JT} {P : PT} {B : BT} (C : Cx X cc nL RX8 rt ka lvl) (d : decode cc pc = .ok (.getfield 15, 3)) (kk : G X cells slots (wC ad ka F R J P B) (pc + 3) lv (.ref (ad 301) :: st)) : G X cells slots (wC ad ka F R J P B) pc lv (.ref (ad 399) :: st) := g_get C 3 wC_o3 (hc := rfl) inX8 1 (by decide) (index := 15) (ref := "SummerWall$Tape") (gw_of tw1_116 rfl) rfl rfl d kk
set_option maxHeartbeats 4000000 in
set_option maxRecDepth 100000 in
theorem Cs_301 {X : XT} {cc : ByteArray} {nL : Nat} {own : String} {rt : Option FieldType} {ka : Nat → ClassId} {lvl cells slots pc : Nat} {lv : List (Nat × Value)} {st : List Value} {ad : Nat → Nat} {F : FT} {R : RT} {J : JT} {P : PT} {B : BT} (C : Cx X cc nL own rt ka lvl) {f : Nat → Int32} (hf : R 301 = f) {i x : Int32} (j : Nat) (hj : i.toNatClampNeg = j) (hi : vp_in i 4) (d : decode cc pc = .ok (.iastore, 1)) (kk : G X cells slots (wC ad ka F (va_up R 301 (upd f j x)) J P B) (pc + 1) lv st) : G X cells slots (wC ad ka F R J P B) pc lv (.int x :: .int i :: .ref (ad 301) :: st) := by
  subst hf; subst hj
  exact g_iast C 18 rfl hi _ rfl d kk
set_option maxHeartbeats 4000000 in
set_option maxRecDepth 100000 in
theorem Cg_X8_3_paces {X : XT} {cc : ByteArray} {nL : Nat} {rt : Option FieldType} {ka : Nat → ClassId} {lvl cells slots pc : Nat} {lv : List (Nat × Value)} {st : List Value} {ad : Nat → Nat} {F : FT} {R : RT} {J : JT} {P : PT} {B : BT} (C : Cx X cc nL RX8 rt ka lvl) (d : decode cc pc = .ok (.getfield 19, 3)) (kk : G X cells slots (wC ad ka F R J P B) (pc + 3) lv (.ref (ad 302) :: st)) : G X cells slots (wC ad ka F R J P B) pc lv (.ref (ad 399) :: st) := g_get C 3 wC_o3 (hc := rfl) inX8 2 (by decide) (index := 19) (ref := "SummerWall$Tape") (gw_of tw1_118 rfl) rfl rfl d kk
set_option maxHeartbeats 4000000 in
set_option maxRecDepth 100000 in
theorem Cs_302 {X : XT} {cc : ByteArray} {nL : Nat} {own : String} {rt : Option FieldType} {ka : Nat → ClassId} {lvl cells slots pc : Nat} {lv : List (Nat × Value)} {st : List Value} {ad : Nat → Nat} {F : FT} {R : RT} {J : JT} {P : PT} {B : BT} (C : Cx X cc nL own rt ka lvl) {f : Nat → Int32} (hf : R 302 = f) {i x : Int32} (j : Nat) (hj : i.toNatClampNeg = j) (hi : vp_in i 4) (d : decode cc pc = .ok (.iastore, 1)) (kk : G X cells slots (wC ad ka F (va_up R 302 (upd f j x)) J P B) (pc + 1) lv st) : G X cells slots (wC ad ka F R J P B) pc lv (.int x :: .int i :: .ref (ad 302) :: st) := by
  subst hf; subst hj
  exact g_iast C 19 rfl hi _ rfl d kk
set_option maxHeartbeats 4000000 in
set_option maxRecDepth 100000 in
theorem Cg_X8_3_horses {X : XT} {cc : ByteArray} {nL : Nat} {rt : Option FieldType} {ka : Nat → ClassId} {lvl cells slots pc : Nat} {lv : List (Nat × Value)} {st : List Value} {ad : Nat → Nat} {F : FT} {R : RT} {J : JT} {P : PT} {B : BT} (C : Cx X cc nL RX8 rt ka lvl) (d : decode cc pc = .ok (.getfield 22, 3)) (kk : G X cells slots (wC ad ka F R J P B) (pc + 3) lv (.ref (ad 303) :: st)) : G X cells slots (wC ad ka F R J P B) pc lv (.ref (ad 399) :: st) := g_get C 3 wC_o3 (hc := rfl) inX8 3 (by decide) (index := 22) (ref := "SummerWall$Tape") (gw_of tw1_120 rfl) rfl rfl d kk
set_option maxHeartbeats 4000000 in
set_option maxRecDepth 100000 in
theorem Cs_303 {X : XT} {cc : ByteArray} {nL : Nat} {own : String} {rt : Option FieldType} {ka : Nat → ClassId} {lvl cells slots pc : Nat} {lv : List (Nat × Value)} {st : List Value} {ad : Nat → Nat} {F : FT} {R : RT} {J : JT} {P : PT} {B : BT} (C : Cx X cc nL own rt ka lvl) {f : Nat → Int32} (hf : R 303 = f) {i x : Int32} (j : Nat) (hj : i.toNatClampNeg = j) (hi : vp_in i 4) (d : decode cc pc = .ok (.iastore, 1)) (kk : G X cells slots (wC ad ka F (va_up R 303 (upd f j x)) J P B) (pc + 1) lv st) : G X cells slots (wC ad ka F R J P B) pc lv (.int x :: .int i :: .ref (ad 303) :: st) := by
  subst hf; subst hj
  exact g_iast C 20 rfl hi _ rfl d kk
set_option maxHeartbeats 4000000 in
set_option maxRecDepth 100000 in
theorem Cp_X8_3_builderCount {X : XT} {cc : ByteArray} {nL : Nat} {rt : Option FieldType} {ka : Nat → ClassId} {lvl cells slots pc : Nat} {lv : List (Nat × Value)} {st : List Value} {ad : Nat → Nat} {F : FT} {R : RT} {J : JT} {P : PT} {B : BT} (C : Cx X cc nL RX8 rt ka lvl) {x : Int32} (d : decode cc pc = .ok (.putfield 38, 3)) (kk : G X cells slots (wC ad ka (upd F 309 x) R J P B) (pc + 3) lv st) : G X cells slots (wC ad ka F R J P B) pc lv (.int x :: .ref (ad 399) :: st) := g_put C 3 wC_o3 (hc := rfl) inX8 tyX8 tyX8_ok nmX8 9 (by decide) (index := 38) (ref := "SummerWall$Tape") (gw_of tw1_132 rfl) rfl rfl rfl rfl (Nat.le_of_ble_eq_true rfl) _ rfl d kk
set_option maxHeartbeats 4000000 in
set_option maxRecDepth 100000 in
theorem Cg_X8_3_hindranceCount {X : XT} {cc : ByteArray} {nL : Nat} {rt : Option FieldType} {ka : Nat → ClassId} {lvl cells slots pc : Nat} {lv : List (Nat × Value)} {st : List Value} {ad : Nat → Nat} {F : FT} {R : RT} {J : JT} {P : PT} {B : BT} (C : Cx X cc nL RX8 rt ka lvl) {v : Int32} (hv : F 310 = v) (d : decode cc pc = .ok (.getfield 41, 3)) (kk : G X cells slots (wC ad ka F R J P B) (pc + 3) lv (.int v :: st)) : G X cells slots (wC ad ka F R J P B) pc lv (.ref (ad 399) :: st) := by
  subst hv
  exact g_get C 3 wC_o3 (hc := rfl) inX8 10 (by decide) (index := 41) (ref := "SummerWall$Tape") (gw_of tw1_134 rfl) rfl rfl d kk
set_option maxHeartbeats 4000000 in
set_option maxRecDepth 100000 in
theorem Cg_X8_3_costs {X : XT} {cc : ByteArray} {nL : Nat} {rt : Option FieldType} {ka : Nat → ClassId} {lvl cells slots pc : Nat} {lv : List (Nat × Value)} {st : List Value} {ad : Nat → Nat} {F : FT} {R : RT} {J : JT} {P : PT} {B : BT} (C : Cx X cc nL RX8 rt ka lvl) (d : decode cc pc = .ok (.getfield 25, 3)) (kk : G X cells slots (wC ad ka F R J P B) (pc + 3) lv (.ref (ad 304) :: st)) : G X cells slots (wC ad ka F R J P B) pc lv (.ref (ad 399) :: st) := g_get C 3 wC_o3 (hc := rfl) inX8 4 (by decide) (index := 25) (ref := "SummerWall$Tape") (gw_of tw1_122 rfl) rfl rfl d kk
set_option maxHeartbeats 4000000 in
set_option maxRecDepth 100000 in
theorem Cs_304 {X : XT} {cc : ByteArray} {nL : Nat} {own : String} {rt : Option FieldType} {ka : Nat → ClassId} {lvl cells slots pc : Nat} {lv : List (Nat × Value)} {st : List Value} {ad : Nat → Nat} {F : FT} {R : RT} {J : JT} {P : PT} {B : BT} (C : Cx X cc nL own rt ka lvl) {f : Nat → Int32} (hf : R 304 = f) {i x : Int32} (j : Nat) (hj : i.toNatClampNeg = j) (hi : vp_in i 6) (d : decode cc pc = .ok (.iastore, 1)) (kk : G X cells slots (wC ad ka F (va_up R 304 (upd f j x)) J P B) (pc + 1) lv st) : G X cells slots (wC ad ka F R J P B) pc lv (.int x :: .int i :: .ref (ad 304) :: st) := by
  subst hf; subst hj
  exact g_iast C 21 rfl hi _ rfl d kk
set_option maxHeartbeats 4000000 in
set_option maxRecDepth 100000 in
theorem Cg_X8_3_oaths {X : XT} {cc : ByteArray} {nL : Nat} {rt : Option FieldType} {ka : Nat → ClassId} {lvl cells slots pc : Nat} {lv : List (Nat × Value)} {st : List Value} {ad : Nat → Nat} {F : FT} {R : RT} {J : JT} {P : PT} {B : BT} (C : Cx X cc nL RX8 rt ka lvl) (d : decode cc pc = .ok (.getfield 28, 3)) (kk : G X cells slots (wC ad ka F R J P B) (pc + 3) lv (.ref (ad 305) :: st)) : G X cells slots (wC ad ka F R J P B) pc lv (.ref (ad 399) :: st) := g_get C 3 wC_o3 (hc := rfl) inX8 5 (by decide) (index := 28) (ref := "SummerWall$Tape") (gw_of tw1_124 rfl) rfl rfl d kk
set_option maxHeartbeats 4000000 in
set_option maxRecDepth 100000 in
theorem Cs_305 {X : XT} {cc : ByteArray} {nL : Nat} {own : String} {rt : Option FieldType} {ka : Nat → ClassId} {lvl cells slots pc : Nat} {lv : List (Nat × Value)} {st : List Value} {ad : Nat → Nat} {F : FT} {R : RT} {J : JT} {P : PT} {B : BT} (C : Cx X cc nL own rt ka lvl) {f : Nat → Int32} (hf : R 305 = f) {i x : Int32} (j : Nat) (hj : i.toNatClampNeg = j) (hi : vp_in i 6) (d : decode cc pc = .ok (.iastore, 1)) (kk : G X cells slots (wC ad ka F (va_up R 305 (upd f j x)) J P B) (pc + 1) lv st) : G X cells slots (wC ad ka F R J P B) pc lv (.int x :: .int i :: .ref (ad 305) :: st) := by
  subst hf; subst hj
  exact g_iast C 22 rfl hi _ rfl d kk
set_option maxHeartbeats 4000000 in
set_option maxRecDepth 100000 in
theorem Cp_X8_3_hindranceCount {X : XT} {cc : ByteArray} {nL : Nat} {rt : Option FieldType} {ka : Nat → ClassId} {lvl cells slots pc : Nat} {lv : List (Nat × Value)} {st : List Value} {ad : Nat → Nat} {F : FT} {R : RT} {J : JT} {P : PT} {B : BT} (C : Cx X cc nL RX8 rt ka lvl) {x : Int32} (d : decode cc pc = .ok (.putfield 41, 3)) (kk : G X cells slots (wC ad ka (upd F 310 x) R J P B) (pc + 3) lv st) : G X cells slots (wC ad ka F R J P B) pc lv (.int x :: .ref (ad 399) :: st) := g_put C 3 wC_o3 (hc := rfl) inX8 tyX8 tyX8_ok nmX8 10 (by decide) (index := 41) (ref := "SummerWall$Tape") (gw_of tw1_134 rfl) rfl rfl rfl rfl (Nat.le_of_ble_eq_true rfl) _ rfl d kk
set_option maxHeartbeats 4000000 in
set_option maxRecDepth 100000 in
theorem Cp_X8_3_stones {X : XT} {cc : ByteArray} {nL : Nat} {rt : Option FieldType} {ka : Nat → ClassId} {lvl cells slots pc : Nat} {lv : List (Nat × Value)} {st : List Value} {ad : Nat → Nat} {F : FT} {R : RT} {J : JT} {P : PT} {B : BT} (C : Cx X cc nL RX8 rt ka lvl) {x : Int32} (d : decode cc pc = .ok (.putfield 48, 3)) (kk : G X cells slots (wC ad ka (upd F 307 x) R J P B) (pc + 3) lv st) : G X cells slots (wC ad ka F R J P B) pc lv (.int x :: .ref (ad 399) :: st) := g_put C 3 wC_o3 (hc := rfl) inX8 tyX8 tyX8_ok nmX8 7 (by decide) (index := 48) (ref := "SummerWall$Tape") (gw_of tw1_128 rfl) rfl rfl rfl rfl (Nat.le_of_ble_eq_true rfl) _ rfl d kk
set_option maxHeartbeats 4000000 in
set_option maxRecDepth 100000 in
theorem Cg_X8_3_stones {X : XT} {cc : ByteArray} {nL : Nat} {rt : Option FieldType} {ka : Nat → ClassId} {lvl cells slots pc : Nat} {lv : List (Nat × Value)} {st : List Value} {ad : Nat → Nat} {F : FT} {R : RT} {J : JT} {P : PT} {B : BT} (C : Cx X cc nL RX8 rt ka lvl) {v : Int32} (hv : F 307 = v) (d : decode cc pc = .ok (.getfield 48, 3)) (kk : G X cells slots (wC ad ka F R J P B) (pc + 3) lv (.int v :: st)) : G X cells slots (wC ad ka F R J P B) pc lv (.ref (ad 399) :: st) := by
  subst hv
  exact g_get C 3 wC_o3 (hc := rfl) inX8 7 (by decide) (index := 48) (ref := "SummerWall$Tape") (gw_of tw1_128 rfl) rfl rfl d kk
set_option maxHeartbeats 4000000 in
set_option maxRecDepth 100000 in
theorem Cp_X8_3_days {X : XT} {cc : ByteArray} {nL : Nat} {rt : Option FieldType} {ka : Nat → ClassId} {lvl cells slots pc : Nat} {lv : List (Nat × Value)} {st : List Value} {ad : Nat → Nat} {F : FT} {R : RT} {J : JT} {P : PT} {B : BT} (C : Cx X cc nL RX8 rt ka lvl) {x : Int32} (d : decode cc pc = .ok (.putfield 55, 3)) (kk : G X cells slots (wC ad ka (upd F 308 x) R J P B) (pc + 3) lv st) : G X cells slots (wC ad ka F R J P B) pc lv (.int x :: .ref (ad 399) :: st) := g_put C 3 wC_o3 (hc := rfl) inX8 tyX8 tyX8_ok nmX8 8 (by decide) (index := 55) (ref := "SummerWall$Tape") (gw_of tw1_130 rfl) rfl rfl rfl rfl (Nat.le_of_ble_eq_true rfl) _ rfl d kk
set_option maxHeartbeats 4000000 in
set_option maxRecDepth 100000 in
theorem Cg_X8_3_days {X : XT} {cc : ByteArray} {nL : Nat} {rt : Option FieldType} {ka : Nat → ClassId} {lvl cells slots pc : Nat} {lv : List (Nat × Value)} {st : List Value} {ad : Nat → Nat} {F : FT} {R : RT} {J : JT} {P : PT} {B : BT} (C : Cx X cc nL RX8 rt ka lvl) {v : Int32} (hv : F 308 = v) (d : decode cc pc = .ok (.getfield 55, 3)) (kk : G X cells slots (wC ad ka F R J P B) (pc + 3) lv (.int v :: st)) : G X cells slots (wC ad ka F R J P B) pc lv (.ref (ad 399) :: st) := by
  subst hv
  exact g_get C 3 wC_o3 (hc := rfl) inX8 8 (by decide) (index := 55) (ref := "SummerWall$Tape") (gw_of tw1_130 rfl) rfl rfl d kk
set_option maxHeartbeats 4000000 in
set_option maxRecDepth 100000 in
theorem Cg_X1_1_stones {X : XT} {cc : ByteArray} {nL : Nat} {rt : Option FieldType} {ka : Nat → ClassId} {lvl cells slots pc : Nat} {lv : List (Nat × Value)} {st : List Value} {ad : Nat → Nat} {F : FT} {R : RT} {J : JT} {P : PT} {B : BT} (C : Cx X cc nL RX1 rt ka lvl) {v : Int32} (hv : F 100 = v) (d : decode cc pc = .ok (.getfield 131, 3)) (kk : G X cells slots (wC ad ka F R J P B) (pc + 3) lv (.int v :: st)) : G X cells slots (wC ad ka F R J P B) pc lv (.ref (ad 199) :: st) := by
  subst hv
  exact g_get C 1 wC_o1 (hc := rfl) inX7 0 (by decide) (index := 131) (ref := "SummerWall$Site") (gw_of tw1_33 rfl) rfl rfl d kk
set_option maxHeartbeats 4000000 in
set_option maxRecDepth 100000 in
theorem Cp_X1_4_stones {X : XT} {cc : ByteArray} {nL : Nat} {rt : Option FieldType} {ka : Nat → ClassId} {lvl cells slots pc : Nat} {lv : List (Nat × Value)} {st : List Value} {ad : Nat → Nat} {F : FT} {R : RT} {J : JT} {P : PT} {B : BT} (C : Cx X cc nL RX1 rt ka lvl) {x : Int32} (d : decode cc pc = .ok (.putfield 118, 3)) (kk : G X cells slots (wC ad ka (upd F 407 x) R J P B) (pc + 3) lv st) : G X cells slots (wC ad ka F R J P B) pc lv (.int x :: .ref (ad 499) :: st) := g_put C 4 wC_o4 (hc := rfl) inX1 tyX1 tyX1_ok nmX1 7 (by decide) (index := 118) (ref := "SummerWall$Foretold") (gw_of tw1_180 rfl) rfl rfl rfl rfl (Nat.le_of_ble_eq_true rfl) _ rfl d kk
set_option maxHeartbeats 4000000 in
set_option maxRecDepth 100000 in
theorem Cg_X1_1_days {X : XT} {cc : ByteArray} {nL : Nat} {rt : Option FieldType} {ka : Nat → ClassId} {lvl cells slots pc : Nat} {lv : List (Nat × Value)} {st : List Value} {ad : Nat → Nat} {F : FT} {R : RT} {J : JT} {P : PT} {B : BT} (C : Cx X cc nL RX1 rt ka lvl) {v : Int32} (hv : F 101 = v) (d : decode cc pc = .ok (.getfield 132, 3)) (kk : G X cells slots (wC ad ka F R J P B) (pc + 3) lv (.int v :: st)) : G X cells slots (wC ad ka F R J P B) pc lv (.ref (ad 199) :: st) := by
  subst hv
  exact g_get C 1 wC_o1 (hc := rfl) inX7 1 (by decide) (index := 132) (ref := "SummerWall$Site") (gw_of tw1_36 rfl) rfl rfl d kk
set_option maxHeartbeats 4000000 in
set_option maxRecDepth 100000 in
theorem Cp_X1_4_days {X : XT} {cc : ByteArray} {nL : Nat} {rt : Option FieldType} {ka : Nat → ClassId} {lvl cells slots pc : Nat} {lv : List (Nat × Value)} {st : List Value} {ad : Nat → Nat} {F : FT} {R : RT} {J : JT} {P : PT} {B : BT} (C : Cx X cc nL RX1 rt ka lvl) {x : Int32} (d : decode cc pc = .ok (.putfield 67, 3)) (kk : G X cells slots (wC ad ka (upd F 408 x) R J P B) (pc + 3) lv st) : G X cells slots (wC ad ka F R J P B) pc lv (.int x :: .ref (ad 499) :: st) := g_put C 4 wC_o4 (hc := rfl) inX1 tyX1 tyX1_ok nmX1 8 (by decide) (index := 67) (ref := "SummerWall$Foretold") (gw_of tw1_181 rfl) rfl rfl rfl rfl (Nat.le_of_ble_eq_true rfl) _ rfl d kk
set_option maxHeartbeats 4000000 in
set_option maxRecDepth 100000 in
theorem Cg_X1_1_frost {X : XT} {cc : ByteArray} {nL : Nat} {rt : Option FieldType} {ka : Nat → ClassId} {lvl cells slots pc : Nat} {lv : List (Nat × Value)} {st : List Value} {ad : Nat → Nat} {F : FT} {R : RT} {J : JT} {P : PT} {B : BT} (C : Cx X cc nL RX1 rt ka lvl) {v : Int32} (hv : F 102 = v) (d : decode cc pc = .ok (.getfield 133, 3)) (kk : G X cells slots (wC ad ka F R J P B) (pc + 3) lv (.int v :: st)) : G X cells slots (wC ad ka F R J P B) pc lv (.ref (ad 199) :: st) := by
  subst hv
  exact g_get C 1 wC_o1 (hc := rfl) inX7 2 (by decide) (index := 133) (ref := "SummerWall$Site") (gw_of tw1_39 rfl) rfl rfl d kk
set_option maxHeartbeats 4000000 in
set_option maxRecDepth 100000 in
theorem Cp_X1_4_frost {X : XT} {cc : ByteArray} {nL : Nat} {rt : Option FieldType} {ka : Nat → ClassId} {lvl cells slots pc : Nat} {lv : List (Nat × Value)} {st : List Value} {ad : Nat → Nat} {F : FT} {R : RT} {J : JT} {P : PT} {B : BT} (C : Cx X cc nL RX1 rt ka lvl) {x : Int32} (d : decode cc pc = .ok (.putfield 125, 3)) (kk : G X cells slots (wC ad ka (upd F 409 x) R J P B) (pc + 3) lv st) : G X cells slots (wC ad ka F R J P B) pc lv (.int x :: .ref (ad 499) :: st) := g_put C 4 wC_o4 (hc := rfl) inX1 tyX1 tyX1_ok nmX1 9 (by decide) (index := 125) (ref := "SummerWall$Foretold") (gw_of tw1_182 rfl) rfl rfl rfl rfl (Nat.le_of_ble_eq_true rfl) _ rfl d kk
set_option maxHeartbeats 4000000 in
set_option maxRecDepth 100000 in
theorem Cg_X1_1_thaw {X : XT} {cc : ByteArray} {nL : Nat} {rt : Option FieldType} {ka : Nat → ClassId} {lvl cells slots pc : Nat} {lv : List (Nat × Value)} {st : List Value} {ad : Nat → Nat} {F : FT} {R : RT} {J : JT} {P : PT} {B : BT} (C : Cx X cc nL RX1 rt ka lvl) {v : Int32} (hv : F 103 = v) (d : decode cc pc = .ok (.getfield 134, 3)) (kk : G X cells slots (wC ad ka F R J P B) (pc + 3) lv (.int v :: st)) : G X cells slots (wC ad ka F R J P B) pc lv (.ref (ad 199) :: st) := by
  subst hv
  exact g_get C 1 wC_o1 (hc := rfl) inX7 3 (by decide) (index := 134) (ref := "SummerWall$Site") (gw_of tw1_42 rfl) rfl rfl d kk
set_option maxHeartbeats 4000000 in
set_option maxRecDepth 100000 in
theorem Cp_X1_4_thaw {X : XT} {cc : ByteArray} {nL : Nat} {rt : Option FieldType} {ka : Nat → ClassId} {lvl cells slots pc : Nat} {lv : List (Nat × Value)} {st : List Value} {ad : Nat → Nat} {F : FT} {R : RT} {J : JT} {P : PT} {B : BT} (C : Cx X cc nL RX1 rt ka lvl) {x : Int32} (d : decode cc pc = .ok (.putfield 128, 3)) (kk : G X cells slots (wC ad ka (upd F 410 x) R J P B) (pc + 3) lv st) : G X cells slots (wC ad ka F R J P B) pc lv (.int x :: .ref (ad 499) :: st) := g_put C 4 wC_o4 (hc := rfl) inX1 tyX1 tyX1_ok nmX1 10 (by decide) (index := 128) (ref := "SummerWall$Foretold") (gw_of tw1_183 rfl) rfl rfl rfl rfl (Nat.le_of_ble_eq_true rfl) _ rfl d kk
set_option maxHeartbeats 4000000 in
set_option maxRecDepth 100000 in
theorem Cp_X1_4_day {X : XT} {cc : ByteArray} {nL : Nat} {rt : Option FieldType} {ka : Nat → ClassId} {lvl cells slots pc : Nat} {lv : List (Nat × Value)} {st : List Value} {ad : Nat → Nat} {F : FT} {R : RT} {J : JT} {P : PT} {B : BT} (C : Cx X cc nL RX1 rt ka lvl) {x : Int32} (d : decode cc pc = .ok (.putfield 70, 3)) (kk : G X cells slots (wC ad ka (upd F 411 x) R J P B) (pc + 3) lv st) : G X cells slots (wC ad ka F R J P B) pc lv (.int x :: .ref (ad 499) :: st) := g_put C 4 wC_o4 (hc := rfl) inX1 tyX1 tyX1_ok nmX1 11 (by decide) (index := 70) (ref := "SummerWall$Foretold") (gw_of tw1_184 rfl) rfl rfl rfl rfl (Nat.le_of_ble_eq_true rfl) _ rfl d kk
set_option maxHeartbeats 4000000 in
set_option maxRecDepth 100000 in
theorem Cp_X1_4_laid {X : XT} {cc : ByteArray} {nL : Nat} {rt : Option FieldType} {ka : Nat → ClassId} {lvl cells slots pc : Nat} {lv : List (Nat × Value)} {st : List Value} {ad : Nat → Nat} {F : FT} {R : RT} {J : JT} {P : PT} {B : BT} (C : Cx X cc nL RX1 rt ka lvl) {x : Int32} (d : decode cc pc = .ok (.putfield 113, 3)) (kk : G X cells slots (wC ad ka (upd F 412 x) R J P B) (pc + 3) lv st) : G X cells slots (wC ad ka F R J P B) pc lv (.int x :: .ref (ad 499) :: st) := g_put C 4 wC_o4 (hc := rfl) inX1 tyX1 tyX1_ok nmX1 12 (by decide) (index := 113) (ref := "SummerWall$Foretold") (gw_of tw1_185 rfl) rfl rfl rfl rfl (Nat.le_of_ble_eq_true rfl) _ rfl d kk
set_option maxHeartbeats 4000000 in
set_option maxRecDepth 100000 in
theorem Cp_X1_4_cost {X : XT} {cc : ByteArray} {nL : Nat} {rt : Option FieldType} {ka : Nat → ClassId} {lvl cells slots pc : Nat} {lv : List (Nat × Value)} {st : List Value} {ad : Nat → Nat} {F : FT} {R : RT} {J : JT} {P : PT} {B : BT} (C : Cx X cc nL RX1 rt ka lvl) {x : Int32} (d : decode cc pc = .ok (.putfield 57, 3)) (kk : G X cells slots (wC ad ka (upd F 413 x) R J P B) (pc + 3) lv st) : G X cells slots (wC ad ka F R J P B) pc lv (.int x :: .ref (ad 499) :: st) := g_put C 4 wC_o4 (hc := rfl) inX1 tyX1 tyX1_ok nmX1 13 (by decide) (index := 57) (ref := "SummerWall$Foretold") (gw_of tw1_186 rfl) rfl rfl rfl rfl (Nat.le_of_ble_eq_true rfl) _ rfl d kk
set_option maxHeartbeats 4000000 in
set_option maxRecDepth 100000 in
theorem Cg_X1_4_lays {X : XT} {cc : ByteArray} {nL : Nat} {rt : Option FieldType} {ka : Nat → ClassId} {lvl cells slots pc : Nat} {lv : List (Nat × Value)} {st : List Value} {ad : Nat → Nat} {F : FT} {R : RT} {J : JT} {P : PT} {B : BT} (C : Cx X cc nL RX1 rt ka lvl) (d : decode cc pc = .ok (.getfield 11, 3)) (kk : G X cells slots (wC ad ka F R J P B) (pc + 3) lv (.ref (ad 400) :: st)) : G X cells slots (wC ad ka F R J P B) pc lv (.ref (ad 499) :: st) := g_get C 4 wC_o4 (hc := rfl) inX1 0 (by decide) (index := 11) (ref := "SummerWall$Foretold") (gw_of tw1_173 rfl) rfl rfl d kk
set_option maxHeartbeats 4000000 in
set_option maxRecDepth 100000 in
theorem Ca_400 {X : XT} {cc : ByteArray} {nL : Nat} {own : String} {rt : Option FieldType} {ka : Nat → ClassId} {lvl cells slots pc : Nat} {lv : List (Nat × Value)} {st : List Value} {ad : Nat → Nat} {F : FT} {R : RT} {J : JT} {P : PT} {B : BT} (C : Cx X cc nL own rt ka lvl) {f : Nat → Int32} (hf : R 400 = f) {i : Int32} (j : Nat) (hj : i.toNatClampNeg = j) (hi : vp_in i 603) (d : decode cc pc = .ok (.iaload, 1)) (kk : G X cells slots (wC ad ka F R J P B) (pc + 1) lv (.int (f j) :: st)) : G X cells slots (wC ad ka F R J P B) pc lv (.int i :: .ref (ad 400) :: st) := by
  subst hf; subst hj
  exact g_iald C 23 rfl hi d kk
set_option maxHeartbeats 4000000 in
set_option maxRecDepth 100000 in
theorem Cg_X1_4_stones {X : XT} {cc : ByteArray} {nL : Nat} {rt : Option FieldType} {ka : Nat → ClassId} {lvl cells slots pc : Nat} {lv : List (Nat × Value)} {st : List Value} {ad : Nat → Nat} {F : FT} {R : RT} {J : JT} {P : PT} {B : BT} (C : Cx X cc nL RX1 rt ka lvl) {v : Int32} (hv : F 407 = v) (d : decode cc pc = .ok (.getfield 118, 3)) (kk : G X cells slots (wC ad ka F R J P B) (pc + 3) lv (.int v :: st)) : G X cells slots (wC ad ka F R J P B) pc lv (.ref (ad 499) :: st) := by
  subst hv
  exact g_get C 4 wC_o4 (hc := rfl) inX1 7 (by decide) (index := 118) (ref := "SummerWall$Foretold") (gw_of tw1_180 rfl) rfl rfl d kk
set_option maxHeartbeats 4000000 in
set_option maxRecDepth 100000 in
theorem Cg_X1_4_laid {X : XT} {cc : ByteArray} {nL : Nat} {rt : Option FieldType} {ka : Nat → ClassId} {lvl cells slots pc : Nat} {lv : List (Nat × Value)} {st : List Value} {ad : Nat → Nat} {F : FT} {R : RT} {J : JT} {P : PT} {B : BT} (C : Cx X cc nL RX1 rt ka lvl) {v : Int32} (hv : F 412 = v) (d : decode cc pc = .ok (.getfield 113, 3)) (kk : G X cells slots (wC ad ka F R J P B) (pc + 3) lv (.int v :: st)) : G X cells slots (wC ad ka F R J P B) pc lv (.ref (ad 499) :: st) := by
  subst hv
  exact g_get C 4 wC_o4 (hc := rfl) inX1 12 (by decide) (index := 113) (ref := "SummerWall$Foretold") (gw_of tw1_185 rfl) rfl rfl d kk
set_option maxHeartbeats 4000000 in
set_option maxRecDepth 100000 in
theorem Cs_401 {X : XT} {cc : ByteArray} {nL : Nat} {own : String} {rt : Option FieldType} {ka : Nat → ClassId} {lvl cells slots pc : Nat} {lv : List (Nat × Value)} {st : List Value} {ad : Nat → Nat} {F : FT} {R : RT} {J : JT} {P : PT} {B : BT} (C : Cx X cc nL own rt ka lvl) {f : Nat → Int32} (hf : R 401 = f) {i x : Int32} (j : Nat) (hj : i.toNatClampNeg = j) (hi : vp_in i 603) (d : decode cc pc = .ok (.iastore, 1)) (kk : G X cells slots (wC ad ka F (va_up R 401 (upd f j x)) J P B) (pc + 1) lv st) : G X cells slots (wC ad ka F R J P B) pc lv (.int x :: .int i :: .ref (ad 401) :: st) := by
  subst hf; subst hj
  exact g_iast C 24 rfl hi _ rfl d kk
set_option maxHeartbeats 4000000 in
set_option maxRecDepth 100000 in
theorem Cs_402 {X : XT} {cc : ByteArray} {nL : Nat} {own : String} {rt : Option FieldType} {ka : Nat → ClassId} {lvl cells slots pc : Nat} {lv : List (Nat × Value)} {st : List Value} {ad : Nat → Nat} {F : FT} {R : RT} {J : JT} {P : PT} {B : BT} (C : Cx X cc nL own rt ka lvl) {f : Nat → Int32} (hf : R 402 = f) {i x : Int32} (j : Nat) (hj : i.toNatClampNeg = j) (hi : vp_in i 603) (d : decode cc pc = .ok (.iastore, 1)) (kk : G X cells slots (wC ad ka F (va_up R 402 (upd f j x)) J P B) (pc + 1) lv st) : G X cells slots (wC ad ka F R J P B) pc lv (.int x :: .int i :: .ref (ad 402) :: st) := by
  subst hf; subst hj
  exact g_iast C 25 rfl hi _ rfl d kk
set_option maxHeartbeats 4000000 in
set_option maxRecDepth 100000 in
theorem Cg_X1_4_behind {X : XT} {cc : ByteArray} {nL : Nat} {rt : Option FieldType} {ka : Nat → ClassId} {lvl cells slots pc : Nat} {lv : List (Nat × Value)} {st : List Value} {ad : Nat → Nat} {F : FT} {R : RT} {J : JT} {P : PT} {B : BT} (C : Cx X cc nL RX1 rt ka lvl) (d : decode cc pc = .ok (.getfield 15, 3)) (kk : G X cells slots (wC ad ka F R J P B) (pc + 3) lv (.ref (ad 401) :: st)) : G X cells slots (wC ad ka F R J P B) pc lv (.ref (ad 499) :: st) := g_get C 4 wC_o4 (hc := rfl) inX1 1 (by decide) (index := 15) (ref := "SummerWall$Foretold") (gw_of tw1_174 rfl) rfl rfl d kk
set_option maxHeartbeats 4000000 in
set_option maxRecDepth 100000 in
theorem Cg_X1_4_fairPath {X : XT} {cc : ByteArray} {nL : Nat} {rt : Option FieldType} {ka : Nat → ClassId} {lvl cells slots pc : Nat} {lv : List (Nat × Value)} {st : List Value} {ad : Nat → Nat} {F : FT} {R : RT} {J : JT} {P : PT} {B : BT} (C : Cx X cc nL RX1 rt ka lvl) (d : decode cc pc = .ok (.getfield 27, 3)) (kk : G X cells slots (wC ad ka F R J P B) (pc + 3) lv (.ref (ad 405) :: st)) : G X cells slots (wC ad ka F R J P B) pc lv (.ref (ad 499) :: st) := g_get C 4 wC_o4 (hc := rfl) inX1 5 (by decide) (index := 27) (ref := "SummerWall$Foretold") (gw_of tw1_178 rfl) rfl rfl d kk
set_option maxHeartbeats 4000000 in
set_option maxRecDepth 100000 in
theorem Cg_X1_4_day {X : XT} {cc : ByteArray} {nL : Nat} {rt : Option FieldType} {ka : Nat → ClassId} {lvl cells slots pc : Nat} {lv : List (Nat × Value)} {st : List Value} {ad : Nat → Nat} {F : FT} {R : RT} {J : JT} {P : PT} {B : BT} (C : Cx X cc nL RX1 rt ka lvl) {v : Int32} (hv : F 411 = v) (d : decode cc pc = .ok (.getfield 70, 3)) (kk : G X cells slots (wC ad ka F R J P B) (pc + 3) lv (.int v :: st)) : G X cells slots (wC ad ka F R J P B) pc lv (.ref (ad 499) :: st) := by
  subst hv
  exact g_get C 4 wC_o4 (hc := rfl) inX1 11 (by decide) (index := 70) (ref := "SummerWall$Foretold") (gw_of tw1_184 rfl) rfl rfl d kk
set_option maxHeartbeats 4000000 in
set_option maxRecDepth 100000 in
theorem Cs_405 {X : XT} {cc : ByteArray} {nL : Nat} {own : String} {rt : Option FieldType} {ka : Nat → ClassId} {lvl cells slots pc : Nat} {lv : List (Nat × Value)} {st : List Value} {ad : Nat → Nat} {F : FT} {R : RT} {J : JT} {P : PT} {B : BT} (C : Cx X cc nL own rt ka lvl) {f : Nat → Int32} (hf : R 405 = f) {i x : Int32} (j : Nat) (hj : i.toNatClampNeg = j) (hi : vp_in i 41) (d : decode cc pc = .ok (.iastore, 1)) (kk : G X cells slots (wC ad ka F (va_up R 405 (upd f j x)) J P B) (pc + 1) lv st) : G X cells slots (wC ad ka F R J P B) pc lv (.int x :: .int i :: .ref (ad 405) :: st) := by
  subst hf; subst hj
  exact g_iast C 28 rfl hi _ rfl d kk
set_option maxHeartbeats 4000000 in
set_option maxRecDepth 100000 in
theorem Cg_X1_4_days {X : XT} {cc : ByteArray} {nL : Nat} {rt : Option FieldType} {ka : Nat → ClassId} {lvl cells slots pc : Nat} {lv : List (Nat × Value)} {st : List Value} {ad : Nat → Nat} {F : FT} {R : RT} {J : JT} {P : PT} {B : BT} (C : Cx X cc nL RX1 rt ka lvl) {v : Int32} (hv : F 408 = v) (d : decode cc pc = .ok (.getfield 67, 3)) (kk : G X cells slots (wC ad ka F R J P B) (pc + 3) lv (.int v :: st)) : G X cells slots (wC ad ka F R J P B) pc lv (.ref (ad 499) :: st) := by
  subst hv
  exact g_get C 4 wC_o4 (hc := rfl) inX1 8 (by decide) (index := 67) (ref := "SummerWall$Foretold") (gw_of tw1_181 rfl) rfl rfl d kk
set_option maxHeartbeats 4000000 in
set_option maxRecDepth 100000 in
theorem Ca_405 {X : XT} {cc : ByteArray} {nL : Nat} {own : String} {rt : Option FieldType} {ka : Nat → ClassId} {lvl cells slots pc : Nat} {lv : List (Nat × Value)} {st : List Value} {ad : Nat → Nat} {F : FT} {R : RT} {J : JT} {P : PT} {B : BT} (C : Cx X cc nL own rt ka lvl) {f : Nat → Int32} (hf : R 405 = f) {i : Int32} (j : Nat) (hj : i.toNatClampNeg = j) (hi : vp_in i 41) (d : decode cc pc = .ok (.iaload, 1)) (kk : G X cells slots (wC ad ka F R J P B) (pc + 1) lv (.int (f j) :: st)) : G X cells slots (wC ad ka F R J P B) pc lv (.int i :: .ref (ad 405) :: st) := by
  subst hf; subst hj
  exact g_iald C 28 rfl hi d kk
set_option maxHeartbeats 4000000 in
set_option maxRecDepth 100000 in
theorem Cg_X1_4_cost {X : XT} {cc : ByteArray} {nL : Nat} {rt : Option FieldType} {ka : Nat → ClassId} {lvl cells slots pc : Nat} {lv : List (Nat × Value)} {st : List Value} {ad : Nat → Nat} {F : FT} {R : RT} {J : JT} {P : PT} {B : BT} (C : Cx X cc nL RX1 rt ka lvl) {v : Int32} (hv : F 413 = v) (d : decode cc pc = .ok (.getfield 57, 3)) (kk : G X cells slots (wC ad ka F R J P B) (pc + 3) lv (.int v :: st)) : G X cells slots (wC ad ka F R J P B) pc lv (.ref (ad 499) :: st) := by
  subst hv
  exact g_get C 4 wC_o4 (hc := rfl) inX1 13 (by decide) (index := 57) (ref := "SummerWall$Foretold") (gw_of tw1_186 rfl) rfl rfl d kk
set_option maxHeartbeats 4000000 in
set_option maxRecDepth 100000 in
theorem Cs_400 {X : XT} {cc : ByteArray} {nL : Nat} {own : String} {rt : Option FieldType} {ka : Nat → ClassId} {lvl cells slots pc : Nat} {lv : List (Nat × Value)} {st : List Value} {ad : Nat → Nat} {F : FT} {R : RT} {J : JT} {P : PT} {B : BT} (C : Cx X cc nL own rt ka lvl) {f : Nat → Int32} (hf : R 400 = f) {i x : Int32} (j : Nat) (hj : i.toNatClampNeg = j) (hi : vp_in i 603) (d : decode cc pc = .ok (.iastore, 1)) (kk : G X cells slots (wC ad ka F (va_up R 400 (upd f j x)) J P B) (pc + 1) lv st) : G X cells slots (wC ad ka F R J P B) pc lv (.int x :: .int i :: .ref (ad 400) :: st) := by
  subst hf; subst hj
  exact g_iast C 23 rfl hi _ rfl d kk
set_option maxHeartbeats 4000000 in
set_option maxRecDepth 100000 in
theorem Cg_X1_4_odds {X : XT} {cc : ByteArray} {nL : Nat} {rt : Option FieldType} {ka : Nat → ClassId} {lvl cells slots pc : Nat} {lv : List (Nat × Value)} {st : List Value} {ad : Nat → Nat} {F : FT} {R : RT} {J : JT} {P : PT} {B : BT} (C : Cx X cc nL RX1 rt ka lvl) (d : decode cc pc = .ok (.getfield 21, 3)) (kk : G X cells slots (wC ad ka F R J P B) (pc + 3) lv (.ref (ad 403) :: st)) : G X cells slots (wC ad ka F R J P B) pc lv (.ref (ad 499) :: st) := g_get C 4 wC_o4 (hc := rfl) inX1 3 (by decide) (index := 21) (ref := "SummerWall$Foretold") (gw_of tw1_176 rfl) rfl rfl d kk
set_option maxHeartbeats 4000000 in
set_option maxRecDepth 100000 in
theorem Cs_403 {X : XT} {cc : ByteArray} {nL : Nat} {own : String} {rt : Option FieldType} {ka : Nat → ClassId} {lvl cells slots pc : Nat} {lv : List (Nat × Value)} {st : List Value} {ad : Nat → Nat} {F : FT} {R : RT} {J : JT} {P : PT} {B : BT} (C : Cx X cc nL own rt ka lvl) {f : Nat → Int32} (hf : R 403 = f) {i x : Int32} (j : Nat) (hj : i.toNatClampNeg = j) (hi : vp_in i 201) (d : decode cc pc = .ok (.iastore, 1)) (kk : G X cells slots (wC ad ka F (va_up R 403 (upd f j x)) J P B) (pc + 1) lv st) : G X cells slots (wC ad ka F R J P B) pc lv (.int x :: .int i :: .ref (ad 403) :: st) := by
  subst hf; subst hj
  exact g_iast C 26 rfl hi _ rfl d kk
set_option maxHeartbeats 4000000 in
set_option maxRecDepth 100000 in
theorem Cg_X1_4_frost {X : XT} {cc : ByteArray} {nL : Nat} {rt : Option FieldType} {ka : Nat → ClassId} {lvl cells slots pc : Nat} {lv : List (Nat × Value)} {st : List Value} {ad : Nat → Nat} {F : FT} {R : RT} {J : JT} {P : PT} {B : BT} (C : Cx X cc nL RX1 rt ka lvl) {v : Int32} (hv : F 409 = v) (d : decode cc pc = .ok (.getfield 125, 3)) (kk : G X cells slots (wC ad ka F R J P B) (pc + 3) lv (.int v :: st)) : G X cells slots (wC ad ka F R J P B) pc lv (.ref (ad 499) :: st) := by
  subst hv
  exact g_get C 4 wC_o4 (hc := rfl) inX1 9 (by decide) (index := 125) (ref := "SummerWall$Foretold") (gw_of tw1_182 rfl) rfl rfl d kk
set_option maxHeartbeats 4000000 in
set_option maxRecDepth 100000 in
theorem Cg_X1_4_thaw {X : XT} {cc : ByteArray} {nL : Nat} {rt : Option FieldType} {ka : Nat → ClassId} {lvl cells slots pc : Nat} {lv : List (Nat × Value)} {st : List Value} {ad : Nat → Nat} {F : FT} {R : RT} {J : JT} {P : PT} {B : BT} (C : Cx X cc nL RX1 rt ka lvl) {v : Int32} (hv : F 410 = v) (d : decode cc pc = .ok (.getfield 128, 3)) (kk : G X cells slots (wC ad ka F R J P B) (pc + 3) lv (.int v :: st)) : G X cells slots (wC ad ka F R J P B) pc lv (.ref (ad 499) :: st) := by
  subst hv
  exact g_get C 4 wC_o4 (hc := rfl) inX1 10 (by decide) (index := 128) (ref := "SummerWall$Foretold") (gw_of tw1_183 rfl) rfl rfl d kk
set_option maxHeartbeats 4000000 in
set_option maxRecDepth 100000 in
theorem Ca_401 {X : XT} {cc : ByteArray} {nL : Nat} {own : String} {rt : Option FieldType} {ka : Nat → ClassId} {lvl cells slots pc : Nat} {lv : List (Nat × Value)} {st : List Value} {ad : Nat → Nat} {F : FT} {R : RT} {J : JT} {P : PT} {B : BT} (C : Cx X cc nL own rt ka lvl) {f : Nat → Int32} (hf : R 401 = f) {i : Int32} (j : Nat) (hj : i.toNatClampNeg = j) (hi : vp_in i 603) (d : decode cc pc = .ok (.iaload, 1)) (kk : G X cells slots (wC ad ka F R J P B) (pc + 1) lv (.int (f j) :: st)) : G X cells slots (wC ad ka F R J P B) pc lv (.int i :: .ref (ad 401) :: st) := by
  subst hf; subst hj
  exact g_iald C 24 rfl hi d kk
set_option maxHeartbeats 4000000 in
set_option maxRecDepth 100000 in
theorem Ca_403 {X : XT} {cc : ByteArray} {nL : Nat} {own : String} {rt : Option FieldType} {ka : Nat → ClassId} {lvl cells slots pc : Nat} {lv : List (Nat × Value)} {st : List Value} {ad : Nat → Nat} {F : FT} {R : RT} {J : JT} {P : PT} {B : BT} (C : Cx X cc nL own rt ka lvl) {f : Nat → Int32} (hf : R 403 = f) {i : Int32} (j : Nat) (hj : i.toNatClampNeg = j) (hi : vp_in i 201) (d : decode cc pc = .ok (.iaload, 1)) (kk : G X cells slots (wC ad ka F R J P B) (pc + 1) lv (.int (f j) :: st)) : G X cells slots (wC ad ka F R J P B) pc lv (.int i :: .ref (ad 403) :: st) := by
  subst hf; subst hj
  exact g_iald C 26 rfl hi d kk
set_option maxHeartbeats 4000000 in
set_option maxRecDepth 100000 in
theorem Ca_402 {X : XT} {cc : ByteArray} {nL : Nat} {own : String} {rt : Option FieldType} {ka : Nat → ClassId} {lvl cells slots pc : Nat} {lv : List (Nat × Value)} {st : List Value} {ad : Nat → Nat} {F : FT} {R : RT} {J : JT} {P : PT} {B : BT} (C : Cx X cc nL own rt ka lvl) {f : Nat → Int32} (hf : R 402 = f) {i : Int32} (j : Nat) (hj : i.toNatClampNeg = j) (hi : vp_in i 603) (d : decode cc pc = .ok (.iaload, 1)) (kk : G X cells slots (wC ad ka F R J P B) (pc + 1) lv (.int (f j) :: st)) : G X cells slots (wC ad ka F R J P B) pc lv (.int i :: .ref (ad 402) :: st) := by
  subst hf; subst hj
  exact g_iald C 25 rfl hi d kk
set_option maxHeartbeats 4000000 in
set_option maxRecDepth 100000 in
theorem Ca_404 {X : XT} {cc : ByteArray} {nL : Nat} {own : String} {rt : Option FieldType} {ka : Nat → ClassId} {lvl cells slots pc : Nat} {lv : List (Nat × Value)} {st : List Value} {ad : Nat → Nat} {F : FT} {R : RT} {J : JT} {P : PT} {B : BT} (C : Cx X cc nL own rt ka lvl) {f : Nat → Int32} (hf : R 404 = f) {i : Int32} (j : Nat) (hj : i.toNatClampNeg = j) (hi : vp_in i 201) (d : decode cc pc = .ok (.iaload, 1)) (kk : G X cells slots (wC ad ka F R J P B) (pc + 1) lv (.int (f j) :: st)) : G X cells slots (wC ad ka F R J P B) pc lv (.int i :: .ref (ad 404) :: st) := by
  subst hf; subst hj
  exact g_iald C 27 rfl hi d kk
set_option maxHeartbeats 4000000 in
set_option maxRecDepth 100000 in
theorem Cs_404 {X : XT} {cc : ByteArray} {nL : Nat} {own : String} {rt : Option FieldType} {ka : Nat → ClassId} {lvl cells slots pc : Nat} {lv : List (Nat × Value)} {st : List Value} {ad : Nat → Nat} {F : FT} {R : RT} {J : JT} {P : PT} {B : BT} (C : Cx X cc nL own rt ka lvl) {f : Nat → Int32} (hf : R 404 = f) {i x : Int32} (j : Nat) (hj : i.toNatClampNeg = j) (hi : vp_in i 201) (d : decode cc pc = .ok (.iastore, 1)) (kk : G X cells slots (wC ad ka F (va_up R 404 (upd f j x)) J P B) (pc + 1) lv st) : G X cells slots (wC ad ka F R J P B) pc lv (.int x :: .int i :: .ref (ad 404) :: st) := by
  subst hf; subst hj
  exact g_iast C 27 rfl hi _ rfl d kk
set_option maxHeartbeats 4000000 in
set_option maxRecDepth 100000 in
theorem Cg_X1_1_day {X : XT} {cc : ByteArray} {nL : Nat} {rt : Option FieldType} {ka : Nat → ClassId} {lvl cells slots pc : Nat} {lv : List (Nat × Value)} {st : List Value} {ad : Nat → Nat} {F : FT} {R : RT} {J : JT} {P : PT} {B : BT} (C : Cx X cc nL RX1 rt ka lvl) {v : Int32} (hv : F 104 = v) (d : decode cc pc = .ok (.getfield 33, 3)) (kk : G X cells slots (wC ad ka F R J P B) (pc + 3) lv (.int v :: st)) : G X cells slots (wC ad ka F R J P B) pc lv (.ref (ad 199) :: st) := by
  subst hv
  exact g_get C 1 wC_o1 (hc := rfl) inX7 4 (by decide) (index := 33) (ref := "SummerWall$Site") (gw_of tw1_44 rfl) rfl rfl d kk
set_option maxHeartbeats 4000000 in
set_option maxRecDepth 100000 in
theorem Cg_X1_1_laid {X : XT} {cc : ByteArray} {nL : Nat} {rt : Option FieldType} {ka : Nat → ClassId} {lvl cells slots pc : Nat} {lv : List (Nat × Value)} {st : List Value} {ad : Nat → Nat} {F : FT} {R : RT} {J : JT} {P : PT} {B : BT} (C : Cx X cc nL RX1 rt ka lvl) {v : Int32} (hv : F 105 = v) (d : decode cc pc = .ok (.getfield 39, 3)) (kk : G X cells slots (wC ad ka F R J P B) (pc + 3) lv (.int v :: st)) : G X cells slots (wC ad ka F R J P B) pc lv (.ref (ad 199) :: st) := by
  subst hv
  exact g_get C 1 wC_o1 (hc := rfl) inX7 5 (by decide) (index := 39) (ref := "SummerWall$Site") (gw_of tw1_46 rfl) rfl rfl d kk
set_option maxHeartbeats 4000000 in
set_option maxRecDepth 100000 in
theorem Cg_X1_1_used {X : XT} {cc : ByteArray} {nL : Nat} {rt : Option FieldType} {ka : Nat → ClassId} {lvl cells slots pc : Nat} {lv : List (Nat × Value)} {st : List Value} {ad : Nat → Nat} {F : FT} {R : RT} {J : JT} {P : PT} {B : BT} (C : Cx X cc nL RX1 rt ka lvl) {v : Int32} (hv : F 106 = v) (d : decode cc pc = .ok (.getfield 75, 3)) (kk : G X cells slots (wC ad ka F R J P B) (pc + 3) lv (.int v :: st)) : G X cells slots (wC ad ka F R J P B) pc lv (.ref (ad 199) :: st) := by
  subst hv
  exact g_get C 1 wC_o1 (hc := rfl) inX7 6 (by decide) (index := 75) (ref := "SummerWall$Site") (gw_of tw1_50 rfl) rfl rfl d kk
set_option maxHeartbeats 4000000 in
set_option maxRecDepth 100000 in
theorem Cg_X1_1_hindranceCount {X : XT} {cc : ByteArray} {nL : Nat} {rt : Option FieldType} {ka : Nat → ClassId} {lvl cells slots pc : Nat} {lv : List (Nat × Value)} {st : List Value} {ad : Nat → Nat} {F : FT} {R : RT} {J : JT} {P : PT} {B : BT} (C : Cx X cc nL RX1 rt ka lvl) {v : Int32} (hv : F 112 = v) (d : decode cc pc = .ok (.getfield 81, 3)) (kk : G X cells slots (wC ad ka F R J P B) (pc + 3) lv (.int v :: st)) : G X cells slots (wC ad ka F R J P B) pc lv (.ref (ad 199) :: st) := by
  subst hv
  exact g_get C 1 wC_o1 (hc := rfl) inX7 12 (by decide) (index := 81) (ref := "SummerWall$Site") (gw_of tw1_62 rfl) rfl rfl d kk
set_option maxHeartbeats 4000000 in
set_option maxRecDepth 100000 in
theorem Cg_X1_4_oddsHindered {X : XT} {cc : ByteArray} {nL : Nat} {rt : Option FieldType} {ka : Nat → ClassId} {lvl cells slots pc : Nat} {lv : List (Nat × Value)} {st : List Value} {ad : Nat → Nat} {F : FT} {R : RT} {J : JT} {P : PT} {B : BT} (C : Cx X cc nL RX1 rt ka lvl) (d : decode cc pc = .ok (.getfield 24, 3)) (kk : G X cells slots (wC ad ka F R J P B) (pc + 3) lv (.ref (ad 404) :: st)) : G X cells slots (wC ad ka F R J P B) pc lv (.ref (ad 499) :: st) := g_get C 4 wC_o4 (hc := rfl) inX1 4 (by decide) (index := 24) (ref := "SummerWall$Foretold") (gw_of tw1_177 rfl) rfl rfl d kk
set_option maxHeartbeats 4000000 in
set_option maxRecDepth 100000 in
theorem Cc_403_404 {X : XT} {cc : ByteArray} {nL : Nat} {own : String} {rt : Option FieldType} {ka : Nat → ClassId} {lvl cells slots pc : Nat} {lv : List (Nat × Value)} {st : List Value} {ad : Nat → Nat} {F : FT} {R : RT} {J : JT} {P : PT} {B : BT} (C : Cx X cc nL own rt ka lvl) {f g : Nat → Int32} (hf : R 403 = f) (hg : R 404 = g) {sp dp n : Int32} (h1 : ¬ sp < 0) (h2 : ¬ dp < 0) (h3 : ¬ n < 0) (h4 : sp.toNatClampNeg + n.toNatClampNeg ≤ 201) (h5 : dp.toNatClampNeg + n.toNatClampNeg ≤ 201) {index : Nat} (hlink : Cond.methodLink own index arraycopyName ∈ gw) (hlv : 0 < lvl) (hsum : (st.map fun v => v.category).sum ≤ 8) (d : decode cc pc = .ok (.invokestatic index, 3)) (kk : G X cells slots (wC ad ka F (va_up R 404 (va_cpy f g sp.toNatClampNeg dp.toNatClampNeg n.toNatClampNeg)) J P B) (pc + 3) lv st) : G X cells slots (wC ad ka F R J P B) pc lv (.int n :: .int dp :: .ref (ad 404) :: .int sp :: .ref (ad 403) :: st) := by
  subst hf; subst hg
  exact g_copyi C 26 27 rfl rfl h1 h2 h3 h4 h5 hlink hlv hsum _ rfl d kk
set_option maxHeartbeats 4000000 in
set_option maxRecDepth 100000 in
theorem Cg_X1_4_behindHindered {X : XT} {cc : ByteArray} {nL : Nat} {rt : Option FieldType} {ka : Nat → ClassId} {lvl cells slots pc : Nat} {lv : List (Nat × Value)} {st : List Value} {ad : Nat → Nat} {F : FT} {R : RT} {J : JT} {P : PT} {B : BT} (C : Cx X cc nL RX1 rt ka lvl) (d : decode cc pc = .ok (.getfield 18, 3)) (kk : G X cells slots (wC ad ka F R J P B) (pc + 3) lv (.ref (ad 402) :: st)) : G X cells slots (wC ad ka F R J P B) pc lv (.ref (ad 499) :: st) := g_get C 4 wC_o4 (hc := rfl) inX1 2 (by decide) (index := 18) (ref := "SummerWall$Foretold") (gw_of tw1_175 rfl) rfl rfl d kk
set_option maxHeartbeats 4000000 in
set_option maxRecDepth 100000 in
theorem Cp_X1_4_bestDay {X : XT} {cc : ByteArray} {nL : Nat} {rt : Option FieldType} {ka : Nat → ClassId} {lvl cells slots pc : Nat} {lv : List (Nat × Value)} {st : List Value} {ad : Nat → Nat} {F : FT} {R : RT} {J : JT} {P : PT} {B : BT} (C : Cx X cc nL RX1 rt ka lvl) {x : Int32} (d : decode cc pc = .ok (.putfield 97, 3)) (kk : G X cells slots (wC ad ka (upd F 414 x) R J P B) (pc + 3) lv st) : G X cells slots (wC ad ka F R J P B) pc lv (.int x :: .ref (ad 499) :: st) := g_put C 4 wC_o4 (hc := rfl) inX1 tyX1 tyX1_ok nmX1 14 (by decide) (index := 97) (ref := "SummerWall$Foretold") (gw_of tw1_187 rfl) rfl rfl rfl rfl (Nat.le_of_ble_eq_true rfl) _ rfl d kk
set_option maxHeartbeats 4000000 in
set_option maxRecDepth 100000 in
theorem Cp_X1_4_bestOdds {X : XT} {cc : ByteArray} {nL : Nat} {rt : Option FieldType} {ka : Nat → ClassId} {lvl cells slots pc : Nat} {lv : List (Nat × Value)} {st : List Value} {ad : Nat → Nat} {F : FT} {R : RT} {J : JT} {P : PT} {B : BT} (C : Cx X cc nL RX1 rt ka lvl) {x : Int32} (d : decode cc pc = .ok (.putfield 101, 3)) (kk : G X cells slots (wC ad ka (upd F 415 x) R J P B) (pc + 3) lv st) : G X cells slots (wC ad ka F R J P B) pc lv (.int x :: .ref (ad 499) :: st) := g_put C 4 wC_o4 (hc := rfl) inX1 tyX1 tyX1_ok nmX1 15 (by decide) (index := 101) (ref := "SummerWall$Foretold") (gw_of tw1_189 rfl) rfl rfl rfl rfl (Nat.le_of_ble_eq_true rfl) _ rfl d kk
set_option maxHeartbeats 4000000 in
set_option maxRecDepth 100000 in
theorem Cg_X1_4_bestOdds {X : XT} {cc : ByteArray} {nL : Nat} {rt : Option FieldType} {ka : Nat → ClassId} {lvl cells slots pc : Nat} {lv : List (Nat × Value)} {st : List Value} {ad : Nat → Nat} {F : FT} {R : RT} {J : JT} {P : PT} {B : BT} (C : Cx X cc nL RX1 rt ka lvl) {v : Int32} (hv : F 415 = v) (d : decode cc pc = .ok (.getfield 101, 3)) (kk : G X cells slots (wC ad ka F R J P B) (pc + 3) lv (.int v :: st)) : G X cells slots (wC ad ka F R J P B) pc lv (.ref (ad 499) :: st) := by
  subst hv
  exact g_get C 4 wC_o4 (hc := rfl) inX1 15 (by decide) (index := 101) (ref := "SummerWall$Foretold") (gw_of tw1_189 rfl) rfl rfl d kk
set_option maxHeartbeats 4000000 in
set_option maxRecDepth 100000 in
theorem Cg_X1_4_parts {X : XT} {cc : ByteArray} {nL : Nat} {rt : Option FieldType} {ka : Nat → ClassId} {lvl cells slots pc : Nat} {lv : List (Nat × Value)} {st : List Value} {ad : Nat → Nat} {F : FT} {R : RT} {J : JT} {P : PT} {B : BT} (C : Cx X cc nL RX1 rt ka lvl) (d : decode cc pc = .ok (.getfield 30, 3)) (kk : G X cells slots (wC ad ka F R J P B) (pc + 3) lv (.ref (ad 406) :: st)) : G X cells slots (wC ad ka F R J P B) pc lv (.ref (ad 499) :: st) := g_get C 4 wC_o4 (hc := rfl) inX1 6 (by decide) (index := 30) (ref := "SummerWall$Foretold") (gw_of tw1_179 rfl) rfl rfl d kk
set_option maxHeartbeats 4000000 in
set_option maxRecDepth 100000 in
theorem Ca_406 {X : XT} {cc : ByteArray} {nL : Nat} {own : String} {rt : Option FieldType} {ka : Nat → ClassId} {lvl cells slots pc : Nat} {lv : List (Nat × Value)} {st : List Value} {ad : Nat → Nat} {F : FT} {R : RT} {J : JT} {P : PT} {B : BT} (C : Cx X cc nL own rt ka lvl) {f : Nat → Int32} (hf : R 406 = f) {i : Int32} (j : Nat) (hj : i.toNatClampNeg = j) (hi : vp_in i 201) (d : decode cc pc = .ok (.iaload, 1)) (kk : G X cells slots (wC ad ka F R J P B) (pc + 1) lv (.int (f j) :: st)) : G X cells slots (wC ad ka F R J P B) pc lv (.int i :: .ref (ad 406) :: st) := by
  subst hf; subst hj
  exact g_iald C 29 rfl hi d kk
set_option maxHeartbeats 4000000 in
set_option maxRecDepth 100000 in
theorem Cs_406 {X : XT} {cc : ByteArray} {nL : Nat} {own : String} {rt : Option FieldType} {ka : Nat → ClassId} {lvl cells slots pc : Nat} {lv : List (Nat × Value)} {st : List Value} {ad : Nat → Nat} {F : FT} {R : RT} {J : JT} {P : PT} {B : BT} (C : Cx X cc nL own rt ka lvl) {f : Nat → Int32} (hf : R 406 = f) {i x : Int32} (j : Nat) (hj : i.toNatClampNeg = j) (hi : vp_in i 201) (d : decode cc pc = .ok (.iastore, 1)) (kk : G X cells slots (wC ad ka F (va_up R 406 (upd f j x)) J P B) (pc + 1) lv st) : G X cells slots (wC ad ka F R J P B) pc lv (.int x :: .int i :: .ref (ad 406) :: st) := by
  subst hf; subst hj
  exact g_iast C 29 rfl hi _ rfl d kk
set_option maxHeartbeats 4000000 in
set_option maxRecDepth 100000 in
theorem Sg_X6_size {X : XT} {cc : ByteArray} {nL : Nat} {rt : Option FieldType} {ka : Nat → ClassId} {lvl cells slots pc : Nat} {lv : List (Nat × Value)} {st : List Value} {ad : Nat → Nat} {F : FT} {R : RT} {J : JT} {P : PT} {B : BT} (C : Cx X cc nL RX6 rt ka lvl) (j : Nat) (hj : j < 4) {v : Int32} (hv : F (502 + 100 * j) = v) (d : decode cc pc = .ok (.getfield 23, 3)) (kk : G X cells slots (wC ad ka F R J P B) (pc + 3) lv (.int v :: st)) : G X cells slots (wC ad ka F R J P B) pc lv (.ref (ad (599 + 100 * j)) :: st) := by
  subst hv
  exact g_get C (5 + j) (wC_s j hj) (hc := rfl) inX6 2 (by decide) (index := 23) (ref := "SummerWall$Sheet") (gw_of tw1_235 rfl) rfl rfl d kk
set_option maxHeartbeats 4000000 in
set_option maxRecDepth 100000 in
theorem Sg_X6_held {X : XT} {cc : ByteArray} {nL : Nat} {rt : Option FieldType} {ka : Nat → ClassId} {lvl cells slots pc : Nat} {lv : List (Nat × Value)} {st : List Value} {ad : Nat → Nat} {F : FT} {R : RT} {J : JT} {P : PT} {B : BT} (C : Cx X cc nL RX6 rt ka lvl) (j : Nat) (hj : j < 4) {v : Int32} (hv : F (500 + 100 * j) = v) (d : decode cc pc = .ok (.getfield 15, 3)) (kk : G X cells slots (wC ad ka F R J P B) (pc + 3) lv (.int v :: st)) : G X cells slots (wC ad ka F R J P B) pc lv (.ref (ad (599 + 100 * j)) :: st) := by
  subst hv
  exact g_get C (5 + j) (wC_s j hj) (hc := rfl) inX6 0 (by decide) (index := 15) (ref := "SummerWall$Sheet") (gw_of tw1_231 rfl) rfl rfl d kk
set_option maxHeartbeats 4000000 in
set_option maxRecDepth 100000 in
theorem Sg_X6_lane {X : XT} {cc : ByteArray} {nL : Nat} {rt : Option FieldType} {ka : Nat → ClassId} {lvl cells slots pc : Nat} {lv : List (Nat × Value)} {st : List Value} {ad : Nat → Nat} {F : FT} {R : RT} {J : JT} {P : PT} {B : BT} (C : Cx X cc nL RX6 rt ka lvl) (j : Nat) (hj : j < 4) {v : Int32} (hv : F (501 + 100 * j) = v) (d : decode cc pc = .ok (.getfield 19, 3)) (kk : G X cells slots (wC ad ka F R J P B) (pc + 3) lv (.int v :: st)) : G X cells slots (wC ad ka F R J P B) pc lv (.ref (ad (599 + 100 * j)) :: st) := by
  subst hv
  exact g_get C (5 + j) (wC_s j hj) (hc := rfl) inX6 1 (by decide) (index := 19) (ref := "SummerWall$Sheet") (gw_of tw1_233 rfl) rfl rfl d kk
set_option maxHeartbeats 4000000 in
set_option maxRecDepth 100000 in
theorem Sp_X6_held {X : XT} {cc : ByteArray} {nL : Nat} {rt : Option FieldType} {ka : Nat → ClassId} {lvl cells slots pc : Nat} {lv : List (Nat × Value)} {st : List Value} {ad : Nat → Nat} {F : FT} {R : RT} {J : JT} {P : PT} {B : BT} (C : Cx X cc nL RX6 rt ka lvl) (j : Nat) (hj : j < 4) {x : Int32} (hb : isB x) (d : decode cc pc = .ok (.putfield 15, 3)) (kk : G X cells slots (wC ad ka (upd F (500 + 100 * j) x) R J P B) (pc + 3) lv st) : G X cells slots (wC ad ka F R J P B) pc lv (.int x :: .ref (ad (599 + 100 * j)) :: st) := g_put C (5 + j) (wC_s j hj) (hc := rfl) inX6 tyX6 tyX6_ok nmX6 0 (by decide) (index := 15) (ref := "SummerWall$Sheet") (gw_of tw1_231 rfl) rfl rfl (nar_B hb) (fit_B hb) (Nat.le_of_ble_eq_true rfl) _ (wC_sp0 j hj x) d kk
set_option maxHeartbeats 4000000 in
set_option maxRecDepth 100000 in
theorem Sp_X6_lane {X : XT} {cc : ByteArray} {nL : Nat} {rt : Option FieldType} {ka : Nat → ClassId} {lvl cells slots pc : Nat} {lv : List (Nat × Value)} {st : List Value} {ad : Nat → Nat} {F : FT} {R : RT} {J : JT} {P : PT} {B : BT} (C : Cx X cc nL RX6 rt ka lvl) (j : Nat) (hj : j < 4) {x : Int32} (d : decode cc pc = .ok (.putfield 19, 3)) (kk : G X cells slots (wC ad ka (upd F (501 + 100 * j) x) R J P B) (pc + 3) lv st) : G X cells slots (wC ad ka F R J P B) pc lv (.int x :: .ref (ad (599 + 100 * j)) :: st) := g_put C (5 + j) (wC_s j hj) (hc := rfl) inX6 tyX6 tyX6_ok nmX6 1 (by decide) (index := 19) (ref := "SummerWall$Sheet") (gw_of tw1_233 rfl) rfl rfl rfl rfl (Nat.le_of_ble_eq_true rfl) _ (wC_sp1 j hj x) d kk
set_option maxHeartbeats 4000000 in
set_option maxRecDepth 100000 in
theorem Sp_X6_size {X : XT} {cc : ByteArray} {nL : Nat} {rt : Option FieldType} {ka : Nat → ClassId} {lvl cells slots pc : Nat} {lv : List (Nat × Value)} {st : List Value} {ad : Nat → Nat} {F : FT} {R : RT} {J : JT} {P : PT} {B : BT} (C : Cx X cc nL RX6 rt ka lvl) (j : Nat) (hj : j < 4) {x : Int32} (d : decode cc pc = .ok (.putfield 23, 3)) (kk : G X cells slots (wC ad ka (upd F (502 + 100 * j) x) R J P B) (pc + 3) lv st) : G X cells slots (wC ad ka F R J P B) pc lv (.int x :: .ref (ad (599 + 100 * j)) :: st) := g_put C (5 + j) (wC_s j hj) (hc := rfl) inX6 tyX6 tyX6_ok nmX6 2 (by decide) (index := 23) (ref := "SummerWall$Sheet") (gw_of tw1_235 rfl) rfl rfl rfl rfl (Nat.le_of_ble_eq_true rfl) _ (wC_sp2 j hj x) d kk
set_option maxHeartbeats 4000000 in
set_option maxRecDepth 100000 in
theorem Sg_X6_items {X : XT} {cc : ByteArray} {nL : Nat} {rt : Option FieldType} {ka : Nat → ClassId} {lvl cells slots pc : Nat} {lv : List (Nat × Value)} {st : List Value} {ad : Nat → Nat} {F : FT} {R : RT} {J : JT} {P : PT} {B : BT} (C : Cx X cc nL RX6 rt ka lvl) (j : Nat) (hj : j < 4) (d : decode cc pc = .ok (.getfield 9, 3)) (kk : G X cells slots (wC ad ka F R J P B) (pc + 3) lv (.ref (ad (503 + 100 * j)) :: st)) : G X cells slots (wC ad ka F R J P B) pc lv (.ref (ad (599 + 100 * j)) :: st) := g_get C (5 + j) (wC_s j hj) (hc := rfl) inX6 3 (by decide) (index := 9) (ref := "SummerWall$Sheet") (gw_of tw1_237 rfl) rfl rfl d kk
set_option maxHeartbeats 4000000 in
set_option maxRecDepth 100000 in
theorem Ss_items {X : XT} {cc : ByteArray} {nL : Nat} {own : String} {rt : Option FieldType} {ka : Nat → ClassId} {lvl cells slots pc : Nat} {lv : List (Nat × Value)} {st : List Value} {ad : Nat → Nat} {F : FT} {R : RT} {J : JT} {P : PT} {B : BT} (C : Cx X cc nL own rt ka lvl) (jj : Nat) (hjj : jj < 4) {f : Nat → Int64} (hf : J (503 + 100 * jj) = f) {i : Int32} {x : Int64} (j : Nat) (hj : i.toNatClampNeg = j) (hi : vp_in i 24) (d : decode cc pc = .ok (.lastore, 1)) (kk : G X cells slots (wC ad ka F R (va_up J (503 + 100 * jj) (vp_updL f j x)) P B) (pc + 1) lv st) : G X cells slots (wC ad ka F R J P B) pc lv (.long x :: .int i :: .ref (ad (503 + 100 * jj)) :: st) := by
  subst hf; subst hj
  exact g_last C (31 + jj) (wC_i jj hjj) hi _ (wC_is jj hjj _) d kk
set_option maxHeartbeats 4000000 in
set_option maxRecDepth 100000 in
theorem Cg_X9_0_now {X : XT} {cc : ByteArray} {nL : Nat} {rt : Option FieldType} {ka : Nat → ClassId} {lvl cells slots pc : Nat} {lv : List (Nat × Value)} {st : List Value} {ad : Nat → Nat} {F : FT} {R : RT} {J : JT} {P : PT} {B : BT} (C : Cx X cc nL RX9 rt ka lvl) (d : decode cc pc = .ok (.getfield 10, 3)) (kk : G X cells slots (wC ad ka F R J P B) (pc + 3) lv (.ref (ad 199) :: st)) : G X cells slots (wC ad ka F R J P B) pc lv (.ref (ad 99) :: st) := g_get C 0 wC_o0 (hc := rfl) inX9 0 (by decide) (index := 10) (ref := "SummerWall") (gw_of tw2_9 rfl) rfl rfl d kk
set_option maxHeartbeats 4000000 in
set_option maxRecDepth 100000 in
theorem Cg_X9_1_builderCount {X : XT} {cc : ByteArray} {nL : Nat} {rt : Option FieldType} {ka : Nat → ClassId} {lvl cells slots pc : Nat} {lv : List (Nat × Value)} {st : List Value} {ad : Nat → Nat} {F : FT} {R : RT} {J : JT} {P : PT} {B : BT} (C : Cx X cc nL RX9 rt ka lvl) {v : Int32} (hv : F 111 = v) (d : decode cc pc = .ok (.getfield 44, 3)) (kk : G X cells slots (wC ad ka F R J P B) (pc + 3) lv (.int v :: st)) : G X cells slots (wC ad ka F R J P B) pc lv (.ref (ad 199) :: st) := by
  subst hv
  exact g_get C 1 wC_o1 (hc := rfl) inX7 11 (by decide) (index := 44) (ref := "SummerWall$Site") (gw_of tw1_59 rfl) rfl rfl d kk
set_option maxHeartbeats 4000000 in
set_option maxRecDepth 100000 in
theorem Cp_X9_1_pastCount {X : XT} {cc : ByteArray} {nL : Nat} {rt : Option FieldType} {ka : Nat → ClassId} {lvl cells slots pc : Nat} {lv : List (Nat × Value)} {st : List Value} {ad : Nat → Nat} {F : FT} {R : RT} {J : JT} {P : PT} {B : BT} (C : Cx X cc nL RX9 rt ka lvl) {x : Int32} (d : decode cc pc = .ok (.putfield 52, 3)) (kk : G X cells slots (wC ad ka (upd F 113 x) R J P B) (pc + 3) lv st) : G X cells slots (wC ad ka F R J P B) pc lv (.int x :: .ref (ad 199) :: st) := g_put C 1 wC_o1 (hc := rfl) inX7 tyX7 tyX7_ok nmX7 13 (by decide) (index := 52) (ref := "SummerWall$Site") (gw_of tw1_64 rfl) rfl rfl rfl rfl (Nat.le_of_ble_eq_true rfl) _ rfl d kk
set_option maxHeartbeats 4000000 in
set_option maxRecDepth 100000 in
theorem Cg_X9_1_builders {X : XT} {cc : ByteArray} {nL : Nat} {rt : Option FieldType} {ka : Nat → ClassId} {lvl cells slots pc : Nat} {lv : List (Nat × Value)} {st : List Value} {ad : Nat → Nat} {F : FT} {R : RT} {J : JT} {P : PT} {B : BT} (C : Cx X cc nL RX9 rt ka lvl) (d : decode cc pc = .ok (.getfield 55, 3)) (kk : G X cells slots (wC ad ka F R J P B) (pc + 3) lv (.ref (ad 114) :: st)) : G X cells slots (wC ad ka F R J P B) pc lv (.ref (ad 199) :: st) := g_get C 1 wC_o1 (hc := rfl) inX7 14 (by decide) (index := 55) (ref := "SummerWall$Site") (gw_of tw1_67 rfl) rfl rfl d kk
set_option maxHeartbeats 4000000 in
set_option maxRecDepth 100000 in
theorem Cg_X9_1_laid {X : XT} {cc : ByteArray} {nL : Nat} {rt : Option FieldType} {ka : Nat → ClassId} {lvl cells slots pc : Nat} {lv : List (Nat × Value)} {st : List Value} {ad : Nat → Nat} {F : FT} {R : RT} {J : JT} {P : PT} {B : BT} (C : Cx X cc nL RX9 rt ka lvl) {v : Int32} (hv : F 105 = v) (d : decode cc pc = .ok (.getfield 71, 3)) (kk : G X cells slots (wC ad ka F R J P B) (pc + 3) lv (.int v :: st)) : G X cells slots (wC ad ka F R J P B) pc lv (.ref (ad 199) :: st) := by
  subst hv
  exact g_get C 1 wC_o1 (hc := rfl) inX7 5 (by decide) (index := 71) (ref := "SummerWall$Site") (gw_of tw1_47 rfl) rfl rfl d kk
set_option maxHeartbeats 4000000 in
set_option maxRecDepth 100000 in
theorem Cg_X9_1_stones {X : XT} {cc : ByteArray} {nL : Nat} {rt : Option FieldType} {ka : Nat → ClassId} {lvl cells slots pc : Nat} {lv : List (Nat × Value)} {st : List Value} {ad : Nat → Nat} {F : FT} {R : RT} {J : JT} {P : PT} {B : BT} (C : Cx X cc nL RX9 rt ka lvl) {v : Int32} (hv : F 100 = v) (d : decode cc pc = .ok (.getfield 95, 3)) (kk : G X cells slots (wC ad ka F R J P B) (pc + 3) lv (.int v :: st)) : G X cells slots (wC ad ka F R J P B) pc lv (.ref (ad 199) :: st) := by
  subst hv
  exact g_get C 1 wC_o1 (hc := rfl) inX7 0 (by decide) (index := 95) (ref := "SummerWall$Site") (gw_of tw1_32 rfl) rfl rfl d kk
set_option maxHeartbeats 4000000 in
set_option maxRecDepth 100000 in
theorem Cp_X9_1_stones {X : XT} {cc : ByteArray} {nL : Nat} {rt : Option FieldType} {ka : Nat → ClassId} {lvl cells slots pc : Nat} {lv : List (Nat × Value)} {st : List Value} {ad : Nat → Nat} {F : FT} {R : RT} {J : JT} {P : PT} {B : BT} (C : Cx X cc nL RX9 rt ka lvl) {x : Int32} (d : decode cc pc = .ok (.putfield 95, 3)) (kk : G X cells slots (wC ad ka (upd F 100 x) R J P B) (pc + 3) lv st) : G X cells slots (wC ad ka F R J P B) pc lv (.int x :: .ref (ad 199) :: st) := g_put C 1 wC_o1 (hc := rfl) inX7 tyX7 tyX7_ok nmX7 0 (by decide) (index := 95) (ref := "SummerWall$Site") (gw_of tw1_32 rfl) rfl rfl rfl rfl (Nat.le_of_ble_eq_true rfl) _ rfl d kk
set_option maxHeartbeats 4000000 in
set_option maxRecDepth 100000 in
theorem Cg_X9_1_day {X : XT} {cc : ByteArray} {nL : Nat} {rt : Option FieldType} {ka : Nat → ClassId} {lvl cells slots pc : Nat} {lv : List (Nat × Value)} {st : List Value} {ad : Nat → Nat} {F : FT} {R : RT} {J : JT} {P : PT} {B : BT} (C : Cx X cc nL RX9 rt ka lvl) {v : Int32} (hv : F 104 = v) (d : decode cc pc = .ok (.getfield 98, 3)) (kk : G X cells slots (wC ad ka F R J P B) (pc + 3) lv (.int v :: st)) : G X cells slots (wC ad ka F R J P B) pc lv (.ref (ad 199) :: st) := by
  subst hv
  exact g_get C 1 wC_o1 (hc := rfl) inX7 4 (by decide) (index := 98) (ref := "SummerWall$Site") (gw_of tw1_45 rfl) rfl rfl d kk
set_option maxHeartbeats 4000000 in
set_option maxRecDepth 100000 in
theorem Cg_X9_1_days {X : XT} {cc : ByteArray} {nL : Nat} {rt : Option FieldType} {ka : Nat → ClassId} {lvl cells slots pc : Nat} {lv : List (Nat × Value)} {st : List Value} {ad : Nat → Nat} {F : FT} {R : RT} {J : JT} {P : PT} {B : BT} (C : Cx X cc nL RX9 rt ka lvl) {v : Int32} (hv : F 101 = v) (d : decode cc pc = .ok (.getfield 101, 3)) (kk : G X cells slots (wC ad ka F R J P B) (pc + 3) lv (.int v :: st)) : G X cells slots (wC ad ka F R J P B) pc lv (.ref (ad 199) :: st) := by
  subst hv
  exact g_get C 1 wC_o1 (hc := rfl) inX7 1 (by decide) (index := 101) (ref := "SummerWall$Site") (gw_of tw1_35 rfl) rfl rfl d kk
set_option maxHeartbeats 4000000 in
set_option maxRecDepth 100000 in
theorem Cp_X9_1_days {X : XT} {cc : ByteArray} {nL : Nat} {rt : Option FieldType} {ka : Nat → ClassId} {lvl cells slots pc : Nat} {lv : List (Nat × Value)} {st : List Value} {ad : Nat → Nat} {F : FT} {R : RT} {J : JT} {P : PT} {B : BT} (C : Cx X cc nL RX9 rt ka lvl) {x : Int32} (d : decode cc pc = .ok (.putfield 101, 3)) (kk : G X cells slots (wC ad ka (upd F 101 x) R J P B) (pc + 3) lv st) : G X cells slots (wC ad ka F R J P B) pc lv (.int x :: .ref (ad 199) :: st) := g_put C 1 wC_o1 (hc := rfl) inX7 tyX7 tyX7_ok nmX7 1 (by decide) (index := 101) (ref := "SummerWall$Site") (gw_of tw1_35 rfl) rfl rfl rfl rfl (Nat.le_of_ble_eq_true rfl) _ rfl d kk
set_option maxHeartbeats 4000000 in
set_option maxRecDepth 100000 in
theorem Cg_X9_1_thaw {X : XT} {cc : ByteArray} {nL : Nat} {rt : Option FieldType} {ka : Nat → ClassId} {lvl cells slots pc : Nat} {lv : List (Nat × Value)} {st : List Value} {ad : Nat → Nat} {F : FT} {R : RT} {J : JT} {P : PT} {B : BT} (C : Cx X cc nL RX9 rt ka lvl) {v : Int32} (hv : F 103 = v) (d : decode cc pc = .ok (.getfield 104, 3)) (kk : G X cells slots (wC ad ka F R J P B) (pc + 3) lv (.int v :: st)) : G X cells slots (wC ad ka F R J P B) pc lv (.ref (ad 199) :: st) := by
  subst hv
  exact g_get C 1 wC_o1 (hc := rfl) inX7 3 (by decide) (index := 104) (ref := "SummerWall$Site") (gw_of tw1_41 rfl) rfl rfl d kk
set_option maxHeartbeats 4000000 in
set_option maxRecDepth 100000 in
theorem Cg_X9_1_frost {X : XT} {cc : ByteArray} {nL : Nat} {rt : Option FieldType} {ka : Nat → ClassId} {lvl cells slots pc : Nat} {lv : List (Nat × Value)} {st : List Value} {ad : Nat → Nat} {F : FT} {R : RT} {J : JT} {P : PT} {B : BT} (C : Cx X cc nL RX9 rt ka lvl) {v : Int32} (hv : F 102 = v) (d : decode cc pc = .ok (.getfield 107, 3)) (kk : G X cells slots (wC ad ka F R J P B) (pc + 3) lv (.int v :: st)) : G X cells slots (wC ad ka F R J P B) pc lv (.ref (ad 199) :: st) := by
  subst hv
  exact g_get C 1 wC_o1 (hc := rfl) inX7 2 (by decide) (index := 107) (ref := "SummerWall$Site") (gw_of tw1_38 rfl) rfl rfl d kk
set_option maxHeartbeats 4000000 in
set_option maxRecDepth 100000 in
theorem Cp_X9_1_frost {X : XT} {cc : ByteArray} {nL : Nat} {rt : Option FieldType} {ka : Nat → ClassId} {lvl cells slots pc : Nat} {lv : List (Nat × Value)} {st : List Value} {ad : Nat → Nat} {F : FT} {R : RT} {J : JT} {P : PT} {B : BT} (C : Cx X cc nL RX9 rt ka lvl) {x : Int32} (d : decode cc pc = .ok (.putfield 107, 3)) (kk : G X cells slots (wC ad ka (upd F 102 x) R J P B) (pc + 3) lv st) : G X cells slots (wC ad ka F R J P B) pc lv (.int x :: .ref (ad 199) :: st) := g_put C 1 wC_o1 (hc := rfl) inX7 tyX7 tyX7_ok nmX7 2 (by decide) (index := 107) (ref := "SummerWall$Site") (gw_of tw1_38 rfl) rfl rfl rfl rfl (Nat.le_of_ble_eq_true rfl) _ rfl d kk
set_option maxHeartbeats 4000000 in
set_option maxRecDepth 100000 in
theorem Cp_X9_1_thaw {X : XT} {cc : ByteArray} {nL : Nat} {rt : Option FieldType} {ka : Nat → ClassId} {lvl cells slots pc : Nat} {lv : List (Nat × Value)} {st : List Value} {ad : Nat → Nat} {F : FT} {R : RT} {J : JT} {P : PT} {B : BT} (C : Cx X cc nL RX9 rt ka lvl) {x : Int32} (d : decode cc pc = .ok (.putfield 104, 3)) (kk : G X cells slots (wC ad ka (upd F 103 x) R J P B) (pc + 3) lv st) : G X cells slots (wC ad ka F R J P B) pc lv (.int x :: .ref (ad 199) :: st) := g_put C 1 wC_o1 (hc := rfl) inX7 tyX7 tyX7_ok nmX7 3 (by decide) (index := 104) (ref := "SummerWall$Site") (gw_of tw1_41 rfl) rfl rfl rfl rfl (Nat.le_of_ble_eq_true rfl) _ rfl d kk
set_option maxHeartbeats 4000000 in
set_option maxRecDepth 100000 in
theorem Cg_X9_1_hindranceCount {X : XT} {cc : ByteArray} {nL : Nat} {rt : Option FieldType} {ka : Nat → ClassId} {lvl cells slots pc : Nat} {lv : List (Nat × Value)} {st : List Value} {ad : Nat → Nat} {F : FT} {R : RT} {J : JT} {P : PT} {B : BT} (C : Cx X cc nL RX9 rt ka lvl) {v : Int32} (hv : F 112 = v) (d : decode cc pc = .ok (.getfield 110, 3)) (kk : G X cells slots (wC ad ka F R J P B) (pc + 3) lv (.int v :: st)) : G X cells slots (wC ad ka F R J P B) pc lv (.ref (ad 199) :: st) := by
  subst hv
  exact g_get C 1 wC_o1 (hc := rfl) inX7 12 (by decide) (index := 110) (ref := "SummerWall$Site") (gw_of tw1_63 rfl) rfl rfl d kk
set_option maxHeartbeats 4000000 in
set_option maxRecDepth 100000 in
theorem Cg_X9_1_sworn {X : XT} {cc : ByteArray} {nL : Nat} {rt : Option FieldType} {ka : Nat → ClassId} {lvl cells slots pc : Nat} {lv : List (Nat × Value)} {st : List Value} {ad : Nat → Nat} {F : FT} {R : RT} {J : JT} {P : PT} {B : BT} (C : Cx X cc nL RX9 rt ka lvl) {v : Int32} (hv : F 109 = v) (d : decode cc pc = .ok (.getfield 117, 3)) (kk : G X cells slots (wC ad ka F R J P B) (pc + 3) lv (.int v :: st)) : G X cells slots (wC ad ka F R J P B) pc lv (.ref (ad 199) :: st) := by
  subst hv
  exact g_get C 1 wC_o1 (hc := rfl) inX7 9 (by decide) (index := 117) (ref := "SummerWall$Site") (gw_of tw1_56 rfl) rfl rfl d kk
set_option maxHeartbeats 4000000 in
set_option maxRecDepth 100000 in
theorem Cp_X9_1_sworn {X : XT} {cc : ByteArray} {nL : Nat} {rt : Option FieldType} {ka : Nat → ClassId} {lvl cells slots pc : Nat} {lv : List (Nat × Value)} {st : List Value} {ad : Nat → Nat} {F : FT} {R : RT} {J : JT} {P : PT} {B : BT} (C : Cx X cc nL RX9 rt ka lvl) {x : Int32} (d : decode cc pc = .ok (.putfield 117, 3)) (kk : G X cells slots (wC ad ka (upd F 109 x) R J P B) (pc + 3) lv st) : G X cells slots (wC ad ka F R J P B) pc lv (.int x :: .ref (ad 199) :: st) := g_put C 1 wC_o1 (hc := rfl) inX7 tyX7 tyX7_ok nmX7 9 (by decide) (index := 117) (ref := "SummerWall$Site") (gw_of tw1_56 rfl) rfl rfl rfl rfl (Nat.le_of_ble_eq_true rfl) _ rfl d kk
set_option maxHeartbeats 4000000 in
set_option maxRecDepth 100000 in
theorem Cg_X9_0_tape {X : XT} {cc : ByteArray} {nL : Nat} {rt : Option FieldType} {ka : Nat → ClassId} {lvl cells slots pc : Nat} {lv : List (Nat × Value)} {st : List Value} {ad : Nat → Nat} {F : FT} {R : RT} {J : JT} {P : PT} {B : BT} (C : Cx X cc nL RX9 rt ka lvl) (d : decode cc pc = .ok (.getfield 22, 3)) (kk : G X cells slots (wC ad ka F R J P B) (pc + 3) lv (.ref (ad 399) :: st)) : G X cells slots (wC ad ka F R J P B) pc lv (.ref (ad 99) :: st) := g_get C 0 wC_o0 (hc := rfl) inX9 2 (by decide) (index := 22) (ref := "SummerWall") (gw_of tw2_11 rfl) rfl rfl d kk
set_option maxHeartbeats 4000000 in
set_option maxRecDepth 100000 in
theorem Cg_X9_3_length {X : XT} {cc : ByteArray} {nL : Nat} {rt : Option FieldType} {ka : Nat → ClassId} {lvl cells slots pc : Nat} {lv : List (Nat × Value)} {st : List Value} {ad : Nat → Nat} {F : FT} {R : RT} {J : JT} {P : PT} {B : BT} (C : Cx X cc nL RX9 rt ka lvl) {v : Int32} (hv : F 306 = v) (d : decode cc pc = .ok (.getfield 120, 3)) (kk : G X cells slots (wC ad ka F R J P B) (pc + 3) lv (.int v :: st)) : G X cells slots (wC ad ka F R J P B) pc lv (.ref (ad 399) :: st) := by
  subst hv
  exact g_get C 3 wC_o3 (hc := rfl) inX8 6 (by decide) (index := 120) (ref := "SummerWall$Tape") (gw_of tw1_127 rfl) rfl rfl d kk
set_option maxHeartbeats 4000000 in
set_option maxRecDepth 100000 in
theorem Cp_X9_3_length {X : XT} {cc : ByteArray} {nL : Nat} {rt : Option FieldType} {ka : Nat → ClassId} {lvl cells slots pc : Nat} {lv : List (Nat × Value)} {st : List Value} {ad : Nat → Nat} {F : FT} {R : RT} {J : JT} {P : PT} {B : BT} (C : Cx X cc nL RX9 rt ka lvl) {x : Int32} (d : decode cc pc = .ok (.putfield 120, 3)) (kk : G X cells slots (wC ad ka (upd F 306 x) R J P B) (pc + 3) lv st) : G X cells slots (wC ad ka F R J P B) pc lv (.int x :: .ref (ad 399) :: st) := g_put C 3 wC_o3 (hc := rfl) inX8 tyX8 tyX8_ok nmX8 6 (by decide) (index := 120) (ref := "SummerWall$Tape") (gw_of tw1_127 rfl) rfl rfl rfl rfl (Nat.le_of_ble_eq_true rfl) _ rfl d kk
set_option maxHeartbeats 4000000 in
set_option maxRecDepth 100000 in
theorem Cg_X9_3_fault {X : XT} {cc : ByteArray} {nL : Nat} {rt : Option FieldType} {ka : Nat → ClassId} {lvl cells slots pc : Nat} {lv : List (Nat × Value)} {st : List Value} {ad : Nat → Nat} {F : FT} {R : RT} {J : JT} {P : PT} {B : BT} (C : Cx X cc nL RX9 rt ka lvl) {v : Int32} (hv : F 311 = v) (d : decode cc pc = .ok (.getfield 131, 3)) (kk : G X cells slots (wC ad ka F R J P B) (pc + 3) lv (.int v :: st)) : G X cells slots (wC ad ka F R J P B) pc lv (.ref (ad 399) :: st) := by
  subst hv
  exact g_get C 3 wC_o3 (hc := rfl) inX8 11 (by decide) (index := 131) (ref := "SummerWall$Tape") (gw_of tw1_137 rfl) rfl rfl d kk
set_option maxHeartbeats 4000000 in
set_option maxRecDepth 100000 in
theorem Cg_X9_1_used {X : XT} {cc : ByteArray} {nL : Nat} {rt : Option FieldType} {ka : Nat → ClassId} {lvl cells slots pc : Nat} {lv : List (Nat × Value)} {st : List Value} {ad : Nat → Nat} {F : FT} {R : RT} {J : JT} {P : PT} {B : BT} (C : Cx X cc nL RX9 rt ka lvl) {v : Int32} (hv : F 106 = v) (d : decode cc pc = .ok (.getfield 138, 3)) (kk : G X cells slots (wC ad ka F R J P B) (pc + 3) lv (.int v :: st)) : G X cells slots (wC ad ka F R J P B) pc lv (.ref (ad 199) :: st) := by
  subst hv
  exact g_get C 1 wC_o1 (hc := rfl) inX7 6 (by decide) (index := 138) (ref := "SummerWall$Site") (gw_of tw1_51 rfl) rfl rfl d kk
set_option maxHeartbeats 4000000 in
set_option maxRecDepth 100000 in
theorem Cg_X9_1_broken {X : XT} {cc : ByteArray} {nL : Nat} {rt : Option FieldType} {ka : Nat → ClassId} {lvl cells slots pc : Nat} {lv : List (Nat × Value)} {st : List Value} {ad : Nat → Nat} {F : FT} {R : RT} {J : JT} {P : PT} {B : BT} (C : Cx X cc nL RX9 rt ka lvl) {v : Int32} (hv : F 108 = v) (d : decode cc pc = .ok (.getfield 144, 3)) (kk : G X cells slots (wC ad ka F R J P B) (pc + 3) lv (.int v :: st)) : G X cells slots (wC ad ka F R J P B) pc lv (.ref (ad 199) :: st) := by
  subst hv
  exact g_get C 1 wC_o1 (hc := rfl) inX7 8 (by decide) (index := 144) (ref := "SummerWall$Site") (gw_of tw1_54 rfl) rfl rfl d kk
set_option maxHeartbeats 4000000 in
set_option maxRecDepth 100000 in
theorem Cg_X9_1_pastCount {X : XT} {cc : ByteArray} {nL : Nat} {rt : Option FieldType} {ka : Nat → ClassId} {lvl cells slots pc : Nat} {lv : List (Nat × Value)} {st : List Value} {ad : Nat → Nat} {F : FT} {R : RT} {J : JT} {P : PT} {B : BT} (C : Cx X cc nL RX9 rt ka lvl) {v : Int32} (hv : F 113 = v) (d : decode cc pc = .ok (.getfield 52, 3)) (kk : G X cells slots (wC ad ka F R J P B) (pc + 3) lv (.int v :: st)) : G X cells slots (wC ad ka F R J P B) pc lv (.ref (ad 199) :: st) := by
  subst hv
  exact g_get C 1 wC_o1 (hc := rfl) inX7 13 (by decide) (index := 52) (ref := "SummerWall$Site") (gw_of tw1_64 rfl) rfl rfl d kk
set_option maxHeartbeats 4000000 in
set_option maxRecDepth 100000 in
theorem Cg_X9_1_draw {X : XT} {cc : ByteArray} {nL : Nat} {rt : Option FieldType} {ka : Nat → ClassId} {lvl cells slots pc : Nat} {lv : List (Nat × Value)} {st : List Value} {ad : Nat → Nat} {F : FT} {R : RT} {J : JT} {P : PT} {B : BT} (C : Cx X cc nL RX9 rt ka lvl) {v : Int32} (hv : F 110 = v) (d : decode cc pc = .ok (.getfield 170, 3)) (kk : G X cells slots (wC ad ka F R J P B) (pc + 3) lv (.int v :: st)) : G X cells slots (wC ad ka F R J P B) pc lv (.ref (ad 199) :: st) := by
  subst hv
  exact g_get C 1 wC_o1 (hc := rfl) inX7 10 (by decide) (index := 170) (ref := "SummerWall$Site") (gw_of tw1_58 rfl) rfl rfl d kk
set_option maxHeartbeats 4000000 in
set_option maxRecDepth 100000 in
theorem Cp_X9_1_draw {X : XT} {cc : ByteArray} {nL : Nat} {rt : Option FieldType} {ka : Nat → ClassId} {lvl cells slots pc : Nat} {lv : List (Nat × Value)} {st : List Value} {ad : Nat → Nat} {F : FT} {R : RT} {J : JT} {P : PT} {B : BT} (C : Cx X cc nL RX9 rt ka lvl) {x : Int32} (d : decode cc pc = .ok (.putfield 170, 3)) (kk : G X cells slots (wC ad ka (upd F 110 x) R J P B) (pc + 3) lv st) : G X cells slots (wC ad ka F R J P B) pc lv (.int x :: .ref (ad 199) :: st) := g_put C 1 wC_o1 (hc := rfl) inX7 tyX7 tyX7_ok nmX7 10 (by decide) (index := 170) (ref := "SummerWall$Site") (gw_of tw1_58 rfl) rfl rfl rfl rfl (Nat.le_of_ble_eq_true rfl) _ rfl d kk
set_option maxHeartbeats 4000000 in
set_option maxRecDepth 100000 in
theorem Cg_X9_0_foretold {X : XT} {cc : ByteArray} {nL : Nat} {rt : Option FieldType} {ka : Nat → ClassId} {lvl cells slots pc : Nat} {lv : List (Nat × Value)} {st : List Value} {ad : Nat → Nat} {F : FT} {R : RT} {J : JT} {P : PT} {B : BT} (C : Cx X cc nL RX9 rt ka lvl) (d : decode cc pc = .ok (.getfield 29, 3)) (kk : G X cells slots (wC ad ka F R J P B) (pc + 3) lv (.ref (ad 499) :: st)) : G X cells slots (wC ad ka F R J P B) pc lv (.ref (ad 99) :: st) := g_get C 0 wC_o0 (hc := rfl) inX9 3 (by decide) (index := 29) (ref := "SummerWall") (gw_of tw2_12 rfl) rfl rfl d kk
set_option maxHeartbeats 4000000 in
set_option maxRecDepth 100000 in
theorem Cg_X9_4_bestOdds {X : XT} {cc : ByteArray} {nL : Nat} {rt : Option FieldType} {ka : Nat → ClassId} {lvl cells slots pc : Nat} {lv : List (Nat × Value)} {st : List Value} {ad : Nat → Nat} {F : FT} {R : RT} {J : JT} {P : PT} {B : BT} (C : Cx X cc nL RX9 rt ka lvl) {v : Int32} (hv : F 415 = v) (d : decode cc pc = .ok (.getfield 203, 3)) (kk : G X cells slots (wC ad ka F R J P B) (pc + 3) lv (.int v :: st)) : G X cells slots (wC ad ka F R J P B) pc lv (.ref (ad 499) :: st) := by
  subst hv
  exact g_get C 4 wC_o4 (hc := rfl) inX1 15 (by decide) (index := 203) (ref := "SummerWall$Foretold") (gw_of tw1_190 rfl) rfl rfl d kk
set_option maxHeartbeats 4000000 in
set_option maxRecDepth 100000 in
theorem Cg_X9_4_bestDay {X : XT} {cc : ByteArray} {nL : Nat} {rt : Option FieldType} {ka : Nat → ClassId} {lvl cells slots pc : Nat} {lv : List (Nat × Value)} {st : List Value} {ad : Nat → Nat} {F : FT} {R : RT} {J : JT} {P : PT} {B : BT} (C : Cx X cc nL RX9 rt ka lvl) {v : Int32} (hv : F 414 = v) (d : decode cc pc = .ok (.getfield 200, 3)) (kk : G X cells slots (wC ad ka F R J P B) (pc + 3) lv (.int v :: st)) : G X cells slots (wC ad ka F R J P B) pc lv (.ref (ad 499) :: st) := by
  subst hv
  exact g_get C 4 wC_o4 (hc := rfl) inX1 14 (by decide) (index := 200) (ref := "SummerWall$Foretold") (gw_of tw1_188 rfl) rfl rfl d kk
set_option maxHeartbeats 4000000 in
set_option maxRecDepth 100000 in
theorem Cg_X9_0_kept {X : XT} {cc : ByteArray} {nL : Nat} {rt : Option FieldType} {ka : Nat → ClassId} {lvl cells slots pc : Nat} {lv : List (Nat × Value)} {st : List Value} {ad : Nat → Nat} {F : FT} {R : RT} {J : JT} {P : PT} {B : BT} (C : Cx X cc nL RX9 rt ka lvl) (d : decode cc pc = .ok (.getfield 16, 3)) (kk : G X cells slots (wC ad ka F R J P B) (pc + 3) lv (.ref (ad 299) :: st)) : G X cells slots (wC ad ka F R J P B) pc lv (.ref (ad 99) :: st) := g_get C 0 wC_o0 (hc := rfl) inX9 1 (by decide) (index := 16) (ref := "SummerWall") (gw_of tw2_10 rfl) rfl rfl d kk
set_option maxHeartbeats 4000000 in
set_option maxRecDepth 100000 in
theorem Cp_X9_0_imaged {X : XT} {cc : ByteArray} {nL : Nat} {rt : Option FieldType} {ka : Nat → ClassId} {lvl cells slots pc : Nat} {lv : List (Nat × Value)} {st : List Value} {ad : Nat → Nat} {F : FT} {R : RT} {J : JT} {P : PT} {B : BT} (C : Cx X cc nL RX9 rt ka lvl) {x : Int32} (hb : isB x) (d : decode cc pc = .ok (.putfield 219, 3)) (kk : G X cells slots (wC ad ka (upd F 5 x) R J P B) (pc + 3) lv st) : G X cells slots (wC ad ka F R J P B) pc lv (.int x :: .ref (ad 99) :: st) := g_put C 0 wC_o0 (hc := rfl) inX9 tyX9 tyX9_ok nmX9 5 (by decide) (index := 219) (ref := "SummerWall") (gw_of tw2_14 rfl) rfl rfl (nar_B hb) (fit_B hb) (Nat.le_of_ble_eq_true rfl) _ rfl d kk
set_option maxHeartbeats 4000000 in
set_option maxRecDepth 100000 in
theorem Cg_X9_0_imaged {X : XT} {cc : ByteArray} {nL : Nat} {rt : Option FieldType} {ka : Nat → ClassId} {lvl cells slots pc : Nat} {lv : List (Nat × Value)} {st : List Value} {ad : Nat → Nat} {F : FT} {R : RT} {J : JT} {P : PT} {B : BT} (C : Cx X cc nL RX9 rt ka lvl) {v : Int32} (hv : F 5 = v) (d : decode cc pc = .ok (.getfield 219, 3)) (kk : G X cells slots (wC ad ka F R J P B) (pc + 3) lv (.int v :: st)) : G X cells slots (wC ad ka F R J P B) pc lv (.ref (ad 99) :: st) := by
  subst hv
  exact g_get C 0 wC_o0 (hc := rfl) inX9 5 (by decide) (index := 219) (ref := "SummerWall") (gw_of tw2_14 rfl) rfl rfl d kk
set_option maxHeartbeats 4000000 in
set_option maxRecDepth 100000 in
theorem Sa_items {X : XT} {cc : ByteArray} {nL : Nat} {own : String} {rt : Option FieldType} {ka : Nat → ClassId} {lvl cells slots pc : Nat} {lv : List (Nat × Value)} {st : List Value} {ad : Nat → Nat} {F : FT} {R : RT} {J : JT} {P : PT} {B : BT} (C : Cx X cc nL own rt ka lvl) (jj : Nat) (hjj : jj < 4) {f : Nat → Int64} (hf : J (503 + 100 * jj) = f) {i : Int32} (j : Nat) (hj : i.toNatClampNeg = j) (hi : vp_in i 24) (d : decode cc pc = .ok (.laload, 1)) (kk : G X cells slots (wC ad ka F R J P B) (pc + 1) lv (.long (f j) :: st)) : G X cells slots (wC ad ka F R J P B) pc lv (.int i :: .ref (ad (503 + 100 * jj)) :: st) := by
  subst hf; subst hj
  exact g_lald C (31 + jj) (wC_i jj hjj) hi d kk
set_option maxHeartbeats 4000000 in
set_option maxRecDepth 100000 in
theorem Cg_X9_0_sheets {X : XT} {cc : ByteArray} {nL : Nat} {rt : Option FieldType} {ka : Nat → ClassId} {lvl cells slots pc : Nat} {lv : List (Nat × Value)} {st : List Value} {ad : Nat → Nat} {F : FT} {R : RT} {J : JT} {P : PT} {B : BT} (C : Cx X cc nL RX9 rt ka lvl) (d : decode cc pc = .ok (.getfield 35, 3)) (kk : G X cells slots (wC ad ka F R J P B) (pc + 3) lv (.ref (ad 4) :: st)) : G X cells slots (wC ad ka F R J P B) pc lv (.ref (ad 99) :: st) := g_get C 0 wC_o0 (hc := rfl) inX9 4 (by decide) (index := 35) (ref := "SummerWall") (gw_of tw2_13 rfl) rfl rfl d kk
set_option maxHeartbeats 4000000 in
set_option maxRecDepth 100000 in
theorem Sg_X9_items {X : XT} {cc : ByteArray} {nL : Nat} {rt : Option FieldType} {ka : Nat → ClassId} {lvl cells slots pc : Nat} {lv : List (Nat × Value)} {st : List Value} {ad : Nat → Nat} {F : FT} {R : RT} {J : JT} {P : PT} {B : BT} (C : Cx X cc nL RX9 rt ka lvl) (j : Nat) (hj : j < 4) (d : decode cc pc = .ok (.getfield 232, 3)) (kk : G X cells slots (wC ad ka F R J P B) (pc + 3) lv (.ref (ad (503 + 100 * j)) :: st)) : G X cells slots (wC ad ka F R J P B) pc lv (.ref (ad (599 + 100 * j)) :: st) := g_get C (5 + j) (wC_s j hj) (hc := rfl) inX6 3 (by decide) (index := 232) (ref := "SummerWall$Sheet") (gw_of tw1_238 rfl) rfl rfl d kk
set_option maxHeartbeats 4000000 in
set_option maxRecDepth 100000 in
theorem Sg_X9_held {X : XT} {cc : ByteArray} {nL : Nat} {rt : Option FieldType} {ka : Nat → ClassId} {lvl cells slots pc : Nat} {lv : List (Nat × Value)} {st : List Value} {ad : Nat → Nat} {F : FT} {R : RT} {J : JT} {P : PT} {B : BT} (C : Cx X cc nL RX9 rt ka lvl) (j : Nat) (hj : j < 4) {v : Int32} (hv : F (500 + 100 * j) = v) (d : decode cc pc = .ok (.getfield 251, 3)) (kk : G X cells slots (wC ad ka F R J P B) (pc + 3) lv (.int v :: st)) : G X cells slots (wC ad ka F R J P B) pc lv (.ref (ad (599 + 100 * j)) :: st) := by
  subst hv
  exact g_get C (5 + j) (wC_s j hj) (hc := rfl) inX6 0 (by decide) (index := 251) (ref := "SummerWall$Sheet") (gw_of tw1_232 rfl) rfl rfl d kk
set_option maxHeartbeats 4000000 in
set_option maxRecDepth 100000 in
theorem Sp_X9_held {X : XT} {cc : ByteArray} {nL : Nat} {rt : Option FieldType} {ka : Nat → ClassId} {lvl cells slots pc : Nat} {lv : List (Nat × Value)} {st : List Value} {ad : Nat → Nat} {F : FT} {R : RT} {J : JT} {P : PT} {B : BT} (C : Cx X cc nL RX9 rt ka lvl) (j : Nat) (hj : j < 4) {x : Int32} (hb : isB x) (d : decode cc pc = .ok (.putfield 251, 3)) (kk : G X cells slots (wC ad ka (upd F (500 + 100 * j) x) R J P B) (pc + 3) lv st) : G X cells slots (wC ad ka F R J P B) pc lv (.int x :: .ref (ad (599 + 100 * j)) :: st) := g_put C (5 + j) (wC_s j hj) (hc := rfl) inX6 tyX6 tyX6_ok nmX6 0 (by decide) (index := 251) (ref := "SummerWall$Sheet") (gw_of tw1_232 rfl) rfl rfl (nar_B hb) (fit_B hb) (Nat.le_of_ble_eq_true rfl) _ (wC_sp0 j hj x) d kk
set_option maxHeartbeats 4000000 in
set_option maxRecDepth 100000 in
theorem Sg_X9_size {X : XT} {cc : ByteArray} {nL : Nat} {rt : Option FieldType} {ka : Nat → ClassId} {lvl cells slots pc : Nat} {lv : List (Nat × Value)} {st : List Value} {ad : Nat → Nat} {F : FT} {R : RT} {J : JT} {P : PT} {B : BT} (C : Cx X cc nL RX9 rt ka lvl) (j : Nat) (hj : j < 4) {v : Int32} (hv : F (502 + 100 * j) = v) (d : decode cc pc = .ok (.getfield 254, 3)) (kk : G X cells slots (wC ad ka F R J P B) (pc + 3) lv (.int v :: st)) : G X cells slots (wC ad ka F R J P B) pc lv (.ref (ad (599 + 100 * j)) :: st) := by
  subst hv
  exact g_get C (5 + j) (wC_s j hj) (hc := rfl) inX6 2 (by decide) (index := 254) (ref := "SummerWall$Sheet") (gw_of tw1_236 rfl) rfl rfl d kk
set_option maxHeartbeats 4000000 in
set_option maxRecDepth 100000 in
theorem Sg_X9_lane {X : XT} {cc : ByteArray} {nL : Nat} {rt : Option FieldType} {ka : Nat → ClassId} {lvl cells slots pc : Nat} {lv : List (Nat × Value)} {st : List Value} {ad : Nat → Nat} {F : FT} {R : RT} {J : JT} {P : PT} {B : BT} (C : Cx X cc nL RX9 rt ka lvl) (j : Nat) (hj : j < 4) {v : Int32} (hv : F (501 + 100 * j) = v) (d : decode cc pc = .ok (.getfield 257, 3)) (kk : G X cells slots (wC ad ka F R J P B) (pc + 3) lv (.int v :: st)) : G X cells slots (wC ad ka F R J P B) pc lv (.ref (ad (599 + 100 * j)) :: st) := by
  subst hv
  exact g_get C (5 + j) (wC_s j hj) (hc := rfl) inX6 1 (by decide) (index := 257) (ref := "SummerWall$Sheet") (gw_of tw1_234 rfl) rfl rfl d kk
