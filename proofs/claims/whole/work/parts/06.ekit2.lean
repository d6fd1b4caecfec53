/-! ===== the engine, second part: small helps of the generator's rows ===== -/
theorem vp_lit {i : Int32} {n : Nat} (h : 0 ≤ i.toInt ∧ i.toInt < (n : Int)) : vp_in i n := vp_in_iff.mpr h
def isB (x : Int32) : Prop := x = 0 ∨ x = 1
theorem nar_B {x : Int32} (h : isB x) : narrow .boolean (.int x) = .int x := by rcases h with rfl | rfl <;> rfl
theorem fit_B {x : Int32} (h : isB x) : fits .boolean (.int x) = true := by rcases h with rfl | rfl <;> rfl
theorem isB_0 : isB 0 := Or.inl rfl
theorem isB_1 : isB 1 := Or.inr rfl
theorem swn {x v : Int32} (k : Int) (hv : v.toInt = k) (h : ¬ x = v) : ¬ x.toInt = k := fun e => h (Int32.toInt_inj.mp (e.trans hv.symm))
section EK2
variable {X : XT} {cc : ByteArray} {nL : Nat} {own : String} {rt : Option FieldType} {ka : Nat → ClassId} {lvl cells slots : Nat} {ws : va_W} {pc : Nat} {lv : List (Nat × Value)} {st st0 : List Value}
variable {y : MethodName} {b : ByteArray} {n lc np index : Nat} {r : Option FieldType} {As : List Value} {a : Nat} {q ci : Nat} {fs : List Value} {T : u_T} {N : Nat}
theorem g_topi {x : Int32} (k : ∀ z : Int32, z = x → G X cells slots ws pc lv (.int z :: st)) : G X cells slots ws pc lv (.int x :: st) := k x rfl
theorem g_callVi0 (C : Cx X cc nL own rt ka lvl) {post : Int32 → va_W → Prop} (hM : MI (xL X) (xD X) ka y b n r lc 0 0 (.ref a :: As) ws post) (mi : MInf y b n r np) (hlink : Cond.methodLink own index y ∈ gw) (hlc : lc < lvl) (he : ws[q]? = some (a, .inr (ci, fs))) (hc : vwCl[ci]? = some (y.cls, T, N)) (hn : As.length = np) (hst : st0 = As.reverse ++ .ref a :: st) (hsum : (st.map fun v => v.category).sum ≤ 8) (hcs : cells ≤ (xR X).cells ∧ slots ≤ (xR X).slots) (d : decode cc pc = .ok (.invokevirtual index, 3)) (k : ∀ (z : Int32) (w : va_W), post z w → G X cells slots w (pc + 3) lv (.int z :: st)) : G X cells slots ws pc lv st0 := g_callVi C hM mi hlink hlc he hc hn hst hsum hcs d k
theorem g_callVv0 (C : Cx X cc nL own rt ka lvl) {post : va_W → Prop} (hM : MV (xL X) (xD X) ka y b n r lc 0 0 (.ref a :: As) ws post) (mi : MInf y b n r np) (hlink : Cond.methodLink own index y ∈ gw) (hlc : lc < lvl) (he : ws[q]? = some (a, .inr (ci, fs))) (hc : vwCl[ci]? = some (y.cls, T, N)) (hn : As.length = np) (hst : st0 = As.reverse ++ .ref a :: st) (hsum : (st.map fun v => v.category).sum ≤ 8) (hcs : cells ≤ (xR X).cells ∧ slots ≤ (xR X).slots) (d : decode cc pc = .ok (.invokevirtual index, 3)) (k : ∀ (w : va_W), post w → G X cells slots w (pc + 3) lv st) : G X cells slots ws pc lv st0 := g_callVv C hM mi hlink hlc he hc hn hst hsum hcs d k
theorem g_callSi0 (C : Cx X cc nL own rt ka lvl) {post : Int32 → va_W → Prop} (hM : MI (xL X) (xD X) ka y b n r lc 0 0 As ws post) (mi : SInf y b n r np) (hlink : Cond.methodLink own index y ∈ gw) (hlc : lc < lvl) (hn : As.length = np) (hst : st0 = As.reverse ++ st) (hsum : (st.map fun v => v.category).sum ≤ 8) (hcs : cells ≤ (xR X).cells ∧ slots ≤ (xR X).slots) (d : decode cc pc = .ok (.invokestatic index, 3)) (k : ∀ (z : Int32) (w : va_W), post z w → G X cells slots w (pc + 3) lv (.int z :: st)) : G X cells slots ws pc lv st0 := g_callSi C hM mi hlink hlc hn hst hsum hcs d k
end EK2
theorem z00 {X : XT} : 0 ≤ (xR X).cells ∧ 0 ≤ (xR X).slots := ⟨Nat.zero_le _, Nat.zero_le _⟩
theorem cb_m20 : (Int8.ofInt (-20)).toInt32 = (-20 : Int32) := by decide
theorem cb_m14 : (Int8.ofInt (-14)).toInt32 = (-14 : Int32) := by decide
theorem cb_m13 : (Int8.ofInt (-13)).toInt32 = (-13 : Int32) := by decide
theorem cb_m12 : (Int8.ofInt (-12)).toInt32 = (-12 : Int32) := by decide
theorem cb_m11 : (Int8.ofInt (-11)).toInt32 = (-11 : Int32) := by decide
theorem cb_m4 : (Int8.ofInt (-4)).toInt32 = (-4 : Int32) := by decide
theorem cb_m3 : (Int8.ofInt (-3)).toInt32 = (-3 : Int32) := by decide
theorem cb_m2 : (Int8.ofInt (-2)).toInt32 = (-2 : Int32) := by decide
theorem cb_6 : (Int8.ofInt (6)).toInt32 = (6 : Int32) := by decide
theorem cb_7 : (Int8.ofInt (7)).toInt32 = (7 : Int32) := by decide
theorem cb_8 : (Int8.ofInt (8)).toInt32 = (8 : Int32) := by decide
theorem cb_9 : (Int8.ofInt (9)).toInt32 = (9 : Int32) := by decide
theorem cb_10 : (Int8.ofInt (10)).toInt32 = (10 : Int32) := by decide
theorem cb_11 : (Int8.ofInt (11)).toInt32 = (11 : Int32) := by decide
theorem cb_12 : (Int8.ofInt (12)).toInt32 = (12 : Int32) := by decide
theorem cb_13 : (Int8.ofInt (13)).toInt32 = (13 : Int32) := by decide
theorem cb_15 : (Int8.ofInt (15)).toInt32 = (15 : Int32) := by decide
theorem cb_16 : (Int8.ofInt (16)).toInt32 = (16 : Int32) := by decide
theorem cb_20 : (Int8.ofInt (20)).toInt32 = (20 : Int32) := by decide
theorem cb_21 : (Int8.ofInt (21)).toInt32 = (21 : Int32) := by decide
theorem cb_24 : (Int8.ofInt (24)).toInt32 = (24 : Int32) := by decide
theorem cb_25 : (Int8.ofInt (25)).toInt32 = (25 : Int32) := by decide
theorem cb_31 : (Int8.ofInt (31)).toInt32 = (31 : Int32) := by decide
theorem cb_32 : (Int8.ofInt (32)).toInt32 = (32 : Int32) := by decide
theorem cb_37 : (Int8.ofInt (37)).toInt32 = (37 : Int32) := by decide
theorem cb_40 : (Int8.ofInt (40)).toInt32 = (40 : Int32) := by decide
theorem cb_41 : (Int8.ofInt (41)).toInt32 = (41 : Int32) := by decide
theorem cb_42 : (Int8.ofInt (42)).toInt32 = (42 : Int32) := by decide
theorem cb_44 : (Int8.ofInt (44)).toInt32 = (44 : Int32) := by decide
theorem cb_48 : (Int8.ofInt (48)).toInt32 = (48 : Int32) := by decide
theorem cb_57 : (Int8.ofInt (57)).toInt32 = (57 : Int32) := by decide
theorem cb_59 : (Int8.ofInt (59)).toInt32 = (59 : Int32) := by decide
theorem cb_60 : (Int8.ofInt (60)).toInt32 = (60 : Int32) := by decide
theorem cb_63 : (Int8.ofInt (63)).toInt32 = (63 : Int32) := by decide
theorem cb_85 : (Int8.ofInt (85)).toInt32 = (85 : Int32) := by decide
theorem cb_96 : (Int8.ofInt (96)).toInt32 = (96 : Int32) := by decide
theorem cb_97 : (Int8.ofInt (97)).toInt32 = (97 : Int32) := by decide
theorem cb_98 : (Int8.ofInt (98)).toInt32 = (98 : Int32) := by decide
theorem cb_99 : (Int8.ofInt (99)).toInt32 = (99 : Int32) := by decide
theorem cb_100 : (Int8.ofInt (100)).toInt32 = (100 : Int32) := by decide
theorem cb_103 : (Int8.ofInt (103)).toInt32 = (103 : Int32) := by decide
theorem cb_104 : (Int8.ofInt (104)).toInt32 = (104 : Int32) := by decide
theorem cb_112 : (Int8.ofInt (112)).toInt32 = (112 : Int32) := by decide
theorem cb_119 : (Int8.ofInt (119)).toInt32 = (119 : Int32) := by decide
theorem cb_126 : (Int8.ofInt (126)).toInt32 = (126 : Int32) := by decide
theorem ci_m1 : Int32.ofInt (-1) = (-1 : Int32) := by decide
theorem ci_0 : Int32.ofInt (0) = (0 : Int32) := by decide
theorem ci_1 : Int32.ofInt (1) = (1 : Int32) := by decide
theorem ci_2 : Int32.ofInt (2) = (2 : Int32) := by decide
theorem ci_3 : Int32.ofInt (3) = (3 : Int32) := by decide
theorem ci_4 : Int32.ofInt (4) = (4 : Int32) := by decide
theorem ci_5 : Int32.ofInt (5) = (5 : Int32) := by decide
theorem cs_200 : (Int16.ofInt (200)).toInt32 = (200 : Int32) := by decide
theorem cs_201 : (Int16.ofInt (201)).toInt32 = (201 : Int32) := by decide
theorem cs_402 : (Int16.ofInt (402)).toInt32 = (402 : Int32) := by decide
theorem cs_603 : (Int16.ofInt (603)).toInt32 = (603 : Int32) := by decide
theorem cs_8241 : (Int16.ofInt (8241)).toInt32 = (8241 : Int32) := by decide
theorem tw2_83 : Cond.superclass RX2 "SummerWall$Horsed" ∈ lw_tbl := tm2 (List.mem_of_getElem? (i := 83) rfl)
theorem tw2_65 : Cond.superclass RX3 "SummerWall$Plain" ∈ lw_tbl := tm2 (List.mem_of_getElem? (i := 65) rfl)
/-! ===== the engine, third part: what the class needs beside ===== -/
theorem vp_lt {i : Int32} {n : Nat} (h : vp_in i n) : i.toNatClampNeg < n := Nat.not_le.mp fun q => h (Or.inr q)
theorem cpyW : nativeFrameWords "java/lang/System" "arraycopy" 5 + 11 ≤ 30 := by decide +kernel
section EK3
variable {X : XT} {cc : ByteArray} {nL : Nat} {own : String} {rt : Option FieldType} {ka : Nat → ClassId} {lvl cells slots : Nat} {ws : va_W} {pc : Nat} {lv : List (Nat × Value)} {st st0 : List Value}
variable {y : MethodName} {b : ByteArray} {n lc np index mc ms : Nat} {r : Option FieldType} {As : List Value} {a : Nat} {q ci : Nat} {fs : List Value} {T : u_T} {N : Nat}
theorem g_widen {k z : Nat} (h1 : cells ≤ k) (h2 : slots ≤ z) (kk : G X k z ws pc lv st) : G X cells slots ws pc lv st := fun H locs ls a b s h => W.widen h1 h2 (kk H locs ls a b s h)
theorem g_ifnull (C : Cx X cc nL own rt ka lvl) {x : Nat} {off : Int} (d : decode cc pc = .ok (.ifnull off, 3)) (k : G X cells slots ws (pc + 3) lv st) : G X cells slots ws pc lv (.ref x :: st) := fun H locs ls a b s h => lv_ifnull C.ex C.co d (k H locs ls a b s h)
theorem g_ifnonnull (C : Cx X cc nL own rt ka lvl) {x : Nat} {off : Int} (tgt : Nat) (d : decode cc pc = .ok (.ifnonnull off, 3)) (ht : (pc : Int) + off = (tgt : Int)) (k : G X cells slots ws tgt lv st) : G X cells slots ws pc lv (.ref x :: st) := fun H locs ls a b s h => lv_ifnonnull C.ex C.co d ht (k H locs ls a b s h)
theorem g_mmin (C : Cx X cc nL own rt ka lvl) {x y : Int32} (hlink : Cond.methodLink own index yJ9_min_7cf53 ∈ gw) (hlv : 0 < lvl) (hsum : (st.map fun v => v.category).sum ≤ 8) (hcs : cells ≤ (xR X).cells ∧ slots ≤ (xR X).slots) (d : decode cc pc = .ok (.invokestatic index, 3)) (k : G X cells slots ws (pc + 3) lv (.int (if y < x then y else x) :: st)) : G X cells slots ws pc lv (.int y :: .int x :: st) := fun H locs ls a b s h =>
  va_mmin (rest := st) C.ex C.co h.1.symm C.ow (C.ts _ hlink) (C.ts _ (gw_of tw3_70 rfl)) (C.ts _ (gw_of tw1_13 rfl)) (C.ts _ (gw_of tw3_71 rfl)) (Nat.le_trans hlv C.rf) (by have := C.rl; omega) hcs.1 hcs.2 d (k H locs ls a b s h)
theorem g_copyi (C : Cx X cc nL own rt ka lvl) (q0 q1 : Nat) {a0 a1 n0 n1 : Nat} {f g : Nat → Int32} (ha0 : ws[q0]? = some (a0, .inl (ka 0, n0, .inl f))) (ha1 : ws[q1]? = some (a1, .inl (ka 0, n1, .inl g))) {sp dp n : Int32} (h1 : ¬ sp < 0) (h2 : ¬ dp < 0) (h3 : ¬ n < 0) (h4 : sp.toNatClampNeg + n.toNatClampNeg ≤ n0) (h5 : dp.toNatClampNeg + n.toNatClampNeg ≤ n1) (hlink : Cond.methodLink own index arraycopyName ∈ gw) (hlv : 0 < lvl) (hsum : (st.map fun v => v.category).sum ≤ 8) (ws' : va_W) (hw : ws.set q1 (a1, .inl (ka 0, n1, .inl (va_cpy f g sp.toNatClampNeg dp.toNatClampNeg n.toNatClampNeg))) = ws') (d : decode cc pc = .ok (.invokestatic index, 3)) (kk : G X cells slots ws' (pc + 3) lv st) : G X cells slots ws pc lv (.int n :: .int dp :: .ref a1 :: .int sp :: .ref a0 :: st) := fun H locs ls a b s h =>
  va_copyi (rest := st) C.ex C.co h.1.symm C.ow (C.ts _ hlink) (C.ts _ (gw_of tw3_54 rfl)) (C.ts _ (gw_of tw3_53 rfl)) (C.ts _ (gw_of tw1_12 rfl)) C.ks a b s q0 q1 0 0 ha0 ha1 rfl rfl rfl h1 h2 h3 h4 h5 (fun _ _ => rfl) (Nat.le_trans hlv C.rf) (by have := C.rl; have := cpyW; omega) d (fun H1 locs1 hP hD hS => kk H1 locs1 ls (by rw [← hw]; exact hP) (by rw [← hw]; exact hD) hS h)
theorem g_copyl (C : Cx X cc nL own rt ka lvl) (q0 q1 : Nat) {a0 a1 n0 n1 : Nat} {f g : Nat → Int64} (ha0 : ws[q0]? = some (a0, .inl (ka 1, n0, .inr (.inl f)))) (ha1 : ws[q1]? = some (a1, .inl (ka 1, n1, .inr (.inl g)))) {sp dp n : Int32} (h1 : ¬ sp < 0) (h2 : ¬ dp < 0) (h3 : ¬ n < 0) (h4 : sp.toNatClampNeg + n.toNatClampNeg ≤ n0) (h5 : dp.toNatClampNeg + n.toNatClampNeg ≤ n1) (hlink : Cond.methodLink own index arraycopyName ∈ gw) (hlv : 0 < lvl) (hsum : (st.map fun v => v.category).sum ≤ 8) (ws' : va_W) (hw : ws.set q1 (a1, .inl (ka 1, n1, .inr (.inl (va_cpy f g sp.toNatClampNeg dp.toNatClampNeg n.toNatClampNeg)))) = ws') (d : decode cc pc = .ok (.invokestatic index, 3)) (kk : G X cells slots ws' (pc + 3) lv st) : G X cells slots ws pc lv (.int n :: .int dp :: .ref a1 :: .int sp :: .ref a0 :: st) := fun H locs ls a b s h =>
  va_copyl (rest := st) C.ex C.co h.1.symm C.ow (C.ts _ hlink) (C.ts _ (gw_of tw3_54 rfl)) (C.ts _ (gw_of tw3_53 rfl)) (C.ts _ (gw_of tw1_12 rfl)) C.ks a b s q0 q1 1 1 ha0 ha1 rfl rfl rfl h1 h2 h3 h4 h5 (fun _ _ => rfl) (Nat.le_trans hlv C.rf) (by have := C.rl; have := cpyW; omega) d (fun H1 locs1 hP hD hS => kk H1 locs1 ls (by rw [← hw]; exact hP) (by rw [← hw]; exact hD) hS h)
/-- a static method of a nest mate -/
theorem g_callSNi0 (C : Cx X cc nL own rt ka lvl) {post : Int32 → va_W → Prop} {host : String} (hM : MI (xL X) (xD X) ka y b n r lc 0 0 As ws post) (mi : SInf y b n r np) (hlink : va_Nw (.methodLinkNest own index y host) (xS X)) (hlc : lc < lvl) (hn : As.length = np) (hst : st0 = As.reverse ++ st) (hsum : (st.map fun v => v.category).sum ≤ 8) (hcs : cells ≤ (xR X).cells ∧ slots ≤ (xR X).slots) (d : decode cc pc = .ok (.invokestatic index, 3)) (k : ∀ (z : Int32) (w : va_W), post z w → G X cells slots w (pc + 3) lv (.int z :: st)) : G X cells slots ws pc lv st0 := by
  intro H locs ls hP hD hS hl
  subst hst
  have hF := va_freeA hD hS C.fr
  refine va_calli (va_runSN (As := As) (rest := st) (Ts := gw) ⟨C.ex, C.co, rfl, C.ow, C.ts⟩ (hM H.size) ⟨va_cnB (Ts := gw) np C.ts (wg_good mi.2.2.1) rfl rfl rfl hlink (C.ts _ mi.2.1) mi.2.2.2.1 ⟨Nat.le_trans hlc C.rf, by have := C.rl; have := mi.2.2.2.2; show 8 + (n + 11) + 40 * lc ≤ (xR X).locals; omega⟩, C.ts _ mi.1, trivial⟩ ⟨PreW.blind, pre_ws C hP hD⟩ rfl hn hl.1 rfl (by show 2 * 0 + _ ≤ 8; omega) d hcs) hS (fun q _ h => hF q h) hF (fun z w t H1 locs1 ht hvm hw hB hz1 hk1 hS1 => ?_)
  obtain ⟨hP1, -, hD1⟩ := hB
  rw [ht] at hP1
  exact k z w hw H1 locs1 ls hP1 (hD1.weaken (fun _ q _ h => hF q.1 h)) hS1 hl
theorem g_callVl0 (C : Cx X cc nL own rt ka lvl) {post : Int64 → va_W → Prop} (hM : ML (xL X) (xD X) ka y b n r lc 0 0 (.ref a :: As) ws post) (mi : MInf y b n r np) (hlink : Cond.methodLink own index y ∈ gw) (hlc : lc < lvl) (he : ws[q]? = some (a, .inr (ci, fs))) (hc : vwCl[ci]? = some (y.cls, T, N)) (hn : As.length = np) (hst : st0 = As.reverse ++ .ref a :: st) (hsum : (st.map fun v => v.category).sum ≤ 8) (hcs : cells ≤ (xR X).cells ∧ slots ≤ (xR X).slots) (d : decode cc pc = .ok (.invokevirtual index, 3)) (k : ∀ (z : Int64) (w : va_W), post z w → G X cells slots w (pc + 3) lv (.long z :: st)) : G X cells slots ws pc lv st0 := by
  intro H locs ls hP hD hS hl
  subst hst
  have hF := va_freeA hD hS C.fr
  refine va_calll (va_runV (As := As) (rest := st) (Ts := gw) ⟨C.ex, C.co, rfl, C.ow, C.ts⟩ (hM H.size) ⟨callB_gw C hlink mi.2.2.1 mi.2.2.2.1 mi.2.2.2.2.1 mi.2.2.2.2.2 hlc, C.ts _ mi.1, C.ts _ mi.2.1⟩ ⟨PreW.blind, va_recv C.ks hP hc he, pre_ws C hP hD⟩ rfl hn hl.1 rfl (by show 2 * 0 + _ ≤ 8; omega) d hcs) hS (fun q _ h => hF q h) hF (fun z w t H1 locs1 ht hvm hw hB hz1 hk1 hS1 => ?_)
  obtain ⟨hP1, -, hD1⟩ := hB
  rw [ht] at hP1
  exact k z w hw H1 locs1 ls hP1 (hD1.weaken (fun _ q _ h => hF q.1 h)) hS1 hl
/-- a virtual call on a receiver of the class Cn (its number ci): x is named, y is chosen -/
theorem g_callU (C : Cx X cc nL own rt ka lvl) {post : Int32 → va_W → Prop} {x : MethodName} {Cn owner : String} (hM : MI (xL X) (xD X) ka y b n r lc 0 0 (.ref a :: As) ws post) (hlink : Cond.methodLink own index x ∈ gw) (hsame : Cond.sameMethod x.cls owner x.name x.desc ∈ gw) {b0 : ByteArray} {m0 : Nat} {r0 : Option FieldType} (hx0 : Cond.code ⟨owner, x.name, x.desc⟩ b0 m0 r0 ∈ gw) (hx1 : Cond.instanceMethod ⟨owner, x.name, x.desc⟩ ∈ gw) (hsel : Cond.selects Cn x y ∈ gw) (hinst : Cond.instanceMethod y ∈ gw) (hini : Cond.initialized y.cls ∈ gw) (hcode : Cond.code y b n r ∈ gw) (hd : owner ≠ "java/lang/invoke/MethodHandle" ∧ owner ≠ "java/lang/invoke/VarHandle" ∧ (parseMethodDescriptor x.desc).map (fun d => d.parameters.length) = some np) (hn20 : n ≤ 20) (hlc : lc < lvl) (he : ws[q]? = some (a, .inr (ci, fs))) (hc : vwCl[ci]? = some (Cn, T, N)) (hn : As.length = np) (hst : st0 = As.reverse ++ .ref a :: st) (hsum : (st.map fun v => v.category).sum ≤ 8) (hcs : cells ≤ (xR X).cells ∧ slots ≤ (xR X).slots) (d : decode cc pc = .ok (.invokevirtual index, 3)) (k : ∀ (z : Int32) (w : va_W), post z w → G X cells slots w (pc + 3) lv (.int z :: st)) : G X cells slots ws pc lv st0 := by
  intro H locs ls hP hD hS hl
  subst hst
  have hF := va_freeA hD hS C.fr
  have cw : va_CU (xR X) (xS X) (xA X) own Cn owner index x y b n r (wg y b n r) (rmv lc 0 0) 0 0 np := by
    refine ⟨⟨rfl, rfl, Nat.le_trans hlc C.rf, by have := C.rl; show 8 + (n + 11) + 40 * lc ≤ (xR X).locals; omega, pay_in C.ts (wg_good hcode), List.mem_cons_self⟩, C.ts _ hcode, C.ts _ hini, ⟨hd.1, hd.2.1⟩, fun sig h => ?_, C.ts _ hlink, C.ts _ hsame, va_Decl.of (C.ts _ hx1) (C.ts _ hx0), C.ts _ hsel, C.ts _ hinst⟩
    have h2 := hd.2.2
    rw [h] at h2
    exact (Option.some.inj h2).symm
  refine va_calli (va_runU (As := As) (rest := st) (Ts := gw) ⟨C.ex, C.co, rfl, C.ow, C.ts⟩ (hM H.size) cw ⟨PreW.blind, va_recv C.ks hP hc he, pre_ws C hP hD⟩ rfl hn hl.1 rfl (by show 2 * 0 + _ ≤ 8; omega) d hcs) hS (fun q _ h => hF q h) hF (fun z w t H1 locs1 ht hvm hw hB hz1 hk1 hS1 => ?_)
  obtain ⟨hP1, -, hD1⟩ := hB
  rw [ht] at hP1
  exact k z w hw H1 locs1 ls hP1 (hD1.weaken (fun _ q _ h => hF q.1 h)) hS1 hl
/-- super.m(..) -/
theorem g_callSU (C : Cx X cc nL own rt ka lvl) {post : Int32 → va_W → Prop} {Cn : String} (hM : MI (xL X) (xD X) ka y b n r lc 0 0 (.ref a :: As) ws post) (hlink : Cond.methodLink own index y ∈ gw) (hsame : Cond.sameMethod y.cls y.cls y.name y.desc ∈ gw) (hsup : Cond.superclass own y.cls ∈ gw) (hinst : Cond.instanceMethod y ∈ gw) (hini : Cond.initialized y.cls ∈ gw) (hcode : Cond.code y b n r ∈ gw) (hd : y.name ≠ "<init>" ∧ (parseMethodDescriptor y.desc).map (fun d => d.parameters.length) = some np) (hn20 : n ≤ 20) (hlc : lc < lvl) (he : ws[q]? = some (a, .inr (ci, fs))) (hc : vwCl[ci]? = some (Cn, T, N)) (hn : As.length = np) (hst : st0 = As.reverse ++ .ref a :: st) (hsum : (st.map fun v => v.category).sum ≤ 8) (hcs : cells ≤ (xR X).cells ∧ slots ≤ (xR X).slots) (d : decode cc pc = .ok (.invokespecial index, 3)) (k : ∀ (z : Int32) (w : va_W), post z w → G X cells slots w (pc + 3) lv (.int z :: st)) : G X cells slots ws pc lv st0 := by
  intro H locs ls hP hD hS hl
  subst hst
  have hF := va_freeA hD hS C.fr
  have cw : va_CS (xR X) (xS X) (xA X) own index y b n r (wg y b n r) (rmv lc 0 0) 0 0 np := by
    refine ⟨⟨rfl, rfl, Nat.le_trans hlc C.rf, by have := C.rl; show 8 + (n + 11) + 40 * lc ≤ (xR X).locals; omega, pay_in C.ts (wg_good hcode), List.mem_cons_self⟩, C.ts _ hlink, C.ts _ hsame, C.ts _ hsup, C.ts _ hinst, C.ts _ hini, C.ts _ hcode, hd.1, fun sig h => ?_⟩
    have h2 := hd.2
    rw [h] at h2
    exact (Option.some.inj h2).symm
  refine va_calli (va_runSU (As := As) (rest := st) (Ts := gw) (C.ks.1 ci _ hc).2 ⟨C.ex, C.co, rfl, C.ow, C.ts⟩ (hM H.size) cw ⟨PreW.blind, va_recv C.ks hP hc he, pre_ws C hP hD⟩ rfl hn hl.1 rfl (by show 2 * 0 + _ ≤ 8; omega) d hcs) hS (fun q _ h => hF q h) hF (fun z w t H1 locs1 ht hvm hw hB hz1 hk1 hS1 => ?_)
  obtain ⟨hP1, -, hD1⟩ := hB
  rw [ht] at hP1
  exact k z w hw H1 locs1 ls hP1 (hD1.weaken (fun _ q _ h => hF q.1 h)) hS1 hl
/-- an inherited field, named by a subclass -/
theorem g_getU (C : Cx X cc nL own rt ka lvl) {ref Cn : String} {T : u_T} {N ci index : Nat} {a : Nat} (q0 : Nat) {fs : List Value} (he : ws[q0]? = some (a, .inr (ci, fs))) (hc : vwCl[ci]? = some (Cn, T, N)) (hin : ∀ w ∈ u_ws Cn T N, w ∈ gw) (k : Nat) (hk : k < N) (hlink : Cond.fieldLink own index ref (T k).2.1 (T k).2.2.1 ∈ gw) (hsame : Cond.sameField ref (T k).1 (T k).2.1 (T k).2.2.1 ∈ gw) {v : Value} (hv : fs[k]? = some v) (d : decode cc pc = .ok (.getfield index, 3)) (kk : G X cells slots ws (pc + 3) lv (v :: st)) : G X cells slots ws pc lv (.ref a :: st) := fun H locs ls a' b s h => va_get C.ex C.co C.ts hin C.ow C.ks a' q0 he hc k hk (C.ts _ hlink) (fun x hx => u_same (C.ts _ hsame) x hx) hv d (kk H locs ls a' b s h)
end EK3
section EM3
variable {l : Launch} {D : va_G} {ka : Nat → ClassId} {y : MethodName} {b : ByteArray} {n : Nat} {lvl mc ms : Nat} {as : List Value} {ws : va_W}
theorem ML_of {post : Int64 → va_W → Prop} (hy : plainName y.cls = true) (hla : (lg_sl as).length ≤ n) (body : ∀ X : XT, Cx X b n y.cls (some .long) ka lvl → (xR X).cells = mc ∧ (xR X).slots = ms → RetL X b mc ms post → G X 0 0 ws 0 (lv_args 0 as) []) : ML l D ka y b n (some .long) lvl mc ms as ws post := by
  intro sz
  refine Met.ofW (cc := b) (maxL := n) (ret := some .long) hy rfl ?_
  intro p e s m args below meth c s₁ B hml hv
  obtain ⟨rfl, hsz, hP, hK, hD0, hE⟩ := hv
  subst hsz
  have hts := atoms_spec (ws := wg y b n (some .long)) B.pre
  have hown : s.vm.findClass y.cls = some m.cls := findClass_of_methodNamed B.named
  have hl := lv_entry as (n := n) hla
  rw [lg_entry_eq]
  have CX : Cx (p, l, e, rmv lvl mc ms, s, m, as.toArray, below, meth, c, D, va_A ws s.heap.size, MQ below (va_Ql post (PosW D ka ws s.heap.size) (va_A ws s.heap.size)) as.toArray s mc ms (va_A ws s.heap.size)) b n y.cls (some .long) ka lvl :=
    ⟨B.exec, B.bytes, hml, hown, fun w hw => hts w (List.mem_cons_of_mem _ hw), hK, fun q h => Or.inr h, B.returns, B.notSynchronized, Nat.le_refl _, Nat.le_refl _, hE⟩
  refine body (p, l, e, rmv lvl mc ms, s, m, as.toArray, below, meth, c, D, va_A ws s.heap.size, MQ below (va_Ql post (PosW D ka ws s.heap.size) (va_A ws s.heap.size)) as.toArray s mc ms (va_A ws s.heap.size)) CX ⟨rfl, rfl⟩ ?_ s.heap [] _ hP hD0.self va_S.rf (by rw [show ((xC (p, l, e, rmv lvl mc ms, s, m, as.toArray, below, meth, c, D, va_A ws s.heap.size, MQ below (va_Ql post (PosW D ka ws s.heap.size) (va_A ws s.heap.size)) as.toArray s mc ms (va_A ws s.heap.size))).maxLocals) = n from hml]; exact hl)
  intro z w pc lv hz hd H locs ls hP1 hD1 hS1 _
  exact W.lret B.exec B.bytes B.returns (fun t ht hW => ⟨⟨z, w, rfl, hz, by rw [ht]; exact hP1, va_K.moved hW.alike hK, hD1⟩, va_S.F hS1 ht⟩) hS1.2.2 hd B.notSynchronized
end EM3
/-! ===== the engine, fourth part: things that are made ===== -/
theorem ra_inj {U : State} {a b : ClassId} {ty : FieldType} (h : va_RA U a ty) (h2 : va_RA U b ty) (hp : ty = .int ∨ ty = .long ∨ ty = .char) : a = b := by
  rcases hp with rfl | rfl | rfl <;> exact Option.some.inj (h.symm.trans h2)
section EK4
variable {X : XT} {cc : ByteArray} {nL : Nat} {own : String} {rt : Option FieldType} {ka : Nat → ClassId} {lvl cells slots : Nat} {ws : va_W} {pc : Nat} {lv : List (Nat × Value)} {st st0 : List Value}
variable {y : MethodName} {b : ByteArray} {n lc np index mc ms : Nat} {r : Option FieldType} {As : List Value} {a : Nat} {q ci : Nat} {fs : List Value} {T : u_T} {N : Nat}
theorem g_newI (C : Cx X cc nL own rt ka lvl) {n : Int32} (N : Nat) (hn : ¬ n < 0) (hN : n.toNatClampNeg = N) (hb : N ≤ 100000) (hcs : cells + 1 ≤ (xR X).cells ∧ slots + N ≤ (xR X).slots) (d : decode cc pc = .ok (.newarray .int, 2)) (k : ∀ q : Nat, G X (cells + 1) (slots + N) (ws ++ [(q, .inl (ka 0, N, .inl (fun _ => 0)))]) (pc + 2) lv (.ref q :: st)) : G X cells slots ws pc lv (.int n :: st) := by
  intro H locs ls hP hD hS hl
  refine va_newa (atype := .int) (ty := .int) (a0 := (N, .inl (fun _ => 0))) C.ex C.co (C.ts _ (gw_of tw1_108 rfl)) rfl C.ks hP hD hS C.fr (fun _ => rfl) hn hN (by show N * 4 ≤ 536870912; omega) hcs.1 hcs.2 d (fun q cA H1 hK1 hP1 hD1 hS1 => ?_)
  have e : cA = ka 0 := ra_inj (hK1.2 5 (cA, .int) rfl).2 (C.ks.2 0 _ rfl).2 (Or.inl rfl)
  subst e
  exact k q H1 locs ls hP1 hD1 hS1 hl
theorem g_newC (C : Cx X cc nL own rt ka lvl) {n : Int32} (N : Nat) (hn : ¬ n < 0) (hN : n.toNatClampNeg = N) (hb : N ≤ 100000) (hcs : cells + 1 ≤ (xR X).cells ∧ slots + N ≤ (xR X).slots) (d : decode cc pc = .ok (.newarray .char, 2)) (k : ∀ q : Nat, G X (cells + 1) (slots + N) (ws ++ [(q, .inl (ka 2, N, .inl (fun _ => 0)))]) (pc + 2) lv (.ref q :: st)) : G X cells slots ws pc lv (.int n :: st) := by
  intro H locs ls hP hD hS hl
  refine va_newa (atype := .char) (ty := .char) (a0 := (N, .inl (fun _ => 0))) C.ex C.co (C.ts _ (gw_of tw1_166 rfl)) rfl C.ks hP hD hS C.fr (fun _ => rfl) hn hN (by show N * 2 ≤ 536870912; omega) hcs.1 hcs.2 d (fun q cA H1 hK1 hP1 hD1 hS1 => ?_)
  have e : cA = ka 2 := ra_inj (hK1.2 5 (cA, .char) rfl).2 (C.ks.2 2 _ rfl).2 (Or.inr (Or.inr rfl))
  subst e
  exact k q H1 locs ls hP1 hD1 hS1 hl
theorem g_newJ (C : Cx X cc nL own rt ka lvl) {n : Int32} (N : Nat) (hn : ¬ n < 0) (hN : n.toNatClampNeg = N) (hb : N ≤ 100000) (hcs : cells + 1 ≤ (xR X).cells ∧ slots + N ≤ (xR X).slots) (d : decode cc pc = .ok (.newarray .long, 2)) (k : ∀ q : Nat, G X (cells + 1) (slots + N) (ws ++ [(q, .inl (ka 1, N, .inr (.inl (fun _ => 0))))]) (pc + 2) lv (.ref q :: st)) : G X cells slots ws pc lv (.int n :: st) := by
  intro H locs ls hP hD hS hl
  refine va_newa (atype := .long) (ty := .long) (a0 := (N, .inr (.inl (fun _ => 0)))) C.ex C.co (C.ts _ (gw_of tw2_8 rfl)) rfl C.ks hP hD hS C.fr (fun _ => rfl) hn hN (by show N * 8 ≤ 536870912; omega) hcs.1 hcs.2 d (fun q cA H1 hK1 hP1 hD1 hS1 => ?_)
  have e : cA = ka 1 := ra_inj (hK1.2 5 (cA, .long) rfl).2 (C.ks.2 1 _ rfl).2 (Or.inr (Or.inl rfl))
  subst e
  exact k q H1 locs ls hP1 hD1 hS1 hl
theorem g_new (C : Cx X cc nL own rt ka lvl) {Cn : String} (ci : Nat) (hc : vwCl[ci]? = some (Cn, T, N)) (hin : ∀ w ∈ u_ws Cn T N, w ∈ gw) (ty : Nat → FieldType) (hty : ∀ k, k < N → parseFieldDescriptor (T k).2.2.1 = some (ty k)) (hcl : Cond.classLink own index Cn ∈ gw) (hinst : Cond.instantiable Cn N ∈ gw) (hini : Cond.initialized Cn ∈ gw) (fs : List Value) (hfs : ∀ j, j < N → defaultValue (ty j) = vp_V fs j) (hcs : cells + 1 ≤ (xR X).cells ∧ slots + N ≤ (xR X).slots) (d : decode cc pc = .ok (.new index, 3)) (k : ∀ q : Nat, G X (cells + 1) (slots + N) (ws ++ [(q, .inr (ci, fs))]) (pc + 3) lv (.ref q :: st)) : G X cells slots ws pc lv st := fun H locs ls hP hD hS hl =>
  va_new C.ex C.co C.ts hin ty hty C.ow (C.ts _ hcl) (C.ts _ hinst) (C.ts _ hini) C.ks hP hD hS C.fr hc hfs hcs.1 hcs.2 d (fun q H1 hP1 hD1 hS1 => k q H1 locs ls hP1 hD1 hS1 hl)
theorem g_objInit (C : Cx X cc nL own rt ka lvl) (hlink : Cond.methodLink own index objectInit ∈ gw) (hlv : 0 < lvl) (hsum : (st.map fun v => v.category).sum ≤ 8) (d : decode cc pc = .ok (.invokespecial index, 3)) (k : G X cells slots ws (pc + 3) lv st) : G X cells slots ws pc lv (.ref a :: st) := fun H locs ls hP hD hS hl =>
  W.objInit C.ex C.co C.ow (C.ts _ hlink) (C.ts _ (gw_of tw1_21 rfl)) (C.ts _ (gw_of tw1_22 rfl)) (g := F0 (xM X) pc ls (.ref a :: st)) rfl hl.1 rfl d (Nat.le_trans hlv C.rf) (by have := C.rl; show 2 * 0 + _ + 12 ≤ _; omega) (k H locs ls hP hD hS hl)
theorem g_putF (C : Cx X cc nL own rt ka lvl) {ref Cn : String} {T : u_T} {N ci index : Nat} {a : Nat} (q0 : Nat) {fs : List Value} (he : ws[q0]? = some (a, .inr (ci, fs))) (hc : vwCl[ci]? = some (Cn, T, N)) (hin : ∀ w ∈ u_ws Cn T N, w ∈ gw) (ty0 : Nat → FieldType) (hty : ∀ k, k < N → parseFieldDescriptor (T k).2.2.1 = some (ty0 k)) (hnm : ∀ a, a < N → ∀ b, b < N → a ≠ b → (T a).2.1 ≠ (T b).2.1) (k : Nat) (hk : k < N) (hlink : Cond.fieldLink own index ref (T k).2.1 (T k).2.2.1 ∈ gw) (hsame : (T k).1 = ref) (hfin : (T k).2.2.2 = true) (hini : (xMe X).name = "<init>") (hdecl : (T k).1 = own) {v : Value} (hn : narrow (ty0 k) v = v) (hfit : fits (ty0 k) v = true) (hl : k < fs.length) (ws' : va_W) (hw : ws.set q0 (a, .inr (ci, fs.set k v)) = ws') (d : decode cc pc = .ok (.putfield index, 3)) (kk : G X cells slots ws' (pc + 3) lv st) : G X cells slots ws pc lv (v :: .ref a :: st) := fun H locs ls a' b s h => va_putF C.ex C.co C.ts hin ty0 hty hnm C.ow C.ks a' b s q0 he hc k hk (C.ts _ hlink) (fun x hx => by rw [← hsame]; exact hx) hfin hini hdecl (hty k hk) hn hfit hl d (fun H1 locs1 hP hD hS => kk H1 locs1 ls (by rw [← hw]; exact hP) (by rw [← hw]; exact hD) hS h)
/-- a constructor is called -/
theorem g_callI (C : Cx X cc nL own rt ka lvl) {post : va_W → Prop} (hM : MV (xL X) (xD X) ka y b n none lc mc ms (.ref a :: As) ws post) (hnm : y.name = "<init>") (hinst : Cond.instanceMethod y ∈ gw) (hini : Cond.initialized y.cls ∈ gw) (hcode : Cond.code y b n none ∈ gw) (hd : y.cls ≠ "java/lang/invoke/MethodHandle" ∧ y.cls ≠ "java/lang/invoke/VarHandle" ∧ (parseMethodDescriptor y.desc).map (fun d => d.parameters.length) = some np) (hn20 : n ≤ 20) (hlink : Cond.methodLink own index y ∈ gw) (hlc : lc < lvl) (hn : As.length = np) (hst : st0 = As.reverse ++ .ref a :: st) (hsum : (st.map fun v => v.category).sum ≤ 8) (hcs : cells + mc ≤ (xR X).cells ∧ slots + ms ≤ (xR X).slots) (d : decode cc pc = .ok (.invokespecial index, 3)) (k : ∀ (w : va_W), post w → G X (cells + mc) (slots + ms) w (pc + 3) lv st) : G X cells slots ws pc lv st0 := by
  intro H locs ls hP hD hS hl
  subst hst
  have hF := va_freeA hD hS C.fr
  refine va_callv (va_runI (As := As) (rest := st) (Ts := gw) ⟨C.ex, C.co, rfl, C.ow, C.ts⟩ (hM H.size) ⟨callB_gw C hlink hini hcode hd hn20 hlc, hnm, C.ts _ hinst⟩ ⟨PreW.blind, pre_ws C hP hD⟩ rfl hn hl.1 rfl (by show 2 * 0 + _ ≤ 8; omega) d hcs) hS (fun q _ h => hF q h) hF (fun w t H1 locs1 ht hvm hw hB hz1 hk1 hS1 => ?_)
  obtain ⟨hP1, -, hD1⟩ := hB
  rw [ht] at hP1
  exact k w hw H1 locs1 ls hP1 (hD1.weaken (fun _ q _ h => hF q.1 h)) hS1 hl
end EK4
section EM4
variable {l : Launch} {D : va_G} {ka : Nat → ClassId} {y : MethodName} {b : ByteArray} {n : Nat} {lvl mc ms : Nat} {as : List Value} {ws : va_W}
/-- a constructor's contract: its body may write final fields -/
theorem MVn_of {post : va_W → Prop} (hy : plainName y.cls = true) (hla : (lg_sl as).length ≤ n) (body : ∀ X : XT, Cx X b n y.cls none ka lvl → (xMe X).name = y.name → (xR X).cells = mc ∧ (xR X).slots = ms → RetV X b mc ms post → G X 0 0 ws 0 (lv_args 0 as) []) : MV l D ka y b n none lvl mc ms as ws post := by
  intro sz
  refine Met.ofW (cc := b) (maxL := n) (ret := none) hy rfl ?_
  intro p e s m args below meth c s₁ B hml hv
  obtain ⟨rfl, hsz, hP, hK, hD0, hE⟩ := hv
  subst hsz
  have hts := atoms_spec (ws := wg y b n none) B.pre
  have hown : s.vm.findClass y.cls = some m.cls := findClass_of_methodNamed B.named
  have hl := lv_entry as (n := n) hla
  rw [lg_entry_eq]
  have CX : Cx (p, l, e, rmv lvl mc ms, s, m, as.toArray, below, meth, c, D, va_A ws s.heap.size, MQ below (va_Qv post (PosW D ka ws s.heap.size) (va_A ws s.heap.size)) as.toArray s mc ms (va_A ws s.heap.size)) b n y.cls none ka lvl :=
    ⟨B.exec, B.bytes, hml, hown, fun w hw => hts w (List.mem_cons_of_mem _ hw), hK, fun q h => Or.inr h, B.returns, B.notSynchronized, Nat.le_refl _, Nat.le_refl _, hE⟩
  refine body (p, l, e, rmv lvl mc ms, s, m, as.toArray, below, meth, c, D, va_A ws s.heap.size, MQ below (va_Qv post (PosW D ka ws s.heap.size) (va_A ws s.heap.size)) as.toArray s mc ms (va_A ws s.heap.size)) CX (name_of_methodNamed B.named B.method).1 ⟨rfl, rfl⟩ ?_ s.heap [] _ hP hD0.self va_S.rf (by rw [show ((xC (p, l, e, rmv lvl mc ms, s, m, as.toArray, below, meth, c, D, va_A ws s.heap.size, MQ below (va_Qv post (PosW D ka ws s.heap.size) (va_A ws s.heap.size)) as.toArray s mc ms (va_A ws s.heap.size))).maxLocals) = n from hml]; exact hl)
  intro w pc lv hz hd H locs ls hP1 hD1 hS1 _
  exact W.vret B.exec B.bytes B.returns (fun t ht hW => ⟨⟨w, rfl, hz, by rw [ht]; exact hP1, va_K.moved hW.alike hK, hD1⟩, va_S.F hS1 ht⟩) hS1.2.2 hd B.notSynchronized
end EM4
/-- a method whose answer is a cell: the answer u.1, the world u.2 -/
def MR (l : Launch) (D : va_G) (ka : Nat → ClassId) (y : MethodName) (b : ByteArray) (n : Nat) (rt : Option FieldType) (lvl mc ms : Nat) (as : List Value) (ws : va_W) (post : Nat → va_W → Prop) : Prop :=
  ∀ sz : Nat, Met l y (wg y b n rt) (rmv lvl mc ms) (va_Pc as (PreW D ka sz ws)) (va_Qr (fun u : Nat × va_W => post u.1 u.2) (fun u a t => a = u.1 ∧ PosW D ka ws sz u.2 t) (va_A ws sz)) mc ms (va_A ws sz)
def RetR (X : XT) (b : ByteArray) (mc ms : Nat) (post : Nat → va_W → Prop) : Prop := ∀ (z : Nat) (w : va_W) (pc : Nat) (lv : List (Nat × Value)), post z w → decode b pc = .ok (.areturn, 1) → G X mc ms w pc lv [.ref z]
theorem MR_of {l : Launch} {D : va_G} {ka : Nat → ClassId} {y : MethodName} {b : ByteArray} {n : Nat} {on : String} {lvl mc ms : Nat} {as : List Value} {ws : va_W} {post : Nat → va_W → Prop} (hy : plainName y.cls = true) (hla : (lg_sl as).length ≤ n) (body : ∀ X : XT, Cx X b n y.cls (some (.object on)) ka lvl → (xR X).cells = mc ∧ (xR X).slots = ms → RetR X b mc ms post → G X 0 0 ws 0 (lv_args 0 as) []) : MR l D ka y b n (some (.object on)) lvl mc ms as ws post := by
  intro sz
  refine Met.ofW (cc := b) (maxL := n) (ret := some (.object on)) hy rfl ?_
  intro p e s m args below meth c s₁ B hml hv
  obtain ⟨rfl, hsz, hP, hK, hD0, hE⟩ := hv
  subst hsz
  have hts := atoms_spec (ws := wg y b n (some (.object on))) B.pre
  have hown : s.vm.findClass y.cls = some m.cls := findClass_of_methodNamed B.named
  have hl := lv_entry as (n := n) hla
  rw [lg_entry_eq]
  have CX : Cx (p, l, e, rmv lvl mc ms, s, m, as.toArray, below, meth, c, D, va_A ws s.heap.size, MQ below (va_Qr (fun u : Nat × va_W => post u.1 u.2) (fun u a t => a = u.1 ∧ PosW D ka ws s.heap.size u.2 t) (va_A ws s.heap.size)) as.toArray s mc ms (va_A ws s.heap.size)) b n y.cls (some (.object on)) ka lvl :=
    ⟨B.exec, B.bytes, hml, hown, fun w hw => hts w (List.mem_cons_of_mem _ hw), hK, fun q h => Or.inr h, B.returns, B.notSynchronized, Nat.le_refl _, Nat.le_refl _, hE⟩
  refine body (p, l, e, rmv lvl mc ms, s, m, as.toArray, below, meth, c, D, va_A ws s.heap.size, MQ below (va_Qr (fun u : Nat × va_W => post u.1 u.2) (fun u a t => a = u.1 ∧ PosW D ka ws s.heap.size u.2 t) (va_A ws s.heap.size)) as.toArray s mc ms (va_A ws s.heap.size)) CX ⟨rfl, rfl⟩ ?_ s.heap [] _ hP hD0.self va_S.rf (by rw [show ((xC (p, l, e, rmv lvl mc ms, s, m, as.toArray, below, meth, c, D, va_A ws s.heap.size, MQ below (va_Qr (fun u : Nat × va_W => post u.1 u.2) (fun u a t => a = u.1 ∧ PosW D ka ws s.heap.size u.2 t) (va_A ws s.heap.size)) as.toArray s mc ms (va_A ws s.heap.size))).maxLocals) = n from hml]; exact hl)
  intro z w pc lv hz hd H locs ls hP1 hD1 hS1 _
  exact W.aret B.exec B.bytes B.returns (Or.inl ⟨_, rfl⟩) (Or.inr ⟨_, rfl⟩) (fun t ht hW => ⟨⟨(z, w), z, rfl, hz, rfl, by rw [ht]; exact hP1, va_K.moved hW.alike hK, hD1⟩, va_S.F hS1 ht⟩) hS1.2.2 hd B.notSynchronized
theorem g_callSr {X : XT} {cc : ByteArray} {nL : Nat} {own : String} {rt : Option FieldType} {ka : Nat → ClassId} {lvl cells slots : Nat} {ws : va_W} {pc : Nat} {lv : List (Nat × Value)} {st st0 : List Value} {y : MethodName} {b : ByteArray} {n lc np index mc ms : Nat} {r : Option FieldType} {As : List Value} (C : Cx X cc nL own rt ka lvl) {post : Nat → va_W → Prop} (hM : MR (xL X) (xD X) ka y b n r lc mc ms As ws post) (mi : SInf y b n r np) (hlink : Cond.methodLink own index y ∈ gw) (hlc : lc < lvl) (hn : As.length = np) (hst : st0 = As.reverse ++ st) (hsum : (st.map fun v => v.category).sum ≤ 8) (hcs : cells + mc ≤ (xR X).cells ∧ slots + ms ≤ (xR X).slots) (d : decode cc pc = .ok (.invokestatic index, 3)) (k : ∀ (z : Nat) (w : va_W), post z w → G X (cells + mc) (slots + ms) w (pc + 3) lv (.ref z :: st)) : G X cells slots ws pc lv st0 := by
  intro H locs ls hP hD hS hl
  subst hst
  have hF := va_freeA hD hS C.fr
  refine va_callr (va_runS (As := As) (rest := st) (Ts := gw) ⟨C.ex, C.co, rfl, C.ow, C.ts⟩ (hM H.size) ⟨callB_gw C hlink mi.2.1 mi.2.2.1 mi.2.2.2.1 mi.2.2.2.2 hlc, C.ts _ mi.1⟩ ⟨PreW.blind, pre_ws C hP hD⟩ rfl hn hl.1 rfl (by show 2 * 0 + _ ≤ 8; omega) d hcs) hS (fun q _ h => hF q h) hF (fun u z t H1 locs1 ht hvm hw hB hz1 hk1 hS1 => ?_)
  obtain ⟨rfl, hP1, -, hD1⟩ := hB
  rw [ht] at hP1
  exact k u.1 u.2 hw H1 locs1 ls hP1 (hD1.weaken (fun _ q _ h => hF q.1 h)) hS1 hl
