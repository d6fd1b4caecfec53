/-! ===== the engine, second part: small helps of the generator's rows ===== -/
theorem vp_lit {i : Int32} {n : Nat} (h : 0 ≤ i.toInt ∧ i.toInt < (n : Int)) : vp_in i n := vp_in_iff.mpr h
def isB (x : Int32) : Prop := x = 0 ∨ x = 1
theorem nar_B {x : Int32} (h : isB x) : narrow .boolean (.int x) = .int x := by rcases h with rfl | rfl <;> rfl
theorem fit_B {x : Int32} (h : isB x) : fits .boolean (.int x) = true := by rcases h with rfl | rfl <;> rfl
theorem isB_0 : isB 0 := Or.inl rfl
theorem isB_1 : isB 1 := Or.inr rfl
theorem swn {x v : Int32} (k : Int) (hv : v.toInt = k) (h : ¬ x = v) : ¬ x.toInt = k := fun e => h (Int32.toInt_inj.mp (e.trans hv.symm))
section EK2
variable {X : XT} {cc : ByteArray} {nL : Nat} {own : String} {rt : Option FieldType} {ka : Nat → ClassId} {lvl cells slots : Nat} {ws : va_W} {pc : Nat} {lv : List (Nat × Value)} {st st0 : List Value}
variable {y : MethodName} {b : ByteArray} {n lc np index : Nat} {r : Option FieldType} {As : List Value} {a : Nat} {q ci : Nat} {fs : List Value} {T : u_T} {N : Nat}
theorem g_topi {x : Int32} (k : ∀ z : Int32, z = x → G X cells slots ws pc lv (.int z :: st)) : G X cells slots ws pc lv (.int x :: st) := k x rfl
theorem g_callVi0 (C : Cx X cc nL own rt ka lvl) {post : Int32 → va_W → Prop} (hM : MI (xL X) (xD X) ka y b n r lc 0 0 (.ref a :: As) ws post) (mi : MInf y b n r np) (hlink : Cond.methodLink own index y ∈ gw) (hlc : lc < lvl) (he : ws[q]? = some (a, .inr (ci, fs))) (hc : vwCl[ci]? = some (y.cls, T, N)) (hn : As.length = np) (hst : st0 = As.reverse ++ .ref a :: st) (hsum : (st.map fun v => v.category).sum ≤ 8) (hcs : cells ≤ (xR X).cells ∧ slots ≤ (xR X).slots) (d : decode cc pc = .ok (.invokevirtual index, 3)) (k : ∀ (z : Int32) (w : va_W), post z w → G X cells slots w (pc + 3) lv (.int z :: st)) : G X cells slots ws pc lv st0 := g_callVi C hM mi hlink hlc he hc hn hst hsum hcs d k
theorem g_callVv0 (C : Cx X cc nL own rt ka lvl) {post : va_W → Prop} (hM : MV (xL X) (xD X) ka y b n r lc 0 0 (.ref a :: As) ws post) (mi : MInf y b n r np) (hlink : Cond.methodLink own index y ∈ gw) (hlc : lc < lvl) (he : ws[q]? = some (a, .inr (ci, fs))) (hc : vwCl[ci]? = some (y.cls, T, N)) (hn : As.length = np) (hst : st0 = As.reverse ++ .ref a :: st) (hsum : (st.map fun v => v.category).sum ≤ 8) (hcs : cells ≤ (xR X).cells ∧ slots ≤ (xR X).slots) (d : decode cc pc = .ok (.invokevirtual index, 3)) (k : ∀ (w : va_W), post w → G X cells slots w (pc + 3) lv st) : G X cells slots ws pc lv st0 := g_callVv C hM mi hlink hlc he hc hn hst hsum hcs d k
theorem g_callSi0 (C : Cx X cc nL own rt ka lvl) {post : Int32 → va_W → Prop} (hM : MI (xL X) (xD X) ka y b n r lc 0 0 As ws post) (mi : SInf y b n r np) (hlink : Cond.methodLink own index y ∈ gw) (hlc : lc < lvl) (hn : As.length = np) (hst : st0 = As.reverse ++ st) (hsum : (st.map fun v => v.category).sum ≤ 8) (hcs : cells ≤ (xR X).cells ∧ slots ≤ (xR X).slots) (d : decode cc pc = .ok (.invokestatic index, 3)) (k : ∀ (z : Int32) (w : va_W), post z w → G X cells slots w (pc + 3) lv (.int z :: st)) : G X cells slots ws pc lv st0 := g_callSi C hM mi hlink hlc hn hst hsum hcs d k
end EK2
theorem z00 {X : XT} : 0 ≤ (xR X).cells ∧ 0 ≤ (xR X).slots := ⟨Nat.zero_le _, Nat.zero_le _⟩
theorem cb_m20 : (Int8.ofInt (-20)).toInt32 = (-20 : Int32) := by decide
theorem cb_m14 : (Int8.ofInt (-14)).toInt32 = (-14 : Int32) := by decide
theorem cb_m13 : (Int8.ofInt (-13)).toInt32 = (-13 : Int32) := by decide
theorem cb_m12 : (Int8.ofInt (-12)).toInt32 = (-12 : Int32) := by decide
theorem cb_m11 : (Int8.ofInt (-11)).toInt32 = (-11 : Int32) := by decide
theorem cb_m4 : (Int8.ofInt (-4)).toInt32 = (-4 : Int32) := by decide
theorem cb_m3 : (Int8.ofInt (-3)).toInt32 = (-3 : Int32) := by decide
theorem cb_m2 : (Int8.ofInt (-2)).toInt32 = (-2 : Int32) := by decide
theorem cb_6 : (Int8.ofInt (6)).toInt32 = (6 : Int32) := by decide
theorem cb_7 : (Int8.ofInt (7)).toInt32 = (7 : Int32) := by decide
theorem cb_8 : (Int8.ofInt (8)).toInt32 = (8 : Int32) := by decide
theorem cb_9 : (Int8.ofInt (9)).toInt32 = (9 : Int32) := by decide
theorem cb_10 : (Int8.ofInt (10)).toInt32 = (10 : Int32) := by decide
theorem cb_11 : (Int8.ofInt (11)).toInt32 = (11 : Int32) := by decide
theorem cb_12 : (Int8.ofInt (12)).toInt32 = (12 : Int32) := by decide
theorem cb_13 : (Int8.ofInt (13)).toInt32 = (13 : Int32) := by decide
theorem cb_21 : (Int8.ofInt (21)).toInt32 = (21 : Int32) := by decide
theorem cb_24 : (Int8.ofInt (24)).toInt32 = (24 : Int32) := by decide
theorem cb_25 : (Int8.ofInt (25)).toInt32 = (25 : Int32) := by decide
theorem cb_32 : (Int8.ofInt (32)).toInt32 = (32 : Int32) := by decide
theorem cb_37 : (Int8.ofInt (37)).toInt32 = (37 : Int32) := by decide
theorem cb_40 : (Int8.ofInt (40)).toInt32 = (40 : Int32) := by decide
theorem cb_44 : (Int8.ofInt (44)).toInt32 = (44 : Int32) := by decide
theorem cb_48 : (Int8.ofInt (48)).toInt32 = (48 : Int32) := by decide
theorem cb_59 : (Int8.ofInt (59)).toInt32 = (59 : Int32) := by decide
theorem cb_60 : (Int8.ofInt (60)).toInt32 = (60 : Int32) := by decide
theorem cb_97 : (Int8.ofInt (97)).toInt32 = (97 : Int32) := by decide
theorem cb_98 : (Int8.ofInt (98)).toInt32 = (98 : Int32) := by decide
theorem cb_100 : (Int8.ofInt (100)).toInt32 = (100 : Int32) := by decide
theorem cb_103 : (Int8.ofInt (103)).toInt32 = (103 : Int32) := by decide
theorem cb_104 : (Int8.ofInt (104)).toInt32 = (104 : Int32) := by decide
theorem cb_112 : (Int8.ofInt (112)).toInt32 = (112 : Int32) := by decide
theorem cb_119 : (Int8.ofInt (119)).toInt32 = (119 : Int32) := by decide
theorem ci_m1 : Int32.ofInt (-1) = (-1 : Int32) := by decide
theorem ci_0 : Int32.ofInt (0) = (0 : Int32) := by decide
theorem ci_1 : Int32.ofInt (1) = (1 : Int32) := by decide
theorem ci_2 : Int32.ofInt (2) = (2 : Int32) := by decide
theorem ci_3 : Int32.ofInt (3) = (3 : Int32) := by decide
theorem ci_4 : Int32.ofInt (4) = (4 : Int32) := by decide
theorem ci_5 : Int32.ofInt (5) = (5 : Int32) := by decide
theorem cs_200 : (Int16.ofInt (200)).toInt32 = (200 : Int32) := by decide
theorem cs_201 : (Int16.ofInt (201)).toInt32 = (201 : Int32) := by decide
