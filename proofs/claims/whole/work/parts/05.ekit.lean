/-! ===== the engine: one judgement G over a world of cells, a row an instruction ===== -/
/-- the words that stay through calls -/
def gw : List Cond := lw_tbl.filter goodWord
theorem gw_of {w : Cond} (h : w ∈ lw_tbl) (g : goodWord w = true) : w ∈ gw := List.mem_filter.mpr ⟨h, g⟩
theorem gw_good : ∀ w ∈ gw, (w.onTables && w.keeps) = true ∨ ∃ ty, w = .arrayClass ty := fun _ h => good_of_word (List.mem_filter.mp h).2
/-- what no word of gw says: casts, a declared method, links of nest mates, arrays of ours: these stay too -/
def Ex (U : State) : Prop := va_Nw (.castable RX3 RX5) U ∧ va_Nw (.castable RX0 RX5) U ∧ va_Nw (.castable RX2 RX5) U ∧ va_Nw (.castable RX4 RX5) U ∧ va_Nw (.declares yX5_laysInThaw) U ∧ va_Nw (.methodLinkNest RX8 86 yX9_within "SummerWall") U ∧ va_Nw (.methodLinkNest RX6 30 yX9_within "SummerWall") U ∧ va_Nw (.methodLinkNest RX9 9 yX7_init "SummerWall") U ∧ va_Nw (.methodLinkNest RX9 21 yX8_init "SummerWall") U ∧ va_Nw (.methodLinkNest RX9 28 yX1_init "SummerWall") U ∧ va_Nw (.methodLinkNest RX9 39 yX6_init "SummerWall") U ∧ va_AO RX5 U ∧ va_AO RX6 U
theorem Ex.c3 {U : State} (h : Ex U) : va_Nw (.castable RX3 RX5) U := h.1
theorem Ex.c0 {U : State} (h : Ex U) : va_Nw (.castable RX0 RX5) U := h.2.1
theorem Ex.c2 {U : State} (h : Ex U) : va_Nw (.castable RX2 RX5) U := h.2.2.1
theorem Ex.c4 {U : State} (h : Ex U) : va_Nw (.castable RX4 RX5) U := h.2.2.2.1
theorem Ex.dt {U : State} (h : Ex U) : va_Nw (.declares yX5_laysInThaw) U := h.2.2.2.2.1
theorem Ex.n8 {U : State} (h : Ex U) : va_Nw (.methodLinkNest RX8 86 yX9_within "SummerWall") U := h.2.2.2.2.2.1
theorem Ex.n6 {U : State} (h : Ex U) : va_Nw (.methodLinkNest RX6 30 yX9_within "SummerWall") U := h.2.2.2.2.2.2.1
theorem Ex.i7 {U : State} (h : Ex U) : va_Nw (.methodLinkNest RX9 9 yX7_init "SummerWall") U := h.2.2.2.2.2.2.2.1
theorem Ex.i8 {U : State} (h : Ex U) : va_Nw (.methodLinkNest RX9 21 yX8_init "SummerWall") U := h.2.2.2.2.2.2.2.2.1
theorem Ex.i1 {U : State} (h : Ex U) : va_Nw (.methodLinkNest RX9 28 yX1_init "SummerWall") U := h.2.2.2.2.2.2.2.2.2.1
theorem Ex.i6 {U : State} (h : Ex U) : va_Nw (.methodLinkNest RX9 39 yX6_init "SummerWall") U := h.2.2.2.2.2.2.2.2.2.2.1
theorem Ex.a5 {U : State} (h : Ex U) : va_AO RX5 U := h.2.2.2.2.2.2.2.2.2.2.2.1
theorem Ex.a6 {U : State} (h : Ex U) : va_AO RX6 U := h.2.2.2.2.2.2.2.2.2.2.2.2
theorem Ex.warm {s U : State} (hW : s.WarmedH U.vm) (h : Ex s) : Ex U := ⟨va_Nw.warmC hW h.c3, va_Nw.warmC hW h.c0, va_Nw.warmC hW h.c2, va_Nw.warmC hW h.c4, va_Nw.warmD hW h.dt, va_Nw.warmM hW h.n8, va_Nw.warmM hW h.n6, va_Nw.warmM hW h.i7, va_Nw.warmM hW h.i8, va_Nw.warmM hW h.i1, va_Nw.warmM hW h.i6, va_AO.moved hW.alike h.a5, va_AO.moved hW.alike h.a6⟩
theorem Ex.same {s U : State} (hv : s.vm = U.vm) (h : Ex s) : Ex U := ⟨va_Nw.same rfl hv h.c3, va_Nw.same rfl hv h.c0, va_Nw.same rfl hv h.c2, va_Nw.same rfl hv h.c4, va_Nw.same rfl hv h.dt, va_Nw.same rfl hv h.n8, va_Nw.same rfl hv h.n6, va_Nw.same rfl hv h.i7, va_Nw.same rfl hv h.i8, va_Nw.same rfl hv h.i1, va_Nw.same rfl hv h.i6, va_AO.moved (by rw [hv]; exact Vm.Alike.refl _) h.a5, va_AO.moved (by rw [hv]; exact Vm.Alike.refl _) h.a6⟩
def tyK (ka : Nat → ClassId) : List (ClassId × FieldType) := [(ka 0, .int), (ka 1, .long), (ka 2, .char), (ka 3, .object "SummerWall$Plain"), (ka 4, .object "SummerWall$Sheet")]
abbrev XT : Type := Program × Launch × Env × Room × State × MethodId × Array Value × List Frame × Method × Code × va_G × (Nat → Prop) × (State → Prop)
abbrev xP (X : XT) : Program := X.1
abbrev xL (X : XT) : Launch := X.2.1
abbrev xE (X : XT) : Env := X.2.2.1
abbrev xR (X : XT) : Room := X.2.2.2.1
abbrev xS (X : XT) : State := X.2.2.2.2.1
abbrev xM (X : XT) : MethodId := X.2.2.2.2.2.1
abbrev xA (X : XT) : Array Value := X.2.2.2.2.2.2.1
abbrev xB (X : XT) : List Frame := X.2.2.2.2.2.2.2.1
abbrev xMe (X : XT) : Method := X.2.2.2.2.2.2.2.2.1
abbrev xC (X : XT) : Code := X.2.2.2.2.2.2.2.2.2.1
abbrev xD (X : XT) : va_G := X.2.2.2.2.2.2.2.2.2.2.1
abbrev xF (X : XT) : Nat → Prop := X.2.2.2.2.2.2.2.2.2.2.2.1
abbrev xQ (X : XT) : State → Prop := X.2.2.2.2.2.2.2.2.2.2.2.2
def Cx (X : XT) (cc : ByteArray) (nL : Nat) (own : String) (rt : Option FieldType) (ka : Nat → ClassId) (lvl : Nat) : Prop :=
  (xP X).tables.exec = Jvm.exec ∧ (xC X).code = cc ∧ (xC X).maxLocals = nL ∧ (xS X).vm.findClass own = some (xM X).cls ∧ (∀ w ∈ gw, w.before (xA X) (xS X) = true) ∧
  va_K (xD X) vwCl (tyK ka) (xS X) ∧ (∀ q : Nat, (xS X).heap.size ≤ q → xF X q) ∧ (xMe X).sig.returnType = rt ∧ (xMe X).locks = false ∧ lvl ≤ (xR X).frames ∧ 40 * lvl ≤ (xR X).locals ∧ Ex (xS X)
def G (X : XT) (cells slots : Nat) (ws : va_W) (pc : Nat) (lv : List (Nat × Value)) (st : List Value) : Prop :=
  ∀ (H : Heap) (locs : List Loc) (ls : Array Slot), va_P (xD X) vwCl ws H → va_D (xF X) ws → va_S (xF X) (xS X).heap H locs → lv_has ls (xC X).maxLocals lv →
    W (xP X) (xL X) (xE X) (xR X) (xS X) (xM X) (xA X) (xB X) (xMe X) (xC X) H locs cells slots (xQ X) (F0 (xM X) pc ls st)
section EK
variable {X : XT} {cc : ByteArray} {nL : Nat} {own : String} {rt : Option FieldType} {ka : Nat → ClassId} {lvl cells slots : Nat} {ws : va_W} {pc : Nat} {lv : List (Nat × Value)} {st : List Value}
theorem Cx.ex (C : Cx X cc nL own rt ka lvl) : (xP X).tables.exec = Jvm.exec := C.1
theorem Cx.co (C : Cx X cc nL own rt ka lvl) : (xC X).code = cc := C.2.1
theorem Cx.ml (C : Cx X cc nL own rt ka lvl) : (xC X).maxLocals = nL := C.2.2.1
theorem Cx.ow (C : Cx X cc nL own rt ka lvl) : (xS X).vm.findClass own = some (xM X).cls := C.2.2.2.1
theorem Cx.ts (C : Cx X cc nL own rt ka lvl) : ∀ w ∈ gw, w.before (xA X) (xS X) = true := C.2.2.2.2.1
theorem Cx.ks (C : Cx X cc nL own rt ka lvl) : va_K (xD X) vwCl (tyK ka) (xS X) := C.2.2.2.2.2.1
theorem Cx.fr (C : Cx X cc nL own rt ka lvl) : ∀ q : Nat, (xS X).heap.size ≤ q → xF X q := C.2.2.2.2.2.2.1
theorem Cx.rty (C : Cx X cc nL own rt ka lvl) : (xMe X).sig.returnType = rt := C.2.2.2.2.2.2.2.1
theorem Cx.lk (C : Cx X cc nL own rt ka lvl) : (xMe X).locks = false := C.2.2.2.2.2.2.2.2.1
theorem Cx.rf (C : Cx X cc nL own rt ka lvl) : lvl ≤ (xR X).frames := C.2.2.2.2.2.2.2.2.2.1
theorem Cx.rl (C : Cx X cc nL own rt ka lvl) : 40 * lvl ≤ (xR X).locals := C.2.2.2.2.2.2.2.2.2.2.1
theorem Cx.ext (C : Cx X cc nL own rt ka lvl) : Ex (xS X) := C.2.2.2.2.2.2.2.2.2.2.2
-- constants, locals, stack
theorem g_iconst (C : Cx X cc nL own rt ka lvl) {n : Int} (v : Int32) (d : decode cc pc = .ok (.iconst n, 1)) (hv : Int32.ofInt n = v) (k : G X cells slots ws (pc + 1) lv (.int v :: st)) : G X cells slots ws pc lv st := fun H locs ls a b s h => lv_iconst C.ex C.co d hv (k H locs ls a b s h)
theorem g_bipush (C : Cx X cc nL own rt ka lvl) {n : Int} (v : Int32) (d : decode cc pc = .ok (.bipush n, 2)) (hv : (Int8.ofInt n).toInt32 = v) (k : G X cells slots ws (pc + 2) lv (.int v :: st)) : G X cells slots ws pc lv st := fun H locs ls a b s h => lv_bipush C.ex C.co d hv (k H locs ls a b s h)
theorem g_sipush (C : Cx X cc nL own rt ka lvl) {n : Int} (v : Int32) (d : decode cc pc = .ok (.sipush n, 3)) (hv : (Int16.ofInt n).toInt32 = v) (k : G X cells slots ws (pc + 3) lv (.int v :: st)) : G X cells slots ws pc lv st := fun H locs ls a b s h => lv_sipush C.ex C.co d hv (k H locs ls a b s h)
theorem g_lconst (C : Cx X cc nL own rt ka lvl) {n : Fin 2} (v : Int64) (d : decode cc pc = .ok (.lconst n, 1)) (hv : Int64.ofNat (n : Nat) = v) (k : G X cells slots ws (pc + 1) lv (.long v :: st)) : G X cells slots ws pc lv st := fun H locs ls a b s h => lv_lconst C.ex C.co d hv (k H locs ls a b s h)
theorem g_ldc (C : Cx X cc nL own rt ka lvl) {index : Nat} {v : Int32} (hc : Cond.constant own index v ∈ gw) (d : decode cc pc = .ok (.ldc index, 2)) (k : G X cells slots ws (pc + 2) lv (.int v :: st)) : G X cells slots ws pc lv st := fun H locs ls a b s h => lv_ldc C.ex C.co C.ow (C.ts _ hc) d (k H locs ls a b s h)
theorem g_ldcw (C : Cx X cc nL own rt ka lvl) {index : Nat} {v : Int32} (hc : Cond.constant own index v ∈ gw) (d : decode cc pc = .ok (.ldc_w index, 3)) (k : G X cells slots ws (pc + 3) lv (.int v :: st)) : G X cells slots ws pc lv st := fun H locs ls a b s h => lv_ldcw C.ex C.co C.ow (C.ts _ hc) d (k H locs ls a b s h)
theorem g_ldc2 (C : Cx X cc nL own rt ka lvl) {index : Nat} {v : Int64} (hc : Cond.constantLong own index v ∈ gw) (d : decode cc pc = .ok (.ldc2_w index, 3)) (k : G X cells slots ws (pc + 3) lv (.long v :: st)) : G X cells slots ws pc lv st := fun H locs ls a b s h => lv_ldc2 C.ex C.co C.ow (C.ts _ hc) d (k H locs ls a b s h)
theorem g_iload_n (C : Cx X cc nL own rt ka lvl) {k : Fin 4} (q : Nat) {x : Int32} (d : decode cc pc = .ok (.iload_n k, 1)) (hl : lv[q]? = some ((k : Nat), .int x)) (kk : G X cells slots ws (pc + 1) lv (.int x :: st)) : G X cells slots ws pc lv st := fun H locs ls a b s h => lv_iload_n C.ex C.co d rfl (lv_at h q hl) (kk H locs ls a b s h)
theorem g_iload (C : Cx X cc nL own rt ka lvl) {i : Nat} (q : Nat) {x : Int32} (d : decode cc pc = .ok (.iload i, 2)) (hl : lv[q]? = some (i, .int x)) (kk : G X cells slots ws (pc + 2) lv (.int x :: st)) : G X cells slots ws pc lv st := fun H locs ls a b s h => lv_iload C.ex C.co d (lv_at h q hl) (kk H locs ls a b s h)
theorem g_lload_n (C : Cx X cc nL own rt ka lvl) {k : Fin 4} (q : Nat) {x : Int64} (d : decode cc pc = .ok (.lload_n k, 1)) (hl : lv[q]? = some ((k : Nat), .long x)) (kk : G X cells slots ws (pc + 1) lv (.long x :: st)) : G X cells slots ws pc lv st := fun H locs ls a b s h => lv_lload_n C.ex C.co d rfl (lv_at h q hl) (kk H locs ls a b s h)
theorem g_lload (C : Cx X cc nL own rt ka lvl) {i : Nat} (q : Nat) {x : Int64} (d : decode cc pc = .ok (.lload i, 2)) (hl : lv[q]? = some (i, .long x)) (kk : G X cells slots ws (pc + 2) lv (.long x :: st)) : G X cells slots ws pc lv st := fun H locs ls a b s h => lv_lload C.ex C.co d (lv_at h q hl) (kk H locs ls a b s h)
theorem g_aload_n (C : Cx X cc nL own rt ka lvl) {k : Fin 4} (q : Nat) {x : Nat} (d : decode cc pc = .ok (.aload_n k, 1)) (hl : lv[q]? = some ((k : Nat), .ref x)) (kk : G X cells slots ws (pc + 1) lv (.ref x :: st)) : G X cells slots ws pc lv st := fun H locs ls a b s h => lv_aload_n C.ex C.co d rfl (lv_at h q hl) (kk H locs ls a b s h)
theorem g_aload (C : Cx X cc nL own rt ka lvl) {i : Nat} (q : Nat) {x : Nat} (d : decode cc pc = .ok (.aload i, 2)) (hl : lv[q]? = some (i, .ref x)) (kk : G X cells slots ws (pc + 2) lv (.ref x :: st)) : G X cells slots ws pc lv st := fun H locs ls a b s h => lv_aload C.ex C.co d (lv_at h q hl) (kk H locs ls a b s h)
theorem g_istore_n (C : Cx X cc nL own rt ka lvl) {k : Fin 4} {x : Int32} (lv' : List (Nat × Value)) (d : decode cc pc = .ok (.istore_n k, 1)) (hn : (k : Nat) < nL) (hl : ((k : Nat), Value.int x) :: lv.filter (fun q => !(q.1 == (k : Nat)) && !(q.1 + 1 == (k : Nat) && q.2.category == 2)) = lv') (kk : G X cells slots ws (pc + 1) lv' st) : G X cells slots ws pc lv (.int x :: st) := fun H locs _ a b s h => lv_istore_n C.ex C.co d rfl h (by rw [C.ml]; exact hn) hl (fun ls' h' => kk H locs ls' a b s h')
theorem g_istore (C : Cx X cc nL own rt ka lvl) {i : Nat} {x : Int32} (lv' : List (Nat × Value)) (d : decode cc pc = .ok (.istore i, 2)) (hn : i < nL) (hl : (i, Value.int x) :: lv.filter (fun q => !(q.1 == i) && !(q.1 + 1 == i && q.2.category == 2)) = lv') (kk : G X cells slots ws (pc + 2) lv' st) : G X cells slots ws pc lv (.int x :: st) := fun H locs _ a b s h => lv_istore C.ex C.co d h (by rw [C.ml]; exact hn) hl (fun ls' h' => kk H locs ls' a b s h')
theorem g_lstore (C : Cx X cc nL own rt ka lvl) {i : Nat} {x : Int64} (lv' : List (Nat × Value)) (d : decode cc pc = .ok (.lstore i, 2)) (hn : i + 1 < nL) (hl : (i, Value.long x) :: lv.filter (fun q => !(q.1 == i) && (!(q.1 == i + 1) && !(q.1 + 1 == i && q.2.category == 2))) = lv') (kk : G X cells slots ws (pc + 2) lv' st) : G X cells slots ws pc lv (.long x :: st) := fun H locs _ a b s h => lv_lstore C.ex C.co d h (by rw [C.ml]; exact hn) hl (fun ls' h' => kk H locs ls' a b s h')
theorem g_astore_n (C : Cx X cc nL own rt ka lvl) {k : Fin 4} {x : Nat} (lv' : List (Nat × Value)) (d : decode cc pc = .ok (.astore_n k, 1)) (hn : (k : Nat) < nL) (hl : ((k : Nat), Value.ref x) :: lv.filter (fun q => !(q.1 == (k : Nat)) && !(q.1 + 1 == (k : Nat) && q.2.category == 2)) = lv') (kk : G X cells slots ws (pc + 1) lv' st) : G X cells slots ws pc lv (.ref x :: st) := fun H locs _ a b s h => lv_astore_n C.ex C.co d rfl h (by rw [C.ml]; exact hn) hl (fun ls' h' => kk H locs ls' a b s h')
theorem g_astore (C : Cx X cc nL own rt ka lvl) {i : Nat} {x : Nat} (lv' : List (Nat × Value)) (d : decode cc pc = .ok (.astore i, 2)) (hn : i < nL) (hl : (i, Value.ref x) :: lv.filter (fun q => !(q.1 == i) && !(q.1 + 1 == i && q.2.category == 2)) = lv') (kk : G X cells slots ws (pc + 2) lv' st) : G X cells slots ws pc lv (.ref x :: st) := fun H locs _ a b s h => lv_astore C.ex C.co d h (by rw [C.ml]; exact hn) hl (fun ls' h' => kk H locs ls' a b s h')
theorem g_iinc (C : Cx X cc nL own rt ka lvl) {i : Nat} (q : Nat) {n : Int} {x : Int32} (v : Int32) (lv' : List (Nat × Value)) (d : decode cc pc = .ok (.iinc i n, 3)) (hk : lv[q]? = some (i, .int x)) (hv : x + Int32.ofInt n = v) (hn : i < nL) (hl : (i, Value.int v) :: lv.filter (fun q => !(q.1 == i) && !(q.1 + 1 == i && q.2.category == 2)) = lv') (kk : G X cells slots ws (pc + 3) lv' st) : G X cells slots ws pc lv st := fun H locs _ a b s h => lv_iinc C.ex C.co d h hk hv (by rw [C.ml]; exact hn) hl (fun ls' h' => kk H locs ls' a b s h')
/-- fewer locals, in another order -/
theorem g_lv {lv' : List (Nat × Value)} (ks : List Nat) (hl : lv_pick lv ks = lv') (k : G X cells slots ws pc lv' st) : G X cells slots ws pc lv st := fun H locs ls a b s h => k H locs ls a b s (lv_sub h ks hl)
-- arithmetic
theorem g_iadd (C : Cx X cc nL own rt ka lvl) {x y : Int32} (d : decode cc pc = .ok (.iadd, 1)) (k : G X cells slots ws (pc + 1) lv (.int (x + y) :: st)) : G X cells slots ws pc lv (.int y :: .int x :: st) := fun H locs ls a b s h => lv_iadd C.ex C.co d (k H locs ls a b s h)
theorem g_isub (C : Cx X cc nL own rt ka lvl) {x y : Int32} (d : decode cc pc = .ok (.isub, 1)) (k : G X cells slots ws (pc + 1) lv (.int (x - y) :: st)) : G X cells slots ws pc lv (.int y :: .int x :: st) := fun H locs ls a b s h => lv_isub C.ex C.co d (k H locs ls a b s h)
theorem g_imul (C : Cx X cc nL own rt ka lvl) {x y : Int32} (d : decode cc pc = .ok (.imul, 1)) (k : G X cells slots ws (pc + 1) lv (.int (x * y) :: st)) : G X cells slots ws pc lv (.int y :: .int x :: st) := fun H locs ls a b s h => lv_imul C.ex C.co d (k H locs ls a b s h)
theorem g_iand (C : Cx X cc nL own rt ka lvl) {x y : Int32} (d : decode cc pc = .ok (.iand, 1)) (k : G X cells slots ws (pc + 1) lv (.int (x &&& y) :: st)) : G X cells slots ws pc lv (.int y :: .int x :: st) := fun H locs ls a b s h => lv_iand C.ex C.co d (k H locs ls a b s h)
theorem g_ior (C : Cx X cc nL own rt ka lvl) {x y : Int32} (d : decode cc pc = .ok (.ior, 1)) (k : G X cells slots ws (pc + 1) lv (.int (x ||| y) :: st)) : G X cells slots ws pc lv (.int y :: .int x :: st) := fun H locs ls a b s h => lv_ior C.ex C.co d (k H locs ls a b s h)
theorem g_ixor (C : Cx X cc nL own rt ka lvl) {x y : Int32} (d : decode cc pc = .ok (.ixor, 1)) (k : G X cells slots ws (pc + 1) lv (.int (x ^^^ y) :: st)) : G X cells slots ws pc lv (.int y :: .int x :: st) := fun H locs ls a b s h => lv_ixor C.ex C.co d (k H locs ls a b s h)
theorem g_idiv (C : Cx X cc nL own rt ka lvl) {x y : Int32} (d : decode cc pc = .ok (.idiv, 1)) (hne : ¬ y = 0) (k : G X cells slots ws (pc + 1) lv (.int (x / y) :: st)) : G X cells slots ws pc lv (.int y :: .int x :: st) := fun H locs ls a b s h => lv_idiv C.ex C.co d hne (k H locs ls a b s h)
theorem g_irem (C : Cx X cc nL own rt ka lvl) {x y : Int32} (d : decode cc pc = .ok (.irem, 1)) (hne : ¬ y = 0) (k : G X cells slots ws (pc + 1) lv (.int (x - x / y * y) :: st)) : G X cells slots ws pc lv (.int y :: .int x :: st) := fun H locs ls a b s h => lv_irem C.ex C.co d hne (k H locs ls a b s h)
theorem g_ishl (C : Cx X cc nL own rt ka lvl) {x y : Int32} (d : decode cc pc = .ok (.ishl, 1)) (k : G X cells slots ws (pc + 1) lv (.int (x <<< (y &&& 31)) :: st)) : G X cells slots ws pc lv (.int y :: .int x :: st) := fun H locs ls a b s h => lv_ishl C.ex C.co d (k H locs ls a b s h)
theorem g_ishr (C : Cx X cc nL own rt ka lvl) {x y : Int32} (d : decode cc pc = .ok (.ishr, 1)) (k : G X cells slots ws (pc + 1) lv (.int (x >>> (y &&& 31)) :: st)) : G X cells slots ws pc lv (.int y :: .int x :: st) := fun H locs ls a b s h => lv_ishr C.ex C.co d (k H locs ls a b s h)
theorem g_iushr (C : Cx X cc nL own rt ka lvl) {x y : Int32} (d : decode cc pc = .ok (.iushr, 1)) (k : G X cells slots ws (pc + 1) lv (.int ((x.toUInt32 >>> (y.toUInt32 &&& Int32.toUInt32 31)).toInt32) :: st)) : G X cells slots ws pc lv (.int y :: .int x :: st) := fun H locs ls a b s h => lv_iushr C.ex C.co d rfl (k H locs ls a b s h)
theorem g_ladd (C : Cx X cc nL own rt ka lvl) {x y : Int64} (d : decode cc pc = .ok (.ladd, 1)) (k : G X cells slots ws (pc + 1) lv (.long (x + y) :: st)) : G X cells slots ws pc lv (.long y :: .long x :: st) := fun H locs ls a b s h => lv_ladd C.ex C.co d (k H locs ls a b s h)
theorem g_lmul (C : Cx X cc nL own rt ka lvl) {x y : Int64} (d : decode cc pc = .ok (.lmul, 1)) (k : G X cells slots ws (pc + 1) lv (.long (x * y) :: st)) : G X cells slots ws pc lv (.long y :: .long x :: st) := fun H locs ls a b s h => lv_lmul C.ex C.co d (k H locs ls a b s h)
theorem g_land (C : Cx X cc nL own rt ka lvl) {x y : Int64} (d : decode cc pc = .ok (.land, 1)) (k : G X cells slots ws (pc + 1) lv (.long (x &&& y) :: st)) : G X cells slots ws pc lv (.long y :: .long x :: st) := fun H locs ls a b s h => lv_land C.ex C.co d (k H locs ls a b s h)
theorem g_lcmp (C : Cx X cc nL own rt ka lvl) {x y : Int64} (d : decode cc pc = .ok (.lcmp, 1)) (k : G X cells slots ws (pc + 1) lv (.int (lg_cmp x y) :: st)) : G X cells slots ws pc lv (.long y :: .long x :: st) := fun H locs ls a b s h => W.lcmp C.ex C.co d (k H locs ls a b s h)
theorem g_i2l (C : Cx X cc nL own rt ka lvl) {x : Int32} (d : decode cc pc = .ok (.i2l, 1)) (k : G X cells slots ws (pc + 1) lv (.long x.toInt64 :: st)) : G X cells slots ws pc lv (.int x :: st) := fun H locs ls a b s h => lv_i2l C.ex C.co d rfl (k H locs ls a b s h)
theorem g_l2i (C : Cx X cc nL own rt ka lvl) {x : Int64} (d : decode cc pc = .ok (.l2i, 1)) (k : G X cells slots ws (pc + 1) lv (.int x.toInt32 :: st)) : G X cells slots ws pc lv (.long x :: st) := fun H locs ls a b s h => lv_l2i C.ex C.co d rfl (k H locs ls a b s h)
theorem g_i2b (C : Cx X cc nL own rt ka lvl) {x : Int32} (d : decode cc pc = .ok (.i2b, 1)) (k : G X cells slots ws (pc + 1) lv (.int x.toInt8.toInt32 :: st)) : G X cells slots ws pc lv (.int x :: st) := fun H locs ls a b s h => lv_i2b C.ex C.co d rfl (k H locs ls a b s h)
theorem g_i2s (C : Cx X cc nL own rt ka lvl) {x : Int32} (d : decode cc pc = .ok (.i2s, 1)) (k : G X cells slots ws (pc + 1) lv (.int x.toInt16.toInt32 :: st)) : G X cells slots ws pc lv (.int x :: st) := fun H locs ls a b s h => lv_i2s C.ex C.co d rfl (k H locs ls a b s h)
theorem g_i2c (C : Cx X cc nL own rt ka lvl) {x : Int32} (d : decode cc pc = .ok (.i2c, 1)) (k : G X cells slots ws (pc + 1) lv (.int (x.toUInt32 % 65536).toInt32 :: st)) : G X cells slots ws pc lv (.int x :: st) := fun H locs ls a b s h => lv_i2c C.ex C.co d rfl (k H locs ls a b s h)
theorem g_dup (C : Cx X cc nL own rt ka lvl) {va : Value} (d : decode cc pc = .ok (.dup, 1)) (hva : va.category = 1) (k : G X cells slots ws (pc + 1) lv (va :: va :: st)) : G X cells slots ws pc lv (va :: st) := fun H locs ls a b s h => lv_dup C.ex C.co d hva (k H locs ls a b s h)
theorem g_pop (C : Cx X cc nL own rt ka lvl) {va : Value} (d : decode cc pc = .ok (.pop, 1)) (hva : va.category = 1) (k : G X cells slots ws (pc + 1) lv st) : G X cells slots ws pc lv (va :: st) := fun H locs ls a b s h => lv_pop C.ex C.co d hva (k H locs ls a b s h)
theorem g_dup2 (C : Cx X cc nL own rt ka lvl) {va vb : Value} (d : decode cc pc = .ok (.dup2, 1)) (hva : va.category = 1) (hvb : vb.category = 1) (k : G X cells slots ws (pc + 1) lv (va :: vb :: va :: vb :: st)) : G X cells slots ws pc lv (va :: vb :: st) := fun H locs ls a b s h => lv_dup2_11 C.ex C.co d hva hvb (k H locs ls a b s h)
-- branches: the hypothesis is a pair
theorem g_goto (C : Cx X cc nL own rt ka lvl) {off : Int} (tgt : Nat) (d : decode cc pc = .ok (.goto off, 3)) (ht : (pc : Int) + off = (tgt : Int)) (k : G X cells slots ws tgt lv st) : G X cells slots ws pc lv st := fun H locs ls a b s h => lv_goto C.ex C.co d ht (k H locs ls a b s h)
theorem g_if_eq (C : Cx X cc nL own rt ka lvl) {x : Int32} {off : Int} (tgt : Nat) (d : decode cc pc = .ok (.ifCond .eq off, 3)) (ht : (pc : Int) + off = (tgt : Int)) (kt : x = 0 → G X cells slots ws tgt lv st) (kf : ¬ x = 0 → G X cells slots ws (pc + 3) lv st) : G X cells slots ws pc lv (.int x :: st) := fun H locs ls a b s h => lv_if_eq C.ex C.co d ht (fun q => kt q H locs ls a b s h) (fun q => kf q H locs ls a b s h)
theorem g_if_ne (C : Cx X cc nL own rt ka lvl) {x : Int32} {off : Int} (tgt : Nat) (d : decode cc pc = .ok (.ifCond .ne off, 3)) (ht : (pc : Int) + off = (tgt : Int)) (kt : ¬ x = 0 → G X cells slots ws tgt lv st) (kf : x = 0 → G X cells slots ws (pc + 3) lv st) : G X cells slots ws pc lv (.int x :: st) := fun H locs ls a b s h => lv_if_ne C.ex C.co d ht (fun q => kt q H locs ls a b s h) (fun q => kf q H locs ls a b s h)
theorem g_if_lt (C : Cx X cc nL own rt ka lvl) {x : Int32} {off : Int} (tgt : Nat) (d : decode cc pc = .ok (.ifCond .lt off, 3)) (ht : (pc : Int) + off = (tgt : Int)) (kt : x < 0 → G X cells slots ws tgt lv st) (kf : ¬ x < 0 → G X cells slots ws (pc + 3) lv st) : G X cells slots ws pc lv (.int x :: st) := fun H locs ls a b s h => lv_if_lt C.ex C.co d ht (fun q => kt q H locs ls a b s h) (fun q => kf q H locs ls a b s h)
theorem g_if_ge (C : Cx X cc nL own rt ka lvl) {x : Int32} {off : Int} (tgt : Nat) (d : decode cc pc = .ok (.ifCond .ge off, 3)) (ht : (pc : Int) + off = (tgt : Int)) (kt : 0 ≤ x → G X cells slots ws tgt lv st) (kf : ¬ 0 ≤ x → G X cells slots ws (pc + 3) lv st) : G X cells slots ws pc lv (.int x :: st) := fun H locs ls a b s h => lv_if_ge C.ex C.co d ht (fun q => kt q H locs ls a b s h) (fun q => kf q H locs ls a b s h)
theorem g_if_gt (C : Cx X cc nL own rt ka lvl) {x : Int32} {off : Int} (tgt : Nat) (d : decode cc pc = .ok (.ifCond .gt off, 3)) (ht : (pc : Int) + off = (tgt : Int)) (kt : 0 < x → G X cells slots ws tgt lv st) (kf : ¬ 0 < x → G X cells slots ws (pc + 3) lv st) : G X cells slots ws pc lv (.int x :: st) := fun H locs ls a b s h => lv_if_gt C.ex C.co d ht (fun q => kt q H locs ls a b s h) (fun q => kf q H locs ls a b s h)
theorem g_if_le (C : Cx X cc nL own rt ka lvl) {x : Int32} {off : Int} (tgt : Nat) (d : decode cc pc = .ok (.ifCond .le off, 3)) (ht : (pc : Int) + off = (tgt : Int)) (kt : x ≤ 0 → G X cells slots ws tgt lv st) (kf : ¬ x ≤ 0 → G X cells slots ws (pc + 3) lv st) : G X cells slots ws pc lv (.int x :: st) := fun H locs ls a b s h => lv_if_le C.ex C.co d ht (fun q => kt q H locs ls a b s h) (fun q => kf q H locs ls a b s h)
theorem g_icmp_eq (C : Cx X cc nL own rt ka lvl) {x y : Int32} {off : Int} (tgt : Nat) (d : decode cc pc = .ok (.if_icmp .eq off, 3)) (ht : (pc : Int) + off = (tgt : Int)) (kt : x = y → G X cells slots ws tgt lv st) (kf : ¬ x = y → G X cells slots ws (pc + 3) lv st) : G X cells slots ws pc lv (.int y :: .int x :: st) := fun H locs ls a b s h => lv_icmp_eq C.ex C.co d ht (fun q => kt q H locs ls a b s h) (fun q => kf q H locs ls a b s h)
theorem g_icmp_ne (C : Cx X cc nL own rt ka lvl) {x y : Int32} {off : Int} (tgt : Nat) (d : decode cc pc = .ok (.if_icmp .ne off, 3)) (ht : (pc : Int) + off = (tgt : Int)) (kt : ¬ x = y → G X cells slots ws tgt lv st) (kf : x = y → G X cells slots ws (pc + 3) lv st) : G X cells slots ws pc lv (.int y :: .int x :: st) := fun H locs ls a b s h => lv_icmp_ne C.ex C.co d ht (fun q => kt q H locs ls a b s h) (fun q => kf q H locs ls a b s h)
theorem g_icmp_lt (C : Cx X cc nL own rt ka lvl) {x y : Int32} {off : Int} (tgt : Nat) (d : decode cc pc = .ok (.if_icmp .lt off, 3)) (ht : (pc : Int) + off = (tgt : Int)) (kt : x < y → G X cells slots ws tgt lv st) (kf : ¬ x < y → G X cells slots ws (pc + 3) lv st) : G X cells slots ws pc lv (.int y :: .int x :: st) := fun H locs ls a b s h => lv_icmp_lt C.ex C.co d ht (fun q => kt q H locs ls a b s h) (fun q => kf q H locs ls a b s h)
theorem g_icmp_ge (C : Cx X cc nL own rt ka lvl) {x y : Int32} {off : Int} (tgt : Nat) (d : decode cc pc = .ok (.if_icmp .ge off, 3)) (ht : (pc : Int) + off = (tgt : Int)) (kt : y ≤ x → G X cells slots ws tgt lv st) (kf : ¬ y ≤ x → G X cells slots ws (pc + 3) lv st) : G X cells slots ws pc lv (.int y :: .int x :: st) := fun H locs ls a b s h => lv_icmp_ge C.ex C.co d ht (fun q => kt q H locs ls a b s h) (fun q => kf q H locs ls a b s h)
theorem g_icmp_gt (C : Cx X cc nL own rt ka lvl) {x y : Int32} {off : Int} (tgt : Nat) (d : decode cc pc = .ok (.if_icmp .gt off, 3)) (ht : (pc : Int) + off = (tgt : Int)) (kt : y < x → G X cells slots ws tgt lv st) (kf : ¬ y < x → G X cells slots ws (pc + 3) lv st) : G X cells slots ws pc lv (.int y :: .int x :: st) := fun H locs ls a b s h => lv_icmp_gt C.ex C.co d ht (fun q => kt q H locs ls a b s h) (fun q => kf q H locs ls a b s h)
theorem g_icmp_le (C : Cx X cc nL own rt ka lvl) {x y : Int32} {off : Int} (tgt : Nat) (d : decode cc pc = .ok (.if_icmp .le off, 3)) (ht : (pc : Int) + off = (tgt : Int)) (kt : x ≤ y → G X cells slots ws tgt lv st) (kf : ¬ x ≤ y → G X cells slots ws (pc + 3) lv st) : G X cells slots ws pc lv (.int y :: .int x :: st) := fun H locs ls a b s h => lv_icmp_le C.ex C.co d ht (fun q => kt q H locs ls a b s h) (fun q => kf q H locs ls a b s h)
theorem g_lookup (C : Cx X cc nL own rt ka lvl) {dflt : Int} {ps : Array (Int × Int)} {len : Nat} {x : Int32} (off : Int) (tgt : Nat) (d : decode cc pc = .ok (.lookupswitch dflt ps, len)) (hp : (ps.toList.zip (ps.toList.drop 1)).all (fun (a, next) => a.1 < next.1) = true) (ho : Op.lookupswitch.offset ps.toList dflt x.toInt = off) (ht : (pc : Int) + off = (tgt : Int)) (k : G X cells slots ws tgt lv st) : G X cells slots ws pc lv (.int x :: st) := fun H locs ls a b s h => lv_lookup C.ex C.co d hp ho ht (k H locs ls a b s h)
theorem g_tableOut (C : Cx X cc nL own rt ka lvl) {dflt lo hi : Int} {offs : Array Int} {len : Nat} {x : Int32} (tgt : Nat) (d : decode cc pc = .ok (.tableswitch dflt lo hi offs, len)) (h : x.toInt < lo ∨ hi < x.toInt) (ht : (pc : Int) + dflt = (tgt : Int)) (k : G X cells slots ws tgt lv st) : G X cells slots ws pc lv (.int x :: st) := fun H locs ls a b s hh => lv_tableOut C.ex C.co d h ht (k H locs ls a b s hh)
theorem g_tableIn (C : Cx X cc nL own rt ka lvl) {dflt lo hi : Int} {offs : Array Int} {len : Nat} {x : Int32} (off : Int) (tgt : Nat) (d : decode cc pc = .ok (.tableswitch dflt lo hi offs, len)) (h1 : ¬ x.toInt < lo) (h2 : ¬ hi < x.toInt) (ho : offs[(x.toInt - lo).toNat]? = some off) (ht : (pc : Int) + off = (tgt : Int)) (k : G X cells slots ws tgt lv st) : G X cells slots ws pc lv (.int x :: st) := fun H locs ls a b s hh => lv_tableIn C.ex C.co d h1 h2 ho ht (k H locs ls a b s hh)
-- cells
/-- a field is read -/
theorem g_get (C : Cx X cc nL own rt ka lvl) {ref Cn : String} {T : u_T} {N ci index : Nat} {a : Nat} (q0 : Nat) {fs : List Value} (he : ws[q0]? = some (a, .inr (ci, fs))) (hc : vwCl[ci]? = some (Cn, T, N)) (hin : ∀ w ∈ u_ws Cn T N, w ∈ gw) (k : Nat) (hk : k < N) (hlink : Cond.fieldLink own index ref (T k).2.1 (T k).2.2.1 ∈ gw) (hsame : (T k).1 = ref) {v : Value} (hv : fs[k]? = some v) (d : decode cc pc = .ok (.getfield index, 3)) (kk : G X cells slots ws (pc + 3) lv (v :: st)) : G X cells slots ws pc lv (.ref a :: st) := fun H locs ls a' b s h => va_get C.ex C.co C.ts hin C.ow C.ks a' q0 he hc k hk (C.ts _ hlink) (fun x hx => by rw [← hsame]; exact hx) hv d (kk H locs ls a' b s h)
/-- a field is written -/
theorem g_put (C : Cx X cc nL own rt ka lvl) {ref Cn : String} {T : u_T} {N ci index : Nat} {a : Nat} (q0 : Nat) {fs : List Value} (he : ws[q0]? = some (a, .inr (ci, fs))) (hc : vwCl[ci]? = some (Cn, T, N)) (hin : ∀ w ∈ u_ws Cn T N, w ∈ gw) (ty0 : Nat → FieldType) (hty : ∀ k, k < N → parseFieldDescriptor (T k).2.2.1 = some (ty0 k)) (hnm : ∀ a, a < N → ∀ b, b < N → a ≠ b → (T a).2.1 ≠ (T b).2.1) (k : Nat) (hk : k < N) (hlink : Cond.fieldLink own index ref (T k).2.1 (T k).2.2.1 ∈ gw) (hsame : (T k).1 = ref) (hfin : (T k).2.2.2 = false) {v : Value} (hn : narrow (ty0 k) v = v) (hfit : fits (ty0 k) v = true) (hl : k < fs.length) (ws' : va_W) (hw : ws.set q0 (a, .inr (ci, fs.set k v)) = ws') (d : decode cc pc = .ok (.putfield index, 3)) (kk : G X cells slots ws' (pc + 3) lv st) : G X cells slots ws pc lv (v :: .ref a :: st) := fun H locs ls a' b s h => va_put C.ex C.co C.ts hin ty0 hty hnm C.ow C.ks a' b s q0 he hc k hk (C.ts _ hlink) (fun x hx => by rw [← hsame]; exact hx) hfin (hty k hk) hn hfit hl d (fun H1 locs1 hP hD hS => kk H1 locs1 ls (by rw [← hw]; exact hP) (by rw [← hw]; exact hD) hS h)
theorem g_iald (C : Cx X cc nL own rt ka lvl) {a n : Nat} {f : Nat → Int32} (q0 : Nat) (ha : ws[q0]? = some (a, .inl (ka 0, n, .inl f))) {i : Int32} (hin : vp_in i n) (d : decode cc pc = .ok (.iaload, 1)) (kk : G X cells slots ws (pc + 1) lv (.int (f i.toNatClampNeg) :: st)) : G X cells slots ws pc lv (.int i :: .ref a :: st) := fun H locs ls a' b s h => va_iald C.ex C.co C.ks a' q0 0 ha rfl hin d (kk H locs ls a' b s h)
theorem g_cald (C : Cx X cc nL own rt ka lvl) {a n : Nat} {f : Nat → Int32} (q0 : Nat) (ha : ws[q0]? = some (a, .inl (ka 2, n, .inl f))) {i : Int32} (hin : vp_in i n) (d : decode cc pc = .ok (.caload, 1)) (kk : G X cells slots ws (pc + 1) lv (.int (f i.toNatClampNeg) :: st)) : G X cells slots ws pc lv (.int i :: .ref a :: st) := fun H locs ls a' b s h => va_cald C.ex C.co C.ks a' q0 2 ha rfl hin d (kk H locs ls a' b s h)
theorem g_lald (C : Cx X cc nL own rt ka lvl) {a n : Nat} {f : Nat → Int64} (q0 : Nat) (ha : ws[q0]? = some (a, .inl (ka 1, n, .inr (.inl f)))) {i : Int32} (hin : vp_in i n) (d : decode cc pc = .ok (.laload, 1)) (kk : G X cells slots ws (pc + 1) lv (.long (f i.toNatClampNeg) :: st)) : G X cells slots ws pc lv (.int i :: .ref a :: st) := fun H locs ls a' b s h => va_lald C.ex C.co C.ks a' q0 1 ha rfl hin d (kk H locs ls a' b s h)
theorem g_iast (C : Cx X cc nL own rt ka lvl) {a n : Nat} {f : Nat → Int32} (q0 : Nat) (ha : ws[q0]? = some (a, .inl (ka 0, n, .inl f))) {i x : Int32} (hin : vp_in i n) (ws' : va_W) (hw : ws.set q0 (a, .inl (ka 0, n, .inl (upd f i.toNatClampNeg x))) = ws') (d : decode cc pc = .ok (.iastore, 1)) (kk : G X cells slots ws' (pc + 1) lv st) : G X cells slots ws pc lv (.int x :: .int i :: .ref a :: st) := fun H locs ls a' b s h => va_iast C.ex C.co C.ks a' b s q0 0 ha rfl hin d (fun H1 locs1 hP hD hS => kk H1 locs1 ls (by rw [← hw]; exact hP) (by rw [← hw]; exact hD) hS h)
theorem g_cast (C : Cx X cc nL own rt ka lvl) {a n : Nat} {f : Nat → Int32} (q0 : Nat) (ha : ws[q0]? = some (a, .inl (ka 2, n, .inl f))) {i x : Int32} (hin : vp_in i n) (ws' : va_W) (hw : ws.set q0 (a, .inl (ka 2, n, .inl (upd f i.toNatClampNeg (vp_nar .char x)))) = ws') (d : decode cc pc = .ok (.castore, 1)) (kk : G X cells slots ws' (pc + 1) lv st) : G X cells slots ws pc lv (.int x :: .int i :: .ref a :: st) := fun H locs ls a' b s h => va_cast C.ex C.co C.ks a' b s q0 2 ha rfl hin d (fun H1 locs1 hP hD hS => kk H1 locs1 ls (by rw [← hw]; exact hP) (by rw [← hw]; exact hD) hS h)
theorem g_last (C : Cx X cc nL own rt ka lvl) {a n : Nat} {f : Nat → Int64} (q0 : Nat) (ha : ws[q0]? = some (a, .inl (ka 1, n, .inr (.inl f)))) {i : Int32} {x : Int64} (hin : vp_in i n) (ws' : va_W) (hw : ws.set q0 (a, .inl (ka 1, n, .inr (.inl (vp_updL f i.toNatClampNeg x)))) = ws') (d : decode cc pc = .ok (.lastore, 1)) (kk : G X cells slots ws' (pc + 1) lv st) : G X cells slots ws pc lv (.long x :: .int i :: .ref a :: st) := fun H locs ls a' b s h => va_last C.ex C.co C.ks a' b s q0 1 ha rfl hin d (fun H1 locs1 hP hD hS => kk H1 locs1 ls (by rw [← hw]; exact hP) (by rw [← hw]; exact hD) hS h)
end EK
-- contracts
def wg (y : MethodName) (b : ByteArray) (n : Nat) (r : Option FieldType) : List Cond := Cond.code y b n r :: gw
def rmv (lvl mc ms : Nat) : Room := { frames := lvl, cells := mc, slots := ms, locals := 40 * lvl }
def PreW (D : va_G) (ka : Nat → ClassId) (sz : Nat) (ws : va_W) (U : State) : Prop := U.heap.size = sz ∧ va_P D vwCl ws U.heap ∧ va_K D vwCl (tyK ka) U ∧ va_D (fun _ => True) ws ∧ Ex U
def PosW (D : va_G) (ka : Nat → ClassId) (ws0 : va_W) (sz : Nat) (w : va_W) (t : State) : Prop := va_P D vwCl w t.heap ∧ va_K D vwCl (tyK ka) t ∧ va_D (va_A ws0 sz) w
def MI (l : Launch) (D : va_G) (ka : Nat → ClassId) (y : MethodName) (b : ByteArray) (n : Nat) (rt : Option FieldType) (lvl mc ms : Nat) (as : List Value) (ws : va_W) (post : Int32 → va_W → Prop) : Prop :=
  ∀ sz : Nat, Met l y (wg y b n rt) (rmv lvl mc ms) (va_Pc as (PreW D ka sz ws)) (va_Qi post (PosW D ka ws sz) (va_A ws sz)) mc ms (va_A ws sz)
def ML (l : Launch) (D : va_G) (ka : Nat → ClassId) (y : MethodName) (b : ByteArray) (n : Nat) (rt : Option FieldType) (lvl mc ms : Nat) (as : List Value) (ws : va_W) (post : Int64 → va_W → Prop) : Prop :=
  ∀ sz : Nat, Met l y (wg y b n rt) (rmv lvl mc ms) (va_Pc as (PreW D ka sz ws)) (va_Ql post (PosW D ka ws sz) (va_A ws sz)) mc ms (va_A ws sz)
def MV (l : Launch) (D : va_G) (ka : Nat → ClassId) (y : MethodName) (b : ByteArray) (n : Nat) (rt : Option FieldType) (lvl mc ms : Nat) (as : List Value) (ws : va_W) (post : va_W → Prop) : Prop :=
  ∀ sz : Nat, Met l y (wg y b n rt) (rmv lvl mc ms) (va_Pc as (PreW D ka sz ws)) (va_Qv post (PosW D ka ws sz) (va_A ws sz)) mc ms (va_A ws sz)
/-- a method's own words: an instance method, chosen by its own class -/
def MInf (y : MethodName) (b : ByteArray) (n : Nat) (r : Option FieldType) (k : Nat) : Prop := Cond.instanceMethod y ∈ gw ∧ Cond.selects y.cls y y ∈ gw ∧ Cond.initialized y.cls ∈ gw ∧ Cond.code y b n r ∈ gw ∧ (y.cls ≠ "java/lang/invoke/MethodHandle" ∧ y.cls ≠ "java/lang/invoke/VarHandle" ∧ (parseMethodDescriptor y.desc).map (fun d => d.parameters.length) = some k) ∧ n ≤ 20
def SInf (y : MethodName) (b : ByteArray) (n : Nat) (r : Option FieldType) (k : Nat) : Prop := Cond.static y ∈ gw ∧ Cond.initialized y.cls ∈ gw ∧ Cond.code y b n r ∈ gw ∧ (y.cls ≠ "java/lang/invoke/MethodHandle" ∧ y.cls ≠ "java/lang/invoke/VarHandle" ∧ (parseMethodDescriptor y.desc).map (fun d => d.parameters.length) = some k) ∧ n ≤ 20
theorem wg_good {y : MethodName} {b : ByteArray} {n : Nat} {r : Option FieldType} (h : Cond.code y b n r ∈ gw) : GoodIn gw (wg y b n r) := fun w hw => by
  have hm : w ∈ gw := by
    rcases List.mem_cons.mp hw with rfl | h1
    · exact h
    · exact h1
  exact ⟨hm, gw_good w hm⟩
theorem PreW.blind {D : va_G} {ka : Nat → ClassId} {sz : Nat} {ws : va_W} {as : List Value} : FrameBlind (va_Pc as (PreW D ka sz ws)) := by
  intro a U g mk q
  obtain ⟨q0, q1, qP, qK, qD, qE⟩ := q
  exact ⟨q0, q1, qP, va_K.moved (u := U) (U := U.calling g mk a) (Vm.Alike.refl U.vm) qK, qD, Ex.same (U := U.calling g mk a) rfl qE⟩
section EC
variable {X : XT} {cc : ByteArray} {nL : Nat} {own : String} {rt : Option FieldType} {ka : Nat → ClassId} {lvl cells slots : Nat} {ws : va_W} {pc : Nat} {lv : List (Nat × Value)} {st st0 : List Value}
variable {y : MethodName} {b : ByteArray} {n lc mc ms np index : Nat} {r : Option FieldType} {As : List Value} {a : Nat} {q ci : Nat} {fs : List Value} {T : u_T} {N : Nat}
theorem callB_gw (C : Cx X cc nL own rt ka lvl) (hlink : Cond.methodLink own index y ∈ gw) (hini : Cond.initialized y.cls ∈ gw) (hcode : Cond.code y b n r ∈ gw) (hd : y.cls ≠ "java/lang/invoke/MethodHandle" ∧ y.cls ≠ "java/lang/invoke/VarHandle" ∧ (parseMethodDescriptor y.desc).map (fun d => d.parameters.length) = some np) (hn : n ≤ 20) (hlc : lc < lvl) :
    CallB (xR X) (xS X) (xA X) own index y b n r (wg y b n r) (rmv lc mc ms) mc ms np :=
  callB_of (Ts := gw) np C.ts (wg_good hcode) rfl rfl rfl (C.ts _ hini) (C.ts _ hlink) hd ⟨Nat.le_trans hlc C.rf, by have := C.rl; show 8 + (n + 11) + 40 * lc ≤ (xR X).locals; omega⟩
theorem va_freeA {A0 : Nat → Prop} {ws : va_W} {H0 H : Heap} {locs : List Loc} (hD : va_D A0 ws) (hS : va_S A0 H0 H locs) (hA : ∀ q, H0.size ≤ q → A0 q) : ∀ q, va_A ws H.size q → A0 q := by
  intro q h
  rcases h with ⟨k, e, h⟩ | h
  · exact hD.2 k (q, e) h
  · exact hA q (Nat.le_trans hS.1 h)
theorem pre_ws (C : Cx X cc nL own rt ka lvl) {H : Heap} (hP : va_P (xD X) vwCl ws H) (hD : va_D (xF X) ws) {as : List Value} : ∀ U : State, U.heap = H → (xS X).WarmedH U.vm → va_Pc as (PreW (xD X) ka H.size ws) as.toArray U := fun U hU hW =>
  ⟨rfl, by rw [hU], by rw [hU]; exact hP, va_K.moved hW.alike C.ks, hD.weaken (fun _ _ _ _ => trivial), Ex.warm hW C.ext⟩
theorem g_callVi (C : Cx X cc nL own rt ka lvl) {post : Int32 → va_W → Prop} (hM : MI (xL X) (xD X) ka y b n r lc mc ms (.ref a :: As) ws post) (mi : MInf y b n r np) (hlink : Cond.methodLink own index y ∈ gw) (hlc : lc < lvl) (he : ws[q]? = some (a, .inr (ci, fs))) (hc : vwCl[ci]? = some (y.cls, T, N)) (hn : As.length = np) (hst : st0 = As.reverse ++ .ref a :: st) (hsum : (st.map fun v => v.category).sum ≤ 8) (hcs : cells + mc ≤ (xR X).cells ∧ slots + ms ≤ (xR X).slots) (d : decode cc pc = .ok (.invokevirtual index, 3)) (k : ∀ (z : Int32) (w : va_W), post z w → G X (cells + mc) (slots + ms) w (pc + 3) lv (.int z :: st)) : G X cells slots ws pc lv st0 := by
  intro H locs ls hP hD hS hl
  subst hst
  have hF := va_freeA hD hS C.fr
  refine va_calli (va_runV (As := As) (rest := st) (Ts := gw) ⟨C.ex, C.co, rfl, C.ow, C.ts⟩ (hM H.size) ⟨callB_gw C hlink mi.2.2.1 mi.2.2.2.1 mi.2.2.2.2.1 mi.2.2.2.2.2 hlc, C.ts _ mi.1, C.ts _ mi.2.1⟩ ⟨PreW.blind, va_recv C.ks hP hc he, pre_ws C hP hD⟩ rfl hn hl.1 rfl (by show 2 * 0 + _ ≤ 8; omega) d hcs) hS (fun q _ h => hF q h) hF (fun z w t H1 locs1 ht hvm hw hB hz1 hk1 hS1 => ?_)
  obtain ⟨hP1, -, hD1⟩ := hB
  rw [ht] at hP1
  exact k z w hw H1 locs1 ls hP1 (hD1.weaken (fun _ q _ h => hF q.1 h)) hS1 hl
theorem g_callVv (C : Cx X cc nL own rt ka lvl) {post : va_W → Prop} (hM : MV (xL X) (xD X) ka y b n r lc mc ms (.ref a :: As) ws post) (mi : MInf y b n r np) (hlink : Cond.methodLink own index y ∈ gw) (hlc : lc < lvl) (he : ws[q]? = some (a, .inr (ci, fs))) (hc : vwCl[ci]? = some (y.cls, T, N)) (hn : As.length = np) (hst : st0 = As.reverse ++ .ref a :: st) (hsum : (st.map fun v => v.category).sum ≤ 8) (hcs : cells + mc ≤ (xR X).cells ∧ slots + ms ≤ (xR X).slots) (d : decode cc pc = .ok (.invokevirtual index, 3)) (k : ∀ (w : va_W), post w → G X (cells + mc) (slots + ms) w (pc + 3) lv st) : G X cells slots ws pc lv st0 := by
  intro H locs ls hP hD hS hl
  subst hst
  have hF := va_freeA hD hS C.fr
  refine va_callv (va_runV (As := As) (rest := st) (Ts := gw) ⟨C.ex, C.co, rfl, C.ow, C.ts⟩ (hM H.size) ⟨callB_gw C hlink mi.2.2.1 mi.2.2.2.1 mi.2.2.2.2.1 mi.2.2.2.2.2 hlc, C.ts _ mi.1, C.ts _ mi.2.1⟩ ⟨PreW.blind, va_recv C.ks hP hc he, pre_ws C hP hD⟩ rfl hn hl.1 rfl (by show 2 * 0 + _ ≤ 8; omega) d hcs) hS (fun q _ h => hF q h) hF (fun w t H1 locs1 ht hvm hw hB hz1 hk1 hS1 => ?_)
  obtain ⟨hP1, -, hD1⟩ := hB
  rw [ht] at hP1
  exact k w hw H1 locs1 ls hP1 (hD1.weaken (fun _ q _ h => hF q.1 h)) hS1 hl
theorem g_callSi (C : Cx X cc nL own rt ka lvl) {post : Int32 → va_W → Prop} (hM : MI (xL X) (xD X) ka y b n r lc mc ms As ws post) (mi : SInf y b n r np) (hlink : Cond.methodLink own index y ∈ gw) (hlc : lc < lvl) (hn : As.length = np) (hst : st0 = As.reverse ++ st) (hsum : (st.map fun v => v.category).sum ≤ 8) (hcs : cells + mc ≤ (xR X).cells ∧ slots + ms ≤ (xR X).slots) (d : decode cc pc = .ok (.invokestatic index, 3)) (k : ∀ (z : Int32) (w : va_W), post z w → G X (cells + mc) (slots + ms) w (pc + 3) lv (.int z :: st)) : G X cells slots ws pc lv st0 := by
  intro H locs ls hP hD hS hl
  subst hst
  have hF := va_freeA hD hS C.fr
  refine va_calli (va_runS (As := As) (rest := st) (Ts := gw) ⟨C.ex, C.co, rfl, C.ow, C.ts⟩ (hM H.size) ⟨callB_gw C hlink mi.2.1 mi.2.2.1 mi.2.2.2.1 mi.2.2.2.2 hlc, C.ts _ mi.1⟩ ⟨PreW.blind, pre_ws C hP hD⟩ rfl hn hl.1 rfl (by show 2 * 0 + _ ≤ 8; omega) d hcs) hS (fun q _ h => hF q h) hF (fun z w t H1 locs1 ht hvm hw hB hz1 hk1 hS1 => ?_)
  obtain ⟨hP1, -, hD1⟩ := hB
  rw [ht] at hP1
  exact k z w hw H1 locs1 ls hP1 (hD1.weaken (fun _ q _ h => hF q.1 h)) hS1 hl
end EC
/-- what an end is worth, at a method's end -/
def RetI (X : XT) (b : ByteArray) (ty : FieldType) (mc ms : Nat) (post : Int32 → va_W → Prop) : Prop := ∀ (z : Int32) (w : va_W) (pc : Nat) (lv : List (Nat × Value)), post z w → narrow ty (.int z) = .int z → decode b pc = .ok (.ireturn, 1) → G X mc ms w pc lv [.int z]
def RetL (X : XT) (b : ByteArray) (mc ms : Nat) (post : Int64 → va_W → Prop) : Prop := ∀ (z : Int64) (w : va_W) (pc : Nat) (lv : List (Nat × Value)), post z w → decode b pc = .ok (.lreturn, 1) → G X mc ms w pc lv [.long z]
def RetV (X : XT) (b : ByteArray) (mc ms : Nat) (post : va_W → Prop) : Prop := ∀ (w : va_W) (pc : Nat) (lv : List (Nat × Value)), post w → decode b pc = .ok (.return_, 1) → G X mc ms w pc lv []
section EM
variable {l : Launch} {D : va_G} {ka : Nat → ClassId} {y : MethodName} {b : ByteArray} {n : Nat} {ty : FieldType} {lvl mc ms : Nat} {as : List Value} {ws : va_W}
theorem MI_of {post : Int32 → va_W → Prop} (hy : plainName y.cls = true) (hla : (lg_sl as).length ≤ n) (body : ∀ X : XT, Cx X b n y.cls (some ty) ka lvl → (xR X).cells = mc ∧ (xR X).slots = ms → RetI X b ty mc ms post → G X 0 0 ws 0 (lv_args 0 as) []) : MI l D ka y b n (some ty) lvl mc ms as ws post := by
  intro sz
  refine Met.ofW (cc := b) (maxL := n) (ret := some ty) hy rfl ?_
  intro p e s m args below meth c s₁ B hml hv
  obtain ⟨rfl, hsz, hP, hK, hD0, hE⟩ := hv
  subst hsz
  have hts := atoms_spec (ws := wg y b n (some ty)) B.pre
  have hown : s.vm.findClass y.cls = some m.cls := findClass_of_methodNamed B.named
  have hl := lv_entry as (n := n) hla
  rw [lg_entry_eq]
  have CX : Cx (p, l, e, rmv lvl mc ms, s, m, as.toArray, below, meth, c, D, va_A ws s.heap.size, MQ below (va_Qi post (PosW D ka ws s.heap.size) (va_A ws s.heap.size)) as.toArray s mc ms (va_A ws s.heap.size)) b n y.cls (some ty) ka lvl :=
    ⟨B.exec, B.bytes, hml, hown, fun w hw => hts w (List.mem_cons_of_mem _ hw), hK, fun q h => Or.inr h, B.returns, B.notSynchronized, Nat.le_refl _, Nat.le_refl _, hE⟩
  refine body (p, l, e, rmv lvl mc ms, s, m, as.toArray, below, meth, c, D, va_A ws s.heap.size, MQ below (va_Qi post (PosW D ka ws s.heap.size) (va_A ws s.heap.size)) as.toArray s mc ms (va_A ws s.heap.size)) CX ⟨rfl, rfl⟩ ?_ s.heap [] _ hP hD0.self va_S.rf (by rw [show ((xC (p, l, e, rmv lvl mc ms, s, m, as.toArray, below, meth, c, D, va_A ws s.heap.size, MQ below (va_Qi post (PosW D ka ws s.heap.size) (va_A ws s.heap.size)) as.toArray s mc ms (va_A ws s.heap.size))).maxLocals) = n from hml]; exact hl)
  intro z w pc lv hz hn hd H locs ls hP1 hD1 hS1 _
  exact W.zret B.exec B.bytes B.returns hn (fun t ht hW => ⟨⟨z, w, rfl, hz, by rw [ht]; exact hP1, va_K.moved hW.alike hK, hD1⟩, va_S.F hS1 ht⟩) hS1.2.2 hd B.notSynchronized
theorem MV_of {post : va_W → Prop} (hy : plainName y.cls = true) (hla : (lg_sl as).length ≤ n) (body : ∀ X : XT, Cx X b n y.cls none ka lvl → (xR X).cells = mc ∧ (xR X).slots = ms → RetV X b mc ms post → G X 0 0 ws 0 (lv_args 0 as) []) : MV l D ka y b n none lvl mc ms as ws post := by
  intro sz
  refine Met.ofW (cc := b) (maxL := n) (ret := none) hy rfl ?_
  intro p e s m args below meth c s₁ B hml hv
  obtain ⟨rfl, hsz, hP, hK, hD0, hE⟩ := hv
  subst hsz
  have hts := atoms_spec (ws := wg y b n none) B.pre
  have hown : s.vm.findClass y.cls = some m.cls := findClass_of_methodNamed B.named
  have hl := lv_entry as (n := n) hla
  rw [lg_entry_eq]
  have CX : Cx (p, l, e, rmv lvl mc ms, s, m, as.toArray, below, meth, c, D, va_A ws s.heap.size, MQ below (va_Qv post (PosW D ka ws s.heap.size) (va_A ws s.heap.size)) as.toArray s mc ms (va_A ws s.heap.size)) b n y.cls none ka lvl :=
    ⟨B.exec, B.bytes, hml, hown, fun w hw => hts w (List.mem_cons_of_mem _ hw), hK, fun q h => Or.inr h, B.returns, B.notSynchronized, Nat.le_refl _, Nat.le_refl _, hE⟩
  refine body (p, l, e, rmv lvl mc ms, s, m, as.toArray, below, meth, c, D, va_A ws s.heap.size, MQ below (va_Qv post (PosW D ka ws s.heap.size) (va_A ws s.heap.size)) as.toArray s mc ms (va_A ws s.heap.size)) CX ⟨rfl, rfl⟩ ?_ s.heap [] _ hP hD0.self va_S.rf (by rw [show ((xC (p, l, e, rmv lvl mc ms, s, m, as.toArray, below, meth, c, D, va_A ws s.heap.size, MQ below (va_Qv post (PosW D ka ws s.heap.size) (va_A ws s.heap.size)) as.toArray s mc ms (va_A ws s.heap.size))).maxLocals) = n from hml]; exact hl)
  intro w pc lv hz hd H locs ls hP1 hD1 hS1 _
  exact W.vret B.exec B.bytes B.returns (fun t ht hW => ⟨⟨w, rfl, hz, by rw [ht]; exact hP1, va_K.moved hW.alike hK, hD1⟩, va_S.F hS1 ht⟩) hS1.2.2 hd B.notSynchronized
end EM
