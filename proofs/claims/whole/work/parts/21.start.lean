/-- the first states -/
def iFc : FT := fun k => (List.lookup k [(100, (60 : Int32)), (101, (20 : Int32)), (102, (2 : Int32)), (103, (1 : Int32)), (109, (15 : Int32)), (110, (1 : Int32)), (200, (60 : Int32)), (201, (20 : Int32)), (202, (2 : Int32)), (203, (1 : Int32)), (209, (15 : Int32)), (210, (1 : Int32))]).getD 0
def iRc : RT := fun _ _ => 0
def iJc : JT := fun _ _ => 0
def iPc : PT := fun _ _ => none
def iFm : FT := fun k => (List.lookup k [(1, (-1 : Int32))]).getD 0
def iRm : RT := fun k => if k = 0 then upd (upd (upd (upd (upd (upd (fun _ => 0) 2 (60 : Int32)) 3 (20 : Int32)) 4 (2 : Int32)) 5 (1 : Int32)) 11 (15 : Int32)) 12 (1 : Int32) else if k = 16 then upd (upd (upd (upd (fun _ => 0) 0 (-1 : Int32)) 1 (-1 : Int32)) 2 (-1 : Int32)) 3 (-1 : Int32) else fun _ => 0
def iJm : JT := fun _ _ => 0
/-! THE CLAIM OUT OF ONE WALK OF THE LAW'S BODY. Your part is whole_start (and what it stands on); all else here is the same for every law, but numbers. -/
def R_law : String := "SummerWallLaw"
def lw_P (b : Addr) (xs : List Int32) (args : Array Value) (s : State) : Prop := args = #[.ref b] ∧ s.IntsAt b xs ∧ xs.length ≤ 384 ∧ (Jvm.Cond.and given_1 narrow_1).before args s = true
def lw_Q (_ : Array Value) (s : State) (o : Outcome) (t : State) : Prop := o = .returned (some (.int 1)) ∧ Framed s o t [] 600000 7302250
def lw_Z (below : List Frame) (a : Array Value) (s : State) : State → Prop := fun t => ∃ o, t.status = .running ∧ Ended t below o ∧ lw_Q a s o t
/-- the law's own end, with 1 on the stack, nothing written that was there before, its room as the claim has it -/
theorem lw_ret {p : Program} {l : Launch} {e : Env} {s : State} {m : MethodId} {below : List Frame} {meth : Method} {c : Code} {b : Nat} (hx : p.tables.exec = Jvm.exec) (hb : c.code = code) (hr : meth.sig.returnType = ret) (hlocks : meth.locks = false) {pc : Nat} {H : Heap} {ls : Array Slot} (hdg : decode code pc = .ok (.ireturn, 1)) : W p l e room_1 s m #[Value.ref b] below meth c H [] 600000 7302250 (lw_Z below #[Value.ref b] s) (F0 m pc ls [.int 1]) := by
  intro T hT X
  obtain ⟨fs, hret, hrun, hended, hW, hframe⟩ := X.leave (v := some (.int 1)) (hlocks := hlocks) (fun h => by rw [hr] at h; cases h)
  have hmeth' : T.vm.method? m = some meth := X.method'
  refine ⟨T.setFrames fs, ?_, .returned (some (.int 1)), hrun, hended, rfl, ⟨_, rfl⟩, hW, hframe⟩
  jvm_step X.here [X.here.top, hx, hb, hdg, hmeth', hr, ret, narrow_b1]
  (try refine ⟨rfl, ?_⟩); (try refine ⟨rfl, ?_⟩)
  first | (intro acts; rw [hret _ acts rfl rfl rfl]) | rw [hret _ _ rfl rfl rfl]
  exact Steps.refl _
/-- what holds at the law's entry: the machine, the code, the tables' words (any of lw_tbl by 'hts w (by decide +kernel)'), the script of L ints xs at the cell b, what the Statement gives of the start (any of its parts by flat_of_before) -/
def lw_At (p : Program) (s : State) (m : MethodId) (meth : Method) (c : Code) (b L : Nat) (xs : Nat → Int32) : Prop :=
  p.tables.exec = Jvm.exec ∧ c.code = code ∧ meth.sig.returnType = ret ∧ c.maxLocals = 4 ∧ s.vm.findClass R_law = some m.cls ∧ (∀ w ∈ lw_tbl, w.before #[Value.ref b] s = true) ∧ va_X b L xs s s.heap ∧ b < s.heap.size ∧ meth.locks = false ∧ (Jvm.Cond.and given_1 narrow_1).before #[Value.ref b] s = true
theorem k_prim {s : State} {args : Array Value} {ty : FieldType} (hp : ty = .int ∨ ty = .long ∨ ty = .char) (h : (Cond.arrayClass ty).before args s = true) : ∃ cA : ClassId, ArrOfT s cA ty ∧ va_RA s cA ty := by
  obtain ⟨c, k, comp, h1, h2, h3⟩ := Cond.arrayClass_spec h
  refine ⟨c, fun n z => ⟨fun k h => (by cases h), k, h2, comp, h3⟩, ?_⟩
  rcases hp with rfl | rfl | rfl <;> exact h1
theorem k_obj {s : State} {C : String} (h : va_AO C s) : ∃ cA : ClassId, ArrOfT s cA (.object C) ∧ va_RA s cA (.object C) := by
  obtain ⟨comp, c, k, h1, h2, h3, h4, h5⟩ := Cond.arrayOver_spec h
  exact ⟨c, fun n z => ⟨fun k h => (by cases h), k, h3, comp, h4⟩, k, comp, h3, h4, h1, h5⟩
set_option maxHeartbeats 8000000 in
set_option maxRecDepth 100000 in
/-- the law from its entry, for an invariant that every call keeps -/
theorem start_of {INV : INVT} (ok : LawOK INV) (h0 : INV iFc iRc iJc iPc [] iFm iRm iJm) {p : Program} {e : Env} {s : State} {m : MethodId} {below : List Frame} {meth : Method} {c : Code} (l : Launch) {b L : Nat} {xs : Nat → Int32} (hL : L ≤ 384) (C0 : lw_At p s m meth c b L xs) : W p l e room_1 s m #[Value.ref b] below meth c s.heap [] 0 0 (lw_Z below #[Value.ref b] s) (entryFrame m ([Value.ref b] : List Value).toArray 4) := by
  obtain ⟨hx, hb, hr, hml, hown, hts, hX, hbl, hlocks, hgv⟩ := id C0
  have htg : ∀ w ∈ gw, w.before #[Value.ref b] s = true := fun w h => hts w (List.mem_filter.mp h).1
  obtain ⟨c0, i0, hKn0⟩ := u_known (C := RX0) (T := TX0) (N := 2) (n := 2) htg inX0 (hts _ tw2_67)
  obtain ⟨c1, i1, hKn1⟩ := u_known (C := RX1) (T := TX1) (N := 16) (n := 16) htg inX1 (hts _ tw1_168)
  obtain ⟨c2, i2, hKn2⟩ := u_known (C := RX2) (T := TX2) (N := 2) (n := 2) htg inX2 (hts _ tw2_76)
  obtain ⟨c3, i3, hKn3⟩ := u_known (C := RX3) (T := TX3) (N := 2) (n := 2) htg inX3 (hts _ tw2_43)
  obtain ⟨c4, i4, hKn4⟩ := u_known (C := RX4) (T := TX4) (N := 2) (n := 2) htg inX4 (hts _ tw2_85)
  obtain ⟨c5, i5, hKn5⟩ := u_known (C := RX5) (T := TX5) (N := 2) (n := 2) htg inX5 (hts _ tw2_94)
  obtain ⟨c6, i6, hKn6⟩ := u_known (C := RX6) (T := TX6) (N := 4) (n := 4) htg inX6 (hts _ tw1_226)
  obtain ⟨c7, i7, hKn7⟩ := u_known (C := RX7) (T := TX7) (N := 18) (n := 18) htg inX7 (hts _ tw1_24)
  obtain ⟨c8, i8, hKn8⟩ := u_known (C := RX8) (T := TX8) (N := 13) (n := 13) htg inX8 (hts _ tw1_110)
  obtain ⟨c9, i9, hKn9⟩ := u_known (C := RX9) (T := TX9) (N := 6) (n := 6) htg inX9 (hts _ tw1_16)
  obtain ⟨c10, i10, hKn10⟩ := u_known (C := RX10) (T := TX10) (N := 20) (n := 20) htg inX10 (hts _ tw4_65)
  obtain ⟨dC, dI, hKc⟩ : ∃ (dC : Nat → ClassId) (dI : Nat → Nat → Nat), ∀ (k : Nat) (q : vw_C), vwCl[k]? = some q → u_Kn s q.1 q.2.1 q.2.2 (dC k) (dI k) := by
    refine ⟨fun k => [c0, c1, c2, c3, c4, c5, c6, c7, c8, c9, c10].getD k c0, fun k => [i0, i1, i2, i3, i4, i5, i6, i7, i8, i9, i10].getD k i0, ?_⟩
    intro k q hq
    match k, hq with
    | 0, hq => cases hq; exact hKn0
    | 1, hq => cases hq; exact hKn1
    | 2, hq => cases hq; exact hKn2
    | 3, hq => cases hq; exact hKn3
    | 4, hq => cases hq; exact hKn4
    | 5, hq => cases hq; exact hKn5
    | 6, hq => cases hq; exact hKn6
    | 7, hq => cases hq; exact hKn7
    | 8, hq => cases hq; exact hKn8
    | 9, hq => cases hq; exact hKn9
    | 10, hq => cases hq; exact hKn10
    | k + 11, hq => simp [vwCl] at hq
  have hE : Ex s := ⟨va_Nw.of rfl (hts _ tw5_148), va_Nw.of rfl (hts _ tw5_149), va_Nw.of rfl (hts _ tw5_150), va_Nw.of rfl (hts _ tw5_151), va_Nw.of rfl (hts _ tw2_167), va_Nw.of rfl (hts _ tw2_230), va_Nw.of rfl (hts _ tw4_37), va_Nw.of rfl (hts _ tw1_25), va_Nw.of rfl (hts _ tw1_111), va_Nw.of rfl (hts _ tw1_169), va_Nw.of rfl (hts _ tw1_227), va_AO.of (hts _ tw1_30), va_AO.of (hts _ tw1_225)⟩
  obtain ⟨kI, kI1, kI2⟩ := k_prim (Or.inl rfl) (hts _ tw1_108)
  obtain ⟨kJ, kJ1, kJ2⟩ := k_prim (Or.inr (Or.inl rfl)) (hts _ tw2_8)
  obtain ⟨kC, kC1, kC2⟩ := k_prim (Or.inr (Or.inr rfl)) (hts _ tw1_166)
  obtain ⟨kP, kP1, kP2⟩ := k_obj hE.a5
  obtain ⟨kS, kS1, kS2⟩ := k_obj hE.a6
  obtain ⟨ka, e0, e1, e2, e3, e4⟩ : ∃ ka : Nat → ClassId, ka 0 = kI ∧ ka 1 = kJ ∧ ka 2 = kC ∧ ka 3 = kP ∧ ka 4 = kS := ⟨fun k => [kI, kJ, kC, kP, kS].getD k kI, rfl, rfl, rfl, rfl, rfl⟩
  subst e0; subst e1; subst e2; subst e3; subst e4
  have hK : va_K (dC, dI) vwCl (tyK ka) s := ⟨hKc, fun k q hq => by
    match k, hq with
    | 0, hq => cases hq; exact ⟨kI1, kI2⟩
    | 1, hq => cases hq; exact ⟨kJ1, kJ2⟩
    | 2, hq => cases hq; exact ⟨kC1, kC2⟩
    | 3, hq => cases hq; exact ⟨kP1, kP2⟩
    | 4, hq => cases hq; exact ⟨kS1, kS2⟩
    | k + 5, hq => simp [tyK] at hq⟩
  have C : Cx (p, l, e, room_1, s, m, #[Value.ref b], below, meth, c, (dC, dI), (fun q : Nat => s.heap.size ≤ q), lw_Z below #[Value.ref b] s) cL_law 4 RL (some .boolean) ka 10 := ⟨hx, hb, hml, hown, htg, hK, fun _ h => h, hr, hlocks, Nat.le_of_ble_eq_true rfl, Nat.le_of_ble_eq_true rfl, hE⟩
  have hl := lv_entry ([.ref b]) (n := 4) (Nat.le_of_ble_eq_true rfl)
  rw [lg_entry_eq]
  have hbA : ¬ (fun q : Nat => s.heap.size ≤ q) b := Nat.not_le.mpr hbl
  have hP0 : va_P (dC, dI) vwCl [] s.heap := fun k q h => by simp at h
  have hD0 : va_D (fun q : Nat => s.heap.size ≤ q) [] := ⟨fun i j p q h => by simp at h, fun k q h => by simp at h⟩
  have hend : ∀ (cells slots : Nat) (ws : va_W) (lv : List (Nat × Value)), cells ≤ 600000 → slots ≤ 7302250 → G (p, l, e, room_1, s, m, #[Value.ref b], below, meth, c, (dC, dI), (fun q : Nat => s.heap.size ≤ q), lw_Z below #[Value.ref b] s) cells slots ws 1098 lv [.int 1] := by
    intro cells slots ws lv h1 h2 H locs ls hP hD hS _
    exact W.widen h1 h2 (va_forget hS.2.2 (lw_ret hx hb hr hlocks dL_law_1098))
  have key : G (p, l, e, room_1, s, m, #[Value.ref b], below, meth, c, (dC, dI), (fun q : Nat => s.heap.size ≤ q), lw_Z below #[Value.ref b] s) 0 0 [] 0 [(0, .ref b)] [] := by
    refine g_new C 9 (hc := rfl) inX9 tyX9 tyX9_ok (gw_of tw1_15 rfl) (gw_of tw1_16 rfl) (gw_of tw1_1 rfl) [.null, .null, .null, .null, .null, .int 0] (by decide +kernel) ⟨Nat.le_of_ble_eq_true rfl, Nat.le_of_ble_eq_true rfl⟩ dL_law_0 (fun xb => ?_)
    refine g_cs 1 6 rfl rfl ?_
    refine g_dup C dL_law_3 rfl ?_
    refine g_callIc C (mc := 34) (ms := 2846) (kI_X9 l (dC, dI) ka [] xb) rfl (gw_of tw1_18 rfl) (gw_of tw1_1 rfl) (gw_of tw1_19 rfl) (by decide +kernel) (by decide) (gw_of tw1_17 rfl) (by decide) (Nat.le_of_ble_eq_true rfl) ⟨Nat.le_of_ble_eq_true rfl, Nat.le_of_ble_eq_true rfl⟩ dL_law_4 (fun w hw => ?_)
    obtain ⟨xq0, xq1, xq2, xq3, xq4, xq5, xq6, xq7, xq8, xq9, xq10, xq11, xq12, xq13, xq14, xq15, xq16, xq17, xq18, xq19, xq20, xq21, xq22, xq23, xq24, xq25, xq26, xq27, xq28, xq29, xq30, xq31, xq32, xq33, rfl⟩ := hw
    refine g_ws [(xb, .inr (9, [.ref xq0, .ref xq5, .ref xq10, .ref xq17, .ref xq25, .int 0])), (xq0, .inr (7, [.int (60 : Int32), .int (20 : Int32), .int (2 : Int32), .int (1 : Int32), .int 0, .int 0, .int 0, .int 0, .int 0, .int (15 : Int32), .int (1 : Int32), .int 0, .int 0, .int 0, .ref xq1, .ref xq2, .ref xq3, .ref xq4])), (xq1, .inl (ka 3, 4, .inr (.inr (.inr (.inr (fun _ => none)))))), (xq2, .inl (ka 0, 6, .inl (fun _ => 0))), (xq3, .inl (ka 0, 6, .inl (fun _ => 0))), (xq4, .inl (ka 0, 48, .inl (fun _ => 0))), (xq5, .inr (7, [.int (60 : Int32), .int (20 : Int32), .int (2 : Int32), .int (1 : Int32), .int 0, .int 0, .int 0, .int 0, .int 0, .int (15 : Int32), .int (1 : Int32), .int 0, .int 0, .int 0, .ref xq6, .ref xq7, .ref xq8, .ref xq9])), (xq6, .inl (ka 3, 4, .inr (.inr (.inr (.inr (fun _ => none)))))), (xq7, .inl (ka 0, 6, .inl (fun _ => 0))), (xq8, .inl (ka 0, 6, .inl (fun _ => 0))), (xq9, .inl (ka 0, 48, .inl (fun _ => 0))), (xq10, .inr (8, [.ref xq11, .ref xq12, .ref xq13, .ref xq14, .ref xq15, .ref xq16, .int 0, .int 0, .int 0, .int 0, .int 0, .int 0, .int 0])), (xq11, .inl (ka 2, 60, .inl (fun _ => 0))), (xq12, .inl (ka 0, 4, .inl (fun _ => 0))), (xq13, .inl (ka 0, 4, .inl (fun _ => 0))), (xq14, .inl (ka 0, 4, .inl (fun _ => 0))), (xq15, .inl (ka 0, 6, .inl (fun _ => 0))), (xq16, .inl (ka 0, 6, .inl (fun _ => 0))), (xq17, .inr (1, [.ref xq18, .ref xq19, .ref xq20, .ref xq21, .ref xq22, .ref xq23, .ref xq24, .int 0, .int 0, .int 0, .int 0, .int 0, .int 0, .int 0, .int 0, .int 0])), (xq18, .inl (ka 0, 603, .inl (fun _ => 0))), (xq19, .inl (ka 0, 603, .inl (fun _ => 0))), (xq20, .inl (ka 0, 603, .inl (fun _ => 0))), (xq21, .inl (ka 0, 201, .inl (fun _ => 0))), (xq22, .inl (ka 0, 201, .inl (fun _ => 0))), (xq23, .inl (ka 0, 41, .inl (fun _ => 0))), (xq24, .inl (ka 0, 201, .inl (fun _ => 0))), (xq25, .inl (ka 4, 4, .inr (.inr (.inr (.inr (va_up (va_up (va_up (va_up (fun _ => none) 0 (some xq26)) 1 (some xq28)) 2 (some xq30)) 3 (some xq32))))))), (xq26, .inr (6, [.int 0, .int 0, .int 0, .ref xq27])), (xq27, .inl (ka 1, 24, .inr (.inl (fun _ => 0)))), (xq28, .inr (6, [.int 0, .int 0, .int 0, .ref xq29])), (xq29, .inl (ka 1, 24, .inr (.inl (fun _ => 0)))), (xq30, .inr (6, [.int 0, .int 0, .int 0, .ref xq31])), (xq31, .inl (ka 1, 24, .inr (.inl (fun _ => 0)))), (xq32, .inr (6, [.int 0, .int 0, .int 0, .ref xq33])), (xq33, .inl (ka 1, 24, .inr (.inl (fun _ => 0))))] rfl ?_
    refine g_cs 35 2852 rfl rfl ?_
    refine g_astore_n C [(1, .ref xb), (0, .ref b)] dL_law_7 (by decide) rfl ?_
    refine g_new C 10 (hc := rfl) inX10 tyX10 tyX10_ok (gw_of tw4_64 rfl) (gw_of tw4_65 rfl) (gw_of tw1_6 rfl) [.null, .int 0, .int 0, .null, .int 0, .int 0, .int 0, .null, .null, .int 0, .null, .null, .null, .null, .int 0, .int 0, .null, .null, .null, .null] (by decide +kernel) ⟨Nat.le_of_ble_eq_true rfl, Nat.le_of_ble_eq_true rfl⟩ dL_law_8 (fun mb => ?_)
    refine g_cs 36 2872 rfl rfl ?_
    refine g_dup C dL_law_11 rfl ?_
    refine g_callIc C (mc := 12) (ms := 9025) (kI_X10 l (dC, dI) ka [(xb, .inr (9, [.ref xq0, .ref xq5, .ref xq10, .ref xq17, .ref xq25, .int 0])), (xq0, .inr (7, [.int (60 : Int32), .int (20 : Int32), .int (2 : Int32), .int (1 : Int32), .int 0, .int 0, .int 0, .int 0, .int 0, .int (15 : Int32), .int (1 : Int32), .int 0, .int 0, .int 0, .ref xq1, .ref xq2, .ref xq3, .ref xq4])), (xq1, .inl (ka 3, 4, .inr (.inr (.inr (.inr (fun _ => none)))))), (xq2, .inl (ka 0, 6, .inl (fun _ => 0))), (xq3, .inl (ka 0, 6, .inl (fun _ => 0))), (xq4, .inl (ka 0, 48, .inl (fun _ => 0))), (xq5, .inr (7, [.int (60 : Int32), .int (20 : Int32), .int (2 : Int32), .int (1 : Int32), .int 0, .int 0, .int 0, .int 0, .int 0, .int (15 : Int32), .int (1 : Int32), .int 0, .int 0, .int 0, .ref xq6, .ref xq7, .ref xq8, .ref xq9])), (xq6, .inl (ka 3, 4, .inr (.inr (.inr (.inr (fun _ => none)))))), (xq7, .inl (ka 0, 6, .inl (fun _ => 0))), (xq8, .inl (ka 0, 6, .inl (fun _ => 0))), (xq9, .inl (ka 0, 48, .inl (fun _ => 0))), (xq10, .inr (8, [.ref xq11, .ref xq12, .ref xq13, .ref xq14, .ref xq15, .ref xq16, .int 0, .int 0, .int 0, .int 0, .int 0, .int 0, .int 0])), (xq11, .inl (ka 2, 60, .inl (fun _ => 0))), (xq12, .inl (ka 0, 4, .inl (fun _ => 0))), (xq13, .inl (ka 0, 4, .inl (fun _ => 0))), (xq14, .inl (ka 0, 4, .inl (fun _ => 0))), (xq15, .inl (ka 0, 6, .inl (fun _ => 0))), (xq16, .inl (ka 0, 6, .inl (fun _ => 0))), (xq17, .inr (1, [.ref xq18, .ref xq19, .ref xq20, .ref xq21, .ref xq22, .ref xq23, .ref xq24, .int 0, .int 0, .int 0, .int 0, .int 0, .int 0, .int 0, .int 0, .int 0])), (xq18, .inl (ka 0, 603, .inl (fun _ => 0))), (xq19, .inl (ka 0, 603, .inl (fun _ => 0))), (xq20, .inl (ka 0, 603, .inl (fun _ => 0))), (xq21, .inl (ka 0, 201, .inl (fun _ => 0))), (xq22, .inl (ka 0, 201, .inl (fun _ => 0))), (xq23, .inl (ka 0, 41, .inl (fun _ => 0))), (xq24, .inl (ka 0, 201, .inl (fun _ => 0))), (xq25, .inl (ka 4, 4, .inr (.inr (.inr (.inr (va_up (va_up (va_up (va_up (fun _ => none) 0 (some xq26)) 1 (some xq28)) 2 (some xq30)) 3 (some xq32))))))), (xq26, .inr (6, [.int 0, .int 0, .int 0, .ref xq27])), (xq27, .inl (ka 1, 24, .inr (.inl (fun _ => 0)))), (xq28, .inr (6, [.int 0, .int 0, .int 0, .ref xq29])), (xq29, .inl (ka 1, 24, .inr (.inl (fun _ => 0)))), (xq30, .inr (6, [.int 0, .int 0, .int 0, .ref xq31])), (xq31, .inl (ka 1, 24, .inr (.inl (fun _ => 0)))), (xq32, .inr (6, [.int 0, .int 0, .int 0, .ref xq33])), (xq33, .inl (ka 1, 24, .inr (.inl (fun _ => 0))))] mb) rfl (gw_of tw4_67 rfl) (gw_of tw1_6 rfl) (gw_of tw4_68 rfl) (by decide +kernel) (by decide) (gw_of tw4_66 rfl) (by decide) (Nat.le_of_ble_eq_true rfl) ⟨Nat.le_of_ble_eq_true rfl, Nat.le_of_ble_eq_true rfl⟩ dL_law_12 (fun w hw => ?_)
    obtain ⟨mq0, mq1, mq2, mq3, mq4, mq5, mq6, mq7, mq8, mq9, mq10, mq11, rfl⟩ := hw
    refine g_ws [(xb, .inr (9, [.ref xq0, .ref xq5, .ref xq10, .ref xq17, .ref xq25, .int 0])), (xq0, .inr (7, [.int (60 : Int32), .int (20 : Int32), .int (2 : Int32), .int (1 : Int32), .int 0, .int 0, .int 0, .int 0, .int 0, .int (15 : Int32), .int (1 : Int32), .int 0, .int 0, .int 0, .ref xq1, .ref xq2, .ref xq3, .ref xq4])), (xq1, .inl (ka 3, 4, .inr (.inr (.inr (.inr (fun _ => none)))))), (xq2, .inl (ka 0, 6, .inl (fun _ => 0))), (xq3, .inl (ka 0, 6, .inl (fun _ => 0))), (xq4, .inl (ka 0, 48, .inl (fun _ => 0))), (xq5, .inr (7, [.int (60 : Int32), .int (20 : Int32), .int (2 : Int32), .int (1 : Int32), .int 0, .int 0, .int 0, .int 0, .int 0, .int (15 : Int32), .int (1 : Int32), .int 0, .int 0, .int 0, .ref xq6, .ref xq7, .ref xq8, .ref xq9])), (xq6, .inl (ka 3, 4, .inr (.inr (.inr (.inr (fun _ => none)))))), (xq7, .inl (ka 0, 6, .inl (fun _ => 0))), (xq8, .inl (ka 0, 6, .inl (fun _ => 0))), (xq9, .inl (ka 0, 48, .inl (fun _ => 0))), (xq10, .inr (8, [.ref xq11, .ref xq12, .ref xq13, .ref xq14, .ref xq15, .ref xq16, .int 0, .int 0, .int 0, .int 0, .int 0, .int 0, .int 0])), (xq11, .inl (ka 2, 60, .inl (fun _ => 0))), (xq12, .inl (ka 0, 4, .inl (fun _ => 0))), (xq13, .inl (ka 0, 4, .inl (fun _ => 0))), (xq14, .inl (ka 0, 4, .inl (fun _ => 0))), (xq15, .inl (ka 0, 6, .inl (fun _ => 0))), (xq16, .inl (ka 0, 6, .inl (fun _ => 0))), (xq17, .inr (1, [.ref xq18, .ref xq19, .ref xq20, .ref xq21, .ref xq22, .ref xq23, .ref xq24, .int 0, .int 0, .int 0, .int 0, .int 0, .int 0, .int 0, .int 0, .int 0])), (xq18, .inl (ka 0, 603, .inl (fun _ => 0))), (xq19, .inl (ka 0, 603, .inl (fun _ => 0))), (xq20, .inl (ka 0, 603, .inl (fun _ => 0))), (xq21, .inl (ka 0, 201, .inl (fun _ => 0))), (xq22, .inl (ka 0, 201, .inl (fun _ => 0))), (xq23, .inl (ka 0, 41, .inl (fun _ => 0))), (xq24, .inl (ka 0, 201, .inl (fun _ => 0))), (xq25, .inl (ka 4, 4, .inr (.inr (.inr (.inr (va_up (va_up (va_up (va_up (fun _ => none) 0 (some xq26)) 1 (some xq28)) 2 (some xq30)) 3 (some xq32))))))), (xq26, .inr (6, [.int 0, .int 0, .int 0, .ref xq27])), (xq27, .inl (ka 1, 24, .inr (.inl (fun _ => 0)))), (xq28, .inr (6, [.int 0, .int 0, .int 0, .ref xq29])), (xq29, .inl (ka 1, 24, .inr (.inl (fun _ => 0)))), (xq30, .inr (6, [.int 0, .int 0, .int 0, .ref xq31])), (xq31, .inl (ka 1, 24, .inr (.inl (fun _ => 0)))), (xq32, .inr (6, [.int 0, .int 0, .int 0, .ref xq33])), (xq33, .inl (ka 1, 24, .inr (.inl (fun _ => 0)))), (mb, .inr (10, [.ref mq0, .int (-1 : Int32), .int 0, .ref mq1, .int 0, .int 0, .int 0, .ref mq2, .ref mq3, .int 0, .ref mq4, .ref mq5, .ref mq6, .ref mq7, .int 0, .int 0, .ref mq8, .ref mq9, .ref mq10, .ref mq11])), (mq0, .inl (ka 0, 37, .inl (upd (upd (upd (upd (upd (upd (fun _ => 0) 2 (60 : Int32)) 3 (20 : Int32)) 4 (2 : Int32)) 5 (1 : Int32)) 11 (15 : Int32)) 12 (1 : Int32)))), (mq1, .inl (ka 0, 60, .inl (fun _ => 0))), (mq2, .inl (ka 0, 24, .inl (fun _ => 0))), (mq3, .inl (ka 0, 48, .inl (fun _ => 0))), (mq4, .inl (ka 0, 8241, .inl (fun _ => 0))), (mq5, .inl (ka 0, 201, .inl (fun _ => 0))), (mq6, .inl (ka 0, 201, .inl (fun _ => 0))), (mq7, .inl (ka 0, 85, .inl (fun _ => 0))), (mq8, .inl (ka 0, 4, .inl (upd (upd (upd (upd (fun _ => 0) 0 (-1 : Int32)) 1 (-1 : Int32)) 2 (-1 : Int32)) 3 (-1 : Int32)))), (mq9, .inl (ka 0, 4, .inl (fun _ => 0))), (mq10, .inl (ka 1, 96, .inr (.inl (fun _ => 0)))), (mq11, .inl (ka 1, 24, .inr (.inl (fun _ => 0))))] rfl ?_
    refine g_cs 48 11897 rfl rfl ?_
    refine g_astore_n C [(2, .ref mb), (1, .ref xb), (0, .ref b)] dL_law_15 (by decide) rfl ?_
    refine g_iconst C (0 : Int32) dL_law_16 ci_0 ?_
    refine g_istore_n C [(3, .int (0 : Int32)), (2, .ref mb), (1, .ref xb), (0, .ref b)] dL_law_17 (by decide) rfl ?_
    refine g_lv (lv' := [(0, .ref b), (1, .ref xb), (2, .ref mb), (3, .int (nI (6 * 0)))]) [3, 2, 1, 0] rfl ?_
    refine g_sub (wC (fun k => (List.lookup k [(4, xq25), (99, xb), (114, xq1), (115, xq2), (116, xq3), (117, xq4), (199, xq0), (214, xq6), (215, xq7), (216, xq8), (217, xq9), (299, xq5), (300, xq11), (301, xq12), (302, xq13), (303, xq14), (304, xq15), (305, xq16), (399, xq10), (400, xq18), (401, xq19), (402, xq20), (403, xq21), (404, xq22), (405, xq23), (406, xq24), (499, xq17), (503, xq27), (599, xq26), (603, xq29), (699, xq28), (703, xq31), (799, xq30), (803, xq33), (899, xq32)]).getD 0) ka iFc iRc iJc iPc [] ++ wM (fun k => (List.lookup k [(0, mq0), (3, mq1), (7, mq2), (8, mq3), (10, mq4), (11, mq5), (12, mq6), (13, mq7), (16, mq8), (17, mq9), (18, mq10), (19, mq11), (20, mb)]).getD 0) ka iFm iRm iJm) [0, 1, 6, 11, 18, 27, 29, 31, 33, 2, 3, 4, 5, 7, 8, 9, 10, 12, 13, 14, 15, 16, 17, 19, 20, 21, 22, 23, 24, 25, 26, 28, 30, 32, 34, 35, 36, 37, 38, 39, 40, 41, 42, 43, 44, 45, 46, 47] rfl rfl (by decide) ?_
    refine g_widen (k := 48 + 4 * 0) (z := 11900 + 8 * 0) (by decide) (by decide) ?_
    exact law_loop (adc := fun k => (List.lookup k [(4, xq25), (99, xb), (114, xq1), (115, xq2), (116, xq3), (117, xq4), (199, xq0), (214, xq6), (215, xq7), (216, xq8), (217, xq9), (299, xq5), (300, xq11), (301, xq12), (302, xq13), (303, xq14), (304, xq15), (305, xq16), (399, xq10), (400, xq18), (401, xq19), (402, xq20), (403, xq21), (404, xq22), (405, xq23), (406, xq24), (499, xq17), (503, xq27), (599, xq26), (603, xq29), (699, xq28), (703, xq31), (799, xq30), (803, xq33), (899, xq32)]).getD 0) (adm := fun k => (List.lookup k [(0, mq0), (3, mq1), (7, mq2), (8, mq3), (10, mq4), (11, mq5), (12, mq6), (13, mq7), (16, mq8), (17, mq9), (18, mq10), (19, mq11), (20, mb)]).getD 0) C ⟨rfl, rfl⟩ hX hbl hbA hL ok hend (L + 2) 0 iFc iRc iJc iPc [] iFm iRm iJm (by omega) (by omega) h0
  exact key s.heap [] _ hP0 hD0 va_S.rf (by rw [show ((xC (p, l, e, room_1, s, m, #[Value.ref b], below, meth, c, (dC, dI), (fun q : Nat => s.heap.size ≤ q), lw_Z below #[Value.ref b] s)).maxLocals) = 4 from hml]; exact hl)
