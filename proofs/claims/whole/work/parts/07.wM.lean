abbrev FT : Type := Nat → Int32
abbrev RT : Type := Nat → Nat → Int32
abbrev JT : Type := Nat → Nat → Int64
/-- the fields of the reference object -/
def fsM (ad : Nat → Nat) (F : FT) : List Value := [.ref (ad 0), .int (F 1), .int (F 2), .ref (ad 3), .int (F 4), .int (F 5), .int (F 6), .ref (ad 7), .ref (ad 8), .int (F 9), .ref (ad 10), .ref (ad 11), .ref (ad 12), .ref (ad 13), .int (F 14), .int (F 15), .ref (ad 16), .ref (ad 17), .ref (ad 18), .ref (ad 19)]
/-- the world of the reference -/
def wM (ad : Nat → Nat) (ka : Nat → ClassId) (F : FT) (R : RT) (J : JT) : va_W := [(ad 20, .inr (10, fsM ad F)), (ad 0, .inl (ka 0, 37, .inl (R 0))), (ad 3, .inl (ka 0, 60, .inl (R 3))), (ad 7, .inl (ka 0, 24, .inl (R 7))), (ad 8, .inl (ka 0, 48, .inl (R 8))), (ad 10, .inl (ka 0, 8241, .inl (R 10))), (ad 11, .inl (ka 0, 201, .inl (R 11))), (ad 12, .inl (ka 0, 201, .inl (R 12))), (ad 13, .inl (ka 0, 85, .inl (R 13))), (ad 16, .inl (ka 0, 4, .inl (R 16))), (ad 17, .inl (ka 0, 4, .inl (R 17))), (ad 18, .inl (ka 1, 96, .inr (.inl (J 18)))), (ad 19, .inl (ka 1, 24, .inr (.inl (J 19))))]
set_option maxHeartbeats 4000000 in
set_option maxRecDepth 100000 in
theorem wM_at {ad : Nat → Nat} {ka : Nat → ClassId} {F : FT} {R : RT} {J : JT} : (wM ad ka F R J)[0]? = some (ad 20, .inr (10, fsM ad F)) := rfl
set_option maxHeartbeats 4000000 in
set_option maxRecDepth 100000 in
theorem inX10 : ∀ w ∈ u_ws RX10 TX10 20, w ∈ gw := by
  intro w hw
  obtain ⟨k, hk, rfl⟩ := List.mem_map.mp hw
  have hk := List.mem_range.mp hk
  match k, hk with
  | 0, _ => exact (gw_of tw4_90 rfl)
  | 1, _ => exact (gw_of tw4_92 rfl)
  | 2, _ => exact (gw_of tw4_94 rfl)
  | 3, _ => exact (gw_of tw4_96 rfl)
  | 4, _ => exact (gw_of tw4_98 rfl)
  | 5, _ => exact (gw_of tw4_100 rfl)
  | 6, _ => exact (gw_of tw4_102 rfl)
  | 7, _ => exact (gw_of tw4_104 rfl)
  | 8, _ => exact (gw_of tw4_106 rfl)
  | 9, _ => exact (gw_of tw4_108 rfl)
  | 10, _ => exact (gw_of tw4_110 rfl)
  | 11, _ => exact (gw_of tw4_112 rfl)
  | 12, _ => exact (gw_of tw4_114 rfl)
  | 13, _ => exact (gw_of tw4_116 rfl)
  | 14, _ => exact (gw_of tw4_118 rfl)
  | 15, _ => exact (gw_of tw4_120 rfl)
  | 16, _ => exact (gw_of tw4_122 rfl)
  | 17, _ => exact (gw_of tw4_124 rfl)
  | 18, _ => exact (gw_of tw4_126 rfl)
  | 19, _ => exact (gw_of tw4_128 rfl)
  | k + 20, hk => omega
set_option maxHeartbeats 4000000 in
set_option maxRecDepth 100000 in
theorem Mg_now {X : XT} {cc : ByteArray} {nL : Nat} {rt : Option FieldType} {ka : Nat → ClassId} {lvl cells slots pc : Nat} {lv : List (Nat × Value)} {st : List Value} {ad : Nat → Nat} {F : FT} {R : RT} {J : JT} (C : Cx X cc nL RX10 rt ka lvl) (d : decode cc pc = .ok (.getfield 7, 3)) (kk : G X cells slots (wM ad ka F R J) (pc + 3) lv (.ref (ad 0) :: st)) : G X cells slots (wM ad ka F R J) pc lv (.ref (ad 20) :: st) := g_get C 0 wM_at (hc := rfl) inX10 0 (by decide) (index := 7) (ref := "SummerWallModel") (gw_of tw4_70 rfl) rfl rfl d kk
set_option maxHeartbeats 4000000 in
set_option maxRecDepth 100000 in
theorem Ma_now {X : XT} {cc : ByteArray} {nL : Nat} {rt : Option FieldType} {ka : Nat → ClassId} {lvl cells slots pc : Nat} {lv : List (Nat × Value)} {st : List Value} {ad : Nat → Nat} {F : FT} {R : RT} {J : JT} (C : Cx X cc nL RX10 rt ka lvl) {f : Nat → Int32} (hf : R 0 = f) {i : Int32} (j : Nat) (hj : i.toNatClampNeg = j) (hi : vp_in i 37) (d : decode cc pc = .ok (.iaload, 1)) (kk : G X cells slots (wM ad ka F R J) (pc + 1) lv (.int (f j) :: st)) : G X cells slots (wM ad ka F R J) pc lv (.int i :: .ref (ad 0) :: st) := by
  subst hf; subst hj
  exact g_iald C 1 rfl hi d kk
set_option maxHeartbeats 4000000 in
set_option maxRecDepth 100000 in
theorem Ms_now {X : XT} {cc : ByteArray} {nL : Nat} {rt : Option FieldType} {ka : Nat → ClassId} {lvl cells slots pc : Nat} {lv : List (Nat × Value)} {st : List Value} {ad : Nat → Nat} {F : FT} {R : RT} {J : JT} (C : Cx X cc nL RX10 rt ka lvl) {f : Nat → Int32} (hf : R 0 = f) {i : Int32} {x : Int32} (j : Nat) (hj : i.toNatClampNeg = j) (hi : vp_in i 37) (d : decode cc pc = .ok (.iastore, 1)) (kk : G X cells slots (wM ad ka F (va_up R 0 (upd f j x)) J) (pc + 1) lv st) : G X cells slots (wM ad ka F R J) pc lv (.int x :: .int i :: .ref (ad 0) :: st) := by
  subst hf; subst hj
  exact g_iast C 1 rfl hi _ rfl d kk
set_option maxHeartbeats 4000000 in
set_option maxRecDepth 100000 in
theorem Mg_faster {X : XT} {cc : ByteArray} {nL : Nat} {rt : Option FieldType} {ka : Nat → ClassId} {lvl cells slots pc : Nat} {lv : List (Nat × Value)} {st : List Value} {ad : Nat → Nat} {F : FT} {R : RT} {J : JT} (C : Cx X cc nL RX10 rt ka lvl) {v : Int32} (hv : F 1 = v) (d : decode cc pc = .ok (.getfield 13, 3)) (kk : G X cells slots (wM ad ka F R J) (pc + 3) lv (.int v :: st)) : G X cells slots (wM ad ka F R J) pc lv (.ref (ad 20) :: st) := by
  subst hv
  exact g_get C 0 wM_at (hc := rfl) inX10 1 (by decide) (index := 13) (ref := "SummerWallModel") (gw_of tw4_71 rfl) rfl rfl d kk
set_option maxHeartbeats 4000000 in
set_option maxRecDepth 100000 in
theorem Mp_faster {X : XT} {cc : ByteArray} {nL : Nat} {rt : Option FieldType} {ka : Nat → ClassId} {lvl cells slots pc : Nat} {lv : List (Nat × Value)} {st : List Value} {ad : Nat → Nat} {F : FT} {R : RT} {J : JT} (C : Cx X cc nL RX10 rt ka lvl) {x : Int32} (d : decode cc pc = .ok (.putfield 13, 3)) (kk : G X cells slots (wM ad ka (upd F 1 x) R J) (pc + 3) lv st) : G X cells slots (wM ad ka F R J) pc lv (.int x :: .ref (ad 20) :: st) := g_put C 0 wM_at (hc := rfl) inX10 tyX10 tyX10_ok nmX10 1 (by decide) (index := 13) (ref := "SummerWallModel") (gw_of tw4_71 rfl) rfl rfl rfl rfl (Nat.le_of_ble_eq_true rfl) _ rfl d kk
set_option maxHeartbeats 4000000 in
set_option maxRecDepth 100000 in
theorem Mg_by {X : XT} {cc : ByteArray} {nL : Nat} {rt : Option FieldType} {ka : Nat → ClassId} {lvl cells slots pc : Nat} {lv : List (Nat × Value)} {st : List Value} {ad : Nat → Nat} {F : FT} {R : RT} {J : JT} (C : Cx X cc nL RX10 rt ka lvl) {v : Int32} (hv : F 2 = v) (d : decode cc pc = .ok (.getfield 57, 3)) (kk : G X cells slots (wM ad ka F R J) (pc + 3) lv (.int v :: st)) : G X cells slots (wM ad ka F R J) pc lv (.ref (ad 20) :: st) := by
  subst hv
  exact g_get C 0 wM_at (hc := rfl) inX10 2 (by decide) (index := 57) (ref := "SummerWallModel") (gw_of tw4_72 rfl) rfl rfl d kk
set_option maxHeartbeats 4000000 in
set_option maxRecDepth 100000 in
theorem Mp_by {X : XT} {cc : ByteArray} {nL : Nat} {rt : Option FieldType} {ka : Nat → ClassId} {lvl cells slots pc : Nat} {lv : List (Nat × Value)} {st : List Value} {ad : Nat → Nat} {F : FT} {R : RT} {J : JT} (C : Cx X cc nL RX10 rt ka lvl) {x : Int32} (d : decode cc pc = .ok (.putfield 57, 3)) (kk : G X cells slots (wM ad ka (upd F 2 x) R J) (pc + 3) lv st) : G X cells slots (wM ad ka F R J) pc lv (.int x :: .ref (ad 20) :: st) := g_put C 0 wM_at (hc := rfl) inX10 tyX10 tyX10_ok nmX10 2 (by decide) (index := 57) (ref := "SummerWallModel") (gw_of tw4_72 rfl) rfl rfl rfl rfl (Nat.le_of_ble_eq_true rfl) _ rfl d kk
set_option maxHeartbeats 4000000 in
set_option maxRecDepth 100000 in
theorem Mg_tape {X : XT} {cc : ByteArray} {nL : Nat} {rt : Option FieldType} {ka : Nat → ClassId} {lvl cells slots pc : Nat} {lv : List (Nat × Value)} {st : List Value} {ad : Nat → Nat} {F : FT} {R : RT} {J : JT} (C : Cx X cc nL RX10 rt ka lvl) (d : decode cc pc = .ok (.getfield 17, 3)) (kk : G X cells slots (wM ad ka F R J) (pc + 3) lv (.ref (ad 3) :: st)) : G X cells slots (wM ad ka F R J) pc lv (.ref (ad 20) :: st) := g_get C 0 wM_at (hc := rfl) inX10 3 (by decide) (index := 17) (ref := "SummerWallModel") (gw_of tw4_73 rfl) rfl rfl d kk
set_option maxHeartbeats 4000000 in
set_option maxRecDepth 100000 in
theorem Ma_tape {X : XT} {cc : ByteArray} {nL : Nat} {rt : Option FieldType} {ka : Nat → ClassId} {lvl cells slots pc : Nat} {lv : List (Nat × Value)} {st : List Value} {ad : Nat → Nat} {F : FT} {R : RT} {J : JT} (C : Cx X cc nL RX10 rt ka lvl) {f : Nat → Int32} (hf : R 3 = f) {i : Int32} (j : Nat) (hj : i.toNatClampNeg = j) (hi : vp_in i 60) (d : decode cc pc = .ok (.iaload, 1)) (kk : G X cells slots (wM ad ka F R J) (pc + 1) lv (.int (f j) :: st)) : G X cells slots (wM ad ka F R J) pc lv (.int i :: .ref (ad 3) :: st) := by
  subst hf; subst hj
  exact g_iald C 2 rfl hi d kk
set_option maxHeartbeats 4000000 in
set_option maxRecDepth 100000 in
theorem Ms_tape {X : XT} {cc : ByteArray} {nL : Nat} {rt : Option FieldType} {ka : Nat → ClassId} {lvl cells slots pc : Nat} {lv : List (Nat × Value)} {st : List Value} {ad : Nat → Nat} {F : FT} {R : RT} {J : JT} (C : Cx X cc nL RX10 rt ka lvl) {f : Nat → Int32} (hf : R 3 = f) {i : Int32} {x : Int32} (j : Nat) (hj : i.toNatClampNeg = j) (hi : vp_in i 60) (d : decode cc pc = .ok (.iastore, 1)) (kk : G X cells slots (wM ad ka F (va_up R 3 (upd f j x)) J) (pc + 1) lv st) : G X cells slots (wM ad ka F R J) pc lv (.int x :: .int i :: .ref (ad 3) :: st) := by
  subst hf; subst hj
  exact g_iast C 2 rfl hi _ rfl d kk
set_option maxHeartbeats 4000000 in
set_option maxRecDepth 100000 in
theorem Mg_typed {X : XT} {cc : ByteArray} {nL : Nat} {rt : Option FieldType} {ka : Nat → ClassId} {lvl cells slots pc : Nat} {lv : List (Nat × Value)} {st : List Value} {ad : Nat → Nat} {F : FT} {R : RT} {J : JT} (C : Cx X cc nL RX10 rt ka lvl) {v : Int32} (hv : F 4 = v) (d : decode cc pc = .ok (.getfield 95, 3)) (kk : G X cells slots (wM ad ka F R J) (pc + 3) lv (.int v :: st)) : G X cells slots (wM ad ka F R J) pc lv (.ref (ad 20) :: st) := by
  subst hv
  exact g_get C 0 wM_at (hc := rfl) inX10 4 (by decide) (index := 95) (ref := "SummerWallModel") (gw_of tw4_74 rfl) rfl rfl d kk
set_option maxHeartbeats 4000000 in
set_option maxRecDepth 100000 in
theorem Mp_typed {X : XT} {cc : ByteArray} {nL : Nat} {rt : Option FieldType} {ka : Nat → ClassId} {lvl cells slots pc : Nat} {lv : List (Nat × Value)} {st : List Value} {ad : Nat → Nat} {F : FT} {R : RT} {J : JT} (C : Cx X cc nL RX10 rt ka lvl) {x : Int32} (d : decode cc pc = .ok (.putfield 95, 3)) (kk : G X cells slots (wM ad ka (upd F 4 x) R J) (pc + 3) lv st) : G X cells slots (wM ad ka F R J) pc lv (.int x :: .ref (ad 20) :: st) := g_put C 0 wM_at (hc := rfl) inX10 tyX10 tyX10_ok nmX10 4 (by decide) (index := 95) (ref := "SummerWallModel") (gw_of tw4_74 rfl) rfl rfl rfl rfl (Nat.le_of_ble_eq_true rfl) _ rfl d kk
set_option maxHeartbeats 4000000 in
set_option maxRecDepth 100000 in
theorem Mg_place {X : XT} {cc : ByteArray} {nL : Nat} {rt : Option FieldType} {ka : Nat → ClassId} {lvl cells slots pc : Nat} {lv : List (Nat × Value)} {st : List Value} {ad : Nat → Nat} {F : FT} {R : RT} {J : JT} (C : Cx X cc nL RX10 rt ka lvl) {v : Int32} (hv : F 5 = v) (d : decode cc pc = .ok (.getfield 98, 3)) (kk : G X cells slots (wM ad ka F R J) (pc + 3) lv (.int v :: st)) : G X cells slots (wM ad ka F R J) pc lv (.ref (ad 20) :: st) := by
  subst hv
  exact g_get C 0 wM_at (hc := rfl) inX10 5 (by decide) (index := 98) (ref := "SummerWallModel") (gw_of tw4_75 rfl) rfl rfl d kk
set_option maxHeartbeats 4000000 in
set_option maxRecDepth 100000 in
theorem Mp_place {X : XT} {cc : ByteArray} {nL : Nat} {rt : Option FieldType} {ka : Nat → ClassId} {lvl cells slots pc : Nat} {lv : List (Nat × Value)} {st : List Value} {ad : Nat → Nat} {F : FT} {R : RT} {J : JT} (C : Cx X cc nL RX10 rt ka lvl) {x : Int32} (d : decode cc pc = .ok (.putfield 98, 3)) (kk : G X cells slots (wM ad ka (upd F 5 x) R J) (pc + 3) lv st) : G X cells slots (wM ad ka F R J) pc lv (.int x :: .ref (ad 20) :: st) := g_put C 0 wM_at (hc := rfl) inX10 tyX10 tyX10_ok nmX10 5 (by decide) (index := 98) (ref := "SummerWallModel") (gw_of tw4_75 rfl) rfl rfl rfl rfl (Nat.le_of_ble_eq_true rfl) _ rfl d kk
set_option maxHeartbeats 4000000 in
set_option maxRecDepth 100000 in
theorem Mg_isFault {X : XT} {cc : ByteArray} {nL : Nat} {rt : Option FieldType} {ka : Nat → ClassId} {lvl cells slots pc : Nat} {lv : List (Nat × Value)} {st : List Value} {ad : Nat → Nat} {F : FT} {R : RT} {J : JT} (C : Cx X cc nL RX10 rt ka lvl) {v : Int32} (hv : F 6 = v) (d : decode cc pc = .ok (.getfield 101, 3)) (kk : G X cells slots (wM ad ka F R J) (pc + 3) lv (.int v :: st)) : G X cells slots (wM ad ka F R J) pc lv (.ref (ad 20) :: st) := by
  subst hv
  exact g_get C 0 wM_at (hc := rfl) inX10 6 (by decide) (index := 101) (ref := "SummerWallModel") (gw_of tw4_76 rfl) rfl rfl d kk
set_option maxHeartbeats 4000000 in
set_option maxRecDepth 100000 in
theorem Mp_isFault {X : XT} {cc : ByteArray} {nL : Nat} {rt : Option FieldType} {ka : Nat → ClassId} {lvl cells slots pc : Nat} {lv : List (Nat × Value)} {st : List Value} {ad : Nat → Nat} {F : FT} {R : RT} {J : JT} (C : Cx X cc nL RX10 rt ka lvl) {x : Int32} (hb : isB x) (d : decode cc pc = .ok (.putfield 101, 3)) (kk : G X cells slots (wM ad ka (upd F 6 x) R J) (pc + 3) lv st) : G X cells slots (wM ad ka F R J) pc lv (.int x :: .ref (ad 20) :: st) := g_put C 0 wM_at (hc := rfl) inX10 tyX10 tyX10_ok nmX10 6 (by decide) (index := 101) (ref := "SummerWallModel") (gw_of tw4_76 rfl) rfl rfl (nar_B hb) (fit_B hb) (Nat.le_of_ble_eq_true rfl) _ rfl d kk
set_option maxHeartbeats 4000000 in
set_option maxRecDepth 100000 in
theorem Mg_read {X : XT} {cc : ByteArray} {nL : Nat} {rt : Option FieldType} {ka : Nat → ClassId} {lvl cells slots pc : Nat} {lv : List (Nat × Value)} {st : List Value} {ad : Nat → Nat} {F : FT} {R : RT} {J : JT} (C : Cx X cc nL RX10 rt ka lvl) (d : decode cc pc = .ok (.getfield 20, 3)) (kk : G X cells slots (wM ad ka F R J) (pc + 3) lv (.ref (ad 7) :: st)) : G X cells slots (wM ad ka F R J) pc lv (.ref (ad 20) :: st) := g_get C 0 wM_at (hc := rfl) inX10 7 (by decide) (index := 20) (ref := "SummerWallModel") (gw_of tw4_77 rfl) rfl rfl d kk
set_option maxHeartbeats 4000000 in
set_option maxRecDepth 100000 in
theorem Ma_read {X : XT} {cc : ByteArray} {nL : Nat} {rt : Option FieldType} {ka : Nat → ClassId} {lvl cells slots pc : Nat} {lv : List (Nat × Value)} {st : List Value} {ad : Nat → Nat} {F : FT} {R : RT} {J : JT} (C : Cx X cc nL RX10 rt ka lvl) {f : Nat → Int32} (hf : R 7 = f) {i : Int32} (j : Nat) (hj : i.toNatClampNeg = j) (hi : vp_in i 24) (d : decode cc pc = .ok (.iaload, 1)) (kk : G X cells slots (wM ad ka F R J) (pc + 1) lv (.int (f j) :: st)) : G X cells slots (wM ad ka F R J) pc lv (.int i :: .ref (ad 7) :: st) := by
  subst hf; subst hj
  exact g_iald C 3 rfl hi d kk
set_option maxHeartbeats 4000000 in
set_option maxRecDepth 100000 in
theorem Ms_read {X : XT} {cc : ByteArray} {nL : Nat} {rt : Option FieldType} {ka : Nat → ClassId} {lvl cells slots pc : Nat} {lv : List (Nat × Value)} {st : List Value} {ad : Nat → Nat} {F : FT} {R : RT} {J : JT} (C : Cx X cc nL RX10 rt ka lvl) {f : Nat → Int32} (hf : R 7 = f) {i : Int32} {x : Int32} (j : Nat) (hj : i.toNatClampNeg = j) (hi : vp_in i 24) (d : decode cc pc = .ok (.iastore, 1)) (kk : G X cells slots (wM ad ka F (va_up R 7 (upd f j x)) J) (pc + 1) lv st) : G X cells slots (wM ad ka F R J) pc lv (.int x :: .int i :: .ref (ad 7) :: st) := by
  subst hf; subst hj
  exact g_iast C 3 rfl hi _ rfl d kk
set_option maxHeartbeats 4000000 in
set_option maxRecDepth 100000 in
theorem Mg_undone {X : XT} {cc : ByteArray} {nL : Nat} {rt : Option FieldType} {ka : Nat → ClassId} {lvl cells slots pc : Nat} {lv : List (Nat × Value)} {st : List Value} {ad : Nat → Nat} {F : FT} {R : RT} {J : JT} (C : Cx X cc nL RX10 rt ka lvl) (d : decode cc pc = .ok (.getfield 23, 3)) (kk : G X cells slots (wM ad ka F R J) (pc + 3) lv (.ref (ad 8) :: st)) : G X cells slots (wM ad ka F R J) pc lv (.ref (ad 20) :: st) := g_get C 0 wM_at (hc := rfl) inX10 8 (by decide) (index := 23) (ref := "SummerWallModel") (gw_of tw4_78 rfl) rfl rfl d kk
set_option maxHeartbeats 4000000 in
set_option maxRecDepth 100000 in
theorem Ma_undone {X : XT} {cc : ByteArray} {nL : Nat} {rt : Option FieldType} {ka : Nat → ClassId} {lvl cells slots pc : Nat} {lv : List (Nat × Value)} {st : List Value} {ad : Nat → Nat} {F : FT} {R : RT} {J : JT} (C : Cx X cc nL RX10 rt ka lvl) {f : Nat → Int32} (hf : R 8 = f) {i : Int32} (j : Nat) (hj : i.toNatClampNeg = j) (hi : vp_in i 48) (d : decode cc pc = .ok (.iaload, 1)) (kk : G X cells slots (wM ad ka F R J) (pc + 1) lv (.int (f j) :: st)) : G X cells slots (wM ad ka F R J) pc lv (.int i :: .ref (ad 8) :: st) := by
  subst hf; subst hj
  exact g_iald C 4 rfl hi d kk
set_option maxHeartbeats 4000000 in
set_option maxRecDepth 100000 in
theorem Ms_undone {X : XT} {cc : ByteArray} {nL : Nat} {rt : Option FieldType} {ka : Nat → ClassId} {lvl cells slots pc : Nat} {lv : List (Nat × Value)} {st : List Value} {ad : Nat → Nat} {F : FT} {R : RT} {J : JT} (C : Cx X cc nL RX10 rt ka lvl) {f : Nat → Int32} (hf : R 8 = f) {i : Int32} {x : Int32} (j : Nat) (hj : i.toNatClampNeg = j) (hi : vp_in i 48) (d : decode cc pc = .ok (.iastore, 1)) (kk : G X cells slots (wM ad ka F (va_up R 8 (upd f j x)) J) (pc + 1) lv st) : G X cells slots (wM ad ka F R J) pc lv (.int x :: .int i :: .ref (ad 8) :: st) := by
  subst hf; subst hj
  exact g_iast C 4 rfl hi _ rfl d kk
set_option maxHeartbeats 4000000 in
set_option maxRecDepth 100000 in
theorem Mg_undos {X : XT} {cc : ByteArray} {nL : Nat} {rt : Option FieldType} {ka : Nat → ClassId} {lvl cells slots pc : Nat} {lv : List (Nat × Value)} {st : List Value} {ad : Nat → Nat} {F : FT} {R : RT} {J : JT} (C : Cx X cc nL RX10 rt ka lvl) {v : Int32} (hv : F 9 = v) (d : decode cc pc = .ok (.getfield 72, 3)) (kk : G X cells slots (wM ad ka F R J) (pc + 3) lv (.int v :: st)) : G X cells slots (wM ad ka F R J) pc lv (.ref (ad 20) :: st) := by
  subst hv
  exact g_get C 0 wM_at (hc := rfl) inX10 9 (by decide) (index := 72) (ref := "SummerWallModel") (gw_of tw4_79 rfl) rfl rfl d kk
set_option maxHeartbeats 4000000 in
set_option maxRecDepth 100000 in
theorem Mp_undos {X : XT} {cc : ByteArray} {nL : Nat} {rt : Option FieldType} {ka : Nat → ClassId} {lvl cells slots pc : Nat} {lv : List (Nat × Value)} {st : List Value} {ad : Nat → Nat} {F : FT} {R : RT} {J : JT} (C : Cx X cc nL RX10 rt ka lvl) {x : Int32} (d : decode cc pc = .ok (.putfield 72, 3)) (kk : G X cells slots (wM ad ka (upd F 9 x) R J) (pc + 3) lv st) : G X cells slots (wM ad ka F R J) pc lv (.int x :: .ref (ad 20) :: st) := g_put C 0 wM_at (hc := rfl) inX10 tyX10 tyX10_ok nmX10 9 (by decide) (index := 72) (ref := "SummerWallModel") (gw_of tw4_79 rfl) rfl rfl rfl rfl (Nat.le_of_ble_eq_true rfl) _ rfl d kk
set_option maxHeartbeats 4000000 in
set_option maxRecDepth 100000 in
theorem Mg_chances {X : XT} {cc : ByteArray} {nL : Nat} {rt : Option FieldType} {ka : Nat → ClassId} {lvl cells slots pc : Nat} {lv : List (Nat × Value)} {st : List Value} {ad : Nat → Nat} {F : FT} {R : RT} {J : JT} (C : Cx X cc nL RX10 rt ka lvl) (d : decode cc pc = .ok (.getfield 26, 3)) (kk : G X cells slots (wM ad ka F R J) (pc + 3) lv (.ref (ad 10) :: st)) : G X cells slots (wM ad ka F R J) pc lv (.ref (ad 20) :: st) := g_get C 0 wM_at (hc := rfl) inX10 10 (by decide) (index := 26) (ref := "SummerWallModel") (gw_of tw4_80 rfl) rfl rfl d kk
set_option maxHeartbeats 4000000 in
set_option maxRecDepth 100000 in
theorem Ma_chances {X : XT} {cc : ByteArray} {nL : Nat} {rt : Option FieldType} {ka : Nat → ClassId} {lvl cells slots pc : Nat} {lv : List (Nat × Value)} {st : List Value} {ad : Nat → Nat} {F : FT} {R : RT} {J : JT} (C : Cx X cc nL RX10 rt ka lvl) {f : Nat → Int32} (hf : R 10 = f) {i : Int32} (j : Nat) (hj : i.toNatClampNeg = j) (hi : vp_in i 8241) (d : decode cc pc = .ok (.iaload, 1)) (kk : G X cells slots (wM ad ka F R J) (pc + 1) lv (.int (f j) :: st)) : G X cells slots (wM ad ka F R J) pc lv (.int i :: .ref (ad 10) :: st) := by
  subst hf; subst hj
  exact g_iald C 5 rfl hi d kk
set_option maxHeartbeats 4000000 in
set_option maxRecDepth 100000 in
theorem Ms_chances {X : XT} {cc : ByteArray} {nL : Nat} {rt : Option FieldType} {ka : Nat → ClassId} {lvl cells slots pc : Nat} {lv : List (Nat × Value)} {st : List Value} {ad : Nat → Nat} {F : FT} {R : RT} {J : JT} (C : Cx X cc nL RX10 rt ka lvl) {f : Nat → Int32} (hf : R 10 = f) {i : Int32} {x : Int32} (j : Nat) (hj : i.toNatClampNeg = j) (hi : vp_in i 8241) (d : decode cc pc = .ok (.iastore, 1)) (kk : G X cells slots (wM ad ka F (va_up R 10 (upd f j x)) J) (pc + 1) lv st) : G X cells slots (wM ad ka F R J) pc lv (.int x :: .int i :: .ref (ad 10) :: st) := by
  subst hf; subst hj
  exact g_iast C 5 rfl hi _ rfl d kk
set_option maxHeartbeats 4000000 in
set_option maxRecDepth 100000 in
theorem Mg_parts {X : XT} {cc : ByteArray} {nL : Nat} {rt : Option FieldType} {ka : Nat → ClassId} {lvl cells slots pc : Nat} {lv : List (Nat × Value)} {st : List Value} {ad : Nat → Nat} {F : FT} {R : RT} {J : JT} (C : Cx X cc nL RX10 rt ka lvl) (d : decode cc pc = .ok (.getfield 29, 3)) (kk : G X cells slots (wM ad ka F R J) (pc + 3) lv (.ref (ad 11) :: st)) : G X cells slots (wM ad ka F R J) pc lv (.ref (ad 20) :: st) := g_get C 0 wM_at (hc := rfl) inX10 11 (by decide) (index := 29) (ref := "SummerWallModel") (gw_of tw4_81 rfl) rfl rfl d kk
set_option maxHeartbeats 4000000 in
set_option maxRecDepth 100000 in
theorem Ma_parts {X : XT} {cc : ByteArray} {nL : Nat} {rt : Option FieldType} {ka : Nat → ClassId} {lvl cells slots pc : Nat} {lv : List (Nat × Value)} {st : List Value} {ad : Nat → Nat} {F : FT} {R : RT} {J : JT} (C : Cx X cc nL RX10 rt ka lvl) {f : Nat → Int32} (hf : R 11 = f) {i : Int32} (j : Nat) (hj : i.toNatClampNeg = j) (hi : vp_in i 201) (d : decode cc pc = .ok (.iaload, 1)) (kk : G X cells slots (wM ad ka F R J) (pc + 1) lv (.int (f j) :: st)) : G X cells slots (wM ad ka F R J) pc lv (.int i :: .ref (ad 11) :: st) := by
  subst hf; subst hj
  exact g_iald C 6 rfl hi d kk
set_option maxHeartbeats 4000000 in
set_option maxRecDepth 100000 in
theorem Ms_parts {X : XT} {cc : ByteArray} {nL : Nat} {rt : Option FieldType} {ka : Nat → ClassId} {lvl cells slots pc : Nat} {lv : List (Nat × Value)} {st : List Value} {ad : Nat → Nat} {F : FT} {R : RT} {J : JT} (C : Cx X cc nL RX10 rt ka lvl) {f : Nat → Int32} (hf : R 11 = f) {i : Int32} {x : Int32} (j : Nat) (hj : i.toNatClampNeg = j) (hi : vp_in i 201) (d : decode cc pc = .ok (.iastore, 1)) (kk : G X cells slots (wM ad ka F (va_up R 11 (upd f j x)) J) (pc + 1) lv st) : G X cells slots (wM ad ka F R J) pc lv (.int x :: .int i :: .ref (ad 11) :: st) := by
  subst hf; subst hj
  exact g_iast C 6 rfl hi _ rfl d kk
set_option maxHeartbeats 4000000 in
set_option maxRecDepth 100000 in
theorem Mg_nexts {X : XT} {cc : ByteArray} {nL : Nat} {rt : Option FieldType} {ka : Nat → ClassId} {lvl cells slots pc : Nat} {lv : List (Nat × Value)} {st : List Value} {ad : Nat → Nat} {F : FT} {R : RT} {J : JT} (C : Cx X cc nL RX10 rt ka lvl) (d : decode cc pc = .ok (.getfield 32, 3)) (kk : G X cells slots (wM ad ka F R J) (pc + 3) lv (.ref (ad 12) :: st)) : G X cells slots (wM ad ka F R J) pc lv (.ref (ad 20) :: st) := g_get C 0 wM_at (hc := rfl) inX10 12 (by decide) (index := 32) (ref := "SummerWallModel") (gw_of tw4_82 rfl) rfl rfl d kk
set_option maxHeartbeats 4000000 in
set_option maxRecDepth 100000 in
theorem Ma_nexts {X : XT} {cc : ByteArray} {nL : Nat} {rt : Option FieldType} {ka : Nat → ClassId} {lvl cells slots pc : Nat} {lv : List (Nat × Value)} {st : List Value} {ad : Nat → Nat} {F : FT} {R : RT} {J : JT} (C : Cx X cc nL RX10 rt ka lvl) {f : Nat → Int32} (hf : R 12 = f) {i : Int32} (j : Nat) (hj : i.toNatClampNeg = j) (hi : vp_in i 201) (d : decode cc pc = .ok (.iaload, 1)) (kk : G X cells slots (wM ad ka F R J) (pc + 1) lv (.int (f j) :: st)) : G X cells slots (wM ad ka F R J) pc lv (.int i :: .ref (ad 12) :: st) := by
  subst hf; subst hj
  exact g_iald C 7 rfl hi d kk
set_option maxHeartbeats 4000000 in
set_option maxRecDepth 100000 in
theorem Ms_nexts {X : XT} {cc : ByteArray} {nL : Nat} {rt : Option FieldType} {ka : Nat → ClassId} {lvl cells slots pc : Nat} {lv : List (Nat × Value)} {st : List Value} {ad : Nat → Nat} {F : FT} {R : RT} {J : JT} (C : Cx X cc nL RX10 rt ka lvl) {f : Nat → Int32} (hf : R 12 = f) {i : Int32} {x : Int32} (j : Nat) (hj : i.toNatClampNeg = j) (hi : vp_in i 201) (d : decode cc pc = .ok (.iastore, 1)) (kk : G X cells slots (wM ad ka F (va_up R 12 (upd f j x)) J) (pc + 1) lv st) : G X cells slots (wM ad ka F R J) pc lv (.int x :: .int i :: .ref (ad 12) :: st) := by
  subst hf; subst hj
  exact g_iast C 7 rfl hi _ rfl d kk
set_option maxHeartbeats 4000000 in
set_option maxRecDepth 100000 in
theorem Mg_kept {X : XT} {cc : ByteArray} {nL : Nat} {rt : Option FieldType} {ka : Nat → ClassId} {lvl cells slots pc : Nat} {lv : List (Nat × Value)} {st : List Value} {ad : Nat → Nat} {F : FT} {R : RT} {J : JT} (C : Cx X cc nL RX10 rt ka lvl) (d : decode cc pc = .ok (.getfield 35, 3)) (kk : G X cells slots (wM ad ka F R J) (pc + 3) lv (.ref (ad 13) :: st)) : G X cells slots (wM ad ka F R J) pc lv (.ref (ad 20) :: st) := g_get C 0 wM_at (hc := rfl) inX10 13 (by decide) (index := 35) (ref := "SummerWallModel") (gw_of tw4_83 rfl) rfl rfl d kk
set_option maxHeartbeats 4000000 in
set_option maxRecDepth 100000 in
theorem Ma_kept {X : XT} {cc : ByteArray} {nL : Nat} {rt : Option FieldType} {ka : Nat → ClassId} {lvl cells slots pc : Nat} {lv : List (Nat × Value)} {st : List Value} {ad : Nat → Nat} {F : FT} {R : RT} {J : JT} (C : Cx X cc nL RX10 rt ka lvl) {f : Nat → Int32} (hf : R 13 = f) {i : Int32} (j : Nat) (hj : i.toNatClampNeg = j) (hi : vp_in i 85) (d : decode cc pc = .ok (.iaload, 1)) (kk : G X cells slots (wM ad ka F R J) (pc + 1) lv (.int (f j) :: st)) : G X cells slots (wM ad ka F R J) pc lv (.int i :: .ref (ad 13) :: st) := by
  subst hf; subst hj
  exact g_iald C 8 rfl hi d kk
set_option maxHeartbeats 4000000 in
set_option maxRecDepth 100000 in
theorem Ms_kept {X : XT} {cc : ByteArray} {nL : Nat} {rt : Option FieldType} {ka : Nat → ClassId} {lvl cells slots pc : Nat} {lv : List (Nat × Value)} {st : List Value} {ad : Nat → Nat} {F : FT} {R : RT} {J : JT} (C : Cx X cc nL RX10 rt ka lvl) {f : Nat → Int32} (hf : R 13 = f) {i : Int32} {x : Int32} (j : Nat) (hj : i.toNatClampNeg = j) (hi : vp_in i 85) (d : decode cc pc = .ok (.iastore, 1)) (kk : G X cells slots (wM ad ka F (va_up R 13 (upd f j x)) J) (pc + 1) lv st) : G X cells slots (wM ad ka F R J) pc lv (.int x :: .int i :: .ref (ad 13) :: st) := by
  subst hf; subst hj
  exact g_iast C 8 rfl hi _ rfl d kk
set_option maxHeartbeats 4000000 in
set_option maxRecDepth 100000 in
theorem Mg_keptUndos {X : XT} {cc : ByteArray} {nL : Nat} {rt : Option FieldType} {ka : Nat → ClassId} {lvl cells slots pc : Nat} {lv : List (Nat × Value)} {st : List Value} {ad : Nat → Nat} {F : FT} {R : RT} {J : JT} (C : Cx X cc nL RX10 rt ka lvl) {v : Int32} (hv : F 14 = v) (d : decode cc pc = .ok (.getfield 201, 3)) (kk : G X cells slots (wM ad ka F R J) (pc + 3) lv (.int v :: st)) : G X cells slots (wM ad ka F R J) pc lv (.ref (ad 20) :: st) := by
  subst hv
  exact g_get C 0 wM_at (hc := rfl) inX10 14 (by decide) (index := 201) (ref := "SummerWallModel") (gw_of tw4_84 rfl) rfl rfl d kk
set_option maxHeartbeats 4000000 in
set_option maxRecDepth 100000 in
theorem Mp_keptUndos {X : XT} {cc : ByteArray} {nL : Nat} {rt : Option FieldType} {ka : Nat → ClassId} {lvl cells slots pc : Nat} {lv : List (Nat × Value)} {st : List Value} {ad : Nat → Nat} {F : FT} {R : RT} {J : JT} (C : Cx X cc nL RX10 rt ka lvl) {x : Int32} (d : decode cc pc = .ok (.putfield 201, 3)) (kk : G X cells slots (wM ad ka (upd F 14 x) R J) (pc + 3) lv st) : G X cells slots (wM ad ka F R J) pc lv (.int x :: .ref (ad 20) :: st) := g_put C 0 wM_at (hc := rfl) inX10 tyX10 tyX10_ok nmX10 14 (by decide) (index := 201) (ref := "SummerWallModel") (gw_of tw4_84 rfl) rfl rfl rfl rfl (Nat.le_of_ble_eq_true rfl) _ rfl d kk
set_option maxHeartbeats 4000000 in
set_option maxRecDepth 100000 in
theorem Mg_isKept {X : XT} {cc : ByteArray} {nL : Nat} {rt : Option FieldType} {ka : Nat → ClassId} {lvl cells slots pc : Nat} {lv : List (Nat × Value)} {st : List Value} {ad : Nat → Nat} {F : FT} {R : RT} {J : JT} (C : Cx X cc nL RX10 rt ka lvl) {v : Int32} (hv : F 15 = v) (d : decode cc pc = .ok (.getfield 204, 3)) (kk : G X cells slots (wM ad ka F R J) (pc + 3) lv (.int v :: st)) : G X cells slots (wM ad ka F R J) pc lv (.ref (ad 20) :: st) := by
  subst hv
  exact g_get C 0 wM_at (hc := rfl) inX10 15 (by decide) (index := 204) (ref := "SummerWallModel") (gw_of tw4_85 rfl) rfl rfl d kk
set_option maxHeartbeats 4000000 in
set_option maxRecDepth 100000 in
theorem Mp_isKept {X : XT} {cc : ByteArray} {nL : Nat} {rt : Option FieldType} {ka : Nat → ClassId} {lvl cells slots pc : Nat} {lv : List (Nat × Value)} {st : List Value} {ad : Nat → Nat} {F : FT} {R : RT} {J : JT} (C : Cx X cc nL RX10 rt ka lvl) {x : Int32} (hb : isB x) (d : decode cc pc = .ok (.putfield 204, 3)) (kk : G X cells slots (wM ad ka (upd F 15 x) R J) (pc + 3) lv st) : G X cells slots (wM ad ka F R J) pc lv (.int x :: .ref (ad 20) :: st) := g_put C 0 wM_at (hc := rfl) inX10 tyX10 tyX10_ok nmX10 15 (by decide) (index := 204) (ref := "SummerWallModel") (gw_of tw4_85 rfl) rfl rfl (nar_B hb) (fit_B hb) (Nat.le_of_ble_eq_true rfl) _ rfl d kk
set_option maxHeartbeats 4000000 in
set_option maxRecDepth 100000 in
theorem Mg_lanes {X : XT} {cc : ByteArray} {nL : Nat} {rt : Option FieldType} {ka : Nat → ClassId} {lvl cells slots pc : Nat} {lv : List (Nat × Value)} {st : List Value} {ad : Nat → Nat} {F : FT} {R : RT} {J : JT} (C : Cx X cc nL RX10 rt ka lvl) (d : decode cc pc = .ok (.getfield 38, 3)) (kk : G X cells slots (wM ad ka F R J) (pc + 3) lv (.ref (ad 16) :: st)) : G X cells slots (wM ad ka F R J) pc lv (.ref (ad 20) :: st) := g_get C 0 wM_at (hc := rfl) inX10 16 (by decide) (index := 38) (ref := "SummerWallModel") (gw_of tw4_86 rfl) rfl rfl d kk
set_option maxHeartbeats 4000000 in
set_option maxRecDepth 100000 in
theorem Ma_lanes {X : XT} {cc : ByteArray} {nL : Nat} {rt : Option FieldType} {ka : Nat → ClassId} {lvl cells slots pc : Nat} {lv : List (Nat × Value)} {st : List Value} {ad : Nat → Nat} {F : FT} {R : RT} {J : JT} (C : Cx X cc nL RX10 rt ka lvl) {f : Nat → Int32} (hf : R 16 = f) {i : Int32} (j : Nat) (hj : i.toNatClampNeg = j) (hi : vp_in i 4) (d : decode cc pc = .ok (.iaload, 1)) (kk : G X cells slots (wM ad ka F R J) (pc + 1) lv (.int (f j) :: st)) : G X cells slots (wM ad ka F R J) pc lv (.int i :: .ref (ad 16) :: st) := by
  subst hf; subst hj
  exact g_iald C 9 rfl hi d kk
set_option maxHeartbeats 4000000 in
set_option maxRecDepth 100000 in
theorem Ms_lanes {X : XT} {cc : ByteArray} {nL : Nat} {rt : Option FieldType} {ka : Nat → ClassId} {lvl cells slots pc : Nat} {lv : List (Nat × Value)} {st : List Value} {ad : Nat → Nat} {F : FT} {R : RT} {J : JT} (C : Cx X cc nL RX10 rt ka lvl) {f : Nat → Int32} (hf : R 16 = f) {i : Int32} {x : Int32} (j : Nat) (hj : i.toNatClampNeg = j) (hi : vp_in i 4) (d : decode cc pc = .ok (.iastore, 1)) (kk : G X cells slots (wM ad ka F (va_up R 16 (upd f j x)) J) (pc + 1) lv st) : G X cells slots (wM ad ka F R J) pc lv (.int x :: .int i :: .ref (ad 16) :: st) := by
  subst hf; subst hj
  exact g_iast C 9 rfl hi _ rfl d kk
set_option maxHeartbeats 4000000 in
set_option maxRecDepth 100000 in
theorem Mg_sizes {X : XT} {cc : ByteArray} {nL : Nat} {rt : Option FieldType} {ka : Nat → ClassId} {lvl cells slots pc : Nat} {lv : List (Nat × Value)} {st : List Value} {ad : Nat → Nat} {F : FT} {R : RT} {J : JT} (C : Cx X cc nL RX10 rt ka lvl) (d : decode cc pc = .ok (.getfield 41, 3)) (kk : G X cells slots (wM ad ka F R J) (pc + 3) lv (.ref (ad 17) :: st)) : G X cells slots (wM ad ka F R J) pc lv (.ref (ad 20) :: st) := g_get C 0 wM_at (hc := rfl) inX10 17 (by decide) (index := 41) (ref := "SummerWallModel") (gw_of tw4_87 rfl) rfl rfl d kk
set_option maxHeartbeats 4000000 in
set_option maxRecDepth 100000 in
theorem Ma_sizes {X : XT} {cc : ByteArray} {nL : Nat} {rt : Option FieldType} {ka : Nat → ClassId} {lvl cells slots pc : Nat} {lv : List (Nat × Value)} {st : List Value} {ad : Nat → Nat} {F : FT} {R : RT} {J : JT} (C : Cx X cc nL RX10 rt ka lvl) {f : Nat → Int32} (hf : R 17 = f) {i : Int32} (j : Nat) (hj : i.toNatClampNeg = j) (hi : vp_in i 4) (d : decode cc pc = .ok (.iaload, 1)) (kk : G X cells slots (wM ad ka F R J) (pc + 1) lv (.int (f j) :: st)) : G X cells slots (wM ad ka F R J) pc lv (.int i :: .ref (ad 17) :: st) := by
  subst hf; subst hj
  exact g_iald C 10 rfl hi d kk
set_option maxHeartbeats 4000000 in
set_option maxRecDepth 100000 in
theorem Ms_sizes {X : XT} {cc : ByteArray} {nL : Nat} {rt : Option FieldType} {ka : Nat → ClassId} {lvl cells slots pc : Nat} {lv : List (Nat × Value)} {st : List Value} {ad : Nat → Nat} {F : FT} {R : RT} {J : JT} (C : Cx X cc nL RX10 rt ka lvl) {f : Nat → Int32} (hf : R 17 = f) {i : Int32} {x : Int32} (j : Nat) (hj : i.toNatClampNeg = j) (hi : vp_in i 4) (d : decode cc pc = .ok (.iastore, 1)) (kk : G X cells slots (wM ad ka F (va_up R 17 (upd f j x)) J) (pc + 1) lv st) : G X cells slots (wM ad ka F R J) pc lv (.int x :: .int i :: .ref (ad 17) :: st) := by
  subst hf; subst hj
  exact g_iast C 10 rfl hi _ rfl d kk
set_option maxHeartbeats 4000000 in
set_option maxRecDepth 100000 in
theorem Mg_items {X : XT} {cc : ByteArray} {nL : Nat} {rt : Option FieldType} {ka : Nat → ClassId} {lvl cells slots pc : Nat} {lv : List (Nat × Value)} {st : List Value} {ad : Nat → Nat} {F : FT} {R : RT} {J : JT} (C : Cx X cc nL RX10 rt ka lvl) (d : decode cc pc = .ok (.getfield 44, 3)) (kk : G X cells slots (wM ad ka F R J) (pc + 3) lv (.ref (ad 18) :: st)) : G X cells slots (wM ad ka F R J) pc lv (.ref (ad 20) :: st) := g_get C 0 wM_at (hc := rfl) inX10 18 (by decide) (index := 44) (ref := "SummerWallModel") (gw_of tw4_88 rfl) rfl rfl d kk
set_option maxHeartbeats 4000000 in
set_option maxRecDepth 100000 in
theorem Ma_items {X : XT} {cc : ByteArray} {nL : Nat} {rt : Option FieldType} {ka : Nat → ClassId} {lvl cells slots pc : Nat} {lv : List (Nat × Value)} {st : List Value} {ad : Nat → Nat} {F : FT} {R : RT} {J : JT} (C : Cx X cc nL RX10 rt ka lvl) {f : Nat → Int64} (hf : J 18 = f) {i : Int32} (j : Nat) (hj : i.toNatClampNeg = j) (hi : vp_in i 96) (d : decode cc pc = .ok (.laload, 1)) (kk : G X cells slots (wM ad ka F R J) (pc + 1) lv (.long (f j) :: st)) : G X cells slots (wM ad ka F R J) pc lv (.int i :: .ref (ad 18) :: st) := by
  subst hf; subst hj
  exact g_lald C 11 rfl hi d kk
set_option maxHeartbeats 4000000 in
set_option maxRecDepth 100000 in
theorem Ms_items {X : XT} {cc : ByteArray} {nL : Nat} {rt : Option FieldType} {ka : Nat → ClassId} {lvl cells slots pc : Nat} {lv : List (Nat × Value)} {st : List Value} {ad : Nat → Nat} {F : FT} {R : RT} {J : JT} (C : Cx X cc nL RX10 rt ka lvl) {f : Nat → Int64} (hf : J 18 = f) {i : Int32} {x : Int64} (j : Nat) (hj : i.toNatClampNeg = j) (hi : vp_in i 96) (d : decode cc pc = .ok (.lastore, 1)) (kk : G X cells slots (wM ad ka F R (va_up J 18 (vp_updL f j x))) (pc + 1) lv st) : G X cells slots (wM ad ka F R J) pc lv (.long x :: .int i :: .ref (ad 18) :: st) := by
  subst hf; subst hj
  exact g_last C 11 rfl hi _ rfl d kk
set_option maxHeartbeats 4000000 in
set_option maxRecDepth 100000 in
theorem Mg_moved {X : XT} {cc : ByteArray} {nL : Nat} {rt : Option FieldType} {ka : Nat → ClassId} {lvl cells slots pc : Nat} {lv : List (Nat × Value)} {st : List Value} {ad : Nat → Nat} {F : FT} {R : RT} {J : JT} (C : Cx X cc nL RX10 rt ka lvl) (d : decode cc pc = .ok (.getfield 48, 3)) (kk : G X cells slots (wM ad ka F R J) (pc + 3) lv (.ref (ad 19) :: st)) : G X cells slots (wM ad ka F R J) pc lv (.ref (ad 20) :: st) := g_get C 0 wM_at (hc := rfl) inX10 19 (by decide) (index := 48) (ref := "SummerWallModel") (gw_of tw4_89 rfl) rfl rfl d kk
set_option maxHeartbeats 4000000 in
set_option maxRecDepth 100000 in
theorem Ma_moved {X : XT} {cc : ByteArray} {nL : Nat} {rt : Option FieldType} {ka : Nat → ClassId} {lvl cells slots pc : Nat} {lv : List (Nat × Value)} {st : List Value} {ad : Nat → Nat} {F : FT} {R : RT} {J : JT} (C : Cx X cc nL RX10 rt ka lvl) {f : Nat → Int64} (hf : J 19 = f) {i : Int32} (j : Nat) (hj : i.toNatClampNeg = j) (hi : vp_in i 24) (d : decode cc pc = .ok (.laload, 1)) (kk : G X cells slots (wM ad ka F R J) (pc + 1) lv (.long (f j) :: st)) : G X cells slots (wM ad ka F R J) pc lv (.int i :: .ref (ad 19) :: st) := by
  subst hf; subst hj
  exact g_lald C 12 rfl hi d kk
set_option maxHeartbeats 4000000 in
set_option maxRecDepth 100000 in
theorem Ms_moved {X : XT} {cc : ByteArray} {nL : Nat} {rt : Option FieldType} {ka : Nat → ClassId} {lvl cells slots pc : Nat} {lv : List (Nat × Value)} {st : List Value} {ad : Nat → Nat} {F : FT} {R : RT} {J : JT} (C : Cx X cc nL RX10 rt ka lvl) {f : Nat → Int64} (hf : J 19 = f) {i : Int32} {x : Int64} (j : Nat) (hj : i.toNatClampNeg = j) (hi : vp_in i 24) (d : decode cc pc = .ok (.lastore, 1)) (kk : G X cells slots (wM ad ka F R (va_up J 19 (vp_updL f j x))) (pc + 1) lv st) : G X cells slots (wM ad ka F R J) pc lv (.long x :: .int i :: .ref (ad 19) :: st) := by
  subst hf; subst hj
  exact g_last C 12 rfl hi _ rfl d kk
