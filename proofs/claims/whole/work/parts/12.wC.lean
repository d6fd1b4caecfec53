abbrev PT : Type := Nat → Nat → Option Nat
abbrev BT : Type := List (Nat × Nat × Int32 × Int32)
def fsC0 (ad : Nat → Nat) (F : FT) : List Value := [.ref (ad 199), .ref (ad 299), .ref (ad 399), .ref (ad 499), .ref (ad 4), .int (F 5)]
def fsC1 (ad : Nat → Nat) (F : FT) : List Value := [.int (F 100), .int (F 101), .int (F 102), .int (F 103), .int (F 104), .int (F 105), .int (F 106), .int (F 107), .int (F 108), .int (F 109), .int (F 110), .int (F 111), .int (F 112), .int (F 113), .ref (ad 114), .ref (ad 115), .ref (ad 116), .ref (ad 117)]
def fsC2 (ad : Nat → Nat) (F : FT) : List Value := [.int (F 200), .int (F 201), .int (F 202), .int (F 203), .int (F 204), .int (F 205), .int (F 206), .int (F 207), .int (F 208), .int (F 209), .int (F 210), .int (F 211), .int (F 212), .int (F 213), .ref (ad 214), .ref (ad 215), .ref (ad 216), .ref (ad 217)]
def fsC3 (ad : Nat → Nat) (F : FT) : List Value := [.ref (ad 300), .ref (ad 301), .ref (ad 302), .ref (ad 303), .ref (ad 304), .ref (ad 305), .int (F 306), .int (F 307), .int (F 308), .int (F 309), .int (F 310), .int (F 311), .int (F 312)]
def fsC4 (ad : Nat → Nat) (F : FT) : List Value := [.ref (ad 400), .ref (ad 401), .ref (ad 402), .ref (ad 403), .ref (ad 404), .ref (ad 405), .ref (ad 406), .int (F 407), .int (F 408), .int (F 409), .int (F 410), .int (F 411), .int (F 412), .int (F 413), .int (F 414), .int (F 415)]
def fsS (ad : Nat → Nat) (F : FT) (j : Nat) : List Value := [.int (F (500 + 100 * j)), .int (F (501 + 100 * j)), .int (F (502 + 100 * j)), .ref (ad (503 + 100 * j))]
def shF (ad : Nat → Nat) : Nat → Option Nat := va_up (va_up (va_up (va_up (fun _ => none) 0 (some (ad 599))) 1 (some (ad 699))) 2 (some (ad 799))) 3 (some (ad 899))
def wCs (ad : Nat → Nat) (ka : Nat → ClassId) (F : FT) (R : RT) (J : JT) (P : PT) : va_W := [(ad 99, .inr (9, fsC0 ad F)), (ad 199, .inr (7, fsC1 ad F)), (ad 299, .inr (7, fsC2 ad F)), (ad 399, .inr (8, fsC3 ad F)), (ad 499, .inr (1, fsC4 ad F)), (ad 599, .inr (6, fsS ad F 0)), (ad 699, .inr (6, fsS ad F 1)), (ad 799, .inr (6, fsS ad F 2)), (ad 899, .inr (6, fsS ad F 3)), (ad 114, .inl (ka 3, 4, .inr (.inr (.inr (.inr (P 114)))))), (ad 115, .inl (ka 0, 6, .inl (R 115))), (ad 116, .inl (ka 0, 6, .inl (R 116))), (ad 117, .inl (ka 0, 48, .inl (R 117))), (ad 214, .inl (ka 3, 4, .inr (.inr (.inr (.inr (P 214)))))), (ad 215, .inl (ka 0, 6, .inl (R 215))), (ad 216, .inl (ka 0, 6, .inl (R 216))), (ad 217, .inl (ka 0, 48, .inl (R 217))), (ad 300, .inl (ka 2, 60, .inl (R 300))), (ad 301, .inl (ka 0, 4, .inl (R 301))), (ad 302, .inl (ka 0, 4, .inl (R 302))), (ad 303, .inl (ka 0, 4, .inl (R 303))), (ad 304, .inl (ka 0, 6, .inl (R 304))), (ad 305, .inl (ka 0, 6, .inl (R 305))), (ad 400, .inl (ka 0, 603, .inl (R 400))), (ad 401, .inl (ka 0, 603, .inl (R 401))), (ad 402, .inl (ka 0, 603, .inl (R 402))), (ad 403, .inl (ka 0, 201, .inl (R 403))), (ad 404, .inl (ka 0, 201, .inl (R 404))), (ad 405, .inl (ka 0, 41, .inl (R 405))), (ad 406, .inl (ka 0, 201, .inl (R 406))), (ad 4, .inl (ka 4, 4, .inr (.inr (.inr (.inr (shF ad)))))), (ad 503, .inl (ka 1, 24, .inr (.inl (J 503)))), (ad 603, .inl (ka 1, 24, .inr (.inl (J 603)))), (ad 703, .inl (ka 1, 24, .inr (.inl (J 703)))), (ad 803, .inl (ka 1, 24, .inr (.inl (J 803))))]
def bcell (b : Nat × Nat × Int32 × Int32) : Nat × va_E := (b.1, .inr (b.2.1, [.int b.2.2.1, .int b.2.2.2]))
/-- the world of the class: its own cells, and the builders that were made -/
def wC (ad : Nat → Nat) (ka : Nat → ClassId) (F : FT) (R : RT) (J : JT) (P : PT) (B : BT) : va_W := wCs ad ka F R J P ++ B.map bcell
set_option maxHeartbeats 4000000 in
set_option maxRecDepth 100000 in
theorem wC_o0 {ad : Nat → Nat} {ka : Nat → ClassId} {F : FT} {R : RT} {J : JT} {P : PT} {B : BT} : (wC ad ka F R J P B)[0]? = some (ad 99, .inr (9, fsC0 ad F)) := rfl
set_option maxHeartbeats 4000000 in
set_option maxRecDepth 100000 in
theorem wC_o1 {ad : Nat → Nat} {ka : Nat → ClassId} {F : FT} {R : RT} {J : JT} {P : PT} {B : BT} : (wC ad ka F R J P B)[1]? = some (ad 199, .inr (7, fsC1 ad F)) := rfl
set_option maxHeartbeats 4000000 in
set_option maxRecDepth 100000 in
theorem wC_o2 {ad : Nat → Nat} {ka : Nat → ClassId} {F : FT} {R : RT} {J : JT} {P : PT} {B : BT} : (wC ad ka F R J P B)[2]? = some (ad 299, .inr (7, fsC2 ad F)) := rfl
set_option maxHeartbeats 4000000 in
set_option maxRecDepth 100000 in
theorem wC_o3 {ad : Nat → Nat} {ka : Nat → ClassId} {F : FT} {R : RT} {J : JT} {P : PT} {B : BT} : (wC ad ka F R J P B)[3]? = some (ad 399, .inr (8, fsC3 ad F)) := rfl
set_option maxHeartbeats 4000000 in
set_option maxRecDepth 100000 in
theorem wC_o4 {ad : Nat → Nat} {ka : Nat → ClassId} {F : FT} {R : RT} {J : JT} {P : PT} {B : BT} : (wC ad ka F R J P B)[4]? = some (ad 499, .inr (1, fsC4 ad F)) := rfl
set_option maxHeartbeats 4000000 in
set_option maxRecDepth 100000 in
theorem wC_s {ad : Nat → Nat} {ka : Nat → ClassId} {F : FT} {R : RT} {J : JT} {P : PT} {B : BT} (j : Nat) (hj : j < 4) : (wC ad ka F R J P B)[5 + j]? = some (ad (599 + 100 * j), .inr (6, fsS ad F j)) := match j, hj with | 0, _ => rfl | 1, _ => rfl | 2, _ => rfl | 3, _ => rfl
set_option maxHeartbeats 4000000 in
set_option maxRecDepth 100000 in
theorem wC_i {ad : Nat → Nat} {ka : Nat → ClassId} {F : FT} {R : RT} {J : JT} {P : PT} {B : BT} (j : Nat) (hj : j < 4) : (wC ad ka F R J P B)[31 + j]? = some (ad (503 + 100 * j), .inl (ka 1, 24, .inr (.inl (J (503 + 100 * j))))) := match j, hj with | 0, _ => rfl | 1, _ => rfl | 2, _ => rfl | 3, _ => rfl
set_option maxHeartbeats 4000000 in
set_option maxRecDepth 100000 in
theorem wC_is {ad : Nat → Nat} {ka : Nat → ClassId} {F : FT} {R : RT} {J : JT} {P : PT} {B : BT} (j : Nat) (hj : j < 4) (f : Nat → Int64) : (wC ad ka F R J P B).set (31 + j) (ad (503 + 100 * j), .inl (ka 1, 24, .inr (.inl f))) = wC ad ka F R (va_up J (503 + 100 * j) f) P B := match j, hj with | 0, _ => rfl | 1, _ => rfl | 2, _ => rfl | 3, _ => rfl
set_option maxHeartbeats 4000000 in
set_option maxRecDepth 100000 in
theorem wC_sp0 {ad : Nat → Nat} {ka : Nat → ClassId} {F : FT} {R : RT} {J : JT} {P : PT} {B : BT} (j : Nat) (hj : j < 4) (x : Int32) : (wC ad ka F R J P B).set (5 + j) (ad (599 + 100 * j), .inr (6, (fsS ad F j).set 0 (.int x))) = wC ad ka (upd F (500 + 100 * j) x) R J P B := match j, hj with | 0, _ => rfl | 1, _ => rfl | 2, _ => rfl | 3, _ => rfl
set_option maxHeartbeats 4000000 in
set_option maxRecDepth 100000 in
theorem wC_sp1 {ad : Nat → Nat} {ka : Nat → ClassId} {F : FT} {R : RT} {J : JT} {P : PT} {B : BT} (j : Nat) (hj : j < 4) (x : Int32) : (wC ad ka F R J P B).set (5 + j) (ad (599 + 100 * j), .inr (6, (fsS ad F j).set 1 (.int x))) = wC ad ka (upd F (501 + 100 * j) x) R J P B := match j, hj with | 0, _ => rfl | 1, _ => rfl | 2, _ => rfl | 3, _ => rfl
set_option maxHeartbeats 4000000 in
set_option maxRecDepth 100000 in
theorem wC_sp2 {ad : Nat → Nat} {ka : Nat → ClassId} {F : FT} {R : RT} {J : JT} {P : PT} {B : BT} (j : Nat) (hj : j < 4) (x : Int32) : (wC ad ka F R J P B).set (5 + j) (ad (599 + 100 * j), .inr (6, (fsS ad F j).set 2 (.int x))) = wC ad ka (upd F (502 + 100 * j) x) R J P B := match j, hj with | 0, _ => rfl | 1, _ => rfl | 2, _ => rfl | 3, _ => rfl
set_option maxHeartbeats 4000000 in
set_option maxRecDepth 100000 in
theorem inX9 : ∀ w ∈ u_ws RX9 TX9 6, w ∈ gw := by
  intro w hw
  obtain ⟨k, hk, rfl⟩ := List.mem_map.mp hw
  have hk := List.mem_range.mp hk
  match k, hk with
  | 0, _ => exact (gw_of tw2_15 rfl)
  | 1, _ => exact (gw_of tw2_17 rfl)
  | 2, _ => exact (gw_of tw2_19 rfl)
  | 3, _ => exact (gw_of tw2_21 rfl)
  | 4, _ => exact (gw_of tw2_23 rfl)
  | 5, _ => exact (gw_of tw2_25 rfl)
  | k + 6, hk => omega
set_option maxHeartbeats 4000000 in
set_option maxRecDepth 100000 in
theorem inX7 : ∀ w ∈ u_ws RX7 TX7 18, w ∈ gw := by
  intro w hw
  obtain ⟨k, hk, rfl⟩ := List.mem_map.mp hw
  have hk := List.mem_range.mp hk
  match k, hk with
  | 0, _ => exact (gw_of tw1_71 rfl)
  | 1, _ => exact (gw_of tw1_73 rfl)
  | 2, _ => exact (gw_of tw1_75 rfl)
  | 3, _ => exact (gw_of tw1_77 rfl)
  | 4, _ => exact (gw_of tw1_79 rfl)
  | 5, _ => exact (gw_of tw1_81 rfl)
  | 6, _ => exact (gw_of tw1_83 rfl)
  | 7, _ => exact (gw_of tw1_85 rfl)
  | 8, _ => exact (gw_of tw1_87 rfl)
  | 9, _ => exact (gw_of tw1_89 rfl)
  | 10, _ => exact (gw_of tw1_91 rfl)
  | 11, _ => exact (gw_of tw1_93 rfl)
  | 12, _ => exact (gw_of tw1_95 rfl)
  | 13, _ => exact (gw_of tw1_97 rfl)
  | 14, _ => exact (gw_of tw1_99 rfl)
  | 15, _ => exact (gw_of tw1_101 rfl)
  | 16, _ => exact (gw_of tw1_103 rfl)
  | 17, _ => exact (gw_of tw1_105 rfl)
  | k + 18, hk => omega
set_option maxHeartbeats 4000000 in
set_option maxRecDepth 100000 in
theorem inX8 : ∀ w ∈ u_ws RX8 TX8 13, w ∈ gw := by
  intro w hw
  obtain ⟨k, hk, rfl⟩ := List.mem_map.mp hw
  have hk := List.mem_range.mp hk
  match k, hk with
  | 0, _ => exact (gw_of tw1_139 rfl)
  | 1, _ => exact (gw_of tw1_141 rfl)
  | 2, _ => exact (gw_of tw1_143 rfl)
  | 3, _ => exact (gw_of tw1_145 rfl)
  | 4, _ => exact (gw_of tw1_147 rfl)
  | 5, _ => exact (gw_of tw1_149 rfl)
  | 6, _ => exact (gw_of tw1_151 rfl)
  | 7, _ => exact (gw_of tw1_153 rfl)
  | 8, _ => exact (gw_of tw1_155 rfl)
  | 9, _ => exact (gw_of tw1_157 rfl)
  | 10, _ => exact (gw_of tw1_159 rfl)
  | 11, _ => exact (gw_of tw1_161 rfl)
  | 12, _ => exact (gw_of tw1_163 rfl)
  | k + 13, hk => omega
set_option maxHeartbeats 4000000 in
set_option maxRecDepth 100000 in
theorem inX1 : ∀ w ∈ u_ws RX1 TX1 16, w ∈ gw := by
  intro w hw
  obtain ⟨k, hk, rfl⟩ := List.mem_map.mp hw
  have hk := List.mem_range.mp hk
  match k, hk with
  | 0, _ => exact (gw_of tw1_191 rfl)
  | 1, _ => exact (gw_of tw1_193 rfl)
  | 2, _ => exact (gw_of tw1_195 rfl)
  | 3, _ => exact (gw_of tw1_197 rfl)
  | 4, _ => exact (gw_of tw1_199 rfl)
  | 5, _ => exact (gw_of tw1_201 rfl)
  | 6, _ => exact (gw_of tw1_203 rfl)
  | 7, _ => exact (gw_of tw1_205 rfl)
  | 8, _ => exact (gw_of tw1_207 rfl)
  | 9, _ => exact (gw_of tw1_209 rfl)
  | 10, _ => exact (gw_of tw1_211 rfl)
  | 11, _ => exact (gw_of tw1_213 rfl)
  | 12, _ => exact (gw_of tw1_215 rfl)
  | 13, _ => exact (gw_of tw1_217 rfl)
  | 14, _ => exact (gw_of tw1_219 rfl)
  | 15, _ => exact (gw_of tw1_221 rfl)
  | k + 16, hk => omega
set_option maxHeartbeats 4000000 in
set_option maxRecDepth 100000 in
theorem inX6 : ∀ w ∈ u_ws RX6 TX6 4, w ∈ gw := by
  intro w hw
  obtain ⟨k, hk, rfl⟩ := List.mem_map.mp hw
  have hk := List.mem_range.mp hk
  match k, hk with
  | 0, _ => exact (gw_of tw1_239 rfl)
  | 1, _ => exact (gw_of tw2_1 rfl)
  | 2, _ => exact (gw_of tw2_3 rfl)
  | 3, _ => exact (gw_of tw2_5 rfl)
  | k + 4, hk => omega
/-! ===== the builders: five classes, their objects never change ===== -/
def bOK (c : Nat) : Prop := c = 0 ∨ c = 2 ∨ c = 3 ∨ c = 4 ∨ c = 5
def kindV (c : Nat) : Int32 := if c = 0 then 2 else if c = 2 then 3 else if c = 3 then 1 else if c = 4 then 4 else 0
def haulsV (c : Nat) (p h laid more : Int32) : Int32 := if c = 2 then 2 * (p + more + h) else if c = 3 then p + more + h else if c = 4 then p + more + laid / 10 else p + more
def frostV (c : Nat) (x : Int32) : Int32 := if c = 0 then x else x / 2
def thaw1 (x : Int32) : Int32 := if x < 1 then 0 else x - 1
def thawV (c : Nat) (x : Int32) : Int32 := if c = 2 then (if thaw1 x < 2 then 0 else thaw1 x - 2) else thaw1 x
def laysV (c : Nat) (p h w laid more : Int32) : Int32 := if w = 1 then frostV c (haulsV c p h laid more) else if w = 2 then thawV c (haulsV c p h laid more) else haulsV c p h laid more
def inB (B : BT) (b : Nat) : Prop := ∃ (c : Nat) (p q : Int32), (b, c, p, q) ∈ B ∧ bOK c
theorem inX0 : ∀ w ∈ u_ws RX0 TX0 2, w ∈ gw := by
  intro w hw
  obtain ⟨k, hk, rfl⟩ := List.mem_map.mp hw
  have hk := List.mem_range.mp hk
  match k, hk with
  | 0, _ => exact (gw_of tw2_72 rfl)
  | 1, _ => exact (gw_of tw2_73 rfl)
  | k + 2, hk => omega
theorem inX2 : ∀ w ∈ u_ws RX2 TX2 2, w ∈ gw := by
  intro w hw
  obtain ⟨k, hk, rfl⟩ := List.mem_map.mp hw
  have hk := List.mem_range.mp hk
  match k, hk with
  | 0, _ => exact (gw_of tw2_81 rfl)
  | 1, _ => exact (gw_of tw2_82 rfl)
  | k + 2, hk => omega
theorem inX3 : ∀ w ∈ u_ws RX3 TX3 2, w ∈ gw := by
  intro w hw
  obtain ⟨k, hk, rfl⟩ := List.mem_map.mp hw
  have hk := List.mem_range.mp hk
  match k, hk with
  | 0, _ => exact (gw_of tw2_61 rfl)
  | 1, _ => exact (gw_of tw2_63 rfl)
  | k + 2, hk => omega
theorem inX4 : ∀ w ∈ u_ws RX4 TX4 2, w ∈ gw := by
  intro w hw
  obtain ⟨k, hk, rfl⟩ := List.mem_map.mp hw
  have hk := List.mem_range.mp hk
  match k, hk with
  | 0, _ => exact (gw_of tw2_90 rfl)
  | 1, _ => exact (gw_of tw2_91 rfl)
  | k + 2, hk => omega
theorem inX5 : ∀ w ∈ u_ws RX5 TX5 2, w ∈ gw := by
  intro w hw
  obtain ⟨k, hk, rfl⟩ := List.mem_map.mp hw
  have hk := List.mem_range.mp hk
  match k, hk with
  | 0, _ => exact (gw_of tw2_96 rfl)
  | 1, _ => exact (gw_of tw2_97 rfl)
  | k + 2, hk => omega
theorem gbX5_pace {X : XT} {cc : ByteArray} {nL : Nat} {rt : Option FieldType} {ka : Nat → ClassId} {lvl cells slots pc : Nat} {lv : List (Nat × Value)} {st : List Value} {ws : va_W} {q b c : Nat} {p h : Int32} (C : Cx X cc nL RX5 rt ka lvl) (ho : bOK c) (he : ws[q]? = some (b, .inr (c, [.int p, .int h]))) (d : decode cc pc = .ok (.getfield 9, 3)) (kk : G X cells slots ws (pc + 3) lv (.int p :: st)) : G X cells slots ws pc lv (.ref b :: st) := by
  rcases ho with rfl | rfl | rfl | rfl | rfl
  · exact g_get C q he (hc := rfl) inX0 0 (by decide) (index := 9) (ref := "SummerWall$Plain") (gw_of tw2_51 rfl) rfl rfl d kk
  · exact g_get C q he (hc := rfl) inX2 0 (by decide) (index := 9) (ref := "SummerWall$Plain") (gw_of tw2_51 rfl) rfl rfl d kk
  · exact g_get C q he (hc := rfl) inX3 0 (by decide) (index := 9) (ref := "SummerWall$Plain") (gw_of tw2_51 rfl) rfl rfl d kk
  · exact g_get C q he (hc := rfl) inX4 0 (by decide) (index := 9) (ref := "SummerWall$Plain") (gw_of tw2_51 rfl) rfl rfl d kk
  · exact g_get C q he (hc := rfl) inX5 0 (by decide) (index := 9) (ref := "SummerWall$Plain") (gw_of tw2_51 rfl) rfl rfl d kk
theorem gbX5_horse {X : XT} {cc : ByteArray} {nL : Nat} {rt : Option FieldType} {ka : Nat → ClassId} {lvl cells slots pc : Nat} {lv : List (Nat × Value)} {st : List Value} {ws : va_W} {q b c : Nat} {p h : Int32} (C : Cx X cc nL RX5 rt ka lvl) (ho : bOK c) (he : ws[q]? = some (b, .inr (c, [.int p, .int h]))) (d : decode cc pc = .ok (.getfield 15, 3)) (kk : G X cells slots ws (pc + 3) lv (.int h :: st)) : G X cells slots ws pc lv (.ref b :: st) := by
  rcases ho with rfl | rfl | rfl | rfl | rfl
  · exact g_get C q he (hc := rfl) inX0 1 (by decide) (index := 15) (ref := "SummerWall$Plain") (gw_of tw2_57 rfl) rfl rfl d kk
  · exact g_get C q he (hc := rfl) inX2 1 (by decide) (index := 15) (ref := "SummerWall$Plain") (gw_of tw2_57 rfl) rfl rfl d kk
  · exact g_get C q he (hc := rfl) inX3 1 (by decide) (index := 15) (ref := "SummerWall$Plain") (gw_of tw2_57 rfl) rfl rfl d kk
  · exact g_get C q he (hc := rfl) inX4 1 (by decide) (index := 15) (ref := "SummerWall$Plain") (gw_of tw2_57 rfl) rfl rfl d kk
  · exact g_get C q he (hc := rfl) inX5 1 (by decide) (index := 15) (ref := "SummerWall$Plain") (gw_of tw2_57 rfl) rfl rfl d kk
theorem gbX9_pace {X : XT} {cc : ByteArray} {nL : Nat} {rt : Option FieldType} {ka : Nat → ClassId} {lvl cells slots pc : Nat} {lv : List (Nat × Value)} {st : List Value} {ws : va_W} {q b c : Nat} {p h : Int32} (C : Cx X cc nL RX9 rt ka lvl) (ho : bOK c) (he : ws[q]? = some (b, .inr (c, [.int p, .int h]))) (d : decode cc pc = .ok (.getfield 65, 3)) (kk : G X cells slots ws (pc + 3) lv (.int p :: st)) : G X cells slots ws pc lv (.ref b :: st) := by
  rcases ho with rfl | rfl | rfl | rfl | rfl
  · exact g_get C q he (hc := rfl) inX0 0 (by decide) (index := 65) (ref := "SummerWall$Plain") (gw_of tw2_56 rfl) rfl rfl d kk
  · exact g_get C q he (hc := rfl) inX2 0 (by decide) (index := 65) (ref := "SummerWall$Plain") (gw_of tw2_56 rfl) rfl rfl d kk
  · exact g_get C q he (hc := rfl) inX3 0 (by decide) (index := 65) (ref := "SummerWall$Plain") (gw_of tw2_56 rfl) rfl rfl d kk
  · exact g_get C q he (hc := rfl) inX4 0 (by decide) (index := 65) (ref := "SummerWall$Plain") (gw_of tw2_56 rfl) rfl rfl d kk
  · exact g_get C q he (hc := rfl) inX5 0 (by decide) (index := 65) (ref := "SummerWall$Plain") (gw_of tw2_56 rfl) rfl rfl d kk
theorem gbX9_horse {X : XT} {cc : ByteArray} {nL : Nat} {rt : Option FieldType} {ka : Nat → ClassId} {lvl cells slots pc : Nat} {lv : List (Nat × Value)} {st : List Value} {ws : va_W} {q b c : Nat} {p h : Int32} (C : Cx X cc nL RX9 rt ka lvl) (ho : bOK c) (he : ws[q]? = some (b, .inr (c, [.int p, .int h]))) (d : decode cc pc = .ok (.getfield 68, 3)) (kk : G X cells slots ws (pc + 3) lv (.int h :: st)) : G X cells slots ws pc lv (.ref b :: st) := by
  rcases ho with rfl | rfl | rfl | rfl | rfl
  · exact g_get C q he (hc := rfl) inX0 1 (by decide) (index := 68) (ref := "SummerWall$Plain") (gw_of tw2_60 rfl) rfl rfl d kk
  · exact g_get C q he (hc := rfl) inX2 1 (by decide) (index := 68) (ref := "SummerWall$Plain") (gw_of tw2_60 rfl) rfl rfl d kk
  · exact g_get C q he (hc := rfl) inX3 1 (by decide) (index := 68) (ref := "SummerWall$Plain") (gw_of tw2_60 rfl) rfl rfl d kk
  · exact g_get C q he (hc := rfl) inX4 1 (by decide) (index := 68) (ref := "SummerWall$Plain") (gw_of tw2_60 rfl) rfl rfl d kk
  · exact g_get C q he (hc := rfl) inX5 1 (by decide) (index := 68) (ref := "SummerWall$Plain") (gw_of tw2_60 rfl) rfl rfl d kk
theorem gbX3_pace {X : XT} {cc : ByteArray} {nL : Nat} {rt : Option FieldType} {ka : Nat → ClassId} {lvl cells slots pc : Nat} {lv : List (Nat × Value)} {st : List Value} {ws : va_W} {q b c : Nat} {p h : Int32} (C : Cx X cc nL RX3 rt ka lvl) (ho : c = 2 ∨ c = 3) (he : ws[q]? = some (b, .inr (c, [.int p, .int h]))) (d : decode cc pc = .ok (.getfield 9, 3)) (kk : G X cells slots ws (pc + 3) lv (.int p :: st)) : G X cells slots ws pc lv (.ref b :: st) := by
  rcases ho with rfl | rfl
  · exact g_getU C q he (hc := rfl) inX2 0 (by decide) (index := 9) (ref := "SummerWall$Horsed") (gw_of tw2_52 rfl) (gw_of tw2_53 rfl) rfl d kk
  · exact g_getU C q he (hc := rfl) inX3 0 (by decide) (index := 9) (ref := "SummerWall$Horsed") (gw_of tw2_52 rfl) (gw_of tw2_53 rfl) rfl d kk
theorem gbX3_horse {X : XT} {cc : ByteArray} {nL : Nat} {rt : Option FieldType} {ka : Nat → ClassId} {lvl cells slots pc : Nat} {lv : List (Nat × Value)} {st : List Value} {ws : va_W} {q b c : Nat} {p h : Int32} (C : Cx X cc nL RX3 rt ka lvl) (ho : c = 2 ∨ c = 3) (he : ws[q]? = some (b, .inr (c, [.int p, .int h]))) (d : decode cc pc = .ok (.getfield 15, 3)) (kk : G X cells slots ws (pc + 3) lv (.int h :: st)) : G X cells slots ws pc lv (.ref b :: st) := by
  rcases ho with rfl | rfl
  · exact g_getU C q he (hc := rfl) inX2 1 (by decide) (index := 15) (ref := "SummerWall$Horsed") (gw_of tw2_58 rfl) (gw_of tw2_59 rfl) rfl d kk
  · exact g_getU C q he (hc := rfl) inX3 1 (by decide) (index := 15) (ref := "SummerWall$Horsed") (gw_of tw2_58 rfl) (gw_of tw2_59 rfl) rfl d kk
theorem gbX4_pace {X : XT} {cc : ByteArray} {nL : Nat} {rt : Option FieldType} {ka : Nat → ClassId} {lvl cells slots pc : Nat} {lv : List (Nat × Value)} {st : List Value} {ws : va_W} {q b c : Nat} {p h : Int32} (C : Cx X cc nL RX4 rt ka lvl) (ho : c = 4) (he : ws[q]? = some (b, .inr (c, [.int p, .int h]))) (d : decode cc pc = .ok (.getfield 9, 3)) (kk : G X cells slots ws (pc + 3) lv (.int p :: st)) : G X cells slots ws pc lv (.ref b :: st) := by
  subst ho
  exact g_getU C q he (hc := rfl) inX4 0 (by decide) (index := 9) (ref := "SummerWall$Paid") (gw_of tw2_54 rfl) (gw_of tw2_55 rfl) rfl d kk
set_option maxRecDepth 100000 in
theorem kB_kind5 (l : Launch) (D : va_G) (ka : Nat → ClassId) {ws : va_W} {q b c : Nat} {p h : Int32} (ho : c = 5) (he : ws[q]? = some (b, .inr (c, [.int p, .int h])))  : MI l D ka yX5_kind cX5_kind 1 (some .int) 1 0 0 [.ref b] ws (fun z w => z = kindV c ∧ w = ws) := by
  refine MI_of (by decide) (Nat.le_of_ble_eq_true rfl) (fun X C _ hret => ?_)
  show G X 0 0 ws 0 [(0, .ref b)] []
  subst ho
  refine g_iconst C (0 : Int32) dX5_kind_0 ci_0 ?_
  exact hret _ _ _ _ ⟨rfl, rfl⟩ rfl dX5_kind_1
set_option maxRecDepth 100000 in
theorem kB_kind0 (l : Launch) (D : va_G) (ka : Nat → ClassId) {ws : va_W} {q b c : Nat} {p h : Int32} (ho : c = 0) (he : ws[q]? = some (b, .inr (c, [.int p, .int h])))  : MI l D ka yX0_kind cX0_kind 1 (some .int) 1 0 0 [.ref b] ws (fun z w => z = kindV c ∧ w = ws) := by
  refine MI_of (by decide) (Nat.le_of_ble_eq_true rfl) (fun X C _ hret => ?_)
  show G X 0 0 ws 0 [(0, .ref b)] []
  subst ho
  refine g_iconst C (2 : Int32) dX0_kind_0 ci_2 ?_
  exact hret _ _ _ _ ⟨rfl, rfl⟩ rfl dX0_kind_1
set_option maxRecDepth 100000 in
theorem kB_kind2 (l : Launch) (D : va_G) (ka : Nat → ClassId) {ws : va_W} {q b c : Nat} {p h : Int32} (ho : c = 2) (he : ws[q]? = some (b, .inr (c, [.int p, .int h])))  : MI l D ka yX2_kind cX2_kind 1 (some .int) 1 0 0 [.ref b] ws (fun z w => z = kindV c ∧ w = ws) := by
  refine MI_of (by decide) (Nat.le_of_ble_eq_true rfl) (fun X C _ hret => ?_)
  show G X 0 0 ws 0 [(0, .ref b)] []
  subst ho
  refine g_iconst C (3 : Int32) dX2_kind_0 ci_3 ?_
  exact hret _ _ _ _ ⟨rfl, rfl⟩ rfl dX2_kind_1
set_option maxRecDepth 100000 in
theorem kB_kind3 (l : Launch) (D : va_G) (ka : Nat → ClassId) {ws : va_W} {q b c : Nat} {p h : Int32} (ho : c = 3) (he : ws[q]? = some (b, .inr (c, [.int p, .int h])))  : MI l D ka yX3_kind cX3_kind 1 (some .int) 1 0 0 [.ref b] ws (fun z w => z = kindV c ∧ w = ws) := by
  refine MI_of (by decide) (Nat.le_of_ble_eq_true rfl) (fun X C _ hret => ?_)
  show G X 0 0 ws 0 [(0, .ref b)] []
  subst ho
  refine g_iconst C (1 : Int32) dX3_kind_0 ci_1 ?_
  exact hret _ _ _ _ ⟨rfl, rfl⟩ rfl dX3_kind_1
set_option maxRecDepth 100000 in
theorem kB_kind4 (l : Launch) (D : va_G) (ka : Nat → ClassId) {ws : va_W} {q b c : Nat} {p h : Int32} (ho : c = 4) (he : ws[q]? = some (b, .inr (c, [.int p, .int h])))  : MI l D ka yX4_kind cX4_kind 1 (some .int) 1 0 0 [.ref b] ws (fun z w => z = kindV c ∧ w = ws) := by
  refine MI_of (by decide) (Nat.le_of_ble_eq_true rfl) (fun X C _ hret => ?_)
  show G X 0 0 ws 0 [(0, .ref b)] []
  subst ho
  refine g_iconst C (4 : Int32) dX4_kind_0 ci_4 ?_
  exact hret _ _ _ _ ⟨rfl, rfl⟩ rfl dX4_kind_1
set_option maxRecDepth 100000 in
theorem kB_hauls5 (l : Launch) (D : va_G) (ka : Nat → ClassId) {ws : va_W} {q b c : Nat} {p h : Int32} (ho : bOK c) (he : ws[q]? = some (b, .inr (c, [.int p, .int h]))) (laid more : Int32) : MI l D ka yX5_hauls cX5_hauls 3 (some .int) 1 0 0 [.ref b, .int laid, .int more] ws (fun z w => z = p + more ∧ w = ws) := by
  refine MI_of (by decide) (Nat.le_of_ble_eq_true rfl) (fun X C _ hret => ?_)
  show G X 0 0 ws 0 [(0, .ref b), (1, .int laid), (2, .int more)] []
  refine g_aload_n C 0 dX5_hauls_0 rfl ?_
  refine gbX5_pace C ho he dX5_hauls_1 ?_
  refine g_iload_n C 2 dX5_hauls_4 rfl ?_
  refine g_iadd C dX5_hauls_5 ?_
  exact hret _ _ _ _ ⟨rfl, rfl⟩ rfl dX5_hauls_6
set_option maxRecDepth 100000 in
theorem kB_hauls3 (l : Launch) (D : va_G) (ka : Nat → ClassId) {ws : va_W} {q b c : Nat} {p h : Int32} (ho : c = 2 ∨ c = 3) (he : ws[q]? = some (b, .inr (c, [.int p, .int h]))) (laid more : Int32) : MI l D ka yX3_hauls cX3_hauls 3 (some .int) 1 0 0 [.ref b, .int laid, .int more] ws (fun z w => z = p + more + h ∧ w = ws) := by
  refine MI_of (by decide) (Nat.le_of_ble_eq_true rfl) (fun X C _ hret => ?_)
  show G X 0 0 ws 0 [(0, .ref b), (1, .int laid), (2, .int more)] []
  refine g_aload_n C 0 dX3_hauls_0 rfl ?_
  refine gbX3_pace C ho he dX3_hauls_1 ?_
  refine g_iload_n C 2 dX3_hauls_4 rfl ?_
  refine g_iadd C dX3_hauls_5 ?_
  refine g_aload_n C 0 dX3_hauls_6 rfl ?_
  refine gbX3_horse C ho he dX3_hauls_7 ?_
  refine g_iadd C dX3_hauls_10 ?_
  exact hret _ _ _ _ ⟨rfl, rfl⟩ rfl dX3_hauls_11
set_option maxRecDepth 100000 in
theorem kB_hauls4 (l : Launch) (D : va_G) (ka : Nat → ClassId) {ws : va_W} {q b c : Nat} {p h : Int32} (ho : c = 4) (he : ws[q]? = some (b, .inr (c, [.int p, .int h]))) (laid more : Int32) : MI l D ka yX4_hauls cX4_hauls 3 (some .int) 1 0 0 [.ref b, .int laid, .int more] ws (fun z w => z = p + more + laid / 10 ∧ w = ws) := by
  refine MI_of (by decide) (Nat.le_of_ble_eq_true rfl) (fun X C _ hret => ?_)
  show G X 0 0 ws 0 [(0, .ref b), (1, .int laid), (2, .int more)] []
  refine g_aload_n C 0 dX4_hauls_0 rfl ?_
  refine gbX4_pace C ho he dX4_hauls_1 ?_
  refine g_iload_n C 2 dX4_hauls_4 rfl ?_
  refine g_iadd C dX4_hauls_5 ?_
  refine g_iload_n C 1 dX4_hauls_6 rfl ?_
  refine g_bipush C (10 : Int32) dX4_hauls_7 cb_10 ?_
  refine g_idiv C dX4_hauls_9 (by decide) ?_
  refine g_iadd C dX4_hauls_10 ?_
  exact hret _ _ _ _ ⟨rfl, rfl⟩ rfl dX4_hauls_11
set_option maxRecDepth 100000 in
theorem kB_hauls2 (l : Launch) (D : va_G) (ka : Nat → ClassId) {ws : va_W} {q b c : Nat} {p h : Int32} (ho : c = 2) (he : ws[q]? = some (b, .inr (c, [.int p, .int h]))) (laid more : Int32) : MI l D ka yX2_hauls cX2_hauls 3 (some .int) 2 0 0 [.ref b, .int laid, .int more] ws (fun z w => z = 2 * (p + more + h) ∧ w = ws) := by
  refine MI_of (by decide) (Nat.le_of_ble_eq_true rfl) (fun X C _ hret => ?_)
  show G X 0 0 ws 0 [(0, .ref b), (1, .int laid), (2, .int more)] []
  subst ho
  refine g_iconst C (2 : Int32) dX2_hauls_0 ci_2 ?_
  refine g_aload_n C 0 dX2_hauls_1 rfl ?_
  refine g_iload_n C 1 dX2_hauls_2 rfl ?_
  refine g_iload_n C 2 dX2_hauls_3 rfl ?_
  refine g_callSU (np := 2) C (kB_hauls3 (xL X) (xD X) ka (Or.inl rfl) he laid more) (gw_of tw2_128 rfl) (gw_of tw5_147 rfl) (gw_of tw2_83 rfl) (gw_of tw2_129 rfl) (gw_of tw1_8 rfl) (gw_of tw2_130 rfl) (by decide +kernel) (by decide) (by decide) he (hc := rfl) rfl rfl (Nat.le_of_ble_eq_true rfl) z00 dX2_hauls_4 (fun z w hw => ?_)
  obtain ⟨rfl, rfl⟩ := hw
  refine g_imul C dX2_hauls_7 ?_
  exact hret _ _ _ _ ⟨rfl, rfl⟩ rfl dX2_hauls_8
set_option maxRecDepth 100000 in
theorem kB_frost5 (l : Launch) (D : va_G) (ka : Nat → ClassId) {ws : va_W} {q b c : Nat} {p h : Int32} (ho : bOK c) (he : ws[q]? = some (b, .inr (c, [.int p, .int h]))) (x : Int32) : MI l D ka yX5_laysInFrost cX5_laysInFrost 2 (some .int) 1 0 0 [.ref b, .int x] ws (fun z w => z = x / 2 ∧ w = ws) := by
  refine MI_of (by decide) (Nat.le_of_ble_eq_true rfl) (fun X C _ hret => ?_)
  show G X 0 0 ws 0 [(0, .ref b), (1, .int x)] []
  refine g_iload_n C 1 dX5_laysInFrost_0 rfl ?_
  refine g_iconst C (2 : Int32) dX5_laysInFrost_1 ci_2 ?_
  refine g_idiv C dX5_laysInFrost_2 (by decide) ?_
  exact hret _ _ _ _ ⟨rfl, rfl⟩ rfl dX5_laysInFrost_3
set_option maxRecDepth 100000 in
theorem kB_frost0 (l : Launch) (D : va_G) (ka : Nat → ClassId) {ws : va_W} {q b c : Nat} {p h : Int32} (ho : bOK c) (he : ws[q]? = some (b, .inr (c, [.int p, .int h]))) (x : Int32) : MI l D ka yX0_laysInFrost cX0_laysInFrost 2 (some .int) 1 0 0 [.ref b, .int x] ws (fun z w => z = x ∧ w = ws) := by
  refine MI_of (by decide) (Nat.le_of_ble_eq_true rfl) (fun X C _ hret => ?_)
  show G X 0 0 ws 0 [(0, .ref b), (1, .int x)] []
  refine g_iload_n C 1 dX0_laysInFrost_0 rfl ?_
  exact hret _ _ _ _ ⟨rfl, rfl⟩ rfl dX0_laysInFrost_1
set_option maxRecDepth 100000 in
theorem kB_thaw5 (l : Launch) (D : va_G) (ka : Nat → ClassId) {ws : va_W} {q b c : Nat} {p h : Int32} (ho : bOK c) (he : ws[q]? = some (b, .inr (c, [.int p, .int h]))) (x : Int32) : MI l D ka yX5_laysInThaw cX5_laysInThaw 2 (some .int) 1 0 0 [.ref b, .int x] ws (fun z w => z = thaw1 x ∧ w = ws) := by
  refine MI_of (by decide) (Nat.le_of_ble_eq_true rfl) (fun X C _ hret => ?_)
  show G X 0 0 ws 0 [(0, .ref b), (1, .int x)] []
  refine g_iload_n C 1 dX5_laysInThaw_0 rfl ?_
  refine g_iconst C (1 : Int32) dX5_laysInThaw_1 ci_1 ?_
  refine g_icmp_lt C 11 dX5_laysInThaw_2 (by decide) (fun c1 => ?_) (fun c1 => ?_)
  · refine g_iconst C (0 : Int32) dX5_laysInThaw_11 ci_0 ?_
    exact hret _ _ _ _ ⟨by rw [thaw1, if_pos c1], rfl⟩ rfl dX5_laysInThaw_12
  · refine g_iload_n C 1 dX5_laysInThaw_5 rfl ?_
    refine g_iconst C (1 : Int32) dX5_laysInThaw_6 ci_1 ?_
    refine g_isub C dX5_laysInThaw_7 ?_
    refine g_goto C 12 dX5_laysInThaw_8 (by decide) ?_
    exact hret _ _ _ _ ⟨by rw [thaw1, if_neg c1], rfl⟩ rfl dX5_laysInThaw_12
/-- super.m(..), where the superclass has m by its own superclass -/
theorem va_callSU2 {p : Program} {l : Launch} {e : Env} {R : Room} {s : State} {m : MethodId} {args : Array Value} {below : List Frame} {meth : Method} {c : Code} {T : State} {locs : List Loc} {cells slots : Nat} (X : Stand p l e R s m args below meth c T locs cells slots) (hexec : p.tables.exec = Jvm.exec) {own : String} {index : Nat} {x y : MethodName} {bytes : ByteArray} {maxL : Nat} {ret : Option FieldType}
    (hown : s.vm.findClass own = some m.cls) (hlink : (Cond.methodLink own index x).before args s = true) (hsame : (Cond.sameMethod x.cls y.cls x.name x.desc).before args s = true) (hxy : y = ⟨y.cls, x.name, x.desc⟩) (hsup : (Cond.superclass own x.cls).before args s = true) (hsup2 : (Cond.superclass x.cls y.cls).before args s = true)
    (hinst : (Cond.instanceMethod y).before args s = true) (hcode : (Cond.code y bytes maxL ret).before args s = true) (hno : x.name ≠ "<init>")
    {W : Nat} {Pre : Pt → Array Value → Prop} {Post : Pt → Array Value → Option Value → Pt → Prop} (hK : Back l R p e below s args y 3 W Pre Post)
    {b : Addr} {cellB : Cell} {kB : Class} (hcell : T.heap[b]? = some cellB) (hobj : cellB.vm.isStatics = false) (hkB : s.vm.classes[cellB.cls]? = some kB)
    {g : JFrame} (hg : g.method = m) (hsize : g.locals.size = c.maxLocals) {argsL rest : List Value} (hlen : ∀ sig, parseMethodDescriptor y.desc = some sig → argsL.length = sig.parameters.length)
    (hstack : g.stack = argsL.reverse ++ .ref b :: rest) (hW : 2 * g.monitorRoom + (rest.map fun v => v.category).sum ≤ W) (hdg : decode c.code g.pc = .ok (.invokespecial index, 3))
    (hpre : ∀ vm₁, s.WarmedH vm₁ → Pre ⟨T.setVm vm₁, locs, cells, slots⟩ (Value.ref b :: argsL).toArray) :
    ∃ (v : Option Value) (vm₁ : Vm) (B : Pt), s.WarmedH vm₁ ∧ Stand p l e R s m args below meth c B.U B.locs B.cells B.slots ∧ Post ⟨T.setVm vm₁, locs, cells, slots⟩ (Value.ref b :: argsL).toArray v B ∧
      ∀ target, Steps p.tables e below (B.U.setTop { g with pc := g.pc + 3, stack := v.toList ++ rest }) target → Steps p.tables e below (T.setTop g) target := by
  obtain ⟨mk, methM, hnamed, hmethM, hstM, habM⟩ := Cond.instanceMethod_spec hinst
  obtain ⟨methM', cM, hmethM', -, -, -, -, -, -, hsigM⟩ := Cond.code_spec hnamed hcode
  cases hmethM.symm.trans hmethM'
  obtain ⟨ps, dk, kp, hps, hdk, hkp, hsuper, -, -, hnid⟩ := Cond.superclass_spec hown hsup
  obtain ⟨ps2, dk2, kp2, hps2, hdk2, hkp2, hsuper2, -, -, hnid2⟩ := Cond.superclass_spec hps hsup2
  have hn : s.methodNamed? ⟨y.cls, x.name, x.desc⟩ = some mk := by rw [← hxy]; exact hnamed
  have hpm : ps2 = mk.cls := Option.some.inj (hps2.symm.trans (findClass_of_methodNamed hnamed))
  have hsub : s.vm.isSubclass ps mk.cls = true := by
    rw [← hpm]
    by_cases hpp : ps = ps2
    · rw [hpp]; simp [Vm.isSubclass, Vm.isSubclassAux]
    · have hne : 0 < s.vm.classes.size := Nat.lt_of_le_of_lt (Nat.zero_le _) (Array.getElem?_eq_some_iff.mp hdk2).1
      obtain ⟨z, hz⟩ : ∃ z, s.vm.classes.size = z + 1 := ⟨s.vm.classes.size - 1, by omega⟩
      simp only [Vm.isSubclass, hz, Vm.isSubclassAux, hdk2, hsuper2]
      simp [Vm.isSubclassAux]
  obtain ⟨vm₁, X₁, hstep₁⟩ := X.invokespecialUp hexec hown hlink hsame hn hmethM hstM habM hno hdk hnid hps hsuper hsub (a := b) (cell := cellB) hcell
    (fun z h => by rw [h] at hobj; cases hobj) hkB (g := g) hg (argsL := argsL) (rest := rest) (hlen _ hsigM) hstack hdg
  obtain ⟨v, B, X', hpost, hsteps⟩ := hK m meth c ⟨T.setVm vm₁, locs, cells, slots⟩ { g with stack := rest } (.invokespecial index) mk (Value.ref b :: argsL).toArray X₁ hg hsize hdg hW (X₁.named hnamed) (hpre vm₁ X₁.warmed)
  exact ⟨v, vm₁, B, X₁.warmed, X', hpost, fun target h => hstep₁ _ (by rw [doInvoke_state]; exact hsteps.trans h)⟩

