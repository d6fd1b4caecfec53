/-! ===== two worlds side by side; the law's own rows ===== -/
theorem va_P.left {D : va_G} {cl : List vw_C} {w1 w2 : va_W} {H : Heap} (h : va_P D cl (w1 ++ w2) H) : va_P D cl w1 H := fun k q hq => h k q (by rw [List.getElem?_append_left (List.getElem?_eq_some_iff.mp hq).1]; exact hq)
theorem va_P.right {D : va_G} {cl : List vw_C} {w1 w2 : va_W} {H : Heap} (h : va_P D cl (w1 ++ w2) H) : va_P D cl w2 H := fun k q hq => h (w1.length + k) q (by rw [List.getElem?_append_right (Nat.le_add_right _ _), Nat.add_sub_cancel_left]; exact hq)
theorem va_D.left {A : Nat → Prop} {w1 w2 : va_W} (h : va_D A (w1 ++ w2)) : va_D A w1 := ⟨fun i j p q hi hj e => h.1 i j p q (by rw [List.getElem?_append_left (List.getElem?_eq_some_iff.mp hi).1]; exact hi) (by rw [List.getElem?_append_left (List.getElem?_eq_some_iff.mp hj).1]; exact hj) e, fun k q hq => h.2 k q (by rw [List.getElem?_append_left (List.getElem?_eq_some_iff.mp hq).1]; exact hq)⟩
theorem va_D.right {A : Nat → Prop} {w1 w2 : va_W} (h : va_D A (w1 ++ w2)) : va_D A w2 := ⟨fun i j p q hi hj e => Nat.add_left_cancel (h.1 (w1.length + i) (w1.length + j) p q (by rw [List.getElem?_append_right (Nat.le_add_right _ _), Nat.add_sub_cancel_left]; exact hi) (by rw [List.getElem?_append_right (Nat.le_add_right _ _), Nat.add_sub_cancel_left]; exact hj) e), fun k q hq => h.2 (w1.length + k) q (by rw [List.getElem?_append_right (Nat.le_add_right _ _), Nat.add_sub_cancel_left]; exact hq)⟩
theorem va_D.cross {A : Nat → Prop} {w1 w2 : va_W} (h : va_D A (w1 ++ w2)) {i j : Nat} {p q : Nat × va_E} (hi : w1[i]? = some p) (hj : w2[j]? = some q) : p.1 ≠ q.1 := fun e => by
  have := h.1 i (w1.length + j) p q (by rw [List.getElem?_append_left (List.getElem?_eq_some_iff.mp hi).1]; exact hi) (by rw [List.getElem?_append_right (Nat.le_add_right _ _), Nat.add_sub_cancel_left]; exact hj) e
  have hl := (List.getElem?_eq_some_iff.mp hi).1
  omega
/-- the rest stays beside a callee's world; 'apart': the rest's addresses are none of the callee's -/
theorem fr_keep {D : va_G} {cl : List vw_C} {A : Nat → Prop} {wc wr w : va_W} {H H1 : Heap} (hPr : va_P D cl wr H) (hDr : va_D A wr) (apart : ∀ (i j : Nat) (p q : Nat × va_E), wc[i]? = some p → wr[j]? = some q → p.1 ≠ q.1) (hk : ∀ q : Nat, q < H.size → ¬ va_A wc H.size q → H1[q]? = H[q]?) (hP1 : va_P D cl w H1) (hD1 : va_D (va_A wc H.size) w) : va_P D cl wr H1 ∧ ∀ (i j : Nat) (p q : Nat × va_E), w[i]? = some p → wr[j]? = some q → p.1 ≠ q.1 := by
  have ap : ∀ (j : Nat) (q : Nat × va_E), wr[j]? = some q → q.1 < H.size ∧ ¬ va_A wc H.size q.1 := by
    intro j q hq
    have hl := (hPr j q hq).lt
    refine ⟨hl, fun h => ?_⟩
    rcases h with ⟨k2, e, h⟩ | h
    · exact apart k2 j (q.1, e) q h hq rfl
    · omega
  refine ⟨fun j q hq => ?_, fun i j p q hi hj e => ?_⟩
  · obtain ⟨g1, g2⟩ := ap j q hq
    exact (hPr j q hq).kept (hk q.1 g1 g2)
  · exact (ap j q hj).2 (by rw [← e]; exact hD1.2 i p hi)
section LW
variable {X : XT} {cc : ByteArray} {nL : Nat} {own : String} {rt : Option FieldType} {ka : Nat → ClassId} {lvl cells slots : Nat} {wa wb ws : va_W} {pc : Nat} {lv : List (Nat × Value)} {st st0 : List Value}
variable {y : MethodName} {b : ByteArray} {n lc mc ms np index : Nat} {r : Option FieldType} {As : List Value} {a : Nat} {q ci : Nat} {fs : List Value} {T : u_T} {N : Nat}
theorem g_callL (C : Cx X cc nL own rt ka lvl) {post : Int32 → va_W → Prop} (hM : MI (xL X) (xD X) ka y b n r lc mc ms (.ref a :: As) wa post) (mi : MInf y b n r np) (hlink : Cond.methodLink own index y ∈ gw) (hlc : lc < lvl) (he : wa[q]? = some (a, .inr (ci, fs))) (hc : vwCl[ci]? = some (y.cls, T, N)) (hn : As.length = np) (hst : st0 = As.reverse ++ .ref a :: st) (hsum : (st.map fun v => v.category).sum ≤ 8) (hcs : cells + mc ≤ (xR X).cells ∧ slots + ms ≤ (xR X).slots) (d : decode cc pc = .ok (.invokevirtual index, 3)) (k : ∀ (z : Int32) (w : va_W), post z w → G X (cells + mc) (slots + ms) (w ++ wb) (pc + 3) lv (.int z :: st)) : G X cells slots (wa ++ wb) pc lv st0 := by
  intro H locs ls hP hD hS hl
  subst hst
  have hF := va_freeA hD.left hS C.fr
  refine va_calli (va_runV (As := As) (rest := st) (Ts := gw) ⟨C.ex, C.co, rfl, C.ow, C.ts⟩ (hM H.size) ⟨callB_gw C hlink mi.2.2.1 mi.2.2.2.1 mi.2.2.2.2.1 mi.2.2.2.2.2 hlc, C.ts _ mi.1, C.ts _ mi.2.1⟩ ⟨PreW.blind, va_recv C.ks hP.left hc he, pre_ws C hP.left hD.left⟩ rfl hn hl.1 rfl (by show 2 * 0 + _ ≤ 8; omega) d hcs) hS (fun q _ h => hF q h) hF (fun z w t H1 locs1 ht hvm hw hB hz1 hk1 hS1 => ?_)
  obtain ⟨hP1, -, hD1⟩ := hB
  rw [ht] at hP1
  obtain ⟨h1, h2⟩ := fr_keep hP.right hD.right (fun i j p q hi hj => hD.cross hi hj) hk1 hP1 hD1
  exact k z w hw H1 locs1 ls (hP1.app h1) ((hD1.weaken (fun _ q _ h => hF q.1 h)).app hD.right h2) hS1 hl
theorem g_callR (C : Cx X cc nL own rt ka lvl) {post : Int32 → va_W → Prop} (hM : MI (xL X) (xD X) ka y b n r lc mc ms (.ref a :: As) wb post) (mi : MInf y b n r np) (hlink : Cond.methodLink own index y ∈ gw) (hlc : lc < lvl) (he : wb[q]? = some (a, .inr (ci, fs))) (hc : vwCl[ci]? = some (y.cls, T, N)) (hn : As.length = np) (hst : st0 = As.reverse ++ .ref a :: st) (hsum : (st.map fun v => v.category).sum ≤ 8) (hcs : cells + mc ≤ (xR X).cells ∧ slots + ms ≤ (xR X).slots) (d : decode cc pc = .ok (.invokevirtual index, 3)) (k : ∀ (z : Int32) (w : va_W), post z w → G X (cells + mc) (slots + ms) (wa ++ w) (pc + 3) lv (.int z :: st)) : G X cells slots (wa ++ wb) pc lv st0 := by
  intro H locs ls hP hD hS hl
  subst hst
  have hF := va_freeA hD.right hS C.fr
  refine va_calli (va_runV (As := As) (rest := st) (Ts := gw) ⟨C.ex, C.co, rfl, C.ow, C.ts⟩ (hM H.size) ⟨callB_gw C hlink mi.2.2.1 mi.2.2.2.1 mi.2.2.2.2.1 mi.2.2.2.2.2 hlc, C.ts _ mi.1, C.ts _ mi.2.1⟩ ⟨PreW.blind, va_recv C.ks hP.right hc he, pre_ws C hP.right hD.right⟩ rfl hn hl.1 rfl (by show 2 * 0 + _ ≤ 8; omega) d hcs) hS (fun q _ h => hF q h) hF (fun z w t H1 locs1 ht hvm hw hB hz1 hk1 hS1 => ?_)
  obtain ⟨hP1, -, hD1⟩ := hB
  rw [ht] at hP1
  obtain ⟨h1, h2⟩ := fr_keep hP.left hD.left (fun i j p q hi hj e => hD.cross hj hi e.symm) hk1 hP1 hD1
  exact k z w hw H1 locs1 ls (h1.app hP1) (hD.left.app (hD1.weaken (fun _ q _ h => hF q.1 h)) (fun i j p q hi hj e => h2 j i q p hj hi e.symm)) hS1 hl
/-- the script is read -/
theorem g_sld (C : Cx X cc nL own rt ka lvl) {sb L : Nat} {xs : Nat → Int32} (hX : va_X sb L xs (xS X) (xS X).heap) (hbl : sb < (xS X).heap.size) (hbA : ¬ xF X sb) {i : Int32} (j : Nat) (hi : i = nI j) (hj : j < L) (hL : L ≤ 384) (d : decode cc pc = .ok (.iaload, 1)) (kk : G X cells slots ws (pc + 1) lv (.int (xs j) :: st)) : G X cells slots ws pc lv (.int i :: .ref sb :: st) := by
  subst hi
  intro H locs ls hP hD hS hl
  refine va_sld C.ex C.co hX hbl hbA hS (vp_in_nI hj (by omega)) d ?_
  rw [nI_clamp (by omega)]
  exact kk H locs ls hP hD hS hl
theorem g_slen (C : Cx X cc nL own rt ka lvl) {sb L : Nat} {xs : Nat → Int32} (hX : va_X sb L xs (xS X) (xS X).heap) (hbl : sb < (xS X).heap.size) (hbA : ¬ xF X sb) (d : decode cc pc = .ok (.arraylength, 1)) (kk : G X cells slots ws (pc + 1) lv (.int (nI L) :: st)) : G X cells slots ws pc lv (.ref sb :: st) := fun H locs ls hP hD hS hl => va_slen C.ex C.co hX hbl hbA hS d (kk H locs ls hP hD hS hl)
theorem g_lor (C : Cx X cc nL own rt ka lvl) {x y : Int64} (d : decode cc pc = .ok (.lor, 1)) (k : G X cells slots ws (pc + 1) lv (.long (x ||| y) :: st)) : G X cells slots ws pc lv (.long y :: .long x :: st) := fun H locs ls a b s h => lv_lor C.ex C.co d (k H locs ls a b s h)
theorem g_lshl (C : Cx X cc nL own rt ka lvl) {x : Int64} {y : Int32} (d : decode cc pc = .ok (.lshl, 1)) (k : G X cells slots ws (pc + 1) lv (.long (x <<< (y.toInt64 &&& 63)) :: st)) : G X cells slots ws pc lv (.int y :: .long x :: st) := fun H locs ls a b s h => lv_lshl C.ex C.co d rfl (k H locs ls a b s h)
theorem g_sub (ws' : va_W) (is : List Nat) (hs : is.map (fun i => ws[i]?) = ws'.map some) (hs2 : is.filterMap (fun i => ws[i]?) = ws') (hn : va_nd is = true) (k : G X cells slots ws' pc lv st) : G X cells slots ws pc lv st := fun H locs ls hP hD hS hl => k H locs ls (hP.sub is hs2) (hD.sub is hn hs) hS hl
theorem g_callIc (C : Cx X cc nL own rt ka lvl) {post : va_W → Prop} (hM : MV (xL X) (xD X) ka y b n none lc mc ms [.ref a] ws post) (hnm : y.name = "<init>") (hinst : Cond.instanceMethod y ∈ gw) (hini : Cond.initialized y.cls ∈ gw) (hcode : Cond.code y b n none ∈ gw) (hd : y.cls ≠ "java/lang/invoke/MethodHandle" ∧ y.cls ≠ "java/lang/invoke/VarHandle" ∧ (parseMethodDescriptor y.desc).map (fun d => d.parameters.length) = some 0) (hn20 : n ≤ 20) (hlink : Cond.methodLink own index y ∈ gw) (hlc : lc < lvl) (hsum : (st.map fun v => v.category).sum ≤ 8) (hcs : cells + mc ≤ (xR X).cells ∧ slots + ms ≤ (xR X).slots) (d : decode cc pc = .ok (.invokespecial index, 3)) (k : ∀ (w : va_W), post w → G X (cells + mc) (slots + ms) w (pc + 3) lv st) : G X cells slots ws pc lv (.ref a :: st) := g_callI (As := []) (np := 0) C hM hnm hinst hini hcode hd hn20 hlink hlc rfl rfl hsum hcs d k
end LW
abbrev KC : Type := Int32 → FT → RT → JT → PT → BT → Prop
abbrev INVT : Type := FT → RT → JT → PT → BT → FT → RT → JT → Prop
theorem law_and (x : Int32) : 0 ≤ (x &&& 31).toInt ∧ (x &&& 31).toInt < 32 := by
  obtain ⟨j, hj, e⟩ := pk_andE x (m := 31) 5 (by decide)
  rw [e, nI_toInt (by omega)]
  omega
/-- what the pure part owes of an invariant: each call answers alike, and keeps it -/
def LawOK (INV : INVT) : Prop :=
  (∀ (F : FT) (R : RT) (J : JT) (P : PT) (B : BT) (F0 : FT) (R0 : RT) (J0 : JT) (a1 : Int32) (a2 : Int32) (a3 : Int32), INV F R J P B F0 R0 J0 → qW_builder F R J P B a1 a2 a3 (fun r F R J P B => qM_builder F0 R0 J0 a1 a2 a3 (fun r0 F0 R0 J0 => r = r0 ∧ INV F R J P B F0 R0 J0))) ∧
  (∀ (F : FT) (R : RT) (J : JT) (P : PT) (B : BT) (F0 : FT) (R0 : RT) (J0 : JT) (a1 : Int32) (a2 : Int32), INV F R J P B F0 R0 J0 → qW_of F R J P B a1 a2 (fun r F R J P B => qM_of F0 R0 J0 a1 a2 (fun r0 F0 R0 J0 => r = r0 ∧ INV F R J P B F0 R0 J0))) ∧
  (∀ (F : FT) (R : RT) (J : JT) (P : PT) (B : BT) (F0 : FT) (R0 : RT) (J0 : JT) (a1 : Int32) (a2 : Int32), INV F R J P B F0 R0 J0 → qW_wall F R J P B a1 a2 (fun r F R J P B => qM_wall F0 R0 J0 a1 a2 (fun r0 F0 R0 J0 => r = r0 ∧ INV F R J P B F0 R0 J0))) ∧
  (∀ (F : FT) (R : RT) (J : JT) (P : PT) (B : BT) (F0 : FT) (R0 : RT) (J0 : JT) (a1 : Int32) (a2 : Int32), INV F R J P B F0 R0 J0 → qW_hindrance F R J P B a1 a2 (fun r F R J P B => qM_hindrance F0 R0 J0 a1 a2 (fun r0 F0 R0 J0 => r = r0 ∧ INV F R J P B F0 R0 J0))) ∧
  (∀ (F : FT) (R : RT) (J : JT) (P : PT) (B : BT) (F0 : FT) (R0 : RT) (J0 : JT) (a1 : Int32) (a2 : Int32), INV F R J P B F0 R0 J0 → qW_oath F R J P B a1 a2 (fun r F R J P B => qM_oath F0 R0 J0 a1 a2 (fun r0 F0 R0 J0 => r = r0 ∧ INV F R J P B F0 R0 J0))) ∧
  (∀ (F : FT) (R : RT) (J : JT) (P : PT) (B : BT) (F0 : FT) (R0 : RT) (J0 : JT) (a1 : Int32), INV F R J P B F0 R0 J0 → qW_type F R J P B a1 (fun r F R J P B => qM_type F0 R0 J0 a1 (fun r0 F0 R0 J0 => r = r0 ∧ INV F R J P B F0 R0 J0))) ∧
  (∀ (F : FT) (R : RT) (J : JT) (P : PT) (B : BT) (F0 : FT) (R0 : RT) (J0 : JT) , INV F R J P B F0 R0 J0 → qW_bargain F R J P B  (fun r F R J P B => qM_bargain F0 R0 J0  (fun r0 F0 R0 J0 => r = r0 ∧ INV F R J P B F0 R0 J0))) ∧
  (∀ (F : FT) (R : RT) (J : JT) (P : PT) (B : BT) (F0 : FT) (R0 : RT) (J0 : JT) (a1 : Int32), INV F R J P B F0 R0 J0 → qW_count F R J P B a1 (fun r F R J P B => qM_count F0 R0 J0 a1 (fun r0 F0 R0 J0 => r = r0 ∧ INV F R J P B F0 R0 J0))) ∧
  (∀ (F : FT) (R : RT) (J : JT) (P : PT) (B : BT) (F0 : FT) (R0 : RT) (J0 : JT) (a1 : Int32), INV F R J P B F0 R0 J0 → qW_day F R J P B a1 (fun r F R J P B => qM_day F0 R0 J0 a1 (fun r0 F0 R0 J0 => r = r0 ∧ INV F R J P B F0 R0 J0))) ∧
  (∀ (F : FT) (R : RT) (J : JT) (P : PT) (B : BT) (F0 : FT) (R0 : RT) (J0 : JT) (a1 : Int32), INV F R J P B F0 R0 J0 → qW_use F R J P B a1 (fun r F R J P B => qM_use F0 R0 J0 a1 (fun r0 F0 R0 J0 => r = r0 ∧ INV F R J P B F0 R0 J0))) ∧
  (∀ (F : FT) (R : RT) (J : JT) (P : PT) (B : BT) (F0 : FT) (R0 : RT) (J0 : JT) (a1 : Int32), INV F R J P B F0 R0 J0 → qW_drift F R J P B a1 (fun r F R J P B => qM_drift F0 R0 J0 a1 (fun r0 F0 R0 J0 => r = r0 ∧ INV F R J P B F0 R0 J0))) ∧
  (∀ (F : FT) (R : RT) (J : JT) (P : PT) (B : BT) (F0 : FT) (R0 : RT) (J0 : JT) , INV F R J P B F0 R0 J0 → qW_undo F R J P B  (fun r F R J P B => qM_undo F0 R0 J0  (fun r0 F0 R0 J0 => r = r0 ∧ INV F R J P B F0 R0 J0))) ∧
  (∀ (F : FT) (R : RT) (J : JT) (P : PT) (B : BT) (F0 : FT) (R0 : RT) (J0 : JT) (a1 : Int32), INV F R J P B F0 R0 J0 → qW_seed F R J P B a1 (fun r F R J P B => qM_seed F0 R0 J0 a1 (fun r0 F0 R0 J0 => r = r0 ∧ INV F R J P B F0 R0 J0))) ∧
  (∀ (F : FT) (R : RT) (J : JT) (P : PT) (B : BT) (F0 : FT) (R0 : RT) (J0 : JT) , INV F R J P B F0 R0 J0 → qW_odds F R J P B  (fun r F R J P B => qM_odds F0 R0 J0  (fun r0 F0 R0 J0 => r = r0 ∧ INV F R J P B F0 R0 J0))) ∧
  (∀ (F : FT) (R : RT) (J : JT) (P : PT) (B : BT) (F0 : FT) (R0 : RT) (J0 : JT) (a1 : Int32) (a2 : Int32), INV F R J P B F0 R0 J0 → qW_oddsAt F R J P B a1 a2 (fun r F R J P B => qM_oddsAt F0 R0 J0 a1 a2 (fun r0 F0 R0 J0 => r = r0 ∧ INV F R J P B F0 R0 J0))) ∧
  (∀ (F : FT) (R : RT) (J : JT) (P : PT) (B : BT) (F0 : FT) (R0 : RT) (J0 : JT) (a1 : Int32), INV F R J P B F0 R0 J0 → qW_sure F R J P B a1 (fun r F R J P B => qM_sure F0 R0 J0 a1 (fun r0 F0 R0 J0 => r = r0 ∧ INV F R J P B F0 R0 J0))) ∧
  (∀ (F : FT) (R : RT) (J : JT) (P : PT) (B : BT) (F0 : FT) (R0 : RT) (J0 : JT) (a1 : Int32) (a2 : Int32), INV F R J P B F0 R0 J0 → qW_pace F R J P B a1 a2 (fun r F R J P B => qM_pace F0 R0 J0 a1 a2 (fun r0 F0 R0 J0 => r = r0 ∧ INV F R J P B F0 R0 J0))) ∧
  (∀ (F : FT) (R : RT) (J : JT) (P : PT) (B : BT) (F0 : FT) (R0 : RT) (J0 : JT) (a1 : Int32) (a2 : Int32), INV F R J P B F0 R0 J0 → qW_plan F R J P B a1 a2 (fun r F R J P B => qM_plan F0 R0 J0 a1 a2 (fun r0 F0 R0 J0 => r = r0 ∧ INV F R J P B F0 R0 J0))) ∧
  (∀ (F : FT) (R : RT) (J : JT) (P : PT) (B : BT) (F0 : FT) (R0 : RT) (J0 : JT) (a1 : Int32) (a2 : Int32), INV F R J P B F0 R0 J0 → qW_best F R J P B a1 a2 (fun r F R J P B => qM_best F0 R0 J0 a1 a2 (fun r0 F0 R0 J0 => r = r0 ∧ INV F R J P B F0 R0 J0))) ∧
  (∀ (F : FT) (R : RT) (J : JT) (P : PT) (B : BT) (F0 : FT) (R0 : RT) (J0 : JT) (a1 : Int32), INV F R J P B F0 R0 J0 → qW_soonest F R J P B a1 (fun r F R J P B => qM_soonest F0 R0 J0 a1 (fun r0 F0 R0 J0 => r = r0 ∧ INV F R J P B F0 R0 J0))) ∧
  (∀ (F : FT) (R : RT) (J : JT) (P : PT) (B : BT) (F0 : FT) (R0 : RT) (J0 : JT) (a1 : Int32) (a2 : Int32), INV F R J P B F0 R0 J0 → qW_mean F R J P B a1 a2 (fun r F R J P B => qM_mean F0 R0 J0 a1 a2 (fun r0 F0 R0 J0 => r = r0 ∧ INV F R J P B F0 R0 J0))) ∧
  (∀ (F : FT) (R : RT) (J : JT) (P : PT) (B : BT) (F0 : FT) (R0 : RT) (J0 : JT) , INV F R J P B F0 R0 J0 → qW_image F R J P B  (fun r F R J P B => qM_image F0 R0 J0  (fun r0 F0 R0 J0 => r = r0 ∧ INV F R J P B F0 R0 J0))) ∧
  (∀ (F : FT) (R : RT) (J : JT) (P : PT) (B : BT) (F0 : FT) (R0 : RT) (J0 : JT) , INV F R J P B F0 R0 J0 → qW_restore F R J P B  (fun r F R J P B => qM_restore F0 R0 J0  (fun r0 F0 R0 J0 => r = r0 ∧ INV F R J P B F0 R0 J0))) ∧
  (∀ (F : FT) (R : RT) (J : JT) (P : PT) (B : BT) (F0 : FT) (R0 : RT) (J0 : JT) (a1 : Int32) (a2 : Int32) (a3 : Int32) (a4 : Int32) (a5 : Int32), INV F R J P B F0 R0 J0 → qW_weather F R J P B a1 a2 a3 a4 a5 (fun r F R J P B => qM_weather F0 R0 J0 a1 a2 a3 a4 a5 (fun r0 F0 R0 J0 => r = r0 ∧ INV F R J P B F0 R0 J0))) ∧
  (∀ (F : FT) (R : RT) (J : JT) (P : PT) (B : BT) (F0 : FT) (R0 : RT) (J0 : JT) (a1 : Int32) (a2 : Int32) (a3 : Int32) (a4 : Int32) (a5 : Int32), INV F R J P B F0 R0 J0 → qW_film F R J P B a1 a2 a3 a4 a5 (fun r F R J P B => qM_film F0 R0 J0 a1 a2 a3 a4 a5 (fun r0 F0 R0 J0 => r = r0 ∧ INV F R J P B F0 R0 J0))) ∧
  (∀ (F : FT) (R : RT) (J : JT) (P : PT) (B : BT) (F0 : FT) (R0 : RT) (J0 : JT) (a1 : Int32) (a2 : Int32) (a3 : Int32), INV F R J P B F0 R0 J0 → qW_sheet F R J P B a1 a2 a3 (fun r F R J P B => qM_sheet F0 R0 J0 a1 a2 a3 (fun r0 F0 R0 J0 => r = r0 ∧ INV F R J P B F0 R0 J0))) ∧
  (∀ (F : FT) (R : RT) (J : JT) (P : PT) (B : BT) (F0 : FT) (R0 : RT) (J0 : JT) (a1 : Int32), INV F R J P B F0 R0 J0 → qW_drop F R J P B a1 (fun r F R J P B => qM_drop F0 R0 J0 a1 (fun r0 F0 R0 J0 => r = r0 ∧ INV F R J P B F0 R0 J0))) ∧
  (∀ (F : FT) (R : RT) (J : JT) (P : PT) (B : BT) (F0 : FT) (R0 : RT) (J0 : JT) (a1 : Int32) (a2 : Int32) (a3 : Int32) (a4 : Int64), INV F R J P B F0 R0 J0 → qW_item F R J P B a1 a2 a3 a4 (fun r F R J P B => qM_item F0 R0 J0 a1 a2 a3 a4 (fun r0 F0 R0 J0 => r = r0 ∧ INV F R J P B F0 R0 J0))) ∧
  (∀ (F : FT) (R : RT) (J : JT) (P : PT) (B : BT) (F0 : FT) (R0 : RT) (J0 : JT) (a1 : Int32) (a2 : Int32) (a3 : Int32) (a4 : Int32) (a5 : Int32), INV F R J P B F0 R0 J0 → qW_copy F R J P B a1 a2 a3 a4 a5 (fun r F R J P B => qM_copy F0 R0 J0 a1 a2 a3 a4 a5 (fun r0 F0 R0 J0 => r = r0 ∧ INV F R J P B F0 R0 J0)))
set_option maxHeartbeats 4000000 in
set_option maxRecDepth 100000 in
theorem lL_0 {X : XT} {ka : Nat → ClassId} {adc adm : Nat → Nat} {sb L : Nat} {xs : Nat → Int32} (C : Cx X cL_law 4 RL (some .boolean) ka 10) (hroom : (xR X).cells = 600000 ∧ (xR X).slots = 7302250) (hX : va_X sb L xs (xS X) (xS X).heap) (hbl : sb < (xS X).heap.size) (hbA : ¬ xF X sb) (hL : L ≤ 384) {INV : INVT} (k : Nat) (hk : 6 * k + 6 ≤ L) {cells slots : Nat} (hc : cells ≤ 48 + 4 * k) (hs : slots ≤ 11900 + 8 * k) (F : FT) (R : RT) (J : JT) (P : PT) (B : BT) (F0 : FT) (R0 : RT) (J0 : JT) (hT : INV F R J P B F0 R0 J0 → qW_builder F R J P B (xs (6 * k + 1)) (xs (6 * k + 2)) (xs (6 * k + 3)) (fun r F R J P B => qM_builder F0 R0 J0 (xs (6 * k + 1)) (xs (6 * k + 2)) (xs (6 * k + 3)) (fun r0 F0 R0 J0 => r = r0 ∧ INV F R J P B F0 R0 J0))) (hI : INV F R J P B F0 R0 J0) (kk : ∀ (F : FT) (R : RT) (J : JT) (P : PT) (B : BT) (F0 : FT) (R0 : RT) (J0 : JT), INV F R J P B F0 R0 J0 → G X (52 + 4 * k) (11908 + 8 * k) (wC adc ka F R J P B ++ wM adm ka F0 R0 J0) 1091 [(0, .ref sb), (1, .ref (adc 99)), (2, .ref (adm 20)), (3, .int (nI (6 * k)))] []) : G X cells slots (wC adc ka F R J P B ++ wM adm ka F0 R0 J0) 164 [(0, .ref sb), (1, .ref (adc 99)), (2, .ref (adm 20)), (3, .int (nI (6 * k)))] [] := by
  have hT := hT hI
  refine g_aload_n C 1 dL_law_164 rfl ?_
  refine g_aload_n C 0 dL_law_165 rfl ?_
  refine g_iload_n C 3 dL_law_166 rfl ?_
  refine g_iconst C (1 : Int32) dL_law_167 ci_1 ?_
  refine g_iadd C dL_law_168 ?_
  refine g_sld C hX hbl hbA (6 * k + 1) (nI_add (6 * k) 1) (by omega) hL dL_law_169 ?_
  refine g_aload_n C 0 dL_law_170 rfl ?_
  refine g_iload_n C 3 dL_law_171 rfl ?_
  refine g_iconst C (2 : Int32) dL_law_172 ci_2 ?_
  refine g_iadd C dL_law_173 ?_
  refine g_sld C hX hbl hbA (6 * k + 2) (nI_add (6 * k) 2) (by omega) hL dL_law_174 ?_
  refine g_aload_n C 0 dL_law_175 rfl ?_
  refine g_iload_n C 3 dL_law_176 rfl ?_
  refine g_iconst C (3 : Int32) dL_law_177 ci_3 ?_
  refine g_iadd C dL_law_178 ?_
  refine g_sld C hX hbl hbA (6 * k + 3) (nI_add (6 * k) 3) (by omega) hL dL_law_179 ?_
  refine g_callL C (mc := 1) (ms := 2) (kW_builder (xL X) (xD X) ka adc _ _ _ _ _ _ _ _ _ hT) miX9_builder (gw_of tw2_28 rfl) (by decide) wC_o0 rfl rfl rfl (Nat.le_of_ble_eq_true rfl) (by rw [hroom.1, hroom.2]; omega) dL_law_180 (fun z w hw => ?_)
  obtain ⟨F, R, J, P, B, rfl, hT⟩ := hw
  refine g_aload_n C 2 dL_law_183 rfl ?_
  refine g_aload_n C 0 dL_law_184 rfl ?_
  refine g_iload_n C 3 dL_law_185 rfl ?_
  refine g_iconst C (1 : Int32) dL_law_186 ci_1 ?_
  refine g_iadd C dL_law_187 ?_
  refine g_sld C hX hbl hbA (6 * k + 1) (nI_add (6 * k) 1) (by omega) hL dL_law_188 ?_
  refine g_aload_n C 0 dL_law_189 rfl ?_
  refine g_iload_n C 3 dL_law_190 rfl ?_
  refine g_iconst C (2 : Int32) dL_law_191 ci_2 ?_
  refine g_iadd C dL_law_192 ?_
  refine g_sld C hX hbl hbA (6 * k + 2) (nI_add (6 * k) 2) (by omega) hL dL_law_193 ?_
  refine g_aload_n C 0 dL_law_194 rfl ?_
  refine g_iload_n C 3 dL_law_195 rfl ?_
  refine g_iconst C (3 : Int32) dL_law_196 ci_3 ?_
  refine g_iadd C dL_law_197 ?_
  refine g_sld C hX hbl hbA (6 * k + 3) (nI_add (6 * k) 3) (by omega) hL dL_law_198 ?_
  refine g_callR C (mc := 0) (ms := 0) (kM_builder (xL X) (xD X) ka adm _ _ _ _ _ _ _ hT) miX10_builder (gw_of tw4_131 rfl) (by decide) wM_at rfl rfl rfl (Nat.le_of_ble_eq_true rfl) (by rw [hroom.1, hroom.2]; omega) dL_law_199 (fun z0 w hw => ?_)
  obtain ⟨F0, R0, J0, rfl, hz, hI⟩ := hw
  refine g_icmp_eq C 1091 dL_law_202 (by decide) (fun _ => ?_) (fun c => absurd hz c)
  exact g_widen (by omega) (by omega) (kk _ _ _ _ _ _ _ _ hI)
set_option maxHeartbeats 4000000 in
set_option maxRecDepth 100000 in
theorem lL_1 {X : XT} {ka : Nat → ClassId} {adc adm : Nat → Nat} {sb L : Nat} {xs : Nat → Int32} (C : Cx X cL_law 4 RL (some .boolean) ka 10) (hroom : (xR X).cells = 600000 ∧ (xR X).slots = 7302250) (hX : va_X sb L xs (xS X) (xS X).heap) (hbl : sb < (xS X).heap.size) (hbA : ¬ xF X sb) (hL : L ≤ 384) {INV : INVT} (k : Nat) (hk : 6 * k + 6 ≤ L) {cells slots : Nat} (hc : cells ≤ 48 + 4 * k) (hs : slots ≤ 11900 + 8 * k) (F : FT) (R : RT) (J : JT) (P : PT) (B : BT) (F0 : FT) (R0 : RT) (J0 : JT) (hT : INV F R J P B F0 R0 J0 → qW_of F R J P B (xs (6 * k + 1)) (xs (6 * k + 2)) (fun r F R J P B => qM_of F0 R0 J0 (xs (6 * k + 1)) (xs (6 * k + 2)) (fun r0 F0 R0 J0 => r = r0 ∧ INV F R J P B F0 R0 J0))) (hI : INV F R J P B F0 R0 J0) (kk : ∀ (F : FT) (R : RT) (J : JT) (P : PT) (B : BT) (F0 : FT) (R0 : RT) (J0 : JT), INV F R J P B F0 R0 J0 → G X (52 + 4 * k) (11908 + 8 * k) (wC adc ka F R J P B ++ wM adm ka F0 R0 J0) 1091 [(0, .ref sb), (1, .ref (adc 99)), (2, .ref (adm 20)), (3, .int (nI (6 * k)))] []) : G X cells slots (wC adc ka F R J P B ++ wM adm ka F0 R0 J0) 207 [(0, .ref sb), (1, .ref (adc 99)), (2, .ref (adm 20)), (3, .int (nI (6 * k)))] [] := by
  have hT := hT hI
  refine g_aload_n C 1 dL_law_207 rfl ?_
  refine g_aload_n C 0 dL_law_208 rfl ?_
  refine g_iload_n C 3 dL_law_209 rfl ?_
  refine g_iconst C (1 : Int32) dL_law_210 ci_1 ?_
  refine g_iadd C dL_law_211 ?_
  refine g_sld C hX hbl hbA (6 * k + 1) (nI_add (6 * k) 1) (by omega) hL dL_law_212 ?_
  refine g_aload_n C 0 dL_law_213 rfl ?_
  refine g_iload_n C 3 dL_law_214 rfl ?_
  refine g_iconst C (2 : Int32) dL_law_215 ci_2 ?_
  refine g_iadd C dL_law_216 ?_
  refine g_sld C hX hbl hbA (6 * k + 2) (nI_add (6 * k) 2) (by omega) hL dL_law_217 ?_
  refine g_callL C (mc := 0) (ms := 0) (kW_of (xL X) (xD X) ka adc _ _ _ _ _ _ _ _ hT) miX9_of (gw_of tw2_99 rfl) (by decide) wC_o0 rfl rfl rfl (Nat.le_of_ble_eq_true rfl) (by rw [hroom.1, hroom.2]; omega) dL_law_218 (fun z w hw => ?_)
  obtain ⟨F, R, J, P, B, rfl, hT⟩ := hw
  refine g_aload_n C 2 dL_law_221 rfl ?_
  refine g_aload_n C 0 dL_law_222 rfl ?_
  refine g_iload_n C 3 dL_law_223 rfl ?_
  refine g_iconst C (1 : Int32) dL_law_224 ci_1 ?_
  refine g_iadd C dL_law_225 ?_
  refine g_sld C hX hbl hbA (6 * k + 1) (nI_add (6 * k) 1) (by omega) hL dL_law_226 ?_
  refine g_aload_n C 0 dL_law_227 rfl ?_
  refine g_iload_n C 3 dL_law_228 rfl ?_
  refine g_iconst C (2 : Int32) dL_law_229 ci_2 ?_
  refine g_iadd C dL_law_230 ?_
  refine g_sld C hX hbl hbA (6 * k + 2) (nI_add (6 * k) 2) (by omega) hL dL_law_231 ?_
  refine g_callR C (mc := 0) (ms := 0) (kM_of (xL X) (xD X) ka adm _ _ _ _ _ _ hT) miX10_of (gw_of tw4_140 rfl) (by decide) wM_at rfl rfl rfl (Nat.le_of_ble_eq_true rfl) (by rw [hroom.1, hroom.2]; omega) dL_law_232 (fun z0 w hw => ?_)
  obtain ⟨F0, R0, J0, rfl, hz, hI⟩ := hw
  refine g_icmp_eq C 1091 dL_law_235 (by decide) (fun _ => ?_) (fun c => absurd hz c)
  exact g_widen (by omega) (by omega) (kk _ _ _ _ _ _ _ _ hI)
set_option maxHeartbeats 4000000 in
set_option maxRecDepth 100000 in
theorem lL_2 {X : XT} {ka : Nat → ClassId} {adc adm : Nat → Nat} {sb L : Nat} {xs : Nat → Int32} (C : Cx X cL_law 4 RL (some .boolean) ka 10) (hroom : (xR X).cells = 600000 ∧ (xR X).slots = 7302250) (hX : va_X sb L xs (xS X) (xS X).heap) (hbl : sb < (xS X).heap.size) (hbA : ¬ xF X sb) (hL : L ≤ 384) {INV : INVT} (k : Nat) (hk : 6 * k + 6 ≤ L) {cells slots : Nat} (hc : cells ≤ 48 + 4 * k) (hs : slots ≤ 11900 + 8 * k) (F : FT) (R : RT) (J : JT) (P : PT) (B : BT) (F0 : FT) (R0 : RT) (J0 : JT) (hT : INV F R J P B F0 R0 J0 → qW_wall F R J P B (xs (6 * k + 1)) (xs (6 * k + 2)) (fun r F R J P B => qM_wall F0 R0 J0 (xs (6 * k + 1)) (xs (6 * k + 2)) (fun r0 F0 R0 J0 => r = r0 ∧ INV F R J P B F0 R0 J0))) (hI : INV F R J P B F0 R0 J0) (kk : ∀ (F : FT) (R : RT) (J : JT) (P : PT) (B : BT) (F0 : FT) (R0 : RT) (J0 : JT), INV F R J P B F0 R0 J0 → G X (52 + 4 * k) (11908 + 8 * k) (wC adc ka F R J P B ++ wM adm ka F0 R0 J0) 1091 [(0, .ref sb), (1, .ref (adc 99)), (2, .ref (adm 20)), (3, .int (nI (6 * k)))] []) : G X cells slots (wC adc ka F R J P B ++ wM adm ka F0 R0 J0) 240 [(0, .ref sb), (1, .ref (adc 99)), (2, .ref (adm 20)), (3, .int (nI (6 * k)))] [] := by
  have hT := hT hI
  refine g_aload_n C 1 dL_law_240 rfl ?_
  refine g_aload_n C 0 dL_law_241 rfl ?_
  refine g_iload_n C 3 dL_law_242 rfl ?_
  refine g_iconst C (1 : Int32) dL_law_243 ci_1 ?_
  refine g_iadd C dL_law_244 ?_
  refine g_sld C hX hbl hbA (6 * k + 1) (nI_add (6 * k) 1) (by omega) hL dL_law_245 ?_
  refine g_aload_n C 0 dL_law_246 rfl ?_
  refine g_iload_n C 3 dL_law_247 rfl ?_
  refine g_iconst C (2 : Int32) dL_law_248 ci_2 ?_
  refine g_iadd C dL_law_249 ?_
  refine g_sld C hX hbl hbA (6 * k + 2) (nI_add (6 * k) 2) (by omega) hL dL_law_250 ?_
  refine g_callL C (mc := 0) (ms := 0) (kW_wall (xL X) (xD X) ka adc _ _ _ _ _ _ _ _ hT) miX9_wall (gw_of tw2_171 rfl) (by decide) wC_o0 rfl rfl rfl (Nat.le_of_ble_eq_true rfl) (by rw [hroom.1, hroom.2]; omega) dL_law_251 (fun z w hw => ?_)
  obtain ⟨F, R, J, P, B, rfl, hT⟩ := hw
  refine g_aload_n C 2 dL_law_254 rfl ?_
  refine g_aload_n C 0 dL_law_255 rfl ?_
  refine g_iload_n C 3 dL_law_256 rfl ?_
  refine g_iconst C (1 : Int32) dL_law_257 ci_1 ?_
  refine g_iadd C dL_law_258 ?_
  refine g_sld C hX hbl hbA (6 * k + 1) (nI_add (6 * k) 1) (by omega) hL dL_law_259 ?_
  refine g_aload_n C 0 dL_law_260 rfl ?_
  refine g_iload_n C 3 dL_law_261 rfl ?_
  refine g_iconst C (2 : Int32) dL_law_262 ci_2 ?_
  refine g_iadd C dL_law_263 ?_
  refine g_sld C hX hbl hbA (6 * k + 2) (nI_add (6 * k) 2) (by omega) hL dL_law_264 ?_
  refine g_callR C (mc := 0) (ms := 0) (kM_wall (xL X) (xD X) ka adm _ _ _ _ _ _ hT) miX10_wall (gw_of tw4_157 rfl) (by decide) wM_at rfl rfl rfl (Nat.le_of_ble_eq_true rfl) (by rw [hroom.1, hroom.2]; omega) dL_law_265 (fun z0 w hw => ?_)
  obtain ⟨F0, R0, J0, rfl, hz, hI⟩ := hw
  refine g_icmp_eq C 1091 dL_law_268 (by decide) (fun _ => ?_) (fun c => absurd hz c)
  exact g_widen (by omega) (by omega) (kk _ _ _ _ _ _ _ _ hI)
set_option maxHeartbeats 4000000 in
set_option maxRecDepth 100000 in
theorem lL_3 {X : XT} {ka : Nat → ClassId} {adc adm : Nat → Nat} {sb L : Nat} {xs : Nat → Int32} (C : Cx X cL_law 4 RL (some .boolean) ka 10) (hroom : (xR X).cells = 600000 ∧ (xR X).slots = 7302250) (hX : va_X sb L xs (xS X) (xS X).heap) (hbl : sb < (xS X).heap.size) (hbA : ¬ xF X sb) (hL : L ≤ 384) {INV : INVT} (k : Nat) (hk : 6 * k + 6 ≤ L) {cells slots : Nat} (hc : cells ≤ 48 + 4 * k) (hs : slots ≤ 11900 + 8 * k) (F : FT) (R : RT) (J : JT) (P : PT) (B : BT) (F0 : FT) (R0 : RT) (J0 : JT) (hT : INV F R J P B F0 R0 J0 → qW_hindrance F R J P B (xs (6 * k + 1)) (xs (6 * k + 2)) (fun r F R J P B => qM_hindrance F0 R0 J0 (xs (6 * k + 1)) (xs (6 * k + 2)) (fun r0 F0 R0 J0 => r = r0 ∧ INV F R J P B F0 R0 J0))) (hI : INV F R J P B F0 R0 J0) (kk : ∀ (F : FT) (R : RT) (J : JT) (P : PT) (B : BT) (F0 : FT) (R0 : RT) (J0 : JT), INV F R J P B F0 R0 J0 → G X (52 + 4 * k) (11908 + 8 * k) (wC adc ka F R J P B ++ wM adm ka F0 R0 J0) 1091 [(0, .ref sb), (1, .ref (adc 99)), (2, .ref (adm 20)), (3, .int (nI (6 * k)))] []) : G X cells slots (wC adc ka F R J P B ++ wM adm ka F0 R0 J0) 273 [(0, .ref sb), (1, .ref (adc 99)), (2, .ref (adm 20)), (3, .int (nI (6 * k)))] [] := by
  have hT := hT hI
  refine g_aload_n C 1 dL_law_273 rfl ?_
  refine g_aload_n C 0 dL_law_274 rfl ?_
  refine g_iload_n C 3 dL_law_275 rfl ?_
  refine g_iconst C (1 : Int32) dL_law_276 ci_1 ?_
  refine g_iadd C dL_law_277 ?_
  refine g_sld C hX hbl hbA (6 * k + 1) (nI_add (6 * k) 1) (by omega) hL dL_law_278 ?_
  refine g_aload_n C 0 dL_law_279 rfl ?_
  refine g_iload_n C 3 dL_law_280 rfl ?_
  refine g_iconst C (2 : Int32) dL_law_281 ci_2 ?_
  refine g_iadd C dL_law_282 ?_
  refine g_sld C hX hbl hbA (6 * k + 2) (nI_add (6 * k) 2) (by omega) hL dL_law_283 ?_
  refine g_callL C (mc := 0) (ms := 0) (kW_hindrance (xL X) (xD X) ka adc _ _ _ _ _ _ _ _ hT) miX9_hindrance (gw_of tw2_191 rfl) (by decide) wC_o0 rfl rfl rfl (Nat.le_of_ble_eq_true rfl) (by rw [hroom.1, hroom.2]; omega) dL_law_284 (fun z w hw => ?_)
  obtain ⟨F, R, J, P, B, rfl, hT⟩ := hw
  refine g_aload_n C 2 dL_law_287 rfl ?_
  refine g_aload_n C 0 dL_law_288 rfl ?_
  refine g_iload_n C 3 dL_law_289 rfl ?_
  refine g_iconst C (1 : Int32) dL_law_290 ci_1 ?_
  refine g_iadd C dL_law_291 ?_
  refine g_sld C hX hbl hbA (6 * k + 1) (nI_add (6 * k) 1) (by omega) hL dL_law_292 ?_
  refine g_aload_n C 0 dL_law_293 rfl ?_
  refine g_iload_n C 3 dL_law_294 rfl ?_
  refine g_iconst C (2 : Int32) dL_law_295 ci_2 ?_
  refine g_iadd C dL_law_296 ?_
  refine g_sld C hX hbl hbA (6 * k + 2) (nI_add (6 * k) 2) (by omega) hL dL_law_297 ?_
  refine g_callR C (mc := 0) (ms := 0) (kM_hindrance (xL X) (xD X) ka adm _ _ _ _ _ _ hT) miX10_hindrance (gw_of tw4_164 rfl) (by decide) wM_at rfl rfl rfl (Nat.le_of_ble_eq_true rfl) (by rw [hroom.1, hroom.2]; omega) dL_law_298 (fun z0 w hw => ?_)
  obtain ⟨F0, R0, J0, rfl, hz, hI⟩ := hw
  refine g_icmp_eq C 1091 dL_law_301 (by decide) (fun _ => ?_) (fun c => absurd hz c)
  exact g_widen (by omega) (by omega) (kk _ _ _ _ _ _ _ _ hI)
set_option maxHeartbeats 4000000 in
set_option maxRecDepth 100000 in
theorem lL_4 {X : XT} {ka : Nat → ClassId} {adc adm : Nat → Nat} {sb L : Nat} {xs : Nat → Int32} (C : Cx X cL_law 4 RL (some .boolean) ka 10) (hroom : (xR X).cells = 600000 ∧ (xR X).slots = 7302250) (hX : va_X sb L xs (xS X) (xS X).heap) (hbl : sb < (xS X).heap.size) (hbA : ¬ xF X sb) (hL : L ≤ 384) {INV : INVT} (k : Nat) (hk : 6 * k + 6 ≤ L) {cells slots : Nat} (hc : cells ≤ 48 + 4 * k) (hs : slots ≤ 11900 + 8 * k) (F : FT) (R : RT) (J : JT) (P : PT) (B : BT) (F0 : FT) (R0 : RT) (J0 : JT) (hT : INV F R J P B F0 R0 J0 → qW_oath F R J P B (xs (6 * k + 1)) (xs (6 * k + 2)) (fun r F R J P B => qM_oath F0 R0 J0 (xs (6 * k + 1)) (xs (6 * k + 2)) (fun r0 F0 R0 J0 => r = r0 ∧ INV F R J P B F0 R0 J0))) (hI : INV F R J P B F0 R0 J0) (kk : ∀ (F : FT) (R : RT) (J : JT) (P : PT) (B : BT) (F0 : FT) (R0 : RT) (J0 : JT), INV F R J P B F0 R0 J0 → G X (52 + 4 * k) (11908 + 8 * k) (wC adc ka F R J P B ++ wM adm ka F0 R0 J0) 1091 [(0, .ref sb), (1, .ref (adc 99)), (2, .ref (adm 20)), (3, .int (nI (6 * k)))] []) : G X cells slots (wC adc ka F R J P B ++ wM adm ka F0 R0 J0) 306 [(0, .ref sb), (1, .ref (adc 99)), (2, .ref (adm 20)), (3, .int (nI (6 * k)))] [] := by
  have hT := hT hI
  refine g_aload_n C 1 dL_law_306 rfl ?_
  refine g_aload_n C 0 dL_law_307 rfl ?_
  refine g_iload_n C 3 dL_law_308 rfl ?_
  refine g_iconst C (1 : Int32) dL_law_309 ci_1 ?_
  refine g_iadd C dL_law_310 ?_
  refine g_sld C hX hbl hbA (6 * k + 1) (nI_add (6 * k) 1) (by omega) hL dL_law_311 ?_
  refine g_aload_n C 0 dL_law_312 rfl ?_
  refine g_iload_n C 3 dL_law_313 rfl ?_
  refine g_iconst C (2 : Int32) dL_law_314 ci_2 ?_
  refine g_iadd C dL_law_315 ?_
  refine g_sld C hX hbl hbA (6 * k + 2) (nI_add (6 * k) 2) (by omega) hL dL_law_316 ?_
  refine g_callL C (mc := 0) (ms := 0) (kW_oath (xL X) (xD X) ka adc _ _ _ _ _ _ _ _ hT) miX9_oath (gw_of tw2_199 rfl) (by decide) wC_o0 rfl rfl rfl (Nat.le_of_ble_eq_true rfl) (by rw [hroom.1, hroom.2]; omega) dL_law_317 (fun z w hw => ?_)
  obtain ⟨F, R, J, P, B, rfl, hT⟩ := hw
  refine g_aload_n C 2 dL_law_320 rfl ?_
  refine g_aload_n C 0 dL_law_321 rfl ?_
  refine g_iload_n C 3 dL_law_322 rfl ?_
  refine g_iconst C (1 : Int32) dL_law_323 ci_1 ?_
  refine g_iadd C dL_law_324 ?_
  refine g_sld C hX hbl hbA (6 * k + 1) (nI_add (6 * k) 1) (by omega) hL dL_law_325 ?_
  refine g_aload_n C 0 dL_law_326 rfl ?_
  refine g_iload_n C 3 dL_law_327 rfl ?_
  refine g_iconst C (2 : Int32) dL_law_328 ci_2 ?_
  refine g_iadd C dL_law_329 ?_
  refine g_sld C hX hbl hbA (6 * k + 2) (nI_add (6 * k) 2) (by omega) hL dL_law_330 ?_
  refine g_callR C (mc := 0) (ms := 0) (kM_oath (xL X) (xD X) ka adm _ _ _ _ _ _ hT) miX10_oath (gw_of tw4_169 rfl) (by decide) wM_at rfl rfl rfl (Nat.le_of_ble_eq_true rfl) (by rw [hroom.1, hroom.2]; omega) dL_law_331 (fun z0 w hw => ?_)
  obtain ⟨F0, R0, J0, rfl, hz, hI⟩ := hw
  refine g_icmp_eq C 1091 dL_law_334 (by decide) (fun _ => ?_) (fun c => absurd hz c)
  exact g_widen (by omega) (by omega) (kk _ _ _ _ _ _ _ _ hI)
set_option maxHeartbeats 4000000 in
set_option maxRecDepth 100000 in
theorem lL_5 {X : XT} {ka : Nat → ClassId} {adc adm : Nat → Nat} {sb L : Nat} {xs : Nat → Int32} (C : Cx X cL_law 4 RL (some .boolean) ka 10) (hroom : (xR X).cells = 600000 ∧ (xR X).slots = 7302250) (hX : va_X sb L xs (xS X) (xS X).heap) (hbl : sb < (xS X).heap.size) (hbA : ¬ xF X sb) (hL : L ≤ 384) {INV : INVT} (k : Nat) (hk : 6 * k + 6 ≤ L) {cells slots : Nat} (hc : cells ≤ 48 + 4 * k) (hs : slots ≤ 11900 + 8 * k) (F : FT) (R : RT) (J : JT) (P : PT) (B : BT) (F0 : FT) (R0 : RT) (J0 : JT) (hT : INV F R J P B F0 R0 J0 → qW_type F R J P B (xs (6 * k + 1)) (fun r F R J P B => qM_type F0 R0 J0 (xs (6 * k + 1)) (fun r0 F0 R0 J0 => r = r0 ∧ INV F R J P B F0 R0 J0))) (hI : INV F R J P B F0 R0 J0) (kk : ∀ (F : FT) (R : RT) (J : JT) (P : PT) (B : BT) (F0 : FT) (R0 : RT) (J0 : JT), INV F R J P B F0 R0 J0 → G X (52 + 4 * k) (11908 + 8 * k) (wC adc ka F R J P B ++ wM adm ka F0 R0 J0) 1091 [(0, .ref sb), (1, .ref (adc 99)), (2, .ref (adm 20)), (3, .int (nI (6 * k)))] []) : G X cells slots (wC adc ka F R J P B ++ wM adm ka F0 R0 J0) 339 [(0, .ref sb), (1, .ref (adc 99)), (2, .ref (adm 20)), (3, .int (nI (6 * k)))] [] := by
  have hT := hT hI
  refine g_aload_n C 1 dL_law_339 rfl ?_
  refine g_aload_n C 0 dL_law_340 rfl ?_
  refine g_iload_n C 3 dL_law_341 rfl ?_
  refine g_iconst C (1 : Int32) dL_law_342 ci_1 ?_
  refine g_iadd C dL_law_343 ?_
  refine g_sld C hX hbl hbA (6 * k + 1) (nI_add (6 * k) 1) (by omega) hL dL_law_344 ?_
  refine g_callL C (mc := 0) (ms := 0) (kW_type (xL X) (xD X) ka adc _ _ _ _ _ _ _ hT) miX9_type (gw_of tw2_203 rfl) (by decide) wC_o0 rfl rfl rfl (Nat.le_of_ble_eq_true rfl) (by rw [hroom.1, hroom.2]; omega) dL_law_345 (fun z w hw => ?_)
  obtain ⟨F, R, J, P, B, rfl, hT⟩ := hw
  refine g_aload_n C 2 dL_law_348 rfl ?_
  refine g_aload_n C 0 dL_law_349 rfl ?_
  refine g_iload_n C 3 dL_law_350 rfl ?_
  refine g_iconst C (1 : Int32) dL_law_351 ci_1 ?_
  refine g_iadd C dL_law_352 ?_
  refine g_sld C hX hbl hbA (6 * k + 1) (nI_add (6 * k) 1) (by omega) hL dL_law_353 ?_
  refine g_callR C (mc := 0) (ms := 0) (kM_type (xL X) (xD X) ka adm _ _ _ _ _ hT) miX10_type (gw_of tw4_178 rfl) (by decide) wM_at rfl rfl rfl (Nat.le_of_ble_eq_true rfl) (by rw [hroom.1, hroom.2]; omega) dL_law_354 (fun z0 w hw => ?_)
  obtain ⟨F0, R0, J0, rfl, hz, hI⟩ := hw
  refine g_icmp_eq C 1091 dL_law_357 (by decide) (fun _ => ?_) (fun c => absurd hz c)
  exact g_widen (by omega) (by omega) (kk _ _ _ _ _ _ _ _ hI)
set_option maxHeartbeats 4000000 in
set_option maxRecDepth 100000 in
theorem lL_6 {X : XT} {ka : Nat → ClassId} {adc adm : Nat → Nat} {sb L : Nat} {xs : Nat → Int32} (C : Cx X cL_law 4 RL (some .boolean) ka 10) (hroom : (xR X).cells = 600000 ∧ (xR X).slots = 7302250) (hX : va_X sb L xs (xS X) (xS X).heap) (hbl : sb < (xS X).heap.size) (hbA : ¬ xF X sb) (hL : L ≤ 384) {INV : INVT} (k : Nat) (hk : 6 * k + 6 ≤ L) {cells slots : Nat} (hc : cells ≤ 48 + 4 * k) (hs : slots ≤ 11900 + 8 * k) (F : FT) (R : RT) (J : JT) (P : PT) (B : BT) (F0 : FT) (R0 : RT) (J0 : JT) (hT : INV F R J P B F0 R0 J0 → qW_bargain F R J P B  (fun r F R J P B => qM_bargain F0 R0 J0  (fun r0 F0 R0 J0 => r = r0 ∧ INV F R J P B F0 R0 J0))) (hI : INV F R J P B F0 R0 J0) (kk : ∀ (F : FT) (R : RT) (J : JT) (P : PT) (B : BT) (F0 : FT) (R0 : RT) (J0 : JT), INV F R J P B F0 R0 J0 → G X (52 + 4 * k) (11908 + 8 * k) (wC adc ka F R J P B ++ wM adm ka F0 R0 J0) 1091 [(0, .ref sb), (1, .ref (adc 99)), (2, .ref (adm 20)), (3, .int (nI (6 * k)))] []) : G X cells slots (wC adc ka F R J P B ++ wM adm ka F0 R0 J0) 362 [(0, .ref sb), (1, .ref (adc 99)), (2, .ref (adm 20)), (3, .int (nI (6 * k)))] [] := by
  have hT := hT hI
  refine g_aload_n C 1 dL_law_362 rfl ?_
  refine g_callL C (mc := 4) (ms := 8) (kW_bargain (xL X) (xD X) ka adc _ _ _ _ _  _ hT) miX9_bargain (gw_of tw2_211 rfl) (by decide) wC_o0 rfl rfl rfl (Nat.le_of_ble_eq_true rfl) (by rw [hroom.1, hroom.2]; omega) dL_law_363 (fun z w hw => ?_)
  obtain ⟨F, R, J, P, B, rfl, hT⟩ := hw
  refine g_aload_n C 2 dL_law_366 rfl ?_
  refine g_callR C (mc := 0) (ms := 0) (kM_bargain (xL X) (xD X) ka adm _ _ _  _ hT) miX10_bargain (gw_of tw4_184 rfl) (by decide) wM_at rfl rfl rfl (Nat.le_of_ble_eq_true rfl) (by rw [hroom.1, hroom.2]; omega) dL_law_367 (fun z0 w hw => ?_)
  obtain ⟨F0, R0, J0, rfl, hz, hI⟩ := hw
  refine g_icmp_eq C 1091 dL_law_370 (by decide) (fun _ => ?_) (fun c => absurd hz c)
  exact g_widen (by omega) (by omega) (kk _ _ _ _ _ _ _ _ hI)
set_option maxHeartbeats 4000000 in
set_option maxRecDepth 100000 in
theorem lL_7 {X : XT} {ka : Nat → ClassId} {adc adm : Nat → Nat} {sb L : Nat} {xs : Nat → Int32} (C : Cx X cL_law 4 RL (some .boolean) ka 10) (hroom : (xR X).cells = 600000 ∧ (xR X).slots = 7302250) (hX : va_X sb L xs (xS X) (xS X).heap) (hbl : sb < (xS X).heap.size) (hbA : ¬ xF X sb) (hL : L ≤ 384) {INV : INVT} (k : Nat) (hk : 6 * k + 6 ≤ L) {cells slots : Nat} (hc : cells ≤ 48 + 4 * k) (hs : slots ≤ 11900 + 8 * k) (F : FT) (R : RT) (J : JT) (P : PT) (B : BT) (F0 : FT) (R0 : RT) (J0 : JT) (hT : INV F R J P B F0 R0 J0 → qW_count F R J P B (xs (6 * k + 1)) (fun r F R J P B => qM_count F0 R0 J0 (xs (6 * k + 1)) (fun r0 F0 R0 J0 => r = r0 ∧ INV F R J P B F0 R0 J0))) (hI : INV F R J P B F0 R0 J0) (kk : ∀ (F : FT) (R : RT) (J : JT) (P : PT) (B : BT) (F0 : FT) (R0 : RT) (J0 : JT), INV F R J P B F0 R0 J0 → G X (52 + 4 * k) (11908 + 8 * k) (wC adc ka F R J P B ++ wM adm ka F0 R0 J0) 1091 [(0, .ref sb), (1, .ref (adc 99)), (2, .ref (adm 20)), (3, .int (nI (6 * k)))] []) : G X cells slots (wC adc ka F R J P B ++ wM adm ka F0 R0 J0) 375 [(0, .ref sb), (1, .ref (adc 99)), (2, .ref (adm 20)), (3, .int (nI (6 * k)))] [] := by
  have hT := hT hI
  refine g_aload_n C 1 dL_law_375 rfl ?_
  refine g_aload_n C 0 dL_law_376 rfl ?_
  refine g_iload_n C 3 dL_law_377 rfl ?_
  refine g_iconst C (1 : Int32) dL_law_378 ci_1 ?_
  refine g_iadd C dL_law_379 ?_
  refine g_sld C hX hbl hbA (6 * k + 1) (nI_add (6 * k) 1) (by omega) hL dL_law_380 ?_
  refine g_callL C (mc := 0) (ms := 0) (kW_count (xL X) (xD X) ka adc _ _ _ _ _ _ _ hT) miX9_count (gw_of tw3_28 rfl) (by decide) wC_o0 rfl rfl rfl (Nat.le_of_ble_eq_true rfl) (by rw [hroom.1, hroom.2]; omega) dL_law_381 (fun z w hw => ?_)
  obtain ⟨F, R, J, P, B, rfl, hT⟩ := hw
  refine g_aload_n C 2 dL_law_384 rfl ?_
  refine g_aload_n C 0 dL_law_385 rfl ?_
  refine g_iload_n C 3 dL_law_386 rfl ?_
  refine g_iconst C (1 : Int32) dL_law_387 ci_1 ?_
  refine g_iadd C dL_law_388 ?_
  refine g_sld C hX hbl hbA (6 * k + 1) (nI_add (6 * k) 1) (by omega) hL dL_law_389 ?_
  refine g_callR C (mc := 0) (ms := 0) (kM_count (xL X) (xD X) ka adm _ _ _ _ _ hT) miX10_count (gw_of tw4_173 rfl) (by decide) wM_at rfl rfl rfl (Nat.le_of_ble_eq_true rfl) (by rw [hroom.1, hroom.2]; omega) dL_law_390 (fun z0 w hw => ?_)
  obtain ⟨F0, R0, J0, rfl, hz, hI⟩ := hw
  refine g_icmp_eq C 1091 dL_law_393 (by decide) (fun _ => ?_) (fun c => absurd hz c)
  exact g_widen (by omega) (by omega) (kk _ _ _ _ _ _ _ _ hI)
set_option maxHeartbeats 4000000 in
set_option maxRecDepth 100000 in
theorem lL_8 {X : XT} {ka : Nat → ClassId} {adc adm : Nat → Nat} {sb L : Nat} {xs : Nat → Int32} (C : Cx X cL_law 4 RL (some .boolean) ka 10) (hroom : (xR X).cells = 600000 ∧ (xR X).slots = 7302250) (hX : va_X sb L xs (xS X) (xS X).heap) (hbl : sb < (xS X).heap.size) (hbA : ¬ xF X sb) (hL : L ≤ 384) {INV : INVT} (k : Nat) (hk : 6 * k + 6 ≤ L) {cells slots : Nat} (hc : cells ≤ 48 + 4 * k) (hs : slots ≤ 11900 + 8 * k) (F : FT) (R : RT) (J : JT) (P : PT) (B : BT) (F0 : FT) (R0 : RT) (J0 : JT) (hT : INV F R J P B F0 R0 J0 → qW_day F R J P B (xs (6 * k + 1)) (fun r F R J P B => qM_day F0 R0 J0 (xs (6 * k + 1)) (fun r0 F0 R0 J0 => r = r0 ∧ INV F R J P B F0 R0 J0))) (hI : INV F R J P B F0 R0 J0) (kk : ∀ (F : FT) (R : RT) (J : JT) (P : PT) (B : BT) (F0 : FT) (R0 : RT) (J0 : JT), INV F R J P B F0 R0 J0 → G X (52 + 4 * k) (11908 + 8 * k) (wC adc ka F R J P B ++ wM adm ka F0 R0 J0) 1091 [(0, .ref sb), (1, .ref (adc 99)), (2, .ref (adm 20)), (3, .int (nI (6 * k)))] []) : G X cells slots (wC adc ka F R J P B ++ wM adm ka F0 R0 J0) 398 [(0, .ref sb), (1, .ref (adc 99)), (2, .ref (adm 20)), (3, .int (nI (6 * k)))] [] := by
  have hT := hT hI
  refine g_aload_n C 1 dL_law_398 rfl ?_
  refine g_aload_n C 0 dL_law_399 rfl ?_
  refine g_iload_n C 3 dL_law_400 rfl ?_
  refine g_iconst C (1 : Int32) dL_law_401 ci_1 ?_
  refine g_iadd C dL_law_402 ?_
  refine g_sld C hX hbl hbA (6 * k + 1) (nI_add (6 * k) 1) (by omega) hL dL_law_403 ?_
  refine g_callL C (mc := 0) (ms := 0) (kW_day (xL X) (xD X) ka adc _ _ _ _ _ _ _ hT) miX9_day (gw_of tw3_40 rfl) (by decide) wC_o0 rfl rfl rfl (Nat.le_of_ble_eq_true rfl) (by rw [hroom.1, hroom.2]; omega) dL_law_404 (fun z w hw => ?_)
  obtain ⟨F, R, J, P, B, rfl, hT⟩ := hw
  refine g_aload_n C 2 dL_law_407 rfl ?_
  refine g_aload_n C 0 dL_law_408 rfl ?_
  refine g_iload_n C 3 dL_law_409 rfl ?_
  refine g_iconst C (1 : Int32) dL_law_410 ci_1 ?_
  refine g_iadd C dL_law_411 ?_
  refine g_sld C hX hbl hbA (6 * k + 1) (nI_add (6 * k) 1) (by omega) hL dL_law_412 ?_
  refine g_callR C (mc := 0) (ms := 0) (kM_day (xL X) (xD X) ka adm _ _ _ _ _ hT) miX10_day (gw_of tw4_220 rfl) (by decide) wM_at rfl rfl rfl (Nat.le_of_ble_eq_true rfl) (by rw [hroom.1, hroom.2]; omega) dL_law_413 (fun z0 w hw => ?_)
  obtain ⟨F0, R0, J0, rfl, hz, hI⟩ := hw
  refine g_icmp_eq C 1091 dL_law_416 (by decide) (fun _ => ?_) (fun c => absurd hz c)
  exact g_widen (by omega) (by omega) (kk _ _ _ _ _ _ _ _ hI)
set_option maxHeartbeats 4000000 in
set_option maxRecDepth 100000 in
theorem lL_9 {X : XT} {ka : Nat → ClassId} {adc adm : Nat → Nat} {sb L : Nat} {xs : Nat → Int32} (C : Cx X cL_law 4 RL (some .boolean) ka 10) (hroom : (xR X).cells = 600000 ∧ (xR X).slots = 7302250) (hX : va_X sb L xs (xS X) (xS X).heap) (hbl : sb < (xS X).heap.size) (hbA : ¬ xF X sb) (hL : L ≤ 384) {INV : INVT} (k : Nat) (hk : 6 * k + 6 ≤ L) {cells slots : Nat} (hc : cells ≤ 48 + 4 * k) (hs : slots ≤ 11900 + 8 * k) (F : FT) (R : RT) (J : JT) (P : PT) (B : BT) (F0 : FT) (R0 : RT) (J0 : JT) (hT : INV F R J P B F0 R0 J0 → qW_use F R J P B (xs (6 * k + 1)) (fun r F R J P B => qM_use F0 R0 J0 (xs (6 * k + 1)) (fun r0 F0 R0 J0 => r = r0 ∧ INV F R J P B F0 R0 J0))) (hI : INV F R J P B F0 R0 J0) (kk : ∀ (F : FT) (R : RT) (J : JT) (P : PT) (B : BT) (F0 : FT) (R0 : RT) (J0 : JT), INV F R J P B F0 R0 J0 → G X (52 + 4 * k) (11908 + 8 * k) (wC adc ka F R J P B ++ wM adm ka F0 R0 J0) 1091 [(0, .ref sb), (1, .ref (adc 99)), (2, .ref (adm 20)), (3, .int (nI (6 * k)))] []) : G X cells slots (wC adc ka F R J P B ++ wM adm ka F0 R0 J0) 421 [(0, .ref sb), (1, .ref (adc 99)), (2, .ref (adm 20)), (3, .int (nI (6 * k)))] [] := by
  have hT := hT hI
  refine g_aload_n C 1 dL_law_421 rfl ?_
  refine g_aload_n C 0 dL_law_422 rfl ?_
  refine g_iload_n C 3 dL_law_423 rfl ?_
  refine g_iconst C (1 : Int32) dL_law_424 ci_1 ?_
  refine g_iadd C dL_law_425 ?_
  refine g_sld C hX hbl hbA (6 * k + 1) (nI_add (6 * k) 1) (by omega) hL dL_law_426 ?_
  refine g_callL C (mc := 0) (ms := 0) (kW_use (xL X) (xD X) ka adc _ _ _ _ _ _ _ hT) miX9_use (gw_of tw3_72 rfl) (by decide) wC_o0 rfl rfl rfl (Nat.le_of_ble_eq_true rfl) (by rw [hroom.1, hroom.2]; omega) dL_law_427 (fun z w hw => ?_)
  obtain ⟨F, R, J, P, B, rfl, hT⟩ := hw
  refine g_aload_n C 2 dL_law_430 rfl ?_
  refine g_aload_n C 0 dL_law_431 rfl ?_
  refine g_iload_n C 3 dL_law_432 rfl ?_
  refine g_iconst C (1 : Int32) dL_law_433 ci_1 ?_
  refine g_iadd C dL_law_434 ?_
  refine g_sld C hX hbl hbA (6 * k + 1) (nI_add (6 * k) 1) (by omega) hL dL_law_435 ?_
  refine g_callR C (mc := 0) (ms := 0) (kM_use (xL X) (xD X) ka adm _ _ _ _ _ hT) miX10_use (gw_of tw5_4 rfl) (by decide) wM_at rfl rfl rfl (Nat.le_of_ble_eq_true rfl) (by rw [hroom.1, hroom.2]; omega) dL_law_436 (fun z0 w hw => ?_)
  obtain ⟨F0, R0, J0, rfl, hz, hI⟩ := hw
  refine g_icmp_eq C 1091 dL_law_439 (by decide) (fun _ => ?_) (fun c => absurd hz c)
  exact g_widen (by omega) (by omega) (kk _ _ _ _ _ _ _ _ hI)
set_option maxHeartbeats 4000000 in
set_option maxRecDepth 100000 in
theorem lL_10 {X : XT} {ka : Nat → ClassId} {adc adm : Nat → Nat} {sb L : Nat} {xs : Nat → Int32} (C : Cx X cL_law 4 RL (some .boolean) ka 10) (hroom : (xR X).cells = 600000 ∧ (xR X).slots = 7302250) (hX : va_X sb L xs (xS X) (xS X).heap) (hbl : sb < (xS X).heap.size) (hbA : ¬ xF X sb) (hL : L ≤ 384) {INV : INVT} (k : Nat) (hk : 6 * k + 6 ≤ L) {cells slots : Nat} (hc : cells ≤ 48 + 4 * k) (hs : slots ≤ 11900 + 8 * k) (F : FT) (R : RT) (J : JT) (P : PT) (B : BT) (F0 : FT) (R0 : RT) (J0 : JT) (hT : INV F R J P B F0 R0 J0 → qW_drift F R J P B (xs (6 * k + 1)) (fun r F R J P B => qM_drift F0 R0 J0 (xs (6 * k + 1)) (fun r0 F0 R0 J0 => r = r0 ∧ INV F R J P B F0 R0 J0))) (hI : INV F R J P B F0 R0 J0) (kk : ∀ (F : FT) (R : RT) (J : JT) (P : PT) (B : BT) (F0 : FT) (R0 : RT) (J0 : JT), INV F R J P B F0 R0 J0 → G X (52 + 4 * k) (11908 + 8 * k) (wC adc ka F R J P B ++ wM adm ka F0 R0 J0) 1091 [(0, .ref sb), (1, .ref (adc 99)), (2, .ref (adm 20)), (3, .int (nI (6 * k)))] []) : G X cells slots (wC adc ka F R J P B ++ wM adm ka F0 R0 J0) 444 [(0, .ref sb), (1, .ref (adc 99)), (2, .ref (adm 20)), (3, .int (nI (6 * k)))] [] := by
  have hT := hT hI
  refine g_aload_n C 1 dL_law_444 rfl ?_
  refine g_aload_n C 0 dL_law_445 rfl ?_
  refine g_iload_n C 3 dL_law_446 rfl ?_
  refine g_iconst C (1 : Int32) dL_law_447 ci_1 ?_
  refine g_iadd C dL_law_448 ?_
  refine g_sld C hX hbl hbA (6 * k + 1) (nI_add (6 * k) 1) (by omega) hL dL_law_449 ?_
  refine g_callL C (mc := 0) (ms := 0) (kW_drift (xL X) (xD X) ka adc _ _ _ _ _ _ _ hT) miX9_drift (gw_of tw3_88 rfl) (by decide) wC_o0 rfl rfl rfl (Nat.le_of_ble_eq_true rfl) (by rw [hroom.1, hroom.2]; omega) dL_law_450 (fun z w hw => ?_)
  obtain ⟨F, R, J, P, B, rfl, hT⟩ := hw
  refine g_aload_n C 2 dL_law_453 rfl ?_
  refine g_aload_n C 0 dL_law_454 rfl ?_
  refine g_iload_n C 3 dL_law_455 rfl ?_
  refine g_iconst C (1 : Int32) dL_law_456 ci_1 ?_
  refine g_iadd C dL_law_457 ?_
  refine g_sld C hX hbl hbA (6 * k + 1) (nI_add (6 * k) 1) (by omega) hL dL_law_458 ?_
  refine g_callR C (mc := 0) (ms := 0) (kM_drift (xL X) (xD X) ka adm _ _ _ _ _ hT) miX10_drift (gw_of tw5_28 rfl) (by decide) wM_at rfl rfl rfl (Nat.le_of_ble_eq_true rfl) (by rw [hroom.1, hroom.2]; omega) dL_law_459 (fun z0 w hw => ?_)
  obtain ⟨F0, R0, J0, rfl, hz, hI⟩ := hw
  refine g_icmp_eq C 1091 dL_law_462 (by decide) (fun _ => ?_) (fun c => absurd hz c)
  exact g_widen (by omega) (by omega) (kk _ _ _ _ _ _ _ _ hI)
set_option maxHeartbeats 4000000 in
set_option maxRecDepth 100000 in
theorem lL_11 {X : XT} {ka : Nat → ClassId} {adc adm : Nat → Nat} {sb L : Nat} {xs : Nat → Int32} (C : Cx X cL_law 4 RL (some .boolean) ka 10) (hroom : (xR X).cells = 600000 ∧ (xR X).slots = 7302250) (hX : va_X sb L xs (xS X) (xS X).heap) (hbl : sb < (xS X).heap.size) (hbA : ¬ xF X sb) (hL : L ≤ 384) {INV : INVT} (k : Nat) (hk : 6 * k + 6 ≤ L) {cells slots : Nat} (hc : cells ≤ 48 + 4 * k) (hs : slots ≤ 11900 + 8 * k) (F : FT) (R : RT) (J : JT) (P : PT) (B : BT) (F0 : FT) (R0 : RT) (J0 : JT) (hT : INV F R J P B F0 R0 J0 → qW_undo F R J P B  (fun r F R J P B => qM_undo F0 R0 J0  (fun r0 F0 R0 J0 => r = r0 ∧ INV F R J P B F0 R0 J0))) (hI : INV F R J P B F0 R0 J0) (kk : ∀ (F : FT) (R : RT) (J : JT) (P : PT) (B : BT) (F0 : FT) (R0 : RT) (J0 : JT), INV F R J P B F0 R0 J0 → G X (52 + 4 * k) (11908 + 8 * k) (wC adc ka F R J P B ++ wM adm ka F0 R0 J0) 1091 [(0, .ref sb), (1, .ref (adc 99)), (2, .ref (adm 20)), (3, .int (nI (6 * k)))] []) : G X cells slots (wC adc ka F R J P B ++ wM adm ka F0 R0 J0) 467 [(0, .ref sb), (1, .ref (adc 99)), (2, .ref (adm 20)), (3, .int (nI (6 * k)))] [] := by
  have hT := hT hI
  refine g_aload_n C 1 dL_law_467 rfl ?_
  refine g_callL C (mc := 0) (ms := 0) (kW_undo (xL X) (xD X) ka adc _ _ _ _ _  _ hT) miX9_undo (gw_of tw3_100 rfl) (by decide) wC_o0 rfl rfl rfl (Nat.le_of_ble_eq_true rfl) (by rw [hroom.1, hroom.2]; omega) dL_law_468 (fun z w hw => ?_)
  obtain ⟨F, R, J, P, B, rfl, hT⟩ := hw
  refine g_aload_n C 2 dL_law_471 rfl ?_
  refine g_callR C (mc := 0) (ms := 0) (kM_undo (xL X) (xD X) ka adm _ _ _  _ hT) miX10_undo (gw_of tw5_36 rfl) (by decide) wM_at rfl rfl rfl (Nat.le_of_ble_eq_true rfl) (by rw [hroom.1, hroom.2]; omega) dL_law_472 (fun z0 w hw => ?_)
  obtain ⟨F0, R0, J0, rfl, hz, hI⟩ := hw
  refine g_icmp_eq C 1091 dL_law_475 (by decide) (fun _ => ?_) (fun c => absurd hz c)
  exact g_widen (by omega) (by omega) (kk _ _ _ _ _ _ _ _ hI)
set_option maxHeartbeats 4000000 in
set_option maxRecDepth 100000 in
theorem lL_12 {X : XT} {ka : Nat → ClassId} {adc adm : Nat → Nat} {sb L : Nat} {xs : Nat → Int32} (C : Cx X cL_law 4 RL (some .boolean) ka 10) (hroom : (xR X).cells = 600000 ∧ (xR X).slots = 7302250) (hX : va_X sb L xs (xS X) (xS X).heap) (hbl : sb < (xS X).heap.size) (hbA : ¬ xF X sb) (hL : L ≤ 384) {INV : INVT} (k : Nat) (hk : 6 * k + 6 ≤ L) {cells slots : Nat} (hc : cells ≤ 48 + 4 * k) (hs : slots ≤ 11900 + 8 * k) (F : FT) (R : RT) (J : JT) (P : PT) (B : BT) (F0 : FT) (R0 : RT) (J0 : JT) (hT : INV F R J P B F0 R0 J0 → qW_seed F R J P B (xs (6 * k + 1)) (fun r F R J P B => qM_seed F0 R0 J0 (xs (6 * k + 1)) (fun r0 F0 R0 J0 => r = r0 ∧ INV F R J P B F0 R0 J0))) (hI : INV F R J P B F0 R0 J0) (kk : ∀ (F : FT) (R : RT) (J : JT) (P : PT) (B : BT) (F0 : FT) (R0 : RT) (J0 : JT), INV F R J P B F0 R0 J0 → G X (52 + 4 * k) (11908 + 8 * k) (wC adc ka F R J P B ++ wM adm ka F0 R0 J0) 1091 [(0, .ref sb), (1, .ref (adc 99)), (2, .ref (adm 20)), (3, .int (nI (6 * k)))] []) : G X cells slots (wC adc ka F R J P B ++ wM adm ka F0 R0 J0) 480 [(0, .ref sb), (1, .ref (adc 99)), (2, .ref (adm 20)), (3, .int (nI (6 * k)))] [] := by
  have hT := hT hI
  refine g_aload_n C 1 dL_law_480 rfl ?_
  refine g_aload_n C 0 dL_law_481 rfl ?_
  refine g_iload_n C 3 dL_law_482 rfl ?_
  refine g_iconst C (1 : Int32) dL_law_483 ci_1 ?_
  refine g_iadd C dL_law_484 ?_
  refine g_sld C hX hbl hbA (6 * k + 1) (nI_add (6 * k) 1) (by omega) hL dL_law_485 ?_
  refine g_callL C (mc := 0) (ms := 0) (kW_seed (xL X) (xD X) ka adc _ _ _ _ _ _ _ hT) miX9_seed (gw_of tw3_108 rfl) (by decide) wC_o0 rfl rfl rfl (Nat.le_of_ble_eq_true rfl) (by rw [hroom.1, hroom.2]; omega) dL_law_486 (fun z w hw => ?_)
  obtain ⟨F, R, J, P, B, rfl, hT⟩ := hw
  refine g_aload_n C 2 dL_law_489 rfl ?_
  refine g_aload_n C 0 dL_law_490 rfl ?_
  refine g_iload_n C 3 dL_law_491 rfl ?_
  refine g_iconst C (1 : Int32) dL_law_492 ci_1 ?_
  refine g_iadd C dL_law_493 ?_
  refine g_sld C hX hbl hbA (6 * k + 1) (nI_add (6 * k) 1) (by omega) hL dL_law_494 ?_
  refine g_callR C (mc := 0) (ms := 0) (kM_seed (xL X) (xD X) ka adm _ _ _ _ _ hT) miX10_seed (gw_of tw5_40 rfl) (by decide) wM_at rfl rfl rfl (Nat.le_of_ble_eq_true rfl) (by rw [hroom.1, hroom.2]; omega) dL_law_495 (fun z0 w hw => ?_)
  obtain ⟨F0, R0, J0, rfl, hz, hI⟩ := hw
  refine g_icmp_eq C 1091 dL_law_498 (by decide) (fun _ => ?_) (fun c => absurd hz c)
  exact g_widen (by omega) (by omega) (kk _ _ _ _ _ _ _ _ hI)
set_option maxHeartbeats 4000000 in
set_option maxRecDepth 100000 in
theorem lL_13 {X : XT} {ka : Nat → ClassId} {adc adm : Nat → Nat} {sb L : Nat} {xs : Nat → Int32} (C : Cx X cL_law 4 RL (some .boolean) ka 10) (hroom : (xR X).cells = 600000 ∧ (xR X).slots = 7302250) (hX : va_X sb L xs (xS X) (xS X).heap) (hbl : sb < (xS X).heap.size) (hbA : ¬ xF X sb) (hL : L ≤ 384) {INV : INVT} (k : Nat) (hk : 6 * k + 6 ≤ L) {cells slots : Nat} (hc : cells ≤ 48 + 4 * k) (hs : slots ≤ 11900 + 8 * k) (F : FT) (R : RT) (J : JT) (P : PT) (B : BT) (F0 : FT) (R0 : RT) (J0 : JT) (hT : INV F R J P B F0 R0 J0 → qW_odds F R J P B  (fun r F R J P B => qM_odds F0 R0 J0  (fun r0 F0 R0 J0 => r = r0 ∧ INV F R J P B F0 R0 J0))) (hI : INV F R J P B F0 R0 J0) (kk : ∀ (F : FT) (R : RT) (J : JT) (P : PT) (B : BT) (F0 : FT) (R0 : RT) (J0 : JT), INV F R J P B F0 R0 J0 → G X (52 + 4 * k) (11908 + 8 * k) (wC adc ka F R J P B ++ wM adm ka F0 R0 J0) 1091 [(0, .ref sb), (1, .ref (adc 99)), (2, .ref (adm 20)), (3, .int (nI (6 * k)))] []) : G X cells slots (wC adc ka F R J P B ++ wM adm ka F0 R0 J0) 503 [(0, .ref sb), (1, .ref (adc 99)), (2, .ref (adm 20)), (3, .int (nI (6 * k)))] [] := by
  have hT := hT hI
  refine g_aload_n C 1 dL_law_503 rfl ?_
  refine g_callL C (mc := 0) (ms := 0) (kW_odds (xL X) (xD X) ka adc _ _ _ _ _  _ hT) miX9_odds (gw_of tw3_112 rfl) (by decide) wC_o0 rfl rfl rfl (Nat.le_of_ble_eq_true rfl) (by rw [hroom.1, hroom.2]; omega) dL_law_504 (fun z w hw => ?_)
  obtain ⟨F, R, J, P, B, rfl, hT⟩ := hw
  refine g_aload_n C 2 dL_law_507 rfl ?_
  refine g_callR C (mc := 0) (ms := 0) (kM_odds (xL X) (xD X) ka adm _ _ _  _ hT) miX10_odds (gw_of tw5_44 rfl) (by decide) wM_at rfl rfl rfl (Nat.le_of_ble_eq_true rfl) (by rw [hroom.1, hroom.2]; omega) dL_law_508 (fun z0 w hw => ?_)
  obtain ⟨F0, R0, J0, rfl, hz, hI⟩ := hw
  refine g_icmp_eq C 1091 dL_law_511 (by decide) (fun _ => ?_) (fun c => absurd hz c)
  exact g_widen (by omega) (by omega) (kk _ _ _ _ _ _ _ _ hI)
set_option maxHeartbeats 4000000 in
set_option maxRecDepth 100000 in
theorem lL_14 {X : XT} {ka : Nat → ClassId} {adc adm : Nat → Nat} {sb L : Nat} {xs : Nat → Int32} (C : Cx X cL_law 4 RL (some .boolean) ka 10) (hroom : (xR X).cells = 600000 ∧ (xR X).slots = 7302250) (hX : va_X sb L xs (xS X) (xS X).heap) (hbl : sb < (xS X).heap.size) (hbA : ¬ xF X sb) (hL : L ≤ 384) {INV : INVT} (k : Nat) (hk : 6 * k + 6 ≤ L) {cells slots : Nat} (hc : cells ≤ 48 + 4 * k) (hs : slots ≤ 11900 + 8 * k) (F : FT) (R : RT) (J : JT) (P : PT) (B : BT) (F0 : FT) (R0 : RT) (J0 : JT) (hT : INV F R J P B F0 R0 J0 → qW_oddsAt F R J P B (xs (6 * k + 1)) (xs (6 * k + 2)) (fun r F R J P B => qM_oddsAt F0 R0 J0 (xs (6 * k + 1)) (xs (6 * k + 2)) (fun r0 F0 R0 J0 => r = r0 ∧ INV F R J P B F0 R0 J0))) (hI : INV F R J P B F0 R0 J0) (kk : ∀ (F : FT) (R : RT) (J : JT) (P : PT) (B : BT) (F0 : FT) (R0 : RT) (J0 : JT), INV F R J P B F0 R0 J0 → G X (52 + 4 * k) (11908 + 8 * k) (wC adc ka F R J P B ++ wM adm ka F0 R0 J0) 1091 [(0, .ref sb), (1, .ref (adc 99)), (2, .ref (adm 20)), (3, .int (nI (6 * k)))] []) : G X cells slots (wC adc ka F R J P B ++ wM adm ka F0 R0 J0) 516 [(0, .ref sb), (1, .ref (adc 99)), (2, .ref (adm 20)), (3, .int (nI (6 * k)))] [] := by
  have hT := hT hI
  refine g_aload_n C 1 dL_law_516 rfl ?_
  refine g_aload_n C 0 dL_law_517 rfl ?_
  refine g_iload_n C 3 dL_law_518 rfl ?_
  refine g_iconst C (1 : Int32) dL_law_519 ci_1 ?_
  refine g_iadd C dL_law_520 ?_
  refine g_sld C hX hbl hbA (6 * k + 1) (nI_add (6 * k) 1) (by omega) hL dL_law_521 ?_
  refine g_aload_n C 0 dL_law_522 rfl ?_
  refine g_iload_n C 3 dL_law_523 rfl ?_
  refine g_iconst C (2 : Int32) dL_law_524 ci_2 ?_
  refine g_iadd C dL_law_525 ?_
  refine g_sld C hX hbl hbA (6 * k + 2) (nI_add (6 * k) 2) (by omega) hL dL_law_526 ?_
  refine g_callL C (mc := 0) (ms := 0) (kW_oddsAt (xL X) (xD X) ka adc _ _ _ _ _ _ _ _ hT) miX9_oddsAt (gw_of tw3_156 rfl) (by decide) wC_o0 rfl rfl rfl (Nat.le_of_ble_eq_true rfl) (by rw [hroom.1, hroom.2]; omega) dL_law_527 (fun z w hw => ?_)
  obtain ⟨F, R, J, P, B, rfl, hT⟩ := hw
  refine g_aload_n C 2 dL_law_530 rfl ?_
  refine g_aload_n C 0 dL_law_531 rfl ?_
  refine g_iload_n C 3 dL_law_532 rfl ?_
  refine g_iconst C (1 : Int32) dL_law_533 ci_1 ?_
  refine g_iadd C dL_law_534 ?_
  refine g_sld C hX hbl hbA (6 * k + 1) (nI_add (6 * k) 1) (by omega) hL dL_law_535 ?_
  refine g_aload_n C 0 dL_law_536 rfl ?_
  refine g_iload_n C 3 dL_law_537 rfl ?_
  refine g_iconst C (2 : Int32) dL_law_538 ci_2 ?_
  refine g_iadd C dL_law_539 ?_
  refine g_sld C hX hbl hbA (6 * k + 2) (nI_add (6 * k) 2) (by omega) hL dL_law_540 ?_
  refine g_callR C (mc := 0) (ms := 0) (kM_oddsAt (xL X) (xD X) ka adm _ _ _ _ _ _ hT) miX10_oddsAt (gw_of tw5_61 rfl) (by decide) wM_at rfl rfl rfl (Nat.le_of_ble_eq_true rfl) (by rw [hroom.1, hroom.2]; omega) dL_law_541 (fun z0 w hw => ?_)
  obtain ⟨F0, R0, J0, rfl, hz, hI⟩ := hw
  refine g_icmp_eq C 1091 dL_law_544 (by decide) (fun _ => ?_) (fun c => absurd hz c)
  exact g_widen (by omega) (by omega) (kk _ _ _ _ _ _ _ _ hI)
set_option maxHeartbeats 4000000 in
set_option maxRecDepth 100000 in
theorem lL_15 {X : XT} {ka : Nat → ClassId} {adc adm : Nat → Nat} {sb L : Nat} {xs : Nat → Int32} (C : Cx X cL_law 4 RL (some .boolean) ka 10) (hroom : (xR X).cells = 600000 ∧ (xR X).slots = 7302250) (hX : va_X sb L xs (xS X) (xS X).heap) (hbl : sb < (xS X).heap.size) (hbA : ¬ xF X sb) (hL : L ≤ 384) {INV : INVT} (k : Nat) (hk : 6 * k + 6 ≤ L) {cells slots : Nat} (hc : cells ≤ 48 + 4 * k) (hs : slots ≤ 11900 + 8 * k) (F : FT) (R : RT) (J : JT) (P : PT) (B : BT) (F0 : FT) (R0 : RT) (J0 : JT) (hT : INV F R J P B F0 R0 J0 → qW_sure F R J P B (xs (6 * k + 1)) (fun r F R J P B => qM_sure F0 R0 J0 (xs (6 * k + 1)) (fun r0 F0 R0 J0 => r = r0 ∧ INV F R J P B F0 R0 J0))) (hI : INV F R J P B F0 R0 J0) (kk : ∀ (F : FT) (R : RT) (J : JT) (P : PT) (B : BT) (F0 : FT) (R0 : RT) (J0 : JT), INV F R J P B F0 R0 J0 → G X (52 + 4 * k) (11908 + 8 * k) (wC adc ka F R J P B ++ wM adm ka F0 R0 J0) 1091 [(0, .ref sb), (1, .ref (adc 99)), (2, .ref (adm 20)), (3, .int (nI (6 * k)))] []) : G X cells slots (wC adc ka F R J P B ++ wM adm ka F0 R0 J0) 549 [(0, .ref sb), (1, .ref (adc 99)), (2, .ref (adm 20)), (3, .int (nI (6 * k)))] [] := by
  have hT := hT hI
  refine g_aload_n C 1 dL_law_549 rfl ?_
  refine g_aload_n C 0 dL_law_550 rfl ?_
  refine g_iload_n C 3 dL_law_551 rfl ?_
  refine g_iconst C (1 : Int32) dL_law_552 ci_1 ?_
  refine g_iadd C dL_law_553 ?_
  refine g_sld C hX hbl hbA (6 * k + 1) (nI_add (6 * k) 1) (by omega) hL dL_law_554 ?_
  refine g_callL C (mc := 0) (ms := 0) (kW_sure (xL X) (xD X) ka adc _ _ _ _ _ _ _ hT) miX9_sure (gw_of tw3_164 rfl) (by decide) wC_o0 rfl rfl rfl (Nat.le_of_ble_eq_true rfl) (by rw [hroom.1, hroom.2]; omega) dL_law_555 (fun z w hw => ?_)
  obtain ⟨F, R, J, P, B, rfl, hT⟩ := hw
  refine g_aload_n C 2 dL_law_558 rfl ?_
  refine g_aload_n C 0 dL_law_559 rfl ?_
  refine g_iload_n C 3 dL_law_560 rfl ?_
  refine g_iconst C (1 : Int32) dL_law_561 ci_1 ?_
  refine g_iadd C dL_law_562 ?_
  refine g_sld C hX hbl hbA (6 * k + 1) (nI_add (6 * k) 1) (by omega) hL dL_law_563 ?_
  refine g_callR C (mc := 0) (ms := 0) (kM_sure (xL X) (xD X) ka adm _ _ _ _ _ hT) miX10_sure (gw_of tw5_65 rfl) (by decide) wM_at rfl rfl rfl (Nat.le_of_ble_eq_true rfl) (by rw [hroom.1, hroom.2]; omega) dL_law_564 (fun z0 w hw => ?_)
  obtain ⟨F0, R0, J0, rfl, hz, hI⟩ := hw
  refine g_icmp_eq C 1091 dL_law_567 (by decide) (fun _ => ?_) (fun c => absurd hz c)
  exact g_widen (by omega) (by omega) (kk _ _ _ _ _ _ _ _ hI)
set_option maxHeartbeats 4000000 in
set_option maxRecDepth 100000 in
theorem lL_16 {X : XT} {ka : Nat → ClassId} {adc adm : Nat → Nat} {sb L : Nat} {xs : Nat → Int32} (C : Cx X cL_law 4 RL (some .boolean) ka 10) (hroom : (xR X).cells = 600000 ∧ (xR X).slots = 7302250) (hX : va_X sb L xs (xS X) (xS X).heap) (hbl : sb < (xS X).heap.size) (hbA : ¬ xF X sb) (hL : L ≤ 384) {INV : INVT} (k : Nat) (hk : 6 * k + 6 ≤ L) {cells slots : Nat} (hc : cells ≤ 48 + 4 * k) (hs : slots ≤ 11900 + 8 * k) (F : FT) (R : RT) (J : JT) (P : PT) (B : BT) (F0 : FT) (R0 : RT) (J0 : JT) (hT : INV F R J P B F0 R0 J0 → qW_pace F R J P B (xs (6 * k + 1)) (xs (6 * k + 2)) (fun r F R J P B => qM_pace F0 R0 J0 (xs (6 * k + 1)) (xs (6 * k + 2)) (fun r0 F0 R0 J0 => r = r0 ∧ INV F R J P B F0 R0 J0))) (hI : INV F R J P B F0 R0 J0) (kk : ∀ (F : FT) (R : RT) (J : JT) (P : PT) (B : BT) (F0 : FT) (R0 : RT) (J0 : JT), INV F R J P B F0 R0 J0 → G X (52 + 4 * k) (11908 + 8 * k) (wC adc ka F R J P B ++ wM adm ka F0 R0 J0) 1091 [(0, .ref sb), (1, .ref (adc 99)), (2, .ref (adm 20)), (3, .int (nI (6 * k)))] []) : G X cells slots (wC adc ka F R J P B ++ wM adm ka F0 R0 J0) 572 [(0, .ref sb), (1, .ref (adc 99)), (2, .ref (adm 20)), (3, .int (nI (6 * k)))] [] := by
  have hT := hT hI
  refine g_aload_n C 1 dL_law_572 rfl ?_
  refine g_aload_n C 0 dL_law_573 rfl ?_
  refine g_iload_n C 3 dL_law_574 rfl ?_
  refine g_iconst C (1 : Int32) dL_law_575 ci_1 ?_
  refine g_iadd C dL_law_576 ?_
  refine g_sld C hX hbl hbA (6 * k + 1) (nI_add (6 * k) 1) (by omega) hL dL_law_577 ?_
  refine g_aload_n C 0 dL_law_578 rfl ?_
  refine g_iload_n C 3 dL_law_579 rfl ?_
  refine g_iconst C (2 : Int32) dL_law_580 ci_2 ?_
  refine g_iadd C dL_law_581 ?_
  refine g_sld C hX hbl hbA (6 * k + 2) (nI_add (6 * k) 2) (by omega) hL dL_law_582 ?_
  refine g_callL C (mc := 0) (ms := 0) (kW_pace (xL X) (xD X) ka adc _ _ _ _ _ _ _ _ hT) miX9_pace (gw_of tw3_173 rfl) (by decide) wC_o0 rfl rfl rfl (Nat.le_of_ble_eq_true rfl) (by rw [hroom.1, hroom.2]; omega) dL_law_583 (fun z w hw => ?_)
  obtain ⟨F, R, J, P, B, rfl, hT⟩ := hw
  refine g_aload_n C 2 dL_law_586 rfl ?_
  refine g_aload_n C 0 dL_law_587 rfl ?_
  refine g_iload_n C 3 dL_law_588 rfl ?_
  refine g_iconst C (1 : Int32) dL_law_589 ci_1 ?_
  refine g_iadd C dL_law_590 ?_
  refine g_sld C hX hbl hbA (6 * k + 1) (nI_add (6 * k) 1) (by omega) hL dL_law_591 ?_
  refine g_aload_n C 0 dL_law_592 rfl ?_
  refine g_iload_n C 3 dL_law_593 rfl ?_
  refine g_iconst C (2 : Int32) dL_law_594 ci_2 ?_
  refine g_iadd C dL_law_595 ?_
  refine g_sld C hX hbl hbA (6 * k + 2) (nI_add (6 * k) 2) (by omega) hL dL_law_596 ?_
  refine g_callR C (mc := 0) (ms := 0) (kM_pace (xL X) (xD X) ka adm _ _ _ _ _ _ hT) miX10_pace (gw_of tw5_73 rfl) (by decide) wM_at rfl rfl rfl (Nat.le_of_ble_eq_true rfl) (by rw [hroom.1, hroom.2]; omega) dL_law_597 (fun z0 w hw => ?_)
  obtain ⟨F0, R0, J0, rfl, hz, hI⟩ := hw
  refine g_icmp_eq C 1091 dL_law_600 (by decide) (fun _ => ?_) (fun c => absurd hz c)
  exact g_widen (by omega) (by omega) (kk _ _ _ _ _ _ _ _ hI)
set_option maxHeartbeats 4000000 in
set_option maxRecDepth 100000 in
theorem lL_17 {X : XT} {ka : Nat → ClassId} {adc adm : Nat → Nat} {sb L : Nat} {xs : Nat → Int32} (C : Cx X cL_law 4 RL (some .boolean) ka 10) (hroom : (xR X).cells = 600000 ∧ (xR X).slots = 7302250) (hX : va_X sb L xs (xS X) (xS X).heap) (hbl : sb < (xS X).heap.size) (hbA : ¬ xF X sb) (hL : L ≤ 384) {INV : INVT} (k : Nat) (hk : 6 * k + 6 ≤ L) {cells slots : Nat} (hc : cells ≤ 48 + 4 * k) (hs : slots ≤ 11900 + 8 * k) (F : FT) (R : RT) (J : JT) (P : PT) (B : BT) (F0 : FT) (R0 : RT) (J0 : JT) (hT : INV F R J P B F0 R0 J0 → qW_plan F R J P B (xs (6 * k + 1)) (xs (6 * k + 2)) (fun r F R J P B => qM_plan F0 R0 J0 (xs (6 * k + 1)) (xs (6 * k + 2)) (fun r0 F0 R0 J0 => r = r0 ∧ INV F R J P B F0 R0 J0))) (hI : INV F R J P B F0 R0 J0) (kk : ∀ (F : FT) (R : RT) (J : JT) (P : PT) (B : BT) (F0 : FT) (R0 : RT) (J0 : JT), INV F R J P B F0 R0 J0 → G X (52 + 4 * k) (11908 + 8 * k) (wC adc ka F R J P B ++ wM adm ka F0 R0 J0) 1091 [(0, .ref sb), (1, .ref (adc 99)), (2, .ref (adm 20)), (3, .int (nI (6 * k)))] []) : G X cells slots (wC adc ka F R J P B ++ wM adm ka F0 R0 J0) 605 [(0, .ref sb), (1, .ref (adc 99)), (2, .ref (adm 20)), (3, .int (nI (6 * k)))] [] := by
  have hT := hT hI
  refine g_aload_n C 1 dL_law_605 rfl ?_
  refine g_aload_n C 0 dL_law_606 rfl ?_
  refine g_iload_n C 3 dL_law_607 rfl ?_
  refine g_iconst C (1 : Int32) dL_law_608 ci_1 ?_
  refine g_iadd C dL_law_609 ?_
  refine g_sld C hX hbl hbA (6 * k + 1) (nI_add (6 * k) 1) (by omega) hL dL_law_610 ?_
  refine g_aload_n C 0 dL_law_611 rfl ?_
  refine g_iload_n C 3 dL_law_612 rfl ?_
  refine g_iconst C (2 : Int32) dL_law_613 ci_2 ?_
  refine g_iadd C dL_law_614 ?_
  refine g_sld C hX hbl hbA (6 * k + 2) (nI_add (6 * k) 2) (by omega) hL dL_law_615 ?_
  refine g_callL C (mc := 0) (ms := 0) (kW_plan (xL X) (xD X) ka adc _ _ _ _ _ _ _ _ hT) miX9_plan (gw_of tw3_177 rfl) (by decide) wC_o0 rfl rfl rfl (Nat.le_of_ble_eq_true rfl) (by rw [hroom.1, hroom.2]; omega) dL_law_616 (fun z w hw => ?_)
  obtain ⟨F, R, J, P, B, rfl, hT⟩ := hw
  refine g_aload_n C 2 dL_law_619 rfl ?_
  refine g_aload_n C 0 dL_law_620 rfl ?_
  refine g_iload_n C 3 dL_law_621 rfl ?_
  refine g_iconst C (1 : Int32) dL_law_622 ci_1 ?_
  refine g_iadd C dL_law_623 ?_
  refine g_sld C hX hbl hbA (6 * k + 1) (nI_add (6 * k) 1) (by omega) hL dL_law_624 ?_
  refine g_aload_n C 0 dL_law_625 rfl ?_
  refine g_iload_n C 3 dL_law_626 rfl ?_
  refine g_iconst C (2 : Int32) dL_law_627 ci_2 ?_
  refine g_iadd C dL_law_628 ?_
  refine g_sld C hX hbl hbA (6 * k + 2) (nI_add (6 * k) 2) (by omega) hL dL_law_629 ?_
  refine g_callR C (mc := 0) (ms := 0) (kM_plan (xL X) (xD X) ka adm _ _ _ _ _ _ hT) miX10_plan (gw_of tw5_78 rfl) (by decide) wM_at rfl rfl rfl (Nat.le_of_ble_eq_true rfl) (by rw [hroom.1, hroom.2]; omega) dL_law_630 (fun z0 w hw => ?_)
  obtain ⟨F0, R0, J0, rfl, hz, hI⟩ := hw
  refine g_icmp_eq C 1091 dL_law_633 (by decide) (fun _ => ?_) (fun c => absurd hz c)
  exact g_widen (by omega) (by omega) (kk _ _ _ _ _ _ _ _ hI)
set_option maxHeartbeats 4000000 in
set_option maxRecDepth 100000 in
theorem lL_18 {X : XT} {ka : Nat → ClassId} {adc adm : Nat → Nat} {sb L : Nat} {xs : Nat → Int32} (C : Cx X cL_law 4 RL (some .boolean) ka 10) (hroom : (xR X).cells = 600000 ∧ (xR X).slots = 7302250) (hX : va_X sb L xs (xS X) (xS X).heap) (hbl : sb < (xS X).heap.size) (hbA : ¬ xF X sb) (hL : L ≤ 384) {INV : INVT} (k : Nat) (hk : 6 * k + 6 ≤ L) {cells slots : Nat} (hc : cells ≤ 48 + 4 * k) (hs : slots ≤ 11900 + 8 * k) (F : FT) (R : RT) (J : JT) (P : PT) (B : BT) (F0 : FT) (R0 : RT) (J0 : JT) (hT : INV F R J P B F0 R0 J0 → qW_best F R J P B (xs (6 * k + 1)) (xs (6 * k + 2)) (fun r F R J P B => qM_best F0 R0 J0 (xs (6 * k + 1)) (xs (6 * k + 2)) (fun r0 F0 R0 J0 => r = r0 ∧ INV F R J P B F0 R0 J0))) (hI : INV F R J P B F0 R0 J0) (kk : ∀ (F : FT) (R : RT) (J : JT) (P : PT) (B : BT) (F0 : FT) (R0 : RT) (J0 : JT), INV F R J P B F0 R0 J0 → G X (52 + 4 * k) (11908 + 8 * k) (wC adc ka F R J P B ++ wM adm ka F0 R0 J0) 1091 [(0, .ref sb), (1, .ref (adc 99)), (2, .ref (adm 20)), (3, .int (nI (6 * k)))] []) : G X cells slots (wC adc ka F R J P B ++ wM adm ka F0 R0 J0) 638 [(0, .ref sb), (1, .ref (adc 99)), (2, .ref (adm 20)), (3, .int (nI (6 * k)))] [] := by
  have hT := hT hI
  refine g_aload_n C 1 dL_law_638 rfl ?_
  refine g_aload_n C 0 dL_law_639 rfl ?_
  refine g_iload_n C 3 dL_law_640 rfl ?_
  refine g_iconst C (1 : Int32) dL_law_641 ci_1 ?_
  refine g_iadd C dL_law_642 ?_
  refine g_sld C hX hbl hbA (6 * k + 1) (nI_add (6 * k) 1) (by omega) hL dL_law_643 ?_
  refine g_aload_n C 0 dL_law_644 rfl ?_
  refine g_iload_n C 3 dL_law_645 rfl ?_
  refine g_iconst C (2 : Int32) dL_law_646 ci_2 ?_
  refine g_iadd C dL_law_647 ?_
  refine g_sld C hX hbl hbA (6 * k + 2) (nI_add (6 * k) 2) (by omega) hL dL_law_648 ?_
  refine g_callL C (mc := 0) (ms := 0) (kW_best (xL X) (xD X) ka adc _ _ _ _ _ _ _ _ hT) miX9_best (gw_of tw3_197 rfl) (by decide) wC_o0 rfl rfl rfl (Nat.le_of_ble_eq_true rfl) (by rw [hroom.1, hroom.2]; omega) dL_law_649 (fun z w hw => ?_)
  obtain ⟨F, R, J, P, B, rfl, hT⟩ := hw
  refine g_aload_n C 2 dL_law_652 rfl ?_
  refine g_aload_n C 0 dL_law_653 rfl ?_
  refine g_iload_n C 3 dL_law_654 rfl ?_
  refine g_iconst C (1 : Int32) dL_law_655 ci_1 ?_
  refine g_iadd C dL_law_656 ?_
  refine g_sld C hX hbl hbA (6 * k + 1) (nI_add (6 * k) 1) (by omega) hL dL_law_657 ?_
  refine g_aload_n C 0 dL_law_658 rfl ?_
  refine g_iload_n C 3 dL_law_659 rfl ?_
  refine g_iconst C (2 : Int32) dL_law_660 ci_2 ?_
  refine g_iadd C dL_law_661 ?_
  refine g_sld C hX hbl hbA (6 * k + 2) (nI_add (6 * k) 2) (by omega) hL dL_law_662 ?_
  refine g_callR C (mc := 0) (ms := 0) (kM_best (xL X) (xD X) ka adm _ _ _ _ _ _ hT) miX10_best (gw_of tw5_85 rfl) (by decide) wM_at rfl rfl rfl (Nat.le_of_ble_eq_true rfl) (by rw [hroom.1, hroom.2]; omega) dL_law_663 (fun z0 w hw => ?_)
  obtain ⟨F0, R0, J0, rfl, hz, hI⟩ := hw
  refine g_icmp_eq C 1091 dL_law_666 (by decide) (fun _ => ?_) (fun c => absurd hz c)
  exact g_widen (by omega) (by omega) (kk _ _ _ _ _ _ _ _ hI)
set_option maxHeartbeats 4000000 in
set_option maxRecDepth 100000 in
theorem lL_19 {X : XT} {ka : Nat → ClassId} {adc adm : Nat → Nat} {sb L : Nat} {xs : Nat → Int32} (C : Cx X cL_law 4 RL (some .boolean) ka 10) (hroom : (xR X).cells = 600000 ∧ (xR X).slots = 7302250) (hX : va_X sb L xs (xS X) (xS X).heap) (hbl : sb < (xS X).heap.size) (hbA : ¬ xF X sb) (hL : L ≤ 384) {INV : INVT} (k : Nat) (hk : 6 * k + 6 ≤ L) {cells slots : Nat} (hc : cells ≤ 48 + 4 * k) (hs : slots ≤ 11900 + 8 * k) (F : FT) (R : RT) (J : JT) (P : PT) (B : BT) (F0 : FT) (R0 : RT) (J0 : JT) (hT : INV F R J P B F0 R0 J0 → qW_soonest F R J P B (xs (6 * k + 1)) (fun r F R J P B => qM_soonest F0 R0 J0 (xs (6 * k + 1)) (fun r0 F0 R0 J0 => r = r0 ∧ INV F R J P B F0 R0 J0))) (hI : INV F R J P B F0 R0 J0) (kk : ∀ (F : FT) (R : RT) (J : JT) (P : PT) (B : BT) (F0 : FT) (R0 : RT) (J0 : JT), INV F R J P B F0 R0 J0 → G X (52 + 4 * k) (11908 + 8 * k) (wC adc ka F R J P B ++ wM adm ka F0 R0 J0) 1091 [(0, .ref sb), (1, .ref (adc 99)), (2, .ref (adm 20)), (3, .int (nI (6 * k)))] []) : G X cells slots (wC adc ka F R J P B ++ wM adm ka F0 R0 J0) 671 [(0, .ref sb), (1, .ref (adc 99)), (2, .ref (adm 20)), (3, .int (nI (6 * k)))] [] := by
  have hT := hT hI
  refine g_aload_n C 1 dL_law_671 rfl ?_
  refine g_aload_n C 0 dL_law_672 rfl ?_
  refine g_iload_n C 3 dL_law_673 rfl ?_
  refine g_iconst C (1 : Int32) dL_law_674 ci_1 ?_
  refine g_iadd C dL_law_675 ?_
  refine g_sld C hX hbl hbA (6 * k + 1) (nI_add (6 * k) 1) (by omega) hL dL_law_676 ?_
  refine g_callL C (mc := 0) (ms := 0) (kW_soonest (xL X) (xD X) ka adc _ _ _ _ _ _ _ hT) miX9_soonest (gw_of tw3_211 rfl) (by decide) wC_o0 rfl rfl rfl (Nat.le_of_ble_eq_true rfl) (by rw [hroom.1, hroom.2]; omega) dL_law_677 (fun z w hw => ?_)
  obtain ⟨F, R, J, P, B, rfl, hT⟩ := hw
  refine g_aload_n C 2 dL_law_680 rfl ?_
  refine g_aload_n C 0 dL_law_681 rfl ?_
  refine g_iload_n C 3 dL_law_682 rfl ?_
  refine g_iconst C (1 : Int32) dL_law_683 ci_1 ?_
  refine g_iadd C dL_law_684 ?_
  refine g_sld C hX hbl hbA (6 * k + 1) (nI_add (6 * k) 1) (by omega) hL dL_law_685 ?_
  refine g_callR C (mc := 0) (ms := 0) (kM_soonest (xL X) (xD X) ka adm _ _ _ _ _ hT) miX10_soonest (gw_of tw5_89 rfl) (by decide) wM_at rfl rfl rfl (Nat.le_of_ble_eq_true rfl) (by rw [hroom.1, hroom.2]; omega) dL_law_686 (fun z0 w hw => ?_)
  obtain ⟨F0, R0, J0, rfl, hz, hI⟩ := hw
  refine g_icmp_eq C 1091 dL_law_689 (by decide) (fun _ => ?_) (fun c => absurd hz c)
  exact g_widen (by omega) (by omega) (kk _ _ _ _ _ _ _ _ hI)
set_option maxHeartbeats 4000000 in
set_option maxRecDepth 100000 in
theorem lL_20 {X : XT} {ka : Nat → ClassId} {adc adm : Nat → Nat} {sb L : Nat} {xs : Nat → Int32} (C : Cx X cL_law 4 RL (some .boolean) ka 10) (hroom : (xR X).cells = 600000 ∧ (xR X).slots = 7302250) (hX : va_X sb L xs (xS X) (xS X).heap) (hbl : sb < (xS X).heap.size) (hbA : ¬ xF X sb) (hL : L ≤ 384) {INV : INVT} (k : Nat) (hk : 6 * k + 6 ≤ L) {cells slots : Nat} (hc : cells ≤ 48 + 4 * k) (hs : slots ≤ 11900 + 8 * k) (F : FT) (R : RT) (J : JT) (P : PT) (B : BT) (F0 : FT) (R0 : RT) (J0 : JT) (hT : INV F R J P B F0 R0 J0 → qW_mean F R J P B (xs (6 * k + 1)) (xs (6 * k + 2)) (fun r F R J P B => qM_mean F0 R0 J0 (xs (6 * k + 1)) (xs (6 * k + 2)) (fun r0 F0 R0 J0 => r = r0 ∧ INV F R J P B F0 R0 J0))) (hI : INV F R J P B F0 R0 J0) (kk : ∀ (F : FT) (R : RT) (J : JT) (P : PT) (B : BT) (F0 : FT) (R0 : RT) (J0 : JT), INV F R J P B F0 R0 J0 → G X (52 + 4 * k) (11908 + 8 * k) (wC adc ka F R J P B ++ wM adm ka F0 R0 J0) 1091 [(0, .ref sb), (1, .ref (adc 99)), (2, .ref (adm 20)), (3, .int (nI (6 * k)))] []) : G X cells slots (wC adc ka F R J P B ++ wM adm ka F0 R0 J0) 694 [(0, .ref sb), (1, .ref (adc 99)), (2, .ref (adm 20)), (3, .int (nI (6 * k)))] [] := by
  have hT := hT hI
  refine g_aload_n C 1 dL_law_694 rfl ?_
  refine g_aload_n C 0 dL_law_695 rfl ?_
  refine g_iload_n C 3 dL_law_696 rfl ?_
  refine g_iconst C (1 : Int32) dL_law_697 ci_1 ?_
  refine g_iadd C dL_law_698 ?_
  refine g_sld C hX hbl hbA (6 * k + 1) (nI_add (6 * k) 1) (by omega) hL dL_law_699 ?_
  refine g_aload_n C 0 dL_law_700 rfl ?_
  refine g_iload_n C 3 dL_law_701 rfl ?_
  refine g_iconst C (2 : Int32) dL_law_702 ci_2 ?_
  refine g_iadd C dL_law_703 ?_
  refine g_sld C hX hbl hbA (6 * k + 2) (nI_add (6 * k) 2) (by omega) hL dL_law_704 ?_
  refine g_callL C (mc := 0) (ms := 0) (kW_mean (xL X) (xD X) ka adc _ _ _ _ _ _ _ _ hT) miX9_mean (gw_of tw3_216 rfl) (by decide) wC_o0 rfl rfl rfl (Nat.le_of_ble_eq_true rfl) (by rw [hroom.1, hroom.2]; omega) dL_law_705 (fun z w hw => ?_)
  obtain ⟨F, R, J, P, B, rfl, hT⟩ := hw
  refine g_aload_n C 2 dL_law_708 rfl ?_
  refine g_aload_n C 0 dL_law_709 rfl ?_
  refine g_iload_n C 3 dL_law_710 rfl ?_
  refine g_iconst C (1 : Int32) dL_law_711 ci_1 ?_
  refine g_iadd C dL_law_712 ?_
  refine g_sld C hX hbl hbA (6 * k + 1) (nI_add (6 * k) 1) (by omega) hL dL_law_713 ?_
  refine g_aload_n C 0 dL_law_714 rfl ?_
  refine g_iload_n C 3 dL_law_715 rfl ?_
  refine g_iconst C (2 : Int32) dL_law_716 ci_2 ?_
  refine g_iadd C dL_law_717 ?_
  refine g_sld C hX hbl hbA (6 * k + 2) (nI_add (6 * k) 2) (by omega) hL dL_law_718 ?_
  refine g_callR C (mc := 0) (ms := 0) (kM_mean (xL X) (xD X) ka adm _ _ _ _ _ _ hT) miX10_mean (gw_of tw5_93 rfl) (by decide) wM_at rfl rfl rfl (Nat.le_of_ble_eq_true rfl) (by rw [hroom.1, hroom.2]; omega) dL_law_719 (fun z0 w hw => ?_)
  obtain ⟨F0, R0, J0, rfl, hz, hI⟩ := hw
  refine g_icmp_eq C 1091 dL_law_722 (by decide) (fun _ => ?_) (fun c => absurd hz c)
  exact g_widen (by omega) (by omega) (kk _ _ _ _ _ _ _ _ hI)
set_option maxHeartbeats 4000000 in
set_option maxRecDepth 100000 in
theorem lL_21 {X : XT} {ka : Nat → ClassId} {adc adm : Nat → Nat} {sb L : Nat} {xs : Nat → Int32} (C : Cx X cL_law 4 RL (some .boolean) ka 10) (hroom : (xR X).cells = 600000 ∧ (xR X).slots = 7302250) (hX : va_X sb L xs (xS X) (xS X).heap) (hbl : sb < (xS X).heap.size) (hbA : ¬ xF X sb) (hL : L ≤ 384) {INV : INVT} (k : Nat) (hk : 6 * k + 6 ≤ L) {cells slots : Nat} (hc : cells ≤ 48 + 4 * k) (hs : slots ≤ 11900 + 8 * k) (F : FT) (R : RT) (J : JT) (P : PT) (B : BT) (F0 : FT) (R0 : RT) (J0 : JT) (hT : INV F R J P B F0 R0 J0 → qW_image F R J P B  (fun r F R J P B => qM_image F0 R0 J0  (fun r0 F0 R0 J0 => r = r0 ∧ INV F R J P B F0 R0 J0))) (hI : INV F R J P B F0 R0 J0) (kk : ∀ (F : FT) (R : RT) (J : JT) (P : PT) (B : BT) (F0 : FT) (R0 : RT) (J0 : JT), INV F R J P B F0 R0 J0 → G X (52 + 4 * k) (11908 + 8 * k) (wC adc ka F R J P B ++ wM adm ka F0 R0 J0) 1091 [(0, .ref sb), (1, .ref (adc 99)), (2, .ref (adm 20)), (3, .int (nI (6 * k)))] []) : G X cells slots (wC adc ka F R J P B ++ wM adm ka F0 R0 J0) 727 [(0, .ref sb), (1, .ref (adc 99)), (2, .ref (adm 20)), (3, .int (nI (6 * k)))] [] := by
  have hT := hT hI
  refine g_aload_n C 1 dL_law_727 rfl ?_
  refine g_callL C (mc := 0) (ms := 0) (kW_image (xL X) (xD X) ka adc _ _ _ _ _  _ hT) miX9_image (gw_of tw3_231 rfl) (by decide) wC_o0 rfl rfl rfl (Nat.le_of_ble_eq_true rfl) (by rw [hroom.1, hroom.2]; omega) dL_law_728 (fun z w hw => ?_)
  obtain ⟨F, R, J, P, B, rfl, hT⟩ := hw
  refine g_aload_n C 2 dL_law_731 rfl ?_
  refine g_callR C (mc := 0) (ms := 0) (kM_image (xL X) (xD X) ka adm _ _ _  _ hT) miX10_image (gw_of tw5_101 rfl) (by decide) wM_at rfl rfl rfl (Nat.le_of_ble_eq_true rfl) (by rw [hroom.1, hroom.2]; omega) dL_law_732 (fun z0 w hw => ?_)
  obtain ⟨F0, R0, J0, rfl, hz, hI⟩ := hw
  refine g_icmp_eq C 1091 dL_law_735 (by decide) (fun _ => ?_) (fun c => absurd hz c)
  exact g_widen (by omega) (by omega) (kk _ _ _ _ _ _ _ _ hI)
set_option maxHeartbeats 4000000 in
set_option maxRecDepth 100000 in
theorem lL_22 {X : XT} {ka : Nat → ClassId} {adc adm : Nat → Nat} {sb L : Nat} {xs : Nat → Int32} (C : Cx X cL_law 4 RL (some .boolean) ka 10) (hroom : (xR X).cells = 600000 ∧ (xR X).slots = 7302250) (hX : va_X sb L xs (xS X) (xS X).heap) (hbl : sb < (xS X).heap.size) (hbA : ¬ xF X sb) (hL : L ≤ 384) {INV : INVT} (k : Nat) (hk : 6 * k + 6 ≤ L) {cells slots : Nat} (hc : cells ≤ 48 + 4 * k) (hs : slots ≤ 11900 + 8 * k) (F : FT) (R : RT) (J : JT) (P : PT) (B : BT) (F0 : FT) (R0 : RT) (J0 : JT) (hT : INV F R J P B F0 R0 J0 → qW_restore F R J P B  (fun r F R J P B => qM_restore F0 R0 J0  (fun r0 F0 R0 J0 => r = r0 ∧ INV F R J P B F0 R0 J0))) (hI : INV F R J P B F0 R0 J0) (kk : ∀ (F : FT) (R : RT) (J : JT) (P : PT) (B : BT) (F0 : FT) (R0 : RT) (J0 : JT), INV F R J P B F0 R0 J0 → G X (52 + 4 * k) (11908 + 8 * k) (wC adc ka F R J P B ++ wM adm ka F0 R0 J0) 1091 [(0, .ref sb), (1, .ref (adc 99)), (2, .ref (adm 20)), (3, .int (nI (6 * k)))] []) : G X cells slots (wC adc ka F R J P B ++ wM adm ka F0 R0 J0) 740 [(0, .ref sb), (1, .ref (adc 99)), (2, .ref (adm 20)), (3, .int (nI (6 * k)))] [] := by
  have hT := hT hI
  refine g_aload_n C 1 dL_law_740 rfl ?_
  refine g_callL C (mc := 0) (ms := 0) (kW_restore (xL X) (xD X) ka adc _ _ _ _ _  _ hT) miX9_restore (gw_of tw3_239 rfl) (by decide) wC_o0 rfl rfl rfl (Nat.le_of_ble_eq_true rfl) (by rw [hroom.1, hroom.2]; omega) dL_law_741 (fun z w hw => ?_)
  obtain ⟨F, R, J, P, B, rfl, hT⟩ := hw
  refine g_aload_n C 2 dL_law_744 rfl ?_
  refine g_callR C (mc := 0) (ms := 0) (kM_restore (xL X) (xD X) ka adm _ _ _  _ hT) miX10_restore (gw_of tw5_105 rfl) (by decide) wM_at rfl rfl rfl (Nat.le_of_ble_eq_true rfl) (by rw [hroom.1, hroom.2]; omega) dL_law_745 (fun z0 w hw => ?_)
  obtain ⟨F0, R0, J0, rfl, hz, hI⟩ := hw
  refine g_icmp_eq C 1091 dL_law_748 (by decide) (fun _ => ?_) (fun c => absurd hz c)
  exact g_widen (by omega) (by omega) (kk _ _ _ _ _ _ _ _ hI)
set_option maxHeartbeats 4000000 in
set_option maxRecDepth 100000 in
theorem lL_23 {X : XT} {ka : Nat → ClassId} {adc adm : Nat → Nat} {sb L : Nat} {xs : Nat → Int32} (C : Cx X cL_law 4 RL (some .boolean) ka 10) (hroom : (xR X).cells = 600000 ∧ (xR X).slots = 7302250) (hX : va_X sb L xs (xS X) (xS X).heap) (hbl : sb < (xS X).heap.size) (hbA : ¬ xF X sb) (hL : L ≤ 384) {INV : INVT} (k : Nat) (hk : 6 * k + 6 ≤ L) {cells slots : Nat} (hc : cells ≤ 48 + 4 * k) (hs : slots ≤ 11900 + 8 * k) (F : FT) (R : RT) (J : JT) (P : PT) (B : BT) (F0 : FT) (R0 : RT) (J0 : JT) (hT : INV F R J P B F0 R0 J0 → qW_weather F R J P B (xs (6 * k + 1)) (xs (6 * k + 2)) (xs (6 * k + 3)) (xs (6 * k + 4)) (xs (6 * k + 5)) (fun r F R J P B => qM_weather F0 R0 J0 (xs (6 * k + 1)) (xs (6 * k + 2)) (xs (6 * k + 3)) (xs (6 * k + 4)) (xs (6 * k + 5)) (fun r0 F0 R0 J0 => r = r0 ∧ INV F R J P B F0 R0 J0))) (hI : INV F R J P B F0 R0 J0) (kk : ∀ (F : FT) (R : RT) (J : JT) (P : PT) (B : BT) (F0 : FT) (R0 : RT) (J0 : JT), INV F R J P B F0 R0 J0 → G X (52 + 4 * k) (11908 + 8 * k) (wC adc ka F R J P B ++ wM adm ka F0 R0 J0) 1091 [(0, .ref sb), (1, .ref (adc 99)), (2, .ref (adm 20)), (3, .int (nI (6 * k)))] []) : G X cells slots (wC adc ka F R J P B ++ wM adm ka F0 R0 J0) 753 [(0, .ref sb), (1, .ref (adc 99)), (2, .ref (adm 20)), (3, .int (nI (6 * k)))] [] := by
  have hT := hT hI
  refine g_aload_n C 1 dL_law_753 rfl ?_
  refine g_aload_n C 0 dL_law_754 rfl ?_
  refine g_iload_n C 3 dL_law_755 rfl ?_
  refine g_iconst C (1 : Int32) dL_law_756 ci_1 ?_
  refine g_iadd C dL_law_757 ?_
  refine g_sld C hX hbl hbA (6 * k + 1) (nI_add (6 * k) 1) (by omega) hL dL_law_758 ?_
  refine g_aload_n C 0 dL_law_759 rfl ?_
  refine g_iload_n C 3 dL_law_760 rfl ?_
  refine g_iconst C (2 : Int32) dL_law_761 ci_2 ?_
  refine g_iadd C dL_law_762 ?_
  refine g_sld C hX hbl hbA (6 * k + 2) (nI_add (6 * k) 2) (by omega) hL dL_law_763 ?_
  refine g_aload_n C 0 dL_law_764 rfl ?_
  refine g_iload_n C 3 dL_law_765 rfl ?_
  refine g_iconst C (3 : Int32) dL_law_766 ci_3 ?_
  refine g_iadd C dL_law_767 ?_
  refine g_sld C hX hbl hbA (6 * k + 3) (nI_add (6 * k) 3) (by omega) hL dL_law_768 ?_
  refine g_aload_n C 0 dL_law_769 rfl ?_
  refine g_iload_n C 3 dL_law_770 rfl ?_
  refine g_iconst C (4 : Int32) dL_law_771 ci_4 ?_
  refine g_iadd C dL_law_772 ?_
  refine g_sld C hX hbl hbA (6 * k + 4) (nI_add (6 * k) 4) (by omega) hL dL_law_773 ?_
  refine g_aload_n C 0 dL_law_774 rfl ?_
  refine g_iload_n C 3 dL_law_775 rfl ?_
  refine g_iconst C (5 : Int32) dL_law_776 ci_5 ?_
  refine g_iadd C dL_law_777 ?_
  refine g_sld C hX hbl hbA (6 * k + 5) (nI_add (6 * k) 5) (by omega) hL dL_law_778 ?_
  refine g_callL C (mc := 0) (ms := 0) (kW_weather (xL X) (xD X) ka adc _ _ _ _ _ _ _ _ _ _ _ hT) miX9_weather (gw_of tw4_3 rfl) (by decide) wC_o0 rfl rfl rfl (Nat.le_of_ble_eq_true rfl) (by rw [hroom.1, hroom.2]; omega) dL_law_779 (fun z w hw => ?_)
  obtain ⟨F, R, J, P, B, rfl, hT⟩ := hw
  refine g_aload_n C 2 dL_law_782 rfl ?_
  refine g_aload_n C 0 dL_law_783 rfl ?_
  refine g_iload_n C 3 dL_law_784 rfl ?_
  refine g_iconst C (1 : Int32) dL_law_785 ci_1 ?_
  refine g_iadd C dL_law_786 ?_
  refine g_sld C hX hbl hbA (6 * k + 1) (nI_add (6 * k) 1) (by omega) hL dL_law_787 ?_
  refine g_aload_n C 0 dL_law_788 rfl ?_
  refine g_iload_n C 3 dL_law_789 rfl ?_
  refine g_iconst C (2 : Int32) dL_law_790 ci_2 ?_
  refine g_iadd C dL_law_791 ?_
  refine g_sld C hX hbl hbA (6 * k + 2) (nI_add (6 * k) 2) (by omega) hL dL_law_792 ?_
  refine g_aload_n C 0 dL_law_793 rfl ?_
  refine g_iload_n C 3 dL_law_794 rfl ?_
  refine g_iconst C (3 : Int32) dL_law_795 ci_3 ?_
  refine g_iadd C dL_law_796 ?_
  refine g_sld C hX hbl hbA (6 * k + 3) (nI_add (6 * k) 3) (by omega) hL dL_law_797 ?_
  refine g_aload_n C 0 dL_law_798 rfl ?_
  refine g_iload_n C 3 dL_law_799 rfl ?_
  refine g_iconst C (4 : Int32) dL_law_800 ci_4 ?_
  refine g_iadd C dL_law_801 ?_
  refine g_sld C hX hbl hbA (6 * k + 4) (nI_add (6 * k) 4) (by omega) hL dL_law_802 ?_
  refine g_aload_n C 0 dL_law_803 rfl ?_
  refine g_iload_n C 3 dL_law_804 rfl ?_
  refine g_iconst C (5 : Int32) dL_law_805 ci_5 ?_
  refine g_iadd C dL_law_806 ?_
  refine g_sld C hX hbl hbA (6 * k + 5) (nI_add (6 * k) 5) (by omega) hL dL_law_807 ?_
  refine g_callR C (mc := 0) (ms := 0) (kM_weather (xL X) (xD X) ka adm _ _ _ _ _ _ _ _ _ hT) miX10_weather (gw_of tw5_109 rfl) (by decide) wM_at rfl rfl rfl (Nat.le_of_ble_eq_true rfl) (by rw [hroom.1, hroom.2]; omega) dL_law_808 (fun z0 w hw => ?_)
  obtain ⟨F0, R0, J0, rfl, hz, hI⟩ := hw
  refine g_icmp_eq C 1091 dL_law_811 (by decide) (fun _ => ?_) (fun c => absurd hz c)
  exact g_widen (by omega) (by omega) (kk _ _ _ _ _ _ _ _ hI)
set_option maxHeartbeats 4000000 in
set_option maxRecDepth 100000 in
theorem lL_24 {X : XT} {ka : Nat → ClassId} {adc adm : Nat → Nat} {sb L : Nat} {xs : Nat → Int32} (C : Cx X cL_law 4 RL (some .boolean) ka 10) (hroom : (xR X).cells = 600000 ∧ (xR X).slots = 7302250) (hX : va_X sb L xs (xS X) (xS X).heap) (hbl : sb < (xS X).heap.size) (hbA : ¬ xF X sb) (hL : L ≤ 384) {INV : INVT} (k : Nat) (hk : 6 * k + 6 ≤ L) {cells slots : Nat} (hc : cells ≤ 48 + 4 * k) (hs : slots ≤ 11900 + 8 * k) (F : FT) (R : RT) (J : JT) (P : PT) (B : BT) (F0 : FT) (R0 : RT) (J0 : JT) (hT : INV F R J P B F0 R0 J0 → qW_film F R J P B (xs (6 * k + 1)) (xs (6 * k + 2)) (xs (6 * k + 3)) (xs (6 * k + 4)) (xs (6 * k + 5)) (fun r F R J P B => qM_film F0 R0 J0 (xs (6 * k + 1)) (xs (6 * k + 2)) (xs (6 * k + 3)) (xs (6 * k + 4)) (xs (6 * k + 5)) (fun r0 F0 R0 J0 => r = r0 ∧ INV F R J P B F0 R0 J0))) (hI : INV F R J P B F0 R0 J0) (kk : ∀ (F : FT) (R : RT) (J : JT) (P : PT) (B : BT) (F0 : FT) (R0 : RT) (J0 : JT), INV F R J P B F0 R0 J0 → G X (52 + 4 * k) (11908 + 8 * k) (wC adc ka F R J P B ++ wM adm ka F0 R0 J0) 1091 [(0, .ref sb), (1, .ref (adc 99)), (2, .ref (adm 20)), (3, .int (nI (6 * k)))] []) : G X cells slots (wC adc ka F R J P B ++ wM adm ka F0 R0 J0) 816 [(0, .ref sb), (1, .ref (adc 99)), (2, .ref (adm 20)), (3, .int (nI (6 * k)))] [] := by
  have hT := hT hI
  refine g_aload_n C 1 dL_law_816 rfl ?_
  refine g_aload_n C 0 dL_law_817 rfl ?_
  refine g_iload_n C 3 dL_law_818 rfl ?_
  refine g_iconst C (1 : Int32) dL_law_819 ci_1 ?_
  refine g_iadd C dL_law_820 ?_
  refine g_sld C hX hbl hbA (6 * k + 1) (nI_add (6 * k) 1) (by omega) hL dL_law_821 ?_
  refine g_aload_n C 0 dL_law_822 rfl ?_
  refine g_iload_n C 3 dL_law_823 rfl ?_
  refine g_iconst C (2 : Int32) dL_law_824 ci_2 ?_
  refine g_iadd C dL_law_825 ?_
  refine g_sld C hX hbl hbA (6 * k + 2) (nI_add (6 * k) 2) (by omega) hL dL_law_826 ?_
  refine g_aload_n C 0 dL_law_827 rfl ?_
  refine g_iload_n C 3 dL_law_828 rfl ?_
  refine g_iconst C (3 : Int32) dL_law_829 ci_3 ?_
  refine g_iadd C dL_law_830 ?_
  refine g_sld C hX hbl hbA (6 * k + 3) (nI_add (6 * k) 3) (by omega) hL dL_law_831 ?_
  refine g_aload_n C 0 dL_law_832 rfl ?_
  refine g_iload_n C 3 dL_law_833 rfl ?_
  refine g_iconst C (4 : Int32) dL_law_834 ci_4 ?_
  refine g_iadd C dL_law_835 ?_
  refine g_sld C hX hbl hbA (6 * k + 4) (nI_add (6 * k) 4) (by omega) hL dL_law_836 ?_
  refine g_aload_n C 0 dL_law_837 rfl ?_
  refine g_iload_n C 3 dL_law_838 rfl ?_
  refine g_iconst C (5 : Int32) dL_law_839 ci_5 ?_
  refine g_iadd C dL_law_840 ?_
  refine g_sld C hX hbl hbA (6 * k + 5) (nI_add (6 * k) 5) (by omega) hL dL_law_841 ?_
  refine g_callL C (mc := 0) (ms := 0) (kW_film (xL X) (xD X) ka adc _ _ _ _ _ _ _ _ _ _ _ hT) miX9_film (gw_of tw4_29 rfl) (by decide) wC_o0 rfl rfl rfl (Nat.le_of_ble_eq_true rfl) (by rw [hroom.1, hroom.2]; omega) dL_law_842 (fun z w hw => ?_)
  obtain ⟨F, R, J, P, B, rfl, hT⟩ := hw
  refine g_aload_n C 2 dL_law_845 rfl ?_
  refine g_aload_n C 0 dL_law_846 rfl ?_
  refine g_iload_n C 3 dL_law_847 rfl ?_
  refine g_iconst C (1 : Int32) dL_law_848 ci_1 ?_
  refine g_iadd C dL_law_849 ?_
  refine g_sld C hX hbl hbA (6 * k + 1) (nI_add (6 * k) 1) (by omega) hL dL_law_850 ?_
  refine g_aload_n C 0 dL_law_851 rfl ?_
  refine g_iload_n C 3 dL_law_852 rfl ?_
  refine g_iconst C (2 : Int32) dL_law_853 ci_2 ?_
  refine g_iadd C dL_law_854 ?_
  refine g_sld C hX hbl hbA (6 * k + 2) (nI_add (6 * k) 2) (by omega) hL dL_law_855 ?_
  refine g_aload_n C 0 dL_law_856 rfl ?_
  refine g_iload_n C 3 dL_law_857 rfl ?_
  refine g_iconst C (3 : Int32) dL_law_858 ci_3 ?_
  refine g_iadd C dL_law_859 ?_
  refine g_sld C hX hbl hbA (6 * k + 3) (nI_add (6 * k) 3) (by omega) hL dL_law_860 ?_
  refine g_aload_n C 0 dL_law_861 rfl ?_
  refine g_iload_n C 3 dL_law_862 rfl ?_
  refine g_iconst C (4 : Int32) dL_law_863 ci_4 ?_
  refine g_iadd C dL_law_864 ?_
  refine g_sld C hX hbl hbA (6 * k + 4) (nI_add (6 * k) 4) (by omega) hL dL_law_865 ?_
  refine g_aload_n C 0 dL_law_866 rfl ?_
  refine g_iload_n C 3 dL_law_867 rfl ?_
  refine g_iconst C (5 : Int32) dL_law_868 ci_5 ?_
  refine g_iadd C dL_law_869 ?_
  refine g_sld C hX hbl hbA (6 * k + 5) (nI_add (6 * k) 5) (by omega) hL dL_law_870 ?_
  refine g_callR C (mc := 0) (ms := 0) (kM_film (xL X) (xD X) ka adm _ _ _ _ _ _ _ _ _ hT) miX10_film (gw_of tw5_125 rfl) (by decide) wM_at rfl rfl rfl (Nat.le_of_ble_eq_true rfl) (by rw [hroom.1, hroom.2]; omega) dL_law_871 (fun z0 w hw => ?_)
  obtain ⟨F0, R0, J0, rfl, hz, hI⟩ := hw
  refine g_icmp_eq C 1091 dL_law_874 (by decide) (fun _ => ?_) (fun c => absurd hz c)
  exact g_widen (by omega) (by omega) (kk _ _ _ _ _ _ _ _ hI)
set_option maxHeartbeats 4000000 in
set_option maxRecDepth 100000 in
theorem lL_25 {X : XT} {ka : Nat → ClassId} {adc adm : Nat → Nat} {sb L : Nat} {xs : Nat → Int32} (C : Cx X cL_law 4 RL (some .boolean) ka 10) (hroom : (xR X).cells = 600000 ∧ (xR X).slots = 7302250) (hX : va_X sb L xs (xS X) (xS X).heap) (hbl : sb < (xS X).heap.size) (hbA : ¬ xF X sb) (hL : L ≤ 384) {INV : INVT} (k : Nat) (hk : 6 * k + 6 ≤ L) {cells slots : Nat} (hc : cells ≤ 48 + 4 * k) (hs : slots ≤ 11900 + 8 * k) (F : FT) (R : RT) (J : JT) (P : PT) (B : BT) (F0 : FT) (R0 : RT) (J0 : JT) (hT : INV F R J P B F0 R0 J0 → qW_sheet F R J P B (xs (6 * k + 1)) (xs (6 * k + 2)) (xs (6 * k + 3)) (fun r F R J P B => qM_sheet F0 R0 J0 (xs (6 * k + 1)) (xs (6 * k + 2)) (xs (6 * k + 3)) (fun r0 F0 R0 J0 => r = r0 ∧ INV F R J P B F0 R0 J0))) (hI : INV F R J P B F0 R0 J0) (kk : ∀ (F : FT) (R : RT) (J : JT) (P : PT) (B : BT) (F0 : FT) (R0 : RT) (J0 : JT), INV F R J P B F0 R0 J0 → G X (52 + 4 * k) (11908 + 8 * k) (wC adc ka F R J P B ++ wM adm ka F0 R0 J0) 1091 [(0, .ref sb), (1, .ref (adc 99)), (2, .ref (adm 20)), (3, .int (nI (6 * k)))] []) : G X cells slots (wC adc ka F R J P B ++ wM adm ka F0 R0 J0) 879 [(0, .ref sb), (1, .ref (adc 99)), (2, .ref (adm 20)), (3, .int (nI (6 * k)))] [] := by
  have hT := hT hI
  refine g_aload_n C 1 dL_law_879 rfl ?_
  refine g_aload_n C 0 dL_law_880 rfl ?_
  refine g_iload_n C 3 dL_law_881 rfl ?_
  refine g_iconst C (1 : Int32) dL_law_882 ci_1 ?_
  refine g_iadd C dL_law_883 ?_
  refine g_sld C hX hbl hbA (6 * k + 1) (nI_add (6 * k) 1) (by omega) hL dL_law_884 ?_
  refine g_aload_n C 0 dL_law_885 rfl ?_
  refine g_iload_n C 3 dL_law_886 rfl ?_
  refine g_iconst C (2 : Int32) dL_law_887 ci_2 ?_
  refine g_iadd C dL_law_888 ?_
  refine g_sld C hX hbl hbA (6 * k + 2) (nI_add (6 * k) 2) (by omega) hL dL_law_889 ?_
  refine g_aload_n C 0 dL_law_890 rfl ?_
  refine g_iload_n C 3 dL_law_891 rfl ?_
  refine g_iconst C (3 : Int32) dL_law_892 ci_3 ?_
  refine g_iadd C dL_law_893 ?_
  refine g_sld C hX hbl hbA (6 * k + 3) (nI_add (6 * k) 3) (by omega) hL dL_law_894 ?_
  refine g_callL C (mc := 0) (ms := 0) (kW_sheet (xL X) (xD X) ka adc _ _ _ _ _ _ _ _ _ hT) miX9_sheet (gw_of tw4_42 rfl) (by decide) wC_o0 rfl rfl rfl (Nat.le_of_ble_eq_true rfl) (by rw [hroom.1, hroom.2]; omega) dL_law_895 (fun z w hw => ?_)
  obtain ⟨F, R, J, P, B, rfl, hT⟩ := hw
  refine g_aload_n C 2 dL_law_898 rfl ?_
  refine g_aload_n C 0 dL_law_899 rfl ?_
  refine g_iload_n C 3 dL_law_900 rfl ?_
  refine g_iconst C (1 : Int32) dL_law_901 ci_1 ?_
  refine g_iadd C dL_law_902 ?_
  refine g_sld C hX hbl hbA (6 * k + 1) (nI_add (6 * k) 1) (by omega) hL dL_law_903 ?_
  refine g_aload_n C 0 dL_law_904 rfl ?_
  refine g_iload_n C 3 dL_law_905 rfl ?_
  refine g_iconst C (2 : Int32) dL_law_906 ci_2 ?_
  refine g_iadd C dL_law_907 ?_
  refine g_sld C hX hbl hbA (6 * k + 2) (nI_add (6 * k) 2) (by omega) hL dL_law_908 ?_
  refine g_aload_n C 0 dL_law_909 rfl ?_
  refine g_iload_n C 3 dL_law_910 rfl ?_
  refine g_iconst C (3 : Int32) dL_law_911 ci_3 ?_
  refine g_iadd C dL_law_912 ?_
  refine g_sld C hX hbl hbA (6 * k + 3) (nI_add (6 * k) 3) (by omega) hL dL_law_913 ?_
  refine g_callR C (mc := 0) (ms := 0) (kM_sheet (xL X) (xD X) ka adm _ _ _ _ _ _ _ hT) miX10_sheet (gw_of tw5_130 rfl) (by decide) wM_at rfl rfl rfl (Nat.le_of_ble_eq_true rfl) (by rw [hroom.1, hroom.2]; omega) dL_law_914 (fun z0 w hw => ?_)
  obtain ⟨F0, R0, J0, rfl, hz, hI⟩ := hw
  refine g_icmp_eq C 1091 dL_law_917 (by decide) (fun _ => ?_) (fun c => absurd hz c)
  exact g_widen (by omega) (by omega) (kk _ _ _ _ _ _ _ _ hI)
set_option maxHeartbeats 4000000 in
set_option maxRecDepth 100000 in
theorem lL_26 {X : XT} {ka : Nat → ClassId} {adc adm : Nat → Nat} {sb L : Nat} {xs : Nat → Int32} (C : Cx X cL_law 4 RL (some .boolean) ka 10) (hroom : (xR X).cells = 600000 ∧ (xR X).slots = 7302250) (hX : va_X sb L xs (xS X) (xS X).heap) (hbl : sb < (xS X).heap.size) (hbA : ¬ xF X sb) (hL : L ≤ 384) {INV : INVT} (k : Nat) (hk : 6 * k + 6 ≤ L) {cells slots : Nat} (hc : cells ≤ 48 + 4 * k) (hs : slots ≤ 11900 + 8 * k) (F : FT) (R : RT) (J : JT) (P : PT) (B : BT) (F0 : FT) (R0 : RT) (J0 : JT) (hT : INV F R J P B F0 R0 J0 → qW_drop F R J P B (xs (6 * k + 1)) (fun r F R J P B => qM_drop F0 R0 J0 (xs (6 * k + 1)) (fun r0 F0 R0 J0 => r = r0 ∧ INV F R J P B F0 R0 J0))) (hI : INV F R J P B F0 R0 J0) (kk : ∀ (F : FT) (R : RT) (J : JT) (P : PT) (B : BT) (F0 : FT) (R0 : RT) (J0 : JT), INV F R J P B F0 R0 J0 → G X (52 + 4 * k) (11908 + 8 * k) (wC adc ka F R J P B ++ wM adm ka F0 R0 J0) 1091 [(0, .ref sb), (1, .ref (adc 99)), (2, .ref (adm 20)), (3, .int (nI (6 * k)))] []) : G X cells slots (wC adc ka F R J P B ++ wM adm ka F0 R0 J0) 922 [(0, .ref sb), (1, .ref (adc 99)), (2, .ref (adm 20)), (3, .int (nI (6 * k)))] [] := by
  have hT := hT hI
  refine g_aload_n C 1 dL_law_922 rfl ?_
  refine g_aload_n C 0 dL_law_923 rfl ?_
  refine g_iload_n C 3 dL_law_924 rfl ?_
  refine g_iconst C (1 : Int32) dL_law_925 ci_1 ?_
  refine g_iadd C dL_law_926 ?_
  refine g_sld C hX hbl hbA (6 * k + 1) (nI_add (6 * k) 1) (by omega) hL dL_law_927 ?_
  refine g_callL C (mc := 0) (ms := 0) (kW_drop (xL X) (xD X) ka adc _ _ _ _ _ _ _ hT) miX9_drop (gw_of tw4_50 rfl) (by decide) wC_o0 rfl rfl rfl (Nat.le_of_ble_eq_true rfl) (by rw [hroom.1, hroom.2]; omega) dL_law_928 (fun z w hw => ?_)
  obtain ⟨F, R, J, P, B, rfl, hT⟩ := hw
  refine g_aload_n C 2 dL_law_931 rfl ?_
  refine g_aload_n C 0 dL_law_932 rfl ?_
  refine g_iload_n C 3 dL_law_933 rfl ?_
  refine g_iconst C (1 : Int32) dL_law_934 ci_1 ?_
  refine g_iadd C dL_law_935 ?_
  refine g_sld C hX hbl hbA (6 * k + 1) (nI_add (6 * k) 1) (by omega) hL dL_law_936 ?_
  refine g_callR C (mc := 0) (ms := 0) (kM_drop (xL X) (xD X) ka adm _ _ _ _ _ hT) miX10_drop (gw_of tw5_134 rfl) (by decide) wM_at rfl rfl rfl (Nat.le_of_ble_eq_true rfl) (by rw [hroom.1, hroom.2]; omega) dL_law_937 (fun z0 w hw => ?_)
  obtain ⟨F0, R0, J0, rfl, hz, hI⟩ := hw
  refine g_icmp_eq C 1091 dL_law_940 (by decide) (fun _ => ?_) (fun c => absurd hz c)
  exact g_widen (by omega) (by omega) (kk _ _ _ _ _ _ _ _ hI)
set_option maxHeartbeats 4000000 in
set_option maxRecDepth 100000 in
theorem lL_27 {X : XT} {ka : Nat → ClassId} {adc adm : Nat → Nat} {sb L : Nat} {xs : Nat → Int32} (C : Cx X cL_law 4 RL (some .boolean) ka 10) (hroom : (xR X).cells = 600000 ∧ (xR X).slots = 7302250) (hX : va_X sb L xs (xS X) (xS X).heap) (hbl : sb < (xS X).heap.size) (hbA : ¬ xF X sb) (hL : L ≤ 384) {INV : INVT} (k : Nat) (hk : 6 * k + 6 ≤ L) {cells slots : Nat} (hc : cells ≤ 48 + 4 * k) (hs : slots ≤ 11900 + 8 * k) (F : FT) (R : RT) (J : JT) (P : PT) (B : BT) (F0 : FT) (R0 : RT) (J0 : JT) (hT : INV F R J P B F0 R0 J0 → qW_item F R J P B (xs (6 * k + 1)) (xs (6 * k + 2)) (xs (6 * k + 3)) (((xs (6 * k + 4)).toInt64 <<< ((32 : Int32).toInt64 &&& 63)) ||| ((xs (6 * k + 5)).toInt64 &&& (4294967295 : Int64))) (fun r F R J P B => qM_item F0 R0 J0 (xs (6 * k + 1)) (xs (6 * k + 2)) (xs (6 * k + 3)) (((xs (6 * k + 4)).toInt64 <<< ((32 : Int32).toInt64 &&& 63)) ||| ((xs (6 * k + 5)).toInt64 &&& (4294967295 : Int64))) (fun r0 F0 R0 J0 => r = r0 ∧ INV F R J P B F0 R0 J0))) (hI : INV F R J P B F0 R0 J0) (kk : ∀ (F : FT) (R : RT) (J : JT) (P : PT) (B : BT) (F0 : FT) (R0 : RT) (J0 : JT), INV F R J P B F0 R0 J0 → G X (52 + 4 * k) (11908 + 8 * k) (wC adc ka F R J P B ++ wM adm ka F0 R0 J0) 1091 [(0, .ref sb), (1, .ref (adc 99)), (2, .ref (adm 20)), (3, .int (nI (6 * k)))] []) : G X cells slots (wC adc ka F R J P B ++ wM adm ka F0 R0 J0) 945 [(0, .ref sb), (1, .ref (adc 99)), (2, .ref (adm 20)), (3, .int (nI (6 * k)))] [] := by
  have hT := hT hI
  refine g_aload_n C 1 dL_law_945 rfl ?_
  refine g_aload_n C 0 dL_law_946 rfl ?_
  refine g_iload_n C 3 dL_law_947 rfl ?_
  refine g_iconst C (1 : Int32) dL_law_948 ci_1 ?_
  refine g_iadd C dL_law_949 ?_
  refine g_sld C hX hbl hbA (6 * k + 1) (nI_add (6 * k) 1) (by omega) hL dL_law_950 ?_
  refine g_aload_n C 0 dL_law_951 rfl ?_
  refine g_iload_n C 3 dL_law_952 rfl ?_
  refine g_iconst C (2 : Int32) dL_law_953 ci_2 ?_
  refine g_iadd C dL_law_954 ?_
  refine g_sld C hX hbl hbA (6 * k + 2) (nI_add (6 * k) 2) (by omega) hL dL_law_955 ?_
  refine g_aload_n C 0 dL_law_956 rfl ?_
  refine g_iload_n C 3 dL_law_957 rfl ?_
  refine g_iconst C (3 : Int32) dL_law_958 ci_3 ?_
  refine g_iadd C dL_law_959 ?_
  refine g_sld C hX hbl hbA (6 * k + 3) (nI_add (6 * k) 3) (by omega) hL dL_law_960 ?_
  refine g_aload_n C 0 dL_law_961 rfl ?_
  refine g_iload_n C 3 dL_law_962 rfl ?_
  refine g_iconst C (4 : Int32) dL_law_963 ci_4 ?_
  refine g_iadd C dL_law_964 ?_
  refine g_sld C hX hbl hbA (6 * k + 4) (nI_add (6 * k) 4) (by omega) hL dL_law_965 ?_
  refine g_i2l C dL_law_966 ?_
  refine g_bipush C (32 : Int32) dL_law_967 cb_32 ?_
  refine g_lshl C dL_law_969 ?_
  refine g_aload_n C 0 dL_law_970 rfl ?_
  refine g_iload_n C 3 dL_law_971 rfl ?_
  refine g_iconst C (5 : Int32) dL_law_972 ci_5 ?_
  refine g_iadd C dL_law_973 ?_
  refine g_sld C hX hbl hbA (6 * k + 5) (nI_add (6 * k) 5) (by omega) hL dL_law_974 ?_
  refine g_i2l C dL_law_975 ?_
  refine g_ldc2 C (gw_of tw5_146 rfl) dL_law_976 ?_
  refine g_land C dL_law_979 ?_
  refine g_lor C dL_law_980 ?_
  refine g_callL C (mc := 0) (ms := 0) (kW_item (xL X) (xD X) ka adc _ _ _ _ _ _ _ _ _ _ hT) miX9_item (gw_of tw4_54 rfl) (by decide) wC_o0 rfl rfl rfl (Nat.le_of_ble_eq_true rfl) (by rw [hroom.1, hroom.2]; omega) dL_law_981 (fun z w hw => ?_)
  obtain ⟨F, R, J, P, B, rfl, hT⟩ := hw
  refine g_aload_n C 2 dL_law_984 rfl ?_
  refine g_aload_n C 0 dL_law_985 rfl ?_
  refine g_iload_n C 3 dL_law_986 rfl ?_
  refine g_iconst C (1 : Int32) dL_law_987 ci_1 ?_
  refine g_iadd C dL_law_988 ?_
  refine g_sld C hX hbl hbA (6 * k + 1) (nI_add (6 * k) 1) (by omega) hL dL_law_989 ?_
  refine g_aload_n C 0 dL_law_990 rfl ?_
  refine g_iload_n C 3 dL_law_991 rfl ?_
  refine g_iconst C (2 : Int32) dL_law_992 ci_2 ?_
  refine g_iadd C dL_law_993 ?_
  refine g_sld C hX hbl hbA (6 * k + 2) (nI_add (6 * k) 2) (by omega) hL dL_law_994 ?_
  refine g_aload_n C 0 dL_law_995 rfl ?_
  refine g_iload_n C 3 dL_law_996 rfl ?_
  refine g_iconst C (3 : Int32) dL_law_997 ci_3 ?_
  refine g_iadd C dL_law_998 ?_
  refine g_sld C hX hbl hbA (6 * k + 3) (nI_add (6 * k) 3) (by omega) hL dL_law_999 ?_
  refine g_aload_n C 0 dL_law_1000 rfl ?_
  refine g_iload_n C 3 dL_law_1001 rfl ?_
  refine g_iconst C (4 : Int32) dL_law_1002 ci_4 ?_
  refine g_iadd C dL_law_1003 ?_
  refine g_sld C hX hbl hbA (6 * k + 4) (nI_add (6 * k) 4) (by omega) hL dL_law_1004 ?_
  refine g_i2l C dL_law_1005 ?_
  refine g_bipush C (32 : Int32) dL_law_1006 cb_32 ?_
  refine g_lshl C dL_law_1008 ?_
  refine g_aload_n C 0 dL_law_1009 rfl ?_
  refine g_iload_n C 3 dL_law_1010 rfl ?_
  refine g_iconst C (5 : Int32) dL_law_1011 ci_5 ?_
  refine g_iadd C dL_law_1012 ?_
  refine g_sld C hX hbl hbA (6 * k + 5) (nI_add (6 * k) 5) (by omega) hL dL_law_1013 ?_
  refine g_i2l C dL_law_1014 ?_
  refine g_ldc2 C (gw_of tw5_146 rfl) dL_law_1015 ?_
  refine g_land C dL_law_1018 ?_
  refine g_lor C dL_law_1019 ?_
  refine g_callR C (mc := 0) (ms := 0) (kM_item (xL X) (xD X) ka adm _ _ _ _ _ _ _ _ hT) miX10_item (gw_of tw5_138 rfl) (by decide) wM_at rfl rfl rfl (Nat.le_of_ble_eq_true rfl) (by rw [hroom.1, hroom.2]; omega) dL_law_1020 (fun z0 w hw => ?_)
  obtain ⟨F0, R0, J0, rfl, hz, hI⟩ := hw
  refine g_icmp_eq C 1091 dL_law_1023 (by decide) (fun _ => ?_) (fun c => absurd hz c)
  exact g_widen (by omega) (by omega) (kk _ _ _ _ _ _ _ _ hI)
set_option maxHeartbeats 4000000 in
set_option maxRecDepth 100000 in
theorem lL_28 {X : XT} {ka : Nat → ClassId} {adc adm : Nat → Nat} {sb L : Nat} {xs : Nat → Int32} (C : Cx X cL_law 4 RL (some .boolean) ka 10) (hroom : (xR X).cells = 600000 ∧ (xR X).slots = 7302250) (hX : va_X sb L xs (xS X) (xS X).heap) (hbl : sb < (xS X).heap.size) (hbA : ¬ xF X sb) (hL : L ≤ 384) {INV : INVT} (k : Nat) (hk : 6 * k + 6 ≤ L) {cells slots : Nat} (hc : cells ≤ 48 + 4 * k) (hs : slots ≤ 11900 + 8 * k) (F : FT) (R : RT) (J : JT) (P : PT) (B : BT) (F0 : FT) (R0 : RT) (J0 : JT) (hT : INV F R J P B F0 R0 J0 → qW_copy F R J P B (xs (6 * k + 1)) (xs (6 * k + 2)) (xs (6 * k + 3)) (xs (6 * k + 4)) (xs (6 * k + 5)) (fun r F R J P B => qM_copy F0 R0 J0 (xs (6 * k + 1)) (xs (6 * k + 2)) (xs (6 * k + 3)) (xs (6 * k + 4)) (xs (6 * k + 5)) (fun r0 F0 R0 J0 => r = r0 ∧ INV F R J P B F0 R0 J0))) (hI : INV F R J P B F0 R0 J0) (kk : ∀ (F : FT) (R : RT) (J : JT) (P : PT) (B : BT) (F0 : FT) (R0 : RT) (J0 : JT), INV F R J P B F0 R0 J0 → G X (52 + 4 * k) (11908 + 8 * k) (wC adc ka F R J P B ++ wM adm ka F0 R0 J0) 1091 [(0, .ref sb), (1, .ref (adc 99)), (2, .ref (adm 20)), (3, .int (nI (6 * k)))] []) : G X cells slots (wC adc ka F R J P B ++ wM adm ka F0 R0 J0) 1028 [(0, .ref sb), (1, .ref (adc 99)), (2, .ref (adm 20)), (3, .int (nI (6 * k)))] [] := by
  have hT := hT hI
  refine g_aload_n C 1 dL_law_1028 rfl ?_
  refine g_aload_n C 0 dL_law_1029 rfl ?_
  refine g_iload_n C 3 dL_law_1030 rfl ?_
  refine g_iconst C (1 : Int32) dL_law_1031 ci_1 ?_
  refine g_iadd C dL_law_1032 ?_
  refine g_sld C hX hbl hbA (6 * k + 1) (nI_add (6 * k) 1) (by omega) hL dL_law_1033 ?_
  refine g_aload_n C 0 dL_law_1034 rfl ?_
  refine g_iload_n C 3 dL_law_1035 rfl ?_
  refine g_iconst C (2 : Int32) dL_law_1036 ci_2 ?_
  refine g_iadd C dL_law_1037 ?_
  refine g_sld C hX hbl hbA (6 * k + 2) (nI_add (6 * k) 2) (by omega) hL dL_law_1038 ?_
  refine g_aload_n C 0 dL_law_1039 rfl ?_
  refine g_iload_n C 3 dL_law_1040 rfl ?_
  refine g_iconst C (3 : Int32) dL_law_1041 ci_3 ?_
  refine g_iadd C dL_law_1042 ?_
  refine g_sld C hX hbl hbA (6 * k + 3) (nI_add (6 * k) 3) (by omega) hL dL_law_1043 ?_
  refine g_aload_n C 0 dL_law_1044 rfl ?_
  refine g_iload_n C 3 dL_law_1045 rfl ?_
  refine g_iconst C (4 : Int32) dL_law_1046 ci_4 ?_
  refine g_iadd C dL_law_1047 ?_
  refine g_sld C hX hbl hbA (6 * k + 4) (nI_add (6 * k) 4) (by omega) hL dL_law_1048 ?_
  refine g_aload_n C 0 dL_law_1049 rfl ?_
  refine g_iload_n C 3 dL_law_1050 rfl ?_
  refine g_iconst C (5 : Int32) dL_law_1051 ci_5 ?_
  refine g_iadd C dL_law_1052 ?_
  refine g_sld C hX hbl hbA (6 * k + 5) (nI_add (6 * k) 5) (by omega) hL dL_law_1053 ?_
  refine g_callL C (mc := 0) (ms := 0) (kW_copy (xL X) (xD X) ka adc _ _ _ _ _ _ _ _ _ _ _ hT) miX9_copy (gw_of tw4_58 rfl) (by decide) wC_o0 rfl rfl rfl (Nat.le_of_ble_eq_true rfl) (by rw [hroom.1, hroom.2]; omega) dL_law_1054 (fun z w hw => ?_)
  obtain ⟨F, R, J, P, B, rfl, hT⟩ := hw
  refine g_aload_n C 2 dL_law_1057 rfl ?_
  refine g_aload_n C 0 dL_law_1058 rfl ?_
  refine g_iload_n C 3 dL_law_1059 rfl ?_
  refine g_iconst C (1 : Int32) dL_law_1060 ci_1 ?_
  refine g_iadd C dL_law_1061 ?_
  refine g_sld C hX hbl hbA (6 * k + 1) (nI_add (6 * k) 1) (by omega) hL dL_law_1062 ?_
  refine g_aload_n C 0 dL_law_1063 rfl ?_
  refine g_iload_n C 3 dL_law_1064 rfl ?_
  refine g_iconst C (2 : Int32) dL_law_1065 ci_2 ?_
  refine g_iadd C dL_law_1066 ?_
  refine g_sld C hX hbl hbA (6 * k + 2) (nI_add (6 * k) 2) (by omega) hL dL_law_1067 ?_
  refine g_aload_n C 0 dL_law_1068 rfl ?_
  refine g_iload_n C 3 dL_law_1069 rfl ?_
  refine g_iconst C (3 : Int32) dL_law_1070 ci_3 ?_
  refine g_iadd C dL_law_1071 ?_
  refine g_sld C hX hbl hbA (6 * k + 3) (nI_add (6 * k) 3) (by omega) hL dL_law_1072 ?_
  refine g_aload_n C 0 dL_law_1073 rfl ?_
  refine g_iload_n C 3 dL_law_1074 rfl ?_
  refine g_iconst C (4 : Int32) dL_law_1075 ci_4 ?_
  refine g_iadd C dL_law_1076 ?_
  refine g_sld C hX hbl hbA (6 * k + 4) (nI_add (6 * k) 4) (by omega) hL dL_law_1077 ?_
  refine g_aload_n C 0 dL_law_1078 rfl ?_
  refine g_iload_n C 3 dL_law_1079 rfl ?_
  refine g_iconst C (5 : Int32) dL_law_1080 ci_5 ?_
  refine g_iadd C dL_law_1081 ?_
  refine g_sld C hX hbl hbA (6 * k + 5) (nI_add (6 * k) 5) (by omega) hL dL_law_1082 ?_
  refine g_callR C (mc := 0) (ms := 0) (kM_copy (xL X) (xD X) ka adm _ _ _ _ _ _ _ _ _ hT) miX10_copy (gw_of tw5_142 rfl) (by decide) wM_at rfl rfl rfl (Nat.le_of_ble_eq_true rfl) (by rw [hroom.1, hroom.2]; omega) dL_law_1083 (fun z0 w hw => ?_)
  obtain ⟨F0, R0, J0, rfl, hz, hI⟩ := hw
  refine g_icmp_eq C 1091 dL_law_1086 (by decide) (fun _ => ?_) (fun c => absurd hz c)
  exact g_widen (by omega) (by omega) (kk _ _ _ _ _ _ _ _ hI)
set_option maxHeartbeats 8000000 in
set_option maxRecDepth 100000 in
theorem law_loop {X : XT} {ka : Nat → ClassId} {adc adm : Nat → Nat} {sb L : Nat} {xs : Nat → Int32} (C : Cx X cL_law 4 RL (some .boolean) ka 10) (hroom : (xR X).cells = 600000 ∧ (xR X).slots = 7302250) (hX : va_X sb L xs (xS X) (xS X).heap) (hbl : sb < (xS X).heap.size) (hbA : ¬ xF X sb) (hL : L ≤ 384) {INV : INVT} (ok : LawOK INV) (hend : ∀ (cells slots : Nat) (ws : va_W) (lv : List (Nat × Value)), cells ≤ 600000 → slots ≤ 7302250 → G X cells slots ws 1098 lv [.int 1]) : ∀ (n k : Nat) (F : FT) (R : RT) (J : JT) (P : PT) (B : BT) (F0 : FT) (R0 : RT) (J0 : JT), 6 * k ≤ L → L + 1 - 6 * k < n → INV F R J P B F0 R0 J0 → G X (48 + 4 * k) (11900 + 8 * k) (wC adc ka F R J P B ++ wM adm ka F0 R0 J0) 18 [(0, .ref sb), (1, .ref (adc 99)), (2, .ref (adm 20)), (3, .int (nI (6 * k)))] [] := by
  intro n
  induction n with
  | zero => intro k F R J P B F0 R0 J0 _ h; omega
  | succ n ih =>
    intro k F R J P B F0 R0 J0 hkL hn hI
    refine g_iload_n C 3 dL_law_18 rfl ?_
    refine g_aload_n C 0 dL_law_19 rfl ?_
    refine g_slen C hX hbl hbA dL_law_20 ?_
    refine g_bipush C (6 : Int32) dL_law_21 cb_6 ?_
    refine g_isub C dL_law_23 ?_
    refine g_icmp_gt C 1097 dL_law_24 (by decide) (fun c => ?_) (fun c => ?_)
    · refine g_iconst C (1 : Int32) dL_law_1097 ci_1 ?_
      exact hend _ _ _ _ (by omega) (by omega)
    have hk6 : 6 * k + 6 ≤ L := by
      apply Classical.byContradiction
      intro h
      apply c
      show nI L - nI 6 < nI (6 * k)
      have h1 : (nI L - nI 6).toInt = (L : Int) - 6 := pk_sub_toInt (by omega) (by omega)
      have h2 : (nI (6 * k)).toInt = ((6 * k : Nat) : Int) := nI_toInt (by omega)
      rw [Int32.lt_iff_toInt_lt, h1, h2]
      omega
    have tail : ∀ (F : FT) (R : RT) (J : JT) (P : PT) (B : BT) (F0 : FT) (R0 : RT) (J0 : JT), INV F R J P B F0 R0 J0 → G X (52 + 4 * k) (11908 + 8 * k) (wC adc ka F R J P B ++ wM adm ka F0 R0 J0) 1091 [(0, .ref sb), (1, .ref (adc 99)), (2, .ref (adm 20)), (3, .int (nI (6 * k)))] [] := by
      intro F R J P B F0 R0 J0 hI
      refine g_iinc C 3 (nI (6 * (k + 1))) [(3, .int (nI (6 * (k + 1)))), (0, .ref sb), (1, .ref (adc 99)), (2, .ref (adm 20))] dL_law_1091 rfl (by show nI (6 * k) + nI 6 = nI (6 * (k + 1)); rw [nI_add]; rfl) (by decide) rfl ?_
      refine g_goto C 18 dL_law_1094 (by decide) ?_
      refine g_lv [1, 2, 3, 0] rfl ?_
      exact g_widen (by omega) (by omega) (ih (k + 1) F R J P B F0 R0 J0 (by omega) (by omega) hI)
    refine g_aload_n C 0 dL_law_27 rfl ?_
    refine g_iload_n C 3 dL_law_28 rfl ?_
    refine g_sld C hX hbl hbA (6 * k) rfl (by omega) hL dL_law_29 ?_
    refine g_bipush C (31 : Int32) dL_law_30 cb_31 ?_
    refine g_iand C dL_law_32 ?_
    by_cases c0 : (xs (6 * k)) &&& 31 = (0 : Int32)
    · refine g_tableIn C (131) 164 dL_law_33 (by rw [c0]; decide) (by rw [c0]; decide) (by rw [c0]; decide) (by decide) ?_
      exact lL_0 C hroom hX hbl hbA hL k hk6 (by omega) (by omega) F R J P B F0 R0 J0 (ok.1 _ _ _ _ _ _ _ _ _ _ _) hI tail
    by_cases c1 : (xs (6 * k)) &&& 31 = (1 : Int32)
    · refine g_tableIn C (174) 207 dL_law_33 (by rw [c1]; decide) (by rw [c1]; decide) (by rw [c1]; decide) (by decide) ?_
      exact lL_1 C hroom hX hbl hbA hL k hk6 (by omega) (by omega) F R J P B F0 R0 J0 (ok.2.1 _ _ _ _ _ _ _ _ _ _) hI tail
    by_cases c2 : (xs (6 * k)) &&& 31 = (2 : Int32)
    · refine g_tableIn C (207) 240 dL_law_33 (by rw [c2]; decide) (by rw [c2]; decide) (by rw [c2]; decide) (by decide) ?_
      exact lL_2 C hroom hX hbl hbA hL k hk6 (by omega) (by omega) F R J P B F0 R0 J0 (ok.2.2.1 _ _ _ _ _ _ _ _ _ _) hI tail
    by_cases c3 : (xs (6 * k)) &&& 31 = (3 : Int32)
    · refine g_tableIn C (240) 273 dL_law_33 (by rw [c3]; decide) (by rw [c3]; decide) (by rw [c3]; decide) (by decide) ?_
      exact lL_3 C hroom hX hbl hbA hL k hk6 (by omega) (by omega) F R J P B F0 R0 J0 (ok.2.2.2.1 _ _ _ _ _ _ _ _ _ _) hI tail
    by_cases c4 : (xs (6 * k)) &&& 31 = (4 : Int32)
    · refine g_tableIn C (273) 306 dL_law_33 (by rw [c4]; decide) (by rw [c4]; decide) (by rw [c4]; decide) (by decide) ?_
      exact lL_4 C hroom hX hbl hbA hL k hk6 (by omega) (by omega) F R J P B F0 R0 J0 (ok.2.2.2.2.1 _ _ _ _ _ _ _ _ _ _) hI tail
    by_cases c5 : (xs (6 * k)) &&& 31 = (5 : Int32)
    · refine g_tableIn C (306) 339 dL_law_33 (by rw [c5]; decide) (by rw [c5]; decide) (by rw [c5]; decide) (by decide) ?_
      exact lL_5 C hroom hX hbl hbA hL k hk6 (by omega) (by omega) F R J P B F0 R0 J0 (ok.2.2.2.2.2.1 _ _ _ _ _ _ _ _ _) hI tail
    by_cases c6 : (xs (6 * k)) &&& 31 = (6 : Int32)
    · refine g_tableIn C (329) 362 dL_law_33 (by rw [c6]; decide) (by rw [c6]; decide) (by rw [c6]; decide) (by decide) ?_
      exact lL_6 C hroom hX hbl hbA hL k hk6 (by omega) (by omega) F R J P B F0 R0 J0 (ok.2.2.2.2.2.2.1 _ _ _ _ _ _ _ _ ) hI tail
    by_cases c7 : (xs (6 * k)) &&& 31 = (7 : Int32)
    · refine g_tableIn C (342) 375 dL_law_33 (by rw [c7]; decide) (by rw [c7]; decide) (by rw [c7]; decide) (by decide) ?_
      exact lL_7 C hroom hX hbl hbA hL k hk6 (by omega) (by omega) F R J P B F0 R0 J0 (ok.2.2.2.2.2.2.2.1 _ _ _ _ _ _ _ _ _) hI tail
    by_cases c8 : (xs (6 * k)) &&& 31 = (8 : Int32)
    · refine g_tableIn C (365) 398 dL_law_33 (by rw [c8]; decide) (by rw [c8]; decide) (by rw [c8]; decide) (by decide) ?_
      exact lL_8 C hroom hX hbl hbA hL k hk6 (by omega) (by omega) F R J P B F0 R0 J0 (ok.2.2.2.2.2.2.2.2.1 _ _ _ _ _ _ _ _ _) hI tail
    by_cases c9 : (xs (6 * k)) &&& 31 = (9 : Int32)
    · refine g_tableIn C (388) 421 dL_law_33 (by rw [c9]; decide) (by rw [c9]; decide) (by rw [c9]; decide) (by decide) ?_
      exact lL_9 C hroom hX hbl hbA hL k hk6 (by omega) (by omega) F R J P B F0 R0 J0 (ok.2.2.2.2.2.2.2.2.2.1 _ _ _ _ _ _ _ _ _) hI tail
    by_cases c10 : (xs (6 * k)) &&& 31 = (10 : Int32)
    · refine g_tableIn C (411) 444 dL_law_33 (by rw [c10]; decide) (by rw [c10]; decide) (by rw [c10]; decide) (by decide) ?_
      exact lL_10 C hroom hX hbl hbA hL k hk6 (by omega) (by omega) F R J P B F0 R0 J0 (ok.2.2.2.2.2.2.2.2.2.2.1 _ _ _ _ _ _ _ _ _) hI tail
    by_cases c11 : (xs (6 * k)) &&& 31 = (11 : Int32)
    · refine g_tableIn C (434) 467 dL_law_33 (by rw [c11]; decide) (by rw [c11]; decide) (by rw [c11]; decide) (by decide) ?_
      exact lL_11 C hroom hX hbl hbA hL k hk6 (by omega) (by omega) F R J P B F0 R0 J0 (ok.2.2.2.2.2.2.2.2.2.2.2.1 _ _ _ _ _ _ _ _ ) hI tail
    by_cases c12 : (xs (6 * k)) &&& 31 = (12 : Int32)
    · refine g_tableIn C (447) 480 dL_law_33 (by rw [c12]; decide) (by rw [c12]; decide) (by rw [c12]; decide) (by decide) ?_
      exact lL_12 C hroom hX hbl hbA hL k hk6 (by omega) (by omega) F R J P B F0 R0 J0 (ok.2.2.2.2.2.2.2.2.2.2.2.2.1 _ _ _ _ _ _ _ _ _) hI tail
    by_cases c13 : (xs (6 * k)) &&& 31 = (13 : Int32)
    · refine g_tableIn C (470) 503 dL_law_33 (by rw [c13]; decide) (by rw [c13]; decide) (by rw [c13]; decide) (by decide) ?_
      exact lL_13 C hroom hX hbl hbA hL k hk6 (by omega) (by omega) F R J P B F0 R0 J0 (ok.2.2.2.2.2.2.2.2.2.2.2.2.2.1 _ _ _ _ _ _ _ _ ) hI tail
    by_cases c14 : (xs (6 * k)) &&& 31 = (14 : Int32)
    · refine g_tableIn C (483) 516 dL_law_33 (by rw [c14]; decide) (by rw [c14]; decide) (by rw [c14]; decide) (by decide) ?_
      exact lL_14 C hroom hX hbl hbA hL k hk6 (by omega) (by omega) F R J P B F0 R0 J0 (ok.2.2.2.2.2.2.2.2.2.2.2.2.2.2.1 _ _ _ _ _ _ _ _ _ _) hI tail
    by_cases c15 : (xs (6 * k)) &&& 31 = (15 : Int32)
    · refine g_tableIn C (516) 549 dL_law_33 (by rw [c15]; decide) (by rw [c15]; decide) (by rw [c15]; decide) (by decide) ?_
      exact lL_15 C hroom hX hbl hbA hL k hk6 (by omega) (by omega) F R J P B F0 R0 J0 (ok.2.2.2.2.2.2.2.2.2.2.2.2.2.2.2.1 _ _ _ _ _ _ _ _ _) hI tail
    by_cases c16 : (xs (6 * k)) &&& 31 = (16 : Int32)
    · refine g_tableIn C (539) 572 dL_law_33 (by rw [c16]; decide) (by rw [c16]; decide) (by rw [c16]; decide) (by decide) ?_
      exact lL_16 C hroom hX hbl hbA hL k hk6 (by omega) (by omega) F R J P B F0 R0 J0 (ok.2.2.2.2.2.2.2.2.2.2.2.2.2.2.2.2.1 _ _ _ _ _ _ _ _ _ _) hI tail
    by_cases c17 : (xs (6 * k)) &&& 31 = (17 : Int32)
    · refine g_tableIn C (572) 605 dL_law_33 (by rw [c17]; decide) (by rw [c17]; decide) (by rw [c17]; decide) (by decide) ?_
      exact lL_17 C hroom hX hbl hbA hL k hk6 (by omega) (by omega) F R J P B F0 R0 J0 (ok.2.2.2.2.2.2.2.2.2.2.2.2.2.2.2.2.2.1 _ _ _ _ _ _ _ _ _ _) hI tail
    by_cases c18 : (xs (6 * k)) &&& 31 = (18 : Int32)
    · refine g_tableIn C (605) 638 dL_law_33 (by rw [c18]; decide) (by rw [c18]; decide) (by rw [c18]; decide) (by decide) ?_
      exact lL_18 C hroom hX hbl hbA hL k hk6 (by omega) (by omega) F R J P B F0 R0 J0 (ok.2.2.2.2.2.2.2.2.2.2.2.2.2.2.2.2.2.2.1 _ _ _ _ _ _ _ _ _ _) hI tail
    by_cases c19 : (xs (6 * k)) &&& 31 = (19 : Int32)
    · refine g_tableIn C (638) 671 dL_law_33 (by rw [c19]; decide) (by rw [c19]; decide) (by rw [c19]; decide) (by decide) ?_
      exact lL_19 C hroom hX hbl hbA hL k hk6 (by omega) (by omega) F R J P B F0 R0 J0 (ok.2.2.2.2.2.2.2.2.2.2.2.2.2.2.2.2.2.2.2.1 _ _ _ _ _ _ _ _ _) hI tail
    by_cases c20 : (xs (6 * k)) &&& 31 = (20 : Int32)
    · refine g_tableIn C (661) 694 dL_law_33 (by rw [c20]; decide) (by rw [c20]; decide) (by rw [c20]; decide) (by decide) ?_
      exact lL_20 C hroom hX hbl hbA hL k hk6 (by omega) (by omega) F R J P B F0 R0 J0 (ok.2.2.2.2.2.2.2.2.2.2.2.2.2.2.2.2.2.2.2.2.1 _ _ _ _ _ _ _ _ _ _) hI tail
    by_cases c21 : (xs (6 * k)) &&& 31 = (21 : Int32)
    · refine g_tableIn C (694) 727 dL_law_33 (by rw [c21]; decide) (by rw [c21]; decide) (by rw [c21]; decide) (by decide) ?_
      exact lL_21 C hroom hX hbl hbA hL k hk6 (by omega) (by omega) F R J P B F0 R0 J0 (ok.2.2.2.2.2.2.2.2.2.2.2.2.2.2.2.2.2.2.2.2.2.1 _ _ _ _ _ _ _ _ ) hI tail
    by_cases c22 : (xs (6 * k)) &&& 31 = (22 : Int32)
    · refine g_tableIn C (707) 740 dL_law_33 (by rw [c22]; decide) (by rw [c22]; decide) (by rw [c22]; decide) (by decide) ?_
      exact lL_22 C hroom hX hbl hbA hL k hk6 (by omega) (by omega) F R J P B F0 R0 J0 (ok.2.2.2.2.2.2.2.2.2.2.2.2.2.2.2.2.2.2.2.2.2.2.1 _ _ _ _ _ _ _ _ ) hI tail
    by_cases c23 : (xs (6 * k)) &&& 31 = (23 : Int32)
    · refine g_tableIn C (720) 753 dL_law_33 (by rw [c23]; decide) (by rw [c23]; decide) (by rw [c23]; decide) (by decide) ?_
      exact lL_23 C hroom hX hbl hbA hL k hk6 (by omega) (by omega) F R J P B F0 R0 J0 (ok.2.2.2.2.2.2.2.2.2.2.2.2.2.2.2.2.2.2.2.2.2.2.2.1 _ _ _ _ _ _ _ _ _ _ _ _ _) hI tail
    by_cases c24 : (xs (6 * k)) &&& 31 = (24 : Int32)
    · refine g_tableIn C (783) 816 dL_law_33 (by rw [c24]; decide) (by rw [c24]; decide) (by rw [c24]; decide) (by decide) ?_
      exact lL_24 C hroom hX hbl hbA hL k hk6 (by omega) (by omega) F R J P B F0 R0 J0 (ok.2.2.2.2.2.2.2.2.2.2.2.2.2.2.2.2.2.2.2.2.2.2.2.2.1 _ _ _ _ _ _ _ _ _ _ _ _ _) hI tail
    by_cases c25 : (xs (6 * k)) &&& 31 = (25 : Int32)
    · refine g_tableIn C (846) 879 dL_law_33 (by rw [c25]; decide) (by rw [c25]; decide) (by rw [c25]; decide) (by decide) ?_
      exact lL_25 C hroom hX hbl hbA hL k hk6 (by omega) (by omega) F R J P B F0 R0 J0 (ok.2.2.2.2.2.2.2.2.2.2.2.2.2.2.2.2.2.2.2.2.2.2.2.2.2.1 _ _ _ _ _ _ _ _ _ _ _) hI tail
    by_cases c26 : (xs (6 * k)) &&& 31 = (26 : Int32)
    · refine g_tableIn C (889) 922 dL_law_33 (by rw [c26]; decide) (by rw [c26]; decide) (by rw [c26]; decide) (by decide) ?_
      exact lL_26 C hroom hX hbl hbA hL k hk6 (by omega) (by omega) F R J P B F0 R0 J0 (ok.2.2.2.2.2.2.2.2.2.2.2.2.2.2.2.2.2.2.2.2.2.2.2.2.2.2.1 _ _ _ _ _ _ _ _ _) hI tail
    by_cases c27 : (xs (6 * k)) &&& 31 = (27 : Int32)
    · refine g_tableIn C (912) 945 dL_law_33 (by rw [c27]; decide) (by rw [c27]; decide) (by rw [c27]; decide) (by decide) ?_
      exact lL_27 C hroom hX hbl hbA hL k hk6 (by omega) (by omega) F R J P B F0 R0 J0 (ok.2.2.2.2.2.2.2.2.2.2.2.2.2.2.2.2.2.2.2.2.2.2.2.2.2.2.2.1 _ _ _ _ _ _ _ _ _ _ _ _) hI tail
    by_cases c28 : (xs (6 * k)) &&& 31 = (28 : Int32)
    · refine g_tableIn C (995) 1028 dL_law_33 (by rw [c28]; decide) (by rw [c28]; decide) (by rw [c28]; decide) (by decide) ?_
      exact lL_28 C hroom hX hbl hbA hL k hk6 (by omega) (by omega) F R J P B F0 R0 J0 (ok.2.2.2.2.2.2.2.2.2.2.2.2.2.2.2.2.2.2.2.2.2.2.2.2.2.2.2.2 _ _ _ _ _ _ _ _ _ _ _ _ _) hI tail
    refine g_tableOut C 1091 dL_law_33 (by have e0 := swn (0) (by decide) c0; have e1 := swn (1) (by decide) c1; have e2 := swn (2) (by decide) c2; have e3 := swn (3) (by decide) c3; have e4 := swn (4) (by decide) c4; have e5 := swn (5) (by decide) c5; have e6 := swn (6) (by decide) c6; have e7 := swn (7) (by decide) c7; have e8 := swn (8) (by decide) c8; have e9 := swn (9) (by decide) c9; have e10 := swn (10) (by decide) c10; have e11 := swn (11) (by decide) c11; have e12 := swn (12) (by decide) c12; have e13 := swn (13) (by decide) c13; have e14 := swn (14) (by decide) c14; have e15 := swn (15) (by decide) c15; have e16 := swn (16) (by decide) c16; have e17 := swn (17) (by decide) c17; have e18 := swn (18) (by decide) c18; have e19 := swn (19) (by decide) c19; have e20 := swn (20) (by decide) c20; have e21 := swn (21) (by decide) c21; have e22 := swn (22) (by decide) c22; have e23 := swn (23) (by decide) c23; have e24 := swn (24) (by decide) c24; have e25 := swn (25) (by decide) c25; have e26 := swn (26) (by decide) c26; have e27 := swn (27) (by decide) c27; have e28 := swn (28) (by decide) c28; have hz := law_and (xs (6 * k)); omega) (by decide) ?_
    exact g_widen (by omega) (by omega) (tail F R J P B F0 R0 J0 hI)
