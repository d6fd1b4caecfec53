/-! ===== the pure part: a day goes by ===== -/
theorem cst_0 (h : Nat → Nat → Nat) : ∀ n, cst h n 0 = 0 := by
  intro n
  induction n with
  | zero => rfl
  | succ n ih => simp [cst, ih]
theorem bhN_ge {st su laid co : Nat} (h : laid ≤ st) : laid ≤ bhN st su laid co ∧ bhN st su laid co ≤ st := by unfold bhN; split <;> omega
/-- what is laid behind today, in such weather -/
def lbN (x : Nat → Nat) (b h : Nat → Nat → Nat) (w : Nat) : Nat := bhN (x 0) (su0 b (x 11) w (x 5)) (x 5) (cst h (x 12) (x 7))
def passN (x : Nat → Nat) (b h : Nat → Nat → Nat) (w : Nat) : Nat → Nat := va_up (va_up (va_up x 5 (lbN x b h w)) 7 0) 4 (x 4 + 1)
theorem Acst {x : Nat → Nat} {b h p : Nat → Nat → Nat} (A : AOK x b h p) (s : Nat) : cst h (x 12) s ≤ 54 := by
  have a1 := A.1
  have := cst_le h (x 12) s (fun k hk => (A.2.2.1 k hk).2.1)
  omega
theorem passN_ne {x : Nat → Nat} {b h : Nat → Nat → Nat} {w k : Nat} (h4 : k ≠ 4) (h5 : k ≠ 5) (h7 : k ≠ 7) : passN x b h w k = x k := by unfold passN; rw [vu_ne h4, vu_ne h7, vu_ne h5]
theorem AOK.pass {x : Nat → Nat} {b h p : Nat → Nat → Nat} (A : AOK x b h p) (w : Nat) (hs : x 4 < x 1) : AOK (passN x b h w) b h p := by
  obtain ⟨a1, a2, a3, a4, a5, a6, a7⟩ := A
  have hl := bhN_ge (st := x 0) (su := su0 b (x 11) w (x 5)) (laid := x 5) (co := cst h (x 12) (x 7)) (by omega)
  have e4 : passN x b h w 4 = x 4 + 1 := rfl
  have e5 : passN x b h w 5 = lbN x b h w := rfl
  have e7 : passN x b h w 7 = 0 := rfl
  have h2 : 0 < 2 ^ x 12 := Nat.pow_pos (by omega)
  have hl : x 5 ≤ lbN x b h w ∧ lbN x b h w ≤ x 0 := hl
  refine ⟨?_, by rw [passN_ne (by decide) (by decide) (by decide)]; exact a2, by rw [passN_ne (by decide) (by decide) (by decide)]; exact a3, ?_, by rw [passN_ne (by decide) (by decide) (by decide)]; exact a5, fun k hk => by rw [e7] at hk; simp at hk, by rw [passN_ne (by decide) (by decide) (by decide)]; exact a7⟩
  · rw [e4, e5, e7, passN_ne (k := 0) (by decide) (by decide) (by decide), passN_ne (k := 1) (by decide) (by decide) (by decide), passN_ne (k := 2) (by decide) (by decide) (by decide), passN_ne (k := 3) (by decide) (by decide) (by decide), passN_ne (k := 6) (by decide) (by decide) (by decide), passN_ne (k := 8) (by decide) (by decide) (by decide), passN_ne (k := 9) (by decide) (by decide) (by decide), passN_ne (k := 10) (by decide) (by decide) (by decide), passN_ne (k := 11) (by decide) (by decide) (by decide), passN_ne (k := 12) (by decide) (by decide) (by decide), passN_ne (k := 13) (by decide) (by decide) (by decide)]
    omega
  · rw [e4, e5, passN_ne (k := 13) (by decide) (by decide) (by decide), passN_ne (k := 12) (by decide) (by decide) (by decide)]
    intro i hi
    have := a4 i hi
    omega
theorem C_pass {x : Nat → Nat} {b h p : Nat → Nat → Nat} {F : FT} {R : RT} {J : JT} {P : PT} {B : BT} (A : AOK x b h p) (H : CS 100 x b h p F R P B) {w : Nat} (hw : w ≤ 2) {K : Int32 → FT → RT → JT → PT → BT → Prop} (hK : ∀ F', CS 100 (passN x b h w) b h p F' R P B → (∀ k, k ≠ 104 → k ≠ 105 → k ≠ 107 → F' k = F k) → K (nI (lbN x b h w - x 5)) F' R J P B) : qS_pass F R J P B (nI w) K := by
  have a1 := A.1
  have e5 : F 105 = nI (x 5) := H.n 5 (by decide)
  have e4 : F 104 = nI (x 4) := H.n 4 (by decide)
  have hl := bhN_ge (st := x 0) (su := su0 b (x 11) w (x 5)) (laid := x 5) (co := cst h (x 12) (x 7)) (by omega)
  unfold qS_pass
  refine C_costToday A H ?_
  rw [e5]
  have hc := Acst A (x 7)
  refine C_behind A H hw (by omega) (by omega) ?_
  have es : nI (lbN x b h w) - nI (x 5) = nI (lbN x b h w - x 5) := pk_sub hl.1
  show K (nI (lbN x b h w) - nI (x 5)) (upd (upd (upd F 105 (nI (lbN x b h w))) 107 0) 104 (F 104 + 1)) R J P B
  rw [es, e4, nI_1]
  refine hK _ (H.num (fun k hk => ?_) (passN_ne (by decide) (by decide) (by decide)) (passN_ne (by decide) (by decide) (by decide)) (by rw [passN_ne (by decide) (by decide) (by decide)]; exact Nat.le_refl _)) (fun k h4 h5 h7 => by rw [upd_ne h4, upd_ne h7, upd_ne h5])
  by_cases k4 : k = 4
  · subst k4; exact upd_eq
  · rw [upd_ne (by omega)]
    by_cases k7 : k = 7
    · subst k7; exact upd_eq
    · rw [upd_ne (by omega)]
      by_cases k5 : k = 5
      · subst k5; exact upd_eq
      · rw [upd_ne (by omega), passN_ne k4 k5 k7]; exact H.n k hk
theorem M_goesBy {x : Nat → Nat} {b h p : Nat → Nat → Nat} {F : FT} {R : RT} {J : JT} (A : AOK x b h p) (M : MS x b h p (R 0) (R 8) (F 9)) (hf : F 1 = -1) {w : Nat} (hw : w ≤ 2) {K : Int32 → FT → RT → JT → Prop} (hK : ∀ R', MS (passN x b h w) b h p (R' 0) (R' 8) (F 9) → (∀ k, k ≠ 0 → R' k = R k) → K (nI (lbN x b h w - x 5)) F R' J) : qM_goesBy F R J (nI w) K := by
  have a1 := A.1
  have g7 : R 0 7 = nI (x 5) := M.1.1 5 (by decide) (by decide)
  have g9 : R 0 9 = nI (cst h (x 12) (x 7)) := M.1.2.2.2
  have g6 : R 0 6 = nI (x 4) := M.1.1 4 (by decide) (by decide)
  have hl := bhN_ge (st := x 0) (su := su0 b (x 11) w (x 5)) (laid := x 5) (co := cst h (x 12) (x 7)) (by omega)
  have hc := Acst A (x 7)
  unfold qM_goesBy
  rw [g7, g9]
  refine M_behind0 A M hw (by omega) (by omega) hf ?_
  have es : nI (lbN x b h w) - nI (x 5) = nI (lbN x b h w - x 5) := pk_sub hl.1
  have e6 : upd (upd (R 0) 7 (nI (lbN x b h w))) 9 0 6 = nI (x 4) := by rw [upd_ne (by decide), upd_ne (by decide)]; exact g6
  show K (upd (upd (upd (R 0) 7 (nI (lbN x b h w))) 9 0) 6 (upd (upd (R 0) 7 (nI (lbN x b h w))) 9 0 6 + 1) 7 - nI (x 5)) F (va_up (va_up (va_up R 0 (upd (R 0) 7 (nI (lbN x b h w)))) 0 (upd (upd (R 0) 7 (nI (lbN x b h w))) 9 0)) 0 (upd (upd (upd (R 0) 7 (nI (lbN x b h w))) 9 0) 6 (upd (upd (R 0) 7 (nI (lbN x b h w))) 9 0 6 + 1))) J
  rw [e6, nI_1, upd_ne (by decide), upd_ne (by decide), upd_eq, es, bx_uu, bx_uu]
  refine hK _ ?_ (fun k hk => vu_ne hk)
  rw [vu_eq, vu_ne (by decide)]
  obtain ⟨⟨m1, m1a, m1b, m1c⟩, m2, m3, m4, m5⟩ := M
  have n13 : passN x b h w 13 = x 13 := passN_ne (by decide) (by decide) (by decide)
  have n12 : passN x b h w 12 = x 12 := passN_ne (by decide) (by decide) (by decide)
  have n11 : passN x b h w 11 = x 11 := passN_ne (by decide) (by decide) (by decide)
  refine ⟨⟨fun j hj hj7 => ?_, ?_, ?_, ?_⟩, fun j hj => ?_, fun j hj => ?_, by rw [n13]; exact m4, by rw [n13, n12]; exact m5⟩
  · by_cases k4 : j = 4
    · subst k4; exact upd_eq
    · rw [upd_ne (by omega), upd_ne (by omega)]
      by_cases k5 : j = 5
      · subst k5; exact upd_eq
      · rw [upd_ne (by omega), passN_ne k4 k5 hj7]; exact m1 j hj hj7
  · rw [upd_ne (by decide), upd_ne (by decide), upd_ne (by decide), n11]; exact m1a
  · rw [upd_ne (by decide), upd_ne (by decide), upd_ne (by decide), n12]; exact m1b
  · rw [upd_ne (by decide), upd_eq, n12, show passN x b h w 7 = 0 from rfl, cst_0]; rfl
  · rw [n11] at hj
    rw [upd_ne (by omega), upd_ne (by omega), upd_ne (by omega), upd_ne (by omega), upd_ne (by omega), upd_ne (by omega), upd_ne (by omega), upd_ne (by omega), upd_ne (by omega)]
    exact m2 j hj
  · rw [n12] at hj
    rw [upd_ne (by omega), upd_ne (by omega), upd_ne (by omega), upd_ne (by omega), upd_ne (by omega), upd_ne (by omega)]
    exact m3 j hj
theorem C_summer {x : Nat → Nat} {b h p : Nat → Nat → Nat} {F : FT} {R : RT} {J : JT} {P : PT} {B : BT} (A : AOK x b h p) (H : CS 100 x b h p F R P B) {K : Int32 → FT → RT → JT → PT → BT → Prop} (hK : K (if x 4 < x 1 then 0 else 1) F R J P B) : qS_isSummer F R J P B K := by
  have a1 := A.1
  unfold qS_isSummer
  rw [show F 104 = nI (x 4) from H.n 4 (by decide), show F 101 = nI (x 1) from H.n 1 (by decide)]
  refine ⟨fun c => ?_, fun c => ?_⟩
  · rw [if_pos ((n_lt (by omega) (by omega)).mp c)] at hK; exact hK
  · rw [if_neg (fun d => c ((n_lt (by omega) (by omega)).mpr d))] at hK; exact hK
theorem M_summer {x : Nat → Nat} {b h p : Nat → Nat → Nat} {F : FT} {R : RT} {J : JT} {u : Nat → Int32} {nu : Int32} (A : AOK x b h p) (M : MS x b h p (R 0) u nu) {K : Int32 → FT → RT → JT → Prop} (hK : K (if x 4 < x 1 then 0 else 1) F R J) : qM_isSummer F R J K := by
  have a1 := A.1
  unfold qM_isSummer
  rw [show R 0 6 = nI (x 4) from M.1.1 4 (by decide) (by decide), show R 0 3 = nI (x 1) from M.1.1 1 (by decide) (by decide)]
  refine ⟨fun c => ?_, fun c => ?_⟩
  · have : x 4 ≠ x 1 := fun e => c (congrArg nI e)
    rw [if_pos (by omega)] at hK; exact hK
  · have := (n_eq (by omega) (by omega)).mp c
    rw [if_neg (by omega)] at hK; exact hK
/-- what a call of the site of now may change: the class's side, the reference's side -/
theorem INV.site {F F' : FT} {R R' : RT} {J : JT} {P : PT} {B : BT} {F0 F0' : FT} {R0 R0' : RT} {J0 : JT} (I : INV F R J P B F0 R0 J0) {x : Nat → Nat} {b h p : Nat → Nat → Nat} (A : AOK x b h p) (H : CS 100 x b h p F' R' P B) (M : MS x b h p (R0' 0) (R0' 8) (F0' 9)) (hF : ∀ k, ¬ (100 ≤ k ∧ k < 114) → F' k = F k) (hR : ∀ k, k ≠ 117 → R' k = R k) (hF0 : ∀ k, k ≠ 9 → F0' k = F0 k) (hR0 : ∀ k, k ≠ 0 → k ≠ 8 → R0' k = R0 k) : INV F' R' J P B F0' R0' J0 :=
  I.cg ⟨x, b, h, p, A, H, M⟩ (fun k hk => hF k (by omega)) (fun k hk => hR k (by omega)) rfl (fun _ hz => hz) (fun k hk => hF0 k (by omega)) (fun k hk => hR0 k (by omega) (by omega))
theorem wx_n {F : FT} {R : RT} {J : JT} {K : Int32 → FT → RT → JT → Prop} {x : Int32} (h : x.toInt < ((0 : Nat) : Int) ∨ ((2 : Nat) : Int) < x.toInt) (k : K 0 F R J) : qM_isWeather F R J x K := mi_n h ⟨isB_0, k⟩
theorem wx_y {F : FT} {R : RT} {J : JT} {K : Int32 → FT → RT → JT → Prop} {w : Nat} (h : w ≤ 2) (k : K 1 F R J) : qM_isWeather F R J (nI w) K := mi_y (by rw [t_n (by omega)]; exact Int.ofNat_le.mpr (Nat.zero_le _)) (by rw [t_n (by omega)]; exact Int.ofNat_le.mpr h) ⟨isB_1, k⟩
theorem T_day (F : FT) (R : RT) (J : JT) (P : PT) (B : BT) (F0 : FT) (R0 : RT) (J0 : JT) (a1 : Int32) (I : INV F R J P B F0 R0 J0) : qW_day F R J P B a1 (fun r F R J P B => qM_day F0 R0 J0 a1 (fun r0 F0 R0 J0 => r = r0 ∧ INV F R J P B F0 R0 J0)) := by
  obtain ⟨x, b, h, p, A, H, M⟩ := id I.1
  have hfa : F0 1 = -1 := I.2.2.2.2
  unfold qW_day
  rcases rg a1 0 2 with hr | ⟨w, -, h2, rfl⟩
  · exact wi_n hr ⟨fun c => absurd rfl c, fun _ => wx_n hr ⟨fun c => absurd rfl c, fun _ => ⟨rfl, I⟩⟩⟩
  have tk : (nI w).toInt = w := t_n (by omega)
  have w1 : ((0 : Int32)).toInt ≤ (nI w).toInt := by rw [tk]; exact Int.ofNat_le.mpr (Nat.zero_le _)
  have w2 : (nI w).toInt ≤ ((2 : Int32)).toInt := by rw [tk]; exact Int.ofNat_le.mpr h2
  refine wi_y w1 w2 ⟨fun _ => C_summer A H ?_, fun c => absurd c (by decide)⟩
  by_cases hs : x 4 < x 1
  · rw [if_pos hs]
    refine ⟨fun _ => C_remember A H (fun F1 R1 H1 f1 r1 => C_pass A.past H1 h2 (fun F2 H2 f2 => ?_)), fun c => absurd rfl c⟩
    refine wx_y h2 ⟨fun _ => M_summer A M ?_, fun c => absurd c (by decide)⟩
    rw [if_pos hs]
    have hs1 : numN x 4 < numN x 1 := hs
    refine ⟨fun _ => M_notes A M (fun F3 R3 M3 f3 r3 => M_goesBy A.past M3 (by rw [f3 1 (by decide)]; exact hfa) h2 (fun R4 M4 r4 => ⟨rfl, ?_⟩)), fun c => absurd rfl c⟩
    refine I.site (A.past.pass w hs1) H2 M4 (fun k hk => ?_) (fun k hk => r1 k hk) (fun k hk => f3 k hk) (fun k h0 h8 => by rw [r4 k h0, r3 k h8])
    rw [f2 k (by omega) (by omega) (by omega), f1 k (by omega)]
  · rw [if_neg hs]
    refine ⟨fun c => absurd c (by decide), fun _ => wx_y h2 ⟨fun _ => M_summer A M ?_, fun c => absurd c (by decide)⟩⟩
    rw [if_neg hs]
    exact ⟨fun c => absurd c (by decide), fun _ => ⟨rfl, I⟩⟩
