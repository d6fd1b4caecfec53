/-! ===== the pure part: oath, count, hindrance, builder, type ===== -/
def sw0 (s j : Nat) : Nat := if s.testBit j then s - 2 ^ j else s
theorem sw_0 : ∀ s, s < 16 → ∀ j, j < 4 → nI s &&& (((1 : Int32) <<< (nI j &&& 31)) ^^^ (-1)) = nI (sw0 s j) ∧ (nI s &&& (((1 : Int32) <<< (nI j &&& 31)) ^^^ (-1))) ||| (nI 0 <<< (nI j &&& 31)) = nI (sw0 s j) ∧ sw0 s j < 16 := by decide +kernel
theorem sw_1 : ∀ s, s < 16 → ∀ j, j < 4 → nI s ||| ((1 : Int32) <<< (nI j &&& 31)) = nI (s ||| 2 ^ j) ∧ (nI s &&& (((1 : Int32) <<< (nI j &&& 31)) ^^^ (-1))) ||| (nI 1 <<< (nI j &&& 31)) = nI (s ||| 2 ^ j) ∧ s ||| 2 ^ j < 16 := by decide +kernel
theorem i_le {a b : Nat} (h : a ≤ b) (hb : b < 2 ^ 31) {lo : Int32} (hl : lo = nI a) : lo.toInt ≤ (nI b).toInt := by rw [hl, t_n (by omega), t_n hb]; exact Int.ofNat_le.mpr h
theorem T_oath (F : FT) (R : RT) (J : JT) (P : PT) (B : BT) (F0 : FT) (R0 : RT) (J0 : JT) (a1 a2 : Int32) (I : INV F R J P B F0 R0 J0) : qW_oath F R J P B a1 a2 (fun r F R J P B => qM_oath F0 R0 J0 a1 a2 (fun r0 F0 R0 J0 => r = r0 ∧ INV F R J P B F0 R0 J0)) := by
  obtain ⟨x, b, h, p, A, H, M⟩ := id I.1
  have a1' := A.1
  have e9 : F 109 = nI (x 9) := H.n 9 (by decide)
  have g11 : R0 0 11 = nI (x 9) := M.1.1 9 (by decide) (by decide)
  unfold qW_oath
  rcases rg a1 0 3 with hr | ⟨j, h1, h2, rfl⟩
  · exact wi_n hr ⟨fun _ => mi_n hr ⟨fun _ => ⟨rfl, I⟩, fun c => absurd rfl c⟩, fun c => absurd rfl c⟩
  have tj : (nI j).toInt = j := t_n (by omega)
  have w1 : ((0 : Int32)).toInt ≤ (nI j).toInt := by rw [tj]; exact Int.ofNat_le.mpr h1
  have w2 : (nI j).toInt ≤ ((3 : Int32)).toInt := by rw [tj]; exact Int.ofNat_le.mpr h2
  refine wi_y w1 w2 ⟨fun c => absurd c (by decide), fun _ => ?_⟩
  rcases rg a2 0 1 with hr | ⟨i, i1, i2, rfl⟩
  · exact wi_n hr ⟨fun c => absurd rfl c, fun _ => mi_y w1 w2 ⟨fun c => absurd c (by decide), fun _ => mi_n hr ⟨fun c => absurd rfl c, fun _ => ⟨rfl, I⟩⟩⟩⟩
  have ti : (nI i).toInt = i := t_n (by omega)
  have v1 : ((0 : Int32)).toInt ≤ (nI i).toInt := by rw [ti]; exact Int.ofNat_le.mpr i1
  have v2 : (nI i).toInt ≤ ((1 : Int32)).toInt := by rw [ti]; exact Int.ofNat_le.mpr i2
  refine wi_y v1 v2 ⟨fun _ => mi_y w1 w2 ⟨fun c => absurd c (by decide), fun _ => mi_y v1 v2 ⟨fun _ => ?_, fun c => absurd c (by decide)⟩⟩, fun c => absurd c (by decide)⟩
  have key : ∀ v, v < 16 → INV (upd F 109 (nI v)) R J P B F0 (va_up R0 0 (upd (R0 0) 11 (nI v))) J0 := by
    intro v hv
    refine I.num H M 9 v (by omega) (by omega) (A.num 9 v (by omega) (by decide) ?_)
    simp only [va_up]; simp; omega
  rcases (show i = 0 ∨ i = 1 by omega) with rfl | rfl
  · obtain ⟨q1, q2, q3⟩ := sw_0 (x 9) (by omega) j (by omega)
    refine ⟨fun _ => ⟨by rw [e9, g11], ?_⟩, fun c => absurd c (by decide)⟩
    rw [e9, g11, q2, q1]
    exact key _ q3
  · obtain ⟨q1, q2, q3⟩ := sw_1 (x 9) (by omega) j (by omega)
    refine ⟨fun c => absurd rfl c, fun _ => ⟨by rw [e9, g11], ?_⟩⟩
    rw [e9, g11, q2, q1]
    exact key _ q3
theorem T_count (F : FT) (R : RT) (J : JT) (P : PT) (B : BT) (F0 : FT) (R0 : RT) (J0 : JT) (a1 : Int32) (I : INV F R J P B F0 R0 J0) : qW_count F R J P B a1 (fun r F R J P B => qM_count F0 R0 J0 a1 (fun r0 F0 R0 J0 => r = r0 ∧ INV F R J P B F0 R0 J0)) := by
  obtain ⟨x, b, h, p, A, H, M⟩ := id I.1
  have mk : ∀ j, j ≤ 11 → ∀ K : Int32 → FT → RT → JT → Prop, K (R0 0 j) F0 R0 J0 → qM_count F0 R0 J0 (nI j) K := by
    intro j hj K k
    have tj : (nI j).toInt = j := t_n (by omega)
    refine mi_y (by rw [tj]; exact Int.ofNat_le.mpr (Nat.zero_le _)) (by rw [tj]; exact Int.ofNat_le.mpr hj) ⟨fun c => absurd c (by decide), fun _ => ⟨vp_in_nI (by omega) (by omega), ?_⟩⟩
    rw [nI_clamp (by omega)]; exact k
  refine ⟨fun c => ?_, fun c => ?_, fun c => ?_, fun c => ?_, fun c => ?_, fun c => ?_, fun c => ?_, fun c => ?_, fun c => ?_, fun c => ?_, fun c => ?_, fun c => ?_, fun c => ?_, fun c0 c1 c2 c3 c4 c5 c6 c7 c8 c9 c10 c11 c12 => ?_⟩
  · subst c; exact mk 0 (by omega) _ ⟨by rw [show F 111 = nI (x 11) from H.n 11 (by decide), M.1.2.1], I⟩
  · subst c; exact mk 1 (by omega) _ ⟨by rw [show F 112 = nI (x 12) from H.n 12 (by decide), M.1.2.2.1], I⟩
  · subst c; exact mk 2 (by omega) _ ⟨by rw [show F 100 = nI (x 0) from H.n 0 (by decide)]; exact (M.1.1 0 (by decide) (by decide)).symm, I⟩
  · subst c; exact mk 3 (by omega) _ ⟨by rw [show F 101 = nI (x 1) from H.n 1 (by decide)]; exact (M.1.1 1 (by decide) (by decide)).symm, I⟩
  · subst c; exact mk 4 (by omega) _ ⟨by rw [show F 102 = nI (x 2) from H.n 2 (by decide)]; exact (M.1.1 2 (by decide) (by decide)).symm, I⟩
  · subst c; exact mk 5 (by omega) _ ⟨by rw [show F 103 = nI (x 3) from H.n 3 (by decide)]; exact (M.1.1 3 (by decide) (by decide)).symm, I⟩
  · subst c; exact mk 6 (by omega) _ ⟨by rw [show F 104 = nI (x 4) from H.n 4 (by decide)]; exact (M.1.1 4 (by decide) (by decide)).symm, I⟩
  · subst c; exact mk 7 (by omega) _ ⟨by rw [show F 105 = nI (x 5) from H.n 5 (by decide)]; exact (M.1.1 5 (by decide) (by decide)).symm, I⟩
  · subst c; exact mk 8 (by omega) _ ⟨by rw [show F 106 = nI (x 6) from H.n 6 (by decide)]; exact (M.1.1 6 (by decide) (by decide)).symm, I⟩
  · subst c; exact C_costToday A H (mk 9 (by omega) _ ⟨M.1.2.2.2.symm, I⟩)
  · subst c; exact mk 10 (by omega) _ ⟨by rw [show F 108 = nI (x 8) from H.n 8 (by decide)]; exact (M.1.1 8 (by decide) (by decide)).symm, I⟩
  · subst c; exact mk 11 (by omega) _ ⟨by rw [show F 109 = nI (x 9) from H.n 9 (by decide)]; exact (M.1.1 9 (by decide) (by decide)).symm, I⟩
  · subst c
    exact mi_n (Or.inr (by decide)) ⟨fun _ => ⟨fun c => absurd rfl c, fun _ => ⟨by rw [show F 113 = nI (x 13) from H.n 13 (by decide), M.2.2.2.1], I⟩⟩, fun c => absurd rfl c⟩
  · have hr : a1.toInt < 0 ∨ 11 < a1.toInt := by
      rcases rg a1 0 11 with hr | ⟨j, -, hj, rfl⟩
      · exact hr
      · exfalso
        rcases (show j = 0 ∨ j = 1 ∨ j = 2 ∨ j = 3 ∨ j = 4 ∨ j = 5 ∨ j = 6 ∨ j = 7 ∨ j = 8 ∨ j = 9 ∨ j = 10 ∨ j = 11 by omega) with rfl | rfl | rfl | rfl | rfl | rfl | rfl | rfl | rfl | rfl | rfl | rfl <;> first | exact c0 rfl | exact c1 rfl | exact c2 rfl | exact c3 rfl | exact c4 rfl | exact c5 rfl | exact c6 rfl | exact c7 rfl | exact c8 rfl | exact c9 rfl | exact c10 rfl | exact c11 rfl
    exact mi_n hr ⟨fun _ => ⟨fun _ => ⟨rfl, I⟩, fun c => absurd c c12⟩, fun c => absurd rfl c⟩
theorem cst_cg (h h' : Nat → Nat → Nat) : ∀ n s, (∀ k, k < n → h' k 0 = h k 0) → cst h' n s = cst h n s := by
  intro n s
  induction n with
  | zero => intro _; rfl
  | succ n ih => intro hh; simp only [cst, ih (fun k hk => hh k (by omega)), hh n (by omega)]
/-- a set without the last one costs what it cost -/
theorem cst_top (h : Nat → Nat → Nat) {n s : Nat} (hs : s < 2 ^ n) : cst h (n + 1) s = cst h n s := by
  simp only [cst]
  rw [Nat.testBit_lt_two_pow hs]
  simp
/-- a hindrance more, and nothing to be undone: both sides -/
theorem INV.hind {F : FT} {R : RT} {J : JT} {P : PT} {B : BT} {F0 : FT} {R0 : RT} {J0 : JT} (I : INV F R J P B F0 R0 J0) {x : Nat → Nat} {b h p : Nat → Nat → Nat} (A : AOK x b h p) (H : CS 100 x b h p F R P B) (M : MS x b h p (R0 0) (R0 8) (F0 9)) (n cv ov : Nat) (hn : n = x 12) (h6 : n < 6) (hc : 1 ≤ cv ∧ cv ≤ 9) (ho : ov ≤ 4) : INV (upd (upd F 112 (nI (n + 1))) 113 0) (va_up (va_up R 115 (upd (R 115) n (nI cv))) 116 (upd (R 116) n (oaV ov))) J P B (upd F0 9 0) (va_up R0 0 (upd (upd (upd (R0 0) (25 + 2 * n) (nI cv)) (26 + 2 * n) (oaV ov)) 1 (nI (n + 1)))) J0 := by
  subst hn
  have a7 : x 7 < 2 ^ x 12 := A.1.2.2.2.2.2.2.2.2.1
  refine I.cg ⟨va_up (va_up x 12 (x 12 + 1)) 13 0, b, va_up h (x 12) (fun t => if t = 0 then cv else ov), p, ?_, ?_, ?_⟩ (fun j hj => by rw [upd_ne (by omega), upd_ne (by omega)]) (fun j hj => by rw [vu_ne (by omega), vu_ne (by omega)]) rfl (fun z hz => hz) (fun j hj => upd_ne (by omega)) (fun j hj => vu_ne (by omega))
  · obtain ⟨a1, a2, a3, a4, a5, a6, a7⟩ := A
    have hp : 2 ^ x 12 ≤ 2 ^ (x 12 + 1) := Nat.pow_le_pow_right (by omega) (by omega)
    refine ⟨?_, ?_, ?_, ?_, ?_, a6, fun i k hi => absurd hi (Nat.not_lt_zero i)⟩
    · simp only [va_up]; simp; omega
    · simp only [va_up]; simp; exact a2
    · intro k hk
      have hk : k < x 12 + 1 := hk
      by_cases e : k = x 12
      · subst e; rw [vu_eq]; simp; omega
      · rw [vu_ne e]; exact a3 k (by omega)
    · intro i hi; exact absurd hi (Nat.not_lt_zero i)
    · intro i j _ hj; exact absurd hj (Nat.not_lt_zero j)
  · obtain ⟨c1, c2, c3, c4, c5⟩ := H
    refine ⟨fun k hk => ?_, fun k hk => ?_, c3, fun k hk => ?_, fun i j hi => absurd hi (Nat.not_lt_zero i)⟩
    · by_cases e : k = 13
      · subst e; rw [vu_eq]; exact upd_eq
      · rw [vu_ne e, upd_ne (by omega)]
        by_cases e2 : k = 12
        · subst e2; rw [vu_eq]; exact upd_eq
        · rw [vu_ne e2, upd_ne (by omega)]; exact c1 k hk
    · exact c2 k (by simpa [va_up] using hk)
    · have hk : k < x 12 + 1 := hk
      have r15 : va_up (va_up R 115 (upd (R 115) (x 12) (nI cv))) 116 (upd (R 116) (x 12) (oaV ov)) (100 + 15) = upd (R 115) (x 12) (nI cv) := by rw [vu_ne (by decide)]; exact vu_eq
      have r16 : va_up (va_up R 115 (upd (R 115) (x 12) (nI cv))) 116 (upd (R 116) (x 12) (oaV ov)) (100 + 16) = upd (R 116) (x 12) (oaV ov) := vu_eq
      rw [r15, r16]
      by_cases e : k = x 12
      · subst e; rw [vu_eq, upd_eq, upd_eq]; exact ⟨rfl, rfl⟩
      · rw [vu_ne e, upd_ne e, upd_ne e]; exact c4 k (by omega)
  · obtain ⟨⟨m1, m1a, m1b, m1c⟩, m2, m3, m4, m5⟩ := M
    have x11 : va_up (va_up x 12 (x 12 + 1)) 13 0 11 = x 11 := rfl
    have x12 : va_up (va_up x 12 (x 12 + 1)) 13 0 12 = x 12 + 1 := rfl
    have x7 : va_up (va_up x 12 (x 12 + 1)) 13 0 7 = x 7 := rfl
    have x13 : va_up (va_up x 12 (x 12 + 1)) 13 0 13 = 0 := rfl
    rw [vu_eq, vu_ne (by decide), upd_eq]
    refine ⟨⟨fun j hj hj7 => ?_, ?_, ?_, ?_⟩, fun j hj => ?_, fun j hj => ?_, rfl, fun i hi => absurd hi (Nat.not_lt_zero i)⟩
    · rw [upd_ne (by omega), upd_ne (by omega), upd_ne (by omega), vu_ne (by omega), vu_ne (by omega)]; exact m1 j hj hj7
    · rw [upd_ne (by omega), upd_ne (by omega), upd_ne (by omega), x11]; exact m1a
    · rw [upd_eq, x12]
    · rw [upd_ne (by omega), upd_ne (by omega), upd_ne (by omega), x12, x7, cst_top _ a7, cst_cg h _ (x 12) (x 7) (fun k hk => by rw [vu_ne (by omega)])]; exact m1c
    · rw [x11] at hj
      have hb4 : x 11 ≤ 4 := A.1.2.2.2.2.2.2.2.2.2.2.2.2.1
      rw [upd_ne (by omega), upd_ne (by omega), upd_ne (by omega), upd_ne (by omega), upd_ne (by omega), upd_ne (by omega), upd_ne (by omega), upd_ne (by omega), upd_ne (by omega)]
      exact m2 j hj
    · rw [x12] at hj
      by_cases e : j = x 12
      · subst e
        rw [vu_eq, upd_ne (by omega), upd_ne (by omega), upd_eq, upd_ne (by omega), upd_eq]
        exact ⟨rfl, rfl⟩
      · rw [vu_ne e, upd_ne (by omega), upd_ne (by omega), upd_ne (by omega), upd_ne (by omega), upd_ne (by omega), upd_ne (by omega)]
        exact m3 j (by omega)
theorem Kmono_addH {F : FT} {R : RT} {J : JT} {P : PT} {B : BT} {a c : Int32} {K K' : FT → RT → JT → PT → BT → Prop} (h : qS_addHindrance F R J P B a c K) (m : ∀ F R J P B, K F R J P B → K' F R J P B) : qS_addHindrance F R J P B a c K' := ⟨fun d => m _ _ _ _ _ (h.1 d), fun d => ⟨(h.2 d).1, (h.2 d).2.1, m _ _ _ _ _ (h.2 d).2.2⟩⟩
theorem T_hind1 {F : FT} {R : RT} {J : JT} {P : PT} {B : BT} {F0 : FT} {R0 : RT} {J0 : JT} (I : INV F R J P B F0 R0 J0) (cv ov : Nat) (hc : 1 ≤ cv ∧ cv ≤ 9) (ho : ov ≤ 4) (K : Int32 → FT → RT → JT → PT → BT → Int32 → FT → RT → JT → Prop) (hK : ∀ r F R J P B F0 R0 J0, INV F R J P B F0 R0 J0 → K r F R J P B r F0 R0 J0) : qW_hindrance_27 F R J P B (nI cv) (oaV ov) (fun r F R J P B => qM_hindrance_32 F0 R0 J0 (nI cv) (oaV ov) (K r F R J P B)) := by
  obtain ⟨x, b, h, p, A, H, M⟩ := id I.1
  have a1' := A.1
  have e12 : F 112 = nI (x 12) := H.n 12 (by decide)
  have g1 : R0 0 1 = nI (x 12) := M.1.2.2.1
  unfold qW_hindrance_27
  refine ⟨fun c => ?_, fun c => ?_⟩
  · rw [e12] at c
    have c : x 12 < 6 := (n_lt (a := x 12) (b := 6) (by omega) (by omega)).mp c
    refine ⟨fun d => ?_, fun _ => ⟨by rw [e12]; exact vp_in_nI (by omega) (by omega), by rw [e12]; exact vp_in_nI (by omega) (by omega), ?_⟩⟩
    · rw [e12] at d
      have := (n_le (a := 6) (b := x 12) (by omega) (by omega)).mp d
      omega
    · refine ⟨fun _ => ?_, fun d => ?_⟩
      · have i25 : (25 : Int32) + (2 : Int32) * R0 0 1 = nI (25 + 2 * x 12) := by rw [g1]; exact (congrArg (fun z => nI 25 + z) (pk_mul 2 (x 12))).trans (nI_add 25 (2 * x 12))
        have i26 : ((25 : Int32) + (2 : Int32) * (upd (R0 0) (25 + 2 * x 12) (nI cv) 1)) + 1 = nI (26 + 2 * x 12) := by
          rw [upd_ne (by omega), i25, nI_1]
          exact congrArg nI (by omega)
        rw [i25, nI_clamp (n := 25 + 2 * x 12) (by omega), i26, nI_clamp (n := 26 + 2 * x 12) (by omega)]
        refine ⟨vp_in_nI (by omega) (by omega), vp_in_nI (by omega) (by omega), ?_⟩
        rw [e12, nI_clamp (n := x 12) (by omega), upd_eq, nI_1]
        have eu : upd (upd (R0 0) (25 + 2 * x 12) (nI cv)) (26 + 2 * x 12) (oaV ov) 1 = nI (x 12) := by rw [upd_ne (by omega), upd_ne (by omega)]; exact g1
        rw [eu, nI_1, upd_eq]
        have er : ∀ (a b c : Nat → Int32), va_up (va_up (va_up R0 0 a) 0 b) 0 c = va_up R0 0 c := fun a b c => by funext j; simp only [va_up]; split <;> rfl
        rw [er]
        exact hK _ _ _ _ _ _ _ _ _ (I.hind A H M (x 12) cv ov rfl c hc ho)
      · rw [g1] at d
        have := (n_eq (a := x 12) (b := 6) (by omega) (by omega)).mp d
        omega
  · rw [e12] at c
    have c : ¬ x 12 < 6 := fun d => c ((n_lt (a := x 12) (b := 6) (by omega) (by omega)).mpr d)
    refine ⟨fun d => absurd ?_ d, fun _ => hK _ _ _ _ _ _ _ _ _ I⟩
    rw [g1]
    exact congrArg nI (show x 12 = 6 by omega)
theorem T_hindrance (F : FT) (R : RT) (J : JT) (P : PT) (B : BT) (F0 : FT) (R0 : RT) (J0 : JT) (a1 a2 : Int32) (I : INV F R J P B F0 R0 J0) : qW_hindrance F R J P B a1 a2 (fun r F R J P B => qM_hindrance F0 R0 J0 a1 a2 (fun r0 F0 R0 J0 => r = r0 ∧ INV F R J P B F0 R0 J0)) := by
  unfold qW_hindrance
  rcases rg a1 1 9 with hr | ⟨cv, h1, h2, rfl⟩
  · exact wi_n hr ⟨fun _ => mi_n hr ⟨fun _ => ⟨rfl, I⟩, fun c => absurd rfl c⟩, fun c => absurd rfl c⟩
  have tj : (nI cv).toInt = cv := t_n (by omega)
  have w1 : ((1 : Int32)).toInt ≤ (nI cv).toInt := by rw [tj]; exact Int.ofNat_le.mpr h1
  have w2 : (nI cv).toInt ≤ ((9 : Int32)).toInt := by rw [tj]; exact Int.ofNat_le.mpr h2
  refine wi_y w1 w2 ⟨fun c => absurd c (by decide), fun _ => ?_⟩
  have sw : ∀ (a2 : Int32) (ov : Nat), ov ≤ 4 → a2 = oaV ov → qW_hindrance_27 F R J P B (nI cv) a2 (fun r F R J P B => qM_hindrance_32 F0 R0 J0 (nI cv) a2 (fun r0 F0 R0 J0 => r = r0 ∧ INV F R J P B F0 R0 J0)) := by
    intro a2 ov ho e
    subst e
    exact T_hind1 I cv ov ⟨h1, h2⟩ ho (fun r F R J P B r0 F0 R0 J0 => r = r0 ∧ INV F R J P B F0 R0 J0) (fun _ _ _ _ _ _ _ _ _ hI => ⟨rfl, hI⟩)
  refine ⟨fun c => ?_, fun c => ?_⟩
  · subst c
    have q := sw (-4) 4 (by omega) rfl
    unfold qM_hindrance
    have mm : ∀ K : Int32 → FT → RT → JT → Prop, qM_hindrance_32 F0 R0 J0 (nI cv) (-4) K → qM_in F0 R0 J0 (nI cv).toInt64 (1 : Int64) (9 : Int64) (fun r1 F1 R1 J1 => (r1 = 0 → (K (-1 : Int32) F1 R1 J1)) ∧ (¬ r1 = 0 → (((-4 : Int32) = (-4 : Int32) → (qM_hindrance_32 F1 R1 J1 (nI cv) (-4) K)) ∧ (¬ (-4 : Int32) = (-4 : Int32) → (qM_in F1 R1 J1 (-4 : Int32).toInt64 (0 : Int64) (3 : Int64) (fun r4 F4 R4 J4 => (¬ r4 = 0 → (qM_hindrance_32 F4 R4 J4 (nI cv) (-4) K)) ∧ (r4 = 0 → (K (-1 : Int32) F4 R4 J4)))))))) := fun K k => mi_y w1 w2 ⟨fun c => absurd c (by decide), fun _ => ⟨fun _ => k, fun c => absurd rfl c⟩⟩
    exact ⟨fun d => by obtain ⟨q1, q2⟩ := q; exact Kmono_addH (q1 d) (fun F R J P B k => mm _ k), fun d => mm _ (q.2 d)⟩
  · rcases rg a2 0 3 with hr | ⟨ov, -, h4, rfl⟩
    · exact wi_n hr ⟨fun c => absurd rfl c, fun _ => mi_y w1 w2 ⟨fun c => absurd c (by decide), fun _ => ⟨fun d => absurd d c, fun _ => mi_n hr ⟨fun c => absurd rfl c, fun _ => ⟨rfl, I⟩⟩⟩⟩⟩
    · have to : (nI ov).toInt = ov := t_n (by omega)
      have v1 : ((0 : Int32)).toInt ≤ (nI ov).toInt := by rw [to]; exact Int.ofNat_le.mpr (Nat.zero_le _)
      have v2 : (nI ov).toInt ≤ ((3 : Int32)).toInt := by rw [to]; exact Int.ofNat_le.mpr h4
      have q := sw (nI ov) ov (by omega) (by rw [oaV, if_neg (by omega)])
      refine wi_y v1 v2 ⟨fun _ => ?_, fun c => absurd c (by decide)⟩
      have mm : ∀ K : Int32 → FT → RT → JT → Prop, qM_hindrance_32 F0 R0 J0 (nI cv) (nI ov) K → qM_hindrance F0 R0 J0 (nI cv) (nI ov) K := fun K k => mi_y w1 w2 ⟨fun c => absurd c (by decide), fun _ => ⟨fun d => absurd d c, fun _ => mi_y v1 v2 ⟨fun _ => k, fun c => absurd c (by decide)⟩⟩⟩
      exact ⟨fun d => Kmono_addH (q.1 d) (fun F R J P B k => mm _ k), fun d => mm _ (q.2 d)⟩
