/-! ===== the pure part: drift, soonest ===== -/
theorem drw_n (z : Int64) : ∃ v : Nat, v < 2 ^ 31 ∧ (z &&& 2147483647).toInt32 = nI v := by
  refine ⟨z.toBitVec.toNat % 2 ^ 31, Nat.mod_lt _ (by omega), ?_⟩
  apply Int32.toBitVec_inj.mp
  apply BitVec.eq_of_toNat_eq
  rw [pk_tn (Nat.lt_of_lt_of_le (Nat.mod_lt _ (by omega)) (by omega))]
  have h1 : ((z &&& 2147483647).toInt32).toBitVec = (z &&& 2147483647).toBitVec.setWidth 32 := by rw [Int64.toBitVec_toInt32, BitVec.signExtend_eq_setWidth_of_le _ (by omega)]
  rw [h1, BitVec.toNat_setWidth, Int64.toBitVec_and, BitVec.toNat_and]
  have h2 : (2147483647 : Int64).toBitVec.toNat = 2 ^ 31 - 1 := by decide
  rw [h2, Nat.and_two_pow_sub_one_eq_mod]
  exact Nat.mod_eq_of_lt (Nat.lt_of_lt_of_le (Nat.mod_lt _ (by omega)) (by omega))
/-- the next draw -/
def drwE (d : Int32) : Int32 := (((d.toInt64 * (1103515245 : Int64)) + (12345 : Int64)) &&& (2147483647 : Int64)).toInt32
def drw (d : Nat) : Nat := (drwE (nI d)).toNatClampNeg
theorem drw_e (d : Nat) : drwE (nI d) = nI (drw d) ∧ drw d < 2 ^ 31 := by
  obtain ⟨v, hv, e⟩ := drw_n ((nI d).toInt64 * (1103515245 : Int64) + (12345 : Int64))
  have e : drwE (nI d) = nI v := e
  have q : drw d = v := by unfold drw; rw [e, nI_clamp hv]
  rw [q]; exact ⟨e, hv⟩
/-- the weather of a draw -/
def wthN (d fr th : Nat) : Nat := if d / 65536 % 10 < fr then 1 else if d / 65536 % 10 < fr + th then 2 else 0
theorem wthN_le {d fr th : Nat} : wthN d fr th ≤ 2 := by unfold wthN; split <;> (try split) <;> omega
theorem lot_n {d : Nat} (hd : d < 2 ^ 31) : (nI d / (65536 : Int32)) - (nI d / (65536 : Int32)) / (10 : Int32) * (10 : Int32) = nI (d / 65536 % 10) := by
  have e : nI d / (65536 : Int32) = nI (d / 65536) := pk_div (d := 65536) hd (by omega) (by omega)
  rw [e]
  exact pk_rem (a := d / 65536) (d := 10) (by omega) (by omega) (by omega)
/-- a day of drift: remembered, drawn, gone by -/
def dx2 (x : Nat → Nat) : Nat → Nat := va_up (numN x) 10 (drw (x 10))
def dx3 (x : Nat → Nat) (b h : Nat → Nat → Nat) : Nat → Nat := passN (dx2 x) b h (wthN (drw (x 10)) (x 2) (x 3))
/-- so many days of drift at most: the sum, the numbers, the past -/
def drf (b h : Nat → Nat → Nat) : Nat → (Nat → Nat) → (Nat → Nat → Nat) → Nat → Nat × (Nat → Nat) × (Nat → Nat → Nat)
  | 0, x, p, s => (s, x, p)
  | m + 1, x, p, s => if x 4 < x 1 then drf b h m (dx3 x b h) (pastN x p) (s + (dx3 x b h 5 - x 5)) else (s, x, p)
theorem AOK.dx2 {x : Nat → Nat} {b h p : Nat → Nat → Nat} (A : AOK x b h p) : AOK (dx2 x) b h (pastN x p) := by
  refine A.past.num 10 (drw (x 10)) (by omega) (by decide) ?_
  have a1 := A.1
  have hd := (drw_e (x 10)).2
  have n13 : ∀ k, k ≠ 13 → numN x k = x k := fun k hk => vu_ne hk
  have v : ∀ k, k ≠ 10 → va_up (numN x) 10 (drw (x 10)) k = numN x k := fun k hk => vu_ne hk
  rw [v 0 (by decide), v 1 (by decide), v 2 (by decide), v 3 (by decide), v 4 (by decide), v 5 (by decide), v 6 (by decide), v 7 (by decide), v 8 (by decide), v 9 (by decide), vu_eq, n13 0 (by decide), n13 1 (by decide), n13 2 (by decide), n13 3 (by decide), n13 4 (by decide), n13 5 (by decide), n13 6 (by decide), n13 7 (by decide), n13 8 (by decide), n13 9 (by decide), n13 12 (by decide)]
  omega
theorem AOK.dx3 {x : Nat → Nat} {b h p : Nat → Nat → Nat} (A : AOK x b h p) (hs : x 4 < x 1) : AOK (dx3 x b h) b h (pastN x p) := A.dx2.pass _ hs
theorem drf_ok {b h : Nat → Nat → Nat} : ∀ m x p s, AOK x b h p → AOK (drf b h m x p s).2.1 b h (drf b h m x p s).2.2 := by
  intro m
  induction m with
  | zero => intro x p s A; exact A
  | succ m ih =>
    intro x p s A
    unfold drf
    by_cases hs : x 4 < x 1
    · rw [if_pos hs]; exact ih _ _ _ (A.dx3 hs)
    · rw [if_neg hs]; exact A
theorem C_draw {x : Nat → Nat} {b h p : Nat → Nat → Nat} {F : FT} {R : RT} {J : JT} {P : PT} {B : BT} (A : AOK x b h p) (H : CS 100 x b h p F R P B) {K : Int32 → FT → RT → JT → PT → BT → Prop} (hK : ∀ F', CS 100 (va_up x 10 (drw (x 10))) b h p F' R P B → (∀ k, k ≠ 110 → F' k = F k) → K (nI (wthN (drw (x 10)) (x 2) (x 3))) F' R J P B) : qS_drawWeather F R J P B K := by
  have a1 := A.1
  obtain ⟨d1, d2⟩ := drw_e (x 10)
  have e10 : F 110 = nI (x 10) := H.n 10 (by decide)
  have e2 : F 102 = nI (x 2) := H.n 2 (by decide)
  have e3 : F 103 = nI (x 3) := H.n 3 (by decide)
  have d1 : (((F 110).toInt64 * (1103515245 : Int64)) + (12345 : Int64) &&& (2147483647 : Int64)).toInt32 = nI (drw (x 10)) := by rw [e10]; exact d1
  have fin : ∀ w, w = wthN (drw (x 10)) (x 2) (x 3) → K (nI w) (upd F 110 (nI (drw (x 10)))) R J P B := by
    intro w hw
    subst hw
    refine hK _ (H.num (fun k hk => ?_) (vu_ne (by decide)) (vu_ne (by decide)) (Nat.le_refl _)) (fun k hk => upd_ne hk)
    by_cases k10 : k = 10
    · subst k10; rw [vu_eq]; exact upd_eq
    · rw [vu_ne k10, upd_ne (by omega)]; exact H.n k hk
  unfold qS_drawWeather
  rw [d1, lot_n d2, e2, e3, nI_add]
  unfold wthN at fin
  refine ⟨fun c => ⟨fun c2 => fin 0 ?_, fun c2 => fin 2 ?_⟩, fun c => fin 1 ?_⟩
  · have c := (n_le (by omega) (by omega)).mp c
    have c2 := (n_le (by omega) (by omega)).mp c2
    rw [if_neg (by omega), if_neg (by omega)]
  · have c := (n_le (by omega) (by omega)).mp c
    have c2 : ¬ x 2 + x 3 ≤ drw (x 10) / 65536 % 10 := fun e => c2 ((n_le (by omega) (by omega)).mpr e)
    rw [if_neg (by omega), if_pos (by omega)]
  · have c : ¬ x 2 ≤ drw (x 10) / 65536 % 10 := fun e => c ((n_le (by omega) (by omega)).mpr e)
    rw [if_pos (by omega)]
theorem C_drift_loop {b h : Nat → Nat → Nat} {J : JT} {P : PT} {B : BT} {N : Nat} (hN : N ≤ 40) {K : Int32 → FT → RT → JT → PT → BT → Prop} : ∀ m k x p s F R, k + m = N → s + 200 * m < 2 ^ 30 → AOK x b h p → CS 100 x b h p F R P B → (∀ F' R', CS 100 (drf b h m x p s).2.1 b h (drf b h m x p s).2.2 F' R' P B → (∀ k, ¬ (100 ≤ k ∧ k < 114) → F' k = F k) → (∀ k, k ≠ 117 → R' k = R k) → K (nI (drf b h m x p s).1) F' R' J P B) → qW_drift_29 (m + 1) F R J P B (nI N) (nI s) (nI k) K := by
  intro m
  induction m with
  | zero =>
    intro k x p s F R hk _ A H hK
    unfold qW_drift_29
    refine ⟨fun _ => hK F R H (fun _ _ => rfl) (fun _ _ => rfl), fun c => absurd ((n_le (by omega) (by omega)).mpr (by omega)) c⟩
  | succ m ih =>
    intro k x p s F R hk hsm A H hK
    have a1 := A.1
    unfold qW_drift_29
    refine ⟨fun c => ?_, fun _ => C_summer A H ?_⟩
    · have := (n_le (by omega) (by omega)).mp c; omega
    by_cases hs : x 4 < x 1
    · rw [if_pos hs]
      have A2 := A.dx2
      have A3 := A.dx3 hs
      have l5 : x 5 ≤ dx3 x b h 5 ∧ dx3 x b h 5 ≤ x 0 := bhN_ge (st := x 0) (by omega)
      have e : drf b h (m + 1) x p s = drf b h m (dx3 x b h) (pastN x p) (s + (dx3 x b h 5 - x 5)) := by simp only [drf, if_pos hs]
      rw [e] at hK
      refine ⟨fun c => absurd rfl c, fun _ => C_remember A H (fun F4 R4 H4 f4 r4 => C_draw A.past H4 (fun F5 H5 f5 => C_pass (x := dx2 x) A2 H5 wthN_le (fun F6 H6 f6 => ?_)))⟩
      rw [nI_1]
      have es : nI s + nI (lbN (dx2 x) b h (wthN (drw (numN x 10)) (numN x 2) (numN x 3)) - dx2 x 5) = nI (s + (dx3 x b h 5 - x 5)) := nI_add _ _
      rw [es]
      refine ih (k + 1) _ _ _ F6 R4 (by omega) (by omega) A3 H6 (fun F' R' H' f' r' => hK F' R' H' (fun k hk => ?_) (fun k hk => by rw [r' k hk, r4 k hk]))
      rw [f' k hk, f6 k (by omega) (by omega) (by omega), f5 k (by omega), f4 k (by omega)]
    · rw [if_neg hs]
      refine ⟨fun _ => ?_, fun c => absurd c (by decide)⟩
      have e : drf b h (m + 1) x p s = (s, x, p) := by simp only [drf, if_neg hs]
      rw [e] at hK
      exact hK F R H (fun _ _ => rfl) (fun _ _ => rfl)
theorem wth_ch {d fr th : Nat} (hd : d < 2 ^ 31) (hft : fr + th ≤ 10) {Q : Int32 → Prop} (h : Q (nI (wthN d fr th))) : (nI fr ≤ (nI d / (65536 : Int32)) - (nI d / (65536 : Int32)) / (10 : Int32) * (10 : Int32) → ((nI fr + nI th ≤ (nI d / (65536 : Int32)) - (nI d / (65536 : Int32)) / (10 : Int32) * (10 : Int32) → Q 0) ∧ (¬ nI fr + nI th ≤ (nI d / (65536 : Int32)) - (nI d / (65536 : Int32)) / (10 : Int32) * (10 : Int32) → Q 2))) ∧ (¬ nI fr ≤ (nI d / (65536 : Int32)) - (nI d / (65536 : Int32)) / (10 : Int32) * (10 : Int32) → Q 1) := by
  rw [lot_n hd, nI_add]
  unfold wthN at h
  have ht : d / 65536 % 10 < 10 := Nat.mod_lt _ (by omega)
  generalize d / 65536 % 10 = t at h ht ⊢
  · refine ⟨fun c => ⟨fun c2 => ?_, fun c2 => ?_⟩, fun c => ?_⟩
    · have c := (n_le (by omega) (by omega)).mp c
      have c2 := (n_le (by omega) (by omega)).mp c2
      rw [if_neg (by omega), if_neg (by omega)] at h; exact h
    · have c := (n_le (by omega) (by omega)).mp c
      have c2 : ¬ fr + th ≤ t := fun e => c2 ((n_le (by omega) (by omega)).mpr e)
      rw [if_neg (by omega), if_pos (by omega)] at h; exact h
    · have c : ¬ fr ≤ t := fun e => c ((n_le (by omega) (by omega)).mpr e)
      rw [if_pos (by omega)] at h; exact h
theorem MS.dr {x : Nat → Nat} {b h p : Nat → Nat → Nat} {n u : Nat → Int32} {nu : Int32} (M : MS x b h p n u nu) (h11 : x 11 ≤ 4) (d : Nat) : MS (va_up x 10 d) b h p (upd n 12 (nI d)) u nu := by
  obtain ⟨⟨m1, m1a, m1b, m1c⟩, m2, m3, m4, m5⟩ := M
  have v : ∀ k, k ≠ 10 → va_up x 10 d k = x k := fun k hk => vu_ne hk
  refine ⟨⟨fun j hj hj7 => ?_, ?_, ?_, ?_⟩, fun j hj => ?_, fun j hj => ?_, ?_, fun i hi => ?_⟩
  · by_cases j10 : j = 10
    · subst j10; rw [vu_eq]; exact upd_eq
    · rw [upd_ne (by omega), v j j10]; exact m1 j hj hj7
  · rw [upd_ne (by decide), v 11 (by decide)]; exact m1a
  · rw [upd_ne (by decide), v 12 (by decide)]; exact m1b
  · rw [upd_ne (by decide), v 12 (by decide), v 7 (by decide)]; exact m1c
  · rw [v 11 (by decide)] at hj
    rw [upd_ne (by omega), upd_ne (by omega), upd_ne (by omega)]; exact m2 j hj
  · rw [v 12 (by decide)] at hj
    rw [upd_ne (by omega), upd_ne (by omega)]; exact m3 j hj
  · rw [v 13 (by decide)]; exact m4
  · rw [v 13 (by decide)] at hi; rw [v 12 (by decide)]; exact m5 i hi
theorem M_dtail {y : Nat → Nat} {b h p : Nat → Nat → Nat} {F : FT} {R : RT} {J : JT} {d w : Nat} {v1 v2 v3 : Int32} {k28 : FT → RT → JT → Int32 → Int32 → Int32 → Prop} {K : Int32 → FT → RT → JT → Prop} (A : AOK (va_up y 10 d) b h p) (M : MS y b h p (R 0) (R 8) (F 9)) (hf : F 1 = -1) (hw : w ≤ 2) (h11 : y 11 ≤ 4) (hk : ∀ R6, MS (passN (va_up y 10 d) b h w) b h p (R6 0) (R6 8) (F 9) → (∀ k, k ≠ 0 → R6 k = R k) → k28 F R6 J v1 (v2 + nI (lbN (va_up y 10 d) b h w - va_up y 10 d 5)) (v3 + 1)) : qM_drift_127 k28 F (va_up R 0 (upd (R 0) 12 (nI d))) J v1 v3 (nI w) v2 K := by
  unfold qM_drift_127
  refine M_goesBy A (F := F) (R := va_up R 0 (upd (R 0) 12 (nI d))) ?_ hf hw (fun R6 M6 r6 => hk R6 M6 (fun k hk => by rw [r6 k hk, vu_ne hk]))
  rw [vu_eq, vu_ne (by decide)]
  exact M.dr h11 d
theorem M_drift_loop {b h : Nat → Nat → Nat} {J : JT} {N : Nat} (hN : N ≤ 40) {K : Int32 → FT → RT → JT → Prop} : ∀ m k x p s F R, k + m = N → s + 200 * m < 2 ^ 30 → AOK x b h p → MS x b h p (R 0) (R 8) (F 9) → F 1 = -1 → (∀ F' R', MS (drf b h m x p s).2.1 b h (drf b h m x p s).2.2 (R' 0) (R' 8) (F' 9) → (∀ k, k ≠ 9 → F' k = F k) → (∀ k, k ≠ 0 → k ≠ 8 → R' k = R k) → K (nI (drf b h m x p s).1) F' R' J) → qM_drift_28 (m + 1) F R J (nI N) (nI s) (nI k) K := by
  intro m
  induction m with
  | zero =>
    intro k x p s F R hk _ A M hf hK
    unfold qM_drift_28
    refine ⟨fun _ => hK F R M (fun _ _ => rfl) (fun _ _ _ => rfl), fun c => absurd ((n_le (by omega) (by omega)).mpr (by omega)) c⟩
  | succ m ih =>
    intro k x p s F R hk hsm A M hf hK
    have a1 := A.1
    unfold qM_drift_28
    refine ⟨fun c => ?_, fun _ => M_summer A M ?_⟩
    · have := (n_le (by omega) (by omega)).mp c; omega
    by_cases hs : x 4 < x 1
    · rw [if_pos hs]
      have A2 := A.dx2
      have A3 := A.dx3 hs
      have l5 : x 5 ≤ dx3 x b h 5 ∧ dx3 x b h 5 ≤ x 0 := bhN_ge (st := x 0) (by omega)
      have e : drf b h (m + 1) x p s = drf b h m (dx3 x b h) (pastN x p) (s + (dx3 x b h 5 - x 5)) := by simp only [drf, if_pos hs]
      rw [e] at hK
      refine ⟨fun c => absurd rfl c, fun _ => M_notes A M (fun F4 R4 M4 f4 r4 => ?_)⟩
      obtain ⟨d1, d2⟩ := drw_e (x 10)
      unfold dx3 at A3 hK
      unfold dx2 at A2 A3 hK
      have l5 : x 5 ≤ passN (va_up (numN x) 10 (drw (x 10))) b h (wthN (drw (x 10)) (x 2) (x 3)) 5 ∧ passN (va_up (numN x) 10 (drw (x 10))) b h (wthN (drw (x 10)) (x 2) (x 3)) 5 ≤ x 0 := l5
      unfold drwE at d1
      generalize drw (x 10) = d at *
      have n10 : numN x 10 = x 10 := vu_ne (by decide)
      have n2 : numN x 2 = x 2 := vu_ne (by decide)
      have n3 : numN x 3 = x 3 := vu_ne (by decide)
      have n11 : numN x 11 = x 11 := vu_ne (by decide)
      have n5 : va_up (numN x) 10 d 5 = x 5 := by rw [vu_ne (by decide)]; exact vu_ne (by decide)
      have g12 : R4 0 12 = nI (x 10) := by rw [← n10]; exact M4.1.1 10 (by decide) (by decide)
      have g4 : R4 0 4 = nI (x 2) := by rw [← n2]; exact M4.1.1 2 (by decide) (by decide)
      have g5 : R4 0 5 = nI (x 3) := by rw [← n3]; exact M4.1.1 3 (by decide) (by decide)
      rw [g12, d1, upd_eq, upd_ne (show (4 : Nat) ≠ 12 by decide), upd_ne (show (5 : Nat) ≠ 12 by decide), g4, g5]
      refine wth_ch (Q := fun w => qM_drift_127 (fun F R J v1 v2 v3 => qM_drift_28 (m + 1) F R J v1 v2 v3 K) F4 (va_up R4 0 (upd (R4 0) 12 (nI d))) J (nI N) (nI k) w (nI s) K) d2 (by omega) ?_
      refine M_dtail A2 M4 (by rw [f4 1 (by decide)]; exact hf) wthN_le (by omega) (fun R6 M6 r6 => ?_)
      have es : nI s + nI (lbN (va_up (numN x) 10 d) b h (wthN d (x 2) (x 3)) - va_up (numN x) 10 d 5) = nI (s + (passN (va_up (numN x) 10 d) b h (wthN d (x 2) (x 3)) 5 - x 5)) := by rw [n5]; exact nI_add _ _
      rw [nI_1, es]
      refine ih (k + 1) _ _ _ F4 R6 (by omega) (by omega) A3 M6 (by rw [f4 1 (by decide)]; exact hf) (fun F' R' M' f' r' => hK F' R' M' (fun k hk => by rw [f' k hk, f4 k hk]) (fun k h0 h8 => by rw [r' k h0 h8, r6 k h0, r4 k h8]))
    · rw [if_neg hs]
      refine ⟨fun _ => ?_, fun c => absurd c (by decide)⟩
      have e : drf b h (m + 1) x p s = (s, x, p) := by simp only [drf, if_neg hs]
      rw [e] at hK
      exact hK F R M (fun _ _ => rfl) (fun _ _ _ => rfl)
theorem T_drift (F : FT) (R : RT) (J : JT) (P : PT) (B : BT) (F0 : FT) (R0 : RT) (J0 : JT) (a1 : Int32) (I : INV F R J P B F0 R0 J0) : qW_drift F R J P B a1 (fun r F R J P B => qM_drift F0 R0 J0 a1 (fun r0 F0 R0 J0 => r = r0 ∧ INV F R J P B F0 R0 J0)) := by
  obtain ⟨x, b, h, p, A, H, M⟩ := id I.1
  have hfa : F0 1 = -1 := I.2.2.2.2
  unfold qW_drift
  rcases rg a1 1 40 with hr | ⟨N, h1, h2, rfl⟩
  · exact wi_n hr ⟨fun c => absurd rfl c, fun _ => mi_n hr ⟨fun c => absurd rfl c, fun _ => ⟨rfl, I⟩⟩⟩
  have tk : (nI N).toInt = N := t_n (by omega)
  have w1 : ((1 : Int32)).toInt ≤ (nI N).toInt := by rw [tk]; exact Int.ofNat_le.mpr h1
  have w2 : (nI N).toInt ≤ ((40 : Int32)).toInt := by rw [tk]; exact Int.ofNat_le.mpr h2
  refine wi_y w1 w2 ⟨fun _ => C_summer A H ?_, fun c => absurd c (by decide)⟩
  by_cases hs : x 4 < x 1
  · rw [if_pos hs]
    refine ⟨fun _ => ⟨N + 1, C_drift_loop h2 N 0 x p 0 F R (by omega) (by omega) A H (fun F1 R1 H1 f1 r1 => mi_y w1 w2 ⟨fun _ => M_summer A M ?_, fun c => absurd c (by decide)⟩)⟩, fun c => absurd rfl c⟩
    rw [if_pos hs]
    refine ⟨fun _ => ⟨N + 1, M_drift_loop h2 N 0 x p 0 F0 R0 (by omega) (by omega) A M hfa (fun F3 R3 M3 f3 r3 => ⟨rfl, I.site (drf_ok N x p 0 A) H1 M3 f1 r1 f3 r3⟩)⟩, fun c => absurd rfl c⟩
  · rw [if_neg hs]
    refine ⟨fun c => absurd c (by decide), fun _ => mi_y w1 w2 ⟨fun _ => M_summer A M ?_, fun c => absurd c (by decide)⟩⟩
    rw [if_neg hs]
    exact ⟨fun c => absurd c (by decide), fun _ => ⟨rfl, I⟩⟩
