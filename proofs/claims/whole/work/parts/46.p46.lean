/-! ===== the pure part: pace ===== -/
/-- the first of m numbers from i on of which f is s or more; i + m if there is none -/
def paN (f : Nat → Nat) (s : Nat) : Nat → Nat → Nat
  | 0, i => i
  | m + 1, i => if s ≤ f i then i else paN f s m (i + 1)
theorem paN_p {f : Nat → Nat} {s : Nat} : ∀ m i, i ≤ paN f s m i ∧ paN f s m i ≤ i + m ∧ (∀ j, i ≤ j → j < paN f s m i → f j < s) ∧ (paN f s m i < i + m → s ≤ f (paN f s m i)) := by
  intro m
  induction m with
  | zero => intro i; exact ⟨Nat.le_refl _, Nat.le_refl _, fun j h1 h2 => absurd h1 (Nat.not_le_of_lt h2), fun c => absurd c (Nat.lt_irrefl _)⟩
  | succ m ih =>
    intro i
    obtain ⟨h1, h2, h3, h4⟩ := ih (i + 1)
    by_cases c : s ≤ f i
    · have e : paN f s (m + 1) i = i := by rw [paN, if_pos c]
      rw [e]
      exact ⟨Nat.le_refl _, by omega, fun j h1 h2 => by omega, fun _ => c⟩
    · have e : paN f s (m + 1) i = paN f s m (i + 1) := by rw [paN, if_neg c]
      rw [e]
      refine ⟨by omega, by omega, fun j q1 q2 => ?_, fun q => h4 (by omega)⟩
      by_cases ej : j = i
      · rw [ej]; omega
      · exact h3 j (by omega) q2
theorem ne_m4 : ∀ i, i < 64 → ¬ nI i = (-4 : Int32) := by decide +kernel
def paR (c : Nat) : Int32 := if 20 < c then -4 else nI c
theorem nI_inj4 {j : Nat} (hj : j < 4) : ∀ k, k < 4 → (nI k = nI j ↔ k = j) := fun k hk => n_eq (by omega) (by omega)
section PA
variable {x : Nat → Nat} {b h p : Nat → Nat → Nat} {F : FT} {R : RT} {J : JT} {P : PT} {B : BT} {j s : Nat}
theorem od_pace (A : AOK x b h p) {cr : Nat → Nat} {n l m m' : Nat} (hm : m ≤ m') (hm' : m' ≤ 20) (hl : l ≤ x 0) : od (x 0) (x 2) (x 3) (fun w l => suN b w l j m (x 11)) cr n l ≤ od (x 0) (x 2) (x 3) (fun w l => suN b w l j m' (x 11)) cr n l := by
  have a1 := A.1
  exact od_su (A.su j hm') (by omega) (fun w l _ => su_mono (Nat.le_refl _) hm _) n l hl
/-- one halving -/
theorem C_pace1 (A : AOK x b h p) (H : CS 100 x b h p F R P B) (hj : j < x 11) (hs : s ≤ 1000000) {c : Nat} (hc : c = paN (fun m => od (x 0) (x 2) (x 3) (fun w l => suN b w l j m (x 11)) (crM (x 1) (nI (x 4)) (-1) (cst h (x 12) (x 7)) 0) (x 1 - x 4) (x 5)) s 21 0) {T step n : Nat} (h1 : T ≤ c) (h2 : c < T + 2 * step) (hst : 1 ≤ step) (hst2 : step ≤ 16) {K : Int32 → FT → RT → JT → PT → BT → Prop} (hk : ∀ T' F' R', T' ≤ c → c < T' + step → CS 100 x b h p F' R' P B → (∀ k, ¬ (407 ≤ k ∧ k ≤ 415) → F' k = F k) → (∀ k, ¬ (400 ≤ k ∧ k ≤ 406) → R' k = R k) → qW_pace_35 n F' R' J P B (nI j) (nI s) (nI T') (nI (step / 2)) K) : qW_pace_35 (n + 1) F R J P B (nI j) (nI s) (nI T) (nI step) K := by
  have a1 := A.1
  obtain ⟨-, p2, p3, p4⟩ := paN_p (f := (fun m => od (x 0) (x 2) (x 3) (fun w l => suN b w l j m (x 11)) (crM (x 1) (nI (x 4)) (-1) (cst h (x 12) (x 7)) 0) (x 1 - x 4) (x 5))) (s := s) 21 0
  rw [← hc] at p2 p3 p4
  have ed : nI step / (2 : Int32) = nI (step / 2) := pk_div (d := 2) (by omega) (by omega) (by omega)
  have et : nI T + nI step - (1 : Int32) = nI (T + step - 1) := by rw [nI_add]; exact pk_sub (b := 1) (by omega)
  unfold qW_pace_35 qW_pace_78
  rw [ed, et, nI_add]
  refine pk_le step 0 (fun q => by omega) (fun _ => ?_)
  refine pk_lt 20 (T + step - 1) (fun q => hk T F R h1 (by omega) H (fun _ _ => rfl) (fun _ _ => rfl)) (fun q => ?_)
  refine C_oddsNow A H (fa := j) (mo := T + step - 1) (by omega) (nI_inj4 (by omega)) (fun F' R' H' f' r' => ?_)
  have ol := od_le (st := x 0) (su := fun w l => suN b w l j (T + step - 1) (x 11)) (cr := crM (x 1) (nI (x 4)) (-1) (cst h (x 12) (x 7)) 0) (show x 2 + x 3 ≤ 10 by omega) (x 1 - x 4) (x 5)
  refine pk_le s _ (fun q2 => hk T F' R' h1 ?_ H' f' r') (fun q2 => hk (T + step) F' R' ?_ (by omega) H' f' r') rfl rfl (by omega) (by omega)
  · apply Nat.lt_of_not_le
    intro q3
    have := p3 (T + step - 1) (Nat.zero_le _) (by omega)
    omega
  · apply Nat.le_of_not_lt
    intro q3
    have h4 := p4 (by omega)
    have h5 := od_pace A (j := j) (cr := crM (x 1) (nI (x 4)) (-1) (cst h (x 12) (x 7)) 0) (n := x 1 - x 4) (l := x 5) (m := c) (m' := T + step - 1) (by omega) (by omega) (by omega)
    have h6 := Nat.le_trans h4 h5
    omega
theorem C_pace (A : AOK x b h p) (H : CS 100 x b h p F R P B) (hj : j < x 11) (hs : s ≤ 1000000) {K : Int32 → FT → RT → JT → PT → BT → Prop} (hK : ∀ F' R', (∀ k, ¬ (407 ≤ k ∧ k ≤ 415) → F' k = F k) → (∀ k, ¬ (400 ≤ k ∧ k ≤ 406) → R' k = R k) → K (paR (paN (fun m => od (x 0) (x 2) (x 3) (fun w l => suN b w l j m (x 11)) (crM (x 1) (nI (x 4)) (-1) (cst h (x 12) (x 7)) 0) (x 1 - x 4) (x 5)) s 21 0)) F' R' J P B) : qW_pace_35 6 F R J P B (nI j) (nI s) (0 : Int32) (16 : Int32) K := by
  obtain ⟨-, p2, -, -⟩ := paN_p (f := (fun m => od (x 0) (x 2) (x 3) (fun w l => suN b w l j m (x 11)) (crM (x 1) (nI (x 4)) (-1) (cst h (x 12) (x 7)) 0) (x 1 - x 4) (x 5))) (s := s) 21 0
  obtain ⟨c, hc⟩ : ∃ c, c = paN (fun m => od (x 0) (x 2) (x 3) (fun w l => suN b w l j m (x 11)) (crM (x 1) (nI (x 4)) (-1) (cst h (x 12) (x 7)) 0) (x 1 - x 4) (x 5)) s 21 0 := ⟨_, rfl⟩
  rw [← hc] at hK p2
  refine C_pace1 A H hj hs hc (T := 0) (step := 16) (n := 5) (Nat.zero_le _) (by omega) (by omega) (by omega) (fun T1 F1 R1 u1 v1 H1 f1 r1 => ?_)
  refine C_pace1 A H1 hj hs hc (step := 8) (n := 4) u1 (by omega) (by omega) (by omega) (fun T2 F2 R2 u2 v2 H2 f2 r2 => ?_)
  refine C_pace1 A H2 hj hs hc (step := 4) (n := 3) u2 (by omega) (by omega) (by omega) (fun T3 F3 R3 u3 v3 H3 f3 r3 => ?_)
  refine C_pace1 A H3 hj hs hc (step := 2) (n := 2) u3 (by omega) (by omega) (by omega) (fun T4 F4 R4 u4 v4 H4 f4 r4 => ?_)
  refine C_pace1 A H4 hj hs hc (step := 1) (n := 1) u4 (by omega) (by omega) (by omega) (fun T5 F5 R5 u5 v5 H5 f5 r5 => ?_)
  have k := hK F5 R5 (fun k hk => by rw [f5 k hk, f4 k hk, f3 k hk, f2 k hk, f1 k hk]) (fun k hk => by rw [r5 k hk, r4 k hk, r3 k hk, r2 k hk, r1 k hk])
  have e5 : T5 = c := by omega
  subst e5
  unfold paR at k
  unfold qW_pace_35
  refine pk_le 0 0 (fun _ => pk_lt 20 T5 (fun q => ?_) (fun q => ?_)) (fun q => by omega)
  · rw [if_pos q] at k; exact k
  · rw [if_neg (by omega)] at k; exact k
end PA
theorem M_pace_loop {x : Nat → Nat} {b h p : Nat → Nat → Nat} {F : FT} {R : RT} {J : JT} {j s : Nat} (A : AOK x b h p) (M : MS x b h p (R 0) (R 8) (F 9)) (hj : j < x 11) (hs : s ≤ 1000000) {K : Int32 → FT → RT → JT → Prop} : ∀ m i F1 R1, i + m = 21 → (∀ k, k ≠ 1 → k ≠ 2 → F1 k = F k) → (∀ k, k ≠ 10 → R1 k = R k) → (∀ F' R', (∀ k, k ≠ 1 → k ≠ 2 → F' k = F k) → (∀ k, k ≠ 10 → R' k = R k) → K (paR (paN (fun m => od (x 0) (x 2) (x 3) (fun w l => suN b w l j m (x 11)) (crM (x 1) (nI (x 4)) (-1) (cst h (x 12) (x 7)) 0) (x 1 - x 4) (x 5)) s m i)) (upd F' 1 (-1)) R' J) → qM_pace_23 (m + 2) F1 R1 J (nI j) (nI s) (-4) (nI i) K := by
  have a1 := A.1
  intro m
  induction m with
  | zero =>
    intro i F1 R1 hi f1 r1 k
    have hi : i = 21 := by omega
    subst hi
    unfold qM_pace_23 qM_pace_69
    exact ⟨fun _ => k F1 R1 f1 r1, fun c => absurd (by decide) c⟩
  | succ m ih =>
    intro i F1 R1 hi f1 r1 k
    have M1 : MS x b h p (R1 0) (R1 8) (F1 9) := by rw [r1 0 (by decide), r1 8 (by decide), f1 9 (by decide) (by decide)]; exact M
    unfold qM_pace_23
    refine pk_le 21 i (fun c => by omega) (fun _ => ⟨fun c => absurd rfl c, fun _ => ?_⟩)
    unfold qM_odds
    have e1 : upd (upd F1 1 (nI j)) 2 (nI i) 1 = nI j := by rw [upd_ne (by decide), upd_eq]
    have M2 : MS x b h p (R1 0) (R1 8) (upd (upd F1 1 (nI j)) 2 (nI i) 9) := by rw [upd_ne (by decide), upd_ne (by decide)]; exact M1
    refine M_oddsBy A M2 (fa := j) (mo := i) (me := 0) (by omega) (by rw [e1]; exact nI_inj4 (by omega)) (fun _ => upd_eq) (by omega) (fun R2 q1 q2 => ?_)
    have ol := od_le (st := x 0) (su := fun w l => suN b w l j i (x 11)) (cr := crM (x 1) (nI (x 4)) (-1) (cst h (x 12) (x 7)) 0) (show x 2 + x 3 ≤ 10 by omega) (x 1 - x 4) (x 5)
    have f2 : ∀ k, k ≠ 1 → k ≠ 2 → upd (upd F1 1 (nI j)) 2 (nI i) k = F k := fun k h1 h2 => by rw [upd_ne h2, upd_ne h1, f1 k h1 h2]
    have r2 : ∀ k, k ≠ 10 → R2 k = R k := fun k hk => by rw [q2 k hk, r1 k hk]
    unfold qM_pace_62
    rw [nI_1]
    refine pk_lt _ s (fun c => ih (i + 1) _ R2 (by omega) f2 r2 (fun F' R' u v => ?_)) (fun c => ?_) rfl rfl (by omega) (by omega)
    · have := k F' R' u v
      rw [paN, if_neg (by omega)] at this; exact this
    · have := k _ R2 f2 r2
      rw [paN, if_pos c] at this
      unfold paR at this
      rw [if_neg (by omega)] at this
      unfold qM_pace_23 qM_pace_69
      exact ⟨fun _ => this, fun _ => ⟨fun _ => this, fun e => absurd e (ne_m4 i (by omega))⟩⟩
theorem T_pace (F : FT) (R : RT) (J : JT) (P : PT) (B : BT) (F0 : FT) (R0 : RT) (J0 : JT) (a1 a2 : Int32) (I : INV F R J P B F0 R0 J0) : qW_pace F R J P B a1 a2 (fun r F R J P B => qM_pace F0 R0 J0 a1 a2 (fun r0 F0 R0 J0 => r = r0 ∧ INV F R J P B F0 R0 J0)) := by
  obtain ⟨x, b, h, p, A, H, M⟩ := id I.1
  have hfa : F0 1 = -1 := I.2.2.2.2
  have ax := A.1
  have e11 : F 111 = nI (x 11) := H.n 11 (by decide)
  unfold qW_pace
  rcases rgc a1 (x 11) (by omega) with hr | ⟨j, hj, rfl⟩
  · refine wic_n e11 hr ⟨fun _ => ?_, fun c => absurd rfl c⟩
    unfold qM_pace
    exact ib_n M.1.2.1 hr ⟨fun _ => ⟨rfl, I⟩, fun c => absurd rfl c⟩
  refine wic_y (by omega) e11 hj ⟨fun c => absurd c (by decide), fun _ => ?_⟩
  rcases rg a2 0 1000000 with hr | ⟨s, -, hs, rfl⟩
  · refine ptW_n hr ⟨fun c => absurd rfl c, fun _ => ?_⟩
    unfold qM_pace
    exact ib_y (by omega) M.1.2.1 hj ⟨fun c => absurd c (by decide), fun _ => ptM_n hr ⟨fun c => absurd rfl c, fun _ => ⟨rfl, I⟩⟩⟩
  refine ptW_y hs ⟨fun _ => ⟨6, C_pace A H hj hs (fun F' R' f' r' => ?_)⟩, fun c => absurd c (by decide)⟩
  unfold qM_pace
  refine ib_y (by omega) M.1.2.1 hj ⟨fun c => absurd c (by decide), fun _ => ptM_y hs ⟨fun _ => ⟨23, ?_⟩, fun c => absurd c (by decide)⟩⟩
  refine M_pace_loop A M hj hs 21 0 F0 R0 rfl (fun _ _ _ => rfl) (fun _ _ => rfl) (fun F2 R2 f2 r2 => ⟨rfl, I.odds f' r' (fun k hk => ?_) (fun k h10 _ _ => r2 k h10)⟩)
  by_cases e : k = 1
  · rw [e, upd_eq, hfa]
  · rw [upd_ne e]; exact f2 k e hk
