/-! ===== the pure part: plan ===== -/
section P1
variable {F : FT} {R : RT} {J : JT} {P : PT} {B : BT} {a : Int32} {s : Nat}
theorem one_t : (1 : Int32).toInt = 1 ∧ (1 : Int64).toInt = 1 ∧ (0 : Int32).toInt = 0 ∧ (0 : Int64).toInt = 0 := by decide
theorem w1W_n {K : Int32 → FT → RT → JT → PT → BT → Prop} (h : a.toInt < ((0 : Nat) : Int) ∨ ((1 : Nat) : Int) < a.toInt) (k : K 0 F R J P B) : qW_within F R J P B a (0 : Int32) (1 : Int32) K := wi_n (by have := one_t; omega) k
theorem w1W_y {K : Int32 → FT → RT → JT → PT → BT → Prop} (h : s ≤ 1) (k : K 1 F R J P B) : qW_within F R J P B (nI s) (0 : Int32) (1 : Int32) K := wi_y (by have := one_t; rw [t_n (by omega)]; omega) (by have := one_t; rw [t_n (by omega)]; omega) k
theorem w1M_n {K : Int32 → FT → RT → JT → Prop} (h : a.toInt < ((0 : Nat) : Int) ∨ ((1 : Nat) : Int) < a.toInt) (k : K 0 F R J) : qM_in F R J a.toInt64 (0 : Int64) (1 : Int64) K := mi_n (by have := one_t; omega) k
theorem w1M_y {K : Int32 → FT → RT → JT → Prop} (h : s ≤ 1) (k : K 1 F R J) : qM_in F R J (nI s).toInt64 (0 : Int64) (1 : Int64) K := mi_y (by have := one_t; rw [t_n (by omega)]; omega) (by have := one_t; rw [t_n (by omega)]; omega) k
end P1
def alN (x : Nat → Nat) (h : Nat → Nat → Nat) : Nat → Nat → Bool
  | 0, _ => true
  | n + 1, set => alN x h n set && (!set.testBit n || (!(x 6).testBit n && !brkN x h n))
def fbN (x : Nat → Nat) (h : Nat → Nat → Nat) : Nat → Nat
  | 0 => 0
  | n + 1 => if brkN x h n then fbN x h n ||| 2 ^ n else fbN x h n
/-- the set of the first k: 64 if there is none -/
def plN (q : Nat → Bool) : Nat → Nat
  | 0 => 64
  | k + 1 => if (plN q k = 64 ∨ popN k < popN (plN q k)) ∧ q k = true then k else plN q k
theorem plN_le {q : Nat → Bool} : ∀ k, plN q k < k ∨ plN q k = 64 := by
  intro k
  induction k with
  | zero => exact Or.inr rfl
  | succ k ih =>
    rw [plN]
    split
    · exact Or.inl (by omega)
    · omega
def plC (p : Nat) : Int32 := if p = 64 then -1 else nI p
def plM (p : Nat) : Int32 := if p = 64 then -4 else nI p
def plA (wh p : Nat) : Int32 := if p = 64 then -4 else if wh = 1 then nI p else nI (popN p)
def bI (c : Bool) : Int32 := if c then 1 else 0
theorem al_iff {x : Nat → Nat} {h : Nat → Nat → Nat} {set : Nat} : ∀ n, alN x h n set = true ↔ ∀ k, k < n → set.testBit k = true → (x 6).testBit k = false ∧ brkN x h k = false := by
  intro n
  induction n with
  | zero => exact ⟨fun _ k hk => absurd hk (Nat.not_lt_zero k), fun _ => rfl⟩
  | succ n ih =>
    rw [alN, Bool.and_eq_true, ih]
    constructor
    · rintro ⟨h1, h2⟩ k hk hb
      by_cases e : k = n
      · subst e
        rw [hb] at h2
        simpa using h2
      · exact h1 k (by omega) hb
    · intro h1
      refine ⟨fun k hk => h1 k (by omega), ?_⟩
      cases hb : set.testBit n with
      | false => rfl
      | true =>
        obtain ⟨q1, q2⟩ := h1 n (by omega) hb
        rw [q1, q2]; rfl
theorem fb_bit {x : Nat → Nat} {h : Nat → Nat → Nat} {k : Nat} : ∀ n, (fbN x h n).testBit k = (decide (k < n) && brkN x h k) := by
  intro n
  induction n with
  | zero => simp [fbN]
  | succ n ih =>
    rw [fbN]
    by_cases hb : brkN x h n = true
    · rw [if_pos hb, Nat.testBit_or, ih, Nat.testBit_two_pow]
      by_cases e : n = k
      · subst e; simp [hb]
      · have : (decide (k < n + 1) : Bool) = decide (k < n) := by
          by_cases q : k < n
          · rw [decide_eq_true q, decide_eq_true (by omega)]
          · rw [decide_eq_false q, decide_eq_false (by omega)]
        rw [this, decide_eq_false e, Bool.or_false]
    · rw [if_neg hb, ih]
      by_cases e : n = k
      · subst e; simp [hb]
      · have : (decide (k < n + 1) : Bool) = decide (k < n) := by
          by_cases q : k < n
          · rw [decide_eq_true q, decide_eq_true (by omega)]
          · rw [decide_eq_false q, decide_eq_false (by omega)]
        rw [this]
theorem fb_lt {x : Nat → Nat} {h : Nat → Nat → Nat} : ∀ n, fbN x h n < 2 ^ n := by
  intro n
  induction n with
  | zero => exact Nat.one_pos
  | succ n ih =>
    have h1 : 2 ^ n < 2 ^ (n + 1) := Nat.pow_lt_pow_right (by omega) (by omega)
    rw [fbN]
    split
    · exact Nat.or_lt_two_pow (by omega) h1
    · omega
theorem pw6 {n : Nat} (hn : n ≤ 6) : 2 ^ n ≤ 64 := Nat.le_trans (Nat.pow_le_pow_right (by omega) hn) (by decide)
theorem fb_64 {x : Nat → Nat} {h : Nat → Nat → Nat} {n : Nat} (hn : n ≤ 6) : fbN x h n < 64 := Nat.lt_of_lt_of_le (fb_lt n) (pw6 hn)
/-- no used one, no forbidden one -/
theorem al_and {x : Nat → Nat} {h : Nat → Nat → Nat} {n set : Nat} (hn : n ≤ 6) (hs : set < 2 ^ n) (h6 : x 6 < 64) : nI set &&& nI (x 6 ||| fbN x h n) = 0 ↔ alN x h n set = true := by
  have hs6 : set < 64 := Nat.lt_of_lt_of_le hs (pw6 hn)
  have hf := fb_64 (x := x) (h := h) hn
  have ho : x 6 ||| fbN x h n < 2 ^ 6 := Nat.or_lt_two_pow (by omega) (by omega)
  have hle : set &&& (x 6 ||| fbN x h n) ≤ set := Nat.and_le_left
  rw [nI_and _ _ (by omega) (by omega), show (0 : Int32) = nI 0 from rfl, n_eq (by omega) (by omega), al_iff]
  constructor
  · intro e k hk hb
    have := congrArg (fun z => Nat.testBit z k) e
    simp only [Nat.testBit_and, Nat.testBit_or, Nat.zero_testBit, hb, Bool.true_and, Bool.or_eq_false_iff, fb_bit, decide_eq_true hk] at this
    exact this
  · intro e
    apply Nat.eq_of_testBit_eq
    intro k
    rw [Nat.testBit_and, Nat.testBit_or, Nat.zero_testBit, fb_bit]
    cases hb : set.testBit k with
    | false => rfl
    | true =>
      by_cases hk : k < n
      · obtain ⟨q1, q2⟩ := e k hk hb
        rw [q1, q2]; simp
      · have : set.testBit k = false := Nat.testBit_lt_two_pow (Nat.lt_of_lt_of_le hs (Nat.pow_le_pow_right (by omega) (by omega)))
        rw [this] at hb; exact absurd hb (by decide)
section PL
variable {x : Nat → Nat} {b h p : Nat → Nat → Nat} {F : FT} {R : RT} {J : JT} {P : PT} {B : BT} {s : Nat}
theorem C_forb (A : AOK x b h p) (H : CS 100 x b h p F R P B) {K : Int32 → FT → RT → JT → PT → BT → Prop} (hK : K (nI (fbN x h (x 12))) F R J P B) : qS_forbidden F R J P B K := by
  have a1 := A.1
  have e12 : F 112 = nI (x 12) := H.n 12 (by decide)
  have loop : ∀ m k, k + m = x 12 → qS_forbidden_4 (m + 1) F R J P B (nI (fbN x h k)) (nI k) K := by
    intro m
    induction m with
    | zero =>
      intro k hk
      have hk : k = x 12 := by omega
      subst hk
      unfold qS_forbidden_4
      exact pk_le (x 12) (x 12) (fun _ => hK) (fun c => by omega) e12
    | succ m ih =>
      intro k hk
      have i1 := ih (k + 1) (by omega)
      have hf := fb_64 (x := x) (h := h) (n := k) (by omega)
      unfold qS_forbidden_4 qS_forbidden_26
      rw [nI_1 k]
      refine pk_le (x 12) k (fun c => by omega) (fun _ => C_brk (x := x) (h := h) (by omega) (A.2.2.1 k (by omega)).2.2 (by omega) (H.n 9 (by decide)) (H.2.2.2.1 k (by omega)).2 ?_) e12
      by_cases hb : brkN x h k = true
      · rw [fbN, if_pos hb] at i1
        rw [if_pos hb, shl_k k (by omega), nI_or _ _ (by omega) (Nat.pow_lt_pow_right (by omega) (by omega))]
        exact ⟨fun d => absurd d (by decide), fun _ => i1⟩
      · rw [fbN, if_neg hb] at i1
        rw [if_neg hb]
        exact ⟨fun _ => i1, fun d => absurd rfl d⟩
  exact ⟨x 12 + 1, loop (x 12) 0 (by omega)⟩
/-- today's odds with a set used besides -/
theorem cr_set (A : AOK x b h p) (k : Nat) (hd : x 4 < x 1) : crM (x 1) (nI (x 4)) (nI (x 4)) (cst h (x 12) (x 7)) (cst h (x 12) k) (x 1 - x 4 - 1) = (cst h (x 12) (x 7)) + cst h (x 12) k ∧ ∀ j, j < x 1 - x 4 - 1 → crM (x 1) (nI (x 4)) (nI (x 4)) (cst h (x 12) (x 7)) (cst h (x 12) k) j = 0 := by
  have a1 := A.1
  have := cr_top (dy := x 1) (d0 := x 4) (c0 := (cst h (x 12) (x 7))) (me := cst h (x 12) k) (se := nI (x 4)) hd (by omega) (fun t ht e => (n_eq (by omega) (by omega)).mp e)
  rw [if_pos rfl] at this
  exact this
theorem C_pl44 (A : AOK x b h p) (H : CS 100 x b h p F R P B) (hs : s ≤ 1000000) (N : NKb (x 0) (x 1) (x 2) (x 3) (x 4) (x 5) (cst h (x 12) (x 7)) (fun w l => suN b w l 99 0 (x 11))) (K2 : RKd (x 0) (x 1) (x 2) (x 3) (x 4) (x 5) (cst h (x 12) (x 7)) (fun w l => suN b w l 99 0 (x 11)) F R) (V : x 4 < x 1 → RVl (x 0) (x 5) (fpN (x 0) (fun w l => suN b w l 99 0 (x 11)) (x 5) (cst h (x 12) (x 7)) 1) (od (x 0) (x 2) (x 3) (fun w l => suN b w l 99 0 (x 11)) (fun _ => 0) (x 1 - x 4 - 1)) (R 403)) {Q : Nat} (hQ : Q = 2 ^ x 12) {K : Int32 → FT → RT → JT → PT → BT → Prop} (hK : K (plC (plN (fun k => alN x h (x 12) k && decide ((od (x 0) (x 2) (x 3) (fun w l => suN b w l 99 0 (x 11)) (crM (x 1) (nI (x 4)) (nI (x 4)) (cst h (x 12) (x 7)) (cst h (x 12) k)) (x 1 - x 4) (x 5)) ≤ s)) Q)) F R J P B) : ∀ m k, k + m = Q → qO_fewestHindrances_44 (m + 1) F R J P B (nI s) (nI (x 6 ||| fbN x h (x 12))) (plC (plN (fun k => alN x h (x 12) k && decide ((od (x 0) (x 2) (x 3) (fun w l => suN b w l 99 0 (x 11)) (crM (x 1) (nI (x 4)) (nI (x 4)) (cst h (x 12) (x 7)) (cst h (x 12) k)) (x 1 - x 4) (x 5)) ≤ s)) k)) (nI k) K := by
  have a1 := A.1
  have ac := Acst A (x 7)
  have e12 : F 112 = nI (x 12) := H.n 12 (by decide)
  have Q64 : Q ≤ 64 := by rw [hQ]; exact pw6 (by omega)
  have eQ : (1 : Int32) <<< (F 112 &&& 31) = nI Q := by rw [e12, shl_k _ (by omega), hQ]
  intro m
  induction m with
  | zero =>
    intro k hk
    have hk : k = Q := by omega
    subst hk
    unfold qO_fewestHindrances_44
    exact pk_le k k (fun _ => hK) (fun c => by omega) eQ
  | succ m ih =>
    intro k hk
    have i1 := ih (k + 1) (by omega)
    have pl := plN_le (q := (fun k => alN x h (x 12) k && decide ((od (x 0) (x 2) (x 3) (fun w l => suN b w l 99 0 (x 11)) (crM (x 1) (nI (x 4)) (nI (x 4)) (cst h (x 12) (x 7)) (cst h (x 12) k)) (x 1 - x 4) (x 5)) ≤ s))) k
    have ko := Acst A k
    rw [plN] at i1
    obtain ⟨pk, hpk⟩ : ∃ pk, pk = plN (fun k => alN x h (x 12) k && decide ((od (x 0) (x 2) (x 3) (fun w l => suN b w l 99 0 (x 11)) (crM (x 1) (nI (x 4)) (nI (x 4)) (cst h (x 12) (x 7)) (cst h (x 12) k)) (x 1 - x 4) (x 5)) ≤ s)) k := ⟨_, rfl⟩
    rw [← hpk] at pl i1 ⊢
    have key : ∀ fe : Bool, (fe = true ↔ (pk = 64 ∨ popN k < popN pk)) → qO_fewestHindrances_78 (fun F R J P B v2 v3 v4 v5 => qO_fewestHindrances_44 (m + 1) F R J P B v2 v3 v4 v5 K) F R J P B (nI s) (nI (x 6 ||| fbN x h (x 12))) (plC pk) (nI k) (bI fe) K := by
      intro fe hfe
      unfold qO_fewestHindrances_78 qO_fewestHindrances_119
      rw [nI_1 k]
      cases fe with
      | false =>
        rw [if_neg (by intro c; exact absurd (hfe.mpr c.1) (by decide))] at i1
        exact ⟨fun _ => i1, fun d => absurd rfl d⟩
      | true =>
        have hf2 := hfe.mp rfl
        refine ⟨fun d => absurd d (by decide), fun _ => ⟨fun c => ?_, fun c => ?_⟩⟩
        · rw [al_and (by omega) (by omega) (by omega)] at c
          rw [if_neg (by intro d; have := d.2; simp only [Bool.and_eq_true] at this; exact c this.1)] at i1
          exact i1
        · rw [al_and (by omega) (by omega) (by omega)] at c
          refine C_costOf A H (by omega) ?_
          rw [show F 413 = nI (cst h (x 12) (x 7)) from K2.1.2.2.2.2.2.2, nI_add]
          refine C_td_o N K2 (v := od (x 0) (x 2) (x 3) (fun w l => suN b w l 99 0 (x 11)) (fun _ => 0) (x 1 - x 4 - 1)) (by omega) (by omega) (od_le (by omega) _) V ?_
          rw [today_od (cr := crM (x 1) (nI (x 4)) (nI (x 4)) (cst h (x 12) (x 7)) (cst h (x 12) k)) (by omega) (fun hd => (cr_set A k hd).1) (fun j hj => (cr_set A k (by omega)).2 j hj)]
          have ol := od_le (st := x 0) (su := (fun w l => suN b w l 99 0 (x 11))) (cr := crM (x 1) (nI (x 4)) (nI (x 4)) (cst h (x 12) (x 7)) (cst h (x 12) k)) (show x 2 + x 3 ≤ 10 by omega) (x 1 - x 4) (x 5)
          refine pk_lt s _ (fun q => ?_) (fun q => ?_) rfl rfl (by omega) (by omega)
          · rw [if_neg (by intro d; have := d.2; simp only [Bool.and_eq_true, decide_eq_true_eq] at this; omega)] at i1
            exact i1
          · rw [if_pos (by refine ⟨hf2, ?_⟩; simp only [Bool.and_eq_true, decide_eq_true_eq]; exact ⟨c, q⟩)] at i1
            unfold plC at i1
            rw [if_neg (by omega)] at i1
            exact i1
    unfold qO_fewestHindrances_44
    refine pk_le Q k (fun c => by omega) (fun _ => ?_) eQ
    unfold qO_fewestHindrances_73
    by_cases e64 : pk = 64
    · have ek : plC pk = -1 := if_pos e64
      have k1 := key true ⟨fun _ => Or.inl e64, fun _ => rfl⟩
      refine ⟨fun _ => k1, fun c => absurd ?_ c⟩
      rw [ek]; decide
    · have ek : plC pk = nI pk := if_neg e64
      refine ⟨fun c => ?_, fun _ => C_bitCount (by omega) ?_⟩
      · rw [ek] at c; exact absurd c (nI_pos (by omega))
      rw [ek]
      refine C_bitCount (by omega) ?_
      have p1 := pop_6 k (by omega)
      have p2 := pop_6 pk (by omega)
      rw [← ek]
      refine pk_le (popN pk) (popN k) (fun c => key false ⟨fun d => absurd d (by decide), fun d => by omega⟩) (fun c => key true ⟨fun _ => Or.inr c, fun _ => rfl⟩)
end PL
section PLM
variable {x : Nat → Nat} {b h p : Nat → Nat → Nat} {F : FT} {R : RT} {J : JT} {s : Nat}
theorem M_pl69 (A : AOK x b h p) (M : MS x b h p (R 0) (R 8) (F 9)) (hfa : F 1 = -1) (hs : s ≤ 1000000) {set : Nat} (hset : set < 64) {fe : Bool} {v2 v3 : Int32} {k25 : FT → RT → JT → Int32 → Int32 → Int32 → Int32 → Prop} {K : Int32 → FT → RT → JT → Prop} (hno : ¬ (fe = true ∧ (fun k => alN x h (x 12) k && decide ((od (x 0) (x 2) (x 3) (fun w l => suN b w l 99 0 (x 11)) (crM (x 1) (nI (x 4)) (nI (x 4)) (cst h (x 12) (x 7)) (cst h (x 12) k)) (x 1 - x 4) (x 5)) ≤ s)) set = true) → ∀ R', (∀ k, k ≠ 10 → R' k = R k) → k25 F R' J (nI s) v2 v3 (nI (set + 1))) (hyes : fe = true ∧ (fun k => alN x h (x 12) k && decide ((od (x 0) (x 2) (x 3) (fun w l => suN b w l 99 0 (x 11)) (crM (x 1) (nI (x 4)) (nI (x 4)) (cst h (x 12) (x 7)) (cst h (x 12) k)) (x 1 - x 4) (x 5)) ≤ s)) set = true → ∀ R', (∀ k, k ≠ 10 → R' k = R k) → k25 F R' J (nI s) v2 (nI set) (nI (set + 1))) : ∀ m hh, hh + m = x 12 → qM_plan_69 (m + 1) k25 F R J (nI s) v2 v3 (nI set) (nI (cst h hh set)) (bI (fe && alN x h hh set)) (nI hh) K := by
  have a1 := A.1
  have g1 : R 0 1 = nI (x 12) := M.1.2.2.1
  have g6 : R 0 6 = nI (x 4) := M.1.1 4 (by decide) (by decide)
  have g8 : R 0 8 = nI (x 6) := M.1.1 6 (by decide) (by decide)
  have g11 : R 0 11 = nI (x 9) := M.1.1 9 (by decide) (by decide)
  have ko := Acst A set
  intro m
  induction m with
  | zero =>
    intro hh hk
    have hk : hh = x 12 := by omega
    subst hk
    unfold qM_plan_69 qM_plan_186 qM_plan_187
    refine pk_le (x 12) (x 12) (fun _ => ?_) (fun c => by omega) g1
    rw [nI_1 set]
    cases hv : (fe && alN x h (x 12) set) with
    | false =>
      refine ⟨fun _ => hno (fun d => ?_) R (fun _ _ => rfl), fun d => absurd rfl d⟩
      have d2 := d.2
      simp only [Bool.and_eq_true] at d2
      rw [d.1, d2.1] at hv
      exact absurd hv (by decide)
    | true =>
      rw [Bool.and_eq_true] at hv
      refine ⟨fun d => absurd d (by decide), fun _ => ?_⟩
      rw [g6]
      refine M_oddsBy A M (fa := 99) (mo := 0) (me := cst h (x 12) set) (by omega) (by rw [hfa]; exact no_f) (fun c => by omega) (by omega) (fun R2 q1 q2 => ?_)
      have ol := od_le (st := x 0) (su := (fun w l => suN b w l 99 0 (x 11))) (cr := crM (x 1) (nI (x 4)) (nI (x 4)) (cst h (x 12) (x 7)) (cst h (x 12) set)) (show x 2 + x 3 ≤ 10 by omega) (x 1 - x 4) (x 5)
      refine pk_lt s _ (fun q => hno (fun d => ?_) R2 q2) (fun q => hyes ⟨hv.1, ?_⟩ R2 q2) rfl rfl (by omega) (by omega)
      · have d2 := d.2
        simp only [Bool.and_eq_true, decide_eq_true_eq] at d2
        omega
      · simp only [Bool.and_eq_true, decide_eq_true_eq]
        exact ⟨hv.2, q⟩
  | succ m ih =>
    intro hh hk
    have st : ∀ c' : Bool, c' = (fe && alN x h (hh + 1) set) → ∀ z, z = nI (cst h (hh + 1) set) → qM_plan_69 (m + 1) k25 F R J (nI s) v2 v3 (nI set) z (bI c') (nI (hh + 1)) K := by
      intro c' e z ez
      rw [e, ez]
      exact ih (hh + 1) (by omega)
    have ea : (fe && alN x h (hh + 1) set) = ((fe && alN x h hh set) && (!set.testBit hh || (!(x 6).testBit hh && !brkN x h hh))) := by rw [alN, Bool.and_assoc]
    unfold qM_plan_69 qM_plan_96 qM_plan_115 qM_plan_150 qM_plan_146 qM_plan_151
    rw [nI_1 hh]
    refine pk_le (x 12) hh (fun c => by omega) (fun _ => ⟨fun c => ?_, fun c => ?_⟩) g1
    · rw [bit_1 (by omega) (by omega)] at c
      have c : set.testBit hh = false := by simpa using c
      have ec : nI (cst h hh set) + 0 = nI (cst h (hh + 1) set) := by rw [Int32.add_zero]; exact congrArg nI (by simp [cst, c])
      refine ⟨fun _ => ?_, fun d => absurd rfl d⟩
      cases hv : (fe && alN x h hh set) with
      | false => exact ⟨fun _ => st false (by rw [ea, hv]; rfl) _ ec, fun d => absurd rfl d⟩
      | true => exact ⟨fun d => absurd d (by decide), fun _ => ⟨fun _ => st true (by rw [ea, hv, c]; rfl) _ ec, fun d => absurd rfl d⟩⟩
    · rw [bit_1 (by omega) (by omega)] at c
      refine ⟨fun d => absurd d (by decide), fun _ => M_costOf (by omega) ?_⟩
      rw [(M.2.2.1 hh (by omega)).1]
      have ec : nI (cst h hh set) + nI (h hh 0) = nI (cst h (hh + 1) set) := by rw [nI_add]; exact congrArg nI (by simp [cst, c])
      cases hv : (fe && alN x h hh set) with
      | false => exact ⟨fun _ => st false (by rw [ea, hv]; rfl) _ ec, fun d => absurd rfl d⟩
      | true =>
        refine ⟨fun d => absurd d (by decide), fun _ => ⟨fun d => absurd d (by decide), fun _ => M_isUsed (s := x 6) (by omega) (by omega) g8 ?_⟩⟩
        cases hu : (x 6).testBit hh with
        | true => exact ⟨fun _ => st false (by rw [ea, hv, c, hu]; rfl) _ ec, fun d => absurd d (by decide)⟩
        | false =>
          refine ⟨fun d => absurd rfl d, fun _ => M_brk (x := x) (h := h) (by omega) (A.2.2.1 hh (by omega)).2.2 (by omega) g11 (M.2.2.1 hh (by omega)).2 ?_⟩
          cases hb : brkN x h hh with
          | true => exact ⟨fun _ => st false (by rw [ea, hv, c, hu, hb]; rfl) _ ec, fun d => absurd d (by decide)⟩
          | false => exact ⟨fun d => absurd rfl d, fun _ => st true (by rw [ea, hv, c, hu, hb]; rfl) _ ec⟩
theorem M_pl25 (A : AOK x b h p) (M : MS x b h p (R 0) (R 8) (F 9)) (hfa : F 1 = -1) (hs : s ≤ 1000000) {wh : Nat} (hw : wh ≤ 1) {Q : Nat} (hQ : Q = 2 ^ x 12) {K : Int32 → FT → RT → JT → Prop} (hK : ∀ R', (∀ k, k ≠ 10 → R' k = R k) → K (plA wh (plN (fun k => alN x h (x 12) k && decide ((od (x 0) (x 2) (x 3) (fun w l => suN b w l 99 0 (x 11)) (crM (x 1) (nI (x 4)) (nI (x 4)) (cst h (x 12) (x 7)) (cst h (x 12) k)) (x 1 - x 4) (x 5)) ≤ s)) Q)) F R' J) : ∀ m k R1, k + m = Q → (∀ k, k ≠ 10 → R1 k = R k) → qM_plan_25 (m + 1) F R1 J (nI s) (nI wh) (plM (plN (fun k => alN x h (x 12) k && decide ((od (x 0) (x 2) (x 3) (fun w l => suN b w l 99 0 (x 11)) (crM (x 1) (nI (x 4)) (nI (x 4)) (cst h (x 12) (x 7)) (cst h (x 12) k)) (x 1 - x 4) (x 5)) ≤ s)) k)) (nI k) K := by
  have a1 := A.1
  have Q64 : Q ≤ 64 := by rw [hQ]; exact pw6 (by omega)
  intro m
  induction m with
  | zero =>
    intro k R1 hk f1
    have hk : k = Q := by omega
    subst hk
    have M1 : MS x b h p (R1 0) (R1 8) (F 9) := by rw [f1 0 (by decide), f1 8 (by decide)]; exact M
    have eQ : (1 : Int32) <<< (R1 0 1 &&& 31) = nI k := by rw [show R1 0 1 = nI (x 12) from M1.1.2.2.1, shl_k _ (by omega), hQ]
    have kk := hK R1 f1
    have pl := plN_le (q := (fun k => alN x h (x 12) k && decide ((od (x 0) (x 2) (x 3) (fun w l => suN b w l 99 0 (x 11)) (crM (x 1) (nI (x 4)) (nI (x 4)) (cst h (x 12) (x 7)) (cst h (x 12) k)) (x 1 - x 4) (x 5)) ≤ s))) k
    obtain ⟨pk, hpk⟩ : ∃ pk, pk = plN (fun k => alN x h (x 12) k && decide ((od (x 0) (x 2) (x 3) (fun w l => suN b w l 99 0 (x 11)) (crM (x 1) (nI (x 4)) (nI (x 4)) (cst h (x 12) (x 7)) (cst h (x 12) k)) (x 1 - x 4) (x 5)) ≤ s)) k := ⟨_, rfl⟩
    rw [← hpk] at pl kk ⊢
    unfold plA at kk
    unfold qM_plan_25
    refine pk_le k k (fun _ => ?_) (fun c => by omega) eQ
    by_cases e64 : pk = 64
    · rw [if_pos e64] at kk
      have ek : plM pk = -4 := if_pos e64
      rw [ek]
      exact ⟨fun _ => kk, fun _ => ⟨fun d => absurd rfl d, fun _ => kk⟩⟩
    · rw [if_neg e64] at kk
      have ek : plM pk = nI pk := if_neg e64
      rw [ek]
      refine pk_eq wh 1 (fun e => ?_) (fun e => ⟨fun _ => M_many (by omega) ?_, fun d => absurd d (ne_m4 pk (by omega))⟩)
      · rw [if_pos e] at kk; exact kk
      · rw [if_neg e] at kk; exact kk
  | succ m ih =>
    intro k R1 hk f1
    have M1 : MS x b h p (R1 0) (R1 8) (F 9) := by rw [f1 0 (by decide), f1 8 (by decide)]; exact M
    have eQ : (1 : Int32) <<< (R1 0 1 &&& 31) = nI Q := by rw [show R1 0 1 = nI (x 12) from M1.1.2.2.1, shl_k _ (by omega), hQ]
    have pl := plN_le (q := (fun k => alN x h (x 12) k && decide ((od (x 0) (x 2) (x 3) (fun w l => suN b w l 99 0 (x 11)) (crM (x 1) (nI (x 4)) (nI (x 4)) (cst h (x 12) (x 7)) (cst h (x 12) k)) (x 1 - x 4) (x 5)) ≤ s))) k
    have i1 := fun R2 f2 => ih (k + 1) R2 (by omega) f2
    rw [plN] at i1
    obtain ⟨pk, hpk⟩ : ∃ pk, pk = plN (fun k => alN x h (x 12) k && decide ((od (x 0) (x 2) (x 3) (fun w l => suN b w l 99 0 (x 11)) (crM (x 1) (nI (x 4)) (nI (x 4)) (cst h (x 12) (x 7)) (cst h (x 12) k)) (x 1 - x 4) (x 5)) ≤ s)) k := ⟨_, rfl⟩
    rw [← hpk] at pl i1 ⊢
    have key : ∀ fe : Bool, (fe = true ↔ (pk = 64 ∨ popN k < popN pk)) → qM_plan_64 (fun F R J v1 v2 v3 v4 => qM_plan_25 (m + 1) F R J v1 v2 v3 v4 K) F R1 J (nI s) (nI wh) (plM pk) (nI k) (0 : Int32) (bI fe) K := by
      intro fe hfe
      refine ⟨x 12 + 1, ?_⟩
      have ml := M_pl69 A M1 hfa hs (set := k) (by omega) (fe := fe) (v2 := nI wh) (v3 := plM pk) (J := J) (K := K) (k25 := fun F R J v1 v2 v3 v4 => qM_plan_25 (m + 1) F R J v1 v2 v3 v4 K) (fun d R2 f2 => ?_) (fun d R2 f2 => ?_) (x 12) 0 (by omega)
      · rw [alN, Bool.and_true] at ml; exact ml
      · have := i1 R2 (fun k hk => by rw [f2 k hk, f1 k hk])
        rw [if_neg (by intro e; exact d ⟨hfe.mpr e.1, e.2⟩)] at this
        exact this
      · have := i1 R2 (fun k hk => by rw [f2 k hk, f1 k hk])
        rw [if_pos (by exact ⟨hfe.mp d.1, d.2⟩)] at this
        unfold plM at this
        rw [if_neg (by omega)] at this
        exact this
    unfold qM_plan_25
    refine pk_le Q k (fun c => by omega) (fun _ => ?_) eQ
    unfold qM_plan_59
    by_cases e64 : pk = 64
    · have ek : plM pk = -4 := if_pos e64
      have k1 := key true ⟨fun _ => Or.inl e64, fun _ => rfl⟩
      exact ⟨fun _ => k1, fun c => absurd ek c⟩
    · have ek : plM pk = nI pk := if_neg e64
      have p1 := pop_6 k (by omega)
      have p2 := pop_6 pk (by omega)
      refine ⟨fun c => ?_, fun _ => M_many (by omega) ?_⟩
      · rw [ek] at c; exact absurd c (ne_m4 pk (by omega))
      rw [ek]
      refine M_many (by omega) ?_
      rw [← ek]
      exact pk_le (popN pk) (popN k) (fun c => key false ⟨fun d => absurd d (by decide), fun d => by omega⟩) (fun c => key true ⟨fun _ => Or.inr c, fun _ => rfl⟩)
end PLM
theorem T_plan (F : FT) (R : RT) (J : JT) (P : PT) (B : BT) (F0 : FT) (R0 : RT) (J0 : JT) (a1 a2 : Int32) (I : INV F R J P B F0 R0 J0) : qW_plan F R J P B a1 a2 (fun r F R J P B => qM_plan F0 R0 J0 a1 a2 (fun r0 F0 R0 J0 => r = r0 ∧ INV F R J P B F0 R0 J0)) := by
  obtain ⟨x, b, h, p, A, H, M⟩ := id I.1
  have hfa : F0 1 = -1 := I.2.2.2.2
  have ax := A.1
  have ac := Acst A (x 7)
  unfold qW_plan
  rcases rg a1 0 1000000 with hr | ⟨s, -, hs, rfl⟩
  · refine ptW_n hr ⟨fun _ => ?_, fun c => absurd rfl c⟩
    unfold qM_plan
    exact ptM_n hr ⟨fun _ => ⟨rfl, I⟩, fun c => absurd rfl c⟩
  refine ptW_y hs ⟨fun c => absurd c (by decide), fun _ => ?_⟩
  rcases rg a2 0 1 with hr | ⟨wh, -, hw, rfl⟩
  · refine w1W_n hr ⟨fun c => absurd rfl c, fun _ => ?_⟩
    unfold qM_plan
    exact ptM_y hs ⟨fun c => absurd c (by decide), fun _ => w1M_n hr ⟨fun c => absurd rfl c, fun _ => ⟨rfl, I⟩⟩⟩
  refine w1W_y hw ⟨fun _ => ?_, fun c => absurd c (by decide)⟩
  unfold qO_fewestHindrances
  refine C_costToday A H ?_
  rw [show F 104 = nI (x 4) from H.n 4 (by decide), show F 105 = nI (x 5) from H.n 5 (by decide)]
  refine C_lr A H (mo := 0) (by omega) no_f (by omega) (by omega) ac (fun F2 R2 N K2 H2 f2 r2 => C_goB N K2 (fun R3 V3 f3 => ?_))
  have K3 := K2.cg (F' := F2) (R' := R3) (fun _ _ _ => rfl) ⟨f3 _ (by decide), f3 _ (by decide), f3 _ (by decide)⟩
  have H3 : CS 100 x b h p F2 R3 P B := H2.cg (fun _ _ => rfl) (fun k a b => f3 _ (by omega)) rfl (fun _ hz => hz)
  refine C_forb A H3 ?_
  have hfb := fb_64 (x := x) (h := h) (n := x 12) (by omega)
  rw [show F2 106 = nI (x 6) from H3.n 6 (by decide), nI_or _ _ (by omega) (by omega)]
  obtain ⟨Q, hQ⟩ : ∃ Q, Q = 2 ^ x 12 := ⟨_, rfl⟩
  have Q64 : Q ≤ 64 := by rw [hQ]; exact pw6 (by omega)
  refine ⟨Q + 1, C_pl44 A H3 hs N K3 V3 hQ ?_ Q 0 (by omega)⟩
  have pl := plN_le (q := (fun k => alN x h (x 12) k && decide ((od (x 0) (x 2) (x 3) (fun w l => suN b w l 99 0 (x 11)) (crM (x 1) (nI (x 4)) (nI (x 4)) (cst h (x 12) (x 7)) (cst h (x 12) k)) (x 1 - x 4) (x 5)) ≤ s))) Q
  have mm : ∀ r, r = plA wh (plN (fun k => alN x h (x 12) k && decide ((od (x 0) (x 2) (x 3) (fun w l => suN b w l 99 0 (x 11)) (crM (x 1) (nI (x 4)) (nI (x 4)) (cst h (x 12) (x 7)) (cst h (x 12) k)) (x 1 - x 4) (x 5)) ≤ s)) Q) → qM_plan F0 R0 J0 (nI s) (nI wh) (fun r0 F0 R0 J0 => r = r0 ∧ INV F2 R3 J P B F0 R0 J0) := by
    intro r hr
    unfold qM_plan
    refine ptM_y hs ⟨fun c => absurd c (by decide), fun _ => w1M_y hw ⟨fun _ => ⟨Q + 1, ?_⟩, fun c => absurd c (by decide)⟩⟩
    exact M_pl25 A M hfa hs hw hQ (fun R5 q5 => ⟨hr, I.odds f2 (fun k hk => by rw [f3 k (by omega), r2 k hk]) (fun _ _ => rfl) (fun k h10 _ _ => q5 k h10)⟩) Q 0 R0 (by omega) (fun _ _ => rfl)
  obtain ⟨pk, hpk⟩ : ∃ pk, pk = plN (fun k => alN x h (x 12) k && decide ((od (x 0) (x 2) (x 3) (fun w l => suN b w l 99 0 (x 11)) (crM (x 1) (nI (x 4)) (nI (x 4)) (cst h (x 12) (x 7)) (cst h (x 12) k)) (x 1 - x 4) (x 5)) ≤ s)) Q := ⟨_, rfl⟩
  rw [← hpk] at pl mm ⊢
  by_cases e64 : pk = 64
  · rw [show plC pk = -1 from if_pos e64]
    exact ⟨fun c => absurd c (by decide), fun _ => mm _ (by unfold plA; rw [if_pos e64])⟩
  · rw [show plC pk = nI pk from if_neg e64]
    refine ⟨fun _ => And.symm (pk_eq wh 0 (fun e => C_bitCount (by omega) (mm _ ?_)) (fun e => mm _ ?_)), fun c => absurd ((n_le (a := 0) (b := pk) (by omega) (by omega)).mpr (Nat.zero_le _)) c⟩
    · unfold plA; rw [if_neg e64, if_neg (by omega)]
    · unfold plA; rw [if_neg e64, if_pos (by omega)]
