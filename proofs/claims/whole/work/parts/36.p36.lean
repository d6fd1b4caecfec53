/-! ===== the pure part: weather ===== -/
/-- how many of six -/
def popN (s : Nat) : Nat := (s.testBit 0).toNat + (s.testBit 1).toNat + (s.testBit 2).toNat + (s.testBit 3).toNat + (s.testBit 4).toNat + (s.testBit 5).toNat
theorem pop_c : ∀ s, s < 64 → (((((((((nI s) - ((((nI s).toUInt32 >>> ((1 : Int32).toUInt32 &&& Int32.toUInt32 31)).toInt32) &&& (1431655765 : Int32))) &&& (858993459 : Int32)) + (((((nI s) - ((((nI s).toUInt32 >>> ((1 : Int32).toUInt32 &&& Int32.toUInt32 31)).toInt32) &&& (1431655765 : Int32))).toUInt32 >>> ((2 : Int32).toUInt32 &&& Int32.toUInt32 31)).toInt32) &&& (858993459 : Int32))) + ((((((nI s) - ((((nI s).toUInt32 >>> ((1 : Int32).toUInt32 &&& Int32.toUInt32 31)).toInt32) &&& (1431655765 : Int32))) &&& (858993459 : Int32)) + (((((nI s) - ((((nI s).toUInt32 >>> ((1 : Int32).toUInt32 &&& Int32.toUInt32 31)).toInt32) &&& (1431655765 : Int32))).toUInt32 >>> ((2 : Int32).toUInt32 &&& Int32.toUInt32 31)).toInt32) &&& (858993459 : Int32))).toUInt32 >>> ((4 : Int32).toUInt32 &&& Int32.toUInt32 31)).toInt32)) &&& (252645135 : Int32)) + ((((((((nI s) - ((((nI s).toUInt32 >>> ((1 : Int32).toUInt32 &&& Int32.toUInt32 31)).toInt32) &&& (1431655765 : Int32))) &&& (858993459 : Int32)) + (((((nI s) - ((((nI s).toUInt32 >>> ((1 : Int32).toUInt32 &&& Int32.toUInt32 31)).toInt32) &&& (1431655765 : Int32))).toUInt32 >>> ((2 : Int32).toUInt32 &&& Int32.toUInt32 31)).toInt32) &&& (858993459 : Int32))) + ((((((nI s) - ((((nI s).toUInt32 >>> ((1 : Int32).toUInt32 &&& Int32.toUInt32 31)).toInt32) &&& (1431655765 : Int32))) &&& (858993459 : Int32)) + (((((nI s) - ((((nI s).toUInt32 >>> ((1 : Int32).toUInt32 &&& Int32.toUInt32 31)).toInt32) &&& (1431655765 : Int32))).toUInt32 >>> ((2 : Int32).toUInt32 &&& Int32.toUInt32 31)).toInt32) &&& (858993459 : Int32))).toUInt32 >>> ((4 : Int32).toUInt32 &&& Int32.toUInt32 31)).toInt32)) &&& (252645135 : Int32)).toUInt32 >>> ((8 : Int32).toUInt32 &&& Int32.toUInt32 31)).toInt32)) + (((((((((nI s) - ((((nI s).toUInt32 >>> ((1 : Int32).toUInt32 &&& Int32.toUInt32 31)).toInt32) &&& (1431655765 : Int32))) &&& (858993459 : Int32)) + (((((nI s) - ((((nI s).toUInt32 >>> ((1 : Int32).toUInt32 &&& Int32.toUInt32 31)).toInt32) &&& (1431655765 : Int32))).toUInt32 >>> ((2 : Int32).toUInt32 &&& Int32.toUInt32 31)).toInt32) &&& (858993459 : Int32))) + ((((((nI s) - ((((nI s).toUInt32 >>> ((1 : Int32).toUInt32 &&& Int32.toUInt32 31)).toInt32) &&& (1431655765 : Int32))) &&& (858993459 : Int32)) + (((((nI s) - ((((nI s).toUInt32 >>> ((1 : Int32).toUInt32 &&& Int32.toUInt32 31)).toInt32) &&& (1431655765 : Int32))).toUInt32 >>> ((2 : Int32).toUInt32 &&& Int32.toUInt32 31)).toInt32) &&& (858993459 : Int32))).toUInt32 >>> ((4 : Int32).toUInt32 &&& Int32.toUInt32 31)).toInt32)) &&& (252645135 : Int32)) + ((((((((nI s) - ((((nI s).toUInt32 >>> ((1 : Int32).toUInt32 &&& Int32.toUInt32 31)).toInt32) &&& (1431655765 : Int32))) &&& (858993459 : Int32)) + (((((nI s) - ((((nI s).toUInt32 >>> ((1 : Int32).toUInt32 &&& Int32.toUInt32 31)).toInt32) &&& (1431655765 : Int32))).toUInt32 >>> ((2 : Int32).toUInt32 &&& Int32.toUInt32 31)).toInt32) &&& (858993459 : Int32))) + ((((((nI s) - ((((nI s).toUInt32 >>> ((1 : Int32).toUInt32 &&& Int32.toUInt32 31)).toInt32) &&& (1431655765 : Int32))) &&& (858993459 : Int32)) + (((((nI s) - ((((nI s).toUInt32 >>> ((1 : Int32).toUInt32 &&& Int32.toUInt32 31)).toInt32) &&& (1431655765 : Int32))).toUInt32 >>> ((2 : Int32).toUInt32 &&& Int32.toUInt32 31)).toInt32) &&& (858993459 : Int32))).toUInt32 >>> ((4 : Int32).toUInt32 &&& Int32.toUInt32 31)).toInt32)) &&& (252645135 : Int32)).toUInt32 >>> ((8 : Int32).toUInt32 &&& Int32.toUInt32 31)).toInt32)).toUInt32 >>> ((16 : Int32).toUInt32 &&& Int32.toUInt32 31)).toInt32)) &&& (63 : Int32)) = nI (popN s) := by decide +kernel
theorem C_bitCount {s : Nat} (hs : s < 64) {F : FT} {R : RT} {J : JT} {P : PT} {B : BT} {K : Int32 → FT → RT → JT → PT → BT → Prop} (hK : K (nI (popN s)) F R J P B) : qJ_bitCount F R J P B (nI s) K := by
  unfold qJ_bitCount
  rw [pop_c s hs]
  exact hK
theorem pop_1 : ∀ s, s < 64 → s ≠ 0 → (nI s &&& (nI s - 1)) = nI (s &&& (s - 1)) ∧ s &&& (s - 1) < 64 ∧ popN (s &&& (s - 1)) + 1 = popN s := by decide +kernel
theorem pop_0 : ∀ s, s < 64 → popN s = 0 → s = 0 := by decide +kernel
theorem pop_6 : ∀ s, s < 64 → popN s ≤ 6 := by decide +kernel
theorem pop_8 : ∀ s, s < 8 → popN s ≤ 3 := by decide +kernel
theorem M_many_4 {F : FT} {R : RT} {J : JT} {K : Int32 → FT → RT → JT → Prop} : ∀ m s c, s < 64 → popN s ≤ m → K (nI (c + popN s)) F R J → qM_many_4 (m + 1) F R J (nI c) (nI s) K := by
  intro m
  induction m with
  | zero =>
    intro s c hs hm hK
    have h0 := pop_0 s hs (by omega)
    subst h0
    unfold qM_many_4
    exact ⟨fun _ => hK, fun c => absurd rfl c⟩
  | succ m ih =>
    intro s c hs hm hK
    unfold qM_many_4
    refine ⟨fun e => ?_, fun e => ?_⟩
    · have := (n_eq (b := 0) (by omega) (by omega)).mp e
      subst this
      exact hK
    · obtain ⟨p1, p2, p3⟩ := pop_1 s hs (fun h => e (by rw [h]; rfl))
      rw [p1, nI_1]
      refine ih _ _ p2 (by omega) ?_
      rw [show c + 1 + popN (s &&& (s - 1)) = c + popN s by omega]
      exact hK
theorem M_many {s : Nat} (hs : s < 64) {F : FT} {R : RT} {J : JT} {K : Int32 → FT → RT → JT → Prop} (hK : K (nI (popN s)) F R J) : qM_many F R J (nI s) K := ⟨7, M_many_4 6 s 0 hs (pop_6 s hs) (by rw [Nat.zero_add]; exact hK)⟩
theorem lg_0 {x y : Int64} : lg_cmp x y = 0 ↔ x = y := by
  unfold lg_cmp
  by_cases h1 : y < x
  · have h2 : x ≠ y := fun e => by rw [e] at h1; exact Int64.lt_irrefl h1
    simp [h1, h2]
  · by_cases h2 : x = y
    · simp [h2, Int64.lt_irrefl]
    · simp [h1, h2]
/-- the weathers that fit -/
def fit (x : Nat → Nat) (b : Nat → Nat → Nat) (l co : Nat) (t : Int64) : Nat → Nat
  | 0 => 0
  | w + 1 => if (nI (bh0 x b w l co)).toInt64 = t then fit x b l co t w ||| 2 ^ w else fit x b l co t w
theorem fit_lt {x : Nat → Nat} {b : Nat → Nat → Nat} {l co : Nat} {t : Int64} : ∀ w, fit x b l co t w < 2 ^ w := by
  intro w
  induction w with
  | zero => simp [fit]
  | succ w ih =>
    unfold fit
    have h1 : fit x b l co t w < 2 ^ (w + 1) := Nat.lt_trans ih (Nat.pow_lt_pow_right (by omega) (by omega))
    split
    · exact Nat.or_lt_two_pow h1 (Nat.pow_lt_pow_right (by omega) (by omega))
    · exact h1
theorem fit_8 {x : Nat → Nat} {b : Nat → Nat → Nat} {l co : Nat} {t : Int64} {w : Nat} (hw : w ≤ 3) : fit x b l co t w < 8 := Nat.lt_of_lt_of_le (fit_lt w) (Nat.pow_le_pow_right (n := 2) (by omega) hw)
theorem fit_ne {x : Nat → Nat} {b : Nat → Nat → Nat} {l co : Nat} {t : Int64} : ∀ w, fit x b l co t w ≠ 0 → ∃ v, (nI (bh0 x b v l co)).toInt64 = t := by
  intro w
  induction w with
  | zero => intro h; exact absurd rfl h
  | succ w ih =>
    intro h
    unfold fit at h
    by_cases e : (nI (bh0 x b w l co)).toInt64 = t
    · exact ⟨w, e⟩
    · rw [if_neg e] at h; exact ih h
theorem C_fit {x : Nat → Nat} {b h p : Nat → Nat → Nat} {F : FT} {R : RT} {J : JT} {P : PT} {B : BT} (A : AOK x b h p) (H : CS 100 x b h p F R P B) {l co : Nat} {t : Int64} (hl : l ≤ x 0) (hc : co ≤ 200) {K : Int32 → FT → RT → JT → PT → BT → Prop} (hK : K (nI (fit x b l co t 3)) F R J P B) : ∀ m w, w + m = 3 → ∃ n, qW_fittingWeathers_6 n F R J P B (nI l) t (nI co) (nI (fit x b l co t w)) (nI w) K := by
  intro m
  induction m with
  | zero =>
    intro w hw
    have hw : w = 3 := by omega
    subst hw
    refine ⟨1, ?_⟩
    unfold qW_fittingWeathers_6
    exact ⟨fun _ => hK, fun c => absurd (by decide) c⟩
  | succ m ih =>
    intro w hw
    obtain ⟨n, hn⟩ := ih (w + 1) (by omega)
    refine ⟨n + 1, ?_⟩
    unfold qW_fittingWeathers_6
    refine pk_le 3 w (fun c => by omega) (fun _ => C_behind A H (by omega) hl hc ?_)
    unfold qW_fittingWeathers_39
    rw [lg_0, nI_1]
    have f8 := fit_8 (x := x) (b := b) (l := l) (co := co) (t := t) (w := w) (by omega)
    refine ⟨fun c => ?_, fun c => ?_⟩
    · rw [show fit x b l co t (w + 1) = fit x b l co t w from if_neg c] at hn; exact hn
    · rw [show fit x b l co t (w + 1) = fit x b l co t w ||| 2 ^ w from if_pos c] at hn
      have p2 : 2 ^ w < 2 ^ 3 := Nat.pow_lt_pow_right (by omega) (by omega)
      rw [shl_k w (by omega), nI_or _ _ (by omega) (by omega)]; exact hn
theorem M_fit {x : Nat → Nat} {b h p : Nat → Nat → Nat} {F : FT} {R : RT} {J : JT} (A : AOK x b h p) (M : MS x b h p (R 0) (R 8) (F 9)) (hf : F 1 = -1) {k105 : FT → RT → JT → Int32 → Int32 → Int32 → Int32 → Int32 → Int32 → Int32 → Int32 → Prop} {v1 v3 v4 v5 v8 v9 : Int32} {k l : Nat} {t : Int64} (hk : k ≤ 8) (hl : l ≤ x 0) {K : Int32 → FT → RT → JT → Prop} (hK : ∀ z, z = (if nI k = v5 then nI (fit x b l (if k = 0 then cst h (x 12) (x 7) else 0) t 3) else v9) → qM_weather_209 k105 F R J v1 v3 v4 v5 (nI l) v8 (nI k) t (nI (fit x b l (if k = 0 then cst h (x 12) (x 7) else 0) t 3)) z K) : ∀ m w, w + m = 3 → ∃ n, qM_weather_139 n k105 F R J v1 v3 v4 v5 (nI l) v8 v9 (nI k) t (nI (fit x b l (if k = 0 then cst h (x 12) (x 7) else 0) t w)) (nI w) K := by
  have ac := Acst A (x 7)
  have g9 : R 0 9 = nI (cst h (x 12) (x 7)) := M.1.2.2.2
  intro m
  induction m with
  | zero =>
    intro w hw
    have hw : w = 3 := by omega
    subst hw
    refine ⟨1, ?_⟩
    unfold qM_weather_139
    exact ⟨fun _ => ⟨fun c => hK _ (if_neg c).symm, fun c => hK _ (if_pos c).symm⟩, fun c => absurd (by decide) c⟩
  | succ m ih =>
    intro w hw
    obtain ⟨n, hn⟩ := ih (w + 1) (by omega)
    refine ⟨n + 1, ?_⟩
    unfold qM_weather_139
    have go : ∀ co, co = (if k = 0 then cst h (x 12) (x 7) else 0) → qM_weather_168 k105 (fun F R J v1 v3 v4 v5 v7 v8 v9 v10 v11 v13 v14 => qM_weather_139 n k105 F R J v1 v3 v4 v5 v7 v8 v9 v10 v11 v13 v14 K) F R J v1 v3 v4 v5 (nI l) v8 v9 (nI k) t (nI w) (nI co) (nI l) (nI w) (nI (fit x b l (if k = 0 then cst h (x 12) (x 7) else 0) t w)) K := by
      intro co hco
      rw [← hco] at hn ⊢
      unfold qM_weather_168
      refine M_behind0 A M (by omega) hl (by rw [hco]; split <;> omega) hf ?_
      unfold qM_weather_186
      rw [lg_0, nI_1]
      have f8 := fit_8 (x := x) (b := b) (l := l) (co := co) (t := t) (w := w) (by omega)
      refine ⟨fun c => ?_, fun c => ?_⟩
      · rw [show fit x b l co t (w + 1) = fit x b l co t w from if_neg c] at hn
        rw [show (0 : Int32) = nI 0 from rfl, nI_or _ _ (by omega) (by omega), Nat.or_zero]; exact hn
      · rw [show fit x b l co t (w + 1) = fit x b l co t w ||| 2 ^ w from if_pos c] at hn
        have p2 : 2 ^ w < 2 ^ 3 := Nat.pow_lt_pow_right (by omega) (by omega)
        rw [shl_k w (by omega), nI_or _ _ (by omega) (by omega)]; exact hn
    refine pk_le 3 w (fun c => by omega) (fun _ => ⟨fun c => go 0 ?_, fun c => ?_⟩)
    · rw [if_neg (fun e => c (by rw [e]; rfl))]
    · rw [g9]
      refine go _ ?_
      rw [if_pos ((n_eq (b := 0) (by omega) (by omega)).mp c)]
/-- the answer of weather -/
def weN (x : Nat → Nat) (b h : Nat → Nat → Nat) (t : Nat → Int64) (d : Int32) : Nat → Nat → Nat → Nat → Int32 → Int32
  | 0, _, _, r, q => if 0 ≤ d then q else nI r
  | m + 1, k, l, r, q => if fit x b l (if k = 0 then cst h (x 12) (x 7) else 0) (t k) 3 = 0 then 0 else weN x b h t d m (k + 1) ((t k).toInt32.toNatClampNeg) (r * popN (fit x b l (if k = 0 then cst h (x 12) (x 7) else 0) (t k) 3)) (if nI k = d then nI (fit x b l (if k = 0 then cst h (x 12) (x 7) else 0) (t k) 3) else q)
theorem told_n {x : Nat → Nat} {b : Nat → Nat → Nat} {l co : Nat} {t : Int64} (hx : x 0 ≤ 200) (hl : l ≤ x 0) (h : fit x b l co t 3 ≠ 0) : ∃ l', l' ≤ x 0 ∧ t.toInt32 = nI l' ∧ t.toInt32.toNatClampNeg = l' := by
  obtain ⟨v, hv⟩ := fit_ne 3 h
  have hb : bh0 x b v l co ≤ x 0 := (bhN_ge hl).2
  have e : t.toInt32 = nI (bh0 x b v l co) := by rw [← hv, Int32.toInt32_toInt64]
  exact ⟨_, hb, e, by rw [e, nI_clamp (by omega)]⟩
theorem rows_le {r f m : Nat} (hf : f ≤ 3) (h : r * 3 ^ (m + 1) ≤ 6561) : r * f * 3 ^ m ≤ 6561 := by
  refine Nat.le_trans ?_ h
  rw [Nat.pow_succ', ← Nat.mul_assoc]
  exact Nat.mul_le_mul_right _ (Nat.mul_le_mul_left _ hf)
theorem rows_b {r m : Nat} (h : r * 3 ^ m ≤ 6561) : r ≤ 6561 := Nat.le_trans (Nat.le_mul_of_pos_right r (Nat.pow_pos (by omega))) h
theorem C_we {x : Nat → Nat} {b h p : Nat → Nat → Nat} {F : FT} {R : RT} {J : JT} {P : PT} {B : BT} (A : AOK x b h p) (H : CS 100 x b h p F R P B) {s i n : Nat} {t : Nat → Int64} {d : Int32} (hn : i + n ≤ 24) (hn8 : n ≤ 8) (ht : ∀ k, k < n → J (503 + 100 * s) (i + k) = t k) {K : Int32 → FT → RT → JT → PT → BT → Prop} : ∀ m k l r q, k + m = n → l ≤ x 0 → r * 3 ^ m ≤ 6561 → K (weN x b h t d m k l r q) F R J P B → ∃ z, qW_weatherOf_18 s z F R J P B (nI i) (nI n) d (nI l) (nI r) q (nI k) K := by
  have a1 := A.1
  have ac := Acst A (x 7)
  intro m
  induction m with
  | zero =>
    intro k l r q hk hl hr hK
    refine ⟨1, ?_⟩
    unfold qW_weatherOf_18
    unfold weN at hK
    refine pk_le n k (fun _ => ⟨fun c => ?_, fun c => ?_⟩) (fun c => by omega)
    · rw [if_pos c] at hK; exact hK
    · rw [if_neg c] at hK; exact hK
  | succ m ih =>
    intro k l r q hk hl hr hK
    unfold weN at hK
    have f8 := fit_8 (x := x) (b := b) (l := l) (co := if k = 0 then cst h (x 12) (x 7) else 0) (t := t k) (w := 3) (by omega)
    have ix : nI i + nI k = nI (i + k) := nI_add i k
    have vi : vp_in (nI (i + k)) 24 := vp_in_nI (by omega) (by omega)
    have key : ∃ z, ∀ co, co = (if k = 0 then cst h (x 12) (x 7) else 0) → qW_weatherOf_49 s (fun F R J P B v2 v3 v4 v5 v6 v7 v8 => qW_weatherOf_18 s z F R J P B v2 v3 v4 v5 v6 v7 v8 K) F R J P B (nI i) (nI n) d (nI r) q (nI k) (nI co) (t k) (nI l) K := by
      by_cases f0 : fit x b l (if k = 0 then cst h (x 12) (x 7) else 0) (t k) 3 = 0
      · rw [if_pos f0] at hK
        refine ⟨0, fun co hco => ?_⟩
        rw [← hco] at f0
        refine C_fit A H hl (by rw [hco]; split <;> omega) ?_ 3 0 rfl
        rw [f0]
        exact ⟨fun c => absurd rfl c, fun _ => hK⟩
      · rw [if_neg f0] at hK
        obtain ⟨l', hl', e1, e2⟩ := told_n (by omega) hl f0
        rw [e2] at hK
        obtain ⟨z, hz⟩ := ih (k + 1) l' _ _ (by omega) hl' (rows_le (pop_8 _ f8) hr) hK
        refine ⟨z, fun co hco => ?_⟩
        rw [← hco] at f0 hz f8
        refine C_fit A H hl (by rw [hco]; split <;> omega) ?_ 3 0 rfl
        refine ⟨fun _ => C_bitCount (by omega) ?_, fun c => absurd ((n_eq (b := 0) (by omega) (by omega)).mp c) f0⟩
        unfold qW_weatherOf_82
        rw [ix, nI_clamp (n := i + k) (by omega), ht k (by omega), e1, pk_mul, nI_1]
        refine ⟨fun c => ⟨vi, ?_⟩, fun c => ⟨vi, ?_⟩⟩
        · rw [if_neg c] at hz; exact hz
        · rw [if_pos c] at hz; exact hz
    obtain ⟨z, hz⟩ := key
    refine ⟨z + 1, ?_⟩
    unfold qW_weatherOf_18
    rw [ix, nI_clamp (n := i + k) (by omega), ht k (by omega)]
    refine pk_le n k (fun c => by omega) (fun _ => ⟨vi, fun c => hz 0 ?_, fun c => C_costToday A H (hz _ ?_)⟩)
    · rw [if_neg (fun e => c (by rw [e]; rfl))]
    · rw [if_pos ((n_eq (b := 0) (by omega) (by omega)).mp c)]
theorem M_we {x : Nat → Nat} {b h p : Nat → Nat → Nat} {F : FT} {R : RT} {J : JT} (A : AOK x b h p) (M : MS x b h p (R 0) (R 8) (F 9)) (hf : F 1 = -1) {s i n : Nat} {t : Nat → Int64} {d : Int32} (hs : s ≤ 3) (hn : i + n ≤ 24) (hn8 : n ≤ 8) (ht : ∀ k, k < n → J 18 (24 * s + i + k) = t k) {K : Int32 → FT → RT → JT → Prop} : ∀ m k l r q, k + m = n → l ≤ x 0 → 1 ≤ r → r * 3 ^ m ≤ 6561 → K (weN x b h t d m k l r q) F R J → ∃ z, qM_weather_105 z F R J (nI s) (nI i) (nI n) d (nI l) (nI r) q (nI k) K := by
  have a1 := A.1
  intro m
  induction m with
  | zero =>
    intro k l r q hk hl hr1 hr hK
    have := rows_b hr
    refine ⟨1, ?_⟩
    unfold qM_weather_105 qM_weather_242
    unfold weN at hK
    refine pk_le n k (fun _ => ⟨fun c => ⟨fun _ => ?_, fun e => ?_⟩, fun c => ?_⟩) (fun c => by omega)
    · rw [if_pos c] at hK; exact hK
    · have := (n_eq (b := 0) (by omega) (by omega)).mp e; omega
    · rw [if_neg c] at hK; exact hK
  | succ m ih =>
    intro k l r q hk hl hr1 hr hK
    have rb := rows_b hr
    unfold weN at hK
    have f8 := fit_8 (x := x) (b := b) (l := l) (co := if k = 0 then cst h (x 12) (x 7) else 0) (t := t k) (w := 3) (by omega)
    have vi : vp_in (nI (24 * s + i + k)) 96 := vp_in_nI (by omega) (by omega)
    have key : ∃ z, ∀ y, y = (if nI k = d then nI (fit x b l (if k = 0 then cst h (x 12) (x 7) else 0) (t k) 3) else q) → qM_weather_209 (fun F R J v1 v3 v4 v5 v7 v8 v9 v10 => qM_weather_105 z F R J v1 v3 v4 v5 v7 v8 v9 v10 K) F R J (nI s) (nI i) (nI n) d (nI l) (nI r) (nI k) (t k) (nI (fit x b l (if k = 0 then cst h (x 12) (x 7) else 0) (t k) 3)) y K := by
      by_cases f0 : fit x b l (if k = 0 then cst h (x 12) (x 7) else 0) (t k) 3 = 0
      · rw [if_pos f0] at hK
        refine ⟨1, fun y hy => ?_⟩
        rw [f0]
        unfold qM_weather_209
        refine M_many (by omega) ?_
        rw [show popN 0 = 0 from rfl, pk_mul, Nat.mul_zero]
        refine ⟨fun _ => ?_, fun c => absurd (by decide) c⟩
        unfold qM_weather_234
        have fin : qM_weather_242 F R J d (nI 0) y K := ⟨fun _ => ⟨fun c => absurd rfl c, fun _ => hK⟩, fun _ => hK⟩
        unfold qM_weather_105
        exact ⟨fun _ => fin, fun _ => ⟨fun _ => fin, fun c => absurd (by decide) c⟩⟩
      · rw [if_neg f0] at hK
        obtain ⟨l', hl', e1, e2⟩ := told_n (by omega) hl f0
        rw [e2] at hK
        have p0 : popN (fit x b l (if k = 0 then cst h (x 12) (x 7) else 0) (t k) 3) ≠ 0 := fun e => f0 (pop_0 _ (by omega) e)
        have rr := rows_le (pop_8 _ f8) hr
        have r1 : 1 ≤ r * popN (fit x b l (if k = 0 then cst h (x 12) (x 7) else 0) (t k) 3) := Nat.mul_pos hr1 (Nat.pos_of_ne_zero p0)
        obtain ⟨z, hz⟩ := ih (k + 1) l' _ _ (by omega) hl' r1 rr hK
        refine ⟨z, fun y hy => ?_⟩
        rw [← hy] at hz
        unfold qM_weather_209
        refine M_many (by omega) ?_
        have rb2 := rows_b rr
        rw [pk_mul]
        unfold qM_weather_234
        rw [e1, nI_1]
        exact ⟨fun c => absurd c (nI_nle r1 (by omega)), fun _ => hz⟩
    obtain ⟨z, hz⟩ := key
    refine ⟨z + 1, ?_⟩
    unfold qM_weather_105
    rw [ix_24b, nI_clamp (n := 24 * s + i + k) (by omega), ht k (by omega)]
    exact pk_le n k (fun c => by omega) (fun _ => ⟨fun c => absurd c (nI_nle hr1 (by omega)), fun _ => ⟨vi, M_fit A M hf (by omega) hl hz 3 0 rfl⟩⟩)
theorem T_weather (F : FT) (R : RT) (J : JT) (P : PT) (B : BT) (F0 : FT) (R0 : RT) (J0 : JT) (a1 a2 a3 a4 a5 : Int32) (I : INV F R J P B F0 R0 J0) : qW_weather F R J P B a1 a2 a3 a4 a5 (fun r F R J P B => qM_weather F0 R0 J0 a1 a2 a3 a4 a5 (fun r0 F0 R0 J0 => r = r0 ∧ INV F R J P B F0 R0 J0)) := by
  obtain ⟨x, b, h, p, A, H, M⟩ := id I.1
  have hfa : F0 1 = -1 := I.2.2.2.2
  have ax := A.1
  unfold qW_weather
  rcases rg a1 0 3 with hr | ⟨s, -, hs, rfl⟩
  · exact ws_n hr ⟨fun _ => ms_n hr ⟨fun _ => ⟨rfl, I⟩, fun c => absurd rfl c⟩, fun c => absurd rfl c⟩
  refine ws_y hs ⟨fun c => absurd c (by decide), fun _ => ?_⟩
  rcases rg a2 0 3 with hr | ⟨l, -, hl, rfl⟩
  · exact wl_n hr ⟨fun _ => ms_y hs ⟨fun c => absurd c (by decide), fun _ => ml_n hr ⟨fun _ => ⟨rfl, I⟩, fun c => absurd rfl c⟩⟩, fun c => absurd rfl c⟩
  refine wl_y hl ⟨fun c => absurd c (by decide), fun _ => ?_⟩
  rcases rg a4 1 8 with hr | ⟨n, hn1, hn, rfl⟩
  · exact wi_n hr ⟨fun _ => ms_y hs ⟨fun c => absurd c (by decide), fun _ => ml_y hl ⟨fun c => absurd c (by decide), fun _ => mi_n hr ⟨fun _ => ⟨rfl, I⟩, fun c => absurd rfl c⟩⟩⟩, fun c => absurd rfl c⟩
  have tn : (nI n).toInt = n := t_n (by omega)
  have n1 : ((1 : Int32)).toInt ≤ (nI n).toInt := by rw [tn]; exact Int.ofNat_le.mpr hn1
  have n2 : (nI n).toInt ≤ ((8 : Int32)).toInt := by rw [tn]; exact Int.ofNat_le.mpr hn
  refine wi_y n1 n2 ⟨fun c => absurd c (by decide), fun _ => ?_⟩
  by_cases hr : a5.toInt < ((-1 : Int32)).toInt ∨ (nI n - 1).toInt < a5.toInt
  · exact wi_n hr ⟨fun c => absurd rfl c, fun _ => ms_y hs ⟨fun c => absurd c (by decide), fun _ => ml_y hl ⟨fun c => absurd c (by decide), fun _ => mi_y n1 n2 ⟨fun c => absurd c (by decide), fun _ => mi_n (by rw [t_64]; exact hr) ⟨fun c => absurd rfl c, fun _ => ⟨rfl, I⟩⟩⟩⟩⟩⟩
  have d1 : ((-1 : Int32)).toInt ≤ a5.toInt := by omega
  have d2 : a5.toInt ≤ (nI n - 1).toInt := by omega
  refine wi_y d1 d2 ⟨fun _ => ⟨vp_in_nI (by omega) (by omega), ?_⟩, fun c => absurd c (by decide)⟩
  have mgo : ∀ K : Int32 → FT → RT → JT → Prop, qM_why F0 R0 J0 (nI s) (nI l) a3 (nI n) (fun r9 F9 R9 J9 => (0 ≤ r9 → ((nI n ≤ ((R9 0 3) - (R9 0 6)) → (∃ n105, qM_weather_105 n105 F9 R9 J9 (nI s) a3 (nI n) a5 (R9 0 7) (1 : Int32) (0 : Int32) (0 : Int32) K)) ∧ (¬ nI n ≤ ((R9 0 3) - (R9 0 6)) → (K (-2 : Int32) F9 R9 J9)))) ∧ (¬ 0 ≤ r9 → (K r9 F9 R9 J9))) → qM_weather F0 R0 J0 (nI s) (nI l) a3 (nI n) a5 K := fun K hK => ms_y hs ⟨fun c => absurd c (by decide), fun _ => ml_y hl ⟨fun c => absurd c (by decide), fun _ => mi_y n1 n2 ⟨fun c => absurd c (by decide), fun _ => mi_y d1 (by rw [t_64]; exact d2) ⟨fun _ => hK, fun c => absurd c (by decide)⟩⟩⟩⟩
  rw [nI_clamp (n := s) (by omega)]
  rcases fw (R := R) (P := P) (B := B) (F0 := F0) I.2.2.2.1 hs hl a3 (nI n) with ⟨r, hr, f1, f2⟩ | ⟨a, m, sz, rfl, em, hc, hsz, e2, e1, f1, f2⟩
  · have r0 : ¬ r = 0 := fun e => by rw [e] at hr; exact absurd hr (by decide)
    refine f1 _ ⟨fun c => absurd c r0, fun _ => mgo _ (f2 _ ⟨fun c => ?_, fun _ => ⟨rfl, I⟩⟩)⟩
    rw [t_le] at c; rw [t_lt] at hr; omega
  · have em := (n_eq (a := n) (b := m) (by omega) (by omega)).mp em
    subst em
    refine f1 _ ⟨fun _ => ?_, fun c => absurd rfl c⟩
    have q1 : F 101 = nI (x 1) := H.n 1 (by decide)
    have q4 : F 104 = nI (x 4) := H.n 4 (by decide)
    have g3 : R0 0 3 = nI (x 1) := M.1.1 1 (by decide) (by decide)
    have g6 : R0 0 6 = nI (x 4) := M.1.1 4 (by decide) (by decide)
    rw [q1, q4]
    refine ⟨fun c => ⟨vp_in_nI (by omega) (by omega), ?_⟩, fun c => mgo _ (f2 _ ⟨fun _ => ?_, fun c => absurd (by decide) c⟩)⟩
    · unfold qW_weatherOf
      rw [show F 105 = nI (x 5) from H.n 5 (by decide)]
      have r6 : 1 * 3 ^ n ≤ 6561 := by rw [Nat.one_mul]; exact Nat.pow_le_pow_right (n := 3) (by omega) hn
      refine C_we A H (s := s) (t := fun k => J0 18 (24 * s + a + k)) (by omega) hn (fun k hk => ?_) n 0 (x 5) 1 0 (by omega) (by omega) r6 (mgo _ (f2 _ ⟨fun _ => ?_, fun c => absurd (by decide) c⟩))
      · obtain ⟨_, _, _, _, _, _, h5, _⟩ := I.2.2.2.1 s (by omega)
        rw [h5 _ (by omega)]
        exact congrArg (J0 18) (by omega)
      · rw [g3, g6]
        refine ⟨fun _ => ?_, fun q => absurd c q⟩
        rw [show R0 0 7 = nI (x 5) from M.1.1 5 (by decide) (by decide)]
        exact M_we A M hfa hs (by omega) hn (fun k hk => rfl) n 0 (x 5) 1 0 (by omega) (by omega) (by omega) r6 ⟨rfl, I⟩
    · rw [g3, g6]
      exact ⟨fun q => absurd q c, fun _ => ⟨rfl, I⟩⟩
