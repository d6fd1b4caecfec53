/-! ===== the pure part: copy, film ===== -/
def hasP (i n : Int32) (sz : Nat) : Prop := ∃ a m : Nat, i = nI a ∧ n = nI m ∧ a + m ≤ sz
theorem C_has_y {s sz : Nat} {F : FT} {R : RT} {J : JT} {P : PT} {B : BT} {i n : Int32} (h2 : sz ≤ 24) (e : F (502 + 100 * s) = nI sz) (hp : hasP i n sz) {K : Int32 → FT → RT → JT → PT → BT → Prop} (k : K 1 F R J P B) : qH_has s F R J P B i n K := by
  obtain ⟨a, m, rfl, rfl, hc⟩ := hp
  unfold qH_has
  rw [e]
  exact ⟨fun c => absurd c (nI_pos (by omega)), fun _ => ⟨fun c => absurd c (nI_pos (by omega)), fun _ => ⟨fun c => by have := (has_n h2 (by omega) (by omega)).mp c; omega, fun _ => k⟩⟩⟩
theorem C_has_n {s sz : Nat} {F : FT} {R : RT} {J : JT} {P : PT} {B : BT} {i n : Int32} (h2 : sz ≤ 24) (e : F (502 + 100 * s) = nI sz) (hp : ¬ hasP i n sz) {K : Int32 → FT → RT → JT → PT → BT → Prop} (k : K 0 F R J P B) : qH_has s F R J P B i n K := by
  unfold qH_has
  rw [e]
  refine ⟨fun _ => k, fun c => ⟨fun _ => k, fun c2 => ⟨fun _ => k, fun c3 => absurd ?_ hp⟩⟩⟩
  obtain ⟨a, ha, rfl⟩ := nI_of c
  obtain ⟨m, hm, rfl⟩ := nI_of c2
  rw [has_n h2 ha hm] at c3
  exact ⟨a, m, rfl, rfl, by omega⟩
theorem M_why_y {s sz l : Nat} {F : FT} {R : RT} {J : JT} {i n : Int32} (hs : s ≤ 3) (hl : l ≤ 3) (h2 : sz ≤ 24) (e : R 17 s = nI sz) (e1 : R 16 s = nI l) (hp : hasP i n sz) {K : Int32 → FT → RT → JT → Prop} (k : K 0 F R J) : qM_why F R J (nI s) (nI l) i n K := by
  obtain ⟨a, m, rfl, rfl, hc⟩ := hp
  have vi : vp_in (nI s) 4 := vp_in_nI (by omega) (by omega)
  unfold qM_why
  rw [nI_clamp (n := s) (by omega), e, e1]
  exact ⟨vi, fun _ => ⟨vi, fun _ => ⟨fun c => absurd c (nI_pos (by omega)), fun _ => ⟨fun c => absurd c (nI_pos (by omega)), fun _ => ⟨vi, fun _ => k, fun c => absurd ((why_n h2 (by omega) (by omega)).mpr hc) c⟩⟩⟩, fun c => absurd rfl c⟩, fun c => absurd (nI_pos' (by omega)) c⟩
theorem M_why_n {s sz l : Nat} {F : FT} {R : RT} {J : JT} {i n : Int32} (hs : s ≤ 3) (hl : l ≤ 3) (h2 : sz ≤ 24) (e : R 17 s = nI sz) (e1 : R 16 s = nI l) (hp : ¬ hasP i n sz) {K : Int32 → FT → RT → JT → Prop} (k : K (-13) F R J) : qM_why F R J (nI s) (nI l) i n K := by
  have vi : vp_in (nI s) 4 := vp_in_nI (by omega) (by omega)
  unfold qM_why
  rw [nI_clamp (n := s) (by omega), e, e1]
  refine ⟨vi, fun _ => ⟨vi, fun _ => ⟨fun _ => k, fun c => ⟨fun _ => k, fun c2 => ⟨vi, fun c3 => absurd ?_ hp, fun _ => k⟩⟩⟩, fun c => absurd rfl c⟩, fun c => absurd (nI_pos' (by omega)) c⟩
  obtain ⟨a, ha, rfl⟩ := nI_of c
  obtain ⟨m, hm, rfl⟩ := nI_of c2
  exact ⟨a, m, rfl, rfl, (why_n h2 ha hm).mp c3⟩
theorem M_why_c {s l l2 : Nat} {F : FT} {R : RT} {J : JT} {i n : Int32} (hs : s ≤ 3) (hl : l ≤ 3) (hl2 : l2 ≤ 3) (e1 : R 16 s = nI l) (ne : l ≠ l2) {K : Int32 → FT → RT → JT → Prop} (k : K (-12) F R J) : qM_why F R J (nI s) (nI l2) i n K := by
  have vi : vp_in (nI s) 4 := vp_in_nI (by omega) (by omega)
  unfold qM_why
  rw [nI_clamp (n := s) (by omega), e1]
  exact ⟨vi, fun _ => ⟨vi, fun c => absurd ((n_eq (by omega) (by omega)).mp c) ne, fun _ => k⟩, fun c => absurd (nI_pos' (by omega)) c⟩
theorem ix_24b {s j k : Nat} : (24 : Int32) * nI s + nI j + nI k = nI (24 * s + j + k) := by rw [ix_24, nI_add]
theorem M_cp2 {t j n : Nat} (ht : t ≤ 3) (hj : j + n ≤ 24) {F : FT} {R : RT} {J : JT} {K : Int32 → FT → RT → JT → Prop} (hK : ∀ J', (∀ i, i < n → J' 18 (24 * t + j + i) = J 19 i) → (∀ q, ¬ (24 * t + j ≤ q ∧ q < 24 * t + j + n) → J' 18 q = J 18 q) → K (nI n) F R J') : ∀ m k J', k + m = n → (∀ i, i < k → J' 18 (24 * t + j + i) = J 19 i) → (∀ q, ¬ (24 * t + j ≤ q ∧ q < 24 * t + j + n) → J' 18 q = J 18 q) → J' 19 = J 19 → qM_copy_128 (m + 1) F R J' (nI t) (nI j) (nI n) (nI k) K := by
  intro m
  induction m with
  | zero =>
    intro k J' hk h1 h2 h3
    unfold qM_copy_128
    exact pk_le n k (fun _ => hK J' (fun i hi => h1 i (by omega)) h2) (fun c => by omega)
  | succ m ih =>
    intro k J' hk h1 h2 h3
    unfold qM_copy_128
    rw [ix_24b, nI_1, nI_clamp (n := k) (by omega), nI_clamp (n := 24 * t + j + k) (by omega)]
    refine pk_le n k (fun c => by omega) (fun _ => ⟨vp_in_nI (by omega) (by omega), vp_in_nI (by omega) (by omega), ih (k + 1) _ (by omega) (fun i hi => ?_) (fun q hq => ?_) (by rw [vu_ne (by decide)]; exact h3)⟩)
    · rw [vu_eq]
      by_cases e : i = k
      · subst e; rw [pk_uLs, h3]
      · rw [pk_uLn (by omega)]; exact h1 i (by omega)
    · rw [vu_eq, pk_uLn (by omega)]; exact h2 q hq
theorem M_cp1 {s i t j n : Nat} (hs : s ≤ 3) (ht : t ≤ 3) (hi : i + n ≤ 24) (hj : j + n ≤ 24) {F : FT} {R : RT} {J : JT} {K : Int32 → FT → RT → JT → Prop} (hK : ∀ J', (∀ q, q < n → J' 18 (24 * t + j + q) = J 18 (24 * s + i + q)) → (∀ q, ¬ (24 * t + j ≤ q ∧ q < 24 * t + j + n) → J' 18 q = J 18 q) → K (nI n) F R J') : ∀ m k J', k + m = n → (∀ q, q < k → J' 19 q = J 18 (24 * s + i + q)) → J' 18 = J 18 → qM_copy_91 (m + 1) F R J' (nI s) (nI i) (nI t) (nI j) (nI n) (nI k) K := by
  intro m
  induction m with
  | zero =>
    intro k J' hk h1 h2
    unfold qM_copy_91
    refine pk_le n k (fun _ => ⟨n + 1, M_cp2 ht hj (J := J') (fun J2 g1 g2 => hK J2 (fun q hq => ?_) (fun q hq => ?_)) n 0 J' (by omega) (fun q hq => absurd hq (Nat.not_lt_zero q)) (fun _ _ => rfl) rfl⟩) (fun c => by omega)
    · rw [g1 q hq, h1 q (by omega)]
    · rw [g2 q hq, h2]
  | succ m ih =>
    intro k J' hk h1 h2
    unfold qM_copy_91
    rw [ix_24b, nI_1, nI_clamp (n := k) (by omega), nI_clamp (n := 24 * s + i + k) (by omega)]
    refine pk_le n k (fun c => by omega) (fun _ => ⟨vp_in_nI (by omega) (by omega), vp_in_nI (by omega) (by omega), ih (k + 1) _ (by omega) (fun q hq => ?_) (by rw [vu_ne (by decide)]; exact h2)⟩)
    rw [vu_eq]
    by_cases e : q = k
    · subst e; rw [pk_uLs, h2]
    · rw [pk_uLn e]; exact h1 q (by omega)
theorem T_copy (F : FT) (R : RT) (J : JT) (P : PT) (B : BT) (F0 : FT) (R0 : RT) (J0 : JT) (a1 a2 a3 a4 a5 : Int32) (I : INV F R J P B F0 R0 J0) : qW_copy F R J P B a1 a2 a3 a4 a5 (fun r F R J P B => qM_copy F0 R0 J0 a1 a2 a3 a4 a5 (fun r0 F0 R0 J0 => r = r0 ∧ INV F R J P B F0 R0 J0)) := by
  unfold qW_copy
  rcases rg a1 0 3 with hr | ⟨s, -, hs, rfl⟩
  · exact ws_n hr ⟨fun _ => ms_n hr ⟨fun _ => ⟨rfl, I⟩, fun c => absurd rfl c⟩, fun c => absurd rfl c⟩
  refine ws_y hs ⟨fun c => absurd c (by decide), fun _ => ?_⟩
  rcases rg a3 0 3 with hr | ⟨t, -, ht, rfl⟩
  · exact ws_n hr ⟨fun c => absurd rfl c, fun _ => ms_y hs ⟨fun c => absurd c (by decide), fun _ => ms_n hr ⟨fun c => absurd rfl c, fun _ => ⟨rfl, I⟩⟩⟩⟩
  obtain ⟨ln, sz, h1, h2, h3, h4, h5, h6⟩ := I.2.2.2.1 s (by omega)
  obtain ⟨ln', sz', h1', h2', h3', h4', h5', h6'⟩ := I.2.2.2.1 t (by omega)
  have vs : vp_in (nI s) 4 := vp_in_nI (by omega) (by omega)
  have vt : vp_in (nI t) 4 := vp_in_nI (by omega) (by omega)
  refine ws_y ht ⟨fun _ => ⟨vs, vt, ?_⟩, fun c => absurd c (by decide)⟩
  have goM : ∀ K : Int32 → FT → RT → JT → Prop, ((vp_in (nI s) 4) ∧ (((R0 16 s) < 0 → (K (-11 : Int32) F0 R0 J0)) ∧ (¬ (R0 16 s) < 0 → ((vp_in (nI t) 4) ∧ ((0 ≤ (R0 16 t) → ((vp_in (nI s) 4) ∧ (qM_why F0 R0 J0 (nI t) (R0 16 s) a4 a5 (fun r7 F7 R7 J7 => (¬ r7 = 0 → (qM_copy_78 F7 R7 J7 (nI s) a2 (nI t) a4 a5 r7 K)) ∧ (r7 = 0 → ((vp_in (nI s) 4) ∧ (qM_why F7 R7 J7 (nI s) (R7 16 s) a2 a5 (fun r9 F9 R9 J9 => qM_copy_78 F9 R9 J9 (nI s) a2 (nI t) a4 a5 r9 K)))))))) ∧ (¬ 0 ≤ (R0 16 t) → (K (-11 : Int32) F0 R0 J0))))))) → qM_copy F0 R0 J0 (nI s) a2 (nI t) a4 a5 K := by
    intro K hK
    unfold qM_copy
    refine ms_y hs ⟨fun c => absurd c (by decide), fun _ => ms_y ht ⟨fun _ => ?_, fun c => absurd c (by decide)⟩⟩
    rw [nI_clamp (n := s) (by omega), nI_clamp (n := t) (by omega)]
    exact hK
  rw [nI_clamp (n := s) (by omega), nI_clamp (n := t) (by omega)]
  rcases h6 with ⟨e1, e2⟩ | ⟨e1, e2, e3⟩
  · rw [e1]
    refine ⟨fun _ => goM _ ⟨vs, fun _ => ⟨rfl, I⟩, fun c => ?_⟩, fun c => absurd rfl c⟩
    rw [e2] at c; exact absurd (by decide) c
  rw [e1]
  refine ⟨fun c => absurd c (by decide), fun _ => ?_⟩
  have n3 : ¬ R0 16 s < 0 := by rw [e3]; exact nI_pos (by omega)
  rcases h6' with ⟨e1', e2'⟩ | ⟨e1', e2', e3'⟩
  · rw [e1']
    refine ⟨fun c => absurd rfl c, fun _ => goM _ ⟨vs, fun c => absurd c n3, fun _ => ⟨vt, fun c => ?_, fun _ => ⟨rfl, I⟩⟩⟩⟩
    rw [e2'] at c; exact absurd c (by decide)
  rw [e1']
  refine ⟨fun _ => ?_, fun c => absurd c (by decide)⟩
  have n3' : 0 ≤ R0 16 t := by rw [e3']; exact nI_pos' (by omega)
  have goM2 : ∀ K : Int32 → FT → RT → JT → Prop, (qM_why F0 R0 J0 (nI t) (nI ln) a4 a5 (fun r7 F7 R7 J7 => (¬ r7 = 0 → (qM_copy_78 F7 R7 J7 (nI s) a2 (nI t) a4 a5 r7 K)) ∧ (r7 = 0 → ((vp_in (nI s) 4) ∧ (qM_why F7 R7 J7 (nI s) (R7 16 s) a2 a5 (fun r9 F9 R9 J9 => qM_copy_78 F9 R9 J9 (nI s) a2 (nI t) a4 a5 r9 K)))))) → qM_copy F0 R0 J0 (nI s) a2 (nI t) a4 a5 K := by
    intro K hK
    refine goM K ⟨vs, fun c => absurd c n3, fun _ => ⟨vt, fun _ => ⟨vs, ?_⟩, fun c => absurd n3' c⟩⟩
    rw [e3]; exact hK
  rw [e2, e2']
  refine ⟨fun c => ?_, fun c => ?_⟩
  · have el := (n_eq (by omega) (by omega)).mp c
    subst el
    by_cases hp : hasP a2 a5 sz
    · refine C_has_y h2 h3 hp ⟨fun c => absurd c (by decide), fun _ => ?_⟩
      by_cases hp' : hasP a4 a5 sz'
      · refine C_has_y h2' h3' hp' ⟨fun _ => ?_, fun c => absurd c (by decide)⟩
        obtain ⟨i, n, rfl, rfl, hc⟩ := id hp
        obtain ⟨j, n', rfl, en, hc'⟩ := id hp'
        have en := (n_eq (a := n) (b := n') (by omega) (by omega)).mp en
        subst en
        rw [nI_clamp (n := i) (by omega), nI_clamp (n := j) (by omega), nI_clamp (n := n) (by omega)]
        refine ⟨nI_pos (by omega), nI_pos (by omega), nI_pos (by omega), by omega, by omega, goM2 _ (M_why_y ht (by omega) h2' h4' e3' hp' ⟨fun c => absurd rfl c, fun _ => ⟨vs, ?_⟩⟩)⟩
        rw [e3]
        refine M_why_y hs (by omega) h2 h4 e3 hp ⟨fun _ => ⟨n + 1, M_cp1 hs ht (by omega) (by omega) (fun J' g1 g2 => ⟨rfl, I.sheets ?_ (fun _ _ => rfl) (fun _ _ _ => rfl)⟩) n 0 J0 (by omega) (fun q hq => absurd hq (Nat.not_lt_zero q)) rfl⟩, fun c => absurd (by decide) c⟩
        refine I.2.2.2.1.up (s := t) (fun k hk hne => ⟨rfl, rfl, rfl, vu_ne (by omega), rfl, rfl, fun q hq => g2 _ (by omega)⟩) ⟨ln, sz', by omega, h2', h3', h4', fun q hq => ?_, Or.inr ⟨e1', e2', e3'⟩⟩
        rw [vu_eq]
        by_cases hq2 : j ≤ q ∧ q < j + n
        · rw [pk_cpy_in hq2.1 hq2.2, h5 _ (by omega)]
          have := g1 (q - j) (by omega)
          rw [show 24 * t + j + (q - j) = 24 * t + q by omega] at this
          rw [this]
          exact congrArg (J0 18) (by omega)
        · rw [pk_cpy_out (by omega), h5' q hq, g2 _ (by omega)]
      · exact C_has_n h2' h3' hp' ⟨fun c => absurd rfl c, fun _ => goM2 _ (M_why_n ht (by omega) h2' h4' e3' hp' ⟨fun _ => ⟨fun c => absurd c (by decide), fun _ => ⟨rfl, I⟩⟩, fun c => absurd c (by decide)⟩)⟩
    · refine C_has_n h2 h3 hp ⟨fun _ => goM2 _ ?_, fun c => absurd rfl c⟩
      by_cases hp' : hasP a4 a5 sz'
      · refine M_why_y ht (by omega) h2' h4' e3' hp' ⟨fun c => absurd rfl c, fun _ => ⟨vs, ?_⟩⟩
        rw [e3]
        exact M_why_n hs (by omega) h2 h4 e3 hp ⟨fun c => absurd c (by decide), fun _ => ⟨rfl, I⟩⟩
      · exact M_why_n ht (by omega) h2' h4' e3' hp' ⟨fun _ => ⟨fun c => absurd c (by decide), fun _ => ⟨rfl, I⟩⟩, fun c => absurd c (by decide)⟩
  · have el : ¬ ln' = ln := fun e => c (congrArg nI e.symm)
    exact goM2 _ (M_why_c ht (by omega) (by omega) e3' el ⟨fun _ => ⟨fun c => absurd c (by decide), fun _ => ⟨rfl, I⟩⟩, fun c => absurd c (by decide)⟩)
/-- a film's rows -/
def flC (x : Nat → Nat) (b h : Nat → Nat → Nat) (w s a l : Nat) : Nat → Nat → Nat → JT → JT
  | 0, _, _, J => J
  | m + 1, k, laid, J => flC x b h w s a l m (k + 1) (bh0 x b w laid (if k = 0 then cst h (x 12) (x 7) else 0)) (va_up J (503 + 100 * s) (vp_updL (J (503 + 100 * s)) (a + k) (cutV l (nI (bh0 x b w laid (if k = 0 then cst h (x 12) (x 7) else 0))).toInt64)))
def flM (x : Nat → Nat) (b h : Nat → Nat → Nat) (w s a l : Nat) : Nat → Nat → Nat → JT → JT
  | 0, _, _, J => J
  | m + 1, k, laid, J => flM x b h w s a l m (k + 1) (bh0 x b w laid (if k = 0 then cst h (x 12) (x 7) else 0)) (va_up J 18 (vp_updL (J 18) (24 * s + (a + k)) (cutV l (nI (bh0 x b w laid (if k = 0 then cst h (x 12) (x 7) else 0))).toInt64)))
theorem SHR.film {F : FT} {R0 : RT} {x : Nat → Nat} {b h : Nat → Nat → Nat} {w s a l : Nat} (hs : s ≤ 3) : ∀ m k laid J J0, a + k + m ≤ 24 → SHR F J R0 J0 → SHR F (flC x b h w s a l m k laid J) R0 (flM x b h w s a l m k laid J0) := by
  intro m
  induction m with
  | zero => intro k laid J J0 _ S; exact S
  | succ m ih => intro k laid J J0 hk S; exact ih _ _ _ _ (by omega) (S.put hs (by omega) _)
theorem i16_n : ∀ v, v ≤ 200 → (nI v).toInt16.toInt32 = nI v := by decide +kernel
theorem cut_0 (v : Nat) : cutV 0 (nI v).toInt64 = (nI v).toInt8.toInt32.toInt64 := by unfold cutV; rw [if_pos rfl, Int32.toInt32_toInt64]
theorem cut_p {l v : Nat} (h0 : l ≠ 0) (hv : v ≤ 200) : cutV l (nI v).toInt64 = (nI v).toInt64 := by
  unfold cutV
  rw [if_neg h0, Int32.toInt32_toInt64, i16_n v hv]
  split
  · rfl
  · split <;> rfl
theorem C_film {x : Nat → Nat} {b h p : Nat → Nat → Nat} {F : FT} {R : RT} {P : PT} {B : BT} (A : AOK x b h p) (H : CS 100 x b h p F R P B) {w s a l n sz : Nat} (hw : w ≤ 2) (hs : s ≤ 3) (hl : l ≤ 3) (hn : a + n ≤ sz) (hsz : sz ≤ 24) (e2 : F (502 + 100 * s) = nI sz) (e1 : F (501 + 100 * s) = nI l) {K : Int32 → FT → RT → JT → PT → BT → Prop} : ∀ m k laid J, k + m = n → laid ≤ x 0 → K (nI n) F R (flC x b h w s a l m k laid J) P B → qW_film_72 (m + 1) F R J P B (nI w) (nI n) (nI s) (nI a) (nI laid) (nI k) K := by
  have ac := Acst A (x 7)
  intro m
  induction m with
  | zero =>
    intro k laid J hk hl hK
    unfold qW_film_72
    exact pk_le n k (fun _ => hK) (fun c => by omega)
  | succ m ih =>
    intro k laid J hk hla hK
    unfold flC at hK
    unfold qW_film_72
    have hb : bh0 x b w laid (if k = 0 then cst h (x 12) (x 7) else 0) ≤ x 0 := (bhN_ge hla).2
    have nx := ih (k + 1) _ _ (by omega) hb hK
    have go : ∀ co, co = (if k = 0 then cst h (x 12) (x 7) else 0) → qW_film_101 (fun F R J P B v1 v2 v3 v5 v7 v8 => qW_film_72 (m + 1) F R J P B v1 v2 v3 v5 v7 v8 K) F R J P B (nI w) (nI n) (nI s) (nI a) (nI k) (nI co) (nI laid) (nI w) K := by
      intro co hco
      unfold qW_film_101
      refine C_behind A H hw hla (by rw [hco]; split <;> omega) ⟨vp_in_nI (by omega) (by omega), ?_⟩
      rw [nI_clamp (n := s) (by omega), nI_add, nI_1]
      refine C_put hl (by omega) hsz e2 e1 ?_
      rw [hco]
      exact nx
    refine pk_le n k (fun c => by omega) (fun _ => ⟨fun c => go 0 ?_, fun c => C_costToday A H (go _ ?_)⟩)
    · rw [if_neg (fun e => c (by rw [e]; rfl))]
    · rw [if_pos ((n_eq (b := 0) (by omega) (by omega)).mp c)]
theorem M_film {x : Nat → Nat} {b h p : Nat → Nat → Nat} {F : FT} {R : RT} (A : AOK x b h p) (M : MS x b h p (R 0) (R 8) (F 9)) (hf : F 1 = -1) {w s a l n : Nat} (hw : w ≤ 2) (hs : s ≤ 3) (hl : l ≤ 3) (hn : a + n ≤ 24) {K : Int32 → FT → RT → JT → Prop} : ∀ m k laid J, k + m = n → laid ≤ x 0 → K (nI n) F R (flM x b h w s a l m k laid J) → qM_film_68 (m + 1) F R J (nI w) (nI n) (nI s) (nI l) (nI a) (nI laid) (nI k) K := by
  have a1 := A.1
  have ac := Acst A (x 7)
  have g9 : R 0 9 = nI (cst h (x 12) (x 7)) := M.1.2.2.2
  intro m
  induction m with
  | zero =>
    intro k laid J hk hl hK
    unfold qM_film_68
    exact pk_le n k (fun _ => hK) (fun c => by omega)
  | succ m ih =>
    intro k laid J hk hla hK
    unfold flM at hK
    unfold qM_film_68
    have hb : bh0 x b w laid (if k = 0 then cst h (x 12) (x 7) else 0) ≤ x 0 := (bhN_ge hla).2
    have nx := ih (k + 1) _ _ (by omega) hb hK
    have go : ∀ co, co = (if k = 0 then cst h (x 12) (x 7) else 0) → qM_film_94 (fun F R J v1 v2 v3 v4 v5 v7 v8 => qM_film_68 (m + 1) F R J v1 v2 v3 v4 v5 v7 v8 K) F R J (nI w) (nI n) (nI s) (nI l) (nI a) (nI k) (nI co) (nI laid) (nI w) K := by
      intro co hco
      unfold qM_film_94
      refine M_behind0 A M hw hla (by rw [hco]; split <;> omega) hf ?_
      rw [← hco] at nx hb
      unfold bh0 at nx hb
      generalize bhN (x 0) (su0 b (x 11) w laid) laid co = bv at nx hb ⊢
      rw [ix_24b]
      unfold qM_film_128
      rw [nI_clamp (n := 24 * s + a + k) (by omega), nI_1]
      rw [show 24 * s + (a + k) = 24 * s + a + k by omega] at nx
      refine ⟨fun c => ⟨vp_in_nI (by omega) (by omega), ?_⟩, fun c => ⟨vp_in_nI (by omega) (by omega), ?_⟩⟩
      · rw [cut_p (fun e => c (congrArg nI e)) (by omega)] at nx; exact nx
      · have c := (n_eq (b := 0) (by omega) (by omega)).mp c
        subst c
        rw [cut_0] at nx; exact nx
    refine pk_le n k (fun c => by omega) (fun _ => ⟨fun c => go 0 ?_, fun c => ?_⟩)
    · rw [if_neg (fun e => c (by rw [e]; rfl))]
    · rw [g9]
      refine go _ ?_
      rw [if_pos ((n_eq (b := 0) (by omega) (by omega)).mp c)]
theorem T_film (F : FT) (R : RT) (J : JT) (P : PT) (B : BT) (F0 : FT) (R0 : RT) (J0 : JT) (a1 a2 a3 a4 a5 : Int32) (I : INV F R J P B F0 R0 J0) : qW_film F R J P B a1 a2 a3 a4 a5 (fun r F R J P B => qM_film F0 R0 J0 a1 a2 a3 a4 a5 (fun r0 F0 R0 J0 => r = r0 ∧ INV F R J P B F0 R0 J0)) := by
  obtain ⟨x, b, h, p, A, H, M⟩ := id I.1
  have hfa : F0 1 = -1 := I.2.2.2.2
  have ax := A.1
  unfold qW_film
  rcases rg a1 0 2 with hr | ⟨w, -, hw, rfl⟩
  · exact wi_n hr ⟨fun _ => wx_n hr ⟨fun _ => ⟨rfl, I⟩, fun c => absurd rfl c⟩, fun c => absurd rfl c⟩
  have tk : (nI w).toInt = w := t_n (by omega)
  have w1 : ((0 : Int32)).toInt ≤ (nI w).toInt := by rw [tk]; exact Int.ofNat_le.mpr (Nat.zero_le _)
  have w2 : (nI w).toInt ≤ ((2 : Int32)).toInt := by rw [tk]; exact Int.ofNat_le.mpr hw
  refine wi_y w1 w2 ⟨fun c => absurd c (by decide), fun _ => ?_⟩
  rcases rg a2 1 24 with hr | ⟨n, hn1, hn, rfl⟩
  · exact wi_n hr ⟨fun _ => wx_y hw ⟨fun c => absurd c (by decide), fun _ => mi_n hr ⟨fun _ => ⟨rfl, I⟩, fun c => absurd rfl c⟩⟩, fun c => absurd rfl c⟩
  have tn : (nI n).toInt = n := t_n (by omega)
  have n1 : ((1 : Int32)).toInt ≤ (nI n).toInt := by rw [tn]; exact Int.ofNat_le.mpr hn1
  have n2 : (nI n).toInt ≤ ((24 : Int32)).toInt := by rw [tn]; exact Int.ofNat_le.mpr hn
  refine wi_y n1 n2 ⟨fun c => absurd c (by decide), fun _ => ?_⟩
  rcases rg a3 0 3 with hr | ⟨s, -, hs, rfl⟩
  · exact ws_n hr ⟨fun _ => wx_y hw ⟨fun c => absurd c (by decide), fun _ => mi_y n1 n2 ⟨fun c => absurd c (by decide), fun _ => ms_n hr ⟨fun _ => ⟨rfl, I⟩, fun c => absurd rfl c⟩⟩⟩, fun c => absurd rfl c⟩
  refine ws_y hs ⟨fun c => absurd c (by decide), fun _ => ?_⟩
  rcases rg a4 0 3 with hr | ⟨l, -, hl, rfl⟩
  · exact wl_n hr ⟨fun c => absurd rfl c, fun _ => wx_y hw ⟨fun c => absurd c (by decide), fun _ => mi_y n1 n2 ⟨fun c => absurd c (by decide), fun _ => ms_y hs ⟨fun c => absurd c (by decide), fun _ => ml_n hr ⟨fun c => absurd rfl c, fun _ => ⟨rfl, I⟩⟩⟩⟩⟩⟩
  refine wl_y hl ⟨fun _ => ⟨vp_in_nI (by omega) (by omega), ?_⟩, fun c => absurd c (by decide)⟩
  rw [nI_clamp (n := s) (by omega)]
  rcases fw (R := R) (P := P) (B := B) (F0 := F0) I.2.2.2.1 hs hl a5 (nI n) with ⟨r, hr, f1, f2⟩ | ⟨a, m, sz, rfl, em, hc, hsz, e2, e1, f1, f2⟩
  · have r0 : ¬ r = 0 := fun e => by rw [e] at hr; exact absurd hr (by decide)
    refine f1 _ ⟨fun c => absurd c r0, fun _ => wx_y hw ⟨fun c => absurd c (by decide), fun _ => mi_y n1 n2 ⟨fun c => absurd c (by decide), fun _ => ms_y hs ⟨fun c => absurd c (by decide), fun _ => ml_y hl ⟨fun _ => f2 _ ⟨fun c => ?_, fun _ => ⟨rfl, I⟩⟩, fun c => absurd c (by decide)⟩⟩⟩⟩⟩
    rw [t_le] at c; rw [t_lt] at hr; omega
  · have em := (n_eq (a := n) (b := m) (by omega) (by omega)).mp em
    subst em
    refine f1 _ ⟨fun _ => ⟨n + 1, ?_⟩, fun c => absurd rfl c⟩
    rw [show F 105 = nI (x 5) from H.n 5 (by decide)]
    refine C_film A H hw hs hl (by omega) hsz e2 e1 n 0 (x 5) J (by omega) (by omega) ?_
    refine wx_y hw ⟨fun c => absurd c (by decide), fun _ => mi_y n1 n2 ⟨fun c => absurd c (by decide), fun _ => ms_y hs ⟨fun c => absurd c (by decide), fun _ => ml_y hl ⟨fun _ => f2 _ ⟨fun _ => ⟨n + 1, ?_⟩, fun c => absurd (by decide) c⟩, fun c => absurd c (by decide)⟩⟩⟩⟩
    rw [show R0 0 7 = nI (x 5) from M.1.1 5 (by decide) (by decide)]
    exact M_film A M hfa hw hs hl (by omega) n 0 (x 5) J0 (by omega) (by omega) ⟨rfl, I.sheets (I.2.2.2.1.film hs n 0 (x 5) J J0 (by omega)) (fun _ _ => rfl) (fun _ _ _ => rfl)⟩
