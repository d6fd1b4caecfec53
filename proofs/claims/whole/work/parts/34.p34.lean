/-! ===== the pure part: sheets ===== -/
theorem INV.sheets {F F' : FT} {R : RT} {J J' : JT} {P : PT} {B : BT} {F0 : FT} {R0 R0' : RT} {J0 J0' : JT} (I : INV F R J P B F0 R0 J0) (s : SHR F' J' R0' J0') (hF : ∀ k, k < 500 → F' k = F k) (hR0 : ∀ k, k ≠ 16 → k ≠ 17 → R0' k = R0 k) : INV F' R J' P B F0 R0' J0' := by
  obtain ⟨⟨x, b, h, p, A, H, M⟩, i2, i3, i4, i5⟩ := I
  refine ⟨⟨x, b, h, p, A, H.cg (fun k hk => hF _ (by omega)) (fun _ _ _ => rfl) rfl (fun _ hz => hz), ?_⟩, i2.cg (hF _ (by decide)) (fun k hk => hF _ (by omega)) (fun _ _ _ => rfl) rfl (fun _ hz => hz) ⟨rfl, rfl⟩ (hR0 _ (by decide) (by decide)), i3.cg (hF _ (by decide)) rfl rfl (hR0 _ (by decide) (by decide)), s, i5⟩
  rw [hR0 0 (by decide) (by decide), hR0 8 (by decide) (by decide)]; exact M
section SH
variable {F : FT} {R : RT} {J : JT} {P : PT} {B : BT} {x : Int32}
theorem ws_n {K : Int32 → FT → RT → JT → PT → BT → Prop} (h : x.toInt < ((0 : Nat) : Int) ∨ ((3 : Nat) : Int) < x.toInt) (k : K 0 F R J P B) : qW_isSheet F R J P B x K := wi_n h ⟨isB_0, k⟩
theorem wl_n {K : Int32 → FT → RT → JT → PT → BT → Prop} (h : x.toInt < ((0 : Nat) : Int) ∨ ((3 : Nat) : Int) < x.toInt) (k : K 0 F R J P B) : qW_isLane F R J P B x K := wi_n h ⟨isB_0, k⟩
theorem ms_n {K : Int32 → FT → RT → JT → Prop} (h : x.toInt < ((0 : Nat) : Int) ∨ ((3 : Nat) : Int) < x.toInt) (k : K 0 F R J) : qM_isSheet F R J x K := mi_n h ⟨isB_0, k⟩
theorem ml_n {K : Int32 → FT → RT → JT → Prop} (h : x.toInt < ((0 : Nat) : Int) ∨ ((3 : Nat) : Int) < x.toInt) (k : K 0 F R J) : qM_isLane F R J x K := mi_n h ⟨isB_0, k⟩
theorem rgl {j : Nat} (h : j ≤ 3) : ((0 : Int32)).toInt ≤ (nI j).toInt ∧ (nI j).toInt ≤ ((3 : Int32)).toInt := ⟨by rw [t_n (by omega)]; exact Int.ofNat_le.mpr (Nat.zero_le _), by rw [t_n (by omega)]; exact Int.ofNat_le.mpr h⟩
theorem ws_y {j : Nat} (h : j ≤ 3) {K : Int32 → FT → RT → JT → PT → BT → Prop} (k : K 1 F R J P B) : qW_isSheet F R J P B (nI j) K := wi_y (rgl h).1 (rgl h).2 ⟨isB_1, k⟩
theorem wl_y {j : Nat} (h : j ≤ 3) {K : Int32 → FT → RT → JT → PT → BT → Prop} (k : K 1 F R J P B) : qW_isLane F R J P B (nI j) K := wi_y (rgl h).1 (rgl h).2 ⟨isB_1, k⟩
theorem ms_y {j : Nat} (h : j ≤ 3) {K : Int32 → FT → RT → JT → Prop} (k : K 1 F R J) : qM_isSheet F R J (nI j) K := mi_y (rgl h).1 (rgl h).2 ⟨isB_1, k⟩
theorem ml_y {j : Nat} (h : j ≤ 3) {K : Int32 → FT → RT → JT → Prop} (k : K 1 F R J) : qM_isLane F R J (nI j) K := mi_y (rgl h).1 (rgl h).2 ⟨isB_1, k⟩
end SH
/-- a sheet's row -/
def ROW (j : Nat) (F : FT) (J : JT) (R0 : RT) (J0 : JT) : Prop := ∃ ln sz : Nat, ln < 4 ∧ sz ≤ 24 ∧ F (502 + 100 * j) = nI sz ∧ R0 17 j = nI sz ∧ (∀ i, i < 24 → J (503 + 100 * j) i = J0 18 (24 * j + i)) ∧ ((F (500 + 100 * j) = 0 ∧ R0 16 j = -1) ∨ (F (500 + 100 * j) = 1 ∧ F (501 + 100 * j) = nI ln ∧ R0 16 j = nI ln))
theorem SHR.up {s : Nat} {F F' : FT} {J J' : JT} {R0 R0' : RT} {J0 J0' : JT} (S : SHR F J R0 J0) (ho : ∀ j, j < 4 → j ≠ s → F' (500 + 100 * j) = F (500 + 100 * j) ∧ F' (501 + 100 * j) = F (501 + 100 * j) ∧ F' (502 + 100 * j) = F (502 + 100 * j) ∧ J' (503 + 100 * j) = J (503 + 100 * j) ∧ R0' 16 j = R0 16 j ∧ R0' 17 j = R0 17 j ∧ (∀ i, i < 24 → J0' 18 (24 * j + i) = J0 18 (24 * j + i))) (hs : ROW s F' J' R0' J0') : SHR F' J' R0' J0' := by
  intro j hj
  by_cases e : j = s
  · subst e; exact hs
  · obtain ⟨o0, o1, o2, o3, o4, o5, o6⟩ := ho j hj e
    obtain ⟨ln, sz, h1, h2, h3, h4, h5, h6⟩ := S j hj
    refine ⟨ln, sz, h1, h2, by rw [o2]; exact h3, by rw [o5]; exact h4, fun i hi => ?_, ?_⟩
    · rw [o3, o6 i hi]; exact h5 i hi
    · rw [o0, o1, o4]; exact h6
theorem T_drop (F : FT) (R : RT) (J : JT) (P : PT) (B : BT) (F0 : FT) (R0 : RT) (J0 : JT) (a1 : Int32) (I : INV F R J P B F0 R0 J0) : qW_drop F R J P B a1 (fun r F R J P B => qM_drop F0 R0 J0 a1 (fun r0 F0 R0 J0 => r = r0 ∧ INV F R J P B F0 R0 J0)) := by
  unfold qW_drop
  rcases rg a1 0 3 with hr | ⟨s, -, hs, rfl⟩
  · exact ws_n hr ⟨fun c => absurd rfl c, fun _ => ms_n hr ⟨fun c => absurd rfl c, fun _ => ⟨rfl, I⟩⟩⟩
  obtain ⟨ln, sz, h1, h2, h3, h4, h5, h6⟩ := I.2.2.2.1 s (by omega)
  refine ws_y hs ⟨fun _ => ⟨vp_in_nI (by omega) (by omega), ?_⟩, fun c => absurd c (by decide)⟩
  rw [nI_clamp (n := s) (by omega)]
  rcases h6 with ⟨e1, e2⟩ | ⟨e1, e2, e3⟩
  · rw [e1]
    refine ⟨fun c => absurd rfl c, fun _ => ms_y hs ⟨fun _ => ⟨vp_in_nI (by omega) (by omega), ?_⟩, fun c => absurd c (by decide)⟩⟩
    rw [nI_clamp (n := s) (by omega), e2]
    exact ⟨fun c => absurd c (by decide), fun _ => ⟨rfl, I⟩⟩
  · rw [e1]
    refine ⟨fun _ => ⟨vp_in_nI (by omega) (by omega), vp_in_nI (by omega) (by omega), ms_y hs ⟨fun _ => ⟨vp_in_nI (by omega) (by omega), ?_⟩, fun c => absurd c (by decide)⟩⟩, fun c => absurd c (by decide)⟩
    rw [nI_clamp (n := s) (by omega), e3]
    refine ⟨fun _ => ⟨vp_in_nI (by omega) (by omega), vp_in_nI (by omega) (by omega), ?_, ?_⟩, fun c => absurd (nI_pos' (by omega)) c⟩
    · rw [upd_ne (by omega), h3, h4]
    · refine I.sheets (I.2.2.2.1.up (s := s) (fun j hj hne => ⟨upd_ne (by omega), upd_ne (by omega), upd_ne (by omega), rfl, by rw [vu_eq, upd_ne hne], by rw [vu_ne (by decide)], fun _ _ => rfl⟩) ⟨ln, sz, h1, h2, by rw [upd_ne (by omega)]; exact h3, by rw [vu_ne (by decide)]; exact h4, h5, Or.inl ⟨upd_eq, by rw [vu_eq, upd_eq]⟩⟩) (fun k hk => upd_ne (by omega)) (fun k h16 _ => vu_ne h16)
theorem C_renew {s : Nat} {F : FT} {R : RT} {P : PT} {B : BT} {J : JT} {K : FT → RT → JT → PT → BT → Prop} (hK : ∀ J', (∀ i, i < 24 → J' (503 + 100 * s) i = 0) → (∀ k, k ≠ 503 + 100 * s → J' k = J k) → K F R J' P B) : ∀ m k J', k + m = 24 → (∀ i, i < k → J' (503 + 100 * s) i = 0) → (∀ k, k ≠ 503 + 100 * s → J' k = J k) → qH_renew_17 s (m + 1) F R J' P B (nI k) K := by
  intro m
  induction m with
  | zero =>
    intro k J' hk h1 h2
    unfold qH_renew_17
    exact pk_le 24 k (fun _ => hK J' (fun i hi => h1 i (by omega)) h2) (fun c => by omega)
  | succ m ih =>
    intro k J' hk h1 h2
    unfold qH_renew_17
    refine pk_le 24 k (fun c => by omega) (fun _ => ⟨vp_in_nI (by omega) (by omega), ?_⟩)
    rw [nI_1, nI_clamp (by omega)]
    refine ih (k + 1) _ (by omega) (fun i hi => ?_) (fun j hj => by rw [vu_ne hj, h2 j hj])
    rw [vu_eq]
    by_cases e : i = k
    · subst e; exact pk_uLs
    · rw [pk_uLn e]; exact h1 i (by omega)
theorem ix_24 {s k : Nat} : (24 : Int32) * nI s + nI k = nI (24 * s + k) := (congrArg (fun z => z + nI k) (pk_mul 24 s)).trans (nI_add _ _)
theorem M_sheet_loop {s : Nat} (hs : s < 4) {F : FT} {R : RT} {J : JT} {v : Int32} {K : Int32 → FT → RT → JT → Prop} (hK : ∀ J', (∀ i, i < 24 → J' 18 (24 * s + i) = 0) → (∀ k, ¬ (24 * s ≤ k ∧ k < 24 * s + 24) → J' 18 k = J 18 k) → K v F R J') : ∀ m k J', k + m = 24 → (∀ i, i < k → J' 18 (24 * s + i) = 0) → (∀ k, ¬ (24 * s ≤ k ∧ k < 24 * s + 24) → J' 18 k = J 18 k) → qM_sheet_46 (m + 1) F R J' (nI s) v (nI k) K := by
  intro m
  induction m with
  | zero =>
    intro k J' hk h1 h2
    unfold qM_sheet_46
    exact pk_le 24 k (fun _ => hK J' (fun i hi => h1 i (by omega)) h2) (fun c => by omega)
  | succ m ih =>
    intro k J' hk h1 h2
    unfold qM_sheet_46
    rw [ix_24, nI_1, nI_clamp (by omega)]
    refine pk_le 24 k (fun c => by omega) (fun _ => ⟨vp_in_nI (by omega) (by omega), ih (k + 1) _ (by omega) (fun i hi => ?_) (fun j hj => ?_)⟩)
    · rw [vu_eq]
      by_cases e : i = k
      · subst e; exact pk_uLs
      · rw [pk_uLn (by omega)]; exact h1 i (by omega)
    · rw [vu_eq, pk_uLn (by omega)]; exact h2 j hj
theorem T_sheet (F : FT) (R : RT) (J : JT) (P : PT) (B : BT) (F0 : FT) (R0 : RT) (J0 : JT) (a1 a2 a3 : Int32) (I : INV F R J P B F0 R0 J0) : qW_sheet F R J P B a1 a2 a3 (fun r F R J P B => qM_sheet F0 R0 J0 a1 a2 a3 (fun r0 F0 R0 J0 => r = r0 ∧ INV F R J P B F0 R0 J0)) := by
  unfold qW_sheet
  rcases rg a1 0 3 with hr | ⟨s, -, hs, rfl⟩
  · exact ws_n hr ⟨fun _ => ms_n hr ⟨fun _ => ⟨rfl, I⟩, fun c => absurd rfl c⟩, fun c => absurd rfl c⟩
  refine ws_y hs ⟨fun c => absurd c (by decide), fun _ => ?_⟩
  rcases rg a2 0 3 with hr | ⟨l, -, hl, rfl⟩
  · exact wl_n hr ⟨fun _ => ms_y hs ⟨fun c => absurd c (by decide), fun _ => ml_n hr ⟨fun _ => ⟨rfl, I⟩, fun c => absurd rfl c⟩⟩, fun c => absurd rfl c⟩
  refine wl_y hl ⟨fun c => absurd c (by decide), fun _ => ⟨fun c => ⟨fun c2 => ⟨vp_in_nI (by omega) (by omega), ?_⟩, fun c2 => ?_⟩, fun c => ?_⟩⟩
  · obtain ⟨n, -, rfl⟩ := nI_of (x := a3) (fun e => by rw [t_lt] at e; rw [t_le] at c2; omega)
    obtain ⟨n, hn, e⟩ := nI_of2 (x := nI n) (M := 24) (n := 24) (by decide) (fun e => by rw [t_lt] at e; rw [t_le] at c2; omega) c
    rw [e] at c c2 ⊢
    rw [nI_clamp (n := s) (by omega)]
    unfold qH_renew
    refine ⟨25, C_renew (fun J' j1 j2 => ms_y hs ⟨fun c => absurd c (by decide), fun _ => ml_y hl ⟨fun c => absurd c (by decide), fun _ => ⟨fun _ => ⟨fun _ => ⟨vp_in_nI (by omega) (by omega), vp_in_nI (by omega) (by omega), 25, ?_⟩, fun q => absurd c2 q⟩, fun q => absurd c q⟩⟩⟩) 24 0 J rfl (fun i hi => absurd hi (Nat.not_lt_zero i)) (fun _ _ => rfl)⟩
    rw [nI_clamp (n := s) (by omega)]
    refine M_sheet_loop (by omega) (fun J0' q1 q2 => ⟨rfl, ?_⟩) 24 0 J0 rfl (fun i hi => absurd hi (Nat.not_lt_zero i)) (fun _ _ => rfl)
    refine I.sheets (I.2.2.2.1.up (s := s) (fun j hj hne => ⟨?_, ?_, ?_, j2 _ (by omega), ?_, ?_, fun i hi => q2 _ (by omega)⟩) ⟨l, n, by omega, hn, upd_eq, ?_, fun i hi => by rw [j1 i hi, q1 i hi], Or.inr ⟨?_, ?_, ?_⟩⟩) (fun k hk => ?_) (fun k h16 h17 => ?_)
    · rw [upd_ne (by omega), upd_ne (by omega), upd_ne (by omega)]
    · rw [upd_ne (by omega), upd_ne (by omega), upd_ne (by omega)]
    · rw [upd_ne (by omega), upd_ne (by omega), upd_ne (by omega)]
    · rw [vu_ne (by decide), vu_eq, upd_ne hne]
    · rw [vu_eq, upd_ne hne]
    · rw [vu_eq, upd_eq]
    · rw [upd_ne (by omega), upd_ne (by omega), upd_eq]
    · rw [upd_ne (by omega), upd_eq]
    · rw [vu_ne (by decide), vu_eq, upd_eq]
    · rw [upd_ne (by omega), upd_ne (by omega), upd_ne (by omega)]
    · rw [vu_ne h17, vu_ne h16]
  · exact ms_y hs ⟨fun c => absurd c (by decide), fun _ => ml_y hl ⟨fun c => absurd c (by decide), fun _ => ⟨fun _ => ⟨fun q => absurd q c2, fun _ => ⟨rfl, I⟩⟩, fun q => absurd c q⟩⟩⟩
  · exact ms_y hs ⟨fun c => absurd c (by decide), fun _ => ml_y hl ⟨fun c => absurd c (by decide), fun _ => ⟨fun q => absurd q c, fun _ => ⟨rfl, I⟩⟩⟩⟩
/-- the room of a sheet: the class's words and the reference's -/
theorem has_n {sz a m : Nat} (hsz : sz ≤ 24) (ha : a < 2 ^ 31) (hm : m < 2 ^ 31) : (nI sz - nI m < nI a) ↔ sz < a + m := by
  rw [t_lt, Int32.toInt_sub, t_n (n := sz) (by omega), t_n hm, t_n ha, Int.bmod_eq_of_le (by omega) (by omega)]
  omega
theorem why_n {sz a m : Nat} (hsz : sz ≤ 24) (ha : a < 2 ^ 31) (hm : m < 2 ^ 31) : (lg_cmp ((nI a).toInt64 + (nI m).toInt64) (nI sz).toInt64 ≤ 0) ↔ a + m ≤ sz := by
  rw [nI_l ha, nI_l hm, nI_l (n := sz) (by omega), lN_add]
  have h := lg_gt (x := lN (a + m)) (y := lN sz)
  rw [pk_lT (n := a + m) (by omega), pk_lT (n := sz) (by omega)] at h
  constructor
  · intro c
    have : ¬ (0 : Int32) < lg_cmp (lN (a + m)) (lN sz) := fun e => by rw [t_lt] at e; rw [t_le] at c; omega
    have : ¬ ((sz : Int) < ((a + m : Nat) : Int)) := fun e => this (h.mpr e)
    omega
  · intro c
    have : ¬ (0 : Int32) < lg_cmp (lN (a + m)) (lN sz) := fun e => by have := h.mp e; omega
    rw [t_lt] at this; rw [t_le]; omega
theorem fw {F : FT} {R : RT} {J : JT} {P : PT} {B : BT} {F0 : FT} {R0 : RT} {J0 : JT} (S : SHR F J R0 J0) {s l : Nat} (hs : s ≤ 3) (hl : l ≤ 3) (i n : Int32) : (∃ r : Int32, r < 0 ∧ (∀ K : Int32 → FT → RT → JT → PT → BT → Prop, K r F R J P B → qH_find s F R J P B (nI l) i n K) ∧ (∀ K : Int32 → FT → RT → JT → Prop, K r F0 R0 J0 → qM_why F0 R0 J0 (nI s) (nI l) i n K)) ∨ (∃ a m sz : Nat, i = nI a ∧ n = nI m ∧ a + m ≤ sz ∧ sz ≤ 24 ∧ F (502 + 100 * s) = nI sz ∧ F (501 + 100 * s) = nI l ∧ (∀ K : Int32 → FT → RT → JT → PT → BT → Prop, K 0 F R J P B → qH_find s F R J P B (nI l) i n K) ∧ (∀ K : Int32 → FT → RT → JT → Prop, K 0 F0 R0 J0 → qM_why F0 R0 J0 (nI s) (nI l) i n K)) := by
  obtain ⟨ln, sz, h1, h2, h3, h4, h5, h6⟩ := S s (by omega)
  unfold qH_find qM_why qH_has
  rw [nI_clamp (n := s) (by omega), h3, h4]
  have vi : vp_in (nI s) 4 := vp_in_nI (by omega) (by omega)
  rcases h6 with ⟨e1, e2⟩ | ⟨e1, e2, e3⟩
  · left
    refine ⟨-11, by decide, fun K k => ?_, fun K k => ?_⟩
    · rw [e1]; exact ⟨fun c => absurd rfl c, fun _ => k⟩
    · rw [e2]; exact ⟨vi, fun c => absurd c (by decide), fun _ => k⟩
  · rw [e1, e2, e3]
    by_cases el : ln = l
    · subst el
      by_cases ci : i < 0
      · left
        refine ⟨-13, by decide, fun K k => ⟨fun _ => ⟨fun _ => ⟨fun _ => ⟨fun _ => k, fun c => absurd rfl c⟩, fun c => absurd ci c⟩, fun c => absurd rfl c⟩, fun c => absurd c (by decide)⟩, fun K k => ⟨vi, fun _ => ⟨vi, fun _ => ⟨fun _ => k, fun c => absurd ci c⟩, fun c => absurd rfl c⟩, fun c => absurd (nI_pos' (by omega)) c⟩⟩
      · by_cases cn : n < 0
        · left
          refine ⟨-13, by decide, fun K k => ⟨fun _ => ⟨fun _ => ⟨fun c => absurd c ci, fun _ => ⟨fun _ => ⟨fun _ => k, fun c => absurd rfl c⟩, fun c => absurd cn c⟩⟩, fun c => absurd rfl c⟩, fun c => absurd c (by decide)⟩, fun K k => ⟨vi, fun _ => ⟨vi, fun _ => ⟨fun c => absurd c ci, fun _ => ⟨fun _ => k, fun c => absurd cn c⟩⟩, fun c => absurd rfl c⟩, fun c => absurd (nI_pos' (by omega)) c⟩⟩
        · obtain ⟨a, ha, rfl⟩ := nI_of ci
          obtain ⟨m, hm, rfl⟩ := nI_of cn
          by_cases hc : a + m ≤ sz
          · right
            refine ⟨a, m, sz, rfl, rfl, hc, h2, rfl, rfl, fun K k => ⟨fun _ => ⟨fun _ => ⟨fun c => absurd c ci, fun _ => ⟨fun c => absurd c cn, fun _ => ⟨fun c => ?_, fun _ => ⟨fun c => absurd c (by decide), fun _ => k⟩⟩⟩⟩, fun c => absurd rfl c⟩, fun c => absurd c (by decide)⟩, fun K k => ⟨vi, fun _ => ⟨vi, fun _ => ⟨fun c => absurd c ci, fun _ => ⟨fun c => absurd c cn, fun _ => ⟨vi, fun _ => k, fun c => absurd ((why_n h2 ha hm).mpr hc) c⟩⟩⟩, fun c => absurd rfl c⟩, fun c => absurd (nI_pos' (by omega)) c⟩⟩
            have := (has_n h2 ha hm).mp c
            omega
          · left
            refine ⟨-13, by decide, fun K k => ⟨fun _ => ⟨fun _ => ⟨fun c => absurd c ci, fun _ => ⟨fun c => absurd c cn, fun _ => ⟨fun _ => ⟨fun _ => k, fun c => absurd rfl c⟩, fun c => absurd ((has_n h2 ha hm).mpr (by omega)) c⟩⟩⟩, fun c => absurd rfl c⟩, fun c => absurd c (by decide)⟩, fun K k => ⟨vi, fun _ => ⟨vi, fun _ => ⟨fun c => absurd c ci, fun _ => ⟨fun c => absurd c cn, fun _ => ⟨vi, fun c => absurd ((why_n h2 ha hm).mp c) hc, fun _ => k⟩⟩⟩, fun c => absurd rfl c⟩, fun c => absurd (nI_pos' (by omega)) c⟩⟩
    · left
      have ne : ¬ nI ln = nI l := fun e => el ((n_eq (by omega) (by omega)).mp e)
      refine ⟨-12, by decide, fun K k => ⟨fun _ => ⟨fun c => absurd c ne, fun _ => k⟩, fun c => absurd c (by decide)⟩, fun K k => ⟨vi, fun _ => ⟨vi, fun c => absurd c ne, fun _ => k⟩, fun c => absurd (nI_pos' (by omega)) c⟩⟩
/-- what a lane keeps of a long -/
def cutV (l : Nat) (v : Int64) : Int64 := if l = 0 then v.toInt32.toInt8.toInt32.toInt64 else if l = 1 then v.toInt32.toInt16.toInt32.toInt64 else if l = 2 then v.toInt32.toInt64 else v
theorem C_put {s l a sz : Nat} {F : FT} {R : RT} {J : JT} {P : PT} {B : BT} (hl : l ≤ 3) (ha : a < sz) (hsz : sz ≤ 24) (e2 : F (502 + 100 * s) = nI sz) (e1 : F (501 + 100 * s) = nI l) {v : Int64} {K : FT → RT → JT → PT → BT → Prop} (hK : K F R (va_up J (503 + 100 * s) (vp_updL (J (503 + 100 * s)) a (cutV l v))) P B) : qH_put s F R J P B (nI a) v K := by
  unfold qH_put
  refine wic_y (by omega) e2 ha ⟨fun c => absurd c (by decide), fun _ => ?_⟩
  unfold qH_cut
  rw [e1, nI_clamp (n := a) (by omega)]
  unfold cutV at hK
  have vi : vp_in (nI a) 24 := vp_in_nI (by omega) (by omega)
  refine ⟨fun c => ⟨vi, ?_⟩, fun c => ⟨vi, ?_⟩, fun c => ⟨vi, ?_⟩, fun c0 c1 c2 => ⟨vi, ?_⟩⟩
  · rw [if_pos ((n_eq (b := 0) (by omega) (by omega)).mp c)] at hK; exact hK
  · have := (n_eq (b := 1) (by omega) (by omega)).mp c
    rw [if_neg (by omega), if_pos this] at hK; exact hK
  · have := (n_eq (b := 2) (by omega) (by omega)).mp c
    rw [if_neg (by omega), if_neg (by omega), if_pos this] at hK; exact hK
  · rw [if_neg (fun e => c0 (congrArg nI e)), if_neg (fun e => c1 (congrArg nI e)), if_neg (fun e => c2 (congrArg nI e))] at hK; exact hK
theorem SHR.put {F : FT} {J : JT} {R0 : RT} {J0 : JT} (S : SHR F J R0 J0) {s a : Nat} (hs : s ≤ 3) (ha : a < 24) (v : Int64) : SHR F (va_up J (503 + 100 * s) (vp_updL (J (503 + 100 * s)) a v)) R0 (va_up J0 18 (vp_updL (J0 18) (24 * s + a) v)) := by
  obtain ⟨ln, sz, h1, h2, h3, h4, h5, h6⟩ := S s (by omega)
  refine S.up (s := s) (fun j hj hne => ⟨rfl, rfl, rfl, vu_ne (by omega), rfl, rfl, fun i hi => by rw [vu_eq, pk_uLn (by omega)]⟩) ⟨ln, sz, h1, h2, h3, h4, fun i hi => ?_, h6⟩
  rw [vu_eq, vu_eq]
  by_cases e : i = a
  · subst e; rw [pk_uLs, pk_uLs]
  · rw [pk_uLn e, pk_uLn (by omega)]; exact h5 i hi
theorem T_item (F : FT) (R : RT) (J : JT) (P : PT) (B : BT) (F0 : FT) (R0 : RT) (J0 : JT) (a1 a2 a3 : Int32) (a4 : Int64) (I : INV F R J P B F0 R0 J0) : qW_item F R J P B a1 a2 a3 a4 (fun r F R J P B => qM_item F0 R0 J0 a1 a2 a3 a4 (fun r0 F0 R0 J0 => r = r0 ∧ INV F R J P B F0 R0 J0)) := by
  unfold qW_item
  rcases rg a1 0 3 with hr | ⟨s, -, hs, rfl⟩
  · exact ws_n hr ⟨fun _ => ms_n hr ⟨fun _ => ⟨rfl, I⟩, fun c => absurd rfl c⟩, fun c => absurd rfl c⟩
  refine ws_y hs ⟨fun c => absurd c (by decide), fun _ => ?_⟩
  rcases rg a2 0 3 with hr | ⟨l, -, hl, rfl⟩
  · exact wl_n hr ⟨fun c => absurd rfl c, fun _ => ms_y hs ⟨fun c => absurd c (by decide), fun _ => ml_n hr ⟨fun c => absurd rfl c, fun _ => ⟨rfl, I⟩⟩⟩⟩
  refine wl_y hl ⟨fun _ => ⟨vp_in_nI (by omega) (by omega), ?_⟩, fun c => absurd c (by decide)⟩
  rw [nI_clamp (n := s) (by omega)]
  rcases fw (R := R) (P := P) (B := B) (F0 := F0) I.2.2.2.1 hs hl a3 1 with ⟨r, hr, f1, f2⟩ | ⟨a, m, sz, rfl, em, hc, hsz, e2, e1, f1, f2⟩
  · have r0 : ¬ r = 0 := fun e => by rw [e] at hr; exact absurd hr (by decide)
    refine f1 _ ⟨fun c => absurd c r0, fun _ => ms_y hs ⟨fun c => absurd c (by decide), fun _ => ml_y hl ⟨fun _ => f2 _ ⟨fun c => ?_, fun _ => ⟨rfl, I⟩⟩, fun c => absurd c (by decide)⟩⟩⟩
    rw [t_le] at c; rw [t_lt] at hr; omega
  · have m1 : 1 ≤ m := by
      have : ¬ m = 0 := fun e => by rw [e] at em; exact absurd em (by decide)
      omega
    refine f1 _ ⟨fun _ => ⟨vp_in_nI (by omega) (by omega), C_put hl (by omega) hsz e2 e1 ?_⟩, fun c => absurd rfl c⟩
    refine ms_y hs ⟨fun c => absurd c (by decide), fun _ => ml_y hl ⟨fun _ => f2 _ ⟨fun _ => ?_, fun c => absurd (by decide) c⟩, fun c => absurd c (by decide)⟩⟩
    have fin : ∀ v, v = cutV l a4 → (vp_in (nI (24 * s + a)) 96) ∧ ((1 : Int32) = 1 ∧ INV F R (va_up J (503 + 100 * s) (vp_updL (J (503 + 100 * s)) a (cutV l a4))) P B F0 R0 (va_up J0 18 (vp_updL (J0 18) (24 * s + a) v))) := by
      intro v hv
      subst hv
      exact ⟨vp_in_nI (by omega) (by omega), rfl, I.sheets (I.2.2.2.1.put hs (by omega) _) (fun _ _ => rfl) (fun _ _ _ => rfl)⟩
    rw [ix_24, nI_clamp (n := 24 * s + a) (by omega)]
    refine ⟨fun c => ⟨fun c1 => ⟨fun c2 => fin _ ?_, fun c2 => fin _ ?_⟩, fun c1 => fin _ ?_⟩, fun c => fin _ ?_⟩
    · unfold cutV
      rw [if_neg (fun e => c (congrArg nI e)), if_neg (fun e => c1 (congrArg nI e)), if_neg (fun e => c2 (congrArg nI e))]
    · have := (n_eq (b := 2) (by omega) (by omega)).mp c2
      unfold cutV
      rw [if_neg (by omega), if_neg (by omega), if_pos this]
    · have := (n_eq (b := 1) (by omega) (by omega)).mp c1
      unfold cutV
      rw [if_neg (by omega), if_pos this]
    · have := (n_eq (b := 0) (by omega) (by omega)).mp c
      unfold cutV
      rw [if_pos this]
