/-! ===== the pure part: image, restore ===== -/
theorem MS.cg {x : Nat → Nat} {b h p : Nat → Nat → Nat} {n n' u u' : Nat → Int32} {nu nu' : Int32} (M : MS x b h p n u nu) (A : AOK x b h p) (hn : ∀ j, j < 37 → n' j = n j) (hu : ∀ j, j < 48 → u' j = u j) (e : nu' = nu) : MS x b h p n' u' nu' := by
  have a1 := A.1
  obtain ⟨⟨m1, m1a, m1b, m1c⟩, m2, m3, m4, m5⟩ := M
  refine ⟨⟨fun k hk h7 => by rw [hn _ (by omega)]; exact m1 k hk h7, by rw [hn _ (by omega)]; exact m1a, by rw [hn _ (by omega)]; exact m1b, by rw [hn _ (by omega)]; exact m1c⟩, fun k hk => ?_, fun k hk => ?_, e.trans m4, fun i hi => ?_⟩
  · rw [hn _ (by omega), hn _ (by omega), hn _ (by omega)]; exact m2 k hk
  · rw [hn _ (by omega), hn _ (by omega)]; exact m3 k hk
  · rw [hu _ (by omega), hu _ (by omega), hu _ (by omega), hu _ (by omega), hu _ (by omega), hu _ (by omega)]; exact m5 i hi
theorem CS.tr {o o' : Nat} {x : Nat → Nat} {b h p : Nat → Nat → Nat} {F F' : FT} {R R' : RT} {P P' : PT} {B : BT} (H : CS o x b h p F R P B) (A : AOK x b h p) (hF : ∀ k, k < 14 → F' (o' + k) = F (o + k)) (h15 : ∀ k, k < 6 → R' (o' + 15) k = R (o + 15) k) (h16 : ∀ k, k < 6 → R' (o' + 16) k = R (o + 16) k) (h17 : ∀ k, k < 48 → R' (o' + 17) k = R (o + 17) k) (hP : ∀ k, k < 4 → P' (o' + 14) k = P (o + 14) k) : CS o' x b h p F' R' P' B := by
  have a1 := A.1
  obtain ⟨h1, h2, h3, h4, h5⟩ := H
  refine ⟨fun k hk => (hF k hk).trans (h1 k hk), fun k hk => ?_, fun k ad hk e => h3 k ad hk (by rw [← hP k hk]; exact e), fun k hk => ?_, fun i j hi hj => ?_⟩
  · rw [hP k (by omega)]; exact h2 k hk
  · rw [h15 k (by omega), h16 k (by omega)]; exact h4 k hk
  · rw [h17 _ (by omega)]; exact h5 i j hi hj
theorem C_bec_kn_loop {F : FT} {R : RT} {J : JT} {P : PT} {B : BT} (hin : ∀ k ad, k < 4 → P 114 k = some ad → inB B ad) {K : FT → RT → JT → PT → BT → Prop} (hK : ∀ R' P', (∀ k, k < 6 → R' 215 k = R 115 k) → (∀ k, k < 6 → R' 216 k = R 116 k) → (∀ k, k < 48 → R' 217 k = R 117 k) → (∀ k, k ≠ 215 → k ≠ 216 → k ≠ 217 → R' k = R k) → (∀ k, k < 4 → P' 214 k = P 114 k) → (∀ k, k ≠ 214 → P' k = P k) → K F R' J P' B) : ∀ m k P', k + m = 4 → (∀ j, j < k → P' 214 j = P 114 j) → (∀ j, j ≠ 214 → P' j = P j) → qS_becomes_kn_114 (m + 1) F R J P' B (nI k) K := by
  intro m
  induction m with
  | zero =>
    intro k P' hk h1 h2
    unfold qS_becomes_kn_114
    refine pk_le 4 k (fun _ => hK _ _ (fun j hj => ?_) (fun j hj => ?_) (fun j hj => ?_) (fun j n1 n2 n3 => ?_) (fun j hj => h1 j (by omega)) h2) (fun c => by omega)
    · rw [vu_ne (by decide), vu_ne (by decide), vu_eq]; exact (pk_cpy_in (Nat.zero_le _) (by show j < 0 + 6; omega)).trans (congrArg (R 115) (by show 0 + (j - 0) = j; omega))
    · rw [vu_ne (by decide), vu_eq]; exact (pk_cpy_in (Nat.zero_le _) (by show j < 0 + 6; omega)).trans (congrArg (R 116) (by show 0 + (j - 0) = j; omega))
    · rw [vu_eq]; exact (pk_cpy_in (Nat.zero_le _) (by show j < 0 + 48; omega)).trans (congrArg (R 117) (by show 0 + (j - 0) = j; omega))
    · rw [vu_ne n3, vu_ne n2, vu_ne n1]
  | succ m ih =>
    intro k P' hk h1 h2
    unfold qS_becomes_kn_114
    refine pk_le 4 k (fun c => by omega) (fun c => ⟨vp_in_nI (by omega) (by omega), vp_in_nI (by omega) (by omega), ?_, ?_⟩)
    · rw [nI_clamp (by omega), h2 _ (by decide)]; exact fun ad e => hin k ad (by omega) e
    · rw [nI_1, nI_clamp (by omega)]
      refine ih (k + 1) _ (by omega) (fun j hj => ?_) (fun j hj => by rw [vu_ne hj, h2 j hj])
      rw [vu_eq]
      by_cases e : j = k
      · subst e; rw [vu_eq, h2 _ (by decide)]
      · rw [vu_ne e]; exact h1 j (by omega)
theorem C_bec_kn {F : FT} {R : RT} {J : JT} {P : PT} {B : BT} (hin : ∀ k ad, k < 4 → P 114 k = some ad → inB B ad) {K : FT → RT → JT → PT → BT → Prop} (hK : ∀ F' R' P', (∀ k, k < 14 → F' (200 + k) = F (100 + k)) → (∀ k, ¬ (200 ≤ k ∧ k < 214) → F' k = F k) → (∀ k, k < 6 → R' 215 k = R 115 k) → (∀ k, k < 6 → R' 216 k = R 116 k) → (∀ k, k < 48 → R' 217 k = R 117 k) → (∀ k, k ≠ 215 → k ≠ 216 → k ≠ 217 → R' k = R k) → (∀ k, k < 4 → P' 214 k = P 114 k) → (∀ k, k ≠ 214 → P' k = P k) → K F' R' J P' B) : qS_becomes_kn F R J P B K := by
  have f1 : ∀ k, k < 14 → (upd (upd (upd (upd (upd (upd (upd (upd (upd (upd (upd (upd (upd (upd F 200 (F 100)) 201 (F 101)) 202 (F 102)) 203 (F 103)) 204 (F 104)) 205 (F 105)) 206 (F 106)) 207 (F 107)) 208 (F 108)) 209 (F 109)) 210 (F 110)) 211 (F 111)) 212 (F 112)) 213 (F 113)) (200 + k) = F (100 + k) := by
    intro k hk
    match k, hk with
    | 0, _ => rfl
    | 1, _ => rfl
    | 2, _ => rfl
    | 3, _ => rfl
    | 4, _ => rfl
    | 5, _ => rfl
    | 6, _ => rfl
    | 7, _ => rfl
    | 8, _ => rfl
    | 9, _ => rfl
    | 10, _ => rfl
    | 11, _ => rfl
    | 12, _ => rfl
    | 13, _ => rfl
    | k + 14, hk => omega
  have f2 : ∀ k, ¬ (200 ≤ k ∧ k < 214) → (upd (upd (upd (upd (upd (upd (upd (upd (upd (upd (upd (upd (upd (upd F 200 (F 100)) 201 (F 101)) 202 (F 102)) 203 (F 103)) 204 (F 104)) 205 (F 105)) 206 (F 106)) 207 (F 107)) 208 (F 108)) 209 (F 109)) 210 (F 110)) 211 (F 111)) 212 (F 112)) 213 (F 113)) k = F k := by
    intro k hk
    rw [upd_ne (by omega), upd_ne (by omega), upd_ne (by omega), upd_ne (by omega), upd_ne (by omega), upd_ne (by omega), upd_ne (by omega), upd_ne (by omega), upd_ne (by omega), upd_ne (by omega), upd_ne (by omega), upd_ne (by omega), upd_ne (by omega), upd_ne (by omega)]
  unfold qS_becomes_kn
  exact ⟨5, C_bec_kn_loop hin (hK _ · · f1 f2) 4 0 P rfl (fun j hj => absurd hj (Nat.not_lt_zero j)) (fun _ _ => rfl)⟩
theorem C_bec_nk_loop {F : FT} {R : RT} {J : JT} {P : PT} {B : BT} (hin : ∀ k ad, k < 4 → P 214 k = some ad → inB B ad) {K : FT → RT → JT → PT → BT → Prop} (hK : ∀ R' P', (∀ k, k < 6 → R' 115 k = R 215 k) → (∀ k, k < 6 → R' 116 k = R 216 k) → (∀ k, k < 48 → R' 117 k = R 217 k) → (∀ k, k ≠ 115 → k ≠ 116 → k ≠ 117 → R' k = R k) → (∀ k, k < 4 → P' 114 k = P 214 k) → (∀ k, k ≠ 114 → P' k = P k) → K F R' J P' B) : ∀ m k P', k + m = 4 → (∀ j, j < k → P' 114 j = P 214 j) → (∀ j, j ≠ 114 → P' j = P j) → qS_becomes_nk_114 (m + 1) F R J P' B (nI k) K := by
  intro m
  induction m with
  | zero =>
    intro k P' hk h1 h2
    unfold qS_becomes_nk_114
    refine pk_le 4 k (fun _ => hK _ _ (fun j hj => ?_) (fun j hj => ?_) (fun j hj => ?_) (fun j n1 n2 n3 => ?_) (fun j hj => h1 j (by omega)) h2) (fun c => by omega)
    · rw [vu_ne (by decide), vu_ne (by decide), vu_eq]; exact (pk_cpy_in (Nat.zero_le _) (by show j < 0 + 6; omega)).trans (congrArg (R 215) (by show 0 + (j - 0) = j; omega))
    · rw [vu_ne (by decide), vu_eq]; exact (pk_cpy_in (Nat.zero_le _) (by show j < 0 + 6; omega)).trans (congrArg (R 216) (by show 0 + (j - 0) = j; omega))
    · rw [vu_eq]; exact (pk_cpy_in (Nat.zero_le _) (by show j < 0 + 48; omega)).trans (congrArg (R 217) (by show 0 + (j - 0) = j; omega))
    · rw [vu_ne n3, vu_ne n2, vu_ne n1]
  | succ m ih =>
    intro k P' hk h1 h2
    unfold qS_becomes_nk_114
    refine pk_le 4 k (fun c => by omega) (fun c => ⟨vp_in_nI (by omega) (by omega), vp_in_nI (by omega) (by omega), ?_, ?_⟩)
    · rw [nI_clamp (by omega), h2 _ (by decide)]; exact fun ad e => hin k ad (by omega) e
    · rw [nI_1, nI_clamp (by omega)]
      refine ih (k + 1) _ (by omega) (fun j hj => ?_) (fun j hj => by rw [vu_ne hj, h2 j hj])
      rw [vu_eq]
      by_cases e : j = k
      · subst e; rw [vu_eq, h2 _ (by decide)]
      · rw [vu_ne e]; exact h1 j (by omega)
theorem C_bec_nk {F : FT} {R : RT} {J : JT} {P : PT} {B : BT} (hin : ∀ k ad, k < 4 → P 214 k = some ad → inB B ad) {K : FT → RT → JT → PT → BT → Prop} (hK : ∀ F' R' P', (∀ k, k < 14 → F' (100 + k) = F (200 + k)) → (∀ k, ¬ (100 ≤ k ∧ k < 114) → F' k = F k) → (∀ k, k < 6 → R' 115 k = R 215 k) → (∀ k, k < 6 → R' 116 k = R 216 k) → (∀ k, k < 48 → R' 117 k = R 217 k) → (∀ k, k ≠ 115 → k ≠ 116 → k ≠ 117 → R' k = R k) → (∀ k, k < 4 → P' 114 k = P 214 k) → (∀ k, k ≠ 114 → P' k = P k) → K F' R' J P' B) : qS_becomes_nk F R J P B K := by
  have f1 : ∀ k, k < 14 → (upd (upd (upd (upd (upd (upd (upd (upd (upd (upd (upd (upd (upd (upd F 100 (F 200)) 101 (F 201)) 102 (F 202)) 103 (F 203)) 104 (F 204)) 105 (F 205)) 106 (F 206)) 107 (F 207)) 108 (F 208)) 109 (F 209)) 110 (F 210)) 111 (F 211)) 112 (F 212)) 113 (F 213)) (100 + k) = F (200 + k) := by
    intro k hk
    match k, hk with
    | 0, _ => rfl
    | 1, _ => rfl
    | 2, _ => rfl
    | 3, _ => rfl
    | 4, _ => rfl
    | 5, _ => rfl
    | 6, _ => rfl
    | 7, _ => rfl
    | 8, _ => rfl
    | 9, _ => rfl
    | 10, _ => rfl
    | 11, _ => rfl
    | 12, _ => rfl
    | 13, _ => rfl
    | k + 14, hk => omega
  have f2 : ∀ k, ¬ (100 ≤ k ∧ k < 114) → (upd (upd (upd (upd (upd (upd (upd (upd (upd (upd (upd (upd (upd (upd F 100 (F 200)) 101 (F 201)) 102 (F 202)) 103 (F 203)) 104 (F 204)) 105 (F 205)) 106 (F 206)) 107 (F 207)) 108 (F 208)) 109 (F 209)) 110 (F 210)) 111 (F 211)) 112 (F 212)) 113 (F 213)) k = F k := by
    intro k hk
    rw [upd_ne (by omega), upd_ne (by omega), upd_ne (by omega), upd_ne (by omega), upd_ne (by omega), upd_ne (by omega), upd_ne (by omega), upd_ne (by omega), upd_ne (by omega), upd_ne (by omega), upd_ne (by omega), upd_ne (by omega), upd_ne (by omega), upd_ne (by omega)]
  unfold qS_becomes_nk
  exact ⟨5, C_bec_nk_loop hin (hK _ · · f1 f2) 4 0 P rfl (fun j hj => absurd hj (Nat.not_lt_zero j)) (fun _ _ => rfl)⟩
theorem M_img2 {F : FT} {R : RT} {J : JT} {K : Int32 → FT → RT → JT → Prop} (hK : ∀ R', (∀ j, j < 37 → R' 13 j = R 0 j) → (∀ j, j < 48 → R' 13 (37 + j) = R 8 j) → (∀ j, j ≠ 13 → R' j = R j) → K 1 (upd (upd F 14 (F 9)) 15 1) R' J) : ∀ m k R', k + m = 48 → (∀ j, j < 37 → R' 13 j = R 0 j) → (∀ j, j < k → R' 13 (37 + j) = R 8 j) → (∀ j, j ≠ 13 → R' j = R j) → qM_image_28 (m + 1) F R' J (nI k) K := by
  intro m
  induction m with
  | zero =>
    intro k R' hk h1 h2 h3
    unfold qM_image_28
    exact pk_le 48 k (fun _ => hK R' h1 (fun j hj => h2 j (by omega)) h3) (fun c => by omega)
  | succ m ih =>
    intro k R' hk h1 h2 h3
    unfold qM_image_28
    have i37 : (37 : Int32) + nI k = nI (37 + k) := nI_add 37 k
    refine pk_le 48 k (fun c => by omega) (fun _ => ⟨vp_in_nI (by omega) (by omega), ?_⟩)
    rw [i37, nI_clamp (n := 37 + k) (by omega), nI_clamp (n := k) (by omega), nI_1]
    refine ⟨vp_in_nI (by omega) (by omega), ih (k + 1) _ (by omega) (fun j hj => ?_) (fun j hj => ?_) (fun j hj => by rw [vu_ne hj, h3 j hj])⟩
    · rw [vu_eq, upd_ne (by omega)]; exact h1 j hj
    · rw [vu_eq]
      by_cases e : j = k
      · subst e; rw [upd_eq, h3 8 (by decide)]
      · rw [upd_ne (by omega)]; exact h2 j (by omega)
theorem M_img1 {F : FT} {R : RT} {J : JT} {K : Int32 → FT → RT → JT → Prop} (hK : ∀ R', (∀ j, j < 37 → R' 13 j = R 0 j) → (∀ j, j < 48 → R' 13 (37 + j) = R 8 j) → (∀ j, j ≠ 13 → R' j = R j) → K 1 (upd (upd F 14 (F 9)) 15 1) R' J) : ∀ m k R', k + m = 37 → (∀ j, j < k → R' 13 j = R 0 j) → (∀ j, j ≠ 13 → R' j = R j) → qM_image_2 (m + 1) F R' J (nI k) K := by
  intro m
  induction m with
  | zero =>
    intro k R' hk h1 h2
    unfold qM_image_2
    exact pk_le 37 k (fun _ => ⟨49, M_img2 hK 48 0 R' rfl (fun j hj => h1 j (by omega)) (fun j hj => absurd hj (Nat.not_lt_zero j)) h2⟩) (fun c => by omega)
  | succ m ih =>
    intro k R' hk h1 h2
    unfold qM_image_2
    refine pk_le 37 k (fun c => by omega) (fun _ => ⟨vp_in_nI (by omega) (by omega), vp_in_nI (by omega) (by omega), ?_⟩)
    rw [nI_clamp (n := k) (by omega), nI_1]
    refine ih (k + 1) _ (by omega) (fun j hj => ?_) (fun j hj => by rw [vu_ne hj, h2 j hj])
    rw [vu_eq]
    by_cases e : j = k
    · subst e; rw [upd_eq, h2 0 (by decide)]
    · rw [upd_ne (by omega)]; exact h1 j (by omega)
theorem M_res2 {F : FT} {R : RT} {J : JT} {K : Int32 → FT → RT → JT → Prop} (hK : ∀ R', (∀ j, j < 37 → R' 0 j = R 13 j) → (∀ j, j < 48 → R' 8 j = R 13 (37 + j)) → (∀ j, j ≠ 0 → j ≠ 8 → R' j = R j) → K 1 (upd F 9 (F 14)) R' J) : ∀ m k R', k + m = 48 → (∀ j, j < 37 → R' 0 j = R 13 j) → (∀ j, j < k → R' 8 j = R 13 (37 + j)) → (∀ j, j ≠ 0 → j ≠ 8 → R' j = R j) → qM_restore_38 (m + 1) F R' J (nI k) K := by
  intro m
  induction m with
  | zero =>
    intro k R' hk h1 h2 h3
    unfold qM_restore_38
    exact pk_le 48 k (fun _ => hK R' h1 (fun j hj => h2 j (by omega)) h3) (fun c => by omega)
  | succ m ih =>
    intro k R' hk h1 h2 h3
    unfold qM_restore_38
    have i37 : (37 : Int32) + nI k = nI (37 + k) := nI_add 37 k
    refine pk_le 48 k (fun c => by omega) (fun _ => ?_)
    rw [i37, nI_clamp (n := 37 + k) (by omega), nI_clamp (n := k) (by omega), nI_1]
    refine ⟨vp_in_nI (by omega) (by omega), vp_in_nI (by omega) (by omega), ih (k + 1) _ (by omega) (fun j hj => ?_) (fun j hj => ?_) (fun j hj h8 => by rw [vu_ne h8, h3 j hj h8])⟩
    · rw [vu_ne (by decide)]; exact h1 j hj
    · rw [vu_eq]
      by_cases e : j = k
      · subst e; rw [upd_eq, h3 13 (by decide) (by decide)]
      · rw [upd_ne (by omega)]; exact h2 j (by omega)
theorem M_res1 {F : FT} {R : RT} {J : JT} {K : Int32 → FT → RT → JT → Prop} (hK : ∀ R', (∀ j, j < 37 → R' 0 j = R 13 j) → (∀ j, j < 48 → R' 8 j = R 13 (37 + j)) → (∀ j, j ≠ 0 → j ≠ 8 → R' j = R j) → K 1 (upd F 9 (F 14)) R' J) : ∀ m k R', k + m = 37 → (∀ j, j < k → R' 0 j = R 13 j) → (∀ j, j ≠ 0 → R' j = R j) → qM_restore_12 (m + 1) F R' J (nI k) K := by
  intro m
  induction m with
  | zero =>
    intro k R' hk h1 h2
    unfold qM_restore_12
    exact pk_le 37 k (fun _ => ⟨49, M_res2 hK 48 0 R' rfl (fun j hj => h1 j (by omega)) (fun j hj => absurd hj (Nat.not_lt_zero j)) (fun j hj _ => h2 j hj)⟩) (fun c => by omega)
  | succ m ih =>
    intro k R' hk h1 h2
    unfold qM_restore_12
    refine pk_le 37 k (fun c => by omega) (fun _ => ⟨vp_in_nI (by omega) (by omega), vp_in_nI (by omega) (by omega), ?_⟩)
    rw [nI_clamp (n := k) (by omega), nI_1]
    refine ih (k + 1) _ (by omega) (fun j hj => ?_) (fun j hj => by rw [vu_ne hj, h2 j hj])
    rw [vu_eq]
    by_cases e : j = k
    · subst e; rw [upd_eq, h2 13 (by decide)]
    · rw [upd_ne (by omega)]; exact h1 j (by omega)
theorem T_image (F : FT) (R : RT) (J : JT) (P : PT) (B : BT) (F0 : FT) (R0 : RT) (J0 : JT) (I : INV F R J P B F0 R0 J0) : qW_image F R J P B (fun r F R J P B => qM_image F0 R0 J0 (fun r0 F0 R0 J0 => r = r0 ∧ INV F R J P B F0 R0 J0)) := by
  obtain ⟨⟨x, b, h, p, A, H, M⟩, i2, i3, i4, i5⟩ := I
  unfold qW_image
  refine C_bec_kn (H.2.2.1) (fun F' R' P' f1 f2 r1 r2 r3 r4 q1 q2 => ?_)
  unfold qM_image
  refine ⟨38, M_img1 (fun R0' g1 g2 g3 => ⟨rfl, ?_⟩) 37 0 R0 rfl (fun j hj => absurd hj (Nat.not_lt_zero j)) (fun _ _ => rfl)⟩
  have u : ∀ k, k ≠ 5 → upd F' 5 1 k = F' k := fun k hk => upd_ne hk
  have u0 : ∀ k, k ≠ 14 → k ≠ 15 → upd (upd F0 14 (F0 9)) 15 1 k = F0 k := fun k h1 h2 => by rw [upd_ne h2, upd_ne h1]
  have cs2 : CS 200 x b h p (upd F' 5 1) R' P' B := H.tr A (fun k hk => by rw [u _ (by omega)]; exact f1 k hk) r1 r2 r3 q1
  refine ⟨⟨x, b, h, p, A, H.cg (fun k hk => by rw [u _ (by omega), f2 _ (by omega)]) (fun k h1 h2 => r4 _ (by omega) (by omega) (by omega)) (q2 _ (by decide)) (fun _ hz => hz), ?_⟩, ⟨cs2.2.2.1, Or.inr ⟨upd_eq, upd_eq, x, b, h, p, A, cs2, ?_⟩⟩, i3.cg (by rw [u _ (by decide), f2 _ (by decide)]) (r4 _ (by decide) (by decide) (by decide)) (u0 _ (by decide) (by decide)) (g3 _ (by decide)), i4.cg (fun k hk => by rw [u _ (by omega), f2 _ (by omega)]) rfl ⟨g3 _ (by decide), g3 _ (by decide)⟩ rfl, ?_⟩
  · rw [g3 0 (by decide), g3 8 (by decide), u0 9 (by decide) (by decide)]; exact M
  · exact M.cg A g1 g2 (by rw [upd_ne (by decide), upd_eq])
  · rw [u0 1 (by decide) (by decide)]; exact i5
theorem T_restore (F : FT) (R : RT) (J : JT) (P : PT) (B : BT) (F0 : FT) (R0 : RT) (J0 : JT) (I : INV F R J P B F0 R0 J0) : qW_restore F R J P B (fun r F R J P B => qM_restore F0 R0 J0 (fun r0 F0 R0 J0 => r = r0 ∧ INV F R J P B F0 R0 J0)) := by
  unfold qW_restore
  rcases id I.2.1.2 with ⟨e1, e2⟩ | ⟨e1, e2, x, b, h, p, A, H, M⟩
  · rw [e1]
    refine ⟨fun c => absurd rfl c, fun _ => ?_⟩
    unfold qM_restore
    rw [e2]
    exact ⟨fun c => absurd rfl c, fun _ => ⟨rfl, I⟩⟩
  · obtain ⟨i1, i2, i3, i4, i5⟩ := I
    rw [e1]
    refine ⟨fun _ => C_bec_nk (H.2.2.1) (fun F' R' P' f1 f2 r1 r2 r3 r4 q1 q2 => ?_), fun c => absurd c (by decide)⟩
    unfold qM_restore
    rw [e2]
    refine ⟨fun _ => ⟨38, M_res1 (fun R0' g1 g2 g3 => ⟨rfl, ?_⟩) 37 0 R0 rfl (fun j hj => absurd hj (Nat.not_lt_zero j)) (fun _ _ => rfl)⟩, fun c => absurd c (by decide)⟩
    have u0 : ∀ k, k ≠ 9 → upd F0 9 (F0 14) k = F0 k := fun k h1 => upd_ne h1
    refine ⟨⟨x, b, h, p, A, H.tr A f1 r1 r2 r3 q1, M.cg A g1 (fun j hj => g2 j hj) upd_eq⟩, i2.cg (f2 _ (by decide)) (fun k hk => f2 _ (by omega)) (fun k h1 h2 => r4 _ (by omega) (by omega) (by omega)) (q2 _ (by decide)) (fun _ hz => hz) ⟨u0 _ (by decide), u0 _ (by decide)⟩ (g3 _ (by decide) (by decide)), i3.cg (f2 _ (by decide)) (r4 _ (by decide) (by decide) (by decide)) (u0 _ (by decide)) (g3 _ (by decide) (by decide)), i4.cg (fun k hk => f2 _ (by omega)) rfl ⟨g3 _ (by decide) (by decide), g3 _ (by decide) (by decide)⟩ rfl, ?_⟩
    rw [u0 1 (by decide)]; exact i5
