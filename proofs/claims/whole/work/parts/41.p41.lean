/-! ===== the pure part: bargain ===== -/
section MPU
variable {T : Nat → Nat} {nt : Nat} {F : FT} {R : RT} {J : JT} {K : Int32 → FT → RT → JT → Prop}
theorem M_par (X : TX T nt (R 3)) (e4 : F 4 = nI nt) (bk hk : Nat → Nat → Nat) {r : Except Nat (Nat × Nat × (Nat × (Nat → Nat → Nat)) × (Nat × (Nat → Nat → Nat)))} (hr : r = parE T nt bk hk) (g1 : ∀ v0 v1 nb bk' nh hk', r = .ok (v0, v1, (nb, bk'), (nh, hk')) → ∀ F' R', F' 6 = 0 → MRw R' nb nh bk' hk' → FrM F F' R R' → qM_bargain_79 F' R' J (nI v0) (nI v1) (nI nb) (nI nh) K) (g2 : ∀ s, r = .error s → ∀ F' R' w1 w2 w3 w4, F' 5 = nI s → F' 6 = 1 → FrM F F' R R' → qM_bargain_79 F' R' J w1 w2 w3 w4 K) : qM_bargain F R J K := by
  have H0 : MB T nt (upd (upd F 5 0) 6 0) R 0 := ⟨X, Nat.zero_le _, by rw [upd_ne (by decide), upd_ne (by decide)]; exact e4, rfl⟩
  have fr0 : FrM F (upd (upd F 5 0) 6 0) R R := ⟨fun k q1 q2 => by rw [upd_ne q2, upd_ne q1], fun _ _ => rfl⟩
  have fb : ∀ s F' (w1 w2 : Int32), r = .error s → F' 5 = nI s → F' 6 = 1 → FrM F F' R R → qM_readBuilders F' R J (fun r5 F5 R5 J5 => (¬ (F5 6) = 0 → (qM_bargain_79 F5 R5 J5 w1 w2 r5 (0 : Int32) K)) ∧ ((F5 6) = 0 → (qM_here F5 R5 J5 (fun r7 F7 R7 J7 => (¬ r7 = (59 : Int32) → (qM_bargain_79 F7 R7 J7 w1 w2 r5 (0 : Int32) K)) ∧ (r7 = (59 : Int32) → (qM_readHindrances (upd F7 5 ((F7 5) + (1 : Int32))) R7 J7 (fun r9 F9 R9 J9 => qM_bargain_79 F9 R9 J9 w1 w2 r5 r9 K))))))) := fun s F' w1 w2 hs e' h' f' => ⟨1, ⟨fun _ => ⟨fun _ => g2 s hs F' R _ _ _ _ e' h' f', fun c => absurd c (n61 h')⟩, fun c => absurd c (n61 h')⟩⟩
  unfold parE at hr
  unfold qM_bargain
  refine M_num_y 200 (by omega) H0 upd_eq (fun c0 F1 H1 h1 f1 => ?_) (fun c0 v F1 H1 h1 f1 => ?_)
  case refine_2 =>
    rw [if_neg c0] at hr
    have sid : skp T nt (skp T nt 0) = skp T nt 0 := skp_id X.1 (Nat.zero_le _)
    exact M_takes_f 44 H1 sid h1 (fun F2 H2 h2 f2 => M_num_f 1 40 H2 h2 (fun v3 F3 H3 h3 f3 => M_takes_f 59 H3 sid h3 (fun F4 H4 h4 f4 => fb _ F4 _ _ hr H4.2.2.2 h4 ((((fr0.tr f1).tr f2).tr f3).tr f4))))
  rw [if_pos c0] at hr
  have fr1 := fr0.tr f1
  generalize (dgs T nt 3 (skp T nt 0) 0).1 = v0 at *
  generalize (dgs T nt 3 (skp T nt 0) 0).2 = a1 at *
  unfold par2 at hr
  refine M_takes_y 44 (by decide) (by decide) H1 h1 (fun e F2 H2 h2 f2 => ?_) (fun e F2 H2 h2 f2 => ?_)
  case refine_2 =>
    rw [if_neg e] at hr
    have sid : skp T nt (skp T nt a1) = skp T nt a1 := skp_id X.1 H1.2.1
    exact M_num_f 1 40 H2 h2 (fun v3 F3 H3 h3 f3 => M_takes_f 59 H3 sid h3 (fun F4 H4 h4 f4 => fb _ F4 _ _ hr H4.2.2.2 h4 (((fr1.tr f2).tr f3).tr f4)))
  rw [if_pos e] at hr
  have fr2 := fr1.tr f2
  refine M_num_y 40 (by omega) H2 h2 (fun c1 F3 H3 h3 f3 => ?_) (fun c1 v F3 H3 h3 f3 => ?_)
  case refine_2 =>
    rw [if_neg c1] at hr
    have sid : skp T nt (skp T nt (skp T nt a1 + 1)) = skp T nt (skp T nt a1 + 1) := skp_id X.1 H2.2.1
    exact M_takes_f 59 H3 sid h3 (fun F4 H4 h4 f4 => fb _ F4 _ _ hr H4.2.2.2 h4 ((fr2.tr f3).tr f4))
  rw [if_pos c1] at hr
  have fr3 := fr2.tr f3
  generalize (dgs T nt 3 (skp T nt (skp T nt a1 + 1)) 0).1 = v1 at *
  generalize (dgs T nt 3 (skp T nt (skp T nt a1 + 1)) 0).2 = a3 at *
  unfold par3 at hr
  refine M_takes_y 59 (by decide) (by decide) H3 h3 (fun e F4 H4 h4 f4 => ?_) (fun e F4 H4 h4 f4 => ?_)
  case refine_2 =>
    rw [if_neg e] at hr
    exact fb _ F4 _ _ hr H4.2.2.2 h4 (fr3.tr f4)
  rw [if_pos e] at hr
  have fr4 := fr3.tr f4
  refine ⟨6, M_blds (nh := 0) (hk := hk) F4 R (fun n a' bk' er hc F5 R5 H5 h5 W5 f5 => ⟨fun c => absurd h5 c, fun _ => M_here H5 (fun F7 H7 f7 => ?_)⟩) (fun s er v F5 R5 e5 h5 f5 => ⟨fun _ => ?_, fun c => absurd c (n61 h5)⟩) 4 0 _ bk F4 R rfl H4 h4 ⟨by omega, by omega, fun k q => absurd q (Nat.not_lt_zero k), fun k q => absurd q (Nat.not_lt_zero k)⟩ FrM.rf rfl⟩
  case refine_2 =>
    refine g2 s ?_ F5 R5 _ _ _ _ e5 h5 (fr4.tr f5)
    rcases er with er | ⟨n, a', bk', er, es, n0, n9⟩
    · rw [er] at hr; exact hr
    · rw [er] at hr
      dsimp only at hr
      unfold par4 at hr
      rw [if_neg n0, if_neg n9] at hr
      rw [hr, es]
  rw [er] at hr
  dsimp only at hr
  unfold par4 at hr
  have a'n : skp T nt a' ≤ nt := H5.2.1
  have sid : skp T nt (skp T nt a') = skp T nt a' := by
    have := H5.2.1
    rcases Nat.lt_or_ge nt a' with q | q
    · exact absurd (by unfold skp; rw [sk_id (fun c => by omega)]; exact q : nt < skp T nt a') (by omega)
    · exact skp_id X.1 q
  rw [sid] at H7 ⊢
  have h7 : F7 6 = 0 := by rw [f7 6 (by decide)]; exact h5
  have fr7 := (fr4.tr f5).tr (FrM.a (R := R5) f7)
  have cb := H5.1.le (skp T nt a')
  refine And.symm (pk_eq _ 59 (fun q => ?_) (fun q => ?_) rfl rfl (by omega))
  · rw [if_neg (by omega), if_pos q] at hr
    have lt := ch_lt (T := T) (nt := nt) (a := skp T nt a') (by omega)
    rw [show F7 5 = nI (skp T nt a') from H7.2.2.2, nI_1]
    refine ⟨8, ⟨fun c => absurd (show upd F7 5 _ 6 = 0 by rw [upd_ne (by decide)]; exact h7) c, fun _ => ⟨fun _ => M_hnds (upd F7 5 (nI (skp T nt a' + 1))) R5 (fun n2 hk' er2 F8 R8 h8 W8 f8 => ?_) (fun s er2 v F8 R8 e8 h8 f8 => ?_) 6 0 (skp T nt a' + 1) hk _ R5 rfl (H7.mv upd_eq (by omega) (fun k q1 _ => upd_ne q1)) (fun c => absurd c (Nat.lt_irrefl 0)) (by rw [upd_ne (by decide)]; exact h7) W5 FrM.rf rfl, fun c => absurd rfl c⟩⟩⟩
    · rw [er2] at hr
      exact g1 _ _ _ _ _ _ hr F8 R8 h8 W8 ((fr7.tr (FrM.a (fun k q1 => upd_ne q1))).tr f8)
    · rw [er2] at hr
      exact g2 _ hr F8 R8 _ _ _ _ e8 h8 ((fr7.tr (FrM.a (fun k q1 => upd_ne q1))).tr f8)
  · have q0 : ch T nt (skp T nt a') = 0 := by omega
    rw [if_pos q0] at hr
    exact g1 _ _ _ _ _ _ hr F7 R5 h7 W5 fr7
theorem M_79_165 {v3 : Int32} (hK : ∀ R', (∀ j, 6 ≤ j → j < 11 → R' 0 j = 0) → (∀ j, ¬ (6 ≤ j ∧ j < 11) → R' 0 j = R 0 j) → (∀ j, j ≠ 0 → R' j = R j) → K v3 (upd F 9 0) R' J) : ∀ m k R', k + m = 11 → 6 ≤ k → (∀ j, 6 ≤ j → j < k → R' 0 j = 0) → (∀ j, ¬ (6 ≤ j ∧ j < 11) → R' 0 j = R 0 j) → (∀ j, j ≠ 0 → R' j = R j) → qM_bargain_165 (m + 1) F R' J v3 (nI k) K := by
  intro m
  induction m with
  | zero =>
    intro k R' hk _ h1 h2 h3
    unfold qM_bargain_165
    exact pk_lt 10 k (fun _ => hK R' (fun j q1 q2 => h1 j q1 (by omega)) h2 h3) (fun c => by omega)
  | succ m ih =>
    intro k R' hk hk6 h1 h2 h3
    unfold qM_bargain_165
    rw [nI_clamp (n := k) (by omega), nI_1]
    refine pk_lt 10 k (fun c => by omega) (fun _ => ⟨vp_in_nI (by omega) (by omega), ih (k + 1) _ (by omega) (by omega) (fun j q1 q2 => ?_) (fun j q => ?_) (fun j q => by rw [vu_ne q, h3 j q])⟩)
    · rw [vu_eq]
      by_cases e : j = k
      · subst e; exact upd_eq
      · rw [upd_ne e]; exact h1 j q1 (by omega)
    · rw [vu_eq, upd_ne (by omega)]; exact h2 j q
theorem M_79_102 {v1 v2 v3 v4 : Int32} (hK : ∀ R', (∀ j, j < 24 → R' 0 (13 + j) = R 7 j) → (R' 0 0 = v3 ∧ R' 0 1 = v4 ∧ R' 0 2 = v1 ∧ R' 0 3 = v2) → (∀ j, 6 ≤ j → j < 11 → R' 0 j = 0) → (∀ j, j = 4 ∨ j = 5 ∨ j = 11 ∨ j = 12 → R' 0 j = R 0 j) → (∀ j, j ≠ 0 → R' j = R j) → K v3 (upd F 9 0) R' J) : ∀ m k R', k + m = 24 → (∀ j, j < k → R' 0 (13 + j) = R 7 j) → (∀ j, j < 13 → R' 0 j = R 0 j) → (∀ j, j ≠ 0 → R' j = R j) → qM_bargain_102 (m + 1) F R' J v1 v2 v3 v4 (nI k) K := by
  intro m
  induction m with
  | zero =>
    intro k R' hk h1 h2 h3
    unfold qM_bargain_102
    refine pk_le 24 k (fun _ => ⟨6, M_79_165 (fun R2 q1 q2 q3 => hK R2 (fun j hj => ?_) ⟨?_, ?_, ?_, ?_⟩ q1 (fun j hj => ?_) (fun j hj => ?_)) 5 6 _ rfl (by omega) (fun j a b => by omega) (fun _ _ => rfl) (fun _ _ => rfl)⟩) (fun c => by omega)
    · rw [q2 _ (by omega), vu_eq, upd_ne (by omega), upd_ne (by omega), upd_ne (by omega), upd_ne (by omega)]; exact h1 j (by omega)
    · rw [q2 _ (by omega), vu_eq, upd_ne (by omega), upd_ne (by omega), upd_ne (by omega), upd_eq]
    · rw [q2 _ (by omega), vu_eq, upd_ne (by omega), upd_ne (by omega), upd_eq]
    · rw [q2 _ (by omega), vu_eq, upd_ne (by omega), upd_eq]
    · rw [q2 _ (by omega), vu_eq, upd_eq]
    · rw [q2 _ (by omega), vu_eq, upd_ne (by omega), upd_ne (by omega), upd_ne (by omega), upd_ne (by omega)]; exact h2 j (by omega)
    · rw [q3 j hj, vu_ne hj, vu_ne hj, vu_ne hj, vu_ne hj, h3 j hj]
  | succ m ih =>
    intro k R' hk h1 h2 h3
    unfold qM_bargain_102
    rw [show (13 : Int32) + nI k = nI (13 + k) from nI_add 13 k, nI_clamp (n := k) (by omega), nI_clamp (n := 13 + k) (by omega), nI_1]
    refine pk_le 24 k (fun c => by omega) (fun _ => ⟨vp_in_nI (by omega) (by omega), vp_in_nI (by omega) (by omega), ih (k + 1) _ (by omega) (fun j hj => ?_) (fun j hj => ?_) (fun j q => by rw [vu_ne q, h3 j q])⟩)
    · rw [vu_eq]
      by_cases e : j = k
      · subst e; rw [upd_eq, h3 7 (by decide)]
      · rw [upd_ne (by omega)]; exact h1 j (by omega)
    · rw [vu_eq, upd_ne (by omega)]; exact h2 j hj
end MPU
/-- the site that a bargain begins -/
def xbg (x : Nat → Nat) (v0 v1 nb nh : Nat) : Nat → Nat := fun k => if k = 0 then v0 else if k = 1 then v1 else if k = 2 then x 2 else if k = 3 then x 3 else if k = 9 then x 9 else if k = 10 then x 10 else if k = 11 then nb else if k = 12 then nh else 0
theorem AOK.bg {x : Nat → Nat} {b h p : Nat → Nat → Nat} (A : AOK x b h p) {v0 v1 nb nh : Nat} {bk hk : Nat → Nat → Nat} (h0 : 1 ≤ v0 ∧ v0 ≤ 200) (h1 : 1 ≤ v1 ∧ v1 ≤ 40) (hb : bOKN nb bk) (hh : hOKN nh hk) : AOK (xbg x v0 v1 nb nh) bk hk p := by
  have a1 := A.1
  have p2 : 0 < 2 ^ nh := Nat.pow_pos (by omega)
  refine ⟨?_, hb.2, hh.2, fun i hi => absurd hi (Nat.not_lt_zero i), fun i j _ hj => absurd hj (Nat.not_lt_zero j), fun k hk => ?_, fun i k hi => absurd hi (Nat.not_lt_zero i)⟩
  · show 1 ≤ v0 ∧ v0 ≤ 200 ∧ 1 ≤ v1 ∧ v1 ≤ 40 ∧ x 2 + x 3 ≤ 10 ∧ 0 ≤ v1 ∧ 0 ≤ v0 ∧ 0 < 64 ∧ 0 < 2 ^ nh ∧ 0 < 16 ∧ x 9 < 16 ∧ x 10 < 2 ^ 31 ∧ nb ≤ 4 ∧ nh ≤ 6 ∧ 0 ≤ 8
    have := hb.1
    have := hh.1
    omega
  · have hk : Nat.testBit 0 k = true := hk
    rw [Nat.zero_testBit] at hk; exact absurd hk (by decide)
section BG
variable {R : RT} {J : JT} {P : PT} {B : BT} {nb nh : Nat} {bk hk : Nat → Nat → Nat} {K : FT → RT → JT → PT → BT → Prop}
def BSt (bk : Nat → Nat → Nat) (P : PT) (B : BT) (k : Nat) (P' : PT) (B' : BT) : Prop := (∀ j, j < k → ∃ (ad c : Nat) (pp hh : Int32), P' 114 j = some ad ∧ (ad, c, pp, hh) ∈ B' ∧ bOK c ∧ kindV c = nI (bk j 0) ∧ pp = nI (bk j 1) ∧ hh = nI (bk j 2)) ∧ (∀ j ad, j < 4 → P' 114 j = some ad → inB B' ad) ∧ (∀ j, j ≠ 114 → P' j = P j) ∧ (∀ z ∈ B, z ∈ B')
theorem C_bg96 {F : FT} {P' : PT} {B' : BT} {c : Nat} (hc : c ≤ 4) (e10 : F 310 = nI nh) (hn : nh ≤ 6) (hR : ∀ k, k < nh → R 304 k = nI (hk k 0) ∧ R 305 k = oaV (hk k 1)) (hK : ∀ F' R', F' 112 = nI nh → (∀ k, k ≠ 112 → F' k = F k) → (∀ k, k < nh → R' 115 k = nI (hk k 0) ∧ R' 116 k = oaV (hk k 1)) → (∀ k, k ≠ 115 → k ≠ 116 → R' k = R k) → K F' R' J P' B') : ∀ m k F' R', k + m = nh → F' 112 = nI k → (∀ k, k ≠ 112 → F' k = F k) → (∀ j, j < k → R' 115 j = nI (hk j 0) ∧ R' 116 j = oaV (hk j 1)) → (∀ k, k ≠ 115 → k ≠ 116 → R' k = R k) → qS_begin_96 (m + 1) F' R' J P' B' c (nI k) K := by
  intro m
  induction m with
  | zero =>
    intro k F' R' hm e f r1 r2
    have hm : k = nh := by omega
    subst hm
    unfold qS_begin_96
    exact pk_le k k (fun _ => ⟨hc, hK F' R' e f r1 r2⟩) (fun c => by omega) (by rw [f _ (by decide)]; exact e10)
  | succ m ih =>
    intro k F' R' hm e f r1 r2
    unfold qS_begin_96
    rw [nI_clamp (n := k) (by omega)]
    have vi : vp_in (nI k) 6 := vp_in_nI (by omega) (by omega)
    refine pk_le nh k (fun c => by omega) (fun _ => ⟨vi, vi, hc, ?_⟩) (by rw [f _ (by decide)]; exact e10)
    unfold qS_addHindrance
    rw [e, nI_clamp (n := k) (by omega), nI_1]
    refine pk_le 6 k (fun c => by omega) (fun _ => ⟨vi, vi, ih (k + 1) _ _ (by omega) upd_eq (fun j hj => by rw [upd_ne hj, f j hj]) (fun j hj => ?_) (fun j h1 h2 => by rw [vu_ne h2, vu_ne h1, r2 j h1 h2])⟩)
    rw [vu_ne (show (115 : Nat) ≠ 116 by decide), vu_eq, vu_eq]
    by_cases ej : j = k
    · subst ej
      rw [upd_eq, upd_eq, r2 304 (by decide) (by decide), r2 305 (by decide) (by decide)]; exact hR j (by omega)
    · rw [upd_ne ej, upd_ne ej]; exact r1 j (by omega)
theorem C_bg58 {F : FT} (e9 : F 309 = nI nb) (e10 : F 310 = nI nh) (e12 : F 112 = 0) (hb : bOKN nb bk) (hh : hOKN nh hk) (hRb : ∀ k, k < nb → R 301 k = nI (bk k 0) ∧ R 302 k = nI (bk k 1) ∧ R 303 k = nI (bk k 2)) (hR : ∀ k, k < nh → R 304 k = nI (hk k 0) ∧ R 305 k = oaV (hk k 1)) (hK : ∀ F' R' P' B', F' 111 = nI nb → F' 112 = nI nh → (∀ k, k ≠ 111 → k ≠ 112 → F' k = F k) → BSt bk P B nb P' B' → (∀ k, k < nh → R' 115 k = nI (hk k 0) ∧ R' 116 k = oaV (hk k 1)) → (∀ k, k ≠ 115 → k ≠ 116 → R' k = R k) → K F' R' J P' B') : ∀ m k F' P' B', k + m = nb → F' 111 = nI k → (∀ k, k ≠ 111 → F' k = F k) → BSt bk P B k P' B' → qS_begin_58 (m + 1) F' R J P' B' k (nI k) K := by
  have hb4 := hb.1
  intro m
  induction m with
  | zero =>
    intro k F' P' B' hm e f S
    have hm : k = nb := by omega
    subst hm
    unfold qS_begin_58
    refine pk_le k k (fun _ => ⟨nh + 1, C_bg96 (by omega) (by rw [f _ (by decide)]; exact e10) hh.1 hR (fun F2 R2 e2 f2 r1 r2 => hK F2 R2 P' B' (by rw [f2 _ (by decide)]; exact e) e2 (fun j h1 h2 => by rw [f2 j h2, f j h1]) S r1 r2) nh 0 F' R (by omega) (by rw [f _ (by decide)]; exact e12) (fun _ _ => rfl) (fun j hj => absurd hj (Nat.not_lt_zero j)) (fun _ _ _ => rfl)⟩) (fun c => by omega) (by rw [f _ (by decide)]; exact e9)
  | succ m ih =>
    intro k F' P' B' hm e f S
    unfold qS_begin_58
    rw [nI_clamp (n := k) (by omega)]
    have vi : vp_in (nI k) 4 := vp_in_nI (by omega) (by omega)
    refine pk_le nb k (fun c => by omega) (fun _ => ⟨vi, vi, vi, by omega, ?_⟩) (by rw [f _ (by decide)]; exact e9)
    obtain ⟨q0, q1, q2⟩ := hRb k (by omega)
    have bb := hb.2 k (by omega)
    obtain ⟨k1, k2⟩ := cls_k (bk k 0) bb.1
    unfold qS_addBuilder
    rw [q0, q1, q2, e]
    refine pk_le 4 k (fun c => by omega) (fun _ ad => ⟨vi, ⟨_, _, _, List.mem_append_right _ (List.mem_singleton.mpr rfl), k2⟩, ?_⟩)
    rw [e, nI_clamp (n := k) (by omega), nI_1]
    obtain ⟨s1, s2, s3, s4⟩ := S
    have hm' : ∀ z ∈ B', z ∈ B' ++ [(ad, clsOf (nI (bk k 0)), nI (bk k 1), nI (bk k 2))] := fun z hz => List.mem_append_left _ hz
    refine ih (k + 1) _ _ _ (by omega) upd_eq (fun j hj => by rw [upd_ne hj, f j hj]) ⟨fun j hj => ?_, fun j ad2 hj ej => ?_, fun j hj => by rw [vu_ne hj, s3 j hj], fun z hz => hm' z (s4 z hz)⟩
    · rw [vu_eq]
      by_cases ej : j = k
      · subst ej
        exact ⟨ad, _, _, _, vu_eq, List.mem_append_right _ (List.mem_singleton.mpr rfl), k2, k1, rfl, rfl⟩
      · obtain ⟨a, c, pp, qq, e1, e2, e3⟩ := s1 j (by omega)
        exact ⟨a, c, pp, qq, by rw [vu_ne ej]; exact e1, hm' _ e2, e3⟩
    · rw [vu_eq] at ej
      by_cases e2 : j = k
      · subst e2
        rw [vu_eq] at ej
        cases ej
        exact ⟨_, _, _, List.mem_append_right _ (List.mem_singleton.mpr rfl), k2⟩
      · rw [vu_ne e2] at ej
        exact (s2 j ad2 hj ej).mono hm'
end BG
theorem T_bargain (F : FT) (R : RT) (J : JT) (P : PT) (B : BT) (F0 : FT) (R0 : RT) (J0 : JT) (I : INV F R J P B F0 R0 J0) : qW_bargain F R J P B (fun r F R J P B => qM_bargain F0 R0 J0 (fun r0 F0 R0 J0 => r = r0 ∧ INV F R J P B F0 R0 J0)) := by
  obtain ⟨s1, im, ⟨nt, n60, t1, t2, t3⟩, sh, fa⟩ := id I
  obtain ⟨x, b, h, p, A, H, M⟩ := id s1
  obtain ⟨T, hT⟩ : ∃ T : Nat → Nat, ∀ k, k < nt → 32 ≤ T k ∧ T k ≤ 126 ∧ R 300 k = nI (T k) ∧ R0 3 k = nI (T k) := by
    refine ⟨fun k => (R 300 k).toNatClampNeg, fun k hk => ?_⟩
    obtain ⟨c, c1, c2, c3, c4⟩ := t3 k hk
    have : (R 300 k).toNatClampNeg = c := by rw [c3, nI_clamp (by omega)]
    show 32 ≤ (R 300 k).toNatClampNeg ∧ (R 300 k).toNatClampNeg ≤ 126 ∧ R 300 k = nI (R 300 k).toNatClampNeg ∧ R0 3 k = nI (R 300 k).toNatClampNeg
    rw [this]; exact ⟨c1, c2, c3, c4⟩
  have XC : TX T nt (R 300) := ⟨n60, fun k hk => ⟨(hT k hk).1, (hT k hk).2.1, (hT k hk).2.2.1⟩⟩
  have XM : TX T nt (R0 3) := ⟨n60, fun k hk => ⟨(hT k hk).1, (hT k hk).2.1, (hT k hk).2.2.2⟩⟩
  unfold qW_bargain
  refine C_read XC t1 b h (rfl : parE T nt b h = _) (fun v0 v1 nb bk nh hk er F1 R1 a c0 c1 H1 e7 e8 fr => ⟨fun _ => ?_, fun c => absurd c (by decide)⟩) (fun s er F1 R1 e1 fr => ⟨fun c => absurd rfl c, fun _ => ?_⟩)
  · obtain ⟨-, -, -, -, ⟨e9, hb, rb⟩, ⟨e10, hh, rh⟩⟩ := H1
    have fr1 := fr.1
    have u : ∀ (G : FT) (k : Nat), ¬ (100 ≤ k ∧ k < 114) → upd (upd (upd (upd (upd (upd (upd (upd (upd (upd G 100 (G 307)) 101 (G 308)) 104 0) 105 0) 106 0) 107 0) 108 0) 113 0) 111 0) 112 0 k = G k := by
      intro G k hk
      rw [upd_ne (by omega), upd_ne (by omega), upd_ne (by omega), upd_ne (by omega), upd_ne (by omega), upd_ne (by omega), upd_ne (by omega), upd_ne (by omega), upd_ne (by omega), upd_ne (by omega)]
    have q7 : upd F1 306 0 307 = nI v0 := by rw [upd_ne (by decide)]; exact e7
    have q8 : upd F1 306 0 308 = nI v1 := by rw [upd_ne (by decide)]; exact e8
    have q9 : upd F1 306 0 309 = nI nb := by rw [upd_ne (by decide)]; exact e9
    have q10 : upd F1 306 0 310 = nI nh := by rw [upd_ne (by decide)]; exact e10
    have q6 : upd F1 306 0 306 = 0 := upd_eq
    have qo : ∀ k, k < 306 ∨ 312 < k → upd F1 306 0 k = F k := fun k hk => by rw [upd_ne (by omega)]; exact fr1 k (by omega)
    generalize upd F1 306 0 = G at q6 q7 q8 q9 q10 qo ⊢
    unfold qS_begin
    refine ⟨nb + 1, C_bg58 (by rw [u G _ (by decide)]; exact q9) (by rw [u G _ (by decide)]; exact q10) upd_eq hb hh rb rh (P := P) (B := B) (fun F3 R3 P3 B3 w11 w12 wf ws wr1 wr2 => ?_) nb 0 _ P B (by omega) (by rw [upd_ne (by decide)]; exact upd_eq) (fun _ _ => rfl) ⟨fun j hj => absurd hj (Nat.not_lt_zero j), fun j ad hj e => H.2.2.1 j ad hj e, fun _ _ => rfl, fun _ hz => hz⟩⟩
    have go : ∀ k, k < 306 ∨ 312 < k → ¬ (100 ≤ k ∧ k < 114) → F3 k = F k := fun k h1 h2 => by rw [wf k (by omega) (by omega), u G k h2, qo k h1]
    have gr : ∀ k, ¬ (301 ≤ k ∧ k ≤ 305) → k ≠ 115 → k ≠ 116 → R3 k = R k := fun k h1 h2 h3 => by rw [wr2 k h2 h3, fr.2 k h1]
    refine M_par XM t2 b h (rfl : parE T nt b h = _) (fun v0' v1' nb' bk' nh' hk' er' F2 R2 h62 W fm => ?_) (fun s er' => by rw [er] at er'; exact absurd er' (by simp))
    rw [er] at er'
    injection er' with er'
    injection er' with z0 er'
    injection er' with z1 er'
    injection er' with z2 z3
    injection z2 with z2 z2b
    injection z3 with z3 z3b
    subst z0; subst z1; subst z2; subst z2b; subst z3; subst z3b
    refine ⟨fun _ => ⟨25, M_79_102 (R := R2) (fun R4 y1 y2 y3 y4 y5 => ⟨w11, ?_⟩) 24 0 R2 rfl (fun j hj => absurd hj (Nat.not_lt_zero j)) (fun _ _ => rfl) (fun _ _ => rfl)⟩, fun c => absurd h62 c⟩
    have m0 : ∀ k, k ≠ 0 → k ≠ 7 → R4 k = R0 k := fun k h0 h7 => by rw [y5 k h0, fm.2 k h7]
    have fo : ∀ k, k ≠ 4 → k ≠ 5 → k ≠ 6 → k ≠ 9 → upd (upd F2 4 0) 9 0 k = F0 k := fun k a1 a2 a3 a4 => by rw [upd_ne a4, upd_ne a1, fm.1 k a2 a3]
    obtain ⟨ws1, ws2, ws3, ws4⟩ := ws
    obtain ⟨W1, W2, W3, W4⟩ := W
    have R20 : R2 0 = R0 0 := fm.2 0 (by decide)
    refine ⟨⟨xbg x v0 v1 nb nh, bk, hk, p, A.bg c0 c1 hb hh, ⟨fun k hk14 => ?_, ws1, ws2, wr1, fun i j hi => absurd hi (Nat.not_lt_zero i)⟩, ⟨⟨fun k hk10 hk7 => ?_, y2.1, y2.2.1, ?_⟩, fun k hkb => ?_, fun k hkh => ?_, ?_, fun i hi => absurd hi (Nat.not_lt_zero i)⟩⟩, im.cg (go 5 (by omega) (by omega)) (fun k hk => go _ (by omega) (by omega)) (fun k a1 a2 => gr _ (by omega) (by omega) (by omega)) (ws3 214 (by decide)) ws4 ⟨fo 15 (by decide) (by decide) (by decide) (by decide), fo 14 (by decide) (by decide) (by decide) (by decide)⟩ (m0 13 (by decide) (by decide)), ⟨0, by omega, ?_, ?_, fun k hk => absurd hk (Nat.not_lt_zero k)⟩, sh.cg (fun k hk => go k (by omega) (by omega)) rfl ⟨m0 16 (by decide) (by decide), m0 17 (by decide) (by decide)⟩ rfl, ?_⟩
    · match k, hk14 with
      | 0, _ => exact (wf 100 (by decide) (by decide)).trans q7
      | 1, _ => exact (wf 101 (by decide) (by decide)).trans q8
      | 2, _ => exact (wf 102 (by decide) (by decide)).trans ((qo 102 (by omega)).trans (H.n 2 (by decide)))
      | 3, _ => exact (wf 103 (by decide) (by decide)).trans ((qo 103 (by omega)).trans (H.n 3 (by decide)))
      | 4, _ => exact wf 104 (by decide) (by decide)
      | 5, _ => exact wf 105 (by decide) (by decide)
      | 6, _ => exact wf 106 (by decide) (by decide)
      | 7, _ => exact wf 107 (by decide) (by decide)
      | 8, _ => exact wf 108 (by decide) (by decide)
      | 9, _ => exact (wf 109 (by decide) (by decide)).trans ((qo 109 (by omega)).trans (H.n 9 (by decide)))
      | 10, _ => exact (wf 110 (by decide) (by decide)).trans ((qo 110 (by omega)).trans (H.n 10 (by decide)))
      | 11, _ => exact w11
      | 12, _ => exact w12
      | 13, _ => exact wf 113 (by decide) (by decide)
      | k + 14, q => omega
    · match k, hk10 with
      | 0, _ => exact y2.2.2.1
      | 1, _ => exact y2.2.2.2
      | 2, _ => exact (y4 4 (by omega)).trans ((congrFun R20 4).trans (M.1.1 2 (by decide) (by decide)))
      | 3, _ => exact (y4 5 (by omega)).trans ((congrFun R20 5).trans (M.1.1 3 (by decide) (by decide)))
      | 4, _ => exact y3 6 (by omega) (by omega)
      | 5, _ => exact y3 7 (by omega) (by omega)
      | 6, _ => exact y3 8 (by omega) (by omega)
      | 7, _ => exact absurd rfl hk7
      | 8, _ => exact y3 10 (by omega) (by omega)
      | 9, _ => exact (y4 11 (by omega)).trans ((congrFun R20 11).trans (M.1.1 9 (by decide) (by decide)))
      | 10, _ => exact (y4 12 (by omega)).trans ((congrFun R20 12).trans (M.1.1 10 (by decide) (by decide)))
      | k + 11, q => omega
    · rw [y3 9 (by omega) (by omega)]
      show (0 : Int32) = nI (cst hk nh 0)
      rw [cst_0]; rfl
    · have hkb : k < nb := hkb
      rw [show 13 + 3 * k = 13 + (3 * k) by omega, show 14 + 3 * k = 13 + (3 * k + 1) by omega, show 15 + 3 * k = 13 + (3 * k + 2) by omega, y1 _ (by omega), y1 _ (by omega), y1 _ (by omega)]
      exact W3 k hkb
    · have hkh : k < nh := hkh
      rw [show 25 + 2 * k = 13 + (12 + 2 * k) by omega, show 26 + 2 * k = 13 + (13 + 2 * k) by omega, y1 _ (by omega), y1 _ (by omega)]
      exact W4 k hkh
    · exact upd_eq
    · rw [wf 306 (by decide) (by decide), u G 306 (by decide)]; exact q6
    · rw [upd_ne (by decide)]; exact upd_eq
    · rw [fo 1 (by decide) (by decide) (by decide) (by decide)]; exact fa
  · refine M_par XM t2 b h (rfl : parE T nt b h = _) (fun v0' v1' nb' bk' nh' hk' er' => by rw [er] at er'; exact absurd er' (by simp)) (fun s' er' F2 R2 w1 w2 w3 w4 e5 h62 fm => ?_)
    rw [er] at er'
    injection er' with er'
    subst er'
    refine ⟨fun c => absurd c (n61 h62), fun _ => ⟨by rw [e1, e5], ?_⟩⟩
    have go : ∀ k, ¬ (306 ≤ k ∧ k ≤ 312) → upd F1 306 0 k = F k := fun k hk => by rw [upd_ne (by omega)]; exact fr.1 k (by omega)
    have fo : ∀ k, k ≠ 4 → k ≠ 5 → k ≠ 6 → upd F2 4 0 k = F0 k := fun k a1 a2 a3 => by rw [upd_ne a1, fm.1 k a2 a3]
    refine ⟨s1.cg (fun k a1 a2 => go k (by omega)) (fun k a1 a2 => fr.2 k (by omega)) rfl (fun _ hz => hz) (fo 9 (by decide) (by decide) (by decide)) ⟨fm.2 0 (by decide), fm.2 8 (by decide)⟩, im.cg (go 5 (by omega)) (fun k hk => go _ (by omega)) (fun k a1 a2 => fr.2 _ (by omega)) rfl (fun _ hz => hz) ⟨fo 15 (by decide) (by decide) (by decide), fo 14 (by decide) (by decide) (by decide)⟩ (fm.2 13 (by decide)), ⟨0, by omega, upd_eq, upd_eq, fun k hk => absurd hk (Nat.not_lt_zero k)⟩, sh.cg (fun k hk => go k (by omega)) rfl ⟨fm.2 16 (by decide), fm.2 17 (by decide)⟩ rfl, ?_⟩
    rw [fo 1 (by decide) (by decide) (by decide)]; exact fa
