/-! ===== the pure part: a bargain's builders and hindrances, the reference's side ===== -/
theorem MRw.bld {R : RT} {nb nh kd pc hs : Nat} {bk hk : Nat → Nat → Nat} (H : MRw R nb nh bk hk) (h4 : nb < 4) : MRw (va_up (va_up (va_up R 7 (upd (R 7) (3 * nb) (nI kd))) 7 (upd (upd (R 7) (3 * nb) (nI kd)) (3 * nb + 1) (nI pc))) 7 (upd (upd (upd (R 7) (3 * nb) (nI kd)) (3 * nb + 1) (nI pc)) (3 * nb + 2) (nI hs))) (nb + 1) nh (va_up bk nb (rw3 kd pc hs)) hk := by
  obtain ⟨h1, h2, h3, h5⟩ := H
  refine ⟨by omega, h2, fun k hk => ?_, fun k hk => ?_⟩
  · rw [vu_eq]
    by_cases e : k = nb
    · subst e
      rw [vu_eq, upd_ne (show 3 * k ≠ 3 * k + 2 by omega), upd_ne (show 3 * k ≠ 3 * k + 1 by omega), upd_eq, upd_ne (show 3 * k + 1 ≠ 3 * k + 2 by omega), upd_eq, upd_eq]
      exact ⟨rfl, rfl, rfl⟩
    · rw [vu_ne e, upd_ne (by omega), upd_ne (by omega), upd_ne (by omega), upd_ne (by omega), upd_ne (by omega), upd_ne (by omega), upd_ne (by omega), upd_ne (by omega), upd_ne (by omega)]
      exact h3 k (by omega)
  · rw [vu_eq, upd_ne (by omega), upd_ne (by omega), upd_ne (by omega), upd_ne (by omega), upd_ne (by omega), upd_ne (by omega)]
    exact h5 k hk
theorem MRw.hnd {R : RT} {nb nh c o : Nat} {bk hk : Nat → Nat → Nat} (H : MRw R nb nh bk hk) (h6 : nh < 6) : MRw (va_up (va_up R 7 (upd (R 7) (12 + 2 * nh) (nI c))) 7 (upd (upd (R 7) (12 + 2 * nh) (nI c)) (13 + 2 * nh) (oaV o))) nb (nh + 1) bk (va_up hk nh (rw2 c o)) := by
  obtain ⟨h1, h2, h3, h5⟩ := H
  refine ⟨h1, by omega, fun k hk => ?_, fun k hk => ?_⟩
  · rw [vu_eq, upd_ne (by omega), upd_ne (by omega), upd_ne (by omega), upd_ne (by omega), upd_ne (by omega), upd_ne (by omega)]
    exact h3 k hk
  · rw [vu_eq]
    by_cases e : k = nh
    · subst e
      rw [vu_eq, upd_ne (show 12 + 2 * k ≠ 13 + 2 * k by omega), upd_eq, upd_eq]
      exact ⟨rfl, rfl⟩
    · rw [vu_ne e, upd_ne (by omega), upd_ne (by omega), upd_ne (by omega), upd_ne (by omega)]
      exact h5 k (by omega)
section MPT
variable {T : Nat → Nat} {nt : Nat} {F : FT} {R : RT} {J : JT} {a nb nh : Nat} {bk hk : Nat → Nat → Nat} {k2 : FT → RT → JT → Int32 → Prop} {K : Int32 → FT → RT → JT → Prop} {v1 : Int32}
theorem n61 {v : Int32} (h : v = 1) : ¬ v = 0 := by rw [h]; decide
theorem M_b175f {v3 s0 : Int32} (h6 : F 6 = 1) (g : ∀ F', F' 5 = nI a → F' 6 = 1 → (∀ k, k ≠ 5 → k ≠ 6 → F' k = F k) → k2 F' R J (v1 + 1)) {s1 : Int32} (e : s1 + s0 = nI a) : qM_readBuilders_175 k2 F R J v1 v3 s0 s1 K := by
  unfold qM_readBuilders_175
  rw [e]
  refine M_digit_f (a := a) 1 9 (by decide) upd_eq (by rw [upd_ne (by decide)]; exact h6) (fun v F1 e1 h1 f1 => M_digit_f (a := a) 0 9 (by decide) e1 h1 (fun v2 F2 e2 h2 f2 => ⟨fun _ => g F2 e2 h2 (fun k q1 q2 => by rw [f2 k q1 q2, f1 k q1 q2, upd_ne q1]), fun c => absurd c (n61 h2)⟩))
theorem M_b155f {v3 s0 : Int32} (h5 : F 5 = nI a) (h6 : F 6 = 1 ∨ s0 = 0) (g : ∀ F', F' 5 = nI a → F' 6 = 1 → (∀ k, k ≠ 5 → k ≠ 6 → F' k = F k) → k2 F' R J (v1 + 1)) : qM_readBuilders_155 k2 F R J v1 v3 s0 K := by
  unfold qM_readBuilders_155
  have go : ((upd F 6 1 6) = 0 → (qM_readBuilders_175 k2 (upd F 6 1) R J v1 v3 (1 : Int32) (upd F 6 1 5) K)) ∧ (¬ (upd F 6 1 6) = 0 → (qM_readBuilders_175 k2 (upd F 6 1) R J v1 v3 (0 : Int32) (upd F 6 1 5) K)) := ⟨fun q => absurd q (n61 upd_eq), fun _ => M_b175f upd_eq (fun F' e' h' f' => g F' e' h' (fun k q1 q2 => by rw [f' k q1 q2, upd_ne q2])) (by rw [upd_ne (by decide), h5, up0])⟩
  rcases h6 with h6 | h6
  · exact M_must_f h6 go
  · rw [h6]; exact M_must_n go
theorem M_b77f (h5 : F 5 = nI a) (h6 : F 6 = 1) (g : ∀ F', F' 5 = nI a → F' 6 = 1 → (∀ k, k ≠ 5 → k ≠ 6 → F' k = F k) → k2 F' R J (v1 + 1)) : qM_readBuilders_77 k2 F R J v1 K := by
  refine ⟨fun c => absurd c (n61 h6), fun _ => ?_⟩
  have go : ∀ s0, qM_readBuilders_144 k2 F R J v1 s0 K := fun s0 => ⟨fun _ => M_b155f h5 (Or.inl h6) g, fun _ => M_b155f h5 (Or.inl h6) g⟩
  exact ⟨fun _ => ⟨fun _ => ⟨fun _ => ⟨fun _ => ⟨fun _ => go _, fun _ => go _⟩, fun _ => go _⟩, fun _ => go _⟩, fun _ => go _⟩, fun _ => go _⟩
theorem M_b92 {c : Nat} (hc : c ≤ 126) (g1 : kdN c ≠ 9 → qM_readBuilders_144 k2 F R J v1 (nI (kdN c)) K) (g2 : kdN c = 9 → qM_readBuilders_144 k2 F R J v1 (-1) K) : qM_readBuilders_92 k2 F R J v1 (nI c) K := by
  have q : ∀ n, n < 2 ^ 31 → (nI c = nI n ↔ c = n) := fun n hn => n_eq (by omega) hn
  unfold qM_readBuilders_92
  refine ⟨fun e4 => ⟨fun e3 => ⟨fun e1 => ⟨fun e2 => ⟨fun e5 => g2 ?_, fun e => ?_⟩, fun e => ?_⟩, fun e => ?_⟩, fun e => ?_⟩, fun e => ?_⟩
  · unfold kdN
    rw [if_neg (fun e => e4 (congrArg nI e)), if_neg (fun e => e3 (congrArg nI e)), if_neg (fun e => e1 (congrArg nI e)), if_neg (fun e => e2 (congrArg nI e)), if_neg (fun e => e5 (congrArg nI e))]
  · have e := (q 119 (by omega)).mp e; subst e; exact g1 (by decide)
  · have e := (q 103 (by omega)).mp e; subst e; exact g1 (by decide)
  · have e := (q 98 (by omega)).mp e; subst e; exact g1 (by decide)
  · have e := (q 104 (by omega)).mp e; subst e; exact g1 (by decide)
  · have e := (q 112 (by omega)).mp e; subst e; exact g1 (by decide)
theorem M_b77 (H : MB T nt F R a) (h6 : F 6 = 0) (W : MRw R nb nh bk hk) (h4 : nb < 4) {r : Except Nat ((Nat × Nat × Nat) × Nat)} (hr : r = bldE T nt a) (g1 : ∀ kd pc hs a', r = .ok ((kd, pc, hs), a') → ∀ F' R', MB T nt F' R' a' → F' 6 = 0 → MRw R' (nb + 1) nh (va_up bk nb (rw3 kd pc hs)) hk → FrM F F' R R' → k2 F' R' J (nI nb + 1)) (g2 : ∀ s, r = .error s → ∀ F', F' 5 = nI s → F' 6 = 1 → FrM F F' R R → k2 F' R J (nI nb + 1)) : qM_readBuilders_77 k2 F R J (nI nb) K := by
  unfold bldE at hr
  refine ⟨fun _ => M_here H (fun F1 H1 f1 => M_b92 (H.1.le _) (fun k9 => ?_) (fun k9 => ?_)), fun c => absurd h6 c⟩
  · rw [if_neg k9] at hr
    obtain ⟨k4, c0⟩ := kdN_le k9
    have lt := ch_lt c0
    refine ⟨fun c => absurd c (nI_pos (by omega)), fun _ => ?_⟩
    unfold qM_readBuilders_155
    refine M_must_y (by rw [f1 6 (by decide)]; exact h6) ⟨fun _ => ?_, fun q => absurd upd_eq q⟩
    unfold qM_readBuilders_175
    rw [upd_ne (show (5 : Nat) ≠ 6 by decide), show F1 5 = nI (skp T nt a) from H1.2.2.2, nI_1]
    have H2 : MB T nt (upd (upd F1 6 0) 5 (nI (skp T nt a + 1))) R (skp T nt a + 1) := H1.mv upd_eq (by omega) (fun k q1 q2 => by rw [upd_ne q1, upd_ne q2])
    have fr2 : FrM F (upd (upd F1 6 0) 5 (nI (skp T nt a + 1))) R R := ⟨fun k q1 q2 => by rw [upd_ne q1, upd_ne q2, f1 k q1], fun _ _ => rfl⟩
    refine M_digit_y 1 (by omega) H2 (by rw [upd_ne (by decide), upd_eq]) (fun d1 F3 H3 h3 f3 => ?_) (fun d1 v F3 e3 h3 f3 => ?_)
    · rw [if_pos d1] at hr
      refine M_digit_y 0 (by omega) H3 h3 (fun d2 F4 H4 h4' f4 => ?_) (fun d2 v F4 e4 h4' f4 => ?_)
      · rw [if_pos d2] at hr
        refine ⟨fun c => absurd h4' c, fun _ => ?_⟩
        have i3 : (3 : Int32) * nI nb = nI (3 * nb) := pk_mul 3 nb
        have i4 : nI (3 * nb) + 2 = nI (3 * nb + 2) := nI_add _ 2
        rw [i3, nI_1 (3 * nb), i4, nI_clamp (n := 3 * nb) (by omega), nI_clamp (n := 3 * nb + 1) (by omega), nI_clamp (n := 3 * nb + 2) (by omega)]
        refine ⟨vp_in_nI (by omega) (by omega), vp_in_nI (by omega) (by omega), vp_in_nI (by omega) (by omega), g1 _ _ _ _ hr _ _ ⟨?_, H4.2⟩ h4' (W.bld h4) (((fr2.tr f3).tr f4).tr ⟨fun _ _ _ => rfl, fun k hk => by rw [vu_ne hk, vu_ne hk, vu_ne hk]⟩)⟩
        rw [vu_ne (by decide), vu_ne (by decide), vu_ne (by decide)]; exact H4.1
      · rw [if_neg d2] at hr
        exact ⟨fun _ => g2 _ hr F4 e4 h4' ((fr2.tr f3).tr f4), fun c => absurd c (n61 h4')⟩
    · rw [if_neg d1] at hr
      exact M_digit_f 0 9 (by decide) e3 h3 (fun v2 F4 e4 h4' f4 => ⟨fun _ => g2 _ hr F4 e4 h4' ((fr2.tr f3).tr ⟨f4, fun _ _ => rfl⟩), fun c => absurd c (n61 h4')⟩)
  · rw [if_pos k9] at hr
    exact ⟨fun _ => M_b155f H1.2.2.2 (Or.inr rfl) (fun F' e' h' f' => g2 _ hr F' e' h' ⟨fun k q1 q2 => by rw [f' k q1 q2, f1 k q1], fun _ _ => rfl⟩), fun c => absurd (by decide) c⟩
/-- a fault ahead of a builder -/
theorem M_b53n (h5 : F 5 = nI a) (g : ∀ F', F' 5 = nI a → F' 6 = 1 → (∀ k, k ≠ 5 → k ≠ 6 → F' k = F k) → k2 F' R J (v1 + 1)) : qM_readBuilders_53 k2 F R J v1 0 K := by
  unfold qM_readBuilders_53 qM_readBuilders_73
  refine M_must_n ⟨fun q => absurd q (n61 upd_eq), fun _ => ?_⟩
  rw [upd_ne (show (5 : Nat) ≠ 6 by decide), h5, up0]
  exact M_b77f upd_eq (by rw [upd_ne (by decide), upd_eq]) (fun F' e' h' f' => g F' e' h' (fun k q1 q2 => by rw [f' k q1 q2, upd_ne q1, upd_ne q2]))
theorem M_b53y (H : MB T nt F R a) (h6 : F 6 = 0) (ha : a + 1 ≤ nt) (g : ∀ F', MB T nt F' R (a + 1) → F' 6 = 0 → (∀ k, k ≠ 5 → k ≠ 6 → F' k = F k) → qM_readBuilders_77 k2 F' R J v1 K) : qM_readBuilders_53 k2 F R J v1 1 K := by
  unfold qM_readBuilders_53 qM_readBuilders_73
  refine M_must_y h6 ⟨fun _ => ?_, fun q => absurd upd_eq q⟩
  rw [upd_ne (show (5 : Nat) ≠ 6 by decide), show F 5 = nI a from H.2.2.2, nI_1]
  exact g _ (H.mv upd_eq ha (fun k q1 q2 => by rw [upd_ne q1, upd_ne q2])) (by rw [upd_ne (by decide), upd_eq]) (fun k q1 q2 => by rw [upd_ne q1, upd_ne q2])
theorem M_blds {r : Except Nat (Nat × Nat × (Nat → Nat → Nat))} (F0 : FT) (R0 : RT) (g1 : ∀ n a' bk', r = .ok (n, a', bk') → (ch T nt (skp T nt a') = 0 ∨ ch T nt (skp T nt a') = 59) → ∀ F' R', MB T nt F' R' (skp T nt a') → F' 6 = 0 → MRw R' n nh bk' hk → FrM F0 F' R0 R' → K (nI n) F' R' J) (g2 : ∀ s, (r = .error s ∨ ∃ n a' bk', r = .ok (n, a', bk') ∧ s = skp T nt a' ∧ ch T nt (skp T nt a') ≠ 0 ∧ ch T nt (skp T nt a') ≠ 59) → ∀ v F' R', F' 5 = nI s → F' 6 = 1 → FrM F0 F' R0 R' → K v F' R' J) : ∀ m k a bk F R, k + m = 4 → MB T nt F R a → F 6 = 0 → MRw R k nh bk hk → FrM F0 F R0 R → r = bldsE T nt m k a bk → qM_readBuilders_2 (m + 2) F R J (nI k) K := by
  have ef : ∀ n F' R' s, (r = .error s ∨ ∃ n a' bk', r = .ok (n, a', bk') ∧ s = skp T nt a' ∧ ch T nt (skp T nt a') ≠ 0 ∧ ch T nt (skp T nt a') ≠ 59) → F' 5 = nI s → F' 6 = 1 → FrM F0 F' R0 R' → ∀ v, qM_readBuilders_2 (n + 1) F' R' J v K := fun n F' R' s hs e' h' f' v => ⟨fun _ => g2 s hs v F' R' e' h' f', fun c => absurd c (n61 h')⟩
  have cyc : ∀ m k a bk F R, 0 < k → k ≤ 4 → MB T nt F R a → F 6 = 0 → MRw R k nh bk hk → FrM F0 F R0 R → (ch T nt (skp T nt a) = 0 ∨ ch T nt (skp T nt a) = 59 → r = .ok (k, a, bk) ∨ r = .ok (k, skp T nt a, bk)) → (ch T nt (skp T nt a) ≠ 0 → ch T nt (skp T nt a) ≠ 59 → ∀ F5, MB T nt F5 R (skp T nt a) → F5 6 = 0 → FrM F0 F5 R0 R → qM_readBuilders_29 (fun F R J v1 => qM_readBuilders_2 m F R J v1 K) F5 R J (nI k) K) → qM_readBuilders_2 (m + 1) F R J (nI k) K := by
    intro m k a bk F R k0 k4 H h6 W fr q1 q2
    have cb := H.1.le (skp T nt a)
    have sid : skp T nt (skp T nt a) = skp T nt a := skp_id H.1.1 H.2.1
    have done : ∀ F', MB T nt F' R (skp T nt a) → F' 6 = 0 → FrM F0 F' R0 R → (ch T nt (skp T nt a) = 0 ∨ ch T nt (skp T nt a) = 59) → K (nI k) F' R J := by
      intro F' H' h' f' hc
      rcases q1 hc with e | e
      · exact g1 _ _ _ e hc F' R H' h' W f'
      · exact g1 _ _ _ e (by rw [sid]; exact hc) F' R (by rw [sid]; exact H') h' W f'
    refine ⟨fun c => absurd h6 c, fun _ => ⟨fun c => absurd c (nI_ne0 k0 (by omega)), fun _ => M_here H (fun F3 H3 f3 => ?_)⟩⟩
    have h63 : F3 6 = 0 := by rw [f3 6 (by decide)]; exact h6
    refine pk_eq _ 0 (fun e => done F3 H3 h63 (fr.tr (FrM.a f3)) (Or.inl e)) (fun e0 => M_here H3 (fun F5 H5 f5 => ?_)) rfl rfl (by omega)
    rw [sid] at H5 ⊢
    have h65 : F5 6 = 0 := by rw [f5 6 (by decide)]; exact h63
    exact pk_eq _ 59 (fun e => done F5 H5 h65 ((fr.tr (FrM.a f3)).tr (FrM.a f5)) (Or.inr e)) (fun e1 => q2 e0 e1 F5 H5 h65 ((fr.tr (FrM.a f3)).tr (FrM.a f5))) rfl rfl (by omega)
  intro m
  induction m with
  | zero =>
    intro k a bk F R hm H h6 W fr hr
    refine cyc 1 k a bk F R (by omega) (by omega) H h6 W fr (fun _ => Or.inl hr) (fun n0 n9 F5 H5 h65 fr5 => ?_)
    refine ⟨fun c => absurd c (nI_nle (by omega) (by omega)), fun _ => pk_le 4 k (fun _ => ?_) (fun c => by omega)⟩
    exact M_b53n H5.2.2.2 (fun F' e' h' f' => ef 0 F' R (skp T nt a) (Or.inr ⟨_, _, _, hr, rfl, n0, n9⟩) e' h' (fr5.tr ⟨f', fun _ _ => rfl⟩) _)
  | succ m ih =>
    intro k a bk F R hm H h6 W fr hr
    unfold bldsE at hr
    have go : ∀ a2 F2, MB T nt F2 R a2 → F2 6 = 0 → FrM F0 F2 R0 R → r = (match bldE T nt a2 with | .error s => .error s | .ok ((kd, pc, hs), a') => bldsE T nt m (k + 1) a' (va_up bk k (rw3 kd pc hs))) → qM_readBuilders_77 (fun F R J v1 => qM_readBuilders_2 (m + 2) F R J v1 K) F2 R J (nI k) K := by
      intro a2 F2 H2 h62 fr2 hr2
      refine M_b77 H2 h62 W (by omega) rfl (fun kd pc hs a' e F3 R3 H3 h3 W3 f3 => ?_) (fun s e F3 e3 h3 f3 => ?_)
      · rw [e] at hr2
        rw [nI_1]
        exact ih (k + 1) a' _ F3 R3 (by omega) H3 h3 W3 (fr2.tr f3) hr2
      · rw [e] at hr2
        exact ef (m + 1) F3 R s (Or.inl hr2) e3 h3 (fr2.tr f3) _
    by_cases k0 : 0 < k
    · have cb := H.1.le (skp T nt a)
      have sid : skp T nt (skp T nt a) = skp T nt a := skp_id H.1.1 H.2.1
      refine cyc (m + 2) k a bk F R k0 (by omega) H h6 W fr (fun hc => Or.inr ?_) (fun n0 n9 F5 H5 h65 fr5 => ?_)
      · rw [if_pos ⟨k0, by omega⟩] at hr; exact hr
      · refine ⟨fun c => absurd c (nI_nle k0 (by omega)), fun _ => pk_le 4 k (fun c => by omega) (fun _ => M_here H5 (fun F6 H6 f6 => ?_))⟩
        rw [sid] at H6 ⊢
        have h66 : F6 6 = 0 := by rw [f6 6 (by decide)]; exact h65
        refine And.symm (pk_eq _ 44 (fun e => ?_) (fun e => ?_) rfl rfl (by omega))
        · have lt := ch_lt (T := T) (nt := nt) (a := skp T nt a) (by omega)
          rw [if_neg (fun q => q.2 e), if_pos k0] at hr
          exact M_b53y H6 h66 (by omega) (fun F7 H7 h7 f7 => go _ F7 H7 h7 ((fr5.tr (FrM.a f6)).tr ⟨f7, fun _ _ => rfl⟩) hr)
        · rw [if_pos ⟨k0, e⟩] at hr
          exact M_b53n H6.2.2.2 (fun F' e' h' f' => ef (m + 1) F' R (skp T nt a) (Or.inr ⟨_, _, _, hr, sid.symm, by rw [sid]; exact n0, by rw [sid]; exact n9⟩) e' h' ((fr5.tr (FrM.a f6)).tr ⟨f', fun _ _ => rfl⟩) _)
    · have k0 : k = 0 := by omega
      subst k0
      rw [if_neg (fun q => absurd q.1 (Nat.lt_irrefl 0)), if_neg (Nat.lt_irrefl 0)] at hr
      exact ⟨fun c => absurd h6 c, fun _ => ⟨fun _ => ⟨fun _ => go a F H h6 fr hr, fun c => absurd (by decide) c⟩, fun c => absurd rfl c⟩⟩
/-! hindrances -/
theorem M_h92f {v2 : Int32} (h5 : F 5 = nI a) (h6 : F 6 = 1) (g : ∀ F', F' 5 = nI a → F' 6 = 1 → (∀ k, k ≠ 5 → k ≠ 6 → F' k = F k) → k2 F' R J (v1 + 1)) : qM_readHindrances_92 k2 F R J v1 v2 0 K := by
  unfold qM_readHindrances_92
  refine mi_n (x := 0) (Or.inl (by decide)) ⟨fun _ => ?_, fun c => absurd rfl c⟩
  unfold qM_readHindrances_121
  refine ⟨fun _ => ?_, fun c => absurd c (n61 h6)⟩
  rw [h5, up0]
  exact g _ upd_eq (by rw [upd_ne (by decide)]; exact h6) (fun k q1 _ => upd_ne q1)
theorem M_h69f (h5 : F 5 = nI a) (h6 : F 6 = 1) (g : ∀ F', F' 5 = nI a → F' 6 = 1 → (∀ k, k ≠ 5 → k ≠ 6 → F' k = F k) → k2 F' R J (v1 + 1)) : qM_readHindrances_69 k2 F R J v1 K := by
  unfold qM_readHindrances_69
  exact M_digit_f 1 9 (by decide) h5 h6 (fun v F1 e1 h1 f1 => ⟨fun c => absurd c (n61 h1), fun _ => M_h92f e1 h1 (fun F' e' h' f' => g F' e' h' (fun k q1 q2 => by rw [f' k q1 q2, f1 k q1 q2]))⟩)
theorem M_h69 (H : MB T nt F R a) (h6 : F 6 = 0) (W : MRw R nb nh bk hk) (h6n : nh < 6) {r : Except Nat ((Nat × Nat) × Nat)} (hr : r = hndE T nt a) (g1 : ∀ c o a', r = .ok ((c, o), a') → ∀ F' R', MB T nt F' R' a' → F' 6 = 0 → MRw R' nb (nh + 1) bk (va_up hk nh (rw2 c o)) → FrM F F' R R' → k2 F' R' J (nI nh + 1)) (g2 : ∀ s, r = .error s → ∀ F', F' 5 = nI s → F' 6 = 1 → FrM F F' R R → k2 F' R J (nI nh + 1)) : qM_readHindrances_69 k2 F R J (nI nh) K := by
  unfold hndE at hr
  unfold qM_readHindrances_69
  refine M_digit_y 1 (by omega) H h6 (fun d1 F1 H1 h1 f1 => ?_) (fun d1 v F1 e1 h1 f1 => ?_)
  · rw [if_pos d1] at hr
    refine ⟨fun _ => M_here H1 (fun F3 H3 f3 => ?_), fun c => absurd h1 c⟩
    have h63 : F3 6 = 0 := by rw [f3 6 (by decide)]; exact h1
    have cb := H.1.le (skp T nt (skp T nt a + 1))
    have tT : (nI (ch T nt (skp T nt (skp T nt a + 1)))).toInt = (ch T nt (skp T nt (skp T nt a + 1)) : Int) := t_n (by omega)
    have l97 : ((97 : Int64)).toInt = 97 := by decide
    have l100 : ((100 : Int64)).toInt = 100 := by decide
    have i12 : (12 : Int32) + (2 : Int32) * nI nh = nI (12 + 2 * nh) := (congrArg (fun z => nI 12 + z) (pk_mul 2 nh)).trans (nI_add 12 (2 * nh))
    have i13 : (13 : Int32) + (2 : Int32) * nI nh = nI (13 + 2 * nh) := (congrArg (fun z => nI 13 + z) (pk_mul 2 nh)).trans (nI_add 13 (2 * nh))
    have e5 : F3 5 = nI (skp T nt (skp T nt a + 1)) := H3.2.2.2
    have v12 : vp_in (nI (12 + 2 * nh)) 24 := vp_in_nI (by omega) (by omega)
    have v13 : vp_in (nI (13 + 2 * nh)) 24 := vp_in_nI (by omega) (by omega)
    have tx : ∀ f g : Nat → Int32, va_up (va_up R 7 f) 7 g 3 = R 3 := fun f g => by rw [vu_ne (by decide), vu_ne (by decide)]
    unfold qM_readHindrances_92
    by_cases hc : 97 ≤ ch T nt (skp T nt (skp T nt a + 1)) ∧ ch T nt (skp T nt (skp T nt a + 1)) ≤ 100
    · rw [if_pos hc] at hr
      have lt := ch_lt (T := T) (nt := nt) (a := skp T nt (skp T nt a + 1)) (by omega)
      refine mi_y (by rw [tT, l97]; omega) (by rw [tT, l100]; omega) ⟨fun c => absurd c (by decide), fun _ => ?_⟩
      unfold qM_readHindrances_121 qM_readHindrances_168 qM_readHindrances_169
      rw [i12, i13, e5, nI_1 (skp T nt (skp T nt a + 1)), nI_clamp (n := 12 + 2 * nh) (by omega), nI_clamp (n := 13 + 2 * nh) (by omega)]
      refine ⟨fun c => absurd h63 c, fun _ => ⟨v12, fun c => absurd c (by decide), fun _ => ⟨v13, ?_⟩⟩⟩
      have H4 : MB T nt (upd F3 5 (nI (skp T nt (skp T nt a + 1) + 1))) R (skp T nt (skp T nt a + 1) + 1) := H3.mv upd_eq (by omega) (fun k q1 _ => upd_ne q1)
      have := g1 _ _ _ hr (upd F3 5 (nI (skp T nt (skp T nt a + 1) + 1))) _ ⟨by rw [tx]; exact H4.1, H4.2⟩ (by rw [upd_ne (by decide)]; exact h63) (W.hnd (c := ch T nt (skp T nt a) - 48) (o := ch T nt (skp T nt (skp T nt a + 1)) - 97) h6n) (((f1.tr (FrM.a f3)).tr (FrM.a (fun k q => upd_ne q))).tr ⟨fun _ _ _ => rfl, fun k hk => by rw [vu_ne hk, vu_ne hk]⟩)
      rw [oa_n (by omega)] at this
      rw [vu_eq, show nI (ch T nt (skp T nt (skp T nt a + 1))) - (97 : Int32) = nI (ch T nt (skp T nt (skp T nt a + 1)) - 97) from pk_sub (b := 97) hc.1]
      exact this
    · rw [if_neg hc] at hr
      refine mi_n (by rw [tT, l97, l100]; omega) ⟨fun _ => ?_, fun c => absurd rfl c⟩
      unfold qM_readHindrances_121 qM_readHindrances_168 qM_readHindrances_169
      rw [i12, i13, e5, up0, nI_clamp (n := 12 + 2 * nh) (by omega), nI_clamp (n := 13 + 2 * nh) (by omega)]
      refine ⟨fun c => absurd h63 c, fun _ => ⟨v12, fun _ => ⟨v13, ?_⟩, fun c => absurd rfl c⟩⟩
      have H4 : MB T nt (upd F3 5 (nI (skp T nt (skp T nt a + 1)))) R (skp T nt (skp T nt a + 1)) := H3.mv upd_eq H3.2.1 (fun k q1 _ => upd_ne q1)
      have := g1 _ _ _ hr (upd F3 5 (nI (skp T nt (skp T nt a + 1)))) _ ⟨by rw [tx]; exact H4.1, H4.2⟩ (by rw [upd_ne (by decide)]; exact h63) (W.hnd (c := ch T nt (skp T nt a) - 48) (o := 4) h6n) (((f1.tr (FrM.a f3)).tr (FrM.a (fun k q => upd_ne q))).tr ⟨fun _ _ _ => rfl, fun k hk => by rw [vu_ne hk, vu_ne hk]⟩)
      rw [vu_eq]
      exact this
  · rw [if_neg d1] at hr
    exact ⟨fun c => absurd c (n61 h1), fun _ => M_h92f e1 h1 (fun F' e' h' f' => g2 _ hr F' e' h' (f1.tr ⟨f', fun _ _ => rfl⟩))⟩
theorem M_h45n (h5 : F 5 = nI a) (g : ∀ F', F' 5 = nI a → F' 6 = 1 → (∀ k, k ≠ 5 → k ≠ 6 → F' k = F k) → k2 F' R J (v1 + 1)) : qM_readHindrances_45 k2 F R J v1 0 K := by
  unfold qM_readHindrances_45 qM_readHindrances_65
  refine M_must_n ⟨fun q => absurd q (n61 upd_eq), fun _ => ?_⟩
  rw [upd_ne (show (5 : Nat) ≠ 6 by decide), h5, up0]
  exact M_h69f upd_eq (by rw [upd_ne (by decide), upd_eq]) (fun F' e' h' f' => g F' e' h' (fun k q1 q2 => by rw [f' k q1 q2, upd_ne q1, upd_ne q2]))
theorem M_h45y (H : MB T nt F R a) (h6 : F 6 = 0) (ha : a + 1 ≤ nt) (g : ∀ F', MB T nt F' R (a + 1) → F' 6 = 0 → (∀ k, k ≠ 5 → k ≠ 6 → F' k = F k) → qM_readHindrances_69 k2 F' R J v1 K) : qM_readHindrances_45 k2 F R J v1 1 K := by
  unfold qM_readHindrances_45 qM_readHindrances_65
  refine M_must_y h6 ⟨fun _ => ?_, fun q => absurd upd_eq q⟩
  rw [upd_ne (show (5 : Nat) ≠ 6 by decide), show F 5 = nI a from H.2.2.2, nI_1]
  exact g _ (H.mv upd_eq ha (fun k q1 q2 => by rw [upd_ne q1, upd_ne q2])) (by rw [upd_ne (by decide), upd_eq]) (fun k q1 q2 => by rw [upd_ne q1, upd_ne q2])
theorem M_hnds {r : Except Nat (Nat × (Nat → Nat → Nat))} (F0 : FT) (R0 : RT) (g1 : ∀ n hk', r = .ok (n, hk') → ∀ F' R', F' 6 = 0 → MRw R' nb n bk hk' → FrM F0 F' R0 R' → K (nI n) F' R' J) (g2 : ∀ s, r = .error s → ∀ v F' R', F' 5 = nI s → F' 6 = 1 → FrM F0 F' R0 R' → K v F' R' J) : ∀ m k a hk F R, k + m = 6 → MB T nt F R a → (0 < k → skp T nt a = a) → F 6 = 0 → MRw R nb k bk hk → FrM F0 F R0 R → r = hndsE T nt m k a hk → qM_readHindrances_20 (fun F R J v1 => qM_readHindrances_2 (m + 1) F R J v1 K) F R J (nI k) K := by
  have ef : ∀ n F' R' s, r = .error s → F' 5 = nI s → F' 6 = 1 → FrM F0 F' R0 R' → ∀ v, qM_readHindrances_2 (n + 1) F' R' J v K := fun n F' R' s hs e' h' f' v => ⟨fun _ => g2 s hs v F' R' e' h' f', fun c => absurd c (n61 h')⟩
  intro m
  induction m with
  | zero =>
    intro k a hk F R hm H sid h6 W fr hr
    refine ⟨fun c => absurd c (nI_nle (by omega) (by omega)), fun _ => pk_le 6 k (fun _ => ?_) (fun c => by omega)⟩
    exact M_h45n H.2.2.2 (fun F' e' h' f' => ef 0 F' R a hr e' h' (fr.tr ⟨f', fun _ _ => rfl⟩) _)
  | succ m ih =>
    intro k a hk F R hm H sid h6 W fr hr
    unfold hndsE at hr
    have go : ∀ a2 F2, MB T nt F2 R a2 → F2 6 = 0 → FrM F0 F2 R0 R → r = (match hndE T nt a2 with | .error s => .error s | .ok ((c, o), a') => if ch T nt (skp T nt a') = 0 then .ok (k + 1, va_up hk k (rw2 c o)) else hndsE T nt m (k + 1) (skp T nt a') (va_up hk k (rw2 c o))) → qM_readHindrances_69 (fun F R J v1 => qM_readHindrances_2 (m + 1 + 1) F R J v1 K) F2 R J (nI k) K := by
      intro a2 F2 H2 h62 fr2 hr2
      refine M_h69 H2 h62 W (by omega) rfl (fun c o a' e F3 R3 H3 h3 W3 f3 => ?_) (fun s e F3 e3 h3 f3 => ?_)
      · rw [e] at hr2
        dsimp only at hr2
        rw [nI_1]
        refine ⟨fun c => absurd h3 c, fun _ => ⟨fun c => absurd c (nI_ne0 (by omega) (by omega)), fun _ => M_here H3 (fun F4 H4 f4 => ?_)⟩⟩
        have h64 : F4 6 = 0 := by rw [f4 6 (by decide)]; exact h3
        refine pk_eq _ 0 (fun q => ?_) (fun q => ?_) rfl rfl (by have := H3.1.le (skp T nt a'); omega)
        · rw [if_pos q] at hr2
          exact g1 _ _ hr2 F4 R3 h64 W3 ((fr2.tr f3).tr (FrM.a f4))
        · rw [if_neg q] at hr2
          exact ih (k + 1) _ _ F4 R3 (by omega) H4 (fun _ => skp_id H3.1.1 H3.2.1) h64 W3 ((fr2.tr f3).tr (FrM.a f4)) hr2
      · rw [e] at hr2
        exact ef (m + 1) F3 R s hr2 e3 h3 (fr2.tr f3) _
    by_cases k0 : 0 < k
    · refine ⟨fun c => absurd c (nI_nle k0 (by omega)), fun _ => pk_le 6 k (fun c => by omega) (fun _ => M_here H (fun F6 H6 f6 => ?_))⟩
      have h66 : F6 6 = 0 := by rw [f6 6 (by decide)]; exact h6
      refine And.symm (pk_eq _ 44 (fun e => ?_) (fun e => ?_) rfl rfl (by have := H.1.le (skp T nt a); omega))
      · have lt := ch_lt (T := T) (nt := nt) (a := skp T nt a) (by omega)
        rw [if_neg (fun q => q.2 e), if_pos k0] at hr
        exact M_h45y H6 h66 (by omega) (fun F7 H7 h7 f7 => go _ F7 H7 h7 ((fr.tr (FrM.a f6)).tr ⟨f7, fun _ _ => rfl⟩) hr)
      · rw [if_pos ⟨k0, e⟩] at hr
        exact M_h45n H6.2.2.2 (fun F' e' h' f' => ef (m + 1) F' R _ hr e' h' ((fr.tr (FrM.a f6)).tr ⟨f', fun _ _ => rfl⟩) _)
    · have k0 : k = 0 := by omega
      subst k0
      rw [if_neg (fun q => absurd q.1 (Nat.lt_irrefl 0)), if_neg (Nat.lt_irrefl 0)] at hr
      exact ⟨fun _ => go a F H h6 fr hr, fun c => absurd (by decide) c⟩
end MPT
