/-! ===== the pure part: a bargain's builders and hindrances, the class's side ===== -/
/-- what the reading may change in the class -/
def FrC (F F' : FT) (R R' : RT) : Prop := (∀ k, k ≠ 309 → k ≠ 310 → k ≠ 311 → k ≠ 312 → F' k = F k) ∧ (∀ k, ¬ (301 ≤ k ∧ k ≤ 305) → R' k = R k)
theorem FrC.tr {F F1 F2 : FT} {R R1 R2 : RT} (h : FrC F F1 R R1) (g : FrC F1 F2 R1 R2) : FrC F F2 R R2 := ⟨fun k a b c d => (g.1 k a b c d).trans (h.1 k a b c d), fun k a => (g.2 k a).trans (h.2 k a)⟩
theorem FrC.a {F F1 : FT} {R : RT} (h : ∀ k, k ≠ 312 → F1 k = F k) : FrC F F1 R R := ⟨fun k _ _ _ d => h k d, fun _ _ => rfl⟩
theorem FrC.b {F F1 : FT} {R : RT} (h : ∀ k, k ≠ 311 → k ≠ 312 → F1 k = F k) : FrC F F1 R R := ⟨fun k _ _ c d => h k c d, fun _ _ => rfl⟩
theorem FrC.rf {F : FT} {R : RT} : FrC F F R R := ⟨fun _ _ _ _ _ => rfl, fun _ _ => rfl⟩
theorem CP.bld {T : Nat → Nat} {nt : Nat} {F F' : FT} {R : RT} {a nb nh kd pc hs : Nat} {bk hk : Nat → Nat → Nat} (H : CP T nt F R a nb nh bk hk) (h4 : nb < 4) (hk4 : kd ≤ 4) (hp : 1 ≤ pc ∧ pc ≤ 9) (hh : hs ≤ 9) (e : F' = upd F 309 (nI (nb + 1))) : CP T nt F' (va_up (va_up (va_up R 301 (upd (R 301) nb (nI kd))) 302 (upd (R 302) nb (nI pc))) 303 (upd (R 303) nb (nI hs))) a (nb + 1) nh (va_up bk nb (rw3 kd pc hs)) hk := by
  obtain ⟨h1, h2, h3, h5, ⟨h6, h6b, h6c⟩, ⟨h7, h7b, h7c⟩⟩ := H
  subst e
  refine ⟨?_, h2, by rw [upd_ne (by decide)]; exact h3, by rw [upd_ne (by decide)]; exact h5, ⟨upd_eq, ⟨by omega, fun k hk => ?_⟩, fun k hk => ?_⟩, ⟨by rw [upd_ne (by decide)]; exact h7, h7b, fun k hk => ?_⟩⟩
  · rw [vu_ne (by decide), vu_ne (by decide), vu_ne (by decide)]; exact h1
  · by_cases e : k = nb
    · subst e; rw [vu_eq]; exact ⟨hk4, hp.1, hp.2, hh⟩
    · rw [vu_ne e]; exact h6b.2 k (by omega)
  · rw [vu_ne (show (301 : Nat) ≠ 303 by decide), vu_ne (show (301 : Nat) ≠ 302 by decide), vu_eq, vu_ne (show (302 : Nat) ≠ 303 by decide), vu_eq, vu_eq]
    by_cases e : k = nb
    · subst e; rw [vu_eq, upd_eq, upd_eq, upd_eq]; exact ⟨rfl, rfl, rfl⟩
    · rw [vu_ne e, upd_ne e, upd_ne e, upd_ne e]; exact h6c k (by omega)
  · rw [vu_ne (by decide), vu_ne (by decide), vu_ne (by decide), vu_ne (by decide), vu_ne (by decide), vu_ne (by decide)]; exact h7c k hk
theorem CP.hnd {T : Nat → Nat} {nt : Nat} {F F' : FT} {R : RT} {a nb nh c o : Nat} {bk hk : Nat → Nat → Nat} (H : CP T nt F R a nb nh bk hk) (h6 : nh < 6) (hc : 1 ≤ c ∧ c ≤ 9) (ho : o ≤ 4) (e : F' = upd F 310 (nI (nh + 1))) : CP T nt F' (va_up (va_up R 304 (upd (R 304) nh (nI c))) 305 (upd (R 305) nh (oaV o))) a nb (nh + 1) bk (va_up hk nh (rw2 c o)) := by
  obtain ⟨h1, h2, h3, h5, ⟨h6', h6b, h6c⟩, ⟨h7, h7b, h7c⟩⟩ := H
  subst e
  refine ⟨?_, h2, by rw [upd_ne (by decide)]; exact h3, by rw [upd_ne (by decide)]; exact h5, ⟨by rw [upd_ne (by decide)]; exact h6', h6b, fun k hk => ?_⟩, ⟨upd_eq, ⟨by omega, fun k hk => ?_⟩, fun k hk => ?_⟩⟩
  · rw [vu_ne (by decide), vu_ne (by decide)]; exact h1
  · rw [vu_ne (by decide), vu_ne (by decide), vu_ne (by decide), vu_ne (by decide), vu_ne (by decide), vu_ne (by decide)]; exact h6c k hk
  · by_cases e : k = nh
    · subst e; rw [vu_eq]; exact ⟨hc.1, hc.2, ho⟩
    · rw [vu_ne e]; exact h7b.2 k (by omega)
  · rw [vu_ne (show (304 : Nat) ≠ 305 by decide), vu_eq, vu_eq]
    by_cases e : k = nh
    · subst e; rw [vu_eq, upd_eq, upd_eq]; exact ⟨rfl, rfl⟩
    · rw [vu_ne e, upd_ne e, upd_ne e]; exact h7c k (by omega)
section CPT
variable {T : Nat → Nat} {nt : Nat} {F : FT} {R : RT} {J : JT} {P : PT} {B : BT} {a nb nh : Nat} {bk hk : Nat → Nat → Nat}
theorem C_bld (H : CP T nt F R a nb nh bk hk) (h4 : nb < 4) {r : Except Nat ((Nat × Nat × Nat) × Nat)} (hr : r = bldE T nt a) {K : Int32 → FT → RT → JT → PT → BT → Prop} (g1 : ∀ kd pc hs a', r = .ok ((kd, pc, hs), a') → ∀ F' R', CP T nt F' R' a' (nb + 1) nh (va_up bk nb (rw3 kd pc hs)) hk → FrC F F' R R' → K 1 F' R' J P B) (g2 : ∀ s, r = .error s → ∀ F', F' 311 = nI s → FrC F F' R R → K 0 F' R J P B) : qT_readBuilder F R J P B K := by
  unfold bldE at hr
  refine C_next H (fun F1 H1 f1 => C_kind (H.1.le _) (fun k9 => ?_) (fun k9 => ?_))
  · rw [if_neg k9] at hr
    obtain ⟨k4, c0⟩ := kdN_le k9
    have lt := ch_lt c0
    refine ⟨fun _ => ?_, fun c => absurd (nI_pos' (by omega)) c⟩
    rw [show F1 312 = nI (skp T nt a) from H1.2.2.2.1, nI_1]
    have H2 : CP T nt (upd F1 312 (nI (skp T nt a + 1))) R (skp T nt a + 1) nb nh bk hk := H1.mv upd_eq (by omega) (fun k h _ => upd_ne h)
    have fr2 : FrC F (upd F1 312 (nI (skp T nt a + 1))) R R := (FrC.a f1).tr (FrC.a (fun k h => upd_ne h))
    refine C_digit 1 (by omega) H2 (fun d1 F3 H3 f3 => ?_) (fun d1 F3 e3 f3 => ?_)
    · rw [if_pos d1] at hr
      have p9 := dg_iff.mp d1
      refine ⟨fun _ => C_digit 0 (by omega) H3 (fun d2 F4 H4 f4 => ?_) (fun d2 F4 e4 f4 => ?_), fun c => absurd (nI_pos' (by omega)) c⟩
      · rw [if_pos d2] at hr
        have q9 := dg_iff.mp d2
        have e9 : F4 309 = nI nb := H4.2.2.2.2.1.1
        refine ⟨fun c => absurd c (nI_pos (by omega)), fun _ => pk_lt nb 4 (fun _ => ?_) (fun c => by omega) e9⟩
        rw [e9, nI_clamp (n := nb) (by omega), nI_1]
        have vi : vp_in (nI nb) 4 := vp_in_nI (by omega) (by omega)
        exact ⟨vi, vi, vi, g1 _ _ _ _ hr _ _ (H4.bld h4 k4 ⟨by omega, by omega⟩ (by omega) rfl) (((fr2.tr (FrC.a f3)).tr (FrC.a f4)).tr ⟨fun k a _ _ _ => upd_ne a, fun k hk => by rw [vu_ne (by omega), vu_ne (by omega), vu_ne (by omega)]⟩)⟩
      · rw [if_neg d2] at hr
        exact ⟨fun _ => g2 _ hr F4 e4 ((fr2.tr (FrC.a f3)).tr (FrC.b f4)), fun c => absurd (by decide) c⟩
    · rw [if_neg d1] at hr
      exact ⟨fun c => absurd c (by decide), fun _ => g2 _ hr F3 e3 (fr2.tr (FrC.b f3))⟩
  · rw [if_pos k9] at hr
    refine ⟨fun c => absurd c (by decide), fun _ => ⟨Or.inl rfl, g2 _ hr _ (by rw [upd_eq]; exact H1.2.2.2.1) (FrC.b (fun k q1 q2 => by rw [upd_ne q1, f1 k q2]))⟩⟩
theorem C_blds {K : Int32 → FT → RT → JT → PT → BT → Prop} {r : Except Nat (Nat × Nat × (Nat → Nat → Nat))} (F0 : FT) (R0 : RT) (g1 : ∀ n a' bk', r = .ok (n, a', bk') → ∀ F' R', CP T nt F' R' a' n nh bk' hk → FrC F0 F' R0 R' → K 1 F' R' J P B) (g2 : ∀ s, r = .error s → ∀ F' R', F' 311 = nI s → FrC F0 F' R0 R' → K 0 F' R' J P B) : ∀ m k a bk F R, k + m = 4 → CP T nt F R a k nh bk hk → FrC F0 F R0 R → r = bldsE T nt m k a bk → qT_readBuilders_2 (m + 1) F R J P B (nI k) K := by
  intro m
  induction m with
  | zero =>
    intro k a bk F R hm H fr hr
    unfold qT_readBuilders_2
    exact pk_le 4 k (fun _ => g1 _ _ _ hr F R H fr) (fun c => by omega)
  | succ m ih =>
    intro k a bk F R hm H fr hr
    unfold bldsE at hr
    have go : ∀ a2 F2, CP T nt F2 R a2 k nh bk hk → FrC F0 F2 R0 R → r = (match bldE T nt a2 with | .error s => .error s | .ok ((kd, pc, hs), a') => bldsE T nt m (k + 1) a' (va_up bk k (rw3 kd pc hs))) → qT_readBuilders_32 (fun F R J P B v1 => qT_readBuilders_2 (m + 1) F R J P B v1 K) F2 R J P B (nI k) K := by
      intro a2 F2 H2 fr2 hr2
      unfold qT_readBuilders_32
      refine C_bld H2 (by omega) rfl (fun kd pc hs a' e F3 R3 H3 f3 => ?_) (fun s e F3 e3 f3 => ?_)
      · rw [e] at hr2
        rw [nI_1]
        exact ⟨fun _ => ih (k + 1) a' _ F3 R3 (by omega) H3 (fr2.tr f3) hr2, fun c => absurd c (by decide)⟩
      · rw [e] at hr2
        exact ⟨fun c => absurd rfl c, fun _ => g2 s hr2 F3 R e3 (fr2.tr f3)⟩
    unfold qT_readBuilders_2
    refine pk_le 4 k (fun c => by omega) (fun _ => ⟨fun c => ?_, fun c => ?_⟩)
    · have k0 : k = 0 := by have := (n_le (b := 0) (by omega) (by omega)).mp c; omega
      subst k0
      rw [if_neg (fun q => absurd q.1 (Nat.lt_irrefl 0)), if_neg (Nat.lt_irrefl 0)] at hr
      exact go a F H fr hr
    · have k0 : 0 < k := Nat.pos_of_ne_zero (fun e => c (by rw [e]; decide))
      refine C_next H (fun F1 H1 f1 => pk_eq _ 44 (fun e => ?_) (fun e => ?_) rfl rfl (by have := H.1.le (skp T nt a); omega))
      · have lt := ch_lt (T := T) (nt := nt) (a := skp T nt a) (by omega)
        rw [if_neg (fun q => q.2 e), if_pos k0] at hr
        rw [show F1 312 = nI (skp T nt a) from H1.2.2.2.1, nI_1]
        exact go (skp T nt a + 1) _ (H1.mv upd_eq (by omega) (fun k h _ => upd_ne h)) ((fr.tr (FrC.a f1)).tr (FrC.a (fun k h => upd_ne h))) hr
      · rw [if_pos ⟨k0, e⟩] at hr
        exact g1 _ _ _ hr F1 R H1 (fr.tr (FrC.a f1))
theorem C_hnd (H : CP T nt F R a nb nh bk hk) (h6 : nh < 6) {r : Except Nat ((Nat × Nat) × Nat)} (hr : r = hndE T nt a) {K : Int32 → FT → RT → JT → PT → BT → Prop} (g1 : ∀ c o a', r = .ok ((c, o), a') → ∀ F' R', CP T nt F' R' a' nb (nh + 1) bk (va_up hk nh (rw2 c o)) → FrC F F' R R' → K 1 F' R' J P B) (g2 : ∀ s, r = .error s → ∀ F', F' 311 = nI s → FrC F F' R R → K 0 F' R J P B) : qT_readHindrance F R J P B K := by
  unfold hndE at hr
  have vi : vp_in (nI nh) 6 := vp_in_nI (by omega) (by omega)
  have frh : ∀ (F1 : FT) (f g : Nat → Int32) (v : Int32), FrC F1 (upd F1 310 v) R (va_up (va_up R 304 f) 305 g) := fun F1 f g v => ⟨fun k _ a _ _ => upd_ne a, fun k hk => by rw [vu_ne (by omega), vu_ne (by omega)]⟩
  refine C_digit 1 (by omega) H (fun d1 F1 H1 f1 => ?_) (fun d1 F1 e1 f1 => ?_)
  · rw [if_pos d1] at hr
    have p9 := dg_iff.mp d1
    have e10 : F1 310 = nI nh := H1.2.2.2.2.2.1
    refine ⟨fun c => absurd c (nI_pos (by omega)), fun _ => pk_lt nh 6 (fun _ => ?_) (fun c => by omega) e10⟩
    refine C_next H1 (fun F2 H2 f2 => ?_)
    have cb := H.1.le (skp T nt (skp T nt a + 1))
    by_cases hc : 97 ≤ ch T nt (skp T nt (skp T nt a + 1)) ∧ ch T nt (skp T nt (skp T nt a + 1)) ≤ 100
    · rw [if_pos hc] at hr
      have lt := ch_lt (T := T) (nt := nt) (a := skp T nt (skp T nt a + 1)) (by omega)
      have es : nI (ch T nt (skp T nt (skp T nt a + 1))) - (97 : Int32) = nI (ch T nt (skp T nt (skp T nt a + 1)) - 97) := pk_sub (b := 97) hc.1
      rw [es]
      have H3 : CP T nt (upd F2 312 (nI (skp T nt (skp T nt a + 1) + 1))) R (skp T nt (skp T nt a + 1) + 1) nb nh bk hk := H2.mv upd_eq (by omega) (fun k h _ => upd_ne h)
      have e10 : upd F2 312 (nI (skp T nt (skp T nt a + 1) + 1)) 310 = nI nh := H3.2.2.2.2.2.1
      refine wi_y (rgl (by omega)).1 (rgl (by omega)).2 ⟨fun c => absurd c (by decide), fun _ => ?_⟩
      rw [show F2 312 = nI (skp T nt (skp T nt a + 1)) from H2.2.2.2.1, nI_1]
      unfold qT_readHindrance_50 qT_readHindrance_78
      rw [e10, nI_clamp (n := nh) (by omega), nI_1]
      refine ⟨vi, fun c => absurd c (by decide), fun _ => ⟨vi, ?_⟩⟩
      have := g1 _ _ _ hr _ _ (H3.hnd h6 ⟨by omega, by omega⟩ (o := ch T nt (skp T nt (skp T nt a + 1)) - 97) (by omega) rfl) ((((FrC.a f1).tr (FrC.a f2)).tr (FrC.a (fun k h => upd_ne h))).tr (frh _ _ _ _))
      rw [oa_n (by omega)] at this
      rw [vu_ne (show (305 : Nat) ≠ 304 by decide)]
      exact this
    · rw [if_neg hc] at hr
      have e10 : F2 310 = nI nh := H2.2.2.2.2.2.1
      refine wi_n ?_ ⟨fun _ => ?_, fun c => absurd rfl c⟩
      · have q : (nI (ch T nt (skp T nt (skp T nt a + 1))) - (97 : Int32)).toInt = (ch T nt (skp T nt (skp T nt a + 1)) : Int) - 97 := pk_sub_toInt (b := 97) (by omega) (by omega)
        rw [q]
        have z0 : (0 : Int32).toInt = 0 := rfl
        have z3 : (3 : Int32).toInt = 3 := rfl
        rw [z0, z3]
        omega
      · unfold qT_readHindrance_50 qT_readHindrance_78
        rw [e10, nI_clamp (n := nh) (by omega), nI_1]
        refine ⟨vi, fun _ => ⟨vi, ?_⟩, fun c => absurd rfl c⟩
        have := g1 _ _ _ hr _ _ (H2.hnd h6 ⟨by omega, by omega⟩ (o := 4) (by omega) rfl) (((FrC.a f1).tr (FrC.a f2)).tr (frh _ _ _ _))
        rw [vu_ne (show (305 : Nat) ≠ 304 by decide)]
        exact this
  · rw [if_neg d1] at hr
    exact ⟨fun _ => g2 _ hr F1 e1 (FrC.b f1), fun c => absurd (by decide) c⟩
theorem C_hnds {K : Int32 → FT → RT → JT → PT → BT → Prop} {r : Except Nat (Nat × (Nat → Nat → Nat))} (F0 : FT) (R0 : RT) (g1 : ∀ n hk', r = .ok (n, hk') → ∀ F' R' a', CP T nt F' R' a' nb n bk hk' → FrC F0 F' R0 R' → K 1 F' R' J P B) (g2 : ∀ s, r = .error s → ∀ F' R', F' 311 = nI s → FrC F0 F' R0 R' → K 0 F' R' J P B) : ∀ m k a hk F R, k + m = 6 → CP T nt F R a nb k bk hk → FrC F0 F R0 R → r = hndsE T nt m k a hk → qT_readHindrances_2 (m + 1) F R J P B (nI k) K := by
  intro m
  induction m with
  | zero =>
    intro k a hk F R hm H fr hr
    unfold qT_readHindrances_2
    exact pk_le 6 k (fun _ => ⟨Or.inl rfl, g2 _ hr _ R (by rw [upd_eq]; exact H.2.2.2.1) (fr.tr (FrC.b (fun k q1 _ => upd_ne q1)))⟩) (fun c => by omega)
  | succ m ih =>
    intro k a hk F R hm H fr hr
    unfold hndsE at hr
    have go : ∀ a2 F2, CP T nt F2 R a2 nb k bk hk → FrC F0 F2 R0 R → r = (match hndE T nt a2 with | .error s => .error s | .ok ((c, o), a') => if ch T nt (skp T nt a') = 0 then .ok (k + 1, va_up hk k (rw2 c o)) else hndsE T nt m (k + 1) (skp T nt a') (va_up hk k (rw2 c o))) → qT_readHindrances_23 (fun F R J P B v1 => qT_readHindrances_2 (m + 1) F R J P B v1 K) F2 R J P B (nI k) K := by
      intro a2 F2 H2 fr2 hr2
      unfold qT_readHindrances_23
      refine C_hnd H2 (by omega) rfl (fun c o a' e F3 R3 H3 f3 => ⟨fun _ => C_next H3 (fun F4 H4 f4 => ?_), fun c => absurd c (by decide)⟩) (fun s e F3 e3 f3 => ?_)
      · rw [e] at hr2
        dsimp only at hr2
        rw [nI_1]
        refine And.symm (pk_eq _ 0 (fun q => ?_) (fun q => ?_) rfl rfl (by have := H.1.le (skp T nt a'); omega))
        · rw [if_pos q] at hr2
          exact g1 _ _ hr2 F4 R3 _ H4 ((fr2.tr f3).tr (FrC.a f4))
        · rw [if_neg q] at hr2
          exact ih (k + 1) _ _ F4 R3 (by omega) H4 ((fr2.tr f3).tr (FrC.a f4)) hr2
      · rw [e] at hr2
        exact ⟨fun c => absurd rfl c, fun _ => g2 s hr2 F3 R e3 (fr2.tr f3)⟩
    unfold qT_readHindrances_2
    refine pk_le 6 k (fun c => by omega) (fun _ => ⟨fun c => ?_, fun c => ?_⟩)
    · have k0 : k = 0 := by have := (n_le (b := 0) (by omega) (by omega)).mp c; omega
      subst k0
      rw [if_neg (fun q => absurd q.1 (Nat.lt_irrefl 0)), if_neg (Nat.lt_irrefl 0)] at hr
      exact go a F H fr hr
    · have k0 : 0 < k := Nat.pos_of_ne_zero (fun e => c (by rw [e]; decide))
      refine C_sign 44 (by decide) (by decide) H (fun e F1 H1 f1 => ?_) (fun e F1 e1 f1 => ?_)
      · rw [if_neg (fun q => q.2 e), if_pos k0] at hr
        exact ⟨fun _ => go (skp T nt a + 1) F1 H1 (fr.tr (FrC.a f1)) hr, fun c => absurd c (by decide)⟩
      · rw [if_pos ⟨k0, e⟩] at hr
        exact ⟨fun c => absurd rfl c, fun _ => g2 _ hr F1 R e1 (fr.tr (FrC.b f1))⟩
/-- what a whole reading may change -/
def FrR (F F' : FT) (R R' : RT) : Prop := (∀ k, ¬ (307 ≤ k ∧ k ≤ 312) → F' k = F k) ∧ (∀ k, ¬ (301 ≤ k ∧ k ≤ 305) → R' k = R k)
theorem FrC.r {F F1 F2 : FT} {R R1 R2 : RT} (h : FrR F F1 R R1) (g : FrC F1 F2 R1 R2) : FrR F F2 R R2 := ⟨fun k a => (g.1 k (by omega) (by omega) (by omega) (by omega)).trans (h.1 k a), fun k a => (g.2 k a).trans (h.2 k a)⟩
theorem C_read (X : TX T nt (R 300)) (e6 : F 306 = nI nt) (bk hk : Nat → Nat → Nat) {r : Except Nat (Nat × Nat × (Nat × (Nat → Nat → Nat)) × (Nat × (Nat → Nat → Nat)))} (hr : r = parE T nt bk hk) {K : Int32 → FT → RT → JT → PT → BT → Prop} (g1 : ∀ v0 v1 nb bk' nh hk', r = .ok (v0, v1, (nb, bk'), (nh, hk')) → ∀ F' R' a, 1 ≤ v0 ∧ v0 ≤ 200 → 1 ≤ v1 ∧ v1 ≤ 40 → CP T nt F' R' a nb nh bk' hk' → F' 307 = nI v0 → F' 308 = nI v1 → FrR F F' R R' → K 1 F' R' J P B) (g2 : ∀ s, r = .error s → ∀ F' R', F' 311 = nI s → FrR F F' R R' → K 0 F' R' J P B) : qT_read F R J P B K := by
  have H0 : CP T nt (upd (upd (upd F 312 0) 309 0) 310 0) R 0 0 0 bk hk := ⟨X, Nat.zero_le _, by rw [upd_ne (by decide), upd_ne (by decide), upd_ne (by decide)]; exact e6, rfl, ⟨rfl, ⟨by omega, fun k q => absurd q (Nat.not_lt_zero k)⟩, fun k q => absurd q (Nat.not_lt_zero k)⟩, ⟨rfl, ⟨by omega, fun k q => absurd q (Nat.not_lt_zero k)⟩, fun k q => absurd q (Nat.not_lt_zero k)⟩⟩
  have fr0 : FrR F (upd (upd (upd F 312 0) 309 0) 310 0) R R := ⟨fun k q => by rw [upd_ne (by omega), upd_ne (by omega), upd_ne (by omega)], fun _ _ => rfl⟩
  have up : ∀ (F1 : FT) (j : Nat) (v : Int32), (j = 307 ∨ j = 308) → ∀ a nb nh (bk hk : Nat → Nat → Nat) (R1 : RT), CP T nt F1 R1 a nb nh bk hk → CP T nt (upd F1 j v) R1 a nb nh bk hk := by
    intro F1 j v hj a nb nh bk hk R1 H
    obtain ⟨h1, h2, h3, h4, ⟨h5, h5b⟩, ⟨h6, h6b⟩⟩ := H
    exact ⟨h1, h2, by rw [upd_ne (by omega)]; exact h3, by rw [upd_ne (by omega)]; exact h4, ⟨by rw [upd_ne (by omega)]; exact h5, h5b⟩, ⟨by rw [upd_ne (by omega)]; exact h6, h6b⟩⟩
  have upr : ∀ (F1 : FT) (R1 : RT) (j : Nat) (v : Int32), (j = 307 ∨ j = 308) → FrR F F1 R R1 → FrR F (upd F1 j v) R R1 := fun F1 R1 j v hj h => ⟨fun k q => by rw [upd_ne (by omega)]; exact h.1 k q, h.2⟩
  unfold parE at hr
  refine C_num 200 (by omega) H0 (fun c0 F1 H1 f1 => ?_) (fun c0 F1 e1 f1 => ?_)
  case refine_2 =>
    rw [if_neg c0] at hr
    refine ⟨fun _ => g2 _ hr _ R (by rw [upd_ne (by decide)]; exact e1) (upr _ _ _ _ (Or.inl rfl) ((FrC.b f1).r fr0)), fun c => absurd (by decide) c⟩
  rw [if_pos c0] at hr
  have fr1 := upr _ _ 307 (nI (dgs T nt 3 (skp T nt 0) 0).1) (Or.inl rfl) ((FrC.a (R := R) f1).r fr0)
  have H1 := up F1 307 (nI (dgs T nt 3 (skp T nt 0) 0).1) (Or.inl rfl) _ _ _ _ _ _ H1
  have e7 : upd F1 307 (nI (dgs T nt 3 (skp T nt 0) 0).1) 307 = nI (dgs T nt 3 (skp T nt 0) 0).1 := upd_eq
  refine ⟨fun c => absurd c (nI_pos (by omega)), fun _ => ?_⟩
  generalize upd F1 307 (nI (dgs T nt 3 (skp T nt 0) 0).1) = F1' at H1 fr1 e7 ⊢
  generalize (dgs T nt 3 (skp T nt 0) 0).1 = v0 at *
  generalize (dgs T nt 3 (skp T nt 0) 0).2 = a1 at *
  unfold par2 at hr
  refine C_sign 44 (by decide) (by decide) H1 (fun e F2 H2 f2 => ⟨fun _ => ?_, fun c => absurd c (by decide)⟩) (fun e F2 e2 f2 => ⟨fun c => absurd rfl c, fun _ => ?_⟩)
  case refine_2 =>
    rw [if_neg e] at hr
    exact g2 _ hr F2 R e2 ((FrC.b f2).r fr1)
  rw [if_pos e] at hr
  refine C_num 40 (by omega) H2 (fun c1 F3 H3 f3 => ?_) (fun c1 F3 e3 f3 => ?_)
  case refine_2 =>
    rw [if_neg c1] at hr
    refine ⟨fun _ => g2 _ hr _ R (by rw [upd_ne (by decide)]; exact e3) (upr _ _ _ _ (Or.inr rfl) ((FrC.b f3).r ((FrC.a f2).r fr1))), fun c => absurd (by decide) c⟩
  rw [if_pos c1] at hr
  refine ⟨fun c => absurd c (nI_pos (by omega)), fun _ => ?_⟩
  have fr3 := upr _ _ 308 (nI (dgs T nt 3 (skp T nt (skp T nt a1 + 1)) 0).1) (Or.inr rfl) ((FrC.a (R := R) f3).r ((FrC.a f2).r fr1))
  have H3 := up F3 308 (nI (dgs T nt 3 (skp T nt (skp T nt a1 + 1)) 0).1) (Or.inr rfl) _ _ _ _ _ _ H3
  have e8 : upd F3 308 (nI (dgs T nt 3 (skp T nt (skp T nt a1 + 1)) 0).1) 308 = nI (dgs T nt 3 (skp T nt (skp T nt a1 + 1)) 0).1 := upd_eq
  have e7 : upd F3 308 (nI (dgs T nt 3 (skp T nt (skp T nt a1 + 1)) 0).1) 307 = nI v0 := by rw [upd_ne (by decide), f3 _ (by decide), f2 _ (by decide)]; exact e7
  generalize upd F3 308 (nI (dgs T nt 3 (skp T nt (skp T nt a1 + 1)) 0).1) = F3' at H3 fr3 e7 e8 ⊢
  generalize (dgs T nt 3 (skp T nt (skp T nt a1 + 1)) 0).1 = v1 at *
  generalize (dgs T nt 3 (skp T nt (skp T nt a1 + 1)) 0).2 = a3 at *
  unfold par3 at hr
  refine C_sign 59 (by decide) (by decide) H3 (fun e F4 H4 f4 => ⟨fun c => absurd c (by decide), fun _ => ?_⟩) (fun e F4 e4 f4 => ⟨fun _ => ?_, fun c => absurd rfl c⟩)
  case refine_2 =>
    rw [if_neg e] at hr
    exact g2 _ hr F4 R e4 ((FrC.b f4).r fr3)
  rw [if_pos e] at hr
  have e7 : F4 307 = nI v0 := by rw [f4 _ (by decide)]; exact e7
  have e8 : F4 308 = nI v1 := by rw [f4 _ (by decide)]; exact e8
  refine ⟨5, C_blds F4 R (fun n a' bk' er F5 R5 H5 f5 => ⟨fun _ => ?_, fun c => absurd c (by decide)⟩) (fun s er F5 R5 e5 f5 => ⟨fun c => absurd rfl c, fun _ => ?_⟩) 4 0 _ bk F4 R rfl H4 FrC.rf rfl⟩
  case refine_2 =>
    rw [er] at hr
    exact g2 _ hr F5 R5 e5 (f5.r ((FrC.a f4).r fr3))
  rw [er] at hr
  dsimp only at hr
  have e7 : F5 307 = nI v0 := by rw [f5.1 _ (by decide) (by decide) (by decide) (by decide)]; exact e7
  have e8 : F5 308 = nI v1 := by rw [f5.1 _ (by decide) (by decide) (by decide) (by decide)]; exact e8
  have fr5 := f5.r ((FrC.a (R := R) f4).r fr3)
  unfold par4 at hr
  refine C_next H5 (fun F6 H6 f6 => And.symm (pk_eq _ 0 (fun q => ?_) (fun q => ?_) rfl rfl (by have := H5.1.le (skp T nt a'); omega)))
  · rw [if_pos q] at hr
    exact g1 _ _ _ _ _ _ hr F6 R5 _ c0 c1 H6 (by rw [f6 _ (by decide)]; exact e7) (by rw [f6 _ (by decide)]; exact e8) ((FrC.a f6).r fr5)
  rw [if_neg q] at hr
  have sid : skp T nt (skp T nt a') = skp T nt a' := skp_id H5.1.1 H5.2.1
  refine C_sign 59 (by decide) (by decide) H6 (fun e F7 H7 f7 => ⟨fun c => absurd c (by decide), fun _ => ?_⟩) (fun e F7 e7' f7 => ⟨fun _ => ?_, fun c => absurd rfl c⟩)
  case refine_2 =>
    rw [sid] at e e7'
    rw [if_neg e] at hr
    exact g2 _ hr F7 R5 e7' ((FrC.b f7).r ((FrC.a f6).r fr5))
  rw [sid] at e H7
  rw [if_pos e] at hr
  have e7 : F7 307 = nI v0 := by rw [f7 _ (by decide), f6 _ (by decide)]; exact e7
  have e8 : F7 308 = nI v1 := by rw [f7 _ (by decide), f6 _ (by decide)]; exact e8
  have fr7 := (FrC.a (R := R5) f7).r ((FrC.a f6).r fr5)
  refine ⟨7, C_hnds F7 R5 (fun n hk' er F8 R8 a8 H8 f8 => ⟨fun c => absurd c (by decide), fun _ => ?_⟩) (fun s er F8 R8 e8' f8 => ⟨fun _ => ?_, fun c => absurd rfl c⟩) 6 0 _ hk F7 R5 rfl H7 FrC.rf rfl⟩
  · rw [er] at hr
    exact g1 _ _ _ _ _ _ hr F8 R8 a8 c0 c1 H8 (by rw [f8.1 _ (by decide) (by decide) (by decide) (by decide)]; exact e7) (by rw [f8.1 _ (by decide) (by decide) (by decide) (by decide)]; exact e8) (f8.r fr7)
  · rw [er] at hr
    exact g2 _ hr F8 R8 e8' (f8.r fr7)
end CPT
