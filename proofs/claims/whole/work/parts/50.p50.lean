/-! ===== the pure part: mean, the class ===== -/
section CM
variable {st dy fr th d0 l0 c0 : Nat} {su : Nat → Nat → Nat} {F : FT} {R : RT} {J : JT} {P : PT} {B : BT}
theorem C_spread (N : NKb st dy fr th d0 l0 c0 su) (H : RKd st dy fr th d0 l0 c0 su F R) {co : Nat} (hco : co ≤ 400) {v : Nat → Nat} (hv : ∀ t, v t ≤ 1000000) (hlow : ∀ t, t < l0 → v t = 0) (hhigh : ∀ t, st < t → v t = 0) (hV : ∀ t, t < 201 → R 406 t = nI (v t)) {K : FT → RT → JT → PT → BT → Prop} (hK : ∀ R', (∀ t, t < 201 → R' 406 t = nI (spN (fun w l => bhN st (su w l) l co) (owN fr th) v (st + 1) t)) → (∀ k, k ≠ 406 → R' k = R k) → K F R' J P B) : qO_spread F R J P B (nI co) K := by
  obtain ⟨n1, hsu⟩ := id N
  obtain ⟨fo, h1, h2, h3⟩ := id H
  obtain ⟨e7, e8, e9, e10, e11, e12, e13⟩ := id fo
  have ge : ∀ w i, i ≤ st → i ≤ bhN st (su w i) i co ∧ bhN st (su w i) i co ≤ st := fun w i hi => bhN_ge hi
  have cne : ∀ i t, i ≤ st → t < i → ctN (fun w l => bhN st (su w l) l co) (owN fr th) v i t = 0 := fun i t hi ht => ct_ne (Nat.ne_of_gt (Nat.lt_of_lt_of_le ht (ge 0 i hi).1)) (Nat.ne_of_gt (Nat.lt_of_lt_of_le ht (ge 1 i hi).1)) (Nat.ne_of_gt (Nat.lt_of_lt_of_le ht (ge 2 i hi).1))
  have loop : ∀ n R', l0 + n ≤ st + 1 → (∀ t, t < 201 → R' 406 t = nI (if t < l0 + n then v t else dnN (fun w l => bhN st (su w l) l co) (owN fr th) v (st + 1 - (l0 + n)) (l0 + n) t)) → (∀ k, k ≠ 406 → R' k = R k) → qO_spread_5 (n + 1) F R' J P B (nI co) (nI (l0 + n) - 1) K := by
    intro n
    induction n with
    | zero =>
      intro R' hn V f
      unfold qO_spread_5
      refine ⟨fun _ => hK R' (fun t ht => ?_) f, fun c => absurd ?_ c⟩
      · rw [V t ht]
        by_cases q : t < l0
        · rw [if_pos (by omega), hlow t q, sp_0 (st + 1) (fun i hi => ?_)]
          by_cases q2 : i < l0
          · exact ct_0 (hlow i q2)
          · exact cne i t (by omega) (by omega)
        · rw [if_neg (by omega)]
          have s1 := sp_dn (bh := (fun w l => bhN st (su w l) l co)) (ow := owN fr th) (v := v) (t := t) (st + 1 - l0) l0
          rw [sp_0 l0 (fun i hi => ct_0 (hlow i hi)), Nat.zero_add, show l0 + (st + 1 - l0) = st + 1 by omega] at s1
          rw [← s1]; rfl
      · rw [e12, t_lt, cnt_t (by omega), t_n (by omega)]; omega
    | succ n ih =>
      intro R' hn V f
      have e1 : nI (l0 + (n + 1)) - 1 = nI (l0 + n) := (pk_sub (b := 1) (by omega)).trans (congrArg nI (by omega))
      obtain ⟨l, hl⟩ : ∃ l, l = l0 + n := ⟨_, rfl⟩
      have hls : l ≤ st := by omega
      have vl : R' 406 l = nI (v l) := by rw [V l (by omega), if_pos (by omega)]
      have hvl := hv l
      have next : ∀ R2, (∀ t, t < 201 → R2 406 t = nI (if t < l then v t else ctN (fun w l => bhN st (su w l) l co) (owN fr th) v l t + dnN (fun w l => bhN st (su w l) l co) (owN fr th) v (st + 1 - (l + 1)) (l + 1) t)) → (∀ k, k ≠ 406 → R2 k = R k) → qO_spread_5 (n + 1) F R2 J P B (nI co) (nI l - 1) K := by
        intro R2 V2 f2
        rw [hl] at V2 ⊢
        refine ih R2 (by omega) (fun t ht => ?_) f2
        rw [V2 t ht, show st + 1 - (l0 + n) = st + 1 - (l0 + n + 1) + 1 by omega, dnN]
      have dn1 : ∀ t, t ≤ l → dnN (fun w l => bhN st (su w l) l co) (owN fr th) v (st + 1 - (l + 1)) (l + 1) t = 0 := fun t ht => dn_0 _ _ (fun i q1 q2 => cne i t (by omega) (by omega))
      have V' : ∀ t, t < 201 → R' 406 t = nI (if t < l + 1 then v t else dnN (fun w l => bhN st (su w l) l co) (owN fr th) v (st + 1 - (l + 1)) (l + 1) t) := by rw [hl]; exact V
      unfold qO_spread_5 qO_spread_102
      rw [e1, ← hl, nI_clamp (n := l) (by omega), vl, m1s]
      refine pk_lt l l0 (fun c => by omega) (fun _ => ⟨vp_in_nI (by omega) (by omega), pk_eq (v l) 0 (fun e => next R' (fun t ht => ?_) f) (fun e => ⟨vp_in_nI (by omega) (by omega), ?_⟩)⟩) rfl e12
      · rw [V' t ht, ct_0 e]
        by_cases q : t < l
        · rw [if_pos (by omega), if_pos q]
        · rw [if_neg q, Nat.zero_add]
          by_cases q2 : t = l
          · rw [if_pos (by omega), dn1 t (by omega), q2, e]
          · rw [if_neg (by omega)]
      · have b0 := ge 0 l hls
        have b1 := ge 1 l hls
        have b2 := ge 2 l hls
        have s0 : ∀ t, t < 201 → va_up R' 406 (upd (R' 406) l 0) 406 t = nI (if t < l then v t else dnN (fun w l => bhN st (su w l) l co) (owN fr th) v (st + 1 - (l + 1)) (l + 1) t) := by
          intro t ht
          rw [vu_eq]
          by_cases q2 : t = l
          · subst q2
            rw [upd_eq, if_neg (by omega), dn1 t (by omega)]; rfl
          · rw [upd_ne q2, V' t ht]
            by_cases q : t < l
            · rw [if_pos q, if_pos (by omega)]
            · rw [if_neg q, if_neg (by omega)]
        have f0 : ∀ k, k ≠ 406 → va_up R' 406 (upd (R' 406) l 0) k = R k := fun k hk => by rw [vu_ne hk, f k hk]
        generalize va_up R' 406 (upd (R' 406) l 0) = R1 at s0 f0 ⊢
        refine C_laidB (w := 0) e7 (by rw [f0 400 (by decide)]; exact h1) hsu (by omega) (by omega) (by omega) hls hco ⟨vp_in_nI (by omega) (by omega), vp_in_nI (by omega) (by omega), ?_⟩
        rw [nI_clamp (n := bhN st (su 0 l) l co) (by omega), e9, e10, ten_n (by omega)]
        have s1 := ad_1 (r := bhN st (su 0 l) l co) (c := v l * owN fr th 0) s0 (by omega) rfl (pk_mul (v l) (10 - fr - th))
        have f1 : ∀ k, k ≠ 406 → va_up R1 406 (upd (R1 406) (bhN st (su 0 l) l co) (R1 406 (bhN st (su 0 l) l co) + nI (v l) * nI (10 - fr - th))) k = R k := fun k hk => by rw [vu_ne hk, f0 k hk]
        have g1 : va_up R1 406 (upd (R1 406) (bhN st (su 0 l) l co) (R1 406 (bhN st (su 0 l) l co) + nI (v l) * nI (10 - fr - th))) 406 = upd (R1 406) (bhN st (su 0 l) l co) (R1 406 (bhN st (su 0 l) l co) + nI (v l) * nI (10 - fr - th)) := vu_eq
        rw [← g1] at s1
        clear g1
        generalize va_up R1 406 (upd (R1 406) (bhN st (su 0 l) l co) (R1 406 (bhN st (su 0 l) l co) + nI (v l) * nI (10 - fr - th))) = R2 at s1 f1 ⊢
        refine C_laidB (w := 1) e7 (by rw [f1 400 (by decide)]; exact h1) hsu (by omega) (by omega) (by omega) hls hco ⟨vp_in_nI (by omega) (by omega), vp_in_nI (by omega) (by omega), ?_⟩
        rw [nI_clamp (n := bhN st (su 1 l) l co) (by omega), e9]
        have s2 := ad_1 (r := bhN st (su 1 l) l co) (c := v l * owN fr th 1) s1 (by omega) rfl (pk_mul (v l) fr)
        have f2 : ∀ k, k ≠ 406 → va_up R2 406 (upd (R2 406) (bhN st (su 1 l) l co) (R2 406 (bhN st (su 1 l) l co) + nI (v l) * nI fr)) k = R k := fun k hk => by rw [vu_ne hk, f1 k hk]
        have g2 : va_up R2 406 (upd (R2 406) (bhN st (su 1 l) l co) (R2 406 (bhN st (su 1 l) l co) + nI (v l) * nI fr)) 406 = upd (R2 406) (bhN st (su 1 l) l co) (R2 406 (bhN st (su 1 l) l co) + nI (v l) * nI fr) := vu_eq
        rw [← g2] at s2
        clear g2
        generalize va_up R2 406 (upd (R2 406) (bhN st (su 1 l) l co) (R2 406 (bhN st (su 1 l) l co) + nI (v l) * nI fr)) = R3 at s2 f2 ⊢
        refine C_laidB (w := 2) e7 (by rw [f2 400 (by decide)]; exact h1) hsu (by omega) (by omega) (by omega) hls hco ⟨vp_in_nI (by omega) (by omega), vp_in_nI (by omega) (by omega), ?_⟩
        rw [nI_clamp (n := bhN st (su 2 l) l co) (by omega), e10]
        have s3 := ad_1 (r := bhN st (su 2 l) l co) (c := v l * owN fr th 2) s2 (by omega) rfl (pk_mul (v l) th)
        refine next _ (fun t ht => ?_) (fun k hk => by rw [vu_ne hk, f2 k hk])
        rw [vu_eq, s3 t ht]
        by_cases q : t < l
        · rw [if_pos q, if_pos q, if_neg (by omega), if_neg (by omega), if_neg (by omega)]; rfl
        · rw [if_neg q, if_neg q]
          have ec : ctN (fun w l => bhN st (su w l) l co) (owN fr th) v l t = (if bhN st (su 0 l) l co = t then v l * owN fr th 0 else 0) + (if bhN st (su 1 l) l co = t then v l * owN fr th 1 else 0) + (if bhN st (su 2 l) l co = t then v l * owN fr th 2 else 0) := rfl
          rw [ec]
          exact congrArg nI (by omega)
  unfold qO_spread
  refine ⟨st + 1 - l0 + 1, ?_⟩
  have := loop (st + 1 - l0) R (by omega) (fun t ht => ?_) (fun _ _ => rfl)
  · rw [show nI (l0 + (st + 1 - l0)) - 1 = nI st from (pk_sub (b := 1) (by omega)).trans (congrArg nI (by omega))] at this
    rw [e7]; exact this
  · rw [hV t ht]
    by_cases q : t < l0 + (st + 1 - l0)
    · rw [if_pos q]
    · rw [if_neg q, show st + 1 - (l0 + (st + 1 - l0)) = 0 by omega]
      rw [hhigh t (by omega)]; rfl
theorem C_sm26 (N : NKb st dy fr th d0 l0 c0 su) (H : RKd st dy fr th d0 l0 c0 su F R) {n : Nat} (hn : n ≤ 6) {K : Int32 → FT → RT → JT → PT → BT → Prop} (hK : ∀ R', (∀ k, k ≠ 406 → R' k = R k) → K (nI (wsN (vN st l0 c0 fr th su n) (st + 1))) F R' J P B) : ∃ n26, qO_sumOfLaid_26 n26 F R J P B (nI n) (0 : Int32) K := by
  obtain ⟨n1, hsu⟩ := id N
  obtain ⟨fo, h1, h2, h3⟩ := id H
  obtain ⟨e7, e8, e9, e10, e11, e12, e13⟩ := id fo
  have l93 : ∀ R', (∀ k, k ≠ 406 → R' k = R k) → (∀ t, t < 201 → R' 406 t = nI (vN st l0 c0 fr th su n t)) → ∀ m l, l + m = st + 1 → qO_sumOfLaid_93 (m + 1) F R' J P B (nI (wsN (vN st l0 c0 fr th su n) l)) (nI l) K := by
    intro R' f V m
    induction m with
    | zero =>
      intro l hl
      have hl : l = st + 1 := by omega
      subst hl
      unfold qO_sumOfLaid_93
      exact pk_lt st (st + 1) (fun _ => hK R' f) (fun c => by omega) e7
    | succ m ih =>
      intro l hl
      unfold qO_sumOfLaid_93
      refine pk_lt st l (fun c => by omega) (fun _ => ⟨vp_in_nI (by omega) (by omega), ?_⟩) e7
      rw [nI_clamp (n := l) (by omega), V l (by omega), pk_mul, nI_add, nI_1]
      exact ih (l + 1) (by omega)
  have l58 : ∀ m k R', k + m = n → (∀ k, k ≠ 406 → R' k = R k) → (∀ t, t < 201 → R' 406 t = nI (vN st l0 c0 fr th su k t)) → qO_sumOfLaid_58 (m + 1) F R' J P B (nI n) (nI k) K := by
    intro m
    induction m with
    | zero =>
      intro k R' hk f V
      have hk : k = n := by omega
      subst hk
      unfold qO_sumOfLaid_58
      refine pk_le k k (fun _ => ⟨st + 1 - l0 + 1, ?_⟩) (fun c => by omega)
      have := l93 R' f V (st + 1 - l0) l0 (by omega)
      rw [ws_z l0 (fun t ht => vN_low (by omega) k t ht)] at this
      rw [e12]; exact this
    | succ m ih =>
      intro k R' hk f V
      have go : ∀ co, co = (if k = 0 then c0 else 0) → qO_sumOfLaid_76 (fun F R J P B v2 v3 => qO_sumOfLaid_58 (m + 1) F R J P B v2 v3 K) F R' J P B (nI n) (nI k) (nI co) K := by
        intro co hco
        unfold qO_sumOfLaid_76
        rw [nI_1]
        refine C_spread N (H.cg (fun _ _ _ => rfl) ⟨f _ (by decide), f _ (by decide), f _ (by decide)⟩) (by rw [hco]; split <;> omega) (fun t => vN_le (by omega) (by omega) (by omega) t) (fun t ht => vN_low (by omega) k t ht) (fun t ht => vN_high (by omega) k t ht) V (fun R2 V2 f2 => ih (k + 1) R2 (by omega) (fun j hj => by rw [f2 j hj, f j hj]) (fun t ht => ?_))
        rw [V2 t ht, hco]; rfl
      unfold qO_sumOfLaid_58
      rw [e13]
      exact pk_le n k (fun c => by omega) (fun _ => And.symm (pk_eq k 0 (fun e => go c0 (by rw [if_pos e])) (fun e => go 0 (by rw [if_neg e]))))
  have l26 : ∀ m i R', i + m = 201 → (∀ k, k ≠ 406 → R' k = R k) → (∀ t, t < i → R' 406 t = 0) → qO_sumOfLaid_26 (m + 1) F R' J P B (nI n) (nI i) K := by
    intro m
    induction m with
    | zero =>
      intro i R' hi f V
      have hi : i = 201 := by omega
      subst hi
      unfold qO_sumOfLaid_26
      refine ⟨fun _ => ?_, fun c => absurd (by decide) c⟩
      rw [e12, nI_clamp (n := l0) (by omega)]
      refine ⟨vp_in_nI (by omega) (by omega), n + 1, l58 n 0 _ (by omega) (fun k hk => by rw [vu_ne hk, f k hk]) (fun t ht => ?_)⟩
      rw [vu_eq]
      show _ = nI (if t = l0 then 1 else 0)
      by_cases q : t = l0
      · rw [if_pos q, q, upd_eq]; rfl
      · rw [if_neg q, upd_ne q, V t ht]; rfl
    | succ m ih =>
      intro i R' hi f V
      unfold qO_sumOfLaid_26
      refine pk_le 201 i (fun c => by omega) (fun _ => ⟨vp_in_nI (by omega) (by omega), ?_⟩)
      rw [nI_clamp (n := i) (by omega), nI_1]
      refine ih (i + 1) _ (by omega) (fun k hk => by rw [vu_ne hk, f k hk]) (fun t ht => ?_)
      rw [vu_eq]
      by_cases q : t = i
      · rw [q, upd_eq]
      · rw [upd_ne q]; exact V t (by omega)
  exact ⟨202, l26 201 0 R rfl (fun _ _ => rfl) (fun t ht => absurd ht (Nat.not_lt_zero t))⟩
end CM
