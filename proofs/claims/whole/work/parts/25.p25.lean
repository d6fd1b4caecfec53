/-! ===== the pure part: builder, type ===== -/
theorem cls_k : ∀ k, k ≤ 4 → kindV (clsOf (nI k)) = nI k ∧ bOK (clsOf (nI k)) := by
  intro k hk
  rcases (show k = 0 ∨ k = 1 ∨ k = 2 ∨ k = 3 ∨ k = 4 by omega) with rfl | rfl | rfl | rfl | rfl
  · exact ⟨rfl, Or.inr (Or.inr (Or.inr (Or.inr rfl)))⟩
  · exact ⟨rfl, Or.inr (Or.inr (Or.inl rfl))⟩
  · exact ⟨rfl, Or.inl rfl⟩
  · exact ⟨rfl, Or.inr (Or.inl rfl)⟩
  · exact ⟨rfl, Or.inr (Or.inr (Or.inr (Or.inl rfl)))⟩
/-- a builder more, and nothing to be undone: both sides -/
theorem INV.bld {F : FT} {R : RT} {J : JT} {P : PT} {B : BT} {F0 : FT} {R0 : RT} {J0 : JT} (I : INV F R J P B F0 R0 J0) {x : Nat → Nat} {b h p : Nat → Nat → Nat} (A : AOK x b h p) (H : CS 100 x b h p F R P B) (M : MS x b h p (R0 0) (R0 8) (F0 9)) (n kv pv hv ad : Nat) (hn : n = x 11) (h4 : n < 4) (hk : kv ≤ 4) (hp : 1 ≤ pv ∧ pv ≤ 9) (hh : hv ≤ 9) : INV (upd (upd F 111 (nI (n + 1))) 113 0) R J (va_up P 114 (va_up (P 114) n (some ad))) (B ++ [(ad, clsOf (nI kv), nI pv, nI hv)]) (upd F0 9 0) (va_up R0 0 (upd (upd (upd (upd (R0 0) (13 + 3 * n) (nI kv)) (14 + 3 * n) (nI pv)) (15 + 3 * n) (nI hv)) 0 (nI (n + 1)))) J0 := by
  subst hn
  have hm : ∀ z ∈ B, z ∈ B ++ [(ad, clsOf (nI kv), nI pv, nI hv)] := fun z hz => List.mem_append_left _ hz
  have hnew : (ad, clsOf (nI kv), nI pv, nI hv) ∈ B ++ [(ad, clsOf (nI kv), nI pv, nI hv)] := List.mem_append_right _ (List.mem_singleton.mpr rfl)
  obtain ⟨k1, k2⟩ := cls_k kv hk
  have hin : inB (B ++ [(ad, clsOf (nI kv), nI pv, nI hv)]) ad := ⟨_, _, _, hnew, k2⟩
  refine I.cg ⟨va_up (va_up x 11 (x 11 + 1)) 13 0, va_up b (x 11) (fun t => if t = 0 then kv else if t = 1 then pv else hv), h, p, ?_, ?_, ?_⟩ (fun j hj => by rw [upd_ne (by omega), upd_ne (by omega)]) (fun j hj => rfl) (vu_ne (by decide)) hm (fun j hj => upd_ne (by omega)) (fun j hj => vu_ne (by omega))
  · obtain ⟨a1, a2, a3, a4, a5, a6, a7⟩ := A
    refine ⟨?_, ?_, ?_, ?_, ?_, a6, fun i k hi => absurd hi (Nat.not_lt_zero i)⟩
    · simp only [va_up]; simp; omega
    · intro k hk
      have hk : k < x 11 + 1 := hk
      by_cases e : k = x 11
      · subst e; rw [vu_eq]; simp; omega
      · rw [vu_ne e]; exact a2 k (by omega)
    · simp only [va_up]; simp; exact a3
    · intro i hi; exact absurd hi (Nat.not_lt_zero i)
    · intro i j _ hj; exact absurd hj (Nat.not_lt_zero j)
  · obtain ⟨c1, c2, c3, c4, c5⟩ := H
    have ep : va_up P 114 (va_up (P 114) (x 11) (some ad)) (100 + 14) = va_up (P 114) (x 11) (some ad) := vu_eq
    refine ⟨fun k hk => ?_, fun k hk => ?_, fun k a hk e => ?_, fun k hk => ?_, fun i j hi => absurd hi (Nat.not_lt_zero i)⟩
    · by_cases e : k = 13
      · subst e; rw [vu_eq]; exact upd_eq
      · rw [vu_ne e, upd_ne (by omega)]
        by_cases e2 : k = 11
        · subst e2; rw [vu_eq]; exact upd_eq
        · rw [vu_ne e2, upd_ne (by omega)]; exact c1 k hk
    · have hk : k < x 11 + 1 := hk
      rw [ep]
      by_cases e : k = x 11
      · subst e
        refine ⟨ad, _, _, _, vu_eq, hnew, k2, ?_, ?_, ?_⟩
        · rw [vu_eq]; exact k1
        · rw [vu_eq]; rfl
        · rw [vu_eq]; rfl
      · obtain ⟨a, c, pp, qq, e1, e2, e3, e4, e5, e6⟩ := c2 k (by omega)
        refine ⟨a, c, pp, qq, by rw [vu_ne e]; exact e1, hm _ e2, e3, ?_⟩
        rw [vu_ne e]; exact ⟨e4, e5, e6⟩
    · rw [ep] at e
      by_cases e2 : k = x 11
      · subst e2
        rw [vu_eq] at e
        cases e
        exact hin
      · rw [vu_ne e2] at e
        exact (c3 k a hk e).mono hm
    · exact c4 k (by simpa [va_up] using hk)
  · obtain ⟨⟨m1, m1a, m1b, m1c⟩, m2, m3, m4, m5⟩ := M
    have x11 : va_up (va_up x 11 (x 11 + 1)) 13 0 11 = x 11 + 1 := rfl
    have x12 : va_up (va_up x 11 (x 11 + 1)) 13 0 12 = x 12 := rfl
    have x7 : va_up (va_up x 11 (x 11 + 1)) 13 0 7 = x 7 := rfl
    rw [vu_eq, vu_ne (by decide), upd_eq]
    refine ⟨⟨fun j hj hj7 => ?_, ?_, ?_, ?_⟩, fun j hj => ?_, fun j hj => ?_, rfl, fun i hi => absurd hi (Nat.not_lt_zero i)⟩
    · rw [upd_ne (by omega), upd_ne (by omega), upd_ne (by omega), upd_ne (by omega), vu_ne (by omega), vu_ne (by omega)]; exact m1 j hj hj7
    · rw [upd_eq, x11]
    · rw [upd_ne (by omega), upd_ne (by omega), upd_ne (by omega), upd_ne (by omega), x12]; exact m1b
    · rw [upd_ne (by omega), upd_ne (by omega), upd_ne (by omega), upd_ne (by omega), x12, x7]; exact m1c
    · rw [x11] at hj
      by_cases e : j = x 11
      · subst e
        rw [vu_eq]
        refine ⟨?_, ?_, ?_⟩
        · rw [upd_ne (by omega), upd_ne (by omega), upd_ne (by omega), upd_eq]; rfl
        · rw [upd_ne (by omega), upd_ne (by omega), upd_eq]; rfl
        · rw [upd_ne (by omega), upd_eq]; rfl
      · rw [vu_ne e]
        refine ⟨?_, ?_, ?_⟩
        · rw [upd_ne (by omega), upd_ne (by omega), upd_ne (by omega), upd_ne (by omega)]; exact (m2 j (by omega)).1
        · rw [upd_ne (by omega), upd_ne (by omega), upd_ne (by omega), upd_ne (by omega)]; exact (m2 j (by omega)).2.1
        · rw [upd_ne (by omega), upd_ne (by omega), upd_ne (by omega), upd_ne (by omega)]; exact (m2 j (by omega)).2.2
    · rw [x12] at hj
      rw [upd_ne (by omega), upd_ne (by omega), upd_ne (by omega), upd_ne (by omega), upd_ne (by omega), upd_ne (by omega), upd_ne (by omega), upd_ne (by omega)]
      exact m3 j hj
theorem T_builder (F : FT) (R : RT) (J : JT) (P : PT) (B : BT) (F0 : FT) (R0 : RT) (J0 : JT) (a1 a2 a3 : Int32) (I : INV F R J P B F0 R0 J0) : qW_builder F R J P B a1 a2 a3 (fun r F R J P B => qM_builder F0 R0 J0 a1 a2 a3 (fun r0 F0 R0 J0 => r = r0 ∧ INV F R J P B F0 R0 J0)) := by
  obtain ⟨x, b, h, p, A, H, M⟩ := id I.1
  have a1' := A.1
  have e11 : F 111 = nI (x 11) := H.n 11 (by decide)
  have g0 : R0 0 0 = nI (x 11) := M.1.2.1
  unfold qW_builder
  rcases rg a1 0 4 with hr | ⟨kv, -, h2, rfl⟩
  · exact wi_n hr ⟨fun _ => mi_n hr ⟨fun _ => ⟨rfl, I⟩, fun c => absurd rfl c⟩, fun c => absurd rfl c⟩
  have tk : (nI kv).toInt = kv := t_n (by omega)
  have w1 : ((0 : Int32)).toInt ≤ (nI kv).toInt := by rw [tk]; exact Int.ofNat_le.mpr (Nat.zero_le _)
  have w2 : (nI kv).toInt ≤ ((4 : Int32)).toInt := by rw [tk]; exact Int.ofNat_le.mpr h2
  refine wi_y w1 w2 ⟨fun c => absurd c (by decide), fun _ => ?_⟩
  rcases rg a2 1 9 with hr | ⟨pv, p1, p2, rfl⟩
  · exact wi_n hr ⟨fun _ => mi_y w1 w2 ⟨fun c => absurd c (by decide), fun _ => mi_n hr ⟨fun _ => ⟨rfl, I⟩, fun c => absurd rfl c⟩⟩, fun c => absurd rfl c⟩
  have tp : (nI pv).toInt = pv := t_n (by omega)
  have v1 : ((1 : Int32)).toInt ≤ (nI pv).toInt := by rw [tp]; exact Int.ofNat_le.mpr p1
  have v2 : (nI pv).toInt ≤ ((9 : Int32)).toInt := by rw [tp]; exact Int.ofNat_le.mpr p2
  refine wi_y v1 v2 ⟨fun c => absurd c (by decide), fun _ => ?_⟩
  rcases rg a3 0 9 with hr | ⟨hv, -, q2, rfl⟩
  · exact wi_n hr ⟨fun c => absurd rfl c, fun _ => mi_y w1 w2 ⟨fun c => absurd c (by decide), fun _ => mi_y v1 v2 ⟨fun c => absurd c (by decide), fun _ => mi_n hr ⟨fun c => absurd rfl c, fun _ => ⟨rfl, I⟩⟩⟩⟩⟩
  have th : (nI hv).toInt = hv := t_n (by omega)
  have u1 : ((0 : Int32)).toInt ≤ (nI hv).toInt := by rw [th]; exact Int.ofNat_le.mpr (Nat.zero_le _)
  have u2 : (nI hv).toInt ≤ ((9 : Int32)).toInt := by rw [th]; exact Int.ofNat_le.mpr q2
  refine wi_y u1 u2 ⟨fun _ => ⟨fun c => ?_, fun c => ?_⟩, fun c => absurd c (by decide)⟩
  · rw [e11] at c
    have c : x 11 < 4 := (n_lt (a := x 11) (b := 4) (by omega) (by omega)).mp c
    refine ⟨fun d => ?_, fun _ ad => ⟨by rw [e11]; exact vp_in_nI c (by omega), ⟨_, _, _, List.mem_append_right _ (List.mem_singleton.mpr rfl), (cls_k kv h2).2⟩, ?_⟩⟩
    · rw [e11] at d
      have := (n_le (a := 4) (b := x 11) (by omega) (by omega)).mp d
      omega
    refine mi_y w1 w2 ⟨fun c => absurd c (by decide), fun _ => mi_y v1 v2 ⟨fun c => absurd c (by decide), fun _ => mi_y u1 u2 ⟨fun _ => ⟨fun _ => ?_, fun d => ?_⟩, fun c => absurd c (by decide)⟩⟩⟩
    · have i13 : (13 : Int32) + (3 : Int32) * R0 0 0 = nI (13 + 3 * x 11) := by rw [g0]; exact (congrArg (fun z => nI 13 + z) (pk_mul 3 (x 11))).trans (nI_add 13 (3 * x 11))
      have i14 : nI (13 + 3 * x 11) + 1 = nI (14 + 3 * x 11) := (nI_1 _).trans (congrArg nI (by omega))
      have i15 : nI (13 + 3 * x 11) + 2 = nI (15 + 3 * x 11) := (nI_add (13 + 3 * x 11) 2).trans (congrArg nI (by omega))
      rw [i13, i14, i15, nI_clamp (n := 13 + 3 * x 11) (by omega), nI_clamp (n := 14 + 3 * x 11) (by omega), nI_clamp (n := 15 + 3 * x 11) (by omega)]
      refine ⟨vp_in_nI (by omega) (by omega), vp_in_nI (by omega) (by omega), vp_in_nI (by omega) (by omega), ?_⟩
      have eu : upd (upd (upd (R0 0) (13 + 3 * x 11) (nI kv)) (14 + 3 * x 11) (nI pv)) (15 + 3 * x 11) (nI hv) 0 = nI (x 11) := by rw [upd_ne (by omega), upd_ne (by omega), upd_ne (by omega)]; exact g0
      have er : ∀ (a b c d : Nat → Int32), va_up (va_up (va_up (va_up R0 0 a) 0 b) 0 c) 0 d = va_up R0 0 d := fun a b c d => by funext j; simp only [va_up]; split <;> rfl
      rw [e11, nI_clamp (n := x 11) (by omega), nI_1, upd_eq, eu, nI_1, upd_eq, er]
      exact ⟨rfl, I.bld A H M (x 11) kv pv hv ad rfl c h2 ⟨p1, p2⟩ q2⟩
    · rw [g0] at d
      have := (n_eq (a := x 11) (b := 4) (by omega) (by omega)).mp d
      omega
  · rw [e11] at c
    have c : ¬ x 11 < 4 := fun d => c ((n_lt (a := x 11) (b := 4) (by omega) (by omega)).mpr d)
    refine mi_y w1 w2 ⟨fun c => absurd c (by decide), fun _ => mi_y v1 v2 ⟨fun c => absurd c (by decide), fun _ => mi_y u1 u2 ⟨fun _ => ⟨fun d => absurd ?_ d, fun _ => ⟨rfl, I⟩⟩, fun c => absurd c (by decide)⟩⟩⟩
    rw [g0]
    exact congrArg nI (show x 11 = 4 by omega)
theorem ch_n {c : Nat} (hc : c < 65536) : ((nI c).toUInt32 % 65536).toInt32 = nI c := by rw [pk_char, pk_tn (by omega), Nat.mod_eq_of_lt hc]
theorem nar_n {c : Nat} (hc : c < 65536) : vp_nar .char (nI c) = nI c := by unfold vp_nar; rw [(pk_charN hc).1]
theorem S1.cg {F F' : FT} {R R' : RT} {P P' : PT} {B B' : BT} {F0 F0' : FT} {R0 R0' : RT} (H : S1 F R P B F0 R0) (hF : ∀ k, 100 ≤ k → k < 114 → F' k = F k) (hR : ∀ k, 115 ≤ k → k ≤ 117 → R' k = R k) (hP : P' 114 = P 114) (hB : ∀ z ∈ B, z ∈ B') (hF0 : F0' 9 = F0 9) (hR0 : R0' 0 = R0 0 ∧ R0' 8 = R0 8) : S1 F' R' P' B' F0' R0' := by
  obtain ⟨x, b, h, p, A, C, M⟩ := H
  refine ⟨x, b, h, p, A, C.cg (fun k hk => hF _ (by omega) (by omega)) (fun k h1 h2 => hR _ (by omega) (by omega)) hP hB, ?_⟩
  rw [hF0, hR0.1, hR0.2]; exact M
theorem T_type (F : FT) (R : RT) (J : JT) (P : PT) (B : BT) (F0 : FT) (R0 : RT) (J0 : JT) (a1 : Int32) (I : INV F R J P B F0 R0 J0) : qW_type F R J P B a1 (fun r F R J P B => qM_type F0 R0 J0 a1 (fun r0 F0 R0 J0 => r = r0 ∧ INV F R J P B F0 R0 J0)) := by
  obtain ⟨s1, im, ⟨nt, n60, t1, t2, t3⟩, sh, fa⟩ := id I
  unfold qW_type
  rcases rg a1 32 126 with hr | ⟨c, h1, h2, rfl⟩
  · exact wi_n hr ⟨fun c => absurd rfl c, fun _ => mi_n hr ⟨fun c => absurd rfl c, fun _ => ⟨rfl, I⟩⟩⟩
  have tk : (nI c).toInt = c := t_n (by omega)
  have w1 : ((32 : Int32)).toInt ≤ (nI c).toInt := by rw [tk]; exact Int.ofNat_le.mpr h1
  have w2 : (nI c).toInt ≤ ((126 : Int32)).toInt := by rw [tk]; exact Int.ofNat_le.mpr h2
  refine wi_y w1 w2 ⟨fun _ => ⟨fun d => ?_, fun d => ?_⟩, fun c => absurd c (by decide)⟩
  · rw [t1] at d
    have d : nt < 60 := (n_lt (a := nt) (b := 60) (by omega) (by omega)).mp d
    refine ⟨fun q => ?_, fun _ => ⟨by rw [t1]; exact vp_in_nI d (by omega), mi_y w1 w2 ⟨fun _ => ⟨fun _ => ⟨by rw [t2]; exact vp_in_nI d (by omega), ?_⟩, fun q => ?_⟩, fun c => absurd c (by decide)⟩⟩⟩
    · rw [t1] at q
      have := (n_le (a := 60) (b := nt) (by omega) (by omega)).mp q
      omega
    · rw [t1, t2, nI_clamp (n := nt) (by omega), ch_n (by omega), nar_n (by omega), nI_1, upd_eq]
      refine ⟨rfl, s1.cg (fun k a b => upd_ne (by omega)) (fun k a b => vu_ne (by omega)) rfl (fun z hz => hz) (upd_ne (by decide)) ⟨vu_ne (by decide), vu_ne (by decide)⟩, im.cg (upd_ne (by decide)) (fun k hk => upd_ne (by omega)) (fun k a b => vu_ne (by omega)) rfl (fun z hz => hz) ⟨upd_ne (by decide), upd_ne (by decide)⟩ (vu_ne (by decide)), ⟨nt + 1, by omega, upd_eq, upd_eq, fun k hk => ?_⟩, sh.cg (fun k hk => upd_ne (by omega)) rfl ⟨vu_ne (by decide), vu_ne (by decide)⟩ rfl, by rw [upd_ne (by decide)]; exact fa⟩
      rw [vu_eq, vu_eq]
      by_cases e : k = nt
      · subst e; exact ⟨c, h1, h2, upd_eq, upd_eq⟩
      · rw [upd_ne e, upd_ne e]; exact t3 k (by omega)
    · rw [t2] at q
      have := (n_eq (a := nt) (b := 60) (by omega) (by omega)).mp q
      omega
  · rw [t1] at d
    have d : ¬ nt < 60 := fun q => d ((n_lt (a := nt) (b := 60) (by omega) (by omega)).mpr q)
    refine mi_y w1 w2 ⟨fun _ => ⟨fun q => absurd ?_ q, fun _ => ⟨rfl, I⟩⟩, fun c => absurd c (by decide)⟩
    rw [t2]
    exact congrArg nI (show nt = 60 by omega)
