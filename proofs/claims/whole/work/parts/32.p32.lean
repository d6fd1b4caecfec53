/-! ===== the pure part: of, soonest ===== -/
theorem T_of (F : FT) (R : RT) (J : JT) (P : PT) (B : BT) (F0 : FT) (R0 : RT) (J0 : JT) (a1 a2 : Int32) (I : INV F R J P B F0 R0 J0) : qW_of F R J P B a1 a2 (fun r F R J P B => qM_of F0 R0 J0 a1 a2 (fun r0 F0 R0 J0 => r = r0 ∧ INV F R J P B F0 R0 J0)) := by
  obtain ⟨x, b, h, p, A, H, M⟩ := id I.1
  have hfa : F0 1 = -1 := I.2.2.2.2
  have ax := A.1
  have e11 : F 111 = nI (x 11) := H.n 11 (by decide)
  have e5 : F 105 = nI (x 5) := H.n 5 (by decide)
  have g0 : R0 0 0 = nI (x 11) := M.1.2.1
  have g7 : R0 0 7 = nI (x 5) := M.1.1 5 (by decide) (by decide)
  unfold qW_of
  rcases rgc a1 (x 11) (by omega) with hr | ⟨k, hk, rfl⟩
  · exact wic_n e11 hr ⟨fun c => absurd rfl c, fun _ => ib_n g0 hr ⟨fun _ => ⟨rfl, I⟩, fun c => absurd rfl c⟩⟩
  obtain ⟨ad, c, pp, hh, p1, p2, p3, p4, p5, p6⟩ := H.2.1 k hk
  obtain ⟨g1, g2, g3⟩ := M.2.1 k hk
  have ab := A.2.1 k hk
  have nf : nI k = F0 1 ↔ k = 99 := by rw [hfa]; exact no_f k (by omega)
  have nk : ¬ k = 99 := by omega
  have i13 : (13 : Int32) + (3 : Int32) * nI k = nI (13 + 3 * k) := (congrArg (fun z => nI 13 + z) (pk_mul 3 k)).trans (nI_add 13 (3 * k))
  have i0 : (13 : Int32) + (3 : Int32) * nI k + 0 = nI (13 + 3 * k) := by rw [i13]; exact nI_add _ 0
  have i1 : (13 : Int32) + (3 : Int32) * nI k + 1 = nI (14 + 3 * k) := by rw [i13]; exact (nI_add _ 1).trans (congrArg nI (by omega))
  have i2 : (13 : Int32) + (3 : Int32) * nI k + 2 = nI (15 + 3 * k) := by rw [i13]; exact (nI_add _ 2).trans (congrArg nI (by omega))
  have cl := fun w (hw : w ≤ 2) => C_lays (w := w) (laid := x 5) (more := 0) p3 p4 ab.1 ab.2.2.1 ab.2.2.2 (by omega) (by omega) hw
  have ml : ∀ w, w ≤ 2 → ∀ Q : Int32 → FT → RT → JT → Prop, Q (laysV c pp hh (nI w) (nI (x 5)) 0) F0 R0 J0 → qM_laysOf F0 R0 J0 (nI k) (nI w) (nI (x 5)) Q := by
    intro w hw Q q
    refine M_lays A M (fa := 99) (mo := 0) hk hw (by omega) (by omega) nf (fun e => absurd e nk) ?_
    have := (cl w hw).2
    rw [p5, p6, show (0 : Int32) = nI 0 from rfl, this] at q
    unfold lyN
    rw [if_neg nk]; exact q
  have mh : ∀ Q : Int32 → FT → RT → JT → Prop, Q (haulsV c pp hh (nI (x 5)) 0) F0 R0 J0 → qM_haulsOf F0 R0 J0 (nI k) (nI (x 5)) Q := by
    intro Q q
    refine M_hauls A M (fa := 99) (mo := 0) hk (by omega) (by omega) nf (fun e => absurd e nk) ?_
    have := (cl 0 (by omega)).1
    rw [p5, p6, show (0 : Int32) = nI 0 from rfl, this] at q
    rw [if_neg nk]; exact q
  refine wic_y (by omega) e11 hk ⟨fun _ => ⟨vp_in_nI (by omega) (by omega), ad, by rw [nI_clamp (by omega)]; exact p1, ?_⟩, fun c => absurd c (by decide)⟩
  rw [e5]
  refine ⟨fun e => ?_, fun e => ?_, fun e => ?_, fun e => ?_, fun e => ?_, fun e => ?_, fun e => ?_, fun e0 e1 e2 e3 e4 e5 e6 => ?_⟩
  · subst e
    refine ⟨c, pp, hh, p2, p3, ib_y (by omega) g0 hk ⟨fun c => absurd c (by decide), fun _ => mi_y (by decide) (by decide) ⟨fun _ => ⟨fun c => absurd c (by decide), fun _ => ?_⟩, fun c => absurd c (by decide)⟩⟩⟩
    rw [i0, nI_clamp (by omega)]
    exact ⟨vp_in_nI (by omega) (by omega), p4.trans g1.symm, I⟩
  · subst e
    refine ⟨c, pp, hh, p2, p3, ib_y (by omega) g0 hk ⟨fun c => absurd c (by decide), fun _ => mi_y (by decide) (by decide) ⟨fun _ => ⟨fun c => absurd c (by decide), fun _ => ?_⟩, fun c => absurd c (by decide)⟩⟩⟩
    rw [i1, nI_clamp (by omega)]
    exact ⟨vp_in_nI (by omega) (by omega), p5.trans g2.symm, I⟩
  · subst e
    refine ⟨c, pp, hh, p2, p3, ib_y (by omega) g0 hk ⟨fun c => absurd c (by decide), fun _ => mi_y (by decide) (by decide) ⟨fun _ => ⟨fun c => absurd c (by decide), fun _ => ?_⟩, fun c => absurd c (by decide)⟩⟩⟩
    rw [i2, nI_clamp (by omega)]
    exact ⟨vp_in_nI (by omega) (by omega), p6.trans g3.symm, I⟩
  · subst e
    refine ⟨c, pp, hh, p2, p3, ib_y (by omega) g0 hk ⟨fun c => absurd c (by decide), fun _ => mi_y (by decide) (by decide) ⟨fun _ => ⟨fun _ => ⟨fun c => absurd rfl c, fun _ => ?_⟩, fun c => absurd (by decide) c⟩, fun c => absurd c (by decide)⟩⟩⟩
    rw [g7]
    exact mh _ ⟨rfl, I⟩
  · subst e
    refine ⟨c, pp, hh, p2, p3, ib_y (by omega) g0 hk ⟨fun c => absurd c (by decide), fun _ => mi_y (by decide) (by decide) ⟨fun _ => ⟨fun _ => ⟨fun _ => ?_, fun c => absurd c (by decide)⟩, fun c => absurd (by decide) c⟩, fun c => absurd c (by decide)⟩⟩⟩
    rw [g7]
    exact ml 0 (by omega) _ ⟨rfl, I⟩
  · subst e
    refine ⟨c, pp, hh, p2, p3, ib_y (by omega) g0 hk ⟨fun c => absurd c (by decide), fun _ => mi_y (by decide) (by decide) ⟨fun _ => ⟨fun _ => ⟨fun _ => ?_, fun c => absurd c (by decide)⟩, fun c => absurd (by decide) c⟩, fun c => absurd c (by decide)⟩⟩⟩
    rw [g7]
    exact ml 1 (by omega) _ ⟨rfl, I⟩
  · subst e
    refine ⟨c, pp, hh, p2, p3, ib_y (by omega) g0 hk ⟨fun c => absurd c (by decide), fun _ => mi_y (by decide) (by decide) ⟨fun _ => ⟨fun _ => ⟨fun _ => ?_, fun c => absurd c (by decide)⟩, fun c => absurd (by decide) c⟩, fun c => absurd c (by decide)⟩⟩⟩
    rw [g7]
    exact ml 2 (by omega) _ ⟨rfl, I⟩
  · refine ib_y (by omega) g0 hk ⟨fun c => absurd c (by decide), fun _ => ?_⟩
    rcases rg a2 0 6 with hr | ⟨w, -, h2, rfl⟩
    · exact mi_n hr ⟨fun c => absurd rfl c, fun _ => ⟨rfl, I⟩⟩
    · exfalso
      rcases (show w = 0 ∨ w = 1 ∨ w = 2 ∨ w = 3 ∨ w = 4 ∨ w = 5 ∨ w = 6 by omega) with rfl | rfl | rfl | rfl | rfl | rfl | rfl
      · exact e0 rfl
      · exact e1 rfl
      · exact e2 rfl
      · exact e3 rfl
      · exact e4 rfl
      · exact e5 rfl
      · exact e6 rfl
/-- what stands behind a day, nobody faster -/
def bh0 (x : Nat → Nat) (b : Nat → Nat → Nat) (w l co : Nat) : Nat := bhN (x 0) (su0 b (x 11) w l) l co
def soN (x : Nat → Nat) (b h : Nat → Nat → Nat) (w : Nat) : Nat → Nat → Nat → Int32
  | 0, _, _ => -4
  | m + 1, k, l => if l < x 0 then soN x b h w m (k + 1) (bh0 x b w l (if k = 0 then cst h (x 12) (x 7) else 0)) else nI k
theorem C_so {x : Nat → Nat} {b h p : Nat → Nat → Nat} {F : FT} {R : RT} {J : JT} {P : PT} {B : BT} (A : AOK x b h p) (H : CS 100 x b h p F R P B) {w : Nat} (hw : w ≤ 2) {K : Int32 → FT → RT → JT → PT → BT → Prop} : ∀ m k l, k + m = 100 → l ≤ x 0 → K (soN x b h w m k l) F R J P B → ∃ n, qW_soonest_21 n F R J P B (nI w) (nI l) (nI k) K := by
  have a1 := A.1
  have ac := Acst A (x 7)
  have e0 : F 100 = nI (x 0) := H.n 0 (by decide)
  intro m
  induction m with
  | zero =>
    intro k l hk hl hK
    refine ⟨1, ?_⟩
    unfold qW_soonest_21
    exact pk_lt 99 k (fun _ => hK) (fun c => by omega)
  | succ m ih =>
    intro k l hk hl hK
    unfold soN at hK
    by_cases hs : l < x 0
    · rw [if_pos hs] at hK
      have hb : bh0 x b w l (if k = 0 then cst h (x 12) (x 7) else 0) ≤ x 0 := (bhN_ge hl).2
      obtain ⟨n, hn⟩ := ih (k + 1) _ (by omega) hb hK
      refine ⟨n + 1, ?_⟩
      unfold qW_soonest_21
      refine pk_lt 99 k (fun c => by omega) (fun _ => pk_lt l (x 0) (fun _ => ?_) (fun c => by omega) rfl e0)
      refine ⟨fun c => ?_, fun c => C_costToday A H ?_⟩
      · have k0 : ¬ k = 0 := fun e => c (by rw [e]; rfl)
        rw [if_neg k0] at hn
        unfold qW_soonest_61
        refine C_behind A H (co := 0) hw hl (by omega) ?_
        rw [nI_1]; exact hn
      · have k0 : k = 0 := (n_eq (b := 0) (by omega) (by omega)).mp c
        rw [if_pos k0] at hn
        unfold qW_soonest_61
        refine C_behind A H hw hl (by omega) ?_
        rw [nI_1]; exact hn
    · rw [if_neg hs] at hK
      refine ⟨1, ?_⟩
      unfold qW_soonest_21
      exact pk_lt 99 k (fun c => by omega) (fun _ => pk_lt l (x 0) (fun c => absurd c hs) (fun _ => hK) rfl e0)
theorem M_so {x : Nat → Nat} {b h p : Nat → Nat → Nat} {F : FT} {R : RT} {J : JT} {u : Nat → Int32} {nu : Int32} (A : AOK x b h p) (M : MS x b h p (R 0) u nu) (hf : F 1 = -1) {w : Nat} (hw : w ≤ 2) {K : Int32 → FT → RT → JT → Prop} : ∀ m k l, k + m = 100 → l ≤ x 0 → K (soN x b h w m k l) F R J → ∃ n, qM_soonest_19 n F R J (nI w) (nI l) (nI k) K := by
  have a1 := A.1
  have ac := Acst A (x 7)
  have g2 : R 0 2 = nI (x 0) := M.1.1 0 (by decide) (by decide)
  have g9 : R 0 9 = nI (cst h (x 12) (x 7)) := M.1.2.2.2
  intro m
  induction m with
  | zero =>
    intro k l hk hl hK
    refine ⟨1, ?_⟩
    unfold qM_soonest_19
    exact pk_le 100 k (fun _ => hK) (fun c => by omega)
  | succ m ih =>
    intro k l hk hl hK
    unfold soN at hK
    by_cases hs : l < x 0
    · rw [if_pos hs] at hK
      have hb : bh0 x b w l (if k = 0 then cst h (x 12) (x 7) else 0) ≤ x 0 := (bhN_ge hl).2
      obtain ⟨n, hn⟩ := ih (k + 1) _ (by omega) hb hK
      refine ⟨n + 1, ?_⟩
      unfold qM_soonest_19
      refine pk_le 100 k (fun c => by omega) (fun _ => And.symm (pk_eq l (x 0) (fun c => by omega) (fun _ => ?_) rfl g2))
      refine ⟨fun c => ?_, fun c => ?_⟩
      · have k0 : ¬ k = 0 := fun e => c (by rw [e]; rfl)
        rw [if_neg k0] at hn
        unfold qM_soonest_55
        refine M_behind0 A M (co := 0) hw hl (by omega) hf ?_
        rw [nI_1]; exact hn
      · have k0 : k = 0 := (n_eq (b := 0) (by omega) (by omega)).mp c
        rw [if_pos k0] at hn
        unfold qM_soonest_55
        rw [g9]
        refine M_behind0 A M hw hl (by omega) hf ?_
        rw [nI_1]; exact hn
    · rw [if_neg hs] at hK
      refine ⟨1, ?_⟩
      unfold qM_soonest_19
      exact pk_le 100 k (fun c => by omega) (fun _ => And.symm (pk_eq l (x 0) (fun _ => hK) (fun c => by omega) rfl g2))
theorem T_soonest (F : FT) (R : RT) (J : JT) (P : PT) (B : BT) (F0 : FT) (R0 : RT) (J0 : JT) (a1 : Int32) (I : INV F R J P B F0 R0 J0) : qW_soonest F R J P B a1 (fun r F R J P B => qM_soonest F0 R0 J0 a1 (fun r0 F0 R0 J0 => r = r0 ∧ INV F R J P B F0 R0 J0)) := by
  obtain ⟨x, b, h, p, A, H, M⟩ := id I.1
  have hfa : F0 1 = -1 := I.2.2.2.2
  have ax := A.1
  unfold qW_soonest
  rcases rg a1 0 2 with hr | ⟨w, -, h2, rfl⟩
  · exact wi_n hr ⟨fun c => absurd rfl c, fun _ => wx_n hr ⟨fun c => absurd rfl c, fun _ => ⟨rfl, I⟩⟩⟩
  have tk : (nI w).toInt = w := t_n (by omega)
  have w1 : ((0 : Int32)).toInt ≤ (nI w).toInt := by rw [tk]; exact Int.ofNat_le.mpr (Nat.zero_le _)
  have w2 : (nI w).toInt ≤ ((2 : Int32)).toInt := by rw [tk]; exact Int.ofNat_le.mpr h2
  refine wi_y w1 w2 ⟨fun _ => ?_, fun c => absurd c (by decide)⟩
  rw [show F 105 = nI (x 5) from H.n 5 (by decide)]
  refine C_so A H h2 100 0 (x 5) rfl (by omega) (wx_y h2 ⟨fun _ => ?_, fun c => absurd c (by decide)⟩)
  rw [show R0 0 7 = nI (x 5) from M.1.1 5 (by decide) (by decide)]
  exact M_so A M hfa h2 100 0 (x 5) rfl (by omega) ⟨rfl, I⟩
