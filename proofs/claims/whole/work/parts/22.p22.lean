/-! ===== the pure part: numbers ===== -/
theorem t_lt {x y : Int32} : x < y ↔ x.toInt < y.toInt := Int32.lt_iff_toInt_lt
theorem t_le {x y : Int32} : x ≤ y ↔ x.toInt ≤ y.toInt := Int32.le_iff_toInt_le
theorem t_eq {x y : Int32} : x = y ↔ x.toInt = y.toInt := Int32.toInt_inj.symm
theorem t_n {n : Nat} (h : n < 2 ^ 31) : (nI n).toInt = (n : Int) := nI_toInt h
theorem t_64 (x : Int32) : x.toInt64.toInt = x.toInt := Int32.toInt_toInt64 x
/-- a number of the script: out of the range, or a number of it -/
theorem rg (x : Int32) (lo hi : Nat) : (x.toInt < lo ∨ (hi : Int) < x.toInt) ∨ ∃ j : Nat, lo ≤ j ∧ j ≤ hi ∧ x = nI j := by
  by_cases h : x.toInt < lo ∨ (hi : Int) < x.toInt
  · exact Or.inl h
  · right
    have h0 : 0 ≤ x.toInt := by omega
    obtain ⟨j, hj, e⟩ := nI_of (x := x) (fun c => by rw [t_lt] at c; have : (0 : Int32).toInt = 0 := rfl; omega)
    refine ⟨j, ?_, ?_, e⟩
    · rw [e, t_n hj] at h; omega
    · rw [e, t_n hj] at h; omega
section PW
variable {F : FT} {R : RT} {J : JT} {P : PT} {B : BT} {K : Int32 → FT → RT → JT → PT → BT → Prop} {x lo hi : Int32}
theorem wi_n (h : x.toInt < lo.toInt ∨ hi.toInt < x.toInt) (k : K 0 F R J P B) : qW_within F R J P B x lo hi K := by
  refine ⟨fun _ => k, fun h1 => ⟨fun _ => k, fun h2 => ?_⟩⟩
  rw [t_lt] at h1 h2; omega
theorem wi_y (h1 : lo.toInt ≤ x.toInt) (h2 : x.toInt ≤ hi.toInt) (k : K 1 F R J P B) : qW_within F R J P B x lo hi K := by
  refine ⟨fun h => ?_, fun _ => ⟨fun h => ?_, fun _ => k⟩⟩
  · rw [t_lt] at h; omega
  · rw [t_lt] at h; omega
end PW
section PM
variable {F : FT} {R : RT} {J : JT} {K : Int32 → FT → RT → JT → Prop} {x : Int32} {lo hi : Int64}
theorem lg_lt {x y : Int64} : lg_cmp x y < 0 ↔ x.toInt < y.toInt := by
  rw [← Int64.lt_iff_toInt_lt]
  unfold lg_cmp
  by_cases h1 : y < x
  · simp only [h1, if_true]
    constructor
    · intro h; exact absurd h (by decide)
    · intro h; rw [Int64.lt_iff_toInt_lt] at h h1; omega
  · by_cases h2 : x = y
    · simp [h2, Int64.lt_irrefl]
    · have h3 : x < y := by rw [Int64.lt_iff_toInt_lt] at h1 ⊢; have : x.toInt ≠ y.toInt := fun e => h2 (Int64.toInt_inj.mp e); omega
      simp [h1, h2, h3]
theorem lg_gt {x y : Int64} : 0 < lg_cmp x y ↔ y.toInt < x.toInt := by
  rw [← Int64.lt_iff_toInt_lt]
  unfold lg_cmp
  by_cases h1 : y < x
  · simp [h1]
  · by_cases h2 : x = y
    · simp [h2, Int64.lt_irrefl]
    · simp [h1, h2]
theorem mi_n (h : x.toInt < lo.toInt ∨ hi.toInt < x.toInt) (k : K 0 F R J) : qM_in F R J x.toInt64 lo hi K := by
  refine ⟨fun _ => k, fun h1 => ⟨fun _ => k, fun h2 => ?_⟩⟩
  rw [lg_lt, t_64] at h1
  rw [lg_gt, t_64] at h2
  omega
theorem mi_y (h1 : lo.toInt ≤ x.toInt) (h2 : x.toInt ≤ hi.toInt) (k : K 1 F R J) : qM_in F R J x.toInt64 lo hi K := by
  refine ⟨fun h => ?_, fun _ => ⟨fun h => ?_, fun _ => k⟩⟩
  · rw [lg_lt, t_64] at h; omega
  · rw [lg_gt, t_64] at h; omega
end PM
/-! ===== the abstract site: x numbers (0 stones 1 days 2 frost 3 thaw 4 day 5 laid 6 used 7 usedToday 8 broken 9 sworn 10 draw 11 builders 12 hindrances 13 undos), b builders (kind, pace, horse), h hindrances (cost, oath; 4: none), p past rows (day laid used usedToday broken draw) ===== -/
def oaV (o : Nat) : Int32 := if o = 4 then -4 else nI o
/-- what a set of hindrances costs -/
def cst (h : Nat → Nat → Nat) : Nat → Nat → Nat
  | 0, _ => 0
  | n + 1, s => cst h n s + (if s.testBit n then h n 0 else 0)
def CS (o : Nat) (x : Nat → Nat) (b h p : Nat → Nat → Nat) (F : FT) (R : RT) (P : PT) (B : BT) : Prop :=
  (∀ k, k < 14 → F (o + k) = nI (x k)) ∧
  (∀ k, k < x 11 → ∃ (ad c : Nat) (pp hh : Int32), P (o + 14) k = some ad ∧ (ad, c, pp, hh) ∈ B ∧ bOK c ∧ kindV c = nI (b k 0) ∧ pp = nI (b k 1) ∧ hh = nI (b k 2)) ∧
  (∀ k ad, k < 4 → P (o + 14) k = some ad → inB B ad) ∧
  (∀ k, k < x 12 → R (o + 15) k = nI (h k 0) ∧ R (o + 16) k = oaV (h k 1)) ∧
  (∀ i j, i < x 13 → j < 6 → R (o + 17) (6 * i + j) = nI (p i j))
def MS (x : Nat → Nat) (b h p : Nat → Nat → Nat) (n u : Nat → Int32) (nu : Int32) : Prop :=
  ((∀ k, k ≤ 10 → k ≠ 7 → n (k + 2) = nI (x k)) ∧ n 0 = nI (x 11) ∧ n 1 = nI (x 12) ∧ n 9 = nI (cst h (x 12) (x 7))) ∧
  (∀ k, k < x 11 → n (13 + 3 * k) = nI (b k 0) ∧ n (14 + 3 * k) = nI (b k 1) ∧ n (15 + 3 * k) = nI (b k 2)) ∧
  (∀ k, k < x 12 → n (25 + 2 * k) = nI (h k 0) ∧ n (26 + 2 * k) = oaV (h k 1)) ∧
  nu = nI (x 13) ∧
  (∀ i, i < x 13 → u (6 * i) = nI (p i 0) ∧ u (6 * i + 1) = nI (p i 1) ∧ u (6 * i + 2) = nI (p i 2) ∧ u (6 * i + 3) = nI (cst h (x 12) (p i 3)) ∧ u (6 * i + 4) = nI (p i 4) ∧ u (6 * i + 5) = nI (p i 5))
def AOK (x : Nat → Nat) (b h p : Nat → Nat → Nat) : Prop :=
  (1 ≤ x 0 ∧ x 0 ≤ 200 ∧ 1 ≤ x 1 ∧ x 1 ≤ 40 ∧ x 2 + x 3 ≤ 10 ∧ x 4 ≤ x 1 ∧ x 5 ≤ x 0 ∧ x 6 < 64 ∧ x 7 < 2 ^ x 12 ∧ x 8 < 16 ∧ x 9 < 16 ∧ x 10 < 2 ^ 31 ∧ x 11 ≤ 4 ∧ x 12 ≤ 6 ∧ x 13 ≤ 8) ∧
  (∀ k, k < x 11 → b k 0 ≤ 4 ∧ 1 ≤ b k 1 ∧ b k 1 ≤ 9 ∧ b k 2 ≤ 9) ∧
  (∀ k, k < x 12 → 1 ≤ h k 0 ∧ h k 0 ≤ 9 ∧ h k 1 ≤ 4) ∧
  (∀ i, i < x 13 → p i 0 ≤ x 4 ∧ p i 1 ≤ x 5 ∧ p i 2 < 64 ∧ p i 3 < 2 ^ x 12 ∧ p i 4 < 16 ∧ p i 5 < 2 ^ 31) ∧
  (∀ i j, i ≤ j → j < x 13 → p i 0 ≤ p j 0 ∧ p i 1 ≤ p j 1) ∧
  (∀ k, (x 7).testBit k = true → (x 6).testBit k = true) ∧
  (∀ i k, i < x 13 → (p i 3).testBit k = true → (p i 2).testBit k = true)
def S1 (F : FT) (R : RT) (P : PT) (B : BT) (F0 : FT) (R0 : RT) : Prop := ∃ (x : Nat → Nat) (b h p : Nat → Nat → Nat), AOK x b h p ∧ CS 100 x b h p F R P B ∧ MS x b h p (R0 0) (R0 8) (F0 9)
def TR (F : FT) (R : RT) (F0 : FT) (R0 : RT) : Prop := ∃ nt : Nat, nt ≤ 60 ∧ F 306 = nI nt ∧ F0 4 = nI nt ∧ ∀ k, k < nt → ∃ c : Nat, 32 ≤ c ∧ c ≤ 126 ∧ R 300 k = nI c ∧ R0 3 k = nI c
def SHR (F : FT) (J : JT) (R0 : RT) (J0 : JT) : Prop := ∀ j, j < 4 → ∃ ln sz : Nat, ln < 4 ∧ sz ≤ 24 ∧ F (502 + 100 * j) = nI sz ∧ R0 17 j = nI sz ∧ (∀ i, i < 24 → J (503 + 100 * j) i = J0 18 (24 * j + i)) ∧ ((F (500 + 100 * j) = 0 ∧ R0 16 j = -1) ∨ (F (500 + 100 * j) = 1 ∧ F (501 + 100 * j) = nI ln ∧ R0 16 j = nI ln))
def IMG (F : FT) (R : RT) (P : PT) (B : BT) (F0 : FT) (R0 : RT) : Prop := (∀ k ad, k < 4 → P 214 k = some ad → inB B ad) ∧ ((F 5 = 0 ∧ F0 15 = 0) ∨ (F 5 = 1 ∧ F0 15 = 1 ∧ ∃ (x : Nat → Nat) (b h p : Nat → Nat → Nat), AOK x b h p ∧ CS 200 x b h p F R P B ∧ MS x b h p (R0 13) (fun k => R0 13 (37 + k)) (F0 14)))
def INV : INVT := fun F R J P B F0 R0 J0 => S1 F R P B F0 R0 ∧ IMG F R P B F0 R0 ∧ TR F R F0 R0 ∧ SHR F J R0 J0 ∧ F0 1 = -1
theorem inB.mono {B B' : BT} (hB : ∀ z ∈ B, z ∈ B') {b : Nat} (h : inB B b) : inB B' b := by
  obtain ⟨c, p, q, hm, ho⟩ := h
  exact ⟨c, p, q, hB _ hm, ho⟩
/-- a site is seen in its own cells alone -/
theorem CS.cg {o : Nat} {x : Nat → Nat} {b h p : Nat → Nat → Nat} {F F' : FT} {R R' : RT} {P P' : PT} {B B' : BT} (H : CS o x b h p F R P B) (hF : ∀ k, k < 14 → F' (o + k) = F (o + k)) (hR : ∀ k, 15 ≤ k → k ≤ 17 → R' (o + k) = R (o + k)) (hP : P' (o + 14) = P (o + 14)) (hB : ∀ z ∈ B, z ∈ B') : CS o x b h p F' R' P' B' := by
  obtain ⟨h1, h2, h3, h4, h5⟩ := H
  refine ⟨fun k hk => (hF k hk).trans (h1 k hk), fun k hk => ?_, fun k ad hk e => (h3 k ad hk (by rw [← hP]; exact e)).mono hB, fun k hk => ?_, fun i j hi hj => ?_⟩
  · obtain ⟨ad, c, pp, hh, e1, e2, e3⟩ := h2 k hk
    exact ⟨ad, c, pp, hh, by rw [hP]; exact e1, hB _ e2, e3⟩
  · rw [hR 15 (by omega) (by omega), hR 16 (by omega) (by omega)]; exact h4 k hk
  · rw [hR 17 (by omega) (by omega)]; exact h5 i j hi hj
theorem IMG.cg {F F' : FT} {R R' : RT} {P P' : PT} {B B' : BT} {F0 F0' : FT} {R0 R0' : RT} (H : IMG F R P B F0 R0) (hF5 : F' 5 = F 5) (hF : ∀ k, k < 14 → F' (200 + k) = F (200 + k)) (hR : ∀ k, 15 ≤ k → k ≤ 17 → R' (200 + k) = R (200 + k)) (hP : P' 214 = P 214) (hB : ∀ z ∈ B, z ∈ B') (hF0 : F0' 15 = F0 15 ∧ F0' 14 = F0 14) (hR0 : R0' 13 = R0 13) : IMG F' R' P' B' F0' R0' := by
  obtain ⟨h1, h2⟩ := H
  refine ⟨fun k ad hk e => (h1 k ad hk (by rw [← hP]; exact e)).mono hB, ?_⟩
  rw [hF5, hF0.1, hF0.2, hR0]
  rcases h2 with h2 | ⟨e1, e2, x, b, h, p, a1, a2, a3⟩
  · exact Or.inl h2
  · exact Or.inr ⟨e1, e2, x, b, h, p, a1, a2.cg hF hR hP hB, a3⟩
theorem TR.cg {F F' : FT} {R R' : RT} {F0 F0' : FT} {R0 R0' : RT} (H : TR F R F0 R0) (hF : F' 306 = F 306) (hR : R' 300 = R 300) (hF0 : F0' 4 = F0 4) (hR0 : R0' 3 = R0 3) : TR F' R' F0' R0' := by
  obtain ⟨nt, h1, h2, h3, h4⟩ := H
  exact ⟨nt, h1, by rw [hF]; exact h2, by rw [hF0]; exact h3, fun k hk => by rw [hR, hR0]; exact h4 k hk⟩
theorem SHR.cg {F F' : FT} {J J' : JT} {R0 R0' : RT} {J0 J0' : JT} (H : SHR F J R0 J0) (hF : ∀ k, 500 ≤ k → F' k = F k) (hJ : J' = J) (hR0 : R0' 16 = R0 16 ∧ R0' 17 = R0 17) (hJ0 : J0' 18 = J0 18) : SHR F' J' R0' J0' := by
  intro j hj
  obtain ⟨ln, sz, h⟩ := H j hj
  refine ⟨ln, sz, ?_⟩
  rw [hF (502 + 100 * j) (by omega), hF (501 + 100 * j) (by omega), hF (500 + 100 * j) (by omega), hJ, hR0.1, hR0.2, hJ0]
  exact h
/-- all but the site of now: what of the state it is seen in -/
theorem INV.cg {F F' : FT} {R R' : RT} {J : JT} {P P' : PT} {B B' : BT} {F0 F0' : FT} {R0 R0' : RT} {J0 : JT} (H : INV F R J P B F0 R0 J0) (s1 : S1 F' R' P' B' F0' R0') (hF : ∀ k, k = 5 ∨ (200 ≤ k ∧ k < 214) ∨ k = 306 ∨ 500 ≤ k → F' k = F k) (hR : ∀ k, (215 ≤ k ∧ k ≤ 217) ∨ k = 300 → R' k = R k) (hP : P' 214 = P 214) (hB : ∀ z ∈ B, z ∈ B') (hF0 : ∀ k, k = 1 ∨ k = 4 ∨ k = 14 ∨ k = 15 → F0' k = F0 k) (hR0 : ∀ k, k = 3 ∨ k = 13 ∨ k = 16 ∨ k = 17 → R0' k = R0 k) : INV F' R' J P' B' F0' R0' J0 := by
  obtain ⟨-, h2, h3, h4, h5⟩ := H
  refine ⟨s1, h2.cg (hF 5 (by omega)) (fun k hk => hF _ (by omega)) (fun k h1 h2 => hR _ (by omega)) hP hB ⟨hF0 15 (by omega), hF0 14 (by omega)⟩ (hR0 13 (by omega)), h3.cg (hF 306 (by omega)) (hR 300 (by omega)) (hF0 4 (by omega)) (hR0 3 (by omega)), h4.cg (fun k hk => hF k (by omega)) rfl ⟨hR0 16 (by omega), hR0 17 (by omega)⟩ rfl, ?_⟩
  rw [hF0 1 (by omega)]; exact h5
theorem upd_ne {f : Nat → Int32} {k j : Nat} {v : Int32} (h : j ≠ k) : upd f k v j = f j := if_neg h
theorem upd_eq {f : Nat → Int32} {k : Nat} {v : Int32} : upd f k v k = v := if_pos rfl
theorem vu_ne {α : Type} {f : Nat → α} {k j : Nat} {v : α} (h : j ≠ k) : va_up f k v j = f j := if_neg h
theorem vu_eq {α : Type} {f : Nat → α} {k : Nat} {v : α} : va_up f k v k = v := if_pos rfl
