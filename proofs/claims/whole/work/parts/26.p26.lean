/-! ===== the pure part: what is hauled, laid, behind a day ===== -/
def hvN (kd pc hs laid more : Nat) : Nat := if kd = 1 then pc + more + hs else if kd = 3 then 2 * (pc + more + hs) else if kd = 4 then pc + more + laid / 10 else pc + more
def lvN (w kd z : Nat) : Nat := if w = 0 then z else if w = 1 then (if kd = 2 then z else z / 2) else (if kd = 3 then z - 3 else z - 1)
def lyN (b : Nat → Nat → Nat) (w laid fa mo k : Nat) : Nat := lvN w (b k 0) (hvN (b k 0) (b k 1) (b k 2) laid (if k = fa then mo else 0))
def suN (b : Nat → Nat → Nat) (w laid fa mo : Nat) : Nat → Nat
  | 0 => 0
  | n + 1 => suN b w laid fa mo n + lyN b w laid fa mo n
def bhN (st su laid cost : Nat) : Nat := if laid + (su - cost) ≤ st then laid + (su - cost) else st
theorem hvN_le {kd pc hs laid more : Nat} (h1 : pc ≤ 9) (h2 : hs ≤ 9) (h3 : laid ≤ 200) (h4 : more ≤ 20) : hvN kd pc hs laid more ≤ 76 := by unfold hvN; split <;> (try split) <;> (try split) <;> omega
theorem lvN_le {w kd z : Nat} : lvN w kd z ≤ z := by unfold lvN; split <;> (try split) <;> (try split) <;> omega
theorem thaw_n {z : Nat} (hz : z < 2 ^ 31) : thaw1 (nI z) = nI (z - 1) := by
  unfold thaw1
  by_cases h : z = 0
  · subst h; decide
  · rw [if_neg (fun c => by have := (n_lt (a := z) (b := 1) hz (by omega)).mp c; omega)]
    exact pk_sub (a := z) (b := 1) (by omega)
theorem C_lays {c kd pc hs w laid more : Nat} (ho : bOK c) (hk : kindV c = nI kd) (hk4 : kd ≤ 4) (h1 : pc ≤ 9) (h2 : hs ≤ 9) (h3 : laid ≤ 200) (h4 : more ≤ 20) (hw : w ≤ 2) : haulsV c (nI pc) (nI hs) (nI laid) (nI more) = nI (hvN kd pc hs laid more) ∧ laysV c (nI pc) (nI hs) (nI w) (nI laid) (nI more) = nI (lvN w kd (hvN kd pc hs laid more)) := by
  have hz := hvN_le (kd := kd) h1 h2 h3 h4
  have kk : (c = 0 ∧ kd = 2) ∨ (c = 2 ∧ kd = 3) ∨ (c = 3 ∧ kd = 1) ∨ (c = 4 ∧ kd = 4) ∨ (c = 5 ∧ kd = 0) := by
    rcases ho with rfl | rfl | rfl | rfl | rfl
    · exact Or.inl ⟨rfl, ((n_eq (a := 2) (b := kd) (by omega) (by omega)).mp hk).symm⟩
    · exact Or.inr (Or.inl ⟨rfl, ((n_eq (a := 3) (b := kd) (by omega) (by omega)).mp hk).symm⟩)
    · exact Or.inr (Or.inr (Or.inl ⟨rfl, ((n_eq (a := 1) (b := kd) (by omega) (by omega)).mp hk).symm⟩))
    · exact Or.inr (Or.inr (Or.inr (Or.inl ⟨rfl, ((n_eq (a := 4) (b := kd) (by omega) (by omega)).mp hk).symm⟩)))
    · exact Or.inr (Or.inr (Or.inr (Or.inr ⟨rfl, ((n_eq (a := 0) (b := kd) (by omega) (by omega)).mp hk).symm⟩)))
  have e1 : haulsV c (nI pc) (nI hs) (nI laid) (nI more) = nI (hvN kd pc hs laid more) := by
    rcases kk with ⟨rfl, rfl⟩ | ⟨rfl, rfl⟩ | ⟨rfl, rfl⟩ | ⟨rfl, rfl⟩ | ⟨rfl, rfl⟩
    · exact nI_add pc more
    · show 2 * (nI pc + nI more + nI hs) = nI (2 * (pc + more + hs))
      rw [nI_add, nI_add]; exact pk_mul 2 _
    · show nI pc + nI more + nI hs = nI (pc + more + hs)
      rw [nI_add, nI_add]
    · show nI pc + nI more + nI laid / 10 = nI (pc + more + laid / 10)
      rw [nI_add, show nI laid / (10 : Int32) = nI (laid / 10) from pk_div (d := 10) (by omega) (by omega) (by omega), nI_add]
    · exact nI_add pc more
  refine ⟨e1, ?_⟩
  unfold laysV
  rw [e1]
  generalize hvN kd pc hs laid more = z at hz ⊢
  have hd : nI z / (2 : Int32) = nI (z / 2) := pk_div (d := 2) (by omega) (by omega) (by omega)
  rcases (show w = 0 ∨ w = 1 ∨ w = 2 by omega) with rfl | rfl | rfl
  · rfl
  · rw [if_pos (show nI 1 = 1 from rfl)]
    rcases kk with ⟨rfl, rfl⟩ | ⟨rfl, rfl⟩ | ⟨rfl, rfl⟩ | ⟨rfl, rfl⟩ | ⟨rfl, rfl⟩
    · rfl
    · exact hd
    · exact hd
    · exact hd
    · exact hd
  · rw [if_neg (by decide), if_pos (show nI 2 = 2 from rfl)]
    have ht := thaw_n (z := z) (by omega)
    rcases kk with ⟨rfl, rfl⟩ | ⟨rfl, rfl⟩ | ⟨rfl, rfl⟩ | ⟨rfl, rfl⟩ | ⟨rfl, rfl⟩
    · exact ht
    · unfold thawV
      rw [if_pos rfl, ht]
      show _ = nI (z - 3)
      by_cases hlt : z - 1 < 2
      · rw [if_pos (show nI (z - 1) < 2 from (n_lt (a := z - 1) (b := 2) (by omega) (by omega)).mpr hlt), show z - 3 = 0 by omega]; rfl
      · rw [if_neg (show ¬ nI (z - 1) < 2 from fun c => hlt ((n_lt (a := z - 1) (b := 2) (by omega) (by omega)).mp c))]
        exact (pk_sub (a := z - 1) (b := 2) (by omega)).trans (congrArg nI (by omega))
    · exact ht
    · exact ht
    · exact ht
theorem suN_le {b : Nat → Nat → Nat} {w laid fa mo : Nat} (h3 : laid ≤ 200) (h4 : mo ≤ 20) : ∀ n, (∀ k, k < n → b k 1 ≤ 9 ∧ b k 2 ≤ 9) → suN b w laid fa mo n ≤ 76 * n := by
  intro n
  induction n with
  | zero => intro _; simp [suN]
  | succ n ih =>
    intro hh
    have h1 := ih (fun k hk => hh k (by omega))
    have h2 := hh n (by omega)
    have h5 : lyN b w laid fa mo n ≤ 76 := Nat.le_trans lvN_le (hvN_le h2.1 h2.2 h3 (by split <;> omega))
    simp only [suN]
    omega
section PB
variable {x : Nat → Nat} {b h p : Nat → Nat → Nat} {F : FT} {R : RT} {J : JT} {P : PT} {B : BT}
theorem A11 (A : AOK x b h p) : x 11 ≤ 4 := A.1.2.2.2.2.2.2.2.2.2.2.2.2.1
theorem C_layT_loop (A : AOK x b h p) (H : CS 100 x b h p F R P B) {w laid fa mo : Nat} {vf : Int32} (hw : w ≤ 2) (hl : laid ≤ 200) (hm : mo ≤ 20) (hf : ∀ k, k < 4 → (nI k = vf ↔ k = fa)) {K : Int32 → FT → RT → JT → PT → BT → Prop} (hK : K (nI (suN b w laid fa mo (x 11))) F R J P B) : ∀ m k, k + m = x 11 → ∃ n, qS_layTogether_6 n F R J P B (nI w) (nI laid) vf (nI mo) (nI (suN b w laid fa mo k)) (nI k) K := by
  have e11 : F 111 = nI (x 11) := H.n 11 (by decide)
  have h4 := A11 A
  intro m
  induction m with
  | zero =>
    intro k hk
    refine ⟨1, ?_⟩
    unfold qS_layTogether_6
    refine ⟨fun _ => ?_, fun c => absurd ?_ c⟩
    · rw [show k = x 11 by omega]; exact hK
    · rw [e11, n_le (by omega) (by omega)]; omega
  | succ m ih =>
    intro k hk
    obtain ⟨n, hn⟩ := ih (k + 1) (by omega)
    obtain ⟨ad, c, pp, hh, e1, e2, e3, e4, e5, e6⟩ := H.2.1 k (by omega)
    have ab := A.2.1 k (by omega)
    refine ⟨n + 1, ?_⟩
    unfold qS_layTogether_6
    refine ⟨fun c => ?_, fun _ => ⟨vp_in_nI (by omega) (by omega), ad, ?_, ?_, ?_⟩⟩
    · rw [e11, n_le (by omega) (by omega)] at c; omega
    · rw [nI_clamp (by omega)]; exact e1
    · intro c1
      have ne : ¬ k = fa := fun e => c1 ((hf k (by omega)).mpr e)
      refine ⟨c, pp, hh, e2, e3, ?_⟩
      have q := (C_lays (w := w) (laid := laid) (more := 0) e3 e4 ab.1 ab.2.2.1 ab.2.2.2 hl (by omega) hw).2
      rw [e5, e6, show (0 : Int32) = nI 0 from rfl, q]
      dsimp only
      rw [nI_add, nI_1]
      rw [show suN b w laid fa mo (k + 1) = suN b w laid fa mo k + lvN w (b k 0) (hvN (b k 0) (b k 1) (b k 2) laid 0) by simp only [suN, lyN, if_neg ne]] at hn
      exact hn
    · intro c1
      have ne : k = fa := (hf k (by omega)).mp c1
      refine ⟨c, pp, hh, e2, e3, ?_⟩
      have q := (C_lays (w := w) (laid := laid) (more := mo) e3 e4 ab.1 ab.2.2.1 ab.2.2.2 hl hm hw).2
      rw [e5, e6, q]
      dsimp only
      rw [nI_add, nI_1]
      rw [show suN b w laid fa mo (k + 1) = suN b w laid fa mo k + lvN w (b k 0) (hvN (b k 0) (b k 1) (b k 2) laid mo) by simp only [suN, lyN, if_pos ne]] at hn
      exact hn
theorem C_layT (A : AOK x b h p) (H : CS 100 x b h p F R P B) {w laid fa mo : Nat} {vf : Int32} (hw : w ≤ 2) (hl : laid ≤ 200) (hm : mo ≤ 20) (hf : ∀ k, k < 4 → (nI k = vf ↔ k = fa)) {K : Int32 → FT → RT → JT → PT → BT → Prop} (hK : K (nI (suN b w laid fa mo (x 11))) F R J P B) : qS_layTogether F R J P B (nI w) (nI laid) vf (nI mo) K := C_layT_loop A H hw hl hm hf hK (x 11) 0 (by omega)
theorem no_f : ∀ k, k < 4 → (nI k = (-1 : Int32) ↔ k = 99) := by decide +kernel
/-- what all lay, nobody faster -/
def su0 (b : Nat → Nat → Nat) (n w laid : Nat) : Nat := suN b w laid 99 0 n
theorem C_behind (A : AOK x b h p) (H : CS 100 x b h p F R P B) {w laid co : Nat} (hw : w ≤ 2) (hl : laid ≤ x 0) (hc : co ≤ 200) {K : Int32 → FT → RT → JT → PT → BT → Prop} (hK : K (nI (bhN (x 0) (su0 b (x 11) w laid) laid co)) F R J P B) : qS_laidBehind F R J P B (nI w) (nI laid) (nI co) K := by
  have a1 := A.1
  have e0 : F 100 = nI (x 0) := H.n 0 (by decide)
  have hs : su0 b (x 11) w laid ≤ 76 * x 11 := suN_le (by omega) (by omega) _ (fun k hk => ⟨(A.2.1 k hk).2.2.1, (A.2.1 k hk).2.2.2⟩)
  unfold qS_laidBehind
  refine C_layT A H (mo := 0) hw (by omega) (by omega) no_f ?_
  unfold su0 at hs hK
  generalize suN b w laid 99 0 (x 11) = su at hs hK ⊢
  unfold bhN at hK
  by_cases hlt : co < su
  · have es : nI su - nI co = nI (su - co) := pk_sub (by omega)
    rw [es, nI_add, e0]
    refine ⟨fun _ => ?_, fun c => absurd ((n_lt (a := 0) (b := su - co) (by omega) (by omega)).mpr (by omega)) c⟩
    by_cases hle : laid + (su - co) ≤ x 0
    · rw [if_pos hle] at hK
      by_cases hl2 : laid + (su - co) < x 0
      · rw [if_pos ((n_lt (by omega) (by omega)).mpr hl2)]; exact hK
      · rw [if_neg (fun c => hl2 ((n_lt (by omega) (by omega)).mp c)), show x 0 = laid + (su - co) by omega]; exact hK
    · rw [if_neg hle] at hK
      rw [if_neg (fun c => by have := (n_lt (by omega) (by omega)).mp c; omega)]; exact hK
  · have hz : ¬ (0 : Int32) < nI su - nI co := by
      rw [t_lt, pk_sub_toInt (by omega) (by omega)]
      have : (0 : Int32).toInt = 0 := rfl
      omega
    refine ⟨fun c => absurd c hz, fun _ => ?_⟩
    rw [show su - co = 0 by omega, if_pos (by omega)] at hK
    exact hK
end PB
section PBM
variable {x : Nat → Nat} {b h p : Nat → Nat → Nat} {F : FT} {R : RT} {J : JT} {u : Nat → Int32} {nu : Int32}
theorem M_hauls (A : AOK x b h p) (M : MS x b h p (R 0) u nu) {k laid fa mo : Nat} (hk : k < x 11) (hl : laid ≤ 200) (hm : mo ≤ 20) (hf : nI k = F 1 ↔ k = fa) (hf2 : k = fa → F 2 = nI mo) {K : Int32 → FT → RT → JT → Prop} (hK : K (nI (hvN (b k 0) (b k 1) (b k 2) laid (if k = fa then mo else 0))) F R J) : qM_haulsOf F R J (nI k) (nI laid) K := by
  have h4 := A11 A
  obtain ⟨g1, g2, g3⟩ := M.2.1 k hk
  have ab := A.2.1 k hk
  have i13 : (13 : Int32) + (3 : Int32) * nI k = nI (13 + 3 * k) := (congrArg (fun z => nI 13 + z) (pk_mul 3 k)).trans (nI_add 13 (3 * k))
  have i14 : nI (13 + 3 * k) + 1 = nI (14 + 3 * k) := (nI_1 _).trans (congrArg nI (by omega))
  have i15 : nI (13 + 3 * k) + 2 = nI (15 + 3 * k) := (nI_add (13 + 3 * k) 2).trans (congrArg nI (by omega))
  have key : ∀ m, m ≤ 20 → K (nI (hvN (b k 0) (b k 1) (b k 2) laid m)) F R J → qM_haulsOf_31 F R J (nI laid) (nI (13 + 3 * k)) (nI m) (nI (b k 1)) K := by
    intro m hm hK
    unfold qM_haulsOf_31
    rw [nI_clamp (n := 13 + 3 * k) (by omega), g1, i15, nI_clamp (n := 15 + 3 * k) (by omega), g3, nI_add]
    have hd : nI laid / (10 : Int32) = nI (laid / 10) := pk_div (d := 10) (by omega) (by omega) (by omega)
    refine ⟨vp_in_nI (by omega) (by omega), fun c => ⟨vp_in_nI (by omega) (by omega), ?_⟩, fun c => ?_, fun c => ⟨vp_in_nI (by omega) (by omega), ?_⟩, fun c => ?_, fun c1 c2 c3 c4 => ?_⟩
    · have c := (n_eq (a := b k 0) (b := 1) (by omega) (by omega)).mp c
      rw [hvN, if_pos c] at hK; rw [nI_add]; exact hK
    · have c := (n_eq (a := b k 0) (b := 2) (by omega) (by omega)).mp c
      rw [hvN, if_neg (by omega), if_neg (by omega), if_neg (by omega)] at hK; exact hK
    · have c := (n_eq (a := b k 0) (b := 3) (by omega) (by omega)).mp c
      rw [hvN, if_neg (by omega), if_pos c] at hK
      rw [nI_add, show (2 : Int32) * nI (b k 1 + m + b k 2) = nI (2 * (b k 1 + m + b k 2)) from pk_mul 2 _]; exact hK
    · have c := (n_eq (a := b k 0) (b := 4) (by omega) (by omega)).mp c
      rw [hvN, if_neg (by omega), if_neg (by omega), if_pos c] at hK
      rw [hd, nI_add]; exact hK
    · have d1 : ¬ b k 0 = 1 := fun e => c1 (congrArg nI e)
      have d3 : ¬ b k 0 = 3 := fun e => c3 (congrArg nI e)
      have d4 : ¬ b k 0 = 4 := fun e => c4 (congrArg nI e)
      rw [hvN, if_neg d1, if_neg d3, if_neg d4] at hK; exact hK
  unfold qM_haulsOf
  rw [i13, i14, nI_clamp (n := 14 + 3 * k) (by omega), g2]
  refine ⟨vp_in_nI (by omega) (by omega), fun c => ?_, fun c => ?_⟩
  · rw [if_neg (fun e => c (hf.mpr e))] at hK
    exact key 0 (by omega) hK
  · have e := hf.mp c
    rw [if_pos e] at hK
    rw [hf2 e]
    exact key mo hm hK
theorem M_lays (A : AOK x b h p) (M : MS x b h p (R 0) u nu) {k w laid fa mo : Nat} (hk : k < x 11) (hw : w ≤ 2) (hl : laid ≤ 200) (hm : mo ≤ 20) (hf : nI k = F 1 ↔ k = fa) (hf2 : k = fa → F 2 = nI mo) {K : Int32 → FT → RT → JT → Prop} (hK : K (nI (lyN b w laid fa mo k)) F R J) : qM_laysOf F R J (nI k) (nI w) (nI laid) K := by
  have h4 := A11 A
  obtain ⟨g1, g2, g3⟩ := M.2.1 k hk
  have ab := A.2.1 k hk
  have i13 : (13 : Int32) + (3 : Int32) * nI k = nI (13 + 3 * k) := (congrArg (fun z => nI 13 + z) (pk_mul 3 k)).trans (nI_add 13 (3 * k))
  have hz := hvN_le (kd := b k 0) (pc := b k 1) (hs := b k 2) (laid := laid) (more := if k = fa then mo else 0) ab.2.2.1 ab.2.2.2 hl (by split <;> omega)
  unfold qM_laysOf
  refine M_hauls A M hk hl hm hf hf2 ?_
  unfold lyN at hK
  generalize hvN (b k 0) (b k 1) (b k 2) laid (if k = fa then mo else 0) = z at hz hK ⊢
  have g68 : ∀ (v : Int32) (n : Nat), n ≤ 76 → ((v = nI n) ∨ (v < 0 ∧ n = 0)) → K (nI n) F R J → qM_laysOf_68 F R J v K := by
    intro v n hn hv hK
    rcases hv with rfl | ⟨hv, rfl⟩
    · exact ⟨fun _ => hK, fun c => absurd (nI_pos' (by omega)) c⟩
    · exact ⟨fun c => by rw [t_lt] at hv; rw [t_le] at c; omega, fun _ => hK⟩
  rw [i13, nI_clamp (n := 13 + 3 * k) (by omega), g1]
  refine ⟨vp_in_nI (by omega) (by omega), fun c => ?_, fun c => ⟨fun c1 => ?_, fun c1 => ⟨fun c2 => ?_, fun c2 => ?_⟩⟩⟩
  · have c := (n_eq (a := w) (b := 0) (by omega) (by omega)).mp c
    rw [lvN, if_pos c] at hK; exact hK
  · have w2 : w = 2 := by
      have d0 : w ≠ 0 := fun e => c (congrArg nI e)
      have d1 : w ≠ 1 := fun e => c1 (congrArg nI e)
      omega
    subst w2
    rw [lvN, if_neg (by omega), if_neg (by omega)] at hK
    refine ⟨fun _ => ⟨fun c3 => ?_, fun c3 => ?_⟩, fun c => absurd c c1⟩
    · rw [if_neg (fun e => c3 (congrArg nI e))] at hK
      refine g68 _ (z - 1) (by omega) ?_ hK
      by_cases hz1 : 1 ≤ z
      · exact Or.inl (pk_sub (a := z) (b := 1) hz1)
      · exact Or.inr ⟨pk_sneg (a := z) (b := 1) (by omega) (by omega), by omega⟩
    · have c3 := (n_eq (a := b k 0) (b := 3) (by omega) (by omega)).mp c3
      rw [if_pos c3] at hK
      refine g68 _ (z - 3) (by omega) ?_ hK
      by_cases hz1 : 3 ≤ z
      · exact Or.inl (pk_sub (a := z) (b := 3) hz1)
      · exact Or.inr ⟨pk_sneg (a := z) (b := 3) (by omega) (by omega), by omega⟩
  · have w1 := (n_eq (a := w) (b := 1) (by omega) (by omega)).mp c1
    subst w1
    rw [lvN, if_neg (by omega), if_pos rfl, if_neg (fun e => c2 (congrArg nI e))] at hK
    refine ⟨fun d => absurd rfl d, fun _ => g68 _ (z / 2) (by omega) (Or.inl (pk_div (d := 2) (by omega) (by omega) (by omega))) hK⟩
  · have w1 := (n_eq (a := w) (b := 1) (by omega) (by omega)).mp c1
    subst w1
    have c2 := (n_eq (a := b k 0) (b := 2) (by omega) (by omega)).mp c2
    rw [lvN, if_neg (by omega), if_pos rfl, if_pos c2] at hK
    exact hK
theorem M_behind_loop (A : AOK x b h p) (M : MS x b h p (R 0) u nu) {w laid co fa mo : Nat} (hw : w ≤ 2) (hl : laid ≤ x 0) (hc : co ≤ 200) (hm : mo ≤ 20) (hf : ∀ k, k < 4 → (nI k = F 1 ↔ k = fa)) (hf2 : fa < 4 → F 2 = nI mo) {K : Int32 → FT → RT → JT → Prop} (hK : K (nI (bhN (x 0) (suN b w laid fa mo (x 11)) laid co)) F R J) : ∀ m k, k + m = x 11 → ∃ n, qM_behind_6 n F R J (nI w) (nI laid) (nI co) (nI (suN b w laid fa mo k)) (nI k) K := by
  have a1 := A.1
  have g0 : R 0 0 = nI (x 11) := M.1.2.1
  have g2 : R 0 2 = nI (x 0) := M.1.1 0 (by decide) (by decide)
  have hs : suN b w laid fa mo (x 11) ≤ 76 * x 11 := suN_le (by omega) hm _ (fun k hk => ⟨(A.2.1 k hk).2.2.1, (A.2.1 k hk).2.2.2⟩)
  intro m
  induction m with
  | zero =>
    intro k hk
    have hk : k = x 11 := by omega
    subst hk
    refine ⟨1, ?_⟩
    unfold qM_behind_6
    have g51 : ∀ d, d = suN b w laid fa mo (x 11) - co → qM_behind_51 F R J (nI d) (nI laid) K := by
      intro d hd
      unfold qM_behind_51
      rw [nI_add, g2]
      unfold bhN at hK
      rw [← hd] at hK
      refine ⟨fun c => ?_, fun c => ?_⟩
      · have c := (n_le (by omega) (by omega)).mp c
        rw [if_pos c] at hK; exact hK
      · rw [if_neg (fun e => c ((n_le (by omega) (by omega)).mpr e))] at hK; exact hK
    refine ⟨fun _ => ⟨fun c => ?_, fun c => ?_⟩, fun c => absurd ?_ c⟩
    · have c := (n_le (by omega) (by omega)).mp c
      rw [pk_sub c]
      exact g51 _ rfl
    · have c : ¬ co ≤ suN b w laid fa mo (x 11) := fun e => c ((n_le (by omega) (by omega)).mpr e)
      exact g51 0 (by omega)
    · rw [g0, n_le (by omega) (by omega)]; omega
  | succ m ih =>
    intro k hk
    obtain ⟨n, hn⟩ := ih (k + 1) (by omega)
    refine ⟨n + 1, ?_⟩
    unfold qM_behind_6
    refine ⟨fun c => ?_, fun _ => ?_⟩
    · rw [g0, n_le (by omega) (by omega)] at c; omega
    · refine M_lays A M (by omega) hw (by omega) hm (hf k (by omega)) (fun e => hf2 (by omega)) ?_
      rw [nI_add, nI_1]
      exact hn
theorem M_behind (A : AOK x b h p) (M : MS x b h p (R 0) u nu) {w laid co fa mo : Nat} (hw : w ≤ 2) (hl : laid ≤ x 0) (hc : co ≤ 200) (hm : mo ≤ 20) (hf : ∀ k, k < 4 → (nI k = F 1 ↔ k = fa)) (hf2 : fa < 4 → F 2 = nI mo) {K : Int32 → FT → RT → JT → Prop} (hK : K (nI (bhN (x 0) (suN b w laid fa mo (x 11)) laid co)) F R J) : qM_behind F R J (nI w) (nI laid) (nI co) K := M_behind_loop A M hw hl hc hm hf hf2 hK (x 11) 0 (by omega)
theorem M_behind0 (A : AOK x b h p) (M : MS x b h p (R 0) u nu) {w laid co : Nat} (hw : w ≤ 2) (hl : laid ≤ x 0) (hc : co ≤ 200) (hf : F 1 = -1) {K : Int32 → FT → RT → JT → Prop} (hK : K (nI (bhN (x 0) (su0 b (x 11) w laid) laid co)) F R J) : qM_behind F R J (nI w) (nI laid) (nI co) K := M_behind A M (fa := 99) (mo := 0) hw hl hc (by omega) (by rw [hf]; exact no_f) (fun c => by omega) hK
end PBM
