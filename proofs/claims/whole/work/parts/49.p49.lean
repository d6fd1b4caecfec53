/-! ===== the pure part: mean, the numbers ===== -/
def ctN (bh : Nat → Nat → Nat) (ow v : Nat → Nat) (m t : Nat) : Nat := (if bh 0 m = t then v m * ow 0 else 0) + (if bh 1 m = t then v m * ow 1 else 0) + (if bh 2 m = t then v m * ow 2 else 0)
def spN (bh : Nat → Nat → Nat) (ow v : Nat → Nat) : Nat → Nat → Nat
  | 0, _ => 0
  | m + 1, t => spN bh ow v m t + ctN bh ow v m t
def dnN (bh : Nat → Nat → Nat) (ow v : Nat → Nat) : Nat → Nat → Nat → Nat
  | 0, _, _ => 0
  | k + 1, j, t => ctN bh ow v j t + dnN bh ow v k (j + 1) t
def totN (v : Nat → Nat) : Nat → Nat
  | 0 => 0
  | n + 1 => totN v n + v n
def wsN (v : Nat → Nat) : Nat → Nat
  | 0 => 0
  | n + 1 => wsN v n + n * v n
def owN (fr th w : Nat) : Nat := if w = 0 then 10 - fr - th else if w = 1 then fr else th
def vN (st l0 c0 fr th : Nat) (su : Nat → Nat → Nat) : Nat → Nat → Nat
  | 0, t => if t = l0 then 1 else 0
  | k + 1, t => spN (fun w l => bhN st (su w l) l (if k = 0 then c0 else 0)) (owN fr th) (vN st l0 c0 fr th su k) (st + 1) t
section MN
variable {bh : Nat → Nat → Nat} {ow v : Nat → Nat} {st l0 : Nat}
theorem ct_0 {m t : Nat} (h : v m = 0) : ctN bh ow v m t = 0 := by
  unfold ctN
  rw [h, Nat.zero_mul, Nat.zero_mul, Nat.zero_mul]
  split <;> split <;> split <;> rfl
theorem ct_ne {m t : Nat} (h0 : bh 0 m ≠ t) (h1 : bh 1 m ≠ t) (h2 : bh 2 m ≠ t) : ctN bh ow v m t = 0 := by
  unfold ctN
  rw [if_neg h0, if_neg h1, if_neg h2]
theorem sp_dn {t : Nat} : ∀ k j, spN bh ow v j t + dnN bh ow v k j t = spN bh ow v (j + k) t := by
  intro k
  induction k with
  | zero => intro j; rfl
  | succ k ih =>
    intro j
    have := ih (j + 1)
    rw [dnN, show j + (k + 1) = j + 1 + k by omega, ← this]
    show _ = spN bh ow v j t + ctN bh ow v j t + _
    omega
theorem sp_0 {t : Nat} : ∀ m, (∀ i, i < m → ctN bh ow v i t = 0) → spN bh ow v m t = 0 := by
  intro m
  induction m with
  | zero => intro _; rfl
  | succ m ih => intro h; rw [spN, ih (fun i hi => h i (by omega)), h m (by omega)]
theorem dn_0 {t : Nat} : ∀ k j, (∀ i, j ≤ i → i < j + k → ctN bh ow v i t = 0) → dnN bh ow v k j t = 0 := by
  intro k
  induction k with
  | zero => intro j _; rfl
  | succ k ih => intro j h; rw [dnN, ih (j + 1) (fun i q1 q2 => h i (by omega) (by omega)), h j (by omega) (by omega)]
theorem tot_add {f g : Nat → Nat} : ∀ n, totN (fun t => f t + g t) n = totN f n + totN g n := by
  intro n
  induction n with
  | zero => rfl
  | succ n ih => rw [totN, totN, totN, ih]; omega
theorem tot_z {a c : Nat} : ∀ n, n ≤ a → totN (fun t => if a = t then c else 0) n = 0 := by
  intro n
  induction n with
  | zero => intro _; rfl
  | succ n ih =>
    intro h
    rw [totN, ih (by omega)]
    show 0 + (if a = n then c else 0) = 0
    rw [if_neg (by omega)]
theorem tot_1 {a c : Nat} : ∀ n, a < n → totN (fun t => if a = t then c else 0) n = c := by
  intro n
  induction n with
  | zero => intro h; omega
  | succ n ih =>
    intro h
    rw [totN]
    show _ + (if a = n then c else 0) = c
    by_cases e : a = n
    · rw [if_pos e, tot_z n (by omega)]; omega
    · rw [if_neg e, ih (by omega)]; rfl
theorem tot_sp {n S : Nat} (hS : ow 0 + ow 1 + ow 2 = S) : ∀ m, (∀ w i, w ≤ 2 → i < m → bh w i < n) → totN (spN bh ow v m) n = S * totN v m := by
  intro m
  induction m with
  | zero =>
    intro _
    show totN (fun _ => 0) n = _
    rw [totN, Nat.mul_zero]
    exact (fun k => by induction k with | zero => rfl | succ k ih => rw [totN, ih] : ∀ k, totN (fun _ => 0) k = 0) n
  | succ m ih =>
    intro h
    have e : spN bh ow v (m + 1) = fun t => spN bh ow v m t + ((if bh 0 m = t then v m * ow 0 else 0) + (if bh 1 m = t then v m * ow 1 else 0) + (if bh 2 m = t then v m * ow 2 else 0)) := rfl
    rw [e, tot_add, ih (fun w i a1 a2 => h w i a1 (by omega)), tot_add, tot_add, tot_1 n (h 0 m (by omega) (by omega)), tot_1 n (h 1 m (by omega) (by omega)), tot_1 n (h 2 m (by omega) (by omega)), totN, ← Nat.mul_add, ← Nat.mul_add, hS, Nat.mul_add, Nat.mul_comm (v m) S]
theorem tot_le : ∀ n t, t < n → v t ≤ totN v n := by
  intro n
  induction n with
  | zero => intro t h; omega
  | succ n ih =>
    intro t h
    rw [totN]
    by_cases e : t = n
    · rw [e]; omega
    · have := ih t (by omega); omega
theorem ws_le {M : Nat} : ∀ n, n ≤ M + 1 → wsN v n ≤ M * totN v n := by
  intro n
  induction n with
  | zero => intro _; exact Nat.zero_le _
  | succ n ih =>
    intro h
    have h1 := ih (by omega)
    have h2 := Nat.mul_le_mul_right (v n) (show n ≤ M by omega)
    rw [wsN, totN, Nat.mul_add]
    omega
theorem ws_z : ∀ n, (∀ t, t < n → v t = 0) → wsN v n = 0 := by
  intro n
  induction n with
  | zero => intro _; rfl
  | succ n ih => intro h; rw [wsN, ih (fun t ht => h t (by omega)), h n (by omega)]; rfl
theorem ws_ext {N : Nat} (h : ∀ t, N ≤ t → v t = 0) : ∀ k, wsN v (N + k) = wsN v N := by
  intro k
  induction k with
  | zero => rfl
  | succ k ih => rw [show N + (k + 1) = N + k + 1 by omega, wsN, ih, h (N + k) (by omega)]; rfl
end MN
theorem ow_10 {fr th : Nat} (h : fr + th ≤ 10) : owN fr th 0 + owN fr th 1 + owN fr th 2 = 10 := by
  unfold owN
  rw [if_pos rfl, if_neg (by omega), if_pos rfl, if_neg (by omega), if_neg (by omega)]
  omega
section VN
variable {st l0 c0 fr th : Nat} {su : Nat → Nat → Nat}
theorem vN_low (hl : l0 ≤ st) : ∀ k t, t < l0 → vN st l0 c0 fr th su k t = 0 := by
  intro k
  induction k with
  | zero => intro t h; exact if_neg (by omega)
  | succ k ih =>
    intro t h
    rw [vN]
    refine sp_0 _ (fun i hi => ?_)
    by_cases q : i < l0
    · exact ct_0 (ih i q)
    · have b := fun w => bhN_ge (st := st) (su := su w i) (co := if k = 0 then c0 else 0) (show i ≤ st by omega)
      have b0 := b 0
      have b1 := b 1
      have b2 := b 2
      exact ct_ne (Nat.ne_of_gt (by omega)) (Nat.ne_of_gt (by omega)) (Nat.ne_of_gt (by omega))
theorem vN_high (hl : l0 ≤ st) : ∀ k t, st < t → vN st l0 c0 fr th su k t = 0 := by
  intro k t h
  cases k with
  | zero => exact if_neg (by omega)
  | succ k =>
    rw [vN]
    refine sp_0 _ (fun i hi => ?_)
    have b := fun w => bhN_ge (st := st) (su := su w i) (co := if k = 0 then c0 else 0) (show i ≤ st by omega)
    have b0 := b 0
    have b1 := b 1
    have b2 := b 2
    exact ct_ne (Nat.ne_of_lt (by omega)) (Nat.ne_of_lt (by omega)) (Nat.ne_of_lt (by omega))
theorem vN_tot (hl : l0 ≤ st) (h : fr + th ≤ 10) : ∀ k, totN (vN st l0 c0 fr th su k) (st + 1) = 10 ^ k := by
  intro k
  induction k with
  | zero =>
    have e : vN st l0 c0 fr th su 0 = fun t => if l0 = t then 1 else 0 := by
      funext t
      show (if t = l0 then 1 else 0) = _
      by_cases c : t = l0
      · rw [if_pos c, if_pos c.symm]
      · rw [if_neg c, if_neg (fun d => c d.symm)]
    rw [e, tot_1 _ (by omega)]
  | succ k ih =>
    have e : vN st l0 c0 fr th su (k + 1) = spN (fun w l => bhN st (su w l) l (if k = 0 then c0 else 0)) (owN fr th) (vN st l0 c0 fr th su k) (st + 1) := rfl
    rw [e, tot_sp (ow_10 h) (st + 1) (fun w i _ hi => ?_), ih, Nat.pow_succ, Nat.mul_comm]
    have := (bhN_ge (st := st) (su := su w i) (co := if k = 0 then c0 else 0) (show i ≤ st by omega)).2
    show bhN st (su w i) i (if k = 0 then c0 else 0) < st + 1
    omega
theorem ten_6 {k : Nat} (hk : k ≤ 6) : 10 ^ k ≤ 1000000 ∧ 1 ≤ 10 ^ k := ⟨Nat.le_trans (Nat.pow_le_pow_right (by omega) hk) (by decide), Nat.pow_pos (by omega)⟩
theorem vN_le (hl : l0 ≤ st) (h : fr + th ≤ 10) {k : Nat} (hk : k ≤ 6) (t : Nat) : vN st l0 c0 fr th su k t ≤ 1000000 := by
  by_cases q : t ≤ st
  · have := tot_le (v := vN st l0 c0 fr th su k) (st + 1) t (by omega)
    rw [vN_tot hl h] at this
    have := (ten_6 hk).1
    omega
  · rw [vN_high hl k t (by omega)]; omega
theorem vN_ws (hl : l0 ≤ st) (hst : st ≤ 200) (h : fr + th ≤ 10) {k : Nat} (hk : k ≤ 6) : wsN (vN st l0 c0 fr th su k) (st + 1) ≤ 200000000 := by
  have h1 := ws_le (v := vN st l0 c0 fr th su k) (M := 200) (st + 1) (by omega)
  rw [vN_tot hl h] at h1
  have := (ten_6 hk).1
  omega
end VN
/-- so much more at one place -/
theorem ad_1 {f : Nat → Int32} {g : Nat → Nat} {r c : Nat} (hf : ∀ t, t < 201 → f t = nI (g t)) (hr : r < 201) {y z : Int32} (hy : y = f r) (hz : z = nI c) : ∀ t, t < 201 → upd f r (y + z) t = nI (g t + (if r = t then c else 0)) := by
  intro t ht
  subst hy hz
  by_cases e : t = r
  · subst e
    rw [upd_eq, if_pos rfl, hf t ht, nI_add]
  · rw [upd_ne e, if_neg (fun d => e d.symm), hf t ht]; rfl
/-! gcd -/
theorem gcd_st {a b : Nat} : Nat.gcd a b = Nat.gcd b (a % b) := by
  rw [Nat.gcd_comm a b, Nat.gcd_rec b a, Nat.gcd_comm]
theorem C_gcd {F : FT} {R : RT} {J : JT} {P : PT} {B : BT} {K : Int32 → FT → RT → JT → PT → BT → Prop} : ∀ e a b i, b < 2 ^ e → i + 2 * e ≤ 98 → a < 2 ^ 31 → b < 2 ^ 31 → K (nI (Nat.gcd a b)) F R J P B → ∃ n, qW_commonDivisor_7 n F R J P B (nI a) (nI b) (nI i) K := by
  have stop : ∀ a b i, b = 0 → i ≤ 99 → a < 2 ^ 31 → K (nI (Nat.gcd a b)) F R J P B → qW_commonDivisor_7 1 F R J P B (nI a) (nI b) (nI i) K := by
    intro a b i hb hi ha k
    subst hb
    rw [Nat.gcd_zero_right] at k
    unfold qW_commonDivisor_7
    exact pk_le 100 i (fun c => by omega) (fun _ => ⟨fun _ => k, fun d => absurd rfl d⟩)
  have one : ∀ n a b i, b ≠ 0 → i ≤ 99 → a < 2 ^ 31 → b < 2 ^ 31 → qW_commonDivisor_7 n F R J P B (nI b) (nI (a % b)) (nI (i + 1)) K → qW_commonDivisor_7 (n + 1) F R J P B (nI a) (nI b) (nI i) K := by
    intro n a b i hb hi ha hb2 k
    unfold qW_commonDivisor_7
    rw [pk_rem ha (by omega) hb2, nI_1]
    have nb : ¬ nI b = 0 := fun d => hb ((n_eq (b := 0) hb2 (by omega)).mp d)
    exact pk_le 100 i (fun c => by omega) (fun _ => ⟨fun d => absurd d nb, fun _ => ⟨nb, k⟩⟩)
  intro e
  induction e with
  | zero => intro a b i hb hi ha hb2 k; exact ⟨1, stop a b i (by omega) (by omega) ha k⟩
  | succ e ih =>
    intro a b i hb hi ha hb2 k
    by_cases b0 : b = 0
    · exact ⟨1, stop a b i b0 (by omega) ha k⟩
    have r1 : a % b < b := Nat.mod_lt _ (by omega)
    rw [gcd_st] at k
    by_cases r0 : a % b = 0
    · exact ⟨2, one 1 a b i b0 (by omega) ha hb2 (stop b (a % b) (i + 1) r0 (by omega) hb2 k)⟩
    rw [gcd_st] at k
    have r2 : b % (a % b) < a % b := Nat.mod_lt _ (by omega)
    have r3 : b % (a % b) + (a % b) ≤ b := by
      have h1 := Nat.div_add_mod b (a % b)
      have h2 : 1 ≤ b / (a % b) := (Nat.one_le_div_iff (by omega)).mpr (by omega)
      have h3 := Nat.mul_le_mul_left (a % b) h2
      omega
    obtain ⟨n, hn⟩ := ih (a % b) (b % (a % b)) (i + 1 + 1) (by rw [Nat.pow_succ] at hb; omega) (by omega) (by omega) (by omega) k
    exact ⟨n + 1 + 1, one (n + 1) a b i b0 (by omega) ha hb2 (one n b (a % b) (i + 1) r0 (by omega) hb2 (by omega) hn)⟩
theorem M_gcd {F : FT} {R : RT} {J : JT} {K : Int32 → FT → RT → JT → Prop} {v2 v3 v4 : Int32} {G : Nat} (hG : 1 ≤ G) (hG2 : G < 2 ^ 31) (hK : (¬ v2 = 0 → K (v3 / nI G) F R J) ∧ (v2 = 0 → K (v4 / nI G) F R J)) : ∀ N a b, b ≤ N → a < 2 ^ 31 → b < 2 ^ 31 → Nat.gcd a b = G → ∃ n, qM_mean_149 n F R J v2 v3 v4 (nI a) (nI b) K := by
  have nG : ¬ nI G = 0 := fun d => by have := (n_eq (b := 0) hG2 (by omega)).mp d; omega
  intro N
  induction N with
  | zero =>
    intro a b hb ha hb2 hg
    have b0 : b = 0 := Nat.le_zero.mp hb
    subst b0
    rw [Nat.gcd_zero_right] at hg
    subst hg
    refine ⟨1, ?_⟩
    unfold qM_mean_149
    exact ⟨fun _ => ⟨fun c => ⟨nG, hK.1 c⟩, fun c => ⟨nG, hK.2 c⟩⟩, fun d => absurd rfl d⟩
  | succ N ih =>
    intro a b hb ha hb2 hg
    by_cases b0 : b = 0
    · subst b0
      rw [Nat.gcd_zero_right] at hg
      subst hg
      refine ⟨1, ?_⟩
      unfold qM_mean_149
      exact ⟨fun _ => ⟨fun c => ⟨nG, hK.1 c⟩, fun c => ⟨nG, hK.2 c⟩⟩, fun d => absurd rfl d⟩
    have r1 : a % b < b := Nat.mod_lt _ (by omega)
    rw [gcd_st] at hg
    obtain ⟨n, hn⟩ := ih b (a % b) (by omega) hb2 (by omega) hg
    refine ⟨n + 1, ?_⟩
    unfold qM_mean_149
    rw [pk_rem ha (by omega) hb2]
    have nb : ¬ nI b = 0 := fun d => b0 ((n_eq (b := 0) hb2 (by omega)).mp d)
    exact ⟨fun d => absurd d nb, fun _ => ⟨nb, hn⟩⟩
