/-! sets that differ in those alone who aren't there are the same to what a sheet tells; how many fit, and the first -/
def eqv (σ τ : Nat → Nat) : Prop := (∀ j, ¬ (15 ≤ j ∧ j < 21) → σ j = τ j) ∧ ∀ j, 15 ≤ j → j < 21 → σ j % 2 ^ σ 1 = τ j % 2 ^ σ 1
section EQ
variable {σ τ : Nat → Nat}
theorem eqv.g_ (h : eqv σ τ) : gi σ = gi τ := by
  unfold gi
  rw [h.2 (15 + σ 0 % 6) (by omega) (by omega), h.1 0 (by omega), h.1 1 (by omega), h.1 4 (by omega)]
theorem eqv.cl (h : eqv σ τ) {p : Nat} : ∀ n, clS σ p n = clS τ p n
  | 0 => rfl
  | n + 1 => by rw [clS, clS, eqv.cl h n, h.1 (37 + 8 * p + n) (by omega)]
theorem eqv.b (h : eqv σ τ) (p : Nat) : bS σ p = bS τ p := by
  unfold bS
  rw [h.cl, h.1 (21 + p) (by omega), h.1 (29 + p) (by omega), h.1 0 (by omega), h.1 3 (by omega), h.1 1 (by omega)]
theorem eqv.f (h : eqv σ τ) (p : Nat) : fS σ p = fS τ p := by
  unfold fS
  rw [h.1 (21 + p) (by omega), h.1 3 (by omega)]
theorem eqv.n_ (h : eqv σ τ) (a b : Nat) : nk σ a b = nk τ a b := by
  unfold nk
  rw [h.g_, h.b, h.b, h.f, h.f, h.1 (37 + 8 * a + b) (by omega), h.1 3 (by omega)]
theorem eqv.turn (h : eqv σ τ) : eqv (tS σ) (tS τ) := by
  refine ⟨fun j hj => ?_, fun j h1 h2 => ?_⟩
  · unfold tS
    rw [h.n_, h.g_, h.1 0 (by omega), h.1 1 (by omega), h.1 j hj]
  · rw [tS_lo (by omega) (by omega) (by omega), tS_lo (by omega) (by omega) (by omega), tS_lo (by omega) (by omega) (by omega)]
    exact h.2 j h1 h2
theorem eqv.turns (h : eqv σ τ) : ∀ n, eqv (tN σ n) (tN τ n)
  | 0 => h
  | n + 1 => (eqv.turns h n).turn
theorem eqv.v (h : eqv σ τ) (a b : Nat) : vS a b σ = vS a b τ := by
  unfold vS skS
  rw [h.1 1 (by omega), s1_cong (f := kn σ a) (g := kn τ a) (fun i _ => h.1 (37 + 8 * a + i) (by omega))]
  split
  · rfl
  · exact h.1 (37 + 8 * a + (b - 1)) (by omega)
theorem eqv.gt (h : eqv σ τ) {a b : Nat} {f : Nat → Int32} : ∀ n, gtS a b σ f n = gtS a b τ f n
  | 0 => rfl
  | n + 1 => by rw [gtS, gtS, eqv.gt h n, (h.turns n).v]
end EQ
/-- whether a set fits -/
def ftP (a b i : Nat) (σ : Nat → Nat) (f : Nat → Int32) (n s : Nat) : Bool := gtS a b (su σ (15 + i) s) f n
theorem ft_mod {a b i n : Nat} {σ : Nat → Nat} {f : Nat → Int32} (hi : i < 6) (s : Nat) : ftP a b i σ f n (s % 2 ^ σ 1) = ftP a b i σ f n s := by
  unfold ftP
  refine eqv.gt ⟨fun j hj => ?_, fun j h1 h2 => ?_⟩ n
  · rw [su_n (by omega), su_n (by omega)]
  · rw [su_n (k := 15 + i) (j := 1) (by omega)]
    by_cases e : j = 15 + i
    · rw [e, su_s, su_s, Nat.mod_mod]
    · rw [su_n e, su_n e]
/-- how many of k from i on -/
def cnF (P : Nat → Bool) (i : Nat) : Nat → Nat
  | 0 => 0
  | k + 1 => (if P i = true then 1 else 0) + cnF P (i + 1) k
theorem cw_le (P : Nat → Bool) : ∀ k i, cnF P i k ≤ k
  | 0, _ => Nat.le_refl _
  | k + 1, i => by
    have := cw_le P k (i + 1)
    rw [cnF]
    split <;> omega
theorem cw_add (P : Nat → Bool) (l : Nat) : ∀ k i, cnF P i (k + l) = cnF P i k + cnF P (i + k) l
  | 0, i => by rw [Nat.zero_add, cnF, Nat.zero_add, Nat.add_zero]
  | k + 1, i => by
    rw [show k + 1 + l = (k + l) + 1 by omega, cnF, cnF, cw_add P l k (i + 1), show i + 1 + k = i + (k + 1) by omega]
    omega
theorem cw_eq {P : Nat → Bool} : ∀ {k i j : Nat}, (∀ m, m < k → P (i + m) = P (j + m)) → cnF P i k = cnF P j k
  | 0, _, _, _ => rfl
  | k + 1, i, j, h => by
    have h0 := h 0 (by omega)
    rw [Nat.add_zero, Nat.add_zero] at h0
    rw [cnF, cnF, h0, cw_eq (k := k) (i := i + 1) (j := j + 1) (fun m hm => by
      have := h (m + 1) (by omega)
      rw [show i + 1 + m = i + (m + 1) by omega, show j + 1 + m = j + (m + 1) by omega]; exact this)]
theorem cw_mul {P : Nat → Bool} {N : Nat} (h : ∀ s, P (s % N) = P s) : ∀ q, cnF P 0 (N * q) = cnF P 0 N * q
  | 0 => rfl
  | q + 1 => by
    rw [Nat.mul_succ, Nat.mul_succ, cw_add, cw_mul h q, Nat.zero_add, cw_eq (i := N * q) (j := 0) (fun m _ => by rw [← h (N * q + m), ← h (0 + m), Nat.mul_add_mod, Nat.zero_add])]
theorem cw_256 {P : Nat → Bool} {n : Nat} (hn : n ≤ 8) (h : ∀ s, P (s % 2 ^ n) = P s) : cnF P 0 256 = cnF P 0 (2 ^ n) * 2 ^ (8 - n) := by
  have e := cw_mul h (2 ^ (8 - n))
  rw [← Nat.pow_add, show n + (8 - n) = 8 by omega] at e
  exact e
theorem fi_256 {P : Nat → Bool} {n : Nat} (hn : n ≤ 8) (h : ∀ s, P (s % 2 ^ n) = P s) : fiS P 0 256 = fiS P 0 (2 ^ n) := by
  have hN : 2 ^ n ≤ 256 := Nat.pow_le_pow_right (n := 2) (by decide) hn
  have h0 : 0 < 2 ^ n := Nat.two_pow_pos _
  rcases fi_is P 256 0 with ⟨e1, a1⟩ | ⟨m, e1, -, a2, a3, a4⟩
  · rcases fi_is P (2 ^ n) 0 with ⟨e2, -⟩ | ⟨k, e2, -, b2, b3, -⟩
    · rw [e1, e2]
    · exact absurd b3 (a1 k (by omega) (by omega))
  · have lt := Nat.mod_lt m h0
    have le := Nat.mod_le m (2 ^ n)
    have pm : P (m % 2 ^ n) = true := by rw [h m]; exact a3
    have em : m % 2 ^ n = m := by
      by_cases q : m % 2 ^ n < m
      · exact absurd pm (a4 _ (by omega) q)
      · omega
    rcases fi_is P (2 ^ n) 0 with ⟨e2, b1⟩ | ⟨k, e2, -, b2, b3, b4⟩
    · exact absurd pm (b1 _ (by omega) (by omega))
    · have l1 : ¬ k < m := fun q => a4 k (by omega) q b3
      have l2 : ¬ m < k := fun q => b4 m (by omega) q a3
      rw [e1, e2]; omega
