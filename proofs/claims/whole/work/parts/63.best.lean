/-! the best set: fewest, and of those the least; as the reference finds it, as the class does -/
def bqS (ok : Nat → Bool) : Nat → Nat
  | 0 => 0
  | s + 1 => if (bqS ok s = 0 ∨ cbS s 8 < cbS (bqS ok s - 1) 8) ∧ ok s = true then s + 1 else bqS ok s
def bOk (ok : Nat → Bool) (N m : Nat) : Prop := m < N ∧ ok m = true ∧ ∀ s, s < N → ok s = true → cbS m 8 < cbS s 8 ∨ (cbS m 8 = cbS s 8 ∧ m ≤ s)
def bIs (ok : Nat → Bool) (N f : Nat) : Prop := (f = 0 ∧ ∀ s, s < N → ¬ ok s = true) ∨ (∃ m, f = m + 1 ∧ bOk ok N m)
theorem bIs.eq {ok : Nat → Bool} {N f g : Nat} (h1 : bIs ok N f) (h2 : bIs ok N g) : f = g := by
  rcases h1 with ⟨e1, a1⟩ | ⟨m, e1, a1, a2, a3⟩
  · rcases h2 with ⟨e2, -⟩ | ⟨n, e2, b1, b2, -⟩
    · omega
    · exact absurd b2 (a1 n b1)
  · rcases h2 with ⟨e2, b1⟩ | ⟨n, e2, b1, b2, b3⟩
    · exact absurd a2 (b1 m a1)
    · have q1 := a3 n b1 b2
      have q2 := b3 m a1 a2
      omega
theorem bq_is (ok : Nat → Bool) : ∀ N, bIs ok N (bqS ok N)
  | 0 => Or.inl ⟨rfl, fun s h => absurd h (by omega)⟩
  | N + 1 => by
    have ih := bq_is ok N
    rw [bqS]
    rcases ih with ⟨e, a⟩ | ⟨m, e, a1, a2, a3⟩
    · by_cases c : ok N = true
      · rw [if_pos ⟨Or.inl e, c⟩]
        refine Or.inr ⟨N, rfl, by omega, c, fun s hs o => ?_⟩
        by_cases q : s = N
        · subst q; exact Or.inr ⟨rfl, Nat.le_refl _⟩
        · exact absurd o (a s (by omega))
      · rw [if_neg (fun q => c q.2)]
        refine Or.inl ⟨e, fun s hs o => ?_⟩
        by_cases q : s = N
        · subst q; exact c o
        · exact a s (by omega) o
    · rw [e]
      by_cases c : cbS N 8 < cbS m 8 ∧ ok N = true
      · rw [if_pos ⟨Or.inr (by rw [Nat.add_sub_cancel]; exact c.1), c.2⟩]
        refine Or.inr ⟨N, rfl, by omega, c.2, fun s hs o => ?_⟩
        by_cases q : s = N
        · subst q; exact Or.inr ⟨rfl, Nat.le_refl _⟩
        · have := a3 s (by omega) o
          have c1 := c.1
          omega
      · rw [if_neg (fun q => c ⟨by rcases q.1 with q1 | q1; exact absurd q1 (by omega); rw [Nat.add_sub_cancel] at q1; exact q1, q.2⟩)]
        refine Or.inr ⟨m, rfl, by omega, a2, fun s hs o => ?_⟩
        by_cases q : s = N
        · subst q
          have : ¬ cbS s 8 < cbS m 8 := fun z => c ⟨z, o⟩
          omega
        · exact a3 s (by omega) o
theorem fi_is (P : Nat → Bool) : ∀ (k i : Nat), (fiS P i k = 0 ∧ ∀ s, i ≤ s → s < i + k → ¬ P s = true) ∨ (∃ m, fiS P i k = m + 1 ∧ i ≤ m ∧ m < i + k ∧ P m = true ∧ ∀ s, i ≤ s → s < m → ¬ P s = true)
  | 0, i => Or.inl ⟨rfl, fun s h1 h2 => absurd h2 (by omega)⟩
  | k + 1, i => by
    rw [fiS]
    by_cases c : P i = true
    · rw [if_pos c]
      exact Or.inr ⟨i, rfl, Nat.le_refl _, by omega, c, fun s h1 h2 => absurd h2 (by omega)⟩
    · rw [if_neg c]
      rcases fi_is P k (i + 1) with ⟨e, a⟩ | ⟨m, e, a1, a2, a3, a4⟩
      · refine Or.inl ⟨e, fun s h1 h2 => ?_⟩
        by_cases q : s = i
        · subst q; exact c
        · exact a s (by omega) (by omega)
      · refine Or.inr ⟨m, e, by omega, by omega, a3, fun s h1 h2 => ?_⟩
        by_cases q : s = i
        · subst q; exact c
        · exact a4 s (by omega) (by omega)
/-- the class: for each count its first -/
def cP (ok : Nat → Bool) (many s : Nat) : Bool := decide (cbS s 8 = many) && ok s
theorem cP_t {ok : Nat → Bool} {many s : Nat} : cP ok many s = true ↔ cbS s 8 = many ∧ ok s = true := by
  unfold cP
  rw [Bool.and_eq_true, decide_eq_true_eq]
def oqS (ok : Nat → Bool) (N many : Nat) : Nat → Nat
  | 0 => 0
  | k + 1 => if fiS (cP ok many) 0 N = 0 then oqS ok N (many + 1) k else fiS (cP ok many) 0 N
theorem oq_is {ok : Nat → Bool} {N n : Nat} (hc : ∀ s, s < N → cbS s 8 ≤ n) : ∀ (k many : Nat), many + k = n + 1 → (∀ s, s < N → ok s = true → many ≤ cbS s 8) → bIs ok N (oqS ok N many k)
  | 0, many, h, a => Or.inl ⟨rfl, fun s hs o => by have := hc s hs; have := a s hs o; omega⟩
  | k + 1, many, h, a => by
    rw [oqS]
    rcases fi_is (cP ok many) N 0 with ⟨e, b⟩ | ⟨m, e, b1, b2, b3, b4⟩
    · rw [if_pos e]
      refine oq_is hc k (many + 1) (by omega) (fun s hs o => ?_)
      have q := a s hs o
      have q2 : ¬ cbS s 8 = many := fun z => b s (by omega) (by omega) (cP_t.mpr ⟨z, o⟩)
      omega
    · rw [if_neg (by omega), e]
      rw [cP_t] at b3
      refine Or.inr ⟨m, rfl, by omega, b3.2, fun s hs o => ?_⟩
      have q := a s hs o
      by_cases z : cbS s 8 = many
      · refine Or.inr ⟨by omega, ?_⟩
        by_cases y : s < m
        · exact absurd (cP_t.mpr ⟨z, o⟩) (b4 s (by omega) y)
        · omega
      · exact Or.inl (by omega)
theorem cb_lt8 : ∀ n, n ≤ 8 → ∀ s, s < 2 ^ n → cbS s 8 ≤ n := by decide +kernel
theorem oq_bq {ok : Nat → Bool} {n : Nat} (hn : n ≤ 8) : oqS ok (2 ^ n) 0 (n + 1) = bqS ok (2 ^ n) :=
  (oq_is (cb_lt8 n hn) (n + 1) 0 (by omega) (fun _ _ _ => Nat.zero_le _)).eq (bq_is ok (2 ^ n))
