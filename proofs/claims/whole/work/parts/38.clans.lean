/-! clans, pure: sets as naturals -/
def wiS (σ : Nat → Nat) (v s a acc : Nat) : Nat → Nat
  | 0 => acc
  | b + 1 => if s.testBit a = true ∧ v ≤ kn σ a b then wiS σ v s a acc b ||| 2 ^ b else wiS σ v s a acc b
def woS (σ : Nat → Nat) (v s : Nat) : Nat → Nat
  | 0 => s
  | a + 1 => wiS σ v s a (woS σ v s a) (σ 1)
/-- all who are near one of a set, and the set -/
def stS (σ : Nat → Nat) (v s : Nat) : Nat := woS σ v s (σ 1)
def itS (σ : Nat → Nat) (v s : Nat) : Nat → Nat
  | 0 => s
  | k + 1 => stS σ v (itS σ v s k)
/-- the clan of p -/
def cnS (σ : Nat → Nat) (v p : Nat) : Nat := itS σ v (2 ^ p) 8
theorem wi_bit {σ : Nat → Nat} {v s a acc : Nat} (i : Nat) : ∀ b, (wiS σ v s a acc b).testBit i = true ↔ acc.testBit i = true ∨ (i < b ∧ s.testBit a = true ∧ v ≤ kn σ a i)
  | 0 => by simp [wiS]
  | b + 1 => by
    have ih := wi_bit (σ := σ) (v := v) (s := s) (a := a) (acc := acc) i b
    unfold wiS
    split
    · rename_i h
      rw [Nat.testBit_or, Bool.or_eq_true, ih, Nat.testBit_two_pow]
      constructor
      · rintro ((h1 | h1) | h1)
        · exact Or.inl h1
        · exact Or.inr ⟨by omega, h1.2⟩
        · have e : b = i := by simpa using h1
          subst e
          exact Or.inr ⟨by omega, h⟩
      · rintro (h1 | ⟨h1, h2⟩)
        · exact Or.inl (Or.inl h1)
        · rcases Nat.lt_or_ge i b with q | q
          · exact Or.inl (Or.inr ⟨q, h2⟩)
          · exact Or.inr (by simp; omega)
    · rename_i h
      rw [ih]
      constructor
      · rintro (h1 | h1)
        · exact Or.inl h1
        · exact Or.inr ⟨by omega, h1.2⟩
      · rintro (h1 | ⟨h1, h2⟩)
        · exact Or.inl h1
        · rcases Nat.lt_or_ge i b with q | q
          · exact Or.inr ⟨q, h2⟩
          · have e : i = b := by omega
            subst e
            exact absurd h2 h
theorem wo_bit {σ : Nat → Nat} {v s : Nat} (i : Nat) : ∀ n, (woS σ v s n).testBit i = true ↔ s.testBit i = true ∨ ∃ a, a < n ∧ i < σ 1 ∧ s.testBit a = true ∧ v ≤ kn σ a i
  | 0 => by simp [woS]
  | n + 1 => by
    have ih := wo_bit (σ := σ) (v := v) (s := s) i n
    rw [woS, wi_bit, ih]
    constructor
    · rintro ((h | ⟨a, h1, h2⟩) | h)
      · exact Or.inl h
      · exact Or.inr ⟨a, by omega, h2⟩
      · exact Or.inr ⟨n, by omega, h⟩
    · rintro (h | ⟨a, h1, h2⟩)
      · exact Or.inl (Or.inl h)
      · rcases Nat.lt_or_ge a n with q | q
        · exact Or.inl (Or.inr ⟨a, q, h2⟩)
        · have e : a = n := by omega
          subst e
          exact Or.inr h2
theorem st_bit {σ : Nat → Nat} {v s : Nat} (i : Nat) : (stS σ v s).testBit i = true ↔ s.testBit i = true ∨ ∃ a, a < σ 1 ∧ i < σ 1 ∧ s.testBit a = true ∧ v ≤ kn σ a i := wo_bit i (σ 1)
/-- one set in another -/
def sIn (s t : Nat) : Prop := ∀ i, s.testBit i = true → t.testBit i = true
theorem sIn.rf {s : Nat} : sIn s s := fun _ h => h
theorem sIn.tr {s t u : Nat} (h1 : sIn s t) (h2 : sIn t u) : sIn s u := fun i h => h2 i (h1 i h)
theorem sIn.eq {s t : Nat} (h1 : sIn s t) (h2 : sIn t s) : s = t := by
  apply Nat.eq_of_testBit_eq
  intro i
  rw [Bool.eq_iff_iff]
  exact ⟨h1 i, h2 i⟩
theorem st_up (σ : Nat → Nat) (v s : Nat) : sIn s (stS σ v s) := fun i h => (st_bit i).mpr (Or.inl h)
theorem st_mono {σ : Nat → Nat} {v s t : Nat} (h : sIn s t) : sIn (stS σ v s) (stS σ v t) := fun i hi => (st_bit i).mpr (by
  rcases (st_bit i).mp hi with q | ⟨a, h1, h2, h3, h4⟩
  · exact Or.inl (h i q)
  · exact Or.inr ⟨a, h1, h2, h a h3, h4⟩)
theorem st_anti {σ : Nat → Nat} {v v' s : Nat} (h : v ≤ v') : sIn (stS σ v' s) (stS σ v s) := fun i hi => (st_bit i).mpr (by
  rcases (st_bit i).mp hi with q | ⟨a, h1, h2, h3, h4⟩
  · exact Or.inl q
  · exact Or.inr ⟨a, h1, h2, h3, Nat.le_trans h h4⟩)
theorem it_mono {σ : Nat → Nat} {v s t : Nat} (h : sIn s t) : ∀ k, sIn (itS σ v s k) (itS σ v t k)
  | 0 => h
  | k + 1 => st_mono (it_mono h k)
theorem it_anti {σ : Nat → Nat} {v v' s : Nat} (h : v ≤ v') : ∀ k, sIn (itS σ v' s k) (itS σ v s k)
  | 0 => sIn.rf
  | k + 1 => (st_anti h).tr (st_mono (it_anti h k))
theorem it_fix {σ : Nat → Nat} {v s : Nat} (h : stS σ v s = s) : ∀ k, itS σ v s k = s
  | 0 => rfl
  | k + 1 => by rw [itS, it_fix h k, h]
theorem it_add {σ : Nat → Nat} {v s : Nat} (j : Nat) : ∀ k, itS σ v s (j + k) = itS σ v (itS σ v s j) k
  | 0 => rfl
  | k + 1 => by rw [← Nat.add_assoc, itS, itS, it_add j k]
theorem it_up (σ : Nat → Nat) (v s : Nat) : ∀ k, sIn s (itS σ v s k)
  | 0 => sIn.rf
  | k + 1 => (it_up σ v s k).tr (st_up σ v _)
/-- how many -/
def cbS (s : Nat) : Nat → Nat
  | 0 => 0
  | n + 1 => cbS s n + (if s.testBit n = true then 1 else 0)
theorem cb_le (s : Nat) : ∀ n, cbS s n ≤ n
  | 0 => Nat.le_refl _
  | n + 1 => by
    have := cb_le s n
    unfold cbS
    split <;> omega
theorem cb_mono {s t : Nat} (h : sIn s t) : ∀ n, cbS s n ≤ cbS t n
  | 0 => Nat.le_refl _
  | n + 1 => by
    have := cb_mono h n
    unfold cbS
    by_cases q : s.testBit n = true
    · rw [if_pos q, if_pos (h n q)]; omega
    · rw [if_neg q]; omega
theorem cb_lt {s t i : Nat} (h : sIn s t) (h1 : t.testBit i = true) (h2 : ¬ s.testBit i = true) : ∀ n, i < n → cbS s n < cbS t n
  | 0, hi => absurd hi (by omega)
  | n + 1, hi => by
    unfold cbS
    rcases Nat.lt_or_ge i n with q | q
    · have := cb_lt h h1 h2 n q
      by_cases q2 : s.testBit n = true
      · rw [if_pos q2, if_pos (h n q2)]; omega
      · rw [if_neg q2]; omega
    · have e : i = n := by omega
      subst e
      have := cb_mono h i
      rw [if_neg h2, if_pos h1]
      omega
theorem cb_all {s : Nat} : ∀ {n : Nat}, n ≤ cbS s n → ∀ i, i < n → s.testBit i = true
  | 0, _, i, hi => absurd hi (by omega)
  | n + 1, h, i, hi => by
    have h1 := cb_le s n
    unfold cbS at h
    by_cases q : s.testBit n = true
    · rw [if_pos q] at h
      rcases Nat.lt_or_ge i n with q2 | q2
      · exact cb_all (n := n) (by omega) i q2
      · have e : i = n := by omega
        subst e
        exact q
    · rw [if_neg q] at h
      omega
/-- a set of the first n -/
def sLt (s n : Nat) : Prop := ∀ i, s.testBit i = true → i < n
theorem sLt_lt {s n : Nat} (h : sLt s n) : s < 2 ^ n := by
  apply Nat.lt_pow_two_of_testBit
  intro i hi
  by_cases q : s.testBit i = true
  · exact absurd (h i q) (by omega)
  · simpa using q
theorem sLt_st {σ : Nat → Nat} {v s : Nat} (h : sLt s (σ 1)) : sLt (stS σ v s) (σ 1) := fun i hi => by
  rcases (st_bit i).mp hi with q | ⟨a, h1, h2, h3, h4⟩
  · exact h i q
  · exact h2
theorem sLt_it {σ : Nat → Nat} {v s : Nat} (h : sLt s (σ 1)) : ∀ k, sLt (itS σ v s k) (σ 1)
  | 0 => h
  | k + 1 => sLt_st (sLt_it h k)
theorem sLt_one {p n : Nat} (h : p < n) : sLt (2 ^ p) n := fun i hi => by
  rw [Nat.testBit_two_pow] at hi
  have : p = i := by simpa using hi
  omega
theorem st_ne {σ : Nat → Nat} {v s : Nat} (hs : sLt s (σ 1)) (h : ¬ stS σ v s = s) : cbS s (σ 1) < cbS (stS σ v s) (σ 1) := by
  by_cases q : ∃ i, (stS σ v s).testBit i = true ∧ ¬ s.testBit i = true
  · obtain ⟨i, h1, h2⟩ := q
    exact cb_lt (st_up σ v s) h1 h2 _ (sLt_st hs i h1)
  · refine absurd (sIn.eq (fun i hi => ?_) (st_up σ v s)) h
    by_cases q2 : s.testBit i = true
    · exact q2
    · exact absurd ⟨i, hi, q2⟩ q
/-- behind n - 1 steps nobody comes -/
theorem it_grow {σ : Nat → Nat} {v s : Nat} (hs : sLt s (σ 1)) (h1 : 1 ≤ cbS s (σ 1)) : ∀ k, stS σ v (itS σ v s k) = itS σ v s k ∨ k + 1 ≤ cbS (itS σ v s k) (σ 1)
  | 0 => Or.inr h1
  | k + 1 => by
    rcases it_grow hs h1 k with q | q
    · left
      rw [itS, q, q]
    · by_cases h : stS σ v (itS σ v s k) = itS σ v s k
      · left
        rw [itS, h, h]
      · right
        have := st_ne (sLt_it hs k) h
        rw [itS]
        omega
theorem cb_one {p : Nat} : ∀ {n : Nat}, p < n → 1 ≤ cbS (2 ^ p) n
  | 0, h => absurd h (by omega)
  | n + 1, h => by
    unfold cbS
    rcases Nat.lt_or_ge p n with q | q
    · have := cb_one q
      omega
    · have e : p = n := by omega
      subst e
      rw [if_pos (by rw [Nat.testBit_two_pow]; simp)]
      omega
theorem it_end {σ : Nat → Nat} {v p k : Nat} (hp : p < σ 1) (hk : σ 1 ≤ k + 1) : stS σ v (itS σ v (2 ^ p) k) = itS σ v (2 ^ p) k := by
  rcases it_grow (v := v) (sLt_one hp) (cb_one hp) k with q | q
  · exact q
  · refine sIn.eq (fun i hi => ?_) (st_up σ v _)
    exact cb_all (by omega) i (sLt_st (sLt_it (sLt_one hp) k) i hi)
theorem it_same {σ : Nat → Nat} {v s j k : Nat} (h : stS σ v (itS σ v s j) = itS σ v s j) (hk : j ≤ k) : itS σ v s k = itS σ v s j := by
  obtain ⟨m, rfl⟩ : ∃ m, k = j + m := ⟨k - j, by omega⟩
  rw [it_add, it_fix h]
theorem cn_fix {σ : Nat → Nat} {v p : Nat} (h8 : σ 1 ≤ 8) (hp : p < σ 1) : stS σ v (cnS σ v p) = cnS σ v p := it_end hp (by omega)
theorem cn_self (σ : Nat → Nat) (v p : Nat) : (cnS σ v p).testBit p = true := it_up σ v _ 8 p (by rw [Nat.testBit_two_pow]; simp)
theorem cn_lt {T : Nat} {σ : Nat → Nat} (I : Iv T σ) {v p : Nat} (hp : p < σ 1) : cnS σ v p < 256 := by
  have h8 := I.2.1
  have := sLt_lt (sLt_it (v := v) (sLt_one hp) 8)
  have h2 := Nat.pow_le_pow_right (n := 2) (by decide) h8
  exact Nat.lt_of_lt_of_le this h2
theorem it_lt {T : Nat} {σ : Nat → Nat} (I : Iv T σ) {v p : Nat} (hp : p < σ 1) (k : Nat) : itS σ v (2 ^ p) k < 256 := by
  have h8 := I.2.1
  have := sLt_lt (sLt_it (v := v) (sLt_one hp) k)
  have h2 := Nat.pow_le_pow_right (n := 2) (by decide) h8
  exact Nat.lt_of_lt_of_le this h2
/-- who is in a clan has it about -/
theorem cn_in {σ : Nat → Nat} {v p q : Nat} (h8 : σ 1 ≤ 8) (hp : p < σ 1) (h : (cnS σ v p).testBit q = true) : sIn (cnS σ v q) (cnS σ v p) := by
  have h1 : sIn (2 ^ q) (cnS σ v p) := fun i hi => by
    rw [Nat.testBit_two_pow] at hi
    have e : q = i := by simpa using hi
    subst e
    exact h
  have h2 := it_mono (σ := σ) (v := v) h1 8
  rw [it_fix (cn_fix h8 hp)] at h2
  exact h2
/-- those of the clans of the first p; how many clans -/
def csS (σ : Nat → Nat) (v : Nat) : Nat → Nat
  | 0 => 0
  | p + 1 => csS σ v p ||| cnS σ v p
def ccS (σ : Nat → Nat) (v : Nat) : Nat → Nat
  | 0 => 0
  | p + 1 => ccS σ v p + (if (csS σ v p).testBit p = true then 0 else 1)
theorem cs_bit {σ : Nat → Nat} {v i : Nat} : ∀ p, (csS σ v p).testBit i = true ↔ ∃ q, q < p ∧ (cnS σ v q).testBit i = true
  | 0 => by simp [csS]
  | p + 1 => by
    rw [csS, Nat.testBit_or, Bool.or_eq_true, cs_bit p]
    constructor
    · rintro (⟨q, h1, h2⟩ | h)
      · exact ⟨q, by omega, h2⟩
      · exact ⟨p, by omega, h⟩
    · rintro ⟨q, h1, h2⟩
      rcases Nat.lt_or_ge q p with z | z
      · exact Or.inl ⟨q, z, h2⟩
      · have e : q = p := by omega
        subst e
        exact Or.inr h2
theorem cs_seen {σ : Nat → Nat} {v p : Nat} (h8 : σ 1 ≤ 8) (hp : p ≤ σ 1) (h : (csS σ v p).testBit p = true) : csS σ v p ||| cnS σ v p = csS σ v p := by
  refine sIn.eq (fun i hi => ?_) (fun i hi => by rw [Nat.testBit_or, hi]; rfl)
  rw [Nat.testBit_or, Bool.or_eq_true] at hi
  rcases hi with hi | hi
  · exact hi
  · obtain ⟨q, h1, h2⟩ := (cs_bit p).mp h
    exact (cs_bit p).mpr ⟨q, h1, cn_in h8 (by omega) h2 i hi⟩
theorem cs_lt {T : Nat} {σ : Nat → Nat} (I : Iv T σ) {v : Nat} : ∀ {p : Nat}, p ≤ σ 1 → csS σ v p < 256
  | 0, _ => (by decide : (0 : Nat) < 256)
  | p + 1, h => Nat.or_lt_two_pow (n := 8) (cs_lt I (by omega)) (cn_lt I (by omega))
theorem cc_le (σ : Nat → Nat) (v : Nat) : ∀ p, ccS σ v p ≤ p
  | 0 => Nat.le_refl _
  | p + 1 => by
    have := cc_le σ v p
    unfold ccS
    split <;> omega
theorem cc_pos (σ : Nat → Nat) (v : Nat) : ∀ {p : Nat}, 0 < p → 0 < ccS σ v p
  | 0, h => absurd h (by omega)
  | 1, _ => by simp [ccS, csS]
  | p + 2, _ => by
    have := cc_pos σ v (p := p + 1) (by omega)
    rw [ccS]
    omega
/-- how many clans -/
def clansS (σ : Nat → Nat) (v : Nat) : Nat := ccS σ v (σ 1)
