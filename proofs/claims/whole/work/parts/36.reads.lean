/-! become; sums of kin; who is nearest -/
theorem nP_lt {g k : Nat} (hg : g < 2 ^ 31) (hk : k < 2 ^ 31) : nP g < nI k ↔ g ≤ k := by
  rcases Nat.eq_zero_or_pos g with q | q
  · subst q
    rw [nP_0]
    refine ⟨fun _ => Nat.zero_le _, fun _ => ?_⟩
    rw [Int32.lt_iff_toInt_lt, nI_toInt hk]
    have : (-1 : Int32).toInt = -1 := by decide
    rw [this]
    omega
  · rw [nP_pos q, nI_ltI (by omega) hk]
    omega
def s1 (f : Nat → Nat) : Nat → Nat
  | 0 => 0
  | n + 1 => s1 f n + f n
theorem s1_cong {f g : Nat → Nat} : ∀ {n : Nat}, (∀ i, i < n → f i = g i) → s1 f n = s1 g n
  | 0, _ => rfl
  | n + 1, h => by rw [s1, s1, s1_cong (fun i hi => h i (by omega)), h n (by omega)]
theorem s1_add (f g : Nat → Nat) : ∀ n, s1 (fun i => f i + g i) n = s1 f n + s1 g n
  | 0 => rfl
  | n + 1 => by rw [s1, s1, s1, s1_add f g n]; omega
theorem s1_swap (g : Nat → Nat → Nat) (m : Nat) : ∀ n, s1 (fun a => s1 (g a) m) n = s1 (fun b => s1 (fun a => g a b) n) m
  | 0 => by
    induction m with
    | zero => rfl
    | succ m ih => exact ih
  | n + 1 => by
    rw [s1, s1_swap g m n, ← s1_add]
    exact s1_cong (fun b _ => rfl)
theorem s1_le {f : Nat → Nat} {c : Nat} : ∀ {n : Nat}, (∀ i, i < n → f i ≤ c) → s1 f n ≤ n * c
  | 0, _ => by simp [s1]
  | n + 1, h => by
    have h1 := s1_le (n := n) (fun i hi => h i (by omega))
    have h2 := h n (by omega)
    rw [s1, Nat.succ_mul]
    omega
/-- KIN of a and b -/
abbrev kn (σ : Nat → Nat) (a b : Nat) : Nat := σ (37 + 8 * a + b)
/-- KIN of one to all others together -/
def skS (σ : Nat → Nat) (p : Nat) : Nat := s1 (kn σ p) (σ 1)
/-- KIN of all two together -/
def akS (σ : Nat → Nat) : Nat := s1 (fun a => s1 (fun b => if a < b then kn σ a b else 0) (σ 1)) (σ 1)
theorem ak_2 {T : Nat} {σ : Nat → Nat} (I : Iv T σ) : s1 (fun a => skS σ a) (σ 1) = 2 * akS σ := by
  have h8 := I.2.1
  have e : ∀ a, a < σ 1 → skS σ a = s1 (fun b => if a < b then kn σ a b else 0) (σ 1) + s1 (fun b => if b < a then kn σ b a else 0) (σ 1) := by
    intro a ha
    rw [← s1_add]
    refine s1_cong (fun b hb => ?_)
    have hs := I.2.2.2.2.2.2.2.2.1 a b (by omega) (by omega)
    have hd := I.2.2.2.2.2.2.2.2.2 a (by omega)
    rcases Nat.lt_trichotomy a b with q | q | q
    · rw [if_pos q, if_neg (by omega)]; rfl
    · subst q; rw [if_neg (by omega)]; exact hd
    · rw [if_neg (by omega), if_pos q, Nat.zero_add]; exact hs
  rw [s1_cong e, s1_add, s1_swap (fun a b => if b < a then kn σ b a else 0)]
  unfold akS
  omega
theorem kn_le {T : Nat} {σ : Nat → Nat} (I : Iv T σ) {a b : Nat} (ha : a < 8) (hb : b < 8) : σ (37 + 8 * a + b) ≤ 999 := I.2.2.2.2.2.2.2.1 _ (by omega) (by omega)
theorem sk_le {T : Nat} {σ : Nat → Nat} (I : Iv T σ) {p n : Nat} (hp : p < 8) (hn : n ≤ 8) : s1 (kn σ p) n ≤ 7992 := by
  have := s1_le (f := kn σ p) (c := 999) (n := n) (fun i hi => kn_le I hp (by omega))
  omega
theorem ak_le {T : Nat} {σ : Nat → Nat} (I : Iv T σ) : akS σ ≤ 63936 := by
  have h8 := I.2.1
  have h1 : ∀ a, a < σ 1 → s1 (fun b => if a < b then kn σ a b else 0) (σ 1) ≤ 7992 := fun a ha => by
    have := s1_le (f := fun b => if a < b then kn σ a b else 0) (c := 999) (n := σ 1) (fun i hi => by
      show (if a < i then kn σ a i else 0) ≤ 999
      split
      · exact kn_le I (by omega) (by omega)
      · omega)
    omega
  have := s1_le h1
  unfold akS
  omega
/-- who is nearest to p of the first n, and 1 -/
def nrS (σ : Nat → Nat) (p : Nat) : Nat → Nat
  | 0 => 0
  | n + 1 => if n ≠ p ∧ (nrS σ p n = 0 ∨ kn σ p (nrS σ p n - 1) < kn σ p n) then n + 1 else nrS σ p n
theorem nr_le (σ : Nat → Nat) (p : Nat) : ∀ n, nrS σ p n ≤ n
  | 0 => Nat.le_refl _
  | n + 1 => by
    have := nr_le σ p n
    unfold nrS
    split <;> omega
/-- the two nearest (8 times the lesser and the other, and 1), their kin, and 1 -/
def nqS (σ : Nat → Nat) (a b : Nat) (q : Nat × Nat) : Nat × Nat := if q.2 ≤ kn σ a b then (8 * a + b + 1, kn σ a b + 1) else q
def niS (σ : Nat → Nat) (a : Nat) (q : Nat × Nat) : Nat → Nat × Nat
  | 0 => q
  | b + 1 => if a < b then nqS σ a b (niS σ a q b) else niS σ a q b
def noS (σ : Nat → Nat) : Nat → Nat × Nat
  | 0 => (0, 0)
  | a + 1 => niS σ a (noS σ a) (σ 1)
theorem ni_lo (σ : Nat → Nat) (a : Nat) (q : Nat × Nat) : ∀ b, b ≤ a + 1 → niS σ a q b = q
  | 0, _ => rfl
  | b + 1, h => by rw [niS, if_neg (by omega), ni_lo σ a q b (by omega)]
/-- what holds of the two nearest: the kin is that of the two -/
def nqI (σ : Nat → Nat) (q : Nat × Nat) : Prop := (q.1 = 0 ∧ q.2 = 0) ∨ ∃ a b, a < b ∧ b < σ 1 ∧ q.1 = 8 * a + b + 1 ∧ q.2 = kn σ a b + 1
theorem nq_ok {σ : Nat → Nat} {a b : Nat} {q : Nat × Nat} (hab : a < b) (hb : b < σ 1) (h : nqI σ q) : nqI σ (nqS σ a b q) := by
  unfold nqS
  split
  · exact Or.inr ⟨a, b, hab, hb, rfl, rfl⟩
  · exact h
theorem ni_ok {σ : Nat → Nat} {a : Nat} {q : Nat × Nat} (h : nqI σ q) : ∀ b, b ≤ σ 1 → nqI σ (niS σ a q b)
  | 0, _ => h
  | b + 1, hb => by
    unfold niS
    split
    · rename_i hab
      exact nq_ok hab (by omega) (ni_ok h b (by omega))
    · exact ni_ok h b (by omega)
theorem no_ok (σ : Nat → Nat) : ∀ a, nqI σ (noS σ a)
  | 0 => Or.inl ⟨rfl, rfl⟩
  | a + 1 => ni_ok (no_ok σ a) _ (Nat.le_refl _)
theorem nq_le {T : Nat} {σ : Nat → Nat} (I : Iv T σ) {q : Nat × Nat} (h : nqI σ q) : q.1 ≤ 64 ∧ q.2 ≤ 1000 := by
  have h8 := I.2.1
  rcases h with ⟨h1, h2⟩ | ⟨a, b, h1, h2, h3, h4⟩
  · omega
  · have := kn_le I (a := a) (b := b) (by omega) (by omega)
    have h5 : q.2 = σ (37 + 8 * a + b) + 1 := h4
    omega
section RD
variable {d h : Nat} {σ : Nat → Nat} {z : Int32} {w : mz_M} {T : Nat}
theorem hm_kinToAll (hh : h = 1 ∨ h = 9 ∨ h = 17) (H : Hs h σ z w) (I : Iv T σ) {p : Nat} (hp : p < 8) : mz_Call (d + 2) 7 [.ref h, .int (nI p)] w (some (.int (nI (skS σ p)))) w := by
  have h1 := I.2.1
  have loop : ∀ k n, n + k = σ 1 → mz_Ex cd_X0_kinToAll (mz_Call (d + 1)) (fun r1 w1 => r1 = some (.int (nI (skS σ p))) ∧ w1 = w) 4 [.ref h, .int (nI p), .int (nI (s1 (kn σ p) n)), .int (nI n)] [] w := by
    intro k
    induction k with
    | zero =>
      intro n hn
      refine sg_X0_kinToAll_4 hh ?_
      rw [H.2.2.2.1, nI_ltI (by omega) (by omega)]
      refine ⟨fun c => absurd c (by omega), fun _ => ⟨?_, rfl⟩⟩
      unfold skS
      rw [show n = σ 1 by omega]
    | succ k ih =>
      intro n hn
      refine sg_X0_kinToAll_4 hh ?_
      rw [H.2.2.2.1, nI_ltI (by omega) (by omega)]
      refine ⟨fun c => ⟨_, _, hm_kinOf hh H hp (by omega), ?_⟩, fun c => absurd (show n < σ 1 by omega) c⟩
      rw [nI_add, nI_add]
      exact ih (n + 1) (by omega)
  exact en_X0_kinToAll (sg_X0_kinToAll_0 hh (loop (σ 1) 0 (by omega)))
theorem mm_kinOfOne (M : Ms 38 σ z w) (I : Iv T σ) {p : Nat} (hp : p < 8) : mz_Call (d + 2) 134 [.ref 37, .int (nI p)] w (some (.int (nI (skS σ p)))) w := by
  have h1 := I.2.1
  have loop : ∀ k n, n + k = σ 1 → mz_Ex cd_X4_kinOfOne (mz_Call (d + 1)) (fun r1 w1 => r1 = some (.int (nI (skS σ p))) ∧ w1 = w) 4 [.ref 37, .int (nI p), .int (nI (s1 (kn σ p) n)), .int (nI n)] [] w := by
    intro k
    induction k with
    | zero =>
      intro n hn
      refine sg_X4_kinOfOne_4 ?_
      rw [nc1, M.2.1, nI_ltI (by omega) (by omega)]
      refine ⟨vi1, fun c => absurd c (by omega), fun _ => ⟨?_, rfl⟩⟩
      unfold skS
      rw [show n = σ 1 by omega]
    | succ k ih =>
      intro n hn
      have hih := ih (n + 1) (by omega)
      refine sg_X4_kinOfOne_4 ?_
      rw [nc1, M.2.1, nI_ltI (by omega) (by omega)]
      refine ⟨vi1, fun c => ⟨fun c2 => ?_, fun c2 => ⟨_, _, mm_kinOf M hp (by omega), ?_⟩⟩, fun c => absurd (show n < σ 1 by omega) c⟩
      · rw [nI_eq (by omega) (by omega)] at c2
        rw [nI_add, nI_add]
        rw [s1, show kn σ p n = 0 by rw [c2]; exact I.2.2.2.2.2.2.2.2.2 p hp] at hih
        exact hih
      · rw [nI_add, nI_add]
        exact hih
  exact en_X4_kinOfOne (sg_X4_kinOfOne_0 (loop (σ 1) 0 (by omega)))
theorem hm_allKin (hh : h = 1 ∨ h = 9 ∨ h = 17) (H : Hs h σ z w) (I : Iv T σ) : mz_Call (d + 2) 9 [.ref h] w (some (.int (nI (akS σ)))) w := by
  have h1 := I.2.1
  let g : Nat → Nat → Nat := fun a b => if a < b then kn σ a b else 0
  have outer : ∀ k a j, a + k = σ 1 → mz_Ex cd_X0_allKin (mz_Call (d + 1)) (fun r1 w1 => r1 = some (.int (nI (akS σ))) ∧ w1 = w) 4 [.ref h, .int (nI (s1 (fun a => s1 (g a) (σ 1)) a)), .int (nI a), j] [] w := by
    intro k
    induction k with
    | zero =>
      intro a j ha
      refine sg_X0_allKin_4 hh ?_
      rw [H.2.2.2.1, nI_ltI (by omega) (by omega)]
      refine ⟨fun c => absurd c (by omega), fun _ => ⟨?_, rfl⟩⟩
      unfold akS
      rw [show a = σ 1 by omega]
    | succ k ih =>
      intro a j ha
      have inner : ∀ m b, b + m = σ 1 → a < b → mz_Ex cd_X0_allKin (mz_Call (d + 1)) (fun r1 w1 => r1 = some (.int (nI (akS σ))) ∧ w1 = w) 16 [.ref h, .int (nI (s1 (fun a => s1 (g a) (σ 1)) a + s1 (g a) b)), .int (nI a), .int (nI b)] [] w := by
        intro m
        induction m with
        | zero =>
          intro b hb hab
          refine sg_X0_allKin_16 hh ?_
          rw [H.2.2.2.1, nI_ltI (by omega) (by omega)]
          refine ⟨fun c => absurd c (by omega), fun _ => ?_⟩
          have := ih (a + 1) (.int (nI b)) (by omega)
          rw [s1, ← show b = σ 1 by omega] at this
          rw [nI_add, ← show b = σ 1 by omega]
          exact this
        | succ m ihm =>
          intro b hb hab
          refine sg_X0_allKin_16 hh ?_
          rw [H.2.2.2.1, nI_ltI (by omega) (by omega)]
          refine ⟨fun c => ⟨_, _, hm_kinOf hh H (by omega) (by omega), ?_⟩, fun c => absurd (show b < σ 1 by omega) c⟩
          have := ihm (b + 1) (by omega) (by omega)
          rw [s1, show g a b = kn σ a b from if_pos hab, ← Nat.add_assoc] at this
          rw [nI_add, nI_add]
          exact this
      refine sg_X0_allKin_4 hh ?_
      rw [H.2.2.2.1, nI_ltI (by omega) (by omega)]
      refine ⟨fun c => ?_, fun c => absurd (show a < σ 1 by omega) c⟩
      have h0 : ∀ b, b ≤ a + 1 → s1 (g a) b = 0 := by
        intro b
        induction b with
        | zero => intro _; rfl
        | succ b ihb => intro hb; rw [s1, ihb (by omega), show g a b = 0 from if_neg (by omega)]
      have := inner (σ 1 - (a + 1)) (a + 1) (by omega) (by omega)
      rw [h0 (a + 1) (Nat.le_refl _), Nat.add_zero] at this
      rw [nI_add]
      exact this
  exact en_X0_allKin (sg_X0_allKin_0 hh (outer (σ 1) 0 _ (by omega)))
theorem mm_kinAll (M : Ms 38 σ z w) (I : Iv T σ) : mz_Call (d + 3) 145 [.ref 37] w (some (.int (nI (akS σ)))) w := by
  have h1 := I.2.1
  have hak := ak_le I
  have h2 := ak_2 I
  have loop : ∀ k n, n + k = σ 1 → mz_Ex cd_X4_kinAll (mz_Call (d + 2)) (fun r1 w1 => r1 = some (.int (nI (akS σ))) ∧ w1 = w) 4 [.ref 37, .int (nI (s1 (skS σ) n)), .int (nI n)] [] w := by
    intro k
    induction k with
    | zero =>
      intro n hn
      refine sg_X4_kinAll_4 ?_
      rw [nc1, M.2.1, nI_ltI (by omega) (by omega)]
      refine ⟨vi1, fun c => absurd c (by omega), fun _ => ⟨by decide, ?_, rfl⟩⟩
      have h2 : s1 (skS σ) n = 2 * akS σ := by rw [show n = σ 1 by omega]; exact h2
      rw [h2, pk_div (by omega) (by decide) (by decide), Nat.mul_div_cancel_left _ (by decide)]
    | succ k ih =>
      intro n hn
      refine sg_X4_kinAll_4 ?_
      rw [nc1, M.2.1, nI_ltI (by omega) (by omega)]
      refine ⟨vi1, fun c => ⟨_, _, mm_kinOfOne M I (by omega), ?_⟩, fun c => absurd (show n < σ 1 by omega) c⟩
      rw [nI_add, nI_add]
      exact ih (n + 1) (by omega)
  exact en_X4_kinAll (sg_X4_kinAll_0 (loop (σ 1) 0 (by omega)))
theorem hm_nearestTo (hh : h = 1 ∨ h = 9 ∨ h = 17) (H : Hs h σ z w) (I : Iv T σ) {p : Nat} (hp : p < 8) : mz_Call (d + 2) 8 [.ref h, .int (nI p)] w (some (.int (nP (nrS σ p (σ 1))))) w := by
  have h1 := I.2.1
  have loop : ∀ k n, n + k = σ 1 → mz_Ex cd_X0_nearestTo (mz_Call (d + 1)) (fun r1 w1 => r1 = some (.int (nP (nrS σ p (σ 1)))) ∧ w1 = w) 4 [.ref h, .int (nI p), .int (nP (nrS σ p n)), .int (nI n)] [] w := by
    intro k
    induction k with
    | zero =>
      intro n hn
      refine sg_X0_nearestTo_4 hh ?_
      rw [H.2.2.2.1, nI_ltI (by omega) (by omega)]
      exact ⟨fun c => absurd c (by omega), fun _ => ⟨by rw [show n = σ 1 by omega], rfl⟩⟩
    | succ k ih =>
      intro n hn
      have hih := ih (n + 1) (by omega)
      have hnr := nr_le σ p n
      have k1 := kn_le I (a := p) (b := n) hp (by omega)
      have k2 := kn_le I (a := p) (b := nrS σ p n - 1) hp (by omega)
      rw [nrS] at hih
      refine sg_X0_nearestTo_4 hh ?_
      rw [H.2.2.2.1, nI_ltI (by omega) (by omega), nP_eq_m1 (by omega), nI_eq (by omega) (by omega), nI_add]
      refine ⟨fun c => ⟨fun c2 => ?_, fun c2 => ⟨fun c3 => ?_, fun c3 => ?_⟩⟩, fun c => absurd (show n < σ 1 by omega) c⟩
      · rw [if_neg (by omega)] at hih
        exact hih
      · rw [if_pos ⟨c2, Or.inl c3⟩, nP_s] at hih
        exact hih
      · have e := nP_pos (n := nrS σ p n) (by omega)
        refine ⟨_, _, hm_kinOf hh H hp (by omega), _, _, by rw [e]; exact hm_kinOf hh H hp (by omega), ?_⟩
        rw [nI_ltI (by omega) (by omega)]
        refine ⟨fun c4 => ?_, fun c4 => ?_⟩
        · rw [if_pos ⟨c2, Or.inr c4⟩, nP_s] at hih
          exact hih
        · rw [if_neg (fun q => q.2.elim c3 c4)] at hih
          exact hih
  exact en_X0_nearestTo (sg_X0_nearestTo_0 hh (by have := loop (σ 1) 0 (by omega); rw [nrS, nP_0] at this; exact this))
theorem mm_nearest (M : Ms 38 σ z w) (I : Iv T σ) {p : Nat} (hp : p < 8) : mz_Call (d + 2) 135 [.ref 37, .int (nI p)] w (some (.int (nP (nrS σ p (σ 1))))) w := by
  have h1 := I.2.1
  have loop : ∀ k n, n + k = σ 1 → mz_Ex cd_X4_nearest (mz_Call (d + 1)) (fun r1 w1 => r1 = some (.int (nP (nrS σ p (σ 1)))) ∧ w1 = w) 4 [.ref 37, .int (nI p), .int (nP (nrS σ p n)), .int (nI n)] [] w := by
    intro k
    induction k with
    | zero =>
      intro n hn
      refine sg_X4_nearest_4 ?_
      rw [nc1, M.2.1, nI_ltI (by omega) (by omega)]
      exact ⟨vi1, fun c => absurd c (by omega), fun _ => ⟨by rw [show n = σ 1 by omega], rfl⟩⟩
    | succ k ih =>
      intro n hn
      have hih := ih (n + 1) (by omega)
      have hnr := nr_le σ p n
      have k1 := kn_le I (a := p) (b := n) hp (by omega)
      have k2 := kn_le I (a := p) (b := nrS σ p n - 1) hp (by omega)
      rw [nrS] at hih
      refine sg_X4_nearest_4 ?_
      rw [nc1, M.2.1, nI_ltI (by omega) (by omega), nP_neg (by omega), nI_eq (by omega) (by omega), nI_add]
      refine ⟨vi1, fun c => ⟨fun c2 => ?_, fun c2 => ⟨fun c3 => ?_, fun c3 => ?_⟩⟩, fun c => absurd (show n < σ 1 by omega) c⟩
      · rw [if_neg (by omega)] at hih
        exact hih
      · rw [if_pos ⟨c2, Or.inl c3⟩, nP_s] at hih
        exact hih
      · have e := nP_pos (n := nrS σ p n) (by omega)
        refine ⟨_, _, mm_kinOf M hp (by omega), _, _, by rw [e]; exact mm_kinOf M hp (by omega), ?_⟩
        rw [nI_ltI (by omega) (by omega)]
        refine ⟨fun c4 => ?_, fun c4 => ?_⟩
        · rw [if_pos ⟨c2, Or.inr c4⟩, nP_s] at hih
          exact hih
        · rw [if_neg (fun q => q.2.elim c3 c4)] at hih
          exact hih
  exact en_X4_nearest (sg_X4_nearest_0 (by have := loop (σ 1) 0 (by omega); rw [nrS, nP_0] at this; exact this))
end RD
