/-! the two nearest; the greatest kin; spots; become -/
section TW
variable {d h : Nat} {σ : Nat → Nat} {z : Int32} {w : mz_M} {T : Nat}
theorem hm_nearestTwo (hh : h = 1 ∨ h = 9 ∨ h = 17) (H : Hs h σ z w) (I : Iv T σ) : mz_Call (d + 2) 11 [.ref h] w (some (.int (nP (noS σ (σ 1)).1))) w := by
  have h1 := I.2.1
  have outer : ∀ k a j, a + k = σ 1 → mz_Ex cd_X0_nearestTwo (mz_Call (d + 1)) (fun r1 w1 => r1 = some (.int (nP (noS σ (σ 1)).1)) ∧ w1 = w) 6 [.ref h, .int (nP (noS σ a).1), .int (nP (noS σ a).2), .int (nI a), j] [] w := by
    intro k
    induction k with
    | zero =>
      intro a j ha
      refine sg_X0_nearestTwo_6 hh ?_
      rw [H.2.2.2.1, nI_ltI (by omega) (by omega)]
      exact ⟨fun c => absurd c (by omega), fun _ => ⟨by rw [show a = σ 1 by omega], rfl⟩⟩
    | succ k ih =>
      intro a j ha
      have inner : ∀ m b, b + m = σ 1 → a < b → mz_Ex cd_X0_nearestTwo (mz_Call (d + 1)) (fun r1 w1 => r1 = some (.int (nP (noS σ (σ 1)).1)) ∧ w1 = w) 19 [.ref h, .int (nP (niS σ a (noS σ a) b).1), .int (nP (niS σ a (noS σ a) b).2), .int (nI a), .int (nI b)] [] w := by
        intro m
        induction m with
        | zero =>
          intro b hb hab
          refine sg_X0_nearestTwo_19 hh ?_
          rw [H.2.2.2.1, nI_ltI (by omega) (by omega)]
          refine ⟨fun c => absurd c (by omega), fun _ => ?_⟩
          have := ih (a + 1) (.int (nI b)) (by omega)
          rw [noS] at this
          rw [nI_add, show niS σ a (noS σ a) b = niS σ a (noS σ a) (σ 1) by rw [show b = σ 1 by omega]]
          exact this
        | succ m ihm =>
          intro b hb hab
          have hk := kn_le I (a := a) (b := b) (by omega) (by omega)
          have hq := nq_le I (ni_ok (a := a) (no_ok σ a) b (by omega))
          have := ihm (b + 1) (by omega) (by omega)
          rw [niS, if_pos hab] at this
          unfold nqS at this
          refine sg_X0_nearestTwo_19 hh ?_
          rw [H.2.2.2.1, nI_ltI (by omega) (by omega)]
          refine ⟨fun c => ⟨_, _, hm_kinOf hh H (by omega) (by omega), ?_⟩, fun c => absurd (show b < σ 1 by omega) c⟩
          rw [nP_lt (by omega) (by omega), nI_add, ix8]
          refine ⟨fun c2 => ⟨_, _, hm_kinOf hh H (by omega) (by omega), ?_⟩, fun c2 => ?_⟩
          · rw [if_pos c2, nP_s, nP_s] at this
            exact this
          · rw [if_neg c2] at this
            exact this
      refine sg_X0_nearestTwo_6 hh ?_
      rw [H.2.2.2.1, nI_ltI (by omega) (by omega), nI_add]
      refine ⟨fun c => ?_, fun c => absurd (show a < σ 1 by omega) c⟩
      have := inner (σ 1 - (a + 1)) (a + 1) (by omega) (by omega)
      rw [ni_lo σ a _ (a + 1) (Nat.le_refl _)] at this
      exact this
  exact en_X0_nearestTwo (sg_X0_nearestTwo_0 hh (by have := outer (σ 1) 0 .null (by omega); rw [noS, nP_0] at this; exact this))
theorem mm_closest (M : Ms 38 σ z w) (I : Iv T σ) : mz_Call (d + 2) 147 [.ref 37] w (some (.int (nP (noS σ (σ 1)).1))) w := by
  have h1 := I.2.1
  have outer : ∀ k a j, a + k = σ 1 → mz_Ex cd_X4_closest (mz_Call (d + 1)) (fun r1 w1 => r1 = some (.int (nP (noS σ (σ 1)).1)) ∧ w1 = w) 6 [.ref 37, .int (nP (noS σ a).1), .int (nP (noS σ a).2), .int (nI a), j] [] w := by
    intro k
    induction k with
    | zero =>
      intro a j ha
      refine sg_X4_closest_6 ?_
      rw [nc1, M.2.1, nI_ltI (by omega) (by omega)]
      exact ⟨vi1, fun c => absurd c (by omega), fun _ => ⟨by rw [show a = σ 1 by omega], rfl⟩⟩
    | succ k ih =>
      intro a j ha
      have inner : ∀ m b, b + m = σ 1 → a < b → mz_Ex cd_X4_closest (mz_Call (d + 1)) (fun r1 w1 => r1 = some (.int (nP (noS σ (σ 1)).1)) ∧ w1 = w) 21 [.ref 37, .int (nP (niS σ a (noS σ a) b).1), .int (nP (niS σ a (noS σ a) b).2), .int (nI a), .int (nI b)] [] w := by
        intro m
        induction m with
        | zero =>
          intro b hb hab
          refine sg_X4_closest_21 ?_
          rw [nc1, M.2.1, nI_ltI (by omega) (by omega)]
          refine ⟨vi1, fun c => absurd c (by omega), fun _ => ?_⟩
          have := ih (a + 1) (.int (nI b)) (by omega)
          rw [noS] at this
          rw [nI_add, show niS σ a (noS σ a) b = niS σ a (noS σ a) (σ 1) by rw [show b = σ 1 by omega]]
          exact this
        | succ m ihm =>
          intro b hb hab
          have hk := kn_le I (a := a) (b := b) (by omega) (by omega)
          have hq := nq_le I (ni_ok (a := a) (no_ok σ a) b (by omega))
          have := ihm (b + 1) (by omega) (by omega)
          rw [niS, if_pos hab] at this
          unfold nqS at this
          refine sg_X4_closest_21 ?_
          rw [nc1, M.2.1, nI_ltI (by omega) (by omega)]
          refine ⟨vi1, fun c => ⟨_, _, mm_kinOf M (by omega) (by omega), fun c2 => ⟨_, _, mm_kinOf M (by omega) (by omega), ?_⟩, fun c2 => ⟨_, _, mm_kinOf M (by omega) (by omega), ?_⟩⟩, fun c => absurd (show b < σ 1 by omega) c⟩
          · rw [if_pos c2, nI_add, pk_mul, nI_add]
            rw [nP_lt (by omega) (by omega)] at c2
            rw [if_pos c2, nP_s, nP_s] at this
            exact this
          · rw [if_neg c2, nI_add]
            rw [nP_lt (by omega) (by omega)] at c2
            rw [if_neg c2] at this
            exact this
      refine sg_X4_closest_6 ?_
      rw [nc1, M.2.1, nI_ltI (by omega) (by omega), nI_add]
      refine ⟨vi1, fun c => ?_, fun c => absurd (show a < σ 1 by omega) c⟩
      have := inner (σ 1 - (a + 1)) (a + 1) (by omega) (by omega)
      rw [ni_lo σ a _ (a + 1) (Nat.le_refl _)] at this
      exact this
  exact en_X4_closest (sg_X4_closest_0 (by have := outer (σ 1) 0 .null (by omega); rw [noS, nP_0] at this; exact this))
/-- the greatest kin, and 1; 0: fewer than two -/
def gkS (σ : Nat → Nat) : Nat := (noS σ (σ 1)).2
theorem gk_le {T : Nat} {σ : Nat → Nat} (I : Iv T σ) : gkS σ ≤ 1000 := (nq_le I (no_ok σ (σ 1))).2
theorem hm_greatestKin (hh : h = 1 ∨ h = 9 ∨ h = 17) (H : Hs h σ z w) (I : Iv T σ) : mz_Call (d + 2) 10 [.ref h] w (some (.int (nI (gkS σ - 1)))) w := by
  have h1 := I.2.1
  have outer : ∀ k a j, a + k = σ 1 → mz_Ex cd_X0_greatestKin (mz_Call (d + 1)) (fun r1 w1 => r1 = some (.int (nI (gkS σ - 1))) ∧ w1 = w) 4 [.ref h, .int (nI ((noS σ a).2 - 1)), .int (nI a), j] [] w := by
    intro k
    induction k with
    | zero =>
      intro a j ha
      refine sg_X0_greatestKin_4 hh ?_
      rw [H.2.2.2.1, nI_ltI (by omega) (by omega)]
      exact ⟨fun c => absurd c (by omega), fun _ => ⟨by rw [show a = σ 1 by omega]; rfl, rfl⟩⟩
    | succ k ih =>
      intro a j ha
      have inner : ∀ m b, b + m = σ 1 → a < b → mz_Ex cd_X0_greatestKin (mz_Call (d + 1)) (fun r1 w1 => r1 = some (.int (nI (gkS σ - 1))) ∧ w1 = w) 16 [.ref h, .int (nI ((niS σ a (noS σ a) b).2 - 1)), .int (nI a), .int (nI b)] [] w := by
        intro m
        induction m with
        | zero =>
          intro b hb hab
          refine sg_X0_greatestKin_16 hh ?_
          rw [H.2.2.2.1, nI_ltI (by omega) (by omega)]
          refine ⟨fun c => absurd c (by omega), fun _ => ?_⟩
          have := ih (a + 1) (.int (nI b)) (by omega)
          rw [noS] at this
          rw [nI_add, show niS σ a (noS σ a) b = niS σ a (noS σ a) (σ 1) by rw [show b = σ 1 by omega]]
          exact this
        | succ m ihm =>
          intro b hb hab
          have hk := kn_le I (a := a) (b := b) (by omega) (by omega)
          have hq := nq_le I (ni_ok (a := a) (no_ok σ a) b (by omega))
          have := ihm (b + 1) (by omega) (by omega)
          rw [niS, if_pos hab] at this
          unfold nqS at this
          refine sg_X0_greatestKin_16 hh ?_
          rw [H.2.2.2.1, nI_ltI (by omega) (by omega)]
          refine ⟨fun c => ⟨_, _, hm_kinOf hh H (by omega) (by omega), ?_⟩, fun c => absurd (show b < σ 1 by omega) c⟩
          rw [n_max (by omega) (by omega), nI_add]
          by_cases c2 : (niS σ a (noS σ a) b).2 ≤ kn σ a b
          · rw [if_pos c2] at this
            rw [Nat.max_eq_right (by have c3 : (niS σ a (noS σ a) b).2 ≤ σ (37 + 8 * a + b) := c2; omega)]
            exact this
          · rw [if_neg c2] at this
            rw [Nat.max_eq_left (by have c3 : ¬ (niS σ a (noS σ a) b).2 ≤ σ (37 + 8 * a + b) := c2; omega)]
            exact this
      refine sg_X0_greatestKin_4 hh ?_
      rw [H.2.2.2.1, nI_ltI (by omega) (by omega), nI_add]
      refine ⟨fun c => ?_, fun c => absurd (show a < σ 1 by omega) c⟩
      have := inner (σ 1 - (a + 1)) (a + 1) (by omega) (by omega)
      rw [ni_lo σ a _ (a + 1) (Nat.le_refl _)] at this
      exact this
  exact en_X0_greatestKin (sg_X0_greatestKin_0 hh (outer (σ 1) 0 .null (by omega)))
theorem mm_greatest (M : Ms 38 σ z w) (I : Iv T σ) : mz_Call (d + 3) 159 [.ref 37] w (some (.int (nP (gkS σ)))) w := by
  have h1 := I.2.1
  have hq := nq_le I (no_ok σ (σ 1))
  have n8 : ¬ nI 8 = 0 := by decide
  refine en_X4_greatest (sg_X4_greatest_0 ⟨_, _, mm_closest M I, ?_⟩)
  rw [nP_neg (by omega)]
  unfold gkS
  rcases no_ok σ (σ 1) with ⟨e1, e2⟩ | ⟨a, b, hab, hb, e1, e2⟩
  · exact ⟨fun _ => ⟨by rw [e2, nP_0], rfl⟩, fun c => absurd e1 c⟩
  · refine ⟨fun c => absurd c (by omega), fun _ => ⟨n8, n8, ?_⟩⟩
    rw [e1, nP_s, pk_rem (by omega) (by decide) (by decide), pk_div (by omega) (by decide) (by decide), show (8 * a + b) / 8 = a by omega, show (8 * a + b) % 8 = b by omega]
    exact ⟨_, _, mm_kinOf M (by omega) (by omega), by rw [e2, nP_s], rfl⟩
/-- SPOTS that hold something -/
def shS (σ : Nat → Nat) : Nat → Nat
  | 0 => 0
  | n + 1 => shS σ n + (if σ (5 + n) = 0 then 0 else 1)
theorem hm_spotsHeld (hh : h = 1 ∨ h = 9 ∨ h = 17) (H : Hs h σ z w) (I : Iv T σ) : mz_Call (d + 1) 28 [.ref h] w (some (.int (nI (shS σ 10)))) w := by
  have h1 := I.2.1
  have loop : ∀ k n, n + k = 10 → mz_Ex cd_X0_spotsHeld (mz_Call d) (fun r1 w1 => r1 = some (.int (nI (shS σ 10))) ∧ w1 = w) 4 [.ref h, .int (nI (shS σ n)), .int (nI n)] [] w := by
    intro k
    induction k with
    | zero =>
      intro n hn
      refine sg_X0_spotsHeld_4 hh ?_
      rw [nI_ltI (by omega) (by omega)]
      exact ⟨fun c => absurd c (by omega), fun _ => ⟨by rw [show n = 10 by omega], rfl⟩⟩
    | succ k ih =>
      intro n hn
      have hih := ih (n + 1) (by omega)
      have hs := I.2.2.2.1 (5 + n) (by omega) (by omega)
      rw [show shS σ (n + 1) = shS σ n + (if σ (5 + n) = 0 then 0 else 1) from rfl] at hih
      refine sg_X0_spotsHeld_4 hh ?_
      rw [nI_ltI (by omega) (by omega), nI_clamp (by omega), H.2.2.2.2.2.2.2.2.2 n (by omega), nP_eq_m1 (by omega)]
      refine ⟨fun c => ⟨vp_in_nI (by omega) (by decide), fun c2 => ?_, fun c2 => ?_⟩, fun c => absurd (show n < 10 by omega) c⟩
      · rw [if_pos c2, Nat.add_zero] at hih
        rw [nI_add]
        exact hih
      · rw [if_neg c2] at hih
        rw [nI_add, nI_add]
        exact hih
  exact en_X0_spotsHeld (sg_X0_spotsHeld_0 hh (loop 10 0 (by omega)))
theorem hm_become {o : Nat} (hh : h = 1 ∨ h = 9 ∨ h = 17) (ho : o = 1 ∨ o = 9 ∨ o = 17) (hne : h ≠ o) (H : Hs o σ z w) : ∃ w', mz_Call (d + 1) 0 [.ref h, .ref o] w none w' ∧ Hs h σ z w' ∧ Fr (fun k => h ≤ k ∧ k < h + 6) w w' := by
  refine ec_X0_become (Po := fun w' => Hs h σ z w' ∧ Fr (fun k => h ≤ k ∧ k < h + 6) w w') ?_
  have far : ∀ i, i < 6 → ∀ j, j < 6 → h + i ≠ o + j := by
    intro i hi j hj
    rcases hh with rfl | rfl | rfl <;> rcases ho with rfl | rfl | rfl <;> omega
  -- fields
  have fld : ∀ (w1 : mz_M) (i : Nat), (∀ j, j < i → w1 h j = w o j) → (∀ k, k ≠ h → w1 k = w k) → (∀ j, j < i + 1 → mz_up w1 h (upd (w1 h) i (w1 o i)) h j = w o j) ∧ (∀ k, k ≠ h → mz_up w1 h (upd (w1 h) i (w1 o i)) k = w k) := by
    intro w1 i a b
    refine ⟨fun j hj => ?_, fun k hk => by rw [mu_n hk]; exact b k hk⟩
    rw [mu_s]
    by_cases e : j = i
    · rw [e, pk_us, b o (Ne.symm hne)]
    · rw [pk_un e]; exact a j (by omega)
  obtain ⟨a1, b1⟩ := fld w 0 (fun j hj => absurd hj (by omega)) (fun _ _ => rfl)
  refine sg_X0_become_0 hh ho ?_
  generalize mz_up w h (upd (w h) 0 (w o 0)) = w1 at a1 b1 ⊢
  obtain ⟨a2, b2⟩ := fld w1 1 a1 b1
  refine sg_X0_become_8 hh ho ?_
  generalize mz_up w1 h (upd (w1 h) 1 (w1 o 1)) = w2 at a2 b2 ⊢
  obtain ⟨a3, b3⟩ := fld w2 2 a2 b2
  refine sg_X0_become_16 hh ho ?_
  generalize mz_up w2 h (upd (w2 h) 2 (w2 o 2)) = w3 at a3 b3 ⊢
  obtain ⟨a4, b4⟩ := fld w3 3 a3 b3
  refine sg_X0_become_24 hh ho ?_
  generalize mz_up w3 h (upd (w3 h) 3 (w3 o 3)) = w4 at a4 b4 ⊢
  obtain ⟨a5, b5⟩ := fld w4 4 a4 b4
  refine sg_X0_become_32 hh ho ?_
  generalize mz_up w4 h (upd (w4 h) 4 (w4 o 4)) = w5 at a5 b5 ⊢
  -- rows
  have arr : ∀ (w1 : mz_M) (i n : Nat), 0 < i → i < 6 → (∀ j, j < 5 → w1 h j = w o j) → (∀ k, ¬ (h ≤ k ∧ k < h + i) → w1 k = w k) → (∀ j, j < n → mz_up w1 (h + i) (va_cpy (w1 (o + i)) (w1 (h + i)) 0 0 n) (h + i) j = w (o + i) j) ∧ (∀ k, k ≠ h + i → mz_up w1 (h + i) (va_cpy (w1 (o + i)) (w1 (h + i)) 0 0 n) k = w1 k) := by
    intro w1 i n h0 hi _ b
    refine ⟨fun j hj => ?_, fun k hk => mu_n hk⟩
    rw [mu_s, pk_cpy_in (by omega) (by omega), b (o + i) (fun q => ?_)]
    · congr 1; omega
    · rcases hh with rfl | rfl | rfl <;> rcases ho with rfl | rfl | rfl <;> omega
  have z0 : ¬ nI 0 < 0 := by decide
  have c6 : (nI 6).toNatClampNeg = 6 := by decide
  have c8 : (nI 8).toNatClampNeg = 8 := by decide
  have c64 : (nI 64).toNatClampNeg = 64 := by decide
  have c10 : (nI 10).toNatClampNeg = 10 := by decide
  have f5 : ∀ k, ¬ (h ≤ k ∧ k < h + 1) → w5 k = w k := fun k hk => b5 k (by omega)
  obtain ⟨p6, q6⟩ := arr w5 1 6 (by omega) (by omega) a5 f5
  refine sg_X0_become_40 hh ho ?_
  rw [nc0, c6]
  refine ⟨z0, z0, by decide, by decide, by decide, ?_⟩
  generalize mz_up w5 (h + 1) (va_cpy (w5 (o + 1)) (w5 (h + 1)) 0 0 6) = w6 at p6 q6 ⊢
  have a6 : ∀ j, j < 5 → w6 h j = w o j := fun j hj => by rw [q6 h (by omega)]; exact a5 j hj
  have f6 : ∀ k, ¬ (h ≤ k ∧ k < h + 2) → w6 k = w k := fun k hk => by rw [q6 k (by omega)]; exact f5 k (by omega)
  obtain ⟨p7, q7⟩ := arr w6 2 8 (by omega) (by omega) a6 f6
  refine sg_X0_become_55 hh ho ?_
  rw [nc0, c8]
  refine ⟨z0, z0, by decide, by decide, by decide, ?_⟩
  generalize mz_up w6 (h + 2) (va_cpy (w6 (o + 2)) (w6 (h + 2)) 0 0 8) = w7 at p7 q7 ⊢
  have a7 : ∀ j, j < 5 → w7 h j = w o j := fun j hj => by rw [q7 h (by omega)]; exact a6 j hj
  have f7 : ∀ k, ¬ (h ≤ k ∧ k < h + 3) → w7 k = w k := fun k hk => by rw [q7 k (by omega)]; exact f6 k (by omega)
  obtain ⟨p8, q8⟩ := arr w7 3 8 (by omega) (by omega) a7 f7
  refine sg_X0_become_70 hh ho ?_
  rw [nc0, c8]
  refine ⟨z0, z0, by decide, by decide, by decide, ?_⟩
  generalize mz_up w7 (h + 3) (va_cpy (w7 (o + 3)) (w7 (h + 3)) 0 0 8) = w8 at p8 q8 ⊢
  have a8 : ∀ j, j < 5 → w8 h j = w o j := fun j hj => by rw [q8 h (by omega)]; exact a7 j hj
  have f8 : ∀ k, ¬ (h ≤ k ∧ k < h + 4) → w8 k = w k := fun k hk => by rw [q8 k (by omega)]; exact f7 k (by omega)
  obtain ⟨p9, q9⟩ := arr w8 4 64 (by omega) (by omega) a8 f8
  refine sg_X0_become_85 hh ho ?_
  rw [nc0, c64]
  refine ⟨z0, z0, by decide, by decide, by decide, ?_⟩
  generalize mz_up w8 (h + 4) (va_cpy (w8 (o + 4)) (w8 (h + 4)) 0 0 64) = w9 at p9 q9 ⊢
  have a9 : ∀ j, j < 5 → w9 h j = w o j := fun j hj => by rw [q9 h (by omega)]; exact a8 j hj
  have f9 : ∀ k, ¬ (h ≤ k ∧ k < h + 5) → w9 k = w k := fun k hk => by rw [q9 k (by omega)]; exact f8 k (by omega)
  obtain ⟨p10, q10⟩ := arr w9 5 10 (by omega) (by omega) a9 f9
  refine sg_X0_become_100 hh ho ?_
  rw [nc0, c10]
  refine ⟨z0, z0, by decide, by decide, by decide, ?_⟩
  generalize mz_up w9 (h + 5) (va_cpy (w9 (o + 5)) (w9 (h + 5)) 0 0 10) = w10 at p10 q10 ⊢
  obtain ⟨g0, g1, g2, g3, g4, g5, g6, g7, g8, g9⟩ := H
  refine sg_X0_become_115 ⟨rfl, ⟨?_, ?_, ?_, ?_, ?_, fun j hj => ?_, fun j hj => ?_, fun j hj => ?_, fun j hj => ?_, fun j hj => ?_⟩, fun k hk => ?_⟩
  · rw [q10 h (by omega), a9 0 (by omega)]; exact g0
  · rw [q10 h (by omega), a9 1 (by omega)]; exact g1
  · rw [q10 h (by omega), a9 2 (by omega)]; exact g2
  · rw [q10 h (by omega), a9 3 (by omega)]; exact g3
  · rw [q10 h (by omega), a9 4 (by omega)]; exact g4
  · rw [q10 _ (by omega), q9 _ (by omega), q8 _ (by omega), q7 _ (by omega), p6 j hj]; exact g5 j hj
  · rw [q10 _ (by omega), q9 _ (by omega), q8 _ (by omega), p7 j hj]; exact g6 j hj
  · rw [q10 _ (by omega), q9 _ (by omega), p8 j hj]; exact g7 j hj
  · rw [q10 _ (by omega), p9 j hj]; exact g8 j hj
  · rw [p10 j hj]; exact g9 j hj
  · rw [q10 k (by omega)]; exact f9 k (by omega)
end TW
