/-! rows stay good; many turns; copies of rows -/
theorem Iv.up {T T' : Nat} {σ : Nat → Nat} (I : Iv T σ) (h : T ≤ T') : Iv T' σ := ⟨Nat.le_trans I.1 h, I.2⟩
theorem nk_le {T : Nat} {σ : Nat → Nat} (I : Iv T σ) {a b : Nat} (ha : a < 8) (hb : b < 8) : nk σ a b ≤ 999 := by
  have hk := I.2.2.2.2.2.2.2.1 (37 + 8 * a + b) (by omega) (by omega)
  unfold nk
  split
  · exact Nat.min_le_left _ _
  · omega
theorem tS_kin {σ : Nat → Nat} {a b : Nat} (ha : a < 8) (hb : b < 8) : tS σ (37 + 8 * a + b) = if a < σ 1 ∧ b < σ 1 ∧ a ≠ b then nk σ a b else σ (37 + 8 * a + b) := by
  unfold tS
  rw [if_neg (by omega), if_neg (by omega)]
  have e1 : (37 + 8 * a + b - 37) / 8 = a := by omega
  have e2 : (37 + 8 * a + b - 37) % 8 = b := by omega
  rw [e1, e2]
  exact ite_iff ⟨fun h => h.2.2, fun h => ⟨by omega, by omega, h⟩⟩
theorem tS_lo {σ : Nat → Nat} {j : Nat} (h0 : j ≠ 0) (h4 : j ≠ 4) (h : j < 37) : tS σ j = σ j := by
  unfold tS
  rw [if_neg h0, if_neg h4, if_neg (by omega)]
theorem tS_0 (σ : Nat → Nat) : tS σ 0 = σ 0 + 1 := rfl
theorem tS_4 (σ : Nat → Nat) : tS σ 4 = tpB (gi σ) (σ 1) := rfl
theorem Iv.turn {T : Nat} {σ : Nat → Nat} (I : Iv T σ) : Iv (T + 1) (tS σ) := by
  have h1 : tS σ 1 = σ 1 := tS_lo (by decide) (by decide) (by decide)
  obtain ⟨i0, i1, i2, i3, i4, i5, i6, i7, i8, i9⟩ := id I
  refine ⟨by rw [tS_0]; omega, by rw [h1]; exact i1, by rw [tS_lo (by decide) (by decide) (by decide)]; exact i2, fun j a b => ?_, fun j a b => ?_, fun j a b => ?_, fun j a b => ?_, fun j a b => ?_, fun a b ha hb => ?_, fun a ha => ?_⟩
  · rw [h1]
    by_cases e : j = 4
    · rw [e, tS_4]; exact tpB_le _ _
    · rw [tS_lo (by omega) e (by omega)]; exact i3 j a b
  · rw [tS_lo (by omega) (by omega) (by omega)]; exact i4 j a b
  · rw [tS_lo (by omega) (by omega) (by omega)]; exact i5 j a b
  · rw [tS_lo (by omega) (by omega) (by omega)]; exact i6 j a b
  · obtain ⟨x, y, hx, hy, e⟩ : ∃ x y, x < 8 ∧ y < 8 ∧ j = 37 + 8 * x + y := ⟨(j - 37) / 8, (j - 37) % 8, by omega, by omega, by omega⟩
    rw [e, tS_kin hx hy]
    split
    · exact nk_le I hx hy
    · exact i7 _ (by omega) (by omega)
  · rw [tS_kin ha hb, tS_kin hb ha, nk_comm I ha hb, i8 a b ha hb]
    exact ite_iff ⟨fun h => ⟨h.2.1, h.1, Ne.symm h.2.2⟩, fun h => ⟨h.2.1, h.1, Ne.symm h.2.2⟩⟩
  · rw [tS_kin ha ha, if_neg (fun h => h.2.2 rfl)]
    exact i9 a ha
/-- n turns -/
def tN (σ : Nat → Nat) : Nat → Nat → Nat
  | 0 => σ
  | n + 1 => tS (tN σ n)
theorem Iv.turns {T : Nat} {σ : Nat → Nat} (I : Iv T σ) : ∀ n, Iv (T + n) (tN σ n)
  | 0 => I
  | n + 1 => (Iv.turns I n).turn
theorem tN_0 (σ : Nat → Nat) : ∀ n, tN σ n 0 = σ 0 + n
  | 0 => rfl
  | n + 1 => by rw [tN, tS_0, tN_0 σ n, Nat.add_assoc]
theorem tN_1 (σ : Nat → Nat) : ∀ n, tN σ n 1 = σ 1
  | 0 => rfl
  | n + 1 => by rw [tN, tS_lo (by decide) (by decide) (by decide), tN_1 σ n]
theorem tN_lo (σ : Nat → Nat) {j : Nat} (h0 : j ≠ 0) (h4 : j ≠ 4) (h : j < 37) : ∀ n, tN σ n j = σ j
  | 0 => rfl
  | n + 1 => by rw [tN, tS_lo h0 h4 h, tN_lo σ h0 h4 h n]
section TN
variable {d h : Nat} {σ : Nat → Nat} {z : Int32} {w : mz_M} {T : Nat}
theorem hm_passTurns (hh : h = 1 ∨ h = 9 ∨ h = 17) (H : Hs h σ z w) (I : Iv T σ) {n : Nat} (hn : n ≤ 1000) (hT : T + n < 99998) : ∃ w', mz_Call (d + 4) 17 [.ref h, .int (nI n)] w none w' ∧ Hs h (tN σ n) z w' ∧ Fr (Hp h) w w' := by
  refine ec_X0_passTurns (Po := fun w' => Hs h (tN σ n) z w' ∧ Fr (Hp h) w w') (sg_X0_passTurns_0 hh ?_)
  have loop : ∀ k i w1, i + k = n → Hs h (tN σ i) z w1 → Fr (Hp h) w w1 → mz_Ex cd_X0_passTurns (mz_Call (d + 3)) (fun r1 w1 => r1 = none ∧ Hs h (tN σ n) z w1 ∧ Fr (Hp h) w w1) 2 [.ref h, .int (nI n), .int (nI i)] [] w1 := by
    intro k
    induction k with
    | zero =>
      intro i w1 hi H1 F1
      refine sg_X0_passTurns_2 hh ?_
      rw [nI_ltI (by omega) (by omega)]
      refine ⟨fun c => absurd c (by omega), fun _ => ⟨rfl, ?_, F1⟩⟩
      rw [show n = i by omega]
      exact H1
    | succ k ih =>
      intro i w1 hi H1 F1
      have I1 := I.turns i
      obtain ⟨w2, c, H2, F2⟩ := hm_passTurn (d := d) hh H1 I1 (by have := I1.1; omega)
      refine sg_X0_passTurns_2 hh ?_
      rw [nI_ltI (by omega) (by omega), nI_add]
      exact ⟨fun _ => ⟨w2, c, ih (i + 1) w2 (by omega) H2 (F1.tr F2)⟩, fun c => absurd (show i < n by omega) c⟩
  exact loop n 0 w (by omega) H Fr.rf
theorem mm_turns (M : Ms 38 σ z w) (I : Iv T σ) {n : Nat} (hn : n ≤ 1000) (hT : T + n < 99998) : ∃ w', mz_Call (d + 6) 144 [.ref 37, .int (nI n)] w none w' ∧ Ms 38 (tN σ n) z w' ∧ Fr Mp w w' := by
  refine ec_X4_turns (Po := fun w' => Ms 38 (tN σ n) z w' ∧ Fr Mp w w') (sg_X4_turns_0 ?_)
  have loop : ∀ k i w1, i + k = n → Ms 38 (tN σ i) z w1 → Fr Mp w w1 → mz_Ex cd_X4_turns (mz_Call (d + 5)) (fun r1 w1 => r1 = none ∧ Ms 38 (tN σ n) z w1 ∧ Fr Mp w w1) 2 [.ref 37, .int (nI n), .int (nI i)] [] w1 := by
    intro k
    induction k with
    | zero =>
      intro i w1 hi H1 F1
      refine sg_X4_turns_2 ?_
      rw [nI_ltI (by omega) (by omega)]
      refine ⟨fun c => absurd c (by omega), fun _ => ⟨rfl, ?_, F1⟩⟩
      rw [show n = i by omega]
      exact H1
    | succ k ih =>
      intro i w1 hi H1 F1
      have I1 := I.turns i
      obtain ⟨w2, c, H2, F2⟩ := mm_turn (d := d) H1 I1 (by have := I1.1; omega)
      refine sg_X4_turns_2 ?_
      rw [nI_ltI (by omega) (by omega), nI_add]
      exact ⟨fun _ => ⟨w2, c, ih (i + 1) w2 (by omega) H2 (F1.tr F2)⟩, fun c => absurd (show i < n by omega) c⟩
  exact loop n 0 w (by omega) M Fr.rf
/-- a copy of a row of the reference -/
theorem mm_copyRow {a b : Nat} (ha : a = 38 ∨ a = 39 ∨ a = 40) (hb : b = 38 ∨ b = 39 ∨ b = 40) (hab : a ≠ b) (M : Ms a σ z w) : ∃ w', mz_Call (d + 1) 110 [.ref a, .ref b] w none w' ∧ Ms b σ z w' ∧ Fr (fun k => k = b) w w' := by
  refine ec_X4_copyRow (Po := fun w' => Ms b σ z w' ∧ Fr (fun k => k = b) w w') (sg_X4_copyRow_0 ha hb ?_)
  have loop : ∀ k i w1, i + k = 101 → (∀ j, j < i → w1 b j = w a j) → Fr (fun k => k = b) w w1 → mz_Ex cd_X4_copyRow (mz_Call d) (fun r1 w1 => r1 = none ∧ Ms b σ z w1 ∧ Fr (fun k => k = b) w w1) 2 [.ref a, .ref b, .int (nI i)] [] w1 := by
    intro k
    induction k with
    | zero =>
      intro i w1 hi H1 F1
      refine sg_X4_copyRow_2 ha hb ?_
      rw [nI_ltI (by omega) (by omega)]
      refine ⟨fun c => absurd c (by omega), fun _ => ⟨rfl, ?_, F1⟩⟩
      obtain ⟨g0, g1, g2, g3, g4, g5⟩ := M
      exact ⟨by rw [H1 _ (by omega)]; exact g0, by rw [H1 _ (by omega)]; exact g1, by rw [H1 _ (by omega)]; exact g2, by rw [H1 _ (by omega)]; exact g3, fun j x y => by rw [H1 _ (by omega)]; exact g4 j x y, fun j x y => by rw [H1 _ (by omega)]; exact g5 j x y⟩
    | succ k ih =>
      intro i w1 hi H1 F1
      have hin : vp_in (nI i) 101 := vp_in_nI (by omega) (by decide)
      refine sg_X4_copyRow_2 ha hb ?_
      rw [nI_ltI (by omega) (by omega), nI_add, nI_clamp (by omega)]
      refine ⟨fun _ => ⟨hin, hin, ih (i + 1) _ (by omega) (fun j hj => ?_) (F1.tr (Fr.up rfl))⟩, fun c => absurd (show i < 101 by omega) c⟩
      rw [mu_s]
      by_cases e : j = i
      · rw [e, pk_us, F1 a (fun q => hab q)]
      · rw [pk_un e]; exact H1 j (by omega)
  exact loop 101 0 w (by omega) (fun j hj => absurd hj (by omega)) Fr.rf
theorem mm_putBack (M : Ms 40 σ z w) (v : Int32) : ∃ w', mz_Call (d + 2) 111 [.ref 37, .int v] w (some (.int v)) w' ∧ Ms 38 σ z w' ∧ Fr (fun k => k = 38) w w' := by
  obtain ⟨w', c, M2, F⟩ := mm_copyRow (d := d) (a := 40) (b := 38) (Or.inr (Or.inr rfl)) (Or.inl rfl) (by decide) M
  exact ⟨w', en_X4_putBack (sg_X4_putBack_0 ⟨w', c, rfl, rfl⟩), M2, F⟩
end TN
