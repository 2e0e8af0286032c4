/-! the reference's turn -/
def qC (a b j : Nat) : Prop := 37 ≤ j ∧ j < 101 ∧ (((j - 37) / 8 < (j - 37) % 8 ∧ ((j - 37) % 8 < a ∨ ((j - 37) % 8 = a ∧ (j - 37) / 8 < b))) ∨ ((j - 37) % 8 < (j - 37) / 8 ∧ ((j - 37) / 8 < a ∨ ((j - 37) / 8 = a ∧ (j - 37) % 8 < b))))
noncomputable def qT (σ : Nat → Nat) (a b : Nat) : Nat → Nat := fun j => @ite _ (qC a b j) (Classical.propDecidable _) (nk σ ((j - 37) / 8) ((j - 37) % 8)) (σ j)
theorem qT_cong {σ : Nat → Nat} {a b a' b' : Nat} (h : ∀ j, qC a b j ↔ qC a' b' j) : qT σ a b = qT σ a' b' := by
  funext j
  unfold qT
  by_cases hc : qC a b j
  · rw [if_pos hc, if_pos ((h j).mp hc)]
  · rw [if_neg hc, if_neg (fun z => hc ((h j).mpr z))]
theorem qT_0 (σ : Nat → Nat) : qT σ 0 0 = σ := by
  funext j
  unfold qT
  rw [if_neg]
  unfold qC
  omega
theorem qT_out (σ : Nat → Nat) (a : Nat) : qT σ a a = qT σ (a + 1) 0 := qT_cong (fun j => by unfold qC; omega)
theorem qT_lo {σ : Nat → Nat} {a b j : Nat} (h : j < 37) : qT σ a b j = σ j := by
  unfold qT
  rw [if_neg]
  unfold qC
  omega
theorem qT_at {σ : Nat → Nat} {a b j : Nat} (h : ¬ qC a b j) : qT σ a b j = σ j := by
  unfold qT
  rw [if_neg h]
theorem qT_step {T : Nat} {σ : Nat → Nat} (I : Iv T σ) {a b : Nat} (hab : b < a) (ha : a < σ 1) : kS (qT σ a b) b a (nk σ a b) = qT σ a (b + 1) := by
  have h8 := I.2.1
  funext j
  unfold kS su
  by_cases h1 : j = 37 + 8 * a + b
  · rw [if_pos h1]
    unfold qT
    rw [if_pos (by unfold qC; omega), show (j - 37) / 8 = a by omega, show (j - 37) % 8 = b by omega]
  · rw [if_neg h1]
    by_cases h2 : j = 37 + 8 * b + a
    · rw [if_pos h2]
      unfold qT
      rw [if_pos (by unfold qC; omega), show (j - 37) / 8 = b by omega, show (j - 37) % 8 = a by omega]
      exact nk_comm I (by omega) (by omega)
    · rw [if_neg h2]
      unfold qT
      by_cases hc : qC a b j
      · rw [if_pos hc, if_pos (by unfold qC at hc ⊢; omega)]
      · rw [if_neg hc, if_neg (by unfold qC at hc ⊢; omega)]
theorem qT_end (σ : Nat → Nat) : su (su (qT σ (σ 1) 0) 4 (tpB (gi σ) (σ 1))) 0 (σ 0 + 1) = tS σ := by
  funext j
  unfold su tS
  by_cases h0 : j = 0
  · rw [if_pos h0, if_pos h0]
  · rw [if_neg h0, if_neg h0]
    by_cases h4 : j = 4
    · rw [if_pos h4, if_pos h4]
    · rw [if_neg h4, if_neg h4]
      unfold qT
      by_cases hc : qC (σ 1) 0 j
      · rw [if_pos hc, if_pos (by unfold qC at hc; omega)]
      · rw [if_neg hc, if_neg (by unfold qC at hc; omega)]
section MT
variable {d : Nat} {σ : Nat → Nat} {z : Int32} {w : mz_M} {T : Nat}
abbrev Mp (k : Nat) : Prop := k = 38 ∨ k = 42 ∨ k = 43
def Ug (σ τ : Nat → Nat) (z : Int32) (n : Nat) (w0 w1 : mz_M) : Prop := Ms 38 τ z w1 ∧ (∀ p, p < n → w1 42 p = nI (bS σ p)) ∧ (∀ p, p < n → w1 43 p = nI (fS σ p)) ∧ Fr Mp w0 w1
def Upo (σ : Nat → Nat) (z : Int32) (w0 : mz_M) : mz_Q := fun r1 w1 => r1 = none ∧ Ms 38 (tS σ) z w1 ∧ Fr Mp w0 w1
theorem um_pair (I : Iv T σ) {a b x : Nat} {w0 w1 : mz_M} (hab : b < a) (ha : a < σ 1) (G : Ug σ (qT σ a b) z (σ 1) w0 w1) (hx : x = nk σ a b) : ∃ (r : Int32) (w2 : mz_M), mz_Call (d + 2) 126 [.ref 37, .int (nI a), .int (nI b), .int (nI x)] w1 (some (.int r)) w2 ∧ Ug σ (qT σ a (b + 1)) z (σ 1) w0 w2 := by
  have h8 := I.2.1
  obtain ⟨w2, c, e1, e2⟩ := mm_makeKin (d := d) G.1 (a := a) (b := b) (v := x) (by omega) (by omega) (by omega)
  rw [hx, qT_step I hab ha] at e1
  exact ⟨_, w2, c, e1, fun p hp => by rw [e2 _ (by omega)]; exact G.2.1 p hp, fun p hp => by rw [e2 _ (by omega)]; exact G.2.2.1 p hp, G.2.2.2.tr (e2.mono (fun k hk => Or.inl hk))⟩
theorem um_in (I : Iv T σ) {w0 : mz_M} {Q : mz_Q} {a : Nat} {l : Int32} (ha : a < σ 1) (K : ∀ (w2 : mz_M) (j4 j5 j6 j7 j8 : Value), Ug σ (qT σ (a + 1) 0) z (σ 1) w0 w2 → mz_Ex cd_X4_turn (mz_Call (d + 4)) Q 49 [.ref 37, .int (nI (gi σ)), .int l, .int (nI (a + 1)), j4, j5, j6, j7, j8] [] w2) :
    ∀ k b w1 j5 j6 j7 j8, b + k = a → Ug σ (qT σ a b) z (σ 1) w0 w1 → mz_Ex cd_X4_turn (mz_Call (d + 4)) Q 76 [.ref 37, .int (nI (gi σ)), .int l, .int (nI a), .int (nI b), j5, j6, j7, j8] [] w1 := by
  have h8 := I.2.1
  have hg := gi_lt8 I
  intro k
  induction k with
  | zero =>
    intro b w1 j5 j6 j7 j8 hk G
    refine sg_X4_turn_76 ?_
    rw [nI_ltI (by omega) (by omega)]
    refine ⟨fun c => absurd c (by omega), fun _ => ?_⟩
    rw [nI_add]
    refine K w1 _ _ _ _ _ ?_
    rw [← qT_out]
    rw [show b = a by omega] at G
    exact G
  | succ k ih =>
    intro b w1 j5 j6 j7 j8 hk G
    have hkab : qT σ a b (37 + 8 * a + b) = σ (37 + 8 * a + b) := qT_at (by unfold qC; omega)
    have hle := I.2.2.2.2.2.2.2.1 (37 + 8 * a + b) (by omega) (by omega)
    have hd := I.2.2.1
    have b1 := bS_le I (p := a) (by omega)
    have b2 := bS_le I (p := b) (by omega)
    have f1 := fS_le σ a
    have f2 := fS_le σ b
    have ia : vp_in (nI a) 8 := vp_in_nI (by omega) (by decide)
    have ib : vp_in (nI b) 8 := vp_in_nI (by omega) (by decide)
    have hkin := mm_kinOf (d := d + 3) G.1 (a := a) (b := b) (by omega) (by omega)
    rw [hkab] at hkin
    have e3 : w1 38 3 = nI (σ 3) := by rw [G.1.2.2.2.1, qT_lo (by decide)]
    have less := um_pair (d := d + 2) I (a := a) (b := b) (by omega) ha G (x := σ (37 + 8 * a + b) - max (fS σ a) (fS σ b))
    have more := um_pair (d := d + 2) I (a := a) (b := b) (by omega) ha G (x := min 999 (σ (37 + 8 * a + b) + (min (bS σ a) (bS σ b) + σ 3)))
    refine sg_X4_turn_76 ?_
    rw [nI_clamp (n := a) (by omega), nI_clamp (n := b) (by omega), nc3, e3, G.2.1 a (by omega), G.2.1 b (by omega), G.2.2.1 a (by omega), G.2.2.1 b (by omega), nI_ltI (by omega) (by omega), n_min (by omega) (by omega), n_max (by omega) (by omega), nI_add (min (bS σ a) (bS σ b)) (σ 3)]
    refine ⟨fun c => ⟨ia, ib, vi3, ia, ib, _, _, mm_hasBit (by omega) (by omega), fun c1 => ⟨fun _ => ?_, fun q => absurd rfl q⟩, fun c1 => ⟨_, _, mm_hasBit (by omega) (by omega), fun c2 => ⟨fun _ => ?_, fun q => absurd rfl q⟩, fun c2 => ⟨fun q => absurd q (by decide), fun _ => ?_⟩⟩⟩, fun c => absurd (show b < a by omega) c⟩
    · rw [nB_0] at c1
      obtain ⟨r, w2, q1, q2⟩ := less (by unfold nk; rw [if_neg (fun z => c1 z.1)])
      refine ⟨_, _, hkin, ?_⟩
      rw [n_mon (by omega) (by omega), nI_add]
      exact ⟨r, w2, q1, ih (b + 1) w2 _ _ _ _ (by omega) q2⟩
    · rw [nB_0] at c2
      obtain ⟨r, w2, q1, q2⟩ := less (by unfold nk; rw [if_neg (fun z => c2 z.2)])
      refine ⟨_, _, hkin, ?_⟩
      rw [n_mon (by omega) (by omega), nI_add]
      exact ⟨r, w2, q1, ih (b + 1) w2 _ _ _ _ (by omega) q2⟩
    · rw [nB_0, Classical.not_not] at c1 c2
      obtain ⟨r, w2, q1, q2⟩ := more (by unfold nk; rw [if_pos ⟨c1, c2⟩, ← Nat.add_assoc])
      refine ⟨_, _, hkin, ?_⟩
      rw [nI_add (σ (37 + 8 * a + b)), n_min (a := 999) (by decide) (by omega), nI_add]
      exact ⟨r, w2, q1, ih (b + 1) w2 _ _ _ _ (by omega) q2⟩
theorem um_out (I : Iv T σ) (hT : σ 0 < 2 ^ 30) {w0 : mz_M} :
    ∀ k a w1 j4 j5 j6 j7 j8, a + k = σ 1 → Ug σ (qT σ a 0) z (σ 1) w0 w1 → mz_Ex cd_X4_turn (mz_Call (d + 4)) (Upo σ z w0) 49 [.ref 37, .int (nI (gi σ)), .int (nP (tpB (gi σ) a)), .int (nI a), j4, j5, j6, j7, j8] [] w1 := by
  have h8 := I.2.1
  have hg := gi_lt8 I
  intro k
  induction k with
  | zero =>
    intro a w1 j4 j5 j6 j7 j8 hk G
    have e1 : w1 38 1 = nI (σ 1) := by rw [G.1.2.1, qT_lo (by decide)]
    refine sg_X4_turn_49 ?_
    dsimp only
    rw [nc0, nc1, nc4, e1, nI_ltI (by omega) (by omega)]
    have M1 := G.1.kept (v := tpB (gi σ) a)
    have e0 : mz_up w1 38 (upd (w1 38) 4 (nP (tpB (gi σ) a))) 38 0 = nI (σ 0) := by rw [M1.1, su_n (by decide), qT_lo (by decide)]
    rw [e0, nI_add]
    refine ⟨vi1, fun c => absurd c (by omega), fun _ => ⟨vi4, vi0, vi0, rfl, ?_, G.2.2.2.tr (Fr.tr (Fr.up (Or.inl rfl)) (Fr.up (Or.inl rfl)))⟩⟩
    have M2 := M1.turn (v := σ 0 + 1)
    rw [show a = σ 1 by omega, qT_end] at M2
    rw [show a = σ 1 by omega]
    exact M2
  | succ k ih =>
    intro a w1 j4 j5 j6 j7 j8 hk G
    have e1 : w1 38 1 = nI (σ 1) := by rw [G.1.2.1, qT_lo (by decide)]
    refine sg_X4_turn_49 ?_
    dsimp only
    rw [nc1, e1, nI_ltI (by omega) (by omega)]
    refine ⟨vi1, fun c => ⟨_, _, mm_hasBit (by omega) (by omega), fun c1 => ?_, fun c1 => ?_⟩, fun c => absurd (show a < σ 1 by omega) c⟩
    · rw [nB_0] at c1
      refine um_in I (by omega) (fun w2 j4 j5 j6 j7 j8 G2 => ?_) a 0 w1 _ _ _ _ (by omega) G
      have := ih (a + 1) w2 j4 j5 j6 j7 j8 (by omega) G2
      rw [tpB, if_neg c1] at this
      exact this
    · rw [nB_0, Classical.not_not] at c1
      refine um_in I (by omega) (fun w2 j4 j5 j6 j7 j8 G2 => ?_) a 0 w1 _ _ _ _ (by omega) G
      have := ih (a + 1) w2 j4 j5 j6 j7 j8 (by omega) G2
      rw [tpB, if_pos c1, nP_s] at this
      exact this
theorem um_fill (I : Iv T σ) (hT : σ 0 < 2 ^ 30) {w0 : mz_M} :
    ∀ k n w1 j3 j4 j5 j6 j7 j8, n + k = σ 1 → Ug σ σ z n w0 w1 → mz_Ex cd_X4_turn (mz_Call (d + 4)) (Upo σ z w0) 7 [.ref 37, .int (nI (gi σ)), .int (nI n), j3, j4, j5, j6, j7, j8] [] w1 := by
  have h8 := I.2.1
  intro k
  induction k with
  | zero =>
    intro n w1 j3 j4 j5 j6 j7 j8 hk G
    refine sg_X4_turn_7 ?_
    rw [nc1, G.1.2.1, nI_ltI (by omega) (by omega)]
    refine ⟨vi1, fun c => absurd c (by omega), fun _ => ?_⟩
    rw [show n = σ 1 by omega] at G
    have := um_out (d := d) (z := z) I hT (w0 := w0) (σ 1) 0 w1 j4 j5 j6 j7 j8 (by omega) (by rw [qT_0]; exact G)
    rw [tpB, nP_0] at this
    exact this
  | succ k ih =>
    intro n w1 j3 j4 j5 j6 j7 j8 hk G
    have hin : vp_in (nI n) 8 := vp_in_nI (by omega) (by decide)
    have M1 : Ms 38 σ z (mz_up w1 42 (upd (w1 42) n (nI (bS σ n)))) := G.1.fr (mu_n (by decide))
    refine sg_X4_turn_7 ?_
    rw [nc1, G.1.2.1, nI_ltI (by omega) (by omega), nI_clamp (by omega)]
    refine ⟨vi1, fun c => ⟨_, _, mm_brings G.1 I hT (by omega), hin, _, _, mm_fades M1 I (by omega), hin, ?_⟩, fun c => absurd (show n < σ 1 by omega) c⟩
    rw [nI_add]
    refine ih (n + 1) _ _ _ _ _ _ _ (by omega) ⟨M1.fr (mu_n (by decide)), fun p hp => ?_, fun p hp => ?_, ?_⟩
    · rw [mu_n (by decide), mu_s]
      by_cases q : p = n
      · subst q; rw [pk_us]
      · rw [pk_un q]; exact G.2.1 p (by omega)
    · rw [mu_s, mu_n (by decide)]
      by_cases q : p = n
      · subst q; rw [pk_us]
      · rw [pk_un q]; exact G.2.2.1 p (by omega)
    · exact G.2.2.2.tr (Fr.tr (Fr.up (Or.inr (Or.inl rfl))) (Fr.up (Or.inr (Or.inr rfl))))
theorem mm_turn (M : Ms 38 σ z w) (I : Iv T σ) (hT : σ 0 < 2 ^ 30) : ∃ w', mz_Call (d + 5) 143 [.ref 37] w none w' ∧ Ms 38 (tS σ) z w' ∧ Fr Mp w w' := by
  refine ec_X4_turn (Po := fun w' => Ms 38 (tS σ) z w' ∧ Fr Mp w w') (sg_X4_turn_0 ⟨_, _, mm_goingIn M I hT, ?_⟩)
  exact um_fill I hT (σ 1) 0 w _ _ _ _ _ _ (by omega) ⟨M, fun p hp => absurd hp (by omega), fun p hp => absurd hp (by omega), Fr.rf⟩
end MT
