/-! House.passTurn: a turn -/
theorem ite_iff {α : Type} {c e : Prop} [Decidable c] [Decidable e] {x y : α} (h : c ↔ e) : (if c then x else y) = (if e then x else y) := by
  by_cases hc : c
  · rw [if_pos hc, if_pos (h.mp hc)]
  · rw [if_neg hc, if_neg (fun z => hc (h.mpr z))]
theorem nk_comm {T : Nat} {σ : Nat → Nat} (I : Iv T σ) {a b : Nat} (ha : a < 8) (hb : b < 8) : nk σ a b = nk σ b a := by
  unfold nk
  rw [I.2.2.2.2.2.2.2.2.1 a b ha hb, Nat.min_comm (bS σ a), Nat.max_comm (fS σ a)]
  exact ite_iff ⟨fun h => ⟨h.2, h.1⟩, fun h => ⟨h.2, h.1⟩⟩
/-- which places of kin are new, ahead of the pair a, b -/
def pC (n a b j : Nat) : Prop := 37 ≤ j ∧ j < 101 ∧ (((j - 37) / 8 < (j - 37) % 8 ∧ (j - 37) % 8 < n ∧ ((j - 37) / 8 < a ∨ ((j - 37) / 8 = a ∧ (j - 37) % 8 < b))) ∨ ((j - 37) % 8 < (j - 37) / 8 ∧ (j - 37) / 8 < n ∧ ((j - 37) % 8 < a ∨ ((j - 37) % 8 = a ∧ (j - 37) / 8 < b))))
noncomputable def pT (σ : Nat → Nat) (a b : Nat) : Nat → Nat := fun j => if j = 4 then tpB (gi σ) (σ 1) else @ite _ (pC (σ 1) a b j) (Classical.propDecidable _) (nk σ ((j - 37) / 8) ((j - 37) % 8)) (σ j)
theorem pT_cong {σ : Nat → Nat} {a b a' b' : Nat} (h : ∀ j, pC (σ 1) a b j ↔ pC (σ 1) a' b' j) : pT σ a b = pT σ a' b' := by
  funext j
  unfold pT
  by_cases h4 : j = 4
  · rw [if_pos h4, if_pos h4]
  · rw [if_neg h4, if_neg h4]
    by_cases hc : pC (σ 1) a b j
    · rw [if_pos hc, if_pos ((h j).mp hc)]
    · rw [if_neg hc, if_neg (fun z => hc ((h j).mpr z))]
theorem pT_0 (σ : Nat → Nat) : su σ 4 (tpB (gi σ) (σ 1)) = pT σ 0 0 := by
  funext j
  unfold su pT
  by_cases h4 : j = 4
  · rw [if_pos h4, if_pos h4]
  · rw [if_neg h4, if_neg h4, if_neg]
    unfold pC
    omega
theorem pT_in (σ : Nat → Nat) (a : Nat) : pT σ a (a + 1) = pT σ a 0 := pT_cong (fun j => by unfold pC; omega)
theorem pT_out (σ : Nat → Nat) (a : Nat) : pT σ a (σ 1) = pT σ (a + 1) 0 := pT_cong (fun j => by unfold pC; omega)
theorem pT_lo {σ : Nat → Nat} {a b j : Nat} (h : j < 37) (h4 : j ≠ 4) : pT σ a b j = σ j := by
  unfold pT
  rw [if_neg h4, if_neg]
  unfold pC
  omega
theorem pT_at {σ : Nat → Nat} {a b x y : Nat} (hx : x < 8) (hy : y < 8) (h : ¬ pC (σ 1) a b (37 + 8 * x + y)) : pT σ a b (37 + 8 * x + y) = σ (37 + 8 * x + y) := by
  unfold pT
  rw [if_neg (by omega), if_neg h]
theorem pT_step {T : Nat} {σ : Nat → Nat} (I : Iv T σ) {a b : Nat} (hab : a < b) (hb : b < σ 1) : kS (pT σ a b) a b (nk σ a b) = pT σ a (b + 1) := by
  have h8 := I.2.1
  funext j
  unfold kS su
  by_cases h1 : j = 37 + 8 * b + a
  · rw [if_pos h1]
    unfold pT
    rw [if_neg (by omega), if_pos (by unfold pC; omega), show (j - 37) / 8 = b by omega, show (j - 37) % 8 = a by omega]
    exact nk_comm I (by omega) (by omega)
  · rw [if_neg h1]
    by_cases h2 : j = 37 + 8 * a + b
    · rw [if_pos h2]
      unfold pT
      rw [if_neg (by omega), if_pos (by unfold pC; omega), show (j - 37) / 8 = a by omega, show (j - 37) % 8 = b by omega]
    · rw [if_neg h2]
      unfold pT
      by_cases h4 : j = 4
      · rw [if_pos h4, if_pos h4]
      · rw [if_neg h4, if_neg h4]
        by_cases hc : pC (σ 1) a b j
        · rw [if_pos hc, if_pos (by unfold pC at hc ⊢; omega)]
        · rw [if_neg hc, if_neg (by unfold pC at hc ⊢; omega)]
theorem pT_end {T : Nat} {σ : Nat → Nat} (I : Iv T σ) : su (pT σ (σ 1) 0) 0 (σ 0 + 1) = tS σ := by
  funext j
  unfold su pT tS
  by_cases h0 : j = 0
  · rw [if_pos h0, if_pos h0]
  · rw [if_neg h0, if_neg h0]
    by_cases h4 : j = 4
    · rw [if_pos h4, if_pos h4]
    · rw [if_neg h4, if_neg h4]
      by_cases hc : pC (σ 1) (σ 1) 0 j
      · rw [if_pos hc, if_pos (by unfold pC at hc; omega)]
      · rw [if_neg hc, if_neg (by unfold pC at hc; omega)]
section TM
variable {d h : Nat} {σ : Nat → Nat} {z : Int32} {w : mz_M} {T : Nat}
theorem Hs.fr {w' : mz_M} (H : Hs h σ z w) (e : ∀ k, h ≤ k → k < h + 6 → w' k = w k) : Hs h σ z w' := by
  obtain ⟨g0, g1, g2, g3, g4, g5, g6, g7, g8, g9⟩ := H
  refine ⟨?_, ?_, ?_, ?_, ?_, fun j hj => ?_, fun j hj => ?_, fun j hj => ?_, fun j hj => ?_, fun j hj => ?_⟩
  all_goals rw [e _ (by omega) (by omega)]
  · exact g0
  · exact g1
  · exact g2
  · exact g3
  · exact g4
  · exact g5 j hj
  · exact g6 j hj
  · exact g7 j hj
  · exact g8 j hj
  · exact g9 j hj
theorem Hs.kept (H : Hs h σ z w) (v : Nat) : Hs h (su σ 4 v) z (mz_up w h (upd (w h) 2 (nP v))) := by
  obtain ⟨g0, g1, g2, g3, g4, g5, g6, g7, g8, g9⟩ := H
  refine ⟨?_, ?_, ?_, ?_, ?_, fun j hj => ?_, fun j hj => ?_, fun j hj => ?_, fun j hj => ?_, fun j hj => ?_⟩
  · rw [mu_s, pk_un (by decide), su_n (by decide)]; exact g0
  · rw [mu_s, pk_un (by decide), su_n (by decide)]; exact g1
  · rw [mu_s, pk_us, su_s]
  · rw [mu_s, pk_un (by decide), su_n (by decide)]; exact g3
  · rw [mu_s, pk_un (by decide)]; exact g4
  · rw [mu_n (by omega), su_n (by omega)]; exact g5 j hj
  · rw [mu_n (by omega), su_n (by omega)]; exact g6 j hj
  · rw [mu_n (by omega), su_n (by omega)]; exact g7 j hj
  · rw [mu_n (by omega), su_n (by omega)]; exact g8 j hj
  · rw [mu_n (by omega), su_n (by omega)]; exact g9 j hj
theorem Hs.turn (H : Hs h σ z w) (v : Nat) : Hs h (su σ 0 v) z (mz_up w h (upd (w h) 1 (nI v))) := by
  obtain ⟨g0, g1, g2, g3, g4, g5, g6, g7, g8, g9⟩ := H
  refine ⟨?_, ?_, ?_, ?_, ?_, fun j hj => ?_, fun j hj => ?_, fun j hj => ?_, fun j hj => ?_, fun j hj => ?_⟩
  · rw [mu_s, pk_un (by decide), su_n (by decide)]; exact g0
  · rw [mu_s, pk_us, su_s]
  · rw [mu_s, pk_un (by decide), su_n (by decide)]; exact g2
  · rw [mu_s, pk_un (by decide), su_n (by decide)]; exact g3
  · rw [mu_s, pk_un (by decide)]; exact g4
  · rw [mu_n (by omega), su_n (by omega)]; exact g5 j hj
  · rw [mu_n (by omega), su_n (by omega)]; exact g6 j hj
  · rw [mu_n (by omega), su_n (by omega)]; exact g7 j hj
  · rw [mu_n (by omega), su_n (by omega)]; exact g8 j hj
  · rw [mu_n (by omega), su_n (by omega)]; exact g9 j hj
theorem clS_su4 (σ : Nat → Nat) (v p : Nat) : ∀ n, clS (su σ 4 v) p n = clS σ p n
  | 0 => rfl
  | n + 1 => by rw [clS, clS, clS_su4 σ v p n, su_n (by omega)]
theorem bS_su4 (σ : Nat → Nat) (v p : Nat) : bS (su σ 4 v) p = bS σ p := by
  unfold bS
  rw [clS_su4, su_n (show 21 + p ≠ 4 by omega), su_n (show 29 + p ≠ 4 by omega), su_n (show 0 ≠ 4 by decide), su_n (show 1 ≠ 4 by decide), su_n (show 3 ≠ 4 by decide)]
theorem fS_su4 (σ : Nat → Nat) (v p : Nat) : fS (su σ 4 v) p = fS σ p := by
  unfold fS
  rw [su_n (show 21 + p ≠ 4 by omega), su_n (show 3 ≠ 4 by decide)]
theorem Iv.kept (I : Iv T σ) {v : Nat} (hv : v ≤ σ 1) : Iv T (su σ 4 v) := by
  obtain ⟨i0, i1, i2, i3, i4, i5, i6, i7, i8, i9⟩ := I
  refine ⟨?_, ?_, ?_, fun j a b => ?_, fun j a b => ?_, fun j a b => ?_, fun j a b => ?_, fun j a b => ?_, fun a b ha hb => ?_, fun a ha => ?_⟩
  · rw [su_n (by decide)]; exact i0
  · rw [su_n (by decide)]; exact i1
  · rw [su_n (by decide)]; exact i2
  · rw [su_n (k := 4) (j := 1) (by decide)]
    by_cases e : j = 4
    · rw [e, su_s]; exact hv
    · rw [su_n e]; exact i3 j a b
  · rw [su_n (by omega)]; exact i4 j a b
  · rw [su_n (by omega)]; exact i5 j a b
  · rw [su_n (by omega)]; exact i6 j a b
  · rw [su_n (by omega)]; exact i7 j a b
  · rw [su_n (by omega), su_n (by omega)]; exact i8 a b ha hb
  · rw [su_n (by omega)]; exact i9 a ha
/-- what stands while kin of pairs is made: the house, what each brings and fades -/
def Tg (h : Nat) (σ τ : Nat → Nat) (z : Int32) (n : Nat) (w0 w1 : mz_M) : Prop := Hs h τ z w1 ∧ (∀ p, p < n → w1 (h + 6) p = nI (if (gi σ).testBit p = true then bS σ p else 0)) ∧ (∀ p, p < n → w1 (h + 7) p = nI (fS σ p)) ∧ Fr (Hp h) w0 w1
def Tpo (h : Nat) (σ : Nat → Nat) (z : Int32) (w0 : mz_M) : mz_Q := fun r1 w1 => r1 = none ∧ Hs h (tS σ) z w1 ∧ Fr (Hp h) w0 w1
/-- one pair -/
theorem tm_pair (hh : h = 1 ∨ h = 9 ∨ h = 17) (I : Iv T σ) {a b x : Nat} {w0 w1 : mz_M} (hab : a < b) (hb : b < σ 1) (G : Tg h σ (pT σ a b) z (σ 1) w0 w1) (hx : x = nk σ a b) : ∃ w2, mz_Call (d + 1) 5 [.ref h, .int (nI a), .int (nI b), .int (nI x)] w1 none w2 ∧ Tg h σ (pT σ a (b + 1)) z (σ 1) w0 w2 := by
  have h8 := I.2.1
  obtain ⟨w2, c, e1, e2⟩ := hm_relate (d := d) hh G.1 (a := a) (b := b) (v := x) (by omega) (by omega)
  rw [hx, pT_step I hab hb] at e1
  exact ⟨w2, c, e1, fun p hp => by rw [e2 _ (by omega)]; exact G.2.1 p hp, fun p hp => by rw [e2 _ (by omega)]; exact G.2.2.1 p hp, G.2.2.2.tr (e2.mono (fun k hk => by subst hk; exact ⟨by omega, by omega⟩))⟩
theorem tm_in (hh : h = 1 ∨ h = 9 ∨ h = 17) (I : Iv T σ) {w0 : mz_M} {Q : mz_Q} {a : Nat} (ha : a < σ 1) (K : ∀ (w2 : mz_M) (j : Value), Tg h σ (pT σ (a + 1) 0) z (σ 1) w0 w2 → mz_Ex cd_X0_passTurn (mz_Call (d + 2)) Q 75 [.ref h, .int (nI (gi σ)), .int (nI (a + 1)), j] [] w2) :
    ∀ k b w1, b + k = σ 1 → a < b → Tg h σ (pT σ a b) z (σ 1) w0 w1 → mz_Ex cd_X0_passTurn (mz_Call (d + 2)) Q 87 [.ref h, .int (nI (gi σ)), .int (nI a), .int (nI b)] [] w1 := by
  have h8 := I.2.1
  have hg := gi_lt8 I
  intro k
  induction k with
  | zero =>
    intro b w1 hk hab G
    refine sg_X0_passTurn_87 hh ?_
    have e1 : w1 h 3 = nI (σ 1) := by rw [G.1.2.2.2.1, pT_lo (by decide) (by decide)]
    rw [e1, nI_ltI (by omega) (by omega)]
    refine ⟨fun c => absurd c (by omega), fun _ => ?_⟩
    rw [nI_add]
    refine K w1 _ ?_
    rw [← pT_out, show σ 1 = b by omega]
    rw [show b = σ 1 by omega] at G
    rw [show σ 1 = b by omega] at G
    exact G
  | succ k ih =>
    intro b w1 hk hab G
    have e1 : w1 h 3 = nI (σ 1) := by rw [G.1.2.2.2.1, pT_lo (by decide) (by decide)]
    have hkab : pT σ a b (37 + 8 * a + b) = σ (37 + 8 * a + b) := pT_at (by omega) (by omega) (by unfold pC; omega)
    have hle := I.2.2.2.2.2.2.2.1 (37 + 8 * a + b) (by omega) (by omega)
    have hd3 : pT σ a b 3 = σ 3 := pT_lo (by decide) (by decide)
    have hd := I.2.2.1
    have hga : (gi σ).testBit a = true → w1 (h + 6) a = nI (bS σ a) := fun c => by rw [G.2.1 a (by omega), if_pos c]
    have hgb : (gi σ).testBit b = true → w1 (h + 6) b = nI (bS σ b) := fun c => by rw [G.2.1 b (by omega), if_pos c]
    refine sg_X0_passTurn_87 hh ?_
    rw [e1, nI_ltI (by omega) (by omega)]
    refine ⟨fun c => ⟨_, _, hm_has (by omega) (by omega), fun c1 => ?_, fun c1 => ⟨_, _, hm_has (by omega) (by omega), fun c2 => ?_, fun c2 => ?_⟩⟩, fun c => absurd (show b < σ 1 by omega) c⟩
    · rw [nB_0] at c1
      obtain ⟨w2, q1, q2⟩ := tm_pair (d := d + 1) hh I hab (by omega) G (x := σ (37 + 8 * a + b) - max (fS σ a) (fS σ b)) (by unfold nk; rw [if_neg (fun z => c1 z.1)])
      have hs := hm_shrunk (d := d) hh G.1 (a := a) (b := b) (by omega) (by omega) (by omega) (G.2.2.1 a (by omega)) (G.2.2.1 b (by omega)) (fS_le σ a) (fS_le σ b)
      rw [hkab] at hs
      refine ⟨_, _, hs, w2, q1, ?_⟩
      rw [nI_add]
      exact ih (b + 1) w2 (by omega) (by omega) q2
    · rw [nB_0] at c2
      obtain ⟨w2, q1, q2⟩ := tm_pair (d := d + 1) hh I hab (by omega) G (x := σ (37 + 8 * a + b) - max (fS σ a) (fS σ b)) (by unfold nk; rw [if_neg (fun z => c2 z.2)])
      have hs := hm_shrunk (d := d) hh G.1 (a := a) (b := b) (by omega) (by omega) (by omega) (G.2.2.1 a (by omega)) (G.2.2.1 b (by omega)) (fS_le σ a) (fS_le σ b)
      rw [hkab] at hs
      refine ⟨_, _, hs, w2, q1, ?_⟩
      rw [nI_add]
      exact ih (b + 1) w2 (by omega) (by omega) q2
    · rw [nB_0, Classical.not_not] at c1 c2
      obtain ⟨w2, q1, q2⟩ := tm_pair (d := d + 1) hh I hab (by omega) G (x := min 999 (σ (37 + 8 * a + b) + min (bS σ a) (bS σ b) + σ 3)) (by unfold nk; rw [if_pos ⟨c1, c2⟩])
      have hs := hm_grown (d := d) hh G.1 (a := a) (b := b) (by omega) (by omega) (by omega) (by omega) (hga c1) (hgb c2) (bS_le I (by omega)) (bS_le I (by omega))
      rw [hkab, hd3] at hs
      refine ⟨_, _, hs, w2, q1, ?_⟩
      rw [nI_add]
      exact ih (b + 1) w2 (by omega) (by omega) q2
theorem tm_out (hh : h = 1 ∨ h = 9 ∨ h = 17) (I : Iv T σ) (hT : σ 0 < 99998) {w0 : mz_M} :
    ∀ k a w1 j, a + k = σ 1 → Tg h σ (pT σ a 0) z (σ 1) w0 w1 → mz_Ex cd_X0_passTurn (mz_Call (d + 2)) (Tpo h σ z w0) 75 [.ref h, .int (nI (gi σ)), .int (nI a), j] [] w1 := by
  have h8 := I.2.1
  intro k
  induction k with
  | zero =>
    intro a w1 j hk G
    have e1 : w1 h 3 = nI (σ 1) := by rw [G.1.2.2.2.1, pT_lo (by decide) (by decide)]
    have e2 : w1 h 1 = nI (σ 0) := by rw [G.1.2.1, pT_lo (by decide) (by decide)]
    refine sg_X0_passTurn_75 hh ?_
    rw [e1, nI_ltI (by omega) (by omega), e2, nI_add (σ 0) 1, n_min (a := 99999) (b := σ 0 + 1) (by decide) (by omega), Nat.min_eq_right (by omega)]
    refine ⟨fun c => absurd c (by omega), fun _ => ⟨rfl, ?_, G.2.2.2.tr (Fr.up ⟨by omega, by omega⟩)⟩⟩
    have ha : a = σ 1 := by omega
    have q := G.1.turn (σ 0 + 1)
    rw [ha, pT_end I] at q
    exact q
  | succ k ih =>
    intro a w1 j hk G
    have e1 : w1 h 3 = nI (σ 1) := by rw [G.1.2.2.2.1, pT_lo (by decide) (by decide)]
    refine sg_X0_passTurn_75 hh ?_
    rw [e1, nI_ltI (by omega) (by omega)]
    refine ⟨fun c => ?_, fun c => absurd (show a < σ 1 by omega) c⟩
    rw [nI_add]
    refine tm_in hh I (by omega) (fun w2 j2 G2 => ih (a + 1) w2 j2 (by omega) G2) (σ 1 - (a + 1)) (a + 1) w1 (by omega) (by omega) ?_
    rw [pT_in]
    exact G
theorem tm_fill (hh : h = 1 ∨ h = 9 ∨ h = 17) (I : Iv T σ) (hT : σ 0 < 99998) {w0 : mz_M} :
    ∀ k n w1 j, n + k = σ 1 → Tg h σ (su σ 4 (tpB (gi σ) n)) z n w0 w1 → mz_Ex cd_X0_passTurn (mz_Call (d + 2)) (Tpo h σ z w0) 12 [.ref h, .int (nI (gi σ)), .int (nI n), j] [] w1 := by
  have h8 := I.2.1
  have hg := gi_lt8 I
  intro k
  induction k with
  | zero =>
    intro n w1 j hk G
    have e1 : w1 h 3 = nI (σ 1) := by rw [G.1.2.2.2.1, su_n (by decide)]
    refine sg_X0_passTurn_12 hh ?_
    rw [e1, nI_ltI (by omega) (by omega)]
    refine ⟨fun c => absurd c (by omega), fun _ => ?_⟩
    have hn : n = σ 1 := by omega
    rw [hn, pT_0] at G
    exact tm_out hh I hT (σ 1) 0 w1 j (by omega) G
  | succ k ih =>
    intro n w1 j hk G
    have e1 : w1 h 3 = nI (σ 1) := by rw [G.1.2.2.2.1, su_n (by decide)]
    have hv := tpB_le (gi σ) n
    have I2 : Iv T (su σ 4 (tpB (gi σ) n)) := I.kept (by omega)
    have hin : vp_in (nI n) 8 := vp_in_nI (by omega) (by decide)
    have step : ∀ (x : Nat) (w2 : mz_M), x = (if (gi σ).testBit n = true then bS σ n else 0) → w2 = mz_up (mz_up w1 (h + 6) (upd (w1 (h + 6)) n (nI x))) (h + 7) (upd (mz_up w1 (h + 6) (upd (w1 (h + 6)) n (nI x)) (h + 7)) n (nI (fS σ n))) → Tg h σ (su σ 4 (tpB (gi σ) n)) z (n + 1) w0 w2 := by
      intro x w2 ex e
      subst e
      refine ⟨G.1.fr (fun k h1 h2 => by rw [mu_n (by omega), mu_n (by omega)]), fun p hp => ?_, fun p hp => ?_, ?_⟩
      · rw [mu_n (by omega), mu_s]
        by_cases q : p = n
        · subst q; rw [pk_us, ex]
        · rw [pk_un q]; exact G.2.1 p (by omega)
      · rw [mu_s, mu_n (by omega)]
        by_cases q : p = n
        · subst q; rw [pk_us]
        · rw [pk_un q]; exact G.2.2.1 p (by omega)
      · exact G.2.2.2.tr ((Fr.up (w := w1) (P := Hp h) ⟨by omega, by omega⟩).tr (Fr.up ⟨by omega, by omega⟩))
    have last : ∀ w2, Tg h σ (su σ 4 (tpB (gi σ) n)) z (n + 1) w0 w2 → ∃ (r3 : Int32) (w3 : mz_M), mz_Call (d + 2) 21 [.int (nI (gi σ)), .int (nI n)] w2 (some (.int r3)) w3 ∧ ((r3 = nI 0 → mz_Ex cd_X0_passTurn (mz_Call (d + 2)) (Tpo h σ z w0) 12 [.ref h, .int (nI (gi σ)), .int (nI n + nI 1), j] [] w3) ∧ (¬ r3 = nI 0 → mz_Ex cd_X0_passTurn (mz_Call (d + 2)) (Tpo h σ z w0) 12 [.ref h, .int (nI (gi σ)), .int (nI n + nI 1), j] [] (mz_up w3 h (upd (w3 h) 2 (nI n))))) := by
      intro w2 G2
      refine ⟨_, _, hm_has (by omega) (by omega), fun c => ?_, fun c => ?_⟩
      · rw [nB_0] at c
        rw [nI_add]
        refine ih (n + 1) w2 j (by omega) ?_
        rw [tpB, if_neg c]
        exact G2
      · rw [nB_0, Classical.not_not] at c
        rw [nI_add]
        refine ih (n + 1) _ j (by omega) ?_
        rw [tpB, if_pos c]
        have q := G2.1.kept (n + 1)
        rw [nP_s] at q
        have e : su (su σ 4 (tpB (gi σ) n)) 4 (n + 1) = su σ 4 (n + 1) := by
          funext i
          unfold su
          by_cases hi : i = 4
          · rw [if_pos hi, if_pos hi]
          · rw [if_neg hi, if_neg hi, if_neg hi]
        rw [e] at q
        exact ⟨q, fun p hp => by rw [mu_n (by omega)]; exact G2.2.1 p hp, fun p hp => by rw [mu_n (by omega)]; exact G2.2.2.1 p hp, G2.2.2.2.tr (Fr.up ⟨by omega, by omega⟩)⟩
    have hbr : ∀ (w2 : mz_M), Hs h (su σ 4 (tpB (gi σ) n)) z w2 → mz_Call (d + 2) 12 [.ref h, .int (nI n)] w2 (some (.int (nI (bS σ n)))) w2 := fun w2 q => by
      have := hm_brings (d := d) hh q I2 (by rw [su_n (by decide)]; omega) (p := n) (by omega)
      rw [bS_su4] at this
      exact this
    have hfa : ∀ (w2 : mz_M), Hs h (su σ 4 (tpB (gi σ) n)) z w2 → mz_Call (d + 2) 14 [.ref h, .int (nI n)] w2 (some (.int (nI (fS σ n)))) w2 := fun w2 q => by
      have := hm_fades (d := d + 1) hh q I2 (p := n) (by omega)
      rw [fS_su4] at this
      exact this
    refine sg_X0_passTurn_12 hh ?_
    rw [e1, nI_ltI (by omega) (by omega), nI_clamp (by omega)]
    refine ⟨fun c => ⟨_, _, hm_has (by omega) (by omega), fun c1 => ?_, fun c1 => ?_⟩, fun c => absurd (show n < σ 1 by omega) c⟩
    · rw [nB_0] at c1
      refine ⟨hin, _, _, hfa _ (G.1.fr (fun k h1 h2 => by rw [mu_n (by omega)])), hin, last _ (step 0 _ (by rw [if_neg c1]) rfl)⟩
    · rw [nB_0, Classical.not_not] at c1
      refine ⟨_, _, hbr _ G.1, hin, _, _, hfa _ (G.1.fr (fun k h1 h2 => by rw [mu_n (by omega)])), hin, last _ (step (bS σ n) _ (by rw [if_pos c1]) rfl)⟩
theorem hm_passTurn (hh : h = 1 ∨ h = 9 ∨ h = 17) (H : Hs h σ z w) (I : Iv T σ) (hT : σ 0 < 99998) : ∃ w', mz_Call (d + 3) 18 [.ref h] w none w' ∧ Hs h (tS σ) z w' ∧ Fr (Hp h) w w' := by
  refine ec_X0_passTurn (Po := fun w' => Hs h (tS σ) z w' ∧ Fr (Hp h) w w') (sg_X0_passTurn_0 hh ⟨_, _, hm_goingIn hh H I (by omega), ?_⟩)
  refine tm_fill hh I hT (σ 1) 0 _ _ (by omega) ?_
  have q := H.kept 0
  rw [nP_0] at q
  exact ⟨q, fun p hp => absurd hp (by omega), fun p hp => absurd hp (by omega), Fr.up ⟨by omega, by omega⟩⟩
end TM
