/-! what a sheet tells of kin, turn by turn: both sides -/
/-- kin of two, or (b 0) of one to all others -/
def vS (a b : Nat) (τ : Nat → Nat) : Nat := if b = 0 then skS τ a else kn τ a (b - 1)
/-- whether the first n numbers are so -/
def gtS (a b : Nat) (σ : Nat → Nat) (f : Nat → Int32) : Nat → Bool
  | 0 => true
  | k + 1 => gtS a b σ f k && decide (f k = (-1 : Int32) ∨ f k = nI (vS a b (tN σ k)))
theorem gt_s {a b : Nat} {σ : Nat → Nat} {f : Nat → Int32} {k : Nat} : gtS a b σ f (k + 1) = true ↔ gtS a b σ f k = true ∧ (f k = (-1 : Int32) ∨ f k = nI (vS a b (tN σ k))) := by
  rw [gtS, Bool.and_eq_true, decide_eq_true_eq]
theorem gt_lo {a b : Nat} {σ : Nat → Nat} {f : Nat → Int32} {i : Nat} : ∀ {n : Nat}, i ≤ n → gtS a b σ f n = true → gtS a b σ f i = true
  | 0, h, q => by rw [show i = 0 by omega]; rfl
  | n + 1, h, q => by
    by_cases e : i = n + 1
    · rw [e]; exact q
    · exact gt_lo (n := n) (by omega) (gt_s.mp q).1
/-- numbers at the end that tell nothing -/
theorem gt_cut {a b : Nat} {σ : Nat → Nat} {f : Nat → Int32} {m : Nat} : ∀ {n : Nat}, m ≤ n → (∀ j, m ≤ j → j < n → f j = (-1 : Int32)) → gtS a b σ f n = gtS a b σ f m
  | 0, h, q => by rw [show m = 0 by omega]
  | n + 1, h, q => by
    by_cases e : m = n + 1
    · rw [e]
    · rw [gtS, decide_eq_true (Or.inl (q n (by omega) (by omega))), Bool.and_true]
      exact gt_cut (n := n) (by omega) (fun j h1 h2 => q j h1 (by omega))
section TD
variable {d : Nat} {w : mz_M} {T h : Nat} {σ : Nat → Nat} {z : Int32}
theorem vS_le (I : Iv T σ) {a b : Nat} (ha : a < 8) (hb : b ≤ 8) : vS a b σ ≤ 7992 := by
  have h1 := sk_le I (p := a) (n := σ 1) ha I.2.1
  have h2 := kn_le I (a := a) (b := b - 1) ha (by omega)
  unfold vS
  split
  · exact h1
  · exact Nat.le_trans h2 (by decide)
theorem hm_toldSize {s n : Nat} (hs : s < 4) (hn : n ≤ 40) (en : w (28 + 2 * s) 1 = nI n) : ∃ m, m ≤ n ∧ (∀ j, m ≤ j → j < n → w (29 + 2 * s) j = (-1 : Int32)) ∧ mz_Call (d + 1) 32 [.ref (28 + 2 * s)] w (some (.int (nI m))) w := by
  have loop : ∀ k, k ≤ n → (∀ j, k ≤ j → j < n → w (29 + 2 * s) j = (-1 : Int32)) → mz_Ex cd_X1_toldSize (mz_Call d) (fun r1 w1 => ∃ u : Int32, r1 = some (.int u) ∧ ∃ m, u = nI m ∧ m ≤ n ∧ (∀ j, m ≤ j → j < n → w (29 + 2 * s) j = (-1 : Int32)) ∧ w1 = w) 5 [.ref (28 + 2 * s), .int (nI k)] [] w := by
    intro k
    induction k with
    | zero =>
      intro hk a
      refine sg_X1_toldSize_5 (hk4 hs) ?_
      rw [nI_ltI (by omega) (by omega)]
      exact ⟨fun c => absurd c (by omega), fun _ => ⟨_, rfl, 0, rfl, hk, a, rfl⟩⟩
    | succ k ih =>
      intro hk a
      refine sg_X1_toldSize_5 (hk4 hs) ?_
      rw [nI_ltI (by omega) (by omega), pk_sub (by omega), nP_m, nP_s, show k + 1 - 1 = k by omega, nI_clamp (n := k) (by omega), show 28 + 2 * s + 1 = 29 + 2 * s by omega]
      refine ⟨fun _ => ⟨vp_in_nI (by omega) (by decide), fun c => ih (by omega) (fun j h1 h2 => ?_), fun _ => ⟨_, rfl, k + 1, rfl, hk, a, rfl⟩⟩, fun c => absurd (show 0 < k + 1 by omega) c⟩
      by_cases e : j = k
      · rw [e]; exact c
      · exact a j (by omega) h2
  obtain ⟨u, w', a1, m, rfl, a2, a3, rfl⟩ := ec_X1_toldSize (d := d) (w := w) (Po := fun u w1 => ∃ m, u = nI m ∧ m ≤ n ∧ (∀ j, m ≤ j → j < n → w (29 + 2 * s) j = (-1 : Int32)) ∧ w1 = w) (sg_X1_toldSize_0 (hk4 hs) (by rw [en]; exact loop n (Nat.le_refl _) (fun j h1 h2 => absurd h2 (by omega))))
  exact ⟨m, a2, a3, a1⟩
theorem hm_goesAsTold (H : Hs 9 σ z w) (I : Iv T σ) (hT : T ≤ 99000) {s n a b : Nat} (hs : s < 4) (hn : n ≤ 40) (en : w (28 + 2 * s) 1 = nI n) (ha : a < 8) (hb : b ≤ 8) : ∃ w', mz_Call (d + 4) 106 [.ref 0, .ref (28 + 2 * s), .int (nI a), .int (nP b)] w (some (.int (nB (gtS a b σ (w (29 + 2 * s)) n = true)))) w' ∧ Fr Tp w w' := by
  obtain ⟨m, m1, m2, m3⟩ := hm_toldSize (d := d + 2) hs hn en
  rw [gt_cut m1 m2]
  have loop : ∀ k i j6 w1, i + k = m → Hs 9 (tN σ (i - 1)) z w1 → Fr Tp w w1 → gtS a b σ (w (29 + 2 * s)) i = true → mz_Ex cd_X3_goesAsTold (mz_Call (d + 3)) (fun r1 w2 => ∃ u : Int32, r1 = some (.int u) ∧ (u = nB (gtS a b σ (w (29 + 2 * s)) m = true) ∧ Fr Tp w w2)) 9 [.ref 0, .ref (28 + 2 * s), .int (nI a), .int (nP b), .int (nI m), .int (nI i), j6] [] w1 := by
    intro k
    induction k with
    | zero =>
      intro i j6 w1 hi H1 F1 g
      refine sg_X3_goesAsTold_9 (hk4 hs) ?_
      rw [nI_ltI (a := i) (by omega) (by omega)]
      refine ⟨fun c => absurd c (by omega), fun _ => ⟨nz_11, _, rfl, ?_, F1⟩⟩
      rw [show i = m by omega] at g
      rw [nB_t g]
    | succ k ih =>
      intro i j6 w1 hi H1 F1 g
      have I1 := I.turns i
      have I0 := I.turns (i - 1)
      have vl := vS_le I1 ha hb
      have hin : vp_in (nI i) 40 := vp_in_nI (by omega) (by decide)
      have tail : ∀ w2, Hs 9 (tN σ i) z w2 → Fr Tp w w2 → ((w2 (28 + 2 * s + 1) (nI i).toNatClampNeg = (-1 : Int32) → mz_Ex cd_X3_goesAsTold (mz_Call (d + 3)) (fun r1 w2 => ∃ u : Int32, r1 = some (.int u) ∧ (u = nB (gtS a b σ (w (29 + 2 * s)) m = true) ∧ Fr Tp w w2)) 9 [.ref 0, .ref (28 + 2 * s), .int (nI a), .int (nP b), .int (nI m), .int (nI i + nI 1), .int (nI (vS a b (tN σ i)))] [] w2) ∧ (¬ w2 (28 + 2 * s + 1) (nI i).toNatClampNeg = (-1 : Int32) → (vp_in (nI i) 40 ∧ ((w2 (28 + 2 * s + 1) (nI i).toNatClampNeg = nI (vS a b (tN σ i)) → mz_Ex cd_X3_goesAsTold (mz_Call (d + 3)) (fun r1 w2 => ∃ u : Int32, r1 = some (.int u) ∧ (u = nB (gtS a b σ (w (29 + 2 * s)) m = true) ∧ Fr Tp w w2)) 9 [.ref 0, .ref (28 + 2 * s), .int (nI a), .int (nP b), .int (nI m), .int (nI i + nI 1), .int (nI (vS a b (tN σ i)))] [] w2) ∧ (¬ w2 (28 + 2 * s + 1) (nI i).toNatClampNeg = nI (vS a b (tN σ i)) → (((nI 0 = 0) ∨ (nI 0 = 1)) ∧ ∃ u : Int32, (some (Value.int (nI 0))) = some (.int u) ∧ (u = nB (gtS a b σ (w (29 + 2 * s)) m = true) ∧ Fr Tp w w2))))))) := by
        intro w2 H2 F2
        rw [show 28 + 2 * s + 1 = 29 + 2 * s by omega, F2 (29 + 2 * s) (by omega), nI_clamp (n := i) (by omega), nI_add]
        refine ⟨fun c => ih (i + 1) _ w2 (by omega) (by rw [Nat.add_sub_cancel]; exact H2) F2 (gt_s.mpr ⟨g, Or.inl c⟩), fun c => ⟨hin, fun c2 => ih (i + 1) _ w2 (by omega) (by rw [Nat.add_sub_cancel]; exact H2) F2 (gt_s.mpr ⟨g, Or.inr c2⟩), fun c2 => ⟨nz_01, _, rfl, ?_, F2⟩⟩⟩
        rw [nB_f (fun q => by rcases (gt_s.mp (gt_lo (i := i + 1) (by omega) q)).2 with q1 | q1; exact c q1; exact c2 q1)]
      have vals : ∀ w2, Hs 9 (tN σ i) z w2 → (nP b = (-1 : Int32) → mz_Call (d + 3) 7 [.ref 9, .int (nI a)] w2 (some (.int (nI (vS a b (tN σ i))))) w2) ∧ (¬ nP b = (-1 : Int32) → mz_Call (d + 3) 4 [.ref 9, .int (nI a), .int (nP b)] w2 (some (.int (nI (vS a b (tN σ i))))) w2) := by
        intro w2 H2
        rw [nP_eq_m1 (by omega)]
        refine ⟨fun c => ?_, fun c => ?_⟩
        · unfold vS; rw [if_pos c]
          exact hm_kinToAll (Or.inr (Or.inl rfl)) H2 I1 ha
        · unfold vS; rw [if_neg c, nP_pos (by omega)]
          exact hm_kinOf (Or.inr (Or.inl rfl)) H2 ha (by omega)
      refine sg_X3_goesAsTold_9 (hk4 hs) ?_
      rw [nI_ltI (a := i) (by omega) (by omega), nI_ltI (a := 0) (by omega) (by omega)]
      refine ⟨fun _ => ⟨fun c => ?_, fun c => ?_⟩, fun c => absurd (show i < m by omega) c⟩
      · obtain ⟨w2, q, H2, F2⟩ := hm_passTurn (d := d) (Or.inr (Or.inl rfl)) H1 I0 (by have := I0.1; omega)
        have H3 : Hs 9 (tN σ i) z w2 := by
          have e : tS (tN σ (i - 1)) = tN σ i := by
            obtain ⟨k, rfl⟩ : ∃ k, i = k + 1 := ⟨i - 1, by omega⟩
            rfl
          rw [← e]; exact H2
        have F3 := F1.tr F2
        exact ⟨w2, q, fun c2 => ⟨_, _, (vals w2 H3).1 c2, hin, tail w2 H3 F3⟩, fun c2 => ⟨_, _, (vals w2 H3).2 c2, hin, tail w2 H3 F3⟩⟩
      · have H3 : Hs 9 (tN σ i) z w1 := by
          rw [show i = i - 1 by omega]; exact H1
        exact ⟨fun c2 => ⟨_, _, (vals w1 H3).1 c2, hin, tail w1 H3 F1⟩, fun c2 => ⟨_, _, (vals w1 H3).2 c2, hin, tail w1 H3 F1⟩⟩
  obtain ⟨u, w', a1, a2, a3⟩ := ec_X3_goesAsTold (d := d + 3) (Po := fun u w2 => u = nB (gtS a b σ (w (29 + 2 * s)) m = true) ∧ Fr Tp w w2) (sg_X3_goesAsTold_0 (hk4 hs) ⟨_, _, m3, loop m 0 _ w (by omega) H Fr.rf rfl⟩)
  subst a2
  exact ⟨w', a1, a3⟩
theorem mm_wasSo (M : Ms 38 σ z w) (I : Iv T σ) (hT : T ≤ 99000) {s n a b : Nat} {f : Nat → Int32} (hs : s < 4) (hn : n ≤ 40) (en : w 48 s = nI n) (ef : ∀ j, j < 40 → f j = w 49 (40 * s + j)) (ha : a < 8) (hb : b ≤ 8) : ∃ w', mz_Call (d + 6) 171 [.ref 37, .int (nI s), .int (nI a), .int (nP b)] w (some (.int (nB (gtS a b σ f n = true)))) w' ∧ Ms 38 σ z w' ∧ Fr Mq w w' := by
  obtain ⟨w0, q1, q2, q3⟩ := mm_copyRow (d := d + 4) (a := 38) (b := 40) (by omega) (by omega) (by decide) M
  have fin : ∀ w1, Ms 40 σ z w1 → Fr Mq w w1 → ∃ w2, mz_Call (d + 5) 110 [.ref 40, .ref 38] w1 none w2 ∧ Ms 38 σ z w2 ∧ Fr Mq w w2 := by
    intro w1 A F
    obtain ⟨w2, c1, c2, c3⟩ := mm_copyRow (d := d + 4) (a := 40) (b := 38) (by omega) (by omega) (by decide) A
    exact ⟨w2, c1, c2, F.tr (c3.mono (by omega))⟩
  have hin4 := vi4s hs
  have bad : ∀ i w1 j6, i ≤ n → ¬ gtS a b σ f n = true → Ms 40 σ z w1 → Fr Mq w w1 → mz_Ex cd_X4_wasSo (mz_Call (d + 5)) (fun r1 w3 => ∃ u : Int32, r1 = some (.int u) ∧ (u = nB (gtS a b σ f n = true) ∧ Ms 38 σ z w3 ∧ Fr Mq w w3)) 17 [.ref 37, .int (nI s), .int (nI a), .int (nP b), .int (nI 0), .int (nI i), j6] [] w1 := by
    intro i w1 j6 hi g A F
    obtain ⟨w2, c1, c2, c3⟩ := fin w1 A F
    refine sg_X4_wasSo_17 ⟨hin4, fun _ => ⟨fun _ => ⟨w2, c1, nz_01, _, rfl, ?_, c2, c3⟩, nS⟩, fun _ => ⟨w2, c1, nz_01, _, rfl, ?_, c2, c3⟩⟩
    · rw [nB_f g]
    · rw [nB_f g]
  have loop : ∀ k i j6 w1, i + k = n → Ms 38 (tN σ i) z w1 → Ms 40 σ z w1 → Fr Mq w w1 → gtS a b σ f i = true → mz_Ex cd_X4_wasSo (mz_Call (d + 5)) (fun r1 w3 => ∃ u : Int32, r1 = some (.int u) ∧ (u = nB (gtS a b σ f n = true) ∧ Ms 38 σ z w3 ∧ Fr Mq w w3)) 17 [.ref 37, .int (nI s), .int (nI a), .int (nP b), .int (nI 1), .int (nI i), j6] [] w1 := by
    intro k
    induction k with
    | zero =>
      intro i j6 w1 hi M1 A1 F1 g
      obtain ⟨w2, c1, c2, c3⟩ := fin w1 A1 F1
      refine sg_X4_wasSo_17 ⟨hin4, ?_⟩
      rw [nI_clamp (n := s) (by omega), F1 48 (by omega), en, nI_ltI (a := i) (by omega) (by omega)]
      refine ⟨fun c => absurd c (by omega), fun _ => ⟨w2, c1, nz_11, _, rfl, ?_, c2, c3⟩⟩
      rw [show i = n by omega] at g
      rw [nB_t g]
    | succ k ih =>
      intro i j6 w1 hi M1 A1 F1 g
      have I1 := I.turns i
      have vl := vS_le I1 ha hb
      obtain ⟨w2, c1, c2, c3⟩ := mm_turn (d := d) M1 I1 (by have := I1.1; omega)
      have A2 := A1.fr (c3 40 (by omega))
      have F2 := F1.tr (c3.mono (P' := Mq) (by omega))
      have hix : nI 40 * nI s + nI i = nI (40 * s + i) := by rw [pk_mul, nI_add]
      refine sg_X4_wasSo_17 ⟨hin4, ?_⟩
      rw [nI_clamp (n := s) (by omega), F1 48 (by omega), F1 49 (by omega), en, nI_ltI (a := i) (by omega) (by omega), hix, nI_clamp (n := 40 * s + i) (by omega), ← ef i (by omega), nP_neg (by omega), nI_add]
      refine ⟨fun _ => ⟨nA n10, fun _ => ⟨vp_in_nI (by omega) (by decide), fun c => ⟨w2, c1, ih (i + 1) _ w2 (by omega) c2 A2 F2 (gt_s.mpr ⟨g, Or.inl c⟩)⟩, fun c => ⟨fun cb => ⟨nI (vS a b (tN σ i)), w1, ?_, fun c4 => ⟨w2, c1, ih (i + 1) _ w2 (by omega) c2 A2 F2 (gt_s.mpr ⟨g, Or.inr c4⟩)⟩, fun c4 => ⟨w2, c1, bad (i + 1) w2 _ (by omega) (fun q => ?_) A2 F2⟩⟩, fun cb => ⟨nI (vS a b (tN σ i)), w1, ?_, fun c4 => ⟨w2, c1, ih (i + 1) _ w2 (by omega) c2 A2 F2 (gt_s.mpr ⟨g, Or.inr c4⟩)⟩, fun c4 => ⟨w2, c1, bad (i + 1) w2 _ (by omega) (fun q => ?_) A2 F2⟩⟩⟩⟩⟩, fun c => absurd (show i < n by omega) c⟩
      · unfold vS; rw [if_pos cb]
        exact mm_kinOfOne M1 I1 ha
      · rcases (gt_s.mp (gt_lo (i := i + 1) (by omega) q)).2 with q1 | q1
        · exact c q1
        · exact c4 q1
      · unfold vS; rw [if_neg cb, nP_pos (by omega)]
        exact mm_kinOf M1 ha (by omega)
      · rcases (gt_s.mp (gt_lo (i := i + 1) (by omega) q)).2 with q1 | q1
        · exact c q1
        · exact c4 q1
  obtain ⟨u, w', a1, a2, a3, a4⟩ := ec_X4_wasSo (d := d + 5) (Po := fun u w3 => u = nB (gtS a b σ f n = true) ∧ Ms 38 σ z w3 ∧ Fr Mq w w3) (sg_X4_wasSo_0 ⟨w0, q1, loop n 0 _ w0 (by omega) (M.fr (q3 38 (by decide))) q2 (q3.mono (by omega)) rfl⟩)
  subst a2
  exact ⟨w', a1, a3, a4⟩
end TD
