/-! clans: the methods of both sides -/
section CM
variable {d h : Nat} {σ : Nat → Nat} {z : Int32} {w : mz_M} {T : Nat}
theorem wi_lt {σ : Nat → Nat} {v s a acc : Nat} (ha : acc < 256) : ∀ b, b ≤ 8 → wiS σ v s a acc b < 256
  | 0, _ => ha
  | b + 1, hb => by
    have ih := wi_lt (σ := σ) (v := v) (s := s) (a := a) ha b (by omega)
    unfold wiS
    split
    · exact Nat.or_lt_two_pow (n := 8) ih (Nat.pow_lt_pow_right (by decide) (by omega))
    · exact ih
theorem wo_lt {σ : Nat → Nat} {v s : Nat} (h8 : σ 1 ≤ 8) (hs : s < 256) : ∀ a, woS σ v s a < 256
  | 0 => hs
  | a + 1 => wi_lt (wo_lt h8 hs a) _ h8
theorem hm_widened (hh : h = 1 ∨ h = 9 ∨ h = 17) (H : Hs h σ z w) (I : Iv T σ) {s v : Nat} (hs : s < 256) (hv : v ≤ 999) : mz_Call (d + 2) 22 [.ref h, .int (nI s), .int (nI v)] w (some (.int (nI (stS σ v s)))) w := by
  have h1 := I.2.1
  have outer : ∀ k a j, a + k = σ 1 → mz_Ex cd_X0_widened (mz_Call (d + 1)) (fun r1 w1 => r1 = some (.int (nI (stS σ v s))) ∧ w1 = w) 5 [.ref h, .int (nI s), .int (nI v), .int (nI (woS σ v s a)), .int (nI a), j] [] w := by
    intro k
    induction k with
    | zero =>
      intro a j ha
      refine sg_X0_widened_5 hh ?_
      rw [H.2.2.2.1, nI_ltI (by omega) (by omega)]
      exact ⟨fun c => absurd c (by omega), fun _ => ⟨by rw [show a = σ 1 by omega]; rfl, rfl⟩⟩
    | succ k ih =>
      intro a j ha
      have inner : ∀ m b, b + m = σ 1 → mz_Ex cd_X0_widened (mz_Call (d + 1)) (fun r1 w1 => r1 = some (.int (nI (stS σ v s))) ∧ w1 = w) 17 [.ref h, .int (nI s), .int (nI v), .int (nI (wiS σ v s a (woS σ v s a) b)), .int (nI a), .int (nI b)] [] w := by
        intro m
        induction m with
        | zero =>
          intro b hb
          refine sg_X0_widened_17 hh ?_
          rw [H.2.2.2.1, nI_ltI (by omega) (by omega)]
          refine ⟨fun c => absurd c (by omega), fun _ => ?_⟩
          have := ih (a + 1) (.int (nI b)) (by omega)
          rw [woS] at this
          rw [nI_add, show wiS σ v s a (woS σ v s a) b = wiS σ v s a (woS σ v s a) (σ 1) by rw [show b = σ 1 by omega]]
          exact this
        | succ m ihm =>
          intro b hb
          have hk := kn_le I (a := a) (b := b) (by omega) (by omega)
          have := ihm (b + 1) (by omega)
          rw [wiS] at this
          refine sg_X0_widened_17 hh ?_
          rw [H.2.2.2.1, nI_ltI (by omega) (by omega), nI_add]
          refine ⟨fun c => ⟨_, _, hm_has (by omega) (by omega), fun c1 => ?_, fun c1 => ⟨_, _, hm_kinOf hh H (by omega) (by omega), ?_⟩⟩, fun c => absurd (show b < σ 1 by omega) c⟩
          · rw [nB_0] at c1
            rw [if_neg (fun q => c1 q.1)] at this
            exact this
          · rw [nB_0, Classical.not_not] at c1
            rw [nI_ltI (by omega) (by omega), nb_shl (by omega), nb_or]
            refine ⟨fun c2 => ?_, fun c2 => ?_⟩
            · rw [if_neg (fun q => absurd (show v ≤ σ (37 + 8 * a + b) from q.2) (by omega))] at this
              exact this
            · rw [if_pos ⟨c1, show v ≤ σ (37 + 8 * a + b) by omega⟩] at this
              exact this
      refine sg_X0_widened_5 hh ?_
      rw [H.2.2.2.1, nI_ltI (by omega) (by omega)]
      exact ⟨fun c => inner (σ 1) 0 (by omega), fun c => absurd (show a < σ 1 by omega) c⟩
  exact en_X0_widened (sg_X0_widened_0 hh (outer (σ 1) 0 _ (by omega)))
theorem mm_stepOn (M : Ms 38 σ z w) (I : Iv T σ) {s v : Nat} (hs : s < 256) (hv : v ≤ 999) (hv1 : 1 ≤ v) : mz_Call (d + 2) 149 [.ref 37, .int (nI s), .int (nI v)] w (some (.int (nI (stS σ v s)))) w := by
  have h1 := I.2.1
  have outer : ∀ k a j, a + k = σ 1 → mz_Ex cd_X4_stepOn (mz_Call (d + 1)) (fun r1 w1 => r1 = some (.int (nI (stS σ v s))) ∧ w1 = w) 5 [.ref 37, .int (nI s), .int (nI v), .int (nI (woS σ v s a)), .int (nI a), j] [] w := by
    intro k
    induction k with
    | zero =>
      intro a j ha
      refine sg_X4_stepOn_5 ?_
      rw [nc1, M.2.1, nI_ltI (by omega) (by omega)]
      exact ⟨vi1, fun c => absurd c (by omega), fun _ => ⟨by rw [show a = σ 1 by omega]; rfl, rfl⟩⟩
    | succ k ih =>
      intro a j ha
      have inner : ∀ m b, b + m = σ 1 → mz_Ex cd_X4_stepOn (mz_Call (d + 1)) (fun r1 w1 => r1 = some (.int (nI (stS σ v s))) ∧ w1 = w) 19 [.ref 37, .int (nI s), .int (nI v), .int (nI (wiS σ v s a (woS σ v s a) b)), .int (nI a), .int (nI b)] [] w := by
        intro m
        induction m with
        | zero =>
          intro b hb
          refine sg_X4_stepOn_19 ?_
          rw [nc1, M.2.1, nI_ltI (by omega) (by omega)]
          refine ⟨vi1, fun c => absurd c (by omega), fun _ => ?_⟩
          have := ih (a + 1) (.int (nI b)) (by omega)
          rw [woS] at this
          rw [nI_add, show wiS σ v s a (woS σ v s a) b = wiS σ v s a (woS σ v s a) (σ 1) by rw [show b = σ 1 by omega]]
          exact this
        | succ m ihm =>
          intro b hb
          have hk := kn_le I (a := a) (b := b) (by omega) (by omega)
          have := ihm (b + 1) (by omega)
          rw [wiS] at this
          refine sg_X4_stepOn_19 ?_
          rw [nc1, M.2.1, nI_ltI (by omega) (by omega), nI_add, nb_or, Nat.or_zero, nI_eq (by omega) (by omega)]
          refine ⟨vi1, fun c => ⟨fun c0 => ?_, fun c0 => ⟨_, _, mm_hasBit (by omega) (by omega), fun c1 => ?_, fun c1 => ⟨_, _, mm_kinOf M (by omega) (by omega), ?_⟩⟩⟩, fun c => absurd (show b < σ 1 by omega) c⟩
          · have e := I.2.2.2.2.2.2.2.2.2 a (by omega)
            rw [if_neg (fun q => absurd (show v ≤ σ (37 + 8 * a + b) from q.2) (by rw [← c0, e]; omega))] at this
            exact this
          · rw [nB_0] at c1
            rw [if_neg (fun q => c1 q.1)] at this
            exact this
          · rw [nB_0, Classical.not_not] at c1
            rw [nI_ltI (by omega) (by omega), nb_shl (by omega), nb_or]
            refine ⟨fun c2 => ?_, fun c2 => ?_⟩
            · rw [if_neg (fun q => absurd (show v ≤ σ (37 + 8 * a + b) from q.2) (by omega))] at this
              exact this
            · rw [if_pos ⟨c1, show v ≤ σ (37 + 8 * a + b) by omega⟩] at this
              exact this
      refine sg_X4_stepOn_5 ?_
      rw [nc1, M.2.1, nI_ltI (by omega) (by omega)]
      exact ⟨vi1, fun c => inner (σ 1) 0 (by omega), fun c => absurd (show a < σ 1 by omega) c⟩
  exact en_X4_stepOn (sg_X4_stepOn_0 (outer (σ 1) 0 _ (by omega)))
theorem hm_clanOf (hh : h = 1 ∨ h = 9 ∨ h = 17) (H : Hs h σ z w) (I : Iv T σ) {p v : Nat} (hp : p < σ 1) (hv : v ≤ 999) : mz_Call (d + 3) 24 [.ref h, .int (nI p), .int (nI v)] w (some (.int (nI (cnS σ v p)))) w := by
  have h1 := I.2.1
  have loop : ∀ m k j1 j5, k + 1 + m = σ 1 → mz_Ex cd_X0_clanOf (mz_Call (d + 2)) (fun r1 w1 => r1 = some (.int (nI (cnS σ v p))) ∧ w1 = w) 7 [.ref h, j1, .int (nI v), .int (nI (itS σ v (2 ^ p) k)), .int (nI (k + 1)), j5] [] w := by
    intro m
    induction m with
    | zero =>
      intro k j1 j5 hk
      refine sg_X0_clanOf_7 hh ?_
      rw [H.2.2.2.1, nI_ltI (by omega) (by omega)]
      refine ⟨fun c => absurd c (by omega), fun _ => ⟨?_, rfl⟩⟩
      rw [show cnS σ v p = itS σ v (2 ^ p) k from it_same (it_end hp (by omega)) (by omega)]
    | succ m ih =>
      intro k j1 j5 hk
      have l1 := it_lt I (v := v) hp k
      have l2 := it_lt I (v := v) hp (k + 1)
      refine sg_X0_clanOf_7 hh ?_
      rw [H.2.2.2.1, nI_ltI (by omega) (by omega), nI_add]
      refine ⟨fun c => ⟨_, _, hm_widened hh H I l1 hv, ?_⟩, fun c => absurd (show k + 1 < σ 1 by omega) c⟩
      rw [nI_eq (show stS σ v (itS σ v (2 ^ p) k) < 2 ^ 31 from Nat.lt_trans l2 (by decide)) (by omega)]
      refine ⟨fun c2 => ⟨?_, rfl⟩, fun c2 => ih (k + 1) _ _ (by omega)⟩
      rw [show cnS σ v p = itS σ v (2 ^ p) k from it_same c2 (by omega)]
  refine en_X0_clanOf (sg_X0_clanOf_0 hh ?_)
  rw [nb_shl (by omega)]
  exact loop (σ 1 - 1) 0 _ _ (by omega)
theorem mm_clanOf (M : Ms 38 σ z w) (I : Iv T σ) {p v : Nat} (hp : p < σ 1) (hv : v ≤ 999) (hv1 : 1 ≤ v) : mz_Call (d + 3) 150 [.ref 37, .int (nI p), .int (nI v)] w (some (.int (nI (cnS σ v p)))) w := by
  have h1 := I.2.1
  have loop : ∀ m k j1, k + m = 8 → mz_Ex cd_X4_clanOf (mz_Call (d + 2)) (fun r1 w1 => r1 = some (.int (nI (cnS σ v p))) ∧ w1 = w) 7 [.ref 37, j1, .int (nI v), .int (nI (itS σ v (2 ^ p) k)), .int (nI k)] [] w := by
    intro m
    induction m with
    | zero =>
      intro k j1 hk
      refine sg_X4_clanOf_7 ?_
      rw [nI_ltI (by omega) (by omega)]
      refine ⟨fun c => absurd c (by omega), fun _ => ⟨?_, rfl⟩⟩
      rw [show k = 8 by omega]
      rfl
    | succ m ih =>
      intro k j1 hk
      refine sg_X4_clanOf_7 ?_
      rw [nI_ltI (by omega) (by omega), nI_add]
      exact ⟨fun c => ⟨_, _, mm_stepOn M I (it_lt I hp k) hv hv1, ih (k + 1) _ (by omega)⟩, fun c => absurd (show k < 8 by omega) c⟩
  refine en_X4_clanOf (sg_X4_clanOf_0 ?_)
  rw [nb_shl (by omega)]
  exact loop 8 0 _ (by omega)
theorem hm_clanCount (hh : h = 1 ∨ h = 9 ∨ h = 17) (H : Hs h σ z w) (I : Iv T σ) {v : Nat} (hv : v ≤ 999) : mz_Call (d + 4) 25 [.ref h, .int (nI v)] w (some (.int (nI (clansS σ v)))) w := by
  have h1 := I.2.1
  have loop : ∀ m p, p + m = σ 1 → mz_Ex cd_X0_clanCount (mz_Call (d + 3)) (fun r1 w1 => r1 = some (.int (nI (clansS σ v))) ∧ w1 = w) 7 [.ref h, .int (nI v), .int (nI (csS σ v p)), .int (nI (ccS σ v p)), .int (nI p)] [] w := by
    intro m
    induction m with
    | zero =>
      intro p hp
      refine sg_X0_clanCount_7 hh ?_
      rw [H.2.2.2.1, nI_ltI (by omega) (by omega)]
      exact ⟨fun c => absurd c (by omega), fun _ => ⟨by rw [show p = σ 1 by omega]; rfl, rfl⟩⟩
    | succ m ih =>
      intro p hp
      have l1 := cs_lt I (v := v) (p := p) (by omega)
      have := ih (p + 1) (by omega)
      rw [csS, ccS] at this
      refine sg_X0_clanCount_7 hh ?_
      rw [H.2.2.2.1, nI_ltI (by omega) (by omega)]
      refine ⟨fun c => ⟨_, _, hm_has (by omega) (by omega), fun c1 => ⟨_, _, hm_clanOf hh H I (by omega) hv, ?_⟩, fun c1 => ?_⟩, fun c => absurd (show p < σ 1 by omega) c⟩
      · rw [nB_0] at c1
        rw [if_neg c1] at this
        rw [nb_or, nI_add, nI_add]
        exact this
      · rw [nB_0, Classical.not_not] at c1
        rw [if_pos c1, cs_seen h1 (by omega) c1, Nat.add_zero] at this
        rw [nI_add]
        exact this
  exact en_X0_clanCount (sg_X0_clanCount_0 hh (loop (σ 1) 0 (by omega)))
theorem mm_clansNow (M : Ms 38 σ z w) (I : Iv T σ) {v : Nat} (hv : v ≤ 999) (hv1 : 1 ≤ v) : mz_Call (d + 4) 152 [.ref 37, .int (nI v)] w (some (.int (nI (clansS σ v)))) w := by
  have h1 := I.2.1
  have loop : ∀ m p, p + m = σ 1 → mz_Ex cd_X4_clansNow (mz_Call (d + 3)) (fun r1 w1 => r1 = some (.int (nI (clansS σ v))) ∧ w1 = w) 7 [.ref 37, .int (nI v), .int (nI (csS σ v p)), .int (nI (ccS σ v p)), .int (nI p)] [] w := by
    intro m
    induction m with
    | zero =>
      intro p hp
      refine sg_X4_clansNow_7 ?_
      rw [nc1, M.2.1, nI_ltI (by omega) (by omega)]
      exact ⟨vi1, fun c => absurd c (by omega), fun _ => ⟨by rw [show p = σ 1 by omega]; rfl, rfl⟩⟩
    | succ m ih =>
      intro p hp
      have l1 := cs_lt I (v := v) (p := p) (by omega)
      have := ih (p + 1) (by omega)
      rw [csS, ccS] at this
      refine sg_X4_clansNow_7 ?_
      rw [nc1, M.2.1, nI_ltI (by omega) (by omega)]
      refine ⟨vi1, fun c => ⟨_, _, mm_hasBit (by omega) (by omega), fun c1 => ⟨_, _, mm_clanOf M I (by omega) hv hv1, ?_⟩, fun c1 => ⟨_, _, mm_clanOf M I (by omega) hv hv1, ?_⟩⟩, fun c => absurd (show p < σ 1 by omega) c⟩
      · rw [nB_0] at c1
        rw [if_neg c1] at this
        rw [nb_or, nI_add, nI_add]
        exact this
      · rw [nB_0, Classical.not_not] at c1
        rw [if_pos c1] at this
        rw [nb_or, nI_add, nI_add]
        exact this
  exact en_X4_clansNow (sg_X4_clansNow_0 (loop (σ 1) 0 (by omega)))
end CM
