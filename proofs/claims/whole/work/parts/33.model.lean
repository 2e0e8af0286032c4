/-! the reference, its rows: kin, what each brings and fades, who goes in -/
theorem nc0 : (nI 0).toNatClampNeg = 0 := by decide
theorem nc1 : (nI 1).toNatClampNeg = 1 := by decide
theorem nc2 : (nI 2).toNatClampNeg = 2 := by decide
theorem nc3 : (nI 3).toNatClampNeg = 3 := by decide
theorem nc4 : (nI 4).toNatClampNeg = 4 := by decide
theorem vi0 : vp_in (nI 0) 101 := vp_in_nI (by decide) (by decide)
theorem vi1 : vp_in (nI 1) 101 := vp_in_nI (by decide) (by decide)
theorem vi2 : vp_in (nI 2) 101 := vp_in_nI (by decide) (by decide)
theorem vi3 : vp_in (nI 3) 101 := vp_in_nI (by decide) (by decide)
theorem vi4 : vp_in (nI 4) 101 := vp_in_nI (by decide) (by decide)
theorem ixm (a b : Nat) : nI 37 + nI 8 * nI a + nI b = nI (37 + 8 * a + b) := by rw [pk_mul, nI_add, nI_add]
section MM
variable {d : Nat} {σ : Nat → Nat} {z : Int32} {w : mz_M} {T : Nat}
theorem Ms.kin {k : Nat} (M : Ms k σ z w) {a b : Nat} (ha : a < 8) (hb : b < 8) : w k (nI (37 + 8 * a + b)).toNatClampNeg = nI (σ (37 + 8 * a + b)) := by
  rw [nI_clamp (by omega)]
  exact M.2.2.2.2.2 _ (by omega) (by omega)
theorem Ms.set {k j v : Nat} (M : Ms k σ z w) (h1 : 15 ≤ j) : Ms k (su σ j v) z (mz_up w k (upd (w k) j (nI v))) := by
  obtain ⟨g0, g1, g2, g3, g4, g5⟩ := M
  refine ⟨?_, ?_, ?_, ?_, fun i a b => ?_, fun i a b => ?_⟩
  · rw [mu_s, pk_un (by omega), su_n (by omega)]; exact g0
  · rw [mu_s, pk_un (by omega), su_n (by omega)]; exact g1
  · rw [mu_s, pk_un (by omega)]; exact g2
  · rw [mu_s, pk_un (by omega), su_n (by omega)]; exact g3
  · rw [mu_s, pk_un (by omega), su_n (by omega)]; exact g4 i a b
  · rw [mu_s]
    by_cases e : i = j
    · rw [e, pk_us, su_s]
    · rw [pk_un e, su_n e]; exact g5 i a b
theorem Ms.kept {k v : Nat} (M : Ms k σ z w) : Ms k (su σ 4 v) z (mz_up w k (upd (w k) 4 (nP v))) := by
  obtain ⟨g0, g1, g2, g3, g4, g5⟩ := M
  refine ⟨?_, ?_, ?_, ?_, fun i a b => ?_, fun i a b => ?_⟩
  · rw [mu_s, pk_un (by omega), su_n (by omega)]; exact g0
  · rw [mu_s, pk_un (by omega), su_n (by omega)]; exact g1
  · rw [mu_s, pk_un (by omega)]; exact g2
  · rw [mu_s, pk_un (by omega), su_n (by omega)]; exact g3
  · rw [mu_s]
    by_cases e : i = 4
    · rw [e, pk_us, su_s]
    · rw [pk_un e, su_n e]; exact g4 i a b
  · rw [mu_s, pk_un (by omega), su_n (by omega)]; exact g5 i a b
theorem Ms.turn {k v : Nat} (M : Ms k σ z w) : Ms k (su σ 0 v) z (mz_up w k (upd (w k) 0 (nI v))) := by
  obtain ⟨g0, g1, g2, g3, g4, g5⟩ := M
  refine ⟨?_, ?_, ?_, ?_, fun i a b => ?_, fun i a b => ?_⟩
  · rw [mu_s, pk_us, su_s]
  · rw [mu_s, pk_un (by omega), su_n (by omega)]; exact g1
  · rw [mu_s, pk_un (by omega)]; exact g2
  · rw [mu_s, pk_un (by omega), su_n (by omega)]; exact g3
  · rw [mu_s, pk_un (by omega), su_n (by omega)]; exact g4 i a b
  · rw [mu_s, pk_un (by omega), su_n (by omega)]; exact g5 i a b
theorem Ms.fr {k : Nat} {w' : mz_M} (M : Ms k σ z w) (e : w' k = w k) : Ms k σ z w' := by
  obtain ⟨g0, g1, g2, g3, g4, g5⟩ := M
  exact ⟨by rw [e]; exact g0, by rw [e]; exact g1, by rw [e]; exact g2, by rw [e]; exact g3, fun i a b => by rw [e]; exact g4 i a b, fun i a b => by rw [e]; exact g5 i a b⟩
theorem mm_hasBit {a0 a1 : Nat} (h0 : a0 < 2 ^ 31) (h1 : a1 < 31) : mz_Call (d + 1) 114 [.int (nI a0), .int (nI a1)] w (some (.int (nB (a0.testBit a1 = true)))) w := by
  refine en_X4_hasBit (sg_X4_hasBit_0 ?_)
  rw [nb_has h0 h1]
  exact ⟨fun c => ⟨nz_11, by rw [nB_t c], rfl⟩, fun c => ⟨nz_01, by rw [nB_f c], rfl⟩⟩
theorem mm_kinOf (M : Ms 38 σ z w) {a b : Nat} (ha : a < 8) (hb : b < 8) : mz_Call (d + 1) 125 [.ref 37, .int (nI a), .int (nI b)] w (some (.int (nI (σ (37 + 8 * a + b))))) w := by
  refine en_X4_kinOf (sg_X4_kinOf_0 ?_)
  rw [ixm]
  exact ⟨vp_in_nI (by omega) (by omega), by rw [M.kin ha hb], rfl⟩
/-- become: a place at which naturals stand as they are -/
theorem mm_become (M : Ms 38 σ z w) {j v : Nat} (h1 : 15 ≤ j) (h2 : j < 101) : ∃ w', mz_Call (d + 1) 109 [.ref 37, .int (nI j), .int (nI v)] w (some (.int (nI (σ j)))) w' ∧ Ms 38 (su σ j v) z w' ∧ Fr (fun k => k = 38) w w' := by
  refine ⟨mz_up w 38 (upd (w 38) j (nI v)), en_X4_become (sg_X4_become_0 ?_), M.set h1, Fr.up rfl⟩
  rw [nI_clamp (by omega)]
  exact ⟨vp_in_nI h2 (by decide), vp_in_nI h2 (by decide), by rw [M.2.2.2.2.2 j h1 h2], rfl⟩
theorem mm_makeKin (M : Ms 38 σ z w) {a b v : Nat} (ha : a < 8) (hb : b < 8) (hab : a ≠ b) : ∃ w', mz_Call (d + 2) 126 [.ref 37, .int (nI a), .int (nI b), .int (nI v)] w (some (.int (nI (σ (37 + 8 * a + b))))) w' ∧ Ms 38 (kS σ b a v) z w' ∧ Fr (fun k => k = 38) w w' := by
  have M1 : Ms 38 (su σ (37 + 8 * b + a) v) z (mz_up w 38 (upd (w 38) (37 + 8 * b + a) (nI v))) := M.set (by omega)
  obtain ⟨w', c, M2, F⟩ := mm_become (d := d) M1 (j := 37 + 8 * a + b) (v := v) (by omega) (by omega)
  rw [su_n (by omega)] at c
  refine ⟨w', en_X4_makeKin (sg_X4_makeKin_0 ?_), M2, Fr.tr (Fr.up rfl) F⟩
  rw [ixm, ixm, nI_clamp (n := 37 + 8 * b + a) (by omega)]
  exact ⟨vp_in_nI (by omega) (by omega), _, _, c, rfl, rfl⟩
theorem mm_closeTo (M : Ms 38 σ z w) (I : Iv T σ) {p : Nat} (hp : p < 8) : mz_Call (d + 2) 129 [.ref 37, .int (nI p)] w (some (.int (nI (clS σ p (σ 1))))) w := by
  have h1 := I.2.1
  have loop : ∀ k n, n + k = σ 1 → mz_Ex cd_X4_closeTo (mz_Call (d + 1)) (fun r1 w1 => r1 = some (.int (nI (clS σ p (σ 1)))) ∧ w1 = w) 4 [.ref 37, .int (nI p), .int (nI (clS σ p n)), .int (nI n)] [] w := by
    intro k
    induction k with
    | zero =>
      intro n hn
      refine sg_X4_closeTo_4 ?_
      rw [nc1, M.2.1, nI_ltI (by omega) (by omega)]
      exact ⟨vi1, fun c => absurd c (by omega), fun _ => ⟨by rw [show n = σ 1 by omega], rfl⟩⟩
    | succ k ih =>
      intro n hn
      have hih := ih (n + 1) (by omega)
      have hk := I.2.2.2.2.2.2.2.1 (37 + 8 * p + n) (by omega) (by omega)
      rw [clS] at hih
      refine sg_X4_closeTo_4 ?_
      rw [nc1, M.2.1, nI_ltI (by omega) (by omega)]
      refine ⟨vi1, fun c => ⟨fun c2 => ?_, fun c2 => ⟨_, _, mm_kinOf M hp (by omega), fun c3 => ?_, fun c3 => ?_⟩⟩, fun c => absurd (show n < σ 1 by omega) c⟩
      · rw [nI_eq (by omega) (by omega)] at c2
        rw [if_neg (by omega)] at hih
        rw [nI_add, nI_add]
        exact hih
      · rw [nI_eq (by omega) (by omega)] at c2
        rw [nI_ltI (by omega) (by omega)] at c3
        rw [if_neg (by omega)] at hih
        rw [nI_add, nI_add]
        exact hih
      · rw [nI_eq (by omega) (by omega)] at c2
        rw [nI_ltI (by omega) (by omega)] at c3
        rw [if_pos ⟨c2, by omega⟩] at hih
        rw [nI_add, nI_add]
        exact hih
  exact en_X4_closeTo (sg_X4_closeTo_0 (loop (σ 1) 0 (by omega)))
theorem mm_bringsAs (M : Ms 38 σ z w) (I : Iv T σ) (hT : σ 0 < 2 ^ 30) {p : Nat} (hp : p < 8) : mz_Call (d + 3) 130 [.ref 37, .int (nI p), .int (nI (σ (21 + p)))] w (some (.int (nI (bS σ p)))) w := by
  refine en_X4_bringsAs (sg_X4_bringsAs_0 ?_)
  have hk := I.2.2.2.2.2.1 (21 + p) (by omega) (by omega)
  have hw := I.2.2.2.2.2.2.1 (29 + p) (by omega) (by omega)
  have hd := I.2.2.1
  have n2 : ¬ nI 2 = 0 := by decide
  have n7 : ¬ nI 7 = 0 := by decide
  rw [nI_add, nI_clamp (n := 29 + p) (by omega), M.2.2.2.2.2 (29 + p) (by omega) (by omega), nc0, nc3, M.1, M.2.2.2.1]
  have hq : ∀ k, k < 7 → (nI (σ (21 + p)) = nI k ↔ σ (21 + p) = k) := fun k h9 => nI_eq (by omega) (by omega)
  rw [hq 1 (by decide), hq 2 (by decide), hq 3 (by decide), hq 4 (by decide), hq 5 (by decide), hq 6 (by decide)]
  refine ⟨vp_in_nI (by omega) (by decide), fun c1 => ⟨n2, ?_, rfl⟩, fun c1 => ⟨fun c2 => ⟨?_, rfl⟩, fun c2 => ⟨fun c3 => ⟨n2, ?_, rfl⟩, fun c3 => ⟨fun c4 => ⟨n2, vi0, n7, ?_⟩, fun c4 => ⟨fun c5 => ⟨vi3, ?_⟩, fun c5 => ⟨fun c6 => ⟨n2, _, _, mm_closeTo M I hp, ?_, rfl⟩, fun c6 => ⟨?_, rfl⟩⟩⟩⟩⟩⟩⟩
  · rw [pk_div (by omega) (by decide) (by decide), bS, if_pos c1]
  · rw [nI_add, bS, if_neg c1, if_pos c2]
  · rw [nI_add, pk_div (by omega) (by decide) (by decide), bS, if_neg c1, if_neg c2, if_pos c3]
  · rw [pk_rem (by omega) (by decide) (by decide), nI_eq (by omega) (by decide), nI_add, pk_div (by omega) (by decide) (by decide), nI_add, nI_add, bS, if_neg c1, if_neg c2, if_neg c3, if_pos c4]
    exact ⟨fun q => ⟨by rw [if_pos q], rfl⟩, fun q => ⟨by rw [if_neg q], rfl⟩⟩
  · rw [nI_ltI (by omega) (by decide), bS, if_neg c1, if_neg c2, if_neg c3, if_neg c4, if_pos c5]
    exact ⟨fun q => ⟨by rw [if_pos q], rfl⟩, fun q => ⟨by rw [if_neg q], rfl⟩⟩
  · rw [pk_div (by omega) (by decide) (by decide), nI_add, bS, if_neg c1, if_neg c2, if_neg c3, if_neg c4, if_neg c5, if_pos c6]
  · rw [bS, if_neg c1, if_neg c2, if_neg c3, if_neg c4, if_neg c5, if_neg c6]
theorem mm_fadesAs (M : Ms 38 σ z w) (I : Iv T σ) {p : Nat} (hp : p < 8) : mz_Call (d + 1) 131 [.ref 37, .int (nI (σ (21 + p)))] w (some (.int (nI (fS σ p)))) w := by
  refine en_X4_fadesAs (sg_X4_fadesAs_0 ?_)
  have hk := I.2.2.2.2.2.1 (21 + p) (by omega) (by omega)
  have hd := I.2.2.1
  rw [nc3, M.2.2.2.1]
  have hq : ∀ k, k < 7 → (nI (σ (21 + p)) = nI k ↔ σ (21 + p) = k) := fun k h9 => nI_eq (by omega) (by omega)
  rw [hq 1 (by decide), hq 2 (by decide), hq 3 (by decide), hq 4 (by decide), hq 5 (by decide), hq 6 (by decide)]
  refine ⟨fun c1 => ⟨?_, rfl⟩, fun c1 => ⟨fun c2 => ⟨?_, rfl⟩, fun c2 => ⟨fun c3 => ⟨?_, rfl⟩, fun c3 => ⟨fun c4 => ⟨?_, rfl⟩, fun c4 => ⟨fun c5 => ⟨vi3, by decide, ?_, rfl⟩, fun c5 => ⟨fun c6 => ⟨?_, rfl⟩, fun c6 => ⟨?_, rfl⟩⟩⟩⟩⟩⟩⟩
  · rw [fS, if_pos c1]
  · rw [fS, if_neg c1, if_pos c2]
  · rw [fS, if_neg c1, if_neg c2, if_neg (by omega), if_neg (by omega)]
  · rw [fS, if_neg c1, if_neg c2, if_neg (by omega), if_neg (by omega)]
  · rw [fS, if_neg c1, if_neg c2, if_pos c5, pk_div (by omega) (by decide) (by decide), n_mon (by decide) (by omega)]
  · rw [fS, if_neg c1, if_neg c2, if_neg c5, if_pos c6]
  · rw [fS, if_neg c1, if_neg c2, if_neg c5, if_neg c6]
theorem mm_brings (M : Ms 38 σ z w) (I : Iv T σ) (hT : σ 0 < 2 ^ 30) {p : Nat} (hp : p < 8) : mz_Call (d + 4) 132 [.ref 37, .int (nI p)] w (some (.int (nI (bS σ p)))) w := by
  refine en_X4_brings (sg_X4_brings_0 ?_)
  rw [nI_add, nI_clamp (by omega), M.2.2.2.2.2 (21 + p) (by omega) (by omega)]
  exact ⟨vp_in_nI (by omega) (by decide), _, _, mm_bringsAs M I hT hp, rfl, rfl⟩
theorem mm_fades (M : Ms 38 σ z w) (I : Iv T σ) {p : Nat} (hp : p < 8) : mz_Call (d + 2) 133 [.ref 37, .int (nI p)] w (some (.int (nI (fS σ p)))) w := by
  refine en_X4_fades (sg_X4_fades_0 ?_)
  rw [nI_add, nI_clamp (by omega), M.2.2.2.2.2 (21 + p) (by omega) (by omega)]
  exact ⟨vp_in_nI (by omega) (by decide), _, _, mm_fadesAs M I hp, rfl, rfl⟩
theorem mm_goingIn (M : Ms 38 σ z w) (I : Iv T σ) (hT : σ 0 < 2 ^ 30) : mz_Call (d + 1) 142 [.ref 37] w (some (.int (nI (gi σ)))) w := by
  refine en_X4_goingIn (sg_X4_goingIn_0 ?_)
  have h1 := I.2.1
  have h4 := I.2.2.2.1 4 (by omega) (by omega)
  have h6 : σ 0 % 6 < 6 := Nat.mod_lt _ (by decide)
  rw [nc0, nc1, nc4, M.1, M.2.1, M.2.2.2.2.1 4 (by decide) (by decide), pk_rem (by omega) (by decide) (by decide), nI_add, nI_clamp (n := 15 + σ 0 % 6) (by omega), M.2.2.2.2.2 (15 + σ 0 % 6) (by omega) (by omega), nb_shl (by omega), pk_sub Nat.one_le_two_pow, nb_and, Nat.and_two_pow_sub_one_eq_mod, nP_neg (by omega)]
  refine ⟨vi0, by decide, vp_in_nI (by omega) (by decide), vi1, vi4, fun c => ⟨?_, rfl⟩, fun c => ⟨vi4, ?_, rfl⟩⟩
  · unfold gi
    rw [if_pos c, Nat.or_zero]
  · unfold gi
    rw [if_neg c, nP_pos (by omega), nb_shl (by omega), nb_or]
end MM
