/-! the reference's kin without a set -/
section KW
variable {d : Nat} {w : mz_M} {T h : Nat} {σ : Nat → Nat} {z : Int32}
theorem mm_kinWithout (M : Ms 38 σ z w) (I : Iv T σ) {a b n : Nat} {x : Int32} (ha : a < 8) (hb : b < 8) (hn : n ≤ 1000) (hT : T + n < 99998) : ∃ w', mz_Call (d + 7) 163 [.ref 37, .int x, .int (nI a), .int (nI b), .int (nI n)] w (some (.int (nI (kn (tN (loS σ (x ^^^ (-1 : Int32)) 6) n) a b)))) w' ∧ Ms 38 σ z w' ∧ Fr Mq w w' := by
  obtain ⟨w1, q1, q2, q3⟩ := mm_copyRow (d := d + 5) (a := 38) (b := 40) (by omega) (by omega) (by decide) M
  have loop : ∀ m i w2, i + m = 6 → Ms 38 (loS σ (x ^^^ (-1 : Int32)) i) z w2 → Ms 40 σ z w2 → Fr Mq w w2 → mz_Ex cd_X4_kinWithout (mz_Call (d + 6)) (fun r1 w3 => ∃ u : Int32, r1 = some (.int u) ∧ (u = nI (kn (tN (loS σ (x ^^^ (-1 : Int32)) 6) n) a b) ∧ Ms 38 σ z w3 ∧ Fr Mq w w3)) 14 [.ref 37, .int x, .int (nI a), .int (nI b), .int (nI n), .int (nI i)] [] w2 := by
    intro m
    induction m with
    | zero =>
      intro i w2 hi G A F
      rw [show i = 6 by omega] at G ⊢
      obtain ⟨w3, b1, b2, b3⟩ := mm_turns (d := d) G (I.lo _ (Nat.le_refl 6)) hn hT
      obtain ⟨w4, c1, c2, c3⟩ := mm_putBack (d := d + 4) (A.fr (b3 40 (by omega))) (nI (kn (tN (loS σ (x ^^^ (-1 : Int32)) 6) n) a b))
      refine sg_X4_kinWithout_14 ?_
      rw [nI_ltI (by omega) (by omega)]
      exact ⟨fun c => absurd c (by omega), fun _ => ⟨w3, b1, _, _, mm_kinOf b2 ha hb, _, w4, c1, _, rfl, rfl, c2, F.tr ((b3.mono (by omega)).tr (c3.mono (by omega)))⟩⟩
    | succ m ih =>
      intro i w2 hi G A F
      refine sg_X4_kinWithout_14 ?_
      rw [nI_ltI (by omega) (by omega), nI_add, nI_add, nI_clamp (n := 15 + i) (by omega), G.2.2.2.2.2 (15 + i) (by omega) (by omega), lo_is]
      exact ⟨fun _ => ⟨vp_in_nI (by omega) (by decide), vp_in_nI (by omega) (by decide), ih (i + 1) _ (by omega) (G.set (j := 15 + i) (by omega)) (A.fr (mu_n (by decide))) (F.tr (Fr.up (by omega)))⟩, fun c => absurd (show i < 6 by omega) c⟩
  obtain ⟨u, w', a1, a2, a3, a4⟩ := ec_X4_kinWithout (Po := fun u w3 => u = nI (kn (tN (loS σ (x ^^^ (-1 : Int32)) 6) n) a b) ∧ Ms 38 σ z w3 ∧ Fr Mq w w3) (sg_X4_kinWithout_0 ⟨w1, q1, loop 6 0 w1 (by omega) (M.fr (q3 38 (by decide))) q2 (q3.mono (by omega))⟩)
  subst a2
  exact ⟨w', a1, a3, a4⟩
end KW
