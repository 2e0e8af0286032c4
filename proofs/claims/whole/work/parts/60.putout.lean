/-! kin if a set is put, or left out -/
section PO
variable {d : Nat} {w : mz_M} {T h : Nat} {σ : Nat → Nat} {z : Int32}
theorem hm_kinIfPut (H : Hs 1 σ z w) (I : Iv T σ) {a b n s : Nat} (ha : a < 8) (hb : b < 8) (hn : n ≤ 1000) (hT : T + n < 99998) (hs : s < 256) : ∃ w', mz_Call (d + 5) 103 [.ref 0, .int (nI s), .int (nI a), .int (nI b), .int (nI n)] w (some (.int (nI (kn (tN (su σ (15 + σ 0 % 6) s) n) a b)))) w' ∧ Fr Tp w w' := by
  have h0 := I.1
  obtain ⟨w1, q1, q2, q3⟩ := hm_become (d := d + 3) (h := 9) (o := 1) (by omega) (by omega) (by decide) H
  obtain ⟨w2, p1, p2⟩ := hm_kinBehind (d := d) (q2.list (i := σ 0 % 6) (by omega) s) (I.put (by omega)) (a := a) (b := b) (n := n) ha hb hn hT
  refine ⟨w2, en_X3_kinIfPut (sg_X3_kinIfPut_0 ⟨w1, q1, _, _, hm_place (Or.inr (Or.inl rfl)) q2 (by omega), vp_in_nI (by omega) (by decide), ?_⟩), Fr.tr (Fr.tr (q3.mono (by omega)) (Fr.up (by omega))) p2⟩
  rw [nI_clamp (by omega)]
  exact ⟨_, _, p1, rfl, rfl⟩
/-- the first i places of THE LIST without those of y's other side -/
def loS (σ : Nat → Nat) (y : Int32) : Nat → Nat → Nat
  | 0 => σ
  | i + 1 => su (loS σ y i) (15 + i) (loS σ y i (15 + i) &&& vN y)
theorem lo_is (a : Nat) (y : Int32) : nI a &&& y = nI (a &&& vN y) := by
  rw [← nb_and, ← vN_is]
theorem Iv.lo (I : Iv T σ) (y : Int32) : ∀ {i : Nat}, i ≤ 6 → Iv T (loS σ y i)
  | 0, _ => I
  | i + 1, h => by
    have J := Iv.lo I y (i := i) (by omega)
    have l := J.2.2.2.2.1 (15 + i) (by omega) (by omega)
    have l2 : loS σ y i (15 + i) &&& vN y ≤ loS σ y i (15 + i) := Nat.and_le_left
    exact J.put (k := 15 + i) (v := loS σ y i (15 + i) &&& vN y) (by omega)
theorem hm_kinIfLeftOut (H : Hs 1 σ z w) (I : Iv T σ) {a b n : Nat} {x : Int32} (ha : a < 8) (hb : b < 8) (hn : n ≤ 1000) (hT : T + n < 99998) : ∃ w', mz_Call (d + 5) 104 [.ref 0, .int x, .int (nI a), .int (nI b), .int (nI n)] w (some (.int (nI (kn (tN (loS σ (x ^^^ (-1 : Int32)) 6) n) a b)))) w' ∧ Fr Tp w w' := by
  obtain ⟨w1, q1, q2, q3⟩ := hm_become (d := d + 3) (h := 9) (o := 1) (by omega) (by omega) (by decide) H
  have loop : ∀ m i w2, i + m = 6 → Hs 9 (loS σ (x ^^^ (-1 : Int32)) i) z w2 → Fr Tp w w2 → mz_Ex cd_X3_kinIfLeftOut (mz_Call (d + 4)) (fun r1 w3 => ∃ u : Int32, r1 = some (.int u) ∧ (u = nI (kn (tN (loS σ (x ^^^ (-1 : Int32)) 6) n) a b) ∧ Fr Tp w w3)) 14 [.ref 0, .int x, .int (nI a), .int (nI b), .int (nI n), .int (nI i)] [] w2 := by
    intro m
    induction m with
    | zero =>
      intro i w2 hi G F
      rw [show i = 6 by omega] at G ⊢
      obtain ⟨w3, p1, p2⟩ := hm_kinBehind (d := d) G (I.lo _ (Nat.le_refl 6)) (a := a) (b := b) (n := n) ha hb hn hT
      refine sg_X3_kinIfLeftOut_14 ?_
      rw [nI_ltI (by omega) (by omega)]
      exact ⟨fun c => absurd c (by omega), fun _ => ⟨_, _, p1, _, rfl, rfl, F.tr p2⟩⟩
    | succ m ih =>
      intro i w2 hi G F
      refine sg_X3_kinIfLeftOut_14 ?_
      rw [nI_ltI (by omega) (by omega), nI_clamp (n := i) (by omega), nI_add, show w2 10 i = _ from G.2.2.2.2.2.1 i (by omega), lo_is]
      exact ⟨fun _ => ⟨vp_in_nI (by omega) (by decide), vp_in_nI (by omega) (by decide), ih (i + 1) _ (by omega) (G.list (i := i) (by omega) _) (F.tr (Fr.up (by omega)))⟩, fun c => absurd (show i < 6 by omega) c⟩
  obtain ⟨u, w', a1, a2, a3⟩ := ec_X3_kinIfLeftOut (Po := fun u w3 => u = nI (kn (tN (loS σ (x ^^^ (-1 : Int32)) 6) n) a b) ∧ Fr Tp w w3) (sg_X3_kinIfLeftOut_0 ⟨w1, q1, loop 6 0 w1 (by omega) q2 (q3.mono (by omega))⟩)
  subst a2
  exact ⟨w', a1, a3⟩
end PO
