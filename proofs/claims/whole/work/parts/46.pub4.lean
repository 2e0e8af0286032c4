/-! public methods of both sides: steps, tie, image, undo, tear, wipe, status, count -/
section FRS
variable {w w' : mz_M} {T : Nat}
theorem PicR.fr (R : PicR T w) (e : ∀ k, (k = 0 ∨ (17 ≤ k ∧ k < 23) ∨ k = 39) → w' k = w k) (e3 : w' 37 3 = w 37 3) : PicR T w' := by
  rcases R with ⟨a, b⟩ | ⟨a, b, σ, z, c1, c2, c3⟩
  · exact Or.inl ⟨by rw [e 0 (by omega)]; exact a, by rw [e3]; exact b⟩
  · exact Or.inr ⟨by rw [e 0 (by omega)]; exact a, by rw [e3]; exact b, σ, z, c1.fr (fun k x y => e k (by omega)), c2.fr (e 39 (by omega)), c3⟩
theorem FndR.fr (R : FndR w) (e36 : w' 36 = w 36) (e41 : w' 41 = w 41) : FndR w' :=
  ⟨fun k hk => by rw [e36, e41]; exact R.1 k hk, by rw [e41]; exact R.2⟩
theorem TapR.fr (R : TapR w) (e25 : w' 25 1 = w 25 1) (e26 : w' 26 = w 26) (e44 : w' 44 = w 44) (e10 : w' 37 10 = w 37 10) : TapR w' := by
  obtain ⟨n, a, b, c, f⟩ := R
  refine ⟨n, a, by rw [e25]; exact b, by rw [e10]; exact c, fun j hj => ?_⟩
  rw [e26, e44]
  exact f j hj
theorem ShtR.fr (R : ShtR w) (e : ∀ k, ((28 ≤ k ∧ k < 36) ∨ k = 47 ∨ k = 48 ∨ k = 49) → w' k = w k) : ShtR w' := by
  intro s hs
  obtain ⟨a, b, c, f, g⟩ := R s hs
  rw [e (28 + 2 * s) (by omega), e 47 (by omega), e 48 (by omega)]
  refine ⟨a, b, c, f, fun j hj => ?_⟩
  rw [e (29 + 2 * s) (by omega), e 49 (by omega)]
  exact g j hj
theorem PicR.up {T' : Nat} (R : PicR T w) (h : T ≤ T') : PicR T' w := by
  rcases R with h1 | ⟨a, b, σ, z, c1, c2, c3⟩
  · exact Or.inl h1
  · exact Or.inr ⟨a, b, σ, z, c1, c2, c3.up h⟩
end FRS
/-- as Both.ok, where the reference reads what the class left alone -/
theorem Both.okF {T T' c m : Nat} {as : List Value} {w : mz_M} {σ σ' : Nat → Nat} {z z' r : Int32} (M : Ms 38 σ z w) (R : RstR T w) (hT : T ≤ T') (I : Iv T' σ')
    (hc : ∃ w1, mz_Call 11 c (.ref 0 :: as) w (some (.int r)) w1 ∧ Hs 1 σ' z' w1 ∧ Fr Cp w w1)
    (hm : ∀ w1, Ms 38 σ z w1 → RstR T w1 → Fr Cp w w1 → ∃ w2, mz_Call 11 m (.ref 37 :: as) w1 (some (.int r)) w2 ∧ Ms 38 σ' z' w2 ∧ Fr Mq w1 w2) : Both T T' c m as w := by
  obtain ⟨w1, a1, a2, a3⟩ := hc
  have R1 : RstR T w1 := R.fr (fun k hk => a3 k (by omega)) (by rw [a3 37 (by omega)]) (by rw [a3 37 (by omega)])
  obtain ⟨w2, b1, b2, b3⟩ := hm w1 (M.fr (a3 38 (by omega))) R1 a3
  exact ⟨r, w1, w2, a1, b1, σ', z', a2.fr (fun k x y => b3 k (by omega)), b2, I, (R1.up hT).fr (fun k hk => (b3 k (by omega))) (by rw [b3 37 (by omega)]) (by rw [b3 37 (by omega)])⟩
theorem Both.fdF {T c m i : Nat} {as : List Value} {w : mz_M} {σ : Nat → Nat} {z : Int32} (hi : i < 7) (M : Ms 38 σ z w) (I : Iv T σ) (R : RstR T w)
    (hc : ∃ wt, mz_Call 11 c (.ref 0 :: as) w (some (.int (fnd i))) (cfW i wt) ∧ Hs 1 σ z wt ∧ Fr Cp w wt)
    (hm : ∀ w1, Ms 38 σ z w1 → (∀ k, ¬ Cp k → k ≠ 36 → w1 k = w k) → ∃ wu, mz_Call 11 m (.ref 37 :: as) w1 (some (.int (fnd i))) (mfW i wu) ∧ Ms 38 σ z wu ∧ Fr Mq w1 wu) : Both T T c m as w := by
  obtain ⟨wt, a1, a2, a3⟩ := hc
  have ec : ∀ k, k ≠ 36 → cfW i wt k = wt k := fun k q => by unfold cfW; rw [mu_n q]
  have em : ∀ (v : mz_M) k, k ≠ 41 → mfW i v k = v k := fun v k q => by unfold mfW; rw [mu_n q]
  obtain ⟨wu, b1, b2, b3⟩ := hm (cfW i wt) (M.fr (by rw [ec 38 (by decide), a3 38 (by omega)])) (fun k q1 q2 => by rw [ec k q2, a3 k q1])
  have e37 : mfW i wu 37 = w 37 := by rw [em _ 37 (by decide), b3 37 (by omega), ec 37 (by decide), a3 37 (by omega)]
  refine ⟨_, _, _, a1, b1, σ, z, a2.fr (fun k x y => ?_), b2.fr (em _ 38 (by decide)), I, R.fnd hi (fun k hk q1 q2 => ?_) (by rw [e37]) (by rw [e37]) ?_ ?_⟩
  · rw [em _ k (by omega), b3 k (by omega), ec k (by omega)]
  · rw [em _ k q2, b3 k (by omega), ec k q1, a3 k (by omega)]
  · rw [em _ 36 (by decide), b3 36 (by omega)]; unfold cfW; rw [mu_s, mu_s, a3 36 (by omega)]
  · have e41 : wu 41 = w 41 := by rw [b3 41 (by omega), ec 41 (by decide), a3 41 (by omega)]
    unfold mfW; rw [mu_s, mu_s, e41]
theorem Both.f0F {T c m i : Nat} {as : List Value} {w : mz_M} {σ : Nat → Nat} {z : Int32} (hi : i < 7) (H : Hs 1 σ z w) (M : Ms 38 σ z w) (I : Iv T σ) (R : RstR T w)
    (hc : mz_Call 11 c (.ref 0 :: as) w (some (.int (fnd i))) (cfW i w))
    (hm : ∀ w1, Ms 38 σ z w1 → (∀ k, ¬ Cp k → k ≠ 36 → w1 k = w k) → mz_Call 11 m (.ref 37 :: as) w1 (some (.int (fnd i))) (mfW i w1)) : Both T T c m as w :=
  Both.fdF hi M I R ⟨w, hc, H, Fr.rf⟩ (fun w1 M1 F1 => ⟨w1, hm w1 M1 F1, M1, Fr.rf⟩)
section PY
variable {d : Nat} {w : mz_M} {T h : Nat} {σ : Nat → Nat} {z : Int32}
theorem rf_steps (M : Ms 38 σ z w) (I : Iv T σ) {a b v : Nat} (ha : a < σ 1) (hb : b < σ 1) (hab : a ≠ b) (hv : v ≤ 999) (hv1 : 1 ≤ v) {Q : mz_Q} (h0 : stpS σ v a b = 0 → Q (some (.int (fnd 3))) (mfW 3 w)) (h1 : ¬ stpS σ v a b = 0 → Q (some (.int (nI (stpS σ v a b)))) w) (j1 : Value) : mz_Ex cd_X4_steps (mz_Call 10) Q 31 [.ref 37, j1, .int (nI b), .int (nI v), .int (nI (2 ^ a)), .int (nI 0)] [] w := by
  have h8 := I.2.1
  have loop : ∀ k n j1, n + k = 8 → 1 ≤ n → stpS σ v a b = ffS (fun m => (itS σ v (2 ^ a) m).testBit b) n (k + 1) → mz_Ex cd_X4_steps (mz_Call 10) Q 31 [.ref 37, j1, .int (nI b), .int (nI v), .int (nI (itS σ v (2 ^ a) n)), .int (nI n)] [] w := by
    intro k
    induction k with
    | zero =>
      intro n j1 hn hn1 e
      have l1 := it_lt I (v := v) ha n
      rw [ffS, ffS] at e
      refine sg_X4_steps_31 ?_
      rw [nI_ltI (by omega) (by omega)]
      refine ⟨fun c => absurd c (by omega), fun _ => ⟨_, _, mm_hasBit (by omega) (by omega), fun c => ?_, fun c => ?_⟩⟩
      · rw [nB_0] at c
        rw [if_neg c] at e
        exact ⟨_, _, mf3, h0 e⟩
      · rw [nB_0, Classical.not_not] at c
        rw [if_pos c] at e
        rw [← e]; exact h1 (by omega)
    | succ k ih =>
      intro n j1 hn hn1 e
      have l1 := it_lt I (v := v) ha n
      rw [ffS] at e
      refine sg_X4_steps_31 ?_
      rw [nI_ltI (by omega) (by omega), nI_add]
      refine ⟨fun _ => ⟨_, _, mm_hasBit (by omega) (by omega), fun c => ?_, fun c => ?_⟩, fun c => absurd (show n < 8 by omega) c⟩
      · rw [nB_0] at c
        rw [if_neg c] at e
        exact ⟨_, _, mm_stepOn M I l1 hv hv1, ih (n + 1) _ (by omega) (by omega) e⟩
      · refine ⟨_, _, mm_hasBit (by omega) (by omega), fun c2 => absurd c2 c, fun _ => ?_⟩
        rw [nB_0, Classical.not_not] at c
        rw [if_pos c] at e
        rw [← e]; exact h1 (by omega)
  have l0 := it_lt I (v := v) ha 0
  rw [show itS σ v (2 ^ a) 0 = 2 ^ a from rfl] at l0
  refine sg_X4_steps_31 ?_
  rw [nI_ltI (by omega) (by omega), nI_add]
  refine ⟨fun _ => ⟨_, _, mm_hasBit (by omega) (by omega), fun c => ⟨_, _, mm_stepOn M I l0 hv hv1, loop 7 1 _ (by omega) (by omega) (stp_8 h8 ha hb hab).symm⟩, fun c => ?_⟩, fun c => absurd (by decide) c⟩
  rw [nB_0, Classical.not_not, Nat.testBit_two_pow] at c
  exact absurd (of_decide_eq_true c) hab
theorem bo_steps (R : Rel T w) (x y v : Int32) : Both T T 57 151 [.int x, .int y, .int v] w := by
  obtain ⟨σ, z, H, M, I, R⟩ := R
  have h8 := I.2.1
  by_cases c : is2 (σ 1) x y
  · by_cases c2 : wn v (nI 1) (nI 999)
    · obtain ⟨a, b, ha, hb, hab, rfl, rfl⟩ := (is2_iff I.2.1).mp c
      obtain ⟨k, hk1, hk, rfl⟩ := (wn_iff (by decide) (by decide)).mp c2
      have hl : stpS σ k a b ≤ 8 := by have := ff_le (P := fun m => (itS σ k (2 ^ a) m).testBit b) (σ 1 - 1) 1; unfold stpS; omega
      by_cases e : stpS σ k a b = 0
      · refine Both.f0 (z7 3) H M I R (en_X3_steps (sg_X3_steps_0 ⟨_, _, hm_areTwo H _ _, nY c, fun _ => ⟨_, _, hm_isNearness _, nY c2, fun _ => ⟨_, _, hm_stepsBetween (Or.inl rfl) H I ha hb hk, fun _ => ⟨_, _, hf3, rfl, rfl⟩, fun q => ?_⟩⟩⟩)) (fun w1 M1 => en_X4_steps (sg_X4_steps_0 ⟨_, _, mm_areTwo M1 _ _, nY c, fun _ => ⟨_, _, mm_isNear _, nY c2, fun _ => ?_⟩⟩))
        · rw [nI_ltI (by omega) (by omega)] at q; omega
        · rw [nb_shl (by omega)]
          exact rf_steps M1 I ha hb hab hk hk1 (fun _ => ⟨rfl, rfl⟩) (fun q => absurd e q) _
      · refine Both.rd H M I R (en_X3_steps (sg_X3_steps_0 ⟨_, _, hm_areTwo H _ _, nY c, fun _ => ⟨_, _, hm_isNearness _, nY c2, fun _ => ⟨_, _, hm_stepsBetween (Or.inl rfl) H I ha hb hk, fun q => ?_, fun _ => ⟨rfl, rfl⟩⟩⟩⟩)) (en_X4_steps (sg_X4_steps_0 ⟨_, _, mm_areTwo M _ _, nY c, fun _ => ⟨_, _, mm_isNear _, nY c2, fun _ => ?_⟩⟩))
        · rw [nI_ltI (by omega) (by omega)] at q; omega
        · rw [nb_shl (by omega)]
          exact rf_steps M I ha hb hab hk hk1 (fun q => absurd q e) (fun _ => ⟨rfl, rfl⟩) _
    · exact Both.f0 (z7 0) H M I R (en_X3_steps (sg_X3_steps_0 ⟨_, _, hm_areTwo H _ _, nY c, fun _ => ⟨_, _, hm_isNearness _, fun _ => ⟨_, _, hf0, rfl, rfl⟩, nN c2⟩⟩)) (fun w1 M1 => en_X4_steps (sg_X4_steps_0 ⟨_, _, mm_areTwo M1 _ _, nY c, fun _ => ⟨_, _, mm_isNear _, fun _ => ⟨_, _, mf0, rfl, rfl⟩, nN c2⟩⟩))
  · exact Both.f0 (z7 0) H M I R (en_X3_steps (sg_X3_steps_0 ⟨_, _, hm_areTwo H _ _, fun _ => ⟨_, _, hf0, rfl, rfl⟩, nN c⟩)) (fun w1 M1 => en_X4_steps (sg_X4_steps_0 ⟨_, _, mm_areTwo M1 _ _, fun _ => ⟨_, _, mf0, rfl, rfl⟩, nN c⟩))
theorem rf_tie (M : Ms 38 σ z w) (I : Iv T σ) {a b : Nat} (ha : a < σ 1) (hb : b < σ 1) (hab : a ≠ b) {Q : mz_Q} (h0 : tieS σ a b = 0 → Q (some (.int (fnd 3))) (mfW 3 w)) (h1 : ¬ tieS σ a b = 0 → Q (some (.int (nI (tieS σ a b)))) w) : ∀ (m g u : Nat) (j5 j6 : Value), u - g ≤ m → g ≤ u → u ≤ 999 → tOk σ a b g → (∀ v, u < v → v ≤ 999 → ¬ (cnS σ v a).testBit b = true) → mz_Ex cd_X4_tie (mz_Call 10) Q 23 [.ref 37, .int (nI a), .int (nI b), .int (nI g), .int (nI u), j5, j6] [] w := by
  have h8 := I.2.1
  intro m
  induction m with
  | zero =>
    intro g u j5 j6 hm hg hu k1 k2
    have e := tie_is I ha hab k1 (fun v q1 q2 => k2 v (by omega) q2)
    refine sg_X4_tie_23 ?_
    rw [nI_ltI (by omega) (by omega), nI_eq (by omega) (by omega)]
    refine ⟨fun c => absurd c (by omega), fun _ => ⟨fun c => ⟨_, _, mf3, h0 (by omega)⟩, fun c => ?_⟩⟩
    rw [e]; exact h1 (by omega)
  | succ m ih =>
    intro g u j5 j6 hm hg hu k1 k2
    by_cases q : g < u
    · refine sg_X4_tie_23 ?_
      rw [nI_ltI (by omega) (by omega), nI_add, nI_add, pk_div (by omega) (by decide) (by decide)]
      have hv : (g + u + 1) / 2 ≤ 999 := by omega
      have l1 := cn_lt I (v := (g + u + 1) / 2) ha
      refine ⟨fun _ => ⟨by decide, _, _, mm_clanOf M I ha hv (by omega), _, _, mm_hasBit (by omega) (by omega), fun c => ⟨fun _ => ?_, fun c2 => absurd c c2⟩, fun c => ⟨fun c2 => absurd c2 c, fun _ => ?_⟩⟩, fun c => absurd q c⟩
      · rw [nB_0] at c
        rw [pk_sub (by omega)]
        refine ih g ((g + u + 1) / 2 - 1) _ _ (by omega) (by omega) (by omega) k1 (fun v q1 q2 q3 => c (cn_anti (by omega) q3))
      · rw [nB_0, Classical.not_not] at c
        exact ih ((g + u + 1) / 2) u _ _ (by omega) (by omega) (by omega) ⟨hv, Or.inr c⟩ k2
    · have e := tie_is I ha hab k1 (fun v q1 q2 => k2 v (by omega) q2)
      refine sg_X4_tie_23 ?_
      rw [nI_ltI (by omega) (by omega), nI_eq (by omega) (by omega)]
      refine ⟨fun c => absurd c q, fun _ => ⟨fun c => ⟨_, _, mf3, h0 (by omega)⟩, fun c => ?_⟩⟩
      rw [e]; exact h1 (by omega)
theorem bo_tie (R : Rel T w) (x y : Int32) : Both T T 60 155 [.int x, .int y] w := by
  obtain ⟨σ, z, H, M, I, R⟩ := R
  have h8 := I.2.1
  by_cases c : is2 (σ 1) x y
  · obtain ⟨a, b, ha, hb, hab, rfl, rfl⟩ := (is2_iff I.2.1).mp c
    have hl : tieS σ a b ≤ 999 := (go_ok I (a := a) (b := b) (σ 1) (Nat.le_refl _)).1.1
    have k1 : tOk σ a b 0 := ⟨by omega, Or.inl rfl⟩
    by_cases e : tieS σ a b = 0
    · refine Both.f0 (z7 3) H M I R (en_X3_tie (sg_X3_tie_0 ⟨_, _, hm_areTwo H _ _, nY c, fun _ => ⟨_, _, hm_greatestTie (Or.inl rfl) H I ha hb, fun _ => ⟨_, _, hf3, rfl, rfl⟩, fun q => ?_⟩⟩)) (fun w1 M1 => en_X4_tie (sg_X4_tie_0 ⟨_, _, mm_areTwo M1 _ _, nY c, fun _ => rf_tie M1 I ha hb hab (fun _ => ⟨rfl, rfl⟩) (fun q => absurd e q) 999 0 999 _ _ (by omega) (by omega) (by omega) k1 (fun v q1 q2 => absurd q2 (by omega))⟩))
      rw [nI_ltI (by omega) (by omega)] at q; omega
    · refine Both.rd H M I R (en_X3_tie (sg_X3_tie_0 ⟨_, _, hm_areTwo H _ _, nY c, fun _ => ⟨_, _, hm_greatestTie (Or.inl rfl) H I ha hb, fun q => ?_, fun _ => ⟨rfl, rfl⟩⟩⟩)) (en_X4_tie (sg_X4_tie_0 ⟨_, _, mm_areTwo M _ _, nY c, fun _ => rf_tie M I ha hb hab (fun q => absurd q e) (fun _ => ⟨rfl, rfl⟩) 999 0 999 _ _ (by omega) (by omega) (by omega) k1 (fun v q1 q2 => absurd q2 (by omega))⟩))
      rw [nI_ltI (by omega) (by omega)] at q; omega
  · exact Both.f0 (z7 0) H M I R (en_X3_tie (sg_X3_tie_0 ⟨_, _, hm_areTwo H _ _, fun _ => ⟨_, _, hf0, rfl, rfl⟩, nN c⟩)) (fun w1 M1 => en_X4_tie (sg_X4_tie_0 ⟨_, _, mm_areTwo M1 _ _, fun _ => ⟨_, _, mf0, rfl, rfl⟩, nN c⟩))
end PY
