/-! first, one -/
theorem nq_pos (σ : Nat → Nat) (a b : Nat) (q : Nat × Nat) : 1 ≤ (nqS σ a b q).2 ∧ q.2 ≤ (nqS σ a b q).2 := by
  unfold nqS
  split
  · rename_i h
    exact ⟨Nat.le_add_left 1 _, Nat.le_succ_of_le h⟩
  · rename_i h
    exact ⟨by omega, Nat.le_refl _⟩
theorem ni_up (σ : Nat → Nat) (a : Nat) (q : Nat × Nat) : ∀ b, q.2 ≤ (niS σ a q b).2
  | 0 => Nat.le_refl _
  | b + 1 => by
    rw [niS]
    split
    · exact Nat.le_trans (ni_up σ a q b) (nq_pos σ a b _).2
    · exact ni_up σ a q b
theorem no_pos (σ : Nat → Nat) (h : 1 < σ 1) : ∀ n, 1 ≤ (noS σ (n + 1)).2
  | 0 => by
    rw [noS]
    obtain ⟨m, hm⟩ : ∃ m, σ 1 = m + 1 := ⟨σ 1 - 1, by omega⟩
    rw [hm, niS, if_pos (by omega)]
    exact (nq_pos σ 0 m _).1
  | n + 1 => by
    rw [noS]
    exact Nat.le_trans (no_pos σ h n) (ni_up _ _ _ _)
theorem gk_pos {σ : Nat → Nat} (h : 1 < σ 1) : 1 ≤ gkS σ := by
  obtain ⟨m, hm⟩ : ∃ m, σ 1 = m + 1 := ⟨σ 1 - 1, by omega⟩
  unfold gkS
  rw [hm]
  exact no_pos σ h m
theorem gk_0 {σ : Nat → Nat} (h : σ 1 ≤ 1) : gkS σ = 0 := by
  rcases no_ok σ (σ 1) with ⟨-, e⟩ | ⟨a, b, h1, h2, -⟩
  · exact e
  · omega
section SF
variable {d : Nat} {w : mz_M} {T h : Nat} {σ : Nat → Nat} {z : Int32}
def gP (σ : Nat → Nat) (v n : Nat) : Bool := decide (v < gkS (tN σ n))
theorem gP_t {v n : Nat} : gP σ v n = true ↔ v < gkS (tN σ n) := by unfold gP; rw [decide_eq_true_eq]
theorem hm_first {f : Nat} (I : Iv T σ) (hT : T ≤ 90000) {v : Nat} (hv : v ≤ 999) : ∀ (k n : Nat) (w1 : mz_M), n + k = 101 → Hs 9 (tN σ n) z w1 → Fr Tp w w1 → f = fiS (gP σ v) n k → mz_Ex cd_X3_first (mz_Call 10) (fun r2 w2 => ∃ u : Int32, r2 = some (.int u) ∧ CO f w u w2) 27 [.ref 0, .int (nI v), .int (nI n)] [] w1 := by
  intro k
  induction k with
  | zero =>
    intro n w1 hn H1 F1 e
    refine sg_X3_first_27 ?_
    rw [nI_ltI (by omega) (by omega)]
    exact ⟨fun _ => ⟨_, _, hf3, _, rfl, Or.inl ⟨by rw [e]; rfl, rfl, w1, rfl, F1⟩⟩, fun c => absurd (show 100 < n by omega) c⟩
  | succ k ih =>
    intro n w1 hn H1 F1 e
    have I1 := I.turns n
    have kl := gk_le I1
    have h8 := I1.2.1
    obtain ⟨w2, q, H2, F2⟩ := hm_passTurn (d := 7) (Or.inr (Or.inl rfl)) H1 I1 (by have := I1.1; omega)
    rw [fiS] at e
    refine sg_X3_first_27 ?_
    rw [H1.2.2.2.1, nI_ltI (by omega) (by omega), nI_ltI (by omega) (by omega), nI_add]
    refine ⟨fun c => absurd c (by omega), fun _ => ⟨fun p => ⟨_, _, hm_greatestKin (Or.inr (Or.inl rfl)) H1 I1, fun c => ?_, fun c => ?_⟩, fun p => ?_⟩⟩
    · have g1 := gk_pos p
      rw [nI_ltI (by omega) (by omega)] at c
      rw [if_neg (by rw [gP_t]; omega)] at e
      exact ⟨w2, q, ih (n + 1) w2 (by omega) H2 (F1.tr F2) e⟩
    · have g1 := gk_pos p
      rw [nI_ltI (by omega) (by omega)] at c
      rw [if_pos (by rw [gP_t]; omega)] at e
      exact ⟨_, rfl, Or.inr ⟨n, e, rfl, F1⟩⟩
    · rw [if_neg (by rw [gP_t, gk_0 (by omega)]; omega)] at e
      exact ⟨w2, q, ih (n + 1) w2 (by omega) H2 (F1.tr F2) e⟩
theorem rf_first {f : Nat} (I : Iv T σ) (hT : T ≤ 90000) {v : Nat} (hv : v ≤ 999) : ∀ (k n : Nat) (w1 : mz_M), n + k = 100 → Ms 38 (tN σ n) z w1 → Ms 40 σ z w1 → Fr Mq w w1 → f = fiS (gP σ v) n (k + 1) → mz_Ex cd_X4_first (mz_Call 10) (fun r2 w2 => ∃ u : Int32, r2 = some (.int u) ∧ MO f σ z w u w2) 27 [.ref 37, .int (nI v), .int (nI n)] [] w1 := by
  intro k
  induction k with
  | zero =>
    intro n w1 hn M1 A1 F1 e
    have I1 := I.turns n
    have kl := gk_le I1
    have bk := rf_back (f := f) A1 F1 (Q := fun r2 w2 => ∃ u : Int32, r2 = some (.int u) ∧ MO f σ z w u w2) (fun u w3 q => ⟨u, rfl, q⟩)
    rw [fiS, fiS] at e
    refine sg_X4_first_27 ?_
    rw [nI_ltI (by omega) (by omega)]
    refine ⟨fun c => absurd c (by omega), fun _ => ⟨_, _, mm_greatest M1 I1, fun c => ?_, fun c => ?_⟩⟩
    · rw [nP_lt (by omega) (by omega)] at c
      rw [if_neg (by rw [gP_t]; omega)] at e
      exact bk.1 e
    · rw [nP_lt (by omega) (by omega)] at c
      rw [if_pos (by rw [gP_t]; omega)] at e
      exact bk.2 n (by omega) e
  | succ k ih =>
    intro n w1 hn M1 A1 F1 e
    have I1 := I.turns n
    have kl := gk_le I1
    have bk := rf_back (f := f) A1 F1 (Q := fun r2 w2 => ∃ u : Int32, r2 = some (.int u) ∧ MO f σ z w u w2) (fun u w3 q => ⟨u, rfl, q⟩)
    rw [fiS] at e
    refine sg_X4_first_27 ?_
    rw [nI_ltI (by omega) (by omega), nI_add]
    refine ⟨fun _ => ⟨_, _, mm_greatest M1 I1, fun c => ?_, fun c => ?_⟩, fun c => absurd (show n < 100 by omega) c⟩
    · rw [nP_lt (by omega) (by omega)] at c
      obtain ⟨w2, q, M2, F2⟩ := mm_turn (d := 5) M1 I1 (by have := I1.1; omega)
      rw [if_neg (by rw [gP_t]; omega)] at e
      exact ⟨w2, q, ih (n + 1) w2 (by omega) M2 (A1.fr (F2 40 (by omega))) (F1.tr (F2.mono (by omega))) e⟩
    · refine ⟨_, _, mm_greatest M1 I1, fun c2 => absurd c2 c, fun _ => ?_⟩
      rw [nP_lt (by omega) (by omega)] at c
      rw [if_pos (by rw [gP_t]; omega)] at e
      exact bk.2 n (by omega) e
theorem bo_first (R : Rel T w) (hT : T ≤ 90000) (v : Int32) : Both T T 63 160 [.int v] w := by
  obtain ⟨σ, z, H, M, I, R⟩ := R
  by_cases c2 : wn v (nI 0) (nI 999)
  · obtain ⟨k, -, hk, rfl⟩ := (wn_iff (by decide) (by decide)).mp c2
    refine Both.srch (fiS (gP σ k) 0 101) H M I R ?_ (fun w1 M1 _ => ?_)
    · obtain ⟨w2, q1, q2, q3⟩ := hm_become (d := 9) (h := 9) (o := 1) (by omega) (by omega) (by decide) H
      exact ec_X3_first (sg_X3_first_0 ⟨_, _, hm_isKin _, nY c2, fun _ => ⟨w2, q1, hm_first I hT hk 101 0 w2 (by omega) q2 (q3.mono (by omega)) rfl⟩⟩)
    · obtain ⟨w2, q1, q2, q3⟩ := mm_copyRow (d := 9) (a := 38) (b := 40) (by omega) (by omega) (by decide) M1
      exact ec_X4_first (sg_X4_first_0 ⟨_, _, mm_isKin _, nY c2, fun _ => ⟨w2, q1, rf_first I hT hk 100 0 w2 (by omega) (M1.fr (q3 38 (by decide))) q2 (q3.mono (by omega)) rfl⟩⟩)
  · exact Both.f0 (z7 0) H M I R (en_X3_first (sg_X3_first_0 ⟨_, _, hm_isKin _, fun _ => ⟨_, _, hf0, rfl, rfl⟩, nN c2⟩)) (fun w1 M1 => en_X4_first (sg_X4_first_0 ⟨_, _, mm_isKin _, fun _ => ⟨_, _, mf0, rfl, rfl⟩, nN c2⟩))
def oP (σ : Nat → Nat) (v n : Nat) : Bool := decide (clansS (tN σ n) v ≤ 1)
theorem oP_t {v n : Nat} : oP σ v n = true ↔ clansS (tN σ n) v ≤ 1 := by unfold oP; rw [decide_eq_true_eq]
theorem cl_le {v : Nat} (I : Iv T σ) : clansS σ v ≤ 8 := Nat.le_trans (cc_le σ v (σ 1)) I.2.1
theorem hm_one {f : Nat} (I : Iv T σ) (hT : T ≤ 90000) {v : Nat} (hv : v ≤ 999) : ∀ (k n : Nat) (w1 : mz_M), n + k = 101 → Hs 9 (tN σ n) z w1 → Fr Tp w w1 → f = fiS (oP σ v) n k → mz_Ex cd_X3_one (mz_Call 10) (fun r2 w2 => ∃ u : Int32, r2 = some (.int u) ∧ CO f w u w2) 27 [.ref 0, .int (nI v), .int (nI n)] [] w1 := by
  intro k
  induction k with
  | zero =>
    intro n w1 hn H1 F1 e
    refine sg_X3_one_27 ?_
    rw [nI_ltI (by omega) (by omega)]
    exact ⟨fun _ => ⟨_, _, hf3, _, rfl, Or.inl ⟨by rw [e]; rfl, rfl, w1, rfl, F1⟩⟩, fun c => absurd (show 100 < n by omega) c⟩
  | succ k ih =>
    intro n w1 hn H1 F1 e
    have I1 := I.turns n
    have kl := cl_le (v := v) I1
    obtain ⟨w2, q, H2, F2⟩ := hm_passTurn (d := 7) (Or.inr (Or.inl rfl)) H1 I1 (by have := I1.1; omega)
    rw [fiS] at e
    refine sg_X3_one_27 ?_
    rw [nI_ltI (by omega) (by omega), nI_add]
    refine ⟨fun c => absurd c (by omega), fun _ => ⟨_, _, hm_clanCount (Or.inr (Or.inl rfl)) H1 I1 hv, fun c => ?_, fun c => ?_⟩⟩
    · rw [nI_ltI (by omega) (by omega)] at c
      rw [if_neg (by rw [oP_t]; omega)] at e
      exact ⟨w2, q, ih (n + 1) w2 (by omega) H2 (F1.tr F2) e⟩
    · rw [nI_ltI (by omega) (by omega)] at c
      rw [if_pos (by rw [oP_t]; omega)] at e
      exact ⟨_, rfl, Or.inr ⟨n, e, rfl, F1⟩⟩
theorem rf_one {f : Nat} (I : Iv T σ) (hT : T ≤ 90000) {v : Nat} (hv : v ≤ 999) (hv1 : 1 ≤ v) : ∀ (k n : Nat) (w1 : mz_M), n + k = 100 → Ms 38 (tN σ n) z w1 → Ms 40 σ z w1 → Fr Mq w w1 → f = fiS (oP σ v) n (k + 1) → mz_Ex cd_X4_one (mz_Call 10) (fun r2 w2 => ∃ u : Int32, r2 = some (.int u) ∧ MO f σ z w u w2) 27 [.ref 37, .int (nI v), .int (nI n)] [] w1 := by
  intro k
  induction k with
  | zero =>
    intro n w1 hn M1 A1 F1 e
    have I1 := I.turns n
    have kl := cl_le (v := v) I1
    have bk := rf_back (f := f) A1 F1 (Q := fun r2 w2 => ∃ u : Int32, r2 = some (.int u) ∧ MO f σ z w u w2) (fun u w3 q => ⟨u, rfl, q⟩)
    rw [fiS, fiS] at e
    refine sg_X4_one_27 ?_
    rw [nI_ltI (by omega) (by omega)]
    refine ⟨fun c => absurd c (by omega), fun _ => ⟨_, _, mm_clansNow M1 I1 hv hv1, fun c => ?_, fun c => ?_⟩⟩
    · rw [nI_ltI (by omega) (by omega)] at c
      rw [if_neg (by rw [oP_t]; omega)] at e
      exact bk.1 e
    · rw [nI_ltI (by omega) (by omega)] at c
      rw [if_pos (by rw [oP_t]; omega)] at e
      exact bk.2 n (by omega) e
  | succ k ih =>
    intro n w1 hn M1 A1 F1 e
    have I1 := I.turns n
    have kl := cl_le (v := v) I1
    have bk := rf_back (f := f) A1 F1 (Q := fun r2 w2 => ∃ u : Int32, r2 = some (.int u) ∧ MO f σ z w u w2) (fun u w3 q => ⟨u, rfl, q⟩)
    rw [fiS] at e
    refine sg_X4_one_27 ?_
    rw [nI_ltI (by omega) (by omega), nI_add]
    refine ⟨fun _ => ⟨_, _, mm_clansNow M1 I1 hv hv1, fun c => ?_, fun c => ?_⟩, fun c => absurd (show n < 100 by omega) c⟩
    · rw [nI_ltI (by omega) (by omega)] at c
      obtain ⟨w2, q, M2, F2⟩ := mm_turn (d := 5) M1 I1 (by have := I1.1; omega)
      rw [if_neg (by rw [oP_t]; omega)] at e
      exact ⟨w2, q, ih (n + 1) w2 (by omega) M2 (A1.fr (F2 40 (by omega))) (F1.tr (F2.mono (by omega))) e⟩
    · refine ⟨_, _, mm_clansNow M1 I1 hv hv1, fun c2 => absurd c2 c, fun _ => ?_⟩
      rw [nI_ltI (by omega) (by omega)] at c
      rw [if_pos (by rw [oP_t]; omega)] at e
      exact bk.2 n (by omega) e
theorem bo_one (R : Rel T w) (hT : T ≤ 90000) (v : Int32) : Both T T 64 161 [.int v] w := by
  obtain ⟨σ, z, H, M, I, R⟩ := R
  by_cases c2 : wn v (nI 1) (nI 999)
  · obtain ⟨k, hk1, hk, rfl⟩ := (wn_iff (by decide) (by decide)).mp c2
    refine Both.srch (fiS (oP σ k) 0 101) H M I R ?_ (fun w1 M1 _ => ?_)
    · obtain ⟨w2, q1, q2, q3⟩ := hm_become (d := 9) (h := 9) (o := 1) (by omega) (by omega) (by decide) H
      exact ec_X3_one (sg_X3_one_0 ⟨_, _, hm_isNearness _, nY c2, fun _ => ⟨w2, q1, hm_one I hT hk 101 0 w2 (by omega) q2 (q3.mono (by omega)) rfl⟩⟩)
    · obtain ⟨w2, q1, q2, q3⟩ := mm_copyRow (d := 9) (a := 38) (b := 40) (by omega) (by omega) (by decide) M1
      exact ec_X4_one (sg_X4_one_0 ⟨_, _, mm_isNear _, nY c2, fun _ => ⟨w2, q1, rf_one I hT hk hk1 100 0 w2 (by omega) (M1.fr (q3 38 (by decide))) q2 (q3.mono (by omega)) rfl⟩⟩)
  · exact Both.f0 (z7 0) H M I R (en_X3_one (sg_X3_one_0 ⟨_, _, hm_isNearness _, fun _ => ⟨_, _, hf0, rfl, rfl⟩, nN c2⟩)) (fun w1 M1 => en_X4_one (sg_X4_one_0 ⟨_, _, mm_isNear _, fun _ => ⟨_, _, mf0, rfl, rfl⟩, nN c2⟩))
end SF
