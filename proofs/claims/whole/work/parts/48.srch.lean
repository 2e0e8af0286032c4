/-! searches: what both sides answer, the first n that is so, or a finding -/
/-- 1 more than the first i that is so; 0 if there is none -/
def fiS (P : Nat → Bool) (i : Nat) : Nat → Nat
  | 0 => 0
  | k + 1 => if P i = true then i + 1 else fiS P (i + 1) k
abbrev Tp (k : Nat) : Prop := 9 ≤ k ∧ k < 17
def CO (f : Nat) (w : mz_M) (v : Int32) (w' : mz_M) : Prop := (f = 0 ∧ v = fnd 3 ∧ ∃ wt, w' = cfW 3 wt ∧ Fr Tp w wt) ∨ (∃ m, f = m + 1 ∧ v = nI m ∧ Fr Tp w w')
def MO (f : Nat) (σ : Nat → Nat) (z : Int32) (w : mz_M) (v : Int32) (w' : mz_M) : Prop := (f = 0 ∧ v = fnd 3 ∧ ∃ wu, w' = mfW 3 wu ∧ Ms 38 σ z wu ∧ Fr Mq w wu) ∨ (∃ m, f = m + 1 ∧ v = nI m ∧ Ms 38 σ z w' ∧ Fr Mq w w')
theorem Both.srch {T c m : Nat} {as : List Value} {w : mz_M} {σ : Nat → Nat} {z : Int32} (f : Nat) (H : Hs 1 σ z w) (M : Ms 38 σ z w) (I : Iv T σ) (R : RstR T w)
    (hc : ∃ (v : Int32) (w' : mz_M), mz_Call 11 c (.ref 0 :: as) w (some (.int v)) w' ∧ CO f w v w')
    (hm : ∀ w1, Ms 38 σ z w1 → (∀ k, ¬ Cp k → k ≠ 36 → w1 k = w k) → ∃ (v : Int32) (w' : mz_M), mz_Call 11 m (.ref 37 :: as) w1 (some (.int v)) w' ∧ MO f σ z w1 v w') : Both T T c m as w := by
  obtain ⟨v, w', a1, a2⟩ := hc
  rcases a2 with ⟨e, rfl, wt, rfl, F⟩ | ⟨n, e, rfl, F⟩
  · refine Both.fdF (z7 3) M I R ⟨wt, a1, H.fr (fun k x y => F k (by omega)), F.mono (by omega)⟩ (fun w1 M1 F1 => ?_)
    obtain ⟨v, w2, b1, b2⟩ := hm w1 M1 F1
    rcases b2 with ⟨-, rfl, wu, rfl, b3, b4⟩ | ⟨m, e2, -⟩
    · exact ⟨wu, b1, b3, b4⟩
    · omega
  · refine Both.okF (r := nI n) (σ' := σ) (z' := z) M R (Nat.le_refl _) I ⟨w', a1, H.fr (fun k x y => F k (by omega)), F.mono (by omega)⟩ (fun w1 M1 _ F1 => ?_)
    obtain ⟨v, w2, b1, b2⟩ := hm w1 M1 (fun k q _ => F1 k q)
    rcases b2 with ⟨e2, -⟩ | ⟨m, e2, rfl, b3, b4⟩
    · omega
    · rw [show n = m by omega]
      exact ⟨w2, b1, b3, b4⟩
section SR
variable {d : Nat} {w : mz_M} {T h : Nat} {σ : Nat → Nat} {z : Int32}
theorem rf_none : mz_Call (d + 2) 112 [.ref 37, .int (-1 : Int32)] w (some (.int (fnd 3))) (mfW 3 w) :=
  en_X4_orNone (sg_X4_orNone_0 ⟨fun _ => ⟨_, _, mf3, rfl, rfl⟩, fun q => absurd (by decide) q⟩)
theorem rf_some {n : Nat} (h : n < 2 ^ 31) : mz_Call (d + 2) 112 [.ref 37, .int (nI n)] w (some (.int (nI n))) w := by
  refine en_X4_orNone (sg_X4_orNone_0 ?_)
  rw [nI_ltI h (by decide)]
  exact ⟨fun q => absurd q (by omega), fun _ => ⟨rfl, rfl⟩⟩
theorem hm_kinBehind (H : Hs 9 σ z w) (I : Iv T σ) {a b n : Nat} (ha : a < 8) (hb : b < 8) (hn : n ≤ 1000) (hT : T + n < 99998) : ∃ w', mz_Call (d + 4) 102 [.ref 0, .int (nI a), .int (nI b), .int (nI n)] w (some (.int (nI (kn (tN σ n) a b)))) w' ∧ Fr Tp w w' := by
  have loop : ∀ k i w1, i + k = n → Hs 9 (tN σ i) z w1 → Fr Tp w w1 → mz_Ex cd_X3_kinBehind (mz_Call (d + 3)) (fun r1 w1 => ∃ v : Int32, r1 = some (.int v) ∧ (v = nI (kn (tN σ n) a b) ∧ Fr Tp w w1)) 3 [.ref 0, .int (nI a), .int (nI b), .int (nI n), .int (nI i)] [] w1 := by
    intro k
    induction k with
    | zero =>
      intro i w1 hi H1 F1
      refine sg_X3_kinBehind_3 ?_
      rw [nI_ltI (by omega) (by omega)]
      refine ⟨fun c => absurd c (by omega), fun _ => ⟨_, _, hm_kinOf (Or.inr (Or.inl rfl)) H1 ha hb, _, rfl, ?_, F1⟩⟩
      rw [show n = i by omega]
    | succ k ih =>
      intro i w1 hi H1 F1
      have I1 := I.turns i
      obtain ⟨w2, c, H2, F2⟩ := hm_passTurn (d := d) (Or.inr (Or.inl rfl)) H1 I1 (by have := I1.1; omega)
      refine sg_X3_kinBehind_3 ?_
      rw [nI_ltI (by omega) (by omega), nI_add]
      exact ⟨fun _ => ⟨w2, c, ih (i + 1) w2 (by omega) H2 (F1.tr F2)⟩, fun c => absurd (show i < n by omega) c⟩
  obtain ⟨v, w', a1, a2, a3⟩ := ec_X3_kinBehind (Po := fun v w' => v = nI (kn (tN σ n) a b) ∧ Fr Tp w w') (sg_X3_kinBehind_0 (loop n 0 w (by omega) H Fr.rf))
  subst a2
  exact ⟨w', a1, a3⟩
theorem mm_kinBehind (M : Ms 38 σ z w) (I : Iv T σ) {a b n : Nat} (ha : a < 8) (hb : b < 8) (hn : n ≤ 1000) (hT : T + n < 99998) : ∃ w', mz_Call (d + 7) 156 [.ref 37, .int (nI a), .int (nI b), .int (nI n)] w (some (.int (nI (kn (tN σ n) a b)))) w' ∧ Ms 38 σ z w' ∧ Fr Mq w w' := by
  obtain ⟨w1, a1, a2, a3⟩ := mm_copyRow (d := d + 5) (a := 38) (b := 40) (by omega) (by omega) (by decide) M
  obtain ⟨w2, b1, b2, b3⟩ := mm_turns (d := d) (M.fr (a3 38 (by decide))) I hn hT
  obtain ⟨w3, c1, c2, c3⟩ := mm_putBack (d := d + 4) (a2.fr (b3 40 (by omega))) (nI (kn (tN σ n) a b))
  exact ⟨w3, en_X4_kinBehind (sg_X4_kinBehind_0 ⟨w1, a1, w2, b1, _, _, mm_kinOf b2 ha hb, _, _, c1, rfl, rfl⟩), c2, (a3.mono (by omega)).tr ((b3.mono (by omega)).tr (c3.mono (by omega)))⟩
theorem bo_ahead (R : Rel T w) (hT : T ≤ 90000) (x y v : Int32) : Both T T 61 157 [.int x, .int y, .int v] w := by
  obtain ⟨σ, z, H, M, I, R⟩ := R
  have h8 := I.2.1
  by_cases c : is2 (σ 1) x y
  · by_cases c2 : wn v (nI 0) (nI 60)
    · obtain ⟨a, b, ha, hb, hab, rfl, rfl⟩ := (is2_iff I.2.1).mp c
      obtain ⟨n, -, hk, rfl⟩ := (wn_iff (by decide) (by decide)).mp c2
      refine Both.ok (r := nI (kn (tN σ n) a b)) (σ' := σ) (z' := z) M R (Nat.le_refl _) I ?_ (fun w1 M1 => ?_)
      · obtain ⟨w2, q1, q2, q3⟩ := hm_become (d := 9) (h := 9) (o := 1) (by omega) (by omega) (by decide) H
        obtain ⟨w3, p1, p2⟩ := hm_kinBehind (d := 6) q2 I (a := a) (b := b) (n := n) (by omega) (by omega) (by omega) (by omega)
        exact ⟨w3, en_X3_ahead (sg_X3_ahead_0 ⟨_, _, hm_areTwo H _ _, nY c, fun _ => ⟨_, _, hm_within _ _ _, nY c2, fun _ => ⟨w2, q1, _, _, p1, rfl, rfl⟩⟩⟩), (H.fr (fun k x y => q3 k (by omega))).fr (fun k x y => p2 k (by omega)), (q3.mono (by omega)).tr (p2.mono (by omega))⟩
      · obtain ⟨w2, q1, q2, q3⟩ := mm_kinBehind (d := 3) M1 I (a := a) (b := b) (n := n) (by omega) (by omega) (by omega) (by omega)
        exact ⟨w2, en_X4_ahead (sg_X4_ahead_0 ⟨_, _, mm_areTwo M1 _ _, nY c, fun _ => ⟨_, _, mm_within _ _ _, nY c2, fun _ => ⟨_, _, q1, rfl, rfl⟩⟩⟩), q2, q3⟩
    · exact Both.f0 (z7 0) H M I R (en_X3_ahead (sg_X3_ahead_0 ⟨_, _, hm_areTwo H _ _, nY c, fun _ => ⟨_, _, hm_within _ _ _, fun _ => ⟨_, _, hf0, rfl, rfl⟩, nN c2⟩⟩)) (fun w1 M1 => en_X4_ahead (sg_X4_ahead_0 ⟨_, _, mm_areTwo M1 _ _, nY c, fun _ => ⟨_, _, mm_within _ _ _, fun _ => ⟨_, _, mf0, rfl, rfl⟩, nN c2⟩⟩))
  · exact Both.f0 (z7 0) H M I R (en_X3_ahead (sg_X3_ahead_0 ⟨_, _, hm_areTwo H _ _, fun _ => ⟨_, _, hf0, rfl, rfl⟩, nN c⟩)) (fun w1 M1 => en_X4_ahead (sg_X4_ahead_0 ⟨_, _, mm_areTwo M1 _ _, fun _ => ⟨_, _, mf0, rfl, rfl⟩, nN c⟩))
/-- when -/
def wP (σ : Nat → Nat) (a b v n : Nat) : Bool := decide (v ≤ kn (tN σ n) a b)
theorem hm_when {f : Nat} (I : Iv T σ) (hT : T ≤ 90000) {a b v : Nat} (ha : a < 8) (hb : b < 8) (hv : v ≤ 999) : ∀ (k n : Nat) (w1 : mz_M), n + k = 101 → Hs 9 (tN σ n) z w1 → Fr Tp w w1 → f = fiS (wP σ a b v) n k → mz_Ex cd_X3_when (mz_Call 10) (fun r2 w2 => ∃ u : Int32, r2 = some (.int u) ∧ CO (f) w u w2) 37 [.ref 0, .int (nI a), .int (nI b), .int (nI v), .int (nI n)] [] w1 := by
  intro k
  induction k with
  | zero =>
    intro n w1 hn H1 F1 e
    refine sg_X3_when_37 ?_
    rw [nI_ltI (by omega) (by omega)]
    exact ⟨fun _ => ⟨_, _, hf3, _, rfl, Or.inl ⟨by rw [e]; rfl, rfl, w1, rfl, F1⟩⟩, fun c => absurd (show 100 < n by omega) c⟩
  | succ k ih =>
    intro n w1 hn H1 F1 e
    have I1 := I.turns n
    have kl := kn_le I1 ha hb
    rw [fiS] at e
    refine sg_X3_when_37 ?_
    rw [nI_ltI (by omega) (by omega), nI_add]
    refine ⟨fun c => absurd c (by omega), fun _ => ⟨_, _, hm_kinOf (Or.inr (Or.inl rfl)) H1 ha hb, fun c => ?_, fun c => ?_⟩⟩
    · rw [nI_ltI (by omega) (by omega)] at c
      obtain ⟨w2, q, H2, F2⟩ := hm_passTurn (d := 7) (Or.inr (Or.inl rfl)) H1 I1 (by have := I1.1; omega)
      rw [if_neg (by unfold wP; rw [decide_eq_true_eq]; show ¬ v ≤ tN σ n (37 + 8 * a + b); omega)] at e
      exact ⟨w2, q, ih (n + 1) w2 (by omega) H2 (F1.tr F2) e⟩
    · rw [nI_ltI (by omega) (by omega)] at c
      rw [if_pos (by unfold wP; rw [decide_eq_true_eq]; show v ≤ tN σ n (37 + 8 * a + b); omega)] at e
      exact ⟨_, rfl, Or.inr ⟨n, e, rfl, F1⟩⟩
theorem rf_back {w2 : mz_M} {f : Nat} (A : Ms 40 σ z w2) (F : Fr Mq w w2) {Q : mz_Q} (hQ : ∀ u w3, MO f σ z w u w3 → Q (some (.int u)) w3) :
    (f = 0 → ∃ (r4 : Int32) (w4 : mz_M), mz_Call 10 111 [.ref 37, .int (-1 : Int32)] w2 (some (.int r4)) w4 ∧ ∃ (r5 : Int32) (w5 : mz_M), mz_Call 10 112 [.ref 37, .int r4] w4 (some (.int r5)) w5 ∧ Q (some (.int r5)) w5) ∧ (∀ n, n < 2 ^ 31 → f = n + 1 → ∃ (r4 : Int32) (w4 : mz_M), mz_Call 10 111 [.ref 37, .int (nI n)] w2 (some (.int r4)) w4 ∧ ∃ (r5 : Int32) (w5 : mz_M), mz_Call 10 112 [.ref 37, .int r4] w4 (some (.int r5)) w5 ∧ Q (some (.int r5)) w5) := by
  refine ⟨fun e => ?_, fun n hn e => ?_⟩
  · obtain ⟨w3, c1, c2, c3⟩ := mm_putBack (d := 8) A (-1 : Int32)
    exact ⟨_, _, c1, _, _, rf_none, hQ _ _ (Or.inl ⟨e, rfl, w3, rfl, c2, F.tr (c3.mono (by omega))⟩)⟩
  · obtain ⟨w3, c1, c2, c3⟩ := mm_putBack (d := 8) A (nI n)
    exact ⟨_, _, c1, _, _, rf_some hn, hQ _ _ (Or.inr ⟨n, e, rfl, c2, F.tr (c3.mono (by omega))⟩)⟩
theorem rf_when {f : Nat} (I : Iv T σ) (hT : T ≤ 90000) {a b v : Nat} (ha : a < 8) (hb : b < 8) (hv : v ≤ 999) : ∀ (k n : Nat) (w1 : mz_M), n + k = 100 → Ms 38 (tN σ n) z w1 → Ms 40 σ z w1 → Fr Mq w w1 → f = fiS (wP σ a b v) n (k + 1) → mz_Ex cd_X4_when (mz_Call 10) (fun r2 w2 => ∃ u : Int32, r2 = some (.int u) ∧ MO (f) σ z w u w2) 37 [.ref 37, .int (nI a), .int (nI b), .int (nI v), .int (nI n)] [] w1 := by
  intro k
  induction k with
  | zero =>
    intro n w1 hn M1 A1 F1 e
    have I1 := I.turns n
    have kl := kn_le I1 ha hb
    have bk := rf_back (f := f) A1 F1 (Q := fun r2 w2 => ∃ u : Int32, r2 = some (.int u) ∧ MO (f) σ z w u w2) (fun u w3 q => ⟨u, rfl, q⟩)
    rw [fiS, fiS] at e
    refine sg_X4_when_37 ?_
    rw [nI_ltI (by omega) (by omega)]
    refine ⟨fun c => absurd c (by omega), fun _ => ⟨_, _, mm_kinOf M1 ha hb, fun c => ?_, fun c => ?_⟩⟩
    · rw [nI_ltI (by omega) (by omega)] at c
      rw [if_neg (by unfold wP; rw [decide_eq_true_eq]; show ¬ v ≤ tN σ n (37 + 8 * a + b); omega)] at e
      exact bk.1 e
    · rw [nI_ltI (by omega) (by omega)] at c
      rw [if_pos (by unfold wP; rw [decide_eq_true_eq]; show v ≤ tN σ n (37 + 8 * a + b); omega)] at e
      exact bk.2 n (by omega) e
  | succ k ih =>
    intro n w1 hn M1 A1 F1 e
    have I1 := I.turns n
    have kl := kn_le I1 ha hb
    have bk := rf_back (f := f) A1 F1 (Q := fun r2 w2 => ∃ u : Int32, r2 = some (.int u) ∧ MO (f) σ z w u w2) (fun u w3 q => ⟨u, rfl, q⟩)
    rw [fiS] at e
    refine sg_X4_when_37 ?_
    rw [nI_ltI (by omega) (by omega), nI_add]
    refine ⟨fun _ => ⟨_, _, mm_kinOf M1 ha hb, fun c => ?_, fun c => ?_⟩, fun c => absurd (show n < 100 by omega) c⟩
    · rw [nI_ltI (by omega) (by omega)] at c
      obtain ⟨w2, q, M2, F2⟩ := mm_turn (d := 5) M1 I1 (by have := I1.1; omega)
      rw [if_neg (by unfold wP; rw [decide_eq_true_eq]; show ¬ v ≤ tN σ n (37 + 8 * a + b); omega)] at e
      exact ⟨w2, q, ih (n + 1) w2 (by omega) M2 (A1.fr (F2 40 (by omega))) (F1.tr (F2.mono (by omega))) e⟩
    · refine ⟨_, _, mm_kinOf M1 ha hb, fun c2 => absurd c2 c, fun _ => ?_⟩
      rw [nI_ltI (by omega) (by omega)] at c
      rw [if_pos (by unfold wP; rw [decide_eq_true_eq]; show v ≤ tN σ n (37 + 8 * a + b); omega)] at e
      exact bk.2 n (by omega) e
theorem bo_when (R : Rel T w) (hT : T ≤ 90000) (x y v : Int32) : Both T T 62 158 [.int x, .int y, .int v] w := by
  obtain ⟨σ, z, H, M, I, R⟩ := R
  have h8 := I.2.1
  by_cases c : is2 (σ 1) x y
  · by_cases c2 : wn v (nI 0) (nI 999)
    · obtain ⟨a, b, ha, hb, hab, rfl, rfl⟩ := (is2_iff I.2.1).mp c
      obtain ⟨k, -, hk, rfl⟩ := (wn_iff (by decide) (by decide)).mp c2
      refine Both.srch (fiS (wP σ a b k) 0 101) H M I R ?_ (fun w1 M1 _ => ?_)
      · obtain ⟨w2, q1, q2, q3⟩ := hm_become (d := 9) (h := 9) (o := 1) (by omega) (by omega) (by decide) H
        exact ec_X3_when (sg_X3_when_0 ⟨_, _, hm_areTwo H _ _, nY c, fun _ => ⟨_, _, hm_isKin _, nY c2, fun _ => ⟨w2, q1, hm_when I hT (by omega) (by omega) hk 101 0 w2 (by omega) q2 (q3.mono (by omega)) rfl⟩⟩⟩)
      · obtain ⟨w2, q1, q2, q3⟩ := mm_copyRow (d := 9) (a := 38) (b := 40) (by omega) (by omega) (by decide) M1
        exact ec_X4_when (sg_X4_when_0 ⟨_, _, mm_areTwo M1 _ _, nY c, fun _ => ⟨_, _, mm_isKin _, nY c2, fun _ => ⟨w2, q1, rf_when I hT (by omega) (by omega) hk 100 0 w2 (by omega) (M1.fr (q3 38 (by decide))) q2 (q3.mono (by omega)) rfl⟩⟩⟩)
    · exact Both.f0 (z7 0) H M I R (en_X3_when (sg_X3_when_0 ⟨_, _, hm_areTwo H _ _, nY c, fun _ => ⟨_, _, hm_isKin _, fun _ => ⟨_, _, hf0, rfl, rfl⟩, nN c2⟩⟩)) (fun w1 M1 => en_X4_when (sg_X4_when_0 ⟨_, _, mm_areTwo M1 _ _, nY c, fun _ => ⟨_, _, mm_isKin _, fun _ => ⟨_, _, mf0, rfl, rfl⟩, nN c2⟩⟩))
  · exact Both.f0 (z7 0) H M I R (en_X3_when (sg_X3_when_0 ⟨_, _, hm_areTwo H _ _, fun _ => ⟨_, _, hf0, rfl, rfl⟩, nN c⟩)) (fun w1 M1 => en_X4_when (sg_X4_when_0 ⟨_, _, mm_areTwo M1 _ _, fun _ => ⟨_, _, mf0, rfl, rfl⟩, nN c⟩))
end SR
