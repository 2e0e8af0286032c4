/-! steps, ties -/
/-- the first from i on, of k, that is so; 0: none -/
def ffS (P : Nat → Bool) (i : Nat) : Nat → Nat
  | 0 => 0
  | k + 1 => if P i = true then i else ffS P (i + 1) k
theorem ff_no {P : Nat → Bool} : ∀ {k i : Nat}, (∀ m, i ≤ m → ¬ P m = true) → ffS P i k = 0
  | 0, _, _ => rfl
  | k + 1, i, h => by
    rw [ffS, if_neg (h i (Nat.le_refl _))]
    exact ff_no (fun m hm => h m (by omega))
theorem ff_ext {P : Nat → Bool} : ∀ {k i : Nat} (j : Nat), (∀ m, i + k ≤ m → P m = true → ∃ n, i ≤ n ∧ n < i + k ∧ P n = true) → ffS P i (k + j) = ffS P i k
  | 0, i, j, h => by
    rw [Nat.zero_add]
    exact ff_no (fun m hm hp => by
      obtain ⟨n, h1, h2, -⟩ := h m hm hp
      omega)
  | k + 1, i, j, h => by
    rw [show k + 1 + j = (k + j) + 1 by omega, ffS, ffS]
    by_cases q : P i = true
    · rw [if_pos q, if_pos q]
    · rw [if_neg q, if_neg q]
      refine ff_ext j (fun m hm hp => ?_)
      obtain ⟨n, h1, h2, h3⟩ := h m (by omega) hp
      refine ⟨n, ?_, by omega, h3⟩
      rcases Nat.lt_or_ge i n with z | z
      · omega
      · exact absurd (show P i = true by rw [show i = n by omega]; exact h3) q
theorem ff_le {P : Nat → Bool} : ∀ (k i : Nat), ffS P i k ≤ i + k
  | 0, i => by simp [ffS]
  | k + 1, i => by
    have := ff_le (P := P) k (i + 1)
    unfold ffS
    split <;> omega
/-- the least number of steps; 0: none -/
def stpS (σ : Nat → Nat) (v a b : Nat) : Nat := ffS (fun m => (itS σ v (2 ^ a) m).testBit b) 1 (σ 1 - 1)
theorem stp_8 {σ : Nat → Nat} {v a b : Nat} (h8 : σ 1 ≤ 8) (ha : a < σ 1) (hb : b < σ 1) (hab : a ≠ b) : ffS (fun m => (itS σ v (2 ^ a) m).testBit b) 1 8 = stpS σ v a b := by
  unfold stpS
  have := ff_ext (P := fun m => (itS σ v (2 ^ a) m).testBit b) (k := σ 1 - 1) (i := 1) (9 - σ 1) (fun m hm hp => by
    refine ⟨σ 1 - 1, by omega, by omega, ?_⟩
    have e : itS σ v (2 ^ a) m = itS σ v (2 ^ a) (σ 1 - 1) := it_same (it_end ha (by omega)) (by omega)
    rw [← e]
    exact hp)
  rw [← this]
  congr 1
  omega
/-- the greatest tie, as found over the pairs -/
def gqS (σ : Nat → Nat) (a b c e g : Nat) : Nat := if g < kn σ c e ∧ (cnS σ (kn σ c e) a).testBit b = true then kn σ c e else g
def giS (σ : Nat → Nat) (a b c g : Nat) : Nat → Nat
  | 0 => g
  | e + 1 => if c < e then gqS σ a b c e (giS σ a b c g e) else giS σ a b c g e
def goS (σ : Nat → Nat) (a b : Nat) : Nat → Nat
  | 0 => 0
  | c + 1 => giS σ a b c (goS σ a b c) (σ 1)
def tieS (σ : Nat → Nat) (a b : Nat) : Nat := goS σ a b (σ 1)
theorem gi_lo (σ : Nat → Nat) (a b c g : Nat) : ∀ e, e ≤ c + 1 → giS σ a b c g e = g
  | 0, _ => rfl
  | e + 1, h => by rw [giS, if_neg (by omega), gi_lo σ a b c g e (by omega)]
/-- what the greatest is: in one clan, and no pair's kin above it is so -/
def tOk (σ : Nat → Nat) (a b g : Nat) : Prop := g ≤ 999 ∧ (g = 0 ∨ (cnS σ g a).testBit b = true)
theorem gi_ok {T : Nat} {σ : Nat → Nat} (I : Iv T σ) {a b c g : Nat} (hc : c < σ 1) (h : tOk σ a b g) : ∀ e, e ≤ σ 1 → tOk σ a b (giS σ a b c g e) ∧ g ≤ giS σ a b c g e ∧ ∀ x, c < x → x < e → (cnS σ (kn σ c x) a).testBit b = true → kn σ c x ≤ giS σ a b c g e
  | 0, _ => ⟨h, Nat.le_refl _, fun x h1 h2 => absurd h2 (by omega)⟩
  | e + 1, he => by
    have h8 := I.2.1
    obtain ⟨i1, i2, i3⟩ := gi_ok I hc h e (by omega)
    have hk := kn_le I (a := c) (b := e) (by omega) (by omega)
    unfold giS
    split
    · rename_i hce
      unfold gqS
      split
      · rename_i q
        refine ⟨⟨hk, Or.inr q.2⟩, by have := q.1; omega, fun x h1 h2 h3 => ?_⟩
        rcases Nat.lt_or_ge x e with y | y
        · exact Nat.le_trans (i3 x h1 y h3) (Nat.le_of_lt q.1)
        · rw [show x = e by omega]; exact Nat.le_refl _
      · rename_i q
        refine ⟨i1, i2, fun x h1 h2 h3 => ?_⟩
        rcases Nat.lt_or_ge x e with y | y
        · exact i3 x h1 y h3
        · have ex : x = e := by omega
          subst ex
          rcases Nat.lt_or_ge (giS σ a b c g x) (kn σ c x) with u | u
          · exact absurd ⟨u, h3⟩ q
          · exact u
    · rename_i hce
      refine ⟨i1, i2, fun x h1 h2 h3 => i3 x h1 (by omega) h3⟩
theorem go_ok {T : Nat} {σ : Nat → Nat} (I : Iv T σ) {a b : Nat} : ∀ c, c ≤ σ 1 → tOk σ a b (goS σ a b c) ∧ ∀ y x, y < c → y < x → x < σ 1 → (cnS σ (kn σ y x) a).testBit b = true → kn σ y x ≤ goS σ a b c
  | 0, _ => ⟨⟨Nat.zero_le _, Or.inl rfl⟩, fun y x h => absurd h (by omega)⟩
  | c + 1, hc => by
    obtain ⟨i1, i2⟩ := go_ok I (a := a) (b := b) c (by omega)
    obtain ⟨j1, j2, j3⟩ := gi_ok I (c := c) (by omega) i1 (σ 1) (Nat.le_refl _)
    rw [goS]
    refine ⟨j1, fun y x h1 h2 h3 h4 => ?_⟩
    rcases Nat.lt_or_ge y c with q | q
    · exact Nat.le_trans (i2 y x q h2 h3 h4) j2
    · have e : y = c := by omega
      subst e
      exact j3 x h2 h3 h4
/-- v that is nobody's kin is as good as the next -/
theorem st_next {T : Nat} {σ : Nat → Nat} (I : Iv T σ) {v s : Nat} (hv : 1 ≤ v) (h : ∀ y x, y < x → x < σ 1 → ¬ kn σ y x = v) : stS σ v s = stS σ (v + 1) s := by
  have h8 := I.2.1
  refine sIn.eq (fun i hi => ?_) (st_anti (by omega))
  rcases (st_bit i).mp hi with q | ⟨a, h1, h2, h3, h4⟩
  · exact (st_bit i).mpr (Or.inl q)
  · refine (st_bit i).mpr (Or.inr ⟨a, h1, h2, h3, ?_⟩)
    have hd := I.2.2.2.2.2.2.2.2.2 a (by omega)
    have hs := I.2.2.2.2.2.2.2.2.1 a i (by omega) (by omega)
    have h5 : v ≤ σ (37 + 8 * a + i) := h4
    show v + 1 ≤ σ (37 + 8 * a + i)
    rcases Nat.lt_trichotomy a i with u | u | u
    · have := h a i u h2
      have h6 : ¬ σ (37 + 8 * a + i) = v := this
      omega
    · subst u; omega
    · have := h i a u h1
      have h6 : ¬ σ (37 + 8 * i + a) = v := this
      omega
theorem cn_next {T : Nat} {σ : Nat → Nat} (I : Iv T σ) {v p : Nat} (hv : 1 ≤ v) (h : ∀ y x, y < x → x < σ 1 → ¬ kn σ y x = v) : cnS σ v p = cnS σ (v + 1) p := by
  have : ∀ k, itS σ v (2 ^ p) k = itS σ (v + 1) (2 ^ p) k := by
    intro k
    induction k with
    | zero => rfl
    | succ k ih => rw [itS, itS, ih, st_next I hv h]
  exact this 8
theorem cn_top {T : Nat} {σ : Nat → Nat} (I : Iv T σ) {p b : Nat} (hp : p < σ 1) (h : p ≠ b) : ¬ (cnS σ 1000 p).testBit b = true := by
  have h8 := I.2.1
  have hf : stS σ 1000 (2 ^ p) = 2 ^ p := by
    refine sIn.eq (fun i hi => ?_) (st_up σ _ _)
    rcases (st_bit i).mp hi with q | ⟨a, h1, h2, h3, h4⟩
    · exact q
    · have := kn_le I (a := a) (b := i) (by omega) (by omega)
      have h5 : 1000 ≤ σ (37 + 8 * a + i) := h4
      omega
  unfold cnS
  rw [it_fix hf, Nat.testBit_two_pow]
  simpa using h
theorem tie_above {T : Nat} {σ : Nat → Nat} (I : Iv T σ) {a b : Nat} (ha : a < σ 1) (hab : a ≠ b) : ∀ k v, v + k = 1000 → 1 ≤ v → (cnS σ v a).testBit b = true → v ≤ tieS σ a b
  | 0, v, hk, hv, h => absurd (show (cnS σ 1000 a).testBit b = true by rw [← show v = 1000 by omega]; exact h) (cn_top I ha hab)
  | k + 1, v, hk, hv, h => by
    by_cases q : ∃ y x, y < x ∧ x < σ 1 ∧ kn σ y x = v
    · obtain ⟨y, x, h1, h2, h3⟩ := q
      have := (go_ok I (a := a) (b := b) (σ 1) (Nat.le_refl _)).2 y x (by omega) h1 h2 (by rw [h3]; exact h)
      rw [h3] at this
      exact this
    · have e := cn_next I (p := a) hv (fun y x h1 h2 h3 => q ⟨y, x, h1, h2, h3⟩)
      rw [e] at h
      have := tie_above I ha hab k (v + 1) (by omega) (by omega) h
      omega
/-- the greatest: whoever is so and above which none is -/
theorem tie_is {T : Nat} {σ : Nat → Nat} (I : Iv T σ) {a b g : Nat} (ha : a < σ 1) (hab : a ≠ b) (h1 : tOk σ a b g) (h2 : ∀ v, g < v → v ≤ 999 → ¬ (cnS σ v a).testBit b = true) : g = tieS σ a b := by
  have hg := (go_ok I (a := a) (b := b) (σ 1) (Nat.le_refl _)).1
  have hg : tOk σ a b (tieS σ a b) := hg
  rcases Nat.lt_trichotomy g (tieS σ a b) with q | q | q
  · rcases hg.2 with z | z
    · omega
    · exact absurd z (h2 _ q hg.1)
  · exact q
  · rcases h1.2 with z | z
    · omega
    · have := tie_above I ha hab (1000 - g) g (by have := h1.1; omega) (by omega) z
      omega
theorem cn_anti {σ : Nat → Nat} {v v' a b : Nat} (h : v ≤ v') (hb : (cnS σ v' a).testBit b = true) : (cnS σ v a).testBit b = true := it_anti h 8 b hb
section TI
variable {d h : Nat} {σ : Nat → Nat} {z : Int32} {w : mz_M} {T : Nat}
theorem hm_stepsBetween (hh : h = 1 ∨ h = 9 ∨ h = 17) (H : Hs h σ z w) (I : Iv T σ) {a b v : Nat} (ha : a < σ 1) (hb : b < σ 1) (hv : v ≤ 999) : mz_Call (d + 3) 23 [.ref h, .int (nI a), .int (nI b), .int (nI v)] w (some (.int (nI (stpS σ v a b)))) w := by
  have h1 := I.2.1
  have loop : ∀ m k j1, k + 1 + m = σ 1 → stpS σ v a b = ffS (fun m => (itS σ v (2 ^ a) m).testBit b) (k + 1) m → mz_Ex cd_X0_stepsBetween (mz_Call (d + 2)) (fun r1 w1 => r1 = some (.int (nI (stpS σ v a b))) ∧ w1 = w) 8 [.ref h, j1, .int (nI b), .int (nI v), .int (nI (itS σ v (2 ^ a) k)), .int (nI (k + 1))] [] w := by
    intro m
    induction m with
    | zero =>
      intro k j1 hk e
      refine sg_X0_stepsBetween_8 hh ?_
      rw [H.2.2.2.1, nI_ltI (by omega) (by omega)]
      exact ⟨fun c => absurd c (by omega), fun _ => ⟨by rw [e]; rfl, rfl⟩⟩
    | succ m ih =>
      intro k j1 hk e
      have l1 := it_lt I (v := v) ha k
      have l2 := it_lt I (v := v) ha (k + 1)
      rw [ffS] at e
      refine sg_X0_stepsBetween_8 hh ?_
      rw [H.2.2.2.1, nI_ltI (by omega) (by omega), nI_add]
      refine ⟨fun c => ⟨_, _, hm_widened hh H I l1 hv, _, _, hm_has (a0 := stS σ v (itS σ v (2 ^ a) k)) (Nat.lt_trans l2 (by decide)) (by omega), fun c1 => ?_, fun c1 => ?_⟩, fun c => absurd (show k + 1 < σ 1 by omega) c⟩
      · rw [nB_0] at c1
        have c1 : ¬ (itS σ v (2 ^ a) (k + 1)).testBit b = true := c1
        exact ih (k + 1) _ (by omega) (by rw [e, if_neg c1])
      · rw [nB_0, Classical.not_not] at c1
        have c1 : (itS σ v (2 ^ a) (k + 1)).testBit b = true := c1
        refine ⟨?_, rfl⟩
        rw [e, if_pos c1]
  refine en_X0_stepsBetween (sg_X0_stepsBetween_0 hh ?_)
  rw [nb_shl (by omega)]
  exact loop (σ 1 - 1) 0 _ (by omega) rfl
theorem hm_greatestTie (hh : h = 1 ∨ h = 9 ∨ h = 17) (H : Hs h σ z w) (I : Iv T σ) {a b : Nat} (ha : a < σ 1) (hb : b < σ 1) : mz_Call (d + 4) 26 [.ref h, .int (nI a), .int (nI b)] w (some (.int (nI (tieS σ a b)))) w := by
  have h1 := I.2.1
  have outer : ∀ k c j5 j6, c + k = σ 1 → mz_Ex cd_X0_greatestTie (mz_Call (d + 3)) (fun r1 w1 => r1 = some (.int (nI (tieS σ a b))) ∧ w1 = w) 5 [.ref h, .int (nI a), .int (nI b), .int (nI (goS σ a b c)), .int (nI c), j5, j6] [] w := by
    intro k
    induction k with
    | zero =>
      intro c j5 j6 hc
      refine sg_X0_greatestTie_5 hh ?_
      rw [H.2.2.2.1, nI_ltI (by omega) (by omega)]
      exact ⟨fun q => absurd q (by omega), fun _ => ⟨by rw [show c = σ 1 by omega]; rfl, rfl⟩⟩
    | succ k ih =>
      intro c j5 j6 hc
      have inner : ∀ m x j, x + m = σ 1 → c < x → mz_Ex cd_X0_greatestTie (mz_Call (d + 3)) (fun r1 w1 => r1 = some (.int (nI (tieS σ a b))) ∧ w1 = w) 20 [.ref h, .int (nI a), .int (nI b), .int (nI (giS σ a b c (goS σ a b c) x)), .int (nI c), .int (nI x), j] [] w := by
        intro m
        induction m with
        | zero =>
          intro x j hx hcx
          refine sg_X0_greatestTie_20 hh ?_
          rw [H.2.2.2.1, nI_ltI (by omega) (by omega)]
          refine ⟨fun q => absurd q (by omega), fun _ => ?_⟩
          have := ih (c + 1) (.int (nI x)) j (by omega)
          rw [goS] at this
          rw [nI_add, show giS σ a b c (goS σ a b c) x = giS σ a b c (goS σ a b c) (σ 1) by rw [show x = σ 1 by omega]]
          exact this
        | succ m ihm =>
          intro x j hx hcx
          have hk := kn_le I (a := c) (b := x) (by omega) (by omega)
          have hg := (gi_ok I (c := c) (by omega) (go_ok I (a := a) (b := b) c (by omega)).1 x (by omega)).1.1
          have := fun j => ihm (x + 1) j (by omega) (by omega)
          rw [giS, if_pos hcx] at this
          unfold gqS at this
          refine sg_X0_greatestTie_20 hh ?_
          rw [H.2.2.2.1, nI_ltI (by omega) (by omega), nI_add]
          refine ⟨fun q => ⟨_, _, hm_kinOf hh H (by omega) (by omega), ?_⟩, fun q => absurd (show x < σ 1 by omega) q⟩
          rw [nI_ltI (by omega) (by omega)]
          refine ⟨fun c1 => ⟨_, _, hm_clanOf hh H I ha hk, _, _, hm_has (by have := cn_lt I (v := σ (37 + 8 * c + x)) ha; omega) (by omega), fun c2 => ?_, fun c2 => ?_⟩, fun c1 => ?_⟩
          · rw [nB_0] at c2
            have t := this (.int (nI (σ (37 + 8 * c + x))))
            rw [if_neg (fun u => c2 u.2)] at t
            exact t
          · rw [nB_0, Classical.not_not] at c2
            have t := this (.int (nI (σ (37 + 8 * c + x))))
            rw [if_pos ⟨c1, c2⟩] at t
            exact t
          · have t := this (.int (nI (σ (37 + 8 * c + x))))
            rw [if_neg (fun u => c1 u.1)] at t
            exact t
      refine sg_X0_greatestTie_5 hh ?_
      rw [H.2.2.2.1, nI_ltI (by omega) (by omega), nI_add]
      refine ⟨fun q => ?_, fun q => absurd (show c < σ 1 by omega) q⟩
      have := inner (σ 1 - (c + 1)) (c + 1) j6 (by omega) (by omega)
      rw [gi_lo σ a b c _ (c + 1) (Nat.le_refl _)] at this
      exact this
  exact en_X0_greatestTie (sg_X0_greatestTie_0 hh (outer (σ 1) 0 _ _ (by omega)))
end TI
