/-! load -/
def vN (y : Int32) : Nat := y.toBitVec.toNat
theorem vN_is (y : Int32) : y = nI (vN y) := nI_self y
theorem vN_le {y : Int32} (h : wn y (nI 0) (nI 255)) : vN y < 256 := by
  obtain ⟨k, -, hk, e⟩ := (wn_iff (by decide) (by decide)).mp h
  have e2 : vN y = k := by
    rw [e]
    show (BitVec.ofNat 32 k).toNat = k
    rw [BitVec.toNat_ofNat, Nat.mod_eq_of_lt (by omega)]
  omega
/-- how many come, from i on -/
def lcS (f : Nat → Int32) (n i : Nat) : Nat → Nat
  | 0 => i
  | k + 1 => if i < n ∧ wn (f i) (nI 0) (nI 255) then lcS f n (i + 1) k else i
def ldR (σ : Nat → Nat) (f : Nat → Int32) : Nat → Nat → Nat
  | 0 => σ
  | i + 1 => su (ldR σ f i) (15 + i) (vN (f i))
section LO
variable {d : Nat} {w : mz_M} {T h : Nat} {σ : Nat → Nat} {z : Int32}
abbrev L2 (k : Nat) : Prop := k = 2
abbrev L38 (k : Nat) : Prop := k = 38
theorem hm_load {s n g : Nat} {f : Nat → Int32} (hs : s < 4) (hn : n ≤ 40) (en : w (28 + 2 * s) 1 = nI n) (ef : w (29 + 2 * s) = f) : ∀ (k i : Nat) (j2 : Value) (w1 : mz_M), i + k = 6 → Iv T (ldR σ f i) → Hs 1 (ldR σ f i) z w1 → Fr L2 w w1 → g = lcS f n i k → mz_Ex cd_X3_load (mz_Call 10) (fun r1 w2 => ∃ u : Int32, r1 = some (.int u) ∧ (u = nI g ∧ Iv T (ldR σ f g) ∧ Hs 1 (ldR σ f g) z w2 ∧ Fr L2 w w2)) 18 [.ref 0, .int (nI s), j2, .int (nI i)] [] w1 := by
  intro k
  induction k with
  | zero =>
    intro i j2 w1 hi J G F e
    refine sg_X3_load_18 ?_
    rw [nI_ltI (by omega) (by omega)]
    have e : g = i := e
    exact ⟨fun c => absurd c (by omega), fun _ => ⟨_, rfl, by rw [e], by rw [e]; exact J, by rw [e]; exact G, F⟩⟩
  | succ k ih =>
    intro i j2 w1 hi J G F e
    rw [lcS] at e
    have e1 : w1 (28 + 2 * s) = w (28 + 2 * s) := F _ (by omega)
    have e2 : w1 (28 + 2 * s + 1) = f := by rw [show 28 + 2 * s + 1 = 29 + 2 * s by omega, F _ (by omega), ef]
    refine sg_X3_load_18 ?_
    rw [nI_ltI (by omega) (by omega), nI_clamp (n := s) (by omega), gd4 s hs]
    refine ⟨fun _ => ⟨vi4s hs, sg_X3_load_31 (hk4 hs) ?_⟩, fun c => absurd (show i < 6 by omega) c⟩
    rw [e1, en, nI_ltI (by omega) (by omega), nI_clamp (n := s) (by omega), gd4 s hs]
    refine ⟨fun c1 => ⟨vi4s hs, sg_X3_load_43 (hk4 hs) ?_⟩, fun c1 => ?_⟩
    · rw [nI_clamp (n := i) (by omega), nI_clamp (n := s) (by omega), gd4 s hs, e2]
      refine ⟨vp_in_nI (by omega) (by decide), _, _, hm_within _ _ _, fun c2 => ?_, fun c2 => ⟨vi4s hs, sg_X3_load_72 (hk4 hs) ?_⟩⟩
      · rw [nB_0] at c2
        rw [if_neg (fun q => c2 q.2)] at e
        exact ⟨_, rfl, by rw [e], by rw [e]; exact J, by rw [e]; exact G, F⟩
      · rw [nB_0, Classical.not_not] at c2
        rw [if_pos ⟨c1, c2⟩] at e
        rw [nI_clamp (n := i) (by omega), e2, nI_add]
        refine ⟨vp_in_nI (by omega) (by decide), vp_in_nI (by omega) (by decide), ih (i + 1) _ _ (by omega) (J.put (k := 15 + i) (v := vN (f i)) (by have := vN_le c2; omega)) ?_ (F.tr (Fr.up rfl)) e⟩
        have q := G.list (i := i) (by omega) (vN (f i))
        rw [← vN_is] at q
        exact q
    · rw [if_neg (fun q => c1 q.1)] at e
      exact ⟨_, rfl, by rw [e], by rw [e]; exact J, by rw [e]; exact G, F⟩
theorem rf_load {s n g : Nat} {f : Nat → Int32} (hs : s < 4) (hn : n ≤ 40) (en : w 48 s = nI n) (ef : ∀ j, j < 40 → f j = w 49 (40 * s + j)) : ∀ (k i : Nat) (w1 : mz_M), i + k = 6 → Ms 38 (ldR σ f i) z w1 → Fr L38 w w1 → g = lcS f n i k → mz_Ex cd_X4_load (mz_Call 10) (fun r1 w2 => ∃ u : Int32, r1 = some (.int u) ∧ (u = nI g ∧ Ms 38 (ldR σ f g) z w2 ∧ Fr L38 w w2)) 22 [.ref 37, .int (nI s), .int (nI i)] [] w1 := by
  intro k
  induction k with
  | zero =>
    intro i w1 hi G F e
    have e : g = i := e
    have e1 : w1 48 = w 48 := F _ (by omega)
    refine sg_X4_load_22 ?_
    rw [nI_clamp (n := s) (by omega), e1, en, nI_ltI (by omega) (by omega)]
    refine ⟨vi4s hs, fun _ => ⟨_, _, mm_isPlace _, fun _ => ⟨_, rfl, by rw [e], by rw [e]; exact G, F⟩, nN (fun q => ?_)⟩, fun _ => ⟨_, rfl, by rw [e], by rw [e]; exact G, F⟩⟩
    obtain ⟨i', -, q1, q2⟩ := (wn_iff (by decide) (by decide)).mp q
    have := (nI_eq (by omega) (by omega)).mp q2
    omega
  | succ k ih =>
    intro i w1 hi G F e
    rw [lcS] at e
    have e1 : w1 48 = w 48 := F _ (by omega)
    have e2 : w1 49 = w 49 := F _ (by omega)
    refine sg_X4_load_22 ?_
    rw [nI_clamp (n := s) (by omega), e1, en, nI_ltI (by omega) (by omega), pk_mul, nI_add, nI_add, nI_add, nI_clamp (n := 40 * s + i) (by omega), nI_clamp (n := 15 + i) (by omega)]
    refine ⟨vi4s hs, fun c1 => ⟨_, _, mm_isPlace _, nY ((wn_iff (by decide) (by decide)).mpr ⟨i, Nat.zero_le _, by omega, rfl⟩), fun _ => ⟨vp_in_nI (by omega) (by decide), ?_⟩⟩, fun c1 => ?_⟩
    · rw [e2, ← ef i (by omega)]
      refine ⟨_, _, mm_isSet _, fun c2 => ?_, fun c2 => ⟨vp_in_nI (by omega) (by decide), vp_in_nI (by omega) (by decide), ?_⟩⟩
      · rw [nB_0] at c2
        rw [if_neg (fun q => c2 q.2)] at e
        exact ⟨_, rfl, by rw [e], by rw [e]; exact G, F⟩
      · rw [nB_0, Classical.not_not] at c2
        rw [if_pos ⟨c1, c2⟩] at e
        rw [e2, ← ef i (by omega)]
        refine ih (i + 1) _ (by omega) ?_ (F.tr (Fr.up rfl)) e
        have q := G.set (j := 15 + i) (v := vN (f i)) (by omega)
        rw [← vN_is] at q
        exact q
    · rw [if_neg (fun q => c1 q.1)] at e
      exact ⟨_, rfl, by rw [e], by rw [e]; exact G, F⟩
theorem bo_load (R : Rel T w) (x : Int32) : Both T T 84 205 [.int x] w := by
  obtain ⟨σ, z, H, M, I, R⟩ := R
  by_cases c : wn x (nI 0) (nI 3)
  · obtain ⟨s, -, hs, rfl⟩ := (wn_iff (by decide) (by decide)).mp c
    obtain ⟨s1, s2, ⟨n, hn, s3⟩, s4, s5⟩ := R.2.2.2 s (by omega)
    by_cases q : w 47 s = nI 0
    · exact Both.f0F (z7 5) H M I R (en_X3_load (sg_X3_load_0 ⟨_, _, sf_m (by omega) (by rw [s1]; exact q), nA fq5, fun _ => ⟨_, _, hf5, rfl, rfl⟩⟩)) (fun w1 M1 F1 => en_X4_load (sg_X4_load_0 ⟨_, _, lk_m (by omega) (by rw [F1 47 (by omega) (by decide)]; exact q), nA fq5, fun _ => ⟨_, _, lk_m (by omega) (by rw [F1 47 (by omega) (by decide)]; exact q), _, _, mf5, rfl, rfl⟩⟩))
    · obtain ⟨u, w1, a1, rfl, a2, a3, a4⟩ := ec_X3_load (w := w) (Po := fun u w2 => u = nI (lcS (w (29 + 2 * s)) n 0 6) ∧ Iv T (ldR σ (w (29 + 2 * s)) (lcS (w (29 + 2 * s)) n 0 6)) ∧ Hs 1 (ldR σ (w (29 + 2 * s)) (lcS (w (29 + 2 * s)) n 0 6)) z w2 ∧ Fr L2 w w2) (sg_X3_load_0 ⟨_, _, sf_o (d := 7) (w := w) (s := s) (by omega) (by rw [s1]; exact q), fun _ => hm_load (by omega) hn (by rw [s2]; exact s3) rfl 6 0 _ w (by omega) I H Fr.rf rfl, nS⟩)
      refine Both.okF (r := nI (lcS (w (29 + 2 * s)) n 0 6)) (σ' := ldR σ (w (29 + 2 * s)) (lcS (w (29 + 2 * s)) n 0 6)) (z' := z) M R (Nat.le_refl _) a2 ⟨w1, a1, a3, a4.mono (by omega)⟩ (fun w2 M2 _ F2 => ?_)
      obtain ⟨u, w3, b1, rfl, b2, b3⟩ := ec_X4_load (w := w2) (Po := fun u w3 => u = nI (lcS (w (29 + 2 * s)) n 0 6) ∧ Ms 38 (ldR σ (w (29 + 2 * s)) (lcS (w (29 + 2 * s)) n 0 6)) z w3 ∧ Fr L38 w2 w3) (sg_X4_load_0 ⟨_, _, lk_o (d := 7) (w := w2) (s := s) (by omega) (by rw [F2 47 (by omega)]; exact q), fun _ => rf_load (by omega) hn (by rw [F2 48 (by omega)]; exact s3) (fun j hj => by rw [F2 49 (by omega)]; exact s5 j hj) 6 0 w2 (by omega) M2 Fr.rf rfl, nS⟩)
      exact ⟨w3, b1, b2, b3.mono (by omega)⟩
  · exact Both.f0 (z7 0) H M I R (en_X3_load (sg_X3_load_0 ⟨_, _, sf_b c, nA fq0, fun _ => ⟨_, _, hf0, rfl, rfl⟩⟩)) (fun w1 M1 => en_X4_load (sg_X4_load_0 ⟨_, _, lk_b c, nA fq0, fun _ => ⟨_, _, lk_b c, _, _, mf0, rfl, rfl⟩⟩))
end LO
