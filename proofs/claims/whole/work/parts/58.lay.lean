/-! a sheet laid out: the class's fill and layOut, the reference's loop -/
section LY
variable {d : Nat} {w : mz_M} {T h : Nat} {σ : Nat → Nat} {z : Int32}
theorem hm_fill {k : Nat} (hk : k = 29 ∨ k = 31 ∨ k = 33 ∨ k = 35) : ∃ w', mz_Call (d + 1) 213 [.ref k, .int (nI 0)] w none w' ∧ (∀ j, j < 40 → w' k j = nI 0) ∧ Fr (fun i => i = k) w w' := by
  have loop : ∀ m i w1, i + m = 40 → (∀ j, j < i → w1 k j = nI 0) → Fr (fun i => i = k) w w1 → mz_Ex cd_J7_fill_53178 (mz_Call d) (fun r1 w2 => r1 = none ∧ ((∀ j, j < 40 → w2 k j = nI 0) ∧ Fr (fun i => i = k) w w2)) 5 [.ref k, .int (nI 0), .int (nI i), .int (nI 40)] [] w1 := by
    intro m
    induction m with
    | zero =>
      intro i w1 hi G F
      refine sg_J7_fill_53178_5 hk ?_
      rw [nI_ltI (by omega) (by omega)]
      exact ⟨fun c => absurd c (by omega), fun _ => ⟨rfl, fun j hj => G j (by omega), F⟩⟩
    | succ m ih =>
      intro i w1 hi G F
      refine sg_J7_fill_53178_5 hk ?_
      rw [nI_ltI (by omega) (by omega), nI_clamp (by omega), nI_add]
      refine ⟨fun _ => ⟨vp_in_nI (by omega) (by decide), ih (i + 1) _ (by omega) (fun j hj => ?_) (F.tr (Fr.up rfl))⟩, fun c => absurd (show i < 40 by omega) c⟩
      rw [mu_s]
      by_cases e : j = i
      · rw [e, pk_us]
      · rw [pk_un e]; exact G j (by omega)
  exact ec_J7_fill_53178 (Po := fun w' => (∀ j, j < 40 → w' k j = nI 0) ∧ Fr (fun i => i = k) w w') (sg_J7_fill_53178_0 hk (loop 40 0 w (by omega) (fun j hj => absurd hj (by omega)) Fr.rf))
theorem hm_layOut {s : Nat} (hs : s < 4) (b n : Int32) : ∃ w', mz_Call (d + 2) 30 [.ref (28 + 2 * s), .int b, .int n] w none w' ∧ w' (28 + 2 * s) 0 = b ∧ w' (28 + 2 * s) 1 = n ∧ (∀ j, j < 40 → w' (29 + 2 * s) j = nI 0) ∧ Fr (fun k => k = 28 + 2 * s ∨ k = 29 + 2 * s) w w' := by
  obtain ⟨w2, a1, a2, a3⟩ := hm_fill (d := d) (k := 28 + 2 * s + 1) (w := mz_up (mz_up w (28 + 2 * s) (upd (w (28 + 2 * s)) 0 b)) (28 + 2 * s) (upd ((mz_up w (28 + 2 * s) (upd (w (28 + 2 * s)) 0 b)) (28 + 2 * s)) 1 n)) (by omega)
  have e : w2 (28 + 2 * s) = upd (upd (w (28 + 2 * s)) 0 b) 1 n := by rw [a3 (28 + 2 * s) (by omega), mu_s, mu_s]
  refine ⟨w2, en_X1_layOut (sg_X1_layOut_0 (hk4 hs) ⟨w2, a1, rfl, rfl⟩), ?_, ?_, ?_, ?_⟩
  · rw [e, pk_un (by decide), pk_us]
  · rw [e, pk_us]
  · rw [show 29 + 2 * s = 28 + 2 * s + 1 by omega]; exact a2
  · exact Fr.tr (Fr.tr (Fr.up (Or.inl rfl)) (Fr.up (Or.inl rfl))) (a3.mono (by omega))
theorem rf_clear {s : Nat} (hs : s < 4) {g : Int32} (hg : w 48 s = g) : ∀ (m i : Nat) (j2 j3 : Value) (w1 : mz_M), i + m = 40 → (∀ j, j < i → w1 49 (40 * s + j) = nI 0) → (∀ p, ¬ (40 * s ≤ p ∧ p < 40 * s + 40) → w1 49 p = w 49 p) → Fr (fun k => k = 49) w w1 → mz_Ex cd_X4_sheet (mz_Call 10) (fun r1 w2 => ∃ u : Int32, r1 = some (.int u) ∧ (u = g ∧ (∀ j, j < 40 → w2 49 (40 * s + j) = nI 0) ∧ (∀ p, ¬ (40 * s ≤ p ∧ p < 40 * s + 40) → w2 49 p = w 49 p) ∧ Fr (fun k => k = 49) w w2)) 86 [.ref 37, .int (nI s), j2, j3, .int (nI i)] [] w1 := by
  intro m
  induction m with
  | zero =>
    intro i j2 j3 w1 hi G1 G2 F
    refine sg_X4_sheet_86 ?_
    rw [nI_ltI (by omega) (by omega), nI_clamp (n := s) (by omega), F 48 (by decide)]
    exact ⟨fun c => absurd c (by omega), fun _ => ⟨vi4s hs, _, rfl, hg, fun j hj => G1 j (by omega), G2, F⟩⟩
  | succ m ih =>
    intro i j2 j3 w1 hi G1 G2 F
    refine sg_X4_sheet_86 ?_
    rw [nI_ltI (by omega) (by omega), pk_mul, nI_add, nI_add, nI_clamp (n := 40 * s + i) (by omega)]
    refine ⟨fun _ => ⟨vp_in_nI (by omega) (by decide), ih (i + 1) _ _ _ (by omega) (fun j hj => ?_) (fun p hp => ?_) (F.tr (Fr.up rfl))⟩, fun c => absurd (show i < 40 by omega) c⟩
    · rw [mu_s]
      by_cases e : j = i
      · rw [e, pk_us]
      · rw [pk_un (by omega)]; exact G1 j (by omega)
    · rw [mu_s, pk_un (by omega)]; exact G2 p hp
end LY
