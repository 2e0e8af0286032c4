/-! sheets: whether one is there; judge -/
theorem gd4 : ∀ s, s < 4 → ([28, 30, 32, 34] : List Nat).getD s 0 = 28 + 2 * s := by decide
theorem hk4 {s : Nat} (h : s < 4) : 28 + 2 * s = 28 ∨ 28 + 2 * s = 30 ∨ 28 + 2 * s = 32 ∨ 28 + 2 * s = 34 := by omega
section SH
variable {d : Nat} {w : mz_M} {T h : Nat} {σ : Nat → Nat} {z : Int32}
theorem hm_isMissing {s : Nat} (hs : s < 4) : mz_Call (d + 1) 29 [.ref (28 + 2 * s)] w (some (.int (nB (w (28 + 2 * s) 0 = nI 0)))) w := by
  refine en_X1_isMissing (sg_X1_isMissing_0 (hk4 hs) ⟨fun c => ⟨nz_11, ?_, rfl⟩, fun c => ⟨nz_01, ?_, rfl⟩⟩)
  · rw [nB_t c]
  · rw [nB_f c]
theorem sf_b {x : Int32} (c : ¬ wn x (nI 0) (nI 3)) : mz_Call (d + 3) 100 [.ref 0, .int x] w (some (.int (-1000001 : Int32))) w :=
  en_X3_sheetFault (sg_X3_sheetFault_0 ⟨_, _, hm_isSheet _, fun _ => ⟨rfl, rfl⟩, nN c⟩)
theorem wn4 {s : Nat} (hs : s < 4) : wn (nI s) (nI 0) (nI 3) := (wn_iff (by decide) (by decide)).mpr ⟨s, Nat.zero_le _, by omega, rfl⟩
theorem vi4s {s : Nat} (hs : s < 4) : vp_in (nI s) 4 := vp_in_nI hs (by decide)
theorem sf_m {s : Nat} (hs : s < 4) (e : w (28 + 2 * s) 0 = nI 0) : mz_Call (d + 3) 100 [.ref 0, .int (nI s)] w (some (.int (-1000006 : Int32))) w := by
  refine en_X3_sheetFault (sg_X3_sheetFault_0 ⟨_, _, hm_isSheet _, nY (wn4 hs), fun _ => ⟨vi4s hs, ?_⟩⟩)
  rw [nI_clamp (by omega), gd4 s hs]
  exact sg_X3_sheetFault_16 (hk4 hs) ⟨_, _, hm_isMissing hs, nY e, fun _ => ⟨rfl, rfl⟩⟩
theorem sf_o {s : Nat} (hs : s < 4) (e : ¬ w (28 + 2 * s) 0 = nI 0) : mz_Call (d + 3) 100 [.ref 0, .int (nI s)] w (some (.int (nI 0))) w := by
  refine en_X3_sheetFault (sg_X3_sheetFault_0 ⟨_, _, hm_isSheet _, nY (wn4 hs), fun _ => ⟨vi4s hs, ?_⟩⟩)
  rw [nI_clamp (by omega), gd4 s hs]
  exact sg_X3_sheetFault_16 (hk4 hs) ⟨_, _, hm_isMissing hs, fun _ => ⟨rfl, rfl⟩, nN e⟩
theorem lk_b {x b : Int32} (c : ¬ wn x (nI 0) (nI 3)) : mz_Call (d + 3) 172 [.ref 37, .int x, .int b] w (some (.int (-1000001 : Int32))) w :=
  en_X4_lacks (sg_X4_lacks_0 ⟨_, _, mm_isSheet _, fun _ => ⟨rfl, rfl⟩, nN c⟩)
theorem lk_m {s : Nat} {b : Int32} (hs : s < 4) (e : w 47 s = nI 0) : mz_Call (d + 3) 172 [.ref 37, .int (nI s), .int b] w (some (.int (-1000006 : Int32))) w := by
  refine en_X4_lacks (sg_X4_lacks_0 ⟨_, _, mm_isSheet _, nY (wn4 hs), fun _ => ?_⟩)
  rw [nI_clamp (by omega)]
  exact ⟨vi4s hs, fun _ => ⟨rfl, rfl⟩, fun q => absurd e q⟩
theorem lk_n {s : Nat} (hs : s < 4) (e : ¬ w 47 s = nI 0) : mz_Call (d + 3) 172 [.ref 37, .int (nI s), .int (nI 0)] w (some (.int (-1000001 : Int32))) w := by
  refine en_X4_lacks (sg_X4_lacks_0 ⟨_, _, mm_isSheet _, nY (wn4 hs), fun _ => ?_⟩)
  rw [nI_clamp (by omega)]
  exact ⟨vi4s hs, fun q => absurd q e, fun _ => ⟨fun _ => ⟨rfl, rfl⟩, nS⟩⟩
theorem lk_o {s : Nat} (hs : s < 4) (e : ¬ w 47 s = nI 0) : mz_Call (d + 3) 172 [.ref 37, .int (nI s), .int (nI 1)] w (some (.int (nI 0))) w := by
  refine en_X4_lacks (sg_X4_lacks_0 ⟨_, _, mm_isSheet _, nY (wn4 hs), fun _ => ?_⟩)
  rw [nI_clamp (by omega)]
  exact ⟨vi4s hs, fun q => absurd q e, fun _ => ⟨nA n10, fun _ => ⟨rfl, rfl⟩⟩⟩
/-- what judge answers from i on, k numbers -/
def jdS (σ : Nat → Nat) (p : Nat) (f : Nat → Int32) (i : Nat) : Nat → Nat
  | 0 => 0
  | k + 1 => if i < σ 1 ∧ f i = nI (kn σ p i) then jdS σ p f (i + 1) k else 1 + i
theorem hm_judge (H : Hs 1 σ z w) (I : Iv T σ) {s p n g : Nat} (hs : s < 4) (hp : p < σ 1) (hn : n ≤ 40) (en : w (28 + 2 * s) 1 = nI n) : ∀ (k i : Nat) (j3 : Value), i + k = n → g = jdS σ p (w (29 + 2 * s)) i k → mz_Ex cd_X3_judge (mz_Call 10) (fun r1 w1 => r1 = some (.int (nI g)) ∧ w1 = w) 34 [.ref 0, .int (nI s), .int (nI p), j3, .int (nI i)] [] w := by
  have h8 := I.2.1
  intro k
  induction k with
  | zero =>
    intro i j3 hi e
    refine sg_X3_judge_34 ?_
    rw [nI_clamp (n := s) (by omega), gd4 s hs]
    refine ⟨vi4s hs, sg_X3_judge_42 (hk4 hs) ?_⟩
    rw [en, nI_ltI (by omega) (by omega)]
    exact ⟨fun c => absurd c (by omega), fun _ => ⟨by rw [e]; rfl, rfl⟩⟩
  | succ k ih =>
    intro i j3 hi e
    rw [jdS] at e
    refine sg_X3_judge_34 ?_
    rw [nI_clamp (n := s) (by omega), gd4 s hs]
    refine ⟨vi4s hs, sg_X3_judge_42 (hk4 hs) ?_⟩
    rw [en, nI_ltI (by omega) (by omega), nI_clamp (n := s) (by omega), gd4 s hs, nI_add]
    refine ⟨fun _ => ⟨_, _, hm_isThere H _, fun c => ?_, fun c => ⟨vi4s hs, sg_X3_judge_63 (hk4 hs) ?_⟩⟩, fun c => absurd (show i < n by omega) c⟩
    · rw [nB_0, isP_iff h8] at c
      rw [if_neg (fun q => c ⟨i, q.1, rfl⟩)] at e
      rw [e]
      exact ⟨rfl, rfl⟩
    · rw [nB_0, Classical.not_not, isP_iff h8] at c
      obtain ⟨i', c1, c2⟩ := c
      have c3 : i = i' := (nI_eq (by omega) (by omega)).mp c2
      rw [nI_clamp (n := i) (by omega), nI_add, nI_add, show 28 + 2 * s + 1 = 29 + 2 * s by omega]
      refine ⟨vp_in_nI (by omega) (by decide), _, _, hm_kinOf (Or.inl rfl) H (by omega) (by omega), fun c4 => ?_, fun c4 => ?_⟩
      · rw [if_pos ⟨by omega, c4⟩] at e
        exact ih (i + 1) _ (by omega) e
      · rw [if_neg (fun q => c4 q.2)] at e
        rw [e]
        exact ⟨rfl, rfl⟩
theorem rf_judge (M : Ms 38 σ z w) (I : Iv T σ) {s p n g : Nat} (hs : s < 4) (hp : p < σ 1) (hn : n ≤ 40) (en : w 48 s = nI n) {f : Nat → Int32} (ef : ∀ j, j < 40 → f j = w 49 (40 * s + j)) : ∀ (k i : Nat) (j3 : Value), i + k = n → g = jdS σ p f i k → mz_Ex cd_X4_judge (mz_Call 10) (fun r1 w1 => r1 = some (.int (nI g)) ∧ w1 = w) 24 [.ref 37, .int (nI s), .int (nI p), j3, .int (nI i)] [] w := by
  have h8 := I.2.1
  intro k
  induction k with
  | zero =>
    intro i j3 hi e
    refine sg_X4_judge_24 ?_
    rw [nI_clamp (n := s) (by omega), en, nI_ltI (by omega) (by omega), nI_eq (by omega) (by omega)]
    exact ⟨vi4s hs, fun c => absurd c (by omega), fun _ => ⟨vi4s hs, fun _ => ⟨by rw [e]; rfl, rfl⟩, fun c => absurd (show i = n by omega) c⟩⟩
  | succ k ih =>
    intro i j3 hi e
    rw [jdS] at e
    refine sg_X4_judge_24 ?_
    rw [nI_clamp (n := s) (by omega), en, nI_ltI (by omega) (by omega), nI_eq (by omega) (by omega), nI_add, nI_add]
    refine ⟨vi4s hs, fun _ => ⟨_, _, mm_isPerson M _, fun c => ⟨vi4s hs, ?_⟩, fun c => ?_⟩, fun c => absurd (show i < n by omega) c⟩
    · rw [nB_0, isP_iff h8] at c
      rw [if_neg (fun q => c ⟨i, q.1, rfl⟩)] at e
      rw [e, en, nI_eq (by omega) (by omega)]
      exact ⟨fun c => absurd c (by omega), fun _ => ⟨rfl, rfl⟩⟩
    · rw [nB_0, Classical.not_not, isP_iff h8] at c
      obtain ⟨i', c1, c2⟩ := c
      have c3 : i = i' := (nI_eq (by omega) (by omega)).mp c2
      rw [pk_mul, nI_add, nI_clamp (n := 40 * s + i) (by omega), ← ef i (by omega)]
      refine ⟨vp_in_nI (by omega) (by decide), _, _, mm_kinOf M (by omega) (by omega), fun c4 => ?_, fun c4 => ?_⟩
      · rw [if_pos ⟨by omega, c4⟩] at e
        exact ih (i + 1) _ (by omega) e
      · rw [if_neg (fun q => c4 q.2)] at e
        rw [e, en, nI_eq (by omega) (by omega)]
        exact ⟨vi4s hs, fun c => absurd c (by omega), fun _ => ⟨rfl, rfl⟩⟩
theorem fq0 : ¬ (-1000001 : Int32) = nI 0 := by decide
theorem fq5 : ¬ (-1000006 : Int32) = nI 0 := by decide
theorem bo_judge (R : Rel T w) (x y : Int32) : Both T T 85 206 [.int x, .int y] w := by
  obtain ⟨σ, z, H, M, I, R⟩ := R
  have h8 := I.2.1
  by_cases c : wn x (nI 0) (nI 3)
  · obtain ⟨s, -, hs, rfl⟩ := (wn_iff (by decide) (by decide)).mp c
    obtain ⟨s1, s2, ⟨n, hn, s3⟩, s4, s5⟩ := R.2.2.2 s (by omega)
    by_cases q : w 47 s = nI 0
    · refine Both.f0F (z7 5) H M I R (en_X3_judge (sg_X3_judge_0 ⟨_, _, sf_m (by omega) (by rw [s1]; exact q), nA fq5, fun _ => ⟨_, _, hf5, rfl, rfl⟩⟩)) (fun w1 M1 F1 => en_X4_judge (sg_X4_judge_0 ⟨_, _, mm_isPerson M1 _, _, _, lk_m (by omega) (by rw [F1 47 (by omega) (by decide)]; exact q), nA fq5, fun _ => ⟨_, _, mf5, rfl, rfl⟩⟩))
    · by_cases c2 : isP (σ 1) y
      · obtain ⟨p, hp, rfl⟩ := (isP_iff h8).mp c2
        refine Both.rd (r := nI (jdS σ p (w (29 + 2 * s)) 0 n)) H M I R (en_X3_judge (sg_X3_judge_0 ⟨_, _, sf_o (by omega) (by rw [s1]; exact q), fun _ => ⟨_, _, hm_isThere H _, nY c2, fun _ => hm_judge H I (by omega) hp hn (by rw [s2]; exact s3) n 0 _ (by omega) rfl⟩, nS⟩)) (en_X4_judge (sg_X4_judge_0 ⟨_, _, mm_isPerson M _, _, _, by rw [nB_t c2]; exact lk_o (by omega) q, fun _ => rf_judge M I (by omega) hp hn s3 s5 n 0 _ (by omega) rfl, nS⟩))
      · refine Both.f0F (z7 0) H M I R (en_X3_judge (sg_X3_judge_0 ⟨_, _, sf_o (by omega) (by rw [s1]; exact q), fun _ => ⟨_, _, hm_isThere H _, fun _ => ⟨_, _, hf0, rfl, rfl⟩, nN c2⟩, nS⟩)) (fun w1 M1 F1 => en_X4_judge (sg_X4_judge_0 ⟨_, _, mm_isPerson M1 _, _, _, by rw [nB_f c2]; exact lk_n (by omega) (by rw [F1 47 (by omega) (by decide)]; exact q), nA fq0, fun _ => ⟨_, _, mf0, rfl, rfl⟩⟩))
  · exact Both.f0 (z7 0) H M I R (en_X3_judge (sg_X3_judge_0 ⟨_, _, sf_b c, nA fq0, fun _ => ⟨_, _, hf0, rfl, rfl⟩⟩)) (fun w1 M1 => en_X4_judge (sg_X4_judge_0 ⟨_, _, mm_isPerson M1 _, _, _, lk_b c, nA fq0, fun _ => ⟨_, _, mf0, rfl, rfl⟩⟩))
end SH
