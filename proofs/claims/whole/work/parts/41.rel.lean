/-! the checks of arguments, findings, and the relation of the two sides -/
/-- lo to hi -/
abbrev wn (x lo hi : Int32) : Prop := ¬ x < lo ∧ ¬ hi < x
theorem wn_iff {x : Int32} {lo hi : Nat} (hl : lo < 2 ^ 31) (hh : hi < 2 ^ 31) : wn x (nI lo) (nI hi) ↔ ∃ k, lo ≤ k ∧ k ≤ hi ∧ x = nI k := by
  constructor
  · rintro ⟨h1, h2⟩
    rw [Int32.lt_iff_toInt_lt, nI_toInt hl] at h1
    rw [Int32.lt_iff_toInt_lt, nI_toInt hh] at h2
    refine ⟨x.toInt.toNat, by omega, by omega, ?_⟩
    apply Int32.toInt_inj.mp
    rw [nI_toInt (by omega)]
    omega
  · rintro ⟨k, h1, h2, rfl⟩
    show ¬ nI k < nI lo ∧ ¬ nI hi < nI k
    rw [nI_ltI (by omega) (by omega), nI_ltI (by omega) (by omega)]
    omega
/-- one of n people -/
abbrev isP (n : Nat) (x : Int32) : Prop := wn x (nI 0) (nI n - nI 1)
theorem isP_iff {x : Int32} {n : Nat} (h8 : n ≤ 8) : isP n x ↔ ∃ k, k < n ∧ x = nI k := by
  unfold isP
  rcases Nat.eq_zero_or_pos n with q | q
  · subst q
    constructor
    · rintro ⟨h1, h2⟩
      rw [Int32.lt_iff_toInt_lt] at h1 h2
      have e1 : (nI 0).toInt = 0 := by decide
      have e2 : (nI 0 - nI 1).toInt = -1 := by decide
      rw [e1] at h1
      rw [e2] at h2
      omega
    · rintro ⟨k, h1, -⟩
      omega
  · rw [pk_sub q, wn_iff (by decide) (by omega)]
    constructor
    · rintro ⟨k, h1, h2, h3⟩
      exact ⟨k, by omega, h3⟩
    · rintro ⟨k, h1, h2⟩
      exact ⟨k, by omega, by omega, h2⟩
abbrev is2 (n : Nat) (x y : Int32) : Prop := isP n x ∧ isP n y ∧ ¬ x = y
theorem is2_iff {x y : Int32} {n : Nat} (h8 : n ≤ 8) : is2 n x y ↔ ∃ a b, a < n ∧ b < n ∧ a ≠ b ∧ x = nI a ∧ y = nI b := by
  unfold is2
  rw [isP_iff h8, isP_iff h8]
  constructor
  · rintro ⟨⟨a, h1, h2⟩, ⟨b, h3, h4⟩, h5⟩
    exact ⟨a, b, h1, h3, fun e => h5 (by rw [h2, h4, e]), h2, h4⟩
  · rintro ⟨a, b, h1, h2, h3, h4, h5⟩
    exact ⟨⟨a, h1, h4⟩, ⟨b, h2, h5⟩, fun e => h3 ((nI_eq (by omega) (by omega)).mp (by rw [← h4, ← h5, e]))⟩
section CK
variable {d : Nat} {σ : Nat → Nat} {z : Int32} {w : mz_M} {T : Nat} {x y : Int32}
theorem hm_within (x lo hi : Int32) : mz_Call (d + 1) 92 [.int x, .int lo, .int hi] w (some (.int (nB (wn x lo hi)))) w := by
  refine en_X3_within (sg_X3_within_0 ⟨fun c => ⟨nz_01, ?_, rfl⟩, fun c => ⟨fun c2 => ⟨nz_01, ?_, rfl⟩, fun c2 => ⟨nz_11, ?_, rfl⟩⟩⟩)
  · rw [nB_f (fun q => q.1 c)]
  · rw [nB_f (fun q => q.2 c2)]
  · rw [nB_t ⟨c, c2⟩]
theorem mm_within (x lo hi : Int32) : mz_Call (d + 1) 108 [.int x, .int lo, .int hi] w (some (.int (nB (wn x lo hi)))) w := by
  refine en_X4_within (sg_X4_within_0 ⟨fun c => ⟨nz_01, ?_, rfl⟩, fun c => ⟨fun c2 => ⟨nz_01, ?_, rfl⟩, fun c2 => ⟨nz_11, ?_, rfl⟩⟩⟩)
  · rw [nB_f (fun q => q.1 c)]
  · rw [nB_f (fun q => q.2 c2)]
  · rw [nB_t ⟨c, c2⟩]
theorem hm_isKind (x : Int32) : mz_Call (d + 2) 93 [.int x] w (some (.int (nB (wn x (nI 0) (nI 6))))) w := en_X3_isKind (sg_X3_isKind_0 ⟨_, _, hm_within _ _ _, nB_z _, rfl, rfl⟩)
theorem hm_isKin (x : Int32) : mz_Call (d + 2) 94 [.int x] w (some (.int (nB (wn x (nI 0) (nI 999))))) w := en_X3_isKin (sg_X3_isKin_0 ⟨_, _, hm_within _ _ _, nB_z _, rfl, rfl⟩)
theorem hm_isNearness (x : Int32) : mz_Call (d + 2) 95 [.int x] w (some (.int (nB (wn x (nI 1) (nI 999))))) w := en_X3_isNearness (sg_X3_isNearness_0 ⟨_, _, hm_within _ _ _, nB_z _, rfl, rfl⟩)
theorem hm_isSheet (x : Int32) : mz_Call (d + 2) 96 [.int x] w (some (.int (nB (wn x (nI 0) (nI 3))))) w := en_X3_isSheet (sg_X3_isSheet_0 ⟨_, _, hm_within _ _ _, nB_z _, rfl, rfl⟩)
theorem mm_isPlace (x : Int32) : mz_Call (d + 2) 116 [.int x] w (some (.int (nB (wn x (nI 0) (nI 5))))) w := en_X4_isPlace (sg_X4_isPlace_0 ⟨_, _, mm_within _ _ _, nB_z _, rfl, rfl⟩)
theorem mm_isSet (x : Int32) : mz_Call (d + 2) 117 [.int x] w (some (.int (nB (wn x (nI 0) (nI 255))))) w := en_X4_isSet (sg_X4_isSet_0 ⟨_, _, mm_within _ _ _, nB_z _, rfl, rfl⟩)
theorem mm_isKind (x : Int32) : mz_Call (d + 2) 122 [.int x] w (some (.int (nB (wn x (nI 0) (nI 6))))) w := en_X4_isKind (sg_X4_isKind_0 ⟨_, _, mm_within _ _ _, nB_z _, rfl, rfl⟩)
theorem mm_isKin (x : Int32) : mz_Call (d + 2) 123 [.int x] w (some (.int (nB (wn x (nI 0) (nI 999))))) w := en_X4_isKin (sg_X4_isKin_0 ⟨_, _, mm_within _ _ _, nB_z _, rfl, rfl⟩)
theorem mm_isNear (x : Int32) : mz_Call (d + 2) 124 [.int x] w (some (.int (nB (wn x (nI 1) (nI 999))))) w := en_X4_isNear (sg_X4_isNear_0 ⟨_, _, mm_within _ _ _, nB_z _, rfl, rfl⟩)
theorem mm_isThought (x : Int32) : mz_Call (d + 2) 165 [.int x] w (some (.int (nB (wn x (nI 0) (nI 40))))) w := en_X4_isThought (sg_X4_isThought_0 ⟨_, _, mm_within _ _ _, nB_z _, rfl, rfl⟩)
theorem mm_isSpot (x : Int32) : mz_Call (d + 2) 195 [.int x] w (some (.int (nB (wn x (nI 0) (nI 9))))) w := en_X4_isSpot (sg_X4_isSpot_0 ⟨_, _, mm_within _ _ _, nB_z _, rfl, rfl⟩)
theorem mm_isSheet (x : Int32) : mz_Call (d + 2) 198 [.int x] w (some (.int (nB (wn x (nI 0) (nI 3))))) w := en_X4_isSheet (sg_X4_isSheet_0 ⟨_, _, mm_within _ _ _, nB_z _, rfl, rfl⟩)
theorem hm_isThere (H : Hs 1 σ z w) (x : Int32) : mz_Call (d + 2) 97 [.ref 0, .int x] w (some (.int (nB (isP (σ 1) x)))) w := by
  refine en_X3_isThere (sg_X3_isThere_0 ?_)
  rw [H.2.2.2.1]
  exact ⟨_, _, hm_within _ _ _, nB_z _, rfl, rfl⟩
theorem mm_isPerson (M : Ms 38 σ z w) (x : Int32) : mz_Call (d + 2) 120 [.ref 37, .int x] w (some (.int (nB (isP (σ 1) x)))) w := by
  refine en_X4_isPerson (sg_X4_isPerson_0 ?_)
  rw [nc1, M.2.1]
  exact ⟨vi1, _, _, mm_within _ _ _, nB_z _, rfl, rfl⟩
theorem hm_areTwo (H : Hs 1 σ z w) (x y : Int32) : mz_Call (d + 3) 98 [.ref 0, .int x, .int y] w (some (.int (nB (is2 (σ 1) x y)))) w := by
  refine en_X3_areTwo (sg_X3_areTwo_0 ⟨_, _, hm_isThere H x, fun c => ⟨nz_01, ?_, rfl⟩, fun c => ⟨_, _, hm_isThere H y, fun c2 => ⟨nz_01, ?_, rfl⟩, fun c2 => ⟨fun c3 => ⟨nz_01, ?_, rfl⟩, fun c3 => ⟨nz_11, ?_, rfl⟩⟩⟩⟩)
  · rw [nB_0] at c; rw [nB_f (fun q => c q.1)]
  · rw [nB_0] at c2; rw [nB_f (fun q => c2 q.2.1)]
  · rw [nB_f (fun q => q.2.2 c3)]
  · rw [nB_0, Classical.not_not] at c c2; rw [nB_t ⟨c, c2, c3⟩]
theorem mm_areTwo (M : Ms 38 σ z w) (x y : Int32) : mz_Call (d + 3) 121 [.ref 37, .int x, .int y] w (some (.int (nB (is2 (σ 1) x y)))) w := by
  refine en_X4_areTwo (sg_X4_areTwo_0 ⟨_, _, mm_isPerson M x, fun c => ⟨nz_01, ?_, rfl⟩, fun c => ⟨_, _, mm_isPerson M y, fun c2 => ⟨nz_01, ?_, rfl⟩, fun c2 => ⟨fun c3 => ⟨nz_01, ?_, rfl⟩, fun c3 => ⟨nz_11, ?_, rfl⟩⟩⟩⟩)
  · rw [nB_0] at c; rw [nB_f (fun q => c q.1)]
  · rw [nB_0] at c2; rw [nB_f (fun q => c2 q.2.1)]
  · rw [nB_f (fun q => q.2.2 c3)]
  · rw [nB_0, Classical.not_not] at c c2; rw [nB_t ⟨c, c2, c3⟩]
/-- the findings: number i -/
def fnd (i : Nat) : Int32 := (-1000001 : Int32) - nI i
theorem fnd_i : ∀ i, i < 7 → (-1000001 : Int32) - fnd i = nI i ∧ (-1000001 : Int32) - fnd i + nI 1 = nI (i + 1) := by decide
theorem fnd_0 : (-1000001 : Int32) = fnd 0 := by decide
theorem fnd_1 : (-1000002 : Int32) = fnd 1 := by decide
theorem fnd_2 : (-1000003 : Int32) = fnd 2 := by decide
theorem fnd_3 : (-1000004 : Int32) = fnd 3 := by decide
theorem fnd_4 : (-1000005 : Int32) = fnd 4 := by decide
theorem fnd_5 : (-1000006 : Int32) = fnd 5 := by decide
theorem fnd_6 : (-1000007 : Int32) = fnd 6 := by decide
/-- memory behind a finding: the class's, the reference's -/
def cfW (i : Nat) (w : mz_M) : mz_M := mz_up w 36 (upd (w 36) i (w 36 i + nI 1))
def mfW (i : Nat) (w : mz_M) : mz_M := mz_up w 41 (upd (upd (w 41) (i + 1) (w 41 (i + 1) + nI 1)) 0 (w 41 0 + nI 1))
theorem hm_finding {i : Nat} (hi : i < 7) : mz_Call (d + 2) 91 [.ref 0, .int (fnd i)] w (some (.int (fnd i))) (cfW i w) := by
  refine en_X3_finding (sg_X3_finding_0 ?_)
  rw [(fnd_i i hi).1]
  have hin : vp_in (nI i) 7 := vp_in_nI hi (by decide)
  refine ⟨_, _, hm_within _ _ _, fun c => ?_, fun _ => ⟨hin, hin, rfl, ?_⟩⟩
  · rw [nB_0, wn_iff (by decide) (by decide)] at c
    exact absurd ⟨i, Nat.zero_le _, by omega, rfl⟩ c
  · rw [nI_clamp (by omega)]
    rfl
theorem mm_finding {i : Nat} (hi : i < 7) : mz_Call (d + 1) 107 [.ref 37, .int (fnd i)] w (some (.int (fnd i))) (mfW i w) := by
  refine en_X4_finding (sg_X4_finding_0 ?_)
  dsimp only
  rw [(fnd_i i hi).2, nI_clamp (n := i + 1) (by omega), nc0]
  have hin : vp_in (nI (i + 1)) 8 := vp_in_nI (by omega) (by decide)
  have h0 : vp_in (nI 0) 8 := vp_in_nI (by decide) (by decide)
  refine ⟨hin, hin, h0, h0, rfl, ?_⟩
  unfold mfW
  funext k
  by_cases e : k = 41
  · subst e
    rw [mu_s, mu_s, mu_s, pk_un (show 0 ≠ i + 1 by omega)]
  · rw [mu_n e, mu_n e, mu_n e]
end CK
/-- the image of both sides -/
def PicR (T : Nat) (w : mz_M) : Prop := (w 0 3 = nI 0 ∧ w 37 3 = nI 0) ∨ (w 0 3 = nI 1 ∧ w 37 3 = nI 1 ∧ ∃ σ z, Hs 17 σ z w ∧ Ms 39 σ z w ∧ Iv T σ)
def FndR (w : mz_M) : Prop := (∀ k, k < 7 → w 36 k = w 41 (k + 1)) ∧ w 41 0 = w 41 1 + w 41 2 + w 41 3 + w 41 4 + w 41 5 + w 41 6 + w 41 7
def TapR (w : mz_M) : Prop := ∃ n, n ≤ 120 ∧ w 25 1 = nI n ∧ w 37 10 = nI n ∧ ∀ j, j < n → ∃ b, b < 256 ∧ w 26 j = nI b ∧ w 44 j = nI b
def ShtR (w : mz_M) : Prop := ∀ s, s < 4 → w (28 + 2 * s) 0 = w 47 s ∧ w (28 + 2 * s) 1 = w 48 s ∧ (∃ n, n ≤ 40 ∧ w 48 s = nI n) ∧ (w 47 s = nI 0 ∨ w 47 s = nI 8 ∨ w 47 s = nI 16 ∨ w 47 s = nI 32) ∧ ∀ j, j < 40 → w (29 + 2 * s) j = w 49 (40 * s + j)
/-- what both sides hold beside the row that is so -/
def RstR (T : Nat) (w : mz_M) : Prop := PicR T w ∧ FndR w ∧ TapR w ∧ ShtR w
def Rel (T : Nat) (w : mz_M) : Prop := ∃ σ z, Hs 1 σ z w ∧ Ms 38 σ z w ∧ Iv T σ ∧ RstR T w
/-- places of which the rest speaks -/
abbrev RsP (k : Nat) : Prop := k = 0 ∨ (17 ≤ k ∧ k < 23) ∨ (25 ≤ k ∧ k < 37) ∨ k = 39 ∨ k = 41 ∨ k = 44 ∨ k = 47 ∨ k = 48 ∨ k = 49
theorem RstR.fr {T : Nat} {w w' : mz_M} (h : RstR T w) (e : ∀ k, RsP k → w' k = w k) (e3 : w' 37 3 = w 37 3) (e10 : w' 37 10 = w 37 10) : RstR T w' := by
  obtain ⟨h1, h2, h3, h4⟩ := h
  refine ⟨?_, ?_, ?_, ?_⟩
  · rcases h1 with ⟨a, b⟩ | ⟨a, b, σ, z, c1, c2, c3⟩
    · exact Or.inl ⟨by rw [e 0 (by omega)]; exact a, by rw [e3]; exact b⟩
    · exact Or.inr ⟨by rw [e 0 (by omega)]; exact a, by rw [e3]; exact b, σ, z, c1.fr (fun k x y => e k (by omega)), c2.fr (e 39 (by omega)), c3⟩
  · exact ⟨fun k hk => by rw [e 36 (by omega), e 41 (by omega)]; exact h2.1 k hk, by rw [e 41 (by omega)]; exact h2.2⟩
  · obtain ⟨n, a, b, c, f⟩ := h3
    refine ⟨n, a, by rw [e 25 (by omega)]; exact b, by rw [e10]; exact c, fun j hj => ?_⟩
    rw [e 26 (by omega), e 44 (by omega)]
    exact f j hj
  · intro s hs
    obtain ⟨a, b, c, f, g⟩ := h4 s hs
    rw [e (28 + 2 * s) (by omega), e 47 (by omega), e 48 (by omega)]
    refine ⟨a, b, c, f, fun j hj => ?_⟩
    rw [e (29 + 2 * s) (by omega), e 49 (by omega)]
    exact g j hj
theorem FndR.find {w : mz_M} (h : FndR w) {i : Nat} (hi : i < 7) : FndR (mfW i (cfW i w)) := by
  obtain ⟨h1, h2⟩ := h
  have e36 : mfW i (cfW i w) 36 = upd (w 36) i (w 36 i + nI 1) := by unfold mfW cfW; rw [mu_n (by decide), mu_s]
  have e41 : mfW i (cfW i w) 41 = upd (upd (w 41) (i + 1) (w 41 (i + 1) + nI 1)) 0 (w 41 0 + nI 1) := by unfold mfW cfW; rw [mu_s, mu_n (by decide)]
  refine ⟨fun k hk => ?_, ?_⟩
  · rw [e36, e41]
    generalize nI 1 = o
    have q1 : ∀ f a, upd f 0 a (k + 1) = f (k + 1) := fun f a => by rw [pk_un (show k + 1 ≠ 0 by omega)]
    rw [q1]
    by_cases q : k = i
    · subst q
      rw [pk_us, pk_us, h1 k hk]
    · have q2 : ∀ f a, upd f i a k = f k := fun f a => by rw [pk_un q]
      have q3 : ∀ f a, upd f (i + 1) a (k + 1) = f (k + 1) := fun f a => by rw [pk_un (show k + 1 ≠ i + 1 by omega)]
      rw [q2, q3]
      exact h1 k hk
  · rw [e41, pk_us, pk_un (show (1 : Nat) ≠ 0 by decide), pk_un (show (2 : Nat) ≠ 0 by decide), pk_un (show (3 : Nat) ≠ 0 by decide), pk_un (show (4 : Nat) ≠ 0 by decide), pk_un (show (5 : Nat) ≠ 0 by decide), pk_un (show (6 : Nat) ≠ 0 by decide), pk_un (show (7 : Nat) ≠ 0 by decide), h2]
    generalize nI 1 = o
    have hi2 : i = 0 ∨ i = 1 ∨ i = 2 ∨ i = 3 ∨ i = 4 ∨ i = 5 ∨ i = 6 := by omega
    rcases hi2 with rfl | rfl | rfl | rfl | rfl | rfl | rfl <;> simp only [upd, Nat.reduceAdd, Nat.reduceEqDiff, if_true, if_false] <;> ac_rfl
theorem Rel.find {T : Nat} {w : mz_M} (h : Rel T w) {i : Nat} (hi : i < 7) : Rel T (mfW i (cfW i w)) := by
  obtain ⟨σ, z, H, M, I, h1, h2, h3, h4⟩ := h
  have en : ∀ k, k ≠ 36 → k ≠ 41 → mfW i (cfW i w) k = w k := fun k a b => by unfold mfW cfW; rw [mu_n b, mu_n a]
  refine ⟨σ, z, H.fr (fun k a b => en k (by omega) (by omega)), M.fr (en 38 (by decide) (by decide)), I, ?_, h2.find hi, ?_, ?_⟩
  · rcases h1 with ⟨a, b⟩ | ⟨a, b, σ, z, c1, c2, c3⟩
    · exact Or.inl ⟨by rw [en 0 (by decide) (by decide)]; exact a, by rw [en 37 (by decide) (by decide)]; exact b⟩
    · exact Or.inr ⟨by rw [en 0 (by decide) (by decide)]; exact a, by rw [en 37 (by decide) (by decide)]; exact b, σ, z, c1.fr (fun k x y => en k (by omega) (by omega)), c2.fr (en 39 (by decide) (by decide)), c3⟩
  · obtain ⟨n, a, b, c, f⟩ := h3
    refine ⟨n, a, by rw [en 25 (by decide) (by decide)]; exact b, by rw [en 37 (by decide) (by decide)]; exact c, fun j hj => ?_⟩
    rw [en 26 (by decide) (by decide), en 44 (by decide) (by decide)]
    exact f j hj
  · intro s hs
    obtain ⟨a, b, c, f, g⟩ := h4 s hs
    rw [en (28 + 2 * s) (by omega) (by omega), en 47 (by omega) (by omega), en 48 (by omega) (by omega)]
    refine ⟨a, b, c, f, fun j hj => ?_⟩
    rw [en (29 + 2 * s) (by omega) (by omega), en 49 (by omega) (by omega)]
    exact g j hj
/-- both sides answer alike: class method c, reference's method m, at arguments as -/
def Both (T T' c m : Nat) (as : List Value) (w : mz_M) : Prop := ∃ (r : Int32) (w1 w2 : mz_M), mz_Call 11 c (.ref 0 :: as) w (some (.int r)) w1 ∧ mz_Call 11 m (.ref 37 :: as) w1 (some (.int r)) w2 ∧ Rel T' w2
