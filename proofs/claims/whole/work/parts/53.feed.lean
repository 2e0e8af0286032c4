/-! feed -/
/-- the byte that is fed: k-th from the end -/
def fdB (x : Int32) (k : Nat) : Nat := x.toBitVec.toNat / 2 ^ (8 * k) % 256
theorem fdB_lt (x : Int32) (k : Nat) : fdB x k < 256 := Nat.mod_lt _ (by decide)
theorem fd_u (x : Int32) {k : Nat} (hk : k < 4) : (x.toUInt32 >>> ((nI 8 * nI k).toUInt32 &&& Int32.toUInt32 31)).toInt32 &&& nI 255 = nI (fdB x k) := by
  rw [and255I]
  have e : ∀ k, k < 4 → ((nI 8 * nI k).toUInt32 &&& Int32.toUInt32 31).toNat % 32 = 8 * k := by decide
  have e1 : (x.toUInt32 >>> ((nI 8 * nI k).toUInt32 &&& Int32.toUInt32 31)).toInt32.toBitVec.toNat = x.toBitVec.toNat / 2 ^ (8 * k) := by
    show (x.toUInt32 >>> ((nI 8 * nI k).toUInt32 &&& Int32.toUInt32 31)).toNat = _
    rw [UInt32.toNat_shiftRight, e k hk, Nat.shiftRight_eq_div_pow]
    rfl
  rw [e1]
  rfl
theorem fd_s (x : Int32) {k : Nat} (hk : k < 4) : (x >>> ((nI 8 * nI k) &&& 31)) &&& nI 255 = nI (fdB x k) := by
  have e : ∀ k, k < 4 → (((nI 8 * nI k) &&& 31).toBitVec.smod 32).toNat = 8 * k := by decide
  rw [and255I]
  have e1 : (x >>> ((nI 8 * nI k) &&& 31)).toBitVec = x.toBitVec.sshiftRight (8 * k) := by
    rw [Int32.toBitVec_shiftRight, BitVec.sshiftRight_eq', e k hk]
  rw [e1]
  have e2 : (x.toBitVec.sshiftRight (8 * k)).toNat % 256 = fdB x k := by
    apply Nat.eq_of_testBit_eq
    intro i
    unfold fdB
    rw [show (256 : Nat) = 2 ^ 8 from rfl, Nat.testBit_mod_two_pow, Nat.testBit_mod_two_pow, Nat.testBit_div_two_pow]
    by_cases hi : i < 8
    · have g : (x.toBitVec.sshiftRight (8 * k)).getLsbD i = x.toBitVec.getLsbD (8 * k + i) := by
        rw [BitVec.getLsbD_sshiftRight]
        simp [show ¬ 32 ≤ i by omega, show 8 * k + i < 32 by omega]
      have g2 : (x.toBitVec.sshiftRight (8 * k)).toNat.testBit i = x.toBitVec.toNat.testBit (8 * k + i) := g
      rw [g2, Nat.add_comm (8 * k) i]
    · simp [hi]
  rw [e2]
section FE
variable {d : Nat} {w : mz_M} {T h : Nat} {σ : Nat → Nat} {z : Int32}
/-- the tape's bytes written from place n on: k of them -/
def tpW (x : Int32) : Nat → Nat → (Nat → Int32) → Nat → Int32
  | 0, _, f => f
  | k + 1, n, f => tpW x k (n + 1) (upd f n (nI (fdB x k)))
theorem tpW_hi (x : Int32) : ∀ (k n : Nat) (f : Nat → Int32) (j : Nat), j < n → tpW x k n f j = f j
  | 0, _, _, _, _ => rfl
  | k + 1, n, f, j, h => by
    rw [tpW, tpW_hi x k (n + 1) _ j (by omega), pk_un (by omega)]
theorem tpW_in (x : Int32) : ∀ (k n : Nat) (f g : Nat → Int32) (j : Nat), n ≤ j → j < n + k → ∃ b, b < 256 ∧ tpW x k n f j = nI b ∧ tpW x k n g j = nI b
  | 0, n, _, _, j, h1, h2 => absurd h2 (by omega)
  | k + 1, n, f, g, j, h1, h2 => by
    rw [tpW, tpW]
    by_cases e : j = n
    · subst e
      refine ⟨fdB x k, fdB_lt x k, ?_, ?_⟩
      · rw [tpW_hi x k (j + 1) _ j (by omega), pk_us]
      · rw [tpW_hi x k (j + 1) _ j (by omega), pk_us]
    · exact tpW_in x k (n + 1) _ _ j (by omega) (by omega)
theorem hm_take (t b : Nat) (e : w 25 1 = nI t) (ht : t < 120) : mz_Call (d + 1) 34 [.ref 25, .int (nI b)] w none (mz_up (mz_up w 26 (upd (w 26) t (nI b))) 25 (upd (w 25) 1 (nI (t + 1)))) := by
  refine en_X2_take (sg_X2_take_0 ?_)
  dsimp only
  have e25 : ∀ f, mz_up w 26 f 25 = w 25 := fun f => mu_n (by decide)
  rw [e25, e, nI_ltI (by omega) (by omega), nI_clamp (by omega), nI_add]
  exact ⟨fun _ => ⟨vp_in_nI ht (by decide), rfl, rfl⟩, fun c => absurd ht c⟩
abbrev Fp (k : Nat) : Prop := k = 25 ∨ k = 26
theorem hm_feed (x : Int32) {g : Int32} {f : Nat → Int32} : ∀ (k t : Nat) (j2 : Value) (w1 : mz_M), k ≤ 4 → t + k ≤ 120 → w1 25 1 = nI t → g = nI (t + k) → f = tpW x k t (w1 26) → Fr Fp w w1 → mz_Ex cd_X3_feed (mz_Call 10) (fun r2 w2 => ∃ u : Int32, r2 = some (.int u) ∧ (u = g ∧ w2 25 1 = g ∧ w2 26 = f ∧ Fr Fp w w2)) 41 [.ref 0, .int x, j2, .int (nP k)] [] w1 := by
  intro k
  induction k with
  | zero =>
    intro t j2 w1 hk ht e hg hf F
    refine sg_X3_feed_41 ?_
    rw [nP_neg (by omega)]
    exact ⟨fun _ => ⟨_, rfl, by rw [e, hg]; rfl, by rw [e, hg]; rfl, by rw [hf]; rfl, F⟩, fun c => absurd rfl c⟩
  | succ k ih =>
    intro t j2 w1 hk ht e hg hf F
    refine sg_X3_feed_41 ?_
    rw [nP_s, nI_ltI (by omega) (by omega), nP_m, fd_u x (by omega)]
    refine ⟨fun c => absurd c (by omega), fun _ => ⟨_, hm_take t _ e (by omega), ?_⟩⟩
    exact ih (t + 1) j2 _ (by omega) (by omega) (by rw [mu_s, pk_us]) (by rw [hg]; congr 1; omega) (by rw [hf, mu_n (by decide), mu_s]; rfl) (F.tr (Fr.tr (Fr.up (Or.inr rfl)) (Fr.up (Or.inl rfl))))
abbrev Gp (k : Nat) : Prop := k = 37 ∨ k = 44
theorem rf_feed (x : Int32) {g : Int32} {f : Nat → Int32} : ∀ (k t : Nat) (j2 : Value) (w1 : mz_M), k ≤ 4 → t + k ≤ 120 → w1 37 10 = nI t → w1 37 3 = w 37 3 → g = nI (t + k) → f = tpW x k t (w1 44) → Fr Gp w w1 → mz_Ex cd_X4_feed (mz_Call 10) (fun r2 w2 => ∃ u : Int32, r2 = some (.int u) ∧ (u = g ∧ w2 37 10 = g ∧ w2 37 3 = w 37 3 ∧ w2 44 = f ∧ Fr Gp w w2)) 38 [.ref 37, .int x, j2, .int (nP k)] [] w1 := by
  intro k
  induction k with
  | zero =>
    intro t j2 w1 hk ht e e3 hg hf F
    refine sg_X4_feed_38 ?_
    rw [nP_neg (by omega)]
    exact ⟨fun _ => ⟨_, rfl, by rw [e, hg]; rfl, by rw [e, hg]; rfl, e3, by rw [hf]; rfl, F⟩, fun c => absurd rfl c⟩
  | succ k ih =>
    intro t j2 w1 hk ht e e3 hg hf F
    refine sg_X4_feed_38 ?_
    dsimp only
    have e37 : ∀ f, mz_up w1 44 f 37 = w1 37 := fun f => mu_n (by decide)
    rw [nP_s, nI_ltI (by omega) (by omega), nP_m, fd_s x (by omega), e37, e, nI_clamp (by omega), nI_add]
    refine ⟨fun c => absurd c (by omega), fun _ => ⟨vp_in_nI (by omega) (by decide), ?_⟩⟩
    exact ih (t + 1) j2 _ (by omega) (by omega) (by rw [mu_s, pk_us]) (by rw [mu_s, pk_un (by decide)]; exact e3) (by rw [hg]; congr 1; omega) (by rw [hf, mu_n (by decide), mu_s]; rfl) (F.tr (Fr.tr (Fr.up (Or.inr rfl)) (Fr.up (Or.inl rfl))))
theorem bo_feed (R : Rel T w) (x y : Int32) : Both T T 76 181 [.int x, .int y] w := by
  obtain ⟨σ, z, H, M, I, R⟩ := R
  obtain ⟨t, ht, t1, t2, t3⟩ := R.2.2.1
  by_cases c : wn y (nI 1) (nI 4)
  · obtain ⟨n, hn1, hn, rfl⟩ := (wn_iff (by decide) (by decide)).mp c
    have em : nI n - nI 1 = nP n := rfl
    by_cases q : 120 < t + n
    · refine Both.f0F (z7 1) H M I R (en_X3_feed (sg_X3_feed_0 ⟨_, _, hm_within _ _ _, nY c, fun _ => ⟨fun _ => ⟨_, _, hf1, rfl, rfl⟩, fun p => ?_⟩⟩)) (fun w1 M1 F1 => en_X4_feed (sg_X4_feed_0 ⟨_, _, mm_within _ _ _, nY c, fun _ => ⟨fun _ => ⟨_, _, mf1, rfl, rfl⟩, fun p => ?_⟩⟩))
      · rw [t1, nI_add, nI_ltI (by omega) (by omega)] at p; exact absurd q p
      · rw [F1 37 (by omega) (by decide), t2, nI_add, nI_ltI (by omega) (by omega)] at p; exact absurd q p
    · obtain ⟨u, w1, a1, rfl, a3, a4, a5⟩ := ec_X3_feed (w := w) (Po := fun u w2 => u = nI (t + n) ∧ w2 25 1 = nI (t + n) ∧ w2 26 = tpW x n t (w 26) ∧ Fr Fp w w2) (sg_X3_feed_0 ⟨_, _, hm_within (d := 9) (w := w) (nI n) (nI 1) (nI 4), nY c, fun _ => ⟨fun p => by
        rw [t1, nI_add, nI_ltI (by omega) (by omega)] at p; exact absurd p q, fun _ => by
        rw [em]; exact hm_feed x n t _ w (by omega) (by omega) t1 rfl rfl Fr.rf⟩⟩)
      have e37 : w1 37 = w 37 := a5 37 (by omega)
      obtain ⟨u, w2, b1, rfl, b3, b6, b4, b5⟩ := ec_X4_feed (w := w1) (Po := fun u w2 => u = nI (t + n) ∧ w2 37 10 = nI (t + n) ∧ w2 37 3 = w1 37 3 ∧ w2 44 = tpW x n t (w1 44) ∧ Fr Gp w1 w2) (sg_X4_feed_0 ⟨_, _, mm_within (d := 9) (w := w1) (nI n) (nI 1) (nI 4), nY c, fun _ => ⟨fun p => by
        rw [e37, t2, nI_add, nI_ltI (by omega) (by omega)] at p; exact absurd p q, fun _ => by
        rw [em]; exact rf_feed x n t _ w1 (by omega) (by omega) (by rw [e37]; exact t2) rfl rfl rfl Fr.rf⟩⟩)
      have e : ∀ k, ¬ Fp k → ¬ Gp k → w2 k = w k := fun k p1 p2 => (b5 k p2).trans (a5 k p1)
      refine ⟨_, w1, w2, a1, b1, σ, z, H.fr (fun k p1 p2 => e k (by omega) (by omega)), M.fr (e 38 (by omega) (by omega)), I, R.1.fr (fun k p => e k (by omega) (by omega)) (by rw [b6, e37]), R.2.1.fr (e 36 (by omega) (by omega)) (e 41 (by omega) (by omega)), ⟨t + n, by omega, ?_, b3, fun j hj => ?_⟩, R.2.2.2.fr (fun k p => e k (by omega) (by omega))⟩
      · rw [b5 25 (by omega)]; exact a3
      · rw [b5 26 (by omega), a4, b4, a5 44 (by omega)]
        by_cases hj2 : j < t
        · rw [tpW_hi x n t _ j hj2, tpW_hi x n t _ j hj2]
          exact t3 j hj2
        · exact tpW_in x n t _ _ j (by omega) hj
  · exact Both.f0 (z7 0) H M I R (en_X3_feed (sg_X3_feed_0 ⟨_, _, hm_within _ _ _, fun _ => ⟨_, _, hf0, rfl, rfl⟩, nN c⟩)) (fun w1 M1 => en_X4_feed (sg_X4_feed_0 ⟨_, _, mm_within _ _ _, fun _ => ⟨_, _, mf0, rfl, rfl⟩, nN c⟩))
end FE
