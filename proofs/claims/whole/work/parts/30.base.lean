/-! numbers, bits; the pure state of a house: a row σ of naturals (0 turn, 1 people, 3 damp, 4 kept + 1, 5.. spots + 1, 15.. list, 21.. kinds, 29.. worths, 37.. kin), and z -/
theorem nb_sh : ∀ n, n < 32 → ((nI n &&& 31).toBitVec.smod 32).toNat = n := by decide +kernel
theorem nb_and (a b : Nat) : nI a &&& nI b = nI (a &&& b) := by
  apply Int32.toBitVec_inj.mp
  simp [nI, BitVec.ofNat_and]
theorem nb_or (a b : Nat) : nI a ||| nI b = nI (a ||| b) := by
  apply Int32.toBitVec_inj.mp
  simp [nI, BitVec.ofNat_or]
theorem nb_shl {p : Nat} (hp : p < 31) : nI 1 <<< (nI p &&& 31) = nI (2 ^ p) := by
  have h2 : 2 ^ p < 2 ^ 32 := Nat.pow_lt_pow_right (by decide) (by omega)
  rw [pk_shlN (n := 1) (nI p &&& 31) p (nb_sh p (by omega)) (by rw [Nat.one_mul]; exact h2), Nat.one_mul]
theorem nb_has {s p : Nat} (hs : s < 2 ^ 31) (hp : p < 31) : ((nI s >>> (nI p &&& 31)) &&& nI 1 = nI 1) ↔ s.testBit p = true := by
  rw [pk_shrN hs (nI p &&& 31) p (nb_sh p (by omega)), nb_and, Nat.and_one_is_mod]
  have h1 : s / 2 ^ p % 2 < 2 ^ 31 := by omega
  rw [nI_eq h1 (by decide), Nat.testBit_eq_decide_div_mod_eq]
  simp
/-- a truth as an int -/
def nB (p : Prop) [Decidable p] : Int32 := if p then nI 1 else nI 0
theorem nB_0 {p : Prop} [Decidable p] : nB p = nI 0 ↔ ¬ p := by
  unfold nB
  by_cases h : p
  · simp [h]; decide
  · simp [h]
theorem nB_t {p : Prop} [Decidable p] (h : p) : nB p = nI 1 := if_pos h
theorem nB_f {p : Prop} [Decidable p] (h : ¬ p) : nB p = nI 0 := if_neg h
theorem nB_z (p : Prop) [Decidable p] : nB p = 0 ∨ nB p = 1 := by
  by_cases h : p
  · exact Or.inr (nB_t h)
  · exact Or.inl (nB_f h)
theorem nB_c {p q : Prop} [Decidable p] [Decidable q] (h : p ↔ q) : nB p = nB q := by
  by_cases hp : p
  · rw [nB_t hp, nB_t (h.mp hp)]
  · rw [nB_f hp, nB_f (fun z => hp (h.mpr z))]
theorem nz_01 : (nI 0 = 0) ∨ (nI 0 = 1) := Or.inl rfl
theorem nz_11 : (nI 1 = 0) ∨ (nI 1 = 1) := Or.inr rfl
theorem nI_m1 (n : Nat) : nI (n + 1) - 1 = nI n := nI_pred n
theorem nI_m0 : nI 0 - 1 = (-1 : Int32) := by decide
theorem nI_ne_m1 {n : Nat} (h : n < 2 ^ 31) : ¬ nI n = (-1 : Int32) := fun e => absurd (show nI n < 0 by rw [e]; decide) (nI_pos h)
/-- a number one less, -1 for 0 -/
def nP (n : Nat) : Int32 := nI n - 1
theorem nP_0 : nP 0 = (-1 : Int32) := nI_m0
theorem nP_s (n : Nat) : nP (n + 1) = nI n := nI_m1 n
theorem nP_pos {n : Nat} (h : 0 < n) : nP n = nI (n - 1) := by
  obtain ⟨k, rfl⟩ : ∃ k, n = k + 1 := ⟨n - 1, by omega⟩
  rw [nP_s]; rfl
theorem nP_eq_m1 {n : Nat} (h : n < 2 ^ 31) : nP n = (-1 : Int32) ↔ n = 0 := by
  constructor
  · intro e
    rcases Nat.eq_zero_or_pos n with q | q
    · exact q
    · rw [nP_pos q] at e
      exact absurd e (nI_ne_m1 (by omega))
  · rintro rfl
    exact nP_0
theorem nP_neg {n : Nat} (h : n < 2 ^ 31) : nP n < nI 0 ↔ n = 0 := by
  constructor
  · intro e
    rcases Nat.eq_zero_or_pos n with q | q
    · exact q
    · rw [nP_pos q] at e
      exact absurd e (nI_pos (by omega))
  · rintro rfl
    decide
/-- memory: what a write leaves -/
theorem mu_s {w : mz_M} {k : Nat} {f : Nat → Int32} : mz_up w k f k = f := by simp [mz_up]
theorem mu_n {w : mz_M} {k j : Nat} {f : Nat → Int32} (h : j ≠ k) : mz_up w k f j = w j := by simp [mz_up, h]
/-- outside P nothing has changed -/
def Fr (P : Nat → Prop) (w w' : mz_M) : Prop := ∀ k, ¬ P k → w' k = w k
theorem Fr.rf {P : Nat → Prop} {w : mz_M} : Fr P w w := fun _ _ => rfl
theorem Fr.tr {P : Nat → Prop} {w w1 w2 : mz_M} (h1 : Fr P w w1) (h2 : Fr P w1 w2) : Fr P w w2 := fun k hk => (h2 k hk).trans (h1 k hk)
theorem Fr.mono {P P' : Nat → Prop} {w w' : mz_M} (h : Fr P w w') (hP : ∀ k, P k → P' k) : Fr P' w w' := fun k hk => h k (fun z => hk (hP k z))
theorem Fr.up {P : Nat → Prop} {w : mz_M} {k : Nat} {f : Nat → Int32} (hk : P k) : Fr P w (mz_up w k f) := fun j hj => mu_n (fun e => hj (e ▸ hk))
abbrev Hp (h k : Nat) : Prop := h ≤ k ∧ k < h + 8
/-- a house at place h holds the row σ and z -/
def Hs (h : Nat) (σ : Nat → Nat) (z : Int32) (w : mz_M) : Prop :=
  w h 0 = nI (σ 3) ∧ w h 1 = nI (σ 0) ∧ w h 2 = nP (σ 4) ∧ w h 3 = nI (σ 1) ∧ w h 4 = z ∧ (∀ j, j < 6 → w (h + 1) j = nI (σ (15 + j))) ∧ (∀ j, j < 8 → w (h + 2) j = nI (σ (21 + j))) ∧ (∀ j, j < 8 → w (h + 3) j = nI (σ (29 + j))) ∧ (∀ j, j < 64 → w (h + 4) j = nI (σ (37 + j))) ∧ (∀ j, j < 10 → w (h + 5) j = nP (σ (5 + j)))
/-- a row of the reference at place k -/
def Ms (k : Nat) (σ : Nat → Nat) (z : Int32) (w : mz_M) : Prop :=
  w k 0 = nI (σ 0) ∧ w k 1 = nI (σ 1) ∧ w k 2 = z ∧ w k 3 = nI (σ 3) ∧ (∀ j, 4 ≤ j → j < 15 → w k j = nP (σ j)) ∧ (∀ j, 15 ≤ j → j < 101 → w k j = nI (σ j))
/-- what holds of every row: T bounds the turn -/
def Iv (T : Nat) (σ : Nat → Nat) : Prop :=
  σ 0 ≤ T ∧ σ 1 ≤ 8 ∧ σ 3 ≤ 9 ∧ (∀ j, 4 ≤ j → j < 15 → σ j ≤ σ 1) ∧ (∀ j, 15 ≤ j → j < 21 → σ j < 256) ∧ (∀ j, 21 ≤ j → j < 29 → σ j < 7) ∧ (∀ j, 29 ≤ j → j < 37 → σ j ≤ 99) ∧ (∀ j, 37 ≤ j → j < 101 → σ j ≤ 999) ∧ (∀ a b, a < 8 → b < 8 → σ (37 + 8 * a + b) = σ (37 + 8 * b + a)) ∧ (∀ a, a < 8 → σ (37 + 8 * a + a) = 0)
/-- one place of a row set -/
def su (σ : Nat → Nat) (k v : Nat) : Nat → Nat := fun j => if j = k then v else σ j
theorem su_s {σ : Nat → Nat} {k v : Nat} : su σ k v k = v := by simp [su]
theorem su_n {σ : Nat → Nat} {k v j : Nat} (h : j ≠ k) : su σ k v j = σ j := by simp [su, h]
theorem n_max {a b : Nat} (ha : a < 2 ^ 31) (hb : b < 2 ^ 31) : (if nI a < nI b then nI b else nI a) = nI (max a b) := by
  by_cases h : a < b
  · rw [if_pos ((nI_ltI ha hb).mpr h), Nat.max_eq_right (by omega)]
  · rw [if_neg (fun z => h ((nI_ltI ha hb).mp z)), Nat.max_eq_left (by omega)]
theorem n_min {a b : Nat} (ha : a < 2 ^ 31) (hb : b < 2 ^ 31) : (if nI b < nI a then nI b else nI a) = nI (min a b) := by
  by_cases h : b < a
  · rw [if_pos ((nI_ltI hb ha).mpr h), Nat.min_eq_right (by omega)]
  · rw [if_neg (fun z => h ((nI_ltI hb ha).mp z)), Nat.min_eq_left (by omega)]
/-- max(0, a - b) -/
theorem n_mon {a b : Nat} (ha : a < 2 ^ 30) (hb : b < 2 ^ 30) : (if nI 0 < nI a - nI b then nI a - nI b else nI 0) = nI (a - b) := by
  by_cases h : b < a
  · rw [pk_sub (by omega), n_max (by decide) (by omega), Nat.max_eq_right (by omega)]
  · rw [if_neg, show a - b = 0 by omega]
    intro z
    have h2 := pk_sub_toInt ha hb
    have h3 := Int32.lt_iff_toInt_lt.mp z
    rw [h2, nI_toInt (by decide)] at h3
    omega
