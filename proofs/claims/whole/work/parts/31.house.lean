/-! House, method by method, over the row σ -/
theorem ix8 (a b : Nat) : nI a * nI 8 + nI b = nI (8 * a + b) := by rw [pk_mul, nI_add, Nat.mul_comm]
/-- who goes in -/
def gi (σ : Nat → Nat) : Nat := (σ (15 + σ 0 % 6) % 2 ^ σ 1) ||| (if σ 4 = 0 then 0 else 2 ^ (σ 4 - 1))
/-- how many are close to p -/
def clS (σ : Nat → Nat) (p : Nat) : Nat → Nat
  | 0 => 0
  | n + 1 => clS σ p n + (if n ≠ p ∧ 10 ≤ σ (37 + 8 * p + n) then 1 else 0)
def bS (σ : Nat → Nat) (p : Nat) : Nat :=
  if σ (21 + p) = 1 then σ (29 + p) / 2 else if σ (21 + p) = 2 then σ (29 + p) + 2 else if σ (21 + p) = 3 then (σ (29 + p) + 2) / 2 else if σ (21 + p) = 4 then (σ (29 + p) + 2) / 2 + (if σ 0 % 7 = 6 then 9 else 0)
  else if σ (21 + p) = 5 then (if σ 3 < 5 then 0 else σ (29 + p)) else if σ (21 + p) = 6 then σ (29 + p) / 2 + clS σ p (σ 1) else σ (29 + p)
def fS (σ : Nat → Nat) (p : Nat) : Nat :=
  if σ (21 + p) = 1 then 0 else if σ (21 + p) = 2 then 2 else if σ (21 + p) = 5 then 3 - σ 3 / 3 else if σ (21 + p) = 6 then 0 else 1
theorem clS_le (σ : Nat → Nat) (p : Nat) : ∀ n, clS σ p n ≤ n
  | 0 => Nat.le_refl _
  | n + 1 => by
    have := clS_le σ p n
    unfold clS
    split <;> omega
theorem bS_le {T : Nat} {σ : Nat → Nat} (I : Iv T σ) {p : Nat} (hp : p < 8) : bS σ p ≤ 200 := by
  have h1 := I.2.2.2.2.2.2.1 (29 + p) (by omega) (by omega)
  have h2 := clS_le σ p (σ 1)
  have h3 := I.2.1
  unfold bS
  repeat' split
  all_goals omega
theorem fS_le (σ : Nat → Nat) (p : Nat) : fS σ p ≤ 3 := by
  unfold fS
  repeat' split
  all_goals omega
section HM
variable {d h : Nat} {σ : Nat → Nat} {z : Int32} {w : mz_M} {T : Nat}
theorem Hs.kin (H : Hs h σ z w) {a b : Nat} (ha : a < 8) (hb : b < 8) : w (h + 4) (nI (8 * a + b)).toNatClampNeg = nI (σ (37 + 8 * a + b)) := by
  rw [nI_clamp (by omega), H.2.2.2.2.2.2.2.2.1 (8 * a + b) (by omega)]
  congr 2
  omega
theorem hm_isFull (hh : h = 1 ∨ h = 9 ∨ h = 17) (H : Hs h σ z w) (I : Iv T σ) : mz_Call (d + 1) 1 [.ref h] w (some (.int (nB (8 ≤ σ 1)))) w := by
  refine en_X0_isFull (sg_X0_isFull_0 hh ?_)
  have h1 := I.2.1
  rw [H.2.2.2.1, nI_ltI (by omega) (by omega)]
  refine ⟨fun c => ⟨nz_01, ?_, rfl⟩, fun c => ⟨nz_11, ?_, rfl⟩⟩
  · rw [nB_f (by omega)]
  · rw [nB_t (by omega)]
theorem hm_everyone (hh : h = 1 ∨ h = 9 ∨ h = 17) (H : Hs h σ z w) (I : Iv T σ) : mz_Call (d + 1) 3 [.ref h] w (some (.int (nI (2 ^ σ 1 - 1)))) w := by
  refine en_X0_everyone (sg_X0_everyone_0 hh ?_)
  have h1 := I.2.1
  refine ⟨?_, rfl⟩
  rw [H.2.2.2.1, nb_shl (by omega), pk_sub (Nat.one_le_two_pow)]
theorem hm_kinOf (hh : h = 1 ∨ h = 9 ∨ h = 17) (H : Hs h σ z w) {a b : Nat} (ha : a < 8) (hb : b < 8) : mz_Call (d + 1) 4 [.ref h, .int (nI a), .int (nI b)] w (some (.int (nI (σ (37 + 8 * a + b))))) w := by
  refine en_X0_kinOf (sg_X0_kinOf_0 hh ?_)
  rw [ix8]
  exact ⟨vp_in_nI (by omega) (by omega), by rw [H.kin ha hb], rfl⟩
/-- the row with kin of two set -/
def kS (σ : Nat → Nat) (a b v : Nat) : Nat → Nat := su (su σ (37 + 8 * a + b) v) (37 + 8 * b + a) v
theorem hm_relate (hh : h = 1 ∨ h = 9 ∨ h = 17) (H : Hs h σ z w) {a b v : Nat} (ha : a < 8) (hb : b < 8) : ∃ w', mz_Call (d + 1) 5 [.ref h, .int (nI a), .int (nI b), .int (nI v)] w none w' ∧ Hs h (kS σ a b v) z w' ∧ Fr (fun k => k = h + 4) w w' := by
  refine ec_X0_relate (Po := fun w' => Hs h (kS σ a b v) z w' ∧ Fr (fun k => k = h + 4) w w') (sg_X0_relate_0 hh ?_)
  rw [ix8, ix8]
  dsimp only
  rw [nI_clamp (by omega), nI_clamp (by omega)]
  refine ⟨vp_in_nI (by omega) (by omega), vp_in_nI (by omega) (by omega), rfl, ?_, ?_⟩
  · skip
    obtain ⟨g0, g1, g2, g3, g4, g5, g6, g7, g8, g9⟩ := H
    have hs : ∀ j, j < 37 → kS σ a b v j = σ j := fun j hj => by unfold kS; rw [su_n (by omega), su_n (by omega)]
    refine ⟨?_, ?_, ?_, ?_, ?_, fun j hj => ?_, fun j hj => ?_, fun j hj => ?_, fun j hj => ?_, fun j hj => ?_⟩
    · rw [mu_n (by omega), mu_n (by omega), hs _ (by omega), g0]
    · rw [mu_n (by omega), mu_n (by omega), hs _ (by omega), g1]
    · rw [mu_n (by omega), mu_n (by omega), hs _ (by omega), g2]
    · rw [mu_n (by omega), mu_n (by omega), hs _ (by omega), g3]
    · rw [mu_n (by omega), mu_n (by omega), g4]
    · rw [mu_n (by omega), mu_n (by omega), hs _ (by omega), g5 j hj]
    · rw [mu_n (by omega), mu_n (by omega), hs _ (by omega), g6 j hj]
    · rw [mu_n (by omega), mu_n (by omega), hs _ (by omega), g7 j hj]
    · rw [mu_s, mu_s]
      unfold kS
      by_cases e1 : j = 8 * b + a
      · subst e1
        rw [pk_us, show 37 + (8 * b + a) = 37 + 8 * b + a by omega, su_s]
      · rw [pk_un e1, su_n (by omega)]
        by_cases e2 : j = 8 * a + b
        · subst e2
          rw [pk_us, show 37 + (8 * a + b) = 37 + 8 * a + b by omega, su_s]
        · rw [pk_un e2, su_n (by omega), g8 j hj]
    · rw [mu_n (by omega), mu_n (by omega), hs _ (by omega), g9 j hj]
  · exact Fr.tr (w1 := mz_up w (h + 4) (upd (w (h + 4)) (8 * a + b) (nI v))) (Fr.up rfl) (Fr.up rfl)
theorem hm_has {a0 a1 : Nat} (h0 : a0 < 2 ^ 31) (h1 : a1 < 31) : mz_Call (d + 1) 21 [.int (nI a0), .int (nI a1)] w (some (.int (nB (a0.testBit a1 = true)))) w := by
  refine en_X0_has (sg_X0_has_0 ?_)
  rw [nb_has h0 h1]
  exact ⟨fun c => ⟨nz_11, by rw [nB_t c], rfl⟩, fun c => ⟨nz_01, by rw [nB_f c], rfl⟩⟩
theorem hm_place (hh : h = 1 ∨ h = 9 ∨ h = 17) (H : Hs h σ z w) (hT : σ 0 < 2 ^ 30) : mz_Call (d + 1) 15 [.ref h] w (some (.int (nI (σ 0 % 6)))) w := by
  refine en_X0_place (sg_X0_place_0 hh ?_)
  refine ⟨by decide, ?_, rfl⟩
  rw [H.2.1, pk_rem (by omega) (by decide) (by decide)]
theorem hm_goingIn (hh : h = 1 ∨ h = 9 ∨ h = 17) (H : Hs h σ z w) (I : Iv T σ) (hT : σ 0 < 2 ^ 30) : mz_Call (d + 2) 16 [.ref h] w (some (.int (nI (gi σ)))) w := by
  refine en_X0_goingIn (sg_X0_goingIn_0 hh ?_)
  have h1 := I.2.1
  have h4 := I.2.2.2.1 4 (by omega) (by omega)
  have h6 : σ 0 % 6 < 6 := Nat.mod_lt _ (by decide)
  have e : w (h + 1) (nI (σ 0 % 6)).toNatClampNeg &&& nI (2 ^ σ 1 - 1) = nI (σ (15 + σ 0 % 6) % 2 ^ σ 1) := by
    rw [nI_clamp (by omega), H.2.2.2.2.2.1 _ h6, nb_and, Nat.and_two_pow_sub_one_eq_mod]
  refine ⟨_, _, hm_place hh H hT, vp_in_nI h6 (by decide), _, _, hm_everyone hh H I, ?_⟩
  rw [H.2.2.1, nP_eq_m1 (by omega), e]
  refine ⟨fun c => ⟨?_, rfl⟩, fun c => ⟨?_, rfl⟩⟩
  · unfold gi
    rw [if_pos c, Nat.or_zero]
  · unfold gi
    rw [if_neg c, nP_pos (by omega), nb_shl (by omega), nb_or]
theorem hm_closeOnes (hh : h = 1 ∨ h = 9 ∨ h = 17) (H : Hs h σ z w) (I : Iv T σ) {p : Nat} (hp : p < 8) : mz_Call (d + 1) 13 [.ref h, .int (nI p)] w (some (.int (nI (clS σ p (σ 1))))) w := by
  have h1 := I.2.1
  have loop : ∀ k n, n + k = σ 1 → mz_Ex cd_X0_closeOnes (mz_Call d) (fun r1 w1 => r1 = some (.int (nI (clS σ p (σ 1)))) ∧ w1 = w) 4 [.ref h, .int (nI p), .int (nI (clS σ p n)), .int (nI n)] [] w := by
    intro k
    induction k with
    | zero =>
      intro n hn
      refine sg_X0_closeOnes_4 hh ?_
      rw [H.2.2.2.1, nI_ltI (by omega) (by omega)]
      exact ⟨fun c => absurd c (by omega), fun _ => ⟨by rw [show n = σ 1 by omega], rfl⟩⟩
    | succ k ih =>
      intro n hn
      have hih := ih (n + 1) (by omega)
      have hcl := clS_le σ p n
      have hk := I.2.2.2.2.2.2.2.1 (37 + 8 * p + n) (by omega) (by omega)
      rw [clS] at hih
      refine sg_X0_closeOnes_4 hh ?_
      rw [H.2.2.2.1, nI_ltI (by omega) (by omega)]
      refine ⟨fun c => ⟨fun c2 => ?_, fun c2 => ?_⟩, fun c => absurd (show n < σ 1 by omega) c⟩
      · rw [nI_eq (by omega) (by omega)] at c2
        rw [if_neg (by omega), Nat.add_zero] at hih
        rw [nI_add]
        exact hih
      · rw [nI_eq (by omega) (by omega)] at c2
        rw [ix8, H.kin hp (by omega), nI_ltI (by omega) (by omega)]
        refine ⟨vp_in_nI (by omega) (by omega), fun c3 => ?_, fun c3 => ?_⟩
        · rw [if_neg (by omega), Nat.add_zero] at hih
          rw [nI_add]
          exact hih
        · rw [if_pos ⟨c2, by omega⟩] at hih
          rw [nI_add, nI_add]
          exact hih
  exact en_X0_closeOnes (sg_X0_closeOnes_0 hh (loop (σ 1) 0 (by omega)))
theorem hm_brings (hh : h = 1 ∨ h = 9 ∨ h = 17) (H : Hs h σ z w) (I : Iv T σ) (hT : σ 0 < 2 ^ 30) {p : Nat} (hp : p < 8) : mz_Call (d + 2) 12 [.ref h, .int (nI p)] w (some (.int (nI (bS σ p)))) w := by
  refine en_X0_brings (sg_X0_brings_0 hh ?_)
  have hk := I.2.2.2.2.2.1 (21 + p) (by omega) (by omega)
  have hw := I.2.2.2.2.2.2.1 (29 + p) (by omega) (by omega)
  have hd := I.2.2.1
  have n2 : ¬ nI 2 = 0 := by decide
  have n7 : ¬ nI 7 = 0 := by decide
  rw [nI_clamp (by omega), H.2.2.2.2.2.2.1 p hp, H.2.2.2.2.2.2.2.1 p hp, H.1, H.2.1]
  have hq : ∀ k, k < 7 → (nI (σ (21 + p)) = nI k ↔ σ (21 + p) = k) := fun k h9 => nI_eq (by omega) (by omega)
  rw [hq 1 (by decide), hq 2 (by decide), hq 3 (by decide), hq 4 (by decide), hq 5 (by decide), hq 6 (by decide)]
  have hin : vp_in (nI p) 8 := vp_in_nI hp (by decide)
  refine ⟨hin, hin, fun c1 => ⟨n2, ?_, rfl⟩, fun c1 => ⟨fun c2 => ⟨?_, rfl⟩, fun c2 => ⟨fun c3 => ⟨n2, ?_, rfl⟩, fun c3 => ⟨fun c4 => ⟨n2, n7, ?_⟩, fun c4 => ⟨fun c5 => ?_, fun c5 => ⟨fun c6 => ⟨n2, _, _, hm_closeOnes hh H I hp, ?_, rfl⟩, fun c6 => ⟨?_, rfl⟩⟩⟩⟩⟩⟩⟩
  · rw [pk_div (by omega) (by decide) (by decide), bS, if_pos c1]
  · rw [nI_add, bS, if_neg c1, if_pos c2]
  · rw [nI_add, pk_div (by omega) (by decide) (by decide), bS, if_neg c1, if_neg c2, if_pos c3]
  · rw [pk_rem (by omega) (by decide) (by decide), nI_eq (by omega) (by decide), nI_add, pk_div (by omega) (by decide) (by decide), nI_add, nI_add, bS, if_neg c1, if_neg c2, if_neg c3, if_pos c4]
    exact ⟨fun q => ⟨by rw [if_pos q], rfl⟩, fun q => ⟨by rw [if_neg q], rfl⟩⟩
  · rw [nI_ltI (by omega) (by decide), bS, if_neg c1, if_neg c2, if_neg c3, if_neg c4, if_pos c5]
    exact ⟨fun q => ⟨by rw [if_pos q], rfl⟩, fun q => ⟨by rw [if_neg q], rfl⟩⟩
  · rw [pk_div (by omega) (by decide) (by decide), nI_add, bS, if_neg c1, if_neg c2, if_neg c3, if_neg c4, if_neg c5, if_pos c6]
  · rw [bS, if_neg c1, if_neg c2, if_neg c3, if_neg c4, if_neg c5, if_neg c6]
theorem hm_fades (hh : h = 1 ∨ h = 9 ∨ h = 17) (H : Hs h σ z w) (I : Iv T σ) {p : Nat} (hp : p < 8) : mz_Call (d + 1) 14 [.ref h, .int (nI p)] w (some (.int (nI (fS σ p)))) w := by
  refine en_X0_fades (sg_X0_fades_0 hh ?_)
  have hk := I.2.2.2.2.2.1 (21 + p) (by omega) (by omega)
  have hd := I.2.2.1
  rw [nI_clamp (by omega), H.2.2.2.2.2.2.1 p hp, H.1]
  have hq : ∀ k, k < 7 → (nI (σ (21 + p)) = nI k ↔ σ (21 + p) = k) := fun k h9 => nI_eq (by omega) (by omega)
  rw [hq 1 (by decide), hq 2 (by decide), hq 3 (by decide), hq 4 (by decide), hq 5 (by decide), hq 6 (by decide)]
  have hin : vp_in (nI p) 8 := vp_in_nI hp (by decide)
  refine ⟨hin, fun c1 => ⟨?_, rfl⟩, fun c1 => ⟨fun c2 => ⟨?_, rfl⟩, fun c2 => ⟨fun c3 => ⟨?_, rfl⟩, fun c3 => ⟨fun c4 => ⟨?_, rfl⟩, fun c4 => ⟨fun c5 => ⟨by decide, ?_, rfl⟩, fun c5 => ⟨fun c6 => ⟨?_, rfl⟩, fun c6 => ⟨?_, rfl⟩⟩⟩⟩⟩⟩⟩
  · rw [fS, if_pos c1]
  · rw [fS, if_neg c1, if_pos c2]
  · rw [fS, if_neg c1, if_neg c2, if_neg (by omega), if_neg (by omega)]
  · rw [fS, if_neg c1, if_neg c2, if_neg (by omega), if_neg (by omega)]
  · rw [fS, if_neg c1, if_neg c2, if_pos c5, pk_div (by omega) (by decide) (by decide), n_mon (by decide) (by omega)]
  · rw [fS, if_neg c1, if_neg c2, if_neg c5, if_pos c6]
  · rw [fS, if_neg c1, if_neg c2, if_neg c5, if_neg c6]
/-- KIN of two behind a turn -/
def nk (σ : Nat → Nat) (a b : Nat) : Nat := if (gi σ).testBit a = true ∧ (gi σ).testBit b = true then min 999 (σ (37 + 8 * a + b) + min (bS σ a) (bS σ b) + σ 3) else σ (37 + 8 * a + b) - max (fS σ a) (fS σ b)
/-- the greatest of a set, and 1; 0: none -/
def tpB (g : Nat) : Nat → Nat
  | 0 => 0
  | n + 1 => if g.testBit n = true then n + 1 else tpB g n
theorem tpB_le (g : Nat) : ∀ n, tpB g n ≤ n
  | 0 => Nat.le_refl _
  | n + 1 => by
    have := tpB_le g n
    unfold tpB
    split <;> omega
/-- a turn -/
def tS (σ : Nat → Nat) : Nat → Nat := fun j => if j = 0 then σ 0 + 1 else if j = 4 then tpB (gi σ) (σ 1) else if 37 ≤ j ∧ j < 101 ∧ (j - 37) / 8 < σ 1 ∧ (j - 37) % 8 < σ 1 ∧ (j - 37) / 8 ≠ (j - 37) % 8 then nk σ ((j - 37) / 8) ((j - 37) % 8) else σ j
theorem gi_lt {T : Nat} {σ : Nat → Nat} (I : Iv T σ) : gi σ < 2 ^ σ 1 := by
  have h4 := I.2.2.2.1 4 (by omega) (by omega)
  unfold gi
  refine Nat.or_lt_two_pow (Nat.mod_lt _ (Nat.two_pow_pos _)) ?_
  split
  · exact Nat.two_pow_pos _
  · exact Nat.pow_lt_pow_right (by decide) (by omega)
theorem gi_lt8 {T : Nat} {σ : Nat → Nat} (I : Iv T σ) : gi σ < 256 := Nat.lt_of_lt_of_le (gi_lt I) (by have := Nat.pow_le_pow_right (n := 2) (by decide) I.2.1; omega)
theorem hm_grown (hh : h = 1 ∨ h = 9 ∨ h = 17) (H : Hs h σ z w) {a b x y : Nat} (ha : a < 8) (hb : b < 8) (hk : σ (37 + 8 * a + b) ≤ 999) (hd : σ 3 ≤ 9) (hx : w (h + 6) a = nI x) (hy : w (h + 6) b = nI y) (lx : x ≤ 200) (ly : y ≤ 200) : mz_Call (d + 2) 19 [.ref h, .int (nI a), .int (nI b)] w (some (.int (nI (min 999 (σ (37 + 8 * a + b) + min x y + σ 3))))) w := by
  refine en_X0_grown (sg_X0_grown_0 hh ⟨_, _, hm_kinOf hh H ha hb, vp_in_nI ha (by decide), vp_in_nI hb (by decide), ?_, rfl⟩)
  rw [nI_clamp (by omega), nI_clamp (by omega), hx, hy, H.1, n_min (by omega) (by omega), nI_add, nI_add, n_min (a := 999) (by decide) (by omega)]
theorem hm_shrunk (hh : h = 1 ∨ h = 9 ∨ h = 17) (H : Hs h σ z w) {a b x y : Nat} (ha : a < 8) (hb : b < 8) (hk : σ (37 + 8 * a + b) ≤ 999) (hx : w (h + 7) a = nI x) (hy : w (h + 7) b = nI y) (lx : x ≤ 3) (ly : y ≤ 3) : mz_Call (d + 2) 20 [.ref h, .int (nI a), .int (nI b)] w (some (.int (nI (σ (37 + 8 * a + b) - max x y)))) w := by
  refine en_X0_shrunk (sg_X0_shrunk_0 hh ⟨_, _, hm_kinOf hh H ha hb, vp_in_nI ha (by decide), vp_in_nI hb (by decide), ?_, rfl⟩)
  rw [nI_clamp (by omega), nI_clamp (by omega), hx, hy, n_max (by omega) (by omega), n_mon (by omega) (by omega)]
end HM
