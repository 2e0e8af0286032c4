/-! fits, went -/
/-- what the reference's search changes beside its rows: slots 7 and 8 of its object -/
def Fw (w w' : mz_M) : Prop := (∀ k, ¬ Mq k → k ≠ 37 → w' k = w k) ∧ ∀ j, j ≠ 7 → j ≠ 8 → w' 37 j = w 37 j
theorem Fw.rf {w : mz_M} : Fw w w := ⟨fun _ _ _ => rfl, fun _ _ _ => rfl⟩
theorem Fw.tr {w w1 w2 : mz_M} (h1 : Fw w w1) (h2 : Fw w1 w2) : Fw w w2 := ⟨fun k a b => (h2.1 k a b).trans (h1.1 k a b), fun j a b => (h2.2 j a b).trans (h1.2 j a b)⟩
theorem Fw.of {w w1 : mz_M} (h : Fr Mq w w1) : Fw w w1 := ⟨fun k a _ => h k a, fun j _ _ => by rw [h 37 (by omega)]⟩
/-- slots 7 and 8 written -/
def sv (w : mz_M) (x y : Int32) : mz_M := mz_up (mz_up w 37 (upd (w 37) 7 x)) 37 (upd (mz_up w 37 (upd (w 37) 7 x) 37) 8 y)
theorem sv_37 (w : mz_M) (x y : Int32) : sv w x y 37 = upd (upd (w 37) 7 x) 8 y := by unfold sv; rw [mu_s, mu_s]
theorem sv_7 (w : mz_M) (x y : Int32) : sv w x y 37 7 = x := by rw [sv_37, pk_un (by decide), pk_us]
theorem sv_8 (w : mz_M) (x y : Int32) : sv w x y 37 8 = y := by rw [sv_37, pk_us]
theorem sv_n (w : mz_M) (x y : Int32) {k : Nat} (h : k ≠ 37) : sv w x y k = w k := by unfold sv; rw [mu_n h, mu_n h]
theorem sv_F (w : mz_M) (x y : Int32) : Fw w (sv w x y) := ⟨fun k _ b => sv_n w x y b, fun j a b => by rw [sv_37, pk_un b, pk_un a]⟩
def MW (f : Nat) (σ : Nat → Nat) (z : Int32) (w : mz_M) (v : Int32) (w' : mz_M) : Prop := (f = 0 ∧ v = fnd 3 ∧ ∃ wu, w' = mfW 3 wu ∧ Ms 38 σ z wu ∧ Fw w wu) ∨ (∃ m, f = m + 1 ∧ v = nI m ∧ Ms 38 σ z w' ∧ Fw w w')
theorem Both.okW {T c m : Nat} {as : List Value} {w : mz_M} {σ : Nat → Nat} {z r : Int32} (H : Hs 1 σ z w) (M : Ms 38 σ z w) (I : Iv T σ) (R : RstR T w)
    (hc : ∃ w1, mz_Call 11 c (.ref 0 :: as) w (some (.int r)) w1 ∧ Fr Tp w w1)
    (hm : ∀ w1, Ms 38 σ z w1 → Fr Tp w w1 → ∃ w2, mz_Call 11 m (.ref 37 :: as) w1 (some (.int r)) w2 ∧ Ms 38 σ z w2 ∧ Fw w1 w2) : Both T T c m as w := by
  obtain ⟨w1, a1, a2⟩ := hc
  obtain ⟨w2, b1, b2, b3, b4⟩ := hm w1 (M.fr (a2 38 (by omega))) a2
  exact ⟨r, w1, w2, a1, b1, σ, z, H.fr (fun k x y => (b3 k (by omega) (by omega)).trans (a2 k (by omega))), b2, I, R.fr (fun k hk => (b3 k (by omega) (by omega)).trans (a2 k (by omega))) (by rw [b4 3 (by decide) (by decide), a2 37 (by omega)]) (by rw [b4 10 (by decide) (by decide), a2 37 (by omega)])⟩
theorem Both.srchW {T c m : Nat} {as : List Value} {w : mz_M} {σ : Nat → Nat} {z : Int32} (f : Nat) (H : Hs 1 σ z w) (M : Ms 38 σ z w) (I : Iv T σ) (R : RstR T w)
    (hc : ∃ (v : Int32) (w' : mz_M), mz_Call 11 c (.ref 0 :: as) w (some (.int v)) w' ∧ CO f w v w')
    (hm : ∀ w1, Ms 38 σ z w1 → (∀ k, ¬ Cp k → k ≠ 36 → w1 k = w k) → ∃ (v : Int32) (w' : mz_M), mz_Call 11 m (.ref 37 :: as) w1 (some (.int v)) w' ∧ MW f σ z w1 v w') : Both T T c m as w := by
  obtain ⟨v, w', a1, a2⟩ := hc
  rcases a2 with ⟨e, rfl, wt, rfl, F⟩ | ⟨n, e, rfl, F⟩
  · have ec : ∀ k, k ≠ 36 → cfW 3 wt k = wt k := fun k q => by unfold cfW; rw [mu_n q]
    have em : ∀ (v : mz_M) k, k ≠ 41 → mfW 3 v k = v k := fun v k q => by unfold mfW; rw [mu_n q]
    obtain ⟨v, w2, b1, b2⟩ := hm (cfW 3 wt) (M.fr (by rw [ec 38 (by decide), F 38 (by omega)])) (fun k q1 q2 => by rw [ec k q2, F k (by omega)])
    rcases b2 with ⟨-, rfl, wu, rfl, b3, b4, b5⟩ | ⟨m, e2, -⟩
    · have e37 : ∀ j, j ≠ 7 → j ≠ 8 → mfW 3 wu 37 j = w 37 j := fun j q1 q2 => by rw [em _ 37 (by decide), b5 j q1 q2, ec 37 (by decide), F 37 (by omega)]
      refine ⟨_, _, _, a1, b1, σ, z, H.fr (fun k x y => ?_), b3.fr (em _ 38 (by decide)), I, R.fnd (i := 3) (by decide) (fun k hk q1 q2 => ?_) (e37 3 (by decide) (by decide)) (e37 10 (by decide) (by decide)) ?_ ?_⟩
      · rw [em _ k (by omega), b4 k (by omega) (by omega), ec k (by omega), F k (by omega)]
      · rw [em _ k q2, b4 k (by omega) (by omega), ec k q1, F k (by omega)]
      · rw [em _ 36 (by decide), b4 36 (by omega) (by decide)]; unfold cfW; rw [mu_s, mu_s, F 36 (by omega)]
      · have e41 : wu 41 = w 41 := by rw [b4 41 (by omega) (by decide), ec 41 (by decide), F 41 (by omega)]
        unfold mfW; rw [mu_s, mu_s, e41]
    · omega
  · refine Both.okW (r := nI n) H M I R ⟨w', a1, F⟩ (fun w1 M1 F1 => ?_)
    obtain ⟨v, w2, b1, b2⟩ := hm w1 M1 (fun k q _ => F1 k (by omega))
    rcases b2 with ⟨e2, -⟩ | ⟨m, e2, rfl, b3, b4⟩
    · omega
    · rw [show n = m by omega]
      exact ⟨w2, b1, b3, b4⟩
section FT
variable {d : Nat} {w : mz_M} {T h : Nat} {σ : Nat → Nat} {z : Int32}
theorem hm_fitsIfListed (H : Hs 1 σ z w) (I : Iv T σ) (hT : T ≤ 99000) {s n i a b t : Nat} {f : Nat → Int32} (hs : s < 4) (hn : n ≤ 40) (en : w (28 + 2 * s) 1 = nI n) (ef : w (29 + 2 * s) = f) (hi : i < 6) (ht : t < 256) (ha : a < 8) (hb : b < 8) : ∃ w', mz_Call (d + 5) 105 [.ref 0, .ref (28 + 2 * s), .int (nI i), .int (nI t), .int (nI a), .int (nI b)] w (some (.int (nB (ftP a (b + 1) i σ f n t = true)))) w' ∧ Fr Tp w w' := by
  obtain ⟨w1, q1, q2, q3⟩ := hm_become (d := d + 3) (h := 9) (o := 1) (by omega) (by omega) (by decide) H
  have F1 : Fr Tp w (mz_up w1 10 (upd (w1 10) i (nI t))) := Fr.tr (q3.mono (by omega)) (Fr.up (by omega))
  obtain ⟨w2, p1, p2⟩ := hm_goesAsTold (d := d) (q2.list (i := i) (by omega) t) (I.put (by omega)) hT (s := s) (n := n) (a := a) (b := b + 1) hs hn (by rw [F1 (28 + 2 * s) (by omega)]; exact en) ha (by omega)
  rw [F1 (29 + 2 * s) (by omega), ef, nP_s] at p1
  refine ⟨w2, en_X3_fitsIfListed (sg_X3_fitsIfListed_0 (hk4 hs) ⟨w1, q1, vp_in_nI hi (by decide), ?_⟩), F1.tr p2⟩
  rw [nI_clamp (by omega)]
  exact ⟨_, _, p1, nB_z _, rfl, rfl⟩
theorem hm_fits (I : Iv T σ) (hT : T ≤ 99000) {s n i a b g : Nat} {f : Nat → Int32} (hs : s < 4) (hn : n ≤ 40) (en : w (28 + 2 * s) 1 = nI n) (ef : w (29 + 2 * s) = f) (hi : i < 6) (ha : a < 8) (hb : b < 8) (hg : g = cnF (ftP a (b + 1) i σ f n) 0 256) : ∀ (k t c : Nat) (j5 : Value) (w1 : mz_M), t + k = 2 ^ σ 1 → Hs 1 σ z w1 → Fr Tp w w1 → c + cnF (ftP a (b + 1) i σ f n) t k = cnF (ftP a (b + 1) i σ f n) 0 (2 ^ σ 1) → mz_Ex cd_X3_fits (mz_Call 10) (fun r2 w2 => ∃ u : Int32, r2 = some (.int u) ∧ (u = nI g ∧ Fr Tp w w2)) 38 [.ref 0, .int (nI s), .int (nI i), .int (nI a), .int (nI b), j5, .int (nI (2 ^ σ 1 - 1)), .int (nI c), .int (nI t)] [] w1 := by
  have h8 := I.2.1
  have hN : 2 ^ σ 1 ≤ 256 := Nat.pow_le_pow_right (n := 2) (by decide) h8
  have hN1 : 1 ≤ 2 ^ σ 1 := Nat.one_le_two_pow
  have cl := cw_le (ftP a (b + 1) i σ f n) (2 ^ σ 1) 0
  intro k
  induction k with
  | zero =>
    intro t c j5 w1 ht H1 F1 e
    rw [cnF, Nat.add_zero] at e
    refine sg_X3_fits_38 ?_
    rw [nI_ltI (by omega) (by omega), H1.2.2.2.1, pk_sub h8]
    refine ⟨fun _ => ⟨_, rfl, ?_, F1⟩, fun c => absurd (show 2 ^ σ 1 - 1 < t by omega) c⟩
    have e2 := cw_256 h8 (P := ftP a (b + 1) i σ f n) (ft_mod hi)
    have l2 := cw_le (ftP a (b + 1) i σ f n) 256 0
    rw [hg, e2, ← e, pk_shlN (n := c) (nI (8 - σ 1) &&& 31) (8 - σ 1) (nb_sh _ (by omega)) (by rw [← e] at e2; omega)]
  | succ k ih =>
    intro t c j5 w1 ht H1 F1 e
    rw [cnF] at e
    refine sg_X3_fits_38 ?_
    rw [nI_ltI (by omega) (by omega), nI_clamp (n := s) (by omega), gd4 s hs]
    refine ⟨fun c => absurd c (by omega), fun _ => ⟨vi4s hs, sg_X3_fits_52 (hk4 hs) ?_⟩⟩
    obtain ⟨w2, q1, q2⟩ := hm_fitsIfListed (d := 5) H1 I hT (s := s) (n := n) (i := i) (a := a) (b := b) (t := t) (f := f) hs hn (by rw [F1 (28 + 2 * s) (by omega)]; exact en) (by rw [F1 (29 + 2 * s) (by omega)]; exact ef) hi (by omega) ha hb
    have H2 := H1.fr (fun k x y => q2 k (by omega))
    rw [nI_add, nI_add]
    refine ⟨_, w2, q1, fun c2 => ?_, fun c2 => ?_⟩
    · rw [nB_0] at c2
      rw [if_neg c2, Nat.zero_add] at e
      exact ih (t + 1) c j5 w2 (by omega) H2 (F1.tr q2) e
    · rw [nB_0, Classical.not_not] at c2
      rw [if_pos c2] at e
      exact ih (t + 1) (c + 1) j5 w2 (by omega) H2 (F1.tr q2) (by omega)
theorem hm_went (I : Iv T σ) (hT : T ≤ 99000) {s n i a b g : Nat} {f : Nat → Int32} (hs : s < 4) (hn : n ≤ 40) (en : w (28 + 2 * s) 1 = nI n) (ef : w (29 + 2 * s) = f) (hi : i < 6) (ha : a < 8) (hb : b < 8) : ∀ (k t : Nat) (j5 : Value) (w1 : mz_M), t + k = 2 ^ σ 1 → Hs 1 σ z w1 → Fr Tp w w1 → g = fiS (ftP a (b + 1) i σ f n) t k → mz_Ex cd_X3_went (mz_Call 10) (fun r2 w2 => ∃ u : Int32, r2 = some (.int u) ∧ CO g w u w2) 35 [.ref 0, .int (nI s), .int (nI i), .int (nI a), .int (nI b), j5, .int (nI (2 ^ σ 1 - 1)), .int (nI t)] [] w1 := by
  have h8 := I.2.1
  have hN : 2 ^ σ 1 ≤ 256 := Nat.pow_le_pow_right (n := 2) (by decide) h8
  have hN1 : 1 ≤ 2 ^ σ 1 := Nat.one_le_two_pow
  intro k
  induction k with
  | zero =>
    intro t j5 w1 ht H1 F1 e
    refine sg_X3_went_35 ?_
    rw [nI_ltI (by omega) (by omega)]
    exact ⟨fun _ => ⟨_, _, hf3, _, rfl, Or.inl ⟨by rw [e]; rfl, rfl, w1, rfl, F1⟩⟩, fun c => absurd (show 2 ^ σ 1 - 1 < t by omega) c⟩
  | succ k ih =>
    intro t j5 w1 ht H1 F1 e
    rw [fiS] at e
    refine sg_X3_went_35 ?_
    rw [nI_ltI (by omega) (by omega), nI_clamp (n := s) (by omega), gd4 s hs]
    refine ⟨fun c => absurd c (by omega), fun _ => ⟨vi4s hs, sg_X3_went_49 (hk4 hs) ?_⟩⟩
    obtain ⟨w2, q1, q2⟩ := hm_fitsIfListed (d := 5) H1 I hT (s := s) (n := n) (i := i) (a := a) (b := b) (t := t) (f := f) hs hn (by rw [F1 (28 + 2 * s) (by omega)]; exact en) (by rw [F1 (29 + 2 * s) (by omega)]; exact ef) hi (by omega) ha hb
    have H2 := H1.fr (fun k x y => q2 k (by omega))
    rw [nI_add]
    refine ⟨_, w2, q1, fun c2 => ?_, fun c2 => ?_⟩
    · rw [nB_0] at c2
      rw [if_neg c2] at e
      exact ih (t + 1) j5 w2 (by omega) H2 (F1.tr q2) e
    · rw [nB_0, Classical.not_not] at c2
      rw [if_pos c2] at e
      exact ⟨_, rfl, Or.inr ⟨t, e, rfl, F1.tr q2⟩⟩
theorem mm_fitSets (M : Ms 38 σ z w) (I : Iv T σ) (hT : T ≤ 99000) {s n i a b : Nat} {f : Nat → Int32} (hs : s < 4) (hn : n ≤ 40) (en : w 48 s = nI n) (ef : ∀ j, j < 40 → f j = w 49 (40 * s + j)) (hi : i < 6) (ha : a < 8) (hb : b < 8) : ∃ w', mz_Call (d + 7) 173 [.ref 37, .int (nI s), .int (nI i), .int (nI a), .int (nI b)] w none w' ∧ (Ms 38 σ z w' ∧ Fw w w' ∧ w' 37 7 = nI (cnF (ftP a (b + 1) i σ f n) 0 256) ∧ w' 37 8 = nP (fiS (ftP a (b + 1) i σ f n) 0 256)) := by
  have hin : vp_in (nI (15 + i)) 101 := vp_in_nI (by omega) (by decide)
  have ke : (nI (15 + i)).toNatClampNeg = 15 + i := nI_clamp (by omega)
  have loop : ∀ (t k e : Nat) (j7 : Value) (w1 : mz_M), t + k = 256 → Ms 38 (su σ (15 + i) e) z w1 → Fw w w1 → w1 37 7 = nI (cnF (ftP a (b + 1) i σ f n) t k) → w1 37 8 = nP (fiS (ftP a (b + 1) i σ f n) t k) → mz_Ex cd_X4_fitSets (mz_Call (d + 6)) (fun r2 w2 => r2 = none ∧ (Ms 38 σ z w2 ∧ Fw w w2 ∧ w2 37 7 = nI (cnF (ftP a (b + 1) i σ f n) 0 256) ∧ w2 37 8 = nP (fiS (ftP a (b + 1) i σ f n) 0 256))) 26 [.ref 37, .int (nI s), .int (nI i), .int (nI a), .int (nI b), .int (nI (σ (15 + i))), .int (nP t), j7] [] w1 := by
    intro t
    induction t with
    | zero =>
      intro k e j7 w1 hk M1 F1 e7 e8
      rw [show k = 256 by omega] at e7 e8
      have M2 := M1.set (j := 15 + i) (v := σ (15 + i)) (by omega)
      rw [su_su, su_id] at M2
      refine sg_X4_fitSets_26 ?_
      rw [nI_add, ke]
      refine ⟨fun _ => ⟨hin, rfl, M2, F1.tr (Fw.of (Fr.up (by omega))), ?_, ?_⟩, fun c => absurd (by decide) c⟩
      · rw [mu_n (by decide)]; exact e7
      · rw [mu_n (by decide)]; exact e8
    | succ t ih =>
      intro k e j7 w1 hk M1 F1 e7 e8
      have M2 := M1.set (j := 15 + i) (v := t) (by omega)
      rw [su_su] at M2
      have F2 : Fw w (mz_up w1 38 (upd (w1 38) (15 + i) (nI t))) := F1.tr (Fw.of (Fr.up (by omega)))
      obtain ⟨w2, q1, q2, q3⟩ := mm_wasSo (d := d) M2 (I.put (k := 15 + i) (v := t) (by omega)) hT (s := s) (n := n) (a := a) (b := b + 1) (f := f) hs hn (by rw [F2.1 48 (by omega) (by decide)]; exact en) (fun j hj => by rw [F2.1 49 (by omega) (by decide)]; exact ef j hj) ha (by omega)
      rw [nP_s] at q1
      have F3 := F2.tr (Fw.of q3)
      have g7 : w2 37 7 = nI (cnF (ftP a (b + 1) i σ f n) (t + 1) k) := by rw [q3 37 (by omega), mu_n (by decide)]; exact e7
      have g8 : w2 37 8 = nP (fiS (ftP a (b + 1) i σ f n) (t + 1) k) := by rw [q3 37 (by omega), mu_n (by decide)]; exact e8
      refine sg_X4_fitSets_26 ?_
      rw [nP_s, nI_ltI (by omega) (by decide), nI_add, ke, nP_m]
      refine ⟨fun c => absurd c (by omega), fun _ => ⟨hin, _, w2, q1, fun c => ⟨fun _ => ?_, fun c2 => absurd c c2⟩, fun c => ⟨fun c2 => absurd c2 c, fun _ => ?_⟩⟩⟩
      · refine ih (k + 1) t _ (sv w2 (w2 37 7 + nI 0) (mz_up w2 37 (upd (w2 37) 7 (w2 37 7 + nI 0)) 37 8)) (by omega) (q2.fr (sv_n _ _ _ (by decide))) (F3.tr (sv_F _ _ _)) ?_ ?_
        · rw [nB_0] at c
          rw [sv_7, g7, nI_add, cnF, if_neg (show ¬ ftP a (b + 1) i σ f n t = true from c), Nat.zero_add, Nat.add_zero]
        · rw [nB_0] at c
          rw [sv_8, mu_s, pk_un (by decide), g8, fiS, if_neg (show ¬ ftP a (b + 1) i σ f n t = true from c)]
      · refine ih (k + 1) t _ (sv w2 (w2 37 7 + nI 1) (nI t)) (by omega) (q2.fr (sv_n _ _ _ (by decide))) (F3.tr (sv_F _ _ _)) ?_ ?_
        · rw [nB_0, Classical.not_not] at c
          rw [sv_7, g7, nI_add, cnF, if_pos (show ftP a (b + 1) i σ f n t = true from c), Nat.add_comm]
        · rw [nB_0, Classical.not_not] at c
          rw [sv_8, fiS, if_pos (show ftP a (b + 1) i σ f n t = true from c), nP_s]
  refine ec_X4_fitSets (sg_X4_fitSets_0 ?_)
  rw [nI_add, ke, M.2.2.2.2.2 (15 + i) (by omega) (by omega)]
  have L := loop 256 0 (σ (15 + i)) .null (sv w (nI 0) (-1 : Int32)) (by decide) (by rw [su_id]; exact M.fr (sv_n _ _ _ (by decide))) (sv_F _ _ _) (sv_7 _ _ _) (sv_8 _ _ _)
  exact ⟨hin, L⟩
/-- the finding ahead of the class's search -/
theorem ff_b {x i a b : Int32} (c : ¬ wn x (nI 0) (nI 3)) : mz_Call (d + 4) 101 [.ref 0, .int x, .int i, .int a, .int b] w (some (.int (-1000001 : Int32))) w :=
  en_X3_fitFault (sg_X3_fitFault_0 ⟨_, _, sf_b c, nA fq0, fun _ => ⟨rfl, rfl⟩⟩)
theorem ff_m {s : Nat} {i a b : Int32} (hs : s < 4) (e : w (28 + 2 * s) 0 = nI 0) : mz_Call (d + 4) 101 [.ref 0, .int (nI s), .int i, .int a, .int b] w (some (.int (-1000006 : Int32))) w :=
  en_X3_fitFault (sg_X3_fitFault_0 ⟨_, _, sf_m hs e, nA fq5, fun _ => ⟨rfl, rfl⟩⟩)
theorem ff_n (H : Hs 1 σ z w) {s : Nat} {i a b : Int32} (hs : s < 4) (e : ¬ w (28 + 2 * s) 0 = nI 0) (c : ¬ (wn i (nI 0) (nI 5) ∧ is2 (σ 1) a b)) : mz_Call (d + 4) 101 [.ref 0, .int (nI s), .int i, .int a, .int b] w (some (.int (-1000001 : Int32))) w := by
  refine en_X3_fitFault (sg_X3_fitFault_0 ⟨_, _, sf_o hs e, fun _ => ⟨_, _, hm_within _ _ _, fun _ => ⟨rfl, rfl⟩, fun c1 => ⟨_, _, hm_areTwo H _ _, fun _ => ⟨rfl, rfl⟩, fun c2 => ?_⟩⟩, nS⟩)
  rw [nB_0, Classical.not_not] at c1 c2
  exact absurd ⟨c1, c2⟩ c
theorem ff_o (H : Hs 1 σ z w) {s : Nat} {i a b : Int32} (hs : s < 4) (e : ¬ w (28 + 2 * s) 0 = nI 0) (c : wn i (nI 0) (nI 5) ∧ is2 (σ 1) a b) : mz_Call (d + 4) 101 [.ref 0, .int (nI s), .int i, .int a, .int b] w (some (.int (nI 0))) w :=
  en_X3_fitFault (sg_X3_fitFault_0 ⟨_, _, sf_o hs e, fun _ => ⟨_, _, hm_within _ _ _, nY c.1, fun _ => ⟨_, _, hm_areTwo H _ _, nY c.2, fun _ => ⟨rfl, rfl⟩⟩⟩, nS⟩)
theorem bo_fits (R : Rel T w) (hT : T ≤ 90000) (x i a b : Int32) : Both T T 70 174 [.int x, .int i, .int a, .int b] w := by
  obtain ⟨σ, z, H, M, I, R⟩ := R
  have h8 := I.2.1
  by_cases c : wn x (nI 0) (nI 3)
  · obtain ⟨s, -, hs, rfl⟩ := (wn_iff (by decide) (by decide)).mp c
    obtain ⟨s1, s2, ⟨n, hn, s3⟩, s4, s5⟩ := R.2.2.2 s (by omega)
    by_cases q : w 47 s = nI 0
    · exact Both.f0F (z7 5) H M I R (en_X3_fits (sg_X3_fits_0 ⟨_, _, ff_m (by omega) (by rw [s1]; exact q), nA fq5, fun _ => ⟨_, _, hf5, rfl, rfl⟩⟩)) (fun w1 M1 F1 => en_X4_fits (sg_X4_fits_0 ⟨_, _, mm_isPlace _, fun _ => ⟨_, _, lk_m (by omega) (by rw [F1 47 (by omega) (by decide)]; exact q), nA fq5, fun _ => ⟨_, _, mf5, rfl, rfl⟩⟩, fun _ => ⟨_, _, mm_areTwo M1 _ _, fun _ => ⟨_, _, lk_m (by omega) (by rw [F1 47 (by omega) (by decide)]; exact q), nA fq5, fun _ => ⟨_, _, mf5, rfl, rfl⟩⟩, fun _ => ⟨_, _, lk_m (by omega) (by rw [F1 47 (by omega) (by decide)]; exact q), nA fq5, fun _ => ⟨_, _, mf5, rfl, rfl⟩⟩⟩⟩))
    · by_cases c2 : wn i (nI 0) (nI 5) ∧ is2 (σ 1) a b
      · obtain ⟨i, -, hi, rfl⟩ := (wn_iff (by decide) (by decide)).mp c2.1
        obtain ⟨a, b, ha, hb, hab, rfl, rfl⟩ := (is2_iff h8).mp c2.2
        refine Both.okW (r := nI (cnF (ftP a (b + 1) i σ (w (29 + 2 * s)) n) 0 256)) H M I R ?_ (fun w1 M1 F1 => ?_)
        · obtain ⟨u, w2, a1, a2, a3⟩ := ec_X3_fits (d := 10) (Po := fun u w2 => u = nI (cnF (ftP a (b + 1) i σ (w (29 + 2 * s)) n) 0 256) ∧ Fr Tp w w2) (sg_X3_fits_0 ⟨_, _, ff_o H (by omega) (by rw [s1]; exact q) c2, fun _ => ⟨_, _, hm_everyone (Or.inl rfl) H I, hm_fits I (by omega) (by omega) hn (by rw [s2]; exact s3) rfl (by omega) (by omega) (by omega) rfl (2 ^ σ 1) 0 0 _ w (by omega) H Fr.rf (by rw [Nat.zero_add])⟩, nS⟩)
          subst a2
          exact ⟨w2, a1, a3⟩
        · obtain ⟨w2, q1, q2, q3, q4, q5⟩ := mm_fitSets (d := 3) M1 I (by omega) (s := s) (n := n) (i := i) (a := a) (b := b) (f := w (29 + 2 * s)) (by omega) hn (by rw [F1 48 (by omega)]; exact s3) (fun j hj => by rw [F1 49 (by omega)]; exact s5 j hj) (by omega) (by omega) (by omega)
          exact ⟨w2, en_X4_fits (sg_X4_fits_0 ⟨_, _, mm_isPlace _, nY c2.1, fun _ => ⟨_, _, mm_areTwo M1 _ _, nY c2.2, fun _ => ⟨_, _, lk_o (by omega) (by rw [F1 47 (by omega)]; exact q), fun _ => ⟨w2, q1, by rw [q4], rfl⟩, nS⟩⟩⟩), q2, q3⟩
      · exact Both.f0F (z7 0) H M I R (en_X3_fits (sg_X3_fits_0 ⟨_, _, ff_n H (by omega) (by rw [s1]; exact q) c2, nA fq0, fun _ => ⟨_, _, hf0, rfl, rfl⟩⟩)) (fun w1 M1 F1 => en_X4_fits (sg_X4_fits_0 ⟨_, _, mm_isPlace _, fun _ => ⟨_, _, lk_n (by omega) (by rw [F1 47 (by omega) (by decide)]; exact q), nA fq0, fun _ => ⟨_, _, mf0, rfl, rfl⟩⟩, fun c3 => ⟨_, _, mm_areTwo M1 _ _, fun _ => ⟨_, _, lk_n (by omega) (by rw [F1 47 (by omega) (by decide)]; exact q), nA fq0, fun _ => ⟨_, _, mf0, rfl, rfl⟩⟩, fun c4 => absurd ⟨Classical.not_not.mp (fun z => c3 (nB_0.mpr z)), Classical.not_not.mp (fun z => c4 (nB_0.mpr z))⟩ c2⟩⟩))
  · exact Both.f0 (z7 0) H M I R (en_X3_fits (sg_X3_fits_0 ⟨_, _, ff_b c, nA fq0, fun _ => ⟨_, _, hf0, rfl, rfl⟩⟩)) (fun w1 M1 => en_X4_fits (sg_X4_fits_0 ⟨_, _, mm_isPlace _, fun _ => ⟨_, _, lk_b c, nA fq0, fun _ => ⟨_, _, mf0, rfl, rfl⟩⟩, fun _ => ⟨_, _, mm_areTwo M1 _ _, fun _ => ⟨_, _, lk_b c, nA fq0, fun _ => ⟨_, _, mf0, rfl, rfl⟩⟩, fun _ => ⟨_, _, lk_b c, nA fq0, fun _ => ⟨_, _, mf0, rfl, rfl⟩⟩⟩⟩))
theorem bo_went (R : Rel T w) (hT : T ≤ 90000) (x i a b : Int32) : Both T T 71 175 [.int x, .int i, .int a, .int b] w := by
  obtain ⟨σ, z, H, M, I, R⟩ := R
  have h8 := I.2.1
  by_cases c : wn x (nI 0) (nI 3)
  · obtain ⟨s, -, hs, rfl⟩ := (wn_iff (by decide) (by decide)).mp c
    obtain ⟨s1, s2, ⟨n, hn, s3⟩, s4, s5⟩ := R.2.2.2 s (by omega)
    by_cases q : w 47 s = nI 0
    · exact Both.f0F (z7 5) H M I R (en_X3_went (sg_X3_went_0 ⟨_, _, ff_m (by omega) (by rw [s1]; exact q), nA fq5, fun _ => ⟨_, _, hf5, rfl, rfl⟩⟩)) (fun w1 M1 F1 => en_X4_went (sg_X4_went_0 ⟨_, _, mm_isPlace _, fun _ => ⟨_, _, lk_m (by omega) (by rw [F1 47 (by omega) (by decide)]; exact q), nA fq5, fun _ => ⟨_, _, mf5, rfl, rfl⟩⟩, fun _ => ⟨_, _, mm_areTwo M1 _ _, fun _ => ⟨_, _, lk_m (by omega) (by rw [F1 47 (by omega) (by decide)]; exact q), nA fq5, fun _ => ⟨_, _, mf5, rfl, rfl⟩⟩, fun _ => ⟨_, _, lk_m (by omega) (by rw [F1 47 (by omega) (by decide)]; exact q), nA fq5, fun _ => ⟨_, _, mf5, rfl, rfl⟩⟩⟩⟩))
    · by_cases c2 : wn i (nI 0) (nI 5) ∧ is2 (σ 1) a b
      · obtain ⟨i, -, hi, rfl⟩ := (wn_iff (by decide) (by decide)).mp c2.1
        obtain ⟨a, b, ha, hb, hab, rfl, rfl⟩ := (is2_iff h8).mp c2.2
        refine Both.srchW (fiS (ftP a (b + 1) i σ (w (29 + 2 * s)) n) 0 256) H M I R ?_ (fun w1 M1 F1 => ?_)
        · exact ec_X3_went (d := 10) (sg_X3_went_0 ⟨_, _, ff_o H (by omega) (by rw [s1]; exact q) c2, fun _ => ⟨_, _, hm_everyone (Or.inl rfl) H I, hm_went I (by omega) (by omega) hn (by rw [s2]; exact s3) rfl (by omega) (by omega) (by omega) (2 ^ σ 1) 0 _ w (by omega) H Fr.rf (fi_256 h8 (ft_mod (by omega)))⟩, nS⟩)
        · obtain ⟨w2, q1, q2, q3, q4, q5⟩ := mm_fitSets (d := 3) M1 I (by omega) (s := s) (n := n) (i := i) (a := a) (b := b) (f := w (29 + 2 * s)) (by omega) hn (by rw [F1 48 (by omega) (by decide)]; exact s3) (fun j hj => by rw [F1 49 (by omega) (by decide)]; exact s5 j hj) (by omega) (by omega) (by omega)
          have fl := fi_le (ftP a (b + 1) i σ (w (29 + 2 * s)) n) 256 0
          generalize hf : fiS (ftP a (b + 1) i σ (w (29 + 2 * s)) n) 0 256 = g at q5 fl ⊢
          rcases Nat.eq_zero_or_pos g with e | e
          · subst e
            rw [nP_0] at q5
            exact ⟨_, _, en_X4_went (sg_X4_went_0 ⟨_, _, mm_isPlace _, nY c2.1, fun _ => ⟨_, _, mm_areTwo M1 _ _, nY c2.2, fun _ => ⟨_, _, lk_o (by omega) (by rw [F1 47 (by omega) (by decide)]; exact q), fun _ => ⟨w2, q1, _, _, by rw [q5]; exact rf_none, rfl, rfl⟩, nS⟩⟩⟩), Or.inl ⟨rfl, rfl, w2, rfl, q2, q3⟩⟩
          · obtain ⟨m, rfl⟩ : ∃ m, g = m + 1 := ⟨g - 1, by omega⟩
            rw [nP_s] at q5
            exact ⟨_, _, en_X4_went (sg_X4_went_0 ⟨_, _, mm_isPlace _, nY c2.1, fun _ => ⟨_, _, mm_areTwo M1 _ _, nY c2.2, fun _ => ⟨_, _, lk_o (by omega) (by rw [F1 47 (by omega) (by decide)]; exact q), fun _ => ⟨w2, q1, _, _, by rw [q5]; exact rf_some (by omega), rfl, rfl⟩, nS⟩⟩⟩), Or.inr ⟨m, rfl, rfl, q2, q3⟩⟩
      · exact Both.f0F (z7 0) H M I R (en_X3_went (sg_X3_went_0 ⟨_, _, ff_n H (by omega) (by rw [s1]; exact q) c2, nA fq0, fun _ => ⟨_, _, hf0, rfl, rfl⟩⟩)) (fun w1 M1 F1 => en_X4_went (sg_X4_went_0 ⟨_, _, mm_isPlace _, fun _ => ⟨_, _, lk_n (by omega) (by rw [F1 47 (by omega) (by decide)]; exact q), nA fq0, fun _ => ⟨_, _, mf0, rfl, rfl⟩⟩, fun c3 => ⟨_, _, mm_areTwo M1 _ _, fun _ => ⟨_, _, lk_n (by omega) (by rw [F1 47 (by omega) (by decide)]; exact q), nA fq0, fun _ => ⟨_, _, mf0, rfl, rfl⟩⟩, fun c4 => absurd ⟨Classical.not_not.mp (fun z => c3 (nB_0.mpr z)), Classical.not_not.mp (fun z => c4 (nB_0.mpr z))⟩ c2⟩⟩))
  · exact Both.f0 (z7 0) H M I R (en_X3_went (sg_X3_went_0 ⟨_, _, ff_b c, nA fq0, fun _ => ⟨_, _, hf0, rfl, rfl⟩⟩)) (fun w1 M1 => en_X4_went (sg_X4_went_0 ⟨_, _, mm_isPlace _, fun _ => ⟨_, _, lk_b c, nA fq0, fun _ => ⟨_, _, mf0, rfl, rfl⟩⟩, fun _ => ⟨_, _, mm_areTwo M1 _ _, fun _ => ⟨_, _, lk_b c, nA fq0, fun _ => ⟨_, _, mf0, rfl, rfl⟩⟩, fun _ => ⟨_, _, lk_b c, nA fq0, fun _ => ⟨_, _, mf0, rfl, rfl⟩⟩⟩⟩))
end FT
