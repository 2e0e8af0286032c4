/-! text -/
section TXA
variable {d : Nat} {w : mz_M} {T : Nat} {σ : Nat → Nat} {z : Int32}
theorem mm_becomeD (M : Ms 38 σ z w) (v : Nat) : ∃ w', mz_Call (d + 1) 109 [.ref 37, .int (nI 3), .int (nI v)] w (some (.int (nI (σ 3)))) w' ∧ Ms 38 (su σ 3 v) z w' ∧ Fr (fun k => k = 38) w w' := by
  refine ⟨mz_up w 38 (upd (w 38) 3 (nI v)), en_X4_become (sg_X4_become_0 ?_), M.damp, Fr.up rfl⟩
  rw [nc3, M.2.2.2.1]
  exact ⟨vi3, vi3, rfl, rfl⟩
/-- an item told, by the reference -/
theorem mm_told (M : Ms 38 σ z w) (I : Iv T σ) {q : Nat × Nat × Nat × Nat × Nat} {j : Nat} (hj : j < 120) (h : iOk (σ 1) q) (E : enc j q w) : ∃ (r : Int32) (w' : mz_M), mz_Call (d + 3) 193 [.ref 37, .int (nI (4 * j))] w (some (.int r)) w' ∧ (¬ r < nI 0 ∧ Ms 38 (apI σ q) z w' ∧ Fr (fun k => k = 38) w w') := by
  obtain ⟨e0, e1, e2, e3⟩ := E
  refine ec_X4_isToldSo (sg_X4_isToldSo_0 ?_)
  rw [nI_add, nI_add, nI_add, nI_clamp (n := 4 * j) (by omega), nI_clamp (n := 4 * j + 1) (by omega), nI_clamp (n := 4 * j + 2) (by omega), nI_clamp (n := 4 * j + 3) (by omega), e0, e1, e2]
  have i0 : vp_in (nI (4 * j)) 480 := vp_in_nI (by omega) (by decide)
  refine ⟨vp_in_nI (by omega) (by decide), vp_in_nI (by omega) (by decide), i0, ?_⟩
  rcases h with ⟨a, b, c⟩ | ⟨a, b⟩ | ⟨a, b, c, f, g⟩
  · have l := I.2.2.2.2.1 (15 + q.2.2.1) (by omega) (by omega)
    obtain ⟨w1, b1, b2, b3⟩ := mm_become (d := d + 1) M (j := 15 + q.2.2.1) (v := q.2.2.2.1) (by omega) (by omega)
    rw [a, if_neg (by omega), nI_add]
    refine ⟨fun _ => ⟨_, w1, b1, _, rfl, nI_pos (by omega), ?_, b3⟩, nS⟩
    unfold apI
    rw [if_pos a]
    exact b2
  · have l := I.2.2.1
    obtain ⟨w1, b1, b2, b3⟩ := mm_becomeD (d := d + 1) M q.2.2.1
    rw [a]
    refine ⟨fun c => absurd c (by decide), fun _ => ⟨i0, fun _ => ⟨_, w1, b1, _, rfl, nI_pos (by omega), ?_, b3⟩, nS⟩⟩
    unfold apI
    rw [if_neg (by omega), if_pos a]
    exact b2
  · obtain ⟨w1, b1, b2, b3⟩ := mm_comes (d := d + 1) M b q.2.1 q.2.2.1
    have J := I.come b a c
    rw [if_pos a, nP_neg (by omega), nI_eq (by omega) (by omega), nI_eq (by omega) (by omega)]
    refine ⟨fun c => absurd c (by omega), fun _ => ⟨i0, fun c => absurd c (by omega), fun _ => ⟨i0, _, w1, b1, fun cz => ⟨_, rfl, nI_pos (by omega), ?_, b3⟩, fun cz => ⟨vp_in_nI (by omega) (by decide), ?_⟩⟩⟩⟩
    · unfold apI
      rw [if_neg (by omega), if_neg (by omega), if_pos cz]
      exact b2
    · obtain ⟨w2, c1, c2, c3⟩ := mm_makeKin (d := d) b2 (a := σ 1) (b := q.2.2.2.1 - 1) (v := q.2.2.2.2) b (by omega) (by omega)
      have l := J.2.2.2.2.2.2.2.1 (37 + 8 * σ 1 + (q.2.2.2.1 - 1)) (by omega) (by omega)
      rw [nP_pos (by omega), b3 46 (by decide), e3]
      refine ⟨_, w2, c1, _, rfl, nI_pos (by omega), ?_, b3.tr c3⟩
      unfold apI
      rw [if_neg (by omega), if_neg (by omega), if_neg cz, kS_comm]
      exact c2
end TXA
/-- behind j items that are told, each with a sign behind it: the row, where the next begins -/
def sq (B : Nat → Nat) (N : Nat) (σ : Nat → Nat) : Nat → (Nat → Nat) × Nat
  | 0 => (σ, 0)
  | j + 1 => match itP B N ((sq B N σ j).1 1) (sq B N σ j).2 with
    | .inl _ => sq B N σ j
    | .inr q => (apI (sq B N σ j).1 q, te B N q.1)
abbrev rd (B : Nat → Nat) (N : Nat) (σ : Nat → Nat) (j : Nat) : iT := itP B N ((sq B N σ j).1 1) (sq B N σ j).2
def gs (B : Nat → Nat) (N : Nat) (σ : Nat → Nat) (j : Nat) : Prop := ∃ q, rd B N σ j = .inr q ∧ tk B N q.1 = 3
theorem sq_s {B : Nat → Nat} {N : Nat} {σ : Nat → Nat} {j : Nat} {q : Nat × Nat × Nat × Nat × Nat} (h : rd B N σ j = .inr q) : sq B N σ (j + 1) = (apI (sq B N σ j).1 q, te B N q.1) := by
  have h2 : itP B N ((sq B N σ j).1 1) (sq B N σ j).2 = .inr q := h
  rw [sq, h2]
theorem te_3 {B : Nat → Nat} {N e : Nat} (h : tk B N e = 3) : te B N e = ts B N e + 1 := by
  unfold te
  rw [if_neg (by omega), if_neg (by omega), if_pos h]
theorem sq_ok {B : Nat → Nat} {N T : Nat} {σ : Nat → Nat} (I : Iv T σ) : ∀ j, (∀ i, i < j → gs B N σ i) → Iv T (sq B N σ j).1 ∧ 2 * j ≤ (sq B N σ j).2 ∧ (sq B N σ j).2 ≤ N
  | 0, _ => ⟨I, Nat.le_refl _, Nat.zero_le _⟩
  | j + 1, h => by
    obtain ⟨a1, a2, a3⟩ := sq_ok I j (fun i hi => h i (by omega))
    obtain ⟨q, b1, b2⟩ := h j (by omega)
    obtain ⟨c1, c2, c3⟩ := (it_ok a3).2 q b1
    have t1 := te_3 b2
    have t2 := ts_le B c2
    have t3 := te_le B c2
    rw [sq_s b1]
    exact ⟨a1.item c3, by show 2 * (j + 1) ≤ te B N q.1; omega, t3.2⟩
theorem sq_end {B : Nat → Nat} {N T : Nat} {σ : Nat → Nat} (hN : N ≤ 120) (I : Iv T σ) : ∃ J, J ≤ 60 ∧ (∀ i, i < J → gs B N σ i) ∧ ¬ gs B N σ J := by
  have all : ∀ m, (∀ i, i < m → gs B N σ i) ∨ ∃ J, (∀ i, i < J → gs B N σ i) ∧ ¬ gs B N σ J := by
    intro m
    induction m with
    | zero => exact Or.inl (fun i hi => absurd hi (by omega))
    | succ m ih =>
      rcases ih with h | h
      · by_cases c : gs B N σ m
        · refine Or.inl (fun i hi => ?_)
          by_cases e : i = m
          · rw [e]; exact c
          · exact h i (by omega)
        · exact Or.inr ⟨m, h, c⟩
      · exact Or.inr h
  rcases all 61 with h | ⟨J, h1, h2⟩
  · have := sq_ok I 61 h
    omega
  · have := sq_ok I J h1
    exact ⟨J, by omega, h1, h2⟩
/-- where the reading ends -/
def os (B : Nat → Nat) (N : Nat) (r : iT) : Nat := match r with
  | .inl f => ts B N f
  | .inr q => ts B N q.1
def fin (B : Nat → Nat) (N : Nat) (r : iT) (q : Nat × Nat × Nat × Nat × Nat) : Prop := r = .inr q ∧ tk B N q.1 = 0
section TXT
variable {d : Nat} {w : mz_M} {B : Nat → Nat} {N T J : Nat} {σ : Nat → Nat} {z : Int32}
def tPo (B : Nat → Nat) (N : Nat) (σ : Nat → Nat) (z : Int32) (J : Nat) (w : mz_M) (u : Int32) (w' : mz_M) : Prop := FT w w' ∧ ((∃ q, fin B N (rd B N σ J) q ∧ u = nI (J + 1) ∧ Hs 9 (apI (sq B N σ J).1 q) z w') ∨ ((∀ q, ¬ fin B N (rd B N σ J) q) ∧ u = (-1 : Int32) - nI (os B N (rd B N σ J))))
theorem hm_tellInto (hN : N ≤ 120) (hB : ∀ j, B j < 256) (I : Iv T σ) (hJ : J ≤ 60) (hg : ∀ i, i < J → gs B N σ i) (hn : ¬ gs B N σ J) (TT : TB B N w) (H : Hs 9 σ z w) : ∃ (u : Int32) (w' : mz_M), mz_Call (d + 7) 35 [.ref 25, .ref 9] w (some (.int u)) w' ∧ tPo B N σ z J w u w' := by
  have loop : ∀ m j w1, j + m = J → TB B N w1 → Tk B N (sq B N σ j).2 w1 → Hs 9 (sq B N σ j).1 z w1 → FT w w1 → mz_Ex cd_X2_tellInto (mz_Call (d + 6)) (fun r1 w' => ∃ u : Int32, r1 = some (.int u) ∧ tPo B N σ z J w u w') 11 [.ref 25, .ref 9, .int (nI (j + 1))] [] w1 := by
    intro m
    induction m with
    | zero =>
      intro j w1 hj T1 K1 H1 F1
      have ej : j = J := by omega
      subst ej
      obtain ⟨a1, a2, a3⟩ := sq_ok I j hg
      obtain ⟨u, w2, b1, b2, b3⟩ := hm_tellItem (d := d) hN hB a3 a1 T1 K1 H1
      have F2 := F1.tr b2
      refine sg_X2_tellInto_11 ?_
      rw [nI_ltI (by omega) (by omega)]
      refine ⟨fun c => absurd c (by omega), fun _ => ⟨u, w2, b1, ?_⟩⟩
      rcases b3 with ⟨f, e1, e2, e3⟩ | ⟨q, e1, e2, e3, e4⟩
      · refine ⟨fun _ => ⟨_, rfl, F2, Or.inr ⟨fun q hq => ?_, ?_⟩⟩, fun c => absurd e2 c⟩
        · exact absurd (e1.symm.trans hq.1) (by intro h; cases h)
        · rw [show rd B N σ j = .inl f from e1, e3]
          rfl
      · have hk := tk_le B N q.1
        have k3 : ¬ tk B N q.1 = 3 := fun h => hn ⟨q, e1, h⟩
        rw [e3.2.2.1, nI_eq (by omega) (by omega), nI_eq (by omega) (by omega), e3.1]
        refine ⟨fun c => absurd (e2.symm.trans c) n10, fun _ => ⟨fun k0 => ⟨_, rfl, F2, Or.inl ⟨q, ⟨e1, k0⟩, rfl, e4⟩⟩, fun k0 => ⟨fun h => absurd h k3, fun _ => ⟨_, rfl, F2, Or.inr ⟨fun p hp => ?_, ?_⟩⟩⟩⟩⟩
        · have := Sum.inr.inj (e1.symm.trans hp.1)
          rw [← this] at hp
          exact k0 hp.2
        · rw [show rd B N σ j = .inr q from e1]
          rfl
    | succ m ih =>
      intro j w1 hj T1 K1 H1 F1
      obtain ⟨a1, a2, a3⟩ := sq_ok I j (fun i hi => hg i (by omega))
      obtain ⟨q, g1, g2⟩ := hg j (by omega)
      obtain ⟨u, w2, b1, b2, b3⟩ := hm_tellItem (d := d) hN hB a3 a1 T1 K1 H1
      have F2 := F1.tr b2
      have T2 := T1.ft b2
      refine sg_X2_tellInto_11 ?_
      rw [nI_ltI (by omega) (by omega)]
      refine ⟨fun c => absurd c (by omega), fun _ => ⟨u, w2, b1, ?_⟩⟩
      rcases b3 with ⟨f, e1, e2, e3⟩ | ⟨q', e1, e2, e3, e4⟩
      · exact absurd (e1.symm.trans g1) (by intro h; cases h)
      · obtain rfl := Sum.inr.inj (e1.symm.trans g1)
        obtain ⟨l1, l2, l3⟩ := (it_ok a3).2 _ g1
        obtain ⟨w3, c1, c2, c3⟩ := hm_advance (d := d + 4) hN hB (te_le B l2).2 T2 e3.2.1
        rw [e3.2.2.1, g2]
        refine ⟨fun c => absurd (e2.symm.trans c) n10, fun _ => ⟨fun c => absurd c (by decide), fun _ => ⟨fun _ => ⟨w3, c1, ?_⟩, nS⟩⟩⟩
        rw [nI_add]
        refine ih (j + 1) w3 (by omega) (T2.fr c3) ?_ ?_ (F2.tr (FT.a c3))
        · rw [sq_s g1]; exact c2
        · rw [sq_s g1]; exact e4.fa c3
  obtain ⟨w1, a1, a2, a3⟩ := hm_advance (d := d + 4) hN hB (e := 0) (Nat.zero_le _) (TT.fr (FA.up (j := 4) (x := nI 0) (by decide))) (by rw [mu_s, pk_us])
  have F1 := (FA.up (w := w) (j := 4) (x := nI 0) (by decide)).tr a3
  exact ec_X2_tellInto (sg_X2_tellInto_0 ⟨w1, a1, loop J 0 w1 (by omega) (TT.fr F1) a2 (H.fa F1) (FT.a F1)⟩)
/-- the items so far stand in their row -/
def IR (B : Nat → Nat) (N : Nat) (σ : Nat → Nat) (j : Nat) (w : mz_M) : Prop := ∀ i, i < j → ∀ q, rd B N σ i = .inr q → enc i q w
theorem enc.fr {i m : Nat} {q : Nat × Nat × Nat × Nat × Nat} {w w' : mz_M} (E : enc i q w) (h : i < m) (F : ∀ j, j < 4 * m → w' 46 j = w 46 j) : enc i q w' := by
  unfold enc
  rw [F _ (by omega), F _ (by omega), F _ (by omega), F _ (by omega)]
  exact E
def xPo (B : Nat → Nat) (N : Nat) (σ : Nat → Nat) (z : Int32) (J : Nat) (w : mz_M) : mz_Q := fun r1 w' => ∃ u : Int32, r1 = some (.int u) ∧ (w' 37 10 = nI 0 ∧ w' 37 3 = w 37 3 ∧ (∀ k, k ≠ 37 → k ≠ 38 → k ≠ 46 → w' k = w k) ∧ ((∃ q, fin B N (rd B N σ J) q ∧ u = nI (J + 1) ∧ Ms 38 (apI (sq B N σ J).1 q) z w') ∨ ((∀ q, ¬ fin B N (rd B N σ J) q) ∧ u = (-1 : Int32) - nI (os B N (rd B N σ J)) ∧ Ms 38 σ z w')))
/-- all items told -/
theorem rf_told (I : Iv T σ) (hJ : J ≤ 60) (hg : ∀ i, i < J → gs B N σ i) {q : Nat × Nat × Nat × Nat × Nat} (hf : fin B N (rd B N σ J) q) : ∀ m j w1, j + m = J + 1 → Ms 38 (sq B N σ j).1 z w1 → IR B N σ (J + 1) w1 → w1 37 18 = nI (J + 1) → w1 37 10 = nI 0 → w1 37 3 = w 37 3 → (∀ k, k ≠ 37 → k ≠ 38 → k ≠ 46 → w1 k = w k) → mz_Ex cd_X4_text (mz_Call 10) (xPo B N σ z J w) 113 [.ref 37, .int (nI j), .int (nI j)] [] w1 := by
  have all : ∀ i, i ≤ J → ∃ p, rd B N σ i = .inr p := by
    intro i hi
    by_cases e : i = J
    · rw [e]; exact ⟨q, hf.1⟩
    · obtain ⟨p, h, -⟩ := hg i (by omega)
      exact ⟨p, h⟩
  intro m
  induction m with
  | zero =>
    intro j w1 hj M1 R1 e18 e10 e3 F1
    have ej : j = J + 1 := by omega
    subst ej
    rw [sq_s hf.1] at M1
    refine sg_X4_text_113 ?_
    rw [e18, nI_ltI (by omega) (by omega)]
    exact ⟨fun c => absurd c (by omega), fun _ => ⟨_, rfl, e10, e3, F1, Or.inl ⟨q, hf, rfl, M1⟩⟩⟩
  | succ m ih =>
    intro j w1 hj M1 R1 e18 e10 e3 F1
    obtain ⟨p, hp⟩ := all j (by omega)
    obtain ⟨a1, a2, a3⟩ := sq_ok I j (fun i hi => hg i (by omega))
    obtain ⟨l1, l2, l3⟩ := (it_ok a3).2 p hp
    obtain ⟨r, w2, b1, b2, b3, b4⟩ := mm_told (d := 7) M1 a1 (q := p) (j := j) (by omega) l3 (R1 j (by omega) p hp)
    refine sg_X4_text_113 ?_
    rw [e18, nI_ltI (by omega) (by omega), pk_mul, nI_add, nI_add]
    refine ⟨fun _ => ⟨r, w2, b1, fun c => absurd c b2, fun _ => ?_⟩, fun c => absurd (show j < J + 1 by omega) c⟩
    refine ih (j + 1) w2 (by omega) ?_ (fun i hi p hp => (R1 i hi p hp).fr hi (fun k _ => by rw [b4 46 (by decide)])) (by rw [b4 37 (by decide)]; exact e18) (by rw [b4 37 (by decide)]; exact e10) (by rw [b4 37 (by decide)]; exact e3) (fun k h1 h2 h3 => by rw [b4 k h2]; exact F1 k h1 h2 h3)
    rw [sq_s hp]
    exact b3
/-- a fault found -/
theorem rf_bad {s : Nat} {w2 : mz_M} {j1 j2 : Value} (hn : ∀ q, ¬ fin B N (rd B N σ J) q) (hs : os B N (rd B N σ J) = s) (M2 : Ms 38 σ z w2) (e15 : w2 37 15 = nI 1) (e11 : w2 37 11 = nI s) (e3 : w2 37 3 = w 37 3) (F : ∀ k, k ≠ 37 → k ≠ 38 → k ≠ 46 → w2 k = w k) : mz_Ex cd_X4_text (mz_Call 10) (xPo B N σ z J w) 33 [.ref 37, j1, j2] [] w2 := by
  have e : ∀ x, mz_up w2 37 (upd (w2 37) 10 (nI 0)) 37 x = upd (w2 37) 10 (nI 0) x := fun x => by rw [mu_s]
  have fin : xPo B N σ z J w (some (.int ((-1 : Int32) - mz_up w2 37 (upd (w2 37) 10 (nI 0)) 37 11))) (mz_up w2 37 (upd (w2 37) 10 (nI 0))) := by
    refine ⟨_, rfl, by rw [e, pk_us], by rw [e, pk_un (by decide)]; exact e3, fun k h1 h2 h3 => by rw [mu_n h1]; exact F k h1 h2 h3, Or.inr ⟨hn, ?_, M2.fr (mu_n (by decide))⟩⟩
    rw [e, pk_un (by decide), e11, hs]
  have x15 : ¬ mz_up w2 37 (upd (w2 37) 10 (nI 0)) 37 15 = nI 0 := by
    rw [e, pk_un (by decide), e15]
    exact n10
  exact sg_X4_text_33 ⟨fun c => absurd (e15.symm.trans c) n10, fun _ => ⟨fun _ => ⟨w2, mm_mustW (d := 7) e15 _, fun c => absurd c x15, fun _ => fin⟩, fun _ => ⟨w2, mm_mustW (d := 7) e15 _, fun c => absurd c x15, fun _ => fin⟩⟩⟩
theorem sN_3 {b : Nat} : sN b = 3 ↔ b = 59 := by
  unfold sN
  repeat' split
  all_goals omega
theorem tk_b {e : Nat} (h : ¬ tk B N e = 0) : tk B N e = sN (B (ts B N e)) := by
  have := tk_0 h
  unfold tk
  rw [if_pos this]
theorem rf_text (hN : N ≤ 120) (hB : ∀ j, B j < 256) (I : Iv T σ) (hJ : J ≤ 60) (hg : ∀ i, i < J → gs B N σ i) (hn : ¬ gs B N σ J) : ∀ m j w1, j + m = J → MB B N w1 → Tm B N (sq B N σ j).2 w1 → w1 37 15 = nI 0 → w1 37 18 = nI j → w1 37 19 = nI ((sq B N σ j).1 1) → IR B N σ j w1 → Ms 38 σ z w1 → w1 37 3 = w 37 3 → (∀ k, k ≠ 37 → k ≠ 38 → k ≠ 46 → w1 k = w k) → ∃ w2, mz_Call 10 192 [.ref 37] w1 none w2 ∧ mz_Ex cd_X4_text (mz_Call 10) (xPo B N σ z J w) 33 [.ref 37, .null, .null] [] w2 := by
  intro m
  induction m with
  | zero =>
    intro j w1 hj T1 K1 e15 e18 e19 R1 M1 e3 F1
    have ej : j = J := by omega
    subst ej
    obtain ⟨a1, a2, a3⟩ := sq_ok I j hg
    obtain ⟨w2, b1, b2, b3⟩ := mm_readItem (d := 3) hN hB a3 (by omega) a1.2.1 T1 K1 e18 e19 e15
    have M2 : Ms 38 σ z w2 := M1.fr (b2.1 38 (by decide) (by decide))
    have g3 : w2 37 3 = w 37 3 := by rw [b2.2.1 3 (by omega)]; exact e3
    have G2 : ∀ k, k ≠ 37 → k ≠ 38 → k ≠ 46 → w2 k = w k := fun k h1 h2 h3 => by rw [b2.1 k h1 h3]; exact F1 k h1 h2 h3
    refine ⟨w2, b1, ?_⟩
    rcases b3 with ⟨f, c1, c2, c3⟩ | ⟨q, c1, c2, c3, c4, c5, c6⟩
    · refine rf_bad (s := ts B N f) (fun q hq => ?_) ?_ M2 c2 c3 g3 G2
      · exact absurd (c1.symm.trans hq.1) (by intro h; cases h)
      · rw [show rd B N σ j = .inl f from c1]; rfl
    · have hk := tk_le B N q.1
      have k3 : ¬ tk B N q.1 = 3 := fun h => hn ⟨q, c1, h⟩
      obtain ⟨l1, l2, l3⟩ := (it_ok a3).2 q c1
      have ht := ts_le B l2
      have T2 := T1.r b2
      have e : ∀ (v : mz_M) x, mz_up v 37 (upd (v 37) 10 (nI 0)) 37 x = upd (v 37) 10 (nI 0) x := fun v x => by rw [mu_s]
      by_cases k0 : tk B N q.1 = 0
      · -- all is told
        have g0 : tg B N q.1 = 0 := by unfold tg; rw [if_neg (by omega)]; exact k0
        obtain ⟨w3, d1, d2, d3⟩ := mm_mustT (d := 7) hN hB (te_le B l2).2 T2 (by rw [c3.2.1, tf_te (by omega)]) c2
        have x15 : mz_up w3 37 (upd (w3 37) 10 (nI 0)) 37 15 = nI 0 := by rw [e, pk_un (by decide), d3.2 15 (by decide)]; exact c2
        refine sg_X4_text_33 ⟨fun _ => ⟨fun c => ?_, fun _ => ⟨fun _ => ⟨w3, d1, fun _ => ?_, fun c => absurd x15 c⟩, fun c => ?_⟩⟩, fun c => absurd c2 c⟩
        · rw [c3.2.2.1, g0] at c
          exact absurd c (by decide)
        · refine rf_told I hJ hg (q := q) ⟨c1, k0⟩ (j + 1) 0 _ (by omega) ?_ (fun i hi p hp => ?_) ?_ ?_ ?_ (fun k h1 h2 h3 => ?_)
          · exact M2.fr (by rw [mu_n (by decide), d3.1 38 (by decide)])
          · have q46 : mz_up w3 37 (upd (w3 37) 10 (nI 0)) 46 = w2 46 := by rw [mu_n (by decide), d3.1 46 (by decide)]
            by_cases ei : i = j
            · subst ei
              obtain rfl := Sum.inr.inj (c1.symm.trans hp)
              unfold enc
              rw [q46]
              exact c6
            · have E := R1 i (by omega) p hp
              exact E.fr (m := j) (by omega) (fun k hk2 => by rw [q46, b2.2.2 k hk2])
          · rw [e, pk_un (by decide), d3.2 18 (by decide)]; exact c4
          · rw [e, pk_us]
          · rw [e, pk_un (by decide), d3.2 3 (by decide)]; exact g3
          · rw [mu_n h1, d3.1 k h1]; exact G2 k h1 h2 h3
        · rw [c3.2.2.1, g0] at c
          exact absurd rfl c
      · -- a token that isn't a sign's
        have hnf : ∀ p, ¬ fin B N (rd B N σ j) p := by
          intro p hp
          obtain rfl := Sum.inr.inj (c1.symm.trans hp.1)
          exact k0 hp.2
        have ho : os B N (rd B N σ j) = ts B N q.1 := by rw [show rd B N σ j = .inr q from c1]; rfl
        have lt := tk_0 k0
        have gn : ¬ tg B N q.1 = 0 := by unfold tg; split <;> omega
        have gl : tg B N q.1 ≤ 4 := by unfold tg; split <;> omega
        have wrong : ∀ (K : mz_M → Prop), True → xPo B N σ z j w (some (.int ((-1 : Int32) - mz_up (wr w2) 37 (upd (wr w2 37) 10 (nI 0)) 37 11))) (mz_up (wr w2) 37 (upd (wr w2 37) 10 (nI 0))) := by
          intro _ _
          refine ⟨_, rfl, by rw [e, pk_us], by rw [e, pk_un (by decide), wr_37 _ (by decide)]; exact g3, fun k h1 h2 h3 => ?_, Or.inr ⟨hnf, ?_, M2.fr ?_⟩⟩
          · rw [mu_n h1]
            unfold wr
            rw [mu_n h1]
            exact G2 k h1 h2 h3
          · rw [e, pk_un (by decide), c3.wrg, ho]
          · rw [mu_n (by decide)]
            unfold wr
            rw [mu_n (by decide)]
        have x15 : ¬ mz_up (wr w2) 37 (upd (wr w2 37) 10 (nI 0)) 37 15 = nI 0 := by
          rw [e, pk_un (by decide), wr_15]
          exact n10
        refine sg_X4_text_33 ⟨fun _ => ⟨fun c => ?_, fun c => ⟨fun c0 => ?_, fun _ => ⟨wr w2, mm_mustF (d := 7) c2, fun c => absurd c x15, fun _ => wrong (fun _ => True) trivial⟩⟩⟩, fun c => absurd c2 c⟩
        · rw [c3.1, nI_clamp (n := ts B N q.1) (by omega), T2.2 _ lt, c3.2.2.1]
          have hb := hB (ts B N q.1)
          refine ⟨vp_in_nI (by omega) (by decide), fun c5 => ?_, fun _ => ⟨fun c0 => ?_, fun _ => ⟨wr w2, mm_mustF (d := 7) c2, fun c => absurd c x15, fun _ => wrong (fun _ => True) trivial⟩⟩⟩
          · rw [nI_eq (by omega) (by omega), ← sN_3, ← tk_b k0] at c5
            exact absurd c5 k3
          · rw [nI_eq (by omega) (by omega)] at c0
            exact absurd c0 gn
        · rw [c3.2.2.1, nI_eq (by omega) (by omega)] at c0
          exact absurd c0 gn
  | succ m ih =>
    intro j w1 hj T1 K1 e15 e18 e19 R1 M1 e3 F1
    obtain ⟨a1, a2, a3⟩ := sq_ok I j (fun i hi => hg i (by omega))
    obtain ⟨q, g1, g2⟩ := hg j (by omega)
    obtain ⟨w2, b1, b2, b3⟩ := mm_readItem (d := 3) hN hB a3 (by omega) a1.2.1 T1 K1 e18 e19 e15
    refine ⟨w2, b1, ?_⟩
    rcases b3 with ⟨f, c1, c2, c3⟩ | ⟨q', c1, c2, c3, c4, c5, c6⟩
    · exact absurd (c1.symm.trans g1) (by intro h; cases h)
    · obtain rfl := Sum.inr.inj (c1.symm.trans g1)
      obtain ⟨l1, l2, l3⟩ := (it_ok a3).2 _ g1
      have ht := ts_le B l2
      have T2 := T1.r b2
      have lt := tk_0 (B := B) (N := N) (e := q'.1) (by omega)
      have gg : tg B N q'.1 = 3 := by unfold tg; rw [if_neg (by omega)]; exact g2
      have hb : B (ts B N q'.1) = 59 := by rw [← sN_3, ← tk_b (by omega)]; exact g2
      obtain ⟨w3, d1, d2, d3⟩ := mm_mustT (d := 7) hN hB (te_le B l2).2 T2 (by rw [c3.2.1, tf_te (by omega)]) c2
      have st := sq_s g1
      have q46 : w3 46 = w2 46 := d3.1 46 (by decide)
      obtain ⟨w4, f1, f2⟩ := ih (j + 1) w3 (by omega) (T2.fr d3) (by rw [st]; exact d2) (by rw [d3.2 15 (by decide)]; exact c2) (by rw [d3.2 18 (by decide)]; exact c4) (by rw [d3.2 19 (by decide), c5, st]; exact congrArg nI (ap_1 l3).symm) (fun i hi p hp => by
        by_cases ei : i = j
        · subst ei
          obtain rfl := Sum.inr.inj (c1.symm.trans hp)
          unfold enc
          rw [q46]
          exact c6
        · have E := R1 i (by omega) p hp
          exact E.fr (m := j) (by omega) (fun k hk2 => by rw [q46, b2.2.2 k hk2])) (M1.fr (by rw [d3.1 38 (by decide), b2.1 38 (by decide) (by decide)])) (by rw [d3.2 3 (by decide), b2.2.1 3 (by omega)]; exact e3) (fun k h1 h2 h3 => by rw [d3.1 k h1, b2.1 k h1 h3]; exact F1 k h1 h2 h3)
      refine sg_X4_text_33 ⟨fun _ => ⟨fun _ => ?_, fun c => ?_⟩, fun c => absurd c2 c⟩
      · rw [c3.1, nI_clamp (n := ts B N q'.1) (by omega), T2.2 _ lt, hb]
        exact ⟨vp_in_nI (by omega) (by decide), fun _ => ⟨w3, d1, w4, f1, f2⟩, nS⟩
      · rw [c3.2.2.1, gg] at c
        exact absurd rfl c
theorem bo_text (R : Rel T w) : Both T T 78 194 [] w := by
  obtain ⟨σ, z, H, M, I, R⟩ := R
  obtain ⟨N, hN, t1, t2, t3⟩ := R.2.2.1
  obtain ⟨B, hB, b1, b2⟩ : ∃ B : Nat → Nat, (∀ j, B j < 256) ∧ (∀ j, j < N → w 26 j = nI (B j)) ∧ (∀ j, j < N → w 44 j = nI (B j)) := by
    have ex : ∀ j, ∃ b, b < 256 ∧ (j < N → w 26 j = nI b ∧ w 44 j = nI b) := by
      intro j
      by_cases c : j < N
      · obtain ⟨b, x1, x2, x3⟩ := t3 j c
        exact ⟨b, x1, fun _ => ⟨x2, x3⟩⟩
      · exact ⟨0, by decide, fun h => absurd h c⟩
    exact ⟨fun j => (ex j).choose, fun j => (ex j).choose_spec.1, fun j hj => ((ex j).choose_spec.2 hj).1, fun j hj => ((ex j).choose_spec.2 hj).2⟩
  obtain ⟨J, hJ, hg, hn⟩ := sq_end (B := B) (σ := σ) hN I
  obtain ⟨a1, a2, a3⟩ := sq_ok I J hg
  -- the class
  obtain ⟨w1, p1, p2, p3⟩ := hm_become (d := 9) (h := 9) (o := 1) (by omega) (by omega) (by decide) H
  have F1 : FT w w1 := FT.o (p3.mono (by omega))
  obtain ⟨u, w2, q1, q2, q3⟩ := hm_tellInto (d := 3) hN hB I hJ hg hn (TB.ft ⟨t1, b1⟩ F1) p2
  have F2 := F1.tr q2
  have e25 : ∀ x, mz_up w2 25 (upd (w2 25) 1 (nI 0)) 25 x = upd (w2 25) 1 (nI 0) x := fun x => by rw [mu_s]
  have osl : os B N (rd B N σ J) ≤ 120 := by
    have io := it_ok (B := B) (n := (sq B N σ J).1 1) a3
    generalize hr : rd B N σ J = r
    rcases r with f | q
    · exact Nat.le_trans (ts_le B (io.1 f hr)).2 hN
    · exact Nat.le_trans (ts_le B (io.2 q hr).2.1).2 hN
  have ng : (-1 : Int32) - nI (os B N (rd B N σ J)) < nI 0 := by
    generalize os B N (rd B N σ J) = s at osl
    have : ∀ s, s < 121 → (-1 : Int32) - nI s < nI 0 := by decide
    exact this s (by omega)
  -- the class's end
  have cls : ∃ (σ' : Nat → Nat) (w3 : mz_M), mz_Call 11 78 [.ref 0] w (some (.int u)) w3 ∧ w3 25 1 = nI 0 ∧ Hs 1 σ' z w3 ∧ Iv T σ' ∧ (∀ k, ¬ (1 ≤ k ∧ k < 17) → k ≠ 25 → w3 k = w k) ∧ ((∃ q, fin B N (rd B N σ J) q ∧ u = nI (J + 1) ∧ σ' = apI (sq B N σ J).1 q) ∨ ((∀ q, ¬ fin B N (rd B N σ J) q) ∧ u = (-1 : Int32) - nI (os B N (rd B N σ J)) ∧ σ' = σ)) := by
    rcases q3 with ⟨q, f1, f2, f3⟩ | ⟨f1, f2⟩
    · obtain ⟨w4, d1, d2, d3⟩ := hm_become (d := 9) (h := 1) (o := 9) (w := mz_up w2 25 (upd (w2 25) 1 (nI 0))) (by omega) (by omega) (by decide) (f3.fr (fun k x y => mu_n (by omega)))
      refine ⟨apI (sq B N σ J).1 q, w4, en_X3_text (sg_X3_text_0 ⟨w1, p1, u, w2, q1, ?_⟩), by rw [d3 25 (by omega), e25, pk_us], d2, a1.item ((it_ok a3).2 q f1.1).2.2, fun k h1 h2 => by rw [d3 k (by omega), mu_n h2, F2.1 k h2 (by omega)], Or.inl ⟨q, f1, f2, rfl⟩⟩
      exact ⟨fun c => absurd c (by rw [f2]; exact nI_pos (by omega)), fun _ => ⟨w4, d1, rfl, rfl⟩⟩
    · refine ⟨σ, mz_up w2 25 (upd (w2 25) 1 (nI 0)), en_X3_text (sg_X3_text_0 ⟨w1, p1, u, w2, q1, ?_⟩), by rw [e25, pk_us], H.fr (fun k x y => by rw [mu_n (by omega), F2.1 k (by omega) (by omega)]), I, fun k h1 h2 => by rw [mu_n h2, F2.1 k h2 (by omega)], Or.inr ⟨f1, f2, rfl⟩⟩
      exact ⟨fun _ => ⟨rfl, rfl⟩, fun c => absurd (by rw [f2]; exact ng) c⟩
  obtain ⟨σ', w3, c1, c2, c3, c4, c5, c6⟩ := cls
  have M3 : Ms 38 σ z w3 := M.fr (c5 38 (by omega) (by decide))
  have E37 : w3 37 = w 37 := c5 37 (by omega) (by decide)
  -- the reference
  let v0 : mz_M := mz_up w3 37 (upd (w3 37) 12 (nI 0))
  let v1 : mz_M := mz_up v0 37 (upd (v0 37) 15 (nI 0))
  let v2 : mz_M := mz_up v1 37 (upd (v1 37) 18 (nI 0))
  let v3 : mz_M := mz_up v2 37 (upd (v2 37) 19 (nI (σ 1)))
  have v37 : v3 37 = upd (upd (upd (upd (w3 37) 12 (nI 0)) 15 (nI 0)) 18 (nI 0)) 19 (nI (σ 1)) := by
    show mz_up v2 37 (upd (v2 37) 19 (nI (σ 1))) 37 = _
    rw [mu_s]
    show upd (mz_up v1 37 (upd (v1 37) 18 (nI 0)) 37) 19 (nI (σ 1)) = _
    rw [mu_s]
    show upd (upd (mz_up v0 37 (upd (v0 37) 15 (nI 0)) 37) 18 (nI 0)) 19 (nI (σ 1)) = _
    rw [mu_s]
    show upd (upd (upd (mz_up w3 37 (upd (w3 37) 12 (nI 0)) 37) 15 (nI 0)) 18 (nI 0)) 19 (nI (σ 1)) = _
    rw [mu_s]
  have vn : ∀ k, k ≠ 37 → v3 k = w3 k := by
    intro k hk
    show mz_up v2 37 (upd (v2 37) 19 (nI (σ 1))) k = _
    rw [mu_n hk]
    show mz_up v1 37 (upd (v1 37) 18 (nI 0)) k = _
    rw [mu_n hk]
    show mz_up v0 37 (upd (v0 37) 15 (nI 0)) k = _
    rw [mu_n hk]
    show mz_up w3 37 (upd (w3 37) 12 (nI 0)) k = _
    rw [mu_n hk]
  have MB3 : MB B N v3 := ⟨by rw [v37, pk_un (by decide), pk_un (by decide), pk_un (by decide), pk_un (by decide), E37]; exact t2, fun j hj => by rw [vn 44 (by decide), c5 44 (by omega) (by decide)]; exact b2 j hj⟩
  obtain ⟨w4, d1, d2, d3⟩ := mm_next (d := 8) hN hB (e := 0) (Nat.zero_le _) MB3 (by rw [v37, pk_un (by decide), pk_un (by decide), pk_un (by decide), pk_us])
  obtain ⟨w5, g1, g2⟩ := rf_text (z := z) (w := w3) hN hB I hJ hg hn J 0 w4 (by omega) (MB3.fr d3) d2 (by rw [d3.2 15 (by decide), v37, pk_un (by decide), pk_un (by decide), pk_us]) (by rw [d3.2 18 (by decide), v37, pk_un (by decide), pk_us]) (by rw [d3.2 19 (by decide), v37, pk_us]; rfl) (fun i hi => absurd hi (by omega)) (M3.fr (by rw [d3.1 38 (by decide), vn 38 (by decide)])) (by rw [d3.2 3 (by decide), v37, pk_un (by decide), pk_un (by decide), pk_un (by decide), pk_un (by decide)]) (fun k h1 h2 h3 => by rw [d3.1 k h1, vn k h1])
  have ref := ec_X4_text (d := 10) (w := w3) (Po := fun u w' => (w' 37 10 = nI 0 ∧ w' 37 3 = w3 37 3 ∧ (∀ k, k ≠ 37 → k ≠ 38 → k ≠ 46 → w' k = w3 k) ∧ ((∃ q, fin B N (rd B N σ J) q ∧ u = nI (J + 1) ∧ Ms 38 (apI (sq B N σ J).1 q) z w') ∨ ((∀ q, ¬ fin B N (rd B N σ J) q) ∧ u = (-1 : Int32) - nI (os B N (rd B N σ J)) ∧ Ms 38 σ z w')))) (sg_X4_text_0 (by
    refine ⟨nz_01, vi1, w4, ?_, w5, g1, g2⟩
    have e38 : mz_up (mz_up (mz_up w3 37 (upd (w3 37) 12 (nI 0))) 37 (upd (mz_up w3 37 (upd (w3 37) 12 (nI 0)) 37) 15 (nI 0))) 37 (upd (mz_up (mz_up w3 37 (upd (w3 37) 12 (nI 0))) 37 (upd (mz_up w3 37 (upd (w3 37) 12 (nI 0)) 37) 15 (nI 0)) 37) 18 (nI 0)) 38 (nI 1).toNatClampNeg = nI (σ 1) := by
      rw [mu_n (by decide), mu_n (by decide), mu_n (by decide), nc1]
      exact M3.2.1
    rw [e38]
    exact d1))
  obtain ⟨u', w6, r1, r2, r3, r4, r5⟩ := ref
  have key : u' = u ∧ Ms 38 σ' z w6 := by
    rcases c6 with ⟨q, x1, x2, x3⟩ | ⟨x1, x2, x3⟩
    · rcases r5 with ⟨p, y1, y2, y3⟩ | ⟨y1, -⟩
      · obtain rfl := Sum.inr.inj (x1.1.symm.trans y1.1)
        exact ⟨y2.trans x2.symm, by rw [x3]; exact y3⟩
      · exact absurd x1 (y1 q)
    · rcases r5 with ⟨p, y1, y2, y3⟩ | ⟨-, y2, y3⟩
      · exact absurd y1 (x1 p)
      · exact ⟨y2.trans x2.symm, by rw [x3]; exact y3⟩
  obtain ⟨rfl, key2⟩ := key
  have en : ∀ k, ¬ (1 ≤ k ∧ k < 17) → k ≠ 25 → k ≠ 37 → k ≠ 38 → k ≠ 46 → w6 k = w k := fun k h1 h2 h3 h4 h5 => by rw [r4 k h3 h4 h5, c5 k h1 h2]
  refine ⟨u', w3, w6, c1, r1, σ', z, c3.fr (fun k x y => r4 k (by omega) (by omega) (by omega)), key2, c4, R.1.fr (fun k p => en k (by omega) (by omega) (by omega) (by omega) (by omega)) (by rw [r3, E37]), R.2.1.fr (en 36 (by omega) (by omega) (by omega) (by omega) (by omega)) (en 41 (by omega) (by omega) (by omega) (by omega) (by omega)), ⟨0, by decide, ?_, r2, fun j hj => absurd hj (by omega)⟩, R.2.2.2.fr (fun k p => en k (by omega) (by omega) (by omega) (by omega) (by omega))⟩
  rw [r4 25 (by decide) (by decide) (by decide)]
  exact c2
end TXT
