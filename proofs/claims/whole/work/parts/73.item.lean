/-! one item of a text: what it tells, and the class's reading -/
abbrev iT : Type := Nat ⊕ (Nat × Nat × Nat × Nat × Nat)
/-- behind a person's worth: kin, if told. A fault's token, or behind the item: what, worth, 1 more than whose kin, kin -/
def kinP (B : Nat → Nat) (N n k wo e : Nat) : iT := if isW B N e 8 then (if nm B N (te B N e) n then (if nm B N (te B N (te B N e)) 1000 then .inr (te B N (te B N (te B N e)), k, wo, tv B N (te B N e) + 1, tv B N (te B N (te B N e))) else .inl (te B N (te B N e))) else .inl (te B N e)) else .inr (e, k, wo, 0, 0)
def perP (B : Nat → Nat) (N n k e : Nat) : iT := if n < 8 then (if isW B N (te B N e) 7 then (if nm B N (te B N (te B N e)) 100 then kinP B N n k (tv B N (te B N (te B N e))) (te B N (te B N (te B N e))) else .inl (te B N (te B N e))) else kinP B N n k 4 (te B N e)) else .inl e
def lisP (B : Nat → Nat) (N e : Nat) : iT := if nm B N (te B N e) 6 then (if nm B N (te B N (te B N e)) 256 then .inr (te B N (te B N (te B N e)), 10, tv B N (te B N e), tv B N (te B N (te B N e)), 0) else .inl (te B N (te B N e))) else .inl (te B N e)
def damP (B : Nat → Nat) (N e : Nat) : iT := if nm B N (te B N e) 10 then .inr (te B N (te B N e), 11, tv B N (te B N e), 0, 0) else .inl (te B N e)
/-- 1 more than the kind that is told at e; 0: none -/
def kd (B : Nat → Nat) (N e : Nat) : Nat := fiS (fun k => decide (isW B N e k)) 0 7
def itP (B : Nat → Nat) (N n e : Nat) : iT := if kd B N e = 0 then (if isW B N e 9 then lisP B N e else if isW B N e 10 then damP B N e else .inl e) else perP B N n (kd B N e - 1) e
/-- an item told -/
def apI (σ : Nat → Nat) (q : Nat × Nat × Nat × Nat × Nat) : Nat → Nat := if q.2.1 = 10 then su σ (15 + q.2.2.1) q.2.2.2.1 else if q.2.1 = 11 then su σ 3 q.2.2.1 else if q.2.2.2.1 = 0 then nwS σ q.2.1 q.2.2.1 else kS (nwS σ q.2.1 q.2.2.1) (σ 1) (q.2.2.2.1 - 1) q.2.2.2.2
/-- what an item that is told has in it, n people -/
def iOk (n : Nat) (q : Nat × Nat × Nat × Nat × Nat) : Prop := (q.2.1 = 10 ∧ q.2.2.1 < 6 ∧ q.2.2.2.1 < 256) ∨ (q.2.1 = 11 ∧ q.2.2.1 < 10) ∨ (q.2.1 < 7 ∧ n < 8 ∧ q.2.2.1 ≤ 99 ∧ q.2.2.2.1 ≤ n ∧ q.2.2.2.2 ≤ 999)
theorem kin_ok {B : Nat → Nat} {N n k wo e : Nat} (he : e ≤ N) (hn : n < 8) (hk : k < 7) (hw : wo ≤ 99) : (∀ f, kinP B N n k wo e = .inl f → f ≤ N) ∧ (∀ q, kinP B N n k wo e = .inr q → e ≤ q.1 ∧ q.1 ≤ N ∧ iOk n q) := by
  have h1 := te_le B he
  have h2 := te_le B h1.2
  have h3 := te_le B h2.2
  have h0 := ts_le B he
  have g1 := ts_le B h1.2
  have g2 := ts_le B h2.2
  unfold kinP
  by_cases c1 : isW B N e 8
  · rw [if_pos c1]
    by_cases c2 : nm B N (te B N e) n
    · rw [if_pos c2]
      by_cases c3 : nm B N (te B N (te B N e)) 1000
      · rw [if_pos c3]
        refine ⟨fun f h => (by cases h), fun q h => ?_⟩
        obtain rfl := Sum.inr.inj h
        have l2 := c2.2
        have l3 := c3.2
        exact ⟨by show e ≤ te B N (te B N (te B N e)); omega, h3.2, Or.inr (Or.inr ⟨hk, hn, hw, by show tv B N (te B N e) + 1 ≤ n; omega, by show tv B N (te B N (te B N e)) ≤ 999; omega⟩)⟩
      · rw [if_neg c3]
        refine ⟨fun f h => ?_, fun q h => (by cases h)⟩
        obtain rfl := Sum.inl.inj h
        exact h2.2
    · rw [if_neg c2]
      refine ⟨fun f h => ?_, fun q h => (by cases h)⟩
      obtain rfl := Sum.inl.inj h
      exact h1.2
  · rw [if_neg c1]
    refine ⟨fun f h => (by cases h), fun q h => ?_⟩
    obtain rfl := Sum.inr.inj h
    exact ⟨Nat.le_refl _, he, Or.inr (Or.inr ⟨hk, hn, hw, Nat.zero_le _, Nat.zero_le _⟩)⟩
theorem kd_is (B : Nat → Nat) (N e : Nat) : (kd B N e = 0 ∧ ∀ k, k < 7 → ¬ isW B N e k) ∨ (∃ k, k < 7 ∧ kd B N e = k + 1 ∧ isW B N e k) := by
  rcases fi_is (fun k => decide (isW B N e k)) 7 0 with ⟨e1, a⟩ | ⟨m, e1, -, a2, a3, -⟩
  · exact Or.inl ⟨e1, fun k hk c => a k (by omega) (by omega) (decide_eq_true c)⟩
  · exact Or.inr ⟨m, by omega, e1, of_decide_eq_true a3⟩
theorem it_ok {B : Nat → Nat} {N n e : Nat} (he : e ≤ N) : (∀ f, itP B N n e = .inl f → f ≤ N) ∧ (∀ q, itP B N n e = .inr q → e + 1 ≤ q.1 ∧ q.1 ≤ N ∧ iOk n q) := by
  have h1 := te_le B he
  have h2 := te_le B h1.2
  have h3 := te_le B h2.2
  have h0 := ts_le B he
  have g1 := ts_le B h1.2
  have g2 := ts_le B h2.2
  have w1 : ∀ t, isW B N e t → e + 1 ≤ te B N e := fun t c => by have := te_w c.1; omega
  unfold itP
  rcases kd_is B N e with ⟨z, -⟩ | ⟨k, hk, z, zk⟩
  · rw [if_pos z]
    by_cases c1 : isW B N e 9
    · rw [if_pos c1]
      have ww := w1 9 c1
      unfold lisP
      by_cases c2 : nm B N (te B N e) 6
      · rw [if_pos c2]
        by_cases c3 : nm B N (te B N (te B N e)) 256
        · rw [if_pos c3]
          refine ⟨fun f h => (by cases h), fun q h => ?_⟩
          obtain rfl := Sum.inr.inj h
          exact ⟨by show e + 1 ≤ te B N (te B N (te B N e)); omega, h3.2, Or.inl ⟨rfl, c2.2, c3.2⟩⟩
        · rw [if_neg c3]
          refine ⟨fun f h => ?_, fun q h => (by cases h)⟩
          obtain rfl := Sum.inl.inj h
          exact h2.2
      · rw [if_neg c2]
        refine ⟨fun f h => ?_, fun q h => (by cases h)⟩
        obtain rfl := Sum.inl.inj h
        exact h1.2
    · rw [if_neg c1]
      by_cases c2 : isW B N e 10
      · rw [if_pos c2]
        have ww := w1 10 c2
        unfold damP
        by_cases c3 : nm B N (te B N e) 10
        · rw [if_pos c3]
          refine ⟨fun f h => (by cases h), fun q h => ?_⟩
          obtain rfl := Sum.inr.inj h
          exact ⟨by show e + 1 ≤ te B N (te B N e); omega, h2.2, Or.inr (Or.inl ⟨rfl, c3.2⟩)⟩
        · rw [if_neg c3]
          refine ⟨fun f h => ?_, fun q h => (by cases h)⟩
          obtain rfl := Sum.inl.inj h
          exact h1.2
      · rw [if_neg c2]
        refine ⟨fun f h => ?_, fun q h => (by cases h)⟩
        obtain rfl := Sum.inl.inj h
        exact he
  · rw [if_neg (by omega), z, Nat.add_sub_cancel]
    have ww := w1 k zk
    unfold perP
    by_cases c1 : n < 8
    · rw [if_pos c1]
      by_cases c2 : isW B N (te B N e) 7
      · rw [if_pos c2]
        by_cases c3 : nm B N (te B N (te B N e)) 100
        · rw [if_pos c3]
          have l3 := c3.2
          have K := kin_ok (B := B) (N := N) (n := n) (k := k) (wo := tv B N (te B N (te B N e))) (e := te B N (te B N (te B N e))) h3.2 c1 hk (by omega)
          exact ⟨K.1, fun q h => by have := K.2 q h; exact ⟨by omega, this.2⟩⟩
        · rw [if_neg c3]
          refine ⟨fun f h => ?_, fun q h => (by cases h)⟩
          obtain rfl := Sum.inl.inj h
          exact h2.2
      · rw [if_neg c2]
        have K := kin_ok (B := B) (N := N) (n := n) (k := k) (wo := 4) (e := te B N e) h1.2 c1 hk (by decide)
        exact ⟨K.1, fun q h => by have := K.2 q h; exact ⟨by omega, this.2⟩⟩
    · rw [if_neg c1]
      refine ⟨fun f h => ?_, fun q h => (by cases h)⟩
      obtain rfl := Sum.inl.inj h
      exact he
theorem Iv.item {T : Nat} {σ : Nat → Nat} (I : Iv T σ) {q : Nat × Nat × Nat × Nat × Nat} (h : iOk (σ 1) q) : Iv T (apI σ q) := by
  unfold apI
  rcases h with ⟨a, b, c⟩ | ⟨a, b⟩ | ⟨a, b, c, f, g⟩
  · rw [if_pos a]
    exact I.put (by omega)
  · rw [if_neg (by omega), if_pos a]
    exact I.put (by omega)
  · rw [if_neg (by omega), if_neg (by omega)]
    have J := I.come b a c
    split
    · exact J
    · exact J.kin (by omega) (by omega) (by omega) g
theorem ap_1 {σ : Nat → Nat} {q : Nat × Nat × Nat × Nat × Nat} (h : iOk (σ 1) q) : apI σ q 1 = if q.2.1 < 7 then σ 1 + 1 else σ 1 := by
  unfold apI
  rcases h with ⟨a, b, c⟩ | ⟨a, b⟩ | ⟨a, b, c, f, g⟩
  · rw [if_pos a, if_neg (by omega), su_n (by omega)]
  · rw [if_neg (by omega), if_pos a, if_neg (by omega), su_n (by omega)]
  · rw [if_neg (by omega), if_neg (by omega), if_pos a]
    have e : nwS σ q.2.1 q.2.2.1 1 = σ 1 + 1 := by unfold nwS; rw [su_s]
    split
    · exact e
    · unfold kS
      rw [su_n (by omega), su_n (by omega), e]
theorem nw_wo (σ : Nat → Nat) (k a b : Nat) (h : σ 1 < 8) : su (nwS σ k a) (29 + σ 1) b = nwS σ k b := by
  funext j
  unfold nwS su
  by_cases c1 : j = 29 + σ 1
  · rw [if_pos c1, if_neg (by omega), if_pos c1]
  · rw [if_neg c1]
    split
    · rfl
    · rfl
/-- what the class's reading changes -/
def FT (w w' : mz_M) : Prop := (∀ k, k ≠ 25 → ¬ (9 ≤ k ∧ k < 17) → w' k = w k) ∧ ∀ j, j < 2 → w' 25 j = w 25 j
theorem FT.rf {w : mz_M} : FT w w := ⟨fun _ _ _ => rfl, fun _ _ => rfl⟩
theorem FT.tr {w w1 w2 : mz_M} (h1 : FT w w1) (h2 : FT w1 w2) : FT w w2 := ⟨fun k a b => (h2.1 k a b).trans (h1.1 k a b), fun j a => (h2.2 j a).trans (h1.2 j a)⟩
theorem FT.a {w w1 : mz_M} (h : FA w w1) : FT w w1 := ⟨fun k a _ => h.1 k a, h.2⟩
theorem FT.o {w w1 : mz_M} (h : Fr Tp w w1) : FT w w1 := ⟨fun k _ b => h k b, fun j _ => by rw [h 25 (by omega)]⟩
theorem TB.ft {B : Nat → Nat} {N : Nat} {w w' : mz_M} (h : TB B N w) (F : FT w w') : TB B N w' := ⟨by rw [F.2 1 (by decide)]; exact h.1, fun j hj => by rw [F.1 26 (by decide) (by omega)]; exact h.2 j hj⟩
theorem Tk.ft {B : Nat → Nat} {N e : Nat} {w w' : mz_M} (h : Tk B N e w) (F : Fr Tp w w') : Tk B N e w' := by
  unfold Tk
  rw [F 25 (by omega)]
  exact h
def cPo (B : Nat → Nat) (N : Nat) (σ : Nat → Nat) (z : Int32) (w : mz_M) (r : iT) (u : Int32) (w' : mz_M) : Prop := FT w w' ∧ ((∃ f, r = .inl f ∧ u = nI 0 ∧ w' 25 3 = nI (ts B N f)) ∨ (∃ q, r = .inr q ∧ u = nI 1 ∧ Tk B N q.1 w' ∧ Hs 9 (apI σ q) z w'))
section ITM
variable {d : Nat} {w : mz_M} {B : Nat → Nat} {N T : Nat} {σ : Nat → Nat} {z : Int32}
theorem Hs.fa {w' : mz_M} (H : Hs 9 σ z w) (F : FA w w') : Hs 9 σ z w' := H.fr (fun k a b => F.1 k (by omega))
theorem hm_tellKin (hN : N ≤ 120) (hB : ∀ j, B j < 256) {e k wo : Nat} (he : e ≤ N) (hn : σ 1 < 8) (hk : k < 7) (TT : TB B N w) (K : Tk B N e w) (H : Hs 9 (nwS σ k wo) z w) (c : isW B N e 8) : ∃ (u : Int32) (w' : mz_M), mz_Call (d + 3) 38 [.ref 25, .ref 9, .int (nI (σ 1))] w (some (.int u)) w' ∧ cPo B N σ z w (kinP B N (σ 1) k wo e) u w' := by
  have h1 := te_le B he
  have h2 := te_le B h1.2
  obtain ⟨w1, a1, a2, a3⟩ := hm_advance (d := d) hN hB h1.2 TT K.2.1
  have T1 := TT.fr a3
  have H1 := H.fa a3
  obtain ⟨w3, b1, b2, b3⟩ := hm_advance (d := d) hN hB h2.2 T1 a2.2.1
  have T3 := T1.fr b3
  have H3 := H1.fa b3
  have h3 := te_le B h2.2
  refine ec_X2_tellKin (sg_X2_tellKin_0 ⟨w1, a1, _, _, hm_isNumber (m := σ 1) (by omega) a2, fun q => ⟨nz_01, _, rfl, FT.a a3, Or.inl ⟨te B N e, ?_, rfl, a2.1⟩⟩, fun q => ⟨w3, b1, _, _, hm_isNumber (m := 1000) (by decide) b2, fun q2 => ⟨nz_01, _, rfl, FT.a (a3.tr b3), Or.inl ⟨te B N (te B N e), ?_, rfl, b2.1⟩⟩, fun q2 => ?_⟩⟩)
  · rw [nB_0] at q
    unfold kinP
    rw [if_pos c, if_neg q]
  · rw [nB_0] at q2
    rw [nB_0, Classical.not_not] at q
    unfold kinP
    rw [if_pos c, if_pos q, if_neg q2]
  · rw [nB_0, Classical.not_not] at q q2
    have l1 := q.2
    have l2 := q2.2
    rw [a2.2.2.2, b2.2.2.2]
    obtain ⟨w5, c1, c2, c3⟩ := hm_relate (d := d + 1) (h := 9) (Or.inr (Or.inl rfl)) H3 (a := σ 1) (b := tv B N (te B N e)) (v := tv B N (te B N (te B N e))) hn (by omega)
    have c3' : Fr Tp w3 w5 := c3.mono (by omega)
    obtain ⟨w6, d1, d2, d3⟩ := hm_advance (d := d) hN hB h3.2 (T3.ft (FT.o c3')) (b2.ft c3').2.1
    refine ⟨w5, c1, w6, d1, nz_11, _, rfl, (FT.a (a3.tr b3)).tr ((FT.o c3').tr (FT.a d3)), Or.inr ⟨(te B N (te B N (te B N e)), k, wo, tv B N (te B N e) + 1, tv B N (te B N (te B N e))), ?_, rfl, d2, ?_⟩⟩
    · unfold kinP
      rw [if_pos c, if_pos q, if_pos q2]
    · have G := c2.fa d3
      unfold apI
      rw [if_neg (show ¬ k = 10 by omega), if_neg (show ¬ k = 11 by omega), if_neg (show ¬ tv B N (te B N e) + 1 = 0 by omega)]
      exact G
/-- the end of a person's reading -/
theorem hm_kinTail (hN : N ≤ 120) (hB : ∀ j, B j < 256) {e k wo : Nat} {w0 : mz_M} (he : e ≤ N) (hn : σ 1 < 8) (hk : k < 7) (TT : TB B N w) (K : Tk B N e w) (H : Hs 9 (nwS σ k wo) z w) (F : FT w0 w) {r : iT} (hr : r = kinP B N (σ 1) k wo e) : ∃ (r3 : Int32) (w3 : mz_M), mz_Call (d + 4) 42 [.ref 25, .ref 68] w (some (.int r3)) w3 ∧ (((r3 = nI 0) → (((nI 1 = 0) ∨ (nI 1 = 1)) ∧ ∃ u : Int32, some (Value.int (nI 1)) = some (.int u) ∧ cPo B N σ z w0 r u w3)) ∧ ((¬ r3 = nI 0) → (∃ (r4 : Int32) (w4 : mz_M), mz_Call (d + 4) 38 [.ref 25, .ref 9, .int (nI (σ 1))] w3 (some (.int r4)) w4 ∧ (((r4 = nI 0) → (((nI 0 = 0) ∨ (nI 0 = 1)) ∧ ∃ u : Int32, some (Value.int (nI 0)) = some (.int u) ∧ cPo B N σ z w0 r u w4)) ∧ ((¬ r4 = nI 0) → (((nI 1 = 0) ∨ (nI 1 = 1)) ∧ ∃ u : Int32, some (Value.int (nI 1)) = some (.int u) ∧ cPo B N σ z w0 r u w4)))))) := by
  refine ⟨_, _, hm_isWord (t := 8) hN he (by decide) TT K, fun q => ⟨nz_11, _, rfl, F, Or.inr ⟨(e, k, wo, 0, 0), ?_, rfl, K, ?_⟩⟩, fun q => ?_⟩
  · rw [nB_0] at q
    rw [hr]
    unfold kinP
    rw [if_neg q]
  · unfold apI
    rw [if_neg (show ¬ k = 10 by omega), if_neg (show ¬ k = 11 by omega), if_pos rfl]
    exact H
  · rw [nB_0, Classical.not_not] at q
    obtain ⟨u, w4, a1, a2, a3⟩ := hm_tellKin (d := d + 1) hN hB he hn hk TT K H q
    rw [← hr] at a3
    refine ⟨u, w4, a1, fun q2 => ⟨nz_01, _, rfl, F.tr a2, ?_⟩, fun q2 => ⟨nz_11, _, rfl, F.tr a2, ?_⟩⟩
    · rcases a3 with ⟨f, e1, e2, e3⟩ | ⟨p, e1, e2, e3⟩
      · exact Or.inl ⟨f, e1, rfl, e3⟩
      · exact absurd (e2.symm.trans q2) n10
    · rcases a3 with ⟨f, e1, e2, e3⟩ | ⟨p, e1, e2, e3⟩
      · exact absurd e2 q2
      · exact Or.inr ⟨p, e1, rfl, e3⟩
theorem hm_tellPerson (hN : N ≤ 120) (hB : ∀ j, B j < 256) {e k : Nat} (he : e ≤ N) (hn : σ 1 < 8) (hk : k < 7) (TT : TB B N w) (K : Tk B N e w) (H : Hs 9 (nwS σ k 4) z w) : ∃ (u : Int32) (w' : mz_M), mz_Call (d + 5) 37 [.ref 25, .ref 9, .int (nI (σ 1))] w (some (.int u)) w' ∧ cPo B N σ z w (perP B N (σ 1) k e) u w' := by
  have h1 := te_le B he
  have h2 := te_le B h1.2
  have h3 := te_le B h2.2
  obtain ⟨w1, a1, a2, a3⟩ := hm_advance (d := d + 2) hN hB h1.2 TT K.2.1
  have T1 := TT.fr a3
  have H1 := H.fa a3
  refine ec_X2_tellPerson (sg_X2_tellPerson_0 ⟨w1, a1, _, _, hm_isWord (t := 7) hN h1.2 (by decide) T1 a2, fun q => ?_, fun q => ?_⟩)
  · rw [nB_0] at q
    exact hm_kinTail (d := d) hN hB h1.2 hn hk T1 a2 H1 (FT.a a3) (by unfold perP; rw [if_pos hn, if_neg q])
  · rw [nB_0, Classical.not_not] at q
    obtain ⟨w5, b1, b2, b3⟩ := hm_advance (d := d + 2) hN hB h2.2 T1 a2.2.1
    have T5 := T1.fr b3
    have H5 := H1.fa b3
    refine ⟨w5, b1, _, _, hm_isNumber (m := 100) (by decide) b2, fun q2 => ⟨nz_01, _, rfl, FT.a (a3.tr b3), Or.inl ⟨te B N (te B N e), ?_, rfl, b2.1⟩⟩, fun q2 => ?_⟩
    · rw [nB_0] at q2
      unfold perP
      rw [if_pos hn, if_pos q, if_neg q2]
    · rw [nB_0, Classical.not_not] at q2
      have F5 : Fr Tp w5 (mz_up w5 12 (upd (w5 12) (σ 1) (nI (tv B N (te B N (te B N e)))))) := Fr.up (by omega)
      have H6 := H5.worth (i := σ 1) hn (tv B N (te B N (te B N e)))
      rw [nw_wo _ _ _ _ hn] at H6
      obtain ⟨w7, c1, c2, c3⟩ := hm_advance (d := d + 2) hN hB h3.2 (T5.ft (FT.o F5)) (b2.ft F5).2.1
      rw [b2.2.2.2, nI_clamp (n := σ 1) (by omega)]
      exact ⟨vp_in_nI hn (by decide), w7, c1, hm_kinTail (d := d) hN hB h3.2 hn hk ((T5.ft (FT.o F5)).fr c3) c2 (H6.fa c3) ((FT.a (a3.tr b3)).tr ((FT.o F5).tr (FT.a c3))) (by unfold perP; rw [if_pos hn, if_pos q, if_pos q2])⟩
theorem hm_tellList (hN : N ≤ 120) (hB : ∀ j, B j < 256) {e : Nat} (he : e ≤ N) (TT : TB B N w) (K : Tk B N e w) (H : Hs 9 σ z w) : ∃ (u : Int32) (w' : mz_M), mz_Call (d + 3) 39 [.ref 25, .ref 9] w (some (.int u)) w' ∧ cPo B N σ z w (lisP B N e) u w' := by
  have h1 := te_le B he
  have h2 := te_le B h1.2
  have h3 := te_le B h2.2
  obtain ⟨w1, a1, a2, a3⟩ := hm_advance (d := d) hN hB h1.2 TT K.2.1
  have T1 := TT.fr a3
  have H1 := H.fa a3
  obtain ⟨w3, b1, b2, b3⟩ := hm_advance (d := d) hN hB h2.2 T1 a2.2.1
  have T3 := T1.fr b3
  have H3 := H1.fa b3
  refine ec_X2_tellList (sg_X2_tellList_0 ⟨w1, a1, _, _, hm_isNumber (m := 6) (by decide) a2, fun q => ⟨nz_01, _, rfl, FT.a a3, Or.inl ⟨te B N e, ?_, rfl, a2.1⟩⟩, fun q => ⟨w3, b1, _, _, hm_isNumber (m := 256) (by decide) b2, fun q2 => ⟨nz_01, _, rfl, FT.a (a3.tr b3), Or.inl ⟨te B N (te B N e), ?_, rfl, b2.1⟩⟩, fun q2 => ?_⟩⟩)
  · rw [nB_0] at q
    unfold lisP
    rw [if_neg q]
  · rw [nB_0] at q2
    rw [nB_0, Classical.not_not] at q
    unfold lisP
    rw [if_pos q, if_neg q2]
  · rw [nB_0, Classical.not_not] at q q2
    have l1 := q.2
    have F5 : Fr Tp w3 (mz_up w3 10 (upd (w3 10) (tv B N (te B N e)) (nI (tv B N (te B N (te B N e)))))) := Fr.up (by omega)
    have H5 := H3.list (i := tv B N (te B N e)) l1 (tv B N (te B N (te B N e)))
    obtain ⟨w6, d1, d2, d3⟩ := hm_advance (d := d) hN hB h3.2 (T3.ft (FT.o F5)) (b2.ft F5).2.1
    rw [a2.2.2.2, b2.2.2.2, nI_clamp (n := tv B N (te B N e)) (by omega)]
    refine ⟨vp_in_nI l1 (by decide), w6, d1, nz_11, _, rfl, (FT.a (a3.tr b3)).tr ((FT.o F5).tr (FT.a d3)), Or.inr ⟨(te B N (te B N (te B N e)), 10, tv B N (te B N e), tv B N (te B N (te B N e)), 0), ?_, rfl, d2, ?_⟩⟩
    · unfold lisP
      rw [if_pos q, if_pos q2]
    · have G := H5.fa d3
      unfold apI
      rw [if_pos rfl]
      exact G
theorem hm_tellDamp (hN : N ≤ 120) (hB : ∀ j, B j < 256) {e : Nat} (he : e ≤ N) (TT : TB B N w) (K : Tk B N e w) (H : Hs 9 σ z w) : ∃ (u : Int32) (w' : mz_M), mz_Call (d + 3) 40 [.ref 25, .ref 9] w (some (.int u)) w' ∧ cPo B N σ z w (damP B N e) u w' := by
  have h1 := te_le B he
  have h2 := te_le B h1.2
  obtain ⟨w1, a1, a2, a3⟩ := hm_advance (d := d) hN hB h1.2 TT K.2.1
  have T1 := TT.fr a3
  have H1 := H.fa a3
  refine ec_X2_tellDamp (sg_X2_tellDamp_0 ⟨w1, a1, _, _, hm_isNumber (m := 10) (by decide) a2, fun q => ⟨nz_01, _, rfl, FT.a a3, Or.inl ⟨te B N e, ?_, rfl, a2.1⟩⟩, fun q => ?_⟩)
  · rw [nB_0] at q
    unfold damP
    rw [if_neg q]
  · rw [nB_0, Classical.not_not] at q
    have F5 : Fr Tp w1 (mz_up w1 9 (upd (w1 9) 0 (nI (tv B N (te B N e))))) := Fr.up (by omega)
    have H5 := H1.damp (tv B N (te B N e))
    obtain ⟨w6, d1, d2, d3⟩ := hm_advance (d := d) hN hB h2.2 (T1.ft (FT.o F5)) (a2.ft F5).2.1
    rw [a2.2.2.2]
    refine ⟨w6, d1, nz_11, _, rfl, (FT.a a3).tr ((FT.o F5).tr (FT.a d3)), Or.inr ⟨(te B N (te B N e), 11, tv B N (te B N e), 0, 0), ?_, rfl, d2, ?_⟩⟩
    · unfold damP
      rw [if_pos q]
    · have G := H5.fa d3
      unfold apI
      rw [if_neg (show ¬ (11 : Nat) = 10 by decide), if_pos rfl]
      exact G
theorem hm_nameOf {k : Nat} (hk : k < 7) : mz_Call (d + 1) 41 [.int (nI k)] w (some (.ref (60 + k))) w := by
  have hq : ∀ j, j < 7 → (nI k = nI j ↔ k = j) := fun j hj => nI_eq (by omega) (by omega)
  refine en_X2_nameOf (sg_X2_nameOf_0 ?_)
  rw [hq 1 (by decide), hq 2 (by decide), hq 3 (by decide), hq 4 (by decide), hq 5 (by decide), hq 6 (by decide)]
  refine ⟨fun c => ⟨by rw [c], rfl⟩, fun c1 => ⟨fun c => ⟨by rw [c], rfl⟩, fun c2 => ⟨fun c => ⟨by rw [c], rfl⟩, fun c3 => ⟨fun c => ⟨by rw [c], rfl⟩, fun c4 => ⟨fun c => ⟨by rw [c], rfl⟩, fun c5 => ⟨fun c => ⟨by rw [c], rfl⟩, fun c6 => ⟨?_, rfl⟩⟩⟩⟩⟩⟩⟩
  rw [show k = 0 by omega]
theorem hm_tellItem (hN : N ≤ 120) (hB : ∀ j, B j < 256) {e : Nat} (he : e ≤ N) (I : Iv T σ) (TT : TB B N w) (K : Tk B N e w) (H : Hs 9 σ z w) : ∃ (u : Int32) (w' : mz_M), mz_Call (d + 6) 36 [.ref 25, .ref 9] w (some (.int u)) w' ∧ cPo B N σ z w (itP B N (σ 1) e) u w' := by
  have h8 := I.2.1
  have loop : ∀ m k, k + m = 7 → kd B N e = fiS (fun k => decide (isW B N e k)) k m → mz_Ex cd_X2_tellItem (mz_Call (d + 5)) (fun r1 w1 => ∃ u : Int32, r1 = some (.int u) ∧ cPo B N σ z w (itP B N (σ 1) e) u w1) 2 [.ref 25, .ref 9, .int (nI k)] [] w := by
    intro m
    induction m with
    | zero =>
      intro k hk e1
      rw [fiS] at e1
      refine sg_X2_tellItem_2 ?_
      rw [nI_ltI (by omega) (by omega)]
      refine ⟨fun c => absurd c (by omega), fun _ => ⟨_, _, hm_isWord (t := 9) hN he (by decide) TT K, fun q => ⟨_, _, hm_isWord (t := 10) hN he (by decide) TT K, fun q2 => ⟨nz_01, _, rfl, FT.rf, Or.inl ⟨e, ?_, rfl, K.1⟩⟩, fun q2 => ?_⟩, fun q => ?_⟩⟩
      · rw [nB_0] at q q2
        unfold itP
        rw [if_pos e1, if_neg q, if_neg q2]
      · rw [nB_0] at q
        rw [nB_0, Classical.not_not] at q2
        obtain ⟨u, w2, a1, a2⟩ := hm_tellDamp (d := d + 2) hN hB he TT K H
        have er : itP B N (σ 1) e = damP B N e := by
          unfold itP
          rw [if_pos e1, if_neg q, if_pos q2]
        rw [er]
        refine ⟨u, w2, a1, fun c => ⟨nz_01, u, by rw [c], a2⟩, fun c => ⟨nz_11, u, ?_, a2⟩⟩
        rcases a2.2 with ⟨f, x1, x2, x3⟩ | ⟨p, x1, x2, x3⟩
        · exact absurd x2 c
        · rw [x2]
      · rw [nB_0, Classical.not_not] at q
        obtain ⟨u, w2, a1, a2⟩ := hm_tellList (d := d + 2) hN hB he TT K H
        have er : itP B N (σ 1) e = lisP B N e := by
          unfold itP
          rw [if_pos e1, if_pos q]
        rw [er]
        refine ⟨u, w2, a1, ?_, u, rfl, a2⟩
        rcases a2.2 with ⟨f, x1, x2, x3⟩ | ⟨p, x1, x2, x3⟩
        · rw [x2]; exact nz_01
        · rw [x2]; exact nz_11
    | succ m ih =>
      intro k hk e1
      rw [fiS] at e1
      refine sg_X2_tellItem_2 ?_
      rw [nI_ltI (by omega) (by omega), nI_add]
      refine ⟨fun _ => ⟨_, _, hm_nameOf (by omega), _, _, hm_isWord (t := k) hN he (by omega) TT K, fun q => ?_, fun q => ?_⟩, fun c => absurd (show k < 7 by omega) c⟩
      · rw [nB_0] at q
        rw [if_neg (fun c => q (of_decide_eq_true c))] at e1
        exact ih (k + 1) (by omega) e1
      · rw [nB_0, Classical.not_not] at q
        rw [if_pos (decide_eq_true q)] at e1
        have er : itP B N (σ 1) e = perP B N (σ 1) k e := by
          unfold itP
          rw [if_neg (by omega), e1, Nat.add_sub_cancel]
        refine ⟨_, _, hm_isFull (Or.inr (Or.inl rfl)) H I, fun q2 => ?_, fun q2 => ⟨nz_01, _, rfl, FT.rf, Or.inl ⟨e, ?_, rfl, K.1⟩⟩⟩
        · rw [nB_0] at q2
          obtain ⟨w4, b1, b2, b3⟩ := hm_welcome (d := d + 3) (h := 9) (Or.inr (Or.inl rfl)) H I (by omega) k
          have b3' : Fr Tp w w4 := b3.mono (by omega)
          obtain ⟨u, w5, a1, a2⟩ := hm_tellPerson (d := d) hN hB he (by omega) (by omega) (TT.ft (FT.o b3')) (K.ft b3') b2
          rw [er]
          refine ⟨_, w4, b1, u, w5, a1, fun c => ⟨nz_01, u, by rw [c], (FT.o b3').tr a2.1, a2.2⟩, fun c => ⟨nz_11, u, ?_, (FT.o b3').tr a2.1, a2.2⟩⟩
          rcases a2.2 with ⟨f, x1, x2, x3⟩ | ⟨p, x1, x2, x3⟩
          · exact absurd x2 c
          · rw [x2]
        · rw [nB_0, Classical.not_not] at q2
          rw [er]
          unfold perP
          rw [if_neg (by omega)]
  exact ec_X2_tellItem (sg_X2_tellItem_0 (loop 7 0 (by decide) rfl))
end ITM
