/-! one item of a text: the reference's reading -/
def FR (m : Nat) (w w' : mz_M) : Prop := (∀ k, k ≠ 37 → k ≠ 46 → w' k = w k) ∧ (∀ j, (j < 11 ∨ j = 16 ∨ j = 17 ∨ 20 ≤ j) → w' 37 j = w 37 j) ∧ ∀ j, j < 4 * m → w' 46 j = w 46 j
theorem FR.rf {m : Nat} {w : mz_M} : FR m w w := ⟨fun _ _ _ => rfl, fun _ _ => rfl, fun _ _ => rfl⟩
theorem FR.tr {m : Nat} {w w1 w2 : mz_M} (h1 : FR m w w1) (h2 : FR m w1 w2) : FR m w w2 := ⟨fun k a b => (h2.1 k a b).trans (h1.1 k a b), fun j a => (h2.2.1 j a).trans (h1.2.1 j a), fun j a => (h2.2.2 j a).trans (h1.2.2 j a)⟩
theorem FR.m {m : Nat} {w w1 : mz_M} (h : FM w w1) : FR m w w1 := ⟨fun k a _ => h.1 k a, fun j a => h.2 j (by omega), fun j _ => by rw [h.1 46 (by decide)]⟩
theorem wr_37 (w : mz_M) {j : Nat} (h : j ≠ 15) : wr w 37 j = w 37 j := by unfold wr; rw [mu_s, pk_un h]
theorem wr_15 (w : mz_M) : wr w 37 15 = nI 1 := by unfold wr; rw [mu_s, pk_us]
theorem FR.w {m : Nat} (w : mz_M) : FR m w (wr w) := ⟨fun k a _ => by unfold wr; rw [mu_n a], fun j a => wr_37 w (by omega), fun j _ => by unfold wr; rw [mu_n (by decide)]⟩
theorem MB.r {B : Nat → Nat} {N m : Nat} {w w' : mz_M} (h : MB B N w) (F : FR m w w') : MB B N w' := ⟨by rw [F.2.1 10 (by decide)]; exact h.1, fun j hj => by rw [F.1 44 (by decide) (by decide)]; exact h.2 j hj⟩
/-- item m stands in the row of items -/
def enc (m : Nat) (q : Nat × Nat × Nat × Nat × Nat) (w : mz_M) : Prop := w 46 (4 * m) = nI q.2.1 ∧ w 46 (4 * m + 1) = nI q.2.2.1 ∧ w 46 (4 * m + 2) = (if q.2.1 < 7 then nP q.2.2.2.1 else nI q.2.2.2.1) ∧ w 46 (4 * m + 3) = nI q.2.2.2.2
def rPo (B : Nat → Nat) (N m n : Nat) (w : mz_M) (r : iT) (w' : mz_M) : Prop := FR m w w' ∧ ((∃ f, r = .inl f ∧ w' 37 15 = nI 1 ∧ w' 37 11 = nI (ts B N f)) ∨ (∃ q, r = .inr q ∧ w' 37 15 = nI 0 ∧ Tm B N q.1 w' ∧ w' 37 18 = nI (m + 1) ∧ w' 37 19 = nI (if q.2.1 < 7 then n + 1 else n) ∧ enc m q w'))
section RD
variable {d : Nat} {w w0 : mz_M} {B : Nat → Nat} {N m n : Nat}
theorem mm_addItem (hm : m < 120) (e18 : w 37 18 = nI m) (a b c x : Int32) : ∃ w', mz_Call (d + 1) 188 [.ref 37, .int a, .int b, .int c, .int x] w none w' ∧ (w' 46 (4 * m) = a ∧ w' 46 (4 * m + 1) = b ∧ w' 46 (4 * m + 2) = c ∧ w' 46 (4 * m + 3) = x ∧ w' 37 18 = nI (m + 1) ∧ (∀ j, j ≠ 18 → w' 37 j = w 37 j) ∧ (∀ k, k ≠ 37 → k ≠ 46 → w' k = w k) ∧ ∀ j, j < 4 * m → w' 46 j = w 46 j) := by
  refine ec_X4_addItem (sg_X4_addItem_0 ?_)
  dsimp only
  rw [e18, pk_mul, nI_add, nI_add, nI_add, nI_clamp (n := 4 * m) (by omega), nI_clamp (n := 4 * m + 1) (by omega), nI_clamp (n := 4 * m + 2) (by omega), nI_clamp (n := 4 * m + 3) (by omega)]
  refine ⟨vp_in_nI (by omega) (by decide), vp_in_nI (by omega) (by decide), vp_in_nI (by omega) (by decide), vp_in_nI (by omega) (by decide), rfl, ?_⟩
  refine ⟨?_, ?_, ?_, ?_, ?_, fun j hj => ?_, fun k h1 h2 => ?_, fun j hj => ?_⟩
  · rw [mu_n (by decide), mu_s, mu_s, mu_s, mu_s, pk_un (by omega), pk_un (by omega), pk_un (by omega), pk_us]
  · rw [mu_n (by decide), mu_s, mu_s, mu_s, mu_s, pk_un (by omega), pk_un (by omega), pk_us]
  · rw [mu_n (by decide), mu_s, mu_s, mu_s, mu_s, pk_un (by omega), pk_us]
  · rw [mu_n (by decide), mu_s, mu_s, mu_s, mu_s, pk_us]
  · rw [mu_s, pk_us, mu_n (by decide), mu_n (by decide), mu_n (by decide), mu_n (by decide), e18, nI_add]
  · rw [mu_s, pk_un hj, mu_n (by decide), mu_n (by decide), mu_n (by decide), mu_n (by decide)]
  · rw [mu_n h1, mu_n h2, mu_n h2, mu_n h2, mu_n h2]
  · rw [mu_n (by decide), mu_s, mu_s, mu_s, mu_s, pk_un (by omega), pk_un (by omega), pk_un (by omega), pk_un (by omega)]
theorem mm_endW {r : iT} {f : Nat} (hm : m < 120) (F : FR m w0 w) (e18 : w 37 18 = nI m) (e15 : w 37 15 = nI 1) (e11 : w 37 11 = nI (ts B N f)) (hr : r = .inl f) (a b c x : Int32) : ∃ w', mz_Call (d + 1) 188 [.ref 37, .int a, .int b, .int c, .int x] w none w' ∧ (none : Option Value) = none ∧ rPo B N m n w0 r w' := by
  obtain ⟨w', a1, -, -, -, -, -, a6, a7, a8⟩ := mm_addItem (d := d) hm e18 a b c x
  exact ⟨w', a1, rfl, F.tr ⟨a7, fun j hj => a6 j (by omega), a8⟩, Or.inl ⟨f, hr, by rw [a6 15 (by decide), e15], by rw [a6 11 (by decide), e11]⟩⟩
theorem mm_endWp {r : iT} {f : Nat} (hm : m < 120) (F : FR m w0 w) (e18 : w 37 18 = nI m) (e15 : w 37 15 = nI 1) (e11 : w 37 11 = nI (ts B N f)) (hr : r = .inl f) (a b c x : Int32) : ∃ w', mz_Call (d + 1) 188 [.ref 37, .int a, .int b, .int c, .int x] w none w' ∧ (none : Option Value) = none ∧ rPo B N m n w0 r (mz_up w' 37 (upd (w' 37) 19 (w' 37 19 + nI 1))) := by
  obtain ⟨w', a1, -, -, -, -, -, a6, a7, a8⟩ := mm_addItem (d := d) hm e18 a b c x
  refine ⟨w', a1, rfl, F.tr ⟨fun k h1 h2 => by rw [mu_n h1, a7 k h1 h2], fun j hj => by rw [mu_s, pk_un (by omega), a6 j (by omega)], fun j hj => by rw [mu_n (by decide), a8 j hj]⟩, Or.inl ⟨f, hr, ?_, ?_⟩⟩
  · rw [mu_s, pk_un (by decide), a6 15 (by decide), e15]
  · rw [mu_s, pk_un (by decide), a6 11 (by decide), e11]
theorem mm_endG {r : iT} {e k a b : Nat} (hm : m < 120) (F : FR m w0 w) (e18 : w 37 18 = nI m) (e19 : w 37 19 = nI n) (e15 : w 37 15 = nI 0) (K : Tm B N e w) (hk : 7 ≤ k) (hr : r = .inr (e, k, a, b, 0)) : ∃ w', mz_Call (d + 1) 188 [.ref 37, .int (nI k), .int (nI a), .int (nI b), .int (nI 0)] w none w' ∧ (none : Option Value) = none ∧ rPo B N m n w0 r w' := by
  obtain ⟨w', a1, a2, a3, a4, a5, a9, a6, a7, a8⟩ := mm_addItem (d := d) hm e18 (nI k) (nI a) (nI b) (nI 0)
  refine ⟨w', a1, rfl, F.tr ⟨a7, fun j hj => a6 j (by omega), a8⟩, Or.inr ⟨_, hr, by rw [a6 15 (by decide), e15], ?_, a9, ?_, a2, a3, ?_, a5⟩⟩
  · unfold Tm
    rw [a6 11 (by decide), a6 12 (by decide), a6 13 (by decide), a6 14 (by decide)]
    exact K
  · rw [a6 19 (by decide), e19, if_neg (show ¬ k < 7 by omega)]
  · rw [a4, if_neg (show ¬ k < 7 by omega)]
theorem mm_endGp {r : iT} {e k a b c : Nat} (hm : m < 120) (F : FR m w0 w) (e18 : w 37 18 = nI m) (e19 : w 37 19 = nI n) (e15 : w 37 15 = nI 0) (K : Tm B N e w) (hk : k < 7) (hr : r = .inr (e, k, a, b, c)) : ∃ w', mz_Call (d + 1) 188 [.ref 37, .int (nI k), .int (nI a), .int (nP b), .int (nI c)] w none w' ∧ (none : Option Value) = none ∧ rPo B N m n w0 r (mz_up w' 37 (upd (w' 37) 19 (w' 37 19 + nI 1))) := by
  obtain ⟨w', a1, a2, a3, a4, a5, a9, a6, a7, a8⟩ := mm_addItem (d := d) hm e18 (nI k) (nI a) (nP b) (nI c)
  have en : ∀ f, mz_up w' 37 f 46 = w' 46 := fun f => mu_n (by decide)
  refine ⟨w', a1, rfl, F.tr ⟨fun k h1 h2 => by rw [mu_n h1, a7 k h1 h2], fun j hj => by rw [mu_s, pk_un (by omega), a6 j (by omega)], fun j hj => by rw [en, a8 j hj]⟩, Or.inr ⟨_, hr, ?_, ?_, ?_, ?_, by rw [en]; exact a2, by rw [en]; exact a3, ?_, by rw [en]; exact a5⟩⟩
  · rw [mu_s, pk_un (by decide), a6 15 (by decide), e15]
  · unfold Tm
    rw [mu_s, pk_un (by decide), pk_un (by decide), pk_un (by decide), pk_un (by decide), a6 11 (by decide), a6 12 (by decide), a6 13 (by decide), a6 14 (by decide)]
    exact K
  · rw [mu_s, pk_un (by decide), a9]
  · rw [mu_s, pk_us, a6 19 (by decide), e19, nI_add, if_pos (show k < 7 from hk)]
  · rw [en, a4, if_pos (show k < 7 from hk)]
/-- what is owed behind a person's worth -/
def ptl (call : mz_C) (Q : mz_Q) (a1 r2 : Int32) (w2 : mz_M) : Prop := ((w2 37 15 = nI 0) → (∃ (r3 : Int32) (w3 : mz_M), call 185 [.ref 37, .ref 68] w2 (some (.int r3)) w3 ∧ (((r3 = nI 0) → (∃ w4, call 188 [.ref 37, .int a1, .int r2, .int ((-1 : Int32)), .int (nI 0)] w3 none w4 ∧ (Q none (mz_up w4 37 (upd (w4 37) 19 ((w4 37 19) + (nI 1))))))) ∧ ((¬ r3 = nI 0) → (∃ w5, call 186 [.ref 37, .int (nI 1)] w3 none w5 ∧ (∃ (r6 : Int32) (w6 : mz_M), call 187 [.ref 37, .int (nI 0), .int ((w5 37 19) - (nI 1))] w5 (some (.int r6)) w6 ∧ (∃ (r7 : Int32) (w7 : mz_M), call 187 [.ref 37, .int (nI 0), .int (nI 999)] w6 (some (.int r7)) w7 ∧ (∃ w8, call 188 [.ref 37, .int a1, .int r2, .int r6, .int r7] w7 none w8 ∧ (Q none (mz_up w8 37 (upd (w8 37) 19 ((w8 37 19) + (nI 1))))))))))))) ∧ ((¬ w2 37 15 = nI 0) → (∃ w9, call 188 [.ref 37, .int a1, .int r2, .int ((-1 : Int32)), .int (nI 0)] w2 none w9 ∧ (Q none (mz_up w9 37 (upd (w9 37) 19 ((w9 37 19) + (nI 1)))))))
theorem mm_ptlW {r : iT} {f : Nat} (hm : m < 120) (F : FR m w0 w) (e18 : w 37 18 = nI m) (e15 : w 37 15 = nI 1) (e11 : w 37 11 = nI (ts B N f)) (hr : r = .inl f) (a b : Int32) : ptl (mz_Call (d + 5)) (fun r1 w' => r1 = none ∧ rPo B N m n w0 r w') a b w :=
  ⟨fun c => absurd (e15.symm.trans c) n10, fun _ => mm_endWp hm F e18 e15 e11 hr a b _ _⟩
theorem tf_te {e : Nat} (h : ¬ tk B N e = 4) : tf B N e = te B N e := by
  unfold tf
  rw [if_neg h]
theorem Tm.wrg {e : Nat} (K : Tm B N e w) : wr w 37 11 = nI (ts B N e) := by
  rw [wr_37 _ (by decide)]; exact K.1
theorem mm_ptlG (hN : N ≤ 120) (hB : ∀ j, B j < 256) {r : iT} {e k wo : Nat} (he : e ≤ N) (hm : m < 120) (hn : n < 8) (hk : k < 7) (F : FR m w0 w) (TT : MB B N w) (K : Tm B N e w) (e18 : w 37 18 = nI m) (e19 : w 37 19 = nI n) (e15 : w 37 15 = nI 0) (hr : r = kinP B N n k wo e) : ptl (mz_Call (d + 5)) (fun r1 w' => r1 = none ∧ rPo B N m n w0 r w') (nI k) (nI wo) w := by
  have h1 := te_le B he
  have h2 := te_le B h1.2
  have h3 := te_le B h2.2
  refine ⟨fun _ => ⟨_, _, mm_isWord (t := 8) hN he (by decide) TT K, fun q => ?_, fun q => ?_⟩, fun c => absurd e15 c⟩
  · rw [nB_0] at q
    have E := mm_endGp (d := d + 4) (b := 0) (c := 0) (a := wo) (r := r) hm F e18 e19 e15 K hk (by rw [hr]; unfold kinP; rw [if_neg q])
    rw [nP_0] at E
    exact E
  · rw [nB_0, Classical.not_not] at q
    obtain ⟨w5, a1, a2, a3⟩ := mm_mustT (d := d + 2) hN hB h1.2 TT (by rw [K.2.1, tf_te (by omega)]) e15
    have T5 := TT.fr a3
    have x18 : w5 37 18 = nI m := by rw [a3.2 18 (by decide)]; exact e18
    have x19 : w5 37 19 = nI n := by rw [a3.2 19 (by decide)]; exact e19
    have x15 : w5 37 15 = nI 0 := by rw [a3.2 15 (by decide)]; exact e15
    refine ⟨w5, a1, ?_⟩
    rw [x19, show nI n - nI 1 = nP n from rfl]
    by_cases c : nm B N (te B N e) n
    · obtain ⟨w6, b1, b2, b3⟩ := mm_numT (d := d + 1) hN hB h1.2 (m := n) (by omega) T5 a2 x15 c
      have T6 := T5.fr b3
      have y18 : w6 37 18 = nI m := by rw [b3.2 18 (by decide)]; exact x18
      have y19 : w6 37 19 = nI n := by rw [b3.2 19 (by decide)]; exact x19
      have y15 : w6 37 15 = nI 0 := by rw [b3.2 15 (by decide)]; exact x15
      by_cases c2 : nm B N (te B N (te B N e)) 1000
      · obtain ⟨w7, d1, d2, d3⟩ := mm_numT (d := d + 1) hN hB h2.2 (m := 1000) (by decide) T6 b2 y15 c2
        have E := mm_endGp (d := d + 4) (b := tv B N (te B N e) + 1) (c := tv B N (te B N (te B N e))) (a := wo) (r := r) (n := n) hm (F.tr (FR.m (a3.tr (b3.tr d3)))) (by rw [d3.2 18 (by decide)]; exact y18) (by rw [d3.2 19 (by decide)]; exact y19) (by rw [d3.2 15 (by decide)]; exact y15) d2 hk (by rw [hr]; unfold kinP; rw [if_pos q, if_pos c, if_pos c2])
        rw [nP_s] at E
        exact ⟨_, w6, b1, _, w7, d1, E⟩
      · exact ⟨_, w6, b1, _, wr w6, mm_numF (d := d + 1) (m := 1000) (by decide) b2 y15 c2, mm_endWp hm (F.tr ((FR.m (a3.tr b3)).tr (FR.w w6))) (by rw [wr_37 _ (by decide)]; exact y18) (wr_15 _) b2.wrg (by rw [hr]; unfold kinP; rw [if_pos q, if_pos c, if_neg c2]) _ _ _ _⟩
    · have z18 : wr w5 37 18 = nI m := by rw [wr_37 _ (by decide)]; exact x18
      exact ⟨_, wr w5, mm_numF (d := d + 1) (m := n) (by omega) a2 x15 c, _, wr w5, mm_numW (d := d + 1) (wr_15 _) _ _, mm_endWp hm (F.tr ((FR.m a3).tr (FR.w w5))) z18 (wr_15 _) a2.wrg (by rw [hr]; unfold kinP; rw [if_pos q, if_neg c]) _ _ _ _⟩
theorem mm_worthN (hN : N ≤ 120) {e : Nat} (he : e ≤ N) (TT : MB B N w) (K : Tm B N e w) (c : ¬ isW B N e 7) : mz_Call (d + 5) 190 [.ref 37] w (some (.int (nI 4))) w :=
  en_X4_worthTold (sg_X4_worthTold_0 ⟨fun _ => ⟨_, _, mm_isWord (t := 7) hN he (by decide) TT K, fun _ => ⟨rfl, rfl⟩, nN c⟩, fun _ => ⟨rfl, rfl⟩⟩)
theorem mm_worthW (e15 : w 37 15 = nI 1) : mz_Call (d + 5) 190 [.ref 37] w (some (.int (nI 4))) w :=
  en_X4_worthTold (sg_X4_worthTold_0 ⟨fun c => absurd (e15.symm.trans c) n10, fun _ => ⟨rfl, rfl⟩⟩)
theorem mm_worthY (hN : N ≤ 120) (hB : ∀ j, B j < 256) {e : Nat} (he : e ≤ N) (TT : MB B N w) (K : Tm B N e w) (e15 : w 37 15 = nI 0) (c : isW B N e 7) : ∃ w1, Tm B N (te B N e) w1 ∧ FM w w1 ∧ (nm B N (te B N e) 100 → ∃ w', mz_Call (d + 5) 190 [.ref 37] w (some (.int (nI (tv B N (te B N e))))) w' ∧ Tm B N (te B N (te B N e)) w' ∧ FM w w') ∧ (¬ nm B N (te B N e) 100 → mz_Call (d + 5) 190 [.ref 37] w (some (.int (nI (tv B N (te B N e))))) (wr w1)) := by
  have h1 := te_le B he
  obtain ⟨w1, a1, a2, a3⟩ := mm_mustT (d := d + 1) hN hB h1.2 TT (by rw [K.2.1, tf_te (by omega)]) e15
  have x15 : w1 37 15 = nI 0 := by rw [a3.2 15 (by decide)]; exact e15
  refine ⟨w1, a2, a3, fun q => ?_, fun q => ?_⟩
  · obtain ⟨w2, b1, b2, b3⟩ := mm_numT (d := d) hN hB h1.2 (m := 100) (by decide) (TT.fr a3) a2 x15 q
    exact ⟨w2, en_X4_worthTold (sg_X4_worthTold_0 ⟨fun _ => ⟨_, _, mm_isWord (t := 7) hN he (by decide) TT K, nY c, fun _ => ⟨w1, a1, _, w2, b1, rfl, rfl⟩⟩, fun c => absurd e15 c⟩), b2, a3.tr b3⟩
  · exact en_X4_worthTold (sg_X4_worthTold_0 ⟨fun _ => ⟨_, _, mm_isWord (t := 7) hN he (by decide) TT K, nY c, fun _ => ⟨w1, a1, _, _, mm_numF (d := d) (m := 100) (by decide) a2 x15 q, rfl, rfl⟩⟩, fun c => absurd e15 c⟩)
theorem mm_readPerson (hN : N ≤ 120) (hB : ∀ j, B j < 256) {e k : Nat} (he : e ≤ N) (hm : m < 120) (hn : n ≤ 8) (hk : k < 7) (TT : MB B N w) (K : Tm B N e w) (e18 : w 37 18 = nI m) (e19 : w 37 19 = nI n) (e15 : w 37 15 = nI 0) (c : isW B N e k) : ∃ w', mz_Call (d + 6) 191 [.ref 37, .int (nI k)] w none w' ∧ rPo B N m n w (perP B N n k e) w' := by
  have h1 := te_le B he
  have h2 := te_le B h1.2
  have h3 := te_le B h2.2
  refine ec_X4_readPerson (sg_X4_readPerson_0 ?_)
  rw [e19, nI_ltI (by omega) (by omega)]
  refine ⟨fun c1 => ?_, fun c1 => ?_⟩
  · obtain ⟨w1, a1, a2, a3⟩ := mm_mustT (d := d + 2) hN hB h1.2 TT (by rw [K.2.1, tf_te (by omega)]) e15
    have T1 := TT.fr a3
    have x18 : w1 37 18 = nI m := by rw [a3.2 18 (by decide)]; exact e18
    have x19 : w1 37 19 = nI n := by rw [a3.2 19 (by decide)]; exact e19
    have x15 : w1 37 15 = nI 0 := by rw [a3.2 15 (by decide)]; exact e15
    refine ⟨w1, a1, ?_⟩
    by_cases c2 : isW B N (te B N e) 7
    · obtain ⟨w2, b1, b2, b3, b4⟩ := mm_worthY (d := d) hN hB h1.2 T1 a2 x15 c2
      by_cases c3 : nm B N (te B N (te B N e)) 100
      · obtain ⟨w3, d1, d2, d3⟩ := b3 c3
        exact ⟨_, w3, d1, mm_ptlG (d := d) hN hB h3.2 hm c1 hk (FR.m (a3.tr d3)) (T1.fr d3) d2 (by rw [d3.2 18 (by decide)]; exact x18) (by rw [d3.2 19 (by decide)]; exact x19) (by rw [d3.2 15 (by decide)]; exact x15) (by unfold perP; rw [if_pos c1, if_pos c2, if_pos c3])⟩
      · exact ⟨_, wr w2, b4 c3, mm_ptlW (d := d) hm ((FR.m (a3.tr b2)).tr (FR.w w2)) (by rw [wr_37 _ (by decide), b2.2 18 (by decide)]; exact x18) (wr_15 _) b1.wrg (by unfold perP; rw [if_pos c1, if_pos c2, if_neg c3]) _ _⟩
    · exact ⟨_, w1, mm_worthN hN h1.2 T1 a2 c2, mm_ptlG (d := d) hN hB h1.2 hm c1 hk (FR.m a3) T1 a2 x18 x19 x15 (by unfold perP; rw [if_pos c1, if_neg c2])⟩
  · exact ⟨_, mm_mustF e15, _, _, mm_worthW (wr_15 _), mm_ptlW (d := d) hm (FR.w w) (by rw [wr_37 _ (by decide)]; exact e18) (wr_15 _) K.wrg (by unfold perP; rw [if_neg c1]) _ _⟩
theorem gd7 : ∀ k, k < 7 → ([60, 61, 62, 63, 64, 65, 66] : List Nat).getD k 0 = 60 + k := by decide
theorem mm_kindTold (hN : N ≤ 120) {e : Nat} (he : e ≤ N) (TT : MB B N w) (K : Tm B N e w) : mz_Call (d + 5) 189 [.ref 37] w (some (.int (nP (kd B N e)))) w := by
  have hk7 : kd B N e ≤ 7 := by rcases kd_is B N e with ⟨z, -⟩ | ⟨k, a, z, -⟩ <;> omega
  have loop : ∀ m k, k + m = 7 → mz_Ex cd_X4_kindTold (mz_Call (d + 4)) (fun r1 w1 => r1 = some (.int (nP (kd B N e))) ∧ w1 = w) 4 [.ref 37, .int (nP (if kd B N e ≤ k then kd B N e else 0)), .int (nI k)] [] w := by
    intro m
    induction m with
    | zero =>
      intro k hk
      refine sg_X4_kindTold_4 ?_
      rw [nI_ltI (by omega) (by omega)]
      refine ⟨fun c => absurd c (by omega), fun _ => ⟨?_, rfl⟩⟩
      rw [if_pos (by omega)]
    | succ m ih =>
      intro k hk
      have i1 := ih (k + 1) (by omega)
      refine sg_X4_kindTold_4 ?_
      rw [nI_ltI (by omega) (by omega), nI_add, nI_clamp (n := k) (by omega), gd7 k (by omega)]
      refine ⟨fun _ => ⟨vp_in_nI (by omega) (by decide), _, _, mm_isWord (t := k) hN he (by omega) TT K, fun q => ?_, fun q => ?_⟩, fun c => absurd (show k < 7 by omega) c⟩
      · rw [nB_0] at q
        have ne : ¬ kd B N e = k + 1 := by
          intro z
          rcases kd_is B N e with ⟨z2, -⟩ | ⟨k2, a, z2, z3⟩
          · omega
          · rw [show k2 = k by omega] at z3
            exact q z3
        rw [show (if kd B N e ≤ k then kd B N e else 0) = (if kd B N e ≤ k + 1 then kd B N e else 0) from ite_iff (by omega)]
        exact i1
      · rw [nB_0, Classical.not_not] at q
        have ee : kd B N e = k + 1 := by
          rcases kd_is B N e with ⟨-, z2⟩ | ⟨k2, a, z2, z3⟩
          · exact absurd q (z2 k (by omega))
          · rw [z2, isW_1 a (by omega) z3 q]
        rw [if_pos (by omega), ee, nP_s] at i1
        rw [ee, nP_s]
        exact i1
  have L := loop 7 0 (by decide)
  rw [show (if kd B N e ≤ 0 then kd B N e else 0) = 0 by split <;> omega, nP_0] at L
  exact en_X4_kindTold (sg_X4_kindTold_0 L)
theorem mm_readItem (hN : N ≤ 120) (hB : ∀ j, B j < 256) {e : Nat} (he : e ≤ N) (hm : m < 120) (hn : n ≤ 8) (TT : MB B N w) (K : Tm B N e w) (e18 : w 37 18 = nI m) (e19 : w 37 19 = nI n) (e15 : w 37 15 = nI 0) : ∃ w', mz_Call (d + 7) 192 [.ref 37] w none w' ∧ rPo B N m n w (itP B N n e) w' := by
  have h1 := te_le B he
  have h2 := te_le B h1.2
  have h3 := te_le B h2.2
  have hk7 : kd B N e ≤ 7 := by rcases kd_is B N e with ⟨z, -⟩ | ⟨k, a, z, -⟩ <;> omega
  refine ec_X4_readItem (sg_X4_readItem_0 ⟨_, _, mm_kindTold hN he TT K, ?_⟩)
  rw [nP_neg (by omega)]
  refine ⟨fun z => ⟨_, _, mm_isWord (t := 9) hN he (by decide) TT K, fun q => ⟨_, _, mm_isWord (t := 10) hN he (by decide) TT K, ?_⟩, fun q => ?_⟩, fun z => ?_⟩
  · rw [nB_0] at q
    by_cases c : isW B N e 10
    · rw [nB_t c]
      obtain ⟨w4, a1, a2, a3⟩ := mm_mustT (d := d + 3) hN hB h1.2 TT (by rw [K.2.1, tf_te (by omega)]) e15
      have x18 : w4 37 18 = nI m := by rw [a3.2 18 (by decide)]; exact e18
      have x19 : w4 37 19 = nI n := by rw [a3.2 19 (by decide)]; exact e19
      have x15 : w4 37 15 = nI 0 := by rw [a3.2 15 (by decide)]; exact e15
      by_cases c2 : nm B N (te B N e) 10
      · obtain ⟨w5, b1, b2, b3⟩ := mm_numT (d := d + 2) hN hB h1.2 (m := 10) (by decide) (TT.fr a3) a2 x15 c2
        exact ⟨w4, a1, _, w5, b1, mm_endG (d := d + 5) (k := 11) (b := 0) hm (FR.m (a3.tr b3)) (by rw [b3.2 18 (by decide)]; exact x18) (by rw [b3.2 19 (by decide)]; exact x19) (by rw [b3.2 15 (by decide)]; exact x15) b2 (by decide) (by unfold itP damP; rw [if_pos z, if_neg q, if_pos c, if_pos c2])⟩
      · exact ⟨w4, a1, _, wr w4, mm_numF (d := d + 2) (m := 10) (by decide) a2 x15 c2, mm_endW (d := d + 5) hm ((FR.m a3).tr (FR.w w4)) (by rw [wr_37 _ (by decide)]; exact x18) (wr_15 _) a2.wrg (by unfold itP damP; rw [if_pos z, if_neg q, if_pos c, if_neg c2]) _ _ _ _⟩
    · rw [nB_f c]
      exact ⟨_, mm_mustF e15, _, _, mm_numW (d := d + 2) (wr_15 _) _ _, mm_endW (d := d + 5) hm (FR.w w) (by rw [wr_37 _ (by decide)]; exact e18) (wr_15 _) K.wrg (by unfold itP; rw [if_pos z, if_neg q, if_neg c]) _ _ _ _⟩
  · rw [nB_0, Classical.not_not] at q
    obtain ⟨w4, a1, a2, a3⟩ := mm_mustT (d := d + 3) hN hB h1.2 TT (by rw [K.2.1, tf_te (by omega)]) e15
    have T4 := TT.fr a3
    have x18 : w4 37 18 = nI m := by rw [a3.2 18 (by decide)]; exact e18
    have x19 : w4 37 19 = nI n := by rw [a3.2 19 (by decide)]; exact e19
    have x15 : w4 37 15 = nI 0 := by rw [a3.2 15 (by decide)]; exact e15
    by_cases c : nm B N (te B N e) 6
    · obtain ⟨w5, b1, b2, b3⟩ := mm_numT (d := d + 2) hN hB h1.2 (m := 6) (by decide) T4 a2 x15 c
      have y18 : w5 37 18 = nI m := by rw [b3.2 18 (by decide)]; exact x18
      have y19 : w5 37 19 = nI n := by rw [b3.2 19 (by decide)]; exact x19
      have y15 : w5 37 15 = nI 0 := by rw [b3.2 15 (by decide)]; exact x15
      by_cases c2 : nm B N (te B N (te B N e)) 256
      · obtain ⟨w6, d1, d2, d3⟩ := mm_numT (d := d + 2) hN hB h2.2 (m := 256) (by decide) (T4.fr b3) b2 y15 c2
        exact ⟨w4, a1, _, w5, b1, _, w6, d1, mm_endG (d := d + 5) (k := 10) hm (FR.m (a3.tr (b3.tr d3))) (by rw [d3.2 18 (by decide)]; exact y18) (by rw [d3.2 19 (by decide)]; exact y19) (by rw [d3.2 15 (by decide)]; exact y15) d2 (by decide) (by unfold itP lisP; rw [if_pos z, if_pos q, if_pos c, if_pos c2])⟩
      · exact ⟨w4, a1, _, w5, b1, _, wr w5, mm_numF (d := d + 2) (m := 256) (by decide) b2 y15 c2, mm_endW (d := d + 5) hm ((FR.m (a3.tr b3)).tr (FR.w w5)) (by rw [wr_37 _ (by decide)]; exact y18) (wr_15 _) b2.wrg (by unfold itP lisP; rw [if_pos z, if_pos q, if_pos c, if_neg c2]) _ _ _ _⟩
    · exact ⟨w4, a1, _, wr w4, mm_numF (d := d + 2) (m := 6) (by decide) a2 x15 c, _, _, mm_numW (d := d + 2) (wr_15 _) _ _, mm_endW (d := d + 5) hm ((FR.m a3).tr (FR.w w4)) (by rw [wr_37 _ (by decide)]; exact x18) (wr_15 _) a2.wrg (by unfold itP lisP; rw [if_pos z, if_pos q, if_neg c]) _ _ _ _⟩
  · rcases kd_is B N e with ⟨z2, -⟩ | ⟨k, a, z2, z3⟩
    · exact absurd z2 z
    · obtain ⟨w4, a1, a2⟩ := mm_readPerson (d := d) hN hB he hm hn a TT K e18 e19 e15 z3
      rw [z2, nP_s]
      refine ⟨w4, a1, rfl, ?_⟩
      unfold itP
      rw [if_neg z, z2, Nat.add_sub_cancel]
      exact a2
end RD
