/-! one place set, on both sides; findings of both sides; the first public methods -/
section SETS
variable {σ : Nat → Nat} {z : Int32} {w : mz_M} {T h : Nat}
theorem Iv.put (I : Iv T σ) {k v : Nat} (q : (k = 3 ∧ v ≤ 9) ∨ (4 ≤ k ∧ k < 15 ∧ v ≤ σ 1) ∨ (15 ≤ k ∧ k < 21 ∧ v < 256) ∨ (21 ≤ k ∧ k < 29 ∧ v < 7) ∨ (29 ≤ k ∧ k < 37 ∧ v ≤ 99)) : Iv T (su σ k v) := by
  obtain ⟨i0, i1, i2, i3, i4, i5, i6, i7, i8, i9⟩ := I
  refine ⟨?_, ?_, ?_, fun j a b => ?_, fun j a b => ?_, fun j a b => ?_, fun j a b => ?_, fun j a b => ?_, fun a b ha hb => ?_, fun a ha => ?_⟩
  · rw [su_n (by omega)]; exact i0
  · rw [su_n (by omega)]; exact i1
  · by_cases e : 3 = k
    · subst e; rw [su_s]; omega
    · rw [su_n e]; exact i2
  · rw [su_n (k := k) (j := 1) (by omega)]
    by_cases e : j = k
    · subst e; rw [su_s]; omega
    · rw [su_n e]; exact i3 j a b
  · by_cases e : j = k
    · subst e; rw [su_s]; omega
    · rw [su_n e]; exact i4 j a b
  · by_cases e : j = k
    · subst e; rw [su_s]; omega
    · rw [su_n e]; exact i5 j a b
  · by_cases e : j = k
    · subst e; rw [su_s]; omega
    · rw [su_n e]; exact i6 j a b
  · rw [su_n (by omega)]; exact i7 j a b
  · rw [su_n (by omega), su_n (by omega)]; exact i8 a b ha hb
  · rw [su_n (by omega)]; exact i9 a ha
theorem Iv.kin (I : Iv T σ) {a b v : Nat} (ha : a < 8) (hb : b < 8) (hab : a ≠ b) (hv : v ≤ 999) : Iv T (kS σ a b v) := by
  obtain ⟨i0, i1, i2, i3, i4, i5, i6, i7, i8, i9⟩ := I
  have hs : ∀ j, j < 37 → kS σ a b v j = σ j := fun j hj => by unfold kS; rw [su_n (by omega), su_n (by omega)]
  have hk : ∀ x y, x < 8 → y < 8 → kS σ a b v (37 + 8 * x + y) = if (x = a ∧ y = b) ∨ (x = b ∧ y = a) then v else σ (37 + 8 * x + y) := fun x y hx hy => by
    unfold kS su
    by_cases c1 : x = b ∧ y = a
    · rw [if_pos (by omega), if_pos (Or.inr c1)]
    · rw [if_neg (by omega)]
      by_cases c2 : x = a ∧ y = b
      · rw [if_pos (by omega), if_pos (Or.inl c2)]
      · rw [if_neg (by omega), if_neg (by omega)]
  refine ⟨by rw [hs _ (by omega)]; exact i0, by rw [hs _ (by omega)]; exact i1, by rw [hs _ (by omega)]; exact i2, fun j p q => by rw [hs j (by omega), hs 1 (by omega)]; exact i3 j p q, fun j p q => by rw [hs _ (by omega)]; exact i4 j p q, fun j p q => by rw [hs _ (by omega)]; exact i5 j p q, fun j p q => by rw [hs _ (by omega)]; exact i6 j p q, fun j p q => ?_, fun x y hx hy => ?_, fun x hx => ?_⟩
  · have e := hk ((j - 37) / 8) ((j - 37) % 8) (by omega) (by omega)
    rw [show 37 + 8 * ((j - 37) / 8) + (j - 37) % 8 = j by omega] at e
    rw [e]
    split
    · exact hv
    · exact i7 j p q
  · rw [hk x y hx hy, hk y x hy hx, i8 x y hx hy]
    exact ite_iff (by omega)
  · rw [hk x x hx hx, if_neg (by omega)]; exact i9 x hx
theorem Hs.damp (H : Hs h σ z w) (v : Nat) : Hs h (su σ 3 v) z (mz_up w h (upd (w h) 0 (nI v))) := by
  obtain ⟨g0, g1, g2, g3, g4, g5, g6, g7, g8, g9⟩ := H
  refine ⟨?_, ?_, ?_, ?_, ?_, fun j hj => ?_, fun j hj => ?_, fun j hj => ?_, fun j hj => ?_, fun j hj => ?_⟩
  · rw [mu_s, pk_us, su_s]
  · rw [mu_s, pk_un (by decide), su_n (by decide)]; exact g1
  · rw [mu_s, pk_un (by decide), su_n (by decide)]; exact g2
  · rw [mu_s, pk_un (by decide), su_n (by decide)]; exact g3
  · rw [mu_s, pk_un (by decide)]; exact g4
  · rw [mu_n (by omega), su_n (by omega)]; exact g5 j hj
  · rw [mu_n (by omega), su_n (by omega)]; exact g6 j hj
  · rw [mu_n (by omega), su_n (by omega)]; exact g7 j hj
  · rw [mu_n (by omega), su_n (by omega)]; exact g8 j hj
  · rw [mu_n (by omega), su_n (by omega)]; exact g9 j hj
theorem Hs.people (H : Hs h σ z w) (v : Nat) : Hs h (su σ 1 v) z (mz_up w h (upd (w h) 3 (nI v))) := by
  obtain ⟨g0, g1, g2, g3, g4, g5, g6, g7, g8, g9⟩ := H
  refine ⟨?_, ?_, ?_, ?_, ?_, fun j hj => ?_, fun j hj => ?_, fun j hj => ?_, fun j hj => ?_, fun j hj => ?_⟩
  · rw [mu_s, pk_un (by decide), su_n (by decide)]; exact g0
  · rw [mu_s, pk_un (by decide), su_n (by decide)]; exact g1
  · rw [mu_s, pk_un (by decide), su_n (by decide)]; exact g2
  · rw [mu_s, pk_us, su_s]
  · rw [mu_s, pk_un (by decide)]; exact g4
  · rw [mu_n (by omega), su_n (by omega)]; exact g5 j hj
  · rw [mu_n (by omega), su_n (by omega)]; exact g6 j hj
  · rw [mu_n (by omega), su_n (by omega)]; exact g7 j hj
  · rw [mu_n (by omega), su_n (by omega)]; exact g8 j hj
  · rw [mu_n (by omega), su_n (by omega)]; exact g9 j hj
theorem Hs.draw (H : Hs h σ z w) (v : Int32) : Hs h σ v (mz_up w h (upd (w h) 4 v)) := by
  obtain ⟨g0, g1, g2, g3, g4, g5, g6, g7, g8, g9⟩ := H
  refine ⟨?_, ?_, ?_, ?_, ?_, fun j hj => ?_, fun j hj => ?_, fun j hj => ?_, fun j hj => ?_, fun j hj => ?_⟩
  · rw [mu_s, pk_un (by decide)]; exact g0
  · rw [mu_s, pk_un (by decide)]; exact g1
  · rw [mu_s, pk_un (by decide)]; exact g2
  · rw [mu_s, pk_un (by decide)]; exact g3
  · rw [mu_s, pk_us]
  · rw [mu_n (by omega)]; exact g5 j hj
  · rw [mu_n (by omega)]; exact g6 j hj
  · rw [mu_n (by omega)]; exact g7 j hj
  · rw [mu_n (by omega)]; exact g8 j hj
  · rw [mu_n (by omega)]; exact g9 j hj
theorem Hs.list (H : Hs h σ z w) {i : Nat} (hi : i < 6) (v : Nat) : Hs h (su σ (15 + i) v) z (mz_up w (h + 1) (upd (w (h + 1)) i (nI v))) := by
  obtain ⟨g0, g1, g2, g3, g4, g5, g6, g7, g8, g9⟩ := H
  refine ⟨?_, ?_, ?_, ?_, ?_, fun j hj => ?_, fun j hj => ?_, fun j hj => ?_, fun j hj => ?_, fun j hj => ?_⟩
  · rw [mu_n (by omega), su_n (by omega)]; exact g0
  · rw [mu_n (by omega), su_n (by omega)]; exact g1
  · rw [mu_n (by omega), su_n (by omega)]; exact g2
  · rw [mu_n (by omega), su_n (by omega)]; exact g3
  · rw [mu_n (by omega)]; exact g4
  · rw [mu_s]
    by_cases e : j = i
    · rw [e, pk_us, su_s]
    · rw [pk_un e, su_n (by omega)]; exact g5 j hj
  · rw [mu_n (by omega), su_n (by omega)]; exact g6 j hj
  · rw [mu_n (by omega), su_n (by omega)]; exact g7 j hj
  · rw [mu_n (by omega), su_n (by omega)]; exact g8 j hj
  · rw [mu_n (by omega), su_n (by omega)]; exact g9 j hj
theorem Hs.kind (H : Hs h σ z w) {i : Nat} (hi : i < 8) (v : Nat) : Hs h (su σ (21 + i) v) z (mz_up w (h + 2) (upd (w (h + 2)) i (nI v))) := by
  obtain ⟨g0, g1, g2, g3, g4, g5, g6, g7, g8, g9⟩ := H
  refine ⟨?_, ?_, ?_, ?_, ?_, fun j hj => ?_, fun j hj => ?_, fun j hj => ?_, fun j hj => ?_, fun j hj => ?_⟩
  · rw [mu_n (by omega), su_n (by omega)]; exact g0
  · rw [mu_n (by omega), su_n (by omega)]; exact g1
  · rw [mu_n (by omega), su_n (by omega)]; exact g2
  · rw [mu_n (by omega), su_n (by omega)]; exact g3
  · rw [mu_n (by omega)]; exact g4
  · rw [mu_n (by omega), su_n (by omega)]; exact g5 j hj
  · rw [mu_s]
    by_cases e : j = i
    · rw [e, pk_us, su_s]
    · rw [pk_un e, su_n (by omega)]; exact g6 j hj
  · rw [mu_n (by omega), su_n (by omega)]; exact g7 j hj
  · rw [mu_n (by omega), su_n (by omega)]; exact g8 j hj
  · rw [mu_n (by omega), su_n (by omega)]; exact g9 j hj
theorem Hs.worth (H : Hs h σ z w) {i : Nat} (hi : i < 8) (v : Nat) : Hs h (su σ (29 + i) v) z (mz_up w (h + 3) (upd (w (h + 3)) i (nI v))) := by
  obtain ⟨g0, g1, g2, g3, g4, g5, g6, g7, g8, g9⟩ := H
  refine ⟨?_, ?_, ?_, ?_, ?_, fun j hj => ?_, fun j hj => ?_, fun j hj => ?_, fun j hj => ?_, fun j hj => ?_⟩
  · rw [mu_n (by omega), su_n (by omega)]; exact g0
  · rw [mu_n (by omega), su_n (by omega)]; exact g1
  · rw [mu_n (by omega), su_n (by omega)]; exact g2
  · rw [mu_n (by omega), su_n (by omega)]; exact g3
  · rw [mu_n (by omega)]; exact g4
  · rw [mu_n (by omega), su_n (by omega)]; exact g5 j hj
  · rw [mu_n (by omega), su_n (by omega)]; exact g6 j hj
  · rw [mu_s]
    by_cases e : j = i
    · rw [e, pk_us, su_s]
    · rw [pk_un e, su_n (by omega)]; exact g7 j hj
  · rw [mu_n (by omega), su_n (by omega)]; exact g8 j hj
  · rw [mu_n (by omega), su_n (by omega)]; exact g9 j hj
theorem Hs.spot (H : Hs h σ z w) {i : Nat} (hi : i < 10) (v : Nat) : Hs h (su σ (5 + i) v) z (mz_up w (h + 5) (upd (w (h + 5)) i (nP v))) := by
  obtain ⟨g0, g1, g2, g3, g4, g5, g6, g7, g8, g9⟩ := H
  refine ⟨?_, ?_, ?_, ?_, ?_, fun j hj => ?_, fun j hj => ?_, fun j hj => ?_, fun j hj => ?_, fun j hj => ?_⟩
  · rw [mu_n (by omega), su_n (by omega)]; exact g0
  · rw [mu_n (by omega), su_n (by omega)]; exact g1
  · rw [mu_n (by omega), su_n (by omega)]; exact g2
  · rw [mu_n (by omega), su_n (by omega)]; exact g3
  · rw [mu_n (by omega)]; exact g4
  · rw [mu_n (by omega), su_n (by omega)]; exact g5 j hj
  · rw [mu_n (by omega), su_n (by omega)]; exact g6 j hj
  · rw [mu_n (by omega), su_n (by omega)]; exact g7 j hj
  · rw [mu_n (by omega), su_n (by omega)]; exact g8 j hj
  · rw [mu_s]
    by_cases e : j = i
    · rw [e, pk_us, su_s]
    · rw [pk_un e, su_n (by omega)]; exact g9 j hj
theorem Ms.damp {k v : Nat} (M : Ms k σ z w) : Ms k (su σ 3 v) z (mz_up w k (upd (w k) 3 (nI v))) := by
  obtain ⟨g0, g1, g2, g3, g4, g5⟩ := M
  refine ⟨?_, ?_, ?_, ?_, fun i a b => ?_, fun i a b => ?_⟩
  · rw [mu_s, pk_un (by omega), su_n (by omega)]; exact g0
  · rw [mu_s, pk_un (by omega), su_n (by omega)]; exact g1
  · rw [mu_s, pk_un (by omega)]; exact g2
  · rw [mu_s, pk_us, su_s]
  · rw [mu_s, pk_un (by omega), su_n (by omega)]; exact g4 i a b
  · rw [mu_s, pk_un (by omega), su_n (by omega)]; exact g5 i a b
theorem Ms.people {k v : Nat} (M : Ms k σ z w) : Ms k (su σ 1 v) z (mz_up w k (upd (w k) 1 (nI v))) := by
  obtain ⟨g0, g1, g2, g3, g4, g5⟩ := M
  refine ⟨?_, ?_, ?_, ?_, fun i a b => ?_, fun i a b => ?_⟩
  · rw [mu_s, pk_un (by omega), su_n (by omega)]; exact g0
  · rw [mu_s, pk_us, su_s]
  · rw [mu_s, pk_un (by omega)]; exact g2
  · rw [mu_s, pk_un (by omega), su_n (by omega)]; exact g3
  · rw [mu_s, pk_un (by omega), su_n (by omega)]; exact g4 i a b
  · rw [mu_s, pk_un (by omega), su_n (by omega)]; exact g5 i a b
theorem Ms.draw {k : Nat} {v : Int32} (M : Ms k σ z w) : Ms k σ v (mz_up w k (upd (w k) 2 v)) := by
  obtain ⟨g0, g1, g2, g3, g4, g5⟩ := M
  refine ⟨?_, ?_, ?_, ?_, fun i a b => ?_, fun i a b => ?_⟩
  · rw [mu_s, pk_un (by omega)]; exact g0
  · rw [mu_s, pk_un (by omega)]; exact g1
  · rw [mu_s, pk_us]
  · rw [mu_s, pk_un (by omega)]; exact g3
  · rw [mu_s, pk_un (by omega)]; exact g4 i a b
  · rw [mu_s, pk_un (by omega)]; exact g5 i a b
theorem Ms.spot {k j v : Nat} (M : Ms k σ z w) (h1 : 4 ≤ j) (h2 : j < 15) : Ms k (su σ j v) z (mz_up w k (upd (w k) j (nP v))) := by
  obtain ⟨g0, g1, g2, g3, g4, g5⟩ := M
  refine ⟨?_, ?_, ?_, ?_, fun i a b => ?_, fun i a b => ?_⟩
  · rw [mu_s, pk_un (by omega), su_n (by omega)]; exact g0
  · rw [mu_s, pk_un (by omega), su_n (by omega)]; exact g1
  · rw [mu_s, pk_un (by omega)]; exact g2
  · rw [mu_s, pk_un (by omega), su_n (by omega)]; exact g3
  · rw [mu_s]
    by_cases e : i = j
    · rw [e, pk_us, su_s]
    · rw [pk_un e, su_n e]; exact g4 i a b
  · rw [mu_s, pk_un (by omega), su_n (by omega)]; exact g5 i a b
end SETS
/-- places that the class changes beside its rest, and the reference -/
abbrev Cp (k : Nat) : Prop := 1 ≤ k ∧ k < 17
abbrev Mq (k : Nat) : Prop := k = 38 ∨ k = 40 ∨ k = 42 ∨ k = 43
theorem RstR.up {T T' : Nat} {w : mz_M} (R : RstR T w) (h : T ≤ T') : RstR T' w := by
  obtain ⟨h1, h2⟩ := R
  refine ⟨?_, h2⟩
  rcases h1 with h1 | ⟨a, b, σ, z, c1, c2, c3⟩
  · exact Or.inl h1
  · exact Or.inr ⟨a, b, σ, z, c1, c2, c3.up h⟩
theorem Both.ok {T T' c m : Nat} {as : List Value} {w : mz_M} {σ σ' : Nat → Nat} {z z' r : Int32} (M : Ms 38 σ z w) (R : RstR T w) (hT : T ≤ T') (I : Iv T' σ')
    (hc : ∃ w1, mz_Call 11 c (.ref 0 :: as) w (some (.int r)) w1 ∧ Hs 1 σ' z' w1 ∧ Fr Cp w w1)
    (hm : ∀ w1, Ms 38 σ z w1 → ∃ w2, mz_Call 11 m (.ref 37 :: as) w1 (some (.int r)) w2 ∧ Ms 38 σ' z' w2 ∧ Fr Mq w1 w2) : Both T T' c m as w := by
  obtain ⟨w1, a1, a2, a3⟩ := hc
  obtain ⟨w2, b1, b2, b3⟩ := hm w1 (M.fr (a3 38 (by omega)))
  exact ⟨r, w1, w2, a1, b1, σ', z', a2.fr (fun k x y => b3 k (by omega)), b2, I, (R.up hT).fr (fun k hk => (b3 k (by omega)).trans (a3 k (by omega))) (by rw [b3 37 (by omega), a3 37 (by omega)]) (by rw [b3 37 (by omega), a3 37 (by omega)])⟩
theorem Both.rd {T c m : Nat} {as : List Value} {w : mz_M} {σ : Nat → Nat} {z r : Int32} (H : Hs 1 σ z w) (M : Ms 38 σ z w) (I : Iv T σ) (R : RstR T w)
    (hc : mz_Call 11 c (.ref 0 :: as) w (some (.int r)) w) (hm : mz_Call 11 m (.ref 37 :: as) w (some (.int r)) w) : Both T T c m as w := ⟨r, w, w, hc, hm, σ, z, H, M, I, R⟩
theorem RstR.fnd {T i : Nat} {w w' : mz_M} (hi : i < 7) (R : RstR T w) (e : ∀ k, RsP k → k ≠ 36 → k ≠ 41 → w' k = w k) (e3 : w' 37 3 = w 37 3) (e10 : w' 37 10 = w 37 10) (e36 : w' 36 = cfW i w 36) (e41 : w' 41 = mfW i w 41) : RstR T w' := by
  have R1 : RstR T (mz_up (mz_up w' 36 (w 36)) 41 (w 41)) := R.fr (fun k hk => by
    by_cases q : k = 41
    · rw [q, mu_s]
    · rw [mu_n q]
      by_cases q2 : k = 36
      · rw [q2, mu_s]
      · rw [mu_n q2]; exact e k hk q2 q) (by rw [mu_n (by decide), mu_n (by decide)]; exact e3) (by rw [mu_n (by decide), mu_n (by decide)]; exact e10)
  have hw : w' = mfW i (cfW i (mz_up (mz_up w' 36 (w 36)) 41 (w 41))) := by
    funext k
    unfold mfW cfW
    by_cases q : k = 41
    · rw [q, mu_s, mu_n (by decide), mu_s, e41]; unfold mfW; rw [mu_s]
    · rw [mu_n q]
      by_cases q2 : k = 36
      · rw [q2, mu_s, mu_n (by decide), mu_s, e36]; unfold cfW; rw [mu_s]
      · rw [mu_n q2, mu_n q, mu_n q2]
  have F := R1.2.1.find hi
  rw [← hw] at F
  obtain ⟨h1, h2, h3, h4⟩ := R1
  generalize hv : mz_up (mz_up w' 36 (w 36)) 41 (w 41) = v at h1 h3 h4
  have en : ∀ k, k ≠ 36 → k ≠ 41 → w' k = v k := fun k a b => by rw [← hv, mu_n b, mu_n a]
  refine ⟨?_, F, ?_, ?_⟩
  · rcases h1 with ⟨a, b⟩ | ⟨a, b, σ, z, c1, c2, c3⟩
    · exact Or.inl ⟨by rw [en 0 (by decide) (by decide)]; exact a, by rw [en 37 (by decide) (by decide)]; exact b⟩
    · exact Or.inr ⟨by rw [en 0 (by decide) (by decide)]; exact a, by rw [en 37 (by decide) (by decide)]; exact b, σ, z, c1.fr (fun k x y => en k (by omega) (by omega)), c2.fr (en 39 (by decide) (by decide)), c3⟩
  · obtain ⟨n, a, b, c, f⟩ := h3
    refine ⟨n, a, by rw [en 25 (by decide) (by decide)]; exact b, by rw [en 37 (by decide) (by decide)]; exact c, fun j hj => ?_⟩
    rw [en 26 (by decide) (by decide), en 44 (by decide) (by decide)]
    exact f j hj
  · intro s hs
    obtain ⟨a, b, c, f, g⟩ := h4 s hs
    rw [en (28 + 2 * s) (by omega) (by omega), en 47 (by omega) (by omega), en 48 (by omega) (by omega)]
    refine ⟨a, b, c, f, fun j hj => ?_⟩
    rw [en (29 + 2 * s) (by omega) (by omega), en 49 (by omega) (by omega)]
    exact g j hj
/-- a finding, with trials ahead of it -/
theorem Both.fd {T c m i : Nat} {as : List Value} {w : mz_M} {σ : Nat → Nat} {z : Int32} (hi : i < 7) (M : Ms 38 σ z w) (I : Iv T σ) (R : RstR T w)
    (hc : ∃ wt, mz_Call 11 c (.ref 0 :: as) w (some (.int (fnd i))) (cfW i wt) ∧ Hs 1 σ z wt ∧ Fr Cp w wt)
    (hm : ∀ w1, Ms 38 σ z w1 → ∃ wu, mz_Call 11 m (.ref 37 :: as) w1 (some (.int (fnd i))) (mfW i wu) ∧ Ms 38 σ z wu ∧ Fr Mq w1 wu) : Both T T c m as w := by
  obtain ⟨wt, a1, a2, a3⟩ := hc
  have ec : ∀ k, k ≠ 36 → cfW i wt k = wt k := fun k q => by unfold cfW; rw [mu_n q]
  have em : ∀ (v : mz_M) k, k ≠ 41 → mfW i v k = v k := fun v k q => by unfold mfW; rw [mu_n q]
  obtain ⟨wu, b1, b2, b3⟩ := hm (cfW i wt) (M.fr (by rw [ec 38 (by decide), a3 38 (by omega)]))
  have e37 : mfW i wu 37 = w 37 := by rw [em _ 37 (by decide), b3 37 (by omega), ec 37 (by decide), a3 37 (by omega)]
  refine ⟨_, _, _, a1, b1, σ, z, a2.fr (fun k x y => ?_), b2.fr (em _ 38 (by decide)), I, R.fnd hi (fun k hk q1 q2 => ?_) (by rw [e37]) (by rw [e37]) ?_ ?_⟩
  · rw [em _ k (by omega), b3 k (by omega), ec k (by omega)]
  · rw [em _ k q2, b3 k (by omega), ec k q1, a3 k (by omega)]
  · rw [em _ 36 (by decide), b3 36 (by omega)]; unfold cfW; rw [mu_s, mu_s, a3 36 (by omega)]
  · have e41 : wu 41 = w 41 := by rw [b3 41 (by omega), ec 41 (by decide), a3 41 (by omega)]
    unfold mfW; rw [mu_s, mu_s, e41]
/-- a finding at once -/
theorem Both.f0 {T c m i : Nat} {as : List Value} {w : mz_M} {σ : Nat → Nat} {z : Int32} (hi : i < 7) (H : Hs 1 σ z w) (M : Ms 38 σ z w) (I : Iv T σ) (R : RstR T w)
    (hc : mz_Call 11 c (.ref 0 :: as) w (some (.int (fnd i))) (cfW i w))
    (hm : ∀ w1, Ms 38 σ z w1 → mz_Call 11 m (.ref 37 :: as) w1 (some (.int (fnd i))) (mfW i w1)) : Both T T c m as w :=
  Both.fd hi M I R ⟨w, hc, H, Fr.rf⟩ (fun w1 M1 => ⟨w1, hm w1 M1, M1, Fr.rf⟩)
