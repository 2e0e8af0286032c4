/-! divorce -/
section DV
variable {d : Nat} {w : mz_M} {T h : Nat} {σ : Nat → Nat} {z : Int32}
def dvT (σ : Nat → Nat) (v p : Nat) : Nat := clansS (flS σ p (σ 1)) v
/-- 1 more than whom to divorce, and 1 more than how many clans are left -/
def dvS (σ : Nat → Nat) (v : Nat) : Nat → Nat × Nat
  | 0 => (0, 0)
  | k + 1 => if (dvS σ v k).2 ≤ dvT σ v k then (k + 1, dvT σ v k + 1) else dvS σ v k
theorem dvT_le (I : Iv T σ) {v p : Nat} (hp : p < 8) : dvT σ v p ≤ 8 := cl_le (I.flat hp I.2.1)
theorem dvT_pos {v p : Nat} (h : 0 < σ 1) : 1 ≤ dvT σ v p := by
  unfold dvT clansS
  rw [fl_lo σ p (by omega)]
  exact cc_pos _ v h
theorem dv_le (I : Iv T σ) {v : Nat} : ∀ {k : Nat}, k ≤ 8 → (dvS σ v k).1 ≤ k ∧ (dvS σ v k).2 ≤ 9
  | 0, _ => by rw [dvS]; decide
  | k + 1, h => by
    have l := dvT_le I (v := v) (p := k) (by omega)
    have := dv_le I (v := v) (k := k) (by omega)
    rw [dvS]
    split
    · exact ⟨Nat.le_refl _, by omega⟩
    · exact ⟨by omega, this.2⟩
theorem mm_clansWithout (M : Ms 38 σ z w) (I : Iv T σ) {p v : Nat} (hp : p < 8) (hv : v ≤ 999) (hv1 : 1 ≤ v) : ∃ w', mz_Call (d + 5) 169 [.ref 37, .int (nI p), .int (nI v)] w (some (.int (nI (dvT σ v p)))) w' ∧ Ms 38 σ z w' ∧ Fr Mq w w' := by
  have sl := sk_le I (p := p) hp I.2.1
  obtain ⟨w1, a1, a2, a3⟩ := mm_copyRow (d := d + 3) (a := 38) (b := 40) (by omega) (by omega) (by decide) M
  obtain ⟨w2, b1, b2, b3⟩ := mm_ironNow (d := d + 1) (M.fr (a3 38 (by decide))) I (p := p) hp
  obtain ⟨w3, c1, c2, c3⟩ := mm_putBack (d := d + 2) (a2.fr (b3 40 (by decide))) (nI (dvT σ v p))
  refine ⟨w3, en_X4_clansWithout (sg_X4_clansWithout_0 ⟨w1, a1, _, w2, b1, fun q => ?_, fun _ => ⟨_, _, mm_clansNow b2 (I.flat hp I.2.1) hv hv1, _, _, c1, rfl, rfl⟩⟩), c2, (a3.mono (by omega)).tr ((b3.mono (by omega)).tr (c3.mono (by omega)))⟩
  have sl : skS σ p ≤ 7992 := sl
  rw [nI_ltI (by omega) (by omega)] at q
  omega
theorem hm_divorce {f : Nat} (I : Iv T σ) {v : Nat} (hv : v ≤ 999) (hf : f = (dvS σ v (σ 1)).1) : ∀ (m k : Nat) (j5 : Value) (w1 : mz_M), k + m = σ 1 → Hs 1 σ z w1 → Fr Tp w w1 → mz_Ex cd_X3_divorce (mz_Call 10) (fun r2 w2 => ∃ u : Int32, r2 = some (.int u) ∧ CO f w u w2) 21 [.ref 0, .int (nI v), .int (nP (dvS σ v k).1), .int (nI ((dvS σ v k).2 - 1)), .int (nI k), j5] [] w1 := by
  have h8 := I.2.1
  intro m
  induction m with
  | zero =>
    intro k j5 w1 hk H1 F1
    have l := dv_le I (v := v) (k := k) (by omega)
    rw [← show σ 1 = k by omega] at l ⊢
    refine sg_X3_divorce_21 ?_
    rw [H1.2.2.2.1, nI_ltI (by omega) (by omega), nP_eq_m1 (by omega), ← hf]
    refine ⟨fun c => absurd c (by omega), fun _ => ⟨fun c => ⟨_, _, hf3, _, rfl, Or.inl ⟨c, rfl, w1, rfl, F1⟩⟩, fun c => ⟨_, rfl, Or.inr ⟨f - 1, by omega, nP_pos (by omega), F1⟩⟩⟩⟩
  | succ m ih =>
    intro k j5 w1 hk H1 F1
    have l := dv_le I (v := v) (k := k) (by omega)
    have lt := dvT_le I (v := v) (p := k) (by omega)
    have lp := dvT_pos (σ := σ) (v := v) (p := k) (by omega)
    obtain ⟨w2, q1, q2, q3⟩ := hm_become (d := 9) (h := 9) (o := 1) (by omega) (by omega) (by decide) H1
    obtain ⟨w3, p1, p2, p3⟩ := hm_flatten (d := 8) (Or.inr (Or.inl rfl)) q2 I (p := k) (by omega)
    have F3 : Fr Tp w1 w3 := Fr.tr (q3.mono (by omega)) (p3.mono (by omega))
    have hi := fun j => ih (k + 1) j w3 (by omega) (H1.fr (fun k x y => F3 k (by omega))) (F1.tr F3)
    rw [dvS] at hi
    refine sg_X3_divorce_21 ?_
    rw [H1.2.2.2.1, nI_ltI (by omega) (by omega), nI_add]
    refine ⟨fun _ => ⟨w2, q1, w3, p1, nI (dvT σ v k), w3, hm_clanCount (Or.inr (Or.inl rfl)) p2 (I.flat (by omega) h8) hv, fun c => ?_, fun c => ?_⟩, fun c => absurd (show k < σ 1 by omega) c⟩
    · rw [nI_ltI (by omega) (by omega)] at c
      rw [if_pos (by omega), nP_s] at hi
      exact hi _
    · rw [nI_ltI (by omega) (by omega)] at c
      rw [if_neg (by omega)] at hi
      exact hi _
theorem rf_divorce {f : Nat} (I : Iv T σ) {v : Nat} (hv : v ≤ 999) (hv1 : 1 ≤ v) (hf : f = (dvS σ v (σ 1)).1) : ∀ (m k : Nat) (j5 : Value) (w1 : mz_M), k + m = σ 1 → Ms 38 σ z w1 → Fr Mq w w1 → mz_Ex cd_X4_divorce (mz_Call 10) (fun r2 w2 => ∃ u : Int32, r2 = some (.int u) ∧ MO f σ z w u w2) 21 [.ref 37, .int (nI v), .int (nP (dvS σ v k).1), .int (nP (dvS σ v k).2), .int (nI k), j5] [] w1 := by
  have h8 := I.2.1
  intro m
  induction m with
  | zero =>
    intro k j5 w1 hk M1 F1
    have l := dv_le I (v := v) (k := k) (by omega)
    rw [← show σ 1 = k by omega] at l ⊢
    refine sg_X4_divorce_21 ?_
    rw [nc1, M1.2.1, nI_ltI (by omega) (by omega), ← hf]
    exact ⟨vi1, fun c => absurd c (by omega), fun _ => rf_orn (Q := fun r2 w2 => ∃ u : Int32, r2 = some (.int u) ∧ MO f σ z w u w2) (by omega) M1 F1 (fun u w3 q => ⟨u, rfl, q⟩)⟩
  | succ m ih =>
    intro k j5 w1 hk M1 F1
    have l := dv_le I (v := v) (k := k) (by omega)
    have lt := dvT_le I (v := v) (p := k) (by omega)
    obtain ⟨w3, p1, p2, p3⟩ := mm_clansWithout (d := 5) M1 I (p := k) (v := v) (by omega) hv hv1
    have hi := fun j => ih (k + 1) j w3 (by omega) p2 (F1.tr p3)
    rw [dvS] at hi
    refine sg_X4_divorce_21 ?_
    rw [nc1, M1.2.1, nI_ltI (by omega) (by omega), nI_add]
    refine ⟨vi1, fun _ => ⟨nI (dvT σ v k), w3, p1, fun c => ?_, fun c => ?_⟩, fun c => absurd (show k < σ 1 by omega) c⟩
    · rw [if_pos c]
      rw [nP_lt (by omega) (by omega)] at c
      rw [if_pos c, nP_s, nP_s] at hi
      exact hi _
    · rw [if_neg c]
      rw [nP_lt (by omega) (by omega)] at c
      rw [if_neg c] at hi
      exact hi _
theorem bo_divorce (R : Rel T w) (v : Int32) : Both T T 69 170 [.int v] w := by
  obtain ⟨σ, z, H, M, I, R⟩ := R
  by_cases c2 : wn v (nI 1) (nI 999)
  · obtain ⟨k, hk1, hk, rfl⟩ := (wn_iff (by decide) (by decide)).mp c2
    refine Both.srch (dvS σ k (σ 1)).1 H M I R ?_ (fun w1 M1 _ => ?_)
    · have L := hm_divorce (z := z) (w := w) I hk rfl (σ 1) 0 .null w (by omega) H Fr.rf
      rw [show dvS σ k 0 = (0, 0) from rfl, nP_0] at L
      exact ec_X3_divorce (sg_X3_divorce_0 ⟨_, _, hm_isNearness _, nY c2, fun _ => L⟩)
    · have L := rf_divorce (z := z) (w := w1) I hk hk1 rfl (σ 1) 0 .null w1 (by omega) M1 Fr.rf
      rw [show dvS σ k 0 = (0, 0) from rfl, nP_0] at L
      exact ec_X4_divorce (sg_X4_divorce_0 ⟨_, _, mm_isNear _, nY c2, fun _ => L⟩)
  · exact Both.f0 (z7 0) H M I R (en_X3_divorce (sg_X3_divorce_0 ⟨_, _, hm_isNearness _, fun _ => ⟨_, _, hf0, rfl, rfl⟩, nN c2⟩)) (fun w1 M1 => en_X4_divorce (sg_X4_divorce_0 ⟨_, _, mm_isNear _, fun _ => ⟨_, _, mf0, rfl, rfl⟩, nN c2⟩))
end DV
