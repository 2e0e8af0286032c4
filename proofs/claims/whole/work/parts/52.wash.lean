/-! washes -/
theorem nI_self (y : Int32) : y = nI y.toBitVec.toNat := by
  apply Int32.toBitVec_inj.mp
  show y.toBitVec = BitVec.ofNat 32 y.toBitVec.toNat
  rw [BitVec.ofNat_toNat, BitVec.setWidth_eq]
theorem and255 (k : Nat) : k &&& 255 = k % 256 := Nat.and_two_pow_sub_one_eq_mod k 8
theorem and255I (y : Int32) : y &&& nI 255 = nI (y.toBitVec.toNat % 256) := by
  rw [← and255, ← nb_and, ← nI_self]
/-- the next draw, and what is drawn -/
def zN (z : Int32) : Int32 := z * nI 1103515245 + nI 12345
def drw (z : Int32) : Nat := z.toUInt32.toNat / 256
theorem drw_lt (z : Int32) : drw z < 2 ^ 24 := by
  have := z.toUInt32.toNat_lt
  unfold drw
  omega
theorem drw_is (z : Int32) : (z.toUInt32 >>> ((nI 8).toUInt32 &&& Int32.toUInt32 31)).toInt32 = nI (drw z) := by
  have e8 : (nI 8).toUInt32 &&& Int32.toUInt32 31 = 8 := by decide
  rw [e8]
  apply Int32.toBitVec_inj.mp
  show (z.toUInt32 >>> (8 : UInt32)).toBitVec = BitVec.ofNat 32 (drw z)
  apply BitVec.eq_of_toNat_eq
  rw [BitVec.toNat_ofNat, Nat.mod_eq_of_lt (Nat.lt_trans (drw_lt z) (by decide))]
  show (z.toUInt32 >>> (8 : UInt32)).toNat = drw z
  rw [UInt32.toNat_shiftRight]
  show z.toUInt32.toNat >>> 8 = drw z
  rw [Nat.shiftRight_eq_div_pow]
  rfl
section WA
variable {d : Nat} {w : mz_M} {T h : Nat} {σ : Nat → Nat} {z : Int32}
theorem hm_drawn (hh : h = 1 ∨ h = 9 ∨ h = 17) (H : Hs h σ z w) : ∃ w', mz_Call (d + 1) 27 [.ref h] w (some (.int (nI (drw (zN z))))) w' ∧ Hs h σ (zN z) w' ∧ Fr (fun k => k = h) w w' := by
  refine ⟨_, en_X0_drawn (sg_X0_drawn_0 hh ?_), H.draw (zN z), Fr.up rfl⟩
  dsimp only
  rw [H.2.2.2.2.1, mu_s, pk_us, drw_is]
  exact ⟨rfl, rfl⟩
theorem mm_drawn (M : Ms 38 σ z w) : ∃ w', mz_Call (d + 1) 177 [.ref 37] w (some (.int (nI (drw (zN z))))) w' ∧ Ms 38 σ (zN z) w' ∧ Fr (fun k => k = 38) w w' := by
  refine ⟨_, en_X4_drawn (sg_X4_drawn_0 ?_), M.draw (v := zN z), Fr.up rfl⟩
  dsimp only
  rw [nc2, M.2.2.1, mu_s, pk_us, drw_is]
  exact ⟨vi2, vi2, vi2, rfl, rfl⟩
/-- wash days -/
def waS (q : (Nat → Nat) × Int32) : (Nat → Nat) × Int32 := (tS (su q.1 (15 + q.1 0 % 6) (drw (zN q.2) % 256)), zN q.2)
def waN (q : (Nat → Nat) × Int32) : Nat → (Nat → Nat) × Int32
  | 0 => q
  | n + 1 => waS (waN q n)
theorem Iv.wash {q : (Nat → Nat) × Int32} (I : Iv T q.1) : Iv (T + 1) (waS q).1 :=
  (I.put (k := 15 + q.1 0 % 6) (v := drw (zN q.2) % 256) (by omega)).turn
theorem Iv.washes {q : (Nat → Nat) × Int32} (I : Iv T q.1) : ∀ n, Iv (T + n) (waN q n).1
  | 0 => I
  | n + 1 => (Iv.washes I n).wash
theorem hm_wash {q : (Nat → Nat) × Int32} (H : Hs 1 q.1 q.2 w) (I : Iv T q.1) (hT : T < 99998) : ∃ w1 w2 w3, mz_Call 10 27 [.ref 1] w (some (.int (nI (drw (zN q.2))))) w1 ∧ mz_Call 10 15 [.ref 1] w1 (some (.int (nI (q.1 0 % 6)))) w1 ∧ w2 = mz_up w1 2 (upd (w1 2) (q.1 0 % 6) (nI (drw (zN q.2) % 256))) ∧ mz_Call 10 18 [.ref 1] w2 none w3 ∧ Hs 1 (waS q).1 (waS q).2 w3 ∧ Fr Cp w w3 := by
  have h0 := I.1
  obtain ⟨w1, a1, a2, a3⟩ := hm_drawn (d := 9) (Or.inl rfl) H
  have H2 := a2.list (i := q.1 0 % 6) (by omega) (drw (zN q.2) % 256)
  obtain ⟨w3, b1, b2, b3⟩ := hm_passTurn (d := 7) (Or.inl rfl) H2 (I.put (by omega)) (by rw [su_n (by omega)]; omega)
  exact ⟨w1, _, w3, a1, hm_place (Or.inl rfl) a2 (by omega), rfl, b1, b2, (a3.mono (by omega)).tr ((Fr.up (by omega)).tr (b3.mono (by omega)))⟩
theorem hm_washes {q : (Nat → Nat) × Int32} {n : Nat} {g : Int32} (I : Iv T q.1) (hT : T ≤ 90000) (hn : n ≤ 20) (hg : g = nI (akS (waN q n).1)) : ∀ (m k : Nat) (j3 : Value) (w1 : mz_M), k + m = n → Hs 1 (waN q k).1 (waN q k).2 w1 → Fr Cp w w1 → mz_Ex cd_X3_washes (mz_Call 10) (fun r2 w2 => ∃ u : Int32, r2 = some (.int u) ∧ (u = g ∧ Hs 1 (waN q n).1 (waN q n).2 w2 ∧ Fr Cp w w2)) 40 [.ref 0, .int (nI n), .int (nI k), j3] [] w1 := by
  intro m
  induction m with
  | zero =>
    intro k j3 w1 hk H1 F1
    rw [show k = n by omega] at H1 ⊢
    refine sg_X3_washes_40 ?_
    rw [nI_ltI (by omega) (by omega)]
    exact ⟨fun c => absurd c (by omega), fun _ => ⟨_, _, hm_allKin (Or.inl rfl) H1 (I.washes n), _, rfl, hg.symm, H1, F1⟩⟩
  | succ m ih =>
    intro k j3 w1 hk H1 F1
    obtain ⟨w2, w3, w4, a1, a2, a3, a4, a5, a6⟩ := hm_wash H1 (I.washes k) (by omega)
    refine sg_X3_washes_40 ?_
    rw [nI_ltI (by omega) (by omega), nI_add]
    refine ⟨fun _ => ⟨_, w2, a1, _, w2, a2, vp_in_nI (by omega) (by decide), w4, ?_, ih (k + 1) _ w4 (by omega) a5 (F1.tr a6)⟩, fun c => absurd (show k < n by omega) c⟩
    rw [nI_clamp (by omega), nb_and, and255, ← a3]
    exact a4
theorem rf_washes {q : (Nat → Nat) × Int32} {n : Nat} {g : Int32} (I : Iv T q.1) (hT : T ≤ 90000) (hn : n ≤ 20) (hg : g = nI (akS (waN q n).1)) : ∀ (m k : Nat) (w1 : mz_M), k + m = n → Ms 38 (waN q k).1 (waN q k).2 w1 → Fr Mq w w1 → mz_Ex cd_X4_washes (mz_Call 10) (fun r2 w2 => ∃ u : Int32, r2 = some (.int u) ∧ (u = g ∧ Ms 38 (waN q n).1 (waN q n).2 w2 ∧ Fr Mq w w2)) 39 [.ref 37, .int (nI n), .int (nI k)] [] w1 := by
  intro m
  induction m with
  | zero =>
    intro k w1 hk M1 F1
    rw [show k = n by omega] at M1 ⊢
    refine sg_X4_washes_39 ?_
    rw [nI_ltI (by omega) (by omega)]
    exact ⟨fun c => absurd c (by omega), fun _ => ⟨_, _, mm_kinAll M1 (I.washes n), _, rfl, hg.symm, M1, F1⟩⟩
  | succ m ih =>
    intro k w1 hk M1 F1
    have I1 := I.washes k
    have h0 := I1.1
    have dl := drw_lt (zN (waN q k).2)
    obtain ⟨w2, a1, a2, a3⟩ := mm_drawn (d := 9) M1
    have M2 := a2.set (j := 15 + (waN q k).1 0 % 6) (v := drw (zN (waN q k).2) % 256) (by omega)
    obtain ⟨w4, b1, b2, b3⟩ := mm_turn (d := 5) M2 (I1.put (by omega)) (by rw [su_n (by omega)]; omega)
    refine sg_X4_washes_39 ?_
    rw [nI_ltI (by omega) (by omega), nI_add, nc0, M1.1, pk_rem (by omega) (by decide) (by decide), nI_add, nI_clamp (n := 15 + (waN q k).1 0 % 6) (by omega)]
    refine ⟨fun _ => ⟨vi0, by decide, _, w2, a1, by decide, vp_in_nI (by omega) (by decide), w4, ?_, ih (k + 1) w4 (by omega) b2 (F1.tr ((a3.mono (by omega)).tr ((Fr.up (by omega)).tr (b3.mono (by omega)))))⟩, fun c => absurd (show k < n by omega) c⟩
    rw [pk_rem (by omega) (by decide) (by decide)]
    exact b1
theorem bo_washes (R : Rel T w) (hT : T ≤ 90000) (x : Int32) : Both T (T + 60) 73 178 [.int x] w := by
  obtain ⟨σ, z, H, M, I, R⟩ := R
  have h0 := I.1
  by_cases c : wn x (nI 1) (nI 20)
  · obtain ⟨n, hn1, hn, rfl⟩ := (wn_iff (by decide) (by decide)).mp c
    refine Both.ok (r := nI (akS (waN (σ, z) n).1)) (σ' := (waN (σ, z) n).1) (z' := (waN (σ, z) n).2) M R (by omega) ((Iv.washes (q := (σ, z)) I n).up (by omega)) ?_ (fun w1 M1 => ?_)
    · obtain ⟨u, w2, q1, rfl, q2, q3⟩ := ec_X3_washes (Po := fun u w2 => u = nI (akS (waN (σ, z) n).1) ∧ Hs 1 (waN (σ, z) n).1 (waN (σ, z) n).2 w2 ∧ Fr Cp w w2) (sg_X3_washes_0 ⟨_, _, hm_within _ _ _, nY c, fun _ => ⟨fun q => by
        rw [H.2.1, nI_add, nI_ltI (by omega) (by omega)] at q
        omega, fun _ => hm_washes (q := (σ, z)) I hT hn rfl n 0 _ w (by omega) H Fr.rf⟩⟩)
      exact ⟨w2, q1, q2, q3⟩
    · obtain ⟨u, w2, q1, rfl, q2, q3⟩ := ec_X4_washes (Po := fun u w2 => u = nI (akS (waN (σ, z) n).1) ∧ Ms 38 (waN (σ, z) n).1 (waN (σ, z) n).2 w2 ∧ Fr Mq w1 w2) (sg_X4_washes_0 ⟨_, _, mm_within _ _ _, nY c, fun _ => ⟨vi0, fun q => by
        rw [nc0, M1.1, nI_add, nI_ltI (by omega) (by omega)] at q
        omega, fun _ => rf_washes (q := (σ, z)) I hT hn rfl n 0 w1 (by omega) M1 Fr.rf⟩⟩)
      exact ⟨w2, q1, q2, q3⟩
  · obtain ⟨r, w1, w2, a1, a2, σ', z', b1, b2, b3, b4⟩ := Both.f0 (c := 73) (m := 178) (as := [.int x]) (z7 0) H M I R (en_X3_washes (sg_X3_washes_0 ⟨_, _, hm_within _ _ _, fun _ => ⟨_, _, hf0, rfl, rfl⟩, nN c⟩)) (fun w1 M1 => en_X4_washes (sg_X4_washes_0 ⟨_, _, mm_within _ _ _, fun _ => ⟨_, _, mf0, rfl, rfl⟩, nN c⟩))
    exact ⟨r, w1, w2, a1, a2, σ', z', b1, b2, b3.up (by omega), b4.up (by omega)⟩
end WA
