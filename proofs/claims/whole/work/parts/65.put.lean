/-! put -/
section Pput
variable {d : Nat} {w : mz_M} {T h : Nat} {σ : Nat → Nat} {z : Int32}
def puT (σ : Nat → Nat) (a b n s : Nat) : Nat := kn (tN (su σ (15 + σ 0 % 6) s) n) a b
def puP (σ : Nat → Nat) (a b v n s : Nat) : Bool := decide (v ≤ puT σ a b n s)
theorem puP_t {a b v n s : Nat} : puP σ a b v n s = true ↔ (v ≤ puT σ a b n s) := by unfold puP; rw [decide_eq_true_eq]
theorem puT_le (I : Iv T σ) {a b n s : Nat} (ha : a < 8) (hb : b < 8) (hs : s < 256) : puT σ a b n s ≤ 999 := kn_le ((I.put (k := 15 + σ 0 % 6) (v := s) (by omega)).turns n) ha hb
theorem hm_put_in {f N many m : Nat} (I : Iv T σ) (hT : T ≤ 90000) {a b v n : Nat} (ha : a < 8) (hb : b < 8) (hv : v ≤ 999) (hn : n ≤ 12) (hN : N ≤ 256) (hN1 : 1 ≤ N) (hm : many ≤ 8)
    (next : ∀ (j7 : Value) (w2 : mz_M), Hs 1 σ z w2 → Fr Tp w w2 → f = oqS (puP σ a b v n) N (many + 1) m → mz_Ex cd_X3_put (mz_Call 10) (fun r2 w2 => ∃ u : Int32, r2 = some (.int u) ∧ CO f w u w2) 46 [.ref 0, .int (nI a), .int (nI b), .int (nI v), .int (nI n), .int (nI (N - 1)), .int (nI (many + 1)), j7] [] w2) :
    ∀ (k s : Nat) (w1 : mz_M), s + k = N → Hs 1 σ z w1 → Fr Tp w w1 → f = (if fiS (cP (puP σ a b v n) many) s k = 0 then oqS (puP σ a b v n) N (many + 1) m else fiS (cP (puP σ a b v n) many) s k) → mz_Ex cd_X3_put (mz_Call 10) (fun r2 w2 => ∃ u : Int32, r2 = some (.int u) ∧ CO f w u w2) 61 [.ref 0, .int (nI a), .int (nI b), .int (nI v), .int (nI n), .int (nI (N - 1)), .int (nI many), .int (nI s)] [] w1 := by
  intro k
  induction k with
  | zero =>
    intro s w1 hs H1 F1 e
    rw [fiS, if_pos rfl] at e
    refine sg_X3_put_61 ?_
    rw [nI_ltI (by omega) (by omega), nI_add]
    exact ⟨fun _ => next _ w1 H1 F1 e, fun c => absurd (show N - 1 < s by omega) c⟩
  | succ k ih =>
    intro s w1 hs H1 F1 e
    have cl := cb_le s 8
    have kl := puT_le I (a := a) (b := b) (n := n) (s := s) ha hb (by omega)
    obtain ⟨w2, q1, q2⟩ := hm_kinIfPut (d := 5) H1 I (a := a) (b := b) (n := n) (s := s) ha hb (by omega) (by omega) (by omega)
    have H2 := H1.fr (fun k x y => q2 k (by omega))
    rw [fiS] at e
    refine sg_X3_put_61 ?_
    rw [nI_ltI (by omega) (by omega), nI_add, nI_add]
    refine ⟨fun c => absurd c (by omega), fun _ => ⟨_, _, hm_bitCount (by omega), fun c => ⟨nI (puT σ a b n s), w2, q1, fun c2 => ?_, fun c2 => ?_⟩, fun c => ?_⟩⟩
    · rw [nI_ltI (by omega) (by omega)] at c2
      rw [if_neg (show ¬ cP (puP σ a b v n) many s = true from fun q => by rw [cP_t, puP_t] at q; omega)] at e
      exact ih (s + 1) w2 (by omega) H2 (F1.tr q2) e
    · rw [nI_ltI (by omega) (by omega)] at c2
      rw [nI_eq (by omega) (by omega)] at c
      rw [if_pos (show cP (puP σ a b v n) many s = true by rw [cP_t, puP_t]; omega), if_neg (by omega)] at e
      exact ⟨_, rfl, Or.inr ⟨s, e, rfl, F1.tr q2⟩⟩
    · rw [nI_eq (by omega) (by omega)] at c
      rw [if_neg (show ¬ cP (puP σ a b v n) many s = true from fun q => by rw [cP_t] at q; exact c q.1)] at e
      exact ih (s + 1) w1 (by omega) H1 F1 e
theorem hm_put {f : Nat} (I : Iv T σ) (hT : T ≤ 90000) {a b v n : Nat} (ha : a < 8) (hb : b < 8) (hv : v ≤ 999) (hn : n ≤ 12) : ∀ (m many : Nat) (j7 : Value) (w1 : mz_M), many + m = σ 1 + 1 → Hs 1 σ z w1 → Fr Tp w w1 → f = oqS (puP σ a b v n) (2 ^ σ 1) many m → mz_Ex cd_X3_put (mz_Call 10) (fun r2 w2 => ∃ u : Int32, r2 = some (.int u) ∧ CO f w u w2) 46 [.ref 0, .int (nI a), .int (nI b), .int (nI v), .int (nI n), .int (nI (2 ^ σ 1 - 1)), .int (nI many), j7] [] w1 := by
  have h8 := I.2.1
  have hN : 2 ^ σ 1 ≤ 256 := Nat.pow_le_pow_right (n := 2) (by decide) h8
  have hN1 : 1 ≤ 2 ^ σ 1 := Nat.one_le_two_pow
  intro m
  induction m with
  | zero =>
    intro many j7 w1 hm H1 F1 e
    refine sg_X3_put_46 ?_
    rw [H1.2.2.2.1, nI_ltI (by omega) (by omega)]
    exact ⟨fun _ => ⟨_, _, hf3, _, rfl, Or.inl ⟨by rw [e]; rfl, rfl, w1, rfl, F1⟩⟩, fun c => absurd (show σ 1 < many by omega) c⟩
  | succ m ih =>
    intro many j7 w1 hm H1 F1 e
    rw [oqS] at e
    refine sg_X3_put_46 ?_
    rw [H1.2.2.2.1, nI_ltI (by omega) (by omega)]
    exact ⟨fun c => absurd c (by omega), fun _ => hm_put_in (m := m) I hT ha hb hv hn hN hN1 (by omega) (fun j7 w2 H2 F2 e2 => ih (many + 1) j7 w2 (by omega) H2 F2 e2) (2 ^ σ 1) 0 w1 (by omega) H1 F1 e⟩
theorem rf_put {f : Nat} (I : Iv T σ) (hT : T ≤ 90000) {a b v n : Nat} (ha : a < 8) (hb : b < 8) (hv : v ≤ 999) (hn : n ≤ 12) (hf : f = bqS (puP σ a b v n) (2 ^ σ 1)) : ∀ (k s e : Nat) (w1 : mz_M), s + k = 2 ^ σ 1 → Ms 38 (su σ (15 + σ 0 % 6) e) z w1 → Fr Mq w w1 → mz_Ex cd_X4_put (mz_Call 10) (fun r2 w2 => ∃ u : Int32, r2 = some (.int u) ∧ MO f σ z w u w2) 63 [.ref 37, .int (nI a), .int (nI b), .int (nI v), .int (nI n), .int (nI (15 + σ 0 % 6)), .int (nI (σ (15 + σ 0 % 6))), .int (nP (bqS (puP σ a b v n) s)), .int (nI s)] [] w1 := by
  have h8 := I.2.1
  have hN : 2 ^ σ 1 ≤ 256 := Nat.pow_le_pow_right (n := 2) (by decide) h8
  have hin : vp_in (nI (15 + σ 0 % 6)) 101 := vp_in_nI (by omega) (by decide)
  have ke : (nI (15 + σ 0 % 6)).toNatClampNeg = 15 + σ 0 % 6 := nI_clamp (by omega)
  intro k
  induction k with
  | zero =>
    intro s e w1 hs M1 F1
    have bl := bq_le (puP σ a b v n) s
    rw [show s = 2 ^ σ 1 by omega] at bl ⊢
    rw [← hf] at bl ⊢
    have M2 := M1.set (j := 15 + σ 0 % 6) (v := σ (15 + σ 0 % 6)) (by omega)
    rw [su_su, su_id] at M2
    refine sg_X4_put_63 ?_
    rw [nc1, M1.2.1, su_n (by omega), nb_shl (by omega), nI_ltI (by omega) (by omega), ke]
    exact ⟨vi1, fun c => absurd c (by omega), fun _ => ⟨hin, rf_orn (Q := fun r2 w2 => ∃ u : Int32, r2 = some (.int u) ∧ MO f σ z w u w2) (by omega) M2 (F1.tr (Fr.up (by omega))) (fun u w3 q => ⟨u, rfl, q⟩)⟩⟩
  | succ k ih =>
    intro s e w1 hs M1 F1
    have bl := bq_le (puP σ a b v n) s
    have cl := cb_le s 8
    have cl2 := cb_le (bqS (puP σ a b v n) s - 1) 8
    have kl := puT_le I (a := a) (b := b) (n := n) (s := s) ha hb (by omega)
    have M2 := M1.set (j := 15 + σ 0 % 6) (v := s) (by omega)
    rw [su_su] at M2
    obtain ⟨w2, q1, q2, q3⟩ := mm_kinBehind (d := 3) M2 (I.put (k := 15 + σ 0 % 6) (v := s) (by omega)) (a := a) (b := b) (n := n) ha hb (by omega) (by omega)
    have i1 := ih (s + 1) s (mz_up w1 38 (upd (w1 38) (15 + σ 0 % 6) (nI s))) (by omega) M2 (F1.tr (Fr.up (by omega)))
    have i2 := ih (s + 1) s w2 (by omega) q2 (F1.tr (Fr.tr (Fr.up (by omega)) q3))
    rw [bqS] at i1 i2
    refine sg_X4_put_63 ?_
    dsimp only
    rw [nc1, M1.2.1, su_n (by omega), nb_shl (by omega), nI_ltI (by omega) (by omega), nP_neg (by omega), nI_add, ke]
    refine ⟨vi1, fun _ => ⟨hin, fun c => ⟨nI (puT σ a b n s), w2, q1, fun c2 => ?_, fun c2 => ?_⟩, fun c => ?_⟩, fun c => absurd (show s < 2 ^ σ 1 by omega) c⟩
    · rw [nI_ltI (by omega) (by omega)] at c2
      rw [if_neg (fun q => by have := puP_t.mp q.2; omega)] at i2
      exact i2
    · rw [nI_ltI (by omega) (by omega)] at c2
      rw [if_pos ⟨Or.inl c, puP_t.mpr (by omega)⟩, nP_s] at i2
      exact i2
    · rw [nP_pos (by omega)]
      refine ⟨_, _, mm_bits (by omega), _, _, mm_bits (by omega), fun c2 => ⟨nI (puT σ a b n s), w2, q1, fun c3 => ?_, fun c3 => ?_⟩, fun c2 => ?_⟩
      · rw [nI_ltI (by omega) (by omega)] at c3
        rw [if_neg (fun q => by have := puP_t.mp q.2; omega), nP_pos (by omega)] at i2
        exact i2
      · rw [nI_ltI (by omega) (by omega)] at c2 c3
        rw [if_pos ⟨Or.inr c2, puP_t.mpr (by omega)⟩, nP_s] at i2
        exact i2
      · rw [nI_ltI (by omega) (by omega)] at c2
        rw [if_neg (fun q => by have := q.1; omega), nP_pos (by omega)] at i1
        exact i1
theorem bo_put (R : Rel T w) (hT : T ≤ 90000) (x y v n : Int32) : Both T T 65 162 [.int x, .int y, .int v, .int n] w := by
  obtain ⟨σ, z, H, M, I, R⟩ := R
  have h8 := I.2.1
  have h0 := I.1
  by_cases c : is2 (σ 1) x y
  · by_cases c2 : wn v (nI 0) (nI 999)
    · by_cases c3 : wn n (nI 0) (nI 12)
      · obtain ⟨a, b, ha, hb, hab, rfl, rfl⟩ := (is2_iff I.2.1).mp c
        obtain ⟨k, -, hk, rfl⟩ := (wn_iff (by decide) (by decide)).mp c2
        obtain ⟨n, -, hn, rfl⟩ := (wn_iff (by decide) (by decide)).mp c3
        refine Both.srch (bqS (puP σ a b k n) (2 ^ σ 1)) H M I R ?_ (fun w1 M1 _ => ?_)
        · exact ec_X3_put (sg_X3_put_0 ⟨_, _, hm_areTwo H _ _, nY c, fun _ => ⟨_, _, hm_isKin _, nY c2, fun _ => ⟨_, _, hm_within _ _ _, nY c3, fun _ => ⟨_, _, hm_everyone (Or.inl rfl) H I, hm_put I hT (by omega) (by omega) hk hn (σ 1 + 1) 0 _ w (by omega) H Fr.rf (oq_bq h8).symm⟩⟩⟩⟩)
        · refine ec_X4_put (sg_X4_put_0 ⟨_, _, mm_areTwo M1 _ _, nY c, fun _ => ⟨_, _, mm_isKin _, nY c2, fun _ => ⟨_, _, mm_within _ _ _, nY c3, fun _ => ?_⟩⟩⟩)
          have L := rf_put (z := z) (w := w1) I hT (a := a) (b := b) (v := k) (n := n) (by omega) (by omega) hk hn rfl (2 ^ σ 1) 0 (σ (15 + σ 0 % 6)) w1 (by omega) (by rw [su_id]; exact M1) Fr.rf
          rw [show bqS (puP σ a b k n) 0 = 0 from rfl, nP_0] at L
          rw [nc0, M1.1, pk_rem (by omega) (by decide) (by decide), nI_add, nI_clamp (n := 15 + σ 0 % 6) (by omega), M1.2.2.2.2.2 _ (by omega) (by omega)]
          exact ⟨vi0, by decide, vp_in_nI (by omega) (by decide), L⟩
      · exact Both.f0 (z7 0) H M I R (en_X3_put (sg_X3_put_0 ⟨_, _, hm_areTwo H _ _, nY c, fun _ => ⟨_, _, hm_isKin _, nY c2, fun _ => ⟨_, _, hm_within _ _ _, fun _ => ⟨_, _, hf0, rfl, rfl⟩, nN c3⟩⟩⟩)) (fun w1 M1 => en_X4_put (sg_X4_put_0 ⟨_, _, mm_areTwo M1 _ _, nY c, fun _ => ⟨_, _, mm_isKin _, nY c2, fun _ => ⟨_, _, mm_within _ _ _, fun _ => ⟨_, _, mf0, rfl, rfl⟩, nN c3⟩⟩⟩))
    · exact Both.f0 (z7 0) H M I R (en_X3_put (sg_X3_put_0 ⟨_, _, hm_areTwo H _ _, nY c, fun _ => ⟨_, _, hm_isKin _, fun _ => ⟨_, _, hf0, rfl, rfl⟩, nN c2⟩⟩)) (fun w1 M1 => en_X4_put (sg_X4_put_0 ⟨_, _, mm_areTwo M1 _ _, nY c, fun _ => ⟨_, _, mm_isKin _, fun _ => ⟨_, _, mf0, rfl, rfl⟩, nN c2⟩⟩))
  · exact Both.f0 (z7 0) H M I R (en_X3_put (sg_X3_put_0 ⟨_, _, hm_areTwo H _ _, fun _ => ⟨_, _, hf0, rfl, rfl⟩, nN c⟩)) (fun w1 M1 => en_X4_put (sg_X4_put_0 ⟨_, _, mm_areTwo M1 _ _, fun _ => ⟨_, _, mf0, rfl, rfl⟩, nN c⟩))
end Pput
