/-! public methods of both sides: change, person, iron, steps, tie -/
section PX
variable {d : Nat} {w : mz_M} {T h : Nat} {σ : Nat → Nat} {z : Int32}
theorem n10 : ¬ nI 1 = nI 0 := by decide
theorem bo_change (R : Rel T w) (x y v : Int32) : Both T T 51 137 [.int x, .int y, .int v] w := by
  obtain ⟨σ, z, H, M, I, R⟩ := R
  have h8 := I.2.1
  by_cases c : isP (σ 1) x
  · by_cases e0 : y = nI 0
    · subst e0
      by_cases c2 : wn v (nI 0) (nI 6)
      · obtain ⟨p, hp, rfl⟩ := (isP_iff I.2.1).mp c
        obtain ⟨k, -, hk, rfl⟩ := (wn_iff (by decide) (by decide)).mp c2
        have hin : vp_in (nI p) 8 := vp_in_nI (by omega) (by decide)
        have ke : (nI p).toNatClampNeg = p := nI_clamp (by omega)
        refine Both.ok (r := nI (σ (21 + p))) (σ' := su σ (21 + p) k) (z' := z) M R (Nat.le_refl _) (I.put (by omega)) ⟨_, en_X3_change (sg_X3_change_0 ⟨_, _, hm_isThere H _, nY c, fun _ => ⟨fun _ => ⟨_, _, hm_isKind _, nY c2, fun _ => ⟨hin, hin, ?_, rfl⟩⟩, nS⟩⟩), ?_, Fr.up (by omega)⟩ (fun w1 M1 => ?_)
        · rw [ke, H.2.2.2.2.2.2.1 p (by omega)]
        · rw [ke]; exact H.kind (by omega) k
        · obtain ⟨w2, q1, q2, q3⟩ := mm_become (d := 9) M1 (j := 21 + p) (v := k) (by omega) (by omega)
          exact ⟨w2, en_X4_change (sg_X4_change_0 ⟨fun _ => ⟨_, _, mm_isKind _, _, _, mm_isPerson M1 _, nY c, fun _ => ⟨nY c2, fun _ => ⟨fun _ => ⟨_, _, by rw [nI_add]; exact q1, rfl, rfl⟩, nS⟩⟩⟩, nS⟩), q2, q3.mono (by omega)⟩
      · exact Both.f0 (z7 0) H M I R (en_X3_change (sg_X3_change_0 ⟨_, _, hm_isThere H _, nY c, fun _ => ⟨fun _ => ⟨_, _, hm_isKind _, fun _ => ⟨nA (by decide), fun _ => ⟨_, _, hf0, rfl, rfl⟩⟩, nN c2⟩, nS⟩⟩)) (fun w1 M1 => en_X4_change (sg_X4_change_0 ⟨fun _ => ⟨_, _, mm_isKind _, _, _, mm_isPerson M1 _, nY c, fun _ => ⟨fun _ => ⟨_, _, mf0, rfl, rfl⟩, nN c2⟩⟩, nS⟩))
    · by_cases e1 : y = nI 1
      · subst e1
        by_cases c2 : wn v (nI 0) (nI 99)
        · obtain ⟨p, hp, rfl⟩ := (isP_iff I.2.1).mp c
          obtain ⟨k, -, hk, rfl⟩ := (wn_iff (by decide) (by decide)).mp c2
          have hin : vp_in (nI p) 8 := vp_in_nI (by omega) (by decide)
          have ke : (nI p).toNatClampNeg = p := nI_clamp (by omega)
          refine Both.ok (r := nI (σ (29 + p))) (σ' := su σ (29 + p) k) (z' := z) M R (Nat.le_refl _) (I.put (by omega)) ⟨_, en_X3_change (sg_X3_change_0 ⟨_, _, hm_isThere H _, nY c, fun _ => ⟨nA e0, fun _ => ⟨fun _ => ⟨_, _, hm_within _ _ _, nY c2, fun _ => ⟨hin, hin, ?_, rfl⟩⟩, nS⟩⟩⟩), ?_, Fr.up (by omega)⟩ (fun w1 M1 => ?_)
          · rw [ke, H.2.2.2.2.2.2.2.1 p (by omega)]
          · rw [ke]; exact H.worth (by omega) k
          · obtain ⟨w2, q1, q2, q3⟩ := mm_become (d := 9) M1 (j := 29 + p) (v := k) (by omega) (by omega)
            exact ⟨w2, en_X4_change (sg_X4_change_0 ⟨nA e0, fun _ => ⟨fun _ => ⟨_, _, mm_within _ _ _, nY c2, fun _ => ⟨_, _, mm_isPerson M1 _, nY c, fun _ => ⟨nA n10, fun _ => ⟨nA e0, fun _ => ⟨_, _, by rw [nI_add]; exact q1, rfl, rfl⟩⟩⟩⟩⟩, nS⟩⟩), q2, q3.mono (by omega)⟩
        · exact Both.f0 (z7 0) H M I R (en_X3_change (sg_X3_change_0 ⟨_, _, hm_isThere H _, nY c, fun _ => ⟨nA e0, fun _ => ⟨fun _ => ⟨_, _, hm_within _ _ _, fun _ => ⟨_, _, hf0, rfl, rfl⟩, nN c2⟩, nS⟩⟩⟩)) (fun w1 M1 => en_X4_change (sg_X4_change_0 ⟨nA e0, fun _ => ⟨fun _ => ⟨_, _, mm_within _ _ _, fun _ => ⟨_, _, mm_isPerson M1 _, nY c, fun _ => ⟨fun _ => ⟨_, _, mf0, rfl, rfl⟩, nS⟩⟩, nN c2⟩, nS⟩⟩))
      · exact Both.f0 (z7 0) H M I R (en_X3_change (sg_X3_change_0 ⟨_, _, hm_isThere H _, nY c, fun _ => ⟨nA e0, fun _ => ⟨nA e1, fun _ => ⟨_, _, hf0, rfl, rfl⟩⟩⟩⟩)) (fun w1 M1 => en_X4_change (sg_X4_change_0 ⟨nA e0, fun _ => ⟨nA e1, fun _ => ⟨_, _, mm_isPerson M1 _, nY c, fun _ => ⟨fun _ => ⟨_, _, mf0, rfl, rfl⟩, nS⟩⟩⟩⟩))
  · refine Both.f0 (z7 0) H M I R (en_X3_change (sg_X3_change_0 ⟨_, _, hm_isThere H _, fun _ => ⟨_, _, hf0, rfl, rfl⟩, nN c⟩)) (fun w1 M1 => en_X4_change (sg_X4_change_0 ⟨fun _ => ⟨_, _, mm_isKind _, _, _, mm_isPerson M1 _, fun _ => ⟨_, _, mf0, rfl, rfl⟩, nN c⟩, fun _ => ⟨fun _ => ⟨_, _, mm_within _ _ _, fun _ => ⟨_, _, mm_isPerson M1 _, fun _ => ⟨_, _, mf0, rfl, rfl⟩, nN c⟩, fun _ => ⟨_, _, mm_isPerson M1 _, fun _ => ⟨_, _, mf0, rfl, rfl⟩, nN c⟩⟩, fun _ => ⟨_, _, mm_isPerson M1 _, fun _ => ⟨_, _, mf0, rfl, rfl⟩, nN c⟩⟩⟩))
/-- one more comes -/
def nwS (σ : Nat → Nat) (k wo : Nat) : Nat → Nat := su (su (su σ (21 + σ 1) k) (29 + σ 1) wo) 1 (σ 1 + 1)
theorem Iv.come (I : Iv T σ) {k wo : Nat} (h : σ 1 < 8) (hk : k < 7) (hw : wo ≤ 99) : Iv T (nwS σ k wo) := by
  have I2 := (I.put (k := 21 + σ 1) (v := k) (by omega)).put (k := 29 + σ 1) (v := wo) (by omega)
  have e1 : su (su σ (21 + σ 1) k) (29 + σ 1) wo 1 = σ 1 := by rw [su_n (by omega), su_n (by omega)]
  unfold nwS
  generalize su (su σ (21 + σ 1) k) (29 + σ 1) wo = τ at I2 e1
  obtain ⟨i0, i1, i2, i3, i4, i5, i6, i7, i8, i9⟩ := I2
  refine ⟨?_, ?_, ?_, fun j a b => ?_, fun j a b => ?_, fun j a b => ?_, fun j a b => ?_, fun j a b => ?_, fun a b ha hb => ?_, fun a ha => ?_⟩
  · rw [su_n (by omega)]; exact i0
  · rw [su_s]; omega
  · rw [su_n (by omega)]; exact i2
  · rw [su_s, su_n (by omega)]; have := i3 j a b; omega
  · rw [su_n (by omega)]; exact i4 j a b
  · rw [su_n (by omega)]; exact i5 j a b
  · rw [su_n (by omega)]; exact i6 j a b
  · rw [su_n (by omega)]; exact i7 j a b
  · rw [su_n (by omega), su_n (by omega)]; exact i8 a b ha hb
  · rw [su_n (by omega)]; exact i9 a ha
theorem hm_welcome (hh : h = 1 ∨ h = 9 ∨ h = 17) (H : Hs h σ z w) (I : Iv T σ) (hn : σ 1 < 8) (k : Nat) : ∃ w', mz_Call (d + 2) 2 [.ref h, .int (nI k)] w (some (.int (nI (σ 1)))) w' ∧ Hs h (nwS σ k 4) z w' ∧ Fr (fun j => h ≤ j ∧ j < h + 6) w w' := by
  have H1 := H.kind (i := σ 1) (by omega) k
  have H2 := H1.worth (i := σ 1) (by omega) 4
  have H3 := H2.people (σ 1 + 1)
  refine ⟨_, en_X0_welcome (sg_X0_welcome_0 hh ⟨_, _, hm_isFull hh H I, fun _ => ?_, nN (by omega)⟩), H3, ?_⟩
  · dsimp only
    rw [H.2.2.2.1, nI_clamp (by omega), H1.2.2.2.1, su_n (by omega), nI_clamp (by omega), H2.2.2.2.1, su_n (by omega), su_n (by omega), nI_add, mu_s, pk_us]
    exact ⟨vp_in_nI (by omega) (by decide), vp_in_nI (by omega) (by decide), by rw [show nI 1 = (1 : Int32) from rfl, nI_m1], rfl⟩
  · exact (Fr.tr (Fr.tr (Fr.up (by omega)) (Fr.up (by omega))) (Fr.up (by omega)))
theorem mm_comes (M : Ms 38 σ z w) (hn : σ 1 < 8) (k wo : Nat) : ∃ w', mz_Call (d + 1) 127 [.ref 37, .int (nI k), .int (nI wo)] w (some (.int (nI (σ 1)))) w' ∧ Ms 38 (nwS σ k wo) z w' ∧ Fr (fun j => j = 38) w w' := by
  have M1 := M.set (j := 21 + σ 1) (v := k) (by omega)
  have M2 := M1.set (j := 29 + σ 1) (v := wo) (by omega)
  have M3 := M2.people (v := σ 1 + 1)
  refine ⟨_, en_X4_comes (sg_X4_comes_0 ?_), M3, Fr.tr (Fr.tr (Fr.up rfl) (Fr.up rfl)) (Fr.up rfl)⟩
  dsimp only
  rw [nc1, M.2.1, nI_add, nI_add, nI_clamp (by omega), nI_clamp (by omega), M2.2.1, su_n (by omega), su_n (by omega), nI_add]
  exact ⟨vi1, vp_in_nI (by omega) (by decide), vp_in_nI (by omega) (by decide), vi1, vi1, rfl, rfl⟩
theorem bo_person (R : Rel T w) (x : Int32) : Both T T 49 128 [.int x] w := by
  obtain ⟨σ, z, H, M, I, R⟩ := R
  have h8 := I.2.1
  by_cases c : wn x (nI 0) (nI 6)
  · by_cases c2 : 8 ≤ σ 1
    · refine Both.f0 (z7 1) H M I R (en_X3_person (sg_X3_person_0 ⟨_, _, hm_isKind _, nY c, fun _ => ⟨_, _, hm_isFull (Or.inl rfl) H I, nY c2, fun _ => ⟨_, _, hf1, rfl, rfl⟩⟩⟩)) (fun w1 M1 => en_X4_person (sg_X4_person_0 ⟨_, _, mm_isKind _, nY c, fun _ => ⟨vi1, fun _ => ⟨_, _, mf1, rfl, rfl⟩, fun q => ?_⟩⟩))
      rw [nc1, M1.2.1, nI_eq (by omega) (by omega)] at q
      omega
    · obtain ⟨k, -, hk, rfl⟩ := (wn_iff (by decide) (by decide)).mp c
      refine Both.ok (r := nI (σ 1)) (σ' := nwS σ k 4) (z' := z) M R (Nat.le_refl _) (I.come (by omega) (by omega) (by omega)) ?_ (fun w1 M1 => ?_)
      · obtain ⟨w2, q1, q2, q3⟩ := hm_welcome (d := 8) (Or.inl rfl) H I (by omega) k
        exact ⟨w2, en_X3_person (sg_X3_person_0 ⟨_, _, hm_isKind _, nY c, fun _ => ⟨_, _, hm_isFull (Or.inl rfl) H I, fun _ => ⟨_, _, q1, rfl, rfl⟩, nN c2⟩⟩), q2, q3.mono (by omega)⟩
      · obtain ⟨w2, q1, q2, q3⟩ := mm_comes (d := 9) M1 (by omega) k 4
        refine ⟨w2, en_X4_person (sg_X4_person_0 ⟨_, _, mm_isKind _, nY c, fun _ => ⟨vi1, fun q => ?_, fun _ => ⟨_, _, q1, rfl, rfl⟩⟩⟩), q2, q3.mono (by omega)⟩
        rw [nc1, M1.2.1, nI_eq (by omega) (by omega)] at q
        omega
  · exact Both.f0 (z7 0) H M I R (en_X3_person (sg_X3_person_0 ⟨_, _, hm_isKind _, fun _ => ⟨_, _, hf0, rfl, rfl⟩, nN c⟩)) (fun w1 M1 => en_X4_person (sg_X4_person_0 ⟨_, _, mm_isKind _, fun _ => ⟨_, _, mf0, rfl, rfl⟩, nN c⟩))
/-- kin of one to the first n made 0 -/
def flS (σ : Nat → Nat) (p : Nat) : Nat → Nat → Nat
  | 0 => σ
  | n + 1 => kS (flS σ p n) p n 0
theorem fl_lo (σ : Nat → Nat) (p : Nat) {j : Nat} (hj : j < 37) : ∀ n, flS σ p n j = σ j
  | 0 => rfl
  | n + 1 => by
    show kS (flS σ p n) p n 0 j = σ j
    unfold kS
    rw [su_n (by omega), su_n (by omega)]
    exact fl_lo σ p hj n
theorem kS_self {τ : Nat → Nat} {p : Nat} (h : τ (37 + 8 * p + p) = 0) : kS τ p p 0 = τ := by
  funext j
  unfold kS su
  by_cases e : j = 37 + 8 * p + p
  · rw [if_pos e, e, h]
  · rw [if_neg e, if_neg e]
theorem Iv.flat (I : Iv T σ) {p : Nat} (hp : p < 8) : ∀ {n : Nat}, n ≤ 8 → Iv T (flS σ p n)
  | 0, _ => I
  | n + 1, hn => by
    have J := Iv.flat I hp (n := n) (by omega)
    show Iv T (kS (flS σ p n) p n 0)
    by_cases e : n = p
    · subst e
      rw [kS_self (J.2.2.2.2.2.2.2.2.2 n hp)]
      exact J
    · exact J.kin hp (by omega) (fun q => e q.symm) (by decide)
theorem fl_kn (σ : Nat → Nat) {p o : Nat} (hp : p < 8) (ho : o < 8) (hne : o ≠ p) : ∀ n, n ≤ o → flS σ p n (37 + 8 * p + o) = σ (37 + 8 * p + o)
  | 0, _ => rfl
  | n + 1, hn => by
    show kS (flS σ p n) p n 0 (37 + 8 * p + o) = _
    unfold kS
    rw [su_n (by omega), su_n (by omega)]
    exact fl_kn σ hp ho hne n (by omega)
theorem hm_flatten (hh : h = 1 ∨ h = 9 ∨ h = 17) (H : Hs h σ z w) (I : Iv T σ) {p : Nat} (hp : p < 8) : ∃ w', mz_Call (d + 2) 6 [.ref h, .int (nI p)] w none w' ∧ Hs h (flS σ p (σ 1)) z w' ∧ Fr (fun j => j = h + 4) w w' := by
  have h1 := I.2.1
  have loop : ∀ k n w1, n + k = σ 1 → Hs h (flS σ p n) z w1 → Fr (fun j => j = h + 4) w w1 → mz_Ex cd_X0_flatten (mz_Call (d + 1)) (fun r2 w2 => r2 = none ∧ Hs h (flS σ p (σ 1)) z w2 ∧ Fr (fun j => j = h + 4) w w2) 2 [.ref h, .int (nI p), .int (nI n)] [] w1 := by
    intro k
    induction k with
    | zero =>
      intro n w1 hn G F
      refine sg_X0_flatten_2 hh ?_
      rw [G.2.2.2.1, fl_lo σ p (by omega), nI_ltI (by omega) (by omega)]
      refine ⟨fun c => absurd c (by omega), fun _ => ⟨rfl, ?_, F⟩⟩
      rw [show σ 1 = n by omega]; exact G
    | succ k ih =>
      intro n w1 hn G F
      refine sg_X0_flatten_2 hh ?_
      rw [G.2.2.2.1, fl_lo σ p (by omega), nI_ltI (by omega) (by omega)]
      obtain ⟨w2, q1, q2, q3⟩ := hm_relate (d := d) hh G (a := p) (b := n) (v := 0) hp (by omega)
      refine ⟨fun _ => ⟨w2, q1, ?_⟩, fun c => absurd (show n < σ 1 by omega) c⟩
      rw [nI_add]
      exact ih (n + 1) w2 (by omega) q2 (F.tr q3)
  exact ec_X0_flatten (Po := fun w' => Hs h (flS σ p (σ 1)) z w' ∧ Fr (fun j => j = h + 4) w w') (sg_X0_flatten_0 hh (loop (σ 1) 0 w (by omega) H Fr.rf))
theorem mm_ironNow (M : Ms 38 σ z w) (I : Iv T σ) {p : Nat} (hp : p < 8) : ∃ w', mz_Call (d + 3) 140 [.ref 37, .int (nI p)] w (some (.int (nI (skS σ p)))) w' ∧ Ms 38 (flS σ p (σ 1)) z w' ∧ Fr (fun j => j = 38) w w' := by
  have h1 := I.2.1
  have loop : ∀ k n w1, n + k = σ 1 → Ms 38 (flS σ p n) z w1 → Fr (fun j => j = 38) w w1 → mz_Ex cd_X4_ironNow (mz_Call (d + 2)) (fun r2 w2 => ∃ v : Int32, r2 = some (.int v) ∧ (v = nI (skS σ p) ∧ Ms 38 (flS σ p (σ 1)) z w2 ∧ Fr (fun j => j = 38) w w2)) 4 [.ref 37, .int (nI p), .int (nI (s1 (kn σ p) n)), .int (nI n)] [] w1 := by
    intro k
    induction k with
    | zero =>
      intro n w1 hn G F
      refine sg_X4_ironNow_4 ?_
      rw [nc1, G.2.1, fl_lo σ p (by omega), nI_ltI (by omega) (by omega)]
      refine ⟨vi1, fun c => absurd c (by omega), fun _ => ⟨_, rfl, ?_, ?_, F⟩⟩
      · unfold skS; rw [show n = σ 1 by omega]
      · rw [show σ 1 = n by omega]; exact G
    | succ k ih =>
      intro n w1 hn G F
      refine sg_X4_ironNow_4 ?_
      rw [nc1, G.2.1, fl_lo σ p (by omega), nI_ltI (by omega) (by omega), nI_eq (by omega) (by omega)]
      refine ⟨vi1, fun _ => ⟨fun e => ?_, fun e => ?_⟩, fun c => absurd (show n < σ 1 by omega) c⟩
      · subst e
        rw [nI_add, nI_add]
        have q := ih (n + 1) w1 (by omega) (by show Ms 38 (kS (flS σ n n) n n 0) z w1; rw [kS_self ((I.flat hp (n := n) (by omega)).2.2.2.2.2.2.2.2.2 n hp)]; exact G) F
        rw [show s1 (kn σ n) (n + 1) = s1 (kn σ n) n + kn σ n n from rfl, show kn σ n n = 0 from I.2.2.2.2.2.2.2.2.2 n hp] at q
        exact q
      · obtain ⟨w2, q1, q2, q3⟩ := mm_makeKin (d := d) G (a := p) (b := n) (v := 0) hp (by omega) (fun q => e q.symm)
        rw [fl_kn σ hp (by omega) e n (Nat.le_refl n)] at q1
        refine ⟨_, w2, q1, ?_⟩
        rw [nI_add, nI_add]
        rw [← kS_comm] at q2
        exact ih (n + 1) w2 (by omega) q2 (F.tr q3)
  obtain ⟨v, w', a1, a2, a3, a4⟩ := ec_X4_ironNow (Po := fun v w' => v = nI (skS σ p) ∧ Ms 38 (flS σ p (σ 1)) z w' ∧ Fr (fun j => j = 38) w w') (sg_X4_ironNow_0 (loop (σ 1) 0 w (by omega) M Fr.rf))
  subst a2
  exact ⟨w', a1, a3, a4⟩
theorem bo_iron (R : Rel T w) (x : Int32) : Both T T 54 141 [.int x] w := by
  obtain ⟨σ, z, H, M, I, R⟩ := R
  have h8 := I.2.1
  by_cases c : isP (σ 1) x
  · obtain ⟨p, hp, rfl⟩ := (isP_iff I.2.1).mp c
    refine Both.ok (r := nI (skS σ p)) (σ' := flS σ p (σ 1)) (z' := z) M R (Nat.le_refl _) (I.flat (by omega) h8) ?_ (fun w1 M1 => ?_)
    · obtain ⟨w2, q1, q2, q3⟩ := hm_flatten (d := 8) (Or.inl rfl) H I (p := p) (by omega)
      exact ⟨w2, en_X3_iron (sg_X3_iron_0 ⟨_, _, hm_isThere H _, nY c, fun _ => ⟨_, _, hm_kinToAll (Or.inl rfl) H I (by omega), w2, q1, rfl, rfl⟩⟩), q2, q3.mono (by omega)⟩
    · obtain ⟨w2, q1, q2, q3⟩ := mm_ironNow (d := 7) M1 I (p := p) (by omega)
      exact ⟨w2, en_X4_iron (sg_X4_iron_0 ⟨_, _, mm_isPerson M1 _, nY c, fun _ => ⟨_, _, q1, rfl, rfl⟩⟩), q2, q3.mono (by omega)⟩
  · exact Both.f0 (z7 0) H M I R (en_X3_iron (sg_X3_iron_0 ⟨_, _, hm_isThere H _, fun _ => ⟨_, _, hf0, rfl, rfl⟩, nN c⟩)) (fun w1 M1 => en_X4_iron (sg_X4_iron_0 ⟨_, _, mm_isPerson M1 _, fun _ => ⟨_, _, mf0, rfl, rfl⟩, nN c⟩))
end PX
