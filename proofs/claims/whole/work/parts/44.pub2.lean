/-! public methods of both sides: of, now, go, hold, tear, wipe, status, image, undo -/
theorem nA {C : Prop} {a b : Int32} (h : ¬ a = b) (q : a = b) : C := absurd q h
theorem nS {C : Prop} {a : Int32} (q : ¬ a = a) : C := absurd rfl q
section PV
variable {w : mz_M} {T : Nat}
theorem bo_of (R : Rel T w) (hT : T ≤ 90000) (x y : Int32) : Both T T 50 136 [.int x, .int y] w := by
  obtain ⟨σ, z, H, M, I, R⟩ := R
  by_cases c : isP (σ 1) x
  · obtain ⟨p, hp, rfl⟩ := (isP_iff I.2.1).mp c
    have h8 := I.2.1
    have h0 := I.1
    have ho : Hs 1 σ z w := H
    by_cases e0 : y = nI 0
    · subst e0
      exact Both.rd (r := nI (σ (21 + p))) H M I R (en_X3_of (sg_X3_of_0 ⟨_, _, hm_isThere H _, nY c, fun _ => ⟨fun _ => ⟨vp_in_nI (by omega) (by decide), by rw [nI_clamp (by omega), H.2.2.2.2.2.2.1 p (by omega)], rfl⟩, nS⟩⟩)) (en_X4_of (sg_X4_of_0 ⟨_, _, mm_isPerson M _, nY c, fun _ => ⟨fun _ => by rw [nI_add]; exact ⟨vp_in_nI (by omega) (by decide), by rw [nI_clamp (by omega), M.2.2.2.2.2 _ (by omega) (by omega)], rfl⟩, nS⟩⟩))
    by_cases e1 : y = nI 1
    · subst e1
      exact Both.rd (r := nI (σ (29 + p))) H M I R (en_X3_of (sg_X3_of_0 ⟨_, _, hm_isThere H _, nY c, fun _ => ⟨nA (by decide), fun _ => ⟨fun _ => ⟨vp_in_nI (by omega) (by decide), by rw [nI_clamp (by omega), H.2.2.2.2.2.2.2.1 p (by omega)], rfl⟩, nS⟩⟩⟩)) (en_X4_of (sg_X4_of_0 ⟨_, _, mm_isPerson M _, nY c, fun _ => ⟨nA (by decide), fun _ => ⟨fun _ => by rw [nI_add]; exact ⟨vp_in_nI (by omega) (by decide), by rw [nI_clamp (by omega), M.2.2.2.2.2 _ (by omega) (by omega)], rfl⟩, nS⟩⟩⟩))
    by_cases e2 : y = nI 2
    · subst e2
      exact Both.rd  H M I R (en_X3_of (sg_X3_of_0 ⟨_, _, hm_isThere H _, nY c, fun _ => ⟨nA (by decide), fun _ => ⟨nA (by decide), fun _ => ⟨fun _ => ⟨_, _, hm_brings (Or.inl rfl) H I (by omega) (by omega), rfl, rfl⟩, nS⟩⟩⟩⟩)) (en_X4_of (sg_X4_of_0 ⟨_, _, mm_isPerson M _, nY c, fun _ => ⟨nA (by decide), fun _ => ⟨nA (by decide), fun _ => ⟨fun _ => ⟨_, _, mm_brings M I (by omega) (by omega), rfl, rfl⟩, nS⟩⟩⟩⟩))
    by_cases e3 : y = nI 3
    · subst e3
      exact Both.rd  H M I R (en_X3_of (sg_X3_of_0 ⟨_, _, hm_isThere H _, nY c, fun _ => ⟨nA (by decide), fun _ => ⟨nA (by decide), fun _ => ⟨nA (by decide), fun _ => ⟨fun _ => ⟨_, _, hm_fades (Or.inl rfl) H I (by omega), rfl, rfl⟩, nS⟩⟩⟩⟩⟩)) (en_X4_of (sg_X4_of_0 ⟨_, _, mm_isPerson M _, nY c, fun _ => ⟨nA (by decide), fun _ => ⟨nA (by decide), fun _ => ⟨nA (by decide), fun _ => ⟨fun _ => ⟨_, _, mm_fades M I (by omega), rfl, rfl⟩, nS⟩⟩⟩⟩⟩))
    by_cases e4 : y = nI 4
    · subst e4
      exact Both.rd  H M I R (en_X3_of (sg_X3_of_0 ⟨_, _, hm_isThere H _, nY c, fun _ => ⟨nA (by decide), fun _ => ⟨nA (by decide), fun _ => ⟨nA (by decide), fun _ => ⟨nA (by decide), fun _ => ⟨fun _ => ⟨_, _, hm_kinToAll (Or.inl rfl) H I (by omega), rfl, rfl⟩, nS⟩⟩⟩⟩⟩⟩)) (en_X4_of (sg_X4_of_0 ⟨_, _, mm_isPerson M _, nY c, fun _ => ⟨nA (by decide), fun _ => ⟨nA (by decide), fun _ => ⟨nA (by decide), fun _ => ⟨nA (by decide), fun _ => ⟨fun _ => ⟨_, _, mm_kinOfOne M I (by omega), rfl, rfl⟩, nS⟩⟩⟩⟩⟩⟩))
    by_cases e5 : y = nI 5
    · subst e5
      exact Both.rd  H M I R (en_X3_of (sg_X3_of_0 ⟨_, _, hm_isThere H _, nY c, fun _ => ⟨nA (by decide), fun _ => ⟨nA (by decide), fun _ => ⟨nA (by decide), fun _ => ⟨nA (by decide), fun _ => ⟨nA (by decide), fun _ => ⟨fun _ => ⟨_, _, hm_nearestTo (Or.inl rfl) H I (by omega), rfl, rfl⟩, nS⟩⟩⟩⟩⟩⟩⟩)) (en_X4_of (sg_X4_of_0 ⟨_, _, mm_isPerson M _, nY c, fun _ => ⟨nA (by decide), fun _ => ⟨nA (by decide), fun _ => ⟨nA (by decide), fun _ => ⟨nA (by decide), fun _ => ⟨nA (by decide), fun _ => ⟨fun _ => ⟨_, _, mm_nearest M I (by omega), rfl, rfl⟩, nS⟩⟩⟩⟩⟩⟩⟩))
    exact Both.f0 (z7 0) H M I R (en_X3_of (sg_X3_of_0 ⟨_, _, hm_isThere H _, nY c, fun _ => ⟨nA e0, fun _ => ⟨nA e1, fun _ => ⟨nA e2, fun _ => ⟨nA e3, fun _ => ⟨nA e4, fun _ => ⟨nA e5, fun _ => ⟨_, _, hf0, rfl, rfl⟩⟩⟩⟩⟩⟩⟩⟩)) (fun w1 M1 => en_X4_of (sg_X4_of_0 ⟨_, _, mm_isPerson M1 _, nY c, fun _ => ⟨nA e0, fun _ => ⟨nA e1, fun _ => ⟨nA e2, fun _ => ⟨nA e3, fun _ => ⟨nA e4, fun _ => ⟨nA e5, fun _ => ⟨_, _, mf0, rfl, rfl⟩⟩⟩⟩⟩⟩⟩⟩))
  · exact Both.f0 (z7 0) H M I R (en_X3_of (sg_X3_of_0 ⟨_, _, hm_isThere H _, fun _ => ⟨_, _, hf0, rfl, rfl⟩, nN c⟩)) (fun w1 M1 => en_X4_of (sg_X4_of_0 ⟨_, _, mm_isPerson M1 _, fun _ => ⟨_, _, mf0, rfl, rfl⟩, nN c⟩))
theorem bo_now (R : Rel T w) (hT : T ≤ 90000) (y : Int32) : Both T T 56 148 [.int y] w := by
  obtain ⟨σ, z, H, M, I, R⟩ := R
  have h0 := I.1
  by_cases e0 : y = nI 0
  · subst e0
    exact Both.rd (r := nI (σ 0)) H M I R (en_X3_now (sg_X3_now_0 ⟨fun _ => ⟨by rw [H.2.1], rfl⟩, nS⟩)) (en_X4_now (sg_X4_now_0 ⟨fun _ => ⟨vi0, by rw [nc0, M.1], rfl⟩, nS⟩))
  by_cases e1 : y = nI 1
  · subst e1
    exact Both.rd  H M I R (en_X3_now (sg_X3_now_0 ⟨nA (by decide), fun _ => ⟨fun _ => ⟨_, _, hm_allKin (Or.inl rfl) H I, rfl, rfl⟩, nS⟩⟩)) (en_X4_now (sg_X4_now_0 ⟨nA (by decide), fun _ => ⟨fun _ => ⟨_, _, mm_kinAll M I, rfl, rfl⟩, nS⟩⟩))
  by_cases e2 : y = nI 2
  · subst e2
    exact Both.rd  H M I R (en_X3_now (sg_X3_now_0 ⟨nA (by decide), fun _ => ⟨nA (by decide), fun _ => ⟨fun _ => ⟨_, _, hm_goingIn (Or.inl rfl) H I (by omega), rfl, rfl⟩, nS⟩⟩⟩)) (en_X4_now (sg_X4_now_0 ⟨nA (by decide), fun _ => ⟨nA (by decide), fun _ => ⟨fun _ => ⟨_, _, mm_goingIn M I (by omega), rfl, rfl⟩, nS⟩⟩⟩))
  by_cases e3 : y = nI 3
  · subst e3
    exact Both.rd (r := nP (σ 4)) H M I R (en_X3_now (sg_X3_now_0 ⟨nA (by decide), fun _ => ⟨nA (by decide), fun _ => ⟨nA (by decide), fun _ => ⟨fun _ => ⟨by rw [H.2.2.1], rfl⟩, nS⟩⟩⟩⟩)) (en_X4_now (sg_X4_now_0 ⟨nA (by decide), fun _ => ⟨nA (by decide), fun _ => ⟨nA (by decide), fun _ => ⟨fun _ => ⟨vi4, by rw [nc4, M.2.2.2.2.1 4 (by omega) (by omega)], rfl⟩, nS⟩⟩⟩⟩))
  by_cases e4 : y = nI 4
  · subst e4
    exact Both.rd (r := nI (σ 3)) H M I R (en_X3_now (sg_X3_now_0 ⟨nA (by decide), fun _ => ⟨nA (by decide), fun _ => ⟨nA (by decide), fun _ => ⟨nA (by decide), fun _ => ⟨fun _ => ⟨by rw [H.1], rfl⟩, nS⟩⟩⟩⟩⟩)) (en_X4_now (sg_X4_now_0 ⟨nA (by decide), fun _ => ⟨nA (by decide), fun _ => ⟨nA (by decide), fun _ => ⟨nA (by decide), fun _ => ⟨fun _ => ⟨vi3, by rw [nc3, M.2.2.2.1], rfl⟩, nS⟩⟩⟩⟩⟩))
  by_cases e5 : y = nI 5
  · subst e5
    exact Both.rd  H M I R (en_X3_now (sg_X3_now_0 ⟨nA (by decide), fun _ => ⟨nA (by decide), fun _ => ⟨nA (by decide), fun _ => ⟨nA (by decide), fun _ => ⟨nA (by decide), fun _ => ⟨fun _ => ⟨_, _, hm_nearestTwo (Or.inl rfl) H I, rfl, rfl⟩, nS⟩⟩⟩⟩⟩⟩)) (en_X4_now (sg_X4_now_0 ⟨nA (by decide), fun _ => ⟨nA (by decide), fun _ => ⟨nA (by decide), fun _ => ⟨nA (by decide), fun _ => ⟨nA (by decide), fun _ => ⟨fun _ => ⟨_, _, mm_closest M I, rfl, rfl⟩, nS⟩⟩⟩⟩⟩⟩))
  exact Both.f0 (z7 0) H M I R (en_X3_now (sg_X3_now_0 ⟨nA e0, fun _ => ⟨nA e1, fun _ => ⟨nA e2, fun _ => ⟨nA e3, fun _ => ⟨nA e4, fun _ => ⟨nA e5, fun _ => ⟨_, _, hf0, rfl, rfl⟩⟩⟩⟩⟩⟩⟩)) (fun w1 M1 => en_X4_now (sg_X4_now_0 ⟨nA e0, fun _ => ⟨nA e1, fun _ => ⟨nA e2, fun _ => ⟨nA e3, fun _ => ⟨nA e4, fun _ => ⟨nA e5, fun _ => ⟨_, _, mf0, rfl, rfl⟩⟩⟩⟩⟩⟩⟩))
theorem bo_go (R : Rel T w) (hT : T ≤ 90000) (x : Int32) : Both T (T + 60) 55 146 [.int x] w := by
  obtain ⟨σ, z, H, M, I, R⟩ := R
  have h0 := I.1
  by_cases c : wn x (nI 1) (nI 60)
  · obtain ⟨n, hn1, hn, rfl⟩ := (wn_iff (by decide) (by decide)).mp c
    refine Both.ok (r := nI (akS (tN σ n))) (σ' := tN σ n) (z' := z) M R (by omega) ((I.turns n).up (by omega)) ?_ (fun w1 M1 => ?_)
    · obtain ⟨w2, q1, q2, q3⟩ := hm_passTurns (d := 6) (Or.inl rfl) H I (n := n) (by omega) (by omega)
      refine ⟨w2, en_X3_go (sg_X3_go_0 ⟨_, _, hm_within _ _ _, nY c, fun _ => ⟨fun q => ?_, fun _ => ⟨w2, q1, _, _, hm_allKin (Or.inl rfl) q2 (I.turns n), rfl, rfl⟩⟩⟩), q2, q3.mono (by omega)⟩
      rw [H.2.1, nI_add, nI_ltI (by omega) (by omega)] at q
      omega
    · obtain ⟨w2, q1, q2, q3⟩ := mm_turns (d := 4) M1 I (n := n) (by omega) (by omega)
      refine ⟨w2, en_X4_go (sg_X4_go_0 ⟨_, _, mm_within _ _ _, nY c, fun _ => ⟨vi0, fun q => ?_, fun _ => ⟨w2, q1, _, _, mm_kinAll q2 (I.turns n), rfl, rfl⟩⟩⟩), q2, q3.mono (by omega)⟩
      rw [nc0, M1.1, nI_add, nI_ltI (by omega) (by omega)] at q
      omega
  · obtain ⟨r, w1, w2, a1, a2, σ', z', b1, b2, b3, b4⟩ := Both.f0 (c := 55) (m := 146) (as := [.int x]) (z7 0) H M I R (en_X3_go (sg_X3_go_0 ⟨_, _, hm_within _ _ _, fun _ => ⟨_, _, hf0, rfl, rfl⟩, nN c⟩)) (fun w1 M1 => en_X4_go (sg_X4_go_0 ⟨_, _, mm_within _ _ _, fun _ => ⟨_, _, mf0, rfl, rfl⟩, nN c⟩))
    exact ⟨r, w1, w2, a1, a2, σ', z', b1, b2, b3.up (by omega), b4.up (by omega)⟩
theorem bo_hold (R : Rel T w) (x y : Int32) : Both T T 79 196 [.int x, .int y] w := by
  obtain ⟨σ, z, H, M, I, R⟩ := R
  have h8 := I.2.1
  by_cases c : wn x (nI 0) (nI 9)
  · obtain ⟨k, -, hk, rfl⟩ := (wn_iff (by decide) (by decide)).mp c
    have hin : vp_in (nI k) 10 := vp_in_nI (by omega) (by decide)
    have hin2 : vp_in (nI (5 + k)) 101 := vp_in_nI (by omega) (by decide)
    have ke : (nI k).toNatClampNeg = k := nI_clamp (by omega)
    have ke2 : (nI (5 + k)).toNatClampNeg = 5 + k := nI_clamp (by omega)
    by_cases e : y = (-1 : Int32)
    · subst e
      refine Both.ok (r := nI 1) (σ' := su σ (5 + k) 0) (z' := z) M R (Nat.le_refl _) (I.put (by omega)) ⟨mz_up w 6 (upd (w 6) k (-1 : Int32)), en_X3_hold (sg_X3_hold_0 ⟨_, _, hm_within _ _ _, nY c, fun _ => ⟨fun _ => ⟨hin, rfl, by rw [ke]⟩, nS⟩⟩), ?_, Fr.up (by omega)⟩ (fun w1 M1 => ⟨mz_up w1 38 (upd (w1 38) (5 + k) (-1 : Int32)), en_X4_hold (sg_X4_hold_0 ⟨_, _, mm_isSpot _, nY c, fun _ => ⟨fun _ => ?_, nS⟩⟩), ?_, Fr.up (by omega)⟩)
      · have q := H.spot (i := k) (by omega) 0; rw [nP_0] at q; exact q
      · rw [nI_add]; exact ⟨hin2, rfl, by rw [ke2]⟩
      · have q := M1.spot (j := 5 + k) (v := 0) (by omega) (by omega); rw [nP_0] at q; exact q
    · by_cases c2 : isP (σ 1) y
      · obtain ⟨p, hp, rfl⟩ := (isP_iff I.2.1).mp c2
        refine Both.ok (r := nI 1) (σ' := su σ (5 + k) (p + 1)) (z' := z) M R (Nat.le_refl _) (I.put (by omega)) ⟨mz_up w 6 (upd (w 6) k (nI p)), en_X3_hold (sg_X3_hold_0 ⟨_, _, hm_within _ _ _, nY c, fun _ => ⟨nA e, fun _ => ⟨_, _, hm_isThere H _, nY c2, fun _ => ⟨hin, rfl, by rw [ke]⟩⟩⟩⟩), ?_, Fr.up (by omega)⟩ (fun w1 M1 => ⟨mz_up w1 38 (upd (w1 38) (5 + k) (nI p)), en_X4_hold (sg_X4_hold_0 ⟨_, _, mm_isSpot _, nY c, fun _ => ⟨nA e, fun _ => ⟨_, _, mm_isPerson M1 _, nY c2, fun _ => ?_⟩⟩⟩), ?_, Fr.up (by omega)⟩)
        · have q := H.spot (i := k) (by omega) (p + 1); rw [nP_s] at q; exact q
        · rw [nI_add]; exact ⟨hin2, rfl, by rw [ke2]⟩
        · have q := M1.spot (j := 5 + k) (v := p + 1) (by omega) (by omega); rw [nP_s] at q; exact q
      · exact Both.f0 (z7 0) H M I R (en_X3_hold (sg_X3_hold_0 ⟨_, _, hm_within _ _ _, nY c, fun _ => ⟨nA e, fun _ => ⟨_, _, hm_isThere H _, fun _ => ⟨_, _, hf0, rfl, rfl⟩, nN c2⟩⟩⟩)) (fun w1 M1 => en_X4_hold (sg_X4_hold_0 ⟨_, _, mm_isSpot _, nY c, fun _ => ⟨nA e, fun _ => ⟨_, _, mm_isPerson M1 _, fun _ => ⟨_, _, mf0, rfl, rfl⟩, nN c2⟩⟩⟩))
  · exact Both.f0 (z7 0) H M I R (en_X3_hold (sg_X3_hold_0 ⟨_, _, hm_within _ _ _, fun _ => ⟨_, _, hf0, rfl, rfl⟩, nN c⟩)) (fun w1 M1 => en_X4_hold (sg_X4_hold_0 ⟨_, _, mm_isSpot _, fun _ => ⟨_, _, mf0, rfl, rfl⟩, nN c⟩))
end PV
