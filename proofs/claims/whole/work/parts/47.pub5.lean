/-! public methods of both sides: image, undo, tear, wipe, status, count -/
theorem nA2 {C : Prop} {a b : Int32} (h : a = b) (q : ¬ a = b) : C := absurd h q
section PZ
variable {d : Nat} {w : mz_M} {T h : Nat}
theorem bo_image (R : Rel T w) : Both T T 86 207 [] w := by
  obtain ⟨σ, z, H, M, I, R1, R2, R3, R4⟩ := R
  obtain ⟨w1, a1, a2, a3⟩ := hm_become (d := 9) (h := 17) (o := 1) (by omega) (by omega) (by decide) H
  have M1 : Ms 38 σ z (mz_up w1 0 (upd (w1 0) 3 (nI 1))) := M.fr (by rw [mu_n (by decide), a3 38 (by omega)])
  obtain ⟨w2, b1, b2, b3⟩ := mm_copyRow (d := 9) (a := 38) (b := 39) (by omega) (by omega) (by decide) M1
  have e : ∀ k, k ≠ 0 → k ≠ 37 → k ≠ 39 → ¬ (17 ≤ k ∧ k < 17 + 6) → mz_up w2 37 (upd (w2 37) 3 (nI 1)) k = w k := fun k q1 q2 q3 q4 => by rw [mu_n q2, b3 k q3, mu_n q1, a3 k q4]
  have e10 : mz_up w2 37 (upd (w2 37) 3 (nI 1)) 37 10 = w 37 10 := by rw [mu_s, pk_un (by decide), b3 37 (by decide), mu_n (by decide), a3 37 (by omega)]
  refine ⟨nI 1, _, _, en_X3_image (sg_X3_image_0 ⟨w1, a1, nz_11, rfl, rfl⟩), en_X4_image (sg_X4_image_0 ⟨w2, b1, nz_11, rfl, rfl⟩), σ, z, H.fr (fun k x y => e k (by omega) (by omega) (by omega) (by omega)), M.fr (e 38 (by decide) (by decide) (by decide) (by omega)), I, Or.inr ⟨?_, ?_, σ, z, a2.fr (fun k x y => ?_), b2.fr ?_, I⟩, R2.fr (e 36 (by decide) (by decide) (by decide) (by omega)) (e 41 (by decide) (by decide) (by decide) (by omega)), R3.fr (by rw [e 25 (by decide) (by decide) (by decide) (by omega)]) (e 26 (by decide) (by decide) (by decide) (by omega)) (e 44 (by decide) (by decide) (by decide) (by omega)) e10, R4.fr (fun k q => e k (by omega) (by omega) (by omega) (by omega))⟩
  · rw [mu_n (by decide), b3 0 (by decide), mu_s, pk_us]
  · rw [mu_s, pk_us]
  · rw [mu_n (by omega), b3 k (by omega), mu_n (by omega)]
  · rw [mu_n (by decide)]
theorem bo_undo (R : Rel T w) : Both T T 87 208 [] w := by
  obtain ⟨σ, z, H, M, I, R⟩ := R
  rcases R.1 with ⟨e1, e2⟩ | ⟨e1, e2, σ', z', P1, P2, P3⟩
  · refine Both.f0F (z7 3) H M I R (en_X3_undo (sg_X3_undo_0 ⟨fun _ => ⟨_, _, hf3, rfl, rfl⟩, nA2 e1⟩)) (fun w1 M1 F1 => en_X4_undo (sg_X4_undo_0 ⟨fun _ => ⟨_, _, mf3, rfl, rfl⟩, nA2 ?_⟩))
    rw [F1 37 (by omega) (by decide)]; exact e2
  · refine Both.okF (r := nI (σ' 0)) (σ' := σ') (z' := z') M R (Nat.le_refl _) P3 ?_ (fun w1 M1 R1 F1 => ?_)
    · obtain ⟨w2, q1, q2, q3⟩ := hm_become (d := 9) (h := 1) (o := 17) (by omega) (by omega) (by decide) P1
      exact ⟨w2, en_X3_undo (sg_X3_undo_0 ⟨nA (by rw [e1]; decide), fun _ => ⟨w2, q1, by rw [q2.2.1], rfl⟩⟩), q2, q3.mono (by omega)⟩
    · have P4 : Ms 39 σ' z' w1 := P2.fr (F1 39 (by omega))
      obtain ⟨w2, q1, q2, q3⟩ := mm_copyRow (d := 9) (a := 39) (b := 38) (by omega) (by omega) (by decide) P4
      exact ⟨w2, en_X4_undo (sg_X4_undo_0 ⟨nA (by rw [F1 37 (by omega), e2]; decide), fun _ => ⟨w2, q1, vi0, by rw [nc0, q2.1], rfl⟩⟩), q2, q3.mono (by omega)⟩
theorem bo_tear (R : Rel T w) : Both T T 88 209 [] w := by
  obtain ⟨σ, z, H, M, I, R1, R2, R3, R4⟩ := R
  have e : ∀ k, k ≠ 0 → k ≠ 37 → mz_up (mz_up w 0 (upd (w 0) 3 (nI 0))) 37 (upd (w 37) 3 (nI 0)) k = w k := fun k q1 q2 => by rw [mu_n q2, mu_n q1]
  have RR : Rel T (mz_up (mz_up w 0 (upd (w 0) 3 (nI 0))) 37 (upd (w 37) 3 (nI 0))) := by
    refine ⟨σ, z, H.fr (fun k x y => e k (by omega) (by omega)), M.fr (e 38 (by decide) (by decide)), I, Or.inl ⟨?_, ?_⟩, R2.fr (e 36 (by decide) (by decide)) (e 41 (by decide) (by decide)), R3.fr (by rw [e 25 (by decide) (by decide)]) (e 26 (by decide) (by decide)) (e 44 (by decide) (by decide)) ?_, R4.fr (fun k q => e k (by omega) (by omega))⟩
    · rw [mu_n (by decide), mu_s, pk_us]
    · rw [mu_s, pk_us]
    · rw [mu_s, pk_un (by decide)]
  have e37 : (mz_up w 0 (upd (w 0) 3 (nI 0))) 37 = w 37 := mu_n (by decide)
  rcases R1 with ⟨e1, e2⟩ | ⟨e1, e2, -⟩
  · refine ⟨nI 0, _, _, en_X3_tear (sg_X3_tear_0 ⟨fun _ => ⟨nz_01, rfl, rfl⟩, nA2 e1⟩), en_X4_tear (sg_X4_tear_0 ⟨fun _ => ⟨nz_01, rfl, ?_⟩, nA2 (by rw [e37]; exact e2)⟩), RR⟩
    rw [e37]
  · refine ⟨nI 1, _, _, en_X3_tear (sg_X3_tear_0 ⟨nA (by rw [e1]; decide), fun _ => ⟨nz_01, rfl, rfl⟩⟩), en_X4_tear (sg_X4_tear_0 ⟨nA (by rw [e37, e2]; decide), fun _ => ⟨nz_01, rfl, ?_⟩⟩), RR⟩
    rw [e37]
theorem bo_wipe (R : Rel T w) : Both T T 77 182 [] w := by
  obtain ⟨σ, z, H, M, I, R1, R2, R3, R4⟩ := R
  have e : ∀ k, k ≠ 25 → k ≠ 37 → mz_up (mz_up w 25 (upd (w 25) 1 (nI 0))) 37 (upd (w 37) 10 (nI 0)) k = w k := fun k q1 q2 => by rw [mu_n q2, mu_n q1]
  have RR : Rel T (mz_up (mz_up w 25 (upd (w 25) 1 (nI 0))) 37 (upd (w 37) 10 (nI 0))) := by
    refine ⟨σ, z, H.fr (fun k x y => e k (by omega) (by omega)), M.fr (e 38 (by decide) (by decide)), I, R1.fr (fun k q => e k (by omega) (by omega)) ?_, R2.fr (e 36 (by decide) (by decide)) (e 41 (by decide) (by decide)), ⟨0, by omega, ?_, ?_, fun j hj => absurd hj (by omega)⟩, R4.fr (fun k q => e k (by omega) (by omega))⟩
    · rw [mu_s, pk_un (by decide)]
    · rw [mu_n (by decide), mu_s, pk_us]
    · rw [mu_s, pk_us]
  have e37 : (mz_up w 25 (upd (w 25) 1 (nI 0))) 37 = w 37 := mu_n (by decide)
  obtain ⟨n, hn, t1, t2, -⟩ := R3
  refine ⟨nI n, _, _, en_X3_wipe (sg_X3_wipe_0 ⟨by rw [t1], rfl⟩), en_X4_wipe (sg_X4_wipe_0 ⟨by rw [e37, t2], ?_⟩), RR⟩
  rw [e37]
theorem hm_all (w : mz_M) : ∀ j1, mz_Ex cd_X3_status (mz_Call 10) (fun r1 w1 => r1 = some (.int (w 36 0 + w 36 1 + w 36 2 + w 36 3 + w 36 4 + w 36 5 + w 36 6)) ∧ w1 = w) 33 [.ref 0, j1, .int (nI 0), .int (nI 0)] [] w := by
  intro j1
  have st : ∀ (n : Nat) (s : Int32) (Q : mz_Q), n < 7 → mz_Ex cd_X3_status (mz_Call 10) Q 33 [.ref 0, j1, .int (s + w 36 n), .int (nI (n + 1))] [] w → mz_Ex cd_X3_status (mz_Call 10) Q 33 [.ref 0, j1, .int s, .int (nI n)] [] w := by
    intro n s Q hn K
    refine sg_X3_status_33 ?_
    rw [nI_clamp (by omega), nI_add]
    exact ⟨fun _ => ⟨vp_in_nI hn (by decide), K⟩, fun q => absurd (nI_lt hn (by decide)) q⟩
  refine st 0 _ _ (by decide) (st 1 _ _ (by decide) (st 2 _ _ (by decide) (st 3 _ _ (by decide) (st 4 _ _ (by decide) (st 5 _ _ (by decide) (st 6 _ _ (by decide) (sg_X3_status_33 ⟨fun q => absurd q (by decide), fun _ => ⟨?_, rfl⟩⟩)))))))
  rw [show nI 0 + w 36 0 = w 36 0 from Int32.zero_add _]
theorem bo_status (R : Rel T w) (x : Int32) : Both T T 90 211 [.int x] w := by
  obtain ⟨σ, z, H, M, I, R⟩ := R
  have F := R.2.1
  by_cases c : wn x (nI 0) (nI 6)
  · have c2 : wn x (-1 : Int32) (nI 6) := ⟨fun q => c.1 (Int32.lt_trans q (by decide)), c.2⟩
    obtain ⟨k, -, hk, rfl⟩ := (wn_iff (by decide) (by decide)).mp c
    refine Both.rd (r := w 36 k) H M I R (en_X3_status (sg_X3_status_0 ⟨_, _, hm_within _ _ _, nY c, fun _ => ⟨vp_in_nI (by omega) (by decide), by rw [nI_clamp (by omega)], rfl⟩⟩)) (en_X4_status (sg_X4_status_0 ⟨_, _, mm_within _ _ _, nY c2, fun _ => ?_⟩))
    rw [nI_add]
    exact ⟨vp_in_nI (by omega) (by decide), by rw [nI_clamp (by omega), F.1 k (by omega)], rfl⟩
  · by_cases e : x = (-1 : Int32)
    · subst e
      refine Both.rd (r := w 36 0 + w 36 1 + w 36 2 + w 36 3 + w 36 4 + w 36 5 + w 36 6) H M I R (en_X3_status (sg_X3_status_0 ⟨_, _, hm_within _ _ _, fun _ => ⟨fun _ => hm_all w _, nS⟩, nN c⟩)) (en_X4_status (sg_X4_status_0 ⟨_, _, mm_within _ _ _, nY (by decide), fun _ => ?_⟩))
      rw [show (-1 : Int32) + nI 1 = nI 0 by decide, nc0, F.2, F.1 0 (by decide), F.1 1 (by decide), F.1 2 (by decide), F.1 3 (by decide), F.1 4 (by decide), F.1 5 (by decide), F.1 6 (by decide)]
      exact ⟨vp_in_nI (by decide) (by decide), rfl, rfl⟩
    · have c2 : ¬ wn x (-1 : Int32) (nI 6) := by
        rintro ⟨q1, q2⟩
        refine c ⟨fun q => ?_, q2⟩
        rw [Int32.lt_iff_toInt_lt] at q q1
        have e1 : (nI 0).toInt = 0 := by decide
        have e2 : ((-1 : Int32)).toInt = -1 := by decide
        rw [e1] at q
        rw [e2] at q1
        exact e (Int32.toInt_inj.mp (by rw [e2]; omega))
      exact Both.f0 (z7 0) H M I R (en_X3_status (sg_X3_status_0 ⟨_, _, hm_within _ _ _, fun _ => ⟨nA e, fun _ => ⟨_, _, hf0, rfl, rfl⟩⟩, nN c⟩)) (fun w1 M1 => en_X4_status (sg_X4_status_0 ⟨_, _, mm_within _ _ _, fun _ => ⟨_, _, mf0, rfl, rfl⟩, nN c2⟩))
theorem rf_held {σ : Nat → Nat} {z : Int32} (M : Ms 38 σ z w) (I : Iv T σ) (j1 : Value) : mz_Ex cd_X4_count (mz_Call 10) (fun r1 w1 => r1 = some (.int (nI (shS σ 10))) ∧ w1 = w) 96 [.ref 37, j1, .int (nI 0), .int (nI 0)] [] w := by
  have h8 := I.2.1
  have loop : ∀ k n, n + k = 10 → mz_Ex cd_X4_count (mz_Call 10) (fun r1 w1 => r1 = some (.int (nI (shS σ 10))) ∧ w1 = w) 96 [.ref 37, j1, .int (nI (shS σ n)), .int (nI n)] [] w := by
    intro k
    induction k with
    | zero =>
      intro n hn
      refine sg_X4_count_96 ?_
      rw [nI_ltI (by omega) (by omega)]
      exact ⟨fun c => absurd c (by omega), fun _ => ⟨by rw [show n = 10 by omega], rfl⟩⟩
    | succ k ih =>
      intro n hn
      have hih := ih (n + 1) (by omega)
      have hs := I.2.2.2.1 (5 + n) (by omega) (by omega)
      rw [show shS σ (n + 1) = shS σ n + (if σ (5 + n) = 0 then 0 else 1) from rfl] at hih
      refine sg_X4_count_96 ?_
      rw [nI_ltI (by omega) (by omega), nI_add, nI_clamp (by omega), M.2.2.2.2.1 (5 + n) (by omega) (by omega), nP_neg (by omega)]
      refine ⟨fun c => ⟨vp_in_nI (by omega) (by decide), fun c2 => ?_, fun c2 => ?_⟩, fun c => absurd (show n < 10 by omega) c⟩
      · rw [if_pos c2] at hih
        rw [nI_add, nI_add]
        exact hih
      · rw [if_neg c2] at hih
        rw [nI_add, nI_add]
        exact hih
  exact loop 10 0 (by omega)
theorem bo_count (R : Rel T w) (hT : T ≤ 90000) (y : Int32) : Both T T 89 210 [.int y] w := by
  obtain ⟨σ, z, H, M, I, R⟩ := R
  have h0 := I.1
  have hg := gk_le I
  obtain ⟨n, hn, t1, t2, -⟩ := R.2.2.1
  have eg : (if nI 0 < nP (gkS σ) then nP (gkS σ) else nI 0) = nI (gkS σ - 1) := by
    rcases Nat.eq_zero_or_pos (gkS σ) with q | q
    · rw [q, nP_0]; decide
    · rw [nP_pos q, n_max (by decide) (by omega), Nat.max_eq_right (Nat.zero_le _)]
  by_cases e0 : y = nI 0
  · subst e0
    exact Both.rd (r := nI (σ 0)) H M I R (en_X3_count (sg_X3_count_0 ⟨fun _ => ⟨by rw [H.2.1], rfl⟩, nS⟩)) (en_X4_count (sg_X4_count_0 ⟨fun _ => ⟨vi0, by rw [nc0, M.1], rfl⟩, nS⟩))
  by_cases e1 : y = nI 1
  · subst e1
    exact Both.rd (r := nI (σ 1)) H M I R (en_X3_count (sg_X3_count_0 ⟨nA (by decide), fun _ => ⟨fun _ => ⟨by rw [H.2.2.2.1], rfl⟩, nS⟩⟩)) (en_X4_count (sg_X4_count_0 ⟨nA (by decide), fun _ => ⟨fun _ => ⟨vi1, by rw [nc1, M.2.1], rfl⟩, nS⟩⟩))
  by_cases e2 : y = nI 2
  · subst e2
    exact Both.rd  H M I R (en_X3_count (sg_X3_count_0 ⟨nA (by decide), fun _ => ⟨nA (by decide), fun _ => ⟨fun _ => ⟨_, _, hm_clanCount (v := 1) (Or.inl rfl) H I (by decide), rfl, rfl⟩, nS⟩⟩⟩)) (en_X4_count (sg_X4_count_0 ⟨nA (by decide), fun _ => ⟨nA (by decide), fun _ => ⟨fun _ => ⟨_, _, mm_clansNow (v := 1) M I (by decide) (by decide), rfl, rfl⟩, nS⟩⟩⟩))
  by_cases e3 : y = nI 3
  · subst e3
    exact Both.rd  H M I R (en_X3_count (sg_X3_count_0 ⟨nA (by decide), fun _ => ⟨nA (by decide), fun _ => ⟨nA (by decide), fun _ => ⟨fun _ => ⟨_, _, hm_allKin (Or.inl rfl) H I, rfl, rfl⟩, nS⟩⟩⟩⟩)) (en_X4_count (sg_X4_count_0 ⟨nA (by decide), fun _ => ⟨nA (by decide), fun _ => ⟨nA (by decide), fun _ => ⟨fun _ => ⟨_, _, mm_kinAll M I, rfl, rfl⟩, nS⟩⟩⟩⟩))
  by_cases e4 : y = nI 4
  · subst e4
    exact Both.rd  H M I R (en_X3_count (sg_X3_count_0 ⟨nA (by decide), fun _ => ⟨nA (by decide), fun _ => ⟨nA (by decide), fun _ => ⟨nA (by decide), fun _ => ⟨fun _ => ⟨_, _, hm_greatestKin (Or.inl rfl) H I, rfl, rfl⟩, nS⟩⟩⟩⟩⟩)) (en_X4_count (sg_X4_count_0 ⟨nA (by decide), fun _ => ⟨nA (by decide), fun _ => ⟨nA (by decide), fun _ => ⟨nA (by decide), fun _ => ⟨fun _ => ⟨_, _, mm_greatest M I, by rw [eg], rfl⟩, nS⟩⟩⟩⟩⟩))
  by_cases e5 : y = nI 5
  · subst e5
    exact Both.rd (r := nI n) H M I R (en_X3_count (sg_X3_count_0 ⟨nA (by decide), fun _ => ⟨nA (by decide), fun _ => ⟨nA (by decide), fun _ => ⟨nA (by decide), fun _ => ⟨nA (by decide), fun _ => ⟨fun _ => ⟨by rw [t1], rfl⟩, nS⟩⟩⟩⟩⟩⟩)) (en_X4_count (sg_X4_count_0 ⟨nA (by decide), fun _ => ⟨nA (by decide), fun _ => ⟨nA (by decide), fun _ => ⟨nA (by decide), fun _ => ⟨nA (by decide), fun _ => ⟨fun _ => ⟨by rw [t2], rfl⟩, nS⟩⟩⟩⟩⟩⟩))
  by_cases e6 : y = nI 6
  · subst e6
    exact Both.rd (r := z) H M I R (en_X3_count (sg_X3_count_0 ⟨nA (by decide), fun _ => ⟨nA (by decide), fun _ => ⟨nA (by decide), fun _ => ⟨nA (by decide), fun _ => ⟨nA (by decide), fun _ => ⟨nA (by decide), fun _ => ⟨fun _ => ⟨by rw [H.2.2.2.2.1], rfl⟩, nS⟩⟩⟩⟩⟩⟩⟩)) (en_X4_count (sg_X4_count_0 ⟨nA (by decide), fun _ => ⟨nA (by decide), fun _ => ⟨nA (by decide), fun _ => ⟨nA (by decide), fun _ => ⟨nA (by decide), fun _ => ⟨nA (by decide), fun _ => ⟨fun _ => ⟨vi2, by rw [nc2, M.2.2.1], rfl⟩, nS⟩⟩⟩⟩⟩⟩⟩))
  by_cases e7 : y = nI 7
  · subst e7
    exact Both.rd  H M I R (en_X3_count (sg_X3_count_0 ⟨nA (by decide), fun _ => ⟨nA (by decide), fun _ => ⟨nA (by decide), fun _ => ⟨nA (by decide), fun _ => ⟨nA (by decide), fun _ => ⟨nA (by decide), fun _ => ⟨nA (by decide), fun _ => ⟨fun _ => ⟨_, _, hm_spotsHeld (Or.inl rfl) H I, rfl, rfl⟩, nS⟩⟩⟩⟩⟩⟩⟩⟩)) (en_X4_count (sg_X4_count_0 ⟨nA (by decide), fun _ => ⟨nA (by decide), fun _ => ⟨nA (by decide), fun _ => ⟨nA (by decide), fun _ => ⟨nA (by decide), fun _ => ⟨nA (by decide), fun _ => ⟨nA (by decide), fun _ => ⟨fun _ => rf_held M I _, nS⟩⟩⟩⟩⟩⟩⟩⟩))
  exact Both.f0 (z7 0) H M I R (en_X3_count (sg_X3_count_0 ⟨nA e0, fun _ => ⟨nA e1, fun _ => ⟨nA e2, fun _ => ⟨nA e3, fun _ => ⟨nA e4, fun _ => ⟨nA e5, fun _ => ⟨nA e6, fun _ => ⟨nA e7, fun _ => ⟨_, _, hf0, rfl, rfl⟩⟩⟩⟩⟩⟩⟩⟩⟩)) (fun w1 M1 => en_X4_count (sg_X4_count_0 ⟨nA e0, fun _ => ⟨nA e1, fun _ => ⟨nA e2, fun _ => ⟨nA e3, fun _ => ⟨nA e4, fun _ => ⟨nA e5, fun _ => ⟨nA e6, fun _ => ⟨nA e7, fun _ => ⟨_, _, mf0, rfl, rfl⟩⟩⟩⟩⟩⟩⟩⟩⟩))
end PZ
