/-! public methods of both sides: what is so -/
theorem nY {p : Prop} [Decidable p] {C : Prop} (h : p) (q : nB p = nI 0) : C := absurd h (nB_0.mp q)
theorem nN {p : Prop} [Decidable p] {C : Prop} (h : ¬ p) (q : ¬ nB p = nI 0) : C := absurd (nB_f h) q
section PU
variable {d : Nat} {w : mz_M} {T : Nat}
theorem hf0 : mz_Call (d + 2) 91 [.ref 0, .int (-1000001 : Int32)] w (some (.int (fnd 0))) (cfW 0 w) := by
  have h := hm_finding (d := d) (w := w) (i := 0) (by decide); rwa [← fnd_0] at h ⊢
theorem hf1 : mz_Call (d + 2) 91 [.ref 0, .int (-1000002 : Int32)] w (some (.int (fnd 1))) (cfW 1 w) := by
  have h := hm_finding (d := d) (w := w) (i := 1) (by decide); rwa [← fnd_1] at h ⊢
theorem hf2 : mz_Call (d + 2) 91 [.ref 0, .int (-1000003 : Int32)] w (some (.int (fnd 2))) (cfW 2 w) := by
  have h := hm_finding (d := d) (w := w) (i := 2) (by decide); rwa [← fnd_2] at h ⊢
theorem hf3 : mz_Call (d + 2) 91 [.ref 0, .int (-1000004 : Int32)] w (some (.int (fnd 3))) (cfW 3 w) := by
  have h := hm_finding (d := d) (w := w) (i := 3) (by decide); rwa [← fnd_3] at h ⊢
theorem hf4 : mz_Call (d + 2) 91 [.ref 0, .int (-1000005 : Int32)] w (some (.int (fnd 4))) (cfW 4 w) := by
  have h := hm_finding (d := d) (w := w) (i := 4) (by decide); rwa [← fnd_4] at h ⊢
theorem hf5 : mz_Call (d + 2) 91 [.ref 0, .int (-1000006 : Int32)] w (some (.int (fnd 5))) (cfW 5 w) := by
  have h := hm_finding (d := d) (w := w) (i := 5) (by decide); rwa [← fnd_5] at h ⊢
theorem hf6 : mz_Call (d + 2) 91 [.ref 0, .int (-1000007 : Int32)] w (some (.int (fnd 6))) (cfW 6 w) := by
  have h := hm_finding (d := d) (w := w) (i := 6) (by decide); rwa [← fnd_6] at h ⊢
theorem mf0 : mz_Call (d + 1) 107 [.ref 37, .int (-1000001 : Int32)] w (some (.int (fnd 0))) (mfW 0 w) := by
  have h := mm_finding (d := d) (w := w) (i := 0) (by decide); rwa [← fnd_0] at h ⊢
theorem mf1 : mz_Call (d + 1) 107 [.ref 37, .int (-1000002 : Int32)] w (some (.int (fnd 1))) (mfW 1 w) := by
  have h := mm_finding (d := d) (w := w) (i := 1) (by decide); rwa [← fnd_1] at h ⊢
theorem mf2 : mz_Call (d + 1) 107 [.ref 37, .int (-1000003 : Int32)] w (some (.int (fnd 2))) (mfW 2 w) := by
  have h := mm_finding (d := d) (w := w) (i := 2) (by decide); rwa [← fnd_2] at h ⊢
theorem mf3 : mz_Call (d + 1) 107 [.ref 37, .int (-1000004 : Int32)] w (some (.int (fnd 3))) (mfW 3 w) := by
  have h := mm_finding (d := d) (w := w) (i := 3) (by decide); rwa [← fnd_3] at h ⊢
theorem mf4 : mz_Call (d + 1) 107 [.ref 37, .int (-1000005 : Int32)] w (some (.int (fnd 4))) (mfW 4 w) := by
  have h := mm_finding (d := d) (w := w) (i := 4) (by decide); rwa [← fnd_4] at h ⊢
theorem mf5 : mz_Call (d + 1) 107 [.ref 37, .int (-1000006 : Int32)] w (some (.int (fnd 5))) (mfW 5 w) := by
  have h := mm_finding (d := d) (w := w) (i := 5) (by decide); rwa [← fnd_5] at h ⊢
theorem mf6 : mz_Call (d + 1) 107 [.ref 37, .int (-1000007 : Int32)] w (some (.int (fnd 6))) (mfW 6 w) := by
  have h := mm_finding (d := d) (w := w) (i := 6) (by decide); rwa [← fnd_6] at h ⊢
theorem z7 (i : Nat) (h : i < 7 := by decide) : i < 7 := h
theorem bo_damp (R : Rel T w) (x : Int32) : Both T T 46 115 [.int x] w := by
  obtain ⟨σ, z, H, M, I, R⟩ := R
  by_cases c : wn x (nI 0) (nI 9)
  · obtain ⟨k, -, hk, rfl⟩ := (wn_iff (by decide) (by decide)).mp c
    refine Both.ok M R (Nat.le_refl _) (I.put (k := 3) (v := k) (Or.inl ⟨rfl, hk⟩)) ⟨_, en_X3_damp (sg_X3_damp_0 ⟨_, _, hm_within _ _ _, nY c, fun _ => ⟨rfl, rfl⟩⟩), H.damp k, Fr.up (by omega)⟩ (fun w1 M1 => ⟨_, en_X4_damp (sg_X4_damp_0 ⟨_, _, mm_within _ _ _, nY c, fun _ => ⟨_, _, en_X4_become (sg_X4_become_0 ⟨vi3, vi3, rfl, rfl⟩), ?_, rfl⟩⟩), ?_, ?_⟩)
    · rw [nc3, M1.2.2.2.1, H.1]
    · rw [nc3]; exact M1.damp
    · exact Fr.up (by omega)
  · exact Both.f0 (z7 0) H M I R (en_X3_damp (sg_X3_damp_0 ⟨_, _, hm_within _ _ _, fun _ => ⟨_, _, hf0, rfl, rfl⟩, nN c⟩)) (fun w1 M1 => en_X4_damp (sg_X4_damp_0 ⟨_, _, mm_within _ _ _, fun _ => ⟨_, _, mf0, rfl, rfl⟩, nN c⟩))
theorem bo_list (R : Rel T w) (x y : Int32) : Both T T 47 118 [.int x, .int y] w := by
  obtain ⟨σ, z, H, M, I, R⟩ := R
  by_cases c : wn x (nI 0) (nI 5)
  · by_cases c2 : wn y (nI 0) (nI 255)
    · obtain ⟨k, -, hk, rfl⟩ := (wn_iff (by decide) (by decide)).mp c
      obtain ⟨v, -, hv, rfl⟩ := (wn_iff (by decide) (by decide)).mp c2
      have hin : vp_in (nI k) 6 := vp_in_nI (by omega) (by decide)
      refine Both.ok (z' := z) M R (Nat.le_refl _) (I.put (k := 15 + k) (v := v) (by omega)) ⟨_, en_X3_list (sg_X3_list_0 ⟨_, _, hm_within _ _ _, nY c, fun _ => ⟨_, _, hm_within _ _ _, nY c2, fun _ => ⟨hin, hin, rfl, rfl⟩⟩⟩), ?_, Fr.up (by omega)⟩ (fun w1 M1 => ?_)
      · rw [nI_clamp (by omega)]; exact H.list (by omega) v
      · obtain ⟨w2, q1, q2, q3⟩ := mm_become (d := 9) M1 (j := 15 + k) (v := v) (by omega) (by omega)
        refine ⟨w2, en_X4_list (sg_X4_list_0 ⟨_, _, mm_isPlace _, nY c, fun _ => ⟨_, _, mm_isSet _, nY c2, fun _ => ⟨_, _, by rw [nI_add]; exact q1, ?_, rfl⟩⟩⟩), q2, q3.mono (by omega)⟩
        rw [nI_clamp (by omega), H.2.2.2.2.2.1 k (by omega)]
    · exact Both.f0 (z7 0) H M I R (en_X3_list (sg_X3_list_0 ⟨_, _, hm_within _ _ _, nY c, fun _ => ⟨_, _, hm_within _ _ _, fun _ => ⟨_, _, hf0, rfl, rfl⟩, nN c2⟩⟩)) (fun w1 M1 => en_X4_list (sg_X4_list_0 ⟨_, _, mm_isPlace _, nY c, fun _ => ⟨_, _, mm_isSet _, fun _ => ⟨_, _, mf0, rfl, rfl⟩, nN c2⟩⟩))
  · exact Both.f0 (z7 0) H M I R (en_X3_list (sg_X3_list_0 ⟨_, _, hm_within _ _ _, fun _ => ⟨_, _, hf0, rfl, rfl⟩, nN c⟩)) (fun w1 M1 => en_X4_list (sg_X4_list_0 ⟨_, _, mm_isPlace _, fun _ => ⟨_, _, mf0, rfl, rfl⟩, nN c⟩))
theorem bo_listed (R : Rel T w) (x : Int32) : Both T T 48 119 [.int x] w := by
  obtain ⟨σ, z, H, M, I, R⟩ := R
  by_cases c : wn x (nI 0) (nI 5)
  · obtain ⟨k, -, hk, rfl⟩ := (wn_iff (by decide) (by decide)).mp c
    refine Both.rd (r := nI (σ (15 + k))) H M I R (en_X3_listed (sg_X3_listed_0 ⟨_, _, hm_within _ _ _, nY c, fun _ => ⟨vp_in_nI (by omega) (by decide), ?_, rfl⟩⟩)) (en_X4_listed (sg_X4_listed_0 ⟨_, _, mm_isPlace _, nY c, fun _ => ?_⟩))
    · rw [nI_clamp (by omega), H.2.2.2.2.2.1 k (by omega)]
    · rw [nI_add]
      refine ⟨vp_in_nI (by omega) (by decide), ?_, rfl⟩
      rw [nI_clamp (by omega), M.2.2.2.2.2 _ (by omega) (by omega)]
  · exact Both.f0 (z7 0) H M I R (en_X3_listed (sg_X3_listed_0 ⟨_, _, hm_within _ _ _, fun _ => ⟨_, _, hf0, rfl, rfl⟩, nN c⟩)) (fun w1 M1 => en_X4_listed (sg_X4_listed_0 ⟨_, _, mm_isPlace _, fun _ => ⟨_, _, mf0, rfl, rfl⟩, nN c⟩))
theorem bo_kin (R : Rel T w) (x y : Int32) : Both T T 52 138 [.int x, .int y] w := by
  obtain ⟨σ, z, H, M, I, R⟩ := R
  by_cases c : is2 (σ 1) x y
  · obtain ⟨a, b, ha, hb, hab, rfl, rfl⟩ := (is2_iff I.2.1).mp c
    have h8 := I.2.1
    exact Both.rd H M I R (en_X3_kin (sg_X3_kin_0 ⟨_, _, hm_areTwo H _ _, nY c, fun _ => ⟨_, _, hm_kinOf (Or.inl rfl) H (by omega) (by omega), rfl, rfl⟩⟩)) (en_X4_kin (sg_X4_kin_0 ⟨_, _, mm_areTwo M _ _, nY c, fun _ => ⟨_, _, mm_kinOf M (by omega) (by omega), rfl, rfl⟩⟩))
  · exact Both.f0 (z7 0) H M I R (en_X3_kin (sg_X3_kin_0 ⟨_, _, hm_areTwo H _ _, fun _ => ⟨_, _, hf0, rfl, rfl⟩, nN c⟩)) (fun w1 M1 => en_X4_kin (sg_X4_kin_0 ⟨_, _, mm_areTwo M1 _ _, fun _ => ⟨_, _, mf0, rfl, rfl⟩, nN c⟩))
theorem kS_comm (σ : Nat → Nat) (a b v : Nat) : kS σ a b v = kS σ b a v := by
  funext j
  unfold kS su
  by_cases c1 : j = 37 + 8 * b + a
  · rw [if_pos c1]
    by_cases c2 : j = 37 + 8 * a + b
    · rw [if_pos c2]
    · rw [if_neg c2, if_pos c1]
  · rw [if_neg c1]
    by_cases c2 : j = 37 + 8 * a + b
    · rw [if_pos c2, if_pos c2]
    · rw [if_neg c2, if_neg c2, if_neg c1]
theorem bo_make (R : Rel T w) (x y v : Int32) : Both T T 53 139 [.int x, .int y, .int v] w := by
  obtain ⟨σ, z, H, M, I, R⟩ := R
  by_cases c : is2 (σ 1) x y
  · by_cases c2 : wn v (nI 0) (nI 999)
    · obtain ⟨a, b, ha, hb, hab, rfl, rfl⟩ := (is2_iff I.2.1).mp c
      obtain ⟨k, -, hk, rfl⟩ := (wn_iff (by decide) (by decide)).mp c2
      have h8 := I.2.1
      refine Both.ok (r := nI (σ (37 + 8 * a + b))) (σ' := kS σ a b k) (z' := z) M R (Nat.le_refl _) (I.kin (by omega) (by omega) hab hk) ?_ (fun w1 M1 => ?_)
      · obtain ⟨w2, q1, q2, q3⟩ := hm_relate (d := 9) (Or.inl rfl) H (a := a) (b := b) (v := k) (by omega) (by omega)
        exact ⟨w2, en_X3_make (sg_X3_make_0 ⟨_, _, hm_areTwo H _ _, nY c, fun _ => ⟨_, _, hm_isKin _, nY c2, fun _ => ⟨_, _, hm_kinOf (Or.inl rfl) H (by omega) (by omega), w2, q1, rfl, rfl⟩⟩⟩), q2, q3.mono (by omega)⟩
      · obtain ⟨w2, q1, q2, q3⟩ := mm_makeKin (d := 8) M1 (a := a) (b := b) (v := k) (by omega) (by omega) hab
        rw [← kS_comm] at q2
        exact ⟨w2, en_X4_make (sg_X4_make_0 ⟨_, _, mm_areTwo M1 _ _, nY c, fun _ => ⟨_, _, mm_isKin _, nY c2, fun _ => ⟨_, _, q1, rfl, rfl⟩⟩⟩), q2, q3.mono (by omega)⟩
    · exact Both.f0 (z7 0) H M I R (en_X3_make (sg_X3_make_0 ⟨_, _, hm_areTwo H _ _, nY c, fun _ => ⟨_, _, hm_isKin _, fun _ => ⟨_, _, hf0, rfl, rfl⟩, nN c2⟩⟩)) (fun w1 M1 => en_X4_make (sg_X4_make_0 ⟨_, _, mm_areTwo M1 _ _, nY c, fun _ => ⟨_, _, mm_isKin _, fun _ => ⟨_, _, mf0, rfl, rfl⟩, nN c2⟩⟩))
  · exact Both.f0 (z7 0) H M I R (en_X3_make (sg_X3_make_0 ⟨_, _, hm_areTwo H _ _, fun _ => ⟨_, _, hf0, rfl, rfl⟩, nN c⟩)) (fun w1 M1 => en_X4_make (sg_X4_make_0 ⟨_, _, mm_areTwo M1 _ _, fun _ => ⟨_, _, mf0, rfl, rfl⟩, nN c⟩))
theorem bo_clans (R : Rel T w) (v : Int32) : Both T T 58 153 [.int v] w := by
  obtain ⟨σ, z, H, M, I, R⟩ := R
  by_cases c : wn v (nI 1) (nI 999)
  · obtain ⟨k, hk1, hk, rfl⟩ := (wn_iff (by decide) (by decide)).mp c
    exact Both.rd H M I R (en_X3_clans (sg_X3_clans_0 ⟨_, _, hm_isNearness _, nY c, fun _ => ⟨_, _, hm_clanCount (Or.inl rfl) H I hk, rfl, rfl⟩⟩)) (en_X4_clans (sg_X4_clans_0 ⟨_, _, mm_isNear _, nY c, fun _ => ⟨_, _, mm_clansNow M I hk hk1, rfl, rfl⟩⟩))
  · exact Both.f0 (z7 0) H M I R (en_X3_clans (sg_X3_clans_0 ⟨_, _, hm_isNearness _, fun _ => ⟨_, _, hf0, rfl, rfl⟩, nN c⟩)) (fun w1 M1 => en_X4_clans (sg_X4_clans_0 ⟨_, _, mm_isNear _, fun _ => ⟨_, _, mf0, rfl, rfl⟩, nN c⟩))
theorem bo_clan (R : Rel T w) (x v : Int32) : Both T T 59 154 [.int x, .int v] w := by
  obtain ⟨σ, z, H, M, I, R⟩ := R
  by_cases c : isP (σ 1) x
  · by_cases c2 : wn v (nI 1) (nI 999)
    · obtain ⟨p, hp, rfl⟩ := (isP_iff I.2.1).mp c
      obtain ⟨k, hk1, hk, rfl⟩ := (wn_iff (by decide) (by decide)).mp c2
      exact Both.rd H M I R (en_X3_clan (sg_X3_clan_0 ⟨_, _, hm_isThere H _, nY c, fun _ => ⟨_, _, hm_isNearness _, nY c2, fun _ => ⟨_, _, hm_clanOf (Or.inl rfl) H I hp hk, rfl, rfl⟩⟩⟩)) (en_X4_clan (sg_X4_clan_0 ⟨_, _, mm_isPerson M _, nY c, fun _ => ⟨_, _, mm_isNear _, nY c2, fun _ => ⟨_, _, mm_clanOf M I hp hk hk1, rfl, rfl⟩⟩⟩))
    · exact Both.f0 (z7 0) H M I R (en_X3_clan (sg_X3_clan_0 ⟨_, _, hm_isThere H _, nY c, fun _ => ⟨_, _, hm_isNearness _, fun _ => ⟨_, _, hf0, rfl, rfl⟩, nN c2⟩⟩)) (fun w1 M1 => en_X4_clan (sg_X4_clan_0 ⟨_, _, mm_isPerson M1 _, nY c, fun _ => ⟨_, _, mm_isNear _, fun _ => ⟨_, _, mf0, rfl, rfl⟩, nN c2⟩⟩))
  · exact Both.f0 (z7 0) H M I R (en_X3_clan (sg_X3_clan_0 ⟨_, _, hm_isThere H _, fun _ => ⟨_, _, hf0, rfl, rfl⟩, nN c⟩)) (fun w1 M1 => en_X4_clan (sg_X4_clan_0 ⟨_, _, mm_isPerson M1 _, fun _ => ⟨_, _, mf0, rfl, rfl⟩, nN c⟩))
theorem bo_seed (R : Rel T w) (x : Int32) : Both T T 75 180 [.int x] w := by
  obtain ⟨σ, z, H, M, I, R⟩ := R
  refine Both.ok (r := z) M R (Nat.le_refl _) I ⟨_, en_X3_seed (sg_X3_seed_0 ⟨?_, rfl⟩), H.draw x, Fr.up (by omega)⟩ (fun w1 M1 => ⟨_, en_X4_seed (sg_X4_seed_0 ⟨_, _, en_X4_become (sg_X4_become_0 ⟨vi2, vi2, rfl, rfl⟩), ?_, rfl⟩), ?_, ?_⟩)
  · rw [H.2.2.2.2.1]
  · rw [nc2, M1.2.2.1]
  · rw [nc2]; exact M1.draw
  · exact Fr.up (by omega)
end PU
