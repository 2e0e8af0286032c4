/-! odds, write -/
theorem isN_iff {x : Int32} {n : Nat} (h : n ≤ 1000) : wn x (nI 0) (nI n - nI 1) ↔ ∃ k, k < n ∧ x = nI k := by
  rcases Nat.eq_zero_or_pos n with q | q
  · subst q
    constructor
    · rintro ⟨h1, h2⟩
      rw [Int32.lt_iff_toInt_lt] at h1 h2
      have e1 : (nI 0).toInt = 0 := by decide
      have e2 : (nI 0 - nI 1).toInt = -1 := by decide
      rw [e1] at h1
      rw [e2] at h2
      omega
    · rintro ⟨k, h1, -⟩
      omega
  · rw [pk_sub q, wn_iff (by decide) (by omega)]
    constructor
    · rintro ⟨k, h1, h2, h3⟩
      exact ⟨k, by omega, h3⟩
    · rintro ⟨k, h1, h2⟩
      exact ⟨k, by omega, by omega, h2⟩
section WR
variable {d : Nat} {w : mz_M} {T h : Nat} {σ : Nat → Nat} {z : Int32}
theorem bo_odds (R : Rel T w) (x y v : Int32) : ∃ (r : Int64) (w1 w2 : mz_M), mz_Call 11 74 [.ref 0, .int x, .int y, .int v] w (some (.long r)) w1 ∧ mz_Call 11 179 [.ref 37, .int x, .int y, .int v] w1 (some (.long r)) w2 ∧ Rel T w2 := by
  have RF := R.find (i := 0) (by decide)
  obtain ⟨σ, z, H, M, I, R⟩ := id R
  have M1 : Ms 38 σ z (cfW 0 w) := M.fr (by unfold cfW; rw [mu_n (by decide)])
  by_cases c : isP (σ 1) x
  · by_cases c2 : wn y (nI 0) (nI 40)
    · by_cases c3 : wn v (nI 0) (nI 1)
      · by_cases e : v = nI 0
        · exact ⟨_, _, _, en_X3_odds (sg_X3_odds_0 ⟨_, _, hm_isThere H _, nY c, fun _ => ⟨_, _, hm_within _ _ _, nY c2, fun _ => ⟨_, _, hm_within _ _ _, nY c3, fun _ => ⟨fun _ => ⟨rfl, rfl⟩, nA2 e⟩⟩⟩⟩), en_X4_odds (sg_X4_odds_0 ⟨_, _, mm_isPerson M _, nY c, fun _ => ⟨_, _, mm_within _ _ _, nY c2, fun _ => ⟨_, _, mm_within _ _ _, nY c3, fun _ => ⟨fun _ => ⟨rfl, rfl⟩, nA2 e⟩⟩⟩⟩), σ, z, H, M, I, R⟩
        · exact ⟨_, _, _, en_X3_odds (sg_X3_odds_0 ⟨_, _, hm_isThere H _, nY c, fun _ => ⟨_, _, hm_within _ _ _, nY c2, fun _ => ⟨_, _, hm_within _ _ _, nY c3, fun _ => ⟨nA e, fun _ => ⟨rfl, rfl⟩⟩⟩⟩⟩), en_X4_odds (sg_X4_odds_0 ⟨_, _, mm_isPerson M _, nY c, fun _ => ⟨_, _, mm_within _ _ _, nY c2, fun _ => ⟨_, _, mm_within _ _ _, nY c3, fun _ => ⟨nA e, fun _ => ⟨rfl, rfl⟩⟩⟩⟩⟩), σ, z, H, M, I, R⟩
      · exact ⟨_, _, _, en_X3_odds (sg_X3_odds_0 ⟨_, _, hm_isThere H _, nY c, fun _ => ⟨_, _, hm_within _ _ _, nY c2, fun _ => ⟨_, _, hm_within _ _ _, fun _ => ⟨_, _, hf0, rfl, rfl⟩, nN c3⟩⟩⟩), en_X4_odds (sg_X4_odds_0 ⟨_, _, mm_isPerson M1 _, nY c, fun _ => ⟨_, _, mm_within _ _ _, nY c2, fun _ => ⟨_, _, mm_within _ _ _, fun _ => ⟨_, _, mf0, rfl, rfl⟩, nN c3⟩⟩⟩), RF⟩
    · exact ⟨_, _, _, en_X3_odds (sg_X3_odds_0 ⟨_, _, hm_isThere H _, nY c, fun _ => ⟨_, _, hm_within _ _ _, fun _ => ⟨_, _, hf0, rfl, rfl⟩, nN c2⟩⟩), en_X4_odds (sg_X4_odds_0 ⟨_, _, mm_isPerson M1 _, nY c, fun _ => ⟨_, _, mm_within _ _ _, fun _ => ⟨_, _, mf0, rfl, rfl⟩, nN c2⟩⟩), RF⟩
  · exact ⟨_, _, _, en_X3_odds (sg_X3_odds_0 ⟨_, _, hm_isThere H _, fun _ => ⟨_, _, hf0, rfl, rfl⟩, nN c⟩), en_X4_odds (sg_X4_odds_0 ⟨_, _, mm_isPerson M1 _, fun _ => ⟨_, _, mf0, rfl, rfl⟩, nN c⟩), RF⟩
/-- a number cut to a width -/
def ctS (b v : Int32) : Int32 := if b = nI 8 then v.toInt8.toInt32 else if b = nI 16 then v.toInt16.toInt32 else v
theorem mm_cutTo (v b : Int32) : mz_Call (d + 1) 199 [.int v, .int b] w (some (.int (ctS b v))) w := by
  refine en_X4_cutTo (sg_X4_cutTo_0 ⟨fun c => ⟨?_, rfl⟩, fun c => ⟨fun c2 => ⟨?_, rfl⟩, fun c2 => ⟨?_, rfl⟩⟩⟩)
  · unfold ctS; rw [if_pos c]
  · unfold ctS; rw [if_neg c, if_pos c2]
  · unfold ctS; rw [if_neg c, if_neg c2]
theorem hm_enter {s i : Nat} (hs : s < 4) (hi : i < 40) (v : Int32) : mz_Call (d + 1) 31 [.ref (28 + 2 * s), .int (nI i), .int v] w none (mz_up w (28 + 2 * s + 1) (upd (w (28 + 2 * s + 1)) i (ctS (w (28 + 2 * s) 0) v))) := by
  refine en_X1_enter (sg_X1_enter_0 (hk4 hs) ?_)
  rw [nI_clamp (by omega)]
  have hin : vp_in (nI i) 40 := vp_in_nI hi (by decide)
  refine ⟨fun c => ⟨hin, rfl, ?_⟩, fun c => ⟨fun c2 => ⟨hin, rfl, ?_⟩, fun c2 => ⟨hin, rfl, ?_⟩⟩⟩
  · unfold ctS; rw [if_pos c]
  · unfold ctS; rw [if_neg c, if_pos c2]
  · unfold ctS; rw [if_neg c, if_neg c2]
theorem ShtR.put (R : ShtR w) {s i : Nat} (hs : s < 4) (hi : i < 40) (c : Int32) {w2 : mz_M} (e : ∀ k, k ≠ 29 + 2 * s → k ≠ 49 → w2 k = w k) (e1 : w2 (29 + 2 * s) = upd (w (29 + 2 * s)) i c) (e2 : w2 49 = upd (w 49) (40 * s + i) c) : ShtR w2 := by
  intro s' hs'
  obtain ⟨a, b, n, f, g⟩ := R s' hs'
  rw [e (28 + 2 * s') (by omega) (by omega), e 47 (by omega) (by omega), e 48 (by omega) (by omega)]
  refine ⟨a, b, n, f, fun j hj => ?_⟩
  rw [e2]
  by_cases q : s' = s
  · subst q
    rw [e1]
    by_cases q2 : j = i
    · subst q2
      rw [pk_us, pk_us]
    · have q3 : ∀ f a, upd f i a j = f j := fun f a => by rw [pk_un q2]
      have q4 : ∀ f a, upd f (40 * s' + i) a (40 * s' + j) = f (40 * s' + j) := fun f a => by rw [pk_un (show 40 * s' + j ≠ 40 * s' + i by omega)]
      rw [q3, q4]
      exact g j hj
  · rw [e (29 + 2 * s') (by omega) (by omega), pk_un (by omega)]
    exact g j hj
theorem bo_write (R : Rel T w) (x y v : Int32) : Both T T 82 201 [.int x, .int y, .int v] w := by
  obtain ⟨σ, z, H, M, I, R⟩ := R
  by_cases c : wn x (nI 0) (nI 3)
  · obtain ⟨s, -, hs, rfl⟩ := (wn_iff (by decide) (by decide)).mp c
    obtain ⟨s1, s2, ⟨n, hn, s3⟩, s4, s5⟩ := R.2.2.2 s (by omega)
    have ke : (nI s).toNatClampNeg = s := nI_clamp (by omega)
    by_cases q : w 47 s = nI 0
    · refine Both.f0F (z7 5) H M I R (en_X3_write (sg_X3_write_0 ⟨_, _, sf_m (by omega) (by rw [s1]; exact q), nA fq5, fun _ => ⟨_, _, hf5, rfl, rfl⟩⟩)) (fun w1 M1 F1 => en_X4_write (sg_X4_write_0 ⟨_, _, mm_isSheet _, nY c, fun _ => ?_⟩))
      rw [ke, F1 47 (by omega) (by decide)]
      exact ⟨vi4s (by omega), fun _ => ⟨_, _, mf5, rfl, rfl⟩, fun p => absurd q p⟩
    · by_cases c2 : wn y (nI 0) (nI n - nI 1)
      · obtain ⟨i, hi, rfl⟩ := (isN_iff (by omega)).mp c2
        have e49 : mz_up w (28 + 2 * s + 1) (upd (w (28 + 2 * s + 1)) i (ctS (w (28 + 2 * s) 0) v)) 49 = w 49 := mu_n (by omega)
        have e47 : mz_up w (28 + 2 * s + 1) (upd (w (28 + 2 * s + 1)) i (ctS (w (28 + 2 * s) 0) v)) 47 = w 47 := mu_n (by omega)
        have e48 : mz_up w (28 + 2 * s + 1) (upd (w (28 + 2 * s + 1)) i (ctS (w (28 + 2 * s) 0) v)) 48 = w 48 := mu_n (by omega)
        have e : ∀ k, k ≠ 29 + 2 * s → k ≠ 49 → mz_up (mz_up w (28 + 2 * s + 1) (upd (w (28 + 2 * s + 1)) i (ctS (w (28 + 2 * s) 0) v))) 49 (upd (w 49) (40 * s + i) (ctS (w 47 s) v)) k = w k := fun k p1 p2 => by rw [mu_n p2, mu_n (by omega)]
        refine ⟨nI 1, mz_up w (28 + 2 * s + 1) (upd (w (28 + 2 * s + 1)) i (ctS (w (28 + 2 * s) 0) v)), mz_up (mz_up w (28 + 2 * s + 1) (upd (w (28 + 2 * s + 1)) i (ctS (w (28 + 2 * s) 0) v))) 49 (upd (w 49) (40 * s + i) (ctS (w 47 s) v)), en_X3_write (sg_X3_write_0 ⟨_, _, sf_o (by omega) (by rw [s1]; exact q), fun _ => ⟨vi4s (by omega), ?_⟩, nS⟩), en_X4_write (sg_X4_write_0 ⟨_, _, mm_isSheet _, nY c, fun _ => ?_⟩), σ, z, H.fr (fun k p1 p2 => e k (by omega) (by omega)), M.fr (e 38 (by omega) (by omega)), I, R.1.fr (fun k p => e k (by omega) (by omega)) (by rw [e 37 (by omega) (by omega)]), R.2.1.fr (e 36 (by omega) (by omega)) (e 41 (by omega) (by omega)), R.2.2.1.fr (by rw [e 25 (by omega) (by omega)]) (e 26 (by omega) (by omega)) (e 44 (by omega) (by omega)) (by rw [e 37 (by omega) (by omega)]), R.2.2.2.put (s := s) (i := i) (by omega) (by omega) (ctS (w 47 s) v) e ?_ (by rw [mu_s])⟩
        · rw [ke, gd4 s (by omega)]
          refine sg_X3_write_27 (hk4 (by omega)) ?_
          rw [s2, s3, ke, gd4 s (by omega)]
          exact ⟨_, _, hm_within _ _ _, nY c2, fun _ => ⟨vi4s (by omega), sg_X3_write_51 (hk4 (by omega)) ⟨_, hm_enter (by omega) (by omega) v, rfl, rfl⟩⟩⟩
        · rw [ke, e47, e48, s3]
          refine ⟨vi4s (by omega), fun p => absurd p q, fun _ => ⟨vi4s (by omega), _, _, mm_within _ _ _, nY c2, fun _ => ⟨vi4s (by omega), ?_⟩⟩⟩
          rw [e47, pk_mul, nI_add, nI_clamp (n := 40 * s + i) (by omega)]
          exact ⟨_, _, mm_cutTo _ _, vp_in_nI (by omega) (by decide), rfl, by rw [e49]⟩
        · rw [mu_n (by omega), show 29 + 2 * s = 28 + 2 * s + 1 by omega, mu_s, s1]
      · refine Both.f0F (z7 0) H M I R (en_X3_write (sg_X3_write_0 ⟨_, _, sf_o (by omega) (by rw [s1]; exact q), fun _ => ⟨vi4s (by omega), ?_⟩, nS⟩)) (fun w1 M1 F1 => en_X4_write (sg_X4_write_0 ⟨_, _, mm_isSheet _, nY c, fun _ => ?_⟩))
        · rw [ke, gd4 s (by omega)]
          refine sg_X3_write_27 (hk4 (by omega)) ?_
          rw [s2, s3]
          exact ⟨_, _, hm_within _ _ _, fun _ => ⟨_, _, hf0, rfl, rfl⟩, nN c2⟩
        · rw [ke, F1 47 (by omega) (by decide), F1 48 (by omega) (by decide), s3]
          exact ⟨vi4s (by omega), fun p => absurd p q, fun _ => ⟨vi4s (by omega), _, _, mm_within _ _ _, fun _ => ⟨_, _, mf0, rfl, rfl⟩, nN c2⟩⟩
  · exact Both.f0 (z7 0) H M I R (en_X3_write (sg_X3_write_0 ⟨_, _, sf_b c, nA fq0, fun _ => ⟨_, _, hf0, rfl, rfl⟩⟩)) (fun w1 M1 => en_X4_write (sg_X4_write_0 ⟨_, _, mm_isSheet _, fun _ => ⟨_, _, mf0, rfl, rfl⟩, nN c⟩))
end WR
