/-! as: whether a kind is under another one -/
/-- 1 more than the kind that it is under; 0 ends -/
def ab1 : Nat → Nat
  | 0 => 0
  | 1 => 1
  | 2 => 1
  | 3 => 3
  | 4 => 4
  | 5 => 1
  | _ => 2
def unN (u : Nat) : Nat → Nat → Bool
  | 0, _ => false
  | _ + 1, 0 => false
  | n + 1, a + 1 => if a = u then true else unN u n (ab1 a)
def unB (u a : Nat) : Bool := unN u 7 a
theorem un_0 (u : Nat) : unB u 0 = false := rfl
theorem un_s : ∀ u, u < 7 → ∀ a, a < 7 → unB u (a + 1) = if a = u then true else unB u (ab1 a) := by decide
theorem ab_le : ∀ a, a < 7 → ab1 a ≤ 7 := by decide
theorem abv_is : ∀ a, a < 7 → mz_abv a = nP (ab1 a) := by decide
section AS
variable {d : Nat} {w : mz_M} {T h : Nat} {σ : Nat → Nat} {z : Int32}
theorem hm_isUnder {u a : Nat} (hu : u < 7) (ha : a < 7) : mz_Call (d + 3) 99 [.int (nI a), .int (nI u)] w (some (.int (nB (unB u (a + 1) = true)))) w := by
  have loop : ∀ (n l b : Nat) (j0 : Value), l + n = 7 → b ≤ 7 → unB u (a + 1) = unN u n b → mz_Ex cd_X3_isUnder (mz_Call (d + 2)) (fun r1 w1 => r1 = some (.int (nB (unB u (a + 1) = true))) ∧ w1 = w) 4 [j0, .int (nI u), .int (nP b), .int (nI l)] [] w := by
    intro n
    induction n with
    | zero =>
      intro l b j0 hl hb e
      refine sg_X3_isUnder_4 ?_
      rw [nI_ltI (by omega) (by omega)]
      exact ⟨fun c => absurd c (by omega), fun _ => ⟨nz_01, by rw [nB_f (by rw [e, unN]; decide)], rfl⟩⟩
    | succ n ih =>
      intro l b j0 hl hb e
      refine sg_X3_isUnder_4 ?_
      rw [nI_ltI (by omega) (by omega), nI_add]
      cases b with
      | zero =>
        rw [nP_0]
        exact ⟨fun _ => ⟨_, _, hm_isKind _, fun _ => ⟨nz_01, by rw [nB_f (by rw [e, unN]; decide)], rfl⟩, nN (by decide)⟩, fun c => absurd (show l < 7 by omega) c⟩
      | succ b =>
        rw [unN] at e
        rw [nP_s, nI_eq (by omega) (by omega), nI_clamp (by omega), abv_is b (by omega)]
        refine ⟨fun _ => ⟨_, _, hm_isKind _, nY ((wn_iff (by decide) (by decide)).mpr ⟨b, Nat.zero_le _, by omega, rfl⟩), fun _ => ⟨fun c => ⟨nz_11, ?_, rfl⟩, fun c => ⟨vp_in_nI (by omega) (by decide), ?_⟩⟩⟩, fun c => absurd (show l < 7 by omega) c⟩
        · rw [if_pos c] at e
          rw [nB_t e]
        · rw [if_neg c] at e
          exact ih (l + 1) (ab1 b) _ (by omega) (ab_le b (by omega)) e
  have L := loop 7 0 (a + 1) (.int (nI a)) (by omega) (by omega) rfl
  rw [nP_s] at L
  exact en_X3_isUnder (sg_X3_isUnder_0 L)
theorem mm_above {a : Nat} (ha : a < 7) : mz_Call (d + 1) 203 [.int (nI a)] w (some (.int (nP (ab1 a)))) w := by
  have q : a = 0 ∨ a = 1 ∨ a = 2 ∨ a = 3 ∨ a = 4 ∨ a = 5 ∨ a = 6 := by omega
  rcases q with rfl | rfl | rfl | rfl | rfl | rfl | rfl
  · exact en_X4_above (sg_X4_above_0 ⟨fun _ => ⟨by decide, rfl⟩, nS⟩)
  · exact en_X4_above (sg_X4_above_0 ⟨nA (by decide), fun _ => ⟨nA (by decide), fun _ => ⟨nA (by decide), fun _ => ⟨nA (by decide), fun _ => ⟨by decide, rfl⟩⟩⟩⟩⟩)
  · exact en_X4_above (sg_X4_above_0 ⟨nA (by decide), fun _ => ⟨nA (by decide), fun _ => ⟨nA (by decide), fun _ => ⟨nA (by decide), fun _ => ⟨by decide, rfl⟩⟩⟩⟩⟩)
  · exact en_X4_above (sg_X4_above_0 ⟨nA (by decide), fun _ => ⟨fun _ => ⟨by decide, rfl⟩, nS⟩⟩)
  · exact en_X4_above (sg_X4_above_0 ⟨nA (by decide), fun _ => ⟨nA (by decide), fun _ => ⟨fun _ => ⟨by decide, rfl⟩, nS⟩⟩⟩)
  · exact en_X4_above (sg_X4_above_0 ⟨nA (by decide), fun _ => ⟨nA (by decide), fun _ => ⟨nA (by decide), fun _ => ⟨nA (by decide), fun _ => ⟨by decide, rfl⟩⟩⟩⟩⟩)
  · exact en_X4_above (sg_X4_above_0 ⟨nA (by decide), fun _ => ⟨nA (by decide), fun _ => ⟨nA (by decide), fun _ => ⟨fun _ => ⟨by decide, rfl⟩, nS⟩⟩⟩⟩)
theorem mm_isUnder {u a : Nat} (hu : u < 7) (ha : a < 7) : mz_Call (d + 2) 204 [.int (nI a), .int (nI u)] w (some (.int (nB (unB u (a + 1) = true)))) w := by
  have st0 : ∀ (j0 : Value), unB u (a + 1) = unB u 0 → mz_Ex cd_X4_isUnder (mz_Call (d + 1)) (fun r1 w1 => r1 = some (.int (nB (unB u (a + 1) = true))) ∧ w1 = w) 2 [j0, .int (nI u), .int (nP 0)] [] w := by
    intro j0 e
    refine sg_X4_isUnder_2 ?_
    rw [nP_neg (by omega)]
    exact ⟨fun _ => ⟨fun _ => ⟨nz_01, by rw [nB_f (by rw [e, un_0]; decide)], rfl⟩, fun c => absurd rfl c⟩, fun c => absurd rfl c⟩
  have st : ∀ (b : Nat) (j0 : Value), b < 7 → (unB u (a + 1) = unB u (ab1 b) → mz_Ex cd_X4_isUnder (mz_Call (d + 1)) (fun r1 w1 => r1 = some (.int (nB (unB u (a + 1) = true))) ∧ w1 = w) 2 [j0, .int (nI u), .int (nP (ab1 b))] [] w) → unB u (a + 1) = unB u (b + 1) → mz_Ex cd_X4_isUnder (mz_Call (d + 1)) (fun r1 w1 => r1 = some (.int (nB (unB u (a + 1) = true))) ∧ w1 = w) 2 [j0, .int (nI u), .int (nP (b + 1))] [] w := by
    intro b j0 hb K e
    rw [un_s u hu b hb] at e
    refine sg_X4_isUnder_2 ?_
    rw [nP_s, nI_ltI (by omega) (by omega), nI_eq (by omega) (by omega)]
    refine ⟨fun c => absurd c (by omega), fun c => ⟨fun c2 => ⟨fun c3 => absurd c3 c, fun _ => ⟨nz_11, ?_, rfl⟩⟩, fun c2 => ⟨_, _, mm_above hb, ?_⟩⟩⟩
    · rw [if_pos c2] at e
      rw [nB_t e]
    · rw [if_neg c2] at e
      exact K e
  have s0 := fun j0 => st 0 j0 (by decide) (st0 j0)
  have s1 := fun j0 => st 1 j0 (by decide) (s0 j0)
  have s2 := fun j0 => st 2 j0 (by decide) (s0 j0)
  have s3 := fun j0 => st 3 j0 (by decide) (s2 j0)
  have s4 := fun j0 => st 4 j0 (by decide) (s3 j0)
  have s5 := fun j0 => st 5 j0 (by decide) (s0 j0)
  have s6 := fun j0 => st 6 j0 (by decide) (s1 j0)
  have L : mz_Ex cd_X4_isUnder (mz_Call (d + 1)) (fun r1 w1 => r1 = some (.int (nB (unB u (a + 1) = true))) ∧ w1 = w) 2 [.int (nI a), .int (nI u), .int (nP (a + 1))] [] w := by
    have q : a = 0 ∨ a = 1 ∨ a = 2 ∨ a = 3 ∨ a = 4 ∨ a = 5 ∨ a = 6 := by omega
    rcases q with rfl | rfl | rfl | rfl | rfl | rfl | rfl
    · exact s0 _ rfl
    · exact s1 _ rfl
    · exact s2 _ rfl
    · exact s3 _ rfl
    · exact s4 _ rfl
    · exact s5 _ rfl
    · exact s6 _ rfl
  rw [nP_s] at L
  exact en_X4_isUnder (sg_X4_isUnder_0 L)
theorem bo_as (R : Rel T w) (x y : Int32) : Both T T 80 197 [.int x, .int y] w := by
  obtain ⟨σ, z, H, M, I, R⟩ := R
  have h8 := I.2.1
  by_cases c : wn x (nI 0) (nI 9)
  · by_cases c2 : wn y (nI 0) (nI 6)
    · obtain ⟨i, -, hi, rfl⟩ := (wn_iff (by decide) (by decide)).mp c
      obtain ⟨u, -, hu, rfl⟩ := (wn_iff (by decide) (by decide)).mp c2
      have hin : vp_in (nI i) 10 := vp_in_nI (by omega) (by decide)
      have hin2 : vp_in (nI (5 + i)) 101 := vp_in_nI (by omega) (by decide)
      have ke : (nI i).toNatClampNeg = i := nI_clamp (by omega)
      have ke2 : (nI (5 + i)).toNatClampNeg = 5 + i := nI_clamp (by omega)
      have hs := I.2.2.2.1 (5 + i) (by omega) (by omega)
      have eh : w 6 i = nP (σ (5 + i)) := H.2.2.2.2.2.2.2.2.2 i (by omega)
      by_cases q : σ (5 + i) = 0
      · have np : ¬ isP (σ 1) (nP (σ (5 + i))) := by
          rw [q, nP_0]
          exact fun p => p.1 (by decide)
        refine Both.f0 (z7 5) H M I R (en_X3_as (sg_X3_as_0 ⟨_, _, hm_within _ _ _, nY c, fun _ => ⟨_, _, hm_isKind _, nY c2, fun _ => ?_⟩⟩)) (fun w1 M1 => en_X4_as (sg_X4_as_0 ⟨_, _, mm_isSpot _, nY c, fun _ => ⟨_, _, mm_isKind _, nY c2, fun _ => ?_⟩⟩))
        · rw [ke, eh]
          exact ⟨hin, _, _, hm_isThere H _, fun _ => ⟨_, _, hf5, rfl, rfl⟩, nN np⟩
        · rw [nI_add, ke2, M1.2.2.2.2.1 (5 + i) (by omega) (by omega), nP_neg (by omega)]
          exact ⟨hin2, fun _ => ⟨_, _, mf5, rfl, rfl⟩, fun p => absurd q p⟩
      · obtain ⟨p, hp⟩ : ∃ p, σ (5 + i) = p + 1 := ⟨σ (5 + i) - 1, by omega⟩
        have yp : isP (σ 1) (nI p) := (isP_iff h8).mpr ⟨p, by omega, rfl⟩
        have hk := I.2.2.2.2.2.1 (21 + p) (by omega) (by omega)
        rw [hp, nP_s] at eh
        by_cases v : unB u (σ (21 + p) + 1) = true
        · refine Both.rd (r := nI p) H M I R (en_X3_as (sg_X3_as_0 ⟨_, _, hm_within _ _ _, nY c, fun _ => ⟨_, _, hm_isKind _, nY c2, fun _ => ?_⟩⟩)) (en_X4_as (sg_X4_as_0 ⟨_, _, mm_isSpot _, nY c, fun _ => ⟨_, _, mm_isKind _, nY c2, fun _ => ?_⟩⟩))
          · rw [ke, eh]
            refine ⟨hin, _, _, hm_isThere H _, nY yp, fun _ => ⟨vp_in_nI (by omega) (by decide), ?_⟩⟩
            rw [nI_clamp (by omega), H.2.2.2.2.2.2.1 p (by omega)]
            exact ⟨_, _, hm_isUnder (by omega) hk, nY v, fun _ => ⟨rfl, rfl⟩⟩
          · rw [nI_add, ke2, M.2.2.2.2.1 (5 + i) (by omega) (by omega), hp, nP_s, nI_ltI (by omega) (by omega), nI_add, nI_clamp (n := 21 + p) (by omega), M.2.2.2.2.2 (21 + p) (by omega) (by omega)]
            exact ⟨hin2, fun k => absurd k (by omega), fun _ => ⟨vp_in_nI (by omega) (by decide), _, _, mm_isUnder (by omega) hk, nY v, fun _ => ⟨rfl, rfl⟩⟩⟩
        · refine Both.f0 (z7 2) H M I R (en_X3_as (sg_X3_as_0 ⟨_, _, hm_within _ _ _, nY c, fun _ => ⟨_, _, hm_isKind _, nY c2, fun _ => ?_⟩⟩)) (fun w1 M1 => en_X4_as (sg_X4_as_0 ⟨_, _, mm_isSpot _, nY c, fun _ => ⟨_, _, mm_isKind _, nY c2, fun _ => ?_⟩⟩))
          · rw [ke, eh]
            refine ⟨hin, _, _, hm_isThere H _, nY yp, fun _ => ⟨vp_in_nI (by omega) (by decide), ?_⟩⟩
            rw [nI_clamp (by omega), H.2.2.2.2.2.2.1 p (by omega)]
            exact ⟨_, _, hm_isUnder (by omega) hk, fun _ => ⟨_, _, hf2, rfl, rfl⟩, nN v⟩
          · rw [nI_add, ke2, M1.2.2.2.2.1 (5 + i) (by omega) (by omega), hp, nP_s, nI_ltI (by omega) (by omega), nI_add, nI_clamp (n := 21 + p) (by omega), M1.2.2.2.2.2 (21 + p) (by omega) (by omega)]
            exact ⟨hin2, fun k => absurd k (by omega), fun _ => ⟨vp_in_nI (by omega) (by decide), _, _, mm_isUnder (by omega) hk, fun _ => ⟨_, _, mf2, rfl, rfl⟩, nN v⟩⟩
    · exact Both.f0 (z7 0) H M I R (en_X3_as (sg_X3_as_0 ⟨_, _, hm_within _ _ _, nY c, fun _ => ⟨_, _, hm_isKind _, fun _ => ⟨_, _, hf0, rfl, rfl⟩, nN c2⟩⟩)) (fun w1 M1 => en_X4_as (sg_X4_as_0 ⟨_, _, mm_isSpot _, nY c, fun _ => ⟨_, _, mm_isKind _, fun _ => ⟨_, _, mf0, rfl, rfl⟩, nN c2⟩⟩))
  · exact Both.f0 (z7 0) H M I R (en_X3_as (sg_X3_as_0 ⟨_, _, hm_within _ _ _, fun _ => ⟨_, _, hf0, rfl, rfl⟩, nN c⟩)) (fun w1 M1 => en_X4_as (sg_X4_as_0 ⟨_, _, mm_isSpot _, fun _ => ⟨_, _, mf0, rfl, rfl⟩, nN c⟩))
end AS
