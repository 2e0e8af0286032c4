/-! copy -/
set_option maxRecDepth 20000 in
theorem sg_copy {call : mz_C} {Q : mz_Q} {k l : Nat} {a4 a5 s1 : Int32} {j0 j1 j2 j3 : Value} {w : mz_M} (hk : k = 28 ∨ k = 30 ∨ k = 32 ∨ k = 34) (hl : l = 28 ∨ l = 30 ∨ l = 32 ∨ l = 34)
    (K : (¬ s1 < 0) ∧ (¬ a4 < 0) ∧ (¬ a5 < 0) ∧ s1.toNatClampNeg + a5.toNatClampNeg ≤ 40 ∧ a4.toNatClampNeg + a5.toNatClampNeg ≤ 40 ∧ (Q (some (.int a5)) (mz_up w (k + 1) (va_cpy (w (l + 1)) (w (k + 1)) s1.toNatClampNeg a4.toNatClampNeg a5.toNatClampNeg)))) :
    mz_Ex cd_X3_copy call Q 134 [j0, j1, j2, j3, .int a4, .int a5] [.ref k, .int s1, .ref (l + 1)] w := by
  rcases hk with rfl | rfl | rfl | rfl <;> rcases hl with rfl | rfl | rfl | rfl <;> exact mx_seg mo_X3_copy [27, 39, 58, 67, 86, 101, 124, 134] 7 K
/-- n numbers stand from x on, in m -/
abbrev rn (x v : Int32) (m : Nat) : Prop := ¬ x < nI 0 ∧ ¬ v < nI 0 ∧ ¬ nI m < x ∧ ¬ nI m - x < v
theorem nn_is {x : Int32} (h : ¬ x < nI 0) : ∃ p, p < 2 ^ 31 ∧ x = nI p := by
  rw [Int32.lt_iff_toInt_lt, nI_toInt (by decide)] at h
  have h2 := Int32.toInt_lt x
  refine ⟨x.toInt.toNat, by omega, ?_⟩
  apply Int32.toInt_inj.mp
  rw [nI_toInt (by omega)]
  omega
theorem rn_iff {x v : Int32} {m : Nat} (hm : m ≤ 40) : rn x v m ↔ ∃ p q, p + q ≤ m ∧ x = nI p ∧ v = nI q := by
  constructor
  · rintro ⟨h1, h2, h3, h4⟩
    obtain ⟨p, lp, rfl⟩ := nn_is h1
    obtain ⟨q, lq, rfl⟩ := nn_is h2
    rw [nI_ltI (by omega) (by omega)] at h3
    rw [pk_sub (by omega), nI_ltI (by omega) (by omega)] at h4
    exact ⟨p, q, by omega, rfl, rfl⟩
  · rintro ⟨p, q, h, rfl, rfl⟩
    show ¬ nI p < nI 0 ∧ ¬ nI q < nI 0 ∧ ¬ nI m < nI p ∧ ¬ nI m - nI p < nI q
    rw [pk_sub (by omega), nI_ltI (by omega) (by omega), nI_ltI (by omega) (by omega), nI_ltI (by omega) (by omega), nI_ltI (by omega) (by omega)]
    omega
/-- the reference's check, on longs -/
theorem rl_iff {x v : Int32} {m : Nat} (hm : m ≤ 40) (hx : ¬ x < nI 0) (hv : ¬ v < nI 0) : nI 0 < lg_cmp (x.toInt64 + v.toInt64) (nI m).toInt64 ↔ ¬ rn x v m := by
  obtain ⟨p, lp, rfl⟩ := nn_is hx
  obtain ⟨q, lq, rfl⟩ := nn_is hv
  rw [show (nI 0 < lg_cmp ((nI p).toInt64 + (nI q).toInt64) (nI m).toInt64) ↔ (nI m).toInt64 < (nI p).toInt64 + (nI q).toInt64 from lg_cmp_gt _ _, Int64.lt_iff_toInt_lt, lg_i2l_add, Int32.toInt_toInt64, nI_toInt lp, nI_toInt lq, nI_toInt (by omega), rn_iff hm]
  constructor
  · rintro h ⟨p', q', h2, e1, e2⟩
    rw [nI_eq lp (by omega)] at e1
    rw [nI_eq lq (by omega)] at e2
    omega
  · intro h
    by_cases c : m < p + q
    · omega
    · exact absurd ⟨p, q, by omega, rfl, rfl⟩ h
section CPY
variable {d : Nat} {w : mz_M} {T h : Nat} {σ : Nat → Nat} {z : Int32}
theorem hm_hasRun {s m : Nat} (hs : s < 4) (em : w (28 + 2 * s) 1 = nI m) (x v : Int32) : mz_Call (d + 1) 33 [.ref (28 + 2 * s), .int x, .int v] w (some (.int (nB (rn x v m)))) w := by
  refine en_X1_hasRun (sg_X1_hasRun_0 (hk4 hs) ?_)
  rw [em]
  refine ⟨fun c => ⟨nz_01, ?_, rfl⟩, fun c => ⟨fun c2 => ⟨nz_01, ?_, rfl⟩, fun c2 => ⟨fun c3 => ⟨nz_01, ?_, rfl⟩, fun c3 => ⟨fun c4 => ⟨nz_01, ?_, rfl⟩, fun c4 => ⟨nz_11, ?_, rfl⟩⟩⟩⟩⟩
  · rw [nB_f (fun q => q.1 c)]
  · rw [nB_f (fun q => q.2.1 c2)]
  · rw [nB_f (fun q => q.2.2.1 c3)]
  · rw [nB_f (fun q => q.2.2.2 c4)]
  · rw [nB_t ⟨c, c2, c3, c4⟩]
/-- the numbers behind a copy: k of them -/
def cyS (f g : Nat → Int32) (p r q : Nat) : Nat → Int32 := fun j => if r ≤ j ∧ j < r + q then f (p + (j - r)) else g j
theorem rf_copy2 {t r q : Nat} {v : mz_M} (hq : r + q ≤ 40) (ht : t < 4) {A : Nat → Int32} : ∀ (k i : Nat) (j1 j2 : Value) (w1 : mz_M), i + k = q → (∀ j, j < q → w1 50 j = A j) → (∀ x, w1 49 x = if 40 * t + r ≤ x ∧ x < 40 * t + r + i then A (x - (40 * t + r)) else v 49 x) → Fr (fun k => k = 49 ∨ k = 50) v w1 → mz_Ex cd_X4_copy (mz_Call 10) (fun r2 w2 => ∃ u : Int32, r2 = some (.int u) ∧ (u = nI q ∧ (∀ x, w2 49 x = if 40 * t + r ≤ x ∧ x < 40 * t + r + q then A (x - (40 * t + r)) else v 49 x) ∧ Fr (fun k => k = 49 ∨ k = 50) v w2)) 165 [.ref 37, j1, j2, .int (nI t), .int (nI r), .int (nI q), .int (nI i)] [] w1 := by
  intro k
  induction k with
  | zero =>
    intro i j1 j2 w1 hi e1 e2 F1
    refine sg_X4_copy_165 ?_
    rw [nI_ltI (by omega) (by omega)]
    rw [show i = q by omega] at e2 ⊢
    exact ⟨fun c => absurd c (by omega), fun _ => ⟨_, rfl, rfl, e2, F1⟩⟩
  | succ k ih =>
    intro i j1 j2 w1 hi e1 e2 F1
    refine sg_X4_copy_165 ?_
    rw [nI_ltI (by omega) (by omega), pk_mul, nI_add, nI_add, nI_add, nI_clamp (n := i) (by omega), nI_clamp (n := 40 * t + r + i) (by omega)]
    refine ⟨fun _ => ⟨vp_in_nI (by omega) (by decide), vp_in_nI (by omega) (by decide), ih (i + 1) j1 j2 _ (by omega) (fun j hj => by rw [mu_n (by decide)]; exact e1 j hj) (fun x => ?_) (F1.tr (Fr.up (by omega)))⟩, fun c => absurd (show i < q by omega) c⟩
    rw [mu_s, e1 i (by omega)]
    by_cases c : x = 40 * t + r + i
    · rw [c, pk_us, if_pos (by omega), show 40 * t + r + i - (40 * t + r) = i by omega]
    · rw [pk_un c, e2 x]
      exact ite_iff (by omega)
theorem rf_copy1 {s p q : Nat} {v : mz_M} (hq : p + q ≤ 40) (hs : s < 4) {Q : mz_Q} {a3 a4 : Int32} (K : ∀ w2, (∀ j, j < q → w2 50 j = v 49 (40 * s + p + j)) → Fr (fun k => k = 50) v w2 → mz_Ex cd_X4_copy (mz_Call 10) Q 165 [.ref 37, .int (nI s), .int (nI p), .int a3, .int a4, .int (nI q), .int (nI 0)] [] w2) : ∀ (k i : Nat) (w1 : mz_M), i + k = q → (∀ j, j < i → w1 50 j = v 49 (40 * s + p + j)) → Fr (fun k => k = 50) v w1 → mz_Ex cd_X4_copy (mz_Call 10) Q 128 [.ref 37, .int (nI s), .int (nI p), .int a3, .int a4, .int (nI q), .int (nI i)] [] w1 := by
  intro k
  induction k with
  | zero =>
    intro i w1 hi e1 F1
    refine sg_X4_copy_128 ?_
    rw [nI_ltI (by omega) (by omega)]
    exact ⟨fun c => absurd c (by omega), fun _ => K w1 (fun j hj => e1 j (by omega)) F1⟩
  | succ k ih =>
    intro i w1 hi e1 F1
    refine sg_X4_copy_128 ?_
    rw [nI_ltI (by omega) (by omega), pk_mul, nI_add, nI_add, nI_add, nI_clamp (n := i) (by omega), nI_clamp (n := 40 * s + p + i) (by omega)]
    refine ⟨fun _ => ⟨vp_in_nI (by omega) (by decide), vp_in_nI (by omega) (by decide), ih (i + 1) _ (by omega) (fun j hj => ?_) (F1.tr (Fr.up rfl))⟩, fun c => absurd (show i < q by omega) c⟩
    rw [mu_s]
    by_cases c : j = i
    · rw [c, pk_us, F1 49 (by decide)]
    · rw [pk_un c]
      exact e1 j (by omega)
theorem rf_copy {s t p q r : Nat} {v : mz_M} (h1 : p + q ≤ 40) (h2 : r + q ≤ 40) (hs : s < 4) (ht : t < 4) : mz_Ex cd_X4_copy (mz_Call 10) (fun r2 w2 => ∃ u : Int32, r2 = some (.int u) ∧ (u = nI q ∧ (∀ x, w2 49 x = if 40 * t + r ≤ x ∧ x < 40 * t + r + q then v 49 (40 * s + p + (x - (40 * t + r))) else v 49 x) ∧ Fr (fun k => k = 49 ∨ k = 50) v w2)) 128 [.ref 37, .int (nI s), .int (nI p), .int (nI t), .int (nI r), .int (nI q), .int (nI 0)] [] v :=
  rf_copy1 h1 hs (fun w2 e F => rf_copy2 (A := fun j => v 49 (40 * s + p + j)) h2 ht q 0 _ _ w2 (by omega) e (fun x => by rw [if_neg (by omega), F 49 (by decide)]) (F.mono (fun k hk => Or.inr hk))) q 0 v (by omega) (fun j hj => absurd hj (by omega)) Fr.rf
theorem ShtR.cpy (R : ShtR w) {s t p q r : Nat} (h1 : p + q ≤ 40) (h2 : r + q ≤ 40) (hs : s < 4) (ht : t < 4) {w2 : mz_M} (e : ∀ k, k ≠ 29 + 2 * t → k ≠ 49 → k ≠ 50 → w2 k = w k) (e1 : w2 (29 + 2 * t) = va_cpy (w (29 + 2 * s)) (w (29 + 2 * t)) p r q) (e2 : ∀ x, w2 49 x = if 40 * t + r ≤ x ∧ x < 40 * t + r + q then w 49 (40 * s + p + (x - (40 * t + r))) else w 49 x) : ShtR w2 := by
  intro s' hs'
  obtain ⟨a, b, n, f, g⟩ := R s' hs'
  rw [e (28 + 2 * s') (by omega) (by omega) (by omega), e 47 (by omega) (by omega) (by omega), e 48 (by omega) (by omega) (by omega)]
  refine ⟨a, b, n, f, fun j hj => ?_⟩
  rw [e2]
  by_cases c : s' = t
  · subst c
    rw [e1]
    unfold va_cpy
    by_cases c2 : r ≤ j ∧ j < r + q
    · rw [if_pos c2, if_pos (by omega), (R s hs).2.2.2.2 (p + (j - r)) (by omega), show 40 * s' + j - (40 * s' + r) = j - r by omega, Nat.add_assoc]
    · rw [if_neg c2, if_neg (by omega)]
      exact g j hj
  · rw [e (29 + 2 * s') (by omega) (by omega) (by omega), if_neg (by omega)]
    exact g j hj
theorem bo_copy (R : Rel T w) (x a y b n : Int32) : Both T T 83 202 [.int x, .int a, .int y, .int b, .int n] w := by
  obtain ⟨σ, z, H, M, I, R⟩ := R
  by_cases c : wn x (nI 0) (nI 3)
  · by_cases c2 : wn y (nI 0) (nI 3)
    · obtain ⟨s, -, hs, rfl⟩ := (wn_iff (by decide) (by decide)).mp c
      obtain ⟨t, -, ht, rfl⟩ := (wn_iff (by decide) (by decide)).mp c2
      obtain ⟨s1, s2, ⟨m, hm, s3⟩, s4, s5⟩ := R.2.2.2 s (by omega)
      obtain ⟨t1, t2, ⟨l, hl, t3⟩, t4, t5⟩ := R.2.2.2 t (by omega)
      have ks : (nI s).toNatClampNeg = s := nI_clamp (by omega)
      have kt : (nI t).toNatClampNeg = t := nI_clamp (by omega)
      have vs : vp_in (nI s) 4 := vi4s (by omega)
      have vt : vp_in (nI t) 4 := vi4s (by omega)
      by_cases q : w 47 s = nI 0
      · refine Both.f0F (z7 5) H M I R (en_X3_copy (sg_X3_copy_0 ⟨_, _, hm_isSheet _, nY c, fun _ => ⟨_, _, hm_isSheet _, nY c2, fun _ => ⟨vs, ?_⟩⟩⟩)) (fun w1 M1 F1 => en_X4_copy (sg_X4_copy_0 ⟨_, _, mm_isSheet _, nY c, fun _ => ⟨_, _, mm_isSheet _, nY c2, fun _ => ⟨vs, ?_⟩⟩⟩))
        · rw [ks, gd4 s (by omega)]
          exact sg_X3_copy_27 (hk4 (by omega)) ⟨_, _, hm_isMissing (by omega), nY (by rw [s1]; exact q), fun _ => ⟨_, _, hf5, rfl, rfl⟩⟩
        · rw [ks, F1 47 (by omega) (by decide)]
          exact ⟨fun _ => ⟨_, _, mf5, rfl, rfl⟩, fun z => absurd q z⟩
      · by_cases q2 : w 47 t = nI 0
        · refine Both.f0F (z7 5) H M I R (en_X3_copy (sg_X3_copy_0 ⟨_, _, hm_isSheet _, nY c, fun _ => ⟨_, _, hm_isSheet _, nY c2, fun _ => ⟨vs, ?_⟩⟩⟩)) (fun w1 M1 F1 => en_X4_copy (sg_X4_copy_0 ⟨_, _, mm_isSheet _, nY c, fun _ => ⟨_, _, mm_isSheet _, nY c2, fun _ => ⟨vs, ?_⟩⟩⟩))
          · rw [ks, gd4 s (by omega)]
            refine sg_X3_copy_27 (hk4 (by omega)) ⟨_, _, hm_isMissing (by omega), fun _ => ⟨vt, ?_⟩, nN (by rw [s1]; exact q)⟩
            rw [kt, gd4 t (by omega)]
            exact sg_X3_copy_39 (hk4 (by omega)) ⟨_, _, hm_isMissing (by omega), nY (by rw [t1]; exact q2), fun _ => ⟨_, _, hf5, rfl, rfl⟩⟩
          · rw [ks, kt, F1 47 (by omega) (by decide)]
            exact ⟨fun z => absurd z q, fun _ => ⟨vt, fun _ => ⟨_, _, mf5, rfl, rfl⟩, fun z => absurd q2 z⟩⟩
        · -- both are there
          have go : ∀ {Q : mz_Q}, ((w 47 s = w 47 t → mz_Ex cd_X3_copy (mz_Call 10) Q 86 [.ref 0, .int (nI s), .int a, .int (nI t), .int b, .int n] [.ref (28 + 2 * s)] w) ∧ (¬ w 47 s = w 47 t → ∃ (r1 : Int32) (w1 : mz_M), mz_Call 10 91 [.ref 0, .int ((-1000003 : Int32))] w (some (.int r1)) w1 ∧ (Q (some (.int r1)) w1))) → mz_Ex cd_X3_copy (mz_Call 10) Q 0 [.ref 0, .int (nI s), .int a, .int (nI t), .int b, .int n] [] w := by
            intro Q K
            refine sg_X3_copy_0 ⟨_, _, hm_isSheet _, nY c, fun _ => ⟨_, _, hm_isSheet _, nY c2, fun _ => ⟨vs, ?_⟩⟩⟩
            rw [ks, gd4 s (by omega)]
            refine sg_X3_copy_27 (hk4 (by omega)) ⟨_, _, hm_isMissing (by omega), fun _ => ⟨vt, ?_⟩, nN (by rw [s1]; exact q)⟩
            rw [kt, gd4 t (by omega)]
            refine sg_X3_copy_39 (hk4 (by omega)) ⟨_, _, hm_isMissing (by omega), fun _ => ⟨vs, ?_⟩, nN (by rw [t1]; exact q2)⟩
            rw [ks, gd4 s (by omega)]
            refine sg_X3_copy_58 (hk4 (by omega)) ⟨vt, ?_⟩
            rw [kt, gd4 t (by omega), s1]
            refine sg_X3_copy_67 (hk4 (by omega)) ?_
            rw [t1, ks, gd4 s (by omega)]
            exact ⟨fun e => ⟨vs, K.1 e⟩, K.2⟩
          have gm : ∀ {Q : mz_Q} {w1 : mz_M}, w1 47 = w 47 → w1 48 = w 48 → ((¬ w 47 s = w 47 t → ∃ (r1 : Int32) (w2 : mz_M), mz_Call 10 107 [.ref 37, .int ((-1000003 : Int32))] w1 (some (.int r1)) w2 ∧ (Q (some (.int r1)) w2)) ∧ (w 47 s = w 47 t → ¬ (rn a n m ∧ rn b n l) → ∃ (r1 : Int32) (w2 : mz_M), mz_Call 10 107 [.ref 37, .int ((-1000001 : Int32))] w1 (some (.int r1)) w2 ∧ (Q (some (.int r1)) w2)) ∧ (w 47 s = w 47 t → rn a n m ∧ rn b n l → mz_Ex cd_X4_copy (mz_Call 10) Q 128 [.ref 37, .int (nI s), .int a, .int (nI t), .int b, .int n, .int (nI 0)] [] w1)) → mz_Ex cd_X4_copy (mz_Call 10) Q 0 [.ref 37, .int (nI s), .int a, .int (nI t), .int b, .int n, .null] [] w1 := by
            intro Q w1 e7 e8 K
            refine sg_X4_copy_0 ⟨_, _, mm_isSheet _, nY c, fun _ => ⟨_, _, mm_isSheet _, nY c2, fun _ => ⟨vs, ?_⟩⟩⟩
            rw [ks, kt, e7, e8, s3, t3]
            refine ⟨fun z => absurd z q, fun _ => ⟨vt, fun z => absurd z q2, fun _ => ⟨vs, vt, fun e => ⟨fun c3 => K.2.1 e (fun z => z.1.1 c3), fun c3 => ⟨fun c4 => K.2.1 e (fun z => z.2.1 c4), fun c4 => ⟨fun c5 => K.2.1 e (fun z => z.1.2.1 c5), fun c5 => ⟨vs, fun c6 => K.2.1 e (fun z => (rl_iff hm c3 c5).mp c6 z.1), fun c6 => ⟨vt, fun c7 => K.2.1 e (fun z => (rl_iff hl c4 c5).mp c7 z.2), fun c7 => K.2.2 e ⟨?_, ?_⟩⟩⟩⟩⟩⟩, K.1⟩⟩⟩
            · rw [rl_iff hm c3 c5, Classical.not_not] at c6; exact c6
            · rw [rl_iff hl c4 c5, Classical.not_not] at c7; exact c7
          by_cases e : w 47 s = w 47 t
          · by_cases c3 : rn a n m
            · have K101 : ∀ {Q : mz_Q}, (rn b n l → mz_Ex cd_X3_copy (mz_Call 10) Q 134 [.ref 0, .int (nI s), .int a, .int (nI t), .int b, .int n] [.ref (28 + 2 * t), .int a, .ref (28 + 2 * s + 1)] w) → (¬ rn b n l → ∃ (r1 : Int32) (w1 : mz_M), mz_Call 10 91 [.ref 0, .int ((-1000001 : Int32))] w (some (.int r1)) w1 ∧ (Q (some (.int r1)) w1)) → mz_Ex cd_X3_copy (mz_Call 10) Q 0 [.ref 0, .int (nI s), .int a, .int (nI t), .int b, .int n] [] w := by
                intro Q K1 K2
                refine go ⟨fun _ => sg_X3_copy_86 (hk4 (by omega)) ⟨_, _, hm_hasRun (m := m) (by omega) (by rw [s2]; exact s3) _ _, nY c3, fun _ => ⟨vt, ?_⟩⟩, fun z => absurd e z⟩
                rw [kt, gd4 t (by omega)]
                refine sg_X3_copy_101 (hk4 (by omega)) ⟨_, _, hm_hasRun (m := l) (by omega) (by rw [t2]; exact t3) _ _, fun z => K2 (nB_0.mp z), fun z => ⟨vs, ?_⟩⟩
                rw [nB_0, Classical.not_not] at z
                rw [ks, gd4 s (by omega)]
                refine sg_X3_copy_124 (hk4 (by omega)) ⟨vt, ?_⟩
                rw [kt, gd4 t (by omega)]
                exact K1 z
              by_cases c4 : rn b n l
              · obtain ⟨p, k, hpk, rfl, rfl⟩ := (rn_iff hm).mp c3
                obtain ⟨r, k2, hrk, rfl, ek⟩ := (rn_iff hl).mp c4
                have ek2 : k = k2 := (nI_eq (by omega) (by omega)).mp ek
                subst ek2
                obtain ⟨u, w2, b1, rfl, b3, b4⟩ := ec_X4_copy (d := 10) (a1 := nI s) (a2 := nI p) (a3 := nI t) (a4 := nI r) (a5 := nI k) (w := mz_up w (28 + 2 * t + 1) (va_cpy (w (28 + 2 * s + 1)) (w (28 + 2 * t + 1)) p r k)) (Po := fun u w2 => u = nI k ∧ (∀ x, w2 49 x = if 40 * t + r ≤ x ∧ x < 40 * t + r + k then mz_up w (28 + 2 * t + 1) (va_cpy (w (28 + 2 * s + 1)) (w (28 + 2 * t + 1)) p r k) 49 (40 * s + p + (x - (40 * t + r))) else mz_up w (28 + 2 * t + 1) (va_cpy (w (28 + 2 * s + 1)) (w (28 + 2 * t + 1)) p r k) 49 x) ∧ Fr (fun k => k = 49 ∨ k = 50) (mz_up w (28 + 2 * t + 1) (va_cpy (w (28 + 2 * s + 1)) (w (28 + 2 * t + 1)) p r k)) w2) (gm (mu_n (by omega)) (mu_n (by omega)) ⟨fun z => absurd e z, fun _ z => absurd ⟨c3, c4⟩ z, fun _ _ => rf_copy (by omega) (by omega) (by omega) (by omega)⟩)
                rw [mu_n (by omega)] at b3
                have en : ∀ k, k ≠ 29 + 2 * t → k ≠ 49 → k ≠ 50 → w2 k = w k := fun k p1 p2 p3 => by rw [b4 k (by omega), mu_n (by omega)]
                refine ⟨nI k, _, w2, en_X3_copy (K101 (fun _ => sg_copy (hk4 (by omega)) (hk4 (by omega)) ?_) (fun z => absurd c4 z)), b1, σ, z, H.fr (fun k p1 p2 => en k (by omega) (by omega) (by omega)), M.fr (en 38 (by omega) (by omega) (by omega)), I, R.1.fr (fun k p => en k (by omega) (by omega) (by omega)) (by rw [en 37 (by omega) (by omega) (by omega)]), R.2.1.fr (en 36 (by omega) (by omega) (by omega)) (en 41 (by omega) (by omega) (by omega)), R.2.2.1.fr (by rw [en 25 (by omega) (by omega) (by omega)]) (en 26 (by omega) (by omega) (by omega)) (en 44 (by omega) (by omega) (by omega)) (by rw [en 37 (by omega) (by omega) (by omega)]), R.2.2.2.cpy (s := s) (t := t) (p := p) (q := k) (r := r) (by omega) (by omega) (by omega) (by omega) en ?_ b3⟩
                · rw [nI_clamp (n := p) (by omega), nI_clamp (n := r) (by omega), nI_clamp (n := k) (by omega)]
                  exact ⟨nI_pos (by omega), nI_pos (by omega), nI_pos (by omega), by omega, by omega, rfl, rfl⟩
                · rw [b4 _ (by omega), show 29 + 2 * t = 28 + 2 * t + 1 by omega, mu_s, show 29 + 2 * s = 28 + 2 * s + 1 by omega]
              · exact Both.f0F (z7 0) H M I R (en_X3_copy (K101 (fun z => absurd z c4) (fun _ => ⟨_, _, hf0, rfl, rfl⟩))) (fun w1 M1 F1 => en_X4_copy (gm (F1 47 (by omega) (by decide)) (F1 48 (by omega) (by decide)) ⟨fun z => absurd e z, fun _ _ => ⟨_, _, mf0, rfl, rfl⟩, fun _ z => absurd z.2 c4⟩))
            · exact Both.f0F (z7 0) H M I R (en_X3_copy (go ⟨fun _ => sg_X3_copy_86 (hk4 (by omega)) ⟨_, _, hm_hasRun (m := m) (by omega) (by rw [s2]; exact s3) _ _, fun _ => ⟨_, _, hf0, rfl, rfl⟩, nN c3⟩, fun z => absurd e z⟩)) (fun w1 M1 F1 => en_X4_copy (gm (F1 47 (by omega) (by decide)) (F1 48 (by omega) (by decide)) ⟨fun z => absurd e z, fun _ _ => ⟨_, _, mf0, rfl, rfl⟩, fun _ z => absurd z.1 c3⟩))
          · exact Both.f0F (z7 2) H M I R (en_X3_copy (go ⟨fun z => absurd z e, fun _ => ⟨_, _, hf2, rfl, rfl⟩⟩)) (fun w1 M1 F1 => en_X4_copy (gm (F1 47 (by omega) (by decide)) (F1 48 (by omega) (by decide)) ⟨fun _ => ⟨_, _, mf2, rfl, rfl⟩, fun z => absurd z e, fun z => absurd z e⟩))
    · exact Both.f0 (z7 0) H M I R (en_X3_copy (sg_X3_copy_0 ⟨_, _, hm_isSheet _, nY c, fun _ => ⟨_, _, hm_isSheet _, fun _ => ⟨_, _, hf0, rfl, rfl⟩, nN c2⟩⟩)) (fun w1 M1 => en_X4_copy (sg_X4_copy_0 ⟨_, _, mm_isSheet _, nY c, fun _ => ⟨_, _, mm_isSheet _, fun _ => ⟨_, _, mf0, rfl, rfl⟩, nN c2⟩⟩))
  · exact Both.f0 (z7 0) H M I R (en_X3_copy (sg_X3_copy_0 ⟨_, _, hm_isSheet _, fun _ => ⟨_, _, hf0, rfl, rfl⟩, nN c⟩)) (fun w1 M1 => en_X4_copy (sg_X4_copy_0 ⟨_, _, mm_isSheet _, fun _ => ⟨_, _, mf0, rfl, rfl⟩, nN c⟩))
end CPY
