/-! dampFor, kindFor, divorce -/
theorem su_id (σ : Nat → Nat) (k : Nat) : su σ k (σ k) = σ := by
  funext j
  unfold su
  split
  · rename_i e; rw [e]
  · rfl
theorem su_su (σ : Nat → Nat) (k a b : Nat) : su (su σ k a) k b = su σ k b := by
  funext j
  unfold su
  split
  · rfl
  · rfl
theorem nP_m (j : Nat) : nI j + (-1 : Int32) = nP j := by
  unfold nP
  rw [Int32.sub_eq_add_neg]
section FO
variable {d : Nat} {w : mz_M} {T h : Nat} {σ : Nat → Nat} {z : Int32}
/-- an answer out of orNone -/
theorem rf_orn {f : Nat} (hf : f < 2 ^ 31) {w2 : mz_M} (M : Ms 38 σ z w2) (F : Fr Mq w w2) {Q : mz_Q} (hQ : ∀ u w3, MO f σ z w u w3 → Q (some (.int u)) w3) : ∃ (r5 : Int32) (w5 : mz_M), mz_Call 10 112 [.ref 37, .int (nP f)] w2 (some (.int r5)) w5 ∧ Q (some (.int r5)) w5 := by
  cases f with
  | zero => rw [nP_0]; exact ⟨_, _, rf_none, hQ _ _ (Or.inl ⟨rfl, rfl, w2, rfl, M, F⟩)⟩
  | succ m => rw [nP_s]; exact ⟨_, _, rf_some (by omega), hQ _ _ (Or.inr ⟨m, rfl, rfl, M, F⟩)⟩
theorem fi_le (P : Nat → Bool) : ∀ k i, fiS P i k ≤ i + k
  | 0, i => Nat.zero_le _
  | k + 1, i => by
    rw [fiS]
    split
    · omega
    · have := fi_le P k (i + 1); omega
def dP (σ : Nat → Nat) (a b v n e : Nat) : Bool := decide (v ≤ kn (tN (su σ 3 e) n) a b)
theorem dP_t {a b v n e : Nat} : dP σ a b v n e = true ↔ v ≤ kn (tN (su σ 3 e) n) a b := by unfold dP; rw [decide_eq_true_eq]
theorem hm_dampFor {f : Nat} (I : Iv T σ) (hT : T ≤ 90000) {a b v n : Nat} (ha : a < 8) (hb : b < 8) (hv : v ≤ 999) (hn : n ≤ 40) : ∀ (k e : Nat) (w1 : mz_M), e + k = 10 → Hs 1 σ z w1 → Fr Tp w w1 → f = fiS (dP σ a b v n) e k → mz_Ex cd_X3_dampFor (mz_Call 10) (fun r2 w2 => ∃ u : Int32, r2 = some (.int u) ∧ CO f w u w2) 37 [.ref 0, .int (nI a), .int (nI b), .int (nI v), .int (nI n), .int (nI e)] [] w1 := by
  intro k
  induction k with
  | zero =>
    intro e w1 he H1 F1 q
    refine sg_X3_dampFor_37 ?_
    rw [nI_ltI (by omega) (by omega)]
    exact ⟨fun _ => ⟨_, _, hf3, _, rfl, Or.inl ⟨by rw [q]; rfl, rfl, w1, rfl, F1⟩⟩, fun c => absurd (show 9 < e by omega) c⟩
  | succ k ih =>
    intro e w1 he H1 F1 q
    obtain ⟨w2, q1, q2, q3⟩ := hm_become (d := 9) (h := 9) (o := 1) (by omega) (by omega) (by decide) H1
    have I2 : Iv T (su σ 3 e) := I.put (by omega)
    obtain ⟨w3, p1, p2⟩ := hm_kinBehind (d := 6) (q2.damp e) I2 (a := a) (b := b) (n := n) ha hb (by omega) (by omega)
    have kl : kn (tN (su σ 3 e) n) a b ≤ 999 := kn_le (I2.turns n) ha hb
    have F3 : Fr Tp w1 w3 := Fr.tr (Fr.tr (q3.mono (by omega)) (Fr.up (by omega))) p2
    rw [fiS] at q
    refine sg_X3_dampFor_37 ?_
    rw [nI_ltI (by omega) (by omega), nI_add]
    refine ⟨fun c => absurd c (by omega), fun _ => ⟨w2, q1, _, w3, p1, fun c => ?_, fun c => ?_⟩⟩
    · rw [nI_ltI (by omega) (by omega)] at c
      rw [if_neg (by rw [dP_t]; omega)] at q
      exact ih (e + 1) w3 (by omega) (H1.fr (fun k x y => F3 k (by omega))) (F1.tr F3) q
    · rw [nI_ltI (by omega) (by omega)] at c
      rw [if_pos (by rw [dP_t]; omega)] at q
      exact ⟨_, rfl, Or.inr ⟨e, q, rfl, F1.tr F3⟩⟩
theorem rf_dampFor {f : Nat} (I : Iv T σ) (hT : T ≤ 90000) {a b v n : Nat} (ha : a < 8) (hb : b < 8) (hv : v ≤ 999) (hn : n ≤ 40) (hf : f = fiS (dP σ a b v n) 0 10) : ∀ (j k e : Nat) (w1 : mz_M), j + k = 10 → e ≤ 9 → Ms 38 (su σ 3 e) z w1 → Fr Mq w w1 → mz_Ex cd_X4_dampFor (mz_Call 10) (fun r2 w2 => ∃ u : Int32, r2 = some (.int u) ∧ MO f σ z w u w2) 46 [.ref 37, .int (nI a), .int (nI b), .int (nI v), .int (nI n), .int (nI (σ 3)), .int (nP (fiS (dP σ a b v n) j k)), .int (nP j)] [] w1 := by
  intro j
  induction j with
  | zero =>
    intro k e w1 hk he M1 F1
    rw [show k = 10 by omega, ← hf]
    have M2 := M1.damp (v := σ 3)
    rw [su_su, su_id] at M2
    have fl := fi_le (dP σ a b v n) 10 0
    rw [← hf] at fl
    refine sg_X4_dampFor_46 ?_
    rw [nP_neg (by omega), nc3]
    exact ⟨fun _ => ⟨vi3, rf_orn (Q := fun r2 w2 => ∃ u : Int32, r2 = some (.int u) ∧ MO f σ z w u w2) (by omega) M2 (F1.tr (Fr.up (by omega))) (fun u w3 q => ⟨u, rfl, q⟩)⟩, fun c => absurd rfl c⟩
  | succ j ih =>
    intro k e w1 hk he M1 F1
    have I2 : Iv T (su σ 3 j) := I.put (by omega)
    have M2 := M1.damp (v := j)
    rw [su_su] at M2
    obtain ⟨w3, p1, p2, p3⟩ := mm_kinBehind (d := 3) M2 I2 (a := a) (b := b) (n := n) ha hb (by omega) (by omega)
    have kl : kn (tN (su σ 3 j) n) a b ≤ 999 := kn_le (I2.turns n) ha hb
    have hi := ih (k + 1) j w3 (by omega) (by omega) p2 (F1.tr (Fr.tr (Fr.up (by omega)) p3))
    rw [fiS] at hi
    refine sg_X4_dampFor_46 ?_
    rw [nP_s, nI_ltI (by omega) (by omega), nc3, nP_m]
    refine ⟨fun c => absurd c (by omega), fun _ => ⟨vi3, _, w3, p1, fun c => ?_, fun c => ?_⟩⟩
    · rw [nI_ltI (by omega) (by omega)] at c
      rw [if_neg (by rw [dP_t]; omega)] at hi
      exact hi
    · rw [nI_ltI (by omega) (by omega)] at c
      rw [if_pos (by rw [dP_t]; omega), nP_s] at hi
      exact hi
theorem bo_dampFor (R : Rel T w) (hT : T ≤ 90000) (x y v n : Int32) : Both T T 68 168 [.int x, .int y, .int v, .int n] w := by
  obtain ⟨σ, z, H, M, I, R⟩ := R
  have h8 := I.2.1
  by_cases c : is2 (σ 1) x y
  · by_cases c2 : wn v (nI 0) (nI 999)
    · by_cases c3 : wn n (nI 0) (nI 40)
      · obtain ⟨a, b, ha, hb, hab, rfl, rfl⟩ := (is2_iff I.2.1).mp c
        obtain ⟨k, -, hk, rfl⟩ := (wn_iff (by decide) (by decide)).mp c2
        obtain ⟨n, -, hn, rfl⟩ := (wn_iff (by decide) (by decide)).mp c3
        refine Both.srch (fiS (dP σ a b k n) 0 10) H M I R ?_ (fun w1 M1 _ => ?_)
        · exact ec_X3_dampFor (sg_X3_dampFor_0 ⟨_, _, hm_areTwo H _ _, nY c, fun _ => ⟨_, _, hm_isKin _, nY c2, fun _ => ⟨_, _, hm_within _ _ _, nY c3, fun _ => hm_dampFor I hT (by omega) (by omega) hk hn 10 0 w (by omega) H Fr.rf rfl⟩⟩⟩)
        · refine ec_X4_dampFor (sg_X4_dampFor_0 ⟨_, _, mm_areTwo M1 _ _, nY c, fun _ => ⟨_, _, mm_isKin _, nY c2, fun _ => ⟨_, _, mm_isThought _, nY c3, fun _ => ⟨vi3, ?_⟩⟩⟩⟩)
          rw [nc3, M1.2.2.2.1]
          exact rf_dampFor I hT (by omega) (by omega) hk hn rfl 10 0 (σ 3) w1 (by omega) I.2.2.1 (by rw [su_id]; exact M1) Fr.rf
      · exact Both.f0 (z7 0) H M I R (en_X3_dampFor (sg_X3_dampFor_0 ⟨_, _, hm_areTwo H _ _, nY c, fun _ => ⟨_, _, hm_isKin _, nY c2, fun _ => ⟨_, _, hm_within _ _ _, fun _ => ⟨_, _, hf0, rfl, rfl⟩, nN c3⟩⟩⟩)) (fun w1 M1 => en_X4_dampFor (sg_X4_dampFor_0 ⟨_, _, mm_areTwo M1 _ _, nY c, fun _ => ⟨_, _, mm_isKin _, nY c2, fun _ => ⟨_, _, mm_isThought _, fun _ => ⟨_, _, mf0, rfl, rfl⟩, nN c3⟩⟩⟩))
    · exact Both.f0 (z7 0) H M I R (en_X3_dampFor (sg_X3_dampFor_0 ⟨_, _, hm_areTwo H _ _, nY c, fun _ => ⟨_, _, hm_isKin _, fun _ => ⟨_, _, hf0, rfl, rfl⟩, nN c2⟩⟩)) (fun w1 M1 => en_X4_dampFor (sg_X4_dampFor_0 ⟨_, _, mm_areTwo M1 _ _, nY c, fun _ => ⟨_, _, mm_isKin _, fun _ => ⟨_, _, mf0, rfl, rfl⟩, nN c2⟩⟩))
  · exact Both.f0 (z7 0) H M I R (en_X3_dampFor (sg_X3_dampFor_0 ⟨_, _, hm_areTwo H _ _, fun _ => ⟨_, _, hf0, rfl, rfl⟩, nN c⟩)) (fun w1 M1 => en_X4_dampFor (sg_X4_dampFor_0 ⟨_, _, mm_areTwo M1 _ _, fun _ => ⟨_, _, mf0, rfl, rfl⟩, nN c⟩))
/-- kindFor: the best kind, and 1 more than its kin to all -/
def kfT (σ : Nat → Nat) (p n k : Nat) : Nat := skS (tN (su σ (21 + p) k) n) p
def kfS (σ : Nat → Nat) (p n : Nat) : Nat → Nat × Nat
  | 0 => (0, 0)
  | k + 1 => if (kfS σ p n k).2 ≤ kfT σ p n k then (k, kfT σ p n k + 1) else kfS σ p n k
theorem kf_le (I : Iv T σ) {p n : Nat} (hp : p < 8) {k : Nat} (hk : k < 7) : kfT σ p n k ≤ 7992 :=
  sk_le ((I.put (k := 21 + p) (v := k) (by omega)).turns n) hp ((I.put (k := 21 + p) (v := k) (by omega)).turns n).2.1
theorem kf_2 (I : Iv T σ) {p n : Nat} (hp : p < 8) : ∀ {k : Nat}, k ≤ 7 → (kfS σ p n k).2 ≤ 7993
  | 0, _ => by rw [kfS]; decide
  | k + 1, h => by
    rw [kfS]
    split
    · exact Nat.succ_le_succ (kf_le I hp (by omega))
    · exact kf_2 I hp (by omega)
theorem mm_kinOfOneBehind (M : Ms 38 σ z w) (I : Iv T σ) {a n : Nat} (ha : a < 8) (hn : n ≤ 1000) (hT : T + n < 99998) : ∃ w', mz_Call (d + 7) 166 [.ref 37, .int (nI a), .int (nI n)] w (some (.int (nI (skS (tN σ n) a)))) w' ∧ Ms 38 σ z w' ∧ Fr Mq w w' := by
  obtain ⟨w1, a1, a2, a3⟩ := mm_copyRow (d := d + 5) (a := 38) (b := 40) (by omega) (by omega) (by decide) M
  obtain ⟨w2, b1, b2, b3⟩ := mm_turns (d := d) (M.fr (a3 38 (by decide))) I hn hT
  obtain ⟨w3, c1, c2, c3⟩ := mm_putBack (d := d + 4) (a2.fr (b3 40 (by omega))) (nI (skS (tN σ n) a))
  exact ⟨w3, en_X4_kinOfOneBehind (sg_X4_kinOfOneBehind_0 ⟨w1, a1, w2, b1, _, _, mm_kinOfOne b2 (I.turns n) ha, _, _, c1, rfl, rfl⟩), c2, (a3.mono (by omega)).tr ((b3.mono (by omega)).tr (c3.mono (by omega)))⟩
theorem hm_kindFor {g : Int32} (I : Iv T σ) (hT : T ≤ 90000) {p n : Nat} (hp : p < 8) (hn : n ≤ 40) (hg : g = nI (kfS σ p n 7).1) : ∀ (m k : Nat) (j6 : Value) (w1 : mz_M), k + m = 7 → Hs 1 σ z w1 → Fr Tp w w1 → mz_Ex cd_X3_kindFor (mz_Call 10) (fun r2 w2 => ∃ u : Int32, r2 = some (.int u) ∧ (u = g ∧ Fr Tp w w2)) 33 [.ref 0, .int (nI p), .int (nI n), .int (nI (kfS σ p n k).1), .int (nP (kfS σ p n k).2), .int (nI k), j6] [] w1 := by
  intro m
  induction m with
  | zero =>
    intro k j6 w1 hk H1 F1
    refine sg_X3_kindFor_33 ?_
    rw [nI_ltI (by omega) (by omega)]
    exact ⟨fun c => absurd c (by omega), fun _ => ⟨_, rfl, by rw [hg, show k = 7 by omega], F1⟩⟩
  | succ m ih =>
    intro k j6 w1 hk H1 F1
    have I2 : Iv T (su σ (21 + p) k) := I.put (by omega)
    obtain ⟨w2, q1, q2, q3⟩ := hm_become (d := 9) (h := 9) (o := 1) (by omega) (by omega) (by decide) H1
    obtain ⟨w3, p1, p2, p3⟩ := hm_passTurns (d := 6) (Or.inr (Or.inl rfl)) (q2.kind (i := p) hp k) I2 (n := n) (by omega) (by omega)
    have F3 : Fr Tp w1 w3 := Fr.tr (Fr.tr (q3.mono (by omega)) (Fr.up (by omega))) (p3.mono (by omega))
    have l1 := kf_le I (n := n) hp (k := k) (by omega)
    have l2 := kf_2 I (n := n) hp (k := k) (by omega)
    have hi := fun j => ih (k + 1) j w3 (by omega) (H1.fr (fun k x y => F3 k (by omega))) (F1.tr F3)
    rw [kfS] at hi
    refine sg_X3_kindFor_33 ?_
    rw [nI_ltI (by omega) (by omega), nI_clamp (n := p) (by omega), nI_add]
    refine ⟨fun _ => ⟨w2, q1, vp_in_nI hp (by decide), w3, p1, nI (kfT σ p n k), w3, hm_kinToAll (Or.inr (Or.inl rfl)) p2 (I2.turns n) hp, fun c => ?_, fun c => ?_⟩, fun c => absurd (show k < 7 by omega) c⟩
    · rw [nP_lt (by omega) (by omega)] at c
      rw [if_pos c, nP_s] at hi
      exact hi _
    · rw [nP_lt (by omega) (by omega)] at c
      rw [if_neg c] at hi
      exact hi _
theorem rf_kindFor {g : Int32} (I : Iv T σ) (hT : T ≤ 90000) {p n : Nat} (hp : p < 8) (hn : n ≤ 40) (hg : g = nI (kfS σ p n 7).1) : ∀ (m k e : Nat) (j7 : Value) (w1 : mz_M), k + m = 7 → Ms 38 (su σ (21 + p) e) z w1 → Fr Mq w w1 → mz_Ex cd_X4_kindFor (mz_Call 10) (fun r2 w2 => ∃ u : Int32, r2 = some (.int u) ∧ (u = g ∧ Ms 38 σ z w2 ∧ Fr Mq w w2)) 41 [.ref 37, .int (nI p), .int (nI n), .int (nI (σ (21 + p))), .int (nI (kfS σ p n k).1), .int (nP (kfS σ p n k).2), .int (nI k), j7] [] w1 := by
  intro m
  induction m with
  | zero =>
    intro k e j7 w1 hk M1 F1
    have M2 := M1.set (j := 21 + p) (v := σ (21 + p)) (by omega)
    rw [su_su, su_id] at M2
    refine sg_X4_kindFor_41 ?_
    rw [nI_ltI (by omega) (by omega), nI_add, nI_clamp (by omega)]
    exact ⟨fun _ => ⟨vp_in_nI (by omega) (by decide), _, rfl, by rw [hg, show k = 7 by omega], M2, F1.tr (Fr.up (by omega))⟩, fun c => absurd (show 6 < k by omega) c⟩
  | succ m ih =>
    intro k e j7 w1 hk M1 F1
    have I2 : Iv T (su σ (21 + p) k) := I.put (by omega)
    have M2 := M1.set (j := 21 + p) (v := k) (by omega)
    rw [su_su] at M2
    obtain ⟨w3, p1, p2, p3⟩ := mm_kinOfOneBehind (d := 3) M2 I2 (a := p) (n := n) hp (by omega) (by omega)
    have l1 := kf_le I (n := n) hp (k := k) (by omega)
    have l2 := kf_2 I (n := n) hp (k := k) (by omega)
    have hi := fun j => ih (k + 1) k j w3 (by omega) p2 (F1.tr (Fr.tr (Fr.up (by omega)) p3))
    rw [kfS] at hi
    refine sg_X4_kindFor_41 ?_
    rw [nI_ltI (by omega) (by omega), nI_add, nI_clamp (n := 21 + p) (by omega), nI_add]
    refine ⟨fun c => absurd c (by omega), fun _ => ⟨vp_in_nI (by omega) (by decide), nI (kfT σ p n k), w3, p1, fun c => ?_, fun c => ?_⟩⟩
    · rw [if_pos c]
      rw [nP_lt (by omega) (by omega)] at c
      rw [if_pos c, nP_s] at hi
      exact hi _
    · rw [if_neg c]
      rw [nP_lt (by omega) (by omega)] at c
      rw [if_neg c] at hi
      exact hi _
theorem bo_kindFor (R : Rel T w) (hT : T ≤ 90000) (x n : Int32) : Both T T 67 167 [.int x, .int n] w := by
  obtain ⟨σ, z, H, M, I, R⟩ := R
  have h8 := I.2.1
  by_cases c : isP (σ 1) x
  · by_cases c2 : wn n (nI 0) (nI 40)
    · obtain ⟨p, hp, rfl⟩ := (isP_iff I.2.1).mp c
      obtain ⟨n, -, hn, rfl⟩ := (wn_iff (by decide) (by decide)).mp c2
      refine Both.ok (r := nI (kfS σ p n 7).1) (σ' := σ) (z' := z) M R (Nat.le_refl _) I ?_ (fun w1 M1 => ?_)
      · have L := hm_kindFor (z := z) (w := w) I hT (p := p) (n := n) (by omega) hn rfl 7 0 .null w (by omega) H Fr.rf
        rw [show (kfS σ p n 0).2 = 0 from rfl, nP_0] at L
        obtain ⟨u, w2, q1, rfl, q3⟩ := ec_X3_kindFor (sg_X3_kindFor_0 ⟨_, _, hm_isThere H _, nY c, fun _ => ⟨_, _, hm_within _ _ _, nY c2, fun _ => L⟩⟩)
        exact ⟨w2, q1, H.fr (fun k x y => q3 k (by omega)), q3.mono (by omega)⟩
      · have L := rf_kindFor (z := z) (w := w1) I hT (p := p) (n := n) (by omega) hn rfl 7 0 (σ (21 + p)) .null w1 (by omega) (by rw [su_id]; exact M1) Fr.rf
        rw [show (kfS σ p n 0).2 = 0 from rfl, nP_0] at L
        obtain ⟨u, w2, q1, rfl, q2, q3⟩ := ec_X4_kindFor (Po := fun u w2 => u = nI (kfS σ p n 7).1 ∧ Ms 38 σ z w2 ∧ Fr Mq w1 w2) (sg_X4_kindFor_0 ⟨_, _, mm_isPerson M1 _, nY c, fun _ => ⟨_, _, mm_isThought _, nY c2, fun _ => by
          rw [nI_add, nI_clamp (by omega), M1.2.2.2.2.2 _ (by omega) (by omega)]
          exact ⟨vp_in_nI (by omega) (by decide), L⟩⟩⟩)
        exact ⟨w2, q1, q2, q3⟩
    · exact Both.f0 (z7 0) H M I R (en_X3_kindFor (sg_X3_kindFor_0 ⟨_, _, hm_isThere H _, nY c, fun _ => ⟨_, _, hm_within _ _ _, fun _ => ⟨_, _, hf0, rfl, rfl⟩, nN c2⟩⟩)) (fun w1 M1 => en_X4_kindFor (sg_X4_kindFor_0 ⟨_, _, mm_isPerson M1 _, nY c, fun _ => ⟨_, _, mm_isThought _, fun _ => ⟨_, _, mf0, rfl, rfl⟩, nN c2⟩⟩))
  · exact Both.f0 (z7 0) H M I R (en_X3_kindFor (sg_X3_kindFor_0 ⟨_, _, hm_isThere H _, fun _ => ⟨_, _, hf0, rfl, rfl⟩, nN c⟩)) (fun w1 M1 => en_X4_kindFor (sg_X4_kindFor_0 ⟨_, _, mm_isPerson M1 _, fun _ => ⟨_, _, mf0, rfl, rfl⟩, nN c⟩))
end FO
