/-! tokens of the reference; words and numbers told, both sides -/
theorem wn_n {b lo hi : Nat} (hb : b < 2 ^ 31) (hl : lo < 2 ^ 31) (hh : hi < 2 ^ 31) : wn (nI b) (nI lo) (nI hi) ↔ lo ≤ b ∧ b ≤ hi := by
  show ¬ nI b < nI lo ∧ ¬ nI hi < nI b ↔ _
  rw [nI_ltI hb hl, nI_ltI hh hb]
  omega
theorem wn_m {lo hi : Nat} (hl : lo < 2 ^ 31) : ¬ wn (-1 : Int32) (nI lo) (nI hi) := by
  rintro ⟨h, -⟩
  apply h
  rw [Int32.lt_iff_toInt_lt, nI_toInt hl, show (-1 : Int32).toInt = -1 by decide]
  omega
theorem up_id {w : mz_M} {k j : Nat} {x : Int32} (h : w k j = x) : mz_up w k (upd (w k) j x) = w := by
  funext i
  by_cases c : i = k
  · subst c
    rw [mu_s]
    funext a
    by_cases c2 : a = j
    · subst c2; rw [pk_us, h]
    · rw [pk_un c2]
  · rw [mu_n c]
/-- a number below m stands at e -/
abbrev nm (B : Nat → Nat) (N e m : Nat) : Prop := tk B N e = 2 ∧ tv B N e < m
/-- the reference has found a fault -/
def wr (w : mz_M) : mz_M := mz_up w 37 (upd (w 37) 15 (nI 1))
section TKM
variable {d : Nat} {w : mz_M} {B : Nat → Nat} {N : Nat}
theorem mm_byteI (hN : N ≤ 120) (T : MB B N w) {s : Nat} (hs : s < N) : mz_Call (d + 1) 183 [.ref 37, .int (nI s)] w (some (.int (nI (B s)))) w := by
  refine en_X4_byteAt (sg_X4_byteAt_0 ?_)
  rw [T.1, nI_ltI (by omega) (by omega), nI_clamp (n := s) (by omega), T.2 s hs]
  exact ⟨fun c => ⟨vp_in_nI (by omega) (by decide), rfl, rfl⟩, fun c => absurd hs c⟩
theorem mm_byteO (hN : N ≤ 120) (T : MB B N w) {s : Nat} (hs : s = N) : mz_Call (d + 1) 183 [.ref 37, .int (nI s)] w (some (.int (-1 : Int32))) w := by
  refine en_X4_byteAt (sg_X4_byteAt_0 ?_)
  rw [T.1, nI_ltI (by omega) (by omega)]
  exact ⟨fun c => absurd c (by omega), fun _ => ⟨rfl, rfl⟩⟩
def mPo (w : mz_M) (s x k v : Nat) : mz_Q := fun r1 w1 => r1 = none ∧ (w1 37 11 = nI s ∧ w1 37 12 = nI x ∧ w1 37 13 = nI k ∧ w1 37 14 = nI v) ∧ FM w w1
theorem mm_next84 (hN : N ≤ 120) (hB : ∀ j, B j < 256) {s v : Nat} (j1 : Value) : ∀ (m x : Nat) (w1 : mz_M), x + m = N → MB B N w1 → FM w w1 → w1 37 11 = nI s → w1 37 12 = nI x → w1 37 13 = nI 1 → w1 37 14 = nI v → mz_Ex cd_X4_next (mz_Call (d + 1)) (mPo w s (wE B m x) 1 v) 84 [.ref 37, j1] [] w1 := by
  intro m
  induction m with
  | zero =>
    intro x w1 hx T F e1 e2 e3 e4
    refine sg_X4_next_84 ?_
    rw [e2]
    exact ⟨_, _, mm_byteO hN T (by omega), _, _, mm_within _ _ _, fun _ => ⟨rfl, ⟨e1, e2, e3, e4⟩, F⟩, nN (wn_m (by decide))⟩
  | succ m ih =>
    intro x w1 hx T F e1 e2 e3 e4
    have hb := hB x
    refine sg_X4_next_84 ?_
    rw [e2]
    refine ⟨_, _, mm_byteI hN T (by omega), _, _, mm_within _ _ _, fun c => ?_, fun c => ?_⟩
    · rw [nB_0, wn_n (by omega) (by decide) (by decide)] at c
      rw [wE, if_neg c]
      exact ⟨rfl, ⟨e1, e2, e3, e4⟩, F⟩
    · rw [nB_0, Classical.not_not, wn_n (by omega) (by decide) (by decide)] at c
      rw [wE, if_pos c]
      refine ih (x + 1) _ (by omega) (T.fr (FM.up (by decide) (by decide))) (F.tr (FM.up (by decide) (by decide))) ?_ ?_ ?_ ?_
      · rw [mu_s, pk_un (by decide)]; exact e1
      · rw [mu_s, pk_us, e2, nI_add]
      · rw [mu_s, pk_un (by decide)]; exact e3
      · rw [mu_s, pk_un (by decide)]; exact e4
theorem mm_next131 (hN : N ≤ 120) (hB : ∀ j, B j < 256) {s : Nat} (j1 : Value) : ∀ (m x v : Nat) (w1 : mz_M), x + m = N → v ≤ 1000 → MB B N w1 → FM w w1 → w1 37 11 = nI s → w1 37 12 = nI x → w1 37 13 = nI 2 → w1 37 14 = nI v → mz_Ex cd_X4_next (mz_Call (d + 1)) (mPo w s (dE B m x v).1 2 (dE B m x v).2) 131 [.ref 37, j1] [] w1 := by
  intro m
  induction m with
  | zero =>
    intro x v w1 hx hv T F e1 e2 e3 e4
    refine sg_X4_next_131 ?_
    rw [e2]
    exact ⟨_, _, mm_byteO hN T (by omega), _, _, mm_within _ _ _, fun _ => ⟨rfl, ⟨e1, e2, e3, e4⟩, F⟩, nN (wn_m (by decide))⟩
  | succ m ih =>
    intro x v w1 hx hv T F e1 e2 e3 e4
    have hb := hB x
    refine sg_X4_next_131 ?_
    rw [e2]
    refine ⟨_, _, mm_byteI hN T (by omega), _, _, mm_within _ _ _, fun c => ?_, fun c => ?_⟩
    · rw [nB_0, wn_n (by omega) (by decide) (by decide)] at c
      rw [dE, if_neg c]
      exact ⟨rfl, ⟨e1, e2, e3, e4⟩, F⟩
    · rw [nB_0, Classical.not_not, wn_n (by omega) (by decide) (by decide)] at c
      rw [dE, if_pos c, e2]
      refine ⟨_, _, mm_byteI hN T (by omega), ?_⟩
      dsimp only
      rw [e4, nv_m hv c.1 c.2]
      refine ih (x + 1) _ _ (by omega) (Nat.min_le_left _ _) (T.fr ((FM.up (by decide) (by decide)).tr (FM.up (by decide) (by decide)))) (F.tr ((FM.up (by decide) (by decide)).tr (FM.up (by decide) (by decide)))) ?_ ?_ ?_ ?_
      · rw [mu_s, pk_un (by decide), mu_s, pk_un (by decide)]; exact e1
      · rw [mu_s, pk_us, mu_s, pk_un (by decide), e2, nI_add]
      · rw [mu_s, pk_un (by decide), mu_s, pk_un (by decide)]; exact e3
      · rw [mu_s, pk_un (by decide), mu_s, pk_us]
theorem mm_next (hN : N ≤ 120) (hB : ∀ j, B j < 256) {e : Nat} (he : e ≤ N) (T : MB B N w) (e0 : w 37 12 = nI e) : ∃ w', mz_Call (d + 2) 184 [.ref 37] w none w' ∧ (Tm B N e w' ∧ FM w w') := by
  have F4 : ∀ (v : mz_M) (x : Int32), FM v (mz_up v 37 (upd (v 37) 12 x)) := fun v x => FM.up (by decide) (by decide)
  have loop : ∀ (m x : Nat) (w1 : mz_M), x + m = N → MB B N w1 → FM w w1 → w1 37 11 = nI x → tB B m x = ts B N e → mz_Ex cd_X4_next (mz_Call (d + 1)) (fun r1 w' => r1 = none ∧ (Tm B N e w' ∧ FM w w')) 8 [.ref 37, .null] [] w1 := by
    intro m
    induction m with
    | zero =>
      intro x w1 hx T1 F1 e1 et
      rw [tB] at et
      have k0 : tk B N e = 0 := by
        unfold tk
        rw [if_neg (by omega)]
      refine sg_X4_next_8 ?_
      rw [e1]
      refine ⟨_, _, mm_byteO hN T1 (by omega), fun c => absurd c (by decide), fun _ => ?_⟩
      rw [e1]
      refine ⟨_, _, mm_byteO hN T1 (by omega), fun _ => ⟨rfl, ⟨?_, ?_, ?_, ?_⟩, F1.tr ((FM.up (by decide) (by decide)).tr ((FM.up (by decide) (by decide)).tr (FM.up (by decide) (by decide))))⟩, fun c => absurd (by decide) c⟩
      · rw [mu_s, pk_un (by decide), mu_s, pk_un (by decide), mu_s, pk_un (by decide), e1, et]
      · rw [mu_s, pk_un (by decide), mu_s, pk_un (by decide), mu_s, pk_us, e1, et]
        unfold tf te
        rw [k0]
        rfl
      · rw [mu_s, pk_us]
        unfold tg
        rw [k0]
        rfl
      · rw [mu_s, pk_un (by decide), mu_s, pk_us]
        unfold tv
        rw [k0]
        rfl
    | succ m ih =>
      intro x w1 hx T1 F1 e1 et
      rw [tB] at et
      have hb := hB x
      refine sg_X4_next_8 ?_
      rw [e1]
      refine ⟨_, _, mm_byteI hN T1 (by omega), fun c => ?_, fun c => ?_⟩
      · rw [nI_eq (by omega) (by omega)] at c
        rw [if_pos c] at et
        exact ih (x + 1) _ (by omega) (T1.fr (FM.up (by decide) (by decide))) (F1.tr (FM.up (by decide) (by decide))) (by rw [mu_s, pk_us, e1, nI_add]) et
      · rw [nI_eq (by omega) (by omega)] at c
        rw [if_neg c] at et
        have kk : tk B N e = sN (B x) := by
          unfold tk
          rw [← et, if_pos (by omega)]
        rw [e1]
        refine ⟨_, _, mm_byteI hN T1 (by omega), fun c2 => ?_, fun _ => ⟨_, _, mm_within _ _ _, fun c3 => ⟨_, _, mm_within _ _ _, fun c4 => ?_, fun c4 => ?_⟩, fun c3 => ?_⟩⟩
        · rw [nI_ltI (by omega) (by omega)] at c2; omega
        · rw [nB_0, wn_n (by omega) (by decide) (by decide)] at c3 c4
          have hg : tg B N e = 3 := by
            unfold tg
            rw [kk]
            unfold sN
            rw [if_neg c3, if_neg c4]
            split <;> rfl
          have hf : tf B N e = x + 1 := by
            unfold tf te
            rw [kk, ← et]
            unfold sN
            rw [if_neg c3, if_neg c4]
            split <;> rfl
          have hv : tv B N e = 0 := by
            unfold tv
            rw [kk]
            unfold sN
            rw [if_neg c3, if_neg c4]
            split <;> rfl
          refine ⟨rfl, ⟨?_, ?_, ?_, ?_⟩, F1.tr ((FM.up (by decide) (by decide)).tr ((FM.up (by decide) (by decide)).tr ((FM.up (by decide) (by decide)).tr (FM.up (by decide) (by decide)))))⟩
          · rw [mu_s, pk_un (by decide), mu_s, pk_un (by decide), mu_s, pk_un (by decide), mu_s, pk_un (by decide), e1, et]
          · rw [mu_s, pk_us, mu_s, pk_un (by decide), mu_s, pk_un (by decide), mu_s, pk_us, e1, nI_add, hf]
          · rw [mu_s, pk_un (by decide), mu_s, pk_us, hg]
          · rw [mu_s, pk_un (by decide), mu_s, pk_un (by decide), mu_s, pk_us, hv]
        · rw [nB_0, wn_n (by omega) (by decide) (by decide)] at c3
          rw [nB_0, Classical.not_not, wn_n (by omega) (by decide) (by decide)] at c4
          have k2 : tk B N e = 2 := by
            rw [kk]
            unfold sN
            rw [if_neg c3, if_pos c4]
          have L := mm_next131 (d := d) (w := w) hN hB (s := x) (.int (nI (B x))) (N - x) x 0 (mz_up (mz_up (mz_up w1 37 (upd (w1 37) 12 (w1 37 11))) 37 (upd (mz_up w1 37 (upd (w1 37) 12 (w1 37 11)) 37) 14 (nI 0))) 37 (upd (mz_up (mz_up w1 37 (upd (w1 37) 12 (w1 37 11))) 37 (upd (mz_up w1 37 (upd (w1 37) 12 (w1 37 11)) 37) 14 (nI 0)) 37) 13 (nI 2))) (by omega) (by decide) (T1.fr ((FM.up (by decide) (by decide)).tr ((FM.up (by decide) (by decide)).tr (FM.up (by decide) (by decide))))) (F1.tr ((FM.up (by decide) (by decide)).tr ((FM.up (by decide) (by decide)).tr (FM.up (by decide) (by decide))))) (by rw [mu_s, pk_un (by decide), mu_s, pk_un (by decide), mu_s, pk_un (by decide), e1]) (by rw [mu_s, pk_un (by decide), mu_s, pk_un (by decide), mu_s, pk_us, e1]) (by rw [mu_s, pk_us]) (by rw [mu_s, pk_un (by decide), mu_s, pk_us])
          have p1 : tf B N e = (dE B (N - x) x 0).1 := by
            unfold tf te
            rw [k2, ← et]
            rfl
          have p2 : tg B N e = 2 := by
            unfold tg
            rw [k2]
            rfl
          have p3 : tv B N e = (dE B (N - x) x 0).2 := by
            unfold tv
            rw [k2, ← et]
            rfl
          unfold Tm
          rw [p1, p2, p3, ← et]
          exact L
        · rw [nB_0, Classical.not_not, wn_n (by omega) (by decide) (by decide)] at c3
          have k1 : tk B N e = 1 := by
            rw [kk]
            unfold sN
            rw [if_pos c3]
          have L := mm_next84 (d := d) (w := w) hN hB (s := x) (v := 0) (.int (nI (B x))) (N - x) x (mz_up (mz_up (mz_up w1 37 (upd (w1 37) 12 (w1 37 11))) 37 (upd (mz_up w1 37 (upd (w1 37) 12 (w1 37 11)) 37) 14 (nI 0))) 37 (upd (mz_up (mz_up w1 37 (upd (w1 37) 12 (w1 37 11))) 37 (upd (mz_up w1 37 (upd (w1 37) 12 (w1 37 11)) 37) 14 (nI 0)) 37) 13 (nI 1))) (by omega) (T1.fr ((FM.up (by decide) (by decide)).tr ((FM.up (by decide) (by decide)).tr (FM.up (by decide) (by decide))))) (F1.tr ((FM.up (by decide) (by decide)).tr ((FM.up (by decide) (by decide)).tr (FM.up (by decide) (by decide))))) (by rw [mu_s, pk_un (by decide), mu_s, pk_un (by decide), mu_s, pk_un (by decide), e1]) (by rw [mu_s, pk_un (by decide), mu_s, pk_un (by decide), mu_s, pk_us, e1]) (by rw [mu_s, pk_us]) (by rw [mu_s, pk_un (by decide), mu_s, pk_us])
          have p1 : tf B N e = wE B (N - x) x := by
            unfold tf te
            rw [k1, ← et]
            rfl
          have p2 : tg B N e = 1 := by
            unfold tg
            rw [k1]
            rfl
          have p3 : tv B N e = 0 := by
            unfold tv
            rw [k1]
            rfl
          unfold Tm
          rw [p1, p2, p3, ← et]
          exact L
  exact ec_X4_next (sg_X4_next_0 (loop (N - e) e _ (by omega) (T.fr (FM.up (by decide) (by decide))) (FM.up (by decide) (by decide)) (by rw [mu_s, pk_us, e0]) rfl))
theorem hm_isWord (hN : N ≤ 120) {e t : Nat} (he : e ≤ N) (ht : t < 11) (T : TB B N w) (K : Tk B N e w) : mz_Call (d + 4) 42 [.ref 25, .ref (60 + t)] w (some (.int (nB (isW B N e t)))) w := by
  have hl := xl_le t ht
  have h1 := ts_le B he
  have h2 := te_le B he
  have h3 := tk_le B N e
  have ht2 : 60 ≤ 60 + t ∧ 60 + t < 71 := by omega
  have loop : tk B N e = 1 → te B N e - ts B N e = xl t → ∀ m i, i + m = xl t → (∀ j, j < i → nI (B (ts B N e + j)) = xb t j) → mz_Ex cd_X2_isWord (mz_Call (d + 3)) (fun r1 w1 => r1 = some (.int (nB (isW B N e t))) ∧ w1 = w) 28 [.ref 25, .ref (60 + t), .int (nI i)] [] w := by
    intro k1 k2 m
    induction m with
    | zero =>
      intro i hi a
      refine sg_X2_isWord_28 ⟨ht2, _, _, hm_length ht, ?_⟩
      rw [nI_ltI (by omega) (by omega)]
      refine ⟨fun c => absurd c (by omega), fun _ => ⟨nz_11, ?_, rfl⟩⟩
      rw [nB_t ⟨k1, k2, fun j hj => a j (by omega)⟩]
    | succ m ih =>
      intro i hi a
      refine sg_X2_isWord_28 ⟨ht2, _, _, hm_length ht, ?_⟩
      rw [nI_ltI (by omega) (by omega)]
      refine ⟨fun _ => ⟨ht2, _, _, hm_charAt ht (by omega), ?_⟩, fun c => absurd (show i < xl t by omega) c⟩
      rw [K.1, nI_add, nI_add, nI_clamp (n := ts B N e + i) (by omega), T.2 _ (by omega)]
      refine ⟨vp_in_nI (by omega) (by decide), fun c => ih (i + 1) (by omega) (fun j hj => ?_), fun c => ⟨nz_01, ?_, rfl⟩⟩
      · by_cases q : j = i
        · rw [q, c]
        · exact a j (by omega)
      · rw [nB_f (fun q => c (q.2.2 i (by omega)).symm)]
  refine en_X2_isWord (sg_X2_isWord_0 ?_)
  rw [K.2.2.1, nI_eq (by omega) (by omega)]
  refine ⟨fun k1 => ⟨ht2, _, _, hm_length ht, ?_⟩, fun c => ⟨nz_01, ?_, rfl⟩⟩
  · rw [K.1, K.2.1, pk_sub h2.1, nI_eq (by omega) (by omega)]
    refine ⟨fun c => loop k1 c.symm (xl t) 0 (by omega) (fun j hj => absurd hj (by omega)), fun c => ⟨nz_01, ?_, rfl⟩⟩
    rw [nB_f (fun q => c q.2.1.symm)]
  · rw [nB_f (fun q => c q.1)]
theorem mm_isWord (hN : N ≤ 120) {e t : Nat} (he : e ≤ N) (ht : t < 11) (T : MB B N w) (K : Tm B N e w) : mz_Call (d + 4) 185 [.ref 37, .ref (60 + t)] w (some (.int (nB (isW B N e t)))) w := by
  have hl := xl_le t ht
  have h1 := ts_le B he
  have h2 := te_le B he
  have h3 := tk_le B N e
  have ht2 : 60 ≤ 60 + t ∧ 60 + t < 71 := by omega
  have no : ∀ i, i ≤ 8 → ¬ isW B N e t → mz_Ex cd_X4_isWord (mz_Call (d + 3)) (fun r1 w1 => r1 = some (.int (nB (isW B N e t))) ∧ w1 = w) 32 [.ref 37, .ref (60 + t), .int (nI 0), .int (nI i)] [] w := by
    intro i hi c
    refine sg_X4_isWord_32 ⟨ht2, _, _, hm_length ht, fun _ => ⟨fun _ => ⟨nz_01, ?_, rfl⟩, nS⟩, fun _ => ⟨nz_01, ?_, rfl⟩⟩
    · rw [nB_f c]
    · rw [nB_f c]
  have loop : tk B N e = 1 → te B N e - ts B N e = xl t → ∀ m i, i + m = xl t → (∀ j, j < i → nI (B (ts B N e + j)) = xb t j) → mz_Ex cd_X4_isWord (mz_Call (d + 3)) (fun r1 w1 => r1 = some (.int (nB (isW B N e t))) ∧ w1 = w) 32 [.ref 37, .ref (60 + t), .int (nI 1), .int (nI i)] [] w := by
    intro k1 k2 m
    induction m with
    | zero =>
      intro i hi a
      refine sg_X4_isWord_32 ⟨ht2, _, _, hm_length ht, ?_⟩
      rw [nI_ltI (by omega) (by omega)]
      refine ⟨fun c => absurd c (by omega), fun _ => ⟨nz_11, ?_, rfl⟩⟩
      rw [nB_t ⟨k1, k2, fun j hj => a j (by omega)⟩]
    | succ m ih =>
      intro i hi a
      refine sg_X4_isWord_32 ⟨ht2, _, _, hm_length ht, ?_⟩
      rw [nI_ltI (by omega) (by omega), K.1, nI_add, nI_add, nI_clamp (n := ts B N e + i) (by omega)]
      refine ⟨fun _ => ⟨nA n10, fun _ => ⟨vp_in_nI (by omega) (by decide), ht2, _, _, hm_charAt ht (by omega), ?_⟩⟩, fun c => absurd (show i < xl t by omega) c⟩
      rw [T.2 _ (by omega)]
      refine ⟨fun c => ih (i + 1) (by omega) (fun j hj => ?_), fun c => no (i + 1) (by omega) (fun q => c (q.2.2 i (by omega)))⟩
      by_cases q : j = i
      · rw [q, c]
      · exact a j (by omega)
  have g1 : tg B N e = 1 ↔ tk B N e = 1 := by
    unfold tg
    split <;> omega
  have g2 : tg B N e ≤ 4 := by
    unfold tg
    split <;> omega
  refine en_X4_isWord (sg_X4_isWord_0 ?_)
  rw [K.2.2.1, nI_eq (by omega) (by omega), g1]
  refine ⟨fun k1 => ⟨ht2, _, _, hm_length ht, ?_⟩, fun c => no 0 (by decide) (fun q => c q.1)⟩
  have f1 : tf B N e = te B N e := by
    unfold tf
    rw [if_neg (by omega)]
  rw [K.1, K.2.1, f1, pk_sub h2.1, nI_eq (by omega) (by omega)]
  exact ⟨fun c => loop k1 c (xl t) 0 (by omega) (fun j hj => absurd hj (by omega)), fun c => no 0 (by decide) (fun q => c q.2.1)⟩
theorem hm_isNumber {e m : Nat} (hm : m ≤ 1000) (K : Tk B N e w) : mz_Call (d + 1) 43 [.ref 25, .int (nP m)] w (some (.int (nB (nm B N e m)))) w := by
  have h3 := tk_le B N e
  have h4 := tv_le B N e
  refine en_X2_isNumber (sg_X2_isNumber_0 ?_)
  rw [K.2.2.1, K.2.2.2, nI_eq (by omega) (by omega), nP_lt (by omega) (by omega)]
  refine ⟨fun c => ⟨fun c2 => ⟨nz_01, ?_, rfl⟩, fun c2 => ⟨nz_11, ?_, rfl⟩⟩, fun c => ⟨nz_01, ?_, rfl⟩⟩
  · rw [nB_f (fun q => absurd q.2 (by omega))]
  · rw [nB_t ⟨c, by omega⟩]
  · rw [nB_f (fun q => c q.1)]
theorem mm_mustT (hN : N ≤ 120) (hB : ∀ j, B j < 256) {e : Nat} (he : e ≤ N) (T : MB B N w) (e0 : w 37 12 = nI e) (e5 : w 37 15 = nI 0) : ∃ w', mz_Call (d + 3) 186 [.ref 37, .int (nI 1)] w none w' ∧ Tm B N e w' ∧ FM w w' := by
  obtain ⟨w1, q1, q2, q3⟩ := mm_next (d := d) hN hB he T e0
  refine ⟨w1, en_X4_must (sg_X4_must_0 ?_), q2, q3⟩
  dsimp only
  refine ⟨fun _ => ⟨nA n10, fun _ => ⟨nz_01, ?_⟩⟩, fun c => absurd e5 c⟩
  rw [up_id e5]
  exact ⟨fun _ => ⟨w1, q1, rfl, rfl⟩, fun c => absurd e5 c⟩
theorem mm_mustF (e5 : w 37 15 = nI 0) : mz_Call (d + 3) 186 [.ref 37, .int (nI 0)] w none (wr w) := by
  refine en_X4_must (sg_X4_must_0 ?_)
  dsimp only
  refine ⟨fun _ => ⟨fun _ => ⟨nz_11, ?_⟩, nS⟩, fun c => absurd e5 c⟩
  rw [mu_s, pk_us]
  exact ⟨nA n10, fun _ => ⟨rfl, rfl⟩⟩
theorem mm_mustW (e5 : w 37 15 = nI 1) (x : Int32) : mz_Call (d + 3) 186 [.ref 37, .int x] w none w := by
  refine en_X4_must (sg_X4_must_0 ?_)
  dsimp only
  refine ⟨fun c => absurd (e5.symm.trans c) n10, fun _ => ⟨nz_11, ?_⟩⟩
  rw [up_id e5]
  exact ⟨fun c => absurd (e5.symm.trans c) n10, fun _ => ⟨rfl, rfl⟩⟩
theorem wn_p {v m : Nat} (hv : v < 2 ^ 31) (hm : m < 2 ^ 31) : wn (nI v) (nI 0) (nP m) ↔ v < m := by
  show ¬ nI v < nI 0 ∧ ¬ nP m < nI v ↔ _
  rw [nI_ltI hv (by decide), nP_lt hm hv]
  omega
theorem mm_numT (hN : N ≤ 120) (hB : ∀ j, B j < 256) {e m : Nat} (he : e ≤ N) (hm : m ≤ 1000) (T : MB B N w) (K : Tm B N e w) (e5 : w 37 15 = nI 0) (c : nm B N e m) : ∃ w', mz_Call (d + 4) 187 [.ref 37, .int (nI 0), .int (nP m)] w (some (.int (nI (tv B N e)))) w' ∧ Tm B N (te B N e) w' ∧ FM w w' := by
  have h4 := tv_le B N e
  have f1 : tf B N e = te B N e := by
    unfold tf
    rw [if_neg (by omega)]
  have g1 : tg B N e = 2 := by
    unfold tg
    rw [if_neg (by omega), c.1]
  obtain ⟨w1, q1, q2, q3⟩ := mm_mustT (d := d) hN hB (te_le B he).2 T (by rw [K.2.1, f1]) e5
  refine ⟨w1, en_X4_number (sg_X4_number_0 ?_), q2, q3⟩
  rw [K.2.2.1, g1, K.2.2.2]
  exact ⟨fun _ => ⟨_, _, mm_within _ _ _, nY ((wn_p (by omega) (by omega)).mpr c.2), fun _ => ⟨w1, q1, rfl, rfl⟩⟩, nS⟩
theorem mm_numF {e m : Nat} (hm : m ≤ 1000) (K : Tm B N e w) (e5 : w 37 15 = nI 0) (c : ¬ nm B N e m) : mz_Call (d + 4) 187 [.ref 37, .int (nI 0), .int (nP m)] w (some (.int (nI (tv B N e)))) (wr w) := by
  have h4 := tv_le B N e
  have h3 := tk_le B N e
  have g1 : tg B N e = 2 ↔ tk B N e = 2 := by
    unfold tg
    split <;> omega
  have g2 : tg B N e ≤ 4 := by
    unfold tg
    split <;> omega
  refine en_X4_number (sg_X4_number_0 ?_)
  rw [K.2.2.1, K.2.2.2, nI_eq (by omega) (by omega), g1]
  refine ⟨fun c1 => ⟨_, _, mm_within _ _ _, fun _ => ⟨_, mm_mustF e5, rfl, rfl⟩, fun c2 => ?_⟩, fun _ => ⟨_, mm_mustF e5, rfl, rfl⟩⟩
  rw [nB_0, Classical.not_not, wn_p (by omega) (by omega)] at c2
  exact absurd ⟨c1, c2⟩ c
theorem mm_numW (e5 : w 37 15 = nI 1) (x y : Int32) : mz_Call (d + 4) 187 [.ref 37, .int x, .int y] w (some (.int (w 37 14))) w :=
  en_X4_number (sg_X4_number_0 ⟨fun _ => ⟨_, _, mm_within _ _ _, fun _ => ⟨_, mm_mustW e5 _, rfl, rfl⟩, fun _ => ⟨_, mm_mustW e5 _, rfl, rfl⟩⟩, fun _ => ⟨_, mm_mustW e5 _, rfl, rfl⟩⟩)
end TKM
