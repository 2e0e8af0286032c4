/-! texts: the text constants; tokens of a tape, pure and on both sides -/
/-- text t: its length, its signs -/
def xl (t : Nat) : Nat := (mz_tx (60 + t)).length
def xb (t i : Nat) : Int32 := (mz_tx (60 + t)).getD i 0
theorem xl_le : ∀ t, t < 11 → xl t ≤ 8 := by decide +kernel
theorem xl_pos : ∀ t, t < 11 → 1 ≤ xl t := by decide +kernel
theorem xb_ch : ∀ t, t < 11 → ∀ i, i < 8 → ((xb t i &&& nI 255).toUInt32 % 65536).toInt32 = xb t i ∧ narrow .char (.int (xb t i)) = .int (xb t i) := by decide +kernel
/-- two texts of the kinds differ -/
theorem xt_ne : ∀ t, t < 7 → ∀ u, u < 7 → t ≠ u → xl t ≠ xl u ∨ xb t 0 ≠ xb u 0 := by decide +kernel
section XT
variable {d : Nat} {w : mz_M}
theorem hm_coder {t : Nat} (ht : t < 11) : mz_Call (d + 1) 216 [.ref (60 + t)] w (some (.int (nI 0))) w :=
  en_J0_coder_7d493 (sg_J0_coder_7d493_0 ⟨nA n10, fun _ => ⟨by omega, rfl, rfl, rfl⟩⟩)
theorem hm_length {t : Nat} (ht : t < 11) : mz_Call (d + 2) 214 [.ref (60 + t)] w (some (.int (nI (xl t)))) w := by
  have hl := xl_le t ht
  refine en_J0_length_8abf5 (sg_J0_length_8abf5_0 ⟨by omega, by omega, by omega, _, _, hm_coder ht, ?_⟩)
  rw [Nat.add_sub_cancel, show (mz_tx (60 + t)).length = xl t from rfl, pk_shrN (by omega) (nI 0 &&& 31) 0 (nb_sh 0 (by decide)), Nat.pow_zero, Nat.div_one]
  exact ⟨rfl, rfl⟩
theorem hm_isLatin1 {t : Nat} (ht : t < 11) : mz_Call (d + 1) 217 [.ref (60 + t)] w (some (.int (nI 1))) w :=
  en_J0_isLatin1_aae02 (sg_J0_isLatin1_aae02_0 ⟨nA n10, fun _ => ⟨by omega, fun _ => ⟨nz_11, rfl, rfl⟩, nS⟩⟩)
theorem hm_checkIndex {i n : Nat} (h : i < n) (hn : n < 2 ^ 31) : mz_Call (d + 1) 219 [.int (nI i), .int (nI n)] w none w :=
  (show 219 = 219 ∧ mz_chk [.int (nI i), .int (nI n)] w none w from ⟨rfl, nI i, nI n, rfl, nI_pos (by omega), (nI_ltI (by omega) hn).mpr h, rfl, rfl⟩)
theorem hm_charAtL {t i : Nat} (ht : t < 11) (hi : i < xl t) : mz_Call (d + 2) 218 [.ref (60 + t + 40), .int (nI i)] w (some (.int (xb t i))) w := by
  have hl := xl_le t ht
  obtain ⟨e1, e2⟩ := xb_ch t ht i (by omega)
  refine en_J1_charAt_3b067 (sg_J1_charAt_3b067_0 ⟨by omega, w, ?_, ⟨by omega, ?_⟩, ?_⟩)
  · rw [Nat.add_sub_cancel]
    exact hm_checkIndex hi (show xl t < 2 ^ 31 by omega)
  · rw [Nat.add_sub_cancel]
    exact vp_in_nI hi (by have : xl t < 2 ^ 31 := by omega
                          exact this)
  · rw [Nat.add_sub_cancel, nI_clamp (by omega), show (mz_tx (60 + t)).getD i 0 = xb t i from rfl, e1]
    exact ⟨e2, rfl, rfl⟩
theorem hm_charAt {t i : Nat} (ht : t < 11) (hi : i < xl t) : mz_Call (d + 3) 215 [.ref (60 + t), .int (nI i)] w (some (.int (xb t i))) w := by
  have hl := xl_le t ht
  obtain ⟨e1, e2⟩ := xb_ch t ht i (by omega)
  exact en_J0_charAt_5068e (sg_J0_charAt_5068e_0 ⟨by omega, _, _, hm_isLatin1 ht, nA n10, fun _ => ⟨by omega, _, _, hm_charAtL ht hi, e2, rfl, rfl⟩⟩)
end XT
/-- behind the blanks -/
def tB (B : Nat → Nat) : Nat → Nat → Nat
  | 0, s => s
  | m + 1, s => if B s = 32 then tB B m (s + 1) else s
/-- behind the letters -/
def wE (B : Nat → Nat) : Nat → Nat → Nat
  | 0, s => s
  | m + 1, s => if 97 ≤ B s ∧ B s ≤ 122 then wE B m (s + 1) else s
/-- behind the digits, and their number -/
def dE (B : Nat → Nat) : Nat → Nat → Nat → Nat × Nat
  | 0, s, v => (s, v)
  | m + 1, s, v => if 48 ≤ B s ∧ B s ≤ 57 then dE B m (s + 1) (min 1000 (v * 10 + B s - 48)) else (s, v)
def sN (b : Nat) : Nat := if 97 ≤ b ∧ b ≤ 122 then 1 else if 48 ≤ b ∧ b ≤ 57 then 2 else if b = 59 then 3 else 4
/-- the token from e on: its start, sort, end, number -/
def ts (B : Nat → Nat) (N e : Nat) : Nat := tB B (N - e) e
def tk (B : Nat → Nat) (N e : Nat) : Nat := if ts B N e < N then sN (B (ts B N e)) else 0
def te (B : Nat → Nat) (N e : Nat) : Nat := if tk B N e = 1 then wE B (N - ts B N e) (ts B N e) else if tk B N e = 2 then (dE B (N - ts B N e) (ts B N e) 0).1 else if tk B N e = 3 then ts B N e + 1 else ts B N e
def tv (B : Nat → Nat) (N e : Nat) : Nat := if tk B N e = 2 then (dE B (N - ts B N e) (ts B N e) 0).2 else 0
/-- the reference's sort and end: another sign is a sign -/
def tg (B : Nat → Nat) (N e : Nat) : Nat := if tk B N e = 4 then 3 else tk B N e
def tf (B : Nat → Nat) (N e : Nat) : Nat := if tk B N e = 4 then ts B N e + 1 else te B N e
theorem tB_le (B : Nat → Nat) : ∀ m s, s ≤ tB B m s ∧ tB B m s ≤ s + m
  | 0, s => ⟨Nat.le_refl _, Nat.le_refl _⟩
  | m + 1, s => by
    have := tB_le B m (s + 1)
    unfold tB
    split <;> omega
theorem wE_le (B : Nat → Nat) : ∀ m s, s ≤ wE B m s ∧ wE B m s ≤ s + m
  | 0, s => ⟨Nat.le_refl _, Nat.le_refl _⟩
  | m + 1, s => by
    have := wE_le B m (s + 1)
    unfold wE
    split <;> omega
theorem dE_le (B : Nat → Nat) : ∀ m s v, v ≤ 1000 → s ≤ (dE B m s v).1 ∧ (dE B m s v).1 ≤ s + m ∧ (dE B m s v).2 ≤ 1000
  | 0, s, v, h => ⟨Nat.le_refl _, Nat.le_refl _, h⟩
  | m + 1, s, v, h => by
    have := dE_le B m (s + 1) (min 1000 (v * 10 + B s - 48)) (Nat.min_le_left _ _)
    unfold dE
    split
    · omega
    · exact ⟨Nat.le_refl _, by omega, h⟩
theorem ts_le (B : Nat → Nat) {N e : Nat} (h : e ≤ N) : e ≤ ts B N e ∧ ts B N e ≤ N := by
  have := tB_le B (N - e) e
  unfold ts
  omega
theorem sN_le (b : Nat) : 1 ≤ sN b ∧ sN b ≤ 4 := by
  unfold sN
  repeat' split
  all_goals omega
theorem tk_le (B : Nat → Nat) (N e : Nat) : tk B N e ≤ 4 := by
  have := sN_le (B (ts B N e))
  unfold tk
  split <;> omega
theorem tk_0 {B : Nat → Nat} {N e : Nat} (h : ¬ tk B N e = 0) : ts B N e < N := by
  unfold tk at h
  by_cases c : ts B N e < N
  · exact c
  · rw [if_neg c] at h; omega
theorem te_le (B : Nat → Nat) {N e : Nat} (h : e ≤ N) : ts B N e ≤ te B N e ∧ te B N e ≤ N := by
  have h1 := ts_le B h
  have h2 := wE_le B (N - ts B N e) (ts B N e)
  have h3 := dE_le B (N - ts B N e) (ts B N e) 0 (by decide)
  have h4 := tk_0 (B := B) (N := N) (e := e)
  unfold te
  repeat' split
  all_goals omega
theorem tv_le (B : Nat → Nat) (N e : Nat) : tv B N e ≤ 1000 := by
  have h3 := dE_le B (N - ts B N e) (ts B N e) 0 (by decide)
  unfold tv
  split <;> omega
/-- a word is one sign at least -/
theorem te_w {B : Nat → Nat} {N e : Nat} (h : tk B N e = 1) : ts B N e + 1 ≤ te B N e := by
  have h1 := tk_0 (B := B) (N := N) (e := e) (by omega)
  unfold te
  rw [if_pos h]
  have h2 : 97 ≤ B (ts B N e) ∧ B (ts B N e) ≤ 122 := by
    unfold tk at h
    rw [if_pos h1] at h
    unfold sN at h
    by_cases c : 97 ≤ B (ts B N e) ∧ B (ts B N e) ≤ 122
    · exact c
    · rw [if_neg c] at h
      split at h
      · omega
      · split at h <;> omega
  obtain ⟨m, hm⟩ : ∃ m, N - ts B N e = m + 1 := ⟨N - ts B N e - 1, by omega⟩
  rw [hm, wE, if_pos h2]
  exact (wE_le B m (ts B N e + 1)).1
/-- text t is the word at e -/
abbrev isW (B : Nat → Nat) (N e t : Nat) : Prop := tk B N e = 1 ∧ te B N e - ts B N e = xl t ∧ ∀ i, i < xl t → nI (B (ts B N e + i)) = xb t i
theorem isW_1 {B : Nat → Nat} {N e t u : Nat} (ht : t < 7) (hu : u < 7) (h1 : isW B N e t) (h2 : isW B N e u) : t = u := by
  by_cases c : t = u
  · exact c
  · rcases xt_ne t ht u hu c with q | q
    · exact absurd (h1.2.1.symm.trans h2.2.1) q
    · exact absurd ((h1.2.2 0 (xl_pos t (by omega))).symm.trans (h2.2.2 0 (xl_pos u (by omega)))) q
/-- the class's tape, its token -/
def TB (B : Nat → Nat) (N : Nat) (w : mz_M) : Prop := w 25 1 = nI N ∧ ∀ j, j < N → w 26 j = nI (B j)
def Tk (B : Nat → Nat) (N e : Nat) (w : mz_M) : Prop := w 25 3 = nI (ts B N e) ∧ w 25 4 = nI (te B N e) ∧ w 25 2 = nI (tk B N e) ∧ w 25 5 = nI (tv B N e)
def FA (w w' : mz_M) : Prop := (∀ k, k ≠ 25 → w' k = w k) ∧ ∀ j, j < 2 → w' 25 j = w 25 j
theorem FA.rf {w : mz_M} : FA w w := ⟨fun _ _ => rfl, fun _ _ => rfl⟩
theorem FA.tr {w w1 w2 : mz_M} (h1 : FA w w1) (h2 : FA w1 w2) : FA w w2 := ⟨fun k a => (h2.1 k a).trans (h1.1 k a), fun j a => (h2.2 j a).trans (h1.2 j a)⟩
theorem FA.up {w : mz_M} {j : Nat} {x : Int32} (h : 2 ≤ j) : FA w (mz_up w 25 (upd (w 25) j x)) := ⟨fun k a => mu_n a, fun i hi => by rw [mu_s, pk_un (by omega)]⟩
theorem TB.fr {B : Nat → Nat} {N : Nat} {w w' : mz_M} (h : TB B N w) (F : FA w w') : TB B N w' := ⟨by rw [F.2 1 (by decide)]; exact h.1, fun j hj => by rw [F.1 26 (by decide)]; exact h.2 j hj⟩
/-- the reference's -/
def MB (B : Nat → Nat) (N : Nat) (w : mz_M) : Prop := w 37 10 = nI N ∧ ∀ j, j < N → w 44 j = nI (B j)
def Tm (B : Nat → Nat) (N e : Nat) (w : mz_M) : Prop := w 37 11 = nI (ts B N e) ∧ w 37 12 = nI (tf B N e) ∧ w 37 13 = nI (tg B N e) ∧ w 37 14 = nI (tv B N e)
def FM (w w' : mz_M) : Prop := (∀ k, k ≠ 37 → w' k = w k) ∧ ∀ j, (j < 11 ∨ 15 ≤ j) → w' 37 j = w 37 j
theorem FM.rf {w : mz_M} : FM w w := ⟨fun _ _ => rfl, fun _ _ => rfl⟩
theorem FM.tr {w w1 w2 : mz_M} (h1 : FM w w1) (h2 : FM w1 w2) : FM w w2 := ⟨fun k a => (h2.1 k a).trans (h1.1 k a), fun j a => (h2.2 j a).trans (h1.2 j a)⟩
theorem FM.up {w : mz_M} {j : Nat} {x : Int32} (h1 : 11 ≤ j) (h2 : j < 15) : FM w (mz_up w 37 (upd (w 37) j x)) := ⟨fun k a => mu_n a, fun i hi => by rw [mu_s, pk_un (by omega)]⟩
theorem MB.fr {B : Nat → Nat} {N : Nat} {w w' : mz_M} (h : MB B N w) (F : FM w w') : MB B N w' := ⟨by rw [F.2 10 (by decide)]; exact h.1, fun j hj => by rw [F.1 44 (by decide)]; exact h.2 j hj⟩
section TOK
variable {d : Nat} {w : mz_M} {B : Nat → Nat} {N : Nat}
theorem hm_sortOf {b : Nat} (hb : b < 256) : mz_Call (d + 1) 45 [.int (nI b)] w (some (.int (nI (sN b)))) w := by
  refine en_X2_sortOf (sg_X2_sortOf_0 ?_)
  rw [nI_ltI (by omega) (by omega), nI_ltI (by omega) (by omega), nI_ltI (by omega) (by omega), nI_ltI (by omega) (by omega), nI_eq (by omega) (by omega)]
  unfold sN
  refine ⟨fun c1 => ⟨fun c2 => ⟨fun c3 => ⟨?_, rfl⟩, fun c3 => ⟨?_, rfl⟩⟩, fun c2 => ⟨fun c4 => ⟨fun c3 => ⟨?_, rfl⟩, fun c3 => ⟨?_, rfl⟩⟩, fun c4 => ⟨?_, rfl⟩⟩⟩, fun c1 => ⟨fun c5 => ⟨fun c2 => ⟨fun c3 => ⟨?_, rfl⟩, fun c3 => ⟨?_, rfl⟩⟩, fun c2 => ⟨fun c4 => ⟨fun c3 => ⟨?_, rfl⟩, fun c3 => ⟨?_, rfl⟩⟩, fun c4 => ⟨?_, rfl⟩⟩⟩, fun c5 => ⟨?_, rfl⟩⟩⟩
  · rw [if_neg (by omega), if_neg (by omega), if_pos c3]
  · rw [if_neg (by omega), if_neg (by omega), if_neg c3]
  · rw [if_neg (by omega), if_neg (by omega), if_pos c3]
  · rw [if_neg (by omega), if_neg (by omega), if_neg c3]
  · rw [if_neg (by omega), if_pos (by omega)]
  · rw [if_neg (by omega), if_neg (by omega), if_pos c3]
  · rw [if_neg (by omega), if_neg (by omega), if_neg c3]
  · rw [if_neg (by omega), if_neg (by omega), if_pos c3]
  · rw [if_neg (by omega), if_neg (by omega), if_neg c3]
  · rw [if_neg (by omega), if_pos (by omega)]
  · rw [if_pos (by omega)]
/-- the next number -/
theorem nv_c {v b : Nat} (hv : v ≤ 1000) (h1 : 48 ≤ b) (h2 : b ≤ 57) : (if nI v * nI 10 + nI b - nI 48 < nI 1000 then nI v * nI 10 + nI b - nI 48 else nI 1000) = nI (min 1000 (v * 10 + b - 48)) := by
  rw [pk_mul, nI_add, pk_sub (by omega), n_min (a := 1000) (by decide) (by omega)]
theorem nv_m {v b : Nat} (hv : v ≤ 1000) (h1 : 48 ≤ b) (h2 : b ≤ 57) : (if nI 10 * nI v + nI b - nI 48 < nI 1000 then nI 10 * nI v + nI b - nI 48 else nI 1000) = nI (min 1000 (v * 10 + b - 48)) := by
  rw [pk_mul, Nat.mul_comm, nI_add, pk_sub (by omega), n_min (a := 1000) (by decide) (by omega)]
theorem sN_2 {b : Nat} (hb : b < 256) : sN b = 2 ↔ 48 ≤ b ∧ b ≤ 57 := by
  unfold sN
  repeat' split
  all_goals omega
theorem sN_1 {b : Nat} (hb : b < 256) : sN b = 1 ↔ 97 ≤ b ∧ b ≤ 122 := by
  unfold sN
  repeat' split
  all_goals omega
/-- behind all: what the class's reading leaves -/
def aPo (B : Nat → Nat) (N : Nat) (w : mz_M) (s x k v : Nat) : mz_Q := fun r1 w1 => r1 = none ∧ (w1 25 3 = nI s ∧ w1 25 4 = nI x ∧ w1 25 2 = nI k ∧ w1 25 5 = nI v) ∧ FA w w1
theorem hm_adv138 (hN : N ≤ 120) (hB : ∀ j, B j < 256) {s k : Nat} (hs : s ≤ N) (hk : ¬ k = 2) (h4 : k ≤ 4) {x v : Nat} {w1 : mz_M} (hx : x ≤ N) (T : TB B N w1) (F : FA w w1) (e3 : w1 25 3 = nI s) (e4 : w1 25 4 = nI x) (e2 : w1 25 2 = nI k) (e5 : w1 25 5 = nI v) : mz_Ex cd_X2_advance (mz_Call (d + 1)) (aPo B N w s (if k = 3 then x + 1 else x) k v) 138 [.ref 25] [] w1 := by
  have fin : ((w1 25 2 = nI 3) → aPo B N w s (if k = 3 then x + 1 else x) k v none (mz_up w1 25 (upd (w1 25) 4 (w1 25 4 + nI 1)))) ∧ (¬ (w1 25 2 = nI 3) → aPo B N w s (if k = 3 then x + 1 else x) k v none w1) := by
    rw [e2, nI_eq (by omega) (by omega)]
    refine ⟨fun c => ⟨rfl, ⟨?_, ?_, ?_, ?_⟩, F.tr (FA.up (by decide))⟩, fun c => ⟨rfl, ⟨e3, ?_, e2, e5⟩, F⟩⟩
    · rw [mu_s, pk_un (by decide)]; exact e3
    · rw [mu_s, pk_us, e4, nI_add, if_pos c]
    · rw [mu_s, pk_un (by decide)]; exact e2
    · rw [mu_s, pk_un (by decide)]; exact e5
    · rw [if_neg c]; exact e4
  refine sg_X2_advance_138 ⟨fun _ => ⟨fun c => ?_, fun _ => fin⟩, fun _ => fin⟩
  rw [e2, nI_eq (by omega) (by omega)] at c
  exact absurd c hk
theorem hm_adv138n (hN : N ≤ 120) (hB : ∀ j, B j < 256) {s : Nat} : ∀ (m x v : Nat) (w1 : mz_M), x + m = N → v ≤ 1000 → TB B N w1 → FA w w1 → w1 25 3 = nI s → w1 25 4 = nI x → w1 25 2 = nI 2 → w1 25 5 = nI v → mz_Ex cd_X2_advance (mz_Call (d + 1)) (aPo B N w s (dE B m x v).1 2 (dE B m x v).2) 138 [.ref 25] [] w1 := by
  intro m
  induction m with
  | zero =>
    intro x v w1 hx hv T F e3 e4 e2 e5
    refine sg_X2_advance_138 ?_
    rw [e4, T.1, nI_ltI (by omega) (by omega), e2]
    exact ⟨fun c => absurd c (by omega), fun _ => ⟨fun c => absurd c (by decide), fun _ => ⟨rfl, ⟨e3, e4, e2, e5⟩, F⟩⟩⟩
  | succ m ih =>
    intro x v w1 hx hv T F e3 e4 e2 e5
    have hb := hB x
    refine sg_X2_advance_138 ?_
    dsimp only
    rw [e4, T.1, nI_ltI (by omega) (by omega), e2, nI_clamp (n := x) (by omega), T.2 x (by omega)]
    refine ⟨fun _ => ⟨fun _ => ⟨vp_in_nI (by omega) (by decide), _, _, hm_sortOf hb, fun c => ?_, fun c => ?_⟩, fun c => absurd rfl c⟩, fun c => absurd (show x < N by omega) c⟩
    · rw [nI_eq (by have := sN_le (B x); omega) (by omega), sN_2 hb] at c
      rw [e4, nI_clamp (n := x) (by omega), T.2 x (by omega), e5, nv_c hv c.1 c.2, dE, if_pos c]
      refine ⟨vp_in_nI (by omega) (by decide), ih (x + 1) _ _ (by omega) (Nat.min_le_left _ _) (T.fr ((FA.up (by decide)).tr (FA.up (by decide)))) (F.tr ((FA.up (by decide)).tr (FA.up (by decide)))) ?_ ?_ ?_ ?_⟩
      · rw [mu_s, pk_un (by decide), mu_s, pk_un (by decide)]; exact e3
      · rw [mu_s, pk_us, mu_s, pk_un (by decide), e4, nI_add]
      · rw [mu_s, pk_un (by decide), mu_s, pk_un (by decide)]; exact e2
      · rw [mu_s, pk_un (by decide), mu_s, pk_us]
    · rw [nI_eq (by have := sN_le (B x); omega) (by omega), sN_2 hb] at c
      rw [dE, if_neg c, e2]
      exact ⟨fun c => absurd c (by decide), fun _ => ⟨rfl, ⟨e3, e4, e2, e5⟩, F⟩⟩
theorem hm_adv90w (hN : N ≤ 120) (hB : ∀ j, B j < 256) {s v : Nat} (hs : s ≤ N) : ∀ (m x : Nat) (w1 : mz_M), x + m = N → TB B N w1 → FA w w1 → w1 25 3 = nI s → w1 25 4 = nI x → w1 25 2 = nI 1 → w1 25 5 = nI v → mz_Ex cd_X2_advance (mz_Call (d + 1)) (aPo B N w s (wE B m x) 1 v) 90 [.ref 25] [] w1 := by
  intro m
  induction m with
  | zero =>
    intro x w1 hx T F e3 e4 e2 e5
    have L := hm_adv138 (d := d) hN hB hs (k := 1) (by decide) (by decide) (by omega) T F e3 e4 e2 e5
    refine sg_X2_advance_90 ?_
    rw [e4, T.1, nI_ltI (by omega) (by omega)]
    exact ⟨fun c => absurd c (by omega), fun _ => L⟩
  | succ m ih =>
    intro x w1 hx T F e3 e4 e2 e5
    have hb := hB x
    have L := hm_adv138 (d := d) hN hB hs (k := 1) (by decide) (by decide) (x := x) (by omega) T F e3 e4 e2 e5
    refine sg_X2_advance_90 ?_
    rw [e4, T.1, nI_ltI (by omega) (by omega), e2, nI_clamp (n := x) (by omega), T.2 x (by omega)]
    refine ⟨fun _ => ⟨fun _ => ⟨vp_in_nI (by omega) (by decide), _, _, hm_sortOf hb, fun c => ?_, fun c => ?_⟩, fun c => absurd rfl c⟩, fun c => absurd (show x < N by omega) c⟩
    · rw [nI_eq (by have := sN_le (B x); omega) (by omega), sN_1 hb] at c
      rw [wE, if_pos c]
      refine ih (x + 1) _ (by omega) (T.fr (FA.up (by decide))) (F.tr (FA.up (by decide))) ?_ ?_ ?_ ?_
      · rw [mu_s, pk_un (by decide)]; exact e3
      · rw [mu_s, pk_us, e4, nI_add]
      · rw [mu_s, pk_un (by decide)]; exact e2
      · rw [mu_s, pk_un (by decide)]; exact e5
    · rw [nI_eq (by have := sN_le (B x); omega) (by omega), sN_1 hb] at c
      rw [wE, if_neg c]
      exact L
/-- from the token's start on -/
theorem hm_adv90 (hN : N ≤ 120) (hB : ∀ j, B j < 256) {s k : Nat} (hs : s ≤ N) (hk : k = if s < N then sN (B s) else 0) {w1 : mz_M} (T : TB B N w1) (F : FA w w1) (e3 : w1 25 3 = nI s) (e4 : w1 25 4 = nI s) (e2 : w1 25 2 = nI k) (e5 : w1 25 5 = nI 0) : mz_Ex cd_X2_advance (mz_Call (d + 1)) (aPo B N w s (if k = 1 then wE B (N - s) s else if k = 2 then (dE B (N - s) s 0).1 else if k = 3 then s + 1 else s) k (if k = 2 then (dE B (N - s) s 0).2 else 0)) 90 [.ref 25] [] w1 := by
  have h4 : k ≤ 4 := by
    have := sN_le (B s)
    rw [hk]
    split <;> omega
  by_cases c1 : k = 1
  · subst c1
    exact hm_adv90w hN hB hs (N - s) s w1 (by omega) T F e3 e4 e2 e5
  · have go : ∀ {Q : mz_Q}, mz_Ex cd_X2_advance (mz_Call (d + 1)) Q 138 [.ref 25] [] w1 → mz_Ex cd_X2_advance (mz_Call (d + 1)) Q 90 [.ref 25] [] w1 := by
      intro Q K
      refine sg_X2_advance_90 ⟨fun _ => ⟨fun c => ?_, fun _ => K⟩, fun _ => K⟩
      rw [e2, nI_eq (by omega) (by omega)] at c
      exact absurd c c1
    rw [if_neg c1]
    by_cases c2 : k = 2
    · subst c2
      exact go (hm_adv138n hN hB (N - s) s 0 w1 (by omega) (by decide) T F e3 e4 e2 e5)
    · rw [if_neg c2, if_neg c2]
      exact go (hm_adv138 hN hB hs c2 h4 hs T F e3 e4 e2 e5)
theorem hm_advance (hN : N ≤ 120) (hB : ∀ j, B j < 256) {e : Nat} (he : e ≤ N) (T : TB B N w) (e4 : w 25 4 = nI e) : ∃ w', mz_Call (d + 2) 44 [.ref 25] w none w' ∧ (Tk B N e w' ∧ FA w w') := by
  have loop : ∀ (m x : Nat) (w1 : mz_M), x + m = N → TB B N w1 → FA w w1 → w1 25 3 = nI x → tB B m x = ts B N e → mz_Ex cd_X2_advance (mz_Call (d + 1)) (fun r1 w' => r1 = none ∧ (Tk B N e w' ∧ FA w w')) 8 [.ref 25] [] w1 := by
    intro m
    induction m with
    | zero =>
      intro x w1 hx T1 F1 e3 et
      rw [tB] at et
      have L := fun (w2 : mz_M) (q1 : TB B N w2) (q2 : FA w w2) (q3 : w2 25 3 = nI (ts B N e)) (q4 : w2 25 4 = nI (ts B N e)) (q5 : w2 25 2 = nI (tk B N e)) (q6 : w2 25 5 = nI 0) => hm_adv90 (d := d) (w := w) hN hB (s := ts B N e) (k := tk B N e) (by omega) rfl q1 q2 q3 q4 q5 q6
      refine sg_X2_advance_8 ?_
      dsimp only
      rw [e3, T1.1, nI_ltI (by omega) (by omega)]
      refine ⟨fun c => absurd c (by omega), fun _ => ?_⟩
      rw [mu_s, pk_un (by decide), pk_un (by decide), e3, T1.1, nI_ltI (by omega) (by omega)]
      refine ⟨fun c => absurd c (by omega), fun _ => ?_⟩
      refine L _ (T1.fr ((FA.up (by decide)).tr ((FA.up (by decide)).tr (FA.up (by decide))))) (F1.tr ((FA.up (by decide)).tr ((FA.up (by decide)).tr (FA.up (by decide))))) ?_ ?_ ?_ ?_
      · rw [mu_s, pk_un (by decide), mu_s, pk_un (by decide), pk_un (by decide), e3, et]
      · rw [mu_s, pk_un (by decide), mu_s, pk_un (by decide), pk_us, et]
      · rw [mu_s, pk_un (by decide), mu_s, pk_us]
        unfold tk
        rw [if_neg (by omega)]
      · rw [mu_s, pk_us]
    | succ m ih =>
      intro x w1 hx T1 F1 e3 et
      rw [tB] at et
      have hb := hB x
      have L := fun (w2 : mz_M) (q1 : TB B N w2) (q2 : FA w w2) (q3 : w2 25 3 = nI (ts B N e)) (q4 : w2 25 4 = nI (ts B N e)) (q5 : w2 25 2 = nI (tk B N e)) (q6 : w2 25 5 = nI 0) => hm_adv90 (d := d) (w := w) hN hB (s := ts B N e) (k := tk B N e) (ts_le B he).2 rfl q1 q2 q3 q4 q5 q6
      refine sg_X2_advance_8 ?_
      dsimp only
      rw [e3, T1.1, nI_ltI (by omega) (by omega), nI_clamp (n := x) (by omega), T1.2 x (by omega), nI_eq (by omega) (by omega)]
      refine ⟨fun _ => ⟨vp_in_nI (by omega) (by decide), fun c => ?_, fun c => ?_⟩, fun c => absurd (show x < N by omega) c⟩
      · rw [if_pos c] at et
        exact ih (x + 1) _ (by omega) (T1.fr (FA.up (by decide))) (F1.tr (FA.up (by decide))) (by rw [mu_s, pk_us, nI_add]) et
      · rw [if_neg c] at et
        rw [mu_s, pk_un (by decide), pk_un (by decide), e3, T1.1, nI_ltI (by omega) (by omega), nI_clamp (n := x) (by omega), mu_n (by decide), T1.2 x (by omega)]
        refine ⟨fun _ => ⟨vp_in_nI (by omega) (by decide), _, _, hm_sortOf hb, ?_⟩, fun c2 => absurd (show x < N by omega) c2⟩
        refine L _ (T1.fr ((FA.up (by decide)).tr ((FA.up (by decide)).tr (FA.up (by decide))))) (F1.tr ((FA.up (by decide)).tr ((FA.up (by decide)).tr (FA.up (by decide))))) ?_ ?_ ?_ ?_
        · rw [mu_s, pk_un (by decide), mu_s, pk_un (by decide), mu_s, pk_un (by decide), e3, et]
        · rw [mu_s, pk_un (by decide), mu_s, pk_un (by decide), mu_s, pk_us, et]
        · rw [mu_s, pk_un (by decide), mu_s, pk_us]
          unfold tk
          rw [← et, if_pos (by omega)]
        · rw [mu_s, pk_us]
  exact ec_X2_advance (sg_X2_advance_0 (loop (N - e) e _ (by omega) (T.fr (FA.up (by decide))) (FA.up (by decide)) (by rw [mu_s, pk_us, e4]) rfl))
end TOK
