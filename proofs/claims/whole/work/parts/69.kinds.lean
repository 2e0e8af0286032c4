/-! kinds -/
def kiP (p : Nat) (σ : Nat → Nat) (f : Nat → Int32) (n k : Nat) : Bool := gtS p 0 (su σ (21 + p) k) f n
/-- the kinds of the first k that fit, as a set -/
def kiS (p : Nat) (σ : Nat → Nat) (f : Nat → Int32) (n : Nat) : Nat → Nat
  | 0 => 0
  | k + 1 => if kiP p σ f n k = true then kiS p σ f n k ||| 2 ^ k else kiS p σ f n k
section KI
variable {d : Nat} {w : mz_M} {T h : Nat} {σ : Nat → Nat} {z : Int32}
theorem hm_kinds (I : Iv T σ) (hT : T ≤ 99000) {s n p g : Nat} {f : Nat → Int32} (hs : s < 4) (hn : n ≤ 40) (en : w (28 + 2 * s) 1 = nI n) (ef : w (29 + 2 * s) = f) (hp : p < 8) (hg : g = kiS p σ f n 7) : ∀ (m k : Nat) (j3 : Value) (w1 : mz_M), k + m = 7 → Hs 1 σ z w1 → Fr Tp w w1 → mz_Ex cd_X3_kinds (mz_Call 10) (fun r2 w2 => ∃ u : Int32, r2 = some (.int u) ∧ (u = nI g ∧ Fr Tp w w2)) 37 [.ref 0, .int (nI s), .int (nI p), j3, .int (nI (kiS p σ f n k)), .int (nI k)] [] w1 := by
  intro m
  induction m with
  | zero =>
    intro k j3 w1 hk H1 F1
    rw [show k = 7 by omega]
    refine sg_X3_kinds_37 ?_
    rw [nI_ltI (by omega) (by omega)]
    exact ⟨fun c => absurd c (by omega), fun _ => ⟨_, rfl, by rw [hg], F1⟩⟩
  | succ m ih =>
    intro k j3 w1 hk H1 F1
    obtain ⟨w2, q1, q2, q3⟩ := hm_become (d := 9) (h := 9) (o := 1) (by omega) (by omega) (by decide) H1
    have F2 : Fr Tp w (mz_up w2 11 (upd (w2 11) p (nI k))) := Fr.tr (F1.tr (q3.mono (by omega))) (Fr.up (by omega))
    have H2 : Hs 1 σ z (mz_up w2 11 (upd (w2 11) p (nI k))) := H1.fr (fun j x y => by rw [mu_n (by omega), q3 j (by omega)])
    obtain ⟨w3, p1, p2⟩ := hm_goesAsTold (d := 6) (q2.kind (i := p) hp k) (I.put (by omega)) hT (s := s) (n := n) (a := p) (b := 0) hs hn (by rw [F2 (28 + 2 * s) (by omega)]; exact en) hp (by omega)
    have H3 := H2.fr (fun k x y => p2 k (by omega))
    rw [F2 (29 + 2 * s) (by omega), ef, nP_0] at p1
    have i1 := ih (k + 1) j3 w3 (by omega) H3 (F2.tr p2)
    rw [kiS] at i1
    refine sg_X3_kinds_37 ?_
    rw [nI_ltI (by omega) (by omega), nI_clamp (n := s) (by omega), nI_clamp (n := p) (by omega), gd4 s hs]
    refine ⟨fun _ => ⟨w2, q1, vp_in_nI hp (by decide), vi4s hs, sg_X3_kinds_73 (hk4 hs) ⟨_, w3, p1, fun c => ?_, fun c => ?_⟩⟩, fun c => absurd (show k < 7 by omega) c⟩
    · rw [nB_0] at c
      rw [if_neg (show ¬ kiP p σ f n k = true from c)] at i1
      rw [nI_add]
      exact i1
    · rw [nB_0, Classical.not_not] at c
      rw [if_pos (show kiP p σ f n k = true from c)] at i1
      rw [nI_add, nb_shl (by omega), nb_or]
      exact i1
theorem rf_kinds (I : Iv T σ) (hT : T ≤ 99000) {s n p g : Nat} {f : Nat → Int32} (hs : s < 4) (hn : n ≤ 40) (en : w 48 s = nI n) (ef : ∀ j, j < 40 → f j = w 49 (40 * s + j)) (hp : p < 8) (hg : g = kiS p σ f n 7) : ∀ (m k e : Nat) (j3 : Value) (w1 : mz_M), k + m = 7 → Ms 38 (su σ (21 + p) e) z w1 → Fr Mq w w1 → mz_Ex cd_X4_kinds (mz_Call 10) (fun r2 w2 => ∃ u : Int32, r2 = some (.int u) ∧ (u = nI g ∧ Ms 38 σ z w2 ∧ Fr Mq w w2)) 38 [.ref 37, .int (nI s), .int (nI p), j3, .int (nI (σ (21 + p))), .int (nI (kiS p σ f n k)), .int (nI k)] [] w1 := by
  have hin : vp_in (nI (21 + p)) 101 := vp_in_nI (by omega) (by decide)
  have ke : (nI (21 + p)).toNatClampNeg = 21 + p := nI_clamp (by omega)
  intro m
  induction m with
  | zero =>
    intro k e j3 w1 hk M1 F1
    have M2 := M1.set (j := 21 + p) (v := σ (21 + p)) (by omega)
    rw [su_su, su_id] at M2
    rw [show k = 7 by omega]
    refine sg_X4_kinds_38 ?_
    rw [nI_ltI (by omega) (by omega), nI_add, ke]
    exact ⟨fun _ => ⟨hin, _, rfl, by rw [hg], M2, F1.tr (Fr.up (by omega))⟩, fun c => absurd (by decide) c⟩
  | succ m ih =>
    intro k e j3 w1 hk M1 F1
    have M2 := M1.set (j := 21 + p) (v := k) (by omega)
    rw [su_su] at M2
    have F2 : Fr Mq w (mz_up w1 38 (upd (w1 38) (21 + p) (nI k))) := F1.tr (Fr.up (by omega))
    obtain ⟨w2, q1, q2, q3⟩ := mm_wasSo (d := 4) M2 (I.put (k := 21 + p) (v := k) (by omega)) hT (s := s) (n := n) (a := p) (b := 0) (f := f) hs hn (by rw [F2 48 (by omega)]; exact en) (fun j hj => by rw [F2 49 (by omega)]; exact ef j hj) hp (by omega)
    rw [nP_0] at q1
    have i1 := ih (k + 1) k j3 w2 (by omega) q2 (F2.tr q3)
    rw [kiS] at i1
    refine sg_X4_kinds_38 ?_
    rw [nI_ltI (by omega) (by omega), nI_add, ke, nI_add]
    refine ⟨fun c => absurd c (by omega), fun _ => ⟨hin, _, w2, q1, fun c => ?_, fun c => ?_⟩⟩
    · rw [nB_0] at c
      rw [if_neg (show ¬ kiP p σ f n k = true from c)] at i1
      rw [nb_or, Nat.or_zero]
      exact i1
    · rw [nB_0, Classical.not_not] at c
      rw [if_pos (show kiP p σ f n k = true from c)] at i1
      rw [nb_shl (by omega), nb_or]
      exact i1
theorem bo_kinds (R : Rel T w) (hT : T ≤ 90000) (x y : Int32) : Both T T 72 176 [.int x, .int y] w := by
  obtain ⟨σ, z, H, M, I, R⟩ := R
  have h8 := I.2.1
  by_cases c : wn x (nI 0) (nI 3)
  · obtain ⟨s, -, hs, rfl⟩ := (wn_iff (by decide) (by decide)).mp c
    obtain ⟨s1, s2, ⟨n, hn, s3⟩, s4, s5⟩ := R.2.2.2 s (by omega)
    by_cases q : w 47 s = nI 0
    · exact Both.f0F (z7 5) H M I R (en_X3_kinds (sg_X3_kinds_0 ⟨_, _, sf_m (by omega) (by rw [s1]; exact q), nA fq5, fun _ => ⟨_, _, hf5, rfl, rfl⟩⟩)) (fun w1 M1 F1 => en_X4_kinds (sg_X4_kinds_0 ⟨_, _, mm_isPerson M1 _, _, _, lk_m (by omega) (by rw [F1 47 (by omega) (by decide)]; exact q), nA fq5, fun _ => ⟨_, _, mf5, rfl, rfl⟩⟩))
    · by_cases c2 : isP (σ 1) y
      · obtain ⟨p, hp, rfl⟩ := (isP_iff h8).mp c2
        refine Both.okF (r := nI (kiS p σ (w (29 + 2 * s)) n 7)) (σ' := σ) (z' := z) M R (Nat.le_refl _) I ?_ (fun w1 M1 _ F1 => ?_)
        · obtain ⟨u, w2, a1, a2, a3⟩ := ec_X3_kinds (d := 10) (Po := fun u w2 => u = nI (kiS p σ (w (29 + 2 * s)) n 7) ∧ Fr Tp w w2) (sg_X3_kinds_0 ⟨_, _, sf_o (by omega) (by rw [s1]; exact q), fun _ => ⟨_, _, hm_isThere H _, nY c2, fun _ => hm_kinds I (by omega) (by omega) hn (by rw [s2]; exact s3) rfl (by omega) rfl 7 0 _ w (by omega) H Fr.rf⟩, nS⟩)
          subst a2
          exact ⟨w2, a1, H.fr (fun k x y => a3 k (by omega)), a3.mono (by omega)⟩
        · have L := rf_kinds (z := z) (w := w1) I (by omega) (s := s) (n := n) (p := p) (f := w (29 + 2 * s)) (by omega) hn (by rw [F1 48 (by omega)]; exact s3) (fun j hj => by rw [F1 49 (by omega)]; exact s5 j hj) (by omega) rfl 7 0 (σ (21 + p)) (.int (nI 0)) w1 (by omega) (by rw [su_id]; exact M1) Fr.rf
          obtain ⟨u, w2, a1, a2, a3, a4⟩ := ec_X4_kinds (d := 10) (a1 := nI s) (a2 := nI p) (Po := fun u w2 => u = nI (kiS p σ (w (29 + 2 * s)) n 7) ∧ Ms 38 σ z w2 ∧ Fr Mq w1 w2) (w := w1) (sg_X4_kinds_0 ⟨_, _, mm_isPerson M1 _, _, _, by rw [nB_t c2]; exact lk_o (by omega) (by rw [F1 47 (by omega)]; exact q), fun _ => by
            rw [nI_add, nI_clamp (n := 21 + p) (by omega), M1.2.2.2.2.2 (21 + p) (by omega) (by omega)]
            exact ⟨vp_in_nI (by omega) (by decide), L⟩, nS⟩)
          subst a2
          exact ⟨w2, a1, a3, a4⟩
      · exact Both.f0F (z7 0) H M I R (en_X3_kinds (sg_X3_kinds_0 ⟨_, _, sf_o (by omega) (by rw [s1]; exact q), fun _ => ⟨_, _, hm_isThere H _, fun _ => ⟨_, _, hf0, rfl, rfl⟩, nN c2⟩, nS⟩)) (fun w1 M1 F1 => en_X4_kinds (sg_X4_kinds_0 ⟨_, _, mm_isPerson M1 _, _, _, by rw [nB_f c2]; exact lk_n (by omega) (by rw [F1 47 (by omega) (by decide)]; exact q), nA fq0, fun _ => ⟨_, _, mf0, rfl, rfl⟩⟩))
  · exact Both.f0 (z7 0) H M I R (en_X3_kinds (sg_X3_kinds_0 ⟨_, _, sf_b c, nA fq0, fun _ => ⟨_, _, hf0, rfl, rfl⟩⟩)) (fun w1 M1 => en_X4_kinds (sg_X4_kinds_0 ⟨_, _, mm_isPerson M1 _, _, _, lk_b c, nA fq0, fun _ => ⟨_, _, mf0, rfl, rfl⟩⟩))
end KI
