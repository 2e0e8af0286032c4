/-! sheet -/
theorem sw_in {a : Int32} {B F : Prop} (h : a = nI 0 ∨ a = nI 8 ∨ a = nI 16 ∨ a = nI 32) (b : B) : (a = nI 0 → B) ∧ (¬ a = nI 0 → ((a = nI 8 → B) ∧ (¬ a = nI 8 → ((a = nI 16 → B) ∧ (¬ a = nI 16 → ((a = nI 32 → B) ∧ (¬ a = nI 32 → F))))))) :=
  ⟨fun _ => b, fun n0 => ⟨fun _ => b, fun n8 => ⟨fun _ => b, fun n16 => ⟨fun _ => b, fun n32 => by
    rcases h with h | h | h | h
    · exact absurd h n0
    · exact absurd h n8
    · exact absurd h n16
    · exact absurd h n32⟩⟩⟩⟩
theorem sw_no {a : Int32} {B F : Prop} (h : ¬ (a = nI 0 ∨ a = nI 8 ∨ a = nI 16 ∨ a = nI 32)) (f : F) : (a = nI 0 → B) ∧ (¬ a = nI 0 → ((a = nI 8 → B) ∧ (¬ a = nI 8 → ((a = nI 16 → B) ∧ (¬ a = nI 16 → ((a = nI 32 → B) ∧ (¬ a = nI 32 → F))))))) :=
  ⟨fun q => absurd (Or.inl q) h, fun _ => ⟨fun q => absurd (Or.inr (Or.inl q)) h, fun _ => ⟨fun q => absurd (Or.inr (Or.inr (Or.inl q))) h, fun _ => ⟨fun q => absurd (Or.inr (Or.inr (Or.inr q))) h, fun _ => f⟩⟩⟩⟩
section ST
variable {d : Nat} {w : mz_M} {T h : Nat} {σ : Nat → Nat} {z : Int32}
theorem bo_sheet (R : Rel T w) (x y v : Int32) : Both T T 81 200 [.int x, .int y, .int v] w := by
  obtain ⟨σ, z, H, M, I, R⟩ := R
  by_cases c : wn x (nI 0) (nI 3)
  · by_cases c2 : y = nI 0 ∨ y = nI 8 ∨ y = nI 16 ∨ y = nI 32
    · by_cases c3 : v < nI 0
      · exact Both.f0 (z7 6) H M I R (en_X3_sheet (sg_X3_sheet_0 ⟨_, _, hm_isSheet _, nY c, fun _ => sw_in c2 ⟨fun _ => ⟨_, _, hf6, rfl, rfl⟩, fun q => absurd c3 q⟩⟩)) (fun w1 M1 => en_X4_sheet (sg_X4_sheet_0 ⟨_, _, mm_isSheet _, nY c, fun _ => sw_in c2 ⟨fun _ => ⟨_, _, mf6, rfl, rfl⟩, fun q => absurd c3 q⟩⟩))
      · by_cases c4 : nI 40 < v
        · exact Both.f0 (z7 0) H M I R (en_X3_sheet (sg_X3_sheet_0 ⟨_, _, hm_isSheet _, nY c, fun _ => sw_in c2 ⟨fun q => absurd q c3, fun _ => ⟨fun _ => ⟨_, _, hf0, rfl, rfl⟩, fun q => absurd c4 q⟩⟩⟩)) (fun w1 M1 => en_X4_sheet (sg_X4_sheet_0 ⟨_, _, mm_isSheet _, nY c, fun _ => sw_in c2 ⟨fun q => absurd q c3, fun _ => ⟨fun _ => ⟨_, _, mf0, rfl, rfl⟩, fun q => absurd c4 q⟩⟩⟩))
        · obtain ⟨s, -, hs, rfl⟩ := (wn_iff (by decide) (by decide)).mp c
          obtain ⟨n, -, hn, rfl⟩ := (wn_iff (lo := 0) (hi := 40) (by decide) (by decide)).mp ⟨c3, c4⟩
          have ke : (nI s).toNatClampNeg = s := nI_clamp (by omega)
          obtain ⟨n', hn', en'⟩ : ∃ n', n' ≤ 40 ∧ (if y = nI 0 then nI 0 else nI n) = nI n' := by
            by_cases q : y = nI 0
            · exact ⟨0, by omega, if_pos q⟩
            · exact ⟨n, hn, if_neg q⟩
          obtain ⟨w1, a1, a2, a3, a4, a5⟩ := hm_layOut (d := 8) (w := w) (s := s) (by omega) y (nI n')
          have K1 : mz_Call 11 81 [.ref 0, .int (nI s), .int y, .int (nI n)] w (some (.int (nI n'))) w1 := by
            refine en_X3_sheet (sg_X3_sheet_0 ⟨_, _, hm_isSheet _, nY c, fun _ => sw_in c2 ⟨fun q => absurd q c3, fun _ => ⟨fun q => absurd q c4, fun _ => ⟨vi4s (by omega), ?_⟩⟩⟩⟩)
            rw [ke, gd4 s (by omega)]
            refine sg_X3_sheet_66 (hk4 (by omega)) ?_
            rw [ke, gd4 s (by omega)]
            refine ⟨fun q => ⟨w1, ?_, vi4s (by omega), sg_X3_sheet_85 (hk4 (by omega)) ⟨by rw [a3], rfl⟩⟩, fun q => ⟨w1, ?_, vi4s (by omega), sg_X3_sheet_85 (hk4 (by omega)) ⟨by rw [a3], rfl⟩⟩⟩
            · rw [if_pos q] at en'; rw [en']; exact a1
            · rw [if_neg q] at en'; rw [en']; exact a1
          obtain ⟨v2, hv2⟩ : ∃ v2, v2 = mz_up (mz_up w1 47 (upd (w1 47) s y)) 48 (upd (w1 48) s (nI n')) := ⟨_, rfl⟩
          have L := rf_clear (w := v2) (s := s) (by omega) (g := nI n') (by rw [hv2, mu_s, pk_us]) 40 0 (.int y) (.int (nI n)) v2 (by omega) (fun j hj => absurd hj (by omega)) (fun p _ => rfl) Fr.rf
          obtain ⟨u, w3, b1, rfl, b2, b3, b4⟩ := ec_X4_sheet (w := w1) (a1 := nI s) (a2 := y) (a3 := nI n) (Po := fun u w2 => u = nI n' ∧ (∀ j, j < 40 → w2 49 (40 * s + j) = nI 0) ∧ (∀ p, ¬ (40 * s ≤ p ∧ p < 40 * s + 40) → w2 49 p = v2 49 p) ∧ Fr (fun k => k = 49) v2 w2) (sg_X4_sheet_0 ⟨_, _, mm_isSheet (d := 8) (w := w1) (nI s), nY c, fun _ => sw_in c2 ⟨fun q => absurd q c3, fun _ => ⟨fun q => absurd q c4, fun _ => ⟨vi4s (by omega), by
            dsimp only
            have e48 : ∀ f, mz_up w1 47 f 48 = w1 48 := fun f => mu_n (by decide)
            rw [ke, e48]
            refine ⟨fun q => ⟨vi4s (by omega), ?_⟩, fun q => ⟨vi4s (by omega), ?_⟩⟩
            · rw [if_pos q] at en'; rw [← en'] at hv2; rw [← hv2]; exact L
            · rw [if_neg q] at en'; rw [en', ← hv2]; rw [en'] at L; exact L⟩⟩⟩⟩)
          have e : ∀ k, k ≠ 28 + 2 * s → k ≠ 29 + 2 * s → k ≠ 47 → k ≠ 48 → k ≠ 49 → w3 k = w k := fun k p1 p2 p3 p4 p5 => by rw [b4 k p5, hv2, mu_n p4, mu_n p3, a5 k (by omega)]
          refine ⟨_, w1, w3, K1, b1, σ, z, H.fr (fun k p1 p2 => e k (by omega) (by omega) (by omega) (by omega) (by omega)), M.fr (e 38 (by omega) (by omega) (by omega) (by omega) (by omega)), I, R.1.fr (fun k p => e k (by omega) (by omega) (by omega) (by omega) (by omega)) (by rw [e 37 (by omega) (by omega) (by omega) (by omega) (by omega)]), R.2.1.fr (e 36 (by omega) (by omega) (by omega) (by omega) (by omega)) (e 41 (by omega) (by omega) (by omega) (by omega) (by omega)), R.2.2.1.fr (by rw [e 25 (by omega) (by omega) (by omega) (by omega) (by omega)]) (e 26 (by omega) (by omega) (by omega) (by omega) (by omega)) (e 44 (by omega) (by omega) (by omega) (by omega) (by omega)) (by rw [e 37 (by omega) (by omega) (by omega) (by omega) (by omega)]), fun s' hs' => ?_⟩
          obtain ⟨g1, g2, g3, g4, g5⟩ := R.2.2.2 s' hs'
          have e47 : w3 47 = upd (w 47) s y := by rw [b4 47 (by decide), hv2, mu_n (by decide), mu_s, a5 47 (by omega)]
          have e48 : w3 48 = upd (w 48) s (nI n') := by rw [b4 48 (by decide), hv2, mu_s, a5 48 (by omega)]
          have e49 : v2 49 = w 49 := by rw [hv2, mu_n (by decide), mu_n (by decide), a5 49 (by omega)]
          have ek : ∀ k, k ≠ 47 → k ≠ 48 → k ≠ 49 → w3 k = w1 k := fun k p3 p4 p5 => by rw [b4 k p5, hv2, mu_n p4, mu_n p3]
          by_cases q : s' = s
          · subst q
            rw [ek (28 + 2 * s') (by omega) (by omega) (by omega), e47, e48, pk_us, pk_us]
            refine ⟨a2, a3, ⟨n', hn', rfl⟩, c2, fun j hj => ?_⟩
            rw [ek (29 + 2 * s') (by omega) (by omega) (by omega), a4 j hj, b2 j hj]
          · rw [e (28 + 2 * s') (by omega) (by omega) (by omega) (by omega) (by omega), e47, e48, pk_un q, pk_un q]
            refine ⟨g1, g2, g3, g4, fun j hj => ?_⟩
            rw [e (29 + 2 * s') (by omega) (by omega) (by omega) (by omega) (by omega), b3 _ (by omega), e49]
            exact g5 j hj
    · exact Both.f0 (z7 0) H M I R (en_X3_sheet (sg_X3_sheet_0 ⟨_, _, hm_isSheet _, nY c, fun _ => sw_no c2 ⟨_, _, hf0, rfl, rfl⟩⟩)) (fun w1 M1 => en_X4_sheet (sg_X4_sheet_0 ⟨_, _, mm_isSheet _, nY c, fun _ => sw_no c2 ⟨_, _, mf0, rfl, rfl⟩⟩))
  · exact Both.f0 (z7 0) H M I R (en_X3_sheet (sg_X3_sheet_0 ⟨_, _, hm_isSheet _, fun _ => ⟨_, _, hf0, rfl, rfl⟩, nN c⟩)) (fun w1 M1 => en_X4_sheet (sg_X4_sheet_0 ⟨_, _, mm_isSheet _, fun _ => ⟨_, _, mf0, rfl, rfl⟩, nN c⟩))
end ST
