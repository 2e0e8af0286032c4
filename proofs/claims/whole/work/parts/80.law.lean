/-! the law's loop in the small machine; what stands at its start -/
theorem mz_sw_all {x : Int32} {K : Nat → Prop} {d : Nat} : ∀ {ts : List (Int32 × Nat)}, (∀ q ∈ ts, K q.2) → K d → mz_sw x K d ts
  | [], _, hd => hd
  | q :: ts, h, hd => ⟨fun _ => h q List.mem_cons_self, fun _ => mz_sw_all (fun q hq => h q (List.mem_cons_of_mem _ hq)) hd⟩
theorem lt6 {n k : Nat} (hn : n < 10000) (hk : k < 10000) : nI n - nI 6 < nI k ↔ n < k + 6 := by
  rw [Int32.lt_iff_toInt_lt, pk_sub_toInt (by omega) (by omega), nI_toInt (by omega)]
  omega
theorem law_small {X : mz_X} {Q : mz_Q} (hX : X.1 ≤ 3072) (h1 : ∀ w, Q (some (.int (nI 1))) w) : ∀ (k j : Nat) (w : mz_M), X.1 < 6 * (j + k) → 6 * j ≤ X.1 + 5 → Rel (60 * j) w → mz_Ex (cd_L_law X) (mz_Call 11) Q 18 [.ref 90, .ref 0, .ref 37, .int (nI (6 * j))] [] w := by
  intro k
  induction k with
  | zero =>
    intro j w hk hj R
    refine sg_L_18 ?_
    rw [lt6 (by omega) (by omega)]
    exact ⟨fun _ => ⟨nz_11, h1 w⟩, fun c => absurd (show X.1 < 6 * j + 6 by omega) c⟩
  | succ k ih =>
    intro j w hk hj R
    refine sg_L_18 ?_
    rw [lt6 (by omega) (by omega)]
    refine ⟨fun _ => ⟨nz_11, h1 w⟩, fun c => ⟨vp_in_nI (by omega) (by omega), ?_⟩⟩
    have hv : ∀ k, k < 6 → vp_in (nI (6 * j) + nI k) X.1 := fun k hk => by
      rw [nI_add]
      exact vp_in_nI (by omega) (by omega)
    have hT : 60 * j ≤ 90000 := by omega
    have nx0 : ∀ w2, Rel (60 * j + 60) w2 → mz_Ex (cd_L_law X) (mz_Call 11) Q 1674 [.ref 90, .ref 0, .ref 37, .int (nI (6 * j))] [] w2 := fun w2 R2 => by
      refine sg_L_1674 ?_
      rw [nI_add]
      exact ih (j + 1) w2 (by omega) (by omega) R2
    refine mz_sw_all ?_ (nx0 w (R.up (by omega)))
    exact List.forall_mem_cons.mpr ⟨lc_0 R hT hv nx0, List.forall_mem_cons.mpr ⟨lc_1 R hT hv nx0, List.forall_mem_cons.mpr ⟨lc_2 R hT hv nx0, List.forall_mem_cons.mpr ⟨lc_3 R hT hv nx0, List.forall_mem_cons.mpr ⟨lc_4 R hT hv nx0, List.forall_mem_cons.mpr ⟨lc_5 R hT hv nx0, List.forall_mem_cons.mpr ⟨lc_6 R hT hv nx0, List.forall_mem_cons.mpr ⟨lc_7 R hT hv nx0, List.forall_mem_cons.mpr ⟨lc_8 R hT hv nx0, List.forall_mem_cons.mpr ⟨lc_9 R hT hv nx0, List.forall_mem_cons.mpr ⟨lc_10 R hT hv nx0, List.forall_mem_cons.mpr ⟨lc_11 R hT hv nx0, List.forall_mem_cons.mpr ⟨lc_12 R hT hv nx0, List.forall_mem_cons.mpr ⟨lc_13 R hT hv nx0, List.forall_mem_cons.mpr ⟨lc_14 R hT hv nx0, List.forall_mem_cons.mpr ⟨lc_15 R hT hv nx0, List.forall_mem_cons.mpr ⟨lc_16 R hT hv nx0, List.forall_mem_cons.mpr ⟨lc_17 R hT hv nx0, List.forall_mem_cons.mpr ⟨lc_18 R hT hv nx0, List.forall_mem_cons.mpr ⟨lc_19 R hT hv nx0, List.forall_mem_cons.mpr ⟨lc_20 R hT hv nx0, List.forall_mem_cons.mpr ⟨lc_21 R hT hv nx0, List.forall_mem_cons.mpr ⟨lc_22 R hT hv nx0, List.forall_mem_cons.mpr ⟨lc_23 R hT hv nx0, List.forall_mem_cons.mpr ⟨lc_24 R hT hv nx0, List.forall_mem_cons.mpr ⟨lc_25 R hT hv nx0, List.forall_mem_cons.mpr ⟨lc_26 R hT hv nx0, List.forall_mem_cons.mpr ⟨lc_27 R hT hv nx0, List.forall_mem_cons.mpr ⟨lc_28 R hT hv nx0, List.forall_mem_cons.mpr ⟨lc_29 R hT hv nx0, List.forall_mem_cons.mpr ⟨lc_30 R hT hv nx0, List.forall_mem_cons.mpr ⟨lc_31 R hT hv nx0, List.forall_mem_cons.mpr ⟨lc_32 R hT hv nx0, List.forall_mem_cons.mpr ⟨lc_33 R hT hv nx0, List.forall_mem_cons.mpr ⟨lc_34 R hT hv nx0, List.forall_mem_cons.mpr ⟨lc_35 R hT hv nx0, List.forall_mem_cons.mpr ⟨lc_36 R hT hv nx0, List.forall_mem_cons.mpr ⟨lc_37 R hT hv nx0, List.forall_mem_cons.mpr ⟨lc_38 R hT hv nx0, List.forall_mem_cons.mpr ⟨lc_39 R hT hv nx0, List.forall_mem_cons.mpr ⟨lc_40 R hT hv nx0, List.forall_mem_cons.mpr ⟨lc_41 R hT hv nx0, List.forall_mem_cons.mpr ⟨lc_42 R hT hv nx0, List.forall_mem_cons.mpr ⟨lc_43 R hT hv nx0, List.forall_mem_cons.mpr ⟨lc_44 R hT hv nx0, fun _ h => absurd h List.not_mem_nil⟩⟩⟩⟩⟩⟩⟩⟩⟩⟩⟩⟩⟩⟩⟩⟩⟩⟩⟩⟩⟩⟩⟩⟩⟩⟩⟩⟩⟩⟩⟩⟩⟩⟩⟩⟩⟩⟩⟩⟩⟩⟩⟩⟩⟩
/-- the start: what the constructors leave -/
def hs0 (j : Nat) : Int32 := match j with
  | 0 => nI 3
  | 2 => (-1 : Int32)
  | 4 => nI 1
  | _ => 0
def w0 (g1 g2 g3 f : Nat → Int32) : mz_M := fun k => match k with
  | 1 => hs0
  | 6 => g1
  | 9 => hs0
  | 14 => g2
  | 17 => hs0
  | 22 => g3
  | 38 => f
  | _ => fun _ => 0
def sg0 : Nat → Nat := fun j => if j = 3 then 3 else 0
theorem sg0_n {j : Nat} (h : j ≠ 3) : sg0 j = 0 := if_neg h
theorem rel0 {g1 g2 g3 f : Nat → Int32} (h1 : ∀ j, j < 10 → g1 j = (-1 : Int32)) (f0 : f 0 = 0) (f1 : f 1 = 0) (f2 : f 2 = nI 1) (f3 : f 3 = nI 3) (f4 : ∀ j, 4 ≤ j → j < 15 → f j = (-1 : Int32)) (f5 : ∀ j, 15 ≤ j → f j = 0) : Rel 0 (w0 g1 g2 g3 f) := by
  refine ⟨sg0, nI 1, ⟨rfl, rfl, rfl, rfl, rfl, fun j hj => ?_, fun j hj => ?_, fun j hj => ?_, fun j hj => ?_, fun j hj => ?_⟩, ⟨f0, f1, f2, f3, fun j a b => ?_, fun j a b => ?_⟩, ⟨Nat.le_refl _, Nat.zero_le _, by decide, fun j a b => ?_, fun j a b => ?_, fun j a b => ?_, fun j a b => ?_, fun j a b => ?_, fun a b ha hb => ?_, fun a ha => ?_⟩, Or.inl ⟨rfl, rfl⟩, ⟨fun k hk => rfl, (show (0 : Int32) = 0 + 0 + 0 + 0 + 0 + 0 + 0 by decide)⟩, ⟨0, by decide, rfl, rfl, fun j hj => absurd hj (by omega)⟩, fun s hs => ?_⟩
  · rw [sg0_n (by omega)]; rfl
  · rw [sg0_n (by omega)]; rfl
  · rw [sg0_n (by omega)]; rfl
  · rw [sg0_n (by omega)]; rfl
  · rw [sg0_n (by omega), nP_0]; exact h1 j hj
  · rw [sg0_n (by omega), nP_0]; exact f4 j a b
  · rw [sg0_n (by omega)]; exact f5 j a
  · rw [sg0_n (by omega)]; exact Nat.zero_le _
  · rw [sg0_n (by omega)]; decide
  · rw [sg0_n (by omega)]; decide
  · rw [sg0_n (by omega)]; decide
  · rw [sg0_n (by omega)]; decide
  · rw [sg0_n (by omega), sg0_n (by omega)]
  · rw [sg0_n (by omega)]
  · rcases (show s = 0 ∨ s = 1 ∨ s = 2 ∨ s = 3 by omega) with rfl | rfl | rfl | rfl
    · exact ⟨rfl, rfl, ⟨0, by decide, rfl⟩, Or.inl rfl, fun j hj => rfl⟩
    · exact ⟨rfl, rfl, ⟨0, by decide, rfl⟩, Or.inl rfl, fun j hj => rfl⟩
    · exact ⟨rfl, rfl, ⟨0, by decide, rfl⟩, Or.inl rfl, fun j hj => rfl⟩
    · exact ⟨rfl, rfl, ⟨0, by decide, rfl⟩, Or.inl rfl, fun j hj => rfl⟩
