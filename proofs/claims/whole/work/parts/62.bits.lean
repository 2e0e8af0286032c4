/-! how many of a set: both sides -/
section BT
variable {d : Nat} {w : mz_M}
theorem hm_bitCount {s : Nat} (hs : s < 256) : mz_Call (d + 1) 212 [.int (nI s)] w (some (.int (nI (cbS s 8)))) w := by
  refine en_J6_bitCount_0f7a4 (sg_J6_bitCount_0f7a4_0 ⟨?_, rfl⟩)
  refine congrArg (fun x => some (Value.int x)) ?_
  revert hs
  revert s
  decide +kernel
theorem bt_step : ∀ s, s < 256 → ¬ s = 0 → (s &&& (s - 1)) < s ∧ cbS s 8 = cbS (s &&& (s - 1)) 8 + 1 := by decide +kernel
theorem mm_bits {s : Nat} (hs : s < 256) : mz_Call (d + 1) 113 [.int (nI s)] w (some (.int (nI (cbS s 8)))) w := by
  have loop : ∀ m a b j0, b ≤ m → b < 256 → a + cbS b 8 = cbS s 8 → mz_Ex cd_X4_bits (mz_Call d) (fun r1 w1 => r1 = some (.int (nI (cbS s 8))) ∧ w1 = w) 4 [j0, .int (nI a), .int (nI b)] [] w := by
    intro m
    induction m with
    | zero =>
      intro a b j0 hm hb e
      have hb0 : b = 0 := by omega
      subst hb0
      refine sg_X4_bits_4 ⟨fun _ => ⟨?_, rfl⟩, nS⟩
      rw [← e]; rfl
    | succ m ih =>
      intro a b j0 hm hb e
      refine sg_X4_bits_4 ?_
      rw [nI_eq (by omega) (by omega)]
      refine ⟨fun c => ⟨?_, rfl⟩, fun c => ?_⟩
      · subst c; rw [← e]; rfl
      · have st := bt_step b hb c
        rw [pk_sub (by omega), nb_and, nI_add]
        exact ih (a + 1) _ _ (by omega) (by omega) (by omega)
  exact en_X4_bits (sg_X4_bits_0 (loop 255 0 s _ (by omega) hs (by omega)))
end BT
