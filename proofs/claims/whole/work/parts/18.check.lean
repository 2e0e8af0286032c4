/-! String.checkIndex by hand: an index in range, nothing changes -/
set_option maxHeartbeats 4000000 in
theorem hk_pre {X : mz_X} (l : Launch) (D : va_G) (ad : Nat → Nat) (cA : Nat → ClassId) (w : mz_M) (i n : Int32) (v : Value) (hv : v = .null ∨ ∃ t, v = .ref t) (h0 : ¬ i < 0) (h1 : i < n) : Met l yJ3_checkIndex_8e157 (.code yJ3_checkIndex_8e157 cJ3_checkIndex_8e157 3 (some .int) :: ms_ws) (ms_rm 0) (va_Pc [.int i, .int n, v] (ms_Pre D ad X cA w)) (ms_Qc D ad cA (some (.int i)) w) 0 0 (ms_A ad) := by
  refine Met.ofW (cc := cJ3_checkIndex_8e157) (maxL := 3) (ret := some .int) (by decide) rfl ?_
  intro p e s m args below meth c s₁ B hml hv'
  obtain ⟨rfl, hP, hKK, hD, hRO⟩ := hv'
  have hx := B.exec
  have hb := B.bytes
  have hlocks := B.notSynchronized
  have hc : v.category = 1 := by rcases hv with rfl | ⟨t, rfl⟩ <;> rfl
  have hl := lv_entry ([.int i, .int n, v]) (n := 3) (by rcases hv with rfl | ⟨t, rfl⟩ <;> exact Nat.le_of_ble_eq_true rfl)
  rw [lg_entry_eq]
  generalize (lg_sl [.int i, .int n, v] ++ List.replicate (3 - (lg_sl [.int i, .int n, v]).length) Slot.unset).toArray = ls at hl ⊢
  refine lv_iload_n hx hb (show decode cJ3_checkIndex_8e157 0 = .ok (.iload_n 0, 1) by decide +kernel) rfl (lv_at hl 0 rfl) ?_
  refine lv_if_lt (tgt := 9) hx hb (show decode cJ3_checkIndex_8e157 1 = .ok (.ifCond .lt 8, 3) by decide +kernel) (by decide) (fun z => absurd z h0) (fun _ => ?_)
  refine lv_iload_n hx hb (show decode cJ3_checkIndex_8e157 4 = .ok (.iload_n 0, 1) by decide +kernel) rfl (lv_at hl 0 rfl) ?_
  refine lv_iload_n hx hb (show decode cJ3_checkIndex_8e157 5 = .ok (.iload_n 1, 1) by decide +kernel) rfl (lv_at hl 1 rfl) ?_
  refine lv_icmp_lt (tgt := 16) hx hb (show decode cJ3_checkIndex_8e157 6 = .ok (.if_icmp .lt 10, 3) by decide +kernel) (by decide) (fun _ => ?_) (fun z => absurd h1 z)
  refine lv_iload_n hx hb (show decode cJ3_checkIndex_8e157 16 = .ok (.iload_n 0, 1) by decide +kernel) rfl (lv_at hl 0 rfl) ?_
  exact W.iret (v := i) hx hb B.returns (fun t ht hW => ⟨rfl, by rw [ht]; exact hP, by rw [ht]; exact Nat.le_refl _, fun q _ _ => by rw [ht]⟩) (fun _ h => by cases h) (show decode cJ3_checkIndex_8e157 17 = .ok (.ireturn, 1) by decide +kernel)
set_option maxHeartbeats 4000000 in
theorem hk_check {X : mz_X} (l : Launch) (d : Nat) (as : List Value) (w : mz_M) (r : Option Value) (w' : mz_M) (h : mz_chk as w r w') : ms_Met X l (d + 1) mt_ck as w r w' := by
  obtain ⟨i, n, rfl, h0, h1, rfl, rfl⟩ := h
  intro D ad cA
  refine Met.ofW (cc := cJ0_checkIndex_df160) (maxL := 2) (ret := none) (by decide) rfl ?_
  intro p e s m args below meth c s₁ B hml hv'
  obtain ⟨rfl, hP, hKK, hD, hRO⟩ := hv'
  have hx := B.exec
  have hb := B.bytes
  have hlocks := B.notSynchronized
  have hts := atoms_spec (ws := .code yJ0_checkIndex_df160 cJ0_checkIndex_df160 2 none :: ms_ws) B.pre
  have hts : ∀ w ∈ ms_ws, w.before _ s = true := fun w hw => hts w (List.mem_cons_of_mem _ hw)
  have hown : s.vm.findClass RJ0 = some m.cls := findClass_of_methodNamed B.named
  have hl := lv_entry ([.int i, .int n]) (n := 2) (Nat.le_of_ble_eq_true rfl)
  show W p l e _ s m _ below meth c s.heap [] 0 0 _ (entryFrame m ([.int i, .int n] : List Value).toArray 2)
  rw [lg_entry_eq]
  generalize (lg_sl [.int i, .int n] ++ List.replicate (2 - (lg_sl [.int i, .int n]).length) Slot.unset).toArray = ls at hl ⊢
  have hH : ms_H D ad cA s w' s.heap [] := ⟨hP, hD, va_S.rf⟩
  refine lv_iload_n hx hb (show decode cJ0_checkIndex_df160 0 = .ok (.iload_n 0, 1) by decide +kernel) rfl (lv_at hl 0 rfl) ?_
  refine lv_iload_n hx hb (show decode cJ0_checkIndex_df160 1 = .ok (.iload_n 1, 1) by decide +kernel) rfl (lv_at hl 1 rfl) ?_
  have key : ∀ v : Value, (v = .null ∨ ∃ t, v = .ref t) → va_Z "jdk/internal/util/Preconditions" "SIOOBE_FORMATTER" "Ljava/util/function/BiFunction;" v (ms_A ad) s s.heap → W p l e (headSpec (.code yJ0_checkIndex_df160 cJ0_checkIndex_df160 2 none :: ms_ws) (ms_rm (d + 1))).room s m ([.int i, .int n] : List Value).toArray below meth c s.heap [] 0 0 (MQ below (ms_Qc D ad cA none w') ([.int i, .int n] : List Value).toArray s 0 0 (ms_A ad)) (F0 m 2 ls [.int n, .int i]) := by
    intro v hv hZ
    have hc : v.category = 1 := by rcases hv with rfl | ⟨t, rfl⟩ <;> rfl
    refine va_gets hx hb hZ va_S.rf hown (hts _ wd_601) (fun _ h9 => h9) (show decode cJ0_checkIndex_df160 2 = .ok (.getstatic 1053, 3) by decide +kernel) ?_
    refine ms_cont (rest := []) (va_runS (As := [.int i, .int n, v]) ⟨hx, hb, hml, hown, hts⟩ (hk_pre (X := X) l D ad cA w' i n v hv h0 h1) ⟨sd_callB (na := 3) (d := 0) (q := (yJ3_checkIndex_8e157, cJ3_checkIndex_8e157, 3, some .int)) hts ⟨wd_605, wd_603, wd_67, by decide +kernel, by decide⟩ (by show 0 + 1 ≤ d + 1; omega) (by show 36 * (0 + 1) ≤ 36 * (d + 1); omega), hts _ wd_604⟩ ⟨ms_Pre_blind, ms_start hKK hRO hH⟩ rfl rfl hl.1 rfl (lv_room (Nat.le_of_ble_eq_true rfl)) (show decode cJ0_checkIndex_df160 5 = .ok (.invokestatic 1059, 3) by decide +kernel) ⟨Nat.zero_le _, Nat.zero_le _⟩) hH (fun H1 locs1 hH1 => ?_)
    refine lv_pop hx hb (show decode cJ0_checkIndex_df160 8 = .ok (.pop, 1) by decide +kernel) rfl ?_
    exact W.vret hx hb B.returns (fun t ht hW => ⟨rfl, by rw [ht]; exact hH1.1, hH1.2.2.F ht⟩) hH1.2.2.2.2 (show decode cJ0_checkIndex_df160 9 = .ok (.return_, 1) by decide +kernel)
  rcases hRO.2.2.2.2.1 with hZ | ⟨t, hZ⟩
  · exact key .null (Or.inl rfl) hZ
  · exact key (.ref t) (Or.inr ⟨t, rfl⟩) hZ
