/-! a method of the small machine, its contract; calls by depth -/
/-- ldc_w of a text -/
theorem sd_ldcws {X : mz_X} {mt : Nat → ms_I} {own : String} {cc : ByteArray} {nL : Nat} {ret : Option FieldType} {pc ix i : Nat} {tx : String} (hd : decode cc pc = .ok (.ldc_w ix, 3)) (hq : (own, ix, tx, i) ∈ ms_strs) : ms_Snd X mt own cc nL ret pc (mi_push (.ref (60 + i)) (pc + 3)) := by
  intro d D ad cA p l e R s m args below meth c cells slots Qw call Q hC hK hR L S w h H locs ls hH hL
  intro T hT X9
  obtain ⟨t, a1, b1⟩ := h H locs ls hH hL T hT X9
  refine ⟨t, ?_, b1⟩
  have hZ := hC.2.2.2.2.2.2.1.2.2.2.2.2.1 _ hq
  have hexec := hC.1
  have hb := hC.2.1
  obtain ⟨k, cf, j, a', hk, hcf, hcp, -, hr, hev'⟩ := Cond.stringRef_spec hC.2.2.2.1 hZ.1
  cases hZ.2.symm.trans hev'
  obtain ⟨k', hk', he⟩ := X9.warmed.alike.2.2 _ _ hk
  have hr' : k'.resolved[ix]? = some (some (.string (ad (60 + i)))) := by
    rcases X9.warmed.entry hk hk' ix with g | ⟨g, -⟩
    · rw [g]; exact hr
    · rw [hr] at g; cases g
  have hdg : decode c.code (F0 m pc ls (S.map (ms_g ad))).pc = .ok (.ldc_w ix, 3) := by rw [hb]; exact hd
  jvm_step X9.here [hexec, hdg, ldc_w.wp_string (e := e) (s := T) (f := F0 m pc ls (S.map (ms_g ad))) X9.here.top hk' (by rw [he]; exact hcf) hcp hr']
  exact a1
/-- the code of a method is told right -/
def ms_Ok (X : mz_X) (mt : Nat → ms_I) (q : ms_I) (cd : mz_Cd) : Prop := plainName q.1.cls = true ∧ ∀ pc, ms_Snd X mt q.1.cls q.2.1 q.2.2.1 q.2.2.2 pc (mz_look cd pc)
theorem ms_method {X : mz_X} {mt : Nat → ms_I} {l : Launch} {d : Nat} {call : mz_C} {q : ms_I} {cd : mz_Cd} (ok : ms_Ok X mt q cd) (hK : ms_CallOK X mt l d call) {as : List Value} {w : mz_M} {r : Option Value} {w' : mz_M} (h1 : as.length ≤ q.2.2.1) (h2 : as.all ms_ir = true) (h : mz_Ex cd call (fun r1 w1 => r1 = r ∧ w1 = w') 0 (as ++ List.replicate (q.2.2.1 - as.length) .null) [] w) : ms_Met X l (d + 1) q as w r w' := by
  intro D ad cA
  refine Met.ofW (cc := q.2.1) (maxL := q.2.2.1) (ret := q.2.2.2) ok.1 rfl ?_
  intro p e s m args below meth c s₁ B hml hv
  obtain ⟨rfl, hP, hKK, hD, hRO⟩ := hv
  have hts := atoms_spec (ws := .code q.1 q.2.1 q.2.2.1 q.2.2.2 :: ms_ws) B.pre
  have hown : s.vm.findClass q.1.cls = some m.cls := findClass_of_methodNamed B.named
  have hr := B.returns
  have hlocks := B.notSynchronized
  have hC : ms_Cx X d q.1.cls q.2.1 q.2.2.1 D ad cA p (headSpec (.code q.1 q.2.1 q.2.2.1 q.2.2.2 :: ms_ws) (ms_rm (d + 1))).room s m (as.map (ms_g ad)).toArray c 0 0 := ⟨B.exec, B.bytes, hml, hown, fun w hw => hts w (List.mem_cons_of_mem _ hw), hKK, hRO, Nat.le_refl _, Nat.le_refl _, Nat.zero_le _, Nat.zero_le _⟩
  have hR : ms_Ret q.2.1 D ad cA p l e (headSpec (.code q.1 q.2.1 q.2.2.1 q.2.2.2 :: ms_ws) (ms_rm (d + 1))).room s m (as.map (ms_g ad)).toArray below meth c 0 0 (MQ below (ms_Qc D ad cA r w') (as.map (ms_g ad)).toArray s 0 0 (ms_A ad)) q.2.2.2 (fun r1 w1 => r1 = r ∧ w1 = w') := by
    intro ro w0 H locs ls pc ins hq hH hd hrok
    obtain ⟨rfl, rfl⟩ := hq
    rcases hrok with ⟨e1, rfl, rfl⟩ | ⟨e1, rfl, v, rfl⟩ | ⟨ty, e1, rfl, v, hn, rfl⟩ | ⟨e1, rfl, v, rfl⟩ | ⟨⟨n, e1⟩, rfl, v, rfl⟩
    · exact W.vret B.exec B.bytes (by rw [hr, e1]) (fun t ht hW => ⟨rfl, by rw [ht]; exact hH.1, hH.2.2.F ht⟩) hH.2.2.2.2 hd
    · exact W.iret (v := v) B.exec B.bytes (by rw [hr, e1]) (fun t ht hW => ⟨rfl, by rw [ht]; exact hH.1, hH.2.2.F ht⟩) hH.2.2.2.2 hd
    · exact W.zret (v := v) (ty := ty) B.exec B.bytes (by rw [hr, e1]) hn (fun t ht hW => ⟨rfl, by rw [ht]; exact hH.1, hH.2.2.F ht⟩) hH.2.2.2.2 hd
    · exact W.lret (v := v) B.exec B.bytes (by rw [hr, e1]) (fun t ht hW => ⟨rfl, by rw [ht]; exact hH.1, hH.2.2.F ht⟩) hH.2.2.2.2 hd
    · exact W.aret (v := .ref (ad v)) (rt := .object n) B.exec B.bytes (by rw [hr, e1]) (Or.inl ⟨n, rfl⟩) (Or.inr ⟨_, rfl⟩) (fun t ht hW => ⟨rfl, by rw [ht]; exact hH.1, hH.2.2.F ht⟩) hH.2.2.2.2 hd
  have hl := lv_entry (as.map (ms_g ad)) (n := q.2.2.1) (by rw [ms_sl as h2]; exact h1)
  rw [lg_entry_eq]
  generalize (lg_sl (as.map (ms_g ad)) ++ List.replicate (q.2.2.1 - (lg_sl (as.map (ms_g ad))).length) Slot.unset).toArray = ls at hl ⊢
  exact h _ (fun pc L S w k => ok.2 pc d D ad cA p l e _ s m _ below meth c 0 0 _ call _ hC hK hR L S w k) s.heap [] ls ⟨hP, hD, va_S.rf⟩ ⟨by rw [List.length_append, List.length_replicate]; omega, by rw [ms_L_entry as 0 _ h2]; exact hl⟩
/-- String.checkIndex, told by hand -/
def mz_chk (as : List Value) (w : mz_M) (r : Option Value) (w' : mz_M) : Prop := ∃ i n : Int32, as = [.int i, .int n] ∧ (¬ i < 0) ∧ i < n ∧ r = none ∧ w' = w
/-- what a method answers within d frames -/
def mz_CallT (tb : Nat → Option (ms_I × mz_Cd)) : Nat → mz_C
  | 0 => fun _ _ _ _ _ => False
  | d + 1 => fun mi as w r w' => match tb mi with
    | some q => as.length ≤ q.1.2.2.1 ∧ as.all ms_ir = true ∧ mz_Ex q.2 (mz_CallT tb d) (fun r1 w1 => r1 = r ∧ w1 = w') 0 (as ++ List.replicate (q.1.2.2.1 - as.length) .null) [] w
    | none => mi = 219 ∧ mz_chk as w r w'
def mz_mt (tb : Nat → Option (ms_I × mz_Cd)) (ck : ms_I) (mi : Nat) : ms_I := match tb mi with
  | some q => q.1
  | none => ck
theorem ms_sound {X : mz_X} {l : Launch} {tb : Nat → Option (ms_I × mz_Cd)} {ck : ms_I} (hok : ∀ (mi : Nat) (q : ms_I × mz_Cd), tb mi = some q → ms_Ok X (mz_mt tb ck) q.1 q.2) (hck : ∀ (d : Nat) (as : List Value) (w : mz_M) (r : Option Value) (w' : mz_M), mz_chk as w r w' → ms_Met X l (d + 1) ck as w r w') : ∀ d, ms_CallOK X (mz_mt tb ck) l d (mz_CallT tb d)
  | 0 => fun _ _ _ _ _ h => h.elim
  | d + 1 => by
    intro mi as w r w' h
    simp only [mz_CallT] at h
    unfold mz_mt
    split at h
    · rename_i q hq
      exact ⟨ms_method (hok mi q hq) (ms_sound hok hck d) h.1 h.2.1 h.2.2, h.2.1⟩
    · rename_i hq
      refine ⟨hck d as w r w' h.2, ?_⟩
      obtain ⟨-, i, n, rfl, -⟩ := h
      rfl
