/-! the steps of the small machine against the kit's rows -/
/-- the world at heap H within a method that began at s -/
def ms_H (D : va_G) (ad : Nat → Nat) (cA : Nat → ClassId) (s : State) (w : mz_M) (H : Heap) (locs : List Loc) : Prop :=
  va_P D vwCl (ms_w ad cA w) H ∧ va_D (ms_A ad) (ms_w ad cA w) ∧ va_S (ms_A ad) s.heap H locs
def ms_rok (ret : Option FieldType) (ins : Instr) (ro : Option Value) : Prop :=
  (ret = none ∧ ins = .return_ ∧ ro = none) ∨ (ret = some .int ∧ ins = .ireturn ∧ ∃ v : Int32, ro = some (.int v)) ∨ (∃ ty, ret = some ty ∧ ins = .ireturn ∧ ∃ v : Int32, narrow ty (.int v) = .int v ∧ ro = some (.int v)) ∨
  (ret = some .long ∧ ins = .lreturn ∧ ∃ v : Int64, ro = some (.long v)) ∨ ((∃ n, ret = some (.object n)) ∧ ins = .areturn ∧ ∃ v : Nat, ro = some (.ref v))
section MS
variable (X : mz_X) (d : Nat) (own : String) (cc : ByteArray) (nL : Nat) (D : va_G) (ad : Nat → Nat) (cA : Nat → ClassId) (p : Program) (l : Launch) (e : Env) (R : Room) (s : State) (m : MethodId) (args : Array Value) (below : List Frame) (meth : Method) (c : Code) (cells slots : Nat) (Qw : State → Prop)
def ms_Cx : Prop :=
  p.tables.exec = Jvm.exec ∧ c.code = cc ∧ c.maxLocals = nL ∧ s.vm.findClass own = some m.cls ∧ (∀ w ∈ ms_ws, w.before args s = true) ∧ va_K D vwCl (ms_tys cA) s ∧ ms_RO ad X s s.heap ∧ d + 1 ≤ R.frames ∧ 36 * (d + 1) ≤ R.locals ∧ cells ≤ R.cells ∧ slots ≤ R.slots
def ms_P : mz_P := fun pc L S w => ∀ (H : Heap) (locs : List Loc) (ls : Array Slot), ms_H D ad cA s w H locs → ms_L ad nL L ls → W p l e R s m args below meth c H locs cells slots Qw (F0 m pc ls (S.map (ms_g ad)))
def ms_Ret (ret : Option FieldType) (Q : mz_Q) : Prop := ∀ (ro : Option Value) (w : mz_M) (H : Heap) (locs : List Loc) (ls : Array Slot) (pc : Nat) (ins : Instr), Q ro w → ms_H D ad cA s w H locs → decode cc pc = .ok (ins, 1) → ms_rok ret ins ro → W p l e R s m args below meth c H locs cells slots Qw (F0 m pc ls (ro.map (ms_g ad)).toList)
end MS
/-- which method a number is -/
def ms_CallOK (X : mz_X) (mt : Nat → ms_I) (l : Launch) (d : Nat) (call : mz_C) : Prop := ∀ (mi : Nat) (as : List Value) (w : mz_M) (r : Option Value) (w' : mz_M), call mi as w r w' → ms_Met X l d (mt mi) as w r w' ∧ as.all ms_ir = true
def ms_Snd (X : mz_X) (mt : Nat → ms_I) (own : String) (cc : ByteArray) (nL : Nat) (ret : Option FieldType) (pc : Nat) (t : mz_T) : Prop :=
  ∀ (d : Nat) (D : va_G) (ad : Nat → Nat) (cA : Nat → ClassId) (p : Program) (l : Launch) (e : Env) (R : Room) (s : State) (m : MethodId) (args : Array Value) (below : List Frame) (meth : Method) (c : Code) (cells slots : Nat) (Qw : State → Prop) (call : mz_C) (Q : mz_Q),
    ms_Cx X d own cc nL D ad cA p R s m args c cells slots → ms_CallOK X mt l d call → ms_Ret cc D ad cA p l e R s m args below meth c cells slots Qw ret Q →
    ∀ (L S : List Value) (w : mz_M), t call (ms_P nL D ad cA p l e R s m args below meth c cells slots Qw) Q L S w → ms_P nL D ad cA p l e R s m args below meth c cells slots Qw pc L S w
section SD
variable {X : mz_X} {mt : Nat → ms_I} {own : String} {cc : ByteArray} {nL : Nat} {ret : Option FieldType} {pc : Nat}
theorem sd_iconst {n : Int} {v : Int32} (hd : decode cc pc = .ok (.iconst n, 1)) (hv : Int32.ofInt n = v) : ms_Snd X mt own cc nL ret pc (mi_push (.int v) (pc + 1)) := by
  intro d D ad cA p l e R s m args below meth c cells slots Qw call Q hC hK hR L S w h H locs ls hH hL
  exact lv_iconst hC.1 hC.2.1 hd hv (h H locs ls hH hL)
theorem sd_bipush {n : Int} {v : Int32} (hd : decode cc pc = .ok (.bipush n, 2)) (hv : (Int8.ofInt n).toInt32 = v) : ms_Snd X mt own cc nL ret pc (mi_push (.int v) (pc + 2)) := by
  intro d D ad cA p l e R s m args below meth c cells slots Qw call Q hC hK hR L S w h H locs ls hH hL
  exact lv_bipush hC.1 hC.2.1 hd hv (h H locs ls hH hL)
theorem sd_sipush {n : Int} {v : Int32} (hd : decode cc pc = .ok (.sipush n, 3)) (hv : (Int16.ofInt n).toInt32 = v) : ms_Snd X mt own cc nL ret pc (mi_push (.int v) (pc + 3)) := by
  intro d D ad cA p l e R s m args below meth c cells slots Qw call Q hC hK hR L S w h H locs ls hH hL
  exact lv_sipush hC.1 hC.2.1 hd hv (h H locs ls hH hL)
theorem sd_lconst {n : Fin 2} {v : Int64} (hd : decode cc pc = .ok (.lconst n, 1)) (hv : Int64.ofNat (n : Nat) = v) : ms_Snd X mt own cc nL ret pc (mi_push (.long v) (pc + 1)) := by
  intro d D ad cA p l e R s m args below meth c cells slots Qw call Q hC hK hR L S w h H locs ls hH hL
  exact lv_lconst hC.1 hC.2.1 hd hv (h H locs ls hH hL)
theorem sd_ldc {ix : Nat} {v : Int32} (hd : decode cc pc = .ok (.ldc ix, 2)) (hw : Jvm.Cond.constant own ix v ∈ ms_ws) : ms_Snd X mt own cc nL ret pc (mi_push (.int v) (pc + 2)) := by
  intro d D ad cA p l e R s m args below meth c cells slots Qw call Q hC hK hR L S w h H locs ls hH hL
  exact lv_ldc hC.1 hC.2.1 hC.2.2.2.1 (hC.2.2.2.2.1 _ hw) hd (h H locs ls hH hL)
theorem sd_ldcw {ix : Nat} {v : Int32} (hd : decode cc pc = .ok (.ldc_w ix, 3)) (hw : Jvm.Cond.constant own ix v ∈ ms_ws) : ms_Snd X mt own cc nL ret pc (mi_push (.int v) (pc + 3)) := by
  intro d D ad cA p l e R s m args below meth c cells slots Qw call Q hC hK hR L S w h H locs ls hH hL
  exact lv_ldcw hC.1 hC.2.1 hC.2.2.2.1 (hC.2.2.2.2.1 _ hw) hd (h H locs ls hH hL)
theorem sd_ldcs {ix i : Nat} {tx : String} (hd : decode cc pc = .ok (.ldc ix, 2)) (hq : (own, ix, tx, i) ∈ ms_strs) : ms_Snd X mt own cc nL ret pc (mi_push (.ref (60 + i)) (pc + 2)) := by
  intro d D ad cA p l e R s m args below meth c cells slots Qw call Q hC hK hR L S w h H locs ls hH hL
  exact va_ldcS hC.1 hC.2.1 hC.2.2.2.1 (hC.2.2.2.2.2.2.1.2.2.2.2.2.1 _ hq) hd (h H locs ls hH hL)
theorem sd_gets {ix : Nat} (hd : decode cc pc = .ok (.getstatic ix, 3)) (hw : Jvm.Cond.fieldLink own ix "MangleKin" "ABOVE" "[I" ∈ ms_ws) : ms_Snd X mt own cc nL ret pc (mi_push (.ref 80) (pc + 3)) := by
  intro d D ad cA p l e R s m args below meth c cells slots Qw call Q hC hK hR L S w h H locs ls hH hL
  exact va_gets hC.1 hC.2.1 hC.2.2.2.2.2.2.1.2.1 hH.2.2 hC.2.2.2.1 (hC.2.2.2.2.1 _ hw) (fun _ h9 => h9) hd (h H locs ls hH hL)
theorem sd_iload_n {k : Fin 4} {i : Nat} (hd : decode cc pc = .ok (.iload_n k, 1)) (hi : (k : Nat) = i) : ms_Snd X mt own cc nL ret pc (mi_iload i (pc + 1)) := by
  intro d D ad cA p l e R s m args below meth c cells slots Qw call Q hC hK hR L S w h H locs ls hH hL
  simp only [mi_iload] at h
  split at h
  · rename_i x hx
    exact lv_iload_n hC.1 hC.2.1 hd hi (ms_L_int hL hx) (h H locs ls hH hL)
  · exact h.elim
theorem sd_iload {i : Nat} (hd : decode cc pc = .ok (.iload i, 2)) : ms_Snd X mt own cc nL ret pc (mi_iload i (pc + 2)) := by
  intro d D ad cA p l e R s m args below meth c cells slots Qw call Q hC hK hR L S w h H locs ls hH hL
  simp only [mi_iload] at h
  split at h
  · rename_i x hx
    exact lv_iload hC.1 hC.2.1 hd (ms_L_int hL hx) (h H locs ls hH hL)
  · exact h.elim
theorem sd_aload_n {k : Fin 4} {i : Nat} (hd : decode cc pc = .ok (.aload_n k, 1)) (hi : (k : Nat) = i) : ms_Snd X mt own cc nL ret pc (mi_aload i (pc + 1)) := by
  intro d D ad cA p l e R s m args below meth c cells slots Qw call Q hC hK hR L S w h H locs ls hH hL
  simp only [mi_aload] at h
  split at h
  · rename_i x hx
    exact lv_aload_n hC.1 hC.2.1 hd hi (ms_L_ref hL hx) (h H locs ls hH hL)
  · exact h.elim
theorem sd_aload {i : Nat} (hd : decode cc pc = .ok (.aload i, 2)) : ms_Snd X mt own cc nL ret pc (mi_aload i (pc + 2)) := by
  intro d D ad cA p l e R s m args below meth c cells slots Qw call Q hC hK hR L S w h H locs ls hH hL
  simp only [mi_aload] at h
  split at h
  · rename_i x hx
    exact lv_aload hC.1 hC.2.1 hd (ms_L_ref hL hx) (h H locs ls hH hL)
  · exact h.elim
theorem sd_istore_n {k : Fin 4} {i : Nat} (hd : decode cc pc = .ok (.istore_n k, 1)) (hi : (k : Nat) = i) : ms_Snd X mt own cc nL ret pc (mi_istore i (pc + 1)) := by
  intro d D ad cA p l e R s m args below meth c cells slots Qw call Q hC hK hR L S w h H locs ls hH hL
  simp only [mi_istore] at h
  split at h
  · split at h
    · rename_i hb
      have hn : i < nL := by rw [← hL.1]; exact Nat.blt_eq.mp hb
      exact lv_istore_n hC.1 hC.2.1 hd hi hL.2 hn rfl (fun ls' hl' => h H locs ls' hH (ms_L_set hL hl'))
    · exact h.elim
  · exact h.elim
theorem sd_istore {i : Nat} (hd : decode cc pc = .ok (.istore i, 2)) : ms_Snd X mt own cc nL ret pc (mi_istore i (pc + 2)) := by
  intro d D ad cA p l e R s m args below meth c cells slots Qw call Q hC hK hR L S w h H locs ls hH hL
  simp only [mi_istore] at h
  split at h
  · split at h
    · rename_i hb
      have hn : i < nL := by rw [← hL.1]; exact Nat.blt_eq.mp hb
      exact lv_istore hC.1 hC.2.1 hd hL.2 hn rfl (fun ls' hl' => h H locs ls' hH (ms_L_set hL hl'))
    · exact h.elim
  · exact h.elim
theorem sd_iinc {i : Nat} {n : Int} {v : Int32} (hd : decode cc pc = .ok (.iinc i n, 3)) (hv : Int32.ofInt n = v) : ms_Snd X mt own cc nL ret pc (mi_iinc i v (pc + 3)) := by
  intro d D ad cA p l e R s m args below meth c cells slots Qw call Q hC hK hR L S w h H locs ls hH hL
  simp only [mi_iinc] at h
  split at h
  · rename_i x hx
    have hx2 := hx
    rw [mz_nth_get] at hx2
    have hn : i < nL := by rw [← hL.1]; exact (List.getElem?_eq_some_iff.mp hx2).1
    have hm : (i, Value.int x) ∈ ms_lv ad 0 L := ms_lv_mem.mpr ⟨i, .int x, hx2, rfl, by rw [Nat.zero_add]; rfl⟩
    obtain ⟨k, hk⟩ := List.getElem?_of_mem hm
    exact lv_iinc hC.1 hC.2.1 hd hL.2 hk (v := x + v) (by rw [hv]) hn rfl (fun ls' hl' => h H locs ls' hH (ms_L_set hL hl'))
  · exact h.elim
theorem sd_iadd (hd : decode cc pc = .ok (.iadd, 1)) : ms_Snd X mt own cc nL ret pc (mi_op2 (fun x y => x + y) (pc + 1)) := by
  intro d D ad cA p l e R s m args below meth c cells slots Qw call Q hC hK hR L S w h H locs ls hH hL
  simp only [mi_op2] at h
  split at h
  · exact lv_iadd hC.1 hC.2.1 hd (h H locs ls hH hL)
  · exact h.elim
theorem sd_isub (hd : decode cc pc = .ok (.isub, 1)) : ms_Snd X mt own cc nL ret pc (mi_op2 (fun x y => x - y) (pc + 1)) := by
  intro d D ad cA p l e R s m args below meth c cells slots Qw call Q hC hK hR L S w h H locs ls hH hL
  simp only [mi_op2] at h
  split at h
  · exact lv_isub hC.1 hC.2.1 hd (h H locs ls hH hL)
  · exact h.elim
theorem sd_imul (hd : decode cc pc = .ok (.imul, 1)) : ms_Snd X mt own cc nL ret pc (mi_op2 (fun x y => x * y) (pc + 1)) := by
  intro d D ad cA p l e R s m args below meth c cells slots Qw call Q hC hK hR L S w h H locs ls hH hL
  simp only [mi_op2] at h
  split at h
  · exact lv_imul hC.1 hC.2.1 hd (h H locs ls hH hL)
  · exact h.elim
theorem sd_iand (hd : decode cc pc = .ok (.iand, 1)) : ms_Snd X mt own cc nL ret pc (mi_op2 (fun x y => x &&& y) (pc + 1)) := by
  intro d D ad cA p l e R s m args below meth c cells slots Qw call Q hC hK hR L S w h H locs ls hH hL
  simp only [mi_op2] at h
  split at h
  · exact lv_iand hC.1 hC.2.1 hd (h H locs ls hH hL)
  · exact h.elim
theorem sd_ior (hd : decode cc pc = .ok (.ior, 1)) : ms_Snd X mt own cc nL ret pc (mi_op2 (fun x y => x ||| y) (pc + 1)) := by
  intro d D ad cA p l e R s m args below meth c cells slots Qw call Q hC hK hR L S w h H locs ls hH hL
  simp only [mi_op2] at h
  split at h
  · exact lv_ior hC.1 hC.2.1 hd (h H locs ls hH hL)
  · exact h.elim
theorem sd_ixor (hd : decode cc pc = .ok (.ixor, 1)) : ms_Snd X mt own cc nL ret pc (mi_op2 (fun x y => x ^^^ y) (pc + 1)) := by
  intro d D ad cA p l e R s m args below meth c cells slots Qw call Q hC hK hR L S w h H locs ls hH hL
  simp only [mi_op2] at h
  split at h
  · exact lv_ixor hC.1 hC.2.1 hd (h H locs ls hH hL)
  · exact h.elim
theorem sd_ishl (hd : decode cc pc = .ok (.ishl, 1)) : ms_Snd X mt own cc nL ret pc (mi_op2 (fun x y => x <<< (y &&& 31)) (pc + 1)) := by
  intro d D ad cA p l e R s m args below meth c cells slots Qw call Q hC hK hR L S w h H locs ls hH hL
  simp only [mi_op2] at h
  split at h
  · exact lv_ishl hC.1 hC.2.1 hd (h H locs ls hH hL)
  · exact h.elim
theorem sd_ishr (hd : decode cc pc = .ok (.ishr, 1)) : ms_Snd X mt own cc nL ret pc (mi_op2 (fun x y => x >>> (y &&& 31)) (pc + 1)) := by
  intro d D ad cA p l e R s m args below meth c cells slots Qw call Q hC hK hR L S w h H locs ls hH hL
  simp only [mi_op2] at h
  split at h
  · exact lv_ishr hC.1 hC.2.1 hd (h H locs ls hH hL)
  · exact h.elim
theorem sd_iushr (hd : decode cc pc = .ok (.iushr, 1)) : ms_Snd X mt own cc nL ret pc (mi_op2 (fun x y => (x.toUInt32 >>> (y.toUInt32 &&& Int32.toUInt32 31)).toInt32) (pc + 1)) := by
  intro d D ad cA p l e R s m args below meth c cells slots Qw call Q hC hK hR L S w h H locs ls hH hL
  simp only [mi_op2] at h
  split at h
  · exact lv_iushr hC.1 hC.2.1 hd rfl (h H locs ls hH hL)
  · exact h.elim
theorem sd_i2b (hd : decode cc pc = .ok (.i2b, 1)) : ms_Snd X mt own cc nL ret pc (mi_op1 (fun x => x.toInt8.toInt32) (pc + 1)) := by
  intro d D ad cA p l e R s m args below meth c cells slots Qw call Q hC hK hR L S w h H locs ls hH hL
  simp only [mi_op1] at h
  split at h
  · exact lv_i2b hC.1 hC.2.1 hd rfl (h H locs ls hH hL)
  · exact h.elim
theorem sd_i2s (hd : decode cc pc = .ok (.i2s, 1)) : ms_Snd X mt own cc nL ret pc (mi_op1 (fun x => x.toInt16.toInt32) (pc + 1)) := by
  intro d D ad cA p l e R s m args below meth c cells slots Qw call Q hC hK hR L S w h H locs ls hH hL
  simp only [mi_op1] at h
  split at h
  · exact lv_i2s hC.1 hC.2.1 hd rfl (h H locs ls hH hL)
  · exact h.elim
theorem sd_idiv (hd : decode cc pc = .ok (.idiv, 1)) : ms_Snd X mt own cc nL ret pc (mi_opd (fun x y => x / y) (pc + 1)) := by
  intro d D ad cA p l e R s m args below meth c cells slots Qw call Q hC hK hR L S w h H locs ls hH hL
  simp only [mi_opd] at h
  split at h
  · exact lv_idiv hC.1 hC.2.1 hd h.1 (h.2 H locs ls hH hL)
  · exact h.elim
theorem sd_irem (hd : decode cc pc = .ok (.irem, 1)) : ms_Snd X mt own cc nL ret pc (mi_opd (fun x y => x - x / y * y) (pc + 1)) := by
  intro d D ad cA p l e R s m args below meth c cells slots Qw call Q hC hK hR L S w h H locs ls hH hL
  simp only [mi_opd] at h
  split at h
  · exact lv_irem hC.1 hC.2.1 hd h.1 (h.2 H locs ls hH hL)
  · exact h.elim
theorem sd_i2l (hd : decode cc pc = .ok (.i2l, 1)) : ms_Snd X mt own cc nL ret pc (mi_i2l (pc + 1)) := by
  intro d D ad cA p l e R s m args below meth c cells slots Qw call Q hC hK hR L S w h H locs ls hH hL
  simp only [mi_i2l] at h
  split at h
  · exact lv_i2l hC.1 hC.2.1 hd rfl (h H locs ls hH hL)
  · exact h.elim
theorem sd_ladd (hd : decode cc pc = .ok (.ladd, 1)) : ms_Snd X mt own cc nL ret pc (mi_ladd (pc + 1)) := by
  intro d D ad cA p l e R s m args below meth c cells slots Qw call Q hC hK hR L S w h H locs ls hH hL
  simp only [mi_ladd] at h
  split at h
  · exact lv_ladd hC.1 hC.2.1 hd (h H locs ls hH hL)
  · exact h.elim
theorem sd_lshl (hd : decode cc pc = .ok (.lshl, 1)) : ms_Snd X mt own cc nL ret pc (mi_lshl (pc + 1)) := by
  intro d D ad cA p l e R s m args below meth c cells slots Qw call Q hC hK hR L S w h H locs ls hH hL
  simp only [mi_lshl] at h
  split at h
  · exact lv_lshl hC.1 hC.2.1 hd rfl (h H locs ls hH hL)
  · exact h.elim
theorem sd_lcmp (hd : decode cc pc = .ok (.lcmp, 1)) : ms_Snd X mt own cc nL ret pc (mi_lcmp (pc + 1)) := by
  intro d D ad cA p l e R s m args below meth c cells slots Qw call Q hC hK hR L S w h H locs ls hH hL
  simp only [mi_lcmp] at h
  split at h
  · exact W.lcmp hC.1 hC.2.1 hd (h H locs ls hH hL)
  · exact h.elim
theorem sd_dup (hd : decode cc pc = .ok (.dup, 1)) : ms_Snd X mt own cc nL ret pc (mi_dup (pc + 1)) := by
  intro d D ad cA p l e R s m args below meth c cells slots Qw call Q hC hK hR L S w h H locs ls hH hL
  simp only [mi_dup] at h
  split at h
  · exact lv_dup hC.1 hC.2.1 hd rfl (h H locs ls hH hL)
  · exact lv_dup hC.1 hC.2.1 hd rfl (h H locs ls hH hL)
  · exact h.elim
theorem sd_dup2 (hd : decode cc pc = .ok (.dup2, 1)) : ms_Snd X mt own cc nL ret pc (mi_dup2 (pc + 1)) := by
  intro d D ad cA p l e R s m args below meth c cells slots Qw call Q hC hK hR L S w h H locs ls hH hL
  simp only [mi_dup2] at h
  split at h
  · exact lv_dup2_11 hC.1 hC.2.1 hd rfl rfl (h H locs ls hH hL)
  · exact h.elim
theorem sd_if_eq {off : Int} {tgt : Nat} (hd : decode cc pc = .ok (.ifCond .eq off, 3)) (ht : (pc : Int) + off = (tgt : Int)) : ms_Snd X mt own cc nL ret pc (mi_if (fun x => x = nI 0) tgt (pc + 3)) := by
  intro d D ad cA p l e R s m args below meth c cells slots Qw call Q hC hK hR L S w h H locs ls hH hL
  simp only [mi_if] at h
  split at h
  · exact lv_if_eq hC.1 hC.2.1 hd ht (fun z => h.1 z H locs ls hH hL) (fun z => h.2 z H locs ls hH hL)
  · exact h.elim
theorem sd_if_ne {off : Int} {tgt : Nat} (hd : decode cc pc = .ok (.ifCond .ne off, 3)) (ht : (pc : Int) + off = (tgt : Int)) : ms_Snd X mt own cc nL ret pc (mi_if (fun x => x = nI 0) (pc + 3) tgt) := by
  intro d D ad cA p l e R s m args below meth c cells slots Qw call Q hC hK hR L S w h H locs ls hH hL
  simp only [mi_if] at h
  split at h
  · exact lv_if_ne hC.1 hC.2.1 hd ht (fun z => h.2 z H locs ls hH hL) (fun z => h.1 z H locs ls hH hL)
  · exact h.elim
theorem sd_if_lt {off : Int} {tgt : Nat} (hd : decode cc pc = .ok (.ifCond .lt off, 3)) (ht : (pc : Int) + off = (tgt : Int)) : ms_Snd X mt own cc nL ret pc (mi_if (fun x => x < nI 0) tgt (pc + 3)) := by
  intro d D ad cA p l e R s m args below meth c cells slots Qw call Q hC hK hR L S w h H locs ls hH hL
  simp only [mi_if] at h
  split at h
  · exact lv_if_lt hC.1 hC.2.1 hd ht (fun z => h.1 z H locs ls hH hL) (fun z => h.2 z H locs ls hH hL)
  · exact h.elim
theorem sd_if_ge {off : Int} {tgt : Nat} (hd : decode cc pc = .ok (.ifCond .ge off, 3)) (ht : (pc : Int) + off = (tgt : Int)) : ms_Snd X mt own cc nL ret pc (mi_if (fun x => x < nI 0) (pc + 3) tgt) := by
  intro d D ad cA p l e R s m args below meth c cells slots Qw call Q hC hK hR L S w h H locs ls hH hL
  simp only [mi_if] at h
  split at h
  · exact lv_if_ge hC.1 hC.2.1 hd ht (fun z => h.2 (Int32.not_lt.mpr z) H locs ls hH hL) (fun z => h.1 (Int32.not_le.mp z) H locs ls hH hL)
  · exact h.elim
theorem sd_if_gt {off : Int} {tgt : Nat} (hd : decode cc pc = .ok (.ifCond .gt off, 3)) (ht : (pc : Int) + off = (tgt : Int)) : ms_Snd X mt own cc nL ret pc (mi_if (fun x => nI 0 < x) tgt (pc + 3)) := by
  intro d D ad cA p l e R s m args below meth c cells slots Qw call Q hC hK hR L S w h H locs ls hH hL
  simp only [mi_if] at h
  split at h
  · exact lv_if_gt hC.1 hC.2.1 hd ht (fun z => h.1 z H locs ls hH hL) (fun z => h.2 z H locs ls hH hL)
  · exact h.elim
theorem sd_if_le {off : Int} {tgt : Nat} (hd : decode cc pc = .ok (.ifCond .le off, 3)) (ht : (pc : Int) + off = (tgt : Int)) : ms_Snd X mt own cc nL ret pc (mi_if (fun x => nI 0 < x) (pc + 3) tgt) := by
  intro d D ad cA p l e R s m args below meth c cells slots Qw call Q hC hK hR L S w h H locs ls hH hL
  simp only [mi_if] at h
  split at h
  · exact lv_if_le hC.1 hC.2.1 hd ht (fun z => h.2 (Int32.not_lt.mpr z) H locs ls hH hL) (fun z => h.1 (Int32.not_le.mp z) H locs ls hH hL)
  · exact h.elim
theorem sd_icmp_eq {off : Int} {tgt : Nat} (hd : decode cc pc = .ok (.if_icmp .eq off, 3)) (ht : (pc : Int) + off = (tgt : Int)) : ms_Snd X mt own cc nL ret pc (mi_cmp (fun x y => x = y) tgt (pc + 3)) := by
  intro d D ad cA p l e R s m args below meth c cells slots Qw call Q hC hK hR L S w h H locs ls hH hL
  simp only [mi_cmp] at h
  split at h
  · exact lv_icmp_eq hC.1 hC.2.1 hd ht (fun z => h.1 z H locs ls hH hL) (fun z => h.2 z H locs ls hH hL)
  · exact h.elim
theorem sd_icmp_ne {off : Int} {tgt : Nat} (hd : decode cc pc = .ok (.if_icmp .ne off, 3)) (ht : (pc : Int) + off = (tgt : Int)) : ms_Snd X mt own cc nL ret pc (mi_cmp (fun x y => x = y) (pc + 3) tgt) := by
  intro d D ad cA p l e R s m args below meth c cells slots Qw call Q hC hK hR L S w h H locs ls hH hL
  simp only [mi_cmp] at h
  split at h
  · exact lv_icmp_ne hC.1 hC.2.1 hd ht (fun z => h.2 z H locs ls hH hL) (fun z => h.1 z H locs ls hH hL)
  · exact h.elim
theorem sd_icmp_lt {off : Int} {tgt : Nat} (hd : decode cc pc = .ok (.if_icmp .lt off, 3)) (ht : (pc : Int) + off = (tgt : Int)) : ms_Snd X mt own cc nL ret pc (mi_cmp (fun x y => x < y) tgt (pc + 3)) := by
  intro d D ad cA p l e R s m args below meth c cells slots Qw call Q hC hK hR L S w h H locs ls hH hL
  simp only [mi_cmp] at h
  split at h
  · exact lv_icmp_lt hC.1 hC.2.1 hd ht (fun z => h.1 z H locs ls hH hL) (fun z => h.2 z H locs ls hH hL)
  · exact h.elim
theorem sd_icmp_ge {off : Int} {tgt : Nat} (hd : decode cc pc = .ok (.if_icmp .ge off, 3)) (ht : (pc : Int) + off = (tgt : Int)) : ms_Snd X mt own cc nL ret pc (mi_cmp (fun x y => x < y) (pc + 3) tgt) := by
  intro d D ad cA p l e R s m args below meth c cells slots Qw call Q hC hK hR L S w h H locs ls hH hL
  simp only [mi_cmp] at h
  split at h
  · exact lv_icmp_ge hC.1 hC.2.1 hd ht (fun z => h.2 (Int32.not_lt.mpr z) H locs ls hH hL) (fun z => h.1 (Int32.not_le.mp z) H locs ls hH hL)
  · exact h.elim
theorem sd_icmp_gt {off : Int} {tgt : Nat} (hd : decode cc pc = .ok (.if_icmp .gt off, 3)) (ht : (pc : Int) + off = (tgt : Int)) : ms_Snd X mt own cc nL ret pc (mi_cmp (fun x y => y < x) tgt (pc + 3)) := by
  intro d D ad cA p l e R s m args below meth c cells slots Qw call Q hC hK hR L S w h H locs ls hH hL
  simp only [mi_cmp] at h
  split at h
  · exact lv_icmp_gt hC.1 hC.2.1 hd ht (fun z => h.1 z H locs ls hH hL) (fun z => h.2 z H locs ls hH hL)
  · exact h.elim
theorem sd_icmp_le {off : Int} {tgt : Nat} (hd : decode cc pc = .ok (.if_icmp .le off, 3)) (ht : (pc : Int) + off = (tgt : Int)) : ms_Snd X mt own cc nL ret pc (mi_cmp (fun x y => y < x) (pc + 3) tgt) := by
  intro d D ad cA p l e R s m args below meth c cells slots Qw call Q hC hK hR L S w h H locs ls hH hL
  simp only [mi_cmp] at h
  split at h
  · exact lv_icmp_le hC.1 hC.2.1 hd ht (fun z => h.2 (Int32.not_lt.mpr z) H locs ls hH hL) (fun z => h.1 (Int32.not_le.mp z) H locs ls hH hL)
  · exact h.elim
end SD
