/-! the steps of the small machine against the kit's rows: jumps, memory, calls, returns -/
def sd_swok (pc : Int) : Int → List (Int32 × Nat) → List Int → Bool
  | _, [], [] => true
  | lo, q :: ts, o :: os => (decide (q.1.toInt = lo) && decide (pc + o = (q.2 : Int))) && sd_swok pc (lo + 1) ts os
  | _, _, _ => false
theorem sd_swok_at {pc : Int} : ∀ {ts : List (Int32 × Nat)} {os : List Int} {lo : Int}, sd_swok pc lo ts os = true → ts.length = os.length ∧ ∀ (j : Nat) (q : Int32 × Nat), ts[j]? = some q → ∃ o, os[j]? = some o ∧ q.1.toInt = lo + j ∧ pc + o = (q.2 : Int)
  | [], [], lo, _ => ⟨rfl, fun j q h => by simp at h⟩
  | q :: ts, o :: os, lo, h => by
    simp only [sd_swok, Bool.and_eq_true, decide_eq_true_eq] at h
    obtain ⟨h1, h2⟩ := sd_swok_at h.2
    refine ⟨by rw [List.length_cons, List.length_cons, h1], fun j r hj => ?_⟩
    cases j with
    | zero =>
      rw [List.getElem?_cons_zero] at hj
      cases hj
      exact ⟨o, rfl, by rw [h.1.1]; simp, h.1.2⟩
    | succ j =>
      rw [List.getElem?_cons_succ] at hj
      obtain ⟨o', g1, g2, g3⟩ := h2 j r hj
      exact ⟨o', by rw [List.getElem?_cons_succ]; exact g1, by rw [g2]; omega, g3⟩
  | [], _ :: _, _, h => by simp [sd_swok] at h
  | _ :: _, [], _, h => by simp [sd_swok] at h
theorem mz_sw_or {x : Int32} {K : Nat → Prop} {d : Nat} : ∀ {ts : List (Int32 × Nat)}, mz_sw x K d ts → (∃ (j : Nat) (q : Int32 × Nat), ts[j]? = some q ∧ x = q.1 ∧ K q.2) ∨ ((∀ (j : Nat) (q : Int32 × Nat), ts[j]? = some q → ¬ x = q.1) ∧ K d)
  | [], h => Or.inr ⟨fun j q h => by simp at h, h⟩
  | q :: ts, h => by
    by_cases hq : x = q.1
    · exact Or.inl ⟨0, q, rfl, hq, h.1 hq⟩
    · rcases mz_sw_or (h.2 hq) with ⟨j, r, h1, h2, h3⟩ | ⟨h1, h2⟩
      · exact Or.inl ⟨j + 1, r, by rw [List.getElem?_cons_succ]; exact h1, h2, h3⟩
      · refine Or.inr ⟨fun j r hj => ?_, h2⟩
        cases j with
        | zero => rw [List.getElem?_cons_zero] at hj; cases hj; exact hq
        | succ j => rw [List.getElem?_cons_succ] at hj; exact h1 j r hj
theorem mz_pop_spec : ∀ {n : Nat} {acc S as rest : List Value}, mz_pop n acc S = some (as, rest) → ∃ pre : List Value, pre.length = n ∧ S = pre ++ rest ∧ as = pre.reverse ++ acc
  | 0, acc, S, as, rest, h => by
    simp only [mz_pop, Option.some.injEq, Prod.mk.injEq] at h
    exact ⟨[], rfl, by rw [h.2]; rfl, by rw [← h.1]; rfl⟩
  | n + 1, acc, [], as, rest, h => by simp [mz_pop] at h
  | n + 1, acc, v :: S, as, rest, h => by
    simp only [mz_pop] at h
    obtain ⟨pre, h1, h2, h3⟩ := mz_pop_spec h
    exact ⟨v :: pre, by rw [List.length_cons, h1], by rw [h2]; rfl, by rw [h3]; simp⟩
theorem ms_room {ad : Nat → Nat} {S : List Value} (h : mz_room S = true) : ((S.map (ms_g ad)).map fun v => v.category).sum ≤ 8 := by
  have e : (S.map (ms_g ad)).map (fun v => v.category) = S.map (fun v => v.category) := by
    rw [List.map_map]
    apply List.map_congr_left
    intro v _
    exact ms_g_cat ad v
  rw [e]
  exact Nat.le_of_ble_eq_true h
theorem ms_rt : ∀ s ∈ mz_shp, ∀ q : Nat × List Nat, s = .inr (.inr q) → q.1 = 1 ∨ q.1 = 2 := by
  intro s hs q e
  subst e
  simp only [mz_shp, mz_house, mz_arr, mz_sheet, List.mem_cons, reduceCtorEq, Sum.inr.injEq, false_or, or_false, List.not_mem_nil] at hs
  rcases hs with h | h <;> (rw [h]; simp)
theorem ms_goodcons {y : MethodName} {b : ByteArray} {n : Nat} {r : Option FieldType} (h : Cond.code y b n r ∈ ms_ws) : GoodIn ms_ws (.code y b n r :: ms_ws) := fun w hw => by
  rcases List.mem_cons.mp hw with e | e
  · subst e; exact ⟨h, ms_good h⟩
  · exact ⟨e, ms_good e⟩
theorem mz_back_or {call : mz_C} {mi kind : Nat} {as rest : List Value} {nx : Nat} {P : mz_P} {L : List Value} {w : mz_M} (h : mz_back call mi kind as rest nx P L w) : ∃ (ro : Option Value) (w1 : mz_M), call mi as w ro w1 ∧ P nx L (ro.toList ++ rest) w1 := by
  unfold mz_back at h
  split at h
  · obtain ⟨w1, a, b⟩ := h; exact ⟨none, w1, a, b⟩
  · obtain ⟨r, w1, a, b⟩ := h; exact ⟨some (.int r), w1, a, b⟩
  · obtain ⟨r, w1, a, b⟩ := h; exact ⟨some (.long r), w1, a, b⟩
  · obtain ⟨r, w1, a, b⟩ := h; exact ⟨some (.ref r), w1, a, b⟩
section CT
variable {p : Program} {l : Launch} {e : Env} {R : Room} {s : State} {m : MethodId} {args : Array Value} {below : List Frame} {meth : Method} {c : Code} {H : Heap} {locs : List Loc} {cells slots : Nat} {Qw : State → Prop} {D : va_G} {ad : Nat → Nat} {X : mz_X} {cA : Nat → ClassId}
theorem ms_cont {pc : Nat} {ls : Array Slot} {st0 rest : List Value} {ro : Option Value} {w w1 : mz_M} {av : Array Value} (hr : va_Run p l e R s m args below meth c H locs cells slots 0 0 (F0 m pc ls st0) rest (ms_Qc D ad cA ro w1 av) (ms_A ad)) (hH : ms_H D ad cA s w H locs)
    (kk : ∀ (H1 : Heap) (locs1 : List Loc), ms_H D ad cA s w1 H1 locs1 → W p l e R s m args below meth c H1 locs1 cells slots Qw (F0 m (pc + 3) ls ((ro.map (ms_g ad)).toList ++ rest))) : W p l e R s m args below meth c H locs cells slots Qw (F0 m pc ls st0) := by
  intro T hT X
  obtain ⟨v, st₀, t, T', L, h0, X', hL, e1, e2, ⟨hv, hP1, hz, hk⟩, st⟩ := hr T hT X
  cases hv
  rw [h0] at hz hk
  obtain ⟨t2, a1, b1⟩ := kk T'.heap (locs ++ L) ⟨by rw [e1]; exact hP1, ms_D hH.2.1, Nat.le_trans hH.2.2.1 (by rw [e1]; exact hz), fun q h1 h2 => by rw [e1, hk q (Nat.lt_of_lt_of_le h1 hH.2.2.1) h2]; exact hH.2.2.2.1 q h1 h2, fun q hq => by
      rcases List.mem_append.mp hq with h | h
      · exact hH.2.2.2.2 q h
      · exact hL q h⟩ T' rfl X'
  exact ⟨t2, st t2 a1, b1⟩
theorem ms_start {av : List Value} {w : mz_M} (hK : va_K D vwCl (ms_tys cA) s) (hRO : ms_RO ad X s s.heap) (hH : ms_H D ad cA s w H locs) : ∀ U : State, U.heap = H → s.WarmedH U.vm → va_Pc av (ms_Pre D ad X cA w) av.toArray U := fun U hU hW =>
  ⟨rfl, by rw [hU]; exact hH.1, va_K.moved hW.alike hK, hH.2.1, by rw [hU]; exact ms_RO_kept (ms_RO_warm hW hRO) hH.2.2.2.1⟩
end CT
section SE
variable {X : mz_X} {mt : Nat → ms_I} {own : String} {cc : ByteArray} {nL : Nat} {ret : Option FieldType} {pc : Nat}
theorem sd_bad : ms_Snd X mt own cc nL ret pc mi_bad := by
  intro d D ad cA p l e R s m args below meth c cells slots Qw call Q hC hK hR L S w h H locs ls hH hL
  exact h.elim
theorem sd_goto {off : Int} {tgt : Nat} (hd : decode cc pc = .ok (.goto off, 3)) (ht : (pc : Int) + off = (tgt : Int)) : ms_Snd X mt own cc nL ret pc (mi_goto tgt) := by
  intro d D ad cA p l e R s m args below meth c cells slots Qw call Q hC hK hR L S w h H locs ls hH hL
  exact lv_goto hC.1 hC.2.1 hd ht (h H locs ls hH hL)
theorem sd_sw {dflt lo hi : Int} {offs : Array Int} {len tgt : Nat} {ts : List (Int32 × Nat)} (hd : decode cc pc = .ok (.tableswitch dflt lo hi offs, len)) (ht : (pc : Int) + dflt = (tgt : Int)) (hok : sd_swok pc lo ts offs.toList = true) (hn : lo + (ts.length : Int) = hi + 1) : ms_Snd X mt own cc nL ret pc (mi_sw ts tgt) := by
  intro d D ad cA p l e R s m args below meth c cells slots Qw call Q hC hK hR L S w h H locs ls hH hL
  simp only [mi_sw] at h
  split at h
  · rename_i x S
    obtain ⟨g1, g2⟩ := sd_swok_at hok
    rcases mz_sw_or h with ⟨j, q, h1, h2, h3⟩ | ⟨h1, h2⟩
    · obtain ⟨o, o1, o2, o3⟩ := g2 j q h1
      have hj : j < ts.length := (List.getElem?_eq_some_iff.mp h1).1
      rw [← h2] at o2
      exact lv_tableIn hC.1 hC.2.1 hd (by omega) (by omega) (off := o) (by rw [show (x.toInt - lo).toNat = j by omega, ← Array.getElem?_toList]; exact o1) o3 (h3 H locs ls hH hL)
    · refine lv_tableOut hC.1 hC.2.1 hd ?_ ht (h2 H locs ls hH hL)
      by_cases z : x.toInt < lo ∨ hi < x.toInt
      · exact z
      · have hj : (x.toInt - lo).toNat < ts.length := by omega
        have hq := List.getElem?_eq_getElem hj
        obtain ⟨o, o1, o2, o3⟩ := g2 _ _ hq
        exact absurd (Int32.toInt_inj.mp (by rw [o2]; omega)) (h1 _ _ hq)
  · exact h.elim
theorem sd_get {ci j ix : Nat} {C : String} {T : u_T} {N : Nat} (hc : vwCl[ci]? = some (C, T, N)) (hin : ∀ w ∈ u_ws C T N, w ∈ ms_ws) (hj : j < N) (hw : Cond.fieldLink own ix (T j).1 (T j).2.1 (T j).2.2.1 ∈ ms_ws) (hd : decode cc pc = .ok (.getfield ix, 3)) : ms_Snd X mt own cc nL ret pc (mi_get ci j (pc + 3)) := by
  intro d D ad cA p l e R s m args below meth c cells slots Qw call Q hC hK hR L S w h H locs ls hH hL
  simp only [mi_get] at h
  split at h
  · rename_i k S
    split at h
    · rename_i c0 fs hs
      split at h
      · rename_i hb
        have hb := Nat.eq_of_beq_eq_true hb
        subst hb
        split at h
        · rename_i hf
          exact va_get (C := C) (T := T) (N := N) hC.1 hC.2.1 hC.2.2.2.2.1 hin hC.2.2.2.1 hC.2.2.2.2.2.1 hH.1 k (ms_at hs) hc j hj (hC.2.2.2.2.1 _ hw) (fun _ h9 => h9) (ms_fs_at hf) hd (h H locs ls hH hL)
        · rename_i q hf
          exact va_get (C := C) (T := T) (N := N) hC.1 hC.2.1 hC.2.2.2.2.1 hin hC.2.2.2.1 hC.2.2.2.2.2.1 hH.1 k (ms_at hs) hc j hj (hC.2.2.2.2.1 _ hw) (fun _ h9 => h9) (ms_fs_at hf) hd (h H locs ls hH hL)
        · exact h.elim
      · exact h.elim
    · exact h.elim
  · exact h.elim
theorem sd_put {ci j ix : Nat} {C : String} {T : u_T} {N : Nat} {ty : Nat → FieldType} (hc : vwCl[ci]? = some (C, T, N)) (hin : ∀ w ∈ u_ws C T N, w ∈ ms_ws) (hty : ∀ k, k < N → parseFieldDescriptor (T k).2.2.1 = some (ty k)) (hnm : ∀ a, a < N → ∀ b, b < N → a ≠ b → (T a).2.1 ≠ (T b).2.1) (hj : j < N) (ht : ty j = .int) (hfin : (T j).2.2.2 = false) (hw : Cond.fieldLink own ix (T j).1 (T j).2.1 (T j).2.2.1 ∈ ms_ws) (hd : decode cc pc = .ok (.putfield ix, 3)) : ms_Snd X mt own cc nL ret pc (mi_put ci j (pc + 3)) := by
  intro d D ad cA p l e R s m args below meth c cells slots Qw call Q hC hK hR L S w h H locs ls hH hL
  simp only [mi_put] at h
  split at h
  · rename_i x k S
    split at h
    · rename_i c0 fs hs
      split at h
      · rename_i hb
        have hb := Nat.eq_of_beq_eq_true hb
        subst hb
        split at h
        · rename_i hf
          have hl : j < (ms_fs ad (w k) fs).length := (List.getElem?_eq_some_iff.mp (ms_fs_at (ad := ad) (f := w k) hf)).1
          refine va_put (C := C) (T := T) (N := N) hC.1 hC.2.1 hC.2.2.2.2.1 hin ty hty hnm hC.2.2.2.1 hC.2.2.2.2.2.1 hH.1 hH.2.1 hH.2.2 k (ms_at hs) hc j hj (hC.2.2.2.2.1 _ hw) (fun _ h9 => h9) hfin (ty := .int) (v := .int x) (by rw [hty j hj, ht]) rfl rfl hl hd (fun H1 locs1 a1 a2 a3 => ?_)
          have es : ms_fs ad (w k) fs = ms_fs ad (w k) fs := rfl
          have e2 : (ms_w ad cA w).set k (ad k, .inr (c0, (ms_fs ad (w k) fs).set j (.int x))) = ms_w ad cA (mz_up w k (upd (w k) j x)) := by
            rw [ms_fs_set hf x]
            exact ms_set hs (upd (w k) j x)
          rw [e2] at a1 a2
          exact h H1 locs1 ls ⟨a1, a2, a3⟩ hL
        · exact h.elim
      · exact h.elim
    · exact h.elim
  · exact h.elim
theorem sd_putz {ci j ix : Nat} {C : String} {T : u_T} {N : Nat} {ty : Nat → FieldType} (hc : vwCl[ci]? = some (C, T, N)) (hin : ∀ w ∈ u_ws C T N, w ∈ ms_ws) (hty : ∀ k, k < N → parseFieldDescriptor (T k).2.2.1 = some (ty k)) (hnm : ∀ a, a < N → ∀ b, b < N → a ≠ b → (T a).2.1 ≠ (T b).2.1) (hj : j < N) (ht : ty j = .boolean) (hfin : (T j).2.2.2 = false) (hw : Cond.fieldLink own ix (T j).1 (T j).2.1 (T j).2.2.1 ∈ ms_ws) (hd : decode cc pc = .ok (.putfield ix, 3)) : ms_Snd X mt own cc nL ret pc (mi_putz ci j (pc + 3)) := by
  intro d D ad cA p l e R s m args below meth c cells slots Qw call Q hC hK hR L S w h H locs ls hH hL
  simp only [mi_putz] at h
  split at h
  · rename_i x k S
    split at h
    · rename_i c0 fs hs
      split at h
      · rename_i hb
        have hb := Nat.eq_of_beq_eq_true hb
        subst hb
        split at h
        · rename_i hf
          obtain ⟨hx, h⟩ := h
          have hl : j < (ms_fs ad (w k) fs).length := (List.getElem?_eq_some_iff.mp (ms_fs_at (ad := ad) (f := w k) hf)).1
          refine va_put (C := C) (T := T) (N := N) hC.1 hC.2.1 hC.2.2.2.2.1 hin ty hty hnm hC.2.2.2.1 hC.2.2.2.2.2.1 hH.1 hH.2.1 hH.2.2 k (ms_at hs) hc j hj (hC.2.2.2.2.1 _ hw) (fun _ h9 => h9) hfin (ty := .boolean) (v := .int x) (by rw [hty j hj, ht]) (by rcases hx with rfl | rfl <;> decide) (by rcases hx with rfl | rfl <;> decide) hl hd (fun H1 locs1 a1 a2 a3 => ?_)
          have e2 : (ms_w ad cA w).set k (ad k, .inr (c0, (ms_fs ad (w k) fs).set j (.int x))) = ms_w ad cA (mz_up w k (upd (w k) j x)) := by
            rw [ms_fs_set hf x]
            exact ms_set hs (upd (w k) j x)
          rw [e2] at a1 a2
          exact h H1 locs1 ls ⟨a1, a2, a3⟩ hL
        · exact h.elim
      · exact h.elim
    · exact h.elim
  · exact h.elim
theorem sd_iald (hd : decode cc pc = .ok (.iaload, 1)) : ms_Snd X mt own cc nL ret pc (mi_iald (pc + 1)) := by
  intro d D ad cA p l e R s m args below meth c cells slots Qw call Q hC hK hR L S w h H locs ls hH hL
  simp only [mi_iald] at h
  split at h
  · split at h
    · rename_i hs
      exact va_iald hC.1 hC.2.1 hC.2.2.2.2.2.1 hH.1 _ 0 (ms_at hs) rfl h.1 hd (h.2 H locs ls hH hL)
    · exact h.elim
  · exact h.elim
theorem sd_iast (hd : decode cc pc = .ok (.iastore, 1)) : ms_Snd X mt own cc nL ret pc (mi_iast (pc + 1)) := by
  intro d D ad cA p l e R s m args below meth c cells slots Qw call Q hC hK hR L S w h H locs ls hH hL
  simp only [mi_iast] at h
  split at h
  · rename_i x i k S
    split at h
    · rename_i n hs
      refine va_iast hC.1 hC.2.1 hC.2.2.2.2.2.1 hH.1 hH.2.1 hH.2.2 k 0 (ms_at hs) rfl h.1 hd (fun H1 locs1 a1 a2 a3 => ?_)
      have e2 : (ms_w ad cA w).set k (ad k, .inl (cA 0, n, .inl (upd (w k) i.toNatClampNeg x))) = ms_w ad cA (mz_up w k (upd (w k) i.toNatClampNeg x)) := ms_set hs _
      rw [e2] at a1 a2
      exact h.2 H1 locs1 ls ⟨a1, a2, a3⟩ hL
    · exact h.elim
  · exact h.elim
theorem sd_aald (hd : decode cc pc = .ok (.aaload, 1)) : ms_Snd X mt own cc nL ret pc (mi_aald (pc + 1)) := by
  intro d D ad cA p l e R s m args below meth c cells slots Qw call Q hC hK hR L S w h H locs ls hH hL
  simp only [mi_aald] at h
  split at h
  · rename_i i k S
    split at h
    · rename_i t ps hs
      have hm := hs
      rw [mz_nth_get] at hm
      rcases ms_rt _ (List.mem_of_getElem? hm) (t, ps) rfl with ht | ht
      · have ht : t = 1 := ht
        subst ht
        exact va_aldq (C := "MangleKin$Sheet") hC.1 hC.2.1 hC.2.2.2.2.2.1 hH.1 k 1 (ms_at hs) rfl h.1 hd (h.2 H locs ls hH hL)
      · have ht : t = 2 := ht
        subst ht
        exact va_aldq (C := "java/lang/String") hC.1 hC.2.1 hC.2.2.2.2.2.1 hH.1 k 2 (ms_at hs) rfl h.1 hd (h.2 H locs ls hH hL)
    · exact h.elim
  · exact h.elim
theorem sd_alen (hd : decode cc pc = .ok (.arraylength, 1)) : ms_Snd X mt own cc nL ret pc (mi_alen (pc + 1)) := by
  intro d D ad cA p l e R s m args below meth c cells slots Qw call Q hC hK hR L S w h H locs ls hH hL
  simp only [mi_alen] at h
  split at h
  · rename_i k S
    split at h
    · rename_i n hs
      exact va_alen hC.1 hC.2.1 hC.2.2.2.2.2.1 hH.1 k 0 (ms_at hs) rfl rfl hd (h H locs ls hH hL)
    · rename_i t ps hs
      have hm := hs
      rw [mz_nth_get] at hm
      rcases ms_rt _ (List.mem_of_getElem? hm) (t, ps) rfl with ht | ht
      · have ht : t = 1 := ht
        subst ht
        exact va_alen hC.1 hC.2.1 hC.2.2.2.2.2.1 hH.1 k 1 (ms_at hs) (ty := .object "MangleKin$Sheet") rfl rfl hd (h H locs ls hH hL)
      · have ht : t = 2 := ht
        subst ht
        exact va_alen hC.1 hC.2.1 hC.2.2.2.2.2.1 hH.1 k 2 (ms_at hs) (ty := .object "java/lang/String") rfl rfl hd (h H locs ls hH hL)
    · exact h.elim
  · exact h.elim
theorem sd_tald (hd : decode cc pc = .ok (.iaload, 1)) : ms_Snd X mt own cc nL ret pc (mi_tald (pc + 1)) := by
  intro d D ad cA p l e R s m args below meth c cells slots Qw call Q hC hK hR L S w h H locs ls hH hL
  simp only [mi_tald] at h
  split at h
  · rename_i i k S
    split at h
    · rename_i hb
      have hb := Nat.eq_of_beq_eq_true hb
      subst hb
      exact va_ti hC.1 hC.2.1 hC.2.2.2.2.2.2.1.2.2.1 hH.2.2 h.1 rfl hd (h.2 H locs ls hH hL)
    · exact h.elim
  · exact h.elim
theorem sd_copy {ix : Nat} (hd : decode cc pc = .ok (.invokestatic ix, 3)) (h1 : Cond.methodLink own ix arraycopyName ∈ ms_ws) (h2 : Cond.native arraycopyName ∈ ms_ws) (h3 : Cond.static arraycopyName ∈ ms_ws) (h4 : Cond.initialized "java/lang/System" ∈ ms_ws) : ms_Snd X mt own cc nL ret pc (mi_copy (pc + 3)) := by
  intro d D ad cA p l e R s m args below meth c cells slots Qw call Q hC hK hR L S w h H locs ls hH hL
  simp only [mi_copy] at h
  split at h
  · rename_i n dp a sp b S
    split at h
    · rename_i hr
      split at h
      · rename_i n0 n1 hb ha
        obtain ⟨g1, g2, g3, g4, g5, h⟩ := h
        have hsum := ms_room (ad := ad) hr
        have e7 : nativeFrameWords "java/lang/System" "arraycopy" 5 = 7 := by decide
        have hfr : 1 ≤ R.frames := by have := hC.2.2.2.2.2.2.2.1; omega
        have hlo : ((S.map (ms_g ad)).map fun v => v.category).sum + (nativeFrameWords "java/lang/System" "arraycopy" 5 + 11) ≤ R.locals := by have := hC.2.2.2.2.2.2.2.2.1; rw [e7]; omega
        refine va_copyi hC.1 hC.2.1 (by rw [hC.2.2.1]; exact hL.2.1.symm) hC.2.2.2.1 (hC.2.2.2.2.1 _ h1) (hC.2.2.2.2.1 _ h2) (hC.2.2.2.2.1 _ h3) (hC.2.2.2.2.1 _ h4) hC.2.2.2.2.2.1 hH.1 hH.2.1 hH.2.2 b a 0 0 (ms_at hb) (ms_at ha) (ty := .int) rfl rfl rfl g1 g2 g3 g4 g5 (fun _ _ => rfl) hfr hlo hd (fun H1 locs1 a1 a2 a3 => ?_)
        have e2 := ms_set (ad := ad) (cA := cA) (w := w) ha (va_cpy (w b) (w a) sp.toNatClampNeg dp.toNatClampNeg n.toNatClampNeg)
        have e3 : (ms_w ad cA w).set a (ad a, .inl (cA 0, n1, .inl (va_cpy (w b) (w a) sp.toNatClampNeg dp.toNatClampNeg n.toNatClampNeg))) = ms_w ad cA (mz_up w a (va_cpy (w b) (w a) sp.toNatClampNeg dp.toNatClampNeg n.toNatClampNeg)) := e2
        rw [e3] at a1 a2
        exact h H1 locs1 ls ⟨a1, a2, a3⟩ hL
      · exact h.elim
    · exact h.elim
  · exact h.elim
theorem sd_max {ix : Nat} (hd : decode cc pc = .ok (.invokestatic ix, 3)) (h1 : Cond.methodLink own ix Lib.Math.max.name ∈ ms_ws) (h2 : Cond.static Lib.Math.max.name ∈ ms_ws) (h3 : Cond.initialized "java/lang/Math" ∈ ms_ws) (h4 : Cond.code Lib.Math.max.name Lib.Math.max.code 2 (some .int) ∈ ms_ws) : ms_Snd X mt own cc nL ret pc (mi_mm (fun x y => if x < y then y else x) (pc + 3)) := by
  intro d D ad cA p l e R s m args below meth c cells slots Qw call Q hC hK hR L S w h H locs ls hH hL
  simp only [mi_mm] at h
  split at h
  · split at h
    · rename_i hr
      have hsum := ms_room (ad := ad) hr
      exact va_mmax hC.1 hC.2.1 (by rw [hC.2.2.1]; exact hL.2.1.symm) hC.2.2.2.1 (hC.2.2.2.2.1 _ h1) (hC.2.2.2.2.1 _ h2) (hC.2.2.2.2.1 _ h3) (hC.2.2.2.2.1 _ h4) (by have := hC.2.2.2.2.2.2.2.1; omega) (by have := hC.2.2.2.2.2.2.2.2.1; omega) hC.2.2.2.2.2.2.2.2.2.1 hC.2.2.2.2.2.2.2.2.2.2 hd (h H locs ls hH hL)
    · exact h.elim
  · exact h.elim
theorem sd_min {ix : Nat} (hd : decode cc pc = .ok (.invokestatic ix, 3)) (h1 : Cond.methodLink own ix Lib.Math.min.name ∈ ms_ws) (h2 : Cond.static Lib.Math.min.name ∈ ms_ws) (h3 : Cond.initialized "java/lang/Math" ∈ ms_ws) (h4 : Cond.code Lib.Math.min.name Lib.Math.min.code 2 (some .int) ∈ ms_ws) : ms_Snd X mt own cc nL ret pc (mi_mm (fun x y => if y < x then y else x) (pc + 3)) := by
  intro d D ad cA p l e R s m args below meth c cells slots Qw call Q hC hK hR L S w h H locs ls hH hL
  simp only [mi_mm] at h
  split at h
  · split at h
    · rename_i hr
      have hsum := ms_room (ad := ad) hr
      exact va_mmin hC.1 hC.2.1 (by rw [hC.2.2.1]; exact hL.2.1.symm) hC.2.2.2.1 (hC.2.2.2.2.1 _ h1) (hC.2.2.2.2.1 _ h2) (hC.2.2.2.2.1 _ h3) (hC.2.2.2.2.1 _ h4) (by have := hC.2.2.2.2.2.2.2.1; omega) (by have := hC.2.2.2.2.2.2.2.2.1; omega) hC.2.2.2.2.2.2.2.2.2.1 hC.2.2.2.2.2.2.2.2.2.2 hd (h H locs ls hH hL)
    · exact h.elim
  · exact h.elim
/-- what the words say of a callee -/
def sd_cw (own : String) (ix na : Nat) (q : ms_I) : Prop := Cond.code q.1 q.2.1 q.2.2.1 q.2.2.2 ∈ ms_ws ∧ Cond.methodLink own ix q.1 ∈ ms_ws ∧ Cond.initialized q.1.cls ∈ ms_ws ∧ (q.1.cls ≠ "java/lang/invoke/MethodHandle" ∧ q.1.cls ≠ "java/lang/invoke/VarHandle" ∧ (parseMethodDescriptor q.1.desc).map (fun d => d.parameters.length) = some na) ∧ q.2.2.1 ≤ 17
theorem sd_callB {ix na d : Nat} {q : ms_I} {R : Room} {s : State} {args : Array Value} (hts : ∀ w ∈ ms_ws, w.before args s = true) (hq : sd_cw own ix na q) (h1 : d + 1 ≤ R.frames) (h2 : 36 * (d + 1) ≤ R.locals) : CallB R s args own ix q.1 q.2.1 q.2.2.1 q.2.2.2 (.code q.1 q.2.1 q.2.2.1 q.2.2.2 :: ms_ws) (ms_rm d) 0 0 na :=
  callB_of na hts (ms_goodcons hq.1) rfl rfl rfl (hts _ hq.2.2.1) (hts _ hq.2.1) hq.2.2.2.1 ⟨h1, by have := hq.2.2.2.2; show 8 + (q.2.2.1 + 11) + 36 * d ≤ R.locals; omega⟩
theorem sd_callS {mi na kind ix : Nat} {q : ms_I} (hm : mt mi = q) (hq : sd_cw own ix na q) (h3 : Cond.static q.1 ∈ ms_ws) (hd : decode cc pc = .ok (.invokestatic ix, 3)) : ms_Snd X mt own cc nL ret pc (mi_callS mi na kind (pc + 3)) := by
  intro d D ad cA p l e R s m args below meth c cells slots Qw call Q hC hK hR L S w h H locs ls hH hL
  simp only [mi_callS] at h
  split at h
  · rename_i as rest hp
    split at h
    · rename_i hr
      obtain ⟨ro, w1, hcall, hh⟩ := mz_back_or h
      obtain ⟨hM, -⟩ := hK mi as w ro w1 hcall
      rw [hm] at hM
      obtain ⟨pre, p1, p2, p3⟩ := mz_pop_spec hp
      rw [List.append_nil] at p3
      subst p3
      refine ms_cont (rest := rest.map (ms_g ad)) (va_runS (As := pre.reverse.map (ms_g ad)) ⟨hC.1, hC.2.1, hC.2.2.1, hC.2.2.2.1, hC.2.2.2.2.1⟩ (hM D ad cA) ⟨sd_callB hC.2.2.2.2.1 hq hC.2.2.2.2.2.2.2.1 hC.2.2.2.2.2.2.2.2.1, hC.2.2.2.2.1 _ h3⟩ ⟨ms_Pre_blind, ms_start hC.2.2.2.2.2.1 hC.2.2.2.2.2.2.1 hH⟩ rfl (by simp [p1]) hL.2.1 (by show S.map (ms_g ad) = _; rw [p2]; simp) (lv_room (ms_room hr)) hd ⟨hC.2.2.2.2.2.2.2.2.2.1, hC.2.2.2.2.2.2.2.2.2.2⟩) hH (fun H1 locs1 hH1 => ?_)
      have h9 := hh H1 locs1 ls hH1 hL
      rw [List.map_append] at h9
      cases ro with
      | none => exact h9
      | some v => exact h9
    · exact h.elim
  · exact h.elim
theorem sd_callV {mi na kind ix ci : Nat} {q : ms_I} {T : u_T} {N : Nat} (hm : mt mi = q) (hq : sd_cw own ix na q) (hc : vwCl[ci]? = some (q.1.cls, T, N)) (h3 : Cond.instanceMethod q.1 ∈ ms_ws) (h4 : Cond.selects q.1.cls q.1 q.1 ∈ ms_ws) (hd : decode cc pc = .ok (.invokevirtual ix, 3)) : ms_Snd X mt own cc nL ret pc (mi_callV mi ci (na + 1) kind (pc + 3)) := by
  intro d D ad cA p l e R s m args below meth c cells slots Qw call Q hC hK hR L S w h H locs ls hH hL
  simp only [mi_callV] at h
  split at h
  · rename_i k as rest hp
    split at h
    · rename_i hr
      split at h
      · rename_i c0 fs hs
        split at h
        · rename_i hb
          have hb := Nat.eq_of_beq_eq_true hb
          subst hb
          obtain ⟨ro, w1, hcall, hh⟩ := mz_back_or h
          obtain ⟨hM, -⟩ := hK mi _ w ro w1 hcall
          rw [hm] at hM
          obtain ⟨pre, p1, p2, p3⟩ := mz_pop_spec hp
          rw [List.append_nil] at p3
          have p4 : pre = as.reverse ++ [.ref k] := by rw [← List.reverse_reverse pre, ← p3]; simp
          subst p4
          refine ms_cont (rest := rest.map (ms_g ad)) (va_runV (C := q.1.cls) (b := ad k) (As := as.map (ms_g ad)) ⟨hC.1, hC.2.1, hC.2.2.1, hC.2.2.2.1, hC.2.2.2.2.1⟩ (hM D ad cA) ⟨sd_callB hC.2.2.2.2.1 hq hC.2.2.2.2.2.2.2.1 hC.2.2.2.2.2.2.2.2.1, hC.2.2.2.2.1 _ h3, hC.2.2.2.2.1 _ h4⟩ ⟨ms_Pre_blind, va_recv hC.2.2.2.2.2.1 hH.1 hc (ms_at hs), ms_start hC.2.2.2.2.2.1 hC.2.2.2.2.2.2.1 hH⟩ rfl (by simp at p1; simp [p1]) hL.2.1 (by show S.map (ms_g ad) = _; rw [p2]; simp [ms_g]) (lv_room (ms_room hr)) hd ⟨hC.2.2.2.2.2.2.2.2.2.1, hC.2.2.2.2.2.2.2.2.2.2⟩) hH (fun H1 locs1 hH1 => ?_)
          have h9 := hh H1 locs1 ls hH1 hL
          rw [List.map_append] at h9
          cases ro with
          | none => exact h9
          | some v => exact h9
        · exact h.elim
      · exact h.elim
    · exact h.elim
  · exact h.elim
theorem sd_ireturn (hd : decode cc pc = .ok (.ireturn, 1)) (hr : ret = some .int) : ms_Snd X mt own cc nL ret pc mi_ireturn := by
  intro d D ad cA p l e R s m args below meth c cells slots Qw call Q hC hK hR L S w h H locs ls hH hL
  simp only [mi_ireturn] at h
  split at h
  · rename_i v
    exact hR (some (.int v)) w H locs ls pc .ireturn h hH hd (Or.inr (Or.inl ⟨hr, rfl, v, rfl⟩))
  · exact h.elim
theorem sd_zreturn (hd : decode cc pc = .ok (.ireturn, 1)) (hr : ret = some .boolean) : ms_Snd X mt own cc nL ret pc mi_zreturn := by
  intro d D ad cA p l e R s m args below meth c cells slots Qw call Q hC hK hR L S w h H locs ls hH hL
  simp only [mi_zreturn] at h
  split at h
  · rename_i v
    exact hR (some (.int v)) w H locs ls pc .ireturn h.2 hH hd (Or.inr (Or.inr (Or.inl ⟨.boolean, hr, rfl, v, by rcases h.1 with e | e <;> (rw [e]; decide), rfl⟩)))
  · exact h.elim
theorem sd_lreturn (hd : decode cc pc = .ok (.lreturn, 1)) (hr : ret = some .long) : ms_Snd X mt own cc nL ret pc mi_lreturn := by
  intro d D ad cA p l e R s m args below meth c cells slots Qw call Q hC hK hR L S w h H locs ls hH hL
  simp only [mi_lreturn] at h
  split at h
  · rename_i v
    exact hR (some (.long v)) w H locs ls pc .lreturn h hH hd (Or.inr (Or.inr (Or.inr (Or.inl ⟨hr, rfl, v, rfl⟩))))
  · exact h.elim
theorem sd_areturn {n : String} (hd : decode cc pc = .ok (.areturn, 1)) (hr : ret = some (.object n)) : ms_Snd X mt own cc nL ret pc mi_areturn := by
  intro d D ad cA p l e R s m args below meth c cells slots Qw call Q hC hK hR L S w h H locs ls hH hL
  simp only [mi_areturn] at h
  split at h
  · rename_i v
    exact hR (some (.ref v)) w H locs ls pc .areturn h hH hd (Or.inr (Or.inr (Or.inr (Or.inr ⟨⟨n, hr⟩, rfl, v, rfl⟩))))
  · exact h.elim
theorem sd_return (hd : decode cc pc = .ok (.return_, 1)) (hr : ret = none) : ms_Snd X mt own cc nL ret pc mi_return := by
  intro d D ad cA p l e R s m args below meth c cells slots Qw call Q hC hK hR L S w h H locs ls hH hL
  simp only [mi_return] at h
  split at h
  · exact hR none w H locs ls pc .return_ h hH hd (Or.inl ⟨hr, rfl, rfl⟩)
  · exact h.elim
theorem sd_nreturn {ty : FieldType} (hd : decode cc pc = .ok (.ireturn, 1)) (hr : ret = some ty) : ms_Snd X mt own cc nL ret pc (mi_nreturn ty) := by
  intro d D ad cA p l e R s m args below meth c cells slots Qw call Q hC hK hR L S w h H locs ls hH hL
  simp only [mi_nreturn] at h
  split at h
  · rename_i v
    exact hR (some (.int v)) w H locs ls pc .ireturn h.2 hH hd (Or.inr (Or.inr (Or.inl ⟨ty, hr, rfl, v, h.1, rfl⟩)))
  · exact h.elim
theorem ms_tx {ad : Nat → Nat} {s : State} {k : Nat} (hRO : ms_RO ad X s s.heap) (hk : 60 ≤ k ∧ k < 71) : va_O "java/lang/String" (ad k) (ms_A ad) s s.heap ∧ va_OF "java/lang/String" "coder" "B" (.int 0) (ad k) (ms_A ad) s s.heap ∧ va_OF "java/lang/String" "value" "[B" (.ref (ad (k + 40))) (ad k) (ms_A ad) s s.heap ∧ va_T .byte (ad (k + 40)) (mz_tx k).length (fun j => .int ((mz_tx k).getD j 0)) (ms_A ad) s s.heap := by
  have h := hRO.1.1 (k - 60) (by omega)
  have e1 : 60 + (k - 60) = k := by omega
  have e2 : 100 + (k - 60) = k + 40 := by omega
  have e3 : ∀ i, i < 11 → ms_len.getD i 0 = (mz_txt.getD i []).length := by decide
  simp only [e1, e2, e3 (k - 60) (by omega)] at h
  exact h
theorem sd_sval {ix : Nat} (hd : decode cc pc = .ok (.getfield ix, 3)) (hw : Cond.fieldLink own ix "java/lang/String" "value" "[B" ∈ ms_ws) : ms_Snd X mt own cc nL ret pc (mi_sval (pc + 3)) := by
  intro d D ad cA p l e R s m args below meth c cells slots Qw call Q hC hK hR L S w h H locs ls hH hL
  simp only [mi_sval] at h
  split at h
  · exact vk_getf hC.1 hC.2.1 (ms_tx hC.2.2.2.2.2.2.1 h.1).2.2.1 hH.2.2 hC.2.2.2.1 (hC.2.2.2.2.1 _ hw) (fun _ h9 => h9) hd (h.2 H locs ls hH hL)
  · exact h.elim
theorem sd_scod {ix : Nat} (hd : decode cc pc = .ok (.getfield ix, 3)) (hw : Cond.fieldLink own ix "java/lang/String" "coder" "B" ∈ ms_ws) : ms_Snd X mt own cc nL ret pc (mi_scod (pc + 3)) := by
  intro d D ad cA p l e R s m args below meth c cells slots Qw call Q hC hK hR L S w h H locs ls hH hL
  simp only [mi_scod] at h
  split at h
  · exact vk_getf hC.1 hC.2.1 (ms_tx hC.2.2.2.2.2.2.1 h.1).2.1 hH.2.2 hC.2.2.2.1 (hC.2.2.2.2.1 _ hw) (fun _ h9 => h9) hd (h.2 H locs ls hH hL)
  · exact h.elim
theorem sd_gcs {ix : Nat} (hd : decode cc pc = .ok (.getstatic ix, 3)) (hw : Jvm.Cond.fieldLink own ix "java/lang/String" "COMPACT_STRINGS" "Z" ∈ ms_ws) : ms_Snd X mt own cc nL ret pc (mi_push (.int (nI 1)) (pc + 3)) := by
  intro d D ad cA p l e R s m args below meth c cells slots Qw call Q hC hK hR L S w h H locs ls hH hL
  exact va_gets hC.1 hC.2.1 hC.2.2.2.2.2.2.1.2.2.2.1 hH.2.2 hC.2.2.2.1 (hC.2.2.2.2.1 _ hw) (fun _ h9 => h9) hd (h H locs ls hH hL)
theorem ms_txb {ad : Nat → Nat} {s : State} {k : Nat} (hRO : ms_RO ad X s s.heap) (hk : 100 ≤ k ∧ k < 111) : va_T .byte (ad k) (mz_tx (k - 40)).length (fun j => .int ((mz_tx (k - 40)).getD j 0)) (ms_A ad) s s.heap := by
  have hT := (ms_tx hRO (k := k - 40) (by omega)).2.2.2
  rw [show k - 40 + 40 = k by omega] at hT
  exact hT
theorem sd_slen (hd : decode cc pc = .ok (.arraylength, 1)) : ms_Snd X mt own cc nL ret pc (mi_slen (pc + 1)) := by
  intro d D ad cA p l e R s m args below meth c cells slots Qw call Q hC hK hR L S w h H locs ls hH hL
  simp only [mi_slen] at h
  split at h
  · exact va_tlen hC.1 hC.2.1 (ms_txb hC.2.2.2.2.2.2.1 h.1) hH.2.2 rfl hd (h.2 H locs ls hH hL)
  · exact h.elim
theorem sd_sald (hd : decode cc pc = .ok (.baload, 1)) : ms_Snd X mt own cc nL ret pc (mi_sald (pc + 1)) := by
  intro d D ad cA p l e R s m args below meth c cells slots Qw call Q hC hK hR L S w h H locs ls hH hL
  simp only [mi_sald] at h
  split at h
  · exact va_tb hC.1 hC.2.1 (ms_txb hC.2.2.2.2.2.2.1 h.1.1) hH.2.2 h.1.2 rfl hd (h.2 H locs ls hH hL)
  · exact h.elim
theorem sd_i2c (hd : decode cc pc = .ok (.i2c, 1)) : ms_Snd X mt own cc nL ret pc (mi_op1 (fun x => (x.toUInt32 % 65536).toInt32) (pc + 1)) := by
  intro d D ad cA p l e R s m args below meth c cells slots Qw call Q hC hK hR L S w h H locs ls hH hL
  simp only [mi_op1] at h
  split at h
  · exact lv_i2c hC.1 hC.2.1 hd rfl (h H locs ls hH hL)
  · exact h.elim
theorem sd_xald (hd : decode cc pc = .ok (.iaload, 1)) : ms_Snd X mt own cc nL ret pc (mi_xald X.1 X.2 (pc + 1)) := by
  intro d D ad cA p l e R s m args below meth c cells slots Qw call Q hC hK hR L S w h H locs ls hH hL
  simp only [mi_xald] at h
  split at h
  · rename_i i k S
    split at h
    · rename_i hb
      have hb := Nat.eq_of_beq_eq_true hb
      subst hb
      have hX := hC.2.2.2.2.2.2.1.2.2.2.2.2.2
      exact va_sld hC.1 hC.2.1 hX.1 hX.2.1 hX.2.2 hH.2.2 h.1 hd (h.2 H locs ls hH hL)
    · exact h.elim
  · exact h.elim
theorem sd_xlen (hd : decode cc pc = .ok (.arraylength, 1)) : ms_Snd X mt own cc nL ret pc (mi_xlen X.1 (pc + 1)) := by
  intro d D ad cA p l e R s m args below meth c cells slots Qw call Q hC hK hR L S w h H locs ls hH hL
  simp only [mi_xlen] at h
  split at h
  · rename_i k S
    split at h
    · rename_i hb
      have hb := Nat.eq_of_beq_eq_true hb
      subst hb
      have hX := hC.2.2.2.2.2.2.1.2.2.2.2.2.2
      exact va_slen hC.1 hC.2.1 hX.1 hX.2.1 hX.2.2 hH.2.2 hd (h H locs ls hH hL)
    · exact h.elim
  · exact h.elim
theorem sd_callT {mi na kind ix : Nat} {q : ms_I} (hm : mt mi = q) (hcl : q.1.cls = "java/lang/String") (hq : sd_cw own ix na q) (h3 : Cond.instanceMethod q.1 ∈ ms_ws) (h4 : Cond.selects q.1.cls q.1 q.1 ∈ ms_ws) (hd : decode cc pc = .ok (.invokevirtual ix, 3)) : ms_Snd X mt own cc nL ret pc (mi_callT mi (na + 1) kind (pc + 3)) := by
  intro d D ad cA p l e R s m args below meth c cells slots Qw call Q hC hK hR L S w h H locs ls hH hL
  simp only [mi_callT] at h
  split at h
  · rename_i k as rest hp
    split at h
    · rename_i hr
      obtain ⟨hk, h⟩ := h
      obtain ⟨ro, w1, hcall, hh⟩ := mz_back_or h
      obtain ⟨hM, -⟩ := hK mi _ w ro w1 hcall
      rw [hm] at hM
      obtain ⟨pre, p1, p2, p3⟩ := mz_pop_spec hp
      rw [List.append_nil] at p3
      have p4 : pre = as.reverse ++ [.ref k] := by rw [← List.reverse_reverse pre, ← p3]; simp
      subst p4
      have hrecv : ∃ cell : Cell, H[ad k]? = some cell ∧ cell.vm.isStatics = false ∧ s.vm.findClass q.1.cls = some cell.cls := by
        obtain ⟨cell, g1, g2, g3, -⟩ := (ms_tx hC.2.2.2.2.2.2.1 hk).1.kept hH.2.2.2.1
        exact ⟨cell, g1, g2, by rw [hcl]; exact g3⟩
      refine ms_cont (rest := rest.map (ms_g ad)) (va_runV (C := q.1.cls) (b := ad k) (As := as.map (ms_g ad)) ⟨hC.1, hC.2.1, hC.2.2.1, hC.2.2.2.1, hC.2.2.2.2.1⟩ (hM D ad cA) ⟨sd_callB hC.2.2.2.2.1 hq hC.2.2.2.2.2.2.2.1 hC.2.2.2.2.2.2.2.2.1, hC.2.2.2.2.1 _ h3, hC.2.2.2.2.1 _ h4⟩ ⟨ms_Pre_blind, hrecv, ms_start hC.2.2.2.2.2.1 hC.2.2.2.2.2.2.1 hH⟩ rfl (by simp at p1; simp [p1]) hL.2.1 (by show S.map (ms_g ad) = _; rw [p2]; simp [ms_g]) (lv_room (ms_room hr)) hd ⟨hC.2.2.2.2.2.2.2.2.2.1, hC.2.2.2.2.2.2.2.2.2.2⟩) hH (fun H1 locs1 hH1 => ?_)
      have h9 := hh H1 locs1 ls hH1 hL
      rw [List.map_append] at h9
      cases ro with
      | none => exact h9
      | some v => exact h9
    · exact h.elim
  · exact h.elim
end SE
