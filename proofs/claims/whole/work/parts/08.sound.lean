/-! THE SMALL MACHINE IS SOUND: what it says of a method, the kit's contract 'Met' says of the bytecode. -/
def ms_ws : List Cond := lw_tbl.filter goodWord
theorem ms_in {w : Cond} {i : Nat} (h : lw_tbl[i]? = some w) (g : goodWord w = true) : w ∈ ms_ws := List.mem_filter.mpr ⟨List.mem_of_getElem? h, g⟩
theorem ms_good {w : Cond} (h : w ∈ ms_ws) : (w.onTables && w.keeps) = true ∨ ∃ ty, w = .arrayClass ty := good_of_word (List.mem_filter.mp h).2
def ms_g (ad : Nat → Nat) : Value → Value
  | .ref k => .ref (ad k)
  | v => v
theorem ms_g_cat (ad : Nat → Nat) (v : Value) : (ms_g ad v).category = v.category := by cases v <;> rfl
def ms_f1 (ad : Nat → Nat) (f : Nat → Int32) (j : Nat) (o : Option Nat) : Value := match o with
  | none => .int (f j)
  | some p => .ref (ad p)
def ms_fs (ad : Nat → Nat) (f : Nat → Int32) (fs : List (Option Nat)) : List Value := fs.mapIdx (ms_f1 ad f)
def ms_cell (ad : Nat → Nat) (cA : Nat → ClassId) (f : Nat → Int32) (s : mz_S) : va_E := match s with
  | .inl q => .inr (q.1, ms_fs ad f q.2)
  | .inr (.inl n) => .inl (cA 0, n, .inl f)
  | .inr (.inr q) => .inl (cA q.1, q.2.length, .inr (.inr (.inr (.inr (fun j => some (ad (q.2.getD j 0)))))))
def ms_w (ad : Nat → Nat) (cA : Nat → ClassId) (w : mz_M) : va_W := mz_shp.mapIdx (fun k s => (ad k, ms_cell ad cA (w k) s))
theorem mz_nth_get {α : Type} : ∀ (l : List α) (k : Nat), mz_nth l k = l[k]?
  | [], _ => rfl
  | _ :: _, 0 => rfl
  | _ :: l, k + 1 => by rw [List.getElem?_cons_succ]; exact mz_nth_get l k
theorem ms_at {ad : Nat → Nat} {cA : Nat → ClassId} {w : mz_M} {k : Nat} {s : mz_S} (h : mz_nth mz_shp k = some s) : (ms_w ad cA w)[k]? = some (ad k, ms_cell ad cA (w k) s) := by
  rw [mz_nth_get] at h
  simp only [ms_w, List.getElem?_mapIdx, h, Option.map_some]
theorem ms_at' {ad : Nat → Nat} {cA : Nat → ClassId} {w : mz_M} {k : Nat} {q : Nat × va_E} (h : (ms_w ad cA w)[k]? = some q) : ∃ s, mz_nth mz_shp k = some s ∧ q = (ad k, ms_cell ad cA (w k) s) := by
  simp only [ms_w, List.getElem?_mapIdx] at h
  rw [mz_nth_get]
  cases hs : mz_shp[k]? with
  | none => rw [hs] at h; cases h
  | some s => rw [hs] at h; exact ⟨s, rfl, (Option.some.inj h).symm⟩
theorem ms_set {ad : Nat → Nat} {cA : Nat → ClassId} {w : mz_M} {k : Nat} {s : mz_S} (h : mz_nth mz_shp k = some s) (f : Nat → Int32) : (ms_w ad cA w).set k (ad k, ms_cell ad cA f s) = ms_w ad cA (mz_up w k f) := by
  apply List.ext_getElem?
  intro j
  by_cases hj : k = j
  · subst hj
    rw [ms_at (w := mz_up w k f) h]
    have h1 := ms_at (ad := ad) (cA := cA) (w := w) h
    rw [List.getElem?_set_self (List.getElem?_eq_some_iff.mp h1).1]
    simp [mz_up]
  · rw [List.getElem?_set_ne hj]
    simp only [ms_w, List.getElem?_mapIdx]
    have e : mz_up w k f j = w j := by simp [mz_up, Ne.symm hj]
    rw [e]
theorem ms_fs_at {ad : Nat → Nat} {f : Nat → Int32} {fs : List (Option Nat)} {j : Nat} {o : Option Nat} (h : mz_nth fs j = some o) : (ms_fs ad f fs)[j]? = some (ms_f1 ad f j o) := by
  rw [mz_nth_get] at h
  simp only [ms_fs, List.getElem?_mapIdx, h, Option.map_some]
theorem ms_fs_set {ad : Nat → Nat} {f : Nat → Int32} {fs : List (Option Nat)} {j : Nat} (h : mz_nth fs j = some none) (x : Int32) : (ms_fs ad f fs).set j (.int x) = ms_fs ad (upd f j x) fs := by
  apply List.ext_getElem?
  intro i
  by_cases hj : j = i
  · subst hj
    rw [ms_fs_at h]
    have h1 := ms_fs_at (ad := ad) (f := f) h
    rw [List.getElem?_set_self (List.getElem?_eq_some_iff.mp h1).1]
    simp [ms_f1, upd]
  · rw [List.getElem?_set_ne hj]
    simp only [ms_fs, List.getElem?_mapIdx]
    cases fs[i]? with
    | none => rfl
    | some o =>
      cases o with
      | none => simp [ms_f1, upd, Ne.symm hj]
      | some p => rfl
def ms_A (ad : Nat → Nat) : Nat → Prop := fun q => ∃ k, k < 51 ∧ q = ad k
theorem ms_D {ad : Nat → Nat} {cA : Nat → ClassId} {w w' : mz_M} {A : Nat → Prop} (h : va_D A (ms_w ad cA w)) : va_D A (ms_w ad cA w') := by
  refine ⟨fun i j p q hi hj e => ?_, fun k q hk => ?_⟩
  · obtain ⟨s, h1, rfl⟩ := ms_at' hi
    obtain ⟨s', h2, rfl⟩ := ms_at' hj
    exact h.1 i j _ _ (ms_at h1) (ms_at h2) e
  · obtain ⟨s, h1, rfl⟩ := ms_at' hk
    exact h.2 k (ad k, ms_cell ad cA (w k) s) (ms_at h1)
def ms_tys (cA : Nat → ClassId) : List (ClassId × FieldType) := [(cA 0, .int), (cA 1, .object "MangleKin$Sheet"), (cA 2, .object "java/lang/String")]
def ms_strs : List (String × Nat × String × Nat) := [("MangleKin$Tape", 105, "person", 0), ("MangleKin$Tape", 93, "lord", 1), ("MangleKin$Tape", 95, "boy", 2), ("MangleKin$Tape", 97, "widow", 3), ("MangleKin$Tape", 99, "sunday", 4), ("MangleKin$Tape", 101, "starched", 5), ("MangleKin$Tape", 103, "heir", 6), ("MangleKin$Tape", 67, "worth", 7), ("MangleKin$Tape", 79, "kin", 8), ("MangleKin$Tape", 57, "list", 9), ("MangleKin$Tape", 62, "damp", 10), ("MangleKinModel", 33, "person", 0), ("MangleKinModel", 35, "lord", 1), ("MangleKinModel", 37, "boy", 2), ("MangleKinModel", 39, "widow", 3), ("MangleKinModel", 41, "sunday", 4), ("MangleKinModel", 43, "starched", 5), ("MangleKinModel", 45, "heir", 6), ("MangleKinModel", 278, "worth", 7), ("MangleKinModel", 289, "kin", 8), ("MangleKinModel", 300, "list", 9), ("MangleKinModel", 302, "damp", 10)]
def ms_len : List Nat := [6, 4, 3, 5, 6, 8, 4, 5, 3, 4, 4]
/-- what is there before, and stays: texts, the class's table, two statics of the JDK's -/
def ms_RO (ad : Nat → Nat) (X : mz_X) (U : State) (H : Heap) : Prop :=
  vk_S 11 ms_len mz_txt (fun i => ad (60 + i)) (fun i => ad (100 + i)) (ms_A ad) U H ∧ va_Z "MangleKin" "ABOVE" "[I" (.ref (ad 80)) (ms_A ad) U H ∧ va_T .int (ad 80) 7 (fun j => .int (mz_abv j)) (ms_A ad) U H ∧
  va_Z "java/lang/String" "COMPACT_STRINGS" "Z" (.int 1) (ms_A ad) U H ∧ va_Zq "jdk/internal/util/Preconditions" "SIOOBE_FORMATTER" "Ljava/util/function/BiFunction;" (ms_A ad) U H ∧
  (∀ q ∈ ms_strs, vk_R q.1 q.2.1 q.2.2.1 (ad (60 + q.2.2.2)) U) ∧ va_X (ad 90) X.1 X.2 U H ∧ ad 90 < H.size ∧ ¬ ms_A ad (ad 90)
theorem ms_RO_warm {ad : Nat → Nat} {X : mz_X} {s U : State} {H : Heap} (hW : s.WarmedH U.vm) (h : ms_RO ad X s H) : ms_RO ad X U H :=
  ⟨h.1.moved hW.alike, h.2.1.moved hW.alike, h.2.2.1.moved hW.alike, h.2.2.2.1.moved hW.alike, h.2.2.2.2.1.moved hW.alike, fun q hq => (h.2.2.2.2.2.1 q hq).warm hW, h.2.2.2.2.2.2.1.moved hW.alike, h.2.2.2.2.2.2.2⟩
theorem ms_RO_same {ad : Nat → Nat} {X : mz_X} {s U : State} {H : Heap} (hv : U.vm = s.vm) (h : ms_RO ad X s H) : ms_RO ad X U H := by
  have ha : s.vm.Alike U.vm := by rw [hv]; exact Vm.Alike.refl _
  exact ⟨h.1.moved ha, h.2.1.moved ha, h.2.2.1.moved ha, h.2.2.2.1.moved ha, h.2.2.2.2.1.moved ha, fun q hq => (h.2.2.2.2.2.1 q hq).same hv, h.2.2.2.2.2.2.1.moved ha, h.2.2.2.2.2.2.2⟩
theorem ms_RO_kept {ad : Nat → Nat} {X : mz_X} {U : State} {H H1 : Heap} (h : ms_RO ad X U H) (hq : ∀ a : Nat, a < H.size → ¬ ms_A ad a → H1[a]? = H[a]?) : ms_RO ad X U H1 :=
  ⟨h.1.kept hq, h.2.1.kept hq, h.2.2.1.kept hq, h.2.2.2.1.kept hq, h.2.2.2.2.1.kept hq, h.2.2.2.2.2.1, h.2.2.2.2.2.2.1.kept (hq _ h.2.2.2.2.2.2.2.1 h.2.2.2.2.2.2.2.2), by
    obtain ⟨scr, h1, -⟩ := h.2.2.2.2.2.2.1.kept (hq _ h.2.2.2.2.2.2.2.1 h.2.2.2.2.2.2.2.2)
    exact (Array.getElem?_eq_some_iff.mp h1).1, h.2.2.2.2.2.2.2.2⟩
/-- a method's start -/
def ms_Pre (D : va_G) (ad : Nat → Nat) (X : mz_X) (cA : Nat → ClassId) (w : mz_M) (U : State) : Prop :=
  va_P D vwCl (ms_w ad cA w) U.heap ∧ va_K D vwCl (ms_tys cA) U ∧ va_D (ms_A ad) (ms_w ad cA w) ∧ ms_RO ad X U U.heap
theorem ms_Pre_blind {D : va_G} {ad : Nat → Nat} {X : mz_X} {cA : Nat → ClassId} {w : mz_M} {av : List Value} : FrameBlind (va_Pc av (ms_Pre D ad X cA w)) := fun a U g mk q =>
  ⟨q.1, q.2.1, va_K.moved (u := U) (U := U.calling g mk a) (Vm.Alike.refl U.vm) q.2.2.1, q.2.2.2.1, ms_RO_same (s := U) (U := U.calling g mk a) rfl q.2.2.2.2⟩
def ms_rm (d : Nat) : Room := { frames := d, cells := 0, slots := 0, locals := 36 * d }
def ms_Qc (D : va_G) (ad : Nat → Nat) (cA : Nat → ClassId) (r : Option Value) (w' : mz_M) : Array Value → State → Outcome → State → Prop := fun _ st oc t => oc = .returned (r.map (ms_g ad)) ∧ va_P D vwCl (ms_w ad cA w') t.heap ∧ va_F (ms_A ad) st t
abbrev ms_I : Type := MethodName × ByteArray × Nat × Option FieldType
/-- the kit's contract of a method at given arguments and memory -/
def ms_Met (X : mz_X) (l : Launch) (d : Nat) (q : ms_I) (as : List Value) (w : mz_M) (r : Option Value) (w' : mz_M) : Prop :=
  ∀ (D : va_G) (ad : Nat → Nat) (cA : Nat → ClassId), Met l q.1 (.code q.1 q.2.1 q.2.2.1 q.2.2.2 :: ms_ws) (ms_rm d) (va_Pc (as.map (ms_g ad)) (ms_Pre D ad X cA w)) (ms_Qc D ad cA r w') 0 0 (ms_A ad)
-- the locals
def ms_ir : Value → Bool
  | .int _ => true
  | .ref _ => true
  | _ => false
theorem ms_ir_cat {v : Value} (h : ms_ir v = true) : v.category = 1 := by cases v <;> first | rfl | cases h
def ms_lv (ad : Nat → Nat) : Nat → List Value → List (Nat × Value)
  | _, [] => []
  | i, v :: vs => if ms_ir v = true then (i, ms_g ad v) :: ms_lv ad (i + 1) vs else ms_lv ad (i + 1) vs
theorem ms_lv_mem {ad : Nat → Nat} : ∀ {L : List Value} {b : Nat} {q : Nat × Value}, q ∈ ms_lv ad b L ↔ ∃ (j : Nat) (v : Value), L[j]? = some v ∧ ms_ir v = true ∧ q = (b + j, ms_g ad v)
  | [], b, q => by simp [ms_lv]
  | v :: L, b, q => by
    have ih := @ms_lv_mem ad L (b + 1) q
    constructor
    · intro h
      unfold ms_lv at h
      split at h
      · rename_i hv
        rcases List.mem_cons.mp h with h | h
        · exact ⟨0, v, rfl, hv, by rw [h]; rfl⟩
        · obtain ⟨j, u, h1, h2, h3⟩ := ih.mp h
          exact ⟨j + 1, u, by rw [List.getElem?_cons_succ]; exact h1, h2, by rw [h3, Nat.add_assoc, Nat.add_comm 1 j]⟩
      · obtain ⟨j, u, h1, h2, h3⟩ := ih.mp h
        exact ⟨j + 1, u, by rw [List.getElem?_cons_succ]; exact h1, h2, by rw [h3, Nat.add_assoc, Nat.add_comm 1 j]⟩
    · rintro ⟨j, u, h1, h2, h3⟩
      cases j with
      | zero =>
        rw [List.getElem?_cons_zero] at h1
        cases h1
        unfold ms_lv
        rw [if_pos h2]
        exact List.mem_cons.mpr (Or.inl h3)
      | succ j =>
        rw [List.getElem?_cons_succ] at h1
        have h4 : q ∈ ms_lv ad (b + 1) L := ih.mpr ⟨j, u, h1, h2, by rw [h3, Nat.add_assoc, Nat.add_comm 1 j]⟩
        unfold ms_lv
        split
        · exact List.mem_cons_of_mem _ h4
        · exact h4
def ms_L (ad : Nat → Nat) (nL : Nat) (L : List Value) (ls : Array Slot) : Prop := L.length = nL ∧ lv_has ls nL (ms_lv ad 0 L)
theorem ms_L_int {ad : Nat → Nat} {nL k : Nat} {L : List Value} {ls : Array Slot} {x : Int32} (h : ms_L ad nL L ls) (hk : mz_nth L k = some (.int x)) : ls[k]? = some (.val (.int x)) := by
  rw [mz_nth_get] at hk
  exact h.2.2.2 (k, .int x) (ms_lv_mem.mpr ⟨k, .int x, hk, rfl, by rw [Nat.zero_add]; rfl⟩)
theorem ms_L_ref {ad : Nat → Nat} {nL k x : Nat} {L : List Value} {ls : Array Slot} (h : ms_L ad nL L ls) (hk : mz_nth L k = some (.ref x)) : ls[k]? = some (.val (.ref (ad x))) := by
  rw [mz_nth_get] at hk
  exact h.2.2.2 (k, .ref (ad x)) (ms_lv_mem.mpr ⟨k, .ref x, hk, rfl, by rw [Nat.zero_add]; rfl⟩)
theorem ms_L_set {ad : Nat → Nat} {nL i : Nat} {L : List Value} {ls ls' : Array Slot} {x : Int32} (h : ms_L ad nL L ls) (h2 : lv_has ls' nL ((i, Value.int x) :: (ms_lv ad 0 L).filter (fun q => !(q.1 == i) && !(q.1 + 1 == i && q.2.category == 2)))) : ms_L ad nL (L.set i (.int x)) ls' := by
  refine ⟨by rw [List.length_set]; exact h.1, h2.1, h2.2.1, fun q hq => h2.2.2 q ?_⟩
  obtain ⟨j, v, h3, h4, rfl⟩ := ms_lv_mem.mp hq
  by_cases hj : i = j
  · subst hj
    rw [List.getElem?_set] at h3
    simp only [if_true] at h3
    split at h3
    · cases h3
      exact List.mem_cons.mpr (Or.inl (by rw [Nat.zero_add]; rfl))
    · cases h3
  · rw [List.getElem?_set_ne hj] at h3
    refine List.mem_cons_of_mem _ (List.mem_filter.mpr ⟨ms_lv_mem.mpr ⟨j, v, h3, h4, rfl⟩, ?_⟩)
    have hc := ms_ir_cat h4
    simp [ms_g_cat, hc, Ne.symm hj]
theorem ms_L_entry {ad : Nat → Nat} : ∀ (as : List Value) (b k : Nat), as.all ms_ir = true → ms_lv ad b (as ++ List.replicate k .null) = lv_args b (as.map (ms_g ad))
  | [], b, k, _ => by
    show ms_lv ad b (List.replicate k .null) = []
    induction k generalizing b with
    | zero => rfl
    | succ k ih => rw [List.replicate_succ]; exact ih (b + 1)
  | v :: as, b, k, h => by
    simp only [List.all_cons, Bool.and_eq_true] at h
    have hc : (ms_g ad v).category = 1 := by rw [ms_g_cat]; exact ms_ir_cat h.1
    show (if ms_ir v = true then (b, ms_g ad v) :: ms_lv ad (b + 1) (as ++ List.replicate k .null) else ms_lv ad (b + 1) (as ++ List.replicate k .null)) = (b, ms_g ad v) :: lv_args (if (ms_g ad v).category = 2 then b + 2 else b + 1) (as.map (ms_g ad))
    rw [if_pos h.1, hc, if_neg (by decide), ms_L_entry as (b + 1) k h.2]
theorem ms_sl {ad : Nat → Nat} : ∀ (as : List Value), as.all ms_ir = true → (lg_sl (as.map (ms_g ad))).length = as.length
  | [], _ => rfl
  | v :: as, h => by
    simp only [List.all_cons, Bool.and_eq_true] at h
    have hc : (ms_g ad v).category = 1 := by rw [ms_g_cat]; exact ms_ir_cat h.1
    have ih := ms_sl (ad := ad) as h.2
    simp only [lg_sl, List.map_cons, List.flatMap_cons, hc, List.length_append, List.length_cons] at ih ⊢
    rw [ih]
    simp
    omega
