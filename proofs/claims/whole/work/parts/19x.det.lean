/-! a run has one end: what holds at its end names it -/
def mz_Det (t : mz_T) : Prop := ∀ (call : mz_C) (Y : Option Value → mz_M → mz_P) (Po : mz_Q) (L S : List Value) (w : mz_M), t call (fun pc L S w => ∃ r w', Y r w' pc L S w ∧ Po r w') Po L S w → ∃ r w', t call (Y r w') (fun r1 w1 => r1 = r ∧ w1 = w') L S w ∧ Po r w'
theorem de_push (v : Value) (nx : Nat) : mz_Det (mi_push v nx) := fun _ _ _ _ _ _ h => h
theorem de_goto (t : Nat) : mz_Det (mi_goto t) := fun _ _ _ _ _ _ h => h
theorem de_bad : mz_Det mi_bad := fun _ _ _ _ _ _ h => h.elim
theorem de_iload (k nx : Nat) : mz_Det (mi_iload k nx) := by
  intro call Y Po L S w h; simp only [mi_iload] at h ⊢; split at h <;> first | exact h | exact h.elim
theorem de_aload (k nx : Nat) : mz_Det (mi_aload k nx) := by
  intro call Y Po L S w h; simp only [mi_aload] at h ⊢; split at h <;> first | exact h | exact h.elim
theorem de_istore (k nx : Nat) : mz_Det (mi_istore k nx) := by
  intro call Y Po L S w h; simp only [mi_istore] at h ⊢; repeat' split at h
  all_goals first | exact h | exact h.elim
theorem de_iinc (k : Nat) (n : Int32) (nx : Nat) : mz_Det (mi_iinc k n nx) := by
  intro call Y Po L S w h; simp only [mi_iinc] at h ⊢; split at h <;> first | exact h | exact h.elim
theorem de_op1 (f : Int32 → Int32) (nx : Nat) : mz_Det (mi_op1 f nx) := by
  intro call Y Po L S w h; simp only [mi_op1] at h ⊢; split at h <;> first | exact h | exact h.elim
theorem de_op2 (f : Int32 → Int32 → Int32) (nx : Nat) : mz_Det (mi_op2 f nx) := by
  intro call Y Po L S w h; simp only [mi_op2] at h ⊢; split at h <;> first | exact h | exact h.elim
theorem de_and {α β : Type} {A : Prop} {B : α → β → Prop} {C : α → β → Prop} (h : A ∧ ∃ r w', B r w' ∧ C r w') : ∃ r w', (A ∧ B r w') ∧ C r w' := by
  obtain ⟨a, r, w', b, c⟩ := h
  exact ⟨r, w', ⟨a, b⟩, c⟩
theorem de_br {α β : Type} {c : Prop} {A B C : α → β → Prop} (h : (c → ∃ r w', A r w' ∧ C r w') ∧ (¬ c → ∃ r w', B r w' ∧ C r w')) : ∃ r w', ((c → A r w') ∧ (¬ c → B r w')) ∧ C r w' := by
  by_cases hc : c
  · obtain ⟨r, w', a, b⟩ := h.1 hc
    exact ⟨r, w', ⟨fun _ => a, fun z => absurd hc z⟩, b⟩
  · obtain ⟨r, w', a, b⟩ := h.2 hc
    exact ⟨r, w', ⟨fun z => absurd z hc, fun _ => a⟩, b⟩
theorem de_opd (f : Int32 → Int32 → Int32) (nx : Nat) : mz_Det (mi_opd f nx) := by
  intro call Y Po L S w h; simp only [mi_opd] at h ⊢; split at h <;> first | exact de_and h | exact h.elim
theorem de_i2l (nx : Nat) : mz_Det (mi_i2l nx) := by
  intro call Y Po L S w h; simp only [mi_i2l] at h ⊢; split at h <;> first | exact h | exact h.elim
theorem de_ladd (nx : Nat) : mz_Det (mi_ladd nx) := by
  intro call Y Po L S w h; simp only [mi_ladd] at h ⊢; split at h <;> first | exact h | exact h.elim
theorem de_lshl (nx : Nat) : mz_Det (mi_lshl nx) := by
  intro call Y Po L S w h; simp only [mi_lshl] at h ⊢; split at h <;> first | exact h | exact h.elim
theorem de_lcmp (nx : Nat) : mz_Det (mi_lcmp nx) := by
  intro call Y Po L S w h; simp only [mi_lcmp] at h ⊢; split at h <;> first | exact h | exact h.elim
theorem de_dup (nx : Nat) : mz_Det (mi_dup nx) := by
  intro call Y Po L S w h; simp only [mi_dup] at h ⊢; split at h <;> first | exact h | exact h.elim
theorem de_dup2 (nx : Nat) : mz_Det (mi_dup2 nx) := by
  intro call Y Po L S w h; simp only [mi_dup2] at h ⊢; split at h <;> first | exact h | exact h.elim
theorem de_if (c : Int32 → Prop) (t nx : Nat) : mz_Det (mi_if c t nx) := by
  intro call Y Po L S w h; simp only [mi_if] at h ⊢; split at h <;> first | exact de_br h | exact h.elim
theorem de_cmp (c : Int32 → Int32 → Prop) (t nx : Nat) : mz_Det (mi_cmp c t nx) := by
  intro call Y Po L S w h; simp only [mi_cmp] at h ⊢; split at h <;> first | exact de_br h | exact h.elim
theorem de_swl {x : Int32} {K : Option Value → mz_M → Nat → Prop} {Po : mz_Q} {d : Nat} : ∀ ts, mz_sw x (fun t => ∃ r w', K r w' t ∧ Po r w') d ts → ∃ r w', mz_sw x (K r w') d ts ∧ Po r w'
  | [], h => h
  | q :: ts, h => de_br (A := fun r w' => K r w' q.2) ⟨h.1, fun c => de_swl ts (h.2 c)⟩
theorem de_sw (ts : List (Int32 × Nat)) (d : Nat) : mz_Det (mi_sw ts d) := by
  intro call Y Po L S w h; simp only [mi_sw] at h ⊢; split at h <;> first | exact de_swl ts h | exact h.elim
theorem de_get (ci j nx : Nat) : mz_Det (mi_get ci j nx) := by
  intro call Y Po L S w h; simp only [mi_get] at h ⊢; repeat' split at h
  all_goals first | exact h | exact h.elim
theorem de_put (ci j nx : Nat) : mz_Det (mi_put ci j nx) := by
  intro call Y Po L S w h; simp only [mi_put] at h ⊢; repeat' split at h
  all_goals first | exact h | exact h.elim
theorem de_putz (ci j nx : Nat) : mz_Det (mi_putz ci j nx) := by
  intro call Y Po L S w h; simp only [mi_putz] at h ⊢; repeat' split at h
  all_goals first | exact de_and h | exact h.elim
theorem de_iald (nx : Nat) : mz_Det (mi_iald nx) := by
  intro call Y Po L S w h; simp only [mi_iald] at h ⊢; repeat' split at h
  all_goals first | exact de_and h | exact h.elim
theorem de_iast (nx : Nat) : mz_Det (mi_iast nx) := by
  intro call Y Po L S w h; simp only [mi_iast] at h ⊢; repeat' split at h
  all_goals first | exact de_and h | exact h.elim
theorem de_aald (nx : Nat) : mz_Det (mi_aald nx) := by
  intro call Y Po L S w h; simp only [mi_aald] at h ⊢; repeat' split at h
  all_goals first | exact de_and h | exact h.elim
theorem de_alen (nx : Nat) : mz_Det (mi_alen nx) := by
  intro call Y Po L S w h; simp only [mi_alen] at h ⊢; repeat' split at h
  all_goals first | exact h | exact h.elim
theorem de_tald (nx : Nat) : mz_Det (mi_tald nx) := by
  intro call Y Po L S w h; simp only [mi_tald] at h ⊢; repeat' split at h
  all_goals first | exact de_and h | exact h.elim
theorem de_copy (nx : Nat) : mz_Det (mi_copy nx) := by
  intro call Y Po L S w h; simp only [mi_copy] at h ⊢; repeat' split at h
  all_goals first | (obtain ⟨a1, a2, a3, a4, a5, r, w', b, c⟩ := h; exact ⟨r, w', ⟨a1, a2, a3, a4, a5, b⟩, c⟩) | exact h.elim
theorem de_mm (f : Int32 → Int32 → Int32) (nx : Nat) : mz_Det (mi_mm f nx) := by
  intro call Y Po L S w h; simp only [mi_mm] at h ⊢; repeat' split at h
  all_goals first | exact h | exact h.elim
theorem de_sval (nx : Nat) : mz_Det (mi_sval nx) := by
  intro call Y Po L S w h; simp only [mi_sval] at h ⊢; split at h <;> first | exact de_and h | exact h.elim
theorem de_scod (nx : Nat) : mz_Det (mi_scod nx) := by
  intro call Y Po L S w h; simp only [mi_scod] at h ⊢; split at h <;> first | exact de_and h | exact h.elim
theorem de_slen (nx : Nat) : mz_Det (mi_slen nx) := by
  intro call Y Po L S w h; simp only [mi_slen] at h ⊢; split at h <;> first | exact de_and h | exact h.elim
theorem de_sald (nx : Nat) : mz_Det (mi_sald nx) := by
  intro call Y Po L S w h; simp only [mi_sald] at h ⊢; split at h <;> first | exact de_and h | exact h.elim
theorem de_back {call : mz_C} {mi kind : Nat} {as rest : List Value} {nx : Nat} {Y : Option Value → mz_M → mz_P} {Po : mz_Q} {L : List Value} {w : mz_M} (h : mz_back call mi kind as rest nx (fun pc L S w => ∃ r w', Y r w' pc L S w ∧ Po r w') L w) : ∃ r w', mz_back call mi kind as rest nx (Y r w') L w ∧ Po r w' := by
  unfold mz_back at h ⊢
  split at h
  · obtain ⟨w1, a, r, w', b, c⟩ := h; exact ⟨r, w', ⟨w1, a, b⟩, c⟩
  · obtain ⟨r1, w1, a, r, w', b, c⟩ := h; exact ⟨r, w', ⟨r1, w1, a, b⟩, c⟩
  · obtain ⟨r1, w1, a, r, w', b, c⟩ := h; exact ⟨r, w', ⟨r1, w1, a, b⟩, c⟩
  · obtain ⟨r1, w1, a, r, w', b, c⟩ := h; exact ⟨r, w', ⟨r1, w1, a, b⟩, c⟩
theorem de_callS (mi na kind nx : Nat) : mz_Det (mi_callS mi na kind nx) := by
  intro call Y Po L S w h; simp only [mi_callS] at h ⊢; repeat' split at h
  all_goals first | exact de_back h | exact h.elim
theorem de_callV (mi ci na kind nx : Nat) : mz_Det (mi_callV mi ci na kind nx) := by
  intro call Y Po L S w h; simp only [mi_callV] at h ⊢; repeat' split at h
  all_goals first | exact de_back h | exact h.elim
theorem de_callT (mi na kind nx : Nat) : mz_Det (mi_callT mi na kind nx) := by
  intro call Y Po L S w h; simp only [mi_callT] at h ⊢; repeat' split at h
  all_goals first | exact de_and ⟨h.1, de_back h.2⟩ | exact h.elim
theorem de_ireturn : mz_Det mi_ireturn := by
  intro call Y Po L S w h; simp only [mi_ireturn] at h ⊢; split at h <;> first | exact ⟨_, _, ⟨rfl, rfl⟩, h⟩ | exact h.elim
theorem de_zreturn : mz_Det mi_zreturn := by
  intro call Y Po L S w h; simp only [mi_zreturn] at h ⊢; split at h <;> first | exact ⟨_, _, ⟨h.1, rfl, rfl⟩, h.2⟩ | exact h.elim
theorem de_nreturn (ty : FieldType) : mz_Det (mi_nreturn ty) := by
  intro call Y Po L S w h; simp only [mi_nreturn] at h ⊢; split at h <;> first | exact ⟨_, _, ⟨h.1, rfl, rfl⟩, h.2⟩ | exact h.elim
theorem de_lreturn : mz_Det mi_lreturn := by
  intro call Y Po L S w h; simp only [mi_lreturn] at h ⊢; split at h <;> first | exact ⟨_, _, ⟨rfl, rfl⟩, h⟩ | exact h.elim
theorem de_areturn : mz_Det mi_areturn := by
  intro call Y Po L S w h; simp only [mi_areturn] at h ⊢; split at h <;> first | exact ⟨_, _, ⟨rfl, rfl⟩, h⟩ | exact h.elim
theorem de_return : mz_Det mi_return := by
  intro call Y Po L S w h; simp only [mi_return] at h ⊢; split at h <;> first | exact ⟨_, _, ⟨rfl, rfl⟩, h⟩ | exact h.elim
theorem de_row : ∀ {l : mz_K}, (∀ q ∈ l, mz_Det q.2) → ∀ pc, mz_Det (mz_row l pc)
  | [], _, _ => de_bad
  | q :: l, h, pc => by
    unfold mz_row
    split
    · exact h q List.mem_cons_self
    · exact de_row (fun q hq => h q (List.mem_cons_of_mem _ hq)) pc
theorem de_look : ∀ {C : mz_Cd}, (∀ l ∈ C, ∀ q ∈ l.2, mz_Det q.2) → ∀ pc, mz_Det (mz_look C pc)
  | [], _, _ => de_bad
  | q :: l, h, pc => by
    show mz_Det (mz_look (q :: l) pc)
    unfold mz_look
    split
    · exact de_row (h q List.mem_cons_self) pc
    · exact de_look (C := l) (fun q hq => h q (List.mem_cons_of_mem _ hq)) pc
/-- an end that is told names the end -/
theorem de_ex {C : mz_Cd} {call : mz_C} {Po : mz_Q} (hm : mz_MonoC C) (hd : ∀ pc, mz_Det (mz_look C pc)) {pc : Nat} {L S : List Value} {w : mz_M} (h : mz_Ex C call Po pc L S w) : ∃ r w', mz_Ex C call (fun r1 w1 => r1 = r ∧ w1 = w') pc L S w ∧ Po r w' := by
  refine h (fun pc L S w => ∃ r w', mz_Ex C call (fun r1 w1 => r1 = r ∧ w1 = w') pc L S w ∧ Po r w') (fun pc L S w k => ?_)
  obtain ⟨r, w', a, b⟩ := hd pc call (fun r w' => mz_Ex C call (fun r1 w1 => r1 = r ∧ w1 = w')) Po L S w k
  exact ⟨r, w', mx_fold hm a, b⟩
