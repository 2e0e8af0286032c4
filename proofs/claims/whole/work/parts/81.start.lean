/-! THE CLAIM OUT OF ONE WALK OF THE LAW'S BODY. Your part is whole_start (and what it stands on); all else here is the same for every law, but numbers. -/
def lw_P (b : Addr) (xs : List Int32) (args : Array Value) (s : State) : Prop := args = #[.ref b] ∧ s.IntsAt b xs ∧ xs.length ≤ 3072 ∧ (Jvm.Cond.and given_1 narrow_1).before args s = true
def lw_Q (_ : Array Value) (s : State) (o : Outcome) (t : State) : Prop := o = .returned (some (.int 1)) ∧ Framed s o t [] 600000 7302250
def lw_Z (below : List Frame) (a : Array Value) (s : State) : State → Prop := fun t => ∃ o, t.status = .running ∧ Ended t below o ∧ lw_Q a s o t
/-- the law's own end, with 1 on the stack, nothing written that was there before, its room as the claim has it -/
theorem lw_ret {p : Program} {l : Launch} {e : Env} {s : State} {m : MethodId} {below : List Frame} {meth : Method} {c : Code} {b : Nat} (hx : p.tables.exec = Jvm.exec) (hb : c.code = code) (hr : meth.sig.returnType = ret) (hlocks : meth.locks = false) {pc : Nat} {H : Heap} {ls : Array Slot} (hdg : decode code pc = .ok (.ireturn, 1)) : W p l e room_1 s m #[Value.ref b] below meth c H [] 600000 7302250 (lw_Z below #[Value.ref b] s) (F0 m pc ls [.int 1]) := by
  intro T hT X
  obtain ⟨fs, hret, hrun, hended, hW, hframe⟩ := X.leave (v := some (.int 1)) (hlocks := hlocks) (fun h => by rw [hr] at h; cases h)
  have hmeth' : T.vm.method? m = some meth := X.method'
  refine ⟨T.setFrames fs, ?_, .returned (some (.int 1)), hrun, hended, rfl, ⟨_, rfl⟩, hW, hframe⟩
  jvm_step X.here [X.here.top, hx, hb, hdg, hmeth', hr, ret, narrow_b1]
  (try refine ⟨rfl, ?_⟩); (try refine ⟨rfl, ?_⟩)
  first | (intro acts; rw [hret _ acts rfl rfl rfl]) | rw [hret _ _ rfl rfl rfl]
  exact Steps.refl _
/-- what holds at the law's entry: the machine, the code, the tables' words (any of lw_tbl by 'hts w (by decide +kernel)'), the script of L ints xs at the cell b, what the Statement gives of the start (any of its parts by flat_of_before) -/
def lw_At (p : Program) (s : State) (m : MethodId) (meth : Method) (c : Code) (b L : Nat) (xs : Nat → Int32) : Prop :=
  p.tables.exec = Jvm.exec ∧ c.code = code ∧ meth.sig.returnType = ret ∧ c.maxLocals = 4 ∧ s.vm.findClass R_law = some m.cls ∧ (∀ w ∈ lw_tbl, w.before #[Value.ref b] s = true) ∧ va_X b L xs s s.heap ∧ b < s.heap.size ∧ meth.locks = false ∧ (Jvm.Cond.and given_1 narrow_1).before #[Value.ref b] s = true
section RO
def sx_ix (i : Nat) : Nat := [105, 93, 95, 97, 99, 101, 103, 67, 79, 57, 62].getD i 0
def sx_tm (i : Nat) : Term := .string "MangleKin$Tape" (sx_ix i)
def sx_pr : List Cond := flatC (Jvm.Cond.and given_1 narrow_1)
theorem sx_len : ∀ i, i < 11 → ms_len.getD i 0 < 2 ^ 31 := by decide +kernel
theorem sx_ex : ∀ i, i < 11 → Cond.exactly (sx_tm i) "java/lang/String" ∈ sx_pr := by decide +kernel
theorem sx_co : ∀ i, i < 11 → Cond.eq (.field (sx_tm i) "java/lang/String" "coder" "B") (.int 0) ∈ sx_pr := by decide +kernel
theorem sx_ar : ∀ i, i < 11 → Cond.arrayOf (.field (sx_tm i) "java/lang/String" "value" "[B") .byte ∈ sx_pr := by decide +kernel
theorem sx_le : ∀ i, i < 11 → Cond.eq (.length (.field (sx_tm i) "java/lang/String" "value" "[B")) (.int (Int32.ofNat (ms_len.getD i 0))) ∈ sx_pr := by decide +kernel
theorem sx_el : ∀ i, i < 11 → ∀ j, j < ms_len.getD i 0 → Cond.eq (.elem (.field (sx_tm i) "java/lang/String" "value" "[B") (.int (Int32.ofNat j))) (.int ((mz_txt.getD i []).getD j 0)) ∈ sx_pr := by decide +kernel
def sx_t : List (Nat × Nat × Nat) := [(1, 0, 98), (2, 0, 99), (1, 2, 34), (3, 0, 100), (1, 3, 44), (2, 3, 45), (4, 0, 101), (1, 4, 56), (2, 4, 57), (3, 4, 58), (5, 0, 102), (1, 5, 71), (2, 5, 72), (3, 5, 73), (4, 5, 74), (6, 0, 103), (1, 6, 83), (2, 6, 84), (3, 6, 85), (4, 6, 86), (5, 6, 87), (0, 7, 119), (1, 7, 113), (2, 7, 114), (3, 7, 115), (4, 7, 116), (5, 7, 117), (6, 7, 118), (0, 8, 133), (1, 8, 127), (2, 8, 128), (3, 8, 129), (4, 8, 130), (5, 8, 131), (6, 8, 132), (7, 8, 134), (0, 9, 149), (1, 9, 143), (2, 9, 144), (3, 9, 145), (4, 9, 146), (5, 9, 147), (6, 9, 148), (7, 9, 150), (8, 9, 151), (0, 10, 166), (1, 10, 160), (2, 10, 161), (3, 10, 162), (4, 10, 163), (5, 10, 164), (6, 10, 165), (7, 10, 167), (8, 10, 168), (9, 10, 169)]
theorem sx_n1 : ∀ q ∈ sx_t, sx_pr[q.2.2]? = some (Cond.not (Cond.eq (sx_tm q.1) (sx_tm q.2.1))) := by decide +kernel
theorem sx_n2 : ∀ i, i < 11 → ∀ j, j < 11 → i ≠ j → (∃ q ∈ sx_t, q.1 = i ∧ q.2.1 = j) ∨ (∃ q ∈ sx_t, q.1 = j ∧ q.2.1 = i) := by decide +kernel
theorem sx_ne (i : Nat) (hi : i < 11) (j : Nat) (hj : j < 11) (hij : i ≠ j) : Cond.not (Cond.eq (sx_tm i) (sx_tm j)) ∈ sx_pr ∨ Cond.not (Cond.eq (sx_tm j) (sx_tm i)) ∈ sx_pr := by
  rcases sx_n2 i hi j hj hij with ⟨q, h1, rfl, rfl⟩ | ⟨q, h1, rfl, rfl⟩
  · exact Or.inl (List.mem_of_getElem? (sx_n1 q h1))
  · exact Or.inr (List.mem_of_getElem? (sx_n1 q h1))
theorem sx_eq : ∀ q ∈ ms_strs, q.2.2.2 < 11 ∧ ((q.1 = "MangleKin$Tape" ∧ q.2.1 = sx_ix q.2.2.2) ∨ Cond.eq (sx_tm q.2.2.2) (.string q.1 q.2.1) ∈ sx_pr) := by decide +kernel
theorem sx_rf : ∀ q ∈ ms_strs, Cond.stringRef q.1 q.2.1 q.2.2.1 ∈ lw_tbl := by decide +kernel
theorem sx_ab : ∀ j, j < 7 → Cond.eq (.elem (.static "MangleKin" "ABOVE" "[I") (.int (Int32.ofNat j))) (.int (mz_abv j)) ∈ sx_pr := by decide +kernel
/-- what is there at the law's start, and stays -/
theorem ro_start {s : State} {args : Array Value} (hts : ∀ w ∈ lw_tbl, w.before args s = true) (hgv : (Jvm.Cond.and given_1 narrow_1).before args s = true) : ∃ (adK adV : Nat → Nat) (tA : Nat), vk_S 11 ms_len mz_txt adK adV (fun q => s.heap.size ≤ q) s s.heap ∧ va_Z "MangleKin" "ABOVE" "[I" (.ref tA) (fun q => s.heap.size ≤ q) s s.heap ∧ va_T .int tA 7 (fun j => .int (mz_abv j)) (fun q => s.heap.size ≤ q) s s.heap ∧ va_Z "java/lang/String" "COMPACT_STRINGS" "Z" (.int 1) (fun q => s.heap.size ≤ q) s s.heap ∧ va_Zq "jdk/internal/util/Preconditions" "SIOOBE_FORMATTER" "Ljava/util/function/BiFunction;" (fun q => s.heap.size ≤ q) s s.heap ∧ ∀ q ∈ ms_strs, vk_R q.1 q.2.1 q.2.2.1 (adK q.2.2.2) s := by
  have hs : ∀ c ∈ sx_pr, c.before args s = true := flat_of_before _ hgv
  have hA : ∀ a : Nat, a < s.heap.size → ¬ s.heap.size ≤ a := fun a h => Nat.not_le.mpr h
  obtain ⟨adK, adV, hS, hE⟩ := vk_Sof (args := args) (s := s) (N := 11) (tm := sx_tm) (len := ms_len) (byt := mz_txt) (A := fun q => s.heap.size ≤ q) sx_len (fun i hi => hs _ (sx_ex i hi)) (fun i hi => hs _ (sx_co i hi)) (fun i hi => hs _ (sx_ar i hi)) (fun i hi => hs _ (sx_le i hi)) (fun i hi j hj => hs _ (sx_el i hi j hj)) (fun i j hi hj hij => (sx_ne i hi j hj hij).imp (fun h => hs _ h) (fun h => hs _ h)) hA
  obtain ⟨tA, hA1, hA2⟩ := va_Tof (args := args) (s := s) (tm := .static "MangleKin" "ABOVE" "[I") (ty := .int) (N := 7) (f := fun j => .int (mz_abv j)) (A := fun q => s.heap.size ≤ q) (by decide) (hs _ (show Cond.arrayOf (.static "MangleKin" "ABOVE" "[I") .int ∈ sx_pr by decide +kernel)) (va_eqt (hs _ (show Cond.eq (.length (.static "MangleKin" "ABOVE" "[I")) (.int 7) ∈ sx_pr by decide +kernel))) (fun j hj => va_eqt (hs _ (sx_ab j hj))) hA
  refine ⟨adK, adV, tA, hS, va_Zof (hts _ (show Cond.laysStatic "MangleKin" "ABOVE" "[I" ∈ lw_tbl by decide +kernel)) (hts _ (show Cond.initialized "MangleKin" ∈ lw_tbl by decide +kernel)) hA1 hA, hA2, va_Zof (hts _ (show Cond.laysStatic "java/lang/String" "COMPACT_STRINGS" "Z" ∈ lw_tbl by decide +kernel)) (hts _ (show Cond.initialized "java/lang/String" ∈ lw_tbl by decide +kernel)) (va_eqi (hs _ (show Cond.eq (.static "java/lang/String" "COMPACT_STRINGS" "Z") (.int 1) ∈ sx_pr by decide +kernel))) hA, va_Zqof (hts _ (show Cond.laysStatic "jdk/internal/util/Preconditions" "SIOOBE_FORMATTER" "Ljava/util/function/BiFunction;" ∈ lw_tbl by decide +kernel)) (hts _ (show Cond.initialized "jdk/internal/util/Preconditions" ∈ lw_tbl by decide +kernel)) (hs _ (show Cond.isRef (.static "jdk/internal/util/Preconditions" "SIOOBE_FORMATTER" "Ljava/util/function/BiFunction;") ∈ sx_pr by decide +kernel)) hA, fun q hq => ?_⟩
  obtain ⟨h1, h2⟩ := sx_eq q hq
  have h3 := hE q.2.2.2 h1
  refine vk_R.of (A := args) (hts _ (sx_rf q hq)) ?_
  rcases h2 with ⟨a, b⟩ | h2
  · rw [a, b]; exact h3
  · exact va_eqR (hs _ h2) h3
end RO
