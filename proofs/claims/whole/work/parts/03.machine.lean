/-! A SMALL MACHINE over places: memory is 'place, slot -> int'; the shapes of the places never change. Its steps are predicate transformers; 'mz_Ex' is the least predicate that they close; 'mz_Call d' what a method answers within d frames. -/
abbrev mz_M : Type := Nat → Nat → Int32
abbrev mz_P : Type := Nat → List Value → List Value → mz_M → Prop
abbrev mz_Q : Type := Option Value → mz_M → Prop
abbrev mz_C : Type := Nat → List Value → mz_M → Option Value → mz_M → Prop
abbrev mz_T : Type := mz_C → mz_P → mz_Q → List Value → List Value → mz_M → Prop
abbrev mz_S : Type := (Nat × List (Option Nat)) ⊕ (Nat ⊕ (Nat × List Nat))
def mz_nth {α : Type} : List α → Nat → Option α
  | [], _ => none
  | a :: _, 0 => some a
  | _ :: l, n + 1 => mz_nth l n
def mz_up (w : mz_M) (k : Nat) (f : Nat → Int32) : mz_M := fun a => if a = k then f else w a
/-- the first n of a stack, as arguments in their order, and the rest -/
def mz_pop : Nat → List Value → List Value → Option (List Value × List Value)
  | 0, as, S => some (as, S)
  | _ + 1, _, [] => none
  | n + 1, as, v :: S => mz_pop n (v :: as) S
def mz_room (S : List Value) : Bool := Nat.ble (S.map fun v => v.category).sum 8
def mz_house (b : Nat) : mz_S := .inl (0, [none, none, none, none, none, some (b + 1), some (b + 2), some (b + 3), some (b + 4), some (b + 5), some (b + 6), some (b + 7)])
def mz_arr (n : Nat) : mz_S := .inr (.inl n)
def mz_sheet (b : Nat) : mz_S := .inl (1, [none, none, some (b + 1)])
/-- the places: 0 the class's object, 1, 9, 17 its houses, 25 the tape, 27 the sheets, 36 found; 37 the reference's object, 38.. its rows -/
def mz_shp : List mz_S := [.inl (3, [some 1, some 9, some 17, none, some 25, some 27, some 36]),
  mz_house 1, mz_arr 6, mz_arr 8, mz_arr 8, mz_arr 64, mz_arr 10, mz_arr 8, mz_arr 8,
  mz_house 9, mz_arr 6, mz_arr 8, mz_arr 8, mz_arr 64, mz_arr 10, mz_arr 8, mz_arr 8,
  mz_house 17, mz_arr 6, mz_arr 8, mz_arr 8, mz_arr 64, mz_arr 10, mz_arr 8, mz_arr 8,
  .inl (2, [some 26, none, none, none, none, none]), mz_arr 120,
  .inr (.inr (1, [28, 30, 32, 34])), mz_sheet 28, mz_arr 40, mz_sheet 30, mz_arr 40, mz_sheet 32, mz_arr 40, mz_sheet 34, mz_arr 40, mz_arr 7,
  .inl (4, [some 38, some 39, some 40, none, some 41, some 42, some 43, none, none, some 44, none, none, none, none, none, none, some 45, some 46, none, none, some 47, some 48, some 49, some 50]),
  mz_arr 101, mz_arr 101, mz_arr 101, mz_arr 8, mz_arr 8, mz_arr 8, mz_arr 120, .inr (.inr (2, [60, 61, 62, 63, 64, 65, 66])), mz_arr 480, mz_arr 4, mz_arr 4, mz_arr 160, mz_arr 40]
/-- the texts: places 60 on -/
def mz_txt : List (List Int32) := [[112, 101, 114, 115, 111, 110], [108, 111, 114, 100], [98, 111, 121], [119, 105, 100, 111, 119], [115, 117, 110, 100, 97, 121], [115, 116, 97, 114, 99, 104, 101, 100], [104, 101, 105, 114], [119, 111, 114, 116, 104], [107, 105, 110], [108, 105, 115, 116], [100, 97, 109, 112]]
def mz_abv (j : Nat) : Int32 := match j with
  | 0 => -1
  | 1 => 0
  | 2 => 0
  | 3 => 2
  | 4 => 3
  | 5 => 0
  | _ => 1
-- the steps
def mi_push (v : Value) (nx : Nat) : mz_T := fun _ P _ L S w => P nx L (v :: S) w
def mi_iload (k nx : Nat) : mz_T := fun _ P _ L S w => match mz_nth L k with
  | some (.int x) => P nx L (.int x :: S) w
  | _ => False
def mi_aload (k nx : Nat) : mz_T := fun _ P _ L S w => match mz_nth L k with
  | some (.ref x) => P nx L (.ref x :: S) w
  | _ => False
def mi_istore (k nx : Nat) : mz_T := fun _ P _ L S w => match S with
  | .int x :: S => (match Nat.blt k L.length with
    | true => P nx (L.set k (.int x)) S w
    | false => False)
  | _ => False
def mi_iinc (k : Nat) (n : Int32) (nx : Nat) : mz_T := fun _ P _ L S w => match mz_nth L k with
  | some (.int x) => P nx (L.set k (.int (x + n))) S w
  | _ => False
def mi_op1 (f : Int32 → Int32) (nx : Nat) : mz_T := fun _ P _ L S w => match S with
  | .int x :: S => P nx L (.int (f x) :: S) w
  | _ => False
def mi_op2 (f : Int32 → Int32 → Int32) (nx : Nat) : mz_T := fun _ P _ L S w => match S with
  | .int y :: .int x :: S => P nx L (.int (f x y) :: S) w
  | _ => False
def mi_opd (f : Int32 → Int32 → Int32) (nx : Nat) : mz_T := fun _ P _ L S w => match S with
  | .int y :: .int x :: S => (¬ y = 0) ∧ P nx L (.int (f x y) :: S) w
  | _ => False
def mi_i2l (nx : Nat) : mz_T := fun _ P _ L S w => match S with
  | .int x :: S => P nx L (.long x.toInt64 :: S) w
  | _ => False
def mi_ladd (nx : Nat) : mz_T := fun _ P _ L S w => match S with
  | .long y :: .long x :: S => P nx L (.long (x + y) :: S) w
  | _ => False
def mi_lshl (nx : Nat) : mz_T := fun _ P _ L S w => match S with
  | .int y :: .long x :: S => P nx L (.long (x <<< (y.toInt64 &&& 63)) :: S) w
  | _ => False
def mi_lcmp (nx : Nat) : mz_T := fun _ P _ L S w => match S with
  | .long y :: .long x :: S => P nx L (.int (lg_cmp x y) :: S) w
  | _ => False
def mi_dup (nx : Nat) : mz_T := fun _ P _ L S w => match S with
  | .int x :: S => P nx L (.int x :: .int x :: S) w
  | .ref x :: S => P nx L (.ref x :: .ref x :: S) w
  | _ => False
def mi_dup2 (nx : Nat) : mz_T := fun _ P _ L S w => match S with
  | .int y :: .ref x :: S => P nx L (.int y :: .ref x :: .int y :: .ref x :: S) w
  | _ => False
def mi_if (c : Int32 → Prop) (t nx : Nat) : mz_T := fun _ P _ L S w => match S with
  | .int x :: S => (c x → P t L S w) ∧ (¬ c x → P nx L S w)
  | _ => False
def mi_cmp (c : Int32 → Int32 → Prop) (t nx : Nat) : mz_T := fun _ P _ L S w => match S with
  | .int y :: .int x :: S => (c x y → P t L S w) ∧ (¬ c x y → P nx L S w)
  | _ => False
def mi_goto (t : Nat) : mz_T := fun _ P _ L S w => P t L S w
def mz_sw (x : Int32) (K : Nat → Prop) (dflt : Nat) : List (Int32 × Nat) → Prop
  | [] => K dflt
  | q :: ts => (x = q.1 → K q.2) ∧ (¬ x = q.1 → mz_sw x K dflt ts)
def mi_sw (ts : List (Int32 × Nat)) (dflt : Nat) : mz_T := fun _ P _ L S w => match S with
  | .int x :: S => mz_sw x (fun t => P t L S w) dflt ts
  | _ => False
def mi_get (ci j nx : Nat) : mz_T := fun _ P _ L S w => match S with
  | .ref k :: S => (match mz_nth mz_shp k with
    | some (.inl (c, fs)) => (match Nat.beq c ci with
      | true => (match mz_nth fs j with
        | some none => P nx L (.int (w k j) :: S) w
        | some (some p) => P nx L (.ref p :: S) w
        | none => False)
      | false => False)
    | _ => False)
  | _ => False
def mi_put (ci j nx : Nat) : mz_T := fun _ P _ L S w => match S with
  | .int x :: .ref k :: S => (match mz_nth mz_shp k with
    | some (.inl (c, fs)) => (match Nat.beq c ci with
      | true => (match mz_nth fs j with
        | some none => P nx L S (mz_up w k (upd (w k) j x))
        | _ => False)
      | false => False)
    | _ => False)
  | _ => False
/-- a boolean field -/
def mi_putz (ci j nx : Nat) : mz_T := fun _ P _ L S w => match S with
  | .int x :: .ref k :: S => (match mz_nth mz_shp k with
    | some (.inl (c, fs)) => (match Nat.beq c ci with
      | true => (match mz_nth fs j with
        | some none => (x = 0 ∨ x = 1) ∧ P nx L S (mz_up w k (upd (w k) j x))
        | _ => False)
      | false => False)
    | _ => False)
  | _ => False
def mi_iald (nx : Nat) : mz_T := fun _ P _ L S w => match S with
  | .int i :: .ref k :: S => (match mz_nth mz_shp k with
    | some (.inr (.inl n)) => vp_in i n ∧ P nx L (.int (w k i.toNatClampNeg) :: S) w
    | _ => False)
  | _ => False
def mi_iast (nx : Nat) : mz_T := fun _ P _ L S w => match S with
  | .int x :: .int i :: .ref k :: S => (match mz_nth mz_shp k with
    | some (.inr (.inl n)) => vp_in i n ∧ P nx L S (mz_up w k (upd (w k) i.toNatClampNeg x))
    | _ => False)
  | _ => False
def mi_aald (nx : Nat) : mz_T := fun _ P _ L S w => match S with
  | .int i :: .ref k :: S => (match mz_nth mz_shp k with
    | some (.inr (.inr (_, ps))) => vp_in i ps.length ∧ P nx L (.ref (ps.getD i.toNatClampNeg 0) :: S) w
    | _ => False)
  | _ => False
def mi_alen (nx : Nat) : mz_T := fun _ P _ L S w => match S with
  | .ref k :: S => (match mz_nth mz_shp k with
    | some (.inr (.inl n)) => P nx L (.int (nI n) :: S) w
    | some (.inr (.inr (_, ps))) => P nx L (.int (nI ps.length) :: S) w
    | _ => False)
  | _ => False
/-- the class's own table ABOVE, place 80 -/
def mi_tald (nx : Nat) : mz_T := fun _ P _ L S w => match S with
  | .int i :: .ref k :: S => (match Nat.beq k 80 with
    | true => vp_in i 7 ∧ P nx L (.int (mz_abv i.toNatClampNeg) :: S) w
    | false => False)
  | _ => False
def mi_copy (nx : Nat) : mz_T := fun _ P _ L S w => match S with
  | .int n :: .int dp :: .ref a :: .int sp :: .ref b :: S => (match mz_room S with
    | true => (match mz_nth mz_shp b, mz_nth mz_shp a with
      | some (.inr (.inl n0)), some (.inr (.inl n1)) => (¬ sp < 0) ∧ (¬ dp < 0) ∧ (¬ n < 0) ∧ sp.toNatClampNeg + n.toNatClampNeg ≤ n0 ∧ dp.toNatClampNeg + n.toNatClampNeg ≤ n1 ∧ P nx L S (mz_up w a (va_cpy (w b) (w a) sp.toNatClampNeg dp.toNatClampNeg n.toNatClampNeg))
      | _, _ => False)
    | false => False)
  | _ => False
/-- Math.max, Math.min -/
def mi_mm (f : Int32 → Int32 → Int32) (nx : Nat) : mz_T := fun _ P _ L S w => match S with
  | .int y :: .int x :: S => (match mz_room S with
    | true => P nx L (.int (f x y) :: S) w
    | false => False)
  | _ => False
/-- the text at place k -/
def mz_tx (k : Nat) : List Int32 := mz_txt.getD (k - 60) []
/-- a call of kind 0 (void), 1 (int), 2 (long), 3 (a reference): method id, na values off the stack -/
def mz_back (call : mz_C) (id kind : Nat) (as rest : List Value) (nx : Nat) (P : mz_P) (L : List Value) (w : mz_M) : Prop := match kind with
  | 0 => ∃ w1, call id as w none w1 ∧ P nx L rest w1
  | 1 => ∃ (r : Int32) (w1 : mz_M), call id as w (some (.int r)) w1 ∧ P nx L (.int r :: rest) w1
  | 2 => ∃ (r : Int64) (w1 : mz_M), call id as w (some (.long r)) w1 ∧ P nx L (.long r :: rest) w1
  | _ => ∃ (r : Nat) (w1 : mz_M), call id as w (some (.ref r)) w1 ∧ P nx L (.ref r :: rest) w1
def mi_callS (id na kind nx : Nat) : mz_T := fun call P _ L S w => match mz_pop na [] S with
  | some (as, rest) => (match mz_room rest with
    | true => mz_back call id kind as rest nx P L w
    | false => False)
  | none => False
def mi_callV (id ci na kind nx : Nat) : mz_T := fun call P _ L S w => match mz_pop na [] S with
  | some (.ref k :: as, rest) => (match mz_room rest with
    | true => (match mz_nth mz_shp k with
      | some (.inl (c, _)) => (match Nat.beq c ci with
        | true => mz_back call id kind (.ref k :: as) rest nx P L w
        | false => False)
      | _ => False)
    | false => False)
  | _ => False
/-- String.value: the bytes of a text stand 40 behind it -/
def mi_sval (nx : Nat) : mz_T := fun _ P _ L S w => match S with
  | .ref k :: S => (60 ≤ k ∧ k < 71) ∧ P nx L (.ref (k + 40) :: S) w
  | _ => False
def mi_scod (nx : Nat) : mz_T := fun _ P _ L S w => match S with
  | .ref k :: S => (60 ≤ k ∧ k < 71) ∧ P nx L (.int (nI 0) :: S) w
  | _ => False
def mi_slen (nx : Nat) : mz_T := fun _ P _ L S w => match S with
  | .ref k :: S => (100 ≤ k ∧ k < 111) ∧ P nx L (.int (nI (mz_tx (k - 40)).length) :: S) w
  | _ => False
def mi_sald (nx : Nat) : mz_T := fun _ P _ L S w => match S with
  | .int i :: .ref k :: S => ((100 ≤ k ∧ k < 111) ∧ vp_in i (mz_tx (k - 40)).length) ∧ P nx L (.int ((mz_tx (k - 40)).getD i.toNatClampNeg 0) :: S) w
  | _ => False
/-- the law's script, place 90: n ints xs -/
def mi_xald (n : Nat) (xs : Nat → Int32) (nx : Nat) : mz_T := fun _ P _ L S w => match S with
  | .int i :: .ref k :: S => (match Nat.beq k 90 with
    | true => vp_in i n ∧ P nx L (.int (xs i.toNatClampNeg) :: S) w
    | false => False)
  | _ => False
def mi_xlen (n : Nat) (nx : Nat) : mz_T := fun _ P _ L S w => match S with
  | .ref k :: S => (match Nat.beq k 90 with
    | true => P nx L (.int (nI n) :: S) w
    | false => False)
  | _ => False
/-- an int answer of a narrow type -/
def mi_nreturn (ty : FieldType) : mz_T := fun _ _ Q _ S w => match S with
  | [.int v] => narrow ty (.int v) = .int v ∧ Q (some (.int v)) w
  | _ => False
/-- a virtual call on a text -/
def mi_callT (mi na kind nx : Nat) : mz_T := fun call P _ L S w => match mz_pop na [] S with
  | some (.ref k :: as, rest) => (match mz_room rest with
    | true => (60 ≤ k ∧ k < 71) ∧ mz_back call mi kind (.ref k :: as) rest nx P L w
    | false => False)
  | _ => False
def mi_ireturn : mz_T := fun _ _ Q _ S w => match S with
  | [.int v] => Q (some (.int v)) w
  | _ => False
def mi_zreturn : mz_T := fun _ _ Q _ S w => match S with
  | [.int v] => (v = 0 ∨ v = 1) ∧ Q (some (.int v)) w
  | _ => False
def mi_lreturn : mz_T := fun _ _ Q _ S w => match S with
  | [.long v] => Q (some (.long v)) w
  | _ => False
def mi_areturn : mz_T := fun _ _ Q _ S w => match S with
  | [.ref v] => Q (some (.ref v)) w
  | _ => False
def mi_return : mz_T := fun _ _ Q _ S w => match S with
  | [] => Q none w
  | _ => False
def mi_bad : mz_T := fun _ _ _ _ _ _ => False
-- code: chunks of rows
abbrev mz_K : Type := List (Nat × mz_T)
abbrev mz_Cd : Type := List (Nat × mz_K)
def mz_row : mz_K → Nat → mz_T
  | [], _ => mi_bad
  | q :: l, pc => match Nat.beq q.1 pc with
    | true => q.2
    | false => mz_row l pc
def mz_look : mz_Cd → Nat → mz_T
  | [], _ => mi_bad
  | q :: l, pc => match Nat.blt pc q.1 with
    | true => mz_row q.2 pc
    | false => mz_look l pc
/-- the script: how many ints, and which -/
abbrev mz_X : Type := Nat × (Nat → Int32)
/-- the least predicate that the code closes -/
def mz_Ex (C : mz_Cd) (call : mz_C) (Q : mz_Q) (pc : Nat) (L S : List Value) (w : mz_M) : Prop :=
  ∀ P : mz_P, (∀ (pc : Nat) (L S : List Value) (w : mz_M), mz_look C pc call P Q L S w → P pc L S w) → P pc L S w
def mz_in : Nat → List Nat → Bool
  | _, [] => false
  | n, a :: l => match Nat.beq n a with
    | true => true
    | false => mz_in n l
/-- n steps at most, up to the places of 'stop' -/
def mz_go (C : mz_Cd) (call : mz_C) (Q : mz_Q) (stop : List Nat) : Nat → mz_P
  | 0 => mz_Ex C call Q
  | n + 1 => fun pc L S w => match mz_in pc stop with
    | true => mz_Ex C call Q pc L S w
    | false => mz_look C pc call (mz_go C call Q stop n) Q L S w
-- growing
def mz_Mono (t : mz_T) : Prop := ∀ (call : mz_C) (P P' : mz_P) (Q : mz_Q) (L S : List Value) (w : mz_M), (∀ (pc : Nat) (L S : List Value) (w : mz_M), P pc L S w → P' pc L S w) → t call P Q L S w → t call P' Q L S w
theorem mm_push (v : Value) (nx : Nat) : mz_Mono (mi_push v nx) := fun _ _ _ _ _ _ _ h k => h _ _ _ _ k
theorem mm_goto (t : Nat) : mz_Mono (mi_goto t) := fun _ _ _ _ _ _ _ h k => h _ _ _ _ k
theorem mm_bad : mz_Mono mi_bad := fun _ _ _ _ _ _ _ _ k => k
theorem mm_iload (k nx : Nat) : mz_Mono (mi_iload k nx) := by
  intro call P P' Q L S w h; simp only [mi_iload]; split <;> first | exact h _ _ _ _ | exact id
theorem mm_aload (k nx : Nat) : mz_Mono (mi_aload k nx) := by
  intro call P P' Q L S w h; simp only [mi_aload]; split <;> first | exact h _ _ _ _ | exact id
theorem mm_istore (k nx : Nat) : mz_Mono (mi_istore k nx) := by
  intro call P P' Q L S w h; simp only [mi_istore]; repeat' split
  all_goals first | exact h _ _ _ _ | exact id
theorem mm_iinc (k : Nat) (n : Int32) (nx : Nat) : mz_Mono (mi_iinc k n nx) := by
  intro call P P' Q L S w h; simp only [mi_iinc]; split <;> first | exact h _ _ _ _ | exact id
theorem mm_op1 (f : Int32 → Int32) (nx : Nat) : mz_Mono (mi_op1 f nx) := by
  intro call P P' Q L S w h; simp only [mi_op1]; split <;> first | exact h _ _ _ _ | exact id
theorem mm_op2 (f : Int32 → Int32 → Int32) (nx : Nat) : mz_Mono (mi_op2 f nx) := by
  intro call P P' Q L S w h; simp only [mi_op2]; split <;> first | exact h _ _ _ _ | exact id
theorem mm_opd (f : Int32 → Int32 → Int32) (nx : Nat) : mz_Mono (mi_opd f nx) := by
  intro call P P' Q L S w h; simp only [mi_opd]; split <;> first | exact fun k => ⟨k.1, h _ _ _ _ k.2⟩ | exact id
theorem mm_i2l (nx : Nat) : mz_Mono (mi_i2l nx) := by
  intro call P P' Q L S w h; simp only [mi_i2l]; split <;> first | exact h _ _ _ _ | exact id
theorem mm_ladd (nx : Nat) : mz_Mono (mi_ladd nx) := by
  intro call P P' Q L S w h; simp only [mi_ladd]; split <;> first | exact h _ _ _ _ | exact id
theorem mm_lshl (nx : Nat) : mz_Mono (mi_lshl nx) := by
  intro call P P' Q L S w h; simp only [mi_lshl]; split <;> first | exact h _ _ _ _ | exact id
theorem mm_lcmp (nx : Nat) : mz_Mono (mi_lcmp nx) := by
  intro call P P' Q L S w h; simp only [mi_lcmp]; split <;> first | exact h _ _ _ _ | exact id
theorem mm_dup (nx : Nat) : mz_Mono (mi_dup nx) := by
  intro call P P' Q L S w h; simp only [mi_dup]; split <;> first | exact h _ _ _ _ | exact id
theorem mm_dup2 (nx : Nat) : mz_Mono (mi_dup2 nx) := by
  intro call P P' Q L S w h; simp only [mi_dup2]; split <;> first | exact h _ _ _ _ | exact id
theorem mm_if (c : Int32 → Prop) (t nx : Nat) : mz_Mono (mi_if c t nx) := by
  intro call P P' Q L S w h; simp only [mi_if]; split <;> first | exact fun k => ⟨fun c => h _ _ _ _ (k.1 c), fun c => h _ _ _ _ (k.2 c)⟩ | exact id
theorem mm_cmp (c : Int32 → Int32 → Prop) (t nx : Nat) : mz_Mono (mi_cmp c t nx) := by
  intro call P P' Q L S w h; simp only [mi_cmp]; split <;> first | exact fun k => ⟨fun c => h _ _ _ _ (k.1 c), fun c => h _ _ _ _ (k.2 c)⟩ | exact id
theorem mz_sw_mono {x : Int32} {K K' : Nat → Prop} {d : Nat} (h : ∀ t, K t → K' t) : ∀ ts, mz_sw x K d ts → mz_sw x K' d ts
  | [], k => h _ k
  | _ :: ts, k => ⟨fun c => h _ (k.1 c), fun c => mz_sw_mono h ts (k.2 c)⟩
theorem mm_sw (ts : List (Int32 × Nat)) (d : Nat) : mz_Mono (mi_sw ts d) := by
  intro call P P' Q L S w h; simp only [mi_sw]; split <;> first | exact mz_sw_mono (fun t => h t _ _ _) ts | exact id
theorem mm_get (ci j nx : Nat) : mz_Mono (mi_get ci j nx) := by
  intro call P P' Q L S w h; simp only [mi_get]; repeat' split
  all_goals first | exact h _ _ _ _ | exact id
theorem mm_put (ci j nx : Nat) : mz_Mono (mi_put ci j nx) := by
  intro call P P' Q L S w h; simp only [mi_put]; repeat' split
  all_goals first | exact h _ _ _ _ | exact id
theorem mm_putz (ci j nx : Nat) : mz_Mono (mi_putz ci j nx) := by
  intro call P P' Q L S w h; simp only [mi_putz]; repeat' split
  all_goals first | exact fun k => ⟨k.1, h _ _ _ _ k.2⟩ | exact id
theorem mm_iald (nx : Nat) : mz_Mono (mi_iald nx) := by
  intro call P P' Q L S w h; simp only [mi_iald]; repeat' split
  all_goals first | exact fun k => ⟨k.1, h _ _ _ _ k.2⟩ | exact id
theorem mm_iast (nx : Nat) : mz_Mono (mi_iast nx) := by
  intro call P P' Q L S w h; simp only [mi_iast]; repeat' split
  all_goals first | exact fun k => ⟨k.1, h _ _ _ _ k.2⟩ | exact id
theorem mm_aald (nx : Nat) : mz_Mono (mi_aald nx) := by
  intro call P P' Q L S w h; simp only [mi_aald]; repeat' split
  all_goals first | exact fun k => ⟨k.1, h _ _ _ _ k.2⟩ | exact id
theorem mm_alen (nx : Nat) : mz_Mono (mi_alen nx) := by
  intro call P P' Q L S w h; simp only [mi_alen]; repeat' split
  all_goals first | exact h _ _ _ _ | exact id
theorem mm_tald (nx : Nat) : mz_Mono (mi_tald nx) := by
  intro call P P' Q L S w h; simp only [mi_tald]; repeat' split
  all_goals first | exact fun k => ⟨k.1, h _ _ _ _ k.2⟩ | exact id
theorem mm_copy (nx : Nat) : mz_Mono (mi_copy nx) := by
  intro call P P' Q L S w h; simp only [mi_copy]; repeat' split
  all_goals first | exact fun k => ⟨k.1, k.2.1, k.2.2.1, k.2.2.2.1, k.2.2.2.2.1, h _ _ _ _ k.2.2.2.2.2⟩ | exact id
theorem mm_mm (f : Int32 → Int32 → Int32) (nx : Nat) : mz_Mono (mi_mm f nx) := by
  intro call P P' Q L S w h; simp only [mi_mm]; repeat' split
  all_goals first | exact h _ _ _ _ | exact id
theorem mz_back_mono {call : mz_C} {id kind : Nat} {as rest : List Value} {nx : Nat} {P P' : mz_P} {L : List Value} {w : mz_M} (h : ∀ (pc : Nat) (L S : List Value) (w : mz_M), P pc L S w → P' pc L S w) : mz_back call id kind as rest nx P L w → mz_back call id kind as rest nx P' L w := by
  unfold mz_back
  split
  · rintro ⟨w1, a, b⟩; exact ⟨w1, a, h _ _ _ _ b⟩
  · rintro ⟨r, w1, a, b⟩; exact ⟨r, w1, a, h _ _ _ _ b⟩
  · rintro ⟨r, w1, a, b⟩; exact ⟨r, w1, a, h _ _ _ _ b⟩
  · rintro ⟨r, w1, a, b⟩; exact ⟨r, w1, a, h _ _ _ _ b⟩
theorem mm_callS (mi na kind nx : Nat) : mz_Mono (mi_callS mi na kind nx) := by
  intro call P P' Q L S w h; simp only [mi_callS]; repeat' split
  all_goals first | exact mz_back_mono h | exact id
theorem mm_callV (mi ci na kind nx : Nat) : mz_Mono (mi_callV mi ci na kind nx) := by
  intro call P P' Q L S w h; simp only [mi_callV]; repeat' split
  all_goals first | exact mz_back_mono h | exact id
theorem mm_sval (nx : Nat) : mz_Mono (mi_sval nx) := by
  intro call P P' Q L S w h; simp only [mi_sval]; split <;> first | exact fun k => ⟨k.1, h _ _ _ _ k.2⟩ | exact id
theorem mm_scod (nx : Nat) : mz_Mono (mi_scod nx) := by
  intro call P P' Q L S w h; simp only [mi_scod]; split <;> first | exact fun k => ⟨k.1, h _ _ _ _ k.2⟩ | exact id
theorem mm_slen (nx : Nat) : mz_Mono (mi_slen nx) := by
  intro call P P' Q L S w h; simp only [mi_slen]; split <;> first | exact fun k => ⟨k.1, h _ _ _ _ k.2⟩ | exact id
theorem mm_sald (nx : Nat) : mz_Mono (mi_sald nx) := by
  intro call P P' Q L S w h; simp only [mi_sald]; split <;> first | exact fun k => ⟨k.1, h _ _ _ _ k.2⟩ | exact id
theorem mm_xald (n : Nat) (xs : Nat → Int32) (nx : Nat) : mz_Mono (mi_xald n xs nx) := by
  intro call P P' Q L S w h; simp only [mi_xald]; repeat' split
  all_goals first | exact fun k => ⟨k.1, h _ _ _ _ k.2⟩ | exact id
theorem mm_xlen (n nx : Nat) : mz_Mono (mi_xlen n nx) := by
  intro call P P' Q L S w h; simp only [mi_xlen]; repeat' split
  all_goals first | exact h _ _ _ _ | exact id
theorem mm_nreturn (ty : FieldType) : mz_Mono (mi_nreturn ty) := fun _ _ _ _ _ _ _ _ k => k
theorem mm_callT (mi na kind nx : Nat) : mz_Mono (mi_callT mi na kind nx) := by
  intro call P P' Q L S w h; simp only [mi_callT]; repeat' split
  all_goals first | exact fun k => ⟨k.1, mz_back_mono h k.2⟩ | exact id
theorem mm_ireturn : mz_Mono mi_ireturn := fun _ _ _ _ _ _ _ _ k => k
theorem mm_zreturn : mz_Mono mi_zreturn := fun _ _ _ _ _ _ _ _ k => k
theorem mm_lreturn : mz_Mono mi_lreturn := fun _ _ _ _ _ _ _ _ k => k
theorem mm_areturn : mz_Mono mi_areturn := fun _ _ _ _ _ _ _ _ k => k
theorem mm_return : mz_Mono mi_return := fun _ _ _ _ _ _ _ _ k => k
/-- a code all of whose rows grow -/
def mz_MonoC (C : mz_Cd) : Prop := ∀ pc, mz_Mono (mz_look C pc)
theorem mx_fold {C : mz_Cd} {call : mz_C} {Q : mz_Q} (hm : mz_MonoC C) {pc : Nat} {L S : List Value} {w : mz_M} (h : mz_look C pc call (mz_Ex C call Q) Q L S w) : mz_Ex C call Q pc L S w :=
  fun P hP => hP _ _ _ _ (hm pc call _ P Q L S w (fun _ _ _ _ k => k P hP) h)
theorem mx_go {C : mz_Cd} {call : mz_C} {Q : mz_Q} {stop : List Nat} (hm : mz_MonoC C) : ∀ (n pc : Nat) (L S : List Value) (w : mz_M), mz_go C call Q stop n pc L S w → mz_Ex C call Q pc L S w
  | 0, _, _, _, _, h => h
  | n + 1, pc, L, S, w, h => by
    unfold mz_go at h
    split at h
    · exact h
    · exact mx_fold hm (hm pc call _ _ Q L S w (mx_go hm n) h)
/-- a stretch of code -/
theorem mx_seg {C : mz_Cd} {call : mz_C} {Q : mz_Q} (hm : mz_MonoC C) (stop : List Nat) (n : Nat) {pc : Nat} {L S : List Value} {w : mz_M} (h : mz_look C pc call (mz_go C call Q stop n) Q L S w) : mz_Ex C call Q pc L S w :=
  mx_fold hm (hm pc call _ _ Q L S w (mx_go hm n) h)
theorem mm_row : ∀ {l : mz_K}, (∀ q ∈ l, mz_Mono q.2) → ∀ pc, mz_Mono (mz_row l pc)
  | [], _, _ => mm_bad
  | q :: l, h, pc => by
    unfold mz_row
    split
    · exact h q List.mem_cons_self
    · exact mm_row (fun q hq => h q (List.mem_cons_of_mem _ hq)) pc
theorem mm_look : ∀ {C : mz_Cd}, (∀ l ∈ C, ∀ q ∈ l.2, mz_Mono q.2) → mz_MonoC C
  | [], _, _ => mm_bad
  | q :: l, h, pc => by
    show mz_Mono (mz_look (q :: l) pc)
    unfold mz_look
    split
    · exact mm_row (h q List.mem_cons_self) pc
    · exact mm_look (C := l) (fun q hq => h q (List.mem_cons_of_mem _ hq)) pc
