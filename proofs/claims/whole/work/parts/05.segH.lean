/-! stretches of code, by program: House, Sheet, Tape, JDK -/
set_option maxRecDepth 20000 in
theorem sg_X0_become_0 {call : mz_C} {Q : mz_Q} {h o : Nat} {w : mz_M} (hh : h = 1 ∨ h = 9 ∨ h = 17) (ho : o = 1 ∨ o = 9 ∨ o = 17)
    (K : mz_Ex cd_X0_become call Q 8 [.ref h, .ref o] [] (mz_up w h (upd (w h) 0 (w o 0)))) :
    mz_Ex cd_X0_become call Q 0 [.ref h, .ref o] [] w := by
  rcases hh with rfl | rfl | rfl <;> rcases ho with rfl | rfl | rfl <;> exact mx_seg mo_X0_become [8, 16, 24, 32, 40, 55, 70, 85, 100, 115] 5 K
set_option maxRecDepth 20000 in
theorem sg_X0_become_8 {call : mz_C} {Q : mz_Q} {h o : Nat} {w : mz_M} (hh : h = 1 ∨ h = 9 ∨ h = 17) (ho : o = 1 ∨ o = 9 ∨ o = 17)
    (K : mz_Ex cd_X0_become call Q 16 [.ref h, .ref o] [] (mz_up w h (upd (w h) 1 (w o 1)))) :
    mz_Ex cd_X0_become call Q 8 [.ref h, .ref o] [] w := by
  rcases hh with rfl | rfl | rfl <;> rcases ho with rfl | rfl | rfl <;> exact mx_seg mo_X0_become [8, 16, 24, 32, 40, 55, 70, 85, 100, 115] 5 K
set_option maxRecDepth 20000 in
theorem sg_X0_become_16 {call : mz_C} {Q : mz_Q} {h o : Nat} {w : mz_M} (hh : h = 1 ∨ h = 9 ∨ h = 17) (ho : o = 1 ∨ o = 9 ∨ o = 17)
    (K : mz_Ex cd_X0_become call Q 24 [.ref h, .ref o] [] (mz_up w h (upd (w h) 2 (w o 2)))) :
    mz_Ex cd_X0_become call Q 16 [.ref h, .ref o] [] w := by
  rcases hh with rfl | rfl | rfl <;> rcases ho with rfl | rfl | rfl <;> exact mx_seg mo_X0_become [8, 16, 24, 32, 40, 55, 70, 85, 100, 115] 5 K
set_option maxRecDepth 20000 in
theorem sg_X0_become_24 {call : mz_C} {Q : mz_Q} {h o : Nat} {w : mz_M} (hh : h = 1 ∨ h = 9 ∨ h = 17) (ho : o = 1 ∨ o = 9 ∨ o = 17)
    (K : mz_Ex cd_X0_become call Q 32 [.ref h, .ref o] [] (mz_up w h (upd (w h) 3 (w o 3)))) :
    mz_Ex cd_X0_become call Q 24 [.ref h, .ref o] [] w := by
  rcases hh with rfl | rfl | rfl <;> rcases ho with rfl | rfl | rfl <;> exact mx_seg mo_X0_become [8, 16, 24, 32, 40, 55, 70, 85, 100, 115] 5 K
set_option maxRecDepth 20000 in
theorem sg_X0_become_32 {call : mz_C} {Q : mz_Q} {h o : Nat} {w : mz_M} (hh : h = 1 ∨ h = 9 ∨ h = 17) (ho : o = 1 ∨ o = 9 ∨ o = 17)
    (K : mz_Ex cd_X0_become call Q 40 [.ref h, .ref o] [] (mz_up w h (upd (w h) 4 (w o 4)))) :
    mz_Ex cd_X0_become call Q 32 [.ref h, .ref o] [] w := by
  rcases hh with rfl | rfl | rfl <;> rcases ho with rfl | rfl | rfl <;> exact mx_seg mo_X0_become [8, 16, 24, 32, 40, 55, 70, 85, 100, 115] 5 K
set_option maxRecDepth 20000 in
theorem sg_X0_become_40 {call : mz_C} {Q : mz_Q} {h o : Nat} {w : mz_M} (hh : h = 1 ∨ h = 9 ∨ h = 17) (ho : o = 1 ∨ o = 9 ∨ o = 17)
    (K : (¬ (nI 0) < 0) ∧ (¬ (nI 0) < 0) ∧ (¬ (nI 6) < 0) ∧ (nI 0).toNatClampNeg + (nI 6).toNatClampNeg ≤ 6 ∧ (nI 0).toNatClampNeg + (nI 6).toNatClampNeg ≤ 6 ∧ (mz_Ex cd_X0_become call Q 55 [.ref h, .ref o] [] (mz_up w (h + 1) (va_cpy (w (o + 1)) (w (h + 1)) (nI 0).toNatClampNeg (nI 0).toNatClampNeg (nI 6).toNatClampNeg)))) :
    mz_Ex cd_X0_become call Q 40 [.ref h, .ref o] [] w := by
  rcases hh with rfl | rfl | rfl <;> rcases ho with rfl | rfl | rfl <;> exact mx_seg mo_X0_become [8, 16, 24, 32, 40, 55, 70, 85, 100, 115] 9 K
set_option maxRecDepth 20000 in
theorem sg_X0_become_55 {call : mz_C} {Q : mz_Q} {h o : Nat} {w : mz_M} (hh : h = 1 ∨ h = 9 ∨ h = 17) (ho : o = 1 ∨ o = 9 ∨ o = 17)
    (K : (¬ (nI 0) < 0) ∧ (¬ (nI 0) < 0) ∧ (¬ (nI 8) < 0) ∧ (nI 0).toNatClampNeg + (nI 8).toNatClampNeg ≤ 8 ∧ (nI 0).toNatClampNeg + (nI 8).toNatClampNeg ≤ 8 ∧ (mz_Ex cd_X0_become call Q 70 [.ref h, .ref o] [] (mz_up w (h + 2) (va_cpy (w (o + 2)) (w (h + 2)) (nI 0).toNatClampNeg (nI 0).toNatClampNeg (nI 8).toNatClampNeg)))) :
    mz_Ex cd_X0_become call Q 55 [.ref h, .ref o] [] w := by
  rcases hh with rfl | rfl | rfl <;> rcases ho with rfl | rfl | rfl <;> exact mx_seg mo_X0_become [8, 16, 24, 32, 40, 55, 70, 85, 100, 115] 9 K
set_option maxRecDepth 20000 in
theorem sg_X0_become_70 {call : mz_C} {Q : mz_Q} {h o : Nat} {w : mz_M} (hh : h = 1 ∨ h = 9 ∨ h = 17) (ho : o = 1 ∨ o = 9 ∨ o = 17)
    (K : (¬ (nI 0) < 0) ∧ (¬ (nI 0) < 0) ∧ (¬ (nI 8) < 0) ∧ (nI 0).toNatClampNeg + (nI 8).toNatClampNeg ≤ 8 ∧ (nI 0).toNatClampNeg + (nI 8).toNatClampNeg ≤ 8 ∧ (mz_Ex cd_X0_become call Q 85 [.ref h, .ref o] [] (mz_up w (h + 3) (va_cpy (w (o + 3)) (w (h + 3)) (nI 0).toNatClampNeg (nI 0).toNatClampNeg (nI 8).toNatClampNeg)))) :
    mz_Ex cd_X0_become call Q 70 [.ref h, .ref o] [] w := by
  rcases hh with rfl | rfl | rfl <;> rcases ho with rfl | rfl | rfl <;> exact mx_seg mo_X0_become [8, 16, 24, 32, 40, 55, 70, 85, 100, 115] 9 K
set_option maxRecDepth 20000 in
theorem sg_X0_become_85 {call : mz_C} {Q : mz_Q} {h o : Nat} {w : mz_M} (hh : h = 1 ∨ h = 9 ∨ h = 17) (ho : o = 1 ∨ o = 9 ∨ o = 17)
    (K : (¬ (nI 0) < 0) ∧ (¬ (nI 0) < 0) ∧ (¬ (nI 64) < 0) ∧ (nI 0).toNatClampNeg + (nI 64).toNatClampNeg ≤ 64 ∧ (nI 0).toNatClampNeg + (nI 64).toNatClampNeg ≤ 64 ∧ (mz_Ex cd_X0_become call Q 100 [.ref h, .ref o] [] (mz_up w (h + 4) (va_cpy (w (o + 4)) (w (h + 4)) (nI 0).toNatClampNeg (nI 0).toNatClampNeg (nI 64).toNatClampNeg)))) :
    mz_Ex cd_X0_become call Q 85 [.ref h, .ref o] [] w := by
  rcases hh with rfl | rfl | rfl <;> rcases ho with rfl | rfl | rfl <;> exact mx_seg mo_X0_become [8, 16, 24, 32, 40, 55, 70, 85, 100, 115] 9 K
set_option maxRecDepth 20000 in
theorem sg_X0_become_100 {call : mz_C} {Q : mz_Q} {h o : Nat} {w : mz_M} (hh : h = 1 ∨ h = 9 ∨ h = 17) (ho : o = 1 ∨ o = 9 ∨ o = 17)
    (K : (¬ (nI 0) < 0) ∧ (¬ (nI 0) < 0) ∧ (¬ (nI 10) < 0) ∧ (nI 0).toNatClampNeg + (nI 10).toNatClampNeg ≤ 10 ∧ (nI 0).toNatClampNeg + (nI 10).toNatClampNeg ≤ 10 ∧ (mz_Ex cd_X0_become call Q 115 [.ref h, .ref o] [] (mz_up w (h + 5) (va_cpy (w (o + 5)) (w (h + 5)) (nI 0).toNatClampNeg (nI 0).toNatClampNeg (nI 10).toNatClampNeg)))) :
    mz_Ex cd_X0_become call Q 100 [.ref h, .ref o] [] w := by
  rcases hh with rfl | rfl | rfl <;> rcases ho with rfl | rfl | rfl <;> exact mx_seg mo_X0_become [8, 16, 24, 32, 40, 55, 70, 85, 100, 115] 9 K
set_option maxRecDepth 20000 in
theorem sg_X0_become_115 {call : mz_C} {Q : mz_Q} {j0 j1 : Value} {w : mz_M}
    (K : Q none w) :
    mz_Ex cd_X0_become call Q 115 [j0, j1] [] w := mx_seg mo_X0_become [8, 16, 24, 32, 40, 55, 70, 85, 100, 115] 2 K
set_option maxRecDepth 20000 in
theorem sg_X0_isFull_0 {call : mz_C} {Q : mz_Q} {h : Nat} {w : mz_M} (hh : h = 1 ∨ h = 9 ∨ h = 17)
    (K : (((w h 3) < (nI 8)) → (((nI 0 = 0) ∨ (nI 0 = 1)) ∧ Q (some (.int (nI 0))) w)) ∧ ((¬ (w h 3) < (nI 8)) → (((nI 1 = 0) ∨ (nI 1 = 1)) ∧ Q (some (.int (nI 1))) w))) :
    mz_Ex cd_X0_isFull call Q 0 [.ref h] [] w := by
  rcases hh with rfl | rfl | rfl <;> exact mx_seg mo_X0_isFull [] 8 K
set_option maxRecDepth 20000 in
theorem sg_X0_welcome_0 {call : mz_C} {Q : mz_Q} {h : Nat} {a1 : Int32} {w : mz_M} (hh : h = 1 ∨ h = 9 ∨ h = 17)
    (K : ∃ (r1 : Int32) (w1 : mz_M), call 1 [.ref h] w (some (.int r1)) w1 ∧ (((r1 = nI 0) → (vp_in (w1 h 3) 8 ∧ (let v4 : mz_M := (mz_up w1 (h + 2) (upd (w1 (h + 2)) (w1 h 3).toNatClampNeg a1)); (vp_in (v4 h 3) 8 ∧ (let v6 : mz_M := (mz_up v4 (h + 3) (upd (v4 (h + 3)) (v4 h 3).toNatClampNeg (nI 4))); (let v7 : mz_M := (mz_up v6 h (upd (v6 h) 3 ((v6 h 3) + (nI 1)))); (Q (some (.int ((v7 h 3) - (nI 1)))) v7))))))) ∧ ((¬ r1 = nI 0) → (Q (some (.int ((-1 : Int32)))) w1)))) :
    mz_Ex cd_X0_welcome call Q 0 [.ref h, .int a1] [] w := by
  rcases hh with rfl | rfl | rfl <;> exact mx_seg mo_X0_welcome [] 27 K
set_option maxRecDepth 20000 in
theorem sg_X0_everyone_0 {call : mz_C} {Q : mz_Q} {h : Nat} {w : mz_M} (hh : h = 1 ∨ h = 9 ∨ h = 17)
    (K : Q (some (.int (((nI 1) <<< ((w h 3) &&& 31)) - (nI 1)))) w) :
    mz_Ex cd_X0_everyone call Q 0 [.ref h] [] w := by
  rcases hh with rfl | rfl | rfl <;> exact mx_seg mo_X0_everyone [] 8 K
set_option maxRecDepth 20000 in
theorem sg_X0_kinOf_0 {call : mz_C} {Q : mz_Q} {h : Nat} {a1 a2 : Int32} {w : mz_M} (hh : h = 1 ∨ h = 9 ∨ h = 17)
    (K : vp_in ((a1 * (nI 8)) + a2) 64 ∧ (Q (some (.int (w (h + 4) ((a1 * (nI 8)) + a2).toNatClampNeg))) w)) :
    mz_Ex cd_X0_kinOf call Q 0 [.ref h, .int a1, .int a2] [] w := by
  rcases hh with rfl | rfl | rfl <;> exact mx_seg mo_X0_kinOf [] 10 K
set_option maxRecDepth 20000 in
theorem sg_X0_relate_0 {call : mz_C} {Q : mz_Q} {h : Nat} {a1 a2 a3 : Int32} {w : mz_M} (hh : h = 1 ∨ h = 9 ∨ h = 17)
    (K : vp_in ((a1 * (nI 8)) + a2) 64 ∧ (let v1 : mz_M := (mz_up w (h + 4) (upd (w (h + 4)) ((a1 * (nI 8)) + a2).toNatClampNeg a3)); (vp_in ((a2 * (nI 8)) + a1) 64 ∧ (Q none (mz_up v1 (h + 4) (upd (v1 (h + 4)) ((a2 * (nI 8)) + a1).toNatClampNeg a3)))))) :
    mz_Ex cd_X0_relate call Q 0 [.ref h, .int a1, .int a2, .int a3] [] w := by
  rcases hh with rfl | rfl | rfl <;> exact mx_seg mo_X0_relate [] 20 K
set_option maxRecDepth 20000 in
theorem sg_X0_flatten_0 {call : mz_C} {Q : mz_Q} {h : Nat} {a1 : Int32} {w : mz_M} (hh : h = 1 ∨ h = 9 ∨ h = 17)
    (K : mz_Ex cd_X0_flatten call Q 2 [.ref h, .int a1, .int (nI 0)] [] w) :
    mz_Ex cd_X0_flatten call Q 0 [.ref h, .int a1, .null] [] w := by
  rcases hh with rfl | rfl | rfl <;> exact mx_seg mo_X0_flatten [2] 3 K
set_option maxRecDepth 20000 in
theorem sg_X0_flatten_2 {call : mz_C} {Q : mz_Q} {h : Nat} {a1 a2 : Int32} {w : mz_M} (hh : h = 1 ∨ h = 9 ∨ h = 17)
    (K : ((a2 < (w h 3)) → (∃ w1, call 5 [.ref h, .int a1, .int a2, .int (nI 0)] w none w1 ∧ (mz_Ex cd_X0_flatten call Q 2 [.ref h, .int a1, .int (a2 + (nI 1))] [] w1))) ∧ ((¬ a2 < (w h 3)) → (Q none w))) :
    mz_Ex cd_X0_flatten call Q 2 [.ref h, .int a1, .int a2] [] w := by
  rcases hh with rfl | rfl | rfl <;> exact mx_seg mo_X0_flatten [2] 12 K
set_option maxRecDepth 20000 in
theorem sg_X0_kinToAll_0 {call : mz_C} {Q : mz_Q} {h : Nat} {a1 : Int32} {w : mz_M} (hh : h = 1 ∨ h = 9 ∨ h = 17)
    (K : mz_Ex cd_X0_kinToAll call Q 4 [.ref h, .int a1, .int (nI 0), .int (nI 0)] [] w) :
    mz_Ex cd_X0_kinToAll call Q 0 [.ref h, .int a1, .null, .null] [] w := by
  rcases hh with rfl | rfl | rfl <;> exact mx_seg mo_X0_kinToAll [4] 5 K
set_option maxRecDepth 20000 in
theorem sg_X0_kinToAll_4 {call : mz_C} {Q : mz_Q} {h : Nat} {a1 a2 a3 : Int32} {w : mz_M} (hh : h = 1 ∨ h = 9 ∨ h = 17)
    (K : ((a3 < (w h 3)) → (∃ (r1 : Int32) (w1 : mz_M), call 4 [.ref h, .int a1, .int a3] w (some (.int r1)) w1 ∧ (mz_Ex cd_X0_kinToAll call Q 4 [.ref h, .int a1, .int (a2 + r1), .int (a3 + (nI 1))] [] w1))) ∧ ((¬ a3 < (w h 3)) → (Q (some (.int a2)) w))) :
    mz_Ex cd_X0_kinToAll call Q 4 [.ref h, .int a1, .int a2, .int a3] [] w := by
  rcases hh with rfl | rfl | rfl <;> exact mx_seg mo_X0_kinToAll [4] 14 K
set_option maxRecDepth 20000 in
theorem sg_X0_nearestTo_0 {call : mz_C} {Q : mz_Q} {h : Nat} {a1 : Int32} {w : mz_M} (hh : h = 1 ∨ h = 9 ∨ h = 17)
    (K : mz_Ex cd_X0_nearestTo call Q 4 [.ref h, .int a1, .int ((-1 : Int32)), .int (nI 0)] [] w) :
    mz_Ex cd_X0_nearestTo call Q 0 [.ref h, .int a1, .null, .null] [] w := by
  rcases hh with rfl | rfl | rfl <;> exact mx_seg mo_X0_nearestTo [4] 5 K
set_option maxRecDepth 20000 in
theorem sg_X0_nearestTo_4 {call : mz_C} {Q : mz_Q} {h : Nat} {a1 a2 a3 : Int32} {w : mz_M} (hh : h = 1 ∨ h = 9 ∨ h = 17)
    (K : ((a3 < (w h 3)) → (((a3 = a1) → (mz_Ex cd_X0_nearestTo call Q 4 [.ref h, .int a1, .int a2, .int (a3 + (nI 1))] [] w)) ∧ ((¬ a3 = a1) → (((a2 = (-1 : Int32)) → (mz_Ex cd_X0_nearestTo call Q 4 [.ref h, .int a1, .int a3, .int (a3 + (nI 1))] [] w)) ∧ ((¬ a2 = (-1 : Int32)) → (∃ (r1 : Int32) (w1 : mz_M), call 4 [.ref h, .int a1, .int a3] w (some (.int r1)) w1 ∧ (∃ (r2 : Int32) (w2 : mz_M), call 4 [.ref h, .int a1, .int a2] w1 (some (.int r2)) w2 ∧ (((r2 < r1) → (mz_Ex cd_X0_nearestTo call Q 4 [.ref h, .int a1, .int a3, .int (a3 + (nI 1))] [] w2)) ∧ ((¬ r2 < r1) → (mz_Ex cd_X0_nearestTo call Q 4 [.ref h, .int a1, .int a2, .int (a3 + (nI 1))] [] w2)))))))))) ∧ ((¬ a3 < (w h 3)) → (Q (some (.int a2)) w))) :
    mz_Ex cd_X0_nearestTo call Q 4 [.ref h, .int a1, .int a2, .int a3] [] w := by
  rcases hh with rfl | rfl | rfl <;> exact mx_seg mo_X0_nearestTo [4] 24 K
set_option maxRecDepth 20000 in
theorem sg_X0_allKin_0 {call : mz_C} {Q : mz_Q} {h : Nat} {w : mz_M} (hh : h = 1 ∨ h = 9 ∨ h = 17)
    (K : mz_Ex cd_X0_allKin call Q 4 [.ref h, .int (nI 0), .int (nI 0), .null] [] w) :
    mz_Ex cd_X0_allKin call Q 0 [.ref h, .null, .null, .null] [] w := by
  rcases hh with rfl | rfl | rfl <;> exact mx_seg mo_X0_allKin [4, 16] 5 K
set_option maxRecDepth 20000 in
theorem sg_X0_allKin_4 {call : mz_C} {Q : mz_Q} {h : Nat} {a1 a2 : Int32} {j3 : Value} {w : mz_M} (hh : h = 1 ∨ h = 9 ∨ h = 17)
    (K : ((a2 < (w h 3)) → (mz_Ex cd_X0_allKin call Q 16 [.ref h, .int a1, .int a2, .int (a2 + (nI 1))] [] w)) ∧ ((¬ a2 < (w h 3)) → (Q (some (.int a1)) w))) :
    mz_Ex cd_X0_allKin call Q 4 [.ref h, .int a1, .int a2, j3] [] w := by
  rcases hh with rfl | rfl | rfl <;> exact mx_seg mo_X0_allKin [4, 16] 9 K
set_option maxRecDepth 20000 in
theorem sg_X0_allKin_16 {call : mz_C} {Q : mz_Q} {h : Nat} {a1 a2 a3 : Int32} {w : mz_M} (hh : h = 1 ∨ h = 9 ∨ h = 17)
    (K : ((a3 < (w h 3)) → (∃ (r1 : Int32) (w1 : mz_M), call 4 [.ref h, .int a2, .int a3] w (some (.int r1)) w1 ∧ (mz_Ex cd_X0_allKin call Q 16 [.ref h, .int (a1 + r1), .int a2, .int (a3 + (nI 1))] [] w1))) ∧ ((¬ a3 < (w h 3)) → (mz_Ex cd_X0_allKin call Q 4 [.ref h, .int a1, .int (a2 + (nI 1)), .int a3] [] w))) :
    mz_Ex cd_X0_allKin call Q 16 [.ref h, .int a1, .int a2, .int a3] [] w := by
  rcases hh with rfl | rfl | rfl <;> exact mx_seg mo_X0_allKin [4, 16] 14 K
set_option maxRecDepth 20000 in
theorem sg_X0_greatestKin_0 {call : mz_C} {Q : mz_Q} {h : Nat} {w : mz_M} (hh : h = 1 ∨ h = 9 ∨ h = 17)
    (K : mz_Ex cd_X0_greatestKin call Q 4 [.ref h, .int (nI 0), .int (nI 0), .null] [] w) :
    mz_Ex cd_X0_greatestKin call Q 0 [.ref h, .null, .null, .null] [] w := by
  rcases hh with rfl | rfl | rfl <;> exact mx_seg mo_X0_greatestKin [4, 16] 5 K
set_option maxRecDepth 20000 in
theorem sg_X0_greatestKin_4 {call : mz_C} {Q : mz_Q} {h : Nat} {a1 a2 : Int32} {j3 : Value} {w : mz_M} (hh : h = 1 ∨ h = 9 ∨ h = 17)
    (K : ((a2 < (w h 3)) → (mz_Ex cd_X0_greatestKin call Q 16 [.ref h, .int a1, .int a2, .int (a2 + (nI 1))] [] w)) ∧ ((¬ a2 < (w h 3)) → (Q (some (.int a1)) w))) :
    mz_Ex cd_X0_greatestKin call Q 4 [.ref h, .int a1, .int a2, j3] [] w := by
  rcases hh with rfl | rfl | rfl <;> exact mx_seg mo_X0_greatestKin [4, 16] 9 K
set_option maxRecDepth 20000 in
theorem sg_X0_greatestKin_16 {call : mz_C} {Q : mz_Q} {h : Nat} {a1 a2 a3 : Int32} {w : mz_M} (hh : h = 1 ∨ h = 9 ∨ h = 17)
    (K : ((a3 < (w h 3)) → (∃ (r1 : Int32) (w1 : mz_M), call 4 [.ref h, .int a2, .int a3] w (some (.int r1)) w1 ∧ (mz_Ex cd_X0_greatestKin call Q 16 [.ref h, .int (if a1 < r1 then r1 else a1), .int a2, .int (a3 + (nI 1))] [] w1))) ∧ ((¬ a3 < (w h 3)) → (mz_Ex cd_X0_greatestKin call Q 4 [.ref h, .int a1, .int (a2 + (nI 1)), .int a3] [] w))) :
    mz_Ex cd_X0_greatestKin call Q 16 [.ref h, .int a1, .int a2, .int a3] [] w := by
  rcases hh with rfl | rfl | rfl <;> exact mx_seg mo_X0_greatestKin [4, 16] 14 K
set_option maxRecDepth 20000 in
theorem sg_X0_nearestTwo_0 {call : mz_C} {Q : mz_Q} {h : Nat} {w : mz_M} (hh : h = 1 ∨ h = 9 ∨ h = 17)
    (K : mz_Ex cd_X0_nearestTwo call Q 6 [.ref h, .int ((-1 : Int32)), .int ((-1 : Int32)), .int (nI 0), .null] [] w) :
    mz_Ex cd_X0_nearestTwo call Q 0 [.ref h, .null, .null, .null, .null] [] w := by
  rcases hh with rfl | rfl | rfl <;> exact mx_seg mo_X0_nearestTwo [6, 19] 7 K
set_option maxRecDepth 20000 in
theorem sg_X0_nearestTwo_6 {call : mz_C} {Q : mz_Q} {h : Nat} {a1 a2 a3 : Int32} {j4 : Value} {w : mz_M} (hh : h = 1 ∨ h = 9 ∨ h = 17)
    (K : ((a3 < (w h 3)) → (mz_Ex cd_X0_nearestTwo call Q 19 [.ref h, .int a1, .int a2, .int a3, .int (a3 + (nI 1))] [] w)) ∧ ((¬ a3 < (w h 3)) → (Q (some (.int a1)) w))) :
    mz_Ex cd_X0_nearestTwo call Q 6 [.ref h, .int a1, .int a2, .int a3, j4] [] w := by
  rcases hh with rfl | rfl | rfl <;> exact mx_seg mo_X0_nearestTwo [6, 19] 9 K
set_option maxRecDepth 20000 in
theorem sg_X0_nearestTwo_19 {call : mz_C} {Q : mz_Q} {h : Nat} {a1 a2 a3 a4 : Int32} {w : mz_M} (hh : h = 1 ∨ h = 9 ∨ h = 17)
    (K : ((a4 < (w h 3)) → (∃ (r1 : Int32) (w1 : mz_M), call 4 [.ref h, .int a3, .int a4] w (some (.int r1)) w1 ∧ (((a2 < r1) → (∃ (r2 : Int32) (w2 : mz_M), call 4 [.ref h, .int a3, .int a4] w1 (some (.int r2)) w2 ∧ (mz_Ex cd_X0_nearestTwo call Q 19 [.ref h, .int ((a3 * (nI 8)) + a4), .int r2, .int a3, .int (a4 + (nI 1))] [] w2))) ∧ ((¬ a2 < r1) → (mz_Ex cd_X0_nearestTwo call Q 19 [.ref h, .int a1, .int a2, .int a3, .int (a4 + (nI 1))] [] w1))))) ∧ ((¬ a4 < (w h 3)) → (mz_Ex cd_X0_nearestTwo call Q 6 [.ref h, .int a1, .int a2, .int (a3 + (nI 1)), .int a4] [] w))) :
    mz_Ex cd_X0_nearestTwo call Q 19 [.ref h, .int a1, .int a2, .int a3, .int a4] [] w := by
  rcases hh with rfl | rfl | rfl <;> exact mx_seg mo_X0_nearestTwo [6, 19] 24 K
set_option maxRecDepth 20000 in
theorem sg_X0_brings_0 {call : mz_C} {Q : mz_Q} {h : Nat} {a1 : Int32} {w : mz_M} (hh : h = 1 ∨ h = 9 ∨ h = 17)
    (K : vp_in a1 8 ∧ (vp_in a1 8 ∧ (((w (h + 2) a1.toNatClampNeg = nI 1) → ((¬ nI 2 = 0) ∧ (Q (some (.int ((w (h + 3) a1.toNatClampNeg) / (nI 2)))) w))) ∧ ((¬ w (h + 2) a1.toNatClampNeg = nI 1) → (((w (h + 2) a1.toNatClampNeg = nI 2) → (Q (some (.int ((w (h + 3) a1.toNatClampNeg) + (nI 2)))) w)) ∧ ((¬ w (h + 2) a1.toNatClampNeg = nI 2) → (((w (h + 2) a1.toNatClampNeg = nI 3) → ((¬ nI 2 = 0) ∧ (Q (some (.int (((w (h + 3) a1.toNatClampNeg) + (nI 2)) / (nI 2)))) w))) ∧ ((¬ w (h + 2) a1.toNatClampNeg = nI 3) → (((w (h + 2) a1.toNatClampNeg = nI 4) → ((¬ nI 2 = 0) ∧ ((¬ nI 7 = 0) ∧ (((((w h 1) - (w h 1) / (nI 7) * (nI 7)) = (nI 6)) → (Q (some (.int ((((w (h + 3) a1.toNatClampNeg) + (nI 2)) / (nI 2)) + (nI 9)))) w)) ∧ ((¬ ((w h 1) - (w h 1) / (nI 7) * (nI 7)) = (nI 6)) → (Q (some (.int ((((w (h + 3) a1.toNatClampNeg) + (nI 2)) / (nI 2)) + (nI 0)))) w)))))) ∧ ((¬ w (h + 2) a1.toNatClampNeg = nI 4) → (((w (h + 2) a1.toNatClampNeg = nI 5) → ((((w h 0) < (nI 5)) → (Q (some (.int (nI 0))) w)) ∧ ((¬ (w h 0) < (nI 5)) → (Q (some (.int (w (h + 3) a1.toNatClampNeg))) w)))) ∧ ((¬ w (h + 2) a1.toNatClampNeg = nI 5) → (((w (h + 2) a1.toNatClampNeg = nI 6) → ((¬ nI 2 = 0) ∧ (∃ (r1 : Int32) (w1 : mz_M), call 13 [.ref h, .int a1] w (some (.int r1)) w1 ∧ (Q (some (.int (((w (h + 3) a1.toNatClampNeg) / (nI 2)) + r1))) w1)))) ∧ ((¬ w (h + 2) a1.toNatClampNeg = nI 6) → (Q (some (.int (w (h + 3) a1.toNatClampNeg))) w))))))))))))))) :
    mz_Ex cd_X0_brings call Q 0 [.ref h, .int a1, .null] [] w := by
  rcases hh with rfl | rfl | rfl <;> exact mx_seg mo_X0_brings [] 26 K
set_option maxRecDepth 20000 in
theorem sg_X0_closeOnes_0 {call : mz_C} {Q : mz_Q} {h : Nat} {a1 : Int32} {w : mz_M} (hh : h = 1 ∨ h = 9 ∨ h = 17)
    (K : mz_Ex cd_X0_closeOnes call Q 4 [.ref h, .int a1, .int (nI 0), .int (nI 0)] [] w) :
    mz_Ex cd_X0_closeOnes call Q 0 [.ref h, .int a1, .null, .null] [] w := by
  rcases hh with rfl | rfl | rfl <;> exact mx_seg mo_X0_closeOnes [4] 5 K
set_option maxRecDepth 20000 in
theorem sg_X0_closeOnes_4 {call : mz_C} {Q : mz_Q} {h : Nat} {a1 a2 a3 : Int32} {w : mz_M} (hh : h = 1 ∨ h = 9 ∨ h = 17)
    (K : ((a3 < (w h 3)) → (((a3 = a1) → (mz_Ex cd_X0_closeOnes call Q 4 [.ref h, .int a1, .int a2, .int (a3 + (nI 1))] [] w)) ∧ ((¬ a3 = a1) → (vp_in ((a1 * (nI 8)) + a3) 64 ∧ ((((w (h + 4) ((a1 * (nI 8)) + a3).toNatClampNeg) < (nI 10)) → (mz_Ex cd_X0_closeOnes call Q 4 [.ref h, .int a1, .int a2, .int (a3 + (nI 1))] [] w)) ∧ ((¬ (w (h + 4) ((a1 * (nI 8)) + a3).toNatClampNeg) < (nI 10)) → (mz_Ex cd_X0_closeOnes call Q 4 [.ref h, .int a1, .int (a2 + (nI 1)), .int (a3 + (nI 1))] [] w))))))) ∧ ((¬ a3 < (w h 3)) → (Q (some (.int a2)) w))) :
    mz_Ex cd_X0_closeOnes call Q 4 [.ref h, .int a1, .int a2, .int a3] [] w := by
  rcases hh with rfl | rfl | rfl <;> exact mx_seg mo_X0_closeOnes [4] 21 K
set_option maxRecDepth 20000 in
theorem sg_X0_fades_0 {call : mz_C} {Q : mz_Q} {h : Nat} {a1 : Int32} {w : mz_M} (hh : h = 1 ∨ h = 9 ∨ h = 17)
    (K : vp_in a1 8 ∧ (((w (h + 2) a1.toNatClampNeg = nI 1) → (Q (some (.int (nI 0))) w)) ∧ ((¬ w (h + 2) a1.toNatClampNeg = nI 1) → (((w (h + 2) a1.toNatClampNeg = nI 2) → (Q (some (.int (nI 2))) w)) ∧ ((¬ w (h + 2) a1.toNatClampNeg = nI 2) → (((w (h + 2) a1.toNatClampNeg = nI 3) → (Q (some (.int (nI 1))) w)) ∧ ((¬ w (h + 2) a1.toNatClampNeg = nI 3) → (((w (h + 2) a1.toNatClampNeg = nI 4) → (Q (some (.int (nI 1))) w)) ∧ ((¬ w (h + 2) a1.toNatClampNeg = nI 4) → (((w (h + 2) a1.toNatClampNeg = nI 5) → ((¬ nI 3 = 0) ∧ (Q (some (.int (if (nI 0) < ((nI 3) - ((w h 0) / (nI 3))) then ((nI 3) - ((w h 0) / (nI 3))) else (nI 0)))) w))) ∧ ((¬ w (h + 2) a1.toNatClampNeg = nI 5) → (((w (h + 2) a1.toNatClampNeg = nI 6) → (Q (some (.int (nI 0))) w)) ∧ ((¬ w (h + 2) a1.toNatClampNeg = nI 6) → (Q (some (.int (nI 1))) w)))))))))))))) :
    mz_Ex cd_X0_fades call Q 0 [.ref h, .int a1] [] w := by
  rcases hh with rfl | rfl | rfl <;> exact mx_seg mo_X0_fades [] 15 K
set_option maxRecDepth 20000 in
theorem sg_X0_place_0 {call : mz_C} {Q : mz_Q} {h : Nat} {w : mz_M} (hh : h = 1 ∨ h = 9 ∨ h = 17)
    (K : (¬ nI 6 = 0) ∧ (Q (some (.int ((w h 1) - (w h 1) / (nI 6) * (nI 6)))) w)) :
    mz_Ex cd_X0_place call Q 0 [.ref h] [] w := by
  rcases hh with rfl | rfl | rfl <;> exact mx_seg mo_X0_place [] 6 K
set_option maxRecDepth 20000 in
theorem sg_X0_goingIn_0 {call : mz_C} {Q : mz_Q} {h : Nat} {w : mz_M} (hh : h = 1 ∨ h = 9 ∨ h = 17)
    (K : ∃ (r1 : Int32) (w1 : mz_M), call 15 [.ref h] w (some (.int r1)) w1 ∧ (vp_in r1 6 ∧ (∃ (r2 : Int32) (w2 : mz_M), call 3 [.ref h] w1 (some (.int r2)) w2 ∧ ((((w2 h 2) = (-1 : Int32)) → (Q (some (.int ((w1 (h + 1) r1.toNatClampNeg) &&& r2))) w2)) ∧ ((¬ (w2 h 2) = (-1 : Int32)) → (Q (some (.int (((w1 (h + 1) r1.toNatClampNeg) &&& r2) ||| ((nI 1) <<< ((w2 h 2) &&& 31))))) w2)))))) :
    mz_Ex cd_X0_goingIn call Q 0 [.ref h, .null] [] w := by
  rcases hh with rfl | rfl | rfl <;> exact mx_seg mo_X0_goingIn [] 21 K
set_option maxRecDepth 20000 in
theorem sg_X0_passTurns_0 {call : mz_C} {Q : mz_Q} {h : Nat} {a1 : Int32} {w : mz_M} (hh : h = 1 ∨ h = 9 ∨ h = 17)
    (K : mz_Ex cd_X0_passTurns call Q 2 [.ref h, .int a1, .int (nI 0)] [] w) :
    mz_Ex cd_X0_passTurns call Q 0 [.ref h, .int a1, .null] [] w := by
  rcases hh with rfl | rfl | rfl <;> exact mx_seg mo_X0_passTurns [2] 3 K
set_option maxRecDepth 20000 in
theorem sg_X0_passTurns_2 {call : mz_C} {Q : mz_Q} {h : Nat} {a1 a2 : Int32} {w : mz_M} (hh : h = 1 ∨ h = 9 ∨ h = 17)
    (K : ((a2 < a1) → (∃ w1, call 18 [.ref h] w none w1 ∧ (mz_Ex cd_X0_passTurns call Q 2 [.ref h, .int a1, .int (a2 + (nI 1))] [] w1))) ∧ ((¬ a2 < a1) → (Q none w))) :
    mz_Ex cd_X0_passTurns call Q 2 [.ref h, .int a1, .int a2] [] w := by
  rcases hh with rfl | rfl | rfl <;> exact mx_seg mo_X0_passTurns [2] 8 K
set_option maxRecDepth 20000 in
theorem sg_X0_passTurn_0 {call : mz_C} {Q : mz_Q} {h : Nat} {w : mz_M} (hh : h = 1 ∨ h = 9 ∨ h = 17)
    (K : ∃ (r1 : Int32) (w1 : mz_M), call 16 [.ref h] w (some (.int r1)) w1 ∧ (mz_Ex cd_X0_passTurn call Q 12 [.ref h, .int r1, .int (nI 0), .null] [] (mz_up w1 h (upd (w1 h) 2 (-1 : Int32))))) :
    mz_Ex cd_X0_passTurn call Q 0 [.ref h, .null, .null, .null] [] w := by
  rcases hh with rfl | rfl | rfl <;> exact mx_seg mo_X0_passTurn [12, 75, 87] 9 K
set_option maxRecDepth 20000 in
theorem sg_X0_passTurn_12 {call : mz_C} {Q : mz_Q} {h : Nat} {a1 a2 : Int32} {j3 : Value} {w : mz_M} (hh : h = 1 ∨ h = 9 ∨ h = 17)
    (K : ((a2 < (w h 3)) → (∃ (r1 : Int32) (w1 : mz_M), call 21 [.int a1, .int a2] w (some (.int r1)) w1 ∧ (((r1 = nI 0) → (vp_in a2 8 ∧ (∃ (r2 : Int32) (w2 : mz_M), call 14 [.ref h, .int a2] (mz_up w1 (h + 6) (upd (w1 (h + 6)) a2.toNatClampNeg (nI 0))) (some (.int r2)) w2 ∧ (vp_in a2 8 ∧ (∃ (r3 : Int32) (w3 : mz_M), call 21 [.int a1, .int a2] (mz_up w2 (h + 7) (upd (w2 (h + 7)) a2.toNatClampNeg r2)) (some (.int r3)) w3 ∧ (((r3 = nI 0) → (mz_Ex cd_X0_passTurn call Q 12 [.ref h, .int a1, .int (a2 + (nI 1)), j3] [] w3)) ∧ ((¬ r3 = nI 0) → (mz_Ex cd_X0_passTurn call Q 12 [.ref h, .int a1, .int (a2 + (nI 1)), j3] [] (mz_up w3 h (upd (w3 h) 2 a2)))))))))) ∧ ((¬ r1 = nI 0) → (∃ (r4 : Int32) (w4 : mz_M), call 12 [.ref h, .int a2] w1 (some (.int r4)) w4 ∧ (vp_in a2 8 ∧ (∃ (r5 : Int32) (w5 : mz_M), call 14 [.ref h, .int a2] (mz_up w4 (h + 6) (upd (w4 (h + 6)) a2.toNatClampNeg r4)) (some (.int r5)) w5 ∧ (vp_in a2 8 ∧ (∃ (r6 : Int32) (w6 : mz_M), call 21 [.int a1, .int a2] (mz_up w5 (h + 7) (upd (w5 (h + 7)) a2.toNatClampNeg r5)) (some (.int r6)) w6 ∧ (((r6 = nI 0) → (mz_Ex cd_X0_passTurn call Q 12 [.ref h, .int a1, .int (a2 + (nI 1)), j3] [] w6)) ∧ ((¬ r6 = nI 0) → (mz_Ex cd_X0_passTurn call Q 12 [.ref h, .int a1, .int (a2 + (nI 1)), j3] [] (mz_up w6 h (upd (w6 h) 2 a2)))))))))))))) ∧ ((¬ a2 < (w h 3)) → (mz_Ex cd_X0_passTurn call Q 75 [.ref h, .int a1, .int (nI 0), j3] [] w))) :
    mz_Ex cd_X0_passTurn call Q 12 [.ref h, .int a1, .int a2, j3] [] w := by
  rcases hh with rfl | rfl | rfl <;> exact mx_seg mo_X0_passTurn [12, 75, 87] 33 K
set_option maxRecDepth 20000 in
theorem sg_X0_passTurn_75 {call : mz_C} {Q : mz_Q} {h : Nat} {a1 a2 : Int32} {j3 : Value} {w : mz_M} (hh : h = 1 ∨ h = 9 ∨ h = 17)
    (K : ((a2 < (w h 3)) → (mz_Ex cd_X0_passTurn call Q 87 [.ref h, .int a1, .int a2, .int (a2 + (nI 1))] [] w)) ∧ ((¬ a2 < (w h 3)) → (Q none (mz_up w h (upd (w h) 1 (if ((w h 1) + (nI 1)) < (nI 99999) then ((w h 1) + (nI 1)) else (nI 99999))))))) :
    mz_Ex cd_X0_passTurn call Q 75 [.ref h, .int a1, .int a2, j3] [] w := by
  rcases hh with rfl | rfl | rfl <;> exact mx_seg mo_X0_passTurn [12, 75, 87] 14 K
set_option maxRecDepth 20000 in
theorem sg_X0_passTurn_87 {call : mz_C} {Q : mz_Q} {h : Nat} {a1 a2 a3 : Int32} {w : mz_M} (hh : h = 1 ∨ h = 9 ∨ h = 17)
    (K : ((a3 < (w h 3)) → (∃ (r1 : Int32) (w1 : mz_M), call 21 [.int a1, .int a2] w (some (.int r1)) w1 ∧ (((r1 = nI 0) → (∃ (r2 : Int32) (w2 : mz_M), call 20 [.ref h, .int a2, .int a3] w1 (some (.int r2)) w2 ∧ (∃ w3, call 5 [.ref h, .int a2, .int a3, .int r2] w2 none w3 ∧ (mz_Ex cd_X0_passTurn call Q 87 [.ref h, .int a1, .int a2, .int (a3 + (nI 1))] [] w3)))) ∧ ((¬ r1 = nI 0) → (∃ (r4 : Int32) (w4 : mz_M), call 21 [.int a1, .int a3] w1 (some (.int r4)) w4 ∧ (((r4 = nI 0) → (∃ (r5 : Int32) (w5 : mz_M), call 20 [.ref h, .int a2, .int a3] w4 (some (.int r5)) w5 ∧ (∃ w6, call 5 [.ref h, .int a2, .int a3, .int r5] w5 none w6 ∧ (mz_Ex cd_X0_passTurn call Q 87 [.ref h, .int a1, .int a2, .int (a3 + (nI 1))] [] w6)))) ∧ ((¬ r4 = nI 0) → (∃ (r7 : Int32) (w7 : mz_M), call 19 [.ref h, .int a2, .int a3] w4 (some (.int r7)) w7 ∧ (∃ w8, call 5 [.ref h, .int a2, .int a3, .int r7] w7 none w8 ∧ (mz_Ex cd_X0_passTurn call Q 87 [.ref h, .int a1, .int a2, .int (a3 + (nI 1))] [] w8)))))))))) ∧ ((¬ a3 < (w h 3)) → (mz_Ex cd_X0_passTurn call Q 75 [.ref h, .int a1, .int (a2 + (nI 1)), .int a3] [] w))) :
    mz_Ex cd_X0_passTurn call Q 87 [.ref h, .int a1, .int a2, .int a3] [] w := by
  rcases hh with rfl | rfl | rfl <;> exact mx_seg mo_X0_passTurn [12, 75, 87] 24 K
set_option maxRecDepth 20000 in
theorem sg_X0_grown_0 {call : mz_C} {Q : mz_Q} {h : Nat} {a1 a2 : Int32} {w : mz_M} (hh : h = 1 ∨ h = 9 ∨ h = 17)
    (K : ∃ (r1 : Int32) (w1 : mz_M), call 4 [.ref h, .int a1, .int a2] w (some (.int r1)) w1 ∧ (vp_in a1 8 ∧ (vp_in a2 8 ∧ (Q (some (.int (if ((r1 + (if (w1 (h + 6) a2.toNatClampNeg) < (w1 (h + 6) a1.toNatClampNeg) then (w1 (h + 6) a2.toNatClampNeg) else (w1 (h + 6) a1.toNatClampNeg))) + (w1 h 0)) < (nI 999) then ((r1 + (if (w1 (h + 6) a2.toNatClampNeg) < (w1 (h + 6) a1.toNatClampNeg) then (w1 (h + 6) a2.toNatClampNeg) else (w1 (h + 6) a1.toNatClampNeg))) + (w1 h 0)) else (nI 999)))) w1)))) :
    mz_Ex cd_X0_grown call Q 0 [.ref h, .int a1, .int a2] [] w := by
  rcases hh with rfl | rfl | rfl <;> exact mx_seg mo_X0_grown [] 21 K
set_option maxRecDepth 20000 in
theorem sg_X0_shrunk_0 {call : mz_C} {Q : mz_Q} {h : Nat} {a1 a2 : Int32} {w : mz_M} (hh : h = 1 ∨ h = 9 ∨ h = 17)
    (K : ∃ (r1 : Int32) (w1 : mz_M), call 4 [.ref h, .int a1, .int a2] w (some (.int r1)) w1 ∧ (vp_in a1 8 ∧ (vp_in a2 8 ∧ (Q (some (.int (if (nI 0) < (r1 - (if (w1 (h + 7) a1.toNatClampNeg) < (w1 (h + 7) a2.toNatClampNeg) then (w1 (h + 7) a2.toNatClampNeg) else (w1 (h + 7) a1.toNatClampNeg))) then (r1 - (if (w1 (h + 7) a1.toNatClampNeg) < (w1 (h + 7) a2.toNatClampNeg) then (w1 (h + 7) a2.toNatClampNeg) else (w1 (h + 7) a1.toNatClampNeg))) else (nI 0)))) w1)))) :
    mz_Ex cd_X0_shrunk call Q 0 [.ref h, .int a1, .int a2] [] w := by
  rcases hh with rfl | rfl | rfl <;> exact mx_seg mo_X0_shrunk [] 18 K
set_option maxRecDepth 20000 in
theorem sg_X0_has_0 {call : mz_C} {Q : mz_Q} {a0 a1 : Int32} {w : mz_M}
    (K : ((((a0 >>> (a1 &&& 31)) &&& (nI 1)) = (nI 1)) → (((nI 1 = 0) ∨ (nI 1 = 1)) ∧ Q (some (.int (nI 1))) w)) ∧ ((¬ ((a0 >>> (a1 &&& 31)) &&& (nI 1)) = (nI 1)) → (((nI 0 = 0) ∨ (nI 0 = 1)) ∧ Q (some (.int (nI 0))) w))) :
    mz_Ex cd_X0_has call Q 0 [.int a0, .int a1] [] w := mx_seg mo_X0_has [] 11 K
set_option maxRecDepth 20000 in
theorem sg_X0_widened_0 {call : mz_C} {Q : mz_Q} {h : Nat} {a1 a2 : Int32} {w : mz_M} (hh : h = 1 ∨ h = 9 ∨ h = 17)
    (K : mz_Ex cd_X0_widened call Q 5 [.ref h, .int a1, .int a2, .int a1, .int (nI 0), .null] [] w) :
    mz_Ex cd_X0_widened call Q 0 [.ref h, .int a1, .int a2, .null, .null, .null] [] w := by
  rcases hh with rfl | rfl | rfl <;> exact mx_seg mo_X0_widened [5, 17] 5 K
set_option maxRecDepth 20000 in
theorem sg_X0_widened_5 {call : mz_C} {Q : mz_Q} {h : Nat} {a1 a2 a3 a4 : Int32} {j5 : Value} {w : mz_M} (hh : h = 1 ∨ h = 9 ∨ h = 17)
    (K : ((a4 < (w h 3)) → (mz_Ex cd_X0_widened call Q 17 [.ref h, .int a1, .int a2, .int a3, .int a4, .int (nI 0)] [] w)) ∧ ((¬ a4 < (w h 3)) → (Q (some (.int a3)) w))) :
    mz_Ex cd_X0_widened call Q 5 [.ref h, .int a1, .int a2, .int a3, .int a4, j5] [] w := by
  rcases hh with rfl | rfl | rfl <;> exact mx_seg mo_X0_widened [5, 17] 7 K
set_option maxRecDepth 20000 in
theorem sg_X0_widened_17 {call : mz_C} {Q : mz_Q} {h : Nat} {a1 a2 a3 a4 a5 : Int32} {w : mz_M} (hh : h = 1 ∨ h = 9 ∨ h = 17)
    (K : ((a5 < (w h 3)) → (∃ (r1 : Int32) (w1 : mz_M), call 21 [.int a1, .int a4] w (some (.int r1)) w1 ∧ (((r1 = nI 0) → (mz_Ex cd_X0_widened call Q 17 [.ref h, .int a1, .int a2, .int a3, .int a4, .int (a5 + (nI 1))] [] w1)) ∧ ((¬ r1 = nI 0) → (∃ (r2 : Int32) (w2 : mz_M), call 4 [.ref h, .int a4, .int a5] w1 (some (.int r2)) w2 ∧ (((r2 < a2) → (mz_Ex cd_X0_widened call Q 17 [.ref h, .int a1, .int a2, .int a3, .int a4, .int (a5 + (nI 1))] [] w2)) ∧ ((¬ r2 < a2) → (mz_Ex cd_X0_widened call Q 17 [.ref h, .int a1, .int a2, .int (a3 ||| ((nI 1) <<< (a5 &&& 31))), .int a4, .int (a5 + (nI 1))] [] w2)))))))) ∧ ((¬ a5 < (w h 3)) → (mz_Ex cd_X0_widened call Q 5 [.ref h, .int a1, .int a2, .int a3, .int (a4 + (nI 1)), .int a5] [] w))) :
    mz_Ex cd_X0_widened call Q 17 [.ref h, .int a1, .int a2, .int a3, .int a4, .int a5] [] w := by
  rcases hh with rfl | rfl | rfl <;> exact mx_seg mo_X0_widened [5, 17] 23 K
set_option maxRecDepth 20000 in
theorem sg_X0_stepsBetween_0 {call : mz_C} {Q : mz_Q} {h : Nat} {a1 a2 a3 : Int32} {w : mz_M} (hh : h = 1 ∨ h = 9 ∨ h = 17)
    (K : mz_Ex cd_X0_stepsBetween call Q 8 [.ref h, .int a1, .int a2, .int a3, .int ((nI 1) <<< (a1 &&& 31)), .int (nI 1)] [] w) :
    mz_Ex cd_X0_stepsBetween call Q 0 [.ref h, .int a1, .int a2, .int a3, .null, .null] [] w := by
  rcases hh with rfl | rfl | rfl <;> exact mx_seg mo_X0_stepsBetween [8] 7 K
set_option maxRecDepth 20000 in
theorem sg_X0_stepsBetween_8 {call : mz_C} {Q : mz_Q} {h : Nat} {a2 a3 a4 a5 : Int32} {j1 : Value} {w : mz_M} (hh : h = 1 ∨ h = 9 ∨ h = 17)
    (K : ((a5 < (w h 3)) → (∃ (r1 : Int32) (w1 : mz_M), call 22 [.ref h, .int a4, .int a3] w (some (.int r1)) w1 ∧ (∃ (r2 : Int32) (w2 : mz_M), call 21 [.int r1, .int a2] w1 (some (.int r2)) w2 ∧ (((r2 = nI 0) → (mz_Ex cd_X0_stepsBetween call Q 8 [.ref h, j1, .int a2, .int a3, .int r1, .int (a5 + (nI 1))] [] w2)) ∧ ((¬ r2 = nI 0) → (Q (some (.int a5)) w2)))))) ∧ ((¬ a5 < (w h 3)) → (Q (some (.int (nI 0))) w))) :
    mz_Ex cd_X0_stepsBetween call Q 8 [.ref h, j1, .int a2, .int a3, .int a4, .int a5] [] w := by
  rcases hh with rfl | rfl | rfl <;> exact mx_seg mo_X0_stepsBetween [8] 16 K
set_option maxRecDepth 20000 in
theorem sg_X0_clanOf_0 {call : mz_C} {Q : mz_Q} {h : Nat} {a1 a2 : Int32} {w : mz_M} (hh : h = 1 ∨ h = 9 ∨ h = 17)
    (K : mz_Ex cd_X0_clanOf call Q 7 [.ref h, .int a1, .int a2, .int ((nI 1) <<< (a1 &&& 31)), .int (nI 1), .null] [] w) :
    mz_Ex cd_X0_clanOf call Q 0 [.ref h, .int a1, .int a2, .null, .null, .null] [] w := by
  rcases hh with rfl | rfl | rfl <;> exact mx_seg mo_X0_clanOf [7] 7 K
set_option maxRecDepth 20000 in
theorem sg_X0_clanOf_7 {call : mz_C} {Q : mz_Q} {h : Nat} {a2 a3 a4 : Int32} {j1 j5 : Value} {w : mz_M} (hh : h = 1 ∨ h = 9 ∨ h = 17)
    (K : ((a4 < (w h 3)) → (∃ (r1 : Int32) (w1 : mz_M), call 22 [.ref h, .int a3, .int a2] w (some (.int r1)) w1 ∧ (((r1 = a3) → (Q (some (.int a3)) w1)) ∧ ((¬ r1 = a3) → (mz_Ex cd_X0_clanOf call Q 7 [.ref h, j1, .int a2, .int r1, .int (a4 + (nI 1)), .int r1] [] w1))))) ∧ ((¬ a4 < (w h 3)) → (Q (some (.int a3)) w))) :
    mz_Ex cd_X0_clanOf call Q 7 [.ref h, j1, .int a2, .int a3, .int a4, j5] [] w := by
  rcases hh with rfl | rfl | rfl <;> exact mx_seg mo_X0_clanOf [7] 17 K
set_option maxRecDepth 20000 in
theorem sg_X0_clanCount_0 {call : mz_C} {Q : mz_Q} {h : Nat} {a1 : Int32} {w : mz_M} (hh : h = 1 ∨ h = 9 ∨ h = 17)
    (K : mz_Ex cd_X0_clanCount call Q 7 [.ref h, .int a1, .int (nI 0), .int (nI 0), .int (nI 0)] [] w) :
    mz_Ex cd_X0_clanCount call Q 0 [.ref h, .int a1, .null, .null, .null] [] w := by
  rcases hh with rfl | rfl | rfl <;> exact mx_seg mo_X0_clanCount [7] 7 K
set_option maxRecDepth 20000 in
theorem sg_X0_clanCount_7 {call : mz_C} {Q : mz_Q} {h : Nat} {a1 a2 a3 a4 : Int32} {w : mz_M} (hh : h = 1 ∨ h = 9 ∨ h = 17)
    (K : ((a4 < (w h 3)) → (∃ (r1 : Int32) (w1 : mz_M), call 21 [.int a2, .int a4] w (some (.int r1)) w1 ∧ (((r1 = nI 0) → (∃ (r2 : Int32) (w2 : mz_M), call 24 [.ref h, .int a4, .int a1] w1 (some (.int r2)) w2 ∧ (mz_Ex cd_X0_clanCount call Q 7 [.ref h, .int a1, .int (a2 ||| r2), .int (a3 + (nI 1)), .int (a4 + (nI 1))] [] w2))) ∧ ((¬ r1 = nI 0) → (mz_Ex cd_X0_clanCount call Q 7 [.ref h, .int a1, .int a2, .int a3, .int (a4 + (nI 1))] [] w1))))) ∧ ((¬ a4 < (w h 3)) → (Q (some (.int a3)) w))) :
    mz_Ex cd_X0_clanCount call Q 7 [.ref h, .int a1, .int a2, .int a3, .int a4] [] w := by
  rcases hh with rfl | rfl | rfl <;> exact mx_seg mo_X0_clanCount [7] 19 K
set_option maxRecDepth 20000 in
theorem sg_X0_greatestTie_0 {call : mz_C} {Q : mz_Q} {h : Nat} {a1 a2 : Int32} {w : mz_M} (hh : h = 1 ∨ h = 9 ∨ h = 17)
    (K : mz_Ex cd_X0_greatestTie call Q 5 [.ref h, .int a1, .int a2, .int (nI 0), .int (nI 0), .null, .null] [] w) :
    mz_Ex cd_X0_greatestTie call Q 0 [.ref h, .int a1, .int a2, .null, .null, .null, .null] [] w := by
  rcases hh with rfl | rfl | rfl <;> exact mx_seg mo_X0_greatestTie [5, 20] 5 K
set_option maxRecDepth 20000 in
theorem sg_X0_greatestTie_5 {call : mz_C} {Q : mz_Q} {h : Nat} {a1 a2 a3 a4 : Int32} {j5 j6 : Value} {w : mz_M} (hh : h = 1 ∨ h = 9 ∨ h = 17)
    (K : ((a4 < (w h 3)) → (mz_Ex cd_X0_greatestTie call Q 20 [.ref h, .int a1, .int a2, .int a3, .int a4, .int (a4 + (nI 1)), j6] [] w)) ∧ ((¬ a4 < (w h 3)) → (Q (some (.int a3)) w))) :
    mz_Ex cd_X0_greatestTie call Q 5 [.ref h, .int a1, .int a2, .int a3, .int a4, j5, j6] [] w := by
  rcases hh with rfl | rfl | rfl <;> exact mx_seg mo_X0_greatestTie [5, 20] 9 K
set_option maxRecDepth 20000 in
theorem sg_X0_greatestTie_20 {call : mz_C} {Q : mz_Q} {h : Nat} {a1 a2 a3 a4 a5 : Int32} {j6 : Value} {w : mz_M} (hh : h = 1 ∨ h = 9 ∨ h = 17)
    (K : ((a5 < (w h 3)) → (∃ (r1 : Int32) (w1 : mz_M), call 4 [.ref h, .int a4, .int a5] w (some (.int r1)) w1 ∧ (((a3 < r1) → (∃ (r2 : Int32) (w2 : mz_M), call 24 [.ref h, .int a1, .int r1] w1 (some (.int r2)) w2 ∧ (∃ (r3 : Int32) (w3 : mz_M), call 21 [.int r2, .int a2] w2 (some (.int r3)) w3 ∧ (((r3 = nI 0) → (mz_Ex cd_X0_greatestTie call Q 20 [.ref h, .int a1, .int a2, .int a3, .int a4, .int (a5 + (nI 1)), .int r1] [] w3)) ∧ ((¬ r3 = nI 0) → (mz_Ex cd_X0_greatestTie call Q 20 [.ref h, .int a1, .int a2, .int r1, .int a4, .int (a5 + (nI 1)), .int r1] [] w3)))))) ∧ ((¬ a3 < r1) → (mz_Ex cd_X0_greatestTie call Q 20 [.ref h, .int a1, .int a2, .int a3, .int a4, .int (a5 + (nI 1)), .int r1] [] w1))))) ∧ ((¬ a5 < (w h 3)) → (mz_Ex cd_X0_greatestTie call Q 5 [.ref h, .int a1, .int a2, .int a3, .int (a4 + (nI 1)), .int a5, j6] [] w))) :
    mz_Ex cd_X0_greatestTie call Q 20 [.ref h, .int a1, .int a2, .int a3, .int a4, .int a5, j6] [] w := by
  rcases hh with rfl | rfl | rfl <;> exact mx_seg mo_X0_greatestTie [5, 20] 24 K
set_option maxRecDepth 20000 in
theorem sg_X0_drawn_0 {call : mz_C} {Q : mz_Q} {h : Nat} {w : mz_M} (hh : h = 1 ∨ h = 9 ∨ h = 17)
    (K : let v1 : mz_M := (mz_up w h (upd (w h) 4 (((w h 4) * (nI 1103515245)) + (nI 12345)))); (Q (some (.int (((v1 h 4).toUInt32 >>> ((nI 8).toUInt32 &&& Int32.toUInt32 31)).toInt32))) v1)) :
    mz_Ex cd_X0_drawn call Q 0 [.ref h] [] w := by
  rcases hh with rfl | rfl | rfl <;> exact mx_seg mo_X0_drawn [] 14 K
set_option maxRecDepth 20000 in
theorem sg_X0_spotsHeld_0 {call : mz_C} {Q : mz_Q} {h : Nat} {w : mz_M} (hh : h = 1 ∨ h = 9 ∨ h = 17)
    (K : mz_Ex cd_X0_spotsHeld call Q 4 [.ref h, .int (nI 0), .int (nI 0)] [] w) :
    mz_Ex cd_X0_spotsHeld call Q 0 [.ref h, .null, .null] [] w := by
  rcases hh with rfl | rfl | rfl <;> exact mx_seg mo_X0_spotsHeld [4] 5 K
set_option maxRecDepth 20000 in
theorem sg_X0_spotsHeld_4 {call : mz_C} {Q : mz_Q} {h : Nat} {a1 a2 : Int32} {w : mz_M} (hh : h = 1 ∨ h = 9 ∨ h = 17)
    (K : ((a2 < (nI 10)) → (vp_in a2 10 ∧ ((((w (h + 5) a2.toNatClampNeg) = (-1 : Int32)) → (mz_Ex cd_X0_spotsHeld call Q 4 [.ref h, .int a1, .int (a2 + (nI 1))] [] w)) ∧ ((¬ (w (h + 5) a2.toNatClampNeg) = (-1 : Int32)) → (mz_Ex cd_X0_spotsHeld call Q 4 [.ref h, .int (a1 + (nI 1)), .int (a2 + (nI 1))] [] w))))) ∧ ((¬ a2 < (nI 10)) → (Q (some (.int a1)) w))) :
    mz_Ex cd_X0_spotsHeld call Q 4 [.ref h, .int a1, .int a2] [] w := by
  rcases hh with rfl | rfl | rfl <;> exact mx_seg mo_X0_spotsHeld [4] 13 K
set_option maxRecDepth 20000 in
theorem sg_X1_isMissing_0 {call : mz_C} {Q : mz_Q} {k : Nat} {w : mz_M} (hk : k = 28 ∨ k = 30 ∨ k = 32 ∨ k = 34)
    (K : (((w k 0) = nI 0) → (((nI 1 = 0) ∨ (nI 1 = 1)) ∧ Q (some (.int (nI 1))) w)) ∧ ((¬ (w k 0) = nI 0) → (((nI 0 = 0) ∨ (nI 0 = 1)) ∧ Q (some (.int (nI 0))) w))) :
    mz_Ex cd_X1_isMissing call Q 0 [.ref k] [] w := by
  rcases hk with rfl | rfl | rfl | rfl <;> exact mx_seg mo_X1_isMissing [] 7 K
set_option maxRecDepth 20000 in
theorem sg_X1_layOut_0 {call : mz_C} {Q : mz_Q} {k : Nat} {a1 a2 : Int32} {w : mz_M} (hk : k = 28 ∨ k = 30 ∨ k = 32 ∨ k = 34)
    (K : let v1 : mz_M := (mz_up w k (upd (w k) 0 a1)); (∃ w2, call 213 [.ref (k + 1), .int (nI 0)] (mz_up v1 k (upd (v1 k) 1 a2)) none w2 ∧ (Q none w2))) :
    mz_Ex cd_X1_layOut call Q 0 [.ref k, .int a1, .int a2] [] w := by
  rcases hk with rfl | rfl | rfl | rfl <;> exact mx_seg mo_X1_layOut [] 12 K
set_option maxRecDepth 20000 in
theorem sg_X1_enter_0 {call : mz_C} {Q : mz_Q} {k : Nat} {a1 a2 : Int32} {w : mz_M} (hk : k = 28 ∨ k = 30 ∨ k = 32 ∨ k = 34)
    (K : (((w k 0) = (nI 8)) → (vp_in a1 40 ∧ (Q none (mz_up w (k + 1) (upd (w (k + 1)) a1.toNatClampNeg a2.toInt8.toInt32))))) ∧ ((¬ (w k 0) = (nI 8)) → ((((w k 0) = (nI 16)) → (vp_in a1 40 ∧ (Q none (mz_up w (k + 1) (upd (w (k + 1)) a1.toNatClampNeg a2.toInt16.toInt32))))) ∧ ((¬ (w k 0) = (nI 16)) → (vp_in a1 40 ∧ (Q none (mz_up w (k + 1) (upd (w (k + 1)) a1.toNatClampNeg a2)))))))) :
    mz_Ex cd_X1_enter call Q 0 [.ref k, .int a1, .int a2] [] w := by
  rcases hk with rfl | rfl | rfl | rfl <;> exact mx_seg mo_X1_enter [] 17 K
set_option maxRecDepth 20000 in
theorem sg_X1_toldSize_0 {call : mz_C} {Q : mz_Q} {k : Nat} {w : mz_M} (hk : k = 28 ∨ k = 30 ∨ k = 32 ∨ k = 34)
    (K : mz_Ex cd_X1_toldSize call Q 5 [.ref k, .int (w k 1)] [] w) :
    mz_Ex cd_X1_toldSize call Q 0 [.ref k, .null] [] w := by
  rcases hk with rfl | rfl | rfl | rfl <;> exact mx_seg mo_X1_toldSize [5] 4 K
set_option maxRecDepth 20000 in
theorem sg_X1_toldSize_5 {call : mz_C} {Q : mz_Q} {k : Nat} {a1 : Int32} {w : mz_M} (hk : k = 28 ∨ k = 30 ∨ k = 32 ∨ k = 34)
    (K : ((nI 0 < a1) → (vp_in (a1 - (nI 1)) 40 ∧ ((((w (k + 1) (a1 - (nI 1)).toNatClampNeg) = (-1 : Int32)) → (mz_Ex cd_X1_toldSize call Q 5 [.ref k, .int (a1 + ((-1 : Int32)))] [] w)) ∧ ((¬ (w (k + 1) (a1 - (nI 1)).toNatClampNeg) = (-1 : Int32)) → (Q (some (.int a1)) w))))) ∧ ((¬ nI 0 < a1) → (Q (some (.int a1)) w))) :
    mz_Ex cd_X1_toldSize call Q 5 [.ref k, .int a1] [] w := by
  rcases hk with rfl | rfl | rfl | rfl <;> exact mx_seg mo_X1_toldSize [5] 13 K
set_option maxRecDepth 20000 in
theorem sg_X1_hasRun_0 {call : mz_C} {Q : mz_Q} {k : Nat} {a1 a2 : Int32} {w : mz_M} (hk : k = 28 ∨ k = 30 ∨ k = 32 ∨ k = 34)
    (K : ((a1 < nI 0) → (((nI 0 = 0) ∨ (nI 0 = 1)) ∧ Q (some (.int (nI 0))) w)) ∧ ((¬ a1 < nI 0) → (((a2 < nI 0) → (((nI 0 = 0) ∨ (nI 0 = 1)) ∧ Q (some (.int (nI 0))) w)) ∧ ((¬ a2 < nI 0) → ((((w k 1) < a1) → (((nI 0 = 0) ∨ (nI 0 = 1)) ∧ Q (some (.int (nI 0))) w)) ∧ ((¬ (w k 1) < a1) → (((((w k 1) - a1) < a2) → (((nI 0 = 0) ∨ (nI 0 = 1)) ∧ Q (some (.int (nI 0))) w)) ∧ ((¬ ((w k 1) - a1) < a2) → (((nI 1 = 0) ∨ (nI 1 = 1)) ∧ Q (some (.int (nI 1))) w))))))))) :
    mz_Ex cd_X1_hasRun call Q 0 [.ref k, .int a1, .int a2] [] w := by
  rcases hk with rfl | rfl | rfl | rfl <;> exact mx_seg mo_X1_hasRun [] 18 K
set_option maxRecDepth 20000 in
theorem sg_X2_take_0 {call : mz_C} {Q : mz_Q} {a1 : Int32} {w : mz_M}
    (K : (((w 25 1) < (nI 120)) → (vp_in (w 25 1) 120 ∧ (let v1 : mz_M := (mz_up w 26 (upd (w 26) (w 25 1).toNatClampNeg a1)); (Q none (mz_up v1 25 (upd (v1 25) 1 ((v1 25 1) + (nI 1)))))))) ∧ ((¬ (w 25 1) < (nI 120)) → (Q none w))) :
    mz_Ex cd_X2_take call Q 0 [.ref 25, .int a1] [] w := mx_seg mo_X2_take [] 18 K
set_option maxRecDepth 20000 in
theorem sg_X2_tellInto_0 {call : mz_C} {Q : mz_Q} {w : mz_M}
    (K : ∃ w1, call 44 [.ref 25] (mz_up w 25 (upd (w 25) 4 (nI 0))) none w1 ∧ (mz_Ex cd_X2_tellInto call Q 11 [.ref 25, .ref 9, .int (nI 1)] [] w1)) :
    mz_Ex cd_X2_tellInto call Q 0 [.ref 25, .ref 9, .null] [] w := mx_seg mo_X2_tellInto [11] 8 K
set_option maxRecDepth 20000 in
theorem sg_X2_tellInto_11 {call : mz_C} {Q : mz_Q} {a2 : Int32} {w : mz_M}
    (K : (((nI 120) < a2) → (Q (some (.int ((-1 : Int32) - (w 25 3)))) w)) ∧ ((¬ (nI 120) < a2) → (∃ (r1 : Int32) (w1 : mz_M), call 36 [.ref 25, .ref 9] w (some (.int r1)) w1 ∧ (((r1 = nI 0) → (Q (some (.int ((-1 : Int32) - (w1 25 3)))) w1)) ∧ ((¬ r1 = nI 0) → ((((w1 25 2) = nI 0) → (Q (some (.int a2)) w1)) ∧ ((¬ (w1 25 2) = nI 0) → ((((w1 25 2) = (nI 3)) → (∃ w2, call 44 [.ref 25] w1 none w2 ∧ (mz_Ex cd_X2_tellInto call Q 11 [.ref 25, .ref 9, .int (a2 + (nI 1))] [] w2))) ∧ ((¬ (w1 25 2) = (nI 3)) → (Q (some (.int ((-1 : Int32) - (w1 25 3)))) w1)))))))))) :
    mz_Ex cd_X2_tellInto call Q 11 [.ref 25, .ref 9, .int a2] [] w := mx_seg mo_X2_tellInto [11] 20 K
set_option maxRecDepth 20000 in
theorem sg_X2_tellItem_0 {call : mz_C} {Q : mz_Q} {w : mz_M}
    (K : mz_Ex cd_X2_tellItem call Q 2 [.ref 25, .ref 9, .int (nI 0)] [] w) :
    mz_Ex cd_X2_tellItem call Q 0 [.ref 25, .ref 9, .null] [] w := mx_seg mo_X2_tellItem [2] 3 K
set_option maxRecDepth 20000 in
theorem sg_X2_tellItem_2 {call : mz_C} {Q : mz_Q} {a2 : Int32} {w : mz_M}
    (K : ((a2 < (nI 7)) → (∃ (r1 : Nat) (w1 : mz_M), call 41 [.int a2] w (some (.ref r1)) w1 ∧ (∃ (r2 : Int32) (w2 : mz_M), call 42 [.ref 25, .ref r1] w1 (some (.int r2)) w2 ∧ (((r2 = nI 0) → (mz_Ex cd_X2_tellItem call Q 2 [.ref 25, .ref 9, .int (a2 + (nI 1))] [] w2)) ∧ ((¬ r2 = nI 0) → (∃ (r3 : Int32) (w3 : mz_M), call 1 [.ref 9] w2 (some (.int r3)) w3 ∧ (((r3 = nI 0) → (∃ (r4 : Int32) (w4 : mz_M), call 2 [.ref 9, .int a2] w3 (some (.int r4)) w4 ∧ (∃ (r5 : Int32) (w5 : mz_M), call 37 [.ref 25, .ref 9, .int r4] w4 (some (.int r5)) w5 ∧ (((r5 = nI 0) → (((nI 0 = 0) ∨ (nI 0 = 1)) ∧ Q (some (.int (nI 0))) w5)) ∧ ((¬ r5 = nI 0) → (((nI 1 = 0) ∨ (nI 1 = 1)) ∧ Q (some (.int (nI 1))) w5)))))) ∧ ((¬ r3 = nI 0) → (((nI 0 = 0) ∨ (nI 0 = 1)) ∧ Q (some (.int (nI 0))) w3))))))))) ∧ ((¬ a2 < (nI 7)) → (∃ (r6 : Int32) (w6 : mz_M), call 42 [.ref 25, .ref 69] w (some (.int r6)) w6 ∧ (((r6 = nI 0) → (∃ (r7 : Int32) (w7 : mz_M), call 42 [.ref 25, .ref 70] w6 (some (.int r7)) w7 ∧ (((r7 = nI 0) → (((nI 0 = 0) ∨ (nI 0 = 1)) ∧ Q (some (.int (nI 0))) w7)) ∧ ((¬ r7 = nI 0) → (∃ (r8 : Int32) (w8 : mz_M), call 40 [.ref 25, .ref 9] w7 (some (.int r8)) w8 ∧ (((r8 = nI 0) → (((nI 0 = 0) ∨ (nI 0 = 1)) ∧ Q (some (.int (nI 0))) w8)) ∧ ((¬ r8 = nI 0) → (((nI 1 = 0) ∨ (nI 1 = 1)) ∧ Q (some (.int (nI 1))) w8)))))))) ∧ ((¬ r6 = nI 0) → (∃ (r9 : Int32) (w9 : mz_M), call 39 [.ref 25, .ref 9] w6 (some (.int r9)) w9 ∧ (((r9 = 0) ∨ (r9 = 1)) ∧ Q (some (.int r9)) w9))))))) :
    mz_Ex cd_X2_tellItem call Q 2 [.ref 25, .ref 9, .int a2] [] w := mx_seg mo_X2_tellItem [2] 22 K
set_option maxRecDepth 20000 in
theorem sg_X2_tellPerson_0 {call : mz_C} {Q : mz_Q} {a2 : Int32} {w : mz_M}
    (K : ∃ w1, call 44 [.ref 25] w none w1 ∧ (∃ (r2 : Int32) (w2 : mz_M), call 42 [.ref 25, .ref 67] w1 (some (.int r2)) w2 ∧ (((r2 = nI 0) → (∃ (r3 : Int32) (w3 : mz_M), call 42 [.ref 25, .ref 68] w2 (some (.int r3)) w3 ∧ (((r3 = nI 0) → (((nI 1 = 0) ∨ (nI 1 = 1)) ∧ Q (some (.int (nI 1))) w3)) ∧ ((¬ r3 = nI 0) → (∃ (r4 : Int32) (w4 : mz_M), call 38 [.ref 25, .ref 9, .int a2] w3 (some (.int r4)) w4 ∧ (((r4 = nI 0) → (((nI 0 = 0) ∨ (nI 0 = 1)) ∧ Q (some (.int (nI 0))) w4)) ∧ ((¬ r4 = nI 0) → (((nI 1 = 0) ∨ (nI 1 = 1)) ∧ Q (some (.int (nI 1))) w4)))))))) ∧ ((¬ r2 = nI 0) → (∃ w5, call 44 [.ref 25] w2 none w5 ∧ (∃ (r6 : Int32) (w6 : mz_M), call 43 [.ref 25, .int (nI 99)] w5 (some (.int r6)) w6 ∧ (((r6 = nI 0) → (((nI 0 = 0) ∨ (nI 0 = 1)) ∧ Q (some (.int (nI 0))) w6)) ∧ ((¬ r6 = nI 0) → (vp_in a2 8 ∧ (∃ w7, call 44 [.ref 25] (mz_up w6 12 (upd (w6 12) a2.toNatClampNeg (w6 25 5))) none w7 ∧ (∃ (r8 : Int32) (w8 : mz_M), call 42 [.ref 25, .ref 68] w7 (some (.int r8)) w8 ∧ (((r8 = nI 0) → (((nI 1 = 0) ∨ (nI 1 = 1)) ∧ Q (some (.int (nI 1))) w8)) ∧ ((¬ r8 = nI 0) → (∃ (r9 : Int32) (w9 : mz_M), call 38 [.ref 25, .ref 9, .int a2] w8 (some (.int r9)) w9 ∧ (((r9 = nI 0) → (((nI 0 = 0) ∨ (nI 0 = 1)) ∧ Q (some (.int (nI 0))) w9)) ∧ ((¬ r9 = nI 0) → (((nI 1 = 0) ∨ (nI 1 = 1)) ∧ Q (some (.int (nI 1))) w9))))))))))))))))) :
    mz_Ex cd_X2_tellPerson call Q 0 [.ref 25, .ref 9, .int a2] [] w := mx_seg mo_X2_tellPerson [] 33 K
set_option maxRecDepth 20000 in
theorem sg_X2_tellKin_0 {call : mz_C} {Q : mz_Q} {a2 : Int32} {w : mz_M}
    (K : ∃ w1, call 44 [.ref 25] w none w1 ∧ (∃ (r2 : Int32) (w2 : mz_M), call 43 [.ref 25, .int (a2 - (nI 1))] w1 (some (.int r2)) w2 ∧ (((r2 = nI 0) → (((nI 0 = 0) ∨ (nI 0 = 1)) ∧ Q (some (.int (nI 0))) w2)) ∧ ((¬ r2 = nI 0) → (∃ w3, call 44 [.ref 25] w2 none w3 ∧ (∃ (r4 : Int32) (w4 : mz_M), call 43 [.ref 25, .int (nI 999)] w3 (some (.int r4)) w4 ∧ (((r4 = nI 0) → (((nI 0 = 0) ∨ (nI 0 = 1)) ∧ Q (some (.int (nI 0))) w4)) ∧ ((¬ r4 = nI 0) → (∃ w5, call 5 [.ref 9, .int a2, .int (w2 25 5), .int (w4 25 5)] w4 none w5 ∧ (∃ w6, call 44 [.ref 25] w5 none w6 ∧ (((nI 1 = 0) ∨ (nI 1 = 1)) ∧ Q (some (.int (nI 1))) w6))))))))))) :
    mz_Ex cd_X2_tellKin call Q 0 [.ref 25, .ref 9, .int a2, .null] [] w := mx_seg mo_X2_tellKin [] 28 K
set_option maxRecDepth 20000 in
theorem sg_X2_tellList_0 {call : mz_C} {Q : mz_Q} {w : mz_M}
    (K : ∃ w1, call 44 [.ref 25] w none w1 ∧ (∃ (r2 : Int32) (w2 : mz_M), call 43 [.ref 25, .int (nI 5)] w1 (some (.int r2)) w2 ∧ (((r2 = nI 0) → (((nI 0 = 0) ∨ (nI 0 = 1)) ∧ Q (some (.int (nI 0))) w2)) ∧ ((¬ r2 = nI 0) → (∃ w3, call 44 [.ref 25] w2 none w3 ∧ (∃ (r4 : Int32) (w4 : mz_M), call 43 [.ref 25, .int (nI 255)] w3 (some (.int r4)) w4 ∧ (((r4 = nI 0) → (((nI 0 = 0) ∨ (nI 0 = 1)) ∧ Q (some (.int (nI 0))) w4)) ∧ ((¬ r4 = nI 0) → (vp_in (w2 25 5) 6 ∧ (∃ w5, call 44 [.ref 25] (mz_up w4 10 (upd (w4 10) (w2 25 5).toNatClampNeg (w4 25 5))) none w5 ∧ (((nI 1 = 0) ∨ (nI 1 = 1)) ∧ Q (some (.int (nI 1))) w5))))))))))) :
    mz_Ex cd_X2_tellList call Q 0 [.ref 25, .ref 9, .null] [] w := mx_seg mo_X2_tellList [] 26 K
set_option maxRecDepth 20000 in
theorem sg_X2_tellDamp_0 {call : mz_C} {Q : mz_Q} {w : mz_M}
    (K : ∃ w1, call 44 [.ref 25] w none w1 ∧ (∃ (r2 : Int32) (w2 : mz_M), call 43 [.ref 25, .int (nI 9)] w1 (some (.int r2)) w2 ∧ (((r2 = nI 0) → (((nI 0 = 0) ∨ (nI 0 = 1)) ∧ Q (some (.int (nI 0))) w2)) ∧ ((¬ r2 = nI 0) → (∃ w3, call 44 [.ref 25] (mz_up w2 9 (upd (w2 9) 0 (w2 25 5))) none w3 ∧ (((nI 1 = 0) ∨ (nI 1 = 1)) ∧ Q (some (.int (nI 1))) w3)))))) :
    mz_Ex cd_X2_tellDamp call Q 0 [.ref 25, .ref 9] [] w := mx_seg mo_X2_tellDamp [] 15 K
set_option maxRecDepth 20000 in
theorem sg_X2_nameOf_0 {call : mz_C} {Q : mz_Q} {a0 : Int32} {w : mz_M}
    (K : ((a0 = nI 1) → (Q (some (.ref 61)) w)) ∧ ((¬ a0 = nI 1) → (((a0 = nI 2) → (Q (some (.ref 62)) w)) ∧ ((¬ a0 = nI 2) → (((a0 = nI 3) → (Q (some (.ref 63)) w)) ∧ ((¬ a0 = nI 3) → (((a0 = nI 4) → (Q (some (.ref 64)) w)) ∧ ((¬ a0 = nI 4) → (((a0 = nI 5) → (Q (some (.ref 65)) w)) ∧ ((¬ a0 = nI 5) → (((a0 = nI 6) → (Q (some (.ref 66)) w)) ∧ ((¬ a0 = nI 6) → (Q (some (.ref 60)) w))))))))))))) :
    mz_Ex cd_X2_nameOf call Q 0 [.int a0] [] w := mx_seg mo_X2_nameOf [] 5 K
set_option maxRecDepth 20000 in
theorem sg_X2_isWord_0 {call : mz_C} {Q : mz_Q} {t : Nat} {w : mz_M}
    (K : (((w 25 2) = (nI 1)) → ((60 ≤ t ∧ t < 71) ∧ (∃ (r1 : Int32) (w1 : mz_M), call 214 [.ref t] w (some (.int r1)) w1 ∧ (((r1 = ((w1 25 4) - (w1 25 3))) → (mz_Ex cd_X2_isWord call Q 28 [.ref 25, .ref t, .int (nI 0)] [] w1)) ∧ ((¬ r1 = ((w1 25 4) - (w1 25 3))) → (((nI 0 = 0) ∨ (nI 0 = 1)) ∧ Q (some (.int (nI 0))) w1)))))) ∧ ((¬ (w 25 2) = (nI 1)) → (((nI 0 = 0) ∨ (nI 0 = 1)) ∧ Q (some (.int (nI 0))) w))) :
    mz_Ex cd_X2_isWord call Q 0 [.ref 25, .ref t, .null] [] w := mx_seg mo_X2_isWord [28] 15 K
set_option maxRecDepth 20000 in
theorem sg_X2_isWord_28 {call : mz_C} {Q : mz_Q} {t : Nat} {a2 : Int32} {w : mz_M}
    (K : (60 ≤ t ∧ t < 71) ∧ (∃ (r1 : Int32) (w1 : mz_M), call 214 [.ref t] w (some (.int r1)) w1 ∧ (((a2 < r1) → ((60 ≤ t ∧ t < 71) ∧ (∃ (r2 : Int32) (w2 : mz_M), call 215 [.ref t, .int a2] w1 (some (.int r2)) w2 ∧ (vp_in ((w2 25 3) + a2) 120 ∧ (((r2 = (w2 26 ((w2 25 3) + a2).toNatClampNeg)) → (mz_Ex cd_X2_isWord call Q 28 [.ref 25, .ref t, .int (a2 + (nI 1))] [] w2)) ∧ ((¬ r2 = (w2 26 ((w2 25 3) + a2).toNatClampNeg)) → (((nI 0 = 0) ∨ (nI 0 = 1)) ∧ Q (some (.int (nI 0))) w2))))))) ∧ ((¬ a2 < r1) → (((nI 1 = 0) ∨ (nI 1 = 1)) ∧ Q (some (.int (nI 1))) w1))))) :
    mz_Ex cd_X2_isWord call Q 28 [.ref 25, .ref t, .int a2] [] w := mx_seg mo_X2_isWord [28] 18 K
set_option maxRecDepth 20000 in
theorem sg_X2_isNumber_0 {call : mz_C} {Q : mz_Q} {a1 : Int32} {w : mz_M}
    (K : (((w 25 2) = (nI 2)) → (((a1 < (w 25 5)) → (((nI 0 = 0) ∨ (nI 0 = 1)) ∧ Q (some (.int (nI 0))) w)) ∧ ((¬ a1 < (w 25 5)) → (((nI 1 = 0) ∨ (nI 1 = 1)) ∧ Q (some (.int (nI 1))) w)))) ∧ ((¬ (w 25 2) = (nI 2)) → (((nI 0 = 0) ∨ (nI 0 = 1)) ∧ Q (some (.int (nI 0))) w))) :
    mz_Ex cd_X2_isNumber call Q 0 [.ref 25, .int a1] [] w := mx_seg mo_X2_isNumber [] 12 K
set_option maxRecDepth 20000 in
theorem sg_X2_advance_0 {call : mz_C} {Q : mz_Q} {w : mz_M}
    (K : mz_Ex cd_X2_advance call Q 8 [.ref 25] [] (mz_up w 25 (upd (w 25) 3 (w 25 4)))) :
    mz_Ex cd_X2_advance call Q 0 [.ref 25] [] w := mx_seg mo_X2_advance [8, 90, 138] 5 K
set_option maxRecDepth 20000 in
theorem sg_X2_advance_8 {call : mz_C} {Q : mz_Q} {w : mz_M}
    (K : (((w 25 3) < (w 25 1)) → (vp_in (w 25 3) 120 ∧ ((((w 26 (w 25 3).toNatClampNeg) = (nI 32)) → (mz_Ex cd_X2_advance call Q 8 [.ref 25] [] (mz_up w 25 (upd (w 25) 3 ((w 25 3) + (nI 1)))))) ∧ ((¬ (w 26 (w 25 3).toNatClampNeg) = (nI 32)) → (let v3 : mz_M := (mz_up w 25 (upd (w 25) 4 (w 25 3))); ((((v3 25 3) < (v3 25 1)) → (vp_in (v3 25 3) 120 ∧ (∃ (r2 : Int32) (w2 : mz_M), call 45 [.int (v3 26 (v3 25 3).toNatClampNeg)] v3 (some (.int r2)) w2 ∧ (let v4 : mz_M := (mz_up w2 25 (upd (w2 25) 2 r2)); (mz_Ex cd_X2_advance call Q 90 [.ref 25] [] (mz_up v4 25 (upd (v4 25) 5 (nI 0)))))))) ∧ ((¬ (v3 25 3) < (v3 25 1)) → (let v5 : mz_M := (mz_up v3 25 (upd (v3 25) 2 (nI 0))); (mz_Ex cd_X2_advance call Q 90 [.ref 25] [] (mz_up v5 25 (upd (v5 25) 5 (nI 0)))))))))))) ∧ ((¬ (w 25 3) < (w 25 1)) → (let v8 : mz_M := (mz_up w 25 (upd (w 25) 4 (w 25 3))); ((((v8 25 3) < (v8 25 1)) → (vp_in (v8 25 3) 120 ∧ (∃ (r4 : Int32) (w4 : mz_M), call 45 [.int (v8 26 (v8 25 3).toNatClampNeg)] v8 (some (.int r4)) w4 ∧ (let v9 : mz_M := (mz_up w4 25 (upd (w4 25) 2 r4)); (mz_Ex cd_X2_advance call Q 90 [.ref 25] [] (mz_up v9 25 (upd (v9 25) 5 (nI 0)))))))) ∧ ((¬ (v8 25 3) < (v8 25 1)) → (let v10 : mz_M := (mz_up v8 25 (upd (v8 25) 2 (nI 0))); (mz_Ex cd_X2_advance call Q 90 [.ref 25] [] (mz_up v10 25 (upd (v10 25) 5 (nI 0)))))))))) :
    mz_Ex cd_X2_advance call Q 8 [.ref 25] [] w := mx_seg mo_X2_advance [8, 90, 138] 34 K
set_option maxRecDepth 20000 in
theorem sg_X2_advance_90 {call : mz_C} {Q : mz_Q} {w : mz_M}
    (K : (((w 25 4) < (w 25 1)) → ((((w 25 2) = (nI 1)) → (vp_in (w 25 4) 120 ∧ (∃ (r1 : Int32) (w1 : mz_M), call 45 [.int (w 26 (w 25 4).toNatClampNeg)] w (some (.int r1)) w1 ∧ (((r1 = (nI 1)) → (mz_Ex cd_X2_advance call Q 90 [.ref 25] [] (mz_up w1 25 (upd (w1 25) 4 ((w1 25 4) + (nI 1)))))) ∧ ((¬ r1 = (nI 1)) → (mz_Ex cd_X2_advance call Q 138 [.ref 25] [] w1)))))) ∧ ((¬ (w 25 2) = (nI 1)) → (mz_Ex cd_X2_advance call Q 138 [.ref 25] [] w)))) ∧ ((¬ (w 25 4) < (w 25 1)) → (mz_Ex cd_X2_advance call Q 138 [.ref 25] [] w))) :
    mz_Ex cd_X2_advance call Q 90 [.ref 25] [] w := mx_seg mo_X2_advance [8, 90, 138] 25 K
set_option maxRecDepth 20000 in
theorem sg_X2_advance_138 {call : mz_C} {Q : mz_Q} {w : mz_M}
    (K : (((w 25 4) < (w 25 1)) → ((((w 25 2) = (nI 2)) → (vp_in (w 25 4) 120 ∧ (∃ (r1 : Int32) (w1 : mz_M), call 45 [.int (w 26 (w 25 4).toNatClampNeg)] w (some (.int r1)) w1 ∧ (((r1 = (nI 2)) → (vp_in (w1 25 4) 120 ∧ (let v1 : mz_M := (mz_up w1 25 (upd (w1 25) 5 (if ((((w1 25 5) * (nI 10)) + (w1 26 (w1 25 4).toNatClampNeg)) - (nI 48)) < (nI 1000) then ((((w1 25 5) * (nI 10)) + (w1 26 (w1 25 4).toNatClampNeg)) - (nI 48)) else (nI 1000)))); (mz_Ex cd_X2_advance call Q 138 [.ref 25] [] (mz_up v1 25 (upd (v1 25) 4 ((v1 25 4) + (nI 1)))))))) ∧ ((¬ r1 = (nI 2)) → ((((w1 25 2) = (nI 3)) → (Q none (mz_up w1 25 (upd (w1 25) 4 ((w1 25 4) + (nI 1)))))) ∧ ((¬ (w1 25 2) = (nI 3)) → (Q none w1)))))))) ∧ ((¬ (w 25 2) = (nI 2)) → ((((w 25 2) = (nI 3)) → (Q none (mz_up w 25 (upd (w 25) 4 ((w 25 4) + (nI 1)))))) ∧ ((¬ (w 25 2) = (nI 3)) → (Q none w)))))) ∧ ((¬ (w 25 4) < (w 25 1)) → ((((w 25 2) = (nI 3)) → (Q none (mz_up w 25 (upd (w 25) 4 ((w 25 4) + (nI 1)))))) ∧ ((¬ (w 25 2) = (nI 3)) → (Q none w))))) :
    mz_Ex cd_X2_advance call Q 138 [.ref 25] [] w := mx_seg mo_X2_advance [8, 90, 138] 41 K
set_option maxRecDepth 20000 in
theorem sg_X2_sortOf_0 {call : mz_C} {Q : mz_Q} {a0 : Int32} {w : mz_M}
    (K : ((a0 < (nI 97)) → (((a0 < (nI 48)) → (((a0 = (nI 59)) → (Q (some (.int (nI 3))) w)) ∧ ((¬ a0 = (nI 59)) → (Q (some (.int (nI 4))) w)))) ∧ ((¬ a0 < (nI 48)) → ((((nI 57) < a0) → (((a0 = (nI 59)) → (Q (some (.int (nI 3))) w)) ∧ ((¬ a0 = (nI 59)) → (Q (some (.int (nI 4))) w)))) ∧ ((¬ (nI 57) < a0) → (Q (some (.int (nI 2))) w)))))) ∧ ((¬ a0 < (nI 97)) → ((((nI 122) < a0) → (((a0 < (nI 48)) → (((a0 = (nI 59)) → (Q (some (.int (nI 3))) w)) ∧ ((¬ a0 = (nI 59)) → (Q (some (.int (nI 4))) w)))) ∧ ((¬ a0 < (nI 48)) → ((((nI 57) < a0) → (((a0 = (nI 59)) → (Q (some (.int (nI 3))) w)) ∧ ((¬ a0 = (nI 59)) → (Q (some (.int (nI 4))) w)))) ∧ ((¬ (nI 57) < a0) → (Q (some (.int (nI 2))) w)))))) ∧ ((¬ (nI 122) < a0) → (Q (some (.int (nI 1))) w))))) :
    mz_Ex cd_X2_sortOf call Q 0 [.int a0] [] w := mx_seg mo_X2_sortOf [] 19 K
set_option maxRecDepth 20000 in
theorem sg_J6_bitCount_0f7a4_0 {call : mz_C} {Q : mz_Q} {a0 : Int32} {w : mz_M}
    (K : Q (some (.int ((((((((a0 - (((a0.toUInt32 >>> ((nI 1).toUInt32 &&& Int32.toUInt32 31)).toInt32) &&& (nI 1431655765))) &&& (nI 858993459)) + ((((a0 - (((a0.toUInt32 >>> ((nI 1).toUInt32 &&& Int32.toUInt32 31)).toInt32) &&& (nI 1431655765))).toUInt32 >>> ((nI 2).toUInt32 &&& Int32.toUInt32 31)).toInt32) &&& (nI 858993459))) + (((((a0 - (((a0.toUInt32 >>> ((nI 1).toUInt32 &&& Int32.toUInt32 31)).toInt32) &&& (nI 1431655765))) &&& (nI 858993459)) + ((((a0 - (((a0.toUInt32 >>> ((nI 1).toUInt32 &&& Int32.toUInt32 31)).toInt32) &&& (nI 1431655765))).toUInt32 >>> ((nI 2).toUInt32 &&& Int32.toUInt32 31)).toInt32) &&& (nI 858993459))).toUInt32 >>> ((nI 4).toUInt32 &&& Int32.toUInt32 31)).toInt32)) &&& (nI 252645135)) + (((((((a0 - (((a0.toUInt32 >>> ((nI 1).toUInt32 &&& Int32.toUInt32 31)).toInt32) &&& (nI 1431655765))) &&& (nI 858993459)) + ((((a0 - (((a0.toUInt32 >>> ((nI 1).toUInt32 &&& Int32.toUInt32 31)).toInt32) &&& (nI 1431655765))).toUInt32 >>> ((nI 2).toUInt32 &&& Int32.toUInt32 31)).toInt32) &&& (nI 858993459))) + (((((a0 - (((a0.toUInt32 >>> ((nI 1).toUInt32 &&& Int32.toUInt32 31)).toInt32) &&& (nI 1431655765))) &&& (nI 858993459)) + ((((a0 - (((a0.toUInt32 >>> ((nI 1).toUInt32 &&& Int32.toUInt32 31)).toInt32) &&& (nI 1431655765))).toUInt32 >>> ((nI 2).toUInt32 &&& Int32.toUInt32 31)).toInt32) &&& (nI 858993459))).toUInt32 >>> ((nI 4).toUInt32 &&& Int32.toUInt32 31)).toInt32)) &&& (nI 252645135)).toUInt32 >>> ((nI 8).toUInt32 &&& Int32.toUInt32 31)).toInt32)) + ((((((((a0 - (((a0.toUInt32 >>> ((nI 1).toUInt32 &&& Int32.toUInt32 31)).toInt32) &&& (nI 1431655765))) &&& (nI 858993459)) + ((((a0 - (((a0.toUInt32 >>> ((nI 1).toUInt32 &&& Int32.toUInt32 31)).toInt32) &&& (nI 1431655765))).toUInt32 >>> ((nI 2).toUInt32 &&& Int32.toUInt32 31)).toInt32) &&& (nI 858993459))) + (((((a0 - (((a0.toUInt32 >>> ((nI 1).toUInt32 &&& Int32.toUInt32 31)).toInt32) &&& (nI 1431655765))) &&& (nI 858993459)) + ((((a0 - (((a0.toUInt32 >>> ((nI 1).toUInt32 &&& Int32.toUInt32 31)).toInt32) &&& (nI 1431655765))).toUInt32 >>> ((nI 2).toUInt32 &&& Int32.toUInt32 31)).toInt32) &&& (nI 858993459))).toUInt32 >>> ((nI 4).toUInt32 &&& Int32.toUInt32 31)).toInt32)) &&& (nI 252645135)) + (((((((a0 - (((a0.toUInt32 >>> ((nI 1).toUInt32 &&& Int32.toUInt32 31)).toInt32) &&& (nI 1431655765))) &&& (nI 858993459)) + ((((a0 - (((a0.toUInt32 >>> ((nI 1).toUInt32 &&& Int32.toUInt32 31)).toInt32) &&& (nI 1431655765))).toUInt32 >>> ((nI 2).toUInt32 &&& Int32.toUInt32 31)).toInt32) &&& (nI 858993459))) + (((((a0 - (((a0.toUInt32 >>> ((nI 1).toUInt32 &&& Int32.toUInt32 31)).toInt32) &&& (nI 1431655765))) &&& (nI 858993459)) + ((((a0 - (((a0.toUInt32 >>> ((nI 1).toUInt32 &&& Int32.toUInt32 31)).toInt32) &&& (nI 1431655765))).toUInt32 >>> ((nI 2).toUInt32 &&& Int32.toUInt32 31)).toInt32) &&& (nI 858993459))).toUInt32 >>> ((nI 4).toUInt32 &&& Int32.toUInt32 31)).toInt32)) &&& (nI 252645135)).toUInt32 >>> ((nI 8).toUInt32 &&& Int32.toUInt32 31)).toInt32)).toUInt32 >>> ((nI 16).toUInt32 &&& Int32.toUInt32 31)).toInt32)) &&& (nI 63)))) w) :
    mz_Ex cd_J6_bitCount_0f7a4 call Q 0 [.int a0] [] w := mx_seg mo_J6_bitCount_0f7a4 [] 43 K
set_option maxRecDepth 20000 in
theorem sg_J7_fill_53178_0 {call : mz_C} {Q : mz_Q} {k : Nat} {a1 : Int32} {w : mz_M} (hk : k = 29 ∨ k = 31 ∨ k = 33 ∨ k = 35)
    (K : mz_Ex cd_J7_fill_53178 call Q 5 [.ref k, .int a1, .int (nI 0), .int (nI 40)] [] w) :
    mz_Ex cd_J7_fill_53178 call Q 0 [.ref k, .int a1, .null, .null] [] w := by
  rcases hk with rfl | rfl | rfl | rfl <;> exact mx_seg mo_J7_fill_53178 [5] 6 K
set_option maxRecDepth 20000 in
theorem sg_J7_fill_53178_5 {call : mz_C} {Q : mz_Q} {k : Nat} {a1 a2 a3 : Int32} {w : mz_M} (hk : k = 29 ∨ k = 31 ∨ k = 33 ∨ k = 35)
    (K : ((a2 < a3) → (vp_in a2 40 ∧ (mz_Ex cd_J7_fill_53178 call Q 5 [.ref k, .int a1, .int (a2 + (nI 1)), .int a3] [] (mz_up w k (upd (w k) a2.toNatClampNeg a1))))) ∧ ((¬ a2 < a3) → (Q none w))) :
    mz_Ex cd_J7_fill_53178 call Q 5 [.ref k, .int a1, .int a2, .int a3] [] w := by
  rcases hk with rfl | rfl | rfl | rfl <;> exact mx_seg mo_J7_fill_53178 [5] 10 K
set_option maxRecDepth 20000 in
theorem sg_J0_length_8abf5_0 {call : mz_C} {Q : mz_Q} {t : Nat} {w : mz_M}
    (K : (60 ≤ t ∧ t < 71) ∧ ((100 ≤ (t + 40) ∧ (t + 40) < 111) ∧ ((60 ≤ t ∧ t < 71) ∧ (∃ (r1 : Int32) (w1 : mz_M), call 216 [.ref t] w (some (.int r1)) w1 ∧ (Q (some (.int ((nI (mz_tx ((t + 40) - 40)).length) >>> (r1 &&& 31)))) w1))))) :
    mz_Ex cd_J0_length_8abf5 call Q 0 [.ref t] [] w := mx_seg mo_J0_length_8abf5 [] 8 K
set_option maxRecDepth 20000 in
theorem sg_J0_charAt_5068e_0 {call : mz_C} {Q : mz_Q} {t : Nat} {a1 : Int32} {w : mz_M}
    (K : (60 ≤ t ∧ t < 71) ∧ (∃ (r1 : Int32) (w1 : mz_M), call 217 [.ref t] w (some (.int r1)) w1 ∧ (((r1 = nI 0) → ((60 ≤ t ∧ t < 71) ∧ (False))) ∧ ((¬ r1 = nI 0) → ((60 ≤ t ∧ t < 71) ∧ (∃ (r2 : Int32) (w2 : mz_M), call 218 [.ref (t + 40), .int a1] w1 (some (.int r2)) w2 ∧ (narrow .char (.int r2) = .int r2 ∧ Q (some (.int r2)) w2))))))) :
    mz_Ex cd_J0_charAt_5068e call Q 0 [.ref t, .int a1] [] w := mx_seg mo_J0_charAt_5068e [] 9 K
set_option maxRecDepth 20000 in
theorem sg_J0_coder_7d493_0 {call : mz_C} {Q : mz_Q} {t : Nat} {w : mz_M}
    (K : (((nI 1) = nI 0) → (narrow .byte (.int (nI 1)) = .int (nI 1) ∧ Q (some (.int (nI 1))) w)) ∧ ((¬ (nI 1) = nI 0) → ((60 ≤ t ∧ t < 71) ∧ (narrow .byte (.int (nI 0)) = .int (nI 0) ∧ Q (some (.int (nI 0))) w)))) :
    mz_Ex cd_J0_coder_7d493 call Q 0 [.ref t] [] w := mx_seg mo_J0_coder_7d493 [] 7 K
set_option maxRecDepth 20000 in
theorem sg_J0_isLatin1_aae02_0 {call : mz_C} {Q : mz_Q} {t : Nat} {w : mz_M}
    (K : (((nI 1) = nI 0) → (((nI 0 = 0) ∨ (nI 0 = 1)) ∧ Q (some (.int (nI 0))) w)) ∧ ((¬ (nI 1) = nI 0) → ((60 ≤ t ∧ t < 71) ∧ ((((nI 0) = nI 0) → (((nI 1 = 0) ∨ (nI 1 = 1)) ∧ Q (some (.int (nI 1))) w)) ∧ ((¬ (nI 0) = nI 0) → (((nI 0 = 0) ∨ (nI 0 = 1)) ∧ Q (some (.int (nI 0))) w)))))) :
    mz_Ex cd_J0_isLatin1_aae02 call Q 0 [.ref t] [] w := mx_seg mo_J0_isLatin1_aae02 [] 9 K
set_option maxRecDepth 20000 in
theorem sg_J1_charAt_3b067_0 {call : mz_C} {Q : mz_Q} {b : Nat} {a1 : Int32} {w : mz_M}
    (K : (100 ≤ b ∧ b < 111) ∧ (∃ w1, call 219 [.int a1, .int (nI (mz_tx (b - 40)).length)] w none w1 ∧ (((100 ≤ b ∧ b < 111) ∧ vp_in a1 (mz_tx (b - 40)).length) ∧ (narrow .char (.int (((((mz_tx (b - 40)).getD a1.toNatClampNeg 0) &&& (nI 255)).toUInt32 % 65536).toInt32)) = .int (((((mz_tx (b - 40)).getD a1.toNatClampNeg 0) &&& (nI 255)).toUInt32 % 65536).toInt32) ∧ Q (some (.int (((((mz_tx (b - 40)).getD a1.toNatClampNeg 0) &&& (nI 255)).toUInt32 % 65536).toInt32))) w1)))) :
    mz_Ex cd_J1_charAt_3b067 call Q 0 [.ref b, .int a1] [] w := mx_seg mo_J1_charAt_3b067 [] 12 K
