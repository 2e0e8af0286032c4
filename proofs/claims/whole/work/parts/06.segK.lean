/-! stretches of code, by program: MangleKin -/
set_option maxRecDepth 20000 in
theorem sg_X3_damp_0 {call : mz_C} {Q : mz_Q} {a1 : Int32} {w : mz_M}
    (K : ∃ (r1 : Int32) (w1 : mz_M), call 92 [.int a1, .int (nI 0), .int (nI 9)] w (some (.int r1)) w1 ∧ (((r1 = nI 0) → (∃ (r2 : Int32) (w2 : mz_M), call 91 [.ref 0, .int ((-1000001 : Int32))] w1 (some (.int r2)) w2 ∧ (Q (some (.int r2)) w2))) ∧ ((¬ r1 = nI 0) → (Q (some (.int (w1 1 0))) (mz_up w1 1 (upd (w1 1) 0 a1)))))) :
    mz_Ex cd_X3_damp call Q 0 [.ref 0, .int a1, .null] [] w := mx_seg mo_X3_damp [] 16 K
set_option maxRecDepth 20000 in
theorem sg_X3_list_0 {call : mz_C} {Q : mz_Q} {a1 a2 : Int32} {w : mz_M}
    (K : ∃ (r1 : Int32) (w1 : mz_M), call 92 [.int a1, .int (nI 0), .int (nI 5)] w (some (.int r1)) w1 ∧ (((r1 = nI 0) → (∃ (r2 : Int32) (w2 : mz_M), call 91 [.ref 0, .int ((-1000001 : Int32))] w1 (some (.int r2)) w2 ∧ (Q (some (.int r2)) w2))) ∧ ((¬ r1 = nI 0) → (∃ (r3 : Int32) (w3 : mz_M), call 92 [.int a2, .int (nI 0), .int (nI 255)] w1 (some (.int r3)) w3 ∧ (((r3 = nI 0) → (∃ (r4 : Int32) (w4 : mz_M), call 91 [.ref 0, .int ((-1000001 : Int32))] w3 (some (.int r4)) w4 ∧ (Q (some (.int r4)) w4))) ∧ ((¬ r3 = nI 0) → (vp_in a1 6 ∧ (vp_in a1 6 ∧ (Q (some (.int (w3 2 a1.toNatClampNeg))) (mz_up w3 2 (upd (w3 2) a1.toNatClampNeg a2))))))))))) :
    mz_Ex cd_X3_list call Q 0 [.ref 0, .int a1, .int a2, .null] [] w := mx_seg mo_X3_list [] 25 K
set_option maxRecDepth 20000 in
theorem sg_X3_listed_0 {call : mz_C} {Q : mz_Q} {a1 : Int32} {w : mz_M}
    (K : ∃ (r1 : Int32) (w1 : mz_M), call 92 [.int a1, .int (nI 0), .int (nI 5)] w (some (.int r1)) w1 ∧ (((r1 = nI 0) → (∃ (r2 : Int32) (w2 : mz_M), call 91 [.ref 0, .int ((-1000001 : Int32))] w1 (some (.int r2)) w2 ∧ (Q (some (.int r2)) w2))) ∧ ((¬ r1 = nI 0) → (vp_in a1 6 ∧ (Q (some (.int (w1 2 a1.toNatClampNeg))) w1))))) :
    mz_Ex cd_X3_listed call Q 0 [.ref 0, .int a1] [] w := mx_seg mo_X3_listed [] 12 K
set_option maxRecDepth 20000 in
theorem sg_X3_person_0 {call : mz_C} {Q : mz_Q} {a1 : Int32} {w : mz_M}
    (K : ∃ (r1 : Int32) (w1 : mz_M), call 93 [.int a1] w (some (.int r1)) w1 ∧ (((r1 = nI 0) → (∃ (r2 : Int32) (w2 : mz_M), call 91 [.ref 0, .int ((-1000001 : Int32))] w1 (some (.int r2)) w2 ∧ (Q (some (.int r2)) w2))) ∧ ((¬ r1 = nI 0) → (∃ (r3 : Int32) (w3 : mz_M), call 1 [.ref 1] w1 (some (.int r3)) w3 ∧ (((r3 = nI 0) → (∃ (r4 : Int32) (w4 : mz_M), call 2 [.ref 1, .int a1] w3 (some (.int r4)) w4 ∧ (Q (some (.int r4)) w4))) ∧ ((¬ r3 = nI 0) → (∃ (r5 : Int32) (w5 : mz_M), call 91 [.ref 0, .int ((-1000002 : Int32))] w3 (some (.int r5)) w5 ∧ (Q (some (.int r5)) w5)))))))) :
    mz_Ex cd_X3_person call Q 0 [.ref 0, .int a1] [] w := mx_seg mo_X3_person [] 13 K
set_option maxRecDepth 20000 in
theorem sg_X3_of_0 {call : mz_C} {Q : mz_Q} {a1 a2 : Int32} {w : mz_M}
    (K : ∃ (r1 : Int32) (w1 : mz_M), call 97 [.ref 0, .int a1] w (some (.int r1)) w1 ∧ (((r1 = nI 0) → (∃ (r2 : Int32) (w2 : mz_M), call 91 [.ref 0, .int ((-1000001 : Int32))] w1 (some (.int r2)) w2 ∧ (Q (some (.int r2)) w2))) ∧ ((¬ r1 = nI 0) → (((a2 = nI 0) → (vp_in a1 8 ∧ (Q (some (.int (w1 3 a1.toNatClampNeg))) w1))) ∧ ((¬ a2 = nI 0) → (((a2 = nI 1) → (vp_in a1 8 ∧ (Q (some (.int (w1 4 a1.toNatClampNeg))) w1))) ∧ ((¬ a2 = nI 1) → (((a2 = nI 2) → (∃ (r3 : Int32) (w3 : mz_M), call 12 [.ref 1, .int a1] w1 (some (.int r3)) w3 ∧ (Q (some (.int r3)) w3))) ∧ ((¬ a2 = nI 2) → (((a2 = nI 3) → (∃ (r4 : Int32) (w4 : mz_M), call 14 [.ref 1, .int a1] w1 (some (.int r4)) w4 ∧ (Q (some (.int r4)) w4))) ∧ ((¬ a2 = nI 3) → (((a2 = nI 4) → (∃ (r5 : Int32) (w5 : mz_M), call 7 [.ref 1, .int a1] w1 (some (.int r5)) w5 ∧ (Q (some (.int r5)) w5))) ∧ ((¬ a2 = nI 4) → (((a2 = nI 5) → (∃ (r6 : Int32) (w6 : mz_M), call 8 [.ref 1, .int a1] w1 (some (.int r6)) w6 ∧ (Q (some (.int r6)) w6))) ∧ ((¬ a2 = nI 5) → (∃ (r7 : Int32) (w7 : mz_M), call 91 [.ref 0, .int ((-1000001 : Int32))] w1 (some (.int r7)) w7 ∧ (Q (some (.int r7)) w7))))))))))))))))) :
    mz_Ex cd_X3_of call Q 0 [.ref 0, .int a1, .int a2] [] w := mx_seg mo_X3_of [] 13 K
set_option maxRecDepth 20000 in
theorem sg_X3_change_0 {call : mz_C} {Q : mz_Q} {a1 a2 a3 : Int32} {w : mz_M}
    (K : ∃ (r1 : Int32) (w1 : mz_M), call 97 [.ref 0, .int a1] w (some (.int r1)) w1 ∧ (((r1 = nI 0) → (∃ (r2 : Int32) (w2 : mz_M), call 91 [.ref 0, .int ((-1000001 : Int32))] w1 (some (.int r2)) w2 ∧ (Q (some (.int r2)) w2))) ∧ ((¬ r1 = nI 0) → (((a2 = nI 0) → (∃ (r3 : Int32) (w3 : mz_M), call 93 [.int a3] w1 (some (.int r3)) w3 ∧ (((r3 = nI 0) → (((a2 = (nI 1)) → (∃ (r4 : Int32) (w4 : mz_M), call 92 [.int a3, .int (nI 0), .int (nI 99)] w3 (some (.int r4)) w4 ∧ (((r4 = nI 0) → (∃ (r5 : Int32) (w5 : mz_M), call 91 [.ref 0, .int ((-1000001 : Int32))] w4 (some (.int r5)) w5 ∧ (Q (some (.int r5)) w5))) ∧ ((¬ r4 = nI 0) → (vp_in a1 8 ∧ (vp_in a1 8 ∧ (Q (some (.int (w4 4 a1.toNatClampNeg))) (mz_up w4 4 (upd (w4 4) a1.toNatClampNeg a3))))))))) ∧ ((¬ a2 = (nI 1)) → (∃ (r6 : Int32) (w6 : mz_M), call 91 [.ref 0, .int ((-1000001 : Int32))] w3 (some (.int r6)) w6 ∧ (Q (some (.int r6)) w6))))) ∧ ((¬ r3 = nI 0) → (vp_in a1 8 ∧ (vp_in a1 8 ∧ (Q (some (.int (w3 3 a1.toNatClampNeg))) (mz_up w3 3 (upd (w3 3) a1.toNatClampNeg a3))))))))) ∧ ((¬ a2 = nI 0) → (((a2 = (nI 1)) → (∃ (r7 : Int32) (w7 : mz_M), call 92 [.int a3, .int (nI 0), .int (nI 99)] w1 (some (.int r7)) w7 ∧ (((r7 = nI 0) → (∃ (r8 : Int32) (w8 : mz_M), call 91 [.ref 0, .int ((-1000001 : Int32))] w7 (some (.int r8)) w8 ∧ (Q (some (.int r8)) w8))) ∧ ((¬ r7 = nI 0) → (vp_in a1 8 ∧ (vp_in a1 8 ∧ (Q (some (.int (w7 4 a1.toNatClampNeg))) (mz_up w7 4 (upd (w7 4) a1.toNatClampNeg a3))))))))) ∧ ((¬ a2 = (nI 1)) → (∃ (r9 : Int32) (w9 : mz_M), call 91 [.ref 0, .int ((-1000001 : Int32))] w1 (some (.int r9)) w9 ∧ (Q (some (.int r9)) w9))))))))) :
    mz_Ex cd_X3_change call Q 0 [.ref 0, .int a1, .int a2, .int a3, .null] [] w := mx_seg mo_X3_change [] 32 K
set_option maxRecDepth 20000 in
theorem sg_X3_kin_0 {call : mz_C} {Q : mz_Q} {a1 a2 : Int32} {w : mz_M}
    (K : ∃ (r1 : Int32) (w1 : mz_M), call 98 [.ref 0, .int a1, .int a2] w (some (.int r1)) w1 ∧ (((r1 = nI 0) → (∃ (r2 : Int32) (w2 : mz_M), call 91 [.ref 0, .int ((-1000001 : Int32))] w1 (some (.int r2)) w2 ∧ (Q (some (.int r2)) w2))) ∧ ((¬ r1 = nI 0) → (∃ (r3 : Int32) (w3 : mz_M), call 4 [.ref 1, .int a1, .int a2] w1 (some (.int r3)) w3 ∧ (Q (some (.int r3)) w3))))) :
    mz_Ex cd_X3_kin call Q 0 [.ref 0, .int a1, .int a2] [] w := mx_seg mo_X3_kin [] 12 K
set_option maxRecDepth 20000 in
theorem sg_X3_make_0 {call : mz_C} {Q : mz_Q} {a1 a2 a3 : Int32} {w : mz_M}
    (K : ∃ (r1 : Int32) (w1 : mz_M), call 98 [.ref 0, .int a1, .int a2] w (some (.int r1)) w1 ∧ (((r1 = nI 0) → (∃ (r2 : Int32) (w2 : mz_M), call 91 [.ref 0, .int ((-1000001 : Int32))] w1 (some (.int r2)) w2 ∧ (Q (some (.int r2)) w2))) ∧ ((¬ r1 = nI 0) → (∃ (r3 : Int32) (w3 : mz_M), call 94 [.int a3] w1 (some (.int r3)) w3 ∧ (((r3 = nI 0) → (∃ (r4 : Int32) (w4 : mz_M), call 91 [.ref 0, .int ((-1000001 : Int32))] w3 (some (.int r4)) w4 ∧ (Q (some (.int r4)) w4))) ∧ ((¬ r3 = nI 0) → (∃ (r5 : Int32) (w5 : mz_M), call 4 [.ref 1, .int a1, .int a2] w3 (some (.int r5)) w5 ∧ (∃ w6, call 5 [.ref 1, .int a1, .int a2, .int a3] w5 none w6 ∧ (Q (some (.int r5)) w6))))))))) :
    mz_Ex cd_X3_make call Q 0 [.ref 0, .int a1, .int a2, .int a3, .null] [] w := mx_seg mo_X3_make [] 23 K
set_option maxRecDepth 20000 in
theorem sg_X3_iron_0 {call : mz_C} {Q : mz_Q} {a1 : Int32} {w : mz_M}
    (K : ∃ (r1 : Int32) (w1 : mz_M), call 97 [.ref 0, .int a1] w (some (.int r1)) w1 ∧ (((r1 = nI 0) → (∃ (r2 : Int32) (w2 : mz_M), call 91 [.ref 0, .int ((-1000001 : Int32))] w1 (some (.int r2)) w2 ∧ (Q (some (.int r2)) w2))) ∧ ((¬ r1 = nI 0) → (∃ (r3 : Int32) (w3 : mz_M), call 7 [.ref 1, .int a1] w1 (some (.int r3)) w3 ∧ (∃ w4, call 6 [.ref 1, .int a1] w3 none w4 ∧ (Q (some (.int r3)) w4)))))) :
    mz_Ex cd_X3_iron call Q 0 [.ref 0, .int a1, .null] [] w := mx_seg mo_X3_iron [] 16 K
set_option maxRecDepth 20000 in
theorem sg_X3_go_0 {call : mz_C} {Q : mz_Q} {a1 : Int32} {w : mz_M}
    (K : ∃ (r1 : Int32) (w1 : mz_M), call 92 [.int a1, .int (nI 1), .int (nI 60)] w (some (.int r1)) w1 ∧ (((r1 = nI 0) → (∃ (r2 : Int32) (w2 : mz_M), call 91 [.ref 0, .int ((-1000001 : Int32))] w1 (some (.int r2)) w2 ∧ (Q (some (.int r2)) w2))) ∧ ((¬ r1 = nI 0) → ((((nI 99999) < ((w1 1 1) + a1)) → (∃ (r3 : Int32) (w3 : mz_M), call 91 [.ref 0, .int ((-1000005 : Int32))] w1 (some (.int r3)) w3 ∧ (Q (some (.int r3)) w3))) ∧ ((¬ (nI 99999) < ((w1 1 1) + a1)) → (∃ w4, call 17 [.ref 1, .int a1] w1 none w4 ∧ (∃ (r5 : Int32) (w5 : mz_M), call 9 [.ref 1] w4 (some (.int r5)) w5 ∧ (Q (some (.int r5)) w5)))))))) :
    mz_Ex cd_X3_go call Q 0 [.ref 0, .int a1] [] w := mx_seg mo_X3_go [] 21 K
set_option maxRecDepth 20000 in
theorem sg_X3_now_0 {call : mz_C} {Q : mz_Q} {a1 : Int32} {w : mz_M}
    (K : ((a1 = nI 0) → (Q (some (.int (w 1 1))) w)) ∧ ((¬ a1 = nI 0) → (((a1 = nI 1) → (∃ (r1 : Int32) (w1 : mz_M), call 9 [.ref 1] w (some (.int r1)) w1 ∧ (Q (some (.int r1)) w1))) ∧ ((¬ a1 = nI 1) → (((a1 = nI 2) → (∃ (r2 : Int32) (w2 : mz_M), call 16 [.ref 1] w (some (.int r2)) w2 ∧ (Q (some (.int r2)) w2))) ∧ ((¬ a1 = nI 2) → (((a1 = nI 3) → (Q (some (.int (w 1 2))) w)) ∧ ((¬ a1 = nI 3) → (((a1 = nI 4) → (Q (some (.int (w 1 0))) w)) ∧ ((¬ a1 = nI 4) → (((a1 = nI 5) → (∃ (r3 : Int32) (w3 : mz_M), call 11 [.ref 1] w (some (.int r3)) w3 ∧ (Q (some (.int r3)) w3))) ∧ ((¬ a1 = nI 5) → (∃ (r4 : Int32) (w4 : mz_M), call 91 [.ref 0, .int ((-1000001 : Int32))] w (some (.int r4)) w4 ∧ (Q (some (.int r4)) w4)))))))))))))) :
    mz_Ex cd_X3_now call Q 0 [.ref 0, .int a1] [] w := mx_seg mo_X3_now [] 7 K
set_option maxRecDepth 20000 in
theorem sg_X3_steps_0 {call : mz_C} {Q : mz_Q} {a1 a2 a3 : Int32} {w : mz_M}
    (K : ∃ (r1 : Int32) (w1 : mz_M), call 98 [.ref 0, .int a1, .int a2] w (some (.int r1)) w1 ∧ (((r1 = nI 0) → (∃ (r2 : Int32) (w2 : mz_M), call 91 [.ref 0, .int ((-1000001 : Int32))] w1 (some (.int r2)) w2 ∧ (Q (some (.int r2)) w2))) ∧ ((¬ r1 = nI 0) → (∃ (r3 : Int32) (w3 : mz_M), call 95 [.int a3] w1 (some (.int r3)) w3 ∧ (((r3 = nI 0) → (∃ (r4 : Int32) (w4 : mz_M), call 91 [.ref 0, .int ((-1000001 : Int32))] w3 (some (.int r4)) w4 ∧ (Q (some (.int r4)) w4))) ∧ ((¬ r3 = nI 0) → (∃ (r5 : Int32) (w5 : mz_M), call 23 [.ref 1, .int a1, .int a2, .int a3] w3 (some (.int r5)) w5 ∧ (((r5 < (nI 1)) → (∃ (r6 : Int32) (w6 : mz_M), call 91 [.ref 0, .int ((-1000004 : Int32))] w5 (some (.int r6)) w6 ∧ (Q (some (.int r6)) w6))) ∧ ((¬ r5 < (nI 1)) → (Q (some (.int r5)) w5)))))))))) :
    mz_Ex cd_X3_steps call Q 0 [.ref 0, .int a1, .int a2, .int a3, .null] [] w := mx_seg mo_X3_steps [] 24 K
set_option maxRecDepth 20000 in
theorem sg_X3_clans_0 {call : mz_C} {Q : mz_Q} {a1 : Int32} {w : mz_M}
    (K : ∃ (r1 : Int32) (w1 : mz_M), call 95 [.int a1] w (some (.int r1)) w1 ∧ (((r1 = nI 0) → (∃ (r2 : Int32) (w2 : mz_M), call 91 [.ref 0, .int ((-1000001 : Int32))] w1 (some (.int r2)) w2 ∧ (Q (some (.int r2)) w2))) ∧ ((¬ r1 = nI 0) → (∃ (r3 : Int32) (w3 : mz_M), call 25 [.ref 1, .int a1] w1 (some (.int r3)) w3 ∧ (Q (some (.int r3)) w3))))) :
    mz_Ex cd_X3_clans call Q 0 [.ref 0, .int a1] [] w := mx_seg mo_X3_clans [] 9 K
set_option maxRecDepth 20000 in
theorem sg_X3_clan_0 {call : mz_C} {Q : mz_Q} {a1 a2 : Int32} {w : mz_M}
    (K : ∃ (r1 : Int32) (w1 : mz_M), call 97 [.ref 0, .int a1] w (some (.int r1)) w1 ∧ (((r1 = nI 0) → (∃ (r2 : Int32) (w2 : mz_M), call 91 [.ref 0, .int ((-1000001 : Int32))] w1 (some (.int r2)) w2 ∧ (Q (some (.int r2)) w2))) ∧ ((¬ r1 = nI 0) → (∃ (r3 : Int32) (w3 : mz_M), call 95 [.int a2] w1 (some (.int r3)) w3 ∧ (((r3 = nI 0) → (∃ (r4 : Int32) (w4 : mz_M), call 91 [.ref 0, .int ((-1000001 : Int32))] w3 (some (.int r4)) w4 ∧ (Q (some (.int r4)) w4))) ∧ ((¬ r3 = nI 0) → (∃ (r5 : Int32) (w5 : mz_M), call 24 [.ref 1, .int a1, .int a2] w3 (some (.int r5)) w5 ∧ (Q (some (.int r5)) w5)))))))) :
    mz_Ex cd_X3_clan call Q 0 [.ref 0, .int a1, .int a2] [] w := mx_seg mo_X3_clan [] 14 K
set_option maxRecDepth 20000 in
theorem sg_X3_tie_0 {call : mz_C} {Q : mz_Q} {a1 a2 : Int32} {w : mz_M}
    (K : ∃ (r1 : Int32) (w1 : mz_M), call 98 [.ref 0, .int a1, .int a2] w (some (.int r1)) w1 ∧ (((r1 = nI 0) → (∃ (r2 : Int32) (w2 : mz_M), call 91 [.ref 0, .int ((-1000001 : Int32))] w1 (some (.int r2)) w2 ∧ (Q (some (.int r2)) w2))) ∧ ((¬ r1 = nI 0) → (∃ (r3 : Int32) (w3 : mz_M), call 26 [.ref 1, .int a1, .int a2] w1 (some (.int r3)) w3 ∧ (((r3 < (nI 1)) → (∃ (r4 : Int32) (w4 : mz_M), call 91 [.ref 0, .int ((-1000004 : Int32))] w3 (some (.int r4)) w4 ∧ (Q (some (.int r4)) w4))) ∧ ((¬ r3 < (nI 1)) → (Q (some (.int r3)) w3))))))) :
    mz_Ex cd_X3_tie call Q 0 [.ref 0, .int a1, .int a2, .null] [] w := mx_seg mo_X3_tie [] 20 K
set_option maxRecDepth 20000 in
theorem sg_X3_ahead_0 {call : mz_C} {Q : mz_Q} {a1 a2 a3 : Int32} {w : mz_M}
    (K : ∃ (r1 : Int32) (w1 : mz_M), call 98 [.ref 0, .int a1, .int a2] w (some (.int r1)) w1 ∧ (((r1 = nI 0) → (∃ (r2 : Int32) (w2 : mz_M), call 91 [.ref 0, .int ((-1000001 : Int32))] w1 (some (.int r2)) w2 ∧ (Q (some (.int r2)) w2))) ∧ ((¬ r1 = nI 0) → (∃ (r3 : Int32) (w3 : mz_M), call 92 [.int a3, .int (nI 0), .int (nI 60)] w1 (some (.int r3)) w3 ∧ (((r3 = nI 0) → (∃ (r4 : Int32) (w4 : mz_M), call 91 [.ref 0, .int ((-1000001 : Int32))] w3 (some (.int r4)) w4 ∧ (Q (some (.int r4)) w4))) ∧ ((¬ r3 = nI 0) → (∃ w5, call 0 [.ref 9, .ref 1] w3 none w5 ∧ (∃ (r6 : Int32) (w6 : mz_M), call 102 [.ref 0, .int a1, .int a2, .int a3] w5 (some (.int r6)) w6 ∧ (Q (some (.int r6)) w6))))))))) :
    mz_Ex cd_X3_ahead call Q 0 [.ref 0, .int a1, .int a2, .int a3] [] w := mx_seg mo_X3_ahead [] 22 K
set_option maxRecDepth 20000 in
theorem sg_X3_when_0 {call : mz_C} {Q : mz_Q} {a1 a2 a3 : Int32} {w : mz_M}
    (K : ∃ (r1 : Int32) (w1 : mz_M), call 98 [.ref 0, .int a1, .int a2] w (some (.int r1)) w1 ∧ (((r1 = nI 0) → (∃ (r2 : Int32) (w2 : mz_M), call 91 [.ref 0, .int ((-1000001 : Int32))] w1 (some (.int r2)) w2 ∧ (Q (some (.int r2)) w2))) ∧ ((¬ r1 = nI 0) → (∃ (r3 : Int32) (w3 : mz_M), call 94 [.int a3] w1 (some (.int r3)) w3 ∧ (((r3 = nI 0) → (∃ (r4 : Int32) (w4 : mz_M), call 91 [.ref 0, .int ((-1000001 : Int32))] w3 (some (.int r4)) w4 ∧ (Q (some (.int r4)) w4))) ∧ ((¬ r3 = nI 0) → (∃ w5, call 0 [.ref 9, .ref 1] w3 none w5 ∧ (mz_Ex cd_X3_when call Q 37 [.ref 0, .int a1, .int a2, .int a3, .int (nI 0)] [] w5)))))))) :
    mz_Ex cd_X3_when call Q 0 [.ref 0, .int a1, .int a2, .int a3, .null] [] w := mx_seg mo_X3_when [37] 16 K
set_option maxRecDepth 20000 in
theorem sg_X3_when_37 {call : mz_C} {Q : mz_Q} {a1 a2 a3 a4 : Int32} {w : mz_M}
    (K : (((nI 100) < a4) → (∃ (r1 : Int32) (w1 : mz_M), call 91 [.ref 0, .int ((-1000004 : Int32))] w (some (.int r1)) w1 ∧ (Q (some (.int r1)) w1))) ∧ ((¬ (nI 100) < a4) → (∃ (r2 : Int32) (w2 : mz_M), call 4 [.ref 9, .int a1, .int a2] w (some (.int r2)) w2 ∧ (((r2 < a3) → (∃ w3, call 18 [.ref 9] w2 none w3 ∧ (mz_Ex cd_X3_when call Q 37 [.ref 0, .int a1, .int a2, .int a3, .int (a4 + (nI 1))] [] w3))) ∧ ((¬ r2 < a3) → (Q (some (.int a4)) w2)))))) :
    mz_Ex cd_X3_when call Q 37 [.ref 0, .int a1, .int a2, .int a3, .int a4] [] w := mx_seg mo_X3_when [37] 16 K
set_option maxRecDepth 20000 in
theorem sg_X3_first_0 {call : mz_C} {Q : mz_Q} {a1 : Int32} {w : mz_M}
    (K : ∃ (r1 : Int32) (w1 : mz_M), call 94 [.int a1] w (some (.int r1)) w1 ∧ (((r1 = nI 0) → (∃ (r2 : Int32) (w2 : mz_M), call 91 [.ref 0, .int ((-1000001 : Int32))] w1 (some (.int r2)) w2 ∧ (Q (some (.int r2)) w2))) ∧ ((¬ r1 = nI 0) → (∃ w3, call 0 [.ref 9, .ref 1] w1 none w3 ∧ (mz_Ex cd_X3_first call Q 27 [.ref 0, .int a1, .int (nI 0)] [] w3))))) :
    mz_Ex cd_X3_first call Q 0 [.ref 0, .int a1, .null] [] w := mx_seg mo_X3_first [27] 11 K
set_option maxRecDepth 20000 in
theorem sg_X3_first_27 {call : mz_C} {Q : mz_Q} {a1 a2 : Int32} {w : mz_M}
    (K : (((nI 100) < a2) → (∃ (r1 : Int32) (w1 : mz_M), call 91 [.ref 0, .int ((-1000004 : Int32))] w (some (.int r1)) w1 ∧ (Q (some (.int r1)) w1))) ∧ ((¬ (nI 100) < a2) → ((((nI 1) < (w 9 3)) → (∃ (r2 : Int32) (w2 : mz_M), call 10 [.ref 9] w (some (.int r2)) w2 ∧ (((r2 < a1) → (∃ w3, call 18 [.ref 9] w2 none w3 ∧ (mz_Ex cd_X3_first call Q 27 [.ref 0, .int a1, .int (a2 + (nI 1))] [] w3))) ∧ ((¬ r2 < a1) → (Q (some (.int a2)) w2))))) ∧ ((¬ (nI 1) < (w 9 3)) → (∃ w4, call 18 [.ref 9] w none w4 ∧ (mz_Ex cd_X3_first call Q 27 [.ref 0, .int a1, .int (a2 + (nI 1))] [] w4)))))) :
    mz_Ex cd_X3_first call Q 27 [.ref 0, .int a1, .int a2] [] w := mx_seg mo_X3_first [27] 19 K
set_option maxRecDepth 20000 in
theorem sg_X3_one_0 {call : mz_C} {Q : mz_Q} {a1 : Int32} {w : mz_M}
    (K : ∃ (r1 : Int32) (w1 : mz_M), call 95 [.int a1] w (some (.int r1)) w1 ∧ (((r1 = nI 0) → (∃ (r2 : Int32) (w2 : mz_M), call 91 [.ref 0, .int ((-1000001 : Int32))] w1 (some (.int r2)) w2 ∧ (Q (some (.int r2)) w2))) ∧ ((¬ r1 = nI 0) → (∃ w3, call 0 [.ref 9, .ref 1] w1 none w3 ∧ (mz_Ex cd_X3_one call Q 27 [.ref 0, .int a1, .int (nI 0)] [] w3))))) :
    mz_Ex cd_X3_one call Q 0 [.ref 0, .int a1, .null] [] w := mx_seg mo_X3_one [27] 11 K
set_option maxRecDepth 20000 in
theorem sg_X3_one_27 {call : mz_C} {Q : mz_Q} {a1 a2 : Int32} {w : mz_M}
    (K : (((nI 100) < a2) → (∃ (r1 : Int32) (w1 : mz_M), call 91 [.ref 0, .int ((-1000004 : Int32))] w (some (.int r1)) w1 ∧ (Q (some (.int r1)) w1))) ∧ ((¬ (nI 100) < a2) → (∃ (r2 : Int32) (w2 : mz_M), call 25 [.ref 9, .int a1] w (some (.int r2)) w2 ∧ ((((nI 1) < r2) → (∃ w3, call 18 [.ref 9] w2 none w3 ∧ (mz_Ex cd_X3_one call Q 27 [.ref 0, .int a1, .int (a2 + (nI 1))] [] w3))) ∧ ((¬ (nI 1) < r2) → (Q (some (.int a2)) w2)))))) :
    mz_Ex cd_X3_one call Q 27 [.ref 0, .int a1, .int a2] [] w := mx_seg mo_X3_one [27] 15 K
set_option maxRecDepth 20000 in
theorem sg_X3_put_0 {call : mz_C} {Q : mz_Q} {a1 a2 a3 a4 : Int32} {w : mz_M}
    (K : ∃ (r1 : Int32) (w1 : mz_M), call 98 [.ref 0, .int a1, .int a2] w (some (.int r1)) w1 ∧ (((r1 = nI 0) → (∃ (r2 : Int32) (w2 : mz_M), call 91 [.ref 0, .int ((-1000001 : Int32))] w1 (some (.int r2)) w2 ∧ (Q (some (.int r2)) w2))) ∧ ((¬ r1 = nI 0) → (∃ (r3 : Int32) (w3 : mz_M), call 94 [.int a3] w1 (some (.int r3)) w3 ∧ (((r3 = nI 0) → (∃ (r4 : Int32) (w4 : mz_M), call 91 [.ref 0, .int ((-1000001 : Int32))] w3 (some (.int r4)) w4 ∧ (Q (some (.int r4)) w4))) ∧ ((¬ r3 = nI 0) → (∃ (r5 : Int32) (w5 : mz_M), call 92 [.int a4, .int (nI 0), .int (nI 12)] w3 (some (.int r5)) w5 ∧ (((r5 = nI 0) → (∃ (r6 : Int32) (w6 : mz_M), call 91 [.ref 0, .int ((-1000001 : Int32))] w5 (some (.int r6)) w6 ∧ (Q (some (.int r6)) w6))) ∧ ((¬ r5 = nI 0) → (∃ (r7 : Int32) (w7 : mz_M), call 3 [.ref 1] w5 (some (.int r7)) w7 ∧ (mz_Ex cd_X3_put call Q 46 [.ref 0, .int a1, .int a2, .int a3, .int a4, .int r7, .int (nI 0), .null] [] w7))))))))))) :
    mz_Ex cd_X3_put call Q 0 [.ref 0, .int a1, .int a2, .int a3, .int a4, .null, .null, .null] [] w := mx_seg mo_X3_put [46, 61] 20 K
set_option maxRecDepth 20000 in
theorem sg_X3_put_46 {call : mz_C} {Q : mz_Q} {a1 a2 a3 a4 a5 a6 : Int32} {j7 : Value} {w : mz_M}
    (K : (((w 1 3) < a6) → (∃ (r1 : Int32) (w1 : mz_M), call 91 [.ref 0, .int ((-1000004 : Int32))] w (some (.int r1)) w1 ∧ (Q (some (.int r1)) w1))) ∧ ((¬ (w 1 3) < a6) → (mz_Ex cd_X3_put call Q 61 [.ref 0, .int a1, .int a2, .int a3, .int a4, .int a5, .int a6, .int (nI 0)] [] w))) :
    mz_Ex cd_X3_put call Q 46 [.ref 0, .int a1, .int a2, .int a3, .int a4, .int a5, .int a6, j7] [] w := mx_seg mo_X3_put [46, 61] 10 K
set_option maxRecDepth 20000 in
theorem sg_X3_put_61 {call : mz_C} {Q : mz_Q} {a1 a2 a3 a4 a5 a6 a7 : Int32} {w : mz_M}
    (K : ((a5 < a7) → (mz_Ex cd_X3_put call Q 46 [.ref 0, .int a1, .int a2, .int a3, .int a4, .int a5, .int (a6 + (nI 1)), .int a7] [] w)) ∧ ((¬ a5 < a7) → (∃ (r1 : Int32) (w1 : mz_M), call 212 [.int a7] w (some (.int r1)) w1 ∧ (((r1 = a6) → (∃ (r2 : Int32) (w2 : mz_M), call 103 [.ref 0, .int a7, .int a1, .int a2, .int a4] w1 (some (.int r2)) w2 ∧ (((r2 < a3) → (mz_Ex cd_X3_put call Q 61 [.ref 0, .int a1, .int a2, .int a3, .int a4, .int a5, .int a6, .int (a7 + (nI 1))] [] w2)) ∧ ((¬ r2 < a3) → (Q (some (.int a7)) w2))))) ∧ ((¬ r1 = a6) → (mz_Ex cd_X3_put call Q 61 [.ref 0, .int a1, .int a2, .int a3, .int a4, .int a5, .int a6, .int (a7 + (nI 1))] [] w1)))))) :
    mz_Ex cd_X3_put call Q 61 [.ref 0, .int a1, .int a2, .int a3, .int a4, .int a5, .int a6, .int a7] [] w := mx_seg mo_X3_put [46, 61] 18 K
set_option maxRecDepth 20000 in
theorem sg_X3_apart_0 {call : mz_C} {Q : mz_Q} {a1 a2 a3 a4 : Int32} {w : mz_M}
    (K : ∃ (r1 : Int32) (w1 : mz_M), call 98 [.ref 0, .int a1, .int a2] w (some (.int r1)) w1 ∧ (((r1 = nI 0) → (∃ (r2 : Int32) (w2 : mz_M), call 91 [.ref 0, .int ((-1000001 : Int32))] w1 (some (.int r2)) w2 ∧ (Q (some (.int r2)) w2))) ∧ ((¬ r1 = nI 0) → (∃ (r3 : Int32) (w3 : mz_M), call 94 [.int a3] w1 (some (.int r3)) w3 ∧ (((r3 = nI 0) → (∃ (r4 : Int32) (w4 : mz_M), call 91 [.ref 0, .int ((-1000001 : Int32))] w3 (some (.int r4)) w4 ∧ (Q (some (.int r4)) w4))) ∧ ((¬ r3 = nI 0) → (∃ (r5 : Int32) (w5 : mz_M), call 92 [.int a4, .int (nI 0), .int (nI 12)] w3 (some (.int r5)) w5 ∧ (((r5 = nI 0) → (∃ (r6 : Int32) (w6 : mz_M), call 91 [.ref 0, .int ((-1000001 : Int32))] w5 (some (.int r6)) w6 ∧ (Q (some (.int r6)) w6))) ∧ ((¬ r5 = nI 0) → (∃ (r7 : Int32) (w7 : mz_M), call 3 [.ref 1] w5 (some (.int r7)) w7 ∧ (mz_Ex cd_X3_apart call Q 46 [.ref 0, .int a1, .int a2, .int a3, .int a4, .int r7, .int (nI 0), .null] [] w7))))))))))) :
    mz_Ex cd_X3_apart call Q 0 [.ref 0, .int a1, .int a2, .int a3, .int a4, .null, .null, .null] [] w := mx_seg mo_X3_apart [46, 61] 20 K
set_option maxRecDepth 20000 in
theorem sg_X3_apart_46 {call : mz_C} {Q : mz_Q} {a1 a2 a3 a4 a5 a6 : Int32} {j7 : Value} {w : mz_M}
    (K : (((w 1 3) < a6) → (∃ (r1 : Int32) (w1 : mz_M), call 91 [.ref 0, .int ((-1000004 : Int32))] w (some (.int r1)) w1 ∧ (Q (some (.int r1)) w1))) ∧ ((¬ (w 1 3) < a6) → (mz_Ex cd_X3_apart call Q 61 [.ref 0, .int a1, .int a2, .int a3, .int a4, .int a5, .int a6, .int (nI 0)] [] w))) :
    mz_Ex cd_X3_apart call Q 46 [.ref 0, .int a1, .int a2, .int a3, .int a4, .int a5, .int a6, j7] [] w := mx_seg mo_X3_apart [46, 61] 10 K
set_option maxRecDepth 20000 in
theorem sg_X3_apart_61 {call : mz_C} {Q : mz_Q} {a1 a2 a3 a4 a5 a6 a7 : Int32} {w : mz_M}
    (K : ((a5 < a7) → (mz_Ex cd_X3_apart call Q 46 [.ref 0, .int a1, .int a2, .int a3, .int a4, .int a5, .int (a6 + (nI 1)), .int a7] [] w)) ∧ ((¬ a5 < a7) → (∃ (r1 : Int32) (w1 : mz_M), call 212 [.int a7] w (some (.int r1)) w1 ∧ (((r1 = a6) → (∃ (r2 : Int32) (w2 : mz_M), call 104 [.ref 0, .int a7, .int a1, .int a2, .int a4] w1 (some (.int r2)) w2 ∧ (((a3 < r2) → (mz_Ex cd_X3_apart call Q 61 [.ref 0, .int a1, .int a2, .int a3, .int a4, .int a5, .int a6, .int (a7 + (nI 1))] [] w2)) ∧ ((¬ a3 < r2) → (Q (some (.int a7)) w2))))) ∧ ((¬ r1 = a6) → (mz_Ex cd_X3_apart call Q 61 [.ref 0, .int a1, .int a2, .int a3, .int a4, .int a5, .int a6, .int (a7 + (nI 1))] [] w1)))))) :
    mz_Ex cd_X3_apart call Q 61 [.ref 0, .int a1, .int a2, .int a3, .int a4, .int a5, .int a6, .int a7] [] w := mx_seg mo_X3_apart [46, 61] 18 K
set_option maxRecDepth 20000 in
theorem sg_X3_kindFor_0 {call : mz_C} {Q : mz_Q} {a1 a2 : Int32} {w : mz_M}
    (K : ∃ (r1 : Int32) (w1 : mz_M), call 97 [.ref 0, .int a1] w (some (.int r1)) w1 ∧ (((r1 = nI 0) → (∃ (r2 : Int32) (w2 : mz_M), call 91 [.ref 0, .int ((-1000001 : Int32))] w1 (some (.int r2)) w2 ∧ (Q (some (.int r2)) w2))) ∧ ((¬ r1 = nI 0) → (∃ (r3 : Int32) (w3 : mz_M), call 92 [.int a2, .int (nI 0), .int (nI 40)] w1 (some (.int r3)) w3 ∧ (((r3 = nI 0) → (∃ (r4 : Int32) (w4 : mz_M), call 91 [.ref 0, .int ((-1000001 : Int32))] w3 (some (.int r4)) w4 ∧ (Q (some (.int r4)) w4))) ∧ ((¬ r3 = nI 0) → (mz_Ex cd_X3_kindFor call Q 33 [.ref 0, .int a1, .int a2, .int (nI 0), .int ((-1 : Int32)), .int (nI 0), .null] [] w3))))))) :
    mz_Ex cd_X3_kindFor call Q 0 [.ref 0, .int a1, .int a2, .null, .null, .null, .null] [] w := mx_seg mo_X3_kindFor [33] 16 K
set_option maxRecDepth 20000 in
theorem sg_X3_kindFor_33 {call : mz_C} {Q : mz_Q} {a1 a2 a3 a4 a5 : Int32} {j6 : Value} {w : mz_M}
    (K : ((a5 < (nI 7)) → (∃ w1, call 0 [.ref 9, .ref 1] w none w1 ∧ (vp_in a1 8 ∧ (∃ w2, call 17 [.ref 9, .int a2] (mz_up w1 11 (upd (w1 11) a1.toNatClampNeg a5)) none w2 ∧ (∃ (r3 : Int32) (w3 : mz_M), call 7 [.ref 9, .int a1] w2 (some (.int r3)) w3 ∧ (((a4 < r3) → (mz_Ex cd_X3_kindFor call Q 33 [.ref 0, .int a1, .int a2, .int a5, .int r3, .int (a5 + (nI 1)), .int r3] [] w3)) ∧ ((¬ a4 < r3) → (mz_Ex cd_X3_kindFor call Q 33 [.ref 0, .int a1, .int a2, .int a3, .int a4, .int (a5 + (nI 1)), .int r3] [] w3)))))))) ∧ ((¬ a5 < (nI 7)) → (Q (some (.int a3)) w))) :
    mz_Ex cd_X3_kindFor call Q 33 [.ref 0, .int a1, .int a2, .int a3, .int a4, .int a5, j6] [] w := mx_seg mo_X3_kindFor [33] 33 K
set_option maxRecDepth 20000 in
theorem sg_X3_dampFor_0 {call : mz_C} {Q : mz_Q} {a1 a2 a3 a4 : Int32} {w : mz_M}
    (K : ∃ (r1 : Int32) (w1 : mz_M), call 98 [.ref 0, .int a1, .int a2] w (some (.int r1)) w1 ∧ (((r1 = nI 0) → (∃ (r2 : Int32) (w2 : mz_M), call 91 [.ref 0, .int ((-1000001 : Int32))] w1 (some (.int r2)) w2 ∧ (Q (some (.int r2)) w2))) ∧ ((¬ r1 = nI 0) → (∃ (r3 : Int32) (w3 : mz_M), call 94 [.int a3] w1 (some (.int r3)) w3 ∧ (((r3 = nI 0) → (∃ (r4 : Int32) (w4 : mz_M), call 91 [.ref 0, .int ((-1000001 : Int32))] w3 (some (.int r4)) w4 ∧ (Q (some (.int r4)) w4))) ∧ ((¬ r3 = nI 0) → (∃ (r5 : Int32) (w5 : mz_M), call 92 [.int a4, .int (nI 0), .int (nI 40)] w3 (some (.int r5)) w5 ∧ (((r5 = nI 0) → (∃ (r6 : Int32) (w6 : mz_M), call 91 [.ref 0, .int ((-1000001 : Int32))] w5 (some (.int r6)) w6 ∧ (Q (some (.int r6)) w6))) ∧ ((¬ r5 = nI 0) → (mz_Ex cd_X3_dampFor call Q 37 [.ref 0, .int a1, .int a2, .int a3, .int a4, .int (nI 0)] [] w5)))))))))) :
    mz_Ex cd_X3_dampFor call Q 0 [.ref 0, .int a1, .int a2, .int a3, .int a4, .null] [] w := mx_seg mo_X3_dampFor [37] 18 K
set_option maxRecDepth 20000 in
theorem sg_X3_dampFor_37 {call : mz_C} {Q : mz_Q} {a1 a2 a3 a4 a5 : Int32} {w : mz_M}
    (K : (((nI 9) < a5) → (∃ (r1 : Int32) (w1 : mz_M), call 91 [.ref 0, .int ((-1000004 : Int32))] w (some (.int r1)) w1 ∧ (Q (some (.int r1)) w1))) ∧ ((¬ (nI 9) < a5) → (∃ w2, call 0 [.ref 9, .ref 1] w none w2 ∧ (∃ (r3 : Int32) (w3 : mz_M), call 102 [.ref 0, .int a1, .int a2, .int a4] (mz_up w2 9 (upd (w2 9) 0 a5)) (some (.int r3)) w3 ∧ (((r3 < a3) → (mz_Ex cd_X3_dampFor call Q 37 [.ref 0, .int a1, .int a2, .int a3, .int a4, .int (a5 + (nI 1))] [] w3)) ∧ ((¬ r3 < a3) → (Q (some (.int a5)) w3))))))) :
    mz_Ex cd_X3_dampFor call Q 37 [.ref 0, .int a1, .int a2, .int a3, .int a4, .int a5] [] w := mx_seg mo_X3_dampFor [37] 22 K
set_option maxRecDepth 20000 in
theorem sg_X3_divorce_0 {call : mz_C} {Q : mz_Q} {a1 : Int32} {w : mz_M}
    (K : ∃ (r1 : Int32) (w1 : mz_M), call 95 [.int a1] w (some (.int r1)) w1 ∧ (((r1 = nI 0) → (∃ (r2 : Int32) (w2 : mz_M), call 91 [.ref 0, .int ((-1000001 : Int32))] w1 (some (.int r2)) w2 ∧ (Q (some (.int r2)) w2))) ∧ ((¬ r1 = nI 0) → (mz_Ex cd_X3_divorce call Q 21 [.ref 0, .int a1, .int ((-1 : Int32)), .int (nI 0), .int (nI 0), .null] [] w1)))) :
    mz_Ex cd_X3_divorce call Q 0 [.ref 0, .int a1, .null, .null, .null, .null] [] w := mx_seg mo_X3_divorce [21] 10 K
set_option maxRecDepth 20000 in
theorem sg_X3_divorce_21 {call : mz_C} {Q : mz_Q} {a1 a2 a3 a4 : Int32} {j5 : Value} {w : mz_M}
    (K : ((a4 < (w 1 3)) → (∃ w1, call 0 [.ref 9, .ref 1] w none w1 ∧ (∃ w2, call 6 [.ref 9, .int a4] w1 none w2 ∧ (∃ (r3 : Int32) (w3 : mz_M), call 25 [.ref 9, .int a1] w2 (some (.int r3)) w3 ∧ (((a3 < r3) → (mz_Ex cd_X3_divorce call Q 21 [.ref 0, .int a1, .int a4, .int r3, .int (a4 + (nI 1)), .int r3] [] w3)) ∧ ((¬ a3 < r3) → (mz_Ex cd_X3_divorce call Q 21 [.ref 0, .int a1, .int a2, .int a3, .int (a4 + (nI 1)), .int r3] [] w3))))))) ∧ ((¬ a4 < (w 1 3)) → (((a2 = (-1 : Int32)) → (∃ (r4 : Int32) (w4 : mz_M), call 91 [.ref 0, .int ((-1000004 : Int32))] w (some (.int r4)) w4 ∧ (Q (some (.int r4)) w4))) ∧ ((¬ a2 = (-1 : Int32)) → (Q (some (.int a2)) w))))) :
    mz_Ex cd_X3_divorce call Q 21 [.ref 0, .int a1, .int a2, .int a3, .int a4, j5] [] w := mx_seg mo_X3_divorce [21] 29 K
set_option maxRecDepth 20000 in
theorem sg_X3_fits_0 {call : mz_C} {Q : mz_Q} {a1 a2 a3 a4 : Int32} {w : mz_M}
    (K : ∃ (r1 : Int32) (w1 : mz_M), call 101 [.ref 0, .int a1, .int a2, .int a3, .int a4] w (some (.int r1)) w1 ∧ (((r1 = nI 0) → (∃ (r2 : Int32) (w2 : mz_M), call 3 [.ref 1] w1 (some (.int r2)) w2 ∧ (mz_Ex cd_X3_fits call Q 38 [.ref 0, .int a1, .int a2, .int a3, .int a4, .int r1, .int r2, .int (nI 0), .int (nI 0)] [] w2))) ∧ ((¬ r1 = nI 0) → (∃ (r3 : Int32) (w3 : mz_M), call 91 [.ref 0, .int r1] w1 (some (.int r3)) w3 ∧ (Q (some (.int r3)) w3))))) :
    mz_Ex cd_X3_fits call Q 0 [.ref 0, .int a1, .int a2, .int a3, .int a4, .null, .null, .null, .null] [] w := mx_seg mo_X3_fits [38] 18 K
set_option maxRecDepth 20000 in
theorem sg_X3_fits_38 {call : mz_C} {Q : mz_Q} {a1 a2 a3 a4 a6 a7 a8 : Int32} {j5 : Value} {w : mz_M}
    (K : ((a6 < a8) → (Q (some (.int (a7 <<< (((nI 8) - (w 1 3)) &&& 31)))) w)) ∧ ((¬ a6 < a8) → (vp_in a1 4 ∧ (mz_Ex cd_X3_fits call Q 52 [.ref 0, .int a1, .int a2, .int a3, .int a4, j5, .int a6, .int a7, .int a8] [.ref ([28, 30, 32, 34].getD a1.toNatClampNeg 0), .ref 0] w)))) :
    mz_Ex cd_X3_fits call Q 38 [.ref 0, .int a1, .int a2, .int a3, .int a4, j5, .int a6, .int a7, .int a8] [] w := mx_seg mo_X3_fits [38, 52] 12 K
set_option maxRecDepth 20000 in
theorem sg_X3_fits_52 {call : mz_C} {Q : mz_Q} {k : Nat} {a1 a2 a3 a4 a6 a7 a8 : Int32} {j5 : Value} {w : mz_M} (hk : k = 28 ∨ k = 30 ∨ k = 32 ∨ k = 34)
    (K : ∃ (r1 : Int32) (w1 : mz_M), call 105 [.ref 0, .ref k, .int a2, .int a8, .int a3, .int a4] w (some (.int r1)) w1 ∧ (((r1 = nI 0) → (mz_Ex cd_X3_fits call Q 38 [.ref 0, .int a1, .int a2, .int a3, .int a4, j5, .int a6, .int a7, .int (a8 + (nI 1))] [] w1)) ∧ ((¬ r1 = nI 0) → (mz_Ex cd_X3_fits call Q 38 [.ref 0, .int a1, .int a2, .int a3, .int a4, j5, .int a6, .int (a7 + (nI 1)), .int (a8 + (nI 1))] [] w1)))) :
    mz_Ex cd_X3_fits call Q 52 [.ref 0, .int a1, .int a2, .int a3, .int a4, j5, .int a6, .int a7, .int a8] [.ref k, .ref 0] w := by
  rcases hk with rfl | rfl | rfl | rfl <;> exact mx_seg mo_X3_fits [38, 52] 10 K
set_option maxRecDepth 20000 in
theorem sg_X3_went_0 {call : mz_C} {Q : mz_Q} {a1 a2 a3 a4 : Int32} {w : mz_M}
    (K : ∃ (r1 : Int32) (w1 : mz_M), call 101 [.ref 0, .int a1, .int a2, .int a3, .int a4] w (some (.int r1)) w1 ∧ (((r1 = nI 0) → (∃ (r2 : Int32) (w2 : mz_M), call 3 [.ref 1] w1 (some (.int r2)) w2 ∧ (mz_Ex cd_X3_went call Q 35 [.ref 0, .int a1, .int a2, .int a3, .int a4, .int r1, .int r2, .int (nI 0)] [] w2))) ∧ ((¬ r1 = nI 0) → (∃ (r3 : Int32) (w3 : mz_M), call 91 [.ref 0, .int r1] w1 (some (.int r3)) w3 ∧ (Q (some (.int r3)) w3))))) :
    mz_Ex cd_X3_went call Q 0 [.ref 0, .int a1, .int a2, .int a3, .int a4, .null, .null, .null] [] w := mx_seg mo_X3_went [35] 16 K
set_option maxRecDepth 20000 in
theorem sg_X3_went_35 {call : mz_C} {Q : mz_Q} {a1 a2 a3 a4 a6 a7 : Int32} {j5 : Value} {w : mz_M}
    (K : ((a6 < a7) → (∃ (r1 : Int32) (w1 : mz_M), call 91 [.ref 0, .int ((-1000004 : Int32))] w (some (.int r1)) w1 ∧ (Q (some (.int r1)) w1))) ∧ ((¬ a6 < a7) → (vp_in a1 4 ∧ (mz_Ex cd_X3_went call Q 49 [.ref 0, .int a1, .int a2, .int a3, .int a4, j5, .int a6, .int a7] [.ref ([28, 30, 32, 34].getD a1.toNatClampNeg 0), .ref 0] w)))) :
    mz_Ex cd_X3_went call Q 35 [.ref 0, .int a1, .int a2, .int a3, .int a4, j5, .int a6, .int a7] [] w := mx_seg mo_X3_went [35, 49] 9 K
set_option maxRecDepth 20000 in
theorem sg_X3_went_49 {call : mz_C} {Q : mz_Q} {k : Nat} {a1 a2 a3 a4 a6 a7 : Int32} {j5 : Value} {w : mz_M} (hk : k = 28 ∨ k = 30 ∨ k = 32 ∨ k = 34)
    (K : ∃ (r1 : Int32) (w1 : mz_M), call 105 [.ref 0, .ref k, .int a2, .int a7, .int a3, .int a4] w (some (.int r1)) w1 ∧ (((r1 = nI 0) → (mz_Ex cd_X3_went call Q 35 [.ref 0, .int a1, .int a2, .int a3, .int a4, j5, .int a6, .int (a7 + (nI 1))] [] w1)) ∧ ((¬ r1 = nI 0) → (Q (some (.int a7)) w1)))) :
    mz_Ex cd_X3_went call Q 49 [.ref 0, .int a1, .int a2, .int a3, .int a4, j5, .int a6, .int a7] [.ref k, .ref 0] w := by
  rcases hk with rfl | rfl | rfl | rfl <;> exact mx_seg mo_X3_went [35, 49] 9 K
set_option maxRecDepth 20000 in
theorem sg_X3_kinds_0 {call : mz_C} {Q : mz_Q} {a1 a2 : Int32} {w : mz_M}
    (K : ∃ (r1 : Int32) (w1 : mz_M), call 100 [.ref 0, .int a1] w (some (.int r1)) w1 ∧ (((r1 = nI 0) → (∃ (r2 : Int32) (w2 : mz_M), call 97 [.ref 0, .int a2] w1 (some (.int r2)) w2 ∧ (((r2 = nI 0) → (∃ (r3 : Int32) (w3 : mz_M), call 91 [.ref 0, .int ((-1000001 : Int32))] w2 (some (.int r3)) w3 ∧ (Q (some (.int r3)) w3))) ∧ ((¬ r2 = nI 0) → (mz_Ex cd_X3_kinds call Q 37 [.ref 0, .int a1, .int a2, .int r1, .int (nI 0), .int (nI 0)] [] w2))))) ∧ ((¬ r1 = nI 0) → (∃ (r4 : Int32) (w4 : mz_M), call 91 [.ref 0, .int r1] w1 (some (.int r4)) w4 ∧ (Q (some (.int r4)) w4))))) :
    mz_Ex cd_X3_kinds call Q 0 [.ref 0, .int a1, .int a2, .null, .null, .null] [] w := mx_seg mo_X3_kinds [37] 15 K
set_option maxRecDepth 20000 in
theorem sg_X3_kinds_37 {call : mz_C} {Q : mz_Q} {a1 a2 a4 a5 : Int32} {j3 : Value} {w : mz_M}
    (K : ((a5 < (nI 7)) → (∃ w1, call 0 [.ref 9, .ref 1] w none w1 ∧ (vp_in a2 8 ∧ (vp_in a1 4 ∧ (mz_Ex cd_X3_kinds call Q 73 [.ref 0, .int a1, .int a2, j3, .int a4, .int a5] [.ref ([28, 30, 32, 34].getD a1.toNatClampNeg 0), .ref 0] (mz_up w1 11 (upd (w1 11) a2.toNatClampNeg a5))))))) ∧ ((¬ a5 < (nI 7)) → (Q (some (.int a4)) w))) :
    mz_Ex cd_X3_kinds call Q 37 [.ref 0, .int a1, .int a2, j3, .int a4, .int a5] [] w := mx_seg mo_X3_kinds [37, 73] 20 K
set_option maxRecDepth 20000 in
theorem sg_X3_kinds_73 {call : mz_C} {Q : mz_Q} {k : Nat} {a1 a2 a4 a5 : Int32} {j3 : Value} {w : mz_M} (hk : k = 28 ∨ k = 30 ∨ k = 32 ∨ k = 34)
    (K : ∃ (r1 : Int32) (w1 : mz_M), call 106 [.ref 0, .ref k, .int a2, .int ((-1 : Int32))] w (some (.int r1)) w1 ∧ (((r1 = nI 0) → (mz_Ex cd_X3_kinds call Q 37 [.ref 0, .int a1, .int a2, j3, .int a4, .int (a5 + (nI 1))] [] w1)) ∧ ((¬ r1 = nI 0) → (mz_Ex cd_X3_kinds call Q 37 [.ref 0, .int a1, .int a2, j3, .int (a4 ||| ((nI 1) <<< (a5 &&& 31))), .int (a5 + (nI 1))] [] w1)))) :
    mz_Ex cd_X3_kinds call Q 73 [.ref 0, .int a1, .int a2, j3, .int a4, .int a5] [.ref k, .ref 0] w := by
  rcases hk with rfl | rfl | rfl | rfl <;> exact mx_seg mo_X3_kinds [37, 73] 13 K
set_option maxRecDepth 20000 in
theorem sg_X3_washes_0 {call : mz_C} {Q : mz_Q} {a1 : Int32} {w : mz_M}
    (K : ∃ (r1 : Int32) (w1 : mz_M), call 92 [.int a1, .int (nI 1), .int (nI 20)] w (some (.int r1)) w1 ∧ (((r1 = nI 0) → (∃ (r2 : Int32) (w2 : mz_M), call 91 [.ref 0, .int ((-1000001 : Int32))] w1 (some (.int r2)) w2 ∧ (Q (some (.int r2)) w2))) ∧ ((¬ r1 = nI 0) → ((((nI 99999) < ((w1 1 1) + a1)) → (∃ (r3 : Int32) (w3 : mz_M), call 91 [.ref 0, .int ((-1000005 : Int32))] w1 (some (.int r3)) w3 ∧ (Q (some (.int r3)) w3))) ∧ ((¬ (nI 99999) < ((w1 1 1) + a1)) → (mz_Ex cd_X3_washes call Q 40 [.ref 0, .int a1, .int (nI 0), .null] [] w1)))))) :
    mz_Ex cd_X3_washes call Q 0 [.ref 0, .int a1, .null, .null] [] w := mx_seg mo_X3_washes [40] 17 K
set_option maxRecDepth 20000 in
theorem sg_X3_washes_40 {call : mz_C} {Q : mz_Q} {a1 a2 : Int32} {j3 : Value} {w : mz_M}
    (K : ((a2 < a1) → (∃ (r1 : Int32) (w1 : mz_M), call 27 [.ref 1] w (some (.int r1)) w1 ∧ (∃ (r2 : Int32) (w2 : mz_M), call 15 [.ref 1] w1 (some (.int r2)) w2 ∧ (vp_in r2 6 ∧ (∃ w3, call 18 [.ref 1] (mz_up w2 2 (upd (w2 2) r2.toNatClampNeg (r1 &&& (nI 255)))) none w3 ∧ (mz_Ex cd_X3_washes call Q 40 [.ref 0, .int a1, .int (a2 + (nI 1)), .int (r1 &&& (nI 255))] [] w3)))))) ∧ ((¬ a2 < a1) → (∃ (r4 : Int32) (w4 : mz_M), call 9 [.ref 1] w (some (.int r4)) w4 ∧ (Q (some (.int r4)) w4)))) :
    mz_Ex cd_X3_washes call Q 40 [.ref 0, .int a1, .int a2, j3] [] w := mx_seg mo_X3_washes [40] 23 K
set_option maxRecDepth 20000 in
theorem sg_X3_odds_0 {call : mz_C} {Q : mz_Q} {a1 a2 a3 : Int32} {w : mz_M}
    (K : ∃ (r1 : Int32) (w1 : mz_M), call 97 [.ref 0, .int a1] w (some (.int r1)) w1 ∧ (((r1 = nI 0) → (∃ (r2 : Int32) (w2 : mz_M), call 91 [.ref 0, .int ((-1000001 : Int32))] w1 (some (.int r2)) w2 ∧ (Q (some (.long (r2.toInt64))) w2))) ∧ ((¬ r1 = nI 0) → (∃ (r3 : Int32) (w3 : mz_M), call 92 [.int a2, .int (nI 0), .int (nI 40)] w1 (some (.int r3)) w3 ∧ (((r3 = nI 0) → (∃ (r4 : Int32) (w4 : mz_M), call 91 [.ref 0, .int ((-1000001 : Int32))] w3 (some (.int r4)) w4 ∧ (Q (some (.long (r4.toInt64))) w4))) ∧ ((¬ r3 = nI 0) → (∃ (r5 : Int32) (w5 : mz_M), call 92 [.int a3, .int (nI 0), .int (nI 1)] w3 (some (.int r5)) w5 ∧ (((r5 = nI 0) → (∃ (r6 : Int32) (w6 : mz_M), call 91 [.ref 0, .int ((-1000001 : Int32))] w5 (some (.int r6)) w6 ∧ (Q (some (.long (r6.toInt64))) w6))) ∧ ((¬ r5 = nI 0) → (((a3 = nI 0) → (Q (some (.long (1))) w5)) ∧ ((¬ a3 = nI 0) → (Q (some (.long (1 <<< (a2.toInt64 &&& 63)))) w5)))))))))))) :
    mz_Ex cd_X3_odds call Q 0 [.ref 0, .int a1, .int a2, .int a3] [] w := mx_seg mo_X3_odds [] 21 K
set_option maxRecDepth 20000 in
theorem sg_X3_seed_0 {call : mz_C} {Q : mz_Q} {a1 : Int32} {w : mz_M}
    (K : Q (some (.int (w 1 4))) (mz_up w 1 (upd (w 1) 4 a1))) :
    mz_Ex cd_X3_seed call Q 0 [.ref 0, .int a1, .null] [] w := mx_seg mo_X3_seed [] 11 K
set_option maxRecDepth 20000 in
theorem sg_X3_feed_0 {call : mz_C} {Q : mz_Q} {a1 a2 : Int32} {w : mz_M}
    (K : ∃ (r1 : Int32) (w1 : mz_M), call 92 [.int a2, .int (nI 1), .int (nI 4)] w (some (.int r1)) w1 ∧ (((r1 = nI 0) → (∃ (r2 : Int32) (w2 : mz_M), call 91 [.ref 0, .int ((-1000001 : Int32))] w1 (some (.int r2)) w2 ∧ (Q (some (.int r2)) w2))) ∧ ((¬ r1 = nI 0) → ((((nI 120) < ((w1 25 1) + a2)) → (∃ (r3 : Int32) (w3 : mz_M), call 91 [.ref 0, .int ((-1000002 : Int32))] w1 (some (.int r3)) w3 ∧ (Q (some (.int r3)) w3))) ∧ ((¬ (nI 120) < ((w1 25 1) + a2)) → (mz_Ex cd_X3_feed call Q 41 [.ref 0, .int a1, .int a2, .int (a2 - (nI 1))] [] w1)))))) :
    mz_Ex cd_X3_feed call Q 0 [.ref 0, .int a1, .int a2, .null] [] w := mx_seg mo_X3_feed [41] 17 K
set_option maxRecDepth 20000 in
theorem sg_X3_feed_41 {call : mz_C} {Q : mz_Q} {a1 a3 : Int32} {j2 : Value} {w : mz_M}
    (K : ((a3 < nI 0) → (Q (some (.int (w 25 1))) w)) ∧ ((¬ a3 < nI 0) → (∃ w1, call 34 [.ref 25, .int (((a1.toUInt32 >>> (((nI 8) * a3).toUInt32 &&& Int32.toUInt32 31)).toInt32) &&& (nI 255))] w none w1 ∧ (mz_Ex cd_X3_feed call Q 41 [.ref 0, .int a1, j2, .int (a3 + ((-1 : Int32)))] [] w1)))) :
    mz_Ex cd_X3_feed call Q 41 [.ref 0, .int a1, j2, .int a3] [] w := mx_seg mo_X3_feed [41] 15 K
set_option maxRecDepth 20000 in
theorem sg_X3_wipe_0 {call : mz_C} {Q : mz_Q} {w : mz_M}
    (K : Q (some (.int (w 25 1))) (mz_up w 25 (upd (w 25) 1 (nI 0)))) :
    mz_Ex cd_X3_wipe call Q 0 [.ref 0, .null] [] w := mx_seg mo_X3_wipe [] 11 K
set_option maxRecDepth 20000 in
theorem sg_X3_text_0 {call : mz_C} {Q : mz_Q} {w : mz_M}
    (K : ∃ w1, call 0 [.ref 9, .ref 1] w none w1 ∧ (∃ (r2 : Int32) (w2 : mz_M), call 35 [.ref 25, .ref 9] w1 (some (.int r2)) w2 ∧ (let v1 : mz_M := (mz_up w2 25 (upd (w2 25) 1 (nI 0))); (((r2 < nI 0) → (Q (some (.int r2)) v1)) ∧ ((¬ r2 < nI 0) → (∃ w4, call 0 [.ref 1, .ref 9] v1 none w4 ∧ (Q (some (.int r2)) w4))))))) :
    mz_Ex cd_X3_text call Q 0 [.ref 0, .null] [] w := mx_seg mo_X3_text [] 25 K
set_option maxRecDepth 20000 in
theorem sg_X3_hold_0 {call : mz_C} {Q : mz_Q} {a1 a2 : Int32} {w : mz_M}
    (K : ∃ (r1 : Int32) (w1 : mz_M), call 92 [.int a1, .int (nI 0), .int (nI 9)] w (some (.int r1)) w1 ∧ (((r1 = nI 0) → (∃ (r2 : Int32) (w2 : mz_M), call 91 [.ref 0, .int ((-1000001 : Int32))] w1 (some (.int r2)) w2 ∧ (Q (some (.int r2)) w2))) ∧ ((¬ r1 = nI 0) → (((a2 = (-1 : Int32)) → (vp_in a1 10 ∧ (Q (some (.int (nI 1))) (mz_up w1 6 (upd (w1 6) a1.toNatClampNeg a2))))) ∧ ((¬ a2 = (-1 : Int32)) → (∃ (r3 : Int32) (w3 : mz_M), call 97 [.ref 0, .int a2] w1 (some (.int r3)) w3 ∧ (((r3 = nI 0) → (∃ (r4 : Int32) (w4 : mz_M), call 91 [.ref 0, .int ((-1000001 : Int32))] w3 (some (.int r4)) w4 ∧ (Q (some (.int r4)) w4))) ∧ ((¬ r3 = nI 0) → (vp_in a1 10 ∧ (Q (some (.int (nI 1))) (mz_up w3 6 (upd (w3 6) a1.toNatClampNeg a2)))))))))))) :
    mz_Ex cd_X3_hold call Q 0 [.ref 0, .int a1, .int a2] [] w := mx_seg mo_X3_hold [] 21 K
set_option maxRecDepth 20000 in
theorem sg_X3_as_0 {call : mz_C} {Q : mz_Q} {a1 a2 : Int32} {w : mz_M}
    (K : ∃ (r1 : Int32) (w1 : mz_M), call 92 [.int a1, .int (nI 0), .int (nI 9)] w (some (.int r1)) w1 ∧ (((r1 = nI 0) → (∃ (r2 : Int32) (w2 : mz_M), call 91 [.ref 0, .int ((-1000001 : Int32))] w1 (some (.int r2)) w2 ∧ (Q (some (.int r2)) w2))) ∧ ((¬ r1 = nI 0) → (∃ (r3 : Int32) (w3 : mz_M), call 93 [.int a2] w1 (some (.int r3)) w3 ∧ (((r3 = nI 0) → (∃ (r4 : Int32) (w4 : mz_M), call 91 [.ref 0, .int ((-1000001 : Int32))] w3 (some (.int r4)) w4 ∧ (Q (some (.int r4)) w4))) ∧ ((¬ r3 = nI 0) → (vp_in a1 10 ∧ (∃ (r5 : Int32) (w5 : mz_M), call 97 [.ref 0, .int (w3 6 a1.toNatClampNeg)] w3 (some (.int r5)) w5 ∧ (((r5 = nI 0) → (∃ (r6 : Int32) (w6 : mz_M), call 91 [.ref 0, .int ((-1000006 : Int32))] w5 (some (.int r6)) w6 ∧ (Q (some (.int r6)) w6))) ∧ ((¬ r5 = nI 0) → (vp_in (w3 6 a1.toNatClampNeg) 8 ∧ (∃ (r7 : Int32) (w7 : mz_M), call 99 [.int (w5 3 (w3 6 a1.toNatClampNeg).toNatClampNeg), .int a2] w5 (some (.int r7)) w7 ∧ (((r7 = nI 0) → (∃ (r8 : Int32) (w8 : mz_M), call 91 [.ref 0, .int ((-1000003 : Int32))] w7 (some (.int r8)) w8 ∧ (Q (some (.int r8)) w8))) ∧ ((¬ r7 = nI 0) → (Q (some (.int (w3 6 a1.toNatClampNeg))) w7))))))))))))))) :
    mz_Ex cd_X3_as call Q 0 [.ref 0, .int a1, .int a2, .null] [] w := mx_seg mo_X3_as [] 31 K
set_option maxRecDepth 20000 in
theorem sg_X3_sheet_0 {call : mz_C} {Q : mz_Q} {a1 a2 a3 : Int32} {w : mz_M}
    (K : ∃ (r1 : Int32) (w1 : mz_M), call 96 [.int a1] w (some (.int r1)) w1 ∧ (((r1 = nI 0) → (∃ (r2 : Int32) (w2 : mz_M), call 91 [.ref 0, .int ((-1000001 : Int32))] w1 (some (.int r2)) w2 ∧ (Q (some (.int r2)) w2))) ∧ ((¬ r1 = nI 0) → (((a2 = nI 0) → (((a3 < nI 0) → (∃ (r3 : Int32) (w3 : mz_M), call 91 [.ref 0, .int ((-1000007 : Int32))] w1 (some (.int r3)) w3 ∧ (Q (some (.int r3)) w3))) ∧ ((¬ a3 < nI 0) → ((((nI 40) < a3) → (∃ (r4 : Int32) (w4 : mz_M), call 91 [.ref 0, .int ((-1000001 : Int32))] w1 (some (.int r4)) w4 ∧ (Q (some (.int r4)) w4))) ∧ ((¬ (nI 40) < a3) → (vp_in a1 4 ∧ (mz_Ex cd_X3_sheet call Q 66 [.ref 0, .int a1, .int a2, .int a3] [.ref ([28, 30, 32, 34].getD a1.toNatClampNeg 0)] w1))))))) ∧ ((¬ a2 = nI 0) → (((a2 = (nI 8)) → (((a3 < nI 0) → (∃ (r5 : Int32) (w5 : mz_M), call 91 [.ref 0, .int ((-1000007 : Int32))] w1 (some (.int r5)) w5 ∧ (Q (some (.int r5)) w5))) ∧ ((¬ a3 < nI 0) → ((((nI 40) < a3) → (∃ (r6 : Int32) (w6 : mz_M), call 91 [.ref 0, .int ((-1000001 : Int32))] w1 (some (.int r6)) w6 ∧ (Q (some (.int r6)) w6))) ∧ ((¬ (nI 40) < a3) → (vp_in a1 4 ∧ (mz_Ex cd_X3_sheet call Q 66 [.ref 0, .int a1, .int a2, .int a3] [.ref ([28, 30, 32, 34].getD a1.toNatClampNeg 0)] w1))))))) ∧ ((¬ a2 = (nI 8)) → (((a2 = (nI 16)) → (((a3 < nI 0) → (∃ (r7 : Int32) (w7 : mz_M), call 91 [.ref 0, .int ((-1000007 : Int32))] w1 (some (.int r7)) w7 ∧ (Q (some (.int r7)) w7))) ∧ ((¬ a3 < nI 0) → ((((nI 40) < a3) → (∃ (r8 : Int32) (w8 : mz_M), call 91 [.ref 0, .int ((-1000001 : Int32))] w1 (some (.int r8)) w8 ∧ (Q (some (.int r8)) w8))) ∧ ((¬ (nI 40) < a3) → (vp_in a1 4 ∧ (mz_Ex cd_X3_sheet call Q 66 [.ref 0, .int a1, .int a2, .int a3] [.ref ([28, 30, 32, 34].getD a1.toNatClampNeg 0)] w1))))))) ∧ ((¬ a2 = (nI 16)) → (((a2 = (nI 32)) → (((a3 < nI 0) → (∃ (r9 : Int32) (w9 : mz_M), call 91 [.ref 0, .int ((-1000007 : Int32))] w1 (some (.int r9)) w9 ∧ (Q (some (.int r9)) w9))) ∧ ((¬ a3 < nI 0) → ((((nI 40) < a3) → (∃ (r10 : Int32) (w10 : mz_M), call 91 [.ref 0, .int ((-1000001 : Int32))] w1 (some (.int r10)) w10 ∧ (Q (some (.int r10)) w10))) ∧ ((¬ (nI 40) < a3) → (vp_in a1 4 ∧ (mz_Ex cd_X3_sheet call Q 66 [.ref 0, .int a1, .int a2, .int a3] [.ref ([28, 30, 32, 34].getD a1.toNatClampNeg 0)] w1))))))) ∧ ((¬ a2 = (nI 32)) → (∃ (r11 : Int32) (w11 : mz_M), call 91 [.ref 0, .int ((-1000001 : Int32))] w1 (some (.int r11)) w11 ∧ (Q (some (.int r11)) w11))))))))))))) :
    mz_Ex cd_X3_sheet call Q 0 [.ref 0, .int a1, .int a2, .int a3] [] w := mx_seg mo_X3_sheet [66] 24 K
set_option maxRecDepth 20000 in
theorem sg_X3_sheet_66 {call : mz_C} {Q : mz_Q} {k : Nat} {a1 a2 a3 : Int32} {w : mz_M} (hk : k = 28 ∨ k = 30 ∨ k = 32 ∨ k = 34)
    (K : ((a2 = nI 0) → (∃ w1, call 30 [.ref k, .int a2, .int (nI 0)] w none w1 ∧ (vp_in a1 4 ∧ (mz_Ex cd_X3_sheet call Q 85 [.ref 0, .int a1, .int a2, .int a3] [.ref ([28, 30, 32, 34].getD a1.toNatClampNeg 0)] w1)))) ∧ ((¬ a2 = nI 0) → (∃ w2, call 30 [.ref k, .int a2, .int a3] w none w2 ∧ (vp_in a1 4 ∧ (mz_Ex cd_X3_sheet call Q 85 [.ref 0, .int a1, .int a2, .int a3] [.ref ([28, 30, 32, 34].getD a1.toNatClampNeg 0)] w2))))) :
    mz_Ex cd_X3_sheet call Q 66 [.ref 0, .int a1, .int a2, .int a3] [.ref k] w := by
  rcases hk with rfl | rfl | rfl | rfl <;> exact mx_seg mo_X3_sheet [66, 85] 11 K
set_option maxRecDepth 20000 in
theorem sg_X3_sheet_85 {call : mz_C} {Q : mz_Q} {k : Nat} {j0 j1 j2 j3 : Value} {w : mz_M} (hk : k = 28 ∨ k = 30 ∨ k = 32 ∨ k = 34)
    (K : Q (some (.int (w k 1))) w) :
    mz_Ex cd_X3_sheet call Q 85 [j0, j1, j2, j3] [.ref k] w := by
  rcases hk with rfl | rfl | rfl | rfl <;> exact mx_seg mo_X3_sheet [66, 85] 3 K
set_option maxRecDepth 20000 in
theorem sg_X3_write_0 {call : mz_C} {Q : mz_Q} {a1 a2 a3 : Int32} {w : mz_M}
    (K : ∃ (r1 : Int32) (w1 : mz_M), call 100 [.ref 0, .int a1] w (some (.int r1)) w1 ∧ (((r1 = nI 0) → (vp_in a1 4 ∧ (mz_Ex cd_X3_write call Q 27 [.ref 0, .int a1, .int a2, .int a3, .int r1] [.ref ([28, 30, 32, 34].getD a1.toNatClampNeg 0), .int (nI 0), .int a2] w1))) ∧ ((¬ r1 = nI 0) → (∃ (r2 : Int32) (w2 : mz_M), call 91 [.ref 0, .int r1] w1 (some (.int r2)) w2 ∧ (Q (some (.int r2)) w2))))) :
    mz_Ex cd_X3_write call Q 0 [.ref 0, .int a1, .int a2, .int a3, .null] [] w := mx_seg mo_X3_write [27] 13 K
set_option maxRecDepth 20000 in
theorem sg_X3_write_27 {call : mz_C} {Q : mz_Q} {k : Nat} {a1 a2 a3 s1 s2 : Int32} {j4 : Value} {w : mz_M} (hk : k = 28 ∨ k = 30 ∨ k = 32 ∨ k = 34)
    (K : ∃ (r1 : Int32) (w1 : mz_M), call 92 [.int s2, .int s1, .int ((w k 1) - (nI 1))] w (some (.int r1)) w1 ∧ (((r1 = nI 0) → (∃ (r2 : Int32) (w2 : mz_M), call 91 [.ref 0, .int ((-1000001 : Int32))] w1 (some (.int r2)) w2 ∧ (Q (some (.int r2)) w2))) ∧ ((¬ r1 = nI 0) → (vp_in a1 4 ∧ (mz_Ex cd_X3_write call Q 51 [.ref 0, .int a1, .int a2, .int a3, j4] [.ref ([28, 30, 32, 34].getD a1.toNatClampNeg 0)] w1))))) :
    mz_Ex cd_X3_write call Q 27 [.ref 0, .int a1, .int a2, .int a3, j4] [.ref k, .int s1, .int s2] w := by
  rcases hk with rfl | rfl | rfl | rfl <;> exact mx_seg mo_X3_write [27, 51] 10 K
set_option maxRecDepth 20000 in
theorem sg_X3_write_51 {call : mz_C} {Q : mz_Q} {k : Nat} {a2 a3 : Int32} {j0 j1 j4 : Value} {w : mz_M} (hk : k = 28 ∨ k = 30 ∨ k = 32 ∨ k = 34)
    (K : ∃ w1, call 31 [.ref k, .int a2, .int a3] w none w1 ∧ (Q (some (.int (nI 1))) w1)) :
    mz_Ex cd_X3_write call Q 51 [j0, j1, .int a2, .int a3, j4] [.ref k] w := by
  rcases hk with rfl | rfl | rfl | rfl <;> exact mx_seg mo_X3_write [27, 51] 6 K
set_option maxRecDepth 20000 in
theorem sg_X3_copy_0 {call : mz_C} {Q : mz_Q} {a1 a2 a3 a4 a5 : Int32} {w : mz_M}
    (K : ∃ (r1 : Int32) (w1 : mz_M), call 96 [.int a1] w (some (.int r1)) w1 ∧ (((r1 = nI 0) → (∃ (r2 : Int32) (w2 : mz_M), call 91 [.ref 0, .int ((-1000001 : Int32))] w1 (some (.int r2)) w2 ∧ (Q (some (.int r2)) w2))) ∧ ((¬ r1 = nI 0) → (∃ (r3 : Int32) (w3 : mz_M), call 96 [.int a3] w1 (some (.int r3)) w3 ∧ (((r3 = nI 0) → (∃ (r4 : Int32) (w4 : mz_M), call 91 [.ref 0, .int ((-1000001 : Int32))] w3 (some (.int r4)) w4 ∧ (Q (some (.int r4)) w4))) ∧ ((¬ r3 = nI 0) → (vp_in a1 4 ∧ (mz_Ex cd_X3_copy call Q 27 [.ref 0, .int a1, .int a2, .int a3, .int a4, .int a5] [.ref ([28, 30, 32, 34].getD a1.toNatClampNeg 0)] w3)))))))) :
    mz_Ex cd_X3_copy call Q 0 [.ref 0, .int a1, .int a2, .int a3, .int a4, .int a5] [] w := mx_seg mo_X3_copy [27] 11 K
set_option maxRecDepth 20000 in
theorem sg_X3_copy_27 {call : mz_C} {Q : mz_Q} {k : Nat} {a1 a2 a3 a4 a5 : Int32} {w : mz_M} (hk : k = 28 ∨ k = 30 ∨ k = 32 ∨ k = 34)
    (K : ∃ (r1 : Int32) (w1 : mz_M), call 29 [.ref k] w (some (.int r1)) w1 ∧ (((r1 = nI 0) → (vp_in a3 4 ∧ (mz_Ex cd_X3_copy call Q 39 [.ref 0, .int a1, .int a2, .int a3, .int a4, .int a5] [.ref ([28, 30, 32, 34].getD a3.toNatClampNeg 0)] w1))) ∧ ((¬ r1 = nI 0) → (∃ (r2 : Int32) (w2 : mz_M), call 91 [.ref 0, .int ((-1000006 : Int32))] w1 (some (.int r2)) w2 ∧ (Q (some (.int r2)) w2))))) :
    mz_Ex cd_X3_copy call Q 27 [.ref 0, .int a1, .int a2, .int a3, .int a4, .int a5] [.ref k] w := by
  rcases hk with rfl | rfl | rfl | rfl <;> exact mx_seg mo_X3_copy [27, 39] 7 K
set_option maxRecDepth 20000 in
theorem sg_X3_copy_39 {call : mz_C} {Q : mz_Q} {k : Nat} {a1 a2 a3 a4 a5 : Int32} {w : mz_M} (hk : k = 28 ∨ k = 30 ∨ k = 32 ∨ k = 34)
    (K : ∃ (r1 : Int32) (w1 : mz_M), call 29 [.ref k] w (some (.int r1)) w1 ∧ (((r1 = nI 0) → (vp_in a1 4 ∧ (mz_Ex cd_X3_copy call Q 58 [.ref 0, .int a1, .int a2, .int a3, .int a4, .int a5] [.ref ([28, 30, 32, 34].getD a1.toNatClampNeg 0)] w1))) ∧ ((¬ r1 = nI 0) → (∃ (r2 : Int32) (w2 : mz_M), call 91 [.ref 0, .int ((-1000006 : Int32))] w1 (some (.int r2)) w2 ∧ (Q (some (.int r2)) w2))))) :
    mz_Ex cd_X3_copy call Q 39 [.ref 0, .int a1, .int a2, .int a3, .int a4, .int a5] [.ref k] w := by
  rcases hk with rfl | rfl | rfl | rfl <;> exact mx_seg mo_X3_copy [27, 39, 58] 7 K
set_option maxRecDepth 20000 in
theorem sg_X3_copy_58 {call : mz_C} {Q : mz_Q} {k : Nat} {a1 a2 a3 a4 a5 : Int32} {w : mz_M} (hk : k = 28 ∨ k = 30 ∨ k = 32 ∨ k = 34)
    (K : vp_in a3 4 ∧ (mz_Ex cd_X3_copy call Q 67 [.ref 0, .int a1, .int a2, .int a3, .int a4, .int a5] [.ref ([28, 30, 32, 34].getD a3.toNatClampNeg 0), .int (w k 0)] w)) :
    mz_Ex cd_X3_copy call Q 58 [.ref 0, .int a1, .int a2, .int a3, .int a4, .int a5] [.ref k] w := by
  rcases hk with rfl | rfl | rfl | rfl <;> exact mx_seg mo_X3_copy [27, 39, 58, 67] 6 K
set_option maxRecDepth 20000 in
theorem sg_X3_copy_67 {call : mz_C} {Q : mz_Q} {k : Nat} {a1 a2 a3 a4 a5 s1 : Int32} {w : mz_M} (hk : k = 28 ∨ k = 30 ∨ k = 32 ∨ k = 34)
    (K : ((s1 = (w k 0)) → (vp_in a1 4 ∧ (mz_Ex cd_X3_copy call Q 86 [.ref 0, .int a1, .int a2, .int a3, .int a4, .int a5] [.ref ([28, 30, 32, 34].getD a1.toNatClampNeg 0)] w))) ∧ ((¬ s1 = (w k 0)) → (∃ (r1 : Int32) (w1 : mz_M), call 91 [.ref 0, .int ((-1000003 : Int32))] w (some (.int r1)) w1 ∧ (Q (some (.int r1)) w1)))) :
    mz_Ex cd_X3_copy call Q 67 [.ref 0, .int a1, .int a2, .int a3, .int a4, .int a5] [.ref k, .int s1] w := by
  rcases hk with rfl | rfl | rfl | rfl <;> exact mx_seg mo_X3_copy [27, 39, 58, 67, 86] 7 K
set_option maxRecDepth 20000 in
theorem sg_X3_copy_86 {call : mz_C} {Q : mz_Q} {k : Nat} {a1 a2 a3 a4 a5 : Int32} {w : mz_M} (hk : k = 28 ∨ k = 30 ∨ k = 32 ∨ k = 34)
    (K : ∃ (r1 : Int32) (w1 : mz_M), call 33 [.ref k, .int a2, .int a5] w (some (.int r1)) w1 ∧ (((r1 = nI 0) → (∃ (r2 : Int32) (w2 : mz_M), call 91 [.ref 0, .int ((-1000001 : Int32))] w1 (some (.int r2)) w2 ∧ (Q (some (.int r2)) w2))) ∧ ((¬ r1 = nI 0) → (vp_in a3 4 ∧ (mz_Ex cd_X3_copy call Q 101 [.ref 0, .int a1, .int a2, .int a3, .int a4, .int a5] [.ref ([28, 30, 32, 34].getD a3.toNatClampNeg 0)] w1))))) :
    mz_Ex cd_X3_copy call Q 86 [.ref 0, .int a1, .int a2, .int a3, .int a4, .int a5] [.ref k] w := by
  rcases hk with rfl | rfl | rfl | rfl <;> exact mx_seg mo_X3_copy [27, 39, 58, 67, 86, 101] 9 K
set_option maxRecDepth 20000 in
theorem sg_X3_copy_101 {call : mz_C} {Q : mz_Q} {k : Nat} {a1 a2 a3 a4 a5 : Int32} {w : mz_M} (hk : k = 28 ∨ k = 30 ∨ k = 32 ∨ k = 34)
    (K : ∃ (r1 : Int32) (w1 : mz_M), call 33 [.ref k, .int a4, .int a5] w (some (.int r1)) w1 ∧ (((r1 = nI 0) → (∃ (r2 : Int32) (w2 : mz_M), call 91 [.ref 0, .int ((-1000001 : Int32))] w1 (some (.int r2)) w2 ∧ (Q (some (.int r2)) w2))) ∧ ((¬ r1 = nI 0) → (vp_in a1 4 ∧ (mz_Ex cd_X3_copy call Q 124 [.ref 0, .int a1, .int a2, .int a3, .int a4, .int a5] [.ref ([28, 30, 32, 34].getD a1.toNatClampNeg 0)] w1))))) :
    mz_Ex cd_X3_copy call Q 101 [.ref 0, .int a1, .int a2, .int a3, .int a4, .int a5] [.ref k] w := by
  rcases hk with rfl | rfl | rfl | rfl <;> exact mx_seg mo_X3_copy [27, 39, 58, 67, 86, 101, 124] 9 K
set_option maxRecDepth 20000 in
theorem sg_X3_copy_124 {call : mz_C} {Q : mz_Q} {k : Nat} {a2 a3 a4 a5 : Int32} {j1 : Value} {w : mz_M} (hk : k = 28 ∨ k = 30 ∨ k = 32 ∨ k = 34)
    (K : vp_in a3 4 ∧ (mz_Ex cd_X3_copy call Q 134 [.ref 0, j1, .int a2, .int a3, .int a4, .int a5] [.ref ([28, 30, 32, 34].getD a3.toNatClampNeg 0), .int a2, .ref (k + 1)] w)) :
    mz_Ex cd_X3_copy call Q 124 [.ref 0, j1, .int a2, .int a3, .int a4, .int a5] [.ref k] w := by
  rcases hk with rfl | rfl | rfl | rfl <;> exact mx_seg mo_X3_copy [27, 39, 58, 67, 86, 101, 124, 134] 7 K
set_option maxRecDepth 20000 in
theorem sg_X3_copy_134 {call : mz_C} {Q : mz_Q} {k : Nat} {a4 a5 s1 : Int32} {j0 j1 j2 j3 : Value} {w : mz_M} (hk : k = 28 ∨ k = 30 ∨ k = 32 ∨ k = 34)
    (K : (¬ s1 < 0) ∧ (¬ a4 < 0) ∧ (¬ a5 < 0) ∧ s1.toNatClampNeg + a5.toNatClampNeg ≤ 40 ∧ a4.toNatClampNeg + a5.toNatClampNeg ≤ 40 ∧ (Q (some (.int a5)) (mz_up w (k + 1) (va_cpy (w (k + 1)) (w (k + 1)) s1.toNatClampNeg a4.toNatClampNeg a5.toNatClampNeg)))) :
    mz_Ex cd_X3_copy call Q 134 [j0, j1, j2, j3, .int a4, .int a5] [.ref k, .int s1, .ref (k + 1)] w := by
  rcases hk with rfl | rfl | rfl | rfl <;> exact mx_seg mo_X3_copy [27, 39, 58, 67, 86, 101, 124, 134] 7 K
set_option maxRecDepth 20000 in
theorem sg_X3_load_0 {call : mz_C} {Q : mz_Q} {a1 : Int32} {w : mz_M}
    (K : ∃ (r1 : Int32) (w1 : mz_M), call 100 [.ref 0, .int a1] w (some (.int r1)) w1 ∧ (((r1 = nI 0) → (mz_Ex cd_X3_load call Q 18 [.ref 0, .int a1, .int r1, .int (nI 0)] [] w1)) ∧ ((¬ r1 = nI 0) → (∃ (r2 : Int32) (w2 : mz_M), call 91 [.ref 0, .int r1] w1 (some (.int r2)) w2 ∧ (Q (some (.int r2)) w2))))) :
    mz_Ex cd_X3_load call Q 0 [.ref 0, .int a1, .null, .null] [] w := mx_seg mo_X3_load [18] 11 K
set_option maxRecDepth 20000 in
theorem sg_X3_load_18 {call : mz_C} {Q : mz_Q} {a1 a3 : Int32} {j2 : Value} {w : mz_M}
    (K : ((a3 < (nI 6)) → (vp_in a1 4 ∧ (mz_Ex cd_X3_load call Q 31 [.ref 0, .int a1, j2, .int a3] [.ref ([28, 30, 32, 34].getD a1.toNatClampNeg 0), .int a3] w))) ∧ ((¬ a3 < (nI 6)) → (Q (some (.int a3)) w))) :
    mz_Ex cd_X3_load call Q 18 [.ref 0, .int a1, j2, .int a3] [] w := mx_seg mo_X3_load [18, 31] 9 K
set_option maxRecDepth 20000 in
theorem sg_X3_load_31 {call : mz_C} {Q : mz_Q} {k : Nat} {a1 a3 s1 : Int32} {j2 : Value} {w : mz_M} (hk : k = 28 ∨ k = 30 ∨ k = 32 ∨ k = 34)
    (K : ((s1 < (w k 1)) → (vp_in a1 4 ∧ (mz_Ex cd_X3_load call Q 43 [.ref 0, .int a1, j2, .int a3] [.ref ([28, 30, 32, 34].getD a1.toNatClampNeg 0)] w))) ∧ ((¬ s1 < (w k 1)) → (Q (some (.int a3)) w))) :
    mz_Ex cd_X3_load call Q 31 [.ref 0, .int a1, j2, .int a3] [.ref k, .int s1] w := by
  rcases hk with rfl | rfl | rfl | rfl <;> exact mx_seg mo_X3_load [18, 31, 43] 7 K
set_option maxRecDepth 20000 in
theorem sg_X3_load_43 {call : mz_C} {Q : mz_Q} {k : Nat} {a1 a3 : Int32} {j2 : Value} {w : mz_M} (hk : k = 28 ∨ k = 30 ∨ k = 32 ∨ k = 34)
    (K : vp_in a3 40 ∧ (∃ (r1 : Int32) (w1 : mz_M), call 92 [.int (w (k + 1) a3.toNatClampNeg), .int (nI 0), .int (nI 255)] w (some (.int r1)) w1 ∧ (((r1 = nI 0) → (Q (some (.int a3)) w1)) ∧ ((¬ r1 = nI 0) → (vp_in a1 4 ∧ (mz_Ex cd_X3_load call Q 72 [.ref 0, .int a1, j2, .int a3] [.ref ([28, 30, 32, 34].getD a1.toNatClampNeg 0), .int a3, .ref 2] w1)))))) :
    mz_Ex cd_X3_load call Q 43 [.ref 0, .int a1, j2, .int a3] [.ref k] w := by
  rcases hk with rfl | rfl | rfl | rfl <;> exact mx_seg mo_X3_load [18, 31, 43, 72] 16 K
set_option maxRecDepth 20000 in
theorem sg_X3_load_72 {call : mz_C} {Q : mz_Q} {k : Nat} {a1 a3 s1 : Int32} {j2 : Value} {w : mz_M} (hk : k = 28 ∨ k = 30 ∨ k = 32 ∨ k = 34)
    (K : vp_in a3 40 ∧ (vp_in s1 6 ∧ (mz_Ex cd_X3_load call Q 18 [.ref 0, .int a1, j2, .int (a3 + (nI 1))] [] (mz_up w 2 (upd (w 2) s1.toNatClampNeg (w (k + 1) a3.toNatClampNeg)))))) :
    mz_Ex cd_X3_load call Q 72 [.ref 0, .int a1, j2, .int a3] [.ref k, .int s1, .ref 2] w := by
  rcases hk with rfl | rfl | rfl | rfl <;> exact mx_seg mo_X3_load [18, 31, 43, 72] 7 K
set_option maxRecDepth 20000 in
theorem sg_X3_judge_0 {call : mz_C} {Q : mz_Q} {a1 a2 : Int32} {w : mz_M}
    (K : ∃ (r1 : Int32) (w1 : mz_M), call 100 [.ref 0, .int a1] w (some (.int r1)) w1 ∧ (((r1 = nI 0) → (∃ (r2 : Int32) (w2 : mz_M), call 97 [.ref 0, .int a2] w1 (some (.int r2)) w2 ∧ (((r2 = nI 0) → (∃ (r3 : Int32) (w3 : mz_M), call 91 [.ref 0, .int ((-1000001 : Int32))] w2 (some (.int r3)) w3 ∧ (Q (some (.int r3)) w3))) ∧ ((¬ r2 = nI 0) → (mz_Ex cd_X3_judge call Q 34 [.ref 0, .int a1, .int a2, .int r1, .int (nI 0)] [] w2))))) ∧ ((¬ r1 = nI 0) → (∃ (r4 : Int32) (w4 : mz_M), call 91 [.ref 0, .int r1] w1 (some (.int r4)) w4 ∧ (Q (some (.int r4)) w4))))) :
    mz_Ex cd_X3_judge call Q 0 [.ref 0, .int a1, .int a2, .null, .null] [] w := mx_seg mo_X3_judge [34] 15 K
set_option maxRecDepth 20000 in
theorem sg_X3_judge_34 {call : mz_C} {Q : mz_Q} {a1 a2 a4 : Int32} {j3 : Value} {w : mz_M}
    (K : vp_in a1 4 ∧ (mz_Ex cd_X3_judge call Q 42 [.ref 0, .int a1, .int a2, j3, .int a4] [.ref ([28, 30, 32, 34].getD a1.toNatClampNeg 0), .int a4] w)) :
    mz_Ex cd_X3_judge call Q 34 [.ref 0, .int a1, .int a2, j3, .int a4] [] w := mx_seg mo_X3_judge [34, 42] 6 K
set_option maxRecDepth 20000 in
theorem sg_X3_judge_42 {call : mz_C} {Q : mz_Q} {k : Nat} {a1 a2 a4 s1 : Int32} {j3 : Value} {w : mz_M} (hk : k = 28 ∨ k = 30 ∨ k = 32 ∨ k = 34)
    (K : ((s1 < (w k 1)) → (∃ (r1 : Int32) (w1 : mz_M), call 97 [.ref 0, .int a4] w (some (.int r1)) w1 ∧ (((r1 = nI 0) → (Q (some (.int ((nI 1) + a4))) w1)) ∧ ((¬ r1 = nI 0) → (vp_in a1 4 ∧ (mz_Ex cd_X3_judge call Q 63 [.ref 0, .int a1, .int a2, j3, .int a4] [.ref ([28, 30, 32, 34].getD a1.toNatClampNeg 0)] w1)))))) ∧ ((¬ s1 < (w k 1)) → (Q (some (.int (nI 0))) w))) :
    mz_Ex cd_X3_judge call Q 42 [.ref 0, .int a1, .int a2, j3, .int a4] [.ref k, .int s1] w := by
  rcases hk with rfl | rfl | rfl | rfl <;> exact mx_seg mo_X3_judge [34, 42, 63] 11 K
set_option maxRecDepth 20000 in
theorem sg_X3_judge_63 {call : mz_C} {Q : mz_Q} {k : Nat} {a1 a2 a4 : Int32} {j3 : Value} {w : mz_M} (hk : k = 28 ∨ k = 30 ∨ k = 32 ∨ k = 34)
    (K : vp_in a4 40 ∧ (∃ (r1 : Int32) (w1 : mz_M), call 4 [.ref 1, .int a2, .int a4] w (some (.int r1)) w1 ∧ ((((w (k + 1) a4.toNatClampNeg) = r1) → (mz_Ex cd_X3_judge call Q 34 [.ref 0, .int a1, .int a2, j3, .int (a4 + (nI 1))] [] w1)) ∧ ((¬ (w (k + 1) a4.toNatClampNeg) = r1) → (Q (some (.int ((nI 1) + a4))) w1))))) :
    mz_Ex cd_X3_judge call Q 63 [.ref 0, .int a1, .int a2, j3, .int a4] [.ref k] w := by
  rcases hk with rfl | rfl | rfl | rfl <;> exact mx_seg mo_X3_judge [34, 42, 63] 14 K
set_option maxRecDepth 20000 in
theorem sg_X3_image_0 {call : mz_C} {Q : mz_Q} {w : mz_M}
    (K : ∃ w1, call 0 [.ref 17, .ref 1] w none w1 ∧ (((nI 1 = 0) ∨ (nI 1 = 1)) ∧ (Q (some (.int (nI 1))) (mz_up w1 0 (upd (w1 0) 3 (nI 1)))))) :
    mz_Ex cd_X3_image call Q 0 [.ref 0] [] w := mx_seg mo_X3_image [] 11 K
set_option maxRecDepth 20000 in
theorem sg_X3_undo_0 {call : mz_C} {Q : mz_Q} {w : mz_M}
    (K : (((w 0 3) = nI 0) → (∃ (r1 : Int32) (w1 : mz_M), call 91 [.ref 0, .int ((-1000004 : Int32))] w (some (.int r1)) w1 ∧ (Q (some (.int r1)) w1))) ∧ ((¬ (w 0 3) = nI 0) → (∃ w2, call 0 [.ref 1, .ref 17] w none w2 ∧ (Q (some (.int (w2 1 1))) w2)))) :
    mz_Ex cd_X3_undo call Q 0 [.ref 0] [] w := mx_seg mo_X3_undo [] 13 K
set_option maxRecDepth 20000 in
theorem sg_X3_tear_0 {call : mz_C} {Q : mz_Q} {w : mz_M}
    (K : (((w 0 3) = nI 0) → (((nI 0 = 0) ∨ (nI 0 = 1)) ∧ (Q (some (.int (nI 0))) (mz_up w 0 (upd (w 0) 3 (nI 0)))))) ∧ ((¬ (w 0 3) = nI 0) → (((nI 0 = 0) ∨ (nI 0 = 1)) ∧ (Q (some (.int (nI 1))) (mz_up w 0 (upd (w 0) 3 (nI 0))))))) :
    mz_Ex cd_X3_tear call Q 0 [.ref 0, .null] [] w := mx_seg mo_X3_tear [] 12 K
set_option maxRecDepth 20000 in
theorem sg_X3_count_0 {call : mz_C} {Q : mz_Q} {a1 : Int32} {w : mz_M}
    (K : ((a1 = nI 0) → (Q (some (.int (w 1 1))) w)) ∧ ((¬ a1 = nI 0) → (((a1 = nI 1) → (Q (some (.int (w 1 3))) w)) ∧ ((¬ a1 = nI 1) → (((a1 = nI 2) → (∃ (r1 : Int32) (w1 : mz_M), call 25 [.ref 1, .int (nI 1)] w (some (.int r1)) w1 ∧ (Q (some (.int r1)) w1))) ∧ ((¬ a1 = nI 2) → (((a1 = nI 3) → (∃ (r2 : Int32) (w2 : mz_M), call 9 [.ref 1] w (some (.int r2)) w2 ∧ (Q (some (.int r2)) w2))) ∧ ((¬ a1 = nI 3) → (((a1 = nI 4) → (∃ (r3 : Int32) (w3 : mz_M), call 10 [.ref 1] w (some (.int r3)) w3 ∧ (Q (some (.int r3)) w3))) ∧ ((¬ a1 = nI 4) → (((a1 = nI 5) → (Q (some (.int (w 25 1))) w)) ∧ ((¬ a1 = nI 5) → (((a1 = nI 6) → (Q (some (.int (w 1 4))) w)) ∧ ((¬ a1 = nI 6) → (((a1 = nI 7) → (∃ (r4 : Int32) (w4 : mz_M), call 28 [.ref 1] w (some (.int r4)) w4 ∧ (Q (some (.int r4)) w4))) ∧ ((¬ a1 = nI 7) → (∃ (r5 : Int32) (w5 : mz_M), call 91 [.ref 0, .int ((-1000001 : Int32))] w (some (.int r5)) w5 ∧ (Q (some (.int r5)) w5)))))))))))))))))) :
    mz_Ex cd_X3_count call Q 0 [.ref 0, .int a1] [] w := mx_seg mo_X3_count [] 8 K
set_option maxRecDepth 20000 in
theorem sg_X3_status_0 {call : mz_C} {Q : mz_Q} {a1 : Int32} {w : mz_M}
    (K : ∃ (r1 : Int32) (w1 : mz_M), call 92 [.int a1, .int (nI 0), .int (nI 6)] w (some (.int r1)) w1 ∧ (((r1 = nI 0) → (((a1 = (-1 : Int32)) → (mz_Ex cd_X3_status call Q 33 [.ref 0, .int a1, .int (nI 0), .int (nI 0)] [] w1)) ∧ ((¬ a1 = (-1 : Int32)) → (∃ (r2 : Int32) (w2 : mz_M), call 91 [.ref 0, .int ((-1000001 : Int32))] w1 (some (.int r2)) w2 ∧ (Q (some (.int r2)) w2))))) ∧ ((¬ r1 = nI 0) → (vp_in a1 7 ∧ (Q (some (.int (w1 36 a1.toNatClampNeg))) w1))))) :
    mz_Ex cd_X3_status call Q 0 [.ref 0, .int a1, .null, .null] [] w := mx_seg mo_X3_status [33] 13 K
set_option maxRecDepth 20000 in
theorem sg_X3_status_33 {call : mz_C} {Q : mz_Q} {a2 a3 : Int32} {j1 : Value} {w : mz_M}
    (K : ((a3 < (nI 7)) → (vp_in a3 7 ∧ (mz_Ex cd_X3_status call Q 33 [.ref 0, j1, .int (a2 + (w 36 a3.toNatClampNeg)), .int (a3 + (nI 1))] [] w))) ∧ ((¬ a3 < (nI 7)) → (Q (some (.int a2)) w))) :
    mz_Ex cd_X3_status call Q 33 [.ref 0, j1, .int a2, .int a3] [] w := mx_seg mo_X3_status [33] 13 K
set_option maxRecDepth 20000 in
theorem sg_X3_finding_0 {call : mz_C} {Q : mz_Q} {a1 : Int32} {w : mz_M}
    (K : ∃ (r1 : Int32) (w1 : mz_M), call 92 [.int ((-1000001 : Int32) - a1), .int (nI 0), .int (nI 6)] w (some (.int r1)) w1 ∧ (((r1 = nI 0) → (Q (some (.int a1)) w1)) ∧ ((¬ r1 = nI 0) → (vp_in ((-1000001 : Int32) - a1) 7 ∧ (vp_in ((-1000001 : Int32) - a1) 7 ∧ (Q (some (.int a1)) (mz_up w1 36 (upd (w1 36) ((-1000001 : Int32) - a1).toNatClampNeg ((w1 36 ((-1000001 : Int32) - a1).toNatClampNeg) + (nI 1)))))))))) :
    mz_Ex cd_X3_finding call Q 0 [.ref 0, .int a1, .null] [] w := mx_seg mo_X3_finding [] 20 K
set_option maxRecDepth 20000 in
theorem sg_X3_within_0 {call : mz_C} {Q : mz_Q} {a0 a1 a2 : Int32} {w : mz_M}
    (K : ((a0 < a1) → (((nI 0 = 0) ∨ (nI 0 = 1)) ∧ Q (some (.int (nI 0))) w)) ∧ ((¬ a0 < a1) → (((a2 < a0) → (((nI 0 = 0) ∨ (nI 0 = 1)) ∧ Q (some (.int (nI 0))) w)) ∧ ((¬ a2 < a0) → (((nI 1 = 0) ∨ (nI 1 = 1)) ∧ Q (some (.int (nI 1))) w))))) :
    mz_Ex cd_X3_within call Q 0 [.int a0, .int a1, .int a2] [] w := mx_seg mo_X3_within [] 10 K
set_option maxRecDepth 20000 in
theorem sg_X3_isKind_0 {call : mz_C} {Q : mz_Q} {a0 : Int32} {w : mz_M}
    (K : ∃ (r1 : Int32) (w1 : mz_M), call 92 [.int a0, .int (nI 0), .int (nI 6)] w (some (.int r1)) w1 ∧ (((r1 = 0) ∨ (r1 = 1)) ∧ Q (some (.int r1)) w1)) :
    mz_Ex cd_X3_isKind call Q 0 [.int a0] [] w := mx_seg mo_X3_isKind [] 6 K
set_option maxRecDepth 20000 in
theorem sg_X3_isKin_0 {call : mz_C} {Q : mz_Q} {a0 : Int32} {w : mz_M}
    (K : ∃ (r1 : Int32) (w1 : mz_M), call 92 [.int a0, .int (nI 0), .int (nI 999)] w (some (.int r1)) w1 ∧ (((r1 = 0) ∨ (r1 = 1)) ∧ Q (some (.int r1)) w1)) :
    mz_Ex cd_X3_isKin call Q 0 [.int a0] [] w := mx_seg mo_X3_isKin [] 6 K
set_option maxRecDepth 20000 in
theorem sg_X3_isNearness_0 {call : mz_C} {Q : mz_Q} {a0 : Int32} {w : mz_M}
    (K : ∃ (r1 : Int32) (w1 : mz_M), call 92 [.int a0, .int (nI 1), .int (nI 999)] w (some (.int r1)) w1 ∧ (((r1 = 0) ∨ (r1 = 1)) ∧ Q (some (.int r1)) w1)) :
    mz_Ex cd_X3_isNearness call Q 0 [.int a0] [] w := mx_seg mo_X3_isNearness [] 6 K
set_option maxRecDepth 20000 in
theorem sg_X3_isSheet_0 {call : mz_C} {Q : mz_Q} {a0 : Int32} {w : mz_M}
    (K : ∃ (r1 : Int32) (w1 : mz_M), call 92 [.int a0, .int (nI 0), .int (nI 3)] w (some (.int r1)) w1 ∧ (((r1 = 0) ∨ (r1 = 1)) ∧ Q (some (.int r1)) w1)) :
    mz_Ex cd_X3_isSheet call Q 0 [.int a0] [] w := mx_seg mo_X3_isSheet [] 6 K
set_option maxRecDepth 20000 in
theorem sg_X3_isThere_0 {call : mz_C} {Q : mz_Q} {a1 : Int32} {w : mz_M}
    (K : ∃ (r1 : Int32) (w1 : mz_M), call 92 [.int a1, .int (nI 0), .int ((w 1 3) - (nI 1))] w (some (.int r1)) w1 ∧ (((r1 = 0) ∨ (r1 = 1)) ∧ Q (some (.int r1)) w1)) :
    mz_Ex cd_X3_isThere call Q 0 [.ref 0, .int a1] [] w := mx_seg mo_X3_isThere [] 10 K
set_option maxRecDepth 20000 in
theorem sg_X3_areTwo_0 {call : mz_C} {Q : mz_Q} {a1 a2 : Int32} {w : mz_M}
    (K : ∃ (r1 : Int32) (w1 : mz_M), call 97 [.ref 0, .int a1] w (some (.int r1)) w1 ∧ (((r1 = nI 0) → (((nI 0 = 0) ∨ (nI 0 = 1)) ∧ Q (some (.int (nI 0))) w1)) ∧ ((¬ r1 = nI 0) → (∃ (r2 : Int32) (w2 : mz_M), call 97 [.ref 0, .int a2] w1 (some (.int r2)) w2 ∧ (((r2 = nI 0) → (((nI 0 = 0) ∨ (nI 0 = 1)) ∧ Q (some (.int (nI 0))) w2)) ∧ ((¬ r2 = nI 0) → (((a1 = a2) → (((nI 0 = 0) ∨ (nI 0 = 1)) ∧ Q (some (.int (nI 0))) w2)) ∧ ((¬ a1 = a2) → (((nI 1 = 0) ∨ (nI 1 = 1)) ∧ Q (some (.int (nI 1))) w2))))))))) :
    mz_Ex cd_X3_areTwo call Q 0 [.ref 0, .int a1, .int a2] [] w := mx_seg mo_X3_areTwo [] 15 K
set_option maxRecDepth 20000 in
theorem sg_X3_isUnder_0 {call : mz_C} {Q : mz_Q} {a0 a1 : Int32} {w : mz_M}
    (K : mz_Ex cd_X3_isUnder call Q 4 [.int a0, .int a1, .int a0, .int (nI 0)] [] w) :
    mz_Ex cd_X3_isUnder call Q 0 [.int a0, .int a1, .null, .null] [] w := mx_seg mo_X3_isUnder [4] 5 K
set_option maxRecDepth 20000 in
theorem sg_X3_isUnder_4 {call : mz_C} {Q : mz_Q} {a1 a2 a3 : Int32} {j0 : Value} {w : mz_M}
    (K : ((a3 < (nI 7)) → (∃ (r1 : Int32) (w1 : mz_M), call 93 [.int a2] w (some (.int r1)) w1 ∧ (((r1 = nI 0) → (((nI 0 = 0) ∨ (nI 0 = 1)) ∧ Q (some (.int (nI 0))) w1)) ∧ ((¬ r1 = nI 0) → (((a2 = a1) → (((nI 1 = 0) ∨ (nI 1 = 1)) ∧ Q (some (.int (nI 1))) w1)) ∧ ((¬ a2 = a1) → (vp_in a2 7 ∧ (mz_Ex cd_X3_isUnder call Q 4 [j0, .int a1, .int (mz_abv a2.toNatClampNeg), .int (a3 + (nI 1))] [] w1)))))))) ∧ ((¬ a3 < (nI 7)) → (((nI 0 = 0) ∨ (nI 0 = 1)) ∧ Q (some (.int (nI 0))) w))) :
    mz_Ex cd_X3_isUnder call Q 4 [j0, .int a1, .int a2, .int a3] [] w := mx_seg mo_X3_isUnder [4] 16 K
set_option maxRecDepth 20000 in
theorem sg_X3_sheetFault_0 {call : mz_C} {Q : mz_Q} {a1 : Int32} {w : mz_M}
    (K : ∃ (r1 : Int32) (w1 : mz_M), call 96 [.int a1] w (some (.int r1)) w1 ∧ (((r1 = nI 0) → (Q (some (.int ((-1000001 : Int32)))) w1)) ∧ ((¬ r1 = nI 0) → (vp_in a1 4 ∧ (mz_Ex cd_X3_sheetFault call Q 16 [.ref 0, .int a1] [.ref ([28, 30, 32, 34].getD a1.toNatClampNeg 0)] w1))))) :
    mz_Ex cd_X3_sheetFault call Q 0 [.ref 0, .int a1] [] w := mx_seg mo_X3_sheetFault [16] 8 K
set_option maxRecDepth 20000 in
theorem sg_X3_sheetFault_16 {call : mz_C} {Q : mz_Q} {k : Nat} {j0 j1 : Value} {w : mz_M} (hk : k = 28 ∨ k = 30 ∨ k = 32 ∨ k = 34)
    (K : ∃ (r1 : Int32) (w1 : mz_M), call 29 [.ref k] w (some (.int r1)) w1 ∧ (((r1 = nI 0) → (Q (some (.int (nI 0))) w1)) ∧ ((¬ r1 = nI 0) → (Q (some (.int ((-1000006 : Int32)))) w1)))) :
    mz_Ex cd_X3_sheetFault call Q 16 [j0, j1] [.ref k] w := by
  rcases hk with rfl | rfl | rfl | rfl <;> exact mx_seg mo_X3_sheetFault [16] 6 K
set_option maxRecDepth 20000 in
theorem sg_X3_fitFault_0 {call : mz_C} {Q : mz_Q} {a1 a2 a3 a4 : Int32} {w : mz_M}
    (K : ∃ (r1 : Int32) (w1 : mz_M), call 100 [.ref 0, .int a1] w (some (.int r1)) w1 ∧ (((r1 = nI 0) → (∃ (r2 : Int32) (w2 : mz_M), call 92 [.int a2, .int (nI 0), .int (nI 5)] w1 (some (.int r2)) w2 ∧ (((r2 = nI 0) → (Q (some (.int ((-1000001 : Int32)))) w2)) ∧ ((¬ r2 = nI 0) → (∃ (r3 : Int32) (w3 : mz_M), call 98 [.ref 0, .int a3, .int a4] w2 (some (.int r3)) w3 ∧ (((r3 = nI 0) → (Q (some (.int ((-1000001 : Int32)))) w3)) ∧ ((¬ r3 = nI 0) → (Q (some (.int (nI 0))) w3)))))))) ∧ ((¬ r1 = nI 0) → (Q (some (.int r1)) w1)))) :
    mz_Ex cd_X3_fitFault call Q 0 [.ref 0, .int a1, .int a2, .int a3, .int a4, .null] [] w := mx_seg mo_X3_fitFault [] 20 K
set_option maxRecDepth 20000 in
theorem sg_X3_kinBehind_0 {call : mz_C} {Q : mz_Q} {a1 a2 a3 : Int32} {w : mz_M}
    (K : mz_Ex cd_X3_kinBehind call Q 3 [.ref 0, .int a1, .int a2, .int a3, .int (nI 0)] [] w) :
    mz_Ex cd_X3_kinBehind call Q 0 [.ref 0, .int a1, .int a2, .int a3, .null] [] w := mx_seg mo_X3_kinBehind [3] 3 K
set_option maxRecDepth 20000 in
theorem sg_X3_kinBehind_3 {call : mz_C} {Q : mz_Q} {a1 a2 a3 a4 : Int32} {w : mz_M}
    (K : ((a4 < a3) → (∃ w1, call 18 [.ref 9] w none w1 ∧ (mz_Ex cd_X3_kinBehind call Q 3 [.ref 0, .int a1, .int a2, .int a3, .int (a4 + (nI 1))] [] w1))) ∧ ((¬ a4 < a3) → (∃ (r2 : Int32) (w2 : mz_M), call 4 [.ref 9, .int a1, .int a2] w (some (.int r2)) w2 ∧ (Q (some (.int r2)) w2)))) :
    mz_Ex cd_X3_kinBehind call Q 3 [.ref 0, .int a1, .int a2, .int a3, .int a4] [] w := mx_seg mo_X3_kinBehind [3] 10 K
set_option maxRecDepth 20000 in
theorem sg_X3_kinIfPut_0 {call : mz_C} {Q : mz_Q} {a1 a2 a3 a4 : Int32} {w : mz_M}
    (K : ∃ w1, call 0 [.ref 9, .ref 1] w none w1 ∧ (∃ (r2 : Int32) (w2 : mz_M), call 15 [.ref 9] w1 (some (.int r2)) w2 ∧ (vp_in r2 6 ∧ (∃ (r3 : Int32) (w3 : mz_M), call 102 [.ref 0, .int a2, .int a3, .int a4] (mz_up w2 10 (upd (w2 10) r2.toNatClampNeg a1)) (some (.int r3)) w3 ∧ (Q (some (.int r3)) w3))))) :
    mz_Ex cd_X3_kinIfPut call Q 0 [.ref 0, .int a1, .int a2, .int a3, .int a4] [] w := mx_seg mo_X3_kinIfPut [] 20 K
set_option maxRecDepth 20000 in
theorem sg_X3_kinIfLeftOut_0 {call : mz_C} {Q : mz_Q} {a1 a2 a3 a4 : Int32} {w : mz_M}
    (K : ∃ w1, call 0 [.ref 9, .ref 1] w none w1 ∧ (mz_Ex cd_X3_kinIfLeftOut call Q 14 [.ref 0, .int a1, .int a2, .int a3, .int a4, .int (nI 0)] [] w1)) :
    mz_Ex cd_X3_kinIfLeftOut call Q 0 [.ref 0, .int a1, .int a2, .int a3, .int a4, .null] [] w := mx_seg mo_X3_kinIfLeftOut [14] 8 K
set_option maxRecDepth 20000 in
theorem sg_X3_kinIfLeftOut_14 {call : mz_C} {Q : mz_Q} {a1 a2 a3 a4 a5 : Int32} {w : mz_M}
    (K : ((a5 < (nI 6)) → (vp_in a5 6 ∧ (vp_in a5 6 ∧ (mz_Ex cd_X3_kinIfLeftOut call Q 14 [.ref 0, .int a1, .int a2, .int a3, .int a4, .int (a5 + (nI 1))] [] (mz_up w 10 (upd (w 10) a5.toNatClampNeg ((w 10 a5.toNatClampNeg) &&& (a1 ^^^ (-1 : Int32))))))))) ∧ ((¬ a5 < (nI 6)) → (∃ (r1 : Int32) (w1 : mz_M), call 102 [.ref 0, .int a2, .int a3, .int a4] w (some (.int r1)) w1 ∧ (Q (some (.int r1)) w1)))) :
    mz_Ex cd_X3_kinIfLeftOut call Q 14 [.ref 0, .int a1, .int a2, .int a3, .int a4, .int a5] [] w := mx_seg mo_X3_kinIfLeftOut [14] 17 K
set_option maxRecDepth 20000 in
theorem sg_X3_fitsIfListed_0 {call : mz_C} {Q : mz_Q} {k : Nat} {a2 a3 a4 a5 : Int32} {w : mz_M} (hk : k = 28 ∨ k = 30 ∨ k = 32 ∨ k = 34)
    (K : ∃ w1, call 0 [.ref 9, .ref 1] w none w1 ∧ (vp_in a2 6 ∧ (∃ (r2 : Int32) (w2 : mz_M), call 106 [.ref 0, .ref k, .int a4, .int a5] (mz_up w1 10 (upd (w1 10) a2.toNatClampNeg a3)) (some (.int r2)) w2 ∧ (((r2 = 0) ∨ (r2 = 1)) ∧ Q (some (.int r2)) w2)))) :
    mz_Ex cd_X3_fitsIfListed call Q 0 [.ref 0, .ref k, .int a2, .int a3, .int a4, .int a5] [] w := by
  rcases hk with rfl | rfl | rfl | rfl <;> exact mx_seg mo_X3_fitsIfListed [] 18 K
set_option maxRecDepth 20000 in
theorem sg_X3_goesAsTold_0 {call : mz_C} {Q : mz_Q} {k : Nat} {a2 a3 : Int32} {w : mz_M} (hk : k = 28 ∨ k = 30 ∨ k = 32 ∨ k = 34)
    (K : ∃ (r1 : Int32) (w1 : mz_M), call 32 [.ref k] w (some (.int r1)) w1 ∧ (mz_Ex cd_X3_goesAsTold call Q 9 [.ref 0, .ref k, .int a2, .int a3, .int r1, .int (nI 0), .null] [] w1)) :
    mz_Ex cd_X3_goesAsTold call Q 0 [.ref 0, .ref k, .int a2, .int a3, .null, .null, .null] [] w := by
  rcases hk with rfl | rfl | rfl | rfl <;> exact mx_seg mo_X3_goesAsTold [9] 6 K
set_option maxRecDepth 20000 in
theorem sg_X3_goesAsTold_9 {call : mz_C} {Q : mz_Q} {k : Nat} {a2 a3 a4 a5 : Int32} {j6 : Value} {w : mz_M} (hk : k = 28 ∨ k = 30 ∨ k = 32 ∨ k = 34)
    (K : ((a5 < a4) → (((nI 0 < a5) → (∃ w1, call 18 [.ref 9] w none w1 ∧ (((a3 = (-1 : Int32)) → (∃ (r2 : Int32) (w2 : mz_M), call 7 [.ref 9, .int a2] w1 (some (.int r2)) w2 ∧ (vp_in a5 40 ∧ ((((w2 (k + 1) a5.toNatClampNeg) = (-1 : Int32)) → (mz_Ex cd_X3_goesAsTold call Q 9 [.ref 0, .ref k, .int a2, .int a3, .int a4, .int (a5 + (nI 1)), .int r2] [] w2)) ∧ ((¬ (w2 (k + 1) a5.toNatClampNeg) = (-1 : Int32)) → (vp_in a5 40 ∧ ((((w2 (k + 1) a5.toNatClampNeg) = r2) → (mz_Ex cd_X3_goesAsTold call Q 9 [.ref 0, .ref k, .int a2, .int a3, .int a4, .int (a5 + (nI 1)), .int r2] [] w2)) ∧ ((¬ (w2 (k + 1) a5.toNatClampNeg) = r2) → (((nI 0 = 0) ∨ (nI 0 = 1)) ∧ Q (some (.int (nI 0))) w2))))))))) ∧ ((¬ a3 = (-1 : Int32)) → (∃ (r3 : Int32) (w3 : mz_M), call 4 [.ref 9, .int a2, .int a3] w1 (some (.int r3)) w3 ∧ (vp_in a5 40 ∧ ((((w3 (k + 1) a5.toNatClampNeg) = (-1 : Int32)) → (mz_Ex cd_X3_goesAsTold call Q 9 [.ref 0, .ref k, .int a2, .int a3, .int a4, .int (a5 + (nI 1)), .int r3] [] w3)) ∧ ((¬ (w3 (k + 1) a5.toNatClampNeg) = (-1 : Int32)) → (vp_in a5 40 ∧ ((((w3 (k + 1) a5.toNatClampNeg) = r3) → (mz_Ex cd_X3_goesAsTold call Q 9 [.ref 0, .ref k, .int a2, .int a3, .int a4, .int (a5 + (nI 1)), .int r3] [] w3)) ∧ ((¬ (w3 (k + 1) a5.toNatClampNeg) = r3) → (((nI 0 = 0) ∨ (nI 0 = 1)) ∧ Q (some (.int (nI 0))) w3)))))))))))) ∧ ((¬ nI 0 < a5) → (((a3 = (-1 : Int32)) → (∃ (r4 : Int32) (w4 : mz_M), call 7 [.ref 9, .int a2] w (some (.int r4)) w4 ∧ (vp_in a5 40 ∧ ((((w4 (k + 1) a5.toNatClampNeg) = (-1 : Int32)) → (mz_Ex cd_X3_goesAsTold call Q 9 [.ref 0, .ref k, .int a2, .int a3, .int a4, .int (a5 + (nI 1)), .int r4] [] w4)) ∧ ((¬ (w4 (k + 1) a5.toNatClampNeg) = (-1 : Int32)) → (vp_in a5 40 ∧ ((((w4 (k + 1) a5.toNatClampNeg) = r4) → (mz_Ex cd_X3_goesAsTold call Q 9 [.ref 0, .ref k, .int a2, .int a3, .int a4, .int (a5 + (nI 1)), .int r4] [] w4)) ∧ ((¬ (w4 (k + 1) a5.toNatClampNeg) = r4) → (((nI 0 = 0) ∨ (nI 0 = 1)) ∧ Q (some (.int (nI 0))) w4))))))))) ∧ ((¬ a3 = (-1 : Int32)) → (∃ (r5 : Int32) (w5 : mz_M), call 4 [.ref 9, .int a2, .int a3] w (some (.int r5)) w5 ∧ (vp_in a5 40 ∧ ((((w5 (k + 1) a5.toNatClampNeg) = (-1 : Int32)) → (mz_Ex cd_X3_goesAsTold call Q 9 [.ref 0, .ref k, .int a2, .int a3, .int a4, .int (a5 + (nI 1)), .int r5] [] w5)) ∧ ((¬ (w5 (k + 1) a5.toNatClampNeg) = (-1 : Int32)) → (vp_in a5 40 ∧ ((((w5 (k + 1) a5.toNatClampNeg) = r5) → (mz_Ex cd_X3_goesAsTold call Q 9 [.ref 0, .ref k, .int a2, .int a3, .int a4, .int (a5 + (nI 1)), .int r5] [] w5)) ∧ ((¬ (w5 (k + 1) a5.toNatClampNeg) = r5) → (((nI 0 = 0) ∨ (nI 0 = 1)) ∧ Q (some (.int (nI 0))) w5))))))))))))) ∧ ((¬ a5 < a4) → (((nI 1 = 0) ∨ (nI 1 = 1)) ∧ Q (some (.int (nI 1))) w))) :
    mz_Ex cd_X3_goesAsTold call Q 9 [.ref 0, .ref k, .int a2, .int a3, .int a4, .int a5, j6] [] w := by
  rcases hk with rfl | rfl | rfl | rfl <;> exact mx_seg mo_X3_goesAsTold [9] 32 K
