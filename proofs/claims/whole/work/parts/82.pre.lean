/-! from the law's loop head to its end, over the small machine -/
theorem va_P_ref {D : va_G} {cl : List vw_C} {ws : va_W} {H : Heap} {a n : Nat} {cS : ClassId} {f g : Nat → Option Nat} (h : va_P D cl ws H) (k : Nat) (hk : ws[k]? = some (a, .inl (cS, n, .inr (.inr (.inr (.inr f)))))) (hfg : ∀ j, j < n → f j = g j) : va_P D cl (ws.set k (a, .inl (cS, n, .inr (.inr (.inr (.inr g)))))) H := by
  intro i q hq
  by_cases e : k = i
  · subst e
    rw [List.getElem?_set_self (List.getElem?_eq_some_iff.mp hk).1] at hq
    obtain rfl := Option.some.inj hq
    have h1 : H[a]? = some (vp_cell cS (n, .inr (.inr (.inr (.inr f))))) := h k _ hk
    show H[a]? = some (vp_cell cS (n, .inr (.inr (.inr (.inr g)))))
    rw [h1, vp_cell_q, vp_cell_q]
    unfold arrV
    have e2 : (Array.ofFn (n := n) fun j => va_rf (f j.val)) = (Array.ofFn (n := n) fun j => va_rf (g j.val)) := by
      congr 1
      funext j
      rw [hfg j.val j.isLt]
    rw [e2]
  · rw [List.getElem?_set_ne e] at hq
    exact h i q hq
theorem ad_P {D : va_G} {cl : List vw_C} {ws ws' : va_W} {H : Heap} (h : va_P D cl ws H) (e : ws' = ws) : va_P D cl ws' H := by
  rw [e]; exact h
theorem law_D {s : State} {args : Array Value} (hts : ∀ w ∈ ms_ws, w.before args s = true) : ∃ D : va_G, ∀ (k : Nat) (q : vw_C), vwCl[k]? = some q → u_Kn s q.1 q.2.1 q.2.2 (D.1 k) (D.2 k) := by
  obtain ⟨c0, i0, h0⟩ := u_known (C := RX0) (T := TX0) (N := 12) (n := 12) hts ms_inX0 (hts _ wd_78)
  obtain ⟨c1, i1, h1⟩ := u_known (C := RX1) (T := TX1) (N := 3) (n := 3) hts ms_inX1 (hts _ wd_164)
  obtain ⟨c2, i2, h2⟩ := u_known (C := RX2) (T := TX2) (N := 6) (n := 6) hts ms_inX2 (hts _ wd_137)
  obtain ⟨c3, i3, h3⟩ := u_known (C := RX3) (T := TX3) (N := 7) (n := 7) hts ms_inX3 (hts _ wd_70)
  obtain ⟨c4, i4, h4⟩ := u_known (C := RX4) (T := TX4) (N := 24) (n := 24) hts ms_inX4 (hts _ wd_727)
  refine ⟨(fun k => if k = 0 then c0 else if k = 1 then c1 else if k = 2 then c2 else if k = 3 then c3 else c4, fun k => if k = 0 then i0 else if k = 1 then i1 else if k = 2 then i2 else if k = 3 then i3 else i4), ?_⟩
  intro k q hq
  match k, hq with
  | 0, hq => cases hq; exact h0
  | 1, hq => cases hq; exact h1
  | 2, hq => cases hq; exact h2
  | 3, hq => cases hq; exact h3
  | 4, hq => cases hq; exact h4
  | k + 5, hq => simp [vwCl] at hq
theorem shp_at {k : Nat} (h : k < 51) : ∃ s, mz_nth mz_shp k = some s := by
  rw [mz_nth_get]
  have e : mz_shp.length = 51 := by decide
  exact ⟨mz_shp[k]'(by omega), List.getElem?_eq_getElem (by omega)⟩
theorem shp_lt {k : Nat} {s : mz_S} (h : mz_nth mz_shp k = some s) : k < 51 := by
  rw [mz_nth_get] at h
  have e : mz_shp.length = 51 := by decide
  have := (List.getElem?_eq_some_iff.mp h).1
  omega
theorem law_entry {p : Program} {e : Env} {s : State} {m : MethodId} {below : List Frame} {meth : Method} {c : Code} {l : Launch} (_hflags : l.flags = flags0) {b L : Nat} {xs : Nat → Int32} (hL : L ≤ 3072) (C0 : lw_At p s m meth c b L xs) {adK adV : Nat → Nat} {tA : Nat}
    (hRS : vk_S 11 ms_len mz_txt adK adV (fun q => s.heap.size ≤ q) s s.heap ∧ va_Z "MangleKin" "ABOVE" "[I" (.ref tA) (fun q => s.heap.size ≤ q) s s.heap ∧ va_T .int tA 7 (fun j => .int (mz_abv j)) (fun q => s.heap.size ≤ q) s s.heap ∧ va_Z "java/lang/String" "COMPACT_STRINGS" "Z" (.int 1) (fun q => s.heap.size ≤ q) s s.heap ∧ va_Zq "jdk/internal/util/Preconditions" "SIOOBE_FORMATTER" "Ljava/util/function/BiFunction;" (fun q => s.heap.size ≤ q) s s.heap ∧ ∀ q ∈ ms_strs, vk_R q.1 q.2.1 q.2.2.1 (adK q.2.2.2) s)
    {D : va_G} {ad : Nat → Nat} {cA : Nat → ClassId} {w : mz_M} {H : Heap} {locs : List Loc} {cells slots : Nat} (hc : cells ≤ 600000) (hsl : slots ≤ 7302250) (hK : va_K D vwCl (ms_tys cA) s) (hP : va_P D vwCl (ms_w ad cA w) H) {ws : va_W} (hD : va_D (fun q => s.heap.size ≤ q) ws) (hm : ws.map Prod.fst = (ms_w ad cA w).map Prod.fst) (hS : va_S (fun q => s.heap.size ≤ q) s.heap H locs)
    (h60 : ∀ i, i < 11 → ad (60 + i) = adK i) (h100 : ∀ i, i < 11 → ad (100 + i) = adV i) (h80 : ad 80 = tA) (h90 : ad 90 = b) (R : Rel 0 w) (ls : Array Slot) (hl : lv_has ls 4 [(0, .ref b), (1, .ref (ad 0)), (2, .ref (ad 37))]) : W p l e room_1 s m #[Value.ref b] below meth c H locs cells slots (lw_Z below #[Value.ref b] s) (F0 m 16 ls []) := by
  obtain ⟨hx, hb, hr, hml, hown, hts0, hX, hbl, hlocks, hgv⟩ := id C0
  have hts : ∀ w ∈ ms_ws, w.before #[Value.ref b] s = true := fun w hw => hts0 w (List.mem_filter.mp hw).1
  have wat : ∀ (k : Nat) (q : Nat × va_E), (ms_w ad cA w)[k]? = some q → ∃ q', ws[k]? = some q' ∧ q'.1 = q.1 := by
    intro k q hq
    have h1 : (ws.map Prod.fst)[k]? = some q.1 := by rw [hm, List.getElem?_map, hq]; rfl
    rw [List.getElem?_map] at h1
    cases hw : ws[k]? with
    | none => rw [hw] at h1; cases h1
    | some q' => rw [hw] at h1; exact ⟨q', rfl, Option.some.inj h1⟩
  have hge : ∀ k, k < 51 → s.heap.size ≤ ad k := by
    intro k hk
    obtain ⟨s0, h0⟩ := shp_at hk
    obtain ⟨q', h1, h2⟩ := wat k _ (ms_at (ad := ad) (cA := cA) (w := w) h0)
    have h3 : s.heap.size ≤ q'.1 := hD.2 k q' h1
    rw [h2] at h3
    exact h3
  have hnA : ∀ a : Nat, ms_A ad a → s.heap.size ≤ a := by
    rintro a ⟨k, hk, rfl⟩
    exact hge k hk
  have hD2 : va_D (ms_A ad) (ms_w ad cA w) := by
    refine ⟨fun i j p q hi hj he => ?_, fun k q hk => ?_⟩
    · obtain ⟨p', h1, h2⟩ := wat i p hi
      obtain ⟨q', h3, h4⟩ := wat j q hj
      exact hD.1 i j p' q' h1 h3 (by rw [h2, h4, he])
    · obtain ⟨s0, h0, rfl⟩ := ms_at' hk
      exact ⟨k, shp_lt h0, rfl⟩
  have hRO : ms_RO ad (L, xs) s s.heap := by
    obtain ⟨r1, r2, r3, r4, r5, r6⟩ := hRS
    refine ⟨?_, ?_, ?_, ?_, ?_, fun q hq => ?_, ?_, ?_, ?_⟩
    · refine ⟨fun i hi => ?_, fun i j hi hj he => ?_⟩
      · show va_O _ (ad (60 + i)) _ _ _ ∧ va_OF _ _ _ _ (ad (60 + i)) _ _ _ ∧ va_OF _ _ _ (.ref (ad (100 + i))) (ad (60 + i)) _ _ _ ∧ va_T _ (ad (100 + i)) _ _ _ _ _
        rw [h60 i hi, h100 i hi]
        exact (r1.narrow hnA).1 i hi
      · have he : ad (60 + i) = ad (60 + j) := he
        rw [h60 i hi, h60 j hj] at he
        exact r1.2 i j hi hj he
    · rw [h80]
      obtain ⟨cf, kf, fi, f, a, cell, g1, g2, g3, g4, g5, g6, g7, g8⟩ := r2
      exact ⟨cf, kf, fi, f, a, cell, g1, g2, g3, g4, g5, g6, g7, fun z => g8 (hnA a z)⟩
    · rw [h80]
      exact r3.narrow hnA
    · obtain ⟨cf, kf, fi, f, a, cell, g1, g2, g3, g4, g5, g6, g7, g8⟩ := r4
      exact ⟨cf, kf, fi, f, a, cell, g1, g2, g3, g4, g5, g6, g7, fun z => g8 (hnA a z)⟩
    · rcases r5 with ⟨cf, kf, fi, f, a, cell, g1, g2, g3, g4, g5, g6, g7, g8⟩ | ⟨t, cf, kf, fi, f, a, cell, g1, g2, g3, g4, g5, g6, g7, g8⟩
      · exact Or.inl ⟨cf, kf, fi, f, a, cell, g1, g2, g3, g4, g5, g6, g7, fun z => g8 (hnA a z)⟩
      · exact Or.inr ⟨t, cf, kf, fi, f, a, cell, g1, g2, g3, g4, g5, g6, g7, fun z => g8 (hnA a z)⟩
    · rw [h60 _ (sx_eq q hq).1]
      exact r6 q hq
    · rw [h90]; exact hX
    · rw [h90]; exact hbl
    · rw [h90]; exact fun z => absurd (hnA b z) (Nat.not_le.mpr hbl)
  have hC : ms_Cx (L, xs) 11 R_law code 4 D ad cA p room_1 s m #[Value.ref b] c cells slots := ⟨hx, hb, hml, hown, hts, hK, hRO, Nat.le_of_ble_eq_true rfl, Nat.le_of_ble_eq_true rfl, hc, hsl⟩
  have hRet : ms_Ret code D ad cA p l e room_1 s m #[Value.ref b] below meth c cells slots (lw_Z below #[Value.ref b] s) (some .boolean) (fun ro _ => ro = some (.int (nI 1))) := by
    intro ro w1 H1 locs1 ls1 pc ins hq hH hd hrok
    subst hq
    have hi : ins = .ireturn := by
      rcases hrok with ⟨h, -⟩ | ⟨h, -⟩ | ⟨ty, -, h, -⟩ | ⟨h, -⟩ | ⟨⟨n, h⟩, -⟩
      · cases h
      · cases h
      · exact h
      · cases h
      · cases h
    subst hi
    refine va_forget (fun q hq => hnA _ (hH.2.2.2.2 q hq)) ?_
    refine W.widen (k := 600000) (n := 7302250) hc hsl ?_
    exact lw_ret hx hb hr hlocks hd
  refine va_forget hS.2.2 ?_
  have hH : ms_H D ad cA s w H [] := ⟨hP, hD2, hS.1, fun q h1 _ => hS.2.1 q h1 (Nat.not_le.mpr h1), fun q hq => absurd hq List.not_mem_nil⟩
  have hLs : ms_L ad 4 [.ref 90, .ref 0, .ref 37, .null] ls := by
    refine ⟨rfl, ?_⟩
    have e : ms_lv ad 0 [.ref 90, .ref 0, .ref 37, .null] = [(0, .ref (ad 90)), (1, .ref (ad 0)), (2, .ref (ad 37))] := rfl
    rw [e, h90]
    exact hl
  have E18 := law_small (X := (L, xs)) (Q := fun ro _ => ro = some (.int (nI 1))) hL (fun _ => rfl) 513 0 w (by show L < 6 * (0 + 513); omega) (by omega) R
  have E16 := sg_L_16 (X := (L, xs)) (call := mz_Call 11) (Q := fun ro _ => ro = some (.int (nI 1))) (j3 := .null) (w := w) E18
  exact E16 (ms_P 4 D ad cA p l e room_1 s m #[Value.ref b] below meth c cells slots (lw_Z below #[Value.ref b] s)) (fun pc L1 S1 w1 k => so_L_law pc 11 D ad cA p l e room_1 s m #[Value.ref b] below meth c cells slots (lw_Z below #[Value.ref b] s) (mz_Call 11) (fun ro _ => ro = some (.int (nI 1))) hC (so_sound l 11) hRet L1 S1 w1 k) H [] ls hH hLs
