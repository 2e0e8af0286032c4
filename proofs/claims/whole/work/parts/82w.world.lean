/-! the world behind the constructors is the small machine's memory -/
def adF (l : List Nat) (adK adV : Nat → Nat) (tA b : Nat) : Nat → Nat := fun k => if k < 51 then l.getD k 0 else if 60 ≤ k ∧ k < 71 then adK (k - 60) else if k = 80 then tA else if k = 90 then b else adV (k - 100)
def cAF (cI cS cT : ClassId) : Nat → ClassId := fun k => match k with
  | 0 => cI
  | 1 => cS
  | _ => cT
def wr_fs (ad : Nat → Nat) (f : Nat → Int32) : Nat → List (Option Nat) → List Value
  | _, [] => []
  | i, o :: l => ms_f1 ad f i o :: wr_fs ad f (i + 1) l
theorem wr_fs_eq (ad : Nat → Nat) (f : Nat → Int32) : ∀ (l : List (Option Nat)) (i : Nat), l.mapIdx (fun k => ms_f1 ad f (i + k)) = wr_fs ad f i l
  | [], _ => rfl
  | o :: l, i => by
    rw [List.mapIdx_cons, wr_fs, ← wr_fs_eq ad f l (i + 1)]
    congr 2
    funext k
    rw [show i + (k + 1) = i + 1 + k by omega]
theorem wr_fs_0 (ad : Nat → Nat) (f : Nat → Int32) (l : List (Option Nat)) : ms_fs ad f l = wr_fs ad f 0 l := by
  rw [← wr_fs_eq ad f l 0]
  unfold ms_fs
  congr 1
  funext k
  rw [Nat.zero_add]
def wr_c (ad : Nat → Nat) (cA : Nat → ClassId) (f : Nat → Int32) (s : mz_S) : va_E := match s with
  | .inl q => .inr (q.1, wr_fs ad f 0 q.2)
  | .inr (.inl n) => .inl (cA 0, n, .inl f)
  | .inr (.inr q) => .inl (cA q.1, q.2.length, .inr (.inr (.inr (.inr (fun j => some (ad (q.2.getD j 0)))))))
theorem wr_c_eq (ad : Nat → Nat) (cA : Nat → ClassId) (f : Nat → Int32) : ∀ s : mz_S, ms_cell ad cA f s = wr_c ad cA f s
  | .inl q => by
    show (Sum.inr (q.1, ms_fs ad f q.2) : va_E) = Sum.inr (q.1, wr_fs ad f 0 q.2)
    rw [wr_fs_0]
  | .inr (.inl _) => rfl
  | .inr (.inr _) => rfl
def wr_w (ad : Nat → Nat) (cA : Nat → ClassId) (w : mz_M) : Nat → List mz_S → va_W
  | _, [] => []
  | i, s :: l => (ad i, wr_c ad cA (w i) s) :: wr_w ad cA w (i + 1) l
theorem wr_w_eq (ad : Nat → Nat) (cA : Nat → ClassId) (w : mz_M) : ∀ (l : List mz_S) (i : Nat), l.mapIdx (fun k s => (ad (i + k), ms_cell ad cA (w (i + k)) s)) = wr_w ad cA w i l
  | [], _ => rfl
  | o :: l, i => by
    rw [List.mapIdx_cons, wr_w, ← wr_w_eq ad cA w l (i + 1), wr_c_eq]
    congr 2
    funext k
    rw [show i + (k + 1) = i + 1 + k by omega]
theorem wr_w_0 (ad : Nat → Nat) (cA : Nat → ClassId) (w : mz_M) : ms_w ad cA w = wr_w ad cA w 0 mz_shp := by
  rw [← wr_w_eq ad cA w mz_shp 0]
  unfold ms_w
  congr 1
  funext k
  rw [Nat.zero_add]
set_option maxRecDepth 100000 in
theorem law_world (ad : Nat → Nat) (cI cS cT : ClassId) (g1 g2 g3 f : Nat → Int32) : ms_w ad (cAF cI cS cT) (w0 g1 g2 g3 f) = [(ad 0, .inr (3, [.ref (ad 1), .ref (ad 9), .ref (ad 17), .int (nI 0), .ref (ad 25), .ref (ad 27), .ref (ad 36)])), (ad 1, .inr (0, [.int (nI 3), .int 0, .int ((-1 : Int32)), .int 0, .int (nI 1), .ref (ad 2), .ref (ad 3), .ref (ad 4), .ref (ad 5), .ref (ad 6), .ref (ad 7), .ref (ad 8)])), (ad 2, .inl (cI, 6, .inl (fun _ => 0))), (ad 3, .inl (cI, 8, .inl (fun _ => 0))), (ad 4, .inl (cI, 8, .inl (fun _ => 0))), (ad 5, .inl (cI, 64, .inl (fun _ => 0))), (ad 6, .inl (cI, 10, .inl g1)), (ad 7, .inl (cI, 8, .inl (fun _ => 0))), (ad 8, .inl (cI, 8, .inl (fun _ => 0))), (ad 9, .inr (0, [.int (nI 3), .int 0, .int ((-1 : Int32)), .int 0, .int (nI 1), .ref (ad 10), .ref (ad 11), .ref (ad 12), .ref (ad 13), .ref (ad 14), .ref (ad 15), .ref (ad 16)])), (ad 10, .inl (cI, 6, .inl (fun _ => 0))), (ad 11, .inl (cI, 8, .inl (fun _ => 0))), (ad 12, .inl (cI, 8, .inl (fun _ => 0))), (ad 13, .inl (cI, 64, .inl (fun _ => 0))), (ad 14, .inl (cI, 10, .inl g2)), (ad 15, .inl (cI, 8, .inl (fun _ => 0))), (ad 16, .inl (cI, 8, .inl (fun _ => 0))), (ad 17, .inr (0, [.int (nI 3), .int 0, .int ((-1 : Int32)), .int 0, .int (nI 1), .ref (ad 18), .ref (ad 19), .ref (ad 20), .ref (ad 21), .ref (ad 22), .ref (ad 23), .ref (ad 24)])), (ad 18, .inl (cI, 6, .inl (fun _ => 0))), (ad 19, .inl (cI, 8, .inl (fun _ => 0))), (ad 20, .inl (cI, 8, .inl (fun _ => 0))), (ad 21, .inl (cI, 64, .inl (fun _ => 0))), (ad 22, .inl (cI, 10, .inl g3)), (ad 23, .inl (cI, 8, .inl (fun _ => 0))), (ad 24, .inl (cI, 8, .inl (fun _ => 0))), (ad 25, .inr (2, [.ref (ad 26), .int 0, .int 0, .int 0, .int 0, .int 0])), (ad 26, .inl (cI, 120, .inl (fun _ => 0))), (ad 27, .inl (cS, 4, .inr (.inr (.inr (.inr (fun j => some (ad (([28, 30, 32, 34] : List Nat).getD j 0)))))))), (ad 28, .inr (1, [.int 0, .int 0, .ref (ad 29)])), (ad 29, .inl (cI, 40, .inl (fun _ => 0))), (ad 30, .inr (1, [.int 0, .int 0, .ref (ad 31)])), (ad 31, .inl (cI, 40, .inl (fun _ => 0))), (ad 32, .inr (1, [.int 0, .int 0, .ref (ad 33)])), (ad 33, .inl (cI, 40, .inl (fun _ => 0))), (ad 34, .inr (1, [.int 0, .int 0, .ref (ad 35)])), (ad 35, .inl (cI, 40, .inl (fun _ => 0))), (ad 36, .inl (cI, 7, .inl (fun _ => 0))), (ad 37, .inr (4, [.ref (ad 38), .ref (ad 39), .ref (ad 40), .int 0, .ref (ad 41), .ref (ad 42), .ref (ad 43), .int 0, .int 0, .ref (ad 44), .int 0, .int 0, .int 0, .int 0, .int 0, .int 0, .ref (ad 45), .ref (ad 46), .int 0, .int 0, .ref (ad 47), .ref (ad 48), .ref (ad 49), .ref (ad 50)])), (ad 38, .inl (cI, 101, .inl f)), (ad 39, .inl (cI, 101, .inl (fun _ => 0))), (ad 40, .inl (cI, 101, .inl (fun _ => 0))), (ad 41, .inl (cI, 8, .inl (fun _ => 0))), (ad 42, .inl (cI, 8, .inl (fun _ => 0))), (ad 43, .inl (cI, 8, .inl (fun _ => 0))), (ad 44, .inl (cI, 120, .inl (fun _ => 0))), (ad 45, .inl (cT, 7, .inr (.inr (.inr (.inr (fun j => some (ad (([60, 61, 62, 63, 64, 65, 66] : List Nat).getD j 0)))))))), (ad 46, .inl (cI, 480, .inl (fun _ => 0))), (ad 47, .inl (cI, 4, .inl (fun _ => 0))), (ad 48, .inl (cI, 4, .inl (fun _ => 0))), (ad 49, .inl (cI, 160, .inl (fun _ => 0))), (ad 50, .inl (cI, 40, .inl (fun _ => 0)))] := by
  rw [wr_w_0]
  rfl
theorem adF_60 {l adK adV tA b} (i : Nat) (hi : i < 11) : adF l adK adV tA b (60 + i) = adK i := by
  unfold adF
  rw [if_neg (by omega), if_pos (by omega), Nat.add_sub_cancel_left]
theorem adF_100 {l adK adV tA b} (i : Nat) (hi : i < 11) : adF l adK adV tA b (100 + i) = adV i := by
  unfold adF
  rw [if_neg (by omega), if_neg (by omega), if_neg (by omega), if_neg (by omega), Nat.add_sub_cancel_left]
theorem now_4 : ∀ j, 4 ≤ j → j < 15 → (upd (upd (upd (upd (upd (upd (upd (upd (upd (upd (upd (upd (upd (fun _ => 0) 2 (nI 1)) 3 (nI 3)) 4 ((-1 : Int32))) 5 ((-1 : Int32))) 6 ((-1 : Int32))) 7 ((-1 : Int32))) 8 ((-1 : Int32))) 9 ((-1 : Int32))) 10 ((-1 : Int32))) 11 ((-1 : Int32))) 12 ((-1 : Int32))) 13 ((-1 : Int32))) 14 ((-1 : Int32))) j = (-1 : Int32) := by
  intro j a b
  rcases (show j = 4 ∨ j = 5 ∨ j = 6 ∨ j = 7 ∨ j = 8 ∨ j = 9 ∨ j = 10 ∨ j = 11 ∨ j = 12 ∨ j = 13 ∨ j = 14 by omega) with rfl | rfl | rfl | rfl | rfl | rfl | rfl | rfl | rfl | rfl | rfl <;> rfl
theorem now_15 (j : Nat) (a : 15 ≤ j) : (upd (upd (upd (upd (upd (upd (upd (upd (upd (upd (upd (upd (upd (fun _ => 0) 2 (nI 1)) 3 (nI 3)) 4 ((-1 : Int32))) 5 ((-1 : Int32))) 6 ((-1 : Int32))) 7 ((-1 : Int32))) 8 ((-1 : Int32))) 9 ((-1 : Int32))) 10 ((-1 : Int32))) 11 ((-1 : Int32))) 12 ((-1 : Int32))) 13 ((-1 : Int32))) 14 ((-1 : Int32))) j = 0 := by
  simp only [upd]
  repeat rw [if_neg (by omega)]
