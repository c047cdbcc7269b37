/-! ===== objects that hold numbers and rows of numbers alone ===== -/
/-! Book: 0 clientNumbers, 1 hads, 2 count -/
def ce_Book (a : Nat) (R : oR) : Nat → hp_V := fun k => match k with
  | 0 => .inl (0, [.ref (a + 1), .ref (a + 2), .int (R.1 2)])
  | 1 => .inr (.inl (0, 20, R.2 0))
  | _ => .inr (.inl (0, 20, R.2 1))
def bk_Book (σ : hp_H) (a : Nat) (R : oR) : hp_H := bW σ a 3 (ce_Book a R)
section
variable {σ : hp_H} {a : Nat} {R : oR}
theorem Book_own {α : Type} {x : Option α} : hp_own (bk_Book σ a R) a 0 x = x := bk_own (k := 0) (Nat.zero_lt_succ _) rfl rfl
theorem Book_isb : hp_isb (bk_Book σ a R) a 0 = true := bk_isb (k := 0) (Nat.zero_lt_succ _) rfl rfl
theorem Book_g0 : hp_gR (bk_Book σ a R) a 0 0 = some (a + 1) := bk_gR (k := 0) (Nat.zero_lt_succ _) rfl rfl rfl
theorem Book_r0 : hp_row (bk_Book σ a R) (a + 1) 0 = some (20, R.2 0) := bk_row (k := 1) (Nat.le_of_ble_eq_true rfl) rfl rfl
theorem Book_a0 {i : Nat} (h : i < 20) : hp_aI (bk_Book σ a R) (a + 1) 0 (nI i) = some (R.2 0 i) := bk_aI (k := 1) (Nat.le_of_ble_eq_true rfl) rfl rfl h (by decide)
theorem Book_s0 {i : Nat} {x : Int32} (hi : i < 20) : hp_sI (bk_Book σ a R) (a + 1) 0 (nI i) x = some (bk_Book σ a (R.1, up2 R.2 0 i x)) := by
  refine (bk_sI (k := 1) (Nat.le_of_ble_eq_true rfl) rfl rfl hi (by decide)).trans (congrArg some (bW_congr (fun k h => ?_)))
  match k, h with
  | 0, _ => rfl
  | 1, _ => rfl
  | 2, _ => rfl
theorem Book_n0 : hp_ln (bk_Book σ a R) (a + 1) 0 = some (nI 20) := bk_ln (k := 1) (Nat.le_of_ble_eq_true rfl) rfl rfl
theorem Book_g1 : hp_gR (bk_Book σ a R) a 0 1 = some (a + 2) := bk_gR (k := 0) (Nat.zero_lt_succ _) rfl rfl rfl
theorem Book_r1 : hp_row (bk_Book σ a R) (a + 2) 0 = some (20, R.2 1) := bk_row (k := 2) (Nat.le_of_ble_eq_true rfl) rfl rfl
theorem Book_a1 {i : Nat} (h : i < 20) : hp_aI (bk_Book σ a R) (a + 2) 0 (nI i) = some (R.2 1 i) := bk_aI (k := 2) (Nat.le_of_ble_eq_true rfl) rfl rfl h (by decide)
theorem Book_s1 {i : Nat} {x : Int32} (hi : i < 20) : hp_sI (bk_Book σ a R) (a + 2) 0 (nI i) x = some (bk_Book σ a (R.1, up2 R.2 1 i x)) := by
  refine (bk_sI (k := 2) (Nat.le_of_ble_eq_true rfl) rfl rfl hi (by decide)).trans (congrArg some (bW_congr (fun k h => ?_)))
  match k, h with
  | 0, _ => rfl
  | 1, _ => rfl
  | 2, _ => rfl
theorem Book_n1 : hp_ln (bk_Book σ a R) (a + 2) 0 = some (nI 20) := bk_ln (k := 2) (Nat.le_of_ble_eq_true rfl) rfl rfl
theorem Book_g2 : hp_gI (bk_Book σ a R) a 0 2 = some (R.1 2) := bk_gI (k := 0) (Nat.zero_lt_succ _) rfl rfl rfl
theorem Book_q2 {x : Int32} : hp_pV (bk_Book σ a R) a 0 2 (.int x) = some (bk_Book σ a (upd R.1 2 x, R.2)) := by
  refine (bk_pV (k := 0) (Nat.zero_lt_succ _) rfl rfl (Nat.le_of_ble_eq_true rfl)).trans (congrArg some (bW_congr (fun k h => ?_)))
  match k, h with
  | 0, _ => rfl
  | 1, _ => rfl
  | 2, _ => rfl
theorem Book_p2 {x : Int32} : hp_pI (bk_Book σ a R) a 0 2 x = some (bk_Book σ a (upd R.1 2 x, R.2)) := Book_q2
end
/-! BoxList: 0 boxes, 1 count -/
def ce_BoxList (a : Nat) (R : oR) : Nat → hp_V := fun k => match k with
  | 0 => .inl (1, [.ref (a + 1), .int (R.1 1)])
  | _ => .inr (.inl (0, 12, R.2 0))
def bk_BoxList (σ : hp_H) (a : Nat) (R : oR) : hp_H := bW σ a 2 (ce_BoxList a R)
section
variable {σ : hp_H} {a : Nat} {R : oR}
theorem BoxList_own {α : Type} {x : Option α} : hp_own (bk_BoxList σ a R) a 1 x = x := bk_own (k := 0) (Nat.zero_lt_succ _) rfl rfl
theorem BoxList_isb : hp_isb (bk_BoxList σ a R) a 1 = true := bk_isb (k := 0) (Nat.zero_lt_succ _) rfl rfl
theorem BoxList_g0 : hp_gR (bk_BoxList σ a R) a 1 0 = some (a + 1) := bk_gR (k := 0) (Nat.zero_lt_succ _) rfl rfl rfl
theorem BoxList_r0 : hp_row (bk_BoxList σ a R) (a + 1) 0 = some (12, R.2 0) := bk_row (k := 1) (Nat.le_of_ble_eq_true rfl) rfl rfl
theorem BoxList_a0 {i : Nat} (h : i < 12) : hp_aI (bk_BoxList σ a R) (a + 1) 0 (nI i) = some (R.2 0 i) := bk_aI (k := 1) (Nat.le_of_ble_eq_true rfl) rfl rfl h (by decide)
theorem BoxList_s0 {i : Nat} {x : Int32} (hi : i < 12) : hp_sI (bk_BoxList σ a R) (a + 1) 0 (nI i) x = some (bk_BoxList σ a (R.1, up2 R.2 0 i x)) := by
  refine (bk_sI (k := 1) (Nat.le_of_ble_eq_true rfl) rfl rfl hi (by decide)).trans (congrArg some (bW_congr (fun k h => ?_)))
  match k, h with
  | 0, _ => rfl
  | 1, _ => rfl
theorem BoxList_n0 : hp_ln (bk_BoxList σ a R) (a + 1) 0 = some (nI 12) := bk_ln (k := 1) (Nat.le_of_ble_eq_true rfl) rfl rfl
theorem BoxList_g1 : hp_gI (bk_BoxList σ a R) a 1 1 = some (R.1 1) := bk_gI (k := 0) (Nat.zero_lt_succ _) rfl rfl rfl
theorem BoxList_q1 {x : Int32} : hp_pV (bk_BoxList σ a R) a 1 1 (.int x) = some (bk_BoxList σ a (upd R.1 1 x, R.2)) := by
  refine (bk_pV (k := 0) (Nat.zero_lt_succ _) rfl rfl (Nat.le_of_ble_eq_true rfl)).trans (congrArg some (bW_congr (fun k h => ?_)))
  match k, h with
  | 0, _ => rfl
  | 1, _ => rfl
theorem BoxList_p1 {x : Int32} : hp_pI (bk_BoxList σ a R) a 1 1 x = some (bk_BoxList σ a (upd R.1 1 x, R.2)) := BoxList_q1
end
/-! Client: 0 home, 1 present, 2 had, 3 lost, 4 keptCount, 5 kept, 6 latestFirst -/
def ce_Client (a : Nat) (R : oR) : Nat → hp_V := fun k => match k with
  | 0 => .inl (2, [.int (R.1 0), .int (R.1 1), .int (R.1 2), .int (R.1 3), .int (R.1 4), .ref (a + 1), .ref (a + 2)])
  | 1 => .inr (.inl (0, 8, R.2 5))
  | _ => .inr (.inl (0, 12, R.2 6))
def bk_Client (σ : hp_H) (a : Nat) (R : oR) : hp_H := bW σ a 3 (ce_Client a R)
section
variable {σ : hp_H} {a : Nat} {R : oR}
theorem Client_own {α : Type} {x : Option α} : hp_own (bk_Client σ a R) a 2 x = x := bk_own (k := 0) (Nat.zero_lt_succ _) rfl rfl
theorem Client_isb : hp_isb (bk_Client σ a R) a 2 = true := bk_isb (k := 0) (Nat.zero_lt_succ _) rfl rfl
theorem Client_g0 : hp_gI (bk_Client σ a R) a 2 0 = some (R.1 0) := bk_gI (k := 0) (Nat.zero_lt_succ _) rfl rfl rfl
theorem Client_q0 {x : Int32} : hp_pV (bk_Client σ a R) a 2 0 (.int x) = some (bk_Client σ a (upd R.1 0 x, R.2)) := by
  refine (bk_pV (k := 0) (Nat.zero_lt_succ _) rfl rfl (Nat.le_of_ble_eq_true rfl)).trans (congrArg some (bW_congr (fun k h => ?_)))
  match k, h with
  | 0, _ => rfl
  | 1, _ => rfl
  | 2, _ => rfl
theorem Client_p0 {x : Int32} : hp_pI (bk_Client σ a R) a 2 0 x = some (bk_Client σ a (upd R.1 0 x, R.2)) := Client_q0
theorem Client_g1 : hp_gI (bk_Client σ a R) a 2 1 = some (R.1 1) := bk_gI (k := 0) (Nat.zero_lt_succ _) rfl rfl rfl
theorem Client_q1 {x : Int32} : hp_pV (bk_Client σ a R) a 2 1 (.int x) = some (bk_Client σ a (upd R.1 1 x, R.2)) := by
  refine (bk_pV (k := 0) (Nat.zero_lt_succ _) rfl rfl (Nat.le_of_ble_eq_true rfl)).trans (congrArg some (bW_congr (fun k h => ?_)))
  match k, h with
  | 0, _ => rfl
  | 1, _ => rfl
  | 2, _ => rfl
theorem Client_p1 {x : Int32} (hz : x = 0 ∨ x = 1) : hp_pZ (bk_Client σ a R) a 2 1 x = some (bk_Client σ a (upd R.1 1 x, R.2)) := by
  unfold hp_pZ
  rw [if_pos hz]
  exact Client_q1
theorem Client_g2 : hp_gI (bk_Client σ a R) a 2 2 = some (R.1 2) := bk_gI (k := 0) (Nat.zero_lt_succ _) rfl rfl rfl
theorem Client_q2 {x : Int32} : hp_pV (bk_Client σ a R) a 2 2 (.int x) = some (bk_Client σ a (upd R.1 2 x, R.2)) := by
  refine (bk_pV (k := 0) (Nat.zero_lt_succ _) rfl rfl (Nat.le_of_ble_eq_true rfl)).trans (congrArg some (bW_congr (fun k h => ?_)))
  match k, h with
  | 0, _ => rfl
  | 1, _ => rfl
  | 2, _ => rfl
theorem Client_p2 {x : Int32} : hp_pI (bk_Client σ a R) a 2 2 x = some (bk_Client σ a (upd R.1 2 x, R.2)) := Client_q2
theorem Client_g3 : hp_gI (bk_Client σ a R) a 2 3 = some (R.1 3) := bk_gI (k := 0) (Nat.zero_lt_succ _) rfl rfl rfl
theorem Client_q3 {x : Int32} : hp_pV (bk_Client σ a R) a 2 3 (.int x) = some (bk_Client σ a (upd R.1 3 x, R.2)) := by
  refine (bk_pV (k := 0) (Nat.zero_lt_succ _) rfl rfl (Nat.le_of_ble_eq_true rfl)).trans (congrArg some (bW_congr (fun k h => ?_)))
  match k, h with
  | 0, _ => rfl
  | 1, _ => rfl
  | 2, _ => rfl
theorem Client_p3 {x : Int32} : hp_pI (bk_Client σ a R) a 2 3 x = some (bk_Client σ a (upd R.1 3 x, R.2)) := Client_q3
theorem Client_g4 : hp_gI (bk_Client σ a R) a 2 4 = some (R.1 4) := bk_gI (k := 0) (Nat.zero_lt_succ _) rfl rfl rfl
theorem Client_q4 {x : Int32} : hp_pV (bk_Client σ a R) a 2 4 (.int x) = some (bk_Client σ a (upd R.1 4 x, R.2)) := by
  refine (bk_pV (k := 0) (Nat.zero_lt_succ _) rfl rfl (Nat.le_of_ble_eq_true rfl)).trans (congrArg some (bW_congr (fun k h => ?_)))
  match k, h with
  | 0, _ => rfl
  | 1, _ => rfl
  | 2, _ => rfl
theorem Client_p4 {x : Int32} : hp_pI (bk_Client σ a R) a 2 4 x = some (bk_Client σ a (upd R.1 4 x, R.2)) := Client_q4
theorem Client_g5 : hp_gR (bk_Client σ a R) a 2 5 = some (a + 1) := bk_gR (k := 0) (Nat.zero_lt_succ _) rfl rfl rfl
theorem Client_r5 : hp_row (bk_Client σ a R) (a + 1) 0 = some (8, R.2 5) := bk_row (k := 1) (Nat.le_of_ble_eq_true rfl) rfl rfl
theorem Client_a5 {i : Nat} (h : i < 8) : hp_aI (bk_Client σ a R) (a + 1) 0 (nI i) = some (R.2 5 i) := bk_aI (k := 1) (Nat.le_of_ble_eq_true rfl) rfl rfl h (by decide)
theorem Client_s5 {i : Nat} {x : Int32} (hi : i < 8) : hp_sI (bk_Client σ a R) (a + 1) 0 (nI i) x = some (bk_Client σ a (R.1, up2 R.2 5 i x)) := by
  refine (bk_sI (k := 1) (Nat.le_of_ble_eq_true rfl) rfl rfl hi (by decide)).trans (congrArg some (bW_congr (fun k h => ?_)))
  match k, h with
  | 0, _ => rfl
  | 1, _ => rfl
  | 2, _ => rfl
theorem Client_n5 : hp_ln (bk_Client σ a R) (a + 1) 0 = some (nI 8) := bk_ln (k := 1) (Nat.le_of_ble_eq_true rfl) rfl rfl
theorem Client_g6 : hp_gR (bk_Client σ a R) a 2 6 = some (a + 2) := bk_gR (k := 0) (Nat.zero_lt_succ _) rfl rfl rfl
theorem Client_r6 : hp_row (bk_Client σ a R) (a + 2) 0 = some (12, R.2 6) := bk_row (k := 2) (Nat.le_of_ble_eq_true rfl) rfl rfl
theorem Client_a6 {i : Nat} (h : i < 12) : hp_aI (bk_Client σ a R) (a + 2) 0 (nI i) = some (R.2 6 i) := bk_aI (k := 2) (Nat.le_of_ble_eq_true rfl) rfl rfl h (by decide)
theorem Client_s6 {i : Nat} {x : Int32} (hi : i < 12) : hp_sI (bk_Client σ a R) (a + 2) 0 (nI i) x = some (bk_Client σ a (R.1, up2 R.2 6 i x)) := by
  refine (bk_sI (k := 2) (Nat.le_of_ble_eq_true rfl) rfl rfl hi (by decide)).trans (congrArg some (bW_congr (fun k h => ?_)))
  match k, h with
  | 0, _ => rfl
  | 1, _ => rfl
  | 2, _ => rfl
theorem Client_n6 : hp_ln (bk_Client σ a R) (a + 2) 0 = some (nI 12) := bk_ln (k := 2) (Nat.le_of_ble_eq_true rfl) rfl rfl
end
/-! Draws: 0 value -/
def ce_Draws (a : Nat) (R : oR) : Nat → hp_V := fun k => match k with
  | _ => .inl (3, [.int (R.1 0)])
def bk_Draws (σ : hp_H) (a : Nat) (R : oR) : hp_H := bW σ a 1 (ce_Draws a R)
section
variable {σ : hp_H} {a : Nat} {R : oR}
theorem Draws_own {α : Type} {x : Option α} : hp_own (bk_Draws σ a R) a 3 x = x := bk_own (k := 0) (Nat.zero_lt_succ _) rfl rfl
theorem Draws_isb : hp_isb (bk_Draws σ a R) a 3 = true := bk_isb (k := 0) (Nat.zero_lt_succ _) rfl rfl
theorem Draws_g0 : hp_gI (bk_Draws σ a R) a 3 0 = some (R.1 0) := bk_gI (k := 0) (Nat.zero_lt_succ _) rfl rfl rfl
theorem Draws_q0 {x : Int32} : hp_pV (bk_Draws σ a R) a 3 0 (.int x) = some (bk_Draws σ a (upd R.1 0 x, R.2)) := by
  refine (bk_pV (k := 0) (Nat.zero_lt_succ _) rfl rfl (Nat.le_of_ble_eq_true rfl)).trans (congrArg some (bW_congr (fun k h => ?_)))
  match k, h with
  | 0, _ => rfl
theorem Draws_p0 {x : Int32} : hp_pI (bk_Draws σ a R) a 3 0 x = some (bk_Draws σ a (upd R.1 0 x, R.2)) := Draws_q0
end
/-! Journey: 0 reached, 1 places, 2 getters, 3 vain, 4 links -/
def ce_Journey (a : Nat) (R : oR) : Nat → hp_V := fun k => match k with
  | 0 => .inl (5, [.ref (a + 1), .int (R.1 1), .int (R.1 2), .int (R.1 3), .int (R.1 4)])
  | _ => .inr (.inl (0, 7, R.2 0))
def bk_Journey (σ : hp_H) (a : Nat) (R : oR) : hp_H := bW σ a 2 (ce_Journey a R)
section
variable {σ : hp_H} {a : Nat} {R : oR}
theorem Journey_own {α : Type} {x : Option α} : hp_own (bk_Journey σ a R) a 5 x = x := bk_own (k := 0) (Nat.zero_lt_succ _) rfl rfl
theorem Journey_isb : hp_isb (bk_Journey σ a R) a 5 = true := bk_isb (k := 0) (Nat.zero_lt_succ _) rfl rfl
theorem Journey_g0 : hp_gR (bk_Journey σ a R) a 5 0 = some (a + 1) := bk_gR (k := 0) (Nat.zero_lt_succ _) rfl rfl rfl
theorem Journey_r0 : hp_row (bk_Journey σ a R) (a + 1) 0 = some (7, R.2 0) := bk_row (k := 1) (Nat.le_of_ble_eq_true rfl) rfl rfl
theorem Journey_a0 {i : Nat} (h : i < 7) : hp_aI (bk_Journey σ a R) (a + 1) 0 (nI i) = some (R.2 0 i) := bk_aI (k := 1) (Nat.le_of_ble_eq_true rfl) rfl rfl h (by decide)
theorem Journey_s0 {i : Nat} {x : Int32} (hi : i < 7) : hp_sI (bk_Journey σ a R) (a + 1) 0 (nI i) x = some (bk_Journey σ a (R.1, up2 R.2 0 i x)) := by
  refine (bk_sI (k := 1) (Nat.le_of_ble_eq_true rfl) rfl rfl hi (by decide)).trans (congrArg some (bW_congr (fun k h => ?_)))
  match k, h with
  | 0, _ => rfl
  | 1, _ => rfl
theorem Journey_n0 : hp_ln (bk_Journey σ a R) (a + 1) 0 = some (nI 7) := bk_ln (k := 1) (Nat.le_of_ble_eq_true rfl) rfl rfl
theorem Journey_g1 : hp_gI (bk_Journey σ a R) a 5 1 = some (R.1 1) := bk_gI (k := 0) (Nat.zero_lt_succ _) rfl rfl rfl
theorem Journey_q1 {x : Int32} : hp_pV (bk_Journey σ a R) a 5 1 (.int x) = some (bk_Journey σ a (upd R.1 1 x, R.2)) := by
  refine (bk_pV (k := 0) (Nat.zero_lt_succ _) rfl rfl (Nat.le_of_ble_eq_true rfl)).trans (congrArg some (bW_congr (fun k h => ?_)))
  match k, h with
  | 0, _ => rfl
  | 1, _ => rfl
theorem Journey_p1 {x : Int32} : hp_pI (bk_Journey σ a R) a 5 1 x = some (bk_Journey σ a (upd R.1 1 x, R.2)) := Journey_q1
theorem Journey_g2 : hp_gI (bk_Journey σ a R) a 5 2 = some (R.1 2) := bk_gI (k := 0) (Nat.zero_lt_succ _) rfl rfl rfl
theorem Journey_q2 {x : Int32} : hp_pV (bk_Journey σ a R) a 5 2 (.int x) = some (bk_Journey σ a (upd R.1 2 x, R.2)) := by
  refine (bk_pV (k := 0) (Nat.zero_lt_succ _) rfl rfl (Nat.le_of_ble_eq_true rfl)).trans (congrArg some (bW_congr (fun k h => ?_)))
  match k, h with
  | 0, _ => rfl
  | 1, _ => rfl
theorem Journey_p2 {x : Int32} : hp_pI (bk_Journey σ a R) a 5 2 x = some (bk_Journey σ a (upd R.1 2 x, R.2)) := Journey_q2
theorem Journey_g3 : hp_gI (bk_Journey σ a R) a 5 3 = some (R.1 3) := bk_gI (k := 0) (Nat.zero_lt_succ _) rfl rfl rfl
theorem Journey_q3 {x : Int32} : hp_pV (bk_Journey σ a R) a 5 3 (.int x) = some (bk_Journey σ a (upd R.1 3 x, R.2)) := by
  refine (bk_pV (k := 0) (Nat.zero_lt_succ _) rfl rfl (Nat.le_of_ble_eq_true rfl)).trans (congrArg some (bW_congr (fun k h => ?_)))
  match k, h with
  | 0, _ => rfl
  | 1, _ => rfl
theorem Journey_p3 {x : Int32} : hp_pI (bk_Journey σ a R) a 5 3 x = some (bk_Journey σ a (upd R.1 3 x, R.2)) := Journey_q3
theorem Journey_g4 : hp_gI (bk_Journey σ a R) a 5 4 = some (R.1 4) := bk_gI (k := 0) (Nat.zero_lt_succ _) rfl rfl rfl
theorem Journey_q4 {x : Int32} : hp_pV (bk_Journey σ a R) a 5 4 (.int x) = some (bk_Journey σ a (upd R.1 4 x, R.2)) := by
  refine (bk_pV (k := 0) (Nat.zero_lt_succ _) rfl rfl (Nat.le_of_ble_eq_true rfl)).trans (congrArg some (bW_congr (fun k h => ?_)))
  match k, h with
  | 0, _ => rfl
  | 1, _ => rfl
theorem Journey_p4 {x : Int32} : hp_pI (bk_Journey σ a R) a 5 4 x = some (bk_Journey σ a (upd R.1 4 x, R.2)) := Journey_q4
end
/-! Mo: 0 s, 1 seed, 2 past, 3 known, 4 images, 5 isKept, 6 bookClient, 7 bookHad, 8 written, 9 many, 10 told, 11 isLaid, 12 box, 13 boxes, 14 joined, 15 places, 16 gets, 17 vain, 18 links -/
def ce_Mo (a : Nat) (R : oR) : Nat → hp_V := fun k => match k with
  | 0 => .inl (10, [.ref (a + 1), .int (R.1 1), .ref (a + 2), .int (R.1 3), .ref (a + 3), .ref (a + 4), .ref (a + 5), .ref (a + 6), .int (R.1 8), .ref (a + 7), .ref (a + 8), .int (R.1 11), .ref (a + 9), .int (R.1 13), .ref (a + 10), .int (R.1 15), .int (R.1 16), .int (R.1 17), .int (R.1 18)])
  | 1 => .inr (.inl (0, 256, R.2 0))
  | 2 => .inr (.inl (0, 4096, R.2 2))
  | 3 => .inr (.inl (0, 514, R.2 4))
  | 4 => .inr (.inl (1, 2, R.2 5))
  | 5 => .inr (.inl (0, 20, R.2 6))
  | 6 => .inr (.inl (0, 20, R.2 7))
  | 7 => .inr (.inl (0, 14, R.2 9))
  | 8 => .inr (.inl (0, 756, R.2 10))
  | 9 => .inr (.inl (0, 480, R.2 12))
  | _ => .inr (.inl (0, 6, R.2 14))
def bk_Mo (σ : hp_H) (a : Nat) (R : oR) : hp_H := bW σ a 11 (ce_Mo a R)
section
variable {σ : hp_H} {a : Nat} {R : oR}
theorem Mo_own {α : Type} {x : Option α} : hp_own (bk_Mo σ a R) a 10 x = x := bk_own (k := 0) (Nat.zero_lt_succ _) rfl rfl
theorem Mo_isb : hp_isb (bk_Mo σ a R) a 10 = true := bk_isb (k := 0) (Nat.zero_lt_succ _) rfl rfl
theorem Mo_g0 : hp_gR (bk_Mo σ a R) a 10 0 = some (a + 1) := bk_gR (k := 0) (Nat.zero_lt_succ _) rfl rfl rfl
theorem Mo_r0 : hp_row (bk_Mo σ a R) (a + 1) 0 = some (256, R.2 0) := bk_row (k := 1) (Nat.le_of_ble_eq_true rfl) rfl rfl
theorem Mo_a0 {i : Nat} (h : i < 256) : hp_aI (bk_Mo σ a R) (a + 1) 0 (nI i) = some (R.2 0 i) := bk_aI (k := 1) (Nat.le_of_ble_eq_true rfl) rfl rfl h (by decide)
theorem Mo_s0 {i : Nat} {x : Int32} (hi : i < 256) : hp_sI (bk_Mo σ a R) (a + 1) 0 (nI i) x = some (bk_Mo σ a (R.1, up2 R.2 0 i x)) := by
  refine (bk_sI (k := 1) (Nat.le_of_ble_eq_true rfl) rfl rfl hi (by decide)).trans (congrArg some (bW_congr (fun k h => ?_)))
  match k, h with
  | 0, _ => rfl
  | 1, _ => rfl
  | 2, _ => rfl
  | 3, _ => rfl
  | 4, _ => rfl
  | 5, _ => rfl
  | 6, _ => rfl
  | 7, _ => rfl
  | 8, _ => rfl
  | 9, _ => rfl
  | 10, _ => rfl
  | k + 11, h => omega
theorem Mo_n0 : hp_ln (bk_Mo σ a R) (a + 1) 0 = some (nI 256) := bk_ln (k := 1) (Nat.le_of_ble_eq_true rfl) rfl rfl
theorem Mo_g1 : hp_gI (bk_Mo σ a R) a 10 1 = some (R.1 1) := bk_gI (k := 0) (Nat.zero_lt_succ _) rfl rfl rfl
theorem Mo_q1 {x : Int32} : hp_pV (bk_Mo σ a R) a 10 1 (.int x) = some (bk_Mo σ a (upd R.1 1 x, R.2)) := by
  refine (bk_pV (k := 0) (Nat.zero_lt_succ _) rfl rfl (Nat.le_of_ble_eq_true rfl)).trans (congrArg some (bW_congr (fun k h => ?_)))
  match k, h with
  | 0, _ => rfl
  | 1, _ => rfl
  | 2, _ => rfl
  | 3, _ => rfl
  | 4, _ => rfl
  | 5, _ => rfl
  | 6, _ => rfl
  | 7, _ => rfl
  | 8, _ => rfl
  | 9, _ => rfl
  | 10, _ => rfl
  | k + 11, h => omega
theorem Mo_p1 {x : Int32} : hp_pI (bk_Mo σ a R) a 10 1 x = some (bk_Mo σ a (upd R.1 1 x, R.2)) := Mo_q1
theorem Mo_g2 : hp_gR (bk_Mo σ a R) a 10 2 = some (a + 2) := bk_gR (k := 0) (Nat.zero_lt_succ _) rfl rfl rfl
theorem Mo_r2 : hp_row (bk_Mo σ a R) (a + 2) 0 = some (4096, R.2 2) := bk_row (k := 2) (Nat.le_of_ble_eq_true rfl) rfl rfl
theorem Mo_a2 {i : Nat} (h : i < 4096) : hp_aI (bk_Mo σ a R) (a + 2) 0 (nI i) = some (R.2 2 i) := bk_aI (k := 2) (Nat.le_of_ble_eq_true rfl) rfl rfl h (by decide)
theorem Mo_s2 {i : Nat} {x : Int32} (hi : i < 4096) : hp_sI (bk_Mo σ a R) (a + 2) 0 (nI i) x = some (bk_Mo σ a (R.1, up2 R.2 2 i x)) := by
  refine (bk_sI (k := 2) (Nat.le_of_ble_eq_true rfl) rfl rfl hi (by decide)).trans (congrArg some (bW_congr (fun k h => ?_)))
  match k, h with
  | 0, _ => rfl
  | 1, _ => rfl
  | 2, _ => rfl
  | 3, _ => rfl
  | 4, _ => rfl
  | 5, _ => rfl
  | 6, _ => rfl
  | 7, _ => rfl
  | 8, _ => rfl
  | 9, _ => rfl
  | 10, _ => rfl
  | k + 11, h => omega
theorem Mo_n2 : hp_ln (bk_Mo σ a R) (a + 2) 0 = some (nI 4096) := bk_ln (k := 2) (Nat.le_of_ble_eq_true rfl) rfl rfl
theorem Mo_g3 : hp_gI (bk_Mo σ a R) a 10 3 = some (R.1 3) := bk_gI (k := 0) (Nat.zero_lt_succ _) rfl rfl rfl
theorem Mo_q3 {x : Int32} : hp_pV (bk_Mo σ a R) a 10 3 (.int x) = some (bk_Mo σ a (upd R.1 3 x, R.2)) := by
  refine (bk_pV (k := 0) (Nat.zero_lt_succ _) rfl rfl (Nat.le_of_ble_eq_true rfl)).trans (congrArg some (bW_congr (fun k h => ?_)))
  match k, h with
  | 0, _ => rfl
  | 1, _ => rfl
  | 2, _ => rfl
  | 3, _ => rfl
  | 4, _ => rfl
  | 5, _ => rfl
  | 6, _ => rfl
  | 7, _ => rfl
  | 8, _ => rfl
  | 9, _ => rfl
  | 10, _ => rfl
  | k + 11, h => omega
theorem Mo_p3 {x : Int32} : hp_pI (bk_Mo σ a R) a 10 3 x = some (bk_Mo σ a (upd R.1 3 x, R.2)) := Mo_q3
theorem Mo_g4 : hp_gR (bk_Mo σ a R) a 10 4 = some (a + 3) := bk_gR (k := 0) (Nat.zero_lt_succ _) rfl rfl rfl
theorem Mo_r4 : hp_row (bk_Mo σ a R) (a + 3) 0 = some (514, R.2 4) := bk_row (k := 3) (Nat.le_of_ble_eq_true rfl) rfl rfl
theorem Mo_a4 {i : Nat} (h : i < 514) : hp_aI (bk_Mo σ a R) (a + 3) 0 (nI i) = some (R.2 4 i) := bk_aI (k := 3) (Nat.le_of_ble_eq_true rfl) rfl rfl h (by decide)
theorem Mo_s4 {i : Nat} {x : Int32} (hi : i < 514) : hp_sI (bk_Mo σ a R) (a + 3) 0 (nI i) x = some (bk_Mo σ a (R.1, up2 R.2 4 i x)) := by
  refine (bk_sI (k := 3) (Nat.le_of_ble_eq_true rfl) rfl rfl hi (by decide)).trans (congrArg some (bW_congr (fun k h => ?_)))
  match k, h with
  | 0, _ => rfl
  | 1, _ => rfl
  | 2, _ => rfl
  | 3, _ => rfl
  | 4, _ => rfl
  | 5, _ => rfl
  | 6, _ => rfl
  | 7, _ => rfl
  | 8, _ => rfl
  | 9, _ => rfl
  | 10, _ => rfl
  | k + 11, h => omega
theorem Mo_n4 : hp_ln (bk_Mo σ a R) (a + 3) 0 = some (nI 514) := bk_ln (k := 3) (Nat.le_of_ble_eq_true rfl) rfl rfl
theorem Mo_g5 : hp_gR (bk_Mo σ a R) a 10 5 = some (a + 4) := bk_gR (k := 0) (Nat.zero_lt_succ _) rfl rfl rfl
theorem Mo_r5 : hp_row (bk_Mo σ a R) (a + 4) 1 = some (2, R.2 5) := bk_row (k := 4) (Nat.le_of_ble_eq_true rfl) rfl rfl
theorem Mo_a5 {i : Nat} (h : i < 2) : hp_aI (bk_Mo σ a R) (a + 4) 1 (nI i) = some (R.2 5 i) := bk_aI (k := 4) (Nat.le_of_ble_eq_true rfl) rfl rfl h (by decide)
theorem Mo_s5 {i : Nat} {x : Int32} (hi : i < 2) : hp_sI (bk_Mo σ a R) (a + 4) 1 (nI i) x = some (bk_Mo σ a (R.1, up2 R.2 5 i x)) := by
  refine (bk_sI (k := 4) (Nat.le_of_ble_eq_true rfl) rfl rfl hi (by decide)).trans (congrArg some (bW_congr (fun k h => ?_)))
  match k, h with
  | 0, _ => rfl
  | 1, _ => rfl
  | 2, _ => rfl
  | 3, _ => rfl
  | 4, _ => rfl
  | 5, _ => rfl
  | 6, _ => rfl
  | 7, _ => rfl
  | 8, _ => rfl
  | 9, _ => rfl
  | 10, _ => rfl
  | k + 11, h => omega
theorem Mo_n5 : hp_ln (bk_Mo σ a R) (a + 4) 1 = some (nI 2) := bk_ln (k := 4) (Nat.le_of_ble_eq_true rfl) rfl rfl
theorem Mo_g6 : hp_gR (bk_Mo σ a R) a 10 6 = some (a + 5) := bk_gR (k := 0) (Nat.zero_lt_succ _) rfl rfl rfl
theorem Mo_r6 : hp_row (bk_Mo σ a R) (a + 5) 0 = some (20, R.2 6) := bk_row (k := 5) (Nat.le_of_ble_eq_true rfl) rfl rfl
theorem Mo_a6 {i : Nat} (h : i < 20) : hp_aI (bk_Mo σ a R) (a + 5) 0 (nI i) = some (R.2 6 i) := bk_aI (k := 5) (Nat.le_of_ble_eq_true rfl) rfl rfl h (by decide)
theorem Mo_s6 {i : Nat} {x : Int32} (hi : i < 20) : hp_sI (bk_Mo σ a R) (a + 5) 0 (nI i) x = some (bk_Mo σ a (R.1, up2 R.2 6 i x)) := by
  refine (bk_sI (k := 5) (Nat.le_of_ble_eq_true rfl) rfl rfl hi (by decide)).trans (congrArg some (bW_congr (fun k h => ?_)))
  match k, h with
  | 0, _ => rfl
  | 1, _ => rfl
  | 2, _ => rfl
  | 3, _ => rfl
  | 4, _ => rfl
  | 5, _ => rfl
  | 6, _ => rfl
  | 7, _ => rfl
  | 8, _ => rfl
  | 9, _ => rfl
  | 10, _ => rfl
  | k + 11, h => omega
theorem Mo_n6 : hp_ln (bk_Mo σ a R) (a + 5) 0 = some (nI 20) := bk_ln (k := 5) (Nat.le_of_ble_eq_true rfl) rfl rfl
theorem Mo_g7 : hp_gR (bk_Mo σ a R) a 10 7 = some (a + 6) := bk_gR (k := 0) (Nat.zero_lt_succ _) rfl rfl rfl
theorem Mo_r7 : hp_row (bk_Mo σ a R) (a + 6) 0 = some (20, R.2 7) := bk_row (k := 6) (Nat.le_of_ble_eq_true rfl) rfl rfl
theorem Mo_a7 {i : Nat} (h : i < 20) : hp_aI (bk_Mo σ a R) (a + 6) 0 (nI i) = some (R.2 7 i) := bk_aI (k := 6) (Nat.le_of_ble_eq_true rfl) rfl rfl h (by decide)
theorem Mo_s7 {i : Nat} {x : Int32} (hi : i < 20) : hp_sI (bk_Mo σ a R) (a + 6) 0 (nI i) x = some (bk_Mo σ a (R.1, up2 R.2 7 i x)) := by
  refine (bk_sI (k := 6) (Nat.le_of_ble_eq_true rfl) rfl rfl hi (by decide)).trans (congrArg some (bW_congr (fun k h => ?_)))
  match k, h with
  | 0, _ => rfl
  | 1, _ => rfl
  | 2, _ => rfl
  | 3, _ => rfl
  | 4, _ => rfl
  | 5, _ => rfl
  | 6, _ => rfl
  | 7, _ => rfl
  | 8, _ => rfl
  | 9, _ => rfl
  | 10, _ => rfl
  | k + 11, h => omega
theorem Mo_n7 : hp_ln (bk_Mo σ a R) (a + 6) 0 = some (nI 20) := bk_ln (k := 6) (Nat.le_of_ble_eq_true rfl) rfl rfl
theorem Mo_g8 : hp_gI (bk_Mo σ a R) a 10 8 = some (R.1 8) := bk_gI (k := 0) (Nat.zero_lt_succ _) rfl rfl rfl
theorem Mo_q8 {x : Int32} : hp_pV (bk_Mo σ a R) a 10 8 (.int x) = some (bk_Mo σ a (upd R.1 8 x, R.2)) := by
  refine (bk_pV (k := 0) (Nat.zero_lt_succ _) rfl rfl (Nat.le_of_ble_eq_true rfl)).trans (congrArg some (bW_congr (fun k h => ?_)))
  match k, h with
  | 0, _ => rfl
  | 1, _ => rfl
  | 2, _ => rfl
  | 3, _ => rfl
  | 4, _ => rfl
  | 5, _ => rfl
  | 6, _ => rfl
  | 7, _ => rfl
  | 8, _ => rfl
  | 9, _ => rfl
  | 10, _ => rfl
  | k + 11, h => omega
theorem Mo_p8 {x : Int32} : hp_pI (bk_Mo σ a R) a 10 8 x = some (bk_Mo σ a (upd R.1 8 x, R.2)) := Mo_q8
theorem Mo_g9 : hp_gR (bk_Mo σ a R) a 10 9 = some (a + 7) := bk_gR (k := 0) (Nat.zero_lt_succ _) rfl rfl rfl
theorem Mo_r9 : hp_row (bk_Mo σ a R) (a + 7) 0 = some (14, R.2 9) := bk_row (k := 7) (Nat.le_of_ble_eq_true rfl) rfl rfl
theorem Mo_a9 {i : Nat} (h : i < 14) : hp_aI (bk_Mo σ a R) (a + 7) 0 (nI i) = some (R.2 9 i) := bk_aI (k := 7) (Nat.le_of_ble_eq_true rfl) rfl rfl h (by decide)
theorem Mo_s9 {i : Nat} {x : Int32} (hi : i < 14) : hp_sI (bk_Mo σ a R) (a + 7) 0 (nI i) x = some (bk_Mo σ a (R.1, up2 R.2 9 i x)) := by
  refine (bk_sI (k := 7) (Nat.le_of_ble_eq_true rfl) rfl rfl hi (by decide)).trans (congrArg some (bW_congr (fun k h => ?_)))
  match k, h with
  | 0, _ => rfl
  | 1, _ => rfl
  | 2, _ => rfl
  | 3, _ => rfl
  | 4, _ => rfl
  | 5, _ => rfl
  | 6, _ => rfl
  | 7, _ => rfl
  | 8, _ => rfl
  | 9, _ => rfl
  | 10, _ => rfl
  | k + 11, h => omega
theorem Mo_n9 : hp_ln (bk_Mo σ a R) (a + 7) 0 = some (nI 14) := bk_ln (k := 7) (Nat.le_of_ble_eq_true rfl) rfl rfl
theorem Mo_g10 : hp_gR (bk_Mo σ a R) a 10 10 = some (a + 8) := bk_gR (k := 0) (Nat.zero_lt_succ _) rfl rfl rfl
theorem Mo_r10 : hp_row (bk_Mo σ a R) (a + 8) 0 = some (756, R.2 10) := bk_row (k := 8) (Nat.le_of_ble_eq_true rfl) rfl rfl
theorem Mo_a10 {i : Nat} (h : i < 756) : hp_aI (bk_Mo σ a R) (a + 8) 0 (nI i) = some (R.2 10 i) := bk_aI (k := 8) (Nat.le_of_ble_eq_true rfl) rfl rfl h (by decide)
theorem Mo_s10 {i : Nat} {x : Int32} (hi : i < 756) : hp_sI (bk_Mo σ a R) (a + 8) 0 (nI i) x = some (bk_Mo σ a (R.1, up2 R.2 10 i x)) := by
  refine (bk_sI (k := 8) (Nat.le_of_ble_eq_true rfl) rfl rfl hi (by decide)).trans (congrArg some (bW_congr (fun k h => ?_)))
  match k, h with
  | 0, _ => rfl
  | 1, _ => rfl
  | 2, _ => rfl
  | 3, _ => rfl
  | 4, _ => rfl
  | 5, _ => rfl
  | 6, _ => rfl
  | 7, _ => rfl
  | 8, _ => rfl
  | 9, _ => rfl
  | 10, _ => rfl
  | k + 11, h => omega
theorem Mo_n10 : hp_ln (bk_Mo σ a R) (a + 8) 0 = some (nI 756) := bk_ln (k := 8) (Nat.le_of_ble_eq_true rfl) rfl rfl
theorem Mo_g11 : hp_gI (bk_Mo σ a R) a 10 11 = some (R.1 11) := bk_gI (k := 0) (Nat.zero_lt_succ _) rfl rfl rfl
theorem Mo_q11 {x : Int32} : hp_pV (bk_Mo σ a R) a 10 11 (.int x) = some (bk_Mo σ a (upd R.1 11 x, R.2)) := by
  refine (bk_pV (k := 0) (Nat.zero_lt_succ _) rfl rfl (Nat.le_of_ble_eq_true rfl)).trans (congrArg some (bW_congr (fun k h => ?_)))
  match k, h with
  | 0, _ => rfl
  | 1, _ => rfl
  | 2, _ => rfl
  | 3, _ => rfl
  | 4, _ => rfl
  | 5, _ => rfl
  | 6, _ => rfl
  | 7, _ => rfl
  | 8, _ => rfl
  | 9, _ => rfl
  | 10, _ => rfl
  | k + 11, h => omega
theorem Mo_p11 {x : Int32} (hz : x = 0 ∨ x = 1) : hp_pZ (bk_Mo σ a R) a 10 11 x = some (bk_Mo σ a (upd R.1 11 x, R.2)) := by
  unfold hp_pZ
  rw [if_pos hz]
  exact Mo_q11
theorem Mo_g12 : hp_gR (bk_Mo σ a R) a 10 12 = some (a + 9) := bk_gR (k := 0) (Nat.zero_lt_succ _) rfl rfl rfl
theorem Mo_r12 : hp_row (bk_Mo σ a R) (a + 9) 0 = some (480, R.2 12) := bk_row (k := 9) (Nat.le_of_ble_eq_true rfl) rfl rfl
theorem Mo_a12 {i : Nat} (h : i < 480) : hp_aI (bk_Mo σ a R) (a + 9) 0 (nI i) = some (R.2 12 i) := bk_aI (k := 9) (Nat.le_of_ble_eq_true rfl) rfl rfl h (by decide)
theorem Mo_s12 {i : Nat} {x : Int32} (hi : i < 480) : hp_sI (bk_Mo σ a R) (a + 9) 0 (nI i) x = some (bk_Mo σ a (R.1, up2 R.2 12 i x)) := by
  refine (bk_sI (k := 9) (Nat.le_of_ble_eq_true rfl) rfl rfl hi (by decide)).trans (congrArg some (bW_congr (fun k h => ?_)))
  match k, h with
  | 0, _ => rfl
  | 1, _ => rfl
  | 2, _ => rfl
  | 3, _ => rfl
  | 4, _ => rfl
  | 5, _ => rfl
  | 6, _ => rfl
  | 7, _ => rfl
  | 8, _ => rfl
  | 9, _ => rfl
  | 10, _ => rfl
  | k + 11, h => omega
theorem Mo_n12 : hp_ln (bk_Mo σ a R) (a + 9) 0 = some (nI 480) := bk_ln (k := 9) (Nat.le_of_ble_eq_true rfl) rfl rfl
theorem Mo_g13 : hp_gI (bk_Mo σ a R) a 10 13 = some (R.1 13) := bk_gI (k := 0) (Nat.zero_lt_succ _) rfl rfl rfl
theorem Mo_q13 {x : Int32} : hp_pV (bk_Mo σ a R) a 10 13 (.int x) = some (bk_Mo σ a (upd R.1 13 x, R.2)) := by
  refine (bk_pV (k := 0) (Nat.zero_lt_succ _) rfl rfl (Nat.le_of_ble_eq_true rfl)).trans (congrArg some (bW_congr (fun k h => ?_)))
  match k, h with
  | 0, _ => rfl
  | 1, _ => rfl
  | 2, _ => rfl
  | 3, _ => rfl
  | 4, _ => rfl
  | 5, _ => rfl
  | 6, _ => rfl
  | 7, _ => rfl
  | 8, _ => rfl
  | 9, _ => rfl
  | 10, _ => rfl
  | k + 11, h => omega
theorem Mo_p13 {x : Int32} : hp_pI (bk_Mo σ a R) a 10 13 x = some (bk_Mo σ a (upd R.1 13 x, R.2)) := Mo_q13
theorem Mo_g14 : hp_gR (bk_Mo σ a R) a 10 14 = some (a + 10) := bk_gR (k := 0) (Nat.zero_lt_succ _) rfl rfl rfl
theorem Mo_r14 : hp_row (bk_Mo σ a R) (a + 10) 0 = some (6, R.2 14) := bk_row (k := 10) (Nat.le_of_ble_eq_true rfl) rfl rfl
theorem Mo_a14 {i : Nat} (h : i < 6) : hp_aI (bk_Mo σ a R) (a + 10) 0 (nI i) = some (R.2 14 i) := bk_aI (k := 10) (Nat.le_of_ble_eq_true rfl) rfl rfl h (by decide)
theorem Mo_s14 {i : Nat} {x : Int32} (hi : i < 6) : hp_sI (bk_Mo σ a R) (a + 10) 0 (nI i) x = some (bk_Mo σ a (R.1, up2 R.2 14 i x)) := by
  refine (bk_sI (k := 10) (Nat.le_of_ble_eq_true rfl) rfl rfl hi (by decide)).trans (congrArg some (bW_congr (fun k h => ?_)))
  match k, h with
  | 0, _ => rfl
  | 1, _ => rfl
  | 2, _ => rfl
  | 3, _ => rfl
  | 4, _ => rfl
  | 5, _ => rfl
  | 6, _ => rfl
  | 7, _ => rfl
  | 8, _ => rfl
  | 9, _ => rfl
  | 10, _ => rfl
  | k + 11, h => omega
theorem Mo_n14 : hp_ln (bk_Mo σ a R) (a + 10) 0 = some (nI 6) := bk_ln (k := 10) (Nat.le_of_ble_eq_true rfl) rfl rfl
theorem Mo_g15 : hp_gI (bk_Mo σ a R) a 10 15 = some (R.1 15) := bk_gI (k := 0) (Nat.zero_lt_succ _) rfl rfl rfl
theorem Mo_q15 {x : Int32} : hp_pV (bk_Mo σ a R) a 10 15 (.int x) = some (bk_Mo σ a (upd R.1 15 x, R.2)) := by
  refine (bk_pV (k := 0) (Nat.zero_lt_succ _) rfl rfl (Nat.le_of_ble_eq_true rfl)).trans (congrArg some (bW_congr (fun k h => ?_)))
  match k, h with
  | 0, _ => rfl
  | 1, _ => rfl
  | 2, _ => rfl
  | 3, _ => rfl
  | 4, _ => rfl
  | 5, _ => rfl
  | 6, _ => rfl
  | 7, _ => rfl
  | 8, _ => rfl
  | 9, _ => rfl
  | 10, _ => rfl
  | k + 11, h => omega
theorem Mo_p15 {x : Int32} : hp_pI (bk_Mo σ a R) a 10 15 x = some (bk_Mo σ a (upd R.1 15 x, R.2)) := Mo_q15
theorem Mo_g16 : hp_gI (bk_Mo σ a R) a 10 16 = some (R.1 16) := bk_gI (k := 0) (Nat.zero_lt_succ _) rfl rfl rfl
theorem Mo_q16 {x : Int32} : hp_pV (bk_Mo σ a R) a 10 16 (.int x) = some (bk_Mo σ a (upd R.1 16 x, R.2)) := by
  refine (bk_pV (k := 0) (Nat.zero_lt_succ _) rfl rfl (Nat.le_of_ble_eq_true rfl)).trans (congrArg some (bW_congr (fun k h => ?_)))
  match k, h with
  | 0, _ => rfl
  | 1, _ => rfl
  | 2, _ => rfl
  | 3, _ => rfl
  | 4, _ => rfl
  | 5, _ => rfl
  | 6, _ => rfl
  | 7, _ => rfl
  | 8, _ => rfl
  | 9, _ => rfl
  | 10, _ => rfl
  | k + 11, h => omega
theorem Mo_p16 {x : Int32} : hp_pI (bk_Mo σ a R) a 10 16 x = some (bk_Mo σ a (upd R.1 16 x, R.2)) := Mo_q16
theorem Mo_g17 : hp_gI (bk_Mo σ a R) a 10 17 = some (R.1 17) := bk_gI (k := 0) (Nat.zero_lt_succ _) rfl rfl rfl
theorem Mo_q17 {x : Int32} : hp_pV (bk_Mo σ a R) a 10 17 (.int x) = some (bk_Mo σ a (upd R.1 17 x, R.2)) := by
  refine (bk_pV (k := 0) (Nat.zero_lt_succ _) rfl rfl (Nat.le_of_ble_eq_true rfl)).trans (congrArg some (bW_congr (fun k h => ?_)))
  match k, h with
  | 0, _ => rfl
  | 1, _ => rfl
  | 2, _ => rfl
  | 3, _ => rfl
  | 4, _ => rfl
  | 5, _ => rfl
  | 6, _ => rfl
  | 7, _ => rfl
  | 8, _ => rfl
  | 9, _ => rfl
  | 10, _ => rfl
  | k + 11, h => omega
theorem Mo_p17 {x : Int32} : hp_pI (bk_Mo σ a R) a 10 17 x = some (bk_Mo σ a (upd R.1 17 x, R.2)) := Mo_q17
theorem Mo_g18 : hp_gI (bk_Mo σ a R) a 10 18 = some (R.1 18) := bk_gI (k := 0) (Nat.zero_lt_succ _) rfl rfl rfl
theorem Mo_q18 {x : Int32} : hp_pV (bk_Mo σ a R) a 10 18 (.int x) = some (bk_Mo σ a (upd R.1 18 x, R.2)) := by
  refine (bk_pV (k := 0) (Nat.zero_lt_succ _) rfl rfl (Nat.le_of_ble_eq_true rfl)).trans (congrArg some (bW_congr (fun k h => ?_)))
  match k, h with
  | 0, _ => rfl
  | 1, _ => rfl
  | 2, _ => rfl
  | 3, _ => rfl
  | 4, _ => rfl
  | 5, _ => rfl
  | 6, _ => rfl
  | 7, _ => rfl
  | 8, _ => rfl
  | 9, _ => rfl
  | 10, _ => rfl
  | k + 11, h => omega
theorem Mo_p18 {x : Int32} : hp_pI (bk_Mo σ a R) a 10 18 x = some (bk_Mo σ a (upd R.1 18 x, R.2)) := Mo_q18
end
