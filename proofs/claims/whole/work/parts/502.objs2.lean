/-! ===== objects that hold references: their own cells ===== -/
theorem cp_cd (n : Nat) (hn : n < 100) : (¬ (0 : Int32) < 0 ∧ ¬ (0 : Int32) < 0 ∧ ¬ nI n < 0) ∧ (0 : Int32).toNatClampNeg + (nI n).toNatClampNeg ≤ n ∧ (0 : Int32).toNatClampNeg + (nI n).toNatClampNeg ≤ n := by
  have h0 : (0 : Int32).toNatClampNeg = 0 := rfl
  rw [h0, nI_cl (by omega)]
  exact ⟨⟨by decide, by decide, nI_pos (by omega)⟩, by omega, by omega⟩
theorem cpy_wr (f g : Nat → Int32) (n : Nat) : va_cpy f g 0 0 n = wr g 0 n f := by
  funext k
  unfold va_cpy wr
  split
  · rw [Nat.zero_add]
  · rfl
def ce_St (a : Nat) (R : oR) : Nat → hp_V := fun k => match k with
  | 0 => .inl (7, [.int (R.1 0), .int (R.1 1), .int (R.1 2), .int (R.1 3), .int (R.1 4), .int (R.1 5), .int (R.1 6), .ref (a + 1), .ref (a + 2), .ref (a + 3), .ref (a + 4)])
  | 1 => .inr (.inl (0, 7, R.2 7))
  | 2 => .inr (.inr (3, 6, fun i => if i < 6 then some (a + 5 + 3 * i) else none))
  | 3 => .inr (.inl (0, 12, R.2 9))
  | _ => .inr (.inl (0, 12, R.2 10))
def bk_St (σ : hp_H) (a : Nat) (R : oR) : hp_H := bW σ a 5 (ce_St a R)
section
variable {σ : hp_H} {a : Nat} {R : oR}
theorem St_eq (h : hs σ a 5 (ce_St a R)) : bk_St σ a R = σ := hs_eq h
theorem St_own {α : Type} {x : Option α} : hp_own (bk_St σ a R) a 7 x = x := bk_own (k := 0) (Nat.zero_lt_succ _) rfl rfl
theorem St_g0 : hp_gI (bk_St σ a R) a 7 0 = some (R.1 0) := bk_gI (k := 0) (Nat.zero_lt_succ _) rfl rfl rfl
theorem St_q0 {x : Int32} : hp_pV (bk_St σ a R) a 7 0 (.int x) = some (bk_St σ a (sF R 0 x)) := by
  refine (bk_pV (k := 0) (Nat.zero_lt_succ _) rfl rfl (Nat.le_of_ble_eq_true rfl)).trans (congrArg some (bW_congr (fun k h => ?_)))
  match k, h with
  | 0, _ => rfl
  | 1, _ => rfl
  | 2, _ => rfl
  | 3, _ => rfl
  | 4, _ => rfl
theorem St_p0 {x : Int32} : hp_pI (bk_St σ a R) a 7 0 x = some (bk_St σ a (sF R 0 x)) := St_q0
theorem St_g1 : hp_gI (bk_St σ a R) a 7 1 = some (R.1 1) := bk_gI (k := 0) (Nat.zero_lt_succ _) rfl rfl rfl
theorem St_q1 {x : Int32} : hp_pV (bk_St σ a R) a 7 1 (.int x) = some (bk_St σ a (sF R 1 x)) := by
  refine (bk_pV (k := 0) (Nat.zero_lt_succ _) rfl rfl (Nat.le_of_ble_eq_true rfl)).trans (congrArg some (bW_congr (fun k h => ?_)))
  match k, h with
  | 0, _ => rfl
  | 1, _ => rfl
  | 2, _ => rfl
  | 3, _ => rfl
  | 4, _ => rfl
theorem St_p1 {x : Int32} : hp_pI (bk_St σ a R) a 7 1 x = some (bk_St σ a (sF R 1 x)) := St_q1
theorem St_g2 : hp_gI (bk_St σ a R) a 7 2 = some (R.1 2) := bk_gI (k := 0) (Nat.zero_lt_succ _) rfl rfl rfl
theorem St_q2 {x : Int32} : hp_pV (bk_St σ a R) a 7 2 (.int x) = some (bk_St σ a (sF R 2 x)) := by
  refine (bk_pV (k := 0) (Nat.zero_lt_succ _) rfl rfl (Nat.le_of_ble_eq_true rfl)).trans (congrArg some (bW_congr (fun k h => ?_)))
  match k, h with
  | 0, _ => rfl
  | 1, _ => rfl
  | 2, _ => rfl
  | 3, _ => rfl
  | 4, _ => rfl
theorem St_p2 {x : Int32} : hp_pI (bk_St σ a R) a 7 2 x = some (bk_St σ a (sF R 2 x)) := St_q2
theorem St_g3 : hp_gI (bk_St σ a R) a 7 3 = some (R.1 3) := bk_gI (k := 0) (Nat.zero_lt_succ _) rfl rfl rfl
theorem St_q3 {x : Int32} : hp_pV (bk_St σ a R) a 7 3 (.int x) = some (bk_St σ a (sF R 3 x)) := by
  refine (bk_pV (k := 0) (Nat.zero_lt_succ _) rfl rfl (Nat.le_of_ble_eq_true rfl)).trans (congrArg some (bW_congr (fun k h => ?_)))
  match k, h with
  | 0, _ => rfl
  | 1, _ => rfl
  | 2, _ => rfl
  | 3, _ => rfl
  | 4, _ => rfl
theorem St_p3 {x : Int32} : hp_pI (bk_St σ a R) a 7 3 x = some (bk_St σ a (sF R 3 x)) := St_q3
theorem St_g4 : hp_gI (bk_St σ a R) a 7 4 = some (R.1 4) := bk_gI (k := 0) (Nat.zero_lt_succ _) rfl rfl rfl
theorem St_q4 {x : Int32} : hp_pV (bk_St σ a R) a 7 4 (.int x) = some (bk_St σ a (sF R 4 x)) := by
  refine (bk_pV (k := 0) (Nat.zero_lt_succ _) rfl rfl (Nat.le_of_ble_eq_true rfl)).trans (congrArg some (bW_congr (fun k h => ?_)))
  match k, h with
  | 0, _ => rfl
  | 1, _ => rfl
  | 2, _ => rfl
  | 3, _ => rfl
  | 4, _ => rfl
theorem St_p4 {x : Int32} : hp_pI (bk_St σ a R) a 7 4 x = some (bk_St σ a (sF R 4 x)) := St_q4
theorem St_g5 : hp_gI (bk_St σ a R) a 7 5 = some (R.1 5) := bk_gI (k := 0) (Nat.zero_lt_succ _) rfl rfl rfl
theorem St_q5 {x : Int32} : hp_pV (bk_St σ a R) a 7 5 (.int x) = some (bk_St σ a (sF R 5 x)) := by
  refine (bk_pV (k := 0) (Nat.zero_lt_succ _) rfl rfl (Nat.le_of_ble_eq_true rfl)).trans (congrArg some (bW_congr (fun k h => ?_)))
  match k, h with
  | 0, _ => rfl
  | 1, _ => rfl
  | 2, _ => rfl
  | 3, _ => rfl
  | 4, _ => rfl
theorem St_p5 {x : Int32} : hp_pI (bk_St σ a R) a 7 5 x = some (bk_St σ a (sF R 5 x)) := St_q5
theorem St_g6 : hp_gI (bk_St σ a R) a 7 6 = some (R.1 6) := bk_gI (k := 0) (Nat.zero_lt_succ _) rfl rfl rfl
theorem St_q6 {x : Int32} : hp_pV (bk_St σ a R) a 7 6 (.int x) = some (bk_St σ a (sF R 6 x)) := by
  refine (bk_pV (k := 0) (Nat.zero_lt_succ _) rfl rfl (Nat.le_of_ble_eq_true rfl)).trans (congrArg some (bW_congr (fun k h => ?_)))
  match k, h with
  | 0, _ => rfl
  | 1, _ => rfl
  | 2, _ => rfl
  | 3, _ => rfl
  | 4, _ => rfl
theorem St_p6 {x : Int32} : hp_pI (bk_St σ a R) a 7 6 x = some (bk_St σ a (sF R 6 x)) := St_q6
theorem St_g7 : hp_gR (bk_St σ a R) a 7 7 = some (a + 1) := bk_gR (k := 0) (Nat.zero_lt_succ _) rfl rfl rfl
theorem St_r7 : hp_row (bk_St σ a R) (a + 1) 0 = some (7, R.2 7) := bk_row (k := 1) (Nat.le_of_ble_eq_true rfl) rfl rfl
theorem St_a7 {i : Nat} (h : i < 7) : hp_aI (bk_St σ a R) (a + 1) 0 (nI i) = some (R.2 7 i) := bk_aI (k := 1) (Nat.le_of_ble_eq_true rfl) rfl rfl h (by decide)
theorem St_s7 {i : Nat} {x : Int32} (hi : i < 7) : hp_sI (bk_St σ a R) (a + 1) 0 (nI i) x = some (bk_St σ a (sA R 7 (upd (R.2 7) i x))) := by
  refine (bk_sI (k := 1) (Nat.le_of_ble_eq_true rfl) rfl rfl hi (by decide)).trans (congrArg some (bW_congr (fun k h => ?_)))
  match k, h with
  | 0, _ => rfl
  | 1, _ => rfl
  | 2, _ => rfl
  | 3, _ => rfl
  | 4, _ => rfl
theorem St_y7 {q : Nat} {g : Nat → Int32} (h : hp_row (bk_St σ a R) q 0 = some (7, g)) : hp_cp (bk_St σ a R) q 0 (a + 1) 0 (nI 7) = some (bk_St σ a (sA R 7 (wr (R.2 7) 0 7 g))) := by
  unfold hp_cp
  rw [h, Option.bind_some, St_r7, Option.bind_some, if_pos (cp_cd 7 (by decide))]
  refine congrArg some ((bW_set (k := 1) (Nat.le_of_ble_eq_true rfl) rfl _).trans (bW_congr (fun k h => ?_)))
  match k, h with
  | 0, _ => rfl
  | 1, _ => exact congrArg (fun u => Sum.inr (Sum.inl (0, _, u))) (cpy_wr _ _ _)
  | 2, _ => rfl
  | 3, _ => rfl
  | 4, _ => rfl
theorem St_g8 : hp_gR (bk_St σ a R) a 7 8 = some (a + 2) := bk_gR (k := 0) (Nat.zero_lt_succ _) rfl rfl rfl
theorem St_a8 {i : Nat} (h : i < 6) : hp_aR (bk_St σ a R) (a + 2) 3 (nI i) = some (a + 5 + 3 * i) := (bk_aR (k := 2) (Nat.le_of_ble_eq_true rfl) rfl rfl h (by decide)).trans (if_pos h)
theorem St_g9 : hp_gR (bk_St σ a R) a 7 9 = some (a + 3) := bk_gR (k := 0) (Nat.zero_lt_succ _) rfl rfl rfl
theorem St_r9 : hp_row (bk_St σ a R) (a + 3) 0 = some (12, R.2 9) := bk_row (k := 3) (Nat.le_of_ble_eq_true rfl) rfl rfl
theorem St_a9 {i : Nat} (h : i < 12) : hp_aI (bk_St σ a R) (a + 3) 0 (nI i) = some (R.2 9 i) := bk_aI (k := 3) (Nat.le_of_ble_eq_true rfl) rfl rfl h (by decide)
theorem St_s9 {i : Nat} {x : Int32} (hi : i < 12) : hp_sI (bk_St σ a R) (a + 3) 0 (nI i) x = some (bk_St σ a (sA R 9 (upd (R.2 9) i x))) := by
  refine (bk_sI (k := 3) (Nat.le_of_ble_eq_true rfl) rfl rfl hi (by decide)).trans (congrArg some (bW_congr (fun k h => ?_)))
  match k, h with
  | 0, _ => rfl
  | 1, _ => rfl
  | 2, _ => rfl
  | 3, _ => rfl
  | 4, _ => rfl
theorem St_y9 {q : Nat} {g : Nat → Int32} (h : hp_row (bk_St σ a R) q 0 = some (12, g)) : hp_cp (bk_St σ a R) q 0 (a + 3) 0 (nI 12) = some (bk_St σ a (sA R 9 (wr (R.2 9) 0 12 g))) := by
  unfold hp_cp
  rw [h, Option.bind_some, St_r9, Option.bind_some, if_pos (cp_cd 12 (by decide))]
  refine congrArg some ((bW_set (k := 3) (Nat.le_of_ble_eq_true rfl) rfl _).trans (bW_congr (fun k h => ?_)))
  match k, h with
  | 0, _ => rfl
  | 1, _ => rfl
  | 2, _ => rfl
  | 3, _ => exact congrArg (fun u => Sum.inr (Sum.inl (0, _, u))) (cpy_wr _ _ _)
  | 4, _ => rfl
theorem St_g10 : hp_gR (bk_St σ a R) a 7 10 = some (a + 4) := bk_gR (k := 0) (Nat.zero_lt_succ _) rfl rfl rfl
theorem St_r10 : hp_row (bk_St σ a R) (a + 4) 0 = some (12, R.2 10) := bk_row (k := 4) (Nat.le_of_ble_eq_true rfl) rfl rfl
theorem St_a10 {i : Nat} (h : i < 12) : hp_aI (bk_St σ a R) (a + 4) 0 (nI i) = some (R.2 10 i) := bk_aI (k := 4) (Nat.le_of_ble_eq_true rfl) rfl rfl h (by decide)
theorem St_s10 {i : Nat} {x : Int32} (hi : i < 12) : hp_sI (bk_St σ a R) (a + 4) 0 (nI i) x = some (bk_St σ a (sA R 10 (upd (R.2 10) i x))) := by
  refine (bk_sI (k := 4) (Nat.le_of_ble_eq_true rfl) rfl rfl hi (by decide)).trans (congrArg some (bW_congr (fun k h => ?_)))
  match k, h with
  | 0, _ => rfl
  | 1, _ => rfl
  | 2, _ => rfl
  | 3, _ => rfl
  | 4, _ => rfl
theorem St_y10 {q : Nat} {g : Nat → Int32} (h : hp_row (bk_St σ a R) q 0 = some (12, g)) : hp_cp (bk_St σ a R) q 0 (a + 4) 0 (nI 12) = some (bk_St σ a (sA R 10 (wr (R.2 10) 0 12 g))) := by
  unfold hp_cp
  rw [h, Option.bind_some, St_r10, Option.bind_some, if_pos (cp_cd 12 (by decide))]
  refine congrArg some ((bW_set (k := 4) (Nat.le_of_ble_eq_true rfl) rfl _).trans (bW_congr (fun k h => ?_)))
  match k, h with
  | 0, _ => rfl
  | 1, _ => rfl
  | 2, _ => rfl
  | 3, _ => rfl
  | 4, _ => exact congrArg (fun u => Sum.inr (Sum.inl (0, _, u))) (cpy_wr _ _ _)
end
def ce_Te (a : Nat) (R : oR) : Nat → hp_V := fun k => match k with
  | 0 => .inl (8, [.ref (a + 1), .ref (a + 2), .int (R.1 2)])
  | 1 => .inr (.inr (2, 7, fun i => if i < 7 then some (a + 3 + 4 * i) else none))
  | _ => .inr (.inr (2, 7, fun i => if i < 7 then some (a + 5 + 4 * i) else none))
def bk_Te (σ : hp_H) (a : Nat) (R : oR) : hp_H := bW σ a 3 (ce_Te a R)
section
variable {σ : hp_H} {a : Nat} {R : oR}
theorem Te_eq (h : hs σ a 3 (ce_Te a R)) : bk_Te σ a R = σ := hs_eq h
theorem Te_own {α : Type} {x : Option α} : hp_own (bk_Te σ a R) a 8 x = x := bk_own (k := 0) (Nat.zero_lt_succ _) rfl rfl
theorem Te_g0 : hp_gR (bk_Te σ a R) a 8 0 = some (a + 1) := bk_gR (k := 0) (Nat.zero_lt_succ _) rfl rfl rfl
theorem Te_a0 {i : Nat} (h : i < 7) : hp_aR (bk_Te σ a R) (a + 1) 2 (nI i) = some (a + 3 + 4 * i) := (bk_aR (k := 1) (Nat.le_of_ble_eq_true rfl) rfl rfl h (by decide)).trans (if_pos h)
theorem Te_g1 : hp_gR (bk_Te σ a R) a 8 1 = some (a + 2) := bk_gR (k := 0) (Nat.zero_lt_succ _) rfl rfl rfl
theorem Te_a1 {i : Nat} (h : i < 7) : hp_aR (bk_Te σ a R) (a + 2) 2 (nI i) = some (a + 5 + 4 * i) := (bk_aR (k := 2) (Nat.le_of_ble_eq_true rfl) rfl rfl h (by decide)).trans (if_pos h)
theorem Te_g2 : hp_gI (bk_Te σ a R) a 8 2 = some (R.1 2) := bk_gI (k := 0) (Nat.zero_lt_succ _) rfl rfl rfl
theorem Te_q2 {x : Int32} : hp_pV (bk_Te σ a R) a 8 2 (.int x) = some (bk_Te σ a (sF R 2 x)) := by
  refine (bk_pV (k := 0) (Nat.zero_lt_succ _) rfl rfl (Nat.le_of_ble_eq_true rfl)).trans (congrArg some (bW_congr (fun k h => ?_)))
  match k, h with
  | 0, _ => rfl
  | 1, _ => rfl
  | 2, _ => rfl
theorem Te_p2 {x : Int32} (hz : x = 0 ∨ x = 1) : hp_pZ (bk_Te σ a R) a 8 2 x = some (bk_Te σ a (sF R 2 x)) := by
  unfold hp_pZ
  rw [if_pos hz]
  exact Te_q2
end
def ce_Pa (a : Nat) (R : oR) : Nat → hp_V := fun k => match k with
  | 0 => .inl (6, [.ref (a + 1), .int (R.1 1), .int (R.1 2)])
  | _ => .inr (.inr (5, 16, fun i => if i < 16 then some (a + 2 + 23 * i) else none))
def bk_Pa (σ : hp_H) (a : Nat) (R : oR) : hp_H := bW σ a 2 (ce_Pa a R)
section
variable {σ : hp_H} {a : Nat} {R : oR}
theorem Pa_eq (h : hs σ a 2 (ce_Pa a R)) : bk_Pa σ a R = σ := hs_eq h
theorem Pa_own {α : Type} {x : Option α} : hp_own (bk_Pa σ a R) a 6 x = x := bk_own (k := 0) (Nat.zero_lt_succ _) rfl rfl
theorem Pa_g0 : hp_gR (bk_Pa σ a R) a 6 0 = some (a + 1) := bk_gR (k := 0) (Nat.zero_lt_succ _) rfl rfl rfl
theorem Pa_a0 {i : Nat} (h : i < 16) : hp_aR (bk_Pa σ a R) (a + 1) 5 (nI i) = some (a + 2 + 23 * i) := (bk_aR (k := 1) (Nat.le_of_ble_eq_true rfl) rfl rfl h (by decide)).trans (if_pos h)
theorem Pa_g1 : hp_gI (bk_Pa σ a R) a 6 1 = some (R.1 1) := bk_gI (k := 0) (Nat.zero_lt_succ _) rfl rfl rfl
theorem Pa_q1 {x : Int32} : hp_pV (bk_Pa σ a R) a 6 1 (.int x) = some (bk_Pa σ a (sF R 1 x)) := by
  refine (bk_pV (k := 0) (Nat.zero_lt_succ _) rfl rfl (Nat.le_of_ble_eq_true rfl)).trans (congrArg some (bW_congr (fun k h => ?_)))
  match k, h with
  | 0, _ => rfl
  | 1, _ => rfl
theorem Pa_p1 {x : Int32} : hp_pI (bk_Pa σ a R) a 6 1 x = some (bk_Pa σ a (sF R 1 x)) := Pa_q1
theorem Pa_g2 : hp_gI (bk_Pa σ a R) a 6 2 = some (R.1 2) := bk_gI (k := 0) (Nat.zero_lt_succ _) rfl rfl rfl
theorem Pa_q2 {x : Int32} : hp_pV (bk_Pa σ a R) a 6 2 (.int x) = some (bk_Pa σ a (sF R 2 x)) := by
  refine (bk_pV (k := 0) (Nat.zero_lt_succ _) rfl rfl (Nat.le_of_ble_eq_true rfl)).trans (congrArg some (bW_congr (fun k h => ?_)))
  match k, h with
  | 0, _ => rfl
  | 1, _ => rfl
theorem Pa_p2 {x : Int32} : hp_pI (bk_Pa σ a R) a 6 2 x = some (bk_Pa σ a (sF R 2 x)) := Pa_q2
end
def ce_Im (a : Nat) (R : oR) : Nat → hp_V := fun k => match k with
  | _ => .inl (4, [.ref (a + 1), .int (R.1 1), .int (R.1 2)])
def bk_Im (σ : hp_H) (a : Nat) (R : oR) : hp_H := bW σ a 1 (ce_Im a R)
section
variable {σ : hp_H} {a : Nat} {R : oR}
theorem Im_eq (h : hs σ a 1 (ce_Im a R)) : bk_Im σ a R = σ := hs_eq h
theorem Im_own {α : Type} {x : Option α} : hp_own (bk_Im σ a R) a 4 x = x := bk_own (k := 0) (Nat.zero_lt_succ _) rfl rfl
theorem Im_g0 : hp_gR (bk_Im σ a R) a 4 0 = some (a + 1) := bk_gR (k := 0) (Nat.zero_lt_succ _) rfl rfl rfl
theorem Im_g1 : hp_gI (bk_Im σ a R) a 4 1 = some (R.1 1) := bk_gI (k := 0) (Nat.zero_lt_succ _) rfl rfl rfl
theorem Im_q1 {x : Int32} : hp_pV (bk_Im σ a R) a 4 1 (.int x) = some (bk_Im σ a (sF R 1 x)) := by
  refine (bk_pV (k := 0) (Nat.zero_lt_succ _) rfl rfl (Nat.le_of_ble_eq_true rfl)).trans (congrArg some (bW_congr (fun k h => ?_)))
  match k, h with
  | 0, _ => rfl
theorem Im_p1 {x : Int32} : hp_pI (bk_Im σ a R) a 4 1 x = some (bk_Im σ a (sF R 1 x)) := Im_q1
theorem Im_g2 : hp_gI (bk_Im σ a R) a 4 2 = some (R.1 2) := bk_gI (k := 0) (Nat.zero_lt_succ _) rfl rfl rfl
theorem Im_q2 {x : Int32} : hp_pV (bk_Im σ a R) a 4 2 (.int x) = some (bk_Im σ a (sF R 2 x)) := by
  refine (bk_pV (k := 0) (Nat.zero_lt_succ _) rfl rfl (Nat.le_of_ble_eq_true rfl)).trans (congrArg some (bW_congr (fun k h => ?_)))
  match k, h with
  | 0, _ => rfl
theorem Im_p2 {x : Int32} (hz : x = 0 ∨ x = 1) : hp_pZ (bk_Im σ a R) a 4 2 x = some (bk_Im σ a (sF R 2 x)) := by
  unfold hp_pZ
  rw [if_pos hz]
  exact Im_q2
end
def ce_NB (a : Nat) (R : oR) : Nat → hp_V := fun k => match k with
  | _ => .inl (9, [.ref (a + 1), .ref (a + 24), .ref (a + 55), .ref (a + 57), .ref (a + 427), .ref (a + 430), .ref (a + 431)])
def bk_NB (σ : hp_H) (a : Nat) (R : oR) : hp_H := bW σ a 1 (ce_NB a R)
section
variable {σ : hp_H} {a : Nat} {R : oR}
theorem NB_eq (h : hs σ a 1 (ce_NB a R)) : bk_NB σ a R = σ := hs_eq h
theorem NB_own {α : Type} {x : Option α} : hp_own (bk_NB σ a R) a 9 x = x := bk_own (k := 0) (Nat.zero_lt_succ _) rfl rfl
theorem NB_g0 : hp_gR (bk_NB σ a R) a 9 0 = some (a + 1) := bk_gR (k := 0) (Nat.zero_lt_succ _) rfl rfl rfl
theorem NB_g1 : hp_gR (bk_NB σ a R) a 9 1 = some (a + 24) := bk_gR (k := 0) (Nat.zero_lt_succ _) rfl rfl rfl
theorem NB_g2 : hp_gR (bk_NB σ a R) a 9 2 = some (a + 55) := bk_gR (k := 0) (Nat.zero_lt_succ _) rfl rfl rfl
theorem NB_g3 : hp_gR (bk_NB σ a R) a 9 3 = some (a + 57) := bk_gR (k := 0) (Nat.zero_lt_succ _) rfl rfl rfl
theorem NB_g4 : hp_gR (bk_NB σ a R) a 9 4 = some (a + 427) := bk_gR (k := 0) (Nat.zero_lt_succ _) rfl rfl rfl
theorem NB_g5 : hp_gR (bk_NB σ a R) a 9 5 = some (a + 430) := bk_gR (k := 0) (Nat.zero_lt_succ _) rfl rfl rfl
theorem NB_g6 : hp_gR (bk_NB σ a R) a 9 6 = some (a + 431) := bk_gR (k := 0) (Nat.zero_lt_succ _) rfl rfl rfl
end
