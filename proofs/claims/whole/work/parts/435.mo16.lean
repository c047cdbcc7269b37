/-! ===== the reference: broker, most, leave ===== -/
/-- what a deed leaves beside the row -/
def dedX (R : oR) (k : Nat) : oR := sF (sF (sA R 2 (pstS (R.2 2) k (R.2 0))) 3 (nI (pstN k))) 11 0
def brkS (s : Nat → Int32) (b : Nat) : Nat → Int32 := upd (upd s (8 + nB s) (nI b)) 0 (nI (nB s + 1))
theorem upd_at {A : Nat → Int32} {i : Nat} {x : Int32} : upd A i x i = x := if_pos rfl
theorem upd_ne {A : Nat → Int32} {i j : Nat} {x : Int32} (h : j ≠ i) : upd A i x j = A j := if_neg h
theorem tst_y {α : Type} {n : Nat} {x : Int32} {u v : α} (h : inI x n) : (if (if 0 ≤ x.toInt ∧ x.toInt < (n : Int) then (1 : Int32) else 0) = 0 then u else v) = v := if_neg (fun q => (if01_0 (cd := 0 ≤ x.toInt ∧ x.toInt < (n : Int))).mp q h)
theorem tst_n {α : Type} {n : Nat} {x : Int32} {u v : α} (h : ¬ inI x n) : (if (if 0 ≤ x.toInt ∧ x.toInt < (n : Int) then (1 : Int32) else 0) = 0 then u else v) = u := if_pos ((if01_0 (cd := 0 ≤ x.toInt ∧ x.toInt < (n : Int))).mpr h)
theorem tsw_y {α : Type} {a b x : Int32} {u v : α} (h : a.toInt ≤ x.toInt ∧ x.toInt ≤ b.toInt) : (if (if a.toInt ≤ x.toInt ∧ x.toInt ≤ b.toInt then (1 : Int32) else 0) = 0 then u else v) = v := if_neg (fun q => if01_0.mp q h)
theorem tsw_n {α : Type} {a b x : Int32} {u v : α} (h : ¬ (a.toInt ≤ x.toInt ∧ x.toInt ≤ b.toInt)) : (if (if a.toInt ≤ x.toInt ∧ x.toInt ≤ b.toInt then (1 : Int32) else 0) = 0 then u else v) = u := if_pos (if01_0.mpr h)
section MO16
variable {σ : hp_H} {r : Nat} {R : oR} {A : Nat → Int32} {x : Int32}
theorem Mo_r_0 : hp_aI (bk_Mo σ r (sA R 0 A)) (r + 1) 0 0 = some (A 0) := Mo_rd (i := 0) (by decide)
theorem Mo_r_1 : hp_aI (bk_Mo σ r (sA R 0 A)) (r + 1) 0 1 = some (A 1) := Mo_rd (i := 1) (by decide)
theorem Mo_r_2 : hp_aI (bk_Mo σ r (sA R 0 A)) (r + 1) 0 2 = some (A 2) := Mo_rd (i := 2) (by decide)
theorem Mo_r_3 : hp_aI (bk_Mo σ r (sA R 0 A)) (r + 1) 0 3 = some (A 3) := Mo_rd (i := 3) (by decide)
theorem Mo_w_0 : hp_sI (bk_Mo σ r (sA R 0 A)) (r + 1) 0 0 x = some (bk_Mo σ r (sA R 0 (upd A 0 x))) := Mo_st (i := 0) (by decide)
theorem Mo_w_1 : hp_sI (bk_Mo σ r (sA R 0 A)) (r + 1) 0 1 x = some (bk_Mo σ r (sA R 0 (upd A 1 x))) := Mo_st (i := 1) (by decide)
theorem Mo_w_2 : hp_sI (bk_Mo σ r (sA R 0 A)) (r + 1) 0 2 x = some (bk_Mo σ r (sA R 0 (upd A 2 x))) := Mo_st (i := 2) (by decide)
theorem Mo_w_3 : hp_sI (bk_Mo σ r (sA R 0 A)) (r + 1) 0 3 x = some (bk_Mo σ r (sA R 0 (upd A 3 x))) := Mo_st (i := 3) (by decide)
theorem Mo_dd {k : Nat} {s : Nat → Int32} (hk : k ≤ 16) (h0 : R.2 0 = s) (h3 : R.1 3 = nI k) : f_Mo_deed r (bk_Mo σ r R) = some (bk_Mo σ r (sA (dedX R k) 0 s)) := by
  rw [Mo_deed hk rfl rfl h3]
  have e : (dedX R k).2 0 = s := by rw [← h0]; exact sA_ne (R := R) (j := 2) (k := 0) (A := pstS (R.2 2) k (R.2 0)) (by decide)
  rw [← e, sA_self]
  rfl
theorem Mo_brk {k : Nat} {s : Nat → Int32} (hs : Wf s) (hk : k ≤ 16) (h0 : R.2 0 = s) (h3 : R.1 3 = nI k) {b : Nat} (hb : b < nB s) (h7 : nB s ≠ 7) : f_Mo_broker r (nI b) (bk_Mo σ r R) = some (nI (nB s), bk_Mo σ r (sA (dedX R k) 0 (brkS s b))) := by
  have hB7 := hs.1.1.2.2
  have e0 : hp_aI (bk_Mo σ r R) (r + 1) 0 0 = some (nI (nB s)) := by rw [← hs.1.1.1, ← h0]; exact Mo_a0 (i := 0) (by decide)
  have u0 : upd s (8 + nB s) (nI b) 0 = nI (nB s) := by rw [upd_ne (by omega)]; exact hs.1.1.1
  have h7' : ¬ nI (nB s) = 7 := fun q => h7 ((nI_eq (b := 7) (by omega) (by omega)).mp q)
  unfold f_Mo_broker
  rw [Mo_own, Mo_isBroker (B := nB s) (by rw [h0]; exact hs.1.1.1) (by omega), Option.bind_some, tst_y (inI_nI hb (by omega)), Mo_g0, Option.bind_some, e0, Option.bind_some, if_neg h7', Mo_dd hk h0 h3, Option.bind_some]
  simp only [Mo_g0, Option.bind_some, Mo_r_0, hs.1.1.1]
  rw [show (8 : Int32) = nI 8 from rfl, nI_add, Mo_st (by omega), Option.bind_some]
  simp only [Mo_g0, Option.bind_some, Mo_r_0, Mo_w_0, u0, upd_at, nI_1]
  rw [nI_pred]
  rfl
theorem Mo_brk_no {s : Nat → Int32} (hs : Wf s) (h0 : R.2 0 = s) (hx : ¬ inI x (nB s)) : f_Mo_broker r x (bk_Mo σ r R) = some (-1000000001, bk_Mo σ r R) := by
  have hB7 := hs.1.1.2.2
  unfold f_Mo_broker
  rw [Mo_own, Mo_isBroker (B := nB s) (by rw [h0]; exact hs.1.1.1) (by omega), Option.bind_some, tst_n hx]
theorem Mo_brk_full {s : Nat → Int32} (hs : Wf s) (h0 : R.2 0 = s) {b : Nat} (hb : b < nB s) (h7 : nB s = 7) : f_Mo_broker r (nI b) (bk_Mo σ r R) = some (-1000000004, bk_Mo σ r R) := by
  have e0 : hp_aI (bk_Mo σ r R) (r + 1) 0 0 = some (nI (nB s)) := by rw [← hs.1.1.1, ← h0]; exact Mo_a0 (i := 0) (by decide)
  unfold f_Mo_broker
  rw [Mo_own, Mo_isBroker (B := nB s) (by rw [h0]; exact hs.1.1.1) (by omega), Option.bind_some, tst_y (inI_nI hb (by omega)), Mo_g0, Option.bind_some, e0, Option.bind_some, if_pos (by rw [h7]; rfl)]
theorem Mo_mst {k : Nat} {s : Nat → Int32} (hk : k ≤ 16) (h0 : R.2 0 = s) (h3 : R.1 3 = nI k) (hx : 1 ≤ x.toInt ∧ x.toInt ≤ 9) : f_Mo_most r x (bk_Mo σ r R) = some (s 3, bk_Mo σ r (sA (dedX R k) 0 (upd s 3 x))) := by
  unfold f_Mo_most
  rw [Mo_own, in_wi, wi_lit, Option.bind_some, tsw_y (a := 1) (b := 9) hx, Mo_dd hk h0 h3, Option.bind_some]
  simp only [Mo_g0, Option.bind_some, Mo_r_3, Mo_w_3]
theorem Mo_mst_no (hx : ¬ (1 ≤ x.toInt ∧ x.toInt ≤ 9)) : f_Mo_most r x (bk_Mo σ r R) = some (-1000000002, bk_Mo σ r R) := by
  unfold f_Mo_most
  rw [Mo_own, in_wi, wi_lit, Option.bind_some, tsw_n (a := 1) (b := 9) hx]
theorem Mo_lv {k : Nat} {s : Nat → Int32} (hs : Wf s) (hk : k ≤ 16) (h0 : R.2 0 = s) (h3 : R.1 3 = nI k) {c : Nat} (hc : c < nC s) (hp : s (17 + 25 * c) = 1) : f_Mo_leave r (nI c) (bk_Mo σ r R) = some (s (16 + 25 * c), bk_Mo σ r (sA (dedX R k) 0 (upd s (17 + 25 * c) 0))) := by
  have hC6 := hs.2.1.1.2
  have e17 : 16 + 25 * c + 1 = 17 + 25 * c := by omega
  unfold f_Mo_leave
  rw [Mo_own, Mo_isClient (C := nC s) (by rw [h0]; exact hs.2.1.1.1) (by omega), Option.bind_some, tst_y (inI_nI hc (by omega)), show (1 : Int32) = nI 1 from rfl, Mo_of (by omega), Option.bind_some, h0, e17, hp, if_neg (by decide), Mo_dd hk h0 h3, Option.bind_some, Mo_sets (by omega), Option.bind_some, sA_A, sA_at, e17, show (0 : Int32) = nI 0 from rfl, Mo_of (by omega), Option.bind_some, sA_at, upd_ne (by omega), Nat.add_zero]
theorem Mo_lv_no {s : Nat → Int32} (hs : Wf s) (h0 : R.2 0 = s) (hx : ¬ inI x (nC s)) : f_Mo_leave r x (bk_Mo σ r R) = some (-1000000001, bk_Mo σ r R) := by
  have hC6 := hs.2.1.1.2
  unfold f_Mo_leave
  rw [Mo_own, Mo_isClient (C := nC s) (by rw [h0]; exact hs.2.1.1.1) (by omega), Option.bind_some, tst_n hx]
theorem Mo_lv_away {s : Nat → Int32} (hs : Wf s) (h0 : R.2 0 = s) {c : Nat} (hc : c < nC s) (hp : s (17 + 25 * c) = 0) : f_Mo_leave r (nI c) (bk_Mo σ r R) = some (-1000000003, bk_Mo σ r R) := by
  have hC6 := hs.2.1.1.2
  have e17 : 16 + 25 * c + 1 = 17 + 25 * c := by omega
  unfold f_Mo_leave
  rw [Mo_own, Mo_isClient (C := nC s) (by rw [h0]; exact hs.2.1.1.1) (by omega), Option.bind_some, tst_y (inI_nI hc (by omega)), show (1 : Int32) = nI 1 from rfl, Mo_of (by omega), Option.bind_some, h0, e17, hp, if_pos rfl]
end MO16
