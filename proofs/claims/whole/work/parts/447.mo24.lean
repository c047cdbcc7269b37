/-! ===== the reference: log, allTold ===== -/
section MO24
variable {σ : hp_H} {r : Nat} {R : oR} {x y : Int32}
theorem Mo_log_no {s : Nat → Int32} (hs : Wf s) (h0 : R.2 0 = s) (hx : ¬ inI x (nC s)) : f_Mo_log r x y (bk_Mo σ r R) = some (-1000000001) := by
  have hC6 := hs.2.1.1.2
  unfold f_Mo_log
  rw [Mo_own, Mo_isClient (C := nC s) (by rw [h0]; exact hs.2.1.1.1) (by omega), Option.bind_some, tst_n hx]
theorem Mo_log_bad {s : Nat → Int32} (hs : Wf s) (h0 : R.2 0 = s) (hx : inI x (nC s)) (hy : ¬ (0 ≤ y.toInt ∧ y.toInt ≤ 11)) : f_Mo_log r x y (bk_Mo σ r R) = some (-1000000002) := by
  have hC6 := hs.2.1.1.2
  unfold f_Mo_log
  rw [Mo_own, Mo_isClient (C := nC s) (by rw [h0]; exact hs.2.1.1.1) (by omega), Option.bind_some, tst_y hx, in_wi, wi_lit, Option.bind_some, tsw_n (a := 0) (b := 11) hy]
theorem Mo_log_at {s : Nat → Int32} (hs : Wf s) (h0 : R.2 0 = s) {c i : Nat} (hc : c < nC s) (hi : i < 12) : f_Mo_log r (nI c) (nI i) (bk_Mo σ r R) = some (if s (18 + 25 * c) ≤ nI i then -1 else s (21 + 25 * c + i)) := by
  have hC6 := hs.2.1.1.2
  have hw : (0 : Int32).toInt ≤ (nI i).toInt ∧ (nI i).toInt ≤ (11 : Int32).toInt := by
    rw [nI_toInt (by omega)]
    show (0 : Int) ≤ i ∧ (i : Int) ≤ 11
    omega
  have o2 : f_Mo_of r (nI c) 2 (bk_Mo σ r R) = some (s (18 + 25 * c)) := by
    have := Mo_of (σ := σ) (r := r) (R := R) (c := c) (k := 2) (by omega)
    rw [h0, show 16 + 25 * c + 2 = 18 + 25 * c by omega] at this
    exact this
  unfold f_Mo_log
  rw [Mo_own, Mo_isClient (C := nC s) (by rw [h0]; exact hs.2.1.1.1) (by omega), Option.bind_some, tst_y (inI_nI hc (by omega)), in_wi, wi_lit, Option.bind_some, tsw_y hw, o2, Option.bind_some]
  by_cases h : s (18 + 25 * c) ≤ nI i
  · rw [if_pos h, if_pos h]
  · rw [if_neg h, if_neg h, il_5, nI_add, Mo_of (by omega), Option.bind_some, h0, show 16 + 25 * c + (5 + i) = 21 + 25 * c + i by omega]
end MO24
