/-! ===== the reference: brokerAt, toldOn ===== -/
section MO30
variable {σ : hp_H} {r : Nat} {R : oR} {x y : Int32}
theorem Mo_bat_no {s : Nat → Int32} (hs : Wf s) (h0 : R.2 0 = s) (hx : ¬ inI x (nB s)) : f_Mo_brokerAt r x y (bk_Mo σ r R) = some (-1000000001) := by
  have hB7 := hs.1.1.2.2
  unfold f_Mo_brokerAt
  rw [Mo_own, Mo_isBroker (B := nB s) (by rw [h0]; exact hs.1.1.1) (by omega), Option.bind_some, tst_n hx]
theorem Mo_bat {s : Nat → Int32} (hs : Wf s) (h0 : R.2 0 = s) {b : Nat} (hb : b < nB s) : f_Mo_brokerAt r (nI b) y (bk_Mo σ r R) = some (if y = 0 then s (8 + b) else if y = 1 then mkI (fun v => nbrb (abS s) b v) (nB s) 0 0 else if y = 2 then mkI (fun v => decide (s (16 + 25 * v) = nI b)) (nC s) 0 0 else if y = 3 then mkI (fun w => decide (s (16 + 25 * ownr s w) = nI b)) (nW s) 0 0 else -1000000002) := by
  have hB7 := hs.1.1.2.2
  have hC6 := hs.2.1.1.2
  have hW := hs.2.2.1.1.2
  obtain ⟨f1, hf1⟩ := hp_fu (nB s + 1) (by omega)
  have hf1' : f1 + nB s + 1 = hp_F := hf1.symm
  obtain ⟨f2, hf2⟩ := hp_fu (nC s + 1) (by omega)
  have hf2' : f2 + nC s + 1 = hp_F := hf2.symm
  obtain ⟨f3, hf3⟩ := hp_fu (nW s + 1) (by omega)
  have hf3' : f3 + nW s + 1 = hp_F := hf3.symm
  have q1 := Mo_ba1 (σ := σ) (r := r) hs h0 hb (K := fun z14 z15 => some z14) (nB s) 0 f1 0 (by omega)
  have q2 := Mo_ba2 (σ := σ) (r := r) hs h0 (b := b) (K := fun z14 z15 => some z14) (nC s) 0 f2 0 (by omega)
  have q3 := Mo_ba3 (σ := σ) (r := r) hs h0 (b := b) (K := fun z14 z15 => some z14) (nW s) 0 f3 0 (by omega)
  rw [hf1'] at q1
  rw [hf2'] at q2
  rw [hf3'] at q3
  have e8 : hp_aI (bk_Mo σ r R) (r + 1) 0 ((8 : Int32) + nI b) = some (s (8 + b)) := by
    rw [show (8 : Int32) = nI 8 from rfl, nI_add, Mo_a0 (by omega), h0]
  unfold f_Mo_brokerAt
  rw [Mo_own, Mo_isBroker (B := nB s) (by rw [h0]; exact hs.1.1.1) (by omega), Option.bind_some, tst_y (inI_nI hb (by omega)), Mo_g0, Option.bind_some, e8, Option.bind_some]
  split
  · rfl
  · split
    · exact q1
    · split
      · exact q2
      · split
        · exact q3
        · rfl
end MO30
