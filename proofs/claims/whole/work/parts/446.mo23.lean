/-! ===== the reference: refusals of wish, log, clientAt's loop ===== -/
section MO23
variable {σ : hp_H} {r : Nat} {R : oR} {x y a b c d e : Int32}
theorem Mo_wis_no {s : Nat → Int32} (hs : Wf s) (h0 : R.2 0 = s) (hx : ¬ inI x (nC s)) : f_Mo_wish_ r x y a b c d e (bk_Mo σ r R) = some (-1000000001, bk_Mo σ r R) := by
  have hC6 := hs.2.1.1.2
  unfold f_Mo_wish_
  rw [Mo_own, Mo_isClient (C := nC s) (by rw [h0]; exact hs.2.1.1.1) (by omega), Option.bind_some, tst_n hx]
theorem knd_y (h : inI x 4 ∧ inI y 10) : f_Mo_isKind x y = some 1 := by
  obtain ⟨k, h1, h2⟩ := inI_of h.1 (by decide)
  obtain ⟨v, h3, h4⟩ := inI_of h.2 (by decide)
  rw [h2, h4]
  exact Mo_knd h1 h3
theorem Mo_wis_bad {s : Nat → Int32} (hs : Wf s) (h0 : R.2 0 = s) (hx : inI x (nC s)) (h : ¬ ((inI y 4 ∧ inI a 10) ∧ (inI b 4 ∧ inI c 10) ∧ (inI d 4 ∧ inI e 10))) : f_Mo_wish_ r x y a b c d e (bk_Mo σ r R) = some (-1000000002, bk_Mo σ r R) := by
  have hC6 := hs.2.1.1.2
  unfold f_Mo_wish_
  rw [Mo_own, Mo_isClient (C := nC s) (by rw [h0]; exact hs.2.1.1.1) (by omega), Option.bind_some, tst_y hx]
  by_cases c1 : inI y 4 ∧ inI a 10
  · rw [knd_y c1, Option.bind_some, if_neg (by decide)]
    by_cases c2 : inI b 4 ∧ inI c 10
    · rw [knd_y c2, Option.bind_some, if_neg (by decide), Mo_knd_no (fun c3 => h ⟨c1, c2, c3⟩), Option.bind_some, if_pos rfl]
    · rw [Mo_knd_no c2, Option.bind_some, if_pos rfl]
  · rw [Mo_knd_no c1, Option.bind_some, if_pos rfl]
theorem Mo_wis_full {s : Nat → Int32} (hs : Wf s) (h0 : R.2 0 = s) (hx : inI x (nC s)) (h : (inI y 4 ∧ inI a 10) ∧ (inI b 4 ∧ inI c 10) ∧ (inI d 4 ∧ inI e 10)) (h12 : nW s = 12) : f_Mo_wish_ r x y a b c d e (bk_Mo σ r R) = some (-1000000004, bk_Mo σ r R) := by
  have hC6 := hs.2.1.1.2
  have e2 : hp_aI (bk_Mo σ r R) (r + 1) 0 2 = some (nI (nW s)) := by rw [← hs.2.2.1.1.1, ← h0]; exact Mo_a0 (i := 2) (by decide)
  unfold f_Mo_wish_
  rw [Mo_own, Mo_isClient (C := nC s) (by rw [h0]; exact hs.2.1.1.1) (by omega), Option.bind_some, tst_y hx, knd_y h.1, Option.bind_some, if_neg (by decide), knd_y h.2.1, Option.bind_some, if_neg (by decide), knd_y h.2.2, Option.bind_some, if_neg (by decide), Mo_g0, Option.bind_some, e2, Option.bind_some, if_pos (by rw [h12]; rfl)]
end MO23
