/-! ===== the law: its loop ===== -/
theorem xs_at {xs : Nat → Int32} {L p j : Nat} (hL : L ≤ 4096) (h : p + j < L) : hp_xs xs L (nI p + nI j) = some (xs (p + j)) := by
  unfold hp_xs
  rw [nI_add, nI_toInt (by omega), nI_cl (by omega), if_pos (by constructor <;> omega)]
theorem law_end {L p : Nat} (hL : L ≤ 4096) (hp : p ≤ 8192) : (Int32.ofNat L - 8 < nI p) ↔ L < p + 8 := by
  rw [fo_lt, nI_toInt (by omega)]
  have e : (Int32.ofNat L - 8).toInt = (L : Int) - 8 := pk_sub_toInt (a := L) (b := 8) (by omega) (by decide)
  rw [e]
  omega
set_option maxHeartbeats 4000000 in
theorem law_l1 {xs : Nat → Int32} {L c r : Nat} (hL : L ≤ 4096) : ∀ (m p f : Nat) (H : hp_H) (R : oR), INV H c r R → p ≤ 4104 → L ≤ p + 8 * m + 7 → f_Law_l1 xs L c r (f + m + 1) (nI p) H = some ()
  | 0, p, f, H, R, h, hp, hm => by
    rw [f_Law_l1, if_pos ((law_end hL (by omega)).mpr (by omega))]
  | m + 1, p, f, H, R, h, hp, hm => by
    rw [f_Law_l1]
    by_cases he : L < p + 8
    · rw [if_pos ((law_end hL (by omega)).mpr he)]
    rw [if_neg (fun q => he ((law_end hL (by omega)).mp q))]
    have h0 : hp_xs xs L (nI p) = some (xs p) := by
      have := xs_at (xs := xs) (p := p) (j := 0) hL (by omega)
      rw [nI_add] at this
      exact this
    have h1 : hp_xs xs L (nI p + 1) = some (xs (p + 1)) := xs_at (j := 1) hL (by omega)
    have h2 : hp_xs xs L (nI p + 2) = some (xs (p + 2)) := xs_at (j := 2) hL (by omega)
    have h3 : hp_xs xs L (nI p + 3) = some (xs (p + 3)) := xs_at (j := 3) hL (by omega)
    have h4 : hp_xs xs L (nI p + 4) = some (xs (p + 4)) := xs_at (j := 4) hL (by omega)
    have h5 : hp_xs xs L (nI p + 5) = some (xs (p + 5)) := xs_at (j := 5) hL (by omega)
    have h6 : hp_xs xs L (nI p + 6) = some (xs (p + 6)) := xs_at (j := 6) hL (by omega)
    have h7 : hp_xs xs L (nI p + 7) = some (xs (p + 7)) := xs_at (j := 7) hL (by omega)
    have e8 : nI p + 8 = nI (p + 8) := nI_add p 8
    have ih := fun (H2 : hp_H) (R2 : oR) (h2 : INV H2 c r R2) => law_l1 (xs := xs) hL m (p + 8) f H2 R2 h2 (by omega) (by omega)
    rw [h0, Option.bind_some, e8]
    generalize xs p &&& 31 = q
    by_cases q0 : q = 0
    · rw [if_pos q0]
      simp only [h1, Option.bind_some]
      obtain ⟨u, H1, H2, R2, g1, g2, g3⟩ := M_told (x := xs (p + 1)) h
      rw [g1, hp_bs, g2, hp_bs, if_pos rfl]
      exact ih H2 R2 g3
    rw [if_neg q0]
    by_cases q1 : q = 1
    · rw [if_pos q1]
      simp only [h1, h2, Option.bind_some]
      obtain ⟨u, g1, g2⟩ := M_brokerAt (x := xs (p + 1)) (y := xs (p + 2)) h
      rw [g1, Option.bind_some, g2, Option.bind_some, if_pos rfl]
      exact ih H R h
    rw [if_neg q1]
    by_cases q2 : q = 2
    · rw [if_pos q2]
      simp only [h1, h2, Option.bind_some]
      obtain ⟨u, g1, g2⟩ := M_clientAt (x := xs (p + 1)) (y := xs (p + 2)) h
      rw [g1, Option.bind_some, g2, Option.bind_some, if_pos rfl]
      exact ih H R h
    rw [if_neg q2]
    by_cases q3 : q = 3
    · rw [if_pos q3]
      simp only [h1, h2, Option.bind_some]
      obtain ⟨u, g1, g2⟩ := M_log (x := xs (p + 1)) (y := xs (p + 2)) h
      rw [g1, Option.bind_some, g2, Option.bind_some, if_pos rfl]
      exact ih H R h
    rw [if_neg q3]
    by_cases q4 : q = 4
    · rw [if_pos q4]
      simp only [h1, h2, Option.bind_some]
      obtain ⟨u, H1, H2, R2, g1, g2, g3⟩ := M_wishAt (x := xs (p + 1)) (y := xs (p + 2)) h
      obtain ⟨u', w1, w2⟩ := Option.bind_eq_some_iff.mp g1
      cases w2
      rw [w1, Option.bind_some, g2, hp_bs, if_pos rfl]
      exact ih H2 R2 g3
    rw [if_neg q4]
    by_cases q5 : q = 5
    · rw [if_pos q5]
      simp only [h1, h2, Option.bind_some]
      obtain ⟨u, H1, H2, R2, g1, g2, g3⟩ := M_toldOn (x := xs (p + 1)) (y := xs (p + 2)) h
      rw [g1, hp_bs, g2, hp_bs, if_pos rfl]
      exact ih H2 R2 g3
    rw [if_neg q5]
    by_cases q6 : q = 6
    · rw [if_pos q6]
      simp only [h1, h2, h3, h4, Option.bind_some]
      obtain ⟨u, H1, H2, R2, g1, g2, g3⟩ := M_box (x := xs (p + 1)) (y := xs (p + 2)) (z := xs (p + 3)) (w := xs (p + 4)) h
      rw [g1, hp_bs, g2, hp_bs, if_pos rfl]
      exact ih H2 R2 g3
    rw [if_neg q6]
    by_cases q7 : q = 7
    · rw [if_pos q7]
      simp only [h1, h2, h3, h4, h5, Option.bind_some]
      obtain ⟨u, H1, H2, R2, g1, g2, g3⟩ := M_would (x := xs (p + 1)) (a1 := xs (p + 2)) (a2 := xs (p + 3)) (a3 := xs (p + 4)) (y := xs (p + 5)) h
      rw [g1, hp_bs, g2, hp_bs, if_pos rfl]
      exact ih H2 R2 g3
    rw [if_neg q7]
    by_cases q8 : q = 8
    · rw [if_pos q8]
      simp only [h1, Option.bind_some]
      obtain ⟨u, H1, H2, R2, g1, g2, g3⟩ := M_broker (x := xs (p + 1)) h
      rw [g1, hp_bs, g2, hp_bs, if_pos rfl]
      exact ih H2 R2 g3
    rw [if_neg q8]
    by_cases q9 : q = 9
    · rw [if_pos q9]
      simp only [h1, Option.bind_some]
      obtain ⟨u, H1, H2, R2, g1, g2, g3⟩ := M_client (x := xs (p + 1)) h
      rw [g1, hp_bs, g2, hp_bs, if_pos rfl]
      exact ih H2 R2 g3
    rw [if_neg q9]
    by_cases q10 : q = 10
    · rw [if_pos q10]
      simp only [h1, h2, h3, h4, h5, h6, h7, Option.bind_some]
      obtain ⟨u, H1, H2, R2, g1, g2, g3⟩ := M_wish (x := xs (p + 1)) (y := xs (p + 2)) (a := xs (p + 3)) (b := xs (p + 4)) (d := xs (p + 5)) (e := xs (p + 6)) (g := xs (p + 7)) h
      rw [g1, hp_bs, g2, hp_bs, if_pos rfl]
      exact ih H2 R2 g3
    rw [if_neg q10]
    by_cases q11 : q = 11
    · rw [if_pos q11]
      simp only [h1, Option.bind_some]
      obtain ⟨u, H1, H2, R2, g1, g2, g3⟩ := M_drop (x := xs (p + 1)) h
      rw [g1, hp_bs, g2, hp_bs, if_pos rfl]
      exact ih H2 R2 g3
    rw [if_neg q11]
    by_cases q12 : q = 12
    · rw [if_pos q12]
      simp only [h1, Option.bind_some]
      obtain ⟨u, H1, H2, R2, g1, g2, g3⟩ := M_most (x := xs (p + 1)) h
      rw [g1, hp_bs, g2, hp_bs, if_pos rfl]
      exact ih H2 R2 g3
    rw [if_neg q12]
    by_cases q13 : q = 13
    · rw [if_pos q13]
      simp only [h1, h2, h3, h4, Option.bind_some]
      obtain ⟨u, H1, H2, R2, g1, g2, g3⟩ := M_put (x := xs (p + 1)) (a1 := xs (p + 2)) (a2 := xs (p + 3)) (a3 := xs (p + 4)) h
      rw [g1, hp_bs, g2, hp_bs, if_pos rfl]
      exact ih H2 R2 g3
    rw [if_neg q13]
    by_cases q14 : q = 14
    · rw [if_pos q14]
      simp only [h1, Option.bind_some]
      obtain ⟨u, H1, H2, R2, g1, g2, g3⟩ := M_leave (x := xs (p + 1)) h
      rw [g1, hp_bs, g2, hp_bs, if_pos rfl]
      exact ih H2 R2 g3
    rw [if_neg q14]
    by_cases q15 : q = 15
    · rw [if_pos q15]
      simp only [h1, h2, Option.bind_some]
      obtain ⟨u, H1, H2, R2, g1, g2, g3⟩ := M_come (x := xs (p + 1)) (y := xs (p + 2)) h
      rw [g1, hp_bs, g2, hp_bs, if_pos rfl]
      exact ih H2 R2 g3
    rw [if_neg q15]
    by_cases q16 : q = 16
    · rw [if_pos q16]
      obtain ⟨u, H1, H2, R2, g1, g2, g3⟩ := M_part  h
      rw [g1, hp_bs, g2, hp_bs, if_pos rfl]
      exact ih H2 R2 g3
    rw [if_neg q16]
    by_cases q17 : q = 17
    · rw [if_pos q17]
      simp only [h1, Option.bind_some]
      obtain ⟨u, H1, H2, R2, g1, g2, g3⟩ := M_drift (x := xs (p + 1)) h
      rw [g1, hp_bs, g2, hp_bs, if_pos rfl]
      exact ih H2 R2 g3
    rw [if_neg q17]
    by_cases q18 : q = 18
    · rw [if_pos q18]
      simp only [h1, Option.bind_some]
      obtain ⟨u, H1, H2, R2, g1, g2, g3⟩ := M_undo (x := xs (p + 1)) h
      rw [g1, hp_bs, g2, hp_bs, if_pos rfl]
      exact ih H2 R2 g3
    rw [if_neg q18]
    by_cases q19 : q = 19
    · rw [if_pos q19]
      simp only [h1, h2, Option.bind_some]
      obtain ⟨u, H1, H2, R2, g1, g2, g3⟩ := M_write (x := xs (p + 1)) (y := xs (p + 2)) h
      rw [g1, hp_bs, g2, hp_bs, if_pos rfl]
      exact ih H2 R2 g3
    rw [if_neg q19]
    by_cases q20 : q = 20
    · rw [if_pos q20]
      obtain ⟨u, H1, H2, R2, g1, g2, g3⟩ := M_tear  h
      rw [g1, hp_bs, g2, hp_bs, if_pos rfl]
      exact ih H2 R2 g3
    rw [if_neg q20]
    by_cases q21 : q = 21
    · rw [if_pos q21]
      simp only [h1, Option.bind_some]
      obtain ⟨u, H1, H2, R2, g1, g2, g3⟩ := M_seed (x := xs (p + 1)) h
      rw [g1, hp_bs, g2, hp_bs, if_pos rfl]
      exact ih H2 R2 g3
    rw [if_neg q21]
    by_cases q22 : q = 22
    · rw [if_pos q22]
      simp only [h1, Option.bind_some]
      obtain ⟨u, H1, H2, R2, g1, g2, g3⟩ := M_keep (x := xs (p + 1)) h
      rw [g1, hp_bs, g2, hp_bs, if_pos rfl]
      exact ih H2 R2 g3
    rw [if_neg q22]
    by_cases q23 : q = 23
    · rw [if_pos q23]
      simp only [h1, Option.bind_some]
      obtain ⟨u, H1, H2, R2, g1, g2, g3⟩ := M_goBack (x := xs (p + 1)) h
      rw [g1, hp_bs, g2, hp_bs, if_pos rfl]
      exact ih H2 R2 g3
    rw [if_neg q23]
    exact ih H R h
