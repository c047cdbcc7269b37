/-! ===== the class: travel ===== -/
section TR2
variable {j st te : Nat} {tab : Nat → List Nat} {s : Nat → Int32}
theorem J_trv (wf : Wf s) (hag : agr s tab) (d1 : st + 23 ≤ j ∨ j + 2 ≤ st) (d2 : te + 31 ≤ j ∨ j + 2 ≤ te) {b n : Nat} (hb : b < nB s) (hn : n < 16777216) {H : hp_H} {R : oR} (hj : hs H j 2 (ce_Journey j R)) (hS : StI H st s) (hT : TeI H te 1 tab) : ∃ H' R' P c G V, f_Journey_travel j st te (nI b) (nI n) H = some H' ∧ hs H' j 2 (ce_Journey j R') ∧ same H H' j 2 ∧ JR s n b P c G V ∧ R'.1 1 = nI P ∧ R'.1 2 = nI G ∧ R'.1 3 = nI V ∧ R'.1 4 = nI c := by
  have hB7 := wf.1.1.2.2
  have hC6 := wf.2.1.1.2
  obtain ⟨W, e1, hW⟩ := S_cwi hS wf hn
  have hW7 : W < 2 ^ 6 := tb_lt (fun i hi => by
    have := (hW i).mp hi
    unfold wsh at this
    obtain ⟨w, -, w1, w2⟩ := (anyF_iff _ _).mp this
    rw [Bool.and_eq_true] at w2
    have o2 := (wf.2.2.1.2 w (by omega)).1.2
    have := of_decide_eq_true w2.1
    omega)
  have w := Journey_p1 (σ := H) (a := j) (R := R) (x := nI (2 ^ b))
  rw [Journey_eq hj] at w
  generalize hR0 : sA (sF (sF (sF R 1 (nI (2 ^ b))) 2 0) 4 0) 0 (upd (R.2 0) 0 (nI b)) = R0
  have q1 : R0.1 1 = nI (2 ^ b) := by rw [← hR0]; rfl
  have q2 : R0.1 2 = nI 0 := by rw [← hR0]; rfl
  have q4 : R0.1 4 = nI 0 := by rw [← hR0]; rfl
  have q0 : R0.2 0 0 = nI b := by rw [← hR0, sA_at, upd_at]
  have sm : same H (bk_Journey H j R0) j 2 := same_bW
  have hq : qOK R0 (2 ^ b) 0 := ⟨fun i hi => ⟨b, tb_one.mpr rfl, by rw [show i = 0 by omega]; exact q0⟩, fun x hx => ⟨0, Nat.le_refl _, by rw [tb_one.mp hx]; exact q0⟩⟩
  obtain ⟨f, hf⟩ := hp_fu 8 (by decide)
  have hf' : f + 7 + 1 = hp_F := hf.symm
  obtain ⟨H', R', P', F', c', G', U', y1, y2, y3, y4, y5, y6, y7, y8, y9, y10⟩ := J_t1 wf hag d1 d2 hb hn hW (by omega) (K := fun z16 σ => (hp_gI σ j 5 1).bind fun v18 => (hp_pI σ j 5 3 (v18 &&& (z16 ^^^ (-1)))).bind fun σ => some σ) 7 0 f (bk_Journey H j R0) R0 (2 ^ b) 0 0 0 (2 ^ b) (by decide) (by decide) hs_bW (StI_same hS sm (by omega)) (TeI_same hT sm (by omega)) (JI_0 wf.1.tree hb) q1 q4 hq q2 (fun k => by
      rw [Nat.zero_testBit]
      constructor
      · intro q; cases q
      · rintro ⟨-, -, e, e1, -⟩; omega) (fun x => by
      rw [tb_one, Nat.zero_testBit]
      constructor
      · exact Or.inl
      · rintro (q | q | ⟨k, k1, -⟩)
        · exact q
        · cases q
        · rw [Nat.zero_testBit] at k1; cases k1) (fun e he => by omega)
  rw [hf'] at y1
  have w3 := Journey_p3 (σ := H') (a := j) (R := R') (x := nI (P' &&& (U' ^^^ 4294967295)))
  rw [Journey_eq y2] at w3
  refine ⟨bk_Journey H' j (upd R'.1 3 (nI (P' &&& (U' ^^^ 4294967295))), R'.2), (upd R'.1 3 (nI (P' &&& (U' ^^^ 4294967295))), R'.2), P', c', G', P' &&& (U' ^^^ 4294967295), ?_, hs_bW, same_tr sm (same_tr y3 same_bW), ⟨F', U', y4, y8, y9, y10, rfl⟩, ?_, ?_, ?_, ?_⟩
  · unfold f_Journey_travel
    rw [J_own hj, e1, Option.bind_some, sh_1 (by omega), w, Option.bind_some, Journey_p2, Option.bind_some, Journey_p4, Option.bind_some, Journey_g0, Option.bind_some, show hp_sI (bk_Journey H j (upd (upd (upd R.1 1 (nI (2 ^ b)), R.2).1 2 0, (upd R.1 1 (nI (2 ^ b)), R.2).2).1 4 0, (upd (upd R.1 1 (nI (2 ^ b)), R.2).1 2 0, (upd R.1 1 (nI (2 ^ b)), R.2).2).2)) (j + 1) 0 0 (nI b) = some (bk_Journey H j R0) from (Journey_s0 (i := 0) (by decide)).trans (by rw [← hR0]; rfl), Option.bind_some]
    refine (show _ = _ from y1).trans ?_
    rw [J_f y2 (by decide) (by decide), Option.bind_some, y5, show (-1 : Int32) = nI 4294967295 from rfl, fo_xor, fo_and, w3, Option.bind_some]
  · exact (show upd R'.1 3 (nI (P' &&& (U' ^^^ 4294967295))) 1 = R'.1 1 from upd_ne (by decide)).trans y5
  · exact (show upd R'.1 3 (nI (P' &&& (U' ^^^ 4294967295))) 2 = R'.1 2 from upd_ne (by decide)).trans y7
  · exact (show upd R'.1 3 (nI (P' &&& (U' ^^^ 4294967295))) 3 = nI (P' &&& (U' ^^^ 4294967295)) from upd_at)
  · exact (show upd R'.1 3 (nI (P' &&& (U' ^^^ 4294967295))) 4 = R'.1 4 from upd_ne (by decide)).trans y6
end TR2
