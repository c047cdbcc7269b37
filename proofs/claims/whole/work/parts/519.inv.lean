/-! ===== class and reference in one heap ===== -/
theorem Mo_eq {H : hp_H} {r : Nat} {R : oR} (h : hs H r 11 (ce_Mo r R)) : bk_Mo H r R = H := hs_eq h
def INV (H : hp_H) (c r : Nat) (R : oR) : Prop := c + 480 ≤ r ∧ hs H r 11 (ce_Mo r R) ∧ laidI R (R.2 0) ∧ TeOK H (c + 24) (R.2 0) ∧ ∃ k n v, CB H c (R.2 0) (R.2 2) k (R.2 4) (R.2 5) n (R.2 6) (R.2 7) v ∧ R.1 3 = nI k ∧ R.1 8 = nI n ∧ R.1 1 = nI v
def GOOD (H : hp_H) (c r : Nat) (fN fM : hp_H → Option (Int32 × hp_H)) : Prop := ∃ v H1 H2 R', fN H = some (v, H1) ∧ fM H1 = some (v, H2) ∧ INV H2 c r R'
section INVS
variable {H H1 : hp_H} {c r : Nat} {R R' : oR} {fN fM : hp_H → Option (Int32 × hp_H)} {x : Int32}
theorem noop (h : INV H c r R) (e1 : fN H = some (x, H)) (e2 : fM (bk_Mo H r R) = some (x, bk_Mo H r R)) : GOOD H c r fN fM := by
  rw [Mo_eq h.2.1] at e2
  exact ⟨x, H, H, R, e1, e2, h⟩
theorem fin {s A I Fl B1 B2 : Nat → Int32} {k n v : Nat} (h : INV H c r R) (e1 : fN H = some (x, H1)) (hw : same H H1 c 480) (e2 : fM (bk_Mo H1 r R) = some (x, bk_Mo H1 r R')) (hC : CB H1 c s A k I Fl n B1 B2 v) (hT : TeOK H1 (c + 24) s) (hL : laidI R' s) (r0 : R'.2 0 = s) (r2 : R'.2 2 = A) (r3 : R'.1 3 = nI k) (r4 : R'.2 4 = I) (r5 : R'.2 5 = Fl) (r8 : R'.1 8 = nI n) (r6 : R'.2 6 = B1) (r7 : R'.2 7 = B2) (r1 : R'.1 1 = nI v) : GOOD H c r fN fM := by
  have hr := h.1
  have hm : hs H1 r 11 (ce_Mo r R) := hs_same h.2.1 hw (by omega)
  rw [Mo_eq hm] at e2
  have sm : same H1 (bk_Mo H1 r R') r 11 := same_bW
  refine ⟨x, H1, bk_Mo H1 r R', R', e1, e2, hr, hs_bW, by rw [r0]; exact hL, by rw [r0]; exact TeOK_same hT sm (by omega), k, n, v, ?_, r3, r8, r1⟩
  rw [r0, r2, r4, r5, r6, r7]
  exact CB_same hC sm (by omega)
/-- a reference call that leaves all but its tables and its own boxes -/
theorem fin_q (h : INV H c r R) (e1 : fN H = some (x, H1)) (hw : same H H1 c 480) (e2 : fM (bk_Mo H1 r R) = some (x, bk_Mo H1 r R')) (hk : kps R R' [11, 13, 15, 16, 17, 18] [9, 10, 12, 14]) (hL : laidI R' (R.2 0)) {k n v : Nat} (hC : CB H1 c (R.2 0) (R.2 2) k (R.2 4) (R.2 5) n (R.2 6) (R.2 7) v) (hT : TeOK H1 (c + 24) (R.2 0)) (r3 : R.1 3 = nI k) (r8 : R.1 8 = nI n) (r1 : R.1 1 = nI v) : GOOD H c r fN fM :=
  fin h e1 hw e2 hC hT hL (hk.2 0 (by decide)) (hk.2 2 (by decide)) ((hk.1 3 (by decide)).trans r3) (hk.2 4 (by decide)) (hk.2 5 (by decide)) ((hk.1 8 (by decide)).trans r8) (hk.2 6 (by decide)) (hk.2 7 (by decide)) ((hk.1 1 (by decide)).trans r1)
theorem ded_f {k : Nat} {s' : Nat → Int32} : (sA (dedX R k) 0 s').2 2 = pstS (R.2 2) k (R.2 0) ∧ (sA (dedX R k) 0 s').1 3 = nI (pstN k) := by
  unfold dedX
  refine ⟨?_, ?_⟩
  · rw [sA_ne (by decide), sF_2, sF_2, sA_at]
  · rw [sA_1, sF_ne (by decide), sF_at]
theorem fin_d {s' : Nat → Int32} {k n v : Nat} (h : INV H c r R) (e1 : fN H = some (x, H1)) (hw : same H H1 c 480) (e2 : fM (bk_Mo H1 r R) = some (x, bk_Mo H1 r (sA (dedX R k) 0 s'))) (hC : CB H1 c s' (pstS (R.2 2) k (R.2 0)) (pstN k) (R.2 4) (R.2 5) n (R.2 6) (R.2 7) v) (hT : TeOK H1 (c + 24) s') (r8 : R.1 8 = nI n) (r1 : R.1 1 = nI v) : GOOD H c r fN fM :=
  fin h e1 hw e2 hC hT (ded_laid h.2.2.1) sA_at ded_f.1 ded_f.2 (ded_kps.2 4 (by decide)) (ded_kps.2 5 (by decide)) ((ded_kps.1 8 (by decide)).trans r8) (ded_kps.2 6 (by decide)) (ded_kps.2 7 (by decide)) ((ded_kps.1 1 (by decide)).trans r1)
end INVS
section CDO
variable {H : hp_H} {c : Nat} {s A : Nat → Int32} {k : Nat} {I Fl : Nat → Int32} {n : Nat} {B1 B2 : Nat → Int32} {v : Nat}
theorem C_rem (h : CB H c s A k I Fl n B1 B2 v) (hT : TeOK H (c + 24) s) : ∃ H1, f_Past_remember (c + 57) (c + 1) H = some H1 ∧ CB H1 c s (pstS A k s) (pstN k) I Fl n B1 B2 v ∧ TeOK H1 (c + 24) s ∧ same H H1 c 480 := by
  obtain ⟨H1, a1, a2, a3⟩ := P_rem (st := c + 1) h.1 (by omega) h.2.2.2.2.1 h.2.2.1
  exact ⟨H1, a1, CB_P h a3 a2, TeOK_same hT a3 (by omega), same_mono a3 (by omega) (by omega)⟩
theorem C_out {s0 s' : Nat → Int32} (h : CB H c s A k I Fl n B1 B2 v) (hT : TeOK H (c + 24) s0) : ∃ H1, f_Tellings_outdate (c + 24) H = some H1 ∧ CB H1 c s A k I Fl n B1 B2 v ∧ TeOK H1 (c + 24) s' ∧ same H H1 c 480 := by
  obtain ⟨H1, a1, a2, a3⟩ := T_out (s' := s') hT
  exact ⟨H1, a1, CB_T h a3, a2, same_mono a3 (by omega) (by omega)⟩
theorem C_ref (h : CB H c s A k I Fl n B1 B2 v) (hT : TeOK H (c + 24) s) : ∃ H1 tab, f_Tellings_refresh (c + 24) (c + 1) H = some H1 ∧ TeI H1 (c + 24) 1 tab ∧ agr s tab ∧ CB H1 c s A k I Fl n B1 B2 v ∧ TeOK H1 (c + 24) s ∧ same H H1 c 480 := by
  obtain ⟨H1, tab, a1, a2, a3, a4⟩ := T_ref (st := c + 1) h.1 (by omega) hT h.2.2.1
  exact ⟨H1, tab, a1, a2, a3, CB_T h a4, ⟨1, tab, a2, Or.inr rfl, fun _ => a3⟩, same_mono a4 (by omega) (by omega)⟩
end CDO
section MET
variable {H : hp_H} {c r : Nat} {R : oR} {x y : Int32}
theorem M_broker (h : INV H c r R) : GOOD H c r (f_NB_broker c x) (f_Mo_broker r x) := by
  obtain ⟨hr, hm, hL, hT, k, n, v, hC, r3, r8, r1⟩ := id h
  obtain ⟨wf, hN, hS, -, hP, -⟩ := id hC
  have hB7 := wf.1.1.2.2
  by_cases hx : inI x (nB (R.2 0))
  · obtain ⟨b, hb, rfl⟩ := inI_of hx (by omega)
    by_cases h7 : nB (R.2 0) = 7
    · refine noop (x := -1000000004) h ?_ (Mo_brk_full wf rfl hb h7)
      unfold f_NB_broker
      rw [N_own hN, N_0 hN, Option.bind_some, S_hb hS wf, Option.bind_some, tst_y hx, Option.bind_some, S_f hS (by decide), Option.bind_some, wf.1.1.1, h7, if_neg (by decide)]
    · obtain ⟨H1, a1, a2, a3, a4⟩ := C_rem hC hT
      obtain ⟨H2, b1, b2, b3, b4⟩ := C_out (s' := brkS (R.2 0) b) a2 a3
      obtain ⟨H3, c1, c2, c3⟩ := S_abr wf b2.2.2.1 hb h7
      refine fin_d (k := k) (n := n) (v := v) h (e1 := ?_) (same_tr a4 (same_tr b4 (same_mono c3 (by omega) (by omega)))) (Mo_brk wf hP.1 rfl r3 hb h7) (CB_S b2 c3 (brkS_wf wf hb h7).1 c2) (TeOK_same b3 c3 (by omega)) r8 r1
      unfold f_NB_broker
      rw [N_own hN, N_0 hN, Option.bind_some, S_hb hS wf, Option.bind_some, tst_y hx, Option.bind_some, S_f hS (by decide), Option.bind_some, wf.1.1.1, if_pos (show nI (nB (R.2 0)) < 7 from (nI_ltI (b := 7) (by omega) (by decide)).mpr (by omega)), N_3 hN, Option.bind_some, Option.bind_some, a1, Option.bind_some, N_1 a2.2.1, Option.bind_some, b1, Option.bind_some, N_0 b2.2.1, Option.bind_some, c1, hp_bs]
  · refine noop (x := -1000000001) h ?_ (Mo_brk_no wf rfl hx)
    unfold f_NB_broker
    rw [N_own hN, N_0 hN, Option.bind_some, S_hb hS wf, Option.bind_some, tst_n hx]
end MET
