/-! ===== the methods: wishAt, toldOn, box, would ===== -/
section ME5
variable {H : hp_H} {c r : Nat} {R : oR} {x y z w : Int32}
theorem M_wishAt (h : INV H c r R) : GOOD H c r (fun σ => (f_NB_wishAt c x y σ).bind fun u => some (u, σ)) (f_Mo_wishAt r x y) := by
  obtain ⟨hr, hm, hL, hT, k, n, v, hC, r3, r8, r1⟩ := id h
  obtain ⟨wf, hN, hS, ⟨J, hJ⟩, hP, hB, hD, hI⟩ := id hC
  have hW := wf.2.2.1.1.2
  by_cases hx : inI x (nW (R.2 0))
  · by_cases hy : 0 ≤ y.toInt ∧ y.toInt ≤ 8
    · obtain ⟨i, hi, rfl⟩ := inI_of hx (by omega)
      obtain ⟨q, hq, rfl⟩ : ∃ q, q < 9 ∧ y = nI q := inI_of ⟨hy.1, by omega⟩ (by decide)
      obtain ⟨R', m1, m2⟩ := Mo_wat (σ := H) (r := r) (R := R) wf rfl hi hq
      obtain ⟨-, vbx, dig⟩ := wf.2.2.1.2 i hi
      have e8 : f_NB_wishAt c (nI i) (nI q) H = some (if 7 ≤ q then (if q = 7 then nI (siz (wbx (R.2 0) i)) else mkI (cvP (R.2 0) i) (nW (R.2 0)) 0 0) else R.2 0 (170 + 7 * i + q)) := by
        unfold f_NB_wishAt
        rw [N_own hN, N_0 hN, Option.bind_some, S_hw hS wf, Option.bind_some, tst_y hx, wi_lit, Option.bind_some, tsw_y (a := 0) (b := 8) hy]
        simp only [Option.bind_some]
        by_cases h0 : q = 0
        · subst h0
          rw [if_pos (show nI 0 = 0 from rfl), S_r9 hS, Option.bind_some, S_ow hS wf hi, Option.bind_some, if_neg (by decide)]
          rfl
        · rw [if_neg (show ¬ nI q = 0 from fun e => h0 ((nI_eq (b := 0) (by omega) (by decide)).mp e)), S_r10 hS, Option.bind_some, S_bx hS wf hi, Option.bind_some, bx_size vbx, Option.bind_some, S_wcb hS wf hi, Option.bind_some]
          simp only [Option.bind_some]
          by_cases h7 : 7 ≤ q
          · rw [if_pos (show (6 : Int32) < nI q from (nI_ltI (a := 6) (by decide) (by omega)).mpr (by omega)), if_pos h7]
            by_cases h8 : q = 7
            · rw [if_pos (show nI q = 7 by rw [h8]; rfl), if_pos h8]
            · rw [if_neg (show ¬ nI q = 7 from fun e => h8 ((nI_eq (b := 7) (by omega) (by decide)).mp e)), if_neg h8]
          · have ep : nI q - 1 = nI (q - 1) := by
              have := nI_pred (q - 1)
              rw [show q - 1 + 1 = q by omega] at this
              exact this
            rw [if_neg (show ¬ (6 : Int32) < nI q from fun e => by have := (nI_ltI (a := 6) (by decide) (by omega)).mp e; omega), if_neg h7, S_bx hS wf hi, Option.bind_some, ep, bx_bound vbx.1 (by omega), Option.bind_some, ← dig (q - 1) (by omega), show 171 + 7 * i + (q - 1) = 170 + 7 * i + q by omega]
      refine fin_q (R' := R') h (e1 := ?_) same_rf m1 (kps_mono m2 (fun j h => by cases h) (fun j h => by simp only [List.mem_cons, List.not_mem_nil, or_false] at h; rw [h]; decide)) (laid_kp hL m2 (by decide) (by decide) (by decide)) hC hT r3 r8 r1
      show (f_NB_wishAt c (nI i) (nI q) H).bind (fun u => some (u, H)) = _
      rw [e8, Option.bind_some]
    · refine noop (x := -1000000002) h ?_ (Mo_wat_bad wf rfl hx hy)
      show (f_NB_wishAt c x y H).bind (fun u => some (u, H)) = _
      unfold f_NB_wishAt
      rw [N_own hN, N_0 hN, Option.bind_some, S_hw hS wf, Option.bind_some, tst_y hx, wi_lit, Option.bind_some, tsw_n (a := 0) (b := 8) hy, Option.bind_some]
  · refine noop (x := -1000000001) h ?_ (Mo_wat_no wf rfl hx)
    show (f_NB_wishAt c x y H).bind (fun u => some (u, H)) = _
    unfold f_NB_wishAt
    rw [N_own hN, N_0 hN, Option.bind_some, S_hw hS wf, Option.bind_some, tst_n hx, Option.bind_some]
theorem kps_big {A B : oR} (q : kps A B [11, 13] [9, 10, 12, 14]) : kps A B [11, 13, 15, 16, 17, 18] [9, 10, 12, 14] := kps_mono q (fun j h => by simp only [List.mem_cons, List.not_mem_nil, or_false] at h; rcases h with rfl | rfl <;> decide) (fun _ h => h)
theorem M_toldOn (h : INV H c r R) : GOOD H c r (f_NB_toldOn c x y) (f_Mo_toldOn r x y) := by
  obtain ⟨hr, hm, hL, hT, k, n, v, hC, r3, r8, r1⟩ := id h
  obtain ⟨wf, hN, hS, ⟨J, hJ⟩, hP, hB, hD, hI⟩ := id hC
  have hB7 := wf.1.1.2.2
  by_cases hx : nbx (R.2 0) x y
  · obtain ⟨u, w, hu, hw, rfl, rfl, hn⟩ := nbx_of wf hx
    obtain ⟨H1, tab, a1, a2, a3, a4, a5, a6⟩ := C_ref hC hT
    obtain ⟨R', m1, m2, m3⟩ := Mo_ton (σ := H1) (r := r) wf rfl hL hu hw hn
    refine fin_q (R' := R') h (e1 := ?_) a6 m1 (kps_big m2) m3 a4 a5 r3 r8 r1
    have hk : lnk (abS (R.2 0)) u w < 14 := lnk_lt (by omega) (by omega)
    have et := agr_lnk a3 hw hu (by rw [nbrb_sy]; exact hn)
    unfold f_NB_toldOn
    rw [N_own hN, N_0 hN, Option.bind_some, S_nb hS wf hu hw, Option.bind_some, if_pos hn, if_neg (by decide), N_1 hN, Option.bind_some, Option.bind_some, a1, Option.bind_some, N_1 a4.2.1, Option.bind_some, N_0 a4.2.1, Option.bind_some, T_btw a2 a4.2.2.1 wf hu hw, Option.bind_some, (T_cnt a2 hk).1, Option.bind_some, et]
  · refine noop (x := -1000000001) h ?_ (Mo_ton_no wf rfl hx)
    unfold f_NB_toldOn
    rw [N_own hN, N_0 hN, Option.bind_some, S_nbn hS wf hx, Option.bind_some, if_pos rfl]
theorem M_box (h : INV H c r R) : GOOD H c r (f_NB_box c x y z w) (f_Mo_box r x y z w) := by
  obtain ⟨hr, hm, hL, hT, k, n, v, hC, r3, r8, r1⟩ := id h
  obtain ⟨wf, hN, hS, ⟨J, hJ⟩, hP, hB, hD, hI⟩ := id hC
  have hB7 := wf.1.1.2.2
  by_cases hx : nbx (R.2 0) x y
  · obtain ⟨u, t, hu, ht, rfl, rfl, hn⟩ := nbx_of wf hx
    obtain ⟨H1, tab, a1, a2, a3, a4, a5, a6⟩ := C_ref hC hT
    obtain ⟨R', m1, m2, m3⟩ := Mo_box (σ := H1) (r := r) wf rfl hL hu ht hn (i := z) (q := w)
    refine fin_q (R' := R') h (e1 := ?_) a6 m1 (kps_big m2) m3 a4 a5 r3 r8 r1
    have hk : lnk (abS (R.2 0)) u t < 14 := lnk_lt (by omega) (by omega)
    have et := agr_lnk a3 ht hu (by rw [nbrb_sy]; exact hn)
    obtain ⟨c1, c2, c3, c4, c5⟩ := T_cnt a2 hk
    rw [et] at c1 c3 c4 c5
    unfold f_NB_box
    rw [N_own hN, N_0 hN, Option.bind_some, S_nb hS wf hu ht, Option.bind_some, if_pos hn, if_neg (by decide), N_1 hN, Option.bind_some, Option.bind_some, a1, Option.bind_some, N_1 a4.2.1, Option.bind_some, N_0 a4.2.1, Option.bind_some, T_btw a2 a4.2.2.1 wf hu ht, Option.bind_some, c1, Option.bind_some, wi_val (by omega), Option.bind_some]
    generalize TL (R.2 0) (lnk (abS (R.2 0)) u t) = l at *
    unfold boS
    by_cases hi : inI z l.length
    · rw [tst_y hi, if_pos (show 0 ≤ z.toInt ∧ z.toInt < (l.length : Int) from hi), wi_lit, Option.bind_some]
      by_cases hq : 0 ≤ w.toInt ∧ w.toInt ≤ 7
      · rw [tsw_y (a := 0) (b := 7) hq, if_pos hq]
        obtain ⟨j, hj, rfl⟩ := inI_of hi (by omega)
        obtain ⟨q, hq8, rfl⟩ : ∃ q, q < 8 ∧ w = nI q := inI_of ⟨hq.1, by omega⟩ (by decide)
        have hv := c5 _ (getD_mem hj)
        rw [nI_cl (by omega), nI_cl (by omega), c2, Option.bind_some, c3 j hj, Option.bind_some, bx_size hv, Option.bind_some, Option.bind_some, S_isw a4.2.2.1 wf hv, Option.bind_some]
        by_cases h6 : (6 : Int32) ≤ nI q
        · rw [if_pos h6, if_pos h6]
          by_cases h66 : nI q = 6
          · rw [if_pos h66, if_pos h66]
          · rw [if_neg h66, if_neg h66]
            cases anyF (wbP (R.2 0) (l.getD j 0)) (nW (R.2 0)) 0 with
            | true => rw [if_neg (show ¬ b01 true = 0 by decide)]; rfl
            | false => rw [if_pos (show b01 false = 0 from rfl)]; rfl
        · have q6 : q < 6 := Nat.lt_of_not_le (fun e => h6 ((nI_leI (a := 6) (by decide) (by omega)).mpr e))
          rw [if_neg h6, if_neg h6, bx_bound hv.1 q6, Option.bind_some]
      · rw [tsw_n (a := 0) (b := 7) hq, if_neg hq]
    · rw [tst_n hi, if_neg (show ¬ (0 ≤ z.toInt ∧ z.toInt < (l.length : Int)) from hi)]
  · refine noop (x := -1000000001) h ?_ (Mo_box_no wf rfl hx)
    unfold f_NB_box
    rw [N_own hN, N_0 hN, Option.bind_some, S_nbn hS wf hx, Option.bind_some, if_pos rfl]
theorem C_trv {s A I Fl B1 B2 : Nat → Int32} {k n v : Nat} {tab : Nat → List Nat} (hC : CB H c s A k I Fl n B1 B2 v) (hT : TeI H (c + 24) 1 tab) (hag : agr s tab) {b N : Nat} (hb : b < nB s) (hn : N < 16777216) : ∃ H' J P e G V, f_Journey_travel (c + 55) (c + 1) (c + 24) (nI b) (nI N) H = some H' ∧ CB H' c s A k I Fl n B1 B2 v ∧ TeI H' (c + 24) 1 tab ∧ same H H' c 480 ∧ hs H' (c + 55) 2 (ce_Journey (c + 55) J) ∧ JR s N b P e G V ∧ J.1 1 = nI P ∧ J.1 2 = nI G ∧ J.1 3 = nI V ∧ J.1 4 = nI e := by
  obtain ⟨wf, hN, hS, ⟨J, hJ⟩, -⟩ := id hC
  obtain ⟨H', J', P, e, G, V, z1, z2, z3, z4, z5, z6, z7, z8⟩ := J_trv (st := c + 1) (te := c + 24) wf hag (by omega) (by omega) hb hn hJ hS hT
  exact ⟨H', J', P, e, G, V, z1, CB_J hC z3 z2, TeI_same hT z3 (by omega), same_mono z3 (by omega) (by omega), z2, z4, z5, z6, z7, z8⟩
theorem M_would {a1 a2 a3 : Int32} (h : INV H c r R) : GOOD H c r (f_NB_would c x a1 a2 a3 y) (f_Mo_would r x a1 a2 a3 y) := by
  obtain ⟨hr, hm, hL, hT, k, n, v, hC, r3, r8, r1⟩ := id h
  obtain ⟨wf, hN, hS, ⟨J, hJ⟩, hP, hB, hD, hI⟩ := id hC
  have hB7 := wf.1.1.2.2
  by_cases hx : inI x (nB (R.2 0))
  · by_cases hg : (inI a1 10 ∧ inI a2 10 ∧ inI a3 10) ∧ 0 ≤ y.toInt ∧ y.toInt ≤ 3
    · obtain ⟨⟨g1, g2, g3⟩, hy⟩ := hg
      obtain ⟨b, hb, rfl⟩ := inI_of hx (by omega)
      obtain ⟨x1, hx1, rfl⟩ := inI_of g1 (by decide)
      obtain ⟨x2, hx2, rfl⟩ := inI_of g2 (by decide)
      obtain ⟨x3, hx3, rfl⟩ := inI_of g3 (by decide)
      obtain ⟨q, hq, rfl⟩ : ∃ q, q < 4 ∧ y = nI q := inI_of ⟨hy.1, by omega⟩ (by decide)
      obtain ⟨H1, tab, c1, c2, c3, c4, c5, c6⟩ := C_ref hC hT
      obtain ⟨H2, J2, P, e, G, V, z1, z2, z3, z4, z5, z6, z7, z8, z9, z10⟩ := C_trv c4 c2 c3 hb (nt_d hx1 hx2 hx3).2.2.2.2.2.2
      obtain ⟨R', P', e', G', V', m1, m2, m3, m4⟩ := Mo_wld (σ := H2) (r := r) wf rfl hL hb hx1 hx2 hx3 hq
      obtain ⟨u1, u2, u3, u4⟩ := JR_uni m4 z6
      subst u1 u2 u3 u4
      refine fin_q (R' := R') h (e1 := ?_) (same_tr c6 z4) m1 m2 m3 z2 ⟨1, tab, z3, Or.inr rfl, fun _ => c3⟩ r3 r8 r1
      unfold f_NB_would
      rw [N_own hN, N_0 hN, Option.bind_some, S_hb hS wf, Option.bind_some, tst_y hx, is_not g1 g2 g3, Option.bind_some, if_neg (by decide), wi_lit, Option.bind_some, tsw_y (a := 0) (b := 3) hy, N_1 hN, Option.bind_some, Option.bind_some, c1, Option.bind_some, N_2 c4.2.1, Option.bind_some, N_0 c4.2.1, Option.bind_some, N_1 c4.2.1, Option.bind_some, bx_not hx1 hx2 hx3, Option.bind_some, z1, Option.bind_some, N_2 z2.2.1, Option.bind_some]
      simp only [Option.bind_some]
      rw [J_f z5 (by decide) (by decide), Option.bind_some, z7, J_f z5 (by decide) (by decide), Option.bind_some, z8, J_f z5 (by decide) (by decide), Option.bind_some, z9, J_f z5 (by decide) (by decide), Option.bind_some, z10]
      match q, hq with
      | 0, _ => rfl
      | 1, _ => rfl
      | 2, _ => rfl
      | 3, _ => rfl
    · refine noop (x := -1000000002) h ?_ (Mo_wld_bad wf rfl hx hg)
      unfold f_NB_would
      rw [N_own hN, N_0 hN, Option.bind_some, S_hb hS wf, Option.bind_some, tst_y hx]
      by_cases hg1 : inI a1 10 ∧ inI a2 10 ∧ inI a3 10
      · rw [is_not hg1.1 hg1.2.1 hg1.2.2, Option.bind_some, if_neg (by decide), wi_lit, Option.bind_some, tsw_n (a := 0) (b := 3) (fun q => hg ⟨hg1, q⟩)]
      · rw [is_notn hg1, Option.bind_some, if_pos rfl]
  · refine noop (x := -1000000001) h ?_ (Mo_wld_no wf rfl hx)
    unfold f_NB_would
    rw [N_own hN, N_0 hN, Option.bind_some, S_hb hS wf, Option.bind_some, tst_n hx]
end ME5
