/-! ===== the methods: most, client, drop, part, leave, come ===== -/
theorem wl_cli {s s' : Nat → Int32} (wf : Wf s) (e1 : ∀ j, j < 16 → j ≠ 1 → s' j = s j) (e2 : ∀ c, c < nC s → s' (16 + 25 * c) = s (16 + 25 * c)) (e3 : ∀ j, 170 ≤ j → s' j = s j) {b : Nat} : ∀ (m w : Nat), w + m ≤ nW s → wlF s' b m w = wlF s b m w
  | 0, _, _ => rfl
  | m + 1, w, h => by
    have hW := wf.2.2.1.1.2
    have hC6 := wf.2.1.1.2
    have o2 := (wf.2.2.1.2 w (by omega)).1.2
    have eo : ownr s' w = ownr s w := by
      unfold ownr
      rw [e3 _ (by omega)]
    have eh : home s' (ownr s w) = home s (ownr s w) := by
      unfold home
      rw [if_pos (by omega), if_pos (by omega), e2 _ o2]
    rw [wlF, wlF, eo, eh, wbx_eq (s := s) (s' := s') (fun t ht => e3 _ (by omega)), wl_cli wf e1 e2 e3 m (w + 1) (by omega)]
theorem agr_cli {s s' : Nat → Int32} (wf : Wf s) (e1 : ∀ j, j < 16 → j ≠ 1 → s' j = s j) (e2 : ∀ c, c < nC s → s' (16 + 25 * c) = s (16 + 25 * c)) (e3 : ∀ j, 170 ≤ j → s' j = s j) {tab : Nat → List Nat} (h : agr s tab) : agr s' tab := by
  have eB : nB s' = nB s := by unfold nB; rw [e1 0 (by decide) (by decide)]
  have eM : nM s' = nM s := by unfold nM; rw [e1 3 (by decide) (by decide)]
  have eW : nW s' = nW s := by unfold nW; rw [e1 2 (by decide) (by decide)]
  have eA : abS s' = abS s := by
    funext b
    unfold abS
    split
    · rw [e1 _ (by omega) (by omega)]
    · rfl
  have eL : wlS s' = wlS s := by
    funext b
    unfold wlS
    rw [eW]
    exact wl_cli wf e1 e2 e3 (nW s) 0 (by omega)
  have eT : TL s' = TL s := by
    unfold TL
    rw [eB, eM, eA, eL]
  unfold agr
  rw [eB, eT]
  exact h
theorem TeOK_to {H : hp_H} {t : Nat} {s s' : Nat → Int32} (h : TeOK H t s) (e : ∀ tab, agr s tab → agr s' tab) : TeOK H t s' := by
  obtain ⟨fr, tab, h1, h2, h3⟩ := h
  exact ⟨fr, tab, h1, h2, fun q => e tab (h3 q)⟩
section ME1
variable {H : hp_H} {c r : Nat} {R : oR} {x y : Int32}
theorem M_most (h : INV H c r R) : GOOD H c r (f_NB_most c x) (f_Mo_most r x) := by
  obtain ⟨hr, hm, hL, hT, k, n, v, hC, r3, r8, r1⟩ := id h
  obtain ⟨wf, hN, hS, -, hP, -⟩ := id hC
  by_cases hx : 1 ≤ x.toInt ∧ x.toInt ≤ 9
  · obtain ⟨m, hm10, rfl⟩ : ∃ m, m < 10 ∧ x = nI m := inI_of ⟨by omega, by omega⟩ (by decide)
    have hx' := hx
    rw [nI_toInt (by omega)] at hx'
    obtain ⟨H1, a1, a2, a3, a4⟩ := C_rem hC hT
    obtain ⟨H2, b1, b2, b3, b4⟩ := C_out (s' := upd (R.2 0) 3 (nI m)) a2 a3
    obtain ⟨H3, c1, c2, c3⟩ := S_mst (x := nI m) wf b2.2.2.1
    refine fin_d (k := k) (n := n) (v := v) h (e1 := ?_) (same_tr a4 (same_tr b4 (same_mono c3 (by omega) (by omega)))) (Mo_mst hP.1 rfl r3 hx) (CB_S b2 c3 (mstS_wf wf (by omega) (by omega)) c2) (TeOK_same b3 c3 (by omega)) r8 r1
    unfold f_NB_most
    rw [N_own hN, wi_lit, Option.bind_some, tsw_y (a := 1) (b := 9) hx, N_3 hN, Option.bind_some, N_0 hN, Option.bind_some, a1, Option.bind_some, N_1 a2.2.1, Option.bind_some, b1, Option.bind_some, N_0 b2.2.1, Option.bind_some, S_f b2.2.2.1 (by decide), Option.bind_some, Option.bind_some, c1, Option.bind_some]
  · refine noop (x := -1000000002) h ?_ (Mo_mst_no hx)
    unfold f_NB_most
    rw [N_own hN, wi_lit, Option.bind_some, tsw_n (a := 1) (b := 9) hx]
theorem M_client (h : INV H c r R) : GOOD H c r (f_NB_client c x) (f_Mo_client r x) := by
  obtain ⟨hr, hm, hL, hT, k, n, v, hC, r3, r8, r1⟩ := id h
  obtain ⟨wf, hN, hS, -, hP, -⟩ := id hC
  have hB7 := wf.1.1.2.2
  have hC6 := wf.2.1.1.2
  by_cases hx : inI x (nB (R.2 0))
  · obtain ⟨b, hb, rfl⟩ := inI_of hx (by omega)
    by_cases h6 : nC (R.2 0) = 6
    · refine noop (x := -1000000004) h ?_ (Mo_cli_full wf rfl hb h6)
      unfold f_NB_client
      rw [N_own hN, N_0 hN, Option.bind_some, S_hb hS wf, Option.bind_some, tst_y hx, Option.bind_some, S_f hS (by decide), Option.bind_some, wf.2.1.1.1, h6, if_neg (by decide)]
    · obtain ⟨H1, a1, a2, a3, a4⟩ := C_rem hC hT
      obtain ⟨H3, c1, c2, c3⟩ := S_acl wf a2.2.2.1 hb h6
      have lo : ∀ j, j ≠ 1 → (j < 16 + 25 * nC (R.2 0) ∨ 41 + 25 * nC (R.2 0) ≤ j) → cliS (R.2 0) b j = R.2 0 j := fun j k1 k2 => by
        unfold cliS
        rw [upd_ne k1, upd_ne (by omega), upd_ne (by omega), wr_out (by omega)]
      refine fin_d (k := k) (n := n) (v := v) h (e1 := ?_) (same_tr a4 (same_mono c3 (by omega) (by omega))) (Mo_cli wf hP.1 rfl r3 hb h6) (CB_S a2 c3 (cliS_wf wf hb h6).1 c2) (TeOK_to (TeOK_same a3 c3 (by omega)) (fun tab => agr_cli wf (fun j j1 j2 => lo j j2 (by omega)) (fun e he => lo _ (by omega) (by omega)) (fun j hj => lo j (by omega) (by omega)))) r8 r1
      unfold f_NB_client
      rw [N_own hN, N_0 hN, Option.bind_some, S_hb hS wf, Option.bind_some, tst_y hx, Option.bind_some, S_f hS (by decide), Option.bind_some, wf.2.1.1.1, if_pos (show nI (nC (R.2 0)) < 6 from (nI_ltI (b := 6) (by omega) (by decide)).mpr (by omega)), N_3 hN, Option.bind_some, Option.bind_some, a1, Option.bind_some, N_0 a2.2.1, Option.bind_some, c1, hp_bs]
  · refine noop (x := -1000000001) h ?_ (Mo_cli_no wf rfl hx)
    unfold f_NB_client
    rw [N_own hN, N_0 hN, Option.bind_some, S_hb hS wf, Option.bind_some, tst_n hx]
theorem M_drop (h : INV H c r R) : GOOD H c r (f_NB_drop c x) (f_Mo_drop r x) := by
  obtain ⟨hr, hm, hL, hT, k, n, v, hC, r3, r8, r1⟩ := id h
  obtain ⟨wf, hN, hS, -, hP, -⟩ := id hC
  have hW := wf.2.2.1.1.2
  by_cases hx : inI x (nW (R.2 0))
  · obtain ⟨w, hw, rfl⟩ := inI_of hx (by omega)
    obtain ⟨H1, a1, a2, a3, a4⟩ := C_rem hC hT
    obtain ⟨H2, b1, b2, b3, b4⟩ := C_out (s' := drS (R.2 0) w (nW (R.2 0))) a2 a3
    obtain ⟨H3, c1, c2, c3⟩ := S_drp wf b2.2.2.1 hw
    have hC3 := CB_S b2 c3 (drS_wf wf hw).1 c2
    refine fin_d (k := k) (n := n) (v := v) h (e1 := ?_) (same_tr a4 (same_tr b4 (same_mono c3 (by omega) (by omega)))) (Mo_drop wf hP.1 rfl r3 hw) hC3 (TeOK_same b3 c3 (by omega)) r8 r1
    unfold f_NB_drop
    rw [N_own hN, N_0 hN, Option.bind_some, S_hw hS wf, Option.bind_some, tst_y hx, N_3 hN, Option.bind_some, Option.bind_some, a1, Option.bind_some, N_1 a2.2.1, Option.bind_some, b1, Option.bind_some, N_0 b2.2.1, Option.bind_some, c1, Option.bind_some, N_0 hC3.2.1, Option.bind_some, S_f c2 (by decide), Option.bind_some, drS_2]
  · refine noop (x := -1000000001) h ?_ (Mo_drop_no wf rfl hx)
    unfold f_NB_drop
    rw [N_own hN, N_0 hN, Option.bind_some, S_hw hS wf, Option.bind_some, tst_n hx]
theorem M_part (h : INV H c r R) : GOOD H c r (f_NB_part c) (f_Mo_part r) := by
  obtain ⟨hr, hm, hL, hT, k, n, v, hC, r3, r8, r1⟩ := id h
  obtain ⟨wf, hN, hS, -, hP, -⟩ := id hC
  have hC6 := wf.2.1.1.2
  by_cases hx : nC (R.2 0) = 0
  · refine noop (x := -1000000003) h ?_ (Mo_par_none wf rfl hx)
    unfold f_NB_part
    rw [N_own hN, N_0 hN, Option.bind_some, S_f hS (by decide), Option.bind_some, wf.2.1.1.1, hx, if_neg (by decide)]
  · obtain ⟨H1, a1, a2, a3, a4⟩ := C_rem hC hT
    obtain ⟨H2, b1, b2, b3, b4⟩ := C_out (s' := parS (R.2 0)) a2 a3
    obtain ⟨H3, c1, c2, c3⟩ := S_par wf b2.2.2.1 hx
    obtain ⟨wf', nc'⟩ := parS_wf wf hx
    have hC3 := CB_S b2 c3 wf' c2
    refine fin_d (k := k) (n := n) (v := v) h (e1 := ?_) (same_tr a4 (same_tr b4 (same_mono c3 (by omega) (by omega)))) (Mo_par wf hP.1 rfl r3 hx) hC3 (TeOK_same b3 c3 (by omega)) r8 r1
    unfold f_NB_part
    rw [N_own hN, N_0 hN, Option.bind_some, S_f hS (by decide), Option.bind_some, wf.2.1.1.1, if_pos (show (0 : Int32) < nI (nC (R.2 0)) from (nI_ltI (a := 0) (by decide) (by omega)).mpr (by omega)), N_3 hN, Option.bind_some, Option.bind_some, a1, Option.bind_some, N_1 a2.2.1, Option.bind_some, b1, Option.bind_some, N_0 b2.2.1, Option.bind_some, c1, Option.bind_some, N_0 hC3.2.1, Option.bind_some, S_f c2 (by decide), Option.bind_some, wf'.2.1.1.1, nc']
theorem M_leave (h : INV H c r R) : GOOD H c r (f_NB_leave c x) (f_Mo_leave r x) := by
  obtain ⟨hr, hm, hL, hT, k, n, v, hC, r3, r8, r1⟩ := id h
  obtain ⟨wf, hN, hS, -, hP, -⟩ := id hC
  have hC6 := wf.2.1.1.2
  by_cases hx : inI x (nC (R.2 0))
  · obtain ⟨e, he, rfl⟩ := inI_of hx (by omega)
    obtain ⟨Rc, g1, g2⟩ := S_cl hS wf he
    obtain ⟨-, wp, -⟩ := wf.2.1.2 e he
    rcases wp with wp | wp
    · refine noop (x := -1000000003) h ?_ (Mo_lv_away wf rfl he wp)
      unfold f_NB_leave
      rw [N_own hN, N_0 hN, Option.bind_some, S_hc hS wf, Option.bind_some, tst_y hx, Option.bind_some, S_r8 hS, Option.bind_some, S_cr hS (by omega), Option.bind_some, C_f g1 (by decide), Option.bind_some, g2.2.1, wp, if_pos rfl]
    · obtain ⟨H1, a1, a2, a3, a4⟩ := C_rem hC hT
      obtain ⟨H3, c1, c2, c3⟩ := S_lea wf a2.2.2.1 he
      have wf' := lvS_wf wf he
      have eC : nC (upd (R.2 0) (17 + 25 * e) 0) = nC (R.2 0) := by unfold nC; rw [upd_ne (by omega)]
      obtain ⟨Rd, k1, k2⟩ := S_cl c2 wf' (c := e) (by omega)
      refine fin_d (k := k) (n := n) (v := v) h (e1 := ?_) (same_tr a4 (same_mono c3 (by omega) (by omega))) (Mo_lv wf hP.1 rfl r3 he wp) (CB_S a2 c3 wf' c2) (TeOK_to (TeOK_same a3 c3 (by omega)) (fun tab => agr_congr (fun j hj => by
        rcases hj with hj | hj | hj | ⟨e', e1, e2⟩
        · exact upd_ne (by omega)
        · exact upd_ne (by omega)
        · exact upd_ne (by omega)
        · exact upd_ne (by omega)))) r8 r1
      unfold f_NB_leave
      rw [N_own hN, N_0 hN, Option.bind_some, S_hc hS wf, Option.bind_some, tst_y hx, Option.bind_some, S_r8 hS, Option.bind_some, S_cr hS (by omega), Option.bind_some, C_f g1 (by decide), Option.bind_some, g2.2.1, wp, if_neg (by decide), N_3 hN, Option.bind_some, Option.bind_some, a1, Option.bind_some, c1, Option.bind_some, C_f k1 (by decide), Option.bind_some, k2.1, upd_ne (by omega)]
  · refine noop (x := -1000000001) h ?_ (Mo_lv_no wf rfl hx)
    unfold f_NB_leave
    rw [N_own hN, N_0 hN, Option.bind_some, S_hc hS wf, Option.bind_some, tst_n hx]
theorem M_come (h : INV H c r R) : GOOD H c r (f_NB_come c x y) (f_Mo_come r x y) := by
  obtain ⟨hr, hm, hL, hT, k, n, v, hC, r3, r8, r1⟩ := id h
  obtain ⟨wf, hN, hS, -, hP, -⟩ := id hC
  have hC6 := wf.2.1.1.2
  have hB7 := wf.1.1.2.2
  by_cases hx : inI x (nC (R.2 0))
  · by_cases hy : inI y (nB (R.2 0))
    · obtain ⟨e, he, rfl⟩ := inI_of hx (by omega)
      obtain ⟨b, hb, rfl⟩ := inI_of hy (by omega)
      obtain ⟨Rc, g1, g2⟩ := S_cl hS wf he
      obtain ⟨-, wp, -⟩ := wf.2.1.2 e he
      rcases wp with wp | wp
      · obtain ⟨H1, a1, a2, a3, a4⟩ := C_rem hC hT
        obtain ⟨H2, b1, b2, b3, b4⟩ := C_out (s' := comS (R.2 0) e b) a2 a3
        obtain ⟨H3, c1, c2, c3⟩ := S_arr (b := b) wf b2.2.2.1 he
        refine fin_d (k := k) (n := n) (v := v) h (e1 := ?_) (same_tr a4 (same_tr b4 (same_mono c3 (by omega) (by omega)))) (Mo_com wf hP.1 rfl r3 hb he wp) (CB_S b2 c3 (comS_wf wf hb he) c2) (TeOK_same b3 c3 (by omega)) r8 r1
        unfold f_NB_come
        rw [N_own hN, N_0 hN, Option.bind_some, S_hc hS wf, Option.bind_some, tst_y hx, Option.bind_some, S_hb hS wf, Option.bind_some, tst_y hy, Option.bind_some, S_r8 hS, Option.bind_some, S_cr hS (by omega), Option.bind_some, C_f g1 (by decide), Option.bind_some, g2.2.1, wp, if_pos rfl, N_3 hN, Option.bind_some, Option.bind_some, a1, Option.bind_some, N_1 a2.2.1, Option.bind_some, b1, Option.bind_some, c1, hp_bs]
      · refine noop (x := -1000000003) h ?_ (Mo_com_here wf rfl hb he wp)
        unfold f_NB_come
        rw [N_own hN, N_0 hN, Option.bind_some, S_hc hS wf, Option.bind_some, tst_y hx, Option.bind_some, S_hb hS wf, Option.bind_some, tst_y hy, Option.bind_some, S_r8 hS, Option.bind_some, S_cr hS (by omega), Option.bind_some, C_f g1 (by decide), Option.bind_some, g2.2.1, wp, if_neg (by decide)]
    · refine noop (x := -1000000001) h ?_ (Mo_com_no wf rfl (fun q => hy q.2))
      unfold f_NB_come
      rw [N_own hN, N_0 hN, Option.bind_some, S_hc hS wf, Option.bind_some, tst_y hx, Option.bind_some, S_hb hS wf, Option.bind_some, tst_n hy]
  · refine noop (x := -1000000001) h ?_ (Mo_com_no wf rfl (fun q => hx q.1))
    unfold f_NB_come
    rw [N_own hN, N_0 hN, Option.bind_some, S_hc hS wf, Option.bind_some, tst_n hx]
end ME1
