/-! ===== the methods: wish, write, tear, seed, undo, keep, goBack ===== -/
theorem bx_kind {x k v : Nat} (hx : x < 65536) (hk : k < 4) (hv : v < 10) : f_Box_withKind (nI x) (nI k) (nI v) = some (nI (x * 256 + blo k v * 16 + bhi k v)) := by
  have e9 : (9 : Int32) = nI 9 := rfl
  have e0 : (0 : Int32) = nI 0 := rfl
  unfold f_Box_withKind blo bhi
  rw [e9, e0, bx_wb hx (by omega) (by omega), bx_wb hx (by omega) (by omega), bx_wb hx (by omega) (by omega), bx_wb hx (by omega) (by omega)]
  match k, hk with
  | 0, _ => rfl
  | 1, _ => rfl
  | 2, _ => rfl
  | 3, _ => rfl
theorem bx_not {x y z : Nat} (hx : x < 10) (hy : y < 10) (hz : z < 10) : f_Box_ofNotice (nI x) (nI y) (nI z) = some (nI (nt x y z)) := by
  have e0 : (0 : Int32) = nI 0 := rfl
  unfold f_Box_ofNotice
  rw [e0, bx_wb (by decide) (by omega) (by omega), Option.bind_some, bx_wb (by omega) (by omega) (by omega), Option.bind_some, bx_wb (by omega) (by omega) (by omega), Option.bind_some]
  refine congrArg some (congrArg nI ?_)
  unfold nt mk6
  omega
theorem is_knd {x : Int32} (h : inI x 4) : f_NB_isKind x = some 1 := by
  unfold f_NB_isKind
  rw [wi_lit, Option.bind_some, z_if, if_pos (show (0 : Int32).toInt ≤ x.toInt ∧ x.toInt ≤ (3 : Int32).toInt from ⟨h.1, by have := h.2; show x.toInt ≤ 3; omega⟩)]
theorem is_kndn {x : Int32} (h : ¬ inI x 4) : f_NB_isKind x = some 0 := by
  unfold f_NB_isKind
  rw [wi_lit, Option.bind_some, z_if, if_neg (show ¬ ((0 : Int32).toInt ≤ x.toInt ∧ x.toInt ≤ (3 : Int32).toInt) from fun q => h ⟨q.1, by have : x.toInt ≤ 3 := q.2; omega⟩)]
theorem wi_10 {x : Int32} (h : inI x 10) : f_NB_within x 0 9 = some 1 := by
  rw [wi_lit, if_pos (show (0 : Int32).toInt ≤ x.toInt ∧ x.toInt ≤ (9 : Int32).toInt from ⟨h.1, by have := h.2; show x.toInt ≤ 9; omega⟩)]
theorem wi_10n {x : Int32} (h : ¬ inI x 10) : f_NB_within x 0 9 = some 0 := by
  rw [wi_lit, if_neg (show ¬ ((0 : Int32).toInt ≤ x.toInt ∧ x.toInt ≤ (9 : Int32).toInt) from fun q => h ⟨q.1, by have : x.toInt ≤ 9 := q.2; omega⟩)]
theorem is_not {x y z : Int32} (hx : inI x 10) (hy : inI y 10) (hz : inI z 10) : f_NB_isNotice x y z = some 1 := by
  unfold f_NB_isNotice
  rw [wi_10 hx, Option.bind_some, if_neg (by decide), wi_10 hy, Option.bind_some, if_neg (by decide), wi_10 hz, Option.bind_some, if_neg (by decide)]
theorem is_notn {x y z : Int32} (h : ¬ (inI x 10 ∧ inI y 10 ∧ inI z 10)) : f_NB_isNotice x y z = some 0 := by
  unfold f_NB_isNotice
  by_cases hx : inI x 10
  · rw [wi_10 hx, Option.bind_some, if_neg (by decide)]
    by_cases hy : inI y 10
    · rw [wi_10 hy, Option.bind_some, if_neg (by decide), wi_10n (fun q => h ⟨hx, hy, q⟩), Option.bind_some, if_pos rfl]
    · rw [wi_10n hy, Option.bind_some, if_pos rfl]
  · rw [wi_10n hx, Option.bind_some, if_pos rfl]
section ME2
variable {H : hp_H} {c r : Nat} {R : oR} {x y a b d e g : Int32}
theorem M_wish (h : INV H c r R) : GOOD H c r (f_NB_wish c x y a b d e g) (f_Mo_wish_ r x y a b d e g) := by
  obtain ⟨hr, hm, hL, hT, k, n, v, hC, r3, r8, r1⟩ := id h
  obtain ⟨wf, hN, hS, -, hP, -⟩ := id hC
  have hC6 := wf.2.1.1.2
  have hW := wf.2.2.1.1.2
  by_cases hx : inI x (nC (R.2 0))
  · by_cases hk : (inI y 4 ∧ inI a 10) ∧ (inI b 4 ∧ inI d 10) ∧ (inI e 4 ∧ inI g 10)
    · obtain ⟨⟨y1, y2⟩, ⟨y3, y4⟩, y5, y6⟩ := id hk
      by_cases h12 : nW (R.2 0) = 12
      · refine noop (x := -1000000004) h ?_ (Mo_wis_full wf rfl hx hk h12)
        unfold f_NB_wish
        rw [N_own hN, N_0 hN, Option.bind_some, S_hc hS wf, Option.bind_some, tst_y hx, is_knd y1, Option.bind_some, if_neg (by decide), is_knd y3, Option.bind_some, if_neg (by decide), is_knd y5, Option.bind_some, if_neg (by decide), is_not y2 y4 y6, Option.bind_some, if_neg (by decide), Option.bind_some, S_f hS (by decide), Option.bind_some, wf.2.2.1.1.1, h12, if_neg (by decide)]
      · obtain ⟨o, ho, rfl⟩ := inI_of hx (by omega)
        obtain ⟨k1, hk1, rfl⟩ := inI_of y1 (by decide)
        obtain ⟨v1, hv1, rfl⟩ := inI_of y2 (by decide)
        obtain ⟨k2, hk2, rfl⟩ := inI_of y3 (by decide)
        obtain ⟨v2, hv2, rfl⟩ := inI_of y4 (by decide)
        obtain ⟨k3, hk3, rfl⟩ := inI_of y5 (by decide)
        obtain ⟨v3, hv3, rfl⟩ := inI_of y6 (by decide)
        have q1 := blh (k := k1) hv1
        have q2 := blh (k := k2) hv2
        have q3 := blh (k := k3) hv3
        have w1 : f_Box_withKind 0 (nI k1) (nI v1) = some (nI (0 * 256 + blo k1 v1 * 16 + bhi k1 v1)) := bx_kind (x := 0) (by decide) hk1 hv1
        have ekb : ((0 * 256 + blo k1 v1 * 16 + bhi k1 v1) * 256 + blo k2 v2 * 16 + bhi k2 v2) * 256 + blo k3 v3 * 16 + bhi k3 v3 = kbx k1 v1 k2 v2 k3 v3 := by
          unfold kbx mk6
          omega
        obtain ⟨H1, a1, a2, a3, a4⟩ := C_rem hC hT
        obtain ⟨H2, b1, b2, b3, b4⟩ := C_out (s' := wisS (R.2 0) o k1 v1 k2 v2 k3 v3) a2 a3
        obtain ⟨H3, c1, c2, c3⟩ := S_awi wf b2.2.2.1 (k1 := k1) (k2 := k2) (k3 := k3) ho hv1 hv2 hv3 h12
        refine fin_d (k := k) (n := n) (v := v) h (e1 := ?_) (same_tr a4 (same_tr b4 (same_mono c3 (by omega) (by omega)))) (Mo_wis wf hP.1 rfl r3 ho hk1 hk2 hk3 hv1 hv2 hv3 h12) (CB_S b2 c3 (wisS_wf wf ho hv1 hv2 hv3 h12).1 c2) (TeOK_same b3 c3 (by omega)) r8 r1
        unfold f_NB_wish
        rw [N_own hN, N_0 hN, Option.bind_some, S_hc hS wf, Option.bind_some, tst_y hx, is_knd y1, Option.bind_some, if_neg (by decide), is_knd y3, Option.bind_some, if_neg (by decide), is_knd y5, Option.bind_some, if_neg (by decide), is_not y2 y4 y6, Option.bind_some, if_neg (by decide), Option.bind_some, S_f hS (by decide), Option.bind_some, wf.2.2.1.1.1, if_pos (show nI (nW (R.2 0)) < 12 from (nI_ltI (b := 12) (by omega) (by decide)).mpr (by omega)), N_3 hN, Option.bind_some, Option.bind_some, a1, Option.bind_some, N_1 a2.2.1, Option.bind_some, b1, Option.bind_some, w1, Option.bind_some, bx_kind (by omega) hk2 hv2, Option.bind_some, bx_kind (by omega) hk3 hv3, Option.bind_some, N_0 b2.2.1, Option.bind_some, ekb, c1, hp_bs]
    · refine noop (x := -1000000002) h ?_ (Mo_wis_bad wf rfl hx hk)
      unfold f_NB_wish
      rw [N_own hN, N_0 hN, Option.bind_some, S_hc hS wf, Option.bind_some, tst_y hx]
      by_cases y1 : inI y 4
      · rw [is_knd y1, Option.bind_some, if_neg (by decide)]
        by_cases y3 : inI b 4
        · rw [is_knd y3, Option.bind_some, if_neg (by decide)]
          by_cases y5 : inI e 4
          · rw [is_knd y5, Option.bind_some, if_neg (by decide), is_notn (fun q => hk ⟨⟨y1, q.1⟩, ⟨y3, q.2.1⟩, y5, q.2.2⟩), Option.bind_some, if_pos rfl]
          · rw [is_kndn y5, Option.bind_some, if_pos rfl]
        · rw [is_kndn y3, Option.bind_some, if_pos rfl]
      · rw [is_kndn y1, Option.bind_some, if_pos rfl]
  · refine noop (x := -1000000001) h ?_ (Mo_wis_no wf rfl hx)
    unfold f_NB_wish
    rw [N_own hN, N_0 hN, Option.bind_some, S_hc hS wf, Option.bind_some, tst_n hx]
theorem M_write (h : INV H c r R) : GOOD H c r (f_NB_write c x y) (f_Mo_write r x y) := by
  obtain ⟨hr, hm, hL, hT, k, n, v, hC, r3, r8, r1⟩ := id h
  obtain ⟨wf, hN, hS, -, hP, hB, -⟩ := id hC
  have hC6 := wf.2.1.1.2
  have h20 := hB.1
  by_cases hx : inI x (nC (R.2 0))
  · obtain ⟨o, ho, rfl⟩ := inI_of hx (by omega)
    by_cases hn : n = 20
    · refine noop (x := -1000000004) h ?_ (Mo_wrt_full wf rfl (by rw [r8, hn]) ho)
      unfold f_NB_write
      rw [N_own hN, N_0 hN, Option.bind_some, S_hc hS wf, Option.bind_some, tst_y hx, N_4 hN, Option.bind_some, B_cnt hB, Option.bind_some, hn, if_neg (by decide)]
    · obtain ⟨H1, a1, a2, a3⟩ := B_add (c := nI o) (x := y) hB (by omega)
      have hC1 := CB_B hC a3 a2
      have kk : kps R (sF (sA (sA R 6 (upd (R.2 6) n (nI o))) 7 (upd (R.2 7) n y)) 8 (nI (n + 1))) [8] [6, 7] := kps_tr (kps_tr (kps_A (by decide)) (kps_A (by decide))) (kps_F (by decide))
      refine fin h (e1 := ?_) (same_mono a3 (by omega) (by omega)) (Mo_wrt wf rfl r8 (by omega) ho) hC1 (TeOK_same hT a3 (by omega)) (laid_kp hL kk (by decide) (by decide) (by decide)) (kk.2 0 (by decide)) (kk.2 2 (by decide)) ((kk.1 3 (by decide)).trans r3) (kk.2 4 (by decide)) (kk.2 5 (by decide)) sF_at (by rw [sF_2, sA_ne (by decide), sA_at]) (by rw [sF_2, sA_at]) ((kk.1 1 (by decide)).trans r1)
      unfold f_NB_write
      rw [N_own hN, N_0 hN, Option.bind_some, S_hc hS wf, Option.bind_some, tst_y hx, N_4 hN, Option.bind_some, B_cnt hB, Option.bind_some, if_pos (show nI n < 20 from (nI_ltI (b := 20) (by omega) (by decide)).mpr (by omega)), Option.bind_some, a1, Option.bind_some, N_4 hC1.2.1, Option.bind_some, B_cnt a2, Option.bind_some]
  · refine noop (x := -1000000001) h ?_ (Mo_wrt_no wf rfl hx)
    unfold f_NB_write
    rw [N_own hN, N_0 hN, Option.bind_some, S_hc hS wf, Option.bind_some, tst_n hx]
theorem M_tear (h : INV H c r R) : GOOD H c r (f_NB_tear c) (f_Mo_tear r) := by
  obtain ⟨hr, hm, hL, hT, k, n, v, hC, r3, r8, r1⟩ := id h
  obtain ⟨wf, hN, hS, -, hP, hB, -⟩ := id hC
  obtain ⟨H1, a1, a2, a3⟩ := B_tea hB
  have kk : kps R (sF R 8 0) [8] [] := kps_F (by decide)
  refine fin h (e1 := ?_) (same_mono a3 (by omega) (by omega)) Mo_ter (CB_B hC a3 a2) (TeOK_same hT a3 (by omega)) (laid_kp hL kk (by decide) (by decide) (by decide)) rfl rfl ((kk.1 3 (by decide)).trans r3) rfl rfl sF_at rfl rfl ((kk.1 1 (by decide)).trans r1)
  unfold f_NB_tear
  rw [N_own hN, N_4 hN, Option.bind_some, B_cnt hB, Option.bind_some, Option.bind_some, a1, Option.bind_some, r8]
theorem M_seed (h : INV H c r R) : GOOD H c r (f_NB_seed c x) (f_Mo_seed r x) := by
  obtain ⟨hr, hm, hL, hT, k, n, v, hC, r3, r8, r1⟩ := id h
  obtain ⟨wf, hN, hS, -, hP, hB, hD, -⟩ := id hC
  by_cases hx : 0 ≤ x
  · obtain ⟨q1, q2, -⟩ := fo_nat hx
    generalize x.toNatClampNeg = u at q1 q2
    subst q1
    obtain ⟨H1, a1, a2, a3⟩ := D_put hD q2
    have kk : kps R (sF R 1 (nI u)) [1] [] := kps_F (by decide)
    refine fin h (e1 := ?_) (same_mono a3 (by omega) (by omega)) (Mo_sed hx) (CB_D hC a3 a2) (TeOK_same hT a3 (by omega)) (laid_kp hL kk (by decide) (by decide) (by decide)) rfl rfl ((kk.1 3 (by decide)).trans r3) rfl rfl ((kk.1 8 (by decide)).trans r8) rfl rfl sF_at
    unfold f_NB_seed
    rw [N_own hN, if_pos hx, N_5 hN, Option.bind_some, D_val hD, Option.bind_some, Option.bind_some, a1, Option.bind_some, r1]
  · refine noop (x := -1000000002) h ?_ (Mo_sed_no hx)
    unfold f_NB_seed
    rw [N_own hN, if_neg hx]
end ME2
