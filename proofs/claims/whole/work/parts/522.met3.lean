/-! ===== the methods: undo, keep, goBack ===== -/
theorem wr_256 {s g : Nat → Int32} {t : Nat} (ht : t < 256) : wr s 0 256 g t = g t := by
  have := wr_in (A := s) (base := 0) (m := 256) (g := g) ht
  rw [Nat.zero_add] at this
  exact this
theorem laid_0 {R R' : oR} {s s' : Nat → Int32} (h : laidI R s) (e11 : R'.1 11 = 0) (e9 : R'.2 9 = R.2 9) (e10 : R'.2 10 = R.2 10) : laidI R' s' := by
  obtain ⟨-, tab, h1, -⟩ := h
  refine ⟨Or.inl e11, tab, fun k hk => ?_, fun q => ?_⟩
  · obtain ⟨a1, a2, a3, a4⟩ := h1 k hk
    exact ⟨by rw [e9]; exact a1, a2, a3, by rw [e10]; exact a4⟩
  · rw [e11] at q
    exact absurd q (by decide)
section ME3
variable {H : hp_H} {c r : Nat} {R : oR} {x : Int32}
theorem P_cnt {p k : Nat} {A : Nat → Int32} (hP : PaI H p A k) : hp_gI H p 6 2 = some (nI k) := by
  obtain ⟨-, RP, fi, h1, h2, h3, h4, -⟩ := hP
  have := Pa_g2 (σ := H) (a := p) (R := RP)
  rw [Pa_eq h1, h4] at this
  exact this
theorem M_undo (h : INV H c r R) : GOOD H c r (f_NB_undo c x) (f_Mo_undo r x) := by
  obtain ⟨hr, hm, hL, hT, k, n, v, hC, r3, r8, r1⟩ := id h
  obtain ⟨wf, hN, hS, ⟨J, hJ⟩, hP, hB, hD, hI⟩ := id hC
  have hk16 := hP.1
  by_cases hx : 1 ≤ x.toInt ∧ x.toInt ≤ 16
  · obtain ⟨m, hm17, rfl⟩ : ∃ m, m < 17 ∧ x = nI m := inI_of ⟨by omega, by omega⟩ (by decide)
    have hx' := hx
    rw [nI_toInt (by omega)] at hx'
    by_cases hmk : m ≤ k
    · obtain ⟨H0, H1, a1, a2, a3, a4, a5, a6⟩ := P_res (st := c + 1) (by omega) hP (StI_X hS) (by omega) hmk
      have es : ∀ t, t < 256 → wr (R.2 0) 0 256 (fun t => R.2 2 (256 * (k - m) + t)) t = rwA (R.2 2) (k - m) t := fun t ht => wr_256 ht
      generalize hs' : wr (R.2 0) 0 256 (fun t => R.2 2 (256 * (k - m) + t)) = s' at es
      have wf' := Wf_256 a4 es
      have hC1 : CB H1 c s' (R.2 2) (k - m) (R.2 4) (R.2 5) n (R.2 6) (R.2 7) v := ⟨wf', NBo_same (NBo_same hN a5 (by omega) (by omega)) a6 (by omega) (by omega), StI_256 a3 a4 es, ⟨J, hs_same (hs_same hJ a5 (by omega)) a6 (by omega)⟩, a2, BkI_same (BkI_same hB a5 (by omega)) a6 (by omega), DrI_same (DrI_same hD a5 (by omega)) a6 (by omega), ImI_same (ImI_same hI a5 (by omega)) a6 (by omega)⟩
      obtain ⟨H2, b1, b2, b3, b4⟩ := C_out (s' := s') hC1 (TeOK_same (TeOK_same hT a5 (by omega)) a6 (by omega))
      have em := Mo_und (σ := H2) (r := r) (R := R) hk16 r3 (show 1 ≤ m by omega) hmk
      rw [hs'] at em
      have kk : kps R (sF (sA (sF R 3 (nI (k - m))) 0 s') 11 0) [3, 11] [0] := kps_tr (kps_tr (kps_F (by decide)) (kps_A (by decide))) (kps_F (by decide))
      refine fin h (e1 := ?_) (same_tr (same_mono a5 (by omega) (by omega)) (same_tr (same_mono a6 (by omega) (by omega)) b4)) em b2 b3 (laid_0 hL sF_at (kk.2 9 (by decide)) (kk.2 10 (by decide))) (by rw [sF_2, sA_at]) (kk.2 2 (by decide)) (by rw [sF_ne (by decide), sA_1, sF_at]) (kk.2 4 (by decide)) (kk.2 5 (by decide)) ((kk.1 8 (by decide)).trans r8) (kk.2 6 (by decide)) (kk.2 7 (by decide)) ((kk.1 1 (by decide)).trans r1)
      unfold f_NB_undo
      rw [N_own hN, wi_lit, Option.bind_some, tsw_y (a := 1) (b := 16) hx, N_3 hN, Option.bind_some, P_cnt hP, Option.bind_some, if_pos ((nI_leI (by omega) (by omega)).mpr hmk), Option.bind_some, N_0 hN, Option.bind_some, a1, Option.bind_some, N_1 hC1.2.1, Option.bind_some, b1, Option.bind_some, N_3 b2.2.1, Option.bind_some, P_cnt b2.2.2.2.2.1, Option.bind_some]
    · refine noop (x := -1000000003) h ?_ (Mo_und_few hk16 r3 (by omega) (by omega) (by omega))
      unfold f_NB_undo
      rw [N_own hN, wi_lit, Option.bind_some, tsw_y (a := 1) (b := 16) hx, N_3 hN, Option.bind_some, P_cnt hP, Option.bind_some, if_neg (fun q => hmk ((nI_leI (by omega) (by omega)).mp q))]
  · refine noop (x := -1000000002) h ?_ (Mo_und_no hx)
    unfold f_NB_undo
    rw [N_own hN, wi_lit, Option.bind_some, tsw_n (a := 1) (b := 16) hx]
theorem M_keep (h : INV H c r R) : GOOD H c r (f_NB_keep c x) (f_Mo_keep r x) := by
  obtain ⟨hr, hm, hL, hT, k, n, v, hC, r3, r8, r1⟩ := id h
  obtain ⟨wf, hN, hS, ⟨J, hJ⟩, hP, hB, hD, hI⟩ := id hC
  by_cases hx : 0 ≤ x.toInt ∧ x.toInt ≤ 1
  · obtain ⟨i, hi, rfl⟩ : ∃ i, i < 2 ∧ x = nI i := inI_of ⟨by omega, by omega⟩ (by decide)
    obtain ⟨H1, a1, a2, a3⟩ := Im_take (st := c + 1) (dr := c + 430) wf (hI i hi) hS hD (by omega) (by omega)
    have hI1 : ImI H1 (c + 432) (upd (wr (R.2 4) (257 * i) 256 (R.2 0)) (257 * i + 256) (nI v)) (upd (R.2 5) i 1) := fun j hj => by
      by_cases hji : j = i
      · rw [hji]; exact a2
      · exact ImO_congr (ImO_same (hI j hj) a3 (by omega)) (fun t ht => by rw [upd_ne (by omega), wr_out (by omega)]) (upd_ne hji)
    have hC1 := CB_I hC (same_mono a3 (by omega) (by omega)) hI1
    obtain ⟨H2, b1, b2, b3⟩ := PaI_zero (A' := R.2 2) hC1.2.2.2.2.1
    have hC2 := CB_P hC1 b3 b2
    have em := Mo_kep (σ := H2) (r := r) (R := R) (s := R.2 0) hi rfl
    rw [r1] at em
    generalize hI' : upd (wr (R.2 4) (257 * i) 256 (R.2 0)) (257 * i + 256) (nI v) = I' at *
    have kk : kps R (sF (sA (sA R 4 I') 5 (upd (R.2 5) i 1)) 3 0) [3] [4, 5] := kps_tr (kps_tr (kps_A (by decide)) (kps_A (by decide))) (kps_F (by decide))
    refine fin h (e1 := ?_) (same_tr (same_mono a3 (by omega) (by omega)) (same_mono b3 (by omega) (by omega))) em hC2 (TeOK_same (TeOK_same hT a3 (by omega)) b3 (by omega)) (laid_kp hL kk (by decide) (by decide) (by decide)) (kk.2 0 (by decide)) (kk.2 2 (by decide)) sF_at (by rw [sF_2, sA_ne (by decide), sA_at]) (by rw [sF_2, sA_at]) ((kk.1 8 (by decide)).trans r8) (kk.2 6 (by decide)) (kk.2 7 (by decide)) ((kk.1 1 (by decide)).trans r1)
    unfold f_NB_keep
    rw [N_own hN, wi_lit, Option.bind_some, tsw_y (a := 0) (b := 1) hx, N_6 hN, Option.bind_some, N_im hN hi, Option.bind_some, N_0 hN, Option.bind_some, N_5 hN, Option.bind_some, a1, Option.bind_some, N_3 hC1.2.1, Option.bind_some, b1, Option.bind_some]
  · refine noop (x := -1000000001) h ?_ (Mo_kep_no hx)
    unfold f_NB_keep
    rw [N_own hN, wi_lit, Option.bind_some, tsw_n (a := 0) (b := 1) hx]
theorem M_goBack (h : INV H c r R) : GOOD H c r (f_NB_goBack c x) (f_Mo_goBack r x) := by
  obtain ⟨hr, hm, hL, hT, k, n, v, hC, r3, r8, r1⟩ := id h
  obtain ⟨wf, hN, hS, ⟨J, hJ⟩, hP, hB, hD, hI⟩ := id hC
  by_cases hx : 0 ≤ x.toInt ∧ x.toInt ≤ 1
  · obtain ⟨i, hi, rfl⟩ : ∃ i, i < 2 ∧ x = nI i := inI_of ⟨by omega, by omega⟩ (by decide)
    have hfl := Im_flag (hI i hi)
    by_cases hF : R.2 5 i = 0
    · refine noop (x := -1000000003) h ?_ (Mo_gob_none hi hF)
      unfold f_NB_goBack
      rw [N_own hN, wi_lit, Option.bind_some, tsw_y (a := 0) (b := 1) hx, N_6 hN, Option.bind_some, N_im hN hi, Option.bind_some, hfl, Option.bind_some, if_pos hF]
    · obtain ⟨H0, H1, u, a1, a5, a6, a3, a4, a7, a8⟩ := Im_give (st := c + 1) (dr := c + 430) (hI i hi) hF (StI_X hS) hD (by omega) (by omega) (by omega)
      have es : ∀ t, t < 256 → wr (R.2 0) 0 256 (fun t => R.2 4 (257 * i + t)) t = rwI (R.2 4) i t := fun t ht => wr_256 ht
      generalize hs' : wr (R.2 0) 0 256 (fun t => R.2 4 (257 * i + t)) = s' at es
      have wf' := Wf_256 a4 es
      have hC1 : CB H1 c s' (R.2 2) k (R.2 4) (R.2 5) n (R.2 6) (R.2 7) u := ⟨wf', NBo_same (NBo_same hN a5 (by omega) (by omega)) a6 (by omega) (by omega), StI_256 a3 a4 es, ⟨J, hs_same (hs_same hJ a5 (by omega)) a6 (by omega)⟩, PaI_same (PaI_same hP a5 (by omega)) a6 (by omega), BkI_same (BkI_same hB a5 (by omega)) a6 (by omega), a7, ImI_same (ImI_same hI a5 (by omega)) a6 (by omega)⟩
      obtain ⟨H2, b1, b2, b3⟩ := PaI_zero (A' := R.2 2) hC1.2.2.2.2.1
      have hC2 := CB_P hC1 b3 b2
      obtain ⟨H3, c1, c2, c3, c4⟩ := C_out (s' := s') hC2 (TeOK_same (TeOK_same (TeOK_same hT a5 (by omega)) a6 (by omega)) b3 (by omega))
      have em := Mo_gob (σ := H3) (r := r) (R := R) hi hF
      rw [hs', a8] at em
      have kk : kps R (sF (sF (sF (sA R 0 s') 1 (nI u)) 3 0) 11 0) [1, 3, 11] [0] := kps_tr (kps_tr (kps_tr (kps_A (by decide)) (kps_F (by decide))) (kps_F (by decide))) (kps_F (by decide))
      refine fin h (e1 := ?_) (same_tr (same_mono a5 (by omega) (by omega)) (same_tr (same_mono a6 (by omega) (by omega)) (same_tr (same_mono b3 (by omega) (by omega)) c4))) em c2 c3 (laid_0 hL sF_at (kk.2 9 (by decide)) (kk.2 10 (by decide))) (by rw [sF_2, sF_2, sF_2, sA_at]) (kk.2 2 (by decide)) (by rw [sF_ne (by decide), sF_at]; rfl) (kk.2 4 (by decide)) (kk.2 5 (by decide)) ((kk.1 8 (by decide)).trans r8) (kk.2 6 (by decide)) (kk.2 7 (by decide)) (by rw [sF_ne (by decide), sF_ne (by decide), sF_at])
      unfold f_NB_goBack
      rw [N_own hN, wi_lit, Option.bind_some, tsw_y (a := 0) (b := 1) hx, N_6 hN, Option.bind_some, N_im hN hi, Option.bind_some, hfl, Option.bind_some, if_neg hF, Option.bind_some, N_im hN hi, Option.bind_some, N_0 hN, Option.bind_some, N_5 hN, Option.bind_some, a1, Option.bind_some, N_3 hC1.2.1, Option.bind_some, b1, Option.bind_some, N_1 hC2.2.1, Option.bind_some, c1, Option.bind_some]
  · refine noop (x := -1000000001) h ?_ (Mo_gob_no hx)
    unfold f_NB_goBack
    rw [N_own hN, wi_lit, Option.bind_some, tsw_n (a := 0) (b := 1) hx]
end ME3
