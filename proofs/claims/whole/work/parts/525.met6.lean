/-! ===== the methods: put, drift ===== -/
theorem JR_lt {s : Nat → Int32} (wf : Wf s) {n b P e G V : Nat} (hb : b < nB s) (h : JR s n b P e G V) : G < 2 ^ 7 ∧ V < 2 ^ 7 := by
  have hC6 := wf.2.1.1.2
  obtain ⟨F, U, j1, j2, j3, j4, j5⟩ := h
  have hP := (JI_lt wf hb j1).1
  refine ⟨tb_lt (fun i hi => by have := ((j3 i).mp hi).1; omega), ?_⟩
  rw [j5]
  exact Nat.lt_of_le_of_lt Nat.and_le_left hP
section ME6
variable {c r : Nat}
theorem C_del {H : hp_H} {s A I Fl B1 B2 : Nat → Int32} {k n v : Nat} {tab : Nat → List Nat} (hC : CB H c s A k I Fl n B1 B2 v) (hT : TeI H (c + 24) 1 tab) (hag : agr s tab) {b N : Nat} (hb : b < nB s) (hn : N < 16777216) : ∃ H' P e G V, f_NB_deliver c (nI b) (nI N) H = some (nI (pcF 7 G), H') ∧ CB H' c (putS s e G V) (pstS A k s) (pstN k) I Fl n B1 B2 v ∧ TeI H' (c + 24) 1 tab ∧ agr (putS s e G V) tab ∧ same H H' c 480 ∧ JR s N b P e G V := by
  obtain ⟨wf, hN, hS, -, hP, -⟩ := id hC
  obtain ⟨H1, a1, a2, a3⟩ := P_rem (st := c + 1) wf (by omega) hP hS
  have hC1 := CB_P hC a3 a2
  obtain ⟨H2, J2, P, e, G, V, z1, z2, z3, z4, z5, z6, z7, z8, z9, z10⟩ := C_trv hC1 (TeI_same hT a3 (by omega)) hag hb hn
  obtain ⟨hG, hV⟩ := JR_lt wf hb z6
  obtain ⟨H3, b1, b2, b3⟩ := S_han (a := c + 1) (j := c + 55) wf hG hV z8 z9 z10 (by omega) z2.2.2.1 z5
  have z5' := hs_same z5 b3 (by omega)
  have hC3 := CB_S z2 b3 (putS_wf wf) b2
  refine ⟨H3, P, e, G, V, ?_, hC3, TeI_same z3 b3 (by omega), agr_congr (fun j hj => putS_rel wf hj) hag, same_tr (same_mono a3 (by omega) (by omega)) (same_tr z4 (same_mono b3 (by omega) (by omega))), z6⟩
  unfold f_NB_deliver
  rw [N_own hN, N_3 hN, Option.bind_some, N_0 hN, Option.bind_some, a1, Option.bind_some, N_2 hC1.2.1, Option.bind_some, N_0 hC1.2.1, Option.bind_some, N_1 hC1.2.1, Option.bind_some, z1, Option.bind_some, N_0 z2.2.1, Option.bind_some, N_2 z2.2.1, Option.bind_some, b1, Option.bind_some, N_2 hC3.2.1, Option.bind_some, J_f z5' (by decide) (by decide), Option.bind_some, z8, ji_bits G hG, Option.bind_some]
theorem M_put {H : hp_H} {R : oR} {x a1 a2 a3 : Int32} (h : INV H c r R) : GOOD H c r (f_NB_put c x a1 a2 a3) (f_Mo_put r x a1 a2 a3) := by
  obtain ⟨hr, hm, hL, hT, k, n, v, hC, r3, r8, r1⟩ := id h
  obtain ⟨wf, hN, hS, ⟨J, hJ⟩, hP, hB, hD, hI⟩ := id hC
  have hB7 := wf.1.1.2.2
  by_cases hx : inI x (nB (R.2 0))
  · by_cases hg : inI a1 10 ∧ inI a2 10 ∧ inI a3 10
    · obtain ⟨g1, g2, g3⟩ := id hg
      obtain ⟨b, hb, rfl⟩ := inI_of hx (by omega)
      obtain ⟨x1, hx1, rfl⟩ := inI_of g1 (by decide)
      obtain ⟨x2, hx2, rfl⟩ := inI_of g2 (by decide)
      obtain ⟨x3, hx3, rfl⟩ := inI_of g3 (by decide)
      obtain ⟨H1, tab, c1, c2, c3, c4, c5, c6⟩ := C_ref hC hT
      obtain ⟨H2, P, e, G, V, z1, z2, z3, z4, z5, z6⟩ := C_del c4 c2 c3 hb (nt_d hx1 hx2 hx3).2.2.2.2.2.2
      obtain ⟨R', P', e', G', V', m1, m2, m3, m4, m5⟩ := Mo_put (σ := H2) (r := r) wf hP.1 rfl r3 hL hb hx1 hx2 hx3
      obtain ⟨u1, u2, u3, u4⟩ := JR_uni m5 z6
      subst u1 u2 u3 u4
      have kd := ded_kps (R := R) (k := k) (s := R.2 0)
      have df := ded_f (R := R) (k := k) (s' := R.2 0)
      refine fin (R' := R') h (e1 := ?_) (same_tr c6 z5) m1 z2 ⟨1, tab, z3, Or.inr rfl, fun _ => z4⟩ m4 m3 ((m2.2 2 (by decide)).trans df.1) ((m2.1 3 (by decide)).trans df.2) ((m2.2 4 (by decide)).trans (kd.2 4 (by decide))) ((m2.2 5 (by decide)).trans (kd.2 5 (by decide))) ((m2.1 8 (by decide)).trans ((kd.1 8 (by decide)).trans r8)) ((m2.2 6 (by decide)).trans (kd.2 6 (by decide))) ((m2.2 7 (by decide)).trans (kd.2 7 (by decide))) ((m2.1 1 (by decide)).trans ((kd.1 1 (by decide)).trans r1))
      unfold f_NB_put
      rw [N_own hN, N_0 hN, Option.bind_some, S_hb hS wf, Option.bind_some, tst_y hx, is_not g1 g2 g3, Option.bind_some, if_neg (by decide), N_1 hN, Option.bind_some, Option.bind_some, c1, Option.bind_some, bx_not hx1 hx2 hx3, Option.bind_some, z1, hp_bs]
    · refine noop (x := -1000000002) h ?_ (Mo_put_bad wf rfl hx hg)
      unfold f_NB_put
      rw [N_own hN, N_0 hN, Option.bind_some, S_hb hS wf, Option.bind_some, tst_y hx, is_notn hg, Option.bind_some, if_pos rfl]
  · refine noop (x := -1000000001) h ?_ (Mo_put_no wf rfl hx)
    unfold f_NB_put
    rw [N_own hN, N_0 hN, Option.bind_some, S_hb hS wf, Option.bind_some, tst_n hx]
/-- m steps of drift, of row, past, how many, seed -/
def DS : Nat → (Nat → Int32) → (Nat → Int32) → Nat → Nat → (Nat → Int32) × (Nat → Int32) × Nat × Nat → Prop
  | 0, s, A, k, v, z => z = (s, A, k, v)
  | m + 1, s, A, k, v, z => ∃ e1 e2 e3 e4 P e G V, drw v = e1 ∧ drw e1 = e2 ∧ drw e2 = e3 ∧ drw e3 = e4 ∧ JR s (nt (e2 / 65536 % 10) (e3 / 65536 % 10) (e4 / 65536 % 10)) (e1 / 65536 % nB s) P e G V ∧ DS m (putS s e G V) (pstS A k s) (pstN k) e4 z
theorem DS_uni : ∀ (m : Nat) (s A : Nat → Int32) (k v : Nat) (z z' : (Nat → Int32) × (Nat → Int32) × Nat × Nat), DS m s A k v z → DS m s A k v z' → z = z'
  | 0, s, A, k, v, z, z', h, h' => by
    unfold DS at h h'
    rw [h, h']
  | m + 1, s, A, k, v, z, z', h, h' => by
    unfold DS at h h'
    obtain ⟨e1, e2, e3, e4, P, e, G, V, q1, q2, q3, q4, q5, q6⟩ := h
    obtain ⟨f1, f2, f3, f4, P', e', G', V', p1, p2, p3, p4, p5, p6⟩ := h'
    have w1 : e1 = f1 := q1.symm.trans p1
    subst w1
    have w2 : e2 = f2 := q2.symm.trans p2
    subst w2
    have w3 : e3 = f3 := q3.symm.trans p3
    subst w3
    have w4 : e4 = f4 := q4.symm.trans p4
    subst w4
    obtain ⟨u1, u2, u3, u4⟩ := JR_uni q5 p5
    subst u1 u2 u3 u4
    exact DS_uni m _ _ _ _ _ _ q6 p6
theorem N_dri {I Fl B1 B2 : Nat → Int32} {n d : Nat} {tab : Nat → List Nat} (hd : d ≤ 8) {K : Int32 → hp_H → Option (Int32 × hp_H)} : ∀ (m i f : Nat) (H : hp_H) (s A : Nat → Int32) (k v : Nat), i + m = d → CB H c s A k I Fl n B1 B2 v → TeI H (c + 24) 1 tab → agr s tab → ∃ H' z, f_NB_drift_l1 c (nI d) K (f + m + 1) (nI i) H = K (nI d) H' ∧ DS m s A k v z ∧ CB H' c z.1 z.2.1 z.2.2.1 I Fl n B1 B2 z.2.2.2 ∧ TeI H' (c + 24) 1 tab ∧ agr z.1 tab ∧ same H H' c 480
  | 0, i, f, H, s, A, k, v, e, hC, hT, hag => by
    refine ⟨H, (s, A, k, v), ?_, rfl, hC, hT, hag, same_rf⟩
    rw [f_NB_drift_l1, show i = d by omega, if_pos ((nI_leI (by omega) (by omega)).mpr (Nat.le_refl _))]
  | m + 1, i, f, H, s, A, k, v, e, hC, hT, hag => by
    obtain ⟨wf, hN, hS, -, hP, -, hD, -⟩ := id hC
    have hB7 := wf.1.1.2.2
    have hB1 := wf.1.1.2.1
    have t10 : (10 : Int32) = nI 10 := rfl
    generalize q1 : drw v = e1
    generalize q2 : drw e1 = e2
    generalize q3 : drw e2 = e3
    generalize q4 : drw e3 = e4
    obtain ⟨H1, a1, a2, a3⟩ := D_drw hD (m := nB s) q1 (by omega) (by omega)
    have hC1 := CB_D hC a3 a2
    obtain ⟨H2, b1, b2, b3⟩ := D_drw a2 (m := 10) q2 (by decide) (by decide)
    have hC2 := CB_D hC1 b3 b2
    obtain ⟨H3, c1, c2, c3⟩ := D_drw b2 (m := 10) q3 (by decide) (by decide)
    have hC3 := CB_D hC2 c3 c2
    obtain ⟨H4, d1, d2, d3⟩ := D_drw c2 (m := 10) q4 (by decide) (by decide)
    have hC4 := CB_D hC3 d3 d2
    have l1 : e1 / 65536 % nB s < nB s := Nat.mod_lt _ (by omega)
    have l2 : e2 / 65536 % 10 < 10 := Nat.mod_lt _ (by decide)
    have l3 : e3 / 65536 % 10 < 10 := Nat.mod_lt _ (by decide)
    have l4 : e4 / 65536 % 10 < 10 := Nat.mod_lt _ (by decide)
    have hT4 := TeI_same (TeI_same (TeI_same (TeI_same hT a3 (by omega)) b3 (by omega)) c3 (by omega)) d3 (by omega)
    obtain ⟨H5, P, e', G, V, z1, z2, z3, z4, z5, z6⟩ := C_del hC4 hT4 hag l1 (nt_d l2 l3 l4).2.2.2.2.2.2
    obtain ⟨H6, z, y1, y2, y3, y4, y5, y6⟩ := N_dri hd (K := K) m (i + 1) f H5 _ _ _ _ (by omega) z2 z3 z4
    refine ⟨H6, z, ?_, ⟨e1, e2, e3, e4, P, e', G, V, q1, q2, q3, q4, z6, y2⟩, y3, y4, y5, same_tr (same_mono a3 (by omega) (by omega)) (same_tr (same_mono b3 (by omega) (by omega)) (same_tr (same_mono c3 (by omega) (by omega)) (same_tr (same_mono d3 (by omega) (by omega)) (same_tr z5 y6))))⟩
    rw [f_NB_drift_l1, if_neg (fun q => by have := (nI_leI (by omega) (by omega)).mp q; omega), N_5 hN, Option.bind_some, N_0 hN, Option.bind_some, S_f hS (by decide), Option.bind_some, wf.1.1.1, a1, hp_bs, N_5 hC1.2.1, Option.bind_some, t10, b1, hp_bs, N_5 hC2.2.1, Option.bind_some, c1, hp_bs, N_5 hC3.2.1, Option.bind_some, d1, hp_bs, bx_not l2 l3 l4, Option.bind_some, z1, hp_bs, nI_1]
    exact y1
theorem R_dri {σ : hp_H} {d : Nat} (hd : d ≤ 8) {K : Int32 → hp_H → Option (Int32 × hp_H)} : ∀ (m i f : Nat) (R : oR) (s : Nat → Int32) (k v : Nat), i + m = d → Wf s → k ≤ 16 → v < 2 ^ 31 → R.2 0 = s → R.1 3 = nI k → R.1 1 = nI v → laidI R s → ∃ R' z, f_Mo_drift_l1 r (nI d) K (f + m + 1) (nI i) (bk_Mo σ r R) = K (nI d) (bk_Mo σ r R') ∧ DS m s (R.2 2) k v z ∧ R'.2 0 = z.1 ∧ R'.2 2 = z.2.1 ∧ R'.1 3 = nI z.2.2.1 ∧ R'.1 1 = nI z.2.2.2 ∧ laidI R' z.1 ∧ R'.2 4 = R.2 4 ∧ R'.2 5 = R.2 5 ∧ R'.2 6 = R.2 6 ∧ R'.2 7 = R.2 7 ∧ R'.1 8 = R.1 8
  | 0, i, f, R, s, k, v, e, wf, hk, hv, h0, h3, h1, hL => by
    refine ⟨R, (s, R.2 2, k, v), ?_, rfl, h0, rfl, h3, h1, hL, rfl, rfl, rfl, rfl, rfl⟩
    rw [f_Mo_drift_l1, show i = d by omega, if_pos ((nI_leI (by omega) (by omega)).mpr (Nat.le_refl _))]
  | m + 1, i, f, R, s, k, v, e, wf, hk, hv, h0, h3, h1, hL => by
    generalize q1 : drw v = e1
    generalize q2 : drw e1 = e2
    generalize q3 : drw e2 = e3
    generalize q4 : drw e3 = e4
    have l4 : e4 < 2 ^ 31 := by rw [← q4]; exact drw_lt
    obtain ⟨R1, P, e', G, V, a1, a2, a3, a4, a5⟩ := Mo_dft (σ := σ) (r := r) (f := f + m + 1) (K := K) wf hk h0 h3 hL hv h1 q1 q2 q3 q4 (show i < d by omega) hd
    have kd := ded_kps (R := R) (k := k) (s := s)
    have df := ded_f (R := R) (k := k) (s' := s)
    have hk' : pstN k ≤ 16 := by
      unfold pstN
      split <;> omega
    have b2 : R1.2 2 = pstS (R.2 2) k s := by rw [a2.2 2 (by decide), sF_2, df.1, h0]
    have b3 : R1.1 3 = nI (pstN k) := by rw [a2.1 3 (by decide), sF_ne (by decide), df.2]
    have b1 : R1.1 1 = nI e4 := by rw [a2.1 1 (by decide), sF_at]
    obtain ⟨R', z, y1, y2, y3, y4, y5, y6, y7, y8, y9, y10, y11, y12⟩ := R_dri hd (K := K) m (i + 1) f R1 (putS s e' G V) (pstN k) e4 (by omega) (putS_wf wf) hk' l4 a3 b3 b1 a4
    rw [b2] at y2
    refine ⟨R', z, a1.trans y1, ⟨e1, e2, e3, e4, P, e', G, V, q1, q2, q3, q4, a5, y2⟩, y3, y4, y5, y6, y7, ?_, ?_, ?_, ?_, ?_⟩
    · rw [y8, a2.2 4 (by decide), sF_2, kd.2 4 (by decide)]
    · rw [y9, a2.2 5 (by decide), sF_2, kd.2 5 (by decide)]
    · rw [y10, a2.2 6 (by decide), sF_2, kd.2 6 (by decide)]
    · rw [y11, a2.2 7 (by decide), sF_2, kd.2 7 (by decide)]
    · rw [y12, a2.1 8 (by decide), sF_ne (by decide), kd.1 8 (by decide)]
theorem M_drift {H : hp_H} {R : oR} {x : Int32} (h : INV H c r R) : GOOD H c r (f_NB_drift c x) (f_Mo_drift r x) := by
  obtain ⟨hr, hm, hL, hT, k, n, v, hC, r3, r8, r1⟩ := id h
  obtain ⟨wf, hN, hS, ⟨J, hJ⟩, hP, hB, hD, hI⟩ := id hC
  by_cases hx : 1 ≤ x.toInt ∧ x.toInt ≤ 8
  · obtain ⟨d, hd9, rfl⟩ : ∃ d, d < 9 ∧ x = nI d := inI_of ⟨by omega, by omega⟩ (by decide)
    obtain ⟨H1, tab, c1, c2, c3, c4, c5, c6⟩ := C_ref hC hT
    obtain ⟨f, hf⟩ := hp_fu (d + 1) (by omega)
    have hf' : f + d + 1 = hp_F := hf.symm
    obtain ⟨H2, z, y1, y2, y3, y4, y5, y6⟩ := N_dri (c := c) (show d ≤ 8 by omega) (K := fun z26 σ => (hp_gR σ c 9 0).bind fun q27 => (hp_gI σ q27 7 4).bind fun v28 => some (v28, σ)) d 0 f H1 _ _ _ _ (by omega) c4 c2 c3
    rw [hf'] at y1
    obtain ⟨R', z', w1, w2, w3, w4, w5, w6, w7, w8, w9, w10, w11, w12⟩ := R_dri (σ := H2) (r := r) (show d ≤ 8 by omega) (K := fun z18 σ => (hp_gR σ r 10 0).bind fun q19 => (hp_aI σ q19 0 4).bind fun v20 => some (v20, σ)) d 0 f R _ _ _ (by omega) wf hP.1 hD.1 rfl r3 r1 hL
    rw [hf'] at w1
    have ez := DS_uni _ _ _ _ _ _ _ w2 y2
    subst ez
    have e1 : f_NB_drift c (nI d) H = some (z'.1 4, H2) := by
      unfold f_NB_drift
      rw [N_own hN, wi_lit, Option.bind_some, tsw_y (a := 1) (b := 8) hx, N_1 hN, Option.bind_some, N_0 hN, Option.bind_some, c1, Option.bind_some]
      refine (show _ = _ from y1).trans ?_
      rw [N_0 y3.2.1, Option.bind_some, S_f y3.2.2.1 (by decide), Option.bind_some]
    have e2 : f_Mo_drift r (nI d) (bk_Mo H2 r R) = some (z'.1 4, bk_Mo H2 r R') := by
      unfold f_Mo_drift
      rw [Mo_own, in_wi, wi_lit, Option.bind_some, tsw_y (a := 1) (b := 8) hx]
      refine (show _ = _ from w1).trans ?_
      have ea : hp_aI (bk_Mo H2 r R') (r + 1) 0 4 = some (R'.2 0 4) := Mo_a0 (i := 4) (by decide)
      rw [Mo_g0, Option.bind_some, ea, Option.bind_some, w3]
    exact fin h e1 (same_tr c6 y6) e2 y3 ⟨1, tab, y4, Or.inr rfl, fun _ => y5⟩ w7 w3 w4 w5 w8 w9 (w12.trans r8) w10 w11 w6
  · refine noop (x := -1000000002) h ?_ (Mo_dri_no hx)
    unfold f_NB_drift
    rw [N_own hN, wi_lit, Option.bind_some, tsw_n (a := 1) (b := 8) hx]
end ME6
