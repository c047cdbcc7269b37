/-! ===== a new NoticeBoxes and a new reference ===== -/
theorem TeI_at {H H' : hp_H} {t : Nat} {fr : Int32} {tab : Nat → List Nat} (h : TeI H t fr tab) (e : ∀ x, t ≤ x → x < t + 31 → H'.1 x = H.1 x) : TeI H' t fr tab := by
  obtain ⟨⟨R, h1, h2⟩, h3⟩ := h
  refine ⟨⟨R, hs_at h1 (fun x x1 x2 => e x (by omega) (by omega)), h2⟩, fun k hk => ?_⟩
  obtain ⟨Rk, g1, g2⟩ := h3 k hk
  exact ⟨Rk, hs_at g1 (fun x x1 x2 => e x (by omega) (by omega)), g2⟩
theorem PaI_at0 {H H' : hp_H} {p : Nat} {A : Nat → Int32} (h : PaI H p A 0) (e : ∀ x, p ≤ x → x < p + 370 → H'.1 x = H.1 x) : PaI H' p A 0 := by
  obtain ⟨h0, RP, fi, h1, h2, h3, h4, h5, h6⟩ := h
  exact ⟨h0, RP, fi, hs_at h1 (fun x x1 x2 => e x (by omega) (by omega)), h2, h3, h4, fun i hi => StX_at (h5 i hi) (fun x x1 x2 => e x (by omega) (by omega)), fun i hi => by omega⟩
theorem ImO_at0 {H H' : hp_H} {q i : Nat} {I Fl : Nat → Int32} (h : ImO H q I Fl i) (hF : Fl i = 0) (e : ∀ x, q ≤ x → x < q + 24 → H'.1 x = H.1 x) : ImO H' q I Fl i := by
  obtain ⟨RI, h1, h2, h3, h4, h5⟩ := h
  exact ⟨RI, hs_at h1 (fun x x1 x2 => e x (by omega) (by omega)), h2, h3, StX_at h4 (fun x x1 x2 => e x (by omega) (by omega)), fun q => absurd hF q⟩
theorem N_ia {H : hp_H} {c : Nat} (hz : H.2 = c + 1) (ho : H.1 c = some (.inl (9, [.null, .null, .null, .null, .null, .null, .null]))) : ∃ A9, (∀ K : hp_H → Option hp_H, (hp_nw H (.inl (7, [.int 0, .int 0, .int 0, .int 0, .int 0, .int 0, .int 0, .null, .null, .null, .null])) fun q1 σ => (f_State_init q1 σ).bind fun σ => (hp_pR σ c 9 0 q1).bind fun σ => hp_nw σ (.inl (8, [.null, .null, .int 0])) fun q3 σ => (f_Tellings_init q3 σ).bind fun σ => (hp_pR σ c 9 1 q3).bind fun σ => hp_nw σ (.inl (5, [.null, .int 0, .int 0, .int 0, .int 0])) fun q5 σ => (f_Journey_init q5 σ).bind fun σ => (hp_pR σ c 9 2 q5).bind K) = K A9) ∧ A9.2 = c + 57 ∧ A9.1 c = some (.inl (9, [.ref (c + 1), .ref (c + 24), .ref (c + 55), .null, .null, .null, .null])) ∧ StI A9 (c + 1) s0 ∧ TeI A9 (c + 24) 0 (fun _ => []) ∧ hs A9 (c + 55) 2 (ce_Journey (c + 55) zR) := by
  obtain ⟨A1, a1, a2, a3, a4⟩ := nw_x hz (.inl (7, [.int 0, .int 0, .int 0, .int 0, .int 0, .int 0, .int 0, .null, .null, .null, .null]))
  obtain ⟨A2, b1, b2, b3, b4⟩ := I_St a2 a3
  obtain ⟨A3, c1, c2, c3, c4⟩ := pR_x (H := A2) (a := c) (k := 0) (((b4 _ (by omega)).trans (a4 _ (by omega))).trans ho) (by simp) (c + 1)
  obtain ⟨A4, d1, d2, d3, d4⟩ := nw_x (H := A3) (n := c + 24) (by omega) (.inl (8, [.null, .null, .int 0]))
  obtain ⟨A5, e1, e2, e3, -, e4⟩ := I_Te d2 d3
  obtain ⟨A6, f1, f2, f3, f4⟩ := pR_x (H := A5) (a := c) (k := 1) (((e4 _ (by omega)).trans (d4 _ (by omega))).trans c3) (by simp) (c + 24)
  obtain ⟨A7, g1, g2, g3, g4⟩ := nw_x (H := A6) (n := c + 55) (by omega) (.inl (5, [.null, .int 0, .int 0, .int 0, .int 0]))
  obtain ⟨A8, h1, h2, h3, h4⟩ := I_Jo g2 g3
  obtain ⟨A9, i1, i2, i3, i4⟩ := pR_x (H := A8) (a := c) (k := 2) (((h4 _ (by omega)).trans (g4 _ (by omega))).trans f3) (by simp) (c + 55)
  refine ⟨A9, fun K => ?_, by omega, i3, StI_at b3 (fun x x1 x2 => ?_), TeI_at e3 (fun x x1 x2 => ?_), hs_at h3 (fun x x1 x2 => i4 _ (by omega))⟩
  · rw [nw_e, hz, a1, b1, Option.bind_some, c1, Option.bind_some, nw_e, show A3.2 = c + 24 by omega, d1, e1, Option.bind_some, f1, Option.bind_some, nw_e, show A6.2 = c + 55 by omega, g1, h1, Option.bind_some, i1, Option.bind_some]
  · rw [i4 _ (by omega), h4 _ (by omega), g4 _ (by omega), f4 _ (by omega), e4 _ (by omega), d4 _ (by omega), c4 _ (by omega)]
  · rw [i4 _ (by omega), h4 _ (by omega), g4 _ (by omega), f4 _ (by omega)]
theorem N_ib {A9 : hp_H} {c : Nat} (hz : A9.2 = c + 57) (ho : A9.1 c = some (.inl (9, [.ref (c + 1), .ref (c + 24), .ref (c + 55), .null, .null, .null, .null]))) : ∃ B8, (∀ K : hp_H → Option hp_H, (hp_nw A9 (.inl (6, [.null, .int 0, .int 0])) fun q7 σ => (f_Past_init q7 σ).bind fun σ => (hp_pR σ c 9 3 q7).bind fun σ => hp_nw σ (.inl (0, [.null, .null, .int 0])) fun q9 σ => (f_Book_init q9 σ).bind fun σ => (hp_pR σ c 9 4 q9).bind fun σ => hp_nw σ (.inl (3, [.int 0])) fun q11 σ => (f_Draws_init q11 σ).bind fun σ => (hp_pR σ c 9 5 q11).bind K) = K B8) ∧ B8.2 = c + 431 ∧ B8.1 c = some (.inl (9, [.ref (c + 1), .ref (c + 24), .ref (c + 55), .ref (c + 57), .ref (c + 427), .ref (c + 430), .null])) ∧ PaI B8 (c + 57) (fun _ => 0) 0 ∧ hs B8 (c + 427) 3 (ce_Book (c + 427) zR) ∧ hs B8 (c + 430) 1 (ce_Draws (c + 430) zR) ∧ ∀ x, c < x → x < c + 57 → B8.1 x = A9.1 x := by
  obtain ⟨B1, j1, j2, j3, j4⟩ := nw_x hz (.inl (6, [.null, .int 0, .int 0]))
  obtain ⟨B2, k1, k2, k3, k4⟩ := I_Pa (A := fun _ => 0) j2 j3
  obtain ⟨B3, l1, l2, l3, l4⟩ := pR_x (H := B2) (a := c) (k := 3) (((k4 _ (by omega)).trans (j4 _ (by omega))).trans ho) (by simp) (c + 57)
  obtain ⟨B4, m1, m2, m3, m4⟩ := nw_x (H := B3) (n := c + 427) (by omega) (.inl (0, [.null, .null, .int 0]))
  obtain ⟨B5, n1, n2, n3, n4⟩ := I_Bk m2 m3
  obtain ⟨B6, o1, o2, o3, o4⟩ := pR_x (H := B5) (a := c) (k := 4) (((n4 _ (by omega)).trans (m4 _ (by omega))).trans l3) (by simp) (c + 427)
  obtain ⟨B7, p1, p2, p3, p4⟩ := nw_x (H := B6) (n := c + 430) (by omega) (.inl (3, [.int 0]))
  obtain ⟨B8, q1, q2, q3, q4⟩ := pR_x (H := B7) (a := c) (k := 5) ((p4 _ (by omega)).trans o3) (by simp) (c + 430)
  refine ⟨B8, fun K => ?_, by omega, q3, PaI_at0 k3 (fun x x1 x2 => ?_), hs_at n3 (fun x x1 x2 => ?_), fun k hk => ?_, fun x x1 x2 => ?_⟩
  · unfold f_Draws_init
    rw [nw_e, hz, j1, k1, Option.bind_some, l1, Option.bind_some, nw_e, show B3.2 = c + 427 by omega, m1, n1, Option.bind_some, o1, Option.bind_some, nw_e, show B6.2 = c + 430 by omega, p1, ob_own p3, Option.bind_some, q1, Option.bind_some]
  · rw [q4 _ (by omega), p4 _ (by omega), o4 _ (by omega), n4 _ (by omega), m4 _ (by omega), l4 _ (by omega)]
  · rw [q4 _ (by omega), p4 _ (by omega), o4 _ (by omega)]
  · match k, hk with
    | 0, _ =>
      show B8.1 (c + 430) = _
      rw [q4 _ (by omega)]
      exact p3
  · rw [q4 _ (by omega), p4 _ (by omega), o4 _ (by omega), n4 _ (by omega), m4 _ (by omega), l4 _ (by omega), k4 _ (by omega), j4 _ (by omega)]
theorem N_ic {B8 : hp_H} {c : Nat} (hz : B8.2 = c + 431) (ho : B8.1 c = some (.inl (9, [.ref (c + 1), .ref (c + 24), .ref (c + 55), .ref (c + 57), .ref (c + 427), .ref (c + 430), .null]))) : ∃ C7, (hp_nw B8 (.inr (.inr (4, 2, fun _ => none))) fun q13 σ => (hp_pR σ c 9 6 q13).bind fun σ => (hp_gR σ c 9 6).bind fun q14 => hp_nw σ (.inl (4, [.null, .int 0, .int 0])) fun q15 σ => (f_Image_init q15 σ).bind fun σ => (hp_sR σ q14 4 4 0 q15).bind fun σ => (hp_gR σ c 9 6).bind fun q17 => hp_nw σ (.inl (4, [.null, .int 0, .int 0])) fun q18 σ => (f_Image_init q18 σ).bind fun σ => (hp_sR σ q17 4 4 1 q18).bind fun σ => some σ) = some C7 ∧ C7.2 = c + 480 ∧ NBo C7 c ∧ ImI C7 (c + 432) (fun _ => 0) (fun _ => 0) ∧ ∀ x, c < x → x < c + 431 → C7.1 x = B8.1 x := by
  obtain ⟨B9, r1, r2, r3, r4⟩ := nw_x hz (.inr (.inr (4, 2, fun _ => none)))
  obtain ⟨C1, s1, s2, s3, s4⟩ := pR_x (H := B9) (a := c) (k := 6) ((r4 _ (by omega)).trans ho) (by simp) (c + 431)
  obtain ⟨C2, t1, t2, t3, t4⟩ := nw_x (H := C1) (n := c + 432) (by omega) (.inl (4, [.null, .int 0, .int 0]))
  obtain ⟨C3, u1, u2, u3, ⟨fs3, u5⟩, u4⟩ := I_Im (I := fun _ => 0) (Fl := fun _ => 0) (i := 0) t2 t3 rfl
  obtain ⟨C4, v1, v2, v3, v4⟩ := sR_x (H := C3) (a := c + 431) (i := 0) (y := 0) (q := c + 432) (((u4 _ (by omega)).trans ((t4 _ (by omega)).trans (s4 _ (by omega)))).trans r3) (by decide) (by decide) u5 rfl
  have v5 : C4.1 c = _ := ((v4 _ (by omega)).trans ((u4 _ (by omega)).trans (t4 _ (by omega)))).trans s3
  obtain ⟨C5, w1, w2, w3, w4⟩ := nw_x (H := C4) (n := c + 456) (by omega) (.inl (4, [.null, .int 0, .int 0]))
  obtain ⟨C6, x1, x2, x3, ⟨fs6, x5⟩, x4⟩ := I_Im (I := fun _ => 0) (Fl := fun _ => 0) (i := 1) w2 w3 rfl
  obtain ⟨C7, y1, y2, y3, y4⟩ := sR_x (H := C6) (a := c + 431) (i := 1) (y := 1) (q := c + 456) (((x4 _ (by omega)).trans (w4 _ (by omega))).trans v3) (by decide) (by decide) x5 rfl
  have F6 : ∀ x, x < c + 456 → x ≠ c + 431 → C7.1 x = C4.1 x := fun x h1 h2 => by rw [y4 _ h2, x4 _ h1, w4 _ (by omega)]
  refine ⟨C7, ?_, by omega, ⟨fun k hk => ?_, fun k hk => ?_⟩, fun i hi => ?_, fun x h1 h2 => ?_⟩
  · rw [nw_e, hz, r1, s1, Option.bind_some, ob_gR s3 (q := c + 431) rfl, Option.bind_some, nw_e, show C1.2 = c + 432 by omega, t1, u1, Option.bind_some, v1, Option.bind_some, ob_gR v5 (q := c + 431) rfl, Option.bind_some, nw_e, show C4.2 = c + 456 by omega, w1, x1, Option.bind_some, y1, Option.bind_some]
  · match k, hk with
    | 0, _ =>
      show C7.1 c = _
      rw [F6 _ (by omega) (by omega)]
      exact v5
  · match k, hk with
    | 0, _ =>
      show C7.1 (c + 431) = _
      rw [y3]
      refine congrArg (fun u => some (Sum.inr (Sum.inr (4, 2, u)))) ?_
      funext j
      unfold va_up
      by_cases j1 : j = 1
      · rw [if_pos j1, if_pos (by omega), j1]
      · rw [if_neg j1]
        show (if j = 0 then some (c + 432) else none) = _
        by_cases j0 : j = 0
        · rw [if_pos j0, if_pos (by omega), j0]
        · rw [if_neg j0, if_neg (by omega)]
  · match i, hi with
    | 0, _ => exact ImO_at0 u3 rfl (fun x h1 h2 => by rw [F6 x (by omega) (by omega), v4 _ (by omega)])
    | 1, _ => exact ImO_at0 x3 rfl (fun x h1 h2 => y4 _ (by omega))
  · rw [F6 x (by omega) (by omega), v4 _ (by omega), u4 _ (by omega), t4 _ (by omega), s4 _ (by omega), r4 _ (by omega)]
theorem I_NB {H : hp_H} {c : Nat} (hz : H.2 = c + 1) (ho : H.1 c = some (.inl (9, [.null, .null, .null, .null, .null, .null, .null]))) : ∃ H', f_NB_init c H = some H' ∧ H'.2 = c + 480 ∧ CB H' c s0 (fun _ => 0) 0 (fun _ => 0) (fun _ => 0) 0 (fun _ => 0) (fun _ => 0) 0 ∧ TeI H' (c + 24) 0 (fun _ => []) := by
  obtain ⟨A9, a1, a2, a3, a4, a5, a6⟩ := N_ia hz ho
  obtain ⟨B8, b1, b2, b3, b4, b5, b6, b7⟩ := N_ib a2 a3
  obtain ⟨C7, c1, c2, c3, c4, c5⟩ := N_ic b2 b3
  have F : ∀ x, c < x → x < c + 57 → C7.1 x = A9.1 x := fun x h1 h2 => by rw [c5 x h1 (by omega), b7 x h1 h2]
  refine ⟨C7, ?_, c2, ⟨s0_wf, c3, StI_at a4 (fun x h1 h2 => F x (by omega) (by omega)), ⟨zR, hs_at a6 (fun x h1 h2 => F x (by omega) (by omega))⟩, PaI_at0 b4 (fun x h1 h2 => c5 x (by omega) (by omega)), ⟨by decide, zR, hs_at b5 (fun x h1 h2 => c5 x (by omega) (by omega)), rfl, fun i hi => by omega⟩, ⟨by decide, zR, hs_at b6 (fun x h1 h2 => c5 x (by omega) (by omega)), rfl⟩, c4⟩, TeI_at a5 (fun x h1 h2 => F x (by omega) (by omega))⟩
  unfold f_NB_init
  rw [ob_own ho]
  refine (a1 _).trans ?_
  refine (b1 _).trans ?_
  exact c1
