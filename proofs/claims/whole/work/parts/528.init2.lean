/-! ===== constructors: Tellings, Past, Image ===== -/
theorem StI_at {H H' : hp_H} {a : Nat} {s : Nat → Int32} (h : StI H a s) (e : ∀ x, a ≤ x → x < a + 23 → H'.1 x = H.1 x) : StI H' a s := by
  obtain ⟨R, h1, h2, h3⟩ := h
  refine ⟨R, hs_at h1 (fun x x1 x2 => e x (by omega) (by omega)), h2, fun c hc => ?_⟩
  obtain ⟨Rc, g1, g2⟩ := h3 c hc
  exact ⟨Rc, hs_at g1 (fun x x1 x2 => e x (by omega) (by omega)), g2⟩
theorem StX_at {H H' : hp_H} {a : Nat} (h : StX H a) (e : ∀ x, a ≤ x → x < a + 23 → H'.1 x = H.1 x) : StX H' a := by
  obtain ⟨R, h1, h3⟩ := h
  refine ⟨R, hs_at h1 (fun x x1 x2 => e x (by omega) (by omega)), fun c hc => ?_⟩
  obtain ⟨Rc, g1⟩ := h3 c hc
  exact ⟨Rc, hs_at g1 (fun x x1 x2 => e x (by omega) (by omega))⟩
theorem StI_ob {H : hp_H} {a : Nat} {s : Nat → Int32} (h : StI H a s) : ∃ fs, H.1 a = some (.inl (7, fs)) := by
  obtain ⟨R, h1, -⟩ := h
  exact ⟨_, h1 0 (by decide)⟩
def TIn (a i : Nat) (H : hp_H) : Prop := H.2 = a + 3 + 4 * i ∧ H.1 a = some (ce_Te a zR 0) ∧ H.1 (a + 1) = some (.inr (.inr (2, 7, fun j => if j < i then some (a + 3 + 4 * j) else none))) ∧ H.1 (a + 2) = some (.inr (.inr (2, 7, fun j => if j < i then some (a + 5 + 4 * j) else none))) ∧ ∀ k, k < 2 * i → hs H (a + 3 + 2 * k) 2 (ce_BoxList (a + 3 + 2 * k) zR)
theorem I_Tc {a i : Nat} {H : hp_H} (h : TIn a i H) (hi : i < 7) {y : Int32} (hy : y = nI i) : ∃ H', (∀ K : hp_H → Option hp_H, ((hp_gR H a 8 0).bind fun q3 => hp_nw H (.inl (1, [.null, .int 0])) fun q4 σ => (f_BoxList_init q4 σ).bind fun σ => (hp_sR σ q3 2 1 y q4).bind fun σ => (hp_gR σ a 8 1).bind fun q6 => hp_nw σ (.inl (1, [.null, .int 0])) fun q7 σ => (f_BoxList_init q7 σ).bind fun σ => (hp_sR σ q6 2 1 y q7).bind K) = K H') ∧ TIn a (i + 1) H' ∧ ∀ x, x < a → H'.1 x = H.1 x := by
  obtain ⟨g1, g2, g3, g4, g5⟩ := h
  obtain ⟨H1, e1, z1, c1, f1⟩ := nw_x g1 (.inl (1, [.null, .int 0]))
  obtain ⟨H2, e2, z2, c2, f2⟩ := I_BL z1 c1
  obtain ⟨H3, e3, z3, c3, f3⟩ := sR_x (H := H2) (a := a + 1) (i := i) (q := a + 3 + 4 * i) (((f2 _ (by omega)).trans (f1 _ (by omega))).trans g3) hi (by decide) (c2 0 (by decide)) hy
  have o3 : H3.1 a = some (ce_Te a zR 0) := by rw [f3 _ (by omega), f2 _ (by omega), f1 _ (by omega)]; exact g2
  obtain ⟨H4, e4, z4, c4, f4⟩ := nw_x (H := H3) (n := a + 5 + 4 * i) (by omega) (.inl (1, [.null, .int 0]))
  obtain ⟨H5, e5, z5, c5, f5⟩ := I_BL z4 c4
  obtain ⟨H6, e6, z6, c6, f6⟩ := sR_x (H := H5) (a := a + 2) (i := i) (q := a + 5 + 4 * i) (((f5 _ (by omega)).trans ((f4 _ (by omega)).trans ((f3 _ (by omega)).trans ((f2 _ (by omega)).trans (f1 _ (by omega)))))).trans g4) hi (by decide) (c5 0 (by decide)) hy
  refine ⟨H6, fun K => ?_, ⟨by omega, ?_, ?_, ?_, fun k hk => ?_⟩, fun x hx => ?_⟩
  · rw [ob_gR g2 (show ([_, _, _] : List Value)[0]? = some (.ref (a + 1)) from rfl), Option.bind_some, nw_e, g1, e1, e2, Option.bind_some, e3, Option.bind_some, ob_gR o3 (show ([_, _, _] : List Value)[1]? = some (.ref (a + 2)) from rfl), Option.bind_some, nw_e, show H3.2 = a + 5 + 4 * i by omega, e4, e5, Option.bind_some, e6, Option.bind_some]
  · rw [f6 _ (by omega), f5 _ (by omega), f4 _ (by omega)]; exact o3
  · rw [f6 _ (by omega), f5 _ (by omega), f4 _ (by omega), c3, up_lt (f := fun j => a + 3 + 4 * j)]
  · rw [c6, up_lt (f := fun j => a + 5 + 4 * j)]
  · by_cases k0 : k = 2 * i
    · have e : a + 3 + 2 * k = a + 3 + 4 * i := by omega
      rw [e]
      exact hs_at c2 (fun x x1 x2 => by rw [f6 _ (by omega), f5 _ (by omega), f4 _ (by omega), f3 _ (by omega)])
    · by_cases k1 : k = 2 * i + 1
      · have e : a + 3 + 2 * k = a + 5 + 4 * i := by omega
        rw [e]
        exact hs_at c5 (fun x x1 x2 => by rw [f6 _ (by omega)])
      · exact hs_at (g5 k (by omega)) (fun x x1 x2 => by rw [f6 _ (by omega), f5 _ (by omega), f4 _ (by omega), f3 _ (by omega), f2 _ (by omega), f1 _ (by omega)])
  · rw [f6 _ (by omega), f5 _ (by omega), f4 _ (by omega), f3 _ (by omega), f2 _ (by omega), f1 _ (by omega)]
theorem I_Te {H : hp_H} {a : Nat} (hz : H.2 = a + 1) (ho : H.1 a = some (.inl (8, [.null, .null, .int 0]))) : ∃ H', f_Tellings_init a H = some H' ∧ H'.2 = a + 31 ∧ TeI H' a 0 (fun _ => []) ∧ (∃ fs, H'.1 a = some (.inl (8, fs))) ∧ ∀ x, x < a → H'.1 x = H.1 x := by
  obtain ⟨H1, e1, z1, c1, f1⟩ := nw_x hz (.inr (.inr (2, 7, fun _ => none)))
  obtain ⟨H2, e2, z2, c2, f2⟩ := pR_x (H := H1) (a := a) (k := 0) ((f1 a (by omega)).trans ho) (by simp) (a + 1)
  obtain ⟨H3, e3, z3, c3, f3⟩ := nw_x (H := H2) (n := a + 2) (by omega) (.inr (.inr (2, 7, fun _ => none)))
  obtain ⟨H4, e4, z4, c4, f4⟩ := pR_x (H := H3) (a := a) (k := 1) ((f3 a (by omega)).trans c2) (by simp) (a + 2)
  have hI : TIn a 0 H4 := by
    refine ⟨by omega, c4, ?_, ?_, fun c hc => by omega⟩
    · rw [f4 _ (by omega), f3 _ (by omega), f2 _ (by omega), c1]
      refine congrArg (fun u => some (Sum.inr (Sum.inr (2, 7, u)))) ?_
      funext j
      rw [if_neg (by omega)]
    · rw [f4 _ (by omega), c3]
      refine congrArg (fun u => some (Sum.inr (Sum.inr (2, 7, u)))) ?_
      funext j
      rw [if_neg (by omega)]
  have fr : ∀ x, x < a → H4.1 x = H.1 x := fun x hx => by
    rw [f4 _ (by omega), f3 _ (by omega), f2 _ (by omega), f1 _ (by omega)]
  obtain ⟨B0, t0, u0, w0⟩ := I_Tc hI (by decide) (y := 0) rfl
  obtain ⟨B1, t1, u1, w1⟩ := I_Tc u0 (by decide) (y := 1) rfl
  obtain ⟨B2, t2, u2, w2⟩ := I_Tc u1 (by decide) (y := 2) rfl
  obtain ⟨B3, t3, u3, w3⟩ := I_Tc u2 (by decide) (y := 3) rfl
  obtain ⟨B4, t4, u4, w4⟩ := I_Tc u3 (by decide) (y := 4) rfl
  obtain ⟨B5, t5, u5, w5⟩ := I_Tc u4 (by decide) (y := 5) rfl
  obtain ⟨B6, t6, u6, w6⟩ := I_Tc u5 (by decide) (y := 6) rfl
  obtain ⟨v1, v2, v3, v4, v5⟩ := u6
  refine ⟨B6, ?_, by omega, ⟨⟨zR, fun k hk => ?_, rfl⟩, fun k hk => ⟨zR, v5 k (by omega), rfl, fun i hi => by simp at hi, Nat.zero_le _, VB_nil⟩⟩, ⟨_, v2⟩, fun x hx => ?_⟩
  · unfold f_Tellings_init
    rw [ob_own ho, nw_e, hz, e1, e2, Option.bind_some, nw_e, show H2.2 = a + 2 by omega, e3, e4, Option.bind_some, t0, t1, t2, t3, t4, t5, t6]
  · match k, hk with
    | 0, _ => exact v2
    | 1, _ => exact v3
    | 2, _ => exact v4
  · rw [w6 x hx, w5 x hx, w4 x hx, w3 x hx, w2 x hx, w1 x hx, w0 x hx, fr x hx]
def PIn (a i : Nat) (H : hp_H) : Prop := H.2 = a + 2 + 23 * i ∧ H.1 a = some (ce_Pa a zR 0) ∧ H.1 (a + 1) = some (.inr (.inr (5, 16, fun j => if j < i then some (a + 2 + 23 * j) else none))) ∧ ∀ k, k < i → StX H (a + 2 + 23 * k)
theorem I_Pc {a i : Nat} {H : hp_H} (h : PIn a i H) (hi : i < 16) {y : Int32} (hy : y = nI i) : ∃ H', (∀ K : hp_H → Option hp_H, ((hp_gR H a 6 0).bind fun q2 => hp_nw H (.inl (7, [.int 0, .int 0, .int 0, .int 0, .int 0, .int 0, .int 0, .null, .null, .null, .null])) fun q3 σ => (f_State_init q3 σ).bind fun σ => (hp_sR σ q2 5 7 y q3).bind K) = K H') ∧ PIn a (i + 1) H' ∧ ∀ x, x < a → H'.1 x = H.1 x := by
  obtain ⟨g1, g2, g3, g4⟩ := h
  obtain ⟨H1, e1, z1, c1, f1⟩ := nw_x g1 (.inl (7, [.int 0, .int 0, .int 0, .int 0, .int 0, .int 0, .int 0, .null, .null, .null, .null]))
  obtain ⟨H2, e2, z2, c2, f2⟩ := I_St z1 c1
  obtain ⟨fs, ob⟩ := StI_ob c2
  obtain ⟨H3, e3, z3, c3, f3⟩ := sR_x (H := H2) (a := a + 1) (i := i) (q := a + 2 + 23 * i) (((f2 _ (by omega)).trans (f1 _ (by omega))).trans g3) hi (by decide) ob hy
  refine ⟨H3, fun K => ?_, ⟨by omega, ?_, ?_, fun k hk => ?_⟩, fun x hx => ?_⟩
  · rw [ob_gR g2 (show ([_, _, _] : List Value)[0]? = some (.ref (a + 1)) from rfl), Option.bind_some, nw_e, g1, e1, e2, Option.bind_some, e3, Option.bind_some]
  · rw [f3 _ (by omega), f2 _ (by omega), f1 _ (by omega)]; exact g2
  · rw [c3, up_lt (f := fun j => a + 2 + 23 * j)]
  · by_cases k0 : k = i
    · subst k0
      exact StX_at (StI_X c2) (fun x x1 x2 => f3 _ (by omega))
    · exact StX_at (g4 k (by omega)) (fun x x1 x2 => by rw [f3 _ (by omega), f2 _ (by omega), f1 _ (by omega)])
  · rw [f3 _ (by omega), f2 _ (by omega), f1 _ (by omega)]
set_option maxRecDepth 4000 in
theorem I_Pa {H : hp_H} {a : Nat} {A : Nat → Int32} (hz : H.2 = a + 1) (ho : H.1 a = some (.inl (6, [.null, .int 0, .int 0]))) : ∃ H', f_Past_init a H = some H' ∧ H'.2 = a + 370 ∧ PaI H' a A 0 ∧ ∀ x, x < a → H'.1 x = H.1 x := by
  obtain ⟨H1, e1, z1, c1, f1⟩ := nw_x hz (.inr (.inr (5, 16, fun _ => none)))
  obtain ⟨H2, e2, z2, c2, f2⟩ := pR_x (H := H1) (a := a) (k := 0) ((f1 a (by omega)).trans ho) (by simp) (a + 1)
  have hI : PIn a 0 H2 := by
    refine ⟨by omega, c2, ?_, fun c hc => by omega⟩
    rw [f2 _ (by omega), c1]
    refine congrArg (fun u => some (Sum.inr (Sum.inr (5, 16, u)))) ?_
    funext j
    rw [if_neg (by omega)]
  have fr : ∀ x, x < a → H2.1 x = H.1 x := fun x hx => by
    rw [f2 _ (by omega), f1 _ (by omega)]
  obtain ⟨B0, t0, u0, w0⟩ := I_Pc hI (by decide) (y := 0) rfl
  obtain ⟨B1, t1, u1, w1⟩ := I_Pc u0 (by decide) (y := 1) rfl
  obtain ⟨B2, t2, u2, w2⟩ := I_Pc u1 (by decide) (y := 2) rfl
  obtain ⟨B3, t3, u3, w3⟩ := I_Pc u2 (by decide) (y := 3) rfl
  obtain ⟨B4, t4, u4, w4⟩ := I_Pc u3 (by decide) (y := 4) rfl
  obtain ⟨B5, t5, u5, w5⟩ := I_Pc u4 (by decide) (y := 5) rfl
  obtain ⟨B6, t6, u6, w6⟩ := I_Pc u5 (by decide) (y := 6) rfl
  obtain ⟨B7, t7, u7, w7⟩ := I_Pc u6 (by decide) (y := 7) rfl
  obtain ⟨B8, t8, u8, w8⟩ := I_Pc u7 (by decide) (y := 8) rfl
  obtain ⟨B9, t9, u9, w9⟩ := I_Pc u8 (by decide) (y := 9) rfl
  obtain ⟨B10, t10, u10, w10⟩ := I_Pc u9 (by decide) (y := 10) rfl
  obtain ⟨B11, t11, u11, w11⟩ := I_Pc u10 (by decide) (y := 11) rfl
  obtain ⟨B12, t12, u12, w12⟩ := I_Pc u11 (by decide) (y := 12) rfl
  obtain ⟨B13, t13, u13, w13⟩ := I_Pc u12 (by decide) (y := 13) rfl
  obtain ⟨B14, t14, u14, w14⟩ := I_Pc u13 (by decide) (y := 14) rfl
  obtain ⟨B15, t15, u15, w15⟩ := I_Pc u14 (by decide) (y := 15) rfl
  obtain ⟨v1, v2, v3, v4⟩ := u15
  refine ⟨B15, ?_, by omega, ⟨Nat.zero_le _, zR, 0, fun k hk => ?_, by decide, rfl, rfl, v4, fun i hi => by omega⟩, fun x hx => ?_⟩
  · unfold f_Past_init
    rw [ob_own ho, nw_e, hz, e1, e2, Option.bind_some, t0, t1, t2, t3, t4, t5, t6, t7, t8, t9, t10, t11, t12, t13, t14, t15]
  · match k, hk with
    | 0, _ => exact v2
    | 1, _ => exact v3
  · rw [w15 x hx, w14 x hx, w13 x hx, w12 x hx, w11 x hx, w10 x hx, w9 x hx, w8 x hx, w7 x hx, w6 x hx, w5 x hx, w4 x hx, w3 x hx, w2 x hx, w1 x hx, w0 x hx, fr x hx]
theorem I_Im {H : hp_H} {a : Nat} {I Fl : Nat → Int32} {i : Nat} (hz : H.2 = a + 1) (ho : H.1 a = some (.inl (4, [.null, .int 0, .int 0]))) (hF : Fl i = 0) : ∃ H', f_Image_init a H = some H' ∧ H'.2 = a + 24 ∧ ImO H' a I Fl i ∧ (∃ fs, H'.1 a = some (.inl (4, fs))) ∧ ∀ x, x < a → H'.1 x = H.1 x := by
  obtain ⟨H1, e1, z1, c1, f1⟩ := nw_x hz (.inl (7, [.int 0, .int 0, .int 0, .int 0, .int 0, .int 0, .int 0, .null, .null, .null, .null]))
  obtain ⟨H2, e2, z2, c2, f2⟩ := I_St z1 c1
  obtain ⟨H3, e3, z3, c3, f3⟩ := pR_x (H := H2) (a := a) (k := 0) (((f2 _ (by omega)).trans (f1 a (by omega))).trans ho) (by simp) (a + 1)
  refine ⟨H3, ?_, by omega, ⟨zR, fun k hk => ?_, by rw [hF]; rfl, Or.inl hF, StX_at (StI_X c2) (fun x x1 x2 => f3 _ (by omega)), fun q => absurd hF q⟩, ⟨_, c3⟩, fun x hx => ?_⟩
  · unfold f_Image_init
    rw [ob_own ho, nw_e, hz, e1, e2, Option.bind_some, e3, Option.bind_some]
  · match k, hk with
    | 0, _ => exact c3
  · rw [f3 _ (by omega), f2 _ (by omega), f1 _ (by omega)]
