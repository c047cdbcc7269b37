/-! ===== the class: a State changes ===== -/
theorem SR_congr {R : oR} {s s' : Nat → Int32} (h : SR R s) (h7 : nB s ≤ 7) (e : ∀ j, (j < 16 ∨ 166 ≤ j) → s' j = s j) : SR R s' := by
  have eB : nB s' = nB s := by unfold nB; rw [e 0 (by omega)]
  have eW : nW s' = nW s := by unfold nW; rw [e 2 (by omega)]
  refine ⟨fun j hj => (h.1 j hj).trans (e j (by omega)).symm, fun b hb => ?_, fun w hw => ?_⟩
  · rw [eB] at hb
    rw [h.2.1 b hb, e _ (by omega)]
  · rw [eW] at hw
    rw [wbx_eq (s := s) (s' := s') (fun t ht => e _ (by omega)), e _ (by omega)]
    exact h.2.2 w hw
theorem St_put {H : hp_H} {a : Nat} {s s' : Nat → Int32} {R' : oR} (wf : Wf s) (h : StI H a s) (hR : SR R' s') (hC : ∀ c, c < nC s' → c < nC s ∧ ∀ j, 16 + 25 * c ≤ j → j < 41 + 25 * c → s' j = s j) : StI (bk_St H a R') a s' ∧ same H (bk_St H a R') a 23 := by
  obtain ⟨R, h1, h2, h3⟩ := h
  refine ⟨⟨R', hs_bW, hR, fun c hc => ?_⟩, same_mono same_bW (Nat.le_refl _) (by omega)⟩
  obtain ⟨Rc, g1, g2⟩ := h3 c hc
  refine ⟨Rc, hs_out g1 (by omega), fun hc' => ?_⟩
  obtain ⟨k1, k2⟩ := hC c hc'
  exact CR_congr (g2 k1) (wf.2.1.2 c k1).2.2.2 k2
theorem St_putc {H : hp_H} {a c : Nat} {s s' : Nat → Int32} {Rc' : oR} (hc : c < 6) (h7 : nB s ≤ 7) (h : StI H a s) (hk : ∀ e, e < nC s → kpt s e ≤ 8) (e1 : ∀ j, (j < 16 ∨ 166 ≤ j) → s' j = s j) (e2 : ∀ e, e ≠ c → ∀ j, 16 + 25 * e ≤ j → j < 41 + 25 * e → s' j = s j) (hR : c < nC s → CR Rc' c s') : StI (bk_Client H (a + 5 + 3 * c) Rc') a s' ∧ same H (bk_Client H (a + 5 + 3 * c) Rc') a 23 := by
  obtain ⟨R, h1, h2, h3⟩ := h
  have eC : nC s' = nC s := by unfold nC; rw [e1 1 (by omega)]
  refine ⟨⟨R, hs_out h1 (by omega), SR_congr h2 h7 e1, fun e he => ?_⟩, same_mono same_bW (by omega) (by omega)⟩
  by_cases hec : e = c
  · subst hec
    exact ⟨Rc', hs_bW, fun q => hR (by rw [eC] at q; exact q)⟩
  · obtain ⟨Re, g1, g2⟩ := h3 e he
    refine ⟨Re, hs_out g1 (by omega), fun q => ?_⟩
    rw [eC] at q
    exact CR_congr (g2 q) (hk e q) (e2 e hec)
section STW
variable {H : hp_H} {a : Nat} {s : Nat → Int32}
theorem S_abr (wf : Wf s) (h : StI H a s) {b : Nat} (hb : b < nB s) (h7 : nB s ≠ 7) : ∃ H', f_State_addBroker a (nI b) H = some (nI (nB s), H') ∧ StI H' a (brkS s b) ∧ same H H' a 23 := by
  have hB7 := wf.1.1.2.2
  have hC6 := wf.2.1.1.2
  obtain ⟨R, h1, h2, h3⟩ := id h
  have r0 : R.1 0 = nI (nB s) := (h2.1 0 (by decide)).trans wf.1.1.1
  have q : f_State_addBroker a (nI b) (bk_St H a R) = some (nI (nB s), bk_St H a (sF (sA R 7 (upd (R.2 7) (nB s) (nI b))) 0 (nI (nB s + 1)))) := by
    unfold f_State_addBroker
    rw [St_own, St_g7, Option.bind_some, St_g0, Option.bind_some, r0, St_s7 (by omega), Option.bind_some, St_g0, Option.bind_some, sA_1, r0, nI_1, St_p0, Option.bind_some, St_g0, Option.bind_some, sF_at, nI_pred]
  rw [St_eq h1] at q
  obtain ⟨wf', nb'⟩ := brkS_wf wf hb h7
  have lo : ∀ j, j ≠ 0 → j ≠ 8 + nB s → brkS s b j = s j := fun j k1 k2 => by
    unfold brkS
    rw [upd_ne k1, upd_ne k2]
  have hR : SR (sF (sA R 7 (upd (R.2 7) (nB s) (nI b))) 0 (nI (nB s + 1))) (brkS s b) := by
    have eW : nW (brkS s b) = nW s := by unfold nW; rw [lo 2 (by omega) (by omega)]
    refine ⟨fun j hj => ?_, fun e he => ?_, fun w hw => ?_⟩
    · by_cases hj0 : j = 0
      · subst hj0
        rw [sF_at]
        unfold brkS
        rw [upd_at]
      · rw [sF_ne hj0, lo j hj0 (by omega)]
        exact h2.1 j hj
    · rw [sF_2, sA_at]
      rw [nb'] at he
      by_cases hn : e = nB s
      · subst hn
        rw [upd_at]
        unfold brkS
        rw [upd_ne (by omega), upd_at]
      · rw [upd_ne hn, lo _ (by omega) (by omega)]
        exact h2.2.1 e (by omega)
    · rw [eW] at hw
      rw [sF_2, sA_ne (by decide), sA_ne (by decide), wbx_eq (s := s) (fun t ht => lo _ (by omega) (by omega)), lo _ (by omega) (by omega)]
      exact h2.2.2 w hw
  obtain ⟨m1, m2⟩ := St_put wf h hR (fun c hc => ⟨by
    have eC : nC (brkS s b) = nC s := by unfold nC; rw [lo 1 (by omega) (by omega)]
    omega, fun j k1 k2 => lo j (by omega) (by omega)⟩)
  exact ⟨_, q, m1, m2⟩
theorem S_mst (wf : Wf s) (h : StI H a s) {x : Int32} : ∃ H', hp_pI H a 7 3 x = some H' ∧ StI H' a (upd s 3 x) ∧ same H H' a 23 := by
  have hB7 := wf.1.1.2.2
  have hC6 := wf.2.1.1.2
  obtain ⟨R, h1, h2, h3⟩ := id h
  have q := St_p3 (σ := H) (a := a) (R := R) (x := x)
  rw [St_eq h1] at q
  have hR : SR (sF R 3 x) (upd s 3 x) := by
    have eB : nB (upd s 3 x) = nB s := by unfold nB; rw [upd_ne (by omega)]
    have eW : nW (upd s 3 x) = nW s := by unfold nW; rw [upd_ne (by omega)]
    refine ⟨fun j hj => ?_, fun e he => ?_, fun w hw => ?_⟩
    · by_cases hj0 : j = 3
      · subst hj0
        rw [sF_at, upd_at]
      · rw [sF_ne hj0, upd_ne hj0]
        exact h2.1 j hj
    · rw [eB] at he
      rw [sF_2, upd_ne (by omega)]
      exact h2.2.1 e he
    · rw [eW] at hw
      rw [sF_2, wbx_eq (s := s) (fun t ht => upd_ne (by omega)), upd_ne (by omega)]
      exact h2.2.2 w hw
  obtain ⟨m1, m2⟩ := St_put wf h hR (fun c hc => ⟨by
    have eC : nC (upd s 3 x) = nC s := by unfold nC; rw [upd_ne (by omega)]
    omega, fun j k1 k2 => upd_ne (by omega)⟩)
  exact ⟨_, q, m1, m2⟩
theorem S_awi (wf : Wf s) (h : StI H a s) {c k1 v1 k2 v2 k3 v3 : Nat} (hc : c < nC s) (b1 : v1 < 10) (b2 : v2 < 10) (b3 : v3 < 10) (h12 : nW s ≠ 12) : ∃ H', f_State_addWish a (nI c) (nI (kbx k1 v1 k2 v2 k3 v3)) H = some (nI (nW s), H') ∧ StI H' a (wisS s c k1 v1 k2 v2 k3 v3) ∧ same H H' a 23 := by
  have hB7 := wf.1.1.2.2
  have hC6 := wf.2.1.1.2
  have hW := wf.2.2.1.1.2
  obtain ⟨wf', nw', nb'⟩ := wisS_wf wf (k1 := k1) (k2 := k2) (k3 := k3) hc b1 b2 b3 h12
  generalize kbx k1 v1 k2 v2 k3 v3 = N at nb'
  obtain ⟨R, h1, h2, h3⟩ := id h
  have r2 : R.1 2 = nI (nW s) := (h2.1 2 (by decide)).trans wf.2.2.1.1.1
  have q : f_State_addWish a (nI c) (nI N) (bk_St H a R) = some (nI (nW s), bk_St H a (sF (sA (sA R 9 (upd (R.2 9) (nW s) (nI c))) 10 (upd (R.2 10) (nW s) (nI N))) 2 (nI (nW s + 1)))) := by
    unfold f_State_addWish
    rw [St_own, St_g9, Option.bind_some, St_g2, Option.bind_some, r2, St_s9 (by omega), Option.bind_some, St_g10, Option.bind_some, St_g2, Option.bind_some, sA_1, r2, St_s10 (by omega), Option.bind_some, St_g2, Option.bind_some, sA_1, sA_1, r2, nI_1, St_p2, Option.bind_some, St_g2, Option.bind_some, sF_at, nI_pred, sA_ne (by decide)]
  rw [St_eq h1] at q
  have lo : ∀ j, j ≠ 2 → j < 170 + 7 * nW s → wisS s c k1 v1 k2 v2 k3 v3 j = s j := fun j e1 e2 => by
    unfold wisS bdS
    rw [upd_ne e1, upd_ne (by omega), upd_ne (by omega), upd_ne (by omega), upd_ne (by omega), upd_ne (by omega), upd_ne (by omega), upd_ne (by omega)]
  have at0 : wisS s c k1 v1 k2 v2 k3 v3 (170 + 7 * nW s) = nI c := by
    unfold wisS bdS
    rw [upd_ne (by omega), upd_ne (by omega), upd_ne (by omega), upd_ne (by omega), upd_ne (by omega), upd_ne (by omega), upd_ne (by omega), upd_at]
  have at2 : wisS s c k1 v1 k2 v2 k3 v3 2 = nI (nW s + 1) := by
    unfold wisS
    rw [upd_at]
  generalize wisS s c k1 v1 k2 v2 k3 v3 = s' at *
  have hR : SR (sF (sA (sA R 9 (upd (R.2 9) (nW s) (nI c))) 10 (upd (R.2 10) (nW s) (nI N))) 2 (nI (nW s + 1))) s' := by
    have eB : nB s' = nB s := by unfold nB; rw [lo 0 (by omega) (by omega)]
    refine ⟨fun j hj => ?_, fun e he => ?_, fun w hw => ?_⟩
    · by_cases hj0 : j = 2
      · subst hj0
        rw [sF_at, at2]
      · rw [sF_ne hj0, lo j hj0 (by omega)]
        exact h2.1 j hj
    · rw [eB] at he
      rw [sF_2, sA_ne (by decide), sA_ne (by decide), lo _ (by omega) (by omega)]
      exact h2.2.1 e he
    · rw [nw'] at hw
      rw [sF_2, sA_at, sA_ne (by decide), sA_at]
      by_cases hn : w = nW s
      · subst hn
        rw [upd_at, upd_at, at0, nb']
        exact ⟨rfl, rfl⟩
      · rw [upd_ne hn, upd_ne hn, wbx_eq (s := s) (fun t ht => lo _ (by omega) (by omega)), lo _ (by omega) (by omega)]
        exact h2.2.2 w (by omega)
  have eC : nC s' = nC s := by unfold nC; rw [lo 1 (by omega) (by omega)]
  obtain ⟨m1, m2⟩ := St_put wf h hR (fun e he => ⟨by omega, fun j k1 k2 => lo j (by omega) (by omega)⟩)
  exact ⟨_, q, m1, m2⟩
end STW
