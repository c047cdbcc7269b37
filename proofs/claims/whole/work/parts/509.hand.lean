/-! ===== the class: a notice is handed over ===== -/
theorem Journey_eq {σ : hp_H} {a : Nat} {R : oR} (h : hs σ a 2 (ce_Journey a R)) : bk_Journey σ a R = σ := hs_eq h
section HND
variable {a j : Nat}
theorem J_f {H : hp_H} {J : oR} (h : hs H j 2 (ce_Journey j J)) {k : Nat} (h1 : 1 ≤ k) (hk : k < 5) : hp_gI H j 5 k = some (J.1 k) := by
  have : hp_gI (bk_Journey H j J) j 5 k = some (J.1 k) := by
    match k, h1, hk with
    | 1, _, _ => exact Journey_g1
    | 2, _, _ => exact Journey_g2
    | 3, _, _ => exact Journey_g3
    | 4, _, _ => exact Journey_g4
  rw [Journey_eq h] at this
  exact this
theorem S_ha1 {s : Nat → Int32} (wf : Wf s) {J : oR} {G : Nat} (hG : G < 2 ^ 7) (hJ : J.1 2 = nI G) (hd : a + 23 ≤ j ∨ j + 2 ≤ a) {K : Int32 → hp_H → Option hp_H} : ∀ (m k f : Nat) (H : hp_H) (s' : Nat → Int32), k + m = nC s → StI H a s' → hs H j 2 (ce_Journey j J) → (∀ i, i < 16 ∨ 16 + 25 * k ≤ i → s' i = s i) → (∀ c, c < nC s → kOK s' c) → ∃ H', f_State_hand_l1 a j K (f + m + 1) (nI k) H = K (nI (nC s)) H' ∧ StI H' a (ptF G (s 4) m k s') ∧ same H H' a 23
  | 0, k, f, H, s', e, h, hj, e1, e2 => by
    have hC6 := wf.2.1.1.2
    refine ⟨H, ?_, h, same_rf⟩
    rw [f_State_hand_l1, S_f h (by decide), Option.bind_some, e1 1 (by omega), wf.2.1.1.1, show k = nC s by omega, if_pos ((nI_leI (by omega) (by omega)).mpr (Nat.le_refl _))]
  | m + 1, k, f, H, s', e, h, hj, e1, e2 => by
    have hC6 := wf.2.1.1.2
    have hB7 := wf.1.1.2.2
    have eC : nC s' = nC s := by unfold nC; rw [e1 1 (by omega)]
    have eB : nB s' = nB s := by unfold nB; rw [e1 0 (by omega)]
    obtain ⟨-, wp, wk⟩ := wf.2.1.2 k (by omega)
    have ek : kpt s' k = kpt s k := by
      unfold kpt
      rw [e1 _ (by omega)]
    rw [f_State_hand_l1, S_f h (by decide), Option.bind_some, e1 1 (by omega), wf.2.1.1.1, if_neg (fun q => by have := (nI_leI (by omega) (by omega)).mp q; omega), J_f hj (by decide) (by decide), Option.bind_some, hJ, hld_v (by omega) (by omega), Option.bind_some, nI_1, ptF]
    have hk8 : ∀ c, c < nC s' → kpt s' c ≤ 8 := fun c hc => (kOK_kpt (e2 c (by omega))).2
    have nx : ∀ c, c < nC s → kOK (stS G (s 4) k s') c := fun c hc => by
      by_cases hck : c = k
      · subst hck
        exact stS_k (e2 c hc)
      · obtain ⟨n, n1, n2⟩ := e2 c hc
        have q := kOK_kpt (e2 k (by omega))
        exact ⟨n, n1, by rw [stS_out q.2 q.1 (by omega)]; exact n2⟩
    have no : ∀ i, i < 16 ∨ 16 + 25 * (k + 1) ≤ i → stS G (s 4) k s' i = s i := fun i hi => by
      have q := kOK_kpt (e2 k (by omega))
      rw [stS_out q.2 q.1 (by omega)]
      exact e1 i (by omega)
    cases hb : G.testBit k with
    | false =>
      rw [if_pos (show b01 false = 0 from rfl)]
      have es : stS G (s 4) k s' = s' := by
        unfold stS
        rw [hb, if_neg (by decide)]
      rw [es] at nx no ⊢
      exact S_ha1 wf hG hJ hd m (k + 1) f H s' (by omega) h hj no nx
    | true =>
      rw [if_neg (show ¬ b01 true = 0 from by decide), S_r8 h, Option.bind_some, S_cr h (by omega), Option.bind_some, S_f h (by decide), Option.bind_some, e1 4 (by omega)]
      obtain ⟨R, h1, h2, h3⟩ := id h
      obtain ⟨Rc, g1, g2⟩ := h3 k (by omega)
      obtain ⟨R', q, q2⟩ := Cl_rec (σ := H) (a := a + 5 + 3 * k) (n := s 4) (g2 (by omega)) (by rw [e1 _ (by omega)]; exact wp) (by rw [ek, e1 _ (by omega)]; exact wk)
      rw [Client_eq g1] at q
      have es : stS G (s 4) k s' = if s' (17 + 25 * k) = 1 then lgS k (s 4) s' else wtS k (s 4) s' := by
        unfold stS
        rw [hb, if_pos rfl]
      rw [← es] at q2
      have so : ∀ i, (i < 18 + 25 * k ∨ 41 + 25 * k ≤ i) → stS G (s 4) k s' i = s' i := fun i hi => by
        have q := kOK_kpt (e2 k (by omega))
        exact stS_out q.2 q.1 hi
      obtain ⟨m1, m2⟩ := St_putc (c := k) (Rc' := R') (s' := stS G (s 4) k s') (by omega) (by omega) h hk8 (fun i hi => so i (by omega)) (fun c hc i k1 k2 => so i (by omega)) (fun _ => q2)
      obtain ⟨H', i1, i2, i3⟩ := S_ha1 wf hG hJ hd (K := K) m (k + 1) f _ _ (by omega) m1 (hs_same hj m2 (by omega)) no nx
      exact ⟨H', by rw [q, Option.bind_some]; exact i1, i2, same_tr m2 i3⟩
theorem S_han {H : hp_H} {s : Nat → Int32} (wf : Wf s) {J : oR} {G V c : Nat} (hG : G < 2 ^ 7) (hV : V < 2 ^ 7) (hJ : J.1 2 = nI G) (hJ3 : J.1 3 = nI V) (hJ4 : J.1 4 = nI c) (hd : a + 23 ≤ j ∨ j + 2 ≤ a) (h : StI H a s) (hj : hs H j 2 (ce_Journey j J)) : ∃ H', f_State_hand a j H = some H' ∧ StI H' a (putS s c G V) ∧ same H H' a 23 := by
  have hC6 := wf.2.1.1.2
  have hB7 := wf.1.1.2.2
  obtain ⟨f, hf⟩ := hp_fu (nC s + 1) (by omega)
  have hf' : f + nC s + 1 = hp_F := hf.symm
  have kk : ∀ c, c < nC s → kOK s c := fun c hc => ⟨kpt s c, (wf.2.1.2 c hc).2.2.2, (wf.2.1.2 c hc).2.2.1⟩
  obtain ⟨H1, q, i2, i3⟩ := S_ha1 wf hG hJ hd (K := fun z11 σ => (hp_gI σ a 7 4).bind fun v12 => (hp_pI σ a 7 4 (v12 + 1)).bind fun σ => (hp_gI σ a 7 5).bind fun v13 => (hp_gI σ j 5 4).bind fun v14 => (hp_pI σ a 7 5 (v13 + v14)).bind fun σ => (hp_gI σ a 7 6).bind fun v15 => (hp_gI σ j 5 3).bind fun v16 => (f_Integer_bitCount v16).bind fun v18 => (hp_pI σ a 7 6 (v15 + v18)).bind fun σ => some σ) (nC s) 0 f H s (by omega) h hj (fun _ _ => rfl) kk
  rw [hf'] at q
  have lo : ∀ i, i < 16 → ptF G (s 4) (nC s) 0 s i = s i := fun i hi => ptF_out wf (fun e he => by omega) _ _ _ (by omega) (fun _ _ => rfl)
  have hi : ∀ i, 166 ≤ i → ptF G (s 4) (nC s) 0 s i = s i := fun i hi => ptF_out wf (fun e he => by omega) _ _ _ (by omega) (fun _ _ => rfl)
  have ok : ∀ c, c < nC s → kOK (ptF G (s 4) (nC s) 0 s) c := fun c hc => ptF_k wf hc _ _ _ (by omega) (fun _ _ => rfl) (fun q => by omega)
  have ps : putS s c G V = upd (upd (upd (ptF G (s 4) (nC s) 0 s) 4 (s 4 + 1)) 5 (s 5 + nI c)) 6 (s 6 + nI (pcF 7 V)) := rfl
  rw [ps]
  generalize ptF G (s 4) (nC s) 0 s = s1 at i2 lo hi ok ⊢
  have hj1 := hs_same hj i3 (by omega)
  obtain ⟨R, h1, h2, h3⟩ := id i2
  have jg : ∀ (R : oR) (k : Nat), 1 ≤ k → k < 5 → hp_gI (bk_St H1 a R) j 5 k = some (J.1 k) := fun R k k1 k2 => J_f (hs_out hj1 (by omega)) k1 k2
  have r4 : R.1 4 = s 4 := (h2.1 4 (by decide)).trans (lo 4 (by decide))
  have r5 : R.1 5 = s 5 := (h2.1 5 (by decide)).trans (lo 5 (by decide))
  have r6 : R.1 6 = s 6 := (h2.1 6 (by decide)).trans (lo 6 (by decide))
  have q2 : f_State_hand a j H = some (bk_St H1 a (sF (sF (sF R 4 (s 4 + 1)) 5 (s 5 + nI c)) 6 (s 6 + nI (pcF 7 V)))) := by
    unfold f_State_hand
    rw [S_own h]
    refine (show _ = _ from q).trans ?_
    have e0 := St_eq h1
    generalize hB : bk_St H1 a R = B at e0
    rw [← e0, ← hB, St_g4, Option.bind_some, r4, St_p4, Option.bind_some, St_g5, Option.bind_some, sF_ne (by decide), r5, jg _ 4 (by decide) (by decide), Option.bind_some, hJ4, St_p5, Option.bind_some, St_g6, Option.bind_some, sF_ne (by decide), sF_ne (by decide), r6, jg _ 3 (by decide) (by decide), Option.bind_some, hJ3, ji_bits V hV, Option.bind_some, St_p6, Option.bind_some, St_eq h1]
  generalize s 4 + 1 = y4 at *
  generalize s 5 + nI c = y5 at *
  generalize s 6 + nI (pcF 7 V) = y6 at *
  have uo : ∀ i, i ≠ 4 → i ≠ 5 → i ≠ 6 → upd (upd (upd s1 4 y4) 5 y5) 6 y6 i = s1 i := fun i k1 k2 k3 => by rw [upd_ne k3, upd_ne k2, upd_ne k1]
  have eB : nB (upd (upd (upd s1 4 y4) 5 y5) 6 y6) = nB s1 := by unfold nB; rw [uo 0 (by decide) (by decide) (by decide)]
  have eW : nW (upd (upd (upd s1 4 y4) 5 y5) 6 y6) = nW s1 := by unfold nW; rw [uo 2 (by decide) (by decide) (by decide)]
  have eC : nC (upd (upd (upd s1 4 y4) 5 y5) 6 y6) = nC s1 := by unfold nC; rw [uo 1 (by decide) (by decide) (by decide)]
  have eC1 : nC s1 = nC s := by unfold nC; rw [lo 1 (by decide)]
  refine ⟨_, q2, ⟨_, hs_bW, ⟨fun i hi' => ?_, fun e he => ?_, fun w hw => ?_⟩, fun e he => ?_⟩, same_tr i3 (same_mono same_bW (Nat.le_refl _) (by omega))⟩
  · by_cases k6 : i = 6
    · subst k6; rw [sF_at, upd_at]
    · rw [sF_ne k6, upd_ne k6]
      by_cases k5 : i = 5
      · subst k5; rw [sF_at, upd_at]
      · rw [sF_ne k5, upd_ne k5]
        by_cases k4 : i = 4
        · subst k4; rw [sF_at, upd_at]
        · rw [sF_ne k4, upd_ne k4]
          exact h2.1 i hi'
  · rw [eB] at he
    rw [sF_2, sF_2, sF_2, uo _ (by omega) (by omega) (by omega)]
    exact h2.2.1 e he
  · rw [eW] at hw
    rw [sF_2, sF_2, sF_2, wbx_eq (s := s1) (fun t ht => uo _ (by omega) (by omega) (by omega)), uo _ (by omega) (by omega) (by omega)]
    exact h2.2.2 w hw
  · obtain ⟨Re, e1, e2⟩ := h3 e he
    refine ⟨Re, hs_out e1 (by omega), fun q => ?_⟩
    exact CR_congr (e2 (by omega)) (kOK_kpt (ok e (by omega))).2 (fun j k1 k2 => uo j (by omega) (by omega) (by omega))
end HND
