/-! ===== the class: wishes go; a client comes, arrives, leaves ===== -/
theorem shD_0 {A : Nat → Int32} {w : Nat} : shD A w 0 = A := by
  funext k
  unfold shD
  rw [if_neg (by omega)]
theorem shD_s {A : Nat → Int32} {w t : Nat} : upd (shD A w t) (w + t) (shD A w t (w + t + 1)) = shD A w (t + 1) := by
  funext k
  have e4 : shD A w t (w + t + 1) = A (w + t + 1) := by
    unfold shD
    rw [if_neg (by omega)]
  rw [e4]
  unfold upd shD
  by_cases hk : k = w + t
  · rw [if_pos hk, if_pos (by omega), hk]
  · rw [if_neg hk]
    by_cases h2 : w ≤ k ∧ k < w + t
    · rw [if_pos h2, if_pos (by omega)]
    · rw [if_neg h2, if_neg (by omega)]
section STX
variable {σ : hp_H} {a : Nat}
theorem S_rm1 {R : oR} {A B : Nat → Int32} {w n : Nat} (hn : n ≤ 12) (h2 : R.1 2 = nI n) (h0 : w < n) {K : Int32 → hp_H → Option hp_H} : ∀ (m t f : Nat), t + m = n - 1 - w → f_State_removeWish_l1 a K (f + m + 1) (nI (w + t)) (bk_St σ a (sA (sA R 9 (shD A w t)) 10 (shD B w t))) = K (nI (n - 1)) (bk_St σ a (sA (sA R 9 (shD A w (n - 1 - w))) 10 (shD B w (n - 1 - w))))
  | 0, t, f, h => by
    have ep : nI n - 1 = nI (n - 1) := by
      have := nI_pred (n - 1)
      rw [show n - 1 + 1 = n by omega] at this
      exact this
    rw [f_State_removeWish_l1, St_g2, Option.bind_some, sA_1, sA_1, h2, ep, show w + t = n - 1 by omega, if_pos ((nI_leI (by omega) (by omega)).mpr (Nat.le_refl _)), show t = n - 1 - w by omega]
  | m + 1, t, f, h => by
    have ep : nI n - 1 = nI (n - 1) := by
      have := nI_pred (n - 1)
      rw [show n - 1 + 1 = n by omega] at this
      exact this
    have ih := S_rm1 (A := A) (B := B) hn h2 h0 (K := K) m (t + 1) f (by omega)
    rw [f_State_removeWish_l1, St_g2, Option.bind_some, sA_1, sA_1, h2, ep, if_neg (fun q => by have := (nI_leI (by omega) (by omega)).mp q; omega), St_g9, Option.bind_some, Option.bind_some, nI_1, St_a9 (by omega), Option.bind_some, St_s9 (by omega), Option.bind_some, St_g10, Option.bind_some, Option.bind_some, St_a10 (by omega), Option.bind_some, St_s10 (by omega), Option.bind_some]
    refine Eq.trans (congrArg _ (congrArg _ ?_)) ih
    apply Prod.ext
    · rfl
    · funext j
      by_cases j10 : j = 10
      · subst j10
        rw [sA_at, sA_at, sA_ne (by decide), sA_at]
        exact shD_s
      · rw [sA_ne j10, sA_ne j10]
        by_cases j9 : j = 9
        · subst j9
          rw [sA_at, sA_at, sA_ne (by decide), sA_at]
          exact shD_s
        · rw [sA_ne j9, sA_ne j9, sA_ne j10, sA_ne j9]
theorem S_rmw {R : oR} {A : Nat → Int32} {w : Nat} (hR : SR R A) (h7 : nB A ≤ 7) (hn : nW A ≤ 12) (h2 : A 2 = nI (nW A)) (hw : w < nW A) : ∃ R', f_State_removeWish a (nI w) (bk_St σ a R) = some (bk_St σ a R') ∧ SR R' (drS A w (nW A)) := by
  have r2 : R.1 2 = nI (nW A) := (hR.1 2 (by decide)).trans h2
  obtain ⟨f, hf⟩ := hp_fu (nW A - 1 - w + 1) (by omega)
  have hf' : f + (nW A - 1 - w) + 1 = hp_F := hf.symm
  have ep : nI (nW A) - 1 = nI (nW A - 1) := by
    have := nI_pred (nW A - 1)
    rw [show nW A - 1 + 1 = nW A by omega] at this
    exact this
  have q := S_rm1 (σ := σ) (a := a) (R := R) (A := R.2 9) (B := R.2 10) hn r2 hw (K := fun z9 σ => (hp_gI σ a 7 2).bind fun v10 => (hp_pI σ a 7 2 (v10 - 1)).bind fun σ => some σ) (nW A - 1 - w) 0 f (by omega)
  have e0 : sA (sA R 9 (shD (R.2 9) w 0)) 10 (shD (R.2 10) w 0) = R := by
    rw [shD_0, shD_0, sA_self, sA_self]
  rw [e0, hf', Nat.add_zero] at q
  refine ⟨sF (sA (sA R 9 (shD (R.2 9) w (nW A - 1 - w))) 10 (shD (R.2 10) w (nW A - 1 - w))) 2 (nI (nW A - 1)), ?_, ?_⟩
  · unfold f_State_removeWish
    rw [St_own]
    refine (show _ = _ from q).trans ?_
    rw [St_g2, Option.bind_some, sA_1, sA_1, r2, ep, St_p2, Option.bind_some]
  · have d2 : drS A w (nW A) 2 = nI (nW A - 1) := drS_2
    have eB : nB (drS A w (nW A)) = nB A := by unfold nB; rw [drS_at hn (by decide) (by decide)]
    have eW : nW (drS A w (nW A)) = nW A - 1 := by
      show (drS A w (nW A) 2).toNatClampNeg = _
      rw [d2, nI_cl (by omega)]
    refine ⟨fun j hj => ?_, fun e he => ?_, fun v hv => ?_⟩
    · by_cases hj0 : j = 2
      · subst hj0
        rw [sF_at, d2]
      · rw [sF_ne hj0, drS_at hn (by omega) hj0]
        exact hR.1 j hj
    · rw [eB] at he
      rw [sF_2, sA_ne (by decide), sA_ne (by decide), drS_at hn (by omega) (by omega)]
      exact hR.2.1 e he
    · rw [eW] at hv
      rw [sF_2, sA_at, sA_ne (by decide), sA_at]
      unfold shD
      by_cases hvw : w ≤ v
      · rw [if_pos (by omega), if_pos (by omega), drS_hi (by omega) (by omega), wbx_to (s := A) (v := v + 1) (by omega) (by omega) (fun t ht => by rw [drS_hi (by omega) (by omega), show 171 + 7 * v + t + 7 = 171 + 7 * (v + 1) + t by omega]), show 170 + 7 * v + 7 = 170 + 7 * (v + 1) by omega]
        exact hR.2.2 (v + 1) (by omega)
      · rw [if_neg (by omega), if_neg (by omega), drS_lo (by omega) (by omega), wbx_eq (s := A) (fun t ht => drS_lo (by omega) (by omega))]
        exact hR.2.2 v (by omega)
theorem paF_lo {c : Int32} {j : Nat} (h : j < 170) (h2 : j ≠ 2) : ∀ (n : Nat) (A : Nat → Int32), nW A ≤ 12 → A 2 = nI (nW A) → paF c n A j = A j
  | 0, A, _, _ => rfl
  | n + 1, A, hn, e2 => by
    rw [paF]
    by_cases hc : A (170 + 7 * n) = c
    · rw [if_pos hc]
      have e : nW (drS A n (nW A)) = nW A - 1 := by
        show (drS A n (nW A) 2).toNatClampNeg = _
        rw [drS_2, nI_cl (by omega)]
      rw [paF_lo h h2 n _ (by rw [e]; omega) (by rw [e]; exact drS_2), drS_at hn h h2]
    · rw [if_neg hc]
      exact paF_lo h h2 n A hn e2
theorem S_rl1 {cc : Int32} {K : Int32 → hp_H → Option hp_H} : ∀ (n f : Nat) (A : Nat → Int32) (R : oR), SR R A → nB A ≤ 7 → A 1 = cc → A 2 = nI (nW A) → n ≤ nW A → nW A ≤ 12 → ∃ R', f_State_removeLatestClient_l1 a K (f + n + 1) (nI n - 1) (bk_St σ a R) = K (nI 0 - 1) (bk_St σ a R') ∧ SR R' (paF cc n A)
  | 0, f, A, R, hR, _, _, _, _, _ => by
    refine ⟨R, ?_, hR⟩
    rw [f_State_removeLatestClient_l1, if_pos (by decide)]
  | n + 1, f, A, R, hR, h7, h1, h2, hn, h12 => by
    have hlt : ¬ nI n < 0 := nI_pos (by omega)
    have em : nI n + (-1) = nI n - 1 := (Int32.sub_eq_add_neg _ _).symm
    rw [f_State_removeLatestClient_l1, nI_pred, if_neg hlt, St_g9, Option.bind_some, St_a9 (by omega), Option.bind_some, St_g1, Option.bind_some, (hR.2.2 n (by omega)).1, hR.1 1 (by decide), h1, em, paF]
    by_cases hc : A (170 + 7 * n) = cc
    · obtain ⟨R1, r1, r2⟩ := S_rmw (σ := σ) (a := a) hR h7 h12 h2 (w := n) (by omega)
      rw [if_pos hc, if_pos hc, r1, Option.bind_some]
      have e : nW (drS A n (nW A)) = nW A - 1 := by
        show (drS A n (nW A) 2).toNatClampNeg = _
        rw [drS_2, nI_cl (by omega)]
      have eB : nB (drS A n (nW A)) = nB A := by unfold nB; rw [drS_at h12 (by decide) (by decide)]
      exact S_rl1 n f _ R1 r2 (by omega) (by rw [drS_at h12 (by omega) (by omega)]; exact h1) (by rw [e]; exact drS_2) (by rw [e]; omega) (by rw [e]; omega)
    · rw [if_neg hc, if_neg hc]
      exact S_rl1 n f A R hR h7 h1 h2 (by omega) h12
end STX
section STY
variable {H : hp_H} {a : Nat} {s : Nat → Int32}
theorem S_drp (wf : Wf s) (h : StI H a s) {w : Nat} (hw : w < nW s) : ∃ H', f_State_removeWish a (nI w) H = some H' ∧ StI H' a (drS s w (nW s)) ∧ same H H' a 23 := by
  have hB7 := wf.1.1.2.2
  have hC6 := wf.2.1.1.2
  have hW := wf.2.2.1.1.2
  obtain ⟨R, h1, h2, h3⟩ := id h
  obtain ⟨R', q, hR⟩ := S_rmw (σ := H) (a := a) h2 hB7 hW wf.2.2.1.1.1 hw
  rw [St_eq h1] at q
  have eC : nC (drS s w (nW s)) = nC s := by unfold nC; rw [drS_at hW (by decide) (by decide)]
  obtain ⟨m1, m2⟩ := St_put wf h hR (fun c hc => ⟨by omega, fun j k1 k2 => drS_at hW (by omega) (by omega)⟩)
  exact ⟨_, q, m1, m2⟩
theorem S_par (wf : Wf s) (h : StI H a s) (hC : nC s ≠ 0) : ∃ H', f_State_removeLatestClient a H = some H' ∧ StI H' a (parS s) ∧ same H H' a 23 := by
  have hB7 := wf.1.1.2.2
  have hC6 := wf.2.1.1.2
  have hW := wf.2.2.1.1.2
  obtain ⟨R, h1, h2, h3⟩ := id h
  have r1 : R.1 1 = nI (nC s) := (h2.1 1 (by decide)).trans wf.2.1.1.1
  have r2 : R.1 2 = nI (nW s) := (h2.1 2 (by decide)).trans wf.2.2.1.1.1
  have ep : nI (nC s) - 1 = nI (nC s - 1) := by
    have := nI_pred (nC s - 1)
    rw [show nC s - 1 + 1 = nC s by omega] at this
    exact this
  have eW : nW (upd s 1 (nI (nC s - 1))) = nW s := by
    unfold nW
    rw [upd_ne (by decide)]
  have eB : nB (upd s 1 (nI (nC s - 1))) = nB s := by
    unfold nB
    rw [upd_ne (by decide)]
  have u2 : upd s 1 (nI (nC s - 1)) 2 = nI (nW s) := by rw [upd_ne (by decide)]; exact wf.2.2.1.1.1
  have hR1 : SR (sF R 1 (nI (nC s - 1))) (upd s 1 (nI (nC s - 1))) := by
    refine ⟨fun j hj => ?_, fun e he => ?_, fun w hw => ?_⟩
    · by_cases hj0 : j = 1
      · subst hj0
        rw [sF_at, upd_at]
      · rw [sF_ne hj0, upd_ne hj0]
        exact h2.1 j hj
    · rw [eB] at he
      rw [sF_2, upd_ne (by omega)]
      exact h2.2.1 e he
    · rw [eW] at hw
      rw [sF_2, wbx_eq (s := s) (fun t ht => upd_ne (by omega)), upd_ne (by omega)]
      exact h2.2.2 w hw
  obtain ⟨f, hf⟩ := hp_fu (nW s + 1) (by omega)
  have hf' : f + nW s + 1 = hp_F := hf.symm
  obtain ⟨R', q, hR⟩ := S_rl1 (σ := H) (a := a) (cc := nI (nC s - 1)) (K := fun z9 σ => some σ) (nW s) f _ _ hR1 (by omega) upd_at (by rw [eW]; exact u2) (by omega) (by omega)
  rw [hf'] at q
  have q2 : f_State_removeLatestClient a (bk_St H a R) = some (bk_St H a R') := by
    unfold f_State_removeLatestClient
    rw [St_own, St_g1, Option.bind_some, r1, ep, St_p1, Option.bind_some, St_g2, Option.bind_some, sF_ne (by decide), r2]
    exact q
  rw [St_eq h1] at q2
  obtain ⟨wf', nc'⟩ := parS_wf wf hC
  obtain ⟨m1, m2⟩ := St_put (s' := parS s) wf h hR (fun c hc => ⟨by omega, fun j k1 k2 => by
    unfold parS
    rw [paF_lo (by omega) (by omega) _ _ (by omega) (by rw [eW]; exact u2), upd_ne (by omega)]⟩)
  exact ⟨_, q2, m1, m2⟩
end STY
