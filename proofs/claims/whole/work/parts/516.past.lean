/-! ===== the class: the past ===== -/
theorem CR_256 {R : oR} {c : Nat} {s s' : Nat → Int32} (h : CR R c s) (hc : c < 6) (hk : kpt s c ≤ 8) (e : ∀ j, j < 256 → s' j = s j) : CR R c s' := CR_congr h hk (fun j _ h2 => e j (by omega))
theorem StI_256 {H : hp_H} {a : Nat} {s s' : Nat → Int32} (h : StI H a s) (wf : Wf s) (e : ∀ j, j < 256 → s' j = s j) : StI H a s' := by
  have hB7 := wf.1.1.2.2
  have hC6 := wf.2.1.1.2
  have hW := wf.2.2.1.1.2
  obtain ⟨R, h1, h2, h3⟩ := h
  have eB : nB s' = nB s := by unfold nB; rw [e 0 (by omega)]
  have eW : nW s' = nW s := by unfold nW; rw [e 2 (by omega)]
  have eC : nC s' = nC s := by unfold nC; rw [e 1 (by omega)]
  refine ⟨R, h1, ⟨fun j hj => (h2.1 j hj).trans (e j (by omega)).symm, fun b hb => ?_, fun w hw => ?_⟩, fun c hc => ?_⟩
  · rw [eB] at hb
    rw [h2.2.1 b hb, e _ (by omega)]
  · rw [eW] at hw
    rw [wbx_eq (s := s) (fun t ht => e _ (by omega)), e _ (by omega)]
    exact h2.2.2 w hw
  · obtain ⟨Rc, g1, g2⟩ := h3 c hc
    exact ⟨Rc, g1, fun q => CR_256 (g2 (by omega)) hc (wf_k wf c (by omega)) e⟩
def rwA (A : Nat → Int32) (i : Nat) : Nat → Int32 := fun t => A (256 * i + t)
def PaI (H : hp_H) (p : Nat) (A : Nat → Int32) (k : Nat) : Prop := k ≤ 16 ∧ ∃ RP fi, hs H p 2 (ce_Pa p RP) ∧ fi < 16 ∧ RP.1 1 = nI fi ∧ RP.1 2 = nI k ∧ (∀ i, i < 16 → StX H (p + 2 + 23 * i)) ∧ ∀ i, i < k → StI H (p + 2 + 23 * ((fi + i) % 16)) (rwA A i) ∧ Wf (rwA A i)
theorem PaI_same {H H' : hp_H} {p b m k : Nat} {A : Nat → Int32} (h : PaI H p A k) (hw : same H H' b m) (d : p + 370 ≤ b ∨ b + m ≤ p) : PaI H' p A k := by
  obtain ⟨h0, RP, fi, h1, h2, h3, h4, h5, h6⟩ := h
  refine ⟨h0, RP, fi, hs_same h1 hw (by omega), h2, h3, h4, fun i hi => StX_same (h5 i hi) hw (by omega), fun i hi => ?_⟩
  have hm : (fi + i) % 16 < 16 := Nat.mod_lt _ (by decide)
  exact ⟨StI_same (h6 i hi).1 hw (by omega), (h6 i hi).2⟩
theorem PaI_zero {H : hp_H} {p k : Nat} {A A' : Nat → Int32} (h : PaI H p A k) : ∃ H', f_Past_forget p H = some H' ∧ PaI H' p A' 0 ∧ same H H' p 370 := by
  obtain ⟨h0, RP, fi, h1, h2, h3, h4, h5, h6⟩ := h
  have w := Pa_p2 (σ := H) (a := p) (R := RP) (x := 0)
  have wo := Pa_own (σ := H) (a := p) (R := RP) (x := (hp_pI H p 6 2 0).bind fun σ => some σ)
  rw [Pa_eq h1] at w wo
  refine ⟨bk_Pa H p (sF RP 2 0), ?_, ⟨Nat.zero_le _, sF RP 2 0, fi, hs_bW, h2, h3, sF_at, fun i hi => StX_same (h5 i hi) same_bW (by omega), fun i hi => by omega⟩, same_mono same_bW (Nat.le_refl _) (by omega)⟩
  unfold f_Past_forget
  rw [wo, w, Option.bind_some]
theorem pst_row {A s : Nat → Int32} {k : Nat} (hk : k ≤ 16) : (∀ i, i < pstN k - 1 → ∀ t, t < 256 → rwA (pstS A k s) i t = rwA A (if k = 16 then i + 1 else i) t) ∧ ∀ t, t < 256 → rwA (pstS A k s) (pstN k - 1) t = s t := by
  unfold rwA pstS pstN
  by_cases h : k = 16
  · rw [if_pos h, if_pos h]
    refine ⟨fun i hi t ht => ?_, fun t ht => ?_⟩
    · rw [wr_out (by omega), if_pos h]
      unfold shP
      rw [if_pos (by omega), show 256 * i + t + 256 = 256 * (i + 1) + t by omega]
    · exact wr_in ht
  · rw [if_neg h, if_neg h]
    refine ⟨fun i hi t ht => ?_, fun t ht => ?_⟩
    · rw [wr_out (by omega), if_neg h]
    · exact wr_in ht
section PST
variable {p st : Nat}
theorem P_rem {H : hp_H} {A s : Nat → Int32} {k : Nat} (wf : Wf s) (hd : p + 370 ≤ st ∨ st + 23 ≤ p) (h : PaI H p A k) (hS : StI H st s) : ∃ H', f_Past_remember p st H = some H' ∧ PaI H' p (pstS A k s) (pstN k) ∧ same H H' p 370 := by
  obtain ⟨h0, RP, fi, h1, h2, h3, h4, h5, h6⟩ := h
  obtain ⟨pr1, pr2⟩ := pst_row (A := A) (s := s) h0
  have e16 : (16 : Int32) = nI 16 := rfl
  have go : ∀ (RP1 : oR) (fi1 k1 : Nat), fi1 < 16 → k1 < 16 → RP1.1 1 = nI fi1 → RP1.1 2 = nI k1 → ∃ H', (((hp_gR (bk_Pa H p RP1) p 6 0).bind fun q3 => (hp_gI (bk_Pa H p RP1) p 6 1).bind fun v4 => (hp_gI (bk_Pa H p RP1) p 6 2).bind fun v5 => (hp_aR (bk_Pa H p RP1) q3 5 ((v4 + v5) - (v4 + v5) / 16 * 16)).bind fun q6 => (f_State_copyFrom q6 st (bk_Pa H p RP1)).bind fun σ => (hp_gI σ p 6 2).bind fun v8 => (hp_pI σ p 6 2 (v8 + 1)).bind fun σ => some σ) = some H') ∧ hs H' p 2 (ce_Pa p (sF RP1 2 (nI (k1 + 1)))) ∧ StI H' (p + 2 + 23 * ((fi1 + k1) % 16)) s ∧ same H H' p 370 ∧ ∀ i, i < 16 → i ≠ (fi1 + k1) % 16 → (StX H (p + 2 + 23 * i) → StX H' (p + 2 + 23 * i)) ∧ ∀ s1, StI H (p + 2 + 23 * i) s1 → StI H' (p + 2 + 23 * i) s1 := by
    intro RP1 fi1 k1 f1 k16 r1 r2
    have hm : (fi1 + k1) % 16 < 16 := Nat.mod_lt _ (by decide)
    have sm1 : same H (bk_Pa H p RP1) p 2 := same_bW
    generalize hx : (fi1 + k1) % 16 = x at hm
    obtain ⟨H1, c1, c2, c3⟩ := S_cop (H := bk_Pa H p RP1) (a := p + 2 + 23 * x) (q := st) wf (by omega) (StI_same hS sm1 (by omega)) (StX_same (h5 x hm) sm1 (by omega))
    have g1 : hs H1 p 2 (ce_Pa p RP1) := hs_same hs_bW c3 (by omega)
    have w2 := Pa_g2 (σ := H1) (a := p) (R := RP1)
    have wp := Pa_p2 (σ := H1) (a := p) (R := RP1) (x := nI (k1 + 1))
    rw [Pa_eq g1] at w2 wp
    refine ⟨bk_Pa H1 p (sF RP1 2 (nI (k1 + 1))), ?_, hs_bW, StI_same c2 same_bW (by omega), ?_, fun i hi hne => ⟨fun q => StX_same (StX_same (StX_same q sm1 (by omega)) c3 (by omega)) same_bW (by omega), fun s1 q => StI_same (StI_same (StI_same q sm1 (by omega)) c3 (by omega)) same_bW (by omega)⟩⟩
    · rw [Pa_g0, Option.bind_some, Pa_g1, Option.bind_some, Pa_g2, Option.bind_some, r1, r2, nI_add, e16, pk_rem (by omega) (by decide) (by decide), hx, Pa_a0 hm, Option.bind_some, c1, Option.bind_some, w2, Option.bind_some, r2, nI_1, wp, Option.bind_some]
    · exact same_tr (same_mono sm1 (Nat.le_refl _) (by omega)) (same_tr (same_mono c3 (by omega) (by omega)) (same_mono same_bW (Nat.le_refl _) (by omega)))
  have wo := fun x => Pa_own (σ := H) (a := p) (R := RP) (α := hp_H) (x := x)
  have w2 := Pa_g2 (σ := H) (a := p) (R := RP)
  have w1 := Pa_g1 (σ := H) (a := p) (R := RP)
  rw [Pa_eq h1] at wo w2 w1
  unfold f_Past_remember
  rw [wo, w2, Option.bind_some, h4, e16]
  by_cases hk : k = 16
  · subst hk
    have ep : nI 16 - 1 = nI 15 := nI_pred 15
    have wp1 := Pa_p1 (σ := H) (a := p) (R := RP) (x := nI ((fi + 1) % 16))
    rw [Pa_eq h1] at wp1
    have hm1 : (fi + 1) % 16 < 16 := Nat.mod_lt _ (by decide)
    obtain ⟨H', g1, g2, g3, g4, g5⟩ := go (sF (sF RP 1 (nI ((fi + 1) % 16))) 2 (nI 15)) ((fi + 1) % 16) 15 hm1 (by decide) (by rw [sF_ne (by decide), sF_at]) sF_at
    rw [e16] at g1
    have hx : ((fi + 1) % 16 + 15) % 16 = fi := by omega
    rw [hx] at g3 g5
    have en : pstN 16 = 16 := rfl
    rw [en] at pr1 pr2
    refine ⟨H', ?_, ⟨by rw [en]; exact Nat.le_refl _, _, (fi + 1) % 16, g2, hm1, by rw [sF_ne (by decide), sF_ne (by decide), sF_at], by rw [sF_at]; rfl, fun i hi => ?_, fun i hi => ?_⟩, g4⟩
    · rw [if_pos rfl, w1, Option.bind_some, h3, nI_1, pk_rem (by omega) (by decide) (by decide), wp1, Option.bind_some, Pa_g2, Option.bind_some, sF_ne (by decide), h4, ep, Pa_p2, Option.bind_some]
      exact g1
    · by_cases hif : i = fi
      · rw [hif]; exact StI_X g3
      · exact (g5 i hi hif).1 (h5 i hi)
    · rw [en] at hi
      by_cases hi15 : i = 15
      · subst hi15
        rw [hx]
        exact ⟨StI_256 g3 wf (fun t ht => pr2 t ht), Wf_256 wf (fun t ht => pr2 t ht)⟩
      · have q := pr1 i (by omega)
        rw [if_pos rfl] at q
        obtain ⟨s1, s2⟩ := h6 (i + 1) (by omega)
        have hy : (fi + (i + 1)) % 16 = ((fi + 1) % 16 + i) % 16 := by omega
        rw [hy] at s1
        have hyl : ((fi + 1) % 16 + i) % 16 < 16 := Nat.mod_lt _ (by decide)
        exact ⟨StI_256 ((g5 _ hyl (by omega)).2 _ s1) s2 (fun t ht => q t ht), Wf_256 s2 (fun t ht => q t ht)⟩
  · obtain ⟨H', g1, g2, g3, g4, g5⟩ := go RP fi k h2 (by omega) h3 h4
    rw [Pa_eq h1, e16] at g1
    have en : pstN k = k + 1 := by unfold pstN; rw [if_neg hk]
    rw [en] at pr1 pr2
    refine ⟨H', ?_, ⟨by rw [en]; omega, _, fi, g2, h2, by rw [sF_ne (by decide)]; exact h3, by rw [sF_at, en], fun i hi => ?_, fun i hi => ?_⟩, g4⟩
    · rw [if_neg (show ¬ nI k = nI 16 from fun q => hk ((nI_eq (by omega) (by decide)).mp q))]
      rw [w2, h4] at g1
      exact g1
    · by_cases hif : i = (fi + k) % 16
      · rw [hif]; exact StI_X g3
      · exact (g5 i hi hif).1 (h5 i hi)
    · rw [en] at hi
      by_cases hik : i = k
      · subst hik
        exact ⟨StI_256 g3 wf (fun t ht => pr2 t ht), Wf_256 wf (fun t ht => pr2 t ht)⟩
      · have q := pr1 i (by omega)
        rw [if_neg hk] at q
        obtain ⟨s1, s2⟩ := h6 i (by omega)
        have hyl : (fi + i) % 16 < 16 := Nat.mod_lt _ (by decide)
        exact ⟨StI_256 ((g5 _ hyl (by omega)).2 _ s1) s2 (fun t ht => q t ht), Wf_256 s2 (fun t ht => q t ht)⟩
theorem P_res {H : hp_H} {A : Nat → Int32} {k n : Nat} (hd : p + 370 ≤ st ∨ st + 23 ≤ p) (h : PaI H p A k) (hx : StX H st) (h1n : 1 ≤ n) (hn : n ≤ k) : ∃ H0 H', f_Past_restore p st (nI n) H = some H' ∧ PaI H' p A (k - n) ∧ StI H' st (rwA A (k - n)) ∧ Wf (rwA A (k - n)) ∧ same H H0 p 370 ∧ same H0 H' st 23 := by
  obtain ⟨h0, RP, fi, h1, h2, h3, h4, h5, h6⟩ := h
  have e16 : (16 : Int32) = nI 16 := rfl
  obtain ⟨s1, s2⟩ := h6 (k - n) (by omega)
  have hyl : (fi + (k - n)) % 16 < 16 := Nat.mod_lt _ (by decide)
  have wo := fun x => Pa_own (σ := H) (a := p) (R := RP) (α := hp_H) (x := x)
  have w2 := Pa_g2 (σ := H) (a := p) (R := RP)
  have wp := Pa_p2 (σ := H) (a := p) (R := RP) (x := nI (k - n))
  rw [Pa_eq h1] at wo w2 wp
  have sm : same H (bk_Pa H p (sF RP 2 (nI (k - n)))) p 2 := same_bW
  have sm3 : same H (bk_Pa H p (sF RP 2 (nI (k - n)))) p 370 := same_mono sm (Nat.le_refl _) (by omega)
  obtain ⟨H1, c1, c2, c3⟩ := S_cop (a := st) (q := p + 2 + 23 * ((fi + (k - n)) % 16)) s2 (by omega) (StI_same s1 sm (by omega)) (StX_same hx sm (by omega))
  refine ⟨_, H1, ?_, ⟨by omega, sF RP 2 (nI (k - n)), fi, hs_same hs_bW c3 (by omega), h2, by rw [sF_ne (by decide)]; exact h3, sF_at, fun i hi => StX_same (StX_same (h5 i hi) sm (by omega)) c3 (by omega), fun i hi => ?_⟩, c2, s2, sm3, c3⟩
  · unfold f_Past_restore
    rw [wo, w2, Option.bind_some, h4, pk_sub hn, wp, Option.bind_some, Pa_g0, Option.bind_some, Pa_g1, Option.bind_some, Pa_g2, Option.bind_some, sF_ne (by decide), h3, sF_at, nI_add, e16, pk_rem (by omega) (by decide) (by decide), Pa_a0 hyl, Option.bind_some, c1, Option.bind_some]
  · obtain ⟨t1, t2⟩ := h6 i (by omega)
    have hyi : (fi + i) % 16 < 16 := Nat.mod_lt _ (by decide)
    exact ⟨StI_same (StI_same t1 sm (by omega)) c3 (by omega), t2⟩
end PST
