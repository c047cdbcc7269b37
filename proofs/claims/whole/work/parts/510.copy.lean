/-! ===== the class: a State is copied ===== -/
def StX (H : hp_H) (a : Nat) : Prop := ∃ R, hs H a 5 (ce_St a R) ∧ ∀ c, c < 6 → ∃ Rc, hs H (a + 5 + 3 * c) 3 (ce_Client (a + 5 + 3 * c) Rc)
theorem StI_X {H : hp_H} {a : Nat} {s : Nat → Int32} (h : StI H a s) : StX H a := by
  obtain ⟨R, h1, -, h3⟩ := h
  exact ⟨R, h1, fun c hc => by
    obtain ⟨Rc, g, -⟩ := h3 c hc
    exact ⟨Rc, g⟩⟩
theorem StX_same {H H' : hp_H} {a b m : Nat} (h : StX H a) (hw : same H H' b m) (d : a + 23 ≤ b ∨ b + m ≤ a) : StX H' a := by
  obtain ⟨R, h1, h3⟩ := h
  refine ⟨R, hs_same h1 hw (by omega), fun c hc => ?_⟩
  obtain ⟨Rc, g1⟩ := h3 c hc
  exact ⟨Rc, hs_same g1 hw (by omega)⟩
section CPY
variable {H : hp_H} {q a : Nat}
theorem C_f {R : oR} (h : hs H q 3 (ce_Client q R)) {k : Nat} (hk : k < 5) : hp_gI H q 2 k = some (R.1 k) := by
  have : hp_gI (bk_Client H q R) q 2 k = some (R.1 k) := by
    match k, hk with
    | 0, _ => exact Client_g0
    | 1, _ => exact Client_g1
    | 2, _ => exact Client_g2
    | 3, _ => exact Client_g3
    | 4, _ => exact Client_g4
  rw [Client_eq h] at this
  exact this
theorem C_g5 {R : oR} (h : hs H q 3 (ce_Client q R)) : hp_gR H q 2 5 = some (q + 1) ∧ hp_row H (q + 1) 0 = some (8, R.2 5) := by
  have e1 := Client_g5 (σ := H) (a := q) (R := R)
  have e2 := Client_r5 (σ := H) (a := q) (R := R)
  rw [Client_eq h] at e1 e2
  exact ⟨e1, e2⟩
theorem C_g6 {R : oR} (h : hs H q 3 (ce_Client q R)) : hp_gR H q 2 6 = some (q + 2) ∧ hp_row H (q + 2) 0 = some (12, R.2 6) := by
  have e1 := Client_g6 (σ := H) (a := q) (R := R)
  have e2 := Client_r6 (σ := H) (a := q) (R := R)
  rw [Client_eq h] at e1 e2
  exact ⟨e1, e2⟩
theorem Client_y5 {σ : hp_H} {R : oR} {g : Nat → Int32} (h : hp_row (bk_Client σ a R) q 0 = some (8, g)) : hp_cp (bk_Client σ a R) q 0 (a + 1) 0 (nI 8) = some (bk_Client σ a (sA R 5 (wr (R.2 5) 0 8 g))) := by
  unfold hp_cp
  rw [h, Option.bind_some, Client_r5, Option.bind_some, if_pos (cp_cd 8 (by decide))]
  refine congrArg some ((bW_set (k := 1) (Nat.le_of_ble_eq_true rfl) rfl _).trans (bW_congr (fun k h => ?_)))
  match k, h with
  | 0, _ => rfl
  | 1, _ => exact congrArg (fun u => Sum.inr (Sum.inl (0, _, u))) (cpy_wr _ _ _)
  | 2, _ => rfl
theorem Client_y6 {σ : hp_H} {R : oR} {g : Nat → Int32} (h : hp_row (bk_Client σ a R) q 0 = some (12, g)) : hp_cp (bk_Client σ a R) q 0 (a + 2) 0 (nI 12) = some (bk_Client σ a (sA R 6 (wr (R.2 6) 0 12 g))) := by
  unfold hp_cp
  rw [h, Option.bind_some, Client_r6, Option.bind_some, if_pos (cp_cd 12 (by decide))]
  refine congrArg some ((bW_set (k := 2) (Nat.le_of_ble_eq_true rfl) rfl _).trans (bW_congr (fun k h => ?_)))
  match k, h with
  | 0, _ => rfl
  | 1, _ => rfl
  | 2, _ => exact congrArg (fun u => Sum.inr (Sum.inl (0, _, u))) (cpy_wr _ _ _)
theorem Cl_cop {R0 R1 : oR} {c : Nat} {s : Nat → Int32} (h0 : hs H a 3 (ce_Client a R0)) (h1 : hs H q 3 (ce_Client q R1)) (hd : a + 3 ≤ q ∨ q + 3 ≤ a) (hp : R1.1 1 = 0 ∨ R1.1 1 = 1) (hR : CR R1 c s) (hk : kpt s c ≤ 8) : ∃ R', f_Client_copyFrom a q H = some (bk_Client H a R') ∧ CR R' c s := by
  have hq : ∀ R, hs (bk_Client H a R) q 3 (ce_Client q R1) := fun R => hs_out h1 (by omega)
  have e : f_Client_copyFrom a q (bk_Client H a R0) = some (bk_Client H a (sA (sA (sF (sF (sF (sF (sF R0 0 (R1.1 0)) 1 (R1.1 1)) 2 (R1.1 2)) 3 (R1.1 3)) 4 (R1.1 4)) 5 (wr (R0.2 5) 0 8 (R1.2 5))) 6 (wr (R0.2 6) 0 12 (R1.2 6)))) := by
    unfold f_Client_copyFrom
    rw [Client_own, C_f (hq _) (by decide), Option.bind_some, Client_p0, Option.bind_some, C_f (hq _) (by decide), Option.bind_some, Client_p1 hp, Option.bind_some, C_f (hq _) (by decide), Option.bind_some, Client_p2, Option.bind_some, C_f (hq _) (by decide), Option.bind_some, Client_p3, Option.bind_some, C_f (hq _) (by decide), Option.bind_some, Client_p4, Option.bind_some, (C_g5 (hq _)).1, Option.bind_some, Client_g5, Option.bind_some, il_8, Client_y5 (C_g5 (hq _)).2, Option.bind_some, (C_g6 (hq _)).1, Option.bind_some, Client_g6, Option.bind_some, il_12, Client_y6 (C_g6 (hq _)).2, Option.bind_some]
    rfl
  rw [Client_eq h0] at e
  refine ⟨_, e, ?_⟩
  obtain ⟨g0, g1, g2, g3, g4, g5, g6⟩ := hR
  refine ⟨g0, g1, g2, g3, g4, fun i hi hl => ?_, fun i hi => ?_⟩
  · rw [sA_at]
    have := wr_in (A := R0.2 6) (base := 0) (m := 12) (g := R1.2 6) hi
    rw [Nat.zero_add] at this
    rw [this]
    exact g5 i hi hl
  · rw [sA_ne (by decide), sA_at]
    have := wr_in (A := R0.2 5) (base := 0) (m := 8) (g := R1.2 5) (show i < 8 by omega)
    rw [Nat.zero_add] at this
    rw [this]
    exact g6 i hi
end CPY
section CPS
variable {a q : Nat} {s : Nat → Int32}
theorem S_cp1 (wf : Wf s) (hd : a + 23 ≤ q ∨ q + 23 ≤ a) {R0 : oR} (r1 : R0.1 1 = nI (nC s)) {K : Int32 → hp_H → Option hp_H} : ∀ (m k f : Nat) (H : hp_H), k + m = nC s → StI H q s → hs H a 5 (ce_St a R0) → (∀ c, c < 6 → ∃ Rc, hs H (a + 5 + 3 * c) 3 (ce_Client (a + 5 + 3 * c) Rc) ∧ (c < k → CR Rc c s)) → ∃ H', f_State_copyFrom_l1 a q K (f + m + 1) (nI k) H = K (nI (nC s)) H' ∧ StI H' q s ∧ hs H' a 5 (ce_St a R0) ∧ (∀ c, c < 6 → ∃ Rc, hs H' (a + 5 + 3 * c) 3 (ce_Client (a + 5 + 3 * c) Rc) ∧ (c < nC s → CR Rc c s)) ∧ same H H' a 23
  | 0, k, f, H, e, h, h5, hc => by
    have hC6 := wf.2.1.1.2
    have w1 := St_g1 (σ := H) (a := a) (R := R0)
    rw [St_eq h5, r1] at w1
    refine ⟨H, ?_, h, h5, fun c h6 => ?_, same_rf⟩
    · rw [f_State_copyFrom_l1, w1, Option.bind_some, show k = nC s by omega, if_pos ((nI_leI (by omega) (by omega)).mpr (Nat.le_refl _))]
    · rw [show nC s = k by omega]
      exact hc c h6
  | m + 1, k, f, H, e, h, h5, hc => by
    have hC6 := wf.2.1.1.2
    have w1 := St_g1 (σ := H) (a := a) (R := R0)
    have w8 := St_g8 (σ := H) (a := a) (R := R0)
    have wr8 := St_a8 (σ := H) (a := a) (R := R0) (i := k) (by omega)
    rw [St_eq h5] at w1 w8 wr8
    rw [r1] at w1
    obtain ⟨Rc, c1, c2⟩ := hc k (by omega)
    obtain ⟨Rq, d1, d2⟩ := S_cl h wf (c := k) (by omega)
    obtain ⟨-, wp, wk⟩ := wf.2.1.2 k (by omega)
    obtain ⟨R', q1, q2⟩ := Cl_cop c1 d1 (by omega) (by rw [d2.2.1]; exact wp) d2 wk.2
    have sm : same H (bk_Client H (a + 5 + 3 * k) R') a 23 := same_mono same_bW (by omega) (by omega)
    obtain ⟨H', i1, i2, i3, i4, i5⟩ := S_cp1 wf hd r1 (K := K) m (k + 1) f (bk_Client H (a + 5 + 3 * k) R') (by omega) (StI_same h sm (by omega)) (hs_out h5 (by omega)) (fun c h6 => by
      by_cases hck : c = k
      · subst hck
        exact ⟨R', hs_bW, fun _ => q2⟩
      · obtain ⟨Re, e1, e2⟩ := hc c h6
        exact ⟨Re, hs_out e1 (by omega), fun hl => e2 (by omega)⟩)
    refine ⟨H', ?_, i2, i3, i4, same_tr sm i5⟩
    rw [f_State_copyFrom_l1, w1, Option.bind_some, if_neg (fun q => by have := (nI_leI (by omega) (by omega)).mp q; omega), w8, Option.bind_some, wr8, Option.bind_some, S_r8 h, Option.bind_some, S_cr h (by omega), Option.bind_some, q1, Option.bind_some, nI_1]
    exact i1
theorem S_cop {H : hp_H} (wf : Wf s) (hd : a + 23 ≤ q ∨ q + 23 ≤ a) (h : StI H q s) (hx : StX H a) : ∃ H', f_State_copyFrom a q H = some H' ∧ StI H' a s ∧ same H H' a 23 := by
  have hC6 := wf.2.1.1.2
  have hB7 := wf.1.1.2.2
  have hW := wf.2.2.1.1.2
  obtain ⟨R0, x1, x2⟩ := hx
  obtain ⟨Rq, y1, y2, y3⟩ := id h
  have hq : ∀ R, StI (bk_St H a R) q s := fun R => StI_same h (same_mono same_bW (Nat.le_refl _) (show a + 5 ≤ a + 23 by omega)) (by omega)
  have hr : ∀ R, hp_row (bk_St H a R) (q + 1) 0 = some (7, Rq.2 7) := fun R => by
    have g : hs (bk_St H a R) q 5 (ce_St q Rq) := hs_out y1 (by omega)
    have := St_r7 (σ := bk_St H a R) (a := q) (R := Rq)
    rw [St_eq g] at this
    exact this
  generalize hR1 : sA (sF (sF (sF (sF (sF (sF (sF R0 0 (s 0)) 1 (s 1)) 2 (s 2)) 3 (s 3)) 4 (s 4)) 5 (s 5)) 6 (s 6)) 7 (wr (R0.2 7) 0 7 (Rq.2 7)) = R1
  have rj : ∀ j, j < 7 → R1.1 j = s j := fun j hj => by
    rw [← hR1]
    match j, hj with
    | 0, _ => rfl
    | 1, _ => rfl
    | 2, _ => rfl
    | 3, _ => rfl
    | 4, _ => rfl
    | 5, _ => rfl
    | 6, _ => rfl
  obtain ⟨f, hf⟩ := hp_fu (nC s + 1) (by omega)
  have hf' : f + nC s + 1 = hp_F := hf.symm
  have sm1 : same H (bk_St H a R1) a 23 := same_mono same_bW (Nat.le_refl _) (by omega)
  obtain ⟨H2, q2, i2, i3, i4, i5⟩ := S_cp1 wf hd (R0 := R1) ((rj 1 (by decide)).trans wf.2.1.1.1) (K := fun z17 σ => (hp_gR σ q 7 9).bind fun q18 => (hp_gR σ a 7 9).bind fun q19 => (hp_cp σ q18 0 q19 0 12).bind fun σ => (hp_gR σ q 7 10).bind fun q20 => (hp_gR σ a 7 10).bind fun q21 => (hp_cp σ q20 0 q21 0 12).bind fun σ => some σ) (nC s) 0 f (bk_St H a R1) (by omega) (hq R1) hs_bW (fun c h6 => by
    obtain ⟨Rc, g⟩ := x2 c h6
    exact ⟨Rc, hs_out g (by omega), fun hl => by omega⟩)
  rw [hf'] at q2
  obtain ⟨Rz, z1, z2, z3⟩ := id i2
  have hq2 : ∀ R, StI (bk_St H2 a R) q s := fun R => StI_same i2 (same_mono same_bW (Nat.le_refl _) (show a + 5 ≤ a + 23 by omega)) (by omega)
  have h9 : ∀ R, hp_row (bk_St H2 a R) (q + 3) 0 = some (12, Rz.2 9) := fun R => by
    have g : hs (bk_St H2 a R) q 5 (ce_St q Rz) := hs_out z1 (by omega)
    have := St_r9 (σ := bk_St H2 a R) (a := q) (R := Rz)
    rw [St_eq g] at this
    exact this
  have h10 : ∀ R, hp_row (bk_St H2 a R) (q + 4) 0 = some (12, Rz.2 10) := fun R => by
    have g : hs (bk_St H2 a R) q 5 (ce_St q Rz) := hs_out z1 (by omega)
    have := St_r10 (σ := bk_St H2 a R) (a := q) (R := Rz)
    rw [St_eq g] at this
    exact this
  have fin : f_State_copyFrom a q (bk_St H a R0) = some (bk_St H2 a (sA (sA R1 9 (wr (R1.2 9) 0 12 (Rz.2 9))) 10 (wr (R1.2 10) 0 12 (Rz.2 10)))) := by
    unfold f_State_copyFrom
    rw [St_own, S_f (hq _) (by decide), Option.bind_some, St_p0, Option.bind_some, S_f (hq _) (by decide), Option.bind_some, St_p1, Option.bind_some, S_f (hq _) (by decide), Option.bind_some, St_p2, Option.bind_some, S_f (hq _) (by decide), Option.bind_some, St_p3, Option.bind_some, S_f (hq _) (by decide), Option.bind_some, St_p4, Option.bind_some, S_f (hq _) (by decide), Option.bind_some, St_p5, Option.bind_some, S_f (hq _) (by decide), Option.bind_some, St_p6, Option.bind_some, S_r7 (hq _), Option.bind_some, St_g7, Option.bind_some, il_7, St_y7 (hr _), Option.bind_some]
    have e7 : sA (sF (sF (sF (sF (sF (sF (sF R0 0 (s 0)) 1 (s 1)) 2 (s 2)) 3 (s 3)) 4 (s 4)) 5 (s 5)) 6 (s 6)) 7 (wr ((sF (sF (sF (sF (sF (sF (sF R0 0 (s 0)) 1 (s 1)) 2 (s 2)) 3 (s 3)) 4 (s 4)) 5 (s 5)) 6 (s 6)).2 7) 0 7 (Rq.2 7)) = R1 := hR1
    rw [e7]
    refine (show _ = _ from q2).trans ?_
    have w9 := St_g9 (σ := H2) (a := a) (R := R1)
    have wy := St_y9 (σ := H2) (a := a) (R := R1) (h9 R1)
    rw [St_eq i3] at w9 wy
    rw [S_r9 i2, Option.bind_some, w9, Option.bind_some, il_12, wy, Option.bind_some, S_r10 (hq2 _), Option.bind_some, St_g10, Option.bind_some, St_y10 (h10 _), Option.bind_some, sA_ne (by decide)]
  rw [St_eq x1] at fin
  refine ⟨_, fin, ⟨_, hs_bW, ⟨fun j hj => rj j hj, fun b hb => ?_, fun w hw => ?_⟩, fun c hc => ?_⟩, same_tr sm1 (same_tr i5 (same_mono same_bW (Nat.le_refl _) (by omega)))⟩
  · rw [sA_ne (by decide), sA_ne (by decide), ← hR1, sA_at]
    have := wr_in (A := R0.2 7) (base := 0) (m := 7) (g := Rq.2 7) (show b < 7 by omega)
    rw [Nat.zero_add] at this
    rw [this]
    exact y2.2.1 b hb
  · have t9 := wr_in (A := R1.2 9) (base := 0) (m := 12) (g := Rz.2 9) (show w < 12 by omega)
    have t10 := wr_in (A := R1.2 10) (base := 0) (m := 12) (g := Rz.2 10) (show w < 12 by omega)
    rw [Nat.zero_add] at t9 t10
    rw [sA_at, sA_ne (by decide), sA_at, t9, t10]
    exact z2.2.2 w hw
  · obtain ⟨Rc, g1, g2⟩ := i4 c hc
    exact ⟨Rc, hs_out g1 (by omega), g2⟩
end CPS
