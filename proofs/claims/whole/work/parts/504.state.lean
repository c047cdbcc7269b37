/-! ===== a State of the class and a row ===== -/
def SR (R : oR) (s : Nat → Int32) : Prop := (∀ j, j < 7 → R.1 j = s j) ∧ (∀ b, b < nB s → R.2 7 b = s (8 + b)) ∧ ∀ w, w < nW s → R.2 9 w = s (170 + 7 * w) ∧ R.2 10 w = nI (wbx s w)
def StI (H : hp_H) (a : Nat) (s : Nat → Int32) : Prop := ∃ R, hs H a 5 (ce_St a R) ∧ SR R s ∧ ∀ c, c < 6 → ∃ Rc, hs H (a + 5 + 3 * c) 3 (ce_Client (a + 5 + 3 * c) Rc) ∧ (c < nC s → CR Rc c s)
theorem StI_same {H H' : hp_H} {a b m : Nat} {s : Nat → Int32} (h : StI H a s) (hw : same H H' b m) (d : a + 23 ≤ b ∨ b + m ≤ a) : StI H' a s := by
  obtain ⟨R, h1, h2, h3⟩ := h
  refine ⟨R, hs_same h1 hw (by omega), h2, fun c hc => ?_⟩
  obtain ⟨Rc, g1, g2⟩ := h3 c hc
  exact ⟨Rc, hs_same g1 hw (by omega), g2⟩
theorem Client_eq {σ : hp_H} {a : Nat} {R : oR} (h : hs σ a 3 (ce_Client a R)) : bk_Client σ a R = σ := hs_eq h
section STR
variable {H : hp_H} {a : Nat} {s : Nat → Int32}
theorem S_own (h : StI H a s) {α : Type} {x : Option α} : hp_own H a 7 x = x := by
  obtain ⟨R, h1, -⟩ := h
  have := St_own (σ := H) (a := a) (R := R) (x := x)
  rw [St_eq h1] at this
  exact this
theorem S_f (h : StI H a s) {j : Nat} (hj : j < 7) : hp_gI H a 7 j = some (s j) := by
  obtain ⟨R, h1, h2, -⟩ := h
  have : hp_gI (bk_St H a R) a 7 j = some (R.1 j) := by
    match j, hj with
    | 0, _ => exact St_g0
    | 1, _ => exact St_g1
    | 2, _ => exact St_g2
    | 3, _ => exact St_g3
    | 4, _ => exact St_g4
    | 5, _ => exact St_g5
    | 6, _ => exact St_g6
  rw [St_eq h1] at this
  rw [this, h2.1 j hj]
theorem S_r7 (h : StI H a s) : hp_gR H a 7 7 = some (a + 1) := by
  obtain ⟨R, h1, -⟩ := h
  have := St_g7 (σ := H) (a := a) (R := R)
  rw [St_eq h1] at this
  exact this
theorem S_r8 (h : StI H a s) : hp_gR H a 7 8 = some (a + 2) := by
  obtain ⟨R, h1, -⟩ := h
  have := St_g8 (σ := H) (a := a) (R := R)
  rw [St_eq h1] at this
  exact this
theorem S_r9 (h : StI H a s) : hp_gR H a 7 9 = some (a + 3) := by
  obtain ⟨R, h1, -⟩ := h
  have := St_g9 (σ := H) (a := a) (R := R)
  rw [St_eq h1] at this
  exact this
theorem S_r10 (h : StI H a s) : hp_gR H a 7 10 = some (a + 4) := by
  obtain ⟨R, h1, -⟩ := h
  have := St_g10 (σ := H) (a := a) (R := R)
  rw [St_eq h1] at this
  exact this
theorem S_ab (h : StI H a s) (hs : Wf s) {b : Nat} (hb : b < nB s) : hp_aI H (a + 1) 0 (nI b) = some (s (8 + b)) := by
  have hB7 := hs.1.1.2.2
  obtain ⟨R, h1, h2, -⟩ := h
  have := St_a7 (σ := H) (a := a) (R := R) (i := b) (by omega)
  rw [St_eq h1] at this
  rw [this, h2.2.1 b hb]
theorem S_cr (h : StI H a s) {c : Nat} (hc : c < 6) : hp_aR H (a + 2) 3 (nI c) = some (a + 5 + 3 * c) := by
  obtain ⟨R, h1, -⟩ := h
  have := St_a8 (σ := H) (a := a) (R := R) hc
  rw [St_eq h1] at this
  exact this
theorem S_ow (h : StI H a s) (hs : Wf s) {w : Nat} (hw : w < nW s) : hp_aI H (a + 3) 0 (nI w) = some (s (170 + 7 * w)) := by
  have hW := hs.2.2.1.1.2
  obtain ⟨R, h1, h2, -⟩ := h
  have := St_a9 (σ := H) (a := a) (R := R) (i := w) (by omega)
  rw [St_eq h1] at this
  rw [this, (h2.2.2 w hw).1]
theorem S_bx (h : StI H a s) (hs : Wf s) {w : Nat} (hw : w < nW s) : hp_aI H (a + 4) 0 (nI w) = some (nI (wbx s w)) := by
  have hW := hs.2.2.1.1.2
  obtain ⟨R, h1, h2, -⟩ := h
  have := St_a10 (σ := H) (a := a) (R := R) (i := w) (by omega)
  rw [St_eq h1] at this
  rw [this, (h2.2.2 w hw).2]
theorem S_cl (h : StI H a s) (wf : Wf s) {c : Nat} (hc : c < nC s) : ∃ Rc, hs H (a + 5 + 3 * c) 3 (ce_Client (a + 5 + 3 * c) Rc) ∧ CR Rc c s := by
  have hC6 := wf.2.1.1.2
  obtain ⟨R, -, -, h3⟩ := h
  obtain ⟨Rc, g1, g2⟩ := h3 c (by omega)
  exact ⟨Rc, g1, g2 hc⟩
end STR
