/-! ===== the class: images; all its parts ===== -/
def rwI (I : Nat → Int32) (i : Nat) : Nat → Int32 := fun t => I (257 * i + t)
def ImO (H : hp_H) (q : Nat) (I Fl : Nat → Int32) (i : Nat) : Prop := ∃ RI, hs H q 1 (ce_Im q RI) ∧ RI.1 2 = Fl i ∧ (Fl i = 0 ∨ Fl i = 1) ∧ StX H (q + 1) ∧ (Fl i ≠ 0 → StI H (q + 1) (rwI I i) ∧ Wf (rwI I i) ∧ RI.1 1 = I (257 * i + 256) ∧ ∃ v, v < 2 ^ 31 ∧ I (257 * i + 256) = nI v)
def ImI (H : hp_H) (q : Nat) (I Fl : Nat → Int32) : Prop := ∀ i, i < 2 → ImO H (q + 24 * i) I Fl i
theorem ImO_same {H H' : hp_H} {q i b m : Nat} {I Fl : Nat → Int32} (h : ImO H q I Fl i) (hw : same H H' b m) (d : q + 24 ≤ b ∨ b + m ≤ q) : ImO H' q I Fl i := by
  obtain ⟨RI, h1, h2, h3, h4, h5⟩ := h
  exact ⟨RI, hs_same h1 hw (by omega), h2, h3, StX_same h4 hw (by omega), fun q => ⟨StI_same (h5 q).1 hw (by omega), (h5 q).2⟩⟩
theorem ImI_same {H H' : hp_H} {q b m : Nat} {I Fl : Nat → Int32} (h : ImI H q I Fl) (hw : same H H' b m) (d : q + 48 ≤ b ∨ b + m ≤ q) : ImI H' q I Fl := fun i hi => ImO_same (h i hi) hw (by omega)
theorem ImO_congr {H : hp_H} {q i : Nat} {I I' Fl Fl' : Nat → Int32} (h : ImO H q I Fl i) (e1 : ∀ t, t < 257 → I' (257 * i + t) = I (257 * i + t)) (e2 : Fl' i = Fl i) : ImO H q I' Fl' i := by
  obtain ⟨RI, h1, h2, h3, h4, h5⟩ := h
  refine ⟨RI, h1, by rw [e2]; exact h2, by rw [e2]; exact h3, h4, fun q => ?_⟩
  rw [e2] at q
  obtain ⟨g1, g2, g3, g4⟩ := h5 q
  have e : ∀ t, t < 256 → rwI I' i t = rwI I i t := fun t ht => e1 t (by omega)
  exact ⟨StI_256 g1 g2 e, Wf_256 g2 e, by rw [e1 256 (by decide)]; exact g3, by rw [e1 256 (by decide)]; exact g4⟩
section IMG
variable {H : hp_H} {q st dr v i : Nat} {I Fl s : Nat → Int32}
theorem Im_flag (h : ImO H q I Fl i) : hp_gI H q 4 2 = some (Fl i) := by
  obtain ⟨RI, h1, h2, -⟩ := h
  have := Im_g2 (σ := H) (a := q) (R := RI)
  rw [Im_eq h1, h2] at this
  exact this
theorem Im_take (wf : Wf s) (h : ImO H q I Fl i) (hS : StI H st s) (hD : DrI H dr v) (d1 : q + 24 ≤ st ∨ st + 23 ≤ q) (d2 : q + 24 ≤ dr ∨ dr + 1 ≤ q) : ∃ H', f_Image_take q st dr H = some H' ∧ ImO H' q (upd (wr I (257 * i) 256 s) (257 * i + 256) (nI v)) (upd Fl i 1) i ∧ same H H' q 24 := by
  obtain ⟨RI, h1, h2, h3, h4, h5⟩ := h
  obtain ⟨H1, c1, c2, c3⟩ := S_cop (a := q + 1) (q := st) wf (by omega) hS h4
  have g1 : hs H1 q 1 (ce_Im q RI) := hs_same h1 c3 (by omega)
  have wo := fun x => Im_own (σ := H) (a := q) (R := RI) (α := hp_H) (x := x)
  have w0 := Im_g0 (σ := H) (a := q) (R := RI)
  have w1 := Im_p1 (σ := H1) (a := q) (R := RI) (x := nI v)
  rw [Im_eq h1] at wo w0
  rw [Im_eq g1] at w1
  have hl : q < q + 1 := by omega
  have hD1 := DrI_same hD c3 (by omega)
  have er : ∀ t, t < 256 → rwI (upd (wr I (257 * i) 256 s) (257 * i + 256) (nI v)) i t = s t := fun t ht => by
    unfold rwI
    rw [upd_ne (by omega), wr_in ht]
  refine ⟨bk_Im H1 q (sF (sF RI 1 (nI v)) 2 1), ?_, ⟨_, hs_bW, by rw [sF_at, upd_at], by rw [upd_at]; exact Or.inr rfl, StI_X (StI_same c2 same_bW (by omega)), fun _ => ⟨StI_256 (StI_same c2 same_bW (by omega)) wf er, Wf_256 wf er, by rw [sF_ne (by decide), sF_at, upd_at], v, hD.1, upd_at⟩⟩, same_tr (same_mono c3 (by omega) (by omega)) (same_mono same_bW (Nat.le_refl _) (by omega))⟩
  unfold f_Image_take
  rw [wo, w0, Option.bind_some, c1, Option.bind_some, D_val hD1, Option.bind_some, w1, Option.bind_some, Im_p2 (Or.inr rfl), Option.bind_some]
theorem Im_give (h : ImO H q I Fl i) (hF : Fl i ≠ 0) (hX : StX H st) (hD : DrI H dr v) (d1 : q + 24 ≤ st ∨ st + 23 ≤ q) (d2 : q + 24 ≤ dr ∨ dr + 1 ≤ q) (d3 : st + 23 ≤ dr ∨ dr + 1 ≤ st) : ∃ H1 H' u, f_Image_giveBack q st dr H = some H' ∧ same H H1 st 23 ∧ same H1 H' dr 1 ∧ StI H' st (rwI I i) ∧ Wf (rwI I i) ∧ DrI H' dr u ∧ I (257 * i + 256) = nI u := by
  obtain ⟨RI, h1, h2, h3, h4, h5⟩ := h
  obtain ⟨g1, g2, g3, u, g4, g5⟩ := h5 hF
  obtain ⟨H1, c1, c2, c3⟩ := S_cop (a := st) (q := q + 1) g2 (by omega) g1 hX
  have k1 : hs H1 q 1 (ce_Im q RI) := hs_same h1 c3 (by omega)
  have wo := fun x => Im_own (σ := H) (a := q) (R := RI) (α := hp_H) (x := x)
  have w0 := Im_g0 (σ := H) (a := q) (R := RI)
  have w1 := Im_g1 (σ := H1) (a := q) (R := RI)
  rw [Im_eq h1] at wo w0
  rw [Im_eq k1, g3, g5] at w1
  obtain ⟨H2, e1, e2, e3⟩ := D_put (DrI_same hD c3 (by omega)) g4
  refine ⟨H1, H2, u, ?_, c3, e3, StI_same c2 e3 (by omega), g2, e2, g5⟩
  unfold f_Image_giveBack
  rw [wo, w0, Option.bind_some, c1, Option.bind_some, w1, Option.bind_some, e1, Option.bind_some]
end IMG
def ce_Ims (c : Nat) : Nat → hp_V := fun _ => .inr (.inr (4, 2, fun i => if i < 2 then some (c + 432 + 24 * i) else none))
def zR : oR := (fun _ => 0, fun _ _ => 0)
def NBo (H : hp_H) (c : Nat) : Prop := hs H c 1 (ce_NB c zR) ∧ hs H (c + 431) 1 (ce_Ims c)
theorem NBo_same {H H' : hp_H} {c b m : Nat} (h : NBo H c) (hw : same H H' b m) (d1 : c + 1 ≤ b ∨ b + m ≤ c) (d2 : c + 432 ≤ b ∨ b + m ≤ c + 431) : NBo H' c := ⟨hs_same h.1 hw d1, hs_same h.2 hw (by omega)⟩
section NBO
variable {H : hp_H} {c : Nat}
theorem N_own (h : NBo H c) {α : Type} {x : Option α} : hp_own H c 9 x = x := by
  have := NB_own (σ := H) (a := c) (R := zR) (x := x)
  rw [NB_eq h.1] at this
  exact this
theorem N_0 (h : NBo H c) : hp_gR H c 9 0 = some (c + 1) := by
  have := NB_g0 (σ := H) (a := c) (R := zR)
  rw [NB_eq h.1] at this
  exact this
theorem N_1 (h : NBo H c) : hp_gR H c 9 1 = some (c + 24) := by
  have := NB_g1 (σ := H) (a := c) (R := zR)
  rw [NB_eq h.1] at this
  exact this
theorem N_2 (h : NBo H c) : hp_gR H c 9 2 = some (c + 55) := by
  have := NB_g2 (σ := H) (a := c) (R := zR)
  rw [NB_eq h.1] at this
  exact this
theorem N_3 (h : NBo H c) : hp_gR H c 9 3 = some (c + 57) := by
  have := NB_g3 (σ := H) (a := c) (R := zR)
  rw [NB_eq h.1] at this
  exact this
theorem N_4 (h : NBo H c) : hp_gR H c 9 4 = some (c + 427) := by
  have := NB_g4 (σ := H) (a := c) (R := zR)
  rw [NB_eq h.1] at this
  exact this
theorem N_5 (h : NBo H c) : hp_gR H c 9 5 = some (c + 430) := by
  have := NB_g5 (σ := H) (a := c) (R := zR)
  rw [NB_eq h.1] at this
  exact this
theorem N_6 (h : NBo H c) : hp_gR H c 9 6 = some (c + 431) := by
  have := NB_g6 (σ := H) (a := c) (R := zR)
  rw [NB_eq h.1] at this
  exact this
theorem N_im (h : NBo H c) {i : Nat} (hi : i < 2) : hp_aR H (c + 431) 4 (nI i) = some (c + 432 + 24 * i) := by
  have := bk_aR (σ := H) (a := c + 431) (n := 1) (k := 0) (q := c + 431) (f := ce_Ims c) (by decide) rfl rfl hi (by decide)
  rw [hs_eq h.2] at this
  rw [this, if_pos hi]
end NBO
/-- all parts of the class but what is told on -/
def CB (H : hp_H) (c : Nat) (s A : Nat → Int32) (k : Nat) (I Fl : Nat → Int32) (n : Nat) (B1 B2 : Nat → Int32) (v : Nat) : Prop := Wf s ∧ NBo H c ∧ StI H (c + 1) s ∧ (∃ J, hs H (c + 55) 2 (ce_Journey (c + 55) J)) ∧ PaI H (c + 57) A k ∧ BkI H (c + 427) n B1 B2 ∧ DrI H (c + 430) v ∧ ImI H (c + 432) I Fl
theorem TeOK_same {H H' : hp_H} {t b m : Nat} {s : Nat → Int32} (h : TeOK H t s) (hw : same H H' b m) (d : t + 31 ≤ b ∨ b + m ≤ t) : TeOK H' t s := by
  obtain ⟨fr, tab, h1, h2⟩ := h
  exact ⟨fr, tab, TeI_same h1 hw d, h2⟩
section CBS
variable {H H' : hp_H} {c : Nat} {s A : Nat → Int32} {k : Nat} {I Fl : Nat → Int32} {n : Nat} {B1 B2 : Nat → Int32} {v : Nat}
theorem CB_same {b m : Nat} (h : CB H c s A k I Fl n B1 B2 v) (hw : same H H' b m) (d : c + 480 ≤ b ∨ b + m ≤ c) : CB H' c s A k I Fl n B1 B2 v := by
  obtain ⟨h0, h1, h2, ⟨J, h3⟩, h4, h5, h6, h7⟩ := h
  exact ⟨h0, NBo_same h1 hw (by omega) (by omega), StI_same h2 hw (by omega), ⟨J, hs_same h3 hw (by omega)⟩, PaI_same h4 hw (by omega), BkI_same h5 hw (by omega), DrI_same h6 hw (by omega), ImI_same h7 hw (by omega)⟩
theorem CB_S {s' : Nat → Int32} (h : CB H c s A k I Fl n B1 B2 v) (hw : same H H' (c + 1) 23) (wf : Wf s') (hS : StI H' (c + 1) s') : CB H' c s' A k I Fl n B1 B2 v := by
  obtain ⟨h0, h1, h2, ⟨J, h3⟩, h4, h5, h6, h7⟩ := h
  exact ⟨wf, NBo_same h1 hw (by omega) (by omega), hS, ⟨J, hs_same h3 hw (by omega)⟩, PaI_same h4 hw (by omega), BkI_same h5 hw (by omega), DrI_same h6 hw (by omega), ImI_same h7 hw (by omega)⟩
theorem CB_T (h : CB H c s A k I Fl n B1 B2 v) (hw : same H H' (c + 24) 31) : CB H' c s A k I Fl n B1 B2 v := by
  obtain ⟨h0, h1, h2, ⟨J, h3⟩, h4, h5, h6, h7⟩ := h
  exact ⟨h0, NBo_same h1 hw (by omega) (by omega), StI_same h2 hw (by omega), ⟨J, hs_same h3 hw (by omega)⟩, PaI_same h4 hw (by omega), BkI_same h5 hw (by omega), DrI_same h6 hw (by omega), ImI_same h7 hw (by omega)⟩
theorem CB_J {J' : oR} (h : CB H c s A k I Fl n B1 B2 v) (hw : same H H' (c + 55) 2) (hJ : hs H' (c + 55) 2 (ce_Journey (c + 55) J')) : CB H' c s A k I Fl n B1 B2 v := by
  obtain ⟨h0, h1, h2, -, h4, h5, h6, h7⟩ := h
  exact ⟨h0, NBo_same h1 hw (by omega) (by omega), StI_same h2 hw (by omega), ⟨J', hJ⟩, PaI_same h4 hw (by omega), BkI_same h5 hw (by omega), DrI_same h6 hw (by omega), ImI_same h7 hw (by omega)⟩
theorem CB_P {A' : Nat → Int32} {k' : Nat} (h : CB H c s A k I Fl n B1 B2 v) (hw : same H H' (c + 57) 370) (hP : PaI H' (c + 57) A' k') : CB H' c s A' k' I Fl n B1 B2 v := by
  obtain ⟨h0, h1, h2, ⟨J, h3⟩, h4, h5, h6, h7⟩ := h
  exact ⟨h0, NBo_same h1 hw (by omega) (by omega), StI_same h2 hw (by omega), ⟨J, hs_same h3 hw (by omega)⟩, hP, BkI_same h5 hw (by omega), DrI_same h6 hw (by omega), ImI_same h7 hw (by omega)⟩
theorem CB_B {n' : Nat} {C1 C2 : Nat → Int32} (h : CB H c s A k I Fl n B1 B2 v) (hw : same H H' (c + 427) 3) (hB : BkI H' (c + 427) n' C1 C2) : CB H' c s A k I Fl n' C1 C2 v := by
  obtain ⟨h0, h1, h2, ⟨J, h3⟩, h4, h5, h6, h7⟩ := h
  exact ⟨h0, NBo_same h1 hw (by omega) (by omega), StI_same h2 hw (by omega), ⟨J, hs_same h3 hw (by omega)⟩, PaI_same h4 hw (by omega), hB, DrI_same h6 hw (by omega), ImI_same h7 hw (by omega)⟩
theorem CB_D {v' : Nat} (h : CB H c s A k I Fl n B1 B2 v) (hw : same H H' (c + 430) 1) (hD : DrI H' (c + 430) v') : CB H' c s A k I Fl n B1 B2 v' := by
  obtain ⟨h0, h1, h2, ⟨J, h3⟩, h4, h5, h6, h7⟩ := h
  exact ⟨h0, NBo_same h1 hw (by omega) (by omega), StI_same h2 hw (by omega), ⟨J, hs_same h3 hw (by omega)⟩, PaI_same h4 hw (by omega), BkI_same h5 hw (by omega), hD, ImI_same h7 hw (by omega)⟩
theorem CB_I {I' Fl' : Nat → Int32} (h : CB H c s A k I Fl n B1 B2 v) (hw : same H H' (c + 432) 48) (hI : ImI H' (c + 432) I' Fl') : CB H' c s A k I' Fl' n B1 B2 v := by
  obtain ⟨h0, h1, h2, ⟨J, h3⟩, h4, h5, h6, h7⟩ := h
  exact ⟨h0, NBo_same h1 hw (by omega) (by omega), StI_same h2 hw (by omega), ⟨J, hs_same h3 hw (by omega)⟩, PaI_same h4 hw (by omega), BkI_same h5 hw (by omega), DrI_same h6 hw (by omega), hI⟩
end CBS
