/-! ===== the class: the book, draws, images ===== -/
theorem Book_eq {σ : hp_H} {a : Nat} {R : oR} (h : hs σ a 3 (ce_Book a R)) : bk_Book σ a R = σ := hs_eq h
theorem Draws_eq {σ : hp_H} {a : Nat} {R : oR} (h : hs σ a 1 (ce_Draws a R)) : bk_Draws σ a R = σ := hs_eq h
def BkI (H : hp_H) (q n : Nat) (B1 B2 : Nat → Int32) : Prop := n ≤ 20 ∧ ∃ RB, hs H q 3 (ce_Book q RB) ∧ RB.1 2 = nI n ∧ ∀ i, i < n → RB.2 0 i = B1 i ∧ RB.2 1 i = B2 i
def DrI (H : hp_H) (q v : Nat) : Prop := v < 2 ^ 31 ∧ ∃ RD, hs H q 1 (ce_Draws q RD) ∧ RD.1 0 = nI v
theorem BkI_same {H H' : hp_H} {q n b m : Nat} {B1 B2 : Nat → Int32} (h : BkI H q n B1 B2) (hw : same H H' b m) (d : q + 3 ≤ b ∨ b + m ≤ q) : BkI H' q n B1 B2 := by
  obtain ⟨h0, RB, h1, h2⟩ := h
  exact ⟨h0, RB, hs_same h1 hw d, h2⟩
theorem DrI_same {H H' : hp_H} {q v b m : Nat} (h : DrI H q v) (hw : same H H' b m) (d : q + 1 ≤ b ∨ b + m ≤ q) : DrI H' q v := by
  obtain ⟨h0, RB, h1, h2⟩ := h
  exact ⟨h0, RB, hs_same h1 hw d, h2⟩
section BOO
variable {H : hp_H} {q st n v : Nat} {B1 B2 s : Nat → Int32}
theorem B_cnt (h : BkI H q n B1 B2) : hp_gI H q 0 2 = some (nI n) := by
  obtain ⟨h0, RB, h1, h2, h3⟩ := h
  have := Book_g2 (σ := H) (a := q) (R := RB)
  rw [Book_eq h1, h2] at this
  exact this
theorem B_add (h : BkI H q n B1 B2) (hn : n < 20) {c x : Int32} : ∃ H', f_Book_add q c x H = some H' ∧ BkI H' q (n + 1) (upd B1 n c) (upd B2 n x) ∧ same H H' q 3 := by
  obtain ⟨h0, RB, h1, h2, h3⟩ := h
  have e : f_Book_add q c x (bk_Book H q RB) = some (bk_Book H q (sF (sA (sA RB 0 (upd (RB.2 0) n c)) 1 (upd (RB.2 1) n x)) 2 (nI (n + 1)))) := by
    have g : ∀ A : oR, A.1 = RB.1 → A.1 2 = nI n := fun A hA => by rw [hA]; exact h2
    unfold f_Book_add
    rw [Book_own, Book_g0, Option.bind_some, Book_g2, Option.bind_some, h2, Book_s0 hn, Option.bind_some, Book_g1, Option.bind_some, Book_g2, Option.bind_some, g _ rfl, Book_s1 hn, Option.bind_some, Book_g2, Option.bind_some, g _ rfl, nI_1, Book_p2, Option.bind_some]
    rfl
  rw [Book_eq h1] at e
  refine ⟨_, e, ⟨by omega, _, hs_bW, sF_at, fun i hi => ?_⟩, same_bW⟩
  rw [sF_2, sA_ne (by decide), sA_at, sA_at]
  by_cases hin : i = n
  · rw [hin, upd_at, upd_at, upd_at, upd_at]
    exact ⟨rfl, rfl⟩
  · rw [upd_ne hin, upd_ne hin, upd_ne hin, upd_ne hin]
    exact h3 i (by omega)
theorem B_tea (h : BkI H q n B1 B2) : ∃ H', hp_pI H q 0 2 0 = some H' ∧ BkI H' q 0 B1 B2 ∧ same H H' q 3 := by
  obtain ⟨h0, RB, h1, h2, h3⟩ := h
  have e := Book_p2 (σ := H) (a := q) (R := RB) (x := 0)
  rw [Book_eq h1] at e
  exact ⟨_, e, ⟨by omega, _, hs_bW, (show upd RB.1 2 0 2 = nI 0 from upd_at), fun i hi => by omega⟩, same_bW⟩
theorem B_fw1 (h : BkI H q n B1 B2) (hS : StI H st s) (wf : Wf s) : ∀ (m k f : Nat), k + m = n → f_Book_firstWrong_l1 q st H (fun _ => some (-1)) (f + m + 1) (nI k) = some (frst (badE s B1 B2) m k)
  | 0, k, f, e => by
    have h20 := h.1
    rw [f_Book_firstWrong_l1, B_cnt h, Option.bind_some, show k = n by omega, if_pos ((nI_leI (by omega) (by omega)).mpr (Nat.le_refl _))]
    rfl
  | m + 1, k, f, e => by
    have hC6 := wf.2.1.1.2
    obtain ⟨h0, RB, h1, h2, h3⟩ := id h
    have w0 := Book_g0 (σ := H) (a := q) (R := RB)
    have w1 := Book_g1 (σ := H) (a := q) (R := RB)
    have a0 := Book_a0 (σ := H) (a := q) (R := RB) (i := k) (by omega)
    have a1 := Book_a1 (σ := H) (a := q) (R := RB) (i := k) (by omega)
    rw [Book_eq h1] at w0 w1 a0 a1
    rw [(h3 k (by omega)).1] at a0
    rw [(h3 k (by omega)).2] at a1
    have ih := B_fw1 h hS wf m (k + 1) f (by omega)
    rw [f_Book_firstWrong_l1, B_cnt h, Option.bind_some, if_neg (fun q => by have := (nI_leI (by omega) (by omega)).mp q; omega), w0, Option.bind_some, a0, Option.bind_some, S_hc hS wf, Option.bind_some, frst]
    by_cases hx : inI (B1 k) (nC s)
    · obtain ⟨c, hc, ec⟩ := inI_of hx (by omega)
      obtain ⟨Rc, g1, g2⟩ := S_cl hS wf hc
      have hb := badE_y (B := B2) hx
      have hy : s (18 + 25 * (B1 k).toNatClampNeg) = s (18 + 25 * c) := by rw [ec, nI_cl (by omega)]
      rw [hy] at hb
      rw [tst_y hx, S_r8 hS, Option.bind_some, ec, S_cr hS (by omega), Option.bind_some, C_f g1 (by decide), Option.bind_some, g2.2.2.1, w1, Option.bind_some, a1, Option.bind_some, nI_1]
      by_cases he : s (18 + 25 * c) = B2 k
      · rw [if_pos he, if_neg (fun q => hb.mp q he)]
        exact ih
      · rw [if_neg he, if_pos (hb.mpr he)]
    · rw [tst_n hx, if_pos (badE_no hx)]
theorem B_fw (h : BkI H q n B1 B2) (hS : StI H st s) (wf : Wf s) : f_Book_firstWrong q st H = some (frst (badE s B1 B2) n 0) := by
  have h20 := h.1
  obtain ⟨f, hf⟩ := hp_fu (n + 1) (by omega)
  have hf' : f + n + 1 = hp_F := hf.symm
  have e := B_fw1 h hS wf n 0 f (by omega)
  rw [hf'] at e
  obtain ⟨h0, RB, h1, h2, h3⟩ := id h
  have wo := Book_own (σ := H) (a := q) (R := RB) (x := f_Book_firstWrong_l1 q st H (fun z14 => some (-1)) hp_F 0)
  rw [Book_eq h1] at wo
  unfold f_Book_firstWrong
  rw [wo]
  exact e
theorem D_val (h : DrI H q v) : hp_gI H q 3 0 = some (nI v) := by
  obtain ⟨h0, RD, h1, h2⟩ := h
  have := Draws_g0 (σ := H) (a := q) (R := RD)
  rw [Draws_eq h1, h2] at this
  exact this
theorem D_put (h : DrI H q v) {u : Nat} (hu : u < 2 ^ 31) : ∃ H', hp_pI H q 3 0 (nI u) = some H' ∧ DrI H' q u ∧ same H H' q 1 := by
  obtain ⟨h0, RD, h1, h2⟩ := h
  have e := Draws_p0 (σ := H) (a := q) (R := RD) (x := nI u)
  rw [Draws_eq h1] at e
  exact ⟨_, e, ⟨hu, _, hs_bW, (show upd RD.1 0 (nI u) 0 = nI u from upd_at)⟩, same_bW⟩
theorem drw_c {v d : Nat} (hd : drw v = d) : ((nI v * 1103515245) + 12345) &&& 2147483647 = nI d := by
  have l1 : (1103515245 : Int32) = nI 1103515245 := rfl
  have l2 : (12345 : Int32) = nI 12345 := rfl
  unfold drw at hd
  rw [l1, l2, pk_mul, nI_add, pk_and _ 31 (by decide)]
  generalize v * 1103515245 + 12345 = X at hd
  have e : (nI X).toBitVec.toNat = X % 2 ^ 32 := BitVec.toNat_ofNat _ _
  refine congrArg nI ?_
  rw [e]
  omega
theorem D_drw (h : DrI H q v) {m d : Nat} (hd : drw v = d) (h0m : 0 < m) (hm : m < 2 ^ 31) : ∃ H', f_Draws_draw q (nI m) H = some (nI (d / 65536 % m), H') ∧ DrI H' q d ∧ same H H' q 1 := by
  have hdl : d < 2 ^ 31 := by rw [← hd]; exact drw_lt
  obtain ⟨H', e1, e2, e3⟩ := D_put h hdl
  have l3 : (65536 : Int32) = nI 65536 := rfl
  obtain ⟨h0, RD, h1, h2⟩ := id h
  have wo := fun x => Draws_own (σ := H) (a := q) (R := RD) (α := Int32 × hp_H) (x := x)
  rw [Draws_eq h1] at wo
  have hz : ¬ nI m = 0 := fun q => by have := (nI_eq (b := 0) hm (by omega)).mp q; omega
  have hz2 : ¬ nI m ≤ 0 := fun q => by have := (nI_leI (b := 0) hm (by omega)).mp q; omega
  have hq : d / 65536 < 2 ^ 31 := Nat.lt_of_le_of_lt (Nat.div_le_self _ _) hdl
  refine ⟨H', ?_, e2, e3⟩
  unfold f_Draws_draw
  rw [wo, D_val h, Option.bind_some, drw_c hd, e1, Option.bind_some, if_neg hz2, D_val e2, Option.bind_some]
  unfold hp_nz
  rw [if_neg hz, l3, pk_div hdl (by decide) (by decide), pk_rem hq h0m hm]
end BOO
