/-! ===== the reference: all links are laid ===== -/
def TL (s : Nat → Int32) : Nat → List Nat := pass (nB s) (nM s) (abS s) (wlS s) (fun _ => [])
def agr (s : Nat → Int32) (tab : Nat → List Nat) : Prop := ∀ n, 0 < n → n < nB s → tab (2 * n) = TL s (2 * n) ∧ tab (2 * n + 1) = TL s (2 * n + 1)
theorem wlS_vb {s : Nat → Int32} (hs : Wf s) : ∀ b, b < nB s → VB (wlS s b) := fun b _ => wlF_vb hs.2.2.1 (nW s) 0 (by omega)
theorem tot12 {s : Nat → Int32} (hs : Wf s) : tot (nB s) (wlS s) ≤ 12 := by rw [wl_tot hs.2.1 hs.2.2.1]; exact hs.2.2.1.1.2
section MO8
variable {σ : hp_H} {r : Nat}
theorem Mo_up {s : Nat → Int32} (hs : Wf s) {K : Int32 → hp_H → Option hp_H} : ∀ (b f : Nat) (R : oR) (tab : Nat → List Nat), R.2 0 = s → b < nB s → tdA R tab → upI (nB s) (nM s) (abS s) (wlS s) b tab → ∃ R', f_Mo_lays_l1 r K (f + b + 1) (nI b) (bk_Mo σ r R) = K (nI 0) (bk_Mo σ r R') ∧ kps R R' [13] [9, 10, 12, 14] ∧ tdA R' (upP (nB s) (nM s) (abS s) (wlS s) b tab)
  | 0, f, R, tab, h0, hb, ht, hI => ⟨R, by rw [f_Mo_lays_l1, if_pos (by decide)], kps_rf, ht⟩
  | b + 1, f, R, tab, h0, hb, ht, hI => by
    have hB7 := hs.1.1.2.2
    have hB1 := hs.1.1.2.1
    obtain ⟨q1, q2⟩ := hs.1.2.2 (b + 1) (by omega) hb
    obtain ⟨i1, i2⟩ := up_inps hs.1.tree (wlS_vb hs) (by omega) hb hI
    have i3 := WU_le (wl := wlS s) hs.1.tree (by omega) (nB s) (b + 1) (by omega) hb
    have i4 := tot12 hs
    obtain ⟨R1, l1, l2, l3⟩ := Mo_laysLink (σ := σ) (r := r) hs (x := b + 1) (y := abS s (b + 1)) hb (by omega) h0 ht (by omega) i1
    obtain ⟨R2, m1, m2, m3⟩ := Mo_up hs (K := K) b f R1 _ (by rw [l2.2 0 (by decide), h0]) (by omega) l3 (up_step hs.1.tree (by omega) hs.2.2.2.2.1 (wlS_vb hs) i4 hb hI)
    refine ⟨R2, ?_, kps_tr l2 m2, m3⟩
    rw [f_Mo_lays_l1, if_neg (fun q => by have := (nI_leI (b := 0) (by omega) (by omega)).mp q; omega), Mo_g0, Option.bind_some, il_8, nI_add, Mo_a0 (by omega), Option.bind_some, h0, q1, l1, Option.bind_some, pk_m1]
    exact m1
theorem Mo_dn {s : Nat → Int32} (hs : Wf s) {K : Int32 → hp_H → Option hp_H} : ∀ (c b f : Nat) (R : oR) (tab : Nat → List Nat), R.2 0 = s → 0 < b → b + c = nB s → tdA R tab → dnI (nB s) (nM s) (abS s) (wlS s) b tab → ∃ R', f_Mo_lays_l2 r K (f + c + 1) (nI b) (bk_Mo σ r R) = K (nI (nB s)) (bk_Mo σ r R') ∧ kps R R' [13] [9, 10, 12, 14] ∧ tdA R' (dnP (nB s) (nM s) (abS s) (wlS s) c b tab)
  | 0, b, f, R, tab, h0, hb, hc, ht, hI => by
    have hB7 := hs.1.1.2.2
    have e0 : hp_aI (bk_Mo σ r R) (r + 1) 0 0 = some (R.2 0 0) := Mo_a0 (i := 0) (by decide)
    refine ⟨R, ?_, kps_rf, ht⟩
    rw [f_Mo_lays_l2, Mo_g0, Option.bind_some, e0, Option.bind_some, h0, hs.1.1.1, show b = nB s by omega, if_pos ((nI_leI (by omega) (by omega)).mpr (Nat.le_refl _))]
  | c + 1, b, f, R, tab, h0, hb, hc, ht, hI => by
    have hB7 := hs.1.1.2.2
    have hB1 := hs.1.1.2.1
    have hbB : b < nB s := by omega
    have e0 : hp_aI (bk_Mo σ r R) (r + 1) 0 0 = some (R.2 0 0) := Mo_a0 (i := 0) (by decide)
    obtain ⟨q1, q2⟩ := hs.1.2.2 b (by omega) hbB
    obtain ⟨i1, i2⟩ := dn_inps hs.1.tree (by omega) (wlS_vb hs) (by omega) hbB hI
    have i4 := tot12 hs
    obtain ⟨R1, l1, l2, l3⟩ := Mo_laysLink (σ := σ) (r := r) hs (x := abS s b) (y := b) (by omega) hbB h0 ht (by omega) i1
    obtain ⟨R2, m1, m2, m3⟩ := Mo_dn hs (K := K) c (b + 1) f R1 _ (by rw [l2.2 0 (by decide), h0]) (by omega) (by omega) l3 (dn_step hs.1.tree (by omega) hs.2.2.2.2.1 (wlS_vb hs) i4 hb hbB hI)
    refine ⟨R2, ?_, kps_tr l2 m2, m3⟩
    rw [f_Mo_lays_l2, Mo_g0, Option.bind_some, e0, Option.bind_some, h0, hs.1.1.1, if_neg (fun q => by have := (nI_leI (by omega) (by omega)).mp q; omega), Option.bind_some, il_8, nI_add, Mo_a0 (by omega), Option.bind_some, h0, q1, l1, Option.bind_some, nI_1]
    exact m1
/-- the reference's tables: some lists; if laid, those that are due -/
def laidI (R : oR) (s : Nat → Int32) : Prop := (R.1 11 = 0 ∨ R.1 11 = 1) ∧ ∃ tab, tdA R tab ∧ (R.1 11 = 1 → agr s tab)
theorem Mo_lays {s : Nat → Int32} (hs : Wf s) {R : oR} (h0 : R.2 0 = s) (hI : laidI R s) : ∃ R' tab, f_Mo_lays r (bk_Mo σ r R) = some (bk_Mo σ r R') ∧ kps R R' [11, 13] [9, 10, 12, 14] ∧ R'.1 11 = 1 ∧ tdA R' tab ∧ agr s tab := by
  obtain ⟨h11, tab, ht, ha⟩ := hI
  have hB7 := hs.1.1.2.2
  have hB1 := hs.1.1.2.1
  unfold f_Mo_lays
  rw [Mo_own, Mo_g11, Option.bind_some]
  rcases h11 with h | h
  · rw [if_pos h, Mo_p11 (Or.inr rfl), Option.bind_some]
    generalize hR0 : ((upd R.1 11 1, R.2) : oR) = R0
    have k0 : kps R R0 [11, 13] [9, 10, 12, 14] := by
      rw [← hR0]
      exact ⟨fun j hj => if_neg (fun e => hj (by rw [e]; decide)), fun _ _ => rfl⟩
    have h00 : R0.2 0 = s := by rw [k0.2 0 (by decide), h0]
    have h110 : R0.1 11 = 1 := by rw [← hR0]; exact (show upd R.1 11 1 11 = (1 : Int32) from pk_us)
    have ht0 : tdA R0 tab := by rw [← hR0]; exact ht
    have e0 : hp_aI (bk_Mo σ r R0) (r + 1) 0 0 = some (R0.2 0 0) := Mo_a0 (i := 0) (by decide)
    obtain ⟨p, hp⟩ : ∃ p, nB s = p + 1 := ⟨nB s - 1, by omega⟩
    rw [Mo_g0, Option.bind_some, e0, Option.bind_some, h00, hs.1.1.1, hp, nI_pred]
    obtain ⟨f1, hf1⟩ := hp_fu (p + 1) (by omega)
    have hf1' : f1 + p + 1 = hp_F := hf1.symm
    obtain ⟨f2, hf2⟩ := hp_fu (p + 1) (by omega)
    have hf2' : f2 + p + 1 = hp_F := hf2.symm
    have u0 : upI (nB s) (nM s) (abS s) (wlS s) p tab := fun n k1 k2 => by omega
    obtain ⟨R1, a1, a2, a3⟩ := Mo_up (σ := σ) (r := r) hs (K := fun z9 σ => f_Mo_lays_l2 r (fun z16 σ => some σ) hp_F 1 σ) p f1 R0 tab h00 (by omega) ht0 u0
    rw [hf1'] at a1
    have u1 := up_all hs.1.tree (by omega) hs.2.2.2.2.1 (wlS_vb hs) (tot12 hs) p tab (by omega) u0
    obtain ⟨R2, b1, b2, b3⟩ := Mo_dn (σ := σ) (r := r) hs (K := fun z16 σ => some σ) p 1 f2 R1 _ (by rw [a2.2 0 (by decide), h00]) (by omega) (by omega) a3 ⟨u1, fun n k1 k2 => by omega⟩
    rw [hf2'] at b1
    have hm : ∀ (A B : oR), kps A B [13] [9, 10, 12, 14] → kps A B [11, 13] [9, 10, 12, 14] := fun A B q => kps_mono q (fun j h => by rw [List.mem_singleton.mp h]; decide) (fun _ h => h)
    refine ⟨R2, _, ?_, kps_tr k0 (kps_tr (hm _ _ a2) (hm _ _ b2)), ?_, b3, ?_⟩
    · refine a1.trans ?_
      exact b1
    · rw [b2.1 11 (by decide), a2.1 11 (by decide), h110]
    · intro n k1 k2
      have := pass_same (m := nM s) (wl := wlS s) hs.1.tree (by omega) tab (fun _ => []) n k1 k2
      have ep : dnP (nB s) (nM s) (abS s) (wlS s) p 1 (upP (nB s) (nM s) (abS s) (wlS s) p tab) = pass (nB s) (nM s) (abS s) (wlS s) tab := by
        unfold pass
        rw [show nB s - 1 = p by omega]
      rw [ep]
      exact this
  · rw [h, if_neg (by decide)]
    exact ⟨R, tab, rfl, kps_rf, h, ht, ha h⟩
end MO8
