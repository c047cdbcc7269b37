/-! ===== the reference: goBack, write, draws, refusals ===== -/
/-- the next drawn number -/
def drw (v : Nat) : Nat := (v * 1103515245 + 12345) % 2147483648
theorem drw_lt {v : Nat} : drw v < 2 ^ 31 := Nat.mod_lt _ (by decide)
section MO20
variable {σ : hp_H} {r : Nat} {R : oR} {x y : Int32}
theorem Mo_drw {v m : Nat} (hv : v < 2 ^ 31) (h1 : R.1 1 = nI v) (h0 : 0 < m) (hm : m < 2 ^ 31) : f_Mo_draws r (nI m) (bk_Mo σ r R) = some (nI (drw v / 65536 % m), bk_Mo σ r (sF R 1 (nI (drw v)))) := by
  have l1 : (1103515245 : Int64) = lN 1103515245 := rfl
  have l2 : (12345 : Int64) = lN 12345 := rfl
  have l3 : (2147483648 : Int64) = lN 2147483648 := rfl
  have p1 : ∀ v : Int32, hp_pI (bk_Mo σ r R) r 10 1 v = some (bk_Mo σ r (sF R 1 v)) := fun v => Mo_p1
  have hd : drw v < 2 ^ 31 := drw_lt
  have hq : drw v / 65536 < 2 ^ 31 := Nat.lt_of_le_of_lt (Nat.div_le_self _ _) hd
  have hz : ¬ nI m = 0 := fun q => by have := (nI_eq (b := 0) hm (by omega)).mp q; omega
  have hb : v * 1103515245 + 12345 < 2 ^ 63 := by omega
  unfold f_Mo_draws
  rw [Mo_own, Mo_g1, Option.bind_some, h1, nI_l hv, l1, l2, l3, lN_mul, lN_add, pk_lRem hb (by decide) (by decide), lN_i, p1, Option.bind_some, Mo_g1, Option.bind_some, sF_at]
  unfold hp_nz
  rw [if_neg hz]
  have e : nI ((v * 1103515245 + 12345) % 2147483648) / 65536 = nI (drw v / 65536) := pk_div hd (by decide) (by decide)
  rw [e, pk_rem hq h0 hm]
  rfl
theorem Mo_gb1 {s g : Nat → Int32} {i : Nat} (hi : i < 2) (hg : ∀ t, g t = R.2 4 (257 * i + t)) {K : Int32 → hp_H → Option (Int32 × hp_H)} : ∀ (m t f : Nat), t + m = 256 → f_Mo_goBack_l1 r (nI i) K (f + m + 1) (nI t) (bk_Mo σ r (sA R 0 (wr s 0 t g))) = K (nI 256) (bk_Mo σ r (sA R 0 (wr s 0 256 g)))
  | 0, t, f, h => by
    rw [show t = 256 by omega, f_Mo_goBack_l1, il_256, if_pos ((nI_leI (by omega) (by omega)).mpr (Nat.le_refl _))]
  | m + 1, t, f, h => by
    have e : upd (wr s 0 t g) t (R.2 4 (257 * i + t)) = wr s 0 (t + 1) g := by
      have := wr_s (A := s) (base := 0) (m := t) (g := g)
      rw [Nat.zero_add, hg] at this
      exact this
    have e2 : (sA R 0 (wr s 0 t g)).2 4 = R.2 4 := sA_ne (by decide)
    rw [f_Mo_goBack_l1, il_256, if_neg (fun q => by have := (nI_leI (by omega) (by omega)).mp q; omega), Mo_g0, Option.bind_some, Mo_g4, Option.bind_some, il_257, pk_mul, nI_add, Mo_a4 (by omega), Option.bind_some, e2, Mo_st (by omega), Option.bind_some, e, nI_1]
    exact Mo_gb1 hi hg m (t + 1) f (by omega)
theorem Mo_gob {i : Nat} (hi : i < 2) (h5 : R.2 5 i ≠ 0) : f_Mo_goBack r (nI i) (bk_Mo σ r R) = some (1, bk_Mo σ r (sF (sF (sF (sA R 0 (wr (R.2 0) 0 256 (fun t => R.2 4 (257 * i + t)))) 1 (R.2 4 (257 * i + 256))) 3 0) 11 0)) := by
  obtain ⟨f, hf⟩ := hp_fu 257 (by decide)
  have hf' : f + 256 + 1 = hp_F := hf.symm
  have hw : (0 : Int32).toInt ≤ (nI i).toInt ∧ (nI i).toInt ≤ (1 : Int32).toInt := by
    rw [nI_toInt (by omega)]
    show (0 : Int) ≤ i ∧ (i : Int) ≤ 1
    omega
  unfold f_Mo_goBack
  rw [Mo_own, in_wi, wi_lit, Option.bind_some, tsw_y hw, Mo_g5, Option.bind_some, Mo_a5 hi, Option.bind_some, if_neg h5]
  have q := Mo_gb1 (σ := σ) (r := r) (R := R) (s := R.2 0) (g := fun t => R.2 4 (257 * i + t)) hi (fun _ => rfl) (K := fun z11 σ => (hp_gR σ r 10 4).bind fun q12 => (hp_aI σ q12 0 (((257 : Int32) * nI i) + 256)).bind fun v13 => (hp_pI σ r 10 1 v13).bind fun σ => (hp_pI σ r 10 3 0).bind fun σ => (hp_pZ σ r 10 11 0).bind fun σ => some (1, σ)) 256 0 f (by decide)
  rw [wr_0, hf', sA_self] at q
  refine (show _ = _ from q).trans ?_
  rw [Mo_g4, Option.bind_some, il_257, il_256, pk_mul, nI_add, Mo_a4 (by omega), Option.bind_some, sA_ne (by decide), Mo_p1, Option.bind_some, Mo_p3, Option.bind_some, Mo_p11 (Or.inl rfl), Option.bind_some]
  rfl
theorem Mo_gob_none {i : Nat} (hi : i < 2) (h5 : R.2 5 i = 0) : f_Mo_goBack r (nI i) (bk_Mo σ r R) = some (-1000000003, bk_Mo σ r R) := by
  have hw : (0 : Int32).toInt ≤ (nI i).toInt ∧ (nI i).toInt ≤ (1 : Int32).toInt := by
    rw [nI_toInt (by omega)]
    show (0 : Int) ≤ i ∧ (i : Int) ≤ 1
    omega
  unfold f_Mo_goBack
  rw [Mo_own, in_wi, wi_lit, Option.bind_some, tsw_y hw, Mo_g5, Option.bind_some, Mo_a5 hi, Option.bind_some, if_pos h5]
theorem Mo_gob_no (hx : ¬ (0 ≤ x.toInt ∧ x.toInt ≤ 1)) : f_Mo_goBack r x (bk_Mo σ r R) = some (-1000000001, bk_Mo σ r R) := by
  unfold f_Mo_goBack
  rw [Mo_own, in_wi, wi_lit, Option.bind_some, tsw_n (a := 0) (b := 1) hx]
theorem Mo_wrt {s : Nat → Int32} (hs : Wf s) (h0 : R.2 0 = s) {n c : Nat} (h8 : R.1 8 = nI n) (hn : n < 20) (hc : c < nC s) : f_Mo_write r (nI c) x (bk_Mo σ r R) = some (nI (n + 1), bk_Mo σ r (sF (sA (sA R 6 (upd (R.2 6) n (nI c))) 7 (upd (R.2 7) n x)) 8 (nI (n + 1)))) := by
  have hC6 := hs.2.1.1.2
  have s6 : hp_sI (bk_Mo σ r R) (r + 5) 0 (nI n) (nI c) = some (bk_Mo σ r (sA R 6 (upd (R.2 6) n (nI c)))) := by rw [Mo_s6 hn]; rfl
  have s7 : ∀ Q : oR, hp_sI (bk_Mo σ r Q) (r + 6) 0 (nI n) x = some (bk_Mo σ r (sA Q 7 (upd (Q.2 7) n x))) := fun Q => by rw [Mo_s7 hn]; rfl
  have p8 : ∀ (Q : oR) (v : Int32), hp_pI (bk_Mo σ r Q) r 10 8 v = some (bk_Mo σ r (sF Q 8 v)) := fun Q v => Mo_p8
  have h20 : ¬ nI n = 20 := fun q => by have := (nI_eq (b := 20) (by omega) (by omega)).mp q; omega
  unfold f_Mo_write
  rw [Mo_own, Mo_isClient (C := nC s) (by rw [h0]; exact hs.2.1.1.1) (by omega), Option.bind_some, tst_y (inI_nI hc (by omega))]
  simp only [Mo_g8, Option.bind_some, h8, if_neg h20, Mo_g6, s6, Mo_g7, sA_1, s7, p8, nI_1, sF_at]
  rfl
theorem Mo_wrt_no {s : Nat → Int32} (hs : Wf s) (h0 : R.2 0 = s) (hx : ¬ inI y (nC s)) : f_Mo_write r y x (bk_Mo σ r R) = some (-1000000001, bk_Mo σ r R) := by
  have hC6 := hs.2.1.1.2
  unfold f_Mo_write
  rw [Mo_own, Mo_isClient (C := nC s) (by rw [h0]; exact hs.2.1.1.1) (by omega), Option.bind_some, tst_n hx]
theorem Mo_wrt_full {s : Nat → Int32} (hs : Wf s) (h0 : R.2 0 = s) {c : Nat} (h8 : R.1 8 = nI 20) (hc : c < nC s) : f_Mo_write r (nI c) x (bk_Mo σ r R) = some (-1000000004, bk_Mo σ r R) := by
  have hC6 := hs.2.1.1.2
  unfold f_Mo_write
  rw [Mo_own, Mo_isClient (C := nC s) (by rw [h0]; exact hs.2.1.1.1) (by omega), Option.bind_some, tst_y (inI_nI hc (by omega)), Mo_g8, Option.bind_some, h8, if_pos (show nI 20 = 20 from rfl)]
theorem Mo_com_no {s : Nat → Int32} (hs : Wf s) (h0 : R.2 0 = s) (hx : ¬ (inI x (nC s) ∧ inI y (nB s))) : f_Mo_come r x y (bk_Mo σ r R) = some (-1000000001, bk_Mo σ r R) := by
  have hB7 := hs.1.1.2.2
  have hC6 := hs.2.1.1.2
  unfold f_Mo_come
  rw [Mo_own, Mo_isClient (C := nC s) (by rw [h0]; exact hs.2.1.1.1) (by omega), Option.bind_some]
  by_cases c1 : inI x (nC s)
  · rw [tst_y c1, Mo_isBroker (B := nB s) (by rw [h0]; exact hs.1.1.1) (by omega), Option.bind_some, tst_n (fun q => hx ⟨c1, q⟩)]
  · rw [tst_n c1]
theorem Mo_com_here {s : Nat → Int32} (hs : Wf s) (h0 : R.2 0 = s) {b c : Nat} (hb : b < nB s) (hc : c < nC s) (hp : s (17 + 25 * c) = 1) : f_Mo_come r (nI c) (nI b) (bk_Mo σ r R) = some (-1000000003, bk_Mo σ r R) := by
  have hB7 := hs.1.1.2.2
  have hC6 := hs.2.1.1.2
  have o1 : f_Mo_of r (nI c) 1 (bk_Mo σ r R) = some 1 := by
    have := Mo_of (σ := σ) (r := r) (R := R) (c := c) (k := 1) (by omega)
    rw [h0, show 16 + 25 * c + 1 = 17 + 25 * c by omega, hp] at this
    exact this
  unfold f_Mo_come
  rw [Mo_own, Mo_isClient (C := nC s) (by rw [h0]; exact hs.2.1.1.1) (by omega), Option.bind_some, tst_y (inI_nI hc (by omega)), Mo_isBroker (B := nB s) (by rw [h0]; exact hs.1.1.1) (by omega), Option.bind_some, tst_y (inI_nI hb (by omega)), o1, Option.bind_some, if_pos rfl]
theorem Mo_put_no {s : Nat → Int32} (hs : Wf s) (h0 : R.2 0 = s) {a b c d : Int32} (hx : ¬ inI a (nB s)) : f_Mo_put r a b c d (bk_Mo σ r R) = some (-1000000001, bk_Mo σ r R) := by
  have hB7 := hs.1.1.2.2
  unfold f_Mo_put
  rw [Mo_own, Mo_isBroker (B := nB s) (by rw [h0]; exact hs.1.1.1) (by omega), Option.bind_some, tst_n hx]
theorem Mo_put_bad {s : Nat → Int32} (hs : Wf s) (h0 : R.2 0 = s) {a b c d : Int32} (ha : inI a (nB s)) (hx : ¬ (inI b 10 ∧ inI c 10 ∧ inI d 10)) : f_Mo_put r a b c d (bk_Mo σ r R) = some (-1000000002, bk_Mo σ r R) := by
  have hB7 := hs.1.1.2.2
  unfold f_Mo_put
  rw [Mo_own, Mo_isBroker (B := nB s) (by rw [h0]; exact hs.1.1.1) (by omega), Option.bind_some, tst_y ha, Mo_thg_no hx, Option.bind_some, if_pos rfl]
end MO20
