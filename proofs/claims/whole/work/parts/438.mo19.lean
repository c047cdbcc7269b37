/-! ===== the reference: undo, keep, goBack, write, tear, seed ===== -/
theorem Wf_256 {s s' : Nat → Int32} (hs : Wf s) (h : ∀ j, j < 256 → s' j = s j) : Wf s' := by
  have hC6 := hs.2.1.1.2
  refine Wf_congr hs (fun j hj => h j (by rcases hj with q | q | q | ⟨d, q1, q2⟩ <;> omega)) (fun c hc => ?_) (fun c hc => ?_)
  · rw [h _ (by omega)]
    exact (hs.2.1.2 c hc).2.1
  · obtain ⟨-, -, k1, k2⟩ := hs.2.1.2 c hc
    exact ⟨kpt s c, k2, by rw [h _ (by omega)]; exact k1⟩
section MO19
variable {σ : hp_H} {r : Nat} {R : oR} {x y : Int32}
theorem Mo_un1 {s g : Nat → Int32} {j : Nat} (hj : j < 16) (h3 : R.1 3 = nI j) (hg : ∀ t, g t = R.2 2 (256 * j + t)) {K : Int32 → hp_H → Option (Int32 × hp_H)} : ∀ (m t f : Nat), t + m = 256 → f_Mo_undo_l1 r K (f + m + 1) (nI t) (bk_Mo σ r (sA R 0 (wr s 0 t g))) = K (nI 256) (bk_Mo σ r (sA R 0 (wr s 0 256 g)))
  | 0, t, f, h => by
    rw [show t = 256 by omega, f_Mo_undo_l1, il_256, if_pos ((nI_leI (by omega) (by omega)).mpr (Nat.le_refl _))]
  | m + 1, t, f, h => by
    have e : upd (wr s 0 t g) t (R.2 2 (256 * j + t)) = wr s 0 (t + 1) g := by
      have := wr_s (A := s) (base := 0) (m := t) (g := g)
      rw [Nat.zero_add, hg] at this
      exact this
    have e2 : (sA R 0 (wr s 0 t g)).2 2 = R.2 2 := sA_ne (by decide)
    rw [f_Mo_undo_l1, il_256, if_neg (fun q => by have := (nI_leI (by omega) (by omega)).mp q; omega), Mo_g0, Option.bind_some, Mo_g2, Option.bind_some, Mo_g3, Option.bind_some, sA_1, h3, pk_mul, nI_add, Mo_a2 (by omega), Option.bind_some, e2, Mo_st (by omega), Option.bind_some, e, nI_1]
    exact Mo_un1 hj h3 hg m (t + 1) f (by omega)
theorem Mo_und {k m : Nat} (hk : k ≤ 16) (h3 : R.1 3 = nI k) (h1 : 1 ≤ m) (hm : m ≤ k) : f_Mo_undo r (nI m) (bk_Mo σ r R) = some (nI (k - m), bk_Mo σ r (sF (sA (sF R 3 (nI (k - m))) 0 (wr (R.2 0) 0 256 (fun t => R.2 2 (256 * (k - m) + t)))) 11 0)) := by
  obtain ⟨f, hf⟩ := hp_fu 257 (by decide)
  have hf' : f + 256 + 1 = hp_F := hf.symm
  have hw : (1 : Int32).toInt ≤ (nI m).toInt ∧ (nI m).toInt ≤ (16 : Int32).toInt := by
    rw [nI_toInt (by omega)]
    show (1 : Int) ≤ m ∧ (m : Int) ≤ 16
    omega
  have es : nI k - nI m = nI (k - m) := pk_sub hm
  unfold f_Mo_undo
  rw [Mo_own, in_wi, wi_lit, Option.bind_some, tsw_y hw, Mo_g3, Option.bind_some, h3, if_pos ((nI_leI (by omega) (by omega)).mpr hm), Option.bind_some, es, Mo_p3, Option.bind_some]
  have q := Mo_un1 (σ := σ) (r := r) (R := sF R 3 (nI (k - m))) (s := R.2 0) (g := fun t => R.2 2 (256 * (k - m) + t)) (j := k - m) (by omega) sF_at (fun _ => rfl) (K := fun z12 σ => (hp_pZ σ r 10 11 0).bind fun σ => (hp_gI σ r 10 3).bind fun v13 => some (v13, σ)) 256 0 f (by decide)
  have e0 : sA (sF R 3 (nI (k - m))) 0 (R.2 0) = sF R 3 (nI (k - m)) := sA_self (R := sF R 3 (nI (k - m)))
  rw [wr_0, hf', e0] at q
  refine (show _ = _ from q).trans ?_
  rw [Mo_p11 (Or.inl rfl), Option.bind_some, Mo_g3, Option.bind_some]
  rfl
theorem Mo_und_few {k m : Nat} (hk : k ≤ 16) (h3 : R.1 3 = nI k) (h1 : 1 ≤ m) (hm : m ≤ 16) (hlt : k < m) : f_Mo_undo r (nI m) (bk_Mo σ r R) = some (-1000000003, bk_Mo σ r R) := by
  have hw : (1 : Int32).toInt ≤ (nI m).toInt ∧ (nI m).toInt ≤ (16 : Int32).toInt := by
    rw [nI_toInt (by omega)]
    show (1 : Int) ≤ m ∧ (m : Int) ≤ 16
    omega
  unfold f_Mo_undo
  rw [Mo_own, in_wi, wi_lit, Option.bind_some, tsw_y hw, Mo_g3, Option.bind_some, h3, if_neg (fun q => by have := (nI_leI (by omega) (by omega)).mp q; omega)]
theorem Mo_und_no (hx : ¬ (1 ≤ x.toInt ∧ x.toInt ≤ 16)) : f_Mo_undo r x (bk_Mo σ r R) = some (-1000000002, bk_Mo σ r R) := by
  unfold f_Mo_undo
  rw [Mo_own, in_wi, wi_lit, Option.bind_some, tsw_n (a := 1) (b := 16) hx]
theorem Mo_kp1 {s A : Nat → Int32} {i : Nat} (hi : i < 2) (h0 : R.2 0 = s) {K : Int32 → hp_H → Option (Int32 × hp_H)} : ∀ (m t f : Nat), t + m = 256 → f_Mo_keep_l1 r (nI i) K (f + m + 1) (nI t) (bk_Mo σ r (sA R 4 (wr A (257 * i) t s))) = K (nI 256) (bk_Mo σ r (sA R 4 (wr A (257 * i) 256 s)))
  | 0, t, f, h => by
    rw [show t = 256 by omega, f_Mo_keep_l1, il_256, if_pos ((nI_leI (by omega) (by omega)).mpr (Nat.le_refl _))]
  | m + 1, t, f, h => by
    have e0 : (sA R 4 (wr A (257 * i) t s)).2 0 = s := by rw [sA_ne (by decide)]; exact h0
    have e : (((sA R 4 (wr A (257 * i) t s)).1, up2 (sA R 4 (wr A (257 * i) t s)).2 4 (257 * i + t) (s t)) : oR) = sA R 4 (wr A (257 * i) (t + 1) s) := by
      have e' : (((sA R 4 (wr A (257 * i) t s)).1, up2 (sA R 4 (wr A (257 * i) t s)).2 4 (257 * i + t) (s t)) : oR) = sA (sA R 4 (wr A (257 * i) t s)) 4 (upd ((sA R 4 (wr A (257 * i) t s)).2 4) (257 * i + t) (s t)) := rfl
      rw [e', sA_A, sA_at, wr_s]
    rw [f_Mo_keep_l1, il_256, if_neg (fun q => by have := (nI_leI (by omega) (by omega)).mp q; omega), Mo_g4, Option.bind_some, Mo_g0, Option.bind_some, Mo_a0 (by omega), Option.bind_some, e0, il_257, pk_mul, nI_add, Mo_s4 (by omega), Option.bind_some, e, nI_1]
    exact Mo_kp1 hi h0 m (t + 1) f (by omega)
theorem Mo_kep {s : Nat → Int32} {i : Nat} (hi : i < 2) (h0 : R.2 0 = s) : f_Mo_keep r (nI i) (bk_Mo σ r R) = some (1, bk_Mo σ r (sF (sA (sA R 4 (upd (wr (R.2 4) (257 * i) 256 s) (257 * i + 256) (R.1 1))) 5 (upd (R.2 5) i 1)) 3 0)) := by
  obtain ⟨f, hf⟩ := hp_fu 257 (by decide)
  have hf' : f + 256 + 1 = hp_F := hf.symm
  have hw : (0 : Int32).toInt ≤ (nI i).toInt ∧ (nI i).toInt ≤ (1 : Int32).toInt := by
    rw [nI_toInt (by omega)]
    show (0 : Int) ≤ i ∧ (i : Int) ≤ 1
    omega
  unfold f_Mo_keep
  rw [Mo_own, in_wi, wi_lit, Option.bind_some, tsw_y hw]
  have q := Mo_kp1 (σ := σ) (r := r) (R := R) (s := s) (A := R.2 4) hi h0 (K := fun z8 σ => (hp_gR σ r 10 4).bind fun q9 => (hp_gI σ r 10 1).bind fun v10 => (hp_sI σ q9 0 (((257 : Int32) * nI i) + 256) v10).bind fun σ => (hp_gR σ r 10 5).bind fun q11 => (hp_sZ σ q11 1 (nI i) 1).bind fun σ => (hp_pI σ r 10 3 0).bind fun σ => some (1, σ)) 256 0 f (by decide)
  rw [wr_0, hf', sA_self] at q
  refine (show _ = _ from q).trans ?_
  have e : ∀ B : Nat → Int32, ((R.1, up2 (sA R 4 B).2 4 (257 * i + 256) (R.1 1)) : oR) = sA R 4 (upd B (257 * i + 256) (R.1 1)) := fun B => by
    have e' : ((R.1, up2 (sA R 4 B).2 4 (257 * i + 256) (R.1 1)) : oR) = sA (sA R 4 B) 4 (upd ((sA R 4 B).2 4) (257 * i + 256) (R.1 1)) := rfl
    rw [e', sA_A, sA_at]
  have z : ∀ Q : oR, hp_sZ (bk_Mo σ r Q) (r + 4) 1 (nI i) 1 = some (bk_Mo σ r (sA Q 5 (upd (Q.2 5) i 1))) := fun Q => by
    unfold hp_sZ
    rw [if_pos (Or.inr rfl), Mo_s5 hi]
    rfl
  rw [Mo_g4, Option.bind_some, Mo_g1, Option.bind_some, il_257, il_256, pk_mul, nI_add, Mo_s4 (by omega), Option.bind_some, sA_1, e, Mo_g5, Option.bind_some, z, Option.bind_some, Mo_p3, Option.bind_some, sA_ne (by decide)]
  rfl
theorem Mo_kep_no (hx : ¬ (0 ≤ x.toInt ∧ x.toInt ≤ 1)) : f_Mo_keep r x (bk_Mo σ r R) = some (-1000000001, bk_Mo σ r R) := by
  unfold f_Mo_keep
  rw [Mo_own, in_wi, wi_lit, Option.bind_some, tsw_n (a := 0) (b := 1) hx]
theorem Mo_ter : f_Mo_tear r (bk_Mo σ r R) = some (R.1 8, bk_Mo σ r (sF R 8 0)) := by
  unfold f_Mo_tear
  rw [Mo_own, Mo_g8, Option.bind_some, Mo_p8, Option.bind_some]
  rfl
theorem Mo_sed (hx : 0 ≤ x) : f_Mo_seed r x (bk_Mo σ r R) = some (R.1 1, bk_Mo σ r (sF R 1 x)) := by
  unfold f_Mo_seed
  rw [Mo_own, if_pos hx, Mo_g1, Option.bind_some, Mo_p1, Option.bind_some]
  rfl
theorem Mo_sed_no (hx : ¬ 0 ≤ x) : f_Mo_seed r x (bk_Mo σ r R) = some (-1000000002, bk_Mo σ r R) := by
  unfold f_Mo_seed
  rw [Mo_own, if_neg hx]
end MO19
