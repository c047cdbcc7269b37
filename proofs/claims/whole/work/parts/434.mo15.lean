/-! ===== the reference: deed ===== -/
/-- the rows of the past, shifted by one row, the first t numbers -/
def shP (A : Nat → Int32) (t : Nat) : Nat → Int32 := fun j => if j < t then A (j + 256) else A j
theorem shP_0 {A : Nat → Int32} : shP A 0 = A := by
  funext j
  unfold shP
  rw [if_neg (by omega)]
theorem shP_s {A : Nat → Int32} {t : Nat} : upd (shP A t) t (shP A t (t + 256)) = shP A (t + 1) := by
  funext j
  have e : shP A t (t + 256) = A (t + 256) := by unfold shP; rw [if_neg (by omega)]
  rw [e]
  unfold upd shP
  by_cases h : j = t
  · rw [if_pos h, if_pos (by omega), h]
  · rw [if_neg h]
    by_cases h2 : j < t
    · rw [if_pos h2, if_pos (by omega)]
    · rw [if_neg h2, if_neg (by omega)]
/-- the past with one row more -/
def pstS (A : Nat → Int32) (k : Nat) (s : Nat → Int32) : Nat → Int32 := if k = 16 then wr (shP A 3840) (256 * 15) 256 s else wr A (256 * k) 256 s
/-- how many are known then -/
def pstN (k : Nat) : Nat := if k = 16 then 16 else k + 1
section MO15
variable {σ : hp_H} {r : Nat}
theorem Mo_rd2 {R : oR} {A : Nat → Int32} {i : Nat} (h : i < 4096) : hp_aI (bk_Mo σ r (sA R 2 A)) (r + 2) 0 (nI i) = some (A i) := by
  rw [Mo_a2 h, sA_at]
theorem Mo_st2 {R : oR} {A : Nat → Int32} {i : Nat} {x : Int32} (h : i < 4096) : hp_sI (bk_Mo σ r (sA R 2 A)) (r + 2) 0 (nI i) x = some (bk_Mo σ r (sA R 2 (upd A i x))) := by
  rw [Mo_s2 h]
  have e : (((sA R 2 A).1, up2 (sA R 2 A).2 2 i x) : oR) = sA (sA R 2 A) 2 (upd ((sA R 2 A).2 2) i x) := rfl
  rw [e, sA_A, sA_at]
theorem Mo_dd2 {R : oR} {s A : Nat → Int32} {k : Nat} (hk : k < 16) (h0 : R.2 0 = s) (h3 : R.1 3 = nI k) {K : Int32 → hp_H → Option hp_H} : ∀ (m t f : Nat), t + m = 256 → f_Mo_deed_l2 r K (f + m + 1) (nI t) (bk_Mo σ r (sA R 2 (wr A (256 * k) t s))) = K (nI 256) (bk_Mo σ r (sA R 2 (wr A (256 * k) 256 s)))
  | 0, t, f, h => by
    rw [show t = 256 by omega, f_Mo_deed_l2, il_256, if_pos ((nI_leI (by omega) (by omega)).mpr (Nat.le_refl _))]
  | m + 1, t, f, h => by
    have h0' : (sA R 2 (wr A (256 * k) t s)).2 0 = s := by rw [sA_ne (by decide)]; exact h0
    rw [f_Mo_deed_l2, il_256, if_neg (fun q => by have := (nI_leI (by omega) (by omega)).mp q; omega), Mo_g2, Option.bind_some, Mo_g3, Option.bind_some, Mo_g0, Option.bind_some, Mo_a0 (by omega), Option.bind_some, h0', sA_1, h3, pk_mul, nI_add, Mo_st2 (by omega), Option.bind_some, wr_s, nI_1]
    exact Mo_dd2 hk h0 h3 m (t + 1) f (by omega)
theorem Mo_dd1 {R : oR} {A : Nat → Int32} {K : Int32 → hp_H → Option hp_H} : ∀ (m t f : Nat), t + m = 3840 → f_Mo_deed_l1 r K (f + m + 1) (nI t) (bk_Mo σ r (sA R 2 (shP A t))) = K (nI 3840) (bk_Mo σ r (sA R 2 (shP A 3840)))
  | 0, t, f, h => by
    rw [show t = 3840 by omega, f_Mo_deed_l1, il_3840, if_pos ((nI_leI (by omega) (by omega)).mpr (Nat.le_refl _))]
  | m + 1, t, f, h => by
    rw [f_Mo_deed_l1, il_3840, if_neg (fun q => by have := (nI_leI (by omega) (by omega)).mp q; omega), Mo_g2, Option.bind_some, Option.bind_some, il_256, nI_add, Mo_rd2 (by omega), Option.bind_some, Mo_st2 (by omega), Option.bind_some, shP_s, nI_1]
    exact Mo_dd1 m (t + 1) f (by omega)
theorem Mo_deed {R : oR} {s A : Nat → Int32} {k : Nat} (hk : k ≤ 16) (h0 : R.2 0 = s) (h2 : R.2 2 = A) (h3 : R.1 3 = nI k) : f_Mo_deed r (bk_Mo σ r R) = some (bk_Mo σ r (sF (sF (sA R 2 (pstS A k s)) 3 (nI (pstN k))) 11 0)) := by
  have es : sA R 2 A = R := by rw [← h2]; exact sA_self
  obtain ⟨f, hf⟩ := hp_fu 257 (by decide)
  have hf' : f + 256 + 1 = hp_F := hf.symm
  obtain ⟨f1, hf1⟩ := hp_fu 3841 (by decide)
  have hf1' : f1 + 3840 + 1 = hp_F := hf1.symm
  unfold f_Mo_deed pstS pstN
  rw [Mo_own, Mo_g3, Option.bind_some, h3]
  by_cases h16 : k = 16
  · rw [if_pos (by rw [h16]; rfl), if_pos h16, if_pos h16]
    have h1 := Mo_dd1 (σ := σ) (r := r) (R := R) (A := A) (K := fun z14 σ => (hp_gI σ r 10 3).bind fun v15 => (hp_pI σ r 10 3 (v15 - 1)).bind fun σ => f_Mo_deed_l2 r (fun z16 σ => (hp_gI σ r 10 3).bind fun v17 => (hp_pI σ r 10 3 (v17 + 1)).bind fun σ => (hp_pZ σ r 10 11 0).bind fun σ => some σ) hp_F 0 σ) 3840 0 f1 (by decide)
    rw [shP_0, es, hf1'] at h1
    refine (show _ = _ from h1).trans ?_
    rw [Mo_g3, Option.bind_some, sA_1, h3, h16, show (nI 16 : Int32) - 1 = nI 15 from nI_pred 15, Mo_p3, Option.bind_some]
    have h4 := Mo_dd2 (σ := σ) (r := r) (R := sF R 3 (nI 15)) (s := s) (A := shP A 3840) (k := 15) (by decide) h0 sF_at (K := fun z16 σ => (hp_gI σ r 10 3).bind fun v17 => (hp_pI σ r 10 3 (v17 + 1)).bind fun σ => (hp_pZ σ r 10 11 0).bind fun σ => some σ) 256 0 f (by decide)
    rw [wr_0, hf'] at h4
    refine (show _ = _ from h4).trans ?_
    rw [Mo_g3, Option.bind_some, sA_1, sF_at, nI_1, Mo_p3, Option.bind_some, Mo_p11 (Or.inl rfl), Option.bind_some]
    congr 2
    refine Prod.ext ?_ rfl
    funext j
    show upd (upd (upd R.1 3 (nI 15)) 3 (nI 16)) 11 0 j = upd (upd R.1 3 (nI 16)) 11 0 j
    unfold upd
    split
    · rfl
    · split
      · rfl
      · rfl
  · have h16' : ¬ nI k = 16 := fun q => h16 (by
      have e : (nI k).toNatClampNeg = (nI 16).toNatClampNeg := by rw [q]; rfl
      rw [nI_cl (by omega), nI_cl (by omega)] at e
      exact e)
    rw [if_neg h16', if_neg h16, if_neg h16]
    have h4 := Mo_dd2 (σ := σ) (r := r) (R := R) (s := s) (A := A) (k := k) (by omega) h0 h3 (K := fun z8 σ => (hp_gI σ r 10 3).bind fun v9 => (hp_pI σ r 10 3 (v9 + 1)).bind fun σ => (hp_pZ σ r 10 11 0).bind fun σ => some σ) 256 0 f (by decide)
    rw [wr_0, es, hf'] at h4
    refine (show _ = _ from h4).trans ?_
    rw [Mo_g3, Option.bind_some, sA_1, h3, nI_1, Mo_p3, Option.bind_some, Mo_p11 (Or.inl rfl), Option.bind_some]
    rfl
end MO15
