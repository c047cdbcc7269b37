/-! ===== the reference: takesWish, covered, wishAt ===== -/
section MO32
variable {σ : hp_H} {r : Nat}
theorem Mo_tk1 {R : oR} {w k : Nat} (hw : w < 12) (hk : k < 79) {K : Int32 → hp_H → Option hp_H} {A : Nat → Int32} : ∀ (m t n : Nat), t + m = 6 → f_Mo_takesWish_l1 r (nI k) (nI w) K (n + m + 1) (nI t) (bk_Mo σ r (sA R 12 (wr A (6 * k) t (fun u => R.2 0 (171 + 7 * w + u))))) = K (nI 6) (bk_Mo σ r (sA R 12 (wr A (6 * k) 6 (fun u => R.2 0 (171 + 7 * w + u)))))
  | 0, t, n, h => by
    rw [show t = 6 by omega, f_Mo_takesWish_l1, if_pos (by decide)]
  | m + 1, t, n, h => by
    have e1 : (1 : Int32) + nI t = nI (1 + t) := nI_add 1 t
    rw [f_Mo_takesWish_l1, if_neg (by rw [il_6, nI_leI (by omega) (by omega)]; omega), Mo_g12, Option.bind_some, e1, Mo_wish (by omega), Option.bind_some, sA_ne (by decide), show 170 + 7 * w + (1 + t) = 171 + 7 * w + t by omega, il_6, pk_mul, nI_add, Mo_s12 (by omega), Option.bind_some, nI_1]
    have e : (((sA R 12 (wr A (6 * k) t (fun u => R.2 0 (171 + 7 * w + u)))).1, up2 (sA R 12 (wr A (6 * k) t (fun u => R.2 0 (171 + 7 * w + u)))).2 12 (6 * k + t) (R.2 0 (171 + 7 * w + t))) : oR) = sA R 12 (wr A (6 * k) (t + 1) (fun u => R.2 0 (171 + 7 * w + u))) := by
      show sA (sA R 12 (wr A (6 * k) t (fun u => R.2 0 (171 + 7 * w + u)))) 12 (upd ((sA R 12 (wr A (6 * k) t (fun u => R.2 0 (171 + 7 * w + u)))).2 12) (6 * k + t) (R.2 0 (171 + 7 * w + t))) = _
      rw [sA_A, sA_at]
      congr 1
      exact wr_s (g := fun u => R.2 0 (171 + 7 * w + u))
    rw [e]
    exact Mo_tk1 hw hk m (t + 1) n (by omega)
theorem Mo_tkw {R : oR} {s : Nat → Int32} (hs : Wf s) (h0 : R.2 0 = s) {w k : Nat} (hw : w < nW s) (hk : k < 2) : ∃ R', f_Mo_takesWish r (nI k) (nI w) (bk_Mo σ r R) = some (bk_Mo σ r R') ∧ kps R R' [] [12] ∧ bxAt (R'.2 12) k (wbx s w) ∧ ∀ j N, j ≠ k → bxAt (R.2 12) j N → bxAt (R'.2 12) j N := by
  have hW := hs.2.2.1.1.2
  obtain ⟨f, hf⟩ := hp_fu 7 (by decide)
  have hf' : f + 6 + 1 = hp_F := hf.symm
  have q := Mo_tk1 (σ := σ) (r := r) (R := R) (w := w) (k := k) (by omega) (by omega) (K := fun z5 σ => some σ) (A := R.2 12) 6 0 f (by decide)
  rw [wr_0, sA_self, hf'] at q
  refine ⟨sA R 12 (wr (R.2 12) (6 * k) 6 (fun u => R.2 0 (171 + 7 * w + u))), ?_, kps_A (by decide), fun t ht => ?_, fun j N hj hN t ht => ?_⟩
  · unfold f_Mo_takesWish
    rw [Mo_own]
    exact q
  · rw [sA_at, wr_in ht, h0]
    exact (hs.2.2.1.2 w hw).2.2 t ht
  · rw [sA_at, wr_out (by omega)]
    exact hN t ht
def cvP (s : Nat → Int32) (w v : Nat) : Bool := decide (v ≠ w) && cov (wbx s w) (wbx s v)
theorem Mo_co1 {s : Nat → Int32} (hs : Wf s) {w : Nat} (hw : w < nW s) {K : Int32 → Int32 → hp_H → Option (Int32 × hp_H)} : ∀ (m k f : Nat) (a : Int32) (R : oR), k + m = nW s → R.2 0 = s → bxAt (R.2 12) 0 (wbx s w) → ∃ R', f_Mo_covered_l1 r (nI w) K (f + m + 1) a (nI k) (bk_Mo σ r R) = K (mkI (cvP s w) m k a) (nI (nW s)) (bk_Mo σ r R') ∧ kps R R' [] [12]
  | 0, k, f, a, R, h, h0, hb => by
    have hW := hs.2.2.1.1.2
    have e2 : hp_aI (bk_Mo σ r R) (r + 1) 0 2 = some (nI (nW s)) := by rw [← hs.2.2.1.1.1, ← h0]; exact Mo_a0 (i := 2) (by decide)
    refine ⟨R, ?_, kps_rf⟩
    rw [f_Mo_covered_l1, Mo_g0, Option.bind_some, e2, Option.bind_some, show k = nW s by omega, if_pos ((nI_leI (by omega) (by omega)).mpr (Nat.le_refl _)), mkI]
  | m + 1, k, f, a, R, h, h0, hb => by
    have hW := hs.2.2.1.1.2
    have e2 : hp_aI (bk_Mo σ r R) (r + 1) 0 2 = some (nI (nW s)) := by rw [← hs.2.2.1.1.1, ← h0]; exact Mo_a0 (i := 2) (by decide)
    obtain ⟨R1, t1, t2, t3, t4⟩ := Mo_tkw (σ := σ) (r := r) hs h0 (w := k) (k := 1) (by omega) (by decide)
    have b0 := t4 0 _ (by decide) hb
    have h01 : R1.2 0 = s := by rw [t2.2 0 (by decide), h0]
    have ih := fun a' => Mo_co1 hs hw (K := K) m (k + 1) f a' R1 (by omega) h01 b0
    rw [f_Mo_covered_l1, Mo_g0, Option.bind_some, e2, Option.bind_some, if_neg (fun q => by have := (nI_leI (by omega) (by omega)).mp q; omega), show (1 : Int32) = nI 1 from rfl, t1, Option.bind_some, nI_add, mkI]
    have ec : f_Mo_covers r 0 (nI 1) (bk_Mo σ r R1) = some (if cov (wbx s w) (wbx s k) = true then 1 else 0) := Mo_covers (i := 0) b0 t3 (by decide) (by decide)
    by_cases hk : k = w
    · have hp : ¬ cvP s w k = true := by unfold cvP; rw [hk]; simp
      rw [if_pos ((nI_eq (by omega) (by omega)).mpr hk), if_neg hp]
      obtain ⟨R2, i1, i2⟩ := ih (a ||| 0)
      exact ⟨R2, i1, kps_tr t2 i2⟩
    · rw [if_neg (fun q => hk ((nI_eq (by omega) (by omega)).mp q)), ec, Option.bind_some]
      by_cases hc : cov (wbx s w) (wbx s k) = true
      · have hp : cvP s w k = true := by unfold cvP; rw [hc]; simp [hk]
        rw [if_pos hc, if_neg (by decide), if_pos hp]
        obtain ⟨R2, i1, i2⟩ := ih (a ||| ((nI 1) <<< (nI k &&& 31)))
        exact ⟨R2, i1, kps_tr t2 i2⟩
      · have hp : ¬ cvP s w k = true := by unfold cvP; rw [Bool.and_eq_true]; exact fun q => hc q.2
        rw [if_neg hc, if_pos rfl, if_neg hp]
        obtain ⟨R2, i1, i2⟩ := ih (a ||| 0)
        exact ⟨R2, i1, kps_tr t2 i2⟩
theorem Mo_cvd {s : Nat → Int32} (hs : Wf s) {R : oR} (h0 : R.2 0 = s) {w : Nat} (hw : w < nW s) : ∃ R', f_Mo_covered r (nI w) (bk_Mo σ r R) = some (mkI (cvP s w) (nW s) 0 0, bk_Mo σ r R') ∧ kps R R' [] [12] := by
  have hW := hs.2.2.1.1.2
  obtain ⟨R1, t1, t2, t3, t4⟩ := Mo_tkw (σ := σ) (r := r) hs h0 (w := w) (k := 0) hw (by decide)
  have t1 : f_Mo_takesWish r 0 (nI w) (bk_Mo σ r R) = some (bk_Mo σ r R1) := t1
  obtain ⟨f, hf⟩ := hp_fu (nW s + 1) (by omega)
  have hf' : f + nW s + 1 = hp_F := hf.symm
  obtain ⟨R2, q1, q2⟩ := Mo_co1 (σ := σ) (r := r) hs hw (K := fun z10 z11 σ => some (z10, σ)) (nW s) 0 f 0 R1 (by omega) (by rw [t2.2 0 (by decide), h0]) t3
  rw [hf'] at q1
  refine ⟨R2, ?_, kps_tr t2 q2⟩
  unfold f_Mo_covered
  rw [Mo_own, t1, Option.bind_some]
  exact q1
theorem Mo_wat_no {s : Nat → Int32} (hs : Wf s) {R : oR} (h0 : R.2 0 = s) {x y : Int32} (hx : ¬ inI x (nW s)) : f_Mo_wishAt r x y (bk_Mo σ r R) = some (-1000000001, bk_Mo σ r R) := by
  have hW := hs.2.2.1.1.2
  unfold f_Mo_wishAt
  rw [Mo_own, Mo_isWish (N := nW s) (by rw [h0]; exact hs.2.2.1.1.1) (by omega), Option.bind_some, tst_n hx]
theorem Mo_wat_bad {s : Nat → Int32} (hs : Wf s) {R : oR} (h0 : R.2 0 = s) {x y : Int32} (hx : inI x (nW s)) (hy : ¬ (0 ≤ y.toInt ∧ y.toInt ≤ 8)) : f_Mo_wishAt r x y (bk_Mo σ r R) = some (-1000000002, bk_Mo σ r R) := by
  have hW := hs.2.2.1.1.2
  unfold f_Mo_wishAt
  rw [Mo_own, Mo_isWish (N := nW s) (by rw [h0]; exact hs.2.2.1.1.1) (by omega), Option.bind_some, tst_y hx, in_wi, wi_lit, Option.bind_some, tsw_n (a := 0) (b := 8) hy]
theorem Mo_wat {s : Nat → Int32} (hs : Wf s) {R : oR} (h0 : R.2 0 = s) {w q : Nat} (hw : w < nW s) (hq : q < 9) : ∃ R', f_Mo_wishAt r (nI w) (nI q) (bk_Mo σ r R) = some (if 7 ≤ q then (if q = 7 then nI (siz (wbx s w)) else mkI (cvP s w) (nW s) 0 0) else s (170 + 7 * w + q), bk_Mo σ r R') ∧ kps R R' [] [12] := by
  have hW := hs.2.2.1.1.2
  obtain ⟨R1, t1, t2, t3, t4⟩ := Mo_tkw (σ := σ) (r := r) hs h0 (w := w) (k := 0) hw (by decide)
  have t1 : f_Mo_takesWish r 0 (nI w) (bk_Mo σ r R) = some (bk_Mo σ r R1) := t1
  have h01 : R1.2 0 = s := by rw [t2.2 0 (by decide), h0]
  obtain ⟨R2, c1, c2⟩ := Mo_cvd (σ := σ) (r := r) hs h01 hw
  have hz : f_Mo_sizeOf r 0 (bk_Mo σ r R1) = some (nI (siz (wbx s w))) := Mo_sizeOf (k := 0) t3 (by decide)
  have hqq : (0 : Int32).toInt ≤ (nI q).toInt ∧ (nI q).toInt ≤ (8 : Int32).toInt := by
    rw [nI_toInt (by omega)]
    show (0 : Int) ≤ q ∧ (q : Int) ≤ 8
    omega
  have main : f_Mo_wishAt r (nI w) (nI q) (bk_Mo σ r R) = if (7 : Int32) ≤ nI q then (if nI q = 7 then some (nI (siz (wbx s w)), bk_Mo σ r R1) else some (mkI (cvP s w) (nW s) 0 0, bk_Mo σ r R2)) else some (s (170 + 7 * w + q), bk_Mo σ r R1) := by
    unfold f_Mo_wishAt
    rw [Mo_own, Mo_isWish (N := nW s) (by rw [h0]; exact hs.2.2.1.1.1) (by omega), Option.bind_some, tst_y (inI_nI hw (by omega)), in_wi, wi_lit, Option.bind_some, tsw_y hqq, t1, Option.bind_some, hz, Option.bind_some, c1, hp_bs, Mo_wish (by omega), Option.bind_some, h01]
  rw [main, show (7 : Int32) = nI 7 from rfl]
  by_cases h7 : 7 ≤ q
  · rw [if_pos ((nI_leI (a := 7) (by decide) (by omega)).mpr h7), if_pos h7]
    by_cases h8 : q = 7
    · rw [if_pos ((nI_eq (a := q) (b := 7) (by omega) (by decide)).mpr h8), if_pos h8]
      exact ⟨R1, rfl, t2⟩
    · rw [if_neg (fun e => h8 ((nI_eq (b := 7) (by omega) (by decide)).mp e)), if_neg h8]
      exact ⟨R2, rfl, kps_tr t2 c2⟩
  · rw [if_neg (fun e => h7 ((nI_leI (a := 7) (by decide) (by omega)).mp e)), if_neg h7]
    exact ⟨R1, rfl, t2⟩
end MO32
