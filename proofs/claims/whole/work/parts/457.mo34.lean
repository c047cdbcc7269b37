/-! ===== the reference: box ===== -/
section MO34
variable {σ : hp_H} {r : Nat}
theorem laid_kp {R R' : oR} {s : Nat → Int32} {fs as : List Nat} (h : laidI R s) (hk : kps R R' fs as) (h11 : 11 ∉ fs) (h9 : 9 ∉ as) (h10 : 10 ∉ as) : laidI R' s := by
  obtain ⟨a, tab, b, c⟩ := h
  refine ⟨by rw [hk.1 11 h11]; exact a, tab, tdA_kp b hk h9 h10, fun q => c ?_⟩
  rw [← hk.1 11 h11]
  exact q
theorem Mo_box {s : Nat → Int32} (hs : Wf s) {R : oR} (h0 : R.2 0 = s) (hI : laidI R s) {u v : Nat} (hu : u < nB s) (hv : v < nB s) (h : nbrb (abS s) u v = true) {i q : Int32} : ∃ R', f_Mo_box r (nI u) (nI v) i q (bk_Mo σ r R) = some (boS s (TL s (lnk (abS s) u v)) i q, bk_Mo σ r R') ∧ kps R R' [11, 13] [9, 10, 12, 14] ∧ laidI R' s := by
  have hB7 := hs.1.1.2.2
  obtain ⟨R1, tab, a1, a2, a3, a4, a5⟩ := Mo_lays (σ := σ) (r := r) hs h0 hI
  have h01 : R1.2 0 = s := by rw [a2.2 0 (by decide), h0]
  have hI1 : laidI R1 s := ⟨Or.inr a3, tab, a4, fun _ => a5⟩
  have hl : lnk (abS s) u v < 14 := lnk_lt (by omega) (by omega)
  have el : f_Mo_linkOf r (nI u) (nI v) (bk_Mo σ r R1) = some (nI (lnk (abS s) u v)) := by
    have := Mo_lnk (σ := σ) (r := r) (R := R1) (x := u) (y := v) (by rw [h01]; exact hs.1) (by rw [h01]; exact hu) (by rw [h01]; exact hv)
    rw [h01] at this
    exact this
  have et : tab (lnk (abS s) u v) = TL s (lnk (abS s) u v) := agr_lnk a5 hv hu (by rw [nbrb_sy]; exact h)
  have ht := a4 _ hl
  generalize lnk (abS s) u v = k at hl el et ht ⊢
  unfold tdO at ht
  rw [et] at ht
  generalize TL s k = l at et ht ⊢
  obtain ⟨g1, g2, g3, g4⟩ := ht
  unfold f_Mo_box
  rw [Mo_own, Mo_nby hs h0 hu hv h, Option.bind_some, if_neg (by decide), a1, Option.bind_some, el, Option.bind_some, Mo_g9, Option.bind_some, Mo_a9 hl, Option.bind_some, g1, in_wi, wi_val (by omega), Option.bind_some]
  unfold boS
  by_cases hi : inI i l.length
  · rw [tst_y hi, if_pos (show 0 ≤ i.toInt ∧ i.toInt < (l.length : Int) from hi), wi_lit, Option.bind_some]
    by_cases hq : 0 ≤ q.toInt ∧ q.toInt ≤ 7
    · rw [tsw_y (a := 0) (b := 7) hq, if_pos hq]
      obtain ⟨j, hj, rfl⟩ := inI_of hi (by omega)
      obtain ⟨t, ht, rfl⟩ : ∃ t, t < 8 ∧ q = nI t := inI_of ⟨hq.1, by omega⟩ (by decide)
      rw [nI_cl (by omega), nI_cl (by omega)]
      obtain ⟨f, hf⟩ := hp_fu 7 (by decide)
      have hf' : f + 6 + 1 = hp_F := hf.symm
      generalize hK : (fun (z19 : Int32) (σ : hp_H) => if (6 : Int32) ≤ nI t then (if nI t = 6 then ((f_Mo_sizeOf r 0 σ).bind fun v26 => some (v26, σ)) else (hp_b (f_Mo_isWishBox r σ) fun v23 σ => if v23 = 0 then (some ((0 : Int32), σ)) else (some (1, σ)))) else ((hp_gR σ r 10 12).bind fun q27 => (hp_aI σ q27 0 (nI t)).bind fun v28 => some (v28, σ))) = K
      have g := Mo_bo1 (σ := σ) (r := r) (R := R1) (k := k) (i := j) (x4 := nI t) hl (by omega) (K := K) (A := R1.2 12) 6 0 f (by decide)
      rw [wr_0, sA_self, hf'] at g
      have hb : bxAt ((sA R1 12 (wr (R1.2 12) 0 6 (fun u => R1.2 10 (54 * k + 6 * j + u)))).2 12) 0 (l.getD j 0) := by
        intro y hy
        have := wr_in (A := R1.2 12) (base := 0) (m := 6) (g := fun u => R1.2 10 (54 * k + 6 * j + u)) hy
        rw [sA_at, show 6 * 0 + y = 0 + y from rfl, this]
        exact g4 j hj y hy
      have k2 : kps R1 (sA R1 12 (wr (R1.2 12) 0 6 (fun u => R1.2 10 (54 * k + 6 * j + u)))) [] [12] := kps_A (by decide)
      generalize sA R1 12 (wr (R1.2 12) 0 6 (fun u => R1.2 10 (54 * k + 6 * j + u))) = R2 at g hb k2
      have h02 : R2.2 0 = s := by rw [k2.2 0 (by decide), h01]
      have hm : ∀ A B : oR, kps A B [] [12] → kps A B [11, 13] [9, 10, 12, 14] := fun A B q => kps_mono q (fun j h => by cases h) (fun j h => by simp only [List.mem_cons, List.not_mem_nil, or_false] at h; rw [h]; decide)
      obtain ⟨R3, w1, w2⟩ := Mo_iwb (σ := σ) (r := r) hs (g3 _ (getD_mem hj)) h02 hb
      have fin : ∀ R' : oR, kps R2 R' [] [12] → kps R R' [11, 13] [9, 10, 12, 14] ∧ laidI R' s := fun R' q => ⟨kps_tr a2 (kps_tr (hm _ _ k2) (hm _ _ q)), laid_kp (laid_kp hI1 k2 (by decide) (by decide) (by decide)) q (by decide) (by decide) (by decide)⟩
      have hz : f_Mo_sizeOf r 0 (bk_Mo σ r R2) = some (nI (siz (l.getD j 0))) := Mo_sizeOf (k := 0) hb (by decide)
      have main : K (nI 6) (bk_Mo σ r R2) = if (6 : Int32) ≤ nI t then (if nI t = 6 then some (nI (siz (l.getD j 0)), bk_Mo σ r R2) else some (b01 (anyF (wbP s (l.getD j 0)) (nW s) 0), bk_Mo σ r R3)) else some (R2.2 12 t, bk_Mo σ r R2) := by
        rw [← hK]
        show (if (6 : Int32) ≤ nI t then (if nI t = 6 then ((f_Mo_sizeOf r 0 (bk_Mo σ r R2)).bind fun v26 => some (v26, bk_Mo σ r R2)) else (hp_b (f_Mo_isWishBox r (bk_Mo σ r R2)) fun v23 σ => if v23 = 0 then (some ((0 : Int32), σ)) else (some (1, σ)))) else ((hp_gR (bk_Mo σ r R2) r 10 12).bind fun q27 => (hp_aI (bk_Mo σ r R2) q27 0 (nI t)).bind fun v28 => some (v28, bk_Mo σ r R2))) = _
        rw [hz, Option.bind_some, w1, hp_bs, Mo_g12, Option.bind_some, Mo_a12 (by omega), Option.bind_some]
        cases anyF (wbP s (l.getD j 0)) (nW s) 0 with
        | true => rw [show b01 true = 1 from rfl, if_neg (by decide : ¬ (1 : Int32) = 0)]
        | false => rw [show b01 false = 0 from rfl, if_pos rfl]
      by_cases h6 : (6 : Int32) ≤ nI t
      · rw [if_pos h6] at main ⊢
        by_cases h66 : nI t = 6
        · rw [if_pos h66] at main ⊢
          obtain ⟨f1, f2⟩ := fin R2 kps_rf
          exact ⟨R2, g.trans main, f1, f2⟩
        · rw [if_neg h66] at main ⊢
          obtain ⟨f1, f2⟩ := fin R3 w2
          exact ⟨R3, g.trans main, f1, f2⟩
      · rw [if_neg h6] at main ⊢
        have t6 : t < 6 := Nat.lt_of_not_le (fun q => h6 ((nI_leI (a := 6) (by decide) (by omega)).mpr q))
        have := hb t t6
        rw [show 6 * 0 + t = t by omega] at this
        rw [this] at main
        obtain ⟨f1, f2⟩ := fin R2 kps_rf
        exact ⟨R2, g.trans main, f1, f2⟩
    · rw [tsw_n (a := 0) (b := 7) hq, if_neg hq]
      exact ⟨R1, rfl, a2, hI1⟩
  · rw [tst_n hi, if_neg (show ¬ (0 ≤ i.toInt ∧ i.toInt < (l.length : Int)) from hi)]
    exact ⟨R1, rfl, a2, hI1⟩
theorem Mo_dri_no {R : oR} {x : Int32} (hx : ¬ (1 ≤ x.toInt ∧ x.toInt ≤ 8)) : f_Mo_drift r x (bk_Mo σ r R) = some (-1000000002, bk_Mo σ r R) := by
  unfold f_Mo_drift
  rw [Mo_own, in_wi, wi_lit, Option.bind_some, tsw_n (a := 1) (b := 8) hx]
end MO34
