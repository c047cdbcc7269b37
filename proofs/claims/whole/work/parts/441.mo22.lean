/-! ===== the reference: a step of drift ===== -/
section MO22
variable {σ : hp_H} {r : Nat} {R : oR}
theorem Mo_drx {v m d : Nat} (hv : v < 2 ^ 31) (hd : drw v = d) (h1 : R.1 1 = nI v) (h0 : 0 < m) (hm : m < 2 ^ 31) : f_Mo_draws r (nI m) (bk_Mo σ r R) = some (nI (d / 65536 % m), bk_Mo σ r (sF R 1 (nI d))) := by
  rw [← hd]
  exact Mo_drw hv h1 h0 hm
/-- one step of drift -/
theorem Mo_dft {k v n i f e1 e2 e3 e4 : Nat} {s : Nat → Int32} (hs : Wf s) (hk : k ≤ 16) (h0 : R.2 0 = s) (h3 : R.1 3 = nI k) (hI : laidI R s) (hv : v < 2 ^ 31) (h1 : R.1 1 = nI v) (q1 : drw v = e1) (q2 : drw e1 = e2) (q3 : drw e2 = e3) (q4 : drw e3 = e4) (hi : i < n) (hn : n ≤ 8) {K : Int32 → hp_H → Option (Int32 × hp_H)} : ∃ R' P c G V, f_Mo_drift_l1 r (nI n) K (f + 1) (nI i) (bk_Mo σ r R) = f_Mo_drift_l1 r (nI n) K f (nI (i + 1)) (bk_Mo σ r R') ∧ kps (sF (sA (dedX R k) 0 s) 1 (nI e4)) R' [11, 13, 15, 16, 17, 18] [0, 9, 10, 12, 14] ∧ R'.2 0 = putS s c G V ∧ laidI R' (putS s c G V) ∧ JR s (nt (e2 / 65536 % 10) (e3 / 65536 % 10) (e4 / 65536 % 10)) (e1 / 65536 % nB s) P c G V := by
  have b1 : e1 < 2 ^ 31 := by rw [← q1]; exact drw_lt
  have b2 : e2 < 2 ^ 31 := by rw [← q2]; exact drw_lt
  have b3 : e3 < 2 ^ 31 := by rw [← q3]; exact drw_lt
  have hB1 := hs.1.1.2.1
  have hB7 := hs.1.1.2.2
  have e0 : ∀ A, A 0 = nI (nB s) → hp_aI (bk_Mo σ r (sA (dedX R k) 0 A)) (r + 1) 0 0 = some (nI (nB s)) := fun A hA => by rw [Mo_r_0, hA]
  have g1 : (sA (dedX R k) 0 s).1 1 = nI v := by rw [ded_kps.1 1 (by decide)]; exact h1
  generalize hQ : sA (dedX R k) 0 s = Q at g1
  have hQ0 : Q.2 0 = s := by rw [← hQ]; exact sA_at
  have hQI : laidI Q s := by rw [← hQ]; exact ded_laid hI
  have sFF : ∀ a b : Int32, sF (sF Q 1 a) 1 b = sF Q 1 b := fun a b => by
    unfold sF
    refine Prod.ext ?_ rfl
    funext j
    show upd (upd Q.1 1 a) 1 b j = upd Q.1 1 b j
    unfold upd
    split <;> rfl
  have hQI' : laidI (sF Q 1 (nI e4)) s := by
    obtain ⟨i1, tab, i2, i3⟩ := hQI
    have e11 : (sF Q 1 (nI e4)).1 11 = Q.1 11 := sF_ne (by decide)
    refine ⟨by rw [e11]; exact i1, tab, i2, fun q => i3 (by rw [← e11]; exact q)⟩
  obtain ⟨R', P, c, G, V, a1, a2, a3, a4, a5⟩ := Mo_puts (σ := σ) (r := r) hs (R := sF Q 1 (nI e4)) hQ0 hQI' (b := e1 / 65536 % nB s) (x := e2 / 65536 % 10) (y := e3 / 65536 % 10) (z := e4 / 65536 % 10) (Nat.mod_lt _ (by omega)) (Nat.mod_lt _ (by decide)) (Nat.mod_lt _ (by decide)) (Nat.mod_lt _ (by decide))
  refine ⟨R', P, c, G, V, ?_, a2, a3, a4, a5⟩
  have e0' : hp_aI (bk_Mo σ r Q) (r + 1) 0 0 = some (nI (nB s)) := by rw [← hQ]; exact e0 s hs.1.1.1
  have t10 : (10 : Int32) = nI 10 := rfl
  rw [f_Mo_drift_l1, if_neg (fun q => by have := (nI_leI (by omega) (by omega)).mp q; omega), Mo_dd hk h0 h3, Option.bind_some, hQ, Mo_g0, Option.bind_some, e0', Option.bind_some, Mo_drx hv q1 g1 (by omega) (by omega), hp_bs, t10, Mo_drx b1 q2 sF_at (by decide) (by decide), hp_bs, sFF, Mo_drx b2 q3 sF_at (by decide) (by decide), hp_bs, sFF, Mo_drx b3 q4 sF_at (by decide) (by decide), hp_bs, sFF, a1, hp_bs, nI_1]
end MO22
