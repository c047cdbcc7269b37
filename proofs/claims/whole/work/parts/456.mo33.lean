/-! ===== the reference: toldOn, isWishBox, box ===== -/
section MO33
variable {σ : hp_H} {r : Nat}
/-- neighbours among the brokers -/
def nbx (s : Nat → Int32) (x y : Int32) : Prop := inI x (nB s) ∧ inI y (nB s) ∧ nbrb (abS s) x.toNatClampNeg y.toNatClampNeg = true
theorem nbx_of {s : Nat → Int32} (hs : Wf s) {x y : Int32} (h : nbx s x y) : ∃ u v, u < nB s ∧ v < nB s ∧ x = nI u ∧ y = nI v ∧ nbrb (abS s) u v = true := by
  have hB7 := hs.1.1.2.2
  obtain ⟨h1, h2, h3⟩ := h
  obtain ⟨u, hu, rfl⟩ := inI_of h1 (by omega)
  obtain ⟨v, hv, rfl⟩ := inI_of h2 (by omega)
  rw [nI_cl (by omega), nI_cl (by omega)] at h3
  exact ⟨u, v, hu, hv, rfl, rfl, h3⟩
theorem Mo_nby {s : Nat → Int32} (hs : Wf s) {R : oR} (h0 : R.2 0 = s) {u v : Nat} (hu : u < nB s) (hv : v < nB s) (h : nbrb (abS s) u v = true) : f_Mo_areNeighbours r (nI u) (nI v) (bk_Mo σ r R) = some 1 := by
  have := Mo_nb (σ := σ) (r := r) (R := R) (x := u) (y := v) (by rw [h0]; exact hs.1) (by rw [h0]; exact hu) (by rw [h0]; exact hv)
  rw [h0, if_pos h] at this
  exact this
theorem Mo_nbn {s : Nat → Int32} (hs : Wf s) {R : oR} (h0 : R.2 0 = s) {x y : Int32} (h : ¬ nbx s x y) : f_Mo_areNeighbours r x y (bk_Mo σ r R) = some 0 := by
  have hB7 := hs.1.1.2.2
  by_cases h1 : inI x (nB s)
  · by_cases h2 : inI y (nB s)
    · obtain ⟨u, hu, rfl⟩ := inI_of h1 (by omega)
      obtain ⟨v, hv, rfl⟩ := inI_of h2 (by omega)
      have h3 : ¬ nbrb (abS s) u v = true := fun q => h ⟨h1, h2, by rw [nI_cl (by omega), nI_cl (by omega)]; exact q⟩
      have := Mo_nb (σ := σ) (r := r) (R := R) (x := u) (y := v) (by rw [h0]; exact hs.1) (by rw [h0]; exact hu) (by rw [h0]; exact hv)
      rw [h0, if_neg h3] at this
      exact this
    · unfold f_Mo_areNeighbours
      rw [Mo_own, Mo_isBroker (B := nB s) (by rw [h0]; exact hs.1.1.1) (by omega), Option.bind_some, tst_y h1, Mo_isBroker (B := nB s) (by rw [h0]; exact hs.1.1.1) (by omega), Option.bind_some, tst_n h2]
  · unfold f_Mo_areNeighbours
    rw [Mo_own, Mo_isBroker (B := nB s) (by rw [h0]; exact hs.1.1.1) (by omega), Option.bind_some, tst_n h1]
theorem nbrb_sy {ab : Nat → Nat} {x y : Nat} : nbrb ab x y = nbrb ab y x := by
  have : nbrb ab x y = true ↔ nbrb ab y x = true := by rw [nbrb_iff, nbrb_iff]; exact ⟨Or.symm, Or.symm⟩
  cases h : nbrb ab x y with
  | true => rw [this.mp h]
  | false =>
    cases h2 : nbrb ab y x with
    | true => rw [this.mpr h2] at h; cases h
    | false => rfl
theorem Mo_ton_no {s : Nat → Int32} (hs : Wf s) {R : oR} (h0 : R.2 0 = s) {x y : Int32} (h : ¬ nbx s x y) : f_Mo_toldOn r x y (bk_Mo σ r R) = some (-1000000001, bk_Mo σ r R) := by
  unfold f_Mo_toldOn
  rw [Mo_own, Mo_nbn hs h0 h, Option.bind_some, if_pos rfl]
theorem Mo_ton {s : Nat → Int32} (hs : Wf s) {R : oR} (h0 : R.2 0 = s) (hI : laidI R s) {u v : Nat} (hu : u < nB s) (hv : v < nB s) (h : nbrb (abS s) u v = true) : ∃ R', f_Mo_toldOn r (nI u) (nI v) (bk_Mo σ r R) = some (nI (TL s (lnk (abS s) u v)).length, bk_Mo σ r R') ∧ kps R R' [11, 13] [9, 10, 12, 14] ∧ laidI R' s := by
  have hB7 := hs.1.1.2.2
  obtain ⟨R1, tab, a1, a2, a3, a4, a5⟩ := Mo_lays (σ := σ) (r := r) hs h0 hI
  have h01 : R1.2 0 = s := by rw [a2.2 0 (by decide), h0]
  have hl : lnk (abS s) u v < 14 := lnk_lt (by omega) (by omega)
  have el : f_Mo_linkOf r (nI u) (nI v) (bk_Mo σ r R1) = some (nI (lnk (abS s) u v)) := by
    have := Mo_lnk (σ := σ) (r := r) (R := R1) (x := u) (y := v) (by rw [h01]; exact hs.1) (by rw [h01]; exact hu) (by rw [h01]; exact hv)
    rw [h01] at this
    exact this
  refine ⟨R1, ?_, a2, Or.inr a3, tab, a4, fun _ => a5⟩
  unfold f_Mo_toldOn
  rw [Mo_own, Mo_nby hs h0 hu hv h, Option.bind_some, if_neg (by decide), a1, Option.bind_some, Mo_g9, Option.bind_some, el, Option.bind_some, Mo_a9 hl, Option.bind_some, (a4 _ hl).1, agr_lnk a5 hv hu (by rw [nbrb_sy]; exact h)]
def wbP (s : Nat → Int32) (N w : Nat) : Bool := decide (wbx s w = N)
theorem b01_or1 {p : Bool} : b01 (true || p) = 1 := rfl
theorem Mo_iw1 {s : Nat → Int32} (hs : Wf s) {N : Nat} (hN : vb N) {K : Int32 → Int32 → hp_H → Option (Int32 × hp_H)} : ∀ (m k f : Nat) (p : Bool) (R : oR), k + m = nW s → R.2 0 = s → bxAt (R.2 12) 0 N → ∃ R', f_Mo_isWishBox_l1 r K (f + m + 1) (b01 p) (nI k) (bk_Mo σ r R) = K (b01 (p || anyF (wbP s N) m k)) (nI (nW s)) (bk_Mo σ r R') ∧ kps R R' [] [12]
  | 0, k, f, p, R, h, h0, hb => by
    have hW := hs.2.2.1.1.2
    have e2 : hp_aI (bk_Mo σ r R) (r + 1) 0 2 = some (nI (nW s)) := by rw [← hs.2.2.1.1.1, ← h0]; exact Mo_a0 (i := 2) (by decide)
    refine ⟨R, ?_, kps_rf⟩
    rw [f_Mo_isWishBox_l1, Mo_g0, Option.bind_some, e2, Option.bind_some, show k = nW s by omega, if_pos ((nI_leI (by omega) (by omega)).mpr (Nat.le_refl _)), anyF, Bool.or_false]
  | m + 1, k, f, p, R, h, h0, hb => by
    have hW := hs.2.2.1.1.2
    have e2 : hp_aI (bk_Mo σ r R) (r + 1) 0 2 = some (nI (nW s)) := by rw [← hs.2.2.1.1.1, ← h0]; exact Mo_a0 (i := 2) (by decide)
    obtain ⟨R1, t1, t2, t3, t4⟩ := Mo_tkw (σ := σ) (r := r) hs h0 (w := k) (k := 1) (by omega) (by decide)
    have t1 : f_Mo_takesWish r 1 (nI k) (bk_Mo σ r R) = some (bk_Mo σ r R1) := t1
    have b0 := t4 0 _ (by decide) hb
    have h01 : R1.2 0 = s := by rw [t2.2 0 (by decide), h0]
    have ih := fun p' => Mo_iw1 hs hN (K := K) m (k + 1) f p' R1 (by omega) h01 b0
    have eo : f_Mo_order r 0 1 (bk_Mo σ r R1) = some (ordv N (wbx s k)) := Mo_order (i := 0) (j := 1) b0 t3 (by decide) (by decide)
    have hv := (hs.2.2.1.2 k (by omega)).2.1
    have ho := (ordv_le hN.1 hv.1).2
    rw [f_Mo_isWishBox_l1, Mo_g0, Option.bind_some, e2, Option.bind_some, if_neg (fun q => by have := (nI_leI (by omega) (by omega)).mp q; omega), t1, Option.bind_some, nI_1, anyF]
    cases p with
    | true =>
      rw [show (b01 true) = 1 from rfl, if_neg (by decide)]
      obtain ⟨R2, i1, i2⟩ := ih true
      exact ⟨R2, i1, kps_tr t2 i2⟩
    | false =>
      rw [show (b01 false) = 0 from rfl, if_pos rfl, eo, Option.bind_some]
      by_cases hc : N = wbx s k
      · have hp : wbP s N k = true := by unfold wbP; exact decide_eq_true hc.symm
        rw [if_pos (ho.mpr hc), hp]
        obtain ⟨R2, i1, i2⟩ := ih true
        exact ⟨R2, i1, kps_tr t2 i2⟩
      · have hp : wbP s N k = false := by unfold wbP; exact decide_eq_false (fun e => hc e.symm)
        rw [if_neg (fun q => hc (ho.mp q)), hp]
        obtain ⟨R2, i1, i2⟩ := ih false
        exact ⟨R2, i1, kps_tr t2 i2⟩
theorem Mo_iwb {s : Nat → Int32} (hs : Wf s) {N : Nat} (hN : vb N) {R : oR} (h0 : R.2 0 = s) (hb : bxAt (R.2 12) 0 N) : ∃ R', f_Mo_isWishBox r (bk_Mo σ r R) = some (b01 (anyF (wbP s N) (nW s) 0), bk_Mo σ r R') ∧ kps R R' [] [12] := by
  have hW := hs.2.2.1.1.2
  obtain ⟨f, hf⟩ := hp_fu (nW s + 1) (by omega)
  have hf' : f + nW s + 1 = hp_F := hf.symm
  obtain ⟨R2, q1, q2⟩ := Mo_iw1 (σ := σ) (r := r) hs hN (K := fun z9 z10 σ => hp_z z9 (some (z9, σ))) (nW s) 0 f false R (by omega) h0 hb
  rw [hf'] at q1
  refine ⟨R2, ?_, q2⟩
  unfold f_Mo_isWishBox
  rw [Mo_own]
  refine (show _ = _ from q1).trans ?_
  rw [b01_z]
  rfl
theorem Mo_bo1 {R : oR} {k i : Nat} {x4 : Int32} (hk : k < 14) (hi : i < 9) {K : Int32 → hp_H → Option (Int32 × hp_H)} {A : Nat → Int32} : ∀ (m t n : Nat), t + m = 6 → f_Mo_box_l1 r (nI i) x4 (nI k) K (n + m + 1) (nI t) (bk_Mo σ r (sA R 12 (wr A 0 t (fun u => R.2 10 (54 * k + 6 * i + u))))) = K (nI 6) (bk_Mo σ r (sA R 12 (wr A 0 6 (fun u => R.2 10 (54 * k + 6 * i + u)))))
  | 0, t, n, h => by
    rw [show t = 6 by omega, f_Mo_box_l1, if_pos (by decide)]
  | m + 1, t, n, h => by
    rw [f_Mo_box_l1, if_neg (by rw [il_6, nI_leI (by omega) (by omega)]; omega), Mo_g12, Option.bind_some, Mo_g10, Option.bind_some, il_54, il_6, pk_mul, pk_mul, nI_add, nI_add, Mo_a10 (by omega), Option.bind_some, sA_ne (by decide), Mo_s12 (by omega), Option.bind_some, nI_1]
    have e : (((sA R 12 (wr A 0 t (fun u => R.2 10 (54 * k + 6 * i + u)))).1, up2 (sA R 12 (wr A 0 t (fun u => R.2 10 (54 * k + 6 * i + u)))).2 12 t (R.2 10 (54 * k + 6 * i + t))) : oR) = sA R 12 (wr A 0 (t + 1) (fun u => R.2 10 (54 * k + 6 * i + u))) := by
      show sA (sA R 12 (wr A 0 t (fun u => R.2 10 (54 * k + 6 * i + u)))) 12 (upd ((sA R 12 (wr A 0 t (fun u => R.2 10 (54 * k + 6 * i + u)))).2 12) t (R.2 10 (54 * k + 6 * i + t))) = _
      rw [sA_A, sA_at]
      congr 1
      have := wr_s (A := A) (base := 0) (m := t) (g := fun u => R.2 10 (54 * k + 6 * i + u))
      rw [Nat.zero_add] at this
      exact this
    rw [e]
    exact Mo_bo1 hk hi m (t + 1) n (by omega)
theorem Mo_box_no {s : Nat → Int32} (hs : Wf s) {R : oR} (h0 : R.2 0 = s) {x y i q : Int32} (h : ¬ nbx s x y) : f_Mo_box r x y i q (bk_Mo σ r R) = some (-1000000001, bk_Mo σ r R) := by
  unfold f_Mo_box
  rw [Mo_own, Mo_nbn hs h0 h, Option.bind_some, if_pos rfl]
/-- what box answers of the i-th box -/
def boS (s : Nat → Int32) (l : List Nat) (i q : Int32) : Int32 := if 0 ≤ i.toInt ∧ i.toInt < (l.length : Int) then (if 0 ≤ q.toInt ∧ q.toInt ≤ 7 then (if (6 : Int32) ≤ q then (if q = 6 then nI (siz (l.getD i.toNatClampNeg 0)) else b01 (anyF (wbP s (l.getD i.toNatClampNeg 0)) (nW s) 0)) else nI (dgt q.toNatClampNeg (l.getD i.toNatClampNeg 0))) else -1000000002) else -1000000001
end MO33
