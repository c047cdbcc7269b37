/-! ===== the reference: takesWish, would ===== -/
section MO26
variable {σ : hp_H} {r : Nat} {R : oR} {x y : Int32}
theorem Mo_wld {s : Nat → Int32} (hs : Wf s) (h0 : R.2 0 = s) (hI : laidI R s) {b x y z q : Nat} (hb : b < nB s) (hx : x < 10) (hy : y < 10) (hz : z < 10) (hq : q < 4) : ∃ R' P c G V, f_Mo_would r (nI b) (nI x) (nI y) (nI z) (nI q) (bk_Mo σ r R) = some (if q = 0 then nI P else if q = 1 then nI G else if q = 2 then nI V else nI c, bk_Mo σ r R') ∧ kps R R' [11, 13, 15, 16, 17, 18] [9, 10, 12, 14] ∧ laidI R' s ∧ JR s (nt x y z) b P c G V := by
  have hB7 := hs.1.1.2.2
  obtain ⟨R1, P, c, G, V, a1, a2, a3, a4, a5, a6, a7, a8⟩ := Mo_walks (σ := σ) (r := r) hs h0 hI hb hx hy hz
  refine ⟨R1, P, c, G, V, ?_, a2, a3, a4⟩
  have hw : (0 : Int32).toInt ≤ (nI q).toInt ∧ (nI q).toInt ≤ (3 : Int32).toInt := by
    rw [nI_toInt (by omega)]
    show (0 : Int) ≤ q ∧ (q : Int) ≤ 3
    omega
  unfold f_Mo_would
  rw [Mo_own, Mo_isBroker (B := nB s) (by rw [h0]; exact hs.1.1.1) (by omega), Option.bind_some, tst_y (inI_nI hb (by omega)), Mo_thg hx hy hz, Option.bind_some, if_neg (by decide), in_wi, wi_lit, Option.bind_some, tsw_y hw, a1, Option.bind_some, Mo_g15, Option.bind_some, Mo_g16, Option.bind_some, Mo_g17, Option.bind_some, Mo_g18, Option.bind_some, a5, a6, a7, a8]
  match q, hq with
  | 0, _ => rfl
  | 1, _ => rfl
  | 2, _ => rfl
  | 3, _ => rfl
end MO26
