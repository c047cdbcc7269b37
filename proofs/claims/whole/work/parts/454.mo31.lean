/-! ===== the reference: would's refusals, wrong, told ===== -/
/-- the first that is so, from k on, m of them -/
def frst (p : Nat → Bool) : Nat → Nat → Int32
  | 0, _ => -1
  | m + 1, k => if p k = true then nI k else frst p m (k + 1)
def badE (s A B : Nat → Int32) (j : Nat) : Bool := !(decide (0 ≤ (A j).toInt ∧ (A j).toInt < (nC s : Int))) || !(decide (s (18 + 25 * (A j).toNatClampNeg) = B j))
theorem badE_no {s A B : Nat → Int32} {j : Nat} (h : ¬ inI (A j) (nC s)) : badE s A B j = true := by
  unfold badE
  rw [decide_eq_false (p := 0 ≤ (A j).toInt ∧ (A j).toInt < (nC s : Int)) h]
  rfl
theorem badE_y {s A B : Nat → Int32} {j : Nat} (h : inI (A j) (nC s)) : badE s A B j = true ↔ ¬ s (18 + 25 * (A j).toNatClampNeg) = B j := by
  unfold badE
  rw [decide_eq_true (p := 0 ≤ (A j).toInt ∧ (A j).toInt < (nC s : Int)) h]
  simp
section MO31
variable {σ : hp_H} {r : Nat} {R : oR} {x y a b c : Int32}
theorem Mo_wld_no {s : Nat → Int32} (hs : Wf s) (h0 : R.2 0 = s) (hx : ¬ inI x (nB s)) : f_Mo_would r x a b c y (bk_Mo σ r R) = some (-1000000001, bk_Mo σ r R) := by
  have hB7 := hs.1.1.2.2
  unfold f_Mo_would
  rw [Mo_own, Mo_isBroker (B := nB s) (by rw [h0]; exact hs.1.1.1) (by omega), Option.bind_some, tst_n hx]
theorem Mo_wld_bad {s : Nat → Int32} (hs : Wf s) (h0 : R.2 0 = s) (hx : inI x (nB s)) (h : ¬ ((inI a 10 ∧ inI b 10 ∧ inI c 10) ∧ 0 ≤ y.toInt ∧ y.toInt ≤ 3)) : f_Mo_would r x a b c y (bk_Mo σ r R) = some (-1000000002, bk_Mo σ r R) := by
  have hB7 := hs.1.1.2.2
  unfold f_Mo_would
  rw [Mo_own, Mo_isBroker (B := nB s) (by rw [h0]; exact hs.1.1.1) (by omega), Option.bind_some, tst_y hx]
  by_cases ht : inI a 10 ∧ inI b 10 ∧ inI c 10
  · obtain ⟨i, hi, rfl⟩ := inI_of ht.1 (by decide)
    obtain ⟨j, hj, rfl⟩ := inI_of ht.2.1 (by decide)
    obtain ⟨k, hk, rfl⟩ := inI_of ht.2.2 (by decide)
    rw [Mo_thg hi hj hk, Option.bind_some, if_neg (by decide), in_wi, wi_lit, Option.bind_some, tsw_n (a := 0) (b := 3) (fun q => h ⟨ht, q⟩)]
  · rw [Mo_thg_no ht, Option.bind_some, if_pos rfl]
theorem Mo_wr1 {s : Nat → Int32} (hs : Wf s) (h0 : R.2 0 = s) {n : Nat} (hn : n ≤ 20) {K : Int32 → Int32 → Option Int32} : ∀ (m k f : Nat), m + k = n → f_Mo_wrong_l1 r (bk_Mo σ r R) K (f + m + 1) (frst (badE s (R.2 6) (R.2 7)) k m) (nI m - 1) = K (frst (badE s (R.2 6) (R.2 7)) n 0) (nI 0 - 1)
  | 0, k, f, h => by
    rw [f_Mo_wrong_l1, if_pos (by decide), show k = n by omega]
  | m + 1, k, f, h => by
    have hC6 := hs.2.1.1.2
    have hlt : ¬ nI m < 0 := nI_pos (by omega)
    have em : nI m + (-1) = nI m - 1 := (Int32.sub_eq_add_neg _ _).symm
    have ih := Mo_wr1 hs h0 hn (K := K) m (k + 1) f (by omega)
    rw [f_Mo_wrong_l1, nI_pred, if_neg hlt, Mo_g6, Option.bind_some, Mo_a6 (i := m) (by omega), Option.bind_some, Mo_isClient (C := nC s) (by rw [h0]; exact hs.2.1.1.1) (by omega), Option.bind_some, Option.bind_some, Mo_a6 (i := m) (by omega), Option.bind_some, em]
    by_cases hx : inI (R.2 6 m) (nC s)
    · obtain ⟨c, hc, ec⟩ := inI_of hx (by omega)
      have o2 : f_Mo_of r (R.2 6 m) 2 (bk_Mo σ r R) = some (s (18 + 25 * (R.2 6 m).toNatClampNeg)) := by
        have := Mo_of (σ := σ) (r := r) (R := R) (c := c) (k := 2) (by omega)
        rw [h0, show 16 + 25 * c + 2 = 18 + 25 * c by omega] at this
        rw [ec, nI_cl (by omega)]
        exact this
      rw [tst_y hx, o2, Option.bind_some, Mo_g7, Option.bind_some, Mo_a7 (i := m) (by omega), Option.bind_some]
      have hb := badE_y (B := R.2 7) hx
      by_cases he : s (18 + 25 * (R.2 6 m).toNatClampNeg) = R.2 7 m
      · rw [if_pos he]
        rw [frst, if_neg (fun q => hb.mp q he)] at ih
        exact ih
      · rw [if_neg he]
        rw [frst, if_pos (hb.mpr he)] at ih
        exact ih
    · rw [tst_n hx]
      rw [frst, if_pos (badE_no hx)] at ih
      exact ih
theorem Mo_wro {s : Nat → Int32} (hs : Wf s) (h0 : R.2 0 = s) {n : Nat} (hn : n ≤ 20) (h8 : R.1 8 = nI n) : f_Mo_wrong r (bk_Mo σ r R) = some (frst (badE s (R.2 6) (R.2 7)) n 0) := by
  obtain ⟨f, hf⟩ := hp_fu (n + 1) (by omega)
  have hf' : f + n + 1 = hp_F := hf.symm
  have q := Mo_wr1 (σ := σ) (r := r) hs h0 hn (K := fun z15 z16 => some z15) n 0 f (by omega)
  rw [hf', show frst (badE s (R.2 6) (R.2 7)) 0 n = -1 from rfl] at q
  unfold f_Mo_wrong
  rw [Mo_own, Mo_g8, Option.bind_some, h8]
  exact q
/-- what told answers, but at 5 -/
def toS (s : Nat → Int32) (R : oR) (n : Nat) (x : Int32) : Int32 := if x = 0 then s 0 else if x = 1 then s 1 else if x = 2 then s 2 else if x = 3 then s 3 else if x = 4 then s 4 else if x = 6 then s 5 else if x = 7 then s 6 else if x = 8 then R.1 8 else if x = 9 then frst (badE s (R.2 6) (R.2 7)) n 0 else if x = 10 then R.1 3 else if x = 11 then R.1 1 else -1000000002
theorem Mo_tol {s : Nat → Int32} (hs : Wf s) (h0 : R.2 0 = s) {n : Nat} (hn : n ≤ 20) (h8 : R.1 8 = nI n) (h5 : x ≠ 5) : f_Mo_told r x (bk_Mo σ r R) = some (toS s R n x, bk_Mo σ r R) := by
  have hw := Mo_wro (σ := σ) (r := r) hs h0 hn h8
  have o : ∀ k, k < 7 → hp_aI (bk_Mo σ r R) (r + 1) 0 (nI k) = some (s k) := fun k hk => by rw [Mo_a0 (by omega), h0]
  unfold f_Mo_told toS
  rw [Mo_own, Mo_g0, Option.bind_some, Mo_g8, Option.bind_some, hw, Option.bind_some, Mo_g3, Option.bind_some, Mo_g1, Option.bind_some]
  by_cases e0 : x = 0
  · rw [if_pos e0, if_pos e0, e0, show hp_aI (bk_Mo σ r R) (r + 1) 0 0 = some (s 0) from o 0 (by decide)]
    rfl
  rw [if_neg e0, if_neg e0]
  by_cases e1 : x = 1
  · rw [if_pos e1, if_pos e1, e1, show hp_aI (bk_Mo σ r R) (r + 1) 0 1 = some (s 1) from o 1 (by decide)]
    rfl
  rw [if_neg e1, if_neg e1]
  by_cases e2 : x = 2
  · rw [if_pos e2, if_pos e2, e2, show hp_aI (bk_Mo σ r R) (r + 1) 0 2 = some (s 2) from o 2 (by decide)]
    rfl
  rw [if_neg e2, if_neg e2]
  by_cases e3 : x = 3
  · rw [if_pos e3, if_pos e3, e3, show hp_aI (bk_Mo σ r R) (r + 1) 0 3 = some (s 3) from o 3 (by decide)]
    rfl
  rw [if_neg e3, if_neg e3]
  by_cases e4 : x = 4
  · rw [if_pos e4, if_pos e4, e4, show hp_aI (bk_Mo σ r R) (r + 1) 0 4 = some (s 4) from o 4 (by decide)]
    rfl
  rw [if_neg e4, if_neg e4, if_neg h5, show hp_aI (bk_Mo σ r R) (r + 1) 0 5 = some (s 5) from o 5 (by decide), show hp_aI (bk_Mo σ r R) (r + 1) 0 6 = some (s 6) from o 6 (by decide), Option.bind_some, Option.bind_some]
  split
  · rfl
  · split
    · rfl
    · split
      · rfl
      · split
        · rfl
        · split
          · rfl
          · split
            · rfl
            · rfl
theorem Mo_tol5 {s : Nat → Int32} (hs : Wf s) (h0 : R.2 0 = s) (hI : laidI R s) : ∃ R', f_Mo_told r 5 (bk_Mo σ r R) = some (nI (tcF (TL s) (nB s - 1) 1 0), bk_Mo σ r R') ∧ kps R R' [11, 13] [9, 10, 12, 14] ∧ laidI R' s := by
  obtain ⟨R1, a1, a2, a3⟩ := Mo_all (σ := σ) (r := r) hs h0 hI
  refine ⟨R1, ?_, a2, a3⟩
  unfold f_Mo_told
  rw [Mo_own, a1, hp_bs]
  rfl
end MO31
