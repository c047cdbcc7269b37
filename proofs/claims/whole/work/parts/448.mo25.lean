/-! ===== the reference: clientAt ===== -/
/-- a mask, bit by bit -/
def mkI (p : Nat → Bool) : Nat → Nat → Int32 → Int32
  | 0, _, a => a
  | m + 1, k, a => mkI p m (k + 1) (if p k = true then a ||| ((1 : Int32) <<< (nI k &&& 31)) else a ||| 0)
def cAt (s : Nat → Int32) (c : Nat) : Int32 := mkI (fun w => decide (s (170 + 7 * w) = nI c)) (nW s) 0 0
section MO25
variable {σ : hp_H} {r : Nat} {R : oR} {x y : Int32}
theorem Mo_ca1 {s : Nat → Int32} (hs : Wf s) (h0 : R.2 0 = s) {c : Nat} {K : Int32 → Int32 → Option Int32} : ∀ (m k f : Nat) (a : Int32), k + m = nW s → f_Mo_clientAt_l1 r (nI c) (bk_Mo σ r R) K (f + m + 1) a (nI k) = K (mkI (fun w => decide (s (170 + 7 * w) = nI c)) m k a) (nI (nW s))
  | 0, k, f, a, h => by
    have hW := hs.2.2.1.1.2
    have e2 : hp_aI (bk_Mo σ r R) (r + 1) 0 2 = some (nI (nW s)) := by rw [← hs.2.2.1.1.1, ← h0]; exact Mo_a0 (i := 2) (by decide)
    rw [f_Mo_clientAt_l1, Mo_g0, Option.bind_some, e2, Option.bind_some, show k = nW s by omega, if_pos ((nI_leI (by omega) (by omega)).mpr (Nat.le_refl _)), mkI]
  | m + 1, k, f, a, h => by
    have hW := hs.2.2.1.1.2
    have e2 : hp_aI (bk_Mo σ r R) (r + 1) 0 2 = some (nI (nW s)) := by rw [← hs.2.2.1.1.1, ← h0]; exact Mo_a0 (i := 2) (by decide)
    have ew : f_Mo_wish r (nI k) 0 (bk_Mo σ r R) = some (s (170 + 7 * k)) := by
      have := Mo_wish (σ := σ) (r := r) (R := R) (w := k) (k := 0) (by omega)
      rw [h0, Nat.add_zero] at this
      exact this
    rw [f_Mo_clientAt_l1, Mo_g0, Option.bind_some, e2, Option.bind_some, if_neg (fun q => by have := (nI_leI (by omega) (by omega)).mp q; omega), ew, Option.bind_some, nI_1, mkI]
    by_cases hc : s (170 + 7 * k) = nI c
    · rw [if_pos hc, if_pos (decide_eq_true hc)]
      exact Mo_ca1 hs h0 m (k + 1) f _ (by omega)
    · rw [if_neg hc, if_neg (fun q => hc (of_decide_eq_true q))]
      exact Mo_ca1 hs h0 m (k + 1) f _ (by omega)
theorem Mo_cat_no {s : Nat → Int32} (hs : Wf s) (h0 : R.2 0 = s) (hx : ¬ inI x (nC s)) : f_Mo_clientAt r x y (bk_Mo σ r R) = some (-1000000001) := by
  have hC6 := hs.2.1.1.2
  unfold f_Mo_clientAt
  rw [Mo_own, Mo_isClient (C := nC s) (by rw [h0]; exact hs.2.1.1.1) (by omega), Option.bind_some, tst_n hx]
theorem Mo_cat {s : Nat → Int32} (hs : Wf s) (h0 : R.2 0 = s) {c : Nat} (hc : c < nC s) : f_Mo_clientAt r (nI c) y (bk_Mo σ r R) = some (if y = 0 then s (16 + 25 * c) else if y = 1 then s (17 + 25 * c) else if y = 2 then s (18 + 25 * c) else if y = 3 then s (20 + 25 * c) else if y = 4 then s (19 + 25 * c) else if y = 5 then cAt s c else -1000000002) := by
  have hC6 := hs.2.1.1.2
  have hW := hs.2.2.1.1.2
  obtain ⟨f, hf⟩ := hp_fu (nW s + 1) (by omega)
  have hf' : f + nW s + 1 = hp_F := hf.symm
  have q := Mo_ca1 (σ := σ) (r := r) hs h0 (c := c) (K := fun z26 z27 => some z26) (nW s) 0 f 0 (by omega)
  rw [hf'] at q
  have o : ∀ k, k < 5 → f_Mo_of r (nI c) (nI k) (bk_Mo σ r R) = some (s (16 + 25 * c + k)) := fun k hk => by
    have := Mo_of (σ := σ) (r := r) (R := R) (c := c) (k := k) (by omega)
    rw [h0] at this
    exact this
  have o0 : f_Mo_of r (nI c) 0 (bk_Mo σ r R) = some (s (16 + 25 * c)) := o 0 (by decide)
  have o1 : f_Mo_of r (nI c) 1 (bk_Mo σ r R) = some (s (17 + 25 * c)) := by rw [show 17 + 25 * c = 16 + 25 * c + 1 by omega]; exact o 1 (by decide)
  have o2 : f_Mo_of r (nI c) 2 (bk_Mo σ r R) = some (s (18 + 25 * c)) := by rw [show 18 + 25 * c = 16 + 25 * c + 2 by omega]; exact o 2 (by decide)
  have o3 : f_Mo_of r (nI c) 3 (bk_Mo σ r R) = some (s (19 + 25 * c)) := by rw [show 19 + 25 * c = 16 + 25 * c + 3 by omega]; exact o 3 (by decide)
  have o4 : f_Mo_of r (nI c) 4 (bk_Mo σ r R) = some (s (20 + 25 * c)) := by rw [show 20 + 25 * c = 16 + 25 * c + 4 by omega]; exact o 4 (by decide)
  unfold f_Mo_clientAt
  rw [Mo_own, Mo_isClient (C := nC s) (by rw [h0]; exact hs.2.1.1.1) (by omega), Option.bind_some, tst_y (inI_nI hc (by omega)), o0, o1, o2, o3, o4, Option.bind_some, Option.bind_some, Option.bind_some, Option.bind_some, Option.bind_some]
  split
  · rfl
  · split
    · rfl
    · split
      · rfl
      · split
        · rfl
        · split
          · rfl
          · split
            · exact q
            · rfl
end MO25
