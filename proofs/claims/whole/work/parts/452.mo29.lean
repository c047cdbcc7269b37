/-! ===== the reference: brokerAt ===== -/
section MO29
variable {σ : hp_H} {r : Nat} {R : oR} {x y : Int32}
theorem Mo_ba2 {s : Nat → Int32} (hs : Wf s) (h0 : R.2 0 = s) {b : Nat} {K : Int32 → Int32 → Option Int32} : ∀ (m k f : Nat) (a : Int32), k + m = nC s → f_Mo_brokerAt_l2 r (nI b) (bk_Mo σ r R) K (f + m + 1) a (nI k) = K (mkI (fun v => decide (s (16 + 25 * v) = nI b)) m k a) (nI (nC s))
  | 0, k, f, a, h => by
    have hC6 := hs.2.1.1.2
    have e0 : hp_aI (bk_Mo σ r R) (r + 1) 0 1 = some (nI (nC s)) := by rw [← hs.2.1.1.1, ← h0]; exact Mo_a0 (i := 1) (by decide)
    rw [f_Mo_brokerAt_l2, Mo_g0, Option.bind_some, e0, Option.bind_some, show k = nC s by omega, if_pos ((nI_leI (by omega) (by omega)).mpr (Nat.le_refl _)), mkI]
  | m + 1, k, f, a, h => by
    have hC6 := hs.2.1.1.2
    have e0 : hp_aI (bk_Mo σ r R) (r + 1) 0 1 = some (nI (nC s)) := by rw [← hs.2.1.1.1, ← h0]; exact Mo_a0 (i := 1) (by decide)
    have eo : f_Mo_of r (nI k) 0 (bk_Mo σ r R) = some (s (16 + 25 * k)) := by
      have := Mo_of (σ := σ) (r := r) (R := R) (c := k) (k := 0) (by omega)
      rw [h0] at this
      exact this
    rw [f_Mo_brokerAt_l2, Mo_g0, Option.bind_some, e0, Option.bind_some, if_neg (fun q => by have := (nI_leI (by omega) (by omega)).mp q; omega), eo, Option.bind_some, nI_1, mkI]
    by_cases hc : s (16 + 25 * k) = nI b
    · rw [if_pos hc, if_pos (decide_eq_true hc)]
      exact Mo_ba2 hs h0 m (k + 1) f _ (by omega)
    · rw [if_neg hc, if_neg (fun q => hc (of_decide_eq_true q))]
      exact Mo_ba2 hs h0 m (k + 1) f _ (by omega)
theorem Mo_ba3 {s : Nat → Int32} (hs : Wf s) (h0 : R.2 0 = s) {b : Nat} {K : Int32 → Int32 → Option Int32} : ∀ (m k f : Nat) (a : Int32), k + m = nW s → f_Mo_brokerAt_l3 r (nI b) (bk_Mo σ r R) K (f + m + 1) a (nI k) = K (mkI (fun w => decide (s (16 + 25 * ownr s w) = nI b)) m k a) (nI (nW s))
  | 0, k, f, a, h => by
    have hW := hs.2.2.1.1.2
    have e0 : hp_aI (bk_Mo σ r R) (r + 1) 0 2 = some (nI (nW s)) := by rw [← hs.2.2.1.1.1, ← h0]; exact Mo_a0 (i := 2) (by decide)
    rw [f_Mo_brokerAt_l3, Mo_g0, Option.bind_some, e0, Option.bind_some, show k = nW s by omega, if_pos ((nI_leI (by omega) (by omega)).mpr (Nat.le_refl _)), mkI]
  | m + 1, k, f, a, h => by
    have hC6 := hs.2.1.1.2
    have hW := hs.2.2.1.1.2
    obtain ⟨⟨q1, q2⟩, -⟩ := hs.2.2.1.2 k (by omega)
    have e0 : hp_aI (bk_Mo σ r R) (r + 1) 0 2 = some (nI (nW s)) := by rw [← hs.2.2.1.1.1, ← h0]; exact Mo_a0 (i := 2) (by decide)
    have ew : f_Mo_wish r (nI k) 0 (bk_Mo σ r R) = some (nI (ownr s k)) := by
      have := Mo_wish (σ := σ) (r := r) (R := R) (w := k) (k := 0) (by omega)
      rw [h0, Nat.add_zero, q1] at this
      exact this
    have eo : f_Mo_of r (nI (ownr s k)) 0 (bk_Mo σ r R) = some (s (16 + 25 * ownr s k)) := by
      have := Mo_of (σ := σ) (r := r) (R := R) (c := ownr s k) (k := 0) (by omega)
      rw [h0] at this
      exact this
    rw [f_Mo_brokerAt_l3, Mo_g0, Option.bind_some, e0, Option.bind_some, if_neg (fun q => by have := (nI_leI (by omega) (by omega)).mp q; omega), ew, Option.bind_some, eo, Option.bind_some, nI_1, mkI]
    by_cases hc : s (16 + 25 * ownr s k) = nI b
    · rw [if_pos hc, if_pos (decide_eq_true hc)]
      exact Mo_ba3 hs h0 m (k + 1) f _ (by omega)
    · rw [if_neg hc, if_neg (fun q => hc (of_decide_eq_true q))]
      exact Mo_ba3 hs h0 m (k + 1) f _ (by omega)
end MO29
