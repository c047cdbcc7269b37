/-! ===== the reference: the loops of brokerAt ===== -/
section MO28
variable {σ : hp_H} {r : Nat} {R : oR}
theorem Mo_ba1 {s : Nat → Int32} (hs : Wf s) (h0 : R.2 0 = s) {b : Nat} (hb : b < nB s) {K : Int32 → Int32 → Option Int32} : ∀ (m k f : Nat) (a : Int32), k + m = nB s → f_Mo_brokerAt_l1 r (nI b) (bk_Mo σ r R) K (f + m + 1) a (nI k) = K (mkI (fun v => nbrb (abS s) b v) m k a) (nI (nB s))
  | 0, k, f, a, h => by
    have hB7 := hs.1.1.2.2
    have e0 : hp_aI (bk_Mo σ r R) (r + 1) 0 0 = some (nI (nB s)) := by rw [← hs.1.1.1, ← h0]; exact Mo_a0 (i := 0) (by decide)
    rw [f_Mo_brokerAt_l1, Mo_g0, Option.bind_some, e0, Option.bind_some, show k = nB s by omega, if_pos ((nI_leI (by omega) (by omega)).mpr (Nat.le_refl _)), mkI]
  | m + 1, k, f, a, h => by
    have hB7 := hs.1.1.2.2
    have e0 : hp_aI (bk_Mo σ r R) (r + 1) 0 0 = some (nI (nB s)) := by rw [← hs.1.1.1, ← h0]; exact Mo_a0 (i := 0) (by decide)
    have en : f_Mo_areNeighbours r (nI b) (nI k) (bk_Mo σ r R) = some (if nbrb (abS s) b k = true then 1 else 0) := by
      have := Mo_nb (σ := σ) (r := r) (R := R) (x := b) (y := k) (by rw [h0]; exact hs.1) (by rw [h0]; exact hb) (by rw [h0]; omega)
      rw [h0] at this
      exact this
    rw [f_Mo_brokerAt_l1, Mo_g0, Option.bind_some, e0, Option.bind_some, if_neg (fun q => by have := (nI_leI (by omega) (by omega)).mp q; omega), en, Option.bind_some, nI_1, mkI]
    by_cases hc : nbrb (abS s) b k = true
    · rw [if_pos hc, if_neg (by decide), if_pos hc]
      exact Mo_ba1 hs h0 hb m (k + 1) f _ (by omega)
    · rw [if_neg hc, if_pos rfl, if_neg hc]
      exact Mo_ba1 hs h0 hb m (k + 1) f _ (by omega)
end MO28
