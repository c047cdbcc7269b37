/-! ===== the reference: allTold ===== -/
/-- the told boxes counted, from broker n on, m of them -/
def tcF (tab : Nat → List Nat) : Nat → Nat → Nat → Nat
  | 0, _, a => a
  | m + 1, n, a => tcF tab m (n + 1) (a + ((tab (2 * n)).length + (tab (2 * n + 1)).length))
theorem tcF_congr {s : Nat → Int32} {tab : Nat → List Nat} (ha : agr s tab) : ∀ (m n a : Nat), 0 < n → n + m = nB s → tcF tab m n a = tcF (TL s) m n a
  | 0, _, _, _, _ => rfl
  | m + 1, n, a, h, hn => by
    obtain ⟨e1, e2⟩ := ha n h (by omega)
    rw [tcF, tcF, e1, e2]
    exact tcF_congr ha m (n + 1) _ (by omega) (by omega)
section MO27
variable {σ : hp_H} {r : Nat} {R : oR}
theorem Mo_at1 {s : Nat → Int32} (hs : Wf s) (h0 : R.2 0 = s) {tab : Nat → List Nat} (ht : tdA R tab) {K : Int32 → Int32 → Option (Int32 × hp_H)} : ∀ (m n f a : Nat), n + m = nB s → f_Mo_allTold_l1 r (bk_Mo σ r R) K (f + m + 1) (nI a) (nI n) = K (nI (tcF tab m n a)) (nI (nB s))
  | 0, n, f, a, h => by
    have hB7 := hs.1.1.2.2
    have e0 : hp_aI (bk_Mo σ r R) (r + 1) 0 0 = some (nI (nB s)) := by rw [← hs.1.1.1, ← h0]; exact Mo_a0 (i := 0) (by decide)
    rw [f_Mo_allTold_l1, Mo_g0, Option.bind_some, e0, Option.bind_some, show n = nB s by omega, if_pos ((nI_leI (by omega) (by omega)).mpr (Nat.le_refl _)), tcF]
  | m + 1, n, f, a, h => by
    have hB7 := hs.1.1.2.2
    have e0 : hp_aI (bk_Mo σ r R) (r + 1) 0 0 = some (nI (nB s)) := by rw [← hs.1.1.1, ← h0]; exact Mo_a0 (i := 0) (by decide)
    rw [f_Mo_allTold_l1, Mo_g0, Option.bind_some, e0, Option.bind_some, if_neg (fun q => by have := (nI_leI (by omega) (by omega)).mp q; omega), Mo_g9, Option.bind_some, il_2, pk_mul, nI_1 (2 * n), nI_1 n, Mo_a9 (i := 2 * n) (by omega), Option.bind_some, Option.bind_some, Mo_a9 (i := 2 * n + 1) (by omega), Option.bind_some, (ht (2 * n) (by omega)).1, (ht (2 * n + 1) (by omega)).1, nI_add, nI_add, tcF]
    exact Mo_at1 hs h0 ht m (n + 1) f _ (by omega)
theorem Mo_all {s : Nat → Int32} (hs : Wf s) (h0 : R.2 0 = s) (hI : laidI R s) : ∃ R', f_Mo_allTold r (bk_Mo σ r R) = some (nI (tcF (TL s) (nB s - 1) 1 0), bk_Mo σ r R') ∧ kps R R' [11, 13] [9, 10, 12, 14] ∧ laidI R' s := by
  have hB1 := hs.1.1.2.1
  have hB7 := hs.1.1.2.2
  obtain ⟨R1, tab, a1, a2, a3, a4, a5⟩ := Mo_lays (σ := σ) (r := r) hs h0 hI
  obtain ⟨f, hf⟩ := hp_fu (nB s - 1 + 1) (by omega)
  have hf' : f + (nB s - 1) + 1 = hp_F := hf.symm
  have q := Mo_at1 (σ := σ) (r := r) (R := R1) hs (by rw [a2.2 0 (by decide), h0]) a4 (K := fun z9 z10 => some (z9, bk_Mo σ r R1)) (nB s - 1) 1 f 0 (by omega)
  rw [hf', tcF_congr a5 _ _ _ (by decide) (by omega)] at q
  refine ⟨R1, ?_, a2, Or.inr a3, tab, a4, fun _ => a5⟩
  unfold f_Mo_allTold
  rw [Mo_own, a1, Option.bind_some]
  exact q
end MO27
