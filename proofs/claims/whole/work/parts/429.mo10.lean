/-! ===== the reference: where a notice goes ===== -/
theorem fo_and (a b : Nat) : nI a &&& nI b = nI (a &&& b) := by
  apply Int32.toBitVec_inj.1
  show BitVec.ofNat 32 a &&& BitVec.ofNat 32 b = BitVec.ofNat 32 (a &&& b)
  apply BitVec.eq_of_getLsbD_eq
  intro i hi
  simp [hi]
theorem fo_xor (a b : Nat) : nI a ^^^ nI b = nI (a ^^^ b) := by
  apply Int32.toBitVec_inj.1
  show BitVec.ofNat 32 a ^^^ BitVec.ofNat 32 b = BitVec.ofNat 32 (a ^^^ b)
  apply BitVec.eq_of_getLsbD_eq
  intro i hi
  simp [hi]
theorem nz_ne {α : Type} {y : Int32} {x : Option α} (h : ¬ y = 0) : hp_nz y x = x := by
  unfold hp_nz
  rw [if_neg h]
theorem cnt_le (P : Nat) : ∀ n, cnt P n ≤ n
  | 0 => Nat.le_refl _
  | n + 1 => by
    have := cnt_le P n
    unfold cnt
    split <;> omega
def Es (s : Nat → Int32) (n u v : Nat) : Prop := tld (TL s (lnk (abS s) v u)) n = true
/-- a place that can be added -/
def adb (s : Nat → Int32) (n P u v : Nat) : Prop := P.testBit u = true ∧ P.testBit v = false ∧ nbrb (abS s) u v = true ∧ Es s n u v
theorem agr_lnk {s : Nat → Int32} {tab : Nat → List Nat} (ha : agr s tab) {u v : Nat} (hu : u < nB s) (hv : v < nB s) (h : nbrb (abS s) u v = true) : tab (lnk (abS s) v u) = TL s (lnk (abS s) v u) := by
  unfold lnk
  by_cases hc : v ≠ 0 ∧ abS s v = u
  · rw [if_pos hc]
    exact (ha v (by omega) hv).1
  · rw [if_neg hc]
    rcases nbrb_iff.mp h with q | q
    · exact (ha u (by omega) hu).2
    · exact absurd q hc
section MO10
variable {σ : hp_H} {r : Nat}
theorem Mo_w2 {s : Nat → Int32} (hs : Wf s) {tab : Nat → List Nat} (hag : agr s tab) {x1 : Int32} {b x y z : Nat} (hb : b < nB s) (hx : x < 10) (hy : y < 10) (hz : z < 10) {P0 F0 c0 : Nat} {K : Int32 → Int32 → Int32 → hp_H → Option hp_H} : ∀ (m k f : Nat) (R : oR) (P F c : Nat) (p : Bool), k + m = nB s * nB s → R.2 0 = s → tdA R tab → R.1 15 = nI P → R.1 18 = nI c → JI (nB s) (abS s) (Es s (nt x y z)) b P F c → ((p = false ∧ P = P0 ∧ F = F0 ∧ c = c0 ∧ ∀ i, i < k → ¬ adb s (nt x y z) P0 (i / nB s) (i % nB s)) ∨ (p = true ∧ c0 < c)) → ∃ R' P' F' c' p', f_Mo_walks_l2 r x1 (nI x) (nI y) (nI z) K (f + m + 1) (b01 p) (nI F) (nI k) (bk_Mo σ r R) = K (b01 p') (nI F') (nI (nB s * nB s)) (bk_Mo σ r R') ∧ kps R R' [15, 18] [] ∧ R'.1 15 = nI P' ∧ R'.1 18 = nI c' ∧ JI (nB s) (abS s) (Es s (nt x y z)) b P' F' c' ∧ ((p' = false ∧ P' = P0 ∧ F' = F0 ∧ c' = c0 ∧ ∀ i, i < nB s * nB s → ¬ adb s (nt x y z) P0 (i / nB s) (i % nB s)) ∨ (p' = true ∧ c0 < c'))
  | 0, k, f, R, P, F, c, p, hk, h0, ht, h15, h18, hJ, hinv => by
    have hB7 := hs.1.1.2.2
    have hBB : nB s * nB s ≤ 49 := Nat.mul_le_mul hB7 hB7
    have e0 : hp_aI (bk_Mo σ r R) (r + 1) 0 0 = some (nI (nB s)) := by rw [← hs.1.1.1, ← h0]; exact Mo_a0 (i := 0) (by decide)
    refine ⟨R, P, F, c, p, ?_, kps_rf, h15, h18, hJ, ?_⟩
    · rw [f_Mo_walks_l2]
      simp only [Mo_g0, Option.bind_some, e0]
      rw [pk_mul, show k = nB s * nB s by omega, if_pos ((nI_leI (by omega) (by omega)).mpr (Nat.le_refl _))]
    · rw [show nB s * nB s = k by omega]
      exact hinv
  | m + 1, k, f, R, P, F, c, p, hk, h0, ht, h15, h18, hJ, hinv => by
    have hB7 := hs.1.1.2.2
    have hB1 := hs.1.1.2.1
    have hBB : nB s * nB s ≤ 49 := Nat.mul_le_mul hB7 hB7
    have hWB : WfB (R.2 0) := by rw [h0]; exact hs.1
    have e0 : hp_aI (bk_Mo σ r R) (r + 1) 0 0 = some (nI (nB s)) := by rw [← hs.1.1.1, ← h0]; exact Mo_a0 (i := 0) (by decide)
    have hu : k / nB s < nB s := (Nat.div_lt_iff_lt_mul (by omega)).mpr (by omega)
    have hv : k % nB s < nB s := Nat.mod_lt _ (by omega)
    have hPl : P < 2 ^ 7 := tb_lt (fun i hi => by have := (hJ.1 i hi).1; omega)
    have hFl : F < 2 ^ 7 := tb_lt (fun i hi => by
      have hi' := hi
      obtain ⟨q, q1, q2⟩ := (hJ.2.2.2.1 i).mp hi'
      by_cases hqb : q = b
      · rw [hqb] at q2
        exact absurd q2 (NH_no hs.1.tree hb)
      · obtain ⟨u, u1, u2⟩ := hJ.2.2.1 q q1 hqb
        rw [NH_uni hs.1.tree hb q2 u2]
        have := (hJ.1 u u1).1
        omega)
    have ed : nI k / nI (nB s) = nI (k / nB s) := pk_div (by omega) (by omega) (by omega)
    have em : nI k - nI (k / nB s) * nI (nB s) = nI (k % nB s) := by
      have := pk_rem (a := k) (d := nB s) (by omega) (by omega) (by omega)
      rw [ed] at this
      exact this
    have hnz : ¬ nI (nB s) = 0 := fun q => by rw [il_0, nI_eq (by omega) (by omega)] at q; omega
    have hlt : ¬ nI (nB s * nB s) ≤ nI k := fun q => by have := (nI_leI (by omega) (by omega)).mp q; omega
    have ih := Mo_w2 hs hag (x1 := x1) hb hx hy hz (P0 := P0) (F0 := F0) (c0 := c0) (K := K) m (k + 1) f
    have hskip : ¬ adb s (nt x y z) P (k / nB s) (k % nB s) → ∃ R' P' F' c' p', f_Mo_walks_l2 r x1 (nI x) (nI y) (nI z) K (f + (m + 1)) (b01 p) (nI F) (nI (k + 1)) (bk_Mo σ r R) = K (b01 p') (nI F') (nI (nB s * nB s)) (bk_Mo σ r R') ∧ kps R R' [15, 18] [] ∧ R'.1 15 = nI P' ∧ R'.1 18 = nI c' ∧ JI (nB s) (abS s) (Es s (nt x y z)) b P' F' c' ∧ ((p' = false ∧ P' = P0 ∧ F' = F0 ∧ c' = c0 ∧ ∀ i, i < nB s * nB s → ¬ adb s (nt x y z) P0 (i / nB s) (i % nB s)) ∨ (p' = true ∧ c0 < c')) := by
      intro hna
      refine ih R P F c p (by omega) h0 ht h15 h18 hJ ?_
      rcases hinv with ⟨q1, q2, q3, q4, q5⟩ | q
      · refine Or.inl ⟨q1, q2, q3, q4, fun i hi => ?_⟩
        by_cases hik : i = k
        · rw [hik, ← q2]
          exact hna
        · exact q5 i (by omega)
      · exact Or.inr q
    rw [f_Mo_walks_l2]
    simp only [Mo_g0, Option.bind_some, e0]
    rw [pk_mul, if_neg hlt, nz_ne hnz, nz_ne hnz]
    simp only [Mo_g15, Mo_g18, Option.bind_some, h15, ed, em, nI_1]
    by_cases c1 : P.testBit (k / nB s) = true
    · rw [if_pos ((bit_1 (by omega) (by omega)).mpr c1)]
      by_cases c2 : P.testBit (k % nB s) = false
      · rw [if_pos ((bit_0 (by omega) (by omega)).mpr c2), Mo_nb hWB (by rw [h0]; exact hu) (by rw [h0]; exact hv), Option.bind_some, h0]
        by_cases c3 : nbrb (abS s) (k / nB s) (k % nB s) = true
        · rw [if_pos c3, if_neg (by decide), Mo_goes hs h0 ht hu hv hx hy hz, Option.bind_some, agr_lnk hag hu hv c3]
          by_cases c4 : tld (TL s (lnk (abS s) (k % nB s) (k / nB s))) (nt x y z) = true
          · have e4 : b01 (tld (TL s (lnk (abS s) (k % nB s) (k / nB s))) (nt x y z)) = 1 := by rw [c4]; rfl
            have hJ2 := JI_add hs.1.tree hb hJ c1 c2 hv (nbrb_iff.mp c3) (show Es s (nt x y z) (k / nB s) (k % nB s) from c4)
            rw [e4, if_neg (by decide), sh_1 (by omega), fo_or, sh_1 (by omega), fo_or, Mo_p15, Option.bind_some, Mo_g18, Option.bind_some]
            have e18 : (upd R.1 15 (nI (P ||| 2 ^ (k % nB s)))) 18 = nI c := by rw [pk_un (by decide)]; exact h18
            simp only [e18]
            rw [nI_1, Mo_p18, Option.bind_some]
            obtain ⟨R', P', F', c', p', g1, g2, g3⟩ := ih (sF (sF R 15 (nI (P ||| 2 ^ (k % nB s)))) 18 (nI (c + 1))) (P ||| 2 ^ (k % nB s)) (F ||| 2 ^ (k / nB s)) (c + 1) true (by omega) h0 (fun j hj => ht j hj) (by rw [sF_ne (by decide)]; exact sF_at) sF_at hJ2 (Or.inr ⟨rfl, by
              rcases hinv with ⟨_, _, _, q4, _⟩ | q
              · omega
              · have := q.2; omega⟩)
            exact ⟨R', P', F', c', p', g1, kps_tr (kps_tr (kps_F (by decide)) (kps_F (by decide))) g2, g3⟩
          · have e4 : b01 (tld (TL s (lnk (abS s) (k % nB s) (k / nB s))) (nt x y z)) = 0 := by unfold b01; rw [if_neg c4]
            rw [e4, if_pos rfl]
            exact hskip (fun q => c4 q.2.2.2)
        · rw [if_neg c3, if_pos rfl]
          exact hskip (fun q => c3 q.2.2.1)
      · rw [if_neg (fun q => c2 ((bit_0 (by omega) (by omega)).mp q))]
        exact hskip (fun q => c2 q.2.1)
    · rw [if_neg (fun q => c1 ((bit_1 (by omega) (by omega)).mp q))]
      exact hskip (fun q => c1 q.1)
end MO10
