/-! ===== the class: a box comes to a list; the cheapest join ===== -/
section BXL2
variable {σ : hp_H} {a : Nat} {R : oR}
theorem BL_rem {x : Nat} {l : List Nat} (hx : x < 16777216) (hb : blI R l) : ∃ R', f_BoxList_removeCoveredBy a (nI x) (bk_BoxList σ a R) = some (bk_BoxList σ a R') ∧ blI R' (l.filter (fun y => !cov x y)) := by
  obtain ⟨h1, h2, h12, hv⟩ := hb
  obtain ⟨f, hf⟩ := hp_fu (l.length + 1) (by omega)
  have hf' : f + l.length + 1 = hp_F := hf.symm
  obtain ⟨A', q, q2⟩ := BL_rem1 (σ := σ) (a := a) (R := R) hx hv h12 h1 (K := fun z11 z12 σ => (hp_pI σ a 1 1 z11).bind fun σ => some σ) l.length 0 f (R.2 0) (by omega) (by rw [List.take_zero]; intro i hi; simp at hi) (fun i _ k2 => h2 i k2)
  rw [sA_self, hf', List.take_zero] at q
  have hfl : (l.filter (fun y => !cov x y)).length ≤ l.length := List.length_filter_le _ _
  refine ⟨sF (sA R 0 A') 1 (nI (l.filter (fun y => !cov x y)).length), ?_, sF_at, by rw [sF_2, sA_at]; exact q2, by omega, fun y hy => hv y (List.mem_filter.mp hy).1⟩
  unfold f_BoxList_removeCoveredBy
  rw [BoxList_own]
  refine (show _ = _ from q).trans ?_
  rw [BoxList_p1, Option.bind_some]
  rfl
theorem BL_ins {x : Nat} {l : List Nat} (hx : vb x) (hb : blI R l) (h11 : l.length < 12) : ∃ R', f_BoxList_insert a (nI x) (bk_BoxList σ a R) = some (bk_BoxList σ a R') ∧ blI R' (insR x l) := by
  obtain ⟨h1, h2, h12, hv⟩ := hb
  obtain ⟨f, hf⟩ := hp_fu (l.length + 1) (by omega)
  have hf' : f + l.length + 1 = hp_F := hf.symm
  obtain ⟨A', q, q2⟩ := BL_ins1 (σ := σ) (a := a) (R := R) (x := x) hx.1 hv rfl h11 (K := fun z13 σ => (hp_gR σ a 1 0).bind fun q14 => (hp_sI σ q14 0 z13 (nI x)).bind fun σ => (hp_gI σ a 1 1).bind fun v15 => (hp_pI σ a 1 1 (v15 + 1)).bind fun σ => some σ) l.length f (R.2 0) (Nat.le_refl _) (fun i k1 k2 => by
    unfold Lk
    rw [if_pos (by omega)]
    exact h2 i (by omega))
  rw [sA_self, hf'] at q
  have hp := insP_le x l l.length
  refine ⟨sF (sA R 0 (upd A' (insP x l l.length) (nI x))) 1 (nI (l.length + 1)), ?_, ?_, ?_, ?_, ?_⟩
  · unfold f_BoxList_insert
    rw [BoxList_own, BoxList_g1, Option.bind_some, BoxList_g0, Option.bind_some, BoxList_n0, Option.bind_some, h1, if_pos ((nI_ltI (by omega) (by omega)).mpr h11), Option.bind_some]
    refine (show _ = _ from q).trans ?_
    rw [BoxList_g0, Option.bind_some, BoxList_s0 (by omega), Option.bind_some, up2_sA, sA_A, sA_at, BoxList_g1, Option.bind_some, sA_1, h1, nI_1, BoxList_p1, Option.bind_some]
    rfl
  · rw [insR_len]
    exact sF_at
  · rw [sF_2, sA_at]
    intro i hi
    rw [insR_len] at hi
    rw [insR_at hi]
    by_cases hi2 : i = insP x l l.length
    · rw [hi2, upd_at]
      unfold Lk
      rw [if_neg (by omega), if_pos rfl]
    · rw [upd_ne hi2]
      exact q2 i hi2 hi
  · rw [insR_len]
    exact h11
  · intro y hy
    rcases insR_mem.mp hy with rfl | hy
    · exact hx
    · exact hv y hy
theorem BL_add {x : Nat} {l : List Nat} (hx : vb x) (hb : blI R l) (h11 : (l.filter (fun y => !cov x y)).length < 12) : ∃ R', f_BoxList_add a (nI x) (bk_BoxList σ a R) = some (bk_BoxList σ a R') ∧ blI R' (addB x l) := by
  unfold f_BoxList_add addB
  rw [BoxList_own, BL_cov hx.1 hb, Option.bind_some, tld_any]
  cases hc : l.any (fun y => cov y x) with
  | true =>
    rw [if_neg (by decide), if_pos rfl]
    exact ⟨R, rfl, hb⟩
  | false =>
    rw [if_pos (show b01 false = 0 from rfl), if_neg (by decide)]
    obtain ⟨R1, a1, a2⟩ := BL_rem (σ := σ) (a := a) hx.1 hb
    obtain ⟨R2, b1, b2⟩ := BL_ins (σ := σ) (a := a) hx a2 h11
    refine ⟨R2, ?_, b2⟩
    rw [a1, Option.bind_some, b1, Option.bind_some]
/-- the join of the pair found so far -/
def chp (l : List Nat) (acc : Nat × Nat × Nat) : Nat := if acc.1 = 2147483647 then 0 else jn (l.getD acc.2.1 0) (l.getD acc.2.2 0)
/-- the least waste so far as the class holds it: none yet is 1000 -/
def clw (w : Nat) : Nat := if w = 2147483647 then 1000 else w
theorem siz_vb {a : Nat} (h : vb a) : 1 ≤ siz a ∧ siz a ≤ 1000 := by
  obtain ⟨-, ⟨a1, a2⟩, ⟨a3, a4⟩, ⟨a5, a6⟩⟩ := h
  have k1 : d1 a + 1 - d0 a ≤ 10 := by omega
  have k2 : d3 a + 1 - d2 a ≤ 10 := by omega
  have k3 : d5 a + 1 - d4 a ≤ 10 := by omega
  have m1 : 1 ≤ d1 a + 1 - d0 a := by omega
  have m2 : 1 ≤ d3 a + 1 - d2 a := by omega
  have m3 : 1 ≤ d5 a + 1 - d4 a := by omega
  exact ⟨Nat.mul_le_mul (Nat.mul_le_mul m1 m2) m3, Nat.mul_le_mul (Nat.mul_le_mul k1 k2) k3⟩
theorem com_siz (a b : Nat) : com a b ≤ siz a := by
  have k1 : min (d1 a) (d1 b) + 1 - max (d0 a) (d0 b) ≤ d1 a + 1 - d0 a := by omega
  have k2 : min (d3 a) (d3 b) + 1 - max (d2 a) (d2 b) ≤ d3 a + 1 - d2 a := by omega
  have k3 : min (d5 a) (d5 b) + 1 - max (d4 a) (d4 b) ≤ d5 a + 1 - d4 a := by omega
  exact Nat.mul_le_mul (Nat.mul_le_mul k1 k2) k3
/-- two boxes waste less than all there is -/
theorem wst_vb {a b : Nat} (ha : vb a) (hb : vb b) : wst a b < 1000 := by
  have h1 := (siz_vb (jn_vb ha hb)).2
  have h2 := com_siz a b
  have h3 := (siz_vb hb).1
  unfold wst
  omega
theorem clw_in {w : Nat} (h : okw w) : clw w < 2 ^ 31 := by
  unfold clw
  rcases h with h | h
  · rw [if_pos h]; omega
  · rw [if_neg (by omega)]; omega
theorem clw_le {w v : Nat} (hv : v < 1000) (h : okw w) : clw w ≤ v ↔ w ≤ v := by
  unfold clw
  rcases h with h | h
  · rw [if_pos h]; omega
  · rw [if_neg (by omega)]
theorem clw_of {w : Nat} (h : w < 1000) : clw w = w := by
  unfold clw
  rw [if_neg (by omega)]
theorem BL_ch2 {l : List Nat} (hb : blI R l) {i : Nat} (hi : i < l.length) {K : Int32 → Int32 → Int32 → Option Int32} : ∀ (m j f : Nat) (acc : Nat × Nat × Nat), okw acc.1 → i < j → j + m = l.length → f_BoxList_cheapestJoin_l2 a (nI i) (bk_BoxList σ a R) K (f + m + 1) (nI (clw acc.1)) (nI (chp l acc)) (nI j) = K (nI (clw (jIn l i m j acc).1)) (nI (chp l (jIn l i m j acc))) (nI l.length)
  | 0, j, f, acc, ho, hij, h => by
    have h12 := hb.2.2.1
    rw [f_BoxList_cheapestJoin_l2, BoxList_g1, Option.bind_some, hb.1, show j = l.length by omega, if_pos ((nI_leI (by omega) (by omega)).mpr (Nat.le_refl _)), jIn]
  | m + 1, j, f, acc, ho, hij, h => by
    have h12 := hb.2.2.1
    have v1 := hb.2.2.2 _ (getD_mem hi)
    have v2 := hb.2.2.2 _ (getD_mem (show j < l.length by omega))
    have hw := wst_lt2 (l.getD i 0) (l.getD j 0)
    have hoS := stepJ_okw (l := l) (i := i) (j := j) ho
    have hw3 := wst_vb v1 v2
    have ho1 := clw_in ho
    have hcl := clw_le hw3 ho
    have ih := BL_ch2 hb hi (K := K) m (j + 1) f (stepJ l acc i j) hoS (by omega) (by omega)
    rw [f_BoxList_cheapestJoin_l2, BoxList_g1, Option.bind_some, hb.1, if_neg (fun q => by have := (nI_leI (by omega) (by omega)).mp q; omega), BoxList_g0, Option.bind_some, BoxList_a0 (i := i) (by omega), Option.bind_some, Option.bind_some, BoxList_a0 (i := j) (by omega), Option.bind_some, hb.2.1 i hi, hb.2.1 j (by omega), bx_waste v1 v2, Option.bind_some, nI_1, jIn_s]
    refine Eq.trans ?_ ih
    by_cases hlt : wst (l.getD i 0) (l.getD j 0) < acc.1
    · have es : stepJ l acc i j = (wst (l.getD i 0) (l.getD j 0), i, j) := by
        unfold stepJ
        rw [if_pos hlt]
      rw [if_neg (fun q => by have := hcl.mp ((nI_leI ho1 (by omega)).mp q); omega), es]
      simp only [Option.bind_some]
      rw [BoxList_a0 (i := i) (by omega), Option.bind_some, BoxList_a0 (i := j) (by omega), Option.bind_some, hb.2.1 i hi, hb.2.1 j (by omega), bx_joined v1.1 v2.1, Option.bind_some]
      have ec : chp l (wst (l.getD i 0) (l.getD j 0), i, j) = jn (l.getD i 0) (l.getD j 0) := by
        unfold chp
        generalize wst (l.getD i 0) (l.getD j 0) = w at hw
        rw [if_neg (show ¬ w = 2147483647 by omega)]
      rw [ec, clw_of hw3]
      rfl
    · have es : stepJ l acc i j = acc := by
        unfold stepJ
        rw [if_neg hlt]
      rw [if_pos ((nI_leI ho1 (by omega)).mpr (hcl.mpr (by omega))), es]
      rfl
theorem BL_ch1 {l : List Nat} (hb : blI R l) {K : Int32 → Int32 → Int32 → Option Int32} : ∀ (m i f : Nat) (acc : Nat × Nat × Nat), okw acc.1 → i + m = l.length → f_BoxList_cheapestJoin_l1 a (bk_BoxList σ a R) K (f + m + 1) (nI (clw acc.1)) (nI (chp l acc)) (nI i) = K (nI (clw (jOut l m i acc).1)) (nI (chp l (jOut l m i acc))) (nI l.length)
  | 0, i, f, acc, ho, h => by
    have h12 := hb.2.2.1
    rw [f_BoxList_cheapestJoin_l1, BoxList_g1, Option.bind_some, hb.1, show i = l.length by omega, if_pos ((nI_leI (by omega) (by omega)).mpr (Nat.le_refl _)), jOut]
  | m + 1, i, f, acc, ho, h => by
    have h12 := hb.2.2.1
    obtain ⟨f2, hf2⟩ := hp_fu (l.length - (i + 1) + 1) (by omega)
    have hf2' : f2 + (l.length - (i + 1)) + 1 = hp_F := hf2.symm
    have q := BL_ch2 (σ := σ) (a := a) hb (i := i) (by omega) (K := fun z18 z19 z20 => f_BoxList_cheapestJoin_l1 a (bk_BoxList σ a R) K (f + (m + 1)) z18 z19 (nI (i + 1))) (l.length - (i + 1)) (i + 1) f2 acc ho (by omega) (by omega)
    rw [hf2'] at q
    have hoS : okw (jIn l i (l.length - (i + 1)) (i + 1) acc).1 := by
      have key : ∀ (m j : Nat) (acc : Nat × Nat × Nat), okw acc.1 → okw (jIn l i m j acc).1 := by
        intro m
        induction m with
        | zero => intro j acc h; exact h
        | succ m ih => intro j acc h; rw [jIn_s]; exact ih _ _ (stepJ_okw h)
      exact key _ _ _ ho
    have ih := BL_ch1 hb (K := K) m (i + 1) f (jIn l i (l.length - (i + 1)) (i + 1) acc) hoS (by omega)
    rw [f_BoxList_cheapestJoin_l1, BoxList_g1, Option.bind_some, hb.1, if_neg (fun q => by have := (nI_leI (by omega) (by omega)).mp q; omega), nI_1, jOut]
    refine (show _ = _ from q).trans ?_
    exact ih
theorem BL_chj {l : List Nat} (hb : blI R l) (h2 : 2 ≤ l.length) : f_BoxList_cheapestJoin a (bk_BoxList σ a R) = some (nI (bestJ l)) := by
  have h12 := hb.2.2.1
  obtain ⟨f, hf⟩ := hp_fu (l.length + 1) (by omega)
  have hf' : f + l.length + 1 = hp_F := hf.symm
  have q := BL_ch1 (σ := σ) (a := a) hb (K := fun z21 z22 z23 => some z22) l.length 0 f (2147483647, 0, 1) (Or.inl rfl) (by omega)
  rw [hf'] at q
  have e0 : chp l (2147483647, 0, 1) = 0 := by unfold chp; rw [if_pos rfl]
  have e2 : clw 2147483647 = 1000 := by unfold clw; rw [if_pos rfl]
  rw [e0, e2] at q
  have hP := bestP_ok h2
  have hw := wst_lt2 (l.getD (bestP l).2.1 0) (l.getD (bestP l).2.2 0)
  have e1 : chp l (bestP l) = bestJ l := by
    unfold chp bestJ
    rw [if_neg (by omega)]
  unfold bestP at e1
  rw [e1] at q
  unfold f_BoxList_cheapestJoin
  rw [BoxList_own]
  exact q
end BXL2
