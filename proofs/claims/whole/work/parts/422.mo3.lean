/-! ===== the reference: a box comes ===== -/
def boxAll (A : Nat → Int32) (n : Nat) (g : Nat → Nat) : Prop := ∀ i, i < n → bxAt A i (g i)
/-- a list with x at place k -/
def Lk (x : Nat) (l : List Nat) (k i : Nat) : Nat := if i < k then l.getD i 0 else if i = k then x else l.getD (i - 1) 0
def swp (A : Nat → Int32) (k t : Nat) : Nat → Int32 := fun u => if 6 * k + 6 ≤ u ∧ u < 6 * k + 6 + t then A (u - 6) else if 6 * k ≤ u ∧ u < 6 * k + t then A (u + 6) else A u
theorem swp_0 {A : Nat → Int32} {k : Nat} : swp A k 0 = A := by
  funext u
  unfold swp
  rw [if_neg (by omega), if_neg (by omega)]
theorem swp_s {A : Nat → Int32} {k t : Nat} (ht : t < 6) : upd (upd (swp A k t) (6 * k + 6 + t) (A (6 * k + t))) (6 * k + t) (A (6 * k + 6 + t)) = swp A k (t + 1) := by
  funext u
  unfold upd swp
  by_cases h1 : u = 6 * k + t
  · rw [if_pos h1, if_neg (by omega), if_pos (by omega), h1, show 6 * k + t + 6 = 6 * k + 6 + t by omega]
  · rw [if_neg h1]
    by_cases h2 : u = 6 * k + 6 + t
    · rw [if_pos h2, if_pos (by omega), h2, show 6 * k + 6 + t - 6 = 6 * k + t by omega]
    · rw [if_neg h2]
      by_cases h3 : 6 * k + 6 ≤ u ∧ u < 6 * k + 6 + t
      · rw [if_pos h3, if_pos (by omega)]
      · rw [if_neg h3]
        by_cases h4 : 6 * k ≤ u ∧ u < 6 * k + t
        · rw [if_pos h4, if_neg (by omega), if_pos (by omega)]
        · rw [if_neg h4, if_neg (by omega), if_neg (by omega)]
section MO3
variable {σ : hp_H} {r : Nat} {R : oR}
theorem Mo_swap_l {k : Nat} (kk : k < 78) {K : Int32 → hp_H → Option hp_H} {A : Nat → Int32} : ∀ (m t n : Nat), t + m = 6 → f_Mo_settles_l2 r (nI (k + 1)) K (n + m + 1) (nI t) (bk_Mo σ r (sA R 12 (swp A k t))) = K (nI 6) (bk_Mo σ r (sA R 12 (swp A k 6)))
  | 0, t, n, h => by
    rw [show t = 6 by omega, f_Mo_settles_l2, if_pos (by decide)]
  | m + 1, t, n, h => by
    have e1 : swp A k t (6 * (k + 1) + t) = A (6 * k + 6 + t) := by
      unfold swp
      rw [if_neg (by omega), if_neg (by omega), show 6 * (k + 1) + t = 6 * k + 6 + t by omega]
    have e2 : swp A k t (6 * k + t) = A (6 * k + t) := by
      unfold swp
      rw [if_neg (by omega), if_neg (by omega)]
    rw [f_Mo_settles_l2, if_neg (by rw [il_6, nI_leI (by omega) (by omega)]; omega), Mo_at (by omega), Option.bind_some, sA_at, e1, Mo_g12, Option.bind_some, nI_pred, Mo_at (by omega), Option.bind_some, sA_at, e2, il_6, pk_mul, nI_add, Mo_s12 (by omega), Option.bind_some, Mo_g12, Option.bind_some, pk_sub (by omega), nI_add, Mo_s12 (by omega), Option.bind_some, nI_1]
    have e3 : (((sA R 12 (swp A k t)).1, up2 (sA R 12 (swp A k t)).2 12 (6 * (k + 1) + t) (A (6 * k + t))) : oR) = sA R 12 (upd (swp A k t) (6 * k + 6 + t) (A (6 * k + t))) := by
      show sA (sA R 12 (swp A k t)) 12 (upd ((sA R 12 (swp A k t)).2 12) _ _) = _
      rw [sA_A, sA_at, show 6 * (k + 1) + t = 6 * k + 6 + t by omega]
    rw [e3]
    have e4 : (((sA R 12 (upd (swp A k t) (6 * k + 6 + t) (A (6 * k + t)))).1, up2 (sA R 12 (upd (swp A k t) (6 * k + 6 + t) (A (6 * k + t)))).2 12 (6 * (k + 1) - 6 + t) (A (6 * k + 6 + t))) : oR) = sA R 12 (swp A k (t + 1)) := by
      show sA (sA R 12 (upd (swp A k t) (6 * k + 6 + t) (A (6 * k + t)))) 12 (upd ((sA R 12 (upd (swp A k t) (6 * k + 6 + t) (A (6 * k + t)))).2 12) _ _) = _
      rw [sA_A, sA_at, show 6 * (k + 1) - 6 + t = 6 * k + t by omega, swp_s (by omega)]
    rw [e4]
    exact Mo_swap_l kk m (t + 1) n (by omega)
theorem swp_box {A : Nat → Int32} {x k n : Nat} {l : List Nat} (hk : k + 1 < n + 1) (h : boxAll A (n + 1) (Lk x l (k + 1))) : boxAll (swp A k 6) (n + 1) (Lk x l k) := by
  intro i hi t ht
  by_cases h1 : i = k
  · subst h1
    have := h (i + 1) (by omega) t ht
    unfold Lk at this ⊢
    rw [if_neg (by omega), if_pos rfl] at this
    rw [if_neg (by omega), if_pos rfl, ← this]
    unfold swp
    rw [if_neg (by omega), if_pos (by omega), show 6 * i + t + 6 = 6 * (i + 1) + t by omega]
  · by_cases h2 : i = k + 1
    · subst h2
      have := h k (by omega) t ht
      unfold Lk at this ⊢
      rw [if_pos (by omega)] at this
      rw [if_neg (by omega), if_neg (by omega), show k + 1 - 1 = k by omega, ← this]
      unfold swp
      rw [if_pos (by omega), show 6 * (k + 1) + t - 6 = 6 * k + t by omega]
    · have := h i hi t ht
      have e : swp A k 6 (6 * i + t) = A (6 * i + t) := by
        unfold swp
        rw [if_neg (by omega), if_neg (by omega)]
      rw [e, this]
      unfold Lk
      by_cases h3 : i < k
      · rw [if_pos (by omega), if_pos h3]
      · rw [if_neg (by omega), if_neg (by omega), if_neg h3, if_neg h1]
theorem Mo_settle {x n : Nat} {l : List Nat} (hx : x < 16777216) (hl : ∀ y ∈ l, y < 16777216) (hn : l.length = n) (hn2 : n < 77) : ∀ (k f : Nat) (A : Nat → Int32), k ≤ n → boxAll A (n + 1) (Lk x l k) → ∃ A', f_Mo_settles_l1 r (fun _ σ => some σ) (f + k + 1) (nI k) (bk_Mo σ r (sA R 12 A)) = some (bk_Mo σ r (sA R 12 A')) ∧ boxAll A' (n + 1) (Lk x l (insP x l k))
  | 0, f, A, _, h => ⟨A, by rw [f_Mo_settles_l1, if_pos (by decide)], h⟩
  | k + 1, f, A, hk, h => by
    have b1 : bxAt ((sA R 12 A).2 12) k (l.getD k 0) := by
      have := h k (by omega)
      unfold Lk at this
      rw [if_pos (by omega)] at this
      rw [sA_at]
      exact this
    have b2 : bxAt ((sA R 12 A).2 12) (k + 1) x := by
      have := h (k + 1) (by omega)
      unfold Lk at this
      rw [if_neg (by omega), if_pos rfl] at this
      rw [sA_at]
      exact this
    have hy : l.getD k 0 < 16777216 := hl _ (getD_mem (by omega))
    have ho := (ordv_le hy hx).1
    rw [f_Mo_settles_l1, if_neg (by rw [il_0, nI_leI (by omega) (by omega)]; omega), nI_pred, Mo_order b1 b2 (by omega) (by omega), Option.bind_some]
    by_cases hc : l.getD k 0 ≤ x
    · rw [if_pos (ho.mpr hc)]
      refine ⟨A, rfl, ?_⟩
      unfold insP
      rw [if_neg (by omega)]
      exact h
    · rw [if_neg (fun q => hc (ho.mp q)), pk_m1]
      obtain ⟨n6, hn6⟩ := hp_fu 7 (by decide)
      have hs := Mo_swap_l (σ := σ) (r := r) (R := R) (k := k) (by omega) (K := fun z13 σ => f_Mo_settles_l1 r (fun _ σ => some σ) (f + k + 1) (nI k) σ) (A := A) 6 0 n6 (by decide)
      rw [swp_0] at hs
      rw [hn6]
      obtain ⟨A', h1, h2⟩ := Mo_settle hx hl hn hn2 k f (swp A k 6) (by omega) (swp_box (by omega) h)
      refine ⟨A', hs.trans h1, ?_⟩
      unfold insP
      rw [if_pos (by omega)]
      exact h2
theorem insR_at {x : Nat} {l : List Nat} {i : Nat} (hi : i < l.length + 1) : (insR x l).getD i 0 = Lk x l (insP x l l.length) i := by
  have hp := insP_le x l l.length
  generalize hk : insP x l l.length = k at hp
  unfold insR
  rw [hk]
  unfold Lk
  have hlen : (l.take k).length = k := by rw [List.length_take]; omega
  rw [List.getD_eq_getElem?_getD]
  by_cases h1 : i < k
  · rw [if_pos h1, List.getElem?_append_left (by omega), List.getElem?_take, if_pos h1, List.getD_eq_getElem?_getD]
  · rw [if_neg h1, List.getElem?_append_right (by omega), hlen]
    by_cases h2 : i = k
    · rw [if_pos h2, h2, Nat.sub_self]
      rfl
    · rw [if_neg h2]
      obtain ⟨j, hj⟩ : ∃ j, i - k = j + 1 := ⟨i - k - 1, by omega⟩
      rw [hj, List.getElem?_cons_succ, List.getElem?_drop, show k + j = i - 1 by omega, List.getD_eq_getElem?_getD]
theorem Mo_settles {x : Nat} {l : List Nat} (hx : x < 16777216) (hl : ∀ y ∈ l, y < 16777216) (hn : l.length < 77) (h13 : R.1 13 = nI (l.length + 1)) (h : boxAll (R.2 12) (l.length + 1) (Lk x l l.length)) : ∃ A', f_Mo_settles r (bk_Mo σ r R) = some (bk_Mo σ r (sA R 12 A')) ∧ boxAll A' (insR x l).length (fun i => (insR x l).getD i 0) := by
  obtain ⟨f, hf⟩ := hp_fu (l.length + 1) (by omega)
  unfold f_Mo_settles
  rw [Mo_own, Mo_g13, Option.bind_some, h13, nI_pred, hf]
  obtain ⟨A', h1, h2⟩ := Mo_settle (σ := σ) (r := r) (R := R) hx hl rfl hn l.length f (R.2 12) (Nat.le_refl _) h
  rw [sA_self] at h1
  refine ⟨A', h1, fun i hi => ?_⟩
  rw [insR_len] at hi
  have := h2 i hi
  rw [← insR_at hi] at this
  exact this
/-- does none cover it -/
theorem Mo_none {x : Nat} {l : List Nat} (hn : l.length < 77) (hb : boxAll (R.2 12) l.length (fun i => l.getD i 0)) (hx : bxAt (R.2 12) l.length x) {K : Int32 → Int32 → Option hp_H} : ∀ (m k f : Nat), k + m = l.length → f_Mo_comes_l1 r (nI l.length) (bk_Mo σ r R) K (f + m + 1) (if (l.take k).any (fun y => cov y x) = true then 0 else 1) (nI k) = K (if l.any (fun y => cov y x) = true then 0 else 1) (nI l.length)
  | 0, k, f, h => by
    rw [show k = l.length by omega, f_Mo_comes_l1, if_pos ((nI_leI (by omega) (by omega)).mpr (Nat.le_refl _)), List.take_length]
  | m + 1, k, f, h => by
    rw [f_Mo_comes_l1, if_neg (fun q => by have := (nI_leI (by omega) (by omega)).mp q; omega), nI_1]
    have et : l.take (k + 1) = l.take k ++ [l.getD k 0] := by
      rw [List.take_succ_eq_append_getElem (by omega : k < l.length), gd_at (by omega)]
    have ih := Mo_none hn hb hx (K := K) m (k + 1) f (by omega)
    rw [et, List.any_append] at ih
    by_cases hc : (l.take k).any (fun y => cov y x) = true
    · rw [if_pos hc, if_pos rfl]
      rw [hc, Bool.true_or, if_pos rfl] at ih
      exact ih
    · rw [if_neg hc, if_neg (by decide), Mo_covers (hb k (by omega)) hx (by omega) (by omega), Option.bind_some]
      have hf : (l.take k).any (fun y => cov y x) = false := by
        cases hq : (l.take k).any (fun y => cov y x) with
        | true => exact absurd hq hc
        | false => rfl
      rw [hf, Bool.false_or] at ih
      have e1 : ([l.getD k 0] : List Nat).any (fun y => cov y x) = cov (l.getD k 0) x := by simp
      rw [e1] at ih
      by_cases h2 : cov (l.getD k 0) x = true
      · rw [if_pos h2, if_neg (by decide)]
        rw [if_pos h2] at ih
        exact ih
      · rw [if_neg h2, if_pos rfl]
        rw [if_neg h2] at ih
        exact ih
/-- those that it covers go -/
theorem Mo_left {x : Nat} {l : List Nat} (hn : l.length < 77) {K : Int32 → Int32 → hp_H → Option hp_H} : ∀ (m k f : Nat) (A : Nat → Int32), k + m = l.length → boxAll A ((l.take k).filter (fun y => !cov x y)).length (fun i => ((l.take k).filter (fun y => !cov x y)).getD i 0) → (∀ i, k ≤ i → i < l.length → bxAt A i (l.getD i 0)) → bxAt A l.length x → ∃ A', f_Mo_comes_l2 r (nI l.length) K (f + m + 1) (nI ((l.take k).filter (fun y => !cov x y)).length) (nI k) (bk_Mo σ r (sA R 12 A)) = K (nI (l.filter (fun y => !cov x y)).length) (nI l.length) (bk_Mo σ r (sA R 12 A')) ∧ boxAll A' (l.filter (fun y => !cov x y)).length (fun i => (l.filter (fun y => !cov x y)).getD i 0) ∧ bxAt A' l.length x
  | 0, k, f, A, h, h1, h2, h3 => by
    have e : l.take k = l := by rw [show k = l.length by omega, List.take_length]
    rw [e] at h1 ⊢
    refine ⟨A, ?_, h1, h3⟩
    rw [show k = l.length by omega, f_Mo_comes_l2, if_pos ((nI_leI (by omega) (by omega)).mpr (Nat.le_refl _))]
  | m + 1, k, f, A, h, h1, h2, h3 => by
    have et : l.take (k + 1) = l.take k ++ [l.getD k 0] := by
      rw [List.take_succ_eq_append_getElem (by omega : k < l.length), gd_at (by omega)]
    have hlk : ((l.take k).filter (fun y => !cov x y)).length ≤ k := Nat.le_trans (List.length_filter_le _ _) (by rw [List.length_take]; omega)
    have ih := Mo_left (x := x) hn (K := K) m (k + 1) f
    rw [et, List.filter_append] at ih
    rw [f_Mo_comes_l2, if_neg (fun q => by have := (nI_leI (by omega) (by omega)).mp q; omega), nI_1 k, Mo_covers (a := x) (b := l.getD k 0) (by rw [sA_at]; exact h3) (by rw [sA_at]; exact h2 k (Nat.le_refl _) (by omega)) (by omega) (by omega), Option.bind_some]
    by_cases hc : cov x (l.getD k 0) = true
    · rw [if_pos hc, if_neg (by decide)]
      have e1 : ([l.getD k 0] : List Nat).filter (fun y => !cov x y) = [] := List.filter_cons_of_neg (by show ¬ (!cov x (l.getD k 0)) = true; rw [hc]; decide)
      rw [e1, List.append_nil] at ih
      exact ih A (by omega) h1 (fun i k1 k2 => h2 i (by omega) k2) h3
    · have hcf : cov x (l.getD k 0) = false := by
        cases hq : cov x (l.getD k 0) with
        | true => exact absurd hq hc
        | false => rfl
      rw [if_neg hc, if_pos rfl, Mo_copies (by omega) (by omega), Option.bind_some, sA_A, sA_at, nI_1]
      have e1 : ([l.getD k 0] : List Nat).filter (fun y => !cov x y) = [l.getD k 0] := List.filter_cons_of_pos (by show (!cov x (l.getD k 0)) = true; rw [hcf]; rfl)
      rw [e1] at ih
      generalize hF : (l.take k).filter (fun y => !cov x y) = F at *
      have el : (F ++ [l.getD k 0]).length = F.length + 1 := by simp
      rw [el] at ih
      refine ih _ (by omega) (fun i hi => ?_) (fun i k1 k2 t ht => ?_) (fun t ht => ?_)
      · by_cases hi2 : i = F.length
        · subst hi2
          have e2 : (F ++ [l.getD k 0]).getD F.length 0 = l.getD k 0 := by simp
          show bxAt _ _ ((F ++ [l.getD k 0]).getD F.length 0)
          rw [e2]
          intro t ht
          rw [wr_in ht]
          exact h2 k (Nat.le_refl _) (by omega) t ht
        · have e2 : (F ++ [l.getD k 0]).getD i 0 = F.getD i 0 := by
            rw [List.getD_eq_getElem?_getD, List.getElem?_append_left (by omega), List.getD_eq_getElem?_getD]
          show bxAt _ _ ((F ++ [l.getD k 0]).getD i 0)
          rw [e2]
          intro t ht
          rw [wr_out (by omega)]
          exact h1 i (by omega) t ht
      · rw [wr_out (by omega)]
        exact h2 i (by omega) k2 t ht
      · rw [wr_out (by omega)]
        exact h3 t ht
set_option maxRecDepth 100000 in
theorem Mo_comes {x : Nat} {l : List Nat} (hx : vb x) (hl : VB l) (hn : l.length < 77) (h13 : R.1 13 = nI l.length) (hb : boxAll (R.2 12) l.length (fun i => l.getD i 0)) (hbx : bxAt (R.2 12) l.length x) : ∃ R', f_Mo_comes r (bk_Mo σ r R) = some (bk_Mo σ r R') ∧ kps R R' [13] [12] ∧ R'.1 13 = nI (addB x l).length ∧ boxAll (R'.2 12) (addB x l).length (fun i => (addB x l).getD i 0) := by
  obtain ⟨f, hf⟩ := hp_fu (l.length + 1) (by omega)
  unfold f_Mo_comes
  have hf' : f + l.length + 1 = hp_F := hf.symm
  rw [Mo_own, Mo_g13, Option.bind_some, h13]
  have h1 := Mo_none (σ := σ) (r := r) (R := R) hn hb hbx (K := fun z7 z8 => if z7 = 0 then some (bk_Mo σ r R) else f_Mo_comes_l2 r (nI l.length) (fun z15 z16 σ => (f_Mo_copies r z15 (nI l.length) σ).bind fun σ => (hp_pI σ r 10 13 (z15 + 1)).bind fun σ => (f_Mo_settles r σ).bind fun σ => some σ) hp_F 0 0 (bk_Mo σ r R)) l.length 0 f (by omega)
  rw [List.take_zero, hf'] at h1
  have e1 : (if ([] : List Nat).any (fun y => cov y x) = true then (0 : Int32) else 1) = 1 := rfl
  rw [e1] at h1
  have h1' := h1
  unfold addB
  by_cases hc : l.any (fun y => cov y x) = true
  · rw [if_pos hc] at h1'
    rw [if_pos hc]
    exact ⟨R, h1'.trans (if_pos rfl), kps_rf, h13, hb⟩
  · rw [if_neg hc] at h1'
    rw [if_neg hc]
    obtain ⟨A', g1, g2, g3⟩ := Mo_left (σ := σ) (r := r) (R := R) (x := x) (l := l) hn (K := fun z15 z16 σ => (f_Mo_copies r z15 (nI l.length) σ).bind fun σ => (hp_pI σ r 10 13 (z15 + 1)).bind fun σ => (f_Mo_settles r σ).bind fun σ => some σ) l.length 0 f (R.2 12) (by omega) (by rw [List.take_zero]; intro i hi; simp at hi) (fun i _ k2 => hb i k2) hbx
    rw [sA_self, List.take_zero, hf'] at g1
    have hfl : (l.filter (fun y => !cov x y)).length ≤ l.length := List.length_filter_le _ _
    generalize hF : l.filter (fun y => !cov x y) = F at *
    have hFl : ∀ y ∈ F, y < 16777216 := fun y hy => (hl y (by rw [← hF] at hy; exact (List.mem_filter.mp hy).1)).1
    have e2 : f_Mo_comes_l2 r (nI l.length) (fun z15 z16 σ => (f_Mo_copies r z15 (nI l.length) σ).bind fun σ => (hp_pI σ r 10 13 (z15 + 1)).bind fun σ => (f_Mo_settles r σ).bind fun σ => some σ) hp_F 0 0 (bk_Mo σ r R) = _ := g1
    have hst := Mo_settles (σ := σ) (r := r) (R := sF (sA R 12 (wr A' (6 * F.length) 6 (fun u => A' (6 * l.length + u)))) 13 (nI (F.length + 1))) (x := x) (l := F) hx.1 hFl (by omega) sF_at (by
      rw [sF_2, sA_at]
      intro i hi
      unfold Lk
      by_cases h3 : i < F.length
      · rw [if_pos h3]
        intro t ht
        rw [wr_out (by omega)]
        exact g2 i h3 t ht
      · rw [if_neg h3, if_pos (by omega)]
        intro t ht
        rw [show i = F.length by omega, wr_in ht]
        exact g3 t ht)
    obtain ⟨A2, s1, s2⟩ := hst
    have s1' : f_Mo_settles r (bk_Mo σ r (upd (sA R 12 (wr A' (6 * F.length) 6 (fun u => A' (6 * l.length + u)))).1 13 (nI (F.length + 1)), (sA R 12 (wr A' (6 * F.length) 6 (fun u => A' (6 * l.length + u)))).2)) = _ := s1
    refine ⟨sA (sF (sA R 12 (wr A' (6 * F.length) 6 (fun u => A' (6 * l.length + u)))) 13 (nI (F.length + 1))) 12 A2, ?_, ?_, ?_, ?_⟩
    · refine h1'.trans ?_
      rw [if_neg (by decide), e2, Mo_copies (by omega) (by omega), Option.bind_some, sA_A, sA_at, Mo_p13, Option.bind_some, nI_1, s1', Option.bind_some]
    · exact kps_tr (kps_tr (kps_A (by decide)) (kps_F (by decide))) (kps_A (by decide))
    · rw [insR_len, sA_1]
      exact sF_at
    · rw [sA_at]
      exact s2
end MO3
