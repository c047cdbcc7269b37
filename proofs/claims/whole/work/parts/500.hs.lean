/-! ===== what a heap holds, block by block ===== -/
def hs (H : hp_H) (a n : Nat) (f : Nat → hp_V) : Prop := ∀ k, k < n → H.1 (a + k) = some (f k)
theorem hs_eq {H : hp_H} {a n : Nat} {f : Nat → hp_V} (h : hs H a n f) : bW H a n f = H := (bW_self h).symm
theorem hs_bW {H : hp_H} {a n : Nat} {f : Nat → hp_V} : hs (bW H a n f) a n f := fun k hk => bW_get hk rfl
theorem hs_out {H : hp_H} {a n b m : Nat} {f g : Nat → hp_V} (h : hs H a n f) (d : a + n ≤ b ∨ b + m ≤ a) : hs (bW H b m g) a n f := fun k hk => (bW_out (by omega)).trans (h k hk)
theorem hs_sub {H : hp_H} {a n k m q : Nat} {f g : Nat → hp_V} (h : hs H a n f) (hk : k + m ≤ n) (hq : q = a + k) (hg : ∀ j, j < m → f (k + j) = g j) : hs H q m g := fun j hj => by
  rw [hq, Nat.add_assoc, h (k + j) (by omega), hg j hj]
theorem hs_congr {H : hp_H} {a n : Nat} {f g : Nat → hp_V} (h : hs H a n f) (hg : ∀ j, j < n → f j = g j) : hs H a n g := fun k hk => by rw [h k hk, hg k hk]
/-! ===== the class: a list of boxes ===== -/
def rowL (A : Nat → Int32) (l : List Nat) : Prop := ∀ i, i < l.length → A i = nI (l.getD i 0)
def blI (R : oR) (l : List Nat) : Prop := R.1 1 = nI l.length ∧ rowL (R.2 0) l ∧ l.length ≤ 12 ∧ VB l
theorem b01_if {p : Bool} : (if p = true then (1 : Int32) else 0) = b01 p := rfl
theorem tld_any (x : Nat) (l : List Nat) : tld l x = l.any (fun y => cov y x) := by
  have : tld l x = true ↔ l.any (fun y => cov y x) = true := by
    unfold tld
    rw [anyF_iff, List.any_eq_true]
    constructor
    · rintro ⟨i, -, h1, h2⟩
      exact ⟨l.getD i 0, getD_mem (by omega), h2⟩
    · rintro ⟨y, h1, h2⟩
      obtain ⟨i, hi, rfl⟩ := List.mem_iff_getElem.mp h1
      exact ⟨i, Nat.zero_le _, by omega, by rw [gd_at hi]; exact h2⟩
  cases h : tld l x with
  | true => rw [this.mp h]
  | false =>
    cases h2 : l.any (fun y => cov y x) with
    | true => rw [this.mpr h2] at h; cases h
    | false => rfl
section BXL
variable {σ : hp_H} {a : Nat} {R : oR}
theorem BL_cov1 {x : Nat} {l : List Nat} (hx : x < 16777216) (hb : blI R l) : ∀ (m i f : Nat), i + m = l.length → f_BoxList_covers_l1 a (nI x) (bk_BoxList σ a R) (fun _ => some 0) (f + m + 1) (nI i) = some (b01 (anyF (fun i => cov (l.getD i 0) x) m i))
  | 0, i, f, h => by
    have h12 := hb.2.2.1
    rw [f_BoxList_covers_l1, BoxList_g1, Option.bind_some, hb.1, show i = l.length by omega, if_pos ((nI_leI (by omega) (by omega)).mpr (Nat.le_refl _))]
    rfl
  | m + 1, i, f, h => by
    have h12 := hb.2.2.1
    rw [f_BoxList_covers_l1, BoxList_g1, Option.bind_some, hb.1, if_neg (fun q => by have := (nI_leI (by omega) (by omega)).mp q; omega), BoxList_g0, Option.bind_some, BoxList_a0 (by omega), Option.bind_some, hb.2.1 i (by omega), bx_covers (hb.2.2.2 _ (getD_mem (by omega))).1 hx, Option.bind_some, nI_1, anyF]
    by_cases hc : cov (l.getD i 0) x = true
    · rw [if_pos hc, if_neg (by decide), hc, Bool.true_or]
      rfl
    · rw [if_neg hc, if_pos rfl, Bool.eq_false_iff.mpr hc, Bool.false_or]
      exact BL_cov1 hx hb m (i + 1) f (by omega)
theorem BL_cov {x : Nat} {l : List Nat} (hx : x < 16777216) (hb : blI R l) : f_BoxList_covers a (nI x) (bk_BoxList σ a R) = some (b01 (tld l x)) := by
  have h12 := hb.2.2.1
  obtain ⟨f, hf⟩ := hp_fu (l.length + 1) (by omega)
  have hf' : f + l.length + 1 = hp_F := hf.symm
  have q := BL_cov1 (σ := σ) (a := a) hx hb l.length 0 f (by omega)
  rw [hf'] at q
  unfold f_BoxList_covers
  rw [BoxList_own]
  exact q
theorem up2_sA {j i : Nat} {x : Int32} : ((R.1, up2 R.2 j i x) : oR) = sA R j (upd (R.2 j) i x) := rfl
theorem BL_rem1 {x : Nat} {l : List Nat} (hx : x < 16777216) (hv : VB l) (h12 : l.length ≤ 12) (h1 : R.1 1 = nI l.length) {K : Int32 → Int32 → hp_H → Option hp_H} : ∀ (m k f : Nat) (A : Nat → Int32), k + m = l.length → rowL A ((l.take k).filter (fun y => !cov x y)) → (∀ i, k ≤ i → i < l.length → A i = nI (l.getD i 0)) → ∃ A', f_BoxList_removeCoveredBy_l1 a (nI x) K (f + m + 1) (nI ((l.take k).filter (fun y => !cov x y)).length) (nI k) (bk_BoxList σ a (sA R 0 A)) = K (nI (l.filter (fun y => !cov x y)).length) (nI l.length) (bk_BoxList σ a (sA R 0 A')) ∧ rowL A' (l.filter (fun y => !cov x y))
  | 0, k, f, A, h, g1, g2 => by
    have e : l.take k = l := by rw [show k = l.length by omega, List.take_length]
    rw [e] at g1 ⊢
    refine ⟨A, ?_, g1⟩
    rw [f_BoxList_removeCoveredBy_l1, BoxList_g1, Option.bind_some, sA_1, h1, show k = l.length by omega, if_pos ((nI_leI (by omega) (by omega)).mpr (Nat.le_refl _))]
  | m + 1, k, f, A, h, g1, g2 => by
    have et : l.take (k + 1) = l.take k ++ [l.getD k 0] := by
      rw [List.take_succ_eq_append_getElem (by omega : k < l.length), gd_at (by omega)]
    have hlk : ((l.take k).filter (fun y => !cov x y)).length ≤ k := Nat.le_trans (List.length_filter_le _ _) (by rw [List.length_take]; omega)
    have ih := BL_rem1 (x := x) hx hv h12 h1 (K := K) m (k + 1) f
    rw [et, List.filter_append] at ih
    rw [f_BoxList_removeCoveredBy_l1, BoxList_g1, Option.bind_some, sA_1, h1, if_neg (fun q => by have := (nI_leI (by omega) (by omega)).mp q; omega), BoxList_g0, Option.bind_some, BoxList_a0 (by omega), Option.bind_some, sA_at, g2 k (Nat.le_refl _) (by omega), bx_covers hx (hv _ (getD_mem (by omega))).1, Option.bind_some, nI_1 k]
    by_cases hc : cov x (l.getD k 0) = true
    · rw [if_pos hc, if_neg (by decide)]
      have e1 : ([l.getD k 0] : List Nat).filter (fun y => !cov x y) = [] := List.filter_cons_of_neg (by show ¬ (!cov x (l.getD k 0)) = true; rw [hc]; decide)
      rw [e1, List.append_nil] at ih
      exact ih A (by omega) g1 (fun i k1 k2 => g2 i (by omega) k2)
    · have hcf : cov x (l.getD k 0) = false := Bool.eq_false_iff.mpr hc
      rw [if_neg hc, if_pos rfl, Option.bind_some, Option.bind_some, BoxList_a0 (by omega), Option.bind_some, sA_at, g2 k (Nat.le_refl _) (by omega), BoxList_s0 (by omega), Option.bind_some, up2_sA, sA_A, sA_at, nI_1]
      have e1 : ([l.getD k 0] : List Nat).filter (fun y => !cov x y) = [l.getD k 0] := List.filter_cons_of_pos (by show (!cov x (l.getD k 0)) = true; rw [hcf]; rfl)
      rw [e1] at ih
      generalize hF : (l.take k).filter (fun y => !cov x y) = F at *
      have el : (F ++ [l.getD k 0]).length = F.length + 1 := by simp
      rw [el] at ih
      refine ih _ (by omega) (fun i hi => ?_) (fun i k1 k2 => ?_)
      · rw [el] at hi
        by_cases hi2 : i = F.length
        · subst hi2
          have e2 : (F ++ [l.getD k 0]).getD F.length 0 = l.getD k 0 := by simp
          rw [e2, upd_at]
        · have e2 : (F ++ [l.getD k 0]).getD i 0 = F.getD i 0 := by
            rw [List.getD_eq_getElem?_getD, List.getElem?_append_left (by omega), List.getD_eq_getElem?_getD]
          rw [e2, upd_ne hi2]
          exact g1 i (by omega)
      · rw [upd_ne (by omega)]
        exact g2 i (by omega) k2
theorem BL_ins1 {x n : Nat} {l : List Nat} (hx : x < 16777216) (hv : VB l) (hn : l.length = n) (h12 : n < 12) {K : Int32 → hp_H → Option hp_H} : ∀ (k f : Nat) (A : Nat → Int32), k ≤ n → (∀ i, i ≠ k → i < n + 1 → A i = nI (Lk x l k i)) → ∃ A', f_BoxList_insert_l1 a (nI x) K (f + k + 1) (nI k) (bk_BoxList σ a (sA R 0 A)) = K (nI (insP x l k)) (bk_BoxList σ a (sA R 0 A')) ∧ ∀ i, i ≠ insP x l k → i < n + 1 → A' i = nI (Lk x l (insP x l k) i)
  | 0, f, A, _, h => by
    refine ⟨A, ?_, h⟩
    rw [f_BoxList_insert_l1, if_pos (by decide)]
    rfl
  | k + 1, f, A, hk, h => by
    have hA : A k = nI (l.getD k 0) := by
      have := h k (by omega) (by omega)
      unfold Lk at this
      rw [if_pos (by omega)] at this
      exact this
    have hy := (hv _ (getD_mem (by omega : k < l.length))).1
    rw [f_BoxList_insert_l1, if_neg (by rw [il_0, nI_leI (by omega) (by omega)]; omega), BoxList_g0, Option.bind_some, nI_pred, BoxList_a0 (by omega), Option.bind_some, sA_at, hA]
    by_cases hc : l.getD k 0 ≤ x
    · rw [if_pos ((nI_leI (by omega) (by omega)).mpr hc)]
      have e : insP x l (k + 1) = k + 1 := by rw [insP, if_neg (by omega)]
      rw [e]
      exact ⟨A, rfl, h⟩
    · rw [if_neg (fun q => hc ((nI_leI (by omega) (by omega)).mp q)), Option.bind_some, Option.bind_some, BoxList_a0 (by omega), Option.bind_some, sA_at, hA, BoxList_s0 (by omega), Option.bind_some, up2_sA, sA_A, sA_at, pk_m1]
      have e : insP x l (k + 1) = insP x l k := by rw [insP, if_pos (by omega)]
      rw [e]
      refine BL_ins1 hx hv hn h12 k f _ (by omega) (fun i h1 h2 => ?_)
      by_cases h3 : i = k + 1
      · rw [h3, upd_at]
        unfold Lk
        rw [if_neg (by omega), if_neg (by omega)]
        rfl
      · rw [upd_ne h3, h i h3 h2]
        unfold Lk
        by_cases h4 : i < k
        · rw [if_pos (by omega), if_pos h4]
        · rw [if_neg (by omega), if_neg (by omega), if_neg h4, if_neg h1]
end BXL
