/-! ===== the class: what brokers tell on ===== -/
def BlI (H : hp_H) (q : Nat) (l : List Nat) : Prop := ∃ R, hs H q 2 (ce_BoxList q R) ∧ blI R l
def TeI (H : hp_H) (t : Nat) (fr : Int32) (tab : Nat → List Nat) : Prop := (∃ R, hs H t 3 (ce_Te t R) ∧ R.1 2 = fr) ∧ ∀ k, k < 14 → BlI H (t + 3 + 2 * k) (tab k)
def setT (tab : Nat → List Nat) (k0 : Nat) (l : List Nat) : Nat → List Nat := fun k => if k = k0 then l else tab k
theorem BlI_same {H H' : hp_H} {q b m : Nat} {l : List Nat} (h : BlI H q l) (hw : same H H' b m) (d : q + 2 ≤ b ∨ b + m ≤ q) : BlI H' q l := by
  obtain ⟨R, h1, h2⟩ := h
  exact ⟨R, hs_same h1 hw d, h2⟩
theorem TeI_same {H H' : hp_H} {t b m : Nat} {fr : Int32} {tab : Nat → List Nat} (h : TeI H t fr tab) (hw : same H H' b m) (d : t + 31 ≤ b ∨ b + m ≤ t) : TeI H' t fr tab := by
  obtain ⟨⟨R, h1, h2⟩, h3⟩ := h
  exact ⟨⟨R, hs_same h1 hw (by omega), h2⟩, fun k hk => BlI_same (h3 k hk) hw (by omega)⟩
theorem BoxList_eq {σ : hp_H} {a : Nat} {R : oR} (h : hs σ a 2 (ce_BoxList a R)) : bk_BoxList σ a R = σ := hs_eq h
theorem setT_set {tab : Nat → List Nat} {k : Nat} {l l' : List Nat} : setT (setT tab k l) k l' = setT tab k l' := by
  funext j
  unfold setT
  by_cases h : j = k
  · rw [if_pos h, if_pos h]
  · rw [if_neg h, if_neg h, if_neg h]
theorem setT_at {tab : Nat → List Nat} {k : Nat} {l : List Nat} : setT tab k l k = l := if_pos rfl
theorem setT_ne {tab : Nat → List Nat} {k j : Nat} {l : List Nat} (h : j ≠ k) : setT tab k l j = tab j := if_neg h
theorem TeI_set {H : hp_H} {t k0 : Nat} {fr : Int32} {tab : Nat → List Nat} {R' : oR} {l : List Nat} (h : TeI H t fr tab) (hk : k0 < 14) (hb : blI R' l) : TeI (bk_BoxList H (t + 3 + 2 * k0) R') t fr (setT tab k0 l) ∧ same H (bk_BoxList H (t + 3 + 2 * k0) R') t 31 := by
  obtain ⟨⟨R, h1, h2⟩, h3⟩ := h
  refine ⟨⟨⟨R, hs_out h1 (by omega), h2⟩, fun k hk' => ?_⟩, same_mono same_bW (by omega) (by omega)⟩
  by_cases hkk : k = k0
  · subst hkk
    rw [setT_at]
    exact ⟨R', hs_bW, hb⟩
  · rw [setT_ne hkk]
    obtain ⟨Rk, g1, g2⟩ := h3 k hk'
    exact ⟨Rk, hs_out g1 (by omega), g2⟩
theorem T_add {H : hp_H} {t k0 x : Nat} {fr : Int32} {tab : Nat → List Nat} {l : List Nat} (h : TeI H t fr (setT tab k0 l)) (hk : k0 < 14) (hx : vb x) (h11 : (l.filter (fun y => !cov x y)).length < 12) : ∃ H', f_BoxList_add (t + 3 + 2 * k0) (nI x) H = some H' ∧ TeI H' t fr (setT tab k0 (addB x l)) ∧ same H H' t 31 := by
  obtain ⟨R, g1, g2⟩ := h.2 k0 hk
  rw [setT_at] at g2
  obtain ⟨R', q, q2⟩ := BL_add (σ := H) (a := t + 3 + 2 * k0) hx g2 h11
  rw [BoxList_eq g1] at q
  obtain ⟨m1, m2⟩ := TeI_set h hk q2
  rw [setT_set] at m1
  exact ⟨_, q, m1, m2⟩
section TEL
variable {H : hp_H} {t : Nat} {fr : Int32} {tab : Nat → List Nat}
theorem T_own (h : TeI H t fr tab) {α : Type} {x : Option α} : hp_own H t 8 x = x := by
  obtain ⟨⟨R, h1, -⟩, -⟩ := h
  have := Te_own (σ := H) (a := t) (R := R) (x := x)
  rw [Te_eq h1] at this
  exact this
theorem T_g0 (h : TeI H t fr tab) : hp_gR H t 8 0 = some (t + 1) ∧ hp_gR H t 8 1 = some (t + 2) ∧ hp_gI H t 8 2 = some fr := by
  obtain ⟨⟨R, h1, h2⟩, -⟩ := h
  have e0 := Te_g0 (σ := H) (a := t) (R := R)
  have e1 := Te_g1 (σ := H) (a := t) (R := R)
  have e2 := Te_g2 (σ := H) (a := t) (R := R)
  rw [Te_eq h1] at e0 e1 e2
  rw [h2] at e2
  exact ⟨e0, e1, e2⟩
theorem T_a0 (h : TeI H t fr tab) {b : Nat} (hb : b < 7) : hp_aR H (t + 1) 2 (nI b) = some (t + 3 + 2 * (2 * b)) ∧ hp_aR H (t + 2) 2 (nI b) = some (t + 3 + 2 * (2 * b + 1)) := by
  obtain ⟨⟨R, h1, h2⟩, -⟩ := h
  have e0 := Te_a0 (σ := H) (a := t) (R := R) hb
  have e1 := Te_a1 (σ := H) (a := t) (R := R) hb
  rw [Te_eq h1] at e0 e1
  rw [show t + 3 + 2 * (2 * b) = t + 3 + 4 * b by omega, show t + 3 + 2 * (2 * b + 1) = t + 5 + 4 * b by omega]
  exact ⟨e0, e1⟩
theorem T_cnt (h : TeI H t fr tab) {k : Nat} (hk : k < 14) : hp_gI H (t + 3 + 2 * k) 1 1 = some (nI (tab k).length) ∧ hp_gR H (t + 3 + 2 * k) 1 0 = some (t + 3 + 2 * k + 1) ∧ (∀ i, i < (tab k).length → hp_aI H (t + 3 + 2 * k + 1) 0 (nI i) = some (nI ((tab k).getD i 0))) ∧ (tab k).length ≤ 12 ∧ VB (tab k) := by
  obtain ⟨R, g1, g2⟩ := h.2 k hk
  have e1 := BoxList_g1 (σ := H) (a := t + 3 + 2 * k) (R := R)
  have e0 := BoxList_g0 (σ := H) (a := t + 3 + 2 * k) (R := R)
  have e2 := fun i hi => BoxList_a0 (σ := H) (a := t + 3 + 2 * k) (R := R) (i := i) hi
  rw [BoxList_eq g1] at e0 e1
  rw [g2.1] at e1
  refine ⟨e1, e0, fun i hi => ?_, g2.2.2.1, g2.2.2.2⟩
  have := e2 i (by have := g2.2.2.1; omega)
  rw [BoxList_eq g1, g2.2.1 i hi] at this
  exact this
theorem T_btw {st : Nat} {s : Nat → Int32} (h : TeI H t fr tab) (hS : StI H st s) (wf : Wf s) {u v : Nat} (hu : u < nB s) (hv : v < nB s) : f_Tellings_between t st (nI u) (nI v) H = some (t + 3 + 2 * lnk (abS s) u v) := by
  have hB7 := wf.1.1.2.2
  unfold f_Tellings_between lnk
  rw [T_own h, S_r7 hS, Option.bind_some, S_ab hS wf hu, Option.bind_some, (T_g0 h).1, Option.bind_some, (T_a0 h (b := u) (by omega)).1, Option.bind_some, (T_g0 h).2.1, Option.bind_some, (T_a0 h (b := v) (by omega)).2, Option.bind_some]
  by_cases c : u ≠ 0 ∧ abS s u = v
  · rw [if_pos ((nb_key wf.1 hu hv).mpr c), if_pos c]
  · rw [if_neg (fun q => c ((nb_key wf.1 hu hv).mp q)), if_neg c]
theorem T_ca1 {st : Nat} {s : Nat → Int32} (h : TeI H t fr tab) (hS : StI H st s) (wf : Wf s) {K : Int32 → Int32 → Option Int32} : ∀ (m n f z : Nat), n + m = nB s → f_Tellings_countAll_l1 t st H K (f + m + 1) (nI z) (nI n) = K (nI (tcF tab m n z)) (nI (nB s))
  | 0, n, f, z, e => by
    have hB7 := wf.1.1.2.2
    rw [f_Tellings_countAll_l1, S_f hS (by decide), Option.bind_some, wf.1.1.1, show n = nB s by omega, if_pos ((nI_leI (by omega) (by omega)).mpr (Nat.le_refl _)), tcF]
  | m + 1, n, f, z, e => by
    have hB7 := wf.1.1.2.2
    rw [f_Tellings_countAll_l1, S_f hS (by decide), Option.bind_some, wf.1.1.1, if_neg (fun q => by have := (nI_leI (by omega) (by omega)).mp q; omega), (T_g0 h).1, Option.bind_some, (T_a0 h (b := n) (by omega)).1, Option.bind_some, (T_cnt h (by omega)).1, Option.bind_some, (T_g0 h).2.1, Option.bind_some, (T_a0 h (b := n) (by omega)).2, Option.bind_some, (T_cnt h (by omega)).1, Option.bind_some, nI_add, nI_add, nI_1, tcF]
    exact T_ca1 h hS wf m (n + 1) f _ (by omega)
theorem T_cal {st : Nat} {s : Nat → Int32} (h : TeI H t fr tab) (hS : StI H st s) (wf : Wf s) : f_Tellings_countAll t st H = some (nI (tcF tab (nB s - 1) 1 0)) := by
  have hB7 := wf.1.1.2.2
  have hB1 := wf.1.1.2.1
  obtain ⟨f, hf⟩ := hp_fu (nB s - 1 + 1) (by omega)
  have hf' : f + (nB s - 1) + 1 = hp_F := hf.symm
  have q := T_ca1 h hS wf (K := fun z9 z10 => some z9) (nB s - 1) 1 f 0 (by omega)
  rw [hf'] at q
  unfold f_Tellings_countAll
  rw [T_own h]
  exact q
end TEL
theorem lnk_ne {B : Nat} {ab : Nat → Nat} (hT : ∀ b, b ≠ 0 → b < B → ab b < b) {n x y : Nat} (hn : n < B) (hx : x < B) (hy : y < B) (h1 : nbr ab x y) (h2 : nbr ab n x) (h3 : n ≠ y) : lnk ab n x ≠ lnk ab x y := by
  have t1 := hT n
  have t2 := hT x
  have t3 := hT y
  unfold nbr at h1 h2
  unfold lnk
  by_cases c1 : n ≠ 0 ∧ ab n = x
  · rw [if_pos c1]
    have := t1 c1.1 hn
    by_cases c2 : x ≠ 0 ∧ ab x = y
    · rw [if_pos c2]; omega
    · rw [if_neg c2]; omega
  · rw [if_neg c1]
    by_cases c2 : x ≠ 0 ∧ ab x = y
    · rw [if_pos c2]; omega
    · rw [if_neg c2]
      rcases h1 with h1 | h1
      · exact absurd h1 c2
      · have := t3 h1.1 hy
        omega
section GTH
variable {t st : Nat} {fr : Int32} {tab : Nat → List Nat} {s : Nat → Int32}
theorem T_g1l (wf : Wf s) (hd : t + 31 ≤ st ∨ st + 23 ≤ t) {x k0 P : Nat} {y z : Int32} (hk : k0 < 14) (hP : P < 2 ^ 31) (hb : ∀ w, w < nW s → (P.testBit w = true ↔ home s (ownr s w) = x)) {K : Int32 → hp_H → Option hp_H} : ∀ (m w f : Nat) (H : hp_H) (l : List Nat), w + m = nW s → TeI H t fr (setT tab k0 l) → StI H st s → l.length + (wlF s x m w).length ≤ 12 → ∃ H', f_Tellings_gather_l1 t st y z (t + 3 + 2 * k0) (nI P) K (f + m + 1) (nI w) H = K (nI (nW s)) H' ∧ TeI H' t fr (setT tab k0 (adds (wlF s x m w) l)) ∧ same H H' t 31
  | 0, w, f, H, l, e, hT, hS, hl => by
    have hW := wf.2.2.1.1.2
    refine ⟨H, ?_, hT, same_rf⟩
    rw [f_Tellings_gather_l1, S_f hS (by decide), Option.bind_some, wf.2.2.1.1.1, show w = nW s by omega, if_pos ((nI_leI (by omega) (by omega)).mpr (Nat.le_refl _))]
  | m + 1, w, f, H, l, e, hT, hS, hl => by
    have hW := wf.2.2.1.1.2
    have v1 := (wf.2.2.1.2 w (by omega)).2.1
    rw [f_Tellings_gather_l1, S_f hS (by decide), Option.bind_some, wf.2.2.1.1.1, if_neg (fun q => by have := (nI_leI (by omega) (by omega)).mp q; omega), hld_v hP (by omega), Option.bind_some, nI_1]
    have hbw := hb w (by omega)
    rw [wlF] at hl ⊢
    by_cases hc : home s (ownr s w) = x
    · rw [if_pos hc] at hl ⊢
      rw [hbw.mpr hc, if_neg (show ¬ b01 true = 0 by decide), S_r10 hS, Option.bind_some, S_bx hS wf (by omega), Option.bind_some]
      have hlen := addB_len (wbx s w) l
      rw [List.length_append] at hl
      have h1 : ([wbx s w] : List Nat).length = 1 := rfl
      obtain ⟨H1, a1, a2, a3⟩ := T_add hT hk v1 (Nat.lt_of_le_of_lt (List.length_filter_le _ _) (by omega))
      obtain ⟨H2, b1, b2, b3⟩ := T_g1l wf hd (y := y) (z := z) hk hP hb (K := K) m (w + 1) f H1 (addB (wbx s w) l) (by omega) a2 (StI_same hS a3 (by omega)) (by omega)
      refine ⟨H2, ?_, b2, same_tr a3 b3⟩
      rw [a1, Option.bind_some]
      exact b1
    · rw [if_neg hc] at hl ⊢
      rw [Bool.eq_false_iff.mpr (fun q => hc (hbw.mp q)), if_pos (show b01 false = 0 from rfl)]
      exact T_g1l wf hd hk hP hb m (w + 1) f H l (by omega) hT hS hl
theorem T_g3l {k k0 : Nat} {x y n : Int32} (hk : k < 14) (hk0 : k0 < 14) (hne : k ≠ k0) {K : Int32 → hp_H → Option hp_H} : ∀ (m i f : Nat) (H : hp_H) (l : List Nat), i + m = (tab k).length → TeI H t fr (setT tab k0 l) → l.length + m ≤ 12 → ∃ H', f_Tellings_gather_l3 t st x y (t + 3 + 2 * k0) n (t + 3 + 2 * k) K (f + m + 1) (nI i) H = K (nI (tab k).length) H' ∧ TeI H' t fr (setT tab k0 (adds ((tab k).drop i) l)) ∧ same H H' t 31
  | 0, i, f, H, l, e, hT, hl => by
    obtain ⟨c1, c2, c3, c4, c5⟩ := T_cnt hT hk
    rw [setT_ne hne] at c1 c3 c4 c5
    refine ⟨H, ?_, ?_, same_rf⟩
    · rw [f_Tellings_gather_l3, c1, Option.bind_some, show i = (tab k).length by omega, if_pos ((nI_leI (by omega) (by omega)).mpr (Nat.le_refl _))]
    · rw [show i = (tab k).length by omega, List.drop_length]
      exact hT
  | m + 1, i, f, H, l, e, hT, hl => by
    obtain ⟨c1, c2, c3, c4, c5⟩ := T_cnt hT hk
    rw [setT_ne hne] at c1 c3 c4 c5
    have hv := c5 _ (getD_mem (show i < (tab k).length by omega))
    have hlen := addB_len ((tab k).getD i 0) l
    obtain ⟨H1, a1, a2, a3⟩ := T_add hT hk0 hv (Nat.lt_of_le_of_lt (List.length_filter_le _ _) (by omega))
    obtain ⟨H2, b1, b2, b3⟩ := T_g3l (x := x) (y := y) (n := n) hk hk0 hne (K := K) m (i + 1) f H1 (addB ((tab k).getD i 0) l) (by omega) a2 (by omega)
    refine ⟨H2, ?_, ?_, same_tr a3 b3⟩
    · rw [f_Tellings_gather_l3, c1, Option.bind_some, if_neg (fun q => by have := (nI_leI (by omega) (by omega)).mp q; omega), c2, Option.bind_some, c3 i (by omega), Option.bind_some, a1, Option.bind_some, nI_1]
      exact b1
    · have ed : (tab k).drop i = (tab k).getD i 0 :: (tab k).drop (i + 1) := by
        rw [gd_at (show i < (tab k).length by omega)]
        exact List.drop_eq_getElem_cons (by omega)
      rw [ed]
      exact b2
end GTH
