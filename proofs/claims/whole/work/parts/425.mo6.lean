/-! ===== the row of numbers: what it says, and when it is as it must be ===== -/
def nB (s : Nat → Int32) : Nat := (s 0).toNatClampNeg
def nC (s : Nat → Int32) : Nat := (s 1).toNatClampNeg
def nW (s : Nat → Int32) : Nat := (s 2).toNatClampNeg
def nM (s : Nat → Int32) : Nat := (s 3).toNatClampNeg
def abS (s : Nat → Int32) (b : Nat) : Nat := if b < 8 then (s (8 + b)).toNatClampNeg else 0
def home (s : Nat → Int32) (c : Nat) : Nat := if c < 6 then (s (16 + 25 * c)).toNatClampNeg else 0
def kpt (s : Nat → Int32) (c : Nat) : Nat := (s (20 + 25 * c)).toNatClampNeg
def ownr (s : Nat → Int32) (w : Nat) : Nat := if w < 12 then (s (170 + 7 * w)).toNatClampNeg else 0
def wbx (s : Nat → Int32) (w : Nat) : Nat := if w < 12 then mk6 (s (171 + 7 * w)).toNatClampNeg (s (172 + 7 * w)).toNatClampNeg (s (173 + 7 * w)).toNatClampNeg (s (174 + 7 * w)).toNatClampNeg (s (175 + 7 * w)).toNatClampNeg (s (176 + 7 * w)).toNatClampNeg else 0
/-- boxes of the wishes at a broker, from wish w on, m of them looked at -/
def wlF (s : Nat → Int32) (b : Nat) : Nat → Nat → List Nat
  | 0, _ => []
  | m + 1, w => (if home s (ownr s w) = b then [wbx s w] else []) ++ wlF s b m (w + 1)
def wlS (s : Nat → Int32) (b : Nat) : List Nat := wlF s b (nW s) 0
def WfB (s : Nat → Int32) : Prop := (s 0 = nI (nB s) ∧ 1 ≤ nB s ∧ nB s ≤ 7) ∧ s 8 = -1 ∧ ∀ b, b ≠ 0 → b < nB s → s (8 + b) = nI (abS s b) ∧ abS s b < b
def WfC (s : Nat → Int32) : Prop := (s 1 = nI (nC s) ∧ nC s ≤ 6) ∧ ∀ c, c < nC s → (s (16 + 25 * c) = nI (home s c) ∧ home s c < nB s) ∧ (s (17 + 25 * c) = 0 ∨ s (17 + 25 * c) = 1) ∧ (s (20 + 25 * c) = nI (kpt s c) ∧ kpt s c ≤ 8)
def WfW (s : Nat → Int32) : Prop := (s 2 = nI (nW s) ∧ nW s ≤ 12) ∧ ∀ w, w < nW s → (s (170 + 7 * w) = nI (ownr s w) ∧ ownr s w < nC s) ∧ vb (wbx s w) ∧ ∀ t, t < 6 → s (171 + 7 * w + t) = nI (dgt t (wbx s w))
def WfM (s : Nat → Int32) : Prop := s 3 = nI (nM s) ∧ 1 ≤ nM s ∧ nM s ≤ 9
def Wf (s : Nat → Int32) : Prop := WfB s ∧ WfC s ∧ WfW s ∧ WfM s
theorem WfB.tree {s : Nat → Int32} (h : WfB s) : ∀ b, b ≠ 0 → b < nB s → abS s b < b := fun b h1 h2 => (h.2.2 b h1 h2).2
theorem wlF_vb {s : Nat → Int32} (h : WfW s) {b : Nat} : ∀ (m w : Nat), w + m ≤ nW s → VB (wlF s b m w)
  | 0, _, _ => VB_nil
  | m + 1, w, hw => by
    unfold wlF
    refine VB_app ?_ (wlF_vb h m (w + 1) (by omega))
    split
    · intro x hx
      rw [List.mem_singleton.mp hx]
      exact (h.2 w (by omega)).2.1
    · exact VB_nil
theorem wlF_len {s : Nat → Int32} {b : Nat} : ∀ (m w : Nat), (wlF s b m w).length ≤ m
  | 0, _ => Nat.le_refl _
  | m + 1, w => by
    have := wlF_len (s := s) (b := b) m (w + 1)
    unfold wlF
    split
    · simp only [List.length_append, List.length_singleton]
      omega
    · simp only [List.nil_append]
      omega
/-- all wishes together are those of all brokers -/
theorem wl_tot {s : Nat → Int32} (hC : WfC s) (hW : WfW s) : tot (nB s) (wlS s) = nW s := by
  have key : ∀ (m w : Nat), w + m ≤ nW s → sumTo (fun b => (wlF s b m w).length) (nB s) = m := by
    intro m
    induction m with
    | zero => intro w _; exact sumTo_zero (nB s)
    | succ m ih =>
      intro w hw
      have e : sumTo (fun b => (wlF s b (m + 1) w).length) (nB s) = sumTo (fun b => (if b = home s (ownr s w) then 1 else 0) + (wlF s b m (w + 1)).length) (nB s) := sumTo_eq _ (fun b _ => by
        show ((if home s (ownr s w) = b then [wbx s w] else []) ++ wlF s b m (w + 1)).length = _
        by_cases hb : home s (ownr s w) = b
        · rw [if_pos hb, if_pos hb.symm, List.length_append]
          rfl
        · rw [if_neg hb, if_neg (fun q => hb q.symm), List.length_append]
          rfl)
      rw [e, sumTo_add, sumTo_one, ih (w + 1) (by omega)]
      have h1 := (hW.2 w (by omega)).1.2
      have h2 := (hC.2 _ h1).1.2
      rw [if_pos h2]
      omega
  exact key (nW s) 0 (by omega)
theorem inX {j n : Nat} (h : j < n) (hn : n < 2 ^ 31) : 0 ≤ (nI j).toInt ∧ (nI j).toInt < (n : Int) := inI_nI h hn
section MO6
variable {σ : hp_H} {r : Nat} {R : oR}
theorem Mo_nb {x y : Nat} (h : WfB (R.2 0)) (hx : x < nB (R.2 0)) (hy : y < nB (R.2 0)) : f_Mo_areNeighbours r (nI x) (nI y) (bk_Mo σ r R) = some (if nbrb (abS (R.2 0)) x y = true then 1 else 0) := by
  obtain ⟨⟨h0, h1, h2⟩, h3, h4⟩ := h
  have key : ∀ u v : Nat, u < nB (R.2 0) → v < nB (R.2 0) → (R.2 0 (8 + u) = nI v ↔ u ≠ 0 ∧ abS (R.2 0) u = v) := by
    intro u v hu hv
    by_cases hz : u = 0
    · subst hz
      constructor
      · intro q
        rw [show 8 + 0 = 8 from rfl, h3] at q
        have := congrArg Int32.toInt q
        rw [nI_toInt (by omega)] at this
        have h5 : (-1 : Int32).toInt = -1 := rfl
        omega
      · rintro ⟨q, -⟩
        exact absurd rfl q
    · obtain ⟨q1, q2⟩ := h4 u hz hu
      rw [q1, nI_eq (by omega) (by omega)]
      constructor
      · intro q; exact ⟨hz, q⟩
      · intro q; exact q.2
  unfold f_Mo_areNeighbours
  have e8 : (8 : Int32) = nI 8 := rfl
  rw [Mo_own, Mo_isBroker h0 (by omega), Option.bind_some, if_pos (inX hx (by omega)), if_neg (by decide), Mo_isBroker h0 (by omega), Option.bind_some, if_pos (inX hy (by omega)), if_neg (by decide), Mo_g0, Option.bind_some, e8, nI_add, Mo_a0 (by omega), Option.bind_some, Option.bind_some, nI_add, Mo_a0 (by omega), Option.bind_some]
  by_cases c1 : x ≠ 0 ∧ abS (R.2 0) x = y
  · rw [if_pos ((key x y hx hy).mpr c1), if_pos (nbrb_iff.mpr (Or.inl c1))]
  · rw [if_neg (fun q => c1 ((key x y hx hy).mp q))]
    by_cases c2 : y ≠ 0 ∧ abS (R.2 0) y = x
    · rw [if_pos ((key y x hy hx).mpr c2), if_pos (nbrb_iff.mpr (Or.inr c2))]
    · rw [if_neg (fun q => c2 ((key y x hy hx).mp q)), if_neg]
      intro q
      rcases nbrb_iff.mp q with q | q
      · exact c1 q
      · exact c2 q
theorem Mo_lnk {x y : Nat} (h : WfB (R.2 0)) (hx : x < nB (R.2 0)) (hy : y < nB (R.2 0)) : f_Mo_linkOf r (nI x) (nI y) (bk_Mo σ r R) = some (nI (lnk (abS (R.2 0)) x y)) := by
  obtain ⟨⟨h0, h1, h2⟩, h3, h4⟩ := h
  have e8 : (8 : Int32) = nI 8 := rfl
  unfold f_Mo_linkOf lnk
  rw [Mo_own, Mo_g0, Option.bind_some, e8, nI_add, Mo_a0 (by omega), Option.bind_some, il_2, pk_mul, pk_mul, nI_1]
  by_cases hz : x = 0
  · subst hz
    have hne : ¬ R.2 0 (8 + 0) = nI y := by
      intro q
      rw [show 8 + 0 = 8 from rfl, h3] at q
      have := congrArg Int32.toInt q
      rw [nI_toInt (by omega)] at this
      have h5 : (-1 : Int32).toInt = -1 := rfl
      omega
    rw [if_neg hne, if_neg (fun q => q.1 rfl)]
  · obtain ⟨q1, q2⟩ := h4 x hz hx
    rw [q1]
    by_cases c : abS (R.2 0) x = y
    · rw [if_pos ((nI_eq (by omega) (by omega)).mpr c), if_pos ⟨hz, c⟩]
    · rw [if_neg (fun q => c ((nI_eq (by omega) (by omega)).mp q)), if_neg (fun q => c q.2)]
/-- the work row holds a list -/
def hold (R : oR) (l : List Nat) : Prop := R.1 13 = nI l.length ∧ boxAll (R.2 12) l.length (fun i => l.getD i 0) ∧ VB l
theorem hold_A {l : List Nat} {j : Nat} {A : Nat → Int32} (h : hold R l) (hj : j ≠ 12) : hold (sA R j A) l := ⟨h.1, by rw [sA_ne (Ne.symm hj)]; exact h.2.1, h.2.2⟩
theorem Mo_come {x : Nat} {l : List Nat} (hx : vb x) (hl : hold R l) (hn : l.length < 77) (hbx : bxAt (R.2 12) l.length x) : ∃ R', f_Mo_comes r (bk_Mo σ r R) = some (bk_Mo σ r R') ∧ kps R R' [13] [12] ∧ hold R' (addB x l) := by
  obtain ⟨R', h1, h2, h3, h4⟩ := Mo_comes (σ := σ) (r := r) hx hl.2.2 hn hl.1 hl.2.1 hbx
  exact ⟨R', h1, h2, h3, h4, addB_vb hx hl.2.2⟩
theorem Mo_gw2 {b w k : Nat} (hw : w < 12) (hk : k < 79) (h13 : R.1 13 = nI k) {K : Int32 → hp_H → Option hp_H} {A : Nat → Int32} : ∀ (m t n : Nat), t + m = 6 → f_Mo_gathersWishes_l2 r (nI b) (nI w) K (n + m + 1) (nI t) (bk_Mo σ r (sA R 12 (wr A (6 * k) t (fun u => R.2 0 (171 + 7 * w + u))))) = K (nI 6) (bk_Mo σ r (sA R 12 (wr A (6 * k) 6 (fun u => R.2 0 (171 + 7 * w + u)))))
  | 0, t, n, h => by
    rw [show t = 6 by omega, f_Mo_gathersWishes_l2, if_pos (by decide)]
  | m + 1, t, n, h => by
    have e1 : (1 : Int32) + nI t = nI (1 + t) := nI_add 1 t
    rw [f_Mo_gathersWishes_l2, if_neg (by rw [il_6, nI_leI (by omega) (by omega)]; omega), Mo_g12, Option.bind_some, Mo_g13, Option.bind_some, sA_1, h13, e1, Mo_wish (by omega), Option.bind_some, sA_ne (by decide), show 170 + 7 * w + (1 + t) = 171 + 7 * w + t by omega, il_6, pk_mul, nI_add, Mo_s12 (by omega), Option.bind_some, nI_1]
    have e : (((sA R 12 (wr A (6 * k) t (fun u => R.2 0 (171 + 7 * w + u)))).1, up2 (sA R 12 (wr A (6 * k) t (fun u => R.2 0 (171 + 7 * w + u)))).2 12 (6 * k + t) (R.2 0 (171 + 7 * w + t))) : oR) = sA R 12 (wr A (6 * k) (t + 1) (fun u => R.2 0 (171 + 7 * w + u))) := by
      show sA (sA R 12 (wr A (6 * k) t (fun u => R.2 0 (171 + 7 * w + u)))) 12 (upd ((sA R 12 (wr A (6 * k) t (fun u => R.2 0 (171 + 7 * w + u)))).2 12) (6 * k + t) (R.2 0 (171 + 7 * w + t))) = _
      rw [sA_A, sA_at]
      congr 1
      exact wr_s (g := fun u => R.2 0 (171 + 7 * w + u))
    rw [e]
    exact Mo_gw2 hw hk h13 m (t + 1) n (by omega)
theorem Mo_gw {b : Nat} (hb : b < 7) {s : Nat → Int32} (hs : Wf s) {K : Int32 → hp_H → Option hp_H} : ∀ (m w f : Nat) (R : oR) (l : List Nat), R.2 0 = s → hold R l → l.length + m < 77 → w + m = nW s → ∃ R', f_Mo_gathersWishes_l1 r (nI b) K (f + m + 1) (nI w) (bk_Mo σ r R) = K (nI (nW s)) (bk_Mo σ r R') ∧ kps R R' [13] [12] ∧ hold R' (adds (wlF s b m w) l)
  | 0, w, f, R, l, h0, hl, hn, hm => by
    obtain ⟨hB, hC, hW, hM⟩ := hs
    have e2 : hp_aI (bk_Mo σ r R) (r + 1) 0 2 = some (R.2 0 2) := Mo_a0 (i := 2) (by decide)
    refine ⟨R, ?_, kps_rf, hl⟩
    rw [f_Mo_gathersWishes_l1, Mo_g0, Option.bind_some, e2, Option.bind_some, h0, hW.1.1, show w = nW s by omega, if_pos ((nI_leI (by have := hW.1.2; omega) (by have := hW.1.2; omega)).mpr (Nat.le_refl _))]
  | m + 1, w, f, R, l, h0, hl, hn, hm => by
    obtain ⟨hB, hC, hW, hM⟩ := id hs
    have hW12 := hW.1.2
    have e2 : hp_aI (bk_Mo σ r R) (r + 1) 0 2 = some (R.2 0 2) := Mo_a0 (i := 2) (by decide)
    obtain ⟨⟨o1, o2⟩, v1, v2⟩ := hW.2 w (by omega)
    obtain ⟨⟨c1, c2⟩, -, -⟩ := hC.2 _ o2
    have hC6 := hC.1.2
    have hB7 := hB.1.2.2
    have ew : f_Mo_wish r (nI w) 0 (bk_Mo σ r R) = some (nI (ownr s w)) := by
      have := Mo_wish (σ := σ) (r := r) (R := R) (w := w) (k := 0) (by omega)
      rw [h0, Nat.add_zero, o1] at this
      exact this
    have eo : f_Mo_of r (nI (ownr s w)) 0 (bk_Mo σ r R) = some (nI (home s (ownr s w))) := by
      have := Mo_of (σ := σ) (r := r) (R := R) (c := ownr s w) (k := 0) (by omega)
      rw [h0, Nat.add_zero, c1] at this
      exact this
    rw [f_Mo_gathersWishes_l1, Mo_g0, Option.bind_some, e2, Option.bind_some, h0, hW.1.1, if_neg (fun q => by have := (nI_leI (by omega) (by omega)).mp q; omega), ew, Option.bind_some, eo, Option.bind_some, nI_1]
    by_cases hc : home s (ownr s w) = b
    · rw [if_pos ((nI_eq (by omega) (by omega)).mpr hc)]
      obtain ⟨n6, hn6⟩ := hp_fu 7 (by decide)
      have hn6' : n6 + 6 + 1 = hp_F := hn6.symm
      have g2 := Mo_gw2 (σ := σ) (r := r) (R := R) (b := b) (w := w) (k := l.length) (by omega) (by omega) hl.1 (K := fun z14 σ => (f_Mo_comes r σ).bind fun σ => f_Mo_gathersWishes_l1 r (nI b) K (f + (m + 1)) (nI (w + 1)) σ) (A := R.2 12) 6 0 n6 (by decide)
      rw [wr_0, sA_self, hn6'] at g2
      generalize hR1 : sA R 12 (wr (R.2 12) (6 * l.length) 6 (fun u => R.2 0 (171 + 7 * w + u))) = R1 at g2
      have k1 : kps R R1 [13] [12] := by rw [← hR1]; exact kps_A (by decide)
      have hl1 : hold R1 l := by
        refine ⟨by rw [← hR1]; exact hl.1, fun i hi t ht => ?_, hl.2.2⟩
        rw [← hR1, sA_at, wr_out (by omega)]
        exact hl.2.1 i hi t ht
      have hx1 : bxAt (R1.2 12) l.length (wbx s w) := by
        intro t ht
        rw [← hR1, sA_at, wr_in ht, h0]
        exact v2 t ht
      obtain ⟨R2, d1, d2, d3⟩ := Mo_come (σ := σ) (r := r) v1 hl1 (by omega) hx1
      have h02 : R2.2 0 = s := by rw [d2.2 0 (by decide), k1.2 0 (by decide), h0]
      have := addB_len (wbx s w) l
      obtain ⟨R3, i1, i2, i3⟩ := Mo_gw hb hs (K := K) m (w + 1) f R2 (addB (wbx s w) l) h02 d3 (by omega) (by omega)
      refine ⟨R3, ?_, kps_tr k1 (kps_tr d2 i2), ?_⟩
      · refine g2.trans ?_
        rw [d1, Option.bind_some]
        exact i1
      · have : adds (wlF s b (m + 1) w) l = adds (wlF s b m (w + 1)) (addB (wbx s w) l) := by
          rw [wlF, if_pos hc]
          rfl
        rw [this]
        exact i3
    · rw [if_neg (fun q => hc ((nI_eq (by omega) (by omega)).mp q))]
      obtain ⟨R3, i1, i2, i3⟩ := Mo_gw hb hs (K := K) m (w + 1) f R l h0 hl (by omega) (by omega)
      refine ⟨R3, i1, i2, ?_⟩
      have : adds (wlF s b (m + 1) w) l = adds (wlF s b m (w + 1)) l := by
        rw [wlF, if_neg hc]
        rfl
      rw [this]
      exact i3
end MO6
