/-! ===== the reference: what a link tells on ===== -/
def flF (g : Nat → List Nat) : Nat → Nat → List Nat
  | 0, _ => []
  | m + 1, n => g n ++ flF g m (n + 1)
theorem flF_snoc (g : Nat → List Nat) : ∀ (m n : Nat), flF g (m + 1) n = flF g m n ++ g (n + m)
  | 0, n => by
    rw [flF, flF, flF, Nat.add_zero, List.append_nil, List.nil_append]
  | m + 1, n => by
    rw [flF, flF_snoc g m (n + 1), flF, List.append_assoc, show n + 1 + m = n + (m + 1) by omega]
theorem flF_range (g : Nat → List Nat) : ∀ (B : Nat), (List.range B).flatMap g = flF g B 0
  | 0 => rfl
  | B + 1 => by
    rw [List.range_succ, List.flatMap_append, flF_range g B, flF_snoc, Nat.zero_add]
    simp
def tdO (R : oR) (tab : Nat → List Nat) (k : Nat) : Prop := R.2 9 k = nI (tab k).length ∧ (tab k).length ≤ 9 ∧ VB (tab k) ∧ ∀ i, i < (tab k).length → ∀ t, t < 6 → R.2 10 (54 * k + 6 * i + t) = nI (dgt t ((tab k).getD i 0))
def tdA (R : oR) (tab : Nat → List Nat) : Prop := ∀ k, k < 14 → tdO R tab k
theorem tdO_kp {R R' : oR} {tab : Nat → List Nat} {k : Nat} {fs as : List Nat} (h : tdO R tab k) (hk : kps R R' fs as) (h9 : 9 ∉ as) (h10 : 10 ∉ as) : tdO R' tab k := by
  unfold tdO
  rw [hk.2 9 h9, hk.2 10 h10]
  exact h
theorem tdA_kp {R R' : oR} {tab : Nat → List Nat} {fs as : List Nat} (h : tdA R tab) (hk : kps R R' fs as) (h9 : 9 ∉ as) (h10 : 10 ∉ as) : tdA R' tab := fun k k1 => tdO_kp (h k k1) hk h9 h10
section MO7
variable {σ : hp_H} {r : Nat}
theorem Mo_gl2 {R : oR} {k i n0 : Nat} (hk : k < 14) (hi : i < 9) (hn : n0 < 79) (h13 : R.1 13 = nI n0) {K : Int32 → hp_H → Option hp_H} {A : Nat → Int32} : ∀ (m t n : Nat), t + m = 6 → f_Mo_gathersLink_l2 r (nI k) (nI i) K (n + m + 1) (nI t) (bk_Mo σ r (sA R 12 (wr A (6 * n0) t (fun u => R.2 10 (54 * k + 6 * i + u))))) = K (nI 6) (bk_Mo σ r (sA R 12 (wr A (6 * n0) 6 (fun u => R.2 10 (54 * k + 6 * i + u)))))
  | 0, t, n, h => by
    rw [show t = 6 by omega, f_Mo_gathersLink_l2, if_pos (by decide)]
  | m + 1, t, n, h => by
    rw [f_Mo_gathersLink_l2, if_neg (by rw [il_6, nI_leI (by omega) (by omega)]; omega), Mo_g12, Option.bind_some, Mo_g13, Option.bind_some, Mo_g10, Option.bind_some, sA_1, h13, il_54, il_6, pk_mul, pk_mul, nI_add, nI_add, Mo_a10 (by omega), Option.bind_some, sA_ne (by decide), pk_mul, nI_add, Mo_s12 (by omega), Option.bind_some, nI_1]
    have e : (((sA R 12 (wr A (6 * n0) t (fun u => R.2 10 (54 * k + 6 * i + u)))).1, up2 (sA R 12 (wr A (6 * n0) t (fun u => R.2 10 (54 * k + 6 * i + u)))).2 12 (6 * n0 + t) (R.2 10 (54 * k + 6 * i + t))) : oR) = sA R 12 (wr A (6 * n0) (t + 1) (fun u => R.2 10 (54 * k + 6 * i + u))) := by
      show sA (sA R 12 (wr A (6 * n0) t (fun u => R.2 10 (54 * k + 6 * i + u)))) 12 (upd ((sA R 12 (wr A (6 * n0) t (fun u => R.2 10 (54 * k + 6 * i + u)))).2 12) (6 * n0 + t) (R.2 10 (54 * k + 6 * i + t))) = _
      rw [sA_A, sA_at]
      congr 1
      exact wr_s (g := fun u => R.2 10 (54 * k + 6 * i + u))
    rw [e]
    exact Mo_gl2 hk hi hn h13 m (t + 1) n (by omega)
theorem Mo_gl {k : Nat} (hk : k < 14) {tab : Nat → List Nat} {K : Int32 → hp_H → Option hp_H} : ∀ (m i f : Nat) (R : oR) (l : List Nat), tdO R tab k → hold R l → l.length + m < 77 → i + m = (tab k).length → ∃ R', f_Mo_gathersLink_l1 r (nI k) K (f + m + 1) (nI i) (bk_Mo σ r R) = K (nI (tab k).length) (bk_Mo σ r R') ∧ kps R R' [13] [12] ∧ hold R' (adds ((tab k).drop i) l)
  | 0, i, f, R, l, ht, hl, hn, hm => by
    refine ⟨R, ?_, kps_rf, ?_⟩
    · have := ht.2.1
      rw [f_Mo_gathersLink_l1, Mo_g9, Option.bind_some, Mo_a9 hk, Option.bind_some, ht.1, show i = (tab k).length by omega, if_pos ((nI_leI (by omega) (by omega)).mpr (Nat.le_refl _))]
    · rw [List.drop_of_length_le (by omega)]
      exact hl
  | m + 1, i, f, R, l, ht, hl, hn, hm => by
    have h9 := ht.2.1
    have hik : i < (tab k).length := by omega
    rw [f_Mo_gathersLink_l1, Mo_g9, Option.bind_some, Mo_a9 hk, Option.bind_some, ht.1, if_neg (fun q => by have := (nI_leI (by omega) (by omega)).mp q; omega), nI_1]
    obtain ⟨n6, hn6⟩ := hp_fu 7 (by decide)
    have hn6' : n6 + 6 + 1 = hp_F := hn6.symm
    have g2 := Mo_gl2 (σ := σ) (r := r) (R := R) (k := k) (i := i) (n0 := l.length) hk (by omega) (by omega) hl.1 (K := fun z9 σ => (f_Mo_comes r σ).bind fun σ => f_Mo_gathersLink_l1 r (nI k) K (f + (m + 1)) (nI (i + 1)) σ) (A := R.2 12) 6 0 n6 (by decide)
    rw [wr_0, sA_self, hn6'] at g2
    generalize hR1 : sA R 12 (wr (R.2 12) (6 * l.length) 6 (fun u => R.2 10 (54 * k + 6 * i + u))) = R1 at g2
    have k1 : kps R R1 [13] [12] := by rw [← hR1]; exact kps_A (by decide)
    have hl1 : hold R1 l := by
      refine ⟨by rw [← hR1]; exact hl.1, fun j hj t ht => ?_, hl.2.2⟩
      rw [← hR1, sA_at, wr_out (by omega)]
      exact hl.2.1 j hj t ht
    have hx1 : bxAt (R1.2 12) l.length ((tab k).getD i 0) := by
      intro t h6
      rw [← hR1, sA_at, wr_in h6]
      exact ht.2.2.2 i hik t h6
    have hv : vb ((tab k).getD i 0) := ht.2.2.1 _ (getD_mem hik)
    obtain ⟨R2, d1, d2, d3⟩ := Mo_come (σ := σ) (r := r) hv hl1 (by omega) hx1
    have := addB_len ((tab k).getD i 0) l
    obtain ⟨R3, i1, i2, i3⟩ := Mo_gl hk (tab := tab) (K := K) m (i + 1) f R2 (addB ((tab k).getD i 0) l) (tdO_kp (tdO_kp ht k1 (by decide) (by decide)) d2 (by decide) (by decide)) d3 (by omega) (by omega)
    refine ⟨R3, ?_, kps_tr k1 (kps_tr d2 i2), ?_⟩
    · refine g2.trans ?_
      rw [d1, Option.bind_some]
      exact i1
    · have e : (tab k).drop i = (tab k).getD i 0 :: (tab k).drop (i + 1) := by
        rw [gd_at hik]
        exact List.drop_eq_getElem_cons hik
      rw [e]
      exact i3
theorem Mo_glink {k : Nat} (hk : k < 14) {tab : Nat → List Nat} {R : oR} {l : List Nat} (ht : tdO R tab k) (hl : hold R l) (hn : l.length + 9 < 77) : ∃ R', f_Mo_gathersLink r (nI k) (bk_Mo σ r R) = some (bk_Mo σ r R') ∧ kps R R' [13] [12] ∧ hold R' (adds (tab k) l) := by
  have h9 := ht.2.1
  obtain ⟨f, hf⟩ := hp_fu ((tab k).length + 1) (by omega)
  have hf' : f + (tab k).length + 1 = hp_F := hf.symm
  obtain ⟨R', h1, h2, h3⟩ := Mo_gl (σ := σ) (r := r) hk (tab := tab) (K := fun z11 σ => some σ) (tab k).length 0 f R l ht hl (by omega) (by omega)
  rw [hf'] at h1
  rw [List.drop_zero] at h3
  refine ⟨R', ?_, h2, h3⟩
  unfold f_Mo_gathersLink
  rw [Mo_own]
  exact h1
theorem hrd_len {ab : Nat → Nat} {tab : Nat → List Nat} {x y n : Nat} (h : (tab (lnk ab n x)).length ≤ 9) : (hrd ab tab x y n).length ≤ 9 := by
  unfold hrd
  split
  · exact h
  · exact Nat.zero_le _
theorem lnk_lt {ab : Nat → Nat} {x y : Nat} (hx : x < 7) (hy : y < 7) : lnk ab x y < 14 := by
  unfold lnk
  split <;> omega
/-- all that the neighbours tell on -/
theorem Mo_ll1 {x y : Nat} {s : Nat → Int32} (hs : Wf s) (hx : x < nB s) (hy : y < nB s) {tab : Nat → List Nat} {K : Int32 → hp_H → Option hp_H} : ∀ (m n f : Nat) (R : oR) (l : List Nat), R.2 0 = s → tdA R tab → hold R l → l.length + 9 * m < 77 → n + m = nB s → ∃ R', f_Mo_laysLink_l1 r (nI x) (nI y) K (f + m + 1) (nI n) (bk_Mo σ r R) = K (nI (nB s)) (bk_Mo σ r R') ∧ kps R R' [13] [12] ∧ hold R' (adds (flF (hrd (abS s) tab x y) m n) l)
  | 0, n, f, R, l, h0, ht, hl, hn, hm => by
    have hB := hs.1.1
    have e2 : hp_aI (bk_Mo σ r R) (r + 1) 0 0 = some (R.2 0 0) := Mo_a0 (i := 0) (by decide)
    refine ⟨R, ?_, kps_rf, hl⟩
    rw [f_Mo_laysLink_l1, Mo_g0, Option.bind_some, e2, Option.bind_some, h0, hB.1, show n = nB s by omega, if_pos ((nI_leI (by omega) (by omega)).mpr (Nat.le_refl _))]
  | m + 1, n, f, R, l, h0, ht, hl, hn, hm => by
    have hB := hs.1.1
    have hWB : WfB (R.2 0) := by rw [h0]; exact hs.1
    have e2 : hp_aI (bk_Mo σ r R) (r + 1) 0 0 = some (R.2 0 0) := Mo_a0 (i := 0) (by decide)
    rw [f_Mo_laysLink_l1, Mo_g0, Option.bind_some, e2, Option.bind_some, h0, hB.1, if_neg (fun q => by have := (nI_leI (by omega) (by omega)).mp q; omega), nI_1]
    by_cases hc : n = y
    · rw [if_pos ((nI_eq (by omega) (by omega)).mpr hc)]
      obtain ⟨R3, i1, i2, i3⟩ := Mo_ll1 hs hx hy (tab := tab) (K := K) m (n + 1) f R l h0 ht hl (by omega) (by omega)
      refine ⟨R3, i1, i2, ?_⟩
      have e : hrd (abS s) tab x y n = [] := by
        unfold hrd
        rw [if_neg (fun q => q.1 hc)]
      rw [flF, e]
      exact i3
    · rw [if_neg (fun q => hc ((nI_eq (by omega) (by omega)).mp q)), Mo_nb hWB (by rw [h0]; omega) (by rw [h0]; exact hx), Option.bind_some, h0]
      by_cases hb : nbrb (abS s) n x = true
      · rw [if_pos hb, if_neg (by decide), Mo_lnk hWB (by rw [h0]; omega) (by rw [h0]; exact hx), Option.bind_some, h0]
        have hk : lnk (abS s) n x < 14 := lnk_lt (by omega) (by omega)
        have htk := ht _ hk
        obtain ⟨R2, d1, d2, d3⟩ := Mo_glink (σ := σ) (r := r) hk htk hl (by omega)
        rw [d1, Option.bind_some]
        have hlen : (adds (tab (lnk (abS s) n x)) l).length ≤ l.length + 9 := by
          have hq : ∀ (xs l : List Nat), (adds xs l).length ≤ l.length + xs.length := by
            intro xs
            induction xs with
            | nil => intro l; exact Nat.le_refl _
            | cons a xs ih =>
              intro l
              have h1 := ih (addB a l)
              have h2 := addB_len a l
              show (adds xs (addB a l)).length ≤ l.length + (xs.length + 1)
              omega
          have := hq (tab (lnk (abS s) n x)) l
          have := htk.2.1
          omega
        obtain ⟨R3, i1, i2, i3⟩ := Mo_ll1 hs hx hy (tab := tab) (K := K) m (n + 1) f R2 _ (by rw [d2.2 0 (by decide), h0]) (tdA_kp ht d2 (by decide) (by decide)) d3 (by omega) (by omega)
        refine ⟨R3, i1, kps_tr d2 i2, ?_⟩
        have e : hrd (abS s) tab x y n = tab (lnk (abS s) n x) := by
          unfold hrd
          rw [if_pos ⟨hc, hb⟩]
        rw [flF, e, adds_app]
        exact i3
      · rw [if_neg hb, if_pos rfl]
        obtain ⟨R3, i1, i2, i3⟩ := Mo_ll1 hs hx hy (tab := tab) (K := K) m (n + 1) f R l h0 ht hl (by omega) (by omega)
        refine ⟨R3, i1, i2, ?_⟩
        have e : hrd (abS s) tab x y n = [] := by
          unfold hrd
          rw [if_neg (fun q => hb q.2)]
        rw [flF, e]
        exact i3
/-- as many as may be told -/
theorem Mo_ll2 {x y : Int32} {s : Nat → Int32} (hs : Wf s) {K : hp_H → Option hp_H} : ∀ (k f : Nat) (R : oR) (l : List Nat), R.2 0 = s → hold R l → AC l → l.length < 77 → l.length ≤ k + nM s → ∃ R', f_Mo_laysLink_l2 r x y K (f + k + 1) (bk_Mo σ r R) = K (bk_Mo σ r R') ∧ kps R R' [13] [12, 14] ∧ hold R' (redu (nM s) k l)
  | k, f, R, l, h0, hl, ha, hn, hk => by
    have hM := hs.2.2.2
    have hM2 := hM.2.1
    have hM3 := hM.2.2
    have e3 : hp_aI (bk_Mo σ r R) (r + 1) 0 3 = some (R.2 0 3) := Mo_a0 (i := 3) (by decide)
    by_cases hc : l.length ≤ nM s
    · refine ⟨R, ?_, kps_rf, ?_⟩
      · rw [f_Mo_laysLink_l2, Mo_g13, Option.bind_some, Mo_g0, Option.bind_some, e3, Option.bind_some, h0, hM.1, hl.1, if_pos ((nI_leI (by omega) (by omega)).mpr hc)]
      · have : redu (nM s) k l = l := by
          cases k with
          | zero => rfl
          | succ k => rw [redu, if_neg (by omega)]
        rw [this]
        exact hl
    · cases k with
      | zero => omega
      | succ k =>
        have h2 : 2 ≤ l.length := by omega
        obtain ⟨R2, j1, j2, j3, j4⟩ := Mo_joins (σ := σ) (r := r) hl.2.2 hn h2 hl.1 hl.2.1
        have hlt := join_len ha h2
        obtain ⟨R3, i1, i2, i3⟩ := Mo_ll2 (x := x) (y := y) hs (K := K) k f R2 (addB (bestJ l) l) (by rw [j2.2 0 (by decide), h0]) ⟨j3, j4, addB_vb (bestJ_vb hl.2.2 h2) hl.2.2⟩ (addB_ac ha) (by omega) (by omega)
        refine ⟨R3, ?_, kps_tr j2 i2, ?_⟩
        · rw [f_Mo_laysLink_l2, Mo_g13, Option.bind_some, Mo_g0, Option.bind_some, e3, Option.bind_some, h0, hM.1, hl.1, if_neg (fun q => hc ((nI_leI (by omega) (by omega)).mp q)), j1, Option.bind_some]
          exact i1
        · rw [redu, if_pos (by omega)]
          exact i3
/-- the boxes are laid down -/
theorem Mo_ll3 {k N : Nat} {R : oR} (hk : k < 14) (hN : N ≤ 9) (h13 : R.1 13 = nI N) {K : Int32 → hp_H → Option hp_H} {A : Nat → Int32} : ∀ (m t f : Nat), t + m = 6 * N → f_Mo_laysLink_l3 r (nI k) K (f + m + 1) (nI t) (bk_Mo σ r (sA R 10 (wr A (54 * k) t (R.2 12)))) = K (nI (6 * N)) (bk_Mo σ r (sA R 10 (wr A (54 * k) (6 * N) (R.2 12))))
  | 0, t, f, h => by
    rw [show t = 6 * N by omega, f_Mo_laysLink_l3, Mo_g13, Option.bind_some, sA_1, h13, il_6, pk_mul, if_pos ((nI_leI (by omega) (by omega)).mpr (Nat.le_refl _))]
  | m + 1, t, f, h => by
    rw [f_Mo_laysLink_l3, Mo_g13, Option.bind_some, sA_1, h13, il_6, pk_mul, if_neg (fun q => by have := (nI_leI (by omega) (by omega)).mp q; omega), Mo_g10, Option.bind_some, Mo_g12, Option.bind_some, Mo_a12 (by omega), Option.bind_some, sA_ne (by decide), il_54, pk_mul, nI_add, Mo_s10 (by omega), Option.bind_some, nI_1]
    have e : (((sA R 10 (wr A (54 * k) t (R.2 12))).1, up2 (sA R 10 (wr A (54 * k) t (R.2 12))).2 10 (54 * k + t) (R.2 12 t)) : oR) = sA R 10 (wr A (54 * k) (t + 1) (R.2 12)) := by
      show sA (sA R 10 (wr A (54 * k) t (R.2 12))) 10 (upd ((sA R 10 (wr A (54 * k) t (R.2 12))).2 10) (54 * k + t) (R.2 12 t)) = _
      rw [sA_A, sA_at, wr_s]
    rw [e]
    exact Mo_ll3 hk hN h13 m (t + 1) f (by omega)
theorem adds_len : ∀ (xs l : List Nat), (adds xs l).length ≤ l.length + xs.length
  | [], _ => Nat.le_refl _
  | a :: xs, l => by
    have h1 := adds_len xs (addB a l)
    have h2 := addB_len a l
    show (adds xs (addB a l)).length ≤ l.length + (xs.length + 1)
    omega
/-- a link is laid -/
theorem Mo_laysLink {x y : Nat} {s : Nat → Int32} (hs : Wf s) (hx : x < nB s) (hy : y < nB s) {tab : Nat → List Nat} {R : oR} (h0 : R.2 0 = s) (ht : tdA R tab) (hi : (inps (nB s) (abS s) (wlS s) tab x y).length ≤ 12) (hv : VB (inps (nB s) (abS s) (wlS s) tab x y)) : ∃ R', f_Mo_laysLink r (nI x) (nI y) (bk_Mo σ r R) = some (bk_Mo σ r R') ∧ kps R R' [13] [9, 10, 12, 14] ∧ tdA R' (lay (nB s) (nM s) (abS s) (wlS s) tab x y) := by
  obtain ⟨hB, hC, hW, hM⟩ := id hs
  have hB7 := hB.1.2.2
  have hW12 := hW.1.2
  have hM1 := hM.2.1
  have hM9 := hM.2.2
  have hWB : WfB (R.2 0) := by rw [h0]; exact hB
  unfold f_Mo_laysLink
  rw [Mo_own, Mo_p13, Option.bind_some]
  have l0 : hold (upd R.1 13 0, R.2) ([] : List Nat) := ⟨(show upd R.1 13 0 13 = (0 : Int32) from pk_us), fun i hi => by simp at hi, VB_nil⟩
  have kp0 : kps R (upd R.1 13 0, R.2) [13] [9, 10, 12, 14] := ⟨fun j hj => if_neg (fun e => hj (by rw [e]; decide)), fun _ _ => rfl⟩
  generalize hR0 : ((upd R.1 13 0, R.2) : oR) = R0 at l0 kp0
  have h00 : R0.2 0 = s := by rw [kp0.2 0 (by decide), h0]
  have ht0 : tdA R0 tab := by rw [← hR0]; exact ht
  obtain ⟨f1, hf1⟩ := hp_fu (nW s + 1) (by omega)
  have hf1' : f1 + nW s + 1 = hp_F := hf1.symm
  obtain ⟨R1, a1, a2, a3⟩ := Mo_gw (σ := σ) (r := r) (b := x) (by omega) hs (K := fun z16 σ => some σ) (nW s) 0 f1 R0 [] h00 l0 (by simp; omega) (by omega)
  rw [hf1'] at a1
  have a1' : f_Mo_gathersWishes r (nI x) (bk_Mo σ r R0) = some (bk_Mo σ r R1) := by
    unfold f_Mo_gathersWishes
    rw [Mo_own]
    exact a1
  rw [a1', Option.bind_some]
  have h01 : R1.2 0 = s := by rw [a2.2 0 (by decide), h00]
  have ht1 := tdA_kp ht0 a2 (by decide) (by decide)
  have hl1 := adds_len (wlF s x (nW s) 0) []
  have hl2 := wlF_len (s := s) (b := x) (nW s) 0
  simp only [List.length_nil, Nat.zero_add] at hl1
  obtain ⟨f2, hf2⟩ := hp_fu (nB s + 1) (by omega)
  have hf2' : f2 + nB s + 1 = hp_F := hf2.symm
  obtain ⟨f3, hf3⟩ := hp_fu 13 (by decide)
  have hf3' : f3 + 12 + 1 = hp_F := hf3.symm
  generalize hK : (fun z12 σ => f_Mo_laysLink_l2 r (nI x) (nI y) (fun σ => (f_Mo_linkOf r (nI x) (nI y) σ).bind fun v19 => (hp_gR σ r 10 9).bind fun q20 => (hp_gI σ r 10 13).bind fun v21 => (hp_sI σ q20 0 v19 v21).bind fun σ => f_Mo_laysLink_l3 r v19 (fun z27 σ => some σ) hp_F 0 σ) hp_F σ : Int32 → hp_H → Option hp_H) = K
  obtain ⟨R2, b1, b2, b3⟩ := Mo_ll1 (σ := σ) (r := r) hs hx hy (tab := tab) (K := K) (nB s) 0 f2 R1 _ h01 ht1 a3 (by omega) (by omega)
  rw [hf2'] at b1
  have einp : adds (flF (hrd (abS s) tab x y) (nB s) 0) (adds (wlF s x (nW s) 0) []) = adds (inps (nB s) (abS s) (wlS s) tab x y) [] := by
    unfold inps
    rw [adds_app, flF_range]
    rfl
  rw [einp] at b3
  generalize hL : adds (inps (nB s) (abS s) (wlS s) tab x y) [] = L at b3
  obtain ⟨c1, c2, c3⟩ := adds_ok (inps (nB s) (abS s) (wlS s) tab x y) [] List.Pairwise.nil VB_nil hv
  rw [hL] at c1 c2 c3
  simp only [List.length_nil, Nat.zero_add] at c3
  have h02 : R2.2 0 = s := by rw [b2.2 0 (by decide), h01]
  have ht2 := tdA_kp ht1 b2 (by decide) (by decide)
  obtain ⟨R3, e1, e2, e3⟩ := Mo_ll2 (σ := σ) (r := r) (x := nI x) (y := nI y) hs (K := fun σ => (f_Mo_linkOf r (nI x) (nI y) σ).bind fun v19 => (hp_gR σ r 10 9).bind fun q20 => (hp_gI σ r 10 13).bind fun v21 => (hp_sI σ q20 0 v19 v21).bind fun σ => f_Mo_laysLink_l3 r v19 (fun z27 σ => some σ) hp_F 0 σ) 12 f3 R2 L h02 b3 c1 (by omega) (by omega)
  rw [hf3'] at e1
  have h03 : R3.2 0 = s := by rw [e2.2 0 (by decide), h02]
  have ht3 := tdA_kp ht2 e2 (by decide) (by decide)
  obtain ⟨r1, r2, r3, r4⟩ := redu_ok (nM s) hM1 12 L c1 c2 (by omega)
  have hgt : redu (nM s) 12 L = gth (nB s) (nM s) (abS s) (wlS s) tab x y := by unfold gth; rw [hL]
  rw [hgt] at e3 r1 r2 r3
  generalize hG : gth (nB s) (nM s) (abS s) (wlS s) tab x y = g at e3 r1 r2 r3
  have hk : lnk (abS s) x y < 14 := lnk_lt (by omega) (by omega)
  have hWB3 : WfB (R3.2 0) := by rw [h03]; exact hB
  have elk := Mo_lnk (σ := σ) (r := r) (R := R3) hWB3 (by rw [h03]; exact hx) (by rw [h03]; exact hy)
  rw [h03] at elk
  generalize hkk : lnk (abS s) x y = k at hk elk
  obtain ⟨f4, hf4⟩ := hp_fu (6 * g.length + 1) (by omega)
  have hf4' : f4 + 6 * g.length + 1 = hp_F := hf4.symm
  generalize hR4 : sA R3 9 (upd (R3.2 9) k (nI g.length)) = R4
  have h134 : R4.1 13 = nI g.length := by rw [← hR4]; exact e3.1
  have i1 := Mo_ll3 (σ := σ) (r := r) (R := R4) (k := k) (N := g.length) hk (by omega) h134 (K := fun z27 σ => some σ) (A := R4.2 10) (6 * g.length) 0 f4 (by omega)
  rw [wr_0, sA_self, hf4'] at i1
  refine ⟨sA R4 10 (wr (R4.2 10) (54 * k) (6 * g.length) (R4.2 12)), ?_, ?_, ?_⟩
  · refine b1.trans ?_
    rw [← hK]
    refine e1.trans ?_
    rw [elk, Option.bind_some, Mo_g9, Option.bind_some, Mo_g13, Option.bind_some, e3.1, Mo_s9 hk, Option.bind_some]
    have e5 : ((R3.1, up2 R3.2 9 k (nI g.length)) : oR) = R4 := hR4
    rw [e5]
    exact i1
  · have k4 : kps R3 R4 [13] [9, 10, 12, 14] := by rw [← hR4]; exact kps_A (by decide)
    have m1 : kps R0 R1 [13] [9, 10, 12, 14] := kps_mono a2 (fun _ h => h) (fun j h => by rw [List.mem_singleton.mp h]; decide)
    have m2 : kps R1 R2 [13] [9, 10, 12, 14] := kps_mono b2 (fun _ h => h) (fun j h => by rw [List.mem_singleton.mp h]; decide)
    have m3 : kps R2 R3 [13] [9, 10, 12, 14] := kps_mono e2 (fun _ h => h) (fun j h => by simp only [List.mem_cons, List.not_mem_nil, or_false] at h; rcases h with rfl | rfl <;> decide)
    exact kps_tr kp0 (kps_tr m1 (kps_tr m2 (kps_tr m3 (kps_tr k4 (kps_A (by decide))))))
  · intro j hj
    have e12 : R4.2 12 = R3.2 12 := by rw [← hR4]; exact sA_ne (by decide)
    have e10 : R4.2 10 = R3.2 10 := by rw [← hR4]; exact sA_ne (by decide)
    have e9 : R4.2 9 = upd (R3.2 9) k (nI g.length) := by rw [← hR4]; exact sA_at
    unfold tdO
    rw [sA_at, sA_ne (by decide), e9, e12, e10]
    by_cases hjk : j = k
    · subst hjk
      have el : lay (nB s) (nM s) (abS s) (wlS s) tab x y j = g := by
        rw [← hkk, lay_at, hG]
      rw [el]
      refine ⟨if_pos rfl, by omega, r2, fun i hi2 t ht => ?_⟩
      have hw : wr (R3.2 10) (54 * j) (6 * g.length) (R3.2 12) (54 * j + (6 * i + t)) = R3.2 12 (6 * i + t) := wr_in (by omega)
      rw [show 54 * j + 6 * i + t = 54 * j + (6 * i + t) by omega, hw]
      exact e3.2.1 i hi2 t ht
    · have el : lay (nB s) (nM s) (abS s) (wlS s) tab x y j = tab j := lay_ne (by rw [hkk]; exact hjk)
      rw [el]
      obtain ⟨q1, q2, q3, q4⟩ := ht3 j hj
      refine ⟨?_, q2, q3, fun i hi2 t ht => ?_⟩
      · rw [pk_un hjk]
        exact q1
      · rw [wr_out (by omega)]
        exact q4 i hi2 t ht
end MO7
