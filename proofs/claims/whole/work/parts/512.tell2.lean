/-! ===== the class: a list is gathered, all are ===== -/
section GT2
variable {t st : Nat} {fr : Int32} {tab : Nat → List Nat} {s : Nat → Int32}
theorem T_g2l (wf : Wf s) (hd : t + 31 ≤ st ∨ st + 23 ≤ t) {x y : Nat} (hx : x < nB s) (hy : y < nB s) (hxy : nbr (abS s) x y) {K : Int32 → hp_H → Option hp_H} : ∀ (m n f : Nat) (H : hp_H) (l : List Nat), n + m = nB s → TeI H t fr (setT tab (lnk (abS s) x y) l) → StI H st s → l.length + (flF (hrd (abS s) tab x y) m n).length ≤ 12 → ∃ H', f_Tellings_gather_l2 t st (nI x) (nI y) (t + 3 + 2 * lnk (abS s) x y) K (f + m + 1) (nI n) H = K (nI (nB s)) H' ∧ TeI H' t fr (setT tab (lnk (abS s) x y) (adds (flF (hrd (abS s) tab x y) m n) l)) ∧ same H H' t 31
  | 0, n, f, H, l, e, hT, hS, hl => by
    have hB7 := wf.1.1.2.2
    refine ⟨H, ?_, hT, same_rf⟩
    rw [f_Tellings_gather_l2, S_f hS (by decide), Option.bind_some, wf.1.1.1, show n = nB s by omega, if_pos ((nI_leI (by omega) (by omega)).mpr (Nat.le_refl _))]
  | m + 1, n, f, H, l, e, hT, hS, hl => by
    have hB7 := wf.1.1.2.2
    have hk0 : lnk (abS s) x y < 14 := lnk_lt (by omega) (by omega)
    rw [f_Tellings_gather_l2, S_f hS (by decide), Option.bind_some, wf.1.1.1, if_neg (fun q => by have := (nI_leI (by omega) (by omega)).mp q; omega), nI_1]
    rw [flF] at hl ⊢
    by_cases hc : n = y
    · have e0 : hrd (abS s) tab x y n = [] := by
        unfold hrd
        rw [if_neg (fun q => q.1 hc)]
      rw [if_pos ((nI_eq (by omega) (by omega)).mpr hc)]
      rw [e0] at hl ⊢
      exact T_g2l wf hd hx hy hxy m (n + 1) f H l (by omega) hT hS hl
    · rw [if_neg (fun q => hc ((nI_eq (by omega) (by omega)).mp q)), S_nb hS wf (by omega) hx, Option.bind_some]
      by_cases hb : nbrb (abS s) n x = true
      · have e0 : hrd (abS s) tab x y n = tab (lnk (abS s) n x) := by
          unfold hrd
          rw [if_pos ⟨hc, hb⟩]
        have hk : lnk (abS s) n x < 14 := lnk_lt (by omega) (by omega)
        have hne := lnk_ne wf.1.tree (show n < nB s by omega) hx hy hxy (nbrb_iff.mp hb) hc
        rw [if_pos hb, if_neg (by decide), T_btw hT hS wf (by omega) hx, Option.bind_some]
        rw [e0] at hl ⊢
        rw [List.length_append] at hl
        have h12 := (T_cnt hT hk).2.2.2.1
        rw [setT_ne hne] at h12
        obtain ⟨f3, hf3⟩ := hp_fu ((tab (lnk (abS s) n x)).length + 1) (by omega)
        have hf3' : f3 + (tab (lnk (abS s) n x)).length + 1 = hp_F := hf3.symm
        obtain ⟨H1, a1, a2, a3⟩ := T_g3l (st := st) (x := nI x) (y := nI y) (n := nI n) hk hk0 hne (K := fun z29 σ => f_Tellings_gather_l2 t st (nI x) (nI y) (t + 3 + 2 * lnk (abS s) x y) K (f + (m + 1)) (nI (n + 1)) σ) (tab (lnk (abS s) n x)).length 0 f3 H l (by omega) hT (by omega)
        rw [hf3', List.drop_zero] at *
        have hal := adds_len (tab (lnk (abS s) n x)) l
        obtain ⟨H2, b1, b2, b3⟩ := T_g2l wf hd hx hy hxy (K := K) m (n + 1) f H1 _ (by omega) a2 (StI_same hS a3 (by omega)) (by omega)
        refine ⟨H2, ?_, by rw [adds_app]; exact b2, same_tr a3 b3⟩
        refine (show _ = _ from a1).trans ?_
        exact b1
      · have e0 : hrd (abS s) tab x y n = [] := by
          unfold hrd
          rw [if_neg (fun q => hb q.2)]
        rw [if_neg hb, if_pos rfl]
        rw [e0] at hl ⊢
        exact T_g2l wf hd hx hy hxy m (n + 1) f H l (by omega) hT hS hl
theorem T_g4l (wf : Wf s) (hd : t + 31 ≤ st ∨ st + 23 ≤ t) {k0 : Nat} (hk0 : k0 < 14) {K : hp_H → Option hp_H} : ∀ (m i f : Nat) (H : hp_H) (l : List Nat), i + m = 12 → TeI H t fr (setT tab k0 l) → StI H st s → AC l → ∃ H', f_Tellings_gather_l4 st (t + 3 + 2 * k0) (fun _ σ => K σ) (f + m + 1) (nI i) H = K H' ∧ TeI H' t fr (setT tab k0 (redu (nM s) m l)) ∧ same H H' t 31
  | 0, i, f, H, l, e, hT, hS, ha => by
    refine ⟨H, ?_, hT, same_rf⟩
    rw [f_Tellings_gather_l4, show i = 12 by omega, if_pos (by decide)]
  | m + 1, i, f, H, l, e, hT, hS, ha => by
    have hM := wf.2.2.2
    have hM1 := hM.2.1
    have hM9 := hM.2.2
    obtain ⟨c1, c2, c3, c4, c5⟩ := T_cnt hT hk0
    rw [setT_at] at c1 c3 c4 c5
    rw [f_Tellings_gather_l4, if_neg (fun q => by have := (nI_leI (a := 12) (by omega) (by omega)).mp q; omega), c1, Option.bind_some, S_f hS (by decide), Option.bind_some, hM.1, redu]
    by_cases hc : nM s < l.length
    · rw [if_pos hc, if_neg (fun q => by have := (nI_leI (by omega) (by omega)).mp q; omega)]
      obtain ⟨R, g1, g2⟩ := hT.2 k0 hk0
      rw [setT_at] at g2
      have h2 : 2 ≤ l.length := by omega
      have qj := BL_chj (σ := H) (a := t + 3 + 2 * k0) g2 h2
      rw [BoxList_eq g1] at qj
      obtain ⟨-, p1, p2⟩ := bestP_ok h2
      have hcj := cov_jn (l.getD (bestP l).2.1 0) (l.getD (bestP l).2.2 0)
      have hft := filt_two l (fun y => !cov (bestJ l) y) _ _ p1 p2 (by simp only [Bool.not_eq_false']; exact hcj.1) (by simp only [Bool.not_eq_false']; exact hcj.2)
      obtain ⟨H1, a1, a2, a3⟩ := T_add hT hk0 (bestJ_vb c5 h2) (by omega)
      obtain ⟨H2, b1, b2, b3⟩ := T_g4l wf hd hk0 (K := K) m (i + 1) f H1 _ (by omega) a2 (StI_same hS a3 (by omega)) (addB_ac ha)
      refine ⟨H2, ?_, b2, same_tr a3 b3⟩
      rw [qj, Option.bind_some, a1, Option.bind_some, nI_1]
      exact b1
    · rw [if_neg hc, if_pos ((nI_leI (by omega) (by omega)).mpr (by omega))]
      exact ⟨H, rfl, hT, same_rf⟩
theorem T_gat {H : hp_H} (wf : Wf s) (hd : t + 31 ≤ st ∨ st + 23 ≤ t) {x y : Nat} (hx : x < nB s) (hy : y < nB s) (hxy : nbr (abS s) x y) (hT : TeI H t fr tab) (hS : StI H st s) (hv : VB (inps (nB s) (abS s) (wlS s) tab x y)) (hl : (inps (nB s) (abS s) (wlS s) tab x y).length ≤ 12) : ∃ H', f_Tellings_gather t st (nI x) (nI y) H = some H' ∧ TeI H' t fr (lay (nB s) (nM s) (abS s) (wlS s) tab x y) ∧ same H H' t 31 := by
  have hB7 := wf.1.1.2.2
  have hC6 := wf.2.1.1.2
  have hW := wf.2.2.1.1.2
  have hk0 : lnk (abS s) x y < 14 := lnk_lt (by omega) (by omega)
  obtain ⟨R, g1, g2⟩ := hT.2 _ hk0
  have qp := BoxList_p1 (σ := H) (a := t + 3 + 2 * lnk (abS s) x y) (R := R) (x := 0)
  rw [BoxList_eq g1] at qp
  have hb0 : blI ((upd R.1 1 0, R.2) : oR) [] := ⟨show upd R.1 1 0 1 = nI 0 from upd_at, fun i hi => by simp at hi, by decide, VB_nil⟩
  obtain ⟨m1, m2⟩ := TeI_set hT hk0 hb0
  generalize bk_BoxList H (t + 3 + 2 * lnk (abS s) x y) (upd R.1 1 0, R.2) = H1 at qp m1 m2
  have hS1 := StI_same hS m2 (by omega)
  generalize hP : mkN (fun v => decide (s (16 + 25 * v) = nI x)) (nC s) 0 0 = P
  have hP6 : P < 2 ^ 6 := by
    rw [← hP]
    exact Nat.lt_of_lt_of_le mkN_lt (Nat.pow_le_pow_right (by decide) (by omega))
  have e1 : f_State_clientsHomeAt st (nI x) H1 = some (nI P) := by rw [S_cha hS1 wf, mkI_0 (by omega), hP]
  generalize hQ : mkN (fun w => P.testBit (ownr s w)) (nW s) 0 0 = Q
  have hQ12 : Q < 2 ^ 12 := by
    rw [← hQ]
    exact Nat.lt_of_lt_of_le mkN_lt (Nat.pow_le_pow_right (by decide) (by omega))
  have e2 : f_State_wishesOf st (nI P) H1 = some (nI Q) := by rw [S_wof hS1 wf (by omega), mkI_0 (by omega), hQ]
  have hbit : ∀ w, w < nW s → (Q.testBit w = true ↔ home s (ownr s w) = x) := fun w hw => by
    obtain ⟨⟨o1, o2⟩, -, -⟩ := wf.2.2.1.2 w hw
    obtain ⟨⟨c1, c2⟩, -, -⟩ := wf.2.1.2 _ o2
    rw [← hQ, mkN_0, ← hP, mkN_0, c1]
    constructor
    · rintro ⟨-, -, q⟩
      exact (nI_eq (by omega) (by omega)).mp (of_decide_eq_true q)
    · intro q
      exact ⟨hw, o2, decide_eq_true (by rw [q])⟩
  have hin : inps (nB s) (abS s) (wlS s) tab x y = wlF s x (nW s) 0 ++ flF (hrd (abS s) tab x y) (nB s) 0 := by
    unfold inps
    rw [flF_range]
    rfl
  rw [hin] at hl hv
  rw [List.length_append] at hl
  obtain ⟨f1, hf1⟩ := hp_fu (nW s + 1) (by omega)
  have hf1' : f1 + nW s + 1 = hp_F := hf1.symm
  obtain ⟨f2, hf2⟩ := hp_fu (nB s + 1) (by omega)
  have hf2' : f2 + nB s + 1 = hp_F := hf2.symm
  obtain ⟨f4, hf4⟩ := hp_fu 13 (by omega)
  have hf4' : f4 + 12 + 1 = hp_F := hf4.symm
  obtain ⟨H2, a1, a2, a3⟩ := T_g1l wf hd (x := x) (y := nI x) (z := nI y) hk0 (show Q < 2 ^ 31 by omega) hbit (K := fun z15 σ => f_Tellings_gather_l2 t st (nI x) (nI y) (t + 3 + 2 * lnk (abS s) x y) (fun z30 σ => f_Tellings_gather_l4 st (t + 3 + 2 * lnk (abS s) x y) (fun z38 σ => some σ) hp_F 0 σ) hp_F 0 σ) (nW s) 0 f1 H1 [] (by omega) m1 hS1 (by show 0 + _ ≤ 12; omega)
  rw [hf1'] at a1
  have hS2 := StI_same hS1 a3 (by omega)
  have hal := adds_len (wlF s x (nW s) 0) []
  have h0 : ([] : List Nat).length = 0 := rfl
  obtain ⟨H3, b1, b2, b3⟩ := T_g2l wf hd hx hy hxy (K := fun z30 σ => f_Tellings_gather_l4 st (t + 3 + 2 * lnk (abS s) x y) (fun z38 σ => some σ) hp_F 0 σ) (nB s) 0 f2 H2 _ (by omega) a2 hS2 (by omega)
  rw [hf2'] at b1
  rw [← adds_app, ← hin] at b2
  rw [← hin] at hv
  have hS3 := StI_same hS2 b3 (by omega)
  have hac := (adds_ok (inps (nB s) (abS s) (wlS s) tab x y) [] List.Pairwise.nil VB_nil hv).1
  obtain ⟨H4, c1, c2, c3⟩ := T_g4l wf hd hk0 (K := fun σ => some σ) 12 0 f4 H3 _ (by decide) b2 hS3 hac
  rw [hf4'] at c1
  refine ⟨H4, ?_, c2, same_tr m2 (same_tr a3 (same_tr b3 c3))⟩
  unfold f_Tellings_gather
  rw [T_own hT, T_btw hT hS wf hx hy, Option.bind_some, qp, Option.bind_some, e1, Option.bind_some, e2, Option.bind_some]
  refine (show _ = _ from a1).trans ?_
  refine (show _ = _ from b1).trans ?_
  exact c1
end GT2
section RFR
variable {t st : Nat} {s : Nat → Int32}
theorem T_up (wf : Wf s) (hd : t + 31 ≤ st ∨ st + 23 ≤ t) {fr : Int32} {K : Int32 → hp_H → Option hp_H} : ∀ (b f : Nat) (H : hp_H) (tab : Nat → List Nat), b < nB s → TeI H t fr tab → StI H st s → upI (nB s) (nM s) (abS s) (wlS s) b tab → ∃ H', f_Tellings_refresh_l1 t st K (f + b + 1) (nI b) H = K (nI 0) H' ∧ TeI H' t fr (upP (nB s) (nM s) (abS s) (wlS s) b tab) ∧ same H H' t 31
  | 0, f, H, tab, hb, ht, hS, hI => ⟨H, by rw [f_Tellings_refresh_l1, if_pos (by decide)], ht, same_rf⟩
  | b + 1, f, H, tab, hb, ht, hS, hI => by
    have hB7 := wf.1.1.2.2
    have hB1 := wf.1.1.2.1
    obtain ⟨q1, q2⟩ := wf.1.2.2 (b + 1) (by omega) hb
    obtain ⟨i1, i2⟩ := up_inps wf.1.tree (wlS_vb wf) (by omega) hb hI
    have i3 := WU_le (wl := wlS s) wf.1.tree (by omega) (nB s) (b + 1) (by omega) hb
    have i4 := tot12 wf
    obtain ⟨H1, l1, l2, l3⟩ := T_gat wf hd (x := b + 1) (y := abS s (b + 1)) hb (by omega) (Or.inl ⟨by omega, rfl⟩) ht hS i1 (by omega)
    obtain ⟨H2, m1, m2, m3⟩ := T_up wf hd (K := K) b f H1 _ (by omega) l2 (StI_same hS l3 (by omega)) (up_step wf.1.tree (by omega) wf.2.2.2.2.1 (wlS_vb wf) i4 hb hI)
    refine ⟨H2, ?_, m2, same_tr l3 m3⟩
    rw [f_Tellings_refresh_l1, if_neg (fun q => by have := (nI_leI (b := 0) (by omega) (by omega)).mp q; omega), S_r7 hS, Option.bind_some, S_ab hS wf hb, Option.bind_some, q1, l1, Option.bind_some, pk_m1]
    exact m1
theorem T_dn (wf : Wf s) (hd : t + 31 ≤ st ∨ st + 23 ≤ t) {fr : Int32} {K : Int32 → hp_H → Option hp_H} : ∀ (c b f : Nat) (H : hp_H) (tab : Nat → List Nat), 0 < b → b + c = nB s → TeI H t fr tab → StI H st s → dnI (nB s) (nM s) (abS s) (wlS s) b tab → ∃ H', f_Tellings_refresh_l2 t st K (f + c + 1) (nI b) H = K (nI (nB s)) H' ∧ TeI H' t fr (dnP (nB s) (nM s) (abS s) (wlS s) c b tab) ∧ same H H' t 31
  | 0, b, f, H, tab, hb, hc, ht, hS, hI => by
    have hB7 := wf.1.1.2.2
    refine ⟨H, ?_, ht, same_rf⟩
    rw [f_Tellings_refresh_l2, S_f hS (by decide), Option.bind_some, wf.1.1.1, show b = nB s by omega, if_pos ((nI_leI (by omega) (by omega)).mpr (Nat.le_refl _))]
  | c + 1, b, f, H, tab, hb, hc, ht, hS, hI => by
    have hB7 := wf.1.1.2.2
    have hB1 := wf.1.1.2.1
    have hbB : b < nB s := by omega
    obtain ⟨q1, q2⟩ := wf.1.2.2 b (by omega) hbB
    obtain ⟨i1, i2⟩ := dn_inps wf.1.tree (by omega) (wlS_vb wf) (by omega) hbB hI
    have i4 := tot12 wf
    obtain ⟨H1, l1, l2, l3⟩ := T_gat wf hd (x := abS s b) (y := b) (by omega) hbB (Or.inr ⟨by omega, rfl⟩) ht hS i1 (by omega)
    obtain ⟨H2, m1, m2, m3⟩ := T_dn wf hd (K := K) c (b + 1) f H1 _ (by omega) (by omega) l2 (StI_same hS l3 (by omega)) (dn_step wf.1.tree (by omega) wf.2.2.2.2.1 (wlS_vb wf) i4 hb hbB hI)
    refine ⟨H2, ?_, m2, same_tr l3 m3⟩
    rw [f_Tellings_refresh_l2, S_f hS (by decide), Option.bind_some, wf.1.1.1, if_neg (fun q => by have := (nI_leI (by omega) (by omega)).mp q; omega), S_r7 hS, Option.bind_some, S_ab hS wf hbB, Option.bind_some, q1, l1, Option.bind_some, nI_1]
    exact m1
/-- the class's lists: if fresh, those that are due -/
def TeOK (H : hp_H) (t : Nat) (s : Nat → Int32) : Prop := ∃ fr tab, TeI H t fr tab ∧ (fr = 0 ∨ fr = 1) ∧ (fr = 1 → agr s tab)
theorem T_ref {H : hp_H} (wf : Wf s) (hd : t + 31 ≤ st ∨ st + 23 ≤ t) (hT : TeOK H t s) (hS : StI H st s) : ∃ H' tab, f_Tellings_refresh t st H = some H' ∧ TeI H' t 1 tab ∧ agr s tab ∧ same H H' t 31 := by
  obtain ⟨fr, tab, ht, h01, hag⟩ := hT
  have hB7 := wf.1.1.2.2
  have hB1 := wf.1.1.2.1
  unfold f_Tellings_refresh
  rw [T_own ht, (T_g0 ht).2.2, Option.bind_some]
  rcases h01 with h | h
  · obtain ⟨p, hp⟩ : ∃ p, nB s = p + 1 := ⟨nB s - 1, by omega⟩
    rw [if_pos h, S_f hS (by decide), Option.bind_some, wf.1.1.1, hp, nI_pred]
    obtain ⟨f1, hf1⟩ := hp_fu (p + 1) (by omega)
    have hf1' : f1 + p + 1 = hp_F := hf1.symm
    obtain ⟨f2, hf2⟩ := hp_fu (p + 1) (by omega)
    have hf2' : f2 + p + 1 = hp_F := hf2.symm
    have u0 : upI (nB s) (nM s) (abS s) (wlS s) p tab := fun n k1 k2 => by omega
    obtain ⟨H1, a1, a2, a3⟩ := T_up wf hd (K := fun z8 σ => f_Tellings_refresh_l2 t st (fun z14 σ => (hp_pZ σ t 8 2 1).bind fun σ => some σ) hp_F 1 σ) p f1 H tab (by omega) ht hS u0
    rw [hf1'] at a1
    have u1 := up_all wf.1.tree (by omega) wf.2.2.2.2.1 (wlS_vb wf) (tot12 wf) p tab (by omega) u0
    obtain ⟨H2, b1, b2, b3⟩ := T_dn wf hd (K := fun z14 σ => (hp_pZ σ t 8 2 1).bind fun σ => some σ) p 1 f2 H1 _ (by omega) (by omega) a2 (StI_same hS a3 (by omega)) ⟨u1, fun n k1 k2 => by omega⟩
    rw [hf2'] at b1
    obtain ⟨⟨R, r1, r2⟩, r3⟩ := id b2
    have w := Te_p2 (σ := H2) (a := t) (R := R) (x := 1) (Or.inr rfl)
    rw [Te_eq r1] at w
    refine ⟨bk_Te H2 t (sF R 2 1), dnP (nB s) (nM s) (abS s) (wlS s) p 1 (upP (nB s) (nM s) (abS s) (wlS s) p tab), ?_, ⟨⟨_, hs_bW, sF_at⟩, fun k hk => BlI_same (r3 k hk) same_bW (by omega)⟩, ?_, same_tr a3 (same_tr b3 (same_mono same_bW (Nat.le_refl _) (by omega)))⟩
    · refine (show _ = _ from a1).trans ?_
      refine (show _ = _ from b1).trans ?_
      rw [w, Option.bind_some]
    · intro n k1 k2
      have := pass_same (m := nM s) (wl := wlS s) wf.1.tree (by omega) tab (fun _ => []) n k1 k2
      have ep : dnP (nB s) (nM s) (abS s) (wlS s) p 1 (upP (nB s) (nM s) (abS s) (wlS s) p tab) = pass (nB s) (nM s) (abS s) (wlS s) tab := by
        unfold pass
        rw [show nB s - 1 = p by omega]
      rw [ep]
      exact this
  · rw [h, if_neg (by decide)]
    rw [h] at ht
    exact ⟨H, tab, rfl, ht, hag h, same_rf⟩
theorem T_out {H : hp_H} {s' : Nat → Int32} (hT : TeOK H t s) : ∃ H', f_Tellings_outdate t H = some H' ∧ TeOK H' t s' ∧ same H H' t 31 := by
  obtain ⟨fr, tab, ht, h01, hag⟩ := hT
  obtain ⟨⟨R, r1, r2⟩, r3⟩ := id ht
  have w := Te_p2 (σ := H) (a := t) (R := R) (x := 0) (Or.inl rfl)
  rw [Te_eq r1] at w
  refine ⟨bk_Te H t (sF R 2 0), ?_, ⟨0, tab, ⟨⟨_, hs_bW, sF_at⟩, fun k hk => BlI_same (r3 k hk) same_bW (by omega)⟩, Or.inl rfl, fun q => absurd q (by decide)⟩, same_mono same_bW (Nat.le_refl _) (by omega)⟩
  unfold f_Tellings_outdate
  rw [T_own ht, w, Option.bind_some]
end RFR
