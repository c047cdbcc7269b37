/-! ===== the class: the whole way of a notice ===== -/
theorem nI_b01 {p : Bool} : b01 p = 0 ↔ p = false := by
  cases p with
  | true => exact ⟨fun q => absurd q (by decide), fun q => by cases q⟩
  | false => exact ⟨fun _ => rfl, fun _ => rfl⟩
section TRV
variable {j st te : Nat} {tab : Nat → List Nat} {s : Nat → Int32}
theorem J_own {H : hp_H} {R : oR} (h : hs H j 2 (ce_Journey j R)) {α : Type} {x : Option α} : hp_own H j 5 x = x := by
  have := Journey_own (σ := H) (a := j) (R := R) (x := x)
  rw [Journey_eq h] at this
  exact this
theorem J_goo (wf : Wf s) (hag : agr s tab) (d1 : st + 23 ≤ j ∨ j + 2 ≤ st) (d2 : te + 31 ≤ j ∨ j + 2 ≤ te) {b n x : Nat} (hb : b < nB s) (hn : n < 16777216) (hx : x < nB s) {H : hp_H} {R : oR} {P F c : Nat} (hj : hs H j 2 (ce_Journey j R)) (hS : StI H st s) (hT : TeI H te 1 tab) (hJ : JI (nB s) (abS s) (Es s n) b P F c) (r1 : R.1 1 = nI P) (r4 : R.1 4 = nI c) (hq : qOK R P c) (hxP : P.testBit x = true) : ∃ H' R' P' F' c', f_Journey_goOn j st te (nI x) (nI n) H = some (b01 (decide (c < c')), H') ∧ hs H' j 2 (ce_Journey j R') ∧ same H H' j 2 ∧ JI (nB s) (abS s) (Es s n) b P' F' c' ∧ R'.1 1 = nI P' ∧ R'.1 4 = nI c' ∧ qOK R' P' c' ∧ R'.1 2 = R.1 2 ∧ (∀ i, i ≤ c → R'.2 0 i = R.2 0 i) ∧ c ≤ c' ∧ (∀ v, P.testBit v = true → P'.testBit v = true) ∧ (∀ y, F'.testBit y = true ↔ F.testBit y = true ∨ (y = x ∧ c < c')) ∧ (∀ v, v < nB s → nbr (abS s) x v → Es s n x v → P'.testBit v = true) := by
  have hB7 := wf.1.1.2.2
  obtain ⟨hP, hF, hc7⟩ := JI_lt wf hb hJ
  obtain ⟨f, hf⟩ := hp_fu (nB s + 1) (by omega)
  have hf' : f + nB s + 1 = hp_F := hf.symm
  obtain ⟨H', R', P', F', c', z1, z2, z3, z4, z5, z6, z7, z8, z9, z10, z11, z12, z13⟩ := J_g1 wf hag d1 d2 (x5 := nI c) hb hn hx (K := fun σ => (hp_gI σ j 5 4).bind fun v23 => if v23 ≤ nI c then (some (0, σ)) else (some (1, σ))) (nB s) 0 f H R P F c (by omega) hj hS hT hJ r1 r4 hq hxP (fun v hv => by omega)
  obtain ⟨hP', hF', hc7'⟩ := JI_lt wf hb z4
  rw [hf'] at z1
  refine ⟨H', R', P', F', c', ?_, z2, z3, z4, z5, z6, z7, z8, z9, z10, z11, z12, z13⟩
  unfold f_Journey_goOn
  rw [J_own hj, J_f hj (by decide) (by decide), Option.bind_some, r4]
  refine (show _ = _ from z1).trans ?_
  rw [J_f z2 (by decide) (by decide), Option.bind_some, z6]
  by_cases hcc : c < c'
  · rw [if_neg (fun q => by have := (nI_leI (by omega) (by omega)).mp q; omega), decide_eq_true hcc]
    rfl
  · rw [if_pos ((nI_leI (by omega) (by omega)).mpr (by omega)), decide_eq_false hcc]
    rfl
theorem J_t1 (wf : Wf s) (hag : agr s tab) (d1 : st + 23 ≤ j ∨ j + 2 ≤ st) (d2 : te + 31 ≤ j ∨ j + 2 ≤ te) {b n W : Nat} (hb : b < nB s) (hn : n < 16777216) (hW : ∀ i, W.testBit i = true ↔ wsh s i n = true) (hW7 : W < 2 ^ 31) {K : Int32 → hp_H → Option hp_H} : ∀ (d i f : Nat) (H : hp_H) (R : oR) (P F c G U : Nat), i + d = 7 → i ≤ c + 1 → hs H j 2 (ce_Journey j R) → StI H st s → TeI H te 1 tab → JI (nB s) (abS s) (Es s n) b P F c → R.1 1 = nI P → R.1 4 = nI c → qOK R P c → R.1 2 = nI G → (∀ k, G.testBit k = true ↔ k < nC s ∧ wsh s k n = true ∧ ∃ e, e < i ∧ R.2 0 e = nI (home s k)) → (∀ x, U.testBit x = true ↔ x = b ∨ F.testBit x = true ∨ ∃ k, G.testBit k = true ∧ home s k = x) → (∀ e, e < i → ∀ x, x < nB s → R.2 0 e = nI x → ∀ v, v < nB s → nbr (abS s) x v → Es s n x v → P.testBit v = true) → ∃ H' R' P' F' c' G' U', f_Journey_travel_l1 j st te (nI n) (nI W) (fun z _ σ => K z σ) (f + d + 1) (nI U) (nI i) H = K (nI U') H' ∧ hs H' j 2 (ce_Journey j R') ∧ same H H' j 2 ∧ JI (nB s) (abS s) (Es s n) b P' F' c' ∧ R'.1 1 = nI P' ∧ R'.1 4 = nI c' ∧ R'.1 2 = nI G' ∧ clo (nB s) (abS s) (Es s n) P' ∧ (∀ k, G'.testBit k = true ↔ k < nC s ∧ gtc s n P' k) ∧ (∀ x, U'.testBit x = true ↔ x = b ∨ F'.testBit x = true ∨ ∃ k, G'.testBit k = true ∧ home s k = x)
  | d, i, f, H, R, P, F, c, G, U, e, hic, hj, hS, hT, hJ, r1, r4, hq, r2, hG, hU, hcl => by
    have hB7 := wf.1.1.2.2
    have hC6 := wf.2.1.1.2
    obtain ⟨hP, hF, hc7⟩ := JI_lt wf hb hJ
    have hG6 : G < 2 ^ 6 := tb_lt (fun k hk => by have := ((hG k).mp hk).1; omega)
    have hU7 : U < 2 ^ 7 := tb_lt (fun x hx => by
      rcases (hU x).mp hx with q | q | ⟨k, k1, k2⟩
      · omega
      · have := Nat.lt_of_lt_of_le (Nat.lt_of_not_le (fun hh => by
          have := Nat.testBit_lt_two_pow (Nat.lt_of_lt_of_le hF (Nat.pow_le_pow_right (by decide) hh))
          rw [q] at this
          cases this)) (Nat.le_refl 7)
        exact this
      · have := (wf.2.1.2 k ((hG k).mp k1).1).1.2
        omega)
    by_cases hend : i = c + 1
    · refine ⟨H, R, P, F, c, G, U, ?_, hj, same_rf, hJ, r1, r4, r2, fun x v hx hv h1 h2 => ?_, fun k => ?_, hU⟩
      · rw [f_Journey_travel_l1, J_f hj (by decide) (by decide), Option.bind_some, r4, if_pos ((nI_ltI (by omega) (by omega)).mpr (by omega))]
      · obtain ⟨e', e1, e2⟩ := hq.2 x hx
        exact hcl e' (by omega) x (hJ.1 x hx).1 e2 v hv h1 h2
      · rw [hG k]
        unfold gtc
        constructor
        · rintro ⟨k1, k2, e', e1, e2⟩
          refine ⟨k1, ?_, k2⟩
          obtain ⟨y, y1, y2⟩ := hq.1 e' (by omega)
          have hh := (wf.2.1.2 k k1).1.2
          have hy := (hJ.1 y y1).1
          rw [e2] at y2
          rw [(nI_eq (by omega) (by omega)).mp y2]
          exact y1
        · rintro ⟨k1, k2, k3⟩
          obtain ⟨e', e1, e2⟩ := hq.2 _ k2
          exact ⟨k1, k3, e', by omega, e2⟩
    · cases d with
      | zero => omega
      | succ d =>
        obtain ⟨x, x1, x2⟩ := hq.1 i (by omega)
        have hx := (hJ.1 x x1).1
        have w0 := Journey_a0 (σ := H) (a := j) (R := R) (i := i) (by omega)
        have wg := Journey_g0 (σ := H) (a := j) (R := R)
        rw [Journey_eq hj] at w0 wg
        generalize hM : mkN (fun v => decide (s (16 + 25 * v) = nI x)) (nC s) 0 0 = M
        have hM6 : M < 2 ^ 6 := by
          rw [← hM]
          exact Nat.lt_of_lt_of_le mkN_lt (Nat.pow_le_pow_right (by decide) (by omega))
        have hMb : ∀ k, M.testBit k = true ↔ k < nC s ∧ home s k = x := fun k => by
          rw [← hM, mkN_0]
          constructor
          · rintro ⟨k1, k2⟩
            have := of_decide_eq_true k2
            obtain ⟨⟨c1, c2⟩, -, -⟩ := wf.2.1.2 k k1
            rw [c1] at this
            exact ⟨k1, (nI_eq (by omega) (by omega)).mp this⟩
          · rintro ⟨k1, k2⟩
            obtain ⟨⟨c1, c2⟩, -, -⟩ := wf.2.1.2 k k1
            exact ⟨k1, decide_eq_true (by rw [c1, k2])⟩
        have eM : f_State_clientsHomeAt st (nI x) H = some (nI M) := by rw [S_cha hS wf, mkI_0 (by omega), hM]
        have hNb : ∀ k, (W &&& M).testBit k = true ↔ k < nC s ∧ wsh s k n = true ∧ home s k = x := fun k => by
          rw [Nat.testBit_and, Bool.and_eq_true, hW k, hMb k]
          constructor
          · rintro ⟨a1, a2, a3⟩; exact ⟨a2, a1, a3⟩
          · rintro ⟨a1, a2, a3⟩; exact ⟨a2, a1, a3⟩
        have hN6 : W &&& M < 2 ^ 6 := Nat.lt_of_le_of_lt Nat.and_le_right hM6
        generalize hN : W &&& M = N at hNb hN6
        have w2 := Journey_p2 (σ := H) (a := j) (R := R) (x := nI (G ||| N))
        rw [Journey_eq hj] at w2
        generalize hR1 : ((upd R.1 2 (nI (G ||| N)), R.2) : oR) = R1 at w2
        have sm : same H (bk_Journey H j R1) j 2 := same_bW
        have q0 : R1.2 = R.2 := by rw [← hR1]
        have q1 : R1.1 1 = nI P := by rw [← hR1]; exact (show upd R.1 2 (nI (G ||| N)) 1 = R.1 1 from upd_ne (by decide)).trans r1
        have q4 : R1.1 4 = nI c := by rw [← hR1]; exact (show upd R.1 2 (nI (G ||| N)) 4 = R.1 4 from upd_ne (by decide)).trans r4
        have q2 : R1.1 2 = nI (G ||| N) := by rw [← hR1]; exact (show upd R.1 2 (nI (G ||| N)) 2 = nI (G ||| N) from upd_at)
        have hq1 : qOK R1 P c := by
          unfold qOK
          rw [q0]
          exact hq
        obtain ⟨H2, R2, P2, F2, c2, z1, z2, z3, z4, z5, z6, z7, z8, z9, z10, z11, z12, z13⟩ := J_goo wf hag d1 d2 hb hn hx (hs_bW (f := ce_Journey j R1)) (StI_same hS sm (by omega)) (TeI_same hT sm (by omega)) hJ q1 q4 hq1 x1
        rw [q0] at z9
        have z1' : f_Journey_goOn j st te (nI x) (nI n) (bk_Journey H j R1) = some (b01 (decide (c < c2)), H2) := z1
        have hGn : ∀ k, (G ||| N).testBit k = true ↔ k < nC s ∧ wsh s k n = true ∧ ∃ e', e' < i + 1 ∧ R2.2 0 e' = nI (home s k) := fun k => by
          rw [Nat.testBit_or, Bool.or_eq_true, hG k, hNb k]
          constructor
          · rintro (⟨a1, a2, e', e1, e2⟩ | ⟨a1, a2, a3⟩)
            · exact ⟨a1, a2, e', by omega, by rw [z9 e' (by omega)]; exact e2⟩
            · exact ⟨a1, a2, i, by omega, by rw [z9 i (by omega), x2, a3]⟩
          · rintro ⟨a1, a2, e', e1, e2⟩
            rw [z9 e' (by omega)] at e2
            by_cases hei : e' = i
            · refine Or.inr ⟨a1, a2, ?_⟩
              have hh := (wf.2.1.2 k a1).1.2
              rw [hei, x2] at e2
              exact ((nI_eq (by omega) (by omega)).mp e2).symm
            · exact Or.inl ⟨a1, a2, e', by omega, e2⟩
        have hcl2 : ∀ e', e' < i + 1 → ∀ y, y < nB s → R2.2 0 e' = nI y → ∀ v, v < nB s → nbr (abS s) y v → Es s n y v → P2.testBit v = true := fun e' he y hy ey v hv h1 h2 => by
          rw [z9 e' (by omega)] at ey
          by_cases hei : e' = i
          · rw [hei, x2] at ey
            have : x = y := (nI_eq (by omega) (by omega)).mp ey
            subst this
            exact z13 v hv h1 h2
          · exact z11 v (hcl e' (by omega) y hy ey v hv h1 h2)
        have key : ∀ U2 : Nat, (∀ y, U2.testBit y = true ↔ y = b ∨ F2.testBit y = true ∨ ∃ k, (G ||| N).testBit k = true ∧ home s k = y) → ∃ H' R' P' F' c' G' U', f_Journey_travel_l1 j st te (nI n) (nI W) (fun z _ σ => K z σ) (f + (d + 1)) (nI U2) (nI (i + 1)) H2 = K (nI U') H' ∧ hs H' j 2 (ce_Journey j R') ∧ same H H' j 2 ∧ JI (nB s) (abS s) (Es s n) b P' F' c' ∧ R'.1 1 = nI P' ∧ R'.1 4 = nI c' ∧ R'.1 2 = nI G' ∧ clo (nB s) (abS s) (Es s n) P' ∧ (∀ k, G'.testBit k = true ↔ k < nC s ∧ gtc s n P' k) ∧ (∀ x, U'.testBit x = true ↔ x = b ∨ F'.testBit x = true ∨ ∃ k, G'.testBit k = true ∧ home s k = x) := fun U2 hU2 => by
          have sm2 : same H H2 j 2 := same_tr sm z3
          obtain ⟨H', R', P', F', c', G', U', y1, y2, y3, y4⟩ := J_t1 wf hag d1 d2 hb hn hW hW7 (K := K) d (i + 1) f H2 R2 P2 F2 c2 (G ||| N) U2 (by omega) (by omega) z2 (StI_same hS sm2 (by omega)) (TeI_same hT sm2 (by omega)) z4 z5 z6 z7 (z8.trans q2) hGn hU2 hcl2
          exact ⟨H', R', P', F', c', G', U', y1, y2, same_tr sm2 y3, y4⟩
        rw [f_Journey_travel_l1, J_f hj (by decide) (by decide), Option.bind_some, r4, if_neg (fun q => by have := (nI_ltI (by omega) (by omega)).mp q; omega), if_neg (fun q => by have := (nI_leI (a := 7) (by decide) (by omega)).mp q; omega), wg, Option.bind_some, w0, Option.bind_some, x2, eM, Option.bind_some, J_f hj (by decide) (by decide), Option.bind_some, r2, fo_and, hN, fo_or, w2, Option.bind_some, z1', hp_bs, nI_1, sh_1 (by omega), fo_or]
        have hN0 : N = 0 ↔ ∀ k, N.testBit k = false := ⟨fun q k => by rw [q, Nat.zero_testBit], fun q => Nat.eq_of_testBit_eq (fun k => by rw [q k, Nat.zero_testBit])⟩
        have uA : (c < c2 ∨ N ≠ 0) → ∀ y, (U ||| 2 ^ x).testBit y = true ↔ y = b ∨ F2.testBit y = true ∨ ∃ k, (G ||| N).testBit k = true ∧ home s k = y := fun hor y => by
          rw [tb_or, hU y, z12 y]
          constructor
          · rintro ((q | q | ⟨k, k1, k2⟩) | q)
            · exact Or.inl q
            · exact Or.inr (Or.inl (Or.inl q))
            · exact Or.inr (Or.inr ⟨k, by rw [Nat.testBit_or, k1, Bool.true_or], k2⟩)
            · rcases hor with hor | hor
              · exact Or.inr (Or.inl (Or.inr ⟨q, hor⟩))
              · refine Or.inr (Or.inr ?_)
                obtain ⟨k, hk⟩ : ∃ k, N.testBit k = true := Classical.byContradiction (fun hh => hor (hN0.mpr (fun k => Bool.eq_false_iff.mpr (fun q => hh ⟨k, q⟩))))
                exact ⟨k, by rw [Nat.testBit_or, hk, Bool.or_true], by rw [q]; exact ((hNb k).mp hk).2.2⟩
          · rintro (q | (q | q) | ⟨k, k1, k2⟩)
            · exact Or.inl (Or.inl q)
            · exact Or.inl (Or.inr (Or.inl q))
            · exact Or.inr q.1
            · rw [Nat.testBit_or, Bool.or_eq_true] at k1
              rcases k1 with k1 | k1
              · exact Or.inl (Or.inr (Or.inr ⟨k, k1, k2⟩))
              · exact Or.inr (k2.symm.trans ((hNb k).mp k1).2.2)
        have uB : ¬ c < c2 → N = 0 → ∀ y, U.testBit y = true ↔ y = b ∨ F2.testBit y = true ∨ ∃ k, (G ||| N).testBit k = true ∧ home s k = y := fun h1 h2 y => by
          rw [hU y, z12 y, h2, Nat.or_zero]
          constructor
          · rintro (q | q | q)
            · exact Or.inl q
            · exact Or.inr (Or.inl (Or.inl q))
            · exact Or.inr (Or.inr q)
          · rintro (q | (q | q) | q)
            · exact Or.inl q
            · exact Or.inr (Or.inl q)
            · exact absurd q.2 h1
            · exact Or.inr (Or.inr q)
        by_cases hcc : c < c2
        · rw [decide_eq_true hcc, if_neg (show ¬ b01 true = 0 by decide)]
          exact key _ (uA (Or.inl hcc))
        · rw [decide_eq_false hcc, if_pos (show b01 false = 0 from rfl)]
          by_cases hNN : N = 0
          · rw [if_pos (show nI N = 0 by rw [hNN]; rfl)]
            exact key _ (uB hcc hNN)
          · rw [if_neg (show ¬ nI N = 0 from fun q => hNN ((nI_eq (b := 0) (by omega) (by decide)).mp q))]
            exact key _ (uA (Or.inr hNN))
end TRV
