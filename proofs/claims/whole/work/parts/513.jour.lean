/-! ===== the class: the way of a notice ===== -/
theorem cnt_full {P : Nat} : ∀ n, cnt P n = n → ∀ x, x < n → P.testBit x = true
  | 0, _, x, hx => by omega
  | n + 1, h, x, hx => by
    rw [cnt] at h
    have := cnt_le P n
    by_cases hb : P.testBit n = true
    · rw [if_pos hb] at h
      by_cases hxn : x = n
      · rw [hxn]; exact hb
      · exact cnt_full n (by omega) x (by omega)
    · rw [if_neg hb] at h
      omega
theorem nbr_sy {ab : Nat → Nat} {x y : Nat} (h : nbr ab x y) : nbr ab y x := h.symm
section WSH
variable {H : hp_H} {a : Nat} {s : Nat → Int32}
theorem S_cw1 (h : StI H a s) (wf : Wf s) {n : Nat} (hn : n < 16777216) {K : Int32 → Int32 → Option Int32} : ∀ (m k f A : Nat), k + m = nW s → (∀ i, A.testBit i = true ↔ ∃ w, w < k ∧ ownr s w = i ∧ cov (wbx s w) n = true) → ∃ W, f_State_clientsWishing_l1 a (nI n) H K (f + m + 1) (nI A) (nI k) = K (nI W) (nI (nW s)) ∧ ∀ i, W.testBit i = true ↔ ∃ w, w < nW s ∧ ownr s w = i ∧ cov (wbx s w) n = true
  | 0, k, f, A, e, hA => by
    have hW := wf.2.2.1.1.2
    refine ⟨A, ?_, fun i => ?_⟩
    · rw [f_State_clientsWishing_l1, S_f h (by decide), Option.bind_some, wf.2.2.1.1.1, show k = nW s by omega, if_pos ((nI_leI (by omega) (by omega)).mpr (Nat.le_refl _))]
    · rw [hA i, show k = nW s by omega]
  | m + 1, k, f, A, e, hA => by
    have hW := wf.2.2.1.1.2
    have hC6 := wf.2.1.1.2
    obtain ⟨⟨o1, o2⟩, v1, -⟩ := wf.2.2.1.2 k (by omega)
    rw [f_State_clientsWishing_l1, S_f h (by decide), Option.bind_some, wf.2.2.1.1.1, if_neg (fun q => by have := (nI_leI (by omega) (by omega)).mp q; omega), S_r10 h, Option.bind_some, S_bx h wf (by omega), Option.bind_some, bx_covers v1.1 hn, Option.bind_some, nI_1]
    by_cases hc : cov (wbx s k) n = true
    · rw [if_pos hc, if_neg (by decide), S_r9 h, Option.bind_some, S_ow h wf (by omega), Option.bind_some, o1, sh_1 (by omega), fo_or]
      refine S_cw1 h wf hn m (k + 1) f _ (by omega) (fun i => ?_)
      rw [tb_or, hA i]
      constructor
      · rintro (⟨w, w1, w2, w3⟩ | q)
        · exact ⟨w, by omega, w2, w3⟩
        · exact ⟨k, by omega, q.symm, hc⟩
      · rintro ⟨w, w1, w2, w3⟩
        by_cases hwk : w = k
        · rw [hwk] at w2; exact Or.inr w2.symm
        · exact Or.inl ⟨w, by omega, w2, w3⟩
    · rw [if_neg hc, if_pos rfl]
      refine S_cw1 h wf hn m (k + 1) f _ (by omega) (fun i => ?_)
      rw [hA i]
      constructor
      · rintro ⟨w, w1, w2, w3⟩
        exact ⟨w, by omega, w2, w3⟩
      · rintro ⟨w, w1, w2, w3⟩
        by_cases hwk : w = k
        · rw [hwk] at w3; exact absurd w3 hc
        · exact ⟨w, by omega, w2, w3⟩
theorem S_cwi (h : StI H a s) (wf : Wf s) {n : Nat} (hn : n < 16777216) : ∃ W, f_State_clientsWishing a (nI n) H = some (nI W) ∧ ∀ i, W.testBit i = true ↔ wsh s i n = true := by
  have hW := wf.2.2.1.1.2
  obtain ⟨f, hf⟩ := hp_fu (nW s + 1) (by omega)
  have hf' : f + nW s + 1 = hp_F := hf.symm
  obtain ⟨W, q, q2⟩ := S_cw1 h wf hn (K := fun z10 z11 => some z10) (nW s) 0 f 0 (by omega) (fun i => by
    rw [Nat.zero_testBit]
    constructor
    · intro q; cases q
    · rintro ⟨w, w1, -⟩; omega)
  rw [hf'] at q
  refine ⟨W, ?_, fun i => ?_⟩
  · unfold f_State_clientsWishing
    rw [S_own h]
    exact q
  · rw [q2 i]
    unfold wsh
    rw [anyF_iff]
    constructor
    · rintro ⟨w, w1, w2, w3⟩
      exact ⟨w, by omega, by omega, by rw [decide_eq_true w2, w3]; rfl⟩
    · rintro ⟨w, -, w1, w2⟩
      rw [Bool.and_eq_true] at w2
      exact ⟨w, by omega, of_decide_eq_true w2.1, w2.2⟩
end WSH
theorem T_cov {H : hp_H} {t : Nat} {fr : Int32} {tab : Nat → List Nat} (h : TeI H t fr tab) {k n : Nat} (hk : k < 14) (hn : n < 16777216) : f_BoxList_covers (t + 3 + 2 * k) (nI n) H = some (b01 (tld (tab k) n)) := by
  obtain ⟨R, g1, g2⟩ := h.2 k hk
  have := BL_cov (σ := H) (a := t + 3 + 2 * k) hn g2
  rw [BoxList_eq g1] at this
  exact this
/-- the row of those reached holds the places, and no others -/
def qOK (R : oR) (P c : Nat) : Prop := (∀ i, i ≤ c → ∃ x, P.testBit x = true ∧ R.2 0 i = nI x) ∧ ∀ x, P.testBit x = true → ∃ i, i ≤ c ∧ R.2 0 i = nI x
section GO
variable {j st te : Nat} {tab : Nat → List Nat} {s : Nat → Int32}
theorem J_g1 (wf : Wf s) (hag : agr s tab) (d1 : st + 23 ≤ j ∨ j + 2 ≤ st) (d2 : te + 31 ≤ j ∨ j + 2 ≤ te) {b n x : Nat} {x5 : Int32} (hb : b < nB s) (hn : n < 16777216) (hx : x < nB s) {K : hp_H → Option (Int32 × hp_H)} : ∀ (m k f : Nat) (H : hp_H) (R : oR) (P F c : Nat), k + m = nB s → hs H j 2 (ce_Journey j R) → StI H st s → TeI H te 1 tab → JI (nB s) (abS s) (Es s n) b P F c → R.1 1 = nI P → R.1 4 = nI c → qOK R P c → P.testBit x = true → (∀ v, v < k → nbr (abS s) x v → Es s n x v → P.testBit v = true) → ∃ H' R' P' F' c', f_Journey_goOn_l1 j st te (nI x) (nI n) x5 (fun _ σ => K σ) (f + m + 1) (nI k) H = K H' ∧ hs H' j 2 (ce_Journey j R') ∧ same H H' j 2 ∧ JI (nB s) (abS s) (Es s n) b P' F' c' ∧ R'.1 1 = nI P' ∧ R'.1 4 = nI c' ∧ qOK R' P' c' ∧ R'.1 2 = R.1 2 ∧ (∀ i, i ≤ c → R'.2 0 i = R.2 0 i) ∧ c ≤ c' ∧ (∀ v, P.testBit v = true → P'.testBit v = true) ∧ (∀ y, F'.testBit y = true ↔ F.testBit y = true ∨ (y = x ∧ c < c')) ∧ (∀ v, v < nB s → nbr (abS s) x v → Es s n x v → P'.testBit v = true)
  | 0, k, f, H, R, P, F, c, e, hj, hS, hT, hJ, r1, r4, hq, hxP, hcl => by
    have hB7 := wf.1.1.2.2
    refine ⟨H, R, P, F, c, ?_, hj, same_rf, hJ, r1, r4, hq, rfl, fun _ _ => rfl, Nat.le_refl _, fun _ q => q, fun y => ⟨Or.inl, fun q => q.elim id (fun q => absurd q.2 (Nat.lt_irrefl _))⟩, fun v hv => hcl v (by omega)⟩
    rw [f_Journey_goOn_l1, S_f hS (by decide), Option.bind_some, wf.1.1.1, show k = nB s by omega, if_pos ((nI_leI (by omega) (by omega)).mpr (Nat.le_refl _))]
  | m + 1, k, f, H, R, P, F, c, e, hj, hS, hT, hJ, r1, r4, hq, hxP, hcl => by
    have hB7 := wf.1.1.2.2
    obtain ⟨hP, hF, hc7⟩ := JI_lt wf hb hJ
    rw [f_Journey_goOn_l1, S_f hS (by decide), Option.bind_some, wf.1.1.1, if_neg (fun q => by have := (nI_leI (by omega) (by omega)).mp q; omega), J_f hj (by decide) (by decide), Option.bind_some, r4]
    by_cases hc6 : c = 6
    · rw [if_pos (show (6 : Int32) ≤ nI c by rw [hc6]; decide)]
      have h5 := hJ.2.2.2.2
      have := cnt_le P (nB s)
      refine ⟨H, R, P, F, c, rfl, hj, same_rf, hJ, r1, r4, hq, rfl, fun _ _ => rfl, Nat.le_refl _, fun _ q => q, fun y => ⟨Or.inl, fun q => q.elim id (fun q => absurd q.2 (Nat.lt_irrefl _))⟩, fun v hv _ _ => cnt_full (nB s) (by omega) v hv⟩
    · rw [if_neg (fun q => by have := (nI_leI (a := 6) (by decide) (by omega)).mp q; omega), J_f hj (by decide) (by decide), Option.bind_some, r1, hld_v (by omega) (by omega), Option.bind_some, nI_1]
      have skip : (nbr (abS s) x k → Es s n x k → P.testBit k = true) → ∃ H' R' P' F' c', f_Journey_goOn_l1 j st te (nI x) (nI n) x5 (fun _ σ => K σ) (f + (m + 1)) (nI (k + 1)) H = K H' ∧ hs H' j 2 (ce_Journey j R') ∧ same H H' j 2 ∧ JI (nB s) (abS s) (Es s n) b P' F' c' ∧ R'.1 1 = nI P' ∧ R'.1 4 = nI c' ∧ qOK R' P' c' ∧ R'.1 2 = R.1 2 ∧ (∀ i, i ≤ c → R'.2 0 i = R.2 0 i) ∧ c ≤ c' ∧ (∀ v, P.testBit v = true → P'.testBit v = true) ∧ (∀ y, F'.testBit y = true ↔ F.testBit y = true ∨ (y = x ∧ c < c')) ∧ (∀ v, v < nB s → nbr (abS s) x v → Es s n x v → P'.testBit v = true) := fun hk =>
        J_g1 wf hag d1 d2 hb hn hx (K := K) m (k + 1) f H R P F c (by omega) hj hS hT hJ r1 r4 hq hxP (fun v hv h1 h2 => by
          by_cases hvk : v = k
          · rw [hvk] at h1 h2 ⊢; exact hk h1 h2
          · exact hcl v (by omega) h1 h2)
      cases hPk : P.testBit k with
      | true =>
        rw [if_neg (show ¬ b01 true = 0 by decide)]
        exact skip (fun _ _ => hPk)
      | false =>
        rw [if_pos (show b01 false = 0 from rfl), S_nb hS wf (by omega) hx, Option.bind_some]
        by_cases hnb : nbrb (abS s) k x = true
        · have hk14 : lnk (abS s) k x < 14 := lnk_lt (by omega) (by omega)
          have hxk : nbrb (abS s) x k = true := by rw [nbrb_sy]; exact hnb
          have etab := agr_lnk hag hx (show k < nB s by omega) hxk
          rw [if_pos hnb, if_neg (by decide), T_btw hT hS wf (by omega) hx, Option.bind_some, T_cov hT hk14 hn, Option.bind_some, etab]
          by_cases hE : Es s n x k
          · have hE' : tld (TL s (lnk (abS s) k x)) n = true := hE
            rw [hE', if_neg (show ¬ b01 true = 0 by decide), Option.bind_some, sh_1 (by omega), fo_or]
            have hJ' := JI_add wf.1.tree hb hJ hxP hPk (by omega) (nbrb_iff.mp hxk) hE
            obtain ⟨hP', hF', hc7'⟩ := JI_lt wf hb hJ'
            have w := Journey_p1 (σ := H) (a := j) (R := R) (x := nI (P ||| 2 ^ k))
            rw [Journey_eq hj] at w
            rw [w, Option.bind_some, Journey_g4, Option.bind_some, show ((upd R.1 1 (nI (P ||| 2 ^ k)), R.2) : oR).1 4 = nI c from (show upd R.1 1 (nI (P ||| 2 ^ k)) 4 = R.1 4 from upd_ne (by decide)).trans r4, nI_1, Journey_p4, Option.bind_some, Journey_g0, Option.bind_some, Journey_g4, Option.bind_some]
            have e4 : ((upd (upd R.1 1 (nI (P ||| 2 ^ k)), R.2).1 4 (nI (c + 1)), (upd R.1 1 (nI (P ||| 2 ^ k)), R.2).2) : oR).1 4 = nI (c + 1) := (show upd (upd R.1 1 (nI (P ||| 2 ^ k))) 4 (nI (c + 1)) 4 = nI (c + 1) from upd_at)
            rw [e4, Journey_s0 (by omega), Option.bind_some]
            generalize hR1 : (((upd (upd R.1 1 (nI (P ||| 2 ^ k)), R.2).1 4 (nI (c + 1)), (upd R.1 1 (nI (P ||| 2 ^ k)), R.2).2).1, up2 (upd (upd R.1 1 (nI (P ||| 2 ^ k)), R.2).1 4 (nI (c + 1)), (upd R.1 1 (nI (P ||| 2 ^ k)), R.2).2).2 0 (c + 1) (nI k)) : oR) = R1
            have q1 : R1.1 1 = nI (P ||| 2 ^ k) := by rw [← hR1]; exact (show upd (upd R.1 1 (nI (P ||| 2 ^ k))) 4 (nI (c + 1)) 1 = nI (P ||| 2 ^ k) from by rw [upd_ne (by decide), upd_at])
            have q2 : R1.1 2 = R.1 2 := by rw [← hR1]; exact (show upd (upd R.1 1 (nI (P ||| 2 ^ k))) 4 (nI (c + 1)) 2 = R.1 2 from by rw [upd_ne (by decide), upd_ne (by decide)])
            have q4 : R1.1 4 = nI (c + 1) := by rw [← hR1]; exact e4
            have q0 : R1.2 0 = upd (R.2 0) (c + 1) (nI k) := by rw [← hR1]; exact (show up2 R.2 0 (c + 1) (nI k) 0 = upd (R.2 0) (c + 1) (nI k) from up2_s)
            have hqn : qOK R1 (P ||| 2 ^ k) (c + 1) := by
              refine ⟨fun i hi => ?_, fun y hy => ?_⟩
              · by_cases hic : i = c + 1
                · exact ⟨k, tb_or.mpr (Or.inr rfl), by rw [q0, hic, upd_at]⟩
                · obtain ⟨y, y1, y2⟩ := hq.1 i (by omega)
                  exact ⟨y, tb_or.mpr (Or.inl y1), by rw [q0, upd_ne hic]; exact y2⟩
              · rcases tb_or.mp hy with hy | hy
                · obtain ⟨i, i1, i2⟩ := hq.2 y hy
                  exact ⟨i, by omega, by rw [q0, upd_ne (by omega)]; exact i2⟩
                · exact ⟨c + 1, Nat.le_refl _, by rw [q0, upd_at, hy]⟩
            have sm : same H (bk_Journey H j R1) j 2 := same_bW
            obtain ⟨H', R', P', F', c', z1, z2, z3, z4, z5, z6, z7, z8, z9, z10, z11, z12, z13⟩ := J_g1 wf hag d1 d2 hb hn hx (K := K) m (k + 1) f (bk_Journey H j R1) R1 (P ||| 2 ^ k) (F ||| 2 ^ x) (c + 1) (by omega) hs_bW (StI_same hS sm (by omega)) (TeI_same hT sm (by omega)) hJ' q1 q4 hqn (tb_or.mpr (Or.inl hxP)) (fun v hv h1 h2 => by
              by_cases hvk : v = k
              · exact tb_or.mpr (Or.inr hvk)
              · exact tb_or.mpr (Or.inl (hcl v (by omega) h1 h2)))
            refine ⟨H', R', P', F', c', z1, z2, same_tr sm z3, z4, z5, z6, z7, z8.trans q2, fun i hi => ?_, by omega, fun v hv => z11 v (tb_or.mpr (Or.inl hv)), fun y => ?_, z13⟩
            · rw [z9 i (by omega), q0, upd_ne (by omega)]
            · rw [z12 y, tb_or]
              constructor
              · rintro ((q | q) | q)
                · exact Or.inl q
                · exact Or.inr ⟨q, by omega⟩
                · exact Or.inr ⟨q.1, by omega⟩
              · rintro (q | q)
                · exact Or.inl (Or.inl q)
                · exact Or.inl (Or.inr q.1)
          · have hE' : tld (TL s (lnk (abS s) k x)) n = false := Bool.eq_false_iff.mpr hE
            rw [hE', if_pos (show b01 false = 0 from rfl)]
            exact skip (fun _ q => absurd q hE)
        · rw [if_neg hnb, if_pos rfl]
          exact skip (fun q _ => absurd (nbrb_iff.mpr (nbr_sy q)) hnb)
end GO
