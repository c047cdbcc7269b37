/-! ===== the methods: told, brokerAt, clientAt, log, wishAt ===== -/
theorem mkI_congr {p q : Nat → Bool} : ∀ (m k : Nat) (a : Int32), (∀ i, k ≤ i → i < k + m → p i = q i) → mkI p m k a = mkI q m k a
  | 0, _, _, _ => rfl
  | m + 1, k, a, h => by
    rw [mkI, mkI, h k (Nat.le_refl _) (by omega)]
    exact mkI_congr m (k + 1) _ (fun i h1 h2 => h i (by omega) (by omega))
theorem tb_dec {P i : Nat} {q : Prop} [Decidable q] (h : P.testBit i = true ↔ q) : P.testBit i = decide q := by
  by_cases hq : q
  · rw [decide_eq_true hq, h.mpr hq]
  · rw [decide_eq_false hq]
    exact Bool.eq_false_iff.mpr (fun e => hq (h.mp e))
section ME4
variable {H : hp_H} {c r : Nat} {R : oR} {x y : Int32}
theorem M_told (h : INV H c r R) : GOOD H c r (f_NB_told c x) (f_Mo_told r x) := by
  obtain ⟨hr, hm, hL, hT, k, n, v, hC, r3, r8, r1⟩ := id h
  obtain ⟨wf, hN, hS, ⟨J, hJ⟩, hP, hB, hD, hI⟩ := id hC
  by_cases h5 : x = 5
  · subst h5
    obtain ⟨H1, tab, a1, a2, a3, a4, a5, a6⟩ := C_ref hC hT
    obtain ⟨R', m1, m2, m3⟩ := Mo_tol5 (σ := H1) (r := r) wf rfl hL
    have hB1 := wf.1.1.2.1
    refine fin_q (R' := R') h (e1 := ?_) a6 m1 (kps_mono m2 (fun j h => by simp only [List.mem_cons, List.not_mem_nil, or_false] at h; rcases h with rfl | rfl <;> decide) (fun _ h => h)) m3 a4 a5 r3 r8 r1
    unfold f_NB_told
    rw [N_own hN, if_neg (by decide), if_neg (by decide), if_neg (by decide), if_neg (by decide), if_neg (by decide), if_pos rfl, N_1 hN, Option.bind_some, N_0 hN, Option.bind_some, a1, Option.bind_some, N_1 a4.2.1, Option.bind_some, N_0 a4.2.1, Option.bind_some, T_cal a2 a4.2.2.1 wf, Option.bind_some, tcF_congr a3 _ _ _ (by decide) (by omega)]
  · refine noop h ?_ (Mo_tol wf rfl hB.1 r8 h5)
    unfold f_NB_told toS
    rw [N_own hN, N_0 hN, Option.bind_some, S_f hS (by decide), Option.bind_some, if_neg h5]
    simp only [Option.bind_some]
    rw [S_f hS (by decide), Option.bind_some, S_f hS (by decide), Option.bind_some, S_f hS (by decide), Option.bind_some, S_f hS (by decide), Option.bind_some, S_f hS (by decide), Option.bind_some, S_f hS (by decide), Option.bind_some, r8, r3, r1]
    simp only [N_4 hN, B_cnt hB, B_fw hB hS wf, N_3 hN, P_cnt hP, N_5 hN, D_val hD, Option.bind_some]
    by_cases e0 : x = 0
    · rw [if_pos e0, if_pos e0]
    rw [if_neg e0, if_neg e0]
    by_cases e1 : x = 1
    · rw [if_pos e1, if_pos e1]
    rw [if_neg e1, if_neg e1]
    by_cases e2 : x = 2
    · rw [if_pos e2, if_pos e2]
    rw [if_neg e2, if_neg e2]
    by_cases e3 : x = 3
    · rw [if_pos e3, if_pos e3]
    rw [if_neg e3, if_neg e3]
    by_cases e4 : x = 4
    · rw [if_pos e4, if_pos e4]
    rw [if_neg e4, if_neg e4]
    by_cases e6 : x = 6
    · rw [if_pos e6, if_pos e6]
    rw [if_neg e6, if_neg e6]
    by_cases e7 : x = 7
    · rw [if_pos e7, if_pos e7]
    rw [if_neg e7, if_neg e7]
    by_cases e8 : x = 8
    · rw [if_pos e8, if_pos e8]
    rw [if_neg e8, if_neg e8]
    by_cases e9 : x = 9
    · rw [if_pos e9, if_pos e9]
    rw [if_neg e9, if_neg e9]
    by_cases e10 : x = 10
    · rw [if_pos e10, if_pos e10]
    rw [if_neg e10, if_neg e10]
    by_cases e11 : x = 11
    · rw [if_pos e11, if_pos e11]
    rw [if_neg e11, if_neg e11]
theorem M_brokerAt (h : INV H c r R) : ∃ z, f_NB_brokerAt c x y H = some z ∧ f_Mo_brokerAt r x y H = some z := by
  obtain ⟨hr, hm, hL, hT, k, n, v, hC, r3, r8, r1⟩ := id h
  obtain ⟨wf, hN, hS, ⟨J, hJ⟩, hP, hB, hD, hI⟩ := id hC
  have hB7 := wf.1.1.2.2
  have hC6 := wf.2.1.1.2
  have hW := wf.2.2.1.1.2
  by_cases hx : inI x (nB (R.2 0))
  · obtain ⟨b, hb, rfl⟩ := inI_of hx (by omega)
    have em := Mo_bat (σ := H) (r := r) (R := R) (y := y) wf rfl hb
    rw [Mo_eq hm] at em
    refine ⟨_, ?_, em⟩
    have hPl := mkN_lt (p := fun v => decide (R.2 0 (16 + 25 * v) = nI b)) (m := nC (R.2 0))
    have hPl2 : mkN (fun v => decide (R.2 0 (16 + 25 * v) = nI b)) (nC (R.2 0)) 0 0 < 2 ^ 31 := Nat.lt_of_lt_of_le hPl (Nat.pow_le_pow_right (by decide) (by omega))
    have e3 : f_State_wishesOf (c + 1) (mkI (fun v => decide (R.2 0 (16 + 25 * v) = nI b)) (nC (R.2 0)) 0 0) H = some (mkI (fun w => decide (R.2 0 (16 + 25 * ownr (R.2 0) w) = nI b)) (nW (R.2 0)) 0 0) := by
      rw [mkI_0 (by omega), S_wof hS wf hPl2]
      refine congrArg some (mkI_congr _ _ _ (fun w _ hw => ?_))
      have o2 := (wf.2.2.1.2 w (by omega)).1.2
      refine tb_dec ?_
      rw [mkN_0]
      exact ⟨fun q => of_decide_eq_true q.2, fun q => ⟨o2, decide_eq_true q⟩⟩
    unfold f_NB_brokerAt
    rw [N_own hN, N_0 hN, Option.bind_some, S_hb hS wf, Option.bind_some, tst_y hx]
    simp only [Option.bind_some]
    rw [S_r7 hS, Option.bind_some, S_ab hS wf hb, Option.bind_some, S_nof hS wf hb, Option.bind_some, S_cha hS wf, Option.bind_some, Option.bind_some, e3, Option.bind_some]
    split
    · rfl
    · split
      · rfl
      · split
        · rfl
        · split
          · rfl
          · rfl
  · have em := Mo_bat_no (σ := H) (r := r) (R := R) (x := x) (y := y) wf rfl hx
    rw [Mo_eq hm] at em
    refine ⟨_, ?_, em⟩
    unfold f_NB_brokerAt
    rw [N_own hN, N_0 hN, Option.bind_some, S_hb hS wf, Option.bind_some, tst_n hx]
theorem M_clientAt (h : INV H c r R) : ∃ z, f_NB_clientAt c x y H = some z ∧ f_Mo_clientAt r x y H = some z := by
  obtain ⟨hr, hm, hL, hT, k, n, v, hC, r3, r8, r1⟩ := id h
  obtain ⟨wf, hN, hS, ⟨J, hJ⟩, hP, hB, hD, hI⟩ := id hC
  have hC6 := wf.2.1.1.2
  have hW := wf.2.2.1.1.2
  by_cases hx : inI x (nC (R.2 0))
  · obtain ⟨e, he, rfl⟩ := inI_of hx (by omega)
    have em := Mo_cat (σ := H) (r := r) (R := R) (y := y) wf rfl he
    rw [Mo_eq hm] at em
    refine ⟨_, ?_, em⟩
    obtain ⟨Rc, g1, g2⟩ := S_cl hS wf he
    obtain ⟨-, wp, -⟩ := wf.2.1.2 e he
    have e5 : f_State_wishesOf (c + 1) ((1 : Int32) <<< (nI e &&& 31)) H = some (cAt (R.2 0) e) := by
      rw [sh_1 (by omega), S_wof hS wf (Nat.lt_of_lt_of_le (Nat.pow_lt_pow_right (by decide) (show e < 6 by omega)) (by decide))]
      unfold cAt
      refine congrArg some (mkI_congr _ _ _ (fun w _ hw => ?_))
      obtain ⟨⟨o1, o2⟩, -, -⟩ := wf.2.2.1.2 w (by omega)
      refine tb_dec ?_
      rw [tb_one, o1, nI_eq (by omega) (by omega)]
    have e1 : (if R.2 0 (17 + 25 * e) = 0 then (some (0 : Int32)) else (some 1)) = some (R.2 0 (17 + 25 * e)) := by
      rcases wp with wp | wp
      · rw [wp, if_pos rfl]
      · rw [wp, if_neg (by decide)]
    unfold f_NB_clientAt
    rw [N_own hN, N_0 hN, Option.bind_some, S_hc hS wf, Option.bind_some, tst_y hx, Option.bind_some, S_r8 hS, Option.bind_some, S_cr hS (by omega), Option.bind_some]
    simp only [Option.bind_some]
    rw [C_f g1 (by decide), Option.bind_some, g2.1, C_f g1 (by decide), Option.bind_some, g2.2.1, e1, C_f g1 (by decide), Option.bind_some, g2.2.2.1, C_f g1 (by decide), Option.bind_some, g2.2.2.2.2.1, C_f g1 (by decide), Option.bind_some, g2.2.2.2.1, e5, Option.bind_some]
    split
    · rfl
    · split
      · rfl
      · split
        · rfl
        · split
          · rfl
          · split
            · rfl
            · split
              · rfl
              · rfl
  · have em := Mo_cat_no (σ := H) (r := r) (R := R) (x := x) (y := y) wf rfl hx
    rw [Mo_eq hm] at em
    refine ⟨_, ?_, em⟩
    unfold f_NB_clientAt
    rw [N_own hN, N_0 hN, Option.bind_some, S_hc hS wf, Option.bind_some, tst_n hx]
theorem M_log (h : INV H c r R) : ∃ z, f_NB_log c x y H = some z ∧ f_Mo_log r x y H = some z := by
  obtain ⟨hr, hm, hL, hT, k, n, v, hC, r3, r8, r1⟩ := id h
  obtain ⟨wf, hN, hS, ⟨J, hJ⟩, hP, hB, hD, hI⟩ := id hC
  have hC6 := wf.2.1.1.2
  by_cases hx : inI x (nC (R.2 0))
  · by_cases hy : 0 ≤ y.toInt ∧ y.toInt ≤ 11
    · obtain ⟨e, he, rfl⟩ := inI_of hx (by omega)
      obtain ⟨i, hi, rfl⟩ : ∃ i, i < 12 ∧ y = nI i := inI_of ⟨hy.1, by omega⟩ (by decide)
      have em := Mo_log_at (σ := H) (r := r) (R := R) wf rfl he hi
      rw [Mo_eq hm] at em
      refine ⟨_, ?_, em⟩
      obtain ⟨Rc, g1, g2⟩ := S_cl hS wf he
      have wo := fun z => Client_own (σ := H) (a := c + 1 + 5 + 3 * e) (R := Rc) (α := Int32) (x := z)
      have w6 := Client_g6 (σ := H) (a := c + 1 + 5 + 3 * e) (R := Rc)
      have wa := Client_a6 (σ := H) (a := c + 1 + 5 + 3 * e) (R := Rc) hi
      rw [Client_eq g1] at wo w6 wa
      have el : f_Client_latest (c + 1 + 5 + 3 * e) (nI i) H = some (if R.2 0 (18 + 25 * e) ≤ nI i then -1 else R.2 0 (21 + 25 * e + i)) := by
        unfold f_Client_latest
        rw [wo, C_f g1 (by decide), Option.bind_some, g2.2.2.1, w6, Option.bind_some, wa, Option.bind_some]
        by_cases hh : R.2 0 (18 + 25 * e) ≤ nI i
        · rw [if_pos hh, if_pos hh]
        · rw [if_neg hh, if_neg hh, g2.2.2.2.2.2.1 i hi hh]
      unfold f_NB_log
      rw [N_own hN, N_0 hN, Option.bind_some, S_hc hS wf, Option.bind_some, tst_y hx, wi_lit, Option.bind_some, tsw_y (a := 0) (b := 11) hy, Option.bind_some, S_r8 hS, Option.bind_some, S_cr hS (by omega), Option.bind_some, el, Option.bind_some]
    · have em := Mo_log_bad (σ := H) (r := r) (R := R) (x := x) (y := y) wf rfl hx hy
      rw [Mo_eq hm] at em
      refine ⟨_, ?_, em⟩
      unfold f_NB_log
      rw [N_own hN, N_0 hN, Option.bind_some, S_hc hS wf, Option.bind_some, tst_y hx, wi_lit, Option.bind_some, tsw_n (a := 0) (b := 11) hy]
  · have em := Mo_log_no (σ := H) (r := r) (R := R) (x := x) (y := y) wf rfl hx
    rw [Mo_eq hm] at em
    refine ⟨_, ?_, em⟩
    unfold f_NB_log
    rw [N_own hN, N_0 hN, Option.bind_some, S_hc hS wf, Option.bind_some, tst_n hx]
end ME4
