/-! ===== the class: what is asked of a State ===== -/
theorem nb_key {s : Nat → Int32} (h : WfB s) {u v : Nat} (hu : u < nB s) (hv : v < nB s) : s (8 + u) = nI v ↔ u ≠ 0 ∧ abS s u = v := by
  obtain ⟨⟨h0, h1, h2⟩, h3, h4⟩ := h
  by_cases hz : u = 0
  · subst hz
    constructor
    · intro q
      rw [show 8 + 0 = 8 from rfl, h3] at q
      have := congrArg Int32.toInt q
      rw [nI_toInt (by omega)] at this
      have h5 : (-1 : Int32).toInt = -1 := rfl
      omega
    · rintro ⟨q, -⟩
      exact absurd rfl q
  · obtain ⟨q1, q2⟩ := h4 u hz hu
    rw [q1, nI_eq (by omega) (by omega)]
    exact ⟨fun q => ⟨hz, q⟩, fun q => q.2⟩
section STQ
variable {H : hp_H} {a : Nat} {s : Nat → Int32} {x y : Int32}
theorem S_hb (h : StI H a s) (wf : Wf s) : f_State_hasBroker a x H = some (if 0 ≤ x.toInt ∧ x.toInt < (nB s : Int) then 1 else 0) := by
  have hB7 := wf.1.1.2.2
  unfold f_State_hasBroker
  rw [S_own h, S_f h (by decide), Option.bind_some, wf.1.1.1, wi_val (by omega), Option.bind_some, z_if]
theorem S_hc (h : StI H a s) (wf : Wf s) : f_State_hasClient a x H = some (if 0 ≤ x.toInt ∧ x.toInt < (nC s : Int) then 1 else 0) := by
  have hB7 := wf.2.1.1.2
  unfold f_State_hasClient
  rw [S_own h, S_f h (by decide), Option.bind_some, wf.2.1.1.1, wi_val (by omega), Option.bind_some, z_if]
theorem S_hw (h : StI H a s) (wf : Wf s) : f_State_hasWish a x H = some (if 0 ≤ x.toInt ∧ x.toInt < (nW s : Int) then 1 else 0) := by
  have hB7 := wf.2.2.1.1.2
  unfold f_State_hasWish
  rw [S_own h, S_f h (by decide), Option.bind_some, wf.2.2.1.1.1, wi_val (by omega), Option.bind_some, z_if]
theorem S_nb (h : StI H a s) (wf : Wf s) {u v : Nat} (hu : u < nB s) (hv : v < nB s) : f_State_areNeighbours a (nI u) (nI v) H = some (if nbrb (abS s) u v = true then 1 else 0) := by
  have hB7 := wf.1.1.2.2
  unfold f_State_areNeighbours
  rw [S_own h, S_hb h wf, Option.bind_some, tst_y (inI_nI hu (by omega)), S_hb h wf, Option.bind_some, tst_y (inI_nI hv (by omega)), S_r7 h, Option.bind_some, S_ab h wf hu, Option.bind_some, Option.bind_some, S_ab h wf hv, Option.bind_some]
  by_cases c1 : u ≠ 0 ∧ abS s u = v
  · rw [if_pos ((nb_key wf.1 hu hv).mpr c1), if_pos (nbrb_iff.mpr (Or.inl c1))]
  · rw [if_neg (fun q => c1 ((nb_key wf.1 hu hv).mp q))]
    by_cases c2 : v ≠ 0 ∧ abS s v = u
    · rw [if_pos ((nb_key wf.1 hv hu).mpr c2), if_pos (nbrb_iff.mpr (Or.inr c2))]
    · rw [if_neg (fun q => c2 ((nb_key wf.1 hv hu).mp q)), if_neg]
      intro q
      rcases nbrb_iff.mp q with q | q
      · exact c1 q
      · exact c2 q
theorem S_nbn (h : StI H a s) (wf : Wf s) (hn : ¬ nbx s x y) : f_State_areNeighbours a x y H = some 0 := by
  have hB7 := wf.1.1.2.2
  by_cases h1 : inI x (nB s)
  · by_cases h2 : inI y (nB s)
    · obtain ⟨u, hu, rfl⟩ := inI_of h1 (by omega)
      obtain ⟨v, hv, rfl⟩ := inI_of h2 (by omega)
      have h3 : ¬ nbrb (abS s) u v = true := fun q => hn ⟨h1, h2, by rw [nI_cl (by omega), nI_cl (by omega)]; exact q⟩
      rw [S_nb h wf hu hv, if_neg h3]
    · unfold f_State_areNeighbours
      rw [S_own h, S_hb h wf, Option.bind_some, tst_y h1, S_hb h wf, Option.bind_some, tst_n h2]
  · unfold f_State_areNeighbours
    rw [S_own h, S_hb h wf, Option.bind_some, tst_n h1]
end STQ
/-- a mask as a number -/
def mkN (p : Nat → Bool) : Nat → Nat → Nat → Nat
  | 0, _, a => a
  | m + 1, k, a => mkN p m (k + 1) (if p k = true then a ||| 2 ^ k else a)
theorem mkI_N {p : Nat → Bool} : ∀ (m k a : Nat), k + m ≤ 31 → mkI p m k (nI a) = nI (mkN p m k a)
  | 0, _, _, _ => rfl
  | m + 1, k, a, h => by
    rw [mkI, mkN]
    by_cases hp : p k = true
    · rw [if_pos hp, if_pos hp, sh_1 (by omega), fo_or]
      exact mkI_N m (k + 1) _ (by omega)
    · rw [if_neg hp, if_neg hp, Int32.or_zero]
      exact mkI_N m (k + 1) _ (by omega)
theorem mkN_tb {p : Nat → Bool} {i : Nat} : ∀ (m k a : Nat), (mkN p m k a).testBit i = true ↔ a.testBit i = true ∨ (k ≤ i ∧ i < k + m ∧ p i = true)
  | 0, k, a => by
    rw [mkN]
    constructor
    · exact Or.inl
    · rintro (h | ⟨h1, h2, -⟩)
      · exact h
      · omega
  | m + 1, k, a => by
    rw [mkN, mkN_tb m (k + 1)]
    by_cases hp : p k = true
    · rw [if_pos hp, tb_or]
      constructor
      · rintro ((h | h) | ⟨h1, h2, h3⟩)
        · exact Or.inl h
        · exact Or.inr ⟨by omega, by omega, by rw [h]; exact hp⟩
        · exact Or.inr ⟨by omega, by omega, h3⟩
      · rintro (h | ⟨h1, h2, h3⟩)
        · exact Or.inl (Or.inl h)
        · by_cases e : i = k
          · exact Or.inl (Or.inr e)
          · exact Or.inr ⟨by omega, by omega, h3⟩
    · rw [if_neg hp]
      constructor
      · rintro (h | ⟨h1, h2, h3⟩)
        · exact Or.inl h
        · exact Or.inr ⟨by omega, by omega, h3⟩
      · rintro (h | ⟨h1, h2, h3⟩)
        · exact Or.inl h
        · by_cases e : i = k
          · rw [e] at h3; exact absurd h3 hp
          · exact Or.inr ⟨by omega, by omega, h3⟩
theorem mkN_0 {p : Nat → Bool} {m i : Nat} : (mkN p m 0 0).testBit i = true ↔ i < m ∧ p i = true := by
  rw [mkN_tb, Nat.zero_testBit]
  constructor
  · rintro (h | ⟨-, h1, h2⟩)
    · cases h
    · exact ⟨by omega, h2⟩
  · rintro ⟨h1, h2⟩
    exact Or.inr ⟨by omega, by omega, h2⟩
theorem mkN_lt {p : Nat → Bool} {m : Nat} : mkN p m 0 0 < 2 ^ m := tb_lt (fun x hx => (mkN_0.mp hx).1)
theorem mkI_0 {p : Nat → Bool} {m : Nat} (h : m ≤ 31) : mkI p m 0 0 = nI (mkN p m 0 0) := mkI_N m 0 0 (by omega)
theorem hld_v {P k : Nat} (hP : P < 2 ^ 31) (hk : k < 32) : f_NB_holds (nI P) (nI k) = some (b01 (P.testBit k)) := by
  unfold f_NB_holds
  by_cases h : P.testBit k = true
  · rw [if_pos ((bit_1 hP hk).mpr h), h]
    rfl
  · rw [if_neg (fun q => h ((bit_1 hP hk).mp q)), Bool.eq_false_iff.mpr h]
    rfl
section STM
variable {H : hp_H} {a : Nat} {s : Nat → Int32} {x y : Int32}
theorem S_no1 (h : StI H a s) (wf : Wf s) {b : Nat} (hb : b < nB s) {K : Int32 → Int32 → Option Int32} : ∀ (m k f : Nat) (z : Int32), k + m = nB s → f_State_neighboursOf_l1 a (nI b) H K (f + m + 1) z (nI k) = K (mkI (fun v => nbrb (abS s) b v) m k z) (nI (nB s))
  | 0, k, f, z, e => by
    have hB7 := wf.1.1.2.2
    rw [f_State_neighboursOf_l1, S_f h (by decide), Option.bind_some, wf.1.1.1, show k = nB s by omega, if_pos ((nI_leI (by omega) (by omega)).mpr (Nat.le_refl _)), mkI]
  | m + 1, k, f, z, e => by
    have hB7 := wf.1.1.2.2
    rw [f_State_neighboursOf_l1, S_f h (by decide), Option.bind_some, wf.1.1.1, if_neg (fun q => by have := (nI_leI (by omega) (by omega)).mp q; omega), S_nb h wf hb (by omega), Option.bind_some, nI_1, mkI]
    by_cases hc : nbrb (abS s) b k = true
    · rw [if_pos hc, if_neg (by decide), if_pos hc]
      exact S_no1 h wf hb m (k + 1) f _ (by omega)
    · rw [if_neg hc, if_pos rfl, if_neg hc, Int32.or_zero]
      exact S_no1 h wf hb m (k + 1) f _ (by omega)
theorem S_nof (h : StI H a s) (wf : Wf s) {b : Nat} (hb : b < nB s) : f_State_neighboursOf a (nI b) H = some (mkI (fun v => nbrb (abS s) b v) (nB s) 0 0) := by
  have hB7 := wf.1.1.2.2
  obtain ⟨f, hf⟩ := hp_fu (nB s + 1) (by omega)
  have hf' : f + nB s + 1 = hp_F := hf.symm
  have q := S_no1 h wf hb (K := fun z6 z7 => some z6) (nB s) 0 f 0 (by omega)
  rw [hf'] at q
  unfold f_State_neighboursOf
  rw [S_own h]
  exact q
theorem S_ch1 (h : StI H a s) (wf : Wf s) {K : Int32 → Int32 → Option Int32} : ∀ (m k f : Nat) (z : Int32), k + m = nC s → f_State_clientsHomeAt_l1 a x H K (f + m + 1) z (nI k) = K (mkI (fun v => decide (s (16 + 25 * v) = x)) m k z) (nI (nC s))
  | 0, k, f, z, e => by
    have hC6 := wf.2.1.1.2
    rw [f_State_clientsHomeAt_l1, S_f h (by decide), Option.bind_some, wf.2.1.1.1, show k = nC s by omega, if_pos ((nI_leI (by omega) (by omega)).mpr (Nat.le_refl _)), mkI]
  | m + 1, k, f, z, e => by
    have hC6 := wf.2.1.1.2
    obtain ⟨Rc, g1, g2⟩ := S_cl h wf (c := k) (by omega)
    have eg : hp_gI H (a + 5 + 3 * k) 2 0 = some (s (16 + 25 * k)) := by
      have := Client_g0 (σ := H) (a := a + 5 + 3 * k) (R := Rc)
      rw [Client_eq g1, g2.1] at this
      exact this
    rw [f_State_clientsHomeAt_l1, S_f h (by decide), Option.bind_some, wf.2.1.1.1, if_neg (fun q => by have := (nI_leI (by omega) (by omega)).mp q; omega), S_r8 h, Option.bind_some, S_cr h (by omega), Option.bind_some, eg, Option.bind_some, nI_1, mkI]
    by_cases hc : s (16 + 25 * k) = x
    · rw [if_pos hc, if_pos (decide_eq_true hc)]
      exact S_ch1 h wf m (k + 1) f _ (by omega)
    · rw [if_neg hc, if_neg (fun q => hc (of_decide_eq_true q)), Int32.or_zero]
      exact S_ch1 h wf m (k + 1) f _ (by omega)
theorem S_cha (h : StI H a s) (wf : Wf s) : f_State_clientsHomeAt a x H = some (mkI (fun v => decide (s (16 + 25 * v) = x)) (nC s) 0 0) := by
  have hC6 := wf.2.1.1.2
  obtain ⟨f, hf⟩ := hp_fu (nC s + 1) (by omega)
  have hf' : f + nC s + 1 = hp_F := hf.symm
  have q := S_ch1 h wf (x := x) (K := fun z6 z7 => some z6) (nC s) 0 f 0 (by omega)
  rw [hf'] at q
  unfold f_State_clientsHomeAt
  rw [S_own h]
  exact q
theorem S_wo1 (h : StI H a s) (wf : Wf s) {P : Nat} (hP : P < 2 ^ 31) {K : Int32 → Int32 → Option Int32} : ∀ (m k f : Nat) (z : Int32), k + m = nW s → f_State_wishesOf_l1 a (nI P) H K (f + m + 1) z (nI k) = K (mkI (fun w => P.testBit (ownr s w)) m k z) (nI (nW s))
  | 0, k, f, z, e => by
    have hW := wf.2.2.1.1.2
    rw [f_State_wishesOf_l1, S_f h (by decide), Option.bind_some, wf.2.2.1.1.1, show k = nW s by omega, if_pos ((nI_leI (by omega) (by omega)).mpr (Nat.le_refl _)), mkI]
  | m + 1, k, f, z, e => by
    have hW := wf.2.2.1.1.2
    have hC6 := wf.2.1.1.2
    obtain ⟨⟨o1, o2⟩, -, -⟩ := wf.2.2.1.2 k (by omega)
    rw [f_State_wishesOf_l1, S_f h (by decide), Option.bind_some, wf.2.2.1.1.1, if_neg (fun q => by have := (nI_leI (by omega) (by omega)).mp q; omega), S_r9 h, Option.bind_some, S_ow h wf (by omega), Option.bind_some, o1, hld_v hP (by omega), Option.bind_some, nI_1, mkI]
    by_cases hc : P.testBit (ownr s k) = true
    · rw [if_pos hc, hc, if_neg (by decide)]
      exact S_wo1 h wf hP m (k + 1) f _ (by omega)
    · rw [if_neg hc, Bool.eq_false_iff.mpr hc, if_pos (show b01 false = 0 from rfl), Int32.or_zero]
      exact S_wo1 h wf hP m (k + 1) f _ (by omega)
theorem S_wof (h : StI H a s) (wf : Wf s) {P : Nat} (hP : P < 2 ^ 31) : f_State_wishesOf a (nI P) H = some (mkI (fun w => P.testBit (ownr s w)) (nW s) 0 0) := by
  have hW := wf.2.2.1.1.2
  obtain ⟨f, hf⟩ := hp_fu (nW s + 1) (by omega)
  have hf' : f + nW s + 1 = hp_F := hf.symm
  have q := S_wo1 h wf hP (K := fun z6 z7 => some z6) (nW s) 0 f 0 (by omega)
  rw [hf'] at q
  unfold f_State_wishesOf
  rw [S_own h]
  exact q
theorem S_wc1 (h : StI H a s) (wf : Wf s) {w : Nat} (hw : w < nW s) {K : Int32 → Int32 → Option Int32} : ∀ (m k f : Nat) (z : Int32), k + m = nW s → f_State_wishesCoveredBy_l1 a (nI w) H K (f + m + 1) z (nI k) = K (mkI (cvP s w) m k z) (nI (nW s))
  | 0, k, f, z, e => by
    have hW := wf.2.2.1.1.2
    rw [f_State_wishesCoveredBy_l1, S_f h (by decide), Option.bind_some, wf.2.2.1.1.1, show k = nW s by omega, if_pos ((nI_leI (by omega) (by omega)).mpr (Nat.le_refl _)), mkI]
  | m + 1, k, f, z, e => by
    have hW := wf.2.2.1.1.2
    have v1 := (wf.2.2.1.2 w hw).2.1
    have v2 := (wf.2.2.1.2 k (by omega)).2.1
    rw [f_State_wishesCoveredBy_l1, S_f h (by decide), Option.bind_some, wf.2.2.1.1.1, if_neg (fun q => by have := (nI_leI (by omega) (by omega)).mp q; omega), S_r10 h, Option.bind_some, S_bx h wf hw, Option.bind_some, Option.bind_some, S_bx h wf (w := k) (by omega), Option.bind_some, bx_covers v1.1 v2.1, Option.bind_some, nI_1, mkI]
    by_cases hk : k = w
    · have hp : ¬ cvP s w k = true := by unfold cvP; rw [hk]; simp
      rw [if_pos ((nI_eq (by omega) (by omega)).mpr hk), if_neg hp, Int32.or_zero]
      exact S_wc1 h wf hw m (k + 1) f _ (by omega)
    · rw [if_neg (fun q => hk ((nI_eq (by omega) (by omega)).mp q))]
      by_cases hc : cov (wbx s w) (wbx s k) = true
      · have hp : cvP s w k = true := by unfold cvP; rw [hc]; simp [hk]
        rw [if_pos hc, if_neg (by decide), if_pos hp]
        exact S_wc1 h wf hw m (k + 1) f _ (by omega)
      · have hp : ¬ cvP s w k = true := by unfold cvP; rw [Bool.and_eq_true]; exact fun q => hc q.2
        rw [if_neg hc, if_pos rfl, if_neg hp, Int32.or_zero]
        exact S_wc1 h wf hw m (k + 1) f _ (by omega)
theorem S_wcb (h : StI H a s) (wf : Wf s) {w : Nat} (hw : w < nW s) : f_State_wishesCoveredBy a (nI w) H = some (mkI (cvP s w) (nW s) 0 0) := by
  have hW := wf.2.2.1.1.2
  obtain ⟨f, hf⟩ := hp_fu (nW s + 1) (by omega)
  have hf' : f + nW s + 1 = hp_F := hf.symm
  have q := S_wc1 h wf hw (K := fun z6 z7 => some z6) (nW s) 0 f 0 (by omega)
  rw [hf'] at q
  unfold f_State_wishesCoveredBy
  rw [S_own h]
  exact q
theorem S_iw1 (h : StI H a s) (wf : Wf s) {N : Nat} (hN : vb N) : ∀ (m k f : Nat), k + m = nW s → f_State_isWished_l1 a (nI N) H (fun _ => some 0) (f + m + 1) (nI k) = some (b01 (anyF (wbP s N) m k))
  | 0, k, f, e => by
    have hW := wf.2.2.1.1.2
    rw [f_State_isWished_l1, S_f h (by decide), Option.bind_some, wf.2.2.1.1.1, show k = nW s by omega, if_pos ((nI_leI (by omega) (by omega)).mpr (Nat.le_refl _))]
    rfl
  | m + 1, k, f, e => by
    have hW := wf.2.2.1.1.2
    have v2 := (wf.2.2.1.2 k (by omega)).2.1
    have n1 := hN.1
    have n2 := v2.1
    rw [f_State_isWished_l1, S_f h (by decide), Option.bind_some, wf.2.2.1.1.1, if_neg (fun q => by have := (nI_leI (by omega) (by omega)).mp q; omega), S_r10 h, Option.bind_some, S_bx h wf (by omega), Option.bind_some, nI_1, anyF]
    by_cases hc : wbx s k = N
    · have hp : wbP s N k = true := by unfold wbP; exact decide_eq_true hc
      rw [if_pos ((nI_eq (by omega) (by omega)).mpr hc), hp, Bool.true_or]
      rfl
    · have hp : wbP s N k = false := by unfold wbP; exact decide_eq_false hc
      rw [if_neg (fun q => hc ((nI_eq (by omega) (by omega)).mp q)), hp, Bool.false_or]
      exact S_iw1 h wf hN m (k + 1) f (by omega)
theorem S_isw (h : StI H a s) (wf : Wf s) {N : Nat} (hN : vb N) : f_State_isWished a (nI N) H = some (b01 (anyF (wbP s N) (nW s) 0)) := by
  have hW := wf.2.2.1.1.2
  obtain ⟨f, hf⟩ := hp_fu (nW s + 1) (by omega)
  have hf' : f + nW s + 1 = hp_F := hf.symm
  have q := S_iw1 h wf hN (nW s) 0 f (by omega)
  rw [hf'] at q
  unfold f_State_isWished
  rw [S_own h]
  exact q
end STM
