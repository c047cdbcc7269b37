/-! ===== the reference: walks ===== -/
/-- who gets it: at a place where it is, with a wish that fits -/
def gtc (s : Nat → Int32) (n P c : Nat) : Prop := P.testBit (home s c) = true ∧ wsh s c n = true
/-- the end of a way: places P, links c, those who get it G, brokers in vain V -/
def JR (s : Nat → Int32) (n b P c G V : Nat) : Prop := ∃ F U, JI (nB s) (abS s) (Es s n) b P F c ∧ clo (nB s) (abS s) (Es s n) P ∧ (∀ i, G.testBit i = true ↔ i < nC s ∧ gtc s n P i) ∧ (∀ i, U.testBit i = true ↔ i = b ∨ F.testBit i = true ∨ ∃ c, G.testBit c = true ∧ home s c = i) ∧ V = P &&& (U ^^^ 4294967295)
theorem tb_ext {P Q : Nat} (h : ∀ i, P.testBit i = true ↔ Q.testBit i = true) : P = Q := by
  apply Nat.eq_of_testBit_eq
  intro i
  cases e1 : P.testBit i with
  | true => rw [(h i).mp e1]
  | false =>
    cases e2 : Q.testBit i with
    | true => rw [(h i).mpr e2] at e1; cases e1
    | false => rfl
theorem JR_uni {s : Nat → Int32} {n b P c G V P' c' G' V' : Nat} (h : JR s n b P c G V) (h' : JR s n b P' c' G' V') : P = P' ∧ c = c' ∧ G = G' ∧ V = V' := by
  obtain ⟨F, U, a1, a2, a3, a4, a5⟩ := h
  obtain ⟨F', U', b1, b2, b3, b4, b5⟩ := h'
  obtain ⟨e1, e2, e3⟩ := JI_uni a1 a2 b1 b2
  subst e1
  subst e2
  have eG : G = G' := tb_ext (fun i => (a3 i).trans (b3 i).symm)
  subst eG
  have eU : U = U' := tb_ext (fun i => (a4 i).trans (b4 i).symm)
  subst eU
  exact ⟨rfl, e3, rfl, a5.trans b5.symm⟩
theorem JI_lt {s : Nat → Int32} (hs : Wf s) {n b P F c : Nat} (hb : b < nB s) (hJ : JI (nB s) (abS s) (Es s n) b P F c) : P < 2 ^ 7 ∧ F < 2 ^ 7 ∧ c < 7 := by
  have hB7 := hs.1.1.2.2
  refine ⟨tb_lt (fun i hi => by have := (hJ.1 i hi).1; omega), tb_lt (fun i hi => ?_), ?_⟩
  · obtain ⟨q, q1, q2⟩ := (hJ.2.2.2.1 i).mp hi
    by_cases hqb : q = b
    · rw [hqb] at q2
      exact absurd q2 (NH_no hs.1.tree hb)
    · obtain ⟨u, u1, u2⟩ := hJ.2.2.1 q q1 hqb
      rw [NH_uni hs.1.tree hb q2 u2]
      have := (hJ.1 u u1).1
      omega
  · have := cnt_le P (nB s)
    have := hJ.2.2.2.2
    omega
section MO11
variable {σ : hp_H} {r : Nat}
theorem Mo_w1 {s : Nat → Int32} (hs : Wf s) {tab : Nat → List Nat} (hag : agr s tab) {x1 : Int32} {b x y z : Nat} (hb : b < nB s) (hx : x < 10) (hy : y < 10) (hz : z < 10) {K : Int32 → Int32 → hp_H → Option hp_H} : ∀ (N d f : Nat) (R : oR) (P F c : Nat), d ≤ N → c + d = 7 → R.2 0 = s → tdA R tab → R.1 15 = nI P → R.1 18 = nI c → JI (nB s) (abS s) (Es s (nt x y z)) b P F c → ∃ R' P' F' c', f_Mo_walks_l1 r x1 (nI x) (nI y) (nI z) K (f + d + 1) 1 (nI F) (bk_Mo σ r R) = K 0 (nI F') (bk_Mo σ r R') ∧ kps R R' [15, 18] [] ∧ R'.1 15 = nI P' ∧ R'.1 18 = nI c' ∧ JI (nB s) (abS s) (Es s (nt x y z)) b P' F' c' ∧ clo (nB s) (abS s) (Es s (nt x y z)) P'
  | 0, d, f, R, P, F, c, hN, hd, h0, ht, h15, h18, hJ => by
    have hc6 := (JI_lt hs hb hJ).2.2
    omega
  | N + 1, d, f, R, P, F, c, hN, hd, h0, ht, h15, h18, hJ => by
    have hB7 := hs.1.1.2.2
    have hB1 := hs.1.1.2.1
    have hBB : nB s * nB s ≤ 49 := Nat.mul_le_mul hB7 hB7
    have hc6 := (JI_lt hs hb hJ).2.2
    obtain ⟨g, hg⟩ := hp_fu (nB s * nB s + 1) (by omega)
    have hg' : g + nB s * nB s + 1 = hp_F := hg.symm
    obtain ⟨R', P', F', c', p', e1, e2, e3, e4, e5, e6⟩ := Mo_w2 (σ := σ) (r := r) hs hag (x1 := x1) hb hx hy hz (P0 := P) (F0 := F) (c0 := c) (K := fun z26 z27 z28 σ => f_Mo_walks_l1 r x1 (nI x) (nI y) (nI z) K (f + d) z26 z27 σ) (nB s * nB s) 0 g R P F c false (by omega) h0 ht h15 h18 hJ (Or.inl ⟨rfl, rfl, rfl, rfl, fun i hi => by omega⟩)
    rw [hg'] at e1
    have e1' : f_Mo_walks_l1 r x1 (nI x) (nI y) (nI z) K (f + d + 1) 1 (nI F) (bk_Mo σ r R) = f_Mo_walks_l1 r x1 (nI x) (nI y) (nI z) K (f + d) (b01 p') (nI F') (bk_Mo σ r R') := by
      rw [f_Mo_walks_l1, if_neg (by decide)]
      exact e1
    rcases e6 with ⟨q1, q2, q3, q4, q5⟩ | ⟨q1, q2⟩
    · refine ⟨R', P', F', c', ?_, e2, e3, e4, e5, ?_⟩
      · rw [e1', q1]
        obtain ⟨u, hu⟩ : ∃ u, f + d = u + 1 := ⟨f + d - 1, by omega⟩
        have eb : b01 false = 0 := rfl
        rw [hu, eb, f_Mo_walks_l1, if_pos rfl]
      · intro u v hu hv hn hE
        cases hq : P'.testBit v with
        | true => rfl
        | false =>
          have huB := (e5.1 u hu).1
          have hlt : u * nB s + v < nB s * nB s := by
            have h1 : u * nB s ≤ (nB s - 1) * nB s := Nat.mul_le_mul_right _ (by omega)
            have h2 : (nB s - 1) * nB s + nB s = nB s * nB s := by
              rw [← Nat.succ_mul]
              congr 1
              omega
            omega
          refine absurd ?_ (q5 (u * nB s + v) hlt)
          have ed : (u * nB s + v) / nB s = u := by
            rw [Nat.mul_comm, Nat.mul_add_div (by omega), Nat.div_eq_of_lt hv, Nat.add_zero]
          have em : (u * nB s + v) % nB s = v := by
            rw [Nat.mul_comm, Nat.mul_add_mod, Nat.mod_eq_of_lt hv]
          rw [ed, em, ← q2]
          exact ⟨hu, hq, nbrb_iff.mpr hn, hE⟩
    · have hc6' := (JI_lt hs hb e5).2.2
      have hlt : 7 - c' < d := by omega
      obtain ⟨R2, P2, F2, c2, g1, g2, g3, g4, g5, g6⟩ := Mo_w1 hs hag (x1 := x1) hb hx hy hz (K := K) N (7 - c') (f + d - (7 - c') - 1) R' P' F' c' (by omega) (by omega) (by rw [e2.2 0 (by decide), h0]) (tdA_kp ht e2 (by decide) (by decide)) e3 e4 e5
      refine ⟨R2, P2, F2, c2, ?_, kps_tr e2 g2, g3, g4, g5, g6⟩
      rw [e1', q1]
      rw [show f + d - (7 - c') - 1 + (7 - c') + 1 = f + d by omega] at g1
      exact g1
theorem Mo_w3 {s : Nat → Int32} (hs : Wf s) {x y z P U0 : Nat} (hx : x < 10) (hy : y < 10) (hz : z < 10) (hP : P < 2 ^ 7) (hU0 : U0 < 2 ^ 7) {K : Int32 → Int32 → hp_H → Option hp_H} : ∀ (m k f : Nat) (R : oR) (G U : Nat), k + m = nC s → R.2 0 = s → R.1 15 = nI P → R.1 16 = nI G → (∀ i, G.testBit i = true ↔ i < k ∧ gtc s (nt x y z) P i) → (∀ i, U.testBit i = true ↔ U0.testBit i = true ∨ ∃ c, G.testBit c = true ∧ home s c = i) → ∃ R' G' U', f_Mo_walks_l3 r (nI x) (nI y) (nI z) K (f + m + 1) (nI U) (nI k) (bk_Mo σ r R) = K (nI U') (nI (nC s)) (bk_Mo σ r R') ∧ kps R R' [16] [] ∧ R'.1 16 = nI G' ∧ (∀ i, G'.testBit i = true ↔ i < nC s ∧ gtc s (nt x y z) P i) ∧ (∀ i, U'.testBit i = true ↔ U0.testBit i = true ∨ ∃ c, G'.testBit c = true ∧ home s c = i)
  | 0, k, f, R, G, U, hk, h0, h15, h16, hG, hU => by
    have hC6 := hs.2.1.1.2
    have e1 : hp_aI (bk_Mo σ r R) (r + 1) 0 1 = some (nI (nC s)) := by rw [← hs.2.1.1.1, ← h0]; exact Mo_a0 (i := 1) (by decide)
    refine ⟨R, G, U, ?_, kps_rf, h16, fun i => ?_, hU⟩
    · rw [f_Mo_walks_l3]
      simp only [Mo_g0, Option.bind_some, e1]
      rw [show k = nC s by omega, if_pos ((nI_leI (by omega) (by omega)).mpr (Nat.le_refl _))]
    · rw [show nC s = k by omega]
      exact hG i
  | m + 1, k, f, R, G, U, hk, h0, h15, h16, hG, hU => by
    have hC6 := hs.2.1.1.2
    have hB7 := hs.1.1.2.2
    obtain ⟨⟨c1, c2⟩, -, -⟩ := hs.2.1.2 k (by omega)
    have e1 : hp_aI (bk_Mo σ r R) (r + 1) 0 1 = some (nI (nC s)) := by rw [← hs.2.1.1.1, ← h0]; exact Mo_a0 (i := 1) (by decide)
    have eo : ∀ R1 : oR, R1.2 0 = s → f_Mo_of r (nI k) 0 (bk_Mo σ r R1) = some (nI (home s k)) := by
      intro R1 hR1
      have := Mo_of (σ := σ) (r := r) (R := R1) (c := k) (k := 0) (by omega)
      rw [hR1, Nat.add_zero, c1] at this
      exact this
    have hlt : ¬ nI (nC s) ≤ nI k := fun q => by have := (nI_leI (by omega) (by omega)).mp q; omega
    have ih := Mo_w3 hs hx hy hz hP hU0 (K := K) m (k + 1) f
    have hskip : ¬ gtc s (nt x y z) P k → ∃ R' G' U', f_Mo_walks_l3 r (nI x) (nI y) (nI z) K (f + (m + 1)) (nI U) (nI (k + 1)) (bk_Mo σ r R) = K (nI U') (nI (nC s)) (bk_Mo σ r R') ∧ kps R R' [16] [] ∧ R'.1 16 = nI G' ∧ (∀ i, G'.testBit i = true ↔ i < nC s ∧ gtc s (nt x y z) P i) ∧ (∀ i, U'.testBit i = true ↔ U0.testBit i = true ∨ ∃ c, G'.testBit c = true ∧ home s c = i) := by
      intro hn
      refine ih R G U (by omega) h0 h15 h16 (fun i => ?_) hU
      rw [hG i]
      constructor
      · rintro ⟨q1, q2⟩
        exact ⟨by omega, q2⟩
      · rintro ⟨q1, q2⟩
        by_cases hi : i = k
        · rw [hi] at q2
          exact absurd q2 hn
        · exact ⟨by omega, q2⟩
    rw [f_Mo_walks_l3]
    simp only [Mo_g0, Option.bind_some, e1]
    rw [if_neg hlt]
    simp only [Mo_g15, Option.bind_some, h15, eo R h0, nI_1]
    by_cases d1 : P.testBit (home s k) = true
    · rw [if_pos ((bit_1 (by omega) (by omega)).mpr d1), Mo_isWished hs h0 (by omega) hx hy hz, Option.bind_some]
      by_cases d2 : wsh s k (nt x y z) = true
      · have e2 : b01 (wsh s k (nt x y z)) = 1 := by rw [d2]; rfl
        rw [e2, if_neg (by decide), Mo_g16, Option.bind_some, h16, sh_1 (by omega), fo_or, Mo_p16, Option.bind_some, eo (upd R.1 16 (nI (G ||| 2 ^ k)), R.2) h0, Option.bind_some, sh_1 (by omega), fo_or]
        have hG' : ∀ i, (G ||| 2 ^ k).testBit i = true ↔ i < k + 1 ∧ gtc s (nt x y z) P i := by
          intro i
          rw [tb_or, hG i]
          constructor
          · rintro (⟨q1, q2⟩ | q)
            · exact ⟨by omega, q2⟩
            · rw [q]
              exact ⟨by omega, d1, d2⟩
          · rintro ⟨q1, q2⟩
            by_cases hi : i = k
            · exact Or.inr hi
            · exact Or.inl ⟨by omega, q2⟩
        obtain ⟨R', G', U', g1, g2, g3⟩ := ih (sF R 16 (nI (G ||| 2 ^ k))) (G ||| 2 ^ k) (U ||| 2 ^ home s k) (by omega) h0 (by rw [sF_ne (by decide)]; exact h15) sF_at hG' (fun i => by
          rw [tb_or, hU i]
          constructor
          · rintro ((q | ⟨u, q1, q2⟩) | q)
            · exact Or.inl q
            · exact Or.inr ⟨u, tb_or.mpr (Or.inl q1), q2⟩
            · exact Or.inr ⟨k, tb_or.mpr (Or.inr rfl), q.symm⟩
          · rintro (q | ⟨u, q1, q2⟩)
            · exact Or.inl (Or.inl q)
            · rcases tb_or.mp q1 with q | q
              · exact Or.inl (Or.inr ⟨u, q, q2⟩)
              · rw [q] at q2
                exact Or.inr q2.symm)
        exact ⟨R', G', U', g1, kps_tr (kps_F (by decide)) g2, g3⟩
      · have e2 : b01 (wsh s k (nt x y z)) = 0 := by unfold b01; rw [if_neg d2]
        rw [e2, if_pos rfl]
        exact hskip (fun q => d2 q.2)
    · rw [if_neg (fun q => d1 ((bit_1 (by omega) (by omega)).mp q))]
      exact hskip (fun q => d1 q.1)
theorem Mo_walks {s : Nat → Int32} (hs : Wf s) {R : oR} (h0 : R.2 0 = s) (hI : laidI R s) {b x y z : Nat} (hb : b < nB s) (hx : x < 10) (hy : y < 10) (hz : z < 10) : ∃ R' P c G V, f_Mo_walks r (nI b) (nI x) (nI y) (nI z) (bk_Mo σ r R) = some (bk_Mo σ r R') ∧ kps R R' [11, 13, 15, 16, 17, 18] [9, 10, 12, 14] ∧ laidI R' s ∧ JR s (nt x y z) b P c G V ∧ R'.1 15 = nI P ∧ R'.1 16 = nI G ∧ R'.1 17 = nI V ∧ R'.1 18 = nI c := by
  have hB7 := hs.1.1.2.2
  have hC6 := hs.2.1.1.2
  obtain ⟨R1, tab, a1, a2, a3, a4, a5⟩ := Mo_lays (σ := σ) (r := r) hs h0 hI
  have hb7 : b < 31 := by omega
  have hm1 : ∀ A B : oR, kps A B [11, 13] [9, 10, 12, 14] → kps A B [11, 13, 15, 16, 17, 18] [9, 10, 12, 14] := fun A B q => kps_mono q (fun j h => by simp only [List.mem_cons, List.not_mem_nil, or_false] at h; rcases h with rfl | rfl <;> decide) (fun _ h => h)
  unfold f_Mo_walks
  rw [Mo_own, a1, Option.bind_some, sh_1 hb7, Mo_p15, Option.bind_some, Mo_p18, Option.bind_some]
  generalize hR2 : ((upd (upd R1.1 15 (nI (2 ^ b)), R1.2).1 18 0, (upd R1.1 15 (nI (2 ^ b)), R1.2).2) : oR) = R2
  have hR2' : R2 = sF (sF R1 15 (nI (2 ^ b))) 18 (nI 0) := hR2.symm
  have k2 : kps R1 R2 [11, 13, 15, 16, 17, 18] [9, 10, 12, 14] := by
    rw [hR2']
    exact kps_tr (kps_F (by decide)) (kps_F (by decide))
  have h02 : R2.2 0 = s := by rw [k2.2 0 (by decide), a2.2 0 (by decide), h0]
  have ht2 : tdA R2 tab := by rw [hR2']; exact a4
  have h152 : R2.1 15 = nI (2 ^ b) := by rw [hR2', sF_ne (by decide)]; exact sF_at
  have h182 : R2.1 18 = nI 0 := by rw [hR2']; exact sF_at
  obtain ⟨f1, hf1⟩ := hp_fu 8 (by decide)
  have hf1' : f1 + 7 + 1 = hp_F := hf1.symm
  obtain ⟨f2, hf2⟩ := hp_fu (nC s + 1) (by omega)
  have hf2' : f2 + nC s + 1 = hp_F := hf2.symm
  generalize hK : (fun z29 z30 σ => (hp_pI σ r 10 16 0).bind fun σ => f_Mo_walks_l3 r (nI x) (nI y) (nI z) (fun z44 z45 σ => (hp_gI σ r 10 15).bind fun v46 => (hp_pI σ r 10 17 (v46 &&& (z44 ^^^ (-1)))).bind fun σ => some σ) hp_F (z30 ||| nI (2 ^ b)) 0 σ : Int32 → Int32 → hp_H → Option hp_H) = K
  obtain ⟨R3, P, F, c, w1, w2, w3, w4, w5, w6⟩ := Mo_w1 (σ := σ) (r := r) hs a5 (x1 := nI b) hb hx hy hz (K := K) 7 7 f1 R2 (2 ^ b) 0 0 (Nat.le_refl _) (by decide) h02 ht2 h152 h182 (JI_0 hs.1.tree hb)
  rw [hf1'] at w1
  obtain ⟨hPl, hFl, hcl⟩ := JI_lt hs hb w5
  have k3 : kps R2 R3 [11, 13, 15, 16, 17, 18] [9, 10, 12, 14] := kps_mono w2 (fun j h => by simp only [List.mem_cons, List.not_mem_nil, or_false] at h; rcases h with rfl | rfl <;> decide) (fun j h => by cases h)
  have h03 : R3.2 0 = s := by rw [k3.2 0 (by decide), h02]
  have hUl : (F ||| 2 ^ b) < 2 ^ 7 := tb_lt (fun i hi => by
    rcases tb_or.mp hi with q | q
    · rcases Nat.lt_or_ge i 7 with q2 | q2
      · exact q2
      · have := Nat.testBit_lt_two_pow (Nat.lt_of_lt_of_le hFl (Nat.pow_le_pow_right (by decide) q2))
        rw [q] at this
        cases this
    · omega)
  generalize hR4 : sF R3 16 (nI 0) = R4
  have k4 : kps R3 R4 [11, 13, 15, 16, 17, 18] [9, 10, 12, 14] := by rw [← hR4]; exact kps_F (by decide)
  obtain ⟨R5, G, U, g1, g2, g3, g4, g5⟩ := Mo_w3 (σ := σ) (r := r) hs hx hy hz hPl hUl (K := fun z44 z45 σ => (hp_gI σ r 10 15).bind fun v46 => (hp_pI σ r 10 17 (v46 &&& (z44 ^^^ (-1)))).bind fun σ => some σ) (nC s) 0 f2 R4 0 (F ||| 2 ^ b) (by omega) (by rw [k4.2 0 (by decide), h03]) (by rw [← hR4, sF_ne (by decide)]; exact w3) (by rw [← hR4]; exact sF_at) (fun i => ⟨fun q => by simp at q, fun q => by omega⟩) (fun i => ⟨Or.inl, fun q => q.elim id (fun ⟨u, q1, _⟩ => by simp at q1)⟩)
  rw [hf2'] at g1
  have k5 : kps R4 R5 [11, 13, 15, 16, 17, 18] [9, 10, 12, 14] := kps_mono g2 (fun j h => by rw [List.mem_singleton.mp h]; decide) (fun j h => by cases h)
  have h155 : R5.1 15 = nI P := by rw [g2.1 15 (by decide), ← hR4, sF_ne (by decide)]; exact w3
  have h115 : R5.1 11 = 1 := by rw [g2.1 11 (by decide), ← hR4, sF_ne (by decide), w2.1 11 (by decide), hR2', sF_ne (by decide), sF_ne (by decide)]; exact a3
  refine ⟨sF R5 17 (nI (P &&& (U ^^^ 4294967295))), P, c, G, P &&& (U ^^^ 4294967295), ?_, ?_, ?_, ?_, ?_, ?_, sF_at, ?_⟩
  · refine w1.trans ?_
    rw [← hK]
    show ((hp_pI (bk_Mo σ r R3) r 10 16 0).bind fun σ => f_Mo_walks_l3 r (nI x) (nI y) (nI z) (fun z44 z45 σ => (hp_gI σ r 10 15).bind fun v46 => (hp_pI σ r 10 17 (v46 &&& (z44 ^^^ (-1)))).bind fun σ => some σ) hp_F (nI F ||| nI (2 ^ b)) 0 σ) = _
    rw [Mo_p16, Option.bind_some, fo_or]
    have e4 : ((upd R3.1 16 0, R3.2) : oR) = R4 := hR4
    rw [e4]
    refine (show _ = _ from g1).trans ?_
    rw [Mo_g15, Option.bind_some, h155]
    have em : (-1 : Int32) = nI 4294967295 := rfl
    rw [em, fo_xor, fo_and, Mo_p17, Option.bind_some]
    rfl
  · exact kps_tr (hm1 _ _ a2) (kps_tr k2 (kps_tr k3 (kps_tr k4 (kps_tr k5 (kps_F (by decide))))))
  · refine ⟨Or.inr (by rw [sF_ne (by decide)]; exact h115), tab, ?_, fun _ => a5⟩
    have t3 := tdA_kp ht2 w2 (by decide) (by decide)
    have t4 : tdA R4 tab := by rw [← hR4]; exact t3
    have t5 := tdA_kp t4 g2 (by decide) (by decide)
    exact t5
  · refine ⟨F, U, w5, w6, g4, fun i => ?_, rfl⟩
    rw [g5 i, tb_or]
    constructor
    · rintro ((q | q) | q)
      · exact Or.inr (Or.inl q)
      · exact Or.inl q
      · exact Or.inr (Or.inr q)
    · rintro (q | q | q)
      · exact Or.inl (Or.inr q)
      · exact Or.inl (Or.inl q)
      · exact Or.inr q
  · rw [sF_ne (by decide)]; exact h155
  · rw [sF_ne (by decide)]; exact g3
  · rw [sF_ne (by decide), g2.1 18 (by decide), ← hR4, sF_ne (by decide)]; exact w4
end MO11
