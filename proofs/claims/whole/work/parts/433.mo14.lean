/-! ===== the reference: puts, its end ===== -/
theorem nI_cl {k : Nat} (h : k < 2 ^ 31) : (nI k).toNatClampNeg = k := by
  have h0 : (0 : Int32) ≤ nI k := by
    rw [fo_le, nI_toInt h]
    exact Int.natCast_nonneg k
  obtain ⟨-, -, e⟩ := fo_nat h0
  rw [nI_toInt h] at e
  omega
theorem ptF_out {s : Nat → Int32} (hs : Wf s) {G : Nat} {n : Int32} {j : Nat} (hj : ∀ c, c < nC s → j < 18 + 25 * c ∨ 41 + 25 * c ≤ j) : ∀ (m k : Nat) (s' : Nat → Int32), k + m = nC s → (∀ j, 16 + 25 * k ≤ j → s' j = s j) → ptF G n m k s' j = s' j
  | 0, _, _, _, _ => rfl
  | m + 1, k, s', hk, h => by
    obtain ⟨-, -, k1, k2⟩ := hs.2.1.2 k (by omega)
    have hkp : kpt s' k = kpt s k := by unfold kpt; rw [h _ (by omega)]
    have k1' : s' (20 + 25 * k) = nI (kpt s' k) := by rw [h _ (by omega), hkp]; exact k1
    have k2' : kpt s' k ≤ 8 := by rw [hkp]; exact k2
    rw [ptF, ptF_out hs hj m (k + 1) _ (by omega) (fun i hi => by rw [stS_out k2' k1' (by omega)]; exact h i (by omega)), stS_out k2' k1' (hj k (by omega))]
/-- the count of kept notices is one -/
def kOK (s : Nat → Int32) (c : Nat) : Prop := ∃ k, k ≤ 8 ∧ s (20 + 25 * c) = nI k
theorem kOK_kpt {s : Nat → Int32} {c : Nat} (h : kOK s c) : s (20 + 25 * c) = nI (kpt s c) ∧ kpt s c ≤ 8 := by
  obtain ⟨k, h1, h2⟩ := h
  have e : kpt s c = k := by unfold kpt; rw [h2, nI_cl (by omega)]
  rw [e]
  exact ⟨h2, h1⟩
theorem stS_k {G c : Nat} {n : Int32} {s : Nat → Int32} (h : kOK s c) : kOK (stS G n c s) c := by
  unfold stS
  split
  · split
    · unfold kOK
      rw [lgS_out (by omega)]
      exact h
    · obtain ⟨k, h1, h2⟩ := h
      unfold kOK wtS
      split
      · refine ⟨8, Nat.le_refl _, ?_⟩
        unfold upd
        rw [if_pos rfl]
        rfl
      · rename_i h8
        have hk : k ≠ 8 := fun q => h8 (by rw [h2, q]; rfl)
        refine ⟨k + 1, by omega, ?_⟩
        unfold upd
        rw [if_pos rfl, h2, nI_1]
  · exact h
theorem ptF_k {s : Nat → Int32} (hs : Wf s) {G : Nat} {n : Int32} {c : Nat} (hc : c < nC s) : ∀ (m k : Nat) (s' : Nat → Int32), k + m = nC s → (∀ j, 16 + 25 * k ≤ j → s' j = s j) → (c < k → kOK s' c) → kOK (ptF G n m k s') c
  | 0, k, _, hk, _, h => h (by omega)
  | m + 1, k, s', hk, h, hck => by
    obtain ⟨-, -, k1, k2⟩ := hs.2.1.2 k (by omega)
    have hkp : kpt s' k = kpt s k := by unfold kpt; rw [h _ (by omega)]
    have k1' : s' (20 + 25 * k) = nI (kpt s' k) := by rw [h _ (by omega), hkp]; exact k1
    have k2' : kpt s' k ≤ 8 := by rw [hkp]; exact k2
    rw [ptF]
    refine ptF_k hs hc m (k + 1) _ (by omega) (fun i hi => by rw [stS_out k2' k1' (by omega)]; exact h i (by omega)) (fun hlt => ?_)
    by_cases e : c = k
    · rw [e]
      exact stS_k ⟨kpt s' k, k2', k1'⟩
    · unfold kOK
      rw [stS_out k2' k1' (by omega)]
      exact hck (by omega)
theorem rel_out {j : Nat} (h : rel j) : ∀ c, c < 6 → j < 18 + 25 * c ∨ 41 + 25 * c ≤ j := by
  intro c hc
  rcases h with h | h | h | ⟨d, hd, h⟩ <;> omega
theorem Wf_congr {s s' : Nat → Int32} (hs : Wf s) (h : ∀ j, rel j → s' j = s j) (h1 : ∀ c, c < nC s → s' (17 + 25 * c) = 0 ∨ s' (17 + 25 * c) = 1) (h2 : ∀ c, c < nC s → kOK s' c) : Wf s' := by
  obtain ⟨-, e0, e1, e2, e3, e4, e5, e6, e7⟩ := TL_congr h
  obtain ⟨⟨⟨b1, b2, b3⟩, b4, b5⟩, ⟨⟨c1, c2⟩, c3⟩, ⟨⟨w1, w2⟩, w3⟩, m1, m2, m3⟩ := hs
  refine ⟨⟨⟨?_, ?_, ?_⟩, ?_, ?_⟩, ⟨⟨?_, ?_⟩, ?_⟩, ⟨⟨?_, ?_⟩, ?_⟩, ?_, ?_, ?_⟩
  · rw [h 0 (Or.inl (by decide)), e0]; exact b1
  · rw [e0]; exact b2
  · rw [e0]; exact b3
  · rw [h 8 (Or.inr (Or.inl (by decide)))]; exact b4
  · intro b q1 q2
    rw [e0] at q2
    rw [h (8 + b) (Or.inr (Or.inl (by omega))), e4]
    exact b5 b q1 q2
  · rw [h 1 (Or.inl (by decide)), e1]; exact c1
  · rw [e1]; exact c2
  · intro c q
    rw [e1] at q
    obtain ⟨a1, -⟩ := c3 c q
    refine ⟨?_, h1 c q, kOK_kpt (h2 c q)⟩
    rw [h (16 + 25 * c) (Or.inr (Or.inr (Or.inr ⟨c, by omega, rfl⟩))), e5, e0]
    exact a1
  · rw [h 2 (Or.inl (by decide)), e2]; exact w1
  · rw [e2]; exact w2
  · intro w q
    rw [e2] at q
    obtain ⟨a1, a2, a3⟩ := w3 w q
    refine ⟨?_, ?_, ?_⟩
    · rw [h (170 + 7 * w) (Or.inr (Or.inr (Or.inl (by omega)))), e6, e1]
      exact a1
    · rw [e7]; exact a2
    · intro t ht
      rw [h (171 + 7 * w + t) (Or.inr (Or.inr (Or.inl (by omega)))), e7]
      exact a3 t ht
  · rw [h 3 (Or.inl (by decide)), e3]; exact m1
  · rw [e3]; exact m2
  · rw [e3]; exact m3
theorem putS_ne {s : Nat → Int32} {c G V j : Nat} (h : j ≠ 4 ∧ j ≠ 5 ∧ j ≠ 6) : putS s c G V j = ptF G (s 4) (nC s) 0 s j := by
  unfold putS upd
  rw [if_neg h.2.2, if_neg h.2.1, if_neg h.1]
theorem putS_rel {s : Nat → Int32} (hs : Wf s) {c G V j : Nat} (h : rel j) : putS s c G V j = s j := by
  have hC6 := hs.2.1.1.2
  rw [putS_ne (by rcases h with h | h | h | ⟨d, hd, h⟩ <;> omega)]
  exact ptF_out hs (fun c hc => rel_out h c (by omega)) _ _ _ (by omega) (fun _ _ => rfl)
theorem putS_wf {s : Nat → Int32} (hs : Wf s) {c G V : Nat} : Wf (putS s c G V) := by
  have hC6 := hs.2.1.1.2
  refine Wf_congr hs (fun j hj => putS_rel hs hj) (fun d hd => ?_) (fun d hd => ?_)
  · rw [putS_ne (by omega), ptF_out hs (fun e he => by omega) _ _ _ (by omega) (fun _ _ => rfl)]
    exact (hs.2.1.2 d hd).2.1
  · unfold kOK
    rw [putS_ne (by omega)]
    exact ptF_k hs hd _ _ _ (by omega) (fun _ _ => rfl) (fun q => by omega)
section MO14
variable {σ : hp_H} {r : Nat}
theorem Mo_rd {R : oR} {A : Nat → Int32} {i : Nat} (h : i < 256) : hp_aI (bk_Mo σ r (sA R 0 A)) (r + 1) 0 (nI i) = some (A i) := by
  rw [Mo_a0 h, sA_at]
theorem Mo_st {R : oR} {A : Nat → Int32} {i : Nat} {x : Int32} (h : i < 256) : hp_sI (bk_Mo σ r (sA R 0 A)) (r + 1) 0 (nI i) x = some (bk_Mo σ r (sA R 0 (upd A i x))) := by
  rw [Mo_s0 h]
  have e : (((sA R 0 A).1, up2 (sA R 0 A).2 0 i x) : oR) = sA (sA R 0 A) 0 (upd ((sA R 0 A).2 0) i x) := rfl
  rw [e, sA_A, sA_at]
theorem Mo_puts {s : Nat → Int32} (hs : Wf s) {R : oR} (h0 : R.2 0 = s) (hI : laidI R s) {b x y z : Nat} (hb : b < nB s) (hx : x < 10) (hy : y < 10) (hz : z < 10) : ∃ R' P c G V, f_Mo_puts r (nI b) (nI x) (nI y) (nI z) (bk_Mo σ r R) = some (nI (pcF 7 G), bk_Mo σ r R') ∧ kps R R' [11, 13, 15, 16, 17, 18] [0, 9, 10, 12, 14] ∧ R'.2 0 = putS s c G V ∧ laidI R' (putS s c G V) ∧ JR s (nt x y z) b P c G V := by
  have hC6 := hs.2.1.1.2
  obtain ⟨R1, P, c, G, V, a1, a2, a3, a4, a5, a6, a7, a8⟩ := Mo_walks (σ := σ) (r := r) hs h0 hI hb hx hy hz
  obtain ⟨F, U, j1, j2, j3, j4, j5⟩ := id a4
  have hP := (JI_lt hs hb j1).1
  have hG : G < 2 ^ 7 := tb_lt (fun i hi => by have := ((j3 i).mp hi).1; omega)
  have hV : V < 2 ^ 7 := by
    rw [j5]
    exact Nat.lt_of_le_of_lt Nat.and_le_left hP
  have h01 : R1.2 0 = s := by rw [a2.2 0 (by decide), h0]
  obtain ⟨f, hf⟩ := hp_fu (nC s + 1) (by omega)
  have hf' : f + nC s + 1 = hp_F := hf.symm
  have p4 : ptF G (s 4) (nC s) 0 s 4 = s 4 := ptF_out hs (fun e he => by omega) _ _ _ (by omega) (fun _ _ => rfl)
  have p5 : ptF G (s 4) (nC s) 0 s 5 = s 5 := ptF_out hs (fun e he => by omega) _ _ _ (by omega) (fun _ _ => rfl)
  have p6 : ptF G (s 4) (nC s) 0 s 6 = s 6 := ptF_out hs (fun e he => by omega) _ _ _ (by omega) (fun _ _ => rfl)
  have h1 := Mo_pt1 (σ := σ) (r := r) hs hG (K := fun z23 σ => (hp_gR σ r 10 0).bind fun q24 => (hp_aI σ q24 0 4).bind fun v25 => (hp_sI σ q24 0 4 (v25 + 1)).bind fun σ => (hp_gR σ r 10 0).bind fun q26 => (hp_aI σ q26 0 5).bind fun v27 => (hp_gI σ r 10 18).bind fun v28 => (hp_sI σ q26 0 5 (v27 + v28)).bind fun σ => (hp_gR σ r 10 0).bind fun q29 => (hp_aI σ q29 0 6).bind fun v30 => (hp_gI σ r 10 17).bind fun v31 => (f_Mo_bits v31).bind fun v33 => (hp_sI σ q29 0 6 (v30 + v33)).bind fun σ => (hp_gI σ r 10 16).bind fun v34 => (f_Mo_bits v34).bind fun v36 => some (v36, σ)) (nC s) 0 f R1 s (by omega) h01 (fun _ _ => rfl) a6
  rw [hf'] at h1
  refine ⟨sA R1 0 (putS s c G V), P, c, G, V, ?_, ?_, sA_at, ?_, a4⟩
  · unfold f_Mo_puts
    rw [Mo_own, a1, Option.bind_some]
    refine (show _ = _ from h1).trans ?_
    unfold putS
    generalize ptF G (s 4) (nC s) 0 s = p at p4 p5 p6 ⊢
    have q5 : ∀ x, upd p 4 x 5 = s 5 := fun x => by unfold upd; rw [if_neg (by decide)]; exact p5
    have q6 : ∀ x y, upd (upd p 4 x) 5 y 6 = s 6 := fun x y => by unfold upd; rw [if_neg (by decide), if_neg (by decide)]; exact p6
    rw [Mo_g0, Option.bind_some, il_4, Mo_rd (by decide), Option.bind_some, Mo_st (by decide), Option.bind_some, Mo_g0, Option.bind_some, il_5, Mo_rd (by decide), Option.bind_some, Mo_g18, Option.bind_some, sA_1, a8, Mo_st (by decide), Option.bind_some, Mo_g0, Option.bind_some, il_6, Mo_rd (by decide), Option.bind_some, Mo_g17, Option.bind_some, sA_1, a7, Mo_bits hV, Option.bind_some, Mo_st (by decide), Option.bind_some, Mo_g16, Option.bind_some, sA_1, a6, Mo_bits hG, Option.bind_some, p4, q5, q6]
  · exact kps_tr (kps_mono a2 (fun _ h => h) (fun j h => List.mem_cons_of_mem _ h)) (kps_A (by decide))
  · obtain ⟨i1, tab, i2, i3⟩ := a3
    exact ⟨i1, tab, tdA_kp i2 (kps_A (fs := []) (as := [0]) (by decide)) (by decide) (by decide), fun q => agr_congr (fun j hj => putS_rel hs hj) (i3 q)⟩
end MO14
