/-! ===== a new reference; the law's pure function answers ===== -/
theorem M_st {H : hp_H} {r n k : Nat} {fs : List Value} (hz : H.2 = r + n) (ho : H.1 r = some (.inl (10, fs))) (hk : k < fs.length) (hn : 1 ≤ n) (v : hp_V) : ∃ H', (∀ K : hp_H → Option hp_H, (hp_nw H v fun q σ => (hp_pR σ r 10 k q).bind K) = K H') ∧ H'.2 = r + (n + 1) ∧ H'.1 r = some (.inl (10, fs.set k (.ref (r + n)))) ∧ H'.1 (r + n) = some v ∧ ∀ x, x ≠ r → x ≠ r + n → H'.1 x = H.1 x := by
  obtain ⟨H1, e1, z1, c1, f1⟩ := nw_x hz v
  obtain ⟨H2, e2, z2, c2, f2⟩ := pR_x (H := H1) (a := r) (k := k) ((f1 r (by omega)).trans ho) hk (r + n)
  refine ⟨H2, fun K => ?_, by omega, c2, ?_, fun x x1 x2 => ?_⟩
  · rw [nw_e, hz, e1, e2, Option.bind_some]
  · rw [f2 _ (by omega)]; exact c1
  · rw [f2 _ x1, f1 _ x2]
def moR : oR := (fun _ => 0, fun j => if j = 0 then s0 else fun _ => 0)
theorem I_Ma {H : hp_H} {r : Nat} (hz : H.2 = r + 1) (ho : H.1 r = some (.inl (10, [.null, .int 0, .null, .int 0, .null, .null, .null, .null, .int 0, .null, .null, .int 0, .null, .int 0, .null, .int 0, .int 0, .int 0, .int 0]))) : ∃ H', (∀ K : hp_H → Option hp_H, (hp_nw H (.inr (.inl (0, 256, fun _ => 0))) fun q1 σ => (hp_pR σ r 10 0 q1).bind fun σ => hp_nw σ (.inr (.inl (0, 4096, fun _ => 0))) fun q2 σ => (hp_pR σ r 10 2 q2).bind fun σ => hp_nw σ (.inr (.inl (0, 514, fun _ => 0))) fun q3 σ => (hp_pR σ r 10 4 q3).bind fun σ => hp_nw σ (.inr (.inl (1, 2, fun _ => 0))) fun q4 σ => (hp_pR σ r 10 5 q4).bind fun σ => hp_nw σ (.inr (.inl (0, 20, fun _ => 0))) fun q5 σ => (hp_pR σ r 10 6 q5).bind K) = K H') ∧ H'.2 = r + 6 ∧ H'.1 r = some (.inl (10, [.ref (r + 1), .int 0, .ref (r + 2), .int 0, .ref (r + 3), .ref (r + 4), .ref (r + 5), .null, .int 0, .null, .null, .int 0, .null, .int 0, .null, .int 0, .int 0, .int 0, .int 0])) ∧ H'.1 (r + 1) = some (.inr (.inl (0, 256, fun _ => 0))) ∧ H'.1 (r + 2) = some (.inr (.inl (0, 4096, fun _ => 0))) ∧ H'.1 (r + 3) = some (.inr (.inl (0, 514, fun _ => 0))) ∧ H'.1 (r + 4) = some (.inr (.inl (1, 2, fun _ => 0))) ∧ H'.1 (r + 5) = some (.inr (.inl (0, 20, fun _ => 0))) ∧ ∀ x, x < r → H'.1 x = H.1 x := by
  obtain ⟨H1, a1, a2, a3, a4, a5⟩ := M_st (k := 0) hz ho (by simp) (by decide) (.inr (.inl (0, 256, fun _ => 0)))
  obtain ⟨H2, b1, b2, b3, b4, b5⟩ := M_st (k := 2) a2 a3 (by simp) (by decide) (.inr (.inl (0, 4096, fun _ => 0)))
  obtain ⟨H3, c1, c2, c3, c4, c5⟩ := M_st (k := 4) b2 b3 (by simp) (by decide) (.inr (.inl (0, 514, fun _ => 0)))
  obtain ⟨H4, d1, d2, d3, d4, d5⟩ := M_st (k := 5) c2 c3 (by simp) (by decide) (.inr (.inl (1, 2, fun _ => 0)))
  obtain ⟨H5, e1, e2, e3, e4, e5⟩ := M_st (k := 6) d2 d3 (by simp) (by decide) (.inr (.inl (0, 20, fun _ => 0)))
  refine ⟨H5, fun K => ?_, e2, e3, ?_, ?_, ?_, ?_, e4, fun x hx => ?_⟩
  · rw [a1, b1, c1, d1, e1]
  · rw [e5 _ (by omega) (by omega), d5 _ (by omega) (by omega), c5 _ (by omega) (by omega), b5 _ (by omega) (by omega)]; exact a4
  · rw [e5 _ (by omega) (by omega), d5 _ (by omega) (by omega), c5 _ (by omega) (by omega)]; exact b4
  · rw [e5 _ (by omega) (by omega), d5 _ (by omega) (by omega)]; exact c4
  · rw [e5 _ (by omega) (by omega)]; exact d4
  · rw [e5 _ (by omega) (by omega), d5 _ (by omega) (by omega), c5 _ (by omega) (by omega), b5 _ (by omega) (by omega), a5 _ (by omega) (by omega)]
theorem I_Mb {H : hp_H} {r : Nat} (hz : H.2 = r + 6) (ho : H.1 r = some (.inl (10, [.ref (r + 1), .int 0, .ref (r + 2), .int 0, .ref (r + 3), .ref (r + 4), .ref (r + 5), .null, .int 0, .null, .null, .int 0, .null, .int 0, .null, .int 0, .int 0, .int 0, .int 0]))) : ∃ H', (∀ K : hp_H → Option hp_H, (hp_nw H (.inr (.inl (0, 20, fun _ => 0))) fun q6 σ => (hp_pR σ r 10 7 q6).bind fun σ => hp_nw σ (.inr (.inl (0, 14, fun _ => 0))) fun q7 σ => (hp_pR σ r 10 9 q7).bind fun σ => hp_nw σ (.inr (.inl (0, 756, fun _ => 0))) fun q8 σ => (hp_pR σ r 10 10 q8).bind fun σ => hp_nw σ (.inr (.inl (0, 480, fun _ => 0))) fun q9 σ => (hp_pR σ r 10 12 q9).bind fun σ => hp_nw σ (.inr (.inl (0, 6, fun _ => 0))) fun q10 σ => (hp_pR σ r 10 14 q10).bind K) = K H') ∧ H'.2 = r + 11 ∧ H'.1 r = some (ce_Mo r moR 0) ∧ H'.1 (r + 6) = some (.inr (.inl (0, 20, fun _ => 0))) ∧ H'.1 (r + 7) = some (.inr (.inl (0, 14, fun _ => 0))) ∧ H'.1 (r + 8) = some (.inr (.inl (0, 756, fun _ => 0))) ∧ H'.1 (r + 9) = some (.inr (.inl (0, 480, fun _ => 0))) ∧ H'.1 (r + 10) = some (.inr (.inl (0, 6, fun _ => 0))) ∧ ∀ x, x < r + 6 → x ≠ r → H'.1 x = H.1 x := by
  obtain ⟨H1, a1, a2, a3, a4, a5⟩ := M_st (k := 7) hz ho (by simp) (by decide) (.inr (.inl (0, 20, fun _ => 0)))
  obtain ⟨H2, b1, b2, b3, b4, b5⟩ := M_st (k := 9) a2 a3 (by simp) (by decide) (.inr (.inl (0, 14, fun _ => 0)))
  obtain ⟨H3, c1, c2, c3, c4, c5⟩ := M_st (k := 10) b2 b3 (by simp) (by decide) (.inr (.inl (0, 756, fun _ => 0)))
  obtain ⟨H4, d1, d2, d3, d4, d5⟩ := M_st (k := 12) c2 c3 (by simp) (by decide) (.inr (.inl (0, 480, fun _ => 0)))
  obtain ⟨H5, e1, e2, e3, e4, e5⟩ := M_st (k := 14) d2 d3 (by simp) (by decide) (.inr (.inl (0, 6, fun _ => 0)))
  refine ⟨H5, fun K => ?_, e2, e3, ?_, ?_, ?_, ?_, e4, fun x hx hx2 => ?_⟩
  · rw [a1, b1, c1, d1, e1]
  · rw [e5 _ (by omega) (by omega), d5 _ (by omega) (by omega), c5 _ (by omega) (by omega), b5 _ (by omega) (by omega)]; exact a4
  · rw [e5 _ (by omega) (by omega), d5 _ (by omega) (by omega), c5 _ (by omega) (by omega)]; exact b4
  · rw [e5 _ (by omega) (by omega), d5 _ (by omega) (by omega)]; exact c4
  · rw [e5 _ (by omega) (by omega)]; exact d4
  · rw [e5 _ (by omega) (by omega), d5 _ (by omega) (by omega), c5 _ (by omega) (by omega), b5 _ (by omega) (by omega), a5 _ (by omega) (by omega)]
theorem I_Mo {H : hp_H} {r : Nat} (hz : H.2 = r + 1) (ho : H.1 r = some (.inl (10, [.null, .int 0, .null, .int 0, .null, .null, .null, .null, .int 0, .null, .null, .int 0, .null, .int 0, .null, .int 0, .int 0, .int 0, .int 0]))) : ∃ H', f_Mo_init r H = some H' ∧ hs H' r 11 (ce_Mo r moR) ∧ ∀ x, x < r → H'.1 x = H.1 x := by
  obtain ⟨H1, a1, a2, a3, a4, a5, a6, a7, a8, a9⟩ := I_Ma hz ho
  obtain ⟨H2, b1, b2, b3, b4, b5, b6, b7, b8, b9⟩ := I_Mb a2 a3
  have g : ∀ H : hp_H, H.1 r = some (ce_Mo r moR 0) → hp_gR H r 10 0 = some (r + 1) := fun H h => ob_gR h rfl
  obtain ⟨H3, c1, c2, c3, c4⟩ := sI_x (H := H2) (a := r + 1) (i := 0) (x := 1) (y := 0) ((b9 _ (by omega) (by omega)).trans a4) (by decide) (by decide) rfl
  obtain ⟨H4, d1, d2, d3, d4⟩ := sI_x (H := H3) (a := r + 1) (i := 3) (x := 9) (y := 3) c3 (by decide) (by decide) rfl
  obtain ⟨H5, e1, e2, e3, e4⟩ := sI_x (H := H4) (a := r + 1) (i := 8) (x := -1) (y := 8) d3 (by decide) (by decide) rfl
  have k3 : H3.1 r = some (ce_Mo r moR 0) := (c4 _ (by omega)).trans b3
  have k4 : H4.1 r = some (ce_Mo r moR 0) := (d4 _ (by omega)).trans k3
  have k5 : H5.1 r = some (ce_Mo r moR 0) := (e4 _ (by omega)).trans k4
  have F : ∀ x, x ≠ r + 1 → H5.1 x = H2.1 x := fun x hx => by rw [e4 _ hx, d4 _ hx, c4 _ hx]
  refine ⟨H5, ?_, fun k hk => ?_, fun x hx => ?_⟩
  · unfold f_Mo_init
    rw [ob_own ho, a1, b1, g _ b3, Option.bind_some, c1, Option.bind_some, g _ k3, Option.bind_some, d1, Option.bind_some, g _ k4, Option.bind_some, e1, Option.bind_some]
  · match k, hk with
    | 0, _ => exact k5
    | 1, _ => exact e3
    | 2, _ => rw [F _ (by omega), b9 _ (by omega) (by omega)]; exact a5
    | 3, _ => rw [F _ (by omega), b9 _ (by omega) (by omega)]; exact a6
    | 4, _ => rw [F _ (by omega), b9 _ (by omega) (by omega)]; exact a7
    | 5, _ => rw [F _ (by omega), b9 _ (by omega) (by omega)]; exact a8
    | 6, _ => rw [F _ (by omega)]; exact b4
    | 7, _ => rw [F _ (by omega)]; exact b5
    | 8, _ => rw [F _ (by omega)]; exact b6
    | 9, _ => rw [F _ (by omega)]; exact b7
    | 10, _ => rw [F _ (by omega)]; exact b8
    | k + 11, h => omega
  · rw [F _ (by omega), b9 _ (by omega) (by omega), a9 _ hx]
theorem CB_at0 {H H' : hp_H} {c : Nat} (h : CB H c s0 (fun _ => 0) 0 (fun _ => 0) (fun _ => 0) 0 (fun _ => 0) (fun _ => 0) 0) (e : ∀ x, c ≤ x → x < c + 480 → H'.1 x = H.1 x) : CB H' c s0 (fun _ => 0) 0 (fun _ => 0) (fun _ => 0) 0 (fun _ => 0) (fun _ => 0) 0 := by
  obtain ⟨h0, h1, h2, ⟨J, h3⟩, h4, ⟨h50, RB, h51, h52⟩, ⟨h60, RD, h61, h62⟩, h7⟩ := h
  exact ⟨h0, ⟨hs_at h1.1 (fun x x1 x2 => e x (by omega) (by omega)), hs_at h1.2 (fun x x1 x2 => e x (by omega) (by omega))⟩, StI_at h2 (fun x x1 x2 => e x (by omega) (by omega)), ⟨J, hs_at h3 (fun x x1 x2 => e x (by omega) (by omega))⟩, PaI_at0 h4 (fun x x1 x2 => e x (by omega) (by omega)), ⟨h50, RB, hs_at h51 (fun x x1 x2 => e x (by omega) (by omega)), h52⟩, ⟨h60, RD, hs_at h61 (fun x x1 x2 => e x (by omega) (by omega)), h62⟩, fun i hi => ImO_at0 (h7 i hi) rfl (fun x x1 x2 => e x (by omega) (by omega))⟩
theorem mo_laid : laidI moR s0 := ⟨Or.inl rfl, fun _ => [], fun k hk => ⟨rfl, Nat.zero_le _, VB_nil, fun i hi => by simp at hi⟩, fun q => absurd (show (0 : Int32) = 1 from q) (by decide)⟩
theorem law_pure (xs : Nat → Int32) (L n : Nat) (hL : L ≤ 4096) : f_Law xs L (fun _ => none, n) = some () := by
  obtain ⟨H1, a1, a2, a3, -⟩ := nw_x (H := (fun _ => none, n)) (n := n) rfl (.inl (9, [.null, .null, .null, .null, .null, .null, .null]))
  obtain ⟨H2, b1, b2, b3, b4⟩ := I_NB a2 a3
  obtain ⟨H3, c1, c2, c3, c4⟩ := nw_x b2 (.inl (10, [.null, .int 0, .null, .int 0, .null, .null, .null, .null, .int 0, .null, .null, .int 0, .null, .int 0, .null, .int 0, .int 0, .int 0, .int 0]))
  obtain ⟨H4, d1, d2, d3⟩ := I_Mo c2 c3
  have F : ∀ x, n ≤ x → x < n + 480 → H4.1 x = H2.1 x := fun x h1 h2 => by rw [d3 x h2, c4 x (by omega)]
  have inv : INV H4 n (n + 480) moR := ⟨Nat.le_refl _, d2, mo_laid, ⟨0, fun _ => [], TeI_at b4 (fun x h1 h2 => F x (by omega) (by omega)), Or.inl rfl, fun q => absurd q (by decide)⟩, 0, 0, 0, CB_at0 b3 F, rfl, rfl, rfl⟩
  obtain ⟨f, hf⟩ := hp_fu 513 (by decide)
  have hf' : f + 512 + 1 = hp_F := hf.symm
  have q := law_l1 (xs := xs) hL 512 0 f H4 moR inv (by decide) (by omega)
  rw [hf'] at q
  unfold f_Law
  rw [nw_e, a1, b1, Option.bind_some, nw_e, b2, c1, d1, Option.bind_some]
  exact q
