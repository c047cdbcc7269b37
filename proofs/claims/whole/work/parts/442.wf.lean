/-! ===== rows stay as they must be ===== -/
theorem Wf_mk {s : Nat → Int32} {B C W M : Nat} (b0 : s 0 = nI B) (b1 : 1 ≤ B) (b2 : B ≤ 7) (b3 : s 8 = -1) (hb : ∀ b, b ≠ 0 → b < B → ∃ a, a < b ∧ s (8 + b) = nI a) (c0 : s 1 = nI C) (c1 : C ≤ 6) (hc : ∀ c, c < C → (∃ a, a < B ∧ s (16 + 25 * c) = nI a) ∧ (s (17 + 25 * c) = 0 ∨ s (17 + 25 * c) = 1) ∧ kOK s c) (w0 : s 2 = nI W) (w1 : W ≤ 12) (hw : ∀ w, w < W → (∃ o, o < C ∧ s (170 + 7 * w) = nI o) ∧ vb (wbx s w) ∧ ∀ t, t < 6 → s (171 + 7 * w + t) = nI (dgt t (wbx s w))) (m0 : s 3 = nI M) (m1 : 1 ≤ M) (m2 : M ≤ 9) : Wf s ∧ nB s = B ∧ nC s = C ∧ nW s = W ∧ nM s = M := by
  have eB : nB s = B := by unfold nB; rw [b0, nI_cl (by omega)]
  have eC : nC s = C := by unfold nC; rw [c0, nI_cl (by omega)]
  have eW : nW s = W := by unfold nW; rw [w0, nI_cl (by omega)]
  have eM : nM s = M := by unfold nM; rw [m0, nI_cl (by omega)]
  refine ⟨⟨⟨⟨?_, ?_, ?_⟩, b3, ?_⟩, ⟨⟨?_, ?_⟩, ?_⟩, ⟨⟨?_, ?_⟩, ?_⟩, ?_, ?_, ?_⟩, eB, eC, eW, eM⟩
  · rw [eB]; exact b0
  · rw [eB]; exact b1
  · rw [eB]; exact b2
  · intro b h1 h2
    rw [eB] at h2
    obtain ⟨a, h3, h4⟩ := hb b h1 h2
    have e : abS s b = a := by
      unfold abS
      rw [if_pos (by omega), h4, nI_cl (by omega)]
    rw [e]
    exact ⟨h4, h3⟩
  · rw [eC]; exact c0
  · rw [eC]; exact c1
  · intro c h1
    rw [eC] at h1
    obtain ⟨⟨a, h2, h3⟩, h4, h5⟩ := hc c h1
    have e : home s c = a := by
      unfold home
      rw [if_pos (by omega), h3, nI_cl (by omega)]
    rw [e, eB]
    exact ⟨⟨h3, h2⟩, h4, kOK_kpt h5⟩
  · rw [eW]; exact w0
  · rw [eW]; exact w1
  · intro w h1
    rw [eW] at h1
    obtain ⟨⟨a, h2, h3⟩, h4, h5⟩ := hw w h1
    have e : ownr s w = a := by
      unfold ownr
      rw [if_pos (by omega), h3, nI_cl (by omega)]
    rw [e, eC]
    exact ⟨⟨h3, h2⟩, h4, h5⟩
  · rw [eM]; exact m0
  · rw [eM]; exact m1
  · rw [eM]; exact m2
theorem Wf_b {s : Nat → Int32} (hs : Wf s) : ∀ b, b ≠ 0 → b < nB s → ∃ a, a < b ∧ s (8 + b) = nI a := fun b h1 h2 => ⟨abS s b, (hs.1.2.2 b h1 h2).2, (hs.1.2.2 b h1 h2).1⟩
theorem Wf_c {s : Nat → Int32} (hs : Wf s) : ∀ c, c < nC s → (∃ a, a < nB s ∧ s (16 + 25 * c) = nI a) ∧ (s (17 + 25 * c) = 0 ∨ s (17 + 25 * c) = 1) ∧ kOK s c := fun c h => by
  obtain ⟨⟨a1, a2⟩, a3, a4, a5⟩ := hs.2.1.2 c h
  exact ⟨⟨_, a2, a1⟩, a3, _, a5, a4⟩
theorem wbx_eq {s s' : Nat → Int32} {w : Nat} (h : ∀ t, t < 6 → s' (171 + 7 * w + t) = s (171 + 7 * w + t)) : wbx s' w = wbx s w := by
  have h0 := h 0 (by decide)
  have h1 := h 1 (by decide)
  have h2 := h 2 (by decide)
  have h3 := h 3 (by decide)
  have h4 := h 4 (by decide)
  have h5 := h 5 (by decide)
  rw [show 171 + 7 * w + 0 = 171 + 7 * w by omega] at h0
  rw [show 171 + 7 * w + 1 = 172 + 7 * w by omega] at h1
  rw [show 171 + 7 * w + 2 = 173 + 7 * w by omega] at h2
  rw [show 171 + 7 * w + 3 = 174 + 7 * w by omega] at h3
  rw [show 171 + 7 * w + 4 = 175 + 7 * w by omega] at h4
  rw [show 171 + 7 * w + 5 = 176 + 7 * w by omega] at h5
  unfold wbx
  rw [h0, h1, h2, h3, h4, h5]
/-- the wishes where their places are kept -/
theorem Wf_w {s s' : Nat → Int32} (hs : Wf s) {C : Nat} (hC : nC s ≤ C) (h : ∀ j, 170 ≤ j → j < 170 + 7 * nW s → s' j = s j) : ∀ w, w < nW s → (∃ o, o < C ∧ s' (170 + 7 * w) = nI o) ∧ vb (wbx s' w) ∧ ∀ t, t < 6 → s' (171 + 7 * w + t) = nI (dgt t (wbx s' w)) := fun w hw => by
  obtain ⟨⟨a1, a2⟩, a3, a4⟩ := hs.2.2.1.2 w hw
  have e := wbx_eq (s := s) (s' := s') (w := w) (fun t ht => h _ (by omega) (by omega))
  rw [e]
  refine ⟨⟨ownr s w, by omega, by rw [h _ (by omega) (by omega)]; exact a1⟩, a3, fun t ht => ?_⟩
  rw [h _ (by omega) (by omega)]
  exact a4 t ht
theorem brkS_wf {s : Nat → Int32} (hs : Wf s) {b : Nat} (hb : b < nB s) (h7 : nB s ≠ 7) : Wf (brkS s b) ∧ nB (brkS s b) = nB s + 1 := by
  have hB1 := hs.1.1.2.1
  have hB7 := hs.1.1.2.2
  have hC6 := hs.2.1.1.2
  have o : ∀ j, j ≠ 0 → j ≠ 8 + nB s → brkS s b j = s j := fun j h1 h2 => by
    unfold brkS
    rw [upd_ne h1, upd_ne h2]
  have a0 : brkS s b 0 = nI (nB s + 1) := upd_at
  have a8 : brkS s b (8 + nB s) = nI b := by
    unfold brkS
    rw [upd_ne (by omega), upd_at]
  have k := Wf_mk (s := brkS s b) (B := nB s + 1) (C := nC s) (W := nW s) (M := nM s) a0 (by omega) (by omega) (by rw [o 8 (by decide) (by omega)]; exact hs.1.2.1) (fun d h1 h2 => by
    by_cases e : d = nB s
    · rw [e]
      exact ⟨b, hb, a8⟩
    · rw [o _ (by omega) (by omega)]
      exact Wf_b hs d h1 (by omega)) (by rw [o 1 (by decide) (by omega)]; exact hs.2.1.1.1) hC6 (fun c hc => by
    obtain ⟨⟨a, q1, q2⟩, q3, q4⟩ := Wf_c hs c hc
    unfold kOK
    rw [o _ (by omega) (by omega), o _ (by omega) (by omega), o _ (by omega) (by omega)]
    exact ⟨⟨a, by omega, q2⟩, q3, q4⟩) (by rw [o 2 (by decide) (by omega)]; exact hs.2.2.1.1.1) hs.2.2.1.1.2 (Wf_w hs (Nat.le_refl _) (fun j h1 h2 => o j (by omega) (by omega))) (by rw [o 3 (by decide) (by omega)]; exact hs.2.2.2.1) hs.2.2.2.2.1 hs.2.2.2.2.2
  exact ⟨k.1, k.2.1⟩
theorem mstS_wf {s : Nat → Int32} (hs : Wf s) {m : Nat} (h1 : 1 ≤ m) (h9 : m ≤ 9) : Wf (upd s 3 (nI m)) := by
  have hC6 := hs.2.1.1.2
  have hB7 := hs.1.1.2.2
  have o : ∀ j, j ≠ 3 → upd s 3 (nI m) j = s j := fun j h => upd_ne h
  exact (Wf_mk (s := upd s 3 (nI m)) (B := nB s) (C := nC s) (W := nW s) (M := m) (by rw [o 0 (by decide)]; exact hs.1.1.1) hs.1.1.2.1 hB7 (by rw [o 8 (by decide)]; exact hs.1.2.1) (fun d q1 q2 => by
    rw [o _ (by omega)]
    exact Wf_b hs d q1 q2) (by rw [o 1 (by decide)]; exact hs.2.1.1.1) hC6 (fun c hc => by
    unfold kOK
    rw [o _ (by omega), o _ (by omega), o _ (by omega)]
    exact Wf_c hs c hc) (by rw [o 2 (by decide)]; exact hs.2.2.1.1.1) hs.2.2.1.1.2 (Wf_w hs (Nat.le_refl _) (fun j q1 q2 => o j (by omega))) upd_at h1 h9).1
theorem lvS_wf {s : Nat → Int32} (hs : Wf s) {c : Nat} (hc : c < nC s) : Wf (upd s (17 + 25 * c) 0) := by
  have hC6 := hs.2.1.1.2
  refine Wf_congr hs (fun j hj => upd_ne (by rcases hj with q | q | q | ⟨d, q1, q2⟩ <;> omega)) (fun d hd => ?_) (fun d hd => ?_)
  · by_cases e : d = c
    · rw [e]
      exact Or.inl upd_at
    · rw [upd_ne (by omega)]
      exact (Wf_c hs d hd).2.1
  · unfold kOK
    rw [upd_ne (by omega)]
    exact (Wf_c hs d hd).2.2
