/-! ===== rows stay as they must be: client, come, drop ===== -/
theorem cliS_wf {s : Nat → Int32} (hs : Wf s) {b : Nat} (hb : b < nB s) (h6 : nC s ≠ 6) : Wf (cliS s b) ∧ nC (cliS s b) = nC s + 1 := by
  have hB7 := hs.1.1.2.2
  have hC6 := hs.2.1.1.2
  have hW := hs.2.2.1.1.2
  have o : ∀ j, j ≠ 1 → (j < 16 + 25 * nC s ∨ 41 + 25 * nC s ≤ j) → cliS s b j = s j := fun j h1 h2 => by
    unfold cliS
    rw [upd_ne h1, upd_ne (by omega), upd_ne (by omega), wr_out (by omega)]
  have a1 : cliS s b 1 = nI (nC s + 1) := upd_at
  have a16 : cliS s b (16 + 25 * nC s) = nI b := by
    unfold cliS
    rw [upd_ne (by omega), upd_ne (by omega), upd_at]
  have a17 : cliS s b (17 + 25 * nC s) = 1 := by
    unfold cliS
    rw [upd_ne (by omega), upd_at]
  have a20 : cliS s b (20 + 25 * nC s) = nI 0 := by
    unfold cliS
    rw [upd_ne (by omega), upd_ne (by omega), upd_ne (by omega)]
    exact (congrArg _ (show 20 + 25 * nC s = 16 + 25 * nC s + 4 by omega)).trans (wr_in (by decide))
  have k := Wf_mk (s := cliS s b) (B := nB s) (C := nC s + 1) (W := nW s) (M := nM s) (by rw [o 0 (by decide) (by omega)]; exact hs.1.1.1) hs.1.1.2.1 hB7 (by rw [o 8 (by decide) (by omega)]; exact hs.1.2.1) (fun d h1 h2 => by
    rw [o _ (by omega) (by omega)]
    exact Wf_b hs d h1 h2) a1 (by omega) (fun c hc => by
    by_cases e : c = nC s
    · rw [e]
      exact ⟨⟨b, hb, a16⟩, Or.inr a17, 0, by omega, a20⟩
    · unfold kOK
      rw [o _ (by omega) (by omega), o _ (by omega) (by omega), o _ (by omega) (by omega)]
      exact Wf_c hs c (by omega)) (by rw [o 2 (by decide) (by omega)]; exact hs.2.2.1.1.1) hW (Wf_w hs (by omega) (fun j h1 h2 => o j (by omega) (by omega))) (by rw [o 3 (by decide) (by omega)]; exact hs.2.2.2.1) hs.2.2.2.2.1 hs.2.2.2.2.2
  exact ⟨k.1, k.2.2.1⟩
theorem cmF_out {c j : Nat} (h : j < 18 + 25 * c ∨ 33 + 25 * c ≤ j ∨ j = 19 + 25 * c ∨ j = 20 + 25 * c) : ∀ (m i : Nat) (s : Nat → Int32), cmF c m i s j = s j
  | 0, _, _ => rfl
  | m + 1, i, s => by rw [cmF, cmF_out h m (i + 1), lgS_out h]
theorem comS_wf {s : Nat → Int32} (hs : Wf s) {b c : Nat} (hb : b < nB s) (hc : c < nC s) : Wf (comS s c b) := by
  have hB7 := hs.1.1.2.2
  have hC6 := hs.2.1.1.2
  have hW := hs.2.2.1.1.2
  have o : ∀ j, (j < 16 + 25 * c ∨ 33 + 25 * c ≤ j) → comS s c b j = s j := fun j h2 => by
    unfold comS
    rw [upd_ne (by omega), upd_ne (by omega), upd_ne (by omega), cmF_out (by omega)]
  have a16 : comS s c b (16 + 25 * c) = nI b := by
    unfold comS
    rw [upd_ne (by omega), upd_at]
  have a17 : comS s c b (17 + 25 * c) = 1 := upd_at
  have a20 : comS s c b (20 + 25 * c) = nI 0 := by
    unfold comS
    rw [upd_ne (by omega), upd_ne (by omega), upd_at]
    rfl
  exact (Wf_mk (s := comS s c b) (B := nB s) (C := nC s) (W := nW s) (M := nM s) (by rw [o 0 (by omega)]; exact hs.1.1.1) hs.1.1.2.1 hB7 (by rw [o 8 (by omega)]; exact hs.1.2.1) (fun d h1 h2 => by
    rw [o _ (by omega)]
    exact Wf_b hs d h1 h2) (by rw [o 1 (by omega)]; exact hs.2.1.1.1) hC6 (fun d hd => by
    by_cases e : d = c
    · rw [e]
      exact ⟨⟨b, hb, a16⟩, Or.inr a17, 0, by omega, a20⟩
    · unfold kOK
      rw [o _ (by omega), o _ (by omega), o _ (by omega)]
      exact Wf_c hs d hd) (by rw [o 2 (by omega)]; exact hs.2.2.1.1.1) hW (Wf_w hs (Nat.le_refl _) (fun j h1 h2 => o j (by omega))) (by rw [o 3 (by omega)]; exact hs.2.2.2.1) hs.2.2.2.2.1 hs.2.2.2.2.2).1
theorem wbx_to {s s' : Nat → Int32} {w v : Nat} (hw : w < 12) (hv : v < 12) (h : ∀ t, t < 6 → s' (171 + 7 * w + t) = s (171 + 7 * v + t)) : wbx s' w = wbx s v := by
  have h0 := h 0 (by decide)
  have h1 := h 1 (by decide)
  have h2 := h 2 (by decide)
  have h3 := h 3 (by decide)
  have h4 := h 4 (by decide)
  have h5 := h 5 (by decide)
  rw [show 171 + 7 * w + 0 = 171 + 7 * w by omega, show 171 + 7 * v + 0 = 171 + 7 * v by omega] at h0
  rw [show 171 + 7 * w + 1 = 172 + 7 * w by omega, show 171 + 7 * v + 1 = 172 + 7 * v by omega] at h1
  rw [show 171 + 7 * w + 2 = 173 + 7 * w by omega, show 171 + 7 * v + 2 = 173 + 7 * v by omega] at h2
  rw [show 171 + 7 * w + 3 = 174 + 7 * w by omega, show 171 + 7 * v + 3 = 174 + 7 * v by omega] at h3
  rw [show 171 + 7 * w + 4 = 175 + 7 * w by omega, show 171 + 7 * v + 4 = 175 + 7 * v by omega] at h4
  rw [show 171 + 7 * w + 5 = 176 + 7 * w by omega, show 171 + 7 * v + 5 = 176 + 7 * v by omega] at h5
  unfold wbx
  rw [if_pos hw, if_pos hv, h0, h1, h2, h3, h4, h5]
theorem drS_lo {s : Nat → Int32} {w n j : Nat} (h2 : j ≠ 2) (h : j < 170 + 7 * w) : drS s w n j = s j := by
  unfold drS sh7
  rw [if_neg (by omega), upd_ne h2]
theorem drS_hi {s : Nat → Int32} {w n j : Nat} (h : 170 + 7 * w ≤ j) (h1 : j < 170 + 7 * (n - 1)) : drS s w n j = s (j + 7) := by
  unfold drS sh7
  rw [if_pos (by omega), upd_ne (by omega)]
theorem drS_wf {s : Nat → Int32} (hs : Wf s) {w : Nat} (hw : w < nW s) : Wf (drS s w (nW s)) ∧ nW (drS s w (nW s)) = nW s - 1 := by
  have hB7 := hs.1.1.2.2
  have hC6 := hs.2.1.1.2
  have hW := hs.2.2.1.1.2
  have o : ∀ j, j ≠ 2 → j < 170 → drS s w (nW s) j = s j := fun j h1 h2 => drS_lo h1 (by omega)
  have k := Wf_mk (s := drS s w (nW s)) (B := nB s) (C := nC s) (W := nW s - 1) (M := nM s) (by rw [o 0 (by omega) (by omega)]; exact hs.1.1.1) hs.1.1.2.1 hB7 (by rw [o 8 (by omega) (by omega)]; exact hs.1.2.1) (fun d h1 h2 => by
    rw [o _ (by omega) (by omega)]
    exact Wf_b hs d h1 h2) (by rw [o 1 (by omega) (by omega)]; exact hs.2.1.1.1) hC6 (fun d hd => by
    unfold kOK
    rw [o _ (by omega) (by omega), o _ (by omega) (by omega), o _ (by omega) (by omega)]
    exact Wf_c hs d hd) drS_2 (by omega) (fun v hv => by
    by_cases e : v < w
    · obtain ⟨⟨a1, a2⟩, a3, a4⟩ := hs.2.2.1.2 v (by omega)
      rw [wbx_to (s := s) (v := v) (by omega) (by omega) (fun t ht => drS_lo (by omega) (by omega))]
      refine ⟨⟨_, a2, ?_⟩, a3, fun t ht => ?_⟩
      · rw [drS_lo (by omega) (by omega)]
        exact a1
      · rw [drS_lo (by omega) (by omega)]
        exact a4 t ht
    · obtain ⟨⟨a1, a2⟩, a3, a4⟩ := hs.2.2.1.2 (v + 1) (by omega)
      have ej : ∀ t, t < 6 → drS s w (nW s) (171 + 7 * v + t) = s (171 + 7 * (v + 1) + t) := fun t ht => by
        rw [drS_hi (by omega) (by omega), show 171 + 7 * v + t + 7 = 171 + 7 * (v + 1) + t by omega]
      rw [wbx_to (s := s) (v := v + 1) (by omega) (by omega) ej]
      refine ⟨⟨_, a2, ?_⟩, a3, fun t ht => ?_⟩
      · rw [drS_hi (by omega) (by omega), show 170 + 7 * v + 7 = 170 + 7 * (v + 1) by omega]
        exact a1
      · rw [ej t ht]
        exact a4 t ht) (by rw [o 3 (by omega) (by omega)]; exact hs.2.2.2.1) hs.2.2.2.2.1 hs.2.2.2.2.2
  exact ⟨k.1, k.2.2.2.1⟩
