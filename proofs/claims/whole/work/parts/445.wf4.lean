/-! ===== rows stay as they must be: part ===== -/
theorem drS_u1 {A : Nat → Int32} {x : Int32} {w n : Nat} : drS (upd A 1 x) w n = upd (drS A w n) 1 x := by
  funext j
  unfold drS sh7
  by_cases h1 : j = 1
  · rw [h1, if_neg (by omega), upd_at, upd_ne (by decide), upd_at]
  · rw [upd_ne h1]
    by_cases h : 170 + 7 * w ≤ j ∧ j < 170 + 7 * w + 7 * (n - 1 - w)
    · rw [if_pos h, if_pos h, upd_ne (by omega), upd_ne (by omega), upd_ne (by omega)]
    · rw [if_neg h, if_neg h]
      by_cases h2 : j = 2
      · rw [h2, upd_at, upd_at]
      · rw [upd_ne h2, upd_ne h1, upd_ne h2]
theorem nW_u1 {A : Nat → Int32} {x : Int32} : nW (upd A 1 x) = nW A := by
  unfold nW
  rw [upd_ne (by decide)]
theorem paF_inv {c : Int32} {x : Int32} : ∀ (n : Nat) (A : Nat → Int32), Wf (upd A 1 x) → n ≤ nW A → (∀ w, n ≤ w → w < nW A → A (170 + 7 * w) ≠ c) → Wf (upd (paF c n A) 1 x) ∧ ∀ w, w < nW (paF c n A) → paF c n A (170 + 7 * w) ≠ c
  | 0, A, h, _, hw => ⟨h, fun w q => hw w (by omega) q⟩
  | n + 1, A, h, hn, hw => by
    have h12 : nW A ≤ 12 := by
      have := h.2.2.1.1.2
      rw [nW_u1] at this
      exact this
    rw [paF]
    by_cases e : A (170 + 7 * n) = c
    · rw [if_pos e]
      have k := drS_wf h (w := n) (by rw [nW_u1]; omega)
      rw [nW_u1, drS_u1, nW_u1] at k
      refine paF_inv n _ k.1 (by rw [k.2]; omega) (fun w q1 q2 => ?_)
      rw [k.2] at q2
      rw [drS_hi (by omega) (by omega), show 170 + 7 * w + 7 = 170 + 7 * (w + 1) by omega]
      exact hw (w + 1) (by omega) (by omega)
    · rw [if_neg e]
      refine paF_inv n A h (by omega) (fun w q1 q2 => ?_)
      by_cases ew : w = n
      · rw [ew]; exact e
      · exact hw w (by omega) q2
theorem parS_wf {s : Nat → Int32} (hs : Wf s) (hC : nC s ≠ 0) : Wf (parS s) ∧ nC (parS s) = nC s - 1 := by
  have hB7 := hs.1.1.2.2
  have hC6 := hs.2.1.1.2
  have hW := hs.2.2.1.1.2
  have e0 : upd (upd s 1 (nI (nC s - 1))) 1 (nI (nC s)) = s := by
    funext j
    by_cases h : j = 1
    · rw [h, upd_at]; exact hs.2.1.1.1.symm
    · rw [upd_ne h, upd_ne h]
  have e1 : parS s 1 = nI (nC s - 1) := paF_1 (cc := nI (nC s - 1)) _ _ (by rw [nW_u1]; exact hW) (by rw [nW_u1, upd_ne (by decide)]; exact hs.2.2.1.1.1) upd_at
  have k := paF_inv (c := nI (nC s - 1)) (x := nI (nC s)) (nW s) (upd s 1 (nI (nC s - 1))) (by rw [e0]; exact hs) (by rw [nW_u1]; omega) (fun w q1 q2 => by rw [nW_u1] at q2; omega)
  have kk : Wf (upd (parS s) 1 (nI (nC s))) ∧ ∀ w, w < nW (parS s) → parS s (170 + 7 * w) ≠ nI (nC s - 1) := k
  obtain ⟨k1, k2⟩ := kk
  generalize parS s = Z at e1 k1 k2
  have o : ∀ j, j ≠ 1 → Z j = upd Z 1 (nI (nC s)) j := fun j h => (upd_ne h).symm
  have eC : nC (upd Z 1 (nI (nC s))) = nC s := by
    have u : upd Z 1 (nI (nC s)) 1 = nI (nC s) := upd_at
    show (upd Z 1 (nI (nC s)) 1).toNatClampNeg = nC s
    rw [u, nI_cl (by omega)]
  generalize hY : upd Z 1 (nI (nC s)) = Y at k1 o eC
  have eW : nW Z = nW Y := by rw [← hY, nW_u1]
  have q := Wf_mk (s := Z) (B := nB Y) (C := nC s - 1) (W := nW Y) (M := nM Y) (by rw [o 0 (by omega)]; exact k1.1.1.1) k1.1.1.2.1 k1.1.1.2.2 (by rw [o 8 (by omega)]; exact k1.1.2.1) (fun d h1 h2 => by
    rw [o _ (by omega)]
    exact Wf_b k1 d h1 h2) e1 (by omega) (fun d hd => by
    unfold kOK
    rw [o _ (by omega), o _ (by omega), o _ (by omega)]
    exact Wf_c k1 d (by omega)) (by rw [o 2 (by omega)]; exact k1.2.2.1.1.1) k1.2.2.1.1.2 (fun w hw => by
    obtain ⟨⟨a, q1, q2⟩, q3⟩ := Wf_w k1 (s' := Z) (C := nC Y) (Nat.le_refl _) (fun j h1 h2 => o j (by omega)) w hw
    have hne := k2 w (by rw [eW]; exact hw)
    have : a ≠ nC s - 1 := fun e => hne (by rw [q2, e])
    exact ⟨⟨a, by omega, q2⟩, q3⟩) (by rw [o 3 (by omega)]; exact k1.2.2.2.1) k1.2.2.2.2.1 k1.2.2.2.2.2
  exact ⟨q.1, q.2.2.1⟩
