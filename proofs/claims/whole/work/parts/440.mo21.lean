/-! ===== the reference: part, drift, refusals of wish ===== -/
/-- the wishes of a client are dropped, from the last on -/
def paF (c : Int32) : Nat → (Nat → Int32) → Nat → Int32
  | 0, A => A
  | w + 1, A => paF c w (if A (170 + 7 * w) = c then drS A w (nW A) else A)
def parS (s : Nat → Int32) : Nat → Int32 := paF (nI (nC s - 1)) (nW s) (upd s 1 (nI (nC s - 1)))
theorem drS_at {A : Nat → Int32} {w n j : Nat} (hn : n ≤ 12) (h : j < 170) (h2 : j ≠ 2) : drS A w n j = A j := by
  unfold drS sh7
  rw [if_neg (by omega), upd_ne h2]
theorem drS_2 {A : Nat → Int32} {w n : Nat} : drS A w n 2 = nI (n - 1) := by
  unfold drS sh7
  rw [if_neg (by omega), upd_at]
theorem paF_1 {c : Int32} {cc : Int32} : ∀ (n : Nat) (A : Nat → Int32), nW A ≤ 12 → A 2 = nI (nW A) → A 1 = cc → paF c n A 1 = cc
  | 0, _, _, _, h => h
  | n + 1, A, h12, h2, h => by
    rw [paF]
    split
    · have e : nW (drS A n (nW A)) = nW A - 1 := by
        unfold nW
        rw [drS_2]
        exact nI_cl (by unfold nW at h12; omega)
      exact paF_1 n _ (by rw [e]; omega) (by rw [e]; exact drS_2) (by rw [drS_at h12 (by omega) (by omega)]; exact h)
    · exact paF_1 n A h12 h2 h
section MO21
variable {σ : hp_H} {r : Nat} {R : oR} {x y : Int32}
theorem Mo_pa1 {cc : Int32} {K : Int32 → hp_H → Option (Int32 × hp_H)} : ∀ (n f : Nat) (A : Nat → Int32), A 1 = cc → A 2 = nI (nW A) → n ≤ nW A → nW A ≤ 12 → f_Mo_part_l1 r K (f + n + 1) (nI n - 1) (bk_Mo σ r (sA R 0 A)) = K (nI 0 - 1) (bk_Mo σ r (sA R 0 (paF cc n A)))
  | 0, f, A, _, _, _, _ => by
    rw [f_Mo_part_l1, if_pos (by decide), paF]
  | n + 1, f, A, h1, h2, hn, h12 => by
    have ew : f_Mo_wish r (nI n) 0 (bk_Mo σ r (sA R 0 A)) = some (A (170 + 7 * n)) := by
      have := Mo_wish (σ := σ) (r := r) (R := sA R 0 A) (w := n) (k := 0) (by omega)
      rw [sA_at, Nat.add_zero] at this
      exact this
    have hlt : ¬ nI n < 0 := fun q => by
      have := (fo_lt _ _).mp q
      rw [nI_toInt (by omega)] at this
      have z : (0 : Int32).toInt = 0 := rfl
      omega
    have em : nI n + (-1) = nI n - 1 := (Int32.sub_eq_add_neg _ _).symm
    rw [f_Mo_part_l1, nI_pred, if_neg hlt, ew, Option.bind_some, Mo_g0, Option.bind_some, Mo_r_1, Option.bind_some, h1, em, paF]
    by_cases hc : A (170 + 7 * n) = cc
    · rw [if_pos hc, if_pos hc, Mo_drp (by omega) h12 h2, Option.bind_some]
      have e : nW (drS A n (nW A)) = nW A - 1 := by
        unfold nW
        rw [drS_2]
        exact nI_cl (by unfold nW at h12; omega)
      exact Mo_pa1 n f _ (by rw [drS_at h12 (by omega) (by omega)]; exact h1) (by rw [e]; exact drS_2) (by rw [e]; omega) (by rw [e]; omega)
    · rw [if_neg hc, if_neg hc]
      exact Mo_pa1 n f A h1 h2 (by omega) h12
theorem Mo_par {k : Nat} {s : Nat → Int32} (hs : Wf s) (hk : k ≤ 16) (h0 : R.2 0 = s) (h3 : R.1 3 = nI k) (hC : nC s ≠ 0) : f_Mo_part r (bk_Mo σ r R) = some (nI (nC s - 1), bk_Mo σ r (sA (dedX R k) 0 (parS s))) := by
  have hC6 := hs.2.1.1.2
  have hW := hs.2.2.1.1.2
  have e1 : hp_aI (bk_Mo σ r R) (r + 1) 0 1 = some (nI (nC s)) := by rw [← hs.2.1.1.1, ← h0]; exact Mo_a0 (i := 1) (by decide)
  have hz : ¬ nI (nC s) = 0 := fun q => by have := (nI_eq (b := 0) (by omega) (by omega)).mp q; omega
  have ep : nI (nC s) - 1 = nI (nC s - 1) := by
    have := nI_pred (nC s - 1)
    rw [show nC s - 1 + 1 = nC s by omega] at this
    exact this
  obtain ⟨f, hf⟩ := hp_fu (nW s + 1) (by omega)
  have hf' : f + nW s + 1 = hp_F := hf.symm
  have u2 : upd s 1 (nI (nC s - 1)) 2 = nI (nW s) := by rw [upd_ne (by decide)]; exact hs.2.2.1.1.1
  have eW : nW (upd s 1 (nI (nC s - 1))) = nW s := by
    unfold nW
    rw [upd_ne (by decide)]
  have q := Mo_pa1 (σ := σ) (r := r) (R := dedX R k) (cc := nI (nC s - 1)) (K := fun z16 σ => (hp_gR σ r 10 0).bind fun q17 => (hp_aI σ q17 0 1).bind fun v18 => some (v18, σ)) (nW s) f (upd s 1 (nI (nC s - 1))) upd_at (by rw [eW]; exact u2) (by rw [eW]; omega) (by rw [eW]; exact hW)
  rw [hf'] at q
  unfold f_Mo_part
  rw [Mo_own, Mo_g0, Option.bind_some, e1, Option.bind_some, if_neg hz, Mo_dd hk h0 h3, Option.bind_some, Mo_g0, Option.bind_some, Mo_r_1, Option.bind_some, Mo_w_1, Option.bind_some, Mo_g0, Option.bind_some, Mo_r_2, Option.bind_some, hs.2.1.1.1, ep, u2]
  refine (show _ = _ from q).trans ?_
  rw [Mo_g0, Option.bind_some, Mo_r_1, Option.bind_some, paF_1 (cc := nI (nC s - 1)) _ _ (by rw [eW]; exact hW) (by rw [eW]; exact u2) upd_at]
  rfl
theorem Mo_par_none {s : Nat → Int32} (hs : Wf s) (h0 : R.2 0 = s) (hC : nC s = 0) : f_Mo_part r (bk_Mo σ r R) = some (-1000000003, bk_Mo σ r R) := by
  have e1 : hp_aI (bk_Mo σ r R) (r + 1) 0 1 = some (nI (nC s)) := by rw [← hs.2.1.1.1, ← h0]; exact Mo_a0 (i := 1) (by decide)
  unfold f_Mo_part
  rw [Mo_own, Mo_g0, Option.bind_some, e1, Option.bind_some, hC, if_pos (show nI 0 = 0 from rfl)]
end MO21
