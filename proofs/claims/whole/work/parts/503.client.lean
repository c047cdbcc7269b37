/-! ===== what a call leaves as it was ===== -/
def same (H H' : hp_H) (a n : Nat) : Prop := H'.2 = H.2 ∧ ∀ x, (x < a ∨ a + n ≤ x) → H'.1 x = H.1 x
theorem same_rf {H : hp_H} {a n : Nat} : same H H a n := ⟨rfl, fun _ _ => rfl⟩
theorem same_bW {H : hp_H} {a n : Nat} {f : Nat → hp_V} : same H (bW H a n f) a n := ⟨rfl, fun _ h => bW_out h⟩
theorem same_mono {H H' : hp_H} {a n b m : Nat} (h : same H H' a n) (h1 : b ≤ a) (h2 : a + n ≤ b + m) : same H H' b m := ⟨h.1, fun x hx => h.2 x (by omega)⟩
theorem same_tr {H H1 H2 : hp_H} {a n : Nat} (h : same H H1 a n) (h2 : same H1 H2 a n) : same H H2 a n := ⟨h2.1.trans h.1, fun x hx => (h2.2 x hx).trans (h.2 x hx)⟩
theorem hs_same {H H' : hp_H} {a n b m : Nat} {f : Nat → hp_V} (h : hs H a n f) (hw : same H H' b m) (d : a + n ≤ b ∨ b + m ≤ a) : hs H' a n f := fun k hk => (hw.2 _ (by omega)).trans (h k hk)
/-! ===== a client of the class and the client of the row ===== -/
def CR (R : oR) (c : Nat) (s : Nat → Int32) : Prop := R.1 0 = s (16 + 25 * c) ∧ R.1 1 = s (17 + 25 * c) ∧ R.1 2 = s (18 + 25 * c) ∧ R.1 3 = s (19 + 25 * c) ∧ R.1 4 = s (20 + 25 * c) ∧ (∀ i, i < 12 → ¬ s (18 + 25 * c) ≤ nI i → R.2 6 i = s (21 + 25 * c + i)) ∧ ∀ i, i < kpt s c → R.2 5 i = s (33 + 25 * c + i)
theorem CR_congr {R : oR} {c : Nat} {s s' : Nat → Int32} (h : CR R c s) (hk : kpt s c ≤ 8) (e : ∀ j, 16 + 25 * c ≤ j → j < 41 + 25 * c → s' j = s j) : CR R c s' := by
  obtain ⟨h0, h1, h2, h3, h4, h5, h6⟩ := h
  have e20 := e (20 + 25 * c) (by omega) (by omega)
  have e18 := e (18 + 25 * c) (by omega) (by omega)
  have ek : kpt s' c = kpt s c := by
    unfold kpt
    rw [e20]
  refine ⟨h0.trans (e _ (by omega) (by omega)).symm, h1.trans (e _ (by omega) (by omega)).symm, h2.trans e18.symm, h3.trans (e _ (by omega) (by omega)).symm, h4.trans e20.symm, fun i hi hl => ?_, fun i hi => ?_⟩
  · rw [e18] at hl
    rw [h5 i hi hl, e _ (by omega) (by omega)]
  · rw [ek] at hi
    rw [h6 i hi, e _ (by omega) (by omega)]
def entR (R : oR) (n : Int32) : oR := sF (sA R 6 (upd (shU (R.2 6) 0 0 11) 0 n)) 2 (R.1 2 + 1)
theorem lgS_0 {c : Nat} {n : Int32} {s : Nat → Int32} : lgS c n s (21 + 25 * c) = n := by
  unfold lgS
  rw [upd_ne (by omega), upd_at]
theorem lgS_i {c i : Nat} {n : Int32} {s : Nat → Int32} (hi : i < 11) : lgS c n s (21 + 25 * c + (i + 1)) = s (21 + 25 * c + i) := by
  unfold lgS
  rw [upd_ne (by omega), upd_ne (by omega)]
  unfold shU
  rw [if_pos (by omega)]
  rfl
theorem had_1 {x : Int32} {i : Nat} (hi : i < 2 ^ 30) (h : ¬ x + 1 ≤ nI (i + 1)) : ¬ x ≤ nI i := by
  intro q
  apply h
  rw [fo_le] at q ⊢
  rw [nI_toInt (by omega)] at q ⊢
  have h1 := Int32.le_toInt x
  rw [Int32.toInt_add]
  have e1 : (1 : Int32).toInt = 1 := rfl
  rw [e1]
  have : x.toInt + 1 < 2 ^ 31 := by omega
  rw [Int.bmod_eq_of_le (by omega) (by omega)]
  omega
theorem CR_ent {R : oR} {c : Nat} {n : Int32} {s : Nat → Int32} (h : CR R c s) : CR (entR R n) c (lgS c n s) := by
  obtain ⟨h0, h1, h2, h3, h4, h5, h6⟩ := h
  have e18 : lgS c n s (18 + 25 * c) = s (18 + 25 * c) + 1 := upd_at
  have ek : kpt (lgS c n s) c = kpt s c := by
    unfold kpt
    rw [lgS_out (by omega)]
  unfold entR
  refine ⟨?_, ?_, ?_, ?_, ?_, fun i hi hl => ?_, fun i hi => ?_⟩
  · rw [lgS_out (by omega), sF_ne (by decide)]; exact h0
  · rw [lgS_out (by omega), sF_ne (by decide)]; exact h1
  · rw [e18, sF_at, h2]
  · rw [lgS_out (by omega), sF_ne (by decide)]; exact h3
  · rw [lgS_out (by omega), sF_ne (by decide)]; exact h4
  · rw [sF_2, sA_at]
    cases i with
    | zero => rw [upd_at]; exact lgS_0.symm
    | succ i =>
      rw [e18] at hl
      rw [upd_ne (by omega), lgS_i (by omega), ← h5 i (by omega) (had_1 (by omega) hl)]
      unfold shU
      rw [if_pos (by omega)]
      rfl
  · rw [ek] at hi
    rw [sF_2, sA_ne (by decide), h6 i hi]
    by_cases hk : 33 + 25 * c ≤ 33 + 25 * c + i
    · exact (lgS_out (by omega)).symm
    · omega
section CLI
variable {σ : hp_H} {a : Nat}
theorem Cl_en1 {R : oR} {x1 : Int32} {A : Nat → Int32} {K : Int32 → hp_H → Option hp_H} : ∀ (t f : Nat), t ≤ 11 → f_Client_enter_l1 a x1 K (f + t + 1) (nI t) (bk_Client σ a (sA R 6 (shU A 0 t 11))) = K (nI 0) (bk_Client σ a (sA R 6 (shU A 0 0 11)))
  | 0, f, _ => by
    rw [f_Client_enter_l1, if_pos (by decide)]
  | t + 1, f, h => by
    rw [f_Client_enter_l1, if_neg (fun q => by have := (nI_leI (b := 0) (by omega) (by omega)).mp q; omega), Client_g6, Option.bind_some, Option.bind_some, nI_pred, Client_a6 (by omega), Option.bind_some, sA_at, Client_s6 (by omega), Option.bind_some, up2_sA, sA_A, sA_at, pk_m1]
    have e3 : upd (shU A 0 (t + 1) 11) (t + 1) (shU A 0 (t + 1) 11 t) = shU A 0 t 11 := by
      funext k
      have e4 : shU A 0 (t + 1) 11 t = A t := by
        unfold shU
        rw [if_neg (by omega)]
      rw [e4]
      unfold upd shU
      by_cases hk : k = t + 1
      · rw [if_pos hk, if_pos (by omega), hk]
        rfl
      · rw [if_neg hk]
        by_cases h2 : 0 + (t + 1) < k ∧ k ≤ 0 + 11
        · rw [if_pos h2, if_pos (by omega)]
        · rw [if_neg h2, if_neg (by omega)]
    rw [e3]
    exact Cl_en1 t f (by omega)
theorem Cl_ent {R : oR} {n : Int32} : f_Client_enter a n (bk_Client σ a R) = some (bk_Client σ a (entR R n)) := by
  obtain ⟨f, hf⟩ := hp_fu 12 (by decide)
  have hf' : f + 11 + 1 = hp_F := hf.symm
  have e0 : shU (R.2 6) 0 11 11 = R.2 6 := by
    funext k
    unfold shU
    rw [if_neg (by omega)]
  have h1 := Cl_en1 (σ := σ) (a := a) (R := R) (x1 := n) (A := R.2 6) (K := fun z5 σ => (hp_gR σ a 2 6).bind fun q6 => (hp_sI σ q6 0 0 n).bind fun σ => (hp_gI σ a 2 2).bind fun v7 => (hp_pI σ a 2 2 (v7 + 1)).bind fun σ => some σ) 11 f (Nat.le_refl _)
  rw [e0, sA_self, hf'] at h1
  unfold f_Client_enter
  rw [Client_own]
  refine (show _ = _ from h1).trans ?_
  rw [Client_g6, Option.bind_some, show (0 : Int32) = nI 0 from rfl, Client_s6 (by omega), Option.bind_some, up2_sA, sA_A, sA_at, Client_g2, Option.bind_some, Client_p2, Option.bind_some]
  rfl
theorem Cl_lo1 {R : oR} {A : Nat → Int32} {K : Int32 → hp_H → Option hp_H} : ∀ (m t f : Nat), t + m = 7 → f_Client_loseFirst_l1 a K (f + m + 1) (nI t) (bk_Client σ a (sA R 5 (shD A 0 t))) = K (nI 7) (bk_Client σ a (sA R 5 (shD A 0 7)))
  | 0, t, f, h => by
    rw [show t = 7 by omega, f_Client_loseFirst_l1, if_pos (by decide)]
  | m + 1, t, f, h => by
    rw [f_Client_loseFirst_l1, if_neg (fun q => by have := (nI_leI (a := 7) (by omega) (by omega)).mp q; omega), Client_g5, Option.bind_some, Option.bind_some, nI_1, Client_a5 (by omega), Option.bind_some, sA_at, Client_s5 (by omega), Option.bind_some, up2_sA, sA_A, sA_at]
    have e3 : upd (shD A 0 t) t (shD A 0 t (t + 1)) = shD A 0 (t + 1) := by
      funext k
      have e4 : shD A 0 t (t + 1) = A (t + 1) := by
        unfold shD
        rw [if_neg (by omega)]
      rw [e4]
      unfold upd shD
      by_cases hk : k = t
      · rw [if_pos hk, if_pos (by omega), hk]
      · rw [if_neg hk]
        by_cases h2 : 0 ≤ k ∧ k < 0 + t
        · rw [if_pos h2, if_pos (by omega)]
        · rw [if_neg h2, if_neg (by omega)]
    rw [e3]
    exact Cl_lo1 m (t + 1) f (by omega)
theorem Cl_los {R : oR} : f_Client_loseFirst a (bk_Client σ a R) = some (bk_Client σ a (sF (sF (sA R 5 (shD (R.2 5) 0 7)) 4 7) 3 (R.1 3 + 1))) := by
  obtain ⟨f, hf⟩ := hp_fu 8 (by decide)
  have hf' : f + 7 + 1 = hp_F := hf.symm
  have e0 : shD (R.2 5) 0 0 = R.2 5 := by
    funext k
    unfold shD
    rw [if_neg (by omega)]
  have h1 := Cl_lo1 (σ := σ) (a := a) (R := R) (A := R.2 5) (K := fun z5 σ => (hp_pI σ a 2 4 7).bind fun σ => (hp_gI σ a 2 3).bind fun v6 => (hp_pI σ a 2 3 (v6 + 1)).bind fun σ => some σ) 7 0 f (by decide)
  rw [e0, sA_self, hf'] at h1
  unfold f_Client_loseFirst
  rw [Client_own]
  refine (show _ = _ from h1).trans ?_
  rw [Client_p4, Option.bind_some, Client_g3, Option.bind_some, Client_p3, Option.bind_some]
  rfl
theorem Cl_sto {R : oR} {n : Int32} {c : Nat} {s : Nat → Int32} (h : CR R c s) (hk : s (20 + 25 * c) = nI (kpt s c) ∧ kpt s c ≤ 8) : ∃ R', f_Client_store a n (bk_Client σ a R) = some (bk_Client σ a R') ∧ CR R' c (wtS c n s) := by
  obtain ⟨h0, h1, h2, h3, h4, h5, h6⟩ := h
  obtain ⟨k1, k2⟩ := hk
  unfold f_Client_store
  rw [Client_own, Client_g4, Option.bind_some, h4, k1]
  by_cases h8 : kpt s c = 8
  · rw [if_neg (by rw [h8]; decide), Cl_los, Option.bind_some, Client_g5, Option.bind_some, Client_g4, Option.bind_some]
    have e7 : (sF (sF (sA R 5 (shD (R.2 5) 0 7)) 4 7) 3 (R.1 3 + 1)).1 4 = nI 7 := by
      rw [sF_ne (by decide), sF_at]
      rfl
    rw [e7, Client_s5 (by decide), Option.bind_some, up2_sA, Client_g4, Option.bind_some, sA_1, e7, Client_p4, Option.bind_some]
    refine ⟨_, rfl, ?_⟩
    have w : wtS c n s = upd (upd (upd (upd (shD s (33 + 25 * c) 7) (20 + 25 * c) 7) (19 + 25 * c) (s (19 + 25 * c) + 1)) (40 + 25 * c) n) (20 + 25 * c) 8 := by
      unfold wtS
      rw [if_pos (by rw [k1, h8]; rfl)]
    have w20 : wtS c n s (20 + 25 * c) = 8 := by rw [w, upd_at]
    have w19 : wtS c n s (19 + 25 * c) = s (19 + 25 * c) + 1 := by rw [w, upd_ne (by omega), upd_ne (by omega), upd_at]
    have ek : kpt (wtS c n s) c = 8 := by
      unfold kpt
      rw [w20]
      rfl
    have wo : ∀ j, (j < 19 + 25 * c ∨ 41 + 25 * c ≤ j ∨ (21 + 25 * c ≤ j ∧ j < 33 + 25 * c)) → wtS c n s j = s j := fun j hj => wtS_out k2 k1 hj
    refine ⟨?_, ?_, ?_, ?_, ?_, fun i hi hl => ?_, fun i hi => ?_⟩
    · rw [wo _ (by omega)]; exact h0
    · rw [wo _ (by omega)]; exact h1
    · rw [wo _ (by omega)]; exact h2
    · rw [w19, ← h3]; rfl
    · rw [w20]; rfl
    · rw [wo _ (by omega)] at hl ⊢
      exact h5 i hi hl
    · rw [ek] at hi
      show upd (shD (R.2 5) 0 7) 7 n i = _
      by_cases hi7 : i = 7
      · rw [hi7, upd_at, w, upd_ne (by omega), show 33 + 25 * c + 7 = 40 + 25 * c by omega, upd_at]
      · rw [upd_ne hi7, w, upd_ne (by omega), upd_ne (by omega), upd_ne (by omega), upd_ne (by omega)]
        unfold shD
        rw [if_pos (by omega), if_pos (by omega), h6 (i + 1) (by omega)]
        rfl
  · rw [if_pos (show nI (kpt s c) < 8 from (nI_ltI (b := 8) (by omega) (by decide)).mpr (by omega)), Client_g5, Option.bind_some, Option.bind_some, Client_s5 (by omega), Option.bind_some, up2_sA, Client_g4, Option.bind_some, sA_1, h4, k1, nI_1, Client_p4, Option.bind_some]
    refine ⟨_, rfl, ?_⟩
    have w : wtS c n s = upd (upd s (33 + 25 * c + kpt s c) n) (20 + 25 * c) (s (20 + 25 * c) + 1) := by
      unfold wtS
      rw [if_neg (show ¬ s (20 + 25 * c) = 8 from fun q => h8 ((nI_eq (b := 8) (by omega) (by decide)).mp (k1.symm.trans q)))]
    have w20 : wtS c n s (20 + 25 * c) = nI (kpt s c + 1) := by rw [w, upd_at, k1, nI_1]
    have ek : kpt (wtS c n s) c = kpt s c + 1 := by
      show (wtS c n s (20 + 25 * c)).toNatClampNeg = _
      rw [w20, nI_cl (by omega)]
    have wo : ∀ j, (j < 20 + 25 * c ∨ 41 + 25 * c ≤ j ∨ (21 + 25 * c ≤ j ∧ j < 33 + 25 * c)) → wtS c n s j = s j := fun j hj => by
      rw [w, upd_ne (by omega), upd_ne (by omega)]
    refine ⟨?_, ?_, ?_, ?_, ?_, fun i hi hl => ?_, fun i hi => ?_⟩
    · rw [wo _ (by omega)]; exact h0
    · rw [wo _ (by omega)]; exact h1
    · rw [wo _ (by omega)]; exact h2
    · rw [wo _ (by omega)]; exact h3
    · rw [w20]; rfl
    · rw [wo _ (by omega)] at hl ⊢
      exact h5 i hi hl
    · rw [ek] at hi
      show upd (R.2 5) (kpt s c) n i = _
      by_cases hi7 : i = kpt s c
      · rw [hi7, upd_at, w, upd_ne (by omega), upd_at]
      · rw [upd_ne hi7, w, upd_ne (by omega), upd_ne (by omega), h6 i (by omega)]
theorem Cl_rec {R : oR} {n : Int32} {c : Nat} {s : Nat → Int32} (h : CR R c s) (hp : s (17 + 25 * c) = 0 ∨ s (17 + 25 * c) = 1) (hk : s (20 + 25 * c) = nI (kpt s c) ∧ kpt s c ≤ 8) : ∃ R', f_Client_receive a n (bk_Client σ a R) = some (bk_Client σ a R') ∧ CR R' c (if s (17 + 25 * c) = 1 then lgS c n s else wtS c n s) := by
  unfold f_Client_receive
  rw [Client_own, Client_g1, Option.bind_some, h.2.1]
  rcases hp with hp | hp
  · rw [if_pos hp, if_neg (by rw [hp]; decide)]
    obtain ⟨R', a1, a2⟩ := Cl_sto (σ := σ) (a := a) (n := n) h hk
    exact ⟨R', by rw [a1, Option.bind_some], a2⟩
  · rw [if_neg (by rw [hp]; decide), if_pos hp, Cl_ent, Option.bind_some]
    exact ⟨_, rfl, CR_ent h⟩
end CLI
