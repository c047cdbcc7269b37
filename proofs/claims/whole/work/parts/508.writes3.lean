/-! ===== the class: a client comes, leaves, arrives ===== -/
section CLB
variable {σ : hp_H} {a : Nat}
theorem Cl_beg {R : oR} {x : Int32} : f_Client_begin a x (bk_Client σ a R) = some (bk_Client σ a (sF (sF (sF (sF (sF R 0 x) 1 1) 2 0) 3 0) 4 0)) := by
  unfold f_Client_begin
  rw [Client_own, Client_p0, Option.bind_some, Client_p1 (Or.inr rfl), Option.bind_some, Client_p2, Option.bind_some, Client_p3, Option.bind_some, Client_p4, Option.bind_some]
  rfl
theorem lgS_upd {c j : Nat} {n x : Int32} {s : Nat → Int32} (hj : j < 18 + 25 * c) : lgS c n (upd s j x) = upd (lgS c n s) j x := by
  funext k
  unfold lgS
  rw [show upd s j x (18 + 25 * c) = s (18 + 25 * c) from upd_ne (by omega)]
  by_cases hk : k = j
  · subst hk
    rw [upd_ne (by omega), upd_ne (by omega), upd_at]
    unfold shU
    rw [if_neg (by omega), upd_at]
  · rw [upd_ne (A := upd (upd (shU s (21 + 25 * c) 0 11) (21 + 25 * c) n) (18 + 25 * c) (s (18 + 25 * c) + 1)) hk]
    by_cases k1 : k = 18 + 25 * c
    · subst k1
      rw [upd_at, upd_at]
    · rw [upd_ne k1, upd_ne k1]
      by_cases k2 : k = 21 + 25 * c
      · subst k2
        rw [upd_at, upd_at]
      · rw [upd_ne k2, upd_ne k2]
        unfold shU
        by_cases k3 : 21 + 25 * c + 0 < k ∧ k ≤ 21 + 25 * c + 11
        · rw [if_pos k3, if_pos k3, upd_ne (by omega)]
        · rw [if_neg k3, if_neg k3, upd_ne hk]
theorem cmF_upd {c j : Nat} {x : Int32} (hj : j < 18 + 25 * c) : ∀ (m i : Nat) (s : Nat → Int32), cmF c m i (upd s j x) = upd (cmF c m i s) j x
  | 0, _, _ => rfl
  | m + 1, i, s => by
    rw [cmF, cmF, show upd s j x (33 + 25 * c + i) = s (33 + 25 * c + i) from upd_ne (by omega), lgS_upd hj]
    exact cmF_upd hj m (i + 1) _
theorem Cl_ar1 {c k : Nat} (hk : k ≤ 8) {K : Int32 → hp_H → Option (Int32 × hp_H)} : ∀ (m i f : Nat) (R : oR) (s : Nat → Int32), i + m = k → CR R c s → kpt s c = k → ∃ R', f_Client_arrive_l1 a (nI k) K (f + m + 1) (nI i) (bk_Client σ a R) = K (nI k) (bk_Client σ a R') ∧ CR R' c (cmF c m i s)
  | 0, i, f, R, s, e, h, _ => by
    refine ⟨R, ?_, h⟩
    rw [show i = k by omega, f_Client_arrive_l1, if_pos ((nI_leI (by omega) (by omega)).mpr (Nat.le_refl _))]
  | m + 1, i, f, R, s, e, h, ek => by
    have e1 : kpt (lgS c (s (33 + 25 * c + i)) s) c = k := by
      unfold kpt at ek ⊢
      rw [lgS_out (by omega)]
      exact ek
    rw [f_Client_arrive_l1, if_neg (fun q => by have := (nI_leI (by omega) (by omega)).mp q; omega), Client_g5, Option.bind_some, Client_a5 (by omega), Option.bind_some, h.2.2.2.2.2.2 i (by omega), Cl_ent, Option.bind_some, nI_1, cmF]
    exact Cl_ar1 hk m (i + 1) f _ _ (by omega) (CR_ent h) e1
theorem Cl_arr {R : oR} {c b : Nat} {s : Nat → Int32} (h : CR R c s) (hk : s (20 + 25 * c) = nI (kpt s c) ∧ kpt s c ≤ 8) : ∃ R', f_Client_arrive a (nI b) (bk_Client σ a R) = some (nI (kpt s c), bk_Client σ a R') ∧ CR R' c (comS s c b) := by
  obtain ⟨f, hf⟩ := hp_fu (kpt s c + 1) (by omega)
  have hf' : f + kpt s c + 1 = hp_F := hf.symm
  have h1 : CR (sF (sF R 0 (nI b)) 1 1) c (upd (upd s (16 + 25 * c) (nI b)) (17 + 25 * c) 1) := by
    obtain ⟨g0, g1, g2, g3, g4, g5, g6⟩ := h
    have ek : kpt (upd (upd s (16 + 25 * c) (nI b)) (17 + 25 * c) 1) c = kpt s c := by
      unfold kpt
      rw [upd_ne (by omega), upd_ne (by omega)]
    refine ⟨?_, ?_, ?_, ?_, ?_, fun i hi hl => ?_, fun i hi => ?_⟩
    · rw [upd_ne (by omega), upd_at]; rfl
    · rw [upd_at]; rfl
    · rw [upd_ne (by omega), upd_ne (by omega)]; exact g2
    · rw [upd_ne (by omega), upd_ne (by omega)]; exact g3
    · rw [upd_ne (by omega), upd_ne (by omega)]; exact g4
    · rw [upd_ne (by omega), upd_ne (by omega)] at hl ⊢
      exact g5 i hi hl
    · rw [ek] at hi
      rw [upd_ne (by omega), upd_ne (by omega)]
      exact g6 i hi
  have ek : kpt (upd (upd s (16 + 25 * c) (nI b)) (17 + 25 * c) 1) c = kpt s c := by
    unfold kpt
    rw [upd_ne (by omega), upd_ne (by omega)]
  obtain ⟨R1, q, q2⟩ := Cl_ar1 (σ := σ) (a := a) (c := c) hk.2 (K := fun z6 σ => (hp_pI σ a 2 4 0).bind fun σ => some (nI (kpt s c), σ)) (kpt s c) 0 f _ _ (by omega) h1 ek
  rw [hf'] at q
  rw [cmF_upd (by omega), cmF_upd (by omega)] at q2
  refine ⟨sF R1 4 0, ?_, ?_⟩
  · unfold f_Client_arrive
    rw [Client_own, Client_g4, Option.bind_some, h.2.2.2.2.1, hk.1, Client_p0, Option.bind_some, Client_p1 (Or.inr rfl), Option.bind_some]
    refine (show _ = _ from q).trans ?_
    rw [Client_p4, Option.bind_some]
    rfl
  · obtain ⟨g0, g1, g2, g3, g4, g5, g6⟩ := q2
    generalize hS : upd (upd (cmF c (kpt s c) 0 s) (16 + 25 * c) (nI b)) (17 + 25 * c) 1 = S at *
    have eo : ∀ j, j ≠ 20 + 25 * c → comS s c b j = S j := fun j hj => by
      rw [← hS]
      unfold comS
      by_cases j1 : j = 17 + 25 * c
      · subst j1; rw [upd_at, upd_at]
      · rw [upd_ne j1, upd_ne j1]
        by_cases j2 : j = 16 + 25 * c
        · subst j2; rw [upd_at, upd_at]
        · rw [upd_ne j2, upd_ne j2, upd_ne hj]
    have e20 : comS s c b (20 + 25 * c) = 0 := by
      unfold comS
      rw [upd_ne (by omega), upd_ne (by omega), upd_at]
    have ek0 : kpt (comS s c b) c = 0 := by
      unfold kpt
      rw [e20]
      rfl
    refine ⟨?_, ?_, ?_, ?_, ?_, fun i hi hl => ?_, fun i hi => ?_⟩
    · rw [eo _ (by omega)]; exact g0
    · rw [eo _ (by omega)]; exact g1
    · rw [eo _ (by omega)]; exact g2
    · rw [eo _ (by omega)]; exact g3
    · rw [e20]; rfl
    · rw [eo _ (by omega)] at hl ⊢
      exact g5 i hi hl
    · omega
end CLB
section STZ
variable {H : hp_H} {a : Nat} {s : Nat → Int32}
theorem wf_k (wf : Wf s) : ∀ e, e < nC s → kpt s e ≤ 8 := fun e he => (wf.2.1.2 e he).2.2.2
theorem S_lea (wf : Wf s) (h : StI H a s) {c : Nat} (hc : c < nC s) : ∃ H', hp_pZ H (a + 5 + 3 * c) 2 1 0 = some H' ∧ StI H' a (upd s (17 + 25 * c) 0) ∧ same H H' a 23 := by
  have hB7 := wf.1.1.2.2
  have hC6 := wf.2.1.1.2
  obtain ⟨Rc, g1, g2⟩ := S_cl h wf hc
  have q := Client_p1 (σ := H) (a := a + 5 + 3 * c) (R := Rc) (x := 0) (Or.inl rfl)
  rw [Client_eq g1] at q
  obtain ⟨m1, m2⟩ := St_putc (c := c) (Rc' := (upd Rc.1 1 0, Rc.2)) (s' := upd s (17 + 25 * c) 0) (by omega) hB7 h (wf_k wf) (fun j hj => upd_ne (by omega)) (fun e he j k1 k2 => upd_ne (by omega)) (fun _ => by
    obtain ⟨h0, h1, h2, h3, h4, h5, h6⟩ := g2
    have ek : kpt (upd s (17 + 25 * c) 0) c = kpt s c := by
      unfold kpt
      rw [upd_ne (by omega)]
    refine ⟨?_, ?_, ?_, ?_, ?_, fun i hi hl => ?_, fun i hi => ?_⟩
    · rw [upd_ne (by omega)]; exact h0
    · rw [upd_at]; rfl
    · rw [upd_ne (by omega)]; exact h2
    · rw [upd_ne (by omega)]; exact h3
    · rw [upd_ne (by omega)]; exact h4
    · rw [upd_ne (by omega)] at hl ⊢
      exact h5 i hi hl
    · rw [ek] at hi
      rw [upd_ne (by omega)]
      exact h6 i hi)
  exact ⟨_, q, m1, m2⟩
theorem comS_out {c b j : Nat} (h : j < 16 + 25 * c ∨ 33 + 25 * c ≤ j) : comS s c b j = s j := by
  unfold comS
  rw [upd_ne (by omega), upd_ne (by omega), upd_ne (by omega), cmF_out (by omega)]
theorem S_arr (wf : Wf s) (h : StI H a s) {c b : Nat} (hc : c < nC s) : ∃ H', f_Client_arrive (a + 5 + 3 * c) (nI b) H = some (nI (kpt s c), H') ∧ StI H' a (comS s c b) ∧ same H H' a 23 := by
  have hB7 := wf.1.1.2.2
  have hC6 := wf.2.1.1.2
  obtain ⟨Rc, g1, g2⟩ := S_cl h wf hc
  obtain ⟨R', q, q2⟩ := Cl_arr (σ := H) (a := a + 5 + 3 * c) (b := b) g2 (wf.2.1.2 c hc).2.2
  rw [Client_eq g1] at q
  obtain ⟨m1, m2⟩ := St_putc (c := c) (Rc' := R') (s' := comS s c b) (by omega) hB7 h (wf_k wf) (fun j hj => comS_out (by omega)) (fun e he j k1 k2 => comS_out (by omega)) (fun _ => q2)
  exact ⟨_, q, m1, m2⟩
theorem S_acl (wf : Wf s) (h : StI H a s) {b : Nat} (hb : b < nB s) (h6 : nC s ≠ 6) : ∃ H', f_State_addClient a (nI b) H = some (nI (nC s), H') ∧ StI H' a (cliS s b) ∧ same H H' a 23 := by
  have hB7 := wf.1.1.2.2
  have hC6 := wf.2.1.1.2
  have hW := wf.2.2.1.1.2
  obtain ⟨wf', nc'⟩ := cliS_wf wf hb h6
  obtain ⟨R, h1, h2, h3⟩ := id h
  obtain ⟨Rc, g1, -⟩ := h3 (nC s) (by omega)
  have r1 : R.1 1 = nI (nC s) := (h2.1 1 (by decide)).trans wf.2.1.1.1
  have qb := Cl_beg (σ := H) (a := a + 5 + 3 * nC s) (R := Rc) (x := nI b)
  rw [Client_eq g1] at qb
  generalize hRn : sF (sF (sF (sF (sF Rc 0 (nI b)) 1 1) 2 0) 3 0) 4 0 = Rn at qb
  have g5 : hs (bk_Client H (a + 5 + 3 * nC s) Rn) a 5 (ce_St a R) := hs_out h1 (by omega)
  have q2 : f_State_addClient a (nI b) H = some (nI (nC s), bk_St (bk_Client H (a + 5 + 3 * nC s) Rn) a (sF R 1 (nI (nC s + 1)))) := by
    have w1 := St_g1 (σ := bk_Client H (a + 5 + 3 * nC s) Rn) (a := a) (R := R)
    have w2 := St_p1 (σ := bk_Client H (a + 5 + 3 * nC s) Rn) (a := a) (R := R) (x := nI (nC s + 1))
    rw [St_eq g5] at w1 w2
    unfold f_State_addClient
    rw [S_own h, S_r8 h, Option.bind_some, S_f h (by decide), Option.bind_some, wf.2.1.1.1, S_cr h (by omega), Option.bind_some, qb, Option.bind_some, w1, Option.bind_some, r1, nI_1, w2, Option.bind_some, St_g1, Option.bind_some, sF_at, nI_pred]
  have lo : ∀ j, j ≠ 1 → (j < 16 + 25 * nC s ∨ 41 + 25 * nC s ≤ j) → cliS s b j = s j := fun j k1 k2 => by
    unfold cliS
    rw [upd_ne k1, upd_ne (by omega), upd_ne (by omega), wr_out (by omega)]
  have zs : ∀ j, 18 + 25 * nC s ≤ j → j < 41 + 25 * nC s → cliS s b j = 0 := fun j k1 k2 => by
    unfold cliS
    rw [upd_ne (by omega), upd_ne (by omega), upd_ne (by omega)]
    have := wr_in (A := s) (base := 16 + 25 * nC s) (m := 25) (t := j - (16 + 25 * nC s)) (g := fun _ => 0) (by omega)
    rw [show 16 + 25 * nC s + (j - (16 + 25 * nC s)) = j by omega] at this
    exact this
  have a16 : cliS s b (16 + 25 * nC s) = nI b := by
    unfold cliS
    rw [upd_ne (by omega), upd_ne (by omega), upd_at]
  have a17 : cliS s b (17 + 25 * nC s) = 1 := by
    unfold cliS
    rw [upd_ne (by omega), upd_at]
  have a1 : cliS s b 1 = nI (nC s + 1) := by
    unfold cliS
    rw [upd_at]
  generalize cliS s b = s' at *
  refine ⟨_, q2, ⟨sF R 1 (nI (nC s + 1)), hs_bW, ?_, fun c hc => ?_⟩, ?_⟩
  · have eB : nB s' = nB s := by unfold nB; rw [lo 0 (by omega) (by omega)]
    have eW : nW s' = nW s := by unfold nW; rw [lo 2 (by omega) (by omega)]
    refine ⟨fun j hj => ?_, fun e he => ?_, fun w hw => ?_⟩
    · by_cases hj0 : j = 1
      · subst hj0
        rw [sF_at, a1]
      · rw [sF_ne hj0, lo j hj0 (by omega)]
        exact h2.1 j hj
    · rw [eB] at he
      rw [sF_2, lo _ (by omega) (by omega)]
      exact h2.2.1 e he
    · rw [eW] at hw
      rw [sF_2, wbx_eq (s := s) (fun t ht => lo _ (by omega) (by omega)), lo _ (by omega) (by omega)]
      exact h2.2.2 w hw
  · by_cases hcc : c = nC s
    · subst hcc
      refine ⟨Rn, hs_out hs_bW (by omega), fun _ => ?_⟩
      have ek : kpt s' (nC s) = 0 := by
        unfold kpt
        rw [zs _ (by omega) (by omega)]
        rfl
      rw [← hRn]
      refine ⟨?_, ?_, ?_, ?_, ?_, fun i hi hl => ?_, fun i hi => ?_⟩
      · rw [a16]; rfl
      · rw [a17]; rfl
      · rw [zs _ (by omega) (by omega)]; rfl
      · rw [zs _ (by omega) (by omega)]; rfl
      · rw [zs _ (by omega) (by omega)]; rfl
      · rw [zs _ (by omega) (by omega)] at hl
        exact absurd (nI_pos' (by omega)) hl
      · omega
    · obtain ⟨Re, e1, e2⟩ := h3 c hc
      refine ⟨Re, hs_out (hs_out e1 (by omega)) (by omega), fun q => ?_⟩
      exact CR_congr (e2 (by omega)) (wf_k wf c (by omega)) (fun j k1 k2 => lo j (by omega) (by omega))
  · exact same_tr (same_mono same_bW (by omega) (by omega)) (same_mono same_bW (by omega) (by omega))
end STZ
