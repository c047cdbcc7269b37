/-! Client.begin(I)V -/
abbrev rm_Client_begin : Room := { frames := 0, cells := 0, slots := 0, locals := 0 }
theorem hd_Client_begin : hp_d yX3_begin 1 := by decide +kernel
def f_Client_begin (a0 : Nat) (x1 : Int32) (σ : hp_H) : Option hp_H := hp_own σ a0 2 ((hp_pI σ a0 2 0 x1).bind fun σ => (hp_pZ σ a0 2 1 1).bind fun σ => (hp_pI σ a0 2 2 0).bind fun σ => (hp_pI σ a0 2 3 0).bind fun σ => (hp_pI σ a0 2 4 0).bind fun σ => some σ)
set_option maxHeartbeats 4000000 in
set_option maxRecDepth 100000 in
theorem c_Client_begin {l : Launch} {G : hp_G} {b : Nat} {σ : hp_H} {a0 : Nat} {x1 : Int32} {σ' : hp_H} (h : f_Client_begin a0 x1 σ = some σ') : hp_Met l yX3_begin cX3_begin 2 none rm_Client_begin G b [.ref a0, .int x1] σ none σ' 0 0 := by
  refine hp_met (by decide +kernel) (Nat.le_of_ble_eq_true rfl) (fun p e s m below meth c ls hX hlocks hr hnm hl hR => ?_)
  obtain ⟨hx, hb, hml, hown, hts⟩ := id hX.1
  have hl : lv_has ls 2 [(0, .ref a0), (1, .int x1)] := hl
  unfold f_Client_begin at h
  have h := hp_own_to h
  refine lv_aload_n hx hb dX3_begin_0 rfl (lv_at hl 0 rfl) ?_
  refine lv_iload_n hx hb dX3_begin_1 rfl (lv_at hl 1 rfl) ?_
  refine hp_putI hX hR (ci := 2) 0 rfl wf3 tyX3_ok nmX3 (by decide) wq1_37 rfl dX3_begin_2 rfl h (fun σ H locs h hR => ?_)
  refine lv_aload_n hx hb dX3_begin_5 rfl (lv_at hl 0 rfl) ?_
  refine lv_iconst (v := 1) hx hb dX3_begin_6 (by decide) ?_
  refine hp_putZ hX hR (ci := 2) 1 rfl wf3 tyX3_ok nmX3 (by decide) wq1_40 rfl dX3_begin_7 rfl h (fun σ H locs h hR => ?_)
  refine lv_aload_n hx hb dX3_begin_10 rfl (lv_at hl 0 rfl) ?_
  refine lv_iconst (v := 0) hx hb dX3_begin_11 (by decide) ?_
  refine hp_putI hX hR (ci := 2) 2 rfl wf3 tyX3_ok nmX3 (by decide) wq1_42 rfl dX3_begin_12 rfl h (fun σ H locs h hR => ?_)
  refine lv_aload_n hx hb dX3_begin_15 rfl (lv_at hl 0 rfl) ?_
  refine lv_iconst (v := 0) hx hb dX3_begin_16 (by decide) ?_
  refine hp_putI hX hR (ci := 2) 3 rfl wf3 tyX3_ok nmX3 (by decide) wq1_45 rfl dX3_begin_17 rfl h (fun σ H locs h hR => ?_)
  refine lv_aload_n hx hb dX3_begin_20 rfl (lv_at hl 0 rfl) ?_
  refine lv_iconst (v := 0) hx hb dX3_begin_21 (by decide) ?_
  refine hp_putI hX hR (ci := 2) 4 rfl wf3 tyX3_ok nmX3 (by decide) wq1_47 rfl dX3_begin_22 rfl h (fun σ H locs h hR => ?_)
  exact hp_vret hX hlocks hr hR h dX3_begin_25
/-! Client.copyFrom(LNoticeBoxes$Client;)V -/
abbrev rm_Client_copyFrom : Room := { frames := 1, cells := 0, slots := 0, locals := 40 }
theorem hd_Client_copyFrom : hp_d yX3_copyFrom 1 := by decide +kernel
def f_Client_copyFrom (a0 : Nat) (a1 : Nat) (σ : hp_H) : Option hp_H := hp_own σ a0 2 ((hp_gI σ a1 2 0).bind fun v1 => (hp_pI σ a0 2 0 v1).bind fun σ => (hp_gI σ a1 2 1).bind fun v2 => (hp_pZ σ a0 2 1 v2).bind fun σ => (hp_gI σ a1 2 2).bind fun v3 => (hp_pI σ a0 2 2 v3).bind fun σ => (hp_gI σ a1 2 3).bind fun v4 => (hp_pI σ a0 2 3 v4).bind fun σ => (hp_gI σ a1 2 4).bind fun v5 => (hp_pI σ a0 2 4 v5).bind fun σ => (hp_gR σ a1 2 5).bind fun q6 => (hp_gR σ a0 2 5).bind fun q7 => (hp_cp σ q6 0 q7 0 8).bind fun σ => (hp_gR σ a1 2 6).bind fun q8 => (hp_gR σ a0 2 6).bind fun q9 => (hp_cp σ q8 0 q9 0 12).bind fun σ => some σ)
set_option maxHeartbeats 4000000 in
set_option maxRecDepth 100000 in
theorem c_Client_copyFrom {l : Launch} {G : hp_G} {b : Nat} {σ : hp_H} {a0 : Nat} {a1 : Nat} {σ' : hp_H} (h : f_Client_copyFrom a0 a1 σ = some σ') : hp_Met l yX3_copyFrom cX3_copyFrom 2 none rm_Client_copyFrom G b [.ref a0, .ref a1] σ none σ' 0 0 := by
  refine hp_met (by decide +kernel) (Nat.le_of_ble_eq_true rfl) (fun p e s m below meth c ls hX hlocks hr hnm hl hR => ?_)
  obtain ⟨hx, hb, hml, hown, hts⟩ := id hX.1
  have hl : lv_has ls 2 [(0, .ref a0), (1, .ref a1)] := hl
  unfold f_Client_copyFrom at h
  have h := hp_own_to h
  refine lv_aload_n hx hb dX3_copyFrom_0 rfl (lv_at hl 0 rfl) ?_
  refine lv_aload_n hx hb dX3_copyFrom_1 rfl (lv_at hl 1 rfl) ?_
  refine hp_getI hX hR (ci := 2) 0 rfl wf3 (by decide) wq1_37 dX3_copyFrom_2 h (fun v1 h => ?_)
  refine hp_putI hX hR (ci := 2) 0 rfl wf3 tyX3_ok nmX3 (by decide) wq1_37 rfl dX3_copyFrom_5 rfl h (fun σ H locs h hR => ?_)
  refine lv_aload_n hx hb dX3_copyFrom_8 rfl (lv_at hl 0 rfl) ?_
  refine lv_aload_n hx hb dX3_copyFrom_9 rfl (lv_at hl 1 rfl) ?_
  refine hp_getI hX hR (ci := 2) 1 rfl wf3 (by decide) wq1_40 dX3_copyFrom_10 h (fun v2 h => ?_)
  refine hp_putZ hX hR (ci := 2) 1 rfl wf3 tyX3_ok nmX3 (by decide) wq1_40 rfl dX3_copyFrom_13 rfl h (fun σ H locs h hR => ?_)
  refine lv_aload_n hx hb dX3_copyFrom_16 rfl (lv_at hl 0 rfl) ?_
  refine lv_aload_n hx hb dX3_copyFrom_17 rfl (lv_at hl 1 rfl) ?_
  refine hp_getI hX hR (ci := 2) 2 rfl wf3 (by decide) wq1_42 dX3_copyFrom_18 h (fun v3 h => ?_)
  refine hp_putI hX hR (ci := 2) 2 rfl wf3 tyX3_ok nmX3 (by decide) wq1_42 rfl dX3_copyFrom_21 rfl h (fun σ H locs h hR => ?_)
  refine lv_aload_n hx hb dX3_copyFrom_24 rfl (lv_at hl 0 rfl) ?_
  refine lv_aload_n hx hb dX3_copyFrom_25 rfl (lv_at hl 1 rfl) ?_
  refine hp_getI hX hR (ci := 2) 3 rfl wf3 (by decide) wq1_45 dX3_copyFrom_26 h (fun v4 h => ?_)
  refine hp_putI hX hR (ci := 2) 3 rfl wf3 tyX3_ok nmX3 (by decide) wq1_45 rfl dX3_copyFrom_29 rfl h (fun σ H locs h hR => ?_)
  refine lv_aload_n hx hb dX3_copyFrom_32 rfl (lv_at hl 0 rfl) ?_
  refine lv_aload_n hx hb dX3_copyFrom_33 rfl (lv_at hl 1 rfl) ?_
  refine hp_getI hX hR (ci := 2) 4 rfl wf3 (by decide) wq1_47 dX3_copyFrom_34 h (fun v5 h => ?_)
  refine hp_putI hX hR (ci := 2) 4 rfl wf3 tyX3_ok nmX3 (by decide) wq1_47 rfl dX3_copyFrom_37 rfl h (fun σ H locs h hR => ?_)
  refine lv_aload_n hx hb dX3_copyFrom_40 rfl (lv_at hl 1 rfl) ?_
  refine hp_getR hX hR (ci := 2) 5 rfl wf3 (by decide) wq1_49 dX3_copyFrom_41 h (fun q6 h => ?_)
  refine lv_iconst (v := 0) hx hb dX3_copyFrom_44 (by decide) ?_
  refine lv_aload_n hx hb dX3_copyFrom_45 rfl (lv_at hl 0 rfl) ?_
  refine hp_getR hX hR (ci := 2) 5 rfl wf3 (by decide) wq1_49 dX3_copyFrom_46 h (fun q7 h => ?_)
  refine lv_iconst (v := 0) hx hb dX3_copyFrom_49 (by decide) ?_
  refine lv_bipush (v := 8) hx hb dX3_copyFrom_50 (by decide) ?_
  refine hp_copy hX hR wq3_1 ⟨wq2_236, wq2_235, wq1_14⟩ hl.1 (Nat.le_of_ble_eq_true rfl) (Nat.le_of_ble_eq_true rfl) dX3_copyFrom_52 h (fun σ H locs h hR => ?_)
  refine lv_aload_n hx hb dX3_copyFrom_55 rfl (lv_at hl 1 rfl) ?_
  refine hp_getR hX hR (ci := 2) 6 rfl wf3 (by decide) wq1_50 dX3_copyFrom_56 h (fun q8 h => ?_)
  refine lv_iconst (v := 0) hx hb dX3_copyFrom_59 (by decide) ?_
  refine lv_aload_n hx hb dX3_copyFrom_60 rfl (lv_at hl 0 rfl) ?_
  refine hp_getR hX hR (ci := 2) 6 rfl wf3 (by decide) wq1_50 dX3_copyFrom_61 h (fun q9 h => ?_)
  refine lv_iconst (v := 0) hx hb dX3_copyFrom_64 (by decide) ?_
  refine lv_bipush (v := 12) hx hb dX3_copyFrom_65 (by decide) ?_
  refine hp_copy hX hR wq3_1 ⟨wq2_236, wq2_235, wq1_14⟩ hl.1 (Nat.le_of_ble_eq_true rfl) (Nat.le_of_ble_eq_true rfl) dX3_copyFrom_67 h (fun σ H locs h hR => ?_)
  exact hp_vret hX hlocks hr hR h dX3_copyFrom_70
/-! Client.latest(I)I -/
abbrev rm_Client_latest : Room := { frames := 0, cells := 0, slots := 0, locals := 0 }
theorem hd_Client_latest : hp_d yX3_latest 1 := by decide +kernel
def f_Client_latest (a0 : Nat) (x1 : Int32) (σ : hp_H) : Option Int32 := hp_own σ a0 2 ((hp_gI σ a0 2 2).bind fun v1 => if v1 ≤ x1 then (some (-1)) else ((hp_gR σ a0 2 6).bind fun q3 => (hp_aI σ q3 0 x1).bind fun v4 => some v4))
set_option maxHeartbeats 4000000 in
set_option maxRecDepth 100000 in
theorem c_Client_latest {l : Launch} {G : hp_G} {b : Nat} {σ : hp_H} {a0 : Nat} {x1 : Int32} {r : Int32} (h : f_Client_latest a0 x1 σ = some r) : hp_Met l yX3_latest cX3_latest 2 (some .int) rm_Client_latest G b [.ref a0, .int x1] σ (some (.int r)) σ 0 0 := by
  refine hp_met (by decide +kernel) (Nat.le_of_ble_eq_true rfl) (fun p e s m below meth c ls hX hlocks hr hnm hl hR => ?_)
  obtain ⟨hx, hb, hml, hown, hts⟩ := id hX.1
  have hl : lv_has ls 2 [(0, .ref a0), (1, .int x1)] := hl
  unfold f_Client_latest at h
  have h := hp_own_to h
  refine lv_iload_n hx hb dX3_latest_0 rfl (lv_at hl 1 rfl) ?_
  refine lv_aload_n hx hb dX3_latest_1 rfl (lv_at hl 0 rfl) ?_
  refine hp_getI hX hR (ci := 2) 2 rfl wf3 (by decide) wq1_42 dX3_latest_2 h (fun v1 h => ?_)
  refine lv_icmp_ge (tgt := 17) hx hb dX3_latest_5 (by decide) (fun c2 => ?_) (fun c2 => ?_)
  · have h := hp_ip c2 h
    refine lv_iconst (v := (-1)) hx hb dX3_latest_17 (by decide) ?_
    exact hp_iretP hX hlocks hr hR h dX3_latest_18
  · have h := hp_in c2 h
    refine lv_aload_n hx hb dX3_latest_8 rfl (lv_at hl 0 rfl) ?_
    refine hp_getR hX hR (ci := 2) 6 rfl wf3 (by decide) wq1_50 dX3_latest_9 h (fun q3 h => ?_)
    refine lv_iload_n hx hb dX3_latest_12 rfl (lv_at hl 1 rfl) ?_
    refine hp_iald hX hR dX3_latest_13 h (fun v4 h => ?_)
    refine lv_goto (tgt := 18) hx hb dX3_latest_14 (by decide) ?_
    exact hp_iretP hX hlocks hr hR h dX3_latest_18
/-! Client.enter(I)V -/
abbrev rm_Client_enter : Room := { frames := 0, cells := 0, slots := 0, locals := 0 }
theorem hd_Client_enter : hp_d yX3_enter 1 := by decide +kernel
def f_Client_enter_l1 (a0 : Nat) (x1 : Int32) (K : Int32 → hp_H → Option hp_H) : Nat → Int32 → hp_H → Option hp_H
  | 0, _, _ => none
  | n + 1, x2, σ => if x2 ≤ 0 then (K x2 σ) else ((hp_gR σ a0 2 6).bind fun q2 => (hp_gR σ a0 2 6).bind fun q3 => (hp_aI σ q3 0 (x2 - 1)).bind fun v4 => (hp_sI σ q2 0 x2 v4).bind fun σ => f_Client_enter_l1 a0 x1 K n (x2 + (-1)) σ)
def f_Client_enter (a0 : Nat) (x1 : Int32) (σ : hp_H) : Option hp_H := hp_own σ a0 2 (f_Client_enter_l1 a0 x1 (fun z5 σ => (hp_gR σ a0 2 6).bind fun q6 => (hp_sI σ q6 0 0 x1).bind fun σ => (hp_gI σ a0 2 2).bind fun v7 => (hp_pI σ a0 2 2 (v7 + 1)).bind fun σ => some σ) hp_F 11 σ)
set_option maxHeartbeats 4000000 in
set_option maxRecDepth 100000 in
theorem w_Client_enter_l1 {p : Program} {l : Launch} {e : Env} {s : State} {m : MethodId} {args : Array Value} {below : List Frame} {meth : Method} {c : Code} {G : hp_G} {b : Nat} {a0 : Nat} {x1 : Int32} {σ' : hp_H} {K : Int32 → hp_H → Option hp_H} (hX : hp_X G p s m c args cX3_enter 3 RX3) (hlocks : meth.locks = false) (hr : meth.sig.returnType = none)
    (hK : ∀ (x2 : Int32) (σ : hp_H) (H : Heap) (locs : List Loc) (ls : Array Slot), hp_R G b s.heap σ H locs → lv_has ls 3 [(0, .ref a0), (1, .int x1)] → K x2 σ = some σ' → W p l e rm_Client_enter s m args below meth c H locs 0 0 (MQ below (hp_Qc G b none σ') args s 0 0 (fun q => b ≤ q)) (F0 m 27 ls [])) :
    ∀ (n : Nat) (x2 : Int32) (σ : hp_H) (H : Heap) (locs : List Loc) (ls : Array Slot), hp_R G b s.heap σ H locs → f_Client_enter_l1 a0 x1 K n x2 σ = some σ' → lv_has ls 3 [(0, .ref a0), (1, .int x1), (2, .int x2)] → W p l e rm_Client_enter s m args below meth c H locs 0 0 (MQ below (hp_Qc G b none σ') args s 0 0 (fun q => b ≤ q)) (F0 m 3 ls []) := by
  obtain ⟨hx, hb, hml, hown, hts⟩ := id hX.1
  intro n
  induction n with
  | zero =>
    intro x2 σ H locs ls hR h hl
    rw [f_Client_enter_l1] at h
    cases h
  | succ n ih =>
    intro x2 σ H locs ls hR h hl
    rw [f_Client_enter_l1] at h
    refine lv_iload_n hx hb dX3_enter_3 rfl (lv_at hl 2 rfl) ?_
    refine lv_if_le (tgt := 27) hx hb dX3_enter_4 (by decide) (fun c1 => ?_) (fun c1 => ?_)
    · have h := hp_ip c1 h
      exact hK _ _ _ _ _ hR (lv_sub hl [0, 1] rfl) h
    · have h := hp_in c1 h
      refine lv_aload_n hx hb dX3_enter_7 rfl (lv_at hl 0 rfl) ?_
      refine hp_getR hX hR (ci := 2) 6 rfl wf3 (by decide) wq1_50 dX3_enter_8 h (fun q2 h => ?_)
      refine lv_iload_n hx hb dX3_enter_11 rfl (lv_at hl 2 rfl) ?_
      refine lv_aload_n hx hb dX3_enter_12 rfl (lv_at hl 0 rfl) ?_
      refine hp_getR hX hR (ci := 2) 6 rfl wf3 (by decide) wq1_50 dX3_enter_13 h (fun q3 h => ?_)
      refine lv_iload_n hx hb dX3_enter_16 rfl (lv_at hl 2 rfl) ?_
      refine lv_iconst (v := 1) hx hb dX3_enter_17 (by decide) ?_
      refine lv_isub hx hb dX3_enter_18 ?_
      refine hp_iald hX hR dX3_enter_19 h (fun v4 h => ?_)
      refine hp_iast hX hR dX3_enter_20 h (fun σ H locs h hR => ?_)
      refine lv_iinc (v := (x2 + (-1))) (lv' := [(2, .int (x2 + (-1))), (0, .ref a0), (1, .int x1)]) hx hb dX3_enter_21 hl (k := 2) rfl rfl (by decide) rfl (fun ls hl => ?_)
      refine lv_goto (tgt := 3) hx hb dX3_enter_24 (by decide) ?_
      exact ih _ _ _ _ _ hR h (lv_sub hl [1, 2, 0] rfl)
set_option maxHeartbeats 4000000 in
set_option maxRecDepth 100000 in
theorem c_Client_enter {l : Launch} {G : hp_G} {b : Nat} {σ : hp_H} {a0 : Nat} {x1 : Int32} {σ' : hp_H} (h : f_Client_enter a0 x1 σ = some σ') : hp_Met l yX3_enter cX3_enter 3 none rm_Client_enter G b [.ref a0, .int x1] σ none σ' 0 0 := by
  refine hp_met (by decide +kernel) (Nat.le_of_ble_eq_true rfl) (fun p e s m below meth c ls hX hlocks hr hnm hl hR => ?_)
  obtain ⟨hx, hb, hml, hown, hts⟩ := id hX.1
  have hl : lv_has ls 3 [(0, .ref a0), (1, .int x1)] := hl
  unfold f_Client_enter at h
  have h := hp_own_to h
  refine lv_bipush (v := 11) hx hb dX3_enter_0 (by decide) ?_
  refine lv_istore_n (lv' := [(2, .int 11), (0, .ref a0), (1, .int x1)]) hx hb dX3_enter_2 rfl hl (by decide) rfl (fun ls hl => ?_)
  refine w_Client_enter_l1 hX hlocks hr ?_ hp_F _ _ _ _ _ hR h (lv_sub hl [1, 2, 0] rfl)
  intro z5 σ H locs ls hR hl h
  refine lv_aload_n hx hb dX3_enter_27 rfl (lv_at hl 0 rfl) ?_
  refine hp_getR hX hR (ci := 2) 6 rfl wf3 (by decide) wq1_50 dX3_enter_28 h (fun q6 h => ?_)
  refine lv_iconst (v := 0) hx hb dX3_enter_31 (by decide) ?_
  refine lv_iload_n hx hb dX3_enter_32 rfl (lv_at hl 1 rfl) ?_
  refine hp_iast hX hR dX3_enter_33 h (fun σ H locs h hR => ?_)
  refine lv_aload_n hx hb dX3_enter_34 rfl (lv_at hl 0 rfl) ?_
  refine lv_dup hx hb dX3_enter_35 rfl ?_
  refine hp_getI hX hR (ci := 2) 2 rfl wf3 (by decide) wq1_42 dX3_enter_36 h (fun v7 h => ?_)
  refine lv_iconst (v := 1) hx hb dX3_enter_39 (by decide) ?_
  refine lv_iadd hx hb dX3_enter_40 ?_
  refine hp_putI hX hR (ci := 2) 2 rfl wf3 tyX3_ok nmX3 (by decide) wq1_42 rfl dX3_enter_41 rfl h (fun σ H locs h hR => ?_)
  exact hp_vret hX hlocks hr hR h dX3_enter_44
/-! Client.loseFirst()V -/
abbrev rm_Client_loseFirst : Room := { frames := 0, cells := 0, slots := 0, locals := 0 }
theorem hd_Client_loseFirst : hp_d yX3_loseFirst 0 := by decide +kernel
def f_Client_loseFirst_l1 (a0 : Nat) (K : Int32 → hp_H → Option hp_H) : Nat → Int32 → hp_H → Option hp_H
  | 0, _, _ => none
  | n + 1, x1, σ => if (7 : Int32) ≤ x1 then (K x1 σ) else ((hp_gR σ a0 2 5).bind fun q2 => (hp_gR σ a0 2 5).bind fun q3 => (hp_aI σ q3 0 (x1 + 1)).bind fun v4 => (hp_sI σ q2 0 x1 v4).bind fun σ => f_Client_loseFirst_l1 a0 K n (x1 + 1) σ)
def f_Client_loseFirst (a0 : Nat) (σ : hp_H) : Option hp_H := hp_own σ a0 2 (f_Client_loseFirst_l1 a0 (fun z5 σ => (hp_pI σ a0 2 4 7).bind fun σ => (hp_gI σ a0 2 3).bind fun v6 => (hp_pI σ a0 2 3 (v6 + 1)).bind fun σ => some σ) hp_F 0 σ)
set_option maxHeartbeats 4000000 in
set_option maxRecDepth 100000 in
theorem w_Client_loseFirst_l1 {p : Program} {l : Launch} {e : Env} {s : State} {m : MethodId} {args : Array Value} {below : List Frame} {meth : Method} {c : Code} {G : hp_G} {b : Nat} {a0 : Nat} {σ' : hp_H} {K : Int32 → hp_H → Option hp_H} (hX : hp_X G p s m c args cX3_loseFirst 2 RX3) (hlocks : meth.locks = false) (hr : meth.sig.returnType = none)
    (hK : ∀ (x1 : Int32) (σ : hp_H) (H : Heap) (locs : List Loc) (ls : Array Slot), hp_R G b s.heap σ H locs → lv_has ls 2 [(0, .ref a0)] → K x1 σ = some σ' → W p l e rm_Client_loseFirst s m args below meth c H locs 0 0 (MQ below (hp_Qc G b none σ') args s 0 0 (fun q => b ≤ q)) (F0 m 28 ls [])) :
    ∀ (n : Nat) (x1 : Int32) (σ : hp_H) (H : Heap) (locs : List Loc) (ls : Array Slot), hp_R G b s.heap σ H locs → f_Client_loseFirst_l1 a0 K n x1 σ = some σ' → lv_has ls 2 [(0, .ref a0), (1, .int x1)] → W p l e rm_Client_loseFirst s m args below meth c H locs 0 0 (MQ below (hp_Qc G b none σ') args s 0 0 (fun q => b ≤ q)) (F0 m 2 ls []) := by
  obtain ⟨hx, hb, hml, hown, hts⟩ := id hX.1
  intro n
  induction n with
  | zero =>
    intro x1 σ H locs ls hR h hl
    rw [f_Client_loseFirst_l1] at h
    cases h
  | succ n ih =>
    intro x1 σ H locs ls hR h hl
    rw [f_Client_loseFirst_l1] at h
    refine lv_iload_n hx hb dX3_loseFirst_2 rfl (lv_at hl 1 rfl) ?_
    refine lv_bipush (v := 7) hx hb dX3_loseFirst_3 (by decide) ?_
    refine lv_icmp_ge (tgt := 28) hx hb dX3_loseFirst_5 (by decide) (fun c1 => ?_) (fun c1 => ?_)
    · have h := hp_ip c1 h
      exact hK _ _ _ _ _ hR (lv_sub hl [0] rfl) h
    · have h := hp_in c1 h
      refine lv_aload_n hx hb dX3_loseFirst_8 rfl (lv_at hl 0 rfl) ?_
      refine hp_getR hX hR (ci := 2) 5 rfl wf3 (by decide) wq1_49 dX3_loseFirst_9 h (fun q2 h => ?_)
      refine lv_iload_n hx hb dX3_loseFirst_12 rfl (lv_at hl 1 rfl) ?_
      refine lv_aload_n hx hb dX3_loseFirst_13 rfl (lv_at hl 0 rfl) ?_
      refine hp_getR hX hR (ci := 2) 5 rfl wf3 (by decide) wq1_49 dX3_loseFirst_14 h (fun q3 h => ?_)
      refine lv_iload_n hx hb dX3_loseFirst_17 rfl (lv_at hl 1 rfl) ?_
      refine lv_iconst (v := 1) hx hb dX3_loseFirst_18 (by decide) ?_
      refine lv_iadd hx hb dX3_loseFirst_19 ?_
      refine hp_iald hX hR dX3_loseFirst_20 h (fun v4 h => ?_)
      refine hp_iast hX hR dX3_loseFirst_21 h (fun σ H locs h hR => ?_)
      refine lv_iinc (v := (x1 + 1)) (lv' := [(1, .int (x1 + 1)), (0, .ref a0)]) hx hb dX3_loseFirst_22 hl (k := 1) rfl rfl (by decide) rfl (fun ls hl => ?_)
      refine lv_goto (tgt := 2) hx hb dX3_loseFirst_25 (by decide) ?_
      exact ih _ _ _ _ _ hR h (lv_sub hl [1, 0] rfl)
set_option maxHeartbeats 4000000 in
set_option maxRecDepth 100000 in
theorem c_Client_loseFirst {l : Launch} {G : hp_G} {b : Nat} {σ : hp_H} {a0 : Nat} {σ' : hp_H} (h : f_Client_loseFirst a0 σ = some σ') : hp_Met l yX3_loseFirst cX3_loseFirst 2 none rm_Client_loseFirst G b [.ref a0] σ none σ' 0 0 := by
  refine hp_met (by decide +kernel) (Nat.le_of_ble_eq_true rfl) (fun p e s m below meth c ls hX hlocks hr hnm hl hR => ?_)
  obtain ⟨hx, hb, hml, hown, hts⟩ := id hX.1
  have hl : lv_has ls 2 [(0, .ref a0)] := hl
  unfold f_Client_loseFirst at h
  have h := hp_own_to h
  refine lv_iconst (v := 0) hx hb dX3_loseFirst_0 (by decide) ?_
  refine lv_istore_n (lv' := [(1, .int 0), (0, .ref a0)]) hx hb dX3_loseFirst_1 rfl hl (by decide) rfl (fun ls hl => ?_)
  refine w_Client_loseFirst_l1 hX hlocks hr ?_ hp_F _ _ _ _ _ hR h (lv_sub hl [1, 0] rfl)
  intro z5 σ H locs ls hR hl h
  refine lv_aload_n hx hb dX3_loseFirst_28 rfl (lv_at hl 0 rfl) ?_
  refine lv_bipush (v := 7) hx hb dX3_loseFirst_29 (by decide) ?_
  refine hp_putI hX hR (ci := 2) 4 rfl wf3 tyX3_ok nmX3 (by decide) wq1_47 rfl dX3_loseFirst_31 rfl h (fun σ H locs h hR => ?_)
  refine lv_aload_n hx hb dX3_loseFirst_34 rfl (lv_at hl 0 rfl) ?_
  refine lv_dup hx hb dX3_loseFirst_35 rfl ?_
  refine hp_getI hX hR (ci := 2) 3 rfl wf3 (by decide) wq1_45 dX3_loseFirst_36 h (fun v6 h => ?_)
  refine lv_iconst (v := 1) hx hb dX3_loseFirst_39 (by decide) ?_
  refine lv_iadd hx hb dX3_loseFirst_40 ?_
  refine hp_putI hX hR (ci := 2) 3 rfl wf3 tyX3_ok nmX3 (by decide) wq1_45 rfl dX3_loseFirst_41 rfl h (fun σ H locs h hR => ?_)
  exact hp_vret hX hlocks hr hR h dX3_loseFirst_44
theorem cs_X3_48 : hp_WV RX3 48 RX3 yX3_loseFirst cX3_loseFirst 2 none := ⟨wq3_72, wq3_74, wp1_7, wq1_3, wq3_75⟩
/-! Client.store(I)V -/
abbrev rm_Client_store : Room := { frames := 1, cells := 0, slots := 0, locals := 21 }
theorem hd_Client_store : hp_d yX3_store 1 := by decide +kernel
def f_Client_store (a0 : Nat) (x1 : Int32) (σ : hp_H) : Option hp_H := hp_own σ a0 2 ((hp_gI σ a0 2 4).bind fun v1 => if v1 < 8 then ((hp_gR σ a0 2 5).bind fun q3 => (hp_gI σ a0 2 4).bind fun v4 => (hp_sI σ q3 0 v4 x1).bind fun σ => (hp_gI σ a0 2 4).bind fun v5 => (hp_pI σ a0 2 4 (v5 + 1)).bind fun σ => some σ) else ((f_Client_loseFirst a0 σ).bind fun σ => (hp_gR σ a0 2 5).bind fun q7 => (hp_gI σ a0 2 4).bind fun v8 => (hp_sI σ q7 0 v8 x1).bind fun σ => (hp_gI σ a0 2 4).bind fun v9 => (hp_pI σ a0 2 4 (v9 + 1)).bind fun σ => some σ))
set_option maxHeartbeats 4000000 in
set_option maxRecDepth 100000 in
theorem c_Client_store {l : Launch} {G : hp_G} {b : Nat} {σ : hp_H} {a0 : Nat} {x1 : Int32} {σ' : hp_H} (h : f_Client_store a0 x1 σ = some σ') : hp_Met l yX3_store cX3_store 2 none rm_Client_store G b [.ref a0, .int x1] σ none σ' 0 0 := by
  refine hp_met (by decide +kernel) (Nat.le_of_ble_eq_true rfl) (fun p e s m below meth c ls hX hlocks hr hnm hl hR => ?_)
  obtain ⟨hx, hb, hml, hown, hts⟩ := id hX.1
  have hl : lv_has ls 2 [(0, .ref a0), (1, .int x1)] := hl
  unfold f_Client_store at h
  have h := hp_own_to h
  refine lv_aload_n hx hb dX3_store_0 rfl (lv_at hl 0 rfl) ?_
  refine hp_getI hX hR (ci := 2) 4 rfl wf3 (by decide) wq1_47 dX3_store_1 h (fun v1 h => ?_)
  refine lv_bipush (v := 8) hx hb dX3_store_4 (by decide) ?_
  refine lv_icmp_lt (tgt := 13) hx hb dX3_store_6 (by decide) (fun c2 => ?_) (fun c2 => ?_)
  · have h := hp_ip c2 h
    refine lv_aload_n hx hb dX3_store_13 rfl (lv_at hl 0 rfl) ?_
    refine hp_getR hX hR (ci := 2) 5 rfl wf3 (by decide) wq1_49 dX3_store_14 h (fun q3 h => ?_)
    refine lv_aload_n hx hb dX3_store_17 rfl (lv_at hl 0 rfl) ?_
    refine hp_getI hX hR (ci := 2) 4 rfl wf3 (by decide) wq1_47 dX3_store_18 h (fun v4 h => ?_)
    refine lv_iload_n hx hb dX3_store_21 rfl (lv_at hl 1 rfl) ?_
    refine hp_iast hX hR dX3_store_22 h (fun σ H locs h hR => ?_)
    refine lv_aload_n hx hb dX3_store_23 rfl (lv_at hl 0 rfl) ?_
    refine lv_dup hx hb dX3_store_24 rfl ?_
    refine hp_getI hX hR (ci := 2) 4 rfl wf3 (by decide) wq1_47 dX3_store_25 h (fun v5 h => ?_)
    refine lv_iconst (v := 1) hx hb dX3_store_28 (by decide) ?_
    refine lv_iadd hx hb dX3_store_29 ?_
    refine hp_putI hX hR (ci := 2) 4 rfl wf3 tyX3_ok nmX3 (by decide) wq1_47 rfl dX3_store_30 rfl h (fun σ H locs h hR => ?_)
    exact hp_vret hX hlocks hr hR h dX3_store_33
  · have h := hp_in c2 h
    refine lv_aload_n hx hb dX3_store_9 rfl (lv_at hl 0 rfl) ?_
    refine hp_bn h (fun σ h6 h => ?_)
    refine hp_cv hR (hp_runV (rest := []) (As := []) hX hR (c_Client_loseFirst h6) cs_X3_48 rfl rfl rfl hd_Client_loseFirst ⟨Nat.le_of_ble_eq_true rfl, Nat.le_of_ble_eq_true rfl⟩ (ci := 2) rfl (hp_own_is h6) rfl hl.1 rfl (Nat.le_of_ble_eq_true rfl) dX3_store_10 ⟨Nat.le_of_ble_eq_true rfl, Nat.le_of_ble_eq_true rfl⟩) (fun H locs hR => ?_)
    refine lv_aload_n hx hb dX3_store_13 rfl (lv_at hl 0 rfl) ?_
    refine hp_getR hX hR (ci := 2) 5 rfl wf3 (by decide) wq1_49 dX3_store_14 h (fun q7 h => ?_)
    refine lv_aload_n hx hb dX3_store_17 rfl (lv_at hl 0 rfl) ?_
    refine hp_getI hX hR (ci := 2) 4 rfl wf3 (by decide) wq1_47 dX3_store_18 h (fun v8 h => ?_)
    refine lv_iload_n hx hb dX3_store_21 rfl (lv_at hl 1 rfl) ?_
    refine hp_iast hX hR dX3_store_22 h (fun σ H locs h hR => ?_)
    refine lv_aload_n hx hb dX3_store_23 rfl (lv_at hl 0 rfl) ?_
    refine lv_dup hx hb dX3_store_24 rfl ?_
    refine hp_getI hX hR (ci := 2) 4 rfl wf3 (by decide) wq1_47 dX3_store_25 h (fun v9 h => ?_)
    refine lv_iconst (v := 1) hx hb dX3_store_28 (by decide) ?_
    refine lv_iadd hx hb dX3_store_29 ?_
    refine hp_putI hX hR (ci := 2) 4 rfl wf3 tyX3_ok nmX3 (by decide) wq1_47 rfl dX3_store_30 rfl h (fun σ H locs h hR => ?_)
    exact hp_vret hX hlocks hr hR h dX3_store_33
theorem cs_X3_45 : hp_WV RX3 45 RX3 yX3_store cX3_store 2 none := ⟨wq3_68, wq3_70, wp1_6, wq1_3, wq3_71⟩
theorem cs_X3_41 : hp_WV RX3 41 RX3 yX3_enter cX3_enter 3 none := ⟨wq3_64, wq3_66, wp1_5, wq1_3, wq3_67⟩
/-! Client.receive(I)V -/
abbrev rm_Client_receive : Room := { frames := 2, cells := 0, slots := 0, locals := 42 }
theorem hd_Client_receive : hp_d yX3_receive 1 := by decide +kernel
def f_Client_receive (a0 : Nat) (x1 : Int32) (σ : hp_H) : Option hp_H := hp_own σ a0 2 ((hp_gI σ a0 2 1).bind fun v1 => if v1 = 0 then ((f_Client_store a0 x1 σ).bind fun σ => some σ) else ((f_Client_enter a0 x1 σ).bind fun σ => some σ))
set_option maxHeartbeats 4000000 in
set_option maxRecDepth 100000 in
theorem c_Client_receive {l : Launch} {G : hp_G} {b : Nat} {σ : hp_H} {a0 : Nat} {x1 : Int32} {σ' : hp_H} (h : f_Client_receive a0 x1 σ = some σ') : hp_Met l yX3_receive cX3_receive 2 none rm_Client_receive G b [.ref a0, .int x1] σ none σ' 0 0 := by
  refine hp_met (by decide +kernel) (Nat.le_of_ble_eq_true rfl) (fun p e s m below meth c ls hX hlocks hr hnm hl hR => ?_)
  obtain ⟨hx, hb, hml, hown, hts⟩ := id hX.1
  have hl : lv_has ls 2 [(0, .ref a0), (1, .int x1)] := hl
  unfold f_Client_receive at h
  have h := hp_own_to h
  refine lv_aload_n hx hb dX3_receive_0 rfl (lv_at hl 0 rfl) ?_
  refine hp_getI hX hR (ci := 2) 1 rfl wf3 (by decide) wq1_40 dX3_receive_1 h (fun v1 h => ?_)
  refine lv_if_eq (tgt := 15) hx hb dX3_receive_4 (by decide) (fun c2 => ?_) (fun c2 => ?_)
  · have h := hp_ip c2 h
    refine lv_aload_n hx hb dX3_receive_15 rfl (lv_at hl 0 rfl) ?_
    refine lv_iload_n hx hb dX3_receive_16 rfl (lv_at hl 1 rfl) ?_
    refine hp_bn h (fun σ h3 h => ?_)
    refine hp_cv hR (hp_runV (rest := []) (As := [.int x1]) hX hR (c_Client_store h3) cs_X3_45 rfl rfl rfl hd_Client_store ⟨Nat.le_of_ble_eq_true rfl, Nat.le_of_ble_eq_true rfl⟩ (ci := 2) rfl (hp_own_is h3) rfl hl.1 rfl (Nat.le_of_ble_eq_true rfl) dX3_receive_17 ⟨Nat.le_of_ble_eq_true rfl, Nat.le_of_ble_eq_true rfl⟩) (fun H locs hR => ?_)
    exact hp_vret hX hlocks hr hR h dX3_receive_20
  · have h := hp_in c2 h
    refine lv_aload_n hx hb dX3_receive_7 rfl (lv_at hl 0 rfl) ?_
    refine lv_iload_n hx hb dX3_receive_8 rfl (lv_at hl 1 rfl) ?_
    refine hp_bn h (fun σ h4 h => ?_)
    refine hp_cv hR (hp_runV (rest := []) (As := [.int x1]) hX hR (c_Client_enter h4) cs_X3_41 rfl rfl rfl hd_Client_enter ⟨Nat.le_of_ble_eq_true rfl, Nat.le_of_ble_eq_true rfl⟩ (ci := 2) rfl (hp_own_is h4) rfl hl.1 rfl (Nat.le_of_ble_eq_true rfl) dX3_receive_9 ⟨Nat.le_of_ble_eq_true rfl, Nat.le_of_ble_eq_true rfl⟩) (fun H locs hR => ?_)
    refine lv_goto (tgt := 20) hx hb dX3_receive_12 (by decide) ?_
    exact hp_vret hX hlocks hr hR h dX3_receive_20
/-! Client.arrive(I)I -/
abbrev rm_Client_arrive : Room := { frames := 1, cells := 0, slots := 0, locals := 22 }
theorem hd_Client_arrive : hp_d yX3_arrive 1 := by decide +kernel
def f_Client_arrive_l1 (a0 : Nat) (x2 : Int32) (K : Int32 → hp_H → Option (Int32 × hp_H)) : Nat → Int32 → hp_H → Option (Int32 × hp_H)
  | 0, _, _ => none
  | n + 1, x3, σ => if x2 ≤ x3 then (K x3 σ) else ((hp_gR σ a0 2 5).bind fun q3 => (hp_aI σ q3 0 x3).bind fun v4 => (f_Client_enter a0 v4 σ).bind fun σ => f_Client_arrive_l1 a0 x2 K n (x3 + 1) σ)
def f_Client_arrive (a0 : Nat) (x1 : Int32) (σ : hp_H) : Option (Int32 × hp_H) := hp_own σ a0 2 ((hp_gI σ a0 2 4).bind fun v1 => (hp_pI σ a0 2 0 x1).bind fun σ => (hp_pZ σ a0 2 1 1).bind fun σ => f_Client_arrive_l1 a0 v1 (fun z6 σ => (hp_pI σ a0 2 4 0).bind fun σ => some (v1, σ)) hp_F 0 σ)
set_option maxHeartbeats 4000000 in
set_option maxRecDepth 100000 in
theorem w_Client_arrive_l1 {p : Program} {l : Launch} {e : Env} {s : State} {m : MethodId} {args : Array Value} {below : List Frame} {meth : Method} {c : Code} {G : hp_G} {b : Nat} {a0 : Nat} {x2 : Int32} {r : Int32} {σ' : hp_H} {K : Int32 → hp_H → Option (Int32 × hp_H)} (hX : hp_X G p s m c args cX3_arrive 4 RX3) (hlocks : meth.locks = false) (hr : meth.sig.returnType = (some .int))
    (hK : ∀ (x3 : Int32) (σ : hp_H) (H : Heap) (locs : List Loc) (ls : Array Slot), hp_R G b s.heap σ H locs → lv_has ls 4 [(0, .ref a0), (2, .int x2)] → K x3 σ = some (r, σ') → W p l e rm_Client_arrive s m args below meth c H locs 0 0 (MQ below (hp_Qc G b (some (.int r)) σ') args s 0 0 (fun q => b ≤ q)) (F0 m 38 ls [])) :
    ∀ (n : Nat) (x3 : Int32) (σ : hp_H) (H : Heap) (locs : List Loc) (ls : Array Slot), hp_R G b s.heap σ H locs → f_Client_arrive_l1 a0 x2 K n x3 σ = some (r, σ') → lv_has ls 4 [(0, .ref a0), (2, .int x2), (3, .int x3)] → W p l e rm_Client_arrive s m args below meth c H locs 0 0 (MQ below (hp_Qc G b (some (.int r)) σ') args s 0 0 (fun q => b ≤ q)) (F0 m 17 ls []) := by
  obtain ⟨hx, hb, hml, hown, hts⟩ := id hX.1
  intro n
  induction n with
  | zero =>
    intro x3 σ H locs ls hR h hl
    rw [f_Client_arrive_l1] at h
    cases h
  | succ n ih =>
    intro x3 σ H locs ls hR h hl
    rw [f_Client_arrive_l1] at h
    refine lv_iload_n hx hb dX3_arrive_17 rfl (lv_at hl 2 rfl) ?_
    refine lv_iload_n hx hb dX3_arrive_18 rfl (lv_at hl 1 rfl) ?_
    refine lv_icmp_ge (tgt := 38) hx hb dX3_arrive_19 (by decide) (fun c2 => ?_) (fun c2 => ?_)
    · have h := hp_ip c2 h
      exact hK _ _ _ _ _ hR (lv_sub hl [0, 1] rfl) h
    · have h := hp_in c2 h
      refine lv_aload_n hx hb dX3_arrive_22 rfl (lv_at hl 0 rfl) ?_
      refine lv_aload_n hx hb dX3_arrive_23 rfl (lv_at hl 0 rfl) ?_
      refine hp_getR hX hR (ci := 2) 5 rfl wf3 (by decide) wq1_49 dX3_arrive_24 h (fun q3 h => ?_)
      refine lv_iload_n hx hb dX3_arrive_27 rfl (lv_at hl 2 rfl) ?_
      refine hp_iald hX hR dX3_arrive_28 h (fun v4 h => ?_)
      refine hp_bn h (fun σ h5 h => ?_)
      refine hp_cv hR (hp_runV (rest := []) (As := [.int v4]) hX hR (c_Client_enter h5) cs_X3_41 rfl rfl rfl hd_Client_enter ⟨Nat.le_of_ble_eq_true rfl, Nat.le_of_ble_eq_true rfl⟩ (ci := 2) rfl (hp_own_is h5) rfl hl.1 rfl (Nat.le_of_ble_eq_true rfl) dX3_arrive_29 ⟨Nat.le_of_ble_eq_true rfl, Nat.le_of_ble_eq_true rfl⟩) (fun H locs hR => ?_)
      refine lv_iinc (v := (x3 + 1)) (lv' := [(3, .int (x3 + 1)), (0, .ref a0), (2, .int x2)]) hx hb dX3_arrive_32 hl (k := 2) rfl rfl (by decide) rfl (fun ls hl => ?_)
      refine lv_goto (tgt := 17) hx hb dX3_arrive_35 (by decide) ?_
      exact ih _ _ _ _ _ hR h (lv_sub hl [1, 2, 0] rfl)
set_option maxHeartbeats 4000000 in
set_option maxRecDepth 100000 in
theorem c_Client_arrive {l : Launch} {G : hp_G} {b : Nat} {σ : hp_H} {a0 : Nat} {x1 : Int32} {r : Int32} {σ' : hp_H} (h : f_Client_arrive a0 x1 σ = some (r, σ')) : hp_Met l yX3_arrive cX3_arrive 4 (some .int) rm_Client_arrive G b [.ref a0, .int x1] σ (some (.int r)) σ' 0 0 := by
  refine hp_met (by decide +kernel) (Nat.le_of_ble_eq_true rfl) (fun p e s m below meth c ls hX hlocks hr hnm hl hR => ?_)
  obtain ⟨hx, hb, hml, hown, hts⟩ := id hX.1
  have hl : lv_has ls 4 [(0, .ref a0), (1, .int x1)] := hl
  unfold f_Client_arrive at h
  have h := hp_own_to h
  refine lv_aload_n hx hb dX3_arrive_0 rfl (lv_at hl 0 rfl) ?_
  refine hp_getI hX hR (ci := 2) 4 rfl wf3 (by decide) wq1_47 dX3_arrive_1 h (fun v1 h => ?_)
  refine lv_istore_n (lv' := [(2, .int v1), (0, .ref a0), (1, .int x1)]) hx hb dX3_arrive_4 rfl hl (by decide) rfl (fun ls hl => ?_)
  refine lv_aload_n hx hb dX3_arrive_5 rfl (lv_at hl 1 rfl) ?_
  refine lv_iload_n hx hb dX3_arrive_6 rfl (lv_at hl 2 rfl) ?_
  refine hp_putI hX hR (ci := 2) 0 rfl wf3 tyX3_ok nmX3 (by decide) wq1_37 rfl dX3_arrive_7 rfl h (fun σ H locs h hR => ?_)
  refine lv_aload_n hx hb dX3_arrive_10 rfl (lv_at hl 1 rfl) ?_
  refine lv_iconst (v := 1) hx hb dX3_arrive_11 (by decide) ?_
  refine hp_putZ hX hR (ci := 2) 1 rfl wf3 tyX3_ok nmX3 (by decide) wq1_40 rfl dX3_arrive_12 rfl h (fun σ H locs h hR => ?_)
  refine lv_iconst (v := 0) hx hb dX3_arrive_15 (by decide) ?_
  refine lv_istore_n (lv' := [(3, .int 0), (2, .int v1), (0, .ref a0), (1, .int x1)]) hx hb dX3_arrive_16 rfl hl (by decide) rfl (fun ls hl => ?_)
  refine w_Client_arrive_l1 hX hlocks hr ?_ hp_F _ _ _ _ _ hR h (lv_sub hl [2, 1, 0] rfl)
  intro z6 σ H locs ls hR hl h
  refine lv_aload_n hx hb dX3_arrive_38 rfl (lv_at hl 0 rfl) ?_
  refine lv_iconst (v := 0) hx hb dX3_arrive_39 (by decide) ?_
  refine hp_putI hX hR (ci := 2) 4 rfl wf3 tyX3_ok nmX3 (by decide) wq1_47 rfl dX3_arrive_40 rfl h (fun σ H locs h hR => ?_)
  refine lv_iload_n hx hb dX3_arrive_43 rfl (lv_at hl 1 rfl) ?_
  exact hp_iret hX hlocks hr hR h dX3_arrive_44
/-! Draws.<init>()V -/
abbrev rm_Draws_init : Room := { frames := 1, cells := 0, slots := 0, locals := 12 }
theorem hd_Draws_init : hp_d yX4_init 0 := by decide +kernel
def f_Draws_init (a0 : Nat) (σ : hp_H) : Option hp_H := hp_own σ a0 3 (some σ)
set_option maxHeartbeats 4000000 in
set_option maxRecDepth 100000 in
theorem c_Draws_init {l : Launch} {G : hp_G} {b : Nat} {σ : hp_H} {a0 : Nat} {σ' : hp_H} (h : f_Draws_init a0 σ = some σ') : hp_Met l yX4_init cX4_init 1 none rm_Draws_init G b [.ref a0] σ none σ' 0 0 := by
  refine hp_met (by decide +kernel) (Nat.le_of_ble_eq_true rfl) (fun p e s m below meth c ls hX hlocks hr hnm hl hR => ?_)
  obtain ⟨hx, hb, hml, hown, hts⟩ := id hX.1
  have hl : lv_has ls 1 [(0, .ref a0)] := hl
  unfold f_Draws_init at h
  have h := hp_own_to h
  refine lv_aload_n hx hb dX4_init_0 rfl (lv_at hl 0 rfl) ?_
  refine hp_obj0 hX wq1_224 wq1_22 wq1_23 hl.1 dX4_init_1 (Nat.le_of_ble_eq_true rfl) (Nat.le_of_ble_eq_true rfl) ?_
  exact hp_vret hX hlocks hr hR h dX4_init_4
/-! Draws.draw(I)I -/
abbrev rm_Draws_draw : Room := { frames := 0, cells := 0, slots := 0, locals := 0 }
theorem hd_Draws_draw : hp_d yX4_draw 1 := by decide +kernel
def f_Draws_draw (a0 : Nat) (x1 : Int32) (σ : hp_H) : Option (Int32 × hp_H) := hp_own σ a0 3 ((hp_gI σ a0 3 0).bind fun v1 => (hp_pI σ a0 3 0 (((v1 * 1103515245) + 12345) &&& 2147483647)).bind fun σ => if x1 ≤ 0 then (some (0, σ)) else ((hp_gI σ a0 3 0).bind fun v3 => hp_nz x1 (some (((v3 / 65536) - (v3 / 65536) / x1 * x1), σ))))
set_option maxHeartbeats 4000000 in
set_option maxRecDepth 100000 in
theorem c_Draws_draw {l : Launch} {G : hp_G} {b : Nat} {σ : hp_H} {a0 : Nat} {x1 : Int32} {r : Int32} {σ' : hp_H} (h : f_Draws_draw a0 x1 σ = some (r, σ')) : hp_Met l yX4_draw cX4_draw 2 (some .int) rm_Draws_draw G b [.ref a0, .int x1] σ (some (.int r)) σ' 0 0 := by
  refine hp_met (by decide +kernel) (Nat.le_of_ble_eq_true rfl) (fun p e s m below meth c ls hX hlocks hr hnm hl hR => ?_)
  obtain ⟨hx, hb, hml, hown, hts⟩ := id hX.1
  have hl : lv_has ls 2 [(0, .ref a0), (1, .int x1)] := hl
  unfold f_Draws_draw at h
  have h := hp_own_to h
  refine lv_aload_n hx hb dX4_draw_0 rfl (lv_at hl 0 rfl) ?_
  refine lv_aload_n hx hb dX4_draw_1 rfl (lv_at hl 0 rfl) ?_
  refine hp_getI hX hR (ci := 3) 0 rfl wf4 (by decide) wq1_225 dX4_draw_2 h (fun v1 h => ?_)
  refine lv_ldc (v := 1103515245) hx hb hown (hts _ wq3_113) dX4_draw_5 ?_
  refine lv_imul hx hb dX4_draw_7 ?_
  refine lv_sipush (v := 12345) hx hb dX4_draw_8 (by decide) ?_
  refine lv_iadd hx hb dX4_draw_11 ?_
  refine lv_ldc (v := 2147483647) hx hb hown (hts _ wq3_114) dX4_draw_12 ?_
  refine lv_iand hx hb dX4_draw_14 ?_
  refine hp_putI hX hR (ci := 3) 0 rfl wf4 tyX4_ok nmX4 (by decide) wq1_225 rfl dX4_draw_15 rfl h (fun σ H locs h hR => ?_)
  refine lv_iload_n hx hb dX4_draw_18 rfl (lv_at hl 1 rfl) ?_
  refine lv_if_le (tgt := 34) hx hb dX4_draw_19 (by decide) (fun c2 => ?_) (fun c2 => ?_)
  · have h := hp_ip c2 h
    refine lv_iconst (v := 0) hx hb dX4_draw_34 (by decide) ?_
    exact hp_iret hX hlocks hr hR h dX4_draw_35
  · have h := hp_in c2 h
    refine lv_aload_n hx hb dX4_draw_22 rfl (lv_at hl 0 rfl) ?_
    refine hp_getI hX hR (ci := 3) 0 rfl wf4 (by decide) wq1_225 dX4_draw_23 h (fun v3 h => ?_)
    refine lv_ldc (v := 65536) hx hb hown (hts _ wq3_115) dX4_draw_26 ?_
    refine lv_idiv hx hb dX4_draw_28 (by decide) ?_
    refine lv_iload_n hx hb dX4_draw_29 rfl (lv_at hl 1 rfl) ?_
    obtain ⟨hz4, h⟩ := hp_nz_to h
    refine lv_irem hx hb dX4_draw_30 hz4 ?_
    refine lv_goto (tgt := 35) hx hb dX4_draw_31 (by decide) ?_
    exact hp_iret hX hlocks hr hR h dX4_draw_35
theorem cs_X8_34 : hp_WIN RX8 34 yX3_init "NoticeBoxes" cX3_init 1 := ⟨by decide +kernel, wq1_34, wq1_3, wq1_35⟩
/-! State.<init>()V -/
abbrev rm_State_init : Room := { frames := 2, cells := 22, slots := 199, locals := 32 }
theorem hd_State_init : hp_d yX8_init 0 := by decide +kernel
def f_State_init (a0 : Nat) (σ : hp_H) : Option hp_H := hp_own σ a0 7 ((hp_pI σ a0 7 0 1).bind fun σ => (hp_pI σ a0 7 3 9).bind fun σ => hp_nw σ (.inr (.inl (0, 7, fun _ => 0))) fun q1 σ => (hp_pR σ a0 7 7 q1).bind fun σ => hp_nw σ (.inr (.inr (3, 6, fun _ => none))) fun q2 σ => (hp_pR σ a0 7 8 q2).bind fun σ => hp_nw σ (.inr (.inl (0, 12, fun _ => 0))) fun q3 σ => (hp_pR σ a0 7 9 q3).bind fun σ => hp_nw σ (.inr (.inl (0, 12, fun _ => 0))) fun q4 σ => (hp_pR σ a0 7 10 q4).bind fun σ => (hp_gR σ a0 7 7).bind fun q5 => (hp_sI σ q5 0 0 (-1)).bind fun σ => (hp_gR σ a0 7 8).bind fun q6 => hp_nw σ (.inl (2, [.int 0, .int 0, .int 0, .int 0, .int 0, .null, .null])) fun q7 σ => (f_Client_init q7 σ).bind fun σ => (hp_sR σ q6 3 2 0 q7).bind fun σ => (hp_gR σ a0 7 8).bind fun q9 => hp_nw σ (.inl (2, [.int 0, .int 0, .int 0, .int 0, .int 0, .null, .null])) fun q10 σ => (f_Client_init q10 σ).bind fun σ => (hp_sR σ q9 3 2 1 q10).bind fun σ => (hp_gR σ a0 7 8).bind fun q12 => hp_nw σ (.inl (2, [.int 0, .int 0, .int 0, .int 0, .int 0, .null, .null])) fun q13 σ => (f_Client_init q13 σ).bind fun σ => (hp_sR σ q12 3 2 2 q13).bind fun σ => (hp_gR σ a0 7 8).bind fun q15 => hp_nw σ (.inl (2, [.int 0, .int 0, .int 0, .int 0, .int 0, .null, .null])) fun q16 σ => (f_Client_init q16 σ).bind fun σ => (hp_sR σ q15 3 2 3 q16).bind fun σ => (hp_gR σ a0 7 8).bind fun q18 => hp_nw σ (.inl (2, [.int 0, .int 0, .int 0, .int 0, .int 0, .null, .null])) fun q19 σ => (f_Client_init q19 σ).bind fun σ => (hp_sR σ q18 3 2 4 q19).bind fun σ => (hp_gR σ a0 7 8).bind fun q21 => hp_nw σ (.inl (2, [.int 0, .int 0, .int 0, .int 0, .int 0, .null, .null])) fun q22 σ => (f_Client_init q22 σ).bind fun σ => (hp_sR σ q21 3 2 5 q22).bind fun σ => some σ)
set_option maxHeartbeats 4000000 in
set_option maxRecDepth 100000 in
theorem c_State_init {l : Launch} {G : hp_G} {b : Nat} {σ : hp_H} {a0 : Nat} {σ' : hp_H} (h : f_State_init a0 σ = some σ') : hp_Met l yX8_init cX8_init 2 none rm_State_init G b [.ref a0] σ none σ' 22 199 := by
  refine hp_met (by decide +kernel) (Nat.le_of_ble_eq_true rfl) (fun p e s m below meth c ls hX hlocks hr hnm hl hR => ?_)
  obtain ⟨hx, hb, hml, hown, hts⟩ := id hX.1
  have hl : lv_has ls 2 [(0, .ref a0)] := hl
  unfold f_State_init at h
  have h := hp_own_to h
  refine lv_aload_n hx hb dX8_init_0 rfl (lv_at hl 0 rfl) ?_
  refine hp_obj0 hX wq1_29 wq1_22 wq1_23 hl.1 dX8_init_1 (Nat.le_of_ble_eq_true rfl) (Nat.le_of_ble_eq_true rfl) ?_
  refine lv_aload_n hx hb dX8_init_4 rfl (lv_at hl 0 rfl) ?_
  refine lv_iconst (v := 1) hx hb dX8_init_5 (by decide) ?_
  refine hp_putI hX hR (ci := 7) 0 rfl wf8 tyX8_ok nmX8 (by decide) wq1_67 rfl dX8_init_6 rfl h (fun σ H locs h hR => ?_)
  refine lv_aload_n hx hb dX8_init_9 rfl (lv_at hl 0 rfl) ?_
  refine lv_bipush (v := 9) hx hb dX8_init_10 (by decide) ?_
  refine hp_putI hX hR (ci := 7) 3 rfl wf8 tyX8_ok nmX8 (by decide) wq1_76 rfl dX8_init_12 rfl h (fun σ H locs h hR => ?_)
  refine lv_aload_n hx hb dX8_init_15 rfl (lv_at hl 0 rfl) ?_
  refine lv_bipush (v := 7) hx hb dX8_init_16 (by decide) ?_
  refine hp_newI hX hR 7 wq1_66 (by decide) (by decide) (Nat.le_of_ble_eq_true rfl) (Nat.le_of_ble_eq_true rfl) (Nat.le_of_ble_eq_true rfl) dX8_init_18 h (fun q1 σ H h hR => ?_)
  refine hp_putR hX hR (ci := 7) 7 rfl wf8 tyX8_ok nmX8 (by decide) wq1_85 rfl hnm rfl dX8_init_20 rfl rfl h (fun σ H locs h hR => ?_)
  refine lv_aload_n hx hb dX8_init_23 rfl (lv_at hl 0 rfl) ?_
  refine lv_bipush (v := 6) hx hb dX8_init_24 (by decide) ?_
  refine hp_newR hX hR 3 rfl (by decide) wq1_30 6 (by decide) (by decide) (Nat.le_of_ble_eq_true rfl) (Nat.le_of_ble_eq_true rfl) (Nat.le_of_ble_eq_true rfl) dX8_init_26 h (fun q2 σ H h hR => ?_)
  refine hp_putR hX hR (ci := 7) 8 rfl wf8 tyX8_ok nmX8 (by decide) wq1_88 rfl hnm rfl dX8_init_29 rfl rfl h (fun σ H locs h hR => ?_)
  refine lv_aload_n hx hb dX8_init_32 rfl (lv_at hl 0 rfl) ?_
  refine lv_bipush (v := 12) hx hb dX8_init_33 (by decide) ?_
  refine hp_newI hX hR 12 wq1_66 (by decide) (by decide) (Nat.le_of_ble_eq_true rfl) (Nat.le_of_ble_eq_true rfl) (Nat.le_of_ble_eq_true rfl) dX8_init_35 h (fun q3 σ H h hR => ?_)
  refine hp_putR hX hR (ci := 7) 9 rfl wf8 tyX8_ok nmX8 (by decide) wq1_91 rfl hnm rfl dX8_init_37 rfl rfl h (fun σ H locs h hR => ?_)
  refine lv_aload_n hx hb dX8_init_40 rfl (lv_at hl 0 rfl) ?_
  refine lv_bipush (v := 12) hx hb dX8_init_41 (by decide) ?_
  refine hp_newI hX hR 12 wq1_66 (by decide) (by decide) (Nat.le_of_ble_eq_true rfl) (Nat.le_of_ble_eq_true rfl) (Nat.le_of_ble_eq_true rfl) dX8_init_43 h (fun q4 σ H h hR => ?_)
  refine hp_putR hX hR (ci := 7) 10 rfl wf8 tyX8_ok nmX8 (by decide) wq1_93 rfl hnm rfl dX8_init_45 rfl rfl h (fun σ H locs h hR => ?_)
  refine lv_aload_n hx hb dX8_init_48 rfl (lv_at hl 0 rfl) ?_
  refine hp_getR hX hR (ci := 7) 7 rfl wf8 (by decide) wq1_85 dX8_init_49 h (fun q5 h => ?_)
  refine lv_iconst (v := 0) hx hb dX8_init_52 (by decide) ?_
  refine lv_iconst (v := (-1)) hx hb dX8_init_53 (by decide) ?_
  refine hp_iast hX hR dX8_init_54 h (fun σ H locs h hR => ?_)
  refine lv_iconst (v := 0) hx hb dX8_init_55 (by decide) ?_
  refine lv_istore_n (lv' := [(1, .int 0), (0, .ref a0)]) hx hb dX8_init_56 rfl hl (by decide) rfl (fun ls hl => ?_)
  refine lv_iload_n hx hb dX8_init_57 rfl (lv_at hl 0 rfl) ?_
  refine lv_bipush (v := 6) hx hb dX8_init_58 (by decide) ?_
  refine lv_icmp_ge (tgt := 82) hx hb dX8_init_60 (by decide) (fun cz => absurd cz (by decide)) (fun _ => ?_)
  refine lv_aload_n hx hb dX8_init_63 rfl (lv_at hl 1 rfl) ?_
  refine hp_getR hX hR (ci := 7) 8 rfl wf8 (by decide) wq1_88 dX8_init_64 h (fun q6 h => ?_)
  refine lv_iload_n hx hb dX8_init_67 rfl (lv_at hl 0 rfl) ?_
  refine hp_newO hX hR (ci := 2) (fs := [.int 0, .int 0, .int 0, .int 0, .int 0, .null, .null]) rfl wf3 tyX3_ok wq1_30 wq1_32 wq1_3 (by decide +kernel) (Nat.le_of_ble_eq_true rfl) (Nat.le_of_ble_eq_true rfl) dX8_init_68 h (fun q7 σ H h hR => ?_)
  refine lv_dup hx hb dX8_init_71 rfl ?_
  refine hp_bn h (fun σ h8 h => ?_)
  refine hp_cv hR (hp_runIN (rest := [.ref q7, .int 0, .ref q6]) (As := []) hX hR (c_Client_init h8) cs_X8_34 rfl rfl rfl hd_Client_init ⟨Nat.le_of_ble_eq_true rfl, Nat.le_of_ble_eq_true rfl⟩ rfl hl.1 rfl (Nat.le_of_ble_eq_true rfl) dX8_init_72 ⟨Nat.le_of_ble_eq_true rfl, Nat.le_of_ble_eq_true rfl⟩) (fun H locs hR => ?_)
  refine hp_aast hX hR 3 2 rfl rfl dX8_init_75 h (fun σ H locs h hR => ?_)
  refine lv_iinc (v := 1) (lv' := [(1, .int 1), (0, .ref a0)]) hx hb dX8_init_76 hl (k := 0) rfl (by decide) (by decide) rfl (fun ls hl => ?_)
  refine lv_goto (tgt := 57) hx hb dX8_init_79 (by decide) ?_
  refine lv_iload_n hx hb dX8_init_57 rfl (lv_at hl 0 rfl) ?_
  refine lv_bipush (v := 6) hx hb dX8_init_58 (by decide) ?_
  refine lv_icmp_ge (tgt := 82) hx hb dX8_init_60 (by decide) (fun cz => absurd cz (by decide)) (fun _ => ?_)
  refine lv_aload_n hx hb dX8_init_63 rfl (lv_at hl 1 rfl) ?_
  refine hp_getR hX hR (ci := 7) 8 rfl wf8 (by decide) wq1_88 dX8_init_64 h (fun q9 h => ?_)
  refine lv_iload_n hx hb dX8_init_67 rfl (lv_at hl 0 rfl) ?_
  refine hp_newO hX hR (ci := 2) (fs := [.int 0, .int 0, .int 0, .int 0, .int 0, .null, .null]) rfl wf3 tyX3_ok wq1_30 wq1_32 wq1_3 (by decide +kernel) (Nat.le_of_ble_eq_true rfl) (Nat.le_of_ble_eq_true rfl) dX8_init_68 h (fun q10 σ H h hR => ?_)
  refine lv_dup hx hb dX8_init_71 rfl ?_
  refine hp_bn h (fun σ h11 h => ?_)
  refine hp_cv hR (hp_runIN (rest := [.ref q10, .int 1, .ref q9]) (As := []) hX hR (c_Client_init h11) cs_X8_34 rfl rfl rfl hd_Client_init ⟨Nat.le_of_ble_eq_true rfl, Nat.le_of_ble_eq_true rfl⟩ rfl hl.1 rfl (Nat.le_of_ble_eq_true rfl) dX8_init_72 ⟨Nat.le_of_ble_eq_true rfl, Nat.le_of_ble_eq_true rfl⟩) (fun H locs hR => ?_)
  refine hp_aast hX hR 3 2 rfl rfl dX8_init_75 h (fun σ H locs h hR => ?_)
  refine lv_iinc (v := 2) (lv' := [(1, .int 2), (0, .ref a0)]) hx hb dX8_init_76 hl (k := 0) rfl (by decide) (by decide) rfl (fun ls hl => ?_)
  refine lv_goto (tgt := 57) hx hb dX8_init_79 (by decide) ?_
  refine lv_iload_n hx hb dX8_init_57 rfl (lv_at hl 0 rfl) ?_
  refine lv_bipush (v := 6) hx hb dX8_init_58 (by decide) ?_
  refine lv_icmp_ge (tgt := 82) hx hb dX8_init_60 (by decide) (fun cz => absurd cz (by decide)) (fun _ => ?_)
  refine lv_aload_n hx hb dX8_init_63 rfl (lv_at hl 1 rfl) ?_
  refine hp_getR hX hR (ci := 7) 8 rfl wf8 (by decide) wq1_88 dX8_init_64 h (fun q12 h => ?_)
  refine lv_iload_n hx hb dX8_init_67 rfl (lv_at hl 0 rfl) ?_
  refine hp_newO hX hR (ci := 2) (fs := [.int 0, .int 0, .int 0, .int 0, .int 0, .null, .null]) rfl wf3 tyX3_ok wq1_30 wq1_32 wq1_3 (by decide +kernel) (Nat.le_of_ble_eq_true rfl) (Nat.le_of_ble_eq_true rfl) dX8_init_68 h (fun q13 σ H h hR => ?_)
  refine lv_dup hx hb dX8_init_71 rfl ?_
  refine hp_bn h (fun σ h14 h => ?_)
  refine hp_cv hR (hp_runIN (rest := [.ref q13, .int 2, .ref q12]) (As := []) hX hR (c_Client_init h14) cs_X8_34 rfl rfl rfl hd_Client_init ⟨Nat.le_of_ble_eq_true rfl, Nat.le_of_ble_eq_true rfl⟩ rfl hl.1 rfl (Nat.le_of_ble_eq_true rfl) dX8_init_72 ⟨Nat.le_of_ble_eq_true rfl, Nat.le_of_ble_eq_true rfl⟩) (fun H locs hR => ?_)
  refine hp_aast hX hR 3 2 rfl rfl dX8_init_75 h (fun σ H locs h hR => ?_)
  refine lv_iinc (v := 3) (lv' := [(1, .int 3), (0, .ref a0)]) hx hb dX8_init_76 hl (k := 0) rfl (by decide) (by decide) rfl (fun ls hl => ?_)
  refine lv_goto (tgt := 57) hx hb dX8_init_79 (by decide) ?_
  refine lv_iload_n hx hb dX8_init_57 rfl (lv_at hl 0 rfl) ?_
  refine lv_bipush (v := 6) hx hb dX8_init_58 (by decide) ?_
  refine lv_icmp_ge (tgt := 82) hx hb dX8_init_60 (by decide) (fun cz => absurd cz (by decide)) (fun _ => ?_)
  refine lv_aload_n hx hb dX8_init_63 rfl (lv_at hl 1 rfl) ?_
  refine hp_getR hX hR (ci := 7) 8 rfl wf8 (by decide) wq1_88 dX8_init_64 h (fun q15 h => ?_)
  refine lv_iload_n hx hb dX8_init_67 rfl (lv_at hl 0 rfl) ?_
  refine hp_newO hX hR (ci := 2) (fs := [.int 0, .int 0, .int 0, .int 0, .int 0, .null, .null]) rfl wf3 tyX3_ok wq1_30 wq1_32 wq1_3 (by decide +kernel) (Nat.le_of_ble_eq_true rfl) (Nat.le_of_ble_eq_true rfl) dX8_init_68 h (fun q16 σ H h hR => ?_)
  refine lv_dup hx hb dX8_init_71 rfl ?_
  refine hp_bn h (fun σ h17 h => ?_)
  refine hp_cv hR (hp_runIN (rest := [.ref q16, .int 3, .ref q15]) (As := []) hX hR (c_Client_init h17) cs_X8_34 rfl rfl rfl hd_Client_init ⟨Nat.le_of_ble_eq_true rfl, Nat.le_of_ble_eq_true rfl⟩ rfl hl.1 rfl (Nat.le_of_ble_eq_true rfl) dX8_init_72 ⟨Nat.le_of_ble_eq_true rfl, Nat.le_of_ble_eq_true rfl⟩) (fun H locs hR => ?_)
  refine hp_aast hX hR 3 2 rfl rfl dX8_init_75 h (fun σ H locs h hR => ?_)
  refine lv_iinc (v := 4) (lv' := [(1, .int 4), (0, .ref a0)]) hx hb dX8_init_76 hl (k := 0) rfl (by decide) (by decide) rfl (fun ls hl => ?_)
  refine lv_goto (tgt := 57) hx hb dX8_init_79 (by decide) ?_
  refine lv_iload_n hx hb dX8_init_57 rfl (lv_at hl 0 rfl) ?_
  refine lv_bipush (v := 6) hx hb dX8_init_58 (by decide) ?_
  refine lv_icmp_ge (tgt := 82) hx hb dX8_init_60 (by decide) (fun cz => absurd cz (by decide)) (fun _ => ?_)
  refine lv_aload_n hx hb dX8_init_63 rfl (lv_at hl 1 rfl) ?_
  refine hp_getR hX hR (ci := 7) 8 rfl wf8 (by decide) wq1_88 dX8_init_64 h (fun q18 h => ?_)
  refine lv_iload_n hx hb dX8_init_67 rfl (lv_at hl 0 rfl) ?_
  refine hp_newO hX hR (ci := 2) (fs := [.int 0, .int 0, .int 0, .int 0, .int 0, .null, .null]) rfl wf3 tyX3_ok wq1_30 wq1_32 wq1_3 (by decide +kernel) (Nat.le_of_ble_eq_true rfl) (Nat.le_of_ble_eq_true rfl) dX8_init_68 h (fun q19 σ H h hR => ?_)
  refine lv_dup hx hb dX8_init_71 rfl ?_
  refine hp_bn h (fun σ h20 h => ?_)
  refine hp_cv hR (hp_runIN (rest := [.ref q19, .int 4, .ref q18]) (As := []) hX hR (c_Client_init h20) cs_X8_34 rfl rfl rfl hd_Client_init ⟨Nat.le_of_ble_eq_true rfl, Nat.le_of_ble_eq_true rfl⟩ rfl hl.1 rfl (Nat.le_of_ble_eq_true rfl) dX8_init_72 ⟨Nat.le_of_ble_eq_true rfl, Nat.le_of_ble_eq_true rfl⟩) (fun H locs hR => ?_)
  refine hp_aast hX hR 3 2 rfl rfl dX8_init_75 h (fun σ H locs h hR => ?_)
  refine lv_iinc (v := 5) (lv' := [(1, .int 5), (0, .ref a0)]) hx hb dX8_init_76 hl (k := 0) rfl (by decide) (by decide) rfl (fun ls hl => ?_)
  refine lv_goto (tgt := 57) hx hb dX8_init_79 (by decide) ?_
  refine lv_iload_n hx hb dX8_init_57 rfl (lv_at hl 0 rfl) ?_
  refine lv_bipush (v := 6) hx hb dX8_init_58 (by decide) ?_
  refine lv_icmp_ge (tgt := 82) hx hb dX8_init_60 (by decide) (fun cz => absurd cz (by decide)) (fun _ => ?_)
  refine lv_aload_n hx hb dX8_init_63 rfl (lv_at hl 1 rfl) ?_
  refine hp_getR hX hR (ci := 7) 8 rfl wf8 (by decide) wq1_88 dX8_init_64 h (fun q21 h => ?_)
  refine lv_iload_n hx hb dX8_init_67 rfl (lv_at hl 0 rfl) ?_
  refine hp_newO hX hR (ci := 2) (fs := [.int 0, .int 0, .int 0, .int 0, .int 0, .null, .null]) rfl wf3 tyX3_ok wq1_30 wq1_32 wq1_3 (by decide +kernel) (Nat.le_of_ble_eq_true rfl) (Nat.le_of_ble_eq_true rfl) dX8_init_68 h (fun q22 σ H h hR => ?_)
  refine lv_dup hx hb dX8_init_71 rfl ?_
  refine hp_bn h (fun σ h23 h => ?_)
  refine hp_cv hR (hp_runIN (rest := [.ref q22, .int 5, .ref q21]) (As := []) hX hR (c_Client_init h23) cs_X8_34 rfl rfl rfl hd_Client_init ⟨Nat.le_of_ble_eq_true rfl, Nat.le_of_ble_eq_true rfl⟩ rfl hl.1 rfl (Nat.le_of_ble_eq_true rfl) dX8_init_72 ⟨Nat.le_of_ble_eq_true rfl, Nat.le_of_ble_eq_true rfl⟩) (fun H locs hR => ?_)
  refine hp_aast hX hR 3 2 rfl rfl dX8_init_75 h (fun σ H locs h hR => ?_)
  refine lv_iinc (v := 6) (lv' := [(1, .int 6), (0, .ref a0)]) hx hb dX8_init_76 hl (k := 0) rfl (by decide) (by decide) rfl (fun ls hl => ?_)
  refine lv_goto (tgt := 57) hx hb dX8_init_79 (by decide) ?_
  refine lv_iload_n hx hb dX8_init_57 rfl (lv_at hl 0 rfl) ?_
  refine lv_bipush (v := 6) hx hb dX8_init_58 (by decide) ?_
  refine lv_icmp_ge (tgt := 82) hx hb dX8_init_60 (by decide) (fun _ => ?_) (fun cz => absurd cz (by decide))
  exact hp_vret hX hlocks hr hR h dX8_init_82
theorem cs_X5_9 : hp_WI RX5 9 yX8_init cX8_init 2 := ⟨wq1_239, wq1_27, wq1_2, wq1_28⟩
/-! Image.<init>()V -/
abbrev rm_Image_init : Room := { frames := 3, cells := 23, slots := 210, locals := 53 }
theorem hd_Image_init : hp_d yX5_init 0 := by decide +kernel
def f_Image_init (a0 : Nat) (σ : hp_H) : Option hp_H := hp_own σ a0 4 (hp_nw σ (.inl (7, [.int 0, .int 0, .int 0, .int 0, .int 0, .int 0, .int 0, .null, .null, .null, .null])) fun q1 σ => (f_State_init q1 σ).bind fun σ => (hp_pR σ a0 4 0 q1).bind fun σ => some σ)
set_option maxHeartbeats 4000000 in
set_option maxRecDepth 100000 in
theorem c_Image_init {l : Launch} {G : hp_G} {b : Nat} {σ : hp_H} {a0 : Nat} {σ' : hp_H} (h : f_Image_init a0 σ = some σ') : hp_Met l yX5_init cX5_init 1 none rm_Image_init G b [.ref a0] σ none σ' 23 210 := by
  refine hp_met (by decide +kernel) (Nat.le_of_ble_eq_true rfl) (fun p e s m below meth c ls hX hlocks hr hnm hl hR => ?_)
  obtain ⟨hx, hb, hml, hown, hts⟩ := id hX.1
  have hl : lv_has ls 1 [(0, .ref a0)] := hl
  unfold f_Image_init at h
  have h := hp_own_to h
  refine lv_aload_n hx hb dX5_init_0 rfl (lv_at hl 0 rfl) ?_
  refine hp_obj0 hX wq1_237 wq1_22 wq1_23 hl.1 dX5_init_1 (Nat.le_of_ble_eq_true rfl) (Nat.le_of_ble_eq_true rfl) ?_
  refine lv_aload_n hx hb dX5_init_4 rfl (lv_at hl 0 rfl) ?_
  refine hp_newO hX hR (ci := 7) (fs := [.int 0, .int 0, .int 0, .int 0, .int 0, .int 0, .int 0, .null, .null, .null, .null]) rfl wf8 tyX8_ok wq1_238 wq1_25 wq1_2 (by decide +kernel) (Nat.le_of_ble_eq_true rfl) (Nat.le_of_ble_eq_true rfl) dX5_init_5 h (fun q1 σ H h hR => ?_)
  refine lv_dup hx hb dX5_init_8 rfl ?_
  refine hp_bn h (fun σ h2 h => ?_)
  refine hp_cv hR (hp_runI (rest := [.ref q1, .ref a0]) (As := []) hX hR (c_State_init h2) cs_X5_9 rfl rfl rfl hd_State_init ⟨Nat.le_of_ble_eq_true rfl, Nat.le_of_ble_eq_true rfl⟩ rfl hl.1 rfl (Nat.le_of_ble_eq_true rfl) dX5_init_9 ⟨Nat.le_of_ble_eq_true rfl, Nat.le_of_ble_eq_true rfl⟩) (fun H locs hR => ?_)
  refine hp_putR hX hR (ci := 4) 0 rfl wf5 tyX5_ok nmX5 (by decide) wq2_0 rfl hnm rfl dX5_init_12 rfl rfl h (fun σ H locs h hR => ?_)
  exact hp_vret hX hlocks hr hR h dX5_init_15
theorem cs_X8_56 : hp_WV RX8 56 RX3 yX3_copyFrom cX3_copyFrom 2 none := ⟨wq2_237, wq2_238, wq2_239, wq1_3, wq3_0⟩
/-! State.copyFrom(LNoticeBoxes$State;)V -/
abbrev rm_State_copyFrom : Room := { frames := 2, cells := 0, slots := 0, locals := 61 }
theorem hd_State_copyFrom : hp_d yX8_copyFrom 1 := by decide +kernel
def f_State_copyFrom_l1 (a0 : Nat) (a1 : Nat) (K : Int32 → hp_H → Option hp_H) : Nat → Int32 → hp_H → Option hp_H
  | 0, _, _ => none
  | n + 1, x2, σ => (hp_gI σ a0 7 1).bind fun v10 => if v10 ≤ x2 then (K x2 σ) else ((hp_gR σ a0 7 8).bind fun q12 => (hp_aR σ q12 3 x2).bind fun q13 => (hp_gR σ a1 7 8).bind fun q14 => (hp_aR σ q14 3 x2).bind fun q15 => (f_Client_copyFrom q13 q15 σ).bind fun σ => f_State_copyFrom_l1 a0 a1 K n (x2 + 1) σ)
def f_State_copyFrom (a0 : Nat) (a1 : Nat) (σ : hp_H) : Option hp_H := hp_own σ a0 7 ((hp_gI σ a1 7 0).bind fun v1 => (hp_pI σ a0 7 0 v1).bind fun σ => (hp_gI σ a1 7 1).bind fun v2 => (hp_pI σ a0 7 1 v2).bind fun σ => (hp_gI σ a1 7 2).bind fun v3 => (hp_pI σ a0 7 2 v3).bind fun σ => (hp_gI σ a1 7 3).bind fun v4 => (hp_pI σ a0 7 3 v4).bind fun σ => (hp_gI σ a1 7 4).bind fun v5 => (hp_pI σ a0 7 4 v5).bind fun σ => (hp_gI σ a1 7 5).bind fun v6 => (hp_pI σ a0 7 5 v6).bind fun σ => (hp_gI σ a1 7 6).bind fun v7 => (hp_pI σ a0 7 6 v7).bind fun σ => (hp_gR σ a1 7 7).bind fun q8 => (hp_gR σ a0 7 7).bind fun q9 => (hp_cp σ q8 0 q9 0 7).bind fun σ => f_State_copyFrom_l1 a0 a1 (fun z17 σ => (hp_gR σ a1 7 9).bind fun q18 => (hp_gR σ a0 7 9).bind fun q19 => (hp_cp σ q18 0 q19 0 12).bind fun σ => (hp_gR σ a1 7 10).bind fun q20 => (hp_gR σ a0 7 10).bind fun q21 => (hp_cp σ q20 0 q21 0 12).bind fun σ => some σ) hp_F 0 σ)
set_option maxHeartbeats 4000000 in
set_option maxRecDepth 100000 in
theorem w_State_copyFrom_l1 {p : Program} {l : Launch} {e : Env} {s : State} {m : MethodId} {args : Array Value} {below : List Frame} {meth : Method} {c : Code} {G : hp_G} {b : Nat} {a0 : Nat} {a1 : Nat} {σ' : hp_H} {K : Int32 → hp_H → Option hp_H} (hX : hp_X G p s m c args cX8_copyFrom 3 RX8) (hlocks : meth.locks = false) (hr : meth.sig.returnType = none)
    (hK : ∀ (x2 : Int32) (σ : hp_H) (H : Heap) (locs : List Loc) (ls : Array Slot), hp_R G b s.heap σ H locs → lv_has ls 3 [(0, .ref a0), (1, .ref a1)] → K x2 σ = some σ' → W p l e rm_State_copyFrom s m args below meth c H locs 0 0 (MQ below (hp_Qc G b none σ') args s 0 0 (fun q => b ≤ q)) (F0 m 102 ls [])) :
    ∀ (n : Nat) (x2 : Int32) (σ : hp_H) (H : Heap) (locs : List Loc) (ls : Array Slot), hp_R G b s.heap σ H locs → f_State_copyFrom_l1 a0 a1 K n x2 σ = some σ' → lv_has ls 3 [(0, .ref a0), (1, .ref a1), (2, .int x2)] → W p l e rm_State_copyFrom s m args below meth c H locs 0 0 (MQ below (hp_Qc G b none σ') args s 0 0 (fun q => b ≤ q)) (F0 m 73 ls []) := by
  obtain ⟨hx, hb, hml, hown, hts⟩ := id hX.1
  intro n
  induction n with
  | zero =>
    intro x2 σ H locs ls hR h hl
    rw [f_State_copyFrom_l1] at h
    cases h
  | succ n ih =>
    intro x2 σ H locs ls hR h hl
    rw [f_State_copyFrom_l1] at h
    refine lv_iload_n hx hb dX8_copyFrom_73 rfl (lv_at hl 2 rfl) ?_
    refine lv_aload_n hx hb dX8_copyFrom_74 rfl (lv_at hl 0 rfl) ?_
    refine hp_getI hX hR (ci := 7) 1 rfl wf8 (by decide) wq1_71 dX8_copyFrom_75 h (fun v10 h => ?_)
    refine lv_icmp_ge (tgt := 102) hx hb dX8_copyFrom_78 (by decide) (fun c11 => ?_) (fun c11 => ?_)
    · have h := hp_ip c11 h
      exact hK _ _ _ _ _ hR (lv_sub hl [0, 1] rfl) h
    · have h := hp_in c11 h
      refine lv_aload_n hx hb dX8_copyFrom_81 rfl (lv_at hl 0 rfl) ?_
      refine hp_getR hX hR (ci := 7) 8 rfl wf8 (by decide) wq1_88 dX8_copyFrom_82 h (fun q12 h => ?_)
      refine lv_iload_n hx hb dX8_copyFrom_85 rfl (lv_at hl 2 rfl) ?_
      refine hp_aald hX hR 3 rfl dX8_copyFrom_86 h (fun q13 h => ?_)
      refine lv_aload_n hx hb dX8_copyFrom_87 rfl (lv_at hl 1 rfl) ?_
      refine hp_getR hX hR (ci := 7) 8 rfl wf8 (by decide) wq1_88 dX8_copyFrom_88 h (fun q14 h => ?_)
      refine lv_iload_n hx hb dX8_copyFrom_91 rfl (lv_at hl 2 rfl) ?_
      refine hp_aald hX hR 3 rfl dX8_copyFrom_92 h (fun q15 h => ?_)
      refine hp_bn h (fun σ h16 h => ?_)
      refine hp_cv hR (hp_runV (rest := []) (As := [.ref q15]) hX hR (c_Client_copyFrom h16) cs_X8_56 rfl rfl rfl hd_Client_copyFrom ⟨Nat.le_of_ble_eq_true rfl, Nat.le_of_ble_eq_true rfl⟩ (ci := 2) rfl (hp_own_is h16) rfl hl.1 rfl (Nat.le_of_ble_eq_true rfl) dX8_copyFrom_93 ⟨Nat.le_of_ble_eq_true rfl, Nat.le_of_ble_eq_true rfl⟩) (fun H locs hR => ?_)
      refine lv_iinc (v := (x2 + 1)) (lv' := [(2, .int (x2 + 1)), (0, .ref a0), (1, .ref a1)]) hx hb dX8_copyFrom_96 hl (k := 2) rfl rfl (by decide) rfl (fun ls hl => ?_)
      refine lv_goto (tgt := 73) hx hb dX8_copyFrom_99 (by decide) ?_
      exact ih _ _ _ _ _ hR h (lv_sub hl [1, 2, 0] rfl)
set_option maxHeartbeats 4000000 in
set_option maxRecDepth 100000 in
theorem c_State_copyFrom {l : Launch} {G : hp_G} {b : Nat} {σ : hp_H} {a0 : Nat} {a1 : Nat} {σ' : hp_H} (h : f_State_copyFrom a0 a1 σ = some σ') : hp_Met l yX8_copyFrom cX8_copyFrom 3 none rm_State_copyFrom G b [.ref a0, .ref a1] σ none σ' 0 0 := by
  refine hp_met (by decide +kernel) (Nat.le_of_ble_eq_true rfl) (fun p e s m below meth c ls hX hlocks hr hnm hl hR => ?_)
  obtain ⟨hx, hb, hml, hown, hts⟩ := id hX.1
  have hl : lv_has ls 3 [(0, .ref a0), (1, .ref a1)] := hl
  unfold f_State_copyFrom at h
  have h := hp_own_to h
  refine lv_aload_n hx hb dX8_copyFrom_0 rfl (lv_at hl 0 rfl) ?_
  refine lv_aload_n hx hb dX8_copyFrom_1 rfl (lv_at hl 1 rfl) ?_
  refine hp_getI hX hR (ci := 7) 0 rfl wf8 (by decide) wq1_67 dX8_copyFrom_2 h (fun v1 h => ?_)
  refine hp_putI hX hR (ci := 7) 0 rfl wf8 tyX8_ok nmX8 (by decide) wq1_67 rfl dX8_copyFrom_5 rfl h (fun σ H locs h hR => ?_)
  refine lv_aload_n hx hb dX8_copyFrom_8 rfl (lv_at hl 0 rfl) ?_
  refine lv_aload_n hx hb dX8_copyFrom_9 rfl (lv_at hl 1 rfl) ?_
  refine hp_getI hX hR (ci := 7) 1 rfl wf8 (by decide) wq1_71 dX8_copyFrom_10 h (fun v2 h => ?_)
  refine hp_putI hX hR (ci := 7) 1 rfl wf8 tyX8_ok nmX8 (by decide) wq1_71 rfl dX8_copyFrom_13 rfl h (fun σ H locs h hR => ?_)
  refine lv_aload_n hx hb dX8_copyFrom_16 rfl (lv_at hl 0 rfl) ?_
  refine lv_aload_n hx hb dX8_copyFrom_17 rfl (lv_at hl 1 rfl) ?_
  refine hp_getI hX hR (ci := 7) 2 rfl wf8 (by decide) wq1_73 dX8_copyFrom_18 h (fun v3 h => ?_)
  refine hp_putI hX hR (ci := 7) 2 rfl wf8 tyX8_ok nmX8 (by decide) wq1_73 rfl dX8_copyFrom_21 rfl h (fun σ H locs h hR => ?_)
  refine lv_aload_n hx hb dX8_copyFrom_24 rfl (lv_at hl 0 rfl) ?_
  refine lv_aload_n hx hb dX8_copyFrom_25 rfl (lv_at hl 1 rfl) ?_
  refine hp_getI hX hR (ci := 7) 3 rfl wf8 (by decide) wq1_76 dX8_copyFrom_26 h (fun v4 h => ?_)
  refine hp_putI hX hR (ci := 7) 3 rfl wf8 tyX8_ok nmX8 (by decide) wq1_76 rfl dX8_copyFrom_29 rfl h (fun σ H locs h hR => ?_)
  refine lv_aload_n hx hb dX8_copyFrom_32 rfl (lv_at hl 0 rfl) ?_
  refine lv_aload_n hx hb dX8_copyFrom_33 rfl (lv_at hl 1 rfl) ?_
  refine hp_getI hX hR (ci := 7) 4 rfl wf8 (by decide) wq1_79 dX8_copyFrom_34 h (fun v5 h => ?_)
  refine hp_putI hX hR (ci := 7) 4 rfl wf8 tyX8_ok nmX8 (by decide) wq1_79 rfl dX8_copyFrom_37 rfl h (fun σ H locs h hR => ?_)
  refine lv_aload_n hx hb dX8_copyFrom_40 rfl (lv_at hl 0 rfl) ?_
  refine lv_aload_n hx hb dX8_copyFrom_41 rfl (lv_at hl 1 rfl) ?_
  refine hp_getI hX hR (ci := 7) 5 rfl wf8 (by decide) wq1_81 dX8_copyFrom_42 h (fun v6 h => ?_)
  refine hp_putI hX hR (ci := 7) 5 rfl wf8 tyX8_ok nmX8 (by decide) wq1_81 rfl dX8_copyFrom_45 rfl h (fun σ H locs h hR => ?_)
  refine lv_aload_n hx hb dX8_copyFrom_48 rfl (lv_at hl 0 rfl) ?_
  refine lv_aload_n hx hb dX8_copyFrom_49 rfl (lv_at hl 1 rfl) ?_
  refine hp_getI hX hR (ci := 7) 6 rfl wf8 (by decide) wq1_83 dX8_copyFrom_50 h (fun v7 h => ?_)
  refine hp_putI hX hR (ci := 7) 6 rfl wf8 tyX8_ok nmX8 (by decide) wq1_83 rfl dX8_copyFrom_53 rfl h (fun σ H locs h hR => ?_)
  refine lv_aload_n hx hb dX8_copyFrom_56 rfl (lv_at hl 1 rfl) ?_
  refine hp_getR hX hR (ci := 7) 7 rfl wf8 (by decide) wq1_85 dX8_copyFrom_57 h (fun q8 h => ?_)
  refine lv_iconst (v := 0) hx hb dX8_copyFrom_60 (by decide) ?_
  refine lv_aload_n hx hb dX8_copyFrom_61 rfl (lv_at hl 0 rfl) ?_
  refine hp_getR hX hR (ci := 7) 7 rfl wf8 (by decide) wq1_85 dX8_copyFrom_62 h (fun q9 h => ?_)
  refine lv_iconst (v := 0) hx hb dX8_copyFrom_65 (by decide) ?_
  refine lv_bipush (v := 7) hx hb dX8_copyFrom_66 (by decide) ?_
  refine hp_copy hX hR wq2_234 ⟨wq2_236, wq2_235, wq1_14⟩ hl.1 (Nat.le_of_ble_eq_true rfl) (Nat.le_of_ble_eq_true rfl) dX8_copyFrom_68 h (fun σ H locs h hR => ?_)
  refine lv_iconst (v := 0) hx hb dX8_copyFrom_71 (by decide) ?_
  refine lv_istore_n (lv' := [(2, .int 0), (0, .ref a0), (1, .ref a1)]) hx hb dX8_copyFrom_72 rfl hl (by decide) rfl (fun ls hl => ?_)
  refine w_State_copyFrom_l1 hX hlocks hr ?_ hp_F _ _ _ _ _ hR h (lv_sub hl [1, 2, 0] rfl)
  intro z17 σ H locs ls hR hl h
  refine lv_aload_n hx hb dX8_copyFrom_102 rfl (lv_at hl 1 rfl) ?_
  refine hp_getR hX hR (ci := 7) 9 rfl wf8 (by decide) wq1_91 dX8_copyFrom_103 h (fun q18 h => ?_)
  refine lv_iconst (v := 0) hx hb dX8_copyFrom_106 (by decide) ?_
  refine lv_aload_n hx hb dX8_copyFrom_107 rfl (lv_at hl 0 rfl) ?_
  refine hp_getR hX hR (ci := 7) 9 rfl wf8 (by decide) wq1_91 dX8_copyFrom_108 h (fun q19 h => ?_)
  refine lv_iconst (v := 0) hx hb dX8_copyFrom_111 (by decide) ?_
  refine lv_bipush (v := 12) hx hb dX8_copyFrom_112 (by decide) ?_
  refine hp_copy hX hR wq2_234 ⟨wq2_236, wq2_235, wq1_14⟩ hl.1 (Nat.le_of_ble_eq_true rfl) (Nat.le_of_ble_eq_true rfl) dX8_copyFrom_114 h (fun σ H locs h hR => ?_)
  refine lv_aload_n hx hb dX8_copyFrom_117 rfl (lv_at hl 1 rfl) ?_
  refine hp_getR hX hR (ci := 7) 10 rfl wf8 (by decide) wq1_93 dX8_copyFrom_118 h (fun q20 h => ?_)
  refine lv_iconst (v := 0) hx hb dX8_copyFrom_121 (by decide) ?_
  refine lv_aload_n hx hb dX8_copyFrom_122 rfl (lv_at hl 0 rfl) ?_
  refine hp_getR hX hR (ci := 7) 10 rfl wf8 (by decide) wq1_93 dX8_copyFrom_123 h (fun q21 h => ?_)
  refine lv_iconst (v := 0) hx hb dX8_copyFrom_126 (by decide) ?_
  refine lv_bipush (v := 12) hx hb dX8_copyFrom_127 (by decide) ?_
  refine hp_copy hX hR wq2_234 ⟨wq2_236, wq2_235, wq1_14⟩ hl.1 (Nat.le_of_ble_eq_true rfl) (Nat.le_of_ble_eq_true rfl) dX8_copyFrom_129 h (fun σ H locs h hR => ?_)
  exact hp_vret hX hlocks hr hR h dX8_copyFrom_132
theorem cs_X5_16 : hp_WV RX5 16 RX8 yX8_copyFrom cX8_copyFrom 3 none := ⟨wq3_148, wq2_231, wq2_232, wq1_2, wq2_233⟩
/-! Image.take(LNoticeBoxes$State;LNoticeBoxes$Draws;)V -/
abbrev rm_Image_take : Room := { frames := 3, cells := 0, slots := 0, locals := 83 }
theorem hd_Image_take : hp_d yX5_take 2 := by decide +kernel
def f_Image_take (a0 : Nat) (a1 : Nat) (a2 : Nat) (σ : hp_H) : Option hp_H := hp_own σ a0 4 ((hp_gR σ a0 4 0).bind fun q1 => (f_State_copyFrom q1 a1 σ).bind fun σ => (hp_gI σ a2 3 0).bind fun v3 => (hp_pI σ a0 4 1 v3).bind fun σ => (hp_pZ σ a0 4 2 1).bind fun σ => some σ)
set_option maxHeartbeats 4000000 in
set_option maxRecDepth 100000 in
theorem c_Image_take {l : Launch} {G : hp_G} {b : Nat} {σ : hp_H} {a0 : Nat} {a1 : Nat} {a2 : Nat} {σ' : hp_H} (h : f_Image_take a0 a1 a2 σ = some σ') : hp_Met l yX5_take cX5_take 3 none rm_Image_take G b [.ref a0, .ref a1, .ref a2] σ none σ' 0 0 := by
  refine hp_met (by decide +kernel) (Nat.le_of_ble_eq_true rfl) (fun p e s m below meth c ls hX hlocks hr hnm hl hR => ?_)
  obtain ⟨hx, hb, hml, hown, hts⟩ := id hX.1
  have hl : lv_has ls 3 [(0, .ref a0), (1, .ref a1), (2, .ref a2)] := hl
  unfold f_Image_take at h
  have h := hp_own_to h
  refine lv_aload_n hx hb dX5_take_0 rfl (lv_at hl 0 rfl) ?_
  refine hp_getR hX hR (ci := 4) 0 rfl wf5 (by decide) wq2_0 dX5_take_1 h (fun q1 h => ?_)
  refine lv_aload_n hx hb dX5_take_4 rfl (lv_at hl 1 rfl) ?_
  refine hp_bn h (fun σ h2 h => ?_)
  refine hp_cv hR (hp_runV (rest := []) (As := [.ref a1]) hX hR (c_State_copyFrom h2) cs_X5_16 rfl rfl rfl hd_State_copyFrom ⟨Nat.le_of_ble_eq_true rfl, Nat.le_of_ble_eq_true rfl⟩ (ci := 7) rfl (hp_own_is h2) rfl hl.1 rfl (Nat.le_of_ble_eq_true rfl) dX5_take_5 ⟨Nat.le_of_ble_eq_true rfl, Nat.le_of_ble_eq_true rfl⟩) (fun H locs hR => ?_)
  refine lv_aload_n hx hb dX5_take_8 rfl (lv_at hl 0 rfl) ?_
  refine lv_aload_n hx hb dX5_take_9 rfl (lv_at hl 2 rfl) ?_
  refine hp_getI hX hR (ci := 3) 0 rfl wf4 (by decide) wq1_226 dX5_take_10 h (fun v3 h => ?_)
  refine hp_putI hX hR (ci := 4) 1 rfl wf5 tyX5_ok nmX5 (by decide) wq2_1 rfl dX5_take_13 rfl h (fun σ H locs h hR => ?_)
  refine lv_aload_n hx hb dX5_take_16 rfl (lv_at hl 0 rfl) ?_
  refine lv_iconst (v := 1) hx hb dX5_take_17 (by decide) ?_
  refine hp_putZ hX hR (ci := 4) 2 rfl wf5 tyX5_ok nmX5 (by decide) wq2_2 rfl dX5_take_18 rfl h (fun σ H locs h hR => ?_)
  exact hp_vret hX hlocks hr hR h dX5_take_21
/-! Image.giveBack(LNoticeBoxes$State;LNoticeBoxes$Draws;)V -/
abbrev rm_Image_giveBack : Room := { frames := 3, cells := 0, slots := 0, locals := 83 }
theorem hd_Image_giveBack : hp_d yX5_giveBack 2 := by decide +kernel
def f_Image_giveBack (a0 : Nat) (a1 : Nat) (a2 : Nat) (σ : hp_H) : Option hp_H := hp_own σ a0 4 ((hp_gR σ a0 4 0).bind fun q1 => (f_State_copyFrom a1 q1 σ).bind fun σ => (hp_gI σ a0 4 1).bind fun v3 => (hp_pI σ a2 3 0 v3).bind fun σ => some σ)
set_option maxHeartbeats 4000000 in
set_option maxRecDepth 100000 in
theorem c_Image_giveBack {l : Launch} {G : hp_G} {b : Nat} {σ : hp_H} {a0 : Nat} {a1 : Nat} {a2 : Nat} {σ' : hp_H} (h : f_Image_giveBack a0 a1 a2 σ = some σ') : hp_Met l yX5_giveBack cX5_giveBack 3 none rm_Image_giveBack G b [.ref a0, .ref a1, .ref a2] σ none σ' 0 0 := by
  refine hp_met (by decide +kernel) (Nat.le_of_ble_eq_true rfl) (fun p e s m below meth c ls hX hlocks hr hnm hl hR => ?_)
  obtain ⟨hx, hb, hml, hown, hts⟩ := id hX.1
  have hl : lv_has ls 3 [(0, .ref a0), (1, .ref a1), (2, .ref a2)] := hl
  unfold f_Image_giveBack at h
  have h := hp_own_to h
  refine lv_aload_n hx hb dX5_giveBack_0 rfl (lv_at hl 1 rfl) ?_
  refine lv_aload_n hx hb dX5_giveBack_1 rfl (lv_at hl 0 rfl) ?_
  refine hp_getR hX hR (ci := 4) 0 rfl wf5 (by decide) wq2_0 dX5_giveBack_2 h (fun q1 h => ?_)
  refine hp_bn h (fun σ h2 h => ?_)
  refine hp_cv hR (hp_runV (rest := []) (As := [.ref q1]) hX hR (c_State_copyFrom h2) cs_X5_16 rfl rfl rfl hd_State_copyFrom ⟨Nat.le_of_ble_eq_true rfl, Nat.le_of_ble_eq_true rfl⟩ (ci := 7) rfl (hp_own_is h2) rfl hl.1 rfl (Nat.le_of_ble_eq_true rfl) dX5_giveBack_5 ⟨Nat.le_of_ble_eq_true rfl, Nat.le_of_ble_eq_true rfl⟩) (fun H locs hR => ?_)
  refine lv_aload_n hx hb dX5_giveBack_8 rfl (lv_at hl 2 rfl) ?_
  refine lv_aload_n hx hb dX5_giveBack_9 rfl (lv_at hl 0 rfl) ?_
  refine hp_getI hX hR (ci := 4) 1 rfl wf5 (by decide) wq2_1 dX5_giveBack_10 h (fun v3 h => ?_)
  refine hp_putI hX hR (ci := 3) 0 rfl wf4 tyX4_ok nmX4 (by decide) wq1_226 rfl dX5_giveBack_13 rfl h (fun σ H locs h hR => ?_)
  exact hp_vret hX hlocks hr hR h dX5_giveBack_16
/-! Journey.<init>()V -/
abbrev rm_Journey_init : Room := { frames := 1, cells := 1, slots := 7, locals := 12 }
theorem hd_Journey_init : hp_d yX6_init 0 := by decide +kernel
def f_Journey_init (a0 : Nat) (σ : hp_H) : Option hp_H := hp_own σ a0 5 (hp_nw σ (.inr (.inl (0, 7, fun _ => 0))) fun q1 σ => (hp_pR σ a0 5 0 q1).bind fun σ => some σ)
set_option maxHeartbeats 4000000 in
set_option maxRecDepth 100000 in
theorem c_Journey_init {l : Launch} {G : hp_G} {b : Nat} {σ : hp_H} {a0 : Nat} {σ' : hp_H} (h : f_Journey_init a0 σ = some σ') : hp_Met l yX6_init cX6_init 1 none rm_Journey_init G b [.ref a0] σ none σ' 1 7 := by
  refine hp_met (by decide +kernel) (Nat.le_of_ble_eq_true rfl) (fun p e s m below meth c ls hX hlocks hr hnm hl hR => ?_)
  obtain ⟨hx, hb, hml, hown, hts⟩ := id hX.1
  have hl : lv_has ls 1 [(0, .ref a0)] := hl
  unfold f_Journey_init at h
  have h := hp_own_to h
  refine lv_aload_n hx hb dX6_init_0 rfl (lv_at hl 0 rfl) ?_
  refine hp_obj0 hX wq1_158 wq1_22 wq1_23 hl.1 dX6_init_1 (Nat.le_of_ble_eq_true rfl) (Nat.le_of_ble_eq_true rfl) ?_
  refine lv_aload_n hx hb dX6_init_4 rfl (lv_at hl 0 rfl) ?_
  refine lv_bipush (v := 7) hx hb dX6_init_5 (by decide) ?_
  refine hp_newI hX hR 7 wq1_66 (by decide) (by decide) (Nat.le_of_ble_eq_true rfl) (Nat.le_of_ble_eq_true rfl) (Nat.le_of_ble_eq_true rfl) dX6_init_7 h (fun q1 σ H h hR => ?_)
  refine hp_putR hX hR (ci := 5) 0 rfl wf6 tyX6_ok nmX6 (by decide) wq1_159 rfl hnm rfl dX6_init_9 rfl rfl h (fun σ H locs h hR => ?_)
  exact hp_vret hX hlocks hr hR h dX6_init_12
theorem cs_X8_78 : hp_WS RX8 78 yX1_covers cX1_covers 3 (some .boolean) := ⟨wq2_179, wq2_70, wq1_12, wq2_71⟩
/-! State.clientsWishing(I)I -/
abbrev rm_State_clientsWishing : Room := { frames := 2, cells := 0, slots := 0, locals := 43 }
theorem hd_State_clientsWishing : hp_d yX8_clientsWishing 1 := by decide +kernel
def f_State_clientsWishing_l1 (a0 : Nat) (x1 : Int32) (σ : hp_H) (K : Int32 → Int32 → Option Int32) : Nat → Int32 → Int32 → Option Int32
  | 0, _, _ => none
  | n + 1, x2, x3 => (hp_gI σ a0 7 2).bind fun v1 => if v1 ≤ x3 then (K x2 x3) else ((hp_gR σ a0 7 10).bind fun q3 => (hp_aI σ q3 0 x3).bind fun v4 => (f_Box_covers v4 x1).bind fun v6 => if v6 = 0 then (f_State_clientsWishing_l1 a0 x1 σ K n x2 (x3 + 1)) else ((hp_gR σ a0 7 9).bind fun q8 => (hp_aI σ q8 0 x3).bind fun v9 => f_State_clientsWishing_l1 a0 x1 σ K n (x2 ||| ((1 : Int32) <<< (v9 &&& 31))) (x3 + 1)))
def f_State_clientsWishing (a0 : Nat) (x1 : Int32) (σ : hp_H) : Option Int32 := hp_own σ a0 7 (f_State_clientsWishing_l1 a0 x1 σ (fun z10 z11 => some z10) hp_F 0 0)
set_option maxHeartbeats 4000000 in
set_option maxRecDepth 100000 in
theorem w_State_clientsWishing_l1 {p : Program} {l : Launch} {e : Env} {s : State} {m : MethodId} {args : Array Value} {below : List Frame} {meth : Method} {c : Code} {G : hp_G} {b : Nat} {σ : hp_H} {a0 : Nat} {x1 : Int32} {r : Int32} {K : Int32 → Int32 → Option Int32} (hX : hp_X G p s m c args cX8_clientsWishing 4 RX8) (hlocks : meth.locks = false) (hr : meth.sig.returnType = (some .int))
    (hK : ∀ (x2 : Int32) (x3 : Int32) (H : Heap) (locs : List Loc) (ls : Array Slot), hp_R G b s.heap σ H locs → lv_has ls 4 [(2, .int x2)] → K x2 x3 = some r → W p l e rm_State_clientsWishing s m args below meth c H locs 0 0 (MQ below (hp_Qc G b (some (.int r)) σ) args s 0 0 (fun q => b ≤ q)) (F0 m 42 ls [])) :
    ∀ (n : Nat) (x2 : Int32) (x3 : Int32) (H : Heap) (locs : List Loc) (ls : Array Slot), hp_R G b s.heap σ H locs → f_State_clientsWishing_l1 a0 x1 σ K n x2 x3 = some r → lv_has ls 4 [(0, .ref a0), (1, .int x1), (2, .int x2), (3, .int x3)] → W p l e rm_State_clientsWishing s m args below meth c H locs 0 0 (MQ below (hp_Qc G b (some (.int r)) σ) args s 0 0 (fun q => b ≤ q)) (F0 m 4 ls []) := by
  obtain ⟨hx, hb, hml, hown, hts⟩ := id hX.1
  intro n
  induction n with
  | zero =>
    intro x2 x3 H locs ls hR h hl
    rw [f_State_clientsWishing_l1] at h
    cases h
  | succ n ih =>
    intro x2 x3 H locs ls hR h hl
    rw [f_State_clientsWishing_l1] at h
    refine lv_iload_n hx hb dX8_clientsWishing_4 rfl (lv_at hl 3 rfl) ?_
    refine lv_aload_n hx hb dX8_clientsWishing_5 rfl (lv_at hl 0 rfl) ?_
    refine hp_getI hX hR (ci := 7) 2 rfl wf8 (by decide) wq1_73 dX8_clientsWishing_6 h (fun v1 h => ?_)
    refine lv_icmp_ge (tgt := 42) hx hb dX8_clientsWishing_9 (by decide) (fun c2 => ?_) (fun c2 => ?_)
    · have h := hp_ip c2 h
      exact hK _ _ _ _ _ hR (lv_sub hl [2] rfl) h
    · have h := hp_in c2 h
      refine lv_aload_n hx hb dX8_clientsWishing_12 rfl (lv_at hl 0 rfl) ?_
      refine hp_getR hX hR (ci := 7) 10 rfl wf8 (by decide) wq1_93 dX8_clientsWishing_13 h (fun q3 h => ?_)
      refine lv_iload_n hx hb dX8_clientsWishing_16 rfl (lv_at hl 3 rfl) ?_
      refine hp_iald hX hR dX8_clientsWishing_17 h (fun v4 h => ?_)
      refine lv_iload_n hx hb dX8_clientsWishing_18 rfl (lv_at hl 1 rfl) ?_
      refine hp_bn h (fun v6 h5 h => ?_)
      refine hp_ci hR (hp_runS (rest := []) (As := [.int v4, .int x1]) hX hR (c_Box_covers h5) cs_X8_78 rfl rfl hd_Box_covers ⟨Nat.le_of_ble_eq_true rfl, Nat.le_of_ble_eq_true rfl⟩ rfl hl.1 rfl (Nat.le_of_ble_eq_true rfl) dX8_clientsWishing_19 ⟨Nat.le_of_ble_eq_true rfl, Nat.le_of_ble_eq_true rfl⟩) (fun H locs hR => ?_)
      refine lv_if_eq (tgt := 36) hx hb dX8_clientsWishing_22 (by decide) (fun c7 => ?_) (fun c7 => ?_)
      · have h := hp_ip c7 h
        refine lv_iinc (v := (x3 + 1)) (lv' := [(3, .int (x3 + 1)), (0, .ref a0), (1, .int x1), (2, .int x2)]) hx hb dX8_clientsWishing_36 hl (k := 3) rfl rfl (by decide) rfl (fun ls hl => ?_)
        refine lv_goto (tgt := 4) hx hb dX8_clientsWishing_39 (by decide) ?_
        exact ih _ _ _ _ _ hR h (lv_sub hl [1, 2, 3, 0] rfl)
      · have h := hp_in c7 h
        refine lv_iload_n hx hb dX8_clientsWishing_25 rfl (lv_at hl 2 rfl) ?_
        refine lv_iconst (v := 1) hx hb dX8_clientsWishing_26 (by decide) ?_
        refine lv_aload_n hx hb dX8_clientsWishing_27 rfl (lv_at hl 0 rfl) ?_
        refine hp_getR hX hR (ci := 7) 9 rfl wf8 (by decide) wq1_91 dX8_clientsWishing_28 h (fun q8 h => ?_)
        refine lv_iload_n hx hb dX8_clientsWishing_31 rfl (lv_at hl 3 rfl) ?_
        refine hp_iald hX hR dX8_clientsWishing_32 h (fun v9 h => ?_)
        refine lv_ishl hx hb dX8_clientsWishing_33 ?_
        refine lv_ior hx hb dX8_clientsWishing_34 ?_
        refine lv_istore_n (lv' := [(2, .int (x2 ||| ((1 : Int32) <<< (v9 &&& 31)))), (0, .ref a0), (1, .int x1), (3, .int x3)]) hx hb dX8_clientsWishing_35 rfl hl (by decide) rfl (fun ls hl => ?_)
        refine lv_iinc (v := (x3 + 1)) (lv' := [(3, .int (x3 + 1)), (2, .int (x2 ||| ((1 : Int32) <<< (v9 &&& 31)))), (0, .ref a0), (1, .int x1)]) hx hb dX8_clientsWishing_36 hl (k := 3) rfl rfl (by decide) rfl (fun ls hl => ?_)
        refine lv_goto (tgt := 4) hx hb dX8_clientsWishing_39 (by decide) ?_
        exact ih _ _ _ _ _ hR h (lv_sub hl [2, 3, 1, 0] rfl)
set_option maxHeartbeats 4000000 in
set_option maxRecDepth 100000 in
theorem c_State_clientsWishing {l : Launch} {G : hp_G} {b : Nat} {σ : hp_H} {a0 : Nat} {x1 : Int32} {r : Int32} (h : f_State_clientsWishing a0 x1 σ = some r) : hp_Met l yX8_clientsWishing cX8_clientsWishing 4 (some .int) rm_State_clientsWishing G b [.ref a0, .int x1] σ (some (.int r)) σ 0 0 := by
  refine hp_met (by decide +kernel) (Nat.le_of_ble_eq_true rfl) (fun p e s m below meth c ls hX hlocks hr hnm hl hR => ?_)
  obtain ⟨hx, hb, hml, hown, hts⟩ := id hX.1
  have hl : lv_has ls 4 [(0, .ref a0), (1, .int x1)] := hl
  unfold f_State_clientsWishing at h
  have h := hp_own_to h
  refine lv_iconst (v := 0) hx hb dX8_clientsWishing_0 (by decide) ?_
  refine lv_istore_n (lv' := [(2, .int 0), (0, .ref a0), (1, .int x1)]) hx hb dX8_clientsWishing_1 rfl hl (by decide) rfl (fun ls hl => ?_)
  refine lv_iconst (v := 0) hx hb dX8_clientsWishing_2 (by decide) ?_
  refine lv_istore_n (lv' := [(3, .int 0), (2, .int 0), (0, .ref a0), (1, .int x1)]) hx hb dX8_clientsWishing_3 rfl hl (by decide) rfl (fun ls hl => ?_)
  refine w_State_clientsWishing_l1 hX hlocks hr ?_ hp_F _ _ _ _ _ hR h (lv_sub hl [2, 3, 1, 0] rfl)
  intro z10 z11 H locs ls hR hl h
  refine lv_iload_n hx hb dX8_clientsWishing_42 rfl (lv_at hl 0 rfl) ?_
  exact hp_iretP hX hlocks hr hR h dX8_clientsWishing_43
/-! State.clientsHomeAt(I)I -/
abbrev rm_State_clientsHomeAt : Room := { frames := 0, cells := 0, slots := 0, locals := 0 }
theorem hd_State_clientsHomeAt : hp_d yX8_clientsHomeAt 1 := by decide +kernel
def f_State_clientsHomeAt_l1 (a0 : Nat) (x1 : Int32) (σ : hp_H) (K : Int32 → Int32 → Option Int32) : Nat → Int32 → Int32 → Option Int32
  | 0, _, _ => none
  | n + 1, x2, x3 => (hp_gI σ a0 7 1).bind fun v1 => if v1 ≤ x3 then (K x2 x3) else ((hp_gR σ a0 7 8).bind fun q3 => (hp_aR σ q3 3 x3).bind fun q4 => (hp_gI σ q4 2 0).bind fun v5 => if v5 = x1 then (f_State_clientsHomeAt_l1 a0 x1 σ K n (x2 ||| ((1 : Int32) <<< (x3 &&& 31))) (x3 + 1)) else (f_State_clientsHomeAt_l1 a0 x1 σ K n x2 (x3 + 1)))
def f_State_clientsHomeAt (a0 : Nat) (x1 : Int32) (σ : hp_H) : Option Int32 := hp_own σ a0 7 (f_State_clientsHomeAt_l1 a0 x1 σ (fun z7 z8 => some z7) hp_F 0 0)
set_option maxHeartbeats 4000000 in
set_option maxRecDepth 100000 in
theorem w_State_clientsHomeAt_l1 {p : Program} {l : Launch} {e : Env} {s : State} {m : MethodId} {args : Array Value} {below : List Frame} {meth : Method} {c : Code} {G : hp_G} {b : Nat} {σ : hp_H} {a0 : Nat} {x1 : Int32} {r : Int32} {K : Int32 → Int32 → Option Int32} (hX : hp_X G p s m c args cX8_clientsHomeAt 4 RX8) (hlocks : meth.locks = false) (hr : meth.sig.returnType = (some .int))
    (hK : ∀ (x2 : Int32) (x3 : Int32) (H : Heap) (locs : List Loc) (ls : Array Slot), hp_R G b s.heap σ H locs → lv_has ls 4 [(2, .int x2)] → K x2 x3 = some r → W p l e rm_State_clientsHomeAt s m args below meth c H locs 0 0 (MQ below (hp_Qc G b (some (.int r)) σ) args s 0 0 (fun q => b ≤ q)) (F0 m 37 ls [])) :
    ∀ (n : Nat) (x2 : Int32) (x3 : Int32) (H : Heap) (locs : List Loc) (ls : Array Slot), hp_R G b s.heap σ H locs → f_State_clientsHomeAt_l1 a0 x1 σ K n x2 x3 = some r → lv_has ls 4 [(0, .ref a0), (1, .int x1), (2, .int x2), (3, .int x3)] → W p l e rm_State_clientsHomeAt s m args below meth c H locs 0 0 (MQ below (hp_Qc G b (some (.int r)) σ) args s 0 0 (fun q => b ≤ q)) (F0 m 4 ls []) := by
  obtain ⟨hx, hb, hml, hown, hts⟩ := id hX.1
  intro n
  induction n with
  | zero =>
    intro x2 x3 H locs ls hR h hl
    rw [f_State_clientsHomeAt_l1] at h
    cases h
  | succ n ih =>
    intro x2 x3 H locs ls hR h hl
    rw [f_State_clientsHomeAt_l1] at h
    refine lv_iload_n hx hb dX8_clientsHomeAt_4 rfl (lv_at hl 3 rfl) ?_
    refine lv_aload_n hx hb dX8_clientsHomeAt_5 rfl (lv_at hl 0 rfl) ?_
    refine hp_getI hX hR (ci := 7) 1 rfl wf8 (by decide) wq1_71 dX8_clientsHomeAt_6 h (fun v1 h => ?_)
    refine lv_icmp_ge (tgt := 37) hx hb dX8_clientsHomeAt_9 (by decide) (fun c2 => ?_) (fun c2 => ?_)
    · have h := hp_ip c2 h
      exact hK _ _ _ _ _ hR (lv_sub hl [2] rfl) h
    · have h := hp_in c2 h
      refine lv_aload_n hx hb dX8_clientsHomeAt_12 rfl (lv_at hl 0 rfl) ?_
      refine hp_getR hX hR (ci := 7) 8 rfl wf8 (by decide) wq1_88 dX8_clientsHomeAt_13 h (fun q3 h => ?_)
      refine lv_iload_n hx hb dX8_clientsHomeAt_16 rfl (lv_at hl 3 rfl) ?_
      refine hp_aald hX hR 3 rfl dX8_clientsHomeAt_17 h (fun q4 h => ?_)
      refine hp_getI hX hR (ci := 2) 0 rfl wf3 (by decide) wq1_39 dX8_clientsHomeAt_18 h (fun v5 h => ?_)
      refine lv_iload_n hx hb dX8_clientsHomeAt_21 rfl (lv_at hl 1 rfl) ?_
      refine lv_icmp_ne (tgt := 31) hx hb dX8_clientsHomeAt_22 (by decide) (fun c6 => ?_) (fun c6 => ?_)
      · have h := hp_in c6 h
        refine lv_iinc (v := (x3 + 1)) (lv' := [(3, .int (x3 + 1)), (0, .ref a0), (1, .int x1), (2, .int x2)]) hx hb dX8_clientsHomeAt_31 hl (k := 3) rfl rfl (by decide) rfl (fun ls hl => ?_)
        refine lv_goto (tgt := 4) hx hb dX8_clientsHomeAt_34 (by decide) ?_
        exact ih _ _ _ _ _ hR h (lv_sub hl [1, 2, 3, 0] rfl)
      · have h := hp_ip c6 h
        refine lv_iload_n hx hb dX8_clientsHomeAt_25 rfl (lv_at hl 2 rfl) ?_
        refine lv_iconst (v := 1) hx hb dX8_clientsHomeAt_26 (by decide) ?_
        refine lv_iload_n hx hb dX8_clientsHomeAt_27 rfl (lv_at hl 3 rfl) ?_
        refine lv_ishl hx hb dX8_clientsHomeAt_28 ?_
        refine lv_ior hx hb dX8_clientsHomeAt_29 ?_
        refine lv_istore_n (lv' := [(2, .int (x2 ||| ((1 : Int32) <<< (x3 &&& 31)))), (0, .ref a0), (1, .int x1), (3, .int x3)]) hx hb dX8_clientsHomeAt_30 rfl hl (by decide) rfl (fun ls hl => ?_)
        refine lv_iinc (v := (x3 + 1)) (lv' := [(3, .int (x3 + 1)), (2, .int (x2 ||| ((1 : Int32) <<< (x3 &&& 31)))), (0, .ref a0), (1, .int x1)]) hx hb dX8_clientsHomeAt_31 hl (k := 3) rfl rfl (by decide) rfl (fun ls hl => ?_)
        refine lv_goto (tgt := 4) hx hb dX8_clientsHomeAt_34 (by decide) ?_
        exact ih _ _ _ _ _ hR h (lv_sub hl [2, 3, 1, 0] rfl)
set_option maxHeartbeats 4000000 in
set_option maxRecDepth 100000 in
theorem c_State_clientsHomeAt {l : Launch} {G : hp_G} {b : Nat} {σ : hp_H} {a0 : Nat} {x1 : Int32} {r : Int32} (h : f_State_clientsHomeAt a0 x1 σ = some r) : hp_Met l yX8_clientsHomeAt cX8_clientsHomeAt 4 (some .int) rm_State_clientsHomeAt G b [.ref a0, .int x1] σ (some (.int r)) σ 0 0 := by
  refine hp_met (by decide +kernel) (Nat.le_of_ble_eq_true rfl) (fun p e s m below meth c ls hX hlocks hr hnm hl hR => ?_)
  obtain ⟨hx, hb, hml, hown, hts⟩ := id hX.1
  have hl : lv_has ls 4 [(0, .ref a0), (1, .int x1)] := hl
  unfold f_State_clientsHomeAt at h
  have h := hp_own_to h
  refine lv_iconst (v := 0) hx hb dX8_clientsHomeAt_0 (by decide) ?_
  refine lv_istore_n (lv' := [(2, .int 0), (0, .ref a0), (1, .int x1)]) hx hb dX8_clientsHomeAt_1 rfl hl (by decide) rfl (fun ls hl => ?_)
  refine lv_iconst (v := 0) hx hb dX8_clientsHomeAt_2 (by decide) ?_
  refine lv_istore_n (lv' := [(3, .int 0), (2, .int 0), (0, .ref a0), (1, .int x1)]) hx hb dX8_clientsHomeAt_3 rfl hl (by decide) rfl (fun ls hl => ?_)
  refine w_State_clientsHomeAt_l1 hX hlocks hr ?_ hp_F _ _ _ _ _ hR h (lv_sub hl [2, 3, 1, 0] rfl)
  intro z7 z8 H locs ls hR hl h
  refine lv_iload_n hx hb dX8_clientsHomeAt_37 rfl (lv_at hl 0 rfl) ?_
  exact hp_iretP hX hlocks hr hR h dX8_clientsHomeAt_38
/-! NB.holds(II)Z -/
abbrev rm_NB_holds : Room := { frames := 0, cells := 0, slots := 0, locals := 0 }
theorem hd_NB_holds : hp_d yX10_holds 2 := by decide +kernel
def f_NB_holds (x0 : Int32) (x1 : Int32) : Option Int32 := if ((x0 >>> (x1 &&& 31)) &&& 1) = 1 then (some 1) else (some 0)
set_option maxHeartbeats 4000000 in
set_option maxRecDepth 100000 in
theorem c_NB_holds {l : Launch} {G : hp_G} {b : Nat} {σ : hp_H} {x0 : Int32} {x1 : Int32} {r : Int32} (h : f_NB_holds x0 x1 = some r) : hp_Met l yX10_holds cX10_holds 2 (some .boolean) rm_NB_holds G b [.int x0, .int x1] σ (some (.int r)) σ 0 0 := by
  refine hp_met (by decide +kernel) (Nat.le_of_ble_eq_true rfl) (fun p e s m below meth c ls hX hlocks hr hnm hl hR => ?_)
  obtain ⟨hx, hb, hml, hown, hts⟩ := id hX.1
  have hl : lv_has ls 2 [(0, .int x0), (1, .int x1)] := hl
  unfold f_NB_holds at h
  refine lv_iload_n hx hb dX10_holds_0 rfl (lv_at hl 0 rfl) ?_
  refine lv_iload_n hx hb dX10_holds_1 rfl (lv_at hl 1 rfl) ?_
  refine lv_ishr hx hb dX10_holds_2 ?_
  refine lv_iconst (v := 1) hx hb dX10_holds_3 (by decide) ?_
  refine lv_iand hx hb dX10_holds_4 ?_
  refine lv_iconst (v := 1) hx hb dX10_holds_5 (by decide) ?_
  refine lv_icmp_ne (tgt := 13) hx hb dX10_holds_6 (by decide) (fun c1 => ?_) (fun c1 => ?_)
  · have h := hp_in c1 h
    refine lv_iconst (v := 0) hx hb dX10_holds_13 (by decide) ?_
    exact hp_zretLP (by decide) hX hlocks hr hR h dX10_holds_14
  · have h := hp_ip c1 h
    refine lv_iconst (v := 1) hx hb dX10_holds_9 (by decide) ?_
    refine lv_goto (tgt := 14) hx hb dX10_holds_10 (by decide) ?_
    exact hp_zretLP (by decide) hX hlocks hr hR h dX10_holds_14
/-! State.hasBroker(I)Z -/
abbrev rm_State_hasBroker : Room := { frames := 1, cells := 0, slots := 0, locals := 22 }
theorem hd_State_hasBroker : hp_d yX8_hasBroker 1 := by decide +kernel
def f_State_hasBroker (a0 : Nat) (x1 : Int32) (σ : hp_H) : Option Int32 := hp_own σ a0 7 ((hp_gI σ a0 7 0).bind fun v1 => (f_NB_within x1 0 (v1 - 1)).bind fun v3 => hp_z v3 (some v3))
set_option maxHeartbeats 4000000 in
set_option maxRecDepth 100000 in
theorem c_State_hasBroker {l : Launch} {G : hp_G} {b : Nat} {σ : hp_H} {a0 : Nat} {x1 : Int32} {r : Int32} (h : f_State_hasBroker a0 x1 σ = some r) : hp_Met l yX8_hasBroker cX8_hasBroker 2 (some .boolean) rm_State_hasBroker G b [.ref a0, .int x1] σ (some (.int r)) σ 0 0 := by
  refine hp_met (by decide +kernel) (Nat.le_of_ble_eq_true rfl) (fun p e s m below meth c ls hX hlocks hr hnm hl hR => ?_)
  obtain ⟨hx, hb, hml, hown, hts⟩ := id hX.1
  have hl : lv_has ls 2 [(0, .ref a0), (1, .int x1)] := hl
  unfold f_State_hasBroker at h
  have h := hp_own_to h
  refine lv_iload_n hx hb dX8_hasBroker_0 rfl (lv_at hl 1 rfl) ?_
  refine lv_iconst (v := 0) hx hb dX8_hasBroker_1 (by decide) ?_
  refine lv_aload_n hx hb dX8_hasBroker_2 rfl (lv_at hl 0 rfl) ?_
  refine hp_getI hX hR (ci := 7) 0 rfl wf8 (by decide) wq1_67 dX8_hasBroker_3 h (fun v1 h => ?_)
  refine lv_iconst (v := 1) hx hb dX8_hasBroker_6 (by decide) ?_
  refine lv_isub hx hb dX8_hasBroker_7 ?_
  refine hp_bn h (fun v3 h2 h => ?_)
  refine hp_ci hR (hp_runSN (rest := []) (As := [.int x1, .int 0, .int (v1 - 1)]) hX hR (c_NB_within h2) cs_X8_60 rfl rfl hd_NB_within ⟨Nat.le_of_ble_eq_true rfl, Nat.le_of_ble_eq_true rfl⟩ rfl hl.1 rfl (Nat.le_of_ble_eq_true rfl) dX8_hasBroker_8 ⟨Nat.le_of_ble_eq_true rfl, Nat.le_of_ble_eq_true rfl⟩) (fun H locs hR => ?_)
  exact hp_zretP hX hlocks hr hR h dX8_hasBroker_11
theorem cs_X8_64 : hp_WV RX8 64 RX8 yX8_hasBroker cX8_hasBroker 2 (some .boolean) := ⟨wq2_90, wq2_91, wq2_92, wq1_2, wq2_93⟩
/-! State.areNeighbours(II)Z -/
abbrev rm_State_areNeighbours : Room := { frames := 2, cells := 0, slots := 0, locals := 43 }
theorem hd_State_areNeighbours : hp_d yX8_areNeighbours 2 := by decide +kernel
def f_State_areNeighbours (a0 : Nat) (x1 : Int32) (x2 : Int32) (σ : hp_H) : Option Int32 := hp_own σ a0 7 ((f_State_hasBroker a0 x1 σ).bind fun v2 => if v2 = 0 then (some 0) else ((f_State_hasBroker a0 x2 σ).bind fun v5 => if v5 = 0 then (some 0) else ((hp_gR σ a0 7 7).bind fun q7 => (hp_aI σ q7 0 x1).bind fun v8 => if v8 = x2 then (some 1) else ((hp_gR σ a0 7 7).bind fun q10 => (hp_aI σ q10 0 x2).bind fun v11 => if v11 = x1 then (some 1) else (some 0)))))
set_option maxHeartbeats 4000000 in
set_option maxRecDepth 100000 in
theorem c_State_areNeighbours {l : Launch} {G : hp_G} {b : Nat} {σ : hp_H} {a0 : Nat} {x1 : Int32} {x2 : Int32} {r : Int32} (h : f_State_areNeighbours a0 x1 x2 σ = some r) : hp_Met l yX8_areNeighbours cX8_areNeighbours 3 (some .boolean) rm_State_areNeighbours G b [.ref a0, .int x1, .int x2] σ (some (.int r)) σ 0 0 := by
  refine hp_met (by decide +kernel) (Nat.le_of_ble_eq_true rfl) (fun p e s m below meth c ls hX hlocks hr hnm hl hR => ?_)
  obtain ⟨hx, hb, hml, hown, hts⟩ := id hX.1
  have hl : lv_has ls 3 [(0, .ref a0), (1, .int x1), (2, .int x2)] := hl
  unfold f_State_areNeighbours at h
  have h := hp_own_to h
  refine lv_aload_n hx hb dX8_areNeighbours_0 rfl (lv_at hl 0 rfl) ?_
  refine lv_iload_n hx hb dX8_areNeighbours_1 rfl (lv_at hl 1 rfl) ?_
  refine hp_bn h (fun v2 h1 h => ?_)
  refine hp_ci hR (hp_runV (rest := []) (As := [.int x1]) hX hR (c_State_hasBroker h1) cs_X8_64 rfl rfl rfl hd_State_hasBroker ⟨Nat.le_of_ble_eq_true rfl, Nat.le_of_ble_eq_true rfl⟩ (ci := 7) rfl (hp_own_is h1) rfl hl.1 rfl (Nat.le_of_ble_eq_true rfl) dX8_areNeighbours_2 ⟨Nat.le_of_ble_eq_true rfl, Nat.le_of_ble_eq_true rfl⟩) (fun H locs hR => ?_)
  refine lv_if_eq (tgt := 40) hx hb dX8_areNeighbours_5 (by decide) (fun c3 => ?_) (fun c3 => ?_)
  · have h := hp_ip c3 h
    refine lv_iconst (v := 0) hx hb dX8_areNeighbours_40 (by decide) ?_
    exact hp_zretLP (by decide) hX hlocks hr hR h dX8_areNeighbours_41
  · have h := hp_in c3 h
    refine lv_aload_n hx hb dX8_areNeighbours_8 rfl (lv_at hl 0 rfl) ?_
    refine lv_iload_n hx hb dX8_areNeighbours_9 rfl (lv_at hl 2 rfl) ?_
    refine hp_bn h (fun v5 h4 h => ?_)
    refine hp_ci hR (hp_runV (rest := []) (As := [.int x2]) hX hR (c_State_hasBroker h4) cs_X8_64 rfl rfl rfl hd_State_hasBroker ⟨Nat.le_of_ble_eq_true rfl, Nat.le_of_ble_eq_true rfl⟩ (ci := 7) rfl (hp_own_is h4) rfl hl.1 rfl (Nat.le_of_ble_eq_true rfl) dX8_areNeighbours_10 ⟨Nat.le_of_ble_eq_true rfl, Nat.le_of_ble_eq_true rfl⟩) (fun H locs hR => ?_)
    refine lv_if_eq (tgt := 40) hx hb dX8_areNeighbours_13 (by decide) (fun c6 => ?_) (fun c6 => ?_)
    · have h := hp_ip c6 h
      refine lv_iconst (v := 0) hx hb dX8_areNeighbours_40 (by decide) ?_
      exact hp_zretLP (by decide) hX hlocks hr hR h dX8_areNeighbours_41
    · have h := hp_in c6 h
      refine lv_aload_n hx hb dX8_areNeighbours_16 rfl (lv_at hl 0 rfl) ?_
      refine hp_getR hX hR (ci := 7) 7 rfl wf8 (by decide) wq1_85 dX8_areNeighbours_17 h (fun q7 h => ?_)
      refine lv_iload_n hx hb dX8_areNeighbours_20 rfl (lv_at hl 1 rfl) ?_
      refine hp_iald hX hR dX8_areNeighbours_21 h (fun v8 h => ?_)
      refine lv_iload_n hx hb dX8_areNeighbours_22 rfl (lv_at hl 2 rfl) ?_
      refine lv_icmp_eq (tgt := 36) hx hb dX8_areNeighbours_23 (by decide) (fun c9 => ?_) (fun c9 => ?_)
      · have h := hp_ip c9 h
        refine lv_iconst (v := 1) hx hb dX8_areNeighbours_36 (by decide) ?_
        refine lv_goto (tgt := 41) hx hb dX8_areNeighbours_37 (by decide) ?_
        exact hp_zretLP (by decide) hX hlocks hr hR h dX8_areNeighbours_41
      · have h := hp_in c9 h
        refine lv_aload_n hx hb dX8_areNeighbours_26 rfl (lv_at hl 0 rfl) ?_
        refine hp_getR hX hR (ci := 7) 7 rfl wf8 (by decide) wq1_85 dX8_areNeighbours_27 h (fun q10 h => ?_)
        refine lv_iload_n hx hb dX8_areNeighbours_30 rfl (lv_at hl 2 rfl) ?_
        refine hp_iald hX hR dX8_areNeighbours_31 h (fun v11 h => ?_)
        refine lv_iload_n hx hb dX8_areNeighbours_32 rfl (lv_at hl 1 rfl) ?_
        refine lv_icmp_ne (tgt := 40) hx hb dX8_areNeighbours_33 (by decide) (fun c12 => ?_) (fun c12 => ?_)
        · have h := hp_in c12 h
          refine lv_iconst (v := 0) hx hb dX8_areNeighbours_40 (by decide) ?_
          exact hp_zretLP (by decide) hX hlocks hr hR h dX8_areNeighbours_41
        · have h := hp_ip c12 h
          refine lv_iconst (v := 1) hx hb dX8_areNeighbours_36 (by decide) ?_
          refine lv_goto (tgt := 41) hx hb dX8_areNeighbours_37 (by decide) ?_
          exact hp_zretLP (by decide) hX hlocks hr hR h dX8_areNeighbours_41
/-! Tellings.between(LNoticeBoxes$State;II)LNoticeBoxes$BoxList; -/
abbrev rm_Tellings_between : Room := { frames := 0, cells := 0, slots := 0, locals := 0 }
theorem hd_Tellings_between : hp_d yX9_between 3 := by decide +kernel
def f_Tellings_between (a0 : Nat) (a1 : Nat) (x2 : Int32) (x3 : Int32) (σ : hp_H) : Option Nat := hp_own σ a0 8 ((hp_gR σ a1 7 7).bind fun q1 => (hp_aI σ q1 0 x2).bind fun v2 => if v2 = x3 then ((hp_gR σ a0 8 0).bind fun q6 => (hp_aR σ q6 2 x2).bind fun q7 => some q7) else ((hp_gR σ a0 8 1).bind fun q4 => (hp_aR σ q4 2 x3).bind fun q5 => some q5))
set_option maxHeartbeats 4000000 in
set_option maxRecDepth 100000 in
theorem c_Tellings_between {l : Launch} {G : hp_G} {b : Nat} {σ : hp_H} {a0 : Nat} {a1 : Nat} {x2 : Int32} {x3 : Int32} {r : Nat} (h : f_Tellings_between a0 a1 x2 x3 σ = some r) : hp_Met l yX9_between cX9_between 4 (some (.object "NoticeBoxes$BoxList")) rm_Tellings_between G b [.ref a0, .ref a1, .int x2, .int x3] σ (some (.ref r)) σ 0 0 := by
  refine hp_met (by decide +kernel) (Nat.le_of_ble_eq_true rfl) (fun p e s m below meth c ls hX hlocks hr hnm hl hR => ?_)
  obtain ⟨hx, hb, hml, hown, hts⟩ := id hX.1
  have hl : lv_has ls 4 [(0, .ref a0), (1, .ref a1), (2, .int x2), (3, .int x3)] := hl
  unfold f_Tellings_between at h
  have h := hp_own_to h
  refine lv_aload_n hx hb dX9_between_0 rfl (lv_at hl 1 rfl) ?_
  refine hp_getR hX hR (ci := 7) 7 rfl wf8 (by decide) wq1_86 dX9_between_1 h (fun q1 h => ?_)
  refine lv_iload_n hx hb dX9_between_4 rfl (lv_at hl 2 rfl) ?_
  refine hp_iald hX hR dX9_between_5 h (fun v2 h => ?_)
  refine lv_iload_n hx hb dX9_between_6 rfl (lv_at hl 3 rfl) ?_
  refine lv_icmp_ne (tgt := 19) hx hb dX9_between_7 (by decide) (fun c3 => ?_) (fun c3 => ?_)
  · have h := hp_in c3 h
    refine lv_aload_n hx hb dX9_between_19 rfl (lv_at hl 0 rfl) ?_
    refine hp_getR hX hR (ci := 8) 1 rfl wf9 (by decide) wq1_144 dX9_between_20 h (fun q4 h => ?_)
    refine lv_iload_n hx hb dX9_between_23 rfl (lv_at hl 3 rfl) ?_
    refine hp_aald hX hR 2 rfl dX9_between_24 h (fun q5 h => ?_)
    exact hp_aretP hX hlocks hr hR h dX9_between_25
  · have h := hp_ip c3 h
    refine lv_aload_n hx hb dX9_between_10 rfl (lv_at hl 0 rfl) ?_
    refine hp_getR hX hR (ci := 8) 0 rfl wf9 (by decide) wq1_143 dX9_between_11 h (fun q6 h => ?_)
    refine lv_iload_n hx hb dX9_between_14 rfl (lv_at hl 2 rfl) ?_
    refine hp_aald hX hR 2 rfl dX9_between_15 h (fun q7 h => ?_)
    refine lv_goto (tgt := 25) hx hb dX9_between_16 (by decide) ?_
    exact hp_aretP hX hlocks hr hR h dX9_between_25
theorem cs_X6_44 : hp_WSN RX6 44 yX10_holds "NoticeBoxes" cX10_holds 2 (some .boolean) := ⟨by decide +kernel, wq2_58, wq1_1, wq2_59⟩
theorem cs_X6_48 : hp_WV RX6 48 RX8 yX8_areNeighbours cX8_areNeighbours 3 (some .boolean) := ⟨wq2_218, wq2_87, wq2_88, wq1_2, wq2_89⟩
theorem cs_X6_51 : hp_WV RX6 51 RX9 yX9_between cX9_between 4 (some (.object "NoticeBoxes$BoxList")) := ⟨wq2_219, wq2_46, wq2_47, wq1_4, wq2_48⟩
theorem cs_X6_57 : hp_WV RX6 57 RX2 yX2_covers cX2_covers 3 (some .boolean) := ⟨wq2_220, wq2_66, wq2_67, wq1_5, wq2_68⟩
/-! Journey.goOn(LNoticeBoxes$State;LNoticeBoxes$Tellings;II)Z -/
abbrev rm_Journey_goOn : Room := { frames := 3, cells := 0, slots := 0, locals := 65 }
theorem hd_Journey_goOn : hp_d yX6_goOn 4 := by decide +kernel
def f_Journey_goOn_l1 (a0 : Nat) (a1 : Nat) (a2 : Nat) (x3 : Int32) (x4 : Int32) (x5 : Int32) (K : Int32 → hp_H → Option (Int32 × hp_H)) : Nat → Int32 → hp_H → Option (Int32 × hp_H)
  | 0, _, _ => none
  | n + 1, x6, σ => (hp_gI σ a1 7 0).bind fun v2 => if v2 ≤ x6 then (K x6 σ) else ((hp_gI σ a0 5 4).bind fun v4 => if (6 : Int32) ≤ v4 then (K x6 σ) else ((hp_gI σ a0 5 1).bind fun v6 => (f_NB_holds v6 x6).bind fun v8 => if v8 = 0 then ((f_State_areNeighbours a1 x6 x3 σ).bind fun v11 => if v11 = 0 then (f_Journey_goOn_l1 a0 a1 a2 x3 x4 x5 K n (x6 + 1) σ) else ((f_Tellings_between a2 a1 x6 x3 σ).bind fun q14 => (f_BoxList_covers q14 x4 σ).bind fun v16 => if v16 = 0 then (f_Journey_goOn_l1 a0 a1 a2 x3 x4 x5 K n (x6 + 1) σ) else ((hp_gI σ a0 5 1).bind fun v18 => (hp_pI σ a0 5 1 (v18 ||| ((1 : Int32) <<< (x6 &&& 31)))).bind fun σ => (hp_gI σ a0 5 4).bind fun v19 => (hp_pI σ a0 5 4 (v19 + 1)).bind fun σ => (hp_gR σ a0 5 0).bind fun q20 => (hp_gI σ a0 5 4).bind fun v21 => (hp_sI σ q20 0 v21 x6).bind fun σ => f_Journey_goOn_l1 a0 a1 a2 x3 x4 x5 K n (x6 + 1) σ))) else (f_Journey_goOn_l1 a0 a1 a2 x3 x4 x5 K n (x6 + 1) σ)))
def f_Journey_goOn (a0 : Nat) (a1 : Nat) (a2 : Nat) (x3 : Int32) (x4 : Int32) (σ : hp_H) : Option (Int32 × hp_H) := hp_own σ a0 5 ((hp_gI σ a0 5 4).bind fun v1 => f_Journey_goOn_l1 a0 a1 a2 x3 x4 v1 (fun z22 σ => (hp_gI σ a0 5 4).bind fun v23 => if v23 ≤ v1 then (some (0, σ)) else (some (1, σ))) hp_F 0 σ)
set_option maxHeartbeats 4000000 in
set_option maxRecDepth 100000 in
theorem w_Journey_goOn_l1 {p : Program} {l : Launch} {e : Env} {s : State} {m : MethodId} {args : Array Value} {below : List Frame} {meth : Method} {c : Code} {G : hp_G} {b : Nat} {a0 : Nat} {a1 : Nat} {a2 : Nat} {x3 : Int32} {x4 : Int32} {x5 : Int32} {r : Int32} {σ' : hp_H} {K : Int32 → hp_H → Option (Int32 × hp_H)} (hX : hp_X G p s m c args cX6_goOn 8 RX6) (hlocks : meth.locks = false) (hr : meth.sig.returnType = (some .boolean))
    (hK : ∀ (x6 : Int32) (σ : hp_H) (H : Heap) (locs : List Loc) (ls : Array Slot), hp_R G b s.heap σ H locs → lv_has ls 8 [(0, .ref a0), (5, .int x5)] → K x6 σ = some (r, σ') → W p l e rm_Journey_goOn s m args below meth c H locs 0 0 (MQ below (hp_Qc G b (some (.int r)) σ') args s 0 0 (fun q => b ≤ q)) (F0 m 117 ls [])) :
    ∀ (n : Nat) (x6 : Int32) (σ : hp_H) (H : Heap) (locs : List Loc) (ls : Array Slot), hp_R G b s.heap σ H locs → f_Journey_goOn_l1 a0 a1 a2 x3 x4 x5 K n x6 σ = some (r, σ') → lv_has ls 8 [(0, .ref a0), (1, .ref a1), (2, .ref a2), (3, .int x3), (4, .int x4), (5, .int x5), (6, .int x6)] → W p l e rm_Journey_goOn s m args below meth c H locs 0 0 (MQ below (hp_Qc G b (some (.int r)) σ') args s 0 0 (fun q => b ≤ q)) (F0 m 9 ls []) := by
  obtain ⟨hx, hb, hml, hown, hts⟩ := id hX.1
  intro n
  induction n with
  | zero =>
    intro x6 σ H locs ls hR h hl
    rw [f_Journey_goOn_l1] at h
    cases h
  | succ n ih =>
    intro x6 σ H locs ls hR h hl
    rw [f_Journey_goOn_l1] at h
    refine lv_iload hx hb dX6_goOn_9 (lv_at hl 6 rfl) ?_
    refine lv_aload_n hx hb dX6_goOn_11 rfl (lv_at hl 1 rfl) ?_
    refine hp_getI hX hR (ci := 7) 0 rfl wf8 (by decide) wq1_69 dX6_goOn_12 h (fun v2 h => ?_)
    refine lv_icmp_ge (tgt := 117) hx hb dX6_goOn_15 (by decide) (fun c3 => ?_) (fun c3 => ?_)
    · have h := hp_ip c3 h
      exact hK _ _ _ _ _ hR (lv_sub hl [0, 5] rfl) h
    · have h := hp_in c3 h
      refine lv_aload_n hx hb dX6_goOn_18 rfl (lv_at hl 0 rfl) ?_
      refine hp_getI hX hR (ci := 5) 4 rfl wf6 (by decide) wq1_168 dX6_goOn_19 h (fun v4 h => ?_)
      refine lv_bipush (v := 6) hx hb dX6_goOn_22 (by decide) ?_
      refine lv_icmp_ge (tgt := 117) hx hb dX6_goOn_24 (by decide) (fun c5 => ?_) (fun c5 => ?_)
      · have h := hp_ip c5 h
        exact hK _ _ _ _ _ hR (lv_sub hl [0, 5] rfl) h
      · have h := hp_in c5 h
        refine lv_aload_n hx hb dX6_goOn_27 rfl (lv_at hl 0 rfl) ?_
        refine hp_getI hX hR (ci := 5) 1 rfl wf6 (by decide) wq1_160 dX6_goOn_28 h (fun v6 h => ?_)
        refine lv_iload hx hb dX6_goOn_31 (lv_at hl 6 rfl) ?_
        refine hp_bn h (fun v8 h7 h => ?_)
        refine hp_ci hR (hp_runSN (rest := []) (As := [.int v6, .int x6]) hX hR (c_NB_holds h7) cs_X6_44 rfl rfl hd_NB_holds ⟨Nat.le_of_ble_eq_true rfl, Nat.le_of_ble_eq_true rfl⟩ rfl hl.1 rfl (Nat.le_of_ble_eq_true rfl) dX6_goOn_33 ⟨Nat.le_of_ble_eq_true rfl, Nat.le_of_ble_eq_true rfl⟩) (fun H locs hR => ?_)
        refine lv_if_ne (tgt := 43) hx hb dX6_goOn_36 (by decide) (fun c9 => ?_) (fun c9 => ?_)
        · have h := hp_in c9 h
          refine lv_iconst (v := 0) hx hb dX6_goOn_43 (by decide) ?_
          refine lv_istore (lv' := [(7, .int 0), (0, .ref a0), (1, .ref a1), (2, .ref a2), (3, .int x3), (4, .int x4), (5, .int x5), (6, .int x6)]) hx hb dX6_goOn_44 hl (by decide) rfl (fun ls hl => ?_)
          refine lv_iload hx hb dX6_goOn_46 (lv_at hl 0 rfl) ?_
          refine lv_if_eq (tgt := 111) hx hb dX6_goOn_48 (by decide) (fun _ => ?_) (fun cz => absurd cz (by decide))
          refine lv_iinc (v := (x6 + 1)) (lv' := [(6, .int (x6 + 1)), (7, .int 0), (0, .ref a0), (1, .ref a1), (2, .ref a2), (3, .int x3), (4, .int x4), (5, .int x5)]) hx hb dX6_goOn_111 hl (k := 7) rfl rfl (by decide) rfl (fun ls hl => ?_)
          refine lv_goto (tgt := 9) hx hb dX6_goOn_114 (by decide) ?_
          exact ih _ _ _ _ _ hR h (lv_sub hl [2, 3, 4, 5, 6, 7, 0] rfl)
        · have h := hp_ip c9 h
          refine lv_iconst (v := 1) hx hb dX6_goOn_39 (by decide) ?_
          refine lv_goto (tgt := 44) hx hb dX6_goOn_40 (by decide) ?_
          refine lv_istore (lv' := [(7, .int 1), (0, .ref a0), (1, .ref a1), (2, .ref a2), (3, .int x3), (4, .int x4), (5, .int x5), (6, .int x6)]) hx hb dX6_goOn_44 hl (by decide) rfl (fun ls hl => ?_)
          refine lv_iload hx hb dX6_goOn_46 (lv_at hl 0 rfl) ?_
          refine lv_if_eq (tgt := 111) hx hb dX6_goOn_48 (by decide) (fun cz => absurd cz (by decide)) (fun _ => ?_)
          refine lv_aload_n hx hb dX6_goOn_51 rfl (lv_at hl 2 rfl) ?_
          refine lv_iload hx hb dX6_goOn_52 (lv_at hl 7 rfl) ?_
          refine lv_iload_n hx hb dX6_goOn_54 rfl (lv_at hl 4 rfl) ?_
          refine hp_bn h (fun v11 h10 h => ?_)
          refine hp_ci hR (hp_runV (rest := []) (As := [.int x6, .int x3]) hX hR (c_State_areNeighbours h10) cs_X6_48 rfl rfl rfl hd_State_areNeighbours ⟨Nat.le_of_ble_eq_true rfl, Nat.le_of_ble_eq_true rfl⟩ (ci := 7) rfl (hp_own_is h10) rfl hl.1 rfl (Nat.le_of_ble_eq_true rfl) dX6_goOn_55 ⟨Nat.le_of_ble_eq_true rfl, Nat.le_of_ble_eq_true rfl⟩) (fun H locs hR => ?_)
          refine lv_if_eq (tgt := 111) hx hb dX6_goOn_58 (by decide) (fun c12 => ?_) (fun c12 => ?_)
          · have h := hp_ip c12 h
            refine lv_iinc (v := (x6 + 1)) (lv' := [(6, .int (x6 + 1)), (7, .int 1), (0, .ref a0), (1, .ref a1), (2, .ref a2), (3, .int x3), (4, .int x4), (5, .int x5)]) hx hb dX6_goOn_111 hl (k := 7) rfl rfl (by decide) rfl (fun ls hl => ?_)
            refine lv_goto (tgt := 9) hx hb dX6_goOn_114 (by decide) ?_
            exact ih _ _ _ _ _ hR h (lv_sub hl [2, 3, 4, 5, 6, 7, 0] rfl)
          · have h := hp_in c12 h
            refine lv_aload_n hx hb dX6_goOn_61 rfl (lv_at hl 3 rfl) ?_
            refine lv_aload_n hx hb dX6_goOn_62 rfl (lv_at hl 2 rfl) ?_
            refine lv_iload hx hb dX6_goOn_63 (lv_at hl 7 rfl) ?_
            refine lv_iload_n hx hb dX6_goOn_65 rfl (lv_at hl 4 rfl) ?_
            refine hp_bn h (fun q14 h13 h => ?_)
            refine hp_cr hR (hp_runV (rest := []) (As := [.ref a1, .int x6, .int x3]) hX hR (c_Tellings_between h13) cs_X6_51 rfl rfl rfl hd_Tellings_between ⟨Nat.le_of_ble_eq_true rfl, Nat.le_of_ble_eq_true rfl⟩ (ci := 8) rfl (hp_own_is h13) rfl hl.1 rfl (Nat.le_of_ble_eq_true rfl) dX6_goOn_66 ⟨Nat.le_of_ble_eq_true rfl, Nat.le_of_ble_eq_true rfl⟩) (fun H locs hR => ?_)
            refine lv_iload hx hb dX6_goOn_69 (lv_at hl 5 rfl) ?_
            refine hp_bn h (fun v16 h15 h => ?_)
            refine hp_ci hR (hp_runV (rest := []) (As := [.int x4]) hX hR (c_BoxList_covers h15) cs_X6_57 rfl rfl rfl hd_BoxList_covers ⟨Nat.le_of_ble_eq_true rfl, Nat.le_of_ble_eq_true rfl⟩ (ci := 1) rfl (hp_own_is h15) rfl hl.1 rfl (Nat.le_of_ble_eq_true rfl) dX6_goOn_71 ⟨Nat.le_of_ble_eq_true rfl, Nat.le_of_ble_eq_true rfl⟩) (fun H locs hR => ?_)
            refine lv_if_eq (tgt := 111) hx hb dX6_goOn_74 (by decide) (fun c17 => ?_) (fun c17 => ?_)
            · have h := hp_ip c17 h
              refine lv_iinc (v := (x6 + 1)) (lv' := [(6, .int (x6 + 1)), (7, .int 1), (0, .ref a0), (1, .ref a1), (2, .ref a2), (3, .int x3), (4, .int x4), (5, .int x5)]) hx hb dX6_goOn_111 hl (k := 7) rfl rfl (by decide) rfl (fun ls hl => ?_)
              refine lv_goto (tgt := 9) hx hb dX6_goOn_114 (by decide) ?_
              exact ih _ _ _ _ _ hR h (lv_sub hl [2, 3, 4, 5, 6, 7, 0] rfl)
            · have h := hp_in c17 h
              refine lv_aload_n hx hb dX6_goOn_77 rfl (lv_at hl 1 rfl) ?_
              refine lv_dup hx hb dX6_goOn_78 rfl ?_
              refine hp_getI hX hR (ci := 5) 1 rfl wf6 (by decide) wq1_160 dX6_goOn_79 h (fun v18 h => ?_)
              refine lv_iconst (v := 1) hx hb dX6_goOn_82 (by decide) ?_
              refine lv_iload hx hb dX6_goOn_83 (lv_at hl 7 rfl) ?_
              refine lv_ishl hx hb dX6_goOn_85 ?_
              refine lv_ior hx hb dX6_goOn_86 ?_
              refine hp_putI hX hR (ci := 5) 1 rfl wf6 tyX6_ok nmX6 (by decide) wq1_160 rfl dX6_goOn_87 rfl h (fun σ H locs h hR => ?_)
              refine lv_aload_n hx hb dX6_goOn_90 rfl (lv_at hl 1 rfl) ?_
              refine lv_dup hx hb dX6_goOn_91 rfl ?_
              refine hp_getI hX hR (ci := 5) 4 rfl wf6 (by decide) wq1_168 dX6_goOn_92 h (fun v19 h => ?_)
              refine lv_iconst (v := 1) hx hb dX6_goOn_95 (by decide) ?_
              refine lv_iadd hx hb dX6_goOn_96 ?_
              refine hp_putI hX hR (ci := 5) 4 rfl wf6 tyX6_ok nmX6 (by decide) wq1_168 rfl dX6_goOn_97 rfl h (fun σ H locs h hR => ?_)
              refine lv_aload_n hx hb dX6_goOn_100 rfl (lv_at hl 1 rfl) ?_
              refine hp_getR hX hR (ci := 5) 0 rfl wf6 (by decide) wq1_159 dX6_goOn_101 h (fun q20 h => ?_)
              refine lv_aload_n hx hb dX6_goOn_104 rfl (lv_at hl 1 rfl) ?_
              refine hp_getI hX hR (ci := 5) 4 rfl wf6 (by decide) wq1_168 dX6_goOn_105 h (fun v21 h => ?_)
              refine lv_iload hx hb dX6_goOn_108 (lv_at hl 7 rfl) ?_
              refine hp_iast hX hR dX6_goOn_110 h (fun σ H locs h hR => ?_)
              refine lv_iinc (v := (x6 + 1)) (lv' := [(6, .int (x6 + 1)), (7, .int 1), (0, .ref a0), (1, .ref a1), (2, .ref a2), (3, .int x3), (4, .int x4), (5, .int x5)]) hx hb dX6_goOn_111 hl (k := 7) rfl rfl (by decide) rfl (fun ls hl => ?_)
              refine lv_goto (tgt := 9) hx hb dX6_goOn_114 (by decide) ?_
              exact ih _ _ _ _ _ hR h (lv_sub hl [2, 3, 4, 5, 6, 7, 0] rfl)
set_option maxHeartbeats 4000000 in
set_option maxRecDepth 100000 in
theorem c_Journey_goOn {l : Launch} {G : hp_G} {b : Nat} {σ : hp_H} {a0 : Nat} {a1 : Nat} {a2 : Nat} {x3 : Int32} {x4 : Int32} {r : Int32} {σ' : hp_H} (h : f_Journey_goOn a0 a1 a2 x3 x4 σ = some (r, σ')) : hp_Met l yX6_goOn cX6_goOn 8 (some .boolean) rm_Journey_goOn G b [.ref a0, .ref a1, .ref a2, .int x3, .int x4] σ (some (.int r)) σ' 0 0 := by
  refine hp_met (by decide +kernel) (Nat.le_of_ble_eq_true rfl) (fun p e s m below meth c ls hX hlocks hr hnm hl hR => ?_)
  obtain ⟨hx, hb, hml, hown, hts⟩ := id hX.1
  have hl : lv_has ls 8 [(0, .ref a0), (1, .ref a1), (2, .ref a2), (3, .int x3), (4, .int x4)] := hl
  unfold f_Journey_goOn at h
  have h := hp_own_to h
  refine lv_aload_n hx hb dX6_goOn_0 rfl (lv_at hl 0 rfl) ?_
  refine hp_getI hX hR (ci := 5) 4 rfl wf6 (by decide) wq1_168 dX6_goOn_1 h (fun v1 h => ?_)
  refine lv_istore (lv' := [(5, .int v1), (0, .ref a0), (1, .ref a1), (2, .ref a2), (3, .int x3), (4, .int x4)]) hx hb dX6_goOn_4 hl (by decide) rfl (fun ls hl => ?_)
  refine lv_iconst (v := 0) hx hb dX6_goOn_6 (by decide) ?_
  refine lv_istore (lv' := [(6, .int 0), (5, .int v1), (0, .ref a0), (1, .ref a1), (2, .ref a2), (3, .int x3), (4, .int x4)]) hx hb dX6_goOn_7 hl (by decide) rfl (fun ls hl => ?_)
  refine w_Journey_goOn_l1 hX hlocks hr ?_ hp_F _ _ _ _ _ hR h (lv_sub hl [2, 3, 4, 5, 6, 1, 0] rfl)
  intro z22 σ H locs ls hR hl h
  refine lv_aload_n hx hb dX6_goOn_117 rfl (lv_at hl 0 rfl) ?_
  refine hp_getI hX hR (ci := 5) 4 rfl wf6 (by decide) wq1_168 dX6_goOn_118 h (fun v23 h => ?_)
  refine lv_iload hx hb dX6_goOn_121 (lv_at hl 1 rfl) ?_
  refine lv_icmp_le (tgt := 130) hx hb dX6_goOn_123 (by decide) (fun c24 => ?_) (fun c24 => ?_)
  · have h := hp_ip c24 h
    refine lv_iconst (v := 0) hx hb dX6_goOn_130 (by decide) ?_
    exact hp_zretL (by decide) hX hlocks hr hR h dX6_goOn_131
  · have h := hp_in c24 h
    refine lv_iconst (v := 1) hx hb dX6_goOn_126 (by decide) ?_
    refine lv_goto (tgt := 131) hx hb dX6_goOn_127 (by decide) ?_
    exact hp_zretL (by decide) hX hlocks hr hR h dX6_goOn_131
