/-! Mo.client(I)I -/
abbrev rm_Mo_client : Room := { frames := 2, cells := 0, slots := 0, locals := 43 }
theorem hd_Mo_client : hp_d yX11_client 1 := by decide +kernel
def f_Mo_client_l1 (a0 : Nat) (x1 : Int32) (x2 : Int32) (K : Int32 → hp_H → Option (Int32 × hp_H)) : Nat → Int32 → hp_H → Option (Int32 × hp_H)
  | 0, _, _ => none
  | n + 1, x3, σ => if (25 : Int32) ≤ x3 then (K x3 σ) else ((f_Mo_sets a0 x2 x3 0 σ).bind fun σ => f_Mo_client_l1 a0 x1 x2 K n (x3 + 1) σ)
def f_Mo_client (a0 : Nat) (x1 : Int32) (σ : hp_H) : Option (Int32 × hp_H) := hp_own σ a0 10 ((f_Mo_isBroker a0 x1 σ).bind fun v2 => if v2 = 0 then (some ((-1000000001), σ)) else ((hp_gR σ a0 10 0).bind fun q4 => (hp_aI σ q4 0 1).bind fun v5 => if v5 = 6 then (some ((-1000000004), σ)) else ((f_Mo_deed a0 σ).bind fun σ => (hp_gR σ a0 10 0).bind fun q8 => (hp_aI σ q8 0 1).bind fun v9 => f_Mo_client_l1 a0 x1 v9 (fun z12 σ => (f_Mo_sets a0 v9 0 x1 σ).bind fun σ => (f_Mo_sets a0 v9 1 1 σ).bind fun σ => (hp_gR σ a0 10 0).bind fun q15 => (hp_aI σ q15 0 1).bind fun v16 => (hp_sI σ q15 0 1 (v16 + 1)).bind fun σ => some (v9, σ)) hp_F 0 σ)))
set_option maxHeartbeats 4000000 in
set_option maxRecDepth 100000 in
theorem w_Mo_client_l1 {p : Program} {l : Launch} {e : Env} {s : State} {m : MethodId} {args : Array Value} {below : List Frame} {meth : Method} {c : Code} {G : hp_G} {b : Nat} {a0 : Nat} {x1 : Int32} {x2 : Int32} {r : Int32} {σ' : hp_H} {K : Int32 → hp_H → Option (Int32 × hp_H)} (hX : hp_X G p s m c args cX11_client 4 RX11) (hlocks : meth.locks = false) (hr : meth.sig.returnType = (some .int))
    (hK : ∀ (x3 : Int32) (σ : hp_H) (H : Heap) (locs : List Loc) (ls : Array Slot), hp_R G b s.heap σ H locs → lv_has ls 4 [(0, .ref a0), (1, .int x1), (2, .int x2)] → K x3 σ = some (r, σ') → W p l e rm_Mo_client s m args below meth c H locs 0 0 (MQ below (hp_Qc G b (some (.int r)) σ') args s 0 0 (fun q => b ≤ q)) (F0 m 57 ls [])) :
    ∀ (n : Nat) (x3 : Int32) (σ : hp_H) (H : Heap) (locs : List Loc) (ls : Array Slot), hp_R G b s.heap σ H locs → f_Mo_client_l1 a0 x1 x2 K n x3 σ = some (r, σ') → lv_has ls 4 [(0, .ref a0), (1, .int x1), (2, .int x2), (3, .int x3)] → W p l e rm_Mo_client s m args below meth c H locs 0 0 (MQ below (hp_Qc G b (some (.int r)) σ') args s 0 0 (fun q => b ≤ q)) (F0 m 38 ls []) := by
  obtain ⟨hx, hb, hml, hown, hts⟩ := id hX.1
  intro n
  induction n with
  | zero =>
    intro x3 σ H locs ls hR h hl
    rw [f_Mo_client_l1] at h
    cases h
  | succ n ih =>
    intro x3 σ H locs ls hR h hl
    rw [f_Mo_client_l1] at h
    refine lv_iload_n hx hb dX11_client_38 rfl (lv_at hl 3 rfl) ?_
    refine lv_bipush (v := 25) hx hb dX11_client_39 (by decide) ?_
    refine lv_icmp_ge (tgt := 57) hx hb dX11_client_41 (by decide) (fun c10 => ?_) (fun c10 => ?_)
    · have h := hp_ip c10 h
      exact hK _ _ _ _ _ hR (lv_sub hl [0, 1, 2] rfl) h
    · have h := hp_in c10 h
      refine lv_aload_n hx hb dX11_client_44 rfl (lv_at hl 0 rfl) ?_
      refine lv_iload_n hx hb dX11_client_45 rfl (lv_at hl 2 rfl) ?_
      refine lv_iload_n hx hb dX11_client_46 rfl (lv_at hl 3 rfl) ?_
      refine lv_iconst (v := 0) hx hb dX11_client_47 (by decide) ?_
      refine hp_bn h (fun σ h11 h => ?_)
      refine hp_cv hR (hp_runV (rest := []) (As := [.int x2, .int x3, .int 0]) hX hR (c_Mo_sets h11) cs_X11_143 rfl rfl rfl hd_Mo_sets ⟨Nat.le_of_ble_eq_true rfl, Nat.le_of_ble_eq_true rfl⟩ (ci := 10) rfl (hp_own_is h11) rfl hl.1 rfl (Nat.le_of_ble_eq_true rfl) dX11_client_48 ⟨Nat.le_of_ble_eq_true rfl, Nat.le_of_ble_eq_true rfl⟩) (fun H locs hR => ?_)
      refine lv_iinc (v := (x3 + 1)) (lv' := [(3, .int (x3 + 1)), (0, .ref a0), (1, .int x1), (2, .int x2)]) hx hb dX11_client_51 hl (k := 3) rfl rfl (by decide) rfl (fun ls hl => ?_)
      refine lv_goto (tgt := 38) hx hb dX11_client_54 (by decide) ?_
      exact ih _ _ _ _ _ hR h (lv_sub hl [1, 2, 3, 0] rfl)
set_option maxHeartbeats 4000000 in
set_option maxRecDepth 100000 in
theorem c_Mo_client {l : Launch} {G : hp_G} {b : Nat} {σ : hp_H} {a0 : Nat} {x1 : Int32} {r : Int32} {σ' : hp_H} (h : f_Mo_client a0 x1 σ = some (r, σ')) : hp_Met l yX11_client cX11_client 4 (some .int) rm_Mo_client G b [.ref a0, .int x1] σ (some (.int r)) σ' 0 0 := by
  refine hp_met (by decide +kernel) (Nat.le_of_ble_eq_true rfl) (fun p e s m below meth c ls hX hlocks hr hnm hl hR => ?_)
  obtain ⟨hx, hb, hml, hown, hts⟩ := id hX.1
  have hl : lv_has ls 4 [(0, .ref a0), (1, .int x1)] := hl
  unfold f_Mo_client at h
  have h := hp_own_to h
  refine lv_aload_n hx hb dX11_client_0 rfl (lv_at hl 0 rfl) ?_
  refine lv_iload_n hx hb dX11_client_1 rfl (lv_at hl 1 rfl) ?_
  refine hp_bn h (fun v2 h1 h => ?_)
  refine hp_ci hR (hp_runV (rest := []) (As := [.int x1]) hX hR (c_Mo_isBroker h1) cs_X11_45 rfl rfl rfl hd_Mo_isBroker ⟨Nat.le_of_ble_eq_true rfl, Nat.le_of_ble_eq_true rfl⟩ (ci := 10) rfl (hp_own_is h1) rfl hl.1 rfl (Nat.le_of_ble_eq_true rfl) dX11_client_2 ⟨Nat.le_of_ble_eq_true rfl, Nat.le_of_ble_eq_true rfl⟩) (fun H locs hR => ?_)
  refine lv_if_ne (tgt := 11) hx hb dX11_client_5 (by decide) (fun c3 => ?_) (fun c3 => ?_)
  · have h := hp_in c3 h
    refine lv_aload_n hx hb dX11_client_11 rfl (lv_at hl 0 rfl) ?_
    refine hp_getR hX hR (ci := 10) 0 rfl wf11 (by decide) wq3_167 dX11_client_12 h (fun q4 h => ?_)
    refine lv_iconst (v := 1) hx hb dX11_client_15 (by decide) ?_
    refine hp_iald hX hR dX11_client_16 h (fun v5 h => ?_)
    refine lv_bipush (v := 6) hx hb dX11_client_17 (by decide) ?_
    refine lv_icmp_ne (tgt := 25) hx hb dX11_client_19 (by decide) (fun c6 => ?_) (fun c6 => ?_)
    · have h := hp_in c6 h
      refine lv_aload_n hx hb dX11_client_25 rfl (lv_at hl 0 rfl) ?_
      refine hp_bn h (fun σ h7 h => ?_)
      refine hp_cv hR (hp_runV (rest := []) (As := []) hX hR (c_Mo_deed h7) cs_X11_198 rfl rfl rfl hd_Mo_deed ⟨Nat.le_of_ble_eq_true rfl, Nat.le_of_ble_eq_true rfl⟩ (ci := 10) rfl (hp_own_is h7) rfl hl.1 rfl (Nat.le_of_ble_eq_true rfl) dX11_client_26 ⟨Nat.le_of_ble_eq_true rfl, Nat.le_of_ble_eq_true rfl⟩) (fun H locs hR => ?_)
      refine lv_aload_n hx hb dX11_client_29 rfl (lv_at hl 0 rfl) ?_
      refine hp_getR hX hR (ci := 10) 0 rfl wf11 (by decide) wq3_167 dX11_client_30 h (fun q8 h => ?_)
      refine lv_iconst (v := 1) hx hb dX11_client_33 (by decide) ?_
      refine hp_iald hX hR dX11_client_34 h (fun v9 h => ?_)
      refine lv_istore_n (lv' := [(2, .int v9), (0, .ref a0), (1, .int x1)]) hx hb dX11_client_35 rfl hl (by decide) rfl (fun ls hl => ?_)
      refine lv_iconst (v := 0) hx hb dX11_client_36 (by decide) ?_
      refine lv_istore_n (lv' := [(3, .int 0), (2, .int v9), (0, .ref a0), (1, .int x1)]) hx hb dX11_client_37 rfl hl (by decide) rfl (fun ls hl => ?_)
      refine w_Mo_client_l1 hX hlocks hr ?_ hp_F _ _ _ _ _ hR h (lv_sub hl [2, 3, 1, 0] rfl)
      intro z12 σ H locs ls hR hl h
      refine lv_aload_n hx hb dX11_client_57 rfl (lv_at hl 0 rfl) ?_
      refine lv_iload_n hx hb dX11_client_58 rfl (lv_at hl 2 rfl) ?_
      refine lv_iconst (v := 0) hx hb dX11_client_59 (by decide) ?_
      refine lv_iload_n hx hb dX11_client_60 rfl (lv_at hl 1 rfl) ?_
      refine hp_bn h (fun σ h13 h => ?_)
      refine hp_cv hR (hp_runV (rest := []) (As := [.int v9, .int 0, .int x1]) hX hR (c_Mo_sets h13) cs_X11_143 rfl rfl rfl hd_Mo_sets ⟨Nat.le_of_ble_eq_true rfl, Nat.le_of_ble_eq_true rfl⟩ (ci := 10) rfl (hp_own_is h13) rfl hl.1 rfl (Nat.le_of_ble_eq_true rfl) dX11_client_61 ⟨Nat.le_of_ble_eq_true rfl, Nat.le_of_ble_eq_true rfl⟩) (fun H locs hR => ?_)
      refine lv_aload_n hx hb dX11_client_64 rfl (lv_at hl 0 rfl) ?_
      refine lv_iload_n hx hb dX11_client_65 rfl (lv_at hl 2 rfl) ?_
      refine lv_iconst (v := 1) hx hb dX11_client_66 (by decide) ?_
      refine lv_iconst (v := 1) hx hb dX11_client_67 (by decide) ?_
      refine hp_bn h (fun σ h14 h => ?_)
      refine hp_cv hR (hp_runV (rest := []) (As := [.int v9, .int 1, .int 1]) hX hR (c_Mo_sets h14) cs_X11_143 rfl rfl rfl hd_Mo_sets ⟨Nat.le_of_ble_eq_true rfl, Nat.le_of_ble_eq_true rfl⟩ (ci := 10) rfl (hp_own_is h14) rfl hl.1 rfl (Nat.le_of_ble_eq_true rfl) dX11_client_68 ⟨Nat.le_of_ble_eq_true rfl, Nat.le_of_ble_eq_true rfl⟩) (fun H locs hR => ?_)
      refine lv_aload_n hx hb dX11_client_71 rfl (lv_at hl 0 rfl) ?_
      refine hp_getR hX hR (ci := 10) 0 rfl wf11 (by decide) wq3_167 dX11_client_72 h (fun q15 h => ?_)
      refine lv_iconst (v := 1) hx hb dX11_client_75 (by decide) ?_
      refine lv_dup2_11 hx hb dX11_client_76 rfl rfl ?_
      refine hp_iald hX hR dX11_client_77 h (fun v16 h => ?_)
      refine lv_iconst (v := 1) hx hb dX11_client_78 (by decide) ?_
      refine lv_iadd hx hb dX11_client_79 ?_
      refine hp_iast hX hR dX11_client_80 h (fun σ H locs h hR => ?_)
      refine lv_iload_n hx hb dX11_client_81 rfl (lv_at hl 2 rfl) ?_
      exact hp_iret hX hlocks hr hR h dX11_client_82
    · have h := hp_ip c6 h
      refine lv_ldc (v := (-1000000004)) hx hb hown (hts _ wq4_152) dX11_client_22 ?_
      exact hp_iret hX hlocks hr hR h dX11_client_24
  · have h := hp_ip c3 h
    refine lv_ldc (v := (-1000000001)) hx hb hown (hts _ wq4_89) dX11_client_8 ?_
    exact hp_iret hX hlocks hr hR h dX11_client_10
/-! Mo.isKind(II)Z -/
abbrev rm_Mo_isKind : Room := { frames := 1, cells := 0, slots := 0, locals := 22 }
theorem hd_Mo_isKind : hp_d yX11_isKind 2 := by decide +kernel
def f_Mo_isKind (x0 : Int32) (x1 : Int32) : Option Int32 := (f_Mo_in x0 0 3).bind fun v2 => if v2 = 0 then (some 0) else ((f_Mo_in x1 0 9).bind fun v5 => if v5 = 0 then (some 0) else (some 1))
set_option maxHeartbeats 4000000 in
set_option maxRecDepth 100000 in
theorem c_Mo_isKind {l : Launch} {G : hp_G} {b : Nat} {σ : hp_H} {x0 : Int32} {x1 : Int32} {r : Int32} (h : f_Mo_isKind x0 x1 = some r) : hp_Met l yX11_isKind cX11_isKind 2 (some .boolean) rm_Mo_isKind G b [.int x0, .int x1] σ (some (.int r)) σ 0 0 := by
  refine hp_met (by decide +kernel) (Nat.le_of_ble_eq_true rfl) (fun p e s m below meth c ls hX hlocks hr hnm hl hR => ?_)
  obtain ⟨hx, hb, hml, hown, hts⟩ := id hX.1
  have hl : lv_has ls 2 [(0, .int x0), (1, .int x1)] := hl
  unfold f_Mo_isKind at h
  refine lv_iload_n hx hb dX11_isKind_0 rfl (lv_at hl 0 rfl) ?_
  refine lv_iconst (v := 0) hx hb dX11_isKind_1 (by decide) ?_
  refine lv_iconst (v := 3) hx hb dX11_isKind_2 (by decide) ?_
  refine hp_bn h (fun v2 h1 h => ?_)
  refine hp_ci hR (hp_runS (rest := []) (As := [.int x0, .int 0, .int 3]) hX hR (c_Mo_in h1) cs_X11_41 rfl rfl hd_Mo_in ⟨Nat.le_of_ble_eq_true rfl, Nat.le_of_ble_eq_true rfl⟩ rfl hl.1 rfl (Nat.le_of_ble_eq_true rfl) dX11_isKind_3 ⟨Nat.le_of_ble_eq_true rfl, Nat.le_of_ble_eq_true rfl⟩) (fun H locs hR => ?_)
  refine lv_if_eq (tgt := 23) hx hb dX11_isKind_6 (by decide) (fun c3 => ?_) (fun c3 => ?_)
  · have h := hp_ip c3 h
    refine lv_iconst (v := 0) hx hb dX11_isKind_23 (by decide) ?_
    exact hp_zretLP (by decide) hX hlocks hr hR h dX11_isKind_24
  · have h := hp_in c3 h
    refine lv_iload_n hx hb dX11_isKind_9 rfl (lv_at hl 1 rfl) ?_
    refine lv_iconst (v := 0) hx hb dX11_isKind_10 (by decide) ?_
    refine lv_bipush (v := 9) hx hb dX11_isKind_11 (by decide) ?_
    refine hp_bn h (fun v5 h4 h => ?_)
    refine hp_ci hR (hp_runS (rest := []) (As := [.int x1, .int 0, .int 9]) hX hR (c_Mo_in h4) cs_X11_41 rfl rfl hd_Mo_in ⟨Nat.le_of_ble_eq_true rfl, Nat.le_of_ble_eq_true rfl⟩ rfl hl.1 rfl (Nat.le_of_ble_eq_true rfl) dX11_isKind_13 ⟨Nat.le_of_ble_eq_true rfl, Nat.le_of_ble_eq_true rfl⟩) (fun H locs hR => ?_)
    refine lv_if_eq (tgt := 23) hx hb dX11_isKind_16 (by decide) (fun c6 => ?_) (fun c6 => ?_)
    · have h := hp_ip c6 h
      refine lv_iconst (v := 0) hx hb dX11_isKind_23 (by decide) ?_
      exact hp_zretLP (by decide) hX hlocks hr hR h dX11_isKind_24
    · have h := hp_in c6 h
      refine lv_iconst (v := 1) hx hb dX11_isKind_19 (by decide) ?_
      refine lv_goto (tgt := 24) hx hb dX11_isKind_20 (by decide) ?_
      exact hp_zretLP (by decide) hX hlocks hr hR h dX11_isKind_24
/-! Mo.bounds(IIII)V -/
abbrev rm_Mo_bounds : Room := { frames := 0, cells := 0, slots := 0, locals := 0 }
theorem hd_Mo_bounds : hp_d yX11_bounds 4 := by decide +kernel
def f_Mo_bounds (a0 : Nat) (x1 : Int32) (x2 : Int32) (x3 : Int32) (x4 : Int32) (σ : hp_H) : Option hp_H := hp_own σ a0 10 ((hp_gR σ a0 10 0).bind fun q1 => if (2 : Int32) ≤ x3 then ((hp_sI σ q1 0 ((((170 : Int32) + ((7 : Int32) * x1)) + 1) + ((2 : Int32) * x2)) x4).bind fun σ => (hp_gR σ a0 10 0).bind fun q3 => if x3 = 0 then ((hp_sI σ q3 0 (((((170 : Int32) + ((7 : Int32) * x1)) + 1) + ((2 : Int32) * x2)) + 1) 9).bind fun σ => some σ) else (if x3 = 2 then ((hp_sI σ q3 0 (((((170 : Int32) + ((7 : Int32) * x1)) + 1) + ((2 : Int32) * x2)) + 1) 9).bind fun σ => some σ) else ((hp_sI σ q3 0 (((((170 : Int32) + ((7 : Int32) * x1)) + 1) + ((2 : Int32) * x2)) + 1) x4).bind fun σ => some σ))) else ((hp_sI σ q1 0 ((((170 : Int32) + ((7 : Int32) * x1)) + 1) + ((2 : Int32) * x2)) 0).bind fun σ => (hp_gR σ a0 10 0).bind fun q6 => if x3 = 0 then ((hp_sI σ q6 0 (((((170 : Int32) + ((7 : Int32) * x1)) + 1) + ((2 : Int32) * x2)) + 1) 9).bind fun σ => some σ) else (if x3 = 2 then ((hp_sI σ q6 0 (((((170 : Int32) + ((7 : Int32) * x1)) + 1) + ((2 : Int32) * x2)) + 1) 9).bind fun σ => some σ) else ((hp_sI σ q6 0 (((((170 : Int32) + ((7 : Int32) * x1)) + 1) + ((2 : Int32) * x2)) + 1) x4).bind fun σ => some σ))))
set_option maxHeartbeats 4000000 in
set_option maxRecDepth 100000 in
theorem c_Mo_bounds {l : Launch} {G : hp_G} {b : Nat} {σ : hp_H} {a0 : Nat} {x1 : Int32} {x2 : Int32} {x3 : Int32} {x4 : Int32} {σ' : hp_H} (h : f_Mo_bounds a0 x1 x2 x3 x4 σ = some σ') : hp_Met l yX11_bounds cX11_bounds 5 none rm_Mo_bounds G b [.ref a0, .int x1, .int x2, .int x3, .int x4] σ none σ' 0 0 := by
  refine hp_met (by decide +kernel) (Nat.le_of_ble_eq_true rfl) (fun p e s m below meth c ls hX hlocks hr hnm hl hR => ?_)
  obtain ⟨hx, hb, hml, hown, hts⟩ := id hX.1
  have hl : lv_has ls 5 [(0, .ref a0), (1, .int x1), (2, .int x2), (3, .int x3), (4, .int x4)] := hl
  unfold f_Mo_bounds at h
  have h := hp_own_to h
  refine lv_aload_n hx hb dX11_bounds_0 rfl (lv_at hl 0 rfl) ?_
  refine hp_getR hX hR (ci := 10) 0 rfl wf11 (by decide) wq3_167 dX11_bounds_1 h (fun q1 h => ?_)
  refine lv_sipush (v := 170) hx hb dX11_bounds_4 (by decide) ?_
  refine lv_bipush (v := 7) hx hb dX11_bounds_7 (by decide) ?_
  refine lv_iload_n hx hb dX11_bounds_9 rfl (lv_at hl 1 rfl) ?_
  refine lv_imul hx hb dX11_bounds_10 ?_
  refine lv_iadd hx hb dX11_bounds_11 ?_
  refine lv_iconst (v := 1) hx hb dX11_bounds_12 (by decide) ?_
  refine lv_iadd hx hb dX11_bounds_13 ?_
  refine lv_iconst (v := 2) hx hb dX11_bounds_14 (by decide) ?_
  refine lv_iload_n hx hb dX11_bounds_15 rfl (lv_at hl 2 rfl) ?_
  refine lv_imul hx hb dX11_bounds_16 ?_
  refine lv_iadd hx hb dX11_bounds_17 ?_
  refine lv_iload_n hx hb dX11_bounds_18 rfl (lv_at hl 3 rfl) ?_
  refine lv_iconst (v := 2) hx hb dX11_bounds_19 (by decide) ?_
  refine lv_icmp_ge (tgt := 27) hx hb dX11_bounds_20 (by decide) (fun c2 => ?_) (fun c2 => ?_)
  · have h := hp_ip c2 h
    refine lv_iload hx hb dX11_bounds_27 (lv_at hl 4 rfl) ?_
    refine hp_iast hX hR dX11_bounds_29 h (fun σ H locs h hR => ?_)
    refine lv_aload_n hx hb dX11_bounds_30 rfl (lv_at hl 0 rfl) ?_
    refine hp_getR hX hR (ci := 10) 0 rfl wf11 (by decide) wq3_167 dX11_bounds_31 h (fun q3 h => ?_)
    refine lv_sipush (v := 170) hx hb dX11_bounds_34 (by decide) ?_
    refine lv_bipush (v := 7) hx hb dX11_bounds_37 (by decide) ?_
    refine lv_iload_n hx hb dX11_bounds_39 rfl (lv_at hl 1 rfl) ?_
    refine lv_imul hx hb dX11_bounds_40 ?_
    refine lv_iadd hx hb dX11_bounds_41 ?_
    refine lv_iconst (v := 1) hx hb dX11_bounds_42 (by decide) ?_
    refine lv_iadd hx hb dX11_bounds_43 ?_
    refine lv_iconst (v := 2) hx hb dX11_bounds_44 (by decide) ?_
    refine lv_iload_n hx hb dX11_bounds_45 rfl (lv_at hl 2 rfl) ?_
    refine lv_imul hx hb dX11_bounds_46 ?_
    refine lv_iadd hx hb dX11_bounds_47 ?_
    refine lv_iconst (v := 1) hx hb dX11_bounds_48 (by decide) ?_
    refine lv_iadd hx hb dX11_bounds_49 ?_
    refine lv_iload_n hx hb dX11_bounds_50 rfl (lv_at hl 3 rfl) ?_
    refine lv_if_eq (tgt := 59) hx hb dX11_bounds_51 (by decide) (fun c4 => ?_) (fun c4 => ?_)
    · have h := hp_ip c4 h
      refine lv_bipush (v := 9) hx hb dX11_bounds_59 (by decide) ?_
      refine lv_goto (tgt := 66) hx hb dX11_bounds_61 (by decide) ?_
      refine hp_iast hX hR dX11_bounds_66 h (fun σ H locs h hR => ?_)
      exact hp_vret hX hlocks hr hR h dX11_bounds_67
    · have h := hp_in c4 h
      refine lv_iload_n hx hb dX11_bounds_54 rfl (lv_at hl 3 rfl) ?_
      refine lv_iconst (v := 2) hx hb dX11_bounds_55 (by decide) ?_
      refine lv_icmp_ne (tgt := 64) hx hb dX11_bounds_56 (by decide) (fun c5 => ?_) (fun c5 => ?_)
      · have h := hp_in c5 h
        refine lv_iload hx hb dX11_bounds_64 (lv_at hl 4 rfl) ?_
        refine hp_iast hX hR dX11_bounds_66 h (fun σ H locs h hR => ?_)
        exact hp_vret hX hlocks hr hR h dX11_bounds_67
      · have h := hp_ip c5 h
        refine lv_bipush (v := 9) hx hb dX11_bounds_59 (by decide) ?_
        refine lv_goto (tgt := 66) hx hb dX11_bounds_61 (by decide) ?_
        refine hp_iast hX hR dX11_bounds_66 h (fun σ H locs h hR => ?_)
        exact hp_vret hX hlocks hr hR h dX11_bounds_67
  · have h := hp_in c2 h
    refine lv_iconst (v := 0) hx hb dX11_bounds_23 (by decide) ?_
    refine lv_goto (tgt := 29) hx hb dX11_bounds_24 (by decide) ?_
    refine hp_iast hX hR dX11_bounds_29 h (fun σ H locs h hR => ?_)
    refine lv_aload_n hx hb dX11_bounds_30 rfl (lv_at hl 0 rfl) ?_
    refine hp_getR hX hR (ci := 10) 0 rfl wf11 (by decide) wq3_167 dX11_bounds_31 h (fun q6 h => ?_)
    refine lv_sipush (v := 170) hx hb dX11_bounds_34 (by decide) ?_
    refine lv_bipush (v := 7) hx hb dX11_bounds_37 (by decide) ?_
    refine lv_iload_n hx hb dX11_bounds_39 rfl (lv_at hl 1 rfl) ?_
    refine lv_imul hx hb dX11_bounds_40 ?_
    refine lv_iadd hx hb dX11_bounds_41 ?_
    refine lv_iconst (v := 1) hx hb dX11_bounds_42 (by decide) ?_
    refine lv_iadd hx hb dX11_bounds_43 ?_
    refine lv_iconst (v := 2) hx hb dX11_bounds_44 (by decide) ?_
    refine lv_iload_n hx hb dX11_bounds_45 rfl (lv_at hl 2 rfl) ?_
    refine lv_imul hx hb dX11_bounds_46 ?_
    refine lv_iadd hx hb dX11_bounds_47 ?_
    refine lv_iconst (v := 1) hx hb dX11_bounds_48 (by decide) ?_
    refine lv_iadd hx hb dX11_bounds_49 ?_
    refine lv_iload_n hx hb dX11_bounds_50 rfl (lv_at hl 3 rfl) ?_
    refine lv_if_eq (tgt := 59) hx hb dX11_bounds_51 (by decide) (fun c7 => ?_) (fun c7 => ?_)
    · have h := hp_ip c7 h
      refine lv_bipush (v := 9) hx hb dX11_bounds_59 (by decide) ?_
      refine lv_goto (tgt := 66) hx hb dX11_bounds_61 (by decide) ?_
      refine hp_iast hX hR dX11_bounds_66 h (fun σ H locs h hR => ?_)
      exact hp_vret hX hlocks hr hR h dX11_bounds_67
    · have h := hp_in c7 h
      refine lv_iload_n hx hb dX11_bounds_54 rfl (lv_at hl 3 rfl) ?_
      refine lv_iconst (v := 2) hx hb dX11_bounds_55 (by decide) ?_
      refine lv_icmp_ne (tgt := 64) hx hb dX11_bounds_56 (by decide) (fun c8 => ?_) (fun c8 => ?_)
      · have h := hp_in c8 h
        refine lv_iload hx hb dX11_bounds_64 (lv_at hl 4 rfl) ?_
        refine hp_iast hX hR dX11_bounds_66 h (fun σ H locs h hR => ?_)
        exact hp_vret hX hlocks hr hR h dX11_bounds_67
      · have h := hp_ip c8 h
        refine lv_bipush (v := 9) hx hb dX11_bounds_59 (by decide) ?_
        refine lv_goto (tgt := 66) hx hb dX11_bounds_61 (by decide) ?_
        refine hp_iast hX hR dX11_bounds_66 h (fun σ H locs h hR => ?_)
        exact hp_vret hX hlocks hr hR h dX11_bounds_67
theorem cs_X11_201 : hp_WS RX11 201 yX11_isKind cX11_isKind 2 (some .boolean) := ⟨wq4_169, wq4_170, wq1_11, wq4_171⟩
theorem cs_X11_204 : hp_WV RX11 204 RX11 yX11_bounds cX11_bounds 5 none := ⟨wq4_172, wq4_174, wp3_7, wq1_11, wq4_175⟩
/-! Mo.wish(IIIIIII)I -/
abbrev rm_Mo_wish_ : Room := { frames := 2, cells := 0, slots := 0, locals := 43 }
theorem hd_Mo_wish_ : hp_d yX11_wish_ 7 := by decide +kernel
def f_Mo_wish_ (a0 : Nat) (x1 : Int32) (x2 : Int32) (x3 : Int32) (x4 : Int32) (x5 : Int32) (x6 : Int32) (x7 : Int32) (σ : hp_H) : Option (Int32 × hp_H) := hp_own σ a0 10 ((f_Mo_isClient a0 x1 σ).bind fun v2 => if v2 = 0 then (some ((-1000000001), σ)) else ((f_Mo_isKind x2 x3).bind fun v5 => if v5 = 0 then (some ((-1000000002), σ)) else ((f_Mo_isKind x4 x5).bind fun v8 => if v8 = 0 then (some ((-1000000002), σ)) else ((f_Mo_isKind x6 x7).bind fun v11 => if v11 = 0 then (some ((-1000000002), σ)) else ((hp_gR σ a0 10 0).bind fun q13 => (hp_aI σ q13 0 2).bind fun v14 => if v14 = 12 then (some ((-1000000004), σ)) else ((f_Mo_deed a0 σ).bind fun σ => (hp_gR σ a0 10 0).bind fun q17 => (hp_aI σ q17 0 2).bind fun v18 => (hp_gR σ a0 10 0).bind fun q19 => (hp_sI σ q19 0 ((170 : Int32) + ((7 : Int32) * v18)) x1).bind fun σ => (f_Mo_bounds a0 v18 0 x2 x3 σ).bind fun σ => (f_Mo_bounds a0 v18 1 x4 x5 σ).bind fun σ => (f_Mo_bounds a0 v18 2 x6 x7 σ).bind fun σ => (hp_gR σ a0 10 0).bind fun q23 => (hp_aI σ q23 0 2).bind fun v24 => (hp_sI σ q23 0 2 (v24 + 1)).bind fun σ => some (v18, σ)))))))
set_option maxHeartbeats 4000000 in
set_option maxRecDepth 100000 in
theorem c_Mo_wish_ {l : Launch} {G : hp_G} {b : Nat} {σ : hp_H} {a0 : Nat} {x1 : Int32} {x2 : Int32} {x3 : Int32} {x4 : Int32} {x5 : Int32} {x6 : Int32} {x7 : Int32} {r : Int32} {σ' : hp_H} (h : f_Mo_wish_ a0 x1 x2 x3 x4 x5 x6 x7 σ = some (r, σ')) : hp_Met l yX11_wish_ cX11_wish_ 9 (some .int) rm_Mo_wish_ G b [.ref a0, .int x1, .int x2, .int x3, .int x4, .int x5, .int x6, .int x7] σ (some (.int r)) σ' 0 0 := by
  refine hp_met (by decide +kernel) (Nat.le_of_ble_eq_true rfl) (fun p e s m below meth c ls hX hlocks hr hnm hl hR => ?_)
  obtain ⟨hx, hb, hml, hown, hts⟩ := id hX.1
  have hl : lv_has ls 9 [(0, .ref a0), (1, .int x1), (2, .int x2), (3, .int x3), (4, .int x4), (5, .int x5), (6, .int x6), (7, .int x7)] := hl
  unfold f_Mo_wish_ at h
  have h := hp_own_to h
  refine lv_aload_n hx hb dX11_wish__0 rfl (lv_at hl 0 rfl) ?_
  refine lv_iload_n hx hb dX11_wish__1 rfl (lv_at hl 1 rfl) ?_
  refine hp_bn h (fun v2 h1 h => ?_)
  refine hp_ci hR (hp_runV (rest := []) (As := [.int x1]) hX hR (c_Mo_isClient h1) cs_X11_163 rfl rfl rfl hd_Mo_isClient ⟨Nat.le_of_ble_eq_true rfl, Nat.le_of_ble_eq_true rfl⟩ (ci := 10) rfl (hp_own_is h1) rfl hl.1 rfl (Nat.le_of_ble_eq_true rfl) dX11_wish__2 ⟨Nat.le_of_ble_eq_true rfl, Nat.le_of_ble_eq_true rfl⟩) (fun H locs hR => ?_)
  refine lv_if_ne (tgt := 11) hx hb dX11_wish__5 (by decide) (fun c3 => ?_) (fun c3 => ?_)
  · have h := hp_in c3 h
    refine lv_iload_n hx hb dX11_wish__11 rfl (lv_at hl 2 rfl) ?_
    refine lv_iload_n hx hb dX11_wish__12 rfl (lv_at hl 3 rfl) ?_
    refine hp_bn h (fun v5 h4 h => ?_)
    refine hp_ci hR (hp_runS (rest := []) (As := [.int x2, .int x3]) hX hR (c_Mo_isKind h4) cs_X11_201 rfl rfl hd_Mo_isKind ⟨Nat.le_of_ble_eq_true rfl, Nat.le_of_ble_eq_true rfl⟩ rfl hl.1 rfl (Nat.le_of_ble_eq_true rfl) dX11_wish__13 ⟨Nat.le_of_ble_eq_true rfl, Nat.le_of_ble_eq_true rfl⟩) (fun H locs hR => ?_)
    refine lv_if_eq (tgt := 39) hx hb dX11_wish__16 (by decide) (fun c6 => ?_) (fun c6 => ?_)
    · have h := hp_ip c6 h
      refine lv_ldc (v := (-1000000002)) hx hb hown (hts _ wq4_84) dX11_wish__39 ?_
      exact hp_iret hX hlocks hr hR h dX11_wish__41
    · have h := hp_in c6 h
      refine lv_iload hx hb dX11_wish__19 (lv_at hl 4 rfl) ?_
      refine lv_iload hx hb dX11_wish__21 (lv_at hl 5 rfl) ?_
      refine hp_bn h (fun v8 h7 h => ?_)
      refine hp_ci hR (hp_runS (rest := []) (As := [.int x4, .int x5]) hX hR (c_Mo_isKind h7) cs_X11_201 rfl rfl hd_Mo_isKind ⟨Nat.le_of_ble_eq_true rfl, Nat.le_of_ble_eq_true rfl⟩ rfl hl.1 rfl (Nat.le_of_ble_eq_true rfl) dX11_wish__23 ⟨Nat.le_of_ble_eq_true rfl, Nat.le_of_ble_eq_true rfl⟩) (fun H locs hR => ?_)
      refine lv_if_eq (tgt := 39) hx hb dX11_wish__26 (by decide) (fun c9 => ?_) (fun c9 => ?_)
      · have h := hp_ip c9 h
        refine lv_ldc (v := (-1000000002)) hx hb hown (hts _ wq4_84) dX11_wish__39 ?_
        exact hp_iret hX hlocks hr hR h dX11_wish__41
      · have h := hp_in c9 h
        refine lv_iload hx hb dX11_wish__29 (lv_at hl 6 rfl) ?_
        refine lv_iload hx hb dX11_wish__31 (lv_at hl 7 rfl) ?_
        refine hp_bn h (fun v11 h10 h => ?_)
        refine hp_ci hR (hp_runS (rest := []) (As := [.int x6, .int x7]) hX hR (c_Mo_isKind h10) cs_X11_201 rfl rfl hd_Mo_isKind ⟨Nat.le_of_ble_eq_true rfl, Nat.le_of_ble_eq_true rfl⟩ rfl hl.1 rfl (Nat.le_of_ble_eq_true rfl) dX11_wish__33 ⟨Nat.le_of_ble_eq_true rfl, Nat.le_of_ble_eq_true rfl⟩) (fun H locs hR => ?_)
        refine lv_if_ne (tgt := 42) hx hb dX11_wish__36 (by decide) (fun c12 => ?_) (fun c12 => ?_)
        · have h := hp_in c12 h
          refine lv_aload_n hx hb dX11_wish__42 rfl (lv_at hl 0 rfl) ?_
          refine hp_getR hX hR (ci := 10) 0 rfl wf11 (by decide) wq3_167 dX11_wish__43 h (fun q13 h => ?_)
          refine lv_iconst (v := 2) hx hb dX11_wish__46 (by decide) ?_
          refine hp_iald hX hR dX11_wish__47 h (fun v14 h => ?_)
          refine lv_bipush (v := 12) hx hb dX11_wish__48 (by decide) ?_
          refine lv_icmp_ne (tgt := 56) hx hb dX11_wish__50 (by decide) (fun c15 => ?_) (fun c15 => ?_)
          · have h := hp_in c15 h
            refine lv_aload_n hx hb dX11_wish__56 rfl (lv_at hl 0 rfl) ?_
            refine hp_bn h (fun σ h16 h => ?_)
            refine hp_cv hR (hp_runV (rest := []) (As := []) hX hR (c_Mo_deed h16) cs_X11_198 rfl rfl rfl hd_Mo_deed ⟨Nat.le_of_ble_eq_true rfl, Nat.le_of_ble_eq_true rfl⟩ (ci := 10) rfl (hp_own_is h16) rfl hl.1 rfl (Nat.le_of_ble_eq_true rfl) dX11_wish__57 ⟨Nat.le_of_ble_eq_true rfl, Nat.le_of_ble_eq_true rfl⟩) (fun H locs hR => ?_)
            refine lv_aload_n hx hb dX11_wish__60 rfl (lv_at hl 0 rfl) ?_
            refine hp_getR hX hR (ci := 10) 0 rfl wf11 (by decide) wq3_167 dX11_wish__61 h (fun q17 h => ?_)
            refine lv_iconst (v := 2) hx hb dX11_wish__64 (by decide) ?_
            refine hp_iald hX hR dX11_wish__65 h (fun v18 h => ?_)
            refine lv_istore (lv' := [(8, .int v18), (0, .ref a0), (1, .int x1), (2, .int x2), (3, .int x3), (4, .int x4), (5, .int x5), (6, .int x6), (7, .int x7)]) hx hb dX11_wish__66 hl (by decide) rfl (fun ls hl => ?_)
            refine lv_aload_n hx hb dX11_wish__68 rfl (lv_at hl 1 rfl) ?_
            refine hp_getR hX hR (ci := 10) 0 rfl wf11 (by decide) wq3_167 dX11_wish__69 h (fun q19 h => ?_)
            refine lv_sipush (v := 170) hx hb dX11_wish__72 (by decide) ?_
            refine lv_bipush (v := 7) hx hb dX11_wish__75 (by decide) ?_
            refine lv_iload hx hb dX11_wish__77 (lv_at hl 0 rfl) ?_
            refine lv_imul hx hb dX11_wish__79 ?_
            refine lv_iadd hx hb dX11_wish__80 ?_
            refine lv_iload_n hx hb dX11_wish__81 rfl (lv_at hl 2 rfl) ?_
            refine hp_iast hX hR dX11_wish__82 h (fun σ H locs h hR => ?_)
            refine lv_aload_n hx hb dX11_wish__83 rfl (lv_at hl 1 rfl) ?_
            refine lv_iload hx hb dX11_wish__84 (lv_at hl 0 rfl) ?_
            refine lv_iconst (v := 0) hx hb dX11_wish__86 (by decide) ?_
            refine lv_iload_n hx hb dX11_wish__87 rfl (lv_at hl 3 rfl) ?_
            refine lv_iload_n hx hb dX11_wish__88 rfl (lv_at hl 4 rfl) ?_
            refine hp_bn h (fun σ h20 h => ?_)
            refine hp_cv hR (hp_runV (rest := []) (As := [.int v18, .int 0, .int x2, .int x3]) hX hR (c_Mo_bounds h20) cs_X11_204 rfl rfl rfl hd_Mo_bounds ⟨Nat.le_of_ble_eq_true rfl, Nat.le_of_ble_eq_true rfl⟩ (ci := 10) rfl (hp_own_is h20) rfl hl.1 rfl (Nat.le_of_ble_eq_true rfl) dX11_wish__89 ⟨Nat.le_of_ble_eq_true rfl, Nat.le_of_ble_eq_true rfl⟩) (fun H locs hR => ?_)
            refine lv_aload_n hx hb dX11_wish__92 rfl (lv_at hl 1 rfl) ?_
            refine lv_iload hx hb dX11_wish__93 (lv_at hl 0 rfl) ?_
            refine lv_iconst (v := 1) hx hb dX11_wish__95 (by decide) ?_
            refine lv_iload hx hb dX11_wish__96 (lv_at hl 5 rfl) ?_
            refine lv_iload hx hb dX11_wish__98 (lv_at hl 6 rfl) ?_
            refine hp_bn h (fun σ h21 h => ?_)
            refine hp_cv hR (hp_runV (rest := []) (As := [.int v18, .int 1, .int x4, .int x5]) hX hR (c_Mo_bounds h21) cs_X11_204 rfl rfl rfl hd_Mo_bounds ⟨Nat.le_of_ble_eq_true rfl, Nat.le_of_ble_eq_true rfl⟩ (ci := 10) rfl (hp_own_is h21) rfl hl.1 rfl (Nat.le_of_ble_eq_true rfl) dX11_wish__100 ⟨Nat.le_of_ble_eq_true rfl, Nat.le_of_ble_eq_true rfl⟩) (fun H locs hR => ?_)
            refine lv_aload_n hx hb dX11_wish__103 rfl (lv_at hl 1 rfl) ?_
            refine lv_iload hx hb dX11_wish__104 (lv_at hl 0 rfl) ?_
            refine lv_iconst (v := 2) hx hb dX11_wish__106 (by decide) ?_
            refine lv_iload hx hb dX11_wish__107 (lv_at hl 7 rfl) ?_
            refine lv_iload hx hb dX11_wish__109 (lv_at hl 8 rfl) ?_
            refine hp_bn h (fun σ h22 h => ?_)
            refine hp_cv hR (hp_runV (rest := []) (As := [.int v18, .int 2, .int x6, .int x7]) hX hR (c_Mo_bounds h22) cs_X11_204 rfl rfl rfl hd_Mo_bounds ⟨Nat.le_of_ble_eq_true rfl, Nat.le_of_ble_eq_true rfl⟩ (ci := 10) rfl (hp_own_is h22) rfl hl.1 rfl (Nat.le_of_ble_eq_true rfl) dX11_wish__111 ⟨Nat.le_of_ble_eq_true rfl, Nat.le_of_ble_eq_true rfl⟩) (fun H locs hR => ?_)
            refine lv_aload_n hx hb dX11_wish__114 rfl (lv_at hl 1 rfl) ?_
            refine hp_getR hX hR (ci := 10) 0 rfl wf11 (by decide) wq3_167 dX11_wish__115 h (fun q23 h => ?_)
            refine lv_iconst (v := 2) hx hb dX11_wish__118 (by decide) ?_
            refine lv_dup2_11 hx hb dX11_wish__119 rfl rfl ?_
            refine hp_iald hX hR dX11_wish__120 h (fun v24 h => ?_)
            refine lv_iconst (v := 1) hx hb dX11_wish__121 (by decide) ?_
            refine lv_iadd hx hb dX11_wish__122 ?_
            refine hp_iast hX hR dX11_wish__123 h (fun σ H locs h hR => ?_)
            refine lv_iload hx hb dX11_wish__124 (lv_at hl 0 rfl) ?_
            exact hp_iret hX hlocks hr hR h dX11_wish__126
          · have h := hp_ip c15 h
            refine lv_ldc (v := (-1000000004)) hx hb hown (hts _ wq4_152) dX11_wish__53 ?_
            exact hp_iret hX hlocks hr hR h dX11_wish__55
        · have h := hp_ip c12 h
          refine lv_ldc (v := (-1000000002)) hx hb hown (hts _ wq4_84) dX11_wish__39 ?_
          exact hp_iret hX hlocks hr hR h dX11_wish__41
  · have h := hp_ip c3 h
    refine lv_ldc (v := (-1000000001)) hx hb hown (hts _ wq4_89) dX11_wish__8 ?_
    exact hp_iret hX hlocks hr hR h dX11_wish__10
/-! Mo.dropsWish(I)V -/
abbrev rm_Mo_dropsWish : Room := { frames := 0, cells := 0, slots := 0, locals := 0 }
theorem hd_Mo_dropsWish : hp_d yX11_dropsWish 1 := by decide +kernel
def f_Mo_dropsWish_l1 (a0 : Nat) (K : Int32 → hp_H → Option hp_H) : Nat → Int32 → hp_H → Option hp_H
  | 0, _, _ => none
  | n + 1, x2, σ => (hp_gR σ a0 10 0).bind fun q3 => (hp_aI σ q3 0 2).bind fun v4 => if ((170 : Int32) + ((7 : Int32) * v4)) ≤ x2 then (K x2 σ) else ((hp_gR σ a0 10 0).bind fun q6 => (hp_gR σ a0 10 0).bind fun q7 => (hp_aI σ q7 0 (x2 + 7)).bind fun v8 => (hp_sI σ q6 0 x2 v8).bind fun σ => f_Mo_dropsWish_l1 a0 K n (x2 + 1) σ)
def f_Mo_dropsWish (a0 : Nat) (x1 : Int32) (σ : hp_H) : Option hp_H := hp_own σ a0 10 ((hp_gR σ a0 10 0).bind fun q1 => (hp_aI σ q1 0 2).bind fun v2 => (hp_sI σ q1 0 2 (v2 - 1)).bind fun σ => f_Mo_dropsWish_l1 a0 (fun z9 σ => some σ) hp_F ((170 : Int32) + ((7 : Int32) * x1)) σ)
set_option maxHeartbeats 4000000 in
set_option maxRecDepth 100000 in
theorem w_Mo_dropsWish_l1 {p : Program} {l : Launch} {e : Env} {s : State} {m : MethodId} {args : Array Value} {below : List Frame} {meth : Method} {c : Code} {G : hp_G} {b : Nat} {a0 : Nat} {σ' : hp_H} {K : Int32 → hp_H → Option hp_H} (hX : hp_X G p s m c args cX11_dropsWish 3 RX11) (hlocks : meth.locks = false) (hr : meth.sig.returnType = none)
    (hK : ∀ (x2 : Int32) (σ : hp_H) (H : Heap) (locs : List Loc) (ls : Array Slot), hp_R G b s.heap σ H locs → lv_has ls 3 [] → K x2 σ = some σ' → W p l e rm_Mo_dropsWish s m args below meth c H locs 0 0 (MQ below (hp_Qc G b none σ') args s 0 0 (fun q => b ≤ q)) (F0 m 57 ls [])) :
    ∀ (n : Nat) (x2 : Int32) (σ : hp_H) (H : Heap) (locs : List Loc) (ls : Array Slot), hp_R G b s.heap σ H locs → f_Mo_dropsWish_l1 a0 K n x2 σ = some σ' → lv_has ls 3 [(0, .ref a0), (2, .int x2)] → W p l e rm_Mo_dropsWish s m args below meth c H locs 0 0 (MQ below (hp_Qc G b none σ') args s 0 0 (fun q => b ≤ q)) (F0 m 19 ls []) := by
  obtain ⟨hx, hb, hml, hown, hts⟩ := id hX.1
  intro n
  induction n with
  | zero =>
    intro x2 σ H locs ls hR h hl
    rw [f_Mo_dropsWish_l1] at h
    cases h
  | succ n ih =>
    intro x2 σ H locs ls hR h hl
    rw [f_Mo_dropsWish_l1] at h
    refine lv_iload_n hx hb dX11_dropsWish_19 rfl (lv_at hl 1 rfl) ?_
    refine lv_sipush (v := 170) hx hb dX11_dropsWish_20 (by decide) ?_
    refine lv_bipush (v := 7) hx hb dX11_dropsWish_23 (by decide) ?_
    refine lv_aload_n hx hb dX11_dropsWish_25 rfl (lv_at hl 0 rfl) ?_
    refine hp_getR hX hR (ci := 10) 0 rfl wf11 (by decide) wq3_167 dX11_dropsWish_26 h (fun q3 h => ?_)
    refine lv_iconst (v := 2) hx hb dX11_dropsWish_29 (by decide) ?_
    refine hp_iald hX hR dX11_dropsWish_30 h (fun v4 h => ?_)
    refine lv_imul hx hb dX11_dropsWish_31 ?_
    refine lv_iadd hx hb dX11_dropsWish_32 ?_
    refine lv_icmp_ge (tgt := 57) hx hb dX11_dropsWish_33 (by decide) (fun c5 => ?_) (fun c5 => ?_)
    · have h := hp_ip c5 h
      exact hK _ _ _ _ _ hR (lv_sub hl [] rfl) h
    · have h := hp_in c5 h
      refine lv_aload_n hx hb dX11_dropsWish_36 rfl (lv_at hl 0 rfl) ?_
      refine hp_getR hX hR (ci := 10) 0 rfl wf11 (by decide) wq3_167 dX11_dropsWish_37 h (fun q6 h => ?_)
      refine lv_iload_n hx hb dX11_dropsWish_40 rfl (lv_at hl 1 rfl) ?_
      refine lv_aload_n hx hb dX11_dropsWish_41 rfl (lv_at hl 0 rfl) ?_
      refine hp_getR hX hR (ci := 10) 0 rfl wf11 (by decide) wq3_167 dX11_dropsWish_42 h (fun q7 h => ?_)
      refine lv_iload_n hx hb dX11_dropsWish_45 rfl (lv_at hl 1 rfl) ?_
      refine lv_bipush (v := 7) hx hb dX11_dropsWish_46 (by decide) ?_
      refine lv_iadd hx hb dX11_dropsWish_48 ?_
      refine hp_iald hX hR dX11_dropsWish_49 h (fun v8 h => ?_)
      refine hp_iast hX hR dX11_dropsWish_50 h (fun σ H locs h hR => ?_)
      refine lv_iinc (v := (x2 + 1)) (lv' := [(2, .int (x2 + 1)), (0, .ref a0)]) hx hb dX11_dropsWish_51 hl (k := 1) rfl rfl (by decide) rfl (fun ls hl => ?_)
      refine lv_goto (tgt := 19) hx hb dX11_dropsWish_54 (by decide) ?_
      exact ih _ _ _ _ _ hR h (lv_sub hl [1, 0] rfl)
set_option maxHeartbeats 4000000 in
set_option maxRecDepth 100000 in
theorem c_Mo_dropsWish {l : Launch} {G : hp_G} {b : Nat} {σ : hp_H} {a0 : Nat} {x1 : Int32} {σ' : hp_H} (h : f_Mo_dropsWish a0 x1 σ = some σ') : hp_Met l yX11_dropsWish cX11_dropsWish 3 none rm_Mo_dropsWish G b [.ref a0, .int x1] σ none σ' 0 0 := by
  refine hp_met (by decide +kernel) (Nat.le_of_ble_eq_true rfl) (fun p e s m below meth c ls hX hlocks hr hnm hl hR => ?_)
  obtain ⟨hx, hb, hml, hown, hts⟩ := id hX.1
  have hl : lv_has ls 3 [(0, .ref a0), (1, .int x1)] := hl
  unfold f_Mo_dropsWish at h
  have h := hp_own_to h
  refine lv_aload_n hx hb dX11_dropsWish_0 rfl (lv_at hl 0 rfl) ?_
  refine hp_getR hX hR (ci := 10) 0 rfl wf11 (by decide) wq3_167 dX11_dropsWish_1 h (fun q1 h => ?_)
  refine lv_iconst (v := 2) hx hb dX11_dropsWish_4 (by decide) ?_
  refine lv_dup2_11 hx hb dX11_dropsWish_5 rfl rfl ?_
  refine hp_iald hX hR dX11_dropsWish_6 h (fun v2 h => ?_)
  refine lv_iconst (v := 1) hx hb dX11_dropsWish_7 (by decide) ?_
  refine lv_isub hx hb dX11_dropsWish_8 ?_
  refine hp_iast hX hR dX11_dropsWish_9 h (fun σ H locs h hR => ?_)
  refine lv_sipush (v := 170) hx hb dX11_dropsWish_10 (by decide) ?_
  refine lv_bipush (v := 7) hx hb dX11_dropsWish_13 (by decide) ?_
  refine lv_iload_n hx hb dX11_dropsWish_15 rfl (lv_at hl 1 rfl) ?_
  refine lv_imul hx hb dX11_dropsWish_16 ?_
  refine lv_iadd hx hb dX11_dropsWish_17 ?_
  refine lv_istore_n (lv' := [(2, .int ((170 : Int32) + ((7 : Int32) * x1))), (0, .ref a0), (1, .int x1)]) hx hb dX11_dropsWish_18 rfl hl (by decide) rfl (fun ls hl => ?_)
  refine w_Mo_dropsWish_l1 hX hlocks hr ?_ hp_F _ _ _ _ _ hR h (lv_sub hl [1, 0] rfl)
  intro z9 σ H locs ls hR hl h
  exact hp_vret hX hlocks hr hR h dX11_dropsWish_57
theorem cs_X11_207 : hp_WV RX11 207 RX11 yX11_dropsWish cX11_dropsWish 3 none := ⟨wq4_180, wq4_182, wp3_8, wq1_11, wq4_183⟩
/-! Mo.drop(I)I -/
abbrev rm_Mo_drop : Room := { frames := 2, cells := 0, slots := 0, locals := 43 }
theorem hd_Mo_drop : hp_d yX11_drop 1 := by decide +kernel
def f_Mo_drop (a0 : Nat) (x1 : Int32) (σ : hp_H) : Option (Int32 × hp_H) := hp_own σ a0 10 ((f_Mo_isWish a0 x1 σ).bind fun v2 => if v2 = 0 then (some ((-1000000001), σ)) else ((f_Mo_deed a0 σ).bind fun σ => (f_Mo_dropsWish a0 x1 σ).bind fun σ => (hp_gR σ a0 10 0).bind fun q6 => (hp_aI σ q6 0 2).bind fun v7 => some (v7, σ)))
set_option maxHeartbeats 4000000 in
set_option maxRecDepth 100000 in
theorem c_Mo_drop {l : Launch} {G : hp_G} {b : Nat} {σ : hp_H} {a0 : Nat} {x1 : Int32} {r : Int32} {σ' : hp_H} (h : f_Mo_drop a0 x1 σ = some (r, σ')) : hp_Met l yX11_drop cX11_drop 2 (some .int) rm_Mo_drop G b [.ref a0, .int x1] σ (some (.int r)) σ' 0 0 := by
  refine hp_met (by decide +kernel) (Nat.le_of_ble_eq_true rfl) (fun p e s m below meth c ls hX hlocks hr hnm hl hR => ?_)
  obtain ⟨hx, hb, hml, hown, hts⟩ := id hX.1
  have hl : lv_has ls 2 [(0, .ref a0), (1, .int x1)] := hl
  unfold f_Mo_drop at h
  have h := hp_own_to h
  refine lv_aload_n hx hb dX11_drop_0 rfl (lv_at hl 0 rfl) ?_
  refine lv_iload_n hx hb dX11_drop_1 rfl (lv_at hl 1 rfl) ?_
  refine hp_bn h (fun v2 h1 h => ?_)
  refine hp_ci hR (hp_runV (rest := []) (As := [.int x1]) hX hR (c_Mo_isWish h1) cs_X11_184 rfl rfl rfl hd_Mo_isWish ⟨Nat.le_of_ble_eq_true rfl, Nat.le_of_ble_eq_true rfl⟩ (ci := 10) rfl (hp_own_is h1) rfl hl.1 rfl (Nat.le_of_ble_eq_true rfl) dX11_drop_2 ⟨Nat.le_of_ble_eq_true rfl, Nat.le_of_ble_eq_true rfl⟩) (fun H locs hR => ?_)
  refine lv_if_ne (tgt := 11) hx hb dX11_drop_5 (by decide) (fun c3 => ?_) (fun c3 => ?_)
  · have h := hp_in c3 h
    refine lv_aload_n hx hb dX11_drop_11 rfl (lv_at hl 0 rfl) ?_
    refine hp_bn h (fun σ h4 h => ?_)
    refine hp_cv hR (hp_runV (rest := []) (As := []) hX hR (c_Mo_deed h4) cs_X11_198 rfl rfl rfl hd_Mo_deed ⟨Nat.le_of_ble_eq_true rfl, Nat.le_of_ble_eq_true rfl⟩ (ci := 10) rfl (hp_own_is h4) rfl hl.1 rfl (Nat.le_of_ble_eq_true rfl) dX11_drop_12 ⟨Nat.le_of_ble_eq_true rfl, Nat.le_of_ble_eq_true rfl⟩) (fun H locs hR => ?_)
    refine lv_aload_n hx hb dX11_drop_15 rfl (lv_at hl 0 rfl) ?_
    refine lv_iload_n hx hb dX11_drop_16 rfl (lv_at hl 1 rfl) ?_
    refine hp_bn h (fun σ h5 h => ?_)
    refine hp_cv hR (hp_runV (rest := []) (As := [.int x1]) hX hR (c_Mo_dropsWish h5) cs_X11_207 rfl rfl rfl hd_Mo_dropsWish ⟨Nat.le_of_ble_eq_true rfl, Nat.le_of_ble_eq_true rfl⟩ (ci := 10) rfl (hp_own_is h5) rfl hl.1 rfl (Nat.le_of_ble_eq_true rfl) dX11_drop_17 ⟨Nat.le_of_ble_eq_true rfl, Nat.le_of_ble_eq_true rfl⟩) (fun H locs hR => ?_)
    refine lv_aload_n hx hb dX11_drop_20 rfl (lv_at hl 0 rfl) ?_
    refine hp_getR hX hR (ci := 10) 0 rfl wf11 (by decide) wq3_167 dX11_drop_21 h (fun q6 h => ?_)
    refine lv_iconst (v := 2) hx hb dX11_drop_24 (by decide) ?_
    refine hp_iald hX hR dX11_drop_25 h (fun v7 h => ?_)
    exact hp_iret hX hlocks hr hR h dX11_drop_26
  · have h := hp_ip c3 h
    refine lv_ldc (v := (-1000000001)) hx hb hown (hts _ wq4_89) dX11_drop_8 ?_
    exact hp_iret hX hlocks hr hR h dX11_drop_10
/-! Mo.most(I)I -/
abbrev rm_Mo_most : Room := { frames := 1, cells := 0, slots := 0, locals := 22 }
theorem hd_Mo_most : hp_d yX11_most 1 := by decide +kernel
def f_Mo_most (a0 : Nat) (x1 : Int32) (σ : hp_H) : Option (Int32 × hp_H) := hp_own σ a0 10 ((f_Mo_in x1 1 9).bind fun v2 => if v2 = 0 then (some ((-1000000002), σ)) else ((f_Mo_deed a0 σ).bind fun σ => (hp_gR σ a0 10 0).bind fun q5 => (hp_aI σ q5 0 3).bind fun v6 => (hp_gR σ a0 10 0).bind fun q7 => (hp_sI σ q7 0 3 x1).bind fun σ => some (v6, σ)))
set_option maxHeartbeats 4000000 in
set_option maxRecDepth 100000 in
theorem c_Mo_most {l : Launch} {G : hp_G} {b : Nat} {σ : hp_H} {a0 : Nat} {x1 : Int32} {r : Int32} {σ' : hp_H} (h : f_Mo_most a0 x1 σ = some (r, σ')) : hp_Met l yX11_most cX11_most 3 (some .int) rm_Mo_most G b [.ref a0, .int x1] σ (some (.int r)) σ' 0 0 := by
  refine hp_met (by decide +kernel) (Nat.le_of_ble_eq_true rfl) (fun p e s m below meth c ls hX hlocks hr hnm hl hR => ?_)
  obtain ⟨hx, hb, hml, hown, hts⟩ := id hX.1
  have hl : lv_has ls 3 [(0, .ref a0), (1, .int x1)] := hl
  unfold f_Mo_most at h
  have h := hp_own_to h
  refine lv_iload_n hx hb dX11_most_0 rfl (lv_at hl 1 rfl) ?_
  refine lv_iconst (v := 1) hx hb dX11_most_1 (by decide) ?_
  refine lv_bipush (v := 9) hx hb dX11_most_2 (by decide) ?_
  refine hp_bn h (fun v2 h1 h => ?_)
  refine hp_ci hR (hp_runS (rest := []) (As := [.int x1, .int 1, .int 9]) hX hR (c_Mo_in h1) cs_X11_41 rfl rfl hd_Mo_in ⟨Nat.le_of_ble_eq_true rfl, Nat.le_of_ble_eq_true rfl⟩ rfl hl.1 rfl (Nat.le_of_ble_eq_true rfl) dX11_most_4 ⟨Nat.le_of_ble_eq_true rfl, Nat.le_of_ble_eq_true rfl⟩) (fun H locs hR => ?_)
  refine lv_if_ne (tgt := 13) hx hb dX11_most_7 (by decide) (fun c3 => ?_) (fun c3 => ?_)
  · have h := hp_in c3 h
    refine lv_aload_n hx hb dX11_most_13 rfl (lv_at hl 0 rfl) ?_
    refine hp_bn h (fun σ h4 h => ?_)
    refine hp_cv hR (hp_runV (rest := []) (As := []) hX hR (c_Mo_deed h4) cs_X11_198 rfl rfl rfl hd_Mo_deed ⟨Nat.le_of_ble_eq_true rfl, Nat.le_of_ble_eq_true rfl⟩ (ci := 10) rfl (hp_own_is h4) rfl hl.1 rfl (Nat.le_of_ble_eq_true rfl) dX11_most_14 ⟨Nat.le_of_ble_eq_true rfl, Nat.le_of_ble_eq_true rfl⟩) (fun H locs hR => ?_)
    refine lv_aload_n hx hb dX11_most_17 rfl (lv_at hl 0 rfl) ?_
    refine hp_getR hX hR (ci := 10) 0 rfl wf11 (by decide) wq3_167 dX11_most_18 h (fun q5 h => ?_)
    refine lv_iconst (v := 3) hx hb dX11_most_21 (by decide) ?_
    refine hp_iald hX hR dX11_most_22 h (fun v6 h => ?_)
    refine lv_istore_n (lv' := [(2, .int v6), (0, .ref a0), (1, .int x1)]) hx hb dX11_most_23 rfl hl (by decide) rfl (fun ls hl => ?_)
    refine lv_aload_n hx hb dX11_most_24 rfl (lv_at hl 1 rfl) ?_
    refine hp_getR hX hR (ci := 10) 0 rfl wf11 (by decide) wq3_167 dX11_most_25 h (fun q7 h => ?_)
    refine lv_iconst (v := 3) hx hb dX11_most_28 (by decide) ?_
    refine lv_iload_n hx hb dX11_most_29 rfl (lv_at hl 2 rfl) ?_
    refine hp_iast hX hR dX11_most_30 h (fun σ H locs h hR => ?_)
    refine lv_iload_n hx hb dX11_most_31 rfl (lv_at hl 0 rfl) ?_
    exact hp_iret hX hlocks hr hR h dX11_most_32
  · have h := hp_ip c3 h
    refine lv_ldc (v := (-1000000002)) hx hb hown (hts _ wq4_84) dX11_most_10 ?_
    exact hp_iret hX hlocks hr hR h dX11_most_12
theorem cs_X11_210 : hp_WV RX11 210 RX11 yX11_puts cX11_puts 6 (some .int) := ⟨wq4_192, wq4_194, wp3_9, wq1_11, wq4_195⟩
/-! Mo.put(IIII)I -/
abbrev rm_Mo_put : Room := { frames := 9, cells := 0, slots := 0, locals := 218 }
theorem hd_Mo_put : hp_d yX11_put 4 := by decide +kernel
def f_Mo_put (a0 : Nat) (x1 : Int32) (x2 : Int32) (x3 : Int32) (x4 : Int32) (σ : hp_H) : Option (Int32 × hp_H) := hp_own σ a0 10 ((f_Mo_isBroker a0 x1 σ).bind fun v2 => if v2 = 0 then (some ((-1000000001), σ)) else ((f_Mo_areThings x2 x3 x4).bind fun v5 => if v5 = 0 then (some ((-1000000002), σ)) else ((f_Mo_deed a0 σ).bind fun σ => hp_b (f_Mo_puts a0 x1 x2 x3 x4 σ) fun v9 σ => some (v9, σ))))
set_option maxHeartbeats 4000000 in
set_option maxRecDepth 100000 in
theorem c_Mo_put {l : Launch} {G : hp_G} {b : Nat} {σ : hp_H} {a0 : Nat} {x1 : Int32} {x2 : Int32} {x3 : Int32} {x4 : Int32} {r : Int32} {σ' : hp_H} (h : f_Mo_put a0 x1 x2 x3 x4 σ = some (r, σ')) : hp_Met l yX11_put cX11_put 5 (some .int) rm_Mo_put G b [.ref a0, .int x1, .int x2, .int x3, .int x4] σ (some (.int r)) σ' 0 0 := by
  refine hp_met (by decide +kernel) (Nat.le_of_ble_eq_true rfl) (fun p e s m below meth c ls hX hlocks hr hnm hl hR => ?_)
  obtain ⟨hx, hb, hml, hown, hts⟩ := id hX.1
  have hl : lv_has ls 5 [(0, .ref a0), (1, .int x1), (2, .int x2), (3, .int x3), (4, .int x4)] := hl
  unfold f_Mo_put at h
  have h := hp_own_to h
  refine lv_aload_n hx hb dX11_put_0 rfl (lv_at hl 0 rfl) ?_
  refine lv_iload_n hx hb dX11_put_1 rfl (lv_at hl 1 rfl) ?_
  refine hp_bn h (fun v2 h1 h => ?_)
  refine hp_ci hR (hp_runV (rest := []) (As := [.int x1]) hX hR (c_Mo_isBroker h1) cs_X11_45 rfl rfl rfl hd_Mo_isBroker ⟨Nat.le_of_ble_eq_true rfl, Nat.le_of_ble_eq_true rfl⟩ (ci := 10) rfl (hp_own_is h1) rfl hl.1 rfl (Nat.le_of_ble_eq_true rfl) dX11_put_2 ⟨Nat.le_of_ble_eq_true rfl, Nat.le_of_ble_eq_true rfl⟩) (fun H locs hR => ?_)
  refine lv_if_ne (tgt := 11) hx hb dX11_put_5 (by decide) (fun c3 => ?_) (fun c3 => ?_)
  · have h := hp_in c3 h
    refine lv_iload_n hx hb dX11_put_11 rfl (lv_at hl 2 rfl) ?_
    refine lv_iload_n hx hb dX11_put_12 rfl (lv_at hl 3 rfl) ?_
    refine lv_iload hx hb dX11_put_13 (lv_at hl 4 rfl) ?_
    refine hp_bn h (fun v5 h4 h => ?_)
    refine hp_ci hR (hp_runS (rest := []) (As := [.int x2, .int x3, .int x4]) hX hR (c_Mo_areThings h4) cs_X11_194 rfl rfl hd_Mo_areThings ⟨Nat.le_of_ble_eq_true rfl, Nat.le_of_ble_eq_true rfl⟩ rfl hl.1 rfl (Nat.le_of_ble_eq_true rfl) dX11_put_15 ⟨Nat.le_of_ble_eq_true rfl, Nat.le_of_ble_eq_true rfl⟩) (fun H locs hR => ?_)
    refine lv_if_ne (tgt := 24) hx hb dX11_put_18 (by decide) (fun c6 => ?_) (fun c6 => ?_)
    · have h := hp_in c6 h
      refine lv_aload_n hx hb dX11_put_24 rfl (lv_at hl 0 rfl) ?_
      refine hp_bn h (fun σ h7 h => ?_)
      refine hp_cv hR (hp_runV (rest := []) (As := []) hX hR (c_Mo_deed h7) cs_X11_198 rfl rfl rfl hd_Mo_deed ⟨Nat.le_of_ble_eq_true rfl, Nat.le_of_ble_eq_true rfl⟩ (ci := 10) rfl (hp_own_is h7) rfl hl.1 rfl (Nat.le_of_ble_eq_true rfl) dX11_put_25 ⟨Nat.le_of_ble_eq_true rfl, Nat.le_of_ble_eq_true rfl⟩) (fun H locs hR => ?_)
      refine lv_aload_n hx hb dX11_put_28 rfl (lv_at hl 0 rfl) ?_
      refine lv_iload_n hx hb dX11_put_29 rfl (lv_at hl 1 rfl) ?_
      refine lv_iload_n hx hb dX11_put_30 rfl (lv_at hl 2 rfl) ?_
      refine lv_iload_n hx hb dX11_put_31 rfl (lv_at hl 3 rfl) ?_
      refine lv_iload hx hb dX11_put_32 (lv_at hl 4 rfl) ?_
      refine hp_b2 h (fun v9 σ h8 h => ?_)
      refine hp_ci hR (hp_runV (rest := []) (As := [.int x1, .int x2, .int x3, .int x4]) hX hR (c_Mo_puts h8) cs_X11_210 rfl rfl rfl hd_Mo_puts ⟨Nat.le_of_ble_eq_true rfl, Nat.le_of_ble_eq_true rfl⟩ (ci := 10) rfl (hp_own_is h8) rfl hl.1 rfl (Nat.le_of_ble_eq_true rfl) dX11_put_34 ⟨Nat.le_of_ble_eq_true rfl, Nat.le_of_ble_eq_true rfl⟩) (fun H locs hR => ?_)
      exact hp_iret hX hlocks hr hR h dX11_put_37
    · have h := hp_ip c6 h
      refine lv_ldc (v := (-1000000002)) hx hb hown (hts _ wq4_84) dX11_put_21 ?_
      exact hp_iret hX hlocks hr hR h dX11_put_23
  · have h := hp_ip c3 h
    refine lv_ldc (v := (-1000000001)) hx hb hown (hts _ wq4_89) dX11_put_8 ?_
    exact hp_iret hX hlocks hr hR h dX11_put_10
/-! Mo.leave(I)I -/
abbrev rm_Mo_leave : Room := { frames := 2, cells := 0, slots := 0, locals := 43 }
theorem hd_Mo_leave : hp_d yX11_leave 1 := by decide +kernel
def f_Mo_leave (a0 : Nat) (x1 : Int32) (σ : hp_H) : Option (Int32 × hp_H) := hp_own σ a0 10 ((f_Mo_isClient a0 x1 σ).bind fun v2 => if v2 = 0 then (some ((-1000000001), σ)) else ((f_Mo_of a0 x1 1 σ).bind fun v5 => if v5 = 0 then (some ((-1000000003), σ)) else ((f_Mo_deed a0 σ).bind fun σ => (f_Mo_sets a0 x1 1 0 σ).bind fun σ => (f_Mo_of a0 x1 0 σ).bind fun v10 => some (v10, σ))))
set_option maxHeartbeats 4000000 in
set_option maxRecDepth 100000 in
theorem c_Mo_leave {l : Launch} {G : hp_G} {b : Nat} {σ : hp_H} {a0 : Nat} {x1 : Int32} {r : Int32} {σ' : hp_H} (h : f_Mo_leave a0 x1 σ = some (r, σ')) : hp_Met l yX11_leave cX11_leave 2 (some .int) rm_Mo_leave G b [.ref a0, .int x1] σ (some (.int r)) σ' 0 0 := by
  refine hp_met (by decide +kernel) (Nat.le_of_ble_eq_true rfl) (fun p e s m below meth c ls hX hlocks hr hnm hl hR => ?_)
  obtain ⟨hx, hb, hml, hown, hts⟩ := id hX.1
  have hl : lv_has ls 2 [(0, .ref a0), (1, .int x1)] := hl
  unfold f_Mo_leave at h
  have h := hp_own_to h
  refine lv_aload_n hx hb dX11_leave_0 rfl (lv_at hl 0 rfl) ?_
  refine lv_iload_n hx hb dX11_leave_1 rfl (lv_at hl 1 rfl) ?_
  refine hp_bn h (fun v2 h1 h => ?_)
  refine hp_ci hR (hp_runV (rest := []) (As := [.int x1]) hX hR (c_Mo_isClient h1) cs_X11_163 rfl rfl rfl hd_Mo_isClient ⟨Nat.le_of_ble_eq_true rfl, Nat.le_of_ble_eq_true rfl⟩ (ci := 10) rfl (hp_own_is h1) rfl hl.1 rfl (Nat.le_of_ble_eq_true rfl) dX11_leave_2 ⟨Nat.le_of_ble_eq_true rfl, Nat.le_of_ble_eq_true rfl⟩) (fun H locs hR => ?_)
  refine lv_if_ne (tgt := 11) hx hb dX11_leave_5 (by decide) (fun c3 => ?_) (fun c3 => ?_)
  · have h := hp_in c3 h
    refine lv_aload_n hx hb dX11_leave_11 rfl (lv_at hl 0 rfl) ?_
    refine lv_iload_n hx hb dX11_leave_12 rfl (lv_at hl 1 rfl) ?_
    refine lv_iconst (v := 1) hx hb dX11_leave_13 (by decide) ?_
    refine hp_bn h (fun v5 h4 h => ?_)
    refine hp_ci hR (hp_runV (rest := []) (As := [.int x1, .int 1]) hX hR (c_Mo_of h4) cs_X11_90 rfl rfl rfl hd_Mo_of ⟨Nat.le_of_ble_eq_true rfl, Nat.le_of_ble_eq_true rfl⟩ (ci := 10) rfl (hp_own_is h4) rfl hl.1 rfl (Nat.le_of_ble_eq_true rfl) dX11_leave_14 ⟨Nat.le_of_ble_eq_true rfl, Nat.le_of_ble_eq_true rfl⟩) (fun H locs hR => ?_)
    refine lv_if_ne (tgt := 23) hx hb dX11_leave_17 (by decide) (fun c6 => ?_) (fun c6 => ?_)
    · have h := hp_in c6 h
      refine lv_aload_n hx hb dX11_leave_23 rfl (lv_at hl 0 rfl) ?_
      refine hp_bn h (fun σ h7 h => ?_)
      refine hp_cv hR (hp_runV (rest := []) (As := []) hX hR (c_Mo_deed h7) cs_X11_198 rfl rfl rfl hd_Mo_deed ⟨Nat.le_of_ble_eq_true rfl, Nat.le_of_ble_eq_true rfl⟩ (ci := 10) rfl (hp_own_is h7) rfl hl.1 rfl (Nat.le_of_ble_eq_true rfl) dX11_leave_24 ⟨Nat.le_of_ble_eq_true rfl, Nat.le_of_ble_eq_true rfl⟩) (fun H locs hR => ?_)
      refine lv_aload_n hx hb dX11_leave_27 rfl (lv_at hl 0 rfl) ?_
      refine lv_iload_n hx hb dX11_leave_28 rfl (lv_at hl 1 rfl) ?_
      refine lv_iconst (v := 1) hx hb dX11_leave_29 (by decide) ?_
      refine lv_iconst (v := 0) hx hb dX11_leave_30 (by decide) ?_
      refine hp_bn h (fun σ h8 h => ?_)
      refine hp_cv hR (hp_runV (rest := []) (As := [.int x1, .int 1, .int 0]) hX hR (c_Mo_sets h8) cs_X11_143 rfl rfl rfl hd_Mo_sets ⟨Nat.le_of_ble_eq_true rfl, Nat.le_of_ble_eq_true rfl⟩ (ci := 10) rfl (hp_own_is h8) rfl hl.1 rfl (Nat.le_of_ble_eq_true rfl) dX11_leave_31 ⟨Nat.le_of_ble_eq_true rfl, Nat.le_of_ble_eq_true rfl⟩) (fun H locs hR => ?_)
      refine lv_aload_n hx hb dX11_leave_34 rfl (lv_at hl 0 rfl) ?_
      refine lv_iload_n hx hb dX11_leave_35 rfl (lv_at hl 1 rfl) ?_
      refine lv_iconst (v := 0) hx hb dX11_leave_36 (by decide) ?_
      refine hp_bn h (fun v10 h9 h => ?_)
      refine hp_ci hR (hp_runV (rest := []) (As := [.int x1, .int 0]) hX hR (c_Mo_of h9) cs_X11_90 rfl rfl rfl hd_Mo_of ⟨Nat.le_of_ble_eq_true rfl, Nat.le_of_ble_eq_true rfl⟩ (ci := 10) rfl (hp_own_is h9) rfl hl.1 rfl (Nat.le_of_ble_eq_true rfl) dX11_leave_37 ⟨Nat.le_of_ble_eq_true rfl, Nat.le_of_ble_eq_true rfl⟩) (fun H locs hR => ?_)
      exact hp_iret hX hlocks hr hR h dX11_leave_40
    · have h := hp_ip c6 h
      refine lv_ldc (v := (-1000000003)) hx hb hown (hts _ wq4_211) dX11_leave_20 ?_
      exact hp_iret hX hlocks hr hR h dX11_leave_22
  · have h := hp_ip c3 h
    refine lv_ldc (v := (-1000000001)) hx hb hown (hts _ wq4_89) dX11_leave_8 ?_
    exact hp_iret hX hlocks hr hR h dX11_leave_10
/-! Mo.come(II)I -/
abbrev rm_Mo_come : Room := { frames := 2, cells := 0, slots := 0, locals := 46 }
theorem hd_Mo_come : hp_d yX11_come 2 := by decide +kernel
def f_Mo_come_l1 (a0 : Nat) (x1 : Int32) (x2 : Int32) (x3 : Int32) (K : Int32 → hp_H → Option (Int32 × hp_H)) : Nat → Int32 → hp_H → Option (Int32 × hp_H)
  | 0, _, _ => none
  | n + 1, x4, σ => if x3 ≤ x4 then (K x4 σ) else ((f_Mo_of a0 x1 ((17 : Int32) + x4) σ).bind fun v15 => (f_Mo_logs a0 x1 v15 σ).bind fun σ => f_Mo_come_l1 a0 x1 x2 x3 K n (x4 + 1) σ)
def f_Mo_come (a0 : Nat) (x1 : Int32) (x2 : Int32) (σ : hp_H) : Option (Int32 × hp_H) := hp_own σ a0 10 ((f_Mo_isClient a0 x1 σ).bind fun v2 => if v2 = 0 then (some ((-1000000001), σ)) else ((f_Mo_isBroker a0 x2 σ).bind fun v5 => if v5 = 0 then (some ((-1000000001), σ)) else ((f_Mo_of a0 x1 1 σ).bind fun v8 => if v8 = 1 then (some ((-1000000003), σ)) else ((f_Mo_deed a0 σ).bind fun σ => (f_Mo_of a0 x1 4 σ).bind fun v12 => f_Mo_come_l1 a0 x1 x2 v12 (fun z17 σ => (f_Mo_sets a0 x1 4 0 σ).bind fun σ => (f_Mo_sets a0 x1 0 x2 σ).bind fun σ => (f_Mo_sets a0 x1 1 1 σ).bind fun σ => some (v12, σ)) hp_F 0 σ))))
set_option maxHeartbeats 4000000 in
set_option maxRecDepth 100000 in
theorem w_Mo_come_l1 {p : Program} {l : Launch} {e : Env} {s : State} {m : MethodId} {args : Array Value} {below : List Frame} {meth : Method} {c : Code} {G : hp_G} {b : Nat} {a0 : Nat} {x1 : Int32} {x2 : Int32} {x3 : Int32} {r : Int32} {σ' : hp_H} {K : Int32 → hp_H → Option (Int32 × hp_H)} (hX : hp_X G p s m c args cX11_come 5 RX11) (hlocks : meth.locks = false) (hr : meth.sig.returnType = (some .int))
    (hK : ∀ (x4 : Int32) (σ : hp_H) (H : Heap) (locs : List Loc) (ls : Array Slot), hp_R G b s.heap σ H locs → lv_has ls 5 [(0, .ref a0), (1, .int x1), (2, .int x2), (3, .int x3)] → K x4 σ = some (r, σ') → W p l e rm_Mo_come s m args below meth c H locs 0 0 (MQ below (hp_Qc G b (some (.int r)) σ') args s 0 0 (fun q => b ≤ q)) (F0 m 73 ls [])) :
    ∀ (n : Nat) (x4 : Int32) (σ : hp_H) (H : Heap) (locs : List Loc) (ls : Array Slot), hp_R G b s.heap σ H locs → f_Mo_come_l1 a0 x1 x2 x3 K n x4 σ = some (r, σ') → lv_has ls 5 [(0, .ref a0), (1, .int x1), (2, .int x2), (3, .int x3), (4, .int x4)] → W p l e rm_Mo_come s m args below meth c H locs 0 0 (MQ below (hp_Qc G b (some (.int r)) σ') args s 0 0 (fun q => b ≤ q)) (F0 m 46 ls []) := by
  obtain ⟨hx, hb, hml, hown, hts⟩ := id hX.1
  intro n
  induction n with
  | zero =>
    intro x4 σ H locs ls hR h hl
    rw [f_Mo_come_l1] at h
    cases h
  | succ n ih =>
    intro x4 σ H locs ls hR h hl
    rw [f_Mo_come_l1] at h
    refine lv_iload hx hb dX11_come_46 (lv_at hl 4 rfl) ?_
    refine lv_iload_n hx hb dX11_come_48 rfl (lv_at hl 3 rfl) ?_
    refine lv_icmp_ge (tgt := 73) hx hb dX11_come_49 (by decide) (fun c13 => ?_) (fun c13 => ?_)
    · have h := hp_ip c13 h
      exact hK _ _ _ _ _ hR (lv_sub hl [0, 1, 2, 3] rfl) h
    · have h := hp_in c13 h
      refine lv_aload_n hx hb dX11_come_52 rfl (lv_at hl 0 rfl) ?_
      refine lv_iload_n hx hb dX11_come_53 rfl (lv_at hl 1 rfl) ?_
      refine lv_aload_n hx hb dX11_come_54 rfl (lv_at hl 0 rfl) ?_
      refine lv_iload_n hx hb dX11_come_55 rfl (lv_at hl 1 rfl) ?_
      refine lv_bipush (v := 17) hx hb dX11_come_56 (by decide) ?_
      refine lv_iload hx hb dX11_come_58 (lv_at hl 4 rfl) ?_
      refine lv_iadd hx hb dX11_come_60 ?_
      refine hp_bn h (fun v15 h14 h => ?_)
      refine hp_ci hR (hp_runV (rest := [.int x1, .ref a0]) (As := [.int x1, .int ((17 : Int32) + x4)]) hX hR (c_Mo_of h14) cs_X11_90 rfl rfl rfl hd_Mo_of ⟨Nat.le_of_ble_eq_true rfl, Nat.le_of_ble_eq_true rfl⟩ (ci := 10) rfl (hp_own_is h14) rfl hl.1 rfl (Nat.le_of_ble_eq_true rfl) dX11_come_61 ⟨Nat.le_of_ble_eq_true rfl, Nat.le_of_ble_eq_true rfl⟩) (fun H locs hR => ?_)
      refine hp_bn h (fun σ h16 h => ?_)
      refine hp_cv hR (hp_runV (rest := []) (As := [.int x1, .int v15]) hX hR (c_Mo_logs h16) cs_X11_151 rfl rfl rfl hd_Mo_logs ⟨Nat.le_of_ble_eq_true rfl, Nat.le_of_ble_eq_true rfl⟩ (ci := 10) rfl (hp_own_is h16) rfl hl.1 rfl (Nat.le_of_ble_eq_true rfl) dX11_come_64 ⟨Nat.le_of_ble_eq_true rfl, Nat.le_of_ble_eq_true rfl⟩) (fun H locs hR => ?_)
      refine lv_iinc (v := (x4 + 1)) (lv' := [(4, .int (x4 + 1)), (0, .ref a0), (1, .int x1), (2, .int x2), (3, .int x3)]) hx hb dX11_come_67 hl (k := 4) rfl rfl (by decide) rfl (fun ls hl => ?_)
      refine lv_goto (tgt := 46) hx hb dX11_come_70 (by decide) ?_
      exact ih _ _ _ _ _ hR h (lv_sub hl [1, 2, 3, 4, 0] rfl)
set_option maxHeartbeats 4000000 in
set_option maxRecDepth 100000 in
theorem c_Mo_come {l : Launch} {G : hp_G} {b : Nat} {σ : hp_H} {a0 : Nat} {x1 : Int32} {x2 : Int32} {r : Int32} {σ' : hp_H} (h : f_Mo_come a0 x1 x2 σ = some (r, σ')) : hp_Met l yX11_come cX11_come 5 (some .int) rm_Mo_come G b [.ref a0, .int x1, .int x2] σ (some (.int r)) σ' 0 0 := by
  refine hp_met (by decide +kernel) (Nat.le_of_ble_eq_true rfl) (fun p e s m below meth c ls hX hlocks hr hnm hl hR => ?_)
  obtain ⟨hx, hb, hml, hown, hts⟩ := id hX.1
  have hl : lv_has ls 5 [(0, .ref a0), (1, .int x1), (2, .int x2)] := hl
  unfold f_Mo_come at h
  have h := hp_own_to h
  refine lv_aload_n hx hb dX11_come_0 rfl (lv_at hl 0 rfl) ?_
  refine lv_iload_n hx hb dX11_come_1 rfl (lv_at hl 1 rfl) ?_
  refine hp_bn h (fun v2 h1 h => ?_)
  refine hp_ci hR (hp_runV (rest := []) (As := [.int x1]) hX hR (c_Mo_isClient h1) cs_X11_163 rfl rfl rfl hd_Mo_isClient ⟨Nat.le_of_ble_eq_true rfl, Nat.le_of_ble_eq_true rfl⟩ (ci := 10) rfl (hp_own_is h1) rfl hl.1 rfl (Nat.le_of_ble_eq_true rfl) dX11_come_2 ⟨Nat.le_of_ble_eq_true rfl, Nat.le_of_ble_eq_true rfl⟩) (fun H locs hR => ?_)
  refine lv_if_eq (tgt := 16) hx hb dX11_come_5 (by decide) (fun c3 => ?_) (fun c3 => ?_)
  · have h := hp_ip c3 h
    refine lv_ldc (v := (-1000000001)) hx hb hown (hts _ wq4_89) dX11_come_16 ?_
    exact hp_iret hX hlocks hr hR h dX11_come_18
  · have h := hp_in c3 h
    refine lv_aload_n hx hb dX11_come_8 rfl (lv_at hl 0 rfl) ?_
    refine lv_iload_n hx hb dX11_come_9 rfl (lv_at hl 2 rfl) ?_
    refine hp_bn h (fun v5 h4 h => ?_)
    refine hp_ci hR (hp_runV (rest := []) (As := [.int x2]) hX hR (c_Mo_isBroker h4) cs_X11_45 rfl rfl rfl hd_Mo_isBroker ⟨Nat.le_of_ble_eq_true rfl, Nat.le_of_ble_eq_true rfl⟩ (ci := 10) rfl (hp_own_is h4) rfl hl.1 rfl (Nat.le_of_ble_eq_true rfl) dX11_come_10 ⟨Nat.le_of_ble_eq_true rfl, Nat.le_of_ble_eq_true rfl⟩) (fun H locs hR => ?_)
    refine lv_if_ne (tgt := 19) hx hb dX11_come_13 (by decide) (fun c6 => ?_) (fun c6 => ?_)
    · have h := hp_in c6 h
      refine lv_aload_n hx hb dX11_come_19 rfl (lv_at hl 0 rfl) ?_
      refine lv_iload_n hx hb dX11_come_20 rfl (lv_at hl 1 rfl) ?_
      refine lv_iconst (v := 1) hx hb dX11_come_21 (by decide) ?_
      refine hp_bn h (fun v8 h7 h => ?_)
      refine hp_ci hR (hp_runV (rest := []) (As := [.int x1, .int 1]) hX hR (c_Mo_of h7) cs_X11_90 rfl rfl rfl hd_Mo_of ⟨Nat.le_of_ble_eq_true rfl, Nat.le_of_ble_eq_true rfl⟩ (ci := 10) rfl (hp_own_is h7) rfl hl.1 rfl (Nat.le_of_ble_eq_true rfl) dX11_come_22 ⟨Nat.le_of_ble_eq_true rfl, Nat.le_of_ble_eq_true rfl⟩) (fun H locs hR => ?_)
      refine lv_iconst (v := 1) hx hb dX11_come_25 (by decide) ?_
      refine lv_icmp_ne (tgt := 32) hx hb dX11_come_26 (by decide) (fun c9 => ?_) (fun c9 => ?_)
      · have h := hp_in c9 h
        refine lv_aload_n hx hb dX11_come_32 rfl (lv_at hl 0 rfl) ?_
        refine hp_bn h (fun σ h10 h => ?_)
        refine hp_cv hR (hp_runV (rest := []) (As := []) hX hR (c_Mo_deed h10) cs_X11_198 rfl rfl rfl hd_Mo_deed ⟨Nat.le_of_ble_eq_true rfl, Nat.le_of_ble_eq_true rfl⟩ (ci := 10) rfl (hp_own_is h10) rfl hl.1 rfl (Nat.le_of_ble_eq_true rfl) dX11_come_33 ⟨Nat.le_of_ble_eq_true rfl, Nat.le_of_ble_eq_true rfl⟩) (fun H locs hR => ?_)
        refine lv_aload_n hx hb dX11_come_36 rfl (lv_at hl 0 rfl) ?_
        refine lv_iload_n hx hb dX11_come_37 rfl (lv_at hl 1 rfl) ?_
        refine lv_iconst (v := 4) hx hb dX11_come_38 (by decide) ?_
        refine hp_bn h (fun v12 h11 h => ?_)
        refine hp_ci hR (hp_runV (rest := []) (As := [.int x1, .int 4]) hX hR (c_Mo_of h11) cs_X11_90 rfl rfl rfl hd_Mo_of ⟨Nat.le_of_ble_eq_true rfl, Nat.le_of_ble_eq_true rfl⟩ (ci := 10) rfl (hp_own_is h11) rfl hl.1 rfl (Nat.le_of_ble_eq_true rfl) dX11_come_39 ⟨Nat.le_of_ble_eq_true rfl, Nat.le_of_ble_eq_true rfl⟩) (fun H locs hR => ?_)
        refine lv_istore_n (lv' := [(3, .int v12), (0, .ref a0), (1, .int x1), (2, .int x2)]) hx hb dX11_come_42 rfl hl (by decide) rfl (fun ls hl => ?_)
        refine lv_iconst (v := 0) hx hb dX11_come_43 (by decide) ?_
        refine lv_istore (lv' := [(4, .int 0), (3, .int v12), (0, .ref a0), (1, .int x1), (2, .int x2)]) hx hb dX11_come_44 hl (by decide) rfl (fun ls hl => ?_)
        refine w_Mo_come_l1 hX hlocks hr ?_ hp_F _ _ _ _ _ hR h (lv_sub hl [2, 3, 4, 1, 0] rfl)
        intro z17 σ H locs ls hR hl h
        refine lv_aload_n hx hb dX11_come_73 rfl (lv_at hl 0 rfl) ?_
        refine lv_iload_n hx hb dX11_come_74 rfl (lv_at hl 1 rfl) ?_
        refine lv_iconst (v := 4) hx hb dX11_come_75 (by decide) ?_
        refine lv_iconst (v := 0) hx hb dX11_come_76 (by decide) ?_
        refine hp_bn h (fun σ h18 h => ?_)
        refine hp_cv hR (hp_runV (rest := []) (As := [.int x1, .int 4, .int 0]) hX hR (c_Mo_sets h18) cs_X11_143 rfl rfl rfl hd_Mo_sets ⟨Nat.le_of_ble_eq_true rfl, Nat.le_of_ble_eq_true rfl⟩ (ci := 10) rfl (hp_own_is h18) rfl hl.1 rfl (Nat.le_of_ble_eq_true rfl) dX11_come_77 ⟨Nat.le_of_ble_eq_true rfl, Nat.le_of_ble_eq_true rfl⟩) (fun H locs hR => ?_)
        refine lv_aload_n hx hb dX11_come_80 rfl (lv_at hl 0 rfl) ?_
        refine lv_iload_n hx hb dX11_come_81 rfl (lv_at hl 1 rfl) ?_
        refine lv_iconst (v := 0) hx hb dX11_come_82 (by decide) ?_
        refine lv_iload_n hx hb dX11_come_83 rfl (lv_at hl 2 rfl) ?_
        refine hp_bn h (fun σ h19 h => ?_)
        refine hp_cv hR (hp_runV (rest := []) (As := [.int x1, .int 0, .int x2]) hX hR (c_Mo_sets h19) cs_X11_143 rfl rfl rfl hd_Mo_sets ⟨Nat.le_of_ble_eq_true rfl, Nat.le_of_ble_eq_true rfl⟩ (ci := 10) rfl (hp_own_is h19) rfl hl.1 rfl (Nat.le_of_ble_eq_true rfl) dX11_come_84 ⟨Nat.le_of_ble_eq_true rfl, Nat.le_of_ble_eq_true rfl⟩) (fun H locs hR => ?_)
        refine lv_aload_n hx hb dX11_come_87 rfl (lv_at hl 0 rfl) ?_
        refine lv_iload_n hx hb dX11_come_88 rfl (lv_at hl 1 rfl) ?_
        refine lv_iconst (v := 1) hx hb dX11_come_89 (by decide) ?_
        refine lv_iconst (v := 1) hx hb dX11_come_90 (by decide) ?_
        refine hp_bn h (fun σ h20 h => ?_)
        refine hp_cv hR (hp_runV (rest := []) (As := [.int x1, .int 1, .int 1]) hX hR (c_Mo_sets h20) cs_X11_143 rfl rfl rfl hd_Mo_sets ⟨Nat.le_of_ble_eq_true rfl, Nat.le_of_ble_eq_true rfl⟩ (ci := 10) rfl (hp_own_is h20) rfl hl.1 rfl (Nat.le_of_ble_eq_true rfl) dX11_come_91 ⟨Nat.le_of_ble_eq_true rfl, Nat.le_of_ble_eq_true rfl⟩) (fun H locs hR => ?_)
        refine lv_iload_n hx hb dX11_come_94 rfl (lv_at hl 3 rfl) ?_
        exact hp_iret hX hlocks hr hR h dX11_come_95
      · have h := hp_ip c9 h
        refine lv_ldc (v := (-1000000003)) hx hb hown (hts _ wq4_211) dX11_come_29 ?_
        exact hp_iret hX hlocks hr hR h dX11_come_31
    · have h := hp_ip c6 h
      refine lv_ldc (v := (-1000000001)) hx hb hown (hts _ wq4_89) dX11_come_16 ?_
      exact hp_iret hX hlocks hr hR h dX11_come_18
/-! Mo.part()I -/
abbrev rm_Mo_part : Room := { frames := 1, cells := 0, slots := 0, locals := 22 }
theorem hd_Mo_part : hp_d yX11_part 0 := by decide +kernel
def f_Mo_part_l1 (a0 : Nat) (K : Int32 → hp_H → Option (Int32 × hp_H)) : Nat → Int32 → hp_H → Option (Int32 × hp_H)
  | 0, _, _ => none
  | n + 1, x1, σ => if x1 < 0 then (K x1 σ) else ((f_Mo_wish a0 x1 0 σ).bind fun v11 => (hp_gR σ a0 10 0).bind fun q12 => (hp_aI σ q12 0 1).bind fun v13 => if v11 = v13 then ((f_Mo_dropsWish a0 x1 σ).bind fun σ => f_Mo_part_l1 a0 K n (x1 + (-1)) σ) else (f_Mo_part_l1 a0 K n (x1 + (-1)) σ))
def f_Mo_part (a0 : Nat) (σ : hp_H) : Option (Int32 × hp_H) := hp_own σ a0 10 ((hp_gR σ a0 10 0).bind fun q1 => (hp_aI σ q1 0 1).bind fun v2 => if v2 = 0 then (some ((-1000000003), σ)) else ((f_Mo_deed a0 σ).bind fun σ => (hp_gR σ a0 10 0).bind fun q5 => (hp_aI σ q5 0 1).bind fun v6 => (hp_sI σ q5 0 1 (v6 - 1)).bind fun σ => (hp_gR σ a0 10 0).bind fun q7 => (hp_aI σ q7 0 2).bind fun v8 => f_Mo_part_l1 a0 (fun z16 σ => (hp_gR σ a0 10 0).bind fun q17 => (hp_aI σ q17 0 1).bind fun v18 => some (v18, σ)) hp_F (v8 - 1) σ))
set_option maxHeartbeats 4000000 in
set_option maxRecDepth 100000 in
theorem w_Mo_part_l1 {p : Program} {l : Launch} {e : Env} {s : State} {m : MethodId} {args : Array Value} {below : List Frame} {meth : Method} {c : Code} {G : hp_G} {b : Nat} {a0 : Nat} {r : Int32} {σ' : hp_H} {K : Int32 → hp_H → Option (Int32 × hp_H)} (hX : hp_X G p s m c args cX11_part 2 RX11) (hlocks : meth.locks = false) (hr : meth.sig.returnType = (some .int))
    (hK : ∀ (x1 : Int32) (σ : hp_H) (H : Heap) (locs : List Loc) (ls : Array Slot), hp_R G b s.heap σ H locs → lv_has ls 2 [(0, .ref a0)] → K x1 σ = some (r, σ') → W p l e rm_Mo_part s m args below meth c H locs 0 0 (MQ below (hp_Qc G b (some (.int r)) σ') args s 0 0 (fun q => b ≤ q)) (F0 m 65 ls [])) :
    ∀ (n : Nat) (x1 : Int32) (σ : hp_H) (H : Heap) (locs : List Loc) (ls : Array Slot), hp_R G b s.heap σ H locs → f_Mo_part_l1 a0 K n x1 σ = some (r, σ') → lv_has ls 2 [(0, .ref a0), (1, .int x1)] → W p l e rm_Mo_part s m args below meth c H locs 0 0 (MQ below (hp_Qc G b (some (.int r)) σ') args s 0 0 (fun q => b ≤ q)) (F0 m 35 ls []) := by
  obtain ⟨hx, hb, hml, hown, hts⟩ := id hX.1
  intro n
  induction n with
  | zero =>
    intro x1 σ H locs ls hR h hl
    rw [f_Mo_part_l1] at h
    cases h
  | succ n ih =>
    intro x1 σ H locs ls hR h hl
    rw [f_Mo_part_l1] at h
    refine lv_iload_n hx hb dX11_part_35 rfl (lv_at hl 1 rfl) ?_
    refine lv_if_lt (tgt := 65) hx hb dX11_part_36 (by decide) (fun c9 => ?_) (fun c9 => ?_)
    · have h := hp_ip c9 h
      exact hK _ _ _ _ _ hR (lv_sub hl [0] rfl) h
    · have h := hp_in c9 h
      refine lv_aload_n hx hb dX11_part_39 rfl (lv_at hl 0 rfl) ?_
      refine lv_iload_n hx hb dX11_part_40 rfl (lv_at hl 1 rfl) ?_
      refine lv_iconst (v := 0) hx hb dX11_part_41 (by decide) ?_
      refine hp_bn h (fun v11 h10 h => ?_)
      refine hp_ci hR (hp_runV (rest := []) (As := [.int x1, .int 0]) hX hR (c_Mo_wish h10) cs_X11_87 rfl rfl rfl hd_Mo_wish ⟨Nat.le_of_ble_eq_true rfl, Nat.le_of_ble_eq_true rfl⟩ (ci := 10) rfl (hp_own_is h10) rfl hl.1 rfl (Nat.le_of_ble_eq_true rfl) dX11_part_42 ⟨Nat.le_of_ble_eq_true rfl, Nat.le_of_ble_eq_true rfl⟩) (fun H locs hR => ?_)
      refine lv_aload_n hx hb dX11_part_45 rfl (lv_at hl 0 rfl) ?_
      refine hp_getR hX hR (ci := 10) 0 rfl wf11 (by decide) wq3_167 dX11_part_46 h (fun q12 h => ?_)
      refine lv_iconst (v := 1) hx hb dX11_part_49 (by decide) ?_
      refine hp_iald hX hR dX11_part_50 h (fun v13 h => ?_)
      refine lv_icmp_ne (tgt := 59) hx hb dX11_part_51 (by decide) (fun c14 => ?_) (fun c14 => ?_)
      · have h := hp_in c14 h
        refine lv_iinc (v := (x1 + (-1))) (lv' := [(1, .int (x1 + (-1))), (0, .ref a0)]) hx hb dX11_part_59 hl (k := 1) rfl rfl (by decide) rfl (fun ls hl => ?_)
        refine lv_goto (tgt := 35) hx hb dX11_part_62 (by decide) ?_
        exact ih _ _ _ _ _ hR h (lv_sub hl [1, 0] rfl)
      · have h := hp_ip c14 h
        refine lv_aload_n hx hb dX11_part_54 rfl (lv_at hl 0 rfl) ?_
        refine lv_iload_n hx hb dX11_part_55 rfl (lv_at hl 1 rfl) ?_
        refine hp_bn h (fun σ h15 h => ?_)
        refine hp_cv hR (hp_runV (rest := []) (As := [.int x1]) hX hR (c_Mo_dropsWish h15) cs_X11_207 rfl rfl rfl hd_Mo_dropsWish ⟨Nat.le_of_ble_eq_true rfl, Nat.le_of_ble_eq_true rfl⟩ (ci := 10) rfl (hp_own_is h15) rfl hl.1 rfl (Nat.le_of_ble_eq_true rfl) dX11_part_56 ⟨Nat.le_of_ble_eq_true rfl, Nat.le_of_ble_eq_true rfl⟩) (fun H locs hR => ?_)
        refine lv_iinc (v := (x1 + (-1))) (lv' := [(1, .int (x1 + (-1))), (0, .ref a0)]) hx hb dX11_part_59 hl (k := 1) rfl rfl (by decide) rfl (fun ls hl => ?_)
        refine lv_goto (tgt := 35) hx hb dX11_part_62 (by decide) ?_
        exact ih _ _ _ _ _ hR h (lv_sub hl [1, 0] rfl)
set_option maxHeartbeats 4000000 in
set_option maxRecDepth 100000 in
theorem c_Mo_part {l : Launch} {G : hp_G} {b : Nat} {σ : hp_H} {a0 : Nat} {r : Int32} {σ' : hp_H} (h : f_Mo_part a0 σ = some (r, σ')) : hp_Met l yX11_part cX11_part 2 (some .int) rm_Mo_part G b [.ref a0] σ (some (.int r)) σ' 0 0 := by
  refine hp_met (by decide +kernel) (Nat.le_of_ble_eq_true rfl) (fun p e s m below meth c ls hX hlocks hr hnm hl hR => ?_)
  obtain ⟨hx, hb, hml, hown, hts⟩ := id hX.1
  have hl : lv_has ls 2 [(0, .ref a0)] := hl
  unfold f_Mo_part at h
  have h := hp_own_to h
  refine lv_aload_n hx hb dX11_part_0 rfl (lv_at hl 0 rfl) ?_
  refine hp_getR hX hR (ci := 10) 0 rfl wf11 (by decide) wq3_167 dX11_part_1 h (fun q1 h => ?_)
  refine lv_iconst (v := 1) hx hb dX11_part_4 (by decide) ?_
  refine hp_iald hX hR dX11_part_5 h (fun v2 h => ?_)
  refine lv_if_ne (tgt := 12) hx hb dX11_part_6 (by decide) (fun c3 => ?_) (fun c3 => ?_)
  · have h := hp_in c3 h
    refine lv_aload_n hx hb dX11_part_12 rfl (lv_at hl 0 rfl) ?_
    refine hp_bn h (fun σ h4 h => ?_)
    refine hp_cv hR (hp_runV (rest := []) (As := []) hX hR (c_Mo_deed h4) cs_X11_198 rfl rfl rfl hd_Mo_deed ⟨Nat.le_of_ble_eq_true rfl, Nat.le_of_ble_eq_true rfl⟩ (ci := 10) rfl (hp_own_is h4) rfl hl.1 rfl (Nat.le_of_ble_eq_true rfl) dX11_part_13 ⟨Nat.le_of_ble_eq_true rfl, Nat.le_of_ble_eq_true rfl⟩) (fun H locs hR => ?_)
    refine lv_aload_n hx hb dX11_part_16 rfl (lv_at hl 0 rfl) ?_
    refine hp_getR hX hR (ci := 10) 0 rfl wf11 (by decide) wq3_167 dX11_part_17 h (fun q5 h => ?_)
    refine lv_iconst (v := 1) hx hb dX11_part_20 (by decide) ?_
    refine lv_dup2_11 hx hb dX11_part_21 rfl rfl ?_
    refine hp_iald hX hR dX11_part_22 h (fun v6 h => ?_)
    refine lv_iconst (v := 1) hx hb dX11_part_23 (by decide) ?_
    refine lv_isub hx hb dX11_part_24 ?_
    refine hp_iast hX hR dX11_part_25 h (fun σ H locs h hR => ?_)
    refine lv_aload_n hx hb dX11_part_26 rfl (lv_at hl 0 rfl) ?_
    refine hp_getR hX hR (ci := 10) 0 rfl wf11 (by decide) wq3_167 dX11_part_27 h (fun q7 h => ?_)
    refine lv_iconst (v := 2) hx hb dX11_part_30 (by decide) ?_
    refine hp_iald hX hR dX11_part_31 h (fun v8 h => ?_)
    refine lv_iconst (v := 1) hx hb dX11_part_32 (by decide) ?_
    refine lv_isub hx hb dX11_part_33 ?_
    refine lv_istore_n (lv' := [(1, .int (v8 - 1)), (0, .ref a0)]) hx hb dX11_part_34 rfl hl (by decide) rfl (fun ls hl => ?_)
    refine w_Mo_part_l1 hX hlocks hr ?_ hp_F _ _ _ _ _ hR h (lv_sub hl [1, 0] rfl)
    intro z16 σ H locs ls hR hl h
    refine lv_aload_n hx hb dX11_part_65 rfl (lv_at hl 0 rfl) ?_
    refine hp_getR hX hR (ci := 10) 0 rfl wf11 (by decide) wq3_167 dX11_part_66 h (fun q17 h => ?_)
    refine lv_iconst (v := 1) hx hb dX11_part_69 (by decide) ?_
    refine hp_iald hX hR dX11_part_70 h (fun v18 h => ?_)
    exact hp_iret hX hlocks hr hR h dX11_part_71
  · have h := hp_ip c3 h
    refine lv_ldc (v := (-1000000003)) hx hb hown (hts _ wq4_211) dX11_part_9 ?_
    exact hp_iret hX hlocks hr hR h dX11_part_11
/-! Mo.draws(I)I -/
abbrev rm_Mo_draws : Room := { frames := 0, cells := 0, slots := 0, locals := 0 }
theorem hd_Mo_draws : hp_d yX11_draws 1 := by decide +kernel
def f_Mo_draws (a0 : Nat) (x1 : Int32) (σ : hp_H) : Option (Int32 × hp_H) := hp_own σ a0 10 ((hp_gI σ a0 10 1).bind fun v1 => (hp_pI σ a0 10 1 (((((v1).toInt64 * (1103515245 : Int64)) + (12345 : Int64)) - (((v1).toInt64 * (1103515245 : Int64)) + (12345 : Int64)) / (2147483648 : Int64) * (2147483648 : Int64))).toInt32).bind fun σ => (hp_gI σ a0 10 1).bind fun v2 => hp_nz x1 (some (((v2 / 65536) - (v2 / 65536) / x1 * x1), σ)))
set_option maxHeartbeats 4000000 in
set_option maxRecDepth 100000 in
theorem c_Mo_draws {l : Launch} {G : hp_G} {b : Nat} {σ : hp_H} {a0 : Nat} {x1 : Int32} {r : Int32} {σ' : hp_H} (h : f_Mo_draws a0 x1 σ = some (r, σ')) : hp_Met l yX11_draws cX11_draws 2 (some .int) rm_Mo_draws G b [.ref a0, .int x1] σ (some (.int r)) σ' 0 0 := by
  refine hp_met (by decide +kernel) (Nat.le_of_ble_eq_true rfl) (fun p e s m below meth c ls hX hlocks hr hnm hl hR => ?_)
  obtain ⟨hx, hb, hml, hown, hts⟩ := id hX.1
  have hl : lv_has ls 2 [(0, .ref a0), (1, .int x1)] := hl
  unfold f_Mo_draws at h
  have h := hp_own_to h
  refine lv_aload_n hx hb dX11_draws_0 rfl (lv_at hl 0 rfl) ?_
  refine lv_aload_n hx hb dX11_draws_1 rfl (lv_at hl 0 rfl) ?_
  refine hp_getI hX hR (ci := 10) 1 rfl wf11 (by decide) wq3_168 dX11_draws_2 h (fun v1 h => ?_)
  refine lv_i2l (v := (v1).toInt64) hx hb dX11_draws_5 rfl ?_
  refine lv_ldc2 (v := 1103515245) hx hb hown (hts _ wq4_228) dX11_draws_6 ?_
  refine lv_lmul hx hb dX11_draws_9 ?_
  refine lv_ldc2 (v := 12345) hx hb hown (hts _ wq4_229) dX11_draws_10 ?_
  refine lv_ladd hx hb dX11_draws_13 ?_
  refine lv_ldc2 (v := 2147483648) hx hb hown (hts _ wq4_230) dX11_draws_14 ?_
  refine lv_lrem hx hb dX11_draws_17 (by decide) ?_
  refine lv_l2i (v := (((((v1).toInt64 * (1103515245 : Int64)) + (12345 : Int64)) - (((v1).toInt64 * (1103515245 : Int64)) + (12345 : Int64)) / (2147483648 : Int64) * (2147483648 : Int64))).toInt32) hx hb dX11_draws_18 rfl ?_
  refine hp_putI hX hR (ci := 10) 1 rfl wf11 tyX11_ok nmX11 (by decide) wq3_168 rfl dX11_draws_19 rfl h (fun σ H locs h hR => ?_)
  refine lv_aload_n hx hb dX11_draws_22 rfl (lv_at hl 0 rfl) ?_
  refine hp_getI hX hR (ci := 10) 1 rfl wf11 (by decide) wq3_168 dX11_draws_23 h (fun v2 h => ?_)
  refine lv_ldc (v := 65536) hx hb hown (hts _ wq4_231) dX11_draws_26 ?_
  refine lv_idiv hx hb dX11_draws_28 (by decide) ?_
  refine lv_iload_n hx hb dX11_draws_29 rfl (lv_at hl 1 rfl) ?_
  obtain ⟨hz3, h⟩ := hp_nz_to h
  refine lv_irem hx hb dX11_draws_30 hz3 ?_
  exact hp_iret hX hlocks hr hR h dX11_draws_31
theorem cs_X11_222 : hp_WV RX11 222 RX11 yX11_draws cX11_draws 2 (some .int) := ⟨wq4_224, wq4_226, wp3_12, wq1_11, wq4_227⟩
/-! Mo.drift(I)I -/
abbrev rm_Mo_drift : Room := { frames := 9, cells := 0, slots := 0, locals := 218 }
theorem hd_Mo_drift : hp_d yX11_drift 1 := by decide +kernel
def f_Mo_drift_l1 (a0 : Nat) (x1 : Int32) (K : Int32 → hp_H → Option (Int32 × hp_H)) : Nat → Int32 → hp_H → Option (Int32 × hp_H)
  | 0, _, _ => none
  | n + 1, x2, σ => if x1 ≤ x2 then (K x2 σ) else ((f_Mo_deed a0 σ).bind fun σ => (hp_gR σ a0 10 0).bind fun q6 => (hp_aI σ q6 0 0).bind fun v7 => hp_b (f_Mo_draws a0 v7 σ) fun v9 σ => hp_b (f_Mo_draws a0 10 σ) fun v11 σ => hp_b (f_Mo_draws a0 10 σ) fun v13 σ => hp_b (f_Mo_draws a0 10 σ) fun v15 σ => hp_b (f_Mo_puts a0 v9 v11 v13 v15 σ) fun v17 σ => f_Mo_drift_l1 a0 x1 K n (x2 + 1) σ)
def f_Mo_drift (a0 : Nat) (x1 : Int32) (σ : hp_H) : Option (Int32 × hp_H) := hp_own σ a0 10 ((f_Mo_in x1 1 8).bind fun v2 => if v2 = 0 then (some ((-1000000002), σ)) else (f_Mo_drift_l1 a0 x1 (fun z18 σ => (hp_gR σ a0 10 0).bind fun q19 => (hp_aI σ q19 0 4).bind fun v20 => some (v20, σ)) hp_F 0 σ))
set_option maxHeartbeats 4000000 in
set_option maxRecDepth 100000 in
theorem w_Mo_drift_l1 {p : Program} {l : Launch} {e : Env} {s : State} {m : MethodId} {args : Array Value} {below : List Frame} {meth : Method} {c : Code} {G : hp_G} {b : Nat} {a0 : Nat} {x1 : Int32} {r : Int32} {σ' : hp_H} {K : Int32 → hp_H → Option (Int32 × hp_H)} (hX : hp_X G p s m c args cX11_drift 7 RX11) (hlocks : meth.locks = false) (hr : meth.sig.returnType = (some .int))
    (hK : ∀ (x2 : Int32) (σ : hp_H) (H : Heap) (locs : List Loc) (ls : Array Slot), hp_R G b s.heap σ H locs → lv_has ls 7 [(0, .ref a0)] → K x2 σ = some (r, σ') → W p l e rm_Mo_drift s m args below meth c H locs 0 0 (MQ below (hp_Qc G b (some (.int r)) σ') args s 0 0 (fun q => b ≤ q)) (F0 m 77 ls [])) :
    ∀ (n : Nat) (x2 : Int32) (σ : hp_H) (H : Heap) (locs : List Loc) (ls : Array Slot), hp_R G b s.heap σ H locs → f_Mo_drift_l1 a0 x1 K n x2 σ = some (r, σ') → lv_has ls 7 [(0, .ref a0), (1, .int x1), (2, .int x2)] → W p l e rm_Mo_drift s m args below meth c H locs 0 0 (MQ below (hp_Qc G b (some (.int r)) σ') args s 0 0 (fun q => b ≤ q)) (F0 m 15 ls []) := by
  obtain ⟨hx, hb, hml, hown, hts⟩ := id hX.1
  intro n
  induction n with
  | zero =>
    intro x2 σ H locs ls hR h hl
    rw [f_Mo_drift_l1] at h
    cases h
  | succ n ih =>
    intro x2 σ H locs ls hR h hl
    rw [f_Mo_drift_l1] at h
    refine lv_iload_n hx hb dX11_drift_15 rfl (lv_at hl 2 rfl) ?_
    refine lv_iload_n hx hb dX11_drift_16 rfl (lv_at hl 1 rfl) ?_
    refine lv_icmp_ge (tgt := 77) hx hb dX11_drift_17 (by decide) (fun c4 => ?_) (fun c4 => ?_)
    · have h := hp_ip c4 h
      exact hK _ _ _ _ _ hR (lv_sub hl [0] rfl) h
    · have h := hp_in c4 h
      refine lv_aload_n hx hb dX11_drift_20 rfl (lv_at hl 0 rfl) ?_
      refine hp_bn h (fun σ h5 h => ?_)
      refine hp_cv hR (hp_runV (rest := []) (As := []) hX hR (c_Mo_deed h5) cs_X11_198 rfl rfl rfl hd_Mo_deed ⟨Nat.le_of_ble_eq_true rfl, Nat.le_of_ble_eq_true rfl⟩ (ci := 10) rfl (hp_own_is h5) rfl hl.1 rfl (Nat.le_of_ble_eq_true rfl) dX11_drift_21 ⟨Nat.le_of_ble_eq_true rfl, Nat.le_of_ble_eq_true rfl⟩) (fun H locs hR => ?_)
      refine lv_aload_n hx hb dX11_drift_24 rfl (lv_at hl 0 rfl) ?_
      refine lv_aload_n hx hb dX11_drift_25 rfl (lv_at hl 0 rfl) ?_
      refine hp_getR hX hR (ci := 10) 0 rfl wf11 (by decide) wq3_167 dX11_drift_26 h (fun q6 h => ?_)
      refine lv_iconst (v := 0) hx hb dX11_drift_29 (by decide) ?_
      refine hp_iald hX hR dX11_drift_30 h (fun v7 h => ?_)
      refine hp_b2 h (fun v9 σ h8 h => ?_)
      refine hp_ci hR (hp_runV (rest := []) (As := [.int v7]) hX hR (c_Mo_draws h8) cs_X11_222 rfl rfl rfl hd_Mo_draws ⟨Nat.le_of_ble_eq_true rfl, Nat.le_of_ble_eq_true rfl⟩ (ci := 10) rfl (hp_own_is h8) rfl hl.1 rfl (Nat.le_of_ble_eq_true rfl) dX11_drift_31 ⟨Nat.le_of_ble_eq_true rfl, Nat.le_of_ble_eq_true rfl⟩) (fun H locs hR => ?_)
      refine lv_istore_n (lv' := [(3, .int v9), (0, .ref a0), (1, .int x1), (2, .int x2)]) hx hb dX11_drift_34 rfl hl (by decide) rfl (fun ls hl => ?_)
      refine lv_aload_n hx hb dX11_drift_35 rfl (lv_at hl 1 rfl) ?_
      refine lv_bipush (v := 10) hx hb dX11_drift_36 (by decide) ?_
      refine hp_b2 h (fun v11 σ h10 h => ?_)
      refine hp_ci hR (hp_runV (rest := []) (As := [.int 10]) hX hR (c_Mo_draws h10) cs_X11_222 rfl rfl rfl hd_Mo_draws ⟨Nat.le_of_ble_eq_true rfl, Nat.le_of_ble_eq_true rfl⟩ (ci := 10) rfl (hp_own_is h10) rfl hl.1 rfl (Nat.le_of_ble_eq_true rfl) dX11_drift_38 ⟨Nat.le_of_ble_eq_true rfl, Nat.le_of_ble_eq_true rfl⟩) (fun H locs hR => ?_)
      refine lv_istore (lv' := [(4, .int v11), (3, .int v9), (0, .ref a0), (1, .int x1), (2, .int x2)]) hx hb dX11_drift_41 hl (by decide) rfl (fun ls hl => ?_)
      refine lv_aload_n hx hb dX11_drift_43 rfl (lv_at hl 2 rfl) ?_
      refine lv_bipush (v := 10) hx hb dX11_drift_44 (by decide) ?_
      refine hp_b2 h (fun v13 σ h12 h => ?_)
      refine hp_ci hR (hp_runV (rest := []) (As := [.int 10]) hX hR (c_Mo_draws h12) cs_X11_222 rfl rfl rfl hd_Mo_draws ⟨Nat.le_of_ble_eq_true rfl, Nat.le_of_ble_eq_true rfl⟩ (ci := 10) rfl (hp_own_is h12) rfl hl.1 rfl (Nat.le_of_ble_eq_true rfl) dX11_drift_46 ⟨Nat.le_of_ble_eq_true rfl, Nat.le_of_ble_eq_true rfl⟩) (fun H locs hR => ?_)
      refine lv_istore (lv' := [(5, .int v13), (4, .int v11), (3, .int v9), (0, .ref a0), (1, .int x1), (2, .int x2)]) hx hb dX11_drift_49 hl (by decide) rfl (fun ls hl => ?_)
      refine lv_aload_n hx hb dX11_drift_51 rfl (lv_at hl 3 rfl) ?_
      refine lv_bipush (v := 10) hx hb dX11_drift_52 (by decide) ?_
      refine hp_b2 h (fun v15 σ h14 h => ?_)
      refine hp_ci hR (hp_runV (rest := []) (As := [.int 10]) hX hR (c_Mo_draws h14) cs_X11_222 rfl rfl rfl hd_Mo_draws ⟨Nat.le_of_ble_eq_true rfl, Nat.le_of_ble_eq_true rfl⟩ (ci := 10) rfl (hp_own_is h14) rfl hl.1 rfl (Nat.le_of_ble_eq_true rfl) dX11_drift_54 ⟨Nat.le_of_ble_eq_true rfl, Nat.le_of_ble_eq_true rfl⟩) (fun H locs hR => ?_)
      refine lv_istore (lv' := [(6, .int v15), (5, .int v13), (4, .int v11), (3, .int v9), (0, .ref a0), (1, .int x1), (2, .int x2)]) hx hb dX11_drift_57 hl (by decide) rfl (fun ls hl => ?_)
      refine lv_aload_n hx hb dX11_drift_59 rfl (lv_at hl 4 rfl) ?_
      refine lv_iload_n hx hb dX11_drift_60 rfl (lv_at hl 3 rfl) ?_
      refine lv_iload hx hb dX11_drift_61 (lv_at hl 2 rfl) ?_
      refine lv_iload hx hb dX11_drift_63 (lv_at hl 1 rfl) ?_
      refine lv_iload hx hb dX11_drift_65 (lv_at hl 0 rfl) ?_
      refine hp_b2 h (fun v17 σ h16 h => ?_)
      refine hp_ci hR (hp_runV (rest := []) (As := [.int v9, .int v11, .int v13, .int v15]) hX hR (c_Mo_puts h16) cs_X11_210 rfl rfl rfl hd_Mo_puts ⟨Nat.le_of_ble_eq_true rfl, Nat.le_of_ble_eq_true rfl⟩ (ci := 10) rfl (hp_own_is h16) rfl hl.1 rfl (Nat.le_of_ble_eq_true rfl) dX11_drift_67 ⟨Nat.le_of_ble_eq_true rfl, Nat.le_of_ble_eq_true rfl⟩) (fun H locs hR => ?_)
      refine lv_pop hx hb dX11_drift_70 rfl ?_
      refine lv_iinc (v := (x2 + 1)) (lv' := [(2, .int (x2 + 1)), (6, .int v15), (5, .int v13), (4, .int v11), (3, .int v9), (0, .ref a0), (1, .int x1)]) hx hb dX11_drift_71 hl (k := 6) rfl rfl (by decide) rfl (fun ls hl => ?_)
      refine lv_goto (tgt := 15) hx hb dX11_drift_74 (by decide) ?_
      exact ih _ _ _ _ _ hR h (lv_sub hl [5, 6, 0] rfl)
set_option maxHeartbeats 4000000 in
set_option maxRecDepth 100000 in
theorem c_Mo_drift {l : Launch} {G : hp_G} {b : Nat} {σ : hp_H} {a0 : Nat} {x1 : Int32} {r : Int32} {σ' : hp_H} (h : f_Mo_drift a0 x1 σ = some (r, σ')) : hp_Met l yX11_drift cX11_drift 7 (some .int) rm_Mo_drift G b [.ref a0, .int x1] σ (some (.int r)) σ' 0 0 := by
  refine hp_met (by decide +kernel) (Nat.le_of_ble_eq_true rfl) (fun p e s m below meth c ls hX hlocks hr hnm hl hR => ?_)
  obtain ⟨hx, hb, hml, hown, hts⟩ := id hX.1
  have hl : lv_has ls 7 [(0, .ref a0), (1, .int x1)] := hl
  unfold f_Mo_drift at h
  have h := hp_own_to h
  refine lv_iload_n hx hb dX11_drift_0 rfl (lv_at hl 1 rfl) ?_
  refine lv_iconst (v := 1) hx hb dX11_drift_1 (by decide) ?_
  refine lv_bipush (v := 8) hx hb dX11_drift_2 (by decide) ?_
  refine hp_bn h (fun v2 h1 h => ?_)
  refine hp_ci hR (hp_runS (rest := []) (As := [.int x1, .int 1, .int 8]) hX hR (c_Mo_in h1) cs_X11_41 rfl rfl hd_Mo_in ⟨Nat.le_of_ble_eq_true rfl, Nat.le_of_ble_eq_true rfl⟩ rfl hl.1 rfl (Nat.le_of_ble_eq_true rfl) dX11_drift_4 ⟨Nat.le_of_ble_eq_true rfl, Nat.le_of_ble_eq_true rfl⟩) (fun H locs hR => ?_)
  refine lv_if_ne (tgt := 13) hx hb dX11_drift_7 (by decide) (fun c3 => ?_) (fun c3 => ?_)
  · have h := hp_in c3 h
    refine lv_iconst (v := 0) hx hb dX11_drift_13 (by decide) ?_
    refine lv_istore_n (lv' := [(2, .int 0), (0, .ref a0), (1, .int x1)]) hx hb dX11_drift_14 rfl hl (by decide) rfl (fun ls hl => ?_)
    refine w_Mo_drift_l1 hX hlocks hr ?_ hp_F _ _ _ _ _ hR h (lv_sub hl [1, 2, 0] rfl)
    intro z18 σ H locs ls hR hl h
    refine lv_aload_n hx hb dX11_drift_77 rfl (lv_at hl 0 rfl) ?_
    refine hp_getR hX hR (ci := 10) 0 rfl wf11 (by decide) wq3_167 dX11_drift_78 h (fun q19 h => ?_)
    refine lv_iconst (v := 4) hx hb dX11_drift_81 (by decide) ?_
    refine hp_iald hX hR dX11_drift_82 h (fun v20 h => ?_)
    exact hp_iret hX hlocks hr hR h dX11_drift_83
  · have h := hp_ip c3 h
    refine lv_ldc (v := (-1000000002)) hx hb hown (hts _ wq4_84) dX11_drift_10 ?_
    exact hp_iret hX hlocks hr hR h dX11_drift_12
/-! Mo.undo(I)I -/
abbrev rm_Mo_undo : Room := { frames := 1, cells := 0, slots := 0, locals := 22 }
theorem hd_Mo_undo : hp_d yX11_undo 1 := by decide +kernel
def f_Mo_undo_l1 (a0 : Nat) (K : Int32 → hp_H → Option (Int32 × hp_H)) : Nat → Int32 → hp_H → Option (Int32 × hp_H)
  | 0, _, _ => none
  | n + 1, x2, σ => if (256 : Int32) ≤ x2 then (K x2 σ) else ((hp_gR σ a0 10 0).bind fun q8 => (hp_gR σ a0 10 2).bind fun q9 => (hp_gI σ a0 10 3).bind fun v10 => (hp_aI σ q9 0 (((256 : Int32) * v10) + x2)).bind fun v11 => (hp_sI σ q8 0 x2 v11).bind fun σ => f_Mo_undo_l1 a0 K n (x2 + 1) σ)
def f_Mo_undo (a0 : Nat) (x1 : Int32) (σ : hp_H) : Option (Int32 × hp_H) := hp_own σ a0 10 ((f_Mo_in x1 1 16).bind fun v2 => if v2 = 0 then (some ((-1000000002), σ)) else ((hp_gI σ a0 10 3).bind fun v4 => if x1 ≤ v4 then ((hp_gI σ a0 10 3).bind fun v6 => (hp_pI σ a0 10 3 (v6 - x1)).bind fun σ => f_Mo_undo_l1 a0 (fun z12 σ => (hp_pZ σ a0 10 11 0).bind fun σ => (hp_gI σ a0 10 3).bind fun v13 => some (v13, σ)) hp_F 0 σ) else (some ((-1000000003), σ))))
set_option maxHeartbeats 4000000 in
set_option maxRecDepth 100000 in
theorem w_Mo_undo_l1 {p : Program} {l : Launch} {e : Env} {s : State} {m : MethodId} {args : Array Value} {below : List Frame} {meth : Method} {c : Code} {G : hp_G} {b : Nat} {a0 : Nat} {r : Int32} {σ' : hp_H} {K : Int32 → hp_H → Option (Int32 × hp_H)} (hX : hp_X G p s m c args cX11_undo 3 RX11) (hlocks : meth.locks = false) (hr : meth.sig.returnType = (some .int))
    (hK : ∀ (x2 : Int32) (σ : hp_H) (H : Heap) (locs : List Loc) (ls : Array Slot), hp_R G b s.heap σ H locs → lv_has ls 3 [(0, .ref a0)] → K x2 σ = some (r, σ') → W p l e rm_Mo_undo s m args below meth c H locs 0 0 (MQ below (hp_Qc G b (some (.int r)) σ') args s 0 0 (fun q => b ≤ q)) (F0 m 70 ls [])) :
    ∀ (n : Nat) (x2 : Int32) (σ : hp_H) (H : Heap) (locs : List Loc) (ls : Array Slot), hp_R G b s.heap σ H locs → f_Mo_undo_l1 a0 K n x2 σ = some (r, σ') → lv_has ls 3 [(0, .ref a0), (2, .int x2)] → W p l e rm_Mo_undo s m args below meth c H locs 0 0 (MQ below (hp_Qc G b (some (.int r)) σ') args s 0 0 (fun q => b ≤ q)) (F0 m 36 ls []) := by
  obtain ⟨hx, hb, hml, hown, hts⟩ := id hX.1
  intro n
  induction n with
  | zero =>
    intro x2 σ H locs ls hR h hl
    rw [f_Mo_undo_l1] at h
    cases h
  | succ n ih =>
    intro x2 σ H locs ls hR h hl
    rw [f_Mo_undo_l1] at h
    refine lv_iload_n hx hb dX11_undo_36 rfl (lv_at hl 1 rfl) ?_
    refine lv_sipush (v := 256) hx hb dX11_undo_37 (by decide) ?_
    refine lv_icmp_ge (tgt := 70) hx hb dX11_undo_40 (by decide) (fun c7 => ?_) (fun c7 => ?_)
    · have h := hp_ip c7 h
      exact hK _ _ _ _ _ hR (lv_sub hl [0] rfl) h
    · have h := hp_in c7 h
      refine lv_aload_n hx hb dX11_undo_43 rfl (lv_at hl 0 rfl) ?_
      refine hp_getR hX hR (ci := 10) 0 rfl wf11 (by decide) wq3_167 dX11_undo_44 h (fun q8 h => ?_)
      refine lv_iload_n hx hb dX11_undo_47 rfl (lv_at hl 1 rfl) ?_
      refine lv_aload_n hx hb dX11_undo_48 rfl (lv_at hl 0 rfl) ?_
      refine hp_getR hX hR (ci := 10) 2 rfl wf11 (by decide) wq3_169 dX11_undo_49 h (fun q9 h => ?_)
      refine lv_sipush (v := 256) hx hb dX11_undo_52 (by decide) ?_
      refine lv_aload_n hx hb dX11_undo_55 rfl (lv_at hl 0 rfl) ?_
      refine hp_getI hX hR (ci := 10) 3 rfl wf11 (by decide) wq3_170 dX11_undo_56 h (fun v10 h => ?_)
      refine lv_imul hx hb dX11_undo_59 ?_
      refine lv_iload_n hx hb dX11_undo_60 rfl (lv_at hl 1 rfl) ?_
      refine lv_iadd hx hb dX11_undo_61 ?_
      refine hp_iald hX hR dX11_undo_62 h (fun v11 h => ?_)
      refine hp_iast hX hR dX11_undo_63 h (fun σ H locs h hR => ?_)
      refine lv_iinc (v := (x2 + 1)) (lv' := [(2, .int (x2 + 1)), (0, .ref a0)]) hx hb dX11_undo_64 hl (k := 1) rfl rfl (by decide) rfl (fun ls hl => ?_)
      refine lv_goto (tgt := 36) hx hb dX11_undo_67 (by decide) ?_
      exact ih _ _ _ _ _ hR h (lv_sub hl [1, 0] rfl)
set_option maxHeartbeats 4000000 in
set_option maxRecDepth 100000 in
theorem c_Mo_undo {l : Launch} {G : hp_G} {b : Nat} {σ : hp_H} {a0 : Nat} {x1 : Int32} {r : Int32} {σ' : hp_H} (h : f_Mo_undo a0 x1 σ = some (r, σ')) : hp_Met l yX11_undo cX11_undo 3 (some .int) rm_Mo_undo G b [.ref a0, .int x1] σ (some (.int r)) σ' 0 0 := by
  refine hp_met (by decide +kernel) (Nat.le_of_ble_eq_true rfl) (fun p e s m below meth c ls hX hlocks hr hnm hl hR => ?_)
  obtain ⟨hx, hb, hml, hown, hts⟩ := id hX.1
  have hl : lv_has ls 3 [(0, .ref a0), (1, .int x1)] := hl
  unfold f_Mo_undo at h
  have h := hp_own_to h
  refine lv_iload_n hx hb dX11_undo_0 rfl (lv_at hl 1 rfl) ?_
  refine lv_iconst (v := 1) hx hb dX11_undo_1 (by decide) ?_
  refine lv_bipush (v := 16) hx hb dX11_undo_2 (by decide) ?_
  refine hp_bn h (fun v2 h1 h => ?_)
  refine hp_ci hR (hp_runS (rest := []) (As := [.int x1, .int 1, .int 16]) hX hR (c_Mo_in h1) cs_X11_41 rfl rfl hd_Mo_in ⟨Nat.le_of_ble_eq_true rfl, Nat.le_of_ble_eq_true rfl⟩ rfl hl.1 rfl (Nat.le_of_ble_eq_true rfl) dX11_undo_4 ⟨Nat.le_of_ble_eq_true rfl, Nat.le_of_ble_eq_true rfl⟩) (fun H locs hR => ?_)
  refine lv_if_ne (tgt := 13) hx hb dX11_undo_7 (by decide) (fun c3 => ?_) (fun c3 => ?_)
  · have h := hp_in c3 h
    refine lv_iload_n hx hb dX11_undo_13 rfl (lv_at hl 1 rfl) ?_
    refine lv_aload_n hx hb dX11_undo_14 rfl (lv_at hl 0 rfl) ?_
    refine hp_getI hX hR (ci := 10) 3 rfl wf11 (by decide) wq3_170 dX11_undo_15 h (fun v4 h => ?_)
    refine lv_icmp_le (tgt := 24) hx hb dX11_undo_18 (by decide) (fun c5 => ?_) (fun c5 => ?_)
    · have h := hp_ip c5 h
      refine lv_aload_n hx hb dX11_undo_24 rfl (lv_at hl 0 rfl) ?_
      refine lv_dup hx hb dX11_undo_25 rfl ?_
      refine hp_getI hX hR (ci := 10) 3 rfl wf11 (by decide) wq3_170 dX11_undo_26 h (fun v6 h => ?_)
      refine lv_iload_n hx hb dX11_undo_29 rfl (lv_at hl 1 rfl) ?_
      refine lv_isub hx hb dX11_undo_30 ?_
      refine hp_putI hX hR (ci := 10) 3 rfl wf11 tyX11_ok nmX11 (by decide) wq3_170 rfl dX11_undo_31 rfl h (fun σ H locs h hR => ?_)
      refine lv_iconst (v := 0) hx hb dX11_undo_34 (by decide) ?_
      refine lv_istore_n (lv' := [(2, .int 0), (0, .ref a0), (1, .int x1)]) hx hb dX11_undo_35 rfl hl (by decide) rfl (fun ls hl => ?_)
      refine w_Mo_undo_l1 hX hlocks hr ?_ hp_F _ _ _ _ _ hR h (lv_sub hl [1, 0] rfl)
      intro z12 σ H locs ls hR hl h
      refine lv_aload_n hx hb dX11_undo_70 rfl (lv_at hl 0 rfl) ?_
      refine lv_iconst (v := 0) hx hb dX11_undo_71 (by decide) ?_
      refine hp_putZ hX hR (ci := 10) 11 rfl wf11 tyX11_ok nmX11 (by decide) wq3_178 rfl dX11_undo_72 rfl h (fun σ H locs h hR => ?_)
      refine lv_aload_n hx hb dX11_undo_75 rfl (lv_at hl 0 rfl) ?_
      refine hp_getI hX hR (ci := 10) 3 rfl wf11 (by decide) wq3_170 dX11_undo_76 h (fun v13 h => ?_)
      exact hp_iret hX hlocks hr hR h dX11_undo_79
    · have h := hp_in c5 h
      refine lv_ldc (v := (-1000000003)) hx hb hown (hts _ wq4_211) dX11_undo_21 ?_
      exact hp_iret hX hlocks hr hR h dX11_undo_23
  · have h := hp_ip c3 h
    refine lv_ldc (v := (-1000000002)) hx hb hown (hts _ wq4_84) dX11_undo_10 ?_
    exact hp_iret hX hlocks hr hR h dX11_undo_12
/-! Mo.write(II)I -/
abbrev rm_Mo_write : Room := { frames := 2, cells := 0, slots := 0, locals := 43 }
theorem hd_Mo_write : hp_d yX11_write 2 := by decide +kernel
def f_Mo_write (a0 : Nat) (x1 : Int32) (x2 : Int32) (σ : hp_H) : Option (Int32 × hp_H) := hp_own σ a0 10 ((f_Mo_isClient a0 x1 σ).bind fun v2 => if v2 = 0 then (some ((-1000000001), σ)) else ((hp_gI σ a0 10 8).bind fun v4 => if v4 = 20 then (some ((-1000000004), σ)) else ((hp_gR σ a0 10 6).bind fun q6 => (hp_gI σ a0 10 8).bind fun v7 => (hp_sI σ q6 0 v7 x1).bind fun σ => (hp_gR σ a0 10 7).bind fun q8 => (hp_gI σ a0 10 8).bind fun v9 => (hp_sI σ q8 0 v9 x2).bind fun σ => (hp_gI σ a0 10 8).bind fun v10 => (hp_pI σ a0 10 8 (v10 + 1)).bind fun σ => (hp_gI σ a0 10 8).bind fun v11 => some (v11, σ))))
set_option maxHeartbeats 4000000 in
set_option maxRecDepth 100000 in
theorem c_Mo_write {l : Launch} {G : hp_G} {b : Nat} {σ : hp_H} {a0 : Nat} {x1 : Int32} {x2 : Int32} {r : Int32} {σ' : hp_H} (h : f_Mo_write a0 x1 x2 σ = some (r, σ')) : hp_Met l yX11_write cX11_write 3 (some .int) rm_Mo_write G b [.ref a0, .int x1, .int x2] σ (some (.int r)) σ' 0 0 := by
  refine hp_met (by decide +kernel) (Nat.le_of_ble_eq_true rfl) (fun p e s m below meth c ls hX hlocks hr hnm hl hR => ?_)
  obtain ⟨hx, hb, hml, hown, hts⟩ := id hX.1
  have hl : lv_has ls 3 [(0, .ref a0), (1, .int x1), (2, .int x2)] := hl
  unfold f_Mo_write at h
  have h := hp_own_to h
  refine lv_aload_n hx hb dX11_write_0 rfl (lv_at hl 0 rfl) ?_
  refine lv_iload_n hx hb dX11_write_1 rfl (lv_at hl 1 rfl) ?_
  refine hp_bn h (fun v2 h1 h => ?_)
  refine hp_ci hR (hp_runV (rest := []) (As := [.int x1]) hX hR (c_Mo_isClient h1) cs_X11_163 rfl rfl rfl hd_Mo_isClient ⟨Nat.le_of_ble_eq_true rfl, Nat.le_of_ble_eq_true rfl⟩ (ci := 10) rfl (hp_own_is h1) rfl hl.1 rfl (Nat.le_of_ble_eq_true rfl) dX11_write_2 ⟨Nat.le_of_ble_eq_true rfl, Nat.le_of_ble_eq_true rfl⟩) (fun H locs hR => ?_)
  refine lv_if_ne (tgt := 11) hx hb dX11_write_5 (by decide) (fun c3 => ?_) (fun c3 => ?_)
  · have h := hp_in c3 h
    refine lv_aload_n hx hb dX11_write_11 rfl (lv_at hl 0 rfl) ?_
    refine hp_getI hX hR (ci := 10) 8 rfl wf11 (by decide) wq3_175 dX11_write_12 h (fun v4 h => ?_)
    refine lv_bipush (v := 20) hx hb dX11_write_15 (by decide) ?_
    refine lv_icmp_ne (tgt := 23) hx hb dX11_write_17 (by decide) (fun c5 => ?_) (fun c5 => ?_)
    · have h := hp_in c5 h
      refine lv_aload_n hx hb dX11_write_23 rfl (lv_at hl 0 rfl) ?_
      refine hp_getR hX hR (ci := 10) 6 rfl wf11 (by decide) wq3_173 dX11_write_24 h (fun q6 h => ?_)
      refine lv_aload_n hx hb dX11_write_27 rfl (lv_at hl 0 rfl) ?_
      refine hp_getI hX hR (ci := 10) 8 rfl wf11 (by decide) wq3_175 dX11_write_28 h (fun v7 h => ?_)
      refine lv_iload_n hx hb dX11_write_31 rfl (lv_at hl 1 rfl) ?_
      refine hp_iast hX hR dX11_write_32 h (fun σ H locs h hR => ?_)
      refine lv_aload_n hx hb dX11_write_33 rfl (lv_at hl 0 rfl) ?_
      refine hp_getR hX hR (ci := 10) 7 rfl wf11 (by decide) wq3_174 dX11_write_34 h (fun q8 h => ?_)
      refine lv_aload_n hx hb dX11_write_37 rfl (lv_at hl 0 rfl) ?_
      refine hp_getI hX hR (ci := 10) 8 rfl wf11 (by decide) wq3_175 dX11_write_38 h (fun v9 h => ?_)
      refine lv_iload_n hx hb dX11_write_41 rfl (lv_at hl 2 rfl) ?_
      refine hp_iast hX hR dX11_write_42 h (fun σ H locs h hR => ?_)
      refine lv_aload_n hx hb dX11_write_43 rfl (lv_at hl 0 rfl) ?_
      refine lv_dup hx hb dX11_write_44 rfl ?_
      refine hp_getI hX hR (ci := 10) 8 rfl wf11 (by decide) wq3_175 dX11_write_45 h (fun v10 h => ?_)
      refine lv_iconst (v := 1) hx hb dX11_write_48 (by decide) ?_
      refine lv_iadd hx hb dX11_write_49 ?_
      refine hp_putI hX hR (ci := 10) 8 rfl wf11 tyX11_ok nmX11 (by decide) wq3_175 rfl dX11_write_50 rfl h (fun σ H locs h hR => ?_)
      refine lv_aload_n hx hb dX11_write_53 rfl (lv_at hl 0 rfl) ?_
      refine hp_getI hX hR (ci := 10) 8 rfl wf11 (by decide) wq3_175 dX11_write_54 h (fun v11 h => ?_)
      exact hp_iret hX hlocks hr hR h dX11_write_57
    · have h := hp_ip c5 h
      refine lv_ldc (v := (-1000000004)) hx hb hown (hts _ wq4_152) dX11_write_20 ?_
      exact hp_iret hX hlocks hr hR h dX11_write_22
  · have h := hp_ip c3 h
    refine lv_ldc (v := (-1000000001)) hx hb hown (hts _ wq4_89) dX11_write_8 ?_
    exact hp_iret hX hlocks hr hR h dX11_write_10
/-! Mo.tear()I -/
abbrev rm_Mo_tear : Room := { frames := 0, cells := 0, slots := 0, locals := 0 }
theorem hd_Mo_tear : hp_d yX11_tear 0 := by decide +kernel
def f_Mo_tear (a0 : Nat) (σ : hp_H) : Option (Int32 × hp_H) := hp_own σ a0 10 ((hp_gI σ a0 10 8).bind fun v1 => (hp_pI σ a0 10 8 0).bind fun σ => some (v1, σ))
set_option maxHeartbeats 4000000 in
set_option maxRecDepth 100000 in
theorem c_Mo_tear {l : Launch} {G : hp_G} {b : Nat} {σ : hp_H} {a0 : Nat} {r : Int32} {σ' : hp_H} (h : f_Mo_tear a0 σ = some (r, σ')) : hp_Met l yX11_tear cX11_tear 2 (some .int) rm_Mo_tear G b [.ref a0] σ (some (.int r)) σ' 0 0 := by
  refine hp_met (by decide +kernel) (Nat.le_of_ble_eq_true rfl) (fun p e s m below meth c ls hX hlocks hr hnm hl hR => ?_)
  obtain ⟨hx, hb, hml, hown, hts⟩ := id hX.1
  have hl : lv_has ls 2 [(0, .ref a0)] := hl
  unfold f_Mo_tear at h
  have h := hp_own_to h
  refine lv_aload_n hx hb dX11_tear_0 rfl (lv_at hl 0 rfl) ?_
  refine hp_getI hX hR (ci := 10) 8 rfl wf11 (by decide) wq3_175 dX11_tear_1 h (fun v1 h => ?_)
  refine lv_istore_n (lv' := [(1, .int v1), (0, .ref a0)]) hx hb dX11_tear_4 rfl hl (by decide) rfl (fun ls hl => ?_)
  refine lv_aload_n hx hb dX11_tear_5 rfl (lv_at hl 1 rfl) ?_
  refine lv_iconst (v := 0) hx hb dX11_tear_6 (by decide) ?_
  refine hp_putI hX hR (ci := 10) 8 rfl wf11 tyX11_ok nmX11 (by decide) wq3_175 rfl dX11_tear_7 rfl h (fun σ H locs h hR => ?_)
  refine lv_iload_n hx hb dX11_tear_10 rfl (lv_at hl 0 rfl) ?_
  exact hp_iret hX hlocks hr hR h dX11_tear_11
/-! Mo.seed(I)I -/
abbrev rm_Mo_seed : Room := { frames := 0, cells := 0, slots := 0, locals := 0 }
theorem hd_Mo_seed : hp_d yX11_seed 1 := by decide +kernel
def f_Mo_seed (a0 : Nat) (x1 : Int32) (σ : hp_H) : Option (Int32 × hp_H) := hp_own σ a0 10 (if (0 : Int32) ≤ x1 then ((hp_gI σ a0 10 1).bind fun v2 => (hp_pI σ a0 10 1 x1).bind fun σ => some (v2, σ)) else (some ((-1000000002), σ)))
set_option maxHeartbeats 4000000 in
set_option maxRecDepth 100000 in
theorem c_Mo_seed {l : Launch} {G : hp_G} {b : Nat} {σ : hp_H} {a0 : Nat} {x1 : Int32} {r : Int32} {σ' : hp_H} (h : f_Mo_seed a0 x1 σ = some (r, σ')) : hp_Met l yX11_seed cX11_seed 3 (some .int) rm_Mo_seed G b [.ref a0, .int x1] σ (some (.int r)) σ' 0 0 := by
  refine hp_met (by decide +kernel) (Nat.le_of_ble_eq_true rfl) (fun p e s m below meth c ls hX hlocks hr hnm hl hR => ?_)
  obtain ⟨hx, hb, hml, hown, hts⟩ := id hX.1
  have hl : lv_has ls 3 [(0, .ref a0), (1, .int x1)] := hl
  unfold f_Mo_seed at h
  have h := hp_own_to h
  refine lv_iload_n hx hb dX11_seed_0 rfl (lv_at hl 1 rfl) ?_
  refine lv_if_ge (tgt := 7) hx hb dX11_seed_1 (by decide) (fun c1 => ?_) (fun c1 => ?_)
  · have h := hp_ip c1 h
    refine lv_aload_n hx hb dX11_seed_7 rfl (lv_at hl 0 rfl) ?_
    refine hp_getI hX hR (ci := 10) 1 rfl wf11 (by decide) wq3_168 dX11_seed_8 h (fun v2 h => ?_)
    refine lv_istore_n (lv' := [(2, .int v2), (0, .ref a0), (1, .int x1)]) hx hb dX11_seed_11 rfl hl (by decide) rfl (fun ls hl => ?_)
    refine lv_aload_n hx hb dX11_seed_12 rfl (lv_at hl 1 rfl) ?_
    refine lv_iload_n hx hb dX11_seed_13 rfl (lv_at hl 2 rfl) ?_
    refine hp_putI hX hR (ci := 10) 1 rfl wf11 tyX11_ok nmX11 (by decide) wq3_168 rfl dX11_seed_14 rfl h (fun σ H locs h hR => ?_)
    refine lv_iload_n hx hb dX11_seed_17 rfl (lv_at hl 0 rfl) ?_
    exact hp_iret hX hlocks hr hR h dX11_seed_18
  · have h := hp_in c1 h
    refine lv_ldc (v := (-1000000002)) hx hb hown (hts _ wq4_84) dX11_seed_4 ?_
    exact hp_iret hX hlocks hr hR h dX11_seed_6
/-! Mo.keep(I)I -/
abbrev rm_Mo_keep : Room := { frames := 1, cells := 0, slots := 0, locals := 22 }
theorem hd_Mo_keep : hp_d yX11_keep 1 := by decide +kernel
def f_Mo_keep_l1 (a0 : Nat) (x1 : Int32) (K : Int32 → hp_H → Option (Int32 × hp_H)) : Nat → Int32 → hp_H → Option (Int32 × hp_H)
  | 0, _, _ => none
  | n + 1, x2, σ => if (256 : Int32) ≤ x2 then (K x2 σ) else ((hp_gR σ a0 10 4).bind fun q5 => (hp_gR σ a0 10 0).bind fun q6 => (hp_aI σ q6 0 x2).bind fun v7 => (hp_sI σ q5 0 (((257 : Int32) * x1) + x2) v7).bind fun σ => f_Mo_keep_l1 a0 x1 K n (x2 + 1) σ)
def f_Mo_keep (a0 : Nat) (x1 : Int32) (σ : hp_H) : Option (Int32 × hp_H) := hp_own σ a0 10 ((f_Mo_in x1 0 1).bind fun v2 => if v2 = 0 then (some ((-1000000001), σ)) else (f_Mo_keep_l1 a0 x1 (fun z8 σ => (hp_gR σ a0 10 4).bind fun q9 => (hp_gI σ a0 10 1).bind fun v10 => (hp_sI σ q9 0 (((257 : Int32) * x1) + 256) v10).bind fun σ => (hp_gR σ a0 10 5).bind fun q11 => (hp_sZ σ q11 1 x1 1).bind fun σ => (hp_pI σ a0 10 3 0).bind fun σ => some (1, σ)) hp_F 0 σ))
set_option maxHeartbeats 4000000 in
set_option maxRecDepth 100000 in
theorem w_Mo_keep_l1 {p : Program} {l : Launch} {e : Env} {s : State} {m : MethodId} {args : Array Value} {below : List Frame} {meth : Method} {c : Code} {G : hp_G} {b : Nat} {a0 : Nat} {x1 : Int32} {r : Int32} {σ' : hp_H} {K : Int32 → hp_H → Option (Int32 × hp_H)} (hX : hp_X G p s m c args cX11_keep 3 RX11) (hlocks : meth.locks = false) (hr : meth.sig.returnType = (some .int))
    (hK : ∀ (x2 : Int32) (σ : hp_H) (H : Heap) (locs : List Loc) (ls : Array Slot), hp_R G b s.heap σ H locs → lv_has ls 3 [(0, .ref a0), (1, .int x1)] → K x2 σ = some (r, σ') → W p l e rm_Mo_keep s m args below meth c H locs 0 0 (MQ below (hp_Qc G b (some (.int r)) σ') args s 0 0 (fun q => b ≤ q)) (F0 m 45 ls [])) :
    ∀ (n : Nat) (x2 : Int32) (σ : hp_H) (H : Heap) (locs : List Loc) (ls : Array Slot), hp_R G b s.heap σ H locs → f_Mo_keep_l1 a0 x1 K n x2 σ = some (r, σ') → lv_has ls 3 [(0, .ref a0), (1, .int x1), (2, .int x2)] → W p l e rm_Mo_keep s m args below meth c H locs 0 0 (MQ below (hp_Qc G b (some (.int r)) σ') args s 0 0 (fun q => b ≤ q)) (F0 m 14 ls []) := by
  obtain ⟨hx, hb, hml, hown, hts⟩ := id hX.1
  intro n
  induction n with
  | zero =>
    intro x2 σ H locs ls hR h hl
    rw [f_Mo_keep_l1] at h
    cases h
  | succ n ih =>
    intro x2 σ H locs ls hR h hl
    rw [f_Mo_keep_l1] at h
    refine lv_iload_n hx hb dX11_keep_14 rfl (lv_at hl 2 rfl) ?_
    refine lv_sipush (v := 256) hx hb dX11_keep_15 (by decide) ?_
    refine lv_icmp_ge (tgt := 45) hx hb dX11_keep_18 (by decide) (fun c4 => ?_) (fun c4 => ?_)
    · have h := hp_ip c4 h
      exact hK _ _ _ _ _ hR (lv_sub hl [0, 1] rfl) h
    · have h := hp_in c4 h
      refine lv_aload_n hx hb dX11_keep_21 rfl (lv_at hl 0 rfl) ?_
      refine hp_getR hX hR (ci := 10) 4 rfl wf11 (by decide) wq3_171 dX11_keep_22 h (fun q5 h => ?_)
      refine lv_sipush (v := 257) hx hb dX11_keep_25 (by decide) ?_
      refine lv_iload_n hx hb dX11_keep_28 rfl (lv_at hl 1 rfl) ?_
      refine lv_imul hx hb dX11_keep_29 ?_
      refine lv_iload_n hx hb dX11_keep_30 rfl (lv_at hl 2 rfl) ?_
      refine lv_iadd hx hb dX11_keep_31 ?_
      refine lv_aload_n hx hb dX11_keep_32 rfl (lv_at hl 0 rfl) ?_
      refine hp_getR hX hR (ci := 10) 0 rfl wf11 (by decide) wq3_167 dX11_keep_33 h (fun q6 h => ?_)
      refine lv_iload_n hx hb dX11_keep_36 rfl (lv_at hl 2 rfl) ?_
      refine hp_iald hX hR dX11_keep_37 h (fun v7 h => ?_)
      refine hp_iast hX hR dX11_keep_38 h (fun σ H locs h hR => ?_)
      refine lv_iinc (v := (x2 + 1)) (lv' := [(2, .int (x2 + 1)), (0, .ref a0), (1, .int x1)]) hx hb dX11_keep_39 hl (k := 2) rfl rfl (by decide) rfl (fun ls hl => ?_)
      refine lv_goto (tgt := 14) hx hb dX11_keep_42 (by decide) ?_
      exact ih _ _ _ _ _ hR h (lv_sub hl [1, 2, 0] rfl)
set_option maxHeartbeats 4000000 in
set_option maxRecDepth 100000 in
theorem c_Mo_keep {l : Launch} {G : hp_G} {b : Nat} {σ : hp_H} {a0 : Nat} {x1 : Int32} {r : Int32} {σ' : hp_H} (h : f_Mo_keep a0 x1 σ = some (r, σ')) : hp_Met l yX11_keep cX11_keep 3 (some .int) rm_Mo_keep G b [.ref a0, .int x1] σ (some (.int r)) σ' 0 0 := by
  refine hp_met (by decide +kernel) (Nat.le_of_ble_eq_true rfl) (fun p e s m below meth c ls hX hlocks hr hnm hl hR => ?_)
  obtain ⟨hx, hb, hml, hown, hts⟩ := id hX.1
  have hl : lv_has ls 3 [(0, .ref a0), (1, .int x1)] := hl
  unfold f_Mo_keep at h
  have h := hp_own_to h
  refine lv_iload_n hx hb dX11_keep_0 rfl (lv_at hl 1 rfl) ?_
  refine lv_iconst (v := 0) hx hb dX11_keep_1 (by decide) ?_
  refine lv_iconst (v := 1) hx hb dX11_keep_2 (by decide) ?_
  refine hp_bn h (fun v2 h1 h => ?_)
  refine hp_ci hR (hp_runS (rest := []) (As := [.int x1, .int 0, .int 1]) hX hR (c_Mo_in h1) cs_X11_41 rfl rfl hd_Mo_in ⟨Nat.le_of_ble_eq_true rfl, Nat.le_of_ble_eq_true rfl⟩ rfl hl.1 rfl (Nat.le_of_ble_eq_true rfl) dX11_keep_3 ⟨Nat.le_of_ble_eq_true rfl, Nat.le_of_ble_eq_true rfl⟩) (fun H locs hR => ?_)
  refine lv_if_ne (tgt := 12) hx hb dX11_keep_6 (by decide) (fun c3 => ?_) (fun c3 => ?_)
  · have h := hp_in c3 h
    refine lv_iconst (v := 0) hx hb dX11_keep_12 (by decide) ?_
    refine lv_istore_n (lv' := [(2, .int 0), (0, .ref a0), (1, .int x1)]) hx hb dX11_keep_13 rfl hl (by decide) rfl (fun ls hl => ?_)
    refine w_Mo_keep_l1 hX hlocks hr ?_ hp_F _ _ _ _ _ hR h (lv_sub hl [1, 2, 0] rfl)
    intro z8 σ H locs ls hR hl h
    refine lv_aload_n hx hb dX11_keep_45 rfl (lv_at hl 0 rfl) ?_
    refine hp_getR hX hR (ci := 10) 4 rfl wf11 (by decide) wq3_171 dX11_keep_46 h (fun q9 h => ?_)
    refine lv_sipush (v := 257) hx hb dX11_keep_49 (by decide) ?_
    refine lv_iload_n hx hb dX11_keep_52 rfl (lv_at hl 1 rfl) ?_
    refine lv_imul hx hb dX11_keep_53 ?_
    refine lv_sipush (v := 256) hx hb dX11_keep_54 (by decide) ?_
    refine lv_iadd hx hb dX11_keep_57 ?_
    refine lv_aload_n hx hb dX11_keep_58 rfl (lv_at hl 0 rfl) ?_
    refine hp_getI hX hR (ci := 10) 1 rfl wf11 (by decide) wq3_168 dX11_keep_59 h (fun v10 h => ?_)
    refine hp_iast hX hR dX11_keep_62 h (fun σ H locs h hR => ?_)
    refine lv_aload_n hx hb dX11_keep_63 rfl (lv_at hl 0 rfl) ?_
    refine hp_getR hX hR (ci := 10) 5 rfl wf11 (by decide) wq3_172 dX11_keep_64 h (fun q11 h => ?_)
    refine lv_iload_n hx hb dX11_keep_67 rfl (lv_at hl 1 rfl) ?_
    refine lv_iconst (v := 1) hx hb dX11_keep_68 (by decide) ?_
    refine hp_zast hX hR dX11_keep_69 h (fun σ H locs h hR => ?_)
    refine lv_aload_n hx hb dX11_keep_70 rfl (lv_at hl 0 rfl) ?_
    refine lv_iconst (v := 0) hx hb dX11_keep_71 (by decide) ?_
    refine hp_putI hX hR (ci := 10) 3 rfl wf11 tyX11_ok nmX11 (by decide) wq3_170 rfl dX11_keep_72 rfl h (fun σ H locs h hR => ?_)
    refine lv_iconst (v := 1) hx hb dX11_keep_75 (by decide) ?_
    exact hp_iret hX hlocks hr hR h dX11_keep_76
  · have h := hp_ip c3 h
    refine lv_ldc (v := (-1000000001)) hx hb hown (hts _ wq4_89) dX11_keep_9 ?_
    exact hp_iret hX hlocks hr hR h dX11_keep_11
