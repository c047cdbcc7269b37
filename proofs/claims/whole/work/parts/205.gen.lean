/-! Mo.of(II)I -/
abbrev rm_Mo_of : Room := { frames := 0, cells := 0, slots := 0, locals := 0 }
theorem hd_Mo_of : hp_d yX11_of 2 := by decide +kernel
def f_Mo_of (a0 : Nat) (x1 : Int32) (x2 : Int32) (σ : hp_H) : Option Int32 := hp_own σ a0 10 ((hp_gR σ a0 10 0).bind fun q1 => (hp_aI σ q1 0 (((16 : Int32) + ((25 : Int32) * x1)) + x2)).bind fun v2 => some v2)
set_option maxHeartbeats 4000000 in
set_option maxRecDepth 100000 in
theorem c_Mo_of {l : Launch} {G : hp_G} {b : Nat} {σ : hp_H} {a0 : Nat} {x1 : Int32} {x2 : Int32} {r : Int32} (h : f_Mo_of a0 x1 x2 σ = some r) : hp_Met l yX11_of cX11_of 3 (some .int) rm_Mo_of G b [.ref a0, .int x1, .int x2] σ (some (.int r)) σ 0 0 := by
  refine hp_met (by decide +kernel) (Nat.le_of_ble_eq_true rfl) (fun p e s m below meth c ls hX hlocks hr hnm hl hR => ?_)
  obtain ⟨hx, hb, hml, hown, hts⟩ := id hX.1
  have hl : lv_has ls 3 [(0, .ref a0), (1, .int x1), (2, .int x2)] := hl
  unfold f_Mo_of at h
  have h := hp_own_to h
  refine lv_aload_n hx hb dX11_of_0 rfl (lv_at hl 0 rfl) ?_
  refine hp_getR hX hR (ci := 10) 0 rfl wf11 (by decide) wq3_167 dX11_of_1 h (fun q1 h => ?_)
  refine lv_bipush (v := 16) hx hb dX11_of_4 (by decide) ?_
  refine lv_bipush (v := 25) hx hb dX11_of_6 (by decide) ?_
  refine lv_iload_n hx hb dX11_of_8 rfl (lv_at hl 1 rfl) ?_
  refine lv_imul hx hb dX11_of_9 ?_
  refine lv_iadd hx hb dX11_of_10 ?_
  refine lv_iload_n hx hb dX11_of_11 rfl (lv_at hl 2 rfl) ?_
  refine lv_iadd hx hb dX11_of_12 ?_
  refine hp_iald hX hR dX11_of_13 h (fun v2 h => ?_)
  exact hp_iretP hX hlocks hr hR h dX11_of_14
/-! Mo.sets(III)V -/
abbrev rm_Mo_sets : Room := { frames := 0, cells := 0, slots := 0, locals := 0 }
theorem hd_Mo_sets : hp_d yX11_sets 3 := by decide +kernel
def f_Mo_sets (a0 : Nat) (x1 : Int32) (x2 : Int32) (x3 : Int32) (σ : hp_H) : Option hp_H := hp_own σ a0 10 ((hp_gR σ a0 10 0).bind fun q1 => (hp_sI σ q1 0 (((16 : Int32) + ((25 : Int32) * x1)) + x2) x3).bind fun σ => some σ)
set_option maxHeartbeats 4000000 in
set_option maxRecDepth 100000 in
theorem c_Mo_sets {l : Launch} {G : hp_G} {b : Nat} {σ : hp_H} {a0 : Nat} {x1 : Int32} {x2 : Int32} {x3 : Int32} {σ' : hp_H} (h : f_Mo_sets a0 x1 x2 x3 σ = some σ') : hp_Met l yX11_sets cX11_sets 4 none rm_Mo_sets G b [.ref a0, .int x1, .int x2, .int x3] σ none σ' 0 0 := by
  refine hp_met (by decide +kernel) (Nat.le_of_ble_eq_true rfl) (fun p e s m below meth c ls hX hlocks hr hnm hl hR => ?_)
  obtain ⟨hx, hb, hml, hown, hts⟩ := id hX.1
  have hl : lv_has ls 4 [(0, .ref a0), (1, .int x1), (2, .int x2), (3, .int x3)] := hl
  unfold f_Mo_sets at h
  have h := hp_own_to h
  refine lv_aload_n hx hb dX11_sets_0 rfl (lv_at hl 0 rfl) ?_
  refine hp_getR hX hR (ci := 10) 0 rfl wf11 (by decide) wq3_167 dX11_sets_1 h (fun q1 h => ?_)
  refine lv_bipush (v := 16) hx hb dX11_sets_4 (by decide) ?_
  refine lv_bipush (v := 25) hx hb dX11_sets_6 (by decide) ?_
  refine lv_iload_n hx hb dX11_sets_8 rfl (lv_at hl 1 rfl) ?_
  refine lv_imul hx hb dX11_sets_9 ?_
  refine lv_iadd hx hb dX11_sets_10 ?_
  refine lv_iload_n hx hb dX11_sets_11 rfl (lv_at hl 2 rfl) ?_
  refine lv_iadd hx hb dX11_sets_12 ?_
  refine lv_iload_n hx hb dX11_sets_13 rfl (lv_at hl 3 rfl) ?_
  refine hp_iast hX hR dX11_sets_14 h (fun σ H locs h hR => ?_)
  exact hp_vret hX hlocks hr hR h dX11_sets_15
/-! Mo.wish(II)I -/
abbrev rm_Mo_wish : Room := { frames := 0, cells := 0, slots := 0, locals := 0 }
theorem hd_Mo_wish : hp_d yX11_wish 2 := by decide +kernel
def f_Mo_wish (a0 : Nat) (x1 : Int32) (x2 : Int32) (σ : hp_H) : Option Int32 := hp_own σ a0 10 ((hp_gR σ a0 10 0).bind fun q1 => (hp_aI σ q1 0 (((170 : Int32) + ((7 : Int32) * x1)) + x2)).bind fun v2 => some v2)
set_option maxHeartbeats 4000000 in
set_option maxRecDepth 100000 in
theorem c_Mo_wish {l : Launch} {G : hp_G} {b : Nat} {σ : hp_H} {a0 : Nat} {x1 : Int32} {x2 : Int32} {r : Int32} (h : f_Mo_wish a0 x1 x2 σ = some r) : hp_Met l yX11_wish cX11_wish 3 (some .int) rm_Mo_wish G b [.ref a0, .int x1, .int x2] σ (some (.int r)) σ 0 0 := by
  refine hp_met (by decide +kernel) (Nat.le_of_ble_eq_true rfl) (fun p e s m below meth c ls hX hlocks hr hnm hl hR => ?_)
  obtain ⟨hx, hb, hml, hown, hts⟩ := id hX.1
  have hl : lv_has ls 3 [(0, .ref a0), (1, .int x1), (2, .int x2)] := hl
  unfold f_Mo_wish at h
  have h := hp_own_to h
  refine lv_aload_n hx hb dX11_wish_0 rfl (lv_at hl 0 rfl) ?_
  refine hp_getR hX hR (ci := 10) 0 rfl wf11 (by decide) wq3_167 dX11_wish_1 h (fun q1 h => ?_)
  refine lv_sipush (v := 170) hx hb dX11_wish_4 (by decide) ?_
  refine lv_bipush (v := 7) hx hb dX11_wish_7 (by decide) ?_
  refine lv_iload_n hx hb dX11_wish_9 rfl (lv_at hl 1 rfl) ?_
  refine lv_imul hx hb dX11_wish_10 ?_
  refine lv_iadd hx hb dX11_wish_11 ?_
  refine lv_iload_n hx hb dX11_wish_12 rfl (lv_at hl 2 rfl) ?_
  refine lv_iadd hx hb dX11_wish_13 ?_
  refine hp_iald hX hR dX11_wish_14 h (fun v2 h => ?_)
  exact hp_iretP hX hlocks hr hR h dX11_wish_15
theorem cs_X11_41 : hp_WS RX11 41 yX11_in cX11_in 3 (some .boolean) := ⟨wq4_46, wq4_47, wq1_11, wq4_48⟩
/-! Mo.isBroker(I)Z -/
abbrev rm_Mo_isBroker : Room := { frames := 1, cells := 0, slots := 0, locals := 22 }
theorem hd_Mo_isBroker : hp_d yX11_isBroker 1 := by decide +kernel
def f_Mo_isBroker (a0 : Nat) (x1 : Int32) (σ : hp_H) : Option Int32 := hp_own σ a0 10 ((hp_gR σ a0 10 0).bind fun q1 => (hp_aI σ q1 0 0).bind fun v2 => (f_Mo_in x1 0 (v2 - 1)).bind fun v4 => hp_z v4 (some v4))
set_option maxHeartbeats 4000000 in
set_option maxRecDepth 100000 in
theorem c_Mo_isBroker {l : Launch} {G : hp_G} {b : Nat} {σ : hp_H} {a0 : Nat} {x1 : Int32} {r : Int32} (h : f_Mo_isBroker a0 x1 σ = some r) : hp_Met l yX11_isBroker cX11_isBroker 2 (some .boolean) rm_Mo_isBroker G b [.ref a0, .int x1] σ (some (.int r)) σ 0 0 := by
  refine hp_met (by decide +kernel) (Nat.le_of_ble_eq_true rfl) (fun p e s m below meth c ls hX hlocks hr hnm hl hR => ?_)
  obtain ⟨hx, hb, hml, hown, hts⟩ := id hX.1
  have hl : lv_has ls 2 [(0, .ref a0), (1, .int x1)] := hl
  unfold f_Mo_isBroker at h
  have h := hp_own_to h
  refine lv_iload_n hx hb dX11_isBroker_0 rfl (lv_at hl 1 rfl) ?_
  refine lv_iconst (v := 0) hx hb dX11_isBroker_1 (by decide) ?_
  refine lv_aload_n hx hb dX11_isBroker_2 rfl (lv_at hl 0 rfl) ?_
  refine hp_getR hX hR (ci := 10) 0 rfl wf11 (by decide) wq3_167 dX11_isBroker_3 h (fun q1 h => ?_)
  refine lv_iconst (v := 0) hx hb dX11_isBroker_6 (by decide) ?_
  refine hp_iald hX hR dX11_isBroker_7 h (fun v2 h => ?_)
  refine lv_iconst (v := 1) hx hb dX11_isBroker_8 (by decide) ?_
  refine lv_isub hx hb dX11_isBroker_9 ?_
  refine hp_bn h (fun v4 h3 h => ?_)
  refine hp_ci hR (hp_runS (rest := []) (As := [.int x1, .int 0, .int (v2 - 1)]) hX hR (c_Mo_in h3) cs_X11_41 rfl rfl hd_Mo_in ⟨Nat.le_of_ble_eq_true rfl, Nat.le_of_ble_eq_true rfl⟩ rfl hl.1 rfl (Nat.le_of_ble_eq_true rfl) dX11_isBroker_10 ⟨Nat.le_of_ble_eq_true rfl, Nat.le_of_ble_eq_true rfl⟩) (fun H locs hR => ?_)
  exact hp_zretP hX hlocks hr hR h dX11_isBroker_13
/-! Mo.isClient(I)Z -/
abbrev rm_Mo_isClient : Room := { frames := 1, cells := 0, slots := 0, locals := 22 }
theorem hd_Mo_isClient : hp_d yX11_isClient 1 := by decide +kernel
def f_Mo_isClient (a0 : Nat) (x1 : Int32) (σ : hp_H) : Option Int32 := hp_own σ a0 10 ((hp_gR σ a0 10 0).bind fun q1 => (hp_aI σ q1 0 1).bind fun v2 => (f_Mo_in x1 0 (v2 - 1)).bind fun v4 => hp_z v4 (some v4))
set_option maxHeartbeats 4000000 in
set_option maxRecDepth 100000 in
theorem c_Mo_isClient {l : Launch} {G : hp_G} {b : Nat} {σ : hp_H} {a0 : Nat} {x1 : Int32} {r : Int32} (h : f_Mo_isClient a0 x1 σ = some r) : hp_Met l yX11_isClient cX11_isClient 2 (some .boolean) rm_Mo_isClient G b [.ref a0, .int x1] σ (some (.int r)) σ 0 0 := by
  refine hp_met (by decide +kernel) (Nat.le_of_ble_eq_true rfl) (fun p e s m below meth c ls hX hlocks hr hnm hl hR => ?_)
  obtain ⟨hx, hb, hml, hown, hts⟩ := id hX.1
  have hl : lv_has ls 2 [(0, .ref a0), (1, .int x1)] := hl
  unfold f_Mo_isClient at h
  have h := hp_own_to h
  refine lv_iload_n hx hb dX11_isClient_0 rfl (lv_at hl 1 rfl) ?_
  refine lv_iconst (v := 0) hx hb dX11_isClient_1 (by decide) ?_
  refine lv_aload_n hx hb dX11_isClient_2 rfl (lv_at hl 0 rfl) ?_
  refine hp_getR hX hR (ci := 10) 0 rfl wf11 (by decide) wq3_167 dX11_isClient_3 h (fun q1 h => ?_)
  refine lv_iconst (v := 1) hx hb dX11_isClient_6 (by decide) ?_
  refine hp_iald hX hR dX11_isClient_7 h (fun v2 h => ?_)
  refine lv_iconst (v := 1) hx hb dX11_isClient_8 (by decide) ?_
  refine lv_isub hx hb dX11_isClient_9 ?_
  refine hp_bn h (fun v4 h3 h => ?_)
  refine hp_ci hR (hp_runS (rest := []) (As := [.int x1, .int 0, .int (v2 - 1)]) hX hR (c_Mo_in h3) cs_X11_41 rfl rfl hd_Mo_in ⟨Nat.le_of_ble_eq_true rfl, Nat.le_of_ble_eq_true rfl⟩ rfl hl.1 rfl (Nat.le_of_ble_eq_true rfl) dX11_isClient_10 ⟨Nat.le_of_ble_eq_true rfl, Nat.le_of_ble_eq_true rfl⟩) (fun H locs hR => ?_)
  exact hp_zretP hX hlocks hr hR h dX11_isClient_13
/-! Mo.isWish(I)Z -/
abbrev rm_Mo_isWish : Room := { frames := 1, cells := 0, slots := 0, locals := 22 }
theorem hd_Mo_isWish : hp_d yX11_isWish 1 := by decide +kernel
def f_Mo_isWish (a0 : Nat) (x1 : Int32) (σ : hp_H) : Option Int32 := hp_own σ a0 10 ((hp_gR σ a0 10 0).bind fun q1 => (hp_aI σ q1 0 2).bind fun v2 => (f_Mo_in x1 0 (v2 - 1)).bind fun v4 => hp_z v4 (some v4))
set_option maxHeartbeats 4000000 in
set_option maxRecDepth 100000 in
theorem c_Mo_isWish {l : Launch} {G : hp_G} {b : Nat} {σ : hp_H} {a0 : Nat} {x1 : Int32} {r : Int32} (h : f_Mo_isWish a0 x1 σ = some r) : hp_Met l yX11_isWish cX11_isWish 2 (some .boolean) rm_Mo_isWish G b [.ref a0, .int x1] σ (some (.int r)) σ 0 0 := by
  refine hp_met (by decide +kernel) (Nat.le_of_ble_eq_true rfl) (fun p e s m below meth c ls hX hlocks hr hnm hl hR => ?_)
  obtain ⟨hx, hb, hml, hown, hts⟩ := id hX.1
  have hl : lv_has ls 2 [(0, .ref a0), (1, .int x1)] := hl
  unfold f_Mo_isWish at h
  have h := hp_own_to h
  refine lv_iload_n hx hb dX11_isWish_0 rfl (lv_at hl 1 rfl) ?_
  refine lv_iconst (v := 0) hx hb dX11_isWish_1 (by decide) ?_
  refine lv_aload_n hx hb dX11_isWish_2 rfl (lv_at hl 0 rfl) ?_
  refine hp_getR hX hR (ci := 10) 0 rfl wf11 (by decide) wq3_167 dX11_isWish_3 h (fun q1 h => ?_)
  refine lv_iconst (v := 2) hx hb dX11_isWish_6 (by decide) ?_
  refine hp_iald hX hR dX11_isWish_7 h (fun v2 h => ?_)
  refine lv_iconst (v := 1) hx hb dX11_isWish_8 (by decide) ?_
  refine lv_isub hx hb dX11_isWish_9 ?_
  refine hp_bn h (fun v4 h3 h => ?_)
  refine hp_ci hR (hp_runS (rest := []) (As := [.int x1, .int 0, .int (v2 - 1)]) hX hR (c_Mo_in h3) cs_X11_41 rfl rfl hd_Mo_in ⟨Nat.le_of_ble_eq_true rfl, Nat.le_of_ble_eq_true rfl⟩ rfl hl.1 rfl (Nat.le_of_ble_eq_true rfl) dX11_isWish_10 ⟨Nat.le_of_ble_eq_true rfl, Nat.le_of_ble_eq_true rfl⟩) (fun H locs hR => ?_)
  exact hp_zretP hX hlocks hr hR h dX11_isWish_13
theorem cs_X11_45 : hp_WV RX11 45 RX11 yX11_isBroker cX11_isBroker 2 (some .boolean) := ⟨wq4_42, wq4_44, wp2_5, wq1_11, wq4_45⟩
/-! Mo.areNeighbours(II)Z -/
abbrev rm_Mo_areNeighbours : Room := { frames := 2, cells := 0, slots := 0, locals := 43 }
theorem hd_Mo_areNeighbours : hp_d yX11_areNeighbours 2 := by decide +kernel
def f_Mo_areNeighbours (a0 : Nat) (x1 : Int32) (x2 : Int32) (σ : hp_H) : Option Int32 := hp_own σ a0 10 ((f_Mo_isBroker a0 x1 σ).bind fun v2 => if v2 = 0 then (some 0) else ((f_Mo_isBroker a0 x2 σ).bind fun v5 => if v5 = 0 then (some 0) else ((hp_gR σ a0 10 0).bind fun q7 => (hp_aI σ q7 0 ((8 : Int32) + x1)).bind fun v8 => if v8 = x2 then (some 1) else ((hp_gR σ a0 10 0).bind fun q10 => (hp_aI σ q10 0 ((8 : Int32) + x2)).bind fun v11 => if v11 = x1 then (some 1) else (some 0)))))
set_option maxHeartbeats 4000000 in
set_option maxRecDepth 100000 in
theorem c_Mo_areNeighbours {l : Launch} {G : hp_G} {b : Nat} {σ : hp_H} {a0 : Nat} {x1 : Int32} {x2 : Int32} {r : Int32} (h : f_Mo_areNeighbours a0 x1 x2 σ = some r) : hp_Met l yX11_areNeighbours cX11_areNeighbours 3 (some .boolean) rm_Mo_areNeighbours G b [.ref a0, .int x1, .int x2] σ (some (.int r)) σ 0 0 := by
  refine hp_met (by decide +kernel) (Nat.le_of_ble_eq_true rfl) (fun p e s m below meth c ls hX hlocks hr hnm hl hR => ?_)
  obtain ⟨hx, hb, hml, hown, hts⟩ := id hX.1
  have hl : lv_has ls 3 [(0, .ref a0), (1, .int x1), (2, .int x2)] := hl
  unfold f_Mo_areNeighbours at h
  have h := hp_own_to h
  refine lv_aload_n hx hb dX11_areNeighbours_0 rfl (lv_at hl 0 rfl) ?_
  refine lv_iload_n hx hb dX11_areNeighbours_1 rfl (lv_at hl 1 rfl) ?_
  refine hp_bn h (fun v2 h1 h => ?_)
  refine hp_ci hR (hp_runV (rest := []) (As := [.int x1]) hX hR (c_Mo_isBroker h1) cs_X11_45 rfl rfl rfl hd_Mo_isBroker ⟨Nat.le_of_ble_eq_true rfl, Nat.le_of_ble_eq_true rfl⟩ (ci := 10) rfl (hp_own_is h1) rfl hl.1 rfl (Nat.le_of_ble_eq_true rfl) dX11_areNeighbours_2 ⟨Nat.le_of_ble_eq_true rfl, Nat.le_of_ble_eq_true rfl⟩) (fun H locs hR => ?_)
  refine lv_if_eq (tgt := 46) hx hb dX11_areNeighbours_5 (by decide) (fun c3 => ?_) (fun c3 => ?_)
  · have h := hp_ip c3 h
    refine lv_iconst (v := 0) hx hb dX11_areNeighbours_46 (by decide) ?_
    exact hp_zretLP (by decide) hX hlocks hr hR h dX11_areNeighbours_47
  · have h := hp_in c3 h
    refine lv_aload_n hx hb dX11_areNeighbours_8 rfl (lv_at hl 0 rfl) ?_
    refine lv_iload_n hx hb dX11_areNeighbours_9 rfl (lv_at hl 2 rfl) ?_
    refine hp_bn h (fun v5 h4 h => ?_)
    refine hp_ci hR (hp_runV (rest := []) (As := [.int x2]) hX hR (c_Mo_isBroker h4) cs_X11_45 rfl rfl rfl hd_Mo_isBroker ⟨Nat.le_of_ble_eq_true rfl, Nat.le_of_ble_eq_true rfl⟩ (ci := 10) rfl (hp_own_is h4) rfl hl.1 rfl (Nat.le_of_ble_eq_true rfl) dX11_areNeighbours_10 ⟨Nat.le_of_ble_eq_true rfl, Nat.le_of_ble_eq_true rfl⟩) (fun H locs hR => ?_)
    refine lv_if_eq (tgt := 46) hx hb dX11_areNeighbours_13 (by decide) (fun c6 => ?_) (fun c6 => ?_)
    · have h := hp_ip c6 h
      refine lv_iconst (v := 0) hx hb dX11_areNeighbours_46 (by decide) ?_
      exact hp_zretLP (by decide) hX hlocks hr hR h dX11_areNeighbours_47
    · have h := hp_in c6 h
      refine lv_aload_n hx hb dX11_areNeighbours_16 rfl (lv_at hl 0 rfl) ?_
      refine hp_getR hX hR (ci := 10) 0 rfl wf11 (by decide) wq3_167 dX11_areNeighbours_17 h (fun q7 h => ?_)
      refine lv_bipush (v := 8) hx hb dX11_areNeighbours_20 (by decide) ?_
      refine lv_iload_n hx hb dX11_areNeighbours_22 rfl (lv_at hl 1 rfl) ?_
      refine lv_iadd hx hb dX11_areNeighbours_23 ?_
      refine hp_iald hX hR dX11_areNeighbours_24 h (fun v8 h => ?_)
      refine lv_iload_n hx hb dX11_areNeighbours_25 rfl (lv_at hl 2 rfl) ?_
      refine lv_icmp_eq (tgt := 42) hx hb dX11_areNeighbours_26 (by decide) (fun c9 => ?_) (fun c9 => ?_)
      · have h := hp_ip c9 h
        refine lv_iconst (v := 1) hx hb dX11_areNeighbours_42 (by decide) ?_
        refine lv_goto (tgt := 47) hx hb dX11_areNeighbours_43 (by decide) ?_
        exact hp_zretLP (by decide) hX hlocks hr hR h dX11_areNeighbours_47
      · have h := hp_in c9 h
        refine lv_aload_n hx hb dX11_areNeighbours_29 rfl (lv_at hl 0 rfl) ?_
        refine hp_getR hX hR (ci := 10) 0 rfl wf11 (by decide) wq3_167 dX11_areNeighbours_30 h (fun q10 h => ?_)
        refine lv_bipush (v := 8) hx hb dX11_areNeighbours_33 (by decide) ?_
        refine lv_iload_n hx hb dX11_areNeighbours_35 rfl (lv_at hl 2 rfl) ?_
        refine lv_iadd hx hb dX11_areNeighbours_36 ?_
        refine hp_iald hX hR dX11_areNeighbours_37 h (fun v11 h => ?_)
        refine lv_iload_n hx hb dX11_areNeighbours_38 rfl (lv_at hl 1 rfl) ?_
        refine lv_icmp_ne (tgt := 46) hx hb dX11_areNeighbours_39 (by decide) (fun c12 => ?_) (fun c12 => ?_)
        · have h := hp_in c12 h
          refine lv_iconst (v := 0) hx hb dX11_areNeighbours_46 (by decide) ?_
          exact hp_zretLP (by decide) hX hlocks hr hR h dX11_areNeighbours_47
        · have h := hp_ip c12 h
          refine lv_iconst (v := 1) hx hb dX11_areNeighbours_42 (by decide) ?_
          refine lv_goto (tgt := 47) hx hb dX11_areNeighbours_43 (by decide) ?_
          exact hp_zretLP (by decide) hX hlocks hr hR h dX11_areNeighbours_47
/-! Mo.at(II)I -/
abbrev rm_Mo_at : Room := { frames := 0, cells := 0, slots := 0, locals := 0 }
theorem hd_Mo_at : hp_d yX11_at 2 := by decide +kernel
def f_Mo_at (a0 : Nat) (x1 : Int32) (x2 : Int32) (σ : hp_H) : Option Int32 := hp_own σ a0 10 ((hp_gR σ a0 10 12).bind fun q1 => (hp_aI σ q1 0 (((6 : Int32) * x1) + x2)).bind fun v2 => some v2)
set_option maxHeartbeats 4000000 in
set_option maxRecDepth 100000 in
theorem c_Mo_at {l : Launch} {G : hp_G} {b : Nat} {σ : hp_H} {a0 : Nat} {x1 : Int32} {x2 : Int32} {r : Int32} (h : f_Mo_at a0 x1 x2 σ = some r) : hp_Met l yX11_at cX11_at 3 (some .int) rm_Mo_at G b [.ref a0, .int x1, .int x2] σ (some (.int r)) σ 0 0 := by
  refine hp_met (by decide +kernel) (Nat.le_of_ble_eq_true rfl) (fun p e s m below meth c ls hX hlocks hr hnm hl hR => ?_)
  obtain ⟨hx, hb, hml, hown, hts⟩ := id hX.1
  have hl : lv_has ls 3 [(0, .ref a0), (1, .int x1), (2, .int x2)] := hl
  unfold f_Mo_at at h
  have h := hp_own_to h
  refine lv_aload_n hx hb dX11_at_0 rfl (lv_at hl 0 rfl) ?_
  refine hp_getR hX hR (ci := 10) 12 rfl wf11 (by decide) wq3_179 dX11_at_1 h (fun q1 h => ?_)
  refine lv_bipush (v := 6) hx hb dX11_at_4 (by decide) ?_
  refine lv_iload_n hx hb dX11_at_6 rfl (lv_at hl 1 rfl) ?_
  refine lv_imul hx hb dX11_at_7 ?_
  refine lv_iload_n hx hb dX11_at_8 rfl (lv_at hl 2 rfl) ?_
  refine lv_iadd hx hb dX11_at_9 ?_
  refine hp_iald hX hR dX11_at_10 h (fun v2 h => ?_)
  exact hp_iretP hX hlocks hr hR h dX11_at_11
/-! Mo.spread(II)I -/
abbrev rm_Mo_spread : Room := { frames := 0, cells := 0, slots := 0, locals := 0 }
theorem hd_Mo_spread : hp_d yX11_spread 2 := by decide +kernel
def f_Mo_spread (x0 : Int32) (x1 : Int32) : Option Int32 := if x0 ≤ x1 then (some ((x1 - x0) + 1)) else (some 0)
set_option maxHeartbeats 4000000 in
set_option maxRecDepth 100000 in
theorem c_Mo_spread {l : Launch} {G : hp_G} {b : Nat} {σ : hp_H} {x0 : Int32} {x1 : Int32} {r : Int32} (h : f_Mo_spread x0 x1 = some r) : hp_Met l yX11_spread cX11_spread 2 (some .int) rm_Mo_spread G b [.int x0, .int x1] σ (some (.int r)) σ 0 0 := by
  refine hp_met (by decide +kernel) (Nat.le_of_ble_eq_true rfl) (fun p e s m below meth c ls hX hlocks hr hnm hl hR => ?_)
  obtain ⟨hx, hb, hml, hown, hts⟩ := id hX.1
  have hl : lv_has ls 2 [(0, .int x0), (1, .int x1)] := hl
  unfold f_Mo_spread at h
  refine lv_iload_n hx hb dX11_spread_0 rfl (lv_at hl 1 rfl) ?_
  refine lv_iload_n hx hb dX11_spread_1 rfl (lv_at hl 0 rfl) ?_
  refine lv_icmp_ge (tgt := 9) hx hb dX11_spread_2 (by decide) (fun c1 => ?_) (fun c1 => ?_)
  · have h := hp_ip c1 h
    refine lv_iload_n hx hb dX11_spread_9 rfl (lv_at hl 1 rfl) ?_
    refine lv_iload_n hx hb dX11_spread_10 rfl (lv_at hl 0 rfl) ?_
    refine lv_isub hx hb dX11_spread_11 ?_
    refine lv_iconst (v := 1) hx hb dX11_spread_12 (by decide) ?_
    refine lv_iadd hx hb dX11_spread_13 ?_
    exact hp_iretP hX hlocks hr hR h dX11_spread_14
  · have h := hp_in c1 h
    refine lv_iconst (v := 0) hx hb dX11_spread_5 (by decide) ?_
    refine lv_goto (tgt := 14) hx hb dX11_spread_6 (by decide) ?_
    exact hp_iretP hX hlocks hr hR h dX11_spread_14
theorem cs_X11_49 : hp_WV RX11 49 RX11 yX11_at cX11_at 3 (some .int) := ⟨wq4_22, wq4_24, wp2_0, wq1_11, wq4_25⟩
theorem cs_X11_53 : hp_WS RX11 53 yX11_spread cX11_spread 2 (some .int) := ⟨wq4_65, wq4_66, wq1_11, wq4_67⟩
/-! Mo.sizeOf(I)I -/
abbrev rm_Mo_sizeOf : Room := { frames := 1, cells := 0, slots := 0, locals := 22 }
theorem hd_Mo_sizeOf : hp_d yX11_sizeOf 1 := by decide +kernel
def f_Mo_sizeOf (a0 : Nat) (x1 : Int32) (σ : hp_H) : Option Int32 := hp_own σ a0 10 ((f_Mo_at a0 x1 0 σ).bind fun v2 => (f_Mo_at a0 x1 1 σ).bind fun v4 => (f_Mo_spread v2 v4).bind fun v6 => (f_Mo_at a0 x1 2 σ).bind fun v8 => (f_Mo_at a0 x1 3 σ).bind fun v10 => (f_Mo_spread v8 v10).bind fun v12 => (f_Mo_at a0 x1 4 σ).bind fun v14 => (f_Mo_at a0 x1 5 σ).bind fun v16 => (f_Mo_spread v14 v16).bind fun v18 => some ((v6 * v12) * v18))
set_option maxHeartbeats 4000000 in
set_option maxRecDepth 100000 in
theorem c_Mo_sizeOf {l : Launch} {G : hp_G} {b : Nat} {σ : hp_H} {a0 : Nat} {x1 : Int32} {r : Int32} (h : f_Mo_sizeOf a0 x1 σ = some r) : hp_Met l yX11_sizeOf cX11_sizeOf 2 (some .int) rm_Mo_sizeOf G b [.ref a0, .int x1] σ (some (.int r)) σ 0 0 := by
  refine hp_met (by decide +kernel) (Nat.le_of_ble_eq_true rfl) (fun p e s m below meth c ls hX hlocks hr hnm hl hR => ?_)
  obtain ⟨hx, hb, hml, hown, hts⟩ := id hX.1
  have hl : lv_has ls 2 [(0, .ref a0), (1, .int x1)] := hl
  unfold f_Mo_sizeOf at h
  have h := hp_own_to h
  refine lv_aload_n hx hb dX11_sizeOf_0 rfl (lv_at hl 0 rfl) ?_
  refine lv_iload_n hx hb dX11_sizeOf_1 rfl (lv_at hl 1 rfl) ?_
  refine lv_iconst (v := 0) hx hb dX11_sizeOf_2 (by decide) ?_
  refine hp_bn h (fun v2 h1 h => ?_)
  refine hp_ci hR (hp_runV (rest := []) (As := [.int x1, .int 0]) hX hR (c_Mo_at h1) cs_X11_49 rfl rfl rfl hd_Mo_at ⟨Nat.le_of_ble_eq_true rfl, Nat.le_of_ble_eq_true rfl⟩ (ci := 10) rfl (hp_own_is h1) rfl hl.1 rfl (Nat.le_of_ble_eq_true rfl) dX11_sizeOf_3 ⟨Nat.le_of_ble_eq_true rfl, Nat.le_of_ble_eq_true rfl⟩) (fun H locs hR => ?_)
  refine lv_aload_n hx hb dX11_sizeOf_6 rfl (lv_at hl 0 rfl) ?_
  refine lv_iload_n hx hb dX11_sizeOf_7 rfl (lv_at hl 1 rfl) ?_
  refine lv_iconst (v := 1) hx hb dX11_sizeOf_8 (by decide) ?_
  refine hp_bn h (fun v4 h3 h => ?_)
  refine hp_ci hR (hp_runV (rest := [.int v2]) (As := [.int x1, .int 1]) hX hR (c_Mo_at h3) cs_X11_49 rfl rfl rfl hd_Mo_at ⟨Nat.le_of_ble_eq_true rfl, Nat.le_of_ble_eq_true rfl⟩ (ci := 10) rfl (hp_own_is h3) rfl hl.1 rfl (Nat.le_of_ble_eq_true rfl) dX11_sizeOf_9 ⟨Nat.le_of_ble_eq_true rfl, Nat.le_of_ble_eq_true rfl⟩) (fun H locs hR => ?_)
  refine hp_bn h (fun v6 h5 h => ?_)
  refine hp_ci hR (hp_runS (rest := []) (As := [.int v2, .int v4]) hX hR (c_Mo_spread h5) cs_X11_53 rfl rfl hd_Mo_spread ⟨Nat.le_of_ble_eq_true rfl, Nat.le_of_ble_eq_true rfl⟩ rfl hl.1 rfl (Nat.le_of_ble_eq_true rfl) dX11_sizeOf_12 ⟨Nat.le_of_ble_eq_true rfl, Nat.le_of_ble_eq_true rfl⟩) (fun H locs hR => ?_)
  refine lv_aload_n hx hb dX11_sizeOf_15 rfl (lv_at hl 0 rfl) ?_
  refine lv_iload_n hx hb dX11_sizeOf_16 rfl (lv_at hl 1 rfl) ?_
  refine lv_iconst (v := 2) hx hb dX11_sizeOf_17 (by decide) ?_
  refine hp_bn h (fun v8 h7 h => ?_)
  refine hp_ci hR (hp_runV (rest := [.int v6]) (As := [.int x1, .int 2]) hX hR (c_Mo_at h7) cs_X11_49 rfl rfl rfl hd_Mo_at ⟨Nat.le_of_ble_eq_true rfl, Nat.le_of_ble_eq_true rfl⟩ (ci := 10) rfl (hp_own_is h7) rfl hl.1 rfl (Nat.le_of_ble_eq_true rfl) dX11_sizeOf_18 ⟨Nat.le_of_ble_eq_true rfl, Nat.le_of_ble_eq_true rfl⟩) (fun H locs hR => ?_)
  refine lv_aload_n hx hb dX11_sizeOf_21 rfl (lv_at hl 0 rfl) ?_
  refine lv_iload_n hx hb dX11_sizeOf_22 rfl (lv_at hl 1 rfl) ?_
  refine lv_iconst (v := 3) hx hb dX11_sizeOf_23 (by decide) ?_
  refine hp_bn h (fun v10 h9 h => ?_)
  refine hp_ci hR (hp_runV (rest := [.int v8, .int v6]) (As := [.int x1, .int 3]) hX hR (c_Mo_at h9) cs_X11_49 rfl rfl rfl hd_Mo_at ⟨Nat.le_of_ble_eq_true rfl, Nat.le_of_ble_eq_true rfl⟩ (ci := 10) rfl (hp_own_is h9) rfl hl.1 rfl (Nat.le_of_ble_eq_true rfl) dX11_sizeOf_24 ⟨Nat.le_of_ble_eq_true rfl, Nat.le_of_ble_eq_true rfl⟩) (fun H locs hR => ?_)
  refine hp_bn h (fun v12 h11 h => ?_)
  refine hp_ci hR (hp_runS (rest := [.int v6]) (As := [.int v8, .int v10]) hX hR (c_Mo_spread h11) cs_X11_53 rfl rfl hd_Mo_spread ⟨Nat.le_of_ble_eq_true rfl, Nat.le_of_ble_eq_true rfl⟩ rfl hl.1 rfl (Nat.le_of_ble_eq_true rfl) dX11_sizeOf_27 ⟨Nat.le_of_ble_eq_true rfl, Nat.le_of_ble_eq_true rfl⟩) (fun H locs hR => ?_)
  refine lv_imul hx hb dX11_sizeOf_30 ?_
  refine lv_aload_n hx hb dX11_sizeOf_31 rfl (lv_at hl 0 rfl) ?_
  refine lv_iload_n hx hb dX11_sizeOf_32 rfl (lv_at hl 1 rfl) ?_
  refine lv_iconst (v := 4) hx hb dX11_sizeOf_33 (by decide) ?_
  refine hp_bn h (fun v14 h13 h => ?_)
  refine hp_ci hR (hp_runV (rest := [.int (v6 * v12)]) (As := [.int x1, .int 4]) hX hR (c_Mo_at h13) cs_X11_49 rfl rfl rfl hd_Mo_at ⟨Nat.le_of_ble_eq_true rfl, Nat.le_of_ble_eq_true rfl⟩ (ci := 10) rfl (hp_own_is h13) rfl hl.1 rfl (Nat.le_of_ble_eq_true rfl) dX11_sizeOf_34 ⟨Nat.le_of_ble_eq_true rfl, Nat.le_of_ble_eq_true rfl⟩) (fun H locs hR => ?_)
  refine lv_aload_n hx hb dX11_sizeOf_37 rfl (lv_at hl 0 rfl) ?_
  refine lv_iload_n hx hb dX11_sizeOf_38 rfl (lv_at hl 1 rfl) ?_
  refine lv_iconst (v := 5) hx hb dX11_sizeOf_39 (by decide) ?_
  refine hp_bn h (fun v16 h15 h => ?_)
  refine hp_ci hR (hp_runV (rest := [.int v14, .int (v6 * v12)]) (As := [.int x1, .int 5]) hX hR (c_Mo_at h15) cs_X11_49 rfl rfl rfl hd_Mo_at ⟨Nat.le_of_ble_eq_true rfl, Nat.le_of_ble_eq_true rfl⟩ (ci := 10) rfl (hp_own_is h15) rfl hl.1 rfl (Nat.le_of_ble_eq_true rfl) dX11_sizeOf_40 ⟨Nat.le_of_ble_eq_true rfl, Nat.le_of_ble_eq_true rfl⟩) (fun H locs hR => ?_)
  refine hp_bn h (fun v18 h17 h => ?_)
  refine hp_ci hR (hp_runS (rest := [.int (v6 * v12)]) (As := [.int v14, .int v16]) hX hR (c_Mo_spread h17) cs_X11_53 rfl rfl hd_Mo_spread ⟨Nat.le_of_ble_eq_true rfl, Nat.le_of_ble_eq_true rfl⟩ rfl hl.1 rfl (Nat.le_of_ble_eq_true rfl) dX11_sizeOf_43 ⟨Nat.le_of_ble_eq_true rfl, Nat.le_of_ble_eq_true rfl⟩) (fun H locs hR => ?_)
  refine lv_imul hx hb dX11_sizeOf_46 ?_
  exact hp_iretP hX hlocks hr hR h dX11_sizeOf_47
/-! Mo.covers(II)Z -/
abbrev rm_Mo_covers : Room := { frames := 1, cells := 0, slots := 0, locals := 22 }
theorem hd_Mo_covers : hp_d yX11_covers 2 := by decide +kernel
def f_Mo_covers_l1 (a0 : Nat) (x1 : Int32) (x2 : Int32) (σ : hp_H) (K : Int32 → Int32 → Option Int32) : Nat → Int32 → Int32 → Option Int32
  | 0, _, _ => none
  | n + 1, x3, x4 => if (6 : Int32) ≤ x4 then (K x3 x4) else (if x3 = 0 then (f_Mo_covers_l1 a0 x1 x2 σ K n 0 (x4 + 2)) else ((f_Mo_at a0 x1 x4 σ).bind fun v4 => (f_Mo_at a0 x2 x4 σ).bind fun v6 => if v6 < v4 then (f_Mo_covers_l1 a0 x1 x2 σ K n 0 (x4 + 2)) else ((f_Mo_at a0 x1 (x4 + 1) σ).bind fun v9 => (f_Mo_at a0 x2 (x4 + 1) σ).bind fun v11 => if v9 < v11 then (f_Mo_covers_l1 a0 x1 x2 σ K n 0 (x4 + 2)) else (f_Mo_covers_l1 a0 x1 x2 σ K n 1 (x4 + 2)))))
def f_Mo_covers (a0 : Nat) (x1 : Int32) (x2 : Int32) (σ : hp_H) : Option Int32 := hp_own σ a0 10 (f_Mo_covers_l1 a0 x1 x2 σ (fun z13 z14 => hp_z z13 (some z13)) hp_F 1 0)
set_option maxHeartbeats 4000000 in
set_option maxRecDepth 100000 in
theorem w_Mo_covers_l1 {p : Program} {l : Launch} {e : Env} {s : State} {m : MethodId} {args : Array Value} {below : List Frame} {meth : Method} {c : Code} {G : hp_G} {b : Nat} {σ : hp_H} {a0 : Nat} {x1 : Int32} {x2 : Int32} {r : Int32} {K : Int32 → Int32 → Option Int32} (hX : hp_X G p s m c args cX11_covers 5 RX11) (hlocks : meth.locks = false) (hr : meth.sig.returnType = (some .boolean))
    (hK : ∀ (x3 : Int32) (x4 : Int32) (H : Heap) (locs : List Loc) (ls : Array Slot), hp_R G b s.heap σ H locs → lv_has ls 5 [(3, .int x3)] → K x3 x4 = some r → W p l e rm_Mo_covers s m args below meth c H locs 0 0 (MQ below (hp_Qc G b (some (.int r)) σ) args s 0 0 (fun q => b ≤ q)) (F0 m 66 ls [])) :
    ∀ (n : Nat) (x3 : Int32) (x4 : Int32) (H : Heap) (locs : List Loc) (ls : Array Slot), hp_R G b s.heap σ H locs → f_Mo_covers_l1 a0 x1 x2 σ K n x3 x4 = some r → lv_has ls 5 [(0, .ref a0), (1, .int x1), (2, .int x2), (3, .int x3), (4, .int x4)] → W p l e rm_Mo_covers s m args below meth c H locs 0 0 (MQ below (hp_Qc G b (some (.int r)) σ) args s 0 0 (fun q => b ≤ q)) (F0 m 5 ls []) := by
  obtain ⟨hx, hb, hml, hown, hts⟩ := id hX.1
  intro n
  induction n with
  | zero =>
    intro x3 x4 H locs ls hR h hl
    rw [f_Mo_covers_l1] at h
    cases h
  | succ n ih =>
    intro x3 x4 H locs ls hR h hl
    rw [f_Mo_covers_l1] at h
    refine lv_iload hx hb dX11_covers_5 (lv_at hl 4 rfl) ?_
    refine lv_bipush (v := 6) hx hb dX11_covers_7 (by decide) ?_
    refine lv_icmp_ge (tgt := 66) hx hb dX11_covers_9 (by decide) (fun c1 => ?_) (fun c1 => ?_)
    · have h := hp_ip c1 h
      exact hK _ _ _ _ _ hR (lv_sub hl [3] rfl) h
    · have h := hp_in c1 h
      refine lv_iload_n hx hb dX11_covers_12 rfl (lv_at hl 3 rfl) ?_
      refine lv_if_eq (tgt := 58) hx hb dX11_covers_13 (by decide) (fun c2 => ?_) (fun c2 => ?_)
      · have h := hp_ip c2 h
        refine lv_iconst (v := 0) hx hb dX11_covers_58 (by decide) ?_
        refine lv_istore_n (lv' := [(3, .int 0), (0, .ref a0), (1, .int x1), (2, .int x2), (4, .int x4)]) hx hb dX11_covers_59 rfl hl (by decide) rfl (fun ls hl => ?_)
        refine lv_iinc (v := (x4 + 2)) (lv' := [(4, .int (x4 + 2)), (3, .int 0), (0, .ref a0), (1, .int x1), (2, .int x2)]) hx hb dX11_covers_60 hl (k := 4) rfl rfl (by decide) rfl (fun ls hl => ?_)
        refine lv_goto (tgt := 5) hx hb dX11_covers_63 (by decide) ?_
        exact ih _ _ _ _ _ hR h (lv_sub hl [2, 3, 4, 1, 0] rfl)
      · have h := hp_in c2 h
        refine lv_aload_n hx hb dX11_covers_16 rfl (lv_at hl 0 rfl) ?_
        refine lv_iload_n hx hb dX11_covers_17 rfl (lv_at hl 1 rfl) ?_
        refine lv_iload hx hb dX11_covers_18 (lv_at hl 4 rfl) ?_
        refine hp_bn h (fun v4 h3 h => ?_)
        refine hp_ci hR (hp_runV (rest := []) (As := [.int x1, .int x4]) hX hR (c_Mo_at h3) cs_X11_49 rfl rfl rfl hd_Mo_at ⟨Nat.le_of_ble_eq_true rfl, Nat.le_of_ble_eq_true rfl⟩ (ci := 10) rfl (hp_own_is h3) rfl hl.1 rfl (Nat.le_of_ble_eq_true rfl) dX11_covers_20 ⟨Nat.le_of_ble_eq_true rfl, Nat.le_of_ble_eq_true rfl⟩) (fun H locs hR => ?_)
        refine lv_aload_n hx hb dX11_covers_23 rfl (lv_at hl 0 rfl) ?_
        refine lv_iload_n hx hb dX11_covers_24 rfl (lv_at hl 2 rfl) ?_
        refine lv_iload hx hb dX11_covers_25 (lv_at hl 4 rfl) ?_
        refine hp_bn h (fun v6 h5 h => ?_)
        refine hp_ci hR (hp_runV (rest := [.int v4]) (As := [.int x2, .int x4]) hX hR (c_Mo_at h5) cs_X11_49 rfl rfl rfl hd_Mo_at ⟨Nat.le_of_ble_eq_true rfl, Nat.le_of_ble_eq_true rfl⟩ (ci := 10) rfl (hp_own_is h5) rfl hl.1 rfl (Nat.le_of_ble_eq_true rfl) dX11_covers_27 ⟨Nat.le_of_ble_eq_true rfl, Nat.le_of_ble_eq_true rfl⟩) (fun H locs hR => ?_)
        refine lv_icmp_gt (tgt := 58) hx hb dX11_covers_30 (by decide) (fun c7 => ?_) (fun c7 => ?_)
        · have h := hp_ip c7 h
          refine lv_iconst (v := 0) hx hb dX11_covers_58 (by decide) ?_
          refine lv_istore_n (lv' := [(3, .int 0), (0, .ref a0), (1, .int x1), (2, .int x2), (4, .int x4)]) hx hb dX11_covers_59 rfl hl (by decide) rfl (fun ls hl => ?_)
          refine lv_iinc (v := (x4 + 2)) (lv' := [(4, .int (x4 + 2)), (3, .int 0), (0, .ref a0), (1, .int x1), (2, .int x2)]) hx hb dX11_covers_60 hl (k := 4) rfl rfl (by decide) rfl (fun ls hl => ?_)
          refine lv_goto (tgt := 5) hx hb dX11_covers_63 (by decide) ?_
          exact ih _ _ _ _ _ hR h (lv_sub hl [2, 3, 4, 1, 0] rfl)
        · have h := hp_in c7 h
          refine lv_aload_n hx hb dX11_covers_33 rfl (lv_at hl 0 rfl) ?_
          refine lv_iload_n hx hb dX11_covers_34 rfl (lv_at hl 1 rfl) ?_
          refine lv_iload hx hb dX11_covers_35 (lv_at hl 4 rfl) ?_
          refine lv_iconst (v := 1) hx hb dX11_covers_37 (by decide) ?_
          refine lv_iadd hx hb dX11_covers_38 ?_
          refine hp_bn h (fun v9 h8 h => ?_)
          refine hp_ci hR (hp_runV (rest := []) (As := [.int x1, .int (x4 + 1)]) hX hR (c_Mo_at h8) cs_X11_49 rfl rfl rfl hd_Mo_at ⟨Nat.le_of_ble_eq_true rfl, Nat.le_of_ble_eq_true rfl⟩ (ci := 10) rfl (hp_own_is h8) rfl hl.1 rfl (Nat.le_of_ble_eq_true rfl) dX11_covers_39 ⟨Nat.le_of_ble_eq_true rfl, Nat.le_of_ble_eq_true rfl⟩) (fun H locs hR => ?_)
          refine lv_aload_n hx hb dX11_covers_42 rfl (lv_at hl 0 rfl) ?_
          refine lv_iload_n hx hb dX11_covers_43 rfl (lv_at hl 2 rfl) ?_
          refine lv_iload hx hb dX11_covers_44 (lv_at hl 4 rfl) ?_
          refine lv_iconst (v := 1) hx hb dX11_covers_46 (by decide) ?_
          refine lv_iadd hx hb dX11_covers_47 ?_
          refine hp_bn h (fun v11 h10 h => ?_)
          refine hp_ci hR (hp_runV (rest := [.int v9]) (As := [.int x2, .int (x4 + 1)]) hX hR (c_Mo_at h10) cs_X11_49 rfl rfl rfl hd_Mo_at ⟨Nat.le_of_ble_eq_true rfl, Nat.le_of_ble_eq_true rfl⟩ (ci := 10) rfl (hp_own_is h10) rfl hl.1 rfl (Nat.le_of_ble_eq_true rfl) dX11_covers_48 ⟨Nat.le_of_ble_eq_true rfl, Nat.le_of_ble_eq_true rfl⟩) (fun H locs hR => ?_)
          refine lv_icmp_lt (tgt := 58) hx hb dX11_covers_51 (by decide) (fun c12 => ?_) (fun c12 => ?_)
          · have h := hp_ip c12 h
            refine lv_iconst (v := 0) hx hb dX11_covers_58 (by decide) ?_
            refine lv_istore_n (lv' := [(3, .int 0), (0, .ref a0), (1, .int x1), (2, .int x2), (4, .int x4)]) hx hb dX11_covers_59 rfl hl (by decide) rfl (fun ls hl => ?_)
            refine lv_iinc (v := (x4 + 2)) (lv' := [(4, .int (x4 + 2)), (3, .int 0), (0, .ref a0), (1, .int x1), (2, .int x2)]) hx hb dX11_covers_60 hl (k := 4) rfl rfl (by decide) rfl (fun ls hl => ?_)
            refine lv_goto (tgt := 5) hx hb dX11_covers_63 (by decide) ?_
            exact ih _ _ _ _ _ hR h (lv_sub hl [2, 3, 4, 1, 0] rfl)
          · have h := hp_in c12 h
            refine lv_iconst (v := 1) hx hb dX11_covers_54 (by decide) ?_
            refine lv_goto (tgt := 59) hx hb dX11_covers_55 (by decide) ?_
            refine lv_istore_n (lv' := [(3, .int 1), (0, .ref a0), (1, .int x1), (2, .int x2), (4, .int x4)]) hx hb dX11_covers_59 rfl hl (by decide) rfl (fun ls hl => ?_)
            refine lv_iinc (v := (x4 + 2)) (lv' := [(4, .int (x4 + 2)), (3, .int 1), (0, .ref a0), (1, .int x1), (2, .int x2)]) hx hb dX11_covers_60 hl (k := 4) rfl rfl (by decide) rfl (fun ls hl => ?_)
            refine lv_goto (tgt := 5) hx hb dX11_covers_63 (by decide) ?_
            exact ih _ _ _ _ _ hR h (lv_sub hl [2, 3, 4, 1, 0] rfl)
set_option maxHeartbeats 4000000 in
set_option maxRecDepth 100000 in
theorem c_Mo_covers {l : Launch} {G : hp_G} {b : Nat} {σ : hp_H} {a0 : Nat} {x1 : Int32} {x2 : Int32} {r : Int32} (h : f_Mo_covers a0 x1 x2 σ = some r) : hp_Met l yX11_covers cX11_covers 5 (some .boolean) rm_Mo_covers G b [.ref a0, .int x1, .int x2] σ (some (.int r)) σ 0 0 := by
  refine hp_met (by decide +kernel) (Nat.le_of_ble_eq_true rfl) (fun p e s m below meth c ls hX hlocks hr hnm hl hR => ?_)
  obtain ⟨hx, hb, hml, hown, hts⟩ := id hX.1
  have hl : lv_has ls 5 [(0, .ref a0), (1, .int x1), (2, .int x2)] := hl
  unfold f_Mo_covers at h
  have h := hp_own_to h
  refine lv_iconst (v := 1) hx hb dX11_covers_0 (by decide) ?_
  refine lv_istore_n (lv' := [(3, .int 1), (0, .ref a0), (1, .int x1), (2, .int x2)]) hx hb dX11_covers_1 rfl hl (by decide) rfl (fun ls hl => ?_)
  refine lv_iconst (v := 0) hx hb dX11_covers_2 (by decide) ?_
  refine lv_istore (lv' := [(4, .int 0), (3, .int 1), (0, .ref a0), (1, .int x1), (2, .int x2)]) hx hb dX11_covers_3 hl (by decide) rfl (fun ls hl => ?_)
  refine w_Mo_covers_l1 hX hlocks hr ?_ hp_F _ _ _ _ _ hR h (lv_sub hl [2, 3, 4, 1, 0] rfl)
  intro z13 z14 H locs ls hR hl h
  refine lv_iload_n hx hb dX11_covers_66 rfl (lv_at hl 0 rfl) ?_
  exact hp_zretP hX hlocks hr hR h dX11_covers_67
/-! Mo.shared(II)I -/
abbrev rm_Mo_shared : Room := { frames := 1, cells := 0, slots := 0, locals := 22 }
theorem hd_Mo_shared : hp_d yX11_shared 2 := by decide +kernel
def f_Mo_shared_l1 (a0 : Nat) (x1 : Int32) (x2 : Int32) (σ : hp_H) (K : Int32 → Int32 → Option Int32) : Nat → Int32 → Int32 → Option Int32
  | 0, _, _ => none
  | n + 1, x3, x4 => if (6 : Int32) ≤ x4 then (K x3 x4) else ((f_Mo_at a0 x1 x4 σ).bind fun v3 => (f_Mo_at a0 x2 x4 σ).bind fun v5 => if v3 ≤ v5 then ((f_Mo_at a0 x2 x4 σ).bind fun v8 => (f_Mo_at a0 x1 (x4 + 1) σ).bind fun v10 => (f_Mo_at a0 x2 (x4 + 1) σ).bind fun v12 => if v12 ≤ v10 then ((f_Mo_at a0 x2 (x4 + 1) σ).bind fun v15 => (f_Mo_spread v8 v15).bind fun v17 => f_Mo_shared_l1 a0 x1 x2 σ K n (x3 * v17) (x4 + 2)) else ((f_Mo_at a0 x1 (x4 + 1) σ).bind fun v19 => (f_Mo_spread v8 v19).bind fun v21 => f_Mo_shared_l1 a0 x1 x2 σ K n (x3 * v21) (x4 + 2))) else ((f_Mo_at a0 x1 x4 σ).bind fun v23 => (f_Mo_at a0 x1 (x4 + 1) σ).bind fun v25 => (f_Mo_at a0 x2 (x4 + 1) σ).bind fun v27 => if v27 ≤ v25 then ((f_Mo_at a0 x2 (x4 + 1) σ).bind fun v30 => (f_Mo_spread v23 v30).bind fun v32 => f_Mo_shared_l1 a0 x1 x2 σ K n (x3 * v32) (x4 + 2)) else ((f_Mo_at a0 x1 (x4 + 1) σ).bind fun v34 => (f_Mo_spread v23 v34).bind fun v36 => f_Mo_shared_l1 a0 x1 x2 σ K n (x3 * v36) (x4 + 2))))
def f_Mo_shared (a0 : Nat) (x1 : Int32) (x2 : Int32) (σ : hp_H) : Option Int32 := hp_own σ a0 10 (f_Mo_shared_l1 a0 x1 x2 σ (fun z37 z38 => some z37) hp_F 1 0)
set_option maxHeartbeats 4000000 in
set_option maxRecDepth 100000 in
theorem w_Mo_shared_l1 {p : Program} {l : Launch} {e : Env} {s : State} {m : MethodId} {args : Array Value} {below : List Frame} {meth : Method} {c : Code} {G : hp_G} {b : Nat} {σ : hp_H} {a0 : Nat} {x1 : Int32} {x2 : Int32} {r : Int32} {K : Int32 → Int32 → Option Int32} (hX : hp_X G p s m c args cX11_shared 7 RX11) (hlocks : meth.locks = false) (hr : meth.sig.returnType = (some .int))
    (hK : ∀ (x3 : Int32) (x4 : Int32) (H : Heap) (locs : List Loc) (ls : Array Slot), hp_R G b s.heap σ H locs → lv_has ls 7 [(3, .int x3)] → K x3 x4 = some r → W p l e rm_Mo_shared s m args below meth c H locs 0 0 (MQ below (hp_Qc G b (some (.int r)) σ) args s 0 0 (fun q => b ≤ q)) (F0 m 108 ls [])) :
    ∀ (n : Nat) (x3 : Int32) (x4 : Int32) (H : Heap) (locs : List Loc) (ls : Array Slot), hp_R G b s.heap σ H locs → f_Mo_shared_l1 a0 x1 x2 σ K n x3 x4 = some r → lv_has ls 7 [(0, .ref a0), (1, .int x1), (2, .int x2), (3, .int x3), (4, .int x4)] → W p l e rm_Mo_shared s m args below meth c H locs 0 0 (MQ below (hp_Qc G b (some (.int r)) σ) args s 0 0 (fun q => b ≤ q)) (F0 m 5 ls []) := by
  obtain ⟨hx, hb, hml, hown, hts⟩ := id hX.1
  intro n
  induction n with
  | zero =>
    intro x3 x4 H locs ls hR h hl
    rw [f_Mo_shared_l1] at h
    cases h
  | succ n ih =>
    intro x3 x4 H locs ls hR h hl
    rw [f_Mo_shared_l1] at h
    refine lv_iload hx hb dX11_shared_5 (lv_at hl 4 rfl) ?_
    refine lv_bipush (v := 6) hx hb dX11_shared_7 (by decide) ?_
    refine lv_icmp_ge (tgt := 108) hx hb dX11_shared_9 (by decide) (fun c1 => ?_) (fun c1 => ?_)
    · have h := hp_ip c1 h
      exact hK _ _ _ _ _ hR (lv_sub hl [3] rfl) h
    · have h := hp_in c1 h
      refine lv_aload_n hx hb dX11_shared_12 rfl (lv_at hl 0 rfl) ?_
      refine lv_iload_n hx hb dX11_shared_13 rfl (lv_at hl 1 rfl) ?_
      refine lv_iload hx hb dX11_shared_14 (lv_at hl 4 rfl) ?_
      refine hp_bn h (fun v3 h2 h => ?_)
      refine hp_ci hR (hp_runV (rest := []) (As := [.int x1, .int x4]) hX hR (c_Mo_at h2) cs_X11_49 rfl rfl rfl hd_Mo_at ⟨Nat.le_of_ble_eq_true rfl, Nat.le_of_ble_eq_true rfl⟩ (ci := 10) rfl (hp_own_is h2) rfl hl.1 rfl (Nat.le_of_ble_eq_true rfl) dX11_shared_16 ⟨Nat.le_of_ble_eq_true rfl, Nat.le_of_ble_eq_true rfl⟩) (fun H locs hR => ?_)
      refine lv_aload_n hx hb dX11_shared_19 rfl (lv_at hl 0 rfl) ?_
      refine lv_iload_n hx hb dX11_shared_20 rfl (lv_at hl 2 rfl) ?_
      refine lv_iload hx hb dX11_shared_21 (lv_at hl 4 rfl) ?_
      refine hp_bn h (fun v5 h4 h => ?_)
      refine hp_ci hR (hp_runV (rest := [.int v3]) (As := [.int x2, .int x4]) hX hR (c_Mo_at h4) cs_X11_49 rfl rfl rfl hd_Mo_at ⟨Nat.le_of_ble_eq_true rfl, Nat.le_of_ble_eq_true rfl⟩ (ci := 10) rfl (hp_own_is h4) rfl hl.1 rfl (Nat.le_of_ble_eq_true rfl) dX11_shared_23 ⟨Nat.le_of_ble_eq_true rfl, Nat.le_of_ble_eq_true rfl⟩) (fun H locs hR => ?_)
      refine lv_icmp_le (tgt := 39) hx hb dX11_shared_26 (by decide) (fun c6 => ?_) (fun c6 => ?_)
      · have h := hp_ip c6 h
        refine lv_aload_n hx hb dX11_shared_39 rfl (lv_at hl 0 rfl) ?_
        refine lv_iload_n hx hb dX11_shared_40 rfl (lv_at hl 2 rfl) ?_
        refine lv_iload hx hb dX11_shared_41 (lv_at hl 4 rfl) ?_
        refine hp_bn h (fun v8 h7 h => ?_)
        refine hp_ci hR (hp_runV (rest := []) (As := [.int x2, .int x4]) hX hR (c_Mo_at h7) cs_X11_49 rfl rfl rfl hd_Mo_at ⟨Nat.le_of_ble_eq_true rfl, Nat.le_of_ble_eq_true rfl⟩ (ci := 10) rfl (hp_own_is h7) rfl hl.1 rfl (Nat.le_of_ble_eq_true rfl) dX11_shared_43 ⟨Nat.le_of_ble_eq_true rfl, Nat.le_of_ble_eq_true rfl⟩) (fun H locs hR => ?_)
        refine lv_istore (lv' := [(5, .int v8), (0, .ref a0), (1, .int x1), (2, .int x2), (3, .int x3), (4, .int x4)]) hx hb dX11_shared_46 hl (by decide) rfl (fun ls hl => ?_)
        refine lv_aload_n hx hb dX11_shared_48 rfl (lv_at hl 1 rfl) ?_
        refine lv_iload_n hx hb dX11_shared_49 rfl (lv_at hl 2 rfl) ?_
        refine lv_iload hx hb dX11_shared_50 (lv_at hl 5 rfl) ?_
        refine lv_iconst (v := 1) hx hb dX11_shared_52 (by decide) ?_
        refine lv_iadd hx hb dX11_shared_53 ?_
        refine hp_bn h (fun v10 h9 h => ?_)
        refine hp_ci hR (hp_runV (rest := []) (As := [.int x1, .int (x4 + 1)]) hX hR (c_Mo_at h9) cs_X11_49 rfl rfl rfl hd_Mo_at ⟨Nat.le_of_ble_eq_true rfl, Nat.le_of_ble_eq_true rfl⟩ (ci := 10) rfl (hp_own_is h9) rfl hl.1 rfl (Nat.le_of_ble_eq_true rfl) dX11_shared_54 ⟨Nat.le_of_ble_eq_true rfl, Nat.le_of_ble_eq_true rfl⟩) (fun H locs hR => ?_)
        refine lv_aload_n hx hb dX11_shared_57 rfl (lv_at hl 1 rfl) ?_
        refine lv_iload_n hx hb dX11_shared_58 rfl (lv_at hl 3 rfl) ?_
        refine lv_iload hx hb dX11_shared_59 (lv_at hl 5 rfl) ?_
        refine lv_iconst (v := 1) hx hb dX11_shared_61 (by decide) ?_
        refine lv_iadd hx hb dX11_shared_62 ?_
        refine hp_bn h (fun v12 h11 h => ?_)
        refine hp_ci hR (hp_runV (rest := [.int v10]) (As := [.int x2, .int (x4 + 1)]) hX hR (c_Mo_at h11) cs_X11_49 rfl rfl rfl hd_Mo_at ⟨Nat.le_of_ble_eq_true rfl, Nat.le_of_ble_eq_true rfl⟩ (ci := 10) rfl (hp_own_is h11) rfl hl.1 rfl (Nat.le_of_ble_eq_true rfl) dX11_shared_63 ⟨Nat.le_of_ble_eq_true rfl, Nat.le_of_ble_eq_true rfl⟩) (fun H locs hR => ?_)
        refine lv_icmp_ge (tgt := 81) hx hb dX11_shared_66 (by decide) (fun c13 => ?_) (fun c13 => ?_)
        · have h := hp_ip c13 h
          refine lv_aload_n hx hb dX11_shared_81 rfl (lv_at hl 1 rfl) ?_
          refine lv_iload_n hx hb dX11_shared_82 rfl (lv_at hl 3 rfl) ?_
          refine lv_iload hx hb dX11_shared_83 (lv_at hl 5 rfl) ?_
          refine lv_iconst (v := 1) hx hb dX11_shared_85 (by decide) ?_
          refine lv_iadd hx hb dX11_shared_86 ?_
          refine hp_bn h (fun v15 h14 h => ?_)
          refine hp_ci hR (hp_runV (rest := []) (As := [.int x2, .int (x4 + 1)]) hX hR (c_Mo_at h14) cs_X11_49 rfl rfl rfl hd_Mo_at ⟨Nat.le_of_ble_eq_true rfl, Nat.le_of_ble_eq_true rfl⟩ (ci := 10) rfl (hp_own_is h14) rfl hl.1 rfl (Nat.le_of_ble_eq_true rfl) dX11_shared_87 ⟨Nat.le_of_ble_eq_true rfl, Nat.le_of_ble_eq_true rfl⟩) (fun H locs hR => ?_)
          refine lv_istore (lv' := [(6, .int v15), (5, .int v8), (0, .ref a0), (1, .int x1), (2, .int x2), (3, .int x3), (4, .int x4)]) hx hb dX11_shared_90 hl (by decide) rfl (fun ls hl => ?_)
          refine lv_iload_n hx hb dX11_shared_92 rfl (lv_at hl 5 rfl) ?_
          refine lv_iload hx hb dX11_shared_93 (lv_at hl 1 rfl) ?_
          refine lv_iload hx hb dX11_shared_95 (lv_at hl 0 rfl) ?_
          refine hp_bn h (fun v17 h16 h => ?_)
          refine hp_ci hR (hp_runS (rest := [.int x3]) (As := [.int v8, .int v15]) hX hR (c_Mo_spread h16) cs_X11_53 rfl rfl hd_Mo_spread ⟨Nat.le_of_ble_eq_true rfl, Nat.le_of_ble_eq_true rfl⟩ rfl hl.1 rfl (Nat.le_of_ble_eq_true rfl) dX11_shared_97 ⟨Nat.le_of_ble_eq_true rfl, Nat.le_of_ble_eq_true rfl⟩) (fun H locs hR => ?_)
          refine lv_imul hx hb dX11_shared_100 ?_
          refine lv_istore_n (lv' := [(3, .int (x3 * v17)), (6, .int v15), (5, .int v8), (0, .ref a0), (1, .int x1), (2, .int x2), (4, .int x4)]) hx hb dX11_shared_101 rfl hl (by decide) rfl (fun ls hl => ?_)
          refine lv_iinc (v := (x4 + 2)) (lv' := [(4, .int (x4 + 2)), (3, .int (x3 * v17)), (6, .int v15), (5, .int v8), (0, .ref a0), (1, .int x1), (2, .int x2)]) hx hb dX11_shared_102 hl (k := 6) rfl rfl (by decide) rfl (fun ls hl => ?_)
          refine lv_goto (tgt := 5) hx hb dX11_shared_105 (by decide) ?_
          exact ih _ _ _ _ _ hR h (lv_sub hl [4, 5, 6, 1, 0] rfl)
        · have h := hp_in c13 h
          refine lv_aload_n hx hb dX11_shared_69 rfl (lv_at hl 1 rfl) ?_
          refine lv_iload_n hx hb dX11_shared_70 rfl (lv_at hl 2 rfl) ?_
          refine lv_iload hx hb dX11_shared_71 (lv_at hl 5 rfl) ?_
          refine lv_iconst (v := 1) hx hb dX11_shared_73 (by decide) ?_
          refine lv_iadd hx hb dX11_shared_74 ?_
          refine hp_bn h (fun v19 h18 h => ?_)
          refine hp_ci hR (hp_runV (rest := []) (As := [.int x1, .int (x4 + 1)]) hX hR (c_Mo_at h18) cs_X11_49 rfl rfl rfl hd_Mo_at ⟨Nat.le_of_ble_eq_true rfl, Nat.le_of_ble_eq_true rfl⟩ (ci := 10) rfl (hp_own_is h18) rfl hl.1 rfl (Nat.le_of_ble_eq_true rfl) dX11_shared_75 ⟨Nat.le_of_ble_eq_true rfl, Nat.le_of_ble_eq_true rfl⟩) (fun H locs hR => ?_)
          refine lv_goto (tgt := 90) hx hb dX11_shared_78 (by decide) ?_
          refine lv_istore (lv' := [(6, .int v19), (5, .int v8), (0, .ref a0), (1, .int x1), (2, .int x2), (3, .int x3), (4, .int x4)]) hx hb dX11_shared_90 hl (by decide) rfl (fun ls hl => ?_)
          refine lv_iload_n hx hb dX11_shared_92 rfl (lv_at hl 5 rfl) ?_
          refine lv_iload hx hb dX11_shared_93 (lv_at hl 1 rfl) ?_
          refine lv_iload hx hb dX11_shared_95 (lv_at hl 0 rfl) ?_
          refine hp_bn h (fun v21 h20 h => ?_)
          refine hp_ci hR (hp_runS (rest := [.int x3]) (As := [.int v8, .int v19]) hX hR (c_Mo_spread h20) cs_X11_53 rfl rfl hd_Mo_spread ⟨Nat.le_of_ble_eq_true rfl, Nat.le_of_ble_eq_true rfl⟩ rfl hl.1 rfl (Nat.le_of_ble_eq_true rfl) dX11_shared_97 ⟨Nat.le_of_ble_eq_true rfl, Nat.le_of_ble_eq_true rfl⟩) (fun H locs hR => ?_)
          refine lv_imul hx hb dX11_shared_100 ?_
          refine lv_istore_n (lv' := [(3, .int (x3 * v21)), (6, .int v19), (5, .int v8), (0, .ref a0), (1, .int x1), (2, .int x2), (4, .int x4)]) hx hb dX11_shared_101 rfl hl (by decide) rfl (fun ls hl => ?_)
          refine lv_iinc (v := (x4 + 2)) (lv' := [(4, .int (x4 + 2)), (3, .int (x3 * v21)), (6, .int v19), (5, .int v8), (0, .ref a0), (1, .int x1), (2, .int x2)]) hx hb dX11_shared_102 hl (k := 6) rfl rfl (by decide) rfl (fun ls hl => ?_)
          refine lv_goto (tgt := 5) hx hb dX11_shared_105 (by decide) ?_
          exact ih _ _ _ _ _ hR h (lv_sub hl [4, 5, 6, 1, 0] rfl)
      · have h := hp_in c6 h
        refine lv_aload_n hx hb dX11_shared_29 rfl (lv_at hl 0 rfl) ?_
        refine lv_iload_n hx hb dX11_shared_30 rfl (lv_at hl 1 rfl) ?_
        refine lv_iload hx hb dX11_shared_31 (lv_at hl 4 rfl) ?_
        refine hp_bn h (fun v23 h22 h => ?_)
        refine hp_ci hR (hp_runV (rest := []) (As := [.int x1, .int x4]) hX hR (c_Mo_at h22) cs_X11_49 rfl rfl rfl hd_Mo_at ⟨Nat.le_of_ble_eq_true rfl, Nat.le_of_ble_eq_true rfl⟩ (ci := 10) rfl (hp_own_is h22) rfl hl.1 rfl (Nat.le_of_ble_eq_true rfl) dX11_shared_33 ⟨Nat.le_of_ble_eq_true rfl, Nat.le_of_ble_eq_true rfl⟩) (fun H locs hR => ?_)
        refine lv_goto (tgt := 46) hx hb dX11_shared_36 (by decide) ?_
        refine lv_istore (lv' := [(5, .int v23), (0, .ref a0), (1, .int x1), (2, .int x2), (3, .int x3), (4, .int x4)]) hx hb dX11_shared_46 hl (by decide) rfl (fun ls hl => ?_)
        refine lv_aload_n hx hb dX11_shared_48 rfl (lv_at hl 1 rfl) ?_
        refine lv_iload_n hx hb dX11_shared_49 rfl (lv_at hl 2 rfl) ?_
        refine lv_iload hx hb dX11_shared_50 (lv_at hl 5 rfl) ?_
        refine lv_iconst (v := 1) hx hb dX11_shared_52 (by decide) ?_
        refine lv_iadd hx hb dX11_shared_53 ?_
        refine hp_bn h (fun v25 h24 h => ?_)
        refine hp_ci hR (hp_runV (rest := []) (As := [.int x1, .int (x4 + 1)]) hX hR (c_Mo_at h24) cs_X11_49 rfl rfl rfl hd_Mo_at ⟨Nat.le_of_ble_eq_true rfl, Nat.le_of_ble_eq_true rfl⟩ (ci := 10) rfl (hp_own_is h24) rfl hl.1 rfl (Nat.le_of_ble_eq_true rfl) dX11_shared_54 ⟨Nat.le_of_ble_eq_true rfl, Nat.le_of_ble_eq_true rfl⟩) (fun H locs hR => ?_)
        refine lv_aload_n hx hb dX11_shared_57 rfl (lv_at hl 1 rfl) ?_
        refine lv_iload_n hx hb dX11_shared_58 rfl (lv_at hl 3 rfl) ?_
        refine lv_iload hx hb dX11_shared_59 (lv_at hl 5 rfl) ?_
        refine lv_iconst (v := 1) hx hb dX11_shared_61 (by decide) ?_
        refine lv_iadd hx hb dX11_shared_62 ?_
        refine hp_bn h (fun v27 h26 h => ?_)
        refine hp_ci hR (hp_runV (rest := [.int v25]) (As := [.int x2, .int (x4 + 1)]) hX hR (c_Mo_at h26) cs_X11_49 rfl rfl rfl hd_Mo_at ⟨Nat.le_of_ble_eq_true rfl, Nat.le_of_ble_eq_true rfl⟩ (ci := 10) rfl (hp_own_is h26) rfl hl.1 rfl (Nat.le_of_ble_eq_true rfl) dX11_shared_63 ⟨Nat.le_of_ble_eq_true rfl, Nat.le_of_ble_eq_true rfl⟩) (fun H locs hR => ?_)
        refine lv_icmp_ge (tgt := 81) hx hb dX11_shared_66 (by decide) (fun c28 => ?_) (fun c28 => ?_)
        · have h := hp_ip c28 h
          refine lv_aload_n hx hb dX11_shared_81 rfl (lv_at hl 1 rfl) ?_
          refine lv_iload_n hx hb dX11_shared_82 rfl (lv_at hl 3 rfl) ?_
          refine lv_iload hx hb dX11_shared_83 (lv_at hl 5 rfl) ?_
          refine lv_iconst (v := 1) hx hb dX11_shared_85 (by decide) ?_
          refine lv_iadd hx hb dX11_shared_86 ?_
          refine hp_bn h (fun v30 h29 h => ?_)
          refine hp_ci hR (hp_runV (rest := []) (As := [.int x2, .int (x4 + 1)]) hX hR (c_Mo_at h29) cs_X11_49 rfl rfl rfl hd_Mo_at ⟨Nat.le_of_ble_eq_true rfl, Nat.le_of_ble_eq_true rfl⟩ (ci := 10) rfl (hp_own_is h29) rfl hl.1 rfl (Nat.le_of_ble_eq_true rfl) dX11_shared_87 ⟨Nat.le_of_ble_eq_true rfl, Nat.le_of_ble_eq_true rfl⟩) (fun H locs hR => ?_)
          refine lv_istore (lv' := [(6, .int v30), (5, .int v23), (0, .ref a0), (1, .int x1), (2, .int x2), (3, .int x3), (4, .int x4)]) hx hb dX11_shared_90 hl (by decide) rfl (fun ls hl => ?_)
          refine lv_iload_n hx hb dX11_shared_92 rfl (lv_at hl 5 rfl) ?_
          refine lv_iload hx hb dX11_shared_93 (lv_at hl 1 rfl) ?_
          refine lv_iload hx hb dX11_shared_95 (lv_at hl 0 rfl) ?_
          refine hp_bn h (fun v32 h31 h => ?_)
          refine hp_ci hR (hp_runS (rest := [.int x3]) (As := [.int v23, .int v30]) hX hR (c_Mo_spread h31) cs_X11_53 rfl rfl hd_Mo_spread ⟨Nat.le_of_ble_eq_true rfl, Nat.le_of_ble_eq_true rfl⟩ rfl hl.1 rfl (Nat.le_of_ble_eq_true rfl) dX11_shared_97 ⟨Nat.le_of_ble_eq_true rfl, Nat.le_of_ble_eq_true rfl⟩) (fun H locs hR => ?_)
          refine lv_imul hx hb dX11_shared_100 ?_
          refine lv_istore_n (lv' := [(3, .int (x3 * v32)), (6, .int v30), (5, .int v23), (0, .ref a0), (1, .int x1), (2, .int x2), (4, .int x4)]) hx hb dX11_shared_101 rfl hl (by decide) rfl (fun ls hl => ?_)
          refine lv_iinc (v := (x4 + 2)) (lv' := [(4, .int (x4 + 2)), (3, .int (x3 * v32)), (6, .int v30), (5, .int v23), (0, .ref a0), (1, .int x1), (2, .int x2)]) hx hb dX11_shared_102 hl (k := 6) rfl rfl (by decide) rfl (fun ls hl => ?_)
          refine lv_goto (tgt := 5) hx hb dX11_shared_105 (by decide) ?_
          exact ih _ _ _ _ _ hR h (lv_sub hl [4, 5, 6, 1, 0] rfl)
        · have h := hp_in c28 h
          refine lv_aload_n hx hb dX11_shared_69 rfl (lv_at hl 1 rfl) ?_
          refine lv_iload_n hx hb dX11_shared_70 rfl (lv_at hl 2 rfl) ?_
          refine lv_iload hx hb dX11_shared_71 (lv_at hl 5 rfl) ?_
          refine lv_iconst (v := 1) hx hb dX11_shared_73 (by decide) ?_
          refine lv_iadd hx hb dX11_shared_74 ?_
          refine hp_bn h (fun v34 h33 h => ?_)
          refine hp_ci hR (hp_runV (rest := []) (As := [.int x1, .int (x4 + 1)]) hX hR (c_Mo_at h33) cs_X11_49 rfl rfl rfl hd_Mo_at ⟨Nat.le_of_ble_eq_true rfl, Nat.le_of_ble_eq_true rfl⟩ (ci := 10) rfl (hp_own_is h33) rfl hl.1 rfl (Nat.le_of_ble_eq_true rfl) dX11_shared_75 ⟨Nat.le_of_ble_eq_true rfl, Nat.le_of_ble_eq_true rfl⟩) (fun H locs hR => ?_)
          refine lv_goto (tgt := 90) hx hb dX11_shared_78 (by decide) ?_
          refine lv_istore (lv' := [(6, .int v34), (5, .int v23), (0, .ref a0), (1, .int x1), (2, .int x2), (3, .int x3), (4, .int x4)]) hx hb dX11_shared_90 hl (by decide) rfl (fun ls hl => ?_)
          refine lv_iload_n hx hb dX11_shared_92 rfl (lv_at hl 5 rfl) ?_
          refine lv_iload hx hb dX11_shared_93 (lv_at hl 1 rfl) ?_
          refine lv_iload hx hb dX11_shared_95 (lv_at hl 0 rfl) ?_
          refine hp_bn h (fun v36 h35 h => ?_)
          refine hp_ci hR (hp_runS (rest := [.int x3]) (As := [.int v23, .int v34]) hX hR (c_Mo_spread h35) cs_X11_53 rfl rfl hd_Mo_spread ⟨Nat.le_of_ble_eq_true rfl, Nat.le_of_ble_eq_true rfl⟩ rfl hl.1 rfl (Nat.le_of_ble_eq_true rfl) dX11_shared_97 ⟨Nat.le_of_ble_eq_true rfl, Nat.le_of_ble_eq_true rfl⟩) (fun H locs hR => ?_)
          refine lv_imul hx hb dX11_shared_100 ?_
          refine lv_istore_n (lv' := [(3, .int (x3 * v36)), (6, .int v34), (5, .int v23), (0, .ref a0), (1, .int x1), (2, .int x2), (4, .int x4)]) hx hb dX11_shared_101 rfl hl (by decide) rfl (fun ls hl => ?_)
          refine lv_iinc (v := (x4 + 2)) (lv' := [(4, .int (x4 + 2)), (3, .int (x3 * v36)), (6, .int v34), (5, .int v23), (0, .ref a0), (1, .int x1), (2, .int x2)]) hx hb dX11_shared_102 hl (k := 6) rfl rfl (by decide) rfl (fun ls hl => ?_)
          refine lv_goto (tgt := 5) hx hb dX11_shared_105 (by decide) ?_
          exact ih _ _ _ _ _ hR h (lv_sub hl [4, 5, 6, 1, 0] rfl)
set_option maxHeartbeats 4000000 in
set_option maxRecDepth 100000 in
theorem c_Mo_shared {l : Launch} {G : hp_G} {b : Nat} {σ : hp_H} {a0 : Nat} {x1 : Int32} {x2 : Int32} {r : Int32} (h : f_Mo_shared a0 x1 x2 σ = some r) : hp_Met l yX11_shared cX11_shared 7 (some .int) rm_Mo_shared G b [.ref a0, .int x1, .int x2] σ (some (.int r)) σ 0 0 := by
  refine hp_met (by decide +kernel) (Nat.le_of_ble_eq_true rfl) (fun p e s m below meth c ls hX hlocks hr hnm hl hR => ?_)
  obtain ⟨hx, hb, hml, hown, hts⟩ := id hX.1
  have hl : lv_has ls 7 [(0, .ref a0), (1, .int x1), (2, .int x2)] := hl
  unfold f_Mo_shared at h
  have h := hp_own_to h
  refine lv_iconst (v := 1) hx hb dX11_shared_0 (by decide) ?_
  refine lv_istore_n (lv' := [(3, .int 1), (0, .ref a0), (1, .int x1), (2, .int x2)]) hx hb dX11_shared_1 rfl hl (by decide) rfl (fun ls hl => ?_)
  refine lv_iconst (v := 0) hx hb dX11_shared_2 (by decide) ?_
  refine lv_istore (lv' := [(4, .int 0), (3, .int 1), (0, .ref a0), (1, .int x1), (2, .int x2)]) hx hb dX11_shared_3 hl (by decide) rfl (fun ls hl => ?_)
  refine w_Mo_shared_l1 hX hlocks hr ?_ hp_F _ _ _ _ _ hR h (lv_sub hl [2, 3, 4, 1, 0] rfl)
  intro z37 z38 H locs ls hR hl h
  refine lv_iload_n hx hb dX11_shared_108 rfl (lv_at hl 0 rfl) ?_
  exact hp_iretP hX hlocks hr hR h dX11_shared_109
/-! Mo.order(II)I -/
abbrev rm_Mo_order : Room := { frames := 1, cells := 0, slots := 0, locals := 22 }
theorem hd_Mo_order : hp_d yX11_order 2 := by decide +kernel
def f_Mo_order_l1 (a0 : Nat) (x1 : Int32) (x2 : Int32) (σ : hp_H) (K : Int32 → Int32 → Option Int32) : Nat → Int32 → Int32 → Option Int32
  | 0, _, _ => none
  | n + 1, x3, x4 => if x4 < 0 then (K x3 x4) else ((f_Mo_at a0 x1 x4 σ).bind fun v3 => (f_Mo_at a0 x2 x4 σ).bind fun v5 => if v3 = v5 then (f_Mo_order_l1 a0 x1 x2 σ K n x3 (x4 + (-1))) else ((f_Mo_at a0 x1 x4 σ).bind fun v8 => (f_Mo_at a0 x2 x4 σ).bind fun v10 => f_Mo_order_l1 a0 x1 x2 σ K n (v8 - v10) (x4 + (-1))))
def f_Mo_order (a0 : Nat) (x1 : Int32) (x2 : Int32) (σ : hp_H) : Option Int32 := hp_own σ a0 10 (f_Mo_order_l1 a0 x1 x2 σ (fun z11 z12 => some z11) hp_F 0 5)
set_option maxHeartbeats 4000000 in
set_option maxRecDepth 100000 in
theorem w_Mo_order_l1 {p : Program} {l : Launch} {e : Env} {s : State} {m : MethodId} {args : Array Value} {below : List Frame} {meth : Method} {c : Code} {G : hp_G} {b : Nat} {σ : hp_H} {a0 : Nat} {x1 : Int32} {x2 : Int32} {r : Int32} {K : Int32 → Int32 → Option Int32} (hX : hp_X G p s m c args cX11_order 5 RX11) (hlocks : meth.locks = false) (hr : meth.sig.returnType = (some .int))
    (hK : ∀ (x3 : Int32) (x4 : Int32) (H : Heap) (locs : List Loc) (ls : Array Slot), hp_R G b s.heap σ H locs → lv_has ls 5 [(3, .int x3)] → K x3 x4 = some r → W p l e rm_Mo_order s m args below meth c H locs 0 0 (MQ below (hp_Qc G b (some (.int r)) σ) args s 0 0 (fun q => b ≤ q)) (F0 m 53 ls [])) :
    ∀ (n : Nat) (x3 : Int32) (x4 : Int32) (H : Heap) (locs : List Loc) (ls : Array Slot), hp_R G b s.heap σ H locs → f_Mo_order_l1 a0 x1 x2 σ K n x3 x4 = some r → lv_has ls 5 [(0, .ref a0), (1, .int x1), (2, .int x2), (3, .int x3), (4, .int x4)] → W p l e rm_Mo_order s m args below meth c H locs 0 0 (MQ below (hp_Qc G b (some (.int r)) σ) args s 0 0 (fun q => b ≤ q)) (F0 m 5 ls []) := by
  obtain ⟨hx, hb, hml, hown, hts⟩ := id hX.1
  intro n
  induction n with
  | zero =>
    intro x3 x4 H locs ls hR h hl
    rw [f_Mo_order_l1] at h
    cases h
  | succ n ih =>
    intro x3 x4 H locs ls hR h hl
    rw [f_Mo_order_l1] at h
    refine lv_iload hx hb dX11_order_5 (lv_at hl 4 rfl) ?_
    refine lv_if_lt (tgt := 53) hx hb dX11_order_7 (by decide) (fun c1 => ?_) (fun c1 => ?_)
    · have h := hp_ip c1 h
      exact hK _ _ _ _ _ hR (lv_sub hl [3] rfl) h
    · have h := hp_in c1 h
      refine lv_aload_n hx hb dX11_order_10 rfl (lv_at hl 0 rfl) ?_
      refine lv_iload_n hx hb dX11_order_11 rfl (lv_at hl 1 rfl) ?_
      refine lv_iload hx hb dX11_order_12 (lv_at hl 4 rfl) ?_
      refine hp_bn h (fun v3 h2 h => ?_)
      refine hp_ci hR (hp_runV (rest := []) (As := [.int x1, .int x4]) hX hR (c_Mo_at h2) cs_X11_49 rfl rfl rfl hd_Mo_at ⟨Nat.le_of_ble_eq_true rfl, Nat.le_of_ble_eq_true rfl⟩ (ci := 10) rfl (hp_own_is h2) rfl hl.1 rfl (Nat.le_of_ble_eq_true rfl) dX11_order_14 ⟨Nat.le_of_ble_eq_true rfl, Nat.le_of_ble_eq_true rfl⟩) (fun H locs hR => ?_)
      refine lv_aload_n hx hb dX11_order_17 rfl (lv_at hl 0 rfl) ?_
      refine lv_iload_n hx hb dX11_order_18 rfl (lv_at hl 2 rfl) ?_
      refine lv_iload hx hb dX11_order_19 (lv_at hl 4 rfl) ?_
      refine hp_bn h (fun v5 h4 h => ?_)
      refine hp_ci hR (hp_runV (rest := [.int v3]) (As := [.int x2, .int x4]) hX hR (c_Mo_at h4) cs_X11_49 rfl rfl rfl hd_Mo_at ⟨Nat.le_of_ble_eq_true rfl, Nat.le_of_ble_eq_true rfl⟩ (ci := 10) rfl (hp_own_is h4) rfl hl.1 rfl (Nat.le_of_ble_eq_true rfl) dX11_order_21 ⟨Nat.le_of_ble_eq_true rfl, Nat.le_of_ble_eq_true rfl⟩) (fun H locs hR => ?_)
      refine lv_icmp_eq (tgt := 45) hx hb dX11_order_24 (by decide) (fun c6 => ?_) (fun c6 => ?_)
      · have h := hp_ip c6 h
        refine lv_iload_n hx hb dX11_order_45 rfl (lv_at hl 3 rfl) ?_
        refine lv_istore_n (lv' := [(3, .int x3), (0, .ref a0), (1, .int x1), (2, .int x2), (4, .int x4)]) hx hb dX11_order_46 rfl hl (by decide) rfl (fun ls hl => ?_)
        refine lv_iinc (v := (x4 + (-1))) (lv' := [(4, .int (x4 + (-1))), (3, .int x3), (0, .ref a0), (1, .int x1), (2, .int x2)]) hx hb dX11_order_47 hl (k := 4) rfl rfl (by decide) rfl (fun ls hl => ?_)
        refine lv_goto (tgt := 5) hx hb dX11_order_50 (by decide) ?_
        exact ih _ _ _ _ _ hR h (lv_sub hl [2, 3, 4, 1, 0] rfl)
      · have h := hp_in c6 h
        refine lv_aload_n hx hb dX11_order_27 rfl (lv_at hl 0 rfl) ?_
        refine lv_iload_n hx hb dX11_order_28 rfl (lv_at hl 1 rfl) ?_
        refine lv_iload hx hb dX11_order_29 (lv_at hl 4 rfl) ?_
        refine hp_bn h (fun v8 h7 h => ?_)
        refine hp_ci hR (hp_runV (rest := []) (As := [.int x1, .int x4]) hX hR (c_Mo_at h7) cs_X11_49 rfl rfl rfl hd_Mo_at ⟨Nat.le_of_ble_eq_true rfl, Nat.le_of_ble_eq_true rfl⟩ (ci := 10) rfl (hp_own_is h7) rfl hl.1 rfl (Nat.le_of_ble_eq_true rfl) dX11_order_31 ⟨Nat.le_of_ble_eq_true rfl, Nat.le_of_ble_eq_true rfl⟩) (fun H locs hR => ?_)
        refine lv_aload_n hx hb dX11_order_34 rfl (lv_at hl 0 rfl) ?_
        refine lv_iload_n hx hb dX11_order_35 rfl (lv_at hl 2 rfl) ?_
        refine lv_iload hx hb dX11_order_36 (lv_at hl 4 rfl) ?_
        refine hp_bn h (fun v10 h9 h => ?_)
        refine hp_ci hR (hp_runV (rest := [.int v8]) (As := [.int x2, .int x4]) hX hR (c_Mo_at h9) cs_X11_49 rfl rfl rfl hd_Mo_at ⟨Nat.le_of_ble_eq_true rfl, Nat.le_of_ble_eq_true rfl⟩ (ci := 10) rfl (hp_own_is h9) rfl hl.1 rfl (Nat.le_of_ble_eq_true rfl) dX11_order_38 ⟨Nat.le_of_ble_eq_true rfl, Nat.le_of_ble_eq_true rfl⟩) (fun H locs hR => ?_)
        refine lv_isub hx hb dX11_order_41 ?_
        refine lv_goto (tgt := 46) hx hb dX11_order_42 (by decide) ?_
        refine lv_istore_n (lv' := [(3, .int (v8 - v10)), (0, .ref a0), (1, .int x1), (2, .int x2), (4, .int x4)]) hx hb dX11_order_46 rfl hl (by decide) rfl (fun ls hl => ?_)
        refine lv_iinc (v := (x4 + (-1))) (lv' := [(4, .int (x4 + (-1))), (3, .int (v8 - v10)), (0, .ref a0), (1, .int x1), (2, .int x2)]) hx hb dX11_order_47 hl (k := 4) rfl rfl (by decide) rfl (fun ls hl => ?_)
        refine lv_goto (tgt := 5) hx hb dX11_order_50 (by decide) ?_
        exact ih _ _ _ _ _ hR h (lv_sub hl [2, 3, 4, 1, 0] rfl)
set_option maxHeartbeats 4000000 in
set_option maxRecDepth 100000 in
theorem c_Mo_order {l : Launch} {G : hp_G} {b : Nat} {σ : hp_H} {a0 : Nat} {x1 : Int32} {x2 : Int32} {r : Int32} (h : f_Mo_order a0 x1 x2 σ = some r) : hp_Met l yX11_order cX11_order 5 (some .int) rm_Mo_order G b [.ref a0, .int x1, .int x2] σ (some (.int r)) σ 0 0 := by
  refine hp_met (by decide +kernel) (Nat.le_of_ble_eq_true rfl) (fun p e s m below meth c ls hX hlocks hr hnm hl hR => ?_)
  obtain ⟨hx, hb, hml, hown, hts⟩ := id hX.1
  have hl : lv_has ls 5 [(0, .ref a0), (1, .int x1), (2, .int x2)] := hl
  unfold f_Mo_order at h
  have h := hp_own_to h
  refine lv_iconst (v := 0) hx hb dX11_order_0 (by decide) ?_
  refine lv_istore_n (lv' := [(3, .int 0), (0, .ref a0), (1, .int x1), (2, .int x2)]) hx hb dX11_order_1 rfl hl (by decide) rfl (fun ls hl => ?_)
  refine lv_iconst (v := 5) hx hb dX11_order_2 (by decide) ?_
  refine lv_istore (lv' := [(4, .int 5), (3, .int 0), (0, .ref a0), (1, .int x1), (2, .int x2)]) hx hb dX11_order_3 hl (by decide) rfl (fun ls hl => ?_)
  refine w_Mo_order_l1 hX hlocks hr ?_ hp_F _ _ _ _ _ hR h (lv_sub hl [2, 3, 4, 1, 0] rfl)
  intro z11 z12 H locs ls hR hl h
  refine lv_iload_n hx hb dX11_order_53 rfl (lv_at hl 0 rfl) ?_
  exact hp_iretP hX hlocks hr hR h dX11_order_54
/-! Mo.copies(II)V -/
abbrev rm_Mo_copies : Room := { frames := 0, cells := 0, slots := 0, locals := 0 }
theorem hd_Mo_copies : hp_d yX11_copies 2 := by decide +kernel
def f_Mo_copies_l1 (a0 : Nat) (x1 : Int32) (x2 : Int32) (K : Int32 → hp_H → Option hp_H) : Nat → Int32 → hp_H → Option hp_H
  | 0, _, _ => none
  | n + 1, x3, σ => if (6 : Int32) ≤ x3 then (K x3 σ) else ((hp_gR σ a0 10 12).bind fun q2 => (hp_gR σ a0 10 12).bind fun q3 => (hp_aI σ q3 0 (((6 : Int32) * x2) + x3)).bind fun v4 => (hp_sI σ q2 0 (((6 : Int32) * x1) + x3) v4).bind fun σ => f_Mo_copies_l1 a0 x1 x2 K n (x3 + 1) σ)
def f_Mo_copies (a0 : Nat) (x1 : Int32) (x2 : Int32) (σ : hp_H) : Option hp_H := hp_own σ a0 10 (f_Mo_copies_l1 a0 x1 x2 (fun z5 σ => some σ) hp_F 0 σ)
set_option maxHeartbeats 4000000 in
set_option maxRecDepth 100000 in
theorem w_Mo_copies_l1 {p : Program} {l : Launch} {e : Env} {s : State} {m : MethodId} {args : Array Value} {below : List Frame} {meth : Method} {c : Code} {G : hp_G} {b : Nat} {a0 : Nat} {x1 : Int32} {x2 : Int32} {σ' : hp_H} {K : Int32 → hp_H → Option hp_H} (hX : hp_X G p s m c args cX11_copies 4 RX11) (hlocks : meth.locks = false) (hr : meth.sig.returnType = none)
    (hK : ∀ (x3 : Int32) (σ : hp_H) (H : Heap) (locs : List Loc) (ls : Array Slot), hp_R G b s.heap σ H locs → lv_has ls 4 [] → K x3 σ = some σ' → W p l e rm_Mo_copies s m args below meth c H locs 0 0 (MQ below (hp_Qc G b none σ') args s 0 0 (fun q => b ≤ q)) (F0 m 36 ls [])) :
    ∀ (n : Nat) (x3 : Int32) (σ : hp_H) (H : Heap) (locs : List Loc) (ls : Array Slot), hp_R G b s.heap σ H locs → f_Mo_copies_l1 a0 x1 x2 K n x3 σ = some σ' → lv_has ls 4 [(0, .ref a0), (1, .int x1), (2, .int x2), (3, .int x3)] → W p l e rm_Mo_copies s m args below meth c H locs 0 0 (MQ below (hp_Qc G b none σ') args s 0 0 (fun q => b ≤ q)) (F0 m 2 ls []) := by
  obtain ⟨hx, hb, hml, hown, hts⟩ := id hX.1
  intro n
  induction n with
  | zero =>
    intro x3 σ H locs ls hR h hl
    rw [f_Mo_copies_l1] at h
    cases h
  | succ n ih =>
    intro x3 σ H locs ls hR h hl
    rw [f_Mo_copies_l1] at h
    refine lv_iload_n hx hb dX11_copies_2 rfl (lv_at hl 3 rfl) ?_
    refine lv_bipush (v := 6) hx hb dX11_copies_3 (by decide) ?_
    refine lv_icmp_ge (tgt := 36) hx hb dX11_copies_5 (by decide) (fun c1 => ?_) (fun c1 => ?_)
    · have h := hp_ip c1 h
      exact hK _ _ _ _ _ hR (lv_sub hl [] rfl) h
    · have h := hp_in c1 h
      refine lv_aload_n hx hb dX11_copies_8 rfl (lv_at hl 0 rfl) ?_
      refine hp_getR hX hR (ci := 10) 12 rfl wf11 (by decide) wq3_179 dX11_copies_9 h (fun q2 h => ?_)
      refine lv_bipush (v := 6) hx hb dX11_copies_12 (by decide) ?_
      refine lv_iload_n hx hb dX11_copies_14 rfl (lv_at hl 1 rfl) ?_
      refine lv_imul hx hb dX11_copies_15 ?_
      refine lv_iload_n hx hb dX11_copies_16 rfl (lv_at hl 3 rfl) ?_
      refine lv_iadd hx hb dX11_copies_17 ?_
      refine lv_aload_n hx hb dX11_copies_18 rfl (lv_at hl 0 rfl) ?_
      refine hp_getR hX hR (ci := 10) 12 rfl wf11 (by decide) wq3_179 dX11_copies_19 h (fun q3 h => ?_)
      refine lv_bipush (v := 6) hx hb dX11_copies_22 (by decide) ?_
      refine lv_iload_n hx hb dX11_copies_24 rfl (lv_at hl 2 rfl) ?_
      refine lv_imul hx hb dX11_copies_25 ?_
      refine lv_iload_n hx hb dX11_copies_26 rfl (lv_at hl 3 rfl) ?_
      refine lv_iadd hx hb dX11_copies_27 ?_
      refine hp_iald hX hR dX11_copies_28 h (fun v4 h => ?_)
      refine hp_iast hX hR dX11_copies_29 h (fun σ H locs h hR => ?_)
      refine lv_iinc (v := (x3 + 1)) (lv' := [(3, .int (x3 + 1)), (0, .ref a0), (1, .int x1), (2, .int x2)]) hx hb dX11_copies_30 hl (k := 3) rfl rfl (by decide) rfl (fun ls hl => ?_)
      refine lv_goto (tgt := 2) hx hb dX11_copies_33 (by decide) ?_
      exact ih _ _ _ _ _ hR h (lv_sub hl [1, 2, 3, 0] rfl)
set_option maxHeartbeats 4000000 in
set_option maxRecDepth 100000 in
theorem c_Mo_copies {l : Launch} {G : hp_G} {b : Nat} {σ : hp_H} {a0 : Nat} {x1 : Int32} {x2 : Int32} {σ' : hp_H} (h : f_Mo_copies a0 x1 x2 σ = some σ') : hp_Met l yX11_copies cX11_copies 4 none rm_Mo_copies G b [.ref a0, .int x1, .int x2] σ none σ' 0 0 := by
  refine hp_met (by decide +kernel) (Nat.le_of_ble_eq_true rfl) (fun p e s m below meth c ls hX hlocks hr hnm hl hR => ?_)
  obtain ⟨hx, hb, hml, hown, hts⟩ := id hX.1
  have hl : lv_has ls 4 [(0, .ref a0), (1, .int x1), (2, .int x2)] := hl
  unfold f_Mo_copies at h
  have h := hp_own_to h
  refine lv_iconst (v := 0) hx hb dX11_copies_0 (by decide) ?_
  refine lv_istore_n (lv' := [(3, .int 0), (0, .ref a0), (1, .int x1), (2, .int x2)]) hx hb dX11_copies_1 rfl hl (by decide) rfl (fun ls hl => ?_)
  refine w_Mo_copies_l1 hX hlocks hr ?_ hp_F _ _ _ _ _ hR h (lv_sub hl [1, 2, 3, 0] rfl)
  intro z5 σ H locs ls hR hl h
  exact hp_vret hX hlocks hr hR h dX11_copies_36
theorem cs_X11_60 : hp_WV RX11 60 RX11 yX11_order cX11_order 5 (some .int) := ⟨wq4_34, wq4_36, wp2_3, wq1_11, wq4_37⟩
/-! Mo.settles()V -/
abbrev rm_Mo_settles : Room := { frames := 2, cells := 0, slots := 0, locals := 46 }
theorem hd_Mo_settles : hp_d yX11_settles 0 := by decide +kernel
def f_Mo_settles_l2 (a0 : Nat) (x1 : Int32) (K : Int32 → hp_H → Option hp_H) : Nat → Int32 → hp_H → Option hp_H
  | 0, _, _ => none
  | n + 1, x2, σ => if (6 : Int32) ≤ x2 then (K x2 σ) else ((f_Mo_at a0 x1 x2 σ).bind fun v8 => (hp_gR σ a0 10 12).bind fun q9 => (f_Mo_at a0 (x1 - 1) x2 σ).bind fun v11 => (hp_sI σ q9 0 (((6 : Int32) * x1) + x2) v11).bind fun σ => (hp_gR σ a0 10 12).bind fun q12 => (hp_sI σ q12 0 ((((6 : Int32) * x1) - 6) + x2) v8).bind fun σ => f_Mo_settles_l2 a0 x1 K n (x2 + 1) σ)
def f_Mo_settles_l1 (a0 : Nat) (K : Int32 → hp_H → Option hp_H) : Nat → Int32 → hp_H → Option hp_H
  | 0, _, _ => none
  | n + 1, x1, σ => if x1 ≤ 0 then (K x1 σ) else ((f_Mo_order a0 (x1 - 1) x1 σ).bind fun v4 => if v4 ≤ 0 then (K x1 σ) else (f_Mo_settles_l2 a0 x1 (fun z13 σ => f_Mo_settles_l1 a0 K n (x1 + (-1)) σ) hp_F 0 σ))
def f_Mo_settles (a0 : Nat) (σ : hp_H) : Option hp_H := hp_own σ a0 10 ((hp_gI σ a0 10 13).bind fun v1 => f_Mo_settles_l1 a0 (fun z14 σ => some σ) hp_F (v1 - 1) σ)
set_option maxHeartbeats 4000000 in
set_option maxRecDepth 100000 in
theorem w_Mo_settles_l2 {p : Program} {l : Launch} {e : Env} {s : State} {m : MethodId} {args : Array Value} {below : List Frame} {meth : Method} {c : Code} {G : hp_G} {b : Nat} {a0 : Nat} {x1 : Int32} {σ' : hp_H} {K : Int32 → hp_H → Option hp_H} (hX : hp_X G p s m c args cX11_settles 4 RX11) (hlocks : meth.locks = false) (hr : meth.sig.returnType = none)
    (hK : ∀ (x2 : Int32) (σ : hp_H) (H : Heap) (locs : List Loc) (ls : Array Slot), hp_R G b s.heap σ H locs → lv_has ls 4 [(0, .ref a0), (1, .int x1)] → K x2 σ = some σ' → W p l e rm_Mo_settles s m args below meth c H locs 0 0 (MQ below (hp_Qc G b none σ') args s 0 0 (fun q => b ≤ q)) (F0 m 77 ls [])) :
    ∀ (n : Nat) (x2 : Int32) (σ : hp_H) (H : Heap) (locs : List Loc) (ls : Array Slot), hp_R G b s.heap σ H locs → f_Mo_settles_l2 a0 x1 K n x2 σ = some σ' → lv_has ls 4 [(0, .ref a0), (1, .int x1), (2, .int x2)] → W p l e rm_Mo_settles s m args below meth c H locs 0 0 (MQ below (hp_Qc G b none σ') args s 0 0 (fun q => b ≤ q)) (F0 m 24 ls []) := by
  obtain ⟨hx, hb, hml, hown, hts⟩ := id hX.1
  intro n
  induction n with
  | zero =>
    intro x2 σ H locs ls hR h hl
    rw [f_Mo_settles_l2] at h
    cases h
  | succ n ih =>
    intro x2 σ H locs ls hR h hl
    rw [f_Mo_settles_l2] at h
    refine lv_iload_n hx hb dX11_settles_24 rfl (lv_at hl 2 rfl) ?_
    refine lv_bipush (v := 6) hx hb dX11_settles_25 (by decide) ?_
    refine lv_icmp_ge (tgt := 77) hx hb dX11_settles_27 (by decide) (fun c6 => ?_) (fun c6 => ?_)
    · have h := hp_ip c6 h
      exact hK _ _ _ _ _ hR (lv_sub hl [0, 1] rfl) h
    · have h := hp_in c6 h
      refine lv_aload_n hx hb dX11_settles_30 rfl (lv_at hl 0 rfl) ?_
      refine lv_iload_n hx hb dX11_settles_31 rfl (lv_at hl 1 rfl) ?_
      refine lv_iload_n hx hb dX11_settles_32 rfl (lv_at hl 2 rfl) ?_
      refine hp_bn h (fun v8 h7 h => ?_)
      refine hp_ci hR (hp_runV (rest := []) (As := [.int x1, .int x2]) hX hR (c_Mo_at h7) cs_X11_49 rfl rfl rfl hd_Mo_at ⟨Nat.le_of_ble_eq_true rfl, Nat.le_of_ble_eq_true rfl⟩ (ci := 10) rfl (hp_own_is h7) rfl hl.1 rfl (Nat.le_of_ble_eq_true rfl) dX11_settles_33 ⟨Nat.le_of_ble_eq_true rfl, Nat.le_of_ble_eq_true rfl⟩) (fun H locs hR => ?_)
      refine lv_istore_n (lv' := [(3, .int v8), (0, .ref a0), (1, .int x1), (2, .int x2)]) hx hb dX11_settles_36 rfl hl (by decide) rfl (fun ls hl => ?_)
      refine lv_aload_n hx hb dX11_settles_37 rfl (lv_at hl 1 rfl) ?_
      refine hp_getR hX hR (ci := 10) 12 rfl wf11 (by decide) wq3_179 dX11_settles_38 h (fun q9 h => ?_)
      refine lv_bipush (v := 6) hx hb dX11_settles_41 (by decide) ?_
      refine lv_iload_n hx hb dX11_settles_43 rfl (lv_at hl 2 rfl) ?_
      refine lv_imul hx hb dX11_settles_44 ?_
      refine lv_iload_n hx hb dX11_settles_45 rfl (lv_at hl 3 rfl) ?_
      refine lv_iadd hx hb dX11_settles_46 ?_
      refine lv_aload_n hx hb dX11_settles_47 rfl (lv_at hl 1 rfl) ?_
      refine lv_iload_n hx hb dX11_settles_48 rfl (lv_at hl 2 rfl) ?_
      refine lv_iconst (v := 1) hx hb dX11_settles_49 (by decide) ?_
      refine lv_isub hx hb dX11_settles_50 ?_
      refine lv_iload_n hx hb dX11_settles_51 rfl (lv_at hl 3 rfl) ?_
      refine hp_bn h (fun v11 h10 h => ?_)
      refine hp_ci hR (hp_runV (rest := [.int (((6 : Int32) * x1) + x2), .ref q9]) (As := [.int (x1 - 1), .int x2]) hX hR (c_Mo_at h10) cs_X11_49 rfl rfl rfl hd_Mo_at ⟨Nat.le_of_ble_eq_true rfl, Nat.le_of_ble_eq_true rfl⟩ (ci := 10) rfl (hp_own_is h10) rfl hl.1 rfl (Nat.le_of_ble_eq_true rfl) dX11_settles_52 ⟨Nat.le_of_ble_eq_true rfl, Nat.le_of_ble_eq_true rfl⟩) (fun H locs hR => ?_)
      refine hp_iast hX hR dX11_settles_55 h (fun σ H locs h hR => ?_)
      refine lv_aload_n hx hb dX11_settles_56 rfl (lv_at hl 1 rfl) ?_
      refine hp_getR hX hR (ci := 10) 12 rfl wf11 (by decide) wq3_179 dX11_settles_57 h (fun q12 h => ?_)
      refine lv_bipush (v := 6) hx hb dX11_settles_60 (by decide) ?_
      refine lv_iload_n hx hb dX11_settles_62 rfl (lv_at hl 2 rfl) ?_
      refine lv_imul hx hb dX11_settles_63 ?_
      refine lv_bipush (v := 6) hx hb dX11_settles_64 (by decide) ?_
      refine lv_isub hx hb dX11_settles_66 ?_
      refine lv_iload_n hx hb dX11_settles_67 rfl (lv_at hl 3 rfl) ?_
      refine lv_iadd hx hb dX11_settles_68 ?_
      refine lv_iload_n hx hb dX11_settles_69 rfl (lv_at hl 0 rfl) ?_
      refine hp_iast hX hR dX11_settles_70 h (fun σ H locs h hR => ?_)
      refine lv_iinc (v := (x2 + 1)) (lv' := [(2, .int (x2 + 1)), (3, .int v8), (0, .ref a0), (1, .int x1)]) hx hb dX11_settles_71 hl (k := 3) rfl rfl (by decide) rfl (fun ls hl => ?_)
      refine lv_goto (tgt := 24) hx hb dX11_settles_74 (by decide) ?_
      exact ih _ _ _ _ _ hR h (lv_sub hl [2, 3, 0] rfl)
set_option maxHeartbeats 4000000 in
set_option maxRecDepth 100000 in
theorem w_Mo_settles_l1 {p : Program} {l : Launch} {e : Env} {s : State} {m : MethodId} {args : Array Value} {below : List Frame} {meth : Method} {c : Code} {G : hp_G} {b : Nat} {a0 : Nat} {σ' : hp_H} {K : Int32 → hp_H → Option hp_H} (hX : hp_X G p s m c args cX11_settles 4 RX11) (hlocks : meth.locks = false) (hr : meth.sig.returnType = none)
    (hK : ∀ (x1 : Int32) (σ : hp_H) (H : Heap) (locs : List Loc) (ls : Array Slot), hp_R G b s.heap σ H locs → lv_has ls 4 [] → K x1 σ = some σ' → W p l e rm_Mo_settles s m args below meth c H locs 0 0 (MQ below (hp_Qc G b none σ') args s 0 0 (fun q => b ≤ q)) (F0 m 83 ls [])) :
    ∀ (n : Nat) (x1 : Int32) (σ : hp_H) (H : Heap) (locs : List Loc) (ls : Array Slot), hp_R G b s.heap σ H locs → f_Mo_settles_l1 a0 K n x1 σ = some σ' → lv_has ls 4 [(0, .ref a0), (1, .int x1)] → W p l e rm_Mo_settles s m args below meth c H locs 0 0 (MQ below (hp_Qc G b none σ') args s 0 0 (fun q => b ≤ q)) (F0 m 7 ls []) := by
  obtain ⟨hx, hb, hml, hown, hts⟩ := id hX.1
  intro n
  induction n with
  | zero =>
    intro x1 σ H locs ls hR h hl
    rw [f_Mo_settles_l1] at h
    cases h
  | succ n ih =>
    intro x1 σ H locs ls hR h hl
    rw [f_Mo_settles_l1] at h
    refine lv_iload_n hx hb dX11_settles_7 rfl (lv_at hl 1 rfl) ?_
    refine lv_if_le (tgt := 83) hx hb dX11_settles_8 (by decide) (fun c2 => ?_) (fun c2 => ?_)
    · have h := hp_ip c2 h
      exact hK _ _ _ _ _ hR (lv_sub hl [] rfl) h
    · have h := hp_in c2 h
      refine lv_aload_n hx hb dX11_settles_11 rfl (lv_at hl 0 rfl) ?_
      refine lv_iload_n hx hb dX11_settles_12 rfl (lv_at hl 1 rfl) ?_
      refine lv_iconst (v := 1) hx hb dX11_settles_13 (by decide) ?_
      refine lv_isub hx hb dX11_settles_14 ?_
      refine lv_iload_n hx hb dX11_settles_15 rfl (lv_at hl 1 rfl) ?_
      refine hp_bn h (fun v4 h3 h => ?_)
      refine hp_ci hR (hp_runV (rest := []) (As := [.int (x1 - 1), .int x1]) hX hR (c_Mo_order h3) cs_X11_60 rfl rfl rfl hd_Mo_order ⟨Nat.le_of_ble_eq_true rfl, Nat.le_of_ble_eq_true rfl⟩ (ci := 10) rfl (hp_own_is h3) rfl hl.1 rfl (Nat.le_of_ble_eq_true rfl) dX11_settles_16 ⟨Nat.le_of_ble_eq_true rfl, Nat.le_of_ble_eq_true rfl⟩) (fun H locs hR => ?_)
      refine lv_if_le (tgt := 83) hx hb dX11_settles_19 (by decide) (fun c5 => ?_) (fun c5 => ?_)
      · have h := hp_ip c5 h
        exact hK _ _ _ _ _ hR (lv_sub hl [] rfl) h
      · have h := hp_in c5 h
        refine lv_iconst (v := 0) hx hb dX11_settles_22 (by decide) ?_
        refine lv_istore_n (lv' := [(2, .int 0), (0, .ref a0), (1, .int x1)]) hx hb dX11_settles_23 rfl hl (by decide) rfl (fun ls hl => ?_)
        refine w_Mo_settles_l2 hX hlocks hr ?_ hp_F _ _ _ _ _ hR h (lv_sub hl [1, 2, 0] rfl)
        intro z13 σ H locs ls hR hl h
        refine lv_iinc (v := (x1 + (-1))) (lv' := [(1, .int (x1 + (-1))), (0, .ref a0)]) hx hb dX11_settles_77 hl (k := 1) rfl rfl (by decide) rfl (fun ls hl => ?_)
        refine lv_goto (tgt := 7) hx hb dX11_settles_80 (by decide) ?_
        exact ih _ _ _ _ _ hR h (lv_sub hl [1, 0] rfl)
set_option maxHeartbeats 4000000 in
set_option maxRecDepth 100000 in
theorem c_Mo_settles {l : Launch} {G : hp_G} {b : Nat} {σ : hp_H} {a0 : Nat} {σ' : hp_H} (h : f_Mo_settles a0 σ = some σ') : hp_Met l yX11_settles cX11_settles 4 none rm_Mo_settles G b [.ref a0] σ none σ' 0 0 := by
  refine hp_met (by decide +kernel) (Nat.le_of_ble_eq_true rfl) (fun p e s m below meth c ls hX hlocks hr hnm hl hR => ?_)
  obtain ⟨hx, hb, hml, hown, hts⟩ := id hX.1
  have hl : lv_has ls 4 [(0, .ref a0)] := hl
  unfold f_Mo_settles at h
  have h := hp_own_to h
  refine lv_aload_n hx hb dX11_settles_0 rfl (lv_at hl 0 rfl) ?_
  refine hp_getI hX hR (ci := 10) 13 rfl wf11 (by decide) wq3_180 dX11_settles_1 h (fun v1 h => ?_)
  refine lv_iconst (v := 1) hx hb dX11_settles_4 (by decide) ?_
  refine lv_isub hx hb dX11_settles_5 ?_
  refine lv_istore_n (lv' := [(1, .int (v1 - 1)), (0, .ref a0)]) hx hb dX11_settles_6 rfl hl (by decide) rfl (fun ls hl => ?_)
  refine w_Mo_settles_l1 hX hlocks hr ?_ hp_F _ _ _ _ _ hR h (lv_sub hl [1, 0] rfl)
  intro z14 σ H locs ls hR hl h
  exact hp_vret hX hlocks hr hR h dX11_settles_83
theorem cs_X11_67 : hp_WV RX11 67 RX11 yX11_covers cX11_covers 5 (some .boolean) := ⟨wq4_18, wq4_20, wp1_15, wq1_11, wq4_21⟩
theorem cs_X11_63 : hp_WV RX11 63 RX11 yX11_copies cX11_copies 4 none := ⟨wq4_26, wq4_28, wp2_1, wq1_11, wq4_29⟩
theorem cs_X11_71 : hp_WV RX11 71 RX11 yX11_settles cX11_settles 4 none := ⟨wq4_30, wq4_32, wp2_2, wq1_11, wq4_33⟩
/-! Mo.comes()V -/
abbrev rm_Mo_comes : Room := { frames := 3, cells := 0, slots := 0, locals := 69 }
theorem hd_Mo_comes : hp_d yX11_comes 0 := by decide +kernel
def f_Mo_comes_l1 (a0 : Nat) (x1 : Int32) (σ : hp_H) (K : Int32 → Int32 → Option hp_H) : Nat → Int32 → Int32 → Option hp_H
  | 0, _, _ => none
  | n + 1, x2, x3 => if x1 ≤ x3 then (K x2 x3) else (if x2 = 0 then (f_Mo_comes_l1 a0 x1 σ K n 0 (x3 + 1)) else ((f_Mo_covers a0 x3 x1 σ).bind fun v5 => if v5 = 0 then (f_Mo_comes_l1 a0 x1 σ K n 1 (x3 + 1)) else (f_Mo_comes_l1 a0 x1 σ K n 0 (x3 + 1))))
def f_Mo_comes_l2 (a0 : Nat) (x1 : Int32) (K : Int32 → Int32 → hp_H → Option hp_H) : Nat → Int32 → Int32 → hp_H → Option hp_H
  | 0, _, _, _ => none
  | n + 1, x3, x4, σ => if x1 ≤ x4 then (K x3 x4 σ) else ((f_Mo_covers a0 x1 x4 σ).bind fun v12 => if v12 = 0 then ((f_Mo_copies a0 x3 x4 σ).bind fun σ => f_Mo_comes_l2 a0 x1 K n (x3 + 1) (x4 + 1) σ) else (f_Mo_comes_l2 a0 x1 K n x3 (x4 + 1) σ))
def f_Mo_comes (a0 : Nat) (σ : hp_H) : Option hp_H := hp_own σ a0 10 ((hp_gI σ a0 10 13).bind fun v1 => f_Mo_comes_l1 a0 v1 σ (fun z7 z8 => if z7 = 0 then (some σ) else (f_Mo_comes_l2 a0 v1 (fun z15 z16 σ => (f_Mo_copies a0 z15 v1 σ).bind fun σ => (hp_pI σ a0 10 13 (z15 + 1)).bind fun σ => (f_Mo_settles a0 σ).bind fun σ => some σ) hp_F 0 0 σ)) hp_F 1 0)
set_option maxHeartbeats 4000000 in
set_option maxRecDepth 100000 in
theorem w_Mo_comes_l1 {p : Program} {l : Launch} {e : Env} {s : State} {m : MethodId} {args : Array Value} {below : List Frame} {meth : Method} {c : Code} {G : hp_G} {b : Nat} {σ : hp_H} {a0 : Nat} {x1 : Int32} {σ' : hp_H} {K : Int32 → Int32 → Option hp_H} (hX : hp_X G p s m c args cX11_comes 5 RX11) (hlocks : meth.locks = false) (hr : meth.sig.returnType = none)
    (hK : ∀ (x2 : Int32) (x3 : Int32) (H : Heap) (locs : List Loc) (ls : Array Slot), hp_R G b s.heap σ H locs → lv_has ls 5 [(0, .ref a0), (1, .int x1), (2, .int x2)] → K x2 x3 = some σ' → W p l e rm_Mo_comes s m args below meth c H locs 0 0 (MQ below (hp_Qc G b none σ') args s 0 0 (fun q => b ≤ q)) (F0 m 39 ls [])) :
    ∀ (n : Nat) (x2 : Int32) (x3 : Int32) (H : Heap) (locs : List Loc) (ls : Array Slot), hp_R G b s.heap σ H locs → f_Mo_comes_l1 a0 x1 σ K n x2 x3 = some σ' → lv_has ls 5 [(0, .ref a0), (1, .int x1), (2, .int x2), (3, .int x3)] → W p l e rm_Mo_comes s m args below meth c H locs 0 0 (MQ below (hp_Qc G b none σ') args s 0 0 (fun q => b ≤ q)) (F0 m 9 ls []) := by
  obtain ⟨hx, hb, hml, hown, hts⟩ := id hX.1
  intro n
  induction n with
  | zero =>
    intro x2 x3 H locs ls hR h hl
    rw [f_Mo_comes_l1] at h
    cases h
  | succ n ih =>
    intro x2 x3 H locs ls hR h hl
    rw [f_Mo_comes_l1] at h
    refine lv_iload_n hx hb dX11_comes_9 rfl (lv_at hl 3 rfl) ?_
    refine lv_iload_n hx hb dX11_comes_10 rfl (lv_at hl 1 rfl) ?_
    refine lv_icmp_ge (tgt := 39) hx hb dX11_comes_11 (by decide) (fun c2 => ?_) (fun c2 => ?_)
    · have h := hp_ip c2 h
      exact hK _ _ _ _ _ hR (lv_sub hl [0, 1, 2] rfl) h
    · have h := hp_in c2 h
      refine lv_iload_n hx hb dX11_comes_14 rfl (lv_at hl 2 rfl) ?_
      refine lv_if_eq (tgt := 31) hx hb dX11_comes_15 (by decide) (fun c3 => ?_) (fun c3 => ?_)
      · have h := hp_ip c3 h
        refine lv_iconst (v := 0) hx hb dX11_comes_31 (by decide) ?_
        refine lv_istore_n (lv' := [(2, .int 0), (0, .ref a0), (1, .int x1), (3, .int x3)]) hx hb dX11_comes_32 rfl hl (by decide) rfl (fun ls hl => ?_)
        refine lv_iinc (v := (x3 + 1)) (lv' := [(3, .int (x3 + 1)), (2, .int 0), (0, .ref a0), (1, .int x1)]) hx hb dX11_comes_33 hl (k := 3) rfl rfl (by decide) rfl (fun ls hl => ?_)
        refine lv_goto (tgt := 9) hx hb dX11_comes_36 (by decide) ?_
        exact ih _ _ _ _ _ hR h (lv_sub hl [2, 3, 1, 0] rfl)
      · have h := hp_in c3 h
        refine lv_aload_n hx hb dX11_comes_18 rfl (lv_at hl 0 rfl) ?_
        refine lv_iload_n hx hb dX11_comes_19 rfl (lv_at hl 3 rfl) ?_
        refine lv_iload_n hx hb dX11_comes_20 rfl (lv_at hl 1 rfl) ?_
        refine hp_bn h (fun v5 h4 h => ?_)
        refine hp_ci hR (hp_runV (rest := []) (As := [.int x3, .int x1]) hX hR (c_Mo_covers h4) cs_X11_67 rfl rfl rfl hd_Mo_covers ⟨Nat.le_of_ble_eq_true rfl, Nat.le_of_ble_eq_true rfl⟩ (ci := 10) rfl (hp_own_is h4) rfl hl.1 rfl (Nat.le_of_ble_eq_true rfl) dX11_comes_21 ⟨Nat.le_of_ble_eq_true rfl, Nat.le_of_ble_eq_true rfl⟩) (fun H locs hR => ?_)
        refine lv_if_ne (tgt := 31) hx hb dX11_comes_24 (by decide) (fun c6 => ?_) (fun c6 => ?_)
        · have h := hp_in c6 h
          refine lv_iconst (v := 0) hx hb dX11_comes_31 (by decide) ?_
          refine lv_istore_n (lv' := [(2, .int 0), (0, .ref a0), (1, .int x1), (3, .int x3)]) hx hb dX11_comes_32 rfl hl (by decide) rfl (fun ls hl => ?_)
          refine lv_iinc (v := (x3 + 1)) (lv' := [(3, .int (x3 + 1)), (2, .int 0), (0, .ref a0), (1, .int x1)]) hx hb dX11_comes_33 hl (k := 3) rfl rfl (by decide) rfl (fun ls hl => ?_)
          refine lv_goto (tgt := 9) hx hb dX11_comes_36 (by decide) ?_
          exact ih _ _ _ _ _ hR h (lv_sub hl [2, 3, 1, 0] rfl)
        · have h := hp_ip c6 h
          refine lv_iconst (v := 1) hx hb dX11_comes_27 (by decide) ?_
          refine lv_goto (tgt := 32) hx hb dX11_comes_28 (by decide) ?_
          refine lv_istore_n (lv' := [(2, .int 1), (0, .ref a0), (1, .int x1), (3, .int x3)]) hx hb dX11_comes_32 rfl hl (by decide) rfl (fun ls hl => ?_)
          refine lv_iinc (v := (x3 + 1)) (lv' := [(3, .int (x3 + 1)), (2, .int 1), (0, .ref a0), (1, .int x1)]) hx hb dX11_comes_33 hl (k := 3) rfl rfl (by decide) rfl (fun ls hl => ?_)
          refine lv_goto (tgt := 9) hx hb dX11_comes_36 (by decide) ?_
          exact ih _ _ _ _ _ hR h (lv_sub hl [2, 3, 1, 0] rfl)
set_option maxHeartbeats 4000000 in
set_option maxRecDepth 100000 in
theorem w_Mo_comes_l2 {p : Program} {l : Launch} {e : Env} {s : State} {m : MethodId} {args : Array Value} {below : List Frame} {meth : Method} {c : Code} {G : hp_G} {b : Nat} {a0 : Nat} {x1 : Int32} {σ' : hp_H} {K : Int32 → Int32 → hp_H → Option hp_H} (hX : hp_X G p s m c args cX11_comes 5 RX11) (hlocks : meth.locks = false) (hr : meth.sig.returnType = none)
    (hK : ∀ (x3 : Int32) (x4 : Int32) (σ : hp_H) (H : Heap) (locs : List Loc) (ls : Array Slot), hp_R G b s.heap σ H locs → lv_has ls 5 [(0, .ref a0), (1, .int x1), (3, .int x3)] → K x3 x4 σ = some σ' → W p l e rm_Mo_comes s m args below meth c H locs 0 0 (MQ below (hp_Qc G b none σ') args s 0 0 (fun q => b ≤ q)) (F0 m 81 ls [])) :
    ∀ (n : Nat) (x3 : Int32) (x4 : Int32) (σ : hp_H) (H : Heap) (locs : List Loc) (ls : Array Slot), hp_R G b s.heap σ H locs → f_Mo_comes_l2 a0 x1 K n x3 x4 σ = some σ' → lv_has ls 5 [(0, .ref a0), (1, .int x1), (3, .int x3), (4, .int x4)] → W p l e rm_Mo_comes s m args below meth c H locs 0 0 (MQ below (hp_Qc G b none σ') args s 0 0 (fun q => b ≤ q)) (F0 m 49 ls []) := by
  obtain ⟨hx, hb, hml, hown, hts⟩ := id hX.1
  intro n
  induction n with
  | zero =>
    intro x3 x4 σ H locs ls hR h hl
    rw [f_Mo_comes_l2] at h
    cases h
  | succ n ih =>
    intro x3 x4 σ H locs ls hR h hl
    rw [f_Mo_comes_l2] at h
    refine lv_iload hx hb dX11_comes_49 (lv_at hl 3 rfl) ?_
    refine lv_iload_n hx hb dX11_comes_51 rfl (lv_at hl 1 rfl) ?_
    refine lv_icmp_ge (tgt := 81) hx hb dX11_comes_52 (by decide) (fun c10 => ?_) (fun c10 => ?_)
    · have h := hp_ip c10 h
      exact hK _ _ _ _ _ _ hR (lv_sub hl [0, 1, 2] rfl) h
    · have h := hp_in c10 h
      refine lv_aload_n hx hb dX11_comes_55 rfl (lv_at hl 0 rfl) ?_
      refine lv_iload_n hx hb dX11_comes_56 rfl (lv_at hl 1 rfl) ?_
      refine lv_iload hx hb dX11_comes_57 (lv_at hl 3 rfl) ?_
      refine hp_bn h (fun v12 h11 h => ?_)
      refine hp_ci hR (hp_runV (rest := []) (As := [.int x1, .int x4]) hX hR (c_Mo_covers h11) cs_X11_67 rfl rfl rfl hd_Mo_covers ⟨Nat.le_of_ble_eq_true rfl, Nat.le_of_ble_eq_true rfl⟩ (ci := 10) rfl (hp_own_is h11) rfl hl.1 rfl (Nat.le_of_ble_eq_true rfl) dX11_comes_59 ⟨Nat.le_of_ble_eq_true rfl, Nat.le_of_ble_eq_true rfl⟩) (fun H locs hR => ?_)
      refine lv_if_ne (tgt := 75) hx hb dX11_comes_62 (by decide) (fun c13 => ?_) (fun c13 => ?_)
      · have h := hp_in c13 h
        refine lv_iinc (v := (x4 + 1)) (lv' := [(4, .int (x4 + 1)), (0, .ref a0), (1, .int x1), (3, .int x3)]) hx hb dX11_comes_75 hl (k := 3) rfl rfl (by decide) rfl (fun ls hl => ?_)
        refine lv_goto (tgt := 49) hx hb dX11_comes_78 (by decide) ?_
        exact ih _ _ _ _ _ _ hR h (lv_sub hl [1, 2, 3, 0] rfl)
      · have h := hp_ip c13 h
        refine lv_aload_n hx hb dX11_comes_65 rfl (lv_at hl 0 rfl) ?_
        refine lv_iload_n hx hb dX11_comes_66 rfl (lv_at hl 2 rfl) ?_
        refine lv_iload hx hb dX11_comes_67 (lv_at hl 3 rfl) ?_
        refine hp_bn h (fun σ h14 h => ?_)
        refine hp_cv hR (hp_runV (rest := []) (As := [.int x3, .int x4]) hX hR (c_Mo_copies h14) cs_X11_63 rfl rfl rfl hd_Mo_copies ⟨Nat.le_of_ble_eq_true rfl, Nat.le_of_ble_eq_true rfl⟩ (ci := 10) rfl (hp_own_is h14) rfl hl.1 rfl (Nat.le_of_ble_eq_true rfl) dX11_comes_69 ⟨Nat.le_of_ble_eq_true rfl, Nat.le_of_ble_eq_true rfl⟩) (fun H locs hR => ?_)
        refine lv_iinc (v := (x3 + 1)) (lv' := [(3, .int (x3 + 1)), (0, .ref a0), (1, .int x1), (4, .int x4)]) hx hb dX11_comes_72 hl (k := 2) rfl rfl (by decide) rfl (fun ls hl => ?_)
        refine lv_iinc (v := (x4 + 1)) (lv' := [(4, .int (x4 + 1)), (3, .int (x3 + 1)), (0, .ref a0), (1, .int x1)]) hx hb dX11_comes_75 hl (k := 3) rfl rfl (by decide) rfl (fun ls hl => ?_)
        refine lv_goto (tgt := 49) hx hb dX11_comes_78 (by decide) ?_
        exact ih _ _ _ _ _ _ hR h (lv_sub hl [2, 3, 1, 0] rfl)
set_option maxHeartbeats 4000000 in
set_option maxRecDepth 100000 in
theorem c_Mo_comes {l : Launch} {G : hp_G} {b : Nat} {σ : hp_H} {a0 : Nat} {σ' : hp_H} (h : f_Mo_comes a0 σ = some σ') : hp_Met l yX11_comes cX11_comes 5 none rm_Mo_comes G b [.ref a0] σ none σ' 0 0 := by
  refine hp_met (by decide +kernel) (Nat.le_of_ble_eq_true rfl) (fun p e s m below meth c ls hX hlocks hr hnm hl hR => ?_)
  obtain ⟨hx, hb, hml, hown, hts⟩ := id hX.1
  have hl : lv_has ls 5 [(0, .ref a0)] := hl
  unfold f_Mo_comes at h
  have h := hp_own_to h
  refine lv_aload_n hx hb dX11_comes_0 rfl (lv_at hl 0 rfl) ?_
  refine hp_getI hX hR (ci := 10) 13 rfl wf11 (by decide) wq3_180 dX11_comes_1 h (fun v1 h => ?_)
  refine lv_istore_n (lv' := [(1, .int v1), (0, .ref a0)]) hx hb dX11_comes_4 rfl hl (by decide) rfl (fun ls hl => ?_)
  refine lv_iconst (v := 1) hx hb dX11_comes_5 (by decide) ?_
  refine lv_istore_n (lv' := [(2, .int 1), (1, .int v1), (0, .ref a0)]) hx hb dX11_comes_6 rfl hl (by decide) rfl (fun ls hl => ?_)
  refine lv_iconst (v := 0) hx hb dX11_comes_7 (by decide) ?_
  refine lv_istore_n (lv' := [(3, .int 0), (2, .int 1), (1, .int v1), (0, .ref a0)]) hx hb dX11_comes_8 rfl hl (by decide) rfl (fun ls hl => ?_)
  refine w_Mo_comes_l1 hX hlocks hr ?_ hp_F _ _ _ _ _ hR h (lv_sub hl [3, 2, 1, 0] rfl)
  intro z7 z8 H locs ls hR hl h
  refine lv_iload_n hx hb dX11_comes_39 rfl (lv_at hl 2 rfl) ?_
  refine lv_if_ne (tgt := 44) hx hb dX11_comes_40 (by decide) (fun c9 => ?_) (fun c9 => ?_)
  · have h := hp_in c9 h
    refine lv_iconst (v := 0) hx hb dX11_comes_44 (by decide) ?_
    refine lv_istore_n (lv' := [(3, .int 0), (0, .ref a0), (1, .int v1), (2, .int z7)]) hx hb dX11_comes_45 rfl hl (by decide) rfl (fun ls hl => ?_)
    refine lv_iconst (v := 0) hx hb dX11_comes_46 (by decide) ?_
    refine lv_istore (lv' := [(4, .int 0), (3, .int 0), (0, .ref a0), (1, .int v1), (2, .int z7)]) hx hb dX11_comes_47 hl (by decide) rfl (fun ls hl => ?_)
    refine w_Mo_comes_l2 hX hlocks hr ?_ hp_F _ _ _ _ _ _ hR h (lv_sub hl [2, 3, 1, 0] rfl)
    intro z15 z16 σ H locs ls hR hl h
    refine lv_aload_n hx hb dX11_comes_81 rfl (lv_at hl 0 rfl) ?_
    refine lv_iload_n hx hb dX11_comes_82 rfl (lv_at hl 2 rfl) ?_
    refine lv_iload_n hx hb dX11_comes_83 rfl (lv_at hl 1 rfl) ?_
    refine hp_bn h (fun σ h17 h => ?_)
    refine hp_cv hR (hp_runV (rest := []) (As := [.int z15, .int v1]) hX hR (c_Mo_copies h17) cs_X11_63 rfl rfl rfl hd_Mo_copies ⟨Nat.le_of_ble_eq_true rfl, Nat.le_of_ble_eq_true rfl⟩ (ci := 10) rfl (hp_own_is h17) rfl hl.1 rfl (Nat.le_of_ble_eq_true rfl) dX11_comes_84 ⟨Nat.le_of_ble_eq_true rfl, Nat.le_of_ble_eq_true rfl⟩) (fun H locs hR => ?_)
    refine lv_aload_n hx hb dX11_comes_87 rfl (lv_at hl 0 rfl) ?_
    refine lv_iload_n hx hb dX11_comes_88 rfl (lv_at hl 2 rfl) ?_
    refine lv_iconst (v := 1) hx hb dX11_comes_89 (by decide) ?_
    refine lv_iadd hx hb dX11_comes_90 ?_
    refine hp_putI hX hR (ci := 10) 13 rfl wf11 tyX11_ok nmX11 (by decide) wq3_180 rfl dX11_comes_91 rfl h (fun σ H locs h hR => ?_)
    refine lv_aload_n hx hb dX11_comes_94 rfl (lv_at hl 0 rfl) ?_
    refine hp_bn h (fun σ h18 h => ?_)
    refine hp_cv hR (hp_runV (rest := []) (As := []) hX hR (c_Mo_settles h18) cs_X11_71 rfl rfl rfl hd_Mo_settles ⟨Nat.le_of_ble_eq_true rfl, Nat.le_of_ble_eq_true rfl⟩ (ci := 10) rfl (hp_own_is h18) rfl hl.1 rfl (Nat.le_of_ble_eq_true rfl) dX11_comes_95 ⟨Nat.le_of_ble_eq_true rfl, Nat.le_of_ble_eq_true rfl⟩) (fun H locs hR => ?_)
    exact hp_vret hX hlocks hr hR h dX11_comes_98
  · have h := hp_ip c9 h
    exact hp_vret hX hlocks hr hR h dX11_comes_43
