theorem cs_X10_185 : hp_WV RX10 185 RX8 yX8_isWished cX8_isWished 3 (some .boolean) := ⟨wq2_190, wq2_191, wq2_192, wq1_2, wq2_193⟩
/-! NB.box(IIII)I -/
abbrev rm_NB_box : Room := { frames := 6, cells := 0, slots := 0, locals := 142 }
theorem hd_NB_box : hp_d yX10_box 4 := by decide +kernel
def f_NB_box (a0 : Nat) (x1 : Int32) (x2 : Int32) (x3 : Int32) (x4 : Int32) (σ : hp_H) : Option (Int32 × hp_H) := hp_own σ a0 9 ((hp_gR σ a0 9 0).bind fun q1 => (f_State_areNeighbours q1 x1 x2 σ).bind fun v3 => if v3 = 0 then (some ((-1000000001), σ)) else ((hp_gR σ a0 9 1).bind fun q5 => (hp_gR σ a0 9 0).bind fun q6 => (f_Tellings_refresh q5 q6 σ).bind fun σ => (hp_gR σ a0 9 1).bind fun q8 => (hp_gR σ a0 9 0).bind fun q9 => (f_Tellings_between q8 q9 x1 x2 σ).bind fun q11 => (hp_gI σ q11 1 1).bind fun v12 => (f_NB_within x3 0 (v12 - 1)).bind fun v14 => if v14 = 0 then (some ((-1000000001), σ)) else ((f_NB_within x4 0 7).bind fun v17 => if v17 = 0 then (some ((-1000000002), σ)) else ((hp_gR σ q11 1 0).bind fun q19 => (hp_aI σ q19 0 x3).bind fun v20 => if (6 : Int32) ≤ x4 then (if x4 = 6 then ((f_Box_size v20).bind fun v28 => some (v28, σ)) else ((hp_gR σ a0 9 0).bind fun q23 => (f_State_isWished q23 v20 σ).bind fun v25 => if v25 = 0 then (some (0, σ)) else (some (1, σ)))) else ((f_Box_bound v20 x4).bind fun v30 => some (v30, σ))))))
set_option maxHeartbeats 4000000 in
set_option maxRecDepth 100000 in
theorem c_NB_box {l : Launch} {G : hp_G} {b : Nat} {σ : hp_H} {a0 : Nat} {x1 : Int32} {x2 : Int32} {x3 : Int32} {x4 : Int32} {r : Int32} {σ' : hp_H} (h : f_NB_box a0 x1 x2 x3 x4 σ = some (r, σ')) : hp_Met l yX10_box cX10_box 7 (some .int) rm_NB_box G b [.ref a0, .int x1, .int x2, .int x3, .int x4] σ (some (.int r)) σ' 0 0 := by
  refine hp_met (by decide +kernel) (Nat.le_of_ble_eq_true rfl) (fun p e s m below meth c ls hX hlocks hr hnm hl hR => ?_)
  obtain ⟨hx, hb, hml, hown, hts⟩ := id hX.1
  have hl : lv_has ls 7 [(0, .ref a0), (1, .int x1), (2, .int x2), (3, .int x3), (4, .int x4)] := hl
  unfold f_NB_box at h
  have h := hp_own_to h
  refine lv_aload_n hx hb dX10_box_0 rfl (lv_at hl 0 rfl) ?_
  refine hp_getR hX hR (ci := 9) 0 rfl wf10 (by decide) wq2_11 dX10_box_1 h (fun q1 h => ?_)
  refine lv_iload_n hx hb dX10_box_4 rfl (lv_at hl 1 rfl) ?_
  refine lv_iload_n hx hb dX10_box_5 rfl (lv_at hl 2 rfl) ?_
  refine hp_bn h (fun v3 h2 h => ?_)
  refine hp_ci hR (hp_runV (rest := []) (As := [.int x1, .int x2]) hX hR (c_State_areNeighbours h2) cs_X10_171 rfl rfl rfl hd_State_areNeighbours ⟨Nat.le_of_ble_eq_true rfl, Nat.le_of_ble_eq_true rfl⟩ (ci := 7) rfl (hp_own_is h2) rfl hl.1 rfl (Nat.le_of_ble_eq_true rfl) dX10_box_6 ⟨Nat.le_of_ble_eq_true rfl, Nat.le_of_ble_eq_true rfl⟩) (fun H locs hR => ?_)
  refine lv_if_ne (tgt := 15) hx hb dX10_box_9 (by decide) (fun c4 => ?_) (fun c4 => ?_)
  · have h := hp_in c4 h
    refine lv_aload_n hx hb dX10_box_15 rfl (lv_at hl 0 rfl) ?_
    refine hp_getR hX hR (ci := 9) 1 rfl wf10 (by decide) wq2_12 dX10_box_16 h (fun q5 h => ?_)
    refine lv_aload_n hx hb dX10_box_19 rfl (lv_at hl 0 rfl) ?_
    refine hp_getR hX hR (ci := 9) 0 rfl wf10 (by decide) wq2_11 dX10_box_20 h (fun q6 h => ?_)
    refine hp_bn h (fun σ h7 h => ?_)
    refine hp_cv hR (hp_runV (rest := []) (As := [.ref q6]) hX hR (c_Tellings_refresh h7) cs_X10_74 rfl rfl rfl hd_Tellings_refresh ⟨Nat.le_of_ble_eq_true rfl, Nat.le_of_ble_eq_true rfl⟩ (ci := 8) rfl (hp_own_is h7) rfl hl.1 rfl (Nat.le_of_ble_eq_true rfl) dX10_box_23 ⟨Nat.le_of_ble_eq_true rfl, Nat.le_of_ble_eq_true rfl⟩) (fun H locs hR => ?_)
    refine lv_aload_n hx hb dX10_box_26 rfl (lv_at hl 0 rfl) ?_
    refine hp_getR hX hR (ci := 9) 1 rfl wf10 (by decide) wq2_12 dX10_box_27 h (fun q8 h => ?_)
    refine lv_aload_n hx hb dX10_box_30 rfl (lv_at hl 0 rfl) ?_
    refine hp_getR hX hR (ci := 9) 0 rfl wf10 (by decide) wq2_11 dX10_box_31 h (fun q9 h => ?_)
    refine lv_iload_n hx hb dX10_box_34 rfl (lv_at hl 1 rfl) ?_
    refine lv_iload_n hx hb dX10_box_35 rfl (lv_at hl 2 rfl) ?_
    refine hp_bn h (fun q11 h10 h => ?_)
    refine hp_cr hR (hp_runV (rest := []) (As := [.ref q9, .int x1, .int x2]) hX hR (c_Tellings_between h10) cs_X10_175 rfl rfl rfl hd_Tellings_between ⟨Nat.le_of_ble_eq_true rfl, Nat.le_of_ble_eq_true rfl⟩ (ci := 8) rfl (hp_own_is h10) rfl hl.1 rfl (Nat.le_of_ble_eq_true rfl) dX10_box_36 ⟨Nat.le_of_ble_eq_true rfl, Nat.le_of_ble_eq_true rfl⟩) (fun H locs hR => ?_)
    refine lv_astore (lv' := [(5, .ref q11), (0, .ref a0), (1, .int x1), (2, .int x2), (3, .int x3), (4, .int x4)]) hx hb dX10_box_39 hl (by decide) rfl (fun ls hl => ?_)
    refine lv_iload_n hx hb dX10_box_41 rfl (lv_at hl 4 rfl) ?_
    refine lv_iconst (v := 0) hx hb dX10_box_42 (by decide) ?_
    refine lv_aload hx hb dX10_box_43 (lv_at hl 0 rfl) ?_
    refine hp_getI hX hR (ci := 1) 1 rfl wf2 (by decide) wq1_137 dX10_box_45 h (fun v12 h => ?_)
    refine lv_iconst (v := 1) hx hb dX10_box_48 (by decide) ?_
    refine lv_isub hx hb dX10_box_49 ?_
    refine hp_bn h (fun v14 h13 h => ?_)
    refine hp_ci hR (hp_runS (rest := []) (As := [.int x3, .int 0, .int (v12 - 1)]) hX hR (c_NB_within h13) cs_X10_143 rfl rfl hd_NB_within ⟨Nat.le_of_ble_eq_true rfl, Nat.le_of_ble_eq_true rfl⟩ rfl hl.1 rfl (Nat.le_of_ble_eq_true rfl) dX10_box_50 ⟨Nat.le_of_ble_eq_true rfl, Nat.le_of_ble_eq_true rfl⟩) (fun H locs hR => ?_)
    refine lv_if_ne (tgt := 59) hx hb dX10_box_53 (by decide) (fun c15 => ?_) (fun c15 => ?_)
    · have h := hp_in c15 h
      refine lv_iload hx hb dX10_box_59 (lv_at hl 5 rfl) ?_
      refine lv_iconst (v := 0) hx hb dX10_box_61 (by decide) ?_
      refine lv_bipush (v := 7) hx hb dX10_box_62 (by decide) ?_
      refine hp_bn h (fun v17 h16 h => ?_)
      refine hp_ci hR (hp_runS (rest := []) (As := [.int x4, .int 0, .int 7]) hX hR (c_NB_within h16) cs_X10_143 rfl rfl hd_NB_within ⟨Nat.le_of_ble_eq_true rfl, Nat.le_of_ble_eq_true rfl⟩ rfl hl.1 rfl (Nat.le_of_ble_eq_true rfl) dX10_box_64 ⟨Nat.le_of_ble_eq_true rfl, Nat.le_of_ble_eq_true rfl⟩) (fun H locs hR => ?_)
      refine lv_if_ne (tgt := 73) hx hb dX10_box_67 (by decide) (fun c18 => ?_) (fun c18 => ?_)
      · have h := hp_in c18 h
        refine lv_aload hx hb dX10_box_73 (lv_at hl 0 rfl) ?_
        refine hp_getR hX hR (ci := 1) 0 rfl wf2 (by decide) wq1_134 dX10_box_75 h (fun q19 h => ?_)
        refine lv_iload_n hx hb dX10_box_78 rfl (lv_at hl 4 rfl) ?_
        refine hp_iald hX hR dX10_box_79 h (fun v20 h => ?_)
        refine lv_istore (lv' := [(6, .int v20), (5, .ref q11), (0, .ref a0), (1, .int x1), (2, .int x2), (3, .int x3), (4, .int x4)]) hx hb dX10_box_80 hl (by decide) rfl (fun ls hl => ?_)
        refine lv_iload hx hb dX10_box_82 (lv_at hl 6 rfl) ?_
        refine lv_bipush (v := 6) hx hb dX10_box_84 (by decide) ?_
        refine lv_icmp_ge (tgt := 97) hx hb dX10_box_86 (by decide) (fun c21 => ?_) (fun c21 => ?_)
        · have h := hp_ip c21 h
          refine lv_iload hx hb dX10_box_97 (lv_at hl 6 rfl) ?_
          refine lv_bipush (v := 6) hx hb dX10_box_99 (by decide) ?_
          refine lv_icmp_ne (tgt := 110) hx hb dX10_box_101 (by decide) (fun c22 => ?_) (fun c22 => ?_)
          · have h := hp_in c22 h
            refine lv_aload_n hx hb dX10_box_110 rfl (lv_at hl 2 rfl) ?_
            refine hp_getR hX hR (ci := 9) 0 rfl wf10 (by decide) wq2_11 dX10_box_111 h (fun q23 h => ?_)
            refine lv_iload hx hb dX10_box_114 (lv_at hl 0 rfl) ?_
            refine hp_bn h (fun v25 h24 h => ?_)
            refine hp_ci hR (hp_runV (rest := []) (As := [.int v20]) hX hR (c_State_isWished h24) cs_X10_185 rfl rfl rfl hd_State_isWished ⟨Nat.le_of_ble_eq_true rfl, Nat.le_of_ble_eq_true rfl⟩ (ci := 7) rfl (hp_own_is h24) rfl hl.1 rfl (Nat.le_of_ble_eq_true rfl) dX10_box_116 ⟨Nat.le_of_ble_eq_true rfl, Nat.le_of_ble_eq_true rfl⟩) (fun H locs hR => ?_)
            refine lv_if_eq (tgt := 126) hx hb dX10_box_119 (by decide) (fun c26 => ?_) (fun c26 => ?_)
            · have h := hp_ip c26 h
              refine lv_iconst (v := 0) hx hb dX10_box_126 (by decide) ?_
              exact hp_iret hX hlocks hr hR h dX10_box_127
            · have h := hp_in c26 h
              refine lv_iconst (v := 1) hx hb dX10_box_122 (by decide) ?_
              refine lv_goto (tgt := 127) hx hb dX10_box_123 (by decide) ?_
              exact hp_iret hX hlocks hr hR h dX10_box_127
          · have h := hp_ip c22 h
            refine lv_iload hx hb dX10_box_104 (lv_at hl 0 rfl) ?_
            refine hp_bn h (fun v28 h27 h => ?_)
            refine hp_ci hR (hp_runS (rest := []) (As := [.int v20]) hX hR (c_Box_size h27) cs_X10_165 rfl rfl hd_Box_size ⟨Nat.le_of_ble_eq_true rfl, Nat.le_of_ble_eq_true rfl⟩ rfl hl.1 rfl (Nat.le_of_ble_eq_true rfl) dX10_box_106 ⟨Nat.le_of_ble_eq_true rfl, Nat.le_of_ble_eq_true rfl⟩) (fun H locs hR => ?_)
            exact hp_iret hX hlocks hr hR h dX10_box_109
        · have h := hp_in c21 h
          refine lv_iload hx hb dX10_box_89 (lv_at hl 0 rfl) ?_
          refine lv_iload hx hb dX10_box_91 (lv_at hl 6 rfl) ?_
          refine hp_bn h (fun v30 h29 h => ?_)
          refine hp_ci hR (hp_runS (rest := []) (As := [.int v20, .int x4]) hX hR (c_Box_bound h29) cs_X10_159 rfl rfl hd_Box_bound ⟨Nat.le_of_ble_eq_true rfl, Nat.le_of_ble_eq_true rfl⟩ rfl hl.1 rfl (Nat.le_of_ble_eq_true rfl) dX10_box_93 ⟨Nat.le_of_ble_eq_true rfl, Nat.le_of_ble_eq_true rfl⟩) (fun H locs hR => ?_)
          exact hp_iret hX hlocks hr hR h dX10_box_96
      · have h := hp_ip c18 h
        refine lv_ldc (v := (-1000000002)) hx hb hown (hts _ wq2_135) dX10_box_70 ?_
        exact hp_iret hX hlocks hr hR h dX10_box_72
    · have h := hp_ip c15 h
      refine lv_ldc (v := (-1000000001)) hx hb hown (hts _ wq2_141) dX10_box_56 ?_
      exact hp_iret hX hlocks hr hR h dX10_box_58
  · have h := hp_ip c4 h
    refine lv_ldc (v := (-1000000001)) hx hb hown (hts _ wq2_141) dX10_box_12 ?_
    exact hp_iret hX hlocks hr hR h dX10_box_14
/-! NB.isNotice(III)Z -/
abbrev rm_NB_isNotice : Room := { frames := 1, cells := 0, slots := 0, locals := 22 }
theorem hd_NB_isNotice : hp_d yX10_isNotice 3 := by decide +kernel
def f_NB_isNotice (x0 : Int32) (x1 : Int32) (x2 : Int32) : Option Int32 := (f_NB_within x0 0 9).bind fun v2 => if v2 = 0 then (some 0) else ((f_NB_within x1 0 9).bind fun v5 => if v5 = 0 then (some 0) else ((f_NB_within x2 0 9).bind fun v8 => if v8 = 0 then (some 0) else (some 1)))
set_option maxHeartbeats 4000000 in
set_option maxRecDepth 100000 in
theorem c_NB_isNotice {l : Launch} {G : hp_G} {b : Nat} {σ : hp_H} {x0 : Int32} {x1 : Int32} {x2 : Int32} {r : Int32} (h : f_NB_isNotice x0 x1 x2 = some r) : hp_Met l yX10_isNotice cX10_isNotice 3 (some .boolean) rm_NB_isNotice G b [.int x0, .int x1, .int x2] σ (some (.int r)) σ 0 0 := by
  refine hp_met (by decide +kernel) (Nat.le_of_ble_eq_true rfl) (fun p e s m below meth c ls hX hlocks hr hnm hl hR => ?_)
  obtain ⟨hx, hb, hml, hown, hts⟩ := id hX.1
  have hl : lv_has ls 3 [(0, .int x0), (1, .int x1), (2, .int x2)] := hl
  unfold f_NB_isNotice at h
  refine lv_iload_n hx hb dX10_isNotice_0 rfl (lv_at hl 0 rfl) ?_
  refine lv_iconst (v := 0) hx hb dX10_isNotice_1 (by decide) ?_
  refine lv_bipush (v := 9) hx hb dX10_isNotice_2 (by decide) ?_
  refine hp_bn h (fun v2 h1 h => ?_)
  refine hp_ci hR (hp_runS (rest := []) (As := [.int x0, .int 0, .int 9]) hX hR (c_NB_within h1) cs_X10_143 rfl rfl hd_NB_within ⟨Nat.le_of_ble_eq_true rfl, Nat.le_of_ble_eq_true rfl⟩ rfl hl.1 rfl (Nat.le_of_ble_eq_true rfl) dX10_isNotice_4 ⟨Nat.le_of_ble_eq_true rfl, Nat.le_of_ble_eq_true rfl⟩) (fun H locs hR => ?_)
  refine lv_if_eq (tgt := 34) hx hb dX10_isNotice_7 (by decide) (fun c3 => ?_) (fun c3 => ?_)
  · have h := hp_ip c3 h
    refine lv_iconst (v := 0) hx hb dX10_isNotice_34 (by decide) ?_
    exact hp_zretLP (by decide) hX hlocks hr hR h dX10_isNotice_35
  · have h := hp_in c3 h
    refine lv_iload_n hx hb dX10_isNotice_10 rfl (lv_at hl 1 rfl) ?_
    refine lv_iconst (v := 0) hx hb dX10_isNotice_11 (by decide) ?_
    refine lv_bipush (v := 9) hx hb dX10_isNotice_12 (by decide) ?_
    refine hp_bn h (fun v5 h4 h => ?_)
    refine hp_ci hR (hp_runS (rest := []) (As := [.int x1, .int 0, .int 9]) hX hR (c_NB_within h4) cs_X10_143 rfl rfl hd_NB_within ⟨Nat.le_of_ble_eq_true rfl, Nat.le_of_ble_eq_true rfl⟩ rfl hl.1 rfl (Nat.le_of_ble_eq_true rfl) dX10_isNotice_14 ⟨Nat.le_of_ble_eq_true rfl, Nat.le_of_ble_eq_true rfl⟩) (fun H locs hR => ?_)
    refine lv_if_eq (tgt := 34) hx hb dX10_isNotice_17 (by decide) (fun c6 => ?_) (fun c6 => ?_)
    · have h := hp_ip c6 h
      refine lv_iconst (v := 0) hx hb dX10_isNotice_34 (by decide) ?_
      exact hp_zretLP (by decide) hX hlocks hr hR h dX10_isNotice_35
    · have h := hp_in c6 h
      refine lv_iload_n hx hb dX10_isNotice_20 rfl (lv_at hl 2 rfl) ?_
      refine lv_iconst (v := 0) hx hb dX10_isNotice_21 (by decide) ?_
      refine lv_bipush (v := 9) hx hb dX10_isNotice_22 (by decide) ?_
      refine hp_bn h (fun v8 h7 h => ?_)
      refine hp_ci hR (hp_runS (rest := []) (As := [.int x2, .int 0, .int 9]) hX hR (c_NB_within h7) cs_X10_143 rfl rfl hd_NB_within ⟨Nat.le_of_ble_eq_true rfl, Nat.le_of_ble_eq_true rfl⟩ rfl hl.1 rfl (Nat.le_of_ble_eq_true rfl) dX10_isNotice_24 ⟨Nat.le_of_ble_eq_true rfl, Nat.le_of_ble_eq_true rfl⟩) (fun H locs hR => ?_)
      refine lv_if_eq (tgt := 34) hx hb dX10_isNotice_27 (by decide) (fun c9 => ?_) (fun c9 => ?_)
      · have h := hp_ip c9 h
        refine lv_iconst (v := 0) hx hb dX10_isNotice_34 (by decide) ?_
        exact hp_zretLP (by decide) hX hlocks hr hR h dX10_isNotice_35
      · have h := hp_in c9 h
        refine lv_iconst (v := 1) hx hb dX10_isNotice_30 (by decide) ?_
        refine lv_goto (tgt := 35) hx hb dX10_isNotice_31 (by decide) ?_
        exact hp_zretLP (by decide) hX hlocks hr hR h dX10_isNotice_35
theorem cs_X10_188 : hp_WS RX10 188 yX10_isNotice cX10_isNotice 3 (some .boolean) := ⟨wq2_198, wq2_199, wq1_1, wq2_200⟩
theorem cs_X10_191 : hp_WS RX10 191 yX1_ofNotice cX1_ofNotice 3 (some .int) := ⟨wq2_201, wq2_202, wq1_12, wq2_203⟩
theorem cs_X10_195 : hp_WV RX10 195 RX6 yX6_travel cX6_travel 10 none := ⟨wq2_204, wq2_205, wq2_206, wq1_6, wq2_207⟩
/-! NB.would(IIIII)I -/
abbrev rm_NB_would : Room := { frames := 6, cells := 0, slots := 0, locals := 142 }
theorem hd_NB_would : hp_d yX10_would 5 := by decide +kernel
def f_NB_would (a0 : Nat) (x1 : Int32) (x2 : Int32) (x3 : Int32) (x4 : Int32) (x5 : Int32) (σ : hp_H) : Option (Int32 × hp_H) := hp_own σ a0 9 ((hp_gR σ a0 9 0).bind fun q1 => (f_State_hasBroker q1 x1 σ).bind fun v3 => if v3 = 0 then (some ((-1000000001), σ)) else ((f_NB_isNotice x2 x3 x4).bind fun v6 => if v6 = 0 then (some ((-1000000002), σ)) else ((f_NB_within x5 0 3).bind fun v9 => if v9 = 0 then (some ((-1000000002), σ)) else ((hp_gR σ a0 9 1).bind fun q11 => (hp_gR σ a0 9 0).bind fun q12 => (f_Tellings_refresh q11 q12 σ).bind fun σ => (hp_gR σ a0 9 2).bind fun q14 => (hp_gR σ a0 9 0).bind fun q15 => (hp_gR σ a0 9 1).bind fun q16 => (f_Box_ofNotice x2 x3 x4).bind fun v18 => (f_Journey_travel q14 q15 q16 x1 v18 σ).bind fun σ => if x5 = 0 then ((hp_gR σ a0 9 2).bind fun q21 => (hp_gI σ q21 5 1).bind fun v22 => some (v22, σ)) else (if x5 = 1 then ((hp_gR σ a0 9 2).bind fun q24 => (hp_gI σ q24 5 2).bind fun v25 => some (v25, σ)) else (if x5 = 2 then ((hp_gR σ a0 9 2).bind fun q27 => (hp_gI σ q27 5 3).bind fun v28 => some (v28, σ)) else ((hp_gR σ a0 9 2).bind fun q29 => (hp_gI σ q29 5 4).bind fun v30 => some (v30, σ))))))))
set_option maxHeartbeats 4000000 in
set_option maxRecDepth 100000 in
theorem c_NB_would {l : Launch} {G : hp_G} {b : Nat} {σ : hp_H} {a0 : Nat} {x1 : Int32} {x2 : Int32} {x3 : Int32} {x4 : Int32} {x5 : Int32} {r : Int32} {σ' : hp_H} (h : f_NB_would a0 x1 x2 x3 x4 x5 σ = some (r, σ')) : hp_Met l yX10_would cX10_would 6 (some .int) rm_NB_would G b [.ref a0, .int x1, .int x2, .int x3, .int x4, .int x5] σ (some (.int r)) σ' 0 0 := by
  refine hp_met (by decide +kernel) (Nat.le_of_ble_eq_true rfl) (fun p e s m below meth c ls hX hlocks hr hnm hl hR => ?_)
  obtain ⟨hx, hb, hml, hown, hts⟩ := id hX.1
  have hl : lv_has ls 6 [(0, .ref a0), (1, .int x1), (2, .int x2), (3, .int x3), (4, .int x4), (5, .int x5)] := hl
  unfold f_NB_would at h
  have h := hp_own_to h
  refine lv_aload_n hx hb dX10_would_0 rfl (lv_at hl 0 rfl) ?_
  refine hp_getR hX hR (ci := 9) 0 rfl wf10 (by decide) wq2_11 dX10_would_1 h (fun q1 h => ?_)
  refine lv_iload_n hx hb dX10_would_4 rfl (lv_at hl 1 rfl) ?_
  refine hp_bn h (fun v3 h2 h => ?_)
  refine hp_ci hR (hp_runV (rest := []) (As := [.int x1]) hX hR (c_State_hasBroker h2) cs_X10_99 rfl rfl rfl hd_State_hasBroker ⟨Nat.le_of_ble_eq_true rfl, Nat.le_of_ble_eq_true rfl⟩ (ci := 7) rfl (hp_own_is h2) rfl hl.1 rfl (Nat.le_of_ble_eq_true rfl) dX10_would_5 ⟨Nat.le_of_ble_eq_true rfl, Nat.le_of_ble_eq_true rfl⟩) (fun H locs hR => ?_)
  refine lv_if_ne (tgt := 14) hx hb dX10_would_8 (by decide) (fun c4 => ?_) (fun c4 => ?_)
  · have h := hp_in c4 h
    refine lv_iload_n hx hb dX10_would_14 rfl (lv_at hl 2 rfl) ?_
    refine lv_iload_n hx hb dX10_would_15 rfl (lv_at hl 3 rfl) ?_
    refine lv_iload hx hb dX10_would_16 (lv_at hl 4 rfl) ?_
    refine hp_bn h (fun v6 h5 h => ?_)
    refine hp_ci hR (hp_runS (rest := []) (As := [.int x2, .int x3, .int x4]) hX hR (c_NB_isNotice h5) cs_X10_188 rfl rfl hd_NB_isNotice ⟨Nat.le_of_ble_eq_true rfl, Nat.le_of_ble_eq_true rfl⟩ rfl hl.1 rfl (Nat.le_of_ble_eq_true rfl) dX10_would_18 ⟨Nat.le_of_ble_eq_true rfl, Nat.le_of_ble_eq_true rfl⟩) (fun H locs hR => ?_)
    refine lv_if_eq (tgt := 34) hx hb dX10_would_21 (by decide) (fun c7 => ?_) (fun c7 => ?_)
    · have h := hp_ip c7 h
      refine lv_ldc (v := (-1000000002)) hx hb hown (hts _ wq2_135) dX10_would_34 ?_
      exact hp_iret hX hlocks hr hR h dX10_would_36
    · have h := hp_in c7 h
      refine lv_iload hx hb dX10_would_24 (lv_at hl 5 rfl) ?_
      refine lv_iconst (v := 0) hx hb dX10_would_26 (by decide) ?_
      refine lv_iconst (v := 3) hx hb dX10_would_27 (by decide) ?_
      refine hp_bn h (fun v9 h8 h => ?_)
      refine hp_ci hR (hp_runS (rest := []) (As := [.int x5, .int 0, .int 3]) hX hR (c_NB_within h8) cs_X10_143 rfl rfl hd_NB_within ⟨Nat.le_of_ble_eq_true rfl, Nat.le_of_ble_eq_true rfl⟩ rfl hl.1 rfl (Nat.le_of_ble_eq_true rfl) dX10_would_28 ⟨Nat.le_of_ble_eq_true rfl, Nat.le_of_ble_eq_true rfl⟩) (fun H locs hR => ?_)
      refine lv_if_ne (tgt := 37) hx hb dX10_would_31 (by decide) (fun c10 => ?_) (fun c10 => ?_)
      · have h := hp_in c10 h
        refine lv_aload_n hx hb dX10_would_37 rfl (lv_at hl 0 rfl) ?_
        refine hp_getR hX hR (ci := 9) 1 rfl wf10 (by decide) wq2_12 dX10_would_38 h (fun q11 h => ?_)
        refine lv_aload_n hx hb dX10_would_41 rfl (lv_at hl 0 rfl) ?_
        refine hp_getR hX hR (ci := 9) 0 rfl wf10 (by decide) wq2_11 dX10_would_42 h (fun q12 h => ?_)
        refine hp_bn h (fun σ h13 h => ?_)
        refine hp_cv hR (hp_runV (rest := []) (As := [.ref q12]) hX hR (c_Tellings_refresh h13) cs_X10_74 rfl rfl rfl hd_Tellings_refresh ⟨Nat.le_of_ble_eq_true rfl, Nat.le_of_ble_eq_true rfl⟩ (ci := 8) rfl (hp_own_is h13) rfl hl.1 rfl (Nat.le_of_ble_eq_true rfl) dX10_would_45 ⟨Nat.le_of_ble_eq_true rfl, Nat.le_of_ble_eq_true rfl⟩) (fun H locs hR => ?_)
        refine lv_aload_n hx hb dX10_would_48 rfl (lv_at hl 0 rfl) ?_
        refine hp_getR hX hR (ci := 9) 2 rfl wf10 (by decide) wq2_13 dX10_would_49 h (fun q14 h => ?_)
        refine lv_aload_n hx hb dX10_would_52 rfl (lv_at hl 0 rfl) ?_
        refine hp_getR hX hR (ci := 9) 0 rfl wf10 (by decide) wq2_11 dX10_would_53 h (fun q15 h => ?_)
        refine lv_aload_n hx hb dX10_would_56 rfl (lv_at hl 0 rfl) ?_
        refine hp_getR hX hR (ci := 9) 1 rfl wf10 (by decide) wq2_12 dX10_would_57 h (fun q16 h => ?_)
        refine lv_iload_n hx hb dX10_would_60 rfl (lv_at hl 1 rfl) ?_
        refine lv_iload_n hx hb dX10_would_61 rfl (lv_at hl 2 rfl) ?_
        refine lv_iload_n hx hb dX10_would_62 rfl (lv_at hl 3 rfl) ?_
        refine lv_iload hx hb dX10_would_63 (lv_at hl 4 rfl) ?_
        refine hp_bn h (fun v18 h17 h => ?_)
        refine hp_ci hR (hp_runS (rest := [.int x1, .ref q16, .ref q15, .ref q14]) (As := [.int x2, .int x3, .int x4]) hX hR (c_Box_ofNotice h17) cs_X10_191 rfl rfl hd_Box_ofNotice ⟨Nat.le_of_ble_eq_true rfl, Nat.le_of_ble_eq_true rfl⟩ rfl hl.1 rfl (Nat.le_of_ble_eq_true rfl) dX10_would_65 ⟨Nat.le_of_ble_eq_true rfl, Nat.le_of_ble_eq_true rfl⟩) (fun H locs hR => ?_)
        refine hp_bn h (fun σ h19 h => ?_)
        refine hp_cv hR (hp_runV (rest := []) (As := [.ref q15, .ref q16, .int x1, .int v18]) hX hR (c_Journey_travel h19) cs_X10_195 rfl rfl rfl hd_Journey_travel ⟨Nat.le_of_ble_eq_true rfl, Nat.le_of_ble_eq_true rfl⟩ (ci := 5) rfl (hp_own_is h19) rfl hl.1 rfl (Nat.le_of_ble_eq_true rfl) dX10_would_68 ⟨Nat.le_of_ble_eq_true rfl, Nat.le_of_ble_eq_true rfl⟩) (fun H locs hR => ?_)
        refine lv_iload hx hb dX10_would_71 (lv_at hl 5 rfl) ?_
        rcases Decidable.em (x5 = 0) with c20 | c20
        · have h := hp_ip c20 h
          refine lv_tableIn (off := 27) (tgt := 100) hx hb dX10_would_73 (by rw [c20]; decide) (by rw [c20]; decide) (by rw [c20]; decide) (by decide) ?_
          refine lv_aload_n hx hb dX10_would_100 rfl (lv_at hl 0 rfl) ?_
          refine hp_getR hX hR (ci := 9) 2 rfl wf10 (by decide) wq2_13 dX10_would_101 h (fun q21 h => ?_)
          refine hp_getI hX hR (ci := 5) 1 rfl wf6 (by decide) wq1_161 dX10_would_104 h (fun v22 h => ?_)
          exact hp_iret hX hlocks hr hR h dX10_would_107
        · have h := hp_in c20 h
          rcases Decidable.em (x5 = 1) with c23 | c23
          · have h := hp_ip c23 h
            refine lv_tableIn (off := 35) (tgt := 108) hx hb dX10_would_73 (by rw [c23]; decide) (by rw [c23]; decide) (by rw [c23]; decide) (by decide) ?_
            refine lv_aload_n hx hb dX10_would_108 rfl (lv_at hl 0 rfl) ?_
            refine hp_getR hX hR (ci := 9) 2 rfl wf10 (by decide) wq2_13 dX10_would_109 h (fun q24 h => ?_)
            refine hp_getI hX hR (ci := 5) 2 rfl wf6 (by decide) wq1_163 dX10_would_112 h (fun v25 h => ?_)
            exact hp_iret hX hlocks hr hR h dX10_would_115
          · have h := hp_in c23 h
            rcases Decidable.em (x5 = 2) with c26 | c26
            · have h := hp_ip c26 h
              refine lv_tableIn (off := 43) (tgt := 116) hx hb dX10_would_73 (by rw [c26]; decide) (by rw [c26]; decide) (by rw [c26]; decide) (by decide) ?_
              refine lv_aload_n hx hb dX10_would_116 rfl (lv_at hl 0 rfl) ?_
              refine hp_getR hX hR (ci := 9) 2 rfl wf10 (by decide) wq2_13 dX10_would_117 h (fun q27 h => ?_)
              refine hp_getI hX hR (ci := 5) 3 rfl wf6 (by decide) wq1_166 dX10_would_120 h (fun v28 h => ?_)
              exact hp_iret hX hlocks hr hR h dX10_would_123
            · have h := hp_in c26 h
              refine lv_tableOut (tgt := 124) hx hb dX10_would_73 (by have := lv_neT (a := 0) c20 rfl; have := lv_neT (a := 1) c23 rfl; have := lv_neT (a := 2) c26 rfl; omega) (by decide) ?_
              refine lv_aload_n hx hb dX10_would_124 rfl (lv_at hl 0 rfl) ?_
              refine hp_getR hX hR (ci := 9) 2 rfl wf10 (by decide) wq2_13 dX10_would_125 h (fun q29 h => ?_)
              refine hp_getI hX hR (ci := 5) 4 rfl wf6 (by decide) wq1_169 dX10_would_128 h (fun v30 h => ?_)
              exact hp_iret hX hlocks hr hR h dX10_would_131
      · have h := hp_ip c10 h
        refine lv_ldc (v := (-1000000002)) hx hb hown (hts _ wq2_135) dX10_would_34 ?_
        exact hp_iret hX hlocks hr hR h dX10_would_36
  · have h := hp_ip c4 h
    refine lv_ldc (v := (-1000000001)) hx hb hown (hts _ wq2_141) dX10_would_11 ?_
    exact hp_iret hX hlocks hr hR h dX10_would_13
theorem cs_X10_212 : hp_WV RX10 212 RX7 yX7_remember cX7_remember 2 none := ⟨wq2_226, wq2_227, wq2_228, wq1_7, wq2_229⟩
theorem cs_X10_215 : hp_WV RX10 215 RX9 yX9_outdate cX9_outdate 1 none := ⟨wq3_2, wq3_3, wq3_4, wq1_4, wq3_5⟩
theorem cs_X10_218 : hp_WV RX10 218 RX8 yX8_addBroker cX8_addBroker 2 (some .int) := ⟨wq3_6, wq3_7, wq3_8, wq1_2, wq3_9⟩
/-! NB.broker(I)I -/
abbrev rm_NB_broker : Room := { frames := 4, cells := 0, slots := 0, locals := 104 }
theorem hd_NB_broker : hp_d yX10_broker 1 := by decide +kernel
def f_NB_broker (a0 : Nat) (x1 : Int32) (σ : hp_H) : Option (Int32 × hp_H) := hp_own σ a0 9 ((hp_gR σ a0 9 0).bind fun q1 => (f_State_hasBroker q1 x1 σ).bind fun v3 => if v3 = 0 then (some ((-1000000001), σ)) else ((hp_gR σ a0 9 0).bind fun q5 => (hp_gI σ q5 7 0).bind fun v6 => if v6 < 7 then ((hp_gR σ a0 9 3).bind fun q8 => (hp_gR σ a0 9 0).bind fun q9 => (f_Past_remember q8 q9 σ).bind fun σ => (hp_gR σ a0 9 1).bind fun q11 => (f_Tellings_outdate q11 σ).bind fun σ => (hp_gR σ a0 9 0).bind fun q13 => hp_b (f_State_addBroker q13 x1 σ) fun v15 σ => some (v15, σ)) else (some ((-1000000004), σ))))
set_option maxHeartbeats 4000000 in
set_option maxRecDepth 100000 in
theorem c_NB_broker {l : Launch} {G : hp_G} {b : Nat} {σ : hp_H} {a0 : Nat} {x1 : Int32} {r : Int32} {σ' : hp_H} (h : f_NB_broker a0 x1 σ = some (r, σ')) : hp_Met l yX10_broker cX10_broker 2 (some .int) rm_NB_broker G b [.ref a0, .int x1] σ (some (.int r)) σ' 0 0 := by
  refine hp_met (by decide +kernel) (Nat.le_of_ble_eq_true rfl) (fun p e s m below meth c ls hX hlocks hr hnm hl hR => ?_)
  obtain ⟨hx, hb, hml, hown, hts⟩ := id hX.1
  have hl : lv_has ls 2 [(0, .ref a0), (1, .int x1)] := hl
  unfold f_NB_broker at h
  have h := hp_own_to h
  refine lv_aload_n hx hb dX10_broker_0 rfl (lv_at hl 0 rfl) ?_
  refine hp_getR hX hR (ci := 9) 0 rfl wf10 (by decide) wq2_11 dX10_broker_1 h (fun q1 h => ?_)
  refine lv_iload_n hx hb dX10_broker_4 rfl (lv_at hl 1 rfl) ?_
  refine hp_bn h (fun v3 h2 h => ?_)
  refine hp_ci hR (hp_runV (rest := []) (As := [.int x1]) hX hR (c_State_hasBroker h2) cs_X10_99 rfl rfl rfl hd_State_hasBroker ⟨Nat.le_of_ble_eq_true rfl, Nat.le_of_ble_eq_true rfl⟩ (ci := 7) rfl (hp_own_is h2) rfl hl.1 rfl (Nat.le_of_ble_eq_true rfl) dX10_broker_5 ⟨Nat.le_of_ble_eq_true rfl, Nat.le_of_ble_eq_true rfl⟩) (fun H locs hR => ?_)
  refine lv_if_ne (tgt := 14) hx hb dX10_broker_8 (by decide) (fun c4 => ?_) (fun c4 => ?_)
  · have h := hp_in c4 h
    refine lv_aload_n hx hb dX10_broker_14 rfl (lv_at hl 0 rfl) ?_
    refine hp_getR hX hR (ci := 9) 0 rfl wf10 (by decide) wq2_11 dX10_broker_15 h (fun q5 h => ?_)
    refine hp_getI hX hR (ci := 7) 0 rfl wf8 (by decide) wq1_68 dX10_broker_18 h (fun v6 h => ?_)
    refine lv_bipush (v := 7) hx hb dX10_broker_21 (by decide) ?_
    refine lv_icmp_lt (tgt := 29) hx hb dX10_broker_23 (by decide) (fun c7 => ?_) (fun c7 => ?_)
    · have h := hp_ip c7 h
      refine lv_aload_n hx hb dX10_broker_29 rfl (lv_at hl 0 rfl) ?_
      refine hp_getR hX hR (ci := 9) 3 rfl wf10 (by decide) wq2_14 dX10_broker_30 h (fun q8 h => ?_)
      refine lv_aload_n hx hb dX10_broker_33 rfl (lv_at hl 0 rfl) ?_
      refine hp_getR hX hR (ci := 9) 0 rfl wf10 (by decide) wq2_11 dX10_broker_34 h (fun q9 h => ?_)
      refine hp_bn h (fun σ h10 h => ?_)
      refine hp_cv hR (hp_runV (rest := []) (As := [.ref q9]) hX hR (c_Past_remember h10) cs_X10_212 rfl rfl rfl hd_Past_remember ⟨Nat.le_of_ble_eq_true rfl, Nat.le_of_ble_eq_true rfl⟩ (ci := 6) rfl (hp_own_is h10) rfl hl.1 rfl (Nat.le_of_ble_eq_true rfl) dX10_broker_37 ⟨Nat.le_of_ble_eq_true rfl, Nat.le_of_ble_eq_true rfl⟩) (fun H locs hR => ?_)
      refine lv_aload_n hx hb dX10_broker_40 rfl (lv_at hl 0 rfl) ?_
      refine hp_getR hX hR (ci := 9) 1 rfl wf10 (by decide) wq2_12 dX10_broker_41 h (fun q11 h => ?_)
      refine hp_bn h (fun σ h12 h => ?_)
      refine hp_cv hR (hp_runV (rest := []) (As := []) hX hR (c_Tellings_outdate h12) cs_X10_215 rfl rfl rfl hd_Tellings_outdate ⟨Nat.le_of_ble_eq_true rfl, Nat.le_of_ble_eq_true rfl⟩ (ci := 8) rfl (hp_own_is h12) rfl hl.1 rfl (Nat.le_of_ble_eq_true rfl) dX10_broker_44 ⟨Nat.le_of_ble_eq_true rfl, Nat.le_of_ble_eq_true rfl⟩) (fun H locs hR => ?_)
      refine lv_aload_n hx hb dX10_broker_47 rfl (lv_at hl 0 rfl) ?_
      refine hp_getR hX hR (ci := 9) 0 rfl wf10 (by decide) wq2_11 dX10_broker_48 h (fun q13 h => ?_)
      refine lv_iload_n hx hb dX10_broker_51 rfl (lv_at hl 1 rfl) ?_
      refine hp_b2 h (fun v15 σ h14 h => ?_)
      refine hp_ci hR (hp_runV (rest := []) (As := [.int x1]) hX hR (c_State_addBroker h14) cs_X10_218 rfl rfl rfl hd_State_addBroker ⟨Nat.le_of_ble_eq_true rfl, Nat.le_of_ble_eq_true rfl⟩ (ci := 7) rfl (hp_own_is h14) rfl hl.1 rfl (Nat.le_of_ble_eq_true rfl) dX10_broker_52 ⟨Nat.le_of_ble_eq_true rfl, Nat.le_of_ble_eq_true rfl⟩) (fun H locs hR => ?_)
      exact hp_iret hX hlocks hr hR h dX10_broker_55
    · have h := hp_in c7 h
      refine lv_ldc (v := (-1000000004)) hx hb hown (hts _ wq2_225) dX10_broker_26 ?_
      exact hp_iret hX hlocks hr hR h dX10_broker_28
  · have h := hp_ip c4 h
    refine lv_ldc (v := (-1000000001)) hx hb hown (hts _ wq2_141) dX10_broker_11 ?_
    exact hp_iret hX hlocks hr hR h dX10_broker_13
theorem cs_X10_221 : hp_WV RX10 221 RX8 yX8_addClient cX8_addClient 2 (some .int) := ⟨wq3_14, wq3_15, wq3_16, wq1_2, wq3_17⟩
/-! NB.client(I)I -/
abbrev rm_NB_client : Room := { frames := 4, cells := 0, slots := 0, locals := 104 }
theorem hd_NB_client : hp_d yX10_client 1 := by decide +kernel
def f_NB_client (a0 : Nat) (x1 : Int32) (σ : hp_H) : Option (Int32 × hp_H) := hp_own σ a0 9 ((hp_gR σ a0 9 0).bind fun q1 => (f_State_hasBroker q1 x1 σ).bind fun v3 => if v3 = 0 then (some ((-1000000001), σ)) else ((hp_gR σ a0 9 0).bind fun q5 => (hp_gI σ q5 7 1).bind fun v6 => if v6 < 6 then ((hp_gR σ a0 9 3).bind fun q8 => (hp_gR σ a0 9 0).bind fun q9 => (f_Past_remember q8 q9 σ).bind fun σ => (hp_gR σ a0 9 0).bind fun q11 => hp_b (f_State_addClient q11 x1 σ) fun v13 σ => some (v13, σ)) else (some ((-1000000004), σ))))
set_option maxHeartbeats 4000000 in
set_option maxRecDepth 100000 in
theorem c_NB_client {l : Launch} {G : hp_G} {b : Nat} {σ : hp_H} {a0 : Nat} {x1 : Int32} {r : Int32} {σ' : hp_H} (h : f_NB_client a0 x1 σ = some (r, σ')) : hp_Met l yX10_client cX10_client 2 (some .int) rm_NB_client G b [.ref a0, .int x1] σ (some (.int r)) σ' 0 0 := by
  refine hp_met (by decide +kernel) (Nat.le_of_ble_eq_true rfl) (fun p e s m below meth c ls hX hlocks hr hnm hl hR => ?_)
  obtain ⟨hx, hb, hml, hown, hts⟩ := id hX.1
  have hl : lv_has ls 2 [(0, .ref a0), (1, .int x1)] := hl
  unfold f_NB_client at h
  have h := hp_own_to h
  refine lv_aload_n hx hb dX10_client_0 rfl (lv_at hl 0 rfl) ?_
  refine hp_getR hX hR (ci := 9) 0 rfl wf10 (by decide) wq2_11 dX10_client_1 h (fun q1 h => ?_)
  refine lv_iload_n hx hb dX10_client_4 rfl (lv_at hl 1 rfl) ?_
  refine hp_bn h (fun v3 h2 h => ?_)
  refine hp_ci hR (hp_runV (rest := []) (As := [.int x1]) hX hR (c_State_hasBroker h2) cs_X10_99 rfl rfl rfl hd_State_hasBroker ⟨Nat.le_of_ble_eq_true rfl, Nat.le_of_ble_eq_true rfl⟩ (ci := 7) rfl (hp_own_is h2) rfl hl.1 rfl (Nat.le_of_ble_eq_true rfl) dX10_client_5 ⟨Nat.le_of_ble_eq_true rfl, Nat.le_of_ble_eq_true rfl⟩) (fun H locs hR => ?_)
  refine lv_if_ne (tgt := 14) hx hb dX10_client_8 (by decide) (fun c4 => ?_) (fun c4 => ?_)
  · have h := hp_in c4 h
    refine lv_aload_n hx hb dX10_client_14 rfl (lv_at hl 0 rfl) ?_
    refine hp_getR hX hR (ci := 9) 0 rfl wf10 (by decide) wq2_11 dX10_client_15 h (fun q5 h => ?_)
    refine hp_getI hX hR (ci := 7) 1 rfl wf8 (by decide) wq1_72 dX10_client_18 h (fun v6 h => ?_)
    refine lv_bipush (v := 6) hx hb dX10_client_21 (by decide) ?_
    refine lv_icmp_lt (tgt := 29) hx hb dX10_client_23 (by decide) (fun c7 => ?_) (fun c7 => ?_)
    · have h := hp_ip c7 h
      refine lv_aload_n hx hb dX10_client_29 rfl (lv_at hl 0 rfl) ?_
      refine hp_getR hX hR (ci := 9) 3 rfl wf10 (by decide) wq2_14 dX10_client_30 h (fun q8 h => ?_)
      refine lv_aload_n hx hb dX10_client_33 rfl (lv_at hl 0 rfl) ?_
      refine hp_getR hX hR (ci := 9) 0 rfl wf10 (by decide) wq2_11 dX10_client_34 h (fun q9 h => ?_)
      refine hp_bn h (fun σ h10 h => ?_)
      refine hp_cv hR (hp_runV (rest := []) (As := [.ref q9]) hX hR (c_Past_remember h10) cs_X10_212 rfl rfl rfl hd_Past_remember ⟨Nat.le_of_ble_eq_true rfl, Nat.le_of_ble_eq_true rfl⟩ (ci := 6) rfl (hp_own_is h10) rfl hl.1 rfl (Nat.le_of_ble_eq_true rfl) dX10_client_37 ⟨Nat.le_of_ble_eq_true rfl, Nat.le_of_ble_eq_true rfl⟩) (fun H locs hR => ?_)
      refine lv_aload_n hx hb dX10_client_40 rfl (lv_at hl 0 rfl) ?_
      refine hp_getR hX hR (ci := 9) 0 rfl wf10 (by decide) wq2_11 dX10_client_41 h (fun q11 h => ?_)
      refine lv_iload_n hx hb dX10_client_44 rfl (lv_at hl 1 rfl) ?_
      refine hp_b2 h (fun v13 σ h12 h => ?_)
      refine hp_ci hR (hp_runV (rest := []) (As := [.int x1]) hX hR (c_State_addClient h12) cs_X10_221 rfl rfl rfl hd_State_addClient ⟨Nat.le_of_ble_eq_true rfl, Nat.le_of_ble_eq_true rfl⟩ (ci := 7) rfl (hp_own_is h12) rfl hl.1 rfl (Nat.le_of_ble_eq_true rfl) dX10_client_45 ⟨Nat.le_of_ble_eq_true rfl, Nat.le_of_ble_eq_true rfl⟩) (fun H locs hR => ?_)
      exact hp_iret hX hlocks hr hR h dX10_client_48
    · have h := hp_in c7 h
      refine lv_ldc (v := (-1000000004)) hx hb hown (hts _ wq2_225) dX10_client_26 ?_
      exact hp_iret hX hlocks hr hR h dX10_client_28
  · have h := hp_ip c4 h
    refine lv_ldc (v := (-1000000001)) hx hb hown (hts _ wq2_141) dX10_client_11 ?_
    exact hp_iret hX hlocks hr hR h dX10_client_13
/-! NB.isKind(I)Z -/
abbrev rm_NB_isKind : Room := { frames := 1, cells := 0, slots := 0, locals := 22 }
theorem hd_NB_isKind : hp_d yX10_isKind 1 := by decide +kernel
def f_NB_isKind (x0 : Int32) : Option Int32 := (f_NB_within x0 0 3).bind fun v2 => hp_z v2 (some v2)
set_option maxHeartbeats 4000000 in
set_option maxRecDepth 100000 in
theorem c_NB_isKind {l : Launch} {G : hp_G} {b : Nat} {σ : hp_H} {x0 : Int32} {r : Int32} (h : f_NB_isKind x0 = some r) : hp_Met l yX10_isKind cX10_isKind 1 (some .boolean) rm_NB_isKind G b [.int x0] σ (some (.int r)) σ 0 0 := by
  refine hp_met (by decide +kernel) (Nat.le_of_ble_eq_true rfl) (fun p e s m below meth c ls hX hlocks hr hnm hl hR => ?_)
  obtain ⟨hx, hb, hml, hown, hts⟩ := id hX.1
  have hl : lv_has ls 1 [(0, .int x0)] := hl
  unfold f_NB_isKind at h
  refine lv_iload_n hx hb dX10_isKind_0 rfl (lv_at hl 0 rfl) ?_
  refine lv_iconst (v := 0) hx hb dX10_isKind_1 (by decide) ?_
  refine lv_iconst (v := 3) hx hb dX10_isKind_2 (by decide) ?_
  refine hp_bn h (fun v2 h1 h => ?_)
  refine hp_ci hR (hp_runS (rest := []) (As := [.int x0, .int 0, .int 3]) hX hR (c_NB_within h1) cs_X10_143 rfl rfl hd_NB_within ⟨Nat.le_of_ble_eq_true rfl, Nat.le_of_ble_eq_true rfl⟩ rfl hl.1 rfl (Nat.le_of_ble_eq_true rfl) dX10_isKind_3 ⟨Nat.le_of_ble_eq_true rfl, Nat.le_of_ble_eq_true rfl⟩) (fun H locs hR => ?_)
  exact hp_zretP hX hlocks hr hR h dX10_isKind_6
theorem cs_X10_224 : hp_WS RX10 224 yX10_isKind cX10_isKind 1 (some .boolean) := ⟨wq3_26, wq3_27, wq1_1, wq3_28⟩
theorem cs_X10_227 : hp_WS RX10 227 yX1_withKind cX1_withKind 5 (some .int) := ⟨wq3_29, wq3_30, wq1_12, wq3_31⟩
theorem cs_X10_230 : hp_WV RX10 230 RX8 yX8_addWish cX8_addWish 3 (some .int) := ⟨wq3_32, wq3_33, wq3_34, wq1_2, wq3_35⟩
/-! NB.wish(IIIIIII)I -/
abbrev rm_NB_wish : Room := { frames := 4, cells := 0, slots := 0, locals := 104 }
theorem hd_NB_wish : hp_d yX10_wish 7 := by decide +kernel
def f_NB_wish (a0 : Nat) (x1 : Int32) (x2 : Int32) (x3 : Int32) (x4 : Int32) (x5 : Int32) (x6 : Int32) (x7 : Int32) (σ : hp_H) : Option (Int32 × hp_H) := hp_own σ a0 9 ((hp_gR σ a0 9 0).bind fun q1 => (f_State_hasClient q1 x1 σ).bind fun v3 => if v3 = 0 then (some ((-1000000001), σ)) else ((f_NB_isKind x2).bind fun v6 => if v6 = 0 then (some ((-1000000002), σ)) else ((f_NB_isKind x4).bind fun v9 => if v9 = 0 then (some ((-1000000002), σ)) else ((f_NB_isKind x6).bind fun v12 => if v12 = 0 then (some ((-1000000002), σ)) else ((f_NB_isNotice x3 x5 x7).bind fun v15 => if v15 = 0 then (some ((-1000000002), σ)) else ((hp_gR σ a0 9 0).bind fun q17 => (hp_gI σ q17 7 2).bind fun v18 => if v18 < 12 then ((hp_gR σ a0 9 3).bind fun q20 => (hp_gR σ a0 9 0).bind fun q21 => (f_Past_remember q20 q21 σ).bind fun σ => (hp_gR σ a0 9 1).bind fun q23 => (f_Tellings_outdate q23 σ).bind fun σ => (f_Box_withKind 0 x2 x3).bind fun v26 => (f_Box_withKind v26 x4 x5).bind fun v28 => (f_Box_withKind v28 x6 x7).bind fun v30 => (hp_gR σ a0 9 0).bind fun q31 => hp_b (f_State_addWish q31 x1 v30 σ) fun v33 σ => some (v33, σ)) else (some ((-1000000004), σ))))))))
set_option maxHeartbeats 4000000 in
set_option maxRecDepth 100000 in
theorem c_NB_wish {l : Launch} {G : hp_G} {b : Nat} {σ : hp_H} {a0 : Nat} {x1 : Int32} {x2 : Int32} {x3 : Int32} {x4 : Int32} {x5 : Int32} {x6 : Int32} {x7 : Int32} {r : Int32} {σ' : hp_H} (h : f_NB_wish a0 x1 x2 x3 x4 x5 x6 x7 σ = some (r, σ')) : hp_Met l yX10_wish cX10_wish 9 (some .int) rm_NB_wish G b [.ref a0, .int x1, .int x2, .int x3, .int x4, .int x5, .int x6, .int x7] σ (some (.int r)) σ' 0 0 := by
  refine hp_met (by decide +kernel) (Nat.le_of_ble_eq_true rfl) (fun p e s m below meth c ls hX hlocks hr hnm hl hR => ?_)
  obtain ⟨hx, hb, hml, hown, hts⟩ := id hX.1
  have hl : lv_has ls 9 [(0, .ref a0), (1, .int x1), (2, .int x2), (3, .int x3), (4, .int x4), (5, .int x5), (6, .int x6), (7, .int x7)] := hl
  unfold f_NB_wish at h
  have h := hp_own_to h
  refine lv_aload_n hx hb dX10_wish_0 rfl (lv_at hl 0 rfl) ?_
  refine hp_getR hX hR (ci := 9) 0 rfl wf10 (by decide) wq2_11 dX10_wish_1 h (fun q1 h => ?_)
  refine lv_iload_n hx hb dX10_wish_4 rfl (lv_at hl 1 rfl) ?_
  refine hp_bn h (fun v3 h2 h => ?_)
  refine hp_ci hR (hp_runV (rest := []) (As := [.int x1]) hX hR (c_State_hasClient h2) cs_X10_118 rfl rfl rfl hd_State_hasClient ⟨Nat.le_of_ble_eq_true rfl, Nat.le_of_ble_eq_true rfl⟩ (ci := 7) rfl (hp_own_is h2) rfl hl.1 rfl (Nat.le_of_ble_eq_true rfl) dX10_wish_5 ⟨Nat.le_of_ble_eq_true rfl, Nat.le_of_ble_eq_true rfl⟩) (fun H locs hR => ?_)
  refine lv_if_ne (tgt := 14) hx hb dX10_wish_8 (by decide) (fun c4 => ?_) (fun c4 => ?_)
  · have h := hp_in c4 h
    refine lv_iload_n hx hb dX10_wish_14 rfl (lv_at hl 2 rfl) ?_
    refine hp_bn h (fun v6 h5 h => ?_)
    refine hp_ci hR (hp_runS (rest := []) (As := [.int x2]) hX hR (c_NB_isKind h5) cs_X10_224 rfl rfl hd_NB_isKind ⟨Nat.le_of_ble_eq_true rfl, Nat.le_of_ble_eq_true rfl⟩ rfl hl.1 rfl (Nat.le_of_ble_eq_true rfl) dX10_wish_15 ⟨Nat.le_of_ble_eq_true rfl, Nat.le_of_ble_eq_true rfl⟩) (fun H locs hR => ?_)
    refine lv_if_eq (tgt := 48) hx hb dX10_wish_18 (by decide) (fun c7 => ?_) (fun c7 => ?_)
    · have h := hp_ip c7 h
      refine lv_ldc (v := (-1000000002)) hx hb hown (hts _ wq2_135) dX10_wish_48 ?_
      exact hp_iret hX hlocks hr hR h dX10_wish_50
    · have h := hp_in c7 h
      refine lv_iload hx hb dX10_wish_21 (lv_at hl 4 rfl) ?_
      refine hp_bn h (fun v9 h8 h => ?_)
      refine hp_ci hR (hp_runS (rest := []) (As := [.int x4]) hX hR (c_NB_isKind h8) cs_X10_224 rfl rfl hd_NB_isKind ⟨Nat.le_of_ble_eq_true rfl, Nat.le_of_ble_eq_true rfl⟩ rfl hl.1 rfl (Nat.le_of_ble_eq_true rfl) dX10_wish_23 ⟨Nat.le_of_ble_eq_true rfl, Nat.le_of_ble_eq_true rfl⟩) (fun H locs hR => ?_)
      refine lv_if_eq (tgt := 48) hx hb dX10_wish_26 (by decide) (fun c10 => ?_) (fun c10 => ?_)
      · have h := hp_ip c10 h
        refine lv_ldc (v := (-1000000002)) hx hb hown (hts _ wq2_135) dX10_wish_48 ?_
        exact hp_iret hX hlocks hr hR h dX10_wish_50
      · have h := hp_in c10 h
        refine lv_iload hx hb dX10_wish_29 (lv_at hl 6 rfl) ?_
        refine hp_bn h (fun v12 h11 h => ?_)
        refine hp_ci hR (hp_runS (rest := []) (As := [.int x6]) hX hR (c_NB_isKind h11) cs_X10_224 rfl rfl hd_NB_isKind ⟨Nat.le_of_ble_eq_true rfl, Nat.le_of_ble_eq_true rfl⟩ rfl hl.1 rfl (Nat.le_of_ble_eq_true rfl) dX10_wish_31 ⟨Nat.le_of_ble_eq_true rfl, Nat.le_of_ble_eq_true rfl⟩) (fun H locs hR => ?_)
        refine lv_if_eq (tgt := 48) hx hb dX10_wish_34 (by decide) (fun c13 => ?_) (fun c13 => ?_)
        · have h := hp_ip c13 h
          refine lv_ldc (v := (-1000000002)) hx hb hown (hts _ wq2_135) dX10_wish_48 ?_
          exact hp_iret hX hlocks hr hR h dX10_wish_50
        · have h := hp_in c13 h
          refine lv_iload_n hx hb dX10_wish_37 rfl (lv_at hl 3 rfl) ?_
          refine lv_iload hx hb dX10_wish_38 (lv_at hl 5 rfl) ?_
          refine lv_iload hx hb dX10_wish_40 (lv_at hl 7 rfl) ?_
          refine hp_bn h (fun v15 h14 h => ?_)
          refine hp_ci hR (hp_runS (rest := []) (As := [.int x3, .int x5, .int x7]) hX hR (c_NB_isNotice h14) cs_X10_188 rfl rfl hd_NB_isNotice ⟨Nat.le_of_ble_eq_true rfl, Nat.le_of_ble_eq_true rfl⟩ rfl hl.1 rfl (Nat.le_of_ble_eq_true rfl) dX10_wish_42 ⟨Nat.le_of_ble_eq_true rfl, Nat.le_of_ble_eq_true rfl⟩) (fun H locs hR => ?_)
          refine lv_if_ne (tgt := 51) hx hb dX10_wish_45 (by decide) (fun c16 => ?_) (fun c16 => ?_)
          · have h := hp_in c16 h
            refine lv_aload_n hx hb dX10_wish_51 rfl (lv_at hl 0 rfl) ?_
            refine hp_getR hX hR (ci := 9) 0 rfl wf10 (by decide) wq2_11 dX10_wish_52 h (fun q17 h => ?_)
            refine hp_getI hX hR (ci := 7) 2 rfl wf8 (by decide) wq1_74 dX10_wish_55 h (fun v18 h => ?_)
            refine lv_bipush (v := 12) hx hb dX10_wish_58 (by decide) ?_
            refine lv_icmp_lt (tgt := 66) hx hb dX10_wish_60 (by decide) (fun c19 => ?_) (fun c19 => ?_)
            · have h := hp_ip c19 h
              refine lv_aload_n hx hb dX10_wish_66 rfl (lv_at hl 0 rfl) ?_
              refine hp_getR hX hR (ci := 9) 3 rfl wf10 (by decide) wq2_14 dX10_wish_67 h (fun q20 h => ?_)
              refine lv_aload_n hx hb dX10_wish_70 rfl (lv_at hl 0 rfl) ?_
              refine hp_getR hX hR (ci := 9) 0 rfl wf10 (by decide) wq2_11 dX10_wish_71 h (fun q21 h => ?_)
              refine hp_bn h (fun σ h22 h => ?_)
              refine hp_cv hR (hp_runV (rest := []) (As := [.ref q21]) hX hR (c_Past_remember h22) cs_X10_212 rfl rfl rfl hd_Past_remember ⟨Nat.le_of_ble_eq_true rfl, Nat.le_of_ble_eq_true rfl⟩ (ci := 6) rfl (hp_own_is h22) rfl hl.1 rfl (Nat.le_of_ble_eq_true rfl) dX10_wish_74 ⟨Nat.le_of_ble_eq_true rfl, Nat.le_of_ble_eq_true rfl⟩) (fun H locs hR => ?_)
              refine lv_aload_n hx hb dX10_wish_77 rfl (lv_at hl 0 rfl) ?_
              refine hp_getR hX hR (ci := 9) 1 rfl wf10 (by decide) wq2_12 dX10_wish_78 h (fun q23 h => ?_)
              refine hp_bn h (fun σ h24 h => ?_)
              refine hp_cv hR (hp_runV (rest := []) (As := []) hX hR (c_Tellings_outdate h24) cs_X10_215 rfl rfl rfl hd_Tellings_outdate ⟨Nat.le_of_ble_eq_true rfl, Nat.le_of_ble_eq_true rfl⟩ (ci := 8) rfl (hp_own_is h24) rfl hl.1 rfl (Nat.le_of_ble_eq_true rfl) dX10_wish_81 ⟨Nat.le_of_ble_eq_true rfl, Nat.le_of_ble_eq_true rfl⟩) (fun H locs hR => ?_)
              refine lv_iconst (v := 0) hx hb dX10_wish_84 (by decide) ?_
              refine lv_iload_n hx hb dX10_wish_85 rfl (lv_at hl 2 rfl) ?_
              refine lv_iload_n hx hb dX10_wish_86 rfl (lv_at hl 3 rfl) ?_
              refine hp_bn h (fun v26 h25 h => ?_)
              refine hp_ci hR (hp_runS (rest := []) (As := [.int 0, .int x2, .int x3]) hX hR (c_Box_withKind h25) cs_X10_227 rfl rfl hd_Box_withKind ⟨Nat.le_of_ble_eq_true rfl, Nat.le_of_ble_eq_true rfl⟩ rfl hl.1 rfl (Nat.le_of_ble_eq_true rfl) dX10_wish_87 ⟨Nat.le_of_ble_eq_true rfl, Nat.le_of_ble_eq_true rfl⟩) (fun H locs hR => ?_)
              refine lv_istore (lv' := [(8, .int v26), (0, .ref a0), (1, .int x1), (2, .int x2), (3, .int x3), (4, .int x4), (5, .int x5), (6, .int x6), (7, .int x7)]) hx hb dX10_wish_90 hl (by decide) rfl (fun ls hl => ?_)
              refine lv_iload hx hb dX10_wish_92 (lv_at hl 0 rfl) ?_
              refine lv_iload hx hb dX10_wish_94 (lv_at hl 5 rfl) ?_
              refine lv_iload hx hb dX10_wish_96 (lv_at hl 6 rfl) ?_
              refine hp_bn h (fun v28 h27 h => ?_)
              refine hp_ci hR (hp_runS (rest := []) (As := [.int v26, .int x4, .int x5]) hX hR (c_Box_withKind h27) cs_X10_227 rfl rfl hd_Box_withKind ⟨Nat.le_of_ble_eq_true rfl, Nat.le_of_ble_eq_true rfl⟩ rfl hl.1 rfl (Nat.le_of_ble_eq_true rfl) dX10_wish_98 ⟨Nat.le_of_ble_eq_true rfl, Nat.le_of_ble_eq_true rfl⟩) (fun H locs hR => ?_)
              refine lv_istore (lv' := [(8, .int v28), (0, .ref a0), (1, .int x1), (2, .int x2), (3, .int x3), (4, .int x4), (5, .int x5), (6, .int x6), (7, .int x7)]) hx hb dX10_wish_101 hl (by decide) rfl (fun ls hl => ?_)
              refine lv_iload hx hb dX10_wish_103 (lv_at hl 0 rfl) ?_
              refine lv_iload hx hb dX10_wish_105 (lv_at hl 7 rfl) ?_
              refine lv_iload hx hb dX10_wish_107 (lv_at hl 8 rfl) ?_
              refine hp_bn h (fun v30 h29 h => ?_)
              refine hp_ci hR (hp_runS (rest := []) (As := [.int v28, .int x6, .int x7]) hX hR (c_Box_withKind h29) cs_X10_227 rfl rfl hd_Box_withKind ⟨Nat.le_of_ble_eq_true rfl, Nat.le_of_ble_eq_true rfl⟩ rfl hl.1 rfl (Nat.le_of_ble_eq_true rfl) dX10_wish_109 ⟨Nat.le_of_ble_eq_true rfl, Nat.le_of_ble_eq_true rfl⟩) (fun H locs hR => ?_)
              refine lv_istore (lv' := [(8, .int v30), (0, .ref a0), (1, .int x1), (2, .int x2), (3, .int x3), (4, .int x4), (5, .int x5), (6, .int x6), (7, .int x7)]) hx hb dX10_wish_112 hl (by decide) rfl (fun ls hl => ?_)
              refine lv_aload_n hx hb dX10_wish_114 rfl (lv_at hl 1 rfl) ?_
              refine hp_getR hX hR (ci := 9) 0 rfl wf10 (by decide) wq2_11 dX10_wish_115 h (fun q31 h => ?_)
              refine lv_iload_n hx hb dX10_wish_118 rfl (lv_at hl 2 rfl) ?_
              refine lv_iload hx hb dX10_wish_119 (lv_at hl 0 rfl) ?_
              refine hp_b2 h (fun v33 σ h32 h => ?_)
              refine hp_ci hR (hp_runV (rest := []) (As := [.int x1, .int v30]) hX hR (c_State_addWish h32) cs_X10_230 rfl rfl rfl hd_State_addWish ⟨Nat.le_of_ble_eq_true rfl, Nat.le_of_ble_eq_true rfl⟩ (ci := 7) rfl (hp_own_is h32) rfl hl.1 rfl (Nat.le_of_ble_eq_true rfl) dX10_wish_121 ⟨Nat.le_of_ble_eq_true rfl, Nat.le_of_ble_eq_true rfl⟩) (fun H locs hR => ?_)
              exact hp_iret hX hlocks hr hR h dX10_wish_124
            · have h := hp_in c19 h
              refine lv_ldc (v := (-1000000004)) hx hb hown (hts _ wq2_225) dX10_wish_63 ?_
              exact hp_iret hX hlocks hr hR h dX10_wish_65
          · have h := hp_ip c16 h
            refine lv_ldc (v := (-1000000002)) hx hb hown (hts _ wq2_135) dX10_wish_48 ?_
            exact hp_iret hX hlocks hr hR h dX10_wish_50
  · have h := hp_ip c4 h
    refine lv_ldc (v := (-1000000001)) hx hb hown (hts _ wq2_141) dX10_wish_11 ?_
    exact hp_iret hX hlocks hr hR h dX10_wish_13
theorem cs_X10_233 : hp_WV RX10 233 RX8 yX8_removeWish cX8_removeWish 3 none := ⟨wq3_40, wq3_41, wq3_42, wq1_2, wq3_43⟩
/-! NB.drop(I)I -/
abbrev rm_NB_drop : Room := { frames := 4, cells := 0, slots := 0, locals := 104 }
theorem hd_NB_drop : hp_d yX10_drop 1 := by decide +kernel
def f_NB_drop (a0 : Nat) (x1 : Int32) (σ : hp_H) : Option (Int32 × hp_H) := hp_own σ a0 9 ((hp_gR σ a0 9 0).bind fun q1 => (f_State_hasWish q1 x1 σ).bind fun v3 => if v3 = 0 then (some ((-1000000001), σ)) else ((hp_gR σ a0 9 3).bind fun q5 => (hp_gR σ a0 9 0).bind fun q6 => (f_Past_remember q5 q6 σ).bind fun σ => (hp_gR σ a0 9 1).bind fun q8 => (f_Tellings_outdate q8 σ).bind fun σ => (hp_gR σ a0 9 0).bind fun q10 => (f_State_removeWish q10 x1 σ).bind fun σ => (hp_gR σ a0 9 0).bind fun q12 => (hp_gI σ q12 7 2).bind fun v13 => some (v13, σ)))
set_option maxHeartbeats 4000000 in
set_option maxRecDepth 100000 in
theorem c_NB_drop {l : Launch} {G : hp_G} {b : Nat} {σ : hp_H} {a0 : Nat} {x1 : Int32} {r : Int32} {σ' : hp_H} (h : f_NB_drop a0 x1 σ = some (r, σ')) : hp_Met l yX10_drop cX10_drop 2 (some .int) rm_NB_drop G b [.ref a0, .int x1] σ (some (.int r)) σ' 0 0 := by
  refine hp_met (by decide +kernel) (Nat.le_of_ble_eq_true rfl) (fun p e s m below meth c ls hX hlocks hr hnm hl hR => ?_)
  obtain ⟨hx, hb, hml, hown, hts⟩ := id hX.1
  have hl : lv_has ls 2 [(0, .ref a0), (1, .int x1)] := hl
  unfold f_NB_drop at h
  have h := hp_own_to h
  refine lv_aload_n hx hb dX10_drop_0 rfl (lv_at hl 0 rfl) ?_
  refine hp_getR hX hR (ci := 9) 0 rfl wf10 (by decide) wq2_11 dX10_drop_1 h (fun q1 h => ?_)
  refine lv_iload_n hx hb dX10_drop_4 rfl (lv_at hl 1 rfl) ?_
  refine hp_bn h (fun v3 h2 h => ?_)
  refine hp_ci hR (hp_runV (rest := []) (As := [.int x1]) hX hR (c_State_hasWish h2) cs_X10_150 rfl rfl rfl hd_State_hasWish ⟨Nat.le_of_ble_eq_true rfl, Nat.le_of_ble_eq_true rfl⟩ (ci := 7) rfl (hp_own_is h2) rfl hl.1 rfl (Nat.le_of_ble_eq_true rfl) dX10_drop_5 ⟨Nat.le_of_ble_eq_true rfl, Nat.le_of_ble_eq_true rfl⟩) (fun H locs hR => ?_)
  refine lv_if_ne (tgt := 14) hx hb dX10_drop_8 (by decide) (fun c4 => ?_) (fun c4 => ?_)
  · have h := hp_in c4 h
    refine lv_aload_n hx hb dX10_drop_14 rfl (lv_at hl 0 rfl) ?_
    refine hp_getR hX hR (ci := 9) 3 rfl wf10 (by decide) wq2_14 dX10_drop_15 h (fun q5 h => ?_)
    refine lv_aload_n hx hb dX10_drop_18 rfl (lv_at hl 0 rfl) ?_
    refine hp_getR hX hR (ci := 9) 0 rfl wf10 (by decide) wq2_11 dX10_drop_19 h (fun q6 h => ?_)
    refine hp_bn h (fun σ h7 h => ?_)
    refine hp_cv hR (hp_runV (rest := []) (As := [.ref q6]) hX hR (c_Past_remember h7) cs_X10_212 rfl rfl rfl hd_Past_remember ⟨Nat.le_of_ble_eq_true rfl, Nat.le_of_ble_eq_true rfl⟩ (ci := 6) rfl (hp_own_is h7) rfl hl.1 rfl (Nat.le_of_ble_eq_true rfl) dX10_drop_22 ⟨Nat.le_of_ble_eq_true rfl, Nat.le_of_ble_eq_true rfl⟩) (fun H locs hR => ?_)
    refine lv_aload_n hx hb dX10_drop_25 rfl (lv_at hl 0 rfl) ?_
    refine hp_getR hX hR (ci := 9) 1 rfl wf10 (by decide) wq2_12 dX10_drop_26 h (fun q8 h => ?_)
    refine hp_bn h (fun σ h9 h => ?_)
    refine hp_cv hR (hp_runV (rest := []) (As := []) hX hR (c_Tellings_outdate h9) cs_X10_215 rfl rfl rfl hd_Tellings_outdate ⟨Nat.le_of_ble_eq_true rfl, Nat.le_of_ble_eq_true rfl⟩ (ci := 8) rfl (hp_own_is h9) rfl hl.1 rfl (Nat.le_of_ble_eq_true rfl) dX10_drop_29 ⟨Nat.le_of_ble_eq_true rfl, Nat.le_of_ble_eq_true rfl⟩) (fun H locs hR => ?_)
    refine lv_aload_n hx hb dX10_drop_32 rfl (lv_at hl 0 rfl) ?_
    refine hp_getR hX hR (ci := 9) 0 rfl wf10 (by decide) wq2_11 dX10_drop_33 h (fun q10 h => ?_)
    refine lv_iload_n hx hb dX10_drop_36 rfl (lv_at hl 1 rfl) ?_
    refine hp_bn h (fun σ h11 h => ?_)
    refine hp_cv hR (hp_runV (rest := []) (As := [.int x1]) hX hR (c_State_removeWish h11) cs_X10_233 rfl rfl rfl hd_State_removeWish ⟨Nat.le_of_ble_eq_true rfl, Nat.le_of_ble_eq_true rfl⟩ (ci := 7) rfl (hp_own_is h11) rfl hl.1 rfl (Nat.le_of_ble_eq_true rfl) dX10_drop_37 ⟨Nat.le_of_ble_eq_true rfl, Nat.le_of_ble_eq_true rfl⟩) (fun H locs hR => ?_)
    refine lv_aload_n hx hb dX10_drop_40 rfl (lv_at hl 0 rfl) ?_
    refine hp_getR hX hR (ci := 9) 0 rfl wf10 (by decide) wq2_11 dX10_drop_41 h (fun q12 h => ?_)
    refine hp_getI hX hR (ci := 7) 2 rfl wf8 (by decide) wq1_74 dX10_drop_44 h (fun v13 h => ?_)
    exact hp_iret hX hlocks hr hR h dX10_drop_47
  · have h := hp_ip c4 h
    refine lv_ldc (v := (-1000000001)) hx hb hown (hts _ wq2_141) dX10_drop_11 ?_
    exact hp_iret hX hlocks hr hR h dX10_drop_13
/-! NB.most(I)I -/
abbrev rm_NB_most : Room := { frames := 4, cells := 0, slots := 0, locals := 104 }
theorem hd_NB_most : hp_d yX10_most 1 := by decide +kernel
def f_NB_most (a0 : Nat) (x1 : Int32) (σ : hp_H) : Option (Int32 × hp_H) := hp_own σ a0 9 ((f_NB_within x1 1 9).bind fun v2 => if v2 = 0 then (some ((-1000000002), σ)) else ((hp_gR σ a0 9 3).bind fun q4 => (hp_gR σ a0 9 0).bind fun q5 => (f_Past_remember q4 q5 σ).bind fun σ => (hp_gR σ a0 9 1).bind fun q7 => (f_Tellings_outdate q7 σ).bind fun σ => (hp_gR σ a0 9 0).bind fun q9 => (hp_gI σ q9 7 3).bind fun v10 => (hp_gR σ a0 9 0).bind fun q11 => (hp_pI σ q11 7 3 x1).bind fun σ => some (v10, σ)))
set_option maxHeartbeats 4000000 in
set_option maxRecDepth 100000 in
theorem c_NB_most {l : Launch} {G : hp_G} {b : Nat} {σ : hp_H} {a0 : Nat} {x1 : Int32} {r : Int32} {σ' : hp_H} (h : f_NB_most a0 x1 σ = some (r, σ')) : hp_Met l yX10_most cX10_most 3 (some .int) rm_NB_most G b [.ref a0, .int x1] σ (some (.int r)) σ' 0 0 := by
  refine hp_met (by decide +kernel) (Nat.le_of_ble_eq_true rfl) (fun p e s m below meth c ls hX hlocks hr hnm hl hR => ?_)
  obtain ⟨hx, hb, hml, hown, hts⟩ := id hX.1
  have hl : lv_has ls 3 [(0, .ref a0), (1, .int x1)] := hl
  unfold f_NB_most at h
  have h := hp_own_to h
  refine lv_iload_n hx hb dX10_most_0 rfl (lv_at hl 1 rfl) ?_
  refine lv_iconst (v := 1) hx hb dX10_most_1 (by decide) ?_
  refine lv_bipush (v := 9) hx hb dX10_most_2 (by decide) ?_
  refine hp_bn h (fun v2 h1 h => ?_)
  refine hp_ci hR (hp_runS (rest := []) (As := [.int x1, .int 1, .int 9]) hX hR (c_NB_within h1) cs_X10_143 rfl rfl hd_NB_within ⟨Nat.le_of_ble_eq_true rfl, Nat.le_of_ble_eq_true rfl⟩ rfl hl.1 rfl (Nat.le_of_ble_eq_true rfl) dX10_most_4 ⟨Nat.le_of_ble_eq_true rfl, Nat.le_of_ble_eq_true rfl⟩) (fun H locs hR => ?_)
  refine lv_if_ne (tgt := 13) hx hb dX10_most_7 (by decide) (fun c3 => ?_) (fun c3 => ?_)
  · have h := hp_in c3 h
    refine lv_aload_n hx hb dX10_most_13 rfl (lv_at hl 0 rfl) ?_
    refine hp_getR hX hR (ci := 9) 3 rfl wf10 (by decide) wq2_14 dX10_most_14 h (fun q4 h => ?_)
    refine lv_aload_n hx hb dX10_most_17 rfl (lv_at hl 0 rfl) ?_
    refine hp_getR hX hR (ci := 9) 0 rfl wf10 (by decide) wq2_11 dX10_most_18 h (fun q5 h => ?_)
    refine hp_bn h (fun σ h6 h => ?_)
    refine hp_cv hR (hp_runV (rest := []) (As := [.ref q5]) hX hR (c_Past_remember h6) cs_X10_212 rfl rfl rfl hd_Past_remember ⟨Nat.le_of_ble_eq_true rfl, Nat.le_of_ble_eq_true rfl⟩ (ci := 6) rfl (hp_own_is h6) rfl hl.1 rfl (Nat.le_of_ble_eq_true rfl) dX10_most_21 ⟨Nat.le_of_ble_eq_true rfl, Nat.le_of_ble_eq_true rfl⟩) (fun H locs hR => ?_)
    refine lv_aload_n hx hb dX10_most_24 rfl (lv_at hl 0 rfl) ?_
    refine hp_getR hX hR (ci := 9) 1 rfl wf10 (by decide) wq2_12 dX10_most_25 h (fun q7 h => ?_)
    refine hp_bn h (fun σ h8 h => ?_)
    refine hp_cv hR (hp_runV (rest := []) (As := []) hX hR (c_Tellings_outdate h8) cs_X10_215 rfl rfl rfl hd_Tellings_outdate ⟨Nat.le_of_ble_eq_true rfl, Nat.le_of_ble_eq_true rfl⟩ (ci := 8) rfl (hp_own_is h8) rfl hl.1 rfl (Nat.le_of_ble_eq_true rfl) dX10_most_28 ⟨Nat.le_of_ble_eq_true rfl, Nat.le_of_ble_eq_true rfl⟩) (fun H locs hR => ?_)
    refine lv_aload_n hx hb dX10_most_31 rfl (lv_at hl 0 rfl) ?_
    refine hp_getR hX hR (ci := 9) 0 rfl wf10 (by decide) wq2_11 dX10_most_32 h (fun q9 h => ?_)
    refine hp_getI hX hR (ci := 7) 3 rfl wf8 (by decide) wq1_77 dX10_most_35 h (fun v10 h => ?_)
    refine lv_istore_n (lv' := [(2, .int v10), (0, .ref a0), (1, .int x1)]) hx hb dX10_most_38 rfl hl (by decide) rfl (fun ls hl => ?_)
    refine lv_aload_n hx hb dX10_most_39 rfl (lv_at hl 1 rfl) ?_
    refine hp_getR hX hR (ci := 9) 0 rfl wf10 (by decide) wq2_11 dX10_most_40 h (fun q11 h => ?_)
    refine lv_iload_n hx hb dX10_most_43 rfl (lv_at hl 2 rfl) ?_
    refine hp_putI hX hR (ci := 7) 3 rfl wf8 tyX8_ok nmX8 (by decide) wq1_77 rfl dX10_most_44 rfl h (fun σ H locs h hR => ?_)
    refine lv_iload_n hx hb dX10_most_47 rfl (lv_at hl 0 rfl) ?_
    exact hp_iret hX hlocks hr hR h dX10_most_48
  · have h := hp_ip c3 h
    refine lv_ldc (v := (-1000000002)) hx hb hown (hts _ wq2_135) dX10_most_10 ?_
    exact hp_iret hX hlocks hr hR h dX10_most_12
theorem cs_X10_271 : hp_WV RX10 271 RX8 yX8_hand cX8_hand 3 none := ⟨wq3_56, wq3_57, wq3_58, wq1_2, wq3_59⟩
theorem cs_X10_275 : hp_WS RX10 275 yJ6_bitCount_0f7a4 cJ6_bitCount_0f7a4 1 (some .int) := ⟨wq3_82, wq3_77, wq1_15, wq3_78⟩
/-! NB.deliver(II)I -/
abbrev rm_NB_deliver : Room := { frames := 5, cells := 0, slots := 0, locals := 121 }
theorem hd_NB_deliver : hp_d yX10_deliver 2 := by decide +kernel
def f_NB_deliver (a0 : Nat) (x1 : Int32) (x2 : Int32) (σ : hp_H) : Option (Int32 × hp_H) := hp_own σ a0 9 ((hp_gR σ a0 9 3).bind fun q1 => (hp_gR σ a0 9 0).bind fun q2 => (f_Past_remember q1 q2 σ).bind fun σ => (hp_gR σ a0 9 2).bind fun q4 => (hp_gR σ a0 9 0).bind fun q5 => (hp_gR σ a0 9 1).bind fun q6 => (f_Journey_travel q4 q5 q6 x1 x2 σ).bind fun σ => (hp_gR σ a0 9 0).bind fun q8 => (hp_gR σ a0 9 2).bind fun q9 => (f_State_hand q8 q9 σ).bind fun σ => (hp_gR σ a0 9 2).bind fun q11 => (hp_gI σ q11 5 2).bind fun v12 => (f_Integer_bitCount v12).bind fun v14 => some (v14, σ))
set_option maxHeartbeats 4000000 in
set_option maxRecDepth 100000 in
theorem c_NB_deliver {l : Launch} {G : hp_G} {b : Nat} {σ : hp_H} {a0 : Nat} {x1 : Int32} {x2 : Int32} {r : Int32} {σ' : hp_H} (h : f_NB_deliver a0 x1 x2 σ = some (r, σ')) : hp_Met l yX10_deliver cX10_deliver 3 (some .int) rm_NB_deliver G b [.ref a0, .int x1, .int x2] σ (some (.int r)) σ' 0 0 := by
  refine hp_met (by decide +kernel) (Nat.le_of_ble_eq_true rfl) (fun p e s m below meth c ls hX hlocks hr hnm hl hR => ?_)
  obtain ⟨hx, hb, hml, hown, hts⟩ := id hX.1
  have hl : lv_has ls 3 [(0, .ref a0), (1, .int x1), (2, .int x2)] := hl
  unfold f_NB_deliver at h
  have h := hp_own_to h
  refine lv_aload_n hx hb dX10_deliver_0 rfl (lv_at hl 0 rfl) ?_
  refine hp_getR hX hR (ci := 9) 3 rfl wf10 (by decide) wq2_14 dX10_deliver_1 h (fun q1 h => ?_)
  refine lv_aload_n hx hb dX10_deliver_4 rfl (lv_at hl 0 rfl) ?_
  refine hp_getR hX hR (ci := 9) 0 rfl wf10 (by decide) wq2_11 dX10_deliver_5 h (fun q2 h => ?_)
  refine hp_bn h (fun σ h3 h => ?_)
  refine hp_cv hR (hp_runV (rest := []) (As := [.ref q2]) hX hR (c_Past_remember h3) cs_X10_212 rfl rfl rfl hd_Past_remember ⟨Nat.le_of_ble_eq_true rfl, Nat.le_of_ble_eq_true rfl⟩ (ci := 6) rfl (hp_own_is h3) rfl hl.1 rfl (Nat.le_of_ble_eq_true rfl) dX10_deliver_8 ⟨Nat.le_of_ble_eq_true rfl, Nat.le_of_ble_eq_true rfl⟩) (fun H locs hR => ?_)
  refine lv_aload_n hx hb dX10_deliver_11 rfl (lv_at hl 0 rfl) ?_
  refine hp_getR hX hR (ci := 9) 2 rfl wf10 (by decide) wq2_13 dX10_deliver_12 h (fun q4 h => ?_)
  refine lv_aload_n hx hb dX10_deliver_15 rfl (lv_at hl 0 rfl) ?_
  refine hp_getR hX hR (ci := 9) 0 rfl wf10 (by decide) wq2_11 dX10_deliver_16 h (fun q5 h => ?_)
  refine lv_aload_n hx hb dX10_deliver_19 rfl (lv_at hl 0 rfl) ?_
  refine hp_getR hX hR (ci := 9) 1 rfl wf10 (by decide) wq2_12 dX10_deliver_20 h (fun q6 h => ?_)
  refine lv_iload_n hx hb dX10_deliver_23 rfl (lv_at hl 1 rfl) ?_
  refine lv_iload_n hx hb dX10_deliver_24 rfl (lv_at hl 2 rfl) ?_
  refine hp_bn h (fun σ h7 h => ?_)
  refine hp_cv hR (hp_runV (rest := []) (As := [.ref q5, .ref q6, .int x1, .int x2]) hX hR (c_Journey_travel h7) cs_X10_195 rfl rfl rfl hd_Journey_travel ⟨Nat.le_of_ble_eq_true rfl, Nat.le_of_ble_eq_true rfl⟩ (ci := 5) rfl (hp_own_is h7) rfl hl.1 rfl (Nat.le_of_ble_eq_true rfl) dX10_deliver_25 ⟨Nat.le_of_ble_eq_true rfl, Nat.le_of_ble_eq_true rfl⟩) (fun H locs hR => ?_)
  refine lv_aload_n hx hb dX10_deliver_28 rfl (lv_at hl 0 rfl) ?_
  refine hp_getR hX hR (ci := 9) 0 rfl wf10 (by decide) wq2_11 dX10_deliver_29 h (fun q8 h => ?_)
  refine lv_aload_n hx hb dX10_deliver_32 rfl (lv_at hl 0 rfl) ?_
  refine hp_getR hX hR (ci := 9) 2 rfl wf10 (by decide) wq2_13 dX10_deliver_33 h (fun q9 h => ?_)
  refine hp_bn h (fun σ h10 h => ?_)
  refine hp_cv hR (hp_runV (rest := []) (As := [.ref q9]) hX hR (c_State_hand h10) cs_X10_271 rfl rfl rfl hd_State_hand ⟨Nat.le_of_ble_eq_true rfl, Nat.le_of_ble_eq_true rfl⟩ (ci := 7) rfl (hp_own_is h10) rfl hl.1 rfl (Nat.le_of_ble_eq_true rfl) dX10_deliver_36 ⟨Nat.le_of_ble_eq_true rfl, Nat.le_of_ble_eq_true rfl⟩) (fun H locs hR => ?_)
  refine lv_aload_n hx hb dX10_deliver_39 rfl (lv_at hl 0 rfl) ?_
  refine hp_getR hX hR (ci := 9) 2 rfl wf10 (by decide) wq2_13 dX10_deliver_40 h (fun q11 h => ?_)
  refine hp_getI hX hR (ci := 5) 2 rfl wf6 (by decide) wq1_163 dX10_deliver_43 h (fun v12 h => ?_)
  refine hp_bn h (fun v14 h13 h => ?_)
  refine hp_ci hR (hp_runS (rest := []) (As := [.int v12]) hX hR (c_Integer_bitCount h13) cs_X10_275 rfl rfl hd_Integer_bitCount ⟨Nat.le_of_ble_eq_true rfl, Nat.le_of_ble_eq_true rfl⟩ rfl hl.1 rfl (Nat.le_of_ble_eq_true rfl) dX10_deliver_46 ⟨Nat.le_of_ble_eq_true rfl, Nat.le_of_ble_eq_true rfl⟩) (fun H locs hR => ?_)
  exact hp_iret hX hlocks hr hR h dX10_deliver_49
theorem cs_X10_237 : hp_WV RX10 237 RX10 yX10_deliver cX10_deliver 3 (some .int) := ⟨wq3_52, wq3_54, wp1_4, wq1_1, wq3_55⟩
/-! NB.put(IIII)I -/
abbrev rm_NB_put : Room := { frames := 6, cells := 0, slots := 0, locals := 143 }
theorem hd_NB_put : hp_d yX10_put 4 := by decide +kernel
def f_NB_put (a0 : Nat) (x1 : Int32) (x2 : Int32) (x3 : Int32) (x4 : Int32) (σ : hp_H) : Option (Int32 × hp_H) := hp_own σ a0 9 ((hp_gR σ a0 9 0).bind fun q1 => (f_State_hasBroker q1 x1 σ).bind fun v3 => if v3 = 0 then (some ((-1000000001), σ)) else ((f_NB_isNotice x2 x3 x4).bind fun v6 => if v6 = 0 then (some ((-1000000002), σ)) else ((hp_gR σ a0 9 1).bind fun q8 => (hp_gR σ a0 9 0).bind fun q9 => (f_Tellings_refresh q8 q9 σ).bind fun σ => (f_Box_ofNotice x2 x3 x4).bind fun v12 => hp_b (f_NB_deliver a0 x1 v12 σ) fun v14 σ => some (v14, σ))))
set_option maxHeartbeats 4000000 in
set_option maxRecDepth 100000 in
theorem c_NB_put {l : Launch} {G : hp_G} {b : Nat} {σ : hp_H} {a0 : Nat} {x1 : Int32} {x2 : Int32} {x3 : Int32} {x4 : Int32} {r : Int32} {σ' : hp_H} (h : f_NB_put a0 x1 x2 x3 x4 σ = some (r, σ')) : hp_Met l yX10_put cX10_put 5 (some .int) rm_NB_put G b [.ref a0, .int x1, .int x2, .int x3, .int x4] σ (some (.int r)) σ' 0 0 := by
  refine hp_met (by decide +kernel) (Nat.le_of_ble_eq_true rfl) (fun p e s m below meth c ls hX hlocks hr hnm hl hR => ?_)
  obtain ⟨hx, hb, hml, hown, hts⟩ := id hX.1
  have hl : lv_has ls 5 [(0, .ref a0), (1, .int x1), (2, .int x2), (3, .int x3), (4, .int x4)] := hl
  unfold f_NB_put at h
  have h := hp_own_to h
  refine lv_aload_n hx hb dX10_put_0 rfl (lv_at hl 0 rfl) ?_
  refine hp_getR hX hR (ci := 9) 0 rfl wf10 (by decide) wq2_11 dX10_put_1 h (fun q1 h => ?_)
  refine lv_iload_n hx hb dX10_put_4 rfl (lv_at hl 1 rfl) ?_
  refine hp_bn h (fun v3 h2 h => ?_)
  refine hp_ci hR (hp_runV (rest := []) (As := [.int x1]) hX hR (c_State_hasBroker h2) cs_X10_99 rfl rfl rfl hd_State_hasBroker ⟨Nat.le_of_ble_eq_true rfl, Nat.le_of_ble_eq_true rfl⟩ (ci := 7) rfl (hp_own_is h2) rfl hl.1 rfl (Nat.le_of_ble_eq_true rfl) dX10_put_5 ⟨Nat.le_of_ble_eq_true rfl, Nat.le_of_ble_eq_true rfl⟩) (fun H locs hR => ?_)
  refine lv_if_ne (tgt := 14) hx hb dX10_put_8 (by decide) (fun c4 => ?_) (fun c4 => ?_)
  · have h := hp_in c4 h
    refine lv_iload_n hx hb dX10_put_14 rfl (lv_at hl 2 rfl) ?_
    refine lv_iload_n hx hb dX10_put_15 rfl (lv_at hl 3 rfl) ?_
    refine lv_iload hx hb dX10_put_16 (lv_at hl 4 rfl) ?_
    refine hp_bn h (fun v6 h5 h => ?_)
    refine hp_ci hR (hp_runS (rest := []) (As := [.int x2, .int x3, .int x4]) hX hR (c_NB_isNotice h5) cs_X10_188 rfl rfl hd_NB_isNotice ⟨Nat.le_of_ble_eq_true rfl, Nat.le_of_ble_eq_true rfl⟩ rfl hl.1 rfl (Nat.le_of_ble_eq_true rfl) dX10_put_18 ⟨Nat.le_of_ble_eq_true rfl, Nat.le_of_ble_eq_true rfl⟩) (fun H locs hR => ?_)
    refine lv_if_ne (tgt := 27) hx hb dX10_put_21 (by decide) (fun c7 => ?_) (fun c7 => ?_)
    · have h := hp_in c7 h
      refine lv_aload_n hx hb dX10_put_27 rfl (lv_at hl 0 rfl) ?_
      refine hp_getR hX hR (ci := 9) 1 rfl wf10 (by decide) wq2_12 dX10_put_28 h (fun q8 h => ?_)
      refine lv_aload_n hx hb dX10_put_31 rfl (lv_at hl 0 rfl) ?_
      refine hp_getR hX hR (ci := 9) 0 rfl wf10 (by decide) wq2_11 dX10_put_32 h (fun q9 h => ?_)
      refine hp_bn h (fun σ h10 h => ?_)
      refine hp_cv hR (hp_runV (rest := []) (As := [.ref q9]) hX hR (c_Tellings_refresh h10) cs_X10_74 rfl rfl rfl hd_Tellings_refresh ⟨Nat.le_of_ble_eq_true rfl, Nat.le_of_ble_eq_true rfl⟩ (ci := 8) rfl (hp_own_is h10) rfl hl.1 rfl (Nat.le_of_ble_eq_true rfl) dX10_put_35 ⟨Nat.le_of_ble_eq_true rfl, Nat.le_of_ble_eq_true rfl⟩) (fun H locs hR => ?_)
      refine lv_aload_n hx hb dX10_put_38 rfl (lv_at hl 0 rfl) ?_
      refine lv_iload_n hx hb dX10_put_39 rfl (lv_at hl 1 rfl) ?_
      refine lv_iload_n hx hb dX10_put_40 rfl (lv_at hl 2 rfl) ?_
      refine lv_iload_n hx hb dX10_put_41 rfl (lv_at hl 3 rfl) ?_
      refine lv_iload hx hb dX10_put_42 (lv_at hl 4 rfl) ?_
      refine hp_bn h (fun v12 h11 h => ?_)
      refine hp_ci hR (hp_runS (rest := [.int x1, .ref a0]) (As := [.int x2, .int x3, .int x4]) hX hR (c_Box_ofNotice h11) cs_X10_191 rfl rfl hd_Box_ofNotice ⟨Nat.le_of_ble_eq_true rfl, Nat.le_of_ble_eq_true rfl⟩ rfl hl.1 rfl (Nat.le_of_ble_eq_true rfl) dX10_put_44 ⟨Nat.le_of_ble_eq_true rfl, Nat.le_of_ble_eq_true rfl⟩) (fun H locs hR => ?_)
      refine hp_b2 h (fun v14 σ h13 h => ?_)
      refine hp_ci hR (hp_runV (rest := []) (As := [.int x1, .int v12]) hX hR (c_NB_deliver h13) cs_X10_237 rfl rfl rfl hd_NB_deliver ⟨Nat.le_of_ble_eq_true rfl, Nat.le_of_ble_eq_true rfl⟩ (ci := 9) rfl (hp_own_is h13) rfl hl.1 rfl (Nat.le_of_ble_eq_true rfl) dX10_put_47 ⟨Nat.le_of_ble_eq_true rfl, Nat.le_of_ble_eq_true rfl⟩) (fun H locs hR => ?_)
      exact hp_iret hX hlocks hr hR h dX10_put_50
    · have h := hp_ip c7 h
      refine lv_ldc (v := (-1000000002)) hx hb hown (hts _ wq2_135) dX10_put_24 ?_
      exact hp_iret hX hlocks hr hR h dX10_put_26
  · have h := hp_ip c4 h
    refine lv_ldc (v := (-1000000001)) hx hb hown (hts _ wq2_141) dX10_put_11 ?_
    exact hp_iret hX hlocks hr hR h dX10_put_13
/-! NB.leave(I)I -/
abbrev rm_NB_leave : Room := { frames := 4, cells := 0, slots := 0, locals := 104 }
theorem hd_NB_leave : hp_d yX10_leave 1 := by decide +kernel
def f_NB_leave (a0 : Nat) (x1 : Int32) (σ : hp_H) : Option (Int32 × hp_H) := hp_own σ a0 9 ((hp_gR σ a0 9 0).bind fun q1 => (f_State_hasClient q1 x1 σ).bind fun v3 => if v3 = 0 then (some ((-1000000001), σ)) else ((hp_gR σ a0 9 0).bind fun q5 => (hp_gR σ q5 7 8).bind fun q6 => (hp_aR σ q6 3 x1).bind fun q7 => (hp_gI σ q7 2 1).bind fun v8 => if v8 = 0 then (some ((-1000000003), σ)) else ((hp_gR σ a0 9 3).bind fun q10 => (hp_gR σ a0 9 0).bind fun q11 => (f_Past_remember q10 q11 σ).bind fun σ => (hp_pZ σ q7 2 1 0).bind fun σ => (hp_gI σ q7 2 0).bind fun v13 => some (v13, σ))))
set_option maxHeartbeats 4000000 in
set_option maxRecDepth 100000 in
theorem c_NB_leave {l : Launch} {G : hp_G} {b : Nat} {σ : hp_H} {a0 : Nat} {x1 : Int32} {r : Int32} {σ' : hp_H} (h : f_NB_leave a0 x1 σ = some (r, σ')) : hp_Met l yX10_leave cX10_leave 3 (some .int) rm_NB_leave G b [.ref a0, .int x1] σ (some (.int r)) σ' 0 0 := by
  refine hp_met (by decide +kernel) (Nat.le_of_ble_eq_true rfl) (fun p e s m below meth c ls hX hlocks hr hnm hl hR => ?_)
  obtain ⟨hx, hb, hml, hown, hts⟩ := id hX.1
  have hl : lv_has ls 3 [(0, .ref a0), (1, .int x1)] := hl
  unfold f_NB_leave at h
  have h := hp_own_to h
  refine lv_aload_n hx hb dX10_leave_0 rfl (lv_at hl 0 rfl) ?_
  refine hp_getR hX hR (ci := 9) 0 rfl wf10 (by decide) wq2_11 dX10_leave_1 h (fun q1 h => ?_)
  refine lv_iload_n hx hb dX10_leave_4 rfl (lv_at hl 1 rfl) ?_
  refine hp_bn h (fun v3 h2 h => ?_)
  refine hp_ci hR (hp_runV (rest := []) (As := [.int x1]) hX hR (c_State_hasClient h2) cs_X10_118 rfl rfl rfl hd_State_hasClient ⟨Nat.le_of_ble_eq_true rfl, Nat.le_of_ble_eq_true rfl⟩ (ci := 7) rfl (hp_own_is h2) rfl hl.1 rfl (Nat.le_of_ble_eq_true rfl) dX10_leave_5 ⟨Nat.le_of_ble_eq_true rfl, Nat.le_of_ble_eq_true rfl⟩) (fun H locs hR => ?_)
  refine lv_if_ne (tgt := 14) hx hb dX10_leave_8 (by decide) (fun c4 => ?_) (fun c4 => ?_)
  · have h := hp_in c4 h
    refine lv_aload_n hx hb dX10_leave_14 rfl (lv_at hl 0 rfl) ?_
    refine hp_getR hX hR (ci := 9) 0 rfl wf10 (by decide) wq2_11 dX10_leave_15 h (fun q5 h => ?_)
    refine hp_getR hX hR (ci := 7) 8 rfl wf8 (by decide) wq1_90 dX10_leave_18 h (fun q6 h => ?_)
    refine lv_iload_n hx hb dX10_leave_21 rfl (lv_at hl 1 rfl) ?_
    refine hp_aald hX hR 3 rfl dX10_leave_22 h (fun q7 h => ?_)
    refine lv_astore_n (lv' := [(2, .ref q7), (0, .ref a0), (1, .int x1)]) hx hb dX10_leave_23 rfl hl (by decide) rfl (fun ls hl => ?_)
    refine lv_aload_n hx hb dX10_leave_24 rfl (lv_at hl 0 rfl) ?_
    refine hp_getI hX hR (ci := 2) 1 rfl wf3 (by decide) wq1_41 dX10_leave_25 h (fun v8 h => ?_)
    refine lv_if_ne (tgt := 34) hx hb dX10_leave_28 (by decide) (fun c9 => ?_) (fun c9 => ?_)
    · have h := hp_in c9 h
      refine lv_aload_n hx hb dX10_leave_34 rfl (lv_at hl 1 rfl) ?_
      refine hp_getR hX hR (ci := 9) 3 rfl wf10 (by decide) wq2_14 dX10_leave_35 h (fun q10 h => ?_)
      refine lv_aload_n hx hb dX10_leave_38 rfl (lv_at hl 1 rfl) ?_
      refine hp_getR hX hR (ci := 9) 0 rfl wf10 (by decide) wq2_11 dX10_leave_39 h (fun q11 h => ?_)
      refine hp_bn h (fun σ h12 h => ?_)
      refine hp_cv hR (hp_runV (rest := []) (As := [.ref q11]) hX hR (c_Past_remember h12) cs_X10_212 rfl rfl rfl hd_Past_remember ⟨Nat.le_of_ble_eq_true rfl, Nat.le_of_ble_eq_true rfl⟩ (ci := 6) rfl (hp_own_is h12) rfl hl.1 rfl (Nat.le_of_ble_eq_true rfl) dX10_leave_42 ⟨Nat.le_of_ble_eq_true rfl, Nat.le_of_ble_eq_true rfl⟩) (fun H locs hR => ?_)
      refine lv_aload_n hx hb dX10_leave_45 rfl (lv_at hl 0 rfl) ?_
      refine lv_iconst (v := 0) hx hb dX10_leave_46 (by decide) ?_
      refine hp_putZ hX hR (ci := 2) 1 rfl wf3 tyX3_ok nmX3 (by decide) wq1_41 rfl dX10_leave_47 rfl h (fun σ H locs h hR => ?_)
      refine lv_aload_n hx hb dX10_leave_50 rfl (lv_at hl 0 rfl) ?_
      refine hp_getI hX hR (ci := 2) 0 rfl wf3 (by decide) wq1_38 dX10_leave_51 h (fun v13 h => ?_)
      exact hp_iret hX hlocks hr hR h dX10_leave_54
    · have h := hp_ip c9 h
      refine lv_ldc (v := (-1000000003)) hx hb hown (hts _ wq3_87) dX10_leave_31 ?_
      exact hp_iret hX hlocks hr hR h dX10_leave_33
  · have h := hp_ip c4 h
    refine lv_ldc (v := (-1000000001)) hx hb hown (hts _ wq2_141) dX10_leave_11 ?_
    exact hp_iret hX hlocks hr hR h dX10_leave_13
theorem cs_X10_241 : hp_WV RX10 241 RX3 yX3_arrive cX3_arrive 4 (some .int) := ⟨wq3_92, wq3_93, wq3_94, wq1_3, wq3_95⟩
/-! NB.come(II)I -/
abbrev rm_NB_come : Room := { frames := 4, cells := 0, slots := 0, locals := 104 }
theorem hd_NB_come : hp_d yX10_come 2 := by decide +kernel
def f_NB_come (a0 : Nat) (x1 : Int32) (x2 : Int32) (σ : hp_H) : Option (Int32 × hp_H) := hp_own σ a0 9 ((hp_gR σ a0 9 0).bind fun q1 => (f_State_hasClient q1 x1 σ).bind fun v3 => if v3 = 0 then (some ((-1000000001), σ)) else ((hp_gR σ a0 9 0).bind fun q5 => (f_State_hasBroker q5 x2 σ).bind fun v7 => if v7 = 0 then (some ((-1000000001), σ)) else ((hp_gR σ a0 9 0).bind fun q9 => (hp_gR σ q9 7 8).bind fun q10 => (hp_aR σ q10 3 x1).bind fun q11 => (hp_gI σ q11 2 1).bind fun v12 => if v12 = 0 then ((hp_gR σ a0 9 3).bind fun q14 => (hp_gR σ a0 9 0).bind fun q15 => (f_Past_remember q14 q15 σ).bind fun σ => (hp_gR σ a0 9 1).bind fun q17 => (f_Tellings_outdate q17 σ).bind fun σ => hp_b (f_Client_arrive q11 x2 σ) fun v20 σ => some (v20, σ)) else (some ((-1000000003), σ)))))
set_option maxHeartbeats 4000000 in
set_option maxRecDepth 100000 in
theorem c_NB_come {l : Launch} {G : hp_G} {b : Nat} {σ : hp_H} {a0 : Nat} {x1 : Int32} {x2 : Int32} {r : Int32} {σ' : hp_H} (h : f_NB_come a0 x1 x2 σ = some (r, σ')) : hp_Met l yX10_come cX10_come 4 (some .int) rm_NB_come G b [.ref a0, .int x1, .int x2] σ (some (.int r)) σ' 0 0 := by
  refine hp_met (by decide +kernel) (Nat.le_of_ble_eq_true rfl) (fun p e s m below meth c ls hX hlocks hr hnm hl hR => ?_)
  obtain ⟨hx, hb, hml, hown, hts⟩ := id hX.1
  have hl : lv_has ls 4 [(0, .ref a0), (1, .int x1), (2, .int x2)] := hl
  unfold f_NB_come at h
  have h := hp_own_to h
  refine lv_aload_n hx hb dX10_come_0 rfl (lv_at hl 0 rfl) ?_
  refine hp_getR hX hR (ci := 9) 0 rfl wf10 (by decide) wq2_11 dX10_come_1 h (fun q1 h => ?_)
  refine lv_iload_n hx hb dX10_come_4 rfl (lv_at hl 1 rfl) ?_
  refine hp_bn h (fun v3 h2 h => ?_)
  refine hp_ci hR (hp_runV (rest := []) (As := [.int x1]) hX hR (c_State_hasClient h2) cs_X10_118 rfl rfl rfl hd_State_hasClient ⟨Nat.le_of_ble_eq_true rfl, Nat.le_of_ble_eq_true rfl⟩ (ci := 7) rfl (hp_own_is h2) rfl hl.1 rfl (Nat.le_of_ble_eq_true rfl) dX10_come_5 ⟨Nat.le_of_ble_eq_true rfl, Nat.le_of_ble_eq_true rfl⟩) (fun H locs hR => ?_)
  refine lv_if_eq (tgt := 22) hx hb dX10_come_8 (by decide) (fun c4 => ?_) (fun c4 => ?_)
  · have h := hp_ip c4 h
    refine lv_ldc (v := (-1000000001)) hx hb hown (hts _ wq2_141) dX10_come_22 ?_
    exact hp_iret hX hlocks hr hR h dX10_come_24
  · have h := hp_in c4 h
    refine lv_aload_n hx hb dX10_come_11 rfl (lv_at hl 0 rfl) ?_
    refine hp_getR hX hR (ci := 9) 0 rfl wf10 (by decide) wq2_11 dX10_come_12 h (fun q5 h => ?_)
    refine lv_iload_n hx hb dX10_come_15 rfl (lv_at hl 2 rfl) ?_
    refine hp_bn h (fun v7 h6 h => ?_)
    refine hp_ci hR (hp_runV (rest := []) (As := [.int x2]) hX hR (c_State_hasBroker h6) cs_X10_99 rfl rfl rfl hd_State_hasBroker ⟨Nat.le_of_ble_eq_true rfl, Nat.le_of_ble_eq_true rfl⟩ (ci := 7) rfl (hp_own_is h6) rfl hl.1 rfl (Nat.le_of_ble_eq_true rfl) dX10_come_16 ⟨Nat.le_of_ble_eq_true rfl, Nat.le_of_ble_eq_true rfl⟩) (fun H locs hR => ?_)
    refine lv_if_ne (tgt := 25) hx hb dX10_come_19 (by decide) (fun c8 => ?_) (fun c8 => ?_)
    · have h := hp_in c8 h
      refine lv_aload_n hx hb dX10_come_25 rfl (lv_at hl 0 rfl) ?_
      refine hp_getR hX hR (ci := 9) 0 rfl wf10 (by decide) wq2_11 dX10_come_26 h (fun q9 h => ?_)
      refine hp_getR hX hR (ci := 7) 8 rfl wf8 (by decide) wq1_90 dX10_come_29 h (fun q10 h => ?_)
      refine lv_iload_n hx hb dX10_come_32 rfl (lv_at hl 1 rfl) ?_
      refine hp_aald hX hR 3 rfl dX10_come_33 h (fun q11 h => ?_)
      refine lv_astore_n (lv' := [(3, .ref q11), (0, .ref a0), (1, .int x1), (2, .int x2)]) hx hb dX10_come_34 rfl hl (by decide) rfl (fun ls hl => ?_)
      refine lv_aload_n hx hb dX10_come_35 rfl (lv_at hl 0 rfl) ?_
      refine hp_getI hX hR (ci := 2) 1 rfl wf3 (by decide) wq1_41 dX10_come_36 h (fun v12 h => ?_)
      refine lv_if_eq (tgt := 45) hx hb dX10_come_39 (by decide) (fun c13 => ?_) (fun c13 => ?_)
      · have h := hp_ip c13 h
        refine lv_aload_n hx hb dX10_come_45 rfl (lv_at hl 1 rfl) ?_
        refine hp_getR hX hR (ci := 9) 3 rfl wf10 (by decide) wq2_14 dX10_come_46 h (fun q14 h => ?_)
        refine lv_aload_n hx hb dX10_come_49 rfl (lv_at hl 1 rfl) ?_
        refine hp_getR hX hR (ci := 9) 0 rfl wf10 (by decide) wq2_11 dX10_come_50 h (fun q15 h => ?_)
        refine hp_bn h (fun σ h16 h => ?_)
        refine hp_cv hR (hp_runV (rest := []) (As := [.ref q15]) hX hR (c_Past_remember h16) cs_X10_212 rfl rfl rfl hd_Past_remember ⟨Nat.le_of_ble_eq_true rfl, Nat.le_of_ble_eq_true rfl⟩ (ci := 6) rfl (hp_own_is h16) rfl hl.1 rfl (Nat.le_of_ble_eq_true rfl) dX10_come_53 ⟨Nat.le_of_ble_eq_true rfl, Nat.le_of_ble_eq_true rfl⟩) (fun H locs hR => ?_)
        refine lv_aload_n hx hb dX10_come_56 rfl (lv_at hl 1 rfl) ?_
        refine hp_getR hX hR (ci := 9) 1 rfl wf10 (by decide) wq2_12 dX10_come_57 h (fun q17 h => ?_)
        refine hp_bn h (fun σ h18 h => ?_)
        refine hp_cv hR (hp_runV (rest := []) (As := []) hX hR (c_Tellings_outdate h18) cs_X10_215 rfl rfl rfl hd_Tellings_outdate ⟨Nat.le_of_ble_eq_true rfl, Nat.le_of_ble_eq_true rfl⟩ (ci := 8) rfl (hp_own_is h18) rfl hl.1 rfl (Nat.le_of_ble_eq_true rfl) dX10_come_60 ⟨Nat.le_of_ble_eq_true rfl, Nat.le_of_ble_eq_true rfl⟩) (fun H locs hR => ?_)
        refine lv_aload_n hx hb dX10_come_63 rfl (lv_at hl 0 rfl) ?_
        refine lv_iload_n hx hb dX10_come_64 rfl (lv_at hl 3 rfl) ?_
        refine hp_b2 h (fun v20 σ h19 h => ?_)
        refine hp_ci hR (hp_runV (rest := []) (As := [.int x2]) hX hR (c_Client_arrive h19) cs_X10_241 rfl rfl rfl hd_Client_arrive ⟨Nat.le_of_ble_eq_true rfl, Nat.le_of_ble_eq_true rfl⟩ (ci := 2) rfl (hp_own_is h19) rfl hl.1 rfl (Nat.le_of_ble_eq_true rfl) dX10_come_65 ⟨Nat.le_of_ble_eq_true rfl, Nat.le_of_ble_eq_true rfl⟩) (fun H locs hR => ?_)
        exact hp_iret hX hlocks hr hR h dX10_come_68
      · have h := hp_in c13 h
        refine lv_ldc (v := (-1000000003)) hx hb hown (hts _ wq3_87) dX10_come_42 ?_
        exact hp_iret hX hlocks hr hR h dX10_come_44
    · have h := hp_ip c8 h
      refine lv_ldc (v := (-1000000001)) hx hb hown (hts _ wq2_141) dX10_come_22 ?_
      exact hp_iret hX hlocks hr hR h dX10_come_24
theorem cs_X10_244 : hp_WV RX10 244 RX8 yX8_removeLatestClient cX8_removeLatestClient 2 none := ⟨wq3_100, wq3_101, wq3_102, wq1_2, wq3_103⟩
/-! NB.part()I -/
abbrev rm_NB_part : Room := { frames := 4, cells := 0, slots := 0, locals := 104 }
theorem hd_NB_part : hp_d yX10_part 0 := by decide +kernel
def f_NB_part (a0 : Nat) (σ : hp_H) : Option (Int32 × hp_H) := hp_own σ a0 9 ((hp_gR σ a0 9 0).bind fun q1 => (hp_gI σ q1 7 1).bind fun v2 => if (0 : Int32) < v2 then ((hp_gR σ a0 9 3).bind fun q4 => (hp_gR σ a0 9 0).bind fun q5 => (f_Past_remember q4 q5 σ).bind fun σ => (hp_gR σ a0 9 1).bind fun q7 => (f_Tellings_outdate q7 σ).bind fun σ => (hp_gR σ a0 9 0).bind fun q9 => (f_State_removeLatestClient q9 σ).bind fun σ => (hp_gR σ a0 9 0).bind fun q11 => (hp_gI σ q11 7 1).bind fun v12 => some (v12, σ)) else (some ((-1000000003), σ)))
set_option maxHeartbeats 4000000 in
set_option maxRecDepth 100000 in
theorem c_NB_part {l : Launch} {G : hp_G} {b : Nat} {σ : hp_H} {a0 : Nat} {r : Int32} {σ' : hp_H} (h : f_NB_part a0 σ = some (r, σ')) : hp_Met l yX10_part cX10_part 1 (some .int) rm_NB_part G b [.ref a0] σ (some (.int r)) σ' 0 0 := by
  refine hp_met (by decide +kernel) (Nat.le_of_ble_eq_true rfl) (fun p e s m below meth c ls hX hlocks hr hnm hl hR => ?_)
  obtain ⟨hx, hb, hml, hown, hts⟩ := id hX.1
  have hl : lv_has ls 1 [(0, .ref a0)] := hl
  unfold f_NB_part at h
  have h := hp_own_to h
  refine lv_aload_n hx hb dX10_part_0 rfl (lv_at hl 0 rfl) ?_
  refine hp_getR hX hR (ci := 9) 0 rfl wf10 (by decide) wq2_11 dX10_part_1 h (fun q1 h => ?_)
  refine hp_getI hX hR (ci := 7) 1 rfl wf8 (by decide) wq1_72 dX10_part_4 h (fun v2 h => ?_)
  refine lv_if_gt (tgt := 13) hx hb dX10_part_7 (by decide) (fun c3 => ?_) (fun c3 => ?_)
  · have h := hp_ip c3 h
    refine lv_aload_n hx hb dX10_part_13 rfl (lv_at hl 0 rfl) ?_
    refine hp_getR hX hR (ci := 9) 3 rfl wf10 (by decide) wq2_14 dX10_part_14 h (fun q4 h => ?_)
    refine lv_aload_n hx hb dX10_part_17 rfl (lv_at hl 0 rfl) ?_
    refine hp_getR hX hR (ci := 9) 0 rfl wf10 (by decide) wq2_11 dX10_part_18 h (fun q5 h => ?_)
    refine hp_bn h (fun σ h6 h => ?_)
    refine hp_cv hR (hp_runV (rest := []) (As := [.ref q5]) hX hR (c_Past_remember h6) cs_X10_212 rfl rfl rfl hd_Past_remember ⟨Nat.le_of_ble_eq_true rfl, Nat.le_of_ble_eq_true rfl⟩ (ci := 6) rfl (hp_own_is h6) rfl hl.1 rfl (Nat.le_of_ble_eq_true rfl) dX10_part_21 ⟨Nat.le_of_ble_eq_true rfl, Nat.le_of_ble_eq_true rfl⟩) (fun H locs hR => ?_)
    refine lv_aload_n hx hb dX10_part_24 rfl (lv_at hl 0 rfl) ?_
    refine hp_getR hX hR (ci := 9) 1 rfl wf10 (by decide) wq2_12 dX10_part_25 h (fun q7 h => ?_)
    refine hp_bn h (fun σ h8 h => ?_)
    refine hp_cv hR (hp_runV (rest := []) (As := []) hX hR (c_Tellings_outdate h8) cs_X10_215 rfl rfl rfl hd_Tellings_outdate ⟨Nat.le_of_ble_eq_true rfl, Nat.le_of_ble_eq_true rfl⟩ (ci := 8) rfl (hp_own_is h8) rfl hl.1 rfl (Nat.le_of_ble_eq_true rfl) dX10_part_28 ⟨Nat.le_of_ble_eq_true rfl, Nat.le_of_ble_eq_true rfl⟩) (fun H locs hR => ?_)
    refine lv_aload_n hx hb dX10_part_31 rfl (lv_at hl 0 rfl) ?_
    refine hp_getR hX hR (ci := 9) 0 rfl wf10 (by decide) wq2_11 dX10_part_32 h (fun q9 h => ?_)
    refine hp_bn h (fun σ h10 h => ?_)
    refine hp_cv hR (hp_runV (rest := []) (As := []) hX hR (c_State_removeLatestClient h10) cs_X10_244 rfl rfl rfl hd_State_removeLatestClient ⟨Nat.le_of_ble_eq_true rfl, Nat.le_of_ble_eq_true rfl⟩ (ci := 7) rfl (hp_own_is h10) rfl hl.1 rfl (Nat.le_of_ble_eq_true rfl) dX10_part_35 ⟨Nat.le_of_ble_eq_true rfl, Nat.le_of_ble_eq_true rfl⟩) (fun H locs hR => ?_)
    refine lv_aload_n hx hb dX10_part_38 rfl (lv_at hl 0 rfl) ?_
    refine hp_getR hX hR (ci := 9) 0 rfl wf10 (by decide) wq2_11 dX10_part_39 h (fun q11 h => ?_)
    refine hp_getI hX hR (ci := 7) 1 rfl wf8 (by decide) wq1_72 dX10_part_42 h (fun v12 h => ?_)
    exact hp_iret hX hlocks hr hR h dX10_part_45
  · have h := hp_in c3 h
    refine lv_ldc (v := (-1000000003)) hx hb hown (hts _ wq3_87) dX10_part_10 ?_
    exact hp_iret hX hlocks hr hR h dX10_part_12
theorem cs_X10_247 : hp_WV RX10 247 RX4 yX4_draw cX4_draw 2 (some .int) := ⟨wq3_109, wq3_110, wq3_111, wq1_9, wq3_112⟩
/-! NB.drift(I)I -/
abbrev rm_NB_drift : Room := { frames := 6, cells := 0, slots := 0, locals := 143 }
theorem hd_NB_drift : hp_d yX10_drift 1 := by decide +kernel
def f_NB_drift_l1 (a0 : Nat) (x1 : Int32) (K : Int32 → hp_H → Option (Int32 × hp_H)) : Nat → Int32 → hp_H → Option (Int32 × hp_H)
  | 0, _, _ => none
  | n + 1, x2, σ => if x1 ≤ x2 then (K x2 σ) else ((hp_gR σ a0 9 5).bind fun q8 => (hp_gR σ a0 9 0).bind fun q9 => (hp_gI σ q9 7 0).bind fun v10 => hp_b (f_Draws_draw q8 v10 σ) fun v12 σ => (hp_gR σ a0 9 5).bind fun q13 => hp_b (f_Draws_draw q13 10 σ) fun v15 σ => (hp_gR σ a0 9 5).bind fun q16 => hp_b (f_Draws_draw q16 10 σ) fun v18 σ => (hp_gR σ a0 9 5).bind fun q19 => hp_b (f_Draws_draw q19 10 σ) fun v21 σ => (f_Box_ofNotice v15 v18 v21).bind fun v23 => hp_b (f_NB_deliver a0 v12 v23 σ) fun v25 σ => f_NB_drift_l1 a0 x1 K n (x2 + 1) σ)
def f_NB_drift (a0 : Nat) (x1 : Int32) (σ : hp_H) : Option (Int32 × hp_H) := hp_own σ a0 9 ((f_NB_within x1 1 8).bind fun v2 => if v2 = 0 then (some ((-1000000002), σ)) else ((hp_gR σ a0 9 1).bind fun q4 => (hp_gR σ a0 9 0).bind fun q5 => (f_Tellings_refresh q4 q5 σ).bind fun σ => f_NB_drift_l1 a0 x1 (fun z26 σ => (hp_gR σ a0 9 0).bind fun q27 => (hp_gI σ q27 7 4).bind fun v28 => some (v28, σ)) hp_F 0 σ))
set_option maxHeartbeats 4000000 in
set_option maxRecDepth 100000 in
theorem w_NB_drift_l1 {p : Program} {l : Launch} {e : Env} {s : State} {m : MethodId} {args : Array Value} {below : List Frame} {meth : Method} {c : Code} {G : hp_G} {b : Nat} {a0 : Nat} {x1 : Int32} {r : Int32} {σ' : hp_H} {K : Int32 → hp_H → Option (Int32 × hp_H)} (hX : hp_X G p s m c args cX10_drift 7 RX10) (hlocks : meth.locks = false) (hr : meth.sig.returnType = (some .int))
    (hK : ∀ (x2 : Int32) (σ : hp_H) (H : Heap) (locs : List Loc) (ls : Array Slot), hp_R G b s.heap σ H locs → lv_has ls 7 [(0, .ref a0)] → K x2 σ = some (r, σ') → W p l e rm_NB_drift s m args below meth c H locs 0 0 (MQ below (hp_Qc G b (some (.int r)) σ') args s 0 0 (fun q => b ≤ q)) (F0 m 100 ls [])) :
    ∀ (n : Nat) (x2 : Int32) (σ : hp_H) (H : Heap) (locs : List Loc) (ls : Array Slot), hp_R G b s.heap σ H locs → f_NB_drift_l1 a0 x1 K n x2 σ = some (r, σ') → lv_has ls 7 [(0, .ref a0), (1, .int x1), (2, .int x2)] → W p l e rm_NB_drift s m args below meth c H locs 0 0 (MQ below (hp_Qc G b (some (.int r)) σ') args s 0 0 (fun q => b ≤ q)) (F0 m 26 ls []) := by
  obtain ⟨hx, hb, hml, hown, hts⟩ := id hX.1
  intro n
  induction n with
  | zero =>
    intro x2 σ H locs ls hR h hl
    rw [f_NB_drift_l1] at h
    cases h
  | succ n ih =>
    intro x2 σ H locs ls hR h hl
    rw [f_NB_drift_l1] at h
    refine lv_iload_n hx hb dX10_drift_26 rfl (lv_at hl 2 rfl) ?_
    refine lv_iload_n hx hb dX10_drift_27 rfl (lv_at hl 1 rfl) ?_
    refine lv_icmp_ge (tgt := 100) hx hb dX10_drift_28 (by decide) (fun c7 => ?_) (fun c7 => ?_)
    · have h := hp_ip c7 h
      exact hK _ _ _ _ _ hR (lv_sub hl [0] rfl) h
    · have h := hp_in c7 h
      refine lv_aload_n hx hb dX10_drift_31 rfl (lv_at hl 0 rfl) ?_
      refine hp_getR hX hR (ci := 9) 5 rfl wf10 (by decide) wq2_16 dX10_drift_32 h (fun q8 h => ?_)
      refine lv_aload_n hx hb dX10_drift_35 rfl (lv_at hl 0 rfl) ?_
      refine hp_getR hX hR (ci := 9) 0 rfl wf10 (by decide) wq2_11 dX10_drift_36 h (fun q9 h => ?_)
      refine hp_getI hX hR (ci := 7) 0 rfl wf8 (by decide) wq1_68 dX10_drift_39 h (fun v10 h => ?_)
      refine hp_b2 h (fun v12 σ h11 h => ?_)
      refine hp_ci hR (hp_runV (rest := []) (As := [.int v10]) hX hR (c_Draws_draw h11) cs_X10_247 rfl rfl rfl hd_Draws_draw ⟨Nat.le_of_ble_eq_true rfl, Nat.le_of_ble_eq_true rfl⟩ (ci := 3) rfl (hp_own_is h11) rfl hl.1 rfl (Nat.le_of_ble_eq_true rfl) dX10_drift_42 ⟨Nat.le_of_ble_eq_true rfl, Nat.le_of_ble_eq_true rfl⟩) (fun H locs hR => ?_)
      refine lv_istore_n (lv' := [(3, .int v12), (0, .ref a0), (1, .int x1), (2, .int x2)]) hx hb dX10_drift_45 rfl hl (by decide) rfl (fun ls hl => ?_)
      refine lv_aload_n hx hb dX10_drift_46 rfl (lv_at hl 1 rfl) ?_
      refine hp_getR hX hR (ci := 9) 5 rfl wf10 (by decide) wq2_16 dX10_drift_47 h (fun q13 h => ?_)
      refine lv_bipush (v := 10) hx hb dX10_drift_50 (by decide) ?_
      refine hp_b2 h (fun v15 σ h14 h => ?_)
      refine hp_ci hR (hp_runV (rest := []) (As := [.int 10]) hX hR (c_Draws_draw h14) cs_X10_247 rfl rfl rfl hd_Draws_draw ⟨Nat.le_of_ble_eq_true rfl, Nat.le_of_ble_eq_true rfl⟩ (ci := 3) rfl (hp_own_is h14) rfl hl.1 rfl (Nat.le_of_ble_eq_true rfl) dX10_drift_52 ⟨Nat.le_of_ble_eq_true rfl, Nat.le_of_ble_eq_true rfl⟩) (fun H locs hR => ?_)
      refine lv_istore (lv' := [(4, .int v15), (3, .int v12), (0, .ref a0), (1, .int x1), (2, .int x2)]) hx hb dX10_drift_55 hl (by decide) rfl (fun ls hl => ?_)
      refine lv_aload_n hx hb dX10_drift_57 rfl (lv_at hl 2 rfl) ?_
      refine hp_getR hX hR (ci := 9) 5 rfl wf10 (by decide) wq2_16 dX10_drift_58 h (fun q16 h => ?_)
      refine lv_bipush (v := 10) hx hb dX10_drift_61 (by decide) ?_
      refine hp_b2 h (fun v18 σ h17 h => ?_)
      refine hp_ci hR (hp_runV (rest := []) (As := [.int 10]) hX hR (c_Draws_draw h17) cs_X10_247 rfl rfl rfl hd_Draws_draw ⟨Nat.le_of_ble_eq_true rfl, Nat.le_of_ble_eq_true rfl⟩ (ci := 3) rfl (hp_own_is h17) rfl hl.1 rfl (Nat.le_of_ble_eq_true rfl) dX10_drift_63 ⟨Nat.le_of_ble_eq_true rfl, Nat.le_of_ble_eq_true rfl⟩) (fun H locs hR => ?_)
      refine lv_istore (lv' := [(5, .int v18), (4, .int v15), (3, .int v12), (0, .ref a0), (1, .int x1), (2, .int x2)]) hx hb dX10_drift_66 hl (by decide) rfl (fun ls hl => ?_)
      refine lv_aload_n hx hb dX10_drift_68 rfl (lv_at hl 3 rfl) ?_
      refine hp_getR hX hR (ci := 9) 5 rfl wf10 (by decide) wq2_16 dX10_drift_69 h (fun q19 h => ?_)
      refine lv_bipush (v := 10) hx hb dX10_drift_72 (by decide) ?_
      refine hp_b2 h (fun v21 σ h20 h => ?_)
      refine hp_ci hR (hp_runV (rest := []) (As := [.int 10]) hX hR (c_Draws_draw h20) cs_X10_247 rfl rfl rfl hd_Draws_draw ⟨Nat.le_of_ble_eq_true rfl, Nat.le_of_ble_eq_true rfl⟩ (ci := 3) rfl (hp_own_is h20) rfl hl.1 rfl (Nat.le_of_ble_eq_true rfl) dX10_drift_74 ⟨Nat.le_of_ble_eq_true rfl, Nat.le_of_ble_eq_true rfl⟩) (fun H locs hR => ?_)
      refine lv_istore (lv' := [(6, .int v21), (5, .int v18), (4, .int v15), (3, .int v12), (0, .ref a0), (1, .int x1), (2, .int x2)]) hx hb dX10_drift_77 hl (by decide) rfl (fun ls hl => ?_)
      refine lv_aload_n hx hb dX10_drift_79 rfl (lv_at hl 4 rfl) ?_
      refine lv_iload_n hx hb dX10_drift_80 rfl (lv_at hl 3 rfl) ?_
      refine lv_iload hx hb dX10_drift_81 (lv_at hl 2 rfl) ?_
      refine lv_iload hx hb dX10_drift_83 (lv_at hl 1 rfl) ?_
      refine lv_iload hx hb dX10_drift_85 (lv_at hl 0 rfl) ?_
      refine hp_bn h (fun v23 h22 h => ?_)
      refine hp_ci hR (hp_runS (rest := [.int v12, .ref a0]) (As := [.int v15, .int v18, .int v21]) hX hR (c_Box_ofNotice h22) cs_X10_191 rfl rfl hd_Box_ofNotice ⟨Nat.le_of_ble_eq_true rfl, Nat.le_of_ble_eq_true rfl⟩ rfl hl.1 rfl (Nat.le_of_ble_eq_true rfl) dX10_drift_87 ⟨Nat.le_of_ble_eq_true rfl, Nat.le_of_ble_eq_true rfl⟩) (fun H locs hR => ?_)
      refine hp_b2 h (fun v25 σ h24 h => ?_)
      refine hp_ci hR (hp_runV (rest := []) (As := [.int v12, .int v23]) hX hR (c_NB_deliver h24) cs_X10_237 rfl rfl rfl hd_NB_deliver ⟨Nat.le_of_ble_eq_true rfl, Nat.le_of_ble_eq_true rfl⟩ (ci := 9) rfl (hp_own_is h24) rfl hl.1 rfl (Nat.le_of_ble_eq_true rfl) dX10_drift_90 ⟨Nat.le_of_ble_eq_true rfl, Nat.le_of_ble_eq_true rfl⟩) (fun H locs hR => ?_)
      refine lv_pop hx hb dX10_drift_93 rfl ?_
      refine lv_iinc (v := (x2 + 1)) (lv' := [(2, .int (x2 + 1)), (6, .int v21), (5, .int v18), (4, .int v15), (3, .int v12), (0, .ref a0), (1, .int x1)]) hx hb dX10_drift_94 hl (k := 6) rfl rfl (by decide) rfl (fun ls hl => ?_)
      refine lv_goto (tgt := 26) hx hb dX10_drift_97 (by decide) ?_
      exact ih _ _ _ _ _ hR h (lv_sub hl [5, 6, 0] rfl)
set_option maxHeartbeats 4000000 in
set_option maxRecDepth 100000 in
theorem c_NB_drift {l : Launch} {G : hp_G} {b : Nat} {σ : hp_H} {a0 : Nat} {x1 : Int32} {r : Int32} {σ' : hp_H} (h : f_NB_drift a0 x1 σ = some (r, σ')) : hp_Met l yX10_drift cX10_drift 7 (some .int) rm_NB_drift G b [.ref a0, .int x1] σ (some (.int r)) σ' 0 0 := by
  refine hp_met (by decide +kernel) (Nat.le_of_ble_eq_true rfl) (fun p e s m below meth c ls hX hlocks hr hnm hl hR => ?_)
  obtain ⟨hx, hb, hml, hown, hts⟩ := id hX.1
  have hl : lv_has ls 7 [(0, .ref a0), (1, .int x1)] := hl
  unfold f_NB_drift at h
  have h := hp_own_to h
  refine lv_iload_n hx hb dX10_drift_0 rfl (lv_at hl 1 rfl) ?_
  refine lv_iconst (v := 1) hx hb dX10_drift_1 (by decide) ?_
  refine lv_bipush (v := 8) hx hb dX10_drift_2 (by decide) ?_
  refine hp_bn h (fun v2 h1 h => ?_)
  refine hp_ci hR (hp_runS (rest := []) (As := [.int x1, .int 1, .int 8]) hX hR (c_NB_within h1) cs_X10_143 rfl rfl hd_NB_within ⟨Nat.le_of_ble_eq_true rfl, Nat.le_of_ble_eq_true rfl⟩ rfl hl.1 rfl (Nat.le_of_ble_eq_true rfl) dX10_drift_4 ⟨Nat.le_of_ble_eq_true rfl, Nat.le_of_ble_eq_true rfl⟩) (fun H locs hR => ?_)
  refine lv_if_ne (tgt := 13) hx hb dX10_drift_7 (by decide) (fun c3 => ?_) (fun c3 => ?_)
  · have h := hp_in c3 h
    refine lv_aload_n hx hb dX10_drift_13 rfl (lv_at hl 0 rfl) ?_
    refine hp_getR hX hR (ci := 9) 1 rfl wf10 (by decide) wq2_12 dX10_drift_14 h (fun q4 h => ?_)
    refine lv_aload_n hx hb dX10_drift_17 rfl (lv_at hl 0 rfl) ?_
    refine hp_getR hX hR (ci := 9) 0 rfl wf10 (by decide) wq2_11 dX10_drift_18 h (fun q5 h => ?_)
    refine hp_bn h (fun σ h6 h => ?_)
    refine hp_cv hR (hp_runV (rest := []) (As := [.ref q5]) hX hR (c_Tellings_refresh h6) cs_X10_74 rfl rfl rfl hd_Tellings_refresh ⟨Nat.le_of_ble_eq_true rfl, Nat.le_of_ble_eq_true rfl⟩ (ci := 8) rfl (hp_own_is h6) rfl hl.1 rfl (Nat.le_of_ble_eq_true rfl) dX10_drift_21 ⟨Nat.le_of_ble_eq_true rfl, Nat.le_of_ble_eq_true rfl⟩) (fun H locs hR => ?_)
    refine lv_iconst (v := 0) hx hb dX10_drift_24 (by decide) ?_
    refine lv_istore_n (lv' := [(2, .int 0), (0, .ref a0), (1, .int x1)]) hx hb dX10_drift_25 rfl hl (by decide) rfl (fun ls hl => ?_)
    refine w_NB_drift_l1 hX hlocks hr ?_ hp_F _ _ _ _ _ hR h (lv_sub hl [1, 2, 0] rfl)
    intro z26 σ H locs ls hR hl h
    refine lv_aload_n hx hb dX10_drift_100 rfl (lv_at hl 0 rfl) ?_
    refine hp_getR hX hR (ci := 9) 0 rfl wf10 (by decide) wq2_11 dX10_drift_101 h (fun q27 h => ?_)
    refine hp_getI hX hR (ci := 7) 4 rfl wf8 (by decide) wq1_80 dX10_drift_104 h (fun v28 h => ?_)
    exact hp_iret hX hlocks hr hR h dX10_drift_107
  · have h := hp_ip c3 h
    refine lv_ldc (v := (-1000000002)) hx hb hown (hts _ wq2_135) dX10_drift_10 ?_
    exact hp_iret hX hlocks hr hR h dX10_drift_12
theorem cs_X10_250 : hp_WV RX10 250 RX7 yX7_restore cX7_restore 3 none := ⟨wq3_120, wq3_121, wq3_122, wq1_7, wq3_123⟩
/-! NB.undo(I)I -/
abbrev rm_NB_undo : Room := { frames := 4, cells := 0, slots := 0, locals := 105 }
theorem hd_NB_undo : hp_d yX10_undo 1 := by decide +kernel
def f_NB_undo (a0 : Nat) (x1 : Int32) (σ : hp_H) : Option (Int32 × hp_H) := hp_own σ a0 9 ((f_NB_within x1 1 16).bind fun v2 => if v2 = 0 then (some ((-1000000002), σ)) else ((hp_gR σ a0 9 3).bind fun q4 => (hp_gI σ q4 6 2).bind fun v5 => if x1 ≤ v5 then ((hp_gR σ a0 9 3).bind fun q7 => (hp_gR σ a0 9 0).bind fun q8 => (f_Past_restore q7 q8 x1 σ).bind fun σ => (hp_gR σ a0 9 1).bind fun q10 => (f_Tellings_outdate q10 σ).bind fun σ => (hp_gR σ a0 9 3).bind fun q12 => (hp_gI σ q12 6 2).bind fun v13 => some (v13, σ)) else (some ((-1000000003), σ))))
set_option maxHeartbeats 4000000 in
set_option maxRecDepth 100000 in
theorem c_NB_undo {l : Launch} {G : hp_G} {b : Nat} {σ : hp_H} {a0 : Nat} {x1 : Int32} {r : Int32} {σ' : hp_H} (h : f_NB_undo a0 x1 σ = some (r, σ')) : hp_Met l yX10_undo cX10_undo 2 (some .int) rm_NB_undo G b [.ref a0, .int x1] σ (some (.int r)) σ' 0 0 := by
  refine hp_met (by decide +kernel) (Nat.le_of_ble_eq_true rfl) (fun p e s m below meth c ls hX hlocks hr hnm hl hR => ?_)
  obtain ⟨hx, hb, hml, hown, hts⟩ := id hX.1
  have hl : lv_has ls 2 [(0, .ref a0), (1, .int x1)] := hl
  unfold f_NB_undo at h
  have h := hp_own_to h
  refine lv_iload_n hx hb dX10_undo_0 rfl (lv_at hl 1 rfl) ?_
  refine lv_iconst (v := 1) hx hb dX10_undo_1 (by decide) ?_
  refine lv_bipush (v := 16) hx hb dX10_undo_2 (by decide) ?_
  refine hp_bn h (fun v2 h1 h => ?_)
  refine hp_ci hR (hp_runS (rest := []) (As := [.int x1, .int 1, .int 16]) hX hR (c_NB_within h1) cs_X10_143 rfl rfl hd_NB_within ⟨Nat.le_of_ble_eq_true rfl, Nat.le_of_ble_eq_true rfl⟩ rfl hl.1 rfl (Nat.le_of_ble_eq_true rfl) dX10_undo_4 ⟨Nat.le_of_ble_eq_true rfl, Nat.le_of_ble_eq_true rfl⟩) (fun H locs hR => ?_)
  refine lv_if_ne (tgt := 13) hx hb dX10_undo_7 (by decide) (fun c3 => ?_) (fun c3 => ?_)
  · have h := hp_in c3 h
    refine lv_iload_n hx hb dX10_undo_13 rfl (lv_at hl 1 rfl) ?_
    refine lv_aload_n hx hb dX10_undo_14 rfl (lv_at hl 0 rfl) ?_
    refine hp_getR hX hR (ci := 9) 3 rfl wf10 (by decide) wq2_14 dX10_undo_15 h (fun q4 h => ?_)
    refine hp_getI hX hR (ci := 6) 2 rfl wf7 (by decide) wq1_194 dX10_undo_18 h (fun v5 h => ?_)
    refine lv_icmp_le (tgt := 27) hx hb dX10_undo_21 (by decide) (fun c6 => ?_) (fun c6 => ?_)
    · have h := hp_ip c6 h
      refine lv_aload_n hx hb dX10_undo_27 rfl (lv_at hl 0 rfl) ?_
      refine hp_getR hX hR (ci := 9) 3 rfl wf10 (by decide) wq2_14 dX10_undo_28 h (fun q7 h => ?_)
      refine lv_aload_n hx hb dX10_undo_31 rfl (lv_at hl 0 rfl) ?_
      refine hp_getR hX hR (ci := 9) 0 rfl wf10 (by decide) wq2_11 dX10_undo_32 h (fun q8 h => ?_)
      refine lv_iload_n hx hb dX10_undo_35 rfl (lv_at hl 1 rfl) ?_
      refine hp_bn h (fun σ h9 h => ?_)
      refine hp_cv hR (hp_runV (rest := []) (As := [.ref q8, .int x1]) hX hR (c_Past_restore h9) cs_X10_250 rfl rfl rfl hd_Past_restore ⟨Nat.le_of_ble_eq_true rfl, Nat.le_of_ble_eq_true rfl⟩ (ci := 6) rfl (hp_own_is h9) rfl hl.1 rfl (Nat.le_of_ble_eq_true rfl) dX10_undo_36 ⟨Nat.le_of_ble_eq_true rfl, Nat.le_of_ble_eq_true rfl⟩) (fun H locs hR => ?_)
      refine lv_aload_n hx hb dX10_undo_39 rfl (lv_at hl 0 rfl) ?_
      refine hp_getR hX hR (ci := 9) 1 rfl wf10 (by decide) wq2_12 dX10_undo_40 h (fun q10 h => ?_)
      refine hp_bn h (fun σ h11 h => ?_)
      refine hp_cv hR (hp_runV (rest := []) (As := []) hX hR (c_Tellings_outdate h11) cs_X10_215 rfl rfl rfl hd_Tellings_outdate ⟨Nat.le_of_ble_eq_true rfl, Nat.le_of_ble_eq_true rfl⟩ (ci := 8) rfl (hp_own_is h11) rfl hl.1 rfl (Nat.le_of_ble_eq_true rfl) dX10_undo_43 ⟨Nat.le_of_ble_eq_true rfl, Nat.le_of_ble_eq_true rfl⟩) (fun H locs hR => ?_)
      refine lv_aload_n hx hb dX10_undo_46 rfl (lv_at hl 0 rfl) ?_
      refine hp_getR hX hR (ci := 9) 3 rfl wf10 (by decide) wq2_14 dX10_undo_47 h (fun q12 h => ?_)
      refine hp_getI hX hR (ci := 6) 2 rfl wf7 (by decide) wq1_194 dX10_undo_50 h (fun v13 h => ?_)
      exact hp_iret hX hlocks hr hR h dX10_undo_53
    · have h := hp_in c6 h
      refine lv_ldc (v := (-1000000003)) hx hb hown (hts _ wq3_87) dX10_undo_24 ?_
      exact hp_iret hX hlocks hr hR h dX10_undo_26
  · have h := hp_ip c3 h
    refine lv_ldc (v := (-1000000002)) hx hb hown (hts _ wq2_135) dX10_undo_10 ?_
    exact hp_iret hX hlocks hr hR h dX10_undo_12
theorem cs_X10_254 : hp_WV RX10 254 RX0 yX0_add cX0_add 3 none := ⟨wq3_128, wq3_129, wq3_130, wq1_8, wq3_131⟩
/-! NB.write(II)I -/
abbrev rm_NB_write : Room := { frames := 2, cells := 0, slots := 0, locals := 43 }
theorem hd_NB_write : hp_d yX10_write 2 := by decide +kernel
def f_NB_write (a0 : Nat) (x1 : Int32) (x2 : Int32) (σ : hp_H) : Option (Int32 × hp_H) := hp_own σ a0 9 ((hp_gR σ a0 9 0).bind fun q1 => (f_State_hasClient q1 x1 σ).bind fun v3 => if v3 = 0 then (some ((-1000000001), σ)) else ((hp_gR σ a0 9 4).bind fun q5 => (hp_gI σ q5 0 2).bind fun v6 => if v6 < 20 then ((hp_gR σ a0 9 4).bind fun q8 => (f_Book_add q8 x1 x2 σ).bind fun σ => (hp_gR σ a0 9 4).bind fun q10 => (hp_gI σ q10 0 2).bind fun v11 => some (v11, σ)) else (some ((-1000000004), σ))))
set_option maxHeartbeats 4000000 in
set_option maxRecDepth 100000 in
theorem c_NB_write {l : Launch} {G : hp_G} {b : Nat} {σ : hp_H} {a0 : Nat} {x1 : Int32} {x2 : Int32} {r : Int32} {σ' : hp_H} (h : f_NB_write a0 x1 x2 σ = some (r, σ')) : hp_Met l yX10_write cX10_write 3 (some .int) rm_NB_write G b [.ref a0, .int x1, .int x2] σ (some (.int r)) σ' 0 0 := by
  refine hp_met (by decide +kernel) (Nat.le_of_ble_eq_true rfl) (fun p e s m below meth c ls hX hlocks hr hnm hl hR => ?_)
  obtain ⟨hx, hb, hml, hown, hts⟩ := id hX.1
  have hl : lv_has ls 3 [(0, .ref a0), (1, .int x1), (2, .int x2)] := hl
  unfold f_NB_write at h
  have h := hp_own_to h
  refine lv_aload_n hx hb dX10_write_0 rfl (lv_at hl 0 rfl) ?_
  refine hp_getR hX hR (ci := 9) 0 rfl wf10 (by decide) wq2_11 dX10_write_1 h (fun q1 h => ?_)
  refine lv_iload_n hx hb dX10_write_4 rfl (lv_at hl 1 rfl) ?_
  refine hp_bn h (fun v3 h2 h => ?_)
  refine hp_ci hR (hp_runV (rest := []) (As := [.int x1]) hX hR (c_State_hasClient h2) cs_X10_118 rfl rfl rfl hd_State_hasClient ⟨Nat.le_of_ble_eq_true rfl, Nat.le_of_ble_eq_true rfl⟩ (ci := 7) rfl (hp_own_is h2) rfl hl.1 rfl (Nat.le_of_ble_eq_true rfl) dX10_write_5 ⟨Nat.le_of_ble_eq_true rfl, Nat.le_of_ble_eq_true rfl⟩) (fun H locs hR => ?_)
  refine lv_if_ne (tgt := 14) hx hb dX10_write_8 (by decide) (fun c4 => ?_) (fun c4 => ?_)
  · have h := hp_in c4 h
    refine lv_aload_n hx hb dX10_write_14 rfl (lv_at hl 0 rfl) ?_
    refine hp_getR hX hR (ci := 9) 4 rfl wf10 (by decide) wq2_15 dX10_write_15 h (fun q5 h => ?_)
    refine hp_getI hX hR (ci := 0) 2 rfl wf0 (by decide) wq1_211 dX10_write_18 h (fun v6 h => ?_)
    refine lv_bipush (v := 20) hx hb dX10_write_21 (by decide) ?_
    refine lv_icmp_lt (tgt := 29) hx hb dX10_write_23 (by decide) (fun c7 => ?_) (fun c7 => ?_)
    · have h := hp_ip c7 h
      refine lv_aload_n hx hb dX10_write_29 rfl (lv_at hl 0 rfl) ?_
      refine hp_getR hX hR (ci := 9) 4 rfl wf10 (by decide) wq2_15 dX10_write_30 h (fun q8 h => ?_)
      refine lv_iload_n hx hb dX10_write_33 rfl (lv_at hl 1 rfl) ?_
      refine lv_iload_n hx hb dX10_write_34 rfl (lv_at hl 2 rfl) ?_
      refine hp_bn h (fun σ h9 h => ?_)
      refine hp_cv hR (hp_runV (rest := []) (As := [.int x1, .int x2]) hX hR (c_Book_add h9) cs_X10_254 rfl rfl rfl hd_Book_add ⟨Nat.le_of_ble_eq_true rfl, Nat.le_of_ble_eq_true rfl⟩ (ci := 0) rfl (hp_own_is h9) rfl hl.1 rfl (Nat.le_of_ble_eq_true rfl) dX10_write_35 ⟨Nat.le_of_ble_eq_true rfl, Nat.le_of_ble_eq_true rfl⟩) (fun H locs hR => ?_)
      refine lv_aload_n hx hb dX10_write_38 rfl (lv_at hl 0 rfl) ?_
      refine hp_getR hX hR (ci := 9) 4 rfl wf10 (by decide) wq2_15 dX10_write_39 h (fun q10 h => ?_)
      refine hp_getI hX hR (ci := 0) 2 rfl wf0 (by decide) wq1_211 dX10_write_42 h (fun v11 h => ?_)
      exact hp_iret hX hlocks hr hR h dX10_write_45
    · have h := hp_in c7 h
      refine lv_ldc (v := (-1000000004)) hx hb hown (hts _ wq2_225) dX10_write_26 ?_
      exact hp_iret hX hlocks hr hR h dX10_write_28
  · have h := hp_ip c4 h
    refine lv_ldc (v := (-1000000001)) hx hb hown (hts _ wq2_141) dX10_write_11 ?_
    exact hp_iret hX hlocks hr hR h dX10_write_13
/-! NB.tear()I -/
abbrev rm_NB_tear : Room := { frames := 0, cells := 0, slots := 0, locals := 0 }
theorem hd_NB_tear : hp_d yX10_tear 0 := by decide +kernel
def f_NB_tear (a0 : Nat) (σ : hp_H) : Option (Int32 × hp_H) := hp_own σ a0 9 ((hp_gR σ a0 9 4).bind fun q1 => (hp_gI σ q1 0 2).bind fun v2 => (hp_gR σ a0 9 4).bind fun q3 => (hp_pI σ q3 0 2 0).bind fun σ => some (v2, σ))
set_option maxHeartbeats 4000000 in
set_option maxRecDepth 100000 in
theorem c_NB_tear {l : Launch} {G : hp_G} {b : Nat} {σ : hp_H} {a0 : Nat} {r : Int32} {σ' : hp_H} (h : f_NB_tear a0 σ = some (r, σ')) : hp_Met l yX10_tear cX10_tear 2 (some .int) rm_NB_tear G b [.ref a0] σ (some (.int r)) σ' 0 0 := by
  refine hp_met (by decide +kernel) (Nat.le_of_ble_eq_true rfl) (fun p e s m below meth c ls hX hlocks hr hnm hl hR => ?_)
  obtain ⟨hx, hb, hml, hown, hts⟩ := id hX.1
  have hl : lv_has ls 2 [(0, .ref a0)] := hl
  unfold f_NB_tear at h
  have h := hp_own_to h
  refine lv_aload_n hx hb dX10_tear_0 rfl (lv_at hl 0 rfl) ?_
  refine hp_getR hX hR (ci := 9) 4 rfl wf10 (by decide) wq2_15 dX10_tear_1 h (fun q1 h => ?_)
  refine hp_getI hX hR (ci := 0) 2 rfl wf0 (by decide) wq1_211 dX10_tear_4 h (fun v2 h => ?_)
  refine lv_istore_n (lv' := [(1, .int v2), (0, .ref a0)]) hx hb dX10_tear_7 rfl hl (by decide) rfl (fun ls hl => ?_)
  refine lv_aload_n hx hb dX10_tear_8 rfl (lv_at hl 1 rfl) ?_
  refine hp_getR hX hR (ci := 9) 4 rfl wf10 (by decide) wq2_15 dX10_tear_9 h (fun q3 h => ?_)
  refine lv_iconst (v := 0) hx hb dX10_tear_12 (by decide) ?_
  refine hp_putI hX hR (ci := 0) 2 rfl wf0 tyX0_ok nmX0 (by decide) wq1_211 rfl dX10_tear_13 rfl h (fun σ H locs h hR => ?_)
  refine lv_iload_n hx hb dX10_tear_16 rfl (lv_at hl 0 rfl) ?_
  exact hp_iret hX hlocks hr hR h dX10_tear_17
/-! NB.seed(I)I -/
abbrev rm_NB_seed : Room := { frames := 0, cells := 0, slots := 0, locals := 0 }
theorem hd_NB_seed : hp_d yX10_seed 1 := by decide +kernel
def f_NB_seed (a0 : Nat) (x1 : Int32) (σ : hp_H) : Option (Int32 × hp_H) := hp_own σ a0 9 (if (0 : Int32) ≤ x1 then ((hp_gR σ a0 9 5).bind fun q2 => (hp_gI σ q2 3 0).bind fun v3 => (hp_gR σ a0 9 5).bind fun q4 => (hp_pI σ q4 3 0 x1).bind fun σ => some (v3, σ)) else (some ((-1000000002), σ)))
set_option maxHeartbeats 4000000 in
set_option maxRecDepth 100000 in
theorem c_NB_seed {l : Launch} {G : hp_G} {b : Nat} {σ : hp_H} {a0 : Nat} {x1 : Int32} {r : Int32} {σ' : hp_H} (h : f_NB_seed a0 x1 σ = some (r, σ')) : hp_Met l yX10_seed cX10_seed 3 (some .int) rm_NB_seed G b [.ref a0, .int x1] σ (some (.int r)) σ' 0 0 := by
  refine hp_met (by decide +kernel) (Nat.le_of_ble_eq_true rfl) (fun p e s m below meth c ls hX hlocks hr hnm hl hR => ?_)
  obtain ⟨hx, hb, hml, hown, hts⟩ := id hX.1
  have hl : lv_has ls 3 [(0, .ref a0), (1, .int x1)] := hl
  unfold f_NB_seed at h
  have h := hp_own_to h
  refine lv_iload_n hx hb dX10_seed_0 rfl (lv_at hl 1 rfl) ?_
  refine lv_if_ge (tgt := 7) hx hb dX10_seed_1 (by decide) (fun c1 => ?_) (fun c1 => ?_)
  · have h := hp_ip c1 h
    refine lv_aload_n hx hb dX10_seed_7 rfl (lv_at hl 0 rfl) ?_
    refine hp_getR hX hR (ci := 9) 5 rfl wf10 (by decide) wq2_16 dX10_seed_8 h (fun q2 h => ?_)
    refine hp_getI hX hR (ci := 3) 0 rfl wf4 (by decide) wq1_227 dX10_seed_11 h (fun v3 h => ?_)
    refine lv_istore_n (lv' := [(2, .int v3), (0, .ref a0), (1, .int x1)]) hx hb dX10_seed_14 rfl hl (by decide) rfl (fun ls hl => ?_)
    refine lv_aload_n hx hb dX10_seed_15 rfl (lv_at hl 1 rfl) ?_
    refine hp_getR hX hR (ci := 9) 5 rfl wf10 (by decide) wq2_16 dX10_seed_16 h (fun q4 h => ?_)
    refine lv_iload_n hx hb dX10_seed_19 rfl (lv_at hl 2 rfl) ?_
    refine hp_putI hX hR (ci := 3) 0 rfl wf4 tyX4_ok nmX4 (by decide) wq1_227 rfl dX10_seed_20 rfl h (fun σ H locs h hR => ?_)
    refine lv_iload_n hx hb dX10_seed_23 rfl (lv_at hl 0 rfl) ?_
    exact hp_iret hX hlocks hr hR h dX10_seed_24
  · have h := hp_in c1 h
    refine lv_ldc (v := (-1000000002)) hx hb hown (hts _ wq2_135) dX10_seed_4 ?_
    exact hp_iret hX hlocks hr hR h dX10_seed_6
theorem cs_X10_258 : hp_WV RX10 258 RX5 yX5_take cX5_take 3 none := ⟨wq3_144, wq3_145, wq3_146, wq1_10, wq3_147⟩
theorem cs_X10_262 : hp_WV RX10 262 RX7 yX7_forget cX7_forget 1 none := ⟨wq3_149, wq3_150, wq3_151, wq1_7, wq3_152⟩
/-! NB.keep(I)I -/
abbrev rm_NB_keep : Room := { frames := 4, cells := 0, slots := 0, locals := 105 }
theorem hd_NB_keep : hp_d yX10_keep 1 := by decide +kernel
def f_NB_keep (a0 : Nat) (x1 : Int32) (σ : hp_H) : Option (Int32 × hp_H) := hp_own σ a0 9 ((f_NB_within x1 0 1).bind fun v2 => if v2 = 0 then (some ((-1000000001), σ)) else ((hp_gR σ a0 9 6).bind fun q4 => (hp_aR σ q4 4 x1).bind fun q5 => (hp_gR σ a0 9 0).bind fun q6 => (hp_gR σ a0 9 5).bind fun q7 => (f_Image_take q5 q6 q7 σ).bind fun σ => (hp_gR σ a0 9 3).bind fun q9 => (f_Past_forget q9 σ).bind fun σ => some (1, σ)))
set_option maxHeartbeats 4000000 in
set_option maxRecDepth 100000 in
theorem c_NB_keep {l : Launch} {G : hp_G} {b : Nat} {σ : hp_H} {a0 : Nat} {x1 : Int32} {r : Int32} {σ' : hp_H} (h : f_NB_keep a0 x1 σ = some (r, σ')) : hp_Met l yX10_keep cX10_keep 2 (some .int) rm_NB_keep G b [.ref a0, .int x1] σ (some (.int r)) σ' 0 0 := by
  refine hp_met (by decide +kernel) (Nat.le_of_ble_eq_true rfl) (fun p e s m below meth c ls hX hlocks hr hnm hl hR => ?_)
  obtain ⟨hx, hb, hml, hown, hts⟩ := id hX.1
  have hl : lv_has ls 2 [(0, .ref a0), (1, .int x1)] := hl
  unfold f_NB_keep at h
  have h := hp_own_to h
  refine lv_iload_n hx hb dX10_keep_0 rfl (lv_at hl 1 rfl) ?_
  refine lv_iconst (v := 0) hx hb dX10_keep_1 (by decide) ?_
  refine lv_iconst (v := 1) hx hb dX10_keep_2 (by decide) ?_
  refine hp_bn h (fun v2 h1 h => ?_)
  refine hp_ci hR (hp_runS (rest := []) (As := [.int x1, .int 0, .int 1]) hX hR (c_NB_within h1) cs_X10_143 rfl rfl hd_NB_within ⟨Nat.le_of_ble_eq_true rfl, Nat.le_of_ble_eq_true rfl⟩ rfl hl.1 rfl (Nat.le_of_ble_eq_true rfl) dX10_keep_3 ⟨Nat.le_of_ble_eq_true rfl, Nat.le_of_ble_eq_true rfl⟩) (fun H locs hR => ?_)
  refine lv_if_ne (tgt := 12) hx hb dX10_keep_6 (by decide) (fun c3 => ?_) (fun c3 => ?_)
  · have h := hp_in c3 h
    refine lv_aload_n hx hb dX10_keep_12 rfl (lv_at hl 0 rfl) ?_
    refine hp_getR hX hR (ci := 9) 6 rfl wf10 (by decide) wq2_17 dX10_keep_13 h (fun q4 h => ?_)
    refine lv_iload_n hx hb dX10_keep_16 rfl (lv_at hl 1 rfl) ?_
    refine hp_aald hX hR 4 rfl dX10_keep_17 h (fun q5 h => ?_)
    refine lv_aload_n hx hb dX10_keep_18 rfl (lv_at hl 0 rfl) ?_
    refine hp_getR hX hR (ci := 9) 0 rfl wf10 (by decide) wq2_11 dX10_keep_19 h (fun q6 h => ?_)
    refine lv_aload_n hx hb dX10_keep_22 rfl (lv_at hl 0 rfl) ?_
    refine hp_getR hX hR (ci := 9) 5 rfl wf10 (by decide) wq2_16 dX10_keep_23 h (fun q7 h => ?_)
    refine hp_bn h (fun σ h8 h => ?_)
    refine hp_cv hR (hp_runV (rest := []) (As := [.ref q6, .ref q7]) hX hR (c_Image_take h8) cs_X10_258 rfl rfl rfl hd_Image_take ⟨Nat.le_of_ble_eq_true rfl, Nat.le_of_ble_eq_true rfl⟩ (ci := 4) rfl (hp_own_is h8) rfl hl.1 rfl (Nat.le_of_ble_eq_true rfl) dX10_keep_26 ⟨Nat.le_of_ble_eq_true rfl, Nat.le_of_ble_eq_true rfl⟩) (fun H locs hR => ?_)
    refine lv_aload_n hx hb dX10_keep_29 rfl (lv_at hl 0 rfl) ?_
    refine hp_getR hX hR (ci := 9) 3 rfl wf10 (by decide) wq2_14 dX10_keep_30 h (fun q9 h => ?_)
    refine hp_bn h (fun σ h10 h => ?_)
    refine hp_cv hR (hp_runV (rest := []) (As := []) hX hR (c_Past_forget h10) cs_X10_262 rfl rfl rfl hd_Past_forget ⟨Nat.le_of_ble_eq_true rfl, Nat.le_of_ble_eq_true rfl⟩ (ci := 6) rfl (hp_own_is h10) rfl hl.1 rfl (Nat.le_of_ble_eq_true rfl) dX10_keep_33 ⟨Nat.le_of_ble_eq_true rfl, Nat.le_of_ble_eq_true rfl⟩) (fun H locs hR => ?_)
    refine lv_iconst (v := 1) hx hb dX10_keep_36 (by decide) ?_
    exact hp_iret hX hlocks hr hR h dX10_keep_37
  · have h := hp_ip c3 h
    refine lv_ldc (v := (-1000000001)) hx hb hown (hts _ wq2_141) dX10_keep_9 ?_
    exact hp_iret hX hlocks hr hR h dX10_keep_11
theorem cs_X10_268 : hp_WV RX10 268 RX5 yX5_giveBack cX5_giveBack 3 none := ⟨wq3_157, wq3_158, wq3_159, wq1_10, wq3_160⟩
/-! NB.goBack(I)I -/
abbrev rm_NB_goBack : Room := { frames := 4, cells := 0, slots := 0, locals := 105 }
theorem hd_NB_goBack : hp_d yX10_goBack 1 := by decide +kernel
def f_NB_goBack (a0 : Nat) (x1 : Int32) (σ : hp_H) : Option (Int32 × hp_H) := hp_own σ a0 9 ((f_NB_within x1 0 1).bind fun v2 => if v2 = 0 then (some ((-1000000001), σ)) else ((hp_gR σ a0 9 6).bind fun q4 => (hp_aR σ q4 4 x1).bind fun q5 => (hp_gI σ q5 4 2).bind fun v6 => if v6 = 0 then (some ((-1000000003), σ)) else ((hp_gR σ a0 9 6).bind fun q8 => (hp_aR σ q8 4 x1).bind fun q9 => (hp_gR σ a0 9 0).bind fun q10 => (hp_gR σ a0 9 5).bind fun q11 => (f_Image_giveBack q9 q10 q11 σ).bind fun σ => (hp_gR σ a0 9 3).bind fun q13 => (f_Past_forget q13 σ).bind fun σ => (hp_gR σ a0 9 1).bind fun q15 => (f_Tellings_outdate q15 σ).bind fun σ => some (1, σ))))
set_option maxHeartbeats 4000000 in
set_option maxRecDepth 100000 in
theorem c_NB_goBack {l : Launch} {G : hp_G} {b : Nat} {σ : hp_H} {a0 : Nat} {x1 : Int32} {r : Int32} {σ' : hp_H} (h : f_NB_goBack a0 x1 σ = some (r, σ')) : hp_Met l yX10_goBack cX10_goBack 2 (some .int) rm_NB_goBack G b [.ref a0, .int x1] σ (some (.int r)) σ' 0 0 := by
  refine hp_met (by decide +kernel) (Nat.le_of_ble_eq_true rfl) (fun p e s m below meth c ls hX hlocks hr hnm hl hR => ?_)
  obtain ⟨hx, hb, hml, hown, hts⟩ := id hX.1
  have hl : lv_has ls 2 [(0, .ref a0), (1, .int x1)] := hl
  unfold f_NB_goBack at h
  have h := hp_own_to h
  refine lv_iload_n hx hb dX10_goBack_0 rfl (lv_at hl 1 rfl) ?_
  refine lv_iconst (v := 0) hx hb dX10_goBack_1 (by decide) ?_
  refine lv_iconst (v := 1) hx hb dX10_goBack_2 (by decide) ?_
  refine hp_bn h (fun v2 h1 h => ?_)
  refine hp_ci hR (hp_runS (rest := []) (As := [.int x1, .int 0, .int 1]) hX hR (c_NB_within h1) cs_X10_143 rfl rfl hd_NB_within ⟨Nat.le_of_ble_eq_true rfl, Nat.le_of_ble_eq_true rfl⟩ rfl hl.1 rfl (Nat.le_of_ble_eq_true rfl) dX10_goBack_3 ⟨Nat.le_of_ble_eq_true rfl, Nat.le_of_ble_eq_true rfl⟩) (fun H locs hR => ?_)
  refine lv_if_ne (tgt := 12) hx hb dX10_goBack_6 (by decide) (fun c3 => ?_) (fun c3 => ?_)
  · have h := hp_in c3 h
    refine lv_aload_n hx hb dX10_goBack_12 rfl (lv_at hl 0 rfl) ?_
    refine hp_getR hX hR (ci := 9) 6 rfl wf10 (by decide) wq2_17 dX10_goBack_13 h (fun q4 h => ?_)
    refine lv_iload_n hx hb dX10_goBack_16 rfl (lv_at hl 1 rfl) ?_
    refine hp_aald hX hR 4 rfl dX10_goBack_17 h (fun q5 h => ?_)
    refine hp_getI hX hR (ci := 4) 2 rfl wf5 (by decide) wq2_3 dX10_goBack_18 h (fun v6 h => ?_)
    refine lv_if_ne (tgt := 27) hx hb dX10_goBack_21 (by decide) (fun c7 => ?_) (fun c7 => ?_)
    · have h := hp_in c7 h
      refine lv_aload_n hx hb dX10_goBack_27 rfl (lv_at hl 0 rfl) ?_
      refine hp_getR hX hR (ci := 9) 6 rfl wf10 (by decide) wq2_17 dX10_goBack_28 h (fun q8 h => ?_)
      refine lv_iload_n hx hb dX10_goBack_31 rfl (lv_at hl 1 rfl) ?_
      refine hp_aald hX hR 4 rfl dX10_goBack_32 h (fun q9 h => ?_)
      refine lv_aload_n hx hb dX10_goBack_33 rfl (lv_at hl 0 rfl) ?_
      refine hp_getR hX hR (ci := 9) 0 rfl wf10 (by decide) wq2_11 dX10_goBack_34 h (fun q10 h => ?_)
      refine lv_aload_n hx hb dX10_goBack_37 rfl (lv_at hl 0 rfl) ?_
      refine hp_getR hX hR (ci := 9) 5 rfl wf10 (by decide) wq2_16 dX10_goBack_38 h (fun q11 h => ?_)
      refine hp_bn h (fun σ h12 h => ?_)
      refine hp_cv hR (hp_runV (rest := []) (As := [.ref q10, .ref q11]) hX hR (c_Image_giveBack h12) cs_X10_268 rfl rfl rfl hd_Image_giveBack ⟨Nat.le_of_ble_eq_true rfl, Nat.le_of_ble_eq_true rfl⟩ (ci := 4) rfl (hp_own_is h12) rfl hl.1 rfl (Nat.le_of_ble_eq_true rfl) dX10_goBack_41 ⟨Nat.le_of_ble_eq_true rfl, Nat.le_of_ble_eq_true rfl⟩) (fun H locs hR => ?_)
      refine lv_aload_n hx hb dX10_goBack_44 rfl (lv_at hl 0 rfl) ?_
      refine hp_getR hX hR (ci := 9) 3 rfl wf10 (by decide) wq2_14 dX10_goBack_45 h (fun q13 h => ?_)
      refine hp_bn h (fun σ h14 h => ?_)
      refine hp_cv hR (hp_runV (rest := []) (As := []) hX hR (c_Past_forget h14) cs_X10_262 rfl rfl rfl hd_Past_forget ⟨Nat.le_of_ble_eq_true rfl, Nat.le_of_ble_eq_true rfl⟩ (ci := 6) rfl (hp_own_is h14) rfl hl.1 rfl (Nat.le_of_ble_eq_true rfl) dX10_goBack_48 ⟨Nat.le_of_ble_eq_true rfl, Nat.le_of_ble_eq_true rfl⟩) (fun H locs hR => ?_)
      refine lv_aload_n hx hb dX10_goBack_51 rfl (lv_at hl 0 rfl) ?_
      refine hp_getR hX hR (ci := 9) 1 rfl wf10 (by decide) wq2_12 dX10_goBack_52 h (fun q15 h => ?_)
      refine hp_bn h (fun σ h16 h => ?_)
      refine hp_cv hR (hp_runV (rest := []) (As := []) hX hR (c_Tellings_outdate h16) cs_X10_215 rfl rfl rfl hd_Tellings_outdate ⟨Nat.le_of_ble_eq_true rfl, Nat.le_of_ble_eq_true rfl⟩ (ci := 8) rfl (hp_own_is h16) rfl hl.1 rfl (Nat.le_of_ble_eq_true rfl) dX10_goBack_55 ⟨Nat.le_of_ble_eq_true rfl, Nat.le_of_ble_eq_true rfl⟩) (fun H locs hR => ?_)
      refine lv_iconst (v := 1) hx hb dX10_goBack_58 (by decide) ?_
      exact hp_iret hX hlocks hr hR h dX10_goBack_59
    · have h := hp_ip c7 h
      refine lv_ldc (v := (-1000000003)) hx hb hown (hts _ wq3_87) dX10_goBack_24 ?_
      exact hp_iret hX hlocks hr hR h dX10_goBack_26
  · have h := hp_ip c3 h
    refine lv_ldc (v := (-1000000001)) hx hb hown (hts _ wq2_141) dX10_goBack_9 ?_
    exact hp_iret hX hlocks hr hR h dX10_goBack_11
/-! Mo.<init>()V -/
abbrev rm_Mo_init : Room := { frames := 1, cells := 10, slots := 6164, locals := 12 }
theorem hd_Mo_init : hp_d yX11_init 0 := by decide +kernel
def f_Mo_init (a0 : Nat) (σ : hp_H) : Option hp_H := hp_own σ a0 10 (hp_nw σ (.inr (.inl (0, 256, fun _ => 0))) fun q1 σ => (hp_pR σ a0 10 0 q1).bind fun σ => hp_nw σ (.inr (.inl (0, 4096, fun _ => 0))) fun q2 σ => (hp_pR σ a0 10 2 q2).bind fun σ => hp_nw σ (.inr (.inl (0, 514, fun _ => 0))) fun q3 σ => (hp_pR σ a0 10 4 q3).bind fun σ => hp_nw σ (.inr (.inl (1, 2, fun _ => 0))) fun q4 σ => (hp_pR σ a0 10 5 q4).bind fun σ => hp_nw σ (.inr (.inl (0, 20, fun _ => 0))) fun q5 σ => (hp_pR σ a0 10 6 q5).bind fun σ => hp_nw σ (.inr (.inl (0, 20, fun _ => 0))) fun q6 σ => (hp_pR σ a0 10 7 q6).bind fun σ => hp_nw σ (.inr (.inl (0, 14, fun _ => 0))) fun q7 σ => (hp_pR σ a0 10 9 q7).bind fun σ => hp_nw σ (.inr (.inl (0, 756, fun _ => 0))) fun q8 σ => (hp_pR σ a0 10 10 q8).bind fun σ => hp_nw σ (.inr (.inl (0, 480, fun _ => 0))) fun q9 σ => (hp_pR σ a0 10 12 q9).bind fun σ => hp_nw σ (.inr (.inl (0, 6, fun _ => 0))) fun q10 σ => (hp_pR σ a0 10 14 q10).bind fun σ => (hp_gR σ a0 10 0).bind fun q11 => (hp_sI σ q11 0 0 1).bind fun σ => (hp_gR σ a0 10 0).bind fun q12 => (hp_sI σ q12 0 3 9).bind fun σ => (hp_gR σ a0 10 0).bind fun q13 => (hp_sI σ q13 0 8 (-1)).bind fun σ => some σ)
set_option maxHeartbeats 4000000 in
set_option maxRecDepth 100000 in
theorem c_Mo_init {l : Launch} {G : hp_G} {b : Nat} {σ : hp_H} {a0 : Nat} {σ' : hp_H} (h : f_Mo_init a0 σ = some σ') : hp_Met l yX11_init cX11_init 1 none rm_Mo_init G b [.ref a0] σ none σ' 10 6164 := by
  refine hp_met (by decide +kernel) (Nat.le_of_ble_eq_true rfl) (fun p e s m below meth c ls hX hlocks hr hnm hl hR => ?_)
  obtain ⟨hx, hb, hml, hown, hts⟩ := id hX.1
  have hl : lv_has ls 1 [(0, .ref a0)] := hl
  unfold f_Mo_init at h
  have h := hp_own_to h
  refine lv_aload_n hx hb dX11_init_0 rfl (lv_at hl 0 rfl) ?_
  refine hp_obj0 hX wq3_166 wq1_22 wq1_23 hl.1 dX11_init_1 (Nat.le_of_ble_eq_true rfl) (Nat.le_of_ble_eq_true rfl) ?_
  refine lv_aload_n hx hb dX11_init_4 rfl (lv_at hl 0 rfl) ?_
  refine lv_sipush (v := 256) hx hb dX11_init_5 (by decide) ?_
  refine hp_newI hX hR 256 wq1_66 (by decide) (by decide) (Nat.le_of_ble_eq_true rfl) (Nat.le_of_ble_eq_true rfl) (Nat.le_of_ble_eq_true rfl) dX11_init_8 h (fun q1 σ H h hR => ?_)
  refine hp_putR hX hR (ci := 10) 0 rfl wf11 tyX11_ok nmX11 (by decide) wq3_167 rfl hnm rfl dX11_init_10 rfl rfl h (fun σ H locs h hR => ?_)
  refine lv_aload_n hx hb dX11_init_13 rfl (lv_at hl 0 rfl) ?_
  refine lv_sipush (v := 4096) hx hb dX11_init_14 (by decide) ?_
  refine hp_newI hX hR 4096 wq1_66 (by decide) (by decide) (Nat.le_of_ble_eq_true rfl) (Nat.le_of_ble_eq_true rfl) (Nat.le_of_ble_eq_true rfl) dX11_init_17 h (fun q2 σ H h hR => ?_)
  refine hp_putR hX hR (ci := 10) 2 rfl wf11 tyX11_ok nmX11 (by decide) wq3_169 rfl hnm rfl dX11_init_19 rfl rfl h (fun σ H locs h hR => ?_)
  refine lv_aload_n hx hb dX11_init_22 rfl (lv_at hl 0 rfl) ?_
  refine lv_sipush (v := 514) hx hb dX11_init_23 (by decide) ?_
  refine hp_newI hX hR 514 wq1_66 (by decide) (by decide) (Nat.le_of_ble_eq_true rfl) (Nat.le_of_ble_eq_true rfl) (Nat.le_of_ble_eq_true rfl) dX11_init_26 h (fun q3 σ H h hR => ?_)
  refine hp_putR hX hR (ci := 10) 4 rfl wf11 tyX11_ok nmX11 (by decide) wq3_171 rfl hnm rfl dX11_init_28 rfl rfl h (fun σ H locs h hR => ?_)
  refine lv_aload_n hx hb dX11_init_31 rfl (lv_at hl 0 rfl) ?_
  refine lv_iconst (v := 2) hx hb dX11_init_32 (by decide) ?_
  refine hp_newZ hX hR 2 wq3_225 (by decide) (by decide) (Nat.le_of_ble_eq_true rfl) (Nat.le_of_ble_eq_true rfl) (Nat.le_of_ble_eq_true rfl) dX11_init_33 h (fun q4 σ H h hR => ?_)
  refine hp_putR hX hR (ci := 10) 5 rfl wf11 tyX11_ok nmX11 (by decide) wq3_172 rfl hnm rfl dX11_init_35 rfl rfl h (fun σ H locs h hR => ?_)
  refine lv_aload_n hx hb dX11_init_38 rfl (lv_at hl 0 rfl) ?_
  refine lv_bipush (v := 20) hx hb dX11_init_39 (by decide) ?_
  refine hp_newI hX hR 20 wq1_66 (by decide) (by decide) (Nat.le_of_ble_eq_true rfl) (Nat.le_of_ble_eq_true rfl) (Nat.le_of_ble_eq_true rfl) dX11_init_41 h (fun q5 σ H h hR => ?_)
  refine hp_putR hX hR (ci := 10) 6 rfl wf11 tyX11_ok nmX11 (by decide) wq3_173 rfl hnm rfl dX11_init_43 rfl rfl h (fun σ H locs h hR => ?_)
  refine lv_aload_n hx hb dX11_init_46 rfl (lv_at hl 0 rfl) ?_
  refine lv_bipush (v := 20) hx hb dX11_init_47 (by decide) ?_
  refine hp_newI hX hR 20 wq1_66 (by decide) (by decide) (Nat.le_of_ble_eq_true rfl) (Nat.le_of_ble_eq_true rfl) (Nat.le_of_ble_eq_true rfl) dX11_init_49 h (fun q6 σ H h hR => ?_)
  refine hp_putR hX hR (ci := 10) 7 rfl wf11 tyX11_ok nmX11 (by decide) wq3_174 rfl hnm rfl dX11_init_51 rfl rfl h (fun σ H locs h hR => ?_)
  refine lv_aload_n hx hb dX11_init_54 rfl (lv_at hl 0 rfl) ?_
  refine lv_bipush (v := 14) hx hb dX11_init_55 (by decide) ?_
  refine hp_newI hX hR 14 wq1_66 (by decide) (by decide) (Nat.le_of_ble_eq_true rfl) (Nat.le_of_ble_eq_true rfl) (Nat.le_of_ble_eq_true rfl) dX11_init_57 h (fun q7 σ H h hR => ?_)
  refine hp_putR hX hR (ci := 10) 9 rfl wf11 tyX11_ok nmX11 (by decide) wq3_176 rfl hnm rfl dX11_init_59 rfl rfl h (fun σ H locs h hR => ?_)
  refine lv_aload_n hx hb dX11_init_62 rfl (lv_at hl 0 rfl) ?_
  refine lv_sipush (v := 756) hx hb dX11_init_63 (by decide) ?_
  refine hp_newI hX hR 756 wq1_66 (by decide) (by decide) (Nat.le_of_ble_eq_true rfl) (Nat.le_of_ble_eq_true rfl) (Nat.le_of_ble_eq_true rfl) dX11_init_66 h (fun q8 σ H h hR => ?_)
  refine hp_putR hX hR (ci := 10) 10 rfl wf11 tyX11_ok nmX11 (by decide) wq3_177 rfl hnm rfl dX11_init_68 rfl rfl h (fun σ H locs h hR => ?_)
  refine lv_aload_n hx hb dX11_init_71 rfl (lv_at hl 0 rfl) ?_
  refine lv_sipush (v := 480) hx hb dX11_init_72 (by decide) ?_
  refine hp_newI hX hR 480 wq1_66 (by decide) (by decide) (Nat.le_of_ble_eq_true rfl) (Nat.le_of_ble_eq_true rfl) (Nat.le_of_ble_eq_true rfl) dX11_init_75 h (fun q9 σ H h hR => ?_)
  refine hp_putR hX hR (ci := 10) 12 rfl wf11 tyX11_ok nmX11 (by decide) wq3_179 rfl hnm rfl dX11_init_77 rfl rfl h (fun σ H locs h hR => ?_)
  refine lv_aload_n hx hb dX11_init_80 rfl (lv_at hl 0 rfl) ?_
  refine lv_bipush (v := 6) hx hb dX11_init_81 (by decide) ?_
  refine hp_newI hX hR 6 wq1_66 (by decide) (by decide) (Nat.le_of_ble_eq_true rfl) (Nat.le_of_ble_eq_true rfl) (Nat.le_of_ble_eq_true rfl) dX11_init_83 h (fun q10 σ H h hR => ?_)
  refine hp_putR hX hR (ci := 10) 14 rfl wf11 tyX11_ok nmX11 (by decide) wq3_181 rfl hnm rfl dX11_init_85 rfl rfl h (fun σ H locs h hR => ?_)
  refine lv_aload_n hx hb dX11_init_88 rfl (lv_at hl 0 rfl) ?_
  refine hp_getR hX hR (ci := 10) 0 rfl wf11 (by decide) wq3_167 dX11_init_89 h (fun q11 h => ?_)
  refine lv_iconst (v := 0) hx hb dX11_init_92 (by decide) ?_
  refine lv_iconst (v := 1) hx hb dX11_init_93 (by decide) ?_
  refine hp_iast hX hR dX11_init_94 h (fun σ H locs h hR => ?_)
  refine lv_aload_n hx hb dX11_init_95 rfl (lv_at hl 0 rfl) ?_
  refine hp_getR hX hR (ci := 10) 0 rfl wf11 (by decide) wq3_167 dX11_init_96 h (fun q12 h => ?_)
  refine lv_iconst (v := 3) hx hb dX11_init_99 (by decide) ?_
  refine lv_bipush (v := 9) hx hb dX11_init_100 (by decide) ?_
  refine hp_iast hX hR dX11_init_102 h (fun σ H locs h hR => ?_)
  refine lv_aload_n hx hb dX11_init_103 rfl (lv_at hl 0 rfl) ?_
  refine hp_getR hX hR (ci := 10) 0 rfl wf11 (by decide) wq3_167 dX11_init_104 h (fun q13 h => ?_)
  refine lv_bipush (v := 8) hx hb dX11_init_107 (by decide) ?_
  refine lv_iconst (v := (-1)) hx hb dX11_init_109 (by decide) ?_
  refine hp_iast hX hR dX11_init_110 h (fun σ H locs h hR => ?_)
  exact hp_vret hX hlocks hr hR h dX11_init_111
/-! Mo.in(III)Z -/
abbrev rm_Mo_in : Room := { frames := 0, cells := 0, slots := 0, locals := 0 }
theorem hd_Mo_in : hp_d yX11_in 3 := by decide +kernel
def f_Mo_in (x0 : Int32) (x1 : Int32) (x2 : Int32) : Option Int32 := if x0 < x1 then (some 0) else (if x2 < x0 then (some 0) else (some 1))
set_option maxHeartbeats 4000000 in
set_option maxRecDepth 100000 in
theorem c_Mo_in {l : Launch} {G : hp_G} {b : Nat} {σ : hp_H} {x0 : Int32} {x1 : Int32} {x2 : Int32} {r : Int32} (h : f_Mo_in x0 x1 x2 = some r) : hp_Met l yX11_in cX11_in 3 (some .boolean) rm_Mo_in G b [.int x0, .int x1, .int x2] σ (some (.int r)) σ 0 0 := by
  refine hp_met (by decide +kernel) (Nat.le_of_ble_eq_true rfl) (fun p e s m below meth c ls hX hlocks hr hnm hl hR => ?_)
  obtain ⟨hx, hb, hml, hown, hts⟩ := id hX.1
  have hl : lv_has ls 3 [(0, .int x0), (1, .int x1), (2, .int x2)] := hl
  unfold f_Mo_in at h
  refine lv_iload_n hx hb dX11_in_0 rfl (lv_at hl 0 rfl) ?_
  refine lv_iload_n hx hb dX11_in_1 rfl (lv_at hl 1 rfl) ?_
  refine lv_icmp_lt (tgt := 14) hx hb dX11_in_2 (by decide) (fun c1 => ?_) (fun c1 => ?_)
  · have h := hp_ip c1 h
    refine lv_iconst (v := 0) hx hb dX11_in_14 (by decide) ?_
    exact hp_zretLP (by decide) hX hlocks hr hR h dX11_in_15
  · have h := hp_in c1 h
    refine lv_iload_n hx hb dX11_in_5 rfl (lv_at hl 0 rfl) ?_
    refine lv_iload_n hx hb dX11_in_6 rfl (lv_at hl 2 rfl) ?_
    refine lv_icmp_gt (tgt := 14) hx hb dX11_in_7 (by decide) (fun c2 => ?_) (fun c2 => ?_)
    · have h := hp_ip c2 h
      refine lv_iconst (v := 0) hx hb dX11_in_14 (by decide) ?_
      exact hp_zretLP (by decide) hX hlocks hr hR h dX11_in_15
    · have h := hp_in c2 h
      refine lv_iconst (v := 1) hx hb dX11_in_10 (by decide) ?_
      refine lv_goto (tgt := 15) hx hb dX11_in_11 (by decide) ?_
      exact hp_zretLP (by decide) hX hlocks hr hR h dX11_in_15
