theorem cs_X9_20 : hp_WIN RX9 20 yX2_init "NoticeBoxes" cX2_init 1 := ⟨by decide +kernel, wq1_129, wq1_5, wq1_130⟩
/-! Tellings.<init>()V -/
abbrev rm_Tellings_init : Room := { frames := 2, cells := 30, slots := 210, locals := 32 }
theorem hd_Tellings_init : hp_d yX9_init 0 := by decide +kernel
def f_Tellings_init (a0 : Nat) (σ : hp_H) : Option hp_H := hp_own σ a0 8 (hp_nw σ (.inr (.inr (2, 7, fun _ => none))) fun q1 σ => (hp_pR σ a0 8 0 q1).bind fun σ => hp_nw σ (.inr (.inr (2, 7, fun _ => none))) fun q2 σ => (hp_pR σ a0 8 1 q2).bind fun σ => (hp_gR σ a0 8 0).bind fun q3 => hp_nw σ (.inl (1, [.null, .int 0])) fun q4 σ => (f_BoxList_init q4 σ).bind fun σ => (hp_sR σ q3 2 1 0 q4).bind fun σ => (hp_gR σ a0 8 1).bind fun q6 => hp_nw σ (.inl (1, [.null, .int 0])) fun q7 σ => (f_BoxList_init q7 σ).bind fun σ => (hp_sR σ q6 2 1 0 q7).bind fun σ => (hp_gR σ a0 8 0).bind fun q9 => hp_nw σ (.inl (1, [.null, .int 0])) fun q10 σ => (f_BoxList_init q10 σ).bind fun σ => (hp_sR σ q9 2 1 1 q10).bind fun σ => (hp_gR σ a0 8 1).bind fun q12 => hp_nw σ (.inl (1, [.null, .int 0])) fun q13 σ => (f_BoxList_init q13 σ).bind fun σ => (hp_sR σ q12 2 1 1 q13).bind fun σ => (hp_gR σ a0 8 0).bind fun q15 => hp_nw σ (.inl (1, [.null, .int 0])) fun q16 σ => (f_BoxList_init q16 σ).bind fun σ => (hp_sR σ q15 2 1 2 q16).bind fun σ => (hp_gR σ a0 8 1).bind fun q18 => hp_nw σ (.inl (1, [.null, .int 0])) fun q19 σ => (f_BoxList_init q19 σ).bind fun σ => (hp_sR σ q18 2 1 2 q19).bind fun σ => (hp_gR σ a0 8 0).bind fun q21 => hp_nw σ (.inl (1, [.null, .int 0])) fun q22 σ => (f_BoxList_init q22 σ).bind fun σ => (hp_sR σ q21 2 1 3 q22).bind fun σ => (hp_gR σ a0 8 1).bind fun q24 => hp_nw σ (.inl (1, [.null, .int 0])) fun q25 σ => (f_BoxList_init q25 σ).bind fun σ => (hp_sR σ q24 2 1 3 q25).bind fun σ => (hp_gR σ a0 8 0).bind fun q27 => hp_nw σ (.inl (1, [.null, .int 0])) fun q28 σ => (f_BoxList_init q28 σ).bind fun σ => (hp_sR σ q27 2 1 4 q28).bind fun σ => (hp_gR σ a0 8 1).bind fun q30 => hp_nw σ (.inl (1, [.null, .int 0])) fun q31 σ => (f_BoxList_init q31 σ).bind fun σ => (hp_sR σ q30 2 1 4 q31).bind fun σ => (hp_gR σ a0 8 0).bind fun q33 => hp_nw σ (.inl (1, [.null, .int 0])) fun q34 σ => (f_BoxList_init q34 σ).bind fun σ => (hp_sR σ q33 2 1 5 q34).bind fun σ => (hp_gR σ a0 8 1).bind fun q36 => hp_nw σ (.inl (1, [.null, .int 0])) fun q37 σ => (f_BoxList_init q37 σ).bind fun σ => (hp_sR σ q36 2 1 5 q37).bind fun σ => (hp_gR σ a0 8 0).bind fun q39 => hp_nw σ (.inl (1, [.null, .int 0])) fun q40 σ => (f_BoxList_init q40 σ).bind fun σ => (hp_sR σ q39 2 1 6 q40).bind fun σ => (hp_gR σ a0 8 1).bind fun q42 => hp_nw σ (.inl (1, [.null, .int 0])) fun q43 σ => (f_BoxList_init q43 σ).bind fun σ => (hp_sR σ q42 2 1 6 q43).bind fun σ => some σ)
set_option maxHeartbeats 4000000 in
set_option maxRecDepth 100000 in
theorem c_Tellings_init {l : Launch} {G : hp_G} {b : Nat} {σ : hp_H} {a0 : Nat} {σ' : hp_H} (h : f_Tellings_init a0 σ = some σ') : hp_Met l yX9_init cX9_init 2 none rm_Tellings_init G b [.ref a0] σ none σ' 30 210 := by
  refine hp_met (by decide +kernel) (Nat.le_of_ble_eq_true rfl) (fun p e s m below meth c ls hX hlocks hr hnm hl hR => ?_)
  obtain ⟨hx, hb, hml, hown, hts⟩ := id hX.1
  have hl : lv_has ls 2 [(0, .ref a0)] := hl
  unfold f_Tellings_init at h
  have h := hp_own_to h
  refine lv_aload_n hx hb dX9_init_0 rfl (lv_at hl 0 rfl) ?_
  refine hp_obj0 hX wq1_124 wq1_22 wq1_23 hl.1 dX9_init_1 (Nat.le_of_ble_eq_true rfl) (Nat.le_of_ble_eq_true rfl) ?_
  refine lv_aload_n hx hb dX9_init_4 rfl (lv_at hl 0 rfl) ?_
  refine lv_bipush (v := 7) hx hb dX9_init_5 (by decide) ?_
  refine hp_newR hX hR 2 rfl (by decide) wq1_125 7 (by decide) (by decide) (Nat.le_of_ble_eq_true rfl) (Nat.le_of_ble_eq_true rfl) (Nat.le_of_ble_eq_true rfl) dX9_init_7 h (fun q1 σ H h hR => ?_)
  refine hp_putR hX hR (ci := 8) 0 rfl wf9 tyX9_ok nmX9 (by decide) wq1_143 rfl hnm rfl dX9_init_10 rfl rfl h (fun σ H locs h hR => ?_)
  refine lv_aload_n hx hb dX9_init_13 rfl (lv_at hl 0 rfl) ?_
  refine lv_bipush (v := 7) hx hb dX9_init_14 (by decide) ?_
  refine hp_newR hX hR 2 rfl (by decide) wq1_125 7 (by decide) (by decide) (Nat.le_of_ble_eq_true rfl) (Nat.le_of_ble_eq_true rfl) (Nat.le_of_ble_eq_true rfl) dX9_init_16 h (fun q2 σ H h hR => ?_)
  refine hp_putR hX hR (ci := 8) 1 rfl wf9 tyX9_ok nmX9 (by decide) wq1_144 rfl hnm rfl dX9_init_19 rfl rfl h (fun σ H locs h hR => ?_)
  refine lv_iconst (v := 0) hx hb dX9_init_22 (by decide) ?_
  refine lv_istore_n (lv' := [(1, .int 0), (0, .ref a0)]) hx hb dX9_init_23 rfl hl (by decide) rfl (fun ls hl => ?_)
  refine lv_iload_n hx hb dX9_init_24 rfl (lv_at hl 0 rfl) ?_
  refine lv_bipush (v := 7) hx hb dX9_init_25 (by decide) ?_
  refine lv_icmp_ge (tgt := 62) hx hb dX9_init_27 (by decide) (fun cz => absurd cz (by decide)) (fun _ => ?_)
  refine lv_aload_n hx hb dX9_init_30 rfl (lv_at hl 1 rfl) ?_
  refine hp_getR hX hR (ci := 8) 0 rfl wf9 (by decide) wq1_143 dX9_init_31 h (fun q3 h => ?_)
  refine lv_iload_n hx hb dX9_init_34 rfl (lv_at hl 0 rfl) ?_
  refine hp_newO hX hR (ci := 1) (fs := [.null, .int 0]) rfl wf2 tyX2_ok wq1_125 wq1_127 wq1_5 (by decide +kernel) (Nat.le_of_ble_eq_true rfl) (Nat.le_of_ble_eq_true rfl) dX9_init_35 h (fun q4 σ H h hR => ?_)
  refine lv_dup hx hb dX9_init_38 rfl ?_
  refine hp_bn h (fun σ h5 h => ?_)
  refine hp_cv hR (hp_runIN (rest := [.ref q4, .int 0, .ref q3]) (As := []) hX hR (c_BoxList_init h5) cs_X9_20 rfl rfl rfl hd_BoxList_init ⟨Nat.le_of_ble_eq_true rfl, Nat.le_of_ble_eq_true rfl⟩ rfl hl.1 rfl (Nat.le_of_ble_eq_true rfl) dX9_init_39 ⟨Nat.le_of_ble_eq_true rfl, Nat.le_of_ble_eq_true rfl⟩) (fun H locs hR => ?_)
  refine hp_aast hX hR 2 1 rfl rfl dX9_init_42 h (fun σ H locs h hR => ?_)
  refine lv_aload_n hx hb dX9_init_43 rfl (lv_at hl 1 rfl) ?_
  refine hp_getR hX hR (ci := 8) 1 rfl wf9 (by decide) wq1_144 dX9_init_44 h (fun q6 h => ?_)
  refine lv_iload_n hx hb dX9_init_47 rfl (lv_at hl 0 rfl) ?_
  refine hp_newO hX hR (ci := 1) (fs := [.null, .int 0]) rfl wf2 tyX2_ok wq1_125 wq1_127 wq1_5 (by decide +kernel) (Nat.le_of_ble_eq_true rfl) (Nat.le_of_ble_eq_true rfl) dX9_init_48 h (fun q7 σ H h hR => ?_)
  refine lv_dup hx hb dX9_init_51 rfl ?_
  refine hp_bn h (fun σ h8 h => ?_)
  refine hp_cv hR (hp_runIN (rest := [.ref q7, .int 0, .ref q6]) (As := []) hX hR (c_BoxList_init h8) cs_X9_20 rfl rfl rfl hd_BoxList_init ⟨Nat.le_of_ble_eq_true rfl, Nat.le_of_ble_eq_true rfl⟩ rfl hl.1 rfl (Nat.le_of_ble_eq_true rfl) dX9_init_52 ⟨Nat.le_of_ble_eq_true rfl, Nat.le_of_ble_eq_true rfl⟩) (fun H locs hR => ?_)
  refine hp_aast hX hR 2 1 rfl rfl dX9_init_55 h (fun σ H locs h hR => ?_)
  refine lv_iinc (v := 1) (lv' := [(1, .int 1), (0, .ref a0)]) hx hb dX9_init_56 hl (k := 0) rfl (by decide) (by decide) rfl (fun ls hl => ?_)
  refine lv_goto (tgt := 24) hx hb dX9_init_59 (by decide) ?_
  refine lv_iload_n hx hb dX9_init_24 rfl (lv_at hl 0 rfl) ?_
  refine lv_bipush (v := 7) hx hb dX9_init_25 (by decide) ?_
  refine lv_icmp_ge (tgt := 62) hx hb dX9_init_27 (by decide) (fun cz => absurd cz (by decide)) (fun _ => ?_)
  refine lv_aload_n hx hb dX9_init_30 rfl (lv_at hl 1 rfl) ?_
  refine hp_getR hX hR (ci := 8) 0 rfl wf9 (by decide) wq1_143 dX9_init_31 h (fun q9 h => ?_)
  refine lv_iload_n hx hb dX9_init_34 rfl (lv_at hl 0 rfl) ?_
  refine hp_newO hX hR (ci := 1) (fs := [.null, .int 0]) rfl wf2 tyX2_ok wq1_125 wq1_127 wq1_5 (by decide +kernel) (Nat.le_of_ble_eq_true rfl) (Nat.le_of_ble_eq_true rfl) dX9_init_35 h (fun q10 σ H h hR => ?_)
  refine lv_dup hx hb dX9_init_38 rfl ?_
  refine hp_bn h (fun σ h11 h => ?_)
  refine hp_cv hR (hp_runIN (rest := [.ref q10, .int 1, .ref q9]) (As := []) hX hR (c_BoxList_init h11) cs_X9_20 rfl rfl rfl hd_BoxList_init ⟨Nat.le_of_ble_eq_true rfl, Nat.le_of_ble_eq_true rfl⟩ rfl hl.1 rfl (Nat.le_of_ble_eq_true rfl) dX9_init_39 ⟨Nat.le_of_ble_eq_true rfl, Nat.le_of_ble_eq_true rfl⟩) (fun H locs hR => ?_)
  refine hp_aast hX hR 2 1 rfl rfl dX9_init_42 h (fun σ H locs h hR => ?_)
  refine lv_aload_n hx hb dX9_init_43 rfl (lv_at hl 1 rfl) ?_
  refine hp_getR hX hR (ci := 8) 1 rfl wf9 (by decide) wq1_144 dX9_init_44 h (fun q12 h => ?_)
  refine lv_iload_n hx hb dX9_init_47 rfl (lv_at hl 0 rfl) ?_
  refine hp_newO hX hR (ci := 1) (fs := [.null, .int 0]) rfl wf2 tyX2_ok wq1_125 wq1_127 wq1_5 (by decide +kernel) (Nat.le_of_ble_eq_true rfl) (Nat.le_of_ble_eq_true rfl) dX9_init_48 h (fun q13 σ H h hR => ?_)
  refine lv_dup hx hb dX9_init_51 rfl ?_
  refine hp_bn h (fun σ h14 h => ?_)
  refine hp_cv hR (hp_runIN (rest := [.ref q13, .int 1, .ref q12]) (As := []) hX hR (c_BoxList_init h14) cs_X9_20 rfl rfl rfl hd_BoxList_init ⟨Nat.le_of_ble_eq_true rfl, Nat.le_of_ble_eq_true rfl⟩ rfl hl.1 rfl (Nat.le_of_ble_eq_true rfl) dX9_init_52 ⟨Nat.le_of_ble_eq_true rfl, Nat.le_of_ble_eq_true rfl⟩) (fun H locs hR => ?_)
  refine hp_aast hX hR 2 1 rfl rfl dX9_init_55 h (fun σ H locs h hR => ?_)
  refine lv_iinc (v := 2) (lv' := [(1, .int 2), (0, .ref a0)]) hx hb dX9_init_56 hl (k := 0) rfl (by decide) (by decide) rfl (fun ls hl => ?_)
  refine lv_goto (tgt := 24) hx hb dX9_init_59 (by decide) ?_
  refine lv_iload_n hx hb dX9_init_24 rfl (lv_at hl 0 rfl) ?_
  refine lv_bipush (v := 7) hx hb dX9_init_25 (by decide) ?_
  refine lv_icmp_ge (tgt := 62) hx hb dX9_init_27 (by decide) (fun cz => absurd cz (by decide)) (fun _ => ?_)
  refine lv_aload_n hx hb dX9_init_30 rfl (lv_at hl 1 rfl) ?_
  refine hp_getR hX hR (ci := 8) 0 rfl wf9 (by decide) wq1_143 dX9_init_31 h (fun q15 h => ?_)
  refine lv_iload_n hx hb dX9_init_34 rfl (lv_at hl 0 rfl) ?_
  refine hp_newO hX hR (ci := 1) (fs := [.null, .int 0]) rfl wf2 tyX2_ok wq1_125 wq1_127 wq1_5 (by decide +kernel) (Nat.le_of_ble_eq_true rfl) (Nat.le_of_ble_eq_true rfl) dX9_init_35 h (fun q16 σ H h hR => ?_)
  refine lv_dup hx hb dX9_init_38 rfl ?_
  refine hp_bn h (fun σ h17 h => ?_)
  refine hp_cv hR (hp_runIN (rest := [.ref q16, .int 2, .ref q15]) (As := []) hX hR (c_BoxList_init h17) cs_X9_20 rfl rfl rfl hd_BoxList_init ⟨Nat.le_of_ble_eq_true rfl, Nat.le_of_ble_eq_true rfl⟩ rfl hl.1 rfl (Nat.le_of_ble_eq_true rfl) dX9_init_39 ⟨Nat.le_of_ble_eq_true rfl, Nat.le_of_ble_eq_true rfl⟩) (fun H locs hR => ?_)
  refine hp_aast hX hR 2 1 rfl rfl dX9_init_42 h (fun σ H locs h hR => ?_)
  refine lv_aload_n hx hb dX9_init_43 rfl (lv_at hl 1 rfl) ?_
  refine hp_getR hX hR (ci := 8) 1 rfl wf9 (by decide) wq1_144 dX9_init_44 h (fun q18 h => ?_)
  refine lv_iload_n hx hb dX9_init_47 rfl (lv_at hl 0 rfl) ?_
  refine hp_newO hX hR (ci := 1) (fs := [.null, .int 0]) rfl wf2 tyX2_ok wq1_125 wq1_127 wq1_5 (by decide +kernel) (Nat.le_of_ble_eq_true rfl) (Nat.le_of_ble_eq_true rfl) dX9_init_48 h (fun q19 σ H h hR => ?_)
  refine lv_dup hx hb dX9_init_51 rfl ?_
  refine hp_bn h (fun σ h20 h => ?_)
  refine hp_cv hR (hp_runIN (rest := [.ref q19, .int 2, .ref q18]) (As := []) hX hR (c_BoxList_init h20) cs_X9_20 rfl rfl rfl hd_BoxList_init ⟨Nat.le_of_ble_eq_true rfl, Nat.le_of_ble_eq_true rfl⟩ rfl hl.1 rfl (Nat.le_of_ble_eq_true rfl) dX9_init_52 ⟨Nat.le_of_ble_eq_true rfl, Nat.le_of_ble_eq_true rfl⟩) (fun H locs hR => ?_)
  refine hp_aast hX hR 2 1 rfl rfl dX9_init_55 h (fun σ H locs h hR => ?_)
  refine lv_iinc (v := 3) (lv' := [(1, .int 3), (0, .ref a0)]) hx hb dX9_init_56 hl (k := 0) rfl (by decide) (by decide) rfl (fun ls hl => ?_)
  refine lv_goto (tgt := 24) hx hb dX9_init_59 (by decide) ?_
  refine lv_iload_n hx hb dX9_init_24 rfl (lv_at hl 0 rfl) ?_
  refine lv_bipush (v := 7) hx hb dX9_init_25 (by decide) ?_
  refine lv_icmp_ge (tgt := 62) hx hb dX9_init_27 (by decide) (fun cz => absurd cz (by decide)) (fun _ => ?_)
  refine lv_aload_n hx hb dX9_init_30 rfl (lv_at hl 1 rfl) ?_
  refine hp_getR hX hR (ci := 8) 0 rfl wf9 (by decide) wq1_143 dX9_init_31 h (fun q21 h => ?_)
  refine lv_iload_n hx hb dX9_init_34 rfl (lv_at hl 0 rfl) ?_
  refine hp_newO hX hR (ci := 1) (fs := [.null, .int 0]) rfl wf2 tyX2_ok wq1_125 wq1_127 wq1_5 (by decide +kernel) (Nat.le_of_ble_eq_true rfl) (Nat.le_of_ble_eq_true rfl) dX9_init_35 h (fun q22 σ H h hR => ?_)
  refine lv_dup hx hb dX9_init_38 rfl ?_
  refine hp_bn h (fun σ h23 h => ?_)
  refine hp_cv hR (hp_runIN (rest := [.ref q22, .int 3, .ref q21]) (As := []) hX hR (c_BoxList_init h23) cs_X9_20 rfl rfl rfl hd_BoxList_init ⟨Nat.le_of_ble_eq_true rfl, Nat.le_of_ble_eq_true rfl⟩ rfl hl.1 rfl (Nat.le_of_ble_eq_true rfl) dX9_init_39 ⟨Nat.le_of_ble_eq_true rfl, Nat.le_of_ble_eq_true rfl⟩) (fun H locs hR => ?_)
  refine hp_aast hX hR 2 1 rfl rfl dX9_init_42 h (fun σ H locs h hR => ?_)
  refine lv_aload_n hx hb dX9_init_43 rfl (lv_at hl 1 rfl) ?_
  refine hp_getR hX hR (ci := 8) 1 rfl wf9 (by decide) wq1_144 dX9_init_44 h (fun q24 h => ?_)
  refine lv_iload_n hx hb dX9_init_47 rfl (lv_at hl 0 rfl) ?_
  refine hp_newO hX hR (ci := 1) (fs := [.null, .int 0]) rfl wf2 tyX2_ok wq1_125 wq1_127 wq1_5 (by decide +kernel) (Nat.le_of_ble_eq_true rfl) (Nat.le_of_ble_eq_true rfl) dX9_init_48 h (fun q25 σ H h hR => ?_)
  refine lv_dup hx hb dX9_init_51 rfl ?_
  refine hp_bn h (fun σ h26 h => ?_)
  refine hp_cv hR (hp_runIN (rest := [.ref q25, .int 3, .ref q24]) (As := []) hX hR (c_BoxList_init h26) cs_X9_20 rfl rfl rfl hd_BoxList_init ⟨Nat.le_of_ble_eq_true rfl, Nat.le_of_ble_eq_true rfl⟩ rfl hl.1 rfl (Nat.le_of_ble_eq_true rfl) dX9_init_52 ⟨Nat.le_of_ble_eq_true rfl, Nat.le_of_ble_eq_true rfl⟩) (fun H locs hR => ?_)
  refine hp_aast hX hR 2 1 rfl rfl dX9_init_55 h (fun σ H locs h hR => ?_)
  refine lv_iinc (v := 4) (lv' := [(1, .int 4), (0, .ref a0)]) hx hb dX9_init_56 hl (k := 0) rfl (by decide) (by decide) rfl (fun ls hl => ?_)
  refine lv_goto (tgt := 24) hx hb dX9_init_59 (by decide) ?_
  refine lv_iload_n hx hb dX9_init_24 rfl (lv_at hl 0 rfl) ?_
  refine lv_bipush (v := 7) hx hb dX9_init_25 (by decide) ?_
  refine lv_icmp_ge (tgt := 62) hx hb dX9_init_27 (by decide) (fun cz => absurd cz (by decide)) (fun _ => ?_)
  refine lv_aload_n hx hb dX9_init_30 rfl (lv_at hl 1 rfl) ?_
  refine hp_getR hX hR (ci := 8) 0 rfl wf9 (by decide) wq1_143 dX9_init_31 h (fun q27 h => ?_)
  refine lv_iload_n hx hb dX9_init_34 rfl (lv_at hl 0 rfl) ?_
  refine hp_newO hX hR (ci := 1) (fs := [.null, .int 0]) rfl wf2 tyX2_ok wq1_125 wq1_127 wq1_5 (by decide +kernel) (Nat.le_of_ble_eq_true rfl) (Nat.le_of_ble_eq_true rfl) dX9_init_35 h (fun q28 σ H h hR => ?_)
  refine lv_dup hx hb dX9_init_38 rfl ?_
  refine hp_bn h (fun σ h29 h => ?_)
  refine hp_cv hR (hp_runIN (rest := [.ref q28, .int 4, .ref q27]) (As := []) hX hR (c_BoxList_init h29) cs_X9_20 rfl rfl rfl hd_BoxList_init ⟨Nat.le_of_ble_eq_true rfl, Nat.le_of_ble_eq_true rfl⟩ rfl hl.1 rfl (Nat.le_of_ble_eq_true rfl) dX9_init_39 ⟨Nat.le_of_ble_eq_true rfl, Nat.le_of_ble_eq_true rfl⟩) (fun H locs hR => ?_)
  refine hp_aast hX hR 2 1 rfl rfl dX9_init_42 h (fun σ H locs h hR => ?_)
  refine lv_aload_n hx hb dX9_init_43 rfl (lv_at hl 1 rfl) ?_
  refine hp_getR hX hR (ci := 8) 1 rfl wf9 (by decide) wq1_144 dX9_init_44 h (fun q30 h => ?_)
  refine lv_iload_n hx hb dX9_init_47 rfl (lv_at hl 0 rfl) ?_
  refine hp_newO hX hR (ci := 1) (fs := [.null, .int 0]) rfl wf2 tyX2_ok wq1_125 wq1_127 wq1_5 (by decide +kernel) (Nat.le_of_ble_eq_true rfl) (Nat.le_of_ble_eq_true rfl) dX9_init_48 h (fun q31 σ H h hR => ?_)
  refine lv_dup hx hb dX9_init_51 rfl ?_
  refine hp_bn h (fun σ h32 h => ?_)
  refine hp_cv hR (hp_runIN (rest := [.ref q31, .int 4, .ref q30]) (As := []) hX hR (c_BoxList_init h32) cs_X9_20 rfl rfl rfl hd_BoxList_init ⟨Nat.le_of_ble_eq_true rfl, Nat.le_of_ble_eq_true rfl⟩ rfl hl.1 rfl (Nat.le_of_ble_eq_true rfl) dX9_init_52 ⟨Nat.le_of_ble_eq_true rfl, Nat.le_of_ble_eq_true rfl⟩) (fun H locs hR => ?_)
  refine hp_aast hX hR 2 1 rfl rfl dX9_init_55 h (fun σ H locs h hR => ?_)
  refine lv_iinc (v := 5) (lv' := [(1, .int 5), (0, .ref a0)]) hx hb dX9_init_56 hl (k := 0) rfl (by decide) (by decide) rfl (fun ls hl => ?_)
  refine lv_goto (tgt := 24) hx hb dX9_init_59 (by decide) ?_
  refine lv_iload_n hx hb dX9_init_24 rfl (lv_at hl 0 rfl) ?_
  refine lv_bipush (v := 7) hx hb dX9_init_25 (by decide) ?_
  refine lv_icmp_ge (tgt := 62) hx hb dX9_init_27 (by decide) (fun cz => absurd cz (by decide)) (fun _ => ?_)
  refine lv_aload_n hx hb dX9_init_30 rfl (lv_at hl 1 rfl) ?_
  refine hp_getR hX hR (ci := 8) 0 rfl wf9 (by decide) wq1_143 dX9_init_31 h (fun q33 h => ?_)
  refine lv_iload_n hx hb dX9_init_34 rfl (lv_at hl 0 rfl) ?_
  refine hp_newO hX hR (ci := 1) (fs := [.null, .int 0]) rfl wf2 tyX2_ok wq1_125 wq1_127 wq1_5 (by decide +kernel) (Nat.le_of_ble_eq_true rfl) (Nat.le_of_ble_eq_true rfl) dX9_init_35 h (fun q34 σ H h hR => ?_)
  refine lv_dup hx hb dX9_init_38 rfl ?_
  refine hp_bn h (fun σ h35 h => ?_)
  refine hp_cv hR (hp_runIN (rest := [.ref q34, .int 5, .ref q33]) (As := []) hX hR (c_BoxList_init h35) cs_X9_20 rfl rfl rfl hd_BoxList_init ⟨Nat.le_of_ble_eq_true rfl, Nat.le_of_ble_eq_true rfl⟩ rfl hl.1 rfl (Nat.le_of_ble_eq_true rfl) dX9_init_39 ⟨Nat.le_of_ble_eq_true rfl, Nat.le_of_ble_eq_true rfl⟩) (fun H locs hR => ?_)
  refine hp_aast hX hR 2 1 rfl rfl dX9_init_42 h (fun σ H locs h hR => ?_)
  refine lv_aload_n hx hb dX9_init_43 rfl (lv_at hl 1 rfl) ?_
  refine hp_getR hX hR (ci := 8) 1 rfl wf9 (by decide) wq1_144 dX9_init_44 h (fun q36 h => ?_)
  refine lv_iload_n hx hb dX9_init_47 rfl (lv_at hl 0 rfl) ?_
  refine hp_newO hX hR (ci := 1) (fs := [.null, .int 0]) rfl wf2 tyX2_ok wq1_125 wq1_127 wq1_5 (by decide +kernel) (Nat.le_of_ble_eq_true rfl) (Nat.le_of_ble_eq_true rfl) dX9_init_48 h (fun q37 σ H h hR => ?_)
  refine lv_dup hx hb dX9_init_51 rfl ?_
  refine hp_bn h (fun σ h38 h => ?_)
  refine hp_cv hR (hp_runIN (rest := [.ref q37, .int 5, .ref q36]) (As := []) hX hR (c_BoxList_init h38) cs_X9_20 rfl rfl rfl hd_BoxList_init ⟨Nat.le_of_ble_eq_true rfl, Nat.le_of_ble_eq_true rfl⟩ rfl hl.1 rfl (Nat.le_of_ble_eq_true rfl) dX9_init_52 ⟨Nat.le_of_ble_eq_true rfl, Nat.le_of_ble_eq_true rfl⟩) (fun H locs hR => ?_)
  refine hp_aast hX hR 2 1 rfl rfl dX9_init_55 h (fun σ H locs h hR => ?_)
  refine lv_iinc (v := 6) (lv' := [(1, .int 6), (0, .ref a0)]) hx hb dX9_init_56 hl (k := 0) rfl (by decide) (by decide) rfl (fun ls hl => ?_)
  refine lv_goto (tgt := 24) hx hb dX9_init_59 (by decide) ?_
  refine lv_iload_n hx hb dX9_init_24 rfl (lv_at hl 0 rfl) ?_
  refine lv_bipush (v := 7) hx hb dX9_init_25 (by decide) ?_
  refine lv_icmp_ge (tgt := 62) hx hb dX9_init_27 (by decide) (fun cz => absurd cz (by decide)) (fun _ => ?_)
  refine lv_aload_n hx hb dX9_init_30 rfl (lv_at hl 1 rfl) ?_
  refine hp_getR hX hR (ci := 8) 0 rfl wf9 (by decide) wq1_143 dX9_init_31 h (fun q39 h => ?_)
  refine lv_iload_n hx hb dX9_init_34 rfl (lv_at hl 0 rfl) ?_
  refine hp_newO hX hR (ci := 1) (fs := [.null, .int 0]) rfl wf2 tyX2_ok wq1_125 wq1_127 wq1_5 (by decide +kernel) (Nat.le_of_ble_eq_true rfl) (Nat.le_of_ble_eq_true rfl) dX9_init_35 h (fun q40 σ H h hR => ?_)
  refine lv_dup hx hb dX9_init_38 rfl ?_
  refine hp_bn h (fun σ h41 h => ?_)
  refine hp_cv hR (hp_runIN (rest := [.ref q40, .int 6, .ref q39]) (As := []) hX hR (c_BoxList_init h41) cs_X9_20 rfl rfl rfl hd_BoxList_init ⟨Nat.le_of_ble_eq_true rfl, Nat.le_of_ble_eq_true rfl⟩ rfl hl.1 rfl (Nat.le_of_ble_eq_true rfl) dX9_init_39 ⟨Nat.le_of_ble_eq_true rfl, Nat.le_of_ble_eq_true rfl⟩) (fun H locs hR => ?_)
  refine hp_aast hX hR 2 1 rfl rfl dX9_init_42 h (fun σ H locs h hR => ?_)
  refine lv_aload_n hx hb dX9_init_43 rfl (lv_at hl 1 rfl) ?_
  refine hp_getR hX hR (ci := 8) 1 rfl wf9 (by decide) wq1_144 dX9_init_44 h (fun q42 h => ?_)
  refine lv_iload_n hx hb dX9_init_47 rfl (lv_at hl 0 rfl) ?_
  refine hp_newO hX hR (ci := 1) (fs := [.null, .int 0]) rfl wf2 tyX2_ok wq1_125 wq1_127 wq1_5 (by decide +kernel) (Nat.le_of_ble_eq_true rfl) (Nat.le_of_ble_eq_true rfl) dX9_init_48 h (fun q43 σ H h hR => ?_)
  refine lv_dup hx hb dX9_init_51 rfl ?_
  refine hp_bn h (fun σ h44 h => ?_)
  refine hp_cv hR (hp_runIN (rest := [.ref q43, .int 6, .ref q42]) (As := []) hX hR (c_BoxList_init h44) cs_X9_20 rfl rfl rfl hd_BoxList_init ⟨Nat.le_of_ble_eq_true rfl, Nat.le_of_ble_eq_true rfl⟩ rfl hl.1 rfl (Nat.le_of_ble_eq_true rfl) dX9_init_52 ⟨Nat.le_of_ble_eq_true rfl, Nat.le_of_ble_eq_true rfl⟩) (fun H locs hR => ?_)
  refine hp_aast hX hR 2 1 rfl rfl dX9_init_55 h (fun σ H locs h hR => ?_)
  refine lv_iinc (v := 7) (lv' := [(1, .int 7), (0, .ref a0)]) hx hb dX9_init_56 hl (k := 0) rfl (by decide) (by decide) rfl (fun ls hl => ?_)
  refine lv_goto (tgt := 24) hx hb dX9_init_59 (by decide) ?_
  refine lv_iload_n hx hb dX9_init_24 rfl (lv_at hl 0 rfl) ?_
  refine lv_bipush (v := 7) hx hb dX9_init_25 (by decide) ?_
  refine lv_icmp_ge (tgt := 62) hx hb dX9_init_27 (by decide) (fun _ => ?_) (fun cz => absurd cz (by decide))
  exact hp_vret hX hlocks hr hR h dX9_init_62
/-! Tellings.outdate()V -/
abbrev rm_Tellings_outdate : Room := { frames := 0, cells := 0, slots := 0, locals := 0 }
theorem hd_Tellings_outdate : hp_d yX9_outdate 0 := by decide +kernel
def f_Tellings_outdate (a0 : Nat) (σ : hp_H) : Option hp_H := hp_own σ a0 8 ((hp_pZ σ a0 8 2 0).bind fun σ => some σ)
set_option maxHeartbeats 4000000 in
set_option maxRecDepth 100000 in
theorem c_Tellings_outdate {l : Launch} {G : hp_G} {b : Nat} {σ : hp_H} {a0 : Nat} {σ' : hp_H} (h : f_Tellings_outdate a0 σ = some σ') : hp_Met l yX9_outdate cX9_outdate 1 none rm_Tellings_outdate G b [.ref a0] σ none σ' 0 0 := by
  refine hp_met (by decide +kernel) (Nat.le_of_ble_eq_true rfl) (fun p e s m below meth c ls hX hlocks hr hnm hl hR => ?_)
  obtain ⟨hx, hb, hml, hown, hts⟩ := id hX.1
  have hl : lv_has ls 1 [(0, .ref a0)] := hl
  unfold f_Tellings_outdate at h
  have h := hp_own_to h
  refine lv_aload_n hx hb dX9_outdate_0 rfl (lv_at hl 0 rfl) ?_
  refine lv_iconst (v := 0) hx hb dX9_outdate_1 (by decide) ?_
  refine hp_putZ hX hR (ci := 8) 2 rfl wf9 tyX9_ok nmX9 (by decide) wq1_145 rfl dX9_outdate_2 rfl h (fun σ H locs h hR => ?_)
  exact hp_vret hX hlocks hr hR h dX9_outdate_5
/-! Tellings.countAll(LNoticeBoxes$State;)I -/
abbrev rm_Tellings_countAll : Room := { frames := 0, cells := 0, slots := 0, locals := 0 }
theorem hd_Tellings_countAll : hp_d yX9_countAll 1 := by decide +kernel
def f_Tellings_countAll_l1 (a0 : Nat) (a1 : Nat) (σ : hp_H) (K : Int32 → Int32 → Option Int32) : Nat → Int32 → Int32 → Option Int32
  | 0, _, _ => none
  | n + 1, x2, x3 => (hp_gI σ a1 7 0).bind fun v1 => if v1 ≤ x3 then (K x2 x3) else ((hp_gR σ a0 8 0).bind fun q3 => (hp_aR σ q3 2 x3).bind fun q4 => (hp_gI σ q4 1 1).bind fun v5 => (hp_gR σ a0 8 1).bind fun q6 => (hp_aR σ q6 2 x3).bind fun q7 => (hp_gI σ q7 1 1).bind fun v8 => f_Tellings_countAll_l1 a0 a1 σ K n (x2 + (v5 + v8)) (x3 + 1))
def f_Tellings_countAll (a0 : Nat) (a1 : Nat) (σ : hp_H) : Option Int32 := hp_own σ a0 8 (f_Tellings_countAll_l1 a0 a1 σ (fun z9 z10 => some z9) hp_F 0 1)
set_option maxHeartbeats 4000000 in
set_option maxRecDepth 100000 in
theorem w_Tellings_countAll_l1 {p : Program} {l : Launch} {e : Env} {s : State} {m : MethodId} {args : Array Value} {below : List Frame} {meth : Method} {c : Code} {G : hp_G} {b : Nat} {σ : hp_H} {a0 : Nat} {a1 : Nat} {r : Int32} {K : Int32 → Int32 → Option Int32} (hX : hp_X G p s m c args cX9_countAll 4 RX9) (hlocks : meth.locks = false) (hr : meth.sig.returnType = (some .int))
    (hK : ∀ (x2 : Int32) (x3 : Int32) (H : Heap) (locs : List Loc) (ls : Array Slot), hp_R G b s.heap σ H locs → lv_has ls 4 [(2, .int x2)] → K x2 x3 = some r → W p l e rm_Tellings_countAll s m args below meth c H locs 0 0 (MQ below (hp_Qc G b (some (.int r)) σ) args s 0 0 (fun q => b ≤ q)) (F0 m 40 ls [])) :
    ∀ (n : Nat) (x2 : Int32) (x3 : Int32) (H : Heap) (locs : List Loc) (ls : Array Slot), hp_R G b s.heap σ H locs → f_Tellings_countAll_l1 a0 a1 σ K n x2 x3 = some r → lv_has ls 4 [(0, .ref a0), (1, .ref a1), (2, .int x2), (3, .int x3)] → W p l e rm_Tellings_countAll s m args below meth c H locs 0 0 (MQ below (hp_Qc G b (some (.int r)) σ) args s 0 0 (fun q => b ≤ q)) (F0 m 4 ls []) := by
  obtain ⟨hx, hb, hml, hown, hts⟩ := id hX.1
  intro n
  induction n with
  | zero =>
    intro x2 x3 H locs ls hR h hl
    rw [f_Tellings_countAll_l1] at h
    cases h
  | succ n ih =>
    intro x2 x3 H locs ls hR h hl
    rw [f_Tellings_countAll_l1] at h
    refine lv_iload_n hx hb dX9_countAll_4 rfl (lv_at hl 3 rfl) ?_
    refine lv_aload_n hx hb dX9_countAll_5 rfl (lv_at hl 1 rfl) ?_
    refine hp_getI hX hR (ci := 7) 0 rfl wf8 (by decide) wq1_70 dX9_countAll_6 h (fun v1 h => ?_)
    refine lv_icmp_ge (tgt := 40) hx hb dX9_countAll_9 (by decide) (fun c2 => ?_) (fun c2 => ?_)
    · have h := hp_ip c2 h
      exact hK _ _ _ _ _ hR (lv_sub hl [2] rfl) h
    · have h := hp_in c2 h
      refine lv_iload_n hx hb dX9_countAll_12 rfl (lv_at hl 2 rfl) ?_
      refine lv_aload_n hx hb dX9_countAll_13 rfl (lv_at hl 0 rfl) ?_
      refine hp_getR hX hR (ci := 8) 0 rfl wf9 (by decide) wq1_143 dX9_countAll_14 h (fun q3 h => ?_)
      refine lv_iload_n hx hb dX9_countAll_17 rfl (lv_at hl 3 rfl) ?_
      refine hp_aald hX hR 2 rfl dX9_countAll_18 h (fun q4 h => ?_)
      refine hp_getI hX hR (ci := 1) 1 rfl wf2 (by decide) wq1_136 dX9_countAll_19 h (fun v5 h => ?_)
      refine lv_aload_n hx hb dX9_countAll_22 rfl (lv_at hl 0 rfl) ?_
      refine hp_getR hX hR (ci := 8) 1 rfl wf9 (by decide) wq1_144 dX9_countAll_23 h (fun q6 h => ?_)
      refine lv_iload_n hx hb dX9_countAll_26 rfl (lv_at hl 3 rfl) ?_
      refine hp_aald hX hR 2 rfl dX9_countAll_27 h (fun q7 h => ?_)
      refine hp_getI hX hR (ci := 1) 1 rfl wf2 (by decide) wq1_136 dX9_countAll_28 h (fun v8 h => ?_)
      refine lv_iadd hx hb dX9_countAll_31 ?_
      refine lv_iadd hx hb dX9_countAll_32 ?_
      refine lv_istore_n (lv' := [(2, .int (x2 + (v5 + v8))), (0, .ref a0), (1, .ref a1), (3, .int x3)]) hx hb dX9_countAll_33 rfl hl (by decide) rfl (fun ls hl => ?_)
      refine lv_iinc (v := (x3 + 1)) (lv' := [(3, .int (x3 + 1)), (2, .int (x2 + (v5 + v8))), (0, .ref a0), (1, .ref a1)]) hx hb dX9_countAll_34 hl (k := 3) rfl rfl (by decide) rfl (fun ls hl => ?_)
      refine lv_goto (tgt := 4) hx hb dX9_countAll_37 (by decide) ?_
      exact ih _ _ _ _ _ hR h (lv_sub hl [2, 3, 1, 0] rfl)
set_option maxHeartbeats 4000000 in
set_option maxRecDepth 100000 in
theorem c_Tellings_countAll {l : Launch} {G : hp_G} {b : Nat} {σ : hp_H} {a0 : Nat} {a1 : Nat} {r : Int32} (h : f_Tellings_countAll a0 a1 σ = some r) : hp_Met l yX9_countAll cX9_countAll 4 (some .int) rm_Tellings_countAll G b [.ref a0, .ref a1] σ (some (.int r)) σ 0 0 := by
  refine hp_met (by decide +kernel) (Nat.le_of_ble_eq_true rfl) (fun p e s m below meth c ls hX hlocks hr hnm hl hR => ?_)
  obtain ⟨hx, hb, hml, hown, hts⟩ := id hX.1
  have hl : lv_has ls 4 [(0, .ref a0), (1, .ref a1)] := hl
  unfold f_Tellings_countAll at h
  have h := hp_own_to h
  refine lv_iconst (v := 0) hx hb dX9_countAll_0 (by decide) ?_
  refine lv_istore_n (lv' := [(2, .int 0), (0, .ref a0), (1, .ref a1)]) hx hb dX9_countAll_1 rfl hl (by decide) rfl (fun ls hl => ?_)
  refine lv_iconst (v := 1) hx hb dX9_countAll_2 (by decide) ?_
  refine lv_istore_n (lv' := [(3, .int 1), (2, .int 0), (0, .ref a0), (1, .ref a1)]) hx hb dX9_countAll_3 rfl hl (by decide) rfl (fun ls hl => ?_)
  refine w_Tellings_countAll_l1 hX hlocks hr ?_ hp_F _ _ _ _ _ hR h (lv_sub hl [2, 3, 1, 0] rfl)
  intro z9 z10 H locs ls hR hl h
  refine lv_iload_n hx hb dX9_countAll_40 rfl (lv_at hl 0 rfl) ?_
  exact hp_iretP hX hlocks hr hR h dX9_countAll_41
theorem cs_X9_42 : hp_WV RX9 42 RX9 yX9_between cX9_between 4 (some (.object "NoticeBoxes$BoxList")) := ⟨wq2_45, wq2_46, wq2_47, wq1_4, wq2_48⟩
theorem cs_X9_46 : hp_WV RX9 46 RX8 yX8_clientsHomeAt cX8_clientsHomeAt 4 (some .int) := ⟨wq2_49, wq2_50, wq2_51, wq1_2, wq2_52⟩
theorem cs_X9_50 : hp_WV RX9 50 RX8 yX8_wishesOf cX8_wishesOf 4 (some .int) := ⟨wq2_53, wq2_54, wq2_55, wq1_2, wq2_56⟩
theorem cs_X9_56 : hp_WSN RX9 56 yX10_holds "NoticeBoxes" cX10_holds 2 (some .boolean) := ⟨by decide +kernel, wq2_58, wq1_1, wq2_59⟩
theorem cs_X9_63 : hp_WV RX9 63 RX2 yX2_add cX2_add 2 none := ⟨wq2_61, wq2_62, wq2_63, wq1_5, wq2_64⟩
theorem cs_X9_67 : hp_WV RX9 67 RX8 yX8_areNeighbours cX8_areNeighbours 3 (some .boolean) := ⟨wq2_86, wq2_87, wq2_88, wq1_2, wq2_89⟩
theorem cs_X9_76 : hp_WV RX9 76 RX2 yX2_cheapestJoin cX2_cheapestJoin 6 (some .int) := ⟨wq2_97, wq2_98, wq2_99, wq1_5, wq2_100⟩
/-! Tellings.gather(LNoticeBoxes$State;II)V -/
abbrev rm_Tellings_gather : Room := { frames := 4, cells := 0, slots := 0, locals := 92 }
theorem hd_Tellings_gather : hp_d yX9_gather 3 := by decide +kernel
def f_Tellings_gather_l1 (a0 : Nat) (a1 : Nat) (x2 : Int32) (x3 : Int32) (a4 : Nat) (x5 : Int32) (K : Int32 → hp_H → Option hp_H) : Nat → Int32 → hp_H → Option hp_H
  | 0, _, _ => none
  | n + 1, x6, σ => (hp_gI σ a1 7 2).bind fun v7 => if v7 ≤ x6 then (K x6 σ) else ((f_NB_holds x5 x6).bind fun v10 => if v10 = 0 then (f_Tellings_gather_l1 a0 a1 x2 x3 a4 x5 K n (x6 + 1) σ) else ((hp_gR σ a1 7 10).bind fun q12 => (hp_aI σ q12 0 x6).bind fun v13 => (f_BoxList_add a4 v13 σ).bind fun σ => f_Tellings_gather_l1 a0 a1 x2 x3 a4 x5 K n (x6 + 1) σ))
def f_Tellings_gather_l3 (a0 : Nat) (a1 : Nat) (x2 : Int32) (x3 : Int32) (a4 : Nat) (x6 : Int32) (a7 : Nat) (K : Int32 → hp_H → Option hp_H) : Nat → Int32 → hp_H → Option hp_H
  | 0, _, _ => none
  | n + 1, x8, σ => (hp_gI σ a7 1 1).bind fun v24 => if v24 ≤ x8 then (K x8 σ) else ((hp_gR σ a7 1 0).bind fun q26 => (hp_aI σ q26 0 x8).bind fun v27 => (f_BoxList_add a4 v27 σ).bind fun σ => f_Tellings_gather_l3 a0 a1 x2 x3 a4 x6 a7 K n (x8 + 1) σ)
def f_Tellings_gather_l2 (a0 : Nat) (a1 : Nat) (x2 : Int32) (x3 : Int32) (a4 : Nat) (K : Int32 → hp_H → Option hp_H) : Nat → Int32 → hp_H → Option hp_H
  | 0, _, _ => none
  | n + 1, x6, σ => (hp_gI σ a1 7 0).bind fun v16 => if v16 ≤ x6 then (K x6 σ) else (if x6 = x3 then (f_Tellings_gather_l2 a0 a1 x2 x3 a4 K n (x6 + 1) σ) else ((f_State_areNeighbours a1 x6 x2 σ).bind fun v20 => if v20 = 0 then (f_Tellings_gather_l2 a0 a1 x2 x3 a4 K n (x6 + 1) σ) else ((f_Tellings_between a0 a1 x6 x2 σ).bind fun q23 => f_Tellings_gather_l3 a0 a1 x2 x3 a4 x6 q23 (fun z29 σ => f_Tellings_gather_l2 a0 a1 x2 x3 a4 K n (x6 + 1) σ) hp_F 0 σ)))
def f_Tellings_gather_l4 (a1 : Nat) (a4 : Nat) (K : Int32 → hp_H → Option hp_H) : Nat → Int32 → hp_H → Option hp_H
  | 0, _, _ => none
  | n + 1, x6, σ => if (12 : Int32) ≤ x6 then (K x6 σ) else ((hp_gI σ a4 1 1).bind fun v32 => (hp_gI σ a1 7 3).bind fun v33 => if v32 ≤ v33 then (K x6 σ) else ((f_BoxList_cheapestJoin a4 σ).bind fun v36 => (f_BoxList_add a4 v36 σ).bind fun σ => f_Tellings_gather_l4 a1 a4 K n (x6 + 1) σ))
def f_Tellings_gather (a0 : Nat) (a1 : Nat) (x2 : Int32) (x3 : Int32) (σ : hp_H) : Option hp_H := hp_own σ a0 8 ((f_Tellings_between a0 a1 x2 x3 σ).bind fun q2 => (hp_pI σ q2 1 1 0).bind fun σ => (f_State_clientsHomeAt a1 x2 σ).bind fun v4 => (f_State_wishesOf a1 v4 σ).bind fun v6 => f_Tellings_gather_l1 a0 a1 x2 x3 q2 v6 (fun z15 σ => f_Tellings_gather_l2 a0 a1 x2 x3 q2 (fun z30 σ => f_Tellings_gather_l4 a1 q2 (fun z38 σ => some σ) hp_F 0 σ) hp_F 0 σ) hp_F 0 σ)
set_option maxHeartbeats 4000000 in
set_option maxRecDepth 100000 in
theorem w_Tellings_gather_l1 {p : Program} {l : Launch} {e : Env} {s : State} {m : MethodId} {args : Array Value} {below : List Frame} {meth : Method} {c : Code} {G : hp_G} {b : Nat} {a0 : Nat} {a1 : Nat} {x2 : Int32} {x3 : Int32} {a4 : Nat} {x5 : Int32} {σ' : hp_H} {K : Int32 → hp_H → Option hp_H} (hX : hp_X G p s m c args cX9_gather 9 RX9) (hlocks : meth.locks = false) (hr : meth.sig.returnType = none)
    (hK : ∀ (x6 : Int32) (σ : hp_H) (H : Heap) (locs : List Loc) (ls : Array Slot), hp_R G b s.heap σ H locs → lv_has ls 9 [(0, .ref a0), (1, .ref a1), (2, .int x2), (3, .int x3), (4, .ref a4)] → K x6 σ = some σ' → W p l e rm_Tellings_gather s m args below meth c H locs 0 0 (MQ below (hp_Qc G b none σ') args s 0 0 (fun q => b ≤ q)) (F0 m 66 ls [])) :
    ∀ (n : Nat) (x6 : Int32) (σ : hp_H) (H : Heap) (locs : List Loc) (ls : Array Slot), hp_R G b s.heap σ H locs → f_Tellings_gather_l1 a0 a1 x2 x3 a4 x5 K n x6 σ = some σ' → lv_has ls 9 [(0, .ref a0), (1, .ref a1), (2, .int x2), (3, .int x3), (4, .ref a4), (5, .int x5), (6, .int x6)] → W p l e rm_Tellings_gather s m args below meth c H locs 0 0 (MQ below (hp_Qc G b none σ') args s 0 0 (fun q => b ≤ q)) (F0 m 29 ls []) := by
  obtain ⟨hx, hb, hml, hown, hts⟩ := id hX.1
  intro n
  induction n with
  | zero =>
    intro x6 σ H locs ls hR h hl
    rw [f_Tellings_gather_l1] at h
    cases h
  | succ n ih =>
    intro x6 σ H locs ls hR h hl
    rw [f_Tellings_gather_l1] at h
    refine lv_iload hx hb dX9_gather_29 (lv_at hl 6 rfl) ?_
    refine lv_aload_n hx hb dX9_gather_31 rfl (lv_at hl 1 rfl) ?_
    refine hp_getI hX hR (ci := 7) 2 rfl wf8 (by decide) wq1_75 dX9_gather_32 h (fun v7 h => ?_)
    refine lv_icmp_ge (tgt := 66) hx hb dX9_gather_35 (by decide) (fun c8 => ?_) (fun c8 => ?_)
    · have h := hp_ip c8 h
      exact hK _ _ _ _ _ hR (lv_sub hl [0, 1, 2, 3, 4] rfl) h
    · have h := hp_in c8 h
      refine lv_iload hx hb dX9_gather_38 (lv_at hl 5 rfl) ?_
      refine lv_iload hx hb dX9_gather_40 (lv_at hl 6 rfl) ?_
      refine hp_bn h (fun v10 h9 h => ?_)
      refine hp_ci hR (hp_runSN (rest := []) (As := [.int x5, .int x6]) hX hR (c_NB_holds h9) cs_X9_56 rfl rfl hd_NB_holds ⟨Nat.le_of_ble_eq_true rfl, Nat.le_of_ble_eq_true rfl⟩ rfl hl.1 rfl (Nat.le_of_ble_eq_true rfl) dX9_gather_42 ⟨Nat.le_of_ble_eq_true rfl, Nat.le_of_ble_eq_true rfl⟩) (fun H locs hR => ?_)
      refine lv_if_eq (tgt := 60) hx hb dX9_gather_45 (by decide) (fun c11 => ?_) (fun c11 => ?_)
      · have h := hp_ip c11 h
        refine lv_iinc (v := (x6 + 1)) (lv' := [(6, .int (x6 + 1)), (0, .ref a0), (1, .ref a1), (2, .int x2), (3, .int x3), (4, .ref a4), (5, .int x5)]) hx hb dX9_gather_60 hl (k := 6) rfl rfl (by decide) rfl (fun ls hl => ?_)
        refine lv_goto (tgt := 29) hx hb dX9_gather_63 (by decide) ?_
        exact ih _ _ _ _ _ hR h (lv_sub hl [1, 2, 3, 4, 5, 6, 0] rfl)
      · have h := hp_in c11 h
        refine lv_aload hx hb dX9_gather_48 (lv_at hl 4 rfl) ?_
        refine lv_aload_n hx hb dX9_gather_50 rfl (lv_at hl 1 rfl) ?_
        refine hp_getR hX hR (ci := 7) 10 rfl wf8 (by decide) wq1_94 dX9_gather_51 h (fun q12 h => ?_)
        refine lv_iload hx hb dX9_gather_54 (lv_at hl 6 rfl) ?_
        refine hp_iald hX hR dX9_gather_56 h (fun v13 h => ?_)
        refine hp_bn h (fun σ h14 h => ?_)
        refine hp_cv hR (hp_runV (rest := []) (As := [.int v13]) hX hR (c_BoxList_add h14) cs_X9_63 rfl rfl rfl hd_BoxList_add ⟨Nat.le_of_ble_eq_true rfl, Nat.le_of_ble_eq_true rfl⟩ (ci := 1) rfl (hp_own_is h14) rfl hl.1 rfl (Nat.le_of_ble_eq_true rfl) dX9_gather_57 ⟨Nat.le_of_ble_eq_true rfl, Nat.le_of_ble_eq_true rfl⟩) (fun H locs hR => ?_)
        refine lv_iinc (v := (x6 + 1)) (lv' := [(6, .int (x6 + 1)), (0, .ref a0), (1, .ref a1), (2, .int x2), (3, .int x3), (4, .ref a4), (5, .int x5)]) hx hb dX9_gather_60 hl (k := 6) rfl rfl (by decide) rfl (fun ls hl => ?_)
        refine lv_goto (tgt := 29) hx hb dX9_gather_63 (by decide) ?_
        exact ih _ _ _ _ _ hR h (lv_sub hl [1, 2, 3, 4, 5, 6, 0] rfl)
set_option maxHeartbeats 4000000 in
set_option maxRecDepth 100000 in
theorem w_Tellings_gather_l3 {p : Program} {l : Launch} {e : Env} {s : State} {m : MethodId} {args : Array Value} {below : List Frame} {meth : Method} {c : Code} {G : hp_G} {b : Nat} {a0 : Nat} {a1 : Nat} {x2 : Int32} {x3 : Int32} {a4 : Nat} {x6 : Int32} {a7 : Nat} {σ' : hp_H} {K : Int32 → hp_H → Option hp_H} (hX : hp_X G p s m c args cX9_gather 9 RX9) (hlocks : meth.locks = false) (hr : meth.sig.returnType = none)
    (hK : ∀ (x8 : Int32) (σ : hp_H) (H : Heap) (locs : List Loc) (ls : Array Slot), hp_R G b s.heap σ H locs → lv_has ls 9 [(0, .ref a0), (1, .ref a1), (2, .int x2), (3, .int x3), (4, .ref a4), (6, .int x6)] → K x8 σ = some σ' → W p l e rm_Tellings_gather s m args below meth c H locs 0 0 (MQ below (hp_Qc G b none σ') args s 0 0 (fun q => b ≤ q)) (F0 m 139 ls [])) :
    ∀ (n : Nat) (x8 : Int32) (σ : hp_H) (H : Heap) (locs : List Loc) (ls : Array Slot), hp_R G b s.heap σ H locs → f_Tellings_gather_l3 a0 a1 x2 x3 a4 x6 a7 K n x8 σ = some σ' → lv_has ls 9 [(0, .ref a0), (1, .ref a1), (2, .int x2), (3, .int x3), (4, .ref a4), (6, .int x6), (7, .ref a7), (8, .int x8)] → W p l e rm_Tellings_gather s m args below meth c H locs 0 0 (MQ below (hp_Qc G b none σ') args s 0 0 (fun q => b ≤ q)) (F0 m 110 ls []) := by
  obtain ⟨hx, hb, hml, hown, hts⟩ := id hX.1
  intro n
  induction n with
  | zero =>
    intro x8 σ H locs ls hR h hl
    rw [f_Tellings_gather_l3] at h
    cases h
  | succ n ih =>
    intro x8 σ H locs ls hR h hl
    rw [f_Tellings_gather_l3] at h
    refine lv_iload hx hb dX9_gather_110 (lv_at hl 7 rfl) ?_
    refine lv_aload hx hb dX9_gather_112 (lv_at hl 6 rfl) ?_
    refine hp_getI hX hR (ci := 1) 1 rfl wf2 (by decide) wq1_136 dX9_gather_114 h (fun v24 h => ?_)
    refine lv_icmp_ge (tgt := 139) hx hb dX9_gather_117 (by decide) (fun c25 => ?_) (fun c25 => ?_)
    · have h := hp_ip c25 h
      exact hK _ _ _ _ _ hR (lv_sub hl [0, 1, 2, 3, 4, 5] rfl) h
    · have h := hp_in c25 h
      refine lv_aload hx hb dX9_gather_120 (lv_at hl 4 rfl) ?_
      refine lv_aload hx hb dX9_gather_122 (lv_at hl 6 rfl) ?_
      refine hp_getR hX hR (ci := 1) 0 rfl wf2 (by decide) wq1_133 dX9_gather_124 h (fun q26 h => ?_)
      refine lv_iload hx hb dX9_gather_127 (lv_at hl 7 rfl) ?_
      refine hp_iald hX hR dX9_gather_129 h (fun v27 h => ?_)
      refine hp_bn h (fun σ h28 h => ?_)
      refine hp_cv hR (hp_runV (rest := []) (As := [.int v27]) hX hR (c_BoxList_add h28) cs_X9_63 rfl rfl rfl hd_BoxList_add ⟨Nat.le_of_ble_eq_true rfl, Nat.le_of_ble_eq_true rfl⟩ (ci := 1) rfl (hp_own_is h28) rfl hl.1 rfl (Nat.le_of_ble_eq_true rfl) dX9_gather_130 ⟨Nat.le_of_ble_eq_true rfl, Nat.le_of_ble_eq_true rfl⟩) (fun H locs hR => ?_)
      refine lv_iinc (v := (x8 + 1)) (lv' := [(8, .int (x8 + 1)), (0, .ref a0), (1, .ref a1), (2, .int x2), (3, .int x3), (4, .ref a4), (6, .int x6), (7, .ref a7)]) hx hb dX9_gather_133 hl (k := 7) rfl rfl (by decide) rfl (fun ls hl => ?_)
      refine lv_goto (tgt := 110) hx hb dX9_gather_136 (by decide) ?_
      exact ih _ _ _ _ _ hR h (lv_sub hl [1, 2, 3, 4, 5, 6, 7, 0] rfl)
set_option maxHeartbeats 4000000 in
set_option maxRecDepth 100000 in
theorem w_Tellings_gather_l2 {p : Program} {l : Launch} {e : Env} {s : State} {m : MethodId} {args : Array Value} {below : List Frame} {meth : Method} {c : Code} {G : hp_G} {b : Nat} {a0 : Nat} {a1 : Nat} {x2 : Int32} {x3 : Int32} {a4 : Nat} {σ' : hp_H} {K : Int32 → hp_H → Option hp_H} (hX : hp_X G p s m c args cX9_gather 9 RX9) (hlocks : meth.locks = false) (hr : meth.sig.returnType = none)
    (hK : ∀ (x6 : Int32) (σ : hp_H) (H : Heap) (locs : List Loc) (ls : Array Slot), hp_R G b s.heap σ H locs → lv_has ls 9 [(1, .ref a1), (4, .ref a4)] → K x6 σ = some σ' → W p l e rm_Tellings_gather s m args below meth c H locs 0 0 (MQ below (hp_Qc G b none σ') args s 0 0 (fun q => b ≤ q)) (F0 m 145 ls [])) :
    ∀ (n : Nat) (x6 : Int32) (σ : hp_H) (H : Heap) (locs : List Loc) (ls : Array Slot), hp_R G b s.heap σ H locs → f_Tellings_gather_l2 a0 a1 x2 x3 a4 K n x6 σ = some σ' → lv_has ls 9 [(0, .ref a0), (1, .ref a1), (2, .int x2), (3, .int x3), (4, .ref a4), (6, .int x6)] → W p l e rm_Tellings_gather s m args below meth c H locs 0 0 (MQ below (hp_Qc G b none σ') args s 0 0 (fun q => b ≤ q)) (F0 m 69 ls []) := by
  obtain ⟨hx, hb, hml, hown, hts⟩ := id hX.1
  intro n
  induction n with
  | zero =>
    intro x6 σ H locs ls hR h hl
    rw [f_Tellings_gather_l2] at h
    cases h
  | succ n ih =>
    intro x6 σ H locs ls hR h hl
    rw [f_Tellings_gather_l2] at h
    refine lv_iload hx hb dX9_gather_69 (lv_at hl 5 rfl) ?_
    refine lv_aload_n hx hb dX9_gather_71 rfl (lv_at hl 1 rfl) ?_
    refine hp_getI hX hR (ci := 7) 0 rfl wf8 (by decide) wq1_70 dX9_gather_72 h (fun v16 h => ?_)
    refine lv_icmp_ge (tgt := 145) hx hb dX9_gather_75 (by decide) (fun c17 => ?_) (fun c17 => ?_)
    · have h := hp_ip c17 h
      exact hK _ _ _ _ _ hR (lv_sub hl [1, 4] rfl) h
    · have h := hp_in c17 h
      refine lv_iload hx hb dX9_gather_78 (lv_at hl 5 rfl) ?_
      refine lv_iload_n hx hb dX9_gather_80 rfl (lv_at hl 3 rfl) ?_
      refine lv_icmp_eq (tgt := 139) hx hb dX9_gather_81 (by decide) (fun c18 => ?_) (fun c18 => ?_)
      · have h := hp_ip c18 h
        refine lv_iinc (v := (x6 + 1)) (lv' := [(6, .int (x6 + 1)), (0, .ref a0), (1, .ref a1), (2, .int x2), (3, .int x3), (4, .ref a4)]) hx hb dX9_gather_139 hl (k := 5) rfl rfl (by decide) rfl (fun ls hl => ?_)
        refine lv_goto (tgt := 69) hx hb dX9_gather_142 (by decide) ?_
        exact ih _ _ _ _ _ hR h (lv_sub hl [1, 2, 3, 4, 5, 0] rfl)
      · have h := hp_in c18 h
        refine lv_aload_n hx hb dX9_gather_84 rfl (lv_at hl 1 rfl) ?_
        refine lv_iload hx hb dX9_gather_85 (lv_at hl 5 rfl) ?_
        refine lv_iload_n hx hb dX9_gather_87 rfl (lv_at hl 2 rfl) ?_
        refine hp_bn h (fun v20 h19 h => ?_)
        refine hp_ci hR (hp_runV (rest := []) (As := [.int x6, .int x2]) hX hR (c_State_areNeighbours h19) cs_X9_67 rfl rfl rfl hd_State_areNeighbours ⟨Nat.le_of_ble_eq_true rfl, Nat.le_of_ble_eq_true rfl⟩ (ci := 7) rfl (hp_own_is h19) rfl hl.1 rfl (Nat.le_of_ble_eq_true rfl) dX9_gather_88 ⟨Nat.le_of_ble_eq_true rfl, Nat.le_of_ble_eq_true rfl⟩) (fun H locs hR => ?_)
        refine lv_if_ne (tgt := 97) hx hb dX9_gather_91 (by decide) (fun c21 => ?_) (fun c21 => ?_)
        · have h := hp_in c21 h
          refine lv_aload_n hx hb dX9_gather_97 rfl (lv_at hl 0 rfl) ?_
          refine lv_aload_n hx hb dX9_gather_98 rfl (lv_at hl 1 rfl) ?_
          refine lv_iload hx hb dX9_gather_99 (lv_at hl 5 rfl) ?_
          refine lv_iload_n hx hb dX9_gather_101 rfl (lv_at hl 2 rfl) ?_
          refine hp_bn h (fun q23 h22 h => ?_)
          refine hp_cr hR (hp_runV (rest := []) (As := [.ref a1, .int x6, .int x2]) hX hR (c_Tellings_between h22) cs_X9_42 rfl rfl rfl hd_Tellings_between ⟨Nat.le_of_ble_eq_true rfl, Nat.le_of_ble_eq_true rfl⟩ (ci := 8) rfl (hp_own_is h22) rfl hl.1 rfl (Nat.le_of_ble_eq_true rfl) dX9_gather_102 ⟨Nat.le_of_ble_eq_true rfl, Nat.le_of_ble_eq_true rfl⟩) (fun H locs hR => ?_)
          refine lv_astore (lv' := [(7, .ref q23), (0, .ref a0), (1, .ref a1), (2, .int x2), (3, .int x3), (4, .ref a4), (6, .int x6)]) hx hb dX9_gather_105 hl (by decide) rfl (fun ls hl => ?_)
          refine lv_iconst (v := 0) hx hb dX9_gather_107 (by decide) ?_
          refine lv_istore (lv' := [(8, .int 0), (7, .ref q23), (0, .ref a0), (1, .ref a1), (2, .int x2), (3, .int x3), (4, .ref a4), (6, .int x6)]) hx hb dX9_gather_108 hl (by decide) rfl (fun ls hl => ?_)
          refine w_Tellings_gather_l3 hX hlocks hr ?_ hp_F _ _ _ _ _ hR h (lv_sub hl [2, 3, 4, 5, 6, 7, 1, 0] rfl)
          intro z29 σ H locs ls hR hl h
          refine lv_iinc (v := (x6 + 1)) (lv' := [(6, .int (x6 + 1)), (0, .ref a0), (1, .ref a1), (2, .int x2), (3, .int x3), (4, .ref a4)]) hx hb dX9_gather_139 hl (k := 5) rfl rfl (by decide) rfl (fun ls hl => ?_)
          refine lv_goto (tgt := 69) hx hb dX9_gather_142 (by decide) ?_
          exact ih _ _ _ _ _ hR h (lv_sub hl [1, 2, 3, 4, 5, 0] rfl)
        · have h := hp_ip c21 h
          refine lv_goto (tgt := 139) hx hb dX9_gather_94 (by decide) ?_
          refine lv_iinc (v := (x6 + 1)) (lv' := [(6, .int (x6 + 1)), (0, .ref a0), (1, .ref a1), (2, .int x2), (3, .int x3), (4, .ref a4)]) hx hb dX9_gather_139 hl (k := 5) rfl rfl (by decide) rfl (fun ls hl => ?_)
          refine lv_goto (tgt := 69) hx hb dX9_gather_142 (by decide) ?_
          exact ih _ _ _ _ _ hR h (lv_sub hl [1, 2, 3, 4, 5, 0] rfl)
set_option maxHeartbeats 4000000 in
set_option maxRecDepth 100000 in
theorem w_Tellings_gather_l4 {p : Program} {l : Launch} {e : Env} {s : State} {m : MethodId} {args : Array Value} {below : List Frame} {meth : Method} {c : Code} {G : hp_G} {b : Nat} {a1 : Nat} {a4 : Nat} {σ' : hp_H} {K : Int32 → hp_H → Option hp_H} (hX : hp_X G p s m c args cX9_gather 9 RX9) (hlocks : meth.locks = false) (hr : meth.sig.returnType = none)
    (hK : ∀ (x6 : Int32) (σ : hp_H) (H : Heap) (locs : List Loc) (ls : Array Slot), hp_R G b s.heap σ H locs → lv_has ls 9 [] → K x6 σ = some σ' → W p l e rm_Tellings_gather s m args below meth c H locs 0 0 (MQ below (hp_Qc G b none σ') args s 0 0 (fun q => b ≤ q)) (F0 m 183 ls [])) :
    ∀ (n : Nat) (x6 : Int32) (σ : hp_H) (H : Heap) (locs : List Loc) (ls : Array Slot), hp_R G b s.heap σ H locs → f_Tellings_gather_l4 a1 a4 K n x6 σ = some σ' → lv_has ls 9 [(1, .ref a1), (4, .ref a4), (6, .int x6)] → W p l e rm_Tellings_gather s m args below meth c H locs 0 0 (MQ below (hp_Qc G b none σ') args s 0 0 (fun q => b ≤ q)) (F0 m 148 ls []) := by
  obtain ⟨hx, hb, hml, hown, hts⟩ := id hX.1
  intro n
  induction n with
  | zero =>
    intro x6 σ H locs ls hR h hl
    rw [f_Tellings_gather_l4] at h
    cases h
  | succ n ih =>
    intro x6 σ H locs ls hR h hl
    rw [f_Tellings_gather_l4] at h
    refine lv_iload hx hb dX9_gather_148 (lv_at hl 2 rfl) ?_
    refine lv_bipush (v := 12) hx hb dX9_gather_150 (by decide) ?_
    refine lv_icmp_ge (tgt := 183) hx hb dX9_gather_152 (by decide) (fun c31 => ?_) (fun c31 => ?_)
    · have h := hp_ip c31 h
      exact hK _ _ _ _ _ hR (lv_sub hl [] rfl) h
    · have h := hp_in c31 h
      refine lv_aload hx hb dX9_gather_155 (lv_at hl 1 rfl) ?_
      refine hp_getI hX hR (ci := 1) 1 rfl wf2 (by decide) wq1_136 dX9_gather_157 h (fun v32 h => ?_)
      refine lv_aload_n hx hb dX9_gather_160 rfl (lv_at hl 0 rfl) ?_
      refine hp_getI hX hR (ci := 7) 3 rfl wf8 (by decide) wq1_78 dX9_gather_161 h (fun v33 h => ?_)
      refine lv_icmp_le (tgt := 183) hx hb dX9_gather_164 (by decide) (fun c34 => ?_) (fun c34 => ?_)
      · have h := hp_ip c34 h
        exact hK _ _ _ _ _ hR (lv_sub hl [] rfl) h
      · have h := hp_in c34 h
        refine lv_aload hx hb dX9_gather_167 (lv_at hl 1 rfl) ?_
        refine lv_aload hx hb dX9_gather_169 (lv_at hl 1 rfl) ?_
        refine hp_bn h (fun v36 h35 h => ?_)
        refine hp_ci hR (hp_runV (rest := [.ref a4]) (As := []) hX hR (c_BoxList_cheapestJoin h35) cs_X9_76 rfl rfl rfl hd_BoxList_cheapestJoin ⟨Nat.le_of_ble_eq_true rfl, Nat.le_of_ble_eq_true rfl⟩ (ci := 1) rfl (hp_own_is h35) rfl hl.1 rfl (Nat.le_of_ble_eq_true rfl) dX9_gather_171 ⟨Nat.le_of_ble_eq_true rfl, Nat.le_of_ble_eq_true rfl⟩) (fun H locs hR => ?_)
        refine hp_bn h (fun σ h37 h => ?_)
        refine hp_cv hR (hp_runV (rest := []) (As := [.int v36]) hX hR (c_BoxList_add h37) cs_X9_63 rfl rfl rfl hd_BoxList_add ⟨Nat.le_of_ble_eq_true rfl, Nat.le_of_ble_eq_true rfl⟩ (ci := 1) rfl (hp_own_is h37) rfl hl.1 rfl (Nat.le_of_ble_eq_true rfl) dX9_gather_174 ⟨Nat.le_of_ble_eq_true rfl, Nat.le_of_ble_eq_true rfl⟩) (fun H locs hR => ?_)
        refine lv_iinc (v := (x6 + 1)) (lv' := [(6, .int (x6 + 1)), (1, .ref a1), (4, .ref a4)]) hx hb dX9_gather_177 hl (k := 2) rfl rfl (by decide) rfl (fun ls hl => ?_)
        refine lv_goto (tgt := 148) hx hb dX9_gather_180 (by decide) ?_
        exact ih _ _ _ _ _ hR h (lv_sub hl [1, 2, 0] rfl)
set_option maxHeartbeats 4000000 in
set_option maxRecDepth 100000 in
theorem c_Tellings_gather {l : Launch} {G : hp_G} {b : Nat} {σ : hp_H} {a0 : Nat} {a1 : Nat} {x2 : Int32} {x3 : Int32} {σ' : hp_H} (h : f_Tellings_gather a0 a1 x2 x3 σ = some σ') : hp_Met l yX9_gather cX9_gather 9 none rm_Tellings_gather G b [.ref a0, .ref a1, .int x2, .int x3] σ none σ' 0 0 := by
  refine hp_met (by decide +kernel) (Nat.le_of_ble_eq_true rfl) (fun p e s m below meth c ls hX hlocks hr hnm hl hR => ?_)
  obtain ⟨hx, hb, hml, hown, hts⟩ := id hX.1
  have hl : lv_has ls 9 [(0, .ref a0), (1, .ref a1), (2, .int x2), (3, .int x3)] := hl
  unfold f_Tellings_gather at h
  have h := hp_own_to h
  refine lv_aload_n hx hb dX9_gather_0 rfl (lv_at hl 0 rfl) ?_
  refine lv_aload_n hx hb dX9_gather_1 rfl (lv_at hl 1 rfl) ?_
  refine lv_iload_n hx hb dX9_gather_2 rfl (lv_at hl 2 rfl) ?_
  refine lv_iload_n hx hb dX9_gather_3 rfl (lv_at hl 3 rfl) ?_
  refine hp_bn h (fun q2 h1 h => ?_)
  refine hp_cr hR (hp_runV (rest := []) (As := [.ref a1, .int x2, .int x3]) hX hR (c_Tellings_between h1) cs_X9_42 rfl rfl rfl hd_Tellings_between ⟨Nat.le_of_ble_eq_true rfl, Nat.le_of_ble_eq_true rfl⟩ (ci := 8) rfl (hp_own_is h1) rfl hl.1 rfl (Nat.le_of_ble_eq_true rfl) dX9_gather_4 ⟨Nat.le_of_ble_eq_true rfl, Nat.le_of_ble_eq_true rfl⟩) (fun H locs hR => ?_)
  refine lv_astore (lv' := [(4, .ref q2), (0, .ref a0), (1, .ref a1), (2, .int x2), (3, .int x3)]) hx hb dX9_gather_7 hl (by decide) rfl (fun ls hl => ?_)
  refine lv_aload hx hb dX9_gather_9 (lv_at hl 0 rfl) ?_
  refine lv_iconst (v := 0) hx hb dX9_gather_11 (by decide) ?_
  refine hp_putI hX hR (ci := 1) 1 rfl wf2 tyX2_ok nmX2 (by decide) wq1_136 rfl dX9_gather_12 rfl h (fun σ H locs h hR => ?_)
  refine lv_aload_n hx hb dX9_gather_15 rfl (lv_at hl 2 rfl) ?_
  refine lv_aload_n hx hb dX9_gather_16 rfl (lv_at hl 2 rfl) ?_
  refine lv_iload_n hx hb dX9_gather_17 rfl (lv_at hl 3 rfl) ?_
  refine hp_bn h (fun v4 h3 h => ?_)
  refine hp_ci hR (hp_runV (rest := [.ref a1]) (As := [.int x2]) hX hR (c_State_clientsHomeAt h3) cs_X9_46 rfl rfl rfl hd_State_clientsHomeAt ⟨Nat.le_of_ble_eq_true rfl, Nat.le_of_ble_eq_true rfl⟩ (ci := 7) rfl (hp_own_is h3) rfl hl.1 rfl (Nat.le_of_ble_eq_true rfl) dX9_gather_18 ⟨Nat.le_of_ble_eq_true rfl, Nat.le_of_ble_eq_true rfl⟩) (fun H locs hR => ?_)
  refine hp_bn h (fun v6 h5 h => ?_)
  refine hp_ci hR (hp_runV (rest := []) (As := [.int v4]) hX hR (c_State_wishesOf h5) cs_X9_50 rfl rfl rfl hd_State_wishesOf ⟨Nat.le_of_ble_eq_true rfl, Nat.le_of_ble_eq_true rfl⟩ (ci := 7) rfl (hp_own_is h5) rfl hl.1 rfl (Nat.le_of_ble_eq_true rfl) dX9_gather_21 ⟨Nat.le_of_ble_eq_true rfl, Nat.le_of_ble_eq_true rfl⟩) (fun H locs hR => ?_)
  refine lv_istore (lv' := [(5, .int v6), (4, .ref q2), (0, .ref a0), (1, .ref a1), (2, .int x2), (3, .int x3)]) hx hb dX9_gather_24 hl (by decide) rfl (fun ls hl => ?_)
  refine lv_iconst (v := 0) hx hb dX9_gather_26 (by decide) ?_
  refine lv_istore (lv' := [(6, .int 0), (5, .int v6), (4, .ref q2), (0, .ref a0), (1, .ref a1), (2, .int x2), (3, .int x3)]) hx hb dX9_gather_27 hl (by decide) rfl (fun ls hl => ?_)
  refine w_Tellings_gather_l1 hX hlocks hr ?_ hp_F _ _ _ _ _ hR h (lv_sub hl [3, 4, 5, 6, 2, 1, 0] rfl)
  intro z15 σ H locs ls hR hl h
  refine lv_iconst (v := 0) hx hb dX9_gather_66 (by decide) ?_
  refine lv_istore (lv' := [(6, .int 0), (0, .ref a0), (1, .ref a1), (2, .int x2), (3, .int x3), (4, .ref q2)]) hx hb dX9_gather_67 hl (by decide) rfl (fun ls hl => ?_)
  refine w_Tellings_gather_l2 hX hlocks hr ?_ hp_F _ _ _ _ _ hR h (lv_sub hl [1, 2, 3, 4, 5, 0] rfl)
  intro z30 σ H locs ls hR hl h
  refine lv_iconst (v := 0) hx hb dX9_gather_145 (by decide) ?_
  refine lv_istore (lv' := [(6, .int 0), (1, .ref a1), (4, .ref q2)]) hx hb dX9_gather_146 hl (by decide) rfl (fun ls hl => ?_)
  refine w_Tellings_gather_l4 hX hlocks hr ?_ hp_F _ _ _ _ _ hR h (lv_sub hl [1, 2, 0] rfl)
  intro z38 σ H locs ls hR hl h
  exact hp_vret hX hlocks hr hR h dX9_gather_183
theorem cs_X9_38 : hp_WV RX9 38 RX9 yX9_gather cX9_gather 9 none := ⟨wq2_41, wq2_43, wp1_0, wq1_4, wq2_44⟩
/-! Tellings.refresh(LNoticeBoxes$State;)V -/
abbrev rm_Tellings_refresh : Room := { frames := 5, cells := 0, slots := 0, locals := 120 }
theorem hd_Tellings_refresh : hp_d yX9_refresh 1 := by decide +kernel
def f_Tellings_refresh_l1 (a0 : Nat) (a1 : Nat) (K : Int32 → hp_H → Option hp_H) : Nat → Int32 → hp_H → Option hp_H
  | 0, _, _ => none
  | n + 1, x2, σ => if x2 ≤ 0 then (K x2 σ) else ((hp_gR σ a1 7 7).bind fun q5 => (hp_aI σ q5 0 x2).bind fun v6 => (f_Tellings_gather a0 a1 x2 v6 σ).bind fun σ => f_Tellings_refresh_l1 a0 a1 K n (x2 + (-1)) σ)
def f_Tellings_refresh_l2 (a0 : Nat) (a1 : Nat) (K : Int32 → hp_H → Option hp_H) : Nat → Int32 → hp_H → Option hp_H
  | 0, _, _ => none
  | n + 1, x2, σ => (hp_gI σ a1 7 0).bind fun v9 => if v9 ≤ x2 then (K x2 σ) else ((hp_gR σ a1 7 7).bind fun q11 => (hp_aI σ q11 0 x2).bind fun v12 => (f_Tellings_gather a0 a1 v12 x2 σ).bind fun σ => f_Tellings_refresh_l2 a0 a1 K n (x2 + 1) σ)
def f_Tellings_refresh (a0 : Nat) (a1 : Nat) (σ : hp_H) : Option hp_H := hp_own σ a0 8 ((hp_gI σ a0 8 2).bind fun v1 => if v1 = 0 then ((hp_gI σ a1 7 0).bind fun v3 => f_Tellings_refresh_l1 a0 a1 (fun z8 σ => f_Tellings_refresh_l2 a0 a1 (fun z14 σ => (hp_pZ σ a0 8 2 1).bind fun σ => some σ) hp_F 1 σ) hp_F (v3 - 1) σ) else (some σ))
set_option maxHeartbeats 4000000 in
set_option maxRecDepth 100000 in
theorem w_Tellings_refresh_l1 {p : Program} {l : Launch} {e : Env} {s : State} {m : MethodId} {args : Array Value} {below : List Frame} {meth : Method} {c : Code} {G : hp_G} {b : Nat} {a0 : Nat} {a1 : Nat} {σ' : hp_H} {K : Int32 → hp_H → Option hp_H} (hX : hp_X G p s m c args cX9_refresh 3 RX9) (hlocks : meth.locks = false) (hr : meth.sig.returnType = none)
    (hK : ∀ (x2 : Int32) (σ : hp_H) (H : Heap) (locs : List Loc) (ls : Array Slot), hp_R G b s.heap σ H locs → lv_has ls 3 [(0, .ref a0), (1, .ref a1)] → K x2 σ = some σ' → W p l e rm_Tellings_refresh s m args below meth c H locs 0 0 (MQ below (hp_Qc G b none σ') args s 0 0 (fun q => b ≤ q)) (F0 m 37 ls [])) :
    ∀ (n : Nat) (x2 : Int32) (σ : hp_H) (H : Heap) (locs : List Loc) (ls : Array Slot), hp_R G b s.heap σ H locs → f_Tellings_refresh_l1 a0 a1 K n x2 σ = some σ' → lv_has ls 3 [(0, .ref a0), (1, .ref a1), (2, .int x2)] → W p l e rm_Tellings_refresh s m args below meth c H locs 0 0 (MQ below (hp_Qc G b none σ') args s 0 0 (fun q => b ≤ q)) (F0 m 15 ls []) := by
  obtain ⟨hx, hb, hml, hown, hts⟩ := id hX.1
  intro n
  induction n with
  | zero =>
    intro x2 σ H locs ls hR h hl
    rw [f_Tellings_refresh_l1] at h
    cases h
  | succ n ih =>
    intro x2 σ H locs ls hR h hl
    rw [f_Tellings_refresh_l1] at h
    refine lv_iload_n hx hb dX9_refresh_15 rfl (lv_at hl 2 rfl) ?_
    refine lv_if_le (tgt := 37) hx hb dX9_refresh_16 (by decide) (fun c4 => ?_) (fun c4 => ?_)
    · have h := hp_ip c4 h
      exact hK _ _ _ _ _ hR (lv_sub hl [0, 1] rfl) h
    · have h := hp_in c4 h
      refine lv_aload_n hx hb dX9_refresh_19 rfl (lv_at hl 0 rfl) ?_
      refine lv_aload_n hx hb dX9_refresh_20 rfl (lv_at hl 1 rfl) ?_
      refine lv_iload_n hx hb dX9_refresh_21 rfl (lv_at hl 2 rfl) ?_
      refine lv_aload_n hx hb dX9_refresh_22 rfl (lv_at hl 1 rfl) ?_
      refine hp_getR hX hR (ci := 7) 7 rfl wf8 (by decide) wq1_86 dX9_refresh_23 h (fun q5 h => ?_)
      refine lv_iload_n hx hb dX9_refresh_26 rfl (lv_at hl 2 rfl) ?_
      refine hp_iald hX hR dX9_refresh_27 h (fun v6 h => ?_)
      refine hp_bn h (fun σ h7 h => ?_)
      refine hp_cv hR (hp_runV (rest := []) (As := [.ref a1, .int x2, .int v6]) hX hR (c_Tellings_gather h7) cs_X9_38 rfl rfl rfl hd_Tellings_gather ⟨Nat.le_of_ble_eq_true rfl, Nat.le_of_ble_eq_true rfl⟩ (ci := 8) rfl (hp_own_is h7) rfl hl.1 rfl (Nat.le_of_ble_eq_true rfl) dX9_refresh_28 ⟨Nat.le_of_ble_eq_true rfl, Nat.le_of_ble_eq_true rfl⟩) (fun H locs hR => ?_)
      refine lv_iinc (v := (x2 + (-1))) (lv' := [(2, .int (x2 + (-1))), (0, .ref a0), (1, .ref a1)]) hx hb dX9_refresh_31 hl (k := 2) rfl rfl (by decide) rfl (fun ls hl => ?_)
      refine lv_goto (tgt := 15) hx hb dX9_refresh_34 (by decide) ?_
      exact ih _ _ _ _ _ hR h (lv_sub hl [1, 2, 0] rfl)
set_option maxHeartbeats 4000000 in
set_option maxRecDepth 100000 in
theorem w_Tellings_refresh_l2 {p : Program} {l : Launch} {e : Env} {s : State} {m : MethodId} {args : Array Value} {below : List Frame} {meth : Method} {c : Code} {G : hp_G} {b : Nat} {a0 : Nat} {a1 : Nat} {σ' : hp_H} {K : Int32 → hp_H → Option hp_H} (hX : hp_X G p s m c args cX9_refresh 3 RX9) (hlocks : meth.locks = false) (hr : meth.sig.returnType = none)
    (hK : ∀ (x2 : Int32) (σ : hp_H) (H : Heap) (locs : List Loc) (ls : Array Slot), hp_R G b s.heap σ H locs → lv_has ls 3 [(0, .ref a0)] → K x2 σ = some σ' → W p l e rm_Tellings_refresh s m args below meth c H locs 0 0 (MQ below (hp_Qc G b none σ') args s 0 0 (fun q => b ≤ q)) (F0 m 65 ls [])) :
    ∀ (n : Nat) (x2 : Int32) (σ : hp_H) (H : Heap) (locs : List Loc) (ls : Array Slot), hp_R G b s.heap σ H locs → f_Tellings_refresh_l2 a0 a1 K n x2 σ = some σ' → lv_has ls 3 [(0, .ref a0), (1, .ref a1), (2, .int x2)] → W p l e rm_Tellings_refresh s m args below meth c H locs 0 0 (MQ below (hp_Qc G b none σ') args s 0 0 (fun q => b ≤ q)) (F0 m 39 ls []) := by
  obtain ⟨hx, hb, hml, hown, hts⟩ := id hX.1
  intro n
  induction n with
  | zero =>
    intro x2 σ H locs ls hR h hl
    rw [f_Tellings_refresh_l2] at h
    cases h
  | succ n ih =>
    intro x2 σ H locs ls hR h hl
    rw [f_Tellings_refresh_l2] at h
    refine lv_iload_n hx hb dX9_refresh_39 rfl (lv_at hl 2 rfl) ?_
    refine lv_aload_n hx hb dX9_refresh_40 rfl (lv_at hl 1 rfl) ?_
    refine hp_getI hX hR (ci := 7) 0 rfl wf8 (by decide) wq1_70 dX9_refresh_41 h (fun v9 h => ?_)
    refine lv_icmp_ge (tgt := 65) hx hb dX9_refresh_44 (by decide) (fun c10 => ?_) (fun c10 => ?_)
    · have h := hp_ip c10 h
      exact hK _ _ _ _ _ hR (lv_sub hl [0] rfl) h
    · have h := hp_in c10 h
      refine lv_aload_n hx hb dX9_refresh_47 rfl (lv_at hl 0 rfl) ?_
      refine lv_aload_n hx hb dX9_refresh_48 rfl (lv_at hl 1 rfl) ?_
      refine lv_aload_n hx hb dX9_refresh_49 rfl (lv_at hl 1 rfl) ?_
      refine hp_getR hX hR (ci := 7) 7 rfl wf8 (by decide) wq1_86 dX9_refresh_50 h (fun q11 h => ?_)
      refine lv_iload_n hx hb dX9_refresh_53 rfl (lv_at hl 2 rfl) ?_
      refine hp_iald hX hR dX9_refresh_54 h (fun v12 h => ?_)
      refine lv_iload_n hx hb dX9_refresh_55 rfl (lv_at hl 2 rfl) ?_
      refine hp_bn h (fun σ h13 h => ?_)
      refine hp_cv hR (hp_runV (rest := []) (As := [.ref a1, .int v12, .int x2]) hX hR (c_Tellings_gather h13) cs_X9_38 rfl rfl rfl hd_Tellings_gather ⟨Nat.le_of_ble_eq_true rfl, Nat.le_of_ble_eq_true rfl⟩ (ci := 8) rfl (hp_own_is h13) rfl hl.1 rfl (Nat.le_of_ble_eq_true rfl) dX9_refresh_56 ⟨Nat.le_of_ble_eq_true rfl, Nat.le_of_ble_eq_true rfl⟩) (fun H locs hR => ?_)
      refine lv_iinc (v := (x2 + 1)) (lv' := [(2, .int (x2 + 1)), (0, .ref a0), (1, .ref a1)]) hx hb dX9_refresh_59 hl (k := 2) rfl rfl (by decide) rfl (fun ls hl => ?_)
      refine lv_goto (tgt := 39) hx hb dX9_refresh_62 (by decide) ?_
      exact ih _ _ _ _ _ hR h (lv_sub hl [1, 2, 0] rfl)
set_option maxHeartbeats 4000000 in
set_option maxRecDepth 100000 in
theorem c_Tellings_refresh {l : Launch} {G : hp_G} {b : Nat} {σ : hp_H} {a0 : Nat} {a1 : Nat} {σ' : hp_H} (h : f_Tellings_refresh a0 a1 σ = some σ') : hp_Met l yX9_refresh cX9_refresh 3 none rm_Tellings_refresh G b [.ref a0, .ref a1] σ none σ' 0 0 := by
  refine hp_met (by decide +kernel) (Nat.le_of_ble_eq_true rfl) (fun p e s m below meth c ls hX hlocks hr hnm hl hR => ?_)
  obtain ⟨hx, hb, hml, hown, hts⟩ := id hX.1
  have hl : lv_has ls 3 [(0, .ref a0), (1, .ref a1)] := hl
  unfold f_Tellings_refresh at h
  have h := hp_own_to h
  refine lv_aload_n hx hb dX9_refresh_0 rfl (lv_at hl 0 rfl) ?_
  refine hp_getI hX hR (ci := 8) 2 rfl wf9 (by decide) wq1_145 dX9_refresh_1 h (fun v1 h => ?_)
  refine lv_if_eq (tgt := 8) hx hb dX9_refresh_4 (by decide) (fun c2 => ?_) (fun c2 => ?_)
  · have h := hp_ip c2 h
    refine lv_aload_n hx hb dX9_refresh_8 rfl (lv_at hl 1 rfl) ?_
    refine hp_getI hX hR (ci := 7) 0 rfl wf8 (by decide) wq1_70 dX9_refresh_9 h (fun v3 h => ?_)
    refine lv_iconst (v := 1) hx hb dX9_refresh_12 (by decide) ?_
    refine lv_isub hx hb dX9_refresh_13 ?_
    refine lv_istore_n (lv' := [(2, .int (v3 - 1)), (0, .ref a0), (1, .ref a1)]) hx hb dX9_refresh_14 rfl hl (by decide) rfl (fun ls hl => ?_)
    refine w_Tellings_refresh_l1 hX hlocks hr ?_ hp_F _ _ _ _ _ hR h (lv_sub hl [1, 2, 0] rfl)
    intro z8 σ H locs ls hR hl h
    refine lv_iconst (v := 1) hx hb dX9_refresh_37 (by decide) ?_
    refine lv_istore_n (lv' := [(2, .int 1), (0, .ref a0), (1, .ref a1)]) hx hb dX9_refresh_38 rfl hl (by decide) rfl (fun ls hl => ?_)
    refine w_Tellings_refresh_l2 hX hlocks hr ?_ hp_F _ _ _ _ _ hR h (lv_sub hl [1, 2, 0] rfl)
    intro z14 σ H locs ls hR hl h
    refine lv_aload_n hx hb dX9_refresh_65 rfl (lv_at hl 0 rfl) ?_
    refine lv_iconst (v := 1) hx hb dX9_refresh_66 (by decide) ?_
    refine hp_putZ hX hR (ci := 8) 2 rfl wf9 tyX9_ok nmX9 (by decide) wq1_145 rfl dX9_refresh_67 rfl h (fun σ H locs h hR => ?_)
    exact hp_vret hX hlocks hr hR h dX9_refresh_70
  · have h := hp_in c2 h
    exact hp_vret hX hlocks hr hR h dX9_refresh_7
theorem cs_X10_9 : hp_WI RX10 9 yX8_init cX8_init 2 := ⟨wq1_26, wq1_27, wq1_2, wq1_28⟩
theorem cs_X10_18 : hp_WI RX10 18 yX9_init cX9_init 2 := ⟨wq1_121, wq1_122, wq1_4, wq1_123⟩
theorem cs_X10_25 : hp_WIN RX10 25 yX6_init "NoticeBoxes" cX6_init 1 := ⟨by decide +kernel, wq1_156, wq1_6, wq1_157⟩
theorem cs_X10_32 : hp_WI RX10 32 yX7_init cX7_init 2 := ⟨wq1_184, wq1_185, wq1_7, wq1_186⟩
theorem cs_X10_39 : hp_WIN RX10 39 yX0_init "NoticeBoxes" cX0_init 1 := ⟨by decide +kernel, wq1_205, wq1_8, wq1_206⟩
theorem cs_X10_46 : hp_WIN RX10 46 yX4_init "NoticeBoxes" cX4_init 1 := ⟨by decide +kernel, wq1_222, wq1_9, wq1_223⟩
theorem cs_X10_57 : hp_WIN RX10 57 yX5_init "NoticeBoxes" cX5_init 1 := ⟨by decide +kernel, wq1_235, wq1_10, wq1_236⟩
/-! NB.<init>()V -/
abbrev rm_NB_init : Room := { frames := 4, cells := 479, slots := 4286, locals := 74 }
theorem hd_NB_init : hp_d yX10_init 0 := by decide +kernel
def f_NB_init (a0 : Nat) (σ : hp_H) : Option hp_H := hp_own σ a0 9 (hp_nw σ (.inl (7, [.int 0, .int 0, .int 0, .int 0, .int 0, .int 0, .int 0, .null, .null, .null, .null])) fun q1 σ => (f_State_init q1 σ).bind fun σ => (hp_pR σ a0 9 0 q1).bind fun σ => hp_nw σ (.inl (8, [.null, .null, .int 0])) fun q3 σ => (f_Tellings_init q3 σ).bind fun σ => (hp_pR σ a0 9 1 q3).bind fun σ => hp_nw σ (.inl (5, [.null, .int 0, .int 0, .int 0, .int 0])) fun q5 σ => (f_Journey_init q5 σ).bind fun σ => (hp_pR σ a0 9 2 q5).bind fun σ => hp_nw σ (.inl (6, [.null, .int 0, .int 0])) fun q7 σ => (f_Past_init q7 σ).bind fun σ => (hp_pR σ a0 9 3 q7).bind fun σ => hp_nw σ (.inl (0, [.null, .null, .int 0])) fun q9 σ => (f_Book_init q9 σ).bind fun σ => (hp_pR σ a0 9 4 q9).bind fun σ => hp_nw σ (.inl (3, [.int 0])) fun q11 σ => (f_Draws_init q11 σ).bind fun σ => (hp_pR σ a0 9 5 q11).bind fun σ => hp_nw σ (.inr (.inr (4, 2, fun _ => none))) fun q13 σ => (hp_pR σ a0 9 6 q13).bind fun σ => (hp_gR σ a0 9 6).bind fun q14 => hp_nw σ (.inl (4, [.null, .int 0, .int 0])) fun q15 σ => (f_Image_init q15 σ).bind fun σ => (hp_sR σ q14 4 4 0 q15).bind fun σ => (hp_gR σ a0 9 6).bind fun q17 => hp_nw σ (.inl (4, [.null, .int 0, .int 0])) fun q18 σ => (f_Image_init q18 σ).bind fun σ => (hp_sR σ q17 4 4 1 q18).bind fun σ => some σ)
set_option maxHeartbeats 4000000 in
set_option maxRecDepth 100000 in
theorem c_NB_init {l : Launch} {G : hp_G} {b : Nat} {σ : hp_H} {a0 : Nat} {σ' : hp_H} (h : f_NB_init a0 σ = some σ') : hp_Met l yX10_init cX10_init 2 none rm_NB_init G b [.ref a0] σ none σ' 479 4286 := by
  refine hp_met (by decide +kernel) (Nat.le_of_ble_eq_true rfl) (fun p e s m below meth c ls hX hlocks hr hnm hl hR => ?_)
  obtain ⟨hx, hb, hml, hown, hts⟩ := id hX.1
  have hl : lv_has ls 2 [(0, .ref a0)] := hl
  unfold f_NB_init at h
  have h := hp_own_to h
  refine lv_aload_n hx hb dX10_init_0 rfl (lv_at hl 0 rfl) ?_
  refine hp_obj0 hX wq1_21 wq1_22 wq1_23 hl.1 dX10_init_1 (Nat.le_of_ble_eq_true rfl) (Nat.le_of_ble_eq_true rfl) ?_
  refine lv_aload_n hx hb dX10_init_4 rfl (lv_at hl 0 rfl) ?_
  refine hp_newO hX hR (ci := 7) (fs := [.int 0, .int 0, .int 0, .int 0, .int 0, .int 0, .int 0, .null, .null, .null, .null]) rfl wf8 tyX8_ok wq1_24 wq1_25 wq1_2 (by decide +kernel) (Nat.le_of_ble_eq_true rfl) (Nat.le_of_ble_eq_true rfl) dX10_init_5 h (fun q1 σ H h hR => ?_)
  refine lv_dup hx hb dX10_init_8 rfl ?_
  refine hp_bn h (fun σ h2 h => ?_)
  refine hp_cv hR (hp_runI (rest := [.ref q1, .ref a0]) (As := []) hX hR (c_State_init h2) cs_X10_9 rfl rfl rfl hd_State_init ⟨Nat.le_of_ble_eq_true rfl, Nat.le_of_ble_eq_true rfl⟩ rfl hl.1 rfl (Nat.le_of_ble_eq_true rfl) dX10_init_9 ⟨Nat.le_of_ble_eq_true rfl, Nat.le_of_ble_eq_true rfl⟩) (fun H locs hR => ?_)
  refine hp_putR hX hR (ci := 9) 0 rfl wf10 tyX10_ok nmX10 (by decide) wq2_11 rfl hnm rfl dX10_init_12 rfl rfl h (fun σ H locs h hR => ?_)
  refine lv_aload_n hx hb dX10_init_15 rfl (lv_at hl 0 rfl) ?_
  refine hp_newO hX hR (ci := 8) (fs := [.null, .null, .int 0]) rfl wf9 tyX9_ok wq1_119 wq1_120 wq1_4 (by decide +kernel) (Nat.le_of_ble_eq_true rfl) (Nat.le_of_ble_eq_true rfl) dX10_init_16 h (fun q3 σ H h hR => ?_)
  refine lv_dup hx hb dX10_init_19 rfl ?_
  refine hp_bn h (fun σ h4 h => ?_)
  refine hp_cv hR (hp_runI (rest := [.ref q3, .ref a0]) (As := []) hX hR (c_Tellings_init h4) cs_X10_18 rfl rfl rfl hd_Tellings_init ⟨Nat.le_of_ble_eq_true rfl, Nat.le_of_ble_eq_true rfl⟩ rfl hl.1 rfl (Nat.le_of_ble_eq_true rfl) dX10_init_20 ⟨Nat.le_of_ble_eq_true rfl, Nat.le_of_ble_eq_true rfl⟩) (fun H locs hR => ?_)
  refine hp_putR hX hR (ci := 9) 1 rfl wf10 tyX10_ok nmX10 (by decide) wq2_12 rfl hnm rfl dX10_init_23 rfl rfl h (fun σ H locs h hR => ?_)
  refine lv_aload_n hx hb dX10_init_26 rfl (lv_at hl 0 rfl) ?_
  refine hp_newO hX hR (ci := 5) (fs := [.null, .int 0, .int 0, .int 0, .int 0]) rfl wf6 tyX6_ok wq1_153 wq1_154 wq1_6 (by decide +kernel) (Nat.le_of_ble_eq_true rfl) (Nat.le_of_ble_eq_true rfl) dX10_init_27 h (fun q5 σ H h hR => ?_)
  refine lv_dup hx hb dX10_init_30 rfl ?_
  refine hp_bn h (fun σ h6 h => ?_)
  refine hp_cv hR (hp_runIN (rest := [.ref q5, .ref a0]) (As := []) hX hR (c_Journey_init h6) cs_X10_25 rfl rfl rfl hd_Journey_init ⟨Nat.le_of_ble_eq_true rfl, Nat.le_of_ble_eq_true rfl⟩ rfl hl.1 rfl (Nat.le_of_ble_eq_true rfl) dX10_init_31 ⟨Nat.le_of_ble_eq_true rfl, Nat.le_of_ble_eq_true rfl⟩) (fun H locs hR => ?_)
  refine hp_putR hX hR (ci := 9) 2 rfl wf10 tyX10_ok nmX10 (by decide) wq2_13 rfl hnm rfl dX10_init_34 rfl rfl h (fun σ H locs h hR => ?_)
  refine lv_aload_n hx hb dX10_init_37 rfl (lv_at hl 0 rfl) ?_
  refine hp_newO hX hR (ci := 6) (fs := [.null, .int 0, .int 0]) rfl wf7 tyX7_ok wq1_182 wq1_183 wq1_7 (by decide +kernel) (Nat.le_of_ble_eq_true rfl) (Nat.le_of_ble_eq_true rfl) dX10_init_38 h (fun q7 σ H h hR => ?_)
  refine lv_dup hx hb dX10_init_41 rfl ?_
  refine hp_bn h (fun σ h8 h => ?_)
  refine hp_cv hR (hp_runI (rest := [.ref q7, .ref a0]) (As := []) hX hR (c_Past_init h8) cs_X10_32 rfl rfl rfl hd_Past_init ⟨Nat.le_of_ble_eq_true rfl, Nat.le_of_ble_eq_true rfl⟩ rfl hl.1 rfl (Nat.le_of_ble_eq_true rfl) dX10_init_42 ⟨Nat.le_of_ble_eq_true rfl, Nat.le_of_ble_eq_true rfl⟩) (fun H locs hR => ?_)
  refine hp_putR hX hR (ci := 9) 3 rfl wf10 tyX10_ok nmX10 (by decide) wq2_14 rfl hnm rfl dX10_init_45 rfl rfl h (fun σ H locs h hR => ?_)
  refine lv_aload_n hx hb dX10_init_48 rfl (lv_at hl 0 rfl) ?_
  refine hp_newO hX hR (ci := 0) (fs := [.null, .null, .int 0]) rfl wf0 tyX0_ok wq1_202 wq1_203 wq1_8 (by decide +kernel) (Nat.le_of_ble_eq_true rfl) (Nat.le_of_ble_eq_true rfl) dX10_init_49 h (fun q9 σ H h hR => ?_)
  refine lv_dup hx hb dX10_init_52 rfl ?_
  refine hp_bn h (fun σ h10 h => ?_)
  refine hp_cv hR (hp_runIN (rest := [.ref q9, .ref a0]) (As := []) hX hR (c_Book_init h10) cs_X10_39 rfl rfl rfl hd_Book_init ⟨Nat.le_of_ble_eq_true rfl, Nat.le_of_ble_eq_true rfl⟩ rfl hl.1 rfl (Nat.le_of_ble_eq_true rfl) dX10_init_53 ⟨Nat.le_of_ble_eq_true rfl, Nat.le_of_ble_eq_true rfl⟩) (fun H locs hR => ?_)
  refine hp_putR hX hR (ci := 9) 4 rfl wf10 tyX10_ok nmX10 (by decide) wq2_15 rfl hnm rfl dX10_init_56 rfl rfl h (fun σ H locs h hR => ?_)
  refine lv_aload_n hx hb dX10_init_59 rfl (lv_at hl 0 rfl) ?_
  refine hp_newO hX hR (ci := 3) (fs := [.int 0]) rfl wf4 tyX4_ok wq1_219 wq1_220 wq1_9 (by decide +kernel) (Nat.le_of_ble_eq_true rfl) (Nat.le_of_ble_eq_true rfl) dX10_init_60 h (fun q11 σ H h hR => ?_)
  refine lv_dup hx hb dX10_init_63 rfl ?_
  refine hp_bn h (fun σ h12 h => ?_)
  refine hp_cv hR (hp_runIN (rest := [.ref q11, .ref a0]) (As := []) hX hR (c_Draws_init h12) cs_X10_46 rfl rfl rfl hd_Draws_init ⟨Nat.le_of_ble_eq_true rfl, Nat.le_of_ble_eq_true rfl⟩ rfl hl.1 rfl (Nat.le_of_ble_eq_true rfl) dX10_init_64 ⟨Nat.le_of_ble_eq_true rfl, Nat.le_of_ble_eq_true rfl⟩) (fun H locs hR => ?_)
  refine hp_putR hX hR (ci := 9) 5 rfl wf10 tyX10_ok nmX10 (by decide) wq2_16 rfl hnm rfl dX10_init_67 rfl rfl h (fun σ H locs h hR => ?_)
  refine lv_aload_n hx hb dX10_init_70 rfl (lv_at hl 0 rfl) ?_
  refine lv_iconst (v := 2) hx hb dX10_init_71 (by decide) ?_
  refine hp_newR hX hR 4 rfl (by decide) wq1_231 2 (by decide) (by decide) (Nat.le_of_ble_eq_true rfl) (Nat.le_of_ble_eq_true rfl) (Nat.le_of_ble_eq_true rfl) dX10_init_72 h (fun q13 σ H h hR => ?_)
  refine hp_putR hX hR (ci := 9) 6 rfl wf10 tyX10_ok nmX10 (by decide) wq2_17 rfl hnm rfl dX10_init_75 rfl rfl h (fun σ H locs h hR => ?_)
  refine lv_iconst (v := 0) hx hb dX10_init_78 (by decide) ?_
  refine lv_istore_n (lv' := [(1, .int 0), (0, .ref a0)]) hx hb dX10_init_79 rfl hl (by decide) rfl (fun ls hl => ?_)
  refine lv_iload_n hx hb dX10_init_80 rfl (lv_at hl 0 rfl) ?_
  refine lv_iconst (v := 2) hx hb dX10_init_81 (by decide) ?_
  refine lv_icmp_ge (tgt := 104) hx hb dX10_init_82 (by decide) (fun cz => absurd cz (by decide)) (fun _ => ?_)
  refine lv_aload_n hx hb dX10_init_85 rfl (lv_at hl 1 rfl) ?_
  refine hp_getR hX hR (ci := 9) 6 rfl wf10 (by decide) wq2_17 dX10_init_86 h (fun q14 h => ?_)
  refine lv_iload_n hx hb dX10_init_89 rfl (lv_at hl 0 rfl) ?_
  refine hp_newO hX hR (ci := 4) (fs := [.null, .int 0, .int 0]) rfl wf5 tyX5_ok wq1_231 wq1_233 wq1_10 (by decide +kernel) (Nat.le_of_ble_eq_true rfl) (Nat.le_of_ble_eq_true rfl) dX10_init_90 h (fun q15 σ H h hR => ?_)
  refine lv_dup hx hb dX10_init_93 rfl ?_
  refine hp_bn h (fun σ h16 h => ?_)
  refine hp_cv hR (hp_runIN (rest := [.ref q15, .int 0, .ref q14]) (As := []) hX hR (c_Image_init h16) cs_X10_57 rfl rfl rfl hd_Image_init ⟨Nat.le_of_ble_eq_true rfl, Nat.le_of_ble_eq_true rfl⟩ rfl hl.1 rfl (Nat.le_of_ble_eq_true rfl) dX10_init_94 ⟨Nat.le_of_ble_eq_true rfl, Nat.le_of_ble_eq_true rfl⟩) (fun H locs hR => ?_)
  refine hp_aast hX hR 4 4 rfl rfl dX10_init_97 h (fun σ H locs h hR => ?_)
  refine lv_iinc (v := 1) (lv' := [(1, .int 1), (0, .ref a0)]) hx hb dX10_init_98 hl (k := 0) rfl (by decide) (by decide) rfl (fun ls hl => ?_)
  refine lv_goto (tgt := 80) hx hb dX10_init_101 (by decide) ?_
  refine lv_iload_n hx hb dX10_init_80 rfl (lv_at hl 0 rfl) ?_
  refine lv_iconst (v := 2) hx hb dX10_init_81 (by decide) ?_
  refine lv_icmp_ge (tgt := 104) hx hb dX10_init_82 (by decide) (fun cz => absurd cz (by decide)) (fun _ => ?_)
  refine lv_aload_n hx hb dX10_init_85 rfl (lv_at hl 1 rfl) ?_
  refine hp_getR hX hR (ci := 9) 6 rfl wf10 (by decide) wq2_17 dX10_init_86 h (fun q17 h => ?_)
  refine lv_iload_n hx hb dX10_init_89 rfl (lv_at hl 0 rfl) ?_
  refine hp_newO hX hR (ci := 4) (fs := [.null, .int 0, .int 0]) rfl wf5 tyX5_ok wq1_231 wq1_233 wq1_10 (by decide +kernel) (Nat.le_of_ble_eq_true rfl) (Nat.le_of_ble_eq_true rfl) dX10_init_90 h (fun q18 σ H h hR => ?_)
  refine lv_dup hx hb dX10_init_93 rfl ?_
  refine hp_bn h (fun σ h19 h => ?_)
  refine hp_cv hR (hp_runIN (rest := [.ref q18, .int 1, .ref q17]) (As := []) hX hR (c_Image_init h19) cs_X10_57 rfl rfl rfl hd_Image_init ⟨Nat.le_of_ble_eq_true rfl, Nat.le_of_ble_eq_true rfl⟩ rfl hl.1 rfl (Nat.le_of_ble_eq_true rfl) dX10_init_94 ⟨Nat.le_of_ble_eq_true rfl, Nat.le_of_ble_eq_true rfl⟩) (fun H locs hR => ?_)
  refine hp_aast hX hR 4 4 rfl rfl dX10_init_97 h (fun σ H locs h hR => ?_)
  refine lv_iinc (v := 2) (lv' := [(1, .int 2), (0, .ref a0)]) hx hb dX10_init_98 hl (k := 0) rfl (by decide) (by decide) rfl (fun ls hl => ?_)
  refine lv_goto (tgt := 80) hx hb dX10_init_101 (by decide) ?_
  refine lv_iload_n hx hb dX10_init_80 rfl (lv_at hl 0 rfl) ?_
  refine lv_iconst (v := 2) hx hb dX10_init_81 (by decide) ?_
  refine lv_icmp_ge (tgt := 104) hx hb dX10_init_82 (by decide) (fun _ => ?_) (fun cz => absurd cz (by decide))
  exact hp_vret hX hlocks hr hR h dX10_init_104
theorem cs_X10_74 : hp_WV RX10 74 RX9 yX9_refresh cX9_refresh 3 none := ⟨wq2_37, wq2_38, wq2_39, wq1_4, wq2_40⟩
theorem cs_X10_78 : hp_WV RX10 78 RX9 yX9_countAll cX9_countAll 4 (some .int) := ⟨wq2_123, wq2_124, wq2_125, wq1_4, wq2_126⟩
theorem cs_X10_91 : hp_WV RX10 91 RX0 yX0_firstWrong cX0_firstWrong 4 (some .int) := ⟨wq2_127, wq2_128, wq2_129, wq1_8, wq2_130⟩
/-! NB.told(I)I -/
abbrev rm_NB_told : Room := { frames := 6, cells := 0, slots := 0, locals := 142 }
theorem hd_NB_told : hp_d yX10_told 1 := by decide +kernel
def f_NB_told (a0 : Nat) (x1 : Int32) (σ : hp_H) : Option (Int32 × hp_H) := hp_own σ a0 9 (if x1 = 0 then ((hp_gR σ a0 9 0).bind fun q2 => (hp_gI σ q2 7 0).bind fun v3 => some (v3, σ)) else (if x1 = 1 then ((hp_gR σ a0 9 0).bind fun q5 => (hp_gI σ q5 7 1).bind fun v6 => some (v6, σ)) else (if x1 = 2 then ((hp_gR σ a0 9 0).bind fun q8 => (hp_gI σ q8 7 2).bind fun v9 => some (v9, σ)) else (if x1 = 3 then ((hp_gR σ a0 9 0).bind fun q11 => (hp_gI σ q11 7 3).bind fun v12 => some (v12, σ)) else (if x1 = 4 then ((hp_gR σ a0 9 0).bind fun q14 => (hp_gI σ q14 7 4).bind fun v15 => some (v15, σ)) else (if x1 = 5 then ((hp_gR σ a0 9 1).bind fun q17 => (hp_gR σ a0 9 0).bind fun q18 => (f_Tellings_refresh q17 q18 σ).bind fun σ => (hp_gR σ a0 9 1).bind fun q20 => (hp_gR σ a0 9 0).bind fun q21 => (f_Tellings_countAll q20 q21 σ).bind fun v23 => some (v23, σ)) else (if x1 = 6 then ((hp_gR σ a0 9 0).bind fun q25 => (hp_gI σ q25 7 5).bind fun v26 => some (v26, σ)) else (if x1 = 7 then ((hp_gR σ a0 9 0).bind fun q28 => (hp_gI σ q28 7 6).bind fun v29 => some (v29, σ)) else (if x1 = 8 then ((hp_gR σ a0 9 4).bind fun q31 => (hp_gI σ q31 0 2).bind fun v32 => some (v32, σ)) else (if x1 = 9 then ((hp_gR σ a0 9 4).bind fun q34 => (hp_gR σ a0 9 0).bind fun q35 => (f_Book_firstWrong q34 q35 σ).bind fun v37 => some (v37, σ)) else (if x1 = 10 then ((hp_gR σ a0 9 3).bind fun q39 => (hp_gI σ q39 6 2).bind fun v40 => some (v40, σ)) else (if x1 = 11 then ((hp_gR σ a0 9 5).bind fun q42 => (hp_gI σ q42 3 0).bind fun v43 => some (v43, σ)) else (some ((-1000000002), σ))))))))))))))
set_option maxHeartbeats 4000000 in
set_option maxRecDepth 100000 in
theorem c_NB_told {l : Launch} {G : hp_G} {b : Nat} {σ : hp_H} {a0 : Nat} {x1 : Int32} {r : Int32} {σ' : hp_H} (h : f_NB_told a0 x1 σ = some (r, σ')) : hp_Met l yX10_told cX10_told 2 (some .int) rm_NB_told G b [.ref a0, .int x1] σ (some (.int r)) σ' 0 0 := by
  refine hp_met (by decide +kernel) (Nat.le_of_ble_eq_true rfl) (fun p e s m below meth c ls hX hlocks hr hnm hl hR => ?_)
  obtain ⟨hx, hb, hml, hown, hts⟩ := id hX.1
  have hl : lv_has ls 2 [(0, .ref a0), (1, .int x1)] := hl
  unfold f_NB_told at h
  have h := hp_own_to h
  refine lv_iload_n hx hb dX10_told_0 rfl (lv_at hl 1 rfl) ?_
  rcases Decidable.em (x1 = 0) with c1 | c1
  · have h := hp_ip c1 h
    refine lv_tableIn (off := 63) (tgt := 64) hx hb dX10_told_1 (by rw [c1]; decide) (by rw [c1]; decide) (by rw [c1]; decide) (by decide) ?_
    refine lv_aload_n hx hb dX10_told_64 rfl (lv_at hl 0 rfl) ?_
    refine hp_getR hX hR (ci := 9) 0 rfl wf10 (by decide) wq2_11 dX10_told_65 h (fun q2 h => ?_)
    refine hp_getI hX hR (ci := 7) 0 rfl wf8 (by decide) wq1_68 dX10_told_68 h (fun v3 h => ?_)
    exact hp_iret hX hlocks hr hR h dX10_told_71
  · have h := hp_in c1 h
    rcases Decidable.em (x1 = 1) with c4 | c4
    · have h := hp_ip c4 h
      refine lv_tableIn (off := 71) (tgt := 72) hx hb dX10_told_1 (by rw [c4]; decide) (by rw [c4]; decide) (by rw [c4]; decide) (by decide) ?_
      refine lv_aload_n hx hb dX10_told_72 rfl (lv_at hl 0 rfl) ?_
      refine hp_getR hX hR (ci := 9) 0 rfl wf10 (by decide) wq2_11 dX10_told_73 h (fun q5 h => ?_)
      refine hp_getI hX hR (ci := 7) 1 rfl wf8 (by decide) wq1_72 dX10_told_76 h (fun v6 h => ?_)
      exact hp_iret hX hlocks hr hR h dX10_told_79
    · have h := hp_in c4 h
      rcases Decidable.em (x1 = 2) with c7 | c7
      · have h := hp_ip c7 h
        refine lv_tableIn (off := 79) (tgt := 80) hx hb dX10_told_1 (by rw [c7]; decide) (by rw [c7]; decide) (by rw [c7]; decide) (by decide) ?_
        refine lv_aload_n hx hb dX10_told_80 rfl (lv_at hl 0 rfl) ?_
        refine hp_getR hX hR (ci := 9) 0 rfl wf10 (by decide) wq2_11 dX10_told_81 h (fun q8 h => ?_)
        refine hp_getI hX hR (ci := 7) 2 rfl wf8 (by decide) wq1_74 dX10_told_84 h (fun v9 h => ?_)
        exact hp_iret hX hlocks hr hR h dX10_told_87
      · have h := hp_in c7 h
        rcases Decidable.em (x1 = 3) with c10 | c10
        · have h := hp_ip c10 h
          refine lv_tableIn (off := 87) (tgt := 88) hx hb dX10_told_1 (by rw [c10]; decide) (by rw [c10]; decide) (by rw [c10]; decide) (by decide) ?_
          refine lv_aload_n hx hb dX10_told_88 rfl (lv_at hl 0 rfl) ?_
          refine hp_getR hX hR (ci := 9) 0 rfl wf10 (by decide) wq2_11 dX10_told_89 h (fun q11 h => ?_)
          refine hp_getI hX hR (ci := 7) 3 rfl wf8 (by decide) wq1_77 dX10_told_92 h (fun v12 h => ?_)
          exact hp_iret hX hlocks hr hR h dX10_told_95
        · have h := hp_in c10 h
          rcases Decidable.em (x1 = 4) with c13 | c13
          · have h := hp_ip c13 h
            refine lv_tableIn (off := 95) (tgt := 96) hx hb dX10_told_1 (by rw [c13]; decide) (by rw [c13]; decide) (by rw [c13]; decide) (by decide) ?_
            refine lv_aload_n hx hb dX10_told_96 rfl (lv_at hl 0 rfl) ?_
            refine hp_getR hX hR (ci := 9) 0 rfl wf10 (by decide) wq2_11 dX10_told_97 h (fun q14 h => ?_)
            refine hp_getI hX hR (ci := 7) 4 rfl wf8 (by decide) wq1_80 dX10_told_100 h (fun v15 h => ?_)
            exact hp_iret hX hlocks hr hR h dX10_told_103
          · have h := hp_in c13 h
            rcases Decidable.em (x1 = 5) with c16 | c16
            · have h := hp_ip c16 h
              refine lv_tableIn (off := 103) (tgt := 104) hx hb dX10_told_1 (by rw [c16]; decide) (by rw [c16]; decide) (by rw [c16]; decide) (by decide) ?_
              refine lv_aload_n hx hb dX10_told_104 rfl (lv_at hl 0 rfl) ?_
              refine hp_getR hX hR (ci := 9) 1 rfl wf10 (by decide) wq2_12 dX10_told_105 h (fun q17 h => ?_)
              refine lv_aload_n hx hb dX10_told_108 rfl (lv_at hl 0 rfl) ?_
              refine hp_getR hX hR (ci := 9) 0 rfl wf10 (by decide) wq2_11 dX10_told_109 h (fun q18 h => ?_)
              refine hp_bn h (fun σ h19 h => ?_)
              refine hp_cv hR (hp_runV (rest := []) (As := [.ref q18]) hX hR (c_Tellings_refresh h19) cs_X10_74 rfl rfl rfl hd_Tellings_refresh ⟨Nat.le_of_ble_eq_true rfl, Nat.le_of_ble_eq_true rfl⟩ (ci := 8) rfl (hp_own_is h19) rfl hl.1 rfl (Nat.le_of_ble_eq_true rfl) dX10_told_112 ⟨Nat.le_of_ble_eq_true rfl, Nat.le_of_ble_eq_true rfl⟩) (fun H locs hR => ?_)
              refine lv_aload_n hx hb dX10_told_115 rfl (lv_at hl 0 rfl) ?_
              refine hp_getR hX hR (ci := 9) 1 rfl wf10 (by decide) wq2_12 dX10_told_116 h (fun q20 h => ?_)
              refine lv_aload_n hx hb dX10_told_119 rfl (lv_at hl 0 rfl) ?_
              refine hp_getR hX hR (ci := 9) 0 rfl wf10 (by decide) wq2_11 dX10_told_120 h (fun q21 h => ?_)
              refine hp_bn h (fun v23 h22 h => ?_)
              refine hp_ci hR (hp_runV (rest := []) (As := [.ref q21]) hX hR (c_Tellings_countAll h22) cs_X10_78 rfl rfl rfl hd_Tellings_countAll ⟨Nat.le_of_ble_eq_true rfl, Nat.le_of_ble_eq_true rfl⟩ (ci := 8) rfl (hp_own_is h22) rfl hl.1 rfl (Nat.le_of_ble_eq_true rfl) dX10_told_123 ⟨Nat.le_of_ble_eq_true rfl, Nat.le_of_ble_eq_true rfl⟩) (fun H locs hR => ?_)
              exact hp_iret hX hlocks hr hR h dX10_told_126
            · have h := hp_in c16 h
              rcases Decidable.em (x1 = 6) with c24 | c24
              · have h := hp_ip c24 h
                refine lv_tableIn (off := 126) (tgt := 127) hx hb dX10_told_1 (by rw [c24]; decide) (by rw [c24]; decide) (by rw [c24]; decide) (by decide) ?_
                refine lv_aload_n hx hb dX10_told_127 rfl (lv_at hl 0 rfl) ?_
                refine hp_getR hX hR (ci := 9) 0 rfl wf10 (by decide) wq2_11 dX10_told_128 h (fun q25 h => ?_)
                refine hp_getI hX hR (ci := 7) 5 rfl wf8 (by decide) wq1_82 dX10_told_131 h (fun v26 h => ?_)
                exact hp_iret hX hlocks hr hR h dX10_told_134
              · have h := hp_in c24 h
                rcases Decidable.em (x1 = 7) with c27 | c27
                · have h := hp_ip c27 h
                  refine lv_tableIn (off := 134) (tgt := 135) hx hb dX10_told_1 (by rw [c27]; decide) (by rw [c27]; decide) (by rw [c27]; decide) (by decide) ?_
                  refine lv_aload_n hx hb dX10_told_135 rfl (lv_at hl 0 rfl) ?_
                  refine hp_getR hX hR (ci := 9) 0 rfl wf10 (by decide) wq2_11 dX10_told_136 h (fun q28 h => ?_)
                  refine hp_getI hX hR (ci := 7) 6 rfl wf8 (by decide) wq1_84 dX10_told_139 h (fun v29 h => ?_)
                  exact hp_iret hX hlocks hr hR h dX10_told_142
                · have h := hp_in c27 h
                  rcases Decidable.em (x1 = 8) with c30 | c30
                  · have h := hp_ip c30 h
                    refine lv_tableIn (off := 142) (tgt := 143) hx hb dX10_told_1 (by rw [c30]; decide) (by rw [c30]; decide) (by rw [c30]; decide) (by decide) ?_
                    refine lv_aload_n hx hb dX10_told_143 rfl (lv_at hl 0 rfl) ?_
                    refine hp_getR hX hR (ci := 9) 4 rfl wf10 (by decide) wq2_15 dX10_told_144 h (fun q31 h => ?_)
                    refine hp_getI hX hR (ci := 0) 2 rfl wf0 (by decide) wq1_211 dX10_told_147 h (fun v32 h => ?_)
                    exact hp_iret hX hlocks hr hR h dX10_told_150
                  · have h := hp_in c30 h
                    rcases Decidable.em (x1 = 9) with c33 | c33
                    · have h := hp_ip c33 h
                      refine lv_tableIn (off := 150) (tgt := 151) hx hb dX10_told_1 (by rw [c33]; decide) (by rw [c33]; decide) (by rw [c33]; decide) (by decide) ?_
                      refine lv_aload_n hx hb dX10_told_151 rfl (lv_at hl 0 rfl) ?_
                      refine hp_getR hX hR (ci := 9) 4 rfl wf10 (by decide) wq2_15 dX10_told_152 h (fun q34 h => ?_)
                      refine lv_aload_n hx hb dX10_told_155 rfl (lv_at hl 0 rfl) ?_
                      refine hp_getR hX hR (ci := 9) 0 rfl wf10 (by decide) wq2_11 dX10_told_156 h (fun q35 h => ?_)
                      refine hp_bn h (fun v37 h36 h => ?_)
                      refine hp_ci hR (hp_runV (rest := []) (As := [.ref q35]) hX hR (c_Book_firstWrong h36) cs_X10_91 rfl rfl rfl hd_Book_firstWrong ⟨Nat.le_of_ble_eq_true rfl, Nat.le_of_ble_eq_true rfl⟩ (ci := 0) rfl (hp_own_is h36) rfl hl.1 rfl (Nat.le_of_ble_eq_true rfl) dX10_told_159 ⟨Nat.le_of_ble_eq_true rfl, Nat.le_of_ble_eq_true rfl⟩) (fun H locs hR => ?_)
                      exact hp_iret hX hlocks hr hR h dX10_told_162
                    · have h := hp_in c33 h
                      rcases Decidable.em (x1 = 10) with c38 | c38
                      · have h := hp_ip c38 h
                        refine lv_tableIn (off := 162) (tgt := 163) hx hb dX10_told_1 (by rw [c38]; decide) (by rw [c38]; decide) (by rw [c38]; decide) (by decide) ?_
                        refine lv_aload_n hx hb dX10_told_163 rfl (lv_at hl 0 rfl) ?_
                        refine hp_getR hX hR (ci := 9) 3 rfl wf10 (by decide) wq2_14 dX10_told_164 h (fun q39 h => ?_)
                        refine hp_getI hX hR (ci := 6) 2 rfl wf7 (by decide) wq1_194 dX10_told_167 h (fun v40 h => ?_)
                        exact hp_iret hX hlocks hr hR h dX10_told_170
                      · have h := hp_in c38 h
                        rcases Decidable.em (x1 = 11) with c41 | c41
                        · have h := hp_ip c41 h
                          refine lv_tableIn (off := 170) (tgt := 171) hx hb dX10_told_1 (by rw [c41]; decide) (by rw [c41]; decide) (by rw [c41]; decide) (by decide) ?_
                          refine lv_aload_n hx hb dX10_told_171 rfl (lv_at hl 0 rfl) ?_
                          refine hp_getR hX hR (ci := 9) 5 rfl wf10 (by decide) wq2_16 dX10_told_172 h (fun q42 h => ?_)
                          refine hp_getI hX hR (ci := 3) 0 rfl wf4 (by decide) wq1_227 dX10_told_175 h (fun v43 h => ?_)
                          exact hp_iret hX hlocks hr hR h dX10_told_178
                        · have h := hp_in c41 h
                          refine lv_tableOut (tgt := 179) hx hb dX10_told_1 (by have := lv_neT (a := 0) c1 rfl; have := lv_neT (a := 1) c4 rfl; have := lv_neT (a := 2) c7 rfl; have := lv_neT (a := 3) c10 rfl; have := lv_neT (a := 4) c13 rfl; have := lv_neT (a := 5) c16 rfl; have := lv_neT (a := 6) c24 rfl; have := lv_neT (a := 7) c27 rfl; have := lv_neT (a := 8) c30 rfl; have := lv_neT (a := 9) c33 rfl; have := lv_neT (a := 10) c38 rfl; have := lv_neT (a := 11) c41 rfl; omega) (by decide) ?_
                          refine lv_ldc (v := (-1000000002)) hx hb hown (hts _ wq2_135) dX10_told_179 ?_
                          exact hp_iret hX hlocks hr hR h dX10_told_181
theorem cs_X10_99 : hp_WV RX10 99 RX8 yX8_hasBroker cX8_hasBroker 2 (some .boolean) := ⟨wq2_140, wq2_91, wq2_92, wq1_2, wq2_93⟩
theorem cs_X10_108 : hp_WV RX10 108 RX8 yX8_neighboursOf cX8_neighboursOf 4 (some .int) := ⟨wq2_142, wq2_143, wq2_144, wq1_2, wq2_145⟩
theorem cs_X10_112 : hp_WV RX10 112 RX8 yX8_clientsHomeAt cX8_clientsHomeAt 4 (some .int) := ⟨wq2_147, wq2_50, wq2_51, wq1_2, wq2_52⟩
theorem cs_X10_115 : hp_WV RX10 115 RX8 yX8_wishesOf cX8_wishesOf 4 (some .int) := ⟨wq2_148, wq2_54, wq2_55, wq1_2, wq2_56⟩
/-! NB.brokerAt(II)I -/
abbrev rm_NB_brokerAt : Room := { frames := 4, cells := 0, slots := 0, locals := 88 }
theorem hd_NB_brokerAt : hp_d yX10_brokerAt 2 := by decide +kernel
def f_NB_brokerAt (a0 : Nat) (x1 : Int32) (x2 : Int32) (σ : hp_H) : Option Int32 := hp_own σ a0 9 ((hp_gR σ a0 9 0).bind fun q1 => (f_State_hasBroker q1 x1 σ).bind fun v3 => if v3 = 0 then (some (-1000000001)) else (if x2 = 0 then ((hp_gR σ a0 9 0).bind fun q6 => (hp_gR σ q6 7 7).bind fun q7 => (hp_aI σ q7 0 x1).bind fun v8 => some v8) else (if x2 = 1 then ((hp_gR σ a0 9 0).bind fun q10 => (f_State_neighboursOf q10 x1 σ).bind fun v12 => some v12) else (if x2 = 2 then ((hp_gR σ a0 9 0).bind fun q14 => (f_State_clientsHomeAt q14 x1 σ).bind fun v16 => some v16) else (if x2 = 3 then ((hp_gR σ a0 9 0).bind fun q18 => (hp_gR σ a0 9 0).bind fun q19 => (f_State_clientsHomeAt q19 x1 σ).bind fun v21 => (f_State_wishesOf q18 v21 σ).bind fun v23 => some v23) else (some (-1000000002)))))))
set_option maxHeartbeats 4000000 in
set_option maxRecDepth 100000 in
theorem c_NB_brokerAt {l : Launch} {G : hp_G} {b : Nat} {σ : hp_H} {a0 : Nat} {x1 : Int32} {x2 : Int32} {r : Int32} (h : f_NB_brokerAt a0 x1 x2 σ = some r) : hp_Met l yX10_brokerAt cX10_brokerAt 3 (some .int) rm_NB_brokerAt G b [.ref a0, .int x1, .int x2] σ (some (.int r)) σ 0 0 := by
  refine hp_met (by decide +kernel) (Nat.le_of_ble_eq_true rfl) (fun p e s m below meth c ls hX hlocks hr hnm hl hR => ?_)
  obtain ⟨hx, hb, hml, hown, hts⟩ := id hX.1
  have hl : lv_has ls 3 [(0, .ref a0), (1, .int x1), (2, .int x2)] := hl
  unfold f_NB_brokerAt at h
  have h := hp_own_to h
  refine lv_aload_n hx hb dX10_brokerAt_0 rfl (lv_at hl 0 rfl) ?_
  refine hp_getR hX hR (ci := 9) 0 rfl wf10 (by decide) wq2_11 dX10_brokerAt_1 h (fun q1 h => ?_)
  refine lv_iload_n hx hb dX10_brokerAt_4 rfl (lv_at hl 1 rfl) ?_
  refine hp_bn h (fun v3 h2 h => ?_)
  refine hp_ci hR (hp_runV (rest := []) (As := [.int x1]) hX hR (c_State_hasBroker h2) cs_X10_99 rfl rfl rfl hd_State_hasBroker ⟨Nat.le_of_ble_eq_true rfl, Nat.le_of_ble_eq_true rfl⟩ (ci := 7) rfl (hp_own_is h2) rfl hl.1 rfl (Nat.le_of_ble_eq_true rfl) dX10_brokerAt_5 ⟨Nat.le_of_ble_eq_true rfl, Nat.le_of_ble_eq_true rfl⟩) (fun H locs hR => ?_)
  refine lv_if_ne (tgt := 14) hx hb dX10_brokerAt_8 (by decide) (fun c4 => ?_) (fun c4 => ?_)
  · have h := hp_in c4 h
    refine lv_iload_n hx hb dX10_brokerAt_14 rfl (lv_at hl 2 rfl) ?_
    rcases Decidable.em (x2 = 0) with c5 | c5
    · have h := hp_ip c5 h
      refine lv_tableIn (off := 29) (tgt := 44) hx hb dX10_brokerAt_15 (by rw [c5]; decide) (by rw [c5]; decide) (by rw [c5]; decide) (by decide) ?_
      refine lv_aload_n hx hb dX10_brokerAt_44 rfl (lv_at hl 0 rfl) ?_
      refine hp_getR hX hR (ci := 9) 0 rfl wf10 (by decide) wq2_11 dX10_brokerAt_45 h (fun q6 h => ?_)
      refine hp_getR hX hR (ci := 7) 7 rfl wf8 (by decide) wq1_87 dX10_brokerAt_48 h (fun q7 h => ?_)
      refine lv_iload_n hx hb dX10_brokerAt_51 rfl (lv_at hl 1 rfl) ?_
      refine hp_iald hX hR dX10_brokerAt_52 h (fun v8 h => ?_)
      exact hp_iretP hX hlocks hr hR h dX10_brokerAt_53
    · have h := hp_in c5 h
      rcases Decidable.em (x2 = 1) with c9 | c9
      · have h := hp_ip c9 h
        refine lv_tableIn (off := 39) (tgt := 54) hx hb dX10_brokerAt_15 (by rw [c9]; decide) (by rw [c9]; decide) (by rw [c9]; decide) (by decide) ?_
        refine lv_aload_n hx hb dX10_brokerAt_54 rfl (lv_at hl 0 rfl) ?_
        refine hp_getR hX hR (ci := 9) 0 rfl wf10 (by decide) wq2_11 dX10_brokerAt_55 h (fun q10 h => ?_)
        refine lv_iload_n hx hb dX10_brokerAt_58 rfl (lv_at hl 1 rfl) ?_
        refine hp_bn h (fun v12 h11 h => ?_)
        refine hp_ci hR (hp_runV (rest := []) (As := [.int x1]) hX hR (c_State_neighboursOf h11) cs_X10_108 rfl rfl rfl hd_State_neighboursOf ⟨Nat.le_of_ble_eq_true rfl, Nat.le_of_ble_eq_true rfl⟩ (ci := 7) rfl (hp_own_is h11) rfl hl.1 rfl (Nat.le_of_ble_eq_true rfl) dX10_brokerAt_59 ⟨Nat.le_of_ble_eq_true rfl, Nat.le_of_ble_eq_true rfl⟩) (fun H locs hR => ?_)
        exact hp_iretP hX hlocks hr hR h dX10_brokerAt_62
      · have h := hp_in c9 h
        rcases Decidable.em (x2 = 2) with c13 | c13
        · have h := hp_ip c13 h
          refine lv_tableIn (off := 48) (tgt := 63) hx hb dX10_brokerAt_15 (by rw [c13]; decide) (by rw [c13]; decide) (by rw [c13]; decide) (by decide) ?_
          refine lv_aload_n hx hb dX10_brokerAt_63 rfl (lv_at hl 0 rfl) ?_
          refine hp_getR hX hR (ci := 9) 0 rfl wf10 (by decide) wq2_11 dX10_brokerAt_64 h (fun q14 h => ?_)
          refine lv_iload_n hx hb dX10_brokerAt_67 rfl (lv_at hl 1 rfl) ?_
          refine hp_bn h (fun v16 h15 h => ?_)
          refine hp_ci hR (hp_runV (rest := []) (As := [.int x1]) hX hR (c_State_clientsHomeAt h15) cs_X10_112 rfl rfl rfl hd_State_clientsHomeAt ⟨Nat.le_of_ble_eq_true rfl, Nat.le_of_ble_eq_true rfl⟩ (ci := 7) rfl (hp_own_is h15) rfl hl.1 rfl (Nat.le_of_ble_eq_true rfl) dX10_brokerAt_68 ⟨Nat.le_of_ble_eq_true rfl, Nat.le_of_ble_eq_true rfl⟩) (fun H locs hR => ?_)
          exact hp_iretP hX hlocks hr hR h dX10_brokerAt_71
        · have h := hp_in c13 h
          rcases Decidable.em (x2 = 3) with c17 | c17
          · have h := hp_ip c17 h
            refine lv_tableIn (off := 57) (tgt := 72) hx hb dX10_brokerAt_15 (by rw [c17]; decide) (by rw [c17]; decide) (by rw [c17]; decide) (by decide) ?_
            refine lv_aload_n hx hb dX10_brokerAt_72 rfl (lv_at hl 0 rfl) ?_
            refine hp_getR hX hR (ci := 9) 0 rfl wf10 (by decide) wq2_11 dX10_brokerAt_73 h (fun q18 h => ?_)
            refine lv_aload_n hx hb dX10_brokerAt_76 rfl (lv_at hl 0 rfl) ?_
            refine hp_getR hX hR (ci := 9) 0 rfl wf10 (by decide) wq2_11 dX10_brokerAt_77 h (fun q19 h => ?_)
            refine lv_iload_n hx hb dX10_brokerAt_80 rfl (lv_at hl 1 rfl) ?_
            refine hp_bn h (fun v21 h20 h => ?_)
            refine hp_ci hR (hp_runV (rest := [.ref q18]) (As := [.int x1]) hX hR (c_State_clientsHomeAt h20) cs_X10_112 rfl rfl rfl hd_State_clientsHomeAt ⟨Nat.le_of_ble_eq_true rfl, Nat.le_of_ble_eq_true rfl⟩ (ci := 7) rfl (hp_own_is h20) rfl hl.1 rfl (Nat.le_of_ble_eq_true rfl) dX10_brokerAt_81 ⟨Nat.le_of_ble_eq_true rfl, Nat.le_of_ble_eq_true rfl⟩) (fun H locs hR => ?_)
            refine hp_bn h (fun v23 h22 h => ?_)
            refine hp_ci hR (hp_runV (rest := []) (As := [.int v21]) hX hR (c_State_wishesOf h22) cs_X10_115 rfl rfl rfl hd_State_wishesOf ⟨Nat.le_of_ble_eq_true rfl, Nat.le_of_ble_eq_true rfl⟩ (ci := 7) rfl (hp_own_is h22) rfl hl.1 rfl (Nat.le_of_ble_eq_true rfl) dX10_brokerAt_84 ⟨Nat.le_of_ble_eq_true rfl, Nat.le_of_ble_eq_true rfl⟩) (fun H locs hR => ?_)
            exact hp_iretP hX hlocks hr hR h dX10_brokerAt_87
          · have h := hp_in c17 h
            refine lv_tableOut (tgt := 88) hx hb dX10_brokerAt_15 (by have := lv_neT (a := 0) c5 rfl; have := lv_neT (a := 1) c9 rfl; have := lv_neT (a := 2) c13 rfl; have := lv_neT (a := 3) c17 rfl; omega) (by decide) ?_
            refine lv_ldc (v := (-1000000002)) hx hb hown (hts _ wq2_135) dX10_brokerAt_88 ?_
            exact hp_iretP hX hlocks hr hR h dX10_brokerAt_90
  · have h := hp_ip c4 h
    refine lv_ldc (v := (-1000000001)) hx hb hown (hts _ wq2_141) dX10_brokerAt_11 ?_
    exact hp_iretP hX hlocks hr hR h dX10_brokerAt_13
theorem cs_X10_118 : hp_WV RX10 118 RX8 yX8_hasClient cX8_hasClient 2 (some .boolean) := ⟨wq2_153, wq2_132, wq2_133, wq1_2, wq2_134⟩
/-! NB.clientAt(II)I -/
abbrev rm_NB_clientAt : Room := { frames := 2, cells := 0, slots := 0, locals := 44 }
theorem hd_NB_clientAt : hp_d yX10_clientAt 2 := by decide +kernel
def f_NB_clientAt (a0 : Nat) (x1 : Int32) (x2 : Int32) (σ : hp_H) : Option Int32 := hp_own σ a0 9 ((hp_gR σ a0 9 0).bind fun q1 => (f_State_hasClient q1 x1 σ).bind fun v3 => if v3 = 0 then (some (-1000000001)) else ((hp_gR σ a0 9 0).bind fun q5 => (hp_gR σ q5 7 8).bind fun q6 => (hp_aR σ q6 3 x1).bind fun q7 => if x2 = 0 then ((hp_gI σ q7 2 0).bind fun v9 => some v9) else (if x2 = 1 then ((hp_gI σ q7 2 1).bind fun v11 => if v11 = 0 then (some 0) else (some 1)) else (if x2 = 2 then ((hp_gI σ q7 2 2).bind fun v14 => some v14) else (if x2 = 3 then ((hp_gI σ q7 2 4).bind fun v16 => some v16) else (if x2 = 4 then ((hp_gI σ q7 2 3).bind fun v18 => some v18) else (if x2 = 5 then ((hp_gR σ a0 9 0).bind fun q20 => (f_State_wishesOf q20 ((1 : Int32) <<< (x1 &&& 31)) σ).bind fun v22 => some v22) else (some (-1000000002)))))))))
set_option maxHeartbeats 4000000 in
set_option maxRecDepth 100000 in
theorem c_NB_clientAt {l : Launch} {G : hp_G} {b : Nat} {σ : hp_H} {a0 : Nat} {x1 : Int32} {x2 : Int32} {r : Int32} (h : f_NB_clientAt a0 x1 x2 σ = some r) : hp_Met l yX10_clientAt cX10_clientAt 4 (some .int) rm_NB_clientAt G b [.ref a0, .int x1, .int x2] σ (some (.int r)) σ 0 0 := by
  refine hp_met (by decide +kernel) (Nat.le_of_ble_eq_true rfl) (fun p e s m below meth c ls hX hlocks hr hnm hl hR => ?_)
  obtain ⟨hx, hb, hml, hown, hts⟩ := id hX.1
  have hl : lv_has ls 4 [(0, .ref a0), (1, .int x1), (2, .int x2)] := hl
  unfold f_NB_clientAt at h
  have h := hp_own_to h
  refine lv_aload_n hx hb dX10_clientAt_0 rfl (lv_at hl 0 rfl) ?_
  refine hp_getR hX hR (ci := 9) 0 rfl wf10 (by decide) wq2_11 dX10_clientAt_1 h (fun q1 h => ?_)
  refine lv_iload_n hx hb dX10_clientAt_4 rfl (lv_at hl 1 rfl) ?_
  refine hp_bn h (fun v3 h2 h => ?_)
  refine hp_ci hR (hp_runV (rest := []) (As := [.int x1]) hX hR (c_State_hasClient h2) cs_X10_118 rfl rfl rfl hd_State_hasClient ⟨Nat.le_of_ble_eq_true rfl, Nat.le_of_ble_eq_true rfl⟩ (ci := 7) rfl (hp_own_is h2) rfl hl.1 rfl (Nat.le_of_ble_eq_true rfl) dX10_clientAt_5 ⟨Nat.le_of_ble_eq_true rfl, Nat.le_of_ble_eq_true rfl⟩) (fun H locs hR => ?_)
  refine lv_if_ne (tgt := 14) hx hb dX10_clientAt_8 (by decide) (fun c4 => ?_) (fun c4 => ?_)
  · have h := hp_in c4 h
    refine lv_aload_n hx hb dX10_clientAt_14 rfl (lv_at hl 0 rfl) ?_
    refine hp_getR hX hR (ci := 9) 0 rfl wf10 (by decide) wq2_11 dX10_clientAt_15 h (fun q5 h => ?_)
    refine hp_getR hX hR (ci := 7) 8 rfl wf8 (by decide) wq1_90 dX10_clientAt_18 h (fun q6 h => ?_)
    refine lv_iload_n hx hb dX10_clientAt_21 rfl (lv_at hl 1 rfl) ?_
    refine hp_aald hX hR 3 rfl dX10_clientAt_22 h (fun q7 h => ?_)
    refine lv_astore_n (lv' := [(3, .ref q7), (0, .ref a0), (1, .int x1), (2, .int x2)]) hx hb dX10_clientAt_23 rfl hl (by decide) rfl (fun ls hl => ?_)
    refine lv_iload_n hx hb dX10_clientAt_24 rfl (lv_at hl 3 rfl) ?_
    rcases Decidable.em (x2 = 0) with c8 | c8
    · have h := hp_ip c8 h
      refine lv_tableIn (off := 39) (tgt := 64) hx hb dX10_clientAt_25 (by rw [c8]; decide) (by rw [c8]; decide) (by rw [c8]; decide) (by decide) ?_
      refine lv_aload_n hx hb dX10_clientAt_64 rfl (lv_at hl 0 rfl) ?_
      refine hp_getI hX hR (ci := 2) 0 rfl wf3 (by decide) wq1_38 dX10_clientAt_65 h (fun v9 h => ?_)
      exact hp_iretP hX hlocks hr hR h dX10_clientAt_68
    · have h := hp_in c8 h
      rcases Decidable.em (x2 = 1) with c10 | c10
      · have h := hp_ip c10 h
        refine lv_tableIn (off := 44) (tgt := 69) hx hb dX10_clientAt_25 (by rw [c10]; decide) (by rw [c10]; decide) (by rw [c10]; decide) (by decide) ?_
        refine lv_aload_n hx hb dX10_clientAt_69 rfl (lv_at hl 0 rfl) ?_
        refine hp_getI hX hR (ci := 2) 1 rfl wf3 (by decide) wq1_41 dX10_clientAt_70 h (fun v11 h => ?_)
        refine lv_if_eq (tgt := 80) hx hb dX10_clientAt_73 (by decide) (fun c12 => ?_) (fun c12 => ?_)
        · have h := hp_ip c12 h
          refine lv_iconst (v := 0) hx hb dX10_clientAt_80 (by decide) ?_
          exact hp_iretP hX hlocks hr hR h dX10_clientAt_81
        · have h := hp_in c12 h
          refine lv_iconst (v := 1) hx hb dX10_clientAt_76 (by decide) ?_
          refine lv_goto (tgt := 81) hx hb dX10_clientAt_77 (by decide) ?_
          exact hp_iretP hX hlocks hr hR h dX10_clientAt_81
      · have h := hp_in c10 h
        rcases Decidable.em (x2 = 2) with c13 | c13
        · have h := hp_ip c13 h
          refine lv_tableIn (off := 57) (tgt := 82) hx hb dX10_clientAt_25 (by rw [c13]; decide) (by rw [c13]; decide) (by rw [c13]; decide) (by decide) ?_
          refine lv_aload_n hx hb dX10_clientAt_82 rfl (lv_at hl 0 rfl) ?_
          refine hp_getI hX hR (ci := 2) 2 rfl wf3 (by decide) wq1_44 dX10_clientAt_83 h (fun v14 h => ?_)
          exact hp_iretP hX hlocks hr hR h dX10_clientAt_86
        · have h := hp_in c13 h
          rcases Decidable.em (x2 = 3) with c15 | c15
          · have h := hp_ip c15 h
            refine lv_tableIn (off := 62) (tgt := 87) hx hb dX10_clientAt_25 (by rw [c15]; decide) (by rw [c15]; decide) (by rw [c15]; decide) (by decide) ?_
            refine lv_aload_n hx hb dX10_clientAt_87 rfl (lv_at hl 0 rfl) ?_
            refine hp_getI hX hR (ci := 2) 4 rfl wf3 (by decide) wq1_48 dX10_clientAt_88 h (fun v16 h => ?_)
            exact hp_iretP hX hlocks hr hR h dX10_clientAt_91
          · have h := hp_in c15 h
            rcases Decidable.em (x2 = 4) with c17 | c17
            · have h := hp_ip c17 h
              refine lv_tableIn (off := 67) (tgt := 92) hx hb dX10_clientAt_25 (by rw [c17]; decide) (by rw [c17]; decide) (by rw [c17]; decide) (by decide) ?_
              refine lv_aload_n hx hb dX10_clientAt_92 rfl (lv_at hl 0 rfl) ?_
              refine hp_getI hX hR (ci := 2) 3 rfl wf3 (by decide) wq1_46 dX10_clientAt_93 h (fun v18 h => ?_)
              exact hp_iretP hX hlocks hr hR h dX10_clientAt_96
            · have h := hp_in c17 h
              rcases Decidable.em (x2 = 5) with c19 | c19
              · have h := hp_ip c19 h
                refine lv_tableIn (off := 72) (tgt := 97) hx hb dX10_clientAt_25 (by rw [c19]; decide) (by rw [c19]; decide) (by rw [c19]; decide) (by decide) ?_
                refine lv_aload_n hx hb dX10_clientAt_97 rfl (lv_at hl 1 rfl) ?_
                refine hp_getR hX hR (ci := 9) 0 rfl wf10 (by decide) wq2_11 dX10_clientAt_98 h (fun q20 h => ?_)
                refine lv_iconst (v := 1) hx hb dX10_clientAt_101 (by decide) ?_
                refine lv_iload_n hx hb dX10_clientAt_102 rfl (lv_at hl 2 rfl) ?_
                refine lv_ishl hx hb dX10_clientAt_103 ?_
                refine hp_bn h (fun v22 h21 h => ?_)
                refine hp_ci hR (hp_runV (rest := []) (As := [.int ((1 : Int32) <<< (x1 &&& 31))]) hX hR (c_State_wishesOf h21) cs_X10_115 rfl rfl rfl hd_State_wishesOf ⟨Nat.le_of_ble_eq_true rfl, Nat.le_of_ble_eq_true rfl⟩ (ci := 7) rfl (hp_own_is h21) rfl hl.1 rfl (Nat.le_of_ble_eq_true rfl) dX10_clientAt_104 ⟨Nat.le_of_ble_eq_true rfl, Nat.le_of_ble_eq_true rfl⟩) (fun H locs hR => ?_)
                exact hp_iretP hX hlocks hr hR h dX10_clientAt_107
              · have h := hp_in c19 h
                refine lv_tableOut (tgt := 108) hx hb dX10_clientAt_25 (by have := lv_neT (a := 0) c8 rfl; have := lv_neT (a := 1) c10 rfl; have := lv_neT (a := 2) c13 rfl; have := lv_neT (a := 3) c15 rfl; have := lv_neT (a := 4) c17 rfl; have := lv_neT (a := 5) c19 rfl; omega) (by decide) ?_
                refine lv_ldc (v := (-1000000002)) hx hb hown (hts _ wq2_135) dX10_clientAt_108 ?_
                exact hp_iretP hX hlocks hr hR h dX10_clientAt_110
  · have h := hp_ip c4 h
    refine lv_ldc (v := (-1000000001)) hx hb hown (hts _ wq2_141) dX10_clientAt_11 ?_
    exact hp_iretP hX hlocks hr hR h dX10_clientAt_13
theorem cs_X10_143 : hp_WS RX10 143 yX10_within cX10_within 3 (some .boolean) := ⟨wq2_158, wq2_95, wq1_1, wq2_96⟩
theorem cs_X10_147 : hp_WV RX10 147 RX3 yX3_latest cX3_latest 2 (some .int) := ⟨wq2_159, wq2_160, wq2_161, wq1_3, wq2_162⟩
/-! NB.log(II)I -/
abbrev rm_NB_log : Room := { frames := 2, cells := 0, slots := 0, locals := 43 }
theorem hd_NB_log : hp_d yX10_log 2 := by decide +kernel
def f_NB_log (a0 : Nat) (x1 : Int32) (x2 : Int32) (σ : hp_H) : Option Int32 := hp_own σ a0 9 ((hp_gR σ a0 9 0).bind fun q1 => (f_State_hasClient q1 x1 σ).bind fun v3 => if v3 = 0 then (some (-1000000001)) else ((f_NB_within x2 0 11).bind fun v6 => if v6 = 0 then (some (-1000000002)) else ((hp_gR σ a0 9 0).bind fun q8 => (hp_gR σ q8 7 8).bind fun q9 => (hp_aR σ q9 3 x1).bind fun q10 => (f_Client_latest q10 x2 σ).bind fun v12 => some v12)))
set_option maxHeartbeats 4000000 in
set_option maxRecDepth 100000 in
theorem c_NB_log {l : Launch} {G : hp_G} {b : Nat} {σ : hp_H} {a0 : Nat} {x1 : Int32} {x2 : Int32} {r : Int32} (h : f_NB_log a0 x1 x2 σ = some r) : hp_Met l yX10_log cX10_log 3 (some .int) rm_NB_log G b [.ref a0, .int x1, .int x2] σ (some (.int r)) σ 0 0 := by
  refine hp_met (by decide +kernel) (Nat.le_of_ble_eq_true rfl) (fun p e s m below meth c ls hX hlocks hr hnm hl hR => ?_)
  obtain ⟨hx, hb, hml, hown, hts⟩ := id hX.1
  have hl : lv_has ls 3 [(0, .ref a0), (1, .int x1), (2, .int x2)] := hl
  unfold f_NB_log at h
  have h := hp_own_to h
  refine lv_aload_n hx hb dX10_log_0 rfl (lv_at hl 0 rfl) ?_
  refine hp_getR hX hR (ci := 9) 0 rfl wf10 (by decide) wq2_11 dX10_log_1 h (fun q1 h => ?_)
  refine lv_iload_n hx hb dX10_log_4 rfl (lv_at hl 1 rfl) ?_
  refine hp_bn h (fun v3 h2 h => ?_)
  refine hp_ci hR (hp_runV (rest := []) (As := [.int x1]) hX hR (c_State_hasClient h2) cs_X10_118 rfl rfl rfl hd_State_hasClient ⟨Nat.le_of_ble_eq_true rfl, Nat.le_of_ble_eq_true rfl⟩ (ci := 7) rfl (hp_own_is h2) rfl hl.1 rfl (Nat.le_of_ble_eq_true rfl) dX10_log_5 ⟨Nat.le_of_ble_eq_true rfl, Nat.le_of_ble_eq_true rfl⟩) (fun H locs hR => ?_)
  refine lv_if_ne (tgt := 14) hx hb dX10_log_8 (by decide) (fun c4 => ?_) (fun c4 => ?_)
  · have h := hp_in c4 h
    refine lv_iload_n hx hb dX10_log_14 rfl (lv_at hl 2 rfl) ?_
    refine lv_iconst (v := 0) hx hb dX10_log_15 (by decide) ?_
    refine lv_bipush (v := 11) hx hb dX10_log_16 (by decide) ?_
    refine hp_bn h (fun v6 h5 h => ?_)
    refine hp_ci hR (hp_runS (rest := []) (As := [.int x2, .int 0, .int 11]) hX hR (c_NB_within h5) cs_X10_143 rfl rfl hd_NB_within ⟨Nat.le_of_ble_eq_true rfl, Nat.le_of_ble_eq_true rfl⟩ rfl hl.1 rfl (Nat.le_of_ble_eq_true rfl) dX10_log_18 ⟨Nat.le_of_ble_eq_true rfl, Nat.le_of_ble_eq_true rfl⟩) (fun H locs hR => ?_)
    refine lv_if_ne (tgt := 27) hx hb dX10_log_21 (by decide) (fun c7 => ?_) (fun c7 => ?_)
    · have h := hp_in c7 h
      refine lv_aload_n hx hb dX10_log_27 rfl (lv_at hl 0 rfl) ?_
      refine hp_getR hX hR (ci := 9) 0 rfl wf10 (by decide) wq2_11 dX10_log_28 h (fun q8 h => ?_)
      refine hp_getR hX hR (ci := 7) 8 rfl wf8 (by decide) wq1_90 dX10_log_31 h (fun q9 h => ?_)
      refine lv_iload_n hx hb dX10_log_34 rfl (lv_at hl 1 rfl) ?_
      refine hp_aald hX hR 3 rfl dX10_log_35 h (fun q10 h => ?_)
      refine lv_iload_n hx hb dX10_log_36 rfl (lv_at hl 2 rfl) ?_
      refine hp_bn h (fun v12 h11 h => ?_)
      refine hp_ci hR (hp_runV (rest := []) (As := [.int x2]) hX hR (c_Client_latest h11) cs_X10_147 rfl rfl rfl hd_Client_latest ⟨Nat.le_of_ble_eq_true rfl, Nat.le_of_ble_eq_true rfl⟩ (ci := 2) rfl (hp_own_is h11) rfl hl.1 rfl (Nat.le_of_ble_eq_true rfl) dX10_log_37 ⟨Nat.le_of_ble_eq_true rfl, Nat.le_of_ble_eq_true rfl⟩) (fun H locs hR => ?_)
      exact hp_iretP hX hlocks hr hR h dX10_log_40
    · have h := hp_ip c7 h
      refine lv_ldc (v := (-1000000002)) hx hb hown (hts _ wq2_135) dX10_log_24 ?_
      exact hp_iretP hX hlocks hr hR h dX10_log_26
  · have h := hp_ip c4 h
    refine lv_ldc (v := (-1000000001)) hx hb hown (hts _ wq2_141) dX10_log_11 ?_
    exact hp_iretP hX hlocks hr hR h dX10_log_13
theorem cs_X10_150 : hp_WV RX10 150 RX8 yX8_hasWish cX8_hasWish 2 (some .boolean) := ⟨wq2_167, wq2_168, wq2_169, wq1_2, wq2_170⟩
theorem cs_X10_168 : hp_WV RX10 168 RX8 yX8_wishesCoveredBy cX8_wishesCoveredBy 4 (some .int) := ⟨wq2_175, wq2_176, wq2_177, wq1_2, wq2_178⟩
theorem cs_X10_165 : hp_WS RX10 165 yX1_size cX1_size 3 (some .int) := ⟨wq2_174, wq2_117, wq1_12, wq2_118⟩
theorem cs_X10_159 : hp_WS RX10 159 yX1_bound cX1_bound 2 (some .int) := ⟨wq2_171, wq2_172, wq1_12, wq2_173⟩
/-! NB.wishAt(II)I -/
abbrev rm_NB_wishAt : Room := { frames := 3, cells := 0, slots := 0, locals := 66 }
theorem hd_NB_wishAt : hp_d yX10_wishAt 2 := by decide +kernel
def f_NB_wishAt (a0 : Nat) (x1 : Int32) (x2 : Int32) (σ : hp_H) : Option Int32 := hp_own σ a0 9 ((hp_gR σ a0 9 0).bind fun q1 => (f_State_hasWish q1 x1 σ).bind fun v3 => if v3 = 0 then (some (-1000000001)) else ((f_NB_within x2 0 8).bind fun v6 => if v6 = 0 then (some (-1000000002)) else (if x2 = 0 then ((hp_gR σ a0 9 0).bind fun q24 => (hp_gR σ q24 7 9).bind fun q25 => (hp_aI σ q25 0 x1).bind fun v26 => some v26) else (if (6 : Int32) < x2 then (if x2 = 7 then ((hp_gR σ a0 9 0).bind fun q14 => (hp_gR σ q14 7 10).bind fun q15 => (hp_aI σ q15 0 x1).bind fun v16 => (f_Box_size v16).bind fun v18 => some v18) else ((hp_gR σ a0 9 0).bind fun q11 => (f_State_wishesCoveredBy q11 x1 σ).bind fun v13 => some v13)) else ((hp_gR σ a0 9 0).bind fun q19 => (hp_gR σ q19 7 10).bind fun q20 => (hp_aI σ q20 0 x1).bind fun v21 => (f_Box_bound v21 (x2 - 1)).bind fun v23 => some v23)))))
set_option maxHeartbeats 4000000 in
set_option maxRecDepth 100000 in
theorem c_NB_wishAt {l : Launch} {G : hp_G} {b : Nat} {σ : hp_H} {a0 : Nat} {x1 : Int32} {x2 : Int32} {r : Int32} (h : f_NB_wishAt a0 x1 x2 σ = some r) : hp_Met l yX10_wishAt cX10_wishAt 3 (some .int) rm_NB_wishAt G b [.ref a0, .int x1, .int x2] σ (some (.int r)) σ 0 0 := by
  refine hp_met (by decide +kernel) (Nat.le_of_ble_eq_true rfl) (fun p e s m below meth c ls hX hlocks hr hnm hl hR => ?_)
  obtain ⟨hx, hb, hml, hown, hts⟩ := id hX.1
  have hl : lv_has ls 3 [(0, .ref a0), (1, .int x1), (2, .int x2)] := hl
  unfold f_NB_wishAt at h
  have h := hp_own_to h
  refine lv_aload_n hx hb dX10_wishAt_0 rfl (lv_at hl 0 rfl) ?_
  refine hp_getR hX hR (ci := 9) 0 rfl wf10 (by decide) wq2_11 dX10_wishAt_1 h (fun q1 h => ?_)
  refine lv_iload_n hx hb dX10_wishAt_4 rfl (lv_at hl 1 rfl) ?_
  refine hp_bn h (fun v3 h2 h => ?_)
  refine hp_ci hR (hp_runV (rest := []) (As := [.int x1]) hX hR (c_State_hasWish h2) cs_X10_150 rfl rfl rfl hd_State_hasWish ⟨Nat.le_of_ble_eq_true rfl, Nat.le_of_ble_eq_true rfl⟩ (ci := 7) rfl (hp_own_is h2) rfl hl.1 rfl (Nat.le_of_ble_eq_true rfl) dX10_wishAt_5 ⟨Nat.le_of_ble_eq_true rfl, Nat.le_of_ble_eq_true rfl⟩) (fun H locs hR => ?_)
  refine lv_if_ne (tgt := 14) hx hb dX10_wishAt_8 (by decide) (fun c4 => ?_) (fun c4 => ?_)
  · have h := hp_in c4 h
    refine lv_iload_n hx hb dX10_wishAt_14 rfl (lv_at hl 2 rfl) ?_
    refine lv_iconst (v := 0) hx hb dX10_wishAt_15 (by decide) ?_
    refine lv_bipush (v := 8) hx hb dX10_wishAt_16 (by decide) ?_
    refine hp_bn h (fun v6 h5 h => ?_)
    refine hp_ci hR (hp_runS (rest := []) (As := [.int x2, .int 0, .int 8]) hX hR (c_NB_within h5) cs_X10_143 rfl rfl hd_NB_within ⟨Nat.le_of_ble_eq_true rfl, Nat.le_of_ble_eq_true rfl⟩ rfl hl.1 rfl (Nat.le_of_ble_eq_true rfl) dX10_wishAt_18 ⟨Nat.le_of_ble_eq_true rfl, Nat.le_of_ble_eq_true rfl⟩) (fun H locs hR => ?_)
    refine lv_if_ne (tgt := 27) hx hb dX10_wishAt_21 (by decide) (fun c7 => ?_) (fun c7 => ?_)
    · have h := hp_in c7 h
      refine lv_iload_n hx hb dX10_wishAt_27 rfl (lv_at hl 2 rfl) ?_
      refine lv_if_ne (tgt := 41) hx hb dX10_wishAt_28 (by decide) (fun c8 => ?_) (fun c8 => ?_)
      · have h := hp_in c8 h
        refine lv_iload_n hx hb dX10_wishAt_41 rfl (lv_at hl 2 rfl) ?_
        refine lv_bipush (v := 6) hx hb dX10_wishAt_42 (by decide) ?_
        refine lv_icmp_gt (tgt := 63) hx hb dX10_wishAt_44 (by decide) (fun c9 => ?_) (fun c9 => ?_)
        · have h := hp_ip c9 h
          refine lv_iload_n hx hb dX10_wishAt_63 rfl (lv_at hl 2 rfl) ?_
          refine lv_bipush (v := 7) hx hb dX10_wishAt_64 (by decide) ?_
          refine lv_icmp_ne (tgt := 82) hx hb dX10_wishAt_66 (by decide) (fun c10 => ?_) (fun c10 => ?_)
          · have h := hp_in c10 h
            refine lv_aload_n hx hb dX10_wishAt_82 rfl (lv_at hl 0 rfl) ?_
            refine hp_getR hX hR (ci := 9) 0 rfl wf10 (by decide) wq2_11 dX10_wishAt_83 h (fun q11 h => ?_)
            refine lv_iload_n hx hb dX10_wishAt_86 rfl (lv_at hl 1 rfl) ?_
            refine hp_bn h (fun v13 h12 h => ?_)
            refine hp_ci hR (hp_runV (rest := []) (As := [.int x1]) hX hR (c_State_wishesCoveredBy h12) cs_X10_168 rfl rfl rfl hd_State_wishesCoveredBy ⟨Nat.le_of_ble_eq_true rfl, Nat.le_of_ble_eq_true rfl⟩ (ci := 7) rfl (hp_own_is h12) rfl hl.1 rfl (Nat.le_of_ble_eq_true rfl) dX10_wishAt_87 ⟨Nat.le_of_ble_eq_true rfl, Nat.le_of_ble_eq_true rfl⟩) (fun H locs hR => ?_)
            exact hp_iretP hX hlocks hr hR h dX10_wishAt_90
          · have h := hp_ip c10 h
            refine lv_aload_n hx hb dX10_wishAt_69 rfl (lv_at hl 0 rfl) ?_
            refine hp_getR hX hR (ci := 9) 0 rfl wf10 (by decide) wq2_11 dX10_wishAt_70 h (fun q14 h => ?_)
            refine hp_getR hX hR (ci := 7) 10 rfl wf8 (by decide) wq1_95 dX10_wishAt_73 h (fun q15 h => ?_)
            refine lv_iload_n hx hb dX10_wishAt_76 rfl (lv_at hl 1 rfl) ?_
            refine hp_iald hX hR dX10_wishAt_77 h (fun v16 h => ?_)
            refine hp_bn h (fun v18 h17 h => ?_)
            refine hp_ci hR (hp_runS (rest := []) (As := [.int v16]) hX hR (c_Box_size h17) cs_X10_165 rfl rfl hd_Box_size ⟨Nat.le_of_ble_eq_true rfl, Nat.le_of_ble_eq_true rfl⟩ rfl hl.1 rfl (Nat.le_of_ble_eq_true rfl) dX10_wishAt_78 ⟨Nat.le_of_ble_eq_true rfl, Nat.le_of_ble_eq_true rfl⟩) (fun H locs hR => ?_)
            exact hp_iretP hX hlocks hr hR h dX10_wishAt_81
        · have h := hp_in c9 h
          refine lv_aload_n hx hb dX10_wishAt_47 rfl (lv_at hl 0 rfl) ?_
          refine hp_getR hX hR (ci := 9) 0 rfl wf10 (by decide) wq2_11 dX10_wishAt_48 h (fun q19 h => ?_)
          refine hp_getR hX hR (ci := 7) 10 rfl wf8 (by decide) wq1_95 dX10_wishAt_51 h (fun q20 h => ?_)
          refine lv_iload_n hx hb dX10_wishAt_54 rfl (lv_at hl 1 rfl) ?_
          refine hp_iald hX hR dX10_wishAt_55 h (fun v21 h => ?_)
          refine lv_iload_n hx hb dX10_wishAt_56 rfl (lv_at hl 2 rfl) ?_
          refine lv_iconst (v := 1) hx hb dX10_wishAt_57 (by decide) ?_
          refine lv_isub hx hb dX10_wishAt_58 ?_
          refine hp_bn h (fun v23 h22 h => ?_)
          refine hp_ci hR (hp_runS (rest := []) (As := [.int v21, .int (x2 - 1)]) hX hR (c_Box_bound h22) cs_X10_159 rfl rfl hd_Box_bound ⟨Nat.le_of_ble_eq_true rfl, Nat.le_of_ble_eq_true rfl⟩ rfl hl.1 rfl (Nat.le_of_ble_eq_true rfl) dX10_wishAt_59 ⟨Nat.le_of_ble_eq_true rfl, Nat.le_of_ble_eq_true rfl⟩) (fun H locs hR => ?_)
          exact hp_iretP hX hlocks hr hR h dX10_wishAt_62
      · have h := hp_ip c8 h
        refine lv_aload_n hx hb dX10_wishAt_31 rfl (lv_at hl 0 rfl) ?_
        refine hp_getR hX hR (ci := 9) 0 rfl wf10 (by decide) wq2_11 dX10_wishAt_32 h (fun q24 h => ?_)
        refine hp_getR hX hR (ci := 7) 9 rfl wf8 (by decide) wq1_92 dX10_wishAt_35 h (fun q25 h => ?_)
        refine lv_iload_n hx hb dX10_wishAt_38 rfl (lv_at hl 1 rfl) ?_
        refine hp_iald hX hR dX10_wishAt_39 h (fun v26 h => ?_)
        exact hp_iretP hX hlocks hr hR h dX10_wishAt_40
    · have h := hp_ip c7 h
      refine lv_ldc (v := (-1000000002)) hx hb hown (hts _ wq2_135) dX10_wishAt_24 ?_
      exact hp_iretP hX hlocks hr hR h dX10_wishAt_26
  · have h := hp_ip c4 h
    refine lv_ldc (v := (-1000000001)) hx hb hown (hts _ wq2_141) dX10_wishAt_11 ?_
    exact hp_iretP hX hlocks hr hR h dX10_wishAt_13
theorem cs_X10_171 : hp_WV RX10 171 RX8 yX8_areNeighbours cX8_areNeighbours 3 (some .boolean) := ⟨wq2_184, wq2_87, wq2_88, wq1_2, wq2_89⟩
theorem cs_X10_175 : hp_WV RX10 175 RX9 yX9_between cX9_between 4 (some (.object "NoticeBoxes$BoxList")) := ⟨wq2_185, wq2_46, wq2_47, wq1_4, wq2_48⟩
/-! NB.toldOn(II)I -/
abbrev rm_NB_toldOn : Room := { frames := 6, cells := 0, slots := 0, locals := 142 }
theorem hd_NB_toldOn : hp_d yX10_toldOn 2 := by decide +kernel
def f_NB_toldOn (a0 : Nat) (x1 : Int32) (x2 : Int32) (σ : hp_H) : Option (Int32 × hp_H) := hp_own σ a0 9 ((hp_gR σ a0 9 0).bind fun q1 => (f_State_areNeighbours q1 x1 x2 σ).bind fun v3 => if v3 = 0 then (some ((-1000000001), σ)) else ((hp_gR σ a0 9 1).bind fun q5 => (hp_gR σ a0 9 0).bind fun q6 => (f_Tellings_refresh q5 q6 σ).bind fun σ => (hp_gR σ a0 9 1).bind fun q8 => (hp_gR σ a0 9 0).bind fun q9 => (f_Tellings_between q8 q9 x1 x2 σ).bind fun q11 => (hp_gI σ q11 1 1).bind fun v12 => some (v12, σ)))
set_option maxHeartbeats 4000000 in
set_option maxRecDepth 100000 in
theorem c_NB_toldOn {l : Launch} {G : hp_G} {b : Nat} {σ : hp_H} {a0 : Nat} {x1 : Int32} {x2 : Int32} {r : Int32} {σ' : hp_H} (h : f_NB_toldOn a0 x1 x2 σ = some (r, σ')) : hp_Met l yX10_toldOn cX10_toldOn 3 (some .int) rm_NB_toldOn G b [.ref a0, .int x1, .int x2] σ (some (.int r)) σ' 0 0 := by
  refine hp_met (by decide +kernel) (Nat.le_of_ble_eq_true rfl) (fun p e s m below meth c ls hX hlocks hr hnm hl hR => ?_)
  obtain ⟨hx, hb, hml, hown, hts⟩ := id hX.1
  have hl : lv_has ls 3 [(0, .ref a0), (1, .int x1), (2, .int x2)] := hl
  unfold f_NB_toldOn at h
  have h := hp_own_to h
  refine lv_aload_n hx hb dX10_toldOn_0 rfl (lv_at hl 0 rfl) ?_
  refine hp_getR hX hR (ci := 9) 0 rfl wf10 (by decide) wq2_11 dX10_toldOn_1 h (fun q1 h => ?_)
  refine lv_iload_n hx hb dX10_toldOn_4 rfl (lv_at hl 1 rfl) ?_
  refine lv_iload_n hx hb dX10_toldOn_5 rfl (lv_at hl 2 rfl) ?_
  refine hp_bn h (fun v3 h2 h => ?_)
  refine hp_ci hR (hp_runV (rest := []) (As := [.int x1, .int x2]) hX hR (c_State_areNeighbours h2) cs_X10_171 rfl rfl rfl hd_State_areNeighbours ⟨Nat.le_of_ble_eq_true rfl, Nat.le_of_ble_eq_true rfl⟩ (ci := 7) rfl (hp_own_is h2) rfl hl.1 rfl (Nat.le_of_ble_eq_true rfl) dX10_toldOn_6 ⟨Nat.le_of_ble_eq_true rfl, Nat.le_of_ble_eq_true rfl⟩) (fun H locs hR => ?_)
  refine lv_if_ne (tgt := 15) hx hb dX10_toldOn_9 (by decide) (fun c4 => ?_) (fun c4 => ?_)
  · have h := hp_in c4 h
    refine lv_aload_n hx hb dX10_toldOn_15 rfl (lv_at hl 0 rfl) ?_
    refine hp_getR hX hR (ci := 9) 1 rfl wf10 (by decide) wq2_12 dX10_toldOn_16 h (fun q5 h => ?_)
    refine lv_aload_n hx hb dX10_toldOn_19 rfl (lv_at hl 0 rfl) ?_
    refine hp_getR hX hR (ci := 9) 0 rfl wf10 (by decide) wq2_11 dX10_toldOn_20 h (fun q6 h => ?_)
    refine hp_bn h (fun σ h7 h => ?_)
    refine hp_cv hR (hp_runV (rest := []) (As := [.ref q6]) hX hR (c_Tellings_refresh h7) cs_X10_74 rfl rfl rfl hd_Tellings_refresh ⟨Nat.le_of_ble_eq_true rfl, Nat.le_of_ble_eq_true rfl⟩ (ci := 8) rfl (hp_own_is h7) rfl hl.1 rfl (Nat.le_of_ble_eq_true rfl) dX10_toldOn_23 ⟨Nat.le_of_ble_eq_true rfl, Nat.le_of_ble_eq_true rfl⟩) (fun H locs hR => ?_)
    refine lv_aload_n hx hb dX10_toldOn_26 rfl (lv_at hl 0 rfl) ?_
    refine hp_getR hX hR (ci := 9) 1 rfl wf10 (by decide) wq2_12 dX10_toldOn_27 h (fun q8 h => ?_)
    refine lv_aload_n hx hb dX10_toldOn_30 rfl (lv_at hl 0 rfl) ?_
    refine hp_getR hX hR (ci := 9) 0 rfl wf10 (by decide) wq2_11 dX10_toldOn_31 h (fun q9 h => ?_)
    refine lv_iload_n hx hb dX10_toldOn_34 rfl (lv_at hl 1 rfl) ?_
    refine lv_iload_n hx hb dX10_toldOn_35 rfl (lv_at hl 2 rfl) ?_
    refine hp_bn h (fun q11 h10 h => ?_)
    refine hp_cr hR (hp_runV (rest := []) (As := [.ref q9, .int x1, .int x2]) hX hR (c_Tellings_between h10) cs_X10_175 rfl rfl rfl hd_Tellings_between ⟨Nat.le_of_ble_eq_true rfl, Nat.le_of_ble_eq_true rfl⟩ (ci := 8) rfl (hp_own_is h10) rfl hl.1 rfl (Nat.le_of_ble_eq_true rfl) dX10_toldOn_36 ⟨Nat.le_of_ble_eq_true rfl, Nat.le_of_ble_eq_true rfl⟩) (fun H locs hR => ?_)
    refine hp_getI hX hR (ci := 1) 1 rfl wf2 (by decide) wq1_137 dX10_toldOn_39 h (fun v12 h => ?_)
    exact hp_iret hX hlocks hr hR h dX10_toldOn_42
  · have h := hp_ip c4 h
    refine lv_ldc (v := (-1000000001)) hx hb hown (hts _ wq2_141) dX10_toldOn_12 ?_
    exact hp_iret hX hlocks hr hR h dX10_toldOn_14
