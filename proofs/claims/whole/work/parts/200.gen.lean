/-! Book.<init>()V -/
abbrev rm_Book_init : Room := { frames := 1, cells := 2, slots := 40, locals := 12 }
theorem hd_Book_init : hp_d yX0_init 0 := by decide +kernel
def f_Book_init (a0 : Nat) (σ : hp_H) : Option hp_H := hp_own σ a0 0 (hp_nw σ (.inr (.inl (0, 20, fun _ => 0))) fun q1 σ => (hp_pR σ a0 0 0 q1).bind fun σ => hp_nw σ (.inr (.inl (0, 20, fun _ => 0))) fun q2 σ => (hp_pR σ a0 0 1 q2).bind fun σ => some σ)
set_option maxHeartbeats 4000000 in
set_option maxRecDepth 100000 in
theorem c_Book_init {l : Launch} {G : hp_G} {b : Nat} {σ : hp_H} {a0 : Nat} {σ' : hp_H} (h : f_Book_init a0 σ = some σ') : hp_Met l yX0_init cX0_init 1 none rm_Book_init G b [.ref a0] σ none σ' 2 40 := by
  refine hp_met (by decide +kernel) (Nat.le_of_ble_eq_true rfl) (fun p e s m below meth c ls hX hlocks hr hnm hl hR => ?_)
  obtain ⟨hx, hb, hml, hown, hts⟩ := id hX.1
  have hl : lv_has ls 1 [(0, .ref a0)] := hl
  unfold f_Book_init at h
  have h := hp_own_to h
  refine lv_aload_n hx hb dX0_init_0 rfl (lv_at hl 0 rfl) ?_
  refine hp_obj0 hX wq1_207 wq1_22 wq1_23 hl.1 dX0_init_1 (Nat.le_of_ble_eq_true rfl) (Nat.le_of_ble_eq_true rfl) ?_
  refine lv_aload_n hx hb dX0_init_4 rfl (lv_at hl 0 rfl) ?_
  refine lv_bipush (v := 20) hx hb dX0_init_5 (by decide) ?_
  refine hp_newI hX hR 20 wq1_66 (by decide) (by decide) (Nat.le_of_ble_eq_true rfl) (Nat.le_of_ble_eq_true rfl) (Nat.le_of_ble_eq_true rfl) dX0_init_7 h (fun q1 σ H h hR => ?_)
  refine hp_putR hX hR (ci := 0) 0 rfl wf0 tyX0_ok nmX0 (by decide) wq1_208 rfl hnm rfl dX0_init_9 rfl rfl h (fun σ H locs h hR => ?_)
  refine lv_aload_n hx hb dX0_init_12 rfl (lv_at hl 0 rfl) ?_
  refine lv_bipush (v := 20) hx hb dX0_init_13 (by decide) ?_
  refine hp_newI hX hR 20 wq1_66 (by decide) (by decide) (Nat.le_of_ble_eq_true rfl) (Nat.le_of_ble_eq_true rfl) (Nat.le_of_ble_eq_true rfl) dX0_init_15 h (fun q2 σ H h hR => ?_)
  refine hp_putR hX hR (ci := 0) 1 rfl wf0 tyX0_ok nmX0 (by decide) wq1_209 rfl hnm rfl dX0_init_17 rfl rfl h (fun σ H locs h hR => ?_)
  exact hp_vret hX hlocks hr hR h dX0_init_20
/-! Book.add(II)V -/
abbrev rm_Book_add : Room := { frames := 0, cells := 0, slots := 0, locals := 0 }
theorem hd_Book_add : hp_d yX0_add 2 := by decide +kernel
def f_Book_add (a0 : Nat) (x1 : Int32) (x2 : Int32) (σ : hp_H) : Option hp_H := hp_own σ a0 0 ((hp_gR σ a0 0 0).bind fun q1 => (hp_gI σ a0 0 2).bind fun v2 => (hp_sI σ q1 0 v2 x1).bind fun σ => (hp_gR σ a0 0 1).bind fun q3 => (hp_gI σ a0 0 2).bind fun v4 => (hp_sI σ q3 0 v4 x2).bind fun σ => (hp_gI σ a0 0 2).bind fun v5 => (hp_pI σ a0 0 2 (v5 + 1)).bind fun σ => some σ)
set_option maxHeartbeats 4000000 in
set_option maxRecDepth 100000 in
theorem c_Book_add {l : Launch} {G : hp_G} {b : Nat} {σ : hp_H} {a0 : Nat} {x1 : Int32} {x2 : Int32} {σ' : hp_H} (h : f_Book_add a0 x1 x2 σ = some σ') : hp_Met l yX0_add cX0_add 3 none rm_Book_add G b [.ref a0, .int x1, .int x2] σ none σ' 0 0 := by
  refine hp_met (by decide +kernel) (Nat.le_of_ble_eq_true rfl) (fun p e s m below meth c ls hX hlocks hr hnm hl hR => ?_)
  obtain ⟨hx, hb, hml, hown, hts⟩ := id hX.1
  have hl : lv_has ls 3 [(0, .ref a0), (1, .int x1), (2, .int x2)] := hl
  unfold f_Book_add at h
  have h := hp_own_to h
  refine lv_aload_n hx hb dX0_add_0 rfl (lv_at hl 0 rfl) ?_
  refine hp_getR hX hR (ci := 0) 0 rfl wf0 (by decide) wq1_208 dX0_add_1 h (fun q1 h => ?_)
  refine lv_aload_n hx hb dX0_add_4 rfl (lv_at hl 0 rfl) ?_
  refine hp_getI hX hR (ci := 0) 2 rfl wf0 (by decide) wq1_210 dX0_add_5 h (fun v2 h => ?_)
  refine lv_iload_n hx hb dX0_add_8 rfl (lv_at hl 1 rfl) ?_
  refine hp_iast hX hR dX0_add_9 h (fun σ H locs h hR => ?_)
  refine lv_aload_n hx hb dX0_add_10 rfl (lv_at hl 0 rfl) ?_
  refine hp_getR hX hR (ci := 0) 1 rfl wf0 (by decide) wq1_209 dX0_add_11 h (fun q3 h => ?_)
  refine lv_aload_n hx hb dX0_add_14 rfl (lv_at hl 0 rfl) ?_
  refine hp_getI hX hR (ci := 0) 2 rfl wf0 (by decide) wq1_210 dX0_add_15 h (fun v4 h => ?_)
  refine lv_iload_n hx hb dX0_add_18 rfl (lv_at hl 2 rfl) ?_
  refine hp_iast hX hR dX0_add_19 h (fun σ H locs h hR => ?_)
  refine lv_aload_n hx hb dX0_add_20 rfl (lv_at hl 0 rfl) ?_
  refine lv_dup hx hb dX0_add_21 rfl ?_
  refine hp_getI hX hR (ci := 0) 2 rfl wf0 (by decide) wq1_210 dX0_add_22 h (fun v5 h => ?_)
  refine lv_iconst (v := 1) hx hb dX0_add_25 (by decide) ?_
  refine lv_iadd hx hb dX0_add_26 ?_
  refine hp_putI hX hR (ci := 0) 2 rfl wf0 tyX0_ok nmX0 (by decide) wq1_210 rfl dX0_add_27 rfl h (fun σ H locs h hR => ?_)
  exact hp_vret hX hlocks hr hR h dX0_add_30
/-! NB.within(III)Z -/
abbrev rm_NB_within : Room := { frames := 0, cells := 0, slots := 0, locals := 0 }
theorem hd_NB_within : hp_d yX10_within 3 := by decide +kernel
def f_NB_within (x0 : Int32) (x1 : Int32) (x2 : Int32) : Option Int32 := if x0 < x1 then (some 0) else (if x2 < x0 then (some 0) else (some 1))
set_option maxHeartbeats 4000000 in
set_option maxRecDepth 100000 in
theorem c_NB_within {l : Launch} {G : hp_G} {b : Nat} {σ : hp_H} {x0 : Int32} {x1 : Int32} {x2 : Int32} {r : Int32} (h : f_NB_within x0 x1 x2 = some r) : hp_Met l yX10_within cX10_within 3 (some .boolean) rm_NB_within G b [.int x0, .int x1, .int x2] σ (some (.int r)) σ 0 0 := by
  refine hp_met (by decide +kernel) (Nat.le_of_ble_eq_true rfl) (fun p e s m below meth c ls hX hlocks hr hnm hl hR => ?_)
  obtain ⟨hx, hb, hml, hown, hts⟩ := id hX.1
  have hl : lv_has ls 3 [(0, .int x0), (1, .int x1), (2, .int x2)] := hl
  unfold f_NB_within at h
  refine lv_iload_n hx hb dX10_within_0 rfl (lv_at hl 1 rfl) ?_
  refine lv_iload_n hx hb dX10_within_1 rfl (lv_at hl 0 rfl) ?_
  refine lv_icmp_gt (tgt := 14) hx hb dX10_within_2 (by decide) (fun c1 => ?_) (fun c1 => ?_)
  · have h := hp_ip c1 h
    refine lv_iconst (v := 0) hx hb dX10_within_14 (by decide) ?_
    exact hp_zretLP (by decide) hX hlocks hr hR h dX10_within_15
  · have h := hp_in c1 h
    refine lv_iload_n hx hb dX10_within_5 rfl (lv_at hl 0 rfl) ?_
    refine lv_iload_n hx hb dX10_within_6 rfl (lv_at hl 2 rfl) ?_
    refine lv_icmp_gt (tgt := 14) hx hb dX10_within_7 (by decide) (fun c2 => ?_) (fun c2 => ?_)
    · have h := hp_ip c2 h
      refine lv_iconst (v := 0) hx hb dX10_within_14 (by decide) ?_
      exact hp_zretLP (by decide) hX hlocks hr hR h dX10_within_15
    · have h := hp_in c2 h
      refine lv_iconst (v := 1) hx hb dX10_within_10 (by decide) ?_
      refine lv_goto (tgt := 15) hx hb dX10_within_11 (by decide) ?_
      exact hp_zretLP (by decide) hX hlocks hr hR h dX10_within_15
theorem cs_X8_60 : hp_WSN RX8 60 yX10_within "NoticeBoxes" cX10_within 3 (some .boolean) := ⟨by decide +kernel, wq2_95, wq1_1, wq2_96⟩
/-! State.hasClient(I)Z -/
abbrev rm_State_hasClient : Room := { frames := 1, cells := 0, slots := 0, locals := 22 }
theorem hd_State_hasClient : hp_d yX8_hasClient 1 := by decide +kernel
def f_State_hasClient (a0 : Nat) (x1 : Int32) (σ : hp_H) : Option Int32 := hp_own σ a0 7 ((hp_gI σ a0 7 1).bind fun v1 => (f_NB_within x1 0 (v1 - 1)).bind fun v3 => hp_z v3 (some v3))
set_option maxHeartbeats 4000000 in
set_option maxRecDepth 100000 in
theorem c_State_hasClient {l : Launch} {G : hp_G} {b : Nat} {σ : hp_H} {a0 : Nat} {x1 : Int32} {r : Int32} (h : f_State_hasClient a0 x1 σ = some r) : hp_Met l yX8_hasClient cX8_hasClient 2 (some .boolean) rm_State_hasClient G b [.ref a0, .int x1] σ (some (.int r)) σ 0 0 := by
  refine hp_met (by decide +kernel) (Nat.le_of_ble_eq_true rfl) (fun p e s m below meth c ls hX hlocks hr hnm hl hR => ?_)
  obtain ⟨hx, hb, hml, hown, hts⟩ := id hX.1
  have hl : lv_has ls 2 [(0, .ref a0), (1, .int x1)] := hl
  unfold f_State_hasClient at h
  have h := hp_own_to h
  refine lv_iload_n hx hb dX8_hasClient_0 rfl (lv_at hl 1 rfl) ?_
  refine lv_iconst (v := 0) hx hb dX8_hasClient_1 (by decide) ?_
  refine lv_aload_n hx hb dX8_hasClient_2 rfl (lv_at hl 0 rfl) ?_
  refine hp_getI hX hR (ci := 7) 1 rfl wf8 (by decide) wq1_71 dX8_hasClient_3 h (fun v1 h => ?_)
  refine lv_iconst (v := 1) hx hb dX8_hasClient_6 (by decide) ?_
  refine lv_isub hx hb dX8_hasClient_7 ?_
  refine hp_bn h (fun v3 h2 h => ?_)
  refine hp_ci hR (hp_runSN (rest := []) (As := [.int x1, .int 0, .int (v1 - 1)]) hX hR (c_NB_within h2) cs_X8_60 rfl rfl hd_NB_within ⟨Nat.le_of_ble_eq_true rfl, Nat.le_of_ble_eq_true rfl⟩ rfl hl.1 rfl (Nat.le_of_ble_eq_true rfl) dX8_hasClient_8 ⟨Nat.le_of_ble_eq_true rfl, Nat.le_of_ble_eq_true rfl⟩) (fun H locs hR => ?_)
  exact hp_zretP hX hlocks hr hR h dX8_hasClient_11
theorem cs_X0_22 : hp_WV RX0 22 RX8 yX8_hasClient cX8_hasClient 2 (some .boolean) := ⟨wq2_131, wq2_132, wq2_133, wq1_2, wq2_134⟩
/-! Book.firstWrong(LNoticeBoxes$State;)I -/
abbrev rm_Book_firstWrong : Room := { frames := 2, cells := 0, slots := 0, locals := 43 }
theorem hd_Book_firstWrong : hp_d yX0_firstWrong 1 := by decide +kernel
def f_Book_firstWrong_l1 (a0 : Nat) (a1 : Nat) (σ : hp_H) (K : Int32 → Option Int32) : Nat → Int32 → Option Int32
  | 0, _ => none
  | n + 1, x2 => (hp_gI σ a0 0 2).bind fun v1 => if v1 ≤ x2 then (K x2) else ((hp_gR σ a0 0 0).bind fun q3 => (hp_aI σ q3 0 x2).bind fun v4 => (f_State_hasClient a1 v4 σ).bind fun v6 => if v6 = 0 then (some x2) else ((hp_gR σ a1 7 8).bind fun q8 => (hp_aR σ q8 3 v4).bind fun q9 => (hp_gI σ q9 2 2).bind fun v10 => (hp_gR σ a0 0 1).bind fun q11 => (hp_aI σ q11 0 x2).bind fun v12 => if v10 = v12 then (f_Book_firstWrong_l1 a0 a1 σ K n (x2 + 1)) else (some x2)))
def f_Book_firstWrong (a0 : Nat) (a1 : Nat) (σ : hp_H) : Option Int32 := hp_own σ a0 0 (f_Book_firstWrong_l1 a0 a1 σ (fun z14 => some (-1)) hp_F 0)
set_option maxHeartbeats 4000000 in
set_option maxRecDepth 100000 in
theorem w_Book_firstWrong_l1 {p : Program} {l : Launch} {e : Env} {s : State} {m : MethodId} {args : Array Value} {below : List Frame} {meth : Method} {c : Code} {G : hp_G} {b : Nat} {σ : hp_H} {a0 : Nat} {a1 : Nat} {r : Int32} {K : Int32 → Option Int32} (hX : hp_X G p s m c args cX0_firstWrong 4 RX0) (hlocks : meth.locks = false) (hr : meth.sig.returnType = (some .int))
    (hK : ∀ (x2 : Int32) (H : Heap) (locs : List Loc) (ls : Array Slot), hp_R G b s.heap σ H locs → lv_has ls 4 [] → K x2 = some r → W p l e rm_Book_firstWrong s m args below meth c H locs 0 0 (MQ below (hp_Qc G b (some (.int r)) σ) args s 0 0 (fun q => b ≤ q)) (F0 m 51 ls [])) :
    ∀ (n : Nat) (x2 : Int32) (H : Heap) (locs : List Loc) (ls : Array Slot), hp_R G b s.heap σ H locs → f_Book_firstWrong_l1 a0 a1 σ K n x2 = some r → lv_has ls 4 [(0, .ref a0), (1, .ref a1), (2, .int x2)] → W p l e rm_Book_firstWrong s m args below meth c H locs 0 0 (MQ below (hp_Qc G b (some (.int r)) σ) args s 0 0 (fun q => b ≤ q)) (F0 m 2 ls []) := by
  obtain ⟨hx, hb, hml, hown, hts⟩ := id hX.1
  intro n
  induction n with
  | zero =>
    intro x2 H locs ls hR h hl
    rw [f_Book_firstWrong_l1] at h
    cases h
  | succ n ih =>
    intro x2 H locs ls hR h hl
    rw [f_Book_firstWrong_l1] at h
    refine lv_iload_n hx hb dX0_firstWrong_2 rfl (lv_at hl 2 rfl) ?_
    refine lv_aload_n hx hb dX0_firstWrong_3 rfl (lv_at hl 0 rfl) ?_
    refine hp_getI hX hR (ci := 0) 2 rfl wf0 (by decide) wq1_210 dX0_firstWrong_4 h (fun v1 h => ?_)
    refine lv_icmp_ge (tgt := 51) hx hb dX0_firstWrong_7 (by decide) (fun c2 => ?_) (fun c2 => ?_)
    · have h := hp_ip c2 h
      exact hK _ _ _ _ hR (lv_sub hl [] rfl) h
    · have h := hp_in c2 h
      refine lv_aload_n hx hb dX0_firstWrong_10 rfl (lv_at hl 0 rfl) ?_
      refine hp_getR hX hR (ci := 0) 0 rfl wf0 (by decide) wq1_208 dX0_firstWrong_11 h (fun q3 h => ?_)
      refine lv_iload_n hx hb dX0_firstWrong_14 rfl (lv_at hl 2 rfl) ?_
      refine hp_iald hX hR dX0_firstWrong_15 h (fun v4 h => ?_)
      refine lv_istore_n (lv' := [(3, .int v4), (0, .ref a0), (1, .ref a1), (2, .int x2)]) hx hb dX0_firstWrong_16 rfl hl (by decide) rfl (fun ls hl => ?_)
      refine lv_aload_n hx hb dX0_firstWrong_17 rfl (lv_at hl 2 rfl) ?_
      refine lv_iload_n hx hb dX0_firstWrong_18 rfl (lv_at hl 0 rfl) ?_
      refine hp_bn h (fun v6 h5 h => ?_)
      refine hp_ci hR (hp_runV (rest := []) (As := [.int v4]) hX hR (c_State_hasClient h5) cs_X0_22 rfl rfl rfl hd_State_hasClient ⟨Nat.le_of_ble_eq_true rfl, Nat.le_of_ble_eq_true rfl⟩ (ci := 7) rfl (hp_own_is h5) rfl hl.1 rfl (Nat.le_of_ble_eq_true rfl) dX0_firstWrong_19 ⟨Nat.le_of_ble_eq_true rfl, Nat.le_of_ble_eq_true rfl⟩) (fun H locs hR => ?_)
      refine lv_if_eq (tgt := 43) hx hb dX0_firstWrong_22 (by decide) (fun c7 => ?_) (fun c7 => ?_)
      · have h := hp_ip c7 h
        refine lv_iload_n hx hb dX0_firstWrong_43 rfl (lv_at hl 3 rfl) ?_
        exact hp_iretP hX hlocks hr hR h dX0_firstWrong_44
      · have h := hp_in c7 h
        refine lv_aload_n hx hb dX0_firstWrong_25 rfl (lv_at hl 2 rfl) ?_
        refine hp_getR hX hR (ci := 7) 8 rfl wf8 (by decide) wq1_89 dX0_firstWrong_26 h (fun q8 h => ?_)
        refine lv_iload_n hx hb dX0_firstWrong_29 rfl (lv_at hl 0 rfl) ?_
        refine hp_aald hX hR 3 rfl dX0_firstWrong_30 h (fun q9 h => ?_)
        refine hp_getI hX hR (ci := 2) 2 rfl wf3 (by decide) wq1_43 dX0_firstWrong_31 h (fun v10 h => ?_)
        refine lv_aload_n hx hb dX0_firstWrong_34 rfl (lv_at hl 1 rfl) ?_
        refine hp_getR hX hR (ci := 0) 1 rfl wf0 (by decide) wq1_209 dX0_firstWrong_35 h (fun q11 h => ?_)
        refine lv_iload_n hx hb dX0_firstWrong_38 rfl (lv_at hl 3 rfl) ?_
        refine hp_iald hX hR dX0_firstWrong_39 h (fun v12 h => ?_)
        refine lv_icmp_eq (tgt := 45) hx hb dX0_firstWrong_40 (by decide) (fun c13 => ?_) (fun c13 => ?_)
        · have h := hp_ip c13 h
          refine lv_iinc (v := (x2 + 1)) (lv' := [(2, .int (x2 + 1)), (3, .int v4), (0, .ref a0), (1, .ref a1)]) hx hb dX0_firstWrong_45 hl (k := 3) rfl rfl (by decide) rfl (fun ls hl => ?_)
          refine lv_goto (tgt := 2) hx hb dX0_firstWrong_48 (by decide) ?_
          exact ih _ _ _ _ hR h (lv_sub hl [2, 3, 0] rfl)
        · have h := hp_in c13 h
          refine lv_iload_n hx hb dX0_firstWrong_43 rfl (lv_at hl 3 rfl) ?_
          exact hp_iretP hX hlocks hr hR h dX0_firstWrong_44
set_option maxHeartbeats 4000000 in
set_option maxRecDepth 100000 in
theorem c_Book_firstWrong {l : Launch} {G : hp_G} {b : Nat} {σ : hp_H} {a0 : Nat} {a1 : Nat} {r : Int32} (h : f_Book_firstWrong a0 a1 σ = some r) : hp_Met l yX0_firstWrong cX0_firstWrong 4 (some .int) rm_Book_firstWrong G b [.ref a0, .ref a1] σ (some (.int r)) σ 0 0 := by
  refine hp_met (by decide +kernel) (Nat.le_of_ble_eq_true rfl) (fun p e s m below meth c ls hX hlocks hr hnm hl hR => ?_)
  obtain ⟨hx, hb, hml, hown, hts⟩ := id hX.1
  have hl : lv_has ls 4 [(0, .ref a0), (1, .ref a1)] := hl
  unfold f_Book_firstWrong at h
  have h := hp_own_to h
  refine lv_iconst (v := 0) hx hb dX0_firstWrong_0 (by decide) ?_
  refine lv_istore_n (lv' := [(2, .int 0), (0, .ref a0), (1, .ref a1)]) hx hb dX0_firstWrong_1 rfl hl (by decide) rfl (fun ls hl => ?_)
  refine w_Book_firstWrong_l1 hX hlocks hr ?_ hp_F _ _ _ _ hR h (lv_sub hl [1, 2, 0] rfl)
  intro z14 H locs ls hR hl h
  refine lv_iconst (v := (-1)) hx hb dX0_firstWrong_51 (by decide) ?_
  exact hp_iretP hX hlocks hr hR h dX0_firstWrong_52
/-! Box.withBounds(III)I -/
abbrev rm_Box_withBounds : Room := { frames := 0, cells := 0, slots := 0, locals := 0 }
theorem hd_Box_withBounds : hp_d yX1_withBounds 3 := by decide +kernel
def f_Box_withBounds (x0 : Int32) (x1 : Int32) (x2 : Int32) : Option Int32 := some (((x0 <<< (8 &&& 31)) ||| (x1 <<< (4 &&& 31))) ||| x2)
set_option maxHeartbeats 4000000 in
set_option maxRecDepth 100000 in
theorem c_Box_withBounds {l : Launch} {G : hp_G} {b : Nat} {σ : hp_H} {x0 : Int32} {x1 : Int32} {x2 : Int32} {r : Int32} (h : f_Box_withBounds x0 x1 x2 = some r) : hp_Met l yX1_withBounds cX1_withBounds 3 (some .int) rm_Box_withBounds G b [.int x0, .int x1, .int x2] σ (some (.int r)) σ 0 0 := by
  refine hp_met (by decide +kernel) (Nat.le_of_ble_eq_true rfl) (fun p e s m below meth c ls hX hlocks hr hnm hl hR => ?_)
  obtain ⟨hx, hb, hml, hown, hts⟩ := id hX.1
  have hl : lv_has ls 3 [(0, .int x0), (1, .int x1), (2, .int x2)] := hl
  unfold f_Box_withBounds at h
  refine lv_iload_n hx hb dX1_withBounds_0 rfl (lv_at hl 0 rfl) ?_
  refine lv_bipush (v := 8) hx hb dX1_withBounds_1 (by decide) ?_
  refine lv_ishl hx hb dX1_withBounds_3 ?_
  refine lv_iload_n hx hb dX1_withBounds_4 rfl (lv_at hl 1 rfl) ?_
  refine lv_iconst (v := 4) hx hb dX1_withBounds_5 (by decide) ?_
  refine lv_ishl hx hb dX1_withBounds_6 ?_
  refine lv_ior hx hb dX1_withBounds_7 ?_
  refine lv_iload_n hx hb dX1_withBounds_8 rfl (lv_at hl 2 rfl) ?_
  refine lv_ior hx hb dX1_withBounds_9 ?_
  exact hp_iretP hX hlocks hr hR h dX1_withBounds_10
theorem cs_X1_9 : hp_WS RX1 9 yX1_withBounds cX1_withBounds 3 (some .int) := ⟨wq2_113, wq2_114, wq1_12, wq2_115⟩
/-! Box.ofNotice(III)I -/
abbrev rm_Box_ofNotice : Room := { frames := 1, cells := 0, slots := 0, locals := 22 }
theorem hd_Box_ofNotice : hp_d yX1_ofNotice 3 := by decide +kernel
def f_Box_ofNotice (x0 : Int32) (x1 : Int32) (x2 : Int32) : Option Int32 := (f_Box_withBounds 0 x0 x0).bind fun v2 => (f_Box_withBounds v2 x1 x1).bind fun v4 => (f_Box_withBounds v4 x2 x2).bind fun v6 => some v6
set_option maxHeartbeats 4000000 in
set_option maxRecDepth 100000 in
theorem c_Box_ofNotice {l : Launch} {G : hp_G} {b : Nat} {σ : hp_H} {x0 : Int32} {x1 : Int32} {x2 : Int32} {r : Int32} (h : f_Box_ofNotice x0 x1 x2 = some r) : hp_Met l yX1_ofNotice cX1_ofNotice 3 (some .int) rm_Box_ofNotice G b [.int x0, .int x1, .int x2] σ (some (.int r)) σ 0 0 := by
  refine hp_met (by decide +kernel) (Nat.le_of_ble_eq_true rfl) (fun p e s m below meth c ls hX hlocks hr hnm hl hR => ?_)
  obtain ⟨hx, hb, hml, hown, hts⟩ := id hX.1
  have hl : lv_has ls 3 [(0, .int x0), (1, .int x1), (2, .int x2)] := hl
  unfold f_Box_ofNotice at h
  refine lv_iconst (v := 0) hx hb dX1_ofNotice_0 (by decide) ?_
  refine lv_iload_n hx hb dX1_ofNotice_1 rfl (lv_at hl 0 rfl) ?_
  refine lv_iload_n hx hb dX1_ofNotice_2 rfl (lv_at hl 0 rfl) ?_
  refine hp_bn h (fun v2 h1 h => ?_)
  refine hp_ci hR (hp_runS (rest := []) (As := [.int 0, .int x0, .int x0]) hX hR (c_Box_withBounds h1) cs_X1_9 rfl rfl hd_Box_withBounds ⟨Nat.le_of_ble_eq_true rfl, Nat.le_of_ble_eq_true rfl⟩ rfl hl.1 rfl (Nat.le_of_ble_eq_true rfl) dX1_ofNotice_3 ⟨Nat.le_of_ble_eq_true rfl, Nat.le_of_ble_eq_true rfl⟩) (fun H locs hR => ?_)
  refine lv_iload_n hx hb dX1_ofNotice_6 rfl (lv_at hl 1 rfl) ?_
  refine lv_iload_n hx hb dX1_ofNotice_7 rfl (lv_at hl 1 rfl) ?_
  refine hp_bn h (fun v4 h3 h => ?_)
  refine hp_ci hR (hp_runS (rest := []) (As := [.int v2, .int x1, .int x1]) hX hR (c_Box_withBounds h3) cs_X1_9 rfl rfl hd_Box_withBounds ⟨Nat.le_of_ble_eq_true rfl, Nat.le_of_ble_eq_true rfl⟩ rfl hl.1 rfl (Nat.le_of_ble_eq_true rfl) dX1_ofNotice_8 ⟨Nat.le_of_ble_eq_true rfl, Nat.le_of_ble_eq_true rfl⟩) (fun H locs hR => ?_)
  refine lv_iload_n hx hb dX1_ofNotice_11 rfl (lv_at hl 2 rfl) ?_
  refine lv_iload_n hx hb dX1_ofNotice_12 rfl (lv_at hl 2 rfl) ?_
  refine hp_bn h (fun v6 h5 h => ?_)
  refine hp_ci hR (hp_runS (rest := []) (As := [.int v4, .int x2, .int x2]) hX hR (c_Box_withBounds h5) cs_X1_9 rfl rfl hd_Box_withBounds ⟨Nat.le_of_ble_eq_true rfl, Nat.le_of_ble_eq_true rfl⟩ rfl hl.1 rfl (Nat.le_of_ble_eq_true rfl) dX1_ofNotice_13 ⟨Nat.le_of_ble_eq_true rfl, Nat.le_of_ble_eq_true rfl⟩) (fun H locs hR => ?_)
  exact hp_iretP hX hlocks hr hR h dX1_ofNotice_16
/-! Box.withKind(III)I -/
abbrev rm_Box_withKind : Room := { frames := 1, cells := 0, slots := 0, locals := 22 }
theorem hd_Box_withKind : hp_d yX1_withKind 3 := by decide +kernel
def f_Box_withKind (x0 : Int32) (x1 : Int32) (x2 : Int32) : Option Int32 := if x1 = 2 then (if x1 = 1 then ((f_Box_withBounds x0 x2 x2).bind fun v4 => some v4) else (if x1 = 3 then ((f_Box_withBounds x0 x2 x2).bind fun v9 => some v9) else ((f_Box_withBounds x0 x2 9).bind fun v7 => some v7))) else (if x1 = 3 then (if x1 = 1 then ((f_Box_withBounds x0 x2 x2).bind fun v21 => some v21) else (if x1 = 3 then ((f_Box_withBounds x0 x2 x2).bind fun v26 => some v26) else ((f_Box_withBounds x0 x2 9).bind fun v24 => some v24))) else (if x1 = 1 then ((f_Box_withBounds x0 0 x2).bind fun v13 => some v13) else (if x1 = 3 then ((f_Box_withBounds x0 0 x2).bind fun v18 => some v18) else ((f_Box_withBounds x0 0 9).bind fun v16 => some v16))))
set_option maxHeartbeats 4000000 in
set_option maxRecDepth 100000 in
theorem c_Box_withKind {l : Launch} {G : hp_G} {b : Nat} {σ : hp_H} {x0 : Int32} {x1 : Int32} {x2 : Int32} {r : Int32} (h : f_Box_withKind x0 x1 x2 = some r) : hp_Met l yX1_withKind cX1_withKind 5 (some .int) rm_Box_withKind G b [.int x0, .int x1, .int x2] σ (some (.int r)) σ 0 0 := by
  refine hp_met (by decide +kernel) (Nat.le_of_ble_eq_true rfl) (fun p e s m below meth c ls hX hlocks hr hnm hl hR => ?_)
  obtain ⟨hx, hb, hml, hown, hts⟩ := id hX.1
  have hl : lv_has ls 5 [(0, .int x0), (1, .int x1), (2, .int x2)] := hl
  unfold f_Box_withKind at h
  refine lv_iload_n hx hb dX1_withKind_0 rfl (lv_at hl 1 rfl) ?_
  refine lv_iconst (v := 2) hx hb dX1_withKind_1 (by decide) ?_
  refine lv_icmp_eq (tgt := 10) hx hb dX1_withKind_2 (by decide) (fun c1 => ?_) (fun c1 => ?_)
  · have h := hp_ip c1 h
    refine lv_iload_n hx hb dX1_withKind_10 rfl (lv_at hl 2 rfl) ?_
    refine lv_goto (tgt := 15) hx hb dX1_withKind_11 (by decide) ?_
    refine lv_istore_n (lv' := [(3, .int x2), (0, .int x0), (1, .int x1), (2, .int x2)]) hx hb dX1_withKind_15 rfl hl (by decide) rfl (fun ls hl => ?_)
    refine lv_iload_n hx hb dX1_withKind_16 rfl (lv_at hl 2 rfl) ?_
    refine lv_iconst (v := 1) hx hb dX1_withKind_17 (by decide) ?_
    refine lv_icmp_eq (tgt := 26) hx hb dX1_withKind_18 (by decide) (fun c2 => ?_) (fun c2 => ?_)
    · have h := hp_ip c2 h
      refine lv_iload_n hx hb dX1_withKind_26 rfl (lv_at hl 3 rfl) ?_
      refine lv_goto (tgt := 32) hx hb dX1_withKind_27 (by decide) ?_
      refine lv_istore (lv' := [(4, .int x2), (3, .int x2), (0, .int x0), (1, .int x1), (2, .int x2)]) hx hb dX1_withKind_32 hl (by decide) rfl (fun ls hl => ?_)
      refine lv_iload_n hx hb dX1_withKind_34 rfl (lv_at hl 2 rfl) ?_
      refine lv_iload_n hx hb dX1_withKind_35 rfl (lv_at hl 1 rfl) ?_
      refine lv_iload hx hb dX1_withKind_36 (lv_at hl 0 rfl) ?_
      refine hp_bn h (fun v4 h3 h => ?_)
      refine hp_ci hR (hp_runS (rest := []) (As := [.int x0, .int x2, .int x2]) hX hR (c_Box_withBounds h3) cs_X1_9 rfl rfl hd_Box_withBounds ⟨Nat.le_of_ble_eq_true rfl, Nat.le_of_ble_eq_true rfl⟩ rfl hl.1 rfl (Nat.le_of_ble_eq_true rfl) dX1_withKind_38 ⟨Nat.le_of_ble_eq_true rfl, Nat.le_of_ble_eq_true rfl⟩) (fun H locs hR => ?_)
      exact hp_iretP hX hlocks hr hR h dX1_withKind_41
    · have h := hp_in c2 h
      refine lv_iload_n hx hb dX1_withKind_21 rfl (lv_at hl 2 rfl) ?_
      refine lv_iconst (v := 3) hx hb dX1_withKind_22 (by decide) ?_
      refine lv_icmp_ne (tgt := 30) hx hb dX1_withKind_23 (by decide) (fun c5 => ?_) (fun c5 => ?_)
      · have h := hp_in c5 h
        refine lv_bipush (v := 9) hx hb dX1_withKind_30 (by decide) ?_
        refine lv_istore (lv' := [(4, .int 9), (3, .int x2), (0, .int x0), (1, .int x1), (2, .int x2)]) hx hb dX1_withKind_32 hl (by decide) rfl (fun ls hl => ?_)
        refine lv_iload_n hx hb dX1_withKind_34 rfl (lv_at hl 2 rfl) ?_
        refine lv_iload_n hx hb dX1_withKind_35 rfl (lv_at hl 1 rfl) ?_
        refine lv_iload hx hb dX1_withKind_36 (lv_at hl 0 rfl) ?_
        refine hp_bn h (fun v7 h6 h => ?_)
        refine hp_ci hR (hp_runS (rest := []) (As := [.int x0, .int x2, .int 9]) hX hR (c_Box_withBounds h6) cs_X1_9 rfl rfl hd_Box_withBounds ⟨Nat.le_of_ble_eq_true rfl, Nat.le_of_ble_eq_true rfl⟩ rfl hl.1 rfl (Nat.le_of_ble_eq_true rfl) dX1_withKind_38 ⟨Nat.le_of_ble_eq_true rfl, Nat.le_of_ble_eq_true rfl⟩) (fun H locs hR => ?_)
        exact hp_iretP hX hlocks hr hR h dX1_withKind_41
      · have h := hp_ip c5 h
        refine lv_iload_n hx hb dX1_withKind_26 rfl (lv_at hl 3 rfl) ?_
        refine lv_goto (tgt := 32) hx hb dX1_withKind_27 (by decide) ?_
        refine lv_istore (lv' := [(4, .int x2), (3, .int x2), (0, .int x0), (1, .int x1), (2, .int x2)]) hx hb dX1_withKind_32 hl (by decide) rfl (fun ls hl => ?_)
        refine lv_iload_n hx hb dX1_withKind_34 rfl (lv_at hl 2 rfl) ?_
        refine lv_iload_n hx hb dX1_withKind_35 rfl (lv_at hl 1 rfl) ?_
        refine lv_iload hx hb dX1_withKind_36 (lv_at hl 0 rfl) ?_
        refine hp_bn h (fun v9 h8 h => ?_)
        refine hp_ci hR (hp_runS (rest := []) (As := [.int x0, .int x2, .int x2]) hX hR (c_Box_withBounds h8) cs_X1_9 rfl rfl hd_Box_withBounds ⟨Nat.le_of_ble_eq_true rfl, Nat.le_of_ble_eq_true rfl⟩ rfl hl.1 rfl (Nat.le_of_ble_eq_true rfl) dX1_withKind_38 ⟨Nat.le_of_ble_eq_true rfl, Nat.le_of_ble_eq_true rfl⟩) (fun H locs hR => ?_)
        exact hp_iretP hX hlocks hr hR h dX1_withKind_41
  · have h := hp_in c1 h
    refine lv_iload_n hx hb dX1_withKind_5 rfl (lv_at hl 1 rfl) ?_
    refine lv_iconst (v := 3) hx hb dX1_withKind_6 (by decide) ?_
    refine lv_icmp_ne (tgt := 14) hx hb dX1_withKind_7 (by decide) (fun c10 => ?_) (fun c10 => ?_)
    · have h := hp_in c10 h
      refine lv_iconst (v := 0) hx hb dX1_withKind_14 (by decide) ?_
      refine lv_istore_n (lv' := [(3, .int 0), (0, .int x0), (1, .int x1), (2, .int x2)]) hx hb dX1_withKind_15 rfl hl (by decide) rfl (fun ls hl => ?_)
      refine lv_iload_n hx hb dX1_withKind_16 rfl (lv_at hl 2 rfl) ?_
      refine lv_iconst (v := 1) hx hb dX1_withKind_17 (by decide) ?_
      refine lv_icmp_eq (tgt := 26) hx hb dX1_withKind_18 (by decide) (fun c11 => ?_) (fun c11 => ?_)
      · have h := hp_ip c11 h
        refine lv_iload_n hx hb dX1_withKind_26 rfl (lv_at hl 3 rfl) ?_
        refine lv_goto (tgt := 32) hx hb dX1_withKind_27 (by decide) ?_
        refine lv_istore (lv' := [(4, .int x2), (3, .int 0), (0, .int x0), (1, .int x1), (2, .int x2)]) hx hb dX1_withKind_32 hl (by decide) rfl (fun ls hl => ?_)
        refine lv_iload_n hx hb dX1_withKind_34 rfl (lv_at hl 2 rfl) ?_
        refine lv_iload_n hx hb dX1_withKind_35 rfl (lv_at hl 1 rfl) ?_
        refine lv_iload hx hb dX1_withKind_36 (lv_at hl 0 rfl) ?_
        refine hp_bn h (fun v13 h12 h => ?_)
        refine hp_ci hR (hp_runS (rest := []) (As := [.int x0, .int 0, .int x2]) hX hR (c_Box_withBounds h12) cs_X1_9 rfl rfl hd_Box_withBounds ⟨Nat.le_of_ble_eq_true rfl, Nat.le_of_ble_eq_true rfl⟩ rfl hl.1 rfl (Nat.le_of_ble_eq_true rfl) dX1_withKind_38 ⟨Nat.le_of_ble_eq_true rfl, Nat.le_of_ble_eq_true rfl⟩) (fun H locs hR => ?_)
        exact hp_iretP hX hlocks hr hR h dX1_withKind_41
      · have h := hp_in c11 h
        refine lv_iload_n hx hb dX1_withKind_21 rfl (lv_at hl 2 rfl) ?_
        refine lv_iconst (v := 3) hx hb dX1_withKind_22 (by decide) ?_
        refine lv_icmp_ne (tgt := 30) hx hb dX1_withKind_23 (by decide) (fun c14 => ?_) (fun c14 => ?_)
        · have h := hp_in c14 h
          refine lv_bipush (v := 9) hx hb dX1_withKind_30 (by decide) ?_
          refine lv_istore (lv' := [(4, .int 9), (3, .int 0), (0, .int x0), (1, .int x1), (2, .int x2)]) hx hb dX1_withKind_32 hl (by decide) rfl (fun ls hl => ?_)
          refine lv_iload_n hx hb dX1_withKind_34 rfl (lv_at hl 2 rfl) ?_
          refine lv_iload_n hx hb dX1_withKind_35 rfl (lv_at hl 1 rfl) ?_
          refine lv_iload hx hb dX1_withKind_36 (lv_at hl 0 rfl) ?_
          refine hp_bn h (fun v16 h15 h => ?_)
          refine hp_ci hR (hp_runS (rest := []) (As := [.int x0, .int 0, .int 9]) hX hR (c_Box_withBounds h15) cs_X1_9 rfl rfl hd_Box_withBounds ⟨Nat.le_of_ble_eq_true rfl, Nat.le_of_ble_eq_true rfl⟩ rfl hl.1 rfl (Nat.le_of_ble_eq_true rfl) dX1_withKind_38 ⟨Nat.le_of_ble_eq_true rfl, Nat.le_of_ble_eq_true rfl⟩) (fun H locs hR => ?_)
          exact hp_iretP hX hlocks hr hR h dX1_withKind_41
        · have h := hp_ip c14 h
          refine lv_iload_n hx hb dX1_withKind_26 rfl (lv_at hl 3 rfl) ?_
          refine lv_goto (tgt := 32) hx hb dX1_withKind_27 (by decide) ?_
          refine lv_istore (lv' := [(4, .int x2), (3, .int 0), (0, .int x0), (1, .int x1), (2, .int x2)]) hx hb dX1_withKind_32 hl (by decide) rfl (fun ls hl => ?_)
          refine lv_iload_n hx hb dX1_withKind_34 rfl (lv_at hl 2 rfl) ?_
          refine lv_iload_n hx hb dX1_withKind_35 rfl (lv_at hl 1 rfl) ?_
          refine lv_iload hx hb dX1_withKind_36 (lv_at hl 0 rfl) ?_
          refine hp_bn h (fun v18 h17 h => ?_)
          refine hp_ci hR (hp_runS (rest := []) (As := [.int x0, .int 0, .int x2]) hX hR (c_Box_withBounds h17) cs_X1_9 rfl rfl hd_Box_withBounds ⟨Nat.le_of_ble_eq_true rfl, Nat.le_of_ble_eq_true rfl⟩ rfl hl.1 rfl (Nat.le_of_ble_eq_true rfl) dX1_withKind_38 ⟨Nat.le_of_ble_eq_true rfl, Nat.le_of_ble_eq_true rfl⟩) (fun H locs hR => ?_)
          exact hp_iretP hX hlocks hr hR h dX1_withKind_41
    · have h := hp_ip c10 h
      refine lv_iload_n hx hb dX1_withKind_10 rfl (lv_at hl 2 rfl) ?_
      refine lv_goto (tgt := 15) hx hb dX1_withKind_11 (by decide) ?_
      refine lv_istore_n (lv' := [(3, .int x2), (0, .int x0), (1, .int x1), (2, .int x2)]) hx hb dX1_withKind_15 rfl hl (by decide) rfl (fun ls hl => ?_)
      refine lv_iload_n hx hb dX1_withKind_16 rfl (lv_at hl 2 rfl) ?_
      refine lv_iconst (v := 1) hx hb dX1_withKind_17 (by decide) ?_
      refine lv_icmp_eq (tgt := 26) hx hb dX1_withKind_18 (by decide) (fun c19 => ?_) (fun c19 => ?_)
      · have h := hp_ip c19 h
        refine lv_iload_n hx hb dX1_withKind_26 rfl (lv_at hl 3 rfl) ?_
        refine lv_goto (tgt := 32) hx hb dX1_withKind_27 (by decide) ?_
        refine lv_istore (lv' := [(4, .int x2), (3, .int x2), (0, .int x0), (1, .int x1), (2, .int x2)]) hx hb dX1_withKind_32 hl (by decide) rfl (fun ls hl => ?_)
        refine lv_iload_n hx hb dX1_withKind_34 rfl (lv_at hl 2 rfl) ?_
        refine lv_iload_n hx hb dX1_withKind_35 rfl (lv_at hl 1 rfl) ?_
        refine lv_iload hx hb dX1_withKind_36 (lv_at hl 0 rfl) ?_
        refine hp_bn h (fun v21 h20 h => ?_)
        refine hp_ci hR (hp_runS (rest := []) (As := [.int x0, .int x2, .int x2]) hX hR (c_Box_withBounds h20) cs_X1_9 rfl rfl hd_Box_withBounds ⟨Nat.le_of_ble_eq_true rfl, Nat.le_of_ble_eq_true rfl⟩ rfl hl.1 rfl (Nat.le_of_ble_eq_true rfl) dX1_withKind_38 ⟨Nat.le_of_ble_eq_true rfl, Nat.le_of_ble_eq_true rfl⟩) (fun H locs hR => ?_)
        exact hp_iretP hX hlocks hr hR h dX1_withKind_41
      · have h := hp_in c19 h
        refine lv_iload_n hx hb dX1_withKind_21 rfl (lv_at hl 2 rfl) ?_
        refine lv_iconst (v := 3) hx hb dX1_withKind_22 (by decide) ?_
        refine lv_icmp_ne (tgt := 30) hx hb dX1_withKind_23 (by decide) (fun c22 => ?_) (fun c22 => ?_)
        · have h := hp_in c22 h
          refine lv_bipush (v := 9) hx hb dX1_withKind_30 (by decide) ?_
          refine lv_istore (lv' := [(4, .int 9), (3, .int x2), (0, .int x0), (1, .int x1), (2, .int x2)]) hx hb dX1_withKind_32 hl (by decide) rfl (fun ls hl => ?_)
          refine lv_iload_n hx hb dX1_withKind_34 rfl (lv_at hl 2 rfl) ?_
          refine lv_iload_n hx hb dX1_withKind_35 rfl (lv_at hl 1 rfl) ?_
          refine lv_iload hx hb dX1_withKind_36 (lv_at hl 0 rfl) ?_
          refine hp_bn h (fun v24 h23 h => ?_)
          refine hp_ci hR (hp_runS (rest := []) (As := [.int x0, .int x2, .int 9]) hX hR (c_Box_withBounds h23) cs_X1_9 rfl rfl hd_Box_withBounds ⟨Nat.le_of_ble_eq_true rfl, Nat.le_of_ble_eq_true rfl⟩ rfl hl.1 rfl (Nat.le_of_ble_eq_true rfl) dX1_withKind_38 ⟨Nat.le_of_ble_eq_true rfl, Nat.le_of_ble_eq_true rfl⟩) (fun H locs hR => ?_)
          exact hp_iretP hX hlocks hr hR h dX1_withKind_41
        · have h := hp_ip c22 h
          refine lv_iload_n hx hb dX1_withKind_26 rfl (lv_at hl 3 rfl) ?_
          refine lv_goto (tgt := 32) hx hb dX1_withKind_27 (by decide) ?_
          refine lv_istore (lv' := [(4, .int x2), (3, .int x2), (0, .int x0), (1, .int x1), (2, .int x2)]) hx hb dX1_withKind_32 hl (by decide) rfl (fun ls hl => ?_)
          refine lv_iload_n hx hb dX1_withKind_34 rfl (lv_at hl 2 rfl) ?_
          refine lv_iload_n hx hb dX1_withKind_35 rfl (lv_at hl 1 rfl) ?_
          refine lv_iload hx hb dX1_withKind_36 (lv_at hl 0 rfl) ?_
          refine hp_bn h (fun v26 h25 h => ?_)
          refine hp_ci hR (hp_runS (rest := []) (As := [.int x0, .int x2, .int x2]) hX hR (c_Box_withBounds h25) cs_X1_9 rfl rfl hd_Box_withBounds ⟨Nat.le_of_ble_eq_true rfl, Nat.le_of_ble_eq_true rfl⟩ rfl hl.1 rfl (Nat.le_of_ble_eq_true rfl) dX1_withKind_38 ⟨Nat.le_of_ble_eq_true rfl, Nat.le_of_ble_eq_true rfl⟩) (fun H locs hR => ?_)
          exact hp_iretP hX hlocks hr hR h dX1_withKind_41
/-! Box.bound(II)I -/
abbrev rm_Box_bound : Room := { frames := 0, cells := 0, slots := 0, locals := 0 }
theorem hd_Box_bound : hp_d yX1_bound 2 := by decide +kernel
def f_Box_bound (x0 : Int32) (x1 : Int32) : Option Int32 := some ((x0 >>> (((20 : Int32) - ((4 : Int32) * x1)) &&& 31)) &&& 15)
set_option maxHeartbeats 4000000 in
set_option maxRecDepth 100000 in
theorem c_Box_bound {l : Launch} {G : hp_G} {b : Nat} {σ : hp_H} {x0 : Int32} {x1 : Int32} {r : Int32} (h : f_Box_bound x0 x1 = some r) : hp_Met l yX1_bound cX1_bound 2 (some .int) rm_Box_bound G b [.int x0, .int x1] σ (some (.int r)) σ 0 0 := by
  refine hp_met (by decide +kernel) (Nat.le_of_ble_eq_true rfl) (fun p e s m below meth c ls hX hlocks hr hnm hl hR => ?_)
  obtain ⟨hx, hb, hml, hown, hts⟩ := id hX.1
  have hl : lv_has ls 2 [(0, .int x0), (1, .int x1)] := hl
  unfold f_Box_bound at h
  refine lv_iload_n hx hb dX1_bound_0 rfl (lv_at hl 0 rfl) ?_
  refine lv_bipush (v := 20) hx hb dX1_bound_1 (by decide) ?_
  refine lv_iconst (v := 4) hx hb dX1_bound_3 (by decide) ?_
  refine lv_iload_n hx hb dX1_bound_4 rfl (lv_at hl 1 rfl) ?_
  refine lv_imul hx hb dX1_bound_5 ?_
  refine lv_isub hx hb dX1_bound_6 ?_
  refine lv_ishr hx hb dX1_bound_7 ?_
  refine lv_bipush (v := 15) hx hb dX1_bound_8 (by decide) ?_
  refine lv_iand hx hb dX1_bound_10 ?_
  exact hp_iretP hX hlocks hr hR h dX1_bound_11
/-! Box.from(II)I -/
abbrev rm_Box_from : Room := { frames := 0, cells := 0, slots := 0, locals := 0 }
theorem hd_Box_from : hp_d yX1_from 2 := by decide +kernel
def f_Box_from (x0 : Int32) (x1 : Int32) : Option Int32 := some ((x0 >>> (((20 : Int32) - ((8 : Int32) * x1)) &&& 31)) &&& 15)
set_option maxHeartbeats 4000000 in
set_option maxRecDepth 100000 in
theorem c_Box_from {l : Launch} {G : hp_G} {b : Nat} {σ : hp_H} {x0 : Int32} {x1 : Int32} {r : Int32} (h : f_Box_from x0 x1 = some r) : hp_Met l yX1_from cX1_from 2 (some .int) rm_Box_from G b [.int x0, .int x1] σ (some (.int r)) σ 0 0 := by
  refine hp_met (by decide +kernel) (Nat.le_of_ble_eq_true rfl) (fun p e s m below meth c ls hX hlocks hr hnm hl hR => ?_)
  obtain ⟨hx, hb, hml, hown, hts⟩ := id hX.1
  have hl : lv_has ls 2 [(0, .int x0), (1, .int x1)] := hl
  unfold f_Box_from at h
  refine lv_iload_n hx hb dX1_from_0 rfl (lv_at hl 0 rfl) ?_
  refine lv_bipush (v := 20) hx hb dX1_from_1 (by decide) ?_
  refine lv_bipush (v := 8) hx hb dX1_from_3 (by decide) ?_
  refine lv_iload_n hx hb dX1_from_5 rfl (lv_at hl 1 rfl) ?_
  refine lv_imul hx hb dX1_from_6 ?_
  refine lv_isub hx hb dX1_from_7 ?_
  refine lv_ishr hx hb dX1_from_8 ?_
  refine lv_bipush (v := 15) hx hb dX1_from_9 (by decide) ?_
  refine lv_iand hx hb dX1_from_11 ?_
  exact hp_iretP hX hlocks hr hR h dX1_from_12
/-! Box.to(II)I -/
abbrev rm_Box_to : Room := { frames := 0, cells := 0, slots := 0, locals := 0 }
theorem hd_Box_to : hp_d yX1_to 2 := by decide +kernel
def f_Box_to (x0 : Int32) (x1 : Int32) : Option Int32 := some ((x0 >>> (((16 : Int32) - ((8 : Int32) * x1)) &&& 31)) &&& 15)
set_option maxHeartbeats 4000000 in
set_option maxRecDepth 100000 in
theorem c_Box_to {l : Launch} {G : hp_G} {b : Nat} {σ : hp_H} {x0 : Int32} {x1 : Int32} {r : Int32} (h : f_Box_to x0 x1 = some r) : hp_Met l yX1_to cX1_to 2 (some .int) rm_Box_to G b [.int x0, .int x1] σ (some (.int r)) σ 0 0 := by
  refine hp_met (by decide +kernel) (Nat.le_of_ble_eq_true rfl) (fun p e s m below meth c ls hX hlocks hr hnm hl hR => ?_)
  obtain ⟨hx, hb, hml, hown, hts⟩ := id hX.1
  have hl : lv_has ls 2 [(0, .int x0), (1, .int x1)] := hl
  unfold f_Box_to at h
  refine lv_iload_n hx hb dX1_to_0 rfl (lv_at hl 0 rfl) ?_
  refine lv_bipush (v := 16) hx hb dX1_to_1 (by decide) ?_
  refine lv_bipush (v := 8) hx hb dX1_to_3 (by decide) ?_
  refine lv_iload_n hx hb dX1_to_5 rfl (lv_at hl 1 rfl) ?_
  refine lv_imul hx hb dX1_to_6 ?_
  refine lv_isub hx hb dX1_to_7 ?_
  refine lv_ishr hx hb dX1_to_8 ?_
  refine lv_bipush (v := 15) hx hb dX1_to_9 (by decide) ?_
  refine lv_iand hx hb dX1_to_11 ?_
  exact hp_iretP hX hlocks hr hR h dX1_to_12
theorem cs_X1_15 : hp_WS RX1 15 yX1_to cX1_to 2 (some .int) := ⟨wq2_75, wq2_76, wq1_12, wq2_77⟩
theorem cs_X1_19 : hp_WS RX1 19 yX1_from cX1_from 2 (some .int) := ⟨wq2_72, wq2_73, wq1_12, wq2_74⟩
/-! Box.size(I)I -/
abbrev rm_Box_size : Room := { frames := 1, cells := 0, slots := 0, locals := 21 }
theorem hd_Box_size : hp_d yX1_size 1 := by decide +kernel
def f_Box_size_l1 (x0 : Int32) (K : Int32 → Int32 → Option Int32) : Nat → Int32 → Int32 → Option Int32
  | 0, _, _ => none
  | n + 1, x1, x2 => if (3 : Int32) ≤ x2 then (K x1 x2) else ((f_Box_to x0 x2).bind fun v3 => (f_Box_from x0 x2).bind fun v5 => f_Box_size_l1 x0 K n (x1 * ((v3 - v5) + 1)) (x2 + 1))
def f_Box_size (x0 : Int32) : Option Int32 := f_Box_size_l1 x0 (fun z6 z7 => some z6) hp_F 1 0
set_option maxHeartbeats 4000000 in
set_option maxRecDepth 100000 in
theorem w_Box_size_l1 {p : Program} {l : Launch} {e : Env} {s : State} {m : MethodId} {args : Array Value} {below : List Frame} {meth : Method} {c : Code} {G : hp_G} {b : Nat} {σ : hp_H} {x0 : Int32} {r : Int32} {K : Int32 → Int32 → Option Int32} (hX : hp_X G p s m c args cX1_size 3 RX1) (hlocks : meth.locks = false) (hr : meth.sig.returnType = (some .int))
    (hK : ∀ (x1 : Int32) (x2 : Int32) (H : Heap) (locs : List Loc) (ls : Array Slot), hp_R G b s.heap σ H locs → lv_has ls 3 [(1, .int x1)] → K x1 x2 = some r → W p l e rm_Box_size s m args below meth c H locs 0 0 (MQ below (hp_Qc G b (some (.int r)) σ) args s 0 0 (fun q => b ≤ q)) (F0 m 31 ls [])) :
    ∀ (n : Nat) (x1 : Int32) (x2 : Int32) (H : Heap) (locs : List Loc) (ls : Array Slot), hp_R G b s.heap σ H locs → f_Box_size_l1 x0 K n x1 x2 = some r → lv_has ls 3 [(0, .int x0), (1, .int x1), (2, .int x2)] → W p l e rm_Box_size s m args below meth c H locs 0 0 (MQ below (hp_Qc G b (some (.int r)) σ) args s 0 0 (fun q => b ≤ q)) (F0 m 4 ls []) := by
  obtain ⟨hx, hb, hml, hown, hts⟩ := id hX.1
  intro n
  induction n with
  | zero =>
    intro x1 x2 H locs ls hR h hl
    rw [f_Box_size_l1] at h
    cases h
  | succ n ih =>
    intro x1 x2 H locs ls hR h hl
    rw [f_Box_size_l1] at h
    refine lv_iload_n hx hb dX1_size_4 rfl (lv_at hl 2 rfl) ?_
    refine lv_iconst (v := 3) hx hb dX1_size_5 (by decide) ?_
    refine lv_icmp_ge (tgt := 31) hx hb dX1_size_6 (by decide) (fun c1 => ?_) (fun c1 => ?_)
    · have h := hp_ip c1 h
      exact hK _ _ _ _ _ hR (lv_sub hl [1] rfl) h
    · have h := hp_in c1 h
      refine lv_iload_n hx hb dX1_size_9 rfl (lv_at hl 1 rfl) ?_
      refine lv_iload_n hx hb dX1_size_10 rfl (lv_at hl 0 rfl) ?_
      refine lv_iload_n hx hb dX1_size_11 rfl (lv_at hl 2 rfl) ?_
      refine hp_bn h (fun v3 h2 h => ?_)
      refine hp_ci hR (hp_runS (rest := [.int x1]) (As := [.int x0, .int x2]) hX hR (c_Box_to h2) cs_X1_15 rfl rfl hd_Box_to ⟨Nat.le_of_ble_eq_true rfl, Nat.le_of_ble_eq_true rfl⟩ rfl hl.1 rfl (Nat.le_of_ble_eq_true rfl) dX1_size_12 ⟨Nat.le_of_ble_eq_true rfl, Nat.le_of_ble_eq_true rfl⟩) (fun H locs hR => ?_)
      refine lv_iload_n hx hb dX1_size_15 rfl (lv_at hl 0 rfl) ?_
      refine lv_iload_n hx hb dX1_size_16 rfl (lv_at hl 2 rfl) ?_
      refine hp_bn h (fun v5 h4 h => ?_)
      refine hp_ci hR (hp_runS (rest := [.int v3, .int x1]) (As := [.int x0, .int x2]) hX hR (c_Box_from h4) cs_X1_19 rfl rfl hd_Box_from ⟨Nat.le_of_ble_eq_true rfl, Nat.le_of_ble_eq_true rfl⟩ rfl hl.1 rfl (Nat.le_of_ble_eq_true rfl) dX1_size_17 ⟨Nat.le_of_ble_eq_true rfl, Nat.le_of_ble_eq_true rfl⟩) (fun H locs hR => ?_)
      refine lv_isub hx hb dX1_size_20 ?_
      refine lv_iconst (v := 1) hx hb dX1_size_21 (by decide) ?_
      refine lv_iadd hx hb dX1_size_22 ?_
      refine lv_imul hx hb dX1_size_23 ?_
      refine lv_istore_n (lv' := [(1, .int (x1 * ((v3 - v5) + 1))), (0, .int x0), (2, .int x2)]) hx hb dX1_size_24 rfl hl (by decide) rfl (fun ls hl => ?_)
      refine lv_iinc (v := (x2 + 1)) (lv' := [(2, .int (x2 + 1)), (1, .int (x1 * ((v3 - v5) + 1))), (0, .int x0)]) hx hb dX1_size_25 hl (k := 2) rfl rfl (by decide) rfl (fun ls hl => ?_)
      refine lv_goto (tgt := 4) hx hb dX1_size_28 (by decide) ?_
      exact ih _ _ _ _ _ hR h (lv_sub hl [2, 1, 0] rfl)
set_option maxHeartbeats 4000000 in
set_option maxRecDepth 100000 in
theorem c_Box_size {l : Launch} {G : hp_G} {b : Nat} {σ : hp_H} {x0 : Int32} {r : Int32} (h : f_Box_size x0 = some r) : hp_Met l yX1_size cX1_size 3 (some .int) rm_Box_size G b [.int x0] σ (some (.int r)) σ 0 0 := by
  refine hp_met (by decide +kernel) (Nat.le_of_ble_eq_true rfl) (fun p e s m below meth c ls hX hlocks hr hnm hl hR => ?_)
  obtain ⟨hx, hb, hml, hown, hts⟩ := id hX.1
  have hl : lv_has ls 3 [(0, .int x0)] := hl
  unfold f_Box_size at h
  refine lv_iconst (v := 1) hx hb dX1_size_0 (by decide) ?_
  refine lv_istore_n (lv' := [(1, .int 1), (0, .int x0)]) hx hb dX1_size_1 rfl hl (by decide) rfl (fun ls hl => ?_)
  refine lv_iconst (v := 0) hx hb dX1_size_2 (by decide) ?_
  refine lv_istore_n (lv' := [(2, .int 0), (1, .int 1), (0, .int x0)]) hx hb dX1_size_3 rfl hl (by decide) rfl (fun ls hl => ?_)
  refine w_Box_size_l1 hX hlocks hr ?_ hp_F _ _ _ _ _ hR h (lv_sub hl [2, 1, 0] rfl)
  intro z6 z7 H locs ls hR hl h
  refine lv_iload_n hx hb dX1_size_31 rfl (lv_at hl 0 rfl) ?_
  exact hp_iretP hX hlocks hr hR h dX1_size_32
/-! Math.max(II)I -/
abbrev rm_Math_max : Room := { frames := 0, cells := 0, slots := 0, locals := 0 }
theorem hd_Math_max : hp_d yJ9_max_7cf53 2 := by decide +kernel
def f_Math_max (x0 : Int32) (x1 : Int32) : Option Int32 := if x0 < x1 then (some x1) else (some x0)
set_option maxHeartbeats 4000000 in
set_option maxRecDepth 100000 in
theorem c_Math_max {l : Launch} {G : hp_G} {b : Nat} {σ : hp_H} {x0 : Int32} {x1 : Int32} {r : Int32} (h : f_Math_max x0 x1 = some r) : hp_Met l yJ9_max_7cf53 cJ9_max_7cf53 2 (some .int) rm_Math_max G b [.int x0, .int x1] σ (some (.int r)) σ 0 0 := by
  refine hp_metF (by decide +kernel) (Nat.le_of_ble_eq_true rfl) (fun p e s m below meth c ls hX hlocks hr hnm hl hR => ?_)
  obtain ⟨hx, hb, hml, hown, hts⟩ := id hX.1
  have hl : lv_has ls 2 [(0, .int x0), (1, .int x1)] := hl
  unfold f_Math_max at h
  refine lv_iload_n hx hb dJ9_max_7cf53_0 rfl (lv_at hl 0 rfl) ?_
  refine lv_iload_n hx hb dJ9_max_7cf53_1 rfl (lv_at hl 1 rfl) ?_
  refine lv_icmp_lt (tgt := 9) hx hb dJ9_max_7cf53_2 (by decide) (fun c1 => ?_) (fun c1 => ?_)
  · have h := hp_ip c1 h
    refine lv_iload_n hx hb dJ9_max_7cf53_9 rfl (lv_at hl 1 rfl) ?_
    exact hp_iretP hX hlocks hr hR h dJ9_max_7cf53_10
  · have h := hp_in c1 h
    refine lv_iload_n hx hb dJ9_max_7cf53_5 rfl (lv_at hl 0 rfl) ?_
    refine lv_goto (tgt := 10) hx hb dJ9_max_7cf53_6 (by decide) ?_
    exact hp_iretP hX hlocks hr hR h dJ9_max_7cf53_10
/-! Math.min(II)I -/
abbrev rm_Math_min : Room := { frames := 0, cells := 0, slots := 0, locals := 0 }
theorem hd_Math_min : hp_d yJ9_min_7cf53 2 := by decide +kernel
def f_Math_min (x0 : Int32) (x1 : Int32) : Option Int32 := if x1 < x0 then (some x1) else (some x0)
set_option maxHeartbeats 4000000 in
set_option maxRecDepth 100000 in
theorem c_Math_min {l : Launch} {G : hp_G} {b : Nat} {σ : hp_H} {x0 : Int32} {x1 : Int32} {r : Int32} (h : f_Math_min x0 x1 = some r) : hp_Met l yJ9_min_7cf53 cJ9_min_7cf53 2 (some .int) rm_Math_min G b [.int x0, .int x1] σ (some (.int r)) σ 0 0 := by
  refine hp_metF (by decide +kernel) (Nat.le_of_ble_eq_true rfl) (fun p e s m below meth c ls hX hlocks hr hnm hl hR => ?_)
  obtain ⟨hx, hb, hml, hown, hts⟩ := id hX.1
  have hl : lv_has ls 2 [(0, .int x0), (1, .int x1)] := hl
  unfold f_Math_min at h
  refine lv_iload_n hx hb dJ9_min_7cf53_0 rfl (lv_at hl 0 rfl) ?_
  refine lv_iload_n hx hb dJ9_min_7cf53_1 rfl (lv_at hl 1 rfl) ?_
  refine lv_icmp_gt (tgt := 9) hx hb dJ9_min_7cf53_2 (by decide) (fun c1 => ?_) (fun c1 => ?_)
  · have h := hp_ip c1 h
    refine lv_iload_n hx hb dJ9_min_7cf53_9 rfl (lv_at hl 1 rfl) ?_
    exact hp_iretP hX hlocks hr hR h dJ9_min_7cf53_10
  · have h := hp_in c1 h
    refine lv_iload_n hx hb dJ9_min_7cf53_5 rfl (lv_at hl 0 rfl) ?_
    refine lv_goto (tgt := 10) hx hb dJ9_min_7cf53_6 (by decide) ?_
    exact hp_iretP hX hlocks hr hR h dJ9_min_7cf53_10
theorem cs_X1_22 : hp_WS RX1 22 yJ9_max_7cf53 cJ9_max_7cf53 2 (some .int) := ⟨wq2_110, wq2_111, wq1_13, wq2_112⟩
theorem cs_X1_27 : hp_WS RX1 27 yJ9_min_7cf53 cJ9_min_7cf53 2 (some .int) := ⟨wq2_107, wq2_108, wq1_13, wq2_109⟩
/-! Box.sizeOfCommon(II)I -/
abbrev rm_Box_sizeOfCommon : Room := { frames := 1, cells := 0, slots := 0, locals := 21 }
theorem hd_Box_sizeOfCommon : hp_d yX1_sizeOfCommon 2 := by decide +kernel
def f_Box_sizeOfCommon_l1 (x0 : Int32) (x1 : Int32) (K : Int32 → Int32 → Option Int32) : Nat → Int32 → Int32 → Option Int32
  | 0, _, _ => none
  | n + 1, x2, x3 => if (3 : Int32) ≤ x3 then (K x2 x3) else ((f_Box_from x0 x3).bind fun v3 => (f_Box_from x1 x3).bind fun v5 => (f_Math_max v3 v5).bind fun v7 => (f_Box_to x0 x3).bind fun v9 => (f_Box_to x1 x3).bind fun v11 => (f_Math_min v9 v11).bind fun v13 => (f_Math_max 0 ((v13 - v7) + 1)).bind fun v15 => f_Box_sizeOfCommon_l1 x0 x1 K n (x2 * v15) (x3 + 1))
def f_Box_sizeOfCommon (x0 : Int32) (x1 : Int32) : Option Int32 := f_Box_sizeOfCommon_l1 x0 x1 (fun z16 z17 => some z16) hp_F 1 0
set_option maxHeartbeats 4000000 in
set_option maxRecDepth 100000 in
theorem w_Box_sizeOfCommon_l1 {p : Program} {l : Launch} {e : Env} {s : State} {m : MethodId} {args : Array Value} {below : List Frame} {meth : Method} {c : Code} {G : hp_G} {b : Nat} {σ : hp_H} {x0 : Int32} {x1 : Int32} {r : Int32} {K : Int32 → Int32 → Option Int32} (hX : hp_X G p s m c args cX1_sizeOfCommon 6 RX1) (hlocks : meth.locks = false) (hr : meth.sig.returnType = (some .int))
    (hK : ∀ (x2 : Int32) (x3 : Int32) (H : Heap) (locs : List Loc) (ls : Array Slot), hp_R G b s.heap σ H locs → lv_has ls 6 [(2, .int x2)] → K x2 x3 = some r → W p l e rm_Box_sizeOfCommon s m args below meth c H locs 0 0 (MQ below (hp_Qc G b (some (.int r)) σ) args s 0 0 (fun q => b ≤ q)) (F0 m 59 ls [])) :
    ∀ (n : Nat) (x2 : Int32) (x3 : Int32) (H : Heap) (locs : List Loc) (ls : Array Slot), hp_R G b s.heap σ H locs → f_Box_sizeOfCommon_l1 x0 x1 K n x2 x3 = some r → lv_has ls 6 [(0, .int x0), (1, .int x1), (2, .int x2), (3, .int x3)] → W p l e rm_Box_sizeOfCommon s m args below meth c H locs 0 0 (MQ below (hp_Qc G b (some (.int r)) σ) args s 0 0 (fun q => b ≤ q)) (F0 m 4 ls []) := by
  obtain ⟨hx, hb, hml, hown, hts⟩ := id hX.1
  intro n
  induction n with
  | zero =>
    intro x2 x3 H locs ls hR h hl
    rw [f_Box_sizeOfCommon_l1] at h
    cases h
  | succ n ih =>
    intro x2 x3 H locs ls hR h hl
    rw [f_Box_sizeOfCommon_l1] at h
    refine lv_iload_n hx hb dX1_sizeOfCommon_4 rfl (lv_at hl 3 rfl) ?_
    refine lv_iconst (v := 3) hx hb dX1_sizeOfCommon_5 (by decide) ?_
    refine lv_icmp_ge (tgt := 59) hx hb dX1_sizeOfCommon_6 (by decide) (fun c1 => ?_) (fun c1 => ?_)
    · have h := hp_ip c1 h
      exact hK _ _ _ _ _ hR (lv_sub hl [2] rfl) h
    · have h := hp_in c1 h
      refine lv_iload_n hx hb dX1_sizeOfCommon_9 rfl (lv_at hl 0 rfl) ?_
      refine lv_iload_n hx hb dX1_sizeOfCommon_10 rfl (lv_at hl 3 rfl) ?_
      refine hp_bn h (fun v3 h2 h => ?_)
      refine hp_ci hR (hp_runS (rest := []) (As := [.int x0, .int x3]) hX hR (c_Box_from h2) cs_X1_19 rfl rfl hd_Box_from ⟨Nat.le_of_ble_eq_true rfl, Nat.le_of_ble_eq_true rfl⟩ rfl hl.1 rfl (Nat.le_of_ble_eq_true rfl) dX1_sizeOfCommon_11 ⟨Nat.le_of_ble_eq_true rfl, Nat.le_of_ble_eq_true rfl⟩) (fun H locs hR => ?_)
      refine lv_iload_n hx hb dX1_sizeOfCommon_14 rfl (lv_at hl 1 rfl) ?_
      refine lv_iload_n hx hb dX1_sizeOfCommon_15 rfl (lv_at hl 3 rfl) ?_
      refine hp_bn h (fun v5 h4 h => ?_)
      refine hp_ci hR (hp_runS (rest := [.int v3]) (As := [.int x1, .int x3]) hX hR (c_Box_from h4) cs_X1_19 rfl rfl hd_Box_from ⟨Nat.le_of_ble_eq_true rfl, Nat.le_of_ble_eq_true rfl⟩ rfl hl.1 rfl (Nat.le_of_ble_eq_true rfl) dX1_sizeOfCommon_16 ⟨Nat.le_of_ble_eq_true rfl, Nat.le_of_ble_eq_true rfl⟩) (fun H locs hR => ?_)
      refine hp_bn h (fun v7 h6 h => ?_)
      refine hp_ci hR (hp_runS (rest := []) (As := [.int v3, .int v5]) hX hR (c_Math_max h6) cs_X1_22 rfl rfl hd_Math_max ⟨Nat.le_of_ble_eq_true rfl, Nat.le_of_ble_eq_true rfl⟩ rfl hl.1 rfl (Nat.le_of_ble_eq_true rfl) dX1_sizeOfCommon_19 ⟨Nat.le_of_ble_eq_true rfl, Nat.le_of_ble_eq_true rfl⟩) (fun H locs hR => ?_)
      refine lv_istore (lv' := [(4, .int v7), (0, .int x0), (1, .int x1), (2, .int x2), (3, .int x3)]) hx hb dX1_sizeOfCommon_22 hl (by decide) rfl (fun ls hl => ?_)
      refine lv_iload_n hx hb dX1_sizeOfCommon_24 rfl (lv_at hl 1 rfl) ?_
      refine lv_iload_n hx hb dX1_sizeOfCommon_25 rfl (lv_at hl 4 rfl) ?_
      refine hp_bn h (fun v9 h8 h => ?_)
      refine hp_ci hR (hp_runS (rest := []) (As := [.int x0, .int x3]) hX hR (c_Box_to h8) cs_X1_15 rfl rfl hd_Box_to ⟨Nat.le_of_ble_eq_true rfl, Nat.le_of_ble_eq_true rfl⟩ rfl hl.1 rfl (Nat.le_of_ble_eq_true rfl) dX1_sizeOfCommon_26 ⟨Nat.le_of_ble_eq_true rfl, Nat.le_of_ble_eq_true rfl⟩) (fun H locs hR => ?_)
      refine lv_iload_n hx hb dX1_sizeOfCommon_29 rfl (lv_at hl 2 rfl) ?_
      refine lv_iload_n hx hb dX1_sizeOfCommon_30 rfl (lv_at hl 4 rfl) ?_
      refine hp_bn h (fun v11 h10 h => ?_)
      refine hp_ci hR (hp_runS (rest := [.int v9]) (As := [.int x1, .int x3]) hX hR (c_Box_to h10) cs_X1_15 rfl rfl hd_Box_to ⟨Nat.le_of_ble_eq_true rfl, Nat.le_of_ble_eq_true rfl⟩ rfl hl.1 rfl (Nat.le_of_ble_eq_true rfl) dX1_sizeOfCommon_31 ⟨Nat.le_of_ble_eq_true rfl, Nat.le_of_ble_eq_true rfl⟩) (fun H locs hR => ?_)
      refine hp_bn h (fun v13 h12 h => ?_)
      refine hp_ci hR (hp_runS (rest := []) (As := [.int v9, .int v11]) hX hR (c_Math_min h12) cs_X1_27 rfl rfl hd_Math_min ⟨Nat.le_of_ble_eq_true rfl, Nat.le_of_ble_eq_true rfl⟩ rfl hl.1 rfl (Nat.le_of_ble_eq_true rfl) dX1_sizeOfCommon_34 ⟨Nat.le_of_ble_eq_true rfl, Nat.le_of_ble_eq_true rfl⟩) (fun H locs hR => ?_)
      refine lv_istore (lv' := [(5, .int v13), (4, .int v7), (0, .int x0), (1, .int x1), (2, .int x2), (3, .int x3)]) hx hb dX1_sizeOfCommon_37 hl (by decide) rfl (fun ls hl => ?_)
      refine lv_iload_n hx hb dX1_sizeOfCommon_39 rfl (lv_at hl 4 rfl) ?_
      refine lv_iconst (v := 0) hx hb dX1_sizeOfCommon_40 (by decide) ?_
      refine lv_iload hx hb dX1_sizeOfCommon_41 (lv_at hl 0 rfl) ?_
      refine lv_iload hx hb dX1_sizeOfCommon_43 (lv_at hl 1 rfl) ?_
      refine lv_isub hx hb dX1_sizeOfCommon_45 ?_
      refine lv_iconst (v := 1) hx hb dX1_sizeOfCommon_46 (by decide) ?_
      refine lv_iadd hx hb dX1_sizeOfCommon_47 ?_
      refine hp_bn h (fun v15 h14 h => ?_)
      refine hp_ci hR (hp_runS (rest := [.int x2]) (As := [.int 0, .int ((v13 - v7) + 1)]) hX hR (c_Math_max h14) cs_X1_22 rfl rfl hd_Math_max ⟨Nat.le_of_ble_eq_true rfl, Nat.le_of_ble_eq_true rfl⟩ rfl hl.1 rfl (Nat.le_of_ble_eq_true rfl) dX1_sizeOfCommon_48 ⟨Nat.le_of_ble_eq_true rfl, Nat.le_of_ble_eq_true rfl⟩) (fun H locs hR => ?_)
      refine lv_imul hx hb dX1_sizeOfCommon_51 ?_
      refine lv_istore_n (lv' := [(2, .int (x2 * v15)), (5, .int v13), (4, .int v7), (0, .int x0), (1, .int x1), (3, .int x3)]) hx hb dX1_sizeOfCommon_52 rfl hl (by decide) rfl (fun ls hl => ?_)
      refine lv_iinc (v := (x3 + 1)) (lv' := [(3, .int (x3 + 1)), (2, .int (x2 * v15)), (5, .int v13), (4, .int v7), (0, .int x0), (1, .int x1)]) hx hb dX1_sizeOfCommon_53 hl (k := 5) rfl rfl (by decide) rfl (fun ls hl => ?_)
      refine lv_goto (tgt := 4) hx hb dX1_sizeOfCommon_56 (by decide) ?_
      exact ih _ _ _ _ _ hR h (lv_sub hl [4, 5, 1, 0] rfl)
set_option maxHeartbeats 4000000 in
set_option maxRecDepth 100000 in
theorem c_Box_sizeOfCommon {l : Launch} {G : hp_G} {b : Nat} {σ : hp_H} {x0 : Int32} {x1 : Int32} {r : Int32} (h : f_Box_sizeOfCommon x0 x1 = some r) : hp_Met l yX1_sizeOfCommon cX1_sizeOfCommon 6 (some .int) rm_Box_sizeOfCommon G b [.int x0, .int x1] σ (some (.int r)) σ 0 0 := by
  refine hp_met (by decide +kernel) (Nat.le_of_ble_eq_true rfl) (fun p e s m below meth c ls hX hlocks hr hnm hl hR => ?_)
  obtain ⟨hx, hb, hml, hown, hts⟩ := id hX.1
  have hl : lv_has ls 6 [(0, .int x0), (1, .int x1)] := hl
  unfold f_Box_sizeOfCommon at h
  refine lv_iconst (v := 1) hx hb dX1_sizeOfCommon_0 (by decide) ?_
  refine lv_istore_n (lv' := [(2, .int 1), (0, .int x0), (1, .int x1)]) hx hb dX1_sizeOfCommon_1 rfl hl (by decide) rfl (fun ls hl => ?_)
  refine lv_iconst (v := 0) hx hb dX1_sizeOfCommon_2 (by decide) ?_
  refine lv_istore_n (lv' := [(3, .int 0), (2, .int 1), (0, .int x0), (1, .int x1)]) hx hb dX1_sizeOfCommon_3 rfl hl (by decide) rfl (fun ls hl => ?_)
  refine w_Box_sizeOfCommon_l1 hX hlocks hr ?_ hp_F _ _ _ _ _ hR h (lv_sub hl [2, 3, 1, 0] rfl)
  intro z16 z17 H locs ls hR hl h
  refine lv_iload_n hx hb dX1_sizeOfCommon_59 rfl (lv_at hl 0 rfl) ?_
  exact hp_iretP hX hlocks hr hR h dX1_sizeOfCommon_60
/-! Box.covers(II)Z -/
abbrev rm_Box_covers : Room := { frames := 1, cells := 0, slots := 0, locals := 21 }
theorem hd_Box_covers : hp_d yX1_covers 2 := by decide +kernel
def f_Box_covers_l1 (x0 : Int32) (x1 : Int32) (K : Int32 → Option Int32) : Nat → Int32 → Option Int32
  | 0, _ => none
  | n + 1, x2 => if (3 : Int32) ≤ x2 then (K x2) else ((f_Box_from x1 x2).bind fun v3 => (f_Box_from x0 x2).bind fun v5 => if v3 < v5 then (some 0) else ((f_Box_to x1 x2).bind fun v8 => (f_Box_to x0 x2).bind fun v10 => if v8 ≤ v10 then (f_Box_covers_l1 x0 x1 K n (x2 + 1)) else (some 0)))
def f_Box_covers (x0 : Int32) (x1 : Int32) : Option Int32 := f_Box_covers_l1 x0 x1 (fun z12 => some 1) hp_F 0
set_option maxHeartbeats 4000000 in
set_option maxRecDepth 100000 in
theorem w_Box_covers_l1 {p : Program} {l : Launch} {e : Env} {s : State} {m : MethodId} {args : Array Value} {below : List Frame} {meth : Method} {c : Code} {G : hp_G} {b : Nat} {σ : hp_H} {x0 : Int32} {x1 : Int32} {r : Int32} {K : Int32 → Option Int32} (hX : hp_X G p s m c args cX1_covers 3 RX1) (hlocks : meth.locks = false) (hr : meth.sig.returnType = (some .boolean))
    (hK : ∀ (x2 : Int32) (H : Heap) (locs : List Loc) (ls : Array Slot), hp_R G b s.heap σ H locs → lv_has ls 3 [] → K x2 = some r → W p l e rm_Box_covers s m args below meth c H locs 0 0 (MQ below (hp_Qc G b (some (.int r)) σ) args s 0 0 (fun q => b ≤ q)) (F0 m 41 ls [])) :
    ∀ (n : Nat) (x2 : Int32) (H : Heap) (locs : List Loc) (ls : Array Slot), hp_R G b s.heap σ H locs → f_Box_covers_l1 x0 x1 K n x2 = some r → lv_has ls 3 [(0, .int x0), (1, .int x1), (2, .int x2)] → W p l e rm_Box_covers s m args below meth c H locs 0 0 (MQ below (hp_Qc G b (some (.int r)) σ) args s 0 0 (fun q => b ≤ q)) (F0 m 2 ls []) := by
  obtain ⟨hx, hb, hml, hown, hts⟩ := id hX.1
  intro n
  induction n with
  | zero =>
    intro x2 H locs ls hR h hl
    rw [f_Box_covers_l1] at h
    cases h
  | succ n ih =>
    intro x2 H locs ls hR h hl
    rw [f_Box_covers_l1] at h
    refine lv_iload_n hx hb dX1_covers_2 rfl (lv_at hl 2 rfl) ?_
    refine lv_iconst (v := 3) hx hb dX1_covers_3 (by decide) ?_
    refine lv_icmp_ge (tgt := 41) hx hb dX1_covers_4 (by decide) (fun c1 => ?_) (fun c1 => ?_)
    · have h := hp_ip c1 h
      exact hK _ _ _ _ hR (lv_sub hl [] rfl) h
    · have h := hp_in c1 h
      refine lv_iload_n hx hb dX1_covers_7 rfl (lv_at hl 1 rfl) ?_
      refine lv_iload_n hx hb dX1_covers_8 rfl (lv_at hl 2 rfl) ?_
      refine hp_bn h (fun v3 h2 h => ?_)
      refine hp_ci hR (hp_runS (rest := []) (As := [.int x1, .int x2]) hX hR (c_Box_from h2) cs_X1_19 rfl rfl hd_Box_from ⟨Nat.le_of_ble_eq_true rfl, Nat.le_of_ble_eq_true rfl⟩ rfl hl.1 rfl (Nat.le_of_ble_eq_true rfl) dX1_covers_9 ⟨Nat.le_of_ble_eq_true rfl, Nat.le_of_ble_eq_true rfl⟩) (fun H locs hR => ?_)
      refine lv_iload_n hx hb dX1_covers_12 rfl (lv_at hl 0 rfl) ?_
      refine lv_iload_n hx hb dX1_covers_13 rfl (lv_at hl 2 rfl) ?_
      refine hp_bn h (fun v5 h4 h => ?_)
      refine hp_ci hR (hp_runS (rest := [.int v3]) (As := [.int x0, .int x2]) hX hR (c_Box_from h4) cs_X1_19 rfl rfl hd_Box_from ⟨Nat.le_of_ble_eq_true rfl, Nat.le_of_ble_eq_true rfl⟩ rfl hl.1 rfl (Nat.le_of_ble_eq_true rfl) dX1_covers_14 ⟨Nat.le_of_ble_eq_true rfl, Nat.le_of_ble_eq_true rfl⟩) (fun H locs hR => ?_)
      refine lv_icmp_lt (tgt := 33) hx hb dX1_covers_17 (by decide) (fun c6 => ?_) (fun c6 => ?_)
      · have h := hp_ip c6 h
        refine lv_iconst (v := 0) hx hb dX1_covers_33 (by decide) ?_
        exact hp_zretLP (by decide) hX hlocks hr hR h dX1_covers_34
      · have h := hp_in c6 h
        refine lv_iload_n hx hb dX1_covers_20 rfl (lv_at hl 1 rfl) ?_
        refine lv_iload_n hx hb dX1_covers_21 rfl (lv_at hl 2 rfl) ?_
        refine hp_bn h (fun v8 h7 h => ?_)
        refine hp_ci hR (hp_runS (rest := []) (As := [.int x1, .int x2]) hX hR (c_Box_to h7) cs_X1_15 rfl rfl hd_Box_to ⟨Nat.le_of_ble_eq_true rfl, Nat.le_of_ble_eq_true rfl⟩ rfl hl.1 rfl (Nat.le_of_ble_eq_true rfl) dX1_covers_22 ⟨Nat.le_of_ble_eq_true rfl, Nat.le_of_ble_eq_true rfl⟩) (fun H locs hR => ?_)
        refine lv_iload_n hx hb dX1_covers_25 rfl (lv_at hl 0 rfl) ?_
        refine lv_iload_n hx hb dX1_covers_26 rfl (lv_at hl 2 rfl) ?_
        refine hp_bn h (fun v10 h9 h => ?_)
        refine hp_ci hR (hp_runS (rest := [.int v8]) (As := [.int x0, .int x2]) hX hR (c_Box_to h9) cs_X1_15 rfl rfl hd_Box_to ⟨Nat.le_of_ble_eq_true rfl, Nat.le_of_ble_eq_true rfl⟩ rfl hl.1 rfl (Nat.le_of_ble_eq_true rfl) dX1_covers_27 ⟨Nat.le_of_ble_eq_true rfl, Nat.le_of_ble_eq_true rfl⟩) (fun H locs hR => ?_)
        refine lv_icmp_le (tgt := 35) hx hb dX1_covers_30 (by decide) (fun c11 => ?_) (fun c11 => ?_)
        · have h := hp_ip c11 h
          refine lv_iinc (v := (x2 + 1)) (lv' := [(2, .int (x2 + 1)), (0, .int x0), (1, .int x1)]) hx hb dX1_covers_35 hl (k := 2) rfl rfl (by decide) rfl (fun ls hl => ?_)
          refine lv_goto (tgt := 2) hx hb dX1_covers_38 (by decide) ?_
          exact ih _ _ _ _ hR h (lv_sub hl [1, 2, 0] rfl)
        · have h := hp_in c11 h
          refine lv_iconst (v := 0) hx hb dX1_covers_33 (by decide) ?_
          exact hp_zretLP (by decide) hX hlocks hr hR h dX1_covers_34
set_option maxHeartbeats 4000000 in
set_option maxRecDepth 100000 in
theorem c_Box_covers {l : Launch} {G : hp_G} {b : Nat} {σ : hp_H} {x0 : Int32} {x1 : Int32} {r : Int32} (h : f_Box_covers x0 x1 = some r) : hp_Met l yX1_covers cX1_covers 3 (some .boolean) rm_Box_covers G b [.int x0, .int x1] σ (some (.int r)) σ 0 0 := by
  refine hp_met (by decide +kernel) (Nat.le_of_ble_eq_true rfl) (fun p e s m below meth c ls hX hlocks hr hnm hl hR => ?_)
  obtain ⟨hx, hb, hml, hown, hts⟩ := id hX.1
  have hl : lv_has ls 3 [(0, .int x0), (1, .int x1)] := hl
  unfold f_Box_covers at h
  refine lv_iconst (v := 0) hx hb dX1_covers_0 (by decide) ?_
  refine lv_istore_n (lv' := [(2, .int 0), (0, .int x0), (1, .int x1)]) hx hb dX1_covers_1 rfl hl (by decide) rfl (fun ls hl => ?_)
  refine w_Box_covers_l1 hX hlocks hr ?_ hp_F _ _ _ _ hR h (lv_sub hl [1, 2, 0] rfl)
  intro z12 H locs ls hR hl h
  refine lv_iconst (v := 1) hx hb dX1_covers_41 (by decide) ?_
  exact hp_zretLP (by decide) hX hlocks hr hR h dX1_covers_42
/-! Box.joined(II)I -/
abbrev rm_Box_joined : Room := { frames := 1, cells := 0, slots := 0, locals := 22 }
theorem hd_Box_joined : hp_d yX1_joined 2 := by decide +kernel
def f_Box_joined_l1 (x0 : Int32) (x1 : Int32) (K : Int32 → Int32 → Option Int32) : Nat → Int32 → Int32 → Option Int32
  | 0, _, _ => none
  | n + 1, x2, x3 => if (3 : Int32) ≤ x3 then (K x2 x3) else ((f_Box_from x0 x3).bind fun v3 => (f_Box_from x1 x3).bind fun v5 => (f_Math_min v3 v5).bind fun v7 => (f_Box_to x0 x3).bind fun v9 => (f_Box_to x1 x3).bind fun v11 => (f_Math_max v9 v11).bind fun v13 => (f_Box_withBounds x2 v7 v13).bind fun v15 => f_Box_joined_l1 x0 x1 K n v15 (x3 + 1))
def f_Box_joined (x0 : Int32) (x1 : Int32) : Option Int32 := f_Box_joined_l1 x0 x1 (fun z16 z17 => some z16) hp_F 0 0
set_option maxHeartbeats 4000000 in
set_option maxRecDepth 100000 in
theorem w_Box_joined_l1 {p : Program} {l : Launch} {e : Env} {s : State} {m : MethodId} {args : Array Value} {below : List Frame} {meth : Method} {c : Code} {G : hp_G} {b : Nat} {σ : hp_H} {x0 : Int32} {x1 : Int32} {r : Int32} {K : Int32 → Int32 → Option Int32} (hX : hp_X G p s m c args cX1_joined 4 RX1) (hlocks : meth.locks = false) (hr : meth.sig.returnType = (some .int))
    (hK : ∀ (x2 : Int32) (x3 : Int32) (H : Heap) (locs : List Loc) (ls : Array Slot), hp_R G b s.heap σ H locs → lv_has ls 4 [(2, .int x2)] → K x2 x3 = some r → W p l e rm_Box_joined s m args below meth c H locs 0 0 (MQ below (hp_Qc G b (some (.int r)) σ) args s 0 0 (fun q => b ≤ q)) (F0 m 46 ls [])) :
    ∀ (n : Nat) (x2 : Int32) (x3 : Int32) (H : Heap) (locs : List Loc) (ls : Array Slot), hp_R G b s.heap σ H locs → f_Box_joined_l1 x0 x1 K n x2 x3 = some r → lv_has ls 4 [(0, .int x0), (1, .int x1), (2, .int x2), (3, .int x3)] → W p l e rm_Box_joined s m args below meth c H locs 0 0 (MQ below (hp_Qc G b (some (.int r)) σ) args s 0 0 (fun q => b ≤ q)) (F0 m 4 ls []) := by
  obtain ⟨hx, hb, hml, hown, hts⟩ := id hX.1
  intro n
  induction n with
  | zero =>
    intro x2 x3 H locs ls hR h hl
    rw [f_Box_joined_l1] at h
    cases h
  | succ n ih =>
    intro x2 x3 H locs ls hR h hl
    rw [f_Box_joined_l1] at h
    refine lv_iload_n hx hb dX1_joined_4 rfl (lv_at hl 3 rfl) ?_
    refine lv_iconst (v := 3) hx hb dX1_joined_5 (by decide) ?_
    refine lv_icmp_ge (tgt := 46) hx hb dX1_joined_6 (by decide) (fun c1 => ?_) (fun c1 => ?_)
    · have h := hp_ip c1 h
      exact hK _ _ _ _ _ hR (lv_sub hl [2] rfl) h
    · have h := hp_in c1 h
      refine lv_iload_n hx hb dX1_joined_9 rfl (lv_at hl 2 rfl) ?_
      refine lv_iload_n hx hb dX1_joined_10 rfl (lv_at hl 0 rfl) ?_
      refine lv_iload_n hx hb dX1_joined_11 rfl (lv_at hl 3 rfl) ?_
      refine hp_bn h (fun v3 h2 h => ?_)
      refine hp_ci hR (hp_runS (rest := [.int x2]) (As := [.int x0, .int x3]) hX hR (c_Box_from h2) cs_X1_19 rfl rfl hd_Box_from ⟨Nat.le_of_ble_eq_true rfl, Nat.le_of_ble_eq_true rfl⟩ rfl hl.1 rfl (Nat.le_of_ble_eq_true rfl) dX1_joined_12 ⟨Nat.le_of_ble_eq_true rfl, Nat.le_of_ble_eq_true rfl⟩) (fun H locs hR => ?_)
      refine lv_iload_n hx hb dX1_joined_15 rfl (lv_at hl 1 rfl) ?_
      refine lv_iload_n hx hb dX1_joined_16 rfl (lv_at hl 3 rfl) ?_
      refine hp_bn h (fun v5 h4 h => ?_)
      refine hp_ci hR (hp_runS (rest := [.int v3, .int x2]) (As := [.int x1, .int x3]) hX hR (c_Box_from h4) cs_X1_19 rfl rfl hd_Box_from ⟨Nat.le_of_ble_eq_true rfl, Nat.le_of_ble_eq_true rfl⟩ rfl hl.1 rfl (Nat.le_of_ble_eq_true rfl) dX1_joined_17 ⟨Nat.le_of_ble_eq_true rfl, Nat.le_of_ble_eq_true rfl⟩) (fun H locs hR => ?_)
      refine hp_bn h (fun v7 h6 h => ?_)
      refine hp_ci hR (hp_runS (rest := [.int x2]) (As := [.int v3, .int v5]) hX hR (c_Math_min h6) cs_X1_27 rfl rfl hd_Math_min ⟨Nat.le_of_ble_eq_true rfl, Nat.le_of_ble_eq_true rfl⟩ rfl hl.1 rfl (Nat.le_of_ble_eq_true rfl) dX1_joined_20 ⟨Nat.le_of_ble_eq_true rfl, Nat.le_of_ble_eq_true rfl⟩) (fun H locs hR => ?_)
      refine lv_iload_n hx hb dX1_joined_23 rfl (lv_at hl 0 rfl) ?_
      refine lv_iload_n hx hb dX1_joined_24 rfl (lv_at hl 3 rfl) ?_
      refine hp_bn h (fun v9 h8 h => ?_)
      refine hp_ci hR (hp_runS (rest := [.int v7, .int x2]) (As := [.int x0, .int x3]) hX hR (c_Box_to h8) cs_X1_15 rfl rfl hd_Box_to ⟨Nat.le_of_ble_eq_true rfl, Nat.le_of_ble_eq_true rfl⟩ rfl hl.1 rfl (Nat.le_of_ble_eq_true rfl) dX1_joined_25 ⟨Nat.le_of_ble_eq_true rfl, Nat.le_of_ble_eq_true rfl⟩) (fun H locs hR => ?_)
      refine lv_iload_n hx hb dX1_joined_28 rfl (lv_at hl 1 rfl) ?_
      refine lv_iload_n hx hb dX1_joined_29 rfl (lv_at hl 3 rfl) ?_
      refine hp_bn h (fun v11 h10 h => ?_)
      refine hp_ci hR (hp_runS (rest := [.int v9, .int v7, .int x2]) (As := [.int x1, .int x3]) hX hR (c_Box_to h10) cs_X1_15 rfl rfl hd_Box_to ⟨Nat.le_of_ble_eq_true rfl, Nat.le_of_ble_eq_true rfl⟩ rfl hl.1 rfl (Nat.le_of_ble_eq_true rfl) dX1_joined_30 ⟨Nat.le_of_ble_eq_true rfl, Nat.le_of_ble_eq_true rfl⟩) (fun H locs hR => ?_)
      refine hp_bn h (fun v13 h12 h => ?_)
      refine hp_ci hR (hp_runS (rest := [.int v7, .int x2]) (As := [.int v9, .int v11]) hX hR (c_Math_max h12) cs_X1_22 rfl rfl hd_Math_max ⟨Nat.le_of_ble_eq_true rfl, Nat.le_of_ble_eq_true rfl⟩ rfl hl.1 rfl (Nat.le_of_ble_eq_true rfl) dX1_joined_33 ⟨Nat.le_of_ble_eq_true rfl, Nat.le_of_ble_eq_true rfl⟩) (fun H locs hR => ?_)
      refine hp_bn h (fun v15 h14 h => ?_)
      refine hp_ci hR (hp_runS (rest := []) (As := [.int x2, .int v7, .int v13]) hX hR (c_Box_withBounds h14) cs_X1_9 rfl rfl hd_Box_withBounds ⟨Nat.le_of_ble_eq_true rfl, Nat.le_of_ble_eq_true rfl⟩ rfl hl.1 rfl (Nat.le_of_ble_eq_true rfl) dX1_joined_36 ⟨Nat.le_of_ble_eq_true rfl, Nat.le_of_ble_eq_true rfl⟩) (fun H locs hR => ?_)
      refine lv_istore_n (lv' := [(2, .int v15), (0, .int x0), (1, .int x1), (3, .int x3)]) hx hb dX1_joined_39 rfl hl (by decide) rfl (fun ls hl => ?_)
      refine lv_iinc (v := (x3 + 1)) (lv' := [(3, .int (x3 + 1)), (2, .int v15), (0, .int x0), (1, .int x1)]) hx hb dX1_joined_40 hl (k := 3) rfl rfl (by decide) rfl (fun ls hl => ?_)
      refine lv_goto (tgt := 4) hx hb dX1_joined_43 (by decide) ?_
      exact ih _ _ _ _ _ hR h (lv_sub hl [2, 3, 1, 0] rfl)
set_option maxHeartbeats 4000000 in
set_option maxRecDepth 100000 in
theorem c_Box_joined {l : Launch} {G : hp_G} {b : Nat} {σ : hp_H} {x0 : Int32} {x1 : Int32} {r : Int32} (h : f_Box_joined x0 x1 = some r) : hp_Met l yX1_joined cX1_joined 4 (some .int) rm_Box_joined G b [.int x0, .int x1] σ (some (.int r)) σ 0 0 := by
  refine hp_met (by decide +kernel) (Nat.le_of_ble_eq_true rfl) (fun p e s m below meth c ls hX hlocks hr hnm hl hR => ?_)
  obtain ⟨hx, hb, hml, hown, hts⟩ := id hX.1
  have hl : lv_has ls 4 [(0, .int x0), (1, .int x1)] := hl
  unfold f_Box_joined at h
  refine lv_iconst (v := 0) hx hb dX1_joined_0 (by decide) ?_
  refine lv_istore_n (lv' := [(2, .int 0), (0, .int x0), (1, .int x1)]) hx hb dX1_joined_1 rfl hl (by decide) rfl (fun ls hl => ?_)
  refine lv_iconst (v := 0) hx hb dX1_joined_2 (by decide) ?_
  refine lv_istore_n (lv' := [(3, .int 0), (2, .int 0), (0, .int x0), (1, .int x1)]) hx hb dX1_joined_3 rfl hl (by decide) rfl (fun ls hl => ?_)
  refine w_Box_joined_l1 hX hlocks hr ?_ hp_F _ _ _ _ _ hR h (lv_sub hl [2, 3, 1, 0] rfl)
  intro z16 z17 H locs ls hR hl h
  refine lv_iload_n hx hb dX1_joined_46 rfl (lv_at hl 0 rfl) ?_
  exact hp_iretP hX hlocks hr hR h dX1_joined_47
theorem cs_X1_30 : hp_WS RX1 30 yX1_joined cX1_joined 4 (some .int) := ⟨wq2_104, wq2_105, wq1_12, wq2_106⟩
theorem cs_X1_33 : hp_WS RX1 33 yX1_size cX1_size 3 (some .int) := ⟨wq2_116, wq2_117, wq1_12, wq2_118⟩
theorem cs_X1_37 : hp_WS RX1 37 yX1_sizeOfCommon cX1_sizeOfCommon 6 (some .int) := ⟨wq2_119, wq2_120, wq1_12, wq2_121⟩
/-! Box.waste(II)I -/
abbrev rm_Box_waste : Room := { frames := 2, cells := 0, slots := 0, locals := 46 }
theorem hd_Box_waste : hp_d yX1_waste 2 := by decide +kernel
def f_Box_waste (x0 : Int32) (x1 : Int32) : Option Int32 := (f_Box_joined x0 x1).bind fun v2 => (f_Box_size v2).bind fun v4 => (f_Box_size x0).bind fun v6 => (f_Box_size x1).bind fun v8 => (f_Box_sizeOfCommon x0 x1).bind fun v10 => some (v4 - ((v6 + v8) - v10))
set_option maxHeartbeats 4000000 in
set_option maxRecDepth 100000 in
theorem c_Box_waste {l : Launch} {G : hp_G} {b : Nat} {σ : hp_H} {x0 : Int32} {x1 : Int32} {r : Int32} (h : f_Box_waste x0 x1 = some r) : hp_Met l yX1_waste cX1_waste 2 (some .int) rm_Box_waste G b [.int x0, .int x1] σ (some (.int r)) σ 0 0 := by
  refine hp_met (by decide +kernel) (Nat.le_of_ble_eq_true rfl) (fun p e s m below meth c ls hX hlocks hr hnm hl hR => ?_)
  obtain ⟨hx, hb, hml, hown, hts⟩ := id hX.1
  have hl : lv_has ls 2 [(0, .int x0), (1, .int x1)] := hl
  unfold f_Box_waste at h
  refine lv_iload_n hx hb dX1_waste_0 rfl (lv_at hl 0 rfl) ?_
  refine lv_iload_n hx hb dX1_waste_1 rfl (lv_at hl 1 rfl) ?_
  refine hp_bn h (fun v2 h1 h => ?_)
  refine hp_ci hR (hp_runS (rest := []) (As := [.int x0, .int x1]) hX hR (c_Box_joined h1) cs_X1_30 rfl rfl hd_Box_joined ⟨Nat.le_of_ble_eq_true rfl, Nat.le_of_ble_eq_true rfl⟩ rfl hl.1 rfl (Nat.le_of_ble_eq_true rfl) dX1_waste_2 ⟨Nat.le_of_ble_eq_true rfl, Nat.le_of_ble_eq_true rfl⟩) (fun H locs hR => ?_)
  refine hp_bn h (fun v4 h3 h => ?_)
  refine hp_ci hR (hp_runS (rest := []) (As := [.int v2]) hX hR (c_Box_size h3) cs_X1_33 rfl rfl hd_Box_size ⟨Nat.le_of_ble_eq_true rfl, Nat.le_of_ble_eq_true rfl⟩ rfl hl.1 rfl (Nat.le_of_ble_eq_true rfl) dX1_waste_5 ⟨Nat.le_of_ble_eq_true rfl, Nat.le_of_ble_eq_true rfl⟩) (fun H locs hR => ?_)
  refine lv_iload_n hx hb dX1_waste_8 rfl (lv_at hl 0 rfl) ?_
  refine hp_bn h (fun v6 h5 h => ?_)
  refine hp_ci hR (hp_runS (rest := [.int v4]) (As := [.int x0]) hX hR (c_Box_size h5) cs_X1_33 rfl rfl hd_Box_size ⟨Nat.le_of_ble_eq_true rfl, Nat.le_of_ble_eq_true rfl⟩ rfl hl.1 rfl (Nat.le_of_ble_eq_true rfl) dX1_waste_9 ⟨Nat.le_of_ble_eq_true rfl, Nat.le_of_ble_eq_true rfl⟩) (fun H locs hR => ?_)
  refine lv_iload_n hx hb dX1_waste_12 rfl (lv_at hl 1 rfl) ?_
  refine hp_bn h (fun v8 h7 h => ?_)
  refine hp_ci hR (hp_runS (rest := [.int v6, .int v4]) (As := [.int x1]) hX hR (c_Box_size h7) cs_X1_33 rfl rfl hd_Box_size ⟨Nat.le_of_ble_eq_true rfl, Nat.le_of_ble_eq_true rfl⟩ rfl hl.1 rfl (Nat.le_of_ble_eq_true rfl) dX1_waste_13 ⟨Nat.le_of_ble_eq_true rfl, Nat.le_of_ble_eq_true rfl⟩) (fun H locs hR => ?_)
  refine lv_iadd hx hb dX1_waste_16 ?_
  refine lv_iload_n hx hb dX1_waste_17 rfl (lv_at hl 0 rfl) ?_
  refine lv_iload_n hx hb dX1_waste_18 rfl (lv_at hl 1 rfl) ?_
  refine hp_bn h (fun v10 h9 h => ?_)
  refine hp_ci hR (hp_runS (rest := [.int (v6 + v8), .int v4]) (As := [.int x0, .int x1]) hX hR (c_Box_sizeOfCommon h9) cs_X1_37 rfl rfl hd_Box_sizeOfCommon ⟨Nat.le_of_ble_eq_true rfl, Nat.le_of_ble_eq_true rfl⟩ rfl hl.1 rfl (Nat.le_of_ble_eq_true rfl) dX1_waste_19 ⟨Nat.le_of_ble_eq_true rfl, Nat.le_of_ble_eq_true rfl⟩) (fun H locs hR => ?_)
  refine lv_isub hx hb dX1_waste_22 ?_
  refine lv_isub hx hb dX1_waste_23 ?_
  exact hp_iretP hX hlocks hr hR h dX1_waste_24
/-! BoxList.<init>()V -/
abbrev rm_BoxList_init : Room := { frames := 1, cells := 1, slots := 12, locals := 12 }
theorem hd_BoxList_init : hp_d yX2_init 0 := by decide +kernel
def f_BoxList_init (a0 : Nat) (σ : hp_H) : Option hp_H := hp_own σ a0 1 (hp_nw σ (.inr (.inl (0, 12, fun _ => 0))) fun q1 σ => (hp_pR σ a0 1 0 q1).bind fun σ => some σ)
set_option maxHeartbeats 4000000 in
set_option maxRecDepth 100000 in
theorem c_BoxList_init {l : Launch} {G : hp_G} {b : Nat} {σ : hp_H} {a0 : Nat} {σ' : hp_H} (h : f_BoxList_init a0 σ = some σ') : hp_Met l yX2_init cX2_init 1 none rm_BoxList_init G b [.ref a0] σ none σ' 1 12 := by
  refine hp_met (by decide +kernel) (Nat.le_of_ble_eq_true rfl) (fun p e s m below meth c ls hX hlocks hr hnm hl hR => ?_)
  obtain ⟨hx, hb, hml, hown, hts⟩ := id hX.1
  have hl : lv_has ls 1 [(0, .ref a0)] := hl
  unfold f_BoxList_init at h
  have h := hp_own_to h
  refine lv_aload_n hx hb dX2_init_0 rfl (lv_at hl 0 rfl) ?_
  refine hp_obj0 hX wq1_131 wq1_22 wq1_23 hl.1 dX2_init_1 (Nat.le_of_ble_eq_true rfl) (Nat.le_of_ble_eq_true rfl) ?_
  refine lv_aload_n hx hb dX2_init_4 rfl (lv_at hl 0 rfl) ?_
  refine lv_bipush (v := 12) hx hb dX2_init_5 (by decide) ?_
  refine hp_newI hX hR 12 wq1_66 (by decide) (by decide) (Nat.le_of_ble_eq_true rfl) (Nat.le_of_ble_eq_true rfl) (Nat.le_of_ble_eq_true rfl) dX2_init_7 h (fun q1 σ H h hR => ?_)
  refine hp_putR hX hR (ci := 1) 0 rfl wf2 tyX2_ok nmX2 (by decide) wq1_132 rfl hnm rfl dX2_init_9 rfl rfl h (fun σ H locs h hR => ?_)
  exact hp_vret hX hlocks hr hR h dX2_init_12
theorem cs_X2_19 : hp_WS RX2 19 yX1_covers cX1_covers 3 (some .boolean) := ⟨wq2_69, wq2_70, wq1_12, wq2_71⟩
/-! BoxList.covers(I)Z -/
abbrev rm_BoxList_covers : Room := { frames := 2, cells := 0, slots := 0, locals := 43 }
theorem hd_BoxList_covers : hp_d yX2_covers 1 := by decide +kernel
def f_BoxList_covers_l1 (a0 : Nat) (x1 : Int32) (σ : hp_H) (K : Int32 → Option Int32) : Nat → Int32 → Option Int32
  | 0, _ => none
  | n + 1, x2 => (hp_gI σ a0 1 1).bind fun v1 => if v1 ≤ x2 then (K x2) else ((hp_gR σ a0 1 0).bind fun q3 => (hp_aI σ q3 0 x2).bind fun v4 => (f_Box_covers v4 x1).bind fun v6 => if v6 = 0 then (f_BoxList_covers_l1 a0 x1 σ K n (x2 + 1)) else (some 1))
def f_BoxList_covers (a0 : Nat) (x1 : Int32) (σ : hp_H) : Option Int32 := hp_own σ a0 1 (f_BoxList_covers_l1 a0 x1 σ (fun z8 => some 0) hp_F 0)
set_option maxHeartbeats 4000000 in
set_option maxRecDepth 100000 in
theorem w_BoxList_covers_l1 {p : Program} {l : Launch} {e : Env} {s : State} {m : MethodId} {args : Array Value} {below : List Frame} {meth : Method} {c : Code} {G : hp_G} {b : Nat} {σ : hp_H} {a0 : Nat} {x1 : Int32} {r : Int32} {K : Int32 → Option Int32} (hX : hp_X G p s m c args cX2_covers 3 RX2) (hlocks : meth.locks = false) (hr : meth.sig.returnType = (some .boolean))
    (hK : ∀ (x2 : Int32) (H : Heap) (locs : List Loc) (ls : Array Slot), hp_R G b s.heap σ H locs → lv_has ls 3 [] → K x2 = some r → W p l e rm_BoxList_covers s m args below meth c H locs 0 0 (MQ below (hp_Qc G b (some (.int r)) σ) args s 0 0 (fun q => b ≤ q)) (F0 m 31 ls [])) :
    ∀ (n : Nat) (x2 : Int32) (H : Heap) (locs : List Loc) (ls : Array Slot), hp_R G b s.heap σ H locs → f_BoxList_covers_l1 a0 x1 σ K n x2 = some r → lv_has ls 3 [(0, .ref a0), (1, .int x1), (2, .int x2)] → W p l e rm_BoxList_covers s m args below meth c H locs 0 0 (MQ below (hp_Qc G b (some (.int r)) σ) args s 0 0 (fun q => b ≤ q)) (F0 m 2 ls []) := by
  obtain ⟨hx, hb, hml, hown, hts⟩ := id hX.1
  intro n
  induction n with
  | zero =>
    intro x2 H locs ls hR h hl
    rw [f_BoxList_covers_l1] at h
    cases h
  | succ n ih =>
    intro x2 H locs ls hR h hl
    rw [f_BoxList_covers_l1] at h
    refine lv_iload_n hx hb dX2_covers_2 rfl (lv_at hl 2 rfl) ?_
    refine lv_aload_n hx hb dX2_covers_3 rfl (lv_at hl 0 rfl) ?_
    refine hp_getI hX hR (ci := 1) 1 rfl wf2 (by decide) wq1_135 dX2_covers_4 h (fun v1 h => ?_)
    refine lv_icmp_ge (tgt := 31) hx hb dX2_covers_7 (by decide) (fun c2 => ?_) (fun c2 => ?_)
    · have h := hp_ip c2 h
      exact hK _ _ _ _ hR (lv_sub hl [] rfl) h
    · have h := hp_in c2 h
      refine lv_aload_n hx hb dX2_covers_10 rfl (lv_at hl 0 rfl) ?_
      refine hp_getR hX hR (ci := 1) 0 rfl wf2 (by decide) wq1_132 dX2_covers_11 h (fun q3 h => ?_)
      refine lv_iload_n hx hb dX2_covers_14 rfl (lv_at hl 2 rfl) ?_
      refine hp_iald hX hR dX2_covers_15 h (fun v4 h => ?_)
      refine lv_iload_n hx hb dX2_covers_16 rfl (lv_at hl 1 rfl) ?_
      refine hp_bn h (fun v6 h5 h => ?_)
      refine hp_ci hR (hp_runS (rest := []) (As := [.int v4, .int x1]) hX hR (c_Box_covers h5) cs_X2_19 rfl rfl hd_Box_covers ⟨Nat.le_of_ble_eq_true rfl, Nat.le_of_ble_eq_true rfl⟩ rfl hl.1 rfl (Nat.le_of_ble_eq_true rfl) dX2_covers_17 ⟨Nat.le_of_ble_eq_true rfl, Nat.le_of_ble_eq_true rfl⟩) (fun H locs hR => ?_)
      refine lv_if_eq (tgt := 25) hx hb dX2_covers_20 (by decide) (fun c7 => ?_) (fun c7 => ?_)
      · have h := hp_ip c7 h
        refine lv_iinc (v := (x2 + 1)) (lv' := [(2, .int (x2 + 1)), (0, .ref a0), (1, .int x1)]) hx hb dX2_covers_25 hl (k := 2) rfl rfl (by decide) rfl (fun ls hl => ?_)
        refine lv_goto (tgt := 2) hx hb dX2_covers_28 (by decide) ?_
        exact ih _ _ _ _ hR h (lv_sub hl [1, 2, 0] rfl)
      · have h := hp_in c7 h
        refine lv_iconst (v := 1) hx hb dX2_covers_23 (by decide) ?_
        exact hp_zretLP (by decide) hX hlocks hr hR h dX2_covers_24
set_option maxHeartbeats 4000000 in
set_option maxRecDepth 100000 in
theorem c_BoxList_covers {l : Launch} {G : hp_G} {b : Nat} {σ : hp_H} {a0 : Nat} {x1 : Int32} {r : Int32} (h : f_BoxList_covers a0 x1 σ = some r) : hp_Met l yX2_covers cX2_covers 3 (some .boolean) rm_BoxList_covers G b [.ref a0, .int x1] σ (some (.int r)) σ 0 0 := by
  refine hp_met (by decide +kernel) (Nat.le_of_ble_eq_true rfl) (fun p e s m below meth c ls hX hlocks hr hnm hl hR => ?_)
  obtain ⟨hx, hb, hml, hown, hts⟩ := id hX.1
  have hl : lv_has ls 3 [(0, .ref a0), (1, .int x1)] := hl
  unfold f_BoxList_covers at h
  have h := hp_own_to h
  refine lv_iconst (v := 0) hx hb dX2_covers_0 (by decide) ?_
  refine lv_istore_n (lv' := [(2, .int 0), (0, .ref a0), (1, .int x1)]) hx hb dX2_covers_1 rfl hl (by decide) rfl (fun ls hl => ?_)
  refine w_BoxList_covers_l1 hX hlocks hr ?_ hp_F _ _ _ _ hR h (lv_sub hl [1, 2, 0] rfl)
  intro z8 H locs ls hR hl h
  refine lv_iconst (v := 0) hx hb dX2_covers_31 (by decide) ?_
  exact hp_zretLP (by decide) hX hlocks hr hR h dX2_covers_32
/-! BoxList.removeCoveredBy(I)V -/
abbrev rm_BoxList_removeCoveredBy : Room := { frames := 2, cells := 0, slots := 0, locals := 43 }
theorem hd_BoxList_removeCoveredBy : hp_d yX2_removeCoveredBy 1 := by decide +kernel
def f_BoxList_removeCoveredBy_l1 (a0 : Nat) (x1 : Int32) (K : Int32 → Int32 → hp_H → Option hp_H) : Nat → Int32 → Int32 → hp_H → Option hp_H
  | 0, _, _, _ => none
  | n + 1, x2, x3, σ => (hp_gI σ a0 1 1).bind fun v1 => if v1 ≤ x3 then (K x2 x3 σ) else ((hp_gR σ a0 1 0).bind fun q3 => (hp_aI σ q3 0 x3).bind fun v4 => (f_Box_covers x1 v4).bind fun v6 => if v6 = 0 then ((hp_gR σ a0 1 0).bind fun q8 => (hp_gR σ a0 1 0).bind fun q9 => (hp_aI σ q9 0 x3).bind fun v10 => (hp_sI σ q8 0 x2 v10).bind fun σ => f_BoxList_removeCoveredBy_l1 a0 x1 K n (x2 + 1) (x3 + 1) σ) else (f_BoxList_removeCoveredBy_l1 a0 x1 K n x2 (x3 + 1) σ))
def f_BoxList_removeCoveredBy (a0 : Nat) (x1 : Int32) (σ : hp_H) : Option hp_H := hp_own σ a0 1 (f_BoxList_removeCoveredBy_l1 a0 x1 (fun z11 z12 σ => (hp_pI σ a0 1 1 z11).bind fun σ => some σ) hp_F 0 0 σ)
set_option maxHeartbeats 4000000 in
set_option maxRecDepth 100000 in
theorem w_BoxList_removeCoveredBy_l1 {p : Program} {l : Launch} {e : Env} {s : State} {m : MethodId} {args : Array Value} {below : List Frame} {meth : Method} {c : Code} {G : hp_G} {b : Nat} {a0 : Nat} {x1 : Int32} {σ' : hp_H} {K : Int32 → Int32 → hp_H → Option hp_H} (hX : hp_X G p s m c args cX2_removeCoveredBy 4 RX2) (hlocks : meth.locks = false) (hr : meth.sig.returnType = none)
    (hK : ∀ (x2 : Int32) (x3 : Int32) (σ : hp_H) (H : Heap) (locs : List Loc) (ls : Array Slot), hp_R G b s.heap σ H locs → lv_has ls 4 [(0, .ref a0), (2, .int x2)] → K x2 x3 σ = some σ' → W p l e rm_BoxList_removeCoveredBy s m args below meth c H locs 0 0 (MQ below (hp_Qc G b none σ') args s 0 0 (fun q => b ≤ q)) (F0 m 46 ls [])) :
    ∀ (n : Nat) (x2 : Int32) (x3 : Int32) (σ : hp_H) (H : Heap) (locs : List Loc) (ls : Array Slot), hp_R G b s.heap σ H locs → f_BoxList_removeCoveredBy_l1 a0 x1 K n x2 x3 σ = some σ' → lv_has ls 4 [(0, .ref a0), (1, .int x1), (2, .int x2), (3, .int x3)] → W p l e rm_BoxList_removeCoveredBy s m args below meth c H locs 0 0 (MQ below (hp_Qc G b none σ') args s 0 0 (fun q => b ≤ q)) (F0 m 4 ls []) := by
  obtain ⟨hx, hb, hml, hown, hts⟩ := id hX.1
  intro n
  induction n with
  | zero =>
    intro x2 x3 σ H locs ls hR h hl
    rw [f_BoxList_removeCoveredBy_l1] at h
    cases h
  | succ n ih =>
    intro x2 x3 σ H locs ls hR h hl
    rw [f_BoxList_removeCoveredBy_l1] at h
    refine lv_iload_n hx hb dX2_removeCoveredBy_4 rfl (lv_at hl 3 rfl) ?_
    refine lv_aload_n hx hb dX2_removeCoveredBy_5 rfl (lv_at hl 0 rfl) ?_
    refine hp_getI hX hR (ci := 1) 1 rfl wf2 (by decide) wq1_135 dX2_removeCoveredBy_6 h (fun v1 h => ?_)
    refine lv_icmp_ge (tgt := 46) hx hb dX2_removeCoveredBy_9 (by decide) (fun c2 => ?_) (fun c2 => ?_)
    · have h := hp_ip c2 h
      exact hK _ _ _ _ _ _ hR (lv_sub hl [0, 2] rfl) h
    · have h := hp_in c2 h
      refine lv_iload_n hx hb dX2_removeCoveredBy_12 rfl (lv_at hl 1 rfl) ?_
      refine lv_aload_n hx hb dX2_removeCoveredBy_13 rfl (lv_at hl 0 rfl) ?_
      refine hp_getR hX hR (ci := 1) 0 rfl wf2 (by decide) wq1_132 dX2_removeCoveredBy_14 h (fun q3 h => ?_)
      refine lv_iload_n hx hb dX2_removeCoveredBy_17 rfl (lv_at hl 3 rfl) ?_
      refine hp_iald hX hR dX2_removeCoveredBy_18 h (fun v4 h => ?_)
      refine hp_bn h (fun v6 h5 h => ?_)
      refine hp_ci hR (hp_runS (rest := []) (As := [.int x1, .int v4]) hX hR (c_Box_covers h5) cs_X2_19 rfl rfl hd_Box_covers ⟨Nat.le_of_ble_eq_true rfl, Nat.le_of_ble_eq_true rfl⟩ rfl hl.1 rfl (Nat.le_of_ble_eq_true rfl) dX2_removeCoveredBy_19 ⟨Nat.le_of_ble_eq_true rfl, Nat.le_of_ble_eq_true rfl⟩) (fun H locs hR => ?_)
      refine lv_if_ne (tgt := 40) hx hb dX2_removeCoveredBy_22 (by decide) (fun c7 => ?_) (fun c7 => ?_)
      · have h := hp_in c7 h
        refine lv_iinc (v := (x3 + 1)) (lv' := [(3, .int (x3 + 1)), (0, .ref a0), (1, .int x1), (2, .int x2)]) hx hb dX2_removeCoveredBy_40 hl (k := 3) rfl rfl (by decide) rfl (fun ls hl => ?_)
        refine lv_goto (tgt := 4) hx hb dX2_removeCoveredBy_43 (by decide) ?_
        exact ih _ _ _ _ _ _ hR h (lv_sub hl [1, 2, 3, 0] rfl)
      · have h := hp_ip c7 h
        refine lv_aload_n hx hb dX2_removeCoveredBy_25 rfl (lv_at hl 0 rfl) ?_
        refine hp_getR hX hR (ci := 1) 0 rfl wf2 (by decide) wq1_132 dX2_removeCoveredBy_26 h (fun q8 h => ?_)
        refine lv_iload_n hx hb dX2_removeCoveredBy_29 rfl (lv_at hl 2 rfl) ?_
        refine lv_aload_n hx hb dX2_removeCoveredBy_30 rfl (lv_at hl 0 rfl) ?_
        refine hp_getR hX hR (ci := 1) 0 rfl wf2 (by decide) wq1_132 dX2_removeCoveredBy_31 h (fun q9 h => ?_)
        refine lv_iload_n hx hb dX2_removeCoveredBy_34 rfl (lv_at hl 3 rfl) ?_
        refine hp_iald hX hR dX2_removeCoveredBy_35 h (fun v10 h => ?_)
        refine hp_iast hX hR dX2_removeCoveredBy_36 h (fun σ H locs h hR => ?_)
        refine lv_iinc (v := (x2 + 1)) (lv' := [(2, .int (x2 + 1)), (0, .ref a0), (1, .int x1), (3, .int x3)]) hx hb dX2_removeCoveredBy_37 hl (k := 2) rfl rfl (by decide) rfl (fun ls hl => ?_)
        refine lv_iinc (v := (x3 + 1)) (lv' := [(3, .int (x3 + 1)), (2, .int (x2 + 1)), (0, .ref a0), (1, .int x1)]) hx hb dX2_removeCoveredBy_40 hl (k := 3) rfl rfl (by decide) rfl (fun ls hl => ?_)
        refine lv_goto (tgt := 4) hx hb dX2_removeCoveredBy_43 (by decide) ?_
        exact ih _ _ _ _ _ _ hR h (lv_sub hl [2, 3, 1, 0] rfl)
set_option maxHeartbeats 4000000 in
set_option maxRecDepth 100000 in
theorem c_BoxList_removeCoveredBy {l : Launch} {G : hp_G} {b : Nat} {σ : hp_H} {a0 : Nat} {x1 : Int32} {σ' : hp_H} (h : f_BoxList_removeCoveredBy a0 x1 σ = some σ') : hp_Met l yX2_removeCoveredBy cX2_removeCoveredBy 4 none rm_BoxList_removeCoveredBy G b [.ref a0, .int x1] σ none σ' 0 0 := by
  refine hp_met (by decide +kernel) (Nat.le_of_ble_eq_true rfl) (fun p e s m below meth c ls hX hlocks hr hnm hl hR => ?_)
  obtain ⟨hx, hb, hml, hown, hts⟩ := id hX.1
  have hl : lv_has ls 4 [(0, .ref a0), (1, .int x1)] := hl
  unfold f_BoxList_removeCoveredBy at h
  have h := hp_own_to h
  refine lv_iconst (v := 0) hx hb dX2_removeCoveredBy_0 (by decide) ?_
  refine lv_istore_n (lv' := [(2, .int 0), (0, .ref a0), (1, .int x1)]) hx hb dX2_removeCoveredBy_1 rfl hl (by decide) rfl (fun ls hl => ?_)
  refine lv_iconst (v := 0) hx hb dX2_removeCoveredBy_2 (by decide) ?_
  refine lv_istore_n (lv' := [(3, .int 0), (2, .int 0), (0, .ref a0), (1, .int x1)]) hx hb dX2_removeCoveredBy_3 rfl hl (by decide) rfl (fun ls hl => ?_)
  refine w_BoxList_removeCoveredBy_l1 hX hlocks hr ?_ hp_F _ _ _ _ _ _ hR h (lv_sub hl [2, 3, 1, 0] rfl)
  intro z11 z12 σ H locs ls hR hl h
  refine lv_aload_n hx hb dX2_removeCoveredBy_46 rfl (lv_at hl 0 rfl) ?_
  refine lv_iload_n hx hb dX2_removeCoveredBy_47 rfl (lv_at hl 1 rfl) ?_
  refine hp_putI hX hR (ci := 1) 1 rfl wf2 tyX2_ok nmX2 (by decide) wq1_135 rfl dX2_removeCoveredBy_48 rfl h (fun σ H locs h hR => ?_)
  exact hp_vret hX hlocks hr hR h dX2_removeCoveredBy_51
/-! BoxList.insert(I)V -/
abbrev rm_BoxList_insert : Room := { frames := 0, cells := 0, slots := 0, locals := 0 }
theorem hd_BoxList_insert : hp_d yX2_insert 1 := by decide +kernel
def f_BoxList_insert_l1 (a0 : Nat) (x1 : Int32) (K : Int32 → hp_H → Option hp_H) : Nat → Int32 → hp_H → Option hp_H
  | 0, _, _ => none
  | n + 1, x2, σ => if x2 ≤ 0 then (K x2 σ) else ((hp_gR σ a0 1 0).bind fun q7 => (hp_aI σ q7 0 (x2 - 1)).bind fun v8 => if v8 ≤ x1 then (K x2 σ) else ((hp_gR σ a0 1 0).bind fun q10 => (hp_gR σ a0 1 0).bind fun q11 => (hp_aI σ q11 0 (x2 - 1)).bind fun v12 => (hp_sI σ q10 0 x2 v12).bind fun σ => f_BoxList_insert_l1 a0 x1 K n (x2 + (-1)) σ))
def f_BoxList_insert (a0 : Nat) (x1 : Int32) (σ : hp_H) : Option hp_H := hp_own σ a0 1 ((hp_gI σ a0 1 1).bind fun v1 => (hp_gR σ a0 1 0).bind fun q2 => (hp_ln σ q2 0).bind fun v3 => if v1 < v3 then ((hp_gI σ a0 1 1).bind fun v5 => f_BoxList_insert_l1 a0 x1 (fun z13 σ => (hp_gR σ a0 1 0).bind fun q14 => (hp_sI σ q14 0 z13 x1).bind fun σ => (hp_gI σ a0 1 1).bind fun v15 => (hp_pI σ a0 1 1 (v15 + 1)).bind fun σ => some σ) hp_F v5 σ) else (some σ))
set_option maxHeartbeats 4000000 in
set_option maxRecDepth 100000 in
theorem w_BoxList_insert_l1 {p : Program} {l : Launch} {e : Env} {s : State} {m : MethodId} {args : Array Value} {below : List Frame} {meth : Method} {c : Code} {G : hp_G} {b : Nat} {a0 : Nat} {x1 : Int32} {σ' : hp_H} {K : Int32 → hp_H → Option hp_H} (hX : hp_X G p s m c args cX2_insert 3 RX2) (hlocks : meth.locks = false) (hr : meth.sig.returnType = none)
    (hK : ∀ (x2 : Int32) (σ : hp_H) (H : Heap) (locs : List Loc) (ls : Array Slot), hp_R G b s.heap σ H locs → lv_has ls 3 [(0, .ref a0), (1, .int x1), (2, .int x2)] → K x2 σ = some σ' → W p l e rm_BoxList_insert s m args below meth c H locs 0 0 (MQ below (hp_Qc G b none σ') args s 0 0 (fun q => b ≤ q)) (F0 m 54 ls [])) :
    ∀ (n : Nat) (x2 : Int32) (σ : hp_H) (H : Heap) (locs : List Loc) (ls : Array Slot), hp_R G b s.heap σ H locs → f_BoxList_insert_l1 a0 x1 K n x2 σ = some σ' → lv_has ls 3 [(0, .ref a0), (1, .int x1), (2, .int x2)] → W p l e rm_BoxList_insert s m args below meth c H locs 0 0 (MQ below (hp_Qc G b none σ') args s 0 0 (fun q => b ≤ q)) (F0 m 18 ls []) := by
  obtain ⟨hx, hb, hml, hown, hts⟩ := id hX.1
  intro n
  induction n with
  | zero =>
    intro x2 σ H locs ls hR h hl
    rw [f_BoxList_insert_l1] at h
    cases h
  | succ n ih =>
    intro x2 σ H locs ls hR h hl
    rw [f_BoxList_insert_l1] at h
    refine lv_iload_n hx hb dX2_insert_18 rfl (lv_at hl 2 rfl) ?_
    refine lv_if_le (tgt := 54) hx hb dX2_insert_19 (by decide) (fun c6 => ?_) (fun c6 => ?_)
    · have h := hp_ip c6 h
      exact hK _ _ _ _ _ hR (lv_sub hl [0, 1, 2] rfl) h
    · have h := hp_in c6 h
      refine lv_aload_n hx hb dX2_insert_22 rfl (lv_at hl 0 rfl) ?_
      refine hp_getR hX hR (ci := 1) 0 rfl wf2 (by decide) wq1_132 dX2_insert_23 h (fun q7 h => ?_)
      refine lv_iload_n hx hb dX2_insert_26 rfl (lv_at hl 2 rfl) ?_
      refine lv_iconst (v := 1) hx hb dX2_insert_27 (by decide) ?_
      refine lv_isub hx hb dX2_insert_28 ?_
      refine hp_iald hX hR dX2_insert_29 h (fun v8 h => ?_)
      refine lv_iload_n hx hb dX2_insert_30 rfl (lv_at hl 1 rfl) ?_
      refine lv_icmp_le (tgt := 54) hx hb dX2_insert_31 (by decide) (fun c9 => ?_) (fun c9 => ?_)
      · have h := hp_ip c9 h
        exact hK _ _ _ _ _ hR (lv_sub hl [0, 1, 2] rfl) h
      · have h := hp_in c9 h
        refine lv_aload_n hx hb dX2_insert_34 rfl (lv_at hl 0 rfl) ?_
        refine hp_getR hX hR (ci := 1) 0 rfl wf2 (by decide) wq1_132 dX2_insert_35 h (fun q10 h => ?_)
        refine lv_iload_n hx hb dX2_insert_38 rfl (lv_at hl 2 rfl) ?_
        refine lv_aload_n hx hb dX2_insert_39 rfl (lv_at hl 0 rfl) ?_
        refine hp_getR hX hR (ci := 1) 0 rfl wf2 (by decide) wq1_132 dX2_insert_40 h (fun q11 h => ?_)
        refine lv_iload_n hx hb dX2_insert_43 rfl (lv_at hl 2 rfl) ?_
        refine lv_iconst (v := 1) hx hb dX2_insert_44 (by decide) ?_
        refine lv_isub hx hb dX2_insert_45 ?_
        refine hp_iald hX hR dX2_insert_46 h (fun v12 h => ?_)
        refine hp_iast hX hR dX2_insert_47 h (fun σ H locs h hR => ?_)
        refine lv_iinc (v := (x2 + (-1))) (lv' := [(2, .int (x2 + (-1))), (0, .ref a0), (1, .int x1)]) hx hb dX2_insert_48 hl (k := 2) rfl rfl (by decide) rfl (fun ls hl => ?_)
        refine lv_goto (tgt := 18) hx hb dX2_insert_51 (by decide) ?_
        exact ih _ _ _ _ _ hR h (lv_sub hl [1, 2, 0] rfl)
set_option maxHeartbeats 4000000 in
set_option maxRecDepth 100000 in
theorem c_BoxList_insert {l : Launch} {G : hp_G} {b : Nat} {σ : hp_H} {a0 : Nat} {x1 : Int32} {σ' : hp_H} (h : f_BoxList_insert a0 x1 σ = some σ') : hp_Met l yX2_insert cX2_insert 3 none rm_BoxList_insert G b [.ref a0, .int x1] σ none σ' 0 0 := by
  refine hp_met (by decide +kernel) (Nat.le_of_ble_eq_true rfl) (fun p e s m below meth c ls hX hlocks hr hnm hl hR => ?_)
  obtain ⟨hx, hb, hml, hown, hts⟩ := id hX.1
  have hl : lv_has ls 3 [(0, .ref a0), (1, .int x1)] := hl
  unfold f_BoxList_insert at h
  have h := hp_own_to h
  refine lv_aload_n hx hb dX2_insert_0 rfl (lv_at hl 0 rfl) ?_
  refine hp_getI hX hR (ci := 1) 1 rfl wf2 (by decide) wq1_135 dX2_insert_1 h (fun v1 h => ?_)
  refine lv_aload_n hx hb dX2_insert_4 rfl (lv_at hl 0 rfl) ?_
  refine hp_getR hX hR (ci := 1) 0 rfl wf2 (by decide) wq1_132 dX2_insert_5 h (fun q2 h => ?_)
  refine hp_alen hX hR dX2_insert_8 h (fun v3 h => ?_)
  refine lv_icmp_lt (tgt := 13) hx hb dX2_insert_9 (by decide) (fun c4 => ?_) (fun c4 => ?_)
  · have h := hp_ip c4 h
    refine lv_aload_n hx hb dX2_insert_13 rfl (lv_at hl 0 rfl) ?_
    refine hp_getI hX hR (ci := 1) 1 rfl wf2 (by decide) wq1_135 dX2_insert_14 h (fun v5 h => ?_)
    refine lv_istore_n (lv' := [(2, .int v5), (0, .ref a0), (1, .int x1)]) hx hb dX2_insert_17 rfl hl (by decide) rfl (fun ls hl => ?_)
    refine w_BoxList_insert_l1 hX hlocks hr ?_ hp_F _ _ _ _ _ hR h (lv_sub hl [1, 2, 0] rfl)
    intro z13 σ H locs ls hR hl h
    refine lv_aload_n hx hb dX2_insert_54 rfl (lv_at hl 0 rfl) ?_
    refine hp_getR hX hR (ci := 1) 0 rfl wf2 (by decide) wq1_132 dX2_insert_55 h (fun q14 h => ?_)
    refine lv_iload_n hx hb dX2_insert_58 rfl (lv_at hl 2 rfl) ?_
    refine lv_iload_n hx hb dX2_insert_59 rfl (lv_at hl 1 rfl) ?_
    refine hp_iast hX hR dX2_insert_60 h (fun σ H locs h hR => ?_)
    refine lv_aload_n hx hb dX2_insert_61 rfl (lv_at hl 0 rfl) ?_
    refine lv_dup hx hb dX2_insert_62 rfl ?_
    refine hp_getI hX hR (ci := 1) 1 rfl wf2 (by decide) wq1_135 dX2_insert_63 h (fun v15 h => ?_)
    refine lv_iconst (v := 1) hx hb dX2_insert_66 (by decide) ?_
    refine lv_iadd hx hb dX2_insert_67 ?_
    refine hp_putI hX hR (ci := 1) 1 rfl wf2 tyX2_ok nmX2 (by decide) wq1_135 rfl dX2_insert_68 rfl h (fun σ H locs h hR => ?_)
    exact hp_vret hX hlocks hr hR h dX2_insert_71
  · have h := hp_in c4 h
    exact hp_vret hX hlocks hr hR h dX2_insert_12
theorem cs_X2_25 : hp_WV RX2 25 RX2 yX2_covers cX2_covers 3 (some .boolean) := ⟨wq2_65, wq2_66, wq2_67, wq1_5, wq2_68⟩
theorem cs_X2_28 : hp_WV RX2 28 RX2 yX2_removeCoveredBy cX2_removeCoveredBy 4 none := ⟨wq2_78, wq2_80, wp1_1, wq1_5, wq2_81⟩
theorem cs_X2_32 : hp_WV RX2 32 RX2 yX2_insert cX2_insert 3 none := ⟨wq2_82, wq2_84, wp1_2, wq1_5, wq2_85⟩
/-! BoxList.add(I)V -/
abbrev rm_BoxList_add : Room := { frames := 3, cells := 0, slots := 0, locals := 66 }
theorem hd_BoxList_add : hp_d yX2_add 1 := by decide +kernel
def f_BoxList_add (a0 : Nat) (x1 : Int32) (σ : hp_H) : Option hp_H := hp_own σ a0 1 ((f_BoxList_covers a0 x1 σ).bind fun v2 => if v2 = 0 then ((f_BoxList_removeCoveredBy a0 x1 σ).bind fun σ => (f_BoxList_insert a0 x1 σ).bind fun σ => some σ) else (some σ))
set_option maxHeartbeats 4000000 in
set_option maxRecDepth 100000 in
theorem c_BoxList_add {l : Launch} {G : hp_G} {b : Nat} {σ : hp_H} {a0 : Nat} {x1 : Int32} {σ' : hp_H} (h : f_BoxList_add a0 x1 σ = some σ') : hp_Met l yX2_add cX2_add 2 none rm_BoxList_add G b [.ref a0, .int x1] σ none σ' 0 0 := by
  refine hp_met (by decide +kernel) (Nat.le_of_ble_eq_true rfl) (fun p e s m below meth c ls hX hlocks hr hnm hl hR => ?_)
  obtain ⟨hx, hb, hml, hown, hts⟩ := id hX.1
  have hl : lv_has ls 2 [(0, .ref a0), (1, .int x1)] := hl
  unfold f_BoxList_add at h
  have h := hp_own_to h
  refine lv_aload_n hx hb dX2_add_0 rfl (lv_at hl 0 rfl) ?_
  refine lv_iload_n hx hb dX2_add_1 rfl (lv_at hl 1 rfl) ?_
  refine hp_bn h (fun v2 h1 h => ?_)
  refine hp_ci hR (hp_runV (rest := []) (As := [.int x1]) hX hR (c_BoxList_covers h1) cs_X2_25 rfl rfl rfl hd_BoxList_covers ⟨Nat.le_of_ble_eq_true rfl, Nat.le_of_ble_eq_true rfl⟩ (ci := 1) rfl (hp_own_is h1) rfl hl.1 rfl (Nat.le_of_ble_eq_true rfl) dX2_add_2 ⟨Nat.le_of_ble_eq_true rfl, Nat.le_of_ble_eq_true rfl⟩) (fun H locs hR => ?_)
  refine lv_if_eq (tgt := 9) hx hb dX2_add_5 (by decide) (fun c3 => ?_) (fun c3 => ?_)
  · have h := hp_ip c3 h
    refine lv_aload_n hx hb dX2_add_9 rfl (lv_at hl 0 rfl) ?_
    refine lv_iload_n hx hb dX2_add_10 rfl (lv_at hl 1 rfl) ?_
    refine hp_bn h (fun σ h4 h => ?_)
    refine hp_cv hR (hp_runV (rest := []) (As := [.int x1]) hX hR (c_BoxList_removeCoveredBy h4) cs_X2_28 rfl rfl rfl hd_BoxList_removeCoveredBy ⟨Nat.le_of_ble_eq_true rfl, Nat.le_of_ble_eq_true rfl⟩ (ci := 1) rfl (hp_own_is h4) rfl hl.1 rfl (Nat.le_of_ble_eq_true rfl) dX2_add_11 ⟨Nat.le_of_ble_eq_true rfl, Nat.le_of_ble_eq_true rfl⟩) (fun H locs hR => ?_)
    refine lv_aload_n hx hb dX2_add_14 rfl (lv_at hl 0 rfl) ?_
    refine lv_iload_n hx hb dX2_add_15 rfl (lv_at hl 1 rfl) ?_
    refine hp_bn h (fun σ h5 h => ?_)
    refine hp_cv hR (hp_runV (rest := []) (As := [.int x1]) hX hR (c_BoxList_insert h5) cs_X2_32 rfl rfl rfl hd_BoxList_insert ⟨Nat.le_of_ble_eq_true rfl, Nat.le_of_ble_eq_true rfl⟩ (ci := 1) rfl (hp_own_is h5) rfl hl.1 rfl (Nat.le_of_ble_eq_true rfl) dX2_add_16 ⟨Nat.le_of_ble_eq_true rfl, Nat.le_of_ble_eq_true rfl⟩) (fun H locs hR => ?_)
    exact hp_vret hX hlocks hr hR h dX2_add_19
  · have h := hp_in c3 h
    exact hp_vret hX hlocks hr hR h dX2_add_8
theorem cs_X2_35 : hp_WS RX2 35 yX1_waste cX1_waste 2 (some .int) := ⟨wq2_101, wq2_102, wq1_12, wq2_103⟩
theorem cs_X2_39 : hp_WS RX2 39 yX1_joined cX1_joined 4 (some .int) := ⟨wq2_122, wq2_105, wq1_12, wq2_106⟩
/-! BoxList.cheapestJoin()I -/
abbrev rm_BoxList_cheapestJoin : Room := { frames := 3, cells := 0, slots := 0, locals := 67 }
theorem hd_BoxList_cheapestJoin : hp_d yX2_cheapestJoin 0 := by decide +kernel
def f_BoxList_cheapestJoin_l2 (a0 : Nat) (x3 : Int32) (σ : hp_H) (K : Int32 → Int32 → Int32 → Option Int32) : Nat → Int32 → Int32 → Int32 → Option Int32
  | 0, _, _, _ => none
  | n + 1, x1, x2, x4 => (hp_gI σ a0 1 1).bind fun v3 => if v3 ≤ x4 then (K x1 x2 x4) else ((hp_gR σ a0 1 0).bind fun q5 => (hp_aI σ q5 0 x3).bind fun v6 => (hp_gR σ a0 1 0).bind fun q7 => (hp_aI σ q7 0 x4).bind fun v8 => (f_Box_waste v6 v8).bind fun v10 => if x1 ≤ v10 then (f_BoxList_cheapestJoin_l2 a0 x3 σ K n x1 x2 (x4 + 1)) else ((hp_gR σ a0 1 0).bind fun q12 => (hp_aI σ q12 0 x3).bind fun v13 => (hp_gR σ a0 1 0).bind fun q14 => (hp_aI σ q14 0 x4).bind fun v15 => (f_Box_joined v13 v15).bind fun v17 => f_BoxList_cheapestJoin_l2 a0 x3 σ K n v10 v17 (x4 + 1)))
def f_BoxList_cheapestJoin_l1 (a0 : Nat) (σ : hp_H) (K : Int32 → Int32 → Int32 → Option Int32) : Nat → Int32 → Int32 → Int32 → Option Int32
  | 0, _, _, _ => none
  | n + 1, x1, x2, x3 => (hp_gI σ a0 1 1).bind fun v1 => if v1 ≤ x3 then (K x1 x2 x3) else (f_BoxList_cheapestJoin_l2 a0 x3 σ (fun z18 z19 z20 => f_BoxList_cheapestJoin_l1 a0 σ K n z18 z19 (x3 + 1)) hp_F x1 x2 (x3 + 1))
def f_BoxList_cheapestJoin (a0 : Nat) (σ : hp_H) : Option Int32 := hp_own σ a0 1 (f_BoxList_cheapestJoin_l1 a0 σ (fun z21 z22 z23 => some z22) hp_F 1000 0 0)
set_option maxHeartbeats 4000000 in
set_option maxRecDepth 100000 in
theorem w_BoxList_cheapestJoin_l2 {p : Program} {l : Launch} {e : Env} {s : State} {m : MethodId} {args : Array Value} {below : List Frame} {meth : Method} {c : Code} {G : hp_G} {b : Nat} {σ : hp_H} {a0 : Nat} {x3 : Int32} {r : Int32} {K : Int32 → Int32 → Int32 → Option Int32} (hX : hp_X G p s m c args cX2_cheapestJoin 6 RX2) (hlocks : meth.locks = false) (hr : meth.sig.returnType = (some .int))
    (hK : ∀ (x1 : Int32) (x2 : Int32) (x4 : Int32) (H : Heap) (locs : List Loc) (ls : Array Slot), hp_R G b s.heap σ H locs → lv_has ls 6 [(0, .ref a0), (1, .int x1), (2, .int x2), (3, .int x3)] → K x1 x2 x4 = some r → W p l e rm_BoxList_cheapestJoin s m args below meth c H locs 0 0 (MQ below (hp_Qc G b (some (.int r)) σ) args s 0 0 (fun q => b ≤ q)) (F0 m 80 ls [])) :
    ∀ (n : Nat) (x1 : Int32) (x2 : Int32) (x4 : Int32) (H : Heap) (locs : List Loc) (ls : Array Slot), hp_R G b s.heap σ H locs → f_BoxList_cheapestJoin_l2 a0 x3 σ K n x1 x2 x4 = some r → lv_has ls 6 [(0, .ref a0), (1, .int x1), (2, .int x2), (3, .int x3), (4, .int x4)] → W p l e rm_BoxList_cheapestJoin s m args below meth c H locs 0 0 (MQ below (hp_Qc G b (some (.int r)) σ) args s 0 0 (fun q => b ≤ q)) (F0 m 21 ls []) := by
  obtain ⟨hx, hb, hml, hown, hts⟩ := id hX.1
  intro n
  induction n with
  | zero =>
    intro x1 x2 x4 H locs ls hR h hl
    rw [f_BoxList_cheapestJoin_l2] at h
    cases h
  | succ n ih =>
    intro x1 x2 x4 H locs ls hR h hl
    rw [f_BoxList_cheapestJoin_l2] at h
    refine lv_iload hx hb dX2_cheapestJoin_21 (lv_at hl 4 rfl) ?_
    refine lv_aload_n hx hb dX2_cheapestJoin_23 rfl (lv_at hl 0 rfl) ?_
    refine hp_getI hX hR (ci := 1) 1 rfl wf2 (by decide) wq1_135 dX2_cheapestJoin_24 h (fun v3 h => ?_)
    refine lv_icmp_ge (tgt := 80) hx hb dX2_cheapestJoin_27 (by decide) (fun c4 => ?_) (fun c4 => ?_)
    · have h := hp_ip c4 h
      exact hK _ _ _ _ _ _ hR (lv_sub hl [0, 1, 2, 3] rfl) h
    · have h := hp_in c4 h
      refine lv_aload_n hx hb dX2_cheapestJoin_30 rfl (lv_at hl 0 rfl) ?_
      refine hp_getR hX hR (ci := 1) 0 rfl wf2 (by decide) wq1_132 dX2_cheapestJoin_31 h (fun q5 h => ?_)
      refine lv_iload_n hx hb dX2_cheapestJoin_34 rfl (lv_at hl 3 rfl) ?_
      refine hp_iald hX hR dX2_cheapestJoin_35 h (fun v6 h => ?_)
      refine lv_aload_n hx hb dX2_cheapestJoin_36 rfl (lv_at hl 0 rfl) ?_
      refine hp_getR hX hR (ci := 1) 0 rfl wf2 (by decide) wq1_132 dX2_cheapestJoin_37 h (fun q7 h => ?_)
      refine lv_iload hx hb dX2_cheapestJoin_40 (lv_at hl 4 rfl) ?_
      refine hp_iald hX hR dX2_cheapestJoin_42 h (fun v8 h => ?_)
      refine hp_bn h (fun v10 h9 h => ?_)
      refine hp_ci hR (hp_runS (rest := []) (As := [.int v6, .int v8]) hX hR (c_Box_waste h9) cs_X2_35 rfl rfl hd_Box_waste ⟨Nat.le_of_ble_eq_true rfl, Nat.le_of_ble_eq_true rfl⟩ rfl hl.1 rfl (Nat.le_of_ble_eq_true rfl) dX2_cheapestJoin_43 ⟨Nat.le_of_ble_eq_true rfl, Nat.le_of_ble_eq_true rfl⟩) (fun H locs hR => ?_)
      refine lv_istore (lv' := [(5, .int v10), (0, .ref a0), (1, .int x1), (2, .int x2), (3, .int x3), (4, .int x4)]) hx hb dX2_cheapestJoin_46 hl (by decide) rfl (fun ls hl => ?_)
      refine lv_iload hx hb dX2_cheapestJoin_48 (lv_at hl 0 rfl) ?_
      refine lv_iload_n hx hb dX2_cheapestJoin_50 rfl (lv_at hl 2 rfl) ?_
      refine lv_icmp_ge (tgt := 74) hx hb dX2_cheapestJoin_51 (by decide) (fun c11 => ?_) (fun c11 => ?_)
      · have h := hp_ip c11 h
        refine lv_iinc (v := (x4 + 1)) (lv' := [(4, .int (x4 + 1)), (5, .int v10), (0, .ref a0), (1, .int x1), (2, .int x2), (3, .int x3)]) hx hb dX2_cheapestJoin_74 hl (k := 5) rfl rfl (by decide) rfl (fun ls hl => ?_)
        refine lv_goto (tgt := 21) hx hb dX2_cheapestJoin_77 (by decide) ?_
        exact ih _ _ _ _ _ _ hR h (lv_sub hl [2, 3, 4, 5, 0] rfl)
      · have h := hp_in c11 h
        refine lv_iload hx hb dX2_cheapestJoin_54 (lv_at hl 0 rfl) ?_
        refine lv_istore_n (lv' := [(1, .int v10), (5, .int v10), (0, .ref a0), (2, .int x2), (3, .int x3), (4, .int x4)]) hx hb dX2_cheapestJoin_56 rfl hl (by decide) rfl (fun ls hl => ?_)
        refine lv_aload_n hx hb dX2_cheapestJoin_57 rfl (lv_at hl 2 rfl) ?_
        refine hp_getR hX hR (ci := 1) 0 rfl wf2 (by decide) wq1_132 dX2_cheapestJoin_58 h (fun q12 h => ?_)
        refine lv_iload_n hx hb dX2_cheapestJoin_61 rfl (lv_at hl 4 rfl) ?_
        refine hp_iald hX hR dX2_cheapestJoin_62 h (fun v13 h => ?_)
        refine lv_aload_n hx hb dX2_cheapestJoin_63 rfl (lv_at hl 2 rfl) ?_
        refine hp_getR hX hR (ci := 1) 0 rfl wf2 (by decide) wq1_132 dX2_cheapestJoin_64 h (fun q14 h => ?_)
        refine lv_iload hx hb dX2_cheapestJoin_67 (lv_at hl 5 rfl) ?_
        refine hp_iald hX hR dX2_cheapestJoin_69 h (fun v15 h => ?_)
        refine hp_bn h (fun v17 h16 h => ?_)
        refine hp_ci hR (hp_runS (rest := []) (As := [.int v13, .int v15]) hX hR (c_Box_joined h16) cs_X2_39 rfl rfl hd_Box_joined ⟨Nat.le_of_ble_eq_true rfl, Nat.le_of_ble_eq_true rfl⟩ rfl hl.1 rfl (Nat.le_of_ble_eq_true rfl) dX2_cheapestJoin_70 ⟨Nat.le_of_ble_eq_true rfl, Nat.le_of_ble_eq_true rfl⟩) (fun H locs hR => ?_)
        refine lv_istore_n (lv' := [(2, .int v17), (1, .int v10), (5, .int v10), (0, .ref a0), (3, .int x3), (4, .int x4)]) hx hb dX2_cheapestJoin_73 rfl hl (by decide) rfl (fun ls hl => ?_)
        refine lv_iinc (v := (x4 + 1)) (lv' := [(4, .int (x4 + 1)), (2, .int v17), (1, .int v10), (5, .int v10), (0, .ref a0), (3, .int x3)]) hx hb dX2_cheapestJoin_74 hl (k := 5) rfl rfl (by decide) rfl (fun ls hl => ?_)
        refine lv_goto (tgt := 21) hx hb dX2_cheapestJoin_77 (by decide) ?_
        exact ih _ _ _ _ _ _ hR h (lv_sub hl [4, 2, 1, 5, 0] rfl)
set_option maxHeartbeats 4000000 in
set_option maxRecDepth 100000 in
theorem w_BoxList_cheapestJoin_l1 {p : Program} {l : Launch} {e : Env} {s : State} {m : MethodId} {args : Array Value} {below : List Frame} {meth : Method} {c : Code} {G : hp_G} {b : Nat} {σ : hp_H} {a0 : Nat} {r : Int32} {K : Int32 → Int32 → Int32 → Option Int32} (hX : hp_X G p s m c args cX2_cheapestJoin 6 RX2) (hlocks : meth.locks = false) (hr : meth.sig.returnType = (some .int))
    (hK : ∀ (x1 : Int32) (x2 : Int32) (x3 : Int32) (H : Heap) (locs : List Loc) (ls : Array Slot), hp_R G b s.heap σ H locs → lv_has ls 6 [(2, .int x2)] → K x1 x2 x3 = some r → W p l e rm_BoxList_cheapestJoin s m args below meth c H locs 0 0 (MQ below (hp_Qc G b (some (.int r)) σ) args s 0 0 (fun q => b ≤ q)) (F0 m 86 ls [])) :
    ∀ (n : Nat) (x1 : Int32) (x2 : Int32) (x3 : Int32) (H : Heap) (locs : List Loc) (ls : Array Slot), hp_R G b s.heap σ H locs → f_BoxList_cheapestJoin_l1 a0 σ K n x1 x2 x3 = some r → lv_has ls 6 [(0, .ref a0), (1, .int x1), (2, .int x2), (3, .int x3)] → W p l e rm_BoxList_cheapestJoin s m args below meth c H locs 0 0 (MQ below (hp_Qc G b (some (.int r)) σ) args s 0 0 (fun q => b ≤ q)) (F0 m 8 ls []) := by
  obtain ⟨hx, hb, hml, hown, hts⟩ := id hX.1
  intro n
  induction n with
  | zero =>
    intro x1 x2 x3 H locs ls hR h hl
    rw [f_BoxList_cheapestJoin_l1] at h
    cases h
  | succ n ih =>
    intro x1 x2 x3 H locs ls hR h hl
    rw [f_BoxList_cheapestJoin_l1] at h
    refine lv_iload_n hx hb dX2_cheapestJoin_8 rfl (lv_at hl 3 rfl) ?_
    refine lv_aload_n hx hb dX2_cheapestJoin_9 rfl (lv_at hl 0 rfl) ?_
    refine hp_getI hX hR (ci := 1) 1 rfl wf2 (by decide) wq1_135 dX2_cheapestJoin_10 h (fun v1 h => ?_)
    refine lv_icmp_ge (tgt := 86) hx hb dX2_cheapestJoin_13 (by decide) (fun c2 => ?_) (fun c2 => ?_)
    · have h := hp_ip c2 h
      exact hK _ _ _ _ _ _ hR (lv_sub hl [2] rfl) h
    · have h := hp_in c2 h
      refine lv_iload_n hx hb dX2_cheapestJoin_16 rfl (lv_at hl 3 rfl) ?_
      refine lv_iconst (v := 1) hx hb dX2_cheapestJoin_17 (by decide) ?_
      refine lv_iadd hx hb dX2_cheapestJoin_18 ?_
      refine lv_istore (lv' := [(4, .int (x3 + 1)), (0, .ref a0), (1, .int x1), (2, .int x2), (3, .int x3)]) hx hb dX2_cheapestJoin_19 hl (by decide) rfl (fun ls hl => ?_)
      refine w_BoxList_cheapestJoin_l2 hX hlocks hr ?_ hp_F _ _ _ _ _ _ hR h (lv_sub hl [1, 2, 3, 4, 0] rfl)
      intro z18 z19 z20 H locs ls hR hl h
      refine lv_iinc (v := (x3 + 1)) (lv' := [(3, .int (x3 + 1)), (0, .ref a0), (1, .int z18), (2, .int z19)]) hx hb dX2_cheapestJoin_80 hl (k := 3) rfl rfl (by decide) rfl (fun ls hl => ?_)
      refine lv_goto (tgt := 8) hx hb dX2_cheapestJoin_83 (by decide) ?_
      exact ih _ _ _ _ _ _ hR h (lv_sub hl [1, 2, 3, 0] rfl)
set_option maxHeartbeats 4000000 in
set_option maxRecDepth 100000 in
theorem c_BoxList_cheapestJoin {l : Launch} {G : hp_G} {b : Nat} {σ : hp_H} {a0 : Nat} {r : Int32} (h : f_BoxList_cheapestJoin a0 σ = some r) : hp_Met l yX2_cheapestJoin cX2_cheapestJoin 6 (some .int) rm_BoxList_cheapestJoin G b [.ref a0] σ (some (.int r)) σ 0 0 := by
  refine hp_met (by decide +kernel) (Nat.le_of_ble_eq_true rfl) (fun p e s m below meth c ls hX hlocks hr hnm hl hR => ?_)
  obtain ⟨hx, hb, hml, hown, hts⟩ := id hX.1
  have hl : lv_has ls 6 [(0, .ref a0)] := hl
  unfold f_BoxList_cheapestJoin at h
  have h := hp_own_to h
  refine lv_sipush (v := 1000) hx hb dX2_cheapestJoin_0 (by decide) ?_
  refine lv_istore_n (lv' := [(1, .int 1000), (0, .ref a0)]) hx hb dX2_cheapestJoin_3 rfl hl (by decide) rfl (fun ls hl => ?_)
  refine lv_iconst (v := 0) hx hb dX2_cheapestJoin_4 (by decide) ?_
  refine lv_istore_n (lv' := [(2, .int 0), (1, .int 1000), (0, .ref a0)]) hx hb dX2_cheapestJoin_5 rfl hl (by decide) rfl (fun ls hl => ?_)
  refine lv_iconst (v := 0) hx hb dX2_cheapestJoin_6 (by decide) ?_
  refine lv_istore_n (lv' := [(3, .int 0), (2, .int 0), (1, .int 1000), (0, .ref a0)]) hx hb dX2_cheapestJoin_7 rfl hl (by decide) rfl (fun ls hl => ?_)
  refine w_BoxList_cheapestJoin_l1 hX hlocks hr ?_ hp_F _ _ _ _ _ _ hR h (lv_sub hl [3, 2, 1, 0] rfl)
  intro z21 z22 z23 H locs ls hR hl h
  refine lv_iload_n hx hb dX2_cheapestJoin_86 rfl (lv_at hl 0 rfl) ?_
  exact hp_iretP hX hlocks hr hR h dX2_cheapestJoin_87
/-! Client.<init>()V -/
abbrev rm_Client_init : Room := { frames := 1, cells := 2, slots := 20, locals := 12 }
theorem hd_Client_init : hp_d yX3_init 0 := by decide +kernel
def f_Client_init (a0 : Nat) (σ : hp_H) : Option hp_H := hp_own σ a0 2 (hp_nw σ (.inr (.inl (0, 8, fun _ => 0))) fun q1 σ => (hp_pR σ a0 2 5 q1).bind fun σ => hp_nw σ (.inr (.inl (0, 12, fun _ => 0))) fun q2 σ => (hp_pR σ a0 2 6 q2).bind fun σ => some σ)
set_option maxHeartbeats 4000000 in
set_option maxRecDepth 100000 in
theorem c_Client_init {l : Launch} {G : hp_G} {b : Nat} {σ : hp_H} {a0 : Nat} {σ' : hp_H} (h : f_Client_init a0 σ = some σ') : hp_Met l yX3_init cX3_init 1 none rm_Client_init G b [.ref a0] σ none σ' 2 20 := by
  refine hp_met (by decide +kernel) (Nat.le_of_ble_eq_true rfl) (fun p e s m below meth c ls hX hlocks hr hnm hl hR => ?_)
  obtain ⟨hx, hb, hml, hown, hts⟩ := id hX.1
  have hl : lv_has ls 1 [(0, .ref a0)] := hl
  unfold f_Client_init at h
  have h := hp_own_to h
  refine lv_aload_n hx hb dX3_init_0 rfl (lv_at hl 0 rfl) ?_
  refine hp_obj0 hX wq1_36 wq1_22 wq1_23 hl.1 dX3_init_1 (Nat.le_of_ble_eq_true rfl) (Nat.le_of_ble_eq_true rfl) ?_
  refine lv_aload_n hx hb dX3_init_4 rfl (lv_at hl 0 rfl) ?_
  refine lv_bipush (v := 8) hx hb dX3_init_5 (by decide) ?_
  refine hp_newI hX hR 8 wq1_66 (by decide) (by decide) (Nat.le_of_ble_eq_true rfl) (Nat.le_of_ble_eq_true rfl) (Nat.le_of_ble_eq_true rfl) dX3_init_7 h (fun q1 σ H h hR => ?_)
  refine hp_putR hX hR (ci := 2) 5 rfl wf3 tyX3_ok nmX3 (by decide) wq1_49 rfl hnm rfl dX3_init_9 rfl rfl h (fun σ H locs h hR => ?_)
  refine lv_aload_n hx hb dX3_init_12 rfl (lv_at hl 0 rfl) ?_
  refine lv_bipush (v := 12) hx hb dX3_init_13 (by decide) ?_
  refine hp_newI hX hR 12 wq1_66 (by decide) (by decide) (Nat.le_of_ble_eq_true rfl) (Nat.le_of_ble_eq_true rfl) (Nat.le_of_ble_eq_true rfl) dX3_init_15 h (fun q2 σ H h hR => ?_)
  refine hp_putR hX hR (ci := 2) 6 rfl wf3 tyX3_ok nmX3 (by decide) wq1_50 rfl hnm rfl dX3_init_17 rfl rfl h (fun σ H locs h hR => ?_)
  exact hp_vret hX hlocks hr hR h dX3_init_20
