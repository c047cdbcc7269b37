theorem cs_X6_15 : hp_WV RX6 15 RX8 yX8_clientsWishing cX8_clientsWishing 4 (some .int) := ⟨wq2_208, wq2_209, wq2_210, wq1_2, wq2_211⟩
theorem cs_X6_31 : hp_WV RX6 31 RX8 yX8_clientsHomeAt cX8_clientsHomeAt 4 (some .int) := ⟨wq2_212, wq2_50, wq2_51, wq1_2, wq2_52⟩
theorem cs_X6_34 : hp_WV RX6 34 RX6 yX6_goOn cX6_goOn 8 (some .boolean) := ⟨wq2_213, wq2_215, wp1_3, wq1_6, wq2_216⟩
/-! Journey.travel(LNoticeBoxes$State;LNoticeBoxes$Tellings;II)V -/
abbrev rm_Journey_travel : Room := { frames := 4, cells := 0, slots := 0, locals := 92 }
theorem hd_Journey_travel : hp_d yX6_travel 4 := by decide +kernel
def f_Journey_travel_l1 (a0 : Nat) (a1 : Nat) (a2 : Nat) (x4 : Int32) (x5 : Int32) (K : Int32 → Int32 → hp_H → Option hp_H) : Nat → Int32 → Int32 → hp_H → Option hp_H
  | 0, _, _, _ => none
  | n + 1, x6, x7, σ => (hp_gI σ a0 5 4).bind fun v4 => if v4 < x7 then (K x6 x7 σ) else (if (7 : Int32) ≤ x7 then (K x6 x7 σ) else ((hp_gR σ a0 5 0).bind fun q7 => (hp_aI σ q7 0 x7).bind fun v8 => (f_State_clientsHomeAt a1 v8 σ).bind fun v10 => (hp_gI σ a0 5 2).bind fun v11 => (hp_pI σ a0 5 2 (v11 ||| (x5 &&& v10))).bind fun σ => hp_b (f_Journey_goOn a0 a1 a2 v8 x4 σ) fun v13 σ => if v13 = 0 then (if (x5 &&& v10) = 0 then (f_Journey_travel_l1 a0 a1 a2 x4 x5 K n x6 (x7 + 1) σ) else (f_Journey_travel_l1 a0 a1 a2 x4 x5 K n (x6 ||| ((1 : Int32) <<< (v8 &&& 31))) (x7 + 1) σ)) else (f_Journey_travel_l1 a0 a1 a2 x4 x5 K n (x6 ||| ((1 : Int32) <<< (v8 &&& 31))) (x7 + 1) σ)))
def f_Journey_travel (a0 : Nat) (a1 : Nat) (a2 : Nat) (x3 : Int32) (x4 : Int32) (σ : hp_H) : Option hp_H := hp_own σ a0 5 ((f_State_clientsWishing a1 x4 σ).bind fun v2 => (hp_pI σ a0 5 1 ((1 : Int32) <<< (x3 &&& 31))).bind fun σ => (hp_pI σ a0 5 2 0).bind fun σ => (hp_pI σ a0 5 4 0).bind fun σ => (hp_gR σ a0 5 0).bind fun q3 => (hp_sI σ q3 0 0 x3).bind fun σ => f_Journey_travel_l1 a0 a1 a2 x4 v2 (fun z16 z17 σ => (hp_gI σ a0 5 1).bind fun v18 => (hp_pI σ a0 5 3 (v18 &&& (z16 ^^^ (-1)))).bind fun σ => some σ) hp_F ((1 : Int32) <<< (x3 &&& 31)) 0 σ)
set_option maxHeartbeats 4000000 in
set_option maxRecDepth 100000 in
theorem w_Journey_travel_l1 {p : Program} {l : Launch} {e : Env} {s : State} {m : MethodId} {args : Array Value} {below : List Frame} {meth : Method} {c : Code} {G : hp_G} {b : Nat} {a0 : Nat} {a1 : Nat} {a2 : Nat} {x4 : Int32} {x5 : Int32} {σ' : hp_H} {K : Int32 → Int32 → hp_H → Option hp_H} (hX : hp_X G p s m c args cX6_travel 10 RX6) (hlocks : meth.locks = false) (hr : meth.sig.returnType = none)
    (hK : ∀ (x6 : Int32) (x7 : Int32) (σ : hp_H) (H : Heap) (locs : List Loc) (ls : Array Slot), hp_R G b s.heap σ H locs → lv_has ls 10 [(0, .ref a0), (6, .int x6)] → K x6 x7 σ = some σ' → W p l e rm_Journey_travel s m args below meth c H locs 0 0 (MQ below (hp_Qc G b none σ') args s 0 0 (fun q => b ≤ q)) (F0 m 120 ls [])) :
    ∀ (n : Nat) (x6 : Int32) (x7 : Int32) (σ : hp_H) (H : Heap) (locs : List Loc) (ls : Array Slot), hp_R G b s.heap σ H locs → f_Journey_travel_l1 a0 a1 a2 x4 x5 K n x6 x7 σ = some σ' → lv_has ls 10 [(0, .ref a0), (1, .ref a1), (2, .ref a2), (4, .int x4), (5, .int x5), (6, .int x6), (7, .int x7)] → W p l e rm_Journey_travel s m args below meth c H locs 0 0 (MQ below (hp_Qc G b none σ') args s 0 0 (fun q => b ≤ q)) (F0 m 40 ls []) := by
  obtain ⟨hx, hb, hml, hown, hts⟩ := id hX.1
  intro n
  induction n with
  | zero =>
    intro x6 x7 σ H locs ls hR h hl
    rw [f_Journey_travel_l1] at h
    cases h
  | succ n ih =>
    intro x6 x7 σ H locs ls hR h hl
    rw [f_Journey_travel_l1] at h
    refine lv_iload hx hb dX6_travel_40 (lv_at hl 6 rfl) ?_
    refine lv_aload_n hx hb dX6_travel_42 rfl (lv_at hl 0 rfl) ?_
    refine hp_getI hX hR (ci := 5) 4 rfl wf6 (by decide) wq1_168 dX6_travel_43 h (fun v4 h => ?_)
    refine lv_icmp_gt (tgt := 120) hx hb dX6_travel_46 (by decide) (fun c5 => ?_) (fun c5 => ?_)
    · have h := hp_ip c5 h
      exact hK _ _ _ _ _ _ hR (lv_sub hl [0, 5] rfl) h
    · have h := hp_in c5 h
      refine lv_iload hx hb dX6_travel_49 (lv_at hl 6 rfl) ?_
      refine lv_bipush (v := 7) hx hb dX6_travel_51 (by decide) ?_
      refine lv_icmp_ge (tgt := 120) hx hb dX6_travel_53 (by decide) (fun c6 => ?_) (fun c6 => ?_)
      · have h := hp_ip c6 h
        exact hK _ _ _ _ _ _ hR (lv_sub hl [0, 5] rfl) h
      · have h := hp_in c6 h
        refine lv_aload_n hx hb dX6_travel_56 rfl (lv_at hl 0 rfl) ?_
        refine hp_getR hX hR (ci := 5) 0 rfl wf6 (by decide) wq1_159 dX6_travel_57 h (fun q7 h => ?_)
        refine lv_iload hx hb dX6_travel_60 (lv_at hl 6 rfl) ?_
        refine hp_iald hX hR dX6_travel_62 h (fun v8 h => ?_)
        refine lv_istore (lv' := [(8, .int v8), (0, .ref a0), (1, .ref a1), (2, .ref a2), (4, .int x4), (5, .int x5), (6, .int x6), (7, .int x7)]) hx hb dX6_travel_63 hl (by decide) rfl (fun ls hl => ?_)
        refine lv_iload hx hb dX6_travel_65 (lv_at hl 5 rfl) ?_
        refine lv_aload_n hx hb dX6_travel_67 rfl (lv_at hl 2 rfl) ?_
        refine lv_iload hx hb dX6_travel_68 (lv_at hl 0 rfl) ?_
        refine hp_bn h (fun v10 h9 h => ?_)
        refine hp_ci hR (hp_runV (rest := [.int x5]) (As := [.int v8]) hX hR (c_State_clientsHomeAt h9) cs_X6_31 rfl rfl rfl hd_State_clientsHomeAt ⟨Nat.le_of_ble_eq_true rfl, Nat.le_of_ble_eq_true rfl⟩ (ci := 7) rfl (hp_own_is h9) rfl hl.1 rfl (Nat.le_of_ble_eq_true rfl) dX6_travel_70 ⟨Nat.le_of_ble_eq_true rfl, Nat.le_of_ble_eq_true rfl⟩) (fun H locs hR => ?_)
        refine lv_iand hx hb dX6_travel_73 ?_
        refine lv_istore (lv' := [(9, .int (x5 &&& v10)), (8, .int v8), (0, .ref a0), (1, .ref a1), (2, .ref a2), (4, .int x4), (5, .int x5), (6, .int x6), (7, .int x7)]) hx hb dX6_travel_74 hl (by decide) rfl (fun ls hl => ?_)
        refine lv_aload_n hx hb dX6_travel_76 rfl (lv_at hl 2 rfl) ?_
        refine lv_dup hx hb dX6_travel_77 rfl ?_
        refine hp_getI hX hR (ci := 5) 2 rfl wf6 (by decide) wq1_162 dX6_travel_78 h (fun v11 h => ?_)
        refine lv_iload hx hb dX6_travel_81 (lv_at hl 0 rfl) ?_
        refine lv_ior hx hb dX6_travel_83 ?_
        refine hp_putI hX hR (ci := 5) 2 rfl wf6 tyX6_ok nmX6 (by decide) wq1_162 rfl dX6_travel_84 rfl h (fun σ H locs h hR => ?_)
        refine lv_aload_n hx hb dX6_travel_87 rfl (lv_at hl 2 rfl) ?_
        refine lv_aload_n hx hb dX6_travel_88 rfl (lv_at hl 3 rfl) ?_
        refine lv_aload_n hx hb dX6_travel_89 rfl (lv_at hl 4 rfl) ?_
        refine lv_iload hx hb dX6_travel_90 (lv_at hl 1 rfl) ?_
        refine lv_iload hx hb dX6_travel_92 (lv_at hl 5 rfl) ?_
        refine hp_b2 h (fun v13 σ h12 h => ?_)
        refine hp_ci hR (hp_runV (rest := []) (As := [.ref a1, .ref a2, .int v8, .int x4]) hX hR (c_Journey_goOn h12) cs_X6_34 rfl rfl rfl hd_Journey_goOn ⟨Nat.le_of_ble_eq_true rfl, Nat.le_of_ble_eq_true rfl⟩ (ci := 5) rfl (hp_own_is h12) rfl hl.1 rfl (Nat.le_of_ble_eq_true rfl) dX6_travel_94 ⟨Nat.le_of_ble_eq_true rfl, Nat.le_of_ble_eq_true rfl⟩) (fun H locs hR => ?_)
        refine lv_if_ne (tgt := 105) hx hb dX6_travel_97 (by decide) (fun c14 => ?_) (fun c14 => ?_)
        · have h := hp_in c14 h
          refine lv_iload hx hb dX6_travel_105 (lv_at hl 7 rfl) ?_
          refine lv_iconst (v := 1) hx hb dX6_travel_107 (by decide) ?_
          refine lv_iload hx hb dX6_travel_108 (lv_at hl 1 rfl) ?_
          refine lv_ishl hx hb dX6_travel_110 ?_
          refine lv_ior hx hb dX6_travel_111 ?_
          refine lv_istore (lv' := [(6, .int (x6 ||| ((1 : Int32) <<< (v8 &&& 31)))), (9, .int (x5 &&& v10)), (8, .int v8), (0, .ref a0), (1, .ref a1), (2, .ref a2), (4, .int x4), (5, .int x5), (7, .int x7)]) hx hb dX6_travel_112 hl (by decide) rfl (fun ls hl => ?_)
          refine lv_iinc (v := (x7 + 1)) (lv' := [(7, .int (x7 + 1)), (6, .int (x6 ||| ((1 : Int32) <<< (v8 &&& 31)))), (9, .int (x5 &&& v10)), (8, .int v8), (0, .ref a0), (1, .ref a1), (2, .ref a2), (4, .int x4), (5, .int x5)]) hx hb dX6_travel_114 hl (k := 8) rfl rfl (by decide) rfl (fun ls hl => ?_)
          refine lv_goto (tgt := 40) hx hb dX6_travel_117 (by decide) ?_
          exact ih _ _ _ _ _ _ hR h (lv_sub hl [4, 5, 6, 7, 8, 1, 0] rfl)
        · have h := hp_ip c14 h
          refine lv_iload hx hb dX6_travel_100 (lv_at hl 0 rfl) ?_
          refine lv_if_eq (tgt := 114) hx hb dX6_travel_102 (by decide) (fun c15 => ?_) (fun c15 => ?_)
          · have h := hp_ip c15 h
            refine lv_iinc (v := (x7 + 1)) (lv' := [(7, .int (x7 + 1)), (9, .int (x5 &&& v10)), (8, .int v8), (0, .ref a0), (1, .ref a1), (2, .ref a2), (4, .int x4), (5, .int x5), (6, .int x6)]) hx hb dX6_travel_114 hl (k := 8) rfl rfl (by decide) rfl (fun ls hl => ?_)
            refine lv_goto (tgt := 40) hx hb dX6_travel_117 (by decide) ?_
            exact ih _ _ _ _ _ _ hR h (lv_sub hl [3, 4, 5, 6, 7, 8, 0] rfl)
          · have h := hp_in c15 h
            refine lv_iload hx hb dX6_travel_105 (lv_at hl 7 rfl) ?_
            refine lv_iconst (v := 1) hx hb dX6_travel_107 (by decide) ?_
            refine lv_iload hx hb dX6_travel_108 (lv_at hl 1 rfl) ?_
            refine lv_ishl hx hb dX6_travel_110 ?_
            refine lv_ior hx hb dX6_travel_111 ?_
            refine lv_istore (lv' := [(6, .int (x6 ||| ((1 : Int32) <<< (v8 &&& 31)))), (9, .int (x5 &&& v10)), (8, .int v8), (0, .ref a0), (1, .ref a1), (2, .ref a2), (4, .int x4), (5, .int x5), (7, .int x7)]) hx hb dX6_travel_112 hl (by decide) rfl (fun ls hl => ?_)
            refine lv_iinc (v := (x7 + 1)) (lv' := [(7, .int (x7 + 1)), (6, .int (x6 ||| ((1 : Int32) <<< (v8 &&& 31)))), (9, .int (x5 &&& v10)), (8, .int v8), (0, .ref a0), (1, .ref a1), (2, .ref a2), (4, .int x4), (5, .int x5)]) hx hb dX6_travel_114 hl (k := 8) rfl rfl (by decide) rfl (fun ls hl => ?_)
            refine lv_goto (tgt := 40) hx hb dX6_travel_117 (by decide) ?_
            exact ih _ _ _ _ _ _ hR h (lv_sub hl [4, 5, 6, 7, 8, 1, 0] rfl)
set_option maxHeartbeats 4000000 in
set_option maxRecDepth 100000 in
theorem c_Journey_travel {l : Launch} {G : hp_G} {b : Nat} {σ : hp_H} {a0 : Nat} {a1 : Nat} {a2 : Nat} {x3 : Int32} {x4 : Int32} {σ' : hp_H} (h : f_Journey_travel a0 a1 a2 x3 x4 σ = some σ') : hp_Met l yX6_travel cX6_travel 10 none rm_Journey_travel G b [.ref a0, .ref a1, .ref a2, .int x3, .int x4] σ none σ' 0 0 := by
  refine hp_met (by decide +kernel) (Nat.le_of_ble_eq_true rfl) (fun p e s m below meth c ls hX hlocks hr hnm hl hR => ?_)
  obtain ⟨hx, hb, hml, hown, hts⟩ := id hX.1
  have hl : lv_has ls 10 [(0, .ref a0), (1, .ref a1), (2, .ref a2), (3, .int x3), (4, .int x4)] := hl
  unfold f_Journey_travel at h
  have h := hp_own_to h
  refine lv_aload_n hx hb dX6_travel_0 rfl (lv_at hl 1 rfl) ?_
  refine lv_iload hx hb dX6_travel_1 (lv_at hl 4 rfl) ?_
  refine hp_bn h (fun v2 h1 h => ?_)
  refine hp_ci hR (hp_runV (rest := []) (As := [.int x4]) hX hR (c_State_clientsWishing h1) cs_X6_15 rfl rfl rfl hd_State_clientsWishing ⟨Nat.le_of_ble_eq_true rfl, Nat.le_of_ble_eq_true rfl⟩ (ci := 7) rfl (hp_own_is h1) rfl hl.1 rfl (Nat.le_of_ble_eq_true rfl) dX6_travel_3 ⟨Nat.le_of_ble_eq_true rfl, Nat.le_of_ble_eq_true rfl⟩) (fun H locs hR => ?_)
  refine lv_istore (lv' := [(5, .int v2), (0, .ref a0), (1, .ref a1), (2, .ref a2), (3, .int x3), (4, .int x4)]) hx hb dX6_travel_6 hl (by decide) rfl (fun ls hl => ?_)
  refine lv_iconst (v := 1) hx hb dX6_travel_8 (by decide) ?_
  refine lv_iload_n hx hb dX6_travel_9 rfl (lv_at hl 4 rfl) ?_
  refine lv_ishl hx hb dX6_travel_10 ?_
  refine lv_istore (lv' := [(6, .int ((1 : Int32) <<< (x3 &&& 31))), (5, .int v2), (0, .ref a0), (1, .ref a1), (2, .ref a2), (3, .int x3), (4, .int x4)]) hx hb dX6_travel_11 hl (by decide) rfl (fun ls hl => ?_)
  refine lv_aload_n hx hb dX6_travel_13 rfl (lv_at hl 2 rfl) ?_
  refine lv_iconst (v := 1) hx hb dX6_travel_14 (by decide) ?_
  refine lv_iload_n hx hb dX6_travel_15 rfl (lv_at hl 5 rfl) ?_
  refine lv_ishl hx hb dX6_travel_16 ?_
  refine hp_putI hX hR (ci := 5) 1 rfl wf6 tyX6_ok nmX6 (by decide) wq1_160 rfl dX6_travel_17 rfl h (fun σ H locs h hR => ?_)
  refine lv_aload_n hx hb dX6_travel_20 rfl (lv_at hl 2 rfl) ?_
  refine lv_iconst (v := 0) hx hb dX6_travel_21 (by decide) ?_
  refine hp_putI hX hR (ci := 5) 2 rfl wf6 tyX6_ok nmX6 (by decide) wq1_162 rfl dX6_travel_22 rfl h (fun σ H locs h hR => ?_)
  refine lv_aload_n hx hb dX6_travel_25 rfl (lv_at hl 2 rfl) ?_
  refine lv_iconst (v := 0) hx hb dX6_travel_26 (by decide) ?_
  refine hp_putI hX hR (ci := 5) 4 rfl wf6 tyX6_ok nmX6 (by decide) wq1_168 rfl dX6_travel_27 rfl h (fun σ H locs h hR => ?_)
  refine lv_aload_n hx hb dX6_travel_30 rfl (lv_at hl 2 rfl) ?_
  refine hp_getR hX hR (ci := 5) 0 rfl wf6 (by decide) wq1_159 dX6_travel_31 h (fun q3 h => ?_)
  refine lv_iconst (v := 0) hx hb dX6_travel_34 (by decide) ?_
  refine lv_iload_n hx hb dX6_travel_35 rfl (lv_at hl 5 rfl) ?_
  refine hp_iast hX hR dX6_travel_36 h (fun σ H locs h hR => ?_)
  refine lv_iconst (v := 0) hx hb dX6_travel_37 (by decide) ?_
  refine lv_istore (lv' := [(7, .int 0), (6, .int ((1 : Int32) <<< (x3 &&& 31))), (5, .int v2), (0, .ref a0), (1, .ref a1), (2, .ref a2), (3, .int x3), (4, .int x4)]) hx hb dX6_travel_38 hl (by decide) rfl (fun ls hl => ?_)
  refine w_Journey_travel_l1 hX hlocks hr ?_ hp_F _ _ _ _ _ _ hR h (lv_sub hl [3, 4, 5, 7, 2, 1, 0] rfl)
  intro z16 z17 σ H locs ls hR hl h
  refine lv_aload_n hx hb dX6_travel_120 rfl (lv_at hl 0 rfl) ?_
  refine lv_aload_n hx hb dX6_travel_121 rfl (lv_at hl 0 rfl) ?_
  refine hp_getI hX hR (ci := 5) 1 rfl wf6 (by decide) wq1_160 dX6_travel_122 h (fun v18 h => ?_)
  refine lv_iload hx hb dX6_travel_125 (lv_at hl 1 rfl) ?_
  refine lv_iconst (v := (-1)) hx hb dX6_travel_127 (by decide) ?_
  refine lv_ixor hx hb dX6_travel_128 ?_
  refine lv_iand hx hb dX6_travel_129 ?_
  refine hp_putI hX hR (ci := 5) 3 rfl wf6 tyX6_ok nmX6 (by decide) wq1_165 rfl dX6_travel_130 rfl h (fun σ H locs h hR => ?_)
  exact hp_vret hX hlocks hr hR h dX6_travel_133
theorem cs_X7_17 : hp_WI RX7 17 yX8_init cX8_init 2 := ⟨wq1_190, wq1_27, wq1_2, wq1_28⟩
/-! Past.<init>()V -/
abbrev rm_Past_init : Room := { frames := 3, cells := 369, slots := 3376, locals := 53 }
theorem hd_Past_init : hp_d yX7_init 0 := by decide +kernel
def f_Past_init (a0 : Nat) (σ : hp_H) : Option hp_H := hp_own σ a0 6 (hp_nw σ (.inr (.inr (5, 16, fun _ => none))) fun q1 σ => (hp_pR σ a0 6 0 q1).bind fun σ => (hp_gR σ a0 6 0).bind fun q2 => hp_nw σ (.inl (7, [.int 0, .int 0, .int 0, .int 0, .int 0, .int 0, .int 0, .null, .null, .null, .null])) fun q3 σ => (f_State_init q3 σ).bind fun σ => (hp_sR σ q2 5 7 0 q3).bind fun σ => (hp_gR σ a0 6 0).bind fun q5 => hp_nw σ (.inl (7, [.int 0, .int 0, .int 0, .int 0, .int 0, .int 0, .int 0, .null, .null, .null, .null])) fun q6 σ => (f_State_init q6 σ).bind fun σ => (hp_sR σ q5 5 7 1 q6).bind fun σ => (hp_gR σ a0 6 0).bind fun q8 => hp_nw σ (.inl (7, [.int 0, .int 0, .int 0, .int 0, .int 0, .int 0, .int 0, .null, .null, .null, .null])) fun q9 σ => (f_State_init q9 σ).bind fun σ => (hp_sR σ q8 5 7 2 q9).bind fun σ => (hp_gR σ a0 6 0).bind fun q11 => hp_nw σ (.inl (7, [.int 0, .int 0, .int 0, .int 0, .int 0, .int 0, .int 0, .null, .null, .null, .null])) fun q12 σ => (f_State_init q12 σ).bind fun σ => (hp_sR σ q11 5 7 3 q12).bind fun σ => (hp_gR σ a0 6 0).bind fun q14 => hp_nw σ (.inl (7, [.int 0, .int 0, .int 0, .int 0, .int 0, .int 0, .int 0, .null, .null, .null, .null])) fun q15 σ => (f_State_init q15 σ).bind fun σ => (hp_sR σ q14 5 7 4 q15).bind fun σ => (hp_gR σ a0 6 0).bind fun q17 => hp_nw σ (.inl (7, [.int 0, .int 0, .int 0, .int 0, .int 0, .int 0, .int 0, .null, .null, .null, .null])) fun q18 σ => (f_State_init q18 σ).bind fun σ => (hp_sR σ q17 5 7 5 q18).bind fun σ => (hp_gR σ a0 6 0).bind fun q20 => hp_nw σ (.inl (7, [.int 0, .int 0, .int 0, .int 0, .int 0, .int 0, .int 0, .null, .null, .null, .null])) fun q21 σ => (f_State_init q21 σ).bind fun σ => (hp_sR σ q20 5 7 6 q21).bind fun σ => (hp_gR σ a0 6 0).bind fun q23 => hp_nw σ (.inl (7, [.int 0, .int 0, .int 0, .int 0, .int 0, .int 0, .int 0, .null, .null, .null, .null])) fun q24 σ => (f_State_init q24 σ).bind fun σ => (hp_sR σ q23 5 7 7 q24).bind fun σ => (hp_gR σ a0 6 0).bind fun q26 => hp_nw σ (.inl (7, [.int 0, .int 0, .int 0, .int 0, .int 0, .int 0, .int 0, .null, .null, .null, .null])) fun q27 σ => (f_State_init q27 σ).bind fun σ => (hp_sR σ q26 5 7 8 q27).bind fun σ => (hp_gR σ a0 6 0).bind fun q29 => hp_nw σ (.inl (7, [.int 0, .int 0, .int 0, .int 0, .int 0, .int 0, .int 0, .null, .null, .null, .null])) fun q30 σ => (f_State_init q30 σ).bind fun σ => (hp_sR σ q29 5 7 9 q30).bind fun σ => (hp_gR σ a0 6 0).bind fun q32 => hp_nw σ (.inl (7, [.int 0, .int 0, .int 0, .int 0, .int 0, .int 0, .int 0, .null, .null, .null, .null])) fun q33 σ => (f_State_init q33 σ).bind fun σ => (hp_sR σ q32 5 7 10 q33).bind fun σ => (hp_gR σ a0 6 0).bind fun q35 => hp_nw σ (.inl (7, [.int 0, .int 0, .int 0, .int 0, .int 0, .int 0, .int 0, .null, .null, .null, .null])) fun q36 σ => (f_State_init q36 σ).bind fun σ => (hp_sR σ q35 5 7 11 q36).bind fun σ => (hp_gR σ a0 6 0).bind fun q38 => hp_nw σ (.inl (7, [.int 0, .int 0, .int 0, .int 0, .int 0, .int 0, .int 0, .null, .null, .null, .null])) fun q39 σ => (f_State_init q39 σ).bind fun σ => (hp_sR σ q38 5 7 12 q39).bind fun σ => (hp_gR σ a0 6 0).bind fun q41 => hp_nw σ (.inl (7, [.int 0, .int 0, .int 0, .int 0, .int 0, .int 0, .int 0, .null, .null, .null, .null])) fun q42 σ => (f_State_init q42 σ).bind fun σ => (hp_sR σ q41 5 7 13 q42).bind fun σ => (hp_gR σ a0 6 0).bind fun q44 => hp_nw σ (.inl (7, [.int 0, .int 0, .int 0, .int 0, .int 0, .int 0, .int 0, .null, .null, .null, .null])) fun q45 σ => (f_State_init q45 σ).bind fun σ => (hp_sR σ q44 5 7 14 q45).bind fun σ => (hp_gR σ a0 6 0).bind fun q47 => hp_nw σ (.inl (7, [.int 0, .int 0, .int 0, .int 0, .int 0, .int 0, .int 0, .null, .null, .null, .null])) fun q48 σ => (f_State_init q48 σ).bind fun σ => (hp_sR σ q47 5 7 15 q48).bind fun σ => some σ)
set_option maxHeartbeats 4000000 in
set_option maxRecDepth 100000 in
theorem c_Past_init {l : Launch} {G : hp_G} {b : Nat} {σ : hp_H} {a0 : Nat} {σ' : hp_H} (h : f_Past_init a0 σ = some σ') : hp_Met l yX7_init cX7_init 2 none rm_Past_init G b [.ref a0] σ none σ' 369 3376 := by
  refine hp_met (by decide +kernel) (Nat.le_of_ble_eq_true rfl) (fun p e s m below meth c ls hX hlocks hr hnm hl hR => ?_)
  obtain ⟨hx, hb, hml, hown, hts⟩ := id hX.1
  have hl : lv_has ls 2 [(0, .ref a0)] := hl
  unfold f_Past_init at h
  have h := hp_own_to h
  refine lv_aload_n hx hb dX7_init_0 rfl (lv_at hl 0 rfl) ?_
  refine hp_obj0 hX wq1_187 wq1_22 wq1_23 hl.1 dX7_init_1 (Nat.le_of_ble_eq_true rfl) (Nat.le_of_ble_eq_true rfl) ?_
  refine lv_aload_n hx hb dX7_init_4 rfl (lv_at hl 0 rfl) ?_
  refine lv_bipush (v := 16) hx hb dX7_init_5 (by decide) ?_
  refine hp_newR hX hR 5 rfl (by decide) wq1_188 16 (by decide) (by decide) (Nat.le_of_ble_eq_true rfl) (Nat.le_of_ble_eq_true rfl) (Nat.le_of_ble_eq_true rfl) dX7_init_7 h (fun q1 σ H h hR => ?_)
  refine hp_putR hX hR (ci := 6) 0 rfl wf7 tyX7_ok nmX7 (by decide) wq1_191 rfl hnm rfl dX7_init_10 rfl rfl h (fun σ H locs h hR => ?_)
  refine lv_iconst (v := 0) hx hb dX7_init_13 (by decide) ?_
  refine lv_istore_n (lv' := [(1, .int 0), (0, .ref a0)]) hx hb dX7_init_14 rfl hl (by decide) rfl (fun ls hl => ?_)
  refine lv_iload_n hx hb dX7_init_15 rfl (lv_at hl 0 rfl) ?_
  refine lv_bipush (v := 16) hx hb dX7_init_16 (by decide) ?_
  refine lv_icmp_ge (tgt := 40) hx hb dX7_init_18 (by decide) (fun cz => absurd cz (by decide)) (fun _ => ?_)
  refine lv_aload_n hx hb dX7_init_21 rfl (lv_at hl 1 rfl) ?_
  refine hp_getR hX hR (ci := 6) 0 rfl wf7 (by decide) wq1_191 dX7_init_22 h (fun q2 h => ?_)
  refine lv_iload_n hx hb dX7_init_25 rfl (lv_at hl 0 rfl) ?_
  refine hp_newO hX hR (ci := 7) (fs := [.int 0, .int 0, .int 0, .int 0, .int 0, .int 0, .int 0, .null, .null, .null, .null]) rfl wf8 tyX8_ok wq1_188 wq1_25 wq1_2 (by decide +kernel) (Nat.le_of_ble_eq_true rfl) (Nat.le_of_ble_eq_true rfl) dX7_init_26 h (fun q3 σ H h hR => ?_)
  refine lv_dup hx hb dX7_init_29 rfl ?_
  refine hp_bn h (fun σ h4 h => ?_)
  refine hp_cv hR (hp_runI (rest := [.ref q3, .int 0, .ref q2]) (As := []) hX hR (c_State_init h4) cs_X7_17 rfl rfl rfl hd_State_init ⟨Nat.le_of_ble_eq_true rfl, Nat.le_of_ble_eq_true rfl⟩ rfl hl.1 rfl (Nat.le_of_ble_eq_true rfl) dX7_init_30 ⟨Nat.le_of_ble_eq_true rfl, Nat.le_of_ble_eq_true rfl⟩) (fun H locs hR => ?_)
  refine hp_aast hX hR 5 7 rfl rfl dX7_init_33 h (fun σ H locs h hR => ?_)
  refine lv_iinc (v := 1) (lv' := [(1, .int 1), (0, .ref a0)]) hx hb dX7_init_34 hl (k := 0) rfl (by decide) (by decide) rfl (fun ls hl => ?_)
  refine lv_goto (tgt := 15) hx hb dX7_init_37 (by decide) ?_
  refine lv_iload_n hx hb dX7_init_15 rfl (lv_at hl 0 rfl) ?_
  refine lv_bipush (v := 16) hx hb dX7_init_16 (by decide) ?_
  refine lv_icmp_ge (tgt := 40) hx hb dX7_init_18 (by decide) (fun cz => absurd cz (by decide)) (fun _ => ?_)
  refine lv_aload_n hx hb dX7_init_21 rfl (lv_at hl 1 rfl) ?_
  refine hp_getR hX hR (ci := 6) 0 rfl wf7 (by decide) wq1_191 dX7_init_22 h (fun q5 h => ?_)
  refine lv_iload_n hx hb dX7_init_25 rfl (lv_at hl 0 rfl) ?_
  refine hp_newO hX hR (ci := 7) (fs := [.int 0, .int 0, .int 0, .int 0, .int 0, .int 0, .int 0, .null, .null, .null, .null]) rfl wf8 tyX8_ok wq1_188 wq1_25 wq1_2 (by decide +kernel) (Nat.le_of_ble_eq_true rfl) (Nat.le_of_ble_eq_true rfl) dX7_init_26 h (fun q6 σ H h hR => ?_)
  refine lv_dup hx hb dX7_init_29 rfl ?_
  refine hp_bn h (fun σ h7 h => ?_)
  refine hp_cv hR (hp_runI (rest := [.ref q6, .int 1, .ref q5]) (As := []) hX hR (c_State_init h7) cs_X7_17 rfl rfl rfl hd_State_init ⟨Nat.le_of_ble_eq_true rfl, Nat.le_of_ble_eq_true rfl⟩ rfl hl.1 rfl (Nat.le_of_ble_eq_true rfl) dX7_init_30 ⟨Nat.le_of_ble_eq_true rfl, Nat.le_of_ble_eq_true rfl⟩) (fun H locs hR => ?_)
  refine hp_aast hX hR 5 7 rfl rfl dX7_init_33 h (fun σ H locs h hR => ?_)
  refine lv_iinc (v := 2) (lv' := [(1, .int 2), (0, .ref a0)]) hx hb dX7_init_34 hl (k := 0) rfl (by decide) (by decide) rfl (fun ls hl => ?_)
  refine lv_goto (tgt := 15) hx hb dX7_init_37 (by decide) ?_
  refine lv_iload_n hx hb dX7_init_15 rfl (lv_at hl 0 rfl) ?_
  refine lv_bipush (v := 16) hx hb dX7_init_16 (by decide) ?_
  refine lv_icmp_ge (tgt := 40) hx hb dX7_init_18 (by decide) (fun cz => absurd cz (by decide)) (fun _ => ?_)
  refine lv_aload_n hx hb dX7_init_21 rfl (lv_at hl 1 rfl) ?_
  refine hp_getR hX hR (ci := 6) 0 rfl wf7 (by decide) wq1_191 dX7_init_22 h (fun q8 h => ?_)
  refine lv_iload_n hx hb dX7_init_25 rfl (lv_at hl 0 rfl) ?_
  refine hp_newO hX hR (ci := 7) (fs := [.int 0, .int 0, .int 0, .int 0, .int 0, .int 0, .int 0, .null, .null, .null, .null]) rfl wf8 tyX8_ok wq1_188 wq1_25 wq1_2 (by decide +kernel) (Nat.le_of_ble_eq_true rfl) (Nat.le_of_ble_eq_true rfl) dX7_init_26 h (fun q9 σ H h hR => ?_)
  refine lv_dup hx hb dX7_init_29 rfl ?_
  refine hp_bn h (fun σ h10 h => ?_)
  refine hp_cv hR (hp_runI (rest := [.ref q9, .int 2, .ref q8]) (As := []) hX hR (c_State_init h10) cs_X7_17 rfl rfl rfl hd_State_init ⟨Nat.le_of_ble_eq_true rfl, Nat.le_of_ble_eq_true rfl⟩ rfl hl.1 rfl (Nat.le_of_ble_eq_true rfl) dX7_init_30 ⟨Nat.le_of_ble_eq_true rfl, Nat.le_of_ble_eq_true rfl⟩) (fun H locs hR => ?_)
  refine hp_aast hX hR 5 7 rfl rfl dX7_init_33 h (fun σ H locs h hR => ?_)
  refine lv_iinc (v := 3) (lv' := [(1, .int 3), (0, .ref a0)]) hx hb dX7_init_34 hl (k := 0) rfl (by decide) (by decide) rfl (fun ls hl => ?_)
  refine lv_goto (tgt := 15) hx hb dX7_init_37 (by decide) ?_
  refine lv_iload_n hx hb dX7_init_15 rfl (lv_at hl 0 rfl) ?_
  refine lv_bipush (v := 16) hx hb dX7_init_16 (by decide) ?_
  refine lv_icmp_ge (tgt := 40) hx hb dX7_init_18 (by decide) (fun cz => absurd cz (by decide)) (fun _ => ?_)
  refine lv_aload_n hx hb dX7_init_21 rfl (lv_at hl 1 rfl) ?_
  refine hp_getR hX hR (ci := 6) 0 rfl wf7 (by decide) wq1_191 dX7_init_22 h (fun q11 h => ?_)
  refine lv_iload_n hx hb dX7_init_25 rfl (lv_at hl 0 rfl) ?_
  refine hp_newO hX hR (ci := 7) (fs := [.int 0, .int 0, .int 0, .int 0, .int 0, .int 0, .int 0, .null, .null, .null, .null]) rfl wf8 tyX8_ok wq1_188 wq1_25 wq1_2 (by decide +kernel) (Nat.le_of_ble_eq_true rfl) (Nat.le_of_ble_eq_true rfl) dX7_init_26 h (fun q12 σ H h hR => ?_)
  refine lv_dup hx hb dX7_init_29 rfl ?_
  refine hp_bn h (fun σ h13 h => ?_)
  refine hp_cv hR (hp_runI (rest := [.ref q12, .int 3, .ref q11]) (As := []) hX hR (c_State_init h13) cs_X7_17 rfl rfl rfl hd_State_init ⟨Nat.le_of_ble_eq_true rfl, Nat.le_of_ble_eq_true rfl⟩ rfl hl.1 rfl (Nat.le_of_ble_eq_true rfl) dX7_init_30 ⟨Nat.le_of_ble_eq_true rfl, Nat.le_of_ble_eq_true rfl⟩) (fun H locs hR => ?_)
  refine hp_aast hX hR 5 7 rfl rfl dX7_init_33 h (fun σ H locs h hR => ?_)
  refine lv_iinc (v := 4) (lv' := [(1, .int 4), (0, .ref a0)]) hx hb dX7_init_34 hl (k := 0) rfl (by decide) (by decide) rfl (fun ls hl => ?_)
  refine lv_goto (tgt := 15) hx hb dX7_init_37 (by decide) ?_
  refine lv_iload_n hx hb dX7_init_15 rfl (lv_at hl 0 rfl) ?_
  refine lv_bipush (v := 16) hx hb dX7_init_16 (by decide) ?_
  refine lv_icmp_ge (tgt := 40) hx hb dX7_init_18 (by decide) (fun cz => absurd cz (by decide)) (fun _ => ?_)
  refine lv_aload_n hx hb dX7_init_21 rfl (lv_at hl 1 rfl) ?_
  refine hp_getR hX hR (ci := 6) 0 rfl wf7 (by decide) wq1_191 dX7_init_22 h (fun q14 h => ?_)
  refine lv_iload_n hx hb dX7_init_25 rfl (lv_at hl 0 rfl) ?_
  refine hp_newO hX hR (ci := 7) (fs := [.int 0, .int 0, .int 0, .int 0, .int 0, .int 0, .int 0, .null, .null, .null, .null]) rfl wf8 tyX8_ok wq1_188 wq1_25 wq1_2 (by decide +kernel) (Nat.le_of_ble_eq_true rfl) (Nat.le_of_ble_eq_true rfl) dX7_init_26 h (fun q15 σ H h hR => ?_)
  refine lv_dup hx hb dX7_init_29 rfl ?_
  refine hp_bn h (fun σ h16 h => ?_)
  refine hp_cv hR (hp_runI (rest := [.ref q15, .int 4, .ref q14]) (As := []) hX hR (c_State_init h16) cs_X7_17 rfl rfl rfl hd_State_init ⟨Nat.le_of_ble_eq_true rfl, Nat.le_of_ble_eq_true rfl⟩ rfl hl.1 rfl (Nat.le_of_ble_eq_true rfl) dX7_init_30 ⟨Nat.le_of_ble_eq_true rfl, Nat.le_of_ble_eq_true rfl⟩) (fun H locs hR => ?_)
  refine hp_aast hX hR 5 7 rfl rfl dX7_init_33 h (fun σ H locs h hR => ?_)
  refine lv_iinc (v := 5) (lv' := [(1, .int 5), (0, .ref a0)]) hx hb dX7_init_34 hl (k := 0) rfl (by decide) (by decide) rfl (fun ls hl => ?_)
  refine lv_goto (tgt := 15) hx hb dX7_init_37 (by decide) ?_
  refine lv_iload_n hx hb dX7_init_15 rfl (lv_at hl 0 rfl) ?_
  refine lv_bipush (v := 16) hx hb dX7_init_16 (by decide) ?_
  refine lv_icmp_ge (tgt := 40) hx hb dX7_init_18 (by decide) (fun cz => absurd cz (by decide)) (fun _ => ?_)
  refine lv_aload_n hx hb dX7_init_21 rfl (lv_at hl 1 rfl) ?_
  refine hp_getR hX hR (ci := 6) 0 rfl wf7 (by decide) wq1_191 dX7_init_22 h (fun q17 h => ?_)
  refine lv_iload_n hx hb dX7_init_25 rfl (lv_at hl 0 rfl) ?_
  refine hp_newO hX hR (ci := 7) (fs := [.int 0, .int 0, .int 0, .int 0, .int 0, .int 0, .int 0, .null, .null, .null, .null]) rfl wf8 tyX8_ok wq1_188 wq1_25 wq1_2 (by decide +kernel) (Nat.le_of_ble_eq_true rfl) (Nat.le_of_ble_eq_true rfl) dX7_init_26 h (fun q18 σ H h hR => ?_)
  refine lv_dup hx hb dX7_init_29 rfl ?_
  refine hp_bn h (fun σ h19 h => ?_)
  refine hp_cv hR (hp_runI (rest := [.ref q18, .int 5, .ref q17]) (As := []) hX hR (c_State_init h19) cs_X7_17 rfl rfl rfl hd_State_init ⟨Nat.le_of_ble_eq_true rfl, Nat.le_of_ble_eq_true rfl⟩ rfl hl.1 rfl (Nat.le_of_ble_eq_true rfl) dX7_init_30 ⟨Nat.le_of_ble_eq_true rfl, Nat.le_of_ble_eq_true rfl⟩) (fun H locs hR => ?_)
  refine hp_aast hX hR 5 7 rfl rfl dX7_init_33 h (fun σ H locs h hR => ?_)
  refine lv_iinc (v := 6) (lv' := [(1, .int 6), (0, .ref a0)]) hx hb dX7_init_34 hl (k := 0) rfl (by decide) (by decide) rfl (fun ls hl => ?_)
  refine lv_goto (tgt := 15) hx hb dX7_init_37 (by decide) ?_
  refine lv_iload_n hx hb dX7_init_15 rfl (lv_at hl 0 rfl) ?_
  refine lv_bipush (v := 16) hx hb dX7_init_16 (by decide) ?_
  refine lv_icmp_ge (tgt := 40) hx hb dX7_init_18 (by decide) (fun cz => absurd cz (by decide)) (fun _ => ?_)
  refine lv_aload_n hx hb dX7_init_21 rfl (lv_at hl 1 rfl) ?_
  refine hp_getR hX hR (ci := 6) 0 rfl wf7 (by decide) wq1_191 dX7_init_22 h (fun q20 h => ?_)
  refine lv_iload_n hx hb dX7_init_25 rfl (lv_at hl 0 rfl) ?_
  refine hp_newO hX hR (ci := 7) (fs := [.int 0, .int 0, .int 0, .int 0, .int 0, .int 0, .int 0, .null, .null, .null, .null]) rfl wf8 tyX8_ok wq1_188 wq1_25 wq1_2 (by decide +kernel) (Nat.le_of_ble_eq_true rfl) (Nat.le_of_ble_eq_true rfl) dX7_init_26 h (fun q21 σ H h hR => ?_)
  refine lv_dup hx hb dX7_init_29 rfl ?_
  refine hp_bn h (fun σ h22 h => ?_)
  refine hp_cv hR (hp_runI (rest := [.ref q21, .int 6, .ref q20]) (As := []) hX hR (c_State_init h22) cs_X7_17 rfl rfl rfl hd_State_init ⟨Nat.le_of_ble_eq_true rfl, Nat.le_of_ble_eq_true rfl⟩ rfl hl.1 rfl (Nat.le_of_ble_eq_true rfl) dX7_init_30 ⟨Nat.le_of_ble_eq_true rfl, Nat.le_of_ble_eq_true rfl⟩) (fun H locs hR => ?_)
  refine hp_aast hX hR 5 7 rfl rfl dX7_init_33 h (fun σ H locs h hR => ?_)
  refine lv_iinc (v := 7) (lv' := [(1, .int 7), (0, .ref a0)]) hx hb dX7_init_34 hl (k := 0) rfl (by decide) (by decide) rfl (fun ls hl => ?_)
  refine lv_goto (tgt := 15) hx hb dX7_init_37 (by decide) ?_
  refine lv_iload_n hx hb dX7_init_15 rfl (lv_at hl 0 rfl) ?_
  refine lv_bipush (v := 16) hx hb dX7_init_16 (by decide) ?_
  refine lv_icmp_ge (tgt := 40) hx hb dX7_init_18 (by decide) (fun cz => absurd cz (by decide)) (fun _ => ?_)
  refine lv_aload_n hx hb dX7_init_21 rfl (lv_at hl 1 rfl) ?_
  refine hp_getR hX hR (ci := 6) 0 rfl wf7 (by decide) wq1_191 dX7_init_22 h (fun q23 h => ?_)
  refine lv_iload_n hx hb dX7_init_25 rfl (lv_at hl 0 rfl) ?_
  refine hp_newO hX hR (ci := 7) (fs := [.int 0, .int 0, .int 0, .int 0, .int 0, .int 0, .int 0, .null, .null, .null, .null]) rfl wf8 tyX8_ok wq1_188 wq1_25 wq1_2 (by decide +kernel) (Nat.le_of_ble_eq_true rfl) (Nat.le_of_ble_eq_true rfl) dX7_init_26 h (fun q24 σ H h hR => ?_)
  refine lv_dup hx hb dX7_init_29 rfl ?_
  refine hp_bn h (fun σ h25 h => ?_)
  refine hp_cv hR (hp_runI (rest := [.ref q24, .int 7, .ref q23]) (As := []) hX hR (c_State_init h25) cs_X7_17 rfl rfl rfl hd_State_init ⟨Nat.le_of_ble_eq_true rfl, Nat.le_of_ble_eq_true rfl⟩ rfl hl.1 rfl (Nat.le_of_ble_eq_true rfl) dX7_init_30 ⟨Nat.le_of_ble_eq_true rfl, Nat.le_of_ble_eq_true rfl⟩) (fun H locs hR => ?_)
  refine hp_aast hX hR 5 7 rfl rfl dX7_init_33 h (fun σ H locs h hR => ?_)
  refine lv_iinc (v := 8) (lv' := [(1, .int 8), (0, .ref a0)]) hx hb dX7_init_34 hl (k := 0) rfl (by decide) (by decide) rfl (fun ls hl => ?_)
  refine lv_goto (tgt := 15) hx hb dX7_init_37 (by decide) ?_
  refine lv_iload_n hx hb dX7_init_15 rfl (lv_at hl 0 rfl) ?_
  refine lv_bipush (v := 16) hx hb dX7_init_16 (by decide) ?_
  refine lv_icmp_ge (tgt := 40) hx hb dX7_init_18 (by decide) (fun cz => absurd cz (by decide)) (fun _ => ?_)
  refine lv_aload_n hx hb dX7_init_21 rfl (lv_at hl 1 rfl) ?_
  refine hp_getR hX hR (ci := 6) 0 rfl wf7 (by decide) wq1_191 dX7_init_22 h (fun q26 h => ?_)
  refine lv_iload_n hx hb dX7_init_25 rfl (lv_at hl 0 rfl) ?_
  refine hp_newO hX hR (ci := 7) (fs := [.int 0, .int 0, .int 0, .int 0, .int 0, .int 0, .int 0, .null, .null, .null, .null]) rfl wf8 tyX8_ok wq1_188 wq1_25 wq1_2 (by decide +kernel) (Nat.le_of_ble_eq_true rfl) (Nat.le_of_ble_eq_true rfl) dX7_init_26 h (fun q27 σ H h hR => ?_)
  refine lv_dup hx hb dX7_init_29 rfl ?_
  refine hp_bn h (fun σ h28 h => ?_)
  refine hp_cv hR (hp_runI (rest := [.ref q27, .int 8, .ref q26]) (As := []) hX hR (c_State_init h28) cs_X7_17 rfl rfl rfl hd_State_init ⟨Nat.le_of_ble_eq_true rfl, Nat.le_of_ble_eq_true rfl⟩ rfl hl.1 rfl (Nat.le_of_ble_eq_true rfl) dX7_init_30 ⟨Nat.le_of_ble_eq_true rfl, Nat.le_of_ble_eq_true rfl⟩) (fun H locs hR => ?_)
  refine hp_aast hX hR 5 7 rfl rfl dX7_init_33 h (fun σ H locs h hR => ?_)
  refine lv_iinc (v := 9) (lv' := [(1, .int 9), (0, .ref a0)]) hx hb dX7_init_34 hl (k := 0) rfl (by decide) (by decide) rfl (fun ls hl => ?_)
  refine lv_goto (tgt := 15) hx hb dX7_init_37 (by decide) ?_
  refine lv_iload_n hx hb dX7_init_15 rfl (lv_at hl 0 rfl) ?_
  refine lv_bipush (v := 16) hx hb dX7_init_16 (by decide) ?_
  refine lv_icmp_ge (tgt := 40) hx hb dX7_init_18 (by decide) (fun cz => absurd cz (by decide)) (fun _ => ?_)
  refine lv_aload_n hx hb dX7_init_21 rfl (lv_at hl 1 rfl) ?_
  refine hp_getR hX hR (ci := 6) 0 rfl wf7 (by decide) wq1_191 dX7_init_22 h (fun q29 h => ?_)
  refine lv_iload_n hx hb dX7_init_25 rfl (lv_at hl 0 rfl) ?_
  refine hp_newO hX hR (ci := 7) (fs := [.int 0, .int 0, .int 0, .int 0, .int 0, .int 0, .int 0, .null, .null, .null, .null]) rfl wf8 tyX8_ok wq1_188 wq1_25 wq1_2 (by decide +kernel) (Nat.le_of_ble_eq_true rfl) (Nat.le_of_ble_eq_true rfl) dX7_init_26 h (fun q30 σ H h hR => ?_)
  refine lv_dup hx hb dX7_init_29 rfl ?_
  refine hp_bn h (fun σ h31 h => ?_)
  refine hp_cv hR (hp_runI (rest := [.ref q30, .int 9, .ref q29]) (As := []) hX hR (c_State_init h31) cs_X7_17 rfl rfl rfl hd_State_init ⟨Nat.le_of_ble_eq_true rfl, Nat.le_of_ble_eq_true rfl⟩ rfl hl.1 rfl (Nat.le_of_ble_eq_true rfl) dX7_init_30 ⟨Nat.le_of_ble_eq_true rfl, Nat.le_of_ble_eq_true rfl⟩) (fun H locs hR => ?_)
  refine hp_aast hX hR 5 7 rfl rfl dX7_init_33 h (fun σ H locs h hR => ?_)
  refine lv_iinc (v := 10) (lv' := [(1, .int 10), (0, .ref a0)]) hx hb dX7_init_34 hl (k := 0) rfl (by decide) (by decide) rfl (fun ls hl => ?_)
  refine lv_goto (tgt := 15) hx hb dX7_init_37 (by decide) ?_
  refine lv_iload_n hx hb dX7_init_15 rfl (lv_at hl 0 rfl) ?_
  refine lv_bipush (v := 16) hx hb dX7_init_16 (by decide) ?_
  refine lv_icmp_ge (tgt := 40) hx hb dX7_init_18 (by decide) (fun cz => absurd cz (by decide)) (fun _ => ?_)
  refine lv_aload_n hx hb dX7_init_21 rfl (lv_at hl 1 rfl) ?_
  refine hp_getR hX hR (ci := 6) 0 rfl wf7 (by decide) wq1_191 dX7_init_22 h (fun q32 h => ?_)
  refine lv_iload_n hx hb dX7_init_25 rfl (lv_at hl 0 rfl) ?_
  refine hp_newO hX hR (ci := 7) (fs := [.int 0, .int 0, .int 0, .int 0, .int 0, .int 0, .int 0, .null, .null, .null, .null]) rfl wf8 tyX8_ok wq1_188 wq1_25 wq1_2 (by decide +kernel) (Nat.le_of_ble_eq_true rfl) (Nat.le_of_ble_eq_true rfl) dX7_init_26 h (fun q33 σ H h hR => ?_)
  refine lv_dup hx hb dX7_init_29 rfl ?_
  refine hp_bn h (fun σ h34 h => ?_)
  refine hp_cv hR (hp_runI (rest := [.ref q33, .int 10, .ref q32]) (As := []) hX hR (c_State_init h34) cs_X7_17 rfl rfl rfl hd_State_init ⟨Nat.le_of_ble_eq_true rfl, Nat.le_of_ble_eq_true rfl⟩ rfl hl.1 rfl (Nat.le_of_ble_eq_true rfl) dX7_init_30 ⟨Nat.le_of_ble_eq_true rfl, Nat.le_of_ble_eq_true rfl⟩) (fun H locs hR => ?_)
  refine hp_aast hX hR 5 7 rfl rfl dX7_init_33 h (fun σ H locs h hR => ?_)
  refine lv_iinc (v := 11) (lv' := [(1, .int 11), (0, .ref a0)]) hx hb dX7_init_34 hl (k := 0) rfl (by decide) (by decide) rfl (fun ls hl => ?_)
  refine lv_goto (tgt := 15) hx hb dX7_init_37 (by decide) ?_
  refine lv_iload_n hx hb dX7_init_15 rfl (lv_at hl 0 rfl) ?_
  refine lv_bipush (v := 16) hx hb dX7_init_16 (by decide) ?_
  refine lv_icmp_ge (tgt := 40) hx hb dX7_init_18 (by decide) (fun cz => absurd cz (by decide)) (fun _ => ?_)
  refine lv_aload_n hx hb dX7_init_21 rfl (lv_at hl 1 rfl) ?_
  refine hp_getR hX hR (ci := 6) 0 rfl wf7 (by decide) wq1_191 dX7_init_22 h (fun q35 h => ?_)
  refine lv_iload_n hx hb dX7_init_25 rfl (lv_at hl 0 rfl) ?_
  refine hp_newO hX hR (ci := 7) (fs := [.int 0, .int 0, .int 0, .int 0, .int 0, .int 0, .int 0, .null, .null, .null, .null]) rfl wf8 tyX8_ok wq1_188 wq1_25 wq1_2 (by decide +kernel) (Nat.le_of_ble_eq_true rfl) (Nat.le_of_ble_eq_true rfl) dX7_init_26 h (fun q36 σ H h hR => ?_)
  refine lv_dup hx hb dX7_init_29 rfl ?_
  refine hp_bn h (fun σ h37 h => ?_)
  refine hp_cv hR (hp_runI (rest := [.ref q36, .int 11, .ref q35]) (As := []) hX hR (c_State_init h37) cs_X7_17 rfl rfl rfl hd_State_init ⟨Nat.le_of_ble_eq_true rfl, Nat.le_of_ble_eq_true rfl⟩ rfl hl.1 rfl (Nat.le_of_ble_eq_true rfl) dX7_init_30 ⟨Nat.le_of_ble_eq_true rfl, Nat.le_of_ble_eq_true rfl⟩) (fun H locs hR => ?_)
  refine hp_aast hX hR 5 7 rfl rfl dX7_init_33 h (fun σ H locs h hR => ?_)
  refine lv_iinc (v := 12) (lv' := [(1, .int 12), (0, .ref a0)]) hx hb dX7_init_34 hl (k := 0) rfl (by decide) (by decide) rfl (fun ls hl => ?_)
  refine lv_goto (tgt := 15) hx hb dX7_init_37 (by decide) ?_
  refine lv_iload_n hx hb dX7_init_15 rfl (lv_at hl 0 rfl) ?_
  refine lv_bipush (v := 16) hx hb dX7_init_16 (by decide) ?_
  refine lv_icmp_ge (tgt := 40) hx hb dX7_init_18 (by decide) (fun cz => absurd cz (by decide)) (fun _ => ?_)
  refine lv_aload_n hx hb dX7_init_21 rfl (lv_at hl 1 rfl) ?_
  refine hp_getR hX hR (ci := 6) 0 rfl wf7 (by decide) wq1_191 dX7_init_22 h (fun q38 h => ?_)
  refine lv_iload_n hx hb dX7_init_25 rfl (lv_at hl 0 rfl) ?_
  refine hp_newO hX hR (ci := 7) (fs := [.int 0, .int 0, .int 0, .int 0, .int 0, .int 0, .int 0, .null, .null, .null, .null]) rfl wf8 tyX8_ok wq1_188 wq1_25 wq1_2 (by decide +kernel) (Nat.le_of_ble_eq_true rfl) (Nat.le_of_ble_eq_true rfl) dX7_init_26 h (fun q39 σ H h hR => ?_)
  refine lv_dup hx hb dX7_init_29 rfl ?_
  refine hp_bn h (fun σ h40 h => ?_)
  refine hp_cv hR (hp_runI (rest := [.ref q39, .int 12, .ref q38]) (As := []) hX hR (c_State_init h40) cs_X7_17 rfl rfl rfl hd_State_init ⟨Nat.le_of_ble_eq_true rfl, Nat.le_of_ble_eq_true rfl⟩ rfl hl.1 rfl (Nat.le_of_ble_eq_true rfl) dX7_init_30 ⟨Nat.le_of_ble_eq_true rfl, Nat.le_of_ble_eq_true rfl⟩) (fun H locs hR => ?_)
  refine hp_aast hX hR 5 7 rfl rfl dX7_init_33 h (fun σ H locs h hR => ?_)
  refine lv_iinc (v := 13) (lv' := [(1, .int 13), (0, .ref a0)]) hx hb dX7_init_34 hl (k := 0) rfl (by decide) (by decide) rfl (fun ls hl => ?_)
  refine lv_goto (tgt := 15) hx hb dX7_init_37 (by decide) ?_
  refine lv_iload_n hx hb dX7_init_15 rfl (lv_at hl 0 rfl) ?_
  refine lv_bipush (v := 16) hx hb dX7_init_16 (by decide) ?_
  refine lv_icmp_ge (tgt := 40) hx hb dX7_init_18 (by decide) (fun cz => absurd cz (by decide)) (fun _ => ?_)
  refine lv_aload_n hx hb dX7_init_21 rfl (lv_at hl 1 rfl) ?_
  refine hp_getR hX hR (ci := 6) 0 rfl wf7 (by decide) wq1_191 dX7_init_22 h (fun q41 h => ?_)
  refine lv_iload_n hx hb dX7_init_25 rfl (lv_at hl 0 rfl) ?_
  refine hp_newO hX hR (ci := 7) (fs := [.int 0, .int 0, .int 0, .int 0, .int 0, .int 0, .int 0, .null, .null, .null, .null]) rfl wf8 tyX8_ok wq1_188 wq1_25 wq1_2 (by decide +kernel) (Nat.le_of_ble_eq_true rfl) (Nat.le_of_ble_eq_true rfl) dX7_init_26 h (fun q42 σ H h hR => ?_)
  refine lv_dup hx hb dX7_init_29 rfl ?_
  refine hp_bn h (fun σ h43 h => ?_)
  refine hp_cv hR (hp_runI (rest := [.ref q42, .int 13, .ref q41]) (As := []) hX hR (c_State_init h43) cs_X7_17 rfl rfl rfl hd_State_init ⟨Nat.le_of_ble_eq_true rfl, Nat.le_of_ble_eq_true rfl⟩ rfl hl.1 rfl (Nat.le_of_ble_eq_true rfl) dX7_init_30 ⟨Nat.le_of_ble_eq_true rfl, Nat.le_of_ble_eq_true rfl⟩) (fun H locs hR => ?_)
  refine hp_aast hX hR 5 7 rfl rfl dX7_init_33 h (fun σ H locs h hR => ?_)
  refine lv_iinc (v := 14) (lv' := [(1, .int 14), (0, .ref a0)]) hx hb dX7_init_34 hl (k := 0) rfl (by decide) (by decide) rfl (fun ls hl => ?_)
  refine lv_goto (tgt := 15) hx hb dX7_init_37 (by decide) ?_
  refine lv_iload_n hx hb dX7_init_15 rfl (lv_at hl 0 rfl) ?_
  refine lv_bipush (v := 16) hx hb dX7_init_16 (by decide) ?_
  refine lv_icmp_ge (tgt := 40) hx hb dX7_init_18 (by decide) (fun cz => absurd cz (by decide)) (fun _ => ?_)
  refine lv_aload_n hx hb dX7_init_21 rfl (lv_at hl 1 rfl) ?_
  refine hp_getR hX hR (ci := 6) 0 rfl wf7 (by decide) wq1_191 dX7_init_22 h (fun q44 h => ?_)
  refine lv_iload_n hx hb dX7_init_25 rfl (lv_at hl 0 rfl) ?_
  refine hp_newO hX hR (ci := 7) (fs := [.int 0, .int 0, .int 0, .int 0, .int 0, .int 0, .int 0, .null, .null, .null, .null]) rfl wf8 tyX8_ok wq1_188 wq1_25 wq1_2 (by decide +kernel) (Nat.le_of_ble_eq_true rfl) (Nat.le_of_ble_eq_true rfl) dX7_init_26 h (fun q45 σ H h hR => ?_)
  refine lv_dup hx hb dX7_init_29 rfl ?_
  refine hp_bn h (fun σ h46 h => ?_)
  refine hp_cv hR (hp_runI (rest := [.ref q45, .int 14, .ref q44]) (As := []) hX hR (c_State_init h46) cs_X7_17 rfl rfl rfl hd_State_init ⟨Nat.le_of_ble_eq_true rfl, Nat.le_of_ble_eq_true rfl⟩ rfl hl.1 rfl (Nat.le_of_ble_eq_true rfl) dX7_init_30 ⟨Nat.le_of_ble_eq_true rfl, Nat.le_of_ble_eq_true rfl⟩) (fun H locs hR => ?_)
  refine hp_aast hX hR 5 7 rfl rfl dX7_init_33 h (fun σ H locs h hR => ?_)
  refine lv_iinc (v := 15) (lv' := [(1, .int 15), (0, .ref a0)]) hx hb dX7_init_34 hl (k := 0) rfl (by decide) (by decide) rfl (fun ls hl => ?_)
  refine lv_goto (tgt := 15) hx hb dX7_init_37 (by decide) ?_
  refine lv_iload_n hx hb dX7_init_15 rfl (lv_at hl 0 rfl) ?_
  refine lv_bipush (v := 16) hx hb dX7_init_16 (by decide) ?_
  refine lv_icmp_ge (tgt := 40) hx hb dX7_init_18 (by decide) (fun cz => absurd cz (by decide)) (fun _ => ?_)
  refine lv_aload_n hx hb dX7_init_21 rfl (lv_at hl 1 rfl) ?_
  refine hp_getR hX hR (ci := 6) 0 rfl wf7 (by decide) wq1_191 dX7_init_22 h (fun q47 h => ?_)
  refine lv_iload_n hx hb dX7_init_25 rfl (lv_at hl 0 rfl) ?_
  refine hp_newO hX hR (ci := 7) (fs := [.int 0, .int 0, .int 0, .int 0, .int 0, .int 0, .int 0, .null, .null, .null, .null]) rfl wf8 tyX8_ok wq1_188 wq1_25 wq1_2 (by decide +kernel) (Nat.le_of_ble_eq_true rfl) (Nat.le_of_ble_eq_true rfl) dX7_init_26 h (fun q48 σ H h hR => ?_)
  refine lv_dup hx hb dX7_init_29 rfl ?_
  refine hp_bn h (fun σ h49 h => ?_)
  refine hp_cv hR (hp_runI (rest := [.ref q48, .int 15, .ref q47]) (As := []) hX hR (c_State_init h49) cs_X7_17 rfl rfl rfl hd_State_init ⟨Nat.le_of_ble_eq_true rfl, Nat.le_of_ble_eq_true rfl⟩ rfl hl.1 rfl (Nat.le_of_ble_eq_true rfl) dX7_init_30 ⟨Nat.le_of_ble_eq_true rfl, Nat.le_of_ble_eq_true rfl⟩) (fun H locs hR => ?_)
  refine hp_aast hX hR 5 7 rfl rfl dX7_init_33 h (fun σ H locs h hR => ?_)
  refine lv_iinc (v := 16) (lv' := [(1, .int 16), (0, .ref a0)]) hx hb dX7_init_34 hl (k := 0) rfl (by decide) (by decide) rfl (fun ls hl => ?_)
  refine lv_goto (tgt := 15) hx hb dX7_init_37 (by decide) ?_
  refine lv_iload_n hx hb dX7_init_15 rfl (lv_at hl 0 rfl) ?_
  refine lv_bipush (v := 16) hx hb dX7_init_16 (by decide) ?_
  refine lv_icmp_ge (tgt := 40) hx hb dX7_init_18 (by decide) (fun _ => ?_) (fun cz => absurd cz (by decide))
  exact hp_vret hX hlocks hr hR h dX7_init_40
theorem cs_X7_25 : hp_WV RX7 25 RX8 yX8_copyFrom cX8_copyFrom 3 none := ⟨wq2_230, wq2_231, wq2_232, wq1_2, wq2_233⟩
/-! Past.remember(LNoticeBoxes$State;)V -/
abbrev rm_Past_remember : Room := { frames := 3, cells := 0, slots := 0, locals := 83 }
theorem hd_Past_remember : hp_d yX7_remember 1 := by decide +kernel
def f_Past_remember (a0 : Nat) (a1 : Nat) (σ : hp_H) : Option hp_H := hp_own σ a0 6 ((hp_gI σ a0 6 2).bind fun v1 => if v1 = 16 then ((hp_gI σ a0 6 1).bind fun v9 => (hp_pI σ a0 6 1 ((v9 + 1) - (v9 + 1) / 16 * 16)).bind fun σ => (hp_gI σ a0 6 2).bind fun v10 => (hp_pI σ a0 6 2 (v10 - 1)).bind fun σ => (hp_gR σ a0 6 0).bind fun q11 => (hp_gI σ a0 6 1).bind fun v12 => (hp_gI σ a0 6 2).bind fun v13 => (hp_aR σ q11 5 ((v12 + v13) - (v12 + v13) / 16 * 16)).bind fun q14 => (f_State_copyFrom q14 a1 σ).bind fun σ => (hp_gI σ a0 6 2).bind fun v16 => (hp_pI σ a0 6 2 (v16 + 1)).bind fun σ => some σ) else ((hp_gR σ a0 6 0).bind fun q3 => (hp_gI σ a0 6 1).bind fun v4 => (hp_gI σ a0 6 2).bind fun v5 => (hp_aR σ q3 5 ((v4 + v5) - (v4 + v5) / 16 * 16)).bind fun q6 => (f_State_copyFrom q6 a1 σ).bind fun σ => (hp_gI σ a0 6 2).bind fun v8 => (hp_pI σ a0 6 2 (v8 + 1)).bind fun σ => some σ))
set_option maxHeartbeats 4000000 in
set_option maxRecDepth 100000 in
theorem c_Past_remember {l : Launch} {G : hp_G} {b : Nat} {σ : hp_H} {a0 : Nat} {a1 : Nat} {σ' : hp_H} (h : f_Past_remember a0 a1 σ = some σ') : hp_Met l yX7_remember cX7_remember 2 none rm_Past_remember G b [.ref a0, .ref a1] σ none σ' 0 0 := by
  refine hp_met (by decide +kernel) (Nat.le_of_ble_eq_true rfl) (fun p e s m below meth c ls hX hlocks hr hnm hl hR => ?_)
  obtain ⟨hx, hb, hml, hown, hts⟩ := id hX.1
  have hl : lv_has ls 2 [(0, .ref a0), (1, .ref a1)] := hl
  unfold f_Past_remember at h
  have h := hp_own_to h
  refine lv_aload_n hx hb dX7_remember_0 rfl (lv_at hl 0 rfl) ?_
  refine hp_getI hX hR (ci := 6) 2 rfl wf7 (by decide) wq1_193 dX7_remember_1 h (fun v1 h => ?_)
  refine lv_bipush (v := 16) hx hb dX7_remember_4 (by decide) ?_
  refine lv_icmp_ne (tgt := 32) hx hb dX7_remember_6 (by decide) (fun c2 => ?_) (fun c2 => ?_)
  · have h := hp_in c2 h
    refine lv_aload_n hx hb dX7_remember_32 rfl (lv_at hl 0 rfl) ?_
    refine hp_getR hX hR (ci := 6) 0 rfl wf7 (by decide) wq1_191 dX7_remember_33 h (fun q3 h => ?_)
    refine lv_aload_n hx hb dX7_remember_36 rfl (lv_at hl 0 rfl) ?_
    refine hp_getI hX hR (ci := 6) 1 rfl wf7 (by decide) wq1_192 dX7_remember_37 h (fun v4 h => ?_)
    refine lv_aload_n hx hb dX7_remember_40 rfl (lv_at hl 0 rfl) ?_
    refine hp_getI hX hR (ci := 6) 2 rfl wf7 (by decide) wq1_193 dX7_remember_41 h (fun v5 h => ?_)
    refine lv_iadd hx hb dX7_remember_44 ?_
    refine lv_bipush (v := 16) hx hb dX7_remember_45 (by decide) ?_
    refine lv_irem hx hb dX7_remember_47 (by decide) ?_
    refine hp_aald hX hR 5 rfl dX7_remember_48 h (fun q6 h => ?_)
    refine lv_aload_n hx hb dX7_remember_49 rfl (lv_at hl 1 rfl) ?_
    refine hp_bn h (fun σ h7 h => ?_)
    refine hp_cv hR (hp_runV (rest := []) (As := [.ref a1]) hX hR (c_State_copyFrom h7) cs_X7_25 rfl rfl rfl hd_State_copyFrom ⟨Nat.le_of_ble_eq_true rfl, Nat.le_of_ble_eq_true rfl⟩ (ci := 7) rfl (hp_own_is h7) rfl hl.1 rfl (Nat.le_of_ble_eq_true rfl) dX7_remember_50 ⟨Nat.le_of_ble_eq_true rfl, Nat.le_of_ble_eq_true rfl⟩) (fun H locs hR => ?_)
    refine lv_aload_n hx hb dX7_remember_53 rfl (lv_at hl 0 rfl) ?_
    refine lv_dup hx hb dX7_remember_54 rfl ?_
    refine hp_getI hX hR (ci := 6) 2 rfl wf7 (by decide) wq1_193 dX7_remember_55 h (fun v8 h => ?_)
    refine lv_iconst (v := 1) hx hb dX7_remember_58 (by decide) ?_
    refine lv_iadd hx hb dX7_remember_59 ?_
    refine hp_putI hX hR (ci := 6) 2 rfl wf7 tyX7_ok nmX7 (by decide) wq1_193 rfl dX7_remember_60 rfl h (fun σ H locs h hR => ?_)
    exact hp_vret hX hlocks hr hR h dX7_remember_63
  · have h := hp_ip c2 h
    refine lv_aload_n hx hb dX7_remember_9 rfl (lv_at hl 0 rfl) ?_
    refine lv_aload_n hx hb dX7_remember_10 rfl (lv_at hl 0 rfl) ?_
    refine hp_getI hX hR (ci := 6) 1 rfl wf7 (by decide) wq1_192 dX7_remember_11 h (fun v9 h => ?_)
    refine lv_iconst (v := 1) hx hb dX7_remember_14 (by decide) ?_
    refine lv_iadd hx hb dX7_remember_15 ?_
    refine lv_bipush (v := 16) hx hb dX7_remember_16 (by decide) ?_
    refine lv_irem hx hb dX7_remember_18 (by decide) ?_
    refine hp_putI hX hR (ci := 6) 1 rfl wf7 tyX7_ok nmX7 (by decide) wq1_192 rfl dX7_remember_19 rfl h (fun σ H locs h hR => ?_)
    refine lv_aload_n hx hb dX7_remember_22 rfl (lv_at hl 0 rfl) ?_
    refine lv_dup hx hb dX7_remember_23 rfl ?_
    refine hp_getI hX hR (ci := 6) 2 rfl wf7 (by decide) wq1_193 dX7_remember_24 h (fun v10 h => ?_)
    refine lv_iconst (v := 1) hx hb dX7_remember_27 (by decide) ?_
    refine lv_isub hx hb dX7_remember_28 ?_
    refine hp_putI hX hR (ci := 6) 2 rfl wf7 tyX7_ok nmX7 (by decide) wq1_193 rfl dX7_remember_29 rfl h (fun σ H locs h hR => ?_)
    refine lv_aload_n hx hb dX7_remember_32 rfl (lv_at hl 0 rfl) ?_
    refine hp_getR hX hR (ci := 6) 0 rfl wf7 (by decide) wq1_191 dX7_remember_33 h (fun q11 h => ?_)
    refine lv_aload_n hx hb dX7_remember_36 rfl (lv_at hl 0 rfl) ?_
    refine hp_getI hX hR (ci := 6) 1 rfl wf7 (by decide) wq1_192 dX7_remember_37 h (fun v12 h => ?_)
    refine lv_aload_n hx hb dX7_remember_40 rfl (lv_at hl 0 rfl) ?_
    refine hp_getI hX hR (ci := 6) 2 rfl wf7 (by decide) wq1_193 dX7_remember_41 h (fun v13 h => ?_)
    refine lv_iadd hx hb dX7_remember_44 ?_
    refine lv_bipush (v := 16) hx hb dX7_remember_45 (by decide) ?_
    refine lv_irem hx hb dX7_remember_47 (by decide) ?_
    refine hp_aald hX hR 5 rfl dX7_remember_48 h (fun q14 h => ?_)
    refine lv_aload_n hx hb dX7_remember_49 rfl (lv_at hl 1 rfl) ?_
    refine hp_bn h (fun σ h15 h => ?_)
    refine hp_cv hR (hp_runV (rest := []) (As := [.ref a1]) hX hR (c_State_copyFrom h15) cs_X7_25 rfl rfl rfl hd_State_copyFrom ⟨Nat.le_of_ble_eq_true rfl, Nat.le_of_ble_eq_true rfl⟩ (ci := 7) rfl (hp_own_is h15) rfl hl.1 rfl (Nat.le_of_ble_eq_true rfl) dX7_remember_50 ⟨Nat.le_of_ble_eq_true rfl, Nat.le_of_ble_eq_true rfl⟩) (fun H locs hR => ?_)
    refine lv_aload_n hx hb dX7_remember_53 rfl (lv_at hl 0 rfl) ?_
    refine lv_dup hx hb dX7_remember_54 rfl ?_
    refine hp_getI hX hR (ci := 6) 2 rfl wf7 (by decide) wq1_193 dX7_remember_55 h (fun v16 h => ?_)
    refine lv_iconst (v := 1) hx hb dX7_remember_58 (by decide) ?_
    refine lv_iadd hx hb dX7_remember_59 ?_
    refine hp_putI hX hR (ci := 6) 2 rfl wf7 tyX7_ok nmX7 (by decide) wq1_193 rfl dX7_remember_60 rfl h (fun σ H locs h hR => ?_)
    exact hp_vret hX hlocks hr hR h dX7_remember_63
/-! Past.restore(LNoticeBoxes$State;I)V -/
abbrev rm_Past_restore : Room := { frames := 3, cells := 0, slots := 0, locals := 83 }
theorem hd_Past_restore : hp_d yX7_restore 2 := by decide +kernel
def f_Past_restore (a0 : Nat) (a1 : Nat) (x2 : Int32) (σ : hp_H) : Option hp_H := hp_own σ a0 6 ((hp_gI σ a0 6 2).bind fun v1 => (hp_pI σ a0 6 2 (v1 - x2)).bind fun σ => (hp_gR σ a0 6 0).bind fun q2 => (hp_gI σ a0 6 1).bind fun v3 => (hp_gI σ a0 6 2).bind fun v4 => (hp_aR σ q2 5 ((v3 + v4) - (v3 + v4) / 16 * 16)).bind fun q5 => (f_State_copyFrom a1 q5 σ).bind fun σ => some σ)
set_option maxHeartbeats 4000000 in
set_option maxRecDepth 100000 in
theorem c_Past_restore {l : Launch} {G : hp_G} {b : Nat} {σ : hp_H} {a0 : Nat} {a1 : Nat} {x2 : Int32} {σ' : hp_H} (h : f_Past_restore a0 a1 x2 σ = some σ') : hp_Met l yX7_restore cX7_restore 3 none rm_Past_restore G b [.ref a0, .ref a1, .int x2] σ none σ' 0 0 := by
  refine hp_met (by decide +kernel) (Nat.le_of_ble_eq_true rfl) (fun p e s m below meth c ls hX hlocks hr hnm hl hR => ?_)
  obtain ⟨hx, hb, hml, hown, hts⟩ := id hX.1
  have hl : lv_has ls 3 [(0, .ref a0), (1, .ref a1), (2, .int x2)] := hl
  unfold f_Past_restore at h
  have h := hp_own_to h
  refine lv_aload_n hx hb dX7_restore_0 rfl (lv_at hl 0 rfl) ?_
  refine lv_dup hx hb dX7_restore_1 rfl ?_
  refine hp_getI hX hR (ci := 6) 2 rfl wf7 (by decide) wq1_193 dX7_restore_2 h (fun v1 h => ?_)
  refine lv_iload_n hx hb dX7_restore_5 rfl (lv_at hl 2 rfl) ?_
  refine lv_isub hx hb dX7_restore_6 ?_
  refine hp_putI hX hR (ci := 6) 2 rfl wf7 tyX7_ok nmX7 (by decide) wq1_193 rfl dX7_restore_7 rfl h (fun σ H locs h hR => ?_)
  refine lv_aload_n hx hb dX7_restore_10 rfl (lv_at hl 1 rfl) ?_
  refine lv_aload_n hx hb dX7_restore_11 rfl (lv_at hl 0 rfl) ?_
  refine hp_getR hX hR (ci := 6) 0 rfl wf7 (by decide) wq1_191 dX7_restore_12 h (fun q2 h => ?_)
  refine lv_aload_n hx hb dX7_restore_15 rfl (lv_at hl 0 rfl) ?_
  refine hp_getI hX hR (ci := 6) 1 rfl wf7 (by decide) wq1_192 dX7_restore_16 h (fun v3 h => ?_)
  refine lv_aload_n hx hb dX7_restore_19 rfl (lv_at hl 0 rfl) ?_
  refine hp_getI hX hR (ci := 6) 2 rfl wf7 (by decide) wq1_193 dX7_restore_20 h (fun v4 h => ?_)
  refine lv_iadd hx hb dX7_restore_23 ?_
  refine lv_bipush (v := 16) hx hb dX7_restore_24 (by decide) ?_
  refine lv_irem hx hb dX7_restore_26 (by decide) ?_
  refine hp_aald hX hR 5 rfl dX7_restore_27 h (fun q5 h => ?_)
  refine hp_bn h (fun σ h6 h => ?_)
  refine hp_cv hR (hp_runV (rest := []) (As := [.ref q5]) hX hR (c_State_copyFrom h6) cs_X7_25 rfl rfl rfl hd_State_copyFrom ⟨Nat.le_of_ble_eq_true rfl, Nat.le_of_ble_eq_true rfl⟩ (ci := 7) rfl (hp_own_is h6) rfl hl.1 rfl (Nat.le_of_ble_eq_true rfl) dX7_restore_28 ⟨Nat.le_of_ble_eq_true rfl, Nat.le_of_ble_eq_true rfl⟩) (fun H locs hR => ?_)
  exact hp_vret hX hlocks hr hR h dX7_restore_31
/-! Past.forget()V -/
abbrev rm_Past_forget : Room := { frames := 0, cells := 0, slots := 0, locals := 0 }
theorem hd_Past_forget : hp_d yX7_forget 0 := by decide +kernel
def f_Past_forget (a0 : Nat) (σ : hp_H) : Option hp_H := hp_own σ a0 6 ((hp_pI σ a0 6 2 0).bind fun σ => some σ)
set_option maxHeartbeats 4000000 in
set_option maxRecDepth 100000 in
theorem c_Past_forget {l : Launch} {G : hp_G} {b : Nat} {σ : hp_H} {a0 : Nat} {σ' : hp_H} (h : f_Past_forget a0 σ = some σ') : hp_Met l yX7_forget cX7_forget 1 none rm_Past_forget G b [.ref a0] σ none σ' 0 0 := by
  refine hp_met (by decide +kernel) (Nat.le_of_ble_eq_true rfl) (fun p e s m below meth c ls hX hlocks hr hnm hl hR => ?_)
  obtain ⟨hx, hb, hml, hown, hts⟩ := id hX.1
  have hl : lv_has ls 1 [(0, .ref a0)] := hl
  unfold f_Past_forget at h
  have h := hp_own_to h
  refine lv_aload_n hx hb dX7_forget_0 rfl (lv_at hl 0 rfl) ?_
  refine lv_iconst (v := 0) hx hb dX7_forget_1 (by decide) ?_
  refine hp_putI hX hR (ci := 6) 2 rfl wf7 tyX7_ok nmX7 (by decide) wq1_193 rfl dX7_forget_2 rfl h (fun σ H locs h hR => ?_)
  exact hp_vret hX hlocks hr hR h dX7_forget_5
/-! State.hasWish(I)Z -/
abbrev rm_State_hasWish : Room := { frames := 1, cells := 0, slots := 0, locals := 22 }
theorem hd_State_hasWish : hp_d yX8_hasWish 1 := by decide +kernel
def f_State_hasWish (a0 : Nat) (x1 : Int32) (σ : hp_H) : Option Int32 := hp_own σ a0 7 ((hp_gI σ a0 7 2).bind fun v1 => (f_NB_within x1 0 (v1 - 1)).bind fun v3 => hp_z v3 (some v3))
set_option maxHeartbeats 4000000 in
set_option maxRecDepth 100000 in
theorem c_State_hasWish {l : Launch} {G : hp_G} {b : Nat} {σ : hp_H} {a0 : Nat} {x1 : Int32} {r : Int32} (h : f_State_hasWish a0 x1 σ = some r) : hp_Met l yX8_hasWish cX8_hasWish 2 (some .boolean) rm_State_hasWish G b [.ref a0, .int x1] σ (some (.int r)) σ 0 0 := by
  refine hp_met (by decide +kernel) (Nat.le_of_ble_eq_true rfl) (fun p e s m below meth c ls hX hlocks hr hnm hl hR => ?_)
  obtain ⟨hx, hb, hml, hown, hts⟩ := id hX.1
  have hl : lv_has ls 2 [(0, .ref a0), (1, .int x1)] := hl
  unfold f_State_hasWish at h
  have h := hp_own_to h
  refine lv_iload_n hx hb dX8_hasWish_0 rfl (lv_at hl 1 rfl) ?_
  refine lv_iconst (v := 0) hx hb dX8_hasWish_1 (by decide) ?_
  refine lv_aload_n hx hb dX8_hasWish_2 rfl (lv_at hl 0 rfl) ?_
  refine hp_getI hX hR (ci := 7) 2 rfl wf8 (by decide) wq1_73 dX8_hasWish_3 h (fun v1 h => ?_)
  refine lv_iconst (v := 1) hx hb dX8_hasWish_6 (by decide) ?_
  refine lv_isub hx hb dX8_hasWish_7 ?_
  refine hp_bn h (fun v3 h2 h => ?_)
  refine hp_ci hR (hp_runSN (rest := []) (As := [.int x1, .int 0, .int (v1 - 1)]) hX hR (c_NB_within h2) cs_X8_60 rfl rfl hd_NB_within ⟨Nat.le_of_ble_eq_true rfl, Nat.le_of_ble_eq_true rfl⟩ rfl hl.1 rfl (Nat.le_of_ble_eq_true rfl) dX8_hasWish_8 ⟨Nat.le_of_ble_eq_true rfl, Nat.le_of_ble_eq_true rfl⟩) (fun H locs hR => ?_)
  exact hp_zretP hX hlocks hr hR h dX8_hasWish_11
theorem cs_X8_68 : hp_WV RX8 68 RX8 yX8_areNeighbours cX8_areNeighbours 3 (some .boolean) := ⟨wq2_146, wq2_87, wq2_88, wq1_2, wq2_89⟩
/-! State.neighboursOf(I)I -/
abbrev rm_State_neighboursOf : Room := { frames := 3, cells := 0, slots := 0, locals := 65 }
theorem hd_State_neighboursOf : hp_d yX8_neighboursOf 1 := by decide +kernel
def f_State_neighboursOf_l1 (a0 : Nat) (x1 : Int32) (σ : hp_H) (K : Int32 → Int32 → Option Int32) : Nat → Int32 → Int32 → Option Int32
  | 0, _, _ => none
  | n + 1, x2, x3 => (hp_gI σ a0 7 0).bind fun v1 => if v1 ≤ x3 then (K x2 x3) else ((f_State_areNeighbours a0 x1 x3 σ).bind fun v4 => if v4 = 0 then (f_State_neighboursOf_l1 a0 x1 σ K n x2 (x3 + 1)) else (f_State_neighboursOf_l1 a0 x1 σ K n (x2 ||| ((1 : Int32) <<< (x3 &&& 31))) (x3 + 1)))
def f_State_neighboursOf (a0 : Nat) (x1 : Int32) (σ : hp_H) : Option Int32 := hp_own σ a0 7 (f_State_neighboursOf_l1 a0 x1 σ (fun z6 z7 => some z6) hp_F 0 0)
set_option maxHeartbeats 4000000 in
set_option maxRecDepth 100000 in
theorem w_State_neighboursOf_l1 {p : Program} {l : Launch} {e : Env} {s : State} {m : MethodId} {args : Array Value} {below : List Frame} {meth : Method} {c : Code} {G : hp_G} {b : Nat} {σ : hp_H} {a0 : Nat} {x1 : Int32} {r : Int32} {K : Int32 → Int32 → Option Int32} (hX : hp_X G p s m c args cX8_neighboursOf 4 RX8) (hlocks : meth.locks = false) (hr : meth.sig.returnType = (some .int))
    (hK : ∀ (x2 : Int32) (x3 : Int32) (H : Heap) (locs : List Loc) (ls : Array Slot), hp_R G b s.heap σ H locs → lv_has ls 4 [(2, .int x2)] → K x2 x3 = some r → W p l e rm_State_neighboursOf s m args below meth c H locs 0 0 (MQ below (hp_Qc G b (some (.int r)) σ) args s 0 0 (fun q => b ≤ q)) (F0 m 33 ls [])) :
    ∀ (n : Nat) (x2 : Int32) (x3 : Int32) (H : Heap) (locs : List Loc) (ls : Array Slot), hp_R G b s.heap σ H locs → f_State_neighboursOf_l1 a0 x1 σ K n x2 x3 = some r → lv_has ls 4 [(0, .ref a0), (1, .int x1), (2, .int x2), (3, .int x3)] → W p l e rm_State_neighboursOf s m args below meth c H locs 0 0 (MQ below (hp_Qc G b (some (.int r)) σ) args s 0 0 (fun q => b ≤ q)) (F0 m 4 ls []) := by
  obtain ⟨hx, hb, hml, hown, hts⟩ := id hX.1
  intro n
  induction n with
  | zero =>
    intro x2 x3 H locs ls hR h hl
    rw [f_State_neighboursOf_l1] at h
    cases h
  | succ n ih =>
    intro x2 x3 H locs ls hR h hl
    rw [f_State_neighboursOf_l1] at h
    refine lv_iload_n hx hb dX8_neighboursOf_4 rfl (lv_at hl 3 rfl) ?_
    refine lv_aload_n hx hb dX8_neighboursOf_5 rfl (lv_at hl 0 rfl) ?_
    refine hp_getI hX hR (ci := 7) 0 rfl wf8 (by decide) wq1_67 dX8_neighboursOf_6 h (fun v1 h => ?_)
    refine lv_icmp_ge (tgt := 33) hx hb dX8_neighboursOf_9 (by decide) (fun c2 => ?_) (fun c2 => ?_)
    · have h := hp_ip c2 h
      exact hK _ _ _ _ _ hR (lv_sub hl [2] rfl) h
    · have h := hp_in c2 h
      refine lv_aload_n hx hb dX8_neighboursOf_12 rfl (lv_at hl 0 rfl) ?_
      refine lv_iload_n hx hb dX8_neighboursOf_13 rfl (lv_at hl 1 rfl) ?_
      refine lv_iload_n hx hb dX8_neighboursOf_14 rfl (lv_at hl 3 rfl) ?_
      refine hp_bn h (fun v4 h3 h => ?_)
      refine hp_ci hR (hp_runV (rest := []) (As := [.int x1, .int x3]) hX hR (c_State_areNeighbours h3) cs_X8_68 rfl rfl rfl hd_State_areNeighbours ⟨Nat.le_of_ble_eq_true rfl, Nat.le_of_ble_eq_true rfl⟩ (ci := 7) rfl (hp_own_is h3) rfl hl.1 rfl (Nat.le_of_ble_eq_true rfl) dX8_neighboursOf_15 ⟨Nat.le_of_ble_eq_true rfl, Nat.le_of_ble_eq_true rfl⟩) (fun H locs hR => ?_)
      refine lv_if_eq (tgt := 27) hx hb dX8_neighboursOf_18 (by decide) (fun c5 => ?_) (fun c5 => ?_)
      · have h := hp_ip c5 h
        refine lv_iinc (v := (x3 + 1)) (lv' := [(3, .int (x3 + 1)), (0, .ref a0), (1, .int x1), (2, .int x2)]) hx hb dX8_neighboursOf_27 hl (k := 3) rfl rfl (by decide) rfl (fun ls hl => ?_)
        refine lv_goto (tgt := 4) hx hb dX8_neighboursOf_30 (by decide) ?_
        exact ih _ _ _ _ _ hR h (lv_sub hl [1, 2, 3, 0] rfl)
      · have h := hp_in c5 h
        refine lv_iload_n hx hb dX8_neighboursOf_21 rfl (lv_at hl 2 rfl) ?_
        refine lv_iconst (v := 1) hx hb dX8_neighboursOf_22 (by decide) ?_
        refine lv_iload_n hx hb dX8_neighboursOf_23 rfl (lv_at hl 3 rfl) ?_
        refine lv_ishl hx hb dX8_neighboursOf_24 ?_
        refine lv_ior hx hb dX8_neighboursOf_25 ?_
        refine lv_istore_n (lv' := [(2, .int (x2 ||| ((1 : Int32) <<< (x3 &&& 31)))), (0, .ref a0), (1, .int x1), (3, .int x3)]) hx hb dX8_neighboursOf_26 rfl hl (by decide) rfl (fun ls hl => ?_)
        refine lv_iinc (v := (x3 + 1)) (lv' := [(3, .int (x3 + 1)), (2, .int (x2 ||| ((1 : Int32) <<< (x3 &&& 31)))), (0, .ref a0), (1, .int x1)]) hx hb dX8_neighboursOf_27 hl (k := 3) rfl rfl (by decide) rfl (fun ls hl => ?_)
        refine lv_goto (tgt := 4) hx hb dX8_neighboursOf_30 (by decide) ?_
        exact ih _ _ _ _ _ hR h (lv_sub hl [2, 3, 1, 0] rfl)
set_option maxHeartbeats 4000000 in
set_option maxRecDepth 100000 in
theorem c_State_neighboursOf {l : Launch} {G : hp_G} {b : Nat} {σ : hp_H} {a0 : Nat} {x1 : Int32} {r : Int32} (h : f_State_neighboursOf a0 x1 σ = some r) : hp_Met l yX8_neighboursOf cX8_neighboursOf 4 (some .int) rm_State_neighboursOf G b [.ref a0, .int x1] σ (some (.int r)) σ 0 0 := by
  refine hp_met (by decide +kernel) (Nat.le_of_ble_eq_true rfl) (fun p e s m below meth c ls hX hlocks hr hnm hl hR => ?_)
  obtain ⟨hx, hb, hml, hown, hts⟩ := id hX.1
  have hl : lv_has ls 4 [(0, .ref a0), (1, .int x1)] := hl
  unfold f_State_neighboursOf at h
  have h := hp_own_to h
  refine lv_iconst (v := 0) hx hb dX8_neighboursOf_0 (by decide) ?_
  refine lv_istore_n (lv' := [(2, .int 0), (0, .ref a0), (1, .int x1)]) hx hb dX8_neighboursOf_1 rfl hl (by decide) rfl (fun ls hl => ?_)
  refine lv_iconst (v := 0) hx hb dX8_neighboursOf_2 (by decide) ?_
  refine lv_istore_n (lv' := [(3, .int 0), (2, .int 0), (0, .ref a0), (1, .int x1)]) hx hb dX8_neighboursOf_3 rfl hl (by decide) rfl (fun ls hl => ?_)
  refine w_State_neighboursOf_l1 hX hlocks hr ?_ hp_F _ _ _ _ _ hR h (lv_sub hl [2, 3, 1, 0] rfl)
  intro z6 z7 H locs ls hR hl h
  refine lv_iload_n hx hb dX8_neighboursOf_33 rfl (lv_at hl 0 rfl) ?_
  exact hp_iretP hX hlocks hr hR h dX8_neighboursOf_34
theorem cs_X8_75 : hp_WSN RX8 75 yX10_holds "NoticeBoxes" cX10_holds 2 (some .boolean) := ⟨by decide +kernel, wq2_58, wq1_1, wq2_59⟩
/-! State.wishesOf(I)I -/
abbrev rm_State_wishesOf : Room := { frames := 1, cells := 0, slots := 0, locals := 21 }
theorem hd_State_wishesOf : hp_d yX8_wishesOf 1 := by decide +kernel
def f_State_wishesOf_l1 (a0 : Nat) (x1 : Int32) (σ : hp_H) (K : Int32 → Int32 → Option Int32) : Nat → Int32 → Int32 → Option Int32
  | 0, _, _ => none
  | n + 1, x2, x3 => (hp_gI σ a0 7 2).bind fun v1 => if v1 ≤ x3 then (K x2 x3) else ((hp_gR σ a0 7 9).bind fun q3 => (hp_aI σ q3 0 x3).bind fun v4 => (f_NB_holds x1 v4).bind fun v6 => if v6 = 0 then (f_State_wishesOf_l1 a0 x1 σ K n x2 (x3 + 1)) else (f_State_wishesOf_l1 a0 x1 σ K n (x2 ||| ((1 : Int32) <<< (x3 &&& 31))) (x3 + 1)))
def f_State_wishesOf (a0 : Nat) (x1 : Int32) (σ : hp_H) : Option Int32 := hp_own σ a0 7 (f_State_wishesOf_l1 a0 x1 σ (fun z8 z9 => some z8) hp_F 0 0)
set_option maxHeartbeats 4000000 in
set_option maxRecDepth 100000 in
theorem w_State_wishesOf_l1 {p : Program} {l : Launch} {e : Env} {s : State} {m : MethodId} {args : Array Value} {below : List Frame} {meth : Method} {c : Code} {G : hp_G} {b : Nat} {σ : hp_H} {a0 : Nat} {x1 : Int32} {r : Int32} {K : Int32 → Int32 → Option Int32} (hX : hp_X G p s m c args cX8_wishesOf 4 RX8) (hlocks : meth.locks = false) (hr : meth.sig.returnType = (some .int))
    (hK : ∀ (x2 : Int32) (x3 : Int32) (H : Heap) (locs : List Loc) (ls : Array Slot), hp_R G b s.heap σ H locs → lv_has ls 4 [(2, .int x2)] → K x2 x3 = some r → W p l e rm_State_wishesOf s m args below meth c H locs 0 0 (MQ below (hp_Qc G b (some (.int r)) σ) args s 0 0 (fun q => b ≤ q)) (F0 m 37 ls [])) :
    ∀ (n : Nat) (x2 : Int32) (x3 : Int32) (H : Heap) (locs : List Loc) (ls : Array Slot), hp_R G b s.heap σ H locs → f_State_wishesOf_l1 a0 x1 σ K n x2 x3 = some r → lv_has ls 4 [(0, .ref a0), (1, .int x1), (2, .int x2), (3, .int x3)] → W p l e rm_State_wishesOf s m args below meth c H locs 0 0 (MQ below (hp_Qc G b (some (.int r)) σ) args s 0 0 (fun q => b ≤ q)) (F0 m 4 ls []) := by
  obtain ⟨hx, hb, hml, hown, hts⟩ := id hX.1
  intro n
  induction n with
  | zero =>
    intro x2 x3 H locs ls hR h hl
    rw [f_State_wishesOf_l1] at h
    cases h
  | succ n ih =>
    intro x2 x3 H locs ls hR h hl
    rw [f_State_wishesOf_l1] at h
    refine lv_iload_n hx hb dX8_wishesOf_4 rfl (lv_at hl 3 rfl) ?_
    refine lv_aload_n hx hb dX8_wishesOf_5 rfl (lv_at hl 0 rfl) ?_
    refine hp_getI hX hR (ci := 7) 2 rfl wf8 (by decide) wq1_73 dX8_wishesOf_6 h (fun v1 h => ?_)
    refine lv_icmp_ge (tgt := 37) hx hb dX8_wishesOf_9 (by decide) (fun c2 => ?_) (fun c2 => ?_)
    · have h := hp_ip c2 h
      exact hK _ _ _ _ _ hR (lv_sub hl [2] rfl) h
    · have h := hp_in c2 h
      refine lv_iload_n hx hb dX8_wishesOf_12 rfl (lv_at hl 1 rfl) ?_
      refine lv_aload_n hx hb dX8_wishesOf_13 rfl (lv_at hl 0 rfl) ?_
      refine hp_getR hX hR (ci := 7) 9 rfl wf8 (by decide) wq1_91 dX8_wishesOf_14 h (fun q3 h => ?_)
      refine lv_iload_n hx hb dX8_wishesOf_17 rfl (lv_at hl 3 rfl) ?_
      refine hp_iald hX hR dX8_wishesOf_18 h (fun v4 h => ?_)
      refine hp_bn h (fun v6 h5 h => ?_)
      refine hp_ci hR (hp_runSN (rest := []) (As := [.int x1, .int v4]) hX hR (c_NB_holds h5) cs_X8_75 rfl rfl hd_NB_holds ⟨Nat.le_of_ble_eq_true rfl, Nat.le_of_ble_eq_true rfl⟩ rfl hl.1 rfl (Nat.le_of_ble_eq_true rfl) dX8_wishesOf_19 ⟨Nat.le_of_ble_eq_true rfl, Nat.le_of_ble_eq_true rfl⟩) (fun H locs hR => ?_)
      refine lv_if_eq (tgt := 31) hx hb dX8_wishesOf_22 (by decide) (fun c7 => ?_) (fun c7 => ?_)
      · have h := hp_ip c7 h
        refine lv_iinc (v := (x3 + 1)) (lv' := [(3, .int (x3 + 1)), (0, .ref a0), (1, .int x1), (2, .int x2)]) hx hb dX8_wishesOf_31 hl (k := 3) rfl rfl (by decide) rfl (fun ls hl => ?_)
        refine lv_goto (tgt := 4) hx hb dX8_wishesOf_34 (by decide) ?_
        exact ih _ _ _ _ _ hR h (lv_sub hl [1, 2, 3, 0] rfl)
      · have h := hp_in c7 h
        refine lv_iload_n hx hb dX8_wishesOf_25 rfl (lv_at hl 2 rfl) ?_
        refine lv_iconst (v := 1) hx hb dX8_wishesOf_26 (by decide) ?_
        refine lv_iload_n hx hb dX8_wishesOf_27 rfl (lv_at hl 3 rfl) ?_
        refine lv_ishl hx hb dX8_wishesOf_28 ?_
        refine lv_ior hx hb dX8_wishesOf_29 ?_
        refine lv_istore_n (lv' := [(2, .int (x2 ||| ((1 : Int32) <<< (x3 &&& 31)))), (0, .ref a0), (1, .int x1), (3, .int x3)]) hx hb dX8_wishesOf_30 rfl hl (by decide) rfl (fun ls hl => ?_)
        refine lv_iinc (v := (x3 + 1)) (lv' := [(3, .int (x3 + 1)), (2, .int (x2 ||| ((1 : Int32) <<< (x3 &&& 31)))), (0, .ref a0), (1, .int x1)]) hx hb dX8_wishesOf_31 hl (k := 3) rfl rfl (by decide) rfl (fun ls hl => ?_)
        refine lv_goto (tgt := 4) hx hb dX8_wishesOf_34 (by decide) ?_
        exact ih _ _ _ _ _ hR h (lv_sub hl [2, 3, 1, 0] rfl)
set_option maxHeartbeats 4000000 in
set_option maxRecDepth 100000 in
theorem c_State_wishesOf {l : Launch} {G : hp_G} {b : Nat} {σ : hp_H} {a0 : Nat} {x1 : Int32} {r : Int32} (h : f_State_wishesOf a0 x1 σ = some r) : hp_Met l yX8_wishesOf cX8_wishesOf 4 (some .int) rm_State_wishesOf G b [.ref a0, .int x1] σ (some (.int r)) σ 0 0 := by
  refine hp_met (by decide +kernel) (Nat.le_of_ble_eq_true rfl) (fun p e s m below meth c ls hX hlocks hr hnm hl hR => ?_)
  obtain ⟨hx, hb, hml, hown, hts⟩ := id hX.1
  have hl : lv_has ls 4 [(0, .ref a0), (1, .int x1)] := hl
  unfold f_State_wishesOf at h
  have h := hp_own_to h
  refine lv_iconst (v := 0) hx hb dX8_wishesOf_0 (by decide) ?_
  refine lv_istore_n (lv' := [(2, .int 0), (0, .ref a0), (1, .int x1)]) hx hb dX8_wishesOf_1 rfl hl (by decide) rfl (fun ls hl => ?_)
  refine lv_iconst (v := 0) hx hb dX8_wishesOf_2 (by decide) ?_
  refine lv_istore_n (lv' := [(3, .int 0), (2, .int 0), (0, .ref a0), (1, .int x1)]) hx hb dX8_wishesOf_3 rfl hl (by decide) rfl (fun ls hl => ?_)
  refine w_State_wishesOf_l1 hX hlocks hr ?_ hp_F _ _ _ _ _ hR h (lv_sub hl [2, 3, 1, 0] rfl)
  intro z8 z9 H locs ls hR hl h
  refine lv_iload_n hx hb dX8_wishesOf_37 rfl (lv_at hl 0 rfl) ?_
  exact hp_iretP hX hlocks hr hR h dX8_wishesOf_38
/-! State.wishesCoveredBy(I)I -/
abbrev rm_State_wishesCoveredBy : Room := { frames := 2, cells := 0, slots := 0, locals := 43 }
theorem hd_State_wishesCoveredBy : hp_d yX8_wishesCoveredBy 1 := by decide +kernel
def f_State_wishesCoveredBy_l1 (a0 : Nat) (x1 : Int32) (σ : hp_H) (K : Int32 → Int32 → Option Int32) : Nat → Int32 → Int32 → Option Int32
  | 0, _, _ => none
  | n + 1, x2, x3 => (hp_gI σ a0 7 2).bind fun v1 => if v1 ≤ x3 then (K x2 x3) else (if x3 = x1 then (f_State_wishesCoveredBy_l1 a0 x1 σ K n x2 (x3 + 1)) else ((hp_gR σ a0 7 10).bind fun q4 => (hp_aI σ q4 0 x1).bind fun v5 => (hp_gR σ a0 7 10).bind fun q6 => (hp_aI σ q6 0 x3).bind fun v7 => (f_Box_covers v5 v7).bind fun v9 => if v9 = 0 then (f_State_wishesCoveredBy_l1 a0 x1 σ K n x2 (x3 + 1)) else (f_State_wishesCoveredBy_l1 a0 x1 σ K n (x2 ||| ((1 : Int32) <<< (x3 &&& 31))) (x3 + 1))))
def f_State_wishesCoveredBy (a0 : Nat) (x1 : Int32) (σ : hp_H) : Option Int32 := hp_own σ a0 7 (f_State_wishesCoveredBy_l1 a0 x1 σ (fun z11 z12 => some z11) hp_F 0 0)
set_option maxHeartbeats 4000000 in
set_option maxRecDepth 100000 in
theorem w_State_wishesCoveredBy_l1 {p : Program} {l : Launch} {e : Env} {s : State} {m : MethodId} {args : Array Value} {below : List Frame} {meth : Method} {c : Code} {G : hp_G} {b : Nat} {σ : hp_H} {a0 : Nat} {x1 : Int32} {r : Int32} {K : Int32 → Int32 → Option Int32} (hX : hp_X G p s m c args cX8_wishesCoveredBy 4 RX8) (hlocks : meth.locks = false) (hr : meth.sig.returnType = (some .int))
    (hK : ∀ (x2 : Int32) (x3 : Int32) (H : Heap) (locs : List Loc) (ls : Array Slot), hp_R G b s.heap σ H locs → lv_has ls 4 [(2, .int x2)] → K x2 x3 = some r → W p l e rm_State_wishesCoveredBy s m args below meth c H locs 0 0 (MQ below (hp_Qc G b (some (.int r)) σ) args s 0 0 (fun q => b ≤ q)) (F0 m 47 ls [])) :
    ∀ (n : Nat) (x2 : Int32) (x3 : Int32) (H : Heap) (locs : List Loc) (ls : Array Slot), hp_R G b s.heap σ H locs → f_State_wishesCoveredBy_l1 a0 x1 σ K n x2 x3 = some r → lv_has ls 4 [(0, .ref a0), (1, .int x1), (2, .int x2), (3, .int x3)] → W p l e rm_State_wishesCoveredBy s m args below meth c H locs 0 0 (MQ below (hp_Qc G b (some (.int r)) σ) args s 0 0 (fun q => b ≤ q)) (F0 m 4 ls []) := by
  obtain ⟨hx, hb, hml, hown, hts⟩ := id hX.1
  intro n
  induction n with
  | zero =>
    intro x2 x3 H locs ls hR h hl
    rw [f_State_wishesCoveredBy_l1] at h
    cases h
  | succ n ih =>
    intro x2 x3 H locs ls hR h hl
    rw [f_State_wishesCoveredBy_l1] at h
    refine lv_iload_n hx hb dX8_wishesCoveredBy_4 rfl (lv_at hl 3 rfl) ?_
    refine lv_aload_n hx hb dX8_wishesCoveredBy_5 rfl (lv_at hl 0 rfl) ?_
    refine hp_getI hX hR (ci := 7) 2 rfl wf8 (by decide) wq1_73 dX8_wishesCoveredBy_6 h (fun v1 h => ?_)
    refine lv_icmp_ge (tgt := 47) hx hb dX8_wishesCoveredBy_9 (by decide) (fun c2 => ?_) (fun c2 => ?_)
    · have h := hp_ip c2 h
      exact hK _ _ _ _ _ hR (lv_sub hl [2] rfl) h
    · have h := hp_in c2 h
      refine lv_iload_n hx hb dX8_wishesCoveredBy_12 rfl (lv_at hl 3 rfl) ?_
      refine lv_iload_n hx hb dX8_wishesCoveredBy_13 rfl (lv_at hl 1 rfl) ?_
      refine lv_icmp_eq (tgt := 41) hx hb dX8_wishesCoveredBy_14 (by decide) (fun c3 => ?_) (fun c3 => ?_)
      · have h := hp_ip c3 h
        refine lv_iinc (v := (x3 + 1)) (lv' := [(3, .int (x3 + 1)), (0, .ref a0), (1, .int x1), (2, .int x2)]) hx hb dX8_wishesCoveredBy_41 hl (k := 3) rfl rfl (by decide) rfl (fun ls hl => ?_)
        refine lv_goto (tgt := 4) hx hb dX8_wishesCoveredBy_44 (by decide) ?_
        exact ih _ _ _ _ _ hR h (lv_sub hl [1, 2, 3, 0] rfl)
      · have h := hp_in c3 h
        refine lv_aload_n hx hb dX8_wishesCoveredBy_17 rfl (lv_at hl 0 rfl) ?_
        refine hp_getR hX hR (ci := 7) 10 rfl wf8 (by decide) wq1_93 dX8_wishesCoveredBy_18 h (fun q4 h => ?_)
        refine lv_iload_n hx hb dX8_wishesCoveredBy_21 rfl (lv_at hl 1 rfl) ?_
        refine hp_iald hX hR dX8_wishesCoveredBy_22 h (fun v5 h => ?_)
        refine lv_aload_n hx hb dX8_wishesCoveredBy_23 rfl (lv_at hl 0 rfl) ?_
        refine hp_getR hX hR (ci := 7) 10 rfl wf8 (by decide) wq1_93 dX8_wishesCoveredBy_24 h (fun q6 h => ?_)
        refine lv_iload_n hx hb dX8_wishesCoveredBy_27 rfl (lv_at hl 3 rfl) ?_
        refine hp_iald hX hR dX8_wishesCoveredBy_28 h (fun v7 h => ?_)
        refine hp_bn h (fun v9 h8 h => ?_)
        refine hp_ci hR (hp_runS (rest := []) (As := [.int v5, .int v7]) hX hR (c_Box_covers h8) cs_X8_78 rfl rfl hd_Box_covers ⟨Nat.le_of_ble_eq_true rfl, Nat.le_of_ble_eq_true rfl⟩ rfl hl.1 rfl (Nat.le_of_ble_eq_true rfl) dX8_wishesCoveredBy_29 ⟨Nat.le_of_ble_eq_true rfl, Nat.le_of_ble_eq_true rfl⟩) (fun H locs hR => ?_)
        refine lv_if_eq (tgt := 41) hx hb dX8_wishesCoveredBy_32 (by decide) (fun c10 => ?_) (fun c10 => ?_)
        · have h := hp_ip c10 h
          refine lv_iinc (v := (x3 + 1)) (lv' := [(3, .int (x3 + 1)), (0, .ref a0), (1, .int x1), (2, .int x2)]) hx hb dX8_wishesCoveredBy_41 hl (k := 3) rfl rfl (by decide) rfl (fun ls hl => ?_)
          refine lv_goto (tgt := 4) hx hb dX8_wishesCoveredBy_44 (by decide) ?_
          exact ih _ _ _ _ _ hR h (lv_sub hl [1, 2, 3, 0] rfl)
        · have h := hp_in c10 h
          refine lv_iload_n hx hb dX8_wishesCoveredBy_35 rfl (lv_at hl 2 rfl) ?_
          refine lv_iconst (v := 1) hx hb dX8_wishesCoveredBy_36 (by decide) ?_
          refine lv_iload_n hx hb dX8_wishesCoveredBy_37 rfl (lv_at hl 3 rfl) ?_
          refine lv_ishl hx hb dX8_wishesCoveredBy_38 ?_
          refine lv_ior hx hb dX8_wishesCoveredBy_39 ?_
          refine lv_istore_n (lv' := [(2, .int (x2 ||| ((1 : Int32) <<< (x3 &&& 31)))), (0, .ref a0), (1, .int x1), (3, .int x3)]) hx hb dX8_wishesCoveredBy_40 rfl hl (by decide) rfl (fun ls hl => ?_)
          refine lv_iinc (v := (x3 + 1)) (lv' := [(3, .int (x3 + 1)), (2, .int (x2 ||| ((1 : Int32) <<< (x3 &&& 31)))), (0, .ref a0), (1, .int x1)]) hx hb dX8_wishesCoveredBy_41 hl (k := 3) rfl rfl (by decide) rfl (fun ls hl => ?_)
          refine lv_goto (tgt := 4) hx hb dX8_wishesCoveredBy_44 (by decide) ?_
          exact ih _ _ _ _ _ hR h (lv_sub hl [2, 3, 1, 0] rfl)
set_option maxHeartbeats 4000000 in
set_option maxRecDepth 100000 in
theorem c_State_wishesCoveredBy {l : Launch} {G : hp_G} {b : Nat} {σ : hp_H} {a0 : Nat} {x1 : Int32} {r : Int32} (h : f_State_wishesCoveredBy a0 x1 σ = some r) : hp_Met l yX8_wishesCoveredBy cX8_wishesCoveredBy 4 (some .int) rm_State_wishesCoveredBy G b [.ref a0, .int x1] σ (some (.int r)) σ 0 0 := by
  refine hp_met (by decide +kernel) (Nat.le_of_ble_eq_true rfl) (fun p e s m below meth c ls hX hlocks hr hnm hl hR => ?_)
  obtain ⟨hx, hb, hml, hown, hts⟩ := id hX.1
  have hl : lv_has ls 4 [(0, .ref a0), (1, .int x1)] := hl
  unfold f_State_wishesCoveredBy at h
  have h := hp_own_to h
  refine lv_iconst (v := 0) hx hb dX8_wishesCoveredBy_0 (by decide) ?_
  refine lv_istore_n (lv' := [(2, .int 0), (0, .ref a0), (1, .int x1)]) hx hb dX8_wishesCoveredBy_1 rfl hl (by decide) rfl (fun ls hl => ?_)
  refine lv_iconst (v := 0) hx hb dX8_wishesCoveredBy_2 (by decide) ?_
  refine lv_istore_n (lv' := [(3, .int 0), (2, .int 0), (0, .ref a0), (1, .int x1)]) hx hb dX8_wishesCoveredBy_3 rfl hl (by decide) rfl (fun ls hl => ?_)
  refine w_State_wishesCoveredBy_l1 hX hlocks hr ?_ hp_F _ _ _ _ _ hR h (lv_sub hl [2, 3, 1, 0] rfl)
  intro z11 z12 H locs ls hR hl h
  refine lv_iload_n hx hb dX8_wishesCoveredBy_47 rfl (lv_at hl 0 rfl) ?_
  exact hp_iretP hX hlocks hr hR h dX8_wishesCoveredBy_48
/-! State.isWished(I)Z -/
abbrev rm_State_isWished : Room := { frames := 0, cells := 0, slots := 0, locals := 0 }
theorem hd_State_isWished : hp_d yX8_isWished 1 := by decide +kernel
def f_State_isWished_l1 (a0 : Nat) (x1 : Int32) (σ : hp_H) (K : Int32 → Option Int32) : Nat → Int32 → Option Int32
  | 0, _ => none
  | n + 1, x2 => (hp_gI σ a0 7 2).bind fun v1 => if v1 ≤ x2 then (K x2) else ((hp_gR σ a0 7 10).bind fun q3 => (hp_aI σ q3 0 x2).bind fun v4 => if v4 = x1 then (some 1) else (f_State_isWished_l1 a0 x1 σ K n (x2 + 1)))
def f_State_isWished (a0 : Nat) (x1 : Int32) (σ : hp_H) : Option Int32 := hp_own σ a0 7 (f_State_isWished_l1 a0 x1 σ (fun z6 => some 0) hp_F 0)
set_option maxHeartbeats 4000000 in
set_option maxRecDepth 100000 in
theorem w_State_isWished_l1 {p : Program} {l : Launch} {e : Env} {s : State} {m : MethodId} {args : Array Value} {below : List Frame} {meth : Method} {c : Code} {G : hp_G} {b : Nat} {σ : hp_H} {a0 : Nat} {x1 : Int32} {r : Int32} {K : Int32 → Option Int32} (hX : hp_X G p s m c args cX8_isWished 3 RX8) (hlocks : meth.locks = false) (hr : meth.sig.returnType = (some .boolean))
    (hK : ∀ (x2 : Int32) (H : Heap) (locs : List Loc) (ls : Array Slot), hp_R G b s.heap σ H locs → lv_has ls 3 [] → K x2 = some r → W p l e rm_State_isWished s m args below meth c H locs 0 0 (MQ below (hp_Qc G b (some (.int r)) σ) args s 0 0 (fun q => b ≤ q)) (F0 m 28 ls [])) :
    ∀ (n : Nat) (x2 : Int32) (H : Heap) (locs : List Loc) (ls : Array Slot), hp_R G b s.heap σ H locs → f_State_isWished_l1 a0 x1 σ K n x2 = some r → lv_has ls 3 [(0, .ref a0), (1, .int x1), (2, .int x2)] → W p l e rm_State_isWished s m args below meth c H locs 0 0 (MQ below (hp_Qc G b (some (.int r)) σ) args s 0 0 (fun q => b ≤ q)) (F0 m 2 ls []) := by
  obtain ⟨hx, hb, hml, hown, hts⟩ := id hX.1
  intro n
  induction n with
  | zero =>
    intro x2 H locs ls hR h hl
    rw [f_State_isWished_l1] at h
    cases h
  | succ n ih =>
    intro x2 H locs ls hR h hl
    rw [f_State_isWished_l1] at h
    refine lv_iload_n hx hb dX8_isWished_2 rfl (lv_at hl 2 rfl) ?_
    refine lv_aload_n hx hb dX8_isWished_3 rfl (lv_at hl 0 rfl) ?_
    refine hp_getI hX hR (ci := 7) 2 rfl wf8 (by decide) wq1_73 dX8_isWished_4 h (fun v1 h => ?_)
    refine lv_icmp_ge (tgt := 28) hx hb dX8_isWished_7 (by decide) (fun c2 => ?_) (fun c2 => ?_)
    · have h := hp_ip c2 h
      exact hK _ _ _ _ hR (lv_sub hl [] rfl) h
    · have h := hp_in c2 h
      refine lv_aload_n hx hb dX8_isWished_10 rfl (lv_at hl 0 rfl) ?_
      refine hp_getR hX hR (ci := 7) 10 rfl wf8 (by decide) wq1_93 dX8_isWished_11 h (fun q3 h => ?_)
      refine lv_iload_n hx hb dX8_isWished_14 rfl (lv_at hl 2 rfl) ?_
      refine hp_iald hX hR dX8_isWished_15 h (fun v4 h => ?_)
      refine lv_iload_n hx hb dX8_isWished_16 rfl (lv_at hl 1 rfl) ?_
      refine lv_icmp_ne (tgt := 22) hx hb dX8_isWished_17 (by decide) (fun c5 => ?_) (fun c5 => ?_)
      · have h := hp_in c5 h
        refine lv_iinc (v := (x2 + 1)) (lv' := [(2, .int (x2 + 1)), (0, .ref a0), (1, .int x1)]) hx hb dX8_isWished_22 hl (k := 2) rfl rfl (by decide) rfl (fun ls hl => ?_)
        refine lv_goto (tgt := 2) hx hb dX8_isWished_25 (by decide) ?_
        exact ih _ _ _ _ hR h (lv_sub hl [1, 2, 0] rfl)
      · have h := hp_ip c5 h
        refine lv_iconst (v := 1) hx hb dX8_isWished_20 (by decide) ?_
        exact hp_zretLP (by decide) hX hlocks hr hR h dX8_isWished_21
set_option maxHeartbeats 4000000 in
set_option maxRecDepth 100000 in
theorem c_State_isWished {l : Launch} {G : hp_G} {b : Nat} {σ : hp_H} {a0 : Nat} {x1 : Int32} {r : Int32} (h : f_State_isWished a0 x1 σ = some r) : hp_Met l yX8_isWished cX8_isWished 3 (some .boolean) rm_State_isWished G b [.ref a0, .int x1] σ (some (.int r)) σ 0 0 := by
  refine hp_met (by decide +kernel) (Nat.le_of_ble_eq_true rfl) (fun p e s m below meth c ls hX hlocks hr hnm hl hR => ?_)
  obtain ⟨hx, hb, hml, hown, hts⟩ := id hX.1
  have hl : lv_has ls 3 [(0, .ref a0), (1, .int x1)] := hl
  unfold f_State_isWished at h
  have h := hp_own_to h
  refine lv_iconst (v := 0) hx hb dX8_isWished_0 (by decide) ?_
  refine lv_istore_n (lv' := [(2, .int 0), (0, .ref a0), (1, .int x1)]) hx hb dX8_isWished_1 rfl hl (by decide) rfl (fun ls hl => ?_)
  refine w_State_isWished_l1 hX hlocks hr ?_ hp_F _ _ _ _ hR h (lv_sub hl [1, 2, 0] rfl)
  intro z6 H locs ls hR hl h
  refine lv_iconst (v := 0) hx hb dX8_isWished_28 (by decide) ?_
  exact hp_zretLP (by decide) hX hlocks hr hR h dX8_isWished_29
/-! State.addBroker(I)I -/
abbrev rm_State_addBroker : Room := { frames := 0, cells := 0, slots := 0, locals := 0 }
theorem hd_State_addBroker : hp_d yX8_addBroker 1 := by decide +kernel
def f_State_addBroker (a0 : Nat) (x1 : Int32) (σ : hp_H) : Option (Int32 × hp_H) := hp_own σ a0 7 ((hp_gR σ a0 7 7).bind fun q1 => (hp_gI σ a0 7 0).bind fun v2 => (hp_sI σ q1 0 v2 x1).bind fun σ => (hp_gI σ a0 7 0).bind fun v3 => (hp_pI σ a0 7 0 (v3 + 1)).bind fun σ => (hp_gI σ a0 7 0).bind fun v4 => some ((v4 - 1), σ))
set_option maxHeartbeats 4000000 in
set_option maxRecDepth 100000 in
theorem c_State_addBroker {l : Launch} {G : hp_G} {b : Nat} {σ : hp_H} {a0 : Nat} {x1 : Int32} {r : Int32} {σ' : hp_H} (h : f_State_addBroker a0 x1 σ = some (r, σ')) : hp_Met l yX8_addBroker cX8_addBroker 2 (some .int) rm_State_addBroker G b [.ref a0, .int x1] σ (some (.int r)) σ' 0 0 := by
  refine hp_met (by decide +kernel) (Nat.le_of_ble_eq_true rfl) (fun p e s m below meth c ls hX hlocks hr hnm hl hR => ?_)
  obtain ⟨hx, hb, hml, hown, hts⟩ := id hX.1
  have hl : lv_has ls 2 [(0, .ref a0), (1, .int x1)] := hl
  unfold f_State_addBroker at h
  have h := hp_own_to h
  refine lv_aload_n hx hb dX8_addBroker_0 rfl (lv_at hl 0 rfl) ?_
  refine hp_getR hX hR (ci := 7) 7 rfl wf8 (by decide) wq1_85 dX8_addBroker_1 h (fun q1 h => ?_)
  refine lv_aload_n hx hb dX8_addBroker_4 rfl (lv_at hl 0 rfl) ?_
  refine hp_getI hX hR (ci := 7) 0 rfl wf8 (by decide) wq1_67 dX8_addBroker_5 h (fun v2 h => ?_)
  refine lv_iload_n hx hb dX8_addBroker_8 rfl (lv_at hl 1 rfl) ?_
  refine hp_iast hX hR dX8_addBroker_9 h (fun σ H locs h hR => ?_)
  refine lv_aload_n hx hb dX8_addBroker_10 rfl (lv_at hl 0 rfl) ?_
  refine lv_dup hx hb dX8_addBroker_11 rfl ?_
  refine hp_getI hX hR (ci := 7) 0 rfl wf8 (by decide) wq1_67 dX8_addBroker_12 h (fun v3 h => ?_)
  refine lv_iconst (v := 1) hx hb dX8_addBroker_15 (by decide) ?_
  refine lv_iadd hx hb dX8_addBroker_16 ?_
  refine hp_putI hX hR (ci := 7) 0 rfl wf8 tyX8_ok nmX8 (by decide) wq1_67 rfl dX8_addBroker_17 rfl h (fun σ H locs h hR => ?_)
  refine lv_aload_n hx hb dX8_addBroker_20 rfl (lv_at hl 0 rfl) ?_
  refine hp_getI hX hR (ci := 7) 0 rfl wf8 (by decide) wq1_67 dX8_addBroker_21 h (fun v4 h => ?_)
  refine lv_iconst (v := 1) hx hb dX8_addBroker_24 (by decide) ?_
  refine lv_isub hx hb dX8_addBroker_25 ?_
  exact hp_iret hX hlocks hr hR h dX8_addBroker_26
theorem cs_X8_83 : hp_WV RX8 83 RX3 yX3_begin cX3_begin 2 none := ⟨wq3_18, wq3_19, wq3_20, wq1_3, wq3_21⟩
/-! State.addClient(I)I -/
abbrev rm_State_addClient : Room := { frames := 1, cells := 0, slots := 0, locals := 21 }
theorem hd_State_addClient : hp_d yX8_addClient 1 := by decide +kernel
def f_State_addClient (a0 : Nat) (x1 : Int32) (σ : hp_H) : Option (Int32 × hp_H) := hp_own σ a0 7 ((hp_gR σ a0 7 8).bind fun q1 => (hp_gI σ a0 7 1).bind fun v2 => (hp_aR σ q1 3 v2).bind fun q3 => (f_Client_begin q3 x1 σ).bind fun σ => (hp_gI σ a0 7 1).bind fun v5 => (hp_pI σ a0 7 1 (v5 + 1)).bind fun σ => (hp_gI σ a0 7 1).bind fun v6 => some ((v6 - 1), σ))
set_option maxHeartbeats 4000000 in
set_option maxRecDepth 100000 in
theorem c_State_addClient {l : Launch} {G : hp_G} {b : Nat} {σ : hp_H} {a0 : Nat} {x1 : Int32} {r : Int32} {σ' : hp_H} (h : f_State_addClient a0 x1 σ = some (r, σ')) : hp_Met l yX8_addClient cX8_addClient 2 (some .int) rm_State_addClient G b [.ref a0, .int x1] σ (some (.int r)) σ' 0 0 := by
  refine hp_met (by decide +kernel) (Nat.le_of_ble_eq_true rfl) (fun p e s m below meth c ls hX hlocks hr hnm hl hR => ?_)
  obtain ⟨hx, hb, hml, hown, hts⟩ := id hX.1
  have hl : lv_has ls 2 [(0, .ref a0), (1, .int x1)] := hl
  unfold f_State_addClient at h
  have h := hp_own_to h
  refine lv_aload_n hx hb dX8_addClient_0 rfl (lv_at hl 0 rfl) ?_
  refine hp_getR hX hR (ci := 7) 8 rfl wf8 (by decide) wq1_88 dX8_addClient_1 h (fun q1 h => ?_)
  refine lv_aload_n hx hb dX8_addClient_4 rfl (lv_at hl 0 rfl) ?_
  refine hp_getI hX hR (ci := 7) 1 rfl wf8 (by decide) wq1_71 dX8_addClient_5 h (fun v2 h => ?_)
  refine hp_aald hX hR 3 rfl dX8_addClient_8 h (fun q3 h => ?_)
  refine lv_iload_n hx hb dX8_addClient_9 rfl (lv_at hl 1 rfl) ?_
  refine hp_bn h (fun σ h4 h => ?_)
  refine hp_cv hR (hp_runV (rest := []) (As := [.int x1]) hX hR (c_Client_begin h4) cs_X8_83 rfl rfl rfl hd_Client_begin ⟨Nat.le_of_ble_eq_true rfl, Nat.le_of_ble_eq_true rfl⟩ (ci := 2) rfl (hp_own_is h4) rfl hl.1 rfl (Nat.le_of_ble_eq_true rfl) dX8_addClient_10 ⟨Nat.le_of_ble_eq_true rfl, Nat.le_of_ble_eq_true rfl⟩) (fun H locs hR => ?_)
  refine lv_aload_n hx hb dX8_addClient_13 rfl (lv_at hl 0 rfl) ?_
  refine lv_dup hx hb dX8_addClient_14 rfl ?_
  refine hp_getI hX hR (ci := 7) 1 rfl wf8 (by decide) wq1_71 dX8_addClient_15 h (fun v5 h => ?_)
  refine lv_iconst (v := 1) hx hb dX8_addClient_18 (by decide) ?_
  refine lv_iadd hx hb dX8_addClient_19 ?_
  refine hp_putI hX hR (ci := 7) 1 rfl wf8 tyX8_ok nmX8 (by decide) wq1_71 rfl dX8_addClient_20 rfl h (fun σ H locs h hR => ?_)
  refine lv_aload_n hx hb dX8_addClient_23 rfl (lv_at hl 0 rfl) ?_
  refine hp_getI hX hR (ci := 7) 1 rfl wf8 (by decide) wq1_71 dX8_addClient_24 h (fun v6 h => ?_)
  refine lv_iconst (v := 1) hx hb dX8_addClient_27 (by decide) ?_
  refine lv_isub hx hb dX8_addClient_28 ?_
  exact hp_iret hX hlocks hr hR h dX8_addClient_29
/-! State.addWish(II)I -/
abbrev rm_State_addWish : Room := { frames := 0, cells := 0, slots := 0, locals := 0 }
theorem hd_State_addWish : hp_d yX8_addWish 2 := by decide +kernel
def f_State_addWish (a0 : Nat) (x1 : Int32) (x2 : Int32) (σ : hp_H) : Option (Int32 × hp_H) := hp_own σ a0 7 ((hp_gR σ a0 7 9).bind fun q1 => (hp_gI σ a0 7 2).bind fun v2 => (hp_sI σ q1 0 v2 x1).bind fun σ => (hp_gR σ a0 7 10).bind fun q3 => (hp_gI σ a0 7 2).bind fun v4 => (hp_sI σ q3 0 v4 x2).bind fun σ => (hp_gI σ a0 7 2).bind fun v5 => (hp_pI σ a0 7 2 (v5 + 1)).bind fun σ => (hp_gI σ a0 7 2).bind fun v6 => some ((v6 - 1), σ))
set_option maxHeartbeats 4000000 in
set_option maxRecDepth 100000 in
theorem c_State_addWish {l : Launch} {G : hp_G} {b : Nat} {σ : hp_H} {a0 : Nat} {x1 : Int32} {x2 : Int32} {r : Int32} {σ' : hp_H} (h : f_State_addWish a0 x1 x2 σ = some (r, σ')) : hp_Met l yX8_addWish cX8_addWish 3 (some .int) rm_State_addWish G b [.ref a0, .int x1, .int x2] σ (some (.int r)) σ' 0 0 := by
  refine hp_met (by decide +kernel) (Nat.le_of_ble_eq_true rfl) (fun p e s m below meth c ls hX hlocks hr hnm hl hR => ?_)
  obtain ⟨hx, hb, hml, hown, hts⟩ := id hX.1
  have hl : lv_has ls 3 [(0, .ref a0), (1, .int x1), (2, .int x2)] := hl
  unfold f_State_addWish at h
  have h := hp_own_to h
  refine lv_aload_n hx hb dX8_addWish_0 rfl (lv_at hl 0 rfl) ?_
  refine hp_getR hX hR (ci := 7) 9 rfl wf8 (by decide) wq1_91 dX8_addWish_1 h (fun q1 h => ?_)
  refine lv_aload_n hx hb dX8_addWish_4 rfl (lv_at hl 0 rfl) ?_
  refine hp_getI hX hR (ci := 7) 2 rfl wf8 (by decide) wq1_73 dX8_addWish_5 h (fun v2 h => ?_)
  refine lv_iload_n hx hb dX8_addWish_8 rfl (lv_at hl 1 rfl) ?_
  refine hp_iast hX hR dX8_addWish_9 h (fun σ H locs h hR => ?_)
  refine lv_aload_n hx hb dX8_addWish_10 rfl (lv_at hl 0 rfl) ?_
  refine hp_getR hX hR (ci := 7) 10 rfl wf8 (by decide) wq1_93 dX8_addWish_11 h (fun q3 h => ?_)
  refine lv_aload_n hx hb dX8_addWish_14 rfl (lv_at hl 0 rfl) ?_
  refine hp_getI hX hR (ci := 7) 2 rfl wf8 (by decide) wq1_73 dX8_addWish_15 h (fun v4 h => ?_)
  refine lv_iload_n hx hb dX8_addWish_18 rfl (lv_at hl 2 rfl) ?_
  refine hp_iast hX hR dX8_addWish_19 h (fun σ H locs h hR => ?_)
  refine lv_aload_n hx hb dX8_addWish_20 rfl (lv_at hl 0 rfl) ?_
  refine lv_dup hx hb dX8_addWish_21 rfl ?_
  refine hp_getI hX hR (ci := 7) 2 rfl wf8 (by decide) wq1_73 dX8_addWish_22 h (fun v5 h => ?_)
  refine lv_iconst (v := 1) hx hb dX8_addWish_25 (by decide) ?_
  refine lv_iadd hx hb dX8_addWish_26 ?_
  refine hp_putI hX hR (ci := 7) 2 rfl wf8 tyX8_ok nmX8 (by decide) wq1_73 rfl dX8_addWish_27 rfl h (fun σ H locs h hR => ?_)
  refine lv_aload_n hx hb dX8_addWish_30 rfl (lv_at hl 0 rfl) ?_
  refine hp_getI hX hR (ci := 7) 2 rfl wf8 (by decide) wq1_73 dX8_addWish_31 h (fun v6 h => ?_)
  refine lv_iconst (v := 1) hx hb dX8_addWish_34 (by decide) ?_
  refine lv_isub hx hb dX8_addWish_35 ?_
  exact hp_iret hX hlocks hr hR h dX8_addWish_36
/-! State.removeWish(I)V -/
abbrev rm_State_removeWish : Room := { frames := 0, cells := 0, slots := 0, locals := 0 }
theorem hd_State_removeWish : hp_d yX8_removeWish 1 := by decide +kernel
def f_State_removeWish_l1 (a0 : Nat) (K : Int32 → hp_H → Option hp_H) : Nat → Int32 → hp_H → Option hp_H
  | 0, _, _ => none
  | n + 1, x2, σ => (hp_gI σ a0 7 2).bind fun v1 => if (v1 - 1) ≤ x2 then (K x2 σ) else ((hp_gR σ a0 7 9).bind fun q3 => (hp_gR σ a0 7 9).bind fun q4 => (hp_aI σ q4 0 (x2 + 1)).bind fun v5 => (hp_sI σ q3 0 x2 v5).bind fun σ => (hp_gR σ a0 7 10).bind fun q6 => (hp_gR σ a0 7 10).bind fun q7 => (hp_aI σ q7 0 (x2 + 1)).bind fun v8 => (hp_sI σ q6 0 x2 v8).bind fun σ => f_State_removeWish_l1 a0 K n (x2 + 1) σ)
def f_State_removeWish (a0 : Nat) (x1 : Int32) (σ : hp_H) : Option hp_H := hp_own σ a0 7 (f_State_removeWish_l1 a0 (fun z9 σ => (hp_gI σ a0 7 2).bind fun v10 => (hp_pI σ a0 7 2 (v10 - 1)).bind fun σ => some σ) hp_F x1 σ)
set_option maxHeartbeats 4000000 in
set_option maxRecDepth 100000 in
theorem w_State_removeWish_l1 {p : Program} {l : Launch} {e : Env} {s : State} {m : MethodId} {args : Array Value} {below : List Frame} {meth : Method} {c : Code} {G : hp_G} {b : Nat} {a0 : Nat} {σ' : hp_H} {K : Int32 → hp_H → Option hp_H} (hX : hp_X G p s m c args cX8_removeWish 3 RX8) (hlocks : meth.locks = false) (hr : meth.sig.returnType = none)
    (hK : ∀ (x2 : Int32) (σ : hp_H) (H : Heap) (locs : List Loc) (ls : Array Slot), hp_R G b s.heap σ H locs → lv_has ls 3 [(0, .ref a0)] → K x2 σ = some σ' → W p l e rm_State_removeWish s m args below meth c H locs 0 0 (MQ below (hp_Qc G b none σ') args s 0 0 (fun q => b ≤ q)) (F0 m 46 ls [])) :
    ∀ (n : Nat) (x2 : Int32) (σ : hp_H) (H : Heap) (locs : List Loc) (ls : Array Slot), hp_R G b s.heap σ H locs → f_State_removeWish_l1 a0 K n x2 σ = some σ' → lv_has ls 3 [(0, .ref a0), (2, .int x2)] → W p l e rm_State_removeWish s m args below meth c H locs 0 0 (MQ below (hp_Qc G b none σ') args s 0 0 (fun q => b ≤ q)) (F0 m 2 ls []) := by
  obtain ⟨hx, hb, hml, hown, hts⟩ := id hX.1
  intro n
  induction n with
  | zero =>
    intro x2 σ H locs ls hR h hl
    rw [f_State_removeWish_l1] at h
    cases h
  | succ n ih =>
    intro x2 σ H locs ls hR h hl
    rw [f_State_removeWish_l1] at h
    refine lv_iload_n hx hb dX8_removeWish_2 rfl (lv_at hl 1 rfl) ?_
    refine lv_aload_n hx hb dX8_removeWish_3 rfl (lv_at hl 0 rfl) ?_
    refine hp_getI hX hR (ci := 7) 2 rfl wf8 (by decide) wq1_73 dX8_removeWish_4 h (fun v1 h => ?_)
    refine lv_iconst (v := 1) hx hb dX8_removeWish_7 (by decide) ?_
    refine lv_isub hx hb dX8_removeWish_8 ?_
    refine lv_icmp_ge (tgt := 46) hx hb dX8_removeWish_9 (by decide) (fun c2 => ?_) (fun c2 => ?_)
    · have h := hp_ip c2 h
      exact hK _ _ _ _ _ hR (lv_sub hl [0] rfl) h
    · have h := hp_in c2 h
      refine lv_aload_n hx hb dX8_removeWish_12 rfl (lv_at hl 0 rfl) ?_
      refine hp_getR hX hR (ci := 7) 9 rfl wf8 (by decide) wq1_91 dX8_removeWish_13 h (fun q3 h => ?_)
      refine lv_iload_n hx hb dX8_removeWish_16 rfl (lv_at hl 1 rfl) ?_
      refine lv_aload_n hx hb dX8_removeWish_17 rfl (lv_at hl 0 rfl) ?_
      refine hp_getR hX hR (ci := 7) 9 rfl wf8 (by decide) wq1_91 dX8_removeWish_18 h (fun q4 h => ?_)
      refine lv_iload_n hx hb dX8_removeWish_21 rfl (lv_at hl 1 rfl) ?_
      refine lv_iconst (v := 1) hx hb dX8_removeWish_22 (by decide) ?_
      refine lv_iadd hx hb dX8_removeWish_23 ?_
      refine hp_iald hX hR dX8_removeWish_24 h (fun v5 h => ?_)
      refine hp_iast hX hR dX8_removeWish_25 h (fun σ H locs h hR => ?_)
      refine lv_aload_n hx hb dX8_removeWish_26 rfl (lv_at hl 0 rfl) ?_
      refine hp_getR hX hR (ci := 7) 10 rfl wf8 (by decide) wq1_93 dX8_removeWish_27 h (fun q6 h => ?_)
      refine lv_iload_n hx hb dX8_removeWish_30 rfl (lv_at hl 1 rfl) ?_
      refine lv_aload_n hx hb dX8_removeWish_31 rfl (lv_at hl 0 rfl) ?_
      refine hp_getR hX hR (ci := 7) 10 rfl wf8 (by decide) wq1_93 dX8_removeWish_32 h (fun q7 h => ?_)
      refine lv_iload_n hx hb dX8_removeWish_35 rfl (lv_at hl 1 rfl) ?_
      refine lv_iconst (v := 1) hx hb dX8_removeWish_36 (by decide) ?_
      refine lv_iadd hx hb dX8_removeWish_37 ?_
      refine hp_iald hX hR dX8_removeWish_38 h (fun v8 h => ?_)
      refine hp_iast hX hR dX8_removeWish_39 h (fun σ H locs h hR => ?_)
      refine lv_iinc (v := (x2 + 1)) (lv' := [(2, .int (x2 + 1)), (0, .ref a0)]) hx hb dX8_removeWish_40 hl (k := 1) rfl rfl (by decide) rfl (fun ls hl => ?_)
      refine lv_goto (tgt := 2) hx hb dX8_removeWish_43 (by decide) ?_
      exact ih _ _ _ _ _ hR h (lv_sub hl [1, 0] rfl)
set_option maxHeartbeats 4000000 in
set_option maxRecDepth 100000 in
theorem c_State_removeWish {l : Launch} {G : hp_G} {b : Nat} {σ : hp_H} {a0 : Nat} {x1 : Int32} {σ' : hp_H} (h : f_State_removeWish a0 x1 σ = some σ') : hp_Met l yX8_removeWish cX8_removeWish 3 none rm_State_removeWish G b [.ref a0, .int x1] σ none σ' 0 0 := by
  refine hp_met (by decide +kernel) (Nat.le_of_ble_eq_true rfl) (fun p e s m below meth c ls hX hlocks hr hnm hl hR => ?_)
  obtain ⟨hx, hb, hml, hown, hts⟩ := id hX.1
  have hl : lv_has ls 3 [(0, .ref a0), (1, .int x1)] := hl
  unfold f_State_removeWish at h
  have h := hp_own_to h
  refine lv_iload_n hx hb dX8_removeWish_0 rfl (lv_at hl 1 rfl) ?_
  refine lv_istore_n (lv' := [(2, .int x1), (0, .ref a0), (1, .int x1)]) hx hb dX8_removeWish_1 rfl hl (by decide) rfl (fun ls hl => ?_)
  refine w_State_removeWish_l1 hX hlocks hr ?_ hp_F _ _ _ _ _ hR h (lv_sub hl [1, 0] rfl)
  intro z9 σ H locs ls hR hl h
  refine lv_aload_n hx hb dX8_removeWish_46 rfl (lv_at hl 0 rfl) ?_
  refine lv_dup hx hb dX8_removeWish_47 rfl ?_
  refine hp_getI hX hR (ci := 7) 2 rfl wf8 (by decide) wq1_73 dX8_removeWish_48 h (fun v10 h => ?_)
  refine lv_iconst (v := 1) hx hb dX8_removeWish_51 (by decide) ?_
  refine lv_isub hx hb dX8_removeWish_52 ?_
  refine hp_putI hX hR (ci := 7) 2 rfl wf8 tyX8_ok nmX8 (by decide) wq1_73 rfl dX8_removeWish_53 rfl h (fun σ H locs h hR => ?_)
  exact hp_vret hX hlocks hr hR h dX8_removeWish_56
theorem cs_X8_87 : hp_WV RX8 87 RX8 yX8_removeWish cX8_removeWish 3 none := ⟨wq3_104, wq3_41, wq3_42, wq1_2, wq3_43⟩
/-! State.removeLatestClient()V -/
abbrev rm_State_removeLatestClient : Room := { frames := 1, cells := 0, slots := 0, locals := 22 }
theorem hd_State_removeLatestClient : hp_d yX8_removeLatestClient 0 := by decide +kernel
def f_State_removeLatestClient_l1 (a0 : Nat) (K : Int32 → hp_H → Option hp_H) : Nat → Int32 → hp_H → Option hp_H
  | 0, _, _ => none
  | n + 1, x1, σ => if x1 < 0 then (K x1 σ) else ((hp_gR σ a0 7 9).bind fun q4 => (hp_aI σ q4 0 x1).bind fun v5 => (hp_gI σ a0 7 1).bind fun v6 => if v5 = v6 then ((f_State_removeWish a0 x1 σ).bind fun σ => f_State_removeLatestClient_l1 a0 K n (x1 + (-1)) σ) else (f_State_removeLatestClient_l1 a0 K n (x1 + (-1)) σ))
def f_State_removeLatestClient (a0 : Nat) (σ : hp_H) : Option hp_H := hp_own σ a0 7 ((hp_gI σ a0 7 1).bind fun v1 => (hp_pI σ a0 7 1 (v1 - 1)).bind fun σ => (hp_gI σ a0 7 2).bind fun v2 => f_State_removeLatestClient_l1 a0 (fun z9 σ => some σ) hp_F (v2 - 1) σ)
set_option maxHeartbeats 4000000 in
set_option maxRecDepth 100000 in
theorem w_State_removeLatestClient_l1 {p : Program} {l : Launch} {e : Env} {s : State} {m : MethodId} {args : Array Value} {below : List Frame} {meth : Method} {c : Code} {G : hp_G} {b : Nat} {a0 : Nat} {σ' : hp_H} {K : Int32 → hp_H → Option hp_H} (hX : hp_X G p s m c args cX8_removeLatestClient 2 RX8) (hlocks : meth.locks = false) (hr : meth.sig.returnType = none)
    (hK : ∀ (x1 : Int32) (σ : hp_H) (H : Heap) (locs : List Loc) (ls : Array Slot), hp_R G b s.heap σ H locs → lv_has ls 2 [] → K x1 σ = some σ' → W p l e rm_State_removeLatestClient s m args below meth c H locs 0 0 (MQ below (hp_Qc G b none σ') args s 0 0 (fun q => b ≤ q)) (F0 m 45 ls [])) :
    ∀ (n : Nat) (x1 : Int32) (σ : hp_H) (H : Heap) (locs : List Loc) (ls : Array Slot), hp_R G b s.heap σ H locs → f_State_removeLatestClient_l1 a0 K n x1 σ = some σ' → lv_has ls 2 [(0, .ref a0), (1, .int x1)] → W p l e rm_State_removeLatestClient s m args below meth c H locs 0 0 (MQ below (hp_Qc G b none σ') args s 0 0 (fun q => b ≤ q)) (F0 m 17 ls []) := by
  obtain ⟨hx, hb, hml, hown, hts⟩ := id hX.1
  intro n
  induction n with
  | zero =>
    intro x1 σ H locs ls hR h hl
    rw [f_State_removeLatestClient_l1] at h
    cases h
  | succ n ih =>
    intro x1 σ H locs ls hR h hl
    rw [f_State_removeLatestClient_l1] at h
    refine lv_iload_n hx hb dX8_removeLatestClient_17 rfl (lv_at hl 1 rfl) ?_
    refine lv_if_lt (tgt := 45) hx hb dX8_removeLatestClient_18 (by decide) (fun c3 => ?_) (fun c3 => ?_)
    · have h := hp_ip c3 h
      exact hK _ _ _ _ _ hR (lv_sub hl [] rfl) h
    · have h := hp_in c3 h
      refine lv_aload_n hx hb dX8_removeLatestClient_21 rfl (lv_at hl 0 rfl) ?_
      refine hp_getR hX hR (ci := 7) 9 rfl wf8 (by decide) wq1_91 dX8_removeLatestClient_22 h (fun q4 h => ?_)
      refine lv_iload_n hx hb dX8_removeLatestClient_25 rfl (lv_at hl 1 rfl) ?_
      refine hp_iald hX hR dX8_removeLatestClient_26 h (fun v5 h => ?_)
      refine lv_aload_n hx hb dX8_removeLatestClient_27 rfl (lv_at hl 0 rfl) ?_
      refine hp_getI hX hR (ci := 7) 1 rfl wf8 (by decide) wq1_71 dX8_removeLatestClient_28 h (fun v6 h => ?_)
      refine lv_icmp_ne (tgt := 39) hx hb dX8_removeLatestClient_31 (by decide) (fun c7 => ?_) (fun c7 => ?_)
      · have h := hp_in c7 h
        refine lv_iinc (v := (x1 + (-1))) (lv' := [(1, .int (x1 + (-1))), (0, .ref a0)]) hx hb dX8_removeLatestClient_39 hl (k := 1) rfl rfl (by decide) rfl (fun ls hl => ?_)
        refine lv_goto (tgt := 17) hx hb dX8_removeLatestClient_42 (by decide) ?_
        exact ih _ _ _ _ _ hR h (lv_sub hl [1, 0] rfl)
      · have h := hp_ip c7 h
        refine lv_aload_n hx hb dX8_removeLatestClient_34 rfl (lv_at hl 0 rfl) ?_
        refine lv_iload_n hx hb dX8_removeLatestClient_35 rfl (lv_at hl 1 rfl) ?_
        refine hp_bn h (fun σ h8 h => ?_)
        refine hp_cv hR (hp_runV (rest := []) (As := [.int x1]) hX hR (c_State_removeWish h8) cs_X8_87 rfl rfl rfl hd_State_removeWish ⟨Nat.le_of_ble_eq_true rfl, Nat.le_of_ble_eq_true rfl⟩ (ci := 7) rfl (hp_own_is h8) rfl hl.1 rfl (Nat.le_of_ble_eq_true rfl) dX8_removeLatestClient_36 ⟨Nat.le_of_ble_eq_true rfl, Nat.le_of_ble_eq_true rfl⟩) (fun H locs hR => ?_)
        refine lv_iinc (v := (x1 + (-1))) (lv' := [(1, .int (x1 + (-1))), (0, .ref a0)]) hx hb dX8_removeLatestClient_39 hl (k := 1) rfl rfl (by decide) rfl (fun ls hl => ?_)
        refine lv_goto (tgt := 17) hx hb dX8_removeLatestClient_42 (by decide) ?_
        exact ih _ _ _ _ _ hR h (lv_sub hl [1, 0] rfl)
set_option maxHeartbeats 4000000 in
set_option maxRecDepth 100000 in
theorem c_State_removeLatestClient {l : Launch} {G : hp_G} {b : Nat} {σ : hp_H} {a0 : Nat} {σ' : hp_H} (h : f_State_removeLatestClient a0 σ = some σ') : hp_Met l yX8_removeLatestClient cX8_removeLatestClient 2 none rm_State_removeLatestClient G b [.ref a0] σ none σ' 0 0 := by
  refine hp_met (by decide +kernel) (Nat.le_of_ble_eq_true rfl) (fun p e s m below meth c ls hX hlocks hr hnm hl hR => ?_)
  obtain ⟨hx, hb, hml, hown, hts⟩ := id hX.1
  have hl : lv_has ls 2 [(0, .ref a0)] := hl
  unfold f_State_removeLatestClient at h
  have h := hp_own_to h
  refine lv_aload_n hx hb dX8_removeLatestClient_0 rfl (lv_at hl 0 rfl) ?_
  refine lv_dup hx hb dX8_removeLatestClient_1 rfl ?_
  refine hp_getI hX hR (ci := 7) 1 rfl wf8 (by decide) wq1_71 dX8_removeLatestClient_2 h (fun v1 h => ?_)
  refine lv_iconst (v := 1) hx hb dX8_removeLatestClient_5 (by decide) ?_
  refine lv_isub hx hb dX8_removeLatestClient_6 ?_
  refine hp_putI hX hR (ci := 7) 1 rfl wf8 tyX8_ok nmX8 (by decide) wq1_71 rfl dX8_removeLatestClient_7 rfl h (fun σ H locs h hR => ?_)
  refine lv_aload_n hx hb dX8_removeLatestClient_10 rfl (lv_at hl 0 rfl) ?_
  refine hp_getI hX hR (ci := 7) 2 rfl wf8 (by decide) wq1_73 dX8_removeLatestClient_11 h (fun v2 h => ?_)
  refine lv_iconst (v := 1) hx hb dX8_removeLatestClient_14 (by decide) ?_
  refine lv_isub hx hb dX8_removeLatestClient_15 ?_
  refine lv_istore_n (lv' := [(1, .int (v2 - 1)), (0, .ref a0)]) hx hb dX8_removeLatestClient_16 rfl hl (by decide) rfl (fun ls hl => ?_)
  refine w_State_removeLatestClient_l1 hX hlocks hr ?_ hp_F _ _ _ _ _ hR h (lv_sub hl [1, 0] rfl)
  intro z9 σ H locs ls hR hl h
  exact hp_vret hX hlocks hr hR h dX8_removeLatestClient_45
/-! Integer.bitCount(I)I -/
abbrev rm_Integer_bitCount : Room := { frames := 0, cells := 0, slots := 0, locals := 0 }
theorem hd_Integer_bitCount : hp_d yJ6_bitCount_0f7a4 1 := by decide +kernel
def f_Integer_bitCount (x0 : Int32) : Option Int32 := some ((((((((x0 - ((((x0).toUInt32 >>> ((1 : Int32).toUInt32 &&& Int32.toUInt32 31)).toInt32) &&& 1431655765)) &&& 858993459) + (((((x0 - ((((x0).toUInt32 >>> ((1 : Int32).toUInt32 &&& Int32.toUInt32 31)).toInt32) &&& 1431655765))).toUInt32 >>> ((2 : Int32).toUInt32 &&& Int32.toUInt32 31)).toInt32) &&& 858993459)) + ((((((x0 - ((((x0).toUInt32 >>> ((1 : Int32).toUInt32 &&& Int32.toUInt32 31)).toInt32) &&& 1431655765)) &&& 858993459) + (((((x0 - ((((x0).toUInt32 >>> ((1 : Int32).toUInt32 &&& Int32.toUInt32 31)).toInt32) &&& 1431655765))).toUInt32 >>> ((2 : Int32).toUInt32 &&& Int32.toUInt32 31)).toInt32) &&& 858993459))).toUInt32 >>> ((4 : Int32).toUInt32 &&& Int32.toUInt32 31)).toInt32)) &&& 252645135) + ((((((((x0 - ((((x0).toUInt32 >>> ((1 : Int32).toUInt32 &&& Int32.toUInt32 31)).toInt32) &&& 1431655765)) &&& 858993459) + (((((x0 - ((((x0).toUInt32 >>> ((1 : Int32).toUInt32 &&& Int32.toUInt32 31)).toInt32) &&& 1431655765))).toUInt32 >>> ((2 : Int32).toUInt32 &&& Int32.toUInt32 31)).toInt32) &&& 858993459)) + ((((((x0 - ((((x0).toUInt32 >>> ((1 : Int32).toUInt32 &&& Int32.toUInt32 31)).toInt32) &&& 1431655765)) &&& 858993459) + (((((x0 - ((((x0).toUInt32 >>> ((1 : Int32).toUInt32 &&& Int32.toUInt32 31)).toInt32) &&& 1431655765))).toUInt32 >>> ((2 : Int32).toUInt32 &&& Int32.toUInt32 31)).toInt32) &&& 858993459))).toUInt32 >>> ((4 : Int32).toUInt32 &&& Int32.toUInt32 31)).toInt32)) &&& 252645135)).toUInt32 >>> ((8 : Int32).toUInt32 &&& Int32.toUInt32 31)).toInt32)) + (((((((((x0 - ((((x0).toUInt32 >>> ((1 : Int32).toUInt32 &&& Int32.toUInt32 31)).toInt32) &&& 1431655765)) &&& 858993459) + (((((x0 - ((((x0).toUInt32 >>> ((1 : Int32).toUInt32 &&& Int32.toUInt32 31)).toInt32) &&& 1431655765))).toUInt32 >>> ((2 : Int32).toUInt32 &&& Int32.toUInt32 31)).toInt32) &&& 858993459)) + ((((((x0 - ((((x0).toUInt32 >>> ((1 : Int32).toUInt32 &&& Int32.toUInt32 31)).toInt32) &&& 1431655765)) &&& 858993459) + (((((x0 - ((((x0).toUInt32 >>> ((1 : Int32).toUInt32 &&& Int32.toUInt32 31)).toInt32) &&& 1431655765))).toUInt32 >>> ((2 : Int32).toUInt32 &&& Int32.toUInt32 31)).toInt32) &&& 858993459))).toUInt32 >>> ((4 : Int32).toUInt32 &&& Int32.toUInt32 31)).toInt32)) &&& 252645135) + ((((((((x0 - ((((x0).toUInt32 >>> ((1 : Int32).toUInt32 &&& Int32.toUInt32 31)).toInt32) &&& 1431655765)) &&& 858993459) + (((((x0 - ((((x0).toUInt32 >>> ((1 : Int32).toUInt32 &&& Int32.toUInt32 31)).toInt32) &&& 1431655765))).toUInt32 >>> ((2 : Int32).toUInt32 &&& Int32.toUInt32 31)).toInt32) &&& 858993459)) + ((((((x0 - ((((x0).toUInt32 >>> ((1 : Int32).toUInt32 &&& Int32.toUInt32 31)).toInt32) &&& 1431655765)) &&& 858993459) + (((((x0 - ((((x0).toUInt32 >>> ((1 : Int32).toUInt32 &&& Int32.toUInt32 31)).toInt32) &&& 1431655765))).toUInt32 >>> ((2 : Int32).toUInt32 &&& Int32.toUInt32 31)).toInt32) &&& 858993459))).toUInt32 >>> ((4 : Int32).toUInt32 &&& Int32.toUInt32 31)).toInt32)) &&& 252645135)).toUInt32 >>> ((8 : Int32).toUInt32 &&& Int32.toUInt32 31)).toInt32))).toUInt32 >>> ((16 : Int32).toUInt32 &&& Int32.toUInt32 31)).toInt32)) &&& 63)
set_option maxHeartbeats 4000000 in
set_option maxRecDepth 100000 in
theorem c_Integer_bitCount {l : Launch} {G : hp_G} {b : Nat} {σ : hp_H} {x0 : Int32} {r : Int32} (h : f_Integer_bitCount x0 = some r) : hp_Met l yJ6_bitCount_0f7a4 cJ6_bitCount_0f7a4 1 (some .int) rm_Integer_bitCount G b [.int x0] σ (some (.int r)) σ 0 0 := by
  refine hp_metF (by decide +kernel) (Nat.le_of_ble_eq_true rfl) (fun p e s m below meth c ls hX hlocks hr hnm hl hR => ?_)
  obtain ⟨hx, hb, hml, hown, hts⟩ := id hX.1
  have hl : lv_has ls 1 [(0, .int x0)] := hl
  unfold f_Integer_bitCount at h
  refine lv_iload_n hx hb dJ6_bitCount_0f7a4_0 rfl (lv_at hl 0 rfl) ?_
  refine lv_iload_n hx hb dJ6_bitCount_0f7a4_1 rfl (lv_at hl 0 rfl) ?_
  refine lv_iconst (v := 1) hx hb dJ6_bitCount_0f7a4_2 (by decide) ?_
  refine lv_iushr (v := (((x0).toUInt32 >>> ((1 : Int32).toUInt32 &&& Int32.toUInt32 31)).toInt32)) hx hb dJ6_bitCount_0f7a4_3 rfl ?_
  refine lv_ldcw (v := 1431655765) hx hb hown (hts _ wq3_79) dJ6_bitCount_0f7a4_4 ?_
  refine lv_iand hx hb dJ6_bitCount_0f7a4_7 ?_
  refine lv_isub hx hb dJ6_bitCount_0f7a4_8 ?_
  refine lv_istore_n (lv' := [(0, .int (x0 - ((((x0).toUInt32 >>> ((1 : Int32).toUInt32 &&& Int32.toUInt32 31)).toInt32) &&& 1431655765)))]) hx hb dJ6_bitCount_0f7a4_9 rfl hl (by decide) rfl (fun ls hl => ?_)
  refine lv_iload_n hx hb dJ6_bitCount_0f7a4_10 rfl (lv_at hl 0 rfl) ?_
  refine lv_ldcw (v := 858993459) hx hb hown (hts _ wq3_80) dJ6_bitCount_0f7a4_11 ?_
  refine lv_iand hx hb dJ6_bitCount_0f7a4_14 ?_
  refine lv_iload_n hx hb dJ6_bitCount_0f7a4_15 rfl (lv_at hl 0 rfl) ?_
  refine lv_iconst (v := 2) hx hb dJ6_bitCount_0f7a4_16 (by decide) ?_
  refine lv_iushr (v := ((((x0 - ((((x0).toUInt32 >>> ((1 : Int32).toUInt32 &&& Int32.toUInt32 31)).toInt32) &&& 1431655765))).toUInt32 >>> ((2 : Int32).toUInt32 &&& Int32.toUInt32 31)).toInt32)) hx hb dJ6_bitCount_0f7a4_17 rfl ?_
  refine lv_ldcw (v := 858993459) hx hb hown (hts _ wq3_80) dJ6_bitCount_0f7a4_18 ?_
  refine lv_iand hx hb dJ6_bitCount_0f7a4_21 ?_
  refine lv_iadd hx hb dJ6_bitCount_0f7a4_22 ?_
  refine lv_istore_n (lv' := [(0, .int (((x0 - ((((x0).toUInt32 >>> ((1 : Int32).toUInt32 &&& Int32.toUInt32 31)).toInt32) &&& 1431655765)) &&& 858993459) + (((((x0 - ((((x0).toUInt32 >>> ((1 : Int32).toUInt32 &&& Int32.toUInt32 31)).toInt32) &&& 1431655765))).toUInt32 >>> ((2 : Int32).toUInt32 &&& Int32.toUInt32 31)).toInt32) &&& 858993459)))]) hx hb dJ6_bitCount_0f7a4_23 rfl hl (by decide) rfl (fun ls hl => ?_)
  refine lv_iload_n hx hb dJ6_bitCount_0f7a4_24 rfl (lv_at hl 0 rfl) ?_
  refine lv_iload_n hx hb dJ6_bitCount_0f7a4_25 rfl (lv_at hl 0 rfl) ?_
  refine lv_iconst (v := 4) hx hb dJ6_bitCount_0f7a4_26 (by decide) ?_
  refine lv_iushr (v := ((((((x0 - ((((x0).toUInt32 >>> ((1 : Int32).toUInt32 &&& Int32.toUInt32 31)).toInt32) &&& 1431655765)) &&& 858993459) + (((((x0 - ((((x0).toUInt32 >>> ((1 : Int32).toUInt32 &&& Int32.toUInt32 31)).toInt32) &&& 1431655765))).toUInt32 >>> ((2 : Int32).toUInt32 &&& Int32.toUInt32 31)).toInt32) &&& 858993459))).toUInt32 >>> ((4 : Int32).toUInt32 &&& Int32.toUInt32 31)).toInt32)) hx hb dJ6_bitCount_0f7a4_27 rfl ?_
  refine lv_iadd hx hb dJ6_bitCount_0f7a4_28 ?_
  refine lv_ldcw (v := 252645135) hx hb hown (hts _ wq3_81) dJ6_bitCount_0f7a4_29 ?_
  refine lv_iand hx hb dJ6_bitCount_0f7a4_32 ?_
  refine lv_istore_n (lv' := [(0, .int (((((x0 - ((((x0).toUInt32 >>> ((1 : Int32).toUInt32 &&& Int32.toUInt32 31)).toInt32) &&& 1431655765)) &&& 858993459) + (((((x0 - ((((x0).toUInt32 >>> ((1 : Int32).toUInt32 &&& Int32.toUInt32 31)).toInt32) &&& 1431655765))).toUInt32 >>> ((2 : Int32).toUInt32 &&& Int32.toUInt32 31)).toInt32) &&& 858993459)) + ((((((x0 - ((((x0).toUInt32 >>> ((1 : Int32).toUInt32 &&& Int32.toUInt32 31)).toInt32) &&& 1431655765)) &&& 858993459) + (((((x0 - ((((x0).toUInt32 >>> ((1 : Int32).toUInt32 &&& Int32.toUInt32 31)).toInt32) &&& 1431655765))).toUInt32 >>> ((2 : Int32).toUInt32 &&& Int32.toUInt32 31)).toInt32) &&& 858993459))).toUInt32 >>> ((4 : Int32).toUInt32 &&& Int32.toUInt32 31)).toInt32)) &&& 252645135))]) hx hb dJ6_bitCount_0f7a4_33 rfl hl (by decide) rfl (fun ls hl => ?_)
  refine lv_iload_n hx hb dJ6_bitCount_0f7a4_34 rfl (lv_at hl 0 rfl) ?_
  refine lv_iload_n hx hb dJ6_bitCount_0f7a4_35 rfl (lv_at hl 0 rfl) ?_
  refine lv_bipush (v := 8) hx hb dJ6_bitCount_0f7a4_36 (by decide) ?_
  refine lv_iushr (v := ((((((((x0 - ((((x0).toUInt32 >>> ((1 : Int32).toUInt32 &&& Int32.toUInt32 31)).toInt32) &&& 1431655765)) &&& 858993459) + (((((x0 - ((((x0).toUInt32 >>> ((1 : Int32).toUInt32 &&& Int32.toUInt32 31)).toInt32) &&& 1431655765))).toUInt32 >>> ((2 : Int32).toUInt32 &&& Int32.toUInt32 31)).toInt32) &&& 858993459)) + ((((((x0 - ((((x0).toUInt32 >>> ((1 : Int32).toUInt32 &&& Int32.toUInt32 31)).toInt32) &&& 1431655765)) &&& 858993459) + (((((x0 - ((((x0).toUInt32 >>> ((1 : Int32).toUInt32 &&& Int32.toUInt32 31)).toInt32) &&& 1431655765))).toUInt32 >>> ((2 : Int32).toUInt32 &&& Int32.toUInt32 31)).toInt32) &&& 858993459))).toUInt32 >>> ((4 : Int32).toUInt32 &&& Int32.toUInt32 31)).toInt32)) &&& 252645135)).toUInt32 >>> ((8 : Int32).toUInt32 &&& Int32.toUInt32 31)).toInt32)) hx hb dJ6_bitCount_0f7a4_38 rfl ?_
  refine lv_iadd hx hb dJ6_bitCount_0f7a4_39 ?_
  refine lv_istore_n (lv' := [(0, .int ((((((x0 - ((((x0).toUInt32 >>> ((1 : Int32).toUInt32 &&& Int32.toUInt32 31)).toInt32) &&& 1431655765)) &&& 858993459) + (((((x0 - ((((x0).toUInt32 >>> ((1 : Int32).toUInt32 &&& Int32.toUInt32 31)).toInt32) &&& 1431655765))).toUInt32 >>> ((2 : Int32).toUInt32 &&& Int32.toUInt32 31)).toInt32) &&& 858993459)) + ((((((x0 - ((((x0).toUInt32 >>> ((1 : Int32).toUInt32 &&& Int32.toUInt32 31)).toInt32) &&& 1431655765)) &&& 858993459) + (((((x0 - ((((x0).toUInt32 >>> ((1 : Int32).toUInt32 &&& Int32.toUInt32 31)).toInt32) &&& 1431655765))).toUInt32 >>> ((2 : Int32).toUInt32 &&& Int32.toUInt32 31)).toInt32) &&& 858993459))).toUInt32 >>> ((4 : Int32).toUInt32 &&& Int32.toUInt32 31)).toInt32)) &&& 252645135) + ((((((((x0 - ((((x0).toUInt32 >>> ((1 : Int32).toUInt32 &&& Int32.toUInt32 31)).toInt32) &&& 1431655765)) &&& 858993459) + (((((x0 - ((((x0).toUInt32 >>> ((1 : Int32).toUInt32 &&& Int32.toUInt32 31)).toInt32) &&& 1431655765))).toUInt32 >>> ((2 : Int32).toUInt32 &&& Int32.toUInt32 31)).toInt32) &&& 858993459)) + ((((((x0 - ((((x0).toUInt32 >>> ((1 : Int32).toUInt32 &&& Int32.toUInt32 31)).toInt32) &&& 1431655765)) &&& 858993459) + (((((x0 - ((((x0).toUInt32 >>> ((1 : Int32).toUInt32 &&& Int32.toUInt32 31)).toInt32) &&& 1431655765))).toUInt32 >>> ((2 : Int32).toUInt32 &&& Int32.toUInt32 31)).toInt32) &&& 858993459))).toUInt32 >>> ((4 : Int32).toUInt32 &&& Int32.toUInt32 31)).toInt32)) &&& 252645135)).toUInt32 >>> ((8 : Int32).toUInt32 &&& Int32.toUInt32 31)).toInt32)))]) hx hb dJ6_bitCount_0f7a4_40 rfl hl (by decide) rfl (fun ls hl => ?_)
  refine lv_iload_n hx hb dJ6_bitCount_0f7a4_41 rfl (lv_at hl 0 rfl) ?_
  refine lv_iload_n hx hb dJ6_bitCount_0f7a4_42 rfl (lv_at hl 0 rfl) ?_
  refine lv_bipush (v := 16) hx hb dJ6_bitCount_0f7a4_43 (by decide) ?_
  refine lv_iushr (v := (((((((((x0 - ((((x0).toUInt32 >>> ((1 : Int32).toUInt32 &&& Int32.toUInt32 31)).toInt32) &&& 1431655765)) &&& 858993459) + (((((x0 - ((((x0).toUInt32 >>> ((1 : Int32).toUInt32 &&& Int32.toUInt32 31)).toInt32) &&& 1431655765))).toUInt32 >>> ((2 : Int32).toUInt32 &&& Int32.toUInt32 31)).toInt32) &&& 858993459)) + ((((((x0 - ((((x0).toUInt32 >>> ((1 : Int32).toUInt32 &&& Int32.toUInt32 31)).toInt32) &&& 1431655765)) &&& 858993459) + (((((x0 - ((((x0).toUInt32 >>> ((1 : Int32).toUInt32 &&& Int32.toUInt32 31)).toInt32) &&& 1431655765))).toUInt32 >>> ((2 : Int32).toUInt32 &&& Int32.toUInt32 31)).toInt32) &&& 858993459))).toUInt32 >>> ((4 : Int32).toUInt32 &&& Int32.toUInt32 31)).toInt32)) &&& 252645135) + ((((((((x0 - ((((x0).toUInt32 >>> ((1 : Int32).toUInt32 &&& Int32.toUInt32 31)).toInt32) &&& 1431655765)) &&& 858993459) + (((((x0 - ((((x0).toUInt32 >>> ((1 : Int32).toUInt32 &&& Int32.toUInt32 31)).toInt32) &&& 1431655765))).toUInt32 >>> ((2 : Int32).toUInt32 &&& Int32.toUInt32 31)).toInt32) &&& 858993459)) + ((((((x0 - ((((x0).toUInt32 >>> ((1 : Int32).toUInt32 &&& Int32.toUInt32 31)).toInt32) &&& 1431655765)) &&& 858993459) + (((((x0 - ((((x0).toUInt32 >>> ((1 : Int32).toUInt32 &&& Int32.toUInt32 31)).toInt32) &&& 1431655765))).toUInt32 >>> ((2 : Int32).toUInt32 &&& Int32.toUInt32 31)).toInt32) &&& 858993459))).toUInt32 >>> ((4 : Int32).toUInt32 &&& Int32.toUInt32 31)).toInt32)) &&& 252645135)).toUInt32 >>> ((8 : Int32).toUInt32 &&& Int32.toUInt32 31)).toInt32))).toUInt32 >>> ((16 : Int32).toUInt32 &&& Int32.toUInt32 31)).toInt32)) hx hb dJ6_bitCount_0f7a4_45 rfl ?_
  refine lv_iadd hx hb dJ6_bitCount_0f7a4_46 ?_
  refine lv_istore_n (lv' := [(0, .int (((((((x0 - ((((x0).toUInt32 >>> ((1 : Int32).toUInt32 &&& Int32.toUInt32 31)).toInt32) &&& 1431655765)) &&& 858993459) + (((((x0 - ((((x0).toUInt32 >>> ((1 : Int32).toUInt32 &&& Int32.toUInt32 31)).toInt32) &&& 1431655765))).toUInt32 >>> ((2 : Int32).toUInt32 &&& Int32.toUInt32 31)).toInt32) &&& 858993459)) + ((((((x0 - ((((x0).toUInt32 >>> ((1 : Int32).toUInt32 &&& Int32.toUInt32 31)).toInt32) &&& 1431655765)) &&& 858993459) + (((((x0 - ((((x0).toUInt32 >>> ((1 : Int32).toUInt32 &&& Int32.toUInt32 31)).toInt32) &&& 1431655765))).toUInt32 >>> ((2 : Int32).toUInt32 &&& Int32.toUInt32 31)).toInt32) &&& 858993459))).toUInt32 >>> ((4 : Int32).toUInt32 &&& Int32.toUInt32 31)).toInt32)) &&& 252645135) + ((((((((x0 - ((((x0).toUInt32 >>> ((1 : Int32).toUInt32 &&& Int32.toUInt32 31)).toInt32) &&& 1431655765)) &&& 858993459) + (((((x0 - ((((x0).toUInt32 >>> ((1 : Int32).toUInt32 &&& Int32.toUInt32 31)).toInt32) &&& 1431655765))).toUInt32 >>> ((2 : Int32).toUInt32 &&& Int32.toUInt32 31)).toInt32) &&& 858993459)) + ((((((x0 - ((((x0).toUInt32 >>> ((1 : Int32).toUInt32 &&& Int32.toUInt32 31)).toInt32) &&& 1431655765)) &&& 858993459) + (((((x0 - ((((x0).toUInt32 >>> ((1 : Int32).toUInt32 &&& Int32.toUInt32 31)).toInt32) &&& 1431655765))).toUInt32 >>> ((2 : Int32).toUInt32 &&& Int32.toUInt32 31)).toInt32) &&& 858993459))).toUInt32 >>> ((4 : Int32).toUInt32 &&& Int32.toUInt32 31)).toInt32)) &&& 252645135)).toUInt32 >>> ((8 : Int32).toUInt32 &&& Int32.toUInt32 31)).toInt32)) + (((((((((x0 - ((((x0).toUInt32 >>> ((1 : Int32).toUInt32 &&& Int32.toUInt32 31)).toInt32) &&& 1431655765)) &&& 858993459) + (((((x0 - ((((x0).toUInt32 >>> ((1 : Int32).toUInt32 &&& Int32.toUInt32 31)).toInt32) &&& 1431655765))).toUInt32 >>> ((2 : Int32).toUInt32 &&& Int32.toUInt32 31)).toInt32) &&& 858993459)) + ((((((x0 - ((((x0).toUInt32 >>> ((1 : Int32).toUInt32 &&& Int32.toUInt32 31)).toInt32) &&& 1431655765)) &&& 858993459) + (((((x0 - ((((x0).toUInt32 >>> ((1 : Int32).toUInt32 &&& Int32.toUInt32 31)).toInt32) &&& 1431655765))).toUInt32 >>> ((2 : Int32).toUInt32 &&& Int32.toUInt32 31)).toInt32) &&& 858993459))).toUInt32 >>> ((4 : Int32).toUInt32 &&& Int32.toUInt32 31)).toInt32)) &&& 252645135) + ((((((((x0 - ((((x0).toUInt32 >>> ((1 : Int32).toUInt32 &&& Int32.toUInt32 31)).toInt32) &&& 1431655765)) &&& 858993459) + (((((x0 - ((((x0).toUInt32 >>> ((1 : Int32).toUInt32 &&& Int32.toUInt32 31)).toInt32) &&& 1431655765))).toUInt32 >>> ((2 : Int32).toUInt32 &&& Int32.toUInt32 31)).toInt32) &&& 858993459)) + ((((((x0 - ((((x0).toUInt32 >>> ((1 : Int32).toUInt32 &&& Int32.toUInt32 31)).toInt32) &&& 1431655765)) &&& 858993459) + (((((x0 - ((((x0).toUInt32 >>> ((1 : Int32).toUInt32 &&& Int32.toUInt32 31)).toInt32) &&& 1431655765))).toUInt32 >>> ((2 : Int32).toUInt32 &&& Int32.toUInt32 31)).toInt32) &&& 858993459))).toUInt32 >>> ((4 : Int32).toUInt32 &&& Int32.toUInt32 31)).toInt32)) &&& 252645135)).toUInt32 >>> ((8 : Int32).toUInt32 &&& Int32.toUInt32 31)).toInt32))).toUInt32 >>> ((16 : Int32).toUInt32 &&& Int32.toUInt32 31)).toInt32)))]) hx hb dJ6_bitCount_0f7a4_47 rfl hl (by decide) rfl (fun ls hl => ?_)
  refine lv_iload_n hx hb dJ6_bitCount_0f7a4_48 rfl (lv_at hl 0 rfl) ?_
  refine lv_bipush (v := 63) hx hb dJ6_bitCount_0f7a4_49 (by decide) ?_
  refine lv_iand hx hb dJ6_bitCount_0f7a4_51 ?_
  exact hp_iretP hX hlocks hr hR h dJ6_bitCount_0f7a4_52
theorem cs_X8_95 : hp_WV RX8 95 RX3 yX3_receive cX3_receive 2 none := ⟨wq3_60, wq3_61, wq3_62, wq1_3, wq3_63⟩
theorem cs_X8_104 : hp_WS RX8 104 yJ6_bitCount_0f7a4 cJ6_bitCount_0f7a4 1 (some .int) := ⟨wq3_76, wq3_77, wq1_15, wq3_78⟩
/-! State.hand(LNoticeBoxes$Journey;)V -/
abbrev rm_State_hand : Room := { frames := 3, cells := 0, slots := 0, locals := 63 }
theorem hd_State_hand : hp_d yX8_hand 1 := by decide +kernel
def f_State_hand_l1 (a0 : Nat) (a1 : Nat) (K : Int32 → hp_H → Option hp_H) : Nat → Int32 → hp_H → Option hp_H
  | 0, _, _ => none
  | n + 1, x2, σ => (hp_gI σ a0 7 1).bind fun v1 => if v1 ≤ x2 then (K x2 σ) else ((hp_gI σ a1 5 2).bind fun v3 => (f_NB_holds v3 x2).bind fun v5 => if v5 = 0 then (f_State_hand_l1 a0 a1 K n (x2 + 1) σ) else ((hp_gR σ a0 7 8).bind fun q7 => (hp_aR σ q7 3 x2).bind fun q8 => (hp_gI σ a0 7 4).bind fun v9 => (f_Client_receive q8 v9 σ).bind fun σ => f_State_hand_l1 a0 a1 K n (x2 + 1) σ))
def f_State_hand (a0 : Nat) (a1 : Nat) (σ : hp_H) : Option hp_H := hp_own σ a0 7 (f_State_hand_l1 a0 a1 (fun z11 σ => (hp_gI σ a0 7 4).bind fun v12 => (hp_pI σ a0 7 4 (v12 + 1)).bind fun σ => (hp_gI σ a0 7 5).bind fun v13 => (hp_gI σ a1 5 4).bind fun v14 => (hp_pI σ a0 7 5 (v13 + v14)).bind fun σ => (hp_gI σ a0 7 6).bind fun v15 => (hp_gI σ a1 5 3).bind fun v16 => (f_Integer_bitCount v16).bind fun v18 => (hp_pI σ a0 7 6 (v15 + v18)).bind fun σ => some σ) hp_F 0 σ)
set_option maxHeartbeats 4000000 in
set_option maxRecDepth 100000 in
theorem w_State_hand_l1 {p : Program} {l : Launch} {e : Env} {s : State} {m : MethodId} {args : Array Value} {below : List Frame} {meth : Method} {c : Code} {G : hp_G} {b : Nat} {a0 : Nat} {a1 : Nat} {σ' : hp_H} {K : Int32 → hp_H → Option hp_H} (hX : hp_X G p s m c args cX8_hand 3 RX8) (hlocks : meth.locks = false) (hr : meth.sig.returnType = none)
    (hK : ∀ (x2 : Int32) (σ : hp_H) (H : Heap) (locs : List Loc) (ls : Array Slot), hp_R G b s.heap σ H locs → lv_has ls 3 [(0, .ref a0), (1, .ref a1)] → K x2 σ = some σ' → W p l e rm_State_hand s m args below meth c H locs 0 0 (MQ below (hp_Qc G b none σ') args s 0 0 (fun q => b ≤ q)) (F0 m 40 ls [])) :
    ∀ (n : Nat) (x2 : Int32) (σ : hp_H) (H : Heap) (locs : List Loc) (ls : Array Slot), hp_R G b s.heap σ H locs → f_State_hand_l1 a0 a1 K n x2 σ = some σ' → lv_has ls 3 [(0, .ref a0), (1, .ref a1), (2, .int x2)] → W p l e rm_State_hand s m args below meth c H locs 0 0 (MQ below (hp_Qc G b none σ') args s 0 0 (fun q => b ≤ q)) (F0 m 2 ls []) := by
  obtain ⟨hx, hb, hml, hown, hts⟩ := id hX.1
  intro n
  induction n with
  | zero =>
    intro x2 σ H locs ls hR h hl
    rw [f_State_hand_l1] at h
    cases h
  | succ n ih =>
    intro x2 σ H locs ls hR h hl
    rw [f_State_hand_l1] at h
    refine lv_iload_n hx hb dX8_hand_2 rfl (lv_at hl 2 rfl) ?_
    refine lv_aload_n hx hb dX8_hand_3 rfl (lv_at hl 0 rfl) ?_
    refine hp_getI hX hR (ci := 7) 1 rfl wf8 (by decide) wq1_71 dX8_hand_4 h (fun v1 h => ?_)
    refine lv_icmp_ge (tgt := 40) hx hb dX8_hand_7 (by decide) (fun c2 => ?_) (fun c2 => ?_)
    · have h := hp_ip c2 h
      exact hK _ _ _ _ _ hR (lv_sub hl [0, 1] rfl) h
    · have h := hp_in c2 h
      refine lv_aload_n hx hb dX8_hand_10 rfl (lv_at hl 1 rfl) ?_
      refine hp_getI hX hR (ci := 5) 2 rfl wf6 (by decide) wq1_164 dX8_hand_11 h (fun v3 h => ?_)
      refine lv_iload_n hx hb dX8_hand_14 rfl (lv_at hl 2 rfl) ?_
      refine hp_bn h (fun v5 h4 h => ?_)
      refine hp_ci hR (hp_runSN (rest := []) (As := [.int v3, .int x2]) hX hR (c_NB_holds h4) cs_X8_75 rfl rfl hd_NB_holds ⟨Nat.le_of_ble_eq_true rfl, Nat.le_of_ble_eq_true rfl⟩ rfl hl.1 rfl (Nat.le_of_ble_eq_true rfl) dX8_hand_15 ⟨Nat.le_of_ble_eq_true rfl, Nat.le_of_ble_eq_true rfl⟩) (fun H locs hR => ?_)
      refine lv_if_eq (tgt := 34) hx hb dX8_hand_18 (by decide) (fun c6 => ?_) (fun c6 => ?_)
      · have h := hp_ip c6 h
        refine lv_iinc (v := (x2 + 1)) (lv' := [(2, .int (x2 + 1)), (0, .ref a0), (1, .ref a1)]) hx hb dX8_hand_34 hl (k := 2) rfl rfl (by decide) rfl (fun ls hl => ?_)
        refine lv_goto (tgt := 2) hx hb dX8_hand_37 (by decide) ?_
        exact ih _ _ _ _ _ hR h (lv_sub hl [1, 2, 0] rfl)
      · have h := hp_in c6 h
        refine lv_aload_n hx hb dX8_hand_21 rfl (lv_at hl 0 rfl) ?_
        refine hp_getR hX hR (ci := 7) 8 rfl wf8 (by decide) wq1_88 dX8_hand_22 h (fun q7 h => ?_)
        refine lv_iload_n hx hb dX8_hand_25 rfl (lv_at hl 2 rfl) ?_
        refine hp_aald hX hR 3 rfl dX8_hand_26 h (fun q8 h => ?_)
        refine lv_aload_n hx hb dX8_hand_27 rfl (lv_at hl 0 rfl) ?_
        refine hp_getI hX hR (ci := 7) 4 rfl wf8 (by decide) wq1_79 dX8_hand_28 h (fun v9 h => ?_)
        refine hp_bn h (fun σ h10 h => ?_)
        refine hp_cv hR (hp_runV (rest := []) (As := [.int v9]) hX hR (c_Client_receive h10) cs_X8_95 rfl rfl rfl hd_Client_receive ⟨Nat.le_of_ble_eq_true rfl, Nat.le_of_ble_eq_true rfl⟩ (ci := 2) rfl (hp_own_is h10) rfl hl.1 rfl (Nat.le_of_ble_eq_true rfl) dX8_hand_31 ⟨Nat.le_of_ble_eq_true rfl, Nat.le_of_ble_eq_true rfl⟩) (fun H locs hR => ?_)
        refine lv_iinc (v := (x2 + 1)) (lv' := [(2, .int (x2 + 1)), (0, .ref a0), (1, .ref a1)]) hx hb dX8_hand_34 hl (k := 2) rfl rfl (by decide) rfl (fun ls hl => ?_)
        refine lv_goto (tgt := 2) hx hb dX8_hand_37 (by decide) ?_
        exact ih _ _ _ _ _ hR h (lv_sub hl [1, 2, 0] rfl)
set_option maxHeartbeats 4000000 in
set_option maxRecDepth 100000 in
theorem c_State_hand {l : Launch} {G : hp_G} {b : Nat} {σ : hp_H} {a0 : Nat} {a1 : Nat} {σ' : hp_H} (h : f_State_hand a0 a1 σ = some σ') : hp_Met l yX8_hand cX8_hand 3 none rm_State_hand G b [.ref a0, .ref a1] σ none σ' 0 0 := by
  refine hp_met (by decide +kernel) (Nat.le_of_ble_eq_true rfl) (fun p e s m below meth c ls hX hlocks hr hnm hl hR => ?_)
  obtain ⟨hx, hb, hml, hown, hts⟩ := id hX.1
  have hl : lv_has ls 3 [(0, .ref a0), (1, .ref a1)] := hl
  unfold f_State_hand at h
  have h := hp_own_to h
  refine lv_iconst (v := 0) hx hb dX8_hand_0 (by decide) ?_
  refine lv_istore_n (lv' := [(2, .int 0), (0, .ref a0), (1, .ref a1)]) hx hb dX8_hand_1 rfl hl (by decide) rfl (fun ls hl => ?_)
  refine w_State_hand_l1 hX hlocks hr ?_ hp_F _ _ _ _ _ hR h (lv_sub hl [1, 2, 0] rfl)
  intro z11 σ H locs ls hR hl h
  refine lv_aload_n hx hb dX8_hand_40 rfl (lv_at hl 0 rfl) ?_
  refine lv_dup hx hb dX8_hand_41 rfl ?_
  refine hp_getI hX hR (ci := 7) 4 rfl wf8 (by decide) wq1_79 dX8_hand_42 h (fun v12 h => ?_)
  refine lv_iconst (v := 1) hx hb dX8_hand_45 (by decide) ?_
  refine lv_iadd hx hb dX8_hand_46 ?_
  refine hp_putI hX hR (ci := 7) 4 rfl wf8 tyX8_ok nmX8 (by decide) wq1_79 rfl dX8_hand_47 rfl h (fun σ H locs h hR => ?_)
  refine lv_aload_n hx hb dX8_hand_50 rfl (lv_at hl 0 rfl) ?_
  refine lv_dup hx hb dX8_hand_51 rfl ?_
  refine hp_getI hX hR (ci := 7) 5 rfl wf8 (by decide) wq1_81 dX8_hand_52 h (fun v13 h => ?_)
  refine lv_aload_n hx hb dX8_hand_55 rfl (lv_at hl 1 rfl) ?_
  refine hp_getI hX hR (ci := 5) 4 rfl wf6 (by decide) wq1_170 dX8_hand_56 h (fun v14 h => ?_)
  refine lv_iadd hx hb dX8_hand_59 ?_
  refine hp_putI hX hR (ci := 7) 5 rfl wf8 tyX8_ok nmX8 (by decide) wq1_81 rfl dX8_hand_60 rfl h (fun σ H locs h hR => ?_)
  refine lv_aload_n hx hb dX8_hand_63 rfl (lv_at hl 0 rfl) ?_
  refine lv_dup hx hb dX8_hand_64 rfl ?_
  refine hp_getI hX hR (ci := 7) 6 rfl wf8 (by decide) wq1_83 dX8_hand_65 h (fun v15 h => ?_)
  refine lv_aload_n hx hb dX8_hand_68 rfl (lv_at hl 1 rfl) ?_
  refine hp_getI hX hR (ci := 5) 3 rfl wf6 (by decide) wq1_167 dX8_hand_69 h (fun v16 h => ?_)
  refine hp_bn h (fun v18 h17 h => ?_)
  refine hp_ci hR (hp_runS (rest := [.int v15, .ref a0]) (As := [.int v16]) hX hR (c_Integer_bitCount h17) cs_X8_104 rfl rfl hd_Integer_bitCount ⟨Nat.le_of_ble_eq_true rfl, Nat.le_of_ble_eq_true rfl⟩ rfl hl.1 rfl (Nat.le_of_ble_eq_true rfl) dX8_hand_72 ⟨Nat.le_of_ble_eq_true rfl, Nat.le_of_ble_eq_true rfl⟩) (fun H locs hR => ?_)
  refine lv_iadd hx hb dX8_hand_75 ?_
  refine hp_putI hX hR (ci := 7) 6 rfl wf8 tyX8_ok nmX8 (by decide) wq1_83 rfl dX8_hand_76 rfl h (fun σ H locs h hR => ?_)
  exact hp_vret hX hlocks hr hR h dX8_hand_79
