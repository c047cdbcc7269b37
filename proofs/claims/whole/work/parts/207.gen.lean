/-! Mo.isWished(IIII)Z -/
abbrev rm_Mo_isWished : Room := { frames := 2, cells := 0, slots := 0, locals := 46 }
theorem hd_Mo_isWished : hp_d yX11_isWished 4 := by decide +kernel
def f_Mo_isWished_l1 (a0 : Nat) (x1 : Int32) (x2 : Int32) (x3 : Int32) (x4 : Int32) (σ : hp_H) (K : Int32 → Int32 → Option Int32) : Nat → Int32 → Int32 → Option Int32
  | 0, _, _ => none
  | n + 1, x5, x6 => (hp_gR σ a0 10 0).bind fun q1 => (hp_aI σ q1 0 2).bind fun v2 => if v2 ≤ x6 then (K x5 x6) else (if x5 = 0 then ((f_Mo_wish a0 x6 0 σ).bind fun v6 => if v6 = x1 then ((hp_gR σ a0 10 0).bind fun q8 => (f_Mo_fits q8 (((170 : Int32) + ((7 : Int32) * x6)) + 1) x2 x3 x4 σ).bind fun v10 => if v10 = 0 then (f_Mo_isWished_l1 a0 x1 x2 x3 x4 σ K n 0 (x6 + 1)) else (f_Mo_isWished_l1 a0 x1 x2 x3 x4 σ K n 1 (x6 + 1))) else (f_Mo_isWished_l1 a0 x1 x2 x3 x4 σ K n 0 (x6 + 1))) else (f_Mo_isWished_l1 a0 x1 x2 x3 x4 σ K n 1 (x6 + 1)))
def f_Mo_isWished (a0 : Nat) (x1 : Int32) (x2 : Int32) (x3 : Int32) (x4 : Int32) (σ : hp_H) : Option Int32 := hp_own σ a0 10 (f_Mo_isWished_l1 a0 x1 x2 x3 x4 σ (fun z12 z13 => hp_z z12 (some z12)) hp_F 0 0)
set_option maxHeartbeats 4000000 in
set_option maxRecDepth 100000 in
theorem w_Mo_isWished_l1 {p : Program} {l : Launch} {e : Env} {s : State} {m : MethodId} {args : Array Value} {below : List Frame} {meth : Method} {c : Code} {G : hp_G} {b : Nat} {σ : hp_H} {a0 : Nat} {x1 : Int32} {x2 : Int32} {x3 : Int32} {x4 : Int32} {r : Int32} {K : Int32 → Int32 → Option Int32} (hX : hp_X G p s m c args cX11_isWished 7 RX11) (hlocks : meth.locks = false) (hr : meth.sig.returnType = (some .boolean))
    (hK : ∀ (x5 : Int32) (x6 : Int32) (H : Heap) (locs : List Loc) (ls : Array Slot), hp_R G b s.heap σ H locs → lv_has ls 7 [(5, .int x5)] → K x5 x6 = some r → W p l e rm_Mo_isWished s m args below meth c H locs 0 0 (MQ below (hp_Qc G b (some (.int r)) σ) args s 0 0 (fun q => b ≤ q)) (F0 m 71 ls [])) :
    ∀ (n : Nat) (x5 : Int32) (x6 : Int32) (H : Heap) (locs : List Loc) (ls : Array Slot), hp_R G b s.heap σ H locs → f_Mo_isWished_l1 a0 x1 x2 x3 x4 σ K n x5 x6 = some r → lv_has ls 7 [(0, .ref a0), (1, .int x1), (2, .int x2), (3, .int x3), (4, .int x4), (5, .int x5), (6, .int x6)] → W p l e rm_Mo_isWished s m args below meth c H locs 0 0 (MQ below (hp_Qc G b (some (.int r)) σ) args s 0 0 (fun q => b ≤ q)) (F0 m 6 ls []) := by
  obtain ⟨hx, hb, hml, hown, hts⟩ := id hX.1
  intro n
  induction n with
  | zero =>
    intro x5 x6 H locs ls hR h hl
    rw [f_Mo_isWished_l1] at h
    cases h
  | succ n ih =>
    intro x5 x6 H locs ls hR h hl
    rw [f_Mo_isWished_l1] at h
    refine lv_iload hx hb dX11_isWished_6 (lv_at hl 6 rfl) ?_
    refine lv_aload_n hx hb dX11_isWished_8 rfl (lv_at hl 0 rfl) ?_
    refine hp_getR hX hR (ci := 10) 0 rfl wf11 (by decide) wq3_167 dX11_isWished_9 h (fun q1 h => ?_)
    refine lv_iconst (v := 2) hx hb dX11_isWished_12 (by decide) ?_
    refine hp_iald hX hR dX11_isWished_13 h (fun v2 h => ?_)
    refine lv_icmp_ge (tgt := 71) hx hb dX11_isWished_14 (by decide) (fun c3 => ?_) (fun c3 => ?_)
    · have h := hp_ip c3 h
      exact hK _ _ _ _ _ hR (lv_sub hl [5] rfl) h
    · have h := hp_in c3 h
      refine lv_iload hx hb dX11_isWished_17 (lv_at hl 5 rfl) ?_
      refine lv_if_ne (tgt := 58) hx hb dX11_isWished_19 (by decide) (fun c4 => ?_) (fun c4 => ?_)
      · have h := hp_in c4 h
        refine lv_iconst (v := 1) hx hb dX11_isWished_58 (by decide) ?_
        refine lv_goto (tgt := 63) hx hb dX11_isWished_59 (by decide) ?_
        refine lv_istore (lv' := [(5, .int 1), (0, .ref a0), (1, .int x1), (2, .int x2), (3, .int x3), (4, .int x4), (6, .int x6)]) hx hb dX11_isWished_63 hl (by decide) rfl (fun ls hl => ?_)
        refine lv_iinc (v := (x6 + 1)) (lv' := [(6, .int (x6 + 1)), (5, .int 1), (0, .ref a0), (1, .int x1), (2, .int x2), (3, .int x3), (4, .int x4)]) hx hb dX11_isWished_65 hl (k := 6) rfl rfl (by decide) rfl (fun ls hl => ?_)
        refine lv_goto (tgt := 6) hx hb dX11_isWished_68 (by decide) ?_
        exact ih _ _ _ _ _ hR h (lv_sub hl [2, 3, 4, 5, 6, 1, 0] rfl)
      · have h := hp_ip c4 h
        refine lv_aload_n hx hb dX11_isWished_22 rfl (lv_at hl 0 rfl) ?_
        refine lv_iload hx hb dX11_isWished_23 (lv_at hl 6 rfl) ?_
        refine lv_iconst (v := 0) hx hb dX11_isWished_25 (by decide) ?_
        refine hp_bn h (fun v6 h5 h => ?_)
        refine hp_ci hR (hp_runV (rest := []) (As := [.int x6, .int 0]) hX hR (c_Mo_wish h5) cs_X11_87 rfl rfl rfl hd_Mo_wish ⟨Nat.le_of_ble_eq_true rfl, Nat.le_of_ble_eq_true rfl⟩ (ci := 10) rfl (hp_own_is h5) rfl hl.1 rfl (Nat.le_of_ble_eq_true rfl) dX11_isWished_26 ⟨Nat.le_of_ble_eq_true rfl, Nat.le_of_ble_eq_true rfl⟩) (fun H locs hR => ?_)
        refine lv_iload_n hx hb dX11_isWished_29 rfl (lv_at hl 1 rfl) ?_
        refine lv_icmp_ne (tgt := 62) hx hb dX11_isWished_30 (by decide) (fun c7 => ?_) (fun c7 => ?_)
        · have h := hp_in c7 h
          refine lv_iconst (v := 0) hx hb dX11_isWished_62 (by decide) ?_
          refine lv_istore (lv' := [(5, .int 0), (0, .ref a0), (1, .int x1), (2, .int x2), (3, .int x3), (4, .int x4), (6, .int x6)]) hx hb dX11_isWished_63 hl (by decide) rfl (fun ls hl => ?_)
          refine lv_iinc (v := (x6 + 1)) (lv' := [(6, .int (x6 + 1)), (5, .int 0), (0, .ref a0), (1, .int x1), (2, .int x2), (3, .int x3), (4, .int x4)]) hx hb dX11_isWished_65 hl (k := 6) rfl rfl (by decide) rfl (fun ls hl => ?_)
          refine lv_goto (tgt := 6) hx hb dX11_isWished_68 (by decide) ?_
          exact ih _ _ _ _ _ hR h (lv_sub hl [2, 3, 4, 5, 6, 1, 0] rfl)
        · have h := hp_ip c7 h
          refine lv_aload_n hx hb dX11_isWished_33 rfl (lv_at hl 0 rfl) ?_
          refine hp_getR hX hR (ci := 10) 0 rfl wf11 (by decide) wq3_167 dX11_isWished_34 h (fun q8 h => ?_)
          refine lv_sipush (v := 170) hx hb dX11_isWished_37 (by decide) ?_
          refine lv_bipush (v := 7) hx hb dX11_isWished_40 (by decide) ?_
          refine lv_iload hx hb dX11_isWished_42 (lv_at hl 6 rfl) ?_
          refine lv_imul hx hb dX11_isWished_44 ?_
          refine lv_iadd hx hb dX11_isWished_45 ?_
          refine lv_iconst (v := 1) hx hb dX11_isWished_46 (by decide) ?_
          refine lv_iadd hx hb dX11_isWished_47 ?_
          refine lv_iload_n hx hb dX11_isWished_48 rfl (lv_at hl 2 rfl) ?_
          refine lv_iload_n hx hb dX11_isWished_49 rfl (lv_at hl 3 rfl) ?_
          refine lv_iload hx hb dX11_isWished_50 (lv_at hl 4 rfl) ?_
          refine hp_bn h (fun v10 h9 h => ?_)
          refine hp_ci hR (hp_runS (rest := []) (As := [.ref q8, .int (((170 : Int32) + ((7 : Int32) * x6)) + 1), .int x2, .int x3, .int x4]) hX hR (c_Mo_fits h9) cs_X11_116 rfl rfl hd_Mo_fits ⟨Nat.le_of_ble_eq_true rfl, Nat.le_of_ble_eq_true rfl⟩ rfl hl.1 rfl (Nat.le_of_ble_eq_true rfl) dX11_isWished_52 ⟨Nat.le_of_ble_eq_true rfl, Nat.le_of_ble_eq_true rfl⟩) (fun H locs hR => ?_)
          refine lv_if_eq (tgt := 62) hx hb dX11_isWished_55 (by decide) (fun c11 => ?_) (fun c11 => ?_)
          · have h := hp_ip c11 h
            refine lv_iconst (v := 0) hx hb dX11_isWished_62 (by decide) ?_
            refine lv_istore (lv' := [(5, .int 0), (0, .ref a0), (1, .int x1), (2, .int x2), (3, .int x3), (4, .int x4), (6, .int x6)]) hx hb dX11_isWished_63 hl (by decide) rfl (fun ls hl => ?_)
            refine lv_iinc (v := (x6 + 1)) (lv' := [(6, .int (x6 + 1)), (5, .int 0), (0, .ref a0), (1, .int x1), (2, .int x2), (3, .int x3), (4, .int x4)]) hx hb dX11_isWished_65 hl (k := 6) rfl rfl (by decide) rfl (fun ls hl => ?_)
            refine lv_goto (tgt := 6) hx hb dX11_isWished_68 (by decide) ?_
            exact ih _ _ _ _ _ hR h (lv_sub hl [2, 3, 4, 5, 6, 1, 0] rfl)
          · have h := hp_in c11 h
            refine lv_iconst (v := 1) hx hb dX11_isWished_58 (by decide) ?_
            refine lv_goto (tgt := 63) hx hb dX11_isWished_59 (by decide) ?_
            refine lv_istore (lv' := [(5, .int 1), (0, .ref a0), (1, .int x1), (2, .int x2), (3, .int x3), (4, .int x4), (6, .int x6)]) hx hb dX11_isWished_63 hl (by decide) rfl (fun ls hl => ?_)
            refine lv_iinc (v := (x6 + 1)) (lv' := [(6, .int (x6 + 1)), (5, .int 1), (0, .ref a0), (1, .int x1), (2, .int x2), (3, .int x3), (4, .int x4)]) hx hb dX11_isWished_65 hl (k := 6) rfl rfl (by decide) rfl (fun ls hl => ?_)
            refine lv_goto (tgt := 6) hx hb dX11_isWished_68 (by decide) ?_
            exact ih _ _ _ _ _ hR h (lv_sub hl [2, 3, 4, 5, 6, 1, 0] rfl)
set_option maxHeartbeats 4000000 in
set_option maxRecDepth 100000 in
theorem c_Mo_isWished {l : Launch} {G : hp_G} {b : Nat} {σ : hp_H} {a0 : Nat} {x1 : Int32} {x2 : Int32} {x3 : Int32} {x4 : Int32} {r : Int32} (h : f_Mo_isWished a0 x1 x2 x3 x4 σ = some r) : hp_Met l yX11_isWished cX11_isWished 7 (some .boolean) rm_Mo_isWished G b [.ref a0, .int x1, .int x2, .int x3, .int x4] σ (some (.int r)) σ 0 0 := by
  refine hp_met (by decide +kernel) (Nat.le_of_ble_eq_true rfl) (fun p e s m below meth c ls hX hlocks hr hnm hl hR => ?_)
  obtain ⟨hx, hb, hml, hown, hts⟩ := id hX.1
  have hl : lv_has ls 7 [(0, .ref a0), (1, .int x1), (2, .int x2), (3, .int x3), (4, .int x4)] := hl
  unfold f_Mo_isWished at h
  have h := hp_own_to h
  refine lv_iconst (v := 0) hx hb dX11_isWished_0 (by decide) ?_
  refine lv_istore (lv' := [(5, .int 0), (0, .ref a0), (1, .int x1), (2, .int x2), (3, .int x3), (4, .int x4)]) hx hb dX11_isWished_1 hl (by decide) rfl (fun ls hl => ?_)
  refine lv_iconst (v := 0) hx hb dX11_isWished_3 (by decide) ?_
  refine lv_istore (lv' := [(6, .int 0), (5, .int 0), (0, .ref a0), (1, .int x1), (2, .int x2), (3, .int x3), (4, .int x4)]) hx hb dX11_isWished_4 hl (by decide) rfl (fun ls hl => ?_)
  refine w_Mo_isWished_l1 hX hlocks hr ?_ hp_F _ _ _ _ _ hR h (lv_sub hl [2, 3, 4, 5, 6, 1, 0] rfl)
  intro z12 z13 H locs ls hR hl h
  refine lv_iload hx hb dX11_isWished_71 (lv_at hl 0 rfl) ?_
  exact hp_zretP hX hlocks hr hR h dX11_isWished_73
theorem cs_X11_120 : hp_WV RX11 120 RX11 yX11_lays cX11_lays 2 none := ⟨wq3_234, wq3_236, wp1_9, wq1_11, wq3_237⟩
theorem cs_X11_129 : hp_WV RX11 129 RX11 yX11_goes cX11_goes 9 (some .boolean) := ⟨wq4_137, wq4_139, wp3_3, wq1_11, wq4_140⟩
theorem cs_X11_136 : hp_WV RX11 136 RX11 yX11_isWished cX11_isWished 7 (some .boolean) := ⟨wq4_144, wq4_146, wp3_4, wq1_11, wq4_147⟩
/-! Mo.walks(IIII)V -/
abbrev rm_Mo_walks : Room := { frames := 7, cells := 0, slots := 0, locals := 164 }
theorem hd_Mo_walks : hp_d yX11_walks 4 := by decide +kernel
def f_Mo_walks_l2 (a0 : Nat) (x1 : Int32) (x2 : Int32) (x3 : Int32) (x4 : Int32) (K : Int32 → Int32 → Int32 → hp_H → Option hp_H) : Nat → Int32 → Int32 → Int32 → hp_H → Option hp_H
  | 0, _, _, _, _ => none
  | n + 1, x5, x6, x7, σ => (hp_gR σ a0 10 0).bind fun q3 => (hp_aI σ q3 0 0).bind fun v4 => (hp_gR σ a0 10 0).bind fun q5 => (hp_aI σ q5 0 0).bind fun v6 => if (v4 * v6) ≤ x7 then (K x5 x6 x7 σ) else ((hp_gR σ a0 10 0).bind fun q8 => (hp_aI σ q8 0 0).bind fun v9 => hp_nz v9 ((hp_gR σ a0 10 0).bind fun q11 => (hp_aI σ q11 0 0).bind fun v12 => hp_nz v12 ((hp_gI σ a0 10 15).bind fun v14 => if ((v14 >>> ((x7 / v9) &&& 31)) &&& 1) = 1 then ((hp_gI σ a0 10 15).bind fun v16 => if ((v16 >>> ((x7 - x7 / v12 * v12) &&& 31)) &&& 1) = 0 then ((f_Mo_areNeighbours a0 (x7 / v9) (x7 - x7 / v12 * v12) σ).bind fun v19 => if v19 = 0 then (f_Mo_walks_l2 a0 x1 x2 x3 x4 K n x5 x6 (x7 + 1) σ) else ((f_Mo_goes a0 (x7 / v9) (x7 - x7 / v12 * v12) x2 x3 x4 σ).bind fun v22 => if v22 = 0 then (f_Mo_walks_l2 a0 x1 x2 x3 x4 K n x5 x6 (x7 + 1) σ) else ((hp_gI σ a0 10 15).bind fun v24 => (hp_pI σ a0 10 15 (v24 ||| ((1 : Int32) <<< ((x7 - x7 / v12 * v12) &&& 31)))).bind fun σ => (hp_gI σ a0 10 18).bind fun v25 => (hp_pI σ a0 10 18 (v25 + 1)).bind fun σ => f_Mo_walks_l2 a0 x1 x2 x3 x4 K n 1 (x6 ||| ((1 : Int32) <<< ((x7 / v9) &&& 31))) (x7 + 1) σ))) else (f_Mo_walks_l2 a0 x1 x2 x3 x4 K n x5 x6 (x7 + 1) σ)) else (f_Mo_walks_l2 a0 x1 x2 x3 x4 K n x5 x6 (x7 + 1) σ))))
def f_Mo_walks_l1 (a0 : Nat) (x1 : Int32) (x2 : Int32) (x3 : Int32) (x4 : Int32) (K : Int32 → Int32 → hp_H → Option hp_H) : Nat → Int32 → Int32 → hp_H → Option hp_H
  | 0, _, _, _ => none
  | n + 1, x5, x6, σ => if x5 = 0 then (K x5 x6 σ) else (f_Mo_walks_l2 a0 x1 x2 x3 x4 (fun z26 z27 z28 σ => f_Mo_walks_l1 a0 x1 x2 x3 x4 K n z26 z27 σ) hp_F 0 x6 0 σ)
def f_Mo_walks_l3 (a0 : Nat) (x2 : Int32) (x3 : Int32) (x4 : Int32) (K : Int32 → Int32 → hp_H → Option hp_H) : Nat → Int32 → Int32 → hp_H → Option hp_H
  | 0, _, _, _ => none
  | n + 1, x7, x8, σ => (hp_gR σ a0 10 0).bind fun q31 => (hp_aI σ q31 0 1).bind fun v32 => if v32 ≤ x8 then (K x7 x8 σ) else ((hp_gI σ a0 10 15).bind fun v34 => (f_Mo_of a0 x8 0 σ).bind fun v36 => if ((v34 >>> (v36 &&& 31)) &&& 1) = 1 then ((f_Mo_isWished a0 x8 x2 x3 x4 σ).bind fun v39 => if v39 = 0 then (f_Mo_walks_l3 a0 x2 x3 x4 K n x7 (x8 + 1) σ) else ((hp_gI σ a0 10 16).bind fun v41 => (hp_pI σ a0 10 16 (v41 ||| ((1 : Int32) <<< (x8 &&& 31)))).bind fun σ => (f_Mo_of a0 x8 0 σ).bind fun v43 => f_Mo_walks_l3 a0 x2 x3 x4 K n (x7 ||| ((1 : Int32) <<< (v43 &&& 31))) (x8 + 1) σ)) else (f_Mo_walks_l3 a0 x2 x3 x4 K n x7 (x8 + 1) σ))
def f_Mo_walks (a0 : Nat) (x1 : Int32) (x2 : Int32) (x3 : Int32) (x4 : Int32) (σ : hp_H) : Option hp_H := hp_own σ a0 10 ((f_Mo_lays a0 σ).bind fun σ => (hp_pI σ a0 10 15 ((1 : Int32) <<< (x1 &&& 31))).bind fun σ => (hp_pI σ a0 10 18 0).bind fun σ => f_Mo_walks_l1 a0 x1 x2 x3 x4 (fun z29 z30 σ => (hp_pI σ a0 10 16 0).bind fun σ => f_Mo_walks_l3 a0 x2 x3 x4 (fun z44 z45 σ => (hp_gI σ a0 10 15).bind fun v46 => (hp_pI σ a0 10 17 (v46 &&& (z44 ^^^ (-1)))).bind fun σ => some σ) hp_F (z30 ||| ((1 : Int32) <<< (x1 &&& 31))) 0 σ) hp_F 1 0 σ)
set_option maxHeartbeats 4000000 in
set_option maxRecDepth 100000 in
theorem w_Mo_walks_l2 {p : Program} {l : Launch} {e : Env} {s : State} {m : MethodId} {args : Array Value} {below : List Frame} {meth : Method} {c : Code} {G : hp_G} {b : Nat} {a0 : Nat} {x1 : Int32} {x2 : Int32} {x3 : Int32} {x4 : Int32} {σ' : hp_H} {K : Int32 → Int32 → Int32 → hp_H → Option hp_H} (hX : hp_X G p s m c args cX11_walks 10 RX11) (hlocks : meth.locks = false) (hr : meth.sig.returnType = none)
    (hK : ∀ (x5 : Int32) (x6 : Int32) (x7 : Int32) (σ : hp_H) (H : Heap) (locs : List Loc) (ls : Array Slot), hp_R G b s.heap σ H locs → lv_has ls 10 [(0, .ref a0), (1, .int x1), (2, .int x2), (3, .int x3), (4, .int x4), (5, .int x5), (6, .int x6)] → K x5 x6 x7 σ = some σ' → W p l e rm_Mo_walks s m args below meth c H locs 0 0 (MQ below (hp_Qc G b none σ') args s 0 0 (fun q => b ≤ q)) (F0 m 165 ls [])) :
    ∀ (n : Nat) (x5 : Int32) (x6 : Int32) (x7 : Int32) (σ : hp_H) (H : Heap) (locs : List Loc) (ls : Array Slot), hp_R G b s.heap σ H locs → f_Mo_walks_l2 a0 x1 x2 x3 x4 K n x5 x6 x7 σ = some σ' → lv_has ls 10 [(0, .ref a0), (1, .int x1), (2, .int x2), (3, .int x3), (4, .int x4), (5, .int x5), (6, .int x6), (7, .int x7)] → W p l e rm_Mo_walks s m args below meth c H locs 0 0 (MQ below (hp_Qc G b none σ') args s 0 0 (fun q => b ≤ q)) (F0 m 33 ls []) := by
  obtain ⟨hx, hb, hml, hown, hts⟩ := id hX.1
  intro n
  induction n with
  | zero =>
    intro x5 x6 x7 σ H locs ls hR h hl
    rw [f_Mo_walks_l2] at h
    cases h
  | succ n ih =>
    intro x5 x6 x7 σ H locs ls hR h hl
    rw [f_Mo_walks_l2] at h
    refine lv_iload hx hb dX11_walks_33 (lv_at hl 7 rfl) ?_
    refine lv_aload_n hx hb dX11_walks_35 rfl (lv_at hl 0 rfl) ?_
    refine hp_getR hX hR (ci := 10) 0 rfl wf11 (by decide) wq3_167 dX11_walks_36 h (fun q3 h => ?_)
    refine lv_iconst (v := 0) hx hb dX11_walks_39 (by decide) ?_
    refine hp_iald hX hR dX11_walks_40 h (fun v4 h => ?_)
    refine lv_aload_n hx hb dX11_walks_41 rfl (lv_at hl 0 rfl) ?_
    refine hp_getR hX hR (ci := 10) 0 rfl wf11 (by decide) wq3_167 dX11_walks_42 h (fun q5 h => ?_)
    refine lv_iconst (v := 0) hx hb dX11_walks_45 (by decide) ?_
    refine hp_iald hX hR dX11_walks_46 h (fun v6 h => ?_)
    refine lv_imul hx hb dX11_walks_47 ?_
    refine lv_icmp_ge (tgt := 165) hx hb dX11_walks_48 (by decide) (fun c7 => ?_) (fun c7 => ?_)
    · have h := hp_ip c7 h
      exact hK _ _ _ _ _ _ _ hR (lv_sub hl [0, 1, 2, 3, 4, 5, 6] rfl) h
    · have h := hp_in c7 h
      refine lv_iload hx hb dX11_walks_51 (lv_at hl 7 rfl) ?_
      refine lv_aload_n hx hb dX11_walks_53 rfl (lv_at hl 0 rfl) ?_
      refine hp_getR hX hR (ci := 10) 0 rfl wf11 (by decide) wq3_167 dX11_walks_54 h (fun q8 h => ?_)
      refine lv_iconst (v := 0) hx hb dX11_walks_57 (by decide) ?_
      refine hp_iald hX hR dX11_walks_58 h (fun v9 h => ?_)
      obtain ⟨hz10, h⟩ := hp_nz_to h
      refine lv_idiv hx hb dX11_walks_59 hz10 ?_
      refine lv_istore (lv' := [(8, .int (x7 / v9)), (0, .ref a0), (1, .int x1), (2, .int x2), (3, .int x3), (4, .int x4), (5, .int x5), (6, .int x6), (7, .int x7)]) hx hb dX11_walks_60 hl (by decide) rfl (fun ls hl => ?_)
      refine lv_iload hx hb dX11_walks_62 (lv_at hl 8 rfl) ?_
      refine lv_aload_n hx hb dX11_walks_64 rfl (lv_at hl 1 rfl) ?_
      refine hp_getR hX hR (ci := 10) 0 rfl wf11 (by decide) wq3_167 dX11_walks_65 h (fun q11 h => ?_)
      refine lv_iconst (v := 0) hx hb dX11_walks_68 (by decide) ?_
      refine hp_iald hX hR dX11_walks_69 h (fun v12 h => ?_)
      obtain ⟨hz13, h⟩ := hp_nz_to h
      refine lv_irem hx hb dX11_walks_70 hz13 ?_
      refine lv_istore (lv' := [(9, .int (x7 - x7 / v12 * v12)), (8, .int (x7 / v9)), (0, .ref a0), (1, .int x1), (2, .int x2), (3, .int x3), (4, .int x4), (5, .int x5), (6, .int x6), (7, .int x7)]) hx hb dX11_walks_71 hl (by decide) rfl (fun ls hl => ?_)
      refine lv_aload_n hx hb dX11_walks_73 rfl (lv_at hl 2 rfl) ?_
      refine hp_getI hX hR (ci := 10) 15 rfl wf11 (by decide) wq3_182 dX11_walks_74 h (fun v14 h => ?_)
      refine lv_iload hx hb dX11_walks_77 (lv_at hl 1 rfl) ?_
      refine lv_ishr hx hb dX11_walks_79 ?_
      refine lv_iconst (v := 1) hx hb dX11_walks_80 (by decide) ?_
      refine lv_iand hx hb dX11_walks_81 ?_
      refine lv_iconst (v := 1) hx hb dX11_walks_82 (by decide) ?_
      refine lv_icmp_ne (tgt := 159) hx hb dX11_walks_83 (by decide) (fun c15 => ?_) (fun c15 => ?_)
      · have h := hp_in c15 h
        refine lv_iinc (v := (x7 + 1)) (lv' := [(7, .int (x7 + 1)), (9, .int (x7 - x7 / v12 * v12)), (8, .int (x7 / v9)), (0, .ref a0), (1, .int x1), (2, .int x2), (3, .int x3), (4, .int x4), (5, .int x5), (6, .int x6)]) hx hb dX11_walks_159 hl (k := 9) rfl rfl (by decide) rfl (fun ls hl => ?_)
        refine lv_goto (tgt := 33) hx hb dX11_walks_162 (by decide) ?_
        exact ih _ _ _ _ _ _ _ hR h (lv_sub hl [3, 4, 5, 6, 7, 8, 9, 0] rfl)
      · have h := hp_ip c15 h
        refine lv_aload_n hx hb dX11_walks_86 rfl (lv_at hl 2 rfl) ?_
        refine hp_getI hX hR (ci := 10) 15 rfl wf11 (by decide) wq3_182 dX11_walks_87 h (fun v16 h => ?_)
        refine lv_iload hx hb dX11_walks_90 (lv_at hl 0 rfl) ?_
        refine lv_ishr hx hb dX11_walks_92 ?_
        refine lv_iconst (v := 1) hx hb dX11_walks_93 (by decide) ?_
        refine lv_iand hx hb dX11_walks_94 ?_
        refine lv_if_ne (tgt := 159) hx hb dX11_walks_95 (by decide) (fun c17 => ?_) (fun c17 => ?_)
        · have h := hp_in c17 h
          refine lv_iinc (v := (x7 + 1)) (lv' := [(7, .int (x7 + 1)), (9, .int (x7 - x7 / v12 * v12)), (8, .int (x7 / v9)), (0, .ref a0), (1, .int x1), (2, .int x2), (3, .int x3), (4, .int x4), (5, .int x5), (6, .int x6)]) hx hb dX11_walks_159 hl (k := 9) rfl rfl (by decide) rfl (fun ls hl => ?_)
          refine lv_goto (tgt := 33) hx hb dX11_walks_162 (by decide) ?_
          exact ih _ _ _ _ _ _ _ hR h (lv_sub hl [3, 4, 5, 6, 7, 8, 9, 0] rfl)
        · have h := hp_ip c17 h
          refine lv_aload_n hx hb dX11_walks_98 rfl (lv_at hl 2 rfl) ?_
          refine lv_iload hx hb dX11_walks_99 (lv_at hl 1 rfl) ?_
          refine lv_iload hx hb dX11_walks_101 (lv_at hl 0 rfl) ?_
          refine hp_bn h (fun v19 h18 h => ?_)
          refine hp_ci hR (hp_runV (rest := []) (As := [.int (x7 / v9), .int (x7 - x7 / v12 * v12)]) hX hR (c_Mo_areNeighbours h18) cs_X11_97 rfl rfl rfl hd_Mo_areNeighbours ⟨Nat.le_of_ble_eq_true rfl, Nat.le_of_ble_eq_true rfl⟩ (ci := 10) rfl (hp_own_is h18) rfl hl.1 rfl (Nat.le_of_ble_eq_true rfl) dX11_walks_103 ⟨Nat.le_of_ble_eq_true rfl, Nat.le_of_ble_eq_true rfl⟩) (fun H locs hR => ?_)
          refine lv_if_eq (tgt := 159) hx hb dX11_walks_106 (by decide) (fun c20 => ?_) (fun c20 => ?_)
          · have h := hp_ip c20 h
            refine lv_iinc (v := (x7 + 1)) (lv' := [(7, .int (x7 + 1)), (9, .int (x7 - x7 / v12 * v12)), (8, .int (x7 / v9)), (0, .ref a0), (1, .int x1), (2, .int x2), (3, .int x3), (4, .int x4), (5, .int x5), (6, .int x6)]) hx hb dX11_walks_159 hl (k := 9) rfl rfl (by decide) rfl (fun ls hl => ?_)
            refine lv_goto (tgt := 33) hx hb dX11_walks_162 (by decide) ?_
            exact ih _ _ _ _ _ _ _ hR h (lv_sub hl [3, 4, 5, 6, 7, 8, 9, 0] rfl)
          · have h := hp_in c20 h
            refine lv_aload_n hx hb dX11_walks_109 rfl (lv_at hl 2 rfl) ?_
            refine lv_iload hx hb dX11_walks_110 (lv_at hl 1 rfl) ?_
            refine lv_iload hx hb dX11_walks_112 (lv_at hl 0 rfl) ?_
            refine lv_iload_n hx hb dX11_walks_114 rfl (lv_at hl 4 rfl) ?_
            refine lv_iload_n hx hb dX11_walks_115 rfl (lv_at hl 5 rfl) ?_
            refine lv_iload hx hb dX11_walks_116 (lv_at hl 6 rfl) ?_
            refine hp_bn h (fun v22 h21 h => ?_)
            refine hp_ci hR (hp_runV (rest := []) (As := [.int (x7 / v9), .int (x7 - x7 / v12 * v12), .int x2, .int x3, .int x4]) hX hR (c_Mo_goes h21) cs_X11_129 rfl rfl rfl hd_Mo_goes ⟨Nat.le_of_ble_eq_true rfl, Nat.le_of_ble_eq_true rfl⟩ (ci := 10) rfl (hp_own_is h21) rfl hl.1 rfl (Nat.le_of_ble_eq_true rfl) dX11_walks_118 ⟨Nat.le_of_ble_eq_true rfl, Nat.le_of_ble_eq_true rfl⟩) (fun H locs hR => ?_)
            refine lv_if_eq (tgt := 159) hx hb dX11_walks_121 (by decide) (fun c23 => ?_) (fun c23 => ?_)
            · have h := hp_ip c23 h
              refine lv_iinc (v := (x7 + 1)) (lv' := [(7, .int (x7 + 1)), (9, .int (x7 - x7 / v12 * v12)), (8, .int (x7 / v9)), (0, .ref a0), (1, .int x1), (2, .int x2), (3, .int x3), (4, .int x4), (5, .int x5), (6, .int x6)]) hx hb dX11_walks_159 hl (k := 9) rfl rfl (by decide) rfl (fun ls hl => ?_)
              refine lv_goto (tgt := 33) hx hb dX11_walks_162 (by decide) ?_
              exact ih _ _ _ _ _ _ _ hR h (lv_sub hl [3, 4, 5, 6, 7, 8, 9, 0] rfl)
            · have h := hp_in c23 h
              refine lv_aload_n hx hb dX11_walks_124 rfl (lv_at hl 2 rfl) ?_
              refine lv_dup hx hb dX11_walks_125 rfl ?_
              refine hp_getI hX hR (ci := 10) 15 rfl wf11 (by decide) wq3_182 dX11_walks_126 h (fun v24 h => ?_)
              refine lv_iconst (v := 1) hx hb dX11_walks_129 (by decide) ?_
              refine lv_iload hx hb dX11_walks_130 (lv_at hl 0 rfl) ?_
              refine lv_ishl hx hb dX11_walks_132 ?_
              refine lv_ior hx hb dX11_walks_133 ?_
              refine hp_putI hX hR (ci := 10) 15 rfl wf11 tyX11_ok nmX11 (by decide) wq3_182 rfl dX11_walks_134 rfl h (fun σ H locs h hR => ?_)
              refine lv_iload hx hb dX11_walks_137 (lv_at hl 8 rfl) ?_
              refine lv_iconst (v := 1) hx hb dX11_walks_139 (by decide) ?_
              refine lv_iload hx hb dX11_walks_140 (lv_at hl 1 rfl) ?_
              refine lv_ishl hx hb dX11_walks_142 ?_
              refine lv_ior hx hb dX11_walks_143 ?_
              refine lv_istore (lv' := [(6, .int (x6 ||| ((1 : Int32) <<< ((x7 / v9) &&& 31)))), (9, .int (x7 - x7 / v12 * v12)), (8, .int (x7 / v9)), (0, .ref a0), (1, .int x1), (2, .int x2), (3, .int x3), (4, .int x4), (5, .int x5), (7, .int x7)]) hx hb dX11_walks_144 hl (by decide) rfl (fun ls hl => ?_)
              refine lv_aload_n hx hb dX11_walks_146 rfl (lv_at hl 3 rfl) ?_
              refine lv_dup hx hb dX11_walks_147 rfl ?_
              refine hp_getI hX hR (ci := 10) 18 rfl wf11 (by decide) wq3_185 dX11_walks_148 h (fun v25 h => ?_)
              refine lv_iconst (v := 1) hx hb dX11_walks_151 (by decide) ?_
              refine lv_iadd hx hb dX11_walks_152 ?_
              refine hp_putI hX hR (ci := 10) 18 rfl wf11 tyX11_ok nmX11 (by decide) wq3_185 rfl dX11_walks_153 rfl h (fun σ H locs h hR => ?_)
              refine lv_iconst (v := 1) hx hb dX11_walks_156 (by decide) ?_
              refine lv_istore (lv' := [(5, .int 1), (6, .int (x6 ||| ((1 : Int32) <<< ((x7 / v9) &&& 31)))), (9, .int (x7 - x7 / v12 * v12)), (8, .int (x7 / v9)), (0, .ref a0), (1, .int x1), (2, .int x2), (3, .int x3), (4, .int x4), (7, .int x7)]) hx hb dX11_walks_157 hl (by decide) rfl (fun ls hl => ?_)
              refine lv_iinc (v := (x7 + 1)) (lv' := [(7, .int (x7 + 1)), (5, .int 1), (6, .int (x6 ||| ((1 : Int32) <<< ((x7 / v9) &&& 31)))), (9, .int (x7 - x7 / v12 * v12)), (8, .int (x7 / v9)), (0, .ref a0), (1, .int x1), (2, .int x2), (3, .int x3), (4, .int x4)]) hx hb dX11_walks_159 hl (k := 9) rfl rfl (by decide) rfl (fun ls hl => ?_)
              refine lv_goto (tgt := 33) hx hb dX11_walks_162 (by decide) ?_
              exact ih _ _ _ _ _ _ _ hR h (lv_sub hl [5, 6, 7, 8, 9, 1, 2, 0] rfl)
set_option maxHeartbeats 4000000 in
set_option maxRecDepth 100000 in
theorem w_Mo_walks_l1 {p : Program} {l : Launch} {e : Env} {s : State} {m : MethodId} {args : Array Value} {below : List Frame} {meth : Method} {c : Code} {G : hp_G} {b : Nat} {a0 : Nat} {x1 : Int32} {x2 : Int32} {x3 : Int32} {x4 : Int32} {σ' : hp_H} {K : Int32 → Int32 → hp_H → Option hp_H} (hX : hp_X G p s m c args cX11_walks 10 RX11) (hlocks : meth.locks = false) (hr : meth.sig.returnType = none)
    (hK : ∀ (x5 : Int32) (x6 : Int32) (σ : hp_H) (H : Heap) (locs : List Loc) (ls : Array Slot), hp_R G b s.heap σ H locs → lv_has ls 10 [(0, .ref a0), (1, .int x1), (2, .int x2), (3, .int x3), (4, .int x4), (6, .int x6)] → K x5 x6 σ = some σ' → W p l e rm_Mo_walks s m args below meth c H locs 0 0 (MQ below (hp_Qc G b none σ') args s 0 0 (fun q => b ≤ q)) (F0 m 168 ls [])) :
    ∀ (n : Nat) (x5 : Int32) (x6 : Int32) (σ : hp_H) (H : Heap) (locs : List Loc) (ls : Array Slot), hp_R G b s.heap σ H locs → f_Mo_walks_l1 a0 x1 x2 x3 x4 K n x5 x6 σ = some σ' → lv_has ls 10 [(0, .ref a0), (1, .int x1), (2, .int x2), (3, .int x3), (4, .int x4), (5, .int x5), (6, .int x6)] → W p l e rm_Mo_walks s m args below meth c H locs 0 0 (MQ below (hp_Qc G b none σ') args s 0 0 (fun q => b ≤ q)) (F0 m 22 ls []) := by
  obtain ⟨hx, hb, hml, hown, hts⟩ := id hX.1
  intro n
  induction n with
  | zero =>
    intro x5 x6 σ H locs ls hR h hl
    rw [f_Mo_walks_l1] at h
    cases h
  | succ n ih =>
    intro x5 x6 σ H locs ls hR h hl
    rw [f_Mo_walks_l1] at h
    refine lv_iload hx hb dX11_walks_22 (lv_at hl 5 rfl) ?_
    refine lv_if_eq (tgt := 168) hx hb dX11_walks_24 (by decide) (fun c2 => ?_) (fun c2 => ?_)
    · have h := hp_ip c2 h
      exact hK _ _ _ _ _ _ hR (lv_sub hl [0, 1, 2, 3, 4, 6] rfl) h
    · have h := hp_in c2 h
      refine lv_iconst (v := 0) hx hb dX11_walks_27 (by decide) ?_
      refine lv_istore (lv' := [(5, .int 0), (0, .ref a0), (1, .int x1), (2, .int x2), (3, .int x3), (4, .int x4), (6, .int x6)]) hx hb dX11_walks_28 hl (by decide) rfl (fun ls hl => ?_)
      refine lv_iconst (v := 0) hx hb dX11_walks_30 (by decide) ?_
      refine lv_istore (lv' := [(7, .int 0), (5, .int 0), (0, .ref a0), (1, .int x1), (2, .int x2), (3, .int x3), (4, .int x4), (6, .int x6)]) hx hb dX11_walks_31 hl (by decide) rfl (fun ls hl => ?_)
      refine w_Mo_walks_l2 hX hlocks hr ?_ hp_F _ _ _ _ _ _ _ hR h (lv_sub hl [2, 3, 4, 5, 6, 1, 7, 0] rfl)
      intro z26 z27 z28 σ H locs ls hR hl h
      refine lv_goto (tgt := 22) hx hb dX11_walks_165 (by decide) ?_
      exact ih _ _ _ _ _ _ hR h (lv_sub hl [0, 1, 2, 3, 4, 5, 6] rfl)
set_option maxHeartbeats 4000000 in
set_option maxRecDepth 100000 in
theorem w_Mo_walks_l3 {p : Program} {l : Launch} {e : Env} {s : State} {m : MethodId} {args : Array Value} {below : List Frame} {meth : Method} {c : Code} {G : hp_G} {b : Nat} {a0 : Nat} {x2 : Int32} {x3 : Int32} {x4 : Int32} {σ' : hp_H} {K : Int32 → Int32 → hp_H → Option hp_H} (hX : hp_X G p s m c args cX11_walks 10 RX11) (hlocks : meth.locks = false) (hr : meth.sig.returnType = none)
    (hK : ∀ (x7 : Int32) (x8 : Int32) (σ : hp_H) (H : Heap) (locs : List Loc) (ls : Array Slot), hp_R G b s.heap σ H locs → lv_has ls 10 [(0, .ref a0), (7, .int x7)] → K x7 x8 σ = some σ' → W p l e rm_Mo_walks s m args below meth c H locs 0 0 (MQ below (hp_Qc G b none σ') args s 0 0 (fun q => b ≤ q)) (F0 m 259 ls [])) :
    ∀ (n : Nat) (x7 : Int32) (x8 : Int32) (σ : hp_H) (H : Heap) (locs : List Loc) (ls : Array Slot), hp_R G b s.heap σ H locs → f_Mo_walks_l3 a0 x2 x3 x4 K n x7 x8 σ = some σ' → lv_has ls 10 [(0, .ref a0), (2, .int x2), (3, .int x3), (4, .int x4), (7, .int x7), (8, .int x8)] → W p l e rm_Mo_walks s m args below meth c H locs 0 0 (MQ below (hp_Qc G b none σ') args s 0 0 (fun q => b ≤ q)) (F0 m 184 ls []) := by
  obtain ⟨hx, hb, hml, hown, hts⟩ := id hX.1
  intro n
  induction n with
  | zero =>
    intro x7 x8 σ H locs ls hR h hl
    rw [f_Mo_walks_l3] at h
    cases h
  | succ n ih =>
    intro x7 x8 σ H locs ls hR h hl
    rw [f_Mo_walks_l3] at h
    refine lv_iload hx hb dX11_walks_184 (lv_at hl 5 rfl) ?_
    refine lv_aload_n hx hb dX11_walks_186 rfl (lv_at hl 0 rfl) ?_
    refine hp_getR hX hR (ci := 10) 0 rfl wf11 (by decide) wq3_167 dX11_walks_187 h (fun q31 h => ?_)
    refine lv_iconst (v := 1) hx hb dX11_walks_190 (by decide) ?_
    refine hp_iald hX hR dX11_walks_191 h (fun v32 h => ?_)
    refine lv_icmp_ge (tgt := 259) hx hb dX11_walks_192 (by decide) (fun c33 => ?_) (fun c33 => ?_)
    · have h := hp_ip c33 h
      exact hK _ _ _ _ _ _ hR (lv_sub hl [0, 4] rfl) h
    · have h := hp_in c33 h
      refine lv_aload_n hx hb dX11_walks_195 rfl (lv_at hl 0 rfl) ?_
      refine hp_getI hX hR (ci := 10) 15 rfl wf11 (by decide) wq3_182 dX11_walks_196 h (fun v34 h => ?_)
      refine lv_aload_n hx hb dX11_walks_199 rfl (lv_at hl 0 rfl) ?_
      refine lv_iload hx hb dX11_walks_200 (lv_at hl 5 rfl) ?_
      refine lv_iconst (v := 0) hx hb dX11_walks_202 (by decide) ?_
      refine hp_bn h (fun v36 h35 h => ?_)
      refine hp_ci hR (hp_runV (rest := [.int v34]) (As := [.int x8, .int 0]) hX hR (c_Mo_of h35) cs_X11_90 rfl rfl rfl hd_Mo_of ⟨Nat.le_of_ble_eq_true rfl, Nat.le_of_ble_eq_true rfl⟩ (ci := 10) rfl (hp_own_is h35) rfl hl.1 rfl (Nat.le_of_ble_eq_true rfl) dX11_walks_203 ⟨Nat.le_of_ble_eq_true rfl, Nat.le_of_ble_eq_true rfl⟩) (fun H locs hR => ?_)
      refine lv_ishr hx hb dX11_walks_206 ?_
      refine lv_iconst (v := 1) hx hb dX11_walks_207 (by decide) ?_
      refine lv_iand hx hb dX11_walks_208 ?_
      refine lv_iconst (v := 1) hx hb dX11_walks_209 (by decide) ?_
      refine lv_icmp_ne (tgt := 253) hx hb dX11_walks_210 (by decide) (fun c37 => ?_) (fun c37 => ?_)
      · have h := hp_in c37 h
        refine lv_iinc (v := (x8 + 1)) (lv' := [(8, .int (x8 + 1)), (0, .ref a0), (2, .int x2), (3, .int x3), (4, .int x4), (7, .int x7)]) hx hb dX11_walks_253 hl (k := 5) rfl rfl (by decide) rfl (fun ls hl => ?_)
        refine lv_goto (tgt := 184) hx hb dX11_walks_256 (by decide) ?_
        exact ih _ _ _ _ _ _ hR h (lv_sub hl [1, 2, 3, 4, 5, 0] rfl)
      · have h := hp_ip c37 h
        refine lv_aload_n hx hb dX11_walks_213 rfl (lv_at hl 0 rfl) ?_
        refine lv_iload hx hb dX11_walks_214 (lv_at hl 5 rfl) ?_
        refine lv_iload_n hx hb dX11_walks_216 rfl (lv_at hl 1 rfl) ?_
        refine lv_iload_n hx hb dX11_walks_217 rfl (lv_at hl 2 rfl) ?_
        refine lv_iload hx hb dX11_walks_218 (lv_at hl 3 rfl) ?_
        refine hp_bn h (fun v39 h38 h => ?_)
        refine hp_ci hR (hp_runV (rest := []) (As := [.int x8, .int x2, .int x3, .int x4]) hX hR (c_Mo_isWished h38) cs_X11_136 rfl rfl rfl hd_Mo_isWished ⟨Nat.le_of_ble_eq_true rfl, Nat.le_of_ble_eq_true rfl⟩ (ci := 10) rfl (hp_own_is h38) rfl hl.1 rfl (Nat.le_of_ble_eq_true rfl) dX11_walks_220 ⟨Nat.le_of_ble_eq_true rfl, Nat.le_of_ble_eq_true rfl⟩) (fun H locs hR => ?_)
        refine lv_if_eq (tgt := 253) hx hb dX11_walks_223 (by decide) (fun c40 => ?_) (fun c40 => ?_)
        · have h := hp_ip c40 h
          refine lv_iinc (v := (x8 + 1)) (lv' := [(8, .int (x8 + 1)), (0, .ref a0), (2, .int x2), (3, .int x3), (4, .int x4), (7, .int x7)]) hx hb dX11_walks_253 hl (k := 5) rfl rfl (by decide) rfl (fun ls hl => ?_)
          refine lv_goto (tgt := 184) hx hb dX11_walks_256 (by decide) ?_
          exact ih _ _ _ _ _ _ hR h (lv_sub hl [1, 2, 3, 4, 5, 0] rfl)
        · have h := hp_in c40 h
          refine lv_aload_n hx hb dX11_walks_226 rfl (lv_at hl 0 rfl) ?_
          refine lv_dup hx hb dX11_walks_227 rfl ?_
          refine hp_getI hX hR (ci := 10) 16 rfl wf11 (by decide) wq3_183 dX11_walks_228 h (fun v41 h => ?_)
          refine lv_iconst (v := 1) hx hb dX11_walks_231 (by decide) ?_
          refine lv_iload hx hb dX11_walks_232 (lv_at hl 5 rfl) ?_
          refine lv_ishl hx hb dX11_walks_234 ?_
          refine lv_ior hx hb dX11_walks_235 ?_
          refine hp_putI hX hR (ci := 10) 16 rfl wf11 tyX11_ok nmX11 (by decide) wq3_183 rfl dX11_walks_236 rfl h (fun σ H locs h hR => ?_)
          refine lv_iload hx hb dX11_walks_239 (lv_at hl 4 rfl) ?_
          refine lv_iconst (v := 1) hx hb dX11_walks_241 (by decide) ?_
          refine lv_aload_n hx hb dX11_walks_242 rfl (lv_at hl 0 rfl) ?_
          refine lv_iload hx hb dX11_walks_243 (lv_at hl 5 rfl) ?_
          refine lv_iconst (v := 0) hx hb dX11_walks_245 (by decide) ?_
          refine hp_bn h (fun v43 h42 h => ?_)
          refine hp_ci hR (hp_runV (rest := [.int 1, .int x7]) (As := [.int x8, .int 0]) hX hR (c_Mo_of h42) cs_X11_90 rfl rfl rfl hd_Mo_of ⟨Nat.le_of_ble_eq_true rfl, Nat.le_of_ble_eq_true rfl⟩ (ci := 10) rfl (hp_own_is h42) rfl hl.1 rfl (Nat.le_of_ble_eq_true rfl) dX11_walks_246 ⟨Nat.le_of_ble_eq_true rfl, Nat.le_of_ble_eq_true rfl⟩) (fun H locs hR => ?_)
          refine lv_ishl hx hb dX11_walks_249 ?_
          refine lv_ior hx hb dX11_walks_250 ?_
          refine lv_istore (lv' := [(7, .int (x7 ||| ((1 : Int32) <<< (v43 &&& 31)))), (0, .ref a0), (2, .int x2), (3, .int x3), (4, .int x4), (8, .int x8)]) hx hb dX11_walks_251 hl (by decide) rfl (fun ls hl => ?_)
          refine lv_iinc (v := (x8 + 1)) (lv' := [(8, .int (x8 + 1)), (7, .int (x7 ||| ((1 : Int32) <<< (v43 &&& 31)))), (0, .ref a0), (2, .int x2), (3, .int x3), (4, .int x4)]) hx hb dX11_walks_253 hl (k := 5) rfl rfl (by decide) rfl (fun ls hl => ?_)
          refine lv_goto (tgt := 184) hx hb dX11_walks_256 (by decide) ?_
          exact ih _ _ _ _ _ _ hR h (lv_sub hl [2, 3, 4, 5, 1, 0] rfl)
set_option maxHeartbeats 4000000 in
set_option maxRecDepth 100000 in
theorem c_Mo_walks {l : Launch} {G : hp_G} {b : Nat} {σ : hp_H} {a0 : Nat} {x1 : Int32} {x2 : Int32} {x3 : Int32} {x4 : Int32} {σ' : hp_H} (h : f_Mo_walks a0 x1 x2 x3 x4 σ = some σ') : hp_Met l yX11_walks cX11_walks 10 none rm_Mo_walks G b [.ref a0, .int x1, .int x2, .int x3, .int x4] σ none σ' 0 0 := by
  refine hp_met (by decide +kernel) (Nat.le_of_ble_eq_true rfl) (fun p e s m below meth c ls hX hlocks hr hnm hl hR => ?_)
  obtain ⟨hx, hb, hml, hown, hts⟩ := id hX.1
  have hl : lv_has ls 10 [(0, .ref a0), (1, .int x1), (2, .int x2), (3, .int x3), (4, .int x4)] := hl
  unfold f_Mo_walks at h
  have h := hp_own_to h
  refine lv_aload_n hx hb dX11_walks_0 rfl (lv_at hl 0 rfl) ?_
  refine hp_bn h (fun σ h1 h => ?_)
  refine hp_cv hR (hp_runV (rest := []) (As := []) hX hR (c_Mo_lays h1) cs_X11_120 rfl rfl rfl hd_Mo_lays ⟨Nat.le_of_ble_eq_true rfl, Nat.le_of_ble_eq_true rfl⟩ (ci := 10) rfl (hp_own_is h1) rfl hl.1 rfl (Nat.le_of_ble_eq_true rfl) dX11_walks_1 ⟨Nat.le_of_ble_eq_true rfl, Nat.le_of_ble_eq_true rfl⟩) (fun H locs hR => ?_)
  refine lv_aload_n hx hb dX11_walks_4 rfl (lv_at hl 0 rfl) ?_
  refine lv_iconst (v := 1) hx hb dX11_walks_5 (by decide) ?_
  refine lv_iload_n hx hb dX11_walks_6 rfl (lv_at hl 1 rfl) ?_
  refine lv_ishl hx hb dX11_walks_7 ?_
  refine hp_putI hX hR (ci := 10) 15 rfl wf11 tyX11_ok nmX11 (by decide) wq3_182 rfl dX11_walks_8 rfl h (fun σ H locs h hR => ?_)
  refine lv_aload_n hx hb dX11_walks_11 rfl (lv_at hl 0 rfl) ?_
  refine lv_iconst (v := 0) hx hb dX11_walks_12 (by decide) ?_
  refine hp_putI hX hR (ci := 10) 18 rfl wf11 tyX11_ok nmX11 (by decide) wq3_185 rfl dX11_walks_13 rfl h (fun σ H locs h hR => ?_)
  refine lv_iconst (v := 1) hx hb dX11_walks_16 (by decide) ?_
  refine lv_istore (lv' := [(5, .int 1), (0, .ref a0), (1, .int x1), (2, .int x2), (3, .int x3), (4, .int x4)]) hx hb dX11_walks_17 hl (by decide) rfl (fun ls hl => ?_)
  refine lv_iconst (v := 0) hx hb dX11_walks_19 (by decide) ?_
  refine lv_istore (lv' := [(6, .int 0), (5, .int 1), (0, .ref a0), (1, .int x1), (2, .int x2), (3, .int x3), (4, .int x4)]) hx hb dX11_walks_20 hl (by decide) rfl (fun ls hl => ?_)
  refine w_Mo_walks_l1 hX hlocks hr ?_ hp_F _ _ _ _ _ _ hR h (lv_sub hl [2, 3, 4, 5, 6, 1, 0] rfl)
  intro z29 z30 σ H locs ls hR hl h
  refine lv_aload_n hx hb dX11_walks_168 rfl (lv_at hl 0 rfl) ?_
  refine lv_iconst (v := 0) hx hb dX11_walks_169 (by decide) ?_
  refine hp_putI hX hR (ci := 10) 16 rfl wf11 tyX11_ok nmX11 (by decide) wq3_183 rfl dX11_walks_170 rfl h (fun σ H locs h hR => ?_)
  refine lv_iload hx hb dX11_walks_173 (lv_at hl 5 rfl) ?_
  refine lv_iconst (v := 1) hx hb dX11_walks_175 (by decide) ?_
  refine lv_iload_n hx hb dX11_walks_176 rfl (lv_at hl 1 rfl) ?_
  refine lv_ishl hx hb dX11_walks_177 ?_
  refine lv_ior hx hb dX11_walks_178 ?_
  refine lv_istore (lv' := [(7, .int (z30 ||| ((1 : Int32) <<< (x1 &&& 31)))), (0, .ref a0), (1, .int x1), (2, .int x2), (3, .int x3), (4, .int x4), (6, .int z30)]) hx hb dX11_walks_179 hl (by decide) rfl (fun ls hl => ?_)
  refine lv_iconst (v := 0) hx hb dX11_walks_181 (by decide) ?_
  refine lv_istore (lv' := [(8, .int 0), (7, .int (z30 ||| ((1 : Int32) <<< (x1 &&& 31)))), (0, .ref a0), (1, .int x1), (2, .int x2), (3, .int x3), (4, .int x4), (6, .int z30)]) hx hb dX11_walks_182 hl (by decide) rfl (fun ls hl => ?_)
  refine w_Mo_walks_l3 hX hlocks hr ?_ hp_F _ _ _ _ _ _ hR h (lv_sub hl [2, 4, 5, 6, 1, 0] rfl)
  intro z44 z45 σ H locs ls hR hl h
  refine lv_aload_n hx hb dX11_walks_259 rfl (lv_at hl 0 rfl) ?_
  refine lv_aload_n hx hb dX11_walks_260 rfl (lv_at hl 0 rfl) ?_
  refine hp_getI hX hR (ci := 10) 15 rfl wf11 (by decide) wq3_182 dX11_walks_261 h (fun v46 h => ?_)
  refine lv_iload hx hb dX11_walks_264 (lv_at hl 1 rfl) ?_
  refine lv_iconst (v := (-1)) hx hb dX11_walks_266 (by decide) ?_
  refine lv_ixor hx hb dX11_walks_267 ?_
  refine lv_iand hx hb dX11_walks_268 ?_
  refine hp_putI hX hR (ci := 10) 17 rfl wf11 tyX11_ok nmX11 (by decide) wq3_184 rfl dX11_walks_269 rfl h (fun σ H locs h hR => ?_)
  exact hp_vret hX hlocks hr hR h dX11_walks_272
/-! Mo.bits(I)I -/
abbrev rm_Mo_bits : Room := { frames := 0, cells := 0, slots := 0, locals := 0 }
theorem hd_Mo_bits : hp_d yX11_bits 1 := by decide +kernel
def f_Mo_bits_l1  (K : Int32 → Int32 → Option Int32) : Nat → Int32 → Int32 → Option Int32
  | 0, _, _ => none
  | n + 1, x1, x2 => if x2 ≤ 0 then (K x1 x2) else (f_Mo_bits_l1 K n (x1 + (x2 &&& 1)) (x2 >>> (1 &&& 31)))
def f_Mo_bits (x0 : Int32) : Option Int32 := f_Mo_bits_l1  (fun z2 z3 => some z2) hp_F 0 x0
set_option maxHeartbeats 4000000 in
set_option maxRecDepth 100000 in
theorem w_Mo_bits_l1 {p : Program} {l : Launch} {e : Env} {s : State} {m : MethodId} {args : Array Value} {below : List Frame} {meth : Method} {c : Code} {G : hp_G} {b : Nat} {σ : hp_H}  {r : Int32} {K : Int32 → Int32 → Option Int32} (hX : hp_X G p s m c args cX11_bits 3 RX11) (hlocks : meth.locks = false) (hr : meth.sig.returnType = (some .int))
    (hK : ∀ (x1 : Int32) (x2 : Int32) (H : Heap) (locs : List Loc) (ls : Array Slot), hp_R G b s.heap σ H locs → lv_has ls 3 [(1, .int x1)] → K x1 x2 = some r → W p l e rm_Mo_bits s m args below meth c H locs 0 0 (MQ below (hp_Qc G b (some (.int r)) σ) args s 0 0 (fun q => b ≤ q)) (F0 m 21 ls [])) :
    ∀ (n : Nat) (x1 : Int32) (x2 : Int32) (H : Heap) (locs : List Loc) (ls : Array Slot), hp_R G b s.heap σ H locs → f_Mo_bits_l1  K n x1 x2 = some r → lv_has ls 3 [(1, .int x1), (2, .int x2)] → W p l e rm_Mo_bits s m args below meth c H locs 0 0 (MQ below (hp_Qc G b (some (.int r)) σ) args s 0 0 (fun q => b ≤ q)) (F0 m 4 ls []) := by
  obtain ⟨hx, hb, hml, hown, hts⟩ := id hX.1
  intro n
  induction n with
  | zero =>
    intro x1 x2 H locs ls hR h hl
    rw [f_Mo_bits_l1] at h
    cases h
  | succ n ih =>
    intro x1 x2 H locs ls hR h hl
    rw [f_Mo_bits_l1] at h
    refine lv_iload_n hx hb dX11_bits_4 rfl (lv_at hl 1 rfl) ?_
    refine lv_if_le (tgt := 21) hx hb dX11_bits_5 (by decide) (fun c1 => ?_) (fun c1 => ?_)
    · have h := hp_ip c1 h
      exact hK _ _ _ _ _ hR (lv_sub hl [0] rfl) h
    · have h := hp_in c1 h
      refine lv_iload_n hx hb dX11_bits_8 rfl (lv_at hl 0 rfl) ?_
      refine lv_iload_n hx hb dX11_bits_9 rfl (lv_at hl 1 rfl) ?_
      refine lv_iconst (v := 1) hx hb dX11_bits_10 (by decide) ?_
      refine lv_iand hx hb dX11_bits_11 ?_
      refine lv_iadd hx hb dX11_bits_12 ?_
      refine lv_istore_n (lv' := [(1, .int (x1 + (x2 &&& 1))), (2, .int x2)]) hx hb dX11_bits_13 rfl hl (by decide) rfl (fun ls hl => ?_)
      refine lv_iload_n hx hb dX11_bits_14 rfl (lv_at hl 1 rfl) ?_
      refine lv_iconst (v := 1) hx hb dX11_bits_15 (by decide) ?_
      refine lv_ishr hx hb dX11_bits_16 ?_
      refine lv_istore_n (lv' := [(2, .int (x2 >>> (1 &&& 31))), (1, .int (x1 + (x2 &&& 1)))]) hx hb dX11_bits_17 rfl hl (by decide) rfl (fun ls hl => ?_)
      refine lv_goto (tgt := 4) hx hb dX11_bits_18 (by decide) ?_
      exact ih _ _ _ _ _ hR h (lv_sub hl [1, 0] rfl)
set_option maxHeartbeats 4000000 in
set_option maxRecDepth 100000 in
theorem c_Mo_bits {l : Launch} {G : hp_G} {b : Nat} {σ : hp_H} {x0 : Int32} {r : Int32} (h : f_Mo_bits x0 = some r) : hp_Met l yX11_bits cX11_bits 3 (some .int) rm_Mo_bits G b [.int x0] σ (some (.int r)) σ 0 0 := by
  refine hp_met (by decide +kernel) (Nat.le_of_ble_eq_true rfl) (fun p e s m below meth c ls hX hlocks hr hnm hl hR => ?_)
  obtain ⟨hx, hb, hml, hown, hts⟩ := id hX.1
  have hl : lv_has ls 3 [(0, .int x0)] := hl
  unfold f_Mo_bits at h
  refine lv_iconst (v := 0) hx hb dX11_bits_0 (by decide) ?_
  refine lv_istore_n (lv' := [(1, .int 0), (0, .int x0)]) hx hb dX11_bits_1 rfl hl (by decide) rfl (fun ls hl => ?_)
  refine lv_iload_n hx hb dX11_bits_2 rfl (lv_at hl 1 rfl) ?_
  refine lv_istore_n (lv' := [(2, .int x0), (1, .int 0), (0, .int x0)]) hx hb dX11_bits_3 rfl hl (by decide) rfl (fun ls hl => ?_)
  refine w_Mo_bits_l1 hX hlocks hr ?_ hp_F _ _ _ _ _ hR h (lv_sub hl [1, 0] rfl)
  intro z2 z3 H locs ls hR hl h
  refine lv_iload_n hx hb dX11_bits_21 rfl (lv_at hl 0 rfl) ?_
  exact hp_iretP hX hlocks hr hR h dX11_bits_22
theorem cs_X11_143 : hp_WV RX11 143 RX11 yX11_sets cX11_sets 4 none := ⟨wq4_161, wq4_163, wp3_6, wq1_11, wq4_164⟩
/-! Mo.logs(II)V -/
abbrev rm_Mo_logs : Room := { frames := 1, cells := 0, slots := 0, locals := 23 }
theorem hd_Mo_logs : hp_d yX11_logs 2 := by decide +kernel
def f_Mo_logs_l1 (a0 : Nat) (x1 : Int32) (x2 : Int32) (K : Int32 → hp_H → Option hp_H) : Nat → Int32 → hp_H → Option hp_H
  | 0, _, _ => none
  | n + 1, x3, σ => if x3 ≤ 0 then (K x3 σ) else ((f_Mo_of a0 x1 (((5 : Int32) + x3) - 1) σ).bind fun v3 => (f_Mo_sets a0 x1 ((5 : Int32) + x3) v3 σ).bind fun σ => f_Mo_logs_l1 a0 x1 x2 K n (x3 + (-1)) σ)
def f_Mo_logs (a0 : Nat) (x1 : Int32) (x2 : Int32) (σ : hp_H) : Option hp_H := hp_own σ a0 10 (f_Mo_logs_l1 a0 x1 x2 (fun z5 σ => (f_Mo_sets a0 x1 5 x2 σ).bind fun σ => (f_Mo_of a0 x1 2 σ).bind fun v8 => (f_Mo_sets a0 x1 2 (v8 + 1) σ).bind fun σ => some σ) hp_F 11 σ)
set_option maxHeartbeats 4000000 in
set_option maxRecDepth 100000 in
theorem w_Mo_logs_l1 {p : Program} {l : Launch} {e : Env} {s : State} {m : MethodId} {args : Array Value} {below : List Frame} {meth : Method} {c : Code} {G : hp_G} {b : Nat} {a0 : Nat} {x1 : Int32} {x2 : Int32} {σ' : hp_H} {K : Int32 → hp_H → Option hp_H} (hX : hp_X G p s m c args cX11_logs 4 RX11) (hlocks : meth.locks = false) (hr : meth.sig.returnType = none)
    (hK : ∀ (x3 : Int32) (σ : hp_H) (H : Heap) (locs : List Loc) (ls : Array Slot), hp_R G b s.heap σ H locs → lv_has ls 4 [(0, .ref a0), (1, .int x1), (2, .int x2)] → K x3 σ = some σ' → W p l e rm_Mo_logs s m args below meth c H locs 0 0 (MQ below (hp_Qc G b none σ') args s 0 0 (fun q => b ≤ q)) (F0 m 31 ls [])) :
    ∀ (n : Nat) (x3 : Int32) (σ : hp_H) (H : Heap) (locs : List Loc) (ls : Array Slot), hp_R G b s.heap σ H locs → f_Mo_logs_l1 a0 x1 x2 K n x3 σ = some σ' → lv_has ls 4 [(0, .ref a0), (1, .int x1), (2, .int x2), (3, .int x3)] → W p l e rm_Mo_logs s m args below meth c H locs 0 0 (MQ below (hp_Qc G b none σ') args s 0 0 (fun q => b ≤ q)) (F0 m 3 ls []) := by
  obtain ⟨hx, hb, hml, hown, hts⟩ := id hX.1
  intro n
  induction n with
  | zero =>
    intro x3 σ H locs ls hR h hl
    rw [f_Mo_logs_l1] at h
    cases h
  | succ n ih =>
    intro x3 σ H locs ls hR h hl
    rw [f_Mo_logs_l1] at h
    refine lv_iload_n hx hb dX11_logs_3 rfl (lv_at hl 3 rfl) ?_
    refine lv_if_le (tgt := 31) hx hb dX11_logs_4 (by decide) (fun c1 => ?_) (fun c1 => ?_)
    · have h := hp_ip c1 h
      exact hK _ _ _ _ _ hR (lv_sub hl [0, 1, 2] rfl) h
    · have h := hp_in c1 h
      refine lv_aload_n hx hb dX11_logs_7 rfl (lv_at hl 0 rfl) ?_
      refine lv_iload_n hx hb dX11_logs_8 rfl (lv_at hl 1 rfl) ?_
      refine lv_iconst (v := 5) hx hb dX11_logs_9 (by decide) ?_
      refine lv_iload_n hx hb dX11_logs_10 rfl (lv_at hl 3 rfl) ?_
      refine lv_iadd hx hb dX11_logs_11 ?_
      refine lv_aload_n hx hb dX11_logs_12 rfl (lv_at hl 0 rfl) ?_
      refine lv_iload_n hx hb dX11_logs_13 rfl (lv_at hl 1 rfl) ?_
      refine lv_iconst (v := 5) hx hb dX11_logs_14 (by decide) ?_
      refine lv_iload_n hx hb dX11_logs_15 rfl (lv_at hl 3 rfl) ?_
      refine lv_iadd hx hb dX11_logs_16 ?_
      refine lv_iconst (v := 1) hx hb dX11_logs_17 (by decide) ?_
      refine lv_isub hx hb dX11_logs_18 ?_
      refine hp_bn h (fun v3 h2 h => ?_)
      refine hp_ci hR (hp_runV (rest := [.int ((5 : Int32) + x3), .int x1, .ref a0]) (As := [.int x1, .int (((5 : Int32) + x3) - 1)]) hX hR (c_Mo_of h2) cs_X11_90 rfl rfl rfl hd_Mo_of ⟨Nat.le_of_ble_eq_true rfl, Nat.le_of_ble_eq_true rfl⟩ (ci := 10) rfl (hp_own_is h2) rfl hl.1 rfl (Nat.le_of_ble_eq_true rfl) dX11_logs_19 ⟨Nat.le_of_ble_eq_true rfl, Nat.le_of_ble_eq_true rfl⟩) (fun H locs hR => ?_)
      refine hp_bn h (fun σ h4 h => ?_)
      refine hp_cv hR (hp_runV (rest := []) (As := [.int x1, .int ((5 : Int32) + x3), .int v3]) hX hR (c_Mo_sets h4) cs_X11_143 rfl rfl rfl hd_Mo_sets ⟨Nat.le_of_ble_eq_true rfl, Nat.le_of_ble_eq_true rfl⟩ (ci := 10) rfl (hp_own_is h4) rfl hl.1 rfl (Nat.le_of_ble_eq_true rfl) dX11_logs_22 ⟨Nat.le_of_ble_eq_true rfl, Nat.le_of_ble_eq_true rfl⟩) (fun H locs hR => ?_)
      refine lv_iinc (v := (x3 + (-1))) (lv' := [(3, .int (x3 + (-1))), (0, .ref a0), (1, .int x1), (2, .int x2)]) hx hb dX11_logs_25 hl (k := 3) rfl rfl (by decide) rfl (fun ls hl => ?_)
      refine lv_goto (tgt := 3) hx hb dX11_logs_28 (by decide) ?_
      exact ih _ _ _ _ _ hR h (lv_sub hl [1, 2, 3, 0] rfl)
set_option maxHeartbeats 4000000 in
set_option maxRecDepth 100000 in
theorem c_Mo_logs {l : Launch} {G : hp_G} {b : Nat} {σ : hp_H} {a0 : Nat} {x1 : Int32} {x2 : Int32} {σ' : hp_H} (h : f_Mo_logs a0 x1 x2 σ = some σ') : hp_Met l yX11_logs cX11_logs 4 none rm_Mo_logs G b [.ref a0, .int x1, .int x2] σ none σ' 0 0 := by
  refine hp_met (by decide +kernel) (Nat.le_of_ble_eq_true rfl) (fun p e s m below meth c ls hX hlocks hr hnm hl hR => ?_)
  obtain ⟨hx, hb, hml, hown, hts⟩ := id hX.1
  have hl : lv_has ls 4 [(0, .ref a0), (1, .int x1), (2, .int x2)] := hl
  unfold f_Mo_logs at h
  have h := hp_own_to h
  refine lv_bipush (v := 11) hx hb dX11_logs_0 (by decide) ?_
  refine lv_istore_n (lv' := [(3, .int 11), (0, .ref a0), (1, .int x1), (2, .int x2)]) hx hb dX11_logs_2 rfl hl (by decide) rfl (fun ls hl => ?_)
  refine w_Mo_logs_l1 hX hlocks hr ?_ hp_F _ _ _ _ _ hR h (lv_sub hl [1, 2, 3, 0] rfl)
  intro z5 σ H locs ls hR hl h
  refine lv_aload_n hx hb dX11_logs_31 rfl (lv_at hl 0 rfl) ?_
  refine lv_iload_n hx hb dX11_logs_32 rfl (lv_at hl 1 rfl) ?_
  refine lv_iconst (v := 5) hx hb dX11_logs_33 (by decide) ?_
  refine lv_iload_n hx hb dX11_logs_34 rfl (lv_at hl 2 rfl) ?_
  refine hp_bn h (fun σ h6 h => ?_)
  refine hp_cv hR (hp_runV (rest := []) (As := [.int x1, .int 5, .int x2]) hX hR (c_Mo_sets h6) cs_X11_143 rfl rfl rfl hd_Mo_sets ⟨Nat.le_of_ble_eq_true rfl, Nat.le_of_ble_eq_true rfl⟩ (ci := 10) rfl (hp_own_is h6) rfl hl.1 rfl (Nat.le_of_ble_eq_true rfl) dX11_logs_35 ⟨Nat.le_of_ble_eq_true rfl, Nat.le_of_ble_eq_true rfl⟩) (fun H locs hR => ?_)
  refine lv_aload_n hx hb dX11_logs_38 rfl (lv_at hl 0 rfl) ?_
  refine lv_iload_n hx hb dX11_logs_39 rfl (lv_at hl 1 rfl) ?_
  refine lv_iconst (v := 2) hx hb dX11_logs_40 (by decide) ?_
  refine lv_aload_n hx hb dX11_logs_41 rfl (lv_at hl 0 rfl) ?_
  refine lv_iload_n hx hb dX11_logs_42 rfl (lv_at hl 1 rfl) ?_
  refine lv_iconst (v := 2) hx hb dX11_logs_43 (by decide) ?_
  refine hp_bn h (fun v8 h7 h => ?_)
  refine hp_ci hR (hp_runV (rest := [.int 2, .int x1, .ref a0]) (As := [.int x1, .int 2]) hX hR (c_Mo_of h7) cs_X11_90 rfl rfl rfl hd_Mo_of ⟨Nat.le_of_ble_eq_true rfl, Nat.le_of_ble_eq_true rfl⟩ (ci := 10) rfl (hp_own_is h7) rfl hl.1 rfl (Nat.le_of_ble_eq_true rfl) dX11_logs_44 ⟨Nat.le_of_ble_eq_true rfl, Nat.le_of_ble_eq_true rfl⟩) (fun H locs hR => ?_)
  refine lv_iconst (v := 1) hx hb dX11_logs_47 (by decide) ?_
  refine lv_iadd hx hb dX11_logs_48 ?_
  refine hp_bn h (fun σ h9 h => ?_)
  refine hp_cv hR (hp_runV (rest := []) (As := [.int x1, .int 2, .int (v8 + 1)]) hX hR (c_Mo_sets h9) cs_X11_143 rfl rfl rfl hd_Mo_sets ⟨Nat.le_of_ble_eq_true rfl, Nat.le_of_ble_eq_true rfl⟩ (ci := 10) rfl (hp_own_is h9) rfl hl.1 rfl (Nat.le_of_ble_eq_true rfl) dX11_logs_49 ⟨Nat.le_of_ble_eq_true rfl, Nat.le_of_ble_eq_true rfl⟩) (fun H locs hR => ?_)
  exact hp_vret hX hlocks hr hR h dX11_logs_52
/-! Mo.waits(II)V -/
abbrev rm_Mo_waits : Room := { frames := 1, cells := 0, slots := 0, locals := 23 }
theorem hd_Mo_waits : hp_d yX11_waits 2 := by decide +kernel
def f_Mo_waits_l1 (a0 : Nat) (x1 : Int32) (x2 : Int32) (K : Int32 → hp_H → Option hp_H) : Nat → Int32 → hp_H → Option hp_H
  | 0, _, _ => none
  | n + 1, x3, σ => if (7 : Int32) ≤ x3 then (K x3 σ) else ((f_Mo_of a0 x1 (((17 : Int32) + x3) + 1) σ).bind fun v12 => (f_Mo_sets a0 x1 ((17 : Int32) + x3) v12 σ).bind fun σ => f_Mo_waits_l1 a0 x1 x2 K n (x3 + 1) σ)
def f_Mo_waits (a0 : Nat) (x1 : Int32) (x2 : Int32) (σ : hp_H) : Option hp_H := hp_own σ a0 10 ((f_Mo_of a0 x1 4 σ).bind fun v2 => if v2 = 8 then (f_Mo_waits_l1 a0 x1 x2 (fun z14 σ => (f_Mo_sets a0 x1 4 7 σ).bind fun σ => (f_Mo_of a0 x1 3 σ).bind fun v17 => (f_Mo_sets a0 x1 3 (v17 + 1) σ).bind fun σ => (f_Mo_of a0 x1 4 σ).bind fun v20 => (f_Mo_sets a0 x1 ((17 : Int32) + v20) x2 σ).bind fun σ => (f_Mo_of a0 x1 4 σ).bind fun v23 => (f_Mo_sets a0 x1 4 (v23 + 1) σ).bind fun σ => some σ) hp_F 0 σ) else ((f_Mo_of a0 x1 4 σ).bind fun v5 => (f_Mo_sets a0 x1 ((17 : Int32) + v5) x2 σ).bind fun σ => (f_Mo_of a0 x1 4 σ).bind fun v8 => (f_Mo_sets a0 x1 4 (v8 + 1) σ).bind fun σ => some σ))
set_option maxHeartbeats 4000000 in
set_option maxRecDepth 100000 in
theorem w_Mo_waits_l1 {p : Program} {l : Launch} {e : Env} {s : State} {m : MethodId} {args : Array Value} {below : List Frame} {meth : Method} {c : Code} {G : hp_G} {b : Nat} {a0 : Nat} {x1 : Int32} {x2 : Int32} {σ' : hp_H} {K : Int32 → hp_H → Option hp_H} (hX : hp_X G p s m c args cX11_waits 4 RX11) (hlocks : meth.locks = false) (hr : meth.sig.returnType = none)
    (hK : ∀ (x3 : Int32) (σ : hp_H) (H : Heap) (locs : List Loc) (ls : Array Slot), hp_R G b s.heap σ H locs → lv_has ls 4 [(0, .ref a0), (1, .int x1), (2, .int x2)] → K x3 σ = some σ' → W p l e rm_Mo_waits s m args below meth c H locs 0 0 (MQ below (hp_Qc G b none σ') args s 0 0 (fun q => b ≤ q)) (F0 m 45 ls [])) :
    ∀ (n : Nat) (x3 : Int32) (σ : hp_H) (H : Heap) (locs : List Loc) (ls : Array Slot), hp_R G b s.heap σ H locs → f_Mo_waits_l1 a0 x1 x2 K n x3 σ = some σ' → lv_has ls 4 [(0, .ref a0), (1, .int x1), (2, .int x2), (3, .int x3)] → W p l e rm_Mo_waits s m args below meth c H locs 0 0 (MQ below (hp_Qc G b none σ') args s 0 0 (fun q => b ≤ q)) (F0 m 13 ls []) := by
  obtain ⟨hx, hb, hml, hown, hts⟩ := id hX.1
  intro n
  induction n with
  | zero =>
    intro x3 σ H locs ls hR h hl
    rw [f_Mo_waits_l1] at h
    cases h
  | succ n ih =>
    intro x3 σ H locs ls hR h hl
    rw [f_Mo_waits_l1] at h
    refine lv_iload_n hx hb dX11_waits_13 rfl (lv_at hl 3 rfl) ?_
    refine lv_bipush (v := 7) hx hb dX11_waits_14 (by decide) ?_
    refine lv_icmp_ge (tgt := 45) hx hb dX11_waits_16 (by decide) (fun c10 => ?_) (fun c10 => ?_)
    · have h := hp_ip c10 h
      exact hK _ _ _ _ _ hR (lv_sub hl [0, 1, 2] rfl) h
    · have h := hp_in c10 h
      refine lv_aload_n hx hb dX11_waits_19 rfl (lv_at hl 0 rfl) ?_
      refine lv_iload_n hx hb dX11_waits_20 rfl (lv_at hl 1 rfl) ?_
      refine lv_bipush (v := 17) hx hb dX11_waits_21 (by decide) ?_
      refine lv_iload_n hx hb dX11_waits_23 rfl (lv_at hl 3 rfl) ?_
      refine lv_iadd hx hb dX11_waits_24 ?_
      refine lv_aload_n hx hb dX11_waits_25 rfl (lv_at hl 0 rfl) ?_
      refine lv_iload_n hx hb dX11_waits_26 rfl (lv_at hl 1 rfl) ?_
      refine lv_bipush (v := 17) hx hb dX11_waits_27 (by decide) ?_
      refine lv_iload_n hx hb dX11_waits_29 rfl (lv_at hl 3 rfl) ?_
      refine lv_iadd hx hb dX11_waits_30 ?_
      refine lv_iconst (v := 1) hx hb dX11_waits_31 (by decide) ?_
      refine lv_iadd hx hb dX11_waits_32 ?_
      refine hp_bn h (fun v12 h11 h => ?_)
      refine hp_ci hR (hp_runV (rest := [.int ((17 : Int32) + x3), .int x1, .ref a0]) (As := [.int x1, .int (((17 : Int32) + x3) + 1)]) hX hR (c_Mo_of h11) cs_X11_90 rfl rfl rfl hd_Mo_of ⟨Nat.le_of_ble_eq_true rfl, Nat.le_of_ble_eq_true rfl⟩ (ci := 10) rfl (hp_own_is h11) rfl hl.1 rfl (Nat.le_of_ble_eq_true rfl) dX11_waits_33 ⟨Nat.le_of_ble_eq_true rfl, Nat.le_of_ble_eq_true rfl⟩) (fun H locs hR => ?_)
      refine hp_bn h (fun σ h13 h => ?_)
      refine hp_cv hR (hp_runV (rest := []) (As := [.int x1, .int ((17 : Int32) + x3), .int v12]) hX hR (c_Mo_sets h13) cs_X11_143 rfl rfl rfl hd_Mo_sets ⟨Nat.le_of_ble_eq_true rfl, Nat.le_of_ble_eq_true rfl⟩ (ci := 10) rfl (hp_own_is h13) rfl hl.1 rfl (Nat.le_of_ble_eq_true rfl) dX11_waits_36 ⟨Nat.le_of_ble_eq_true rfl, Nat.le_of_ble_eq_true rfl⟩) (fun H locs hR => ?_)
      refine lv_iinc (v := (x3 + 1)) (lv' := [(3, .int (x3 + 1)), (0, .ref a0), (1, .int x1), (2, .int x2)]) hx hb dX11_waits_39 hl (k := 3) rfl rfl (by decide) rfl (fun ls hl => ?_)
      refine lv_goto (tgt := 13) hx hb dX11_waits_42 (by decide) ?_
      exact ih _ _ _ _ _ hR h (lv_sub hl [1, 2, 3, 0] rfl)
set_option maxHeartbeats 4000000 in
set_option maxRecDepth 100000 in
theorem c_Mo_waits {l : Launch} {G : hp_G} {b : Nat} {σ : hp_H} {a0 : Nat} {x1 : Int32} {x2 : Int32} {σ' : hp_H} (h : f_Mo_waits a0 x1 x2 σ = some σ') : hp_Met l yX11_waits cX11_waits 4 none rm_Mo_waits G b [.ref a0, .int x1, .int x2] σ none σ' 0 0 := by
  refine hp_met (by decide +kernel) (Nat.le_of_ble_eq_true rfl) (fun p e s m below meth c ls hX hlocks hr hnm hl hR => ?_)
  obtain ⟨hx, hb, hml, hown, hts⟩ := id hX.1
  have hl : lv_has ls 4 [(0, .ref a0), (1, .int x1), (2, .int x2)] := hl
  unfold f_Mo_waits at h
  have h := hp_own_to h
  refine lv_aload_n hx hb dX11_waits_0 rfl (lv_at hl 0 rfl) ?_
  refine lv_iload_n hx hb dX11_waits_1 rfl (lv_at hl 1 rfl) ?_
  refine lv_iconst (v := 4) hx hb dX11_waits_2 (by decide) ?_
  refine hp_bn h (fun v2 h1 h => ?_)
  refine hp_ci hR (hp_runV (rest := []) (As := [.int x1, .int 4]) hX hR (c_Mo_of h1) cs_X11_90 rfl rfl rfl hd_Mo_of ⟨Nat.le_of_ble_eq_true rfl, Nat.le_of_ble_eq_true rfl⟩ (ci := 10) rfl (hp_own_is h1) rfl hl.1 rfl (Nat.le_of_ble_eq_true rfl) dX11_waits_3 ⟨Nat.le_of_ble_eq_true rfl, Nat.le_of_ble_eq_true rfl⟩) (fun H locs hR => ?_)
  refine lv_bipush (v := 8) hx hb dX11_waits_6 (by decide) ?_
  refine lv_icmp_ne (tgt := 67) hx hb dX11_waits_8 (by decide) (fun c3 => ?_) (fun c3 => ?_)
  · have h := hp_in c3 h
    refine lv_aload_n hx hb dX11_waits_67 rfl (lv_at hl 0 rfl) ?_
    refine lv_iload_n hx hb dX11_waits_68 rfl (lv_at hl 1 rfl) ?_
    refine lv_bipush (v := 17) hx hb dX11_waits_69 (by decide) ?_
    refine lv_aload_n hx hb dX11_waits_71 rfl (lv_at hl 0 rfl) ?_
    refine lv_iload_n hx hb dX11_waits_72 rfl (lv_at hl 1 rfl) ?_
    refine lv_iconst (v := 4) hx hb dX11_waits_73 (by decide) ?_
    refine hp_bn h (fun v5 h4 h => ?_)
    refine hp_ci hR (hp_runV (rest := [.int 17, .int x1, .ref a0]) (As := [.int x1, .int 4]) hX hR (c_Mo_of h4) cs_X11_90 rfl rfl rfl hd_Mo_of ⟨Nat.le_of_ble_eq_true rfl, Nat.le_of_ble_eq_true rfl⟩ (ci := 10) rfl (hp_own_is h4) rfl hl.1 rfl (Nat.le_of_ble_eq_true rfl) dX11_waits_74 ⟨Nat.le_of_ble_eq_true rfl, Nat.le_of_ble_eq_true rfl⟩) (fun H locs hR => ?_)
    refine lv_iadd hx hb dX11_waits_77 ?_
    refine lv_iload_n hx hb dX11_waits_78 rfl (lv_at hl 2 rfl) ?_
    refine hp_bn h (fun σ h6 h => ?_)
    refine hp_cv hR (hp_runV (rest := []) (As := [.int x1, .int ((17 : Int32) + v5), .int x2]) hX hR (c_Mo_sets h6) cs_X11_143 rfl rfl rfl hd_Mo_sets ⟨Nat.le_of_ble_eq_true rfl, Nat.le_of_ble_eq_true rfl⟩ (ci := 10) rfl (hp_own_is h6) rfl hl.1 rfl (Nat.le_of_ble_eq_true rfl) dX11_waits_79 ⟨Nat.le_of_ble_eq_true rfl, Nat.le_of_ble_eq_true rfl⟩) (fun H locs hR => ?_)
    refine lv_aload_n hx hb dX11_waits_82 rfl (lv_at hl 0 rfl) ?_
    refine lv_iload_n hx hb dX11_waits_83 rfl (lv_at hl 1 rfl) ?_
    refine lv_iconst (v := 4) hx hb dX11_waits_84 (by decide) ?_
    refine lv_aload_n hx hb dX11_waits_85 rfl (lv_at hl 0 rfl) ?_
    refine lv_iload_n hx hb dX11_waits_86 rfl (lv_at hl 1 rfl) ?_
    refine lv_iconst (v := 4) hx hb dX11_waits_87 (by decide) ?_
    refine hp_bn h (fun v8 h7 h => ?_)
    refine hp_ci hR (hp_runV (rest := [.int 4, .int x1, .ref a0]) (As := [.int x1, .int 4]) hX hR (c_Mo_of h7) cs_X11_90 rfl rfl rfl hd_Mo_of ⟨Nat.le_of_ble_eq_true rfl, Nat.le_of_ble_eq_true rfl⟩ (ci := 10) rfl (hp_own_is h7) rfl hl.1 rfl (Nat.le_of_ble_eq_true rfl) dX11_waits_88 ⟨Nat.le_of_ble_eq_true rfl, Nat.le_of_ble_eq_true rfl⟩) (fun H locs hR => ?_)
    refine lv_iconst (v := 1) hx hb dX11_waits_91 (by decide) ?_
    refine lv_iadd hx hb dX11_waits_92 ?_
    refine hp_bn h (fun σ h9 h => ?_)
    refine hp_cv hR (hp_runV (rest := []) (As := [.int x1, .int 4, .int (v8 + 1)]) hX hR (c_Mo_sets h9) cs_X11_143 rfl rfl rfl hd_Mo_sets ⟨Nat.le_of_ble_eq_true rfl, Nat.le_of_ble_eq_true rfl⟩ (ci := 10) rfl (hp_own_is h9) rfl hl.1 rfl (Nat.le_of_ble_eq_true rfl) dX11_waits_93 ⟨Nat.le_of_ble_eq_true rfl, Nat.le_of_ble_eq_true rfl⟩) (fun H locs hR => ?_)
    exact hp_vret hX hlocks hr hR h dX11_waits_96
  · have h := hp_ip c3 h
    refine lv_iconst (v := 0) hx hb dX11_waits_11 (by decide) ?_
    refine lv_istore_n (lv' := [(3, .int 0), (0, .ref a0), (1, .int x1), (2, .int x2)]) hx hb dX11_waits_12 rfl hl (by decide) rfl (fun ls hl => ?_)
    refine w_Mo_waits_l1 hX hlocks hr ?_ hp_F _ _ _ _ _ hR h (lv_sub hl [1, 2, 3, 0] rfl)
    intro z14 σ H locs ls hR hl h
    refine lv_aload_n hx hb dX11_waits_45 rfl (lv_at hl 0 rfl) ?_
    refine lv_iload_n hx hb dX11_waits_46 rfl (lv_at hl 1 rfl) ?_
    refine lv_iconst (v := 4) hx hb dX11_waits_47 (by decide) ?_
    refine lv_bipush (v := 7) hx hb dX11_waits_48 (by decide) ?_
    refine hp_bn h (fun σ h15 h => ?_)
    refine hp_cv hR (hp_runV (rest := []) (As := [.int x1, .int 4, .int 7]) hX hR (c_Mo_sets h15) cs_X11_143 rfl rfl rfl hd_Mo_sets ⟨Nat.le_of_ble_eq_true rfl, Nat.le_of_ble_eq_true rfl⟩ (ci := 10) rfl (hp_own_is h15) rfl hl.1 rfl (Nat.le_of_ble_eq_true rfl) dX11_waits_50 ⟨Nat.le_of_ble_eq_true rfl, Nat.le_of_ble_eq_true rfl⟩) (fun H locs hR => ?_)
    refine lv_aload_n hx hb dX11_waits_53 rfl (lv_at hl 0 rfl) ?_
    refine lv_iload_n hx hb dX11_waits_54 rfl (lv_at hl 1 rfl) ?_
    refine lv_iconst (v := 3) hx hb dX11_waits_55 (by decide) ?_
    refine lv_aload_n hx hb dX11_waits_56 rfl (lv_at hl 0 rfl) ?_
    refine lv_iload_n hx hb dX11_waits_57 rfl (lv_at hl 1 rfl) ?_
    refine lv_iconst (v := 3) hx hb dX11_waits_58 (by decide) ?_
    refine hp_bn h (fun v17 h16 h => ?_)
    refine hp_ci hR (hp_runV (rest := [.int 3, .int x1, .ref a0]) (As := [.int x1, .int 3]) hX hR (c_Mo_of h16) cs_X11_90 rfl rfl rfl hd_Mo_of ⟨Nat.le_of_ble_eq_true rfl, Nat.le_of_ble_eq_true rfl⟩ (ci := 10) rfl (hp_own_is h16) rfl hl.1 rfl (Nat.le_of_ble_eq_true rfl) dX11_waits_59 ⟨Nat.le_of_ble_eq_true rfl, Nat.le_of_ble_eq_true rfl⟩) (fun H locs hR => ?_)
    refine lv_iconst (v := 1) hx hb dX11_waits_62 (by decide) ?_
    refine lv_iadd hx hb dX11_waits_63 ?_
    refine hp_bn h (fun σ h18 h => ?_)
    refine hp_cv hR (hp_runV (rest := []) (As := [.int x1, .int 3, .int (v17 + 1)]) hX hR (c_Mo_sets h18) cs_X11_143 rfl rfl rfl hd_Mo_sets ⟨Nat.le_of_ble_eq_true rfl, Nat.le_of_ble_eq_true rfl⟩ (ci := 10) rfl (hp_own_is h18) rfl hl.1 rfl (Nat.le_of_ble_eq_true rfl) dX11_waits_64 ⟨Nat.le_of_ble_eq_true rfl, Nat.le_of_ble_eq_true rfl⟩) (fun H locs hR => ?_)
    refine lv_aload_n hx hb dX11_waits_67 rfl (lv_at hl 0 rfl) ?_
    refine lv_iload_n hx hb dX11_waits_68 rfl (lv_at hl 1 rfl) ?_
    refine lv_bipush (v := 17) hx hb dX11_waits_69 (by decide) ?_
    refine lv_aload_n hx hb dX11_waits_71 rfl (lv_at hl 0 rfl) ?_
    refine lv_iload_n hx hb dX11_waits_72 rfl (lv_at hl 1 rfl) ?_
    refine lv_iconst (v := 4) hx hb dX11_waits_73 (by decide) ?_
    refine hp_bn h (fun v20 h19 h => ?_)
    refine hp_ci hR (hp_runV (rest := [.int 17, .int x1, .ref a0]) (As := [.int x1, .int 4]) hX hR (c_Mo_of h19) cs_X11_90 rfl rfl rfl hd_Mo_of ⟨Nat.le_of_ble_eq_true rfl, Nat.le_of_ble_eq_true rfl⟩ (ci := 10) rfl (hp_own_is h19) rfl hl.1 rfl (Nat.le_of_ble_eq_true rfl) dX11_waits_74 ⟨Nat.le_of_ble_eq_true rfl, Nat.le_of_ble_eq_true rfl⟩) (fun H locs hR => ?_)
    refine lv_iadd hx hb dX11_waits_77 ?_
    refine lv_iload_n hx hb dX11_waits_78 rfl (lv_at hl 2 rfl) ?_
    refine hp_bn h (fun σ h21 h => ?_)
    refine hp_cv hR (hp_runV (rest := []) (As := [.int x1, .int ((17 : Int32) + v20), .int x2]) hX hR (c_Mo_sets h21) cs_X11_143 rfl rfl rfl hd_Mo_sets ⟨Nat.le_of_ble_eq_true rfl, Nat.le_of_ble_eq_true rfl⟩ (ci := 10) rfl (hp_own_is h21) rfl hl.1 rfl (Nat.le_of_ble_eq_true rfl) dX11_waits_79 ⟨Nat.le_of_ble_eq_true rfl, Nat.le_of_ble_eq_true rfl⟩) (fun H locs hR => ?_)
    refine lv_aload_n hx hb dX11_waits_82 rfl (lv_at hl 0 rfl) ?_
    refine lv_iload_n hx hb dX11_waits_83 rfl (lv_at hl 1 rfl) ?_
    refine lv_iconst (v := 4) hx hb dX11_waits_84 (by decide) ?_
    refine lv_aload_n hx hb dX11_waits_85 rfl (lv_at hl 0 rfl) ?_
    refine lv_iload_n hx hb dX11_waits_86 rfl (lv_at hl 1 rfl) ?_
    refine lv_iconst (v := 4) hx hb dX11_waits_87 (by decide) ?_
    refine hp_bn h (fun v23 h22 h => ?_)
    refine hp_ci hR (hp_runV (rest := [.int 4, .int x1, .ref a0]) (As := [.int x1, .int 4]) hX hR (c_Mo_of h22) cs_X11_90 rfl rfl rfl hd_Mo_of ⟨Nat.le_of_ble_eq_true rfl, Nat.le_of_ble_eq_true rfl⟩ (ci := 10) rfl (hp_own_is h22) rfl hl.1 rfl (Nat.le_of_ble_eq_true rfl) dX11_waits_88 ⟨Nat.le_of_ble_eq_true rfl, Nat.le_of_ble_eq_true rfl⟩) (fun H locs hR => ?_)
    refine lv_iconst (v := 1) hx hb dX11_waits_91 (by decide) ?_
    refine lv_iadd hx hb dX11_waits_92 ?_
    refine hp_bn h (fun σ h24 h => ?_)
    refine hp_cv hR (hp_runV (rest := []) (As := [.int x1, .int 4, .int (v23 + 1)]) hX hR (c_Mo_sets h24) cs_X11_143 rfl rfl rfl hd_Mo_sets ⟨Nat.le_of_ble_eq_true rfl, Nat.le_of_ble_eq_true rfl⟩ (ci := 10) rfl (hp_own_is h24) rfl hl.1 rfl (Nat.le_of_ble_eq_true rfl) dX11_waits_93 ⟨Nat.le_of_ble_eq_true rfl, Nat.le_of_ble_eq_true rfl⟩) (fun H locs hR => ?_)
    exact hp_vret hX hlocks hr hR h dX11_waits_96
theorem cs_X11_147 : hp_WV RX11 147 RX11 yX11_walks cX11_walks 10 none := ⟨wq4_133, wq4_135, wp3_2, wq1_11, wq4_136⟩
theorem cs_X11_154 : hp_WV RX11 154 RX11 yX11_waits cX11_waits 4 none := ⟨wq4_200, wq4_202, wp3_11, wq1_11, wq4_203⟩
theorem cs_X11_151 : hp_WV RX11 151 RX11 yX11_logs cX11_logs 4 none := ⟨wq4_196, wq4_198, wp3_10, wq1_11, wq4_199⟩
theorem cs_X11_157 : hp_WS RX11 157 yX11_bits cX11_bits 3 (some .int) := ⟨wq4_204, wq4_205, wq1_11, wq4_206⟩
/-! Mo.puts(IIII)I -/
abbrev rm_Mo_puts : Room := { frames := 8, cells := 0, slots := 0, locals := 193 }
theorem hd_Mo_puts : hp_d yX11_puts 4 := by decide +kernel
def f_Mo_puts_l1 (a0 : Nat) (K : Int32 → hp_H → Option (Int32 × hp_H)) : Nat → Int32 → hp_H → Option (Int32 × hp_H)
  | 0, _, _ => none
  | n + 1, x5, σ => (hp_gR σ a0 10 0).bind fun q2 => (hp_aI σ q2 0 1).bind fun v3 => if v3 ≤ x5 then (K x5 σ) else ((hp_gI σ a0 10 16).bind fun v5 => if ((v5 >>> (x5 &&& 31)) &&& 1) = 1 then ((f_Mo_of a0 x5 1 σ).bind fun v13 => if v13 = 1 then ((hp_gR σ a0 10 0).bind fun q20 => (hp_aI σ q20 0 4).bind fun v21 => (f_Mo_logs a0 x5 v21 σ).bind fun σ => f_Mo_puts_l1 a0 K n (x5 + 1) σ) else ((hp_gI σ a0 10 16).bind fun v15 => if ((v15 >>> (x5 &&& 31)) &&& 1) = 1 then ((hp_gR σ a0 10 0).bind fun q17 => (hp_aI σ q17 0 4).bind fun v18 => (f_Mo_waits a0 x5 v18 σ).bind fun σ => f_Mo_puts_l1 a0 K n (x5 + 1) σ) else (f_Mo_puts_l1 a0 K n (x5 + 1) σ))) else ((hp_gI σ a0 10 16).bind fun v7 => if ((v7 >>> (x5 &&& 31)) &&& 1) = 1 then ((hp_gR σ a0 10 0).bind fun q9 => (hp_aI σ q9 0 4).bind fun v10 => (f_Mo_waits a0 x5 v10 σ).bind fun σ => f_Mo_puts_l1 a0 K n (x5 + 1) σ) else (f_Mo_puts_l1 a0 K n (x5 + 1) σ)))
def f_Mo_puts (a0 : Nat) (x1 : Int32) (x2 : Int32) (x3 : Int32) (x4 : Int32) (σ : hp_H) : Option (Int32 × hp_H) := hp_own σ a0 10 ((f_Mo_walks a0 x1 x2 x3 x4 σ).bind fun σ => f_Mo_puts_l1 a0 (fun z23 σ => (hp_gR σ a0 10 0).bind fun q24 => (hp_aI σ q24 0 4).bind fun v25 => (hp_sI σ q24 0 4 (v25 + 1)).bind fun σ => (hp_gR σ a0 10 0).bind fun q26 => (hp_aI σ q26 0 5).bind fun v27 => (hp_gI σ a0 10 18).bind fun v28 => (hp_sI σ q26 0 5 (v27 + v28)).bind fun σ => (hp_gR σ a0 10 0).bind fun q29 => (hp_aI σ q29 0 6).bind fun v30 => (hp_gI σ a0 10 17).bind fun v31 => (f_Mo_bits v31).bind fun v33 => (hp_sI σ q29 0 6 (v30 + v33)).bind fun σ => (hp_gI σ a0 10 16).bind fun v34 => (f_Mo_bits v34).bind fun v36 => some (v36, σ)) hp_F 0 σ)
set_option maxHeartbeats 4000000 in
set_option maxRecDepth 100000 in
theorem w_Mo_puts_l1 {p : Program} {l : Launch} {e : Env} {s : State} {m : MethodId} {args : Array Value} {below : List Frame} {meth : Method} {c : Code} {G : hp_G} {b : Nat} {a0 : Nat} {r : Int32} {σ' : hp_H} {K : Int32 → hp_H → Option (Int32 × hp_H)} (hX : hp_X G p s m c args cX11_puts 6 RX11) (hlocks : meth.locks = false) (hr : meth.sig.returnType = (some .int))
    (hK : ∀ (x5 : Int32) (σ : hp_H) (H : Heap) (locs : List Loc) (ls : Array Slot), hp_R G b s.heap σ H locs → lv_has ls 6 [(0, .ref a0)] → K x5 σ = some (r, σ') → W p l e rm_Mo_puts s m args below meth c H locs 0 0 (MQ below (hp_Qc G b (some (.int r)) σ') args s 0 0 (fun q => b ≤ q)) (F0 m 93 ls [])) :
    ∀ (n : Nat) (x5 : Int32) (σ : hp_H) (H : Heap) (locs : List Loc) (ls : Array Slot), hp_R G b s.heap σ H locs → f_Mo_puts_l1 a0 K n x5 σ = some (r, σ') → lv_has ls 6 [(0, .ref a0), (5, .int x5)] → W p l e rm_Mo_puts s m args below meth c H locs 0 0 (MQ below (hp_Qc G b (some (.int r)) σ') args s 0 0 (fun q => b ≤ q)) (F0 m 12 ls []) := by
  obtain ⟨hx, hb, hml, hown, hts⟩ := id hX.1
  intro n
  induction n with
  | zero =>
    intro x5 σ H locs ls hR h hl
    rw [f_Mo_puts_l1] at h
    cases h
  | succ n ih =>
    intro x5 σ H locs ls hR h hl
    rw [f_Mo_puts_l1] at h
    refine lv_iload hx hb dX11_puts_12 (lv_at hl 1 rfl) ?_
    refine lv_aload_n hx hb dX11_puts_14 rfl (lv_at hl 0 rfl) ?_
    refine hp_getR hX hR (ci := 10) 0 rfl wf11 (by decide) wq3_167 dX11_puts_15 h (fun q2 h => ?_)
    refine lv_iconst (v := 1) hx hb dX11_puts_18 (by decide) ?_
    refine hp_iald hX hR dX11_puts_19 h (fun v3 h => ?_)
    refine lv_icmp_ge (tgt := 93) hx hb dX11_puts_20 (by decide) (fun c4 => ?_) (fun c4 => ?_)
    · have h := hp_ip c4 h
      exact hK _ _ _ _ _ hR (lv_sub hl [0] rfl) h
    · have h := hp_in c4 h
      refine lv_aload_n hx hb dX11_puts_23 rfl (lv_at hl 0 rfl) ?_
      refine hp_getI hX hR (ci := 10) 16 rfl wf11 (by decide) wq3_183 dX11_puts_24 h (fun v5 h => ?_)
      refine lv_iload hx hb dX11_puts_27 (lv_at hl 1 rfl) ?_
      refine lv_ishr hx hb dX11_puts_29 ?_
      refine lv_iconst (v := 1) hx hb dX11_puts_30 (by decide) ?_
      refine lv_iand hx hb dX11_puts_31 ?_
      refine lv_iconst (v := 1) hx hb dX11_puts_32 (by decide) ?_
      refine lv_icmp_ne (tgt := 62) hx hb dX11_puts_33 (by decide) (fun c6 => ?_) (fun c6 => ?_)
      · have h := hp_in c6 h
        refine lv_aload_n hx hb dX11_puts_62 rfl (lv_at hl 0 rfl) ?_
        refine hp_getI hX hR (ci := 10) 16 rfl wf11 (by decide) wq3_183 dX11_puts_63 h (fun v7 h => ?_)
        refine lv_iload hx hb dX11_puts_66 (lv_at hl 1 rfl) ?_
        refine lv_ishr hx hb dX11_puts_68 ?_
        refine lv_iconst (v := 1) hx hb dX11_puts_69 (by decide) ?_
        refine lv_iand hx hb dX11_puts_70 ?_
        refine lv_iconst (v := 1) hx hb dX11_puts_71 (by decide) ?_
        refine lv_icmp_ne (tgt := 87) hx hb dX11_puts_72 (by decide) (fun c8 => ?_) (fun c8 => ?_)
        · have h := hp_in c8 h
          refine lv_iinc (v := (x5 + 1)) (lv' := [(5, .int (x5 + 1)), (0, .ref a0)]) hx hb dX11_puts_87 hl (k := 1) rfl rfl (by decide) rfl (fun ls hl => ?_)
          refine lv_goto (tgt := 12) hx hb dX11_puts_90 (by decide) ?_
          exact ih _ _ _ _ _ hR h (lv_sub hl [1, 0] rfl)
        · have h := hp_ip c8 h
          refine lv_aload_n hx hb dX11_puts_75 rfl (lv_at hl 0 rfl) ?_
          refine lv_iload hx hb dX11_puts_76 (lv_at hl 1 rfl) ?_
          refine lv_aload_n hx hb dX11_puts_78 rfl (lv_at hl 0 rfl) ?_
          refine hp_getR hX hR (ci := 10) 0 rfl wf11 (by decide) wq3_167 dX11_puts_79 h (fun q9 h => ?_)
          refine lv_iconst (v := 4) hx hb dX11_puts_82 (by decide) ?_
          refine hp_iald hX hR dX11_puts_83 h (fun v10 h => ?_)
          refine hp_bn h (fun σ h11 h => ?_)
          refine hp_cv hR (hp_runV (rest := []) (As := [.int x5, .int v10]) hX hR (c_Mo_waits h11) cs_X11_154 rfl rfl rfl hd_Mo_waits ⟨Nat.le_of_ble_eq_true rfl, Nat.le_of_ble_eq_true rfl⟩ (ci := 10) rfl (hp_own_is h11) rfl hl.1 rfl (Nat.le_of_ble_eq_true rfl) dX11_puts_84 ⟨Nat.le_of_ble_eq_true rfl, Nat.le_of_ble_eq_true rfl⟩) (fun H locs hR => ?_)
          refine lv_iinc (v := (x5 + 1)) (lv' := [(5, .int (x5 + 1)), (0, .ref a0)]) hx hb dX11_puts_87 hl (k := 1) rfl rfl (by decide) rfl (fun ls hl => ?_)
          refine lv_goto (tgt := 12) hx hb dX11_puts_90 (by decide) ?_
          exact ih _ _ _ _ _ hR h (lv_sub hl [1, 0] rfl)
      · have h := hp_ip c6 h
        refine lv_aload_n hx hb dX11_puts_36 rfl (lv_at hl 0 rfl) ?_
        refine lv_iload hx hb dX11_puts_37 (lv_at hl 1 rfl) ?_
        refine lv_iconst (v := 1) hx hb dX11_puts_39 (by decide) ?_
        refine hp_bn h (fun v13 h12 h => ?_)
        refine hp_ci hR (hp_runV (rest := []) (As := [.int x5, .int 1]) hX hR (c_Mo_of h12) cs_X11_90 rfl rfl rfl hd_Mo_of ⟨Nat.le_of_ble_eq_true rfl, Nat.le_of_ble_eq_true rfl⟩ (ci := 10) rfl (hp_own_is h12) rfl hl.1 rfl (Nat.le_of_ble_eq_true rfl) dX11_puts_40 ⟨Nat.le_of_ble_eq_true rfl, Nat.le_of_ble_eq_true rfl⟩) (fun H locs hR => ?_)
        refine lv_iconst (v := 1) hx hb dX11_puts_43 (by decide) ?_
        refine lv_icmp_ne (tgt := 62) hx hb dX11_puts_44 (by decide) (fun c14 => ?_) (fun c14 => ?_)
        · have h := hp_in c14 h
          refine lv_aload_n hx hb dX11_puts_62 rfl (lv_at hl 0 rfl) ?_
          refine hp_getI hX hR (ci := 10) 16 rfl wf11 (by decide) wq3_183 dX11_puts_63 h (fun v15 h => ?_)
          refine lv_iload hx hb dX11_puts_66 (lv_at hl 1 rfl) ?_
          refine lv_ishr hx hb dX11_puts_68 ?_
          refine lv_iconst (v := 1) hx hb dX11_puts_69 (by decide) ?_
          refine lv_iand hx hb dX11_puts_70 ?_
          refine lv_iconst (v := 1) hx hb dX11_puts_71 (by decide) ?_
          refine lv_icmp_ne (tgt := 87) hx hb dX11_puts_72 (by decide) (fun c16 => ?_) (fun c16 => ?_)
          · have h := hp_in c16 h
            refine lv_iinc (v := (x5 + 1)) (lv' := [(5, .int (x5 + 1)), (0, .ref a0)]) hx hb dX11_puts_87 hl (k := 1) rfl rfl (by decide) rfl (fun ls hl => ?_)
            refine lv_goto (tgt := 12) hx hb dX11_puts_90 (by decide) ?_
            exact ih _ _ _ _ _ hR h (lv_sub hl [1, 0] rfl)
          · have h := hp_ip c16 h
            refine lv_aload_n hx hb dX11_puts_75 rfl (lv_at hl 0 rfl) ?_
            refine lv_iload hx hb dX11_puts_76 (lv_at hl 1 rfl) ?_
            refine lv_aload_n hx hb dX11_puts_78 rfl (lv_at hl 0 rfl) ?_
            refine hp_getR hX hR (ci := 10) 0 rfl wf11 (by decide) wq3_167 dX11_puts_79 h (fun q17 h => ?_)
            refine lv_iconst (v := 4) hx hb dX11_puts_82 (by decide) ?_
            refine hp_iald hX hR dX11_puts_83 h (fun v18 h => ?_)
            refine hp_bn h (fun σ h19 h => ?_)
            refine hp_cv hR (hp_runV (rest := []) (As := [.int x5, .int v18]) hX hR (c_Mo_waits h19) cs_X11_154 rfl rfl rfl hd_Mo_waits ⟨Nat.le_of_ble_eq_true rfl, Nat.le_of_ble_eq_true rfl⟩ (ci := 10) rfl (hp_own_is h19) rfl hl.1 rfl (Nat.le_of_ble_eq_true rfl) dX11_puts_84 ⟨Nat.le_of_ble_eq_true rfl, Nat.le_of_ble_eq_true rfl⟩) (fun H locs hR => ?_)
            refine lv_iinc (v := (x5 + 1)) (lv' := [(5, .int (x5 + 1)), (0, .ref a0)]) hx hb dX11_puts_87 hl (k := 1) rfl rfl (by decide) rfl (fun ls hl => ?_)
            refine lv_goto (tgt := 12) hx hb dX11_puts_90 (by decide) ?_
            exact ih _ _ _ _ _ hR h (lv_sub hl [1, 0] rfl)
        · have h := hp_ip c14 h
          refine lv_aload_n hx hb dX11_puts_47 rfl (lv_at hl 0 rfl) ?_
          refine lv_iload hx hb dX11_puts_48 (lv_at hl 1 rfl) ?_
          refine lv_aload_n hx hb dX11_puts_50 rfl (lv_at hl 0 rfl) ?_
          refine hp_getR hX hR (ci := 10) 0 rfl wf11 (by decide) wq3_167 dX11_puts_51 h (fun q20 h => ?_)
          refine lv_iconst (v := 4) hx hb dX11_puts_54 (by decide) ?_
          refine hp_iald hX hR dX11_puts_55 h (fun v21 h => ?_)
          refine hp_bn h (fun σ h22 h => ?_)
          refine hp_cv hR (hp_runV (rest := []) (As := [.int x5, .int v21]) hX hR (c_Mo_logs h22) cs_X11_151 rfl rfl rfl hd_Mo_logs ⟨Nat.le_of_ble_eq_true rfl, Nat.le_of_ble_eq_true rfl⟩ (ci := 10) rfl (hp_own_is h22) rfl hl.1 rfl (Nat.le_of_ble_eq_true rfl) dX11_puts_56 ⟨Nat.le_of_ble_eq_true rfl, Nat.le_of_ble_eq_true rfl⟩) (fun H locs hR => ?_)
          refine lv_goto (tgt := 87) hx hb dX11_puts_59 (by decide) ?_
          refine lv_iinc (v := (x5 + 1)) (lv' := [(5, .int (x5 + 1)), (0, .ref a0)]) hx hb dX11_puts_87 hl (k := 1) rfl rfl (by decide) rfl (fun ls hl => ?_)
          refine lv_goto (tgt := 12) hx hb dX11_puts_90 (by decide) ?_
          exact ih _ _ _ _ _ hR h (lv_sub hl [1, 0] rfl)
set_option maxHeartbeats 4000000 in
set_option maxRecDepth 100000 in
theorem c_Mo_puts {l : Launch} {G : hp_G} {b : Nat} {σ : hp_H} {a0 : Nat} {x1 : Int32} {x2 : Int32} {x3 : Int32} {x4 : Int32} {r : Int32} {σ' : hp_H} (h : f_Mo_puts a0 x1 x2 x3 x4 σ = some (r, σ')) : hp_Met l yX11_puts cX11_puts 6 (some .int) rm_Mo_puts G b [.ref a0, .int x1, .int x2, .int x3, .int x4] σ (some (.int r)) σ' 0 0 := by
  refine hp_met (by decide +kernel) (Nat.le_of_ble_eq_true rfl) (fun p e s m below meth c ls hX hlocks hr hnm hl hR => ?_)
  obtain ⟨hx, hb, hml, hown, hts⟩ := id hX.1
  have hl : lv_has ls 6 [(0, .ref a0), (1, .int x1), (2, .int x2), (3, .int x3), (4, .int x4)] := hl
  unfold f_Mo_puts at h
  have h := hp_own_to h
  refine lv_aload_n hx hb dX11_puts_0 rfl (lv_at hl 0 rfl) ?_
  refine lv_iload_n hx hb dX11_puts_1 rfl (lv_at hl 1 rfl) ?_
  refine lv_iload_n hx hb dX11_puts_2 rfl (lv_at hl 2 rfl) ?_
  refine lv_iload_n hx hb dX11_puts_3 rfl (lv_at hl 3 rfl) ?_
  refine lv_iload hx hb dX11_puts_4 (lv_at hl 4 rfl) ?_
  refine hp_bn h (fun σ h1 h => ?_)
  refine hp_cv hR (hp_runV (rest := []) (As := [.int x1, .int x2, .int x3, .int x4]) hX hR (c_Mo_walks h1) cs_X11_147 rfl rfl rfl hd_Mo_walks ⟨Nat.le_of_ble_eq_true rfl, Nat.le_of_ble_eq_true rfl⟩ (ci := 10) rfl (hp_own_is h1) rfl hl.1 rfl (Nat.le_of_ble_eq_true rfl) dX11_puts_6 ⟨Nat.le_of_ble_eq_true rfl, Nat.le_of_ble_eq_true rfl⟩) (fun H locs hR => ?_)
  refine lv_iconst (v := 0) hx hb dX11_puts_9 (by decide) ?_
  refine lv_istore (lv' := [(5, .int 0), (0, .ref a0), (1, .int x1), (2, .int x2), (3, .int x3), (4, .int x4)]) hx hb dX11_puts_10 hl (by decide) rfl (fun ls hl => ?_)
  refine w_Mo_puts_l1 hX hlocks hr ?_ hp_F _ _ _ _ _ hR h (lv_sub hl [1, 0] rfl)
  intro z23 σ H locs ls hR hl h
  refine lv_aload_n hx hb dX11_puts_93 rfl (lv_at hl 0 rfl) ?_
  refine hp_getR hX hR (ci := 10) 0 rfl wf11 (by decide) wq3_167 dX11_puts_94 h (fun q24 h => ?_)
  refine lv_iconst (v := 4) hx hb dX11_puts_97 (by decide) ?_
  refine lv_dup2_11 hx hb dX11_puts_98 rfl rfl ?_
  refine hp_iald hX hR dX11_puts_99 h (fun v25 h => ?_)
  refine lv_iconst (v := 1) hx hb dX11_puts_100 (by decide) ?_
  refine lv_iadd hx hb dX11_puts_101 ?_
  refine hp_iast hX hR dX11_puts_102 h (fun σ H locs h hR => ?_)
  refine lv_aload_n hx hb dX11_puts_103 rfl (lv_at hl 0 rfl) ?_
  refine hp_getR hX hR (ci := 10) 0 rfl wf11 (by decide) wq3_167 dX11_puts_104 h (fun q26 h => ?_)
  refine lv_iconst (v := 5) hx hb dX11_puts_107 (by decide) ?_
  refine lv_dup2_11 hx hb dX11_puts_108 rfl rfl ?_
  refine hp_iald hX hR dX11_puts_109 h (fun v27 h => ?_)
  refine lv_aload_n hx hb dX11_puts_110 rfl (lv_at hl 0 rfl) ?_
  refine hp_getI hX hR (ci := 10) 18 rfl wf11 (by decide) wq3_185 dX11_puts_111 h (fun v28 h => ?_)
  refine lv_iadd hx hb dX11_puts_114 ?_
  refine hp_iast hX hR dX11_puts_115 h (fun σ H locs h hR => ?_)
  refine lv_aload_n hx hb dX11_puts_116 rfl (lv_at hl 0 rfl) ?_
  refine hp_getR hX hR (ci := 10) 0 rfl wf11 (by decide) wq3_167 dX11_puts_117 h (fun q29 h => ?_)
  refine lv_bipush (v := 6) hx hb dX11_puts_120 (by decide) ?_
  refine lv_dup2_11 hx hb dX11_puts_122 rfl rfl ?_
  refine hp_iald hX hR dX11_puts_123 h (fun v30 h => ?_)
  refine lv_aload_n hx hb dX11_puts_124 rfl (lv_at hl 0 rfl) ?_
  refine hp_getI hX hR (ci := 10) 17 rfl wf11 (by decide) wq3_184 dX11_puts_125 h (fun v31 h => ?_)
  refine hp_bn h (fun v33 h32 h => ?_)
  refine hp_ci hR (hp_runS (rest := [.int v30, .int 6, .ref q29]) (As := [.int v31]) hX hR (c_Mo_bits h32) cs_X11_157 rfl rfl hd_Mo_bits ⟨Nat.le_of_ble_eq_true rfl, Nat.le_of_ble_eq_true rfl⟩ rfl hl.1 rfl (Nat.le_of_ble_eq_true rfl) dX11_puts_128 ⟨Nat.le_of_ble_eq_true rfl, Nat.le_of_ble_eq_true rfl⟩) (fun H locs hR => ?_)
  refine lv_iadd hx hb dX11_puts_131 ?_
  refine hp_iast hX hR dX11_puts_132 h (fun σ H locs h hR => ?_)
  refine lv_aload_n hx hb dX11_puts_133 rfl (lv_at hl 0 rfl) ?_
  refine hp_getI hX hR (ci := 10) 16 rfl wf11 (by decide) wq3_183 dX11_puts_134 h (fun v34 h => ?_)
  refine hp_bn h (fun v36 h35 h => ?_)
  refine hp_ci hR (hp_runS (rest := []) (As := [.int v34]) hX hR (c_Mo_bits h35) cs_X11_157 rfl rfl hd_Mo_bits ⟨Nat.le_of_ble_eq_true rfl, Nat.le_of_ble_eq_true rfl⟩ rfl hl.1 rfl (Nat.le_of_ble_eq_true rfl) dX11_puts_137 ⟨Nat.le_of_ble_eq_true rfl, Nat.le_of_ble_eq_true rfl⟩) (fun H locs hR => ?_)
  exact hp_iret hX hlocks hr hR h dX11_puts_140
/-! Mo.areThings(III)Z -/
abbrev rm_Mo_areThings : Room := { frames := 1, cells := 0, slots := 0, locals := 22 }
theorem hd_Mo_areThings : hp_d yX11_areThings 3 := by decide +kernel
def f_Mo_areThings (x0 : Int32) (x1 : Int32) (x2 : Int32) : Option Int32 := (f_Mo_in x0 0 9).bind fun v2 => if v2 = 0 then (some 0) else ((f_Mo_in x1 0 9).bind fun v5 => if v5 = 0 then (some 0) else ((f_Mo_in x2 0 9).bind fun v8 => if v8 = 0 then (some 0) else (some 1)))
set_option maxHeartbeats 4000000 in
set_option maxRecDepth 100000 in
theorem c_Mo_areThings {l : Launch} {G : hp_G} {b : Nat} {σ : hp_H} {x0 : Int32} {x1 : Int32} {x2 : Int32} {r : Int32} (h : f_Mo_areThings x0 x1 x2 = some r) : hp_Met l yX11_areThings cX11_areThings 3 (some .boolean) rm_Mo_areThings G b [.int x0, .int x1, .int x2] σ (some (.int r)) σ 0 0 := by
  refine hp_met (by decide +kernel) (Nat.le_of_ble_eq_true rfl) (fun p e s m below meth c ls hX hlocks hr hnm hl hR => ?_)
  obtain ⟨hx, hb, hml, hown, hts⟩ := id hX.1
  have hl : lv_has ls 3 [(0, .int x0), (1, .int x1), (2, .int x2)] := hl
  unfold f_Mo_areThings at h
  refine lv_iload_n hx hb dX11_areThings_0 rfl (lv_at hl 0 rfl) ?_
  refine lv_iconst (v := 0) hx hb dX11_areThings_1 (by decide) ?_
  refine lv_bipush (v := 9) hx hb dX11_areThings_2 (by decide) ?_
  refine hp_bn h (fun v2 h1 h => ?_)
  refine hp_ci hR (hp_runS (rest := []) (As := [.int x0, .int 0, .int 9]) hX hR (c_Mo_in h1) cs_X11_41 rfl rfl hd_Mo_in ⟨Nat.le_of_ble_eq_true rfl, Nat.le_of_ble_eq_true rfl⟩ rfl hl.1 rfl (Nat.le_of_ble_eq_true rfl) dX11_areThings_4 ⟨Nat.le_of_ble_eq_true rfl, Nat.le_of_ble_eq_true rfl⟩) (fun H locs hR => ?_)
  refine lv_if_eq (tgt := 34) hx hb dX11_areThings_7 (by decide) (fun c3 => ?_) (fun c3 => ?_)
  · have h := hp_ip c3 h
    refine lv_iconst (v := 0) hx hb dX11_areThings_34 (by decide) ?_
    exact hp_zretLP (by decide) hX hlocks hr hR h dX11_areThings_35
  · have h := hp_in c3 h
    refine lv_iload_n hx hb dX11_areThings_10 rfl (lv_at hl 1 rfl) ?_
    refine lv_iconst (v := 0) hx hb dX11_areThings_11 (by decide) ?_
    refine lv_bipush (v := 9) hx hb dX11_areThings_12 (by decide) ?_
    refine hp_bn h (fun v5 h4 h => ?_)
    refine hp_ci hR (hp_runS (rest := []) (As := [.int x1, .int 0, .int 9]) hX hR (c_Mo_in h4) cs_X11_41 rfl rfl hd_Mo_in ⟨Nat.le_of_ble_eq_true rfl, Nat.le_of_ble_eq_true rfl⟩ rfl hl.1 rfl (Nat.le_of_ble_eq_true rfl) dX11_areThings_14 ⟨Nat.le_of_ble_eq_true rfl, Nat.le_of_ble_eq_true rfl⟩) (fun H locs hR => ?_)
    refine lv_if_eq (tgt := 34) hx hb dX11_areThings_17 (by decide) (fun c6 => ?_) (fun c6 => ?_)
    · have h := hp_ip c6 h
      refine lv_iconst (v := 0) hx hb dX11_areThings_34 (by decide) ?_
      exact hp_zretLP (by decide) hX hlocks hr hR h dX11_areThings_35
    · have h := hp_in c6 h
      refine lv_iload_n hx hb dX11_areThings_20 rfl (lv_at hl 2 rfl) ?_
      refine lv_iconst (v := 0) hx hb dX11_areThings_21 (by decide) ?_
      refine lv_bipush (v := 9) hx hb dX11_areThings_22 (by decide) ?_
      refine hp_bn h (fun v8 h7 h => ?_)
      refine hp_ci hR (hp_runS (rest := []) (As := [.int x2, .int 0, .int 9]) hX hR (c_Mo_in h7) cs_X11_41 rfl rfl hd_Mo_in ⟨Nat.le_of_ble_eq_true rfl, Nat.le_of_ble_eq_true rfl⟩ rfl hl.1 rfl (Nat.le_of_ble_eq_true rfl) dX11_areThings_24 ⟨Nat.le_of_ble_eq_true rfl, Nat.le_of_ble_eq_true rfl⟩) (fun H locs hR => ?_)
      refine lv_if_eq (tgt := 34) hx hb dX11_areThings_27 (by decide) (fun c9 => ?_) (fun c9 => ?_)
      · have h := hp_ip c9 h
        refine lv_iconst (v := 0) hx hb dX11_areThings_34 (by decide) ?_
        exact hp_zretLP (by decide) hX hlocks hr hR h dX11_areThings_35
      · have h := hp_in c9 h
        refine lv_iconst (v := 1) hx hb dX11_areThings_30 (by decide) ?_
        refine lv_goto (tgt := 35) hx hb dX11_areThings_31 (by decide) ?_
        exact hp_zretLP (by decide) hX hlocks hr hR h dX11_areThings_35
/-! Mo.allTold()I -/
abbrev rm_Mo_allTold : Room := { frames := 7, cells := 0, slots := 0, locals := 164 }
theorem hd_Mo_allTold : hp_d yX11_allTold 0 := by decide +kernel
def f_Mo_allTold_l1 (a0 : Nat) (σ : hp_H) (K : Int32 → Int32 → Option (Int32 × hp_H)) : Nat → Int32 → Int32 → Option (Int32 × hp_H)
  | 0, _, _ => none
  | n + 1, x1, x2 => (hp_gR σ a0 10 0).bind fun q2 => (hp_aI σ q2 0 0).bind fun v3 => if v3 ≤ x2 then (K x1 x2) else ((hp_gR σ a0 10 9).bind fun q5 => (hp_aI σ q5 0 ((2 : Int32) * x2)).bind fun v6 => (hp_gR σ a0 10 9).bind fun q7 => (hp_aI σ q7 0 (((2 : Int32) * x2) + 1)).bind fun v8 => f_Mo_allTold_l1 a0 σ K n (x1 + (v6 + v8)) (x2 + 1))
def f_Mo_allTold (a0 : Nat) (σ : hp_H) : Option (Int32 × hp_H) := hp_own σ a0 10 ((f_Mo_lays a0 σ).bind fun σ => f_Mo_allTold_l1 a0 σ (fun z9 z10 => some (z9, σ)) hp_F 0 1)
set_option maxHeartbeats 4000000 in
set_option maxRecDepth 100000 in
theorem w_Mo_allTold_l1 {p : Program} {l : Launch} {e : Env} {s : State} {m : MethodId} {args : Array Value} {below : List Frame} {meth : Method} {c : Code} {G : hp_G} {b : Nat} {σ : hp_H} {a0 : Nat} {r : Int32} {σ' : hp_H} {K : Int32 → Int32 → Option (Int32 × hp_H)} (hX : hp_X G p s m c args cX11_allTold 3 RX11) (hlocks : meth.locks = false) (hr : meth.sig.returnType = (some .int))
    (hK : ∀ (x1 : Int32) (x2 : Int32) (H : Heap) (locs : List Loc) (ls : Array Slot), hp_R G b s.heap σ H locs → lv_has ls 3 [(1, .int x1)] → K x1 x2 = some (r, σ') → W p l e rm_Mo_allTold s m args below meth c H locs 0 0 (MQ below (hp_Qc G b (some (.int r)) σ') args s 0 0 (fun q => b ≤ q)) (F0 m 46 ls [])) :
    ∀ (n : Nat) (x1 : Int32) (x2 : Int32) (H : Heap) (locs : List Loc) (ls : Array Slot), hp_R G b s.heap σ H locs → f_Mo_allTold_l1 a0 σ K n x1 x2 = some (r, σ') → lv_has ls 3 [(0, .ref a0), (1, .int x1), (2, .int x2)] → W p l e rm_Mo_allTold s m args below meth c H locs 0 0 (MQ below (hp_Qc G b (some (.int r)) σ') args s 0 0 (fun q => b ≤ q)) (F0 m 8 ls []) := by
  obtain ⟨hx, hb, hml, hown, hts⟩ := id hX.1
  intro n
  induction n with
  | zero =>
    intro x1 x2 H locs ls hR h hl
    rw [f_Mo_allTold_l1] at h
    cases h
  | succ n ih =>
    intro x1 x2 H locs ls hR h hl
    rw [f_Mo_allTold_l1] at h
    refine lv_iload_n hx hb dX11_allTold_8 rfl (lv_at hl 2 rfl) ?_
    refine lv_aload_n hx hb dX11_allTold_9 rfl (lv_at hl 0 rfl) ?_
    refine hp_getR hX hR (ci := 10) 0 rfl wf11 (by decide) wq3_167 dX11_allTold_10 h (fun q2 h => ?_)
    refine lv_iconst (v := 0) hx hb dX11_allTold_13 (by decide) ?_
    refine hp_iald hX hR dX11_allTold_14 h (fun v3 h => ?_)
    refine lv_icmp_ge (tgt := 46) hx hb dX11_allTold_15 (by decide) (fun c4 => ?_) (fun c4 => ?_)
    · have h := hp_ip c4 h
      exact hK _ _ _ _ _ hR (lv_sub hl [1] rfl) h
    · have h := hp_in c4 h
      refine lv_iload_n hx hb dX11_allTold_18 rfl (lv_at hl 1 rfl) ?_
      refine lv_aload_n hx hb dX11_allTold_19 rfl (lv_at hl 0 rfl) ?_
      refine hp_getR hX hR (ci := 10) 9 rfl wf11 (by decide) wq3_176 dX11_allTold_20 h (fun q5 h => ?_)
      refine lv_iconst (v := 2) hx hb dX11_allTold_23 (by decide) ?_
      refine lv_iload_n hx hb dX11_allTold_24 rfl (lv_at hl 2 rfl) ?_
      refine lv_imul hx hb dX11_allTold_25 ?_
      refine hp_iald hX hR dX11_allTold_26 h (fun v6 h => ?_)
      refine lv_aload_n hx hb dX11_allTold_27 rfl (lv_at hl 0 rfl) ?_
      refine hp_getR hX hR (ci := 10) 9 rfl wf11 (by decide) wq3_176 dX11_allTold_28 h (fun q7 h => ?_)
      refine lv_iconst (v := 2) hx hb dX11_allTold_31 (by decide) ?_
      refine lv_iload_n hx hb dX11_allTold_32 rfl (lv_at hl 2 rfl) ?_
      refine lv_imul hx hb dX11_allTold_33 ?_
      refine lv_iconst (v := 1) hx hb dX11_allTold_34 (by decide) ?_
      refine lv_iadd hx hb dX11_allTold_35 ?_
      refine hp_iald hX hR dX11_allTold_36 h (fun v8 h => ?_)
      refine lv_iadd hx hb dX11_allTold_37 ?_
      refine lv_iadd hx hb dX11_allTold_38 ?_
      refine lv_istore_n (lv' := [(1, .int (x1 + (v6 + v8))), (0, .ref a0), (2, .int x2)]) hx hb dX11_allTold_39 rfl hl (by decide) rfl (fun ls hl => ?_)
      refine lv_iinc (v := (x2 + 1)) (lv' := [(2, .int (x2 + 1)), (1, .int (x1 + (v6 + v8))), (0, .ref a0)]) hx hb dX11_allTold_40 hl (k := 2) rfl rfl (by decide) rfl (fun ls hl => ?_)
      refine lv_goto (tgt := 8) hx hb dX11_allTold_43 (by decide) ?_
      exact ih _ _ _ _ _ hR h (lv_sub hl [2, 1, 0] rfl)
set_option maxHeartbeats 4000000 in
set_option maxRecDepth 100000 in
theorem c_Mo_allTold {l : Launch} {G : hp_G} {b : Nat} {σ : hp_H} {a0 : Nat} {r : Int32} {σ' : hp_H} (h : f_Mo_allTold a0 σ = some (r, σ')) : hp_Met l yX11_allTold cX11_allTold 3 (some .int) rm_Mo_allTold G b [.ref a0] σ (some (.int r)) σ' 0 0 := by
  refine hp_met (by decide +kernel) (Nat.le_of_ble_eq_true rfl) (fun p e s m below meth c ls hX hlocks hr hnm hl hR => ?_)
  obtain ⟨hx, hb, hml, hown, hts⟩ := id hX.1
  have hl : lv_has ls 3 [(0, .ref a0)] := hl
  unfold f_Mo_allTold at h
  have h := hp_own_to h
  refine lv_aload_n hx hb dX11_allTold_0 rfl (lv_at hl 0 rfl) ?_
  refine hp_bn h (fun σ h1 h => ?_)
  refine hp_cv hR (hp_runV (rest := []) (As := []) hX hR (c_Mo_lays h1) cs_X11_120 rfl rfl rfl hd_Mo_lays ⟨Nat.le_of_ble_eq_true rfl, Nat.le_of_ble_eq_true rfl⟩ (ci := 10) rfl (hp_own_is h1) rfl hl.1 rfl (Nat.le_of_ble_eq_true rfl) dX11_allTold_1 ⟨Nat.le_of_ble_eq_true rfl, Nat.le_of_ble_eq_true rfl⟩) (fun H locs hR => ?_)
  refine lv_iconst (v := 0) hx hb dX11_allTold_4 (by decide) ?_
  refine lv_istore_n (lv' := [(1, .int 0), (0, .ref a0)]) hx hb dX11_allTold_5 rfl hl (by decide) rfl (fun ls hl => ?_)
  refine lv_iconst (v := 1) hx hb dX11_allTold_6 (by decide) ?_
  refine lv_istore_n (lv' := [(2, .int 1), (1, .int 0), (0, .ref a0)]) hx hb dX11_allTold_7 rfl hl (by decide) rfl (fun ls hl => ?_)
  refine w_Mo_allTold_l1 hX hlocks hr ?_ hp_F _ _ _ _ _ hR h (lv_sub hl [2, 1, 0] rfl)
  intro z9 z10 H locs ls hR hl h
  refine lv_iload_n hx hb dX11_allTold_46 rfl (lv_at hl 0 rfl) ?_
  exact hp_iret hX hlocks hr hR h dX11_allTold_47
theorem cs_X11_163 : hp_WV RX11 163 RX11 yX11_isClient cX11_isClient 2 (some .boolean) := ⟨wq4_80, wq4_82, wp2_13, wq1_11, wq4_83⟩
/-! Mo.wrong()I -/
abbrev rm_Mo_wrong : Room := { frames := 2, cells := 0, slots := 0, locals := 43 }
theorem hd_Mo_wrong : hp_d yX11_wrong 0 := by decide +kernel
def f_Mo_wrong_l1 (a0 : Nat) (σ : hp_H) (K : Int32 → Int32 → Option Int32) : Nat → Int32 → Int32 → Option Int32
  | 0, _, _ => none
  | n + 1, x1, x2 => if x2 < 0 then (K x1 x2) else ((hp_gR σ a0 10 6).bind fun q3 => (hp_aI σ q3 0 x2).bind fun v4 => (f_Mo_isClient a0 v4 σ).bind fun v6 => if v6 = 0 then (f_Mo_wrong_l1 a0 σ K n x2 (x2 + (-1))) else ((hp_gR σ a0 10 6).bind fun q8 => (hp_aI σ q8 0 x2).bind fun v9 => (f_Mo_of a0 v9 2 σ).bind fun v11 => (hp_gR σ a0 10 7).bind fun q12 => (hp_aI σ q12 0 x2).bind fun v13 => if v11 = v13 then (f_Mo_wrong_l1 a0 σ K n x1 (x2 + (-1))) else (f_Mo_wrong_l1 a0 σ K n x2 (x2 + (-1)))))
def f_Mo_wrong (a0 : Nat) (σ : hp_H) : Option Int32 := hp_own σ a0 10 ((hp_gI σ a0 10 8).bind fun v1 => f_Mo_wrong_l1 a0 σ (fun z15 z16 => some z15) hp_F (-1) (v1 - 1))
set_option maxHeartbeats 4000000 in
set_option maxRecDepth 100000 in
theorem w_Mo_wrong_l1 {p : Program} {l : Launch} {e : Env} {s : State} {m : MethodId} {args : Array Value} {below : List Frame} {meth : Method} {c : Code} {G : hp_G} {b : Nat} {σ : hp_H} {a0 : Nat} {r : Int32} {K : Int32 → Int32 → Option Int32} (hX : hp_X G p s m c args cX11_wrong 3 RX11) (hlocks : meth.locks = false) (hr : meth.sig.returnType = (some .int))
    (hK : ∀ (x1 : Int32) (x2 : Int32) (H : Heap) (locs : List Loc) (ls : Array Slot), hp_R G b s.heap σ H locs → lv_has ls 3 [(1, .int x1)] → K x1 x2 = some r → W p l e rm_Mo_wrong s m args below meth c H locs 0 0 (MQ below (hp_Qc G b (some (.int r)) σ) args s 0 0 (fun q => b ≤ q)) (F0 m 58 ls [])) :
    ∀ (n : Nat) (x1 : Int32) (x2 : Int32) (H : Heap) (locs : List Loc) (ls : Array Slot), hp_R G b s.heap σ H locs → f_Mo_wrong_l1 a0 σ K n x1 x2 = some r → lv_has ls 3 [(0, .ref a0), (1, .int x1), (2, .int x2)] → W p l e rm_Mo_wrong s m args below meth c H locs 0 0 (MQ below (hp_Qc G b (some (.int r)) σ) args s 0 0 (fun q => b ≤ q)) (F0 m 9 ls []) := by
  obtain ⟨hx, hb, hml, hown, hts⟩ := id hX.1
  intro n
  induction n with
  | zero =>
    intro x1 x2 H locs ls hR h hl
    rw [f_Mo_wrong_l1] at h
    cases h
  | succ n ih =>
    intro x1 x2 H locs ls hR h hl
    rw [f_Mo_wrong_l1] at h
    refine lv_iload_n hx hb dX11_wrong_9 rfl (lv_at hl 2 rfl) ?_
    refine lv_if_lt (tgt := 58) hx hb dX11_wrong_10 (by decide) (fun c2 => ?_) (fun c2 => ?_)
    · have h := hp_ip c2 h
      exact hK _ _ _ _ _ hR (lv_sub hl [1] rfl) h
    · have h := hp_in c2 h
      refine lv_aload_n hx hb dX11_wrong_13 rfl (lv_at hl 0 rfl) ?_
      refine lv_aload_n hx hb dX11_wrong_14 rfl (lv_at hl 0 rfl) ?_
      refine hp_getR hX hR (ci := 10) 6 rfl wf11 (by decide) wq3_173 dX11_wrong_15 h (fun q3 h => ?_)
      refine lv_iload_n hx hb dX11_wrong_18 rfl (lv_at hl 2 rfl) ?_
      refine hp_iald hX hR dX11_wrong_19 h (fun v4 h => ?_)
      refine hp_bn h (fun v6 h5 h => ?_)
      refine hp_ci hR (hp_runV (rest := []) (As := [.int v4]) hX hR (c_Mo_isClient h5) cs_X11_163 rfl rfl rfl hd_Mo_isClient ⟨Nat.le_of_ble_eq_true rfl, Nat.le_of_ble_eq_true rfl⟩ (ci := 10) rfl (hp_own_is h5) rfl hl.1 rfl (Nat.le_of_ble_eq_true rfl) dX11_wrong_20 ⟨Nat.le_of_ble_eq_true rfl, Nat.le_of_ble_eq_true rfl⟩) (fun H locs hR => ?_)
      refine lv_if_eq (tgt := 46) hx hb dX11_wrong_23 (by decide) (fun c7 => ?_) (fun c7 => ?_)
      · have h := hp_ip c7 h
        refine lv_iload_n hx hb dX11_wrong_46 rfl (lv_at hl 2 rfl) ?_
        refine lv_goto (tgt := 51) hx hb dX11_wrong_47 (by decide) ?_
        refine lv_istore_n (lv' := [(1, .int x2), (0, .ref a0), (2, .int x2)]) hx hb dX11_wrong_51 rfl hl (by decide) rfl (fun ls hl => ?_)
        refine lv_iinc (v := (x2 + (-1))) (lv' := [(2, .int (x2 + (-1))), (1, .int x2), (0, .ref a0)]) hx hb dX11_wrong_52 hl (k := 2) rfl rfl (by decide) rfl (fun ls hl => ?_)
        refine lv_goto (tgt := 9) hx hb dX11_wrong_55 (by decide) ?_
        exact ih _ _ _ _ _ hR h (lv_sub hl [2, 1, 0] rfl)
      · have h := hp_in c7 h
        refine lv_aload_n hx hb dX11_wrong_26 rfl (lv_at hl 0 rfl) ?_
        refine lv_aload_n hx hb dX11_wrong_27 rfl (lv_at hl 0 rfl) ?_
        refine hp_getR hX hR (ci := 10) 6 rfl wf11 (by decide) wq3_173 dX11_wrong_28 h (fun q8 h => ?_)
        refine lv_iload_n hx hb dX11_wrong_31 rfl (lv_at hl 2 rfl) ?_
        refine hp_iald hX hR dX11_wrong_32 h (fun v9 h => ?_)
        refine lv_iconst (v := 2) hx hb dX11_wrong_33 (by decide) ?_
        refine hp_bn h (fun v11 h10 h => ?_)
        refine hp_ci hR (hp_runV (rest := []) (As := [.int v9, .int 2]) hX hR (c_Mo_of h10) cs_X11_90 rfl rfl rfl hd_Mo_of ⟨Nat.le_of_ble_eq_true rfl, Nat.le_of_ble_eq_true rfl⟩ (ci := 10) rfl (hp_own_is h10) rfl hl.1 rfl (Nat.le_of_ble_eq_true rfl) dX11_wrong_34 ⟨Nat.le_of_ble_eq_true rfl, Nat.le_of_ble_eq_true rfl⟩) (fun H locs hR => ?_)
        refine lv_aload_n hx hb dX11_wrong_37 rfl (lv_at hl 0 rfl) ?_
        refine hp_getR hX hR (ci := 10) 7 rfl wf11 (by decide) wq3_174 dX11_wrong_38 h (fun q12 h => ?_)
        refine lv_iload_n hx hb dX11_wrong_41 rfl (lv_at hl 2 rfl) ?_
        refine hp_iald hX hR dX11_wrong_42 h (fun v13 h => ?_)
        refine lv_icmp_eq (tgt := 50) hx hb dX11_wrong_43 (by decide) (fun c14 => ?_) (fun c14 => ?_)
        · have h := hp_ip c14 h
          refine lv_iload_n hx hb dX11_wrong_50 rfl (lv_at hl 1 rfl) ?_
          refine lv_istore_n (lv' := [(1, .int x1), (0, .ref a0), (2, .int x2)]) hx hb dX11_wrong_51 rfl hl (by decide) rfl (fun ls hl => ?_)
          refine lv_iinc (v := (x2 + (-1))) (lv' := [(2, .int (x2 + (-1))), (1, .int x1), (0, .ref a0)]) hx hb dX11_wrong_52 hl (k := 2) rfl rfl (by decide) rfl (fun ls hl => ?_)
          refine lv_goto (tgt := 9) hx hb dX11_wrong_55 (by decide) ?_
          exact ih _ _ _ _ _ hR h (lv_sub hl [2, 1, 0] rfl)
        · have h := hp_in c14 h
          refine lv_iload_n hx hb dX11_wrong_46 rfl (lv_at hl 2 rfl) ?_
          refine lv_goto (tgt := 51) hx hb dX11_wrong_47 (by decide) ?_
          refine lv_istore_n (lv' := [(1, .int x2), (0, .ref a0), (2, .int x2)]) hx hb dX11_wrong_51 rfl hl (by decide) rfl (fun ls hl => ?_)
          refine lv_iinc (v := (x2 + (-1))) (lv' := [(2, .int (x2 + (-1))), (1, .int x2), (0, .ref a0)]) hx hb dX11_wrong_52 hl (k := 2) rfl rfl (by decide) rfl (fun ls hl => ?_)
          refine lv_goto (tgt := 9) hx hb dX11_wrong_55 (by decide) ?_
          exact ih _ _ _ _ _ hR h (lv_sub hl [2, 1, 0] rfl)
set_option maxHeartbeats 4000000 in
set_option maxRecDepth 100000 in
theorem c_Mo_wrong {l : Launch} {G : hp_G} {b : Nat} {σ : hp_H} {a0 : Nat} {r : Int32} (h : f_Mo_wrong a0 σ = some r) : hp_Met l yX11_wrong cX11_wrong 3 (some .int) rm_Mo_wrong G b [.ref a0] σ (some (.int r)) σ 0 0 := by
  refine hp_met (by decide +kernel) (Nat.le_of_ble_eq_true rfl) (fun p e s m below meth c ls hX hlocks hr hnm hl hR => ?_)
  obtain ⟨hx, hb, hml, hown, hts⟩ := id hX.1
  have hl : lv_has ls 3 [(0, .ref a0)] := hl
  unfold f_Mo_wrong at h
  have h := hp_own_to h
  refine lv_iconst (v := (-1)) hx hb dX11_wrong_0 (by decide) ?_
  refine lv_istore_n (lv' := [(1, .int (-1)), (0, .ref a0)]) hx hb dX11_wrong_1 rfl hl (by decide) rfl (fun ls hl => ?_)
  refine lv_aload_n hx hb dX11_wrong_2 rfl (lv_at hl 1 rfl) ?_
  refine hp_getI hX hR (ci := 10) 8 rfl wf11 (by decide) wq3_175 dX11_wrong_3 h (fun v1 h => ?_)
  refine lv_iconst (v := 1) hx hb dX11_wrong_6 (by decide) ?_
  refine lv_isub hx hb dX11_wrong_7 ?_
  refine lv_istore_n (lv' := [(2, .int (v1 - 1)), (1, .int (-1)), (0, .ref a0)]) hx hb dX11_wrong_8 rfl hl (by decide) rfl (fun ls hl => ?_)
  refine w_Mo_wrong_l1 hX hlocks hr ?_ hp_F _ _ _ _ _ hR h (lv_sub hl [2, 1, 0] rfl)
  intro z15 z16 H locs ls hR hl h
  refine lv_iload_n hx hb dX11_wrong_58 rfl (lv_at hl 0 rfl) ?_
  exact hp_iretP hX hlocks hr hR h dX11_wrong_59
theorem cs_X11_166 : hp_WV RX11 166 RX11 yX11_allTold cX11_allTold 3 (some .int) := ⟨wq3_230, wq3_232, wp1_8, wq1_11, wq3_233⟩
theorem cs_X11_170 : hp_WV RX11 170 RX11 yX11_wrong cX11_wrong 3 (some .int) := ⟨wq4_76, wq4_78, wp2_12, wq1_11, wq4_79⟩
/-! Mo.told(I)I -/
abbrev rm_Mo_told : Room := { frames := 8, cells := 0, slots := 0, locals := 186 }
theorem hd_Mo_told : hp_d yX11_told 1 := by decide +kernel
def f_Mo_told (a0 : Nat) (x1 : Int32) (σ : hp_H) : Option (Int32 × hp_H) := hp_own σ a0 10 (if x1 = 0 then ((hp_gR σ a0 10 0).bind fun q2 => (hp_aI σ q2 0 x1).bind fun v3 => some (v3, σ)) else (if x1 = 1 then ((hp_gR σ a0 10 0).bind fun q5 => (hp_aI σ q5 0 x1).bind fun v6 => some (v6, σ)) else (if x1 = 2 then ((hp_gR σ a0 10 0).bind fun q8 => (hp_aI σ q8 0 x1).bind fun v9 => some (v9, σ)) else (if x1 = 3 then ((hp_gR σ a0 10 0).bind fun q11 => (hp_aI σ q11 0 x1).bind fun v12 => some (v12, σ)) else (if x1 = 4 then ((hp_gR σ a0 10 0).bind fun q14 => (hp_aI σ q14 0 x1).bind fun v15 => some (v15, σ)) else (if x1 = 5 then (hp_b (f_Mo_allTold a0 σ) fun v18 σ => some (v18, σ)) else (if x1 = 6 then ((hp_gR σ a0 10 0).bind fun q20 => (hp_aI σ q20 0 5).bind fun v21 => some (v21, σ)) else (if x1 = 7 then ((hp_gR σ a0 10 0).bind fun q23 => (hp_aI σ q23 0 6).bind fun v24 => some (v24, σ)) else (if x1 = 8 then ((hp_gI σ a0 10 8).bind fun v26 => some (v26, σ)) else (if x1 = 9 then ((f_Mo_wrong a0 σ).bind fun v29 => some (v29, σ)) else (if x1 = 10 then ((hp_gI σ a0 10 3).bind fun v31 => some (v31, σ)) else (if x1 = 11 then ((hp_gI σ a0 10 1).bind fun v33 => some (v33, σ)) else (some ((-1000000002), σ))))))))))))))
set_option maxHeartbeats 4000000 in
set_option maxRecDepth 100000 in
theorem c_Mo_told {l : Launch} {G : hp_G} {b : Nat} {σ : hp_H} {a0 : Nat} {x1 : Int32} {r : Int32} {σ' : hp_H} (h : f_Mo_told a0 x1 σ = some (r, σ')) : hp_Met l yX11_told cX11_told 2 (some .int) rm_Mo_told G b [.ref a0, .int x1] σ (some (.int r)) σ' 0 0 := by
  refine hp_met (by decide +kernel) (Nat.le_of_ble_eq_true rfl) (fun p e s m below meth c ls hX hlocks hr hnm hl hR => ?_)
  obtain ⟨hx, hb, hml, hown, hts⟩ := id hX.1
  have hl : lv_has ls 2 [(0, .ref a0), (1, .int x1)] := hl
  unfold f_Mo_told at h
  have h := hp_own_to h
  refine lv_iload_n hx hb dX11_told_0 rfl (lv_at hl 1 rfl) ?_
  rcases Decidable.em (x1 = 0) with c1 | c1
  · have h := hp_ip c1 h
    refine lv_tableIn (off := 63) (tgt := 64) hx hb dX11_told_1 (by rw [c1]; decide) (by rw [c1]; decide) (by rw [c1]; decide) (by decide) ?_
    refine lv_aload_n hx hb dX11_told_64 rfl (lv_at hl 0 rfl) ?_
    refine hp_getR hX hR (ci := 10) 0 rfl wf11 (by decide) wq3_167 dX11_told_65 h (fun q2 h => ?_)
    refine lv_iload_n hx hb dX11_told_68 rfl (lv_at hl 1 rfl) ?_
    refine hp_iald hX hR dX11_told_69 h (fun v3 h => ?_)
    exact hp_iret hX hlocks hr hR h dX11_told_70
  · have h := hp_in c1 h
    rcases Decidable.em (x1 = 1) with c4 | c4
    · have h := hp_ip c4 h
      refine lv_tableIn (off := 63) (tgt := 64) hx hb dX11_told_1 (by rw [c4]; decide) (by rw [c4]; decide) (by rw [c4]; decide) (by decide) ?_
      refine lv_aload_n hx hb dX11_told_64 rfl (lv_at hl 0 rfl) ?_
      refine hp_getR hX hR (ci := 10) 0 rfl wf11 (by decide) wq3_167 dX11_told_65 h (fun q5 h => ?_)
      refine lv_iload_n hx hb dX11_told_68 rfl (lv_at hl 1 rfl) ?_
      refine hp_iald hX hR dX11_told_69 h (fun v6 h => ?_)
      exact hp_iret hX hlocks hr hR h dX11_told_70
    · have h := hp_in c4 h
      rcases Decidable.em (x1 = 2) with c7 | c7
      · have h := hp_ip c7 h
        refine lv_tableIn (off := 63) (tgt := 64) hx hb dX11_told_1 (by rw [c7]; decide) (by rw [c7]; decide) (by rw [c7]; decide) (by decide) ?_
        refine lv_aload_n hx hb dX11_told_64 rfl (lv_at hl 0 rfl) ?_
        refine hp_getR hX hR (ci := 10) 0 rfl wf11 (by decide) wq3_167 dX11_told_65 h (fun q8 h => ?_)
        refine lv_iload_n hx hb dX11_told_68 rfl (lv_at hl 1 rfl) ?_
        refine hp_iald hX hR dX11_told_69 h (fun v9 h => ?_)
        exact hp_iret hX hlocks hr hR h dX11_told_70
      · have h := hp_in c7 h
        rcases Decidable.em (x1 = 3) with c10 | c10
        · have h := hp_ip c10 h
          refine lv_tableIn (off := 63) (tgt := 64) hx hb dX11_told_1 (by rw [c10]; decide) (by rw [c10]; decide) (by rw [c10]; decide) (by decide) ?_
          refine lv_aload_n hx hb dX11_told_64 rfl (lv_at hl 0 rfl) ?_
          refine hp_getR hX hR (ci := 10) 0 rfl wf11 (by decide) wq3_167 dX11_told_65 h (fun q11 h => ?_)
          refine lv_iload_n hx hb dX11_told_68 rfl (lv_at hl 1 rfl) ?_
          refine hp_iald hX hR dX11_told_69 h (fun v12 h => ?_)
          exact hp_iret hX hlocks hr hR h dX11_told_70
        · have h := hp_in c10 h
          rcases Decidable.em (x1 = 4) with c13 | c13
          · have h := hp_ip c13 h
            refine lv_tableIn (off := 63) (tgt := 64) hx hb dX11_told_1 (by rw [c13]; decide) (by rw [c13]; decide) (by rw [c13]; decide) (by decide) ?_
            refine lv_aload_n hx hb dX11_told_64 rfl (lv_at hl 0 rfl) ?_
            refine hp_getR hX hR (ci := 10) 0 rfl wf11 (by decide) wq3_167 dX11_told_65 h (fun q14 h => ?_)
            refine lv_iload_n hx hb dX11_told_68 rfl (lv_at hl 1 rfl) ?_
            refine hp_iald hX hR dX11_told_69 h (fun v15 h => ?_)
            exact hp_iret hX hlocks hr hR h dX11_told_70
          · have h := hp_in c13 h
            rcases Decidable.em (x1 = 5) with c16 | c16
            · have h := hp_ip c16 h
              refine lv_tableIn (off := 70) (tgt := 71) hx hb dX11_told_1 (by rw [c16]; decide) (by rw [c16]; decide) (by rw [c16]; decide) (by decide) ?_
              refine lv_aload_n hx hb dX11_told_71 rfl (lv_at hl 0 rfl) ?_
              refine hp_b2 h (fun v18 σ h17 h => ?_)
              refine hp_ci hR (hp_runV (rest := []) (As := []) hX hR (c_Mo_allTold h17) cs_X11_166 rfl rfl rfl hd_Mo_allTold ⟨Nat.le_of_ble_eq_true rfl, Nat.le_of_ble_eq_true rfl⟩ (ci := 10) rfl (hp_own_is h17) rfl hl.1 rfl (Nat.le_of_ble_eq_true rfl) dX11_told_72 ⟨Nat.le_of_ble_eq_true rfl, Nat.le_of_ble_eq_true rfl⟩) (fun H locs hR => ?_)
              exact hp_iret hX hlocks hr hR h dX11_told_75
            · have h := hp_in c16 h
              rcases Decidable.em (x1 = 6) with c19 | c19
              · have h := hp_ip c19 h
                refine lv_tableIn (off := 75) (tgt := 76) hx hb dX11_told_1 (by rw [c19]; decide) (by rw [c19]; decide) (by rw [c19]; decide) (by decide) ?_
                refine lv_aload_n hx hb dX11_told_76 rfl (lv_at hl 0 rfl) ?_
                refine hp_getR hX hR (ci := 10) 0 rfl wf11 (by decide) wq3_167 dX11_told_77 h (fun q20 h => ?_)
                refine lv_iconst (v := 5) hx hb dX11_told_80 (by decide) ?_
                refine hp_iald hX hR dX11_told_81 h (fun v21 h => ?_)
                exact hp_iret hX hlocks hr hR h dX11_told_82
              · have h := hp_in c19 h
                rcases Decidable.em (x1 = 7) with c22 | c22
                · have h := hp_ip c22 h
                  refine lv_tableIn (off := 82) (tgt := 83) hx hb dX11_told_1 (by rw [c22]; decide) (by rw [c22]; decide) (by rw [c22]; decide) (by decide) ?_
                  refine lv_aload_n hx hb dX11_told_83 rfl (lv_at hl 0 rfl) ?_
                  refine hp_getR hX hR (ci := 10) 0 rfl wf11 (by decide) wq3_167 dX11_told_84 h (fun q23 h => ?_)
                  refine lv_bipush (v := 6) hx hb dX11_told_87 (by decide) ?_
                  refine hp_iald hX hR dX11_told_89 h (fun v24 h => ?_)
                  exact hp_iret hX hlocks hr hR h dX11_told_90
                · have h := hp_in c22 h
                  rcases Decidable.em (x1 = 8) with c25 | c25
                  · have h := hp_ip c25 h
                    refine lv_tableIn (off := 90) (tgt := 91) hx hb dX11_told_1 (by rw [c25]; decide) (by rw [c25]; decide) (by rw [c25]; decide) (by decide) ?_
                    refine lv_aload_n hx hb dX11_told_91 rfl (lv_at hl 0 rfl) ?_
                    refine hp_getI hX hR (ci := 10) 8 rfl wf11 (by decide) wq3_175 dX11_told_92 h (fun v26 h => ?_)
                    exact hp_iret hX hlocks hr hR h dX11_told_95
                  · have h := hp_in c25 h
                    rcases Decidable.em (x1 = 9) with c27 | c27
                    · have h := hp_ip c27 h
                      refine lv_tableIn (off := 95) (tgt := 96) hx hb dX11_told_1 (by rw [c27]; decide) (by rw [c27]; decide) (by rw [c27]; decide) (by decide) ?_
                      refine lv_aload_n hx hb dX11_told_96 rfl (lv_at hl 0 rfl) ?_
                      refine hp_bn h (fun v29 h28 h => ?_)
                      refine hp_ci hR (hp_runV (rest := []) (As := []) hX hR (c_Mo_wrong h28) cs_X11_170 rfl rfl rfl hd_Mo_wrong ⟨Nat.le_of_ble_eq_true rfl, Nat.le_of_ble_eq_true rfl⟩ (ci := 10) rfl (hp_own_is h28) rfl hl.1 rfl (Nat.le_of_ble_eq_true rfl) dX11_told_97 ⟨Nat.le_of_ble_eq_true rfl, Nat.le_of_ble_eq_true rfl⟩) (fun H locs hR => ?_)
                      exact hp_iret hX hlocks hr hR h dX11_told_100
                    · have h := hp_in c27 h
                      rcases Decidable.em (x1 = 10) with c30 | c30
                      · have h := hp_ip c30 h
                        refine lv_tableIn (off := 100) (tgt := 101) hx hb dX11_told_1 (by rw [c30]; decide) (by rw [c30]; decide) (by rw [c30]; decide) (by decide) ?_
                        refine lv_aload_n hx hb dX11_told_101 rfl (lv_at hl 0 rfl) ?_
                        refine hp_getI hX hR (ci := 10) 3 rfl wf11 (by decide) wq3_170 dX11_told_102 h (fun v31 h => ?_)
                        exact hp_iret hX hlocks hr hR h dX11_told_105
                      · have h := hp_in c30 h
                        rcases Decidable.em (x1 = 11) with c32 | c32
                        · have h := hp_ip c32 h
                          refine lv_tableIn (off := 105) (tgt := 106) hx hb dX11_told_1 (by rw [c32]; decide) (by rw [c32]; decide) (by rw [c32]; decide) (by decide) ?_
                          refine lv_aload_n hx hb dX11_told_106 rfl (lv_at hl 0 rfl) ?_
                          refine hp_getI hX hR (ci := 10) 1 rfl wf11 (by decide) wq3_168 dX11_told_107 h (fun v33 h => ?_)
                          exact hp_iret hX hlocks hr hR h dX11_told_110
                        · have h := hp_in c32 h
                          refine lv_tableOut (tgt := 111) hx hb dX11_told_1 (by have := lv_neT (a := 0) c1 rfl; have := lv_neT (a := 1) c4 rfl; have := lv_neT (a := 2) c7 rfl; have := lv_neT (a := 3) c10 rfl; have := lv_neT (a := 4) c13 rfl; have := lv_neT (a := 5) c16 rfl; have := lv_neT (a := 6) c19 rfl; have := lv_neT (a := 7) c22 rfl; have := lv_neT (a := 8) c25 rfl; have := lv_neT (a := 9) c27 rfl; have := lv_neT (a := 10) c30 rfl; have := lv_neT (a := 11) c32 rfl; omega) (by decide) ?_
                          refine lv_ldc (v := (-1000000002)) hx hb hown (hts _ wq4_84) dX11_told_111 ?_
                          exact hp_iret hX hlocks hr hR h dX11_told_113
