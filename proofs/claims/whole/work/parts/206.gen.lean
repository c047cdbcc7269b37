theorem cs_X11_74 : hp_WV RX11 74 RX11 yX11_sizeOf cX11_sizeOf 2 (some .int) := ⟨wq4_68, wq4_70, wp2_10, wq1_11, wq4_71⟩
theorem cs_X11_78 : hp_WV RX11 78 RX11 yX11_shared cX11_shared 7 (some .int) := ⟨wq4_72, wq4_74, wp2_11, wq1_11, wq4_75⟩
/-! Mo.wasteOf(II)I -/
abbrev rm_Mo_wasteOf : Room := { frames := 2, cells := 0, slots := 0, locals := 48 }
theorem hd_Mo_wasteOf : hp_d yX11_wasteOf 2 := by decide +kernel
def f_Mo_wasteOf_l1 (a0 : Nat) (x1 : Int32) (x2 : Int32) (K : Int32 → Int32 → hp_H → Option (Int32 × hp_H)) : Nat → Int32 → Int32 → hp_H → Option (Int32 × hp_H)
  | 0, _, _, _ => none
  | n + 1, x3, x4, σ => if (6 : Int32) ≤ x4 then (K x3 x4 σ) else ((f_Mo_at a0 x1 x4 σ).bind fun v3 => (f_Mo_at a0 x2 x4 σ).bind fun v5 => if v5 ≤ v3 then ((f_Mo_at a0 x2 x4 σ).bind fun v8 => (f_Mo_at a0 x1 (x4 + 1) σ).bind fun v10 => (f_Mo_at a0 x2 (x4 + 1) σ).bind fun v12 => if v10 ≤ v12 then ((f_Mo_at a0 x2 (x4 + 1) σ).bind fun v15 => (hp_gR σ a0 10 14).bind fun q16 => (hp_sI σ q16 0 x4 v8).bind fun σ => (hp_gR σ a0 10 14).bind fun q17 => (hp_sI σ q17 0 (x4 + 1) v15).bind fun σ => (f_Mo_spread v8 v15).bind fun v19 => f_Mo_wasteOf_l1 a0 x1 x2 K n (x3 * v19) (x4 + 2) σ) else ((f_Mo_at a0 x1 (x4 + 1) σ).bind fun v21 => (hp_gR σ a0 10 14).bind fun q22 => (hp_sI σ q22 0 x4 v8).bind fun σ => (hp_gR σ a0 10 14).bind fun q23 => (hp_sI σ q23 0 (x4 + 1) v21).bind fun σ => (f_Mo_spread v8 v21).bind fun v25 => f_Mo_wasteOf_l1 a0 x1 x2 K n (x3 * v25) (x4 + 2) σ)) else ((f_Mo_at a0 x1 x4 σ).bind fun v27 => (f_Mo_at a0 x1 (x4 + 1) σ).bind fun v29 => (f_Mo_at a0 x2 (x4 + 1) σ).bind fun v31 => if v29 ≤ v31 then ((f_Mo_at a0 x2 (x4 + 1) σ).bind fun v34 => (hp_gR σ a0 10 14).bind fun q35 => (hp_sI σ q35 0 x4 v27).bind fun σ => (hp_gR σ a0 10 14).bind fun q36 => (hp_sI σ q36 0 (x4 + 1) v34).bind fun σ => (f_Mo_spread v27 v34).bind fun v38 => f_Mo_wasteOf_l1 a0 x1 x2 K n (x3 * v38) (x4 + 2) σ) else ((f_Mo_at a0 x1 (x4 + 1) σ).bind fun v40 => (hp_gR σ a0 10 14).bind fun q41 => (hp_sI σ q41 0 x4 v27).bind fun σ => (hp_gR σ a0 10 14).bind fun q42 => (hp_sI σ q42 0 (x4 + 1) v40).bind fun σ => (f_Mo_spread v27 v40).bind fun v44 => f_Mo_wasteOf_l1 a0 x1 x2 K n (x3 * v44) (x4 + 2) σ)))
def f_Mo_wasteOf (a0 : Nat) (x1 : Int32) (x2 : Int32) (σ : hp_H) : Option (Int32 × hp_H) := hp_own σ a0 10 (f_Mo_wasteOf_l1 a0 x1 x2 (fun z45 z46 σ => (f_Mo_sizeOf a0 x1 σ).bind fun v48 => (f_Mo_sizeOf a0 x2 σ).bind fun v50 => (f_Mo_shared a0 x1 x2 σ).bind fun v52 => some ((((z45 - v48) - v50) + v52), σ)) hp_F 1 0 σ)
set_option maxHeartbeats 4000000 in
set_option maxRecDepth 100000 in
theorem w_Mo_wasteOf_l1 {p : Program} {l : Launch} {e : Env} {s : State} {m : MethodId} {args : Array Value} {below : List Frame} {meth : Method} {c : Code} {G : hp_G} {b : Nat} {a0 : Nat} {x1 : Int32} {x2 : Int32} {r : Int32} {σ' : hp_H} {K : Int32 → Int32 → hp_H → Option (Int32 × hp_H)} (hX : hp_X G p s m c args cX11_wasteOf 7 RX11) (hlocks : meth.locks = false) (hr : meth.sig.returnType = (some .int))
    (hK : ∀ (x3 : Int32) (x4 : Int32) (σ : hp_H) (H : Heap) (locs : List Loc) (ls : Array Slot), hp_R G b s.heap σ H locs → lv_has ls 7 [(0, .ref a0), (1, .int x1), (2, .int x2), (3, .int x3)] → K x3 x4 σ = some (r, σ') → W p l e rm_Mo_wasteOf s m args below meth c H locs 0 0 (MQ below (hp_Qc G b (some (.int r)) σ') args s 0 0 (fun q => b ≤ q)) (F0 m 128 ls [])) :
    ∀ (n : Nat) (x3 : Int32) (x4 : Int32) (σ : hp_H) (H : Heap) (locs : List Loc) (ls : Array Slot), hp_R G b s.heap σ H locs → f_Mo_wasteOf_l1 a0 x1 x2 K n x3 x4 σ = some (r, σ') → lv_has ls 7 [(0, .ref a0), (1, .int x1), (2, .int x2), (3, .int x3), (4, .int x4)] → W p l e rm_Mo_wasteOf s m args below meth c H locs 0 0 (MQ below (hp_Qc G b (some (.int r)) σ') args s 0 0 (fun q => b ≤ q)) (F0 m 5 ls []) := by
  obtain ⟨hx, hb, hml, hown, hts⟩ := id hX.1
  intro n
  induction n with
  | zero =>
    intro x3 x4 σ H locs ls hR h hl
    rw [f_Mo_wasteOf_l1] at h
    cases h
  | succ n ih =>
    intro x3 x4 σ H locs ls hR h hl
    rw [f_Mo_wasteOf_l1] at h
    refine lv_iload hx hb dX11_wasteOf_5 (lv_at hl 4 rfl) ?_
    refine lv_bipush (v := 6) hx hb dX11_wasteOf_7 (by decide) ?_
    refine lv_icmp_ge (tgt := 128) hx hb dX11_wasteOf_9 (by decide) (fun c1 => ?_) (fun c1 => ?_)
    · have h := hp_ip c1 h
      exact hK _ _ _ _ _ _ hR (lv_sub hl [0, 1, 2, 3] rfl) h
    · have h := hp_in c1 h
      refine lv_aload_n hx hb dX11_wasteOf_12 rfl (lv_at hl 0 rfl) ?_
      refine lv_iload_n hx hb dX11_wasteOf_13 rfl (lv_at hl 1 rfl) ?_
      refine lv_iload hx hb dX11_wasteOf_14 (lv_at hl 4 rfl) ?_
      refine hp_bn h (fun v3 h2 h => ?_)
      refine hp_ci hR (hp_runV (rest := []) (As := [.int x1, .int x4]) hX hR (c_Mo_at h2) cs_X11_49 rfl rfl rfl hd_Mo_at ⟨Nat.le_of_ble_eq_true rfl, Nat.le_of_ble_eq_true rfl⟩ (ci := 10) rfl (hp_own_is h2) rfl hl.1 rfl (Nat.le_of_ble_eq_true rfl) dX11_wasteOf_16 ⟨Nat.le_of_ble_eq_true rfl, Nat.le_of_ble_eq_true rfl⟩) (fun H locs hR => ?_)
      refine lv_aload_n hx hb dX11_wasteOf_19 rfl (lv_at hl 0 rfl) ?_
      refine lv_iload_n hx hb dX11_wasteOf_20 rfl (lv_at hl 2 rfl) ?_
      refine lv_iload hx hb dX11_wasteOf_21 (lv_at hl 4 rfl) ?_
      refine hp_bn h (fun v5 h4 h => ?_)
      refine hp_ci hR (hp_runV (rest := [.int v3]) (As := [.int x2, .int x4]) hX hR (c_Mo_at h4) cs_X11_49 rfl rfl rfl hd_Mo_at ⟨Nat.le_of_ble_eq_true rfl, Nat.le_of_ble_eq_true rfl⟩ (ci := 10) rfl (hp_own_is h4) rfl hl.1 rfl (Nat.le_of_ble_eq_true rfl) dX11_wasteOf_23 ⟨Nat.le_of_ble_eq_true rfl, Nat.le_of_ble_eq_true rfl⟩) (fun H locs hR => ?_)
      refine lv_icmp_ge (tgt := 39) hx hb dX11_wasteOf_26 (by decide) (fun c6 => ?_) (fun c6 => ?_)
      · have h := hp_ip c6 h
        refine lv_aload_n hx hb dX11_wasteOf_39 rfl (lv_at hl 0 rfl) ?_
        refine lv_iload_n hx hb dX11_wasteOf_40 rfl (lv_at hl 2 rfl) ?_
        refine lv_iload hx hb dX11_wasteOf_41 (lv_at hl 4 rfl) ?_
        refine hp_bn h (fun v8 h7 h => ?_)
        refine hp_ci hR (hp_runV (rest := []) (As := [.int x2, .int x4]) hX hR (c_Mo_at h7) cs_X11_49 rfl rfl rfl hd_Mo_at ⟨Nat.le_of_ble_eq_true rfl, Nat.le_of_ble_eq_true rfl⟩ (ci := 10) rfl (hp_own_is h7) rfl hl.1 rfl (Nat.le_of_ble_eq_true rfl) dX11_wasteOf_43 ⟨Nat.le_of_ble_eq_true rfl, Nat.le_of_ble_eq_true rfl⟩) (fun H locs hR => ?_)
        refine lv_istore (lv' := [(5, .int v8), (0, .ref a0), (1, .int x1), (2, .int x2), (3, .int x3), (4, .int x4)]) hx hb dX11_wasteOf_46 hl (by decide) rfl (fun ls hl => ?_)
        refine lv_aload_n hx hb dX11_wasteOf_48 rfl (lv_at hl 1 rfl) ?_
        refine lv_iload_n hx hb dX11_wasteOf_49 rfl (lv_at hl 2 rfl) ?_
        refine lv_iload hx hb dX11_wasteOf_50 (lv_at hl 5 rfl) ?_
        refine lv_iconst (v := 1) hx hb dX11_wasteOf_52 (by decide) ?_
        refine lv_iadd hx hb dX11_wasteOf_53 ?_
        refine hp_bn h (fun v10 h9 h => ?_)
        refine hp_ci hR (hp_runV (rest := []) (As := [.int x1, .int (x4 + 1)]) hX hR (c_Mo_at h9) cs_X11_49 rfl rfl rfl hd_Mo_at ⟨Nat.le_of_ble_eq_true rfl, Nat.le_of_ble_eq_true rfl⟩ (ci := 10) rfl (hp_own_is h9) rfl hl.1 rfl (Nat.le_of_ble_eq_true rfl) dX11_wasteOf_54 ⟨Nat.le_of_ble_eq_true rfl, Nat.le_of_ble_eq_true rfl⟩) (fun H locs hR => ?_)
        refine lv_aload_n hx hb dX11_wasteOf_57 rfl (lv_at hl 1 rfl) ?_
        refine lv_iload_n hx hb dX11_wasteOf_58 rfl (lv_at hl 3 rfl) ?_
        refine lv_iload hx hb dX11_wasteOf_59 (lv_at hl 5 rfl) ?_
        refine lv_iconst (v := 1) hx hb dX11_wasteOf_61 (by decide) ?_
        refine lv_iadd hx hb dX11_wasteOf_62 ?_
        refine hp_bn h (fun v12 h11 h => ?_)
        refine hp_ci hR (hp_runV (rest := [.int v10]) (As := [.int x2, .int (x4 + 1)]) hX hR (c_Mo_at h11) cs_X11_49 rfl rfl rfl hd_Mo_at ⟨Nat.le_of_ble_eq_true rfl, Nat.le_of_ble_eq_true rfl⟩ (ci := 10) rfl (hp_own_is h11) rfl hl.1 rfl (Nat.le_of_ble_eq_true rfl) dX11_wasteOf_63 ⟨Nat.le_of_ble_eq_true rfl, Nat.le_of_ble_eq_true rfl⟩) (fun H locs hR => ?_)
        refine lv_icmp_le (tgt := 81) hx hb dX11_wasteOf_66 (by decide) (fun c13 => ?_) (fun c13 => ?_)
        · have h := hp_ip c13 h
          refine lv_aload_n hx hb dX11_wasteOf_81 rfl (lv_at hl 1 rfl) ?_
          refine lv_iload_n hx hb dX11_wasteOf_82 rfl (lv_at hl 3 rfl) ?_
          refine lv_iload hx hb dX11_wasteOf_83 (lv_at hl 5 rfl) ?_
          refine lv_iconst (v := 1) hx hb dX11_wasteOf_85 (by decide) ?_
          refine lv_iadd hx hb dX11_wasteOf_86 ?_
          refine hp_bn h (fun v15 h14 h => ?_)
          refine hp_ci hR (hp_runV (rest := []) (As := [.int x2, .int (x4 + 1)]) hX hR (c_Mo_at h14) cs_X11_49 rfl rfl rfl hd_Mo_at ⟨Nat.le_of_ble_eq_true rfl, Nat.le_of_ble_eq_true rfl⟩ (ci := 10) rfl (hp_own_is h14) rfl hl.1 rfl (Nat.le_of_ble_eq_true rfl) dX11_wasteOf_87 ⟨Nat.le_of_ble_eq_true rfl, Nat.le_of_ble_eq_true rfl⟩) (fun H locs hR => ?_)
          refine lv_istore (lv' := [(6, .int v15), (5, .int v8), (0, .ref a0), (1, .int x1), (2, .int x2), (3, .int x3), (4, .int x4)]) hx hb dX11_wasteOf_90 hl (by decide) rfl (fun ls hl => ?_)
          refine lv_aload_n hx hb dX11_wasteOf_92 rfl (lv_at hl 2 rfl) ?_
          refine hp_getR hX hR (ci := 10) 14 rfl wf11 (by decide) wq3_181 dX11_wasteOf_93 h (fun q16 h => ?_)
          refine lv_iload hx hb dX11_wasteOf_96 (lv_at hl 6 rfl) ?_
          refine lv_iload hx hb dX11_wasteOf_98 (lv_at hl 1 rfl) ?_
          refine hp_iast hX hR dX11_wasteOf_100 h (fun σ H locs h hR => ?_)
          refine lv_aload_n hx hb dX11_wasteOf_101 rfl (lv_at hl 2 rfl) ?_
          refine hp_getR hX hR (ci := 10) 14 rfl wf11 (by decide) wq3_181 dX11_wasteOf_102 h (fun q17 h => ?_)
          refine lv_iload hx hb dX11_wasteOf_105 (lv_at hl 6 rfl) ?_
          refine lv_iconst (v := 1) hx hb dX11_wasteOf_107 (by decide) ?_
          refine lv_iadd hx hb dX11_wasteOf_108 ?_
          refine lv_iload hx hb dX11_wasteOf_109 (lv_at hl 0 rfl) ?_
          refine hp_iast hX hR dX11_wasteOf_111 h (fun σ H locs h hR => ?_)
          refine lv_iload_n hx hb dX11_wasteOf_112 rfl (lv_at hl 5 rfl) ?_
          refine lv_iload hx hb dX11_wasteOf_113 (lv_at hl 1 rfl) ?_
          refine lv_iload hx hb dX11_wasteOf_115 (lv_at hl 0 rfl) ?_
          refine hp_bn h (fun v19 h18 h => ?_)
          refine hp_ci hR (hp_runS (rest := [.int x3]) (As := [.int v8, .int v15]) hX hR (c_Mo_spread h18) cs_X11_53 rfl rfl hd_Mo_spread ⟨Nat.le_of_ble_eq_true rfl, Nat.le_of_ble_eq_true rfl⟩ rfl hl.1 rfl (Nat.le_of_ble_eq_true rfl) dX11_wasteOf_117 ⟨Nat.le_of_ble_eq_true rfl, Nat.le_of_ble_eq_true rfl⟩) (fun H locs hR => ?_)
          refine lv_imul hx hb dX11_wasteOf_120 ?_
          refine lv_istore_n (lv' := [(3, .int (x3 * v19)), (6, .int v15), (5, .int v8), (0, .ref a0), (1, .int x1), (2, .int x2), (4, .int x4)]) hx hb dX11_wasteOf_121 rfl hl (by decide) rfl (fun ls hl => ?_)
          refine lv_iinc (v := (x4 + 2)) (lv' := [(4, .int (x4 + 2)), (3, .int (x3 * v19)), (6, .int v15), (5, .int v8), (0, .ref a0), (1, .int x1), (2, .int x2)]) hx hb dX11_wasteOf_122 hl (k := 6) rfl rfl (by decide) rfl (fun ls hl => ?_)
          refine lv_goto (tgt := 5) hx hb dX11_wasteOf_125 (by decide) ?_
          exact ih _ _ _ _ _ _ hR h (lv_sub hl [4, 5, 6, 1, 0] rfl)
        · have h := hp_in c13 h
          refine lv_aload_n hx hb dX11_wasteOf_69 rfl (lv_at hl 1 rfl) ?_
          refine lv_iload_n hx hb dX11_wasteOf_70 rfl (lv_at hl 2 rfl) ?_
          refine lv_iload hx hb dX11_wasteOf_71 (lv_at hl 5 rfl) ?_
          refine lv_iconst (v := 1) hx hb dX11_wasteOf_73 (by decide) ?_
          refine lv_iadd hx hb dX11_wasteOf_74 ?_
          refine hp_bn h (fun v21 h20 h => ?_)
          refine hp_ci hR (hp_runV (rest := []) (As := [.int x1, .int (x4 + 1)]) hX hR (c_Mo_at h20) cs_X11_49 rfl rfl rfl hd_Mo_at ⟨Nat.le_of_ble_eq_true rfl, Nat.le_of_ble_eq_true rfl⟩ (ci := 10) rfl (hp_own_is h20) rfl hl.1 rfl (Nat.le_of_ble_eq_true rfl) dX11_wasteOf_75 ⟨Nat.le_of_ble_eq_true rfl, Nat.le_of_ble_eq_true rfl⟩) (fun H locs hR => ?_)
          refine lv_goto (tgt := 90) hx hb dX11_wasteOf_78 (by decide) ?_
          refine lv_istore (lv' := [(6, .int v21), (5, .int v8), (0, .ref a0), (1, .int x1), (2, .int x2), (3, .int x3), (4, .int x4)]) hx hb dX11_wasteOf_90 hl (by decide) rfl (fun ls hl => ?_)
          refine lv_aload_n hx hb dX11_wasteOf_92 rfl (lv_at hl 2 rfl) ?_
          refine hp_getR hX hR (ci := 10) 14 rfl wf11 (by decide) wq3_181 dX11_wasteOf_93 h (fun q22 h => ?_)
          refine lv_iload hx hb dX11_wasteOf_96 (lv_at hl 6 rfl) ?_
          refine lv_iload hx hb dX11_wasteOf_98 (lv_at hl 1 rfl) ?_
          refine hp_iast hX hR dX11_wasteOf_100 h (fun σ H locs h hR => ?_)
          refine lv_aload_n hx hb dX11_wasteOf_101 rfl (lv_at hl 2 rfl) ?_
          refine hp_getR hX hR (ci := 10) 14 rfl wf11 (by decide) wq3_181 dX11_wasteOf_102 h (fun q23 h => ?_)
          refine lv_iload hx hb dX11_wasteOf_105 (lv_at hl 6 rfl) ?_
          refine lv_iconst (v := 1) hx hb dX11_wasteOf_107 (by decide) ?_
          refine lv_iadd hx hb dX11_wasteOf_108 ?_
          refine lv_iload hx hb dX11_wasteOf_109 (lv_at hl 0 rfl) ?_
          refine hp_iast hX hR dX11_wasteOf_111 h (fun σ H locs h hR => ?_)
          refine lv_iload_n hx hb dX11_wasteOf_112 rfl (lv_at hl 5 rfl) ?_
          refine lv_iload hx hb dX11_wasteOf_113 (lv_at hl 1 rfl) ?_
          refine lv_iload hx hb dX11_wasteOf_115 (lv_at hl 0 rfl) ?_
          refine hp_bn h (fun v25 h24 h => ?_)
          refine hp_ci hR (hp_runS (rest := [.int x3]) (As := [.int v8, .int v21]) hX hR (c_Mo_spread h24) cs_X11_53 rfl rfl hd_Mo_spread ⟨Nat.le_of_ble_eq_true rfl, Nat.le_of_ble_eq_true rfl⟩ rfl hl.1 rfl (Nat.le_of_ble_eq_true rfl) dX11_wasteOf_117 ⟨Nat.le_of_ble_eq_true rfl, Nat.le_of_ble_eq_true rfl⟩) (fun H locs hR => ?_)
          refine lv_imul hx hb dX11_wasteOf_120 ?_
          refine lv_istore_n (lv' := [(3, .int (x3 * v25)), (6, .int v21), (5, .int v8), (0, .ref a0), (1, .int x1), (2, .int x2), (4, .int x4)]) hx hb dX11_wasteOf_121 rfl hl (by decide) rfl (fun ls hl => ?_)
          refine lv_iinc (v := (x4 + 2)) (lv' := [(4, .int (x4 + 2)), (3, .int (x3 * v25)), (6, .int v21), (5, .int v8), (0, .ref a0), (1, .int x1), (2, .int x2)]) hx hb dX11_wasteOf_122 hl (k := 6) rfl rfl (by decide) rfl (fun ls hl => ?_)
          refine lv_goto (tgt := 5) hx hb dX11_wasteOf_125 (by decide) ?_
          exact ih _ _ _ _ _ _ hR h (lv_sub hl [4, 5, 6, 1, 0] rfl)
      · have h := hp_in c6 h
        refine lv_aload_n hx hb dX11_wasteOf_29 rfl (lv_at hl 0 rfl) ?_
        refine lv_iload_n hx hb dX11_wasteOf_30 rfl (lv_at hl 1 rfl) ?_
        refine lv_iload hx hb dX11_wasteOf_31 (lv_at hl 4 rfl) ?_
        refine hp_bn h (fun v27 h26 h => ?_)
        refine hp_ci hR (hp_runV (rest := []) (As := [.int x1, .int x4]) hX hR (c_Mo_at h26) cs_X11_49 rfl rfl rfl hd_Mo_at ⟨Nat.le_of_ble_eq_true rfl, Nat.le_of_ble_eq_true rfl⟩ (ci := 10) rfl (hp_own_is h26) rfl hl.1 rfl (Nat.le_of_ble_eq_true rfl) dX11_wasteOf_33 ⟨Nat.le_of_ble_eq_true rfl, Nat.le_of_ble_eq_true rfl⟩) (fun H locs hR => ?_)
        refine lv_goto (tgt := 46) hx hb dX11_wasteOf_36 (by decide) ?_
        refine lv_istore (lv' := [(5, .int v27), (0, .ref a0), (1, .int x1), (2, .int x2), (3, .int x3), (4, .int x4)]) hx hb dX11_wasteOf_46 hl (by decide) rfl (fun ls hl => ?_)
        refine lv_aload_n hx hb dX11_wasteOf_48 rfl (lv_at hl 1 rfl) ?_
        refine lv_iload_n hx hb dX11_wasteOf_49 rfl (lv_at hl 2 rfl) ?_
        refine lv_iload hx hb dX11_wasteOf_50 (lv_at hl 5 rfl) ?_
        refine lv_iconst (v := 1) hx hb dX11_wasteOf_52 (by decide) ?_
        refine lv_iadd hx hb dX11_wasteOf_53 ?_
        refine hp_bn h (fun v29 h28 h => ?_)
        refine hp_ci hR (hp_runV (rest := []) (As := [.int x1, .int (x4 + 1)]) hX hR (c_Mo_at h28) cs_X11_49 rfl rfl rfl hd_Mo_at ⟨Nat.le_of_ble_eq_true rfl, Nat.le_of_ble_eq_true rfl⟩ (ci := 10) rfl (hp_own_is h28) rfl hl.1 rfl (Nat.le_of_ble_eq_true rfl) dX11_wasteOf_54 ⟨Nat.le_of_ble_eq_true rfl, Nat.le_of_ble_eq_true rfl⟩) (fun H locs hR => ?_)
        refine lv_aload_n hx hb dX11_wasteOf_57 rfl (lv_at hl 1 rfl) ?_
        refine lv_iload_n hx hb dX11_wasteOf_58 rfl (lv_at hl 3 rfl) ?_
        refine lv_iload hx hb dX11_wasteOf_59 (lv_at hl 5 rfl) ?_
        refine lv_iconst (v := 1) hx hb dX11_wasteOf_61 (by decide) ?_
        refine lv_iadd hx hb dX11_wasteOf_62 ?_
        refine hp_bn h (fun v31 h30 h => ?_)
        refine hp_ci hR (hp_runV (rest := [.int v29]) (As := [.int x2, .int (x4 + 1)]) hX hR (c_Mo_at h30) cs_X11_49 rfl rfl rfl hd_Mo_at ⟨Nat.le_of_ble_eq_true rfl, Nat.le_of_ble_eq_true rfl⟩ (ci := 10) rfl (hp_own_is h30) rfl hl.1 rfl (Nat.le_of_ble_eq_true rfl) dX11_wasteOf_63 ⟨Nat.le_of_ble_eq_true rfl, Nat.le_of_ble_eq_true rfl⟩) (fun H locs hR => ?_)
        refine lv_icmp_le (tgt := 81) hx hb dX11_wasteOf_66 (by decide) (fun c32 => ?_) (fun c32 => ?_)
        · have h := hp_ip c32 h
          refine lv_aload_n hx hb dX11_wasteOf_81 rfl (lv_at hl 1 rfl) ?_
          refine lv_iload_n hx hb dX11_wasteOf_82 rfl (lv_at hl 3 rfl) ?_
          refine lv_iload hx hb dX11_wasteOf_83 (lv_at hl 5 rfl) ?_
          refine lv_iconst (v := 1) hx hb dX11_wasteOf_85 (by decide) ?_
          refine lv_iadd hx hb dX11_wasteOf_86 ?_
          refine hp_bn h (fun v34 h33 h => ?_)
          refine hp_ci hR (hp_runV (rest := []) (As := [.int x2, .int (x4 + 1)]) hX hR (c_Mo_at h33) cs_X11_49 rfl rfl rfl hd_Mo_at ⟨Nat.le_of_ble_eq_true rfl, Nat.le_of_ble_eq_true rfl⟩ (ci := 10) rfl (hp_own_is h33) rfl hl.1 rfl (Nat.le_of_ble_eq_true rfl) dX11_wasteOf_87 ⟨Nat.le_of_ble_eq_true rfl, Nat.le_of_ble_eq_true rfl⟩) (fun H locs hR => ?_)
          refine lv_istore (lv' := [(6, .int v34), (5, .int v27), (0, .ref a0), (1, .int x1), (2, .int x2), (3, .int x3), (4, .int x4)]) hx hb dX11_wasteOf_90 hl (by decide) rfl (fun ls hl => ?_)
          refine lv_aload_n hx hb dX11_wasteOf_92 rfl (lv_at hl 2 rfl) ?_
          refine hp_getR hX hR (ci := 10) 14 rfl wf11 (by decide) wq3_181 dX11_wasteOf_93 h (fun q35 h => ?_)
          refine lv_iload hx hb dX11_wasteOf_96 (lv_at hl 6 rfl) ?_
          refine lv_iload hx hb dX11_wasteOf_98 (lv_at hl 1 rfl) ?_
          refine hp_iast hX hR dX11_wasteOf_100 h (fun σ H locs h hR => ?_)
          refine lv_aload_n hx hb dX11_wasteOf_101 rfl (lv_at hl 2 rfl) ?_
          refine hp_getR hX hR (ci := 10) 14 rfl wf11 (by decide) wq3_181 dX11_wasteOf_102 h (fun q36 h => ?_)
          refine lv_iload hx hb dX11_wasteOf_105 (lv_at hl 6 rfl) ?_
          refine lv_iconst (v := 1) hx hb dX11_wasteOf_107 (by decide) ?_
          refine lv_iadd hx hb dX11_wasteOf_108 ?_
          refine lv_iload hx hb dX11_wasteOf_109 (lv_at hl 0 rfl) ?_
          refine hp_iast hX hR dX11_wasteOf_111 h (fun σ H locs h hR => ?_)
          refine lv_iload_n hx hb dX11_wasteOf_112 rfl (lv_at hl 5 rfl) ?_
          refine lv_iload hx hb dX11_wasteOf_113 (lv_at hl 1 rfl) ?_
          refine lv_iload hx hb dX11_wasteOf_115 (lv_at hl 0 rfl) ?_
          refine hp_bn h (fun v38 h37 h => ?_)
          refine hp_ci hR (hp_runS (rest := [.int x3]) (As := [.int v27, .int v34]) hX hR (c_Mo_spread h37) cs_X11_53 rfl rfl hd_Mo_spread ⟨Nat.le_of_ble_eq_true rfl, Nat.le_of_ble_eq_true rfl⟩ rfl hl.1 rfl (Nat.le_of_ble_eq_true rfl) dX11_wasteOf_117 ⟨Nat.le_of_ble_eq_true rfl, Nat.le_of_ble_eq_true rfl⟩) (fun H locs hR => ?_)
          refine lv_imul hx hb dX11_wasteOf_120 ?_
          refine lv_istore_n (lv' := [(3, .int (x3 * v38)), (6, .int v34), (5, .int v27), (0, .ref a0), (1, .int x1), (2, .int x2), (4, .int x4)]) hx hb dX11_wasteOf_121 rfl hl (by decide) rfl (fun ls hl => ?_)
          refine lv_iinc (v := (x4 + 2)) (lv' := [(4, .int (x4 + 2)), (3, .int (x3 * v38)), (6, .int v34), (5, .int v27), (0, .ref a0), (1, .int x1), (2, .int x2)]) hx hb dX11_wasteOf_122 hl (k := 6) rfl rfl (by decide) rfl (fun ls hl => ?_)
          refine lv_goto (tgt := 5) hx hb dX11_wasteOf_125 (by decide) ?_
          exact ih _ _ _ _ _ _ hR h (lv_sub hl [4, 5, 6, 1, 0] rfl)
        · have h := hp_in c32 h
          refine lv_aload_n hx hb dX11_wasteOf_69 rfl (lv_at hl 1 rfl) ?_
          refine lv_iload_n hx hb dX11_wasteOf_70 rfl (lv_at hl 2 rfl) ?_
          refine lv_iload hx hb dX11_wasteOf_71 (lv_at hl 5 rfl) ?_
          refine lv_iconst (v := 1) hx hb dX11_wasteOf_73 (by decide) ?_
          refine lv_iadd hx hb dX11_wasteOf_74 ?_
          refine hp_bn h (fun v40 h39 h => ?_)
          refine hp_ci hR (hp_runV (rest := []) (As := [.int x1, .int (x4 + 1)]) hX hR (c_Mo_at h39) cs_X11_49 rfl rfl rfl hd_Mo_at ⟨Nat.le_of_ble_eq_true rfl, Nat.le_of_ble_eq_true rfl⟩ (ci := 10) rfl (hp_own_is h39) rfl hl.1 rfl (Nat.le_of_ble_eq_true rfl) dX11_wasteOf_75 ⟨Nat.le_of_ble_eq_true rfl, Nat.le_of_ble_eq_true rfl⟩) (fun H locs hR => ?_)
          refine lv_goto (tgt := 90) hx hb dX11_wasteOf_78 (by decide) ?_
          refine lv_istore (lv' := [(6, .int v40), (5, .int v27), (0, .ref a0), (1, .int x1), (2, .int x2), (3, .int x3), (4, .int x4)]) hx hb dX11_wasteOf_90 hl (by decide) rfl (fun ls hl => ?_)
          refine lv_aload_n hx hb dX11_wasteOf_92 rfl (lv_at hl 2 rfl) ?_
          refine hp_getR hX hR (ci := 10) 14 rfl wf11 (by decide) wq3_181 dX11_wasteOf_93 h (fun q41 h => ?_)
          refine lv_iload hx hb dX11_wasteOf_96 (lv_at hl 6 rfl) ?_
          refine lv_iload hx hb dX11_wasteOf_98 (lv_at hl 1 rfl) ?_
          refine hp_iast hX hR dX11_wasteOf_100 h (fun σ H locs h hR => ?_)
          refine lv_aload_n hx hb dX11_wasteOf_101 rfl (lv_at hl 2 rfl) ?_
          refine hp_getR hX hR (ci := 10) 14 rfl wf11 (by decide) wq3_181 dX11_wasteOf_102 h (fun q42 h => ?_)
          refine lv_iload hx hb dX11_wasteOf_105 (lv_at hl 6 rfl) ?_
          refine lv_iconst (v := 1) hx hb dX11_wasteOf_107 (by decide) ?_
          refine lv_iadd hx hb dX11_wasteOf_108 ?_
          refine lv_iload hx hb dX11_wasteOf_109 (lv_at hl 0 rfl) ?_
          refine hp_iast hX hR dX11_wasteOf_111 h (fun σ H locs h hR => ?_)
          refine lv_iload_n hx hb dX11_wasteOf_112 rfl (lv_at hl 5 rfl) ?_
          refine lv_iload hx hb dX11_wasteOf_113 (lv_at hl 1 rfl) ?_
          refine lv_iload hx hb dX11_wasteOf_115 (lv_at hl 0 rfl) ?_
          refine hp_bn h (fun v44 h43 h => ?_)
          refine hp_ci hR (hp_runS (rest := [.int x3]) (As := [.int v27, .int v40]) hX hR (c_Mo_spread h43) cs_X11_53 rfl rfl hd_Mo_spread ⟨Nat.le_of_ble_eq_true rfl, Nat.le_of_ble_eq_true rfl⟩ rfl hl.1 rfl (Nat.le_of_ble_eq_true rfl) dX11_wasteOf_117 ⟨Nat.le_of_ble_eq_true rfl, Nat.le_of_ble_eq_true rfl⟩) (fun H locs hR => ?_)
          refine lv_imul hx hb dX11_wasteOf_120 ?_
          refine lv_istore_n (lv' := [(3, .int (x3 * v44)), (6, .int v40), (5, .int v27), (0, .ref a0), (1, .int x1), (2, .int x2), (4, .int x4)]) hx hb dX11_wasteOf_121 rfl hl (by decide) rfl (fun ls hl => ?_)
          refine lv_iinc (v := (x4 + 2)) (lv' := [(4, .int (x4 + 2)), (3, .int (x3 * v44)), (6, .int v40), (5, .int v27), (0, .ref a0), (1, .int x1), (2, .int x2)]) hx hb dX11_wasteOf_122 hl (k := 6) rfl rfl (by decide) rfl (fun ls hl => ?_)
          refine lv_goto (tgt := 5) hx hb dX11_wasteOf_125 (by decide) ?_
          exact ih _ _ _ _ _ _ hR h (lv_sub hl [4, 5, 6, 1, 0] rfl)
set_option maxHeartbeats 4000000 in
set_option maxRecDepth 100000 in
theorem c_Mo_wasteOf {l : Launch} {G : hp_G} {b : Nat} {σ : hp_H} {a0 : Nat} {x1 : Int32} {x2 : Int32} {r : Int32} {σ' : hp_H} (h : f_Mo_wasteOf a0 x1 x2 σ = some (r, σ')) : hp_Met l yX11_wasteOf cX11_wasteOf 7 (some .int) rm_Mo_wasteOf G b [.ref a0, .int x1, .int x2] σ (some (.int r)) σ' 0 0 := by
  refine hp_met (by decide +kernel) (Nat.le_of_ble_eq_true rfl) (fun p e s m below meth c ls hX hlocks hr hnm hl hR => ?_)
  obtain ⟨hx, hb, hml, hown, hts⟩ := id hX.1
  have hl : lv_has ls 7 [(0, .ref a0), (1, .int x1), (2, .int x2)] := hl
  unfold f_Mo_wasteOf at h
  have h := hp_own_to h
  refine lv_iconst (v := 1) hx hb dX11_wasteOf_0 (by decide) ?_
  refine lv_istore_n (lv' := [(3, .int 1), (0, .ref a0), (1, .int x1), (2, .int x2)]) hx hb dX11_wasteOf_1 rfl hl (by decide) rfl (fun ls hl => ?_)
  refine lv_iconst (v := 0) hx hb dX11_wasteOf_2 (by decide) ?_
  refine lv_istore (lv' := [(4, .int 0), (3, .int 1), (0, .ref a0), (1, .int x1), (2, .int x2)]) hx hb dX11_wasteOf_3 hl (by decide) rfl (fun ls hl => ?_)
  refine w_Mo_wasteOf_l1 hX hlocks hr ?_ hp_F _ _ _ _ _ _ hR h (lv_sub hl [2, 3, 4, 1, 0] rfl)
  intro z45 z46 σ H locs ls hR hl h
  refine lv_iload_n hx hb dX11_wasteOf_128 rfl (lv_at hl 3 rfl) ?_
  refine lv_aload_n hx hb dX11_wasteOf_129 rfl (lv_at hl 0 rfl) ?_
  refine lv_iload_n hx hb dX11_wasteOf_130 rfl (lv_at hl 1 rfl) ?_
  refine hp_bn h (fun v48 h47 h => ?_)
  refine hp_ci hR (hp_runV (rest := [.int z45]) (As := [.int x1]) hX hR (c_Mo_sizeOf h47) cs_X11_74 rfl rfl rfl hd_Mo_sizeOf ⟨Nat.le_of_ble_eq_true rfl, Nat.le_of_ble_eq_true rfl⟩ (ci := 10) rfl (hp_own_is h47) rfl hl.1 rfl (Nat.le_of_ble_eq_true rfl) dX11_wasteOf_131 ⟨Nat.le_of_ble_eq_true rfl, Nat.le_of_ble_eq_true rfl⟩) (fun H locs hR => ?_)
  refine lv_isub hx hb dX11_wasteOf_134 ?_
  refine lv_aload_n hx hb dX11_wasteOf_135 rfl (lv_at hl 0 rfl) ?_
  refine lv_iload_n hx hb dX11_wasteOf_136 rfl (lv_at hl 2 rfl) ?_
  refine hp_bn h (fun v50 h49 h => ?_)
  refine hp_ci hR (hp_runV (rest := [.int (z45 - v48)]) (As := [.int x2]) hX hR (c_Mo_sizeOf h49) cs_X11_74 rfl rfl rfl hd_Mo_sizeOf ⟨Nat.le_of_ble_eq_true rfl, Nat.le_of_ble_eq_true rfl⟩ (ci := 10) rfl (hp_own_is h49) rfl hl.1 rfl (Nat.le_of_ble_eq_true rfl) dX11_wasteOf_137 ⟨Nat.le_of_ble_eq_true rfl, Nat.le_of_ble_eq_true rfl⟩) (fun H locs hR => ?_)
  refine lv_isub hx hb dX11_wasteOf_140 ?_
  refine lv_aload_n hx hb dX11_wasteOf_141 rfl (lv_at hl 0 rfl) ?_
  refine lv_iload_n hx hb dX11_wasteOf_142 rfl (lv_at hl 1 rfl) ?_
  refine lv_iload_n hx hb dX11_wasteOf_143 rfl (lv_at hl 2 rfl) ?_
  refine hp_bn h (fun v52 h51 h => ?_)
  refine hp_ci hR (hp_runV (rest := [.int ((z45 - v48) - v50)]) (As := [.int x1, .int x2]) hX hR (c_Mo_shared h51) cs_X11_78 rfl rfl rfl hd_Mo_shared ⟨Nat.le_of_ble_eq_true rfl, Nat.le_of_ble_eq_true rfl⟩ (ci := 10) rfl (hp_own_is h51) rfl hl.1 rfl (Nat.le_of_ble_eq_true rfl) dX11_wasteOf_144 ⟨Nat.le_of_ble_eq_true rfl, Nat.le_of_ble_eq_true rfl⟩) (fun H locs hR => ?_)
  refine lv_iadd hx hb dX11_wasteOf_147 ?_
  exact hp_iret hX hlocks hr hR h dX11_wasteOf_148
theorem cs_X11_81 : hp_WV RX11 81 RX11 yX11_wasteOf cX11_wasteOf 7 (some .int) := ⟨wq4_61, wq4_63, wp2_9, wq1_11, wq4_64⟩
theorem cs_X11_84 : hp_WV RX11 84 RX11 yX11_comes cX11_comes 5 none := ⟨wq4_14, wq4_16, wp1_14, wq1_11, wq4_17⟩
/-! Mo.joins()V -/
abbrev rm_Mo_joins : Room := { frames := 4, cells := 0, slots := 0, locals := 93 }
theorem hd_Mo_joins : hp_d yX11_joins 0 := by decide +kernel
def f_Mo_joins_l2 (a0 : Nat) (x4 : Int32) (K : Int32 → Int32 → Int32 → Int32 → hp_H → Option hp_H) : Nat → Int32 → Int32 → Int32 → Int32 → hp_H → Option hp_H
  | 0, _, _, _, _, _ => none
  | n + 1, x1, x2, x3, x5, σ => (hp_gI σ a0 10 13).bind fun v3 => if v3 ≤ x5 then (K x1 x2 x3 x5 σ) else (hp_b (f_Mo_wasteOf a0 x4 x5 σ) fun v6 σ => if x1 = (-1) then (f_Mo_joins_l2 a0 x4 K n v6 x4 x5 (x5 + 1) σ) else (if x1 ≤ v6 then (f_Mo_joins_l2 a0 x4 K n x1 x2 x3 (x5 + 1) σ) else (f_Mo_joins_l2 a0 x4 K n v6 x4 x5 (x5 + 1) σ)))
def f_Mo_joins_l1 (a0 : Nat) (K : Int32 → Int32 → Int32 → Int32 → hp_H → Option hp_H) : Nat → Int32 → Int32 → Int32 → Int32 → hp_H → Option hp_H
  | 0, _, _, _, _, _ => none
  | n + 1, x1, x2, x3, x4, σ => (hp_gI σ a0 10 13).bind fun v1 => if v1 ≤ x4 then (K x1 x2 x3 x4 σ) else (f_Mo_joins_l2 a0 x4 (fun z9 z10 z11 z12 σ => f_Mo_joins_l1 a0 K n z9 z10 z11 (x4 + 1) σ) hp_F x1 x2 x3 (x4 + 1) σ)
def f_Mo_joins_l3 (a0 : Nat) (K : Int32 → hp_H → Option hp_H) : Nat → Int32 → hp_H → Option hp_H
  | 0, _, _ => none
  | n + 1, x4, σ => if (6 : Int32) ≤ x4 then (K x4 σ) else ((hp_gR σ a0 10 12).bind fun q20 => (hp_gI σ a0 10 13).bind fun v21 => (hp_gR σ a0 10 14).bind fun q22 => (hp_aI σ q22 0 x4).bind fun v23 => (hp_sI σ q20 0 (((6 : Int32) * v21) + x4) v23).bind fun σ => f_Mo_joins_l3 a0 K n (x4 + 1) σ)
def f_Mo_joins (a0 : Nat) (σ : hp_H) : Option hp_H := hp_own σ a0 10 (f_Mo_joins_l1 a0 (fun z13 z14 z15 z16 σ => hp_b (f_Mo_wasteOf a0 z14 z15 σ) fun v18 σ => f_Mo_joins_l3 a0 (fun z24 σ => (f_Mo_comes a0 σ).bind fun σ => some σ) hp_F 0 σ) hp_F (-1) 0 1 0 σ)
set_option maxHeartbeats 4000000 in
set_option maxRecDepth 100000 in
theorem w_Mo_joins_l2 {p : Program} {l : Launch} {e : Env} {s : State} {m : MethodId} {args : Array Value} {below : List Frame} {meth : Method} {c : Code} {G : hp_G} {b : Nat} {a0 : Nat} {x4 : Int32} {σ' : hp_H} {K : Int32 → Int32 → Int32 → Int32 → hp_H → Option hp_H} (hX : hp_X G p s m c args cX11_joins 7 RX11) (hlocks : meth.locks = false) (hr : meth.sig.returnType = none)
    (hK : ∀ (x1 : Int32) (x2 : Int32) (x3 : Int32) (x5 : Int32) (σ : hp_H) (H : Heap) (locs : List Loc) (ls : Array Slot), hp_R G b s.heap σ H locs → lv_has ls 7 [(0, .ref a0), (1, .int x1), (2, .int x2), (3, .int x3), (4, .int x4)] → K x1 x2 x3 x5 σ = some σ' → W p l e rm_Mo_joins s m args below meth c H locs 0 0 (MQ below (hp_Qc G b none σ') args s 0 0 (fun q => b ≤ q)) (F0 m 69 ls [])) :
    ∀ (n : Nat) (x1 : Int32) (x2 : Int32) (x3 : Int32) (x5 : Int32) (σ : hp_H) (H : Heap) (locs : List Loc) (ls : Array Slot), hp_R G b s.heap σ H locs → f_Mo_joins_l2 a0 x4 K n x1 x2 x3 x5 σ = some σ' → lv_has ls 7 [(0, .ref a0), (1, .int x1), (2, .int x2), (3, .int x3), (4, .int x4), (5, .int x5)] → W p l e rm_Mo_joins s m args below meth c H locs 0 0 (MQ below (hp_Qc G b none σ') args s 0 0 (fun q => b ≤ q)) (F0 m 24 ls []) := by
  obtain ⟨hx, hb, hml, hown, hts⟩ := id hX.1
  intro n
  induction n with
  | zero =>
    intro x1 x2 x3 x5 σ H locs ls hR h hl
    rw [f_Mo_joins_l2] at h
    cases h
  | succ n ih =>
    intro x1 x2 x3 x5 σ H locs ls hR h hl
    rw [f_Mo_joins_l2] at h
    refine lv_iload hx hb dX11_joins_24 (lv_at hl 5 rfl) ?_
    refine lv_aload_n hx hb dX11_joins_26 rfl (lv_at hl 0 rfl) ?_
    refine hp_getI hX hR (ci := 10) 13 rfl wf11 (by decide) wq3_180 dX11_joins_27 h (fun v3 h => ?_)
    refine lv_icmp_ge (tgt := 69) hx hb dX11_joins_30 (by decide) (fun c4 => ?_) (fun c4 => ?_)
    · have h := hp_ip c4 h
      exact hK _ _ _ _ _ _ _ _ hR (lv_sub hl [0, 1, 2, 3, 4] rfl) h
    · have h := hp_in c4 h
      refine lv_aload_n hx hb dX11_joins_33 rfl (lv_at hl 0 rfl) ?_
      refine lv_iload hx hb dX11_joins_34 (lv_at hl 4 rfl) ?_
      refine lv_iload hx hb dX11_joins_36 (lv_at hl 5 rfl) ?_
      refine hp_b2 h (fun v6 σ h5 h => ?_)
      refine hp_ci hR (hp_runV (rest := []) (As := [.int x4, .int x5]) hX hR (c_Mo_wasteOf h5) cs_X11_81 rfl rfl rfl hd_Mo_wasteOf ⟨Nat.le_of_ble_eq_true rfl, Nat.le_of_ble_eq_true rfl⟩ (ci := 10) rfl (hp_own_is h5) rfl hl.1 rfl (Nat.le_of_ble_eq_true rfl) dX11_joins_38 ⟨Nat.le_of_ble_eq_true rfl, Nat.le_of_ble_eq_true rfl⟩) (fun H locs hR => ?_)
      refine lv_istore (lv' := [(6, .int v6), (0, .ref a0), (1, .int x1), (2, .int x2), (3, .int x3), (4, .int x4), (5, .int x5)]) hx hb dX11_joins_41 hl (by decide) rfl (fun ls hl => ?_)
      refine lv_iload_n hx hb dX11_joins_43 rfl (lv_at hl 2 rfl) ?_
      refine lv_iconst (v := (-1)) hx hb dX11_joins_44 (by decide) ?_
      refine lv_icmp_eq (tgt := 54) hx hb dX11_joins_45 (by decide) (fun c7 => ?_) (fun c7 => ?_)
      · have h := hp_ip c7 h
        refine lv_iload hx hb dX11_joins_54 (lv_at hl 0 rfl) ?_
        refine lv_istore_n (lv' := [(1, .int v6), (6, .int v6), (0, .ref a0), (2, .int x2), (3, .int x3), (4, .int x4), (5, .int x5)]) hx hb dX11_joins_56 rfl hl (by decide) rfl (fun ls hl => ?_)
        refine lv_iload hx hb dX11_joins_57 (lv_at hl 5 rfl) ?_
        refine lv_istore_n (lv' := [(2, .int x4), (1, .int v6), (6, .int v6), (0, .ref a0), (3, .int x3), (4, .int x4), (5, .int x5)]) hx hb dX11_joins_59 rfl hl (by decide) rfl (fun ls hl => ?_)
        refine lv_iload hx hb dX11_joins_60 (lv_at hl 6 rfl) ?_
        refine lv_istore_n (lv' := [(3, .int x5), (2, .int x4), (1, .int v6), (6, .int v6), (0, .ref a0), (4, .int x4), (5, .int x5)]) hx hb dX11_joins_62 rfl hl (by decide) rfl (fun ls hl => ?_)
        refine lv_iinc (v := (x5 + 1)) (lv' := [(5, .int (x5 + 1)), (3, .int x5), (2, .int x4), (1, .int v6), (6, .int v6), (0, .ref a0), (4, .int x4)]) hx hb dX11_joins_63 hl (k := 6) rfl rfl (by decide) rfl (fun ls hl => ?_)
        refine lv_goto (tgt := 24) hx hb dX11_joins_66 (by decide) ?_
        exact ih _ _ _ _ _ _ _ _ hR h (lv_sub hl [5, 3, 2, 1, 6, 0] rfl)
      · have h := hp_in c7 h
        refine lv_iload hx hb dX11_joins_48 (lv_at hl 0 rfl) ?_
        refine lv_iload_n hx hb dX11_joins_50 rfl (lv_at hl 2 rfl) ?_
        refine lv_icmp_ge (tgt := 63) hx hb dX11_joins_51 (by decide) (fun c8 => ?_) (fun c8 => ?_)
        · have h := hp_ip c8 h
          refine lv_iinc (v := (x5 + 1)) (lv' := [(5, .int (x5 + 1)), (6, .int v6), (0, .ref a0), (1, .int x1), (2, .int x2), (3, .int x3), (4, .int x4)]) hx hb dX11_joins_63 hl (k := 6) rfl rfl (by decide) rfl (fun ls hl => ?_)
          refine lv_goto (tgt := 24) hx hb dX11_joins_66 (by decide) ?_
          exact ih _ _ _ _ _ _ _ _ hR h (lv_sub hl [2, 3, 4, 5, 6, 0] rfl)
        · have h := hp_in c8 h
          refine lv_iload hx hb dX11_joins_54 (lv_at hl 0 rfl) ?_
          refine lv_istore_n (lv' := [(1, .int v6), (6, .int v6), (0, .ref a0), (2, .int x2), (3, .int x3), (4, .int x4), (5, .int x5)]) hx hb dX11_joins_56 rfl hl (by decide) rfl (fun ls hl => ?_)
          refine lv_iload hx hb dX11_joins_57 (lv_at hl 5 rfl) ?_
          refine lv_istore_n (lv' := [(2, .int x4), (1, .int v6), (6, .int v6), (0, .ref a0), (3, .int x3), (4, .int x4), (5, .int x5)]) hx hb dX11_joins_59 rfl hl (by decide) rfl (fun ls hl => ?_)
          refine lv_iload hx hb dX11_joins_60 (lv_at hl 6 rfl) ?_
          refine lv_istore_n (lv' := [(3, .int x5), (2, .int x4), (1, .int v6), (6, .int v6), (0, .ref a0), (4, .int x4), (5, .int x5)]) hx hb dX11_joins_62 rfl hl (by decide) rfl (fun ls hl => ?_)
          refine lv_iinc (v := (x5 + 1)) (lv' := [(5, .int (x5 + 1)), (3, .int x5), (2, .int x4), (1, .int v6), (6, .int v6), (0, .ref a0), (4, .int x4)]) hx hb dX11_joins_63 hl (k := 6) rfl rfl (by decide) rfl (fun ls hl => ?_)
          refine lv_goto (tgt := 24) hx hb dX11_joins_66 (by decide) ?_
          exact ih _ _ _ _ _ _ _ _ hR h (lv_sub hl [5, 3, 2, 1, 6, 0] rfl)
set_option maxHeartbeats 4000000 in
set_option maxRecDepth 100000 in
theorem w_Mo_joins_l1 {p : Program} {l : Launch} {e : Env} {s : State} {m : MethodId} {args : Array Value} {below : List Frame} {meth : Method} {c : Code} {G : hp_G} {b : Nat} {a0 : Nat} {σ' : hp_H} {K : Int32 → Int32 → Int32 → Int32 → hp_H → Option hp_H} (hX : hp_X G p s m c args cX11_joins 7 RX11) (hlocks : meth.locks = false) (hr : meth.sig.returnType = none)
    (hK : ∀ (x1 : Int32) (x2 : Int32) (x3 : Int32) (x4 : Int32) (σ : hp_H) (H : Heap) (locs : List Loc) (ls : Array Slot), hp_R G b s.heap σ H locs → lv_has ls 7 [(0, .ref a0), (2, .int x2), (3, .int x3)] → K x1 x2 x3 x4 σ = some σ' → W p l e rm_Mo_joins s m args below meth c H locs 0 0 (MQ below (hp_Qc G b none σ') args s 0 0 (fun q => b ≤ q)) (F0 m 75 ls [])) :
    ∀ (n : Nat) (x1 : Int32) (x2 : Int32) (x3 : Int32) (x4 : Int32) (σ : hp_H) (H : Heap) (locs : List Loc) (ls : Array Slot), hp_R G b s.heap σ H locs → f_Mo_joins_l1 a0 K n x1 x2 x3 x4 σ = some σ' → lv_has ls 7 [(0, .ref a0), (1, .int x1), (2, .int x2), (3, .int x3), (4, .int x4)] → W p l e rm_Mo_joins s m args below meth c H locs 0 0 (MQ below (hp_Qc G b none σ') args s 0 0 (fun q => b ≤ q)) (F0 m 9 ls []) := by
  obtain ⟨hx, hb, hml, hown, hts⟩ := id hX.1
  intro n
  induction n with
  | zero =>
    intro x1 x2 x3 x4 σ H locs ls hR h hl
    rw [f_Mo_joins_l1] at h
    cases h
  | succ n ih =>
    intro x1 x2 x3 x4 σ H locs ls hR h hl
    rw [f_Mo_joins_l1] at h
    refine lv_iload hx hb dX11_joins_9 (lv_at hl 4 rfl) ?_
    refine lv_aload_n hx hb dX11_joins_11 rfl (lv_at hl 0 rfl) ?_
    refine hp_getI hX hR (ci := 10) 13 rfl wf11 (by decide) wq3_180 dX11_joins_12 h (fun v1 h => ?_)
    refine lv_icmp_ge (tgt := 75) hx hb dX11_joins_15 (by decide) (fun c2 => ?_) (fun c2 => ?_)
    · have h := hp_ip c2 h
      exact hK _ _ _ _ _ _ _ _ hR (lv_sub hl [0, 2, 3] rfl) h
    · have h := hp_in c2 h
      refine lv_iload hx hb dX11_joins_18 (lv_at hl 4 rfl) ?_
      refine lv_iconst (v := 1) hx hb dX11_joins_20 (by decide) ?_
      refine lv_iadd hx hb dX11_joins_21 ?_
      refine lv_istore (lv' := [(5, .int (x4 + 1)), (0, .ref a0), (1, .int x1), (2, .int x2), (3, .int x3), (4, .int x4)]) hx hb dX11_joins_22 hl (by decide) rfl (fun ls hl => ?_)
      refine w_Mo_joins_l2 hX hlocks hr ?_ hp_F _ _ _ _ _ _ _ _ hR h (lv_sub hl [1, 2, 3, 4, 5, 0] rfl)
      intro z9 z10 z11 z12 σ H locs ls hR hl h
      refine lv_iinc (v := (x4 + 1)) (lv' := [(4, .int (x4 + 1)), (0, .ref a0), (1, .int z9), (2, .int z10), (3, .int z11)]) hx hb dX11_joins_69 hl (k := 4) rfl rfl (by decide) rfl (fun ls hl => ?_)
      refine lv_goto (tgt := 9) hx hb dX11_joins_72 (by decide) ?_
      exact ih _ _ _ _ _ _ _ _ hR h (lv_sub hl [1, 2, 3, 4, 0] rfl)
set_option maxHeartbeats 4000000 in
set_option maxRecDepth 100000 in
theorem w_Mo_joins_l3 {p : Program} {l : Launch} {e : Env} {s : State} {m : MethodId} {args : Array Value} {below : List Frame} {meth : Method} {c : Code} {G : hp_G} {b : Nat} {a0 : Nat} {σ' : hp_H} {K : Int32 → hp_H → Option hp_H} (hX : hp_X G p s m c args cX11_joins 7 RX11) (hlocks : meth.locks = false) (hr : meth.sig.returnType = none)
    (hK : ∀ (x4 : Int32) (σ : hp_H) (H : Heap) (locs : List Loc) (ls : Array Slot), hp_R G b s.heap σ H locs → lv_has ls 7 [(0, .ref a0)] → K x4 σ = some σ' → W p l e rm_Mo_joins s m args below meth c H locs 0 0 (MQ below (hp_Qc G b none σ') args s 0 0 (fun q => b ≤ q)) (F0 m 120 ls [])) :
    ∀ (n : Nat) (x4 : Int32) (σ : hp_H) (H : Heap) (locs : List Loc) (ls : Array Slot), hp_R G b s.heap σ H locs → f_Mo_joins_l3 a0 K n x4 σ = some σ' → lv_has ls 7 [(0, .ref a0), (4, .int x4)] → W p l e rm_Mo_joins s m args below meth c H locs 0 0 (MQ below (hp_Qc G b none σ') args s 0 0 (fun q => b ≤ q)) (F0 m 85 ls []) := by
  obtain ⟨hx, hb, hml, hown, hts⟩ := id hX.1
  intro n
  induction n with
  | zero =>
    intro x4 σ H locs ls hR h hl
    rw [f_Mo_joins_l3] at h
    cases h
  | succ n ih =>
    intro x4 σ H locs ls hR h hl
    rw [f_Mo_joins_l3] at h
    refine lv_iload hx hb dX11_joins_85 (lv_at hl 1 rfl) ?_
    refine lv_bipush (v := 6) hx hb dX11_joins_87 (by decide) ?_
    refine lv_icmp_ge (tgt := 120) hx hb dX11_joins_89 (by decide) (fun c19 => ?_) (fun c19 => ?_)
    · have h := hp_ip c19 h
      exact hK _ _ _ _ _ hR (lv_sub hl [0] rfl) h
    · have h := hp_in c19 h
      refine lv_aload_n hx hb dX11_joins_92 rfl (lv_at hl 0 rfl) ?_
      refine hp_getR hX hR (ci := 10) 12 rfl wf11 (by decide) wq3_179 dX11_joins_93 h (fun q20 h => ?_)
      refine lv_bipush (v := 6) hx hb dX11_joins_96 (by decide) ?_
      refine lv_aload_n hx hb dX11_joins_98 rfl (lv_at hl 0 rfl) ?_
      refine hp_getI hX hR (ci := 10) 13 rfl wf11 (by decide) wq3_180 dX11_joins_99 h (fun v21 h => ?_)
      refine lv_imul hx hb dX11_joins_102 ?_
      refine lv_iload hx hb dX11_joins_103 (lv_at hl 1 rfl) ?_
      refine lv_iadd hx hb dX11_joins_105 ?_
      refine lv_aload_n hx hb dX11_joins_106 rfl (lv_at hl 0 rfl) ?_
      refine hp_getR hX hR (ci := 10) 14 rfl wf11 (by decide) wq3_181 dX11_joins_107 h (fun q22 h => ?_)
      refine lv_iload hx hb dX11_joins_110 (lv_at hl 1 rfl) ?_
      refine hp_iald hX hR dX11_joins_112 h (fun v23 h => ?_)
      refine hp_iast hX hR dX11_joins_113 h (fun σ H locs h hR => ?_)
      refine lv_iinc (v := (x4 + 1)) (lv' := [(4, .int (x4 + 1)), (0, .ref a0)]) hx hb dX11_joins_114 hl (k := 1) rfl rfl (by decide) rfl (fun ls hl => ?_)
      refine lv_goto (tgt := 85) hx hb dX11_joins_117 (by decide) ?_
      exact ih _ _ _ _ _ hR h (lv_sub hl [1, 0] rfl)
set_option maxHeartbeats 4000000 in
set_option maxRecDepth 100000 in
theorem c_Mo_joins {l : Launch} {G : hp_G} {b : Nat} {σ : hp_H} {a0 : Nat} {σ' : hp_H} (h : f_Mo_joins a0 σ = some σ') : hp_Met l yX11_joins cX11_joins 7 none rm_Mo_joins G b [.ref a0] σ none σ' 0 0 := by
  refine hp_met (by decide +kernel) (Nat.le_of_ble_eq_true rfl) (fun p e s m below meth c ls hX hlocks hr hnm hl hR => ?_)
  obtain ⟨hx, hb, hml, hown, hts⟩ := id hX.1
  have hl : lv_has ls 7 [(0, .ref a0)] := hl
  unfold f_Mo_joins at h
  have h := hp_own_to h
  refine lv_iconst (v := (-1)) hx hb dX11_joins_0 (by decide) ?_
  refine lv_istore_n (lv' := [(1, .int (-1)), (0, .ref a0)]) hx hb dX11_joins_1 rfl hl (by decide) rfl (fun ls hl => ?_)
  refine lv_iconst (v := 0) hx hb dX11_joins_2 (by decide) ?_
  refine lv_istore_n (lv' := [(2, .int 0), (1, .int (-1)), (0, .ref a0)]) hx hb dX11_joins_3 rfl hl (by decide) rfl (fun ls hl => ?_)
  refine lv_iconst (v := 1) hx hb dX11_joins_4 (by decide) ?_
  refine lv_istore_n (lv' := [(3, .int 1), (2, .int 0), (1, .int (-1)), (0, .ref a0)]) hx hb dX11_joins_5 rfl hl (by decide) rfl (fun ls hl => ?_)
  refine lv_iconst (v := 0) hx hb dX11_joins_6 (by decide) ?_
  refine lv_istore (lv' := [(4, .int 0), (3, .int 1), (2, .int 0), (1, .int (-1)), (0, .ref a0)]) hx hb dX11_joins_7 hl (by decide) rfl (fun ls hl => ?_)
  refine w_Mo_joins_l1 hX hlocks hr ?_ hp_F _ _ _ _ _ _ _ _ hR h (lv_sub hl [4, 3, 2, 1, 0] rfl)
  intro z13 z14 z15 z16 σ H locs ls hR hl h
  refine lv_aload_n hx hb dX11_joins_75 rfl (lv_at hl 0 rfl) ?_
  refine lv_iload_n hx hb dX11_joins_76 rfl (lv_at hl 1 rfl) ?_
  refine lv_iload_n hx hb dX11_joins_77 rfl (lv_at hl 2 rfl) ?_
  refine hp_b2 h (fun v18 σ h17 h => ?_)
  refine hp_ci hR (hp_runV (rest := []) (As := [.int z14, .int z15]) hX hR (c_Mo_wasteOf h17) cs_X11_81 rfl rfl rfl hd_Mo_wasteOf ⟨Nat.le_of_ble_eq_true rfl, Nat.le_of_ble_eq_true rfl⟩ (ci := 10) rfl (hp_own_is h17) rfl hl.1 rfl (Nat.le_of_ble_eq_true rfl) dX11_joins_78 ⟨Nat.le_of_ble_eq_true rfl, Nat.le_of_ble_eq_true rfl⟩) (fun H locs hR => ?_)
  refine lv_pop hx hb dX11_joins_81 rfl ?_
  refine lv_iconst (v := 0) hx hb dX11_joins_82 (by decide) ?_
  refine lv_istore (lv' := [(4, .int 0), (0, .ref a0), (2, .int z14), (3, .int z15)]) hx hb dX11_joins_83 hl (by decide) rfl (fun ls hl => ?_)
  refine w_Mo_joins_l3 hX hlocks hr ?_ hp_F _ _ _ _ _ hR h (lv_sub hl [1, 0] rfl)
  intro z24 σ H locs ls hR hl h
  refine lv_aload_n hx hb dX11_joins_120 rfl (lv_at hl 0 rfl) ?_
  refine hp_bn h (fun σ h25 h => ?_)
  refine hp_cv hR (hp_runV (rest := []) (As := []) hX hR (c_Mo_comes h25) cs_X11_84 rfl rfl rfl hd_Mo_comes ⟨Nat.le_of_ble_eq_true rfl, Nat.le_of_ble_eq_true rfl⟩ (ci := 10) rfl (hp_own_is h25) rfl hl.1 rfl (Nat.le_of_ble_eq_true rfl) dX11_joins_121 ⟨Nat.le_of_ble_eq_true rfl, Nat.le_of_ble_eq_true rfl⟩) (fun H locs hR => ?_)
  exact hp_vret hX hlocks hr hR h dX11_joins_124
theorem cs_X11_87 : hp_WV RX11 87 RX11 yX11_wish cX11_wish 3 (some .int) := ⟨wq4_6, wq4_8, wp1_12, wq1_11, wq4_9⟩
theorem cs_X11_90 : hp_WV RX11 90 RX11 yX11_of cX11_of 3 (some .int) := ⟨wq4_10, wq4_12, wp1_13, wq1_11, wq4_13⟩
/-! Mo.gathersWishes(I)V -/
abbrev rm_Mo_gathersWishes : Room := { frames := 4, cells := 0, slots := 0, locals := 93 }
theorem hd_Mo_gathersWishes : hp_d yX11_gathersWishes 1 := by decide +kernel
def f_Mo_gathersWishes_l2 (a0 : Nat) (x1 : Int32) (x2 : Int32) (K : Int32 → hp_H → Option hp_H) : Nat → Int32 → hp_H → Option hp_H
  | 0, _, _ => none
  | n + 1, x3, σ => if (6 : Int32) ≤ x3 then (K x3 σ) else ((hp_gR σ a0 10 12).bind fun q10 => (hp_gI σ a0 10 13).bind fun v11 => (f_Mo_wish a0 x2 ((1 : Int32) + x3) σ).bind fun v13 => (hp_sI σ q10 0 (((6 : Int32) * v11) + x3) v13).bind fun σ => f_Mo_gathersWishes_l2 a0 x1 x2 K n (x3 + 1) σ)
def f_Mo_gathersWishes_l1 (a0 : Nat) (x1 : Int32) (K : Int32 → hp_H → Option hp_H) : Nat → Int32 → hp_H → Option hp_H
  | 0, _, _ => none
  | n + 1, x2, σ => (hp_gR σ a0 10 0).bind fun q1 => (hp_aI σ q1 0 2).bind fun v2 => if v2 ≤ x2 then (K x2 σ) else ((f_Mo_wish a0 x2 0 σ).bind fun v5 => (f_Mo_of a0 v5 0 σ).bind fun v7 => if v7 = x1 then (f_Mo_gathersWishes_l2 a0 x1 x2 (fun z14 σ => (f_Mo_comes a0 σ).bind fun σ => f_Mo_gathersWishes_l1 a0 x1 K n (x2 + 1) σ) hp_F 0 σ) else (f_Mo_gathersWishes_l1 a0 x1 K n (x2 + 1) σ))
def f_Mo_gathersWishes (a0 : Nat) (x1 : Int32) (σ : hp_H) : Option hp_H := hp_own σ a0 10 (f_Mo_gathersWishes_l1 a0 x1 (fun z16 σ => some σ) hp_F 0 σ)
set_option maxHeartbeats 4000000 in
set_option maxRecDepth 100000 in
theorem w_Mo_gathersWishes_l2 {p : Program} {l : Launch} {e : Env} {s : State} {m : MethodId} {args : Array Value} {below : List Frame} {meth : Method} {c : Code} {G : hp_G} {b : Nat} {a0 : Nat} {x1 : Int32} {x2 : Int32} {σ' : hp_H} {K : Int32 → hp_H → Option hp_H} (hX : hp_X G p s m c args cX11_gathersWishes 4 RX11) (hlocks : meth.locks = false) (hr : meth.sig.returnType = none)
    (hK : ∀ (x3 : Int32) (σ : hp_H) (H : Heap) (locs : List Loc) (ls : Array Slot), hp_R G b s.heap σ H locs → lv_has ls 4 [(0, .ref a0), (1, .int x1), (2, .int x2)] → K x3 σ = some σ' → W p l e rm_Mo_gathersWishes s m args below meth c H locs 0 0 (MQ below (hp_Qc G b none σ') args s 0 0 (fun q => b ≤ q)) (F0 m 63 ls [])) :
    ∀ (n : Nat) (x3 : Int32) (σ : hp_H) (H : Heap) (locs : List Loc) (ls : Array Slot), hp_R G b s.heap σ H locs → f_Mo_gathersWishes_l2 a0 x1 x2 K n x3 σ = some σ' → lv_has ls 4 [(0, .ref a0), (1, .int x1), (2, .int x2), (3, .int x3)] → W p l e rm_Mo_gathersWishes s m args below meth c H locs 0 0 (MQ below (hp_Qc G b none σ') args s 0 0 (fun q => b ≤ q)) (F0 m 29 ls []) := by
  obtain ⟨hx, hb, hml, hown, hts⟩ := id hX.1
  intro n
  induction n with
  | zero =>
    intro x3 σ H locs ls hR h hl
    rw [f_Mo_gathersWishes_l2] at h
    cases h
  | succ n ih =>
    intro x3 σ H locs ls hR h hl
    rw [f_Mo_gathersWishes_l2] at h
    refine lv_iload_n hx hb dX11_gathersWishes_29 rfl (lv_at hl 3 rfl) ?_
    refine lv_bipush (v := 6) hx hb dX11_gathersWishes_30 (by decide) ?_
    refine lv_icmp_ge (tgt := 63) hx hb dX11_gathersWishes_32 (by decide) (fun c9 => ?_) (fun c9 => ?_)
    · have h := hp_ip c9 h
      exact hK _ _ _ _ _ hR (lv_sub hl [0, 1, 2] rfl) h
    · have h := hp_in c9 h
      refine lv_aload_n hx hb dX11_gathersWishes_35 rfl (lv_at hl 0 rfl) ?_
      refine hp_getR hX hR (ci := 10) 12 rfl wf11 (by decide) wq3_179 dX11_gathersWishes_36 h (fun q10 h => ?_)
      refine lv_bipush (v := 6) hx hb dX11_gathersWishes_39 (by decide) ?_
      refine lv_aload_n hx hb dX11_gathersWishes_41 rfl (lv_at hl 0 rfl) ?_
      refine hp_getI hX hR (ci := 10) 13 rfl wf11 (by decide) wq3_180 dX11_gathersWishes_42 h (fun v11 h => ?_)
      refine lv_imul hx hb dX11_gathersWishes_45 ?_
      refine lv_iload_n hx hb dX11_gathersWishes_46 rfl (lv_at hl 3 rfl) ?_
      refine lv_iadd hx hb dX11_gathersWishes_47 ?_
      refine lv_aload_n hx hb dX11_gathersWishes_48 rfl (lv_at hl 0 rfl) ?_
      refine lv_iload_n hx hb dX11_gathersWishes_49 rfl (lv_at hl 2 rfl) ?_
      refine lv_iconst (v := 1) hx hb dX11_gathersWishes_50 (by decide) ?_
      refine lv_iload_n hx hb dX11_gathersWishes_51 rfl (lv_at hl 3 rfl) ?_
      refine lv_iadd hx hb dX11_gathersWishes_52 ?_
      refine hp_bn h (fun v13 h12 h => ?_)
      refine hp_ci hR (hp_runV (rest := [.int (((6 : Int32) * v11) + x3), .ref q10]) (As := [.int x2, .int ((1 : Int32) + x3)]) hX hR (c_Mo_wish h12) cs_X11_87 rfl rfl rfl hd_Mo_wish ⟨Nat.le_of_ble_eq_true rfl, Nat.le_of_ble_eq_true rfl⟩ (ci := 10) rfl (hp_own_is h12) rfl hl.1 rfl (Nat.le_of_ble_eq_true rfl) dX11_gathersWishes_53 ⟨Nat.le_of_ble_eq_true rfl, Nat.le_of_ble_eq_true rfl⟩) (fun H locs hR => ?_)
      refine hp_iast hX hR dX11_gathersWishes_56 h (fun σ H locs h hR => ?_)
      refine lv_iinc (v := (x3 + 1)) (lv' := [(3, .int (x3 + 1)), (0, .ref a0), (1, .int x1), (2, .int x2)]) hx hb dX11_gathersWishes_57 hl (k := 3) rfl rfl (by decide) rfl (fun ls hl => ?_)
      refine lv_goto (tgt := 29) hx hb dX11_gathersWishes_60 (by decide) ?_
      exact ih _ _ _ _ _ hR h (lv_sub hl [1, 2, 3, 0] rfl)
set_option maxHeartbeats 4000000 in
set_option maxRecDepth 100000 in
theorem w_Mo_gathersWishes_l1 {p : Program} {l : Launch} {e : Env} {s : State} {m : MethodId} {args : Array Value} {below : List Frame} {meth : Method} {c : Code} {G : hp_G} {b : Nat} {a0 : Nat} {x1 : Int32} {σ' : hp_H} {K : Int32 → hp_H → Option hp_H} (hX : hp_X G p s m c args cX11_gathersWishes 4 RX11) (hlocks : meth.locks = false) (hr : meth.sig.returnType = none)
    (hK : ∀ (x2 : Int32) (σ : hp_H) (H : Heap) (locs : List Loc) (ls : Array Slot), hp_R G b s.heap σ H locs → lv_has ls 4 [] → K x2 σ = some σ' → W p l e rm_Mo_gathersWishes s m args below meth c H locs 0 0 (MQ below (hp_Qc G b none σ') args s 0 0 (fun q => b ≤ q)) (F0 m 73 ls [])) :
    ∀ (n : Nat) (x2 : Int32) (σ : hp_H) (H : Heap) (locs : List Loc) (ls : Array Slot), hp_R G b s.heap σ H locs → f_Mo_gathersWishes_l1 a0 x1 K n x2 σ = some σ' → lv_has ls 4 [(0, .ref a0), (1, .int x1), (2, .int x2)] → W p l e rm_Mo_gathersWishes s m args below meth c H locs 0 0 (MQ below (hp_Qc G b none σ') args s 0 0 (fun q => b ≤ q)) (F0 m 2 ls []) := by
  obtain ⟨hx, hb, hml, hown, hts⟩ := id hX.1
  intro n
  induction n with
  | zero =>
    intro x2 σ H locs ls hR h hl
    rw [f_Mo_gathersWishes_l1] at h
    cases h
  | succ n ih =>
    intro x2 σ H locs ls hR h hl
    rw [f_Mo_gathersWishes_l1] at h
    refine lv_iload_n hx hb dX11_gathersWishes_2 rfl (lv_at hl 2 rfl) ?_
    refine lv_aload_n hx hb dX11_gathersWishes_3 rfl (lv_at hl 0 rfl) ?_
    refine hp_getR hX hR (ci := 10) 0 rfl wf11 (by decide) wq3_167 dX11_gathersWishes_4 h (fun q1 h => ?_)
    refine lv_iconst (v := 2) hx hb dX11_gathersWishes_7 (by decide) ?_
    refine hp_iald hX hR dX11_gathersWishes_8 h (fun v2 h => ?_)
    refine lv_icmp_ge (tgt := 73) hx hb dX11_gathersWishes_9 (by decide) (fun c3 => ?_) (fun c3 => ?_)
    · have h := hp_ip c3 h
      exact hK _ _ _ _ _ hR (lv_sub hl [] rfl) h
    · have h := hp_in c3 h
      refine lv_aload_n hx hb dX11_gathersWishes_12 rfl (lv_at hl 0 rfl) ?_
      refine lv_aload_n hx hb dX11_gathersWishes_13 rfl (lv_at hl 0 rfl) ?_
      refine lv_iload_n hx hb dX11_gathersWishes_14 rfl (lv_at hl 2 rfl) ?_
      refine lv_iconst (v := 0) hx hb dX11_gathersWishes_15 (by decide) ?_
      refine hp_bn h (fun v5 h4 h => ?_)
      refine hp_ci hR (hp_runV (rest := [.ref a0]) (As := [.int x2, .int 0]) hX hR (c_Mo_wish h4) cs_X11_87 rfl rfl rfl hd_Mo_wish ⟨Nat.le_of_ble_eq_true rfl, Nat.le_of_ble_eq_true rfl⟩ (ci := 10) rfl (hp_own_is h4) rfl hl.1 rfl (Nat.le_of_ble_eq_true rfl) dX11_gathersWishes_16 ⟨Nat.le_of_ble_eq_true rfl, Nat.le_of_ble_eq_true rfl⟩) (fun H locs hR => ?_)
      refine lv_iconst (v := 0) hx hb dX11_gathersWishes_19 (by decide) ?_
      refine hp_bn h (fun v7 h6 h => ?_)
      refine hp_ci hR (hp_runV (rest := []) (As := [.int v5, .int 0]) hX hR (c_Mo_of h6) cs_X11_90 rfl rfl rfl hd_Mo_of ⟨Nat.le_of_ble_eq_true rfl, Nat.le_of_ble_eq_true rfl⟩ (ci := 10) rfl (hp_own_is h6) rfl hl.1 rfl (Nat.le_of_ble_eq_true rfl) dX11_gathersWishes_20 ⟨Nat.le_of_ble_eq_true rfl, Nat.le_of_ble_eq_true rfl⟩) (fun H locs hR => ?_)
      refine lv_iload_n hx hb dX11_gathersWishes_23 rfl (lv_at hl 1 rfl) ?_
      refine lv_icmp_ne (tgt := 67) hx hb dX11_gathersWishes_24 (by decide) (fun c8 => ?_) (fun c8 => ?_)
      · have h := hp_in c8 h
        refine lv_iinc (v := (x2 + 1)) (lv' := [(2, .int (x2 + 1)), (0, .ref a0), (1, .int x1)]) hx hb dX11_gathersWishes_67 hl (k := 2) rfl rfl (by decide) rfl (fun ls hl => ?_)
        refine lv_goto (tgt := 2) hx hb dX11_gathersWishes_70 (by decide) ?_
        exact ih _ _ _ _ _ hR h (lv_sub hl [1, 2, 0] rfl)
      · have h := hp_ip c8 h
        refine lv_iconst (v := 0) hx hb dX11_gathersWishes_27 (by decide) ?_
        refine lv_istore_n (lv' := [(3, .int 0), (0, .ref a0), (1, .int x1), (2, .int x2)]) hx hb dX11_gathersWishes_28 rfl hl (by decide) rfl (fun ls hl => ?_)
        refine w_Mo_gathersWishes_l2 hX hlocks hr ?_ hp_F _ _ _ _ _ hR h (lv_sub hl [1, 2, 3, 0] rfl)
        intro z14 σ H locs ls hR hl h
        refine lv_aload_n hx hb dX11_gathersWishes_63 rfl (lv_at hl 0 rfl) ?_
        refine hp_bn h (fun σ h15 h => ?_)
        refine hp_cv hR (hp_runV (rest := []) (As := []) hX hR (c_Mo_comes h15) cs_X11_84 rfl rfl rfl hd_Mo_comes ⟨Nat.le_of_ble_eq_true rfl, Nat.le_of_ble_eq_true rfl⟩ (ci := 10) rfl (hp_own_is h15) rfl hl.1 rfl (Nat.le_of_ble_eq_true rfl) dX11_gathersWishes_64 ⟨Nat.le_of_ble_eq_true rfl, Nat.le_of_ble_eq_true rfl⟩) (fun H locs hR => ?_)
        refine lv_iinc (v := (x2 + 1)) (lv' := [(2, .int (x2 + 1)), (0, .ref a0), (1, .int x1)]) hx hb dX11_gathersWishes_67 hl (k := 2) rfl rfl (by decide) rfl (fun ls hl => ?_)
        refine lv_goto (tgt := 2) hx hb dX11_gathersWishes_70 (by decide) ?_
        exact ih _ _ _ _ _ hR h (lv_sub hl [1, 2, 0] rfl)
set_option maxHeartbeats 4000000 in
set_option maxRecDepth 100000 in
theorem c_Mo_gathersWishes {l : Launch} {G : hp_G} {b : Nat} {σ : hp_H} {a0 : Nat} {x1 : Int32} {σ' : hp_H} (h : f_Mo_gathersWishes a0 x1 σ = some σ') : hp_Met l yX11_gathersWishes cX11_gathersWishes 4 none rm_Mo_gathersWishes G b [.ref a0, .int x1] σ none σ' 0 0 := by
  refine hp_met (by decide +kernel) (Nat.le_of_ble_eq_true rfl) (fun p e s m below meth c ls hX hlocks hr hnm hl hR => ?_)
  obtain ⟨hx, hb, hml, hown, hts⟩ := id hX.1
  have hl : lv_has ls 4 [(0, .ref a0), (1, .int x1)] := hl
  unfold f_Mo_gathersWishes at h
  have h := hp_own_to h
  refine lv_iconst (v := 0) hx hb dX11_gathersWishes_0 (by decide) ?_
  refine lv_istore_n (lv' := [(2, .int 0), (0, .ref a0), (1, .int x1)]) hx hb dX11_gathersWishes_1 rfl hl (by decide) rfl (fun ls hl => ?_)
  refine w_Mo_gathersWishes_l1 hX hlocks hr ?_ hp_F _ _ _ _ _ hR h (lv_sub hl [1, 2, 0] rfl)
  intro z16 σ H locs ls hR hl h
  exact hp_vret hX hlocks hr hR h dX11_gathersWishes_73
/-! Mo.gathersLink(I)V -/
abbrev rm_Mo_gathersLink : Room := { frames := 4, cells := 0, slots := 0, locals := 93 }
theorem hd_Mo_gathersLink : hp_d yX11_gathersLink 1 := by decide +kernel
def f_Mo_gathersLink_l2 (a0 : Nat) (x1 : Int32) (x2 : Int32) (K : Int32 → hp_H → Option hp_H) : Nat → Int32 → hp_H → Option hp_H
  | 0, _, _ => none
  | n + 1, x3, σ => if (6 : Int32) ≤ x3 then (K x3 σ) else ((hp_gR σ a0 10 12).bind fun q5 => (hp_gI σ a0 10 13).bind fun v6 => (hp_gR σ a0 10 10).bind fun q7 => (hp_aI σ q7 0 ((((54 : Int32) * x1) + ((6 : Int32) * x2)) + x3)).bind fun v8 => (hp_sI σ q5 0 (((6 : Int32) * v6) + x3) v8).bind fun σ => f_Mo_gathersLink_l2 a0 x1 x2 K n (x3 + 1) σ)
def f_Mo_gathersLink_l1 (a0 : Nat) (x1 : Int32) (K : Int32 → hp_H → Option hp_H) : Nat → Int32 → hp_H → Option hp_H
  | 0, _, _ => none
  | n + 1, x2, σ => (hp_gR σ a0 10 9).bind fun q1 => (hp_aI σ q1 0 x1).bind fun v2 => if v2 ≤ x2 then (K x2 σ) else (f_Mo_gathersLink_l2 a0 x1 x2 (fun z9 σ => (f_Mo_comes a0 σ).bind fun σ => f_Mo_gathersLink_l1 a0 x1 K n (x2 + 1) σ) hp_F 0 σ)
def f_Mo_gathersLink (a0 : Nat) (x1 : Int32) (σ : hp_H) : Option hp_H := hp_own σ a0 10 (f_Mo_gathersLink_l1 a0 x1 (fun z11 σ => some σ) hp_F 0 σ)
set_option maxHeartbeats 4000000 in
set_option maxRecDepth 100000 in
theorem w_Mo_gathersLink_l2 {p : Program} {l : Launch} {e : Env} {s : State} {m : MethodId} {args : Array Value} {below : List Frame} {meth : Method} {c : Code} {G : hp_G} {b : Nat} {a0 : Nat} {x1 : Int32} {x2 : Int32} {σ' : hp_H} {K : Int32 → hp_H → Option hp_H} (hX : hp_X G p s m c args cX11_gathersLink 4 RX11) (hlocks : meth.locks = false) (hr : meth.sig.returnType = none)
    (hK : ∀ (x3 : Int32) (σ : hp_H) (H : Heap) (locs : List Loc) (ls : Array Slot), hp_R G b s.heap σ H locs → lv_has ls 4 [(0, .ref a0), (1, .int x1), (2, .int x2)] → K x3 σ = some σ' → W p l e rm_Mo_gathersLink s m args below meth c H locs 0 0 (MQ below (hp_Qc G b none σ') args s 0 0 (fun q => b ≤ q)) (F0 m 56 ls [])) :
    ∀ (n : Nat) (x3 : Int32) (σ : hp_H) (H : Heap) (locs : List Loc) (ls : Array Slot), hp_R G b s.heap σ H locs → f_Mo_gathersLink_l2 a0 x1 x2 K n x3 σ = some σ' → lv_has ls 4 [(0, .ref a0), (1, .int x1), (2, .int x2), (3, .int x3)] → W p l e rm_Mo_gathersLink s m args below meth c H locs 0 0 (MQ below (hp_Qc G b none σ') args s 0 0 (fun q => b ≤ q)) (F0 m 14 ls []) := by
  obtain ⟨hx, hb, hml, hown, hts⟩ := id hX.1
  intro n
  induction n with
  | zero =>
    intro x3 σ H locs ls hR h hl
    rw [f_Mo_gathersLink_l2] at h
    cases h
  | succ n ih =>
    intro x3 σ H locs ls hR h hl
    rw [f_Mo_gathersLink_l2] at h
    refine lv_iload_n hx hb dX11_gathersLink_14 rfl (lv_at hl 3 rfl) ?_
    refine lv_bipush (v := 6) hx hb dX11_gathersLink_15 (by decide) ?_
    refine lv_icmp_ge (tgt := 56) hx hb dX11_gathersLink_17 (by decide) (fun c4 => ?_) (fun c4 => ?_)
    · have h := hp_ip c4 h
      exact hK _ _ _ _ _ hR (lv_sub hl [0, 1, 2] rfl) h
    · have h := hp_in c4 h
      refine lv_aload_n hx hb dX11_gathersLink_20 rfl (lv_at hl 0 rfl) ?_
      refine hp_getR hX hR (ci := 10) 12 rfl wf11 (by decide) wq3_179 dX11_gathersLink_21 h (fun q5 h => ?_)
      refine lv_bipush (v := 6) hx hb dX11_gathersLink_24 (by decide) ?_
      refine lv_aload_n hx hb dX11_gathersLink_26 rfl (lv_at hl 0 rfl) ?_
      refine hp_getI hX hR (ci := 10) 13 rfl wf11 (by decide) wq3_180 dX11_gathersLink_27 h (fun v6 h => ?_)
      refine lv_imul hx hb dX11_gathersLink_30 ?_
      refine lv_iload_n hx hb dX11_gathersLink_31 rfl (lv_at hl 3 rfl) ?_
      refine lv_iadd hx hb dX11_gathersLink_32 ?_
      refine lv_aload_n hx hb dX11_gathersLink_33 rfl (lv_at hl 0 rfl) ?_
      refine hp_getR hX hR (ci := 10) 10 rfl wf11 (by decide) wq3_177 dX11_gathersLink_34 h (fun q7 h => ?_)
      refine lv_bipush (v := 54) hx hb dX11_gathersLink_37 (by decide) ?_
      refine lv_iload_n hx hb dX11_gathersLink_39 rfl (lv_at hl 1 rfl) ?_
      refine lv_imul hx hb dX11_gathersLink_40 ?_
      refine lv_bipush (v := 6) hx hb dX11_gathersLink_41 (by decide) ?_
      refine lv_iload_n hx hb dX11_gathersLink_43 rfl (lv_at hl 2 rfl) ?_
      refine lv_imul hx hb dX11_gathersLink_44 ?_
      refine lv_iadd hx hb dX11_gathersLink_45 ?_
      refine lv_iload_n hx hb dX11_gathersLink_46 rfl (lv_at hl 3 rfl) ?_
      refine lv_iadd hx hb dX11_gathersLink_47 ?_
      refine hp_iald hX hR dX11_gathersLink_48 h (fun v8 h => ?_)
      refine hp_iast hX hR dX11_gathersLink_49 h (fun σ H locs h hR => ?_)
      refine lv_iinc (v := (x3 + 1)) (lv' := [(3, .int (x3 + 1)), (0, .ref a0), (1, .int x1), (2, .int x2)]) hx hb dX11_gathersLink_50 hl (k := 3) rfl rfl (by decide) rfl (fun ls hl => ?_)
      refine lv_goto (tgt := 14) hx hb dX11_gathersLink_53 (by decide) ?_
      exact ih _ _ _ _ _ hR h (lv_sub hl [1, 2, 3, 0] rfl)
set_option maxHeartbeats 4000000 in
set_option maxRecDepth 100000 in
theorem w_Mo_gathersLink_l1 {p : Program} {l : Launch} {e : Env} {s : State} {m : MethodId} {args : Array Value} {below : List Frame} {meth : Method} {c : Code} {G : hp_G} {b : Nat} {a0 : Nat} {x1 : Int32} {σ' : hp_H} {K : Int32 → hp_H → Option hp_H} (hX : hp_X G p s m c args cX11_gathersLink 4 RX11) (hlocks : meth.locks = false) (hr : meth.sig.returnType = none)
    (hK : ∀ (x2 : Int32) (σ : hp_H) (H : Heap) (locs : List Loc) (ls : Array Slot), hp_R G b s.heap σ H locs → lv_has ls 4 [] → K x2 σ = some σ' → W p l e rm_Mo_gathersLink s m args below meth c H locs 0 0 (MQ below (hp_Qc G b none σ') args s 0 0 (fun q => b ≤ q)) (F0 m 66 ls [])) :
    ∀ (n : Nat) (x2 : Int32) (σ : hp_H) (H : Heap) (locs : List Loc) (ls : Array Slot), hp_R G b s.heap σ H locs → f_Mo_gathersLink_l1 a0 x1 K n x2 σ = some σ' → lv_has ls 4 [(0, .ref a0), (1, .int x1), (2, .int x2)] → W p l e rm_Mo_gathersLink s m args below meth c H locs 0 0 (MQ below (hp_Qc G b none σ') args s 0 0 (fun q => b ≤ q)) (F0 m 2 ls []) := by
  obtain ⟨hx, hb, hml, hown, hts⟩ := id hX.1
  intro n
  induction n with
  | zero =>
    intro x2 σ H locs ls hR h hl
    rw [f_Mo_gathersLink_l1] at h
    cases h
  | succ n ih =>
    intro x2 σ H locs ls hR h hl
    rw [f_Mo_gathersLink_l1] at h
    refine lv_iload_n hx hb dX11_gathersLink_2 rfl (lv_at hl 2 rfl) ?_
    refine lv_aload_n hx hb dX11_gathersLink_3 rfl (lv_at hl 0 rfl) ?_
    refine hp_getR hX hR (ci := 10) 9 rfl wf11 (by decide) wq3_176 dX11_gathersLink_4 h (fun q1 h => ?_)
    refine lv_iload_n hx hb dX11_gathersLink_7 rfl (lv_at hl 1 rfl) ?_
    refine hp_iald hX hR dX11_gathersLink_8 h (fun v2 h => ?_)
    refine lv_icmp_ge (tgt := 66) hx hb dX11_gathersLink_9 (by decide) (fun c3 => ?_) (fun c3 => ?_)
    · have h := hp_ip c3 h
      exact hK _ _ _ _ _ hR (lv_sub hl [] rfl) h
    · have h := hp_in c3 h
      refine lv_iconst (v := 0) hx hb dX11_gathersLink_12 (by decide) ?_
      refine lv_istore_n (lv' := [(3, .int 0), (0, .ref a0), (1, .int x1), (2, .int x2)]) hx hb dX11_gathersLink_13 rfl hl (by decide) rfl (fun ls hl => ?_)
      refine w_Mo_gathersLink_l2 hX hlocks hr ?_ hp_F _ _ _ _ _ hR h (lv_sub hl [1, 2, 3, 0] rfl)
      intro z9 σ H locs ls hR hl h
      refine lv_aload_n hx hb dX11_gathersLink_56 rfl (lv_at hl 0 rfl) ?_
      refine hp_bn h (fun σ h10 h => ?_)
      refine hp_cv hR (hp_runV (rest := []) (As := []) hX hR (c_Mo_comes h10) cs_X11_84 rfl rfl rfl hd_Mo_comes ⟨Nat.le_of_ble_eq_true rfl, Nat.le_of_ble_eq_true rfl⟩ (ci := 10) rfl (hp_own_is h10) rfl hl.1 rfl (Nat.le_of_ble_eq_true rfl) dX11_gathersLink_57 ⟨Nat.le_of_ble_eq_true rfl, Nat.le_of_ble_eq_true rfl⟩) (fun H locs hR => ?_)
      refine lv_iinc (v := (x2 + 1)) (lv' := [(2, .int (x2 + 1)), (0, .ref a0), (1, .int x1)]) hx hb dX11_gathersLink_60 hl (k := 2) rfl rfl (by decide) rfl (fun ls hl => ?_)
      refine lv_goto (tgt := 2) hx hb dX11_gathersLink_63 (by decide) ?_
      exact ih _ _ _ _ _ hR h (lv_sub hl [1, 2, 0] rfl)
set_option maxHeartbeats 4000000 in
set_option maxRecDepth 100000 in
theorem c_Mo_gathersLink {l : Launch} {G : hp_G} {b : Nat} {σ : hp_H} {a0 : Nat} {x1 : Int32} {σ' : hp_H} (h : f_Mo_gathersLink a0 x1 σ = some σ') : hp_Met l yX11_gathersLink cX11_gathersLink 4 none rm_Mo_gathersLink G b [.ref a0, .int x1] σ none σ' 0 0 := by
  refine hp_met (by decide +kernel) (Nat.le_of_ble_eq_true rfl) (fun p e s m below meth c ls hX hlocks hr hnm hl hR => ?_)
  obtain ⟨hx, hb, hml, hown, hts⟩ := id hX.1
  have hl : lv_has ls 4 [(0, .ref a0), (1, .int x1)] := hl
  unfold f_Mo_gathersLink at h
  have h := hp_own_to h
  refine lv_iconst (v := 0) hx hb dX11_gathersLink_0 (by decide) ?_
  refine lv_istore_n (lv' := [(2, .int 0), (0, .ref a0), (1, .int x1)]) hx hb dX11_gathersLink_1 rfl hl (by decide) rfl (fun ls hl => ?_)
  refine w_Mo_gathersLink_l1 hX hlocks hr ?_ hp_F _ _ _ _ _ hR h (lv_sub hl [1, 2, 0] rfl)
  intro z11 σ H locs ls hR hl h
  exact hp_vret hX hlocks hr hR h dX11_gathersLink_66
/-! Mo.linkOf(II)I -/
abbrev rm_Mo_linkOf : Room := { frames := 0, cells := 0, slots := 0, locals := 0 }
theorem hd_Mo_linkOf : hp_d yX11_linkOf 2 := by decide +kernel
def f_Mo_linkOf (a0 : Nat) (x1 : Int32) (x2 : Int32) (σ : hp_H) : Option Int32 := hp_own σ a0 10 ((hp_gR σ a0 10 0).bind fun q1 => (hp_aI σ q1 0 ((8 : Int32) + x1)).bind fun v2 => if v2 = x2 then (some ((2 : Int32) * x1)) else (some (((2 : Int32) * x2) + 1)))
set_option maxHeartbeats 4000000 in
set_option maxRecDepth 100000 in
theorem c_Mo_linkOf {l : Launch} {G : hp_G} {b : Nat} {σ : hp_H} {a0 : Nat} {x1 : Int32} {x2 : Int32} {r : Int32} (h : f_Mo_linkOf a0 x1 x2 σ = some r) : hp_Met l yX11_linkOf cX11_linkOf 3 (some .int) rm_Mo_linkOf G b [.ref a0, .int x1, .int x2] σ (some (.int r)) σ 0 0 := by
  refine hp_met (by decide +kernel) (Nat.le_of_ble_eq_true rfl) (fun p e s m below meth c ls hX hlocks hr hnm hl hR => ?_)
  obtain ⟨hx, hb, hml, hown, hts⟩ := id hX.1
  have hl : lv_has ls 3 [(0, .ref a0), (1, .int x1), (2, .int x2)] := hl
  unfold f_Mo_linkOf at h
  have h := hp_own_to h
  refine lv_aload_n hx hb dX11_linkOf_0 rfl (lv_at hl 0 rfl) ?_
  refine hp_getR hX hR (ci := 10) 0 rfl wf11 (by decide) wq3_167 dX11_linkOf_1 h (fun q1 h => ?_)
  refine lv_bipush (v := 8) hx hb dX11_linkOf_4 (by decide) ?_
  refine lv_iload_n hx hb dX11_linkOf_6 rfl (lv_at hl 1 rfl) ?_
  refine lv_iadd hx hb dX11_linkOf_7 ?_
  refine hp_iald hX hR dX11_linkOf_8 h (fun v2 h => ?_)
  refine lv_iload_n hx hb dX11_linkOf_9 rfl (lv_at hl 2 rfl) ?_
  refine lv_icmp_ne (tgt := 19) hx hb dX11_linkOf_10 (by decide) (fun c3 => ?_) (fun c3 => ?_)
  · have h := hp_in c3 h
    refine lv_iconst (v := 2) hx hb dX11_linkOf_19 (by decide) ?_
    refine lv_iload_n hx hb dX11_linkOf_20 rfl (lv_at hl 2 rfl) ?_
    refine lv_imul hx hb dX11_linkOf_21 ?_
    refine lv_iconst (v := 1) hx hb dX11_linkOf_22 (by decide) ?_
    refine lv_iadd hx hb dX11_linkOf_23 ?_
    exact hp_iretP hX hlocks hr hR h dX11_linkOf_24
  · have h := hp_ip c3 h
    refine lv_iconst (v := 2) hx hb dX11_linkOf_13 (by decide) ?_
    refine lv_iload_n hx hb dX11_linkOf_14 rfl (lv_at hl 1 rfl) ?_
    refine lv_imul hx hb dX11_linkOf_15 ?_
    refine lv_goto (tgt := 24) hx hb dX11_linkOf_16 (by decide) ?_
    exact hp_iretP hX hlocks hr hR h dX11_linkOf_24
theorem cs_X11_93 : hp_WV RX11 93 RX11 yX11_gathersWishes cX11_gathersWishes 4 none := ⟨wq4_2, wq4_4, wp1_11, wq1_11, wq4_5⟩
theorem cs_X11_97 : hp_WV RX11 97 RX11 yX11_areNeighbours cX11_areNeighbours 3 (some .boolean) := ⟨wq4_38, wq4_40, wp2_4, wq1_11, wq4_41⟩
theorem cs_X11_100 : hp_WV RX11 100 RX11 yX11_linkOf cX11_linkOf 3 (some .int) := ⟨wq4_49, wq4_51, wp2_6, wq1_11, wq4_52⟩
theorem cs_X11_103 : hp_WV RX11 103 RX11 yX11_gathersLink cX11_gathersLink 4 none := ⟨wq4_53, wq4_55, wp2_7, wq1_11, wq4_56⟩
theorem cs_X11_106 : hp_WV RX11 106 RX11 yX11_joins cX11_joins 7 none := ⟨wq4_57, wq4_59, wp2_8, wq1_11, wq4_60⟩
/-! Mo.laysLink(II)V -/
abbrev rm_Mo_laysLink : Room := { frames := 5, cells := 0, slots := 0, locals := 119 }
theorem hd_Mo_laysLink : hp_d yX11_laysLink 2 := by decide +kernel
def f_Mo_laysLink_l1 (a0 : Nat) (x1 : Int32) (x2 : Int32) (K : Int32 → hp_H → Option hp_H) : Nat → Int32 → hp_H → Option hp_H
  | 0, _, _ => none
  | n + 1, x3, σ => (hp_gR σ a0 10 0).bind fun q2 => (hp_aI σ q2 0 0).bind fun v3 => if v3 ≤ x3 then (K x3 σ) else (if x3 = x2 then (f_Mo_laysLink_l1 a0 x1 x2 K n (x3 + 1) σ) else ((f_Mo_areNeighbours a0 x3 x1 σ).bind fun v7 => if v7 = 0 then (f_Mo_laysLink_l1 a0 x1 x2 K n (x3 + 1) σ) else ((f_Mo_linkOf a0 x3 x1 σ).bind fun v10 => (f_Mo_gathersLink a0 v10 σ).bind fun σ => f_Mo_laysLink_l1 a0 x1 x2 K n (x3 + 1) σ)))
def f_Mo_laysLink_l2 (a0 : Nat) (x1 : Int32) (x2 : Int32) (K : hp_H → Option hp_H) : Nat → hp_H → Option hp_H
  | 0, _ => none
  | n + 1, σ => (hp_gI σ a0 10 13).bind fun v13 => (hp_gR σ a0 10 0).bind fun q14 => (hp_aI σ q14 0 3).bind fun v15 => if v13 ≤ v15 then (K σ) else ((f_Mo_joins a0 σ).bind fun σ => f_Mo_laysLink_l2 a0 x1 x2 K n σ)
def f_Mo_laysLink_l3 (a0 : Nat) (x3 : Int32) (K : Int32 → hp_H → Option hp_H) : Nat → Int32 → hp_H → Option hp_H
  | 0, _, _ => none
  | n + 1, x4, σ => (hp_gI σ a0 10 13).bind fun v22 => if ((6 : Int32) * v22) ≤ x4 then (K x4 σ) else ((hp_gR σ a0 10 10).bind fun q24 => (hp_gR σ a0 10 12).bind fun q25 => (hp_aI σ q25 0 x4).bind fun v26 => (hp_sI σ q24 0 (((54 : Int32) * x3) + x4) v26).bind fun σ => f_Mo_laysLink_l3 a0 x3 K n (x4 + 1) σ)
def f_Mo_laysLink (a0 : Nat) (x1 : Int32) (x2 : Int32) (σ : hp_H) : Option hp_H := hp_own σ a0 10 ((hp_pI σ a0 10 13 0).bind fun σ => (f_Mo_gathersWishes a0 x1 σ).bind fun σ => f_Mo_laysLink_l1 a0 x1 x2 (fun z12 σ => f_Mo_laysLink_l2 a0 x1 x2 (fun σ => (f_Mo_linkOf a0 x1 x2 σ).bind fun v19 => (hp_gR σ a0 10 9).bind fun q20 => (hp_gI σ a0 10 13).bind fun v21 => (hp_sI σ q20 0 v19 v21).bind fun σ => f_Mo_laysLink_l3 a0 v19 (fun z27 σ => some σ) hp_F 0 σ) hp_F σ) hp_F 0 σ)
set_option maxHeartbeats 4000000 in
set_option maxRecDepth 100000 in
theorem w_Mo_laysLink_l1 {p : Program} {l : Launch} {e : Env} {s : State} {m : MethodId} {args : Array Value} {below : List Frame} {meth : Method} {c : Code} {G : hp_G} {b : Nat} {a0 : Nat} {x1 : Int32} {x2 : Int32} {σ' : hp_H} {K : Int32 → hp_H → Option hp_H} (hX : hp_X G p s m c args cX11_laysLink 5 RX11) (hlocks : meth.locks = false) (hr : meth.sig.returnType = none)
    (hK : ∀ (x3 : Int32) (σ : hp_H) (H : Heap) (locs : List Loc) (ls : Array Slot), hp_R G b s.heap σ H locs → lv_has ls 5 [(0, .ref a0), (1, .int x1), (2, .int x2)] → K x3 σ = some σ' → W p l e rm_Mo_laysLink s m args below meth c H locs 0 0 (MQ below (hp_Qc G b none σ') args s 0 0 (fun q => b ≤ q)) (F0 m 52 ls [])) :
    ∀ (n : Nat) (x3 : Int32) (σ : hp_H) (H : Heap) (locs : List Loc) (ls : Array Slot), hp_R G b s.heap σ H locs → f_Mo_laysLink_l1 a0 x1 x2 K n x3 σ = some σ' → lv_has ls 5 [(0, .ref a0), (1, .int x1), (2, .int x2), (3, .int x3)] → W p l e rm_Mo_laysLink s m args below meth c H locs 0 0 (MQ below (hp_Qc G b none σ') args s 0 0 (fun q => b ≤ q)) (F0 m 12 ls []) := by
  obtain ⟨hx, hb, hml, hown, hts⟩ := id hX.1
  intro n
  induction n with
  | zero =>
    intro x3 σ H locs ls hR h hl
    rw [f_Mo_laysLink_l1] at h
    cases h
  | succ n ih =>
    intro x3 σ H locs ls hR h hl
    rw [f_Mo_laysLink_l1] at h
    refine lv_iload_n hx hb dX11_laysLink_12 rfl (lv_at hl 3 rfl) ?_
    refine lv_aload_n hx hb dX11_laysLink_13 rfl (lv_at hl 0 rfl) ?_
    refine hp_getR hX hR (ci := 10) 0 rfl wf11 (by decide) wq3_167 dX11_laysLink_14 h (fun q2 h => ?_)
    refine lv_iconst (v := 0) hx hb dX11_laysLink_17 (by decide) ?_
    refine hp_iald hX hR dX11_laysLink_18 h (fun v3 h => ?_)
    refine lv_icmp_ge (tgt := 52) hx hb dX11_laysLink_19 (by decide) (fun c4 => ?_) (fun c4 => ?_)
    · have h := hp_ip c4 h
      exact hK _ _ _ _ _ hR (lv_sub hl [0, 1, 2] rfl) h
    · have h := hp_in c4 h
      refine lv_iload_n hx hb dX11_laysLink_22 rfl (lv_at hl 3 rfl) ?_
      refine lv_iload_n hx hb dX11_laysLink_23 rfl (lv_at hl 2 rfl) ?_
      refine lv_icmp_eq (tgt := 46) hx hb dX11_laysLink_24 (by decide) (fun c5 => ?_) (fun c5 => ?_)
      · have h := hp_ip c5 h
        refine lv_iinc (v := (x3 + 1)) (lv' := [(3, .int (x3 + 1)), (0, .ref a0), (1, .int x1), (2, .int x2)]) hx hb dX11_laysLink_46 hl (k := 3) rfl rfl (by decide) rfl (fun ls hl => ?_)
        refine lv_goto (tgt := 12) hx hb dX11_laysLink_49 (by decide) ?_
        exact ih _ _ _ _ _ hR h (lv_sub hl [1, 2, 3, 0] rfl)
      · have h := hp_in c5 h
        refine lv_aload_n hx hb dX11_laysLink_27 rfl (lv_at hl 0 rfl) ?_
        refine lv_iload_n hx hb dX11_laysLink_28 rfl (lv_at hl 3 rfl) ?_
        refine lv_iload_n hx hb dX11_laysLink_29 rfl (lv_at hl 1 rfl) ?_
        refine hp_bn h (fun v7 h6 h => ?_)
        refine hp_ci hR (hp_runV (rest := []) (As := [.int x3, .int x1]) hX hR (c_Mo_areNeighbours h6) cs_X11_97 rfl rfl rfl hd_Mo_areNeighbours ⟨Nat.le_of_ble_eq_true rfl, Nat.le_of_ble_eq_true rfl⟩ (ci := 10) rfl (hp_own_is h6) rfl hl.1 rfl (Nat.le_of_ble_eq_true rfl) dX11_laysLink_30 ⟨Nat.le_of_ble_eq_true rfl, Nat.le_of_ble_eq_true rfl⟩) (fun H locs hR => ?_)
        refine lv_if_eq (tgt := 46) hx hb dX11_laysLink_33 (by decide) (fun c8 => ?_) (fun c8 => ?_)
        · have h := hp_ip c8 h
          refine lv_iinc (v := (x3 + 1)) (lv' := [(3, .int (x3 + 1)), (0, .ref a0), (1, .int x1), (2, .int x2)]) hx hb dX11_laysLink_46 hl (k := 3) rfl rfl (by decide) rfl (fun ls hl => ?_)
          refine lv_goto (tgt := 12) hx hb dX11_laysLink_49 (by decide) ?_
          exact ih _ _ _ _ _ hR h (lv_sub hl [1, 2, 3, 0] rfl)
        · have h := hp_in c8 h
          refine lv_aload_n hx hb dX11_laysLink_36 rfl (lv_at hl 0 rfl) ?_
          refine lv_aload_n hx hb dX11_laysLink_37 rfl (lv_at hl 0 rfl) ?_
          refine lv_iload_n hx hb dX11_laysLink_38 rfl (lv_at hl 3 rfl) ?_
          refine lv_iload_n hx hb dX11_laysLink_39 rfl (lv_at hl 1 rfl) ?_
          refine hp_bn h (fun v10 h9 h => ?_)
          refine hp_ci hR (hp_runV (rest := [.ref a0]) (As := [.int x3, .int x1]) hX hR (c_Mo_linkOf h9) cs_X11_100 rfl rfl rfl hd_Mo_linkOf ⟨Nat.le_of_ble_eq_true rfl, Nat.le_of_ble_eq_true rfl⟩ (ci := 10) rfl (hp_own_is h9) rfl hl.1 rfl (Nat.le_of_ble_eq_true rfl) dX11_laysLink_40 ⟨Nat.le_of_ble_eq_true rfl, Nat.le_of_ble_eq_true rfl⟩) (fun H locs hR => ?_)
          refine hp_bn h (fun σ h11 h => ?_)
          refine hp_cv hR (hp_runV (rest := []) (As := [.int v10]) hX hR (c_Mo_gathersLink h11) cs_X11_103 rfl rfl rfl hd_Mo_gathersLink ⟨Nat.le_of_ble_eq_true rfl, Nat.le_of_ble_eq_true rfl⟩ (ci := 10) rfl (hp_own_is h11) rfl hl.1 rfl (Nat.le_of_ble_eq_true rfl) dX11_laysLink_43 ⟨Nat.le_of_ble_eq_true rfl, Nat.le_of_ble_eq_true rfl⟩) (fun H locs hR => ?_)
          refine lv_iinc (v := (x3 + 1)) (lv' := [(3, .int (x3 + 1)), (0, .ref a0), (1, .int x1), (2, .int x2)]) hx hb dX11_laysLink_46 hl (k := 3) rfl rfl (by decide) rfl (fun ls hl => ?_)
          refine lv_goto (tgt := 12) hx hb dX11_laysLink_49 (by decide) ?_
          exact ih _ _ _ _ _ hR h (lv_sub hl [1, 2, 3, 0] rfl)
set_option maxHeartbeats 4000000 in
set_option maxRecDepth 100000 in
theorem w_Mo_laysLink_l2 {p : Program} {l : Launch} {e : Env} {s : State} {m : MethodId} {args : Array Value} {below : List Frame} {meth : Method} {c : Code} {G : hp_G} {b : Nat} {a0 : Nat} {x1 : Int32} {x2 : Int32} {σ' : hp_H} {K : hp_H → Option hp_H} (hX : hp_X G p s m c args cX11_laysLink 5 RX11) (hlocks : meth.locks = false) (hr : meth.sig.returnType = none)
    (hK : ∀  (σ : hp_H) (H : Heap) (locs : List Loc) (ls : Array Slot), hp_R G b s.heap σ H locs → lv_has ls 5 [(0, .ref a0), (1, .int x1), (2, .int x2)] → K σ = some σ' → W p l e rm_Mo_laysLink s m args below meth c H locs 0 0 (MQ below (hp_Qc G b none σ') args s 0 0 (fun q => b ≤ q)) (F0 m 72 ls [])) :
    ∀ (n : Nat)  (σ : hp_H) (H : Heap) (locs : List Loc) (ls : Array Slot), hp_R G b s.heap σ H locs → f_Mo_laysLink_l2 a0 x1 x2 K n σ = some σ' → lv_has ls 5 [(0, .ref a0), (1, .int x1), (2, .int x2)] → W p l e rm_Mo_laysLink s m args below meth c H locs 0 0 (MQ below (hp_Qc G b none σ') args s 0 0 (fun q => b ≤ q)) (F0 m 52 ls []) := by
  obtain ⟨hx, hb, hml, hown, hts⟩ := id hX.1
  intro n
  induction n with
  | zero =>
    intro σ H locs ls hR h hl
    rw [f_Mo_laysLink_l2] at h
    cases h
  | succ n ih =>
    intro σ H locs ls hR h hl
    rw [f_Mo_laysLink_l2] at h
    refine lv_aload_n hx hb dX11_laysLink_52 rfl (lv_at hl 0 rfl) ?_
    refine hp_getI hX hR (ci := 10) 13 rfl wf11 (by decide) wq3_180 dX11_laysLink_53 h (fun v13 h => ?_)
    refine lv_aload_n hx hb dX11_laysLink_56 rfl (lv_at hl 0 rfl) ?_
    refine hp_getR hX hR (ci := 10) 0 rfl wf11 (by decide) wq3_167 dX11_laysLink_57 h (fun q14 h => ?_)
    refine lv_iconst (v := 3) hx hb dX11_laysLink_60 (by decide) ?_
    refine hp_iald hX hR dX11_laysLink_61 h (fun v15 h => ?_)
    refine lv_icmp_le (tgt := 72) hx hb dX11_laysLink_62 (by decide) (fun c16 => ?_) (fun c16 => ?_)
    · have h := hp_ip c16 h
      exact hK _ _ _ _ hR (lv_sub hl [0, 1, 2] rfl) h
    · have h := hp_in c16 h
      refine lv_aload_n hx hb dX11_laysLink_65 rfl (lv_at hl 0 rfl) ?_
      refine hp_bn h (fun σ h17 h => ?_)
      refine hp_cv hR (hp_runV (rest := []) (As := []) hX hR (c_Mo_joins h17) cs_X11_106 rfl rfl rfl hd_Mo_joins ⟨Nat.le_of_ble_eq_true rfl, Nat.le_of_ble_eq_true rfl⟩ (ci := 10) rfl (hp_own_is h17) rfl hl.1 rfl (Nat.le_of_ble_eq_true rfl) dX11_laysLink_66 ⟨Nat.le_of_ble_eq_true rfl, Nat.le_of_ble_eq_true rfl⟩) (fun H locs hR => ?_)
      refine lv_goto (tgt := 52) hx hb dX11_laysLink_69 (by decide) ?_
      exact ih _ _ _ _ hR h (lv_sub hl [0, 1, 2] rfl)
set_option maxHeartbeats 4000000 in
set_option maxRecDepth 100000 in
theorem w_Mo_laysLink_l3 {p : Program} {l : Launch} {e : Env} {s : State} {m : MethodId} {args : Array Value} {below : List Frame} {meth : Method} {c : Code} {G : hp_G} {b : Nat} {a0 : Nat} {x3 : Int32} {σ' : hp_H} {K : Int32 → hp_H → Option hp_H} (hX : hp_X G p s m c args cX11_laysLink 5 RX11) (hlocks : meth.locks = false) (hr : meth.sig.returnType = none)
    (hK : ∀ (x4 : Int32) (σ : hp_H) (H : Heap) (locs : List Loc) (ls : Array Slot), hp_R G b s.heap σ H locs → lv_has ls 5 [] → K x4 σ = some σ' → W p l e rm_Mo_laysLink s m args below meth c H locs 0 0 (MQ below (hp_Qc G b none σ') args s 0 0 (fun q => b ≤ q)) (F0 m 129 ls [])) :
    ∀ (n : Nat) (x4 : Int32) (σ : hp_H) (H : Heap) (locs : List Loc) (ls : Array Slot), hp_R G b s.heap σ H locs → f_Mo_laysLink_l3 a0 x3 K n x4 σ = some σ' → lv_has ls 5 [(0, .ref a0), (3, .int x3), (4, .int x4)] → W p l e rm_Mo_laysLink s m args below meth c H locs 0 0 (MQ below (hp_Qc G b none σ') args s 0 0 (fun q => b ≤ q)) (F0 m 92 ls []) := by
  obtain ⟨hx, hb, hml, hown, hts⟩ := id hX.1
  intro n
  induction n with
  | zero =>
    intro x4 σ H locs ls hR h hl
    rw [f_Mo_laysLink_l3] at h
    cases h
  | succ n ih =>
    intro x4 σ H locs ls hR h hl
    rw [f_Mo_laysLink_l3] at h
    refine lv_iload hx hb dX11_laysLink_92 (lv_at hl 2 rfl) ?_
    refine lv_bipush (v := 6) hx hb dX11_laysLink_94 (by decide) ?_
    refine lv_aload_n hx hb dX11_laysLink_96 rfl (lv_at hl 0 rfl) ?_
    refine hp_getI hX hR (ci := 10) 13 rfl wf11 (by decide) wq3_180 dX11_laysLink_97 h (fun v22 h => ?_)
    refine lv_imul hx hb dX11_laysLink_100 ?_
    refine lv_icmp_ge (tgt := 129) hx hb dX11_laysLink_101 (by decide) (fun c23 => ?_) (fun c23 => ?_)
    · have h := hp_ip c23 h
      exact hK _ _ _ _ _ hR (lv_sub hl [] rfl) h
    · have h := hp_in c23 h
      refine lv_aload_n hx hb dX11_laysLink_104 rfl (lv_at hl 0 rfl) ?_
      refine hp_getR hX hR (ci := 10) 10 rfl wf11 (by decide) wq3_177 dX11_laysLink_105 h (fun q24 h => ?_)
      refine lv_bipush (v := 54) hx hb dX11_laysLink_108 (by decide) ?_
      refine lv_iload_n hx hb dX11_laysLink_110 rfl (lv_at hl 1 rfl) ?_
      refine lv_imul hx hb dX11_laysLink_111 ?_
      refine lv_iload hx hb dX11_laysLink_112 (lv_at hl 2 rfl) ?_
      refine lv_iadd hx hb dX11_laysLink_114 ?_
      refine lv_aload_n hx hb dX11_laysLink_115 rfl (lv_at hl 0 rfl) ?_
      refine hp_getR hX hR (ci := 10) 12 rfl wf11 (by decide) wq3_179 dX11_laysLink_116 h (fun q25 h => ?_)
      refine lv_iload hx hb dX11_laysLink_119 (lv_at hl 2 rfl) ?_
      refine hp_iald hX hR dX11_laysLink_121 h (fun v26 h => ?_)
      refine hp_iast hX hR dX11_laysLink_122 h (fun σ H locs h hR => ?_)
      refine lv_iinc (v := (x4 + 1)) (lv' := [(4, .int (x4 + 1)), (0, .ref a0), (3, .int x3)]) hx hb dX11_laysLink_123 hl (k := 2) rfl rfl (by decide) rfl (fun ls hl => ?_)
      refine lv_goto (tgt := 92) hx hb dX11_laysLink_126 (by decide) ?_
      exact ih _ _ _ _ _ hR h (lv_sub hl [1, 2, 0] rfl)
set_option maxHeartbeats 4000000 in
set_option maxRecDepth 100000 in
theorem c_Mo_laysLink {l : Launch} {G : hp_G} {b : Nat} {σ : hp_H} {a0 : Nat} {x1 : Int32} {x2 : Int32} {σ' : hp_H} (h : f_Mo_laysLink a0 x1 x2 σ = some σ') : hp_Met l yX11_laysLink cX11_laysLink 5 none rm_Mo_laysLink G b [.ref a0, .int x1, .int x2] σ none σ' 0 0 := by
  refine hp_met (by decide +kernel) (Nat.le_of_ble_eq_true rfl) (fun p e s m below meth c ls hX hlocks hr hnm hl hR => ?_)
  obtain ⟨hx, hb, hml, hown, hts⟩ := id hX.1
  have hl : lv_has ls 5 [(0, .ref a0), (1, .int x1), (2, .int x2)] := hl
  unfold f_Mo_laysLink at h
  have h := hp_own_to h
  refine lv_aload_n hx hb dX11_laysLink_0 rfl (lv_at hl 0 rfl) ?_
  refine lv_iconst (v := 0) hx hb dX11_laysLink_1 (by decide) ?_
  refine hp_putI hX hR (ci := 10) 13 rfl wf11 tyX11_ok nmX11 (by decide) wq3_180 rfl dX11_laysLink_2 rfl h (fun σ H locs h hR => ?_)
  refine lv_aload_n hx hb dX11_laysLink_5 rfl (lv_at hl 0 rfl) ?_
  refine lv_iload_n hx hb dX11_laysLink_6 rfl (lv_at hl 1 rfl) ?_
  refine hp_bn h (fun σ h1 h => ?_)
  refine hp_cv hR (hp_runV (rest := []) (As := [.int x1]) hX hR (c_Mo_gathersWishes h1) cs_X11_93 rfl rfl rfl hd_Mo_gathersWishes ⟨Nat.le_of_ble_eq_true rfl, Nat.le_of_ble_eq_true rfl⟩ (ci := 10) rfl (hp_own_is h1) rfl hl.1 rfl (Nat.le_of_ble_eq_true rfl) dX11_laysLink_7 ⟨Nat.le_of_ble_eq_true rfl, Nat.le_of_ble_eq_true rfl⟩) (fun H locs hR => ?_)
  refine lv_iconst (v := 0) hx hb dX11_laysLink_10 (by decide) ?_
  refine lv_istore_n (lv' := [(3, .int 0), (0, .ref a0), (1, .int x1), (2, .int x2)]) hx hb dX11_laysLink_11 rfl hl (by decide) rfl (fun ls hl => ?_)
  refine w_Mo_laysLink_l1 hX hlocks hr ?_ hp_F _ _ _ _ _ hR h (lv_sub hl [1, 2, 3, 0] rfl)
  intro z12 σ H locs ls hR hl h
  refine w_Mo_laysLink_l2 hX hlocks hr ?_ hp_F _ _ _ _ hR h (lv_sub hl [0, 1, 2] rfl)
  intro σ H locs ls hR hl h
  refine lv_aload_n hx hb dX11_laysLink_72 rfl (lv_at hl 0 rfl) ?_
  refine lv_iload_n hx hb dX11_laysLink_73 rfl (lv_at hl 1 rfl) ?_
  refine lv_iload_n hx hb dX11_laysLink_74 rfl (lv_at hl 2 rfl) ?_
  refine hp_bn h (fun v19 h18 h => ?_)
  refine hp_ci hR (hp_runV (rest := []) (As := [.int x1, .int x2]) hX hR (c_Mo_linkOf h18) cs_X11_100 rfl rfl rfl hd_Mo_linkOf ⟨Nat.le_of_ble_eq_true rfl, Nat.le_of_ble_eq_true rfl⟩ (ci := 10) rfl (hp_own_is h18) rfl hl.1 rfl (Nat.le_of_ble_eq_true rfl) dX11_laysLink_75 ⟨Nat.le_of_ble_eq_true rfl, Nat.le_of_ble_eq_true rfl⟩) (fun H locs hR => ?_)
  refine lv_istore_n (lv' := [(3, .int v19), (0, .ref a0), (1, .int x1), (2, .int x2)]) hx hb dX11_laysLink_78 rfl hl (by decide) rfl (fun ls hl => ?_)
  refine lv_aload_n hx hb dX11_laysLink_79 rfl (lv_at hl 1 rfl) ?_
  refine hp_getR hX hR (ci := 10) 9 rfl wf11 (by decide) wq3_176 dX11_laysLink_80 h (fun q20 h => ?_)
  refine lv_iload_n hx hb dX11_laysLink_83 rfl (lv_at hl 0 rfl) ?_
  refine lv_aload_n hx hb dX11_laysLink_84 rfl (lv_at hl 1 rfl) ?_
  refine hp_getI hX hR (ci := 10) 13 rfl wf11 (by decide) wq3_180 dX11_laysLink_85 h (fun v21 h => ?_)
  refine hp_iast hX hR dX11_laysLink_88 h (fun σ H locs h hR => ?_)
  refine lv_iconst (v := 0) hx hb dX11_laysLink_89 (by decide) ?_
  refine lv_istore (lv' := [(4, .int 0), (3, .int v19), (0, .ref a0), (1, .int x1), (2, .int x2)]) hx hb dX11_laysLink_90 hl (by decide) rfl (fun ls hl => ?_)
  refine w_Mo_laysLink_l3 hX hlocks hr ?_ hp_F _ _ _ _ _ hR h (lv_sub hl [2, 1, 0] rfl)
  intro z27 σ H locs ls hR hl h
  exact hp_vret hX hlocks hr hR h dX11_laysLink_129
theorem cs_X11_113 : hp_WV RX11 113 RX11 yX11_laysLink cX11_laysLink 5 none := ⟨wq3_238, wq4_0, wp1_10, wq1_11, wq4_1⟩
/-! Mo.lays()V -/
abbrev rm_Mo_lays : Room := { frames := 6, cells := 0, slots := 0, locals := 143 }
theorem hd_Mo_lays : hp_d yX11_lays 0 := by decide +kernel
def f_Mo_lays_l1 (a0 : Nat) (K : Int32 → hp_H → Option hp_H) : Nat → Int32 → hp_H → Option hp_H
  | 0, _, _ => none
  | n + 1, x1, σ => if x1 ≤ 0 then (K x1 σ) else ((hp_gR σ a0 10 0).bind fun q6 => (hp_aI σ q6 0 ((8 : Int32) + x1)).bind fun v7 => (f_Mo_laysLink a0 x1 v7 σ).bind fun σ => f_Mo_lays_l1 a0 K n (x1 + (-1)) σ)
def f_Mo_lays_l2 (a0 : Nat) (K : Int32 → hp_H → Option hp_H) : Nat → Int32 → hp_H → Option hp_H
  | 0, _, _ => none
  | n + 1, x1, σ => (hp_gR σ a0 10 0).bind fun q10 => (hp_aI σ q10 0 0).bind fun v11 => if v11 ≤ x1 then (K x1 σ) else ((hp_gR σ a0 10 0).bind fun q13 => (hp_aI σ q13 0 ((8 : Int32) + x1)).bind fun v14 => (f_Mo_laysLink a0 v14 x1 σ).bind fun σ => f_Mo_lays_l2 a0 K n (x1 + 1) σ)
def f_Mo_lays (a0 : Nat) (σ : hp_H) : Option hp_H := hp_own σ a0 10 ((hp_gI σ a0 10 11).bind fun v1 => if v1 = 0 then ((hp_pZ σ a0 10 11 1).bind fun σ => (hp_gR σ a0 10 0).bind fun q3 => (hp_aI σ q3 0 0).bind fun v4 => f_Mo_lays_l1 a0 (fun z9 σ => f_Mo_lays_l2 a0 (fun z16 σ => some σ) hp_F 1 σ) hp_F (v4 - 1) σ) else (some σ))
set_option maxHeartbeats 4000000 in
set_option maxRecDepth 100000 in
theorem w_Mo_lays_l1 {p : Program} {l : Launch} {e : Env} {s : State} {m : MethodId} {args : Array Value} {below : List Frame} {meth : Method} {c : Code} {G : hp_G} {b : Nat} {a0 : Nat} {σ' : hp_H} {K : Int32 → hp_H → Option hp_H} (hX : hp_X G p s m c args cX11_lays 2 RX11) (hlocks : meth.locks = false) (hr : meth.sig.returnType = none)
    (hK : ∀ (x1 : Int32) (σ : hp_H) (H : Heap) (locs : List Loc) (ls : Array Slot), hp_R G b s.heap σ H locs → lv_has ls 2 [(0, .ref a0)] → K x1 σ = some σ' → W p l e rm_Mo_lays s m args below meth c H locs 0 0 (MQ below (hp_Qc G b none σ') args s 0 0 (fun q => b ≤ q)) (F0 m 46 ls [])) :
    ∀ (n : Nat) (x1 : Int32) (σ : hp_H) (H : Heap) (locs : List Loc) (ls : Array Slot), hp_R G b s.heap σ H locs → f_Mo_lays_l1 a0 K n x1 σ = some σ' → lv_has ls 2 [(0, .ref a0), (1, .int x1)] → W p l e rm_Mo_lays s m args below meth c H locs 0 0 (MQ below (hp_Qc G b none σ') args s 0 0 (fun q => b ≤ q)) (F0 m 22 ls []) := by
  obtain ⟨hx, hb, hml, hown, hts⟩ := id hX.1
  intro n
  induction n with
  | zero =>
    intro x1 σ H locs ls hR h hl
    rw [f_Mo_lays_l1] at h
    cases h
  | succ n ih =>
    intro x1 σ H locs ls hR h hl
    rw [f_Mo_lays_l1] at h
    refine lv_iload_n hx hb dX11_lays_22 rfl (lv_at hl 1 rfl) ?_
    refine lv_if_le (tgt := 46) hx hb dX11_lays_23 (by decide) (fun c5 => ?_) (fun c5 => ?_)
    · have h := hp_ip c5 h
      exact hK _ _ _ _ _ hR (lv_sub hl [0] rfl) h
    · have h := hp_in c5 h
      refine lv_aload_n hx hb dX11_lays_26 rfl (lv_at hl 0 rfl) ?_
      refine lv_iload_n hx hb dX11_lays_27 rfl (lv_at hl 1 rfl) ?_
      refine lv_aload_n hx hb dX11_lays_28 rfl (lv_at hl 0 rfl) ?_
      refine hp_getR hX hR (ci := 10) 0 rfl wf11 (by decide) wq3_167 dX11_lays_29 h (fun q6 h => ?_)
      refine lv_bipush (v := 8) hx hb dX11_lays_32 (by decide) ?_
      refine lv_iload_n hx hb dX11_lays_34 rfl (lv_at hl 1 rfl) ?_
      refine lv_iadd hx hb dX11_lays_35 ?_
      refine hp_iald hX hR dX11_lays_36 h (fun v7 h => ?_)
      refine hp_bn h (fun σ h8 h => ?_)
      refine hp_cv hR (hp_runV (rest := []) (As := [.int x1, .int v7]) hX hR (c_Mo_laysLink h8) cs_X11_113 rfl rfl rfl hd_Mo_laysLink ⟨Nat.le_of_ble_eq_true rfl, Nat.le_of_ble_eq_true rfl⟩ (ci := 10) rfl (hp_own_is h8) rfl hl.1 rfl (Nat.le_of_ble_eq_true rfl) dX11_lays_37 ⟨Nat.le_of_ble_eq_true rfl, Nat.le_of_ble_eq_true rfl⟩) (fun H locs hR => ?_)
      refine lv_iinc (v := (x1 + (-1))) (lv' := [(1, .int (x1 + (-1))), (0, .ref a0)]) hx hb dX11_lays_40 hl (k := 1) rfl rfl (by decide) rfl (fun ls hl => ?_)
      refine lv_goto (tgt := 22) hx hb dX11_lays_43 (by decide) ?_
      exact ih _ _ _ _ _ hR h (lv_sub hl [1, 0] rfl)
set_option maxHeartbeats 4000000 in
set_option maxRecDepth 100000 in
theorem w_Mo_lays_l2 {p : Program} {l : Launch} {e : Env} {s : State} {m : MethodId} {args : Array Value} {below : List Frame} {meth : Method} {c : Code} {G : hp_G} {b : Nat} {a0 : Nat} {σ' : hp_H} {K : Int32 → hp_H → Option hp_H} (hX : hp_X G p s m c args cX11_lays 2 RX11) (hlocks : meth.locks = false) (hr : meth.sig.returnType = none)
    (hK : ∀ (x1 : Int32) (σ : hp_H) (H : Heap) (locs : List Loc) (ls : Array Slot), hp_R G b s.heap σ H locs → lv_has ls 2 [] → K x1 σ = some σ' → W p l e rm_Mo_lays s m args below meth c H locs 0 0 (MQ below (hp_Qc G b none σ') args s 0 0 (fun q => b ≤ q)) (F0 m 78 ls [])) :
    ∀ (n : Nat) (x1 : Int32) (σ : hp_H) (H : Heap) (locs : List Loc) (ls : Array Slot), hp_R G b s.heap σ H locs → f_Mo_lays_l2 a0 K n x1 σ = some σ' → lv_has ls 2 [(0, .ref a0), (1, .int x1)] → W p l e rm_Mo_lays s m args below meth c H locs 0 0 (MQ below (hp_Qc G b none σ') args s 0 0 (fun q => b ≤ q)) (F0 m 48 ls []) := by
  obtain ⟨hx, hb, hml, hown, hts⟩ := id hX.1
  intro n
  induction n with
  | zero =>
    intro x1 σ H locs ls hR h hl
    rw [f_Mo_lays_l2] at h
    cases h
  | succ n ih =>
    intro x1 σ H locs ls hR h hl
    rw [f_Mo_lays_l2] at h
    refine lv_iload_n hx hb dX11_lays_48 rfl (lv_at hl 1 rfl) ?_
    refine lv_aload_n hx hb dX11_lays_49 rfl (lv_at hl 0 rfl) ?_
    refine hp_getR hX hR (ci := 10) 0 rfl wf11 (by decide) wq3_167 dX11_lays_50 h (fun q10 h => ?_)
    refine lv_iconst (v := 0) hx hb dX11_lays_53 (by decide) ?_
    refine hp_iald hX hR dX11_lays_54 h (fun v11 h => ?_)
    refine lv_icmp_ge (tgt := 78) hx hb dX11_lays_55 (by decide) (fun c12 => ?_) (fun c12 => ?_)
    · have h := hp_ip c12 h
      exact hK _ _ _ _ _ hR (lv_sub hl [] rfl) h
    · have h := hp_in c12 h
      refine lv_aload_n hx hb dX11_lays_58 rfl (lv_at hl 0 rfl) ?_
      refine lv_aload_n hx hb dX11_lays_59 rfl (lv_at hl 0 rfl) ?_
      refine hp_getR hX hR (ci := 10) 0 rfl wf11 (by decide) wq3_167 dX11_lays_60 h (fun q13 h => ?_)
      refine lv_bipush (v := 8) hx hb dX11_lays_63 (by decide) ?_
      refine lv_iload_n hx hb dX11_lays_65 rfl (lv_at hl 1 rfl) ?_
      refine lv_iadd hx hb dX11_lays_66 ?_
      refine hp_iald hX hR dX11_lays_67 h (fun v14 h => ?_)
      refine lv_iload_n hx hb dX11_lays_68 rfl (lv_at hl 1 rfl) ?_
      refine hp_bn h (fun σ h15 h => ?_)
      refine hp_cv hR (hp_runV (rest := []) (As := [.int v14, .int x1]) hX hR (c_Mo_laysLink h15) cs_X11_113 rfl rfl rfl hd_Mo_laysLink ⟨Nat.le_of_ble_eq_true rfl, Nat.le_of_ble_eq_true rfl⟩ (ci := 10) rfl (hp_own_is h15) rfl hl.1 rfl (Nat.le_of_ble_eq_true rfl) dX11_lays_69 ⟨Nat.le_of_ble_eq_true rfl, Nat.le_of_ble_eq_true rfl⟩) (fun H locs hR => ?_)
      refine lv_iinc (v := (x1 + 1)) (lv' := [(1, .int (x1 + 1)), (0, .ref a0)]) hx hb dX11_lays_72 hl (k := 1) rfl rfl (by decide) rfl (fun ls hl => ?_)
      refine lv_goto (tgt := 48) hx hb dX11_lays_75 (by decide) ?_
      exact ih _ _ _ _ _ hR h (lv_sub hl [1, 0] rfl)
set_option maxHeartbeats 4000000 in
set_option maxRecDepth 100000 in
theorem c_Mo_lays {l : Launch} {G : hp_G} {b : Nat} {σ : hp_H} {a0 : Nat} {σ' : hp_H} (h : f_Mo_lays a0 σ = some σ') : hp_Met l yX11_lays cX11_lays 2 none rm_Mo_lays G b [.ref a0] σ none σ' 0 0 := by
  refine hp_met (by decide +kernel) (Nat.le_of_ble_eq_true rfl) (fun p e s m below meth c ls hX hlocks hr hnm hl hR => ?_)
  obtain ⟨hx, hb, hml, hown, hts⟩ := id hX.1
  have hl : lv_has ls 2 [(0, .ref a0)] := hl
  unfold f_Mo_lays at h
  have h := hp_own_to h
  refine lv_aload_n hx hb dX11_lays_0 rfl (lv_at hl 0 rfl) ?_
  refine hp_getI hX hR (ci := 10) 11 rfl wf11 (by decide) wq3_178 dX11_lays_1 h (fun v1 h => ?_)
  refine lv_if_eq (tgt := 8) hx hb dX11_lays_4 (by decide) (fun c2 => ?_) (fun c2 => ?_)
  · have h := hp_ip c2 h
    refine lv_aload_n hx hb dX11_lays_8 rfl (lv_at hl 0 rfl) ?_
    refine lv_iconst (v := 1) hx hb dX11_lays_9 (by decide) ?_
    refine hp_putZ hX hR (ci := 10) 11 rfl wf11 tyX11_ok nmX11 (by decide) wq3_178 rfl dX11_lays_10 rfl h (fun σ H locs h hR => ?_)
    refine lv_aload_n hx hb dX11_lays_13 rfl (lv_at hl 0 rfl) ?_
    refine hp_getR hX hR (ci := 10) 0 rfl wf11 (by decide) wq3_167 dX11_lays_14 h (fun q3 h => ?_)
    refine lv_iconst (v := 0) hx hb dX11_lays_17 (by decide) ?_
    refine hp_iald hX hR dX11_lays_18 h (fun v4 h => ?_)
    refine lv_iconst (v := 1) hx hb dX11_lays_19 (by decide) ?_
    refine lv_isub hx hb dX11_lays_20 ?_
    refine lv_istore_n (lv' := [(1, .int (v4 - 1)), (0, .ref a0)]) hx hb dX11_lays_21 rfl hl (by decide) rfl (fun ls hl => ?_)
    refine w_Mo_lays_l1 hX hlocks hr ?_ hp_F _ _ _ _ _ hR h (lv_sub hl [1, 0] rfl)
    intro z9 σ H locs ls hR hl h
    refine lv_iconst (v := 1) hx hb dX11_lays_46 (by decide) ?_
    refine lv_istore_n (lv' := [(1, .int 1), (0, .ref a0)]) hx hb dX11_lays_47 rfl hl (by decide) rfl (fun ls hl => ?_)
    refine w_Mo_lays_l2 hX hlocks hr ?_ hp_F _ _ _ _ _ hR h (lv_sub hl [1, 0] rfl)
    intro z16 σ H locs ls hR hl h
    exact hp_vret hX hlocks hr hR h dX11_lays_78
  · have h := hp_in c2 h
    exact hp_vret hX hlocks hr hR h dX11_lays_7
/-! Mo.fits([IIIII)Z -/
abbrev rm_Mo_fits : Room := { frames := 1, cells := 0, slots := 0, locals := 22 }
theorem hd_Mo_fits : hp_d yX11_fits 5 := by decide +kernel
def f_Mo_fits (a0 : Nat) (x1 : Int32) (x2 : Int32) (x3 : Int32) (x4 : Int32) (σ : hp_H) : Option Int32 := (hp_aI σ a0 0 x1).bind fun v1 => (hp_aI σ a0 0 (x1 + 1)).bind fun v2 => (f_Mo_in x2 v1 v2).bind fun v4 => if v4 = 0 then (some 0) else ((hp_aI σ a0 0 (x1 + 2)).bind fun v6 => (hp_aI σ a0 0 (x1 + 3)).bind fun v7 => (f_Mo_in x3 v6 v7).bind fun v9 => if v9 = 0 then (some 0) else ((hp_aI σ a0 0 (x1 + 4)).bind fun v11 => (hp_aI σ a0 0 (x1 + 5)).bind fun v12 => (f_Mo_in x4 v11 v12).bind fun v14 => if v14 = 0 then (some 0) else (some 1)))
set_option maxHeartbeats 4000000 in
set_option maxRecDepth 100000 in
theorem c_Mo_fits {l : Launch} {G : hp_G} {b : Nat} {σ : hp_H} {a0 : Nat} {x1 : Int32} {x2 : Int32} {x3 : Int32} {x4 : Int32} {r : Int32} (h : f_Mo_fits a0 x1 x2 x3 x4 σ = some r) : hp_Met l yX11_fits cX11_fits 5 (some .boolean) rm_Mo_fits G b [.ref a0, .int x1, .int x2, .int x3, .int x4] σ (some (.int r)) σ 0 0 := by
  refine hp_met (by decide +kernel) (Nat.le_of_ble_eq_true rfl) (fun p e s m below meth c ls hX hlocks hr hnm hl hR => ?_)
  obtain ⟨hx, hb, hml, hown, hts⟩ := id hX.1
  have hl : lv_has ls 5 [(0, .ref a0), (1, .int x1), (2, .int x2), (3, .int x3), (4, .int x4)] := hl
  unfold f_Mo_fits at h
  refine lv_iload_n hx hb dX11_fits_0 rfl (lv_at hl 2 rfl) ?_
  refine lv_aload_n hx hb dX11_fits_1 rfl (lv_at hl 0 rfl) ?_
  refine lv_iload_n hx hb dX11_fits_2 rfl (lv_at hl 1 rfl) ?_
  refine hp_iald hX hR dX11_fits_3 h (fun v1 h => ?_)
  refine lv_aload_n hx hb dX11_fits_4 rfl (lv_at hl 0 rfl) ?_
  refine lv_iload_n hx hb dX11_fits_5 rfl (lv_at hl 1 rfl) ?_
  refine lv_iconst (v := 1) hx hb dX11_fits_6 (by decide) ?_
  refine lv_iadd hx hb dX11_fits_7 ?_
  refine hp_iald hX hR dX11_fits_8 h (fun v2 h => ?_)
  refine hp_bn h (fun v4 h3 h => ?_)
  refine hp_ci hR (hp_runS (rest := []) (As := [.int x2, .int v1, .int v2]) hX hR (c_Mo_in h3) cs_X11_41 rfl rfl hd_Mo_in ⟨Nat.le_of_ble_eq_true rfl, Nat.le_of_ble_eq_true rfl⟩ rfl hl.1 rfl (Nat.le_of_ble_eq_true rfl) dX11_fits_9 ⟨Nat.le_of_ble_eq_true rfl, Nat.le_of_ble_eq_true rfl⟩) (fun H locs hR => ?_)
  refine lv_if_eq (tgt := 54) hx hb dX11_fits_12 (by decide) (fun c5 => ?_) (fun c5 => ?_)
  · have h := hp_ip c5 h
    refine lv_iconst (v := 0) hx hb dX11_fits_54 (by decide) ?_
    exact hp_zretLP (by decide) hX hlocks hr hR h dX11_fits_55
  · have h := hp_in c5 h
    refine lv_iload_n hx hb dX11_fits_15 rfl (lv_at hl 3 rfl) ?_
    refine lv_aload_n hx hb dX11_fits_16 rfl (lv_at hl 0 rfl) ?_
    refine lv_iload_n hx hb dX11_fits_17 rfl (lv_at hl 1 rfl) ?_
    refine lv_iconst (v := 2) hx hb dX11_fits_18 (by decide) ?_
    refine lv_iadd hx hb dX11_fits_19 ?_
    refine hp_iald hX hR dX11_fits_20 h (fun v6 h => ?_)
    refine lv_aload_n hx hb dX11_fits_21 rfl (lv_at hl 0 rfl) ?_
    refine lv_iload_n hx hb dX11_fits_22 rfl (lv_at hl 1 rfl) ?_
    refine lv_iconst (v := 3) hx hb dX11_fits_23 (by decide) ?_
    refine lv_iadd hx hb dX11_fits_24 ?_
    refine hp_iald hX hR dX11_fits_25 h (fun v7 h => ?_)
    refine hp_bn h (fun v9 h8 h => ?_)
    refine hp_ci hR (hp_runS (rest := []) (As := [.int x3, .int v6, .int v7]) hX hR (c_Mo_in h8) cs_X11_41 rfl rfl hd_Mo_in ⟨Nat.le_of_ble_eq_true rfl, Nat.le_of_ble_eq_true rfl⟩ rfl hl.1 rfl (Nat.le_of_ble_eq_true rfl) dX11_fits_26 ⟨Nat.le_of_ble_eq_true rfl, Nat.le_of_ble_eq_true rfl⟩) (fun H locs hR => ?_)
    refine lv_if_eq (tgt := 54) hx hb dX11_fits_29 (by decide) (fun c10 => ?_) (fun c10 => ?_)
    · have h := hp_ip c10 h
      refine lv_iconst (v := 0) hx hb dX11_fits_54 (by decide) ?_
      exact hp_zretLP (by decide) hX hlocks hr hR h dX11_fits_55
    · have h := hp_in c10 h
      refine lv_iload hx hb dX11_fits_32 (lv_at hl 4 rfl) ?_
      refine lv_aload_n hx hb dX11_fits_34 rfl (lv_at hl 0 rfl) ?_
      refine lv_iload_n hx hb dX11_fits_35 rfl (lv_at hl 1 rfl) ?_
      refine lv_iconst (v := 4) hx hb dX11_fits_36 (by decide) ?_
      refine lv_iadd hx hb dX11_fits_37 ?_
      refine hp_iald hX hR dX11_fits_38 h (fun v11 h => ?_)
      refine lv_aload_n hx hb dX11_fits_39 rfl (lv_at hl 0 rfl) ?_
      refine lv_iload_n hx hb dX11_fits_40 rfl (lv_at hl 1 rfl) ?_
      refine lv_iconst (v := 5) hx hb dX11_fits_41 (by decide) ?_
      refine lv_iadd hx hb dX11_fits_42 ?_
      refine hp_iald hX hR dX11_fits_43 h (fun v12 h => ?_)
      refine hp_bn h (fun v14 h13 h => ?_)
      refine hp_ci hR (hp_runS (rest := []) (As := [.int x4, .int v11, .int v12]) hX hR (c_Mo_in h13) cs_X11_41 rfl rfl hd_Mo_in ⟨Nat.le_of_ble_eq_true rfl, Nat.le_of_ble_eq_true rfl⟩ rfl hl.1 rfl (Nat.le_of_ble_eq_true rfl) dX11_fits_44 ⟨Nat.le_of_ble_eq_true rfl, Nat.le_of_ble_eq_true rfl⟩) (fun H locs hR => ?_)
      refine lv_if_eq (tgt := 54) hx hb dX11_fits_47 (by decide) (fun c15 => ?_) (fun c15 => ?_)
      · have h := hp_ip c15 h
        refine lv_iconst (v := 0) hx hb dX11_fits_54 (by decide) ?_
        exact hp_zretLP (by decide) hX hlocks hr hR h dX11_fits_55
      · have h := hp_in c15 h
        refine lv_iconst (v := 1) hx hb dX11_fits_50 (by decide) ?_
        refine lv_goto (tgt := 55) hx hb dX11_fits_51 (by decide) ?_
        exact hp_zretLP (by decide) hX hlocks hr hR h dX11_fits_55
theorem cs_X11_116 : hp_WS RX11 116 yX11_fits cX11_fits 5 (some .boolean) := ⟨wq4_141, wq4_142, wq1_11, wq4_143⟩
/-! Mo.goes(IIIII)Z -/
abbrev rm_Mo_goes : Room := { frames := 2, cells := 0, slots := 0, locals := 46 }
theorem hd_Mo_goes : hp_d yX11_goes 5 := by decide +kernel
def f_Mo_goes_l1 (a0 : Nat) (x3 : Int32) (x4 : Int32) (x5 : Int32) (x6 : Int32) (σ : hp_H) (K : Int32 → Int32 → Option Int32) : Nat → Int32 → Int32 → Option Int32
  | 0, _, _ => none
  | n + 1, x7, x8 => (hp_gR σ a0 10 9).bind fun q3 => (hp_aI σ q3 0 x6).bind fun v4 => if v4 ≤ x8 then (K x7 x8) else (if x7 = 0 then ((hp_gR σ a0 10 10).bind fun q7 => (f_Mo_fits q7 (((54 : Int32) * x6) + ((6 : Int32) * x8)) x3 x4 x5 σ).bind fun v9 => if v9 = 0 then (f_Mo_goes_l1 a0 x3 x4 x5 x6 σ K n 0 (x8 + 1)) else (f_Mo_goes_l1 a0 x3 x4 x5 x6 σ K n 1 (x8 + 1))) else (f_Mo_goes_l1 a0 x3 x4 x5 x6 σ K n 1 (x8 + 1)))
def f_Mo_goes (a0 : Nat) (x1 : Int32) (x2 : Int32) (x3 : Int32) (x4 : Int32) (x5 : Int32) (σ : hp_H) : Option Int32 := hp_own σ a0 10 ((f_Mo_linkOf a0 x2 x1 σ).bind fun v2 => f_Mo_goes_l1 a0 x3 x4 x5 v2 σ (fun z11 z12 => hp_z z11 (some z11)) hp_F 0 0)
set_option maxHeartbeats 4000000 in
set_option maxRecDepth 100000 in
theorem w_Mo_goes_l1 {p : Program} {l : Launch} {e : Env} {s : State} {m : MethodId} {args : Array Value} {below : List Frame} {meth : Method} {c : Code} {G : hp_G} {b : Nat} {σ : hp_H} {a0 : Nat} {x3 : Int32} {x4 : Int32} {x5 : Int32} {x6 : Int32} {r : Int32} {K : Int32 → Int32 → Option Int32} (hX : hp_X G p s m c args cX11_goes 9 RX11) (hlocks : meth.locks = false) (hr : meth.sig.returnType = (some .boolean))
    (hK : ∀ (x7 : Int32) (x8 : Int32) (H : Heap) (locs : List Loc) (ls : Array Slot), hp_R G b s.heap σ H locs → lv_has ls 9 [(7, .int x7)] → K x7 x8 = some r → W p l e rm_Mo_goes s m args below meth c H locs 0 0 (MQ below (hp_Qc G b (some (.int r)) σ) args s 0 0 (fun q => b ≤ q)) (F0 m 70 ls [])) :
    ∀ (n : Nat) (x7 : Int32) (x8 : Int32) (H : Heap) (locs : List Loc) (ls : Array Slot), hp_R G b s.heap σ H locs → f_Mo_goes_l1 a0 x3 x4 x5 x6 σ K n x7 x8 = some r → lv_has ls 9 [(0, .ref a0), (3, .int x3), (4, .int x4), (5, .int x5), (6, .int x6), (7, .int x7), (8, .int x8)] → W p l e rm_Mo_goes s m args below meth c H locs 0 0 (MQ below (hp_Qc G b (some (.int r)) σ) args s 0 0 (fun q => b ≤ q)) (F0 m 14 ls []) := by
  obtain ⟨hx, hb, hml, hown, hts⟩ := id hX.1
  intro n
  induction n with
  | zero =>
    intro x7 x8 H locs ls hR h hl
    rw [f_Mo_goes_l1] at h
    cases h
  | succ n ih =>
    intro x7 x8 H locs ls hR h hl
    rw [f_Mo_goes_l1] at h
    refine lv_iload hx hb dX11_goes_14 (lv_at hl 6 rfl) ?_
    refine lv_aload_n hx hb dX11_goes_16 rfl (lv_at hl 0 rfl) ?_
    refine hp_getR hX hR (ci := 10) 9 rfl wf11 (by decide) wq3_176 dX11_goes_17 h (fun q3 h => ?_)
    refine lv_iload hx hb dX11_goes_20 (lv_at hl 4 rfl) ?_
    refine hp_iald hX hR dX11_goes_22 h (fun v4 h => ?_)
    refine lv_icmp_ge (tgt := 70) hx hb dX11_goes_23 (by decide) (fun c5 => ?_) (fun c5 => ?_)
    · have h := hp_ip c5 h
      exact hK _ _ _ _ _ hR (lv_sub hl [5] rfl) h
    · have h := hp_in c5 h
      refine lv_iload hx hb dX11_goes_26 (lv_at hl 5 rfl) ?_
      refine lv_if_ne (tgt := 57) hx hb dX11_goes_28 (by decide) (fun c6 => ?_) (fun c6 => ?_)
      · have h := hp_in c6 h
        refine lv_iconst (v := 1) hx hb dX11_goes_57 (by decide) ?_
        refine lv_goto (tgt := 62) hx hb dX11_goes_58 (by decide) ?_
        refine lv_istore (lv' := [(7, .int 1), (0, .ref a0), (3, .int x3), (4, .int x4), (5, .int x5), (6, .int x6), (8, .int x8)]) hx hb dX11_goes_62 hl (by decide) rfl (fun ls hl => ?_)
        refine lv_iinc (v := (x8 + 1)) (lv' := [(8, .int (x8 + 1)), (7, .int 1), (0, .ref a0), (3, .int x3), (4, .int x4), (5, .int x5), (6, .int x6)]) hx hb dX11_goes_64 hl (k := 6) rfl rfl (by decide) rfl (fun ls hl => ?_)
        refine lv_goto (tgt := 14) hx hb dX11_goes_67 (by decide) ?_
        exact ih _ _ _ _ _ hR h (lv_sub hl [2, 3, 4, 5, 6, 1, 0] rfl)
      · have h := hp_ip c6 h
        refine lv_aload_n hx hb dX11_goes_31 rfl (lv_at hl 0 rfl) ?_
        refine hp_getR hX hR (ci := 10) 10 rfl wf11 (by decide) wq3_177 dX11_goes_32 h (fun q7 h => ?_)
        refine lv_bipush (v := 54) hx hb dX11_goes_35 (by decide) ?_
        refine lv_iload hx hb dX11_goes_37 (lv_at hl 4 rfl) ?_
        refine lv_imul hx hb dX11_goes_39 ?_
        refine lv_bipush (v := 6) hx hb dX11_goes_40 (by decide) ?_
        refine lv_iload hx hb dX11_goes_42 (lv_at hl 6 rfl) ?_
        refine lv_imul hx hb dX11_goes_44 ?_
        refine lv_iadd hx hb dX11_goes_45 ?_
        refine lv_iload_n hx hb dX11_goes_46 rfl (lv_at hl 1 rfl) ?_
        refine lv_iload hx hb dX11_goes_47 (lv_at hl 2 rfl) ?_
        refine lv_iload hx hb dX11_goes_49 (lv_at hl 3 rfl) ?_
        refine hp_bn h (fun v9 h8 h => ?_)
        refine hp_ci hR (hp_runS (rest := []) (As := [.ref q7, .int (((54 : Int32) * x6) + ((6 : Int32) * x8)), .int x3, .int x4, .int x5]) hX hR (c_Mo_fits h8) cs_X11_116 rfl rfl hd_Mo_fits ⟨Nat.le_of_ble_eq_true rfl, Nat.le_of_ble_eq_true rfl⟩ rfl hl.1 rfl (Nat.le_of_ble_eq_true rfl) dX11_goes_51 ⟨Nat.le_of_ble_eq_true rfl, Nat.le_of_ble_eq_true rfl⟩) (fun H locs hR => ?_)
        refine lv_if_eq (tgt := 61) hx hb dX11_goes_54 (by decide) (fun c10 => ?_) (fun c10 => ?_)
        · have h := hp_ip c10 h
          refine lv_iconst (v := 0) hx hb dX11_goes_61 (by decide) ?_
          refine lv_istore (lv' := [(7, .int 0), (0, .ref a0), (3, .int x3), (4, .int x4), (5, .int x5), (6, .int x6), (8, .int x8)]) hx hb dX11_goes_62 hl (by decide) rfl (fun ls hl => ?_)
          refine lv_iinc (v := (x8 + 1)) (lv' := [(8, .int (x8 + 1)), (7, .int 0), (0, .ref a0), (3, .int x3), (4, .int x4), (5, .int x5), (6, .int x6)]) hx hb dX11_goes_64 hl (k := 6) rfl rfl (by decide) rfl (fun ls hl => ?_)
          refine lv_goto (tgt := 14) hx hb dX11_goes_67 (by decide) ?_
          exact ih _ _ _ _ _ hR h (lv_sub hl [2, 3, 4, 5, 6, 1, 0] rfl)
        · have h := hp_in c10 h
          refine lv_iconst (v := 1) hx hb dX11_goes_57 (by decide) ?_
          refine lv_goto (tgt := 62) hx hb dX11_goes_58 (by decide) ?_
          refine lv_istore (lv' := [(7, .int 1), (0, .ref a0), (3, .int x3), (4, .int x4), (5, .int x5), (6, .int x6), (8, .int x8)]) hx hb dX11_goes_62 hl (by decide) rfl (fun ls hl => ?_)
          refine lv_iinc (v := (x8 + 1)) (lv' := [(8, .int (x8 + 1)), (7, .int 1), (0, .ref a0), (3, .int x3), (4, .int x4), (5, .int x5), (6, .int x6)]) hx hb dX11_goes_64 hl (k := 6) rfl rfl (by decide) rfl (fun ls hl => ?_)
          refine lv_goto (tgt := 14) hx hb dX11_goes_67 (by decide) ?_
          exact ih _ _ _ _ _ hR h (lv_sub hl [2, 3, 4, 5, 6, 1, 0] rfl)
set_option maxHeartbeats 4000000 in
set_option maxRecDepth 100000 in
theorem c_Mo_goes {l : Launch} {G : hp_G} {b : Nat} {σ : hp_H} {a0 : Nat} {x1 : Int32} {x2 : Int32} {x3 : Int32} {x4 : Int32} {x5 : Int32} {r : Int32} (h : f_Mo_goes a0 x1 x2 x3 x4 x5 σ = some r) : hp_Met l yX11_goes cX11_goes 9 (some .boolean) rm_Mo_goes G b [.ref a0, .int x1, .int x2, .int x3, .int x4, .int x5] σ (some (.int r)) σ 0 0 := by
  refine hp_met (by decide +kernel) (Nat.le_of_ble_eq_true rfl) (fun p e s m below meth c ls hX hlocks hr hnm hl hR => ?_)
  obtain ⟨hx, hb, hml, hown, hts⟩ := id hX.1
  have hl : lv_has ls 9 [(0, .ref a0), (1, .int x1), (2, .int x2), (3, .int x3), (4, .int x4), (5, .int x5)] := hl
  unfold f_Mo_goes at h
  have h := hp_own_to h
  refine lv_aload_n hx hb dX11_goes_0 rfl (lv_at hl 0 rfl) ?_
  refine lv_iload_n hx hb dX11_goes_1 rfl (lv_at hl 2 rfl) ?_
  refine lv_iload_n hx hb dX11_goes_2 rfl (lv_at hl 1 rfl) ?_
  refine hp_bn h (fun v2 h1 h => ?_)
  refine hp_ci hR (hp_runV (rest := []) (As := [.int x2, .int x1]) hX hR (c_Mo_linkOf h1) cs_X11_100 rfl rfl rfl hd_Mo_linkOf ⟨Nat.le_of_ble_eq_true rfl, Nat.le_of_ble_eq_true rfl⟩ (ci := 10) rfl (hp_own_is h1) rfl hl.1 rfl (Nat.le_of_ble_eq_true rfl) dX11_goes_3 ⟨Nat.le_of_ble_eq_true rfl, Nat.le_of_ble_eq_true rfl⟩) (fun H locs hR => ?_)
  refine lv_istore (lv' := [(6, .int v2), (0, .ref a0), (1, .int x1), (2, .int x2), (3, .int x3), (4, .int x4), (5, .int x5)]) hx hb dX11_goes_6 hl (by decide) rfl (fun ls hl => ?_)
  refine lv_iconst (v := 0) hx hb dX11_goes_8 (by decide) ?_
  refine lv_istore (lv' := [(7, .int 0), (6, .int v2), (0, .ref a0), (1, .int x1), (2, .int x2), (3, .int x3), (4, .int x4), (5, .int x5)]) hx hb dX11_goes_9 hl (by decide) rfl (fun ls hl => ?_)
  refine lv_iconst (v := 0) hx hb dX11_goes_11 (by decide) ?_
  refine lv_istore (lv' := [(8, .int 0), (7, .int 0), (6, .int v2), (0, .ref a0), (1, .int x1), (2, .int x2), (3, .int x3), (4, .int x4), (5, .int x5)]) hx hb dX11_goes_12 hl (by decide) rfl (fun ls hl => ?_)
  refine w_Mo_goes_l1 hX hlocks hr ?_ hp_F _ _ _ _ _ hR h (lv_sub hl [3, 6, 7, 8, 2, 1, 0] rfl)
  intro z11 z12 H locs ls hR hl h
  refine lv_iload hx hb dX11_goes_70 (lv_at hl 0 rfl) ?_
  exact hp_zretP hX hlocks hr hR h dX11_goes_72
