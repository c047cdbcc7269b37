/-! Mo.goBack(I)I -/
abbrev rm_Mo_goBack : Room := { frames := 1, cells := 0, slots := 0, locals := 22 }
theorem hd_Mo_goBack : hp_d yX11_goBack 1 := by decide +kernel
def f_Mo_goBack_l1 (a0 : Nat) (x1 : Int32) (K : Int32 → hp_H → Option (Int32 × hp_H)) : Nat → Int32 → hp_H → Option (Int32 × hp_H)
  | 0, _, _ => none
  | n + 1, x2, σ => if (256 : Int32) ≤ x2 then (K x2 σ) else ((hp_gR σ a0 10 0).bind fun q8 => (hp_gR σ a0 10 4).bind fun q9 => (hp_aI σ q9 0 (((257 : Int32) * x1) + x2)).bind fun v10 => (hp_sI σ q8 0 x2 v10).bind fun σ => f_Mo_goBack_l1 a0 x1 K n (x2 + 1) σ)
def f_Mo_goBack (a0 : Nat) (x1 : Int32) (σ : hp_H) : Option (Int32 × hp_H) := hp_own σ a0 10 ((f_Mo_in x1 0 1).bind fun v2 => if v2 = 0 then (some ((-1000000001), σ)) else ((hp_gR σ a0 10 5).bind fun q4 => (hp_aI σ q4 1 x1).bind fun v5 => if v5 = 0 then (some ((-1000000003), σ)) else (f_Mo_goBack_l1 a0 x1 (fun z11 σ => (hp_gR σ a0 10 4).bind fun q12 => (hp_aI σ q12 0 (((257 : Int32) * x1) + 256)).bind fun v13 => (hp_pI σ a0 10 1 v13).bind fun σ => (hp_pI σ a0 10 3 0).bind fun σ => (hp_pZ σ a0 10 11 0).bind fun σ => some (1, σ)) hp_F 0 σ)))
set_option maxHeartbeats 4000000 in
set_option maxRecDepth 100000 in
theorem w_Mo_goBack_l1 {p : Program} {l : Launch} {e : Env} {s : State} {m : MethodId} {args : Array Value} {below : List Frame} {meth : Method} {c : Code} {G : hp_G} {b : Nat} {a0 : Nat} {x1 : Int32} {r : Int32} {σ' : hp_H} {K : Int32 → hp_H → Option (Int32 × hp_H)} (hX : hp_X G p s m c args cX11_goBack 3 RX11) (hlocks : meth.locks = false) (hr : meth.sig.returnType = (some .int))
    (hK : ∀ (x2 : Int32) (σ : hp_H) (H : Heap) (locs : List Loc) (ls : Array Slot), hp_R G b s.heap σ H locs → lv_has ls 3 [(0, .ref a0), (1, .int x1)] → K x2 σ = some (r, σ') → W p l e rm_Mo_goBack s m args below meth c H locs 0 0 (MQ below (hp_Qc G b (some (.int r)) σ') args s 0 0 (fun q => b ≤ q)) (F0 m 57 ls [])) :
    ∀ (n : Nat) (x2 : Int32) (σ : hp_H) (H : Heap) (locs : List Loc) (ls : Array Slot), hp_R G b s.heap σ H locs → f_Mo_goBack_l1 a0 x1 K n x2 σ = some (r, σ') → lv_has ls 3 [(0, .ref a0), (1, .int x1), (2, .int x2)] → W p l e rm_Mo_goBack s m args below meth c H locs 0 0 (MQ below (hp_Qc G b (some (.int r)) σ') args s 0 0 (fun q => b ≤ q)) (F0 m 26 ls []) := by
  obtain ⟨hx, hb, hml, hown, hts⟩ := id hX.1
  intro n
  induction n with
  | zero =>
    intro x2 σ H locs ls hR h hl
    rw [f_Mo_goBack_l1] at h
    cases h
  | succ n ih =>
    intro x2 σ H locs ls hR h hl
    rw [f_Mo_goBack_l1] at h
    refine lv_iload_n hx hb dX11_goBack_26 rfl (lv_at hl 2 rfl) ?_
    refine lv_sipush (v := 256) hx hb dX11_goBack_27 (by decide) ?_
    refine lv_icmp_ge (tgt := 57) hx hb dX11_goBack_30 (by decide) (fun c7 => ?_) (fun c7 => ?_)
    · have h := hp_ip c7 h
      exact hK _ _ _ _ _ hR (lv_sub hl [0, 1] rfl) h
    · have h := hp_in c7 h
      refine lv_aload_n hx hb dX11_goBack_33 rfl (lv_at hl 0 rfl) ?_
      refine hp_getR hX hR (ci := 10) 0 rfl wf11 (by decide) wq3_167 dX11_goBack_34 h (fun q8 h => ?_)
      refine lv_iload_n hx hb dX11_goBack_37 rfl (lv_at hl 2 rfl) ?_
      refine lv_aload_n hx hb dX11_goBack_38 rfl (lv_at hl 0 rfl) ?_
      refine hp_getR hX hR (ci := 10) 4 rfl wf11 (by decide) wq3_171 dX11_goBack_39 h (fun q9 h => ?_)
      refine lv_sipush (v := 257) hx hb dX11_goBack_42 (by decide) ?_
      refine lv_iload_n hx hb dX11_goBack_45 rfl (lv_at hl 1 rfl) ?_
      refine lv_imul hx hb dX11_goBack_46 ?_
      refine lv_iload_n hx hb dX11_goBack_47 rfl (lv_at hl 2 rfl) ?_
      refine lv_iadd hx hb dX11_goBack_48 ?_
      refine hp_iald hX hR dX11_goBack_49 h (fun v10 h => ?_)
      refine hp_iast hX hR dX11_goBack_50 h (fun σ H locs h hR => ?_)
      refine lv_iinc (v := (x2 + 1)) (lv' := [(2, .int (x2 + 1)), (0, .ref a0), (1, .int x1)]) hx hb dX11_goBack_51 hl (k := 2) rfl rfl (by decide) rfl (fun ls hl => ?_)
      refine lv_goto (tgt := 26) hx hb dX11_goBack_54 (by decide) ?_
      exact ih _ _ _ _ _ hR h (lv_sub hl [1, 2, 0] rfl)
set_option maxHeartbeats 4000000 in
set_option maxRecDepth 100000 in
theorem c_Mo_goBack {l : Launch} {G : hp_G} {b : Nat} {σ : hp_H} {a0 : Nat} {x1 : Int32} {r : Int32} {σ' : hp_H} (h : f_Mo_goBack a0 x1 σ = some (r, σ')) : hp_Met l yX11_goBack cX11_goBack 3 (some .int) rm_Mo_goBack G b [.ref a0, .int x1] σ (some (.int r)) σ' 0 0 := by
  refine hp_met (by decide +kernel) (Nat.le_of_ble_eq_true rfl) (fun p e s m below meth c ls hX hlocks hr hnm hl hR => ?_)
  obtain ⟨hx, hb, hml, hown, hts⟩ := id hX.1
  have hl : lv_has ls 3 [(0, .ref a0), (1, .int x1)] := hl
  unfold f_Mo_goBack at h
  have h := hp_own_to h
  refine lv_iload_n hx hb dX11_goBack_0 rfl (lv_at hl 1 rfl) ?_
  refine lv_iconst (v := 0) hx hb dX11_goBack_1 (by decide) ?_
  refine lv_iconst (v := 1) hx hb dX11_goBack_2 (by decide) ?_
  refine hp_bn h (fun v2 h1 h => ?_)
  refine hp_ci hR (hp_runS (rest := []) (As := [.int x1, .int 0, .int 1]) hX hR (c_Mo_in h1) cs_X11_41 rfl rfl hd_Mo_in ⟨Nat.le_of_ble_eq_true rfl, Nat.le_of_ble_eq_true rfl⟩ rfl hl.1 rfl (Nat.le_of_ble_eq_true rfl) dX11_goBack_3 ⟨Nat.le_of_ble_eq_true rfl, Nat.le_of_ble_eq_true rfl⟩) (fun H locs hR => ?_)
  refine lv_if_ne (tgt := 12) hx hb dX11_goBack_6 (by decide) (fun c3 => ?_) (fun c3 => ?_)
  · have h := hp_in c3 h
    refine lv_aload_n hx hb dX11_goBack_12 rfl (lv_at hl 0 rfl) ?_
    refine hp_getR hX hR (ci := 10) 5 rfl wf11 (by decide) wq3_172 dX11_goBack_13 h (fun q4 h => ?_)
    refine lv_iload_n hx hb dX11_goBack_16 rfl (lv_at hl 1 rfl) ?_
    refine hp_zald hX hR dX11_goBack_17 h (fun v5 h => ?_)
    refine lv_if_ne (tgt := 24) hx hb dX11_goBack_18 (by decide) (fun c6 => ?_) (fun c6 => ?_)
    · have h := hp_in c6 h
      refine lv_iconst (v := 0) hx hb dX11_goBack_24 (by decide) ?_
      refine lv_istore_n (lv' := [(2, .int 0), (0, .ref a0), (1, .int x1)]) hx hb dX11_goBack_25 rfl hl (by decide) rfl (fun ls hl => ?_)
      refine w_Mo_goBack_l1 hX hlocks hr ?_ hp_F _ _ _ _ _ hR h (lv_sub hl [1, 2, 0] rfl)
      intro z11 σ H locs ls hR hl h
      refine lv_aload_n hx hb dX11_goBack_57 rfl (lv_at hl 0 rfl) ?_
      refine lv_aload_n hx hb dX11_goBack_58 rfl (lv_at hl 0 rfl) ?_
      refine hp_getR hX hR (ci := 10) 4 rfl wf11 (by decide) wq3_171 dX11_goBack_59 h (fun q12 h => ?_)
      refine lv_sipush (v := 257) hx hb dX11_goBack_62 (by decide) ?_
      refine lv_iload_n hx hb dX11_goBack_65 rfl (lv_at hl 1 rfl) ?_
      refine lv_imul hx hb dX11_goBack_66 ?_
      refine lv_sipush (v := 256) hx hb dX11_goBack_67 (by decide) ?_
      refine lv_iadd hx hb dX11_goBack_70 ?_
      refine hp_iald hX hR dX11_goBack_71 h (fun v13 h => ?_)
      refine hp_putI hX hR (ci := 10) 1 rfl wf11 tyX11_ok nmX11 (by decide) wq3_168 rfl dX11_goBack_72 rfl h (fun σ H locs h hR => ?_)
      refine lv_aload_n hx hb dX11_goBack_75 rfl (lv_at hl 0 rfl) ?_
      refine lv_iconst (v := 0) hx hb dX11_goBack_76 (by decide) ?_
      refine hp_putI hX hR (ci := 10) 3 rfl wf11 tyX11_ok nmX11 (by decide) wq3_170 rfl dX11_goBack_77 rfl h (fun σ H locs h hR => ?_)
      refine lv_aload_n hx hb dX11_goBack_80 rfl (lv_at hl 0 rfl) ?_
      refine lv_iconst (v := 0) hx hb dX11_goBack_81 (by decide) ?_
      refine hp_putZ hX hR (ci := 10) 11 rfl wf11 tyX11_ok nmX11 (by decide) wq3_178 rfl dX11_goBack_82 rfl h (fun σ H locs h hR => ?_)
      refine lv_iconst (v := 1) hx hb dX11_goBack_85 (by decide) ?_
      exact hp_iret hX hlocks hr hR h dX11_goBack_86
    · have h := hp_ip c6 h
      refine lv_ldc (v := (-1000000003)) hx hb hown (hts _ wq4_211) dX11_goBack_21 ?_
      exact hp_iret hX hlocks hr hR h dX11_goBack_23
  · have h := hp_ip c3 h
    refine lv_ldc (v := (-1000000001)) hx hb hown (hts _ wq4_89) dX11_goBack_9 ?_
    exact hp_iret hX hlocks hr hR h dX11_goBack_11
