/-! Mo.brokerAt(II)I -/
abbrev rm_Mo_brokerAt : Room := { frames := 3, cells := 0, slots := 0, locals := 65 }
theorem hd_Mo_brokerAt : hp_d yX11_brokerAt 2 := by decide +kernel
def f_Mo_brokerAt_l1 (a0 : Nat) (x1 : Int32) (σ : hp_H) (K : Int32 → Int32 → Option Int32) : Nat → Int32 → Int32 → Option Int32
  | 0, _, _ => none
  | n + 1, x3, x4 => (hp_gR σ a0 10 0).bind fun q8 => (hp_aI σ q8 0 0).bind fun v9 => if v9 ≤ x4 then (K x3 x4) else ((f_Mo_areNeighbours a0 x1 x4 σ).bind fun v12 => if v12 = 0 then (f_Mo_brokerAt_l1 a0 x1 σ K n (x3 ||| 0) (x4 + 1)) else (f_Mo_brokerAt_l1 a0 x1 σ K n (x3 ||| ((1 : Int32) <<< (x4 &&& 31))) (x4 + 1)))
def f_Mo_brokerAt_l2 (a0 : Nat) (x1 : Int32) (σ : hp_H) (K : Int32 → Int32 → Option Int32) : Nat → Int32 → Int32 → Option Int32
  | 0, _, _ => none
  | n + 1, x3, x4 => (hp_gR σ a0 10 0).bind fun q17 => (hp_aI σ q17 0 1).bind fun v18 => if v18 ≤ x4 then (K x3 x4) else ((f_Mo_of a0 x4 0 σ).bind fun v21 => if v21 = x1 then (f_Mo_brokerAt_l2 a0 x1 σ K n (x3 ||| ((1 : Int32) <<< (x4 &&& 31))) (x4 + 1)) else (f_Mo_brokerAt_l2 a0 x1 σ K n (x3 ||| 0) (x4 + 1)))
def f_Mo_brokerAt_l3 (a0 : Nat) (x1 : Int32) (σ : hp_H) (K : Int32 → Int32 → Option Int32) : Nat → Int32 → Int32 → Option Int32
  | 0, _, _ => none
  | n + 1, x3, x4 => (hp_gR σ a0 10 0).bind fun q26 => (hp_aI σ q26 0 2).bind fun v27 => if v27 ≤ x4 then (K x3 x4) else ((f_Mo_wish a0 x4 0 σ).bind fun v30 => (f_Mo_of a0 v30 0 σ).bind fun v32 => if v32 = x1 then (f_Mo_brokerAt_l3 a0 x1 σ K n (x3 ||| ((1 : Int32) <<< (x4 &&& 31))) (x4 + 1)) else (f_Mo_brokerAt_l3 a0 x1 σ K n (x3 ||| 0) (x4 + 1)))
def f_Mo_brokerAt (a0 : Nat) (x1 : Int32) (x2 : Int32) (σ : hp_H) : Option Int32 := hp_own σ a0 10 ((f_Mo_isBroker a0 x1 σ).bind fun v2 => if v2 = 0 then (some (-1000000001)) else (if x2 = 0 then ((hp_gR σ a0 10 0).bind fun q5 => (hp_aI σ q5 0 ((8 : Int32) + x1)).bind fun v6 => some v6) else (if x2 = 1 then (f_Mo_brokerAt_l1 a0 x1 σ (fun z14 z15 => some z14) hp_F 0 0) else (if x2 = 2 then (f_Mo_brokerAt_l2 a0 x1 σ (fun z23 z24 => some z23) hp_F 0 0) else (if x2 = 3 then (f_Mo_brokerAt_l3 a0 x1 σ (fun z34 z35 => some z34) hp_F 0 0) else (some (-1000000002)))))))
set_option maxHeartbeats 4000000 in
set_option maxRecDepth 100000 in
theorem w_Mo_brokerAt_l1 {p : Program} {l : Launch} {e : Env} {s : State} {m : MethodId} {args : Array Value} {below : List Frame} {meth : Method} {c : Code} {G : hp_G} {b : Nat} {σ : hp_H} {a0 : Nat} {x1 : Int32} {r : Int32} {K : Int32 → Int32 → Option Int32} (hX : hp_X G p s m c args cX11_brokerAt 5 RX11) (hlocks : meth.locks = false) (hr : meth.sig.returnType = (some .int))
    (hK : ∀ (x3 : Int32) (x4 : Int32) (H : Heap) (locs : List Loc) (ls : Array Slot), hp_R G b s.heap σ H locs → lv_has ls 5 [(3, .int x3)] → K x3 x4 = some r → W p l e rm_Mo_brokerAt s m args below meth c H locs 0 0 (MQ below (hp_Qc G b (some (.int r)) σ) args s 0 0 (fun q => b ≤ q)) (F0 m 95 ls [])) :
    ∀ (n : Nat) (x3 : Int32) (x4 : Int32) (H : Heap) (locs : List Loc) (ls : Array Slot), hp_R G b s.heap σ H locs → f_Mo_brokerAt_l1 a0 x1 σ K n x3 x4 = some r → lv_has ls 5 [(0, .ref a0), (1, .int x1), (3, .int x3), (4, .int x4)] → W p l e rm_Mo_brokerAt s m args below meth c H locs 0 0 (MQ below (hp_Qc G b (some (.int r)) σ) args s 0 0 (fun q => b ≤ q)) (F0 m 57 ls []) := by
  obtain ⟨hx, hb, hml, hown, hts⟩ := id hX.1
  intro n
  induction n with
  | zero =>
    intro x3 x4 H locs ls hR h hl
    rw [f_Mo_brokerAt_l1] at h
    cases h
  | succ n ih =>
    intro x3 x4 H locs ls hR h hl
    rw [f_Mo_brokerAt_l1] at h
    refine lv_iload hx hb dX11_brokerAt_57 (lv_at hl 3 rfl) ?_
    refine lv_aload_n hx hb dX11_brokerAt_59 rfl (lv_at hl 0 rfl) ?_
    refine hp_getR hX hR (ci := 10) 0 rfl wf11 (by decide) wq3_167 dX11_brokerAt_60 h (fun q8 h => ?_)
    refine lv_iconst (v := 0) hx hb dX11_brokerAt_63 (by decide) ?_
    refine hp_iald hX hR dX11_brokerAt_64 h (fun v9 h => ?_)
    refine lv_icmp_ge (tgt := 95) hx hb dX11_brokerAt_65 (by decide) (fun c10 => ?_) (fun c10 => ?_)
    · have h := hp_ip c10 h
      exact hK _ _ _ _ _ hR (lv_sub hl [2] rfl) h
    · have h := hp_in c10 h
      refine lv_iload_n hx hb dX11_brokerAt_68 rfl (lv_at hl 2 rfl) ?_
      refine lv_aload_n hx hb dX11_brokerAt_69 rfl (lv_at hl 0 rfl) ?_
      refine lv_iload_n hx hb dX11_brokerAt_70 rfl (lv_at hl 1 rfl) ?_
      refine lv_iload hx hb dX11_brokerAt_71 (lv_at hl 3 rfl) ?_
      refine hp_bn h (fun v12 h11 h => ?_)
      refine hp_ci hR (hp_runV (rest := [.int x3]) (As := [.int x1, .int x4]) hX hR (c_Mo_areNeighbours h11) cs_X11_97 rfl rfl rfl hd_Mo_areNeighbours ⟨Nat.le_of_ble_eq_true rfl, Nat.le_of_ble_eq_true rfl⟩ (ci := 10) rfl (hp_own_is h11) rfl hl.1 rfl (Nat.le_of_ble_eq_true rfl) dX11_brokerAt_73 ⟨Nat.le_of_ble_eq_true rfl, Nat.le_of_ble_eq_true rfl⟩) (fun H locs hR => ?_)
      refine lv_if_eq (tgt := 86) hx hb dX11_brokerAt_76 (by decide) (fun c13 => ?_) (fun c13 => ?_)
      · have h := hp_ip c13 h
        refine lv_iconst (v := 0) hx hb dX11_brokerAt_86 (by decide) ?_
        refine lv_ior hx hb dX11_brokerAt_87 ?_
        refine lv_istore_n (lv' := [(3, .int (x3 ||| 0)), (0, .ref a0), (1, .int x1), (4, .int x4)]) hx hb dX11_brokerAt_88 rfl hl (by decide) rfl (fun ls hl => ?_)
        refine lv_iinc (v := (x4 + 1)) (lv' := [(4, .int (x4 + 1)), (3, .int (x3 ||| 0)), (0, .ref a0), (1, .int x1)]) hx hb dX11_brokerAt_89 hl (k := 3) rfl rfl (by decide) rfl (fun ls hl => ?_)
        refine lv_goto (tgt := 57) hx hb dX11_brokerAt_92 (by decide) ?_
        exact ih _ _ _ _ _ hR h (lv_sub hl [2, 3, 1, 0] rfl)
      · have h := hp_in c13 h
        refine lv_iconst (v := 1) hx hb dX11_brokerAt_79 (by decide) ?_
        refine lv_iload hx hb dX11_brokerAt_80 (lv_at hl 3 rfl) ?_
        refine lv_ishl hx hb dX11_brokerAt_82 ?_
        refine lv_goto (tgt := 87) hx hb dX11_brokerAt_83 (by decide) ?_
        refine lv_ior hx hb dX11_brokerAt_87 ?_
        refine lv_istore_n (lv' := [(3, .int (x3 ||| ((1 : Int32) <<< (x4 &&& 31)))), (0, .ref a0), (1, .int x1), (4, .int x4)]) hx hb dX11_brokerAt_88 rfl hl (by decide) rfl (fun ls hl => ?_)
        refine lv_iinc (v := (x4 + 1)) (lv' := [(4, .int (x4 + 1)), (3, .int (x3 ||| ((1 : Int32) <<< (x4 &&& 31)))), (0, .ref a0), (1, .int x1)]) hx hb dX11_brokerAt_89 hl (k := 3) rfl rfl (by decide) rfl (fun ls hl => ?_)
        refine lv_goto (tgt := 57) hx hb dX11_brokerAt_92 (by decide) ?_
        exact ih _ _ _ _ _ hR h (lv_sub hl [2, 3, 1, 0] rfl)
set_option maxHeartbeats 4000000 in
set_option maxRecDepth 100000 in
theorem w_Mo_brokerAt_l2 {p : Program} {l : Launch} {e : Env} {s : State} {m : MethodId} {args : Array Value} {below : List Frame} {meth : Method} {c : Code} {G : hp_G} {b : Nat} {σ : hp_H} {a0 : Nat} {x1 : Int32} {r : Int32} {K : Int32 → Int32 → Option Int32} (hX : hp_X G p s m c args cX11_brokerAt 5 RX11) (hlocks : meth.locks = false) (hr : meth.sig.returnType = (some .int))
    (hK : ∀ (x3 : Int32) (x4 : Int32) (H : Heap) (locs : List Loc) (ls : Array Slot), hp_R G b s.heap σ H locs → lv_has ls 5 [(3, .int x3)] → K x3 x4 = some r → W p l e rm_Mo_brokerAt s m args below meth c H locs 0 0 (MQ below (hp_Qc G b (some (.int r)) σ) args s 0 0 (fun q => b ≤ q)) (F0 m 139 ls [])) :
    ∀ (n : Nat) (x3 : Int32) (x4 : Int32) (H : Heap) (locs : List Loc) (ls : Array Slot), hp_R G b s.heap σ H locs → f_Mo_brokerAt_l2 a0 x1 σ K n x3 x4 = some r → lv_has ls 5 [(0, .ref a0), (1, .int x1), (3, .int x3), (4, .int x4)] → W p l e rm_Mo_brokerAt s m args below meth c H locs 0 0 (MQ below (hp_Qc G b (some (.int r)) σ) args s 0 0 (fun q => b ≤ q)) (F0 m 100 ls []) := by
  obtain ⟨hx, hb, hml, hown, hts⟩ := id hX.1
  intro n
  induction n with
  | zero =>
    intro x3 x4 H locs ls hR h hl
    rw [f_Mo_brokerAt_l2] at h
    cases h
  | succ n ih =>
    intro x3 x4 H locs ls hR h hl
    rw [f_Mo_brokerAt_l2] at h
    refine lv_iload hx hb dX11_brokerAt_100 (lv_at hl 3 rfl) ?_
    refine lv_aload_n hx hb dX11_brokerAt_102 rfl (lv_at hl 0 rfl) ?_
    refine hp_getR hX hR (ci := 10) 0 rfl wf11 (by decide) wq3_167 dX11_brokerAt_103 h (fun q17 h => ?_)
    refine lv_iconst (v := 1) hx hb dX11_brokerAt_106 (by decide) ?_
    refine hp_iald hX hR dX11_brokerAt_107 h (fun v18 h => ?_)
    refine lv_icmp_ge (tgt := 139) hx hb dX11_brokerAt_108 (by decide) (fun c19 => ?_) (fun c19 => ?_)
    · have h := hp_ip c19 h
      exact hK _ _ _ _ _ hR (lv_sub hl [2] rfl) h
    · have h := hp_in c19 h
      refine lv_iload_n hx hb dX11_brokerAt_111 rfl (lv_at hl 2 rfl) ?_
      refine lv_aload_n hx hb dX11_brokerAt_112 rfl (lv_at hl 0 rfl) ?_
      refine lv_iload hx hb dX11_brokerAt_113 (lv_at hl 3 rfl) ?_
      refine lv_iconst (v := 0) hx hb dX11_brokerAt_115 (by decide) ?_
      refine hp_bn h (fun v21 h20 h => ?_)
      refine hp_ci hR (hp_runV (rest := [.int x3]) (As := [.int x4, .int 0]) hX hR (c_Mo_of h20) cs_X11_90 rfl rfl rfl hd_Mo_of ⟨Nat.le_of_ble_eq_true rfl, Nat.le_of_ble_eq_true rfl⟩ (ci := 10) rfl (hp_own_is h20) rfl hl.1 rfl (Nat.le_of_ble_eq_true rfl) dX11_brokerAt_116 ⟨Nat.le_of_ble_eq_true rfl, Nat.le_of_ble_eq_true rfl⟩) (fun H locs hR => ?_)
      refine lv_iload_n hx hb dX11_brokerAt_119 rfl (lv_at hl 1 rfl) ?_
      refine lv_icmp_ne (tgt := 130) hx hb dX11_brokerAt_120 (by decide) (fun c22 => ?_) (fun c22 => ?_)
      · have h := hp_in c22 h
        refine lv_iconst (v := 0) hx hb dX11_brokerAt_130 (by decide) ?_
        refine lv_ior hx hb dX11_brokerAt_131 ?_
        refine lv_istore_n (lv' := [(3, .int (x3 ||| 0)), (0, .ref a0), (1, .int x1), (4, .int x4)]) hx hb dX11_brokerAt_132 rfl hl (by decide) rfl (fun ls hl => ?_)
        refine lv_iinc (v := (x4 + 1)) (lv' := [(4, .int (x4 + 1)), (3, .int (x3 ||| 0)), (0, .ref a0), (1, .int x1)]) hx hb dX11_brokerAt_133 hl (k := 3) rfl rfl (by decide) rfl (fun ls hl => ?_)
        refine lv_goto (tgt := 100) hx hb dX11_brokerAt_136 (by decide) ?_
        exact ih _ _ _ _ _ hR h (lv_sub hl [2, 3, 1, 0] rfl)
      · have h := hp_ip c22 h
        refine lv_iconst (v := 1) hx hb dX11_brokerAt_123 (by decide) ?_
        refine lv_iload hx hb dX11_brokerAt_124 (lv_at hl 3 rfl) ?_
        refine lv_ishl hx hb dX11_brokerAt_126 ?_
        refine lv_goto (tgt := 131) hx hb dX11_brokerAt_127 (by decide) ?_
        refine lv_ior hx hb dX11_brokerAt_131 ?_
        refine lv_istore_n (lv' := [(3, .int (x3 ||| ((1 : Int32) <<< (x4 &&& 31)))), (0, .ref a0), (1, .int x1), (4, .int x4)]) hx hb dX11_brokerAt_132 rfl hl (by decide) rfl (fun ls hl => ?_)
        refine lv_iinc (v := (x4 + 1)) (lv' := [(4, .int (x4 + 1)), (3, .int (x3 ||| ((1 : Int32) <<< (x4 &&& 31)))), (0, .ref a0), (1, .int x1)]) hx hb dX11_brokerAt_133 hl (k := 3) rfl rfl (by decide) rfl (fun ls hl => ?_)
        refine lv_goto (tgt := 100) hx hb dX11_brokerAt_136 (by decide) ?_
        exact ih _ _ _ _ _ hR h (lv_sub hl [2, 3, 1, 0] rfl)
set_option maxHeartbeats 4000000 in
set_option maxRecDepth 100000 in
theorem w_Mo_brokerAt_l3 {p : Program} {l : Launch} {e : Env} {s : State} {m : MethodId} {args : Array Value} {below : List Frame} {meth : Method} {c : Code} {G : hp_G} {b : Nat} {σ : hp_H} {a0 : Nat} {x1 : Int32} {r : Int32} {K : Int32 → Int32 → Option Int32} (hX : hp_X G p s m c args cX11_brokerAt 5 RX11) (hlocks : meth.locks = false) (hr : meth.sig.returnType = (some .int))
    (hK : ∀ (x3 : Int32) (x4 : Int32) (H : Heap) (locs : List Loc) (ls : Array Slot), hp_R G b s.heap σ H locs → lv_has ls 5 [(3, .int x3)] → K x3 x4 = some r → W p l e rm_Mo_brokerAt s m args below meth c H locs 0 0 (MQ below (hp_Qc G b (some (.int r)) σ) args s 0 0 (fun q => b ≤ q)) (F0 m 188 ls [])) :
    ∀ (n : Nat) (x3 : Int32) (x4 : Int32) (H : Heap) (locs : List Loc) (ls : Array Slot), hp_R G b s.heap σ H locs → f_Mo_brokerAt_l3 a0 x1 σ K n x3 x4 = some r → lv_has ls 5 [(0, .ref a0), (1, .int x1), (3, .int x3), (4, .int x4)] → W p l e rm_Mo_brokerAt s m args below meth c H locs 0 0 (MQ below (hp_Qc G b (some (.int r)) σ) args s 0 0 (fun q => b ≤ q)) (F0 m 144 ls []) := by
  obtain ⟨hx, hb, hml, hown, hts⟩ := id hX.1
  intro n
  induction n with
  | zero =>
    intro x3 x4 H locs ls hR h hl
    rw [f_Mo_brokerAt_l3] at h
    cases h
  | succ n ih =>
    intro x3 x4 H locs ls hR h hl
    rw [f_Mo_brokerAt_l3] at h
    refine lv_iload hx hb dX11_brokerAt_144 (lv_at hl 3 rfl) ?_
    refine lv_aload_n hx hb dX11_brokerAt_146 rfl (lv_at hl 0 rfl) ?_
    refine hp_getR hX hR (ci := 10) 0 rfl wf11 (by decide) wq3_167 dX11_brokerAt_147 h (fun q26 h => ?_)
    refine lv_iconst (v := 2) hx hb dX11_brokerAt_150 (by decide) ?_
    refine hp_iald hX hR dX11_brokerAt_151 h (fun v27 h => ?_)
    refine lv_icmp_ge (tgt := 188) hx hb dX11_brokerAt_152 (by decide) (fun c28 => ?_) (fun c28 => ?_)
    · have h := hp_ip c28 h
      exact hK _ _ _ _ _ hR (lv_sub hl [2] rfl) h
    · have h := hp_in c28 h
      refine lv_iload_n hx hb dX11_brokerAt_155 rfl (lv_at hl 2 rfl) ?_
      refine lv_aload_n hx hb dX11_brokerAt_156 rfl (lv_at hl 0 rfl) ?_
      refine lv_aload_n hx hb dX11_brokerAt_157 rfl (lv_at hl 0 rfl) ?_
      refine lv_iload hx hb dX11_brokerAt_158 (lv_at hl 3 rfl) ?_
      refine lv_iconst (v := 0) hx hb dX11_brokerAt_160 (by decide) ?_
      refine hp_bn h (fun v30 h29 h => ?_)
      refine hp_ci hR (hp_runV (rest := [.ref a0, .int x3]) (As := [.int x4, .int 0]) hX hR (c_Mo_wish h29) cs_X11_87 rfl rfl rfl hd_Mo_wish ⟨Nat.le_of_ble_eq_true rfl, Nat.le_of_ble_eq_true rfl⟩ (ci := 10) rfl (hp_own_is h29) rfl hl.1 rfl (Nat.le_of_ble_eq_true rfl) dX11_brokerAt_161 ⟨Nat.le_of_ble_eq_true rfl, Nat.le_of_ble_eq_true rfl⟩) (fun H locs hR => ?_)
      refine lv_iconst (v := 0) hx hb dX11_brokerAt_164 (by decide) ?_
      refine hp_bn h (fun v32 h31 h => ?_)
      refine hp_ci hR (hp_runV (rest := [.int x3]) (As := [.int v30, .int 0]) hX hR (c_Mo_of h31) cs_X11_90 rfl rfl rfl hd_Mo_of ⟨Nat.le_of_ble_eq_true rfl, Nat.le_of_ble_eq_true rfl⟩ (ci := 10) rfl (hp_own_is h31) rfl hl.1 rfl (Nat.le_of_ble_eq_true rfl) dX11_brokerAt_165 ⟨Nat.le_of_ble_eq_true rfl, Nat.le_of_ble_eq_true rfl⟩) (fun H locs hR => ?_)
      refine lv_iload_n hx hb dX11_brokerAt_168 rfl (lv_at hl 1 rfl) ?_
      refine lv_icmp_ne (tgt := 179) hx hb dX11_brokerAt_169 (by decide) (fun c33 => ?_) (fun c33 => ?_)
      · have h := hp_in c33 h
        refine lv_iconst (v := 0) hx hb dX11_brokerAt_179 (by decide) ?_
        refine lv_ior hx hb dX11_brokerAt_180 ?_
        refine lv_istore_n (lv' := [(3, .int (x3 ||| 0)), (0, .ref a0), (1, .int x1), (4, .int x4)]) hx hb dX11_brokerAt_181 rfl hl (by decide) rfl (fun ls hl => ?_)
        refine lv_iinc (v := (x4 + 1)) (lv' := [(4, .int (x4 + 1)), (3, .int (x3 ||| 0)), (0, .ref a0), (1, .int x1)]) hx hb dX11_brokerAt_182 hl (k := 3) rfl rfl (by decide) rfl (fun ls hl => ?_)
        refine lv_goto (tgt := 144) hx hb dX11_brokerAt_185 (by decide) ?_
        exact ih _ _ _ _ _ hR h (lv_sub hl [2, 3, 1, 0] rfl)
      · have h := hp_ip c33 h
        refine lv_iconst (v := 1) hx hb dX11_brokerAt_172 (by decide) ?_
        refine lv_iload hx hb dX11_brokerAt_173 (lv_at hl 3 rfl) ?_
        refine lv_ishl hx hb dX11_brokerAt_175 ?_
        refine lv_goto (tgt := 180) hx hb dX11_brokerAt_176 (by decide) ?_
        refine lv_ior hx hb dX11_brokerAt_180 ?_
        refine lv_istore_n (lv' := [(3, .int (x3 ||| ((1 : Int32) <<< (x4 &&& 31)))), (0, .ref a0), (1, .int x1), (4, .int x4)]) hx hb dX11_brokerAt_181 rfl hl (by decide) rfl (fun ls hl => ?_)
        refine lv_iinc (v := (x4 + 1)) (lv' := [(4, .int (x4 + 1)), (3, .int (x3 ||| ((1 : Int32) <<< (x4 &&& 31)))), (0, .ref a0), (1, .int x1)]) hx hb dX11_brokerAt_182 hl (k := 3) rfl rfl (by decide) rfl (fun ls hl => ?_)
        refine lv_goto (tgt := 144) hx hb dX11_brokerAt_185 (by decide) ?_
        exact ih _ _ _ _ _ hR h (lv_sub hl [2, 3, 1, 0] rfl)
set_option maxHeartbeats 4000000 in
set_option maxRecDepth 100000 in
theorem c_Mo_brokerAt {l : Launch} {G : hp_G} {b : Nat} {σ : hp_H} {a0 : Nat} {x1 : Int32} {x2 : Int32} {r : Int32} (h : f_Mo_brokerAt a0 x1 x2 σ = some r) : hp_Met l yX11_brokerAt cX11_brokerAt 5 (some .int) rm_Mo_brokerAt G b [.ref a0, .int x1, .int x2] σ (some (.int r)) σ 0 0 := by
  refine hp_met (by decide +kernel) (Nat.le_of_ble_eq_true rfl) (fun p e s m below meth c ls hX hlocks hr hnm hl hR => ?_)
  obtain ⟨hx, hb, hml, hown, hts⟩ := id hX.1
  have hl : lv_has ls 5 [(0, .ref a0), (1, .int x1), (2, .int x2)] := hl
  unfold f_Mo_brokerAt at h
  have h := hp_own_to h
  refine lv_aload_n hx hb dX11_brokerAt_0 rfl (lv_at hl 0 rfl) ?_
  refine lv_iload_n hx hb dX11_brokerAt_1 rfl (lv_at hl 1 rfl) ?_
  refine hp_bn h (fun v2 h1 h => ?_)
  refine hp_ci hR (hp_runV (rest := []) (As := [.int x1]) hX hR (c_Mo_isBroker h1) cs_X11_45 rfl rfl rfl hd_Mo_isBroker ⟨Nat.le_of_ble_eq_true rfl, Nat.le_of_ble_eq_true rfl⟩ (ci := 10) rfl (hp_own_is h1) rfl hl.1 rfl (Nat.le_of_ble_eq_true rfl) dX11_brokerAt_2 ⟨Nat.le_of_ble_eq_true rfl, Nat.le_of_ble_eq_true rfl⟩) (fun H locs hR => ?_)
  refine lv_if_ne (tgt := 11) hx hb dX11_brokerAt_5 (by decide) (fun c3 => ?_) (fun c3 => ?_)
  · have h := hp_in c3 h
    refine lv_iconst (v := 0) hx hb dX11_brokerAt_11 (by decide) ?_
    refine lv_istore_n (lv' := [(3, .int 0), (0, .ref a0), (1, .int x1), (2, .int x2)]) hx hb dX11_brokerAt_12 rfl hl (by decide) rfl (fun ls hl => ?_)
    refine lv_iload_n hx hb dX11_brokerAt_13 rfl (lv_at hl 3 rfl) ?_
    rcases Decidable.em (x2 = 0) with c4 | c4
    · have h := hp_ip c4 h
      refine lv_tableIn (off := 30) (tgt := 44) hx hb dX11_brokerAt_14 (by rw [c4]; decide) (by rw [c4]; decide) (by rw [c4]; decide) (by decide) ?_
      refine lv_aload_n hx hb dX11_brokerAt_44 rfl (lv_at hl 1 rfl) ?_
      refine hp_getR hX hR (ci := 10) 0 rfl wf11 (by decide) wq3_167 dX11_brokerAt_45 h (fun q5 h => ?_)
      refine lv_bipush (v := 8) hx hb dX11_brokerAt_48 (by decide) ?_
      refine lv_iload_n hx hb dX11_brokerAt_50 rfl (lv_at hl 2 rfl) ?_
      refine lv_iadd hx hb dX11_brokerAt_51 ?_
      refine hp_iald hX hR dX11_brokerAt_52 h (fun v6 h => ?_)
      exact hp_iretP hX hlocks hr hR h dX11_brokerAt_53
    · have h := hp_in c4 h
      rcases Decidable.em (x2 = 1) with c7 | c7
      · have h := hp_ip c7 h
        refine lv_tableIn (off := 40) (tgt := 54) hx hb dX11_brokerAt_14 (by rw [c7]; decide) (by rw [c7]; decide) (by rw [c7]; decide) (by decide) ?_
        refine lv_iconst (v := 0) hx hb dX11_brokerAt_54 (by decide) ?_
        refine lv_istore (lv' := [(4, .int 0), (3, .int 0), (0, .ref a0), (1, .int x1), (2, .int x2)]) hx hb dX11_brokerAt_55 hl (by decide) rfl (fun ls hl => ?_)
        refine w_Mo_brokerAt_l1 hX hlocks hr ?_ hp_F _ _ _ _ _ hR h (lv_sub hl [2, 3, 1, 0] rfl)
        intro z14 z15 H locs ls hR hl h
        refine lv_iload_n hx hb dX11_brokerAt_95 rfl (lv_at hl 0 rfl) ?_
        exact hp_iretP hX hlocks hr hR h dX11_brokerAt_96
      · have h := hp_in c7 h
        rcases Decidable.em (x2 = 2) with c16 | c16
        · have h := hp_ip c16 h
          refine lv_tableIn (off := 83) (tgt := 97) hx hb dX11_brokerAt_14 (by rw [c16]; decide) (by rw [c16]; decide) (by rw [c16]; decide) (by decide) ?_
          refine lv_iconst (v := 0) hx hb dX11_brokerAt_97 (by decide) ?_
          refine lv_istore (lv' := [(4, .int 0), (3, .int 0), (0, .ref a0), (1, .int x1), (2, .int x2)]) hx hb dX11_brokerAt_98 hl (by decide) rfl (fun ls hl => ?_)
          refine w_Mo_brokerAt_l2 hX hlocks hr ?_ hp_F _ _ _ _ _ hR h (lv_sub hl [2, 3, 1, 0] rfl)
          intro z23 z24 H locs ls hR hl h
          refine lv_iload_n hx hb dX11_brokerAt_139 rfl (lv_at hl 0 rfl) ?_
          exact hp_iretP hX hlocks hr hR h dX11_brokerAt_140
        · have h := hp_in c16 h
          rcases Decidable.em (x2 = 3) with c25 | c25
          · have h := hp_ip c25 h
            refine lv_tableIn (off := 127) (tgt := 141) hx hb dX11_brokerAt_14 (by rw [c25]; decide) (by rw [c25]; decide) (by rw [c25]; decide) (by decide) ?_
            refine lv_iconst (v := 0) hx hb dX11_brokerAt_141 (by decide) ?_
            refine lv_istore (lv' := [(4, .int 0), (3, .int 0), (0, .ref a0), (1, .int x1), (2, .int x2)]) hx hb dX11_brokerAt_142 hl (by decide) rfl (fun ls hl => ?_)
            refine w_Mo_brokerAt_l3 hX hlocks hr ?_ hp_F _ _ _ _ _ hR h (lv_sub hl [2, 3, 1, 0] rfl)
            intro z34 z35 H locs ls hR hl h
            refine lv_iload_n hx hb dX11_brokerAt_188 rfl (lv_at hl 0 rfl) ?_
            exact hp_iretP hX hlocks hr hR h dX11_brokerAt_189
          · have h := hp_in c25 h
            refine lv_tableOut (tgt := 190) hx hb dX11_brokerAt_14 (by have := lv_neT (a := 0) c4 rfl; have := lv_neT (a := 1) c7 rfl; have := lv_neT (a := 2) c16 rfl; have := lv_neT (a := 3) c25 rfl; omega) (by decide) ?_
            refine lv_ldc (v := (-1000000002)) hx hb hown (hts _ wq4_84) dX11_brokerAt_190 ?_
            exact hp_iretP hX hlocks hr hR h dX11_brokerAt_192
  · have h := hp_ip c3 h
    refine lv_ldc (v := (-1000000001)) hx hb hown (hts _ wq4_89) dX11_brokerAt_8 ?_
    exact hp_iretP hX hlocks hr hR h dX11_brokerAt_10
/-! Mo.clientAt(II)I -/
abbrev rm_Mo_clientAt : Room := { frames := 2, cells := 0, slots := 0, locals := 43 }
theorem hd_Mo_clientAt : hp_d yX11_clientAt 2 := by decide +kernel
def f_Mo_clientAt_l1 (a0 : Nat) (x1 : Int32) (σ : hp_H) (K : Int32 → Int32 → Option Int32) : Nat → Int32 → Int32 → Option Int32
  | 0, _, _ => none
  | n + 1, x3, x4 => (hp_gR σ a0 10 0).bind fun q20 => (hp_aI σ q20 0 2).bind fun v21 => if v21 ≤ x4 then (K x3 x4) else ((f_Mo_wish a0 x4 0 σ).bind fun v24 => if v24 = x1 then (f_Mo_clientAt_l1 a0 x1 σ K n (x3 ||| ((1 : Int32) <<< (x4 &&& 31))) (x4 + 1)) else (f_Mo_clientAt_l1 a0 x1 σ K n (x3 ||| 0) (x4 + 1)))
def f_Mo_clientAt (a0 : Nat) (x1 : Int32) (x2 : Int32) (σ : hp_H) : Option Int32 := hp_own σ a0 10 ((f_Mo_isClient a0 x1 σ).bind fun v2 => if v2 = 0 then (some (-1000000001)) else (if x2 = 0 then ((f_Mo_of a0 x1 0 σ).bind fun v6 => some v6) else (if x2 = 1 then ((f_Mo_of a0 x1 1 σ).bind fun v9 => some v9) else (if x2 = 2 then ((f_Mo_of a0 x1 2 σ).bind fun v12 => some v12) else (if x2 = 3 then ((f_Mo_of a0 x1 4 σ).bind fun v15 => some v15) else (if x2 = 4 then ((f_Mo_of a0 x1 3 σ).bind fun v18 => some v18) else (if x2 = 5 then (f_Mo_clientAt_l1 a0 x1 σ (fun z26 z27 => some z26) hp_F 0 0) else (some (-1000000002)))))))))
set_option maxHeartbeats 4000000 in
set_option maxRecDepth 100000 in
theorem w_Mo_clientAt_l1 {p : Program} {l : Launch} {e : Env} {s : State} {m : MethodId} {args : Array Value} {below : List Frame} {meth : Method} {c : Code} {G : hp_G} {b : Nat} {σ : hp_H} {a0 : Nat} {x1 : Int32} {r : Int32} {K : Int32 → Int32 → Option Int32} (hX : hp_X G p s m c args cX11_clientAt 5 RX11) (hlocks : meth.locks = false) (hr : meth.sig.returnType = (some .int))
    (hK : ∀ (x3 : Int32) (x4 : Int32) (H : Heap) (locs : List Loc) (ls : Array Slot), hp_R G b s.heap σ H locs → lv_has ls 5 [(3, .int x3)] → K x3 x4 = some r → W p l e rm_Mo_clientAt s m args below meth c H locs 0 0 (MQ below (hp_Qc G b (some (.int r)) σ) args s 0 0 (fun q => b ≤ q)) (F0 m 129 ls [])) :
    ∀ (n : Nat) (x3 : Int32) (x4 : Int32) (H : Heap) (locs : List Loc) (ls : Array Slot), hp_R G b s.heap σ H locs → f_Mo_clientAt_l1 a0 x1 σ K n x3 x4 = some r → lv_has ls 5 [(0, .ref a0), (1, .int x1), (3, .int x3), (4, .int x4)] → W p l e rm_Mo_clientAt s m args below meth c H locs 0 0 (MQ below (hp_Qc G b (some (.int r)) σ) args s 0 0 (fun q => b ≤ q)) (F0 m 90 ls []) := by
  obtain ⟨hx, hb, hml, hown, hts⟩ := id hX.1
  intro n
  induction n with
  | zero =>
    intro x3 x4 H locs ls hR h hl
    rw [f_Mo_clientAt_l1] at h
    cases h
  | succ n ih =>
    intro x3 x4 H locs ls hR h hl
    rw [f_Mo_clientAt_l1] at h
    refine lv_iload hx hb dX11_clientAt_90 (lv_at hl 3 rfl) ?_
    refine lv_aload_n hx hb dX11_clientAt_92 rfl (lv_at hl 0 rfl) ?_
    refine hp_getR hX hR (ci := 10) 0 rfl wf11 (by decide) wq3_167 dX11_clientAt_93 h (fun q20 h => ?_)
    refine lv_iconst (v := 2) hx hb dX11_clientAt_96 (by decide) ?_
    refine hp_iald hX hR dX11_clientAt_97 h (fun v21 h => ?_)
    refine lv_icmp_ge (tgt := 129) hx hb dX11_clientAt_98 (by decide) (fun c22 => ?_) (fun c22 => ?_)
    · have h := hp_ip c22 h
      exact hK _ _ _ _ _ hR (lv_sub hl [2] rfl) h
    · have h := hp_in c22 h
      refine lv_iload_n hx hb dX11_clientAt_101 rfl (lv_at hl 2 rfl) ?_
      refine lv_aload_n hx hb dX11_clientAt_102 rfl (lv_at hl 0 rfl) ?_
      refine lv_iload hx hb dX11_clientAt_103 (lv_at hl 3 rfl) ?_
      refine lv_iconst (v := 0) hx hb dX11_clientAt_105 (by decide) ?_
      refine hp_bn h (fun v24 h23 h => ?_)
      refine hp_ci hR (hp_runV (rest := [.int x3]) (As := [.int x4, .int 0]) hX hR (c_Mo_wish h23) cs_X11_87 rfl rfl rfl hd_Mo_wish ⟨Nat.le_of_ble_eq_true rfl, Nat.le_of_ble_eq_true rfl⟩ (ci := 10) rfl (hp_own_is h23) rfl hl.1 rfl (Nat.le_of_ble_eq_true rfl) dX11_clientAt_106 ⟨Nat.le_of_ble_eq_true rfl, Nat.le_of_ble_eq_true rfl⟩) (fun H locs hR => ?_)
      refine lv_iload_n hx hb dX11_clientAt_109 rfl (lv_at hl 1 rfl) ?_
      refine lv_icmp_ne (tgt := 120) hx hb dX11_clientAt_110 (by decide) (fun c25 => ?_) (fun c25 => ?_)
      · have h := hp_in c25 h
        refine lv_iconst (v := 0) hx hb dX11_clientAt_120 (by decide) ?_
        refine lv_ior hx hb dX11_clientAt_121 ?_
        refine lv_istore_n (lv' := [(3, .int (x3 ||| 0)), (0, .ref a0), (1, .int x1), (4, .int x4)]) hx hb dX11_clientAt_122 rfl hl (by decide) rfl (fun ls hl => ?_)
        refine lv_iinc (v := (x4 + 1)) (lv' := [(4, .int (x4 + 1)), (3, .int (x3 ||| 0)), (0, .ref a0), (1, .int x1)]) hx hb dX11_clientAt_123 hl (k := 3) rfl rfl (by decide) rfl (fun ls hl => ?_)
        refine lv_goto (tgt := 90) hx hb dX11_clientAt_126 (by decide) ?_
        exact ih _ _ _ _ _ hR h (lv_sub hl [2, 3, 1, 0] rfl)
      · have h := hp_ip c25 h
        refine lv_iconst (v := 1) hx hb dX11_clientAt_113 (by decide) ?_
        refine lv_iload hx hb dX11_clientAt_114 (lv_at hl 3 rfl) ?_
        refine lv_ishl hx hb dX11_clientAt_116 ?_
        refine lv_goto (tgt := 121) hx hb dX11_clientAt_117 (by decide) ?_
        refine lv_ior hx hb dX11_clientAt_121 ?_
        refine lv_istore_n (lv' := [(3, .int (x3 ||| ((1 : Int32) <<< (x4 &&& 31)))), (0, .ref a0), (1, .int x1), (4, .int x4)]) hx hb dX11_clientAt_122 rfl hl (by decide) rfl (fun ls hl => ?_)
        refine lv_iinc (v := (x4 + 1)) (lv' := [(4, .int (x4 + 1)), (3, .int (x3 ||| ((1 : Int32) <<< (x4 &&& 31)))), (0, .ref a0), (1, .int x1)]) hx hb dX11_clientAt_123 hl (k := 3) rfl rfl (by decide) rfl (fun ls hl => ?_)
        refine lv_goto (tgt := 90) hx hb dX11_clientAt_126 (by decide) ?_
        exact ih _ _ _ _ _ hR h (lv_sub hl [2, 3, 1, 0] rfl)
set_option maxHeartbeats 4000000 in
set_option maxRecDepth 100000 in
theorem c_Mo_clientAt {l : Launch} {G : hp_G} {b : Nat} {σ : hp_H} {a0 : Nat} {x1 : Int32} {x2 : Int32} {r : Int32} (h : f_Mo_clientAt a0 x1 x2 σ = some r) : hp_Met l yX11_clientAt cX11_clientAt 5 (some .int) rm_Mo_clientAt G b [.ref a0, .int x1, .int x2] σ (some (.int r)) σ 0 0 := by
  refine hp_met (by decide +kernel) (Nat.le_of_ble_eq_true rfl) (fun p e s m below meth c ls hX hlocks hr hnm hl hR => ?_)
  obtain ⟨hx, hb, hml, hown, hts⟩ := id hX.1
  have hl : lv_has ls 5 [(0, .ref a0), (1, .int x1), (2, .int x2)] := hl
  unfold f_Mo_clientAt at h
  have h := hp_own_to h
  refine lv_aload_n hx hb dX11_clientAt_0 rfl (lv_at hl 0 rfl) ?_
  refine lv_iload_n hx hb dX11_clientAt_1 rfl (lv_at hl 1 rfl) ?_
  refine hp_bn h (fun v2 h1 h => ?_)
  refine hp_ci hR (hp_runV (rest := []) (As := [.int x1]) hX hR (c_Mo_isClient h1) cs_X11_163 rfl rfl rfl hd_Mo_isClient ⟨Nat.le_of_ble_eq_true rfl, Nat.le_of_ble_eq_true rfl⟩ (ci := 10) rfl (hp_own_is h1) rfl hl.1 rfl (Nat.le_of_ble_eq_true rfl) dX11_clientAt_2 ⟨Nat.le_of_ble_eq_true rfl, Nat.le_of_ble_eq_true rfl⟩) (fun H locs hR => ?_)
  refine lv_if_ne (tgt := 11) hx hb dX11_clientAt_5 (by decide) (fun c3 => ?_) (fun c3 => ?_)
  · have h := hp_in c3 h
    refine lv_iconst (v := 0) hx hb dX11_clientAt_11 (by decide) ?_
    refine lv_istore_n (lv' := [(3, .int 0), (0, .ref a0), (1, .int x1), (2, .int x2)]) hx hb dX11_clientAt_12 rfl hl (by decide) rfl (fun ls hl => ?_)
    refine lv_iload_n hx hb dX11_clientAt_13 rfl (lv_at hl 3 rfl) ?_
    rcases Decidable.em (x2 = 0) with c4 | c4
    · have h := hp_ip c4 h
      refine lv_tableIn (off := 38) (tgt := 52) hx hb dX11_clientAt_14 (by rw [c4]; decide) (by rw [c4]; decide) (by rw [c4]; decide) (by decide) ?_
      refine lv_aload_n hx hb dX11_clientAt_52 rfl (lv_at hl 1 rfl) ?_
      refine lv_iload_n hx hb dX11_clientAt_53 rfl (lv_at hl 2 rfl) ?_
      refine lv_iconst (v := 0) hx hb dX11_clientAt_54 (by decide) ?_
      refine hp_bn h (fun v6 h5 h => ?_)
      refine hp_ci hR (hp_runV (rest := []) (As := [.int x1, .int 0]) hX hR (c_Mo_of h5) cs_X11_90 rfl rfl rfl hd_Mo_of ⟨Nat.le_of_ble_eq_true rfl, Nat.le_of_ble_eq_true rfl⟩ (ci := 10) rfl (hp_own_is h5) rfl hl.1 rfl (Nat.le_of_ble_eq_true rfl) dX11_clientAt_55 ⟨Nat.le_of_ble_eq_true rfl, Nat.le_of_ble_eq_true rfl⟩) (fun H locs hR => ?_)
      exact hp_iretP hX hlocks hr hR h dX11_clientAt_58
    · have h := hp_in c4 h
      rcases Decidable.em (x2 = 1) with c7 | c7
      · have h := hp_ip c7 h
        refine lv_tableIn (off := 45) (tgt := 59) hx hb dX11_clientAt_14 (by rw [c7]; decide) (by rw [c7]; decide) (by rw [c7]; decide) (by decide) ?_
        refine lv_aload_n hx hb dX11_clientAt_59 rfl (lv_at hl 1 rfl) ?_
        refine lv_iload_n hx hb dX11_clientAt_60 rfl (lv_at hl 2 rfl) ?_
        refine lv_iconst (v := 1) hx hb dX11_clientAt_61 (by decide) ?_
        refine hp_bn h (fun v9 h8 h => ?_)
        refine hp_ci hR (hp_runV (rest := []) (As := [.int x1, .int 1]) hX hR (c_Mo_of h8) cs_X11_90 rfl rfl rfl hd_Mo_of ⟨Nat.le_of_ble_eq_true rfl, Nat.le_of_ble_eq_true rfl⟩ (ci := 10) rfl (hp_own_is h8) rfl hl.1 rfl (Nat.le_of_ble_eq_true rfl) dX11_clientAt_62 ⟨Nat.le_of_ble_eq_true rfl, Nat.le_of_ble_eq_true rfl⟩) (fun H locs hR => ?_)
        exact hp_iretP hX hlocks hr hR h dX11_clientAt_65
      · have h := hp_in c7 h
        rcases Decidable.em (x2 = 2) with c10 | c10
        · have h := hp_ip c10 h
          refine lv_tableIn (off := 52) (tgt := 66) hx hb dX11_clientAt_14 (by rw [c10]; decide) (by rw [c10]; decide) (by rw [c10]; decide) (by decide) ?_
          refine lv_aload_n hx hb dX11_clientAt_66 rfl (lv_at hl 1 rfl) ?_
          refine lv_iload_n hx hb dX11_clientAt_67 rfl (lv_at hl 2 rfl) ?_
          refine lv_iconst (v := 2) hx hb dX11_clientAt_68 (by decide) ?_
          refine hp_bn h (fun v12 h11 h => ?_)
          refine hp_ci hR (hp_runV (rest := []) (As := [.int x1, .int 2]) hX hR (c_Mo_of h11) cs_X11_90 rfl rfl rfl hd_Mo_of ⟨Nat.le_of_ble_eq_true rfl, Nat.le_of_ble_eq_true rfl⟩ (ci := 10) rfl (hp_own_is h11) rfl hl.1 rfl (Nat.le_of_ble_eq_true rfl) dX11_clientAt_69 ⟨Nat.le_of_ble_eq_true rfl, Nat.le_of_ble_eq_true rfl⟩) (fun H locs hR => ?_)
          exact hp_iretP hX hlocks hr hR h dX11_clientAt_72
        · have h := hp_in c10 h
          rcases Decidable.em (x2 = 3) with c13 | c13
          · have h := hp_ip c13 h
            refine lv_tableIn (off := 59) (tgt := 73) hx hb dX11_clientAt_14 (by rw [c13]; decide) (by rw [c13]; decide) (by rw [c13]; decide) (by decide) ?_
            refine lv_aload_n hx hb dX11_clientAt_73 rfl (lv_at hl 1 rfl) ?_
            refine lv_iload_n hx hb dX11_clientAt_74 rfl (lv_at hl 2 rfl) ?_
            refine lv_iconst (v := 4) hx hb dX11_clientAt_75 (by decide) ?_
            refine hp_bn h (fun v15 h14 h => ?_)
            refine hp_ci hR (hp_runV (rest := []) (As := [.int x1, .int 4]) hX hR (c_Mo_of h14) cs_X11_90 rfl rfl rfl hd_Mo_of ⟨Nat.le_of_ble_eq_true rfl, Nat.le_of_ble_eq_true rfl⟩ (ci := 10) rfl (hp_own_is h14) rfl hl.1 rfl (Nat.le_of_ble_eq_true rfl) dX11_clientAt_76 ⟨Nat.le_of_ble_eq_true rfl, Nat.le_of_ble_eq_true rfl⟩) (fun H locs hR => ?_)
            exact hp_iretP hX hlocks hr hR h dX11_clientAt_79
          · have h := hp_in c13 h
            rcases Decidable.em (x2 = 4) with c16 | c16
            · have h := hp_ip c16 h
              refine lv_tableIn (off := 66) (tgt := 80) hx hb dX11_clientAt_14 (by rw [c16]; decide) (by rw [c16]; decide) (by rw [c16]; decide) (by decide) ?_
              refine lv_aload_n hx hb dX11_clientAt_80 rfl (lv_at hl 1 rfl) ?_
              refine lv_iload_n hx hb dX11_clientAt_81 rfl (lv_at hl 2 rfl) ?_
              refine lv_iconst (v := 3) hx hb dX11_clientAt_82 (by decide) ?_
              refine hp_bn h (fun v18 h17 h => ?_)
              refine hp_ci hR (hp_runV (rest := []) (As := [.int x1, .int 3]) hX hR (c_Mo_of h17) cs_X11_90 rfl rfl rfl hd_Mo_of ⟨Nat.le_of_ble_eq_true rfl, Nat.le_of_ble_eq_true rfl⟩ (ci := 10) rfl (hp_own_is h17) rfl hl.1 rfl (Nat.le_of_ble_eq_true rfl) dX11_clientAt_83 ⟨Nat.le_of_ble_eq_true rfl, Nat.le_of_ble_eq_true rfl⟩) (fun H locs hR => ?_)
              exact hp_iretP hX hlocks hr hR h dX11_clientAt_86
            · have h := hp_in c16 h
              rcases Decidable.em (x2 = 5) with c19 | c19
              · have h := hp_ip c19 h
                refine lv_tableIn (off := 73) (tgt := 87) hx hb dX11_clientAt_14 (by rw [c19]; decide) (by rw [c19]; decide) (by rw [c19]; decide) (by decide) ?_
                refine lv_iconst (v := 0) hx hb dX11_clientAt_87 (by decide) ?_
                refine lv_istore (lv' := [(4, .int 0), (3, .int 0), (0, .ref a0), (1, .int x1), (2, .int x2)]) hx hb dX11_clientAt_88 hl (by decide) rfl (fun ls hl => ?_)
                refine w_Mo_clientAt_l1 hX hlocks hr ?_ hp_F _ _ _ _ _ hR h (lv_sub hl [2, 3, 1, 0] rfl)
                intro z26 z27 H locs ls hR hl h
                refine lv_iload_n hx hb dX11_clientAt_129 rfl (lv_at hl 0 rfl) ?_
                exact hp_iretP hX hlocks hr hR h dX11_clientAt_130
              · have h := hp_in c19 h
                refine lv_tableOut (tgt := 131) hx hb dX11_clientAt_14 (by have := lv_neT (a := 0) c4 rfl; have := lv_neT (a := 1) c7 rfl; have := lv_neT (a := 2) c10 rfl; have := lv_neT (a := 3) c13 rfl; have := lv_neT (a := 4) c16 rfl; have := lv_neT (a := 5) c19 rfl; omega) (by decide) ?_
                refine lv_ldc (v := (-1000000002)) hx hb hown (hts _ wq4_84) dX11_clientAt_131 ?_
                exact hp_iretP hX hlocks hr hR h dX11_clientAt_133
  · have h := hp_ip c3 h
    refine lv_ldc (v := (-1000000001)) hx hb hown (hts _ wq4_89) dX11_clientAt_8 ?_
    exact hp_iretP hX hlocks hr hR h dX11_clientAt_10
/-! Mo.log(II)I -/
abbrev rm_Mo_log : Room := { frames := 2, cells := 0, slots := 0, locals := 43 }
theorem hd_Mo_log : hp_d yX11_log 2 := by decide +kernel
def f_Mo_log (a0 : Nat) (x1 : Int32) (x2 : Int32) (σ : hp_H) : Option Int32 := hp_own σ a0 10 ((f_Mo_isClient a0 x1 σ).bind fun v2 => if v2 = 0 then (some (-1000000001)) else ((f_Mo_in x2 0 11).bind fun v5 => if v5 = 0 then (some (-1000000002)) else ((f_Mo_of a0 x1 2 σ).bind fun v8 => if v8 ≤ x2 then (some (-1)) else ((f_Mo_of a0 x1 ((5 : Int32) + x2) σ).bind fun v11 => some v11))))
set_option maxHeartbeats 4000000 in
set_option maxRecDepth 100000 in
theorem c_Mo_log {l : Launch} {G : hp_G} {b : Nat} {σ : hp_H} {a0 : Nat} {x1 : Int32} {x2 : Int32} {r : Int32} (h : f_Mo_log a0 x1 x2 σ = some r) : hp_Met l yX11_log cX11_log 3 (some .int) rm_Mo_log G b [.ref a0, .int x1, .int x2] σ (some (.int r)) σ 0 0 := by
  refine hp_met (by decide +kernel) (Nat.le_of_ble_eq_true rfl) (fun p e s m below meth c ls hX hlocks hr hnm hl hR => ?_)
  obtain ⟨hx, hb, hml, hown, hts⟩ := id hX.1
  have hl : lv_has ls 3 [(0, .ref a0), (1, .int x1), (2, .int x2)] := hl
  unfold f_Mo_log at h
  have h := hp_own_to h
  refine lv_aload_n hx hb dX11_log_0 rfl (lv_at hl 0 rfl) ?_
  refine lv_iload_n hx hb dX11_log_1 rfl (lv_at hl 1 rfl) ?_
  refine hp_bn h (fun v2 h1 h => ?_)
  refine hp_ci hR (hp_runV (rest := []) (As := [.int x1]) hX hR (c_Mo_isClient h1) cs_X11_163 rfl rfl rfl hd_Mo_isClient ⟨Nat.le_of_ble_eq_true rfl, Nat.le_of_ble_eq_true rfl⟩ (ci := 10) rfl (hp_own_is h1) rfl hl.1 rfl (Nat.le_of_ble_eq_true rfl) dX11_log_2 ⟨Nat.le_of_ble_eq_true rfl, Nat.le_of_ble_eq_true rfl⟩) (fun H locs hR => ?_)
  refine lv_if_ne (tgt := 11) hx hb dX11_log_5 (by decide) (fun c3 => ?_) (fun c3 => ?_)
  · have h := hp_in c3 h
    refine lv_iload_n hx hb dX11_log_11 rfl (lv_at hl 2 rfl) ?_
    refine lv_iconst (v := 0) hx hb dX11_log_12 (by decide) ?_
    refine lv_bipush (v := 11) hx hb dX11_log_13 (by decide) ?_
    refine hp_bn h (fun v5 h4 h => ?_)
    refine hp_ci hR (hp_runS (rest := []) (As := [.int x2, .int 0, .int 11]) hX hR (c_Mo_in h4) cs_X11_41 rfl rfl hd_Mo_in ⟨Nat.le_of_ble_eq_true rfl, Nat.le_of_ble_eq_true rfl⟩ rfl hl.1 rfl (Nat.le_of_ble_eq_true rfl) dX11_log_15 ⟨Nat.le_of_ble_eq_true rfl, Nat.le_of_ble_eq_true rfl⟩) (fun H locs hR => ?_)
    refine lv_if_ne (tgt := 26) hx hb dX11_log_18 (by decide) (fun c6 => ?_) (fun c6 => ?_)
    · have h := hp_in c6 h
      refine lv_iload_n hx hb dX11_log_26 rfl (lv_at hl 2 rfl) ?_
      refine lv_aload_n hx hb dX11_log_27 rfl (lv_at hl 0 rfl) ?_
      refine lv_iload_n hx hb dX11_log_28 rfl (lv_at hl 1 rfl) ?_
      refine lv_iconst (v := 2) hx hb dX11_log_29 (by decide) ?_
      refine hp_bn h (fun v8 h7 h => ?_)
      refine hp_ci hR (hp_runV (rest := [.int x2]) (As := [.int x1, .int 2]) hX hR (c_Mo_of h7) cs_X11_90 rfl rfl rfl hd_Mo_of ⟨Nat.le_of_ble_eq_true rfl, Nat.le_of_ble_eq_true rfl⟩ (ci := 10) rfl (hp_own_is h7) rfl hl.1 rfl (Nat.le_of_ble_eq_true rfl) dX11_log_30 ⟨Nat.le_of_ble_eq_true rfl, Nat.le_of_ble_eq_true rfl⟩) (fun H locs hR => ?_)
      refine lv_icmp_ge (tgt := 47) hx hb dX11_log_33 (by decide) (fun c9 => ?_) (fun c9 => ?_)
      · have h := hp_ip c9 h
        refine lv_iconst (v := (-1)) hx hb dX11_log_47 (by decide) ?_
        exact hp_iretP hX hlocks hr hR h dX11_log_48
      · have h := hp_in c9 h
        refine lv_aload_n hx hb dX11_log_36 rfl (lv_at hl 0 rfl) ?_
        refine lv_iload_n hx hb dX11_log_37 rfl (lv_at hl 1 rfl) ?_
        refine lv_iconst (v := 5) hx hb dX11_log_38 (by decide) ?_
        refine lv_iload_n hx hb dX11_log_39 rfl (lv_at hl 2 rfl) ?_
        refine lv_iadd hx hb dX11_log_40 ?_
        refine hp_bn h (fun v11 h10 h => ?_)
        refine hp_ci hR (hp_runV (rest := []) (As := [.int x1, .int ((5 : Int32) + x2)]) hX hR (c_Mo_of h10) cs_X11_90 rfl rfl rfl hd_Mo_of ⟨Nat.le_of_ble_eq_true rfl, Nat.le_of_ble_eq_true rfl⟩ (ci := 10) rfl (hp_own_is h10) rfl hl.1 rfl (Nat.le_of_ble_eq_true rfl) dX11_log_41 ⟨Nat.le_of_ble_eq_true rfl, Nat.le_of_ble_eq_true rfl⟩) (fun H locs hR => ?_)
        refine lv_goto (tgt := 48) hx hb dX11_log_44 (by decide) ?_
        exact hp_iretP hX hlocks hr hR h dX11_log_48
    · have h := hp_ip c6 h
      refine lv_ldc (v := (-1000000002)) hx hb hown (hts _ wq4_84) dX11_log_21 ?_
      refine lv_goto (tgt := 48) hx hb dX11_log_23 (by decide) ?_
      exact hp_iretP hX hlocks hr hR h dX11_log_48
  · have h := hp_ip c3 h
    refine lv_ldc (v := (-1000000001)) hx hb hown (hts _ wq4_89) dX11_log_8 ?_
    exact hp_iretP hX hlocks hr hR h dX11_log_10
/-! Mo.takesWish(II)V -/
abbrev rm_Mo_takesWish : Room := { frames := 1, cells := 0, slots := 0, locals := 22 }
theorem hd_Mo_takesWish : hp_d yX11_takesWish 2 := by decide +kernel
def f_Mo_takesWish_l1 (a0 : Nat) (x1 : Int32) (x2 : Int32) (K : Int32 → hp_H → Option hp_H) : Nat → Int32 → hp_H → Option hp_H
  | 0, _, _ => none
  | n + 1, x3, σ => if (6 : Int32) ≤ x3 then (K x3 σ) else ((hp_gR σ a0 10 12).bind fun q2 => (f_Mo_wish a0 x2 ((1 : Int32) + x3) σ).bind fun v4 => (hp_sI σ q2 0 (((6 : Int32) * x1) + x3) v4).bind fun σ => f_Mo_takesWish_l1 a0 x1 x2 K n (x3 + 1) σ)
def f_Mo_takesWish (a0 : Nat) (x1 : Int32) (x2 : Int32) (σ : hp_H) : Option hp_H := hp_own σ a0 10 (f_Mo_takesWish_l1 a0 x1 x2 (fun z5 σ => some σ) hp_F 0 σ)
set_option maxHeartbeats 4000000 in
set_option maxRecDepth 100000 in
theorem w_Mo_takesWish_l1 {p : Program} {l : Launch} {e : Env} {s : State} {m : MethodId} {args : Array Value} {below : List Frame} {meth : Method} {c : Code} {G : hp_G} {b : Nat} {a0 : Nat} {x1 : Int32} {x2 : Int32} {σ' : hp_H} {K : Int32 → hp_H → Option hp_H} (hX : hp_X G p s m c args cX11_takesWish 4 RX11) (hlocks : meth.locks = false) (hr : meth.sig.returnType = none)
    (hK : ∀ (x3 : Int32) (σ : hp_H) (H : Heap) (locs : List Loc) (ls : Array Slot), hp_R G b s.heap σ H locs → lv_has ls 4 [] → K x3 σ = some σ' → W p l e rm_Mo_takesWish s m args below meth c H locs 0 0 (MQ below (hp_Qc G b none σ') args s 0 0 (fun q => b ≤ q)) (F0 m 33 ls [])) :
    ∀ (n : Nat) (x3 : Int32) (σ : hp_H) (H : Heap) (locs : List Loc) (ls : Array Slot), hp_R G b s.heap σ H locs → f_Mo_takesWish_l1 a0 x1 x2 K n x3 σ = some σ' → lv_has ls 4 [(0, .ref a0), (1, .int x1), (2, .int x2), (3, .int x3)] → W p l e rm_Mo_takesWish s m args below meth c H locs 0 0 (MQ below (hp_Qc G b none σ') args s 0 0 (fun q => b ≤ q)) (F0 m 2 ls []) := by
  obtain ⟨hx, hb, hml, hown, hts⟩ := id hX.1
  intro n
  induction n with
  | zero =>
    intro x3 σ H locs ls hR h hl
    rw [f_Mo_takesWish_l1] at h
    cases h
  | succ n ih =>
    intro x3 σ H locs ls hR h hl
    rw [f_Mo_takesWish_l1] at h
    refine lv_iload_n hx hb dX11_takesWish_2 rfl (lv_at hl 3 rfl) ?_
    refine lv_bipush (v := 6) hx hb dX11_takesWish_3 (by decide) ?_
    refine lv_icmp_ge (tgt := 33) hx hb dX11_takesWish_5 (by decide) (fun c1 => ?_) (fun c1 => ?_)
    · have h := hp_ip c1 h
      exact hK _ _ _ _ _ hR (lv_sub hl [] rfl) h
    · have h := hp_in c1 h
      refine lv_aload_n hx hb dX11_takesWish_8 rfl (lv_at hl 0 rfl) ?_
      refine hp_getR hX hR (ci := 10) 12 rfl wf11 (by decide) wq3_179 dX11_takesWish_9 h (fun q2 h => ?_)
      refine lv_bipush (v := 6) hx hb dX11_takesWish_12 (by decide) ?_
      refine lv_iload_n hx hb dX11_takesWish_14 rfl (lv_at hl 1 rfl) ?_
      refine lv_imul hx hb dX11_takesWish_15 ?_
      refine lv_iload_n hx hb dX11_takesWish_16 rfl (lv_at hl 3 rfl) ?_
      refine lv_iadd hx hb dX11_takesWish_17 ?_
      refine lv_aload_n hx hb dX11_takesWish_18 rfl (lv_at hl 0 rfl) ?_
      refine lv_iload_n hx hb dX11_takesWish_19 rfl (lv_at hl 2 rfl) ?_
      refine lv_iconst (v := 1) hx hb dX11_takesWish_20 (by decide) ?_
      refine lv_iload_n hx hb dX11_takesWish_21 rfl (lv_at hl 3 rfl) ?_
      refine lv_iadd hx hb dX11_takesWish_22 ?_
      refine hp_bn h (fun v4 h3 h => ?_)
      refine hp_ci hR (hp_runV (rest := [.int (((6 : Int32) * x1) + x3), .ref q2]) (As := [.int x2, .int ((1 : Int32) + x3)]) hX hR (c_Mo_wish h3) cs_X11_87 rfl rfl rfl hd_Mo_wish ⟨Nat.le_of_ble_eq_true rfl, Nat.le_of_ble_eq_true rfl⟩ (ci := 10) rfl (hp_own_is h3) rfl hl.1 rfl (Nat.le_of_ble_eq_true rfl) dX11_takesWish_23 ⟨Nat.le_of_ble_eq_true rfl, Nat.le_of_ble_eq_true rfl⟩) (fun H locs hR => ?_)
      refine hp_iast hX hR dX11_takesWish_26 h (fun σ H locs h hR => ?_)
      refine lv_iinc (v := (x3 + 1)) (lv' := [(3, .int (x3 + 1)), (0, .ref a0), (1, .int x1), (2, .int x2)]) hx hb dX11_takesWish_27 hl (k := 3) rfl rfl (by decide) rfl (fun ls hl => ?_)
      refine lv_goto (tgt := 2) hx hb dX11_takesWish_30 (by decide) ?_
      exact ih _ _ _ _ _ hR h (lv_sub hl [1, 2, 3, 0] rfl)
set_option maxHeartbeats 4000000 in
set_option maxRecDepth 100000 in
theorem c_Mo_takesWish {l : Launch} {G : hp_G} {b : Nat} {σ : hp_H} {a0 : Nat} {x1 : Int32} {x2 : Int32} {σ' : hp_H} (h : f_Mo_takesWish a0 x1 x2 σ = some σ') : hp_Met l yX11_takesWish cX11_takesWish 4 none rm_Mo_takesWish G b [.ref a0, .int x1, .int x2] σ none σ' 0 0 := by
  refine hp_met (by decide +kernel) (Nat.le_of_ble_eq_true rfl) (fun p e s m below meth c ls hX hlocks hr hnm hl hR => ?_)
  obtain ⟨hx, hb, hml, hown, hts⟩ := id hX.1
  have hl : lv_has ls 4 [(0, .ref a0), (1, .int x1), (2, .int x2)] := hl
  unfold f_Mo_takesWish at h
  have h := hp_own_to h
  refine lv_iconst (v := 0) hx hb dX11_takesWish_0 (by decide) ?_
  refine lv_istore_n (lv' := [(3, .int 0), (0, .ref a0), (1, .int x1), (2, .int x2)]) hx hb dX11_takesWish_1 rfl hl (by decide) rfl (fun ls hl => ?_)
  refine w_Mo_takesWish_l1 hX hlocks hr ?_ hp_F _ _ _ _ _ hR h (lv_sub hl [1, 2, 3, 0] rfl)
  intro z5 σ H locs ls hR hl h
  exact hp_vret hX hlocks hr hR h dX11_takesWish_33
theorem cs_X11_181 : hp_WV RX11 181 RX11 yX11_takesWish cX11_takesWish 4 none := ⟨wq4_106, wq4_108, wp2_15, wq1_11, wq4_109⟩
/-! Mo.covered(I)I -/
abbrev rm_Mo_covered : Room := { frames := 2, cells := 0, slots := 0, locals := 46 }
theorem hd_Mo_covered : hp_d yX11_covered 1 := by decide +kernel
def f_Mo_covered_l1 (a0 : Nat) (x1 : Int32) (K : Int32 → Int32 → hp_H → Option (Int32 × hp_H)) : Nat → Int32 → Int32 → hp_H → Option (Int32 × hp_H)
  | 0, _, _, _ => none
  | n + 1, x2, x3, σ => (hp_gR σ a0 10 0).bind fun q2 => (hp_aI σ q2 0 2).bind fun v3 => if v3 ≤ x3 then (K x2 x3 σ) else ((f_Mo_takesWish a0 1 x3 σ).bind fun σ => if x3 = x1 then (f_Mo_covered_l1 a0 x1 K n (x2 ||| 0) (x3 + 1) σ) else ((f_Mo_covers a0 0 1 σ).bind fun v8 => if v8 = 0 then (f_Mo_covered_l1 a0 x1 K n (x2 ||| 0) (x3 + 1) σ) else (f_Mo_covered_l1 a0 x1 K n (x2 ||| ((1 : Int32) <<< (x3 &&& 31))) (x3 + 1) σ)))
def f_Mo_covered (a0 : Nat) (x1 : Int32) (σ : hp_H) : Option (Int32 × hp_H) := hp_own σ a0 10 ((f_Mo_takesWish a0 0 x1 σ).bind fun σ => f_Mo_covered_l1 a0 x1 (fun z10 z11 σ => some (z10, σ)) hp_F 0 0 σ)
set_option maxHeartbeats 4000000 in
set_option maxRecDepth 100000 in
theorem w_Mo_covered_l1 {p : Program} {l : Launch} {e : Env} {s : State} {m : MethodId} {args : Array Value} {below : List Frame} {meth : Method} {c : Code} {G : hp_G} {b : Nat} {a0 : Nat} {x1 : Int32} {r : Int32} {σ' : hp_H} {K : Int32 → Int32 → hp_H → Option (Int32 × hp_H)} (hX : hp_X G p s m c args cX11_covered 4 RX11) (hlocks : meth.locks = false) (hr : meth.sig.returnType = (some .int))
    (hK : ∀ (x2 : Int32) (x3 : Int32) (σ : hp_H) (H : Heap) (locs : List Loc) (ls : Array Slot), hp_R G b s.heap σ H locs → lv_has ls 4 [(2, .int x2)] → K x2 x3 σ = some (r, σ') → W p l e rm_Mo_covered s m args below meth c H locs 0 0 (MQ below (hp_Qc G b (some (.int r)) σ') args s 0 0 (fun q => b ≤ q)) (F0 m 56 ls [])) :
    ∀ (n : Nat) (x2 : Int32) (x3 : Int32) (σ : hp_H) (H : Heap) (locs : List Loc) (ls : Array Slot), hp_R G b s.heap σ H locs → f_Mo_covered_l1 a0 x1 K n x2 x3 σ = some (r, σ') → lv_has ls 4 [(0, .ref a0), (1, .int x1), (2, .int x2), (3, .int x3)] → W p l e rm_Mo_covered s m args below meth c H locs 0 0 (MQ below (hp_Qc G b (some (.int r)) σ') args s 0 0 (fun q => b ≤ q)) (F0 m 10 ls []) := by
  obtain ⟨hx, hb, hml, hown, hts⟩ := id hX.1
  intro n
  induction n with
  | zero =>
    intro x2 x3 σ H locs ls hR h hl
    rw [f_Mo_covered_l1] at h
    cases h
  | succ n ih =>
    intro x2 x3 σ H locs ls hR h hl
    rw [f_Mo_covered_l1] at h
    refine lv_iload_n hx hb dX11_covered_10 rfl (lv_at hl 3 rfl) ?_
    refine lv_aload_n hx hb dX11_covered_11 rfl (lv_at hl 0 rfl) ?_
    refine hp_getR hX hR (ci := 10) 0 rfl wf11 (by decide) wq3_167 dX11_covered_12 h (fun q2 h => ?_)
    refine lv_iconst (v := 2) hx hb dX11_covered_15 (by decide) ?_
    refine hp_iald hX hR dX11_covered_16 h (fun v3 h => ?_)
    refine lv_icmp_ge (tgt := 56) hx hb dX11_covered_17 (by decide) (fun c4 => ?_) (fun c4 => ?_)
    · have h := hp_ip c4 h
      exact hK _ _ _ _ _ _ hR (lv_sub hl [2] rfl) h
    · have h := hp_in c4 h
      refine lv_aload_n hx hb dX11_covered_20 rfl (lv_at hl 0 rfl) ?_
      refine lv_iconst (v := 1) hx hb dX11_covered_21 (by decide) ?_
      refine lv_iload_n hx hb dX11_covered_22 rfl (lv_at hl 3 rfl) ?_
      refine hp_bn h (fun σ h5 h => ?_)
      refine hp_cv hR (hp_runV (rest := []) (As := [.int 1, .int x3]) hX hR (c_Mo_takesWish h5) cs_X11_181 rfl rfl rfl hd_Mo_takesWish ⟨Nat.le_of_ble_eq_true rfl, Nat.le_of_ble_eq_true rfl⟩ (ci := 10) rfl (hp_own_is h5) rfl hl.1 rfl (Nat.le_of_ble_eq_true rfl) dX11_covered_23 ⟨Nat.le_of_ble_eq_true rfl, Nat.le_of_ble_eq_true rfl⟩) (fun H locs hR => ?_)
      refine lv_iload_n hx hb dX11_covered_26 rfl (lv_at hl 2 rfl) ?_
      refine lv_iload_n hx hb dX11_covered_27 rfl (lv_at hl 3 rfl) ?_
      refine lv_iload_n hx hb dX11_covered_28 rfl (lv_at hl 1 rfl) ?_
      refine lv_icmp_eq (tgt := 47) hx hb dX11_covered_29 (by decide) (fun c6 => ?_) (fun c6 => ?_)
      · have h := hp_ip c6 h
        refine lv_iconst (v := 0) hx hb dX11_covered_47 (by decide) ?_
        refine lv_ior hx hb dX11_covered_48 ?_
        refine lv_istore_n (lv' := [(2, .int (x2 ||| 0)), (0, .ref a0), (1, .int x1), (3, .int x3)]) hx hb dX11_covered_49 rfl hl (by decide) rfl (fun ls hl => ?_)
        refine lv_iinc (v := (x3 + 1)) (lv' := [(3, .int (x3 + 1)), (2, .int (x2 ||| 0)), (0, .ref a0), (1, .int x1)]) hx hb dX11_covered_50 hl (k := 3) rfl rfl (by decide) rfl (fun ls hl => ?_)
        refine lv_goto (tgt := 10) hx hb dX11_covered_53 (by decide) ?_
        exact ih _ _ _ _ _ _ hR h (lv_sub hl [2, 3, 1, 0] rfl)
      · have h := hp_in c6 h
        refine lv_aload_n hx hb dX11_covered_32 rfl (lv_at hl 0 rfl) ?_
        refine lv_iconst (v := 0) hx hb dX11_covered_33 (by decide) ?_
        refine lv_iconst (v := 1) hx hb dX11_covered_34 (by decide) ?_
        refine hp_bn h (fun v8 h7 h => ?_)
        refine hp_ci hR (hp_runV (rest := [.int x2]) (As := [.int 0, .int 1]) hX hR (c_Mo_covers h7) cs_X11_67 rfl rfl rfl hd_Mo_covers ⟨Nat.le_of_ble_eq_true rfl, Nat.le_of_ble_eq_true rfl⟩ (ci := 10) rfl (hp_own_is h7) rfl hl.1 rfl (Nat.le_of_ble_eq_true rfl) dX11_covered_35 ⟨Nat.le_of_ble_eq_true rfl, Nat.le_of_ble_eq_true rfl⟩) (fun H locs hR => ?_)
        refine lv_if_eq (tgt := 47) hx hb dX11_covered_38 (by decide) (fun c9 => ?_) (fun c9 => ?_)
        · have h := hp_ip c9 h
          refine lv_iconst (v := 0) hx hb dX11_covered_47 (by decide) ?_
          refine lv_ior hx hb dX11_covered_48 ?_
          refine lv_istore_n (lv' := [(2, .int (x2 ||| 0)), (0, .ref a0), (1, .int x1), (3, .int x3)]) hx hb dX11_covered_49 rfl hl (by decide) rfl (fun ls hl => ?_)
          refine lv_iinc (v := (x3 + 1)) (lv' := [(3, .int (x3 + 1)), (2, .int (x2 ||| 0)), (0, .ref a0), (1, .int x1)]) hx hb dX11_covered_50 hl (k := 3) rfl rfl (by decide) rfl (fun ls hl => ?_)
          refine lv_goto (tgt := 10) hx hb dX11_covered_53 (by decide) ?_
          exact ih _ _ _ _ _ _ hR h (lv_sub hl [2, 3, 1, 0] rfl)
        · have h := hp_in c9 h
          refine lv_iconst (v := 1) hx hb dX11_covered_41 (by decide) ?_
          refine lv_iload_n hx hb dX11_covered_42 rfl (lv_at hl 3 rfl) ?_
          refine lv_ishl hx hb dX11_covered_43 ?_
          refine lv_goto (tgt := 48) hx hb dX11_covered_44 (by decide) ?_
          refine lv_ior hx hb dX11_covered_48 ?_
          refine lv_istore_n (lv' := [(2, .int (x2 ||| ((1 : Int32) <<< (x3 &&& 31)))), (0, .ref a0), (1, .int x1), (3, .int x3)]) hx hb dX11_covered_49 rfl hl (by decide) rfl (fun ls hl => ?_)
          refine lv_iinc (v := (x3 + 1)) (lv' := [(3, .int (x3 + 1)), (2, .int (x2 ||| ((1 : Int32) <<< (x3 &&& 31)))), (0, .ref a0), (1, .int x1)]) hx hb dX11_covered_50 hl (k := 3) rfl rfl (by decide) rfl (fun ls hl => ?_)
          refine lv_goto (tgt := 10) hx hb dX11_covered_53 (by decide) ?_
          exact ih _ _ _ _ _ _ hR h (lv_sub hl [2, 3, 1, 0] rfl)
set_option maxHeartbeats 4000000 in
set_option maxRecDepth 100000 in
theorem c_Mo_covered {l : Launch} {G : hp_G} {b : Nat} {σ : hp_H} {a0 : Nat} {x1 : Int32} {r : Int32} {σ' : hp_H} (h : f_Mo_covered a0 x1 σ = some (r, σ')) : hp_Met l yX11_covered cX11_covered 4 (some .int) rm_Mo_covered G b [.ref a0, .int x1] σ (some (.int r)) σ' 0 0 := by
  refine hp_met (by decide +kernel) (Nat.le_of_ble_eq_true rfl) (fun p e s m below meth c ls hX hlocks hr hnm hl hR => ?_)
  obtain ⟨hx, hb, hml, hown, hts⟩ := id hX.1
  have hl : lv_has ls 4 [(0, .ref a0), (1, .int x1)] := hl
  unfold f_Mo_covered at h
  have h := hp_own_to h
  refine lv_iconst (v := 0) hx hb dX11_covered_0 (by decide) ?_
  refine lv_istore_n (lv' := [(2, .int 0), (0, .ref a0), (1, .int x1)]) hx hb dX11_covered_1 rfl hl (by decide) rfl (fun ls hl => ?_)
  refine lv_aload_n hx hb dX11_covered_2 rfl (lv_at hl 1 rfl) ?_
  refine lv_iconst (v := 0) hx hb dX11_covered_3 (by decide) ?_
  refine lv_iload_n hx hb dX11_covered_4 rfl (lv_at hl 2 rfl) ?_
  refine hp_bn h (fun σ h1 h => ?_)
  refine hp_cv hR (hp_runV (rest := []) (As := [.int 0, .int x1]) hX hR (c_Mo_takesWish h1) cs_X11_181 rfl rfl rfl hd_Mo_takesWish ⟨Nat.le_of_ble_eq_true rfl, Nat.le_of_ble_eq_true rfl⟩ (ci := 10) rfl (hp_own_is h1) rfl hl.1 rfl (Nat.le_of_ble_eq_true rfl) dX11_covered_5 ⟨Nat.le_of_ble_eq_true rfl, Nat.le_of_ble_eq_true rfl⟩) (fun H locs hR => ?_)
  refine lv_iconst (v := 0) hx hb dX11_covered_8 (by decide) ?_
  refine lv_istore_n (lv' := [(3, .int 0), (2, .int 0), (0, .ref a0), (1, .int x1)]) hx hb dX11_covered_9 rfl hl (by decide) rfl (fun ls hl => ?_)
  refine w_Mo_covered_l1 hX hlocks hr ?_ hp_F _ _ _ _ _ _ hR h (lv_sub hl [2, 3, 1, 0] rfl)
  intro z10 z11 σ H locs ls hR hl h
  refine lv_iload_n hx hb dX11_covered_56 rfl (lv_at hl 0 rfl) ?_
  exact hp_iret hX hlocks hr hR h dX11_covered_57
theorem cs_X11_184 : hp_WV RX11 184 RX11 yX11_isWish cX11_isWish 2 (some .boolean) := ⟨wq4_102, wq4_104, wp2_14, wq1_11, wq4_105⟩
theorem cs_X11_187 : hp_WV RX11 187 RX11 yX11_covered cX11_covered 4 (some .int) := ⟨wq4_110, wq4_112, wp3_0, wq1_11, wq4_113⟩
/-! Mo.wishAt(II)I -/
abbrev rm_Mo_wishAt : Room := { frames := 3, cells := 0, slots := 0, locals := 69 }
theorem hd_Mo_wishAt : hp_d yX11_wishAt 2 := by decide +kernel
def f_Mo_wishAt (a0 : Nat) (x1 : Int32) (x2 : Int32) (σ : hp_H) : Option (Int32 × hp_H) := hp_own σ a0 10 ((f_Mo_isWish a0 x1 σ).bind fun v2 => if v2 = 0 then (some ((-1000000001), σ)) else ((f_Mo_in x2 0 8).bind fun v5 => if v5 = 0 then (some ((-1000000002), σ)) else ((f_Mo_takesWish a0 0 x1 σ).bind fun σ => if (7 : Int32) ≤ x2 then (if x2 = 7 then ((f_Mo_sizeOf a0 0 σ).bind fun v13 => some (v13, σ)) else (hp_b (f_Mo_covered a0 x1 σ) fun v11 σ => some (v11, σ))) else ((f_Mo_wish a0 x1 x2 σ).bind fun v15 => some (v15, σ)))))
set_option maxHeartbeats 4000000 in
set_option maxRecDepth 100000 in
theorem c_Mo_wishAt {l : Launch} {G : hp_G} {b : Nat} {σ : hp_H} {a0 : Nat} {x1 : Int32} {x2 : Int32} {r : Int32} {σ' : hp_H} (h : f_Mo_wishAt a0 x1 x2 σ = some (r, σ')) : hp_Met l yX11_wishAt cX11_wishAt 3 (some .int) rm_Mo_wishAt G b [.ref a0, .int x1, .int x2] σ (some (.int r)) σ' 0 0 := by
  refine hp_met (by decide +kernel) (Nat.le_of_ble_eq_true rfl) (fun p e s m below meth c ls hX hlocks hr hnm hl hR => ?_)
  obtain ⟨hx, hb, hml, hown, hts⟩ := id hX.1
  have hl : lv_has ls 3 [(0, .ref a0), (1, .int x1), (2, .int x2)] := hl
  unfold f_Mo_wishAt at h
  have h := hp_own_to h
  refine lv_aload_n hx hb dX11_wishAt_0 rfl (lv_at hl 0 rfl) ?_
  refine lv_iload_n hx hb dX11_wishAt_1 rfl (lv_at hl 1 rfl) ?_
  refine hp_bn h (fun v2 h1 h => ?_)
  refine hp_ci hR (hp_runV (rest := []) (As := [.int x1]) hX hR (c_Mo_isWish h1) cs_X11_184 rfl rfl rfl hd_Mo_isWish ⟨Nat.le_of_ble_eq_true rfl, Nat.le_of_ble_eq_true rfl⟩ (ci := 10) rfl (hp_own_is h1) rfl hl.1 rfl (Nat.le_of_ble_eq_true rfl) dX11_wishAt_2 ⟨Nat.le_of_ble_eq_true rfl, Nat.le_of_ble_eq_true rfl⟩) (fun H locs hR => ?_)
  refine lv_if_ne (tgt := 11) hx hb dX11_wishAt_5 (by decide) (fun c3 => ?_) (fun c3 => ?_)
  · have h := hp_in c3 h
    refine lv_iload_n hx hb dX11_wishAt_11 rfl (lv_at hl 2 rfl) ?_
    refine lv_iconst (v := 0) hx hb dX11_wishAt_12 (by decide) ?_
    refine lv_bipush (v := 8) hx hb dX11_wishAt_13 (by decide) ?_
    refine hp_bn h (fun v5 h4 h => ?_)
    refine hp_ci hR (hp_runS (rest := []) (As := [.int x2, .int 0, .int 8]) hX hR (c_Mo_in h4) cs_X11_41 rfl rfl hd_Mo_in ⟨Nat.le_of_ble_eq_true rfl, Nat.le_of_ble_eq_true rfl⟩ rfl hl.1 rfl (Nat.le_of_ble_eq_true rfl) dX11_wishAt_15 ⟨Nat.le_of_ble_eq_true rfl, Nat.le_of_ble_eq_true rfl⟩) (fun H locs hR => ?_)
    refine lv_if_ne (tgt := 24) hx hb dX11_wishAt_18 (by decide) (fun c6 => ?_) (fun c6 => ?_)
    · have h := hp_in c6 h
      refine lv_aload_n hx hb dX11_wishAt_24 rfl (lv_at hl 0 rfl) ?_
      refine lv_iconst (v := 0) hx hb dX11_wishAt_25 (by decide) ?_
      refine lv_iload_n hx hb dX11_wishAt_26 rfl (lv_at hl 1 rfl) ?_
      refine hp_bn h (fun σ h7 h => ?_)
      refine hp_cv hR (hp_runV (rest := []) (As := [.int 0, .int x1]) hX hR (c_Mo_takesWish h7) cs_X11_181 rfl rfl rfl hd_Mo_takesWish ⟨Nat.le_of_ble_eq_true rfl, Nat.le_of_ble_eq_true rfl⟩ (ci := 10) rfl (hp_own_is h7) rfl hl.1 rfl (Nat.le_of_ble_eq_true rfl) dX11_wishAt_27 ⟨Nat.le_of_ble_eq_true rfl, Nat.le_of_ble_eq_true rfl⟩) (fun H locs hR => ?_)
      refine lv_iload_n hx hb dX11_wishAt_30 rfl (lv_at hl 2 rfl) ?_
      refine lv_bipush (v := 7) hx hb dX11_wishAt_31 (by decide) ?_
      refine lv_icmp_ge (tgt := 45) hx hb dX11_wishAt_33 (by decide) (fun c8 => ?_) (fun c8 => ?_)
      · have h := hp_ip c8 h
        refine lv_iload_n hx hb dX11_wishAt_45 rfl (lv_at hl 2 rfl) ?_
        refine lv_bipush (v := 7) hx hb dX11_wishAt_46 (by decide) ?_
        refine lv_icmp_ne (tgt := 59) hx hb dX11_wishAt_48 (by decide) (fun c9 => ?_) (fun c9 => ?_)
        · have h := hp_in c9 h
          refine lv_aload_n hx hb dX11_wishAt_59 rfl (lv_at hl 0 rfl) ?_
          refine lv_iload_n hx hb dX11_wishAt_60 rfl (lv_at hl 1 rfl) ?_
          refine hp_b2 h (fun v11 σ h10 h => ?_)
          refine hp_ci hR (hp_runV (rest := []) (As := [.int x1]) hX hR (c_Mo_covered h10) cs_X11_187 rfl rfl rfl hd_Mo_covered ⟨Nat.le_of_ble_eq_true rfl, Nat.le_of_ble_eq_true rfl⟩ (ci := 10) rfl (hp_own_is h10) rfl hl.1 rfl (Nat.le_of_ble_eq_true rfl) dX11_wishAt_61 ⟨Nat.le_of_ble_eq_true rfl, Nat.le_of_ble_eq_true rfl⟩) (fun H locs hR => ?_)
          exact hp_iret hX hlocks hr hR h dX11_wishAt_64
        · have h := hp_ip c9 h
          refine lv_aload_n hx hb dX11_wishAt_51 rfl (lv_at hl 0 rfl) ?_
          refine lv_iconst (v := 0) hx hb dX11_wishAt_52 (by decide) ?_
          refine hp_bn h (fun v13 h12 h => ?_)
          refine hp_ci hR (hp_runV (rest := []) (As := [.int 0]) hX hR (c_Mo_sizeOf h12) cs_X11_74 rfl rfl rfl hd_Mo_sizeOf ⟨Nat.le_of_ble_eq_true rfl, Nat.le_of_ble_eq_true rfl⟩ (ci := 10) rfl (hp_own_is h12) rfl hl.1 rfl (Nat.le_of_ble_eq_true rfl) dX11_wishAt_53 ⟨Nat.le_of_ble_eq_true rfl, Nat.le_of_ble_eq_true rfl⟩) (fun H locs hR => ?_)
          refine lv_goto (tgt := 64) hx hb dX11_wishAt_56 (by decide) ?_
          exact hp_iret hX hlocks hr hR h dX11_wishAt_64
      · have h := hp_in c8 h
        refine lv_aload_n hx hb dX11_wishAt_36 rfl (lv_at hl 0 rfl) ?_
        refine lv_iload_n hx hb dX11_wishAt_37 rfl (lv_at hl 1 rfl) ?_
        refine lv_iload_n hx hb dX11_wishAt_38 rfl (lv_at hl 2 rfl) ?_
        refine hp_bn h (fun v15 h14 h => ?_)
        refine hp_ci hR (hp_runV (rest := []) (As := [.int x1, .int x2]) hX hR (c_Mo_wish h14) cs_X11_87 rfl rfl rfl hd_Mo_wish ⟨Nat.le_of_ble_eq_true rfl, Nat.le_of_ble_eq_true rfl⟩ (ci := 10) rfl (hp_own_is h14) rfl hl.1 rfl (Nat.le_of_ble_eq_true rfl) dX11_wishAt_39 ⟨Nat.le_of_ble_eq_true rfl, Nat.le_of_ble_eq_true rfl⟩) (fun H locs hR => ?_)
        refine lv_goto (tgt := 64) hx hb dX11_wishAt_42 (by decide) ?_
        exact hp_iret hX hlocks hr hR h dX11_wishAt_64
    · have h := hp_ip c6 h
      refine lv_ldc (v := (-1000000002)) hx hb hown (hts _ wq4_84) dX11_wishAt_21 ?_
      exact hp_iret hX hlocks hr hR h dX11_wishAt_23
  · have h := hp_ip c3 h
    refine lv_ldc (v := (-1000000001)) hx hb hown (hts _ wq4_89) dX11_wishAt_8 ?_
    exact hp_iret hX hlocks hr hR h dX11_wishAt_10
/-! Mo.toldOn(II)I -/
abbrev rm_Mo_toldOn : Room := { frames := 7, cells := 0, slots := 0, locals := 164 }
theorem hd_Mo_toldOn : hp_d yX11_toldOn 2 := by decide +kernel
def f_Mo_toldOn (a0 : Nat) (x1 : Int32) (x2 : Int32) (σ : hp_H) : Option (Int32 × hp_H) := hp_own σ a0 10 ((f_Mo_areNeighbours a0 x1 x2 σ).bind fun v2 => if v2 = 0 then (some ((-1000000001), σ)) else ((f_Mo_lays a0 σ).bind fun σ => (hp_gR σ a0 10 9).bind fun q5 => (f_Mo_linkOf a0 x1 x2 σ).bind fun v7 => (hp_aI σ q5 0 v7).bind fun v8 => some (v8, σ)))
set_option maxHeartbeats 4000000 in
set_option maxRecDepth 100000 in
theorem c_Mo_toldOn {l : Launch} {G : hp_G} {b : Nat} {σ : hp_H} {a0 : Nat} {x1 : Int32} {x2 : Int32} {r : Int32} {σ' : hp_H} (h : f_Mo_toldOn a0 x1 x2 σ = some (r, σ')) : hp_Met l yX11_toldOn cX11_toldOn 3 (some .int) rm_Mo_toldOn G b [.ref a0, .int x1, .int x2] σ (some (.int r)) σ' 0 0 := by
  refine hp_met (by decide +kernel) (Nat.le_of_ble_eq_true rfl) (fun p e s m below meth c ls hX hlocks hr hnm hl hR => ?_)
  obtain ⟨hx, hb, hml, hown, hts⟩ := id hX.1
  have hl : lv_has ls 3 [(0, .ref a0), (1, .int x1), (2, .int x2)] := hl
  unfold f_Mo_toldOn at h
  have h := hp_own_to h
  refine lv_aload_n hx hb dX11_toldOn_0 rfl (lv_at hl 0 rfl) ?_
  refine lv_iload_n hx hb dX11_toldOn_1 rfl (lv_at hl 1 rfl) ?_
  refine lv_iload_n hx hb dX11_toldOn_2 rfl (lv_at hl 2 rfl) ?_
  refine hp_bn h (fun v2 h1 h => ?_)
  refine hp_ci hR (hp_runV (rest := []) (As := [.int x1, .int x2]) hX hR (c_Mo_areNeighbours h1) cs_X11_97 rfl rfl rfl hd_Mo_areNeighbours ⟨Nat.le_of_ble_eq_true rfl, Nat.le_of_ble_eq_true rfl⟩ (ci := 10) rfl (hp_own_is h1) rfl hl.1 rfl (Nat.le_of_ble_eq_true rfl) dX11_toldOn_3 ⟨Nat.le_of_ble_eq_true rfl, Nat.le_of_ble_eq_true rfl⟩) (fun H locs hR => ?_)
  refine lv_if_ne (tgt := 12) hx hb dX11_toldOn_6 (by decide) (fun c3 => ?_) (fun c3 => ?_)
  · have h := hp_in c3 h
    refine lv_aload_n hx hb dX11_toldOn_12 rfl (lv_at hl 0 rfl) ?_
    refine hp_bn h (fun σ h4 h => ?_)
    refine hp_cv hR (hp_runV (rest := []) (As := []) hX hR (c_Mo_lays h4) cs_X11_120 rfl rfl rfl hd_Mo_lays ⟨Nat.le_of_ble_eq_true rfl, Nat.le_of_ble_eq_true rfl⟩ (ci := 10) rfl (hp_own_is h4) rfl hl.1 rfl (Nat.le_of_ble_eq_true rfl) dX11_toldOn_13 ⟨Nat.le_of_ble_eq_true rfl, Nat.le_of_ble_eq_true rfl⟩) (fun H locs hR => ?_)
    refine lv_aload_n hx hb dX11_toldOn_16 rfl (lv_at hl 0 rfl) ?_
    refine hp_getR hX hR (ci := 10) 9 rfl wf11 (by decide) wq3_176 dX11_toldOn_17 h (fun q5 h => ?_)
    refine lv_aload_n hx hb dX11_toldOn_20 rfl (lv_at hl 0 rfl) ?_
    refine lv_iload_n hx hb dX11_toldOn_21 rfl (lv_at hl 1 rfl) ?_
    refine lv_iload_n hx hb dX11_toldOn_22 rfl (lv_at hl 2 rfl) ?_
    refine hp_bn h (fun v7 h6 h => ?_)
    refine hp_ci hR (hp_runV (rest := [.ref q5]) (As := [.int x1, .int x2]) hX hR (c_Mo_linkOf h6) cs_X11_100 rfl rfl rfl hd_Mo_linkOf ⟨Nat.le_of_ble_eq_true rfl, Nat.le_of_ble_eq_true rfl⟩ (ci := 10) rfl (hp_own_is h6) rfl hl.1 rfl (Nat.le_of_ble_eq_true rfl) dX11_toldOn_23 ⟨Nat.le_of_ble_eq_true rfl, Nat.le_of_ble_eq_true rfl⟩) (fun H locs hR => ?_)
    refine hp_iald hX hR dX11_toldOn_26 h (fun v8 h => ?_)
    exact hp_iret hX hlocks hr hR h dX11_toldOn_27
  · have h := hp_ip c3 h
    refine lv_ldc (v := (-1000000001)) hx hb hown (hts _ wq4_89) dX11_toldOn_9 ?_
    exact hp_iret hX hlocks hr hR h dX11_toldOn_11
/-! Mo.isWishBox()Z -/
abbrev rm_Mo_isWishBox : Room := { frames := 2, cells := 0, slots := 0, locals := 46 }
theorem hd_Mo_isWishBox : hp_d yX11_isWishBox 0 := by decide +kernel
def f_Mo_isWishBox_l1 (a0 : Nat) (K : Int32 → Int32 → hp_H → Option (Int32 × hp_H)) : Nat → Int32 → Int32 → hp_H → Option (Int32 × hp_H)
  | 0, _, _, _ => none
  | n + 1, x1, x2, σ => (hp_gR σ a0 10 0).bind fun q1 => (hp_aI σ q1 0 2).bind fun v2 => if v2 ≤ x2 then (K x1 x2 σ) else ((f_Mo_takesWish a0 1 x2 σ).bind fun σ => if x1 = 0 then ((f_Mo_order a0 0 1 σ).bind fun v7 => if v7 = 0 then (f_Mo_isWishBox_l1 a0 K n 1 (x2 + 1) σ) else (f_Mo_isWishBox_l1 a0 K n 0 (x2 + 1) σ)) else (f_Mo_isWishBox_l1 a0 K n 1 (x2 + 1) σ))
def f_Mo_isWishBox (a0 : Nat) (σ : hp_H) : Option (Int32 × hp_H) := hp_own σ a0 10 (f_Mo_isWishBox_l1 a0 (fun z9 z10 σ => hp_z z9 (some (z9, σ))) hp_F 0 0 σ)
set_option maxHeartbeats 4000000 in
set_option maxRecDepth 100000 in
theorem w_Mo_isWishBox_l1 {p : Program} {l : Launch} {e : Env} {s : State} {m : MethodId} {args : Array Value} {below : List Frame} {meth : Method} {c : Code} {G : hp_G} {b : Nat} {a0 : Nat} {r : Int32} {σ' : hp_H} {K : Int32 → Int32 → hp_H → Option (Int32 × hp_H)} (hX : hp_X G p s m c args cX11_isWishBox 3 RX11) (hlocks : meth.locks = false) (hr : meth.sig.returnType = (some .boolean))
    (hK : ∀ (x1 : Int32) (x2 : Int32) (σ : hp_H) (H : Heap) (locs : List Loc) (ls : Array Slot), hp_R G b s.heap σ H locs → lv_has ls 3 [(1, .int x1)] → K x1 x2 σ = some (r, σ') → W p l e rm_Mo_isWishBox s m args below meth c H locs 0 0 (MQ below (hp_Qc G b (some (.int r)) σ') args s 0 0 (fun q => b ≤ q)) (F0 m 45 ls [])) :
    ∀ (n : Nat) (x1 : Int32) (x2 : Int32) (σ : hp_H) (H : Heap) (locs : List Loc) (ls : Array Slot), hp_R G b s.heap σ H locs → f_Mo_isWishBox_l1 a0 K n x1 x2 σ = some (r, σ') → lv_has ls 3 [(0, .ref a0), (1, .int x1), (2, .int x2)] → W p l e rm_Mo_isWishBox s m args below meth c H locs 0 0 (MQ below (hp_Qc G b (some (.int r)) σ') args s 0 0 (fun q => b ≤ q)) (F0 m 4 ls []) := by
  obtain ⟨hx, hb, hml, hown, hts⟩ := id hX.1
  intro n
  induction n with
  | zero =>
    intro x1 x2 σ H locs ls hR h hl
    rw [f_Mo_isWishBox_l1] at h
    cases h
  | succ n ih =>
    intro x1 x2 σ H locs ls hR h hl
    rw [f_Mo_isWishBox_l1] at h
    refine lv_iload_n hx hb dX11_isWishBox_4 rfl (lv_at hl 2 rfl) ?_
    refine lv_aload_n hx hb dX11_isWishBox_5 rfl (lv_at hl 0 rfl) ?_
    refine hp_getR hX hR (ci := 10) 0 rfl wf11 (by decide) wq3_167 dX11_isWishBox_6 h (fun q1 h => ?_)
    refine lv_iconst (v := 2) hx hb dX11_isWishBox_9 (by decide) ?_
    refine hp_iald hX hR dX11_isWishBox_10 h (fun v2 h => ?_)
    refine lv_icmp_ge (tgt := 45) hx hb dX11_isWishBox_11 (by decide) (fun c3 => ?_) (fun c3 => ?_)
    · have h := hp_ip c3 h
      exact hK _ _ _ _ _ _ hR (lv_sub hl [1] rfl) h
    · have h := hp_in c3 h
      refine lv_aload_n hx hb dX11_isWishBox_14 rfl (lv_at hl 0 rfl) ?_
      refine lv_iconst (v := 1) hx hb dX11_isWishBox_15 (by decide) ?_
      refine lv_iload_n hx hb dX11_isWishBox_16 rfl (lv_at hl 2 rfl) ?_
      refine hp_bn h (fun σ h4 h => ?_)
      refine hp_cv hR (hp_runV (rest := []) (As := [.int 1, .int x2]) hX hR (c_Mo_takesWish h4) cs_X11_181 rfl rfl rfl hd_Mo_takesWish ⟨Nat.le_of_ble_eq_true rfl, Nat.le_of_ble_eq_true rfl⟩ (ci := 10) rfl (hp_own_is h4) rfl hl.1 rfl (Nat.le_of_ble_eq_true rfl) dX11_isWishBox_17 ⟨Nat.le_of_ble_eq_true rfl, Nat.le_of_ble_eq_true rfl⟩) (fun H locs hR => ?_)
      refine lv_iload_n hx hb dX11_isWishBox_20 rfl (lv_at hl 1 rfl) ?_
      refine lv_if_ne (tgt := 33) hx hb dX11_isWishBox_21 (by decide) (fun c5 => ?_) (fun c5 => ?_)
      · have h := hp_in c5 h
        refine lv_iconst (v := 1) hx hb dX11_isWishBox_33 (by decide) ?_
        refine lv_goto (tgt := 38) hx hb dX11_isWishBox_34 (by decide) ?_
        refine lv_istore_n (lv' := [(1, .int 1), (0, .ref a0), (2, .int x2)]) hx hb dX11_isWishBox_38 rfl hl (by decide) rfl (fun ls hl => ?_)
        refine lv_iinc (v := (x2 + 1)) (lv' := [(2, .int (x2 + 1)), (1, .int 1), (0, .ref a0)]) hx hb dX11_isWishBox_39 hl (k := 2) rfl rfl (by decide) rfl (fun ls hl => ?_)
        refine lv_goto (tgt := 4) hx hb dX11_isWishBox_42 (by decide) ?_
        exact ih _ _ _ _ _ _ hR h (lv_sub hl [2, 1, 0] rfl)
      · have h := hp_ip c5 h
        refine lv_aload_n hx hb dX11_isWishBox_24 rfl (lv_at hl 0 rfl) ?_
        refine lv_iconst (v := 0) hx hb dX11_isWishBox_25 (by decide) ?_
        refine lv_iconst (v := 1) hx hb dX11_isWishBox_26 (by decide) ?_
        refine hp_bn h (fun v7 h6 h => ?_)
        refine hp_ci hR (hp_runV (rest := []) (As := [.int 0, .int 1]) hX hR (c_Mo_order h6) cs_X11_60 rfl rfl rfl hd_Mo_order ⟨Nat.le_of_ble_eq_true rfl, Nat.le_of_ble_eq_true rfl⟩ (ci := 10) rfl (hp_own_is h6) rfl hl.1 rfl (Nat.le_of_ble_eq_true rfl) dX11_isWishBox_27 ⟨Nat.le_of_ble_eq_true rfl, Nat.le_of_ble_eq_true rfl⟩) (fun H locs hR => ?_)
        refine lv_if_ne (tgt := 37) hx hb dX11_isWishBox_30 (by decide) (fun c8 => ?_) (fun c8 => ?_)
        · have h := hp_in c8 h
          refine lv_iconst (v := 0) hx hb dX11_isWishBox_37 (by decide) ?_
          refine lv_istore_n (lv' := [(1, .int 0), (0, .ref a0), (2, .int x2)]) hx hb dX11_isWishBox_38 rfl hl (by decide) rfl (fun ls hl => ?_)
          refine lv_iinc (v := (x2 + 1)) (lv' := [(2, .int (x2 + 1)), (1, .int 0), (0, .ref a0)]) hx hb dX11_isWishBox_39 hl (k := 2) rfl rfl (by decide) rfl (fun ls hl => ?_)
          refine lv_goto (tgt := 4) hx hb dX11_isWishBox_42 (by decide) ?_
          exact ih _ _ _ _ _ _ hR h (lv_sub hl [2, 1, 0] rfl)
        · have h := hp_ip c8 h
          refine lv_iconst (v := 1) hx hb dX11_isWishBox_33 (by decide) ?_
          refine lv_goto (tgt := 38) hx hb dX11_isWishBox_34 (by decide) ?_
          refine lv_istore_n (lv' := [(1, .int 1), (0, .ref a0), (2, .int x2)]) hx hb dX11_isWishBox_38 rfl hl (by decide) rfl (fun ls hl => ?_)
          refine lv_iinc (v := (x2 + 1)) (lv' := [(2, .int (x2 + 1)), (1, .int 1), (0, .ref a0)]) hx hb dX11_isWishBox_39 hl (k := 2) rfl rfl (by decide) rfl (fun ls hl => ?_)
          refine lv_goto (tgt := 4) hx hb dX11_isWishBox_42 (by decide) ?_
          exact ih _ _ _ _ _ _ hR h (lv_sub hl [2, 1, 0] rfl)
set_option maxHeartbeats 4000000 in
set_option maxRecDepth 100000 in
theorem c_Mo_isWishBox {l : Launch} {G : hp_G} {b : Nat} {σ : hp_H} {a0 : Nat} {r : Int32} {σ' : hp_H} (h : f_Mo_isWishBox a0 σ = some (r, σ')) : hp_Met l yX11_isWishBox cX11_isWishBox 3 (some .boolean) rm_Mo_isWishBox G b [.ref a0] σ (some (.int r)) σ' 0 0 := by
  refine hp_met (by decide +kernel) (Nat.le_of_ble_eq_true rfl) (fun p e s m below meth c ls hX hlocks hr hnm hl hR => ?_)
  obtain ⟨hx, hb, hml, hown, hts⟩ := id hX.1
  have hl : lv_has ls 3 [(0, .ref a0)] := hl
  unfold f_Mo_isWishBox at h
  have h := hp_own_to h
  refine lv_iconst (v := 0) hx hb dX11_isWishBox_0 (by decide) ?_
  refine lv_istore_n (lv' := [(1, .int 0), (0, .ref a0)]) hx hb dX11_isWishBox_1 rfl hl (by decide) rfl (fun ls hl => ?_)
  refine lv_iconst (v := 0) hx hb dX11_isWishBox_2 (by decide) ?_
  refine lv_istore_n (lv' := [(2, .int 0), (1, .int 0), (0, .ref a0)]) hx hb dX11_isWishBox_3 rfl hl (by decide) rfl (fun ls hl => ?_)
  refine w_Mo_isWishBox_l1 hX hlocks hr ?_ hp_F _ _ _ _ _ _ hR h (lv_sub hl [2, 1, 0] rfl)
  intro z9 z10 σ H locs ls hR hl h
  refine lv_iload_n hx hb dX11_isWishBox_45 rfl (lv_at hl 0 rfl) ?_
  exact hp_zret hX hlocks hr hR h dX11_isWishBox_46
theorem cs_X11_190 : hp_WV RX11 190 RX11 yX11_isWishBox cX11_isWishBox 3 (some .boolean) := ⟨wq4_122, wq4_124, wp3_1, wq1_11, wq4_125⟩
/-! Mo.box(IIII)I -/
abbrev rm_Mo_box : Room := { frames := 7, cells := 0, slots := 0, locals := 164 }
theorem hd_Mo_box : hp_d yX11_box 4 := by decide +kernel
def f_Mo_box_l1 (a0 : Nat) (x3 : Int32) (x4 : Int32) (x5 : Int32) (K : Int32 → hp_H → Option (Int32 × hp_H)) : Nat → Int32 → hp_H → Option (Int32 × hp_H)
  | 0, _, _ => none
  | n + 1, x6, σ => if (6 : Int32) ≤ x6 then (K x6 σ) else ((hp_gR σ a0 10 12).bind fun q16 => (hp_gR σ a0 10 10).bind fun q17 => (hp_aI σ q17 0 ((((54 : Int32) * x5) + ((6 : Int32) * x3)) + x6)).bind fun v18 => (hp_sI σ q16 0 x6 v18).bind fun σ => f_Mo_box_l1 a0 x3 x4 x5 K n (x6 + 1) σ)
def f_Mo_box (a0 : Nat) (x1 : Int32) (x2 : Int32) (x3 : Int32) (x4 : Int32) (σ : hp_H) : Option (Int32 × hp_H) := hp_own σ a0 10 ((f_Mo_areNeighbours a0 x1 x2 σ).bind fun v2 => if v2 = 0 then (some ((-1000000001), σ)) else ((f_Mo_lays a0 σ).bind fun σ => (f_Mo_linkOf a0 x1 x2 σ).bind fun v6 => (hp_gR σ a0 10 9).bind fun q7 => (hp_aI σ q7 0 v6).bind fun v8 => (f_Mo_in x3 0 (v8 - 1)).bind fun v10 => if v10 = 0 then (some ((-1000000001), σ)) else ((f_Mo_in x4 0 7).bind fun v13 => if v13 = 0 then (some ((-1000000002), σ)) else (f_Mo_box_l1 a0 x3 x4 v6 (fun z19 σ => if (6 : Int32) ≤ x4 then (if x4 = 6 then ((f_Mo_sizeOf a0 0 σ).bind fun v26 => some (v26, σ)) else (hp_b (f_Mo_isWishBox a0 σ) fun v23 σ => if v23 = 0 then (some (0, σ)) else (some (1, σ)))) else ((hp_gR σ a0 10 12).bind fun q27 => (hp_aI σ q27 0 x4).bind fun v28 => some (v28, σ))) hp_F 0 σ))))
set_option maxHeartbeats 4000000 in
set_option maxRecDepth 100000 in
theorem w_Mo_box_l1 {p : Program} {l : Launch} {e : Env} {s : State} {m : MethodId} {args : Array Value} {below : List Frame} {meth : Method} {c : Code} {G : hp_G} {b : Nat} {a0 : Nat} {x3 : Int32} {x4 : Int32} {x5 : Int32} {r : Int32} {σ' : hp_H} {K : Int32 → hp_H → Option (Int32 × hp_H)} (hX : hp_X G p s m c args cX11_box 7 RX11) (hlocks : meth.locks = false) (hr : meth.sig.returnType = (some .int))
    (hK : ∀ (x6 : Int32) (σ : hp_H) (H : Heap) (locs : List Loc) (ls : Array Slot), hp_R G b s.heap σ H locs → lv_has ls 7 [(0, .ref a0), (4, .int x4)] → K x6 σ = some (r, σ') → W p l e rm_Mo_box s m args below meth c H locs 0 0 (MQ below (hp_Qc G b (some (.int r)) σ') args s 0 0 (fun q => b ≤ q)) (F0 m 99 ls [])) :
    ∀ (n : Nat) (x6 : Int32) (σ : hp_H) (H : Heap) (locs : List Loc) (ls : Array Slot), hp_R G b s.heap σ H locs → f_Mo_box_l1 a0 x3 x4 x5 K n x6 σ = some (r, σ') → lv_has ls 7 [(0, .ref a0), (3, .int x3), (4, .int x4), (5, .int x5), (6, .int x6)] → W p l e rm_Mo_box s m args below meth c H locs 0 0 (MQ below (hp_Qc G b (some (.int r)) σ') args s 0 0 (fun q => b ≤ q)) (F0 m 61 ls []) := by
  obtain ⟨hx, hb, hml, hown, hts⟩ := id hX.1
  intro n
  induction n with
  | zero =>
    intro x6 σ H locs ls hR h hl
    rw [f_Mo_box_l1] at h
    cases h
  | succ n ih =>
    intro x6 σ H locs ls hR h hl
    rw [f_Mo_box_l1] at h
    refine lv_iload hx hb dX11_box_61 (lv_at hl 4 rfl) ?_
    refine lv_bipush (v := 6) hx hb dX11_box_63 (by decide) ?_
    refine lv_icmp_ge (tgt := 99) hx hb dX11_box_65 (by decide) (fun c15 => ?_) (fun c15 => ?_)
    · have h := hp_ip c15 h
      exact hK _ _ _ _ _ hR (lv_sub hl [0, 2] rfl) h
    · have h := hp_in c15 h
      refine lv_aload_n hx hb dX11_box_68 rfl (lv_at hl 0 rfl) ?_
      refine hp_getR hX hR (ci := 10) 12 rfl wf11 (by decide) wq3_179 dX11_box_69 h (fun q16 h => ?_)
      refine lv_iload hx hb dX11_box_72 (lv_at hl 4 rfl) ?_
      refine lv_aload_n hx hb dX11_box_74 rfl (lv_at hl 0 rfl) ?_
      refine hp_getR hX hR (ci := 10) 10 rfl wf11 (by decide) wq3_177 dX11_box_75 h (fun q17 h => ?_)
      refine lv_bipush (v := 54) hx hb dX11_box_78 (by decide) ?_
      refine lv_iload hx hb dX11_box_80 (lv_at hl 3 rfl) ?_
      refine lv_imul hx hb dX11_box_82 ?_
      refine lv_bipush (v := 6) hx hb dX11_box_83 (by decide) ?_
      refine lv_iload_n hx hb dX11_box_85 rfl (lv_at hl 1 rfl) ?_
      refine lv_imul hx hb dX11_box_86 ?_
      refine lv_iadd hx hb dX11_box_87 ?_
      refine lv_iload hx hb dX11_box_88 (lv_at hl 4 rfl) ?_
      refine lv_iadd hx hb dX11_box_90 ?_
      refine hp_iald hX hR dX11_box_91 h (fun v18 h => ?_)
      refine hp_iast hX hR dX11_box_92 h (fun σ H locs h hR => ?_)
      refine lv_iinc (v := (x6 + 1)) (lv' := [(6, .int (x6 + 1)), (0, .ref a0), (3, .int x3), (4, .int x4), (5, .int x5)]) hx hb dX11_box_93 hl (k := 4) rfl rfl (by decide) rfl (fun ls hl => ?_)
      refine lv_goto (tgt := 61) hx hb dX11_box_96 (by decide) ?_
      exact ih _ _ _ _ _ hR h (lv_sub hl [1, 2, 3, 4, 0] rfl)
set_option maxHeartbeats 4000000 in
set_option maxRecDepth 100000 in
theorem c_Mo_box {l : Launch} {G : hp_G} {b : Nat} {σ : hp_H} {a0 : Nat} {x1 : Int32} {x2 : Int32} {x3 : Int32} {x4 : Int32} {r : Int32} {σ' : hp_H} (h : f_Mo_box a0 x1 x2 x3 x4 σ = some (r, σ')) : hp_Met l yX11_box cX11_box 7 (some .int) rm_Mo_box G b [.ref a0, .int x1, .int x2, .int x3, .int x4] σ (some (.int r)) σ' 0 0 := by
  refine hp_met (by decide +kernel) (Nat.le_of_ble_eq_true rfl) (fun p e s m below meth c ls hX hlocks hr hnm hl hR => ?_)
  obtain ⟨hx, hb, hml, hown, hts⟩ := id hX.1
  have hl : lv_has ls 7 [(0, .ref a0), (1, .int x1), (2, .int x2), (3, .int x3), (4, .int x4)] := hl
  unfold f_Mo_box at h
  have h := hp_own_to h
  refine lv_aload_n hx hb dX11_box_0 rfl (lv_at hl 0 rfl) ?_
  refine lv_iload_n hx hb dX11_box_1 rfl (lv_at hl 1 rfl) ?_
  refine lv_iload_n hx hb dX11_box_2 rfl (lv_at hl 2 rfl) ?_
  refine hp_bn h (fun v2 h1 h => ?_)
  refine hp_ci hR (hp_runV (rest := []) (As := [.int x1, .int x2]) hX hR (c_Mo_areNeighbours h1) cs_X11_97 rfl rfl rfl hd_Mo_areNeighbours ⟨Nat.le_of_ble_eq_true rfl, Nat.le_of_ble_eq_true rfl⟩ (ci := 10) rfl (hp_own_is h1) rfl hl.1 rfl (Nat.le_of_ble_eq_true rfl) dX11_box_3 ⟨Nat.le_of_ble_eq_true rfl, Nat.le_of_ble_eq_true rfl⟩) (fun H locs hR => ?_)
  refine lv_if_ne (tgt := 12) hx hb dX11_box_6 (by decide) (fun c3 => ?_) (fun c3 => ?_)
  · have h := hp_in c3 h
    refine lv_aload_n hx hb dX11_box_12 rfl (lv_at hl 0 rfl) ?_
    refine hp_bn h (fun σ h4 h => ?_)
    refine hp_cv hR (hp_runV (rest := []) (As := []) hX hR (c_Mo_lays h4) cs_X11_120 rfl rfl rfl hd_Mo_lays ⟨Nat.le_of_ble_eq_true rfl, Nat.le_of_ble_eq_true rfl⟩ (ci := 10) rfl (hp_own_is h4) rfl hl.1 rfl (Nat.le_of_ble_eq_true rfl) dX11_box_13 ⟨Nat.le_of_ble_eq_true rfl, Nat.le_of_ble_eq_true rfl⟩) (fun H locs hR => ?_)
    refine lv_aload_n hx hb dX11_box_16 rfl (lv_at hl 0 rfl) ?_
    refine lv_iload_n hx hb dX11_box_17 rfl (lv_at hl 1 rfl) ?_
    refine lv_iload_n hx hb dX11_box_18 rfl (lv_at hl 2 rfl) ?_
    refine hp_bn h (fun v6 h5 h => ?_)
    refine hp_ci hR (hp_runV (rest := []) (As := [.int x1, .int x2]) hX hR (c_Mo_linkOf h5) cs_X11_100 rfl rfl rfl hd_Mo_linkOf ⟨Nat.le_of_ble_eq_true rfl, Nat.le_of_ble_eq_true rfl⟩ (ci := 10) rfl (hp_own_is h5) rfl hl.1 rfl (Nat.le_of_ble_eq_true rfl) dX11_box_19 ⟨Nat.le_of_ble_eq_true rfl, Nat.le_of_ble_eq_true rfl⟩) (fun H locs hR => ?_)
    refine lv_istore (lv' := [(5, .int v6), (0, .ref a0), (1, .int x1), (2, .int x2), (3, .int x3), (4, .int x4)]) hx hb dX11_box_22 hl (by decide) rfl (fun ls hl => ?_)
    refine lv_iload_n hx hb dX11_box_24 rfl (lv_at hl 4 rfl) ?_
    refine lv_iconst (v := 0) hx hb dX11_box_25 (by decide) ?_
    refine lv_aload_n hx hb dX11_box_26 rfl (lv_at hl 1 rfl) ?_
    refine hp_getR hX hR (ci := 10) 9 rfl wf11 (by decide) wq3_176 dX11_box_27 h (fun q7 h => ?_)
    refine lv_iload hx hb dX11_box_30 (lv_at hl 0 rfl) ?_
    refine hp_iald hX hR dX11_box_32 h (fun v8 h => ?_)
    refine lv_iconst (v := 1) hx hb dX11_box_33 (by decide) ?_
    refine lv_isub hx hb dX11_box_34 ?_
    refine hp_bn h (fun v10 h9 h => ?_)
    refine hp_ci hR (hp_runS (rest := []) (As := [.int x3, .int 0, .int (v8 - 1)]) hX hR (c_Mo_in h9) cs_X11_41 rfl rfl hd_Mo_in ⟨Nat.le_of_ble_eq_true rfl, Nat.le_of_ble_eq_true rfl⟩ rfl hl.1 rfl (Nat.le_of_ble_eq_true rfl) dX11_box_35 ⟨Nat.le_of_ble_eq_true rfl, Nat.le_of_ble_eq_true rfl⟩) (fun H locs hR => ?_)
    refine lv_if_ne (tgt := 44) hx hb dX11_box_38 (by decide) (fun c11 => ?_) (fun c11 => ?_)
    · have h := hp_in c11 h
      refine lv_iload hx hb dX11_box_44 (lv_at hl 5 rfl) ?_
      refine lv_iconst (v := 0) hx hb dX11_box_46 (by decide) ?_
      refine lv_bipush (v := 7) hx hb dX11_box_47 (by decide) ?_
      refine hp_bn h (fun v13 h12 h => ?_)
      refine hp_ci hR (hp_runS (rest := []) (As := [.int x4, .int 0, .int 7]) hX hR (c_Mo_in h12) cs_X11_41 rfl rfl hd_Mo_in ⟨Nat.le_of_ble_eq_true rfl, Nat.le_of_ble_eq_true rfl⟩ rfl hl.1 rfl (Nat.le_of_ble_eq_true rfl) dX11_box_49 ⟨Nat.le_of_ble_eq_true rfl, Nat.le_of_ble_eq_true rfl⟩) (fun H locs hR => ?_)
      refine lv_if_ne (tgt := 58) hx hb dX11_box_52 (by decide) (fun c14 => ?_) (fun c14 => ?_)
      · have h := hp_in c14 h
        refine lv_iconst (v := 0) hx hb dX11_box_58 (by decide) ?_
        refine lv_istore (lv' := [(6, .int 0), (5, .int v6), (0, .ref a0), (1, .int x1), (2, .int x2), (3, .int x3), (4, .int x4)]) hx hb dX11_box_59 hl (by decide) rfl (fun ls hl => ?_)
        refine w_Mo_box_l1 hX hlocks hr ?_ hp_F _ _ _ _ _ hR h (lv_sub hl [2, 5, 6, 1, 0] rfl)
        intro z19 σ H locs ls hR hl h
        refine lv_iload hx hb dX11_box_99 (lv_at hl 1 rfl) ?_
        refine lv_bipush (v := 6) hx hb dX11_box_101 (by decide) ?_
        refine lv_icmp_ge (tgt := 116) hx hb dX11_box_103 (by decide) (fun c20 => ?_) (fun c20 => ?_)
        · have h := hp_ip c20 h
          refine lv_iload hx hb dX11_box_116 (lv_at hl 1 rfl) ?_
          refine lv_bipush (v := 6) hx hb dX11_box_118 (by decide) ?_
          refine lv_icmp_ne (tgt := 131) hx hb dX11_box_120 (by decide) (fun c21 => ?_) (fun c21 => ?_)
          · have h := hp_in c21 h
            refine lv_aload_n hx hb dX11_box_131 rfl (lv_at hl 0 rfl) ?_
            refine hp_b2 h (fun v23 σ h22 h => ?_)
            refine hp_ci hR (hp_runV (rest := []) (As := []) hX hR (c_Mo_isWishBox h22) cs_X11_190 rfl rfl rfl hd_Mo_isWishBox ⟨Nat.le_of_ble_eq_true rfl, Nat.le_of_ble_eq_true rfl⟩ (ci := 10) rfl (hp_own_is h22) rfl hl.1 rfl (Nat.le_of_ble_eq_true rfl) dX11_box_132 ⟨Nat.le_of_ble_eq_true rfl, Nat.le_of_ble_eq_true rfl⟩) (fun H locs hR => ?_)
            refine lv_if_eq (tgt := 142) hx hb dX11_box_135 (by decide) (fun c24 => ?_) (fun c24 => ?_)
            · have h := hp_ip c24 h
              refine lv_iconst (v := 0) hx hb dX11_box_142 (by decide) ?_
              exact hp_iret hX hlocks hr hR h dX11_box_143
            · have h := hp_in c24 h
              refine lv_iconst (v := 1) hx hb dX11_box_138 (by decide) ?_
              refine lv_goto (tgt := 143) hx hb dX11_box_139 (by decide) ?_
              exact hp_iret hX hlocks hr hR h dX11_box_143
          · have h := hp_ip c21 h
            refine lv_aload_n hx hb dX11_box_123 rfl (lv_at hl 0 rfl) ?_
            refine lv_iconst (v := 0) hx hb dX11_box_124 (by decide) ?_
            refine hp_bn h (fun v26 h25 h => ?_)
            refine hp_ci hR (hp_runV (rest := []) (As := [.int 0]) hX hR (c_Mo_sizeOf h25) cs_X11_74 rfl rfl rfl hd_Mo_sizeOf ⟨Nat.le_of_ble_eq_true rfl, Nat.le_of_ble_eq_true rfl⟩ (ci := 10) rfl (hp_own_is h25) rfl hl.1 rfl (Nat.le_of_ble_eq_true rfl) dX11_box_125 ⟨Nat.le_of_ble_eq_true rfl, Nat.le_of_ble_eq_true rfl⟩) (fun H locs hR => ?_)
            refine lv_goto (tgt := 143) hx hb dX11_box_128 (by decide) ?_
            exact hp_iret hX hlocks hr hR h dX11_box_143
        · have h := hp_in c20 h
          refine lv_aload_n hx hb dX11_box_106 rfl (lv_at hl 0 rfl) ?_
          refine hp_getR hX hR (ci := 10) 12 rfl wf11 (by decide) wq3_179 dX11_box_107 h (fun q27 h => ?_)
          refine lv_iload hx hb dX11_box_110 (lv_at hl 1 rfl) ?_
          refine hp_iald hX hR dX11_box_112 h (fun v28 h => ?_)
          refine lv_goto (tgt := 143) hx hb dX11_box_113 (by decide) ?_
          exact hp_iret hX hlocks hr hR h dX11_box_143
      · have h := hp_ip c14 h
        refine lv_ldc (v := (-1000000002)) hx hb hown (hts _ wq4_84) dX11_box_55 ?_
        exact hp_iret hX hlocks hr hR h dX11_box_57
    · have h := hp_ip c11 h
      refine lv_ldc (v := (-1000000001)) hx hb hown (hts _ wq4_89) dX11_box_41 ?_
      exact hp_iret hX hlocks hr hR h dX11_box_43
  · have h := hp_ip c3 h
    refine lv_ldc (v := (-1000000001)) hx hb hown (hts _ wq4_89) dX11_box_9 ?_
    exact hp_iret hX hlocks hr hR h dX11_box_11
theorem cs_X11_194 : hp_WS RX11 194 yX11_areThings cX11_areThings 3 (some .boolean) := ⟨wq4_130, wq4_131, wq1_11, wq4_132⟩
/-! Mo.would(IIIII)I -/
abbrev rm_Mo_would : Room := { frames := 8, cells := 0, slots := 0, locals := 193 }
theorem hd_Mo_would : hp_d yX11_would 5 := by decide +kernel
def f_Mo_would (a0 : Nat) (x1 : Int32) (x2 : Int32) (x3 : Int32) (x4 : Int32) (x5 : Int32) (σ : hp_H) : Option (Int32 × hp_H) := hp_own σ a0 10 ((f_Mo_isBroker a0 x1 σ).bind fun v2 => if v2 = 0 then (some ((-1000000001), σ)) else ((f_Mo_areThings x2 x3 x4).bind fun v5 => if v5 = 0 then (some ((-1000000002), σ)) else ((f_Mo_in x5 0 3).bind fun v8 => if v8 = 0 then (some ((-1000000002), σ)) else ((f_Mo_walks a0 x1 x2 x3 x4 σ).bind fun σ => if x5 = 0 then ((hp_gI σ a0 10 15).bind fun v17 => some (v17, σ)) else (if x5 = 1 then ((hp_gI σ a0 10 16).bind fun v16 => some (v16, σ)) else (if x5 = 2 then ((hp_gI σ a0 10 17).bind fun v15 => some (v15, σ)) else ((hp_gI σ a0 10 18).bind fun v14 => some (v14, σ))))))))
set_option maxHeartbeats 4000000 in
set_option maxRecDepth 100000 in
theorem c_Mo_would {l : Launch} {G : hp_G} {b : Nat} {σ : hp_H} {a0 : Nat} {x1 : Int32} {x2 : Int32} {x3 : Int32} {x4 : Int32} {x5 : Int32} {r : Int32} {σ' : hp_H} (h : f_Mo_would a0 x1 x2 x3 x4 x5 σ = some (r, σ')) : hp_Met l yX11_would cX11_would 6 (some .int) rm_Mo_would G b [.ref a0, .int x1, .int x2, .int x3, .int x4, .int x5] σ (some (.int r)) σ' 0 0 := by
  refine hp_met (by decide +kernel) (Nat.le_of_ble_eq_true rfl) (fun p e s m below meth c ls hX hlocks hr hnm hl hR => ?_)
  obtain ⟨hx, hb, hml, hown, hts⟩ := id hX.1
  have hl : lv_has ls 6 [(0, .ref a0), (1, .int x1), (2, .int x2), (3, .int x3), (4, .int x4), (5, .int x5)] := hl
  unfold f_Mo_would at h
  have h := hp_own_to h
  refine lv_aload_n hx hb dX11_would_0 rfl (lv_at hl 0 rfl) ?_
  refine lv_iload_n hx hb dX11_would_1 rfl (lv_at hl 1 rfl) ?_
  refine hp_bn h (fun v2 h1 h => ?_)
  refine hp_ci hR (hp_runV (rest := []) (As := [.int x1]) hX hR (c_Mo_isBroker h1) cs_X11_45 rfl rfl rfl hd_Mo_isBroker ⟨Nat.le_of_ble_eq_true rfl, Nat.le_of_ble_eq_true rfl⟩ (ci := 10) rfl (hp_own_is h1) rfl hl.1 rfl (Nat.le_of_ble_eq_true rfl) dX11_would_2 ⟨Nat.le_of_ble_eq_true rfl, Nat.le_of_ble_eq_true rfl⟩) (fun H locs hR => ?_)
  refine lv_if_ne (tgt := 11) hx hb dX11_would_5 (by decide) (fun c3 => ?_) (fun c3 => ?_)
  · have h := hp_in c3 h
    refine lv_iload_n hx hb dX11_would_11 rfl (lv_at hl 2 rfl) ?_
    refine lv_iload_n hx hb dX11_would_12 rfl (lv_at hl 3 rfl) ?_
    refine lv_iload hx hb dX11_would_13 (lv_at hl 4 rfl) ?_
    refine hp_bn h (fun v5 h4 h => ?_)
    refine hp_ci hR (hp_runS (rest := []) (As := [.int x2, .int x3, .int x4]) hX hR (c_Mo_areThings h4) cs_X11_194 rfl rfl hd_Mo_areThings ⟨Nat.le_of_ble_eq_true rfl, Nat.le_of_ble_eq_true rfl⟩ rfl hl.1 rfl (Nat.le_of_ble_eq_true rfl) dX11_would_15 ⟨Nat.le_of_ble_eq_true rfl, Nat.le_of_ble_eq_true rfl⟩) (fun H locs hR => ?_)
    refine lv_if_eq (tgt := 31) hx hb dX11_would_18 (by decide) (fun c6 => ?_) (fun c6 => ?_)
    · have h := hp_ip c6 h
      refine lv_ldc (v := (-1000000002)) hx hb hown (hts _ wq4_84) dX11_would_31 ?_
      exact hp_iret hX hlocks hr hR h dX11_would_33
    · have h := hp_in c6 h
      refine lv_iload hx hb dX11_would_21 (lv_at hl 5 rfl) ?_
      refine lv_iconst (v := 0) hx hb dX11_would_23 (by decide) ?_
      refine lv_iconst (v := 3) hx hb dX11_would_24 (by decide) ?_
      refine hp_bn h (fun v8 h7 h => ?_)
      refine hp_ci hR (hp_runS (rest := []) (As := [.int x5, .int 0, .int 3]) hX hR (c_Mo_in h7) cs_X11_41 rfl rfl hd_Mo_in ⟨Nat.le_of_ble_eq_true rfl, Nat.le_of_ble_eq_true rfl⟩ rfl hl.1 rfl (Nat.le_of_ble_eq_true rfl) dX11_would_25 ⟨Nat.le_of_ble_eq_true rfl, Nat.le_of_ble_eq_true rfl⟩) (fun H locs hR => ?_)
      refine lv_if_ne (tgt := 34) hx hb dX11_would_28 (by decide) (fun c9 => ?_) (fun c9 => ?_)
      · have h := hp_in c9 h
        refine lv_aload_n hx hb dX11_would_34 rfl (lv_at hl 0 rfl) ?_
        refine lv_iload_n hx hb dX11_would_35 rfl (lv_at hl 1 rfl) ?_
        refine lv_iload_n hx hb dX11_would_36 rfl (lv_at hl 2 rfl) ?_
        refine lv_iload_n hx hb dX11_would_37 rfl (lv_at hl 3 rfl) ?_
        refine lv_iload hx hb dX11_would_38 (lv_at hl 4 rfl) ?_
        refine hp_bn h (fun σ h10 h => ?_)
        refine hp_cv hR (hp_runV (rest := []) (As := [.int x1, .int x2, .int x3, .int x4]) hX hR (c_Mo_walks h10) cs_X11_147 rfl rfl rfl hd_Mo_walks ⟨Nat.le_of_ble_eq_true rfl, Nat.le_of_ble_eq_true rfl⟩ (ci := 10) rfl (hp_own_is h10) rfl hl.1 rfl (Nat.le_of_ble_eq_true rfl) dX11_would_40 ⟨Nat.le_of_ble_eq_true rfl, Nat.le_of_ble_eq_true rfl⟩) (fun H locs hR => ?_)
        refine lv_iload hx hb dX11_would_43 (lv_at hl 5 rfl) ?_
        refine lv_if_ne (tgt := 55) hx hb dX11_would_45 (by decide) (fun c11 => ?_) (fun c11 => ?_)
        · have h := hp_in c11 h
          refine lv_iload hx hb dX11_would_55 (lv_at hl 5 rfl) ?_
          refine lv_iconst (v := 1) hx hb dX11_would_57 (by decide) ?_
          refine lv_icmp_ne (tgt := 68) hx hb dX11_would_58 (by decide) (fun c12 => ?_) (fun c12 => ?_)
          · have h := hp_in c12 h
            refine lv_iload hx hb dX11_would_68 (lv_at hl 5 rfl) ?_
            refine lv_iconst (v := 2) hx hb dX11_would_70 (by decide) ?_
            refine lv_icmp_ne (tgt := 81) hx hb dX11_would_71 (by decide) (fun c13 => ?_) (fun c13 => ?_)
            · have h := hp_in c13 h
              refine lv_aload_n hx hb dX11_would_81 rfl (lv_at hl 0 rfl) ?_
              refine hp_getI hX hR (ci := 10) 18 rfl wf11 (by decide) wq3_185 dX11_would_82 h (fun v14 h => ?_)
              exact hp_iret hX hlocks hr hR h dX11_would_85
            · have h := hp_ip c13 h
              refine lv_aload_n hx hb dX11_would_74 rfl (lv_at hl 0 rfl) ?_
              refine hp_getI hX hR (ci := 10) 17 rfl wf11 (by decide) wq3_184 dX11_would_75 h (fun v15 h => ?_)
              refine lv_goto (tgt := 85) hx hb dX11_would_78 (by decide) ?_
              exact hp_iret hX hlocks hr hR h dX11_would_85
          · have h := hp_ip c12 h
            refine lv_aload_n hx hb dX11_would_61 rfl (lv_at hl 0 rfl) ?_
            refine hp_getI hX hR (ci := 10) 16 rfl wf11 (by decide) wq3_183 dX11_would_62 h (fun v16 h => ?_)
            refine lv_goto (tgt := 85) hx hb dX11_would_65 (by decide) ?_
            exact hp_iret hX hlocks hr hR h dX11_would_85
        · have h := hp_ip c11 h
          refine lv_aload_n hx hb dX11_would_48 rfl (lv_at hl 0 rfl) ?_
          refine hp_getI hX hR (ci := 10) 15 rfl wf11 (by decide) wq3_182 dX11_would_49 h (fun v17 h => ?_)
          refine lv_goto (tgt := 85) hx hb dX11_would_52 (by decide) ?_
          exact hp_iret hX hlocks hr hR h dX11_would_85
      · have h := hp_ip c9 h
        refine lv_ldc (v := (-1000000002)) hx hb hown (hts _ wq4_84) dX11_would_31 ?_
        exact hp_iret hX hlocks hr hR h dX11_would_33
  · have h := hp_ip c3 h
    refine lv_ldc (v := (-1000000001)) hx hb hown (hts _ wq4_89) dX11_would_8 ?_
    exact hp_iret hX hlocks hr hR h dX11_would_10
/-! Mo.deed()V -/
abbrev rm_Mo_deed : Room := { frames := 0, cells := 0, slots := 0, locals := 0 }
theorem hd_Mo_deed : hp_d yX11_deed 0 := by decide +kernel
def f_Mo_deed_l2 (a0 : Nat) (K : Int32 → hp_H → Option hp_H) : Nat → Int32 → hp_H → Option hp_H
  | 0, _, _ => none
  | n + 1, x1, σ => if (256 : Int32) ≤ x1 then (K x1 σ) else ((hp_gR σ a0 10 2).bind fun q4 => (hp_gI σ a0 10 3).bind fun v5 => (hp_gR σ a0 10 0).bind fun q6 => (hp_aI σ q6 0 x1).bind fun v7 => (hp_sI σ q4 0 (((256 : Int32) * v5) + x1) v7).bind fun σ => f_Mo_deed_l2 a0 K n (x1 + 1) σ)
def f_Mo_deed_l1 (a0 : Nat) (K : Int32 → hp_H → Option hp_H) : Nat → Int32 → hp_H → Option hp_H
  | 0, _, _ => none
  | n + 1, x1, σ => if (3840 : Int32) ≤ x1 then (K x1 σ) else ((hp_gR σ a0 10 2).bind fun q11 => (hp_gR σ a0 10 2).bind fun q12 => (hp_aI σ q12 0 (x1 + 256)).bind fun v13 => (hp_sI σ q11 0 x1 v13).bind fun σ => f_Mo_deed_l1 a0 K n (x1 + 1) σ)
def f_Mo_deed (a0 : Nat) (σ : hp_H) : Option hp_H := hp_own σ a0 10 ((hp_gI σ a0 10 3).bind fun v1 => if v1 = 16 then (f_Mo_deed_l1 a0 (fun z14 σ => (hp_gI σ a0 10 3).bind fun v15 => (hp_pI σ a0 10 3 (v15 - 1)).bind fun σ => f_Mo_deed_l2 a0 (fun z16 σ => (hp_gI σ a0 10 3).bind fun v17 => (hp_pI σ a0 10 3 (v17 + 1)).bind fun σ => (hp_pZ σ a0 10 11 0).bind fun σ => some σ) hp_F 0 σ) hp_F 0 σ) else (f_Mo_deed_l2 a0 (fun z8 σ => (hp_gI σ a0 10 3).bind fun v9 => (hp_pI σ a0 10 3 (v9 + 1)).bind fun σ => (hp_pZ σ a0 10 11 0).bind fun σ => some σ) hp_F 0 σ))
set_option maxHeartbeats 4000000 in
set_option maxRecDepth 100000 in
theorem w_Mo_deed_l2 {p : Program} {l : Launch} {e : Env} {s : State} {m : MethodId} {args : Array Value} {below : List Frame} {meth : Method} {c : Code} {G : hp_G} {b : Nat} {a0 : Nat} {σ' : hp_H} {K : Int32 → hp_H → Option hp_H} (hX : hp_X G p s m c args cX11_deed 2 RX11) (hlocks : meth.locks = false) (hr : meth.sig.returnType = none)
    (hK : ∀ (x1 : Int32) (σ : hp_H) (H : Heap) (locs : List Loc) (ls : Array Slot), hp_R G b s.heap σ H locs → lv_has ls 2 [(0, .ref a0)] → K x1 σ = some σ' → W p l e rm_Mo_deed s m args below meth c H locs 0 0 (MQ below (hp_Qc G b none σ') args s 0 0 (fun q => b ≤ q)) (F0 m 86 ls [])) :
    ∀ (n : Nat) (x1 : Int32) (σ : hp_H) (H : Heap) (locs : List Loc) (ls : Array Slot), hp_R G b s.heap σ H locs → f_Mo_deed_l2 a0 K n x1 σ = some σ' → lv_has ls 2 [(0, .ref a0), (1, .int x1)] → W p l e rm_Mo_deed s m args below meth c H locs 0 0 (MQ below (hp_Qc G b none σ') args s 0 0 (fun q => b ≤ q)) (F0 m 52 ls []) := by
  obtain ⟨hx, hb, hml, hown, hts⟩ := id hX.1
  intro n
  induction n with
  | zero =>
    intro x1 σ H locs ls hR h hl
    rw [f_Mo_deed_l2] at h
    cases h
  | succ n ih =>
    intro x1 σ H locs ls hR h hl
    rw [f_Mo_deed_l2] at h
    refine lv_iload_n hx hb dX11_deed_52 rfl (lv_at hl 1 rfl) ?_
    refine lv_sipush (v := 256) hx hb dX11_deed_53 (by decide) ?_
    refine lv_icmp_ge (tgt := 86) hx hb dX11_deed_56 (by decide) (fun c3 => ?_) (fun c3 => ?_)
    · have h := hp_ip c3 h
      exact hK _ _ _ _ _ hR (lv_sub hl [0] rfl) h
    · have h := hp_in c3 h
      refine lv_aload_n hx hb dX11_deed_59 rfl (lv_at hl 0 rfl) ?_
      refine hp_getR hX hR (ci := 10) 2 rfl wf11 (by decide) wq3_169 dX11_deed_60 h (fun q4 h => ?_)
      refine lv_sipush (v := 256) hx hb dX11_deed_63 (by decide) ?_
      refine lv_aload_n hx hb dX11_deed_66 rfl (lv_at hl 0 rfl) ?_
      refine hp_getI hX hR (ci := 10) 3 rfl wf11 (by decide) wq3_170 dX11_deed_67 h (fun v5 h => ?_)
      refine lv_imul hx hb dX11_deed_70 ?_
      refine lv_iload_n hx hb dX11_deed_71 rfl (lv_at hl 1 rfl) ?_
      refine lv_iadd hx hb dX11_deed_72 ?_
      refine lv_aload_n hx hb dX11_deed_73 rfl (lv_at hl 0 rfl) ?_
      refine hp_getR hX hR (ci := 10) 0 rfl wf11 (by decide) wq3_167 dX11_deed_74 h (fun q6 h => ?_)
      refine lv_iload_n hx hb dX11_deed_77 rfl (lv_at hl 1 rfl) ?_
      refine hp_iald hX hR dX11_deed_78 h (fun v7 h => ?_)
      refine hp_iast hX hR dX11_deed_79 h (fun σ H locs h hR => ?_)
      refine lv_iinc (v := (x1 + 1)) (lv' := [(1, .int (x1 + 1)), (0, .ref a0)]) hx hb dX11_deed_80 hl (k := 1) rfl rfl (by decide) rfl (fun ls hl => ?_)
      refine lv_goto (tgt := 52) hx hb dX11_deed_83 (by decide) ?_
      exact ih _ _ _ _ _ hR h (lv_sub hl [1, 0] rfl)
set_option maxHeartbeats 4000000 in
set_option maxRecDepth 100000 in
theorem w_Mo_deed_l1 {p : Program} {l : Launch} {e : Env} {s : State} {m : MethodId} {args : Array Value} {below : List Frame} {meth : Method} {c : Code} {G : hp_G} {b : Nat} {a0 : Nat} {σ' : hp_H} {K : Int32 → hp_H → Option hp_H} (hX : hp_X G p s m c args cX11_deed 2 RX11) (hlocks : meth.locks = false) (hr : meth.sig.returnType = none)
    (hK : ∀ (x1 : Int32) (σ : hp_H) (H : Heap) (locs : List Loc) (ls : Array Slot), hp_R G b s.heap σ H locs → lv_has ls 2 [(0, .ref a0)] → K x1 σ = some σ' → W p l e rm_Mo_deed s m args below meth c H locs 0 0 (MQ below (hp_Qc G b none σ') args s 0 0 (fun q => b ≤ q)) (F0 m 40 ls [])) :
    ∀ (n : Nat) (x1 : Int32) (σ : hp_H) (H : Heap) (locs : List Loc) (ls : Array Slot), hp_R G b s.heap σ H locs → f_Mo_deed_l1 a0 K n x1 σ = some σ' → lv_has ls 2 [(0, .ref a0), (1, .int x1)] → W p l e rm_Mo_deed s m args below meth c H locs 0 0 (MQ below (hp_Qc G b none σ') args s 0 0 (fun q => b ≤ q)) (F0 m 11 ls []) := by
  obtain ⟨hx, hb, hml, hown, hts⟩ := id hX.1
  intro n
  induction n with
  | zero =>
    intro x1 σ H locs ls hR h hl
    rw [f_Mo_deed_l1] at h
    cases h
  | succ n ih =>
    intro x1 σ H locs ls hR h hl
    rw [f_Mo_deed_l1] at h
    refine lv_iload_n hx hb dX11_deed_11 rfl (lv_at hl 1 rfl) ?_
    refine lv_sipush (v := 3840) hx hb dX11_deed_12 (by decide) ?_
    refine lv_icmp_ge (tgt := 40) hx hb dX11_deed_15 (by decide) (fun c10 => ?_) (fun c10 => ?_)
    · have h := hp_ip c10 h
      exact hK _ _ _ _ _ hR (lv_sub hl [0] rfl) h
    · have h := hp_in c10 h
      refine lv_aload_n hx hb dX11_deed_18 rfl (lv_at hl 0 rfl) ?_
      refine hp_getR hX hR (ci := 10) 2 rfl wf11 (by decide) wq3_169 dX11_deed_19 h (fun q11 h => ?_)
      refine lv_iload_n hx hb dX11_deed_22 rfl (lv_at hl 1 rfl) ?_
      refine lv_aload_n hx hb dX11_deed_23 rfl (lv_at hl 0 rfl) ?_
      refine hp_getR hX hR (ci := 10) 2 rfl wf11 (by decide) wq3_169 dX11_deed_24 h (fun q12 h => ?_)
      refine lv_iload_n hx hb dX11_deed_27 rfl (lv_at hl 1 rfl) ?_
      refine lv_sipush (v := 256) hx hb dX11_deed_28 (by decide) ?_
      refine lv_iadd hx hb dX11_deed_31 ?_
      refine hp_iald hX hR dX11_deed_32 h (fun v13 h => ?_)
      refine hp_iast hX hR dX11_deed_33 h (fun σ H locs h hR => ?_)
      refine lv_iinc (v := (x1 + 1)) (lv' := [(1, .int (x1 + 1)), (0, .ref a0)]) hx hb dX11_deed_34 hl (k := 1) rfl rfl (by decide) rfl (fun ls hl => ?_)
      refine lv_goto (tgt := 11) hx hb dX11_deed_37 (by decide) ?_
      exact ih _ _ _ _ _ hR h (lv_sub hl [1, 0] rfl)
set_option maxHeartbeats 4000000 in
set_option maxRecDepth 100000 in
theorem c_Mo_deed {l : Launch} {G : hp_G} {b : Nat} {σ : hp_H} {a0 : Nat} {σ' : hp_H} (h : f_Mo_deed a0 σ = some σ') : hp_Met l yX11_deed cX11_deed 2 none rm_Mo_deed G b [.ref a0] σ none σ' 0 0 := by
  refine hp_met (by decide +kernel) (Nat.le_of_ble_eq_true rfl) (fun p e s m below meth c ls hX hlocks hr hnm hl hR => ?_)
  obtain ⟨hx, hb, hml, hown, hts⟩ := id hX.1
  have hl : lv_has ls 2 [(0, .ref a0)] := hl
  unfold f_Mo_deed at h
  have h := hp_own_to h
  refine lv_aload_n hx hb dX11_deed_0 rfl (lv_at hl 0 rfl) ?_
  refine hp_getI hX hR (ci := 10) 3 rfl wf11 (by decide) wq3_170 dX11_deed_1 h (fun v1 h => ?_)
  refine lv_bipush (v := 16) hx hb dX11_deed_4 (by decide) ?_
  refine lv_icmp_ne (tgt := 50) hx hb dX11_deed_6 (by decide) (fun c2 => ?_) (fun c2 => ?_)
  · have h := hp_in c2 h
    refine lv_iconst (v := 0) hx hb dX11_deed_50 (by decide) ?_
    refine lv_istore_n (lv' := [(1, .int 0), (0, .ref a0)]) hx hb dX11_deed_51 rfl hl (by decide) rfl (fun ls hl => ?_)
    refine w_Mo_deed_l2 hX hlocks hr ?_ hp_F _ _ _ _ _ hR h (lv_sub hl [1, 0] rfl)
    intro z8 σ H locs ls hR hl h
    refine lv_aload_n hx hb dX11_deed_86 rfl (lv_at hl 0 rfl) ?_
    refine lv_dup hx hb dX11_deed_87 rfl ?_
    refine hp_getI hX hR (ci := 10) 3 rfl wf11 (by decide) wq3_170 dX11_deed_88 h (fun v9 h => ?_)
    refine lv_iconst (v := 1) hx hb dX11_deed_91 (by decide) ?_
    refine lv_iadd hx hb dX11_deed_92 ?_
    refine hp_putI hX hR (ci := 10) 3 rfl wf11 tyX11_ok nmX11 (by decide) wq3_170 rfl dX11_deed_93 rfl h (fun σ H locs h hR => ?_)
    refine lv_aload_n hx hb dX11_deed_96 rfl (lv_at hl 0 rfl) ?_
    refine lv_iconst (v := 0) hx hb dX11_deed_97 (by decide) ?_
    refine hp_putZ hX hR (ci := 10) 11 rfl wf11 tyX11_ok nmX11 (by decide) wq3_178 rfl dX11_deed_98 rfl h (fun σ H locs h hR => ?_)
    exact hp_vret hX hlocks hr hR h dX11_deed_101
  · have h := hp_ip c2 h
    refine lv_iconst (v := 0) hx hb dX11_deed_9 (by decide) ?_
    refine lv_istore_n (lv' := [(1, .int 0), (0, .ref a0)]) hx hb dX11_deed_10 rfl hl (by decide) rfl (fun ls hl => ?_)
    refine w_Mo_deed_l1 hX hlocks hr ?_ hp_F _ _ _ _ _ hR h (lv_sub hl [1, 0] rfl)
    intro z14 σ H locs ls hR hl h
    refine lv_aload_n hx hb dX11_deed_40 rfl (lv_at hl 0 rfl) ?_
    refine lv_dup hx hb dX11_deed_41 rfl ?_
    refine hp_getI hX hR (ci := 10) 3 rfl wf11 (by decide) wq3_170 dX11_deed_42 h (fun v15 h => ?_)
    refine lv_iconst (v := 1) hx hb dX11_deed_45 (by decide) ?_
    refine lv_isub hx hb dX11_deed_46 ?_
    refine hp_putI hX hR (ci := 10) 3 rfl wf11 tyX11_ok nmX11 (by decide) wq3_170 rfl dX11_deed_47 rfl h (fun σ H locs h hR => ?_)
    refine lv_iconst (v := 0) hx hb dX11_deed_50 (by decide) ?_
    refine lv_istore_n (lv' := [(1, .int 0), (0, .ref a0)]) hx hb dX11_deed_51 rfl hl (by decide) rfl (fun ls hl => ?_)
    refine w_Mo_deed_l2 hX hlocks hr ?_ hp_F _ _ _ _ _ hR h (lv_sub hl [1, 0] rfl)
    intro z16 σ H locs ls hR hl h
    refine lv_aload_n hx hb dX11_deed_86 rfl (lv_at hl 0 rfl) ?_
    refine lv_dup hx hb dX11_deed_87 rfl ?_
    refine hp_getI hX hR (ci := 10) 3 rfl wf11 (by decide) wq3_170 dX11_deed_88 h (fun v17 h => ?_)
    refine lv_iconst (v := 1) hx hb dX11_deed_91 (by decide) ?_
    refine lv_iadd hx hb dX11_deed_92 ?_
    refine hp_putI hX hR (ci := 10) 3 rfl wf11 tyX11_ok nmX11 (by decide) wq3_170 rfl dX11_deed_93 rfl h (fun σ H locs h hR => ?_)
    refine lv_aload_n hx hb dX11_deed_96 rfl (lv_at hl 0 rfl) ?_
    refine lv_iconst (v := 0) hx hb dX11_deed_97 (by decide) ?_
    refine hp_putZ hX hR (ci := 10) 11 rfl wf11 tyX11_ok nmX11 (by decide) wq3_178 rfl dX11_deed_98 rfl h (fun σ H locs h hR => ?_)
    exact hp_vret hX hlocks hr hR h dX11_deed_101
theorem cs_X11_198 : hp_WV RX11 198 RX11 yX11_deed cX11_deed 2 none := ⟨wq4_153, wq4_155, wp3_5, wq1_11, wq4_156⟩
/-! Mo.broker(I)I -/
abbrev rm_Mo_broker : Room := { frames := 2, cells := 0, slots := 0, locals := 43 }
theorem hd_Mo_broker : hp_d yX11_broker 1 := by decide +kernel
def f_Mo_broker (a0 : Nat) (x1 : Int32) (σ : hp_H) : Option (Int32 × hp_H) := hp_own σ a0 10 ((f_Mo_isBroker a0 x1 σ).bind fun v2 => if v2 = 0 then (some ((-1000000001), σ)) else ((hp_gR σ a0 10 0).bind fun q4 => (hp_aI σ q4 0 0).bind fun v5 => if v5 = 7 then (some ((-1000000004), σ)) else ((f_Mo_deed a0 σ).bind fun σ => (hp_gR σ a0 10 0).bind fun q8 => (hp_gR σ a0 10 0).bind fun q9 => (hp_aI σ q9 0 0).bind fun v10 => (hp_sI σ q8 0 ((8 : Int32) + v10) x1).bind fun σ => (hp_gR σ a0 10 0).bind fun q11 => (hp_aI σ q11 0 0).bind fun v12 => (hp_sI σ q11 0 0 (v12 + 1)).bind fun σ => (hp_gR σ a0 10 0).bind fun q13 => (hp_aI σ q13 0 0).bind fun v14 => some ((v14 - 1), σ))))
set_option maxHeartbeats 4000000 in
set_option maxRecDepth 100000 in
theorem c_Mo_broker {l : Launch} {G : hp_G} {b : Nat} {σ : hp_H} {a0 : Nat} {x1 : Int32} {r : Int32} {σ' : hp_H} (h : f_Mo_broker a0 x1 σ = some (r, σ')) : hp_Met l yX11_broker cX11_broker 2 (some .int) rm_Mo_broker G b [.ref a0, .int x1] σ (some (.int r)) σ' 0 0 := by
  refine hp_met (by decide +kernel) (Nat.le_of_ble_eq_true rfl) (fun p e s m below meth c ls hX hlocks hr hnm hl hR => ?_)
  obtain ⟨hx, hb, hml, hown, hts⟩ := id hX.1
  have hl : lv_has ls 2 [(0, .ref a0), (1, .int x1)] := hl
  unfold f_Mo_broker at h
  have h := hp_own_to h
  refine lv_aload_n hx hb dX11_broker_0 rfl (lv_at hl 0 rfl) ?_
  refine lv_iload_n hx hb dX11_broker_1 rfl (lv_at hl 1 rfl) ?_
  refine hp_bn h (fun v2 h1 h => ?_)
  refine hp_ci hR (hp_runV (rest := []) (As := [.int x1]) hX hR (c_Mo_isBroker h1) cs_X11_45 rfl rfl rfl hd_Mo_isBroker ⟨Nat.le_of_ble_eq_true rfl, Nat.le_of_ble_eq_true rfl⟩ (ci := 10) rfl (hp_own_is h1) rfl hl.1 rfl (Nat.le_of_ble_eq_true rfl) dX11_broker_2 ⟨Nat.le_of_ble_eq_true rfl, Nat.le_of_ble_eq_true rfl⟩) (fun H locs hR => ?_)
  refine lv_if_ne (tgt := 11) hx hb dX11_broker_5 (by decide) (fun c3 => ?_) (fun c3 => ?_)
  · have h := hp_in c3 h
    refine lv_aload_n hx hb dX11_broker_11 rfl (lv_at hl 0 rfl) ?_
    refine hp_getR hX hR (ci := 10) 0 rfl wf11 (by decide) wq3_167 dX11_broker_12 h (fun q4 h => ?_)
    refine lv_iconst (v := 0) hx hb dX11_broker_15 (by decide) ?_
    refine hp_iald hX hR dX11_broker_16 h (fun v5 h => ?_)
    refine lv_bipush (v := 7) hx hb dX11_broker_17 (by decide) ?_
    refine lv_icmp_ne (tgt := 25) hx hb dX11_broker_19 (by decide) (fun c6 => ?_) (fun c6 => ?_)
    · have h := hp_in c6 h
      refine lv_aload_n hx hb dX11_broker_25 rfl (lv_at hl 0 rfl) ?_
      refine hp_bn h (fun σ h7 h => ?_)
      refine hp_cv hR (hp_runV (rest := []) (As := []) hX hR (c_Mo_deed h7) cs_X11_198 rfl rfl rfl hd_Mo_deed ⟨Nat.le_of_ble_eq_true rfl, Nat.le_of_ble_eq_true rfl⟩ (ci := 10) rfl (hp_own_is h7) rfl hl.1 rfl (Nat.le_of_ble_eq_true rfl) dX11_broker_26 ⟨Nat.le_of_ble_eq_true rfl, Nat.le_of_ble_eq_true rfl⟩) (fun H locs hR => ?_)
      refine lv_aload_n hx hb dX11_broker_29 rfl (lv_at hl 0 rfl) ?_
      refine hp_getR hX hR (ci := 10) 0 rfl wf11 (by decide) wq3_167 dX11_broker_30 h (fun q8 h => ?_)
      refine lv_bipush (v := 8) hx hb dX11_broker_33 (by decide) ?_
      refine lv_aload_n hx hb dX11_broker_35 rfl (lv_at hl 0 rfl) ?_
      refine hp_getR hX hR (ci := 10) 0 rfl wf11 (by decide) wq3_167 dX11_broker_36 h (fun q9 h => ?_)
      refine lv_iconst (v := 0) hx hb dX11_broker_39 (by decide) ?_
      refine hp_iald hX hR dX11_broker_40 h (fun v10 h => ?_)
      refine lv_iadd hx hb dX11_broker_41 ?_
      refine lv_iload_n hx hb dX11_broker_42 rfl (lv_at hl 1 rfl) ?_
      refine hp_iast hX hR dX11_broker_43 h (fun σ H locs h hR => ?_)
      refine lv_aload_n hx hb dX11_broker_44 rfl (lv_at hl 0 rfl) ?_
      refine hp_getR hX hR (ci := 10) 0 rfl wf11 (by decide) wq3_167 dX11_broker_45 h (fun q11 h => ?_)
      refine lv_iconst (v := 0) hx hb dX11_broker_48 (by decide) ?_
      refine lv_dup2_11 hx hb dX11_broker_49 rfl rfl ?_
      refine hp_iald hX hR dX11_broker_50 h (fun v12 h => ?_)
      refine lv_iconst (v := 1) hx hb dX11_broker_51 (by decide) ?_
      refine lv_iadd hx hb dX11_broker_52 ?_
      refine hp_iast hX hR dX11_broker_53 h (fun σ H locs h hR => ?_)
      refine lv_aload_n hx hb dX11_broker_54 rfl (lv_at hl 0 rfl) ?_
      refine hp_getR hX hR (ci := 10) 0 rfl wf11 (by decide) wq3_167 dX11_broker_55 h (fun q13 h => ?_)
      refine lv_iconst (v := 0) hx hb dX11_broker_58 (by decide) ?_
      refine hp_iald hX hR dX11_broker_59 h (fun v14 h => ?_)
      refine lv_iconst (v := 1) hx hb dX11_broker_60 (by decide) ?_
      refine lv_isub hx hb dX11_broker_61 ?_
      exact hp_iret hX hlocks hr hR h dX11_broker_62
    · have h := hp_ip c6 h
      refine lv_ldc (v := (-1000000004)) hx hb hown (hts _ wq4_152) dX11_broker_22 ?_
      exact hp_iret hX hlocks hr hR h dX11_broker_24
  · have h := hp_ip c3 h
    refine lv_ldc (v := (-1000000001)) hx hb hown (hts _ wq4_89) dX11_broker_8 ?_
    exact hp_iret hX hlocks hr hR h dX11_broker_10
