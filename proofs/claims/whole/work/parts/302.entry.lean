/-! ===== the law's entry ===== -/
theorem hp_prim {s : State} {args : Array Value} {ty : FieldType} (h : (Cond.arrayClass ty).before args s = true) : ∃ cA : ClassId, ArrOfT s cA ty ∧ s.vm.findClass ("[" ++ ty.toString) = some cA := by
  obtain ⟨cA, kA, comp, h1, h2, h3⟩ := Cond.arrayClass_spec h
  exact ⟨cA, fun n z => ⟨fun k h => (by cases h), kA, h2, comp, h3⟩, h1⟩
theorem hp_refs {s : State} {C : String} (h : va_AO C s) : ∃ cA : ClassId, ArrOfT s cA (.object C) ∧ va_RA s cA (.object C) := by
  obtain ⟨comp, cA, kA, h1, h2, h3, h4, h5⟩ := Cond.arrayOver_spec h
  exact ⟨cA, fun n z => ⟨fun k h => (by cases h), kA, h3, comp, h4⟩, kA, comp, h3, h4, h1, h5⟩
set_option maxHeartbeats 4000000 in
set_option maxRecDepth 100000 in
theorem hp_entry {s : State} {args : Array Value} (hts : ∀ w ∈ lw_tbl, w.before args s = true) : ∃ G : hp_G, hp_K G s := by
  have hta : ∀ w ∈ wsA, w.before args s = true := fun w h => hts w (wsA_in w h)
  obtain ⟨c0, i0, k0⟩ := u_known (C := RX0) (T := TX0) (N := 3) (n := 3) hta wf0 (hta _ wq1_203)
  obtain ⟨c1, i1, k1⟩ := u_known (C := RX2) (T := TX2) (N := 2) (n := 2) hta wf2 (hta _ wq1_127)
  obtain ⟨c2, i2, k2⟩ := u_known (C := RX3) (T := TX3) (N := 7) (n := 7) hta wf3 (hta _ wq1_32)
  obtain ⟨c3, i3, k3⟩ := u_known (C := RX4) (T := TX4) (N := 1) (n := 1) hta wf4 (hta _ wq1_220)
  obtain ⟨c4, i4, k4⟩ := u_known (C := RX5) (T := TX5) (N := 3) (n := 3) hta wf5 (hta _ wq1_233)
  obtain ⟨c5, i5, k5⟩ := u_known (C := RX6) (T := TX6) (N := 5) (n := 5) hta wf6 (hta _ wq1_154)
  obtain ⟨c6, i6, k6⟩ := u_known (C := RX7) (T := TX7) (N := 3) (n := 3) hta wf7 (hta _ wq1_183)
  obtain ⟨c7, i7, k7⟩ := u_known (C := RX8) (T := TX8) (N := 11) (n := 11) hta wf8 (hta _ wq1_25)
  obtain ⟨c8, i8, k8⟩ := u_known (C := RX9) (T := TX9) (N := 3) (n := 3) hta wf9 (hta _ wq1_120)
  obtain ⟨c9, i9, k9⟩ := u_known (C := RX10) (T := TX10) (N := 7) (n := 7) hta wf10 (hta _ wq1_17)
  obtain ⟨c10, i10, k10⟩ := u_known (C := RX11) (T := TX11) (N := 19) (n := 19) hta wf11 (hta _ wq3_162)
  obtain ⟨a0, b0, d0⟩ := hp_prim (hta _ wq1_66)
  obtain ⟨a1, b1, d1⟩ := hp_prim (hta _ wq3_225)
  have o2 : va_AO RX2 s := va_AO.of (hts _ wq1_126)
  obtain ⟨a2, b2, d2⟩ := hp_refs o2
  have o3 : va_AO RX3 s := va_AO.of (hts _ wq1_31)
  obtain ⟨a3, b3, d3⟩ := hp_refs o3
  have o4 : va_AO RX5 s := va_AO.of (hts _ wq1_232)
  obtain ⟨a4, b4, d4⟩ := hp_refs o4
  have o5 : va_AO RX8 s := va_AO.of (hts _ wq1_189)
  obtain ⟨a5, b5, d5⟩ := hp_refs o5
  refine ⟨((fun k => if k = 0 then c0 else if k = 1 then c1 else if k = 2 then c2 else if k = 3 then c3 else if k = 4 then c4 else if k = 5 then c5 else if k = 6 then c6 else if k = 7 then c7 else if k = 8 then c8 else if k = 9 then c9 else c10, fun k => if k = 0 then i0 else if k = 1 then i1 else if k = 2 then i2 else if k = 3 then i3 else if k = 4 then i4 else if k = 5 then i5 else if k = 6 then i6 else if k = 7 then i7 else if k = 8 then i8 else if k = 9 then i9 else i10), fun k => if k = 0 then a0 else if k = 1 then a1 else if k = 2 then a2 else if k = 3 then a3 else if k = 4 then a4 else a5), ⟨?_, ?_⟩, ?_, ?_⟩
  · intro k q hq
    match k, hq with
    | 0, hq => cases hq; exact k0
    | 1, hq => cases hq; exact k1
    | 2, hq => cases hq; exact k2
    | 3, hq => cases hq; exact k3
    | 4, hq => cases hq; exact k4
    | 5, hq => cases hq; exact k5
    | 6, hq => cases hq; exact k6
    | 7, hq => cases hq; exact k7
    | 8, hq => cases hq; exact k8
    | 9, hq => cases hq; exact k9
    | 10, hq => cases hq; exact k10
    | k + 11, hq => simp [vwCl] at hq
  · intro k q hq
    match k, hq with
    | 0, hq => cases hq; exact ⟨b0, d0⟩
    | 1, hq => cases hq; exact ⟨b1, d1⟩
    | 2, hq => cases hq; exact ⟨b2, d2⟩
    | 3, hq => cases hq; exact ⟨b3, d3⟩
    | 4, hq => cases hq; exact ⟨b4, d4⟩
    | 5, hq => cases hq; exact ⟨b5, d5⟩
    | k + 6, hq => simp [hp_tys] at hq
  · intro q hq
    simp only [hp_nest, List.mem_cons, List.not_mem_nil, or_false] at hq
    rcases hq with rfl | rfl | rfl | rfl | rfl | rfl | rfl | rfl | rfl | rfl
    · exact va_Nw.of rfl (hts _ wq1_33)
    · exact va_Nw.of rfl (hts _ wq1_128)
    · exact va_Nw.of rfl (hts _ wq1_155)
    · exact va_Nw.of rfl (hts _ wq1_204)
    · exact va_Nw.of rfl (hts _ wq1_221)
    · exact va_Nw.of rfl (hts _ wq1_234)
    · exact va_Nw.of rfl (hts _ wq2_57)
    · exact va_Nw.of rfl (hts _ wq2_60)
    · exact va_Nw.of rfl (hts _ wq2_94)
    · exact va_Nw.of rfl (hts _ wq2_217)
  · intro C hC
    simp only [hp_over, List.mem_cons, List.not_mem_nil, or_false] at hC
    rcases hC with rfl | rfl | rfl | rfl
    · exact o2
    · exact o3
    · exact o4
    · exact o5
/-! THE LAW, from its entry, where the pure law answers -/
set_option maxHeartbeats 4000000 in
theorem law_start (pure : ∀ (xs : Nat → Int32) (L n : Nat), L ≤ 4096 → f_Law xs L (fun _ => none, n) = some ()) {p : Program} {e : Env} {s : State} {m : MethodId} {below : List Frame} {meth : Method} {c : Code} (l : Launch) {b L : Nat} {xs : Nat → Int32} (hL : L ≤ 4096) (C0 : lw_At p s m meth c b L xs) : W p l e room_1 s m #[Value.ref b] below meth c s.heap [] 0 0 (lw_Z below #[Value.ref b] s) (entryFrame m ([Value.ref b] : List Value).toArray 4) := by
  obtain ⟨hx, hb, hr, hml, hown, hts, hX, hbl, hlocks, hgv⟩ := id C0
  obtain ⟨G, hK⟩ := hp_entry hts
  have hl := lv_entry ([.ref b]) (n := 4) (Nat.le_of_ble_eq_true rfl)
  rw [lg_entry_eq]
  generalize (lg_sl ([.ref b]) ++ List.replicate (4 - (lg_sl ([.ref b])).length) Slot.unset).toArray = ls at hl ⊢
  have hl : lv_has ls 4 [(0, .ref b)] := hl
  exact w_Law (G := G) (σ := (fun _ => none, s.heap.size)) ⟨⟨hx, hb, hml, hown, fun w h => hts w (wsA_in w h)⟩, hK⟩ hb ⟨hX, hbl⟩ hlocks hr ⟨⟨Nat.le_refl _, rfl, fun a v h => by cases h⟩, va_S.rf⟩ (pure xs L s.heap.size hL) hl
