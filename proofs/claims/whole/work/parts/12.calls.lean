/-! ===== rows: calls, returns, a method's contract out of its walk ===== -/
theorem hp_good : GoodIn wsA wsA := wsA_good
theorem hp_goodC {w : Cond} (h : w ∈ wsA) : GoodIn wsA (w :: wsA) := fun x hx => (List.mem_cons.mp hx).elim (fun e => by rw [e]; exact hp_good w h) (hp_good x)
section HPC
variable {p : Program} {l : Launch} {e : Env} {R : Room} {s : State} {m : MethodId} {args : Array Value} {below : List Frame} {meth : Method} {c : Code} {H : Heap} {locs : List Loc} {cells slots : Nat} {Q : State → Prop}
variable {cc : ByteArray} {pc nL : Nat} {ls : Array Slot} {rest st0 : List Value} {G : hp_G} {b : Nat} {H0 : Heap} {σ σ' : hp_H} {own : String} {α : Type} {out : α} {a : Nat}
variable {y : MethodName} {bytes : ByteArray} {maxL mc ms n index : Nat} {ret : Option FieldType} {rm : Room} {As : List Value} {rv : Option Value}
theorem hp_call {aa : Array Value} (hr : va_Run p l e R s m args below meth c H locs cells slots mc ms (F0 m pc ls st0) rest (hp_Qc G b rv σ' aa) (fun q => b ≤ q)) (hR : hp_R G b H0 σ H locs)
    (kk : ∀ (H1 : Heap) (locs1 : List Loc), hp_R G b H0 σ' H1 locs1 → W p l e R s m args below meth c H1 locs1 (cells + mc) (slots + ms) Q (F0 m (pc + 3) ls (rv.toList ++ rest))) : W p l e R s m args below meth c H locs cells slots Q (F0 m pc ls st0) := by
  intro T hT X
  obtain ⟨v, st₀, t, T', L, h0, X', hL, e1, e2, ⟨hv, hB, hz, hk⟩, st⟩ := hr T hT X
  cases hv
  rw [h0] at hz hk
  have hS := hR.2
  obtain ⟨t2, a1, b1⟩ := kk T'.heap (locs ++ L) ⟨by rw [e1]; exact hB, Nat.le_trans hS.1 (by rw [e1]; exact hz), fun q h1 h2 => by rw [e1, hk q (Nat.lt_of_lt_of_le h1 hS.1) h2]; exact hS.2.1 q h1 h2, fun q hq => by
      rcases List.mem_append.mp hq with h | h
      · exact hS.2.2 q h
      · exact hL q h⟩ T' rfl X'
  exact ⟨t2, st t2 a1, b1⟩
theorem hp_preS (hX : hp_X G p s m c args cc nL own) (hR : hp_R G b H0 σ H locs) : PreS s H (hp_Pc G b As σ) As := ⟨hp_blind, fun U hU hW => ⟨rfl, by rw [hU]; exact hR.1, hX.2.warm hW⟩⟩
theorem hp_preV (hX : hp_X G p s m c args cc nL own) (hR : hp_R G b H0 σ H locs) {C : String} {T : u_T} {N ci : Nat} (hc : vwCl[ci]? = some (C, T, N)) (hi : hp_is σ a ci) : PreV s H C a (hp_Pc G b (.ref a :: As) σ) As := by
  obtain ⟨fs, e1⟩ := hi
  exact ⟨hp_blind, va_recv hX.2.1 (hp_one hR e1) (q0 := 0) hc rfl, fun U hU hW => ⟨rfl, by rw [hU]; exact hR.1, hX.2.warm hW⟩⟩
/-- words of a call of an instance method -/
def hp_WV (own : String) (index : Nat) (C : String) (y : MethodName) (bytes : ByteArray) (maxL : Nat) (ret : Option FieldType) : Prop := Cond.methodLink own index y ∈ wsA ∧ Cond.instanceMethod y ∈ wsA ∧ Cond.selects C y y ∈ wsA ∧ Cond.initialized C ∈ wsA ∧ Cond.code y bytes maxL ret ∈ wsA
def hp_WS (own : String) (index : Nat) (y : MethodName) (bytes : ByteArray) (maxL : Nat) (ret : Option FieldType) : Prop := Cond.methodLink own index y ∈ wsA ∧ Cond.static y ∈ wsA ∧ Cond.initialized y.cls ∈ wsA ∧ Cond.code y bytes maxL ret ∈ wsA
def hp_WI (own : String) (index : Nat) (y : MethodName) (bytes : ByteArray) (maxL : Nat) : Prop := Cond.methodLink own index y ∈ wsA ∧ Cond.instanceMethod y ∈ wsA ∧ Cond.initialized y.cls ∈ wsA ∧ Cond.code y bytes maxL none ∈ wsA
def hp_WSN (own : String) (index : Nat) (y : MethodName) (host : String) (bytes : ByteArray) (maxL : Nat) (ret : Option FieldType) : Prop := (own, index, y, host) ∈ hp_nest ∧ Cond.static y ∈ wsA ∧ Cond.initialized y.cls ∈ wsA ∧ Cond.code y bytes maxL ret ∈ wsA
def hp_WIN (own : String) (index : Nat) (y : MethodName) (host : String) (bytes : ByteArray) (maxL : Nat) : Prop := (own, index, y, host) ∈ hp_nest ∧ Cond.instanceMethod y ∈ wsA ∧ Cond.initialized y.cls ∈ wsA ∧ Cond.code y bytes maxL none ∈ wsA
abbrev hp_Met (l : Launch) (y : MethodName) (bytes : ByteArray) (maxL : Nat) (ret : Option FieldType) (rm : Room) (G : hp_G) (b : Nat) (as : List Value) (σ : hp_H) (rv : Option Value) (σ' : hp_H) (mc ms : Nat) : Prop := Met l y (Cond.code y bytes maxL ret :: wsA) rm (hp_Pc G b as σ) (hp_Qc G b rv σ') mc ms (fun q => b ≤ q)
abbrev hp_d (y : MethodName) (n : Nat) : Prop := y.cls ≠ "java/lang/invoke/MethodHandle" ∧ y.cls ≠ "java/lang/invoke/VarHandle" ∧ (parseMethodDescriptor y.desc).map (fun d => d.parameters.length) = some n
theorem hp_runV (hX : hp_X G p s m c args cc nL own) (hR : hp_R G b H0 σ H locs) (hM : hp_Met l y bytes maxL ret rm G b (.ref a :: As) σ rv σ' mc ms) {C : String} (hw : hp_WV own index C y bytes maxL ret) (hC : y.cls = C) (hrc : rm.cells = mc) (hrs : rm.slots = ms) (hd : hp_d y n) (hroom : rm.frames + 1 ≤ R.frames ∧ 8 + (maxL + 11) + rm.locals ≤ R.locals) {T : u_T} {N ci : Nat} (hc : vwCl[ci]? = some (C, T, N)) (hi : hp_is σ a ci) (hn : As.length = n) (hsize : ls.size = nL) (hst : st0 = As.reverse ++ .ref a :: rest) (hrest : (rest.map fun v => v.category).sum ≤ 8) (hdg : decode cc pc = .ok (.invokevirtual index, 3)) (hf : cells + mc ≤ R.cells ∧ slots + ms ≤ R.slots) :
    va_Run p l e R s m args below meth c H locs cells slots mc ms (F0 m pc ls st0) rest (hp_Qc G b rv σ' (Value.ref a :: As).toArray) (fun q => b ≤ q) := by
  obtain ⟨w1, w2, w3, w4, w5⟩ := hw
  subst hC
  have hG : GoodIn wsA (wsV own index y.cls y (Cond.code y bytes maxL ret :: wsA)) := by
    intro w hw
    rcases List.mem_append.mp hw with h | h
    · simp only [List.mem_cons, List.not_mem_nil, or_false] at h
      rcases h with rfl | rfl | rfl | rfl
      · exact hp_good _ w1
      · exact hp_good _ w2
      · exact hp_good _ w3
      · exact hp_good _ w4
    · exact hp_goodC w5 w h
  exact va_runV hX.1 hM (cwV n hX.1.2.2.2.2 hG rfl hrc hrs ⟨rfl, hd⟩ hroom) (hp_preV hX hR hc hi) rfl hn hsize hst (lv_room hrest) hdg hf
theorem hp_runS (hX : hp_X G p s m c args cc nL own) (hR : hp_R G b H0 σ H locs) (hM : hp_Met l y bytes maxL ret rm G b As σ rv σ' mc ms) (hw : hp_WS own index y bytes maxL ret) (hrc : rm.cells = mc) (hrs : rm.slots = ms) (hd : hp_d y n) (hroom : rm.frames + 1 ≤ R.frames ∧ 8 + (maxL + 11) + rm.locals ≤ R.locals) (hn : As.length = n) (hsize : ls.size = nL) (hst : st0 = As.reverse ++ rest) (hrest : (rest.map fun v => v.category).sum ≤ 8) (hdg : decode cc pc = .ok (.invokestatic index, 3)) (hf : cells + mc ≤ R.cells ∧ slots + ms ≤ R.slots) :
    va_Run p l e R s m args below meth c H locs cells slots mc ms (F0 m pc ls st0) rest (hp_Qc G b rv σ' As.toArray) (fun q => b ≤ q) := by
  obtain ⟨w1, w2, w3, w4⟩ := hw
  have hts := hX.1.2.2.2.2
  exact va_runS hX.1 hM ⟨callB_of n hts (hp_goodC w4) rfl hrc hrs (hts _ w3) (hts _ w1) hd hroom, hts _ w2⟩ (hp_preS hX hR) rfl hn hsize hst (lv_room hrest) hdg hf
theorem hp_runI (hX : hp_X G p s m c args cc nL own) (hR : hp_R G b H0 σ H locs) (hM : hp_Met l y bytes maxL none rm G b (.ref a :: As) σ rv σ' mc ms) (hw : hp_WI own index y bytes maxL) (hy : y.name = "<init>") (hrc : rm.cells = mc) (hrs : rm.slots = ms) (hd : hp_d y n) (hroom : rm.frames + 1 ≤ R.frames ∧ 8 + (maxL + 11) + rm.locals ≤ R.locals) (hn : As.length = n) (hsize : ls.size = nL) (hst : st0 = As.reverse ++ .ref a :: rest) (hrest : (rest.map fun v => v.category).sum ≤ 8) (hdg : decode cc pc = .ok (.invokespecial index, 3)) (hf : cells + mc ≤ R.cells ∧ slots + ms ≤ R.slots) :
    va_Run p l e R s m args below meth c H locs cells slots mc ms (F0 m pc ls st0) rest (hp_Qc G b rv σ' (Value.ref a :: As).toArray) (fun q => b ≤ q) := by
  obtain ⟨w1, w2, w3, w4⟩ := hw
  have hts := hX.1.2.2.2.2
  exact va_runI hX.1 hM (cwI n hts (hp_goodC w4) rfl hrc hrs (hts _ w3) (hts _ w1) (hts _ w2) hy hd hroom) (hp_preS hX hR) rfl hn hsize hst (lv_room hrest) hdg hf
theorem hp_runSN (hX : hp_X G p s m c args cc nL own) (hR : hp_R G b H0 σ H locs) (hM : hp_Met l y bytes maxL ret rm G b As σ rv σ' mc ms) {host : String} (hw : hp_WSN own index y host bytes maxL ret) (hrc : rm.cells = mc) (hrs : rm.slots = ms) (hd : hp_d y n) (hroom : rm.frames + 1 ≤ R.frames ∧ 8 + (maxL + 11) + rm.locals ≤ R.locals) (hn : As.length = n) (hsize : ls.size = nL) (hst : st0 = As.reverse ++ rest) (hrest : (rest.map fun v => v.category).sum ≤ 8) (hdg : decode cc pc = .ok (.invokestatic index, 3)) (hf : cells + mc ≤ R.cells ∧ slots + ms ≤ R.slots) :
    va_Run p l e R s m args below meth c H locs cells slots mc ms (F0 m pc ls st0) rest (hp_Qc G b rv σ' As.toArray) (fun q => b ≤ q) := by
  obtain ⟨w1, w2, w3, w4⟩ := hw
  have hts := hX.1.2.2.2.2
  exact va_runSN hX.1 hM ⟨va_cnB n hts (hp_goodC w4) rfl hrc hrs (hX.2.2.1 _ w1) (hts _ w3) hd hroom, hts _ w2, trivial⟩ (hp_preS hX hR) rfl hn hsize hst (lv_room hrest) hdg hf
theorem hp_runIN (hX : hp_X G p s m c args cc nL own) (hR : hp_R G b H0 σ H locs) (hM : hp_Met l y bytes maxL none rm G b (.ref a :: As) σ rv σ' mc ms) {host : String} (hw : hp_WIN own index y host bytes maxL) (hy : y.name = "<init>") (hrc : rm.cells = mc) (hrs : rm.slots = ms) (hd : hp_d y n) (hroom : rm.frames + 1 ≤ R.frames ∧ 8 + (maxL + 11) + rm.locals ≤ R.locals) (hn : As.length = n) (hsize : ls.size = nL) (hst : st0 = As.reverse ++ .ref a :: rest) (hrest : (rest.map fun v => v.category).sum ≤ 8) (hdg : decode cc pc = .ok (.invokespecial index, 3)) (hf : cells + mc ≤ R.cells ∧ slots + ms ≤ R.slots) :
    va_Run p l e R s m args below meth c H locs cells slots mc ms (F0 m pc ls st0) rest (hp_Qc G b rv σ' (Value.ref a :: As).toArray) (fun q => b ≤ q) := by
  obtain ⟨w1, w2, w3, w4⟩ := hw
  have hts := hX.1.2.2.2.2
  exact va_runIN hX.1 hM ⟨va_cnB n hts (hp_goodC w4) rfl hrc hrs (hX.2.2.1 _ w1) (hts _ w3) hd hroom, hy, hts _ w2⟩ (hp_preS hX hR) rfl hn hsize hst (lv_room hrest) hdg hf
/-- behind a call: an int, nothing, a reference -/
theorem hp_ci {r : Int32} {aa : Array Value} (hR : hp_R G b H0 σ H locs) (hr : va_Run p l e R s m args below meth c H locs cells slots mc ms (F0 m pc ls st0) rest (hp_Qc G b (some (.int r)) σ' aa) (fun q => b ≤ q))
    (kk : ∀ (H1 : Heap) (locs1 : List Loc), hp_R G b H0 σ' H1 locs1 → W p l e R s m args below meth c H1 locs1 (cells + mc) (slots + ms) Q (F0 m (pc + 3) ls (.int r :: rest))) : W p l e R s m args below meth c H locs cells slots Q (F0 m pc ls st0) := hp_call hr hR kk
theorem hp_cv {aa : Array Value} (hR : hp_R G b H0 σ H locs) (hr : va_Run p l e R s m args below meth c H locs cells slots mc ms (F0 m pc ls st0) rest (hp_Qc G b none σ' aa) (fun q => b ≤ q))
    (kk : ∀ (H1 : Heap) (locs1 : List Loc), hp_R G b H0 σ' H1 locs1 → W p l e R s m args below meth c H1 locs1 (cells + mc) (slots + ms) Q (F0 m (pc + 3) ls rest)) : W p l e R s m args below meth c H locs cells slots Q (F0 m pc ls st0) := hp_call hr hR kk
theorem hp_cr {r : Nat} {aa : Array Value} (hR : hp_R G b H0 σ H locs) (hr : va_Run p l e R s m args below meth c H locs cells slots mc ms (F0 m pc ls st0) rest (hp_Qc G b (some (.ref r)) σ' aa) (fun q => b ≤ q))
    (kk : ∀ (H1 : Heap) (locs1 : List Loc), hp_R G b H0 σ' H1 locs1 → W p l e R s m args below meth c H1 locs1 (cells + mc) (slots + ms) Q (F0 m (pc + 3) ls (.ref r :: rest))) : W p l e R s m args below meth c H locs cells slots Q (F0 m pc ls st0) := hp_call hr hR kk
/-- the ends -/
theorem hp_iret {out : Int32 × hp_H} {v : Int32} (hX : hp_X G p s m c args cc nL own) (hlocks : meth.locks = false) (hr : meth.sig.returnType = some .int) (hR : hp_R G b s.heap σ H locs) (h : some (v, σ) = some out) (hdg : decode cc pc = .ok (.ireturn, 1)) :
    W p l e R s m args below meth c H locs cells slots (MQ below (hp_Qc G b (some (.int out.1)) out.2) args s cells slots (fun q => b ≤ q)) (F0 m pc ls [.int v]) := by
  cases h
  exact W.iret hX.1.1 hX.1.2.1 hr (fun t ht hW => ⟨rfl, by rw [ht]; exact hR.1, hR.2.F ht⟩) hR.2.2.2 hdg hlocks
theorem hp_zret {out : Int32 × hp_H} {v : Int32} (hX : hp_X G p s m c args cc nL own) (hlocks : meth.locks = false) (hr : meth.sig.returnType = some .boolean) (hR : hp_R G b s.heap σ H locs) (h : hp_z v (some (v, σ)) = some out) (hdg : decode cc pc = .ok (.ireturn, 1)) :
    W p l e R s m args below meth c H locs cells slots (MQ below (hp_Qc G b (some (.int out.1)) out.2) args s cells slots (fun q => b ≤ q)) (F0 m pc ls [.int v]) := by
  obtain ⟨hz, h⟩ := hp_z_to h
  cases h
  exact W.zret hX.1.1 hX.1.2.1 hr (hp_narZ hz).1 (fun t ht hW => ⟨rfl, by rw [ht]; exact hR.1, hR.2.F ht⟩) hR.2.2.2 hdg hlocks
theorem hp_vret {out : hp_H} (hX : hp_X G p s m c args cc nL own) (hlocks : meth.locks = false) (hr : meth.sig.returnType = none) (hR : hp_R G b s.heap σ H locs) (h : some σ = some out) (hdg : decode cc pc = .ok (.return_, 1)) :
    W p l e R s m args below meth c H locs cells slots (MQ below (hp_Qc G b none out) args s cells slots (fun q => b ≤ q)) (F0 m pc ls []) := by
  cases h
  exact W.vret hX.1.1 hX.1.2.1 hr (fun t ht hW => ⟨rfl, by rw [ht]; exact hR.1, hR.2.F ht⟩) hR.2.2.2 hdg hlocks
theorem hp_aret {out : Nat × hp_H} {v : Nat} {C : String} (hX : hp_X G p s m c args cc nL own) (hlocks : meth.locks = false) (hr : meth.sig.returnType = some (.object C)) (hR : hp_R G b s.heap σ H locs) (h : some (v, σ) = some out) (hdg : decode cc pc = .ok (.areturn, 1)) :
    W p l e R s m args below meth c H locs cells slots (MQ below (hp_Qc G b (some (.ref out.1)) out.2) args s cells slots (fun q => b ≤ q)) (F0 m pc ls [.ref v]) := by
  cases h
  exact W.aret hX.1.1 hX.1.2.1 hr (Or.inl ⟨_, rfl⟩) (Or.inr ⟨_, rfl⟩) (fun t ht hW => ⟨rfl, by rw [ht]; exact hR.1, hR.2.F ht⟩) hR.2.2.2 hdg hlocks
/-- a method's contract out of its walk -/
theorem hp_met {as : List Value} (hy : plainName y.cls = true) (hlen : (lg_sl as).length ≤ maxL)
    (body : ∀ (p : Program) (e : Env) (s : State) (m : MethodId) (below : List Frame) (meth : Method) (c : Code) (ls : Array Slot), hp_X G p s m c as.toArray bytes maxL y.cls → meth.locks = false → meth.sig.returnType = ret → meth.name = y.name → lv_has ls maxL (lv_args 0 as) → hp_R G b s.heap σ s.heap [] →
      W p l e rm s m as.toArray below meth c s.heap [] 0 0 (MQ below (hp_Qc G b rv σ') as.toArray s mc ms (fun q => b ≤ q)) (F0 m 0 ls [])) : hp_Met l y bytes maxL ret rm G b as σ rv σ' mc ms := by
  refine Met.ofW (cc := bytes) (maxL := maxL) (ret := ret) hy rfl ?_
  intro p e s m args below meth c s₁ B hml hv
  obtain ⟨rfl, hB, hK⟩ := hv
  have hts := atoms_spec (ws := Cond.code y bytes maxL ret :: wsA) B.pre
  have hl := lv_entry as (n := maxL) hlen
  rw [lg_entry_eq]
  exact body p e s m below meth c _ ⟨⟨B.exec, B.bytes, hml, findClass_of_methodNamed B.named, fun w hw => hts w (List.mem_cons_of_mem _ hw)⟩, hK⟩ B.notSynchronized B.returns (name_of_methodNamed B.named B.method).1 hl ⟨hB, va_S.rf⟩
/-- System.arraycopy of ints -/
theorem hp_copy (hX : hp_X G p s m c args cc nL own) (hR : hp_R G b H0 σ H locs) (hl : Cond.methodLink own index arraycopyName ∈ wsA) (hw : Cond.native arraycopyName ∈ wsA ∧ Cond.static arraycopyName ∈ wsA ∧ Cond.initialized "java/lang/System" ∈ wsA) (hsize : ls.size = nL) (hframes : 1 ≤ R.frames) (hlocals : (rest.map fun v => v.category).sum + (nativeFrameWords "java/lang/System" "arraycopy" 5 + 11) ≤ R.locals) (hdg : decode cc pc = .ok (.invokestatic index, 3)) {a0 : Nat} {sp dp n : Int32} {K : hp_H → Option α} (h : (hp_cp σ a0 sp a dp n).bind K = some out)
    (kk : ∀ (σ' : hp_H) (H1 : Heap) (locs1 : List Loc), K σ' = some out → hp_R G b H0 σ' H1 locs1 → W p l e R s m args below meth c H1 locs1 cells slots Q (F0 m (pc + 3) ls rest)) : W p l e R s m args below meth c H locs cells slots Q (F0 m pc ls (.int n :: .int dp :: .ref a :: .int sp :: .ref a0 :: rest)) := by
  obtain ⟨⟨hx, hb, hml, hown, hts⟩, hK⟩ := hX
  obtain ⟨σ', h1', h2'⟩ := Option.bind_eq_some_iff.mp h
  obtain ⟨x, g1, h3'⟩ := Option.bind_eq_some_iff.mp h1'
  obtain ⟨y, g2, h4'⟩ := Option.bind_eq_some_iff.mp h3'
  split at h4'
  case isFalse => cases h4'
  rename_i hcnd
  obtain ⟨⟨h1, h2, h3⟩, h4, h5⟩ := hcnd
  cases h4'
  obtain ⟨n0, f⟩ := x
  obtain ⟨n1, g⟩ := y
  have s0 := hp_row_to g1
  have s1 := hp_row_to g2
  have nn : ∀ z : Int32, ¬ z < 0 → z.toInt = (z.toNatClampNeg : Int) := by
    intro z hz
    have hz0 : (0 : Int) ≤ z.toInt := by
      have := Int32.not_lt.mp hz
      simpa using Int32.le_iff_toInt_le.mp this
    show z.toInt = ((z.toInt.toNat : Nat) : Int)
    omega
  intro T hT X
  have hc0 : H[a0]? = some (vp_cell (G.2 0) (n0, .inl f)) := (hR.1.2.2 a0 _ s0).2
  have hc1 : H[a]? = some (vp_cell (G.2 0) (n1, .inl g)) := (hR.1.2.2 a _ s1).2
  obtain ⟨-, k0, hk0, cm0, hkk0⟩ := (hK.1.2 0 _ rfl).1 n0 (fun j => .int (f j))
  obtain ⟨vm', X', step⟩ := X.arraycopy hx hown (hts _ hl) (hts _ hw.1) (hts _ hw.2.1) (hts _ hw.2.2) (src := a0) (dst := a) (cs := vp_cell (G.2 0) (n0, .inl f)) (cd := vp_cell (G.2 0) (n1, .inl g)) (srcPos := sp) (destPos := dp) (n := n) (by rw [hT]; exact hc0) (by rw [hT]; exact hc1)
    (fun _ h => by cases h) (fun _ h => by cases h) (fun h => by cases h) (fun h => by cases h) hk0 hk0 hkk0 hkk0 (by simp [refKind]) h1 h2 h3
    (by rw [nn sp h1, nn n h3]; show ¬ _ > ((arrV (G.2 0) n0 (fun j => .int (f j))).slots.size : Int); rw [arrV_size]; have h4 : sp.toNatClampNeg + n.toNatClampNeg ≤ n0 := h4; omega)
    (by rw [nn dp h2, nn n h3]; show ¬ _ > ((arrV (G.2 0) n1 (fun j => .int (g j))).slots.size : Int); rw [arrV_size]; have h5 : dp.toNatClampNeg + n.toNatClampNeg ≤ n1 := h5; omega)
    (fun vm₁ _ i hi => by
      have e : (vp_cell (G.2 0) (n0, .inl f)).slots.getD (sp.toNatClampNeg + i) .null = .int (f (sp.toNatClampNeg + i)) := by
        show (arrV (G.2 0) n0 (fun j => .int (f j))).slots.getD _ _ = _
        have h4 : sp.toNatClampNeg + n.toNatClampNeg ≤ n0 := h4
        rw [Array.getD_eq_getD_getElem?, arrV_read _ _ (by omega)]
        rfl
      refine ⟨?_, ?_⟩
      · rw [e]
        rfl
      · rw [e]
        exact trivial)
    (g := F0 m pc ls (.int n :: .int dp :: .ref a :: .int sp :: .ref a0 :: rest)) rfl (by rw [hml]; exact hsize) (rest := rest) rfl (by rw [hb]; exact hdg) hframes (by show 2 * 0 + _ + _ ≤ _; omega)
  have e1 : copied (vp_cell (G.2 0) (n0, .inl f)) (vp_cell (G.2 0) (n1, .inl g)) sp dp n = vp_cell (G.2 0) (n1, .inl (va_cpy f g sp.toNatClampNeg dp.toNatClampNeg n.toNatClampNeg)) := va_copied (fun z => .int z) (G.2 0) (G.2 0) f g h4
  rw [e1] at X' step
  have hl : a < H.size := (Array.getElem?_eq_some_iff.mp hc1).1
  have hheap : ((T.setVm vm').setCell a (vp_cell (G.2 0) (n1, .inl (va_cpy f g sp.toNatClampNeg dp.toNatClampNeg n.toNatClampNeg)))).heap = H.setIfInBounds a (vp_cell (G.2 0) (n1, .inl (va_cpy f g sp.toNatClampNeg dp.toNatClampNeg n.toNatClampNeg))) := by rw [← hT]; rfl
  have oq : ∀ q : Nat, q ≠ a → (H.setIfInBounds a (vp_cell (G.2 0) (n1, .inl (va_cpy f g sp.toNatClampNeg dp.toNatClampNeg n.toNatClampNeg))))[q]? = H[q]? := fun q hq => by simp [Array.getElem?_setIfInBounds, Ne.symm hq]
  obtain ⟨t, a1, b1⟩ := kk _ _ _ h2' (hR.upd s1 (by simp) oq (show (H.setIfInBounds a _)[a]? = some _ by simp [Array.getElem?_setIfInBounds, hl]) (fun q hq => by
        obtain ⟨z, -, hz⟩ := List.mem_map.mp hq
        rw [← hz])) _ hheap X'
  exact ⟨t, step t a1, b1⟩
end HPC
