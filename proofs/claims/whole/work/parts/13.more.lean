/-! ===== small rows that the generated walks use ===== -/
theorem hp_ip {α : Type} {cd : Prop} [Decidable cd] {A B : Option α} {o : α} (hc : cd) (h : (if cd then A else B) = some o) : A = some o := by rw [if_pos hc] at h; exact h
theorem hp_in {α : Type} {cd : Prop} [Decidable cd] {A B : Option α} {o : α} (hc : ¬ cd) (h : (if cd then A else B) = some o) : B = some o := by rw [if_neg hc] at h; exact h
theorem hp_bn {α β : Type} {o : Option α} {K : α → Option β} {r : β} {P : Prop} (h : o.bind K = some r) (k : ∀ v, o = some v → K v = some r → P) : P := by
  obtain ⟨v, h1, h2⟩ := Option.bind_eq_some_iff.mp h
  exact k v h1 h2
theorem hp_b2 {α β : Type} {o : Option (α × hp_H)} {K : α → hp_H → Option β} {r : β} {P : Prop} (h : hp_b o K = some r) (k : ∀ v σ', o = some (v, σ') → K v σ' = some r → P) : P := by
  obtain ⟨v, σ', h1, h2⟩ := hp_b_to h
  exact k v σ' h1 h2
/-- a new cell: its address, and the heap with it -/
def hp_nw {β : Type} (σ : hp_H) (v : hp_V) (k : Nat → hp_H → Option β) : Option β := k σ.2 (hp_add σ v)
section HPM
variable {p : Program} {l : Launch} {e : Env} {R : Room} {s : State} {m : MethodId} {args : Array Value} {below : List Frame} {meth : Method} {c : Code} {H : Heap} {locs : List Loc} {cells slots : Nat} {Q : State → Prop}
variable {cc : ByteArray} {pc nL : Nat} {ls : Array Slot} {rest : List Value} {G : hp_G} {b : Nat} {H0 : Heap} {σ : hp_H} {own : String} {α : Type} {out : α} {a : Nat}
theorem hp_newO (hX : hp_X G p s m c args cc nL own) (hR : hp_R G b H0 σ H locs) {C : String} {T : u_T} {N ci index : Nat} (hc : vwCl[ci]? = some (C, T, N)) (hin : ∀ w ∈ u_ws C T N, w ∈ wsA) {ty0 : Nat → FieldType} (hty : ∀ k, k < N → parseFieldDescriptor (T k).2.2.1 = some (ty0 k)) (hcl : Cond.classLink own index C ∈ wsA) (hinst : Cond.instantiable C N ∈ wsA) (hini : Cond.initialized C ∈ wsA) {fs : List Value} (hfs : (List.range N).all (fun j => decide (defaultValue (ty0 j) = vp_V fs j)) = true) (hcells : cells + 1 ≤ R.cells) (hslots : slots + N ≤ R.slots) (hdg : decode cc pc = .ok (.new index, 3)) {K : Nat → hp_H → Option α} (h : hp_nw σ (.inl (ci, fs)) K = some out)
    (kk : ∀ (q : Nat) (σ' : hp_H) (H1 : Heap), K q σ' = some out → hp_R G b H0 σ' H1 locs → W p l e R s m args below meth c H1 locs (cells + 1) (slots + N) Q (F0 m (pc + 3) ls (.ref q :: rest))) : W p l e R s m args below meth c H locs cells slots Q (F0 m pc ls rest) :=
  hp_new hX hR hc hin hty hcl hinst hini (fun j hj => of_decide_eq_true (List.all_eq_true.mp hfs j (List.mem_range.mpr hj))) hcells hslots hdg (fun H1 hR1 => kk _ _ H1 h hR1)
theorem hp_newI (hX : hp_X G p s m c args cc nL own) (hR : hp_R G b H0 σ H locs) {n : Int32} (N : Nat) (harr : Cond.arrayClass .int ∈ wsA) (hn : ¬ n < 0) (hN : n.toNatClampNeg = N) (hbytes : N * componentBytes .int ≤ 536870912) (hcells : cells + 1 ≤ R.cells) (hslots : slots + N ≤ R.slots) (hdg : decode cc pc = .ok (.newarray .int, 2)) {K : Nat → hp_H → Option α} (h : hp_nw σ (.inr (.inl (0, N, fun _ => 0))) K = some out)
    (kk : ∀ (q : Nat) (σ' : hp_H) (H1 : Heap), K q σ' = some out → hp_R G b H0 σ' H1 locs → W p l e R s m args below meth c H1 locs (cells + 1) (slots + N) Q (F0 m (pc + 2) ls (.ref q :: rest))) : W p l e R s m args below meth c H locs cells slots Q (F0 m pc ls (.int n :: rest)) :=
  hp_newa hX hR (atype := .int) 0 (ty := .int) rfl rfl rfl rfl harr N hn hN hbytes hcells hslots hdg (fun H1 hR1 => kk _ _ H1 h hR1)
theorem hp_newZ (hX : hp_X G p s m c args cc nL own) (hR : hp_R G b H0 σ H locs) {n : Int32} (N : Nat) (harr : Cond.arrayClass .boolean ∈ wsA) (hn : ¬ n < 0) (hN : n.toNatClampNeg = N) (hbytes : N * componentBytes .boolean ≤ 536870912) (hcells : cells + 1 ≤ R.cells) (hslots : slots + N ≤ R.slots) (hdg : decode cc pc = .ok (.newarray .boolean, 2)) {K : Nat → hp_H → Option α} (h : hp_nw σ (.inr (.inl (1, N, fun _ => 0))) K = some out)
    (kk : ∀ (q : Nat) (σ' : hp_H) (H1 : Heap), K q σ' = some out → hp_R G b H0 σ' H1 locs → W p l e R s m args below meth c H1 locs (cells + 1) (slots + N) Q (F0 m (pc + 2) ls (.ref q :: rest))) : W p l e R s m args below meth c H locs cells slots Q (F0 m pc ls (.int n :: rest)) :=
  hp_newa hX hR (atype := .boolean) 1 (ty := .boolean) rfl rfl rfl rfl harr N hn hN hbytes hcells hslots hdg (fun H1 hR1 => kk _ _ H1 h hR1)
theorem hp_newR (hX : hp_X G p s m c args cc nL own) (hR : hp_R G b H0 σ H locs) {C : String} (t : Nat) {index : Nat} (ht : (hp_tys G)[t]? = some (G.2 t, .object C)) (hov : C ∈ hp_over) (hcl : Cond.classLink own index C ∈ wsA) {n : Int32} (N : Nat) (hn : ¬ n < 0) (hN : n.toNatClampNeg = N) (hbytes : N * 4 ≤ 536870912) (hcells : cells + 1 ≤ R.cells) (hslots : slots + N ≤ R.slots) (hdg : decode cc pc = .ok (.anewarray index, 3)) {K : Nat → hp_H → Option α} (h : hp_nw σ (.inr (.inr (t, N, fun _ => none))) K = some out)
    (kk : ∀ (q : Nat) (σ' : hp_H) (H1 : Heap), K q σ' = some out → hp_R G b H0 σ' H1 locs → W p l e R s m args below meth c H1 locs (cells + 1) (slots + N) Q (F0 m (pc + 3) ls (.ref q :: rest))) : W p l e R s m args below meth c H locs cells slots Q (F0 m pc ls (.int n :: rest)) :=
  hp_newq hX hR t ht hov hcl N hn hN hbytes hcells hslots hdg (fun H1 hR1 => kk _ _ H1 h hR1)
/-- the ends of a method that writes nothing -/
theorem hp_iretP {v out : Int32} (hX : hp_X G p s m c args cc nL own) (hlocks : meth.locks = false) (hr : meth.sig.returnType = some .int) (hR : hp_R G b s.heap σ H locs) (h : some v = some out) (hdg : decode cc pc = .ok (.ireturn, 1)) :
    W p l e R s m args below meth c H locs cells slots (MQ below (hp_Qc G b (some (.int out)) σ) args s cells slots (fun q => b ≤ q)) (F0 m pc ls [.int v]) := hp_iret (out := (out, σ)) hX hlocks hr hR (by rw [Option.some.inj h]) hdg
theorem hp_zretP {v out : Int32} (hX : hp_X G p s m c args cc nL own) (hlocks : meth.locks = false) (hr : meth.sig.returnType = some .boolean) (hR : hp_R G b s.heap σ H locs) (h : hp_z v (some v) = some out) (hdg : decode cc pc = .ok (.ireturn, 1)) :
    W p l e R s m args below meth c H locs cells slots (MQ below (hp_Qc G b (some (.int out)) σ) args s cells slots (fun q => b ≤ q)) (F0 m pc ls [.int v]) := by
  obtain ⟨hz, h⟩ := hp_z_to h
  cases h
  exact hp_zret (out := (v, σ)) hX hlocks hr hR (by unfold hp_z; rw [if_pos hz]) hdg
theorem hp_zretL {out : Int32 × hp_H} {v : Int32} (hz : v = 0 ∨ v = 1) (hX : hp_X G p s m c args cc nL own) (hlocks : meth.locks = false) (hr : meth.sig.returnType = some .boolean) (hR : hp_R G b s.heap σ H locs) (h : some (v, σ) = some out) (hdg : decode cc pc = .ok (.ireturn, 1)) :
    W p l e R s m args below meth c H locs cells slots (MQ below (hp_Qc G b (some (.int out.1)) out.2) args s cells slots (fun q => b ≤ q)) (F0 m pc ls [.int v]) := hp_zret hX hlocks hr hR (by unfold hp_z; rw [if_pos hz]; exact h) hdg
theorem hp_zretLP {v out : Int32} (hz : v = 0 ∨ v = 1) (hX : hp_X G p s m c args cc nL own) (hlocks : meth.locks = false) (hr : meth.sig.returnType = some .boolean) (hR : hp_R G b s.heap σ H locs) (h : some v = some out) (hdg : decode cc pc = .ok (.ireturn, 1)) :
    W p l e R s m args below meth c H locs cells slots (MQ below (hp_Qc G b (some (.int out)) σ) args s cells slots (fun q => b ≤ q)) (F0 m pc ls [.int v]) := hp_zretP hX hlocks hr hR (by unfold hp_z; rw [if_pos hz]; exact h) hdg
theorem hp_aretP {v out : Nat} {C : String} (hX : hp_X G p s m c args cc nL own) (hlocks : meth.locks = false) (hr : meth.sig.returnType = some (.object C)) (hR : hp_R G b s.heap σ H locs) (h : some v = some out) (hdg : decode cc pc = .ok (.areturn, 1)) :
    W p l e R s m args below meth c H locs cells slots (MQ below (hp_Qc G b (some (.ref out)) σ) args s cells slots (fun q => b ≤ q)) (F0 m pc ls [.ref v]) := hp_aret (out := (out, σ)) hX hlocks hr hR (by rw [Option.some.inj h]) hdg
theorem hp_obj0 (hX : hp_X G p s m c args cc nL own) {idx : Nat} (hl : Cond.methodLink own idx Lib.objectInit ∈ wsA) (hi : Cond.instanceMethod Lib.objectInit ∈ wsA) (hc : Cond.code Lib.objectInit ⟨#[0xb1]⟩ 1 none ∈ wsA) (hsize : ls.size = nL) (hdg : decode cc pc = .ok (.invokespecial idx, 3)) (hframes : 1 ≤ R.frames) (hlocals : (rest.map fun v => v.category).sum + 12 ≤ R.locals) (kk : W p l e R s m args below meth c H locs cells slots Q (F0 m (pc + 3) ls rest)) : W p l e R s m args below meth c H locs cells slots Q (F0 m pc ls (.ref a :: rest)) := by
  obtain ⟨⟨hx, hb, hml, hown, hts⟩, hK⟩ := hX
  exact W.objInit hx hb hown (hts _ hl) (hts _ hi) (hts _ hc) rfl (by rw [hml]; exact hsize) rfl hdg hframes (by show 2 * 0 + _ + 12 ≤ _; omega) kk
end HPM
/-- the same for a member of the JDK that the machine has no entry for -/
theorem hp_metF {l : Launch} {y : MethodName} {bytes : ByteArray} {maxL mc ms : Nat} {ret : Option FieldType} {rm : Room} {G : hp_G} {b : Nat} {σ σ' : hp_H} {rv : Option Value} {as : List Value} (hy : plainFor y = true) (hlen : (lg_sl as).length ≤ maxL)
    (body : ∀ (p : Program) (e : Env) (s : State) (m : MethodId) (below : List Frame) (meth : Method) (c : Code) (ls : Array Slot), hp_X G p s m c as.toArray bytes maxL y.cls → meth.locks = false → meth.sig.returnType = ret → meth.name = y.name → lv_has ls maxL (lv_args 0 as) → hp_R G b s.heap σ s.heap [] →
      W p l e rm s m as.toArray below meth c s.heap [] 0 0 (MQ below (hp_Qc G b rv σ') as.toArray s mc ms (fun q => b ≤ q)) (F0 m 0 ls [])) : hp_Met l y bytes maxL ret rm G b as σ rv σ' mc ms := by
  refine va_MetF (cc := bytes) (maxL := maxL) (ret := ret) hy rfl ?_
  intro p e s m args below meth c s₁ B hml hv
  obtain ⟨rfl, hB, hK⟩ := hv
  have hts := atoms_spec (ws := Cond.code y bytes maxL ret :: wsA) B.pre
  have hl := lv_entry as (n := maxL) hlen
  rw [lg_entry_eq]
  exact body p e s m below meth c _ ⟨⟨B.exec, B.bytes, hml, findClass_of_methodNamed B.named, fun w hw => hts w (List.mem_cons_of_mem _ hw)⟩, hK⟩ B.notSynchronized B.returns (name_of_methodNamed B.named B.method).1 hl ⟨hB, va_S.rf⟩
/-- how often a loop may run: far above what any run needs; taken as a name, for the kernel unrolls a written number -/
def hp_F : Nat := 5000
theorem hp_fu (k : Nat) (h : k ≤ 5000) : ∃ n, hp_F = n + k := ⟨5000 - k, by unfold hp_F; omega⟩
