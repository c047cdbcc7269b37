/-! ===== rows: an instruction over the abstract heap ===== -/
section HPR
variable {p : Program} {l : Launch} {e : Env} {R : Room} {s : State} {m : MethodId} {args : Array Value} {below : List Frame} {meth : Method} {c : Code} {H : Heap} {locs : List Loc} {cells slots : Nat} {Q : State → Prop}
variable {cc : ByteArray} {pc nL : Nat} {ls : Array Slot} {rest : List Value} {G : hp_G} {b : Nat} {H0 : Heap} {σ : hp_H} {own : String} {α : Type} {out : α} {a : Nat}
theorem hp_one {v : hp_V} (hR : hp_R G b H0 σ H locs) (h : σ.1 a = some v) : va_P G.1 vwCl [(a, hp_c G v)] H := by
  intro k q hk
  have hz : k < 1 := (List.getElem?_eq_some_iff.mp hk).1
  rw [show k = 0 by omega] at hk
  cases hk
  exact (hR.1.2.2 a v h).2
theorem hp_getI (hX : hp_X G p s m c args cc nL own) (hR : hp_R G b H0 σ H locs) {C : String} {T : u_T} {N ci index : Nat} (k : Nat) (hc : vwCl[ci]? = some (C, T, N)) (hin : ∀ w ∈ u_ws C T N, w ∈ wsA) (hk : k < N) (hl : Cond.fieldLink own index (T k).1 (T k).2.1 (T k).2.2.1 ∈ wsA) (hdg : decode cc pc = .ok (.getfield index, 3)) {K : Int32 → Option α} (h : (hp_gI σ a ci k).bind K = some out)
    (kk : ∀ v : Int32, K v = some out → W p l e R s m args below meth c H locs cells slots Q (F0 m (pc + 3) ls (.int v :: rest))) : W p l e R s m args below meth c H locs cells slots Q (F0 m pc ls (.ref a :: rest)) := by
  obtain ⟨⟨hx, hb, hml, hown, hts⟩, hK⟩ := hX
  obtain ⟨v, h1, h2⟩ := Option.bind_eq_some_iff.mp h
  obtain ⟨fs, e1, e2⟩ := hp_gI_to h1
  exact va_get hx hb hts hin hown hK.1 (hp_one hR e1) 0 rfl hc k hk (hts _ hl) (fun _ h => h) e2 hdg (kk v h2)
theorem hp_getR (hX : hp_X G p s m c args cc nL own) (hR : hp_R G b H0 σ H locs) {C : String} {T : u_T} {N ci index : Nat} (k : Nat) (hc : vwCl[ci]? = some (C, T, N)) (hin : ∀ w ∈ u_ws C T N, w ∈ wsA) (hk : k < N) (hl : Cond.fieldLink own index (T k).1 (T k).2.1 (T k).2.2.1 ∈ wsA) (hdg : decode cc pc = .ok (.getfield index, 3)) {K : Nat → Option α} (h : (hp_gR σ a ci k).bind K = some out)
    (kk : ∀ v : Nat, K v = some out → W p l e R s m args below meth c H locs cells slots Q (F0 m (pc + 3) ls (.ref v :: rest))) : W p l e R s m args below meth c H locs cells slots Q (F0 m pc ls (.ref a :: rest)) := by
  obtain ⟨⟨hx, hb, hml, hown, hts⟩, hK⟩ := hX
  obtain ⟨v, h1, h2⟩ := Option.bind_eq_some_iff.mp h
  obtain ⟨fs, e1, e2⟩ := hp_gR_to h1
  exact va_get hx hb hts hin hown hK.1 (hp_one hR e1) 0 rfl hc k hk (hts _ hl) (fun _ h => h) e2 hdg (kk v h2)
theorem hp_putW (hX : hp_X G p s m c args cc nL own) (hR : hp_R G b H0 σ H locs) {C : String} {T : u_T} {N ci index : Nat} (k : Nat) (hc : vwCl[ci]? = some (C, T, N)) (hin : ∀ w ∈ u_ws C T N, w ∈ wsA) {ty0 : Nat → FieldType} (hty : ∀ k, k < N → parseFieldDescriptor (T k).2.2.1 = some (ty0 k)) (hnm : ∀ a, a < N → ∀ b, b < N → a ≠ b → (T a).2.1 ≠ (T b).2.1) (hk : k < N) (hl : Cond.fieldLink own index (T k).1 (T k).2.1 (T k).2.2.1 ∈ wsA) (hfin : (T k).2.2.2 = false) (hdg : decode cc pc = .ok (.putfield index, 3)) {ty : FieldType} (ht : ty0 k = ty) {v : Value} (hn : narrow ty v = v) (hfit : fits ty v = true) {σ' : hp_H} (h : hp_pV σ a ci k v = some σ')
    (kk : ∀ (H1 : Heap) (locs1 : List Loc), hp_R G b H0 σ' H1 locs1 → W p l e R s m args below meth c H1 locs1 cells slots Q (F0 m (pc + 3) ls rest)) : W p l e R s m args below meth c H locs cells slots Q (F0 m pc ls (v :: .ref a :: rest)) := by
  obtain ⟨⟨hx, hb, hml, hown, hts⟩, hK, -⟩ := hX
  obtain ⟨fs, e1, hlen, rfl⟩ := hp_pV_to h
  subst ht
  have hap := va_apart (own := own) hts hin ty0 hty hnm hK hc
  obtain ⟨r, h1, cell, q1, q2, q3, q4⟩ := (hR.1.2.2 a _ e1).2
  have hr : r = (C, T, N) := Option.some.inj (h1.symm.trans hc)
  subst hr
  obtain ⟨hS, hfc, kC, hkC, hkind⟩ := hK.1 ci _ hc
  obtain ⟨cf, kf, fi, f, hi, hsl⟩ := hS k hk
  have hlay := hts _ (hin _ (u_in_lay hk))
  unfold u_lay at hlay
  rw [if_neg (by rw [hfin]; decide)] at hlay
  have hst := (u_facts hfc hkC (u_lays hts hin hk) hi).1
  have h6 := u_store hfc hkC hkind hlay hi (hty k hk) hn hfit
  refine W.putK hx hb (f := f) ⟨hown, hts _ hl, ⟨_, _, _, hi⟩, hst⟩ (by rw [q2]; exact h6) q1 q3 (by rw [hsl]; exact k2_hasslot (q4 k hk)) rfl rfl hdg fun H' w1 w2 w3 => ?_
  rw [hsl] at w1 ⊢
  exact kk H' _ (hR.upd e1 w2 w3 ⟨_, hc, t_OB.to (V := updV (vp_V fs) k v) ⟨_, w1, q2, q3, t_set q4 hap hk v⟩ (fun j _ => vp_updV_set hlen v j)⟩ (fun q hq => by rw [List.mem_singleton.mp hq]))
theorem hp_putI (hX : hp_X G p s m c args cc nL own) (hR : hp_R G b H0 σ H locs) {C : String} {T : u_T} {N ci index : Nat} (k : Nat) (hc : vwCl[ci]? = some (C, T, N)) (hin : ∀ w ∈ u_ws C T N, w ∈ wsA) {ty0 : Nat → FieldType} (hty : ∀ k, k < N → parseFieldDescriptor (T k).2.2.1 = some (ty0 k)) (hnm : ∀ a, a < N → ∀ b, b < N → a ≠ b → (T a).2.1 ≠ (T b).2.1) (hk : k < N) (hl : Cond.fieldLink own index (T k).1 (T k).2.1 (T k).2.2.1 ∈ wsA) (hfin : (T k).2.2.2 = false) (hdg : decode cc pc = .ok (.putfield index, 3)) (ht : ty0 k = .int) {x : Int32} {K : hp_H → Option α} (h : (hp_pI σ a ci k x).bind K = some out)
    (kk : ∀ (σ' : hp_H) (H1 : Heap) (locs1 : List Loc), K σ' = some out → hp_R G b H0 σ' H1 locs1 → W p l e R s m args below meth c H1 locs1 cells slots Q (F0 m (pc + 3) ls rest)) : W p l e R s m args below meth c H locs cells slots Q (F0 m pc ls (.int x :: .ref a :: rest)) := by
  obtain ⟨σ', h1, h2⟩ := Option.bind_eq_some_iff.mp h
  exact hp_putW hX hR k hc hin hty hnm hk hl hfin hdg ht rfl rfl h1 (fun H1 locs1 hR1 => kk σ' H1 locs1 h2 hR1)
theorem hp_putZ (hX : hp_X G p s m c args cc nL own) (hR : hp_R G b H0 σ H locs) {C : String} {T : u_T} {N ci index : Nat} (k : Nat) (hc : vwCl[ci]? = some (C, T, N)) (hin : ∀ w ∈ u_ws C T N, w ∈ wsA) {ty0 : Nat → FieldType} (hty : ∀ k, k < N → parseFieldDescriptor (T k).2.2.1 = some (ty0 k)) (hnm : ∀ a, a < N → ∀ b, b < N → a ≠ b → (T a).2.1 ≠ (T b).2.1) (hk : k < N) (hl : Cond.fieldLink own index (T k).1 (T k).2.1 (T k).2.2.1 ∈ wsA) (hfin : (T k).2.2.2 = false) (hdg : decode cc pc = .ok (.putfield index, 3)) (ht : ty0 k = .boolean) {x : Int32} {K : hp_H → Option α} (h : (hp_pZ σ a ci k x).bind K = some out)
    (kk : ∀ (σ' : hp_H) (H1 : Heap) (locs1 : List Loc), K σ' = some out → hp_R G b H0 σ' H1 locs1 → W p l e R s m args below meth c H1 locs1 cells slots Q (F0 m (pc + 3) ls rest)) : W p l e R s m args below meth c H locs cells slots Q (F0 m pc ls (.int x :: .ref a :: rest)) := by
  obtain ⟨σ', h1, h2⟩ := Option.bind_eq_some_iff.mp h
  unfold hp_pZ at h1
  split at h1
  · rename_i hz
    exact hp_putW hX hR k hc hin hty hnm hk hl hfin hdg ht (hp_narZ hz).1 (hp_narZ hz).2 h1 (fun H1 locs1 hR1 => kk σ' H1 locs1 h2 hR1)
  · cases h1
/-- a final reference field, in a constructor -/
theorem hp_putR (hX : hp_X G p s m c args cc nL own) (hR : hp_R G b H0 σ H locs) {C : String} {T : u_T} {N ci index : Nat} (k : Nat) (hc : vwCl[ci]? = some (C, T, N)) (hin : ∀ w ∈ u_ws C T N, w ∈ wsA) {ty0 : Nat → FieldType} (hty : ∀ k, k < N → parseFieldDescriptor (T k).2.2.1 = some (ty0 k)) (hnm : ∀ a, a < N → ∀ b, b < N → a ≠ b → (T a).2.1 ≠ (T b).2.1) (hk : k < N) (hl : Cond.fieldLink own index (T k).1 (T k).2.1 (T k).2.2.1 ∈ wsA) (hfin : (T k).2.2.2 = true) (hin2 : meth.name = "<init>") (hdecl : (T k).1 = own) (hdg : decode cc pc = .ok (.putfield index, 3)) {x : Nat} (hn : narrow (ty0 k) (.ref x) = .ref x) (hfit : fits (ty0 k) (.ref x) = true) {K : hp_H → Option α} (h : (hp_pR σ a ci k x).bind K = some out)
    (kk : ∀ (σ' : hp_H) (H1 : Heap) (locs1 : List Loc), K σ' = some out → hp_R G b H0 σ' H1 locs1 → W p l e R s m args below meth c H1 locs1 cells slots Q (F0 m (pc + 3) ls rest)) : W p l e R s m args below meth c H locs cells slots Q (F0 m pc ls (.ref x :: .ref a :: rest)) := by
  obtain ⟨⟨hx, hb, hml, hown, hts⟩, hK, -⟩ := hX
  obtain ⟨σ', h1', h2'⟩ := Option.bind_eq_some_iff.mp h
  obtain ⟨fs, e1, hlen, rfl⟩ := hp_pV_to h1'
  have hap := va_apart (own := own) hts hin ty0 hty hnm hK hc
  obtain ⟨r, h1, cell, q1, q2, q3, q4⟩ := (hR.1.2.2 a _ e1).2
  have hr : r = (C, T, N) := Option.some.inj (h1.symm.trans hc)
  subst hr
  obtain ⟨hS, hfc, kC, hkC, hkind⟩ := hK.1 ci _ hc
  obtain ⟨cf, kf, fi, f, hi, hsl⟩ := hS k hk
  have hlay := hts _ (hin _ (u_in_lay hk))
  unfold u_lay at hlay
  rw [if_pos hfin] at hlay
  have hst := (u_facts hfc hkC (u_lays hts hin hk) hi).1
  have hcf : m.cls = cf := by
    obtain ⟨_, _, c', _, _, _, -, -, hf', -, -, -, hown2, -⟩ := Cond.laysFinal_spec hlay
    have g1 : c' = cf := by have := hi.symm.trans hf'; simp at this; exact this.1.symm
    rw [hdecl] at hown2
    rw [← g1]; exact Option.some.inj (hown.symm.trans hown2)
  have h6 := u_fits hfc hkC hkind (Or.inr hlay) hi (hty k hk) hn hfit
  refine W.putFinK hx hb hown (hts _ hl) hi hst hcf hin2 (by rw [q2]; exact h6) q1 q3 (by rw [hsl]; exact k2_hasslot (q4 k hk)) rfl rfl hdg fun H' w1 w2 w3 => ?_
  rw [hsl] at w1 ⊢
  exact kk _ H' _ h2' (hR.upd e1 w2 w3 ⟨_, hc, t_OB.to (V := updV (vp_V fs) k (.ref x)) ⟨_, w1, q2, q3, t_set q4 hap hk (.ref x)⟩ (fun j _ => vp_updV_set hlen (.ref x) j)⟩ (fun q hq => by rw [List.mem_singleton.mp hq]))
theorem hp_iald (hX : hp_X G p s m c args cc nL own) (hR : hp_R G b H0 σ H locs) (hdg : decode cc pc = .ok (.iaload, 1)) {i : Int32} {K : Int32 → Option α} (h : (hp_aI σ a 0 i).bind K = some out)
    (kk : ∀ v : Int32, K v = some out → W p l e R s m args below meth c H locs cells slots Q (F0 m (pc + 1) ls (.int v :: rest))) : W p l e R s m args below meth c H locs cells slots Q (F0 m pc ls (.int i :: .ref a :: rest)) := by
  obtain ⟨⟨hx, hb, hml, hown, hts⟩, hK⟩ := hX
  obtain ⟨v, h1, h2⟩ := Option.bind_eq_some_iff.mp h
  obtain ⟨n, f, e1, e2, rfl⟩ := hp_aI_to h1
  exact va_iald hx hb hK.1 (hp_one hR e1) 0 0 rfl rfl e2 hdg (kk _ h2)
theorem hp_zald (hX : hp_X G p s m c args cc nL own) (hR : hp_R G b H0 σ H locs) (hdg : decode cc pc = .ok (.baload, 1)) {i : Int32} {K : Int32 → Option α} (h : (hp_aI σ a 1 i).bind K = some out)
    (kk : ∀ v : Int32, K v = some out → W p l e R s m args below meth c H locs cells slots Q (F0 m (pc + 1) ls (.int v :: rest))) : W p l e R s m args below meth c H locs cells slots Q (F0 m pc ls (.int i :: .ref a :: rest)) := by
  obtain ⟨⟨hx, hb, hml, hown, hts⟩, hK⟩ := hX
  obtain ⟨v, h1, h2⟩ := Option.bind_eq_some_iff.mp h
  obtain ⟨n, f, e1, e2, rfl⟩ := hp_aI_to h1
  exact va_zald hx hb hK.1 (hp_one hR e1) 0 1 rfl rfl e2 hdg (kk _ h2)
theorem hp_alen (hX : hp_X G p s m c args cc nL own) (hR : hp_R G b H0 σ H locs) (hdg : decode cc pc = .ok (.arraylength, 1)) {K : Int32 → Option α} (h : (hp_ln σ a 0).bind K = some out)
    (kk : ∀ v : Int32, K v = some out → W p l e R s m args below meth c H locs cells slots Q (F0 m (pc + 1) ls (.int v :: rest))) : W p l e R s m args below meth c H locs cells slots Q (F0 m pc ls (.ref a :: rest)) := by
  obtain ⟨⟨hx, hb, hml, hown, hts⟩, hK⟩ := hX
  obtain ⟨v, h1, h2⟩ := Option.bind_eq_some_iff.mp h
  obtain ⟨x, h3, h4⟩ := Option.bind_eq_some_iff.mp h1
  exact va_alen hx hb hK.1 (hp_one hR (hp_row_to h3)) 0 0 rfl rfl (Option.some.inj h4) hdg (kk _ h2)
theorem hp_aald (hX : hp_X G p s m c args cc nL own) (hR : hp_R G b H0 σ H locs) (t : Nat) {C : String} (ht : (hp_tys G)[t]? = some (G.2 t, .object C)) (hdg : decode cc pc = .ok (.aaload, 1)) {i : Int32} {K : Nat → Option α} (h : (hp_aR σ a t i).bind K = some out)
    (kk : ∀ v : Nat, K v = some out → W p l e R s m args below meth c H locs cells slots Q (F0 m (pc + 1) ls (.ref v :: rest))) : W p l e R s m args below meth c H locs cells slots Q (F0 m pc ls (.int i :: .ref a :: rest)) := by
  obtain ⟨⟨hx, hb, hml, hown, hts⟩, hK⟩ := hX
  obtain ⟨v, h1, h2⟩ := Option.bind_eq_some_iff.mp h
  obtain ⟨n, f, e1, e2, e3⟩ := hp_aR_to h1
  have hw := kk v h2
  have e4 : va_rf (f i.toNatClampNeg) = .ref v := by rw [e3]; rfl
  rw [← e4] at hw
  exact va_aldq hx hb hK.1 (hp_one hR e1) 0 t rfl ht e2 hdg hw
theorem hp_iast (hX : hp_X G p s m c args cc nL own) (hR : hp_R G b H0 σ H locs) (hdg : decode cc pc = .ok (.iastore, 1)) {i x : Int32} {K : hp_H → Option α} (h : (hp_sI σ a 0 i x).bind K = some out)
    (kk : ∀ (σ' : hp_H) (H1 : Heap) (locs1 : List Loc), K σ' = some out → hp_R G b H0 σ' H1 locs1 → W p l e R s m args below meth c H1 locs1 cells slots Q (F0 m (pc + 1) ls rest)) : W p l e R s m args below meth c H locs cells slots Q (F0 m pc ls (.int x :: .int i :: .ref a :: rest)) := by
  obtain ⟨⟨hx, hb, hml, hown, hts⟩, hK⟩ := hX
  obtain ⟨σ', h1, h2⟩ := Option.bind_eq_some_iff.mp h
  obtain ⟨n, f, e1, e2, rfl⟩ := hp_sI_to h1
  refine W.iast hx hb (hR.1.2.2 a _ e1).2 ((hK.1.2 0 _ rfl).1 n (fun j => .int (f j))) (fun q => by cases q) (by show ¬ (i < 0 ∨ (arrV _ _ _).slots.size ≤ _); rw [arrV_size]; exact e2) rfl rfl hdg fun H1 w1 w2 w3 => ?_
  refine kk _ H1 _ h2 (hR.upd e1 w2 w3 ?_ (fun q hq => by rw [List.mem_singleton.mp hq]))
  show H1[a]? = some (vp_cell _ _)
  rw [w1]
  show some ((vp_cell _ _).setSlot _ _) = _
  rw [vp_cell_i, vp_cell_i, arrV_store]
  congr 2
  funext q
  by_cases hq : q = i.toNatClampNeg
  · subst hq
    simp [updV, upd]
  · simp [updV, upd, hq]
theorem hp_zast (hX : hp_X G p s m c args cc nL own) (hR : hp_R G b H0 σ H locs) (hdg : decode cc pc = .ok (.bastore, 1)) {i x : Int32} {K : hp_H → Option α} (h : (hp_sZ σ a 1 i x).bind K = some out)
    (kk : ∀ (σ' : hp_H) (H1 : Heap) (locs1 : List Loc), K σ' = some out → hp_R G b H0 σ' H1 locs1 → W p l e R s m args below meth c H1 locs1 cells slots Q (F0 m (pc + 1) ls rest)) : W p l e R s m args below meth c H locs cells slots Q (F0 m pc ls (.int x :: .int i :: .ref a :: rest)) := by
  obtain ⟨⟨hx, hb, hml, hown, hts⟩, hK⟩ := hX
  obtain ⟨σ', h1, h2⟩ := Option.bind_eq_some_iff.mp h
  unfold hp_sZ at h1
  split at h1
  · rename_i hz
    obtain ⟨n, f, e1, e2, rfl⟩ := hp_sI_to h1
    refine W.zast hx hb (hR.1.2.2 a _ e1).2 ((hK.1.2 1 _ rfl).1 n (fun j => .int (f j))) (fun q => by cases q) (by show ¬ (i < 0 ∨ (arrV _ _ _).slots.size ≤ _); rw [arrV_size]; exact e2) rfl rfl hdg fun H1 w1 w2 w3 => ?_
    rw [(hp_narZ hz).1] at w1
    refine kk _ H1 _ h2 (hR.upd e1 w2 w3 ?_ (fun q hq => by rw [List.mem_singleton.mp hq]))
    show H1[a]? = some (vp_cell _ _)
    rw [w1]
    show some ((vp_cell _ _).setSlot _ _) = _
    rw [vp_cell_i, vp_cell_i, arrV_store]
    congr 2
    funext q
    by_cases hq : q = i.toNatClampNeg
    · subst hq
      simp [updV, upd]
    · simp [updV, upd, hq]
  · cases h1
theorem hp_aast (hX : hp_X G p s m c args cc nL own) (hR : hp_R G b H0 σ H locs) (t ci : Nat) {r : vw_C} (ht : (hp_tys G)[t]? = some (G.2 t, .object r.1)) (hc : vwCl[ci]? = some r) (hdg : decode cc pc = .ok (.aastore, 1)) {i : Int32} {v : Nat} {K : hp_H → Option α} (h : (hp_sR σ a t ci i v).bind K = some out)
    (kk : ∀ (σ' : hp_H) (H1 : Heap) (locs1 : List Loc), K σ' = some out → hp_R G b H0 σ' H1 locs1 → W p l e R s m args below meth c H1 locs1 cells slots Q (F0 m (pc + 1) ls rest)) : W p l e R s m args below meth c H locs cells slots Q (F0 m pc ls (.ref v :: .int i :: .ref a :: rest)) := by
  obtain ⟨⟨hx, hb, hml, hown, hts⟩, hK⟩ := hX
  obtain ⟨σ', h1, h2⟩ := Option.bind_eq_some_iff.mp h
  obtain ⟨n, f, e1, e2, ⟨fs, e3⟩, rfl⟩ := hp_sR_to h1
  have hlt : i.toNatClampNeg < n := Nat.not_le.mp fun q => e2 (Or.inr q)
  have h0 : ¬ i < 0 := fun q => e2 (Or.inl q)
  obtain ⟨r', hr', cellV, g1, g2, g3, -⟩ := (hR.1.2.2 v _ e3).2
  have hcls := (hK.1.1 ci r hc).2
  obtain ⟨kA, comp, k1, k2, k3, -⟩ := (hK.1.2 t _ ht).2
  have hcomp : comp = G.1.1 ci := Option.some.inj (k3.symm.trans hcls.1)
  subst hcomp
  obtain ⟨kC, hkC, -⟩ := hcls.2
  refine W.aast hx hb (hR.1.2.2 a _ e1).2 (fun q h => by cases h) (fun h => by cases h) k1 k2 rfl hkC ⟨h0, by show _ < (arrV _ _ _).slots.size; rw [arrV_size]; exact hlt⟩ g1 (fun q h => by rw [g3] at h; cases h) (by rw [g2]; exact hkC) (by rw [g2]; exact va_assign hcls) rfl rfl hdg fun H1 w1 w2 w3 => ?_
  refine kk _ H1 _ h2 (hR.upd e1 w2 w3 ?_ (fun q hq => by rw [List.mem_singleton.mp hq]))
  show H1[a]? = some (vp_cell _ _)
  rw [w1]
  show some ((vp_cell _ _).setSlot _ _) = _
  rw [vp_cell_q, vp_cell_q, arrV_store]
  congr 2
  funext q
  by_cases hq : q = i.toNatClampNeg
  · subst hq
    simp [updV, va_up, va_rf]
  · simp [updV, va_up, hq]
theorem hp_new (hX : hp_X G p s m c args cc nL own) (hR : hp_R G b H0 σ H locs) {C : String} {T : u_T} {N ci index : Nat} (hc : vwCl[ci]? = some (C, T, N)) (hin : ∀ w ∈ u_ws C T N, w ∈ wsA) {ty0 : Nat → FieldType} (hty : ∀ k, k < N → parseFieldDescriptor (T k).2.2.1 = some (ty0 k)) (hcl : Cond.classLink own index C ∈ wsA) (hinst : Cond.instantiable C N ∈ wsA) (hini : Cond.initialized C ∈ wsA) {fs : List Value} (hfs : ∀ j, j < N → defaultValue (ty0 j) = vp_V fs j) (hcells : cells + 1 ≤ R.cells) (hslots : slots + N ≤ R.slots) (hdg : decode cc pc = .ok (.new index, 3))
    (kk : ∀ H1 : Heap, hp_R G b H0 (hp_add σ (.inl (ci, fs))) H1 locs → W p l e R s m args below meth c H1 locs (cells + 1) (slots + N) Q (F0 m (pc + 3) ls (.ref σ.2 :: rest))) : W p l e R s m args below meth c H locs cells slots Q (F0 m pc ls rest) := by
  obtain ⟨⟨hx, hb, hml, hown, hts⟩, hK, -⟩ := hX
  have hKn := hK.1 ci _ hc
  refine W.newcK hx hb hown (hts _ hcl) (hts _ hinst) (hts _ hini) rfl hdg hcells hslots hKn.2.1 rfl fun H1 kC hkC e1 z1 o1 => ?_
  have h9 := kk H1 (hR.new z1 o1 ⟨_, hc, (u_born ty0 hts hin hKn hkC e1 hty).to hfs⟩)
  rw [← hR.1.2.1] at h9
  exact h9
theorem hp_newa (hX : hp_X G p s m c args cc nL own) (hR : hp_R G b H0 σ H locs) {atype : ArrayType} (t : Nat) {ty : FieldType} (hty : newarray.typeOf atype = ty) (hd : defaultValue ty = .int 0) (ht : (hp_tys G)[t]? = some (G.2 t, ty)) (hnm : va_RA s (G.2 t) ty = (s.vm.findClass ("[" ++ ty.toString) = some (G.2 t))) (harr : Cond.arrayClass ty ∈ wsA) {n : Int32} (N : Nat) (hn : ¬ n < 0) (hN : n.toNatClampNeg = N) (hbytes : N * componentBytes ty ≤ 536870912) (hcells : cells + 1 ≤ R.cells) (hslots : slots + N ≤ R.slots) (hdg : decode cc pc = .ok (.newarray atype, 2))
    (kk : ∀ H1 : Heap, hp_R G b H0 (hp_add σ (.inr (.inl (t, N, fun _ => 0)))) H1 locs → W p l e R s m args below meth c H1 locs (cells + 1) (slots + N) Q (F0 m (pc + 2) ls (.ref σ.2 :: rest))) : W p l e R s m args below meth c H locs cells slots Q (F0 m pc ls (.int n :: rest)) := by
  obtain ⟨⟨hx, hb, hml, hown, hts⟩, hK, -⟩ := hX
  subst hty
  refine va_newaK hx hb (hts _ harr) rfl hdg rfl hn hN hbytes hcells hslots rfl fun H1 cA e1 z1 o1 hAr hNm => ?_
  have h3 : va_RA s (G.2 t) (newarray.typeOf atype) := (hK.2 t _ ht).2
  rw [hnm] at h3
  have hcA : cA = G.2 t := Option.some.inj (hNm.symm.trans h3)
  subst hcA
  have h9 := kk H1 (hR.new z1 o1 (by
    show H1[H.size]? = some (vp_cell _ _)
    rw [e1, hd]
    rfl))
  rw [← hR.1.2.1] at h9
  exact h9
theorem hp_newq (hX : hp_X G p s m c args cc nL own) (hR : hp_R G b H0 σ H locs) {C : String} (t : Nat) {index : Nat} (ht : (hp_tys G)[t]? = some (G.2 t, .object C)) (hov : C ∈ hp_over) (hcl : Cond.classLink own index C ∈ wsA) {n : Int32} (N : Nat) (hn : ¬ n < 0) (hN : n.toNatClampNeg = N) (hbytes : N * 4 ≤ 536870912) (hcells : cells + 1 ≤ R.cells) (hslots : slots + N ≤ R.slots) (hdg : decode cc pc = .ok (.anewarray index, 3))
    (kk : ∀ H1 : Heap, hp_R G b H0 (hp_add σ (.inr (.inr (t, N, fun _ => none)))) H1 locs → W p l e R s m args below meth c H1 locs (cells + 1) (slots + N) Q (F0 m (pc + 3) ls (.ref σ.2 :: rest))) : W p l e R s m args below meth c H locs cells slots Q (F0 m pc ls (.int n :: rest)) := by
  obtain ⟨⟨hx, hb, hml, hown, hts⟩, hK, -, hO⟩ := hX
  subst hN
  refine W.anew hx hb hown (hts _ hcl) (va_AO.use (hO C hov)) rfl hdg rfl hn hbytes hcells hslots fun cA kA comp f1 f2 f3 f4 => ?_
  obtain ⟨-, -, -, -, -, k4⟩ := (hK.2 t _ ht).2
  have hcA : cA = G.2 t := Option.some.inj (f1.symm.trans k4)
  subst hcA
  generalize hH1 : H.push ({ cls := G.2 t, slots := Array.replicate n.toNatClampNeg .null, vm := .none } : Cell) = H1
  have z1 : H1.size = H.size + 1 := by rw [← hH1, Array.size_push]
  have e1 : H1[H.size]? = some (arrV (G.2 t) n.toNatClampNeg (fun _ => .null)) := by rw [← hH1, Array.getElem?_push_size, ← arrV_new]
  have o1 : ∀ q : Nat, q < H.size → H1[q]? = H[q]? := fun q hq => by rw [← hH1, Array.getElem?_push, if_neg (Nat.ne_of_lt hq)]
  have h9 := kk H1 (hR.new z1 o1 (by
    show H1[H.size]? = some (vp_cell _ _)
    rw [e1]
    rfl))
  rw [← hR.1.2.1] at h9
  exact h9
end HPR
