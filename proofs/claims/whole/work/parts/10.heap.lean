/-! ===== the abstract heap: what each address holds, and how many cells there are ===== -/
/-- a cell: an object (number of its class in vwCl, its fields), a row of ints or booleans (number of its type in hp_tys, length, contents), a row of references -/
abbrev hp_V : Type := (Nat × List Value) ⊕ ((Nat × Nat × (Nat → Int32)) ⊕ (Nat × Nat × (Nat → Option Nat)))
abbrev hp_H : Type := (Nat → Option hp_V) × Nat
abbrev hp_G : Type := va_G × (Nat → ClassId)
def hp_c (G : hp_G) (v : hp_V) : va_E := match v with
  | .inl o => .inr o
  | .inr (.inl x) => .inl (G.2 x.1, x.2.1, .inl x.2.2)
  | .inr (.inr x) => .inl (G.2 x.1, x.2.1, .inr (.inr (.inr (.inr x.2.2))))
def hp_tys (G : hp_G) : List (ClassId × FieldType) := [(G.2 0, .int), (G.2 1, .boolean), (G.2 2, .object RX2), (G.2 3, .object RX3), (G.2 4, .object RX5), (G.2 5, .object RX8)]
def hp_nest : List (String × Nat × MethodName × String) := [("NoticeBoxes$State", 34, ⟨"NoticeBoxes$Client", "<init>", "()V"⟩, "NoticeBoxes"), ("NoticeBoxes$Tellings", 20, ⟨"NoticeBoxes$BoxList", "<init>", "()V"⟩, "NoticeBoxes"), ("NoticeBoxes", 25, ⟨"NoticeBoxes$Journey", "<init>", "()V"⟩, "NoticeBoxes"), ("NoticeBoxes", 39, ⟨"NoticeBoxes$Book", "<init>", "()V"⟩, "NoticeBoxes"), ("NoticeBoxes", 46, ⟨"NoticeBoxes$Draws", "<init>", "()V"⟩, "NoticeBoxes"), ("NoticeBoxes", 57, ⟨"NoticeBoxes$Image", "<init>", "()V"⟩, "NoticeBoxes"), ("NoticeBoxes$State", 75, ⟨"NoticeBoxes", "holds", "(II)Z"⟩, "NoticeBoxes"), ("NoticeBoxes$Tellings", 56, ⟨"NoticeBoxes", "holds", "(II)Z"⟩, "NoticeBoxes"), ("NoticeBoxes$State", 60, ⟨"NoticeBoxes", "within", "(III)Z"⟩, "NoticeBoxes"), ("NoticeBoxes$Journey", 44, ⟨"NoticeBoxes", "holds", "(II)Z"⟩, "NoticeBoxes")]
def hp_over : List String := [RX2, RX3, RX5, RX8]
/-- what the tables say that no instruction changes -/
def hp_K (G : hp_G) (U : State) : Prop := va_K G.1 vwCl (hp_tys G) U ∧ (∀ q ∈ hp_nest, va_Nw (.methodLinkNest q.1 q.2.1 q.2.2.1 q.2.2.2) U) ∧ ∀ C ∈ hp_over, va_AO C U
theorem hp_K.warm {G : hp_G} {s U : State} (hW : s.WarmedH U.vm) (h : hp_K G s) : hp_K G U := ⟨va_K.moved hW.alike h.1, fun q hq => va_Nw.warmM hW (h.2.1 q hq), fun C hC => va_AO.moved hW.alike (h.2.2 C hC)⟩
/-- the machine's heap holds what the abstract one says; all of it from b on -/
def hp_B (G : hp_G) (b : Nat) (σ : hp_H) (H : Heap) : Prop := b ≤ σ.2 ∧ H.size = σ.2 ∧ ∀ (a : Nat) (v : hp_V), σ.1 a = some v → b ≤ a ∧ va_at G.1 vwCl (a, hp_c G v) H
def hp_R (G : hp_G) (b : Nat) (H0 : Heap) (σ : hp_H) (H : Heap) (locs : List Loc) : Prop := hp_B G b σ H ∧ va_S (fun q => b ≤ q) H0 H locs
abbrev hp_X (G : hp_G) (p : Program) (s : State) (m : MethodId) (c : Code) (args : Array Value) (cc : ByteArray) (nL : Nat) (own : String) : Prop := CallFix p m c cc nL s args wsA own ∧ hp_K G s
def hp_Pc (G : hp_G) (b : Nat) (as : List Value) (σ : hp_H) : Array Value → State → Prop := fun v U => v = as.toArray ∧ hp_B G b σ U.heap ∧ hp_K G U
def hp_Qc (G : hp_G) (b : Nat) (r : Option Value) (σ' : hp_H) : Array Value → State → Outcome → State → Prop := fun _ st o t => o = .returned r ∧ hp_B G b σ' t.heap ∧ va_F (fun q => b ≤ q) st t
theorem hp_blind {G : hp_G} {b : Nat} {as : List Value} {σ : hp_H} : FrameBlind (hp_Pc G b as σ) := fun a U g mk q => ⟨q.1, q.2.1, va_K.moved (u := U) (U := U.calling g mk a) (Vm.Alike.refl U.vm) q.2.2.1, fun w hw => va_Nw.same (u := U) (U := U.calling g mk a) rfl rfl (q.2.2.2.1 w hw), fun C hC => va_AO.moved (u := U) (U := U.calling g mk a) (Vm.Alike.refl U.vm) (q.2.2.2.2 C hC)⟩
/-! ===== the pure operations ===== -/
def hp_set (σ : hp_H) (a : Nat) (v : hp_V) : hp_H := (fun x => if x = a then some v else σ.1 x, σ.2)
def hp_add (σ : hp_H) (v : hp_V) : hp_H := (fun x => if x = σ.2 then some v else σ.1 x, σ.2 + 1)
def hp_is (σ : hp_H) (a ci : Nat) : Prop := ∃ fs, σ.1 a = some (.inl (ci, fs))
def hp_isb (σ : hp_H) (a ci : Nat) : Bool := match σ.1 a with
  | some (.inl x) => decide (x.1 = ci)
  | _ => false
/-- an instance method's body, at an object of its class -/
def hp_own {α : Type} (σ : hp_H) (a ci : Nat) (x : Option α) : Option α := if hp_isb σ a ci = true then x else none
def hp_b {α β : Type} (o : Option (α × hp_H)) (k : α → hp_H → Option β) : Option β := match o with
  | some x => k x.1 x.2
  | none => none
def hp_obj (σ : hp_H) (a ci : Nat) : Option (List Value) := match σ.1 a with
  | some (.inl x) => if x.1 = ci then some x.2 else none
  | _ => none
def hp_gI (σ : hp_H) (a ci k : Nat) : Option Int32 := (hp_obj σ a ci).bind fun fs => match fs[k]? with
  | some (.int x) => some x
  | _ => none
def hp_gR (σ : hp_H) (a ci k : Nat) : Option Nat := (hp_obj σ a ci).bind fun fs => match fs[k]? with
  | some (.ref x) => some x
  | _ => none
def hp_pV (σ : hp_H) (a ci k : Nat) (v : Value) : Option hp_H := (hp_obj σ a ci).bind fun fs => if k < fs.length then some (hp_set σ a (.inl (ci, fs.set k v))) else none
def hp_pI (σ : hp_H) (a ci k : Nat) (x : Int32) : Option hp_H := hp_pV σ a ci k (.int x)
def hp_pR (σ : hp_H) (a ci k : Nat) (q : Nat) : Option hp_H := hp_pV σ a ci k (.ref q)
def hp_pZ (σ : hp_H) (a ci k : Nat) (x : Int32) : Option hp_H := if x = 0 ∨ x = 1 then hp_pV σ a ci k (.int x) else none
def hp_row (σ : hp_H) (a t : Nat) : Option (Nat × (Nat → Int32)) := match σ.1 a with
  | some (.inr (.inl x)) => if x.1 = t then some x.2 else none
  | _ => none
def hp_rrow (σ : hp_H) (a t : Nat) : Option (Nat × (Nat → Option Nat)) := match σ.1 a with
  | some (.inr (.inr x)) => if x.1 = t then some x.2 else none
  | _ => none
def hp_aI (σ : hp_H) (a t : Nat) (i : Int32) : Option Int32 := (hp_row σ a t).bind fun x => if 0 ≤ i.toInt ∧ i.toInt < x.1 then some (x.2 i.toNatClampNeg) else none
def hp_sI (σ : hp_H) (a t : Nat) (i x : Int32) : Option hp_H := (hp_row σ a t).bind fun y => if 0 ≤ i.toInt ∧ i.toInt < y.1 then some (hp_set σ a (.inr (.inl (t, y.1, upd y.2 i.toNatClampNeg x)))) else none
def hp_sZ (σ : hp_H) (a t : Nat) (i x : Int32) : Option hp_H := if x = 0 ∨ x = 1 then hp_sI σ a t i x else none
def hp_aR (σ : hp_H) (a t : Nat) (i : Int32) : Option Nat := (hp_rrow σ a t).bind fun x => if 0 ≤ i.toInt ∧ i.toInt < x.1 then x.2 i.toNatClampNeg else none
def hp_sR (σ : hp_H) (a t ci : Nat) (i : Int32) (q : Nat) : Option hp_H := (hp_rrow σ a t).bind fun y => if (0 ≤ i.toInt ∧ i.toInt < y.1) ∧ hp_isb σ q ci = true then some (hp_set σ a (.inr (.inr (t, y.1, va_up y.2 i.toNatClampNeg (some q))))) else none
def hp_ln (σ : hp_H) (a t : Nat) : Option Int32 := (hp_row σ a t).bind fun x => some (Int32.ofNat x.1)
def hp_cp (σ : hp_H) (a0 : Nat) (sp : Int32) (a : Nat) (dp n : Int32) : Option hp_H := (hp_row σ a0 0).bind fun x => (hp_row σ a 0).bind fun y =>
  if (¬ sp < 0 ∧ ¬ dp < 0 ∧ ¬ n < 0) ∧ sp.toNatClampNeg + n.toNatClampNeg ≤ x.1 ∧ dp.toNatClampNeg + n.toNatClampNeg ≤ y.1 then some (hp_set σ a (.inr (.inl (0, y.1, va_cpy x.2 y.2 sp.toNatClampNeg dp.toNatClampNeg n.toNatClampNeg)))) else none
/-- a division's guard -/
def hp_nz {α : Type} (y : Int32) (x : Option α) : Option α := if y = 0 then none else x
def hp_nzl {α : Type} (y : Int64) (x : Option α) : Option α := if y = 0 then none else x
def hp_z {α : Type} (r : Int32) (x : Option α) : Option α := if r = 0 ∨ r = 1 then x else none
/-! ===== what an answer 'some' says ===== -/
theorem hp_isb_is {σ : hp_H} {a ci : Nat} (h : hp_isb σ a ci = true) : hp_is σ a ci := by
  unfold hp_isb at h
  split at h
  · rename_i x hx
    obtain ⟨c, fs⟩ := x
    have : c = ci := of_decide_eq_true h
    subst this
    exact ⟨fs, hx⟩
  · cases h
theorem hp_own_is {α : Type} {σ : hp_H} {a ci : Nat} {x : Option α} {o : α} (h : hp_own σ a ci x = some o) : hp_is σ a ci := by
  unfold hp_own at h
  split at h
  · rename_i h1
    exact hp_isb_is h1
  · cases h
theorem hp_own_to {α : Type} {σ : hp_H} {a ci : Nat} {x : Option α} {o : α} (h : hp_own σ a ci x = some o) : x = some o := by
  unfold hp_own at h
  split at h
  · exact h
  · cases h
theorem hp_b_to {α β : Type} {o : Option (α × hp_H)} {k : α → hp_H → Option β} {r : β} (h : hp_b o k = some r) : ∃ x σ', o = some (x, σ') ∧ k x σ' = some r := by
  cases o with
  | none => cases h
  | some x => exact ⟨x.1, x.2, rfl, h⟩
theorem hp_obj_to {σ : hp_H} {a ci : Nat} {fs : List Value} (h : hp_obj σ a ci = some fs) : σ.1 a = some (.inl (ci, fs)) := by
  unfold hp_obj at h
  split at h
  · rename_i x hx
    split at h
    · rename_i h1
      cases h
      rw [hx, ← h1]
    · cases h
  · cases h
theorem hp_gI_to {σ : hp_H} {a ci k : Nat} {v : Int32} (h : hp_gI σ a ci k = some v) : ∃ fs, σ.1 a = some (.inl (ci, fs)) ∧ fs[k]? = some (.int v) := by
  obtain ⟨fs, h1, h2⟩ := Option.bind_eq_some_iff.mp h
  refine ⟨fs, hp_obj_to h1, ?_⟩
  split at h2
  · rename_i x hx
    cases h2
    exact hx
  · cases h2
theorem hp_gR_to {σ : hp_H} {a ci k : Nat} {v : Nat} (h : hp_gR σ a ci k = some v) : ∃ fs, σ.1 a = some (.inl (ci, fs)) ∧ fs[k]? = some (.ref v) := by
  obtain ⟨fs, h1, h2⟩ := Option.bind_eq_some_iff.mp h
  refine ⟨fs, hp_obj_to h1, ?_⟩
  split at h2
  · rename_i x hx
    cases h2
    exact hx
  · cases h2
theorem hp_pV_to {σ σ' : hp_H} {a ci k : Nat} {v : Value} (h : hp_pV σ a ci k v = some σ') : ∃ fs, σ.1 a = some (.inl (ci, fs)) ∧ k < fs.length ∧ σ' = hp_set σ a (.inl (ci, fs.set k v)) := by
  obtain ⟨fs, h1, h2⟩ := Option.bind_eq_some_iff.mp h
  split at h2
  · rename_i hl
    exact ⟨fs, hp_obj_to h1, hl, (Option.some.inj h2).symm⟩
  · cases h2
theorem hp_row_to {σ : hp_H} {a t : Nat} {x : Nat × (Nat → Int32)} (h : hp_row σ a t = some x) : σ.1 a = some (.inr (.inl (t, x))) := by
  unfold hp_row at h
  split at h
  · rename_i y hy
    split at h
    · rename_i h1
      cases h
      rw [hy, ← h1]
    · cases h
  · cases h
theorem hp_rrow_to {σ : hp_H} {a t : Nat} {x : Nat × (Nat → Option Nat)} (h : hp_rrow σ a t = some x) : σ.1 a = some (.inr (.inr (t, x))) := by
  unfold hp_rrow at h
  split at h
  · rename_i y hy
    split at h
    · rename_i h1
      cases h
      rw [hy, ← h1]
    · cases h
  · cases h
theorem hp_aI_to {σ : hp_H} {a t : Nat} {i v : Int32} (h : hp_aI σ a t i = some v) : ∃ n f, σ.1 a = some (.inr (.inl (t, n, f))) ∧ vp_in i n ∧ v = f i.toNatClampNeg := by
  obtain ⟨x, h1, h2⟩ := Option.bind_eq_some_iff.mp h
  split at h2
  · rename_i hi
    exact ⟨x.1, x.2, hp_row_to h1, vp_in_iff.mpr hi, (Option.some.inj h2).symm⟩
  · cases h2
theorem hp_sI_to {σ σ' : hp_H} {a t : Nat} {i v : Int32} (h : hp_sI σ a t i v = some σ') : ∃ n f, σ.1 a = some (.inr (.inl (t, n, f))) ∧ vp_in i n ∧ σ' = hp_set σ a (.inr (.inl (t, n, upd f i.toNatClampNeg v))) := by
  obtain ⟨x, h1, h2⟩ := Option.bind_eq_some_iff.mp h
  split at h2
  · rename_i hi
    exact ⟨x.1, x.2, hp_row_to h1, vp_in_iff.mpr hi, (Option.some.inj h2).symm⟩
  · cases h2
theorem hp_aR_to {σ : hp_H} {a t : Nat} {i : Int32} {v : Nat} (h : hp_aR σ a t i = some v) : ∃ n f, σ.1 a = some (.inr (.inr (t, n, f))) ∧ vp_in i n ∧ f i.toNatClampNeg = some v := by
  obtain ⟨x, h1, h2⟩ := Option.bind_eq_some_iff.mp h
  split at h2
  · rename_i hi
    exact ⟨x.1, x.2, hp_rrow_to h1, vp_in_iff.mpr hi, h2⟩
  · cases h2
theorem hp_sR_to {σ σ' : hp_H} {a t ci : Nat} {i : Int32} {q : Nat} (h : hp_sR σ a t ci i q = some σ') : ∃ n f, σ.1 a = some (.inr (.inr (t, n, f))) ∧ vp_in i n ∧ hp_is σ q ci ∧ σ' = hp_set σ a (.inr (.inr (t, n, va_up f i.toNatClampNeg (some q)))) := by
  obtain ⟨x, h1, h2⟩ := Option.bind_eq_some_iff.mp h
  split at h2
  · rename_i hi
    exact ⟨x.1, x.2, hp_rrow_to h1, vp_in_iff.mpr hi.1, hp_isb_is hi.2, (Option.some.inj h2).symm⟩
  · cases h2
theorem hp_nz_to {α : Type} {y : Int32} {x : Option α} {o : α} (h : hp_nz y x = some o) : ¬ y = 0 ∧ x = some o := by
  unfold hp_nz at h
  split at h
  · cases h
  · rename_i h1
    exact ⟨h1, h⟩
theorem hp_nzl_to {α : Type} {y : Int64} {x : Option α} {o : α} (h : hp_nzl y x = some o) : ¬ y = 0 ∧ x = some o := by
  unfold hp_nzl at h
  split at h
  · cases h
  · rename_i h1
    exact ⟨h1, h⟩
theorem hp_z_to {α : Type} {r : Int32} {x : Option α} {o : α} (h : hp_z r x = some o) : (r = 0 ∨ r = 1) ∧ x = some o := by
  unfold hp_z at h
  split at h
  · rename_i h1
    exact ⟨h1, h⟩
  · cases h
theorem hp_narZ {r : Int32} (h : r = 0 ∨ r = 1) : narrow .boolean (.int r) = .int r ∧ fits .boolean (.int r) = true := by
  rcases h with rfl | rfl <;> exact ⟨rfl, rfl⟩
/-! ===== how the machine's heap follows ===== -/
theorem hp_R.upd {G : hp_G} {b : Nat} {H0 H H1 : Heap} {σ : hp_H} {locs L : List Loc} (hR : hp_R G b H0 σ H locs) {a : Nat} {v v' : hp_V} (e1 : σ.1 a = some v) (z : H1.size = H.size) (oq : ∀ q : Nat, q ≠ a → H1[q]? = H[q]?) (he : va_at G.1 vwCl (a, hp_c G v') H1) (hL : ∀ q ∈ L, q.base = a) : hp_R G b H0 (hp_set σ a v') H1 (locs ++ L) := by
  obtain ⟨⟨h1, h2, h3⟩, h4, h5, h6⟩ := hR
  have hab := (h3 a v e1).1
  refine ⟨⟨h1, z.trans h2, fun x w hw => ?_⟩, by rw [z]; exact h4, fun q g1 g2 => ?_, fun q hq => ?_⟩
  · by_cases hx : x = a
    · subst hx
      have : v' = w := by
        have h7 : (if x = x then some v' else σ.1 x) = some w := hw
        rw [if_pos rfl] at h7
        exact Option.some.inj h7
      subst this
      exact ⟨hab, he⟩
    · have h7 : (if x = a then some v' else σ.1 x) = some w := hw
      rw [if_neg hx] at h7
      exact ⟨(h3 x w h7).1, (h3 x w h7).2.kept (oq x hx)⟩
  · rw [oq q (fun e => g2 (by rw [e]; exact hab))]
    exact h5 q g1 g2
  · rcases List.mem_append.mp hq with h | h
    · exact h6 q h
    · show b ≤ q.base
      rw [hL q h]
      exact hab
theorem hp_R.new {G : hp_G} {b : Nat} {H0 H H1 : Heap} {σ : hp_H} {locs : List Loc} (hR : hp_R G b H0 σ H locs) {v : hp_V} (z : H1.size = H.size + 1) (oq : ∀ q : Nat, q < H.size → H1[q]? = H[q]?) (he : va_at G.1 vwCl (H.size, hp_c G v) H1) : hp_R G b H0 (hp_add σ v) H1 locs := by
  obtain ⟨⟨h1, h2, h3⟩, h4, h5, h6⟩ := hR
  refine ⟨⟨Nat.le_succ_of_le h1, by show H1.size = σ.2 + 1; rw [z, h2], fun x w hw => ?_⟩, by rw [z]; exact Nat.le_succ_of_le h4, fun q g1 g2 => ?_, h6⟩
  · by_cases hx : x = σ.2
    · have h7 : (if x = σ.2 then some v else σ.1 x) = some w := hw
      rw [if_pos hx] at h7
      cases h7
      rw [hx, ← h2]
      exact ⟨by rw [h2]; exact h1, he⟩
    · have h7 : (if x = σ.2 then some v else σ.1 x) = some w := hw
      rw [if_neg hx] at h7
      exact ⟨(h3 x w h7).1, (h3 x w h7).2.kept (oq x (h3 x w h7).2.lt)⟩
  · rw [oq q (Nat.lt_of_lt_of_le g1 h4)]
    exact h5 q g1 g2
