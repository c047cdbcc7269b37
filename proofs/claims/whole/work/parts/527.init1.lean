/-! ===== how a heap grows ===== -/
theorem nw_e {β : Type} {σ : hp_H} {v : hp_V} {k : Nat → hp_H → Option β} : hp_nw σ v k = k σ.2 (hp_add σ v) := rfl
theorem nw_x {H : hp_H} {n : Nat} (hz : H.2 = n) (v : hp_V) : ∃ H1, hp_add H v = H1 ∧ H1.2 = n + 1 ∧ H1.1 n = some v ∧ ∀ x, x ≠ n → H1.1 x = H.1 x := by
  subst hz
  exact ⟨_, rfl, rfl, if_pos rfl, fun x hx => if_neg hx⟩
theorem set_x {H : hp_H} {a : Nat} {v : hp_V} : (hp_set H a v).2 = H.2 ∧ (hp_set H a v).1 a = some v ∧ ∀ x, x ≠ a → (hp_set H a v).1 x = H.1 x := ⟨rfl, if_pos rfl, fun _ hx => if_neg hx⟩
section GRW
variable {H : hp_H} {a ci k : Nat} {fs : List Value}
theorem ob_obj (h : H.1 a = some (.inl (ci, fs))) : hp_obj H a ci = some fs := by
  unfold hp_obj
  rw [h]
  simp
theorem ob_own (h : H.1 a = some (.inl (ci, fs))) {α : Type} {x : Option α} : hp_own H a ci x = x := by
  unfold hp_own hp_isb
  rw [h]
  simp
theorem ob_gR (h : H.1 a = some (.inl (ci, fs))) {q : Nat} (hq : fs[k]? = some (.ref q)) : hp_gR H a ci k = some q := by
  unfold hp_gR
  rw [ob_obj h, Option.bind_some, hq]
theorem pV_x (h : H.1 a = some (.inl (ci, fs))) (hk : k < fs.length) (v : Value) : ∃ H1, hp_pV H a ci k v = some H1 ∧ H1.2 = H.2 ∧ H1.1 a = some (.inl (ci, fs.set k v)) ∧ ∀ x, x ≠ a → H1.1 x = H.1 x := by
  refine ⟨_, ?_, set_x⟩
  unfold hp_pV
  rw [ob_obj h, Option.bind_some, if_pos hk]
theorem pR_x (h : H.1 a = some (.inl (ci, fs))) (hk : k < fs.length) (q : Nat) : ∃ H1, hp_pR H a ci k q = some H1 ∧ H1.2 = H.2 ∧ H1.1 a = some (.inl (ci, fs.set k (.ref q))) ∧ ∀ x, x ≠ a → H1.1 x = H.1 x := pV_x h hk _
theorem pI_x (h : H.1 a = some (.inl (ci, fs))) (hk : k < fs.length) (q : Int32) : ∃ H1, hp_pI H a ci k q = some H1 ∧ H1.2 = H.2 ∧ H1.1 a = some (.inl (ci, fs.set k (.int q))) ∧ ∀ x, x ≠ a → H1.1 x = H.1 x := pV_x h hk _
theorem sI_x {t N i : Nat} {g : Nat → Int32} {x : Int32} (h : H.1 a = some (.inr (.inl (t, N, g)))) (hi : i < N) (hN : N < 2 ^ 31) {y : Int32} (hy : y = nI i) : ∃ H1, hp_sI H a t y x = some H1 ∧ H1.2 = H.2 ∧ H1.1 a = some (.inr (.inl (t, N, upd g i x))) ∧ ∀ x, x ≠ a → H1.1 x = H.1 x := by
  refine ⟨_, ?_, set_x⟩
  unfold hp_sI hp_row
  rw [h, hy]
  simp only [if_true, Option.bind_some]
  rw [nI_toInt (by omega), nI_clamp (by omega), if_pos (by constructor <;> omega)]
theorem sR_x {t N i q : Nat} {g : Nat → Option Nat} (h : H.1 a = some (.inr (.inr (t, N, g)))) (hi : i < N) (hN : N < 2 ^ 31) (hq : H.1 q = some (.inl (ci, fs))) {y : Int32} (hy : y = nI i) : ∃ H1, hp_sR H a t ci y q = some H1 ∧ H1.2 = H.2 ∧ H1.1 a = some (.inr (.inr (t, N, va_up g i (some q)))) ∧ ∀ x, x ≠ a → H1.1 x = H.1 x := by
  refine ⟨_, ?_, set_x⟩
  have hb : hp_isb H q ci = true := by
    unfold hp_isb
    rw [hq]
    simp
  unfold hp_sR hp_rrow
  rw [h, hy]
  simp only [if_true, Option.bind_some]
  rw [nI_toInt (by omega), nI_clamp (by omega), if_pos ⟨by constructor <;> omega, hb⟩]
end GRW
theorem up_lt {i : Nat} {f : Nat → Nat} : va_up (fun j => if j < i then some (f j) else none) i (some (f i)) = fun j => if j < i + 1 then some (f j) else none := by
  funext j
  unfold va_up
  by_cases h : j = i
  · rw [if_pos h, if_pos (by omega), h]
  · rw [if_neg h]
    show (if j < i then some (f j) else none) = _
    by_cases h2 : j < i
    · rw [if_pos h2, if_pos (by omega)]
    · rw [if_neg h2, if_neg (by omega)]
theorem hs_at {H H' : hp_H} {a n : Nat} {f : Nat → hp_V} (h : hs H a n f) (e : ∀ x, a ≤ x → x < a + n → H'.1 x = H.1 x) : hs H' a n f := fun k hk => (e _ (by omega) (by omega)).trans (h k hk)
/-! ===== constructors of the leaves ===== -/
theorem I_Cl {H : hp_H} {a : Nat} (hz : H.2 = a + 1) (ho : H.1 a = some (.inl (2, [.int 0, .int 0, .int 0, .int 0, .int 0, .null, .null]))) : ∃ H', f_Client_init a H = some H' ∧ H'.2 = a + 3 ∧ hs H' a 3 (ce_Client a zR) ∧ ∀ x, x < a → H'.1 x = H.1 x := by
  obtain ⟨H1, e1, z1, c1, f1⟩ := nw_x hz (.inr (.inl (0, 8, fun _ => 0)))
  obtain ⟨H2, e2, z2, c2, f2⟩ := pR_x (H := H1) (a := a) (k := 5) ((f1 a (by omega)).trans ho) (by decide) (a + 1)
  obtain ⟨H3, e3, z3, c3, f3⟩ := nw_x (H := H2) (n := a + 2) (by omega) (.inr (.inl (0, 12, fun _ => 0)))
  obtain ⟨H4, e4, z4, c4, f4⟩ := pR_x (H := H3) (a := a) (k := 6) ((f3 a (by omega)).trans c2) (by simp) (a + 2)
  refine ⟨H4, ?_, by omega, fun k hk => ?_, fun x hx => ?_⟩
  · unfold f_Client_init
    rw [ob_own ho, nw_e, hz, e1, e2, Option.bind_some, nw_e, show H2.2 = a + 2 by omega, e3, e4, Option.bind_some]
  · match k, hk with
    | 0, _ => exact c4
    | 1, _ => rw [f4 _ (by omega), f3 _ (by omega), f2 _ (by omega)]; exact c1
    | 2, _ => rw [f4 _ (by omega)]; exact c3
  · rw [f4 _ (by omega), f3 _ (by omega), f2 _ (by omega), f1 _ (by omega)]
theorem I_BL {H : hp_H} {a : Nat} (hz : H.2 = a + 1) (ho : H.1 a = some (.inl (1, [.null, .int 0]))) : ∃ H', f_BoxList_init a H = some H' ∧ H'.2 = a + 2 ∧ hs H' a 2 (ce_BoxList a zR) ∧ ∀ x, x < a → H'.1 x = H.1 x := by
  obtain ⟨H1, e1, z1, c1, f1⟩ := nw_x hz (.inr (.inl (0, 12, fun _ => 0)))
  obtain ⟨H2, e2, z2, c2, f2⟩ := pR_x (H := H1) (a := a) (k := 0) ((f1 a (by omega)).trans ho) (by decide) (a + 1)
  refine ⟨H2, ?_, by omega, fun k hk => ?_, fun x hx => ?_⟩
  · unfold f_BoxList_init
    rw [ob_own ho, nw_e, hz, e1, e2, Option.bind_some]
  · match k, hk with
    | 0, _ => exact c2
    | 1, _ => rw [f2 _ (by omega)]; exact c1
  · rw [f2 _ (by omega), f1 _ (by omega)]
theorem I_Jo {H : hp_H} {a : Nat} (hz : H.2 = a + 1) (ho : H.1 a = some (.inl (5, [.null, .int 0, .int 0, .int 0, .int 0]))) : ∃ H', f_Journey_init a H = some H' ∧ H'.2 = a + 2 ∧ hs H' a 2 (ce_Journey a zR) ∧ ∀ x, x < a → H'.1 x = H.1 x := by
  obtain ⟨H1, e1, z1, c1, f1⟩ := nw_x hz (.inr (.inl (0, 7, fun _ => 0)))
  obtain ⟨H2, e2, z2, c2, f2⟩ := pR_x (H := H1) (a := a) (k := 0) ((f1 a (by omega)).trans ho) (by decide) (a + 1)
  refine ⟨H2, ?_, by omega, fun k hk => ?_, fun x hx => ?_⟩
  · unfold f_Journey_init
    rw [ob_own ho, nw_e, hz, e1, e2, Option.bind_some]
  · match k, hk with
    | 0, _ => exact c2
    | 1, _ => rw [f2 _ (by omega)]; exact c1
  · rw [f2 _ (by omega), f1 _ (by omega)]
theorem I_Bk {H : hp_H} {a : Nat} (hz : H.2 = a + 1) (ho : H.1 a = some (.inl (0, [.null, .null, .int 0]))) : ∃ H', f_Book_init a H = some H' ∧ H'.2 = a + 3 ∧ hs H' a 3 (ce_Book a zR) ∧ ∀ x, x < a → H'.1 x = H.1 x := by
  obtain ⟨H1, e1, z1, c1, f1⟩ := nw_x hz (.inr (.inl (0, 20, fun _ => 0)))
  obtain ⟨H2, e2, z2, c2, f2⟩ := pR_x (H := H1) (a := a) (k := 0) ((f1 a (by omega)).trans ho) (by decide) (a + 1)
  obtain ⟨H3, e3, z3, c3, f3⟩ := nw_x (H := H2) (n := a + 2) (by omega) (.inr (.inl (0, 20, fun _ => 0)))
  obtain ⟨H4, e4, z4, c4, f4⟩ := pR_x (H := H3) (a := a) (k := 1) ((f3 a (by omega)).trans c2) (by simp) (a + 2)
  refine ⟨H4, ?_, by omega, fun k hk => ?_, fun x hx => ?_⟩
  · unfold f_Book_init
    rw [ob_own ho, nw_e, hz, e1, e2, Option.bind_some, nw_e, show H2.2 = a + 2 by omega, e3, e4, Option.bind_some]
  · match k, hk with
    | 0, _ => exact c4
    | 1, _ => rw [f4 _ (by omega), f3 _ (by omega), f2 _ (by omega)]; exact c1
    | 2, _ => rw [f4 _ (by omega)]; exact c3
  · rw [f4 _ (by omega), f3 _ (by omega), f2 _ (by omega), f1 _ (by omega)]
/-! ===== a new State ===== -/
def s0 : Nat → Int32 := upd (upd (upd (fun _ => 0) 0 1) 3 9) 8 (-1)
def s0R : oR := (fun j => if j = 0 then 1 else if j = 3 then 9 else 0, fun j => if j = 7 then upd (fun _ => 0) 0 (-1) else fun _ => 0)
theorem s0_wf : Wf s0 := (Wf_mk (s := s0) (B := 1) (C := 0) (W := 0) (M := 9) rfl (by decide) (by decide) rfl (fun b h1 h2 => by omega) rfl (by decide) (fun c hc => by omega) rfl (by decide) (fun w hw => by omega) rfl (by decide) (by decide)).1
theorem s0_SR : SR s0R s0 := by
  refine ⟨fun j hj => ?_, fun b hb => ?_, fun w hw => ?_⟩
  · match j, hj with
    | 0, _ => rfl
    | 1, _ => rfl
    | 2, _ => rfl
    | 3, _ => rfl
    | 4, _ => rfl
    | 5, _ => rfl
    | 6, _ => rfl
  · have hb1 : b < 1 := hb
    rw [show b = 0 by omega]
    rfl
  · have hw1 : w < 0 := hw
    omega
def SIn (a i : Nat) (H : hp_H) : Prop := H.2 = a + 5 + 3 * i ∧ H.1 a = some (ce_St a s0R 0) ∧ H.1 (a + 1) = some (ce_St a s0R 1) ∧ H.1 (a + 2) = some (.inr (.inr (3, 6, fun j => if j < i then some (a + 5 + 3 * j) else none))) ∧ H.1 (a + 3) = some (ce_St a s0R 3) ∧ H.1 (a + 4) = some (ce_St a s0R 4) ∧ ∀ c, c < i → hs H (a + 5 + 3 * c) 3 (ce_Client (a + 5 + 3 * c) zR)
theorem I_Sc {a i : Nat} {H : hp_H} (h : SIn a i H) (hi : i < 6) {y : Int32} (hy : y = nI i) : ∃ H', (∀ K : hp_H → Option hp_H, ((hp_gR H a 7 8).bind fun q6 => hp_nw H (.inl (2, [.int 0, .int 0, .int 0, .int 0, .int 0, .null, .null])) fun q7 σ => (f_Client_init q7 σ).bind fun σ => (hp_sR σ q6 3 2 y q7).bind K) = K H') ∧ SIn a (i + 1) H' ∧ ∀ x, x < a → H'.1 x = H.1 x := by
  obtain ⟨g1, g2, g3, g4, g5, g6, g7⟩ := h
  obtain ⟨H1, e1, z1, c1, f1⟩ := nw_x g1 (.inl (2, [.int 0, .int 0, .int 0, .int 0, .int 0, .null, .null]))
  obtain ⟨H2, e2, z2, c2, f2⟩ := I_Cl z1 c1
  obtain ⟨H3, e3, z3, c3, f3⟩ := sR_x (H := H2) (a := a + 2) (i := i) (q := a + 5 + 3 * i) (((f2 _ (by omega)).trans (f1 _ (by omega))).trans g4) hi (by decide) (c2 0 (by decide)) hy
  refine ⟨H3, fun K => ?_, ⟨by omega, ?_, ?_, ?_, ?_, ?_, fun c hc => ?_⟩, fun x hx => ?_⟩
  · rw [ob_gR g2 (show ([_, _, _, _, _, _, _, _, _, _, _] : List Value)[8]? = some (.ref (a + 2)) from rfl), Option.bind_some, nw_e, g1, e1, e2, Option.bind_some, e3, Option.bind_some]
  · rw [f3 _ (by omega), f2 _ (by omega), f1 _ (by omega)]; exact g2
  · rw [f3 _ (by omega), f2 _ (by omega), f1 _ (by omega)]; exact g3
  · rw [c3, up_lt (f := fun j => a + 5 + 3 * j)]
  · rw [f3 _ (by omega), f2 _ (by omega), f1 _ (by omega)]; exact g5
  · rw [f3 _ (by omega), f2 _ (by omega), f1 _ (by omega)]; exact g6
  · by_cases hci : c = i
    · subst hci
      exact hs_at c2 (fun x x1 x2 => f3 _ (by omega))
    · exact hs_at (g7 c (by omega)) (fun x x1 x2 => by rw [f3 _ (by omega), f2 _ (by omega), f1 _ (by omega)])
  · rw [f3 _ (by omega), f2 _ (by omega), f1 _ (by omega)]
theorem I_St {H : hp_H} {a : Nat} (hz : H.2 = a + 1) (ho : H.1 a = some (.inl (7, [.int 0, .int 0, .int 0, .int 0, .int 0, .int 0, .int 0, .null, .null, .null, .null]))) : ∃ H', f_State_init a H = some H' ∧ H'.2 = a + 23 ∧ StI H' a s0 ∧ ∀ x, x < a → H'.1 x = H.1 x := by
  obtain ⟨A1, p1, y1, k1, l1⟩ := pI_x (k := 0) ho (by decide) 1
  obtain ⟨A2, p2, y2, k2, l2⟩ := pI_x (k := 3) k1 (by simp) 9
  obtain ⟨H1, e1, z1, c1, f1⟩ := nw_x (H := A2) (n := a + 1) (by omega) (.inr (.inl (0, 7, fun _ => 0)))
  obtain ⟨H2, e2, z2, c2, f2⟩ := pR_x (H := H1) (a := a) (k := 7) ((f1 a (by omega)).trans k2) (by simp) (a + 1)
  obtain ⟨H3, e3, z3, c3, f3⟩ := nw_x (H := H2) (n := a + 2) (by omega) (.inr (.inr (3, 6, fun _ => none)))
  obtain ⟨H4, e4, z4, c4, f4⟩ := pR_x (H := H3) (a := a) (k := 8) ((f3 a (by omega)).trans c2) (by simp) (a + 2)
  obtain ⟨H5, e5, z5, c5, f5⟩ := nw_x (H := H4) (n := a + 3) (by omega) (.inr (.inl (0, 12, fun _ => 0)))
  obtain ⟨H6, e6, z6, c6, f6⟩ := pR_x (H := H5) (a := a) (k := 9) ((f5 a (by omega)).trans c4) (by simp) (a + 3)
  obtain ⟨H7, e7, z7, c7, f7⟩ := nw_x (H := H6) (n := a + 4) (by omega) (.inr (.inl (0, 12, fun _ => 0)))
  obtain ⟨H8, e8, z8, c8, f8⟩ := pR_x (H := H7) (a := a) (k := 10) ((f7 a (by omega)).trans c6) (by simp) (a + 4)
  obtain ⟨H9, e9, z9, c9, f9⟩ := sI_x (H := H8) (a := a + 1) (i := 0) (x := -1) (y := 0) (((f8 _ (by omega)).trans ((f7 _ (by omega)).trans ((f6 _ (by omega)).trans ((f5 _ (by omega)).trans ((f4 _ (by omega)).trans ((f3 _ (by omega)).trans (f2 _ (by omega)))))))).trans c1) (by decide) (by decide) rfl
  have hI : SIn a 0 H9 := by
    refine ⟨by omega, ?_, c9, ?_, ?_, ?_, fun c hc => by omega⟩
    · rw [f9 _ (by omega)]; exact c8
    · rw [f9 _ (by omega), f8 _ (by omega), f7 _ (by omega), f6 _ (by omega), f5 _ (by omega), f4 _ (by omega), c3]
      refine congrArg (fun u => some (Sum.inr (Sum.inr (3, 6, u)))) ?_
      funext j
      rw [if_neg (by omega)]
    · rw [f9 _ (by omega), f8 _ (by omega), f7 _ (by omega), f6 _ (by omega)]; exact c5
    · rw [f9 _ (by omega), f8 _ (by omega)]; exact c7
  have fr9 : ∀ x, x < a → H9.1 x = H.1 x := fun x hx => by
    rw [f9 _ (by omega), f8 _ (by omega), f7 _ (by omega), f6 _ (by omega), f5 _ (by omega), f4 _ (by omega), f3 _ (by omega), f2 _ (by omega), f1 _ (by omega), l2 _ (by omega), l1 _ (by omega)]
  obtain ⟨B0, t0, u0, w0⟩ := I_Sc hI (by decide) (y := 0) rfl
  obtain ⟨B1, t1, u1, w1⟩ := I_Sc u0 (by decide) (y := 1) rfl
  obtain ⟨B2, t2, u2, w2⟩ := I_Sc u1 (by decide) (y := 2) rfl
  obtain ⟨B3, t3, u3, w3⟩ := I_Sc u2 (by decide) (y := 3) rfl
  obtain ⟨B4, t4, u4, w4⟩ := I_Sc u3 (by decide) (y := 4) rfl
  obtain ⟨B5, t5, u5, w5⟩ := I_Sc u4 (by decide) (y := 5) rfl
  obtain ⟨v1, v2, v3, v4, v5, v6, v7⟩ := u5
  refine ⟨B5, ?_, by omega, ⟨s0R, fun k hk => ?_, s0_SR, fun c hc => ⟨zR, v7 c hc, fun q => absurd q (Nat.not_lt_zero c)⟩⟩, fun x hx => ?_⟩
  · unfold f_State_init
    rw [ob_own ho, p1, Option.bind_some, p2, Option.bind_some, nw_e, show A2.2 = a + 1 by omega, e1, e2, Option.bind_some, nw_e, show H2.2 = a + 2 by omega, e3, e4, Option.bind_some, nw_e, show H4.2 = a + 3 by omega, e5, e6, Option.bind_some, nw_e, show H6.2 = a + 4 by omega, e7, e8, Option.bind_some, ob_gR c8 (q := a + 1) rfl, Option.bind_some, e9, Option.bind_some, t0, t1, t2, t3, t4, t5]
  · match k, hk with
    | 0, _ => exact v2
    | 1, _ => exact v3
    | 2, _ => exact v4
    | 3, _ => exact v5
    | 4, _ => exact v6
  · rw [w5 x hx, w4 x hx, w3 x hx, w2 x hx, w1 x hx, w0 x hx, fr9 x hx]
