/-! ===== where a notice goes: a closure in a tree ===== -/
def anc (ab : Nat → Nat) (b : Nat) : Nat → Nat
  | 0 => b
  | k + 1 => ab (anc ab b k)
def liv (ab : Nat → Nat) (b k : Nat) : Prop := ∀ j, j < k → anc ab b j ≠ 0
/-- the way from y to b begins with x -/
def NH (ab : Nat → Nat) (b y x : Nat) : Prop := ((¬ ∃ k, liv ab b k ∧ anc ab b k = y) ∧ y ≠ 0 ∧ ab y = x) ∨ ∃ k, liv ab b (k + 1) ∧ anc ab b (k + 1) = y ∧ anc ab b k = x
section JOURN
variable {B : Nat} {ab : Nat → Nat} {b : Nat}
theorem anc_lt (hT : ∀ b, b ≠ 0 → b < B → ab b < b) (hb : b < B) : ∀ (k : Nat), liv ab b k → anc ab b k < B ∧ ∀ j, j < k → anc ab b k < anc ab b j
  | 0, _ => ⟨hb, fun j hj => by omega⟩
  | k + 1, h => by
    obtain ⟨h1, h2⟩ := anc_lt hT hb k (fun j hj => h j (by omega))
    have h3 := hT (anc ab b k) (h k (by omega)) h1
    have e : anc ab b (k + 1) = ab (anc ab b k) := rfl
    refine ⟨by rw [e]; omega, fun j hj => ?_⟩
    rw [e]
    by_cases hk : j = k
    · rw [hk]; exact h3
    · have := h2 j (by omega)
      omega
theorem NH_uni (hT : ∀ b, b ≠ 0 → b < B → ab b < b) (hb : b < B) {y x x' : Nat} (h : NH ab b y x) (h' : NH ab b y x') : x = x' := by
  rcases h with ⟨h1, h2, h3⟩ | ⟨k, h1, h2, h3⟩
  · rcases h' with ⟨k1, k2, k3⟩ | ⟨k, k1, k2, k3⟩
    · rw [← h3, ← k3]
    · exact absurd ⟨k + 1, k1, k2⟩ h1
  · rcases h' with ⟨k1, k2, k3⟩ | ⟨k', k1, k2, k3⟩
    · exact absurd ⟨k + 1, h1, h2⟩ k1
    · have e1 := (anc_lt hT hb _ h1).2
      have e2 := (anc_lt hT hb _ k1).2
      have : k = k' := by
        rcases Nat.lt_trichotomy k k' with q | q | q
        · have := e2 (k + 1) (by omega)
          omega
        · exact q
        · have := e1 (k' + 1) (by omega)
          omega
      rw [← h3, ← k3, this]
theorem NH_or {x y : Nat} (h : nbr ab x y) : NH ab b y x ∨ NH ab b x y := by
  have key : ∀ u v : Nat, u ≠ 0 → ab u = v → NH ab b u v ∨ NH ab b v u := by
    intro u v h1 h2
    by_cases hc : ∃ k, liv ab b k ∧ anc ab b k = u
    · obtain ⟨k, q1, q2⟩ := hc
      refine Or.inr (Or.inr ⟨k, fun j hj => ?_, ?_, q2⟩)
      · by_cases hk : j = k
        · rw [hk, q2]; exact h1
        · exact q1 j (by omega)
      · show ab (anc ab b k) = v
        rw [q2, h2]
    · exact Or.inl (Or.inl ⟨hc, h1, h2⟩)
  rcases h with ⟨h1, h2⟩ | ⟨h1, h2⟩
  · rcases key x y h1 h2 with q | q
    · exact Or.inr q
    · exact Or.inl q
  · exact key y x h1 h2
theorem NH_no (hT : ∀ b, b ≠ 0 → b < B → ab b < b) (hb : b < B) {x : Nat} : ¬ NH ab b b x := by
  rintro (⟨h1, -, -⟩ | ⟨k, h1, h2, -⟩)
  · exact h1 ⟨0, fun j hj => by omega, rfl⟩
  · have := (anc_lt hT hb _ h1).2 0 (by omega)
    have e : anc ab b 0 = b := rfl
    omega
/-- what can be reached -/
def Rch (B : Nat) (ab : Nat → Nat) (E : Nat → Nat → Prop) (b x : Nat) : Prop := ∀ S : Nat → Prop, S b → (∀ u v, S u → v < B → nbr ab u v → E u v → S v) → S x
def cnt (P : Nat) : Nat → Nat
  | 0 => 0
  | n + 1 => cnt P n + (if P.testBit n = true then 1 else 0)
/-- on the way: places P, those from which it went further F, links c -/
def JI (B : Nat) (ab : Nat → Nat) (E : Nat → Nat → Prop) (b P F c : Nat) : Prop :=
  (∀ x, P.testBit x = true → x < B ∧ Rch B ab E b x) ∧ P.testBit b = true ∧ (∀ y, P.testBit y = true → y ≠ b → ∃ x, P.testBit x = true ∧ NH ab b y x) ∧ (∀ x, F.testBit x = true ↔ ∃ y, P.testBit y = true ∧ NH ab b y x) ∧ c + 1 = cnt P B
def clo (B : Nat) (ab : Nat → Nat) (E : Nat → Nat → Prop) (P : Nat) : Prop := ∀ x y, P.testBit x = true → y < B → nbr ab x y → E x y → P.testBit y = true
theorem tb_or {P k j : Nat} : (P ||| 2 ^ k).testBit j = true ↔ P.testBit j = true ∨ j = k := by
  rw [Nat.testBit_or, Nat.testBit_two_pow, Bool.or_eq_true, decide_eq_true_eq]
  constructor
  · rintro (h | h)
    · exact Or.inl h
    · exact Or.inr h.symm
  · rintro (h | h)
    · exact Or.inl h
    · exact Or.inr h.symm
theorem tb_one {k j : Nat} : (2 ^ k : Nat).testBit j = true ↔ j = k := by
  rw [Nat.testBit_two_pow, decide_eq_true_eq]
  exact ⟨fun h => h.symm, fun h => h.symm⟩
theorem cnt_or {P k : Nat} (hk : P.testBit k = false) : ∀ n, cnt (P ||| 2 ^ k) n = cnt P n + (if k < n then 1 else 0)
  | 0 => by
    unfold cnt
    rw [if_neg (by omega)]
  | n + 1 => by
    unfold cnt
    rw [cnt_or hk n]
    by_cases h : n = k
    · subst h
      have e1 : (P ||| 2 ^ n).testBit n = true := tb_or.mpr (Or.inr rfl)
      rw [if_pos e1, if_neg (by omega), if_neg (by rw [hk]; decide), if_pos (by omega)]
    · have e2 : (P ||| 2 ^ k).testBit n = true ↔ P.testBit n = true := by
        rw [tb_or]
        exact ⟨fun q => q.resolve_right h, Or.inl⟩
      by_cases h3 : P.testBit n = true
      · rw [if_pos h3, if_pos (e2.mpr h3)]
        by_cases h4 : k < n
        · rw [if_pos h4, if_pos (by omega)]
        · rw [if_neg h4, if_neg (by omega)]
      · rw [if_neg h3, if_neg (fun q => h3 (e2.mp q))]
        by_cases h4 : k < n
        · rw [if_pos h4, if_pos (by omega)]
        · rw [if_neg h4, if_neg (by omega)]
theorem cnt_zero : ∀ n, cnt 0 n = 0
  | 0 => rfl
  | n + 1 => by
    unfold cnt
    rw [cnt_zero n, if_neg (by simp)]
theorem JI_0 (hT : ∀ b, b ≠ 0 → b < B → ab b < b) (hb : b < B) {E : Nat → Nat → Prop} : JI B ab E b (2 ^ b) 0 0 := by
  refine ⟨fun x hx => ?_, tb_one.mpr rfl, fun y hy hyb => absurd (tb_one.mp hy) hyb, fun x => ⟨fun h => by simp at h, ?_⟩, ?_⟩
  · rw [tb_one.mp hx]
    exact ⟨hb, fun S h1 _ => h1⟩
  · rintro ⟨y, h1, h2⟩
    rw [tb_one.mp h1] at h2
    exact absurd h2 (NH_no hT hb)
  · have := cnt_or (P := 0) (k := b) (by simp) B
    rw [Nat.zero_or, cnt_zero, if_pos hb] at this
    rw [this]
theorem JI_add (hT : ∀ b, b ≠ 0 → b < B → ab b < b) (hb : b < B) {E : Nat → Nat → Prop} {P F c x y : Nat} (h : JI B ab E b P F c) (hx : P.testBit x = true) (hy : P.testBit y = false) (hyB : y < B) (hn : nbr ab x y) (hE : E x y) : JI B ab E b (P ||| 2 ^ y) (F ||| 2 ^ x) (c + 1) := by
  obtain ⟨h1, h2, h3, h4, h5⟩ := h
  have hNH : NH ab b y x := by
    rcases NH_or (b := b) hn with q | q
    · exact q
    · by_cases hxb : x = b
      · rw [hxb] at q
        exact absurd q (NH_no hT hb)
      · obtain ⟨z, z1, z2⟩ := h3 x hx hxb
        rw [NH_uni hT hb z2 q, hy] at z1
        cases z1
  refine ⟨fun z hz => ?_, tb_or.mpr (Or.inl h2), fun z hz hzb => ?_, fun z => ?_, ?_⟩
  · rcases tb_or.mp hz with q | q
    · exact h1 z q
    · rw [q]
      exact ⟨hyB, fun S s1 s2 => s2 x y ((h1 x hx).2 S s1 s2) hyB hn hE⟩
  · rcases tb_or.mp hz with q | q
    · obtain ⟨u, u1, u2⟩ := h3 z q hzb
      exact ⟨u, tb_or.mpr (Or.inl u1), u2⟩
    · rw [q]
      exact ⟨x, tb_or.mpr (Or.inl hx), hNH⟩
  · rw [tb_or, h4 z]
    constructor
    · rintro (⟨u, u1, u2⟩ | q)
      · exact ⟨u, tb_or.mpr (Or.inl u1), u2⟩
      · rw [q]
        exact ⟨y, tb_or.mpr (Or.inr rfl), hNH⟩
    · rintro ⟨u, u1, u2⟩
      rcases tb_or.mp u1 with q | q
      · exact Or.inl ⟨u, q, u2⟩
      · rw [q] at u2
        exact Or.inr (NH_uni hT hb u2 hNH)
  · rw [cnt_or hy, if_pos hyB, h5]
theorem JI_uni {E : Nat → Nat → Prop} {P F c P' F' c' : Nat} (h : JI B ab E b P F c) (hc : clo B ab E P) (h' : JI B ab E b P' F' c') (hc' : clo B ab E P') : P = P' ∧ F = F' ∧ c = c' := by
  have key : ∀ (P Q F F' c c' : Nat), JI B ab E b P F c → JI B ab E b Q F' c' → clo B ab E Q → ∀ x, P.testBit x = true → Q.testBit x = true := by
    intro P Q F F' c c' g g' gc x hx
    exact (g.1 x hx).2 (fun z => Q.testBit z = true) g'.2.1 (fun u v hu hv hn he => gc u v hu hv hn he)
  have eP : P = P' := by
    apply Nat.eq_of_testBit_eq
    intro i
    have a := key P P' F F' c c' h h' hc' i
    have d := key P' P F' F c' c h' h hc i
    cases e1 : P.testBit i with
    | true => rw [a e1]
    | false =>
      cases e2 : P'.testBit i with
      | true => rw [d e2] at e1; cases e1
      | false => rfl
  subst eP
  refine ⟨rfl, ?_, ?_⟩
  · apply Nat.eq_of_testBit_eq
    intro i
    have a := h.2.2.2.1 i
    have d := h'.2.2.2.1 i
    cases e1 : F.testBit i with
    | true => rw [d.mpr (a.mp e1)]
    | false =>
      cases e2 : F'.testBit i with
      | true => rw [a.mpr (d.mp e2)] at e1; cases e1
      | false => rfl
  · have := h.2.2.2.2
    have := h'.2.2.2.2
    omega
end JOURN
