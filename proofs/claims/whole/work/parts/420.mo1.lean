/-! ===== the reference: its small functions ===== -/
def sA (R : oR) (j : Nat) (A : Nat → Int32) : oR := (R.1, fun k => if k = j then A else R.2 k)
def sF (R : oR) (j : Nat) (x : Int32) : oR := (upd R.1 j x, R.2)
theorem sA_at {R : oR} {j : Nat} {A : Nat → Int32} : (sA R j A).2 j = A := if_pos rfl
theorem sA_ne {R : oR} {j k : Nat} {A : Nat → Int32} (h : k ≠ j) : (sA R j A).2 k = R.2 k := if_neg h
theorem sA_1 {R : oR} {j : Nat} {A : Nat → Int32} : (sA R j A).1 = R.1 := rfl
theorem sF_2 {R : oR} {j : Nat} {x : Int32} : (sF R j x).2 = R.2 := rfl
theorem sF_at {R : oR} {j : Nat} {x : Int32} : (sF R j x).1 j = x := if_pos rfl
theorem sF_ne {R : oR} {j k : Nat} {x : Int32} (h : k ≠ j) : (sF R j x).1 k = R.1 k := if_neg h
theorem sA_A {R : oR} {j : Nat} {A B : Nat → Int32} : sA (sA R j A) j B = sA R j B := by
  unfold sA
  congr 1
  funext k
  simp only []
  split <;> rfl
theorem sA_self {R : oR} {j : Nat} : sA R j (R.2 j) = R := by
  unfold sA
  apply Prod.ext
  · rfl
  · funext k
    simp only []
    split
    · rename_i h; rw [h]
    · rfl
theorem sA_F {R : oR} {i j : Nat} {x : Int32} {A : Nat → Int32} : sA (sF R i x) j A = sF (sA R j A) i x := rfl
/-- a number, tested against bounds -/
def inI (x : Int32) (n : Nat) : Prop := 0 ≤ x.toInt ∧ x.toInt < n
theorem inI_of {x : Int32} {n : Nat} (h : inI x n) (hn : n < 2 ^ 31) : ∃ j, j < n ∧ x = nI j := by
  obtain ⟨h1, h2⟩ := h
  have h3 : (0 : Int32) ≤ x := by rw [fo_le]; exact h1
  obtain ⟨e1, e2, e3⟩ := fo_nat h3
  exact ⟨x.toNatClampNeg, by omega, e1⟩
theorem inI_nI {j n : Nat} (h : j < n) (hn : n < 2 ^ 31) : inI (nI j) n := by
  unfold inI
  rw [nI_toInt (by omega)]
  omega
theorem inI_iff {j n : Nat} (hj : j < 2 ^ 31) : inI (nI j) n ↔ j < n := by
  unfold inI
  rw [nI_toInt hj]
  omega
theorem m1_toInt {n : Nat} (h : n < 2 ^ 30) : (nI n - 1).toInt = (n : Int) - 1 := by
  have := pk_sub_toInt (a := n) (b := 1) h (by decide)
  exact this
theorem wi_lit {x : Int32} (a b : Int32) : f_NB_within x a b = some (if a.toInt ≤ x.toInt ∧ x.toInt ≤ b.toInt then 1 else 0) := by
  unfold f_NB_within
  by_cases h1 : x < a
  · have h1' := (fo_lt _ _).mp h1
    rw [if_pos h1, if_neg (by omega)]
  · have h1' : ¬ x.toInt < a.toInt := fun q => h1 ((fo_lt _ _).mpr q)
    rw [if_neg h1]
    by_cases h2 : b < x
    · have h2' := (fo_lt _ _).mp h2
      rw [if_pos h2, if_neg (by omega)]
    · have h2' : ¬ b.toInt < x.toInt := fun q => h2 ((fo_lt _ _).mpr q)
      rw [if_neg h2, if_pos (by omega)]
theorem wi_val {x : Int32} {n : Nat} (h : n < 2 ^ 30) : f_NB_within x 0 (nI n - 1) = some (if 0 ≤ x.toInt ∧ x.toInt < n then 1 else 0) := by
  rw [wi_lit, m1_toInt h]
  show some (if 0 ≤ x.toInt ∧ x.toInt ≤ (n : Int) - 1 then (1 : Int32) else 0) = _
  by_cases h1 : 0 ≤ x.toInt ∧ x.toInt < n
  · rw [if_pos h1, if_pos (by omega)]
  · rw [if_neg h1, if_neg (by omega)]
theorem in_wi : f_Mo_in = f_NB_within := rfl
theorem z_if {α : Type} {cd : Prop} [Decidable cd] {x : Option α} : hp_z (if cd then 1 else 0) x = x := by
  unfold hp_z
  by_cases h : cd
  · rw [if_pos (Or.inr (if_pos h))]
  · rw [if_pos (Or.inl (if_neg h))]
theorem if01_0 {cd : Prop} [Decidable cd] : ((if cd then (1 : Int32) else 0) = 0) ↔ ¬ cd := by
  split
  · rename_i h
    exact ⟨fun q => absurd q (by decide), fun q => absurd h q⟩
  · rename_i h
    exact ⟨fun _ => h, fun _ => rfl⟩
section MO
variable {σ : hp_H} {r : Nat} {R : oR}
theorem Mo_of {c k : Nat} (h : 16 + 25 * c + k < 256) : f_Mo_of r (nI c) (nI k) (bk_Mo σ r R) = some (R.2 0 (16 + 25 * c + k)) := by
  unfold f_Mo_of
  rw [Mo_own, Mo_g0, Option.bind_some, il_16, il_25, pk_mul, nI_add, nI_add, Mo_a0 h, Option.bind_some]
theorem Mo_sets {c k : Nat} {v : Int32} (h : 16 + 25 * c + k < 256) : f_Mo_sets r (nI c) (nI k) v (bk_Mo σ r R) = some (bk_Mo σ r (sA R 0 (upd (R.2 0) (16 + 25 * c + k) v))) := by
  unfold f_Mo_sets
  rw [Mo_own, Mo_g0, Option.bind_some, il_16, il_25, pk_mul, nI_add, nI_add, Mo_s0 h, Option.bind_some]
  rfl
theorem Mo_wish {w k : Nat} (h : 170 + 7 * w + k < 256) : f_Mo_wish r (nI w) (nI k) (bk_Mo σ r R) = some (R.2 0 (170 + 7 * w + k)) := by
  unfold f_Mo_wish
  rw [Mo_own, Mo_g0, Option.bind_some, il_170, il_7, pk_mul, nI_add, nI_add, Mo_a0 h, Option.bind_some]
theorem Mo_isBroker {x : Int32} {B : Nat} (hB : R.2 0 0 = nI B) (hb : B < 2 ^ 30) : f_Mo_isBroker r x (bk_Mo σ r R) = some (if 0 ≤ x.toInt ∧ x.toInt < B then 1 else 0) := by
  unfold f_Mo_isBroker
  rw [Mo_own, Mo_g0, Option.bind_some, il_0, Mo_a0 (by decide), Option.bind_some, hB, in_wi]
  have := wi_val (x := x) hb
  rw [show nI 0 = (0 : Int32) from rfl, this, Option.bind_some, z_if]
theorem Mo_isClient {x : Int32} {C : Nat} (hC : R.2 0 1 = nI C) (hc : C < 2 ^ 30) : f_Mo_isClient r x (bk_Mo σ r R) = some (if 0 ≤ x.toInt ∧ x.toInt < C then 1 else 0) := by
  unfold f_Mo_isClient
  rw [Mo_own, Mo_g0, Option.bind_some]
  have e : hp_aI (bk_Mo σ r R) (r + 1) 0 1 = some (R.2 0 1) := Mo_a0 (i := 1) (by decide)
  rw [e, Option.bind_some, hC, in_wi, wi_val hc, Option.bind_some, z_if]
theorem Mo_isWish {x : Int32} {N : Nat} (hC : R.2 0 2 = nI N) (hc : N < 2 ^ 30) : f_Mo_isWish r x (bk_Mo σ r R) = some (if 0 ≤ x.toInt ∧ x.toInt < N then 1 else 0) := by
  unfold f_Mo_isWish
  rw [Mo_own, Mo_g0, Option.bind_some]
  have e : hp_aI (bk_Mo σ r R) (r + 1) 0 2 = some (R.2 0 2) := Mo_a0 (i := 2) (by decide)
  rw [e, Option.bind_some, hC, in_wi, wi_val hc, Option.bind_some, z_if]
theorem Mo_at {k t : Nat} (h : 6 * k + t < 480) : f_Mo_at r (nI k) (nI t) (bk_Mo σ r R) = some (R.2 12 (6 * k + t)) := by
  unfold f_Mo_at
  rw [Mo_own, Mo_g12, Option.bind_some, il_6, pk_mul, nI_add, Mo_a12 h, Option.bind_some]
theorem sp_nat {l h : Nat} (hl : l < 16) (hh : h < 16) : f_Mo_spread (nI l) (nI h) = some (nI (h + 1 - l)) := by
  unfold f_Mo_spread
  by_cases hc : l ≤ h
  · rw [if_pos ((nI_leI (by omega) (by omega)).mpr hc), nx_span hc hh]
  · rw [if_neg (fun q => hc ((nI_leI (by omega) (by omega)).mp q)), show h + 1 - l = 0 by omega]
    rfl
/-- the box at a place of the reference's row -/
def bxAt (A : Nat → Int32) (k N : Nat) : Prop := ∀ t, t < 6 → A (6 * k + t) = nI (dgt t N)
theorem Mo_bx {k t N : Nat} (h : bxAt (R.2 12) k N) (ht : t < 6) (hk : k < 79) : f_Mo_at r (nI k) (nI t) (bk_Mo σ r R) = some (nI (dgt t N)) := by
  rw [Mo_at (by omega), h t ht]
theorem dgt_lt (t N : Nat) : dgt t N < 16 := by
  obtain ⟨h0, h1, h2, h3, h4, h5⟩ := d_lt N
  unfold dgt
  repeat' split
  all_goals assumption
theorem Mo_sizeOf {k N : Nat} (h : bxAt (R.2 12) k N) (hk : k < 79) : f_Mo_sizeOf r (nI k) (bk_Mo σ r R) = some (nI (siz N)) := by
  obtain ⟨h0, h1, h2, h3, h4, h5⟩ := d_lt N
  unfold f_Mo_sizeOf
  rw [Mo_own, show f_Mo_at r (nI k) 0 (bk_Mo σ r R) = some (nI (d0 N)) from Mo_bx (t := 0) h (by decide) hk, Option.bind_some, show f_Mo_at r (nI k) 1 (bk_Mo σ r R) = some (nI (d1 N)) from Mo_bx (t := 1) h (by decide) hk, Option.bind_some, sp_nat h0 h1, Option.bind_some]
  rw [show f_Mo_at r (nI k) 2 (bk_Mo σ r R) = some (nI (d2 N)) from Mo_bx (t := 2) h (by decide) hk, Option.bind_some, show f_Mo_at r (nI k) 3 (bk_Mo σ r R) = some (nI (d3 N)) from Mo_bx (t := 3) h (by decide) hk, Option.bind_some, sp_nat h2 h3, Option.bind_some]
  rw [show f_Mo_at r (nI k) 4 (bk_Mo σ r R) = some (nI (d4 N)) from Mo_bx (t := 4) h (by decide) hk, Option.bind_some, show f_Mo_at r (nI k) 5 (bk_Mo σ r R) = some (nI (d5 N)) from Mo_bx (t := 5) h (by decide) hk, Option.bind_some, sp_nat h4 h5, Option.bind_some, pk_mul, pk_mul]
  rfl
/-- one thing's bounds: covered or not -/
theorem Mo_cv {i j a b : Nat} (hi : bxAt (R.2 12) i a) (hj : bxAt (R.2 12) j b) (ki : i < 79) (kj : j < 79) {K : Int32 → Int32 → Option Int32} {n t : Nat} (ht : t + 1 < 6) (cd : Prop) [Decidable cd] : f_Mo_covers_l1 r (nI i) (nI j) (bk_Mo σ r R) K (n + 1) (if cd then 1 else 0) (nI t) = f_Mo_covers_l1 r (nI i) (nI j) (bk_Mo σ r R) K n (if cd ∧ dgt t a ≤ dgt t b ∧ dgt (t + 1) b ≤ dgt (t + 1) a then 1 else 0) (nI (t + 2)) := by
  have e2 : nI t + 2 = nI (t + 2) := nI_add t 2
  have l1 := dgt_lt t a
  have l2 := dgt_lt t b
  have l3 := dgt_lt (t + 1) a
  have l4 := dgt_lt (t + 1) b
  rw [f_Mo_covers_l1, if_neg (by rw [il_6, nI_leI (by omega) (by omega)]; omega), e2, nI_1]
  by_cases hc : cd
  · rw [if_pos hc, if_neg (by decide), Mo_bx hi (by omega) ki, Option.bind_some, Mo_bx hj (by omega) kj, Option.bind_some, Mo_bx hi ht ki, Option.bind_some, Mo_bx hj ht kj, Option.bind_some]
    by_cases h1 : dgt t b < dgt t a
    · rw [if_pos ((nI_ltI (by omega) (by omega)).mpr h1), if_neg (by omega)]
    · rw [if_neg (fun q => h1 ((nI_ltI (by omega) (by omega)).mp q))]
      by_cases h2 : dgt (t + 1) a < dgt (t + 1) b
      · rw [if_pos ((nI_ltI (by omega) (by omega)).mpr h2), if_neg (by omega)]
      · rw [if_neg (fun q => h2 ((nI_ltI (by omega) (by omega)).mp q)), if_pos ⟨hc, by omega, by omega⟩]
  · rw [if_neg hc, if_pos rfl, if_neg (fun q => hc q.1)]
theorem Mo_covers {i j a b : Nat} (hi : bxAt (R.2 12) i a) (hj : bxAt (R.2 12) j b) (ki : i < 79) (kj : j < 79) : f_Mo_covers r (nI i) (nI j) (bk_Mo σ r R) = some (if cov a b = true then 1 else 0) := by
  obtain ⟨n, hn⟩ := hp_fu 4 (by decide)
  unfold f_Mo_covers
  rw [Mo_own, hn]
  show f_Mo_covers_l1 r (nI i) (nI j) (bk_Mo σ r R) _ (n + 4) (if True then 1 else 0) (nI 0) = _
  refine (Mo_cv hi hj ki kj (t := 0) (by decide) True).trans ((Mo_cv hi hj ki kj (t := 2) (by decide) _).trans ((Mo_cv hi hj ki kj (t := 4) (by decide) _).trans ?_))
  rw [f_Mo_covers_l1, if_pos (by decide), z_if]
  congr 1
  have : (((True ∧ dgt 0 a ≤ dgt 0 b ∧ dgt (0 + 1) b ≤ dgt (0 + 1) a) ∧ dgt 2 a ≤ dgt 2 b ∧ dgt (2 + 1) b ≤ dgt (2 + 1) a) ∧ dgt 4 a ≤ dgt 4 b ∧ dgt (4 + 1) b ≤ dgt (4 + 1) a) ↔ cov a b = true := by
    rw [cov_iff]
    show (((True ∧ d0 a ≤ d0 b ∧ d1 b ≤ d1 a) ∧ d2 a ≤ d2 b ∧ d3 b ≤ d3 a) ∧ d4 a ≤ d4 b ∧ d5 b ≤ d5 a) ↔ _
    constructor
    · rintro ⟨⟨⟨-, h1⟩, h2⟩, h3⟩
      exact ⟨h1, h2, h3⟩
    · rintro ⟨h1, h2, h3⟩
      exact ⟨⟨⟨trivial, h1⟩, h2⟩, h3⟩
  by_cases h : cov a b = true
  · rw [if_pos h, if_pos (this.mpr h)]
  · rw [if_neg h, if_neg (fun q => h (this.mp q))]
end MO
