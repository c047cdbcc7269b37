/-! ===== blocks of cells: an object with what is its own, at addresses that follow each other ===== -/
def bW (σ : hp_H) (a n : Nat) (f : Nat → hp_V) : hp_H := (fun x => if a ≤ x ∧ x < a + n then some (f (x - a)) else σ.1 x, σ.2)
theorem bW_get {σ : hp_H} {a n k q : Nat} {f : Nat → hp_V} (hk : k < n) (hq : q = a + k) : (bW σ a n f).1 q = some (f k) := by
  subst hq
  show (if a ≤ a + k ∧ a + k < a + n then some (f (a + k - a)) else σ.1 (a + k)) = _
  rw [if_pos (by omega), Nat.add_sub_cancel_left]
theorem bW_out {σ : hp_H} {a n x : Nat} {f : Nat → hp_V} (h : x < a ∨ a + n ≤ x) : (bW σ a n f).1 x = σ.1 x := by
  show (if a ≤ x ∧ x < a + n then some (f (x - a)) else σ.1 x) = _
  rw [if_neg (by omega)]
theorem bW_size {σ : hp_H} {a n : Nat} {f : Nat → hp_V} : (bW σ a n f).2 = σ.2 := rfl
theorem bW_congr {σ : hp_H} {a n : Nat} {f g : Nat → hp_V} (h : ∀ k, k < n → f k = g k) : bW σ a n f = bW σ a n g := by
  unfold bW
  congr 1
  funext x
  split
  · rw [h _ (by omega)]
  · rfl
theorem bW_set {σ : hp_H} {a n k q : Nat} {f : Nat → hp_V} (hk : k < n) (hq : q = a + k) (v : hp_V) : hp_set (bW σ a n f) q v = bW σ a n (fun j => if j = k then v else f j) := by
  subst hq
  unfold hp_set bW
  congr 1
  funext x
  by_cases hx : x = a + k
  · subst hx
    show (if a + k = a + k then some v else _) = (if a ≤ a + k ∧ a + k < a + n then some (if a + k - a = k then v else f (a + k - a)) else _)
    rw [if_pos rfl, if_pos (by omega), Nat.add_sub_cancel_left, if_pos rfl]
  · simp only []
    rw [if_neg hx]
    split
    · rw [if_neg (by omega)]
    · rfl
/-- a part of a block is a block -/
theorem bW_sub {σ : hp_H} {a n k m q : Nat} {f : Nat → hp_V} (h : k + m ≤ n) (hq : q = a + k) : bW σ a n f = bW (bW σ a n f) q m (fun j => f (k + j)) := by
  subst hq
  unfold bW
  congr 1
  funext x
  simp only []
  by_cases hx : a + k ≤ x ∧ x < a + k + m
  · rw [if_pos hx, if_pos (by omega), show k + (x - (a + k)) = x - a by omega]
  · rw [if_neg hx]
theorem bW_in {σ : hp_H} {a n k m q : Nat} {f g : Nat → hp_V} (h : k + m ≤ n) (hq : q = a + k) : bW (bW σ a n f) q m g = bW σ a n (fun j => if k ≤ j ∧ j < k + m then g (j - k) else f j) := by
  subst hq
  unfold bW
  congr 1
  funext x
  simp only []
  by_cases hx : a + k ≤ x ∧ x < a + k + m
  · rw [if_pos hx, if_pos (by omega), if_pos (by omega), show x - a - k = x - (a + k) by omega]
  · rw [if_neg hx]
    by_cases h2 : a ≤ x ∧ x < a + n
    · rw [if_pos h2, if_pos h2, if_neg (by omega)]
    · rw [if_neg h2, if_neg h2]
theorem bW_idem {σ : hp_H} {a n : Nat} {f g : Nat → hp_V} : bW (bW σ a n f) a n g = bW σ a n g := by
  unfold bW
  congr 1
  funext x
  simp only []
  split <;> rfl
theorem bW_comm {σ : hp_H} {a n b m : Nat} {f g : Nat → hp_V} (h : a + n ≤ b ∨ b + m ≤ a) : bW (bW σ a n f) b m g = bW (bW σ b m g) a n f := by
  unfold bW
  congr 1
  funext x
  simp only []
  by_cases h1 : a ≤ x ∧ x < a + n
  · rw [if_pos h1, if_pos h1, if_neg (by omega)]
  · rw [if_neg h1, if_neg h1]
theorem bW_self {σ : hp_H} {a n : Nat} {f : Nat → hp_V} (h : ∀ k, k < n → σ.1 (a + k) = some (f k)) : σ = bW σ a n f := by
  unfold bW
  apply Prod.ext
  · funext x
    simp only []
    split
    · rename_i hx
      have := h (x - a) (by omega)
      rw [show a + (x - a) = x by omega] at this
      exact this
    · rfl
  · rfl
section BLK
variable {σ : hp_H} {a n k q : Nat} {f : Nat → hp_V}
theorem bk_own {α : Type} {ci : Nat} {fs : List Value} {x : Option α} (hk : k < n) (hq : q = a + k) (hf : f k = .inl (ci, fs)) : hp_own (bW σ a n f) q ci x = x := by
  unfold hp_own hp_isb
  rw [bW_get hk hq, hf]
  simp
theorem bk_isb {ci : Nat} {fs : List Value} (hk : k < n) (hq : q = a + k) (hf : f k = .inl (ci, fs)) : hp_isb (bW σ a n f) q ci = true := by
  unfold hp_isb
  rw [bW_get hk hq, hf]
  simp
theorem bk_obj {ci : Nat} {fs : List Value} (hk : k < n) (hq : q = a + k) (hf : f k = .inl (ci, fs)) : hp_obj (bW σ a n f) q ci = some fs := by
  unfold hp_obj
  rw [bW_get hk hq, hf]
  simp
theorem bk_gI {ci j : Nat} {fs : List Value} {v : Int32} (hk : k < n) (hq : q = a + k) (hf : f k = .inl (ci, fs)) (hj : fs[j]? = some (.int v)) : hp_gI (bW σ a n f) q ci j = some v := by
  unfold hp_gI
  rw [bk_obj hk hq hf, Option.bind_some, hj]
theorem bk_gR {ci j : Nat} {fs : List Value} {v : Nat} (hk : k < n) (hq : q = a + k) (hf : f k = .inl (ci, fs)) (hj : fs[j]? = some (.ref v)) : hp_gR (bW σ a n f) q ci j = some v := by
  unfold hp_gR
  rw [bk_obj hk hq hf, Option.bind_some, hj]
theorem bk_pV {ci j : Nat} {fs : List Value} {v : Value} (hk : k < n) (hq : q = a + k) (hf : f k = .inl (ci, fs)) (hj : j < fs.length) : hp_pV (bW σ a n f) q ci j v = some (bW σ a n (fun i => if i = k then .inl (ci, fs.set j v) else f i)) := by
  unfold hp_pV
  rw [bk_obj hk hq hf, Option.bind_some, if_pos hj, bW_set hk hq]
theorem bk_row {t N : Nat} {g : Nat → Int32} (hk : k < n) (hq : q = a + k) (hf : f k = .inr (.inl (t, N, g))) : hp_row (bW σ a n f) q t = some (N, g) := by
  unfold hp_row
  rw [bW_get hk hq, hf]
  simp
theorem bk_rrow {t N : Nat} {g : Nat → Option Nat} (hk : k < n) (hq : q = a + k) (hf : f k = .inr (.inr (t, N, g))) : hp_rrow (bW σ a n f) q t = some (N, g) := by
  unfold hp_rrow
  rw [bW_get hk hq, hf]
  simp
theorem bk_aI {t N i : Nat} {g : Nat → Int32} (hk : k < n) (hq : q = a + k) (hf : f k = .inr (.inl (t, N, g))) (hi : i < N) (hN : N < 2 ^ 31) : hp_aI (bW σ a n f) q t (nI i) = some (g i) := by
  unfold hp_aI
  rw [bk_row hk hq hf, Option.bind_some, nI_toInt (by omega), nI_clamp (by omega), if_pos (by constructor <;> omega)]
theorem bk_sI {t N i : Nat} {g : Nat → Int32} {x : Int32} (hk : k < n) (hq : q = a + k) (hf : f k = .inr (.inl (t, N, g))) (hi : i < N) (hN : N < 2 ^ 31) : hp_sI (bW σ a n f) q t (nI i) x = some (bW σ a n (fun j => if j = k then .inr (.inl (t, N, upd g i x)) else f j)) := by
  unfold hp_sI
  rw [bk_row hk hq hf, Option.bind_some, nI_toInt (by omega), nI_clamp (by omega), if_pos (by constructor <;> omega), bW_set hk hq]
theorem bk_aR {t N i : Nat} {g : Nat → Option Nat} (hk : k < n) (hq : q = a + k) (hf : f k = .inr (.inr (t, N, g))) (hi : i < N) (hN : N < 2 ^ 31) : hp_aR (bW σ a n f) q t (nI i) = g i := by
  unfold hp_aR
  rw [bk_rrow hk hq hf, Option.bind_some, nI_toInt (by omega), nI_clamp (by omega), if_pos (by constructor <;> omega)]
theorem bk_ln {t N : Nat} {g : Nat → Int32} (hk : k < n) (hq : q = a + k) (hf : f k = .inr (.inl (t, N, g))) : hp_ln (bW σ a n f) q t = some (nI N) := by
  unfold hp_ln
  rw [bk_row hk hq hf, Option.bind_some]
  rfl
end BLK
/-- a record: numbers by field, rows by field -/
abbrev oR : Type := (Nat → Int32) × (Nat → Nat → Int32)
def up2 (A : Nat → Nat → Int32) (j i : Nat) (x : Int32) : Nat → Nat → Int32 := fun j' => if j' = j then upd (A j) i x else A j'
theorem up2_s {A : Nat → Nat → Int32} {j i : Nat} {x : Int32} : up2 A j i x j = upd (A j) i x := if_pos rfl
theorem up2_n {A : Nat → Nat → Int32} {j i k : Nat} {x : Int32} (h : k ≠ j) : up2 A j i x k = A k := if_neg h
