/-! ===== the reference: wish, drop ===== -/
def blo (k v : Nat) : Nat := if 2 ≤ k then v else 0
def bhi (k v : Nat) : Nat := if k = 0 ∨ k = 2 then 9 else v
def bdS (A : Nat → Int32) (w a k v : Nat) : Nat → Int32 := upd (upd A (171 + 7 * w + 2 * a) (nI (blo k v))) (172 + 7 * w + 2 * a) (nI (bhi k v))
def wisS (s : Nat → Int32) (c k1 v1 k2 v2 k3 v3 : Nat) : Nat → Int32 := upd (bdS (bdS (bdS (upd s (170 + 7 * nW s) (nI c)) (nW s) 0 k1 v1) (nW s) 1 k2 v2) (nW s) 2 k3 v3) 2 (nI (nW s + 1))
/-- numbers moved down by seven places -/
def sh7 (A : Nat → Int32) (base t : Nat) : Nat → Int32 := fun j => if base ≤ j ∧ j < base + t then A (j + 7) else A j
theorem sh7_0 {A : Nat → Int32} {base : Nat} : sh7 A base 0 = A := by
  funext j
  unfold sh7
  rw [if_neg (by omega)]
theorem sh7_s {A : Nat → Int32} {base t : Nat} : upd (sh7 A base t) (base + t) (sh7 A base t (base + t + 7)) = sh7 A base (t + 1) := by
  funext j
  have e : sh7 A base t (base + t + 7) = A (base + t + 7) := by unfold sh7; rw [if_neg (by omega)]
  rw [e]
  unfold upd sh7
  by_cases h : j = base + t
  · rw [if_pos h, if_pos (by omega), h]
  · rw [if_neg h]
    by_cases h2 : base ≤ j ∧ j < base + t
    · rw [if_pos h2, if_pos (by omega)]
    · rw [if_neg h2, if_neg (by omega)]
/-- wish w is dropped, of n -/
def drS (s : Nat → Int32) (w n : Nat) : Nat → Int32 := sh7 (upd s 2 (nI (n - 1))) (170 + 7 * w) (7 * (n - 1 - w))
section MO18
variable {σ : hp_H} {r : Nat} {R : oR} {x y : Int32}
theorem Mo_bds {A : Nat → Int32} {w a k v : Nat} (hw : w < 12) (ha : a < 3) (hk : k < 4) : f_Mo_bounds r (nI w) (nI a) (nI k) (nI v) (bk_Mo σ r (sA R 0 A)) = some (bk_Mo σ r (sA R 0 (bdS A w a k v))) := by
  have e1 : (((170 : Int32) + ((7 : Int32) * nI w)) + 1) + ((2 : Int32) * nI a) = nI (171 + 7 * w + 2 * a) := by
    rw [show 171 + 7 * w + 2 * a = 170 + 7 * w + 1 + 2 * a by omega, il_170, il_7, pk_mul, nI_add, nI_1, show (2 : Int32) = nI 2 from rfl, pk_mul, nI_add]
  have e2 : nI (171 + 7 * w + 2 * a) + 1 = nI (172 + 7 * w + 2 * a) := by
    rw [nI_1, show 172 + 7 * w + 2 * a = 171 + 7 * w + 2 * a + 1 by omega]
  unfold f_Mo_bounds bdS blo bhi
  rw [Mo_own, Mo_g0, Option.bind_some, e1, e2]
  match k, hk with
  | 0, _ =>
    rw [if_neg (by decide), if_neg (by decide), if_pos (by decide), show (0 : Int32) = nI 0 from rfl, Mo_st (by omega), Option.bind_some, Mo_g0, Option.bind_some, if_pos rfl, Mo_st (by omega), Option.bind_some]
    rfl
  | 1, _ =>
    rw [if_neg (by decide), if_neg (by decide), if_neg (by decide), Mo_st (by omega), Option.bind_some, Mo_g0, Option.bind_some, if_neg (by decide), if_neg (by decide), Mo_st (by omega), Option.bind_some]
    rfl
  | 2, _ =>
    rw [if_pos (by decide), if_pos (by decide), if_pos (by decide), Mo_st (by omega), Option.bind_some, Mo_g0, Option.bind_some, if_neg (by decide), if_pos (by decide), Mo_st (by omega), Option.bind_some]
    rfl
  | 3, _ =>
    rw [if_pos (by decide), if_pos (by decide), if_neg (by decide), Mo_st (by omega), Option.bind_some, Mo_g0, Option.bind_some, if_neg (by decide), if_neg (by decide), Mo_st (by omega), Option.bind_some]
theorem Mo_knd {k v : Nat} (hk : k < 4) (hv : v < 10) : f_Mo_isKind (nI k) (nI v) = some 1 := by
  have h1 : (0 : Int32).toInt ≤ (nI k).toInt ∧ (nI k).toInt ≤ (3 : Int32).toInt := by
    rw [nI_toInt (by omega)]
    show (0 : Int) ≤ k ∧ (k : Int) ≤ 3
    omega
  have h2 : (0 : Int32).toInt ≤ (nI v).toInt ∧ (nI v).toInt ≤ (9 : Int32).toInt := by
    rw [nI_toInt (by omega)]
    show (0 : Int) ≤ v ∧ (v : Int) ≤ 9
    omega
  unfold f_Mo_isKind
  rw [in_wi, wi_lit, Option.bind_some, tsw_y h1, wi_lit, Option.bind_some, tsw_y h2]
theorem Mo_knd_no (h : ¬ (inI x 4 ∧ inI y 10)) : f_Mo_isKind x y = some 0 := by
  unfold f_Mo_isKind
  rw [in_wi, wi_lit, Option.bind_some]
  by_cases c1 : (0 : Int32).toInt ≤ x.toInt ∧ x.toInt ≤ (3 : Int32).toInt
  · rw [tsw_y c1, wi_lit, Option.bind_some, tsw_n (fun c2 => h ⟨?_, ?_⟩)]
    · have q' : (0 : Int) ≤ x.toInt ∧ x.toInt ≤ 3 := c1
      unfold inI
      omega
    · have q' : (0 : Int) ≤ y.toInt ∧ y.toInt ≤ 9 := c2
      unfold inI
      omega
  · rw [tsw_n c1]
theorem Mo_wis {k : Nat} {s : Nat → Int32} (hs : Wf s) (hk : k ≤ 16) (h0 : R.2 0 = s) (h3 : R.1 3 = nI k) {c k1 v1 k2 v2 k3 v3 : Nat} (hc : c < nC s) (a1 : k1 < 4) (a2 : k2 < 4) (a3 : k3 < 4) (b1 : v1 < 10) (b2 : v2 < 10) (b3 : v3 < 10) (h12 : nW s ≠ 12) : f_Mo_wish_ r (nI c) (nI k1) (nI v1) (nI k2) (nI v2) (nI k3) (nI v3) (bk_Mo σ r R) = some (nI (nW s), bk_Mo σ r (sA (dedX R k) 0 (wisS s c k1 v1 k2 v2 k3 v3))) := by
  have hC6 := hs.2.1.1.2
  have hW := hs.2.2.1.1.2
  have e2 : hp_aI (bk_Mo σ r R) (r + 1) 0 2 = some (nI (nW s)) := by rw [← hs.2.2.1.1.1, ← h0]; exact Mo_a0 (i := 2) (by decide)
  have h12' : ¬ nI (nW s) = 12 := fun q => h12 ((nI_eq (b := 12) (by omega) (by omega)).mp q)
  have e7 : (170 : Int32) + ((7 : Int32) * nI (nW s)) = nI (170 + 7 * nW s) := by rw [il_170, il_7, pk_mul, nI_add]
  have u2 : bdS (bdS (bdS (upd s (170 + 7 * nW s) (nI c)) (nW s) 0 k1 v1) (nW s) 1 k2 v2) (nW s) 2 k3 v3 2 = nI (nW s) := by
    unfold bdS
    rw [upd_ne (by omega), upd_ne (by omega), upd_ne (by omega), upd_ne (by omega), upd_ne (by omega), upd_ne (by omega), upd_ne (by omega)]
    exact hs.2.2.1.1.1
  unfold f_Mo_wish_
  rw [Mo_own, Mo_isClient (C := nC s) (by rw [h0]; exact hs.2.1.1.1) (by omega), Option.bind_some, tst_y (inI_nI hc (by omega)), Mo_knd a1 b1, Option.bind_some, if_neg (by decide), Mo_knd a2 b2, Option.bind_some, if_neg (by decide), Mo_knd a3 b3, Option.bind_some, if_neg (by decide), Mo_g0, Option.bind_some, e2, Option.bind_some, if_neg h12', Mo_dd hk h0 h3, Option.bind_some]
  simp only [Mo_g0, Option.bind_some, Mo_r_2, hs.2.2.1.1.1]
  have p0 : ∀ A, f_Mo_bounds r (nI (nW s)) 0 (nI k1) (nI v1) (bk_Mo σ r (sA (dedX R k) 0 A)) = some (bk_Mo σ r (sA (dedX R k) 0 (bdS A (nW s) 0 k1 v1))) := fun A => Mo_bds (a := 0) (by omega) (by decide) a1
  have p1 : ∀ A, f_Mo_bounds r (nI (nW s)) 1 (nI k2) (nI v2) (bk_Mo σ r (sA (dedX R k) 0 A)) = some (bk_Mo σ r (sA (dedX R k) 0 (bdS A (nW s) 1 k2 v2))) := fun A => Mo_bds (a := 1) (by omega) (by decide) a2
  have p2 : ∀ A, f_Mo_bounds r (nI (nW s)) 2 (nI k3) (nI v3) (bk_Mo σ r (sA (dedX R k) 0 A)) = some (bk_Mo σ r (sA (dedX R k) 0 (bdS A (nW s) 2 k3 v3))) := fun A => Mo_bds (a := 2) (by omega) (by decide) a3
  rw [e7, Mo_st (by omega), Option.bind_some, p0, Option.bind_some, p1, Option.bind_some, p2, Option.bind_some, Mo_g0, Option.bind_some, Mo_r_2, Option.bind_some, Mo_w_2, Option.bind_some, u2, nI_1]
  rfl
theorem Mo_dr1 {B : Nat → Int32} {w n : Nat} (hw : w < n) (hn : n ≤ 12) (h2 : B 2 = nI (n - 1)) {K : Int32 → hp_H → Option hp_H} : ∀ (m t f : Nat), t + m = 7 * (n - 1 - w) → f_Mo_dropsWish_l1 r K (f + m + 1) (nI (170 + 7 * w + t)) (bk_Mo σ r (sA R 0 (sh7 B (170 + 7 * w) t))) = K (nI (170 + 7 * (n - 1))) (bk_Mo σ r (sA R 0 (sh7 B (170 + 7 * w) (7 * (n - 1 - w)))))
  | 0, t, f, h => by
    have e2 : sh7 B (170 + 7 * w) t 2 = nI (n - 1) := by unfold sh7; rw [if_neg (by omega)]; exact h2
    have e7 : (170 : Int32) + ((7 : Int32) * nI (n - 1)) = nI (170 + 7 * (n - 1)) := by rw [il_170, il_7, pk_mul, nI_add]
    rw [f_Mo_dropsWish_l1, Mo_g0, Option.bind_some, Mo_r_2, Option.bind_some, e2, e7, if_pos ((nI_leI (by omega) (by omega)).mpr (by omega)), show t = 7 * (n - 1 - w) by omega, show 170 + 7 * w + 7 * (n - 1 - w) = 170 + 7 * (n - 1) by omega]
  | m + 1, t, f, h => by
    have e2 : sh7 B (170 + 7 * w) t 2 = nI (n - 1) := by unfold sh7; rw [if_neg (by omega)]; exact h2
    have e7 : (170 : Int32) + ((7 : Int32) * nI (n - 1)) = nI (170 + 7 * (n - 1)) := by rw [il_170, il_7, pk_mul, nI_add]
    rw [f_Mo_dropsWish_l1, Mo_g0, Option.bind_some, Mo_r_2, Option.bind_some, e2, e7, if_neg (fun q => by have := (nI_leI (by omega) (by omega)).mp q; omega), Option.bind_some, Option.bind_some, il_7, nI_add, Mo_rd (by omega), Option.bind_some, Mo_st (by omega), Option.bind_some, sh7_s, nI_1]
    exact Mo_dr1 hw hn h2 m (t + 1) f (by omega)
theorem Mo_drp {A : Nat → Int32} {w n : Nat} (hw : w < n) (hn : n ≤ 12) (h2 : A 2 = nI n) : f_Mo_dropsWish r (nI w) (bk_Mo σ r (sA R 0 A)) = some (bk_Mo σ r (sA R 0 (drS A w n))) := by
  obtain ⟨f, hf⟩ := hp_fu (7 * (n - 1 - w) + 1) (by omega)
  have hf' : f + 7 * (n - 1 - w) + 1 = hp_F := hf.symm
  have h1 := Mo_dr1 (σ := σ) (r := r) (R := R) (B := upd A 2 (nI (n - 1))) hw hn upd_at (K := fun z9 σ => some σ) (7 * (n - 1 - w)) 0 f (by omega)
  rw [sh7_0, hf', Nat.add_zero] at h1
  have e1 : nI n - 1 = nI (n - 1) := by
    have := nI_pred (n - 1)
    rw [show n - 1 + 1 = n by omega] at this
    exact this
  have e7 : (170 : Int32) + ((7 : Int32) * nI w) = nI (170 + 7 * w) := by rw [il_170, il_7, pk_mul, nI_add]
  unfold f_Mo_dropsWish
  rw [Mo_own, Mo_g0, Option.bind_some, Mo_r_2, Option.bind_some, Mo_w_2, Option.bind_some, h2, e1, e7]
  exact h1
theorem Mo_drop {k : Nat} {s : Nat → Int32} (hs : Wf s) (hk : k ≤ 16) (h0 : R.2 0 = s) (h3 : R.1 3 = nI k) {w : Nat} (hw : w < nW s) : f_Mo_drop r (nI w) (bk_Mo σ r R) = some (nI (nW s - 1), bk_Mo σ r (sA (dedX R k) 0 (drS s w (nW s)))) := by
  have hW := hs.2.2.1.1.2
  have u2 : drS s w (nW s) 2 = nI (nW s - 1) := by
    unfold drS sh7
    rw [if_neg (by omega)]
    exact upd_at
  unfold f_Mo_drop
  rw [Mo_own, Mo_isWish (N := nW s) (by rw [h0]; exact hs.2.2.1.1.1) (by omega), Option.bind_some, tst_y (inI_nI hw (by omega)), Mo_dd hk h0 h3, Option.bind_some, Mo_drp hw hW hs.2.2.1.1.1, Option.bind_some, Mo_g0, Option.bind_some, Mo_r_2, Option.bind_some, u2]
theorem Mo_drop_no {s : Nat → Int32} (hs : Wf s) (h0 : R.2 0 = s) (hx : ¬ inI x (nW s)) : f_Mo_drop r x (bk_Mo σ r R) = some (-1000000001, bk_Mo σ r R) := by
  have hW := hs.2.2.1.1.2
  unfold f_Mo_drop
  rw [Mo_own, Mo_isWish (N := nW s) (by rw [h0]; exact hs.2.2.1.1.1) (by omega), Option.bind_some, tst_n hx]
end MO18
