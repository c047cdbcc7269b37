/-! ===== the reference: boxes in order, copied, settled; a box comes ===== -/
/-- what a record keeps: all numbers but those of fs, all rows but those of as -/
def kps (R R' : oR) (fs as : List Nat) : Prop := (∀ j, j ∉ fs → R'.1 j = R.1 j) ∧ ∀ j, j ∉ as → R'.2 j = R.2 j
theorem kps_rf {R : oR} {fs as : List Nat} : kps R R fs as := ⟨fun _ _ => rfl, fun _ _ => rfl⟩
theorem kps_tr {R R1 R2 : oR} {fs as : List Nat} (h : kps R R1 fs as) (h2 : kps R1 R2 fs as) : kps R R2 fs as := ⟨fun j hj => (h2.1 j hj).trans (h.1 j hj), fun j hj => (h2.2 j hj).trans (h.2 j hj)⟩
theorem kps_A {R : oR} {A : Nat → Int32} {j : Nat} {fs as : List Nat} (h : j ∈ as) : kps R (sA R j A) fs as := ⟨fun _ _ => rfl, fun k hk => sA_ne (fun e => hk (e ▸ h))⟩
theorem kps_F {R : oR} {x : Int32} {j : Nat} {fs as : List Nat} (h : j ∈ fs) : kps R (sF R j x) fs as := ⟨fun k hk => sF_ne (fun e => hk (e ▸ h)), fun _ _ => rfl⟩
theorem kps_mono {R R' : oR} {fs as fs' as' : List Nat} (h : kps R R' fs as) (h1 : ∀ j, j ∈ fs → j ∈ fs') (h2 : ∀ j, j ∈ as → j ∈ as') : kps R R' fs' as' := ⟨fun j hj => h.1 j (fun q => hj (h1 j q)), fun j hj => h.2 j (fun q => hj (h2 j q))⟩
/-- numbers written one behind another -/
def wr (A : Nat → Int32) (base m : Nat) (g : Nat → Int32) : Nat → Int32 := fun k => if base ≤ k ∧ k < base + m then g (k - base) else A k
theorem wr_0 {A : Nat → Int32} {base : Nat} {g : Nat → Int32} : wr A base 0 g = A := by
  funext k
  unfold wr
  rw [if_neg (by omega)]
theorem wr_s {A : Nat → Int32} {base m : Nat} {g : Nat → Int32} : upd (wr A base m g) (base + m) (g m) = wr A base (m + 1) g := by
  funext k
  unfold upd wr
  by_cases h : k = base + m
  · rw [if_pos h, if_pos (by omega), h, Nat.add_sub_cancel_left]
  · rw [if_neg h]
    by_cases h2 : base ≤ k ∧ k < base + m
    · rw [if_pos h2, if_pos (by omega)]
    · rw [if_neg h2, if_neg (by omega)]
theorem wr_in {A : Nat → Int32} {base m t : Nat} {g : Nat → Int32} (h : t < m) : wr A base m g (base + t) = g t := by
  unfold wr
  rw [if_pos (by omega), Nat.add_sub_cancel_left]
theorem wr_out {A : Nat → Int32} {base m k : Nat} {g : Nat → Int32} (h : k < base ∨ base + m ≤ k) : wr A base m g k = A k := by
  unfold wr
  rw [if_neg (by omega)]
section MO2
variable {σ : hp_H} {r : Nat} {R : oR}
theorem Mo_od {i j a b : Nat} (hi : bxAt (R.2 12) i a) (hj : bxAt (R.2 12) j b) (ki : i < 79) (kj : j < 79) {K : Int32 → Int32 → Option Int32} {n t : Nat} (ht : t < 6) (x : Int32) : f_Mo_order_l1 r (nI i) (nI j) (bk_Mo σ r R) K (n + 1) x (nI t) = f_Mo_order_l1 r (nI i) (nI j) (bk_Mo σ r R) K n (if dgt t a = dgt t b then x else nI (dgt t a) - nI (dgt t b)) (nI t + (-1)) := by
  have l1 := dgt_lt t a
  have l2 := dgt_lt t b
  rw [f_Mo_order_l1, if_neg (by rw [il_0, nI_ltI (by omega) (by omega)]; omega), Mo_bx hi ht ki, Option.bind_some, Mo_bx hj ht kj, Option.bind_some]
  by_cases h : dgt t a = dgt t b
  · rw [if_pos ((nI_eq (by omega) (by omega)).mpr h), if_pos h]
  · rw [if_neg (fun q => h ((nI_eq (by omega) (by omega)).mp q)), if_neg h, Option.bind_some, Option.bind_some]
def ordv (a b : Nat) : Int32 := if d0 a = d0 b then (if d1 a = d1 b then (if d2 a = d2 b then (if d3 a = d3 b then (if d4 a = d4 b then (if d5 a = d5 b then 0 else nI (d5 a) - nI (d5 b)) else nI (d4 a) - nI (d4 b)) else nI (d3 a) - nI (d3 b)) else nI (d2 a) - nI (d2 b)) else nI (d1 a) - nI (d1 b)) else nI (d0 a) - nI (d0 b)
theorem Mo_order {i j a b : Nat} (hi : bxAt (R.2 12) i a) (hj : bxAt (R.2 12) j b) (ki : i < 79) (kj : j < 79) : f_Mo_order r (nI i) (nI j) (bk_Mo σ r R) = some (ordv a b) := by
  obtain ⟨n, hn⟩ := hp_fu 7 (by decide)
  unfold f_Mo_order
  rw [Mo_own, hn]
  refine (Mo_od hi hj ki kj (t := 5) (by decide) 0).trans ?_
  rw [pk_m1]
  refine (Mo_od hi hj ki kj (t := 4) (by decide) _).trans ?_
  rw [pk_m1]
  refine (Mo_od hi hj ki kj (t := 3) (by decide) _).trans ?_
  rw [pk_m1]
  refine (Mo_od hi hj ki kj (t := 2) (by decide) _).trans ?_
  rw [pk_m1]
  refine (Mo_od hi hj ki kj (t := 1) (by decide) _).trans ?_
  rw [pk_m1]
  refine (Mo_od hi hj ki kj (t := 0) (by decide) _).trans ?_
  rw [f_Mo_order_l1, if_pos (by decide)]
  rfl
theorem sub_le0 {x y : Nat} (hx : x < 16) (hy : y < 16) : (nI x - nI y ≤ 0 ↔ x ≤ y) ∧ (nI x - nI y = 0 ↔ x = y) := by
  rw [fo_le, fo_eq, pk_sub_toInt (by omega) (by omega)]
  show (((x : Int) - y ≤ 0) ↔ _) ∧ (((x : Int) - y = 0) ↔ _)
  omega
theorem ordv_le {a b : Nat} (ha : a < 16777216) (hb : b < 16777216) : (ordv a b ≤ 0 ↔ a ≤ b) ∧ (ordv a b = 0 ↔ a = b) := by
  obtain ⟨p0, p1, p2, p3, p4, p5⟩ := d_lt a
  obtain ⟨q0, q1, q2, q3, q4, q5⟩ := d_lt b
  have ea := mk6_of ha
  have eb := mk6_of hb
  unfold mk6 at ea eb
  unfold ordv
  by_cases h0 : d0 a = d0 b
  · rw [if_pos h0]
    by_cases h1 : d1 a = d1 b
    · rw [if_pos h1]
      by_cases h2 : d2 a = d2 b
      · rw [if_pos h2]
        by_cases h3 : d3 a = d3 b
        · rw [if_pos h3]
          by_cases h4 : d4 a = d4 b
          · rw [if_pos h4]
            by_cases h5 : d5 a = d5 b
            · rw [if_pos h5]
              have : a = b := by rw [ea, eb, h0, h1, h2, h3, h4, h5]
              rw [this]
              exact ⟨⟨fun _ => Nat.le_refl _, fun _ => by decide⟩, ⟨fun _ => rfl, fun _ => rfl⟩⟩
            · rw [if_neg h5]
              obtain ⟨s1, s2⟩ := sub_le0 p5 q5
              rw [s1, s2]
              omega
          · rw [if_neg h4]
            obtain ⟨s1, s2⟩ := sub_le0 p4 q4
            rw [s1, s2]
            omega
        · rw [if_neg h3]
          obtain ⟨s1, s2⟩ := sub_le0 p3 q3
          rw [s1, s2]
          omega
      · rw [if_neg h2]
        obtain ⟨s1, s2⟩ := sub_le0 p2 q2
        rw [s1, s2]
        omega
    · rw [if_neg h1]
      obtain ⟨s1, s2⟩ := sub_le0 p1 q1
      rw [s1, s2]
      omega
  · rw [if_neg h0]
    obtain ⟨s1, s2⟩ := sub_le0 p0 q0
    rw [s1, s2]
    omega
theorem Mo_copies_l {i j : Nat} (ki : i < 79) (kj : j < 79) {K : Int32 → hp_H → Option hp_H} {A : Nat → Int32} (hA : R.2 12 = A) : ∀ (m t n : Nat), t + m = 6 → f_Mo_copies_l1 r (nI i) (nI j) K (n + m + 1) (nI t) (bk_Mo σ r (sA R 12 (wr A (6 * i) t (fun u => A (6 * j + u))))) = K (nI 6) (bk_Mo σ r (sA R 12 (wr A (6 * i) 6 (fun u => A (6 * j + u)))))
  | 0, t, n, h => by
    rw [show t = 6 by omega, f_Mo_copies_l1, if_pos (by decide)]
  | m + 1, t, n, h => by
    rw [f_Mo_copies_l1, if_neg (by rw [il_6, nI_leI (by omega) (by omega)]; omega), Mo_g12, Option.bind_some, Option.bind_some, il_6, pk_mul, nI_add, Mo_a12 (by omega), Option.bind_some, pk_mul, nI_add, Mo_s12 (by omega), Option.bind_some, nI_1]
    have e : (sA R 12 (wr A (6 * i) t (fun u => A (6 * j + u)))).2 12 (6 * j + t) = A (6 * j + t) := by
      rw [sA_at]
      exact wr_out (by omega)
    rw [e]
    have e2 : ((sA R 12 (wr A (6 * i) t (fun u => A (6 * j + u)))).1, up2 (sA R 12 (wr A (6 * i) t (fun u => A (6 * j + u)))).2 12 (6 * i + t) (A (6 * j + t))) = sA R 12 (wr A (6 * i) (t + 1) (fun u => A (6 * j + u))) := by
      show sA (sA R 12 (wr A (6 * i) t (fun u => A (6 * j + u)))) 12 (upd ((sA R 12 (wr A (6 * i) t (fun u => A (6 * j + u)))).2 12) (6 * i + t) (A (6 * j + t))) = _
      rw [sA_A, sA_at]
      congr 1
      exact wr_s (g := fun u => A (6 * j + u))
    rw [e2]
    exact Mo_copies_l ki kj hA m (t + 1) n (by omega)
theorem Mo_copies {i j : Nat} (ki : i < 79) (kj : j < 79) : f_Mo_copies r (nI i) (nI j) (bk_Mo σ r R) = some (bk_Mo σ r (sA R 12 (wr (R.2 12) (6 * i) 6 (fun u => R.2 12 (6 * j + u))))) := by
  obtain ⟨n, hn⟩ := hp_fu 7 (by decide)
  unfold f_Mo_copies
  rw [Mo_own, hn]
  have := Mo_copies_l (σ := σ) (r := r) (R := R) ki kj (K := fun z5 σ => some σ) rfl 6 0 n (by decide)
  rw [wr_0, sA_self] at this
  exact this
end MO2
