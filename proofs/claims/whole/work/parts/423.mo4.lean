/-! ===== the reference: two are joined ===== -/
theorem dgE (N : Nat) : dgt 0 N = d0 N ∧ dgt 1 N = d1 N ∧ dgt 2 N = d2 N ∧ dgt 3 N = d3 N ∧ dgt 4 N = d4 N ∧ dgt 5 N = d5 N := ⟨rfl, rfl, rfl, rfl, rfl, rfl⟩
theorem dgt_jn (a b : Nat) : dgt 0 (jn a b) = min (dgt 0 a) (dgt 0 b) ∧ dgt 1 (jn a b) = max (dgt 1 a) (dgt 1 b) ∧ dgt 2 (jn a b) = min (dgt 2 a) (dgt 2 b) ∧ dgt 3 (jn a b) = max (dgt 3 a) (dgt 3 b) ∧ dgt 4 (jn a b) = min (dgt 4 a) (dgt 4 b) ∧ dgt 5 (jn a b) = max (dgt 5 a) (dgt 5 b) := by
  obtain ⟨e0, e1, e2, e3, e4, e5, -⟩ := jn_d a b
  obtain ⟨f0, f1, f2, f3, f4, f5⟩ := dgE (jn a b)
  obtain ⟨g0, g1, g2, g3, g4, g5⟩ := dgE a
  obtain ⟨h0, h1, h2, h3, h4, h5⟩ := dgE b
  rw [f0, f1, f2, f3, f4, f5, g0, g1, g2, g3, g4, g5, h0, h1, h2, h3, h4, h5]
  exact ⟨e0, e1, e2, e3, e4, e5⟩
section MO4
variable {σ : hp_H} {r : Nat} {R : oR}
theorem Mo_sh {i j a b : Nat} (hi : bxAt (R.2 12) i a) (hj : bxAt (R.2 12) j b) (ki : i < 79) (kj : j < 79) {K : Int32 → Int32 → Option Int32} {n t x : Nat} (ht : t + 1 < 6) : f_Mo_shared_l1 r (nI i) (nI j) (bk_Mo σ r R) K (n + 1) (nI x) (nI t) = f_Mo_shared_l1 r (nI i) (nI j) (bk_Mo σ r R) K n (nI (x * (min (dgt (t + 1) a) (dgt (t + 1) b) + 1 - max (dgt t a) (dgt t b)))) (nI (t + 2)) := by
  have e2 : nI t + 2 = nI (t + 2) := nI_add t 2
  have l1 := dgt_lt t a
  have l2 := dgt_lt t b
  have l3 := dgt_lt (t + 1) a
  have l4 := dgt_lt (t + 1) b
  rw [f_Mo_shared_l1, if_neg (by rw [il_6, nI_leI (by omega) (by omega)]; omega), e2, nI_1, Mo_bx hi (by omega) ki, Option.bind_some, Mo_bx hj (by omega) kj, Option.bind_some]
  simp only [Option.bind_some, Mo_bx hi ht ki, Mo_bx hj ht kj]
  by_cases h1 : dgt t a ≤ dgt t b
  · rw [if_pos ((nI_leI (by omega) (by omega)).mpr h1), Nat.max_eq_right h1]
    by_cases h2 : dgt (t + 1) b ≤ dgt (t + 1) a
    · rw [if_pos ((nI_leI (by omega) (by omega)).mpr h2), Nat.min_eq_right h2, sp_nat l2 l4, Option.bind_some, pk_mul]
    · rw [if_neg (fun q => h2 ((nI_leI (by omega) (by omega)).mp q)), Nat.min_eq_left (by omega), sp_nat l2 l3, Option.bind_some, pk_mul]
  · rw [if_neg (fun q => h1 ((nI_leI (by omega) (by omega)).mp q)), Nat.max_eq_left (by omega)]
    by_cases h2 : dgt (t + 1) b ≤ dgt (t + 1) a
    · rw [if_pos ((nI_leI (by omega) (by omega)).mpr h2), Nat.min_eq_right h2, sp_nat l1 l4, Option.bind_some, pk_mul]
    · rw [if_neg (fun q => h2 ((nI_leI (by omega) (by omega)).mp q)), Nat.min_eq_left (by omega), sp_nat l1 l3, Option.bind_some, pk_mul]
theorem Mo_shared {i j a b : Nat} (hi : bxAt (R.2 12) i a) (hj : bxAt (R.2 12) j b) (ki : i < 79) (kj : j < 79) : f_Mo_shared r (nI i) (nI j) (bk_Mo σ r R) = some (nI (com a b)) := by
  obtain ⟨n, hn⟩ := hp_fu 4 (by decide)
  unfold f_Mo_shared
  rw [Mo_own, hn]
  refine (Mo_sh hi hj ki kj (t := 0) (x := 1) (by decide)).trans ((Mo_sh hi hj ki kj (t := 2) (by decide)).trans ((Mo_sh hi hj ki kj (t := 4) (by decide)).trans ?_))
  rw [f_Mo_shared_l1, if_pos (by decide), Nat.one_mul]
  rfl
theorem siz_dgt (N : Nat) : (dgt 1 N + 1 - dgt 0 N) * (dgt 3 N + 1 - dgt 2 N) * (dgt 5 N + 1 - dgt 4 N) = siz N := rfl
theorem ws_val {a b : Nat} (ha : vb a) (hb : vb b) : nI (siz (jn a b)) - nI (siz a) - nI (siz b) + nI (com a b) = nI (wst a b) := by
  have hl := wst_le ha hb
  have ring : ∀ x y z w : Int32, x - y - z + w = x + w - (y + z) := fun x y z w => by
    rw [Int32.sub_eq_add_neg, Int32.sub_eq_add_neg, Int32.sub_eq_add_neg, Int32.neg_add, Int32.add_assoc, Int32.add_assoc, Int32.add_assoc, Int32.sub_eq_add_neg, Int32.add_comm w, Int32.add_assoc]
  rw [ring, nI_add, nI_add, pk_sub hl]
  rfl
/-- one thing's bounds are joined -/
theorem Mo_ws {i j a b : Nat} (hi : bxAt (R.2 12) i a) (hj : bxAt (R.2 12) j b) (ki : i < 79) (kj : j < 79) {K : Int32 → Int32 → hp_H → Option (Int32 × hp_H)} {J : Nat → Int32} {n t u x N : Nat} (hu : u = t + 1) (ht : t + 1 < 6) (e1 : dgt t N = min (dgt t a) (dgt t b)) (e2 : dgt u N = max (dgt u a) (dgt u b)) : f_Mo_wasteOf_l1 r (nI i) (nI j) K (n + 1) (nI x) (nI t) (bk_Mo σ r (sA R 14 (wr J 0 t (fun u => nI (dgt u N))))) = f_Mo_wasteOf_l1 r (nI i) (nI j) K n (nI (x * (dgt u N + 1 - dgt t N))) (nI (t + 2)) (bk_Mo σ r (sA R 14 (wr J 0 (t + 2) (fun u => nI (dgt u N))))) := by
  subst hu
  have e3 : nI t + 2 = nI (t + 2) := nI_add t 2
  have l1 := dgt_lt t a
  have l2 := dgt_lt t b
  have l3 := dgt_lt (t + 1) a
  have l4 := dgt_lt (t + 1) b
  generalize hR1 : sA R 14 (wr J 0 t (fun u => nI (dgt u N))) = R1
  have hi1 : bxAt (R1.2 12) i a := by rw [← hR1, sA_ne (by decide)]; exact hi
  have hj1 : bxAt (R1.2 12) j b := by rw [← hR1, sA_ne (by decide)]; exact hj
  rw [f_Mo_wasteOf_l1, if_neg (by rw [il_6, nI_leI (by omega) (by omega)]; omega), e3, nI_1, Mo_bx hi1 (by omega) ki, Option.bind_some, Mo_bx hj1 (by omega) kj, Option.bind_some]
  simp only [Option.bind_some, Mo_bx hi1 ht ki, Mo_bx hj1 ht kj, Mo_g14]
  have wr1 : ∀ x y : Int32, x = nI (dgt t N) → y = nI (dgt (t + 1) N) → ∀ (Z : hp_H → Option (Int32 × hp_H)), ((hp_sI (bk_Mo σ r R1) (r + 10) 0 (nI t) x).bind fun σ => (hp_gR σ r 10 14).bind fun q => (hp_sI σ q 0 (nI (t + 1)) y).bind Z) = Z (bk_Mo σ r (sA R 14 (wr J 0 (t + 2) (fun u => nI (dgt u N))))) := by
    intro x y hx hy Z
    rw [Mo_s14 (by omega), Option.bind_some, Mo_g14, Option.bind_some, Mo_s14 (by omega), Option.bind_some]
    congr 2
    show sA (sA R1 14 (upd (R1.2 14) t x)) 14 (upd ((sA R1 14 (upd (R1.2 14) t x)).2 14) (t + 1) y) = _
    rw [sA_A, sA_at, ← hR1, sA_A, sA_at, hx, hy]
    congr 1
    have s1 := wr_s (A := J) (base := 0) (m := t) (g := fun u => nI (dgt u N))
    have s2 := wr_s (A := J) (base := 0) (m := t + 1) (g := fun u => nI (dgt u N))
    rw [Nat.zero_add] at s1 s2
    rw [s1, s2]
  by_cases h1 : dgt t b ≤ dgt t a
  · have m1 : dgt t N = dgt t b := by rw [e1, Nat.min_eq_right h1]
    rw [if_pos ((nI_leI (by omega) (by omega)).mpr h1)]
    by_cases h2 : dgt (t + 1) a ≤ dgt (t + 1) b
    · have m2 : dgt (t + 1) N = dgt (t + 1) b := by rw [e2, Nat.max_eq_right h2]
      rw [if_pos ((nI_leI (by omega) (by omega)).mpr h2), wr1 _ _ (by rw [m1]) (by rw [m2]), sp_nat l2 l4, Option.bind_some, pk_mul, m1, m2]
    · have m2 : dgt (t + 1) N = dgt (t + 1) a := by rw [e2, Nat.max_eq_left (by omega)]
      rw [if_neg (fun q => h2 ((nI_leI (by omega) (by omega)).mp q)), wr1 _ _ (by rw [m1]) (by rw [m2]), sp_nat l2 l3, Option.bind_some, pk_mul, m1, m2]
  · have m1 : dgt t N = dgt t a := by rw [e1, Nat.min_eq_left (by omega)]
    rw [if_neg (fun q => h1 ((nI_leI (by omega) (by omega)).mp q))]
    by_cases h2 : dgt (t + 1) a ≤ dgt (t + 1) b
    · have m2 : dgt (t + 1) N = dgt (t + 1) b := by rw [e2, Nat.max_eq_right h2]
      rw [if_pos ((nI_leI (by omega) (by omega)).mpr h2), wr1 _ _ (by rw [m1]) (by rw [m2]), sp_nat l1 l4, Option.bind_some, pk_mul, m1, m2]
    · have m2 : dgt (t + 1) N = dgt (t + 1) a := by rw [e2, Nat.max_eq_left (by omega)]
      rw [if_neg (fun q => h2 ((nI_leI (by omega) (by omega)).mp q)), wr1 _ _ (by rw [m1]) (by rw [m2]), sp_nat l1 l3, Option.bind_some, pk_mul, m1, m2]
theorem Mo_wasteOf {i j a b : Nat} (hi : bxAt (R.2 12) i a) (hj : bxAt (R.2 12) j b) (ha : vb a) (hb : vb b) (ki : i < 79) (kj : j < 79) : f_Mo_wasteOf r (nI i) (nI j) (bk_Mo σ r R) = some (nI (wst a b), bk_Mo σ r (sA R 14 (wr (R.2 14) 0 6 (fun u => nI (dgt u (jn a b)))))) := by
  obtain ⟨n, hn⟩ := hp_fu 4 (by decide)
  obtain ⟨e0, e1, e2, e3, e4, e5⟩ := dgt_jn a b
  have hval := ws_val ha hb
  generalize hjn : jn a b = N at *
  unfold f_Mo_wasteOf
  rw [Mo_own, hn]
  generalize hK : (fun z45 z46 σ => (f_Mo_sizeOf r (nI i) σ).bind fun v48 => (f_Mo_sizeOf r (nI j) σ).bind fun v50 => (f_Mo_shared r (nI i) (nI j) σ).bind fun v52 => some ((((z45 - v48) - v50) + v52), σ) : Int32 → Int32 → hp_H → Option (Int32 × hp_H)) = K
  have s0 := Mo_ws (σ := σ) (r := r) (K := K) (J := R.2 14) (n := n + 3) (x := 1) hi hj ki kj (t := 0) (u := 1) rfl (by decide) e0 e1
  rw [wr_0, sA_self] at s0
  refine s0.trans ((Mo_ws hi hj ki kj (t := 2) (u := 3) rfl (by decide) e2 e3).trans ((Mo_ws hi hj ki kj (t := 4) (u := 5) rfl (by decide) e4 e5).trans ?_))
  rw [f_Mo_wasteOf_l1, if_pos (by decide), ← hK]
  generalize hR1 : sA R 14 (wr (R.2 14) 0 (4 + 2) (fun u => nI (dgt u N))) = R1
  have hi1 : bxAt (R1.2 12) i a := by rw [← hR1, sA_ne (by decide)]; exact hi
  have hj1 : bxAt (R1.2 12) j b := by rw [← hR1, sA_ne (by decide)]; exact hj
  rw [Nat.one_mul, siz_dgt]
  show ((f_Mo_sizeOf r (nI i) (bk_Mo σ r R1)).bind fun v48 => (f_Mo_sizeOf r (nI j) (bk_Mo σ r R1)).bind fun v50 => (f_Mo_shared r (nI i) (nI j) (bk_Mo σ r R1)).bind fun v52 => some ((((nI (siz N) - v48) - v50) + v52), bk_Mo σ r R1)) = _
  rw [Mo_sizeOf hi1 ki, Option.bind_some, Mo_sizeOf hj1 kj, Option.bind_some, Mo_shared hi1 hj1 ki kj, Option.bind_some, ← hR1, hval]
end MO4
