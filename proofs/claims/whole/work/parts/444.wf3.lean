/-! ===== rows stay as they must be: wish ===== -/
theorem upd_is {A : Nat → Int32} {i j : Nat} {x : Int32} (h : j = i) : upd A i x j = x := if_pos h
theorem blh {k v : Nat} (hv : v < 10) : blo k v ≤ bhi k v ∧ bhi k v ≤ 9 := by
  unfold blo bhi
  split <;> split <;> omega
/-- the box of a wish that is told by its kinds -/
def kbx (k1 v1 k2 v2 k3 v3 : Nat) : Nat := mk6 (blo k1 v1) (bhi k1 v1) (blo k2 v2) (bhi k2 v2) (blo k3 v3) (bhi k3 v3)
theorem wisS_wf {s : Nat → Int32} (hs : Wf s) {c k1 v1 k2 v2 k3 v3 : Nat} (hc : c < nC s) (b1 : v1 < 10) (b2 : v2 < 10) (b3 : v3 < 10) (h12 : nW s ≠ 12) : Wf (wisS s c k1 v1 k2 v2 k3 v3) ∧ nW (wisS s c k1 v1 k2 v2 k3 v3) = nW s + 1 ∧ wbx (wisS s c k1 v1 k2 v2 k3 v3) (nW s) = kbx k1 v1 k2 v2 k3 v3 := by
  have hB7 := hs.1.1.2.2
  have hC6 := hs.2.1.1.2
  have hW := hs.2.2.1.1.2
  obtain ⟨x1, y1⟩ := blh (k := k1) b1
  obtain ⟨x2, y2⟩ := blh (k := k2) b2
  obtain ⟨x3, y3⟩ := blh (k := k3) b3
  generalize hS : wisS s c k1 v1 k2 v2 k3 v3 = S
  have o : ∀ j, j ≠ 2 → (j < 170 + 7 * nW s) → S j = s j := fun j h1 h2 => by
    rw [← hS]
    unfold wisS bdS
    rw [upd_ne h1, upd_ne (by omega), upd_ne (by omega), upd_ne (by omega), upd_ne (by omega), upd_ne (by omega), upd_ne (by omega), upd_ne (by omega)]
  have s2 : S 2 = nI (nW s + 1) := by
    rw [← hS]
    exact upd_at
  have p : S (170 + 7 * nW s) = nI c := by
    rw [← hS]
    unfold wisS bdS
    rw [upd_ne (by omega), upd_ne (by omega), upd_ne (by omega), upd_ne (by omega), upd_ne (by omega), upd_ne (by omega), upd_ne (by omega), upd_at]
  have p1 : S (171 + 7 * nW s) = nI (blo k1 v1) := by
    rw [← hS]
    unfold wisS bdS
    rw [upd_ne (by omega), upd_ne (by omega), upd_ne (by omega), upd_ne (by omega), upd_ne (by omega), upd_ne (by omega), upd_is (by omega)]
  have p2 : S (172 + 7 * nW s) = nI (bhi k1 v1) := by
    rw [← hS]
    unfold wisS bdS
    rw [upd_ne (by omega), upd_ne (by omega), upd_ne (by omega), upd_ne (by omega), upd_ne (by omega), upd_is (by omega)]
  have p3 : S (173 + 7 * nW s) = nI (blo k2 v2) := by
    rw [← hS]
    unfold wisS bdS
    rw [upd_ne (by omega), upd_ne (by omega), upd_ne (by omega), upd_ne (by omega), upd_is (by omega)]
  have p4 : S (174 + 7 * nW s) = nI (bhi k2 v2) := by
    rw [← hS]
    unfold wisS bdS
    rw [upd_ne (by omega), upd_ne (by omega), upd_ne (by omega), upd_is (by omega)]
  have p5 : S (175 + 7 * nW s) = nI (blo k3 v3) := by
    rw [← hS]
    unfold wisS bdS
    rw [upd_ne (by omega), upd_ne (by omega), upd_is (by omega)]
  have p6 : S (176 + 7 * nW s) = nI (bhi k3 v3) := by
    rw [← hS]
    unfold wisS bdS
    rw [upd_ne (by omega), upd_is (by omega)]
  have eb : wbx S (nW s) = kbx k1 v1 k2 v2 k3 v3 := by
    unfold wbx kbx
    rw [if_pos (by omega), p1, p2, p3, p4, p5, p6, nI_cl (by omega), nI_cl (by omega), nI_cl (by omega), nI_cl (by omega), nI_cl (by omega), nI_cl (by omega)]
  have md := mk6_d (a := blo k1 v1) (b := bhi k1 v1) (c := blo k2 v2) (d := bhi k2 v2) (e := blo k3 v3) (f := bhi k3 v3) (by omega) (by omega) (by omega) (by omega) (by omega) (by omega)
  obtain ⟨m0, m1, m2, m3, m4, m5, m6⟩ := md
  obtain ⟨g0, g1, g2, g3, g4, g5⟩ := dgE (kbx k1 v1 k2 v2 k3 v3)
  have hv : vb (kbx k1 v1 k2 v2 k3 v3) := by
    unfold vb kbx
    rw [m0, m1, m2, m3, m4, m5]
    exact ⟨m6, ⟨x1, y1⟩, ⟨x2, y2⟩, x3, y3⟩
  have k := Wf_mk (s := S) (B := nB s) (C := nC s) (W := nW s + 1) (M := nM s) (by rw [o 0 (by omega) (by omega)]; exact hs.1.1.1) hs.1.1.2.1 hB7 (by rw [o 8 (by omega) (by omega)]; exact hs.1.2.1) (fun d h1 h2 => by
    rw [o _ (by omega) (by omega)]
    exact Wf_b hs d h1 h2) (by rw [o 1 (by omega) (by omega)]; exact hs.2.1.1.1) hC6 (fun d hd => by
    unfold kOK
    rw [o _ (by omega) (by omega), o _ (by omega) (by omega), o _ (by omega) (by omega)]
    exact Wf_c hs d hd) s2 (by omega) (fun w hw => by
    by_cases e : w = nW s
    · rw [e, eb]
      refine ⟨⟨c, hc, p⟩, hv, fun t ht => ?_⟩
      match t, ht with
      | 0, _ => rw [g0]; unfold kbx; rw [m0]; exact p1
      | 1, _ => rw [g1, show 171 + 7 * nW s + 1 = 172 + 7 * nW s by omega]; unfold kbx; rw [m1]; exact p2
      | 2, _ => rw [g2, show 171 + 7 * nW s + 2 = 173 + 7 * nW s by omega]; unfold kbx; rw [m2]; exact p3
      | 3, _ => rw [g3, show 171 + 7 * nW s + 3 = 174 + 7 * nW s by omega]; unfold kbx; rw [m3]; exact p4
      | 4, _ => rw [g4, show 171 + 7 * nW s + 4 = 175 + 7 * nW s by omega]; unfold kbx; rw [m4]; exact p5
      | 5, _ => rw [g5, show 171 + 7 * nW s + 5 = 176 + 7 * nW s by omega]; unfold kbx; rw [m5]; exact p6
    · exact Wf_w hs (Nat.le_refl _) (fun j h1 h2 => o j (by omega) (by omega)) w (by omega)) (by rw [o 3 (by omega) (by omega)]; exact hs.2.2.2.1) hs.2.2.2.2.1 hs.2.2.2.2.2
  exact ⟨k.1, k.2.2.2.1, eb⟩
