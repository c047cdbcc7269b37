/-! ===== numbers: Int32 through Nat ===== -/
theorem il_0 : (0 : Int32) = nI 0 := rfl
theorem il_1 : (1 : Int32) = nI 1 := rfl
theorem il_2 : (2 : Int32) = nI 2 := rfl
theorem il_3 : (3 : Int32) = nI 3 := rfl
theorem il_4 : (4 : Int32) = nI 4 := rfl
theorem il_5 : (5 : Int32) = nI 5 := rfl
theorem il_6 : (6 : Int32) = nI 6 := rfl
theorem il_7 : (7 : Int32) = nI 7 := rfl
theorem il_8 : (8 : Int32) = nI 8 := rfl
theorem il_9 : (9 : Int32) = nI 9 := rfl
theorem il_10 : (10 : Int32) = nI 10 := rfl
theorem il_11 : (11 : Int32) = nI 11 := rfl
theorem il_12 : (12 : Int32) = nI 12 := rfl
theorem il_16 : (16 : Int32) = nI 16 := rfl
theorem il_17 : (17 : Int32) = nI 17 := rfl
theorem il_20 : (20 : Int32) = nI 20 := rfl
theorem il_25 : (25 : Int32) = nI 25 := rfl
theorem il_54 : (54 : Int32) = nI 54 := rfl
theorem il_170 : (170 : Int32) = nI 170 := rfl
theorem il_256 : (256 : Int32) = nI 256 := rfl
theorem il_257 : (257 : Int32) = nI 257 := rfl
theorem il_3840 : (3840 : Int32) = nI 3840 := rfl
theorem fo_or (a b : Nat) : nI a ||| nI b = nI (a ||| b) := by
  apply Int32.toBitVec_inj.1
  show BitVec.ofNat 32 a ||| BitVec.ofNat 32 b = BitVec.ofNat 32 (a ||| b)
  apply BitVec.eq_of_getLsbD_eq
  intro i hi
  simp [hi]
theorem fo_ors {a k : Nat} (b : Nat) (h : a < 2 ^ k) : nI (2 ^ k * b) ||| nI a = nI (2 ^ k * b + a) := by rw [fo_or, Nat.two_pow_add_eq_or_of_lt h]
theorem fo_lt (a b : Int32) : a < b ↔ a.toInt < b.toInt := Int32.lt_iff_toInt_lt
theorem fo_le (a b : Int32) : a ≤ b ↔ a.toInt ≤ b.toInt := Int32.le_iff_toInt_le
theorem fo_eq (a b : Int32) : a = b ↔ a.toInt = b.toInt := Int32.toInt_inj.symm
/-- a number within bounds, as a Nat -/
theorem fo_nat {x : Int32} (h : 0 ≤ x) : x = nI x.toNatClampNeg ∧ x.toNatClampNeg < 2 ^ 31 ∧ (x.toNatClampNeg : Int) = x.toInt := by
  obtain ⟨j, hj, e⟩ := nI_of (x := x) (fun hn => by rw [fo_lt] at hn; rw [fo_le] at h; omega)
  rw [e, nI_clamp hj, nI_toInt hj]
  exact ⟨rfl, hj, rfl⟩
/-! ===== boxes: a number of six digits of base 16 ===== -/
def d0 (N : Nat) : Nat := N / 1048576 % 16
def d1 (N : Nat) : Nat := N / 65536 % 16
def d2 (N : Nat) : Nat := N / 4096 % 16
def d3 (N : Nat) : Nat := N / 256 % 16
def d4 (N : Nat) : Nat := N / 16 % 16
def d5 (N : Nat) : Nat := N % 16
def mk6 (a b c d e f : Nat) : Nat := a * 1048576 + b * 65536 + c * 4096 + d * 256 + e * 16 + f
theorem mk6_d {a b c d e f : Nat} (ha : a < 16) (hb : b < 16) (hc : c < 16) (hd : d < 16) (he : e < 16) (hf : f < 16) : d0 (mk6 a b c d e f) = a ∧ d1 (mk6 a b c d e f) = b ∧ d2 (mk6 a b c d e f) = c ∧ d3 (mk6 a b c d e f) = d ∧ d4 (mk6 a b c d e f) = e ∧ d5 (mk6 a b c d e f) = f ∧ mk6 a b c d e f < 16777216 := by
  unfold d0 d1 d2 d3 d4 d5 mk6
  omega
theorem mk6_of {N : Nat} (h : N < 16777216) : N = mk6 (d0 N) (d1 N) (d2 N) (d3 N) (d4 N) (d5 N) := by
  unfold d0 d1 d2 d3 d4 d5 mk6
  omega
theorem d_lt (N : Nat) : d0 N < 16 ∧ d1 N < 16 ∧ d2 N < 16 ∧ d3 N < 16 ∧ d4 N < 16 ∧ d5 N < 16 := by
  unfold d0 d1 d2 d3 d4 d5
  omega
/-- a box as the document has them -/
def vb (N : Nat) : Prop := N < 16777216 ∧ (d0 N ≤ d1 N ∧ d1 N ≤ 9) ∧ (d2 N ≤ d3 N ∧ d3 N ≤ 9) ∧ (d4 N ≤ d5 N ∧ d5 N ≤ 9)
def cov (o i : Nat) : Bool := decide ((d0 o ≤ d0 i ∧ d1 i ≤ d1 o) ∧ (d2 o ≤ d2 i ∧ d3 i ≤ d3 o) ∧ (d4 o ≤ d4 i ∧ d5 i ≤ d5 o))
def siz (N : Nat) : Nat := (d1 N + 1 - d0 N) * (d3 N + 1 - d2 N) * (d5 N + 1 - d4 N)
def com (a b : Nat) : Nat := (min (d1 a) (d1 b) + 1 - max (d0 a) (d0 b)) * (min (d3 a) (d3 b) + 1 - max (d2 a) (d2 b)) * (min (d5 a) (d5 b) + 1 - max (d4 a) (d4 b))
def jn (a b : Nat) : Nat := mk6 (min (d0 a) (d0 b)) (max (d1 a) (d1 b)) (min (d2 a) (d2 b)) (max (d3 a) (d3 b)) (min (d4 a) (d4 b)) (max (d5 a) (d5 b))
def wst (a b : Nat) : Nat := siz (jn a b) + com a b - (siz a + siz b)
theorem jn_d (a b : Nat) : d0 (jn a b) = min (d0 a) (d0 b) ∧ d1 (jn a b) = max (d1 a) (d1 b) ∧ d2 (jn a b) = min (d2 a) (d2 b) ∧ d3 (jn a b) = max (d3 a) (d3 b) ∧ d4 (jn a b) = min (d4 a) (d4 b) ∧ d5 (jn a b) = max (d5 a) (d5 b) ∧ jn a b < 16777216 := by
  have ha := d_lt a
  have hb := d_lt b
  exact mk6_d (by omega) (by omega) (by omega) (by omega) (by omega) (by omega)
theorem jn_vb {a b : Nat} (ha : vb a) (hb : vb b) : vb (jn a b) := by
  obtain ⟨e0, e1, e2, e3, e4, e5, e6⟩ := jn_d a b
  unfold vb at *
  rw [e0, e1, e2, e3, e4, e5]
  omega
theorem cov_iff (o i : Nat) : cov o i = true ↔ ((d0 o ≤ d0 i ∧ d1 i ≤ d1 o) ∧ (d2 o ≤ d2 i ∧ d3 i ≤ d3 o) ∧ (d4 o ≤ d4 i ∧ d5 i ≤ d5 o)) := by
  unfold cov
  simp
theorem cov_jn (a b : Nat) : cov (jn a b) a = true ∧ cov (jn a b) b = true := by
  obtain ⟨e0, e1, e2, e3, e4, e5, e6⟩ := jn_d a b
  rw [cov_iff, cov_iff, e0, e1, e2, e3, e4, e5]
  omega
theorem cov_tr {a b c : Nat} (h : cov a b = true) (h2 : cov b c = true) : cov a c = true := by
  rw [cov_iff] at *
  omega
theorem cov_rf (a : Nat) : cov a a = true := by
  rw [cov_iff]
  omega
/-- one more dimension: what is joined is at least what there is of both -/
theorem ws_dim {A B C J a b c j : Nat} (h1 : A + B ≤ J + C) (h2 : C ≤ A) (h3 : C ≤ B) (h4 : a + b ≤ j + c) (h5 : c ≤ a) (h6 : c ≤ b) (h7 : a ≤ j) (h8 : b ≤ j) : A * a + B * b ≤ J * j + C * c := by
  obtain ⟨x, rfl⟩ : ∃ x, A = C + x := ⟨A - C, by omega⟩
  obtain ⟨y, rfl⟩ : ∃ y, B = C + y := ⟨B - C, by omega⟩
  obtain ⟨u, rfl⟩ : ∃ u, a = c + u := ⟨a - c, by omega⟩
  obtain ⟨v, rfl⟩ : ∃ v, b = c + v := ⟨b - c, by omega⟩
  obtain ⟨z, rfl⟩ : ∃ z, J = C + x + y + z := ⟨J - (C + x + y), by omega⟩
  obtain ⟨w, rfl⟩ : ∃ w, j = c + u + v + w := ⟨j - (c + u + v), by omega⟩
  simp only [Nat.add_mul, Nat.mul_add]
  omega
theorem dim_one {l1 h1 l2 h2 : Nat} (k1 : l1 ≤ h1) (k2 : l2 ≤ h2) : (h1 + 1 - l1) + (h2 + 1 - l2) ≤ (max h1 h2 + 1 - min l1 l2) + (min h1 h2 + 1 - max l1 l2) ∧ (min h1 h2 + 1 - max l1 l2) ≤ (h1 + 1 - l1) ∧ (min h1 h2 + 1 - max l1 l2) ≤ (h2 + 1 - l2) ∧ (h1 + 1 - l1) ≤ (max h1 h2 + 1 - min l1 l2) ∧ (h2 + 1 - l2) ≤ (max h1 h2 + 1 - min l1 l2) := by
  omega
theorem wst_le {a b : Nat} (ha : vb a) (hb : vb b) : siz a + siz b ≤ siz (jn a b) + com a b := by
  obtain ⟨e0, e1, e2, e3, e4, e5, e6⟩ := jn_d a b
  obtain ⟨-, ⟨a1, -⟩, ⟨a2, -⟩, ⟨a3, -⟩⟩ := ha
  obtain ⟨-, ⟨b1, -⟩, ⟨b2, -⟩, ⟨b3, -⟩⟩ := hb
  unfold siz com
  rw [e0, e1, e2, e3, e4, e5]
  obtain ⟨p1, p2, p3, p4, p5⟩ := dim_one a1 b1
  obtain ⟨q1, q2, q3, q4, q5⟩ := dim_one a2 b2
  obtain ⟨r1, r2, r3, r4, r5⟩ := dim_one a3 b3
  exact ws_dim (ws_dim p1 p2 p3 q1 q2 q3 q4 q5) (Nat.mul_le_mul p2 q2) (Nat.mul_le_mul p3 q3) r1 r2 r3 r4 r5
theorem siz_le {N : Nat} : siz N ≤ 4096 := by
  obtain ⟨h0, h1, h2, h3, h4, h5⟩ := d_lt N
  have k1 : d1 N + 1 - d0 N ≤ 16 := by omega
  have k2 : d3 N + 1 - d2 N ≤ 16 := by omega
  have k3 : d5 N + 1 - d4 N ≤ 16 := by omega
  exact Nat.mul_le_mul (Nat.mul_le_mul k1 k2) k3
theorem com_le (a b : Nat) : com a b ≤ 4096 := by
  obtain ⟨h0, h1, h2, h3, h4, h5⟩ := d_lt a
  have k1 : min (d1 a) (d1 b) + 1 - max (d0 a) (d0 b) ≤ 16 := by omega
  have k2 : min (d3 a) (d3 b) + 1 - max (d2 a) (d2 b) ≤ 16 := by omega
  have k3 : min (d5 a) (d5 b) + 1 - max (d4 a) (d4 b) ≤ 16 := by omega
  exact Nat.mul_le_mul (Nat.mul_le_mul k1 k2) k3
theorem wst_lt (a b : Nat) : wst a b < 2 ^ 30 := by
  have h1 := @siz_le (jn a b)
  have h2 := com_le a b
  unfold wst
  omega
