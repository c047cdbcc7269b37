/-! ===== bits of a set ===== -/
theorem sh_k : ∀ n, n < 32 → ((nI n &&& 31).toBitVec.smod 32).toNat = n := by decide +kernel
theorem bit_v {P k : Nat} (hP : P < 2 ^ 31) (hk : k < 32) : (nI P >>> (nI k &&& 31)) &&& 1 = nI (P / 2 ^ k % 2) := by
  rw [pk_shrN hP _ k (sh_k k hk)]
  exact pk_andN (Nat.lt_of_le_of_lt (Nat.div_le_self _ _) (by omega)) 1 (by decide)
theorem bit_1 {P k : Nat} (hP : P < 2 ^ 31) (hk : k < 32) : ((nI P >>> (nI k &&& 31)) &&& 1 = 1) ↔ P.testBit k = true := by
  have h2 : P / 2 ^ k % 2 < 2 := Nat.mod_lt _ (by decide)
  rw [bit_v hP hk, il_1, nI_eq (by omega) (by decide), Nat.testBit_eq_decide_div_mod_eq, decide_eq_true_eq]
theorem bit_0 {P k : Nat} (hP : P < 2 ^ 31) (hk : k < 32) : ((nI P >>> (nI k &&& 31)) &&& 1 = 0) ↔ P.testBit k = false := by
  have h2 : P / 2 ^ k % 2 < 2 := Nat.mod_lt _ (by decide)
  rw [bit_v hP hk, il_0, nI_eq (by omega) (by decide), Nat.testBit_eq_decide_div_mod_eq, decide_eq_false_iff_not]
  omega
theorem sh_1 {k : Nat} (hk : k < 31) : (1 : Int32) <<< (nI k &&& 31) = nI (2 ^ k) := by
  have h := Nat.pow_lt_pow_right (a := 2) (by decide) hk
  have := pk_shlN (n := 1) (nI k &&& 31) k (sh_k k (by omega)) (by omega)
  rw [Nat.one_mul] at this
  exact this
theorem tb_lt {P n : Nat} (h : ∀ x, P.testBit x = true → x < n) : P < 2 ^ n := by
  apply Nat.lt_pow_two_of_testBit
  intro i hi
  cases e : P.testBit i with
  | false => rfl
  | true => have := h i e; omega
/-! ===== notices ===== -/
def nt (x y z : Nat) : Nat := mk6 x x y y z z
theorem nt_d {x y z : Nat} (hx : x < 10) (hy : y < 10) (hz : z < 10) : d0 (nt x y z) = x ∧ d1 (nt x y z) = x ∧ d2 (nt x y z) = y ∧ d3 (nt x y z) = y ∧ d4 (nt x y z) = z ∧ d5 (nt x y z) = z ∧ nt x y z < 16777216 := mk6_d (by omega) (by omega) (by omega) (by omega) (by omega) (by omega)
theorem in_nat {x l h : Nat} (hx : x < 16) (hl : l < 16) (hh : h < 16) : f_Mo_in (nI x) (nI l) (nI h) = some (if l ≤ x ∧ x ≤ h then 1 else 0) := by
  rw [in_wi, wi_lit, nI_toInt (by omega), nI_toInt (by omega), nI_toInt (by omega)]
  by_cases hc : l ≤ x ∧ x ≤ h
  · rw [if_pos hc, if_pos (by omega)]
  · rw [if_neg hc, if_neg (by omega)]
theorem fits_v {H : hp_H} {q b N x y z : Nat} (ha : ∀ t, t < 6 → hp_aI H q 0 (nI (b + t)) = some (nI (dgt t N))) (hx : x < 10) (hy : y < 10) (hz : z < 10) : f_Mo_fits q (nI b) (nI x) (nI y) (nI z) H = some (if cov N (nt x y z) = true then 1 else 0) := by
  obtain ⟨k0, k1, k2, k3, k4, k5⟩ := d_lt N
  obtain ⟨f0, f1, f2, f3, f4, f5⟩ := dgE N
  obtain ⟨n0, n1, n2, n3, n4, n5, -⟩ := nt_d hx hy hz
  have a0 := ha 0 (by decide)
  have a1 := ha 1 (by decide)
  have a2 := ha 2 (by decide)
  have a3 := ha 3 (by decide)
  have a4 := ha 4 (by decide)
  have a5 := ha 5 (by decide)
  rw [f0] at a0
  rw [f1] at a1
  rw [f2] at a2
  rw [f3] at a3
  rw [f4] at a4
  rw [f5] at a5
  have e2 : nI b + 2 = nI (b + 2) := nI_add b 2
  have e3 : nI b + 3 = nI (b + 3) := nI_add b 3
  have e4 : nI b + 4 = nI (b + 4) := nI_add b 4
  have e5 : nI b + 5 = nI (b + 5) := nI_add b 5
  have hcv := cov_iff N (nt x y z)
  rw [n0, n1, n2, n3, n4, n5] at hcv
  unfold f_Mo_fits
  rw [nI_1, e2, e3, e4, e5]
  rw [Nat.add_zero] at a0
  rw [a0, Option.bind_some, a1, Option.bind_some, in_nat (by omega) k0 k1, Option.bind_some]
  by_cases h1 : d0 N ≤ x ∧ x ≤ d1 N
  · rw [if_pos h1, if_neg (by decide), a2, Option.bind_some, a3, Option.bind_some, in_nat (by omega) k2 k3, Option.bind_some]
    by_cases h2 : d2 N ≤ y ∧ y ≤ d3 N
    · rw [if_pos h2, if_neg (by decide), a4, Option.bind_some, a5, Option.bind_some, in_nat (by omega) k4 k5, Option.bind_some]
      by_cases h3 : d4 N ≤ z ∧ z ≤ d5 N
      · rw [if_pos h3, if_neg (by decide), if_pos (hcv.mpr ⟨h1, h2, h3⟩)]
      · rw [if_neg h3, if_pos rfl, if_neg (fun q => h3 (hcv.mp q).2.2)]
    · rw [if_neg h2, if_pos rfl, if_neg (fun q => h2 (hcv.mp q).2.1)]
  · rw [if_neg h1, if_pos rfl, if_neg (fun q => h1 (hcv.mp q).1)]
/-- does one of those from w on -/
def anyF (p : Nat → Bool) : Nat → Nat → Bool
  | 0, _ => false
  | m + 1, w => p w || anyF p m (w + 1)
theorem anyF_iff {p : Nat → Bool} : ∀ (m w : Nat), anyF p m w = true ↔ ∃ i, w ≤ i ∧ i < w + m ∧ p i = true
  | 0, w => ⟨fun h => (by cases h), fun ⟨i, h1, h2, _⟩ => (by omega)⟩
  | m + 1, w => by
    unfold anyF
    rw [Bool.or_eq_true, anyF_iff m (w + 1)]
    constructor
    · rintro (h | ⟨i, h1, h2, h3⟩)
      · exact ⟨w, by omega, by omega, h⟩
      · exact ⟨i, by omega, by omega, h3⟩
    · rintro ⟨i, h1, h2, h3⟩
      by_cases hi : i = w
      · rw [hi] at h3
        exact Or.inl h3
      · exact Or.inr ⟨i, by omega, by omega, h3⟩
def wsh (s : Nat → Int32) (c n : Nat) : Bool := anyF (fun w => decide (ownr s w = c) && cov (wbx s w) n) (nW s) 0
def tld (l : List Nat) (n : Nat) : Bool := anyF (fun i => cov (l.getD i 0) n) l.length 0
def b01 (p : Bool) : Int32 := if p = true then 1 else 0
theorem b01_z {α : Type} {p : Bool} {x : Option α} : hp_z (b01 p) x = x := z_if
section MO9
variable {σ : hp_H} {r : Nat} {R : oR}
theorem Mo_goes_l {k x y z : Nat} {l : List Nat} {tab : Nat → List Nat} (hk : k < 14) (ht : tdO R tab k) (hl : tab k = l) (hx : x < 10) (hy : y < 10) (hz : z < 10) {K : Int32 → Int32 → Option Int32} : ∀ (m i f : Nat) (p : Bool), i + m = l.length → f_Mo_goes_l1 r (nI x) (nI y) (nI z) (nI k) (bk_Mo σ r R) K (f + m + 1) (b01 p) (nI i) = K (b01 (p || anyF (fun i => cov (l.getD i 0) (nt x y z)) m i)) (nI l.length)
  | 0, i, f, p, h => by
    have h9 := ht.2.1
    rw [hl] at h9
    rw [f_Mo_goes_l1, Mo_g9, Option.bind_some, Mo_a9 hk, Option.bind_some, ht.1, hl, show i = l.length by omega, if_pos ((nI_leI (by omega) (by omega)).mpr (Nat.le_refl _)), anyF, Bool.or_false]
  | m + 1, i, f, p, h => by
    have h9 := ht.2.1
    rw [hl] at h9
    have ih := fun p' => Mo_goes_l hk ht hl hx hy hz (K := K) m (i + 1) f p' (by omega)
    rw [f_Mo_goes_l1, Mo_g9, Option.bind_some, Mo_a9 hk, Option.bind_some, ht.1, hl, if_neg (fun q => by have := (nI_leI (by omega) (by omega)).mp q; omega), nI_1, anyF]
    cases p with
    | true =>
      have e : b01 true = 1 := rfl
      rw [e, if_neg (by decide), Bool.true_or]
      have := ih true
      rw [e, Bool.true_or] at this
      exact this
    | false =>
      have e : b01 false = 0 := rfl
      have hf := fits_v (H := bk_Mo σ r R) (q := r + 8) (b := 54 * k + 6 * i) (N := l.getD i 0) (x := x) (y := y) (z := z) (fun t h6 => by
        have := ht.2.2.2 i (by rw [hl]; omega) t h6
        rw [hl] at this
        rw [← this]
        exact Mo_a10 (by omega)) hx hy hz
      rw [e, if_pos rfl, Mo_g10, Option.bind_some, il_54, il_6, pk_mul, pk_mul, nI_add, hf, Option.bind_some, Bool.false_or]
      by_cases hc : cov (l.getD i 0) (nt x y z) = true
      · rw [if_pos hc, if_neg (by decide), hc]
        exact ih true
      · have hcf : cov (l.getD i 0) (nt x y z) = false := by
          cases hq : cov (l.getD i 0) (nt x y z) with
          | true => exact absurd hq hc
          | false => rfl
        rw [if_neg hc, if_pos rfl, hcf, Bool.false_or]
        have := ih false
        rw [Bool.false_or] at this
        exact this
theorem Mo_goes {s : Nat → Int32} (hs : Wf s) (h0 : R.2 0 = s) {u v x y z : Nat} {tab : Nat → List Nat} (ht : tdA R tab) (hu : u < nB s) (hv : v < nB s) (hx : x < 10) (hy : y < 10) (hz : z < 10) : f_Mo_goes r (nI u) (nI v) (nI x) (nI y) (nI z) (bk_Mo σ r R) = some (b01 (tld (tab (lnk (abS s) v u)) (nt x y z))) := by
  have hB7 := hs.1.1.2.2
  have hWB : WfB (R.2 0) := by rw [h0]; exact hs.1
  have hk : lnk (abS s) v u < 14 := lnk_lt (by omega) (by omega)
  have elk := Mo_lnk (σ := σ) (r := r) (R := R) hWB (by rw [h0]; exact hv) (by rw [h0]; exact hu)
  rw [h0] at elk
  have htk := ht _ hk
  have h9 := htk.2.1
  obtain ⟨f, hf⟩ := hp_fu ((tab (lnk (abS s) v u)).length + 1) (by omega)
  have hf' : f + (tab (lnk (abS s) v u)).length + 1 = hp_F := hf.symm
  have h1 := Mo_goes_l (σ := σ) (r := r) (R := R) hk htk rfl hx hy hz (K := fun z11 z12 => hp_z z11 (some z11)) (tab (lnk (abS s) v u)).length 0 f false (by omega)
  rw [hf', Bool.false_or] at h1
  unfold f_Mo_goes
  rw [Mo_own, elk, Option.bind_some]
  refine (show _ = _ from h1).trans ?_
  rw [b01_z]
  rfl
theorem Mo_wd_l {s : Nat → Int32} (hs : Wf s) (h0 : R.2 0 = s) {c x y z : Nat} (hc : c < 6) (hx : x < 10) (hy : y < 10) (hz : z < 10) {K : Int32 → Int32 → Option Int32} : ∀ (m w f : Nat) (p : Bool), w + m = nW s → f_Mo_isWished_l1 r (nI c) (nI x) (nI y) (nI z) (bk_Mo σ r R) K (f + m + 1) (b01 p) (nI w) = K (b01 (p || anyF (fun w => decide (ownr s w = c) && cov (wbx s w) (nt x y z)) m w)) (nI (nW s))
  | 0, w, f, p, h => by
    have hW := hs.2.2.1
    have hW12 := hW.1.2
    have e2 : hp_aI (bk_Mo σ r R) (r + 1) 0 2 = some (R.2 0 2) := Mo_a0 (i := 2) (by decide)
    rw [f_Mo_isWished_l1, Mo_g0, Option.bind_some, e2, Option.bind_some, h0, hW.1.1, show w = nW s by omega, if_pos ((nI_leI (by omega) (by omega)).mpr (Nat.le_refl _)), anyF, Bool.or_false]
  | m + 1, w, f, p, h => by
    have hW := hs.2.2.1
    have hW12 := hW.1.2
    have hC6 := hs.2.1.1.2
    obtain ⟨⟨o1, o2⟩, v1, v2⟩ := hW.2 w (by omega)
    have e2 : hp_aI (bk_Mo σ r R) (r + 1) 0 2 = some (R.2 0 2) := Mo_a0 (i := 2) (by decide)
    have ew : f_Mo_wish r (nI w) 0 (bk_Mo σ r R) = some (nI (ownr s w)) := by
      have := Mo_wish (σ := σ) (r := r) (R := R) (w := w) (k := 0) (by omega)
      rw [h0, Nat.add_zero, o1] at this
      exact this
    have ih := fun p' => Mo_wd_l hs h0 hc hx hy hz (K := K) m (w + 1) f p' (by omega)
    rw [f_Mo_isWished_l1, Mo_g0, Option.bind_some, e2, Option.bind_some, h0, hW.1.1, if_neg (fun q => by have := (nI_leI (by omega) (by omega)).mp q; omega), nI_1, anyF]
    cases p with
    | true =>
      have e : b01 true = 1 := rfl
      rw [e, if_neg (by decide), Bool.true_or]
      have := ih true
      rw [e, Bool.true_or] at this
      exact this
    | false =>
      have e : b01 false = 0 := rfl
      rw [e, if_pos rfl, ew, Option.bind_some, Bool.false_or]
      by_cases ho : ownr s w = c
      · have hf := fits_v (H := bk_Mo σ r R) (q := r + 1) (b := 171 + 7 * w) (N := wbx s w) (x := x) (y := y) (z := z) (fun t h6 => by
          have := v2 t h6
          rw [← this, ← h0]
          exact Mo_a0 (by omega)) hx hy hz
        rw [if_pos ((nI_eq (by omega) (by omega)).mpr ho), Option.bind_some, il_170, il_7, pk_mul, nI_add, nI_1, show 170 + 7 * w + 1 = 171 + 7 * w by omega, hf, Option.bind_some, decide_eq_true ho, Bool.true_and]
        by_cases hcv : cov (wbx s w) (nt x y z) = true
        · rw [if_pos hcv, if_neg (by decide), hcv]
          exact ih true
        · have hcf : cov (wbx s w) (nt x y z) = false := by
            cases hq : cov (wbx s w) (nt x y z) with
            | true => exact absurd hq hcv
            | false => rfl
          rw [if_neg hcv, if_pos rfl, hcf, Bool.false_or]
          have := ih false
          rw [Bool.false_or] at this
          exact this
      · rw [if_neg (fun q => ho ((nI_eq (by omega) (by omega)).mp q)), decide_eq_false ho, Bool.false_and, Bool.false_or]
        have := ih false
        rw [Bool.false_or] at this
        exact this
theorem Mo_isWished {s : Nat → Int32} (hs : Wf s) (h0 : R.2 0 = s) {c x y z : Nat} (hc : c < 6) (hx : x < 10) (hy : y < 10) (hz : z < 10) : f_Mo_isWished r (nI c) (nI x) (nI y) (nI z) (bk_Mo σ r R) = some (b01 (wsh s c (nt x y z))) := by
  have hW12 := hs.2.2.1.1.2
  obtain ⟨f, hf⟩ := hp_fu (nW s + 1) (by omega)
  have hf' : f + nW s + 1 = hp_F := hf.symm
  have h1 := Mo_wd_l (σ := σ) (r := r) (R := R) hs h0 hc hx hy hz (K := fun z12 z13 => hp_z z12 (some z12)) (nW s) 0 f false (by omega)
  rw [hf', Bool.false_or] at h1
  unfold f_Mo_isWished
  rw [Mo_own]
  refine (show _ = _ from h1).trans ?_
  rw [b01_z]
  rfl
end MO9
