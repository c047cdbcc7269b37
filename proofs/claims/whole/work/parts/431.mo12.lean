/-! ===== the reference: a notice is put ===== -/
def pcF : Nat → Nat → Nat
  | 0, _ => 0
  | k + 1, v => v % 2 + pcF k (v / 2)
theorem pc_le : ∀ (k v : Nat), pcF k v ≤ k
  | 0, _ => Nat.le_refl _
  | k + 1, v => by
    have := pc_le k (v / 2)
    unfold pcF
    omega
theorem ji_bits : ∀ v, v < 128 → f_Integer_bitCount (nI v) = some (nI (pcF 7 v)) := by decide +kernel
theorem Mo_bits_l {K : Int32 → Int32 → Option Int32} : ∀ (k f a v : Nat), v < 2 ^ k → k ≤ 30 → f_Mo_bits_l1 K (f + k + 1) (nI a) (nI v) = K (nI (a + pcF k v)) (nI 0)
  | 0, f, a, v, hv, hk => by
    have : v = 0 := by omega
    rw [this, f_Mo_bits_l1, if_pos (by decide)]
    rfl
  | k + 1, f, a, v, hv, hk => by
    have h31 : (2 : Nat) ^ (k + 1) ≤ 2 ^ 30 := Nat.pow_le_pow_right (by decide) (by omega)
    by_cases h0 : v = 0
    · have hz : ∀ j, pcF j 0 = 0 := by
        intro j
        induction j with
        | zero => rfl
        | succ j ih =>
          unfold pcF
          rw [Nat.zero_mod, Nat.zero_div, ih]
      rw [h0, f_Mo_bits_l1, if_pos (by decide), hz]
      rfl
    · rw [f_Mo_bits_l1, if_neg (fun q => by have := (nI_leI (b := 0) (by omega) (by omega)).mp q; omega)]
      have e1 : nI v &&& 1 = nI (v % 2) := pk_andN (by omega) 1 (by decide)
      have e2 : nI v >>> (1 &&& 31) = nI (v / 2) := pk_shrN (by omega) _ 1 (by decide)
      rw [e1, e2, nI_add]
      have hp : (2 : Nat) ^ (k + 1) = 2 ^ k * 2 := Nat.pow_succ 2 k
      rw [show f + (k + 1) = f + k + 1 by omega, Mo_bits_l k f (a + v % 2) (v / 2) (by omega) (by omega)]
      have e3 : pcF (k + 1) v = v % 2 + pcF k (v / 2) := rfl
      rw [e3, Nat.add_assoc]
theorem Mo_bits {v : Nat} (h : v < 128) : f_Mo_bits (nI v) = some (nI (pcF 7 v)) := by
  obtain ⟨n, hn⟩ := hp_fu 8 (by decide)
  have hn' : n + 7 + 1 = hp_F := hn.symm
  unfold f_Mo_bits
  have := Mo_bits_l (K := fun z2 z3 => some z2) 7 n 0 v h (by decide)
  rw [hn', Nat.zero_add] at this
  exact this
def shU (A : Nat → Int32) (base t m : Nat) : Nat → Int32 := fun k => if base + t < k ∧ k ≤ base + m then A (k - 1) else A k
def shD (A : Nat → Int32) (base t : Nat) : Nat → Int32 := fun k => if base ≤ k ∧ k < base + t then A (k + 1) else A k
/-- a notice comes into a log -/
def lgS (c : Nat) (n : Int32) (s : Nat → Int32) : Nat → Int32 := upd (upd (shU s (21 + 25 * c) 0 11) (21 + 25 * c) n) (18 + 25 * c) (s (18 + 25 * c) + 1)
/-- a notice is kept -/
def wtS (c : Nat) (n : Int32) (s : Nat → Int32) : Nat → Int32 := if s (20 + 25 * c) = 8 then upd (upd (upd (upd (shD s (33 + 25 * c) 7) (20 + 25 * c) 7) (19 + 25 * c) (s (19 + 25 * c) + 1)) (40 + 25 * c) n) (20 + 25 * c) 8 else upd (upd s (33 + 25 * c + kpt s c) n) (20 + 25 * c) (s (20 + 25 * c) + 1)
section MO12
variable {σ : hp_H} {r : Nat}
theorem Mo_logs_l {c : Nat} (hc : c < 6) {x2 : Int32} {A : Nat → Int32} {R : oR} {K : Int32 → hp_H → Option hp_H} : ∀ (t f : Nat), t ≤ 11 → f_Mo_logs_l1 r (nI c) x2 K (f + t + 1) (nI t) (bk_Mo σ r (sA R 0 (shU A (21 + 25 * c) t 11))) = K (nI 0) (bk_Mo σ r (sA R 0 (shU A (21 + 25 * c) 0 11)))
  | 0, f, _ => by
    rw [f_Mo_logs_l1, if_pos (by decide)]
  | t + 1, f, h => by
    have e1 : ((5 : Int32) + nI (t + 1)) - 1 = nI (5 + t) := by
      rw [il_5, nI_add, show 5 + (t + 1) = 5 + t + 1 by omega, nI_pred]
    have e2 : (5 : Int32) + nI (t + 1) = nI (5 + (t + 1)) := by rw [il_5, nI_add]
    rw [f_Mo_logs_l1, if_neg (fun q => by have := (nI_leI (b := 0) (by omega) (by omega)).mp q; omega), e1, e2, Mo_of (by omega), Option.bind_some, sA_at, Mo_sets (by omega), Option.bind_some, sA_A, sA_at, pk_m1]
    have e3 : upd (shU A (21 + 25 * c) (t + 1) 11) (16 + 25 * c + (5 + (t + 1))) (shU A (21 + 25 * c) (t + 1) 11 (16 + 25 * c + (5 + t))) = shU A (21 + 25 * c) t 11 := by
      funext k
      have e4 : shU A (21 + 25 * c) (t + 1) 11 (16 + 25 * c + (5 + t)) = A (16 + 25 * c + (5 + t)) := by
        unfold shU
        rw [if_neg (by omega)]
      rw [e4]
      unfold upd shU
      by_cases hk : k = 16 + 25 * c + (5 + (t + 1))
      · rw [if_pos hk, if_pos (by omega), hk]
        congr 1
      · rw [if_neg hk]
        by_cases h2 : 21 + 25 * c + (t + 1) < k ∧ k ≤ 21 + 25 * c + 11
        · rw [if_pos h2, if_pos (by omega)]
        · rw [if_neg h2, if_neg (by omega)]
    rw [e3]
    exact Mo_logs_l hc t f (by omega)
theorem Mo_logs {c : Nat} (hc : c < 6) {n : Int32} {R : oR} {s : Nat → Int32} (h0 : R.2 0 = s) : f_Mo_logs r (nI c) n (bk_Mo σ r R) = some (bk_Mo σ r (sA R 0 (lgS c n s))) := by
  obtain ⟨f, hf⟩ := hp_fu 12 (by decide)
  have hf' : f + 11 + 1 = hp_F := hf.symm
  have e0 : shU s (21 + 25 * c) 11 11 = s := by
    funext k
    unfold shU
    rw [if_neg (by omega)]
  have h1 := Mo_logs_l (σ := σ) (r := r) hc (x2 := n) (A := s) (R := R) (K := fun z5 σ => (f_Mo_sets r (nI c) 5 n σ).bind fun σ => (f_Mo_of r (nI c) 2 σ).bind fun v8 => (f_Mo_sets r (nI c) 2 (v8 + 1) σ).bind fun σ => some σ) 11 f (Nat.le_refl _)
  have es : sA R 0 s = R := by rw [← h0]; exact sA_self
  rw [e0, es, hf'] at h1
  unfold f_Mo_logs
  rw [Mo_own]
  refine (show _ = _ from h1).trans ?_
  rw [il_5, Mo_sets (by omega), Option.bind_some, sA_A, sA_at, il_2, Mo_of (by omega), Option.bind_some, sA_at, Mo_sets (by omega), Option.bind_some, sA_A, sA_at]
  have e1 : 16 + 25 * c + 5 = 21 + 25 * c := by omega
  have e2 : 16 + 25 * c + 2 = 18 + 25 * c := by omega
  rw [e1, e2]
  have e3 : upd (shU s (21 + 25 * c) 0 11) (21 + 25 * c) n (18 + 25 * c) = s (18 + 25 * c) := by
    unfold upd shU
    rw [if_neg (by omega), if_neg (by omega)]
  rw [e3]
  rfl
theorem Mo_waits_l {c : Nat} (hc : c < 6) {x2 : Int32} {A : Nat → Int32} {R : oR} {K : Int32 → hp_H → Option hp_H} : ∀ (m t f : Nat), t + m = 7 → f_Mo_waits_l1 r (nI c) x2 K (f + m + 1) (nI t) (bk_Mo σ r (sA R 0 (shD A (33 + 25 * c) t))) = K (nI 7) (bk_Mo σ r (sA R 0 (shD A (33 + 25 * c) 7)))
  | 0, t, f, h => by
    rw [show t = 7 by omega, f_Mo_waits_l1, if_pos (by decide)]
  | m + 1, t, f, h => by
    have e1 : ((17 : Int32) + nI t) + 1 = nI (17 + t + 1) := by rw [il_17, nI_add, nI_1]
    have e2 : (17 : Int32) + nI t = nI (17 + t) := by rw [il_17, nI_add]
    rw [f_Mo_waits_l1, if_neg (fun q => by have := (nI_leI (a := 7) (by omega) (by omega)).mp q; omega), e1, e2, Mo_of (by omega), Option.bind_some, sA_at, Mo_sets (by omega), Option.bind_some, sA_A, sA_at, nI_1]
    have e3 : upd (shD A (33 + 25 * c) t) (16 + 25 * c + (17 + t)) (shD A (33 + 25 * c) t (16 + 25 * c + (17 + t + 1))) = shD A (33 + 25 * c) (t + 1) := by
      funext k
      have e4 : shD A (33 + 25 * c) t (16 + 25 * c + (17 + t + 1)) = A (16 + 25 * c + (17 + t + 1)) := by
        unfold shD
        rw [if_neg (by omega)]
      rw [e4]
      unfold upd shD
      by_cases hk : k = 16 + 25 * c + (17 + t)
      · rw [if_pos hk, if_pos (by omega), hk]
        congr 1
      · rw [if_neg hk]
        by_cases h2 : 33 + 25 * c ≤ k ∧ k < 33 + 25 * c + t
        · rw [if_pos h2, if_pos (by omega)]
        · rw [if_neg h2, if_neg (by omega)]
    rw [e3]
    exact Mo_waits_l hc m (t + 1) f (by omega)
theorem Mo_waits {c : Nat} (hc : c < 6) {n : Int32} {R : oR} {s : Nat → Int32} (h0 : R.2 0 = s) (hk : s (20 + 25 * c) = nI (kpt s c) ∧ kpt s c ≤ 8) : f_Mo_waits r (nI c) n (bk_Mo σ r R) = some (bk_Mo σ r (sA R 0 (wtS c n s))) := by
  obtain ⟨k1, k2⟩ := hk
  have e16 : 16 + 25 * c + 4 = 20 + 25 * c := by omega
  have e3 : 16 + 25 * c + 3 = 19 + 25 * c := by omega
  unfold f_Mo_waits wtS
  rw [Mo_own, il_4, Mo_of (by omega), Option.bind_some, h0, e16]
  by_cases h8 : s (20 + 25 * c) = 8
  · rw [if_pos h8, if_pos h8]
    obtain ⟨f, hf⟩ := hp_fu 8 (by decide)
    have hf' : f + 7 + 1 = hp_F := hf.symm
    have e0 : shD s (33 + 25 * c) 0 = s := by
      funext k
      unfold shD
      rw [if_neg (by omega)]
    have es : sA R 0 s = R := by rw [← h0]; exact sA_self
    have h1 := Mo_waits_l (σ := σ) (r := r) hc (x2 := n) (A := s) (R := R) (K := fun z14 σ => (f_Mo_sets r (nI c) (nI 4) 7 σ).bind fun σ => (f_Mo_of r (nI c) 3 σ).bind fun v17 => (f_Mo_sets r (nI c) 3 (v17 + 1) σ).bind fun σ => (f_Mo_of r (nI c) (nI 4) σ).bind fun v20 => (f_Mo_sets r (nI c) ((17 : Int32) + v20) n σ).bind fun σ => (f_Mo_of r (nI c) (nI 4) σ).bind fun v23 => (f_Mo_sets r (nI c) (nI 4) (v23 + 1) σ).bind fun σ => some σ) 7 0 f (by decide)
    rw [e0, es, hf'] at h1
    refine (show _ = _ from h1).trans ?_
    have q1 : shD s (33 + 25 * c) 7 (19 + 25 * c) = s (19 + 25 * c) := by
      unfold shD
      rw [if_neg (by omega)]
    rw [Mo_sets (by omega), Option.bind_some, sA_A, sA_at, e16, il_3, Mo_of (by omega), Option.bind_some, sA_at, e3, pk_un (show 19 + 25 * c ≠ 20 + 25 * c by omega), q1, Mo_sets (by omega), Option.bind_some, sA_A, sA_at, e3, Mo_of (by omega), Option.bind_some, sA_at, e16, pk_un (show 20 + 25 * c ≠ 19 + 25 * c by omega), pk_us, show (17 : Int32) + 7 = nI 24 from rfl, Mo_sets (by omega), Option.bind_some, sA_A, sA_at, show 16 + 25 * c + 24 = 40 + 25 * c by omega, Mo_of (by omega), Option.bind_some, sA_at, e16, pk_un (show 20 + 25 * c ≠ 40 + 25 * c by omega), pk_un (show 20 + 25 * c ≠ 19 + 25 * c by omega), pk_us, Mo_sets (by omega), Option.bind_some, sA_A, sA_at, e16]
    rfl
  · have k8 : kpt s c ≠ 8 := fun q => h8 (by rw [k1, q]; rfl)
    rw [if_neg h8, if_neg h8, Option.bind_some, k1, il_17, nI_add, Mo_sets (by omega), Option.bind_some, Mo_of (by omega), Option.bind_some, sA_at, h0, show 16 + 25 * c + (17 + kpt s c) = 33 + 25 * c + kpt s c by omega, e16, pk_un (show 20 + 25 * c ≠ 33 + 25 * c + kpt s c by omega), Mo_sets (by omega), Option.bind_some, sA_A, sA_at, e16, k1]
end MO12
