/-! ===== the class's Box: what its functions answer ===== -/
theorem bx_sh {N : Nat} (h : N < 16777216) (s : Int32) (k : Nat) (hs : (s.toBitVec.smod 32).toNat = k) : (nI N >>> s) &&& 15 = nI (N / 2 ^ k % 16) := by
  rw [pk_shrN (by omega) s k hs]
  exact pk_andN (Nat.lt_of_le_of_lt (Nat.div_le_self _ _) (by omega)) 4 (by decide)
theorem bx_from0 {N : Nat} (h : N < 16777216) : f_Box_from (nI N) 0 = some (nI (d0 N)) := congrArg some (bx_sh h _ 20 (by decide))
theorem bx_from1 {N : Nat} (h : N < 16777216) : f_Box_from (nI N) 1 = some (nI (d2 N)) := congrArg some (bx_sh h _ 12 (by decide))
theorem bx_from2 {N : Nat} (h : N < 16777216) : f_Box_from (nI N) 2 = some (nI (d4 N)) := congrArg some (bx_sh h _ 4 (by decide))
theorem bx_to0 {N : Nat} (h : N < 16777216) : f_Box_to (nI N) 0 = some (nI (d1 N)) := congrArg some (bx_sh h _ 16 (by decide))
theorem bx_to1 {N : Nat} (h : N < 16777216) : f_Box_to (nI N) 1 = some (nI (d3 N)) := congrArg some (bx_sh h _ 8 (by decide))
theorem bx_to2 {N : Nat} (h : N < 16777216) : f_Box_to (nI N) 2 = some (nI (d5 N)) := by
  refine congrArg some ((bx_sh h _ 0 (by decide)).trans ?_)
  unfold d5
  rw [Nat.pow_zero, Nat.div_one]
def dgt (k N : Nat) : Nat := if k = 0 then d0 N else if k = 1 then d1 N else if k = 2 then d2 N else if k = 3 then d3 N else if k = 4 then d4 N else d5 N
theorem bx_bound {N : Nat} (h : N < 16777216) {k : Nat} (hk : k < 6) : f_Box_bound (nI N) (nI k) = some (nI (dgt k N)) := by
  match k, hk with
  | 0, _ => exact congrArg some (bx_sh h _ 20 (by decide))
  | 1, _ => exact congrArg some (bx_sh h _ 16 (by decide))
  | 2, _ => exact congrArg some (bx_sh h _ 12 (by decide))
  | 3, _ => exact congrArg some (bx_sh h _ 8 (by decide))
  | 4, _ => exact congrArg some (bx_sh h _ 4 (by decide))
  | 5, _ =>
    refine congrArg some ((bx_sh h _ 0 (by decide)).trans ?_)
    rw [Nat.pow_zero, Nat.div_one]
    rfl
theorem nx_span {l h : Nat} (hl : l ≤ h) (hh : h < 16) : (nI h - nI l) + 1 = nI (h + 1 - l) := by
  rw [pk_sub hl, nI_1]
  congr 1
  omega
theorem mx_nat {a b : Nat} (ha : a < 2 ^ 31) (hb : b < 2 ^ 31) : f_Math_max (nI a) (nI b) = some (nI (max a b)) := by
  unfold f_Math_max
  by_cases h : a < b
  · rw [if_pos ((nI_ltI ha hb).mpr h), Nat.max_eq_right (by omega)]
  · rw [if_neg (fun q => h ((nI_ltI ha hb).mp q)), Nat.max_eq_left (by omega)]
theorem mn_nat {a b : Nat} (ha : a < 2 ^ 31) (hb : b < 2 ^ 31) : f_Math_min (nI a) (nI b) = some (nI (min a b)) := by
  unfold f_Math_min
  by_cases h : b < a
  · rw [if_pos ((nI_ltI hb ha).mpr h), Nat.min_eq_right (by omega)]
  · rw [if_neg (fun q => h ((nI_ltI hb ha).mp q)), Nat.min_eq_left (by omega)]
theorem mx_span {l h : Nat} (hl : l < 16) (hh : h < 16) : f_Math_max 0 ((nI h - nI l) + 1) = some (nI (h + 1 - l)) := by
  by_cases hc : l ≤ h
  · rw [nx_span hc hh]
    exact (mx_nat (a := 0) (by decide) (by omega)).trans (by rw [Nat.max_eq_right (by omega)])
  · unfold f_Math_max
    have e : (nI h - nI l) + 1 = nI (h + 1) - nI l := by
      rw [← nI_1]
      have : ∀ a b : Int32, a - b + 1 = a + 1 - b := fun a b => by
        rw [Int32.sub_eq_add_neg, Int32.sub_eq_add_neg, Int32.add_assoc, Int32.add_comm (-b), ← Int32.add_assoc]
      exact this _ _
    rw [e]
    have hn : ¬ (0 : Int32) < nI (h + 1) - nI l := by
      rw [fo_lt, pk_sub_toInt (by omega) (by omega)]
      show ¬ (0 : Int) < _
      omega
    rw [if_neg hn, show h + 1 - l = 0 by omega]
    rfl
theorem bx_size {N : Nat} (h : vb N) : f_Box_size (nI N) = some (nI (siz N)) := by
  obtain ⟨hN, ⟨a1, a2⟩, ⟨b1, b2⟩, ⟨c1, c2⟩⟩ := h
  obtain ⟨n, hn⟩ := hp_fu 4 (by decide)
  unfold f_Box_size
  rw [hn]
  rw [f_Box_size_l1, if_neg (by decide), bx_to0 hN, bx_from0 hN]
  simp only [Option.bind_some]
  rw [f_Box_size_l1, if_neg (by decide), show (0 : Int32) + 1 = 1 from rfl, bx_to1 hN, bx_from1 hN]
  simp only [Option.bind_some]
  rw [f_Box_size_l1, if_neg (by decide), show (1 : Int32) + 1 = 2 from rfl, bx_to2 hN, bx_from2 hN]
  simp only [Option.bind_some]
  rw [f_Box_size_l1, if_pos (by decide), nx_span a1 (by omega), nx_span b1 (by omega), nx_span c1 (by omega), il_1, pk_mul, pk_mul, pk_mul]
  unfold siz
  rw [Nat.one_mul]
theorem bx_com {a b : Nat} (ha : a < 16777216) (hb : b < 16777216) : f_Box_sizeOfCommon (nI a) (nI b) = some (nI (com a b)) := by
  obtain ⟨ka0, ka1, ka2, ka3, ka4, ka5⟩ := d_lt a
  obtain ⟨kb0, kb1, kb2, kb3, kb4, kb5⟩ := d_lt b
  obtain ⟨n, hn⟩ := hp_fu 4 (by decide)
  have st : ∀ (K : Int32 → Int32 → Option Int32) (k : Nat) (x t : Int32) (p q r u : Nat), ¬ (3 : Int32) ≤ t → f_Box_from (nI a) t = some (nI p) → f_Box_from (nI b) t = some (nI q) → f_Box_to (nI a) t = some (nI r) → f_Box_to (nI b) t = some (nI u) → p < 16 → q < 16 → r < 16 → u < 16 → f_Box_sizeOfCommon_l1 (nI a) (nI b) K (k + 1) x t = f_Box_sizeOfCommon_l1 (nI a) (nI b) K k (x * nI (min r u + 1 - max p q)) (t + 1) := by
    intro K k x t p q r u ht e1 e2 e3 e4 h1 h2 h3 h4
    have g1 : p < 2 ^ 31 := by omega
    have g2 : q < 2 ^ 31 := by omega
    have g3 : r < 2 ^ 31 := by omega
    have g4 : u < 2 ^ 31 := by omega
    have g5 : max p q < 16 := by omega
    have g6 : min r u < 16 := by omega
    rw [f_Box_sizeOfCommon_l1, if_neg ht, e1, Option.bind_some, e2, Option.bind_some, mx_nat g1 g2, Option.bind_some, e3, Option.bind_some, e4, Option.bind_some, mn_nat g3 g4, Option.bind_some, mx_span g5 g6, Option.bind_some]
  have fin : ∀ (K : Int32 → Int32 → Option Int32) (k : Nat) (x : Int32), f_Box_sizeOfCommon_l1 (nI a) (nI b) K (k + 1) x 3 = K x 3 := fun K k x => by rw [f_Box_sizeOfCommon_l1, if_pos (by decide)]
  unfold f_Box_sizeOfCommon
  rw [hn, st _ (n + 3) _ 0 _ _ _ _ (by decide) (bx_from0 ha) (bx_from0 hb) (bx_to0 ha) (bx_to0 hb) ka0 kb0 ka1 kb1]
  rw [show (0 : Int32) + 1 = 1 from rfl, st _ (n + 2) _ 1 _ _ _ _ (by decide) (bx_from1 ha) (bx_from1 hb) (bx_to1 ha) (bx_to1 hb) ka2 kb2 ka3 kb3]
  rw [show (1 : Int32) + 1 = 2 from rfl, st _ (n + 1) _ 2 _ _ _ _ (by decide) (bx_from2 ha) (bx_from2 hb) (bx_to2 ha) (bx_to2 hb) ka4 kb4 ka5 kb5]
  rw [show (2 : Int32) + 1 = 3 from rfl, fin]
  show some _ = some _
  unfold com
  rw [il_1, pk_mul, pk_mul, pk_mul, Nat.one_mul]
theorem bx_wb {x a b : Nat} (hx : x < 65536) (ha : a < 16) (hb : b < 16) : f_Box_withBounds (nI x) (nI a) (nI b) = some (nI (x * 256 + a * 16 + b)) := by
  unfold f_Box_withBounds
  rw [pk_shlN (8 &&& 31) 8 (by decide) (by omega), pk_shlN (4 &&& 31) 4 (by decide) (by omega)]
  have e1 : nI (x * 2 ^ 8) ||| nI (a * 2 ^ 4) = nI (x * 256 + a * 16) := by
    have := fo_ors (a := a * 2 ^ 4) (k := 8) x (by omega)
    rw [show 2 ^ 8 * x = x * 2 ^ 8 by omega] at this
    exact this.trans (congrArg nI (by omega))
  rw [e1]
  have e2 : nI (x * 256 + a * 16) ||| nI b = nI (x * 256 + a * 16 + b) := by
    have := fo_ors (a := b) (k := 4) (x * 16 + a) (by omega)
    rw [show 2 ^ 4 * (x * 16 + a) = x * 256 + a * 16 by omega] at this
    exact this
  rw [e2]
theorem bx_joined {a b : Nat} (ha : a < 16777216) (hb : b < 16777216) : f_Box_joined (nI a) (nI b) = some (nI (jn a b)) := by
  obtain ⟨ka0, ka1, ka2, ka3, ka4, ka5⟩ := d_lt a
  obtain ⟨kb0, kb1, kb2, kb3, kb4, kb5⟩ := d_lt b
  obtain ⟨n, hn⟩ := hp_fu 4 (by decide)
  have st : ∀ (K : Int32 → Int32 → Option Int32) (k x : Nat) (t : Int32) (p q r u : Nat), ¬ (3 : Int32) ≤ t → f_Box_from (nI a) t = some (nI p) → f_Box_from (nI b) t = some (nI q) → f_Box_to (nI a) t = some (nI r) → f_Box_to (nI b) t = some (nI u) → p < 16 → q < 16 → r < 16 → u < 16 → x < 65536 → f_Box_joined_l1 (nI a) (nI b) K (k + 1) (nI x) t = f_Box_joined_l1 (nI a) (nI b) K k (nI (x * 256 + min p q * 16 + max r u)) (t + 1) := by
    intro K k x t p q r u ht e1 e2 e3 e4 h1 h2 h3 h4 hx
    have g1 : p < 2 ^ 31 := by omega
    have g2 : q < 2 ^ 31 := by omega
    have g3 : r < 2 ^ 31 := by omega
    have g4 : u < 2 ^ 31 := by omega
    have g5 : min p q < 16 := by omega
    have g6 : max r u < 16 := by omega
    rw [f_Box_joined_l1, if_neg ht, e1, Option.bind_some, e2, Option.bind_some, mn_nat g1 g2, Option.bind_some, e3, Option.bind_some, e4, Option.bind_some, mx_nat g3 g4, Option.bind_some, bx_wb hx g5 g6, Option.bind_some]
  have fin : ∀ (K : Int32 → Int32 → Option Int32) (k : Nat) (x : Int32), f_Box_joined_l1 (nI a) (nI b) K (k + 1) x 3 = K x 3 := fun K k x => by rw [f_Box_joined_l1, if_pos (by decide)]
  have m0 : min (d0 a) (d0 b) < 16 := by omega
  have m1 : max (d1 a) (d1 b) < 16 := by omega
  have m2 : min (d2 a) (d2 b) < 16 := by omega
  have m3 : max (d3 a) (d3 b) < 16 := by omega
  unfold f_Box_joined
  rw [hn]
  refine (st _ (n + 3) 0 0 _ _ _ _ (by decide) (bx_from0 ha) (bx_from0 hb) (bx_to0 ha) (bx_to0 hb) ka0 kb0 ka1 kb1 (by decide)).trans ?_
  rw [show (0 : Int32) + 1 = 1 from rfl, st _ (n + 2) _ 1 _ _ _ _ (by decide) (bx_from1 ha) (bx_from1 hb) (bx_to1 ha) (bx_to1 hb) ka2 kb2 ka3 kb3 (by omega)]
  rw [show (1 : Int32) + 1 = 2 from rfl, st _ (n + 1) _ 2 _ _ _ _ (by decide) (bx_from2 ha) (bx_from2 hb) (bx_to2 ha) (bx_to2 hb) ka4 kb4 ka5 kb5 (by omega)]
  rw [show (2 : Int32) + 1 = 3 from rfl, fin]
  show some _ = some _
  unfold jn mk6
  have e : ((0 * 256 + min (d0 a) (d0 b) * 16 + max (d1 a) (d1 b)) * 256 + min (d2 a) (d2 b) * 16 + max (d3 a) (d3 b)) * 256 + min (d4 a) (d4 b) * 16 + max (d5 a) (d5 b) = min (d0 a) (d0 b) * 1048576 + max (d1 a) (d1 b) * 65536 + min (d2 a) (d2 b) * 4096 + max (d3 a) (d3 b) * 256 + min (d4 a) (d4 b) * 16 + max (d5 a) (d5 b) := by omega
  rw [e]
theorem bx_covers {o i : Nat} (ho : o < 16777216) (hi : i < 16777216) : f_Box_covers (nI o) (nI i) = some (if cov o i = true then 1 else 0) := by
  have ko := d_lt o
  have ki := d_lt i
  obtain ⟨n, hn⟩ := hp_fu 4 (by decide)
  unfold f_Box_covers
  rw [hn]
  have h3 : ∀ (K : Int32 → Option Int32), f_Box_covers_l1 (nI o) (nI i) K (n + 1) 3 = K 3 := fun K => by rw [f_Box_covers_l1, if_pos (by decide)]
  have h2 : ∀ (K : Int32 → Option Int32), f_Box_covers_l1 (nI o) (nI i) K (n + 2) 2 = if nI (d4 i) < nI (d4 o) then some 0 else (if nI (d5 i) ≤ nI (d5 o) then K 3 else some 0) := fun K => by
    rw [f_Box_covers_l1, if_neg (by decide), bx_from2 hi, bx_from2 ho, bx_to2 hi, bx_to2 ho]
    simp only [Option.bind_some]
    rw [show (2 : Int32) + 1 = 3 from rfl, h3]
  have h1 : ∀ (K : Int32 → Option Int32), f_Box_covers_l1 (nI o) (nI i) K (n + 3) 1 = if nI (d2 i) < nI (d2 o) then some 0 else (if nI (d3 i) ≤ nI (d3 o) then f_Box_covers_l1 (nI o) (nI i) K (n + 2) 2 else some 0) := fun K => by
    rw [f_Box_covers_l1, if_neg (by decide), bx_from1 hi, bx_from1 ho, bx_to1 hi, bx_to1 ho]
    simp only [Option.bind_some]
    rw [show (1 : Int32) + 1 = 2 from rfl]
  have h0 : ∀ (K : Int32 → Option Int32), f_Box_covers_l1 (nI o) (nI i) K (n + 4) 0 = if nI (d0 i) < nI (d0 o) then some 0 else (if nI (d1 i) ≤ nI (d1 o) then f_Box_covers_l1 (nI o) (nI i) K (n + 3) 1 else some 0) := fun K => by
    rw [f_Box_covers_l1, if_neg (by decide), bx_from0 hi, bx_from0 ho, bx_to0 hi, bx_to0 ho]
    simp only [Option.bind_some]
    rw [show (0 : Int32) + 1 = 1 from rfl]
  rw [h0, h1, h2]
  simp (disch := omega) only [nI_ltI, nI_leI]
  by_cases hc : cov o i = true
  · rw [if_pos hc]
    rw [cov_iff] at hc
    rw [if_neg (by omega), if_pos (by omega), if_neg (by omega), if_pos (by omega), if_neg (by omega), if_pos (by omega)]
  · rw [if_neg hc]
    rw [cov_iff] at hc
    split
    · rfl
    · split
      · split
        · rfl
        · split
          · split
            · rfl
            · split
              · exact absurd (by omega) hc
              · rfl
          · rfl
      · rfl
theorem bx_waste {a b : Nat} (ha : vb a) (hb : vb b) : f_Box_waste (nI a) (nI b) = some (nI (wst a b)) := by
  unfold f_Box_waste
  rw [bx_joined ha.1 hb.1, Option.bind_some, bx_size (jn_vb ha hb), Option.bind_some, bx_size ha, Option.bind_some, bx_size hb, Option.bind_some, bx_com ha.1 hb.1, Option.bind_some]
  have hl := wst_le ha hb
  have h1 := @siz_le (jn a b)
  have h2 := @siz_le a
  have h3 := @siz_le b
  have h4 := com_le a b
  congr 1
  rw [nI_add]
  have e : nI (siz (jn a b)) - (nI (siz a + siz b) - nI (com a b)) = nI (siz (jn a b)) + nI (com a b) - nI (siz a + siz b) := by
    have : ∀ x y z : Int32, x - (y - z) = x + z - y := fun x y z => by
      rw [Int32.sub_eq_add_neg, Int32.neg_sub, Int32.sub_eq_add_neg, Int32.sub_eq_add_neg, Int32.add_assoc]
    exact this _ _ _
  rw [e, nI_add, pk_sub hl]
  rfl
