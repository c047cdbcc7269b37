/-! ===== what is told on over all links, of a tree of brokers ===== -/
def sumTo (f : Nat → Nat) : Nat → Nat
  | 0 => 0
  | n + 1 => sumTo f n + f n
theorem sumTo_le {f g : Nat → Nat} : ∀ (n : Nat), (∀ k, k < n → f k ≤ g k) → sumTo f n ≤ sumTo g n
  | 0, _ => Nat.le_refl _
  | n + 1, h => Nat.add_le_add (sumTo_le n (fun k hk => h k (by omega))) (h n (by omega))
theorem sumTo_eq {f g : Nat → Nat} : ∀ (n : Nat), (∀ k, k < n → f k = g k) → sumTo f n = sumTo g n
  | 0, _ => rfl
  | n + 1, h => by
    unfold sumTo
    rw [sumTo_eq n (fun k hk => h k (by omega)), h n (by omega)]
theorem sumTo_add (f g : Nat → Nat) : ∀ (n : Nat), sumTo (fun k => f k + g k) n = sumTo f n + sumTo g n
  | 0 => rfl
  | n + 1 => by
    unfold sumTo
    rw [sumTo_add f g n]
    omega
theorem sumTo_zero : ∀ (n : Nat), sumTo (fun _ => 0) n = 0
  | 0 => rfl
  | n + 1 => by
    unfold sumTo
    rw [sumTo_zero n]
theorem sumTo_one (a c : Nat) : ∀ (n : Nat), sumTo (fun k => if k = a then c else 0) n = if a < n then c else 0
  | 0 => by rw [if_neg (by omega)]; rfl
  | n + 1 => by
    unfold sumTo
    rw [sumTo_one a c n]
    by_cases h : n = a
    · rw [if_pos h, if_neg (by omega), if_pos (by omega)]
      omega
    · rw [if_neg h]
      by_cases h2 : a < n
      · rw [if_pos h2, if_pos (by omega)]
        omega
      · rw [if_neg h2, if_neg (by omega)]
theorem sumTo_swap (f : Nat → Nat → Nat) (m : Nat) : ∀ (n : Nat), sumTo (fun i => sumTo (fun j => f i j) m) n = sumTo (fun j => sumTo (fun i => f i j) n) m
  | 0 => (sumTo_zero m).symm
  | n + 1 => by
    show sumTo (fun i => sumTo (fun j => f i j) m) n + sumTo (fun j => f n j) m = sumTo (fun j => sumTo (fun i => f i j) n + f n j) m
    rw [sumTo_swap f m n, sumTo_add]
theorem sumTo_pt {f : Nat → Nat} : ∀ (n k : Nat), k < n → f k ≤ sumTo f n
  | 0, _, h => by omega
  | n + 1, k, h => by
    unfold sumTo
    by_cases hk : k = n
    · subst hk
      omega
    · have := sumTo_pt (f := f) n k (by omega)
      omega
theorem flat_len (g : Nat → List Nat) : ∀ (n : Nat), ((List.range n).flatMap g).length = sumTo (fun k => (g k).length) n
  | 0 => rfl
  | n + 1 => by
    rw [List.range_succ, List.flatMap_append, List.length_append, flat_len g n]
    simp [sumTo]
def nbr (ab : Nat → Nat) (x y : Nat) : Prop := (x ≠ 0 ∧ ab x = y) ∨ (y ≠ 0 ∧ ab y = x)
def nbrb (ab : Nat → Nat) (x y : Nat) : Bool := decide ((x ≠ 0 ∧ ab x = y) ∨ (y ≠ 0 ∧ ab y = x))
theorem nbrb_iff {ab : Nat → Nat} {x y : Nat} : nbrb ab x y = true ↔ nbr ab x y := by unfold nbrb nbr; simp
def lnk (ab : Nat → Nat) (x y : Nat) : Nat := if x ≠ 0 ∧ ab x = y then 2 * x else 2 * y + 1
/-- what one neighbour tells on to x, but y -/
def hrd (ab : Nat → Nat) (tab : Nat → List Nat) (x y n : Nat) : List Nat := if n ≠ y ∧ nbrb ab n x = true then tab (lnk ab n x) else []
def inps (B : Nat) (ab : Nat → Nat) (wl tab : Nat → List Nat) (x y : Nat) : List Nat := wl x ++ (List.range B).flatMap (hrd ab tab x y)
def gth (B m : Nat) (ab : Nat → Nat) (wl tab : Nat → List Nat) (x y : Nat) : List Nat := redu m 12 (adds (inps B ab wl tab x y) [])
def lay (B m : Nat) (ab : Nat → Nat) (wl tab : Nat → List Nat) (x y : Nat) : Nat → List Nat := fun k => if k = lnk ab x y then gth B m ab wl tab x y else tab k
def upP (B m : Nat) (ab : Nat → Nat) (wl : Nat → List Nat) : Nat → (Nat → List Nat) → Nat → List Nat
  | 0, t => t
  | b + 1, t => upP B m ab wl b (lay B m ab wl t (b + 1) (ab (b + 1)))
def dnP (B m : Nat) (ab : Nat → Nat) (wl : Nat → List Nat) : Nat → Nat → (Nat → List Nat) → Nat → List Nat
  | 0, _, t => t
  | c + 1, b, t => dnP B m ab wl c (b + 1) (lay B m ab wl t (ab b) b)
def pass (B m : Nat) (ab : Nat → Nat) (wl t : Nat → List Nat) : Nat → List Nat := dnP B m ab wl (B - 1) 1 (upP B m ab wl (B - 1) t)
section NET
variable {B m : Nat} {ab : Nat → Nat} {wl : Nat → List Nat}
theorem lnk_up {b : Nat} (h : b ≠ 0) : lnk ab b (ab b) = 2 * b := by unfold lnk; rw [if_pos ⟨h, rfl⟩]
theorem lnk_dn (hT : ∀ b, b ≠ 0 → b < B → ab b < b) {b : Nat} (h : b ≠ 0) (hb : b < B) : lnk ab (ab b) b = 2 * b + 1 := by
  unfold lnk
  have h1 := hT b h hb
  rw [if_neg (fun q => by have := hT (ab b) q.1 (by omega); omega)]
theorem hrd_up (hT : ∀ b, b ≠ 0 → b < B → ab b < b) {t : Nat → List Nat} {b n : Nat} (h : b ≠ 0) (hb : b < B) (hn : n < B) : hrd ab t b (ab b) n = if n ≠ 0 ∧ ab n = b then t (2 * n) else [] := by
  unfold hrd
  by_cases hc : n ≠ 0 ∧ ab n = b
  · have h1 := hT n hc.1 hn
    have h2 := hT b h hb
    rw [if_pos hc, if_pos ⟨by omega, nbrb_iff.mpr (Or.inl hc)⟩]
    unfold lnk
    rw [if_pos hc]
  · rw [if_neg hc, if_neg]
    rintro ⟨q1, q2⟩
    rcases nbrb_iff.mp q2 with q | q
    · exact hc q
    · exact q1 q.2.symm
theorem hrd_dn (hT : ∀ b, b ≠ 0 → b < B → ab b < b) {t : Nat → List Nat} {b n : Nat} (h : b ≠ 0) (hb : b < B) (hn : n < B) : hrd ab t (ab b) b n = if n ≠ 0 ∧ ab n = ab b ∧ n ≠ b then t (2 * n) else if ab b ≠ 0 ∧ n = ab (ab b) then t (2 * ab b + 1) else [] := by
  unfold hrd
  have hp := hT b h hb
  by_cases hc : n ≠ 0 ∧ ab n = ab b ∧ n ≠ b
  · rw [if_pos hc, if_pos ⟨hc.2.2, nbrb_iff.mpr (Or.inl ⟨hc.1, hc.2.1⟩)⟩]
    unfold lnk
    rw [if_pos ⟨hc.1, hc.2.1⟩]
  · rw [if_neg hc]
    by_cases hd : ab b ≠ 0 ∧ n = ab (ab b)
    · have h2 := hT (ab b) hd.1 (by omega)
      rw [if_pos hd, if_pos ⟨by omega, nbrb_iff.mpr (Or.inr ⟨hd.1, hd.2.symm⟩)⟩]
      unfold lnk
      rw [if_neg (fun q => hc ⟨q.1, q.2, by omega⟩)]
    · rw [if_neg hd, if_neg]
      rintro ⟨q1, q2⟩
      rcases nbrb_iff.mp q2 with q | q
      · exact hc ⟨q.1, q.2, q1⟩
      · exact hd ⟨q.1, q.2.symm⟩
theorem lay_at {t : Nat → List Nat} {x y : Nat} : lay B m ab wl t x y (lnk ab x y) = gth B m ab wl t x y := by unfold lay; rw [if_pos rfl]
theorem lay_ne {t : Nat → List Nat} {x y k : Nat} (h : k ≠ lnk ab x y) : lay B m ab wl t x y k = t k := by unfold lay; rw [if_neg h]
theorem flat_congr {f g : Nat → List Nat} : ∀ (n : Nat), (∀ k, k < n → f k = g k) → (List.range n).flatMap f = (List.range n).flatMap g
  | 0, _ => rfl
  | n + 1, h => by
    rw [List.range_succ, List.flatMap_append, List.flatMap_append, flat_congr n (fun k hk => h k (by omega))]
    congr 1
    simp [h n (by omega)]
/-- the lists don't depend on what stood there before -/
theorem up_same (hT : ∀ b, b ≠ 0 → b < B → ab b < b) : ∀ (k : Nat) (t1 t2 : Nat → List Nat), k < B → (∀ n, k < n → n < B → t1 (2 * n) = t2 (2 * n)) → ∀ n, 0 < n → n < B → upP B m ab wl k t1 (2 * n) = upP B m ab wl k t2 (2 * n)
  | 0, _, _, _, h, n, h1, h2 => h n h1 h2
  | k + 1, t1, t2, hk, h, n, h1, h2 => by
    unfold upP
    refine up_same hT k _ _ (by omega) (fun j hj hjB => ?_) n h1 h2
    by_cases hjk : j = k + 1
    · subst hjk
      rw [← lnk_up (ab := ab) (by omega : k + 1 ≠ 0), lay_at, lay_at]
      unfold gth inps
      rw [flat_congr B (fun i hi => ?_)]
      rw [hrd_up hT (by omega) hk hi, hrd_up hT (by omega) hk hi]
      split
      · rename_i hc
        have := hT i hc.1 hi
        rw [h i (by omega) hi]
      · rfl
    · rw [lay_ne (by rw [lnk_up (by omega)]; omega), lay_ne (by rw [lnk_up (by omega)]; omega)]
      exact h j (by omega) hjB
theorem dn_same (hT : ∀ b, b ≠ 0 → b < B → ab b < b) : ∀ (c b : Nat) (t1 t2 : Nat → List Nat), 0 < b → b + c ≤ B → (∀ n, 0 < n → n < B → t1 (2 * n) = t2 (2 * n)) → (∀ n, 0 < n → n < b → t1 (2 * n + 1) = t2 (2 * n + 1)) → (∀ n, 0 < n → n < B → dnP B m ab wl c b t1 (2 * n) = dnP B m ab wl c b t2 (2 * n)) ∧ (∀ n, 0 < n → n < b + c → dnP B m ab wl c b t1 (2 * n + 1) = dnP B m ab wl c b t2 (2 * n + 1))
  | 0, _, _, _, _, _, h1, h2 => ⟨h1, h2⟩
  | c + 1, b, t1, t2, hb, hc, h1, h2 => by
    unfold dnP
    have hbB : b < B := by omega
    have hp := hT b (by omega) hbB
    have hl := lnk_dn (B := B) hT (b := b) (by omega) hbB
    have hg : gth B m ab wl t1 (ab b) b = gth B m ab wl t2 (ab b) b := by
      unfold gth inps
      rw [flat_congr B (fun i hi => ?_)]
      rw [hrd_dn hT (by omega) hbB hi, hrd_dn hT (by omega) hbB hi]
      split
      · rename_i hq
        exact h1 i (by omega) hi
      · split
        · rename_i hq
          exact h2 (ab b) (by omega) hp
        · rfl
    have := dn_same hT c (b + 1) (lay B m ab wl t1 (ab b) b) (lay B m ab wl t2 (ab b) b) (by omega) (by omega) (fun n k1 k2 => by
      rw [lay_ne (by rw [hl]; omega), lay_ne (by rw [hl]; omega)]
      exact h1 n k1 k2) (fun n k1 k2 => by
      by_cases hn : n = b
      · subst hn
        rw [← hl, lay_at, lay_at, hg]
      · rw [lay_ne (by rw [hl]; omega), lay_ne (by rw [hl]; omega)]
        exact h2 n k1 (by omega))
    refine ⟨this.1, fun n k1 k2 => this.2 n k1 (by omega)⟩
theorem pass_same (hT : ∀ b, b ≠ 0 → b < B → ab b < b) (hB : 0 < B) (t1 t2 : Nat → List Nat) : ∀ n, 0 < n → n < B → pass B m ab wl t1 (2 * n) = pass B m ab wl t2 (2 * n) ∧ pass B m ab wl t1 (2 * n + 1) = pass B m ab wl t2 (2 * n + 1) := by
  intro n h1 h2
  have hu := up_same (m := m) (wl := wl) hT (B - 1) t1 t2 (by omega) (fun n k1 k2 => by omega)
  have hd := dn_same (m := m) (wl := wl) hT (B - 1) 1 (upP B m ab wl (B - 1) t1) (upP B m ab wl (B - 1) t2) (by omega) (by omega) hu (fun n k1 k2 => by omega)
  exact ⟨hd.1 n h1 h2, hd.2 n h1 (by omega)⟩
end NET
