/-! ===== no list is ever longer than all wishes ===== -/
/-- how many wishes there are at a broker and below it -/
def wu (B : Nat) (ab : Nat → Nat) (wl : Nat → List Nat) : Nat → Nat → Nat
  | 0, _ => 0
  | f + 1, b => (wl b).length + sumTo (fun n => if n ≠ 0 ∧ ab n = b then wu B ab wl f n else 0) B
def WU (B : Nat) (ab : Nat → Nat) (wl : Nat → List Nat) (b : Nat) : Nat := wu B ab wl B b
def tot (B : Nat) (wl : Nat → List Nat) : Nat := sumTo (fun b => (wl b).length) B
section ROOM
variable {B m : Nat} {ab : Nat → Nat} {wl : Nat → List Nat}
theorem wu_same (hT : ∀ b, b ≠ 0 → b < B → ab b < b) : ∀ (f g b : Nat), B ≤ f + b → B ≤ g + b → b < B → wu B ab wl f b = wu B ab wl g b
  | 0, g, b, h1, _, h3 => by omega
  | f + 1, 0, b, _, h2, h3 => by omega
  | f + 1, g + 1, b, h1, h2, h3 => by
    unfold wu
    congr 1
    refine sumTo_eq B (fun n hn => ?_)
    split
    · rename_i hc
      have := hT n hc.1 hn
      exact wu_same hT f g n (by omega) (by omega) hn
    · rfl
theorem WU_eq (hT : ∀ b, b ≠ 0 → b < B → ab b < b) {b : Nat} (hb : b < B) : WU B ab wl b = (wl b).length + sumTo (fun n => if n ≠ 0 ∧ ab n = b then WU B ab wl n else 0) B := by
  obtain ⟨f, hf⟩ : ∃ f, B = f + 1 := ⟨B - 1, by omega⟩
  have e : WU B ab wl b = wu B ab wl (f + 1) b := by unfold WU; rw [← hf]
  rw [e]
  show (wl b).length + sumTo (fun n => if n ≠ 0 ∧ ab n = b then wu B ab wl f n else 0) B = _
  congr 1
  refine sumTo_eq B (fun n hn => ?_)
  split
  · rename_i hc
    have := hT n hc.1 hn
    exact wu_same hT f B n (by omega) (by omega) hn
  · rfl
theorem WU_root (hT : ∀ b, b ≠ 0 → b < B → ab b < b) (hB : 0 < B) : WU B ab wl 0 = tot B wl := by
  have h1 : sumTo (WU B ab wl) B = tot B wl + sumTo (fun n => if n = 0 then 0 else WU B ab wl n) B := by
    have e1 : sumTo (WU B ab wl) B = sumTo (fun b => (wl b).length + sumTo (fun n => if n ≠ 0 ∧ ab n = b then WU B ab wl n else 0) B) B := sumTo_eq B (fun b hb => WU_eq hT hb)
    rw [e1, sumTo_add, sumTo_swap (fun b n => if n ≠ 0 ∧ ab n = b then WU B ab wl n else 0)]
    unfold tot
    congr 1
    refine sumTo_eq B (fun n hn => ?_)
    by_cases h0 : n = 0
    · rw [if_pos h0]
      have : sumTo (fun i => if n ≠ 0 ∧ ab n = i then WU B ab wl n else 0) B = sumTo (fun _ => 0) B := sumTo_eq B (fun i _ => by rw [if_neg (fun q => q.1 h0)])
      rw [this, sumTo_zero]
    · rw [if_neg h0]
      have : sumTo (fun i => if n ≠ 0 ∧ ab n = i then WU B ab wl n else 0) B = sumTo (fun i => if i = ab n then WU B ab wl n else 0) B := sumTo_eq B (fun i _ => by
        by_cases hi : i = ab n
        · rw [if_pos ⟨h0, hi.symm⟩, if_pos hi]
        · rw [if_neg (fun q => hi q.2.symm), if_neg hi])
      rw [this, sumTo_one, if_pos (by have := hT n h0 hn; omega)]
  have h2 : sumTo (WU B ab wl) B = WU B ab wl 0 + sumTo (fun n => if n = 0 then 0 else WU B ab wl n) B := by
    have e2 : sumTo (WU B ab wl) B = sumTo (fun n => (if n = 0 then WU B ab wl 0 else 0) + (if n = 0 then 0 else WU B ab wl n)) B := sumTo_eq B (fun n _ => by
      by_cases h0 : n = 0
      · rw [if_pos h0, if_pos h0, h0]; omega
      · rw [if_neg h0, if_neg h0]; omega)
    rw [e2, sumTo_add, sumTo_one, if_pos hB]
  omega
theorem WU_le (hT : ∀ b, b ≠ 0 → b < B → ab b < b) (hB : 0 < B) : ∀ (k b : Nat), b ≤ k → b < B → WU B ab wl b ≤ tot B wl
  | 0, b, hk, hb => by
    rw [show b = 0 by omega, WU_root hT hB]
    exact Nat.le_refl _
  | k + 1, b, hk, hb => by
    by_cases h0 : b = 0
    · rw [h0, WU_root hT hB]
      exact Nat.le_refl _
    · have hp := hT b h0 hb
      have h1 := WU_le hT hB k (ab b) (by omega) (by omega)
      have h2 := WU_eq (wl := wl) hT (b := ab b) (by omega)
      have h3 : WU B ab wl b ≤ sumTo (fun n => if n ≠ 0 ∧ ab n = ab b then WU B ab wl n else 0) B := by
        have h5 := sumTo_pt (f := fun n => if n ≠ 0 ∧ ab n = ab b then WU B ab wl n else 0) B b hb
        rw [if_pos (show b ≠ 0 ∧ ab b = ab b from ⟨h0, rfl⟩)] at h5
        exact h5
      omega
/-- a list that was told: as it must be -/
def okL (m : Nat) (l : List Nat) : Prop := VB l ∧ AC l ∧ l.length ≤ m
def upI (B m : Nat) (ab : Nat → Nat) (wl : Nat → List Nat) (k : Nat) (t : Nat → List Nat) : Prop := ∀ n, k < n → n < B → okL m (t (2 * n)) ∧ (t (2 * n)).length ≤ WU B ab wl n
def dnI (B m : Nat) (ab : Nat → Nat) (wl : Nat → List Nat) (b : Nat) (t : Nat → List Nat) : Prop := upI B m ab wl 0 t ∧ ∀ n, 0 < n → n < b → okL m (t (2 * n + 1)) ∧ (t (2 * n + 1)).length + WU B ab wl n ≤ tot B wl
theorem VB_flat {g : Nat → List Nat} : ∀ (n : Nat), (∀ k, k < n → VB (g k)) → VB ((List.range n).flatMap g) := by
  intro n h x hx
  obtain ⟨k, hk, hx⟩ := List.mem_flatMap.mp hx
  exact h k (List.mem_range.mp hk) x hx
theorem VB_app {a b : List Nat} (ha : VB a) (hb : VB b) : VB (a ++ b) := fun x hx => (List.mem_append.mp hx).elim (ha x) (hb x)
theorem VB_nil : VB [] := fun x hx => by cases hx
theorem gth_ok {t : Nat → List Nat} {x y : Nat} (hm : 1 ≤ m) (hv : VB (inps B ab wl t x y)) (hl : (inps B ab wl t x y).length ≤ 12) : okL m (gth B m ab wl t x y) ∧ (gth B m ab wl t x y).length ≤ (inps B ab wl t x y).length := by
  obtain ⟨a1, a2, a3⟩ := adds_ok (inps B ab wl t x y) [] List.Pairwise.nil VB_nil hv
  simp only [List.length_nil, Nat.zero_add] at a3
  obtain ⟨r1, r2, r3, r4⟩ := redu_ok m hm 12 (adds (inps B ab wl t x y) []) a1 a2 (by omega)
  exact ⟨⟨r2, r1, r3⟩, Nat.le_trans r4 a3⟩
theorem up_inps (hT : ∀ b, b ≠ 0 → b < B → ab b < b) (hw : ∀ b, b < B → VB (wl b)) {t : Nat → List Nat} {b : Nat} (h0 : b ≠ 0) (hb : b < B) (hI : upI B m ab wl b t) : VB (inps B ab wl t b (ab b)) ∧ (inps B ab wl t b (ab b)).length ≤ WU B ab wl b := by
  constructor
  · refine VB_app (hw b hb) (VB_flat B (fun n hn => ?_))
    rw [hrd_up hT h0 hb hn]
    split
    · rename_i hc
      have := hT n hc.1 hn
      exact (hI n (by omega) hn).1.1
    · exact VB_nil
  · unfold inps
    rw [List.length_append, flat_len, WU_eq hT hb]
    refine Nat.add_le_add_left (sumTo_le B (fun n hn => ?_)) _
    rw [hrd_up hT h0 hb hn]
    split
    · rename_i hc
      have := hT n hc.1 hn
      exact (hI n (by omega) hn).2
    · exact Nat.le_refl _
theorem dn_inps (hT : ∀ b, b ≠ 0 → b < B → ab b < b) (hB : 0 < B) (hw : ∀ b, b < B → VB (wl b)) {t : Nat → List Nat} {b : Nat} (h0 : b ≠ 0) (hb : b < B) (hI : dnI B m ab wl b t) : VB (inps B ab wl t (ab b) b) ∧ (inps B ab wl t (ab b) b).length + WU B ab wl b ≤ tot B wl := by
  have hp := hT b h0 hb
  constructor
  · refine VB_app (hw (ab b) (by omega)) (VB_flat B (fun n hn => ?_))
    rw [hrd_dn hT h0 hb hn]
    split
    · exact (hI.1 n (by omega) hn).1.1
    · split
      · exact (hI.2 (ab b) (by omega) hp).1.1
      · exact VB_nil
  · unfold inps
    rw [List.length_append, flat_len]
    have h1 : sumTo (fun k => (hrd ab t (ab b) b k).length) B + WU B ab wl b ≤ sumTo (fun n => if n ≠ 0 ∧ ab n = ab b then WU B ab wl n else 0) B + (if ab b ≠ 0 then tot B wl - WU B ab wl (ab b) else 0) := by
      have e1 : sumTo (fun k => (hrd ab t (ab b) b k).length) B + sumTo (fun n => if n = b then WU B ab wl b else 0) B ≤ sumTo (fun n => if n ≠ 0 ∧ ab n = ab b then WU B ab wl n else 0) B + sumTo (fun n => if n = ab (ab b) then (if ab b ≠ 0 then tot B wl - WU B ab wl (ab b) else 0) else 0) B := by
        rw [← sumTo_add, ← sumTo_add]
        refine sumTo_le B (fun n hn => ?_)
        rw [hrd_dn hT h0 hb hn]
        by_cases hc : n ≠ 0 ∧ ab n = ab b ∧ n ≠ b
        · rw [if_pos hc, if_neg hc.2.2, if_pos (show n ≠ 0 ∧ ab n = ab b from ⟨hc.1, hc.2.1⟩)]
          have := (hI.1 n (by omega) hn).2
          omega
        · rw [if_neg hc]
          have hq : (if ab b ≠ 0 ∧ n = ab (ab b) then t (2 * ab b + 1) else []).length ≤ (if n = ab (ab b) then (if ab b ≠ 0 then tot B wl - WU B ab wl (ab b) else 0) else 0) := by
            split
            · rename_i hd
              rw [if_pos hd.2, if_pos hd.1]
              have := (hI.2 (ab b) (by omega) hp).2
              omega
            · exact Nat.zero_le _
          by_cases hnb : n = b
          · rw [if_pos hnb, if_pos (show n ≠ 0 ∧ ab n = ab b from ⟨by omega, by rw [hnb]⟩), hnb]
            rw [hnb] at hq
            omega
          · rw [if_neg hnb]
            omega
      rw [sumTo_one, sumTo_one, if_pos hb] at e1
      have e2 : (if ab (ab b) < B then (if ab b ≠ 0 then tot B wl - WU B ab wl (ab b) else 0) else 0) ≤ (if ab b ≠ 0 then tot B wl - WU B ab wl (ab b) else 0) := by
        split
        · exact Nat.le_refl _
        · exact Nat.zero_le _
      omega
    have h2 := WU_eq (wl := wl) hT (b := ab b) (by omega)
    have h3 := WU_le (wl := wl) hT hB B (ab b) (by omega) (by omega)
    by_cases hz : ab b = 0
    · rw [if_neg (by omega)] at h1
      have h4 := WU_root (wl := wl) hT hB
      rw [hz] at h1 h2 ⊢
      omega
    · rw [if_pos hz] at h1
      omega
theorem up_step (hT : ∀ b, b ≠ 0 → b < B → ab b < b) (hB : 0 < B) (hm : 1 ≤ m) (hw : ∀ b, b < B → VB (wl b)) (htot : tot B wl ≤ 12) {t : Nat → List Nat} {b : Nat} (hb : b + 1 < B) (hI : upI B m ab wl (b + 1) t) : upI B m ab wl b (lay B m ab wl t (b + 1) (ab (b + 1))) := by
  obtain ⟨h1, h2⟩ := up_inps hT hw (by omega) hb hI
  have h3 := WU_le (wl := wl) hT hB B (b + 1) (by omega) hb
  obtain ⟨g1, g2⟩ := gth_ok hm h1 (by omega)
  intro n hn hnB
  by_cases hnb : n = b + 1
  · subst hnb
    have e : lay B m ab wl t (b + 1) (ab (b + 1)) (2 * (b + 1)) = gth B m ab wl t (b + 1) (ab (b + 1)) := by
      rw [← lnk_up (ab := ab) (by omega : b + 1 ≠ 0), lay_at]
    rw [e]
    exact ⟨g1, Nat.le_trans g2 h2⟩
  · rw [lay_ne (by rw [lnk_up (by omega)]; omega)]
    exact hI n (by omega) hnB
theorem dn_step (hT : ∀ b, b ≠ 0 → b < B → ab b < b) (hB : 0 < B) (hm : 1 ≤ m) (hw : ∀ b, b < B → VB (wl b)) (htot : tot B wl ≤ 12) {t : Nat → List Nat} {b : Nat} (h0 : 0 < b) (hb : b < B) (hI : dnI B m ab wl b t) : dnI B m ab wl (b + 1) (lay B m ab wl t (ab b) b) := by
  obtain ⟨h1, h2⟩ := dn_inps hT hB hw (by omega) hb hI
  obtain ⟨g1, g2⟩ := gth_ok hm h1 (by omega)
  have hl := lnk_dn (B := B) hT (b := b) (by omega) hb
  refine ⟨fun n hn hnB => ?_, fun n hn hnB => ?_⟩
  · rw [lay_ne (by rw [hl]; omega)]
    exact hI.1 n hn hnB
  · by_cases hnb : n = b
    · subst hnb
      have e : lay B m ab wl t (ab n) n (2 * n + 1) = gth B m ab wl t (ab n) n := by rw [← hl, lay_at]
      rw [e]
      exact ⟨g1, by omega⟩
    · rw [lay_ne (by rw [hl]; omega)]
      exact hI.2 n hn (by omega)
theorem up_all (hT : ∀ b, b ≠ 0 → b < B → ab b < b) (hB : 0 < B) (hm : 1 ≤ m) (hw : ∀ b, b < B → VB (wl b)) (htot : tot B wl ≤ 12) : ∀ (k : Nat) (t : Nat → List Nat), k < B → upI B m ab wl k t → upI B m ab wl 0 (upP B m ab wl k t)
  | 0, _, _, h => h
  | k + 1, t, hk, h => up_all hT hB hm hw htot k _ (by omega) (up_step hT hB hm hw htot hk h)
theorem dn_all (hT : ∀ b, b ≠ 0 → b < B → ab b < b) (hB : 0 < B) (hm : 1 ≤ m) (hw : ∀ b, b < B → VB (wl b)) (htot : tot B wl ≤ 12) : ∀ (c b : Nat) (t : Nat → List Nat), 0 < b → b + c ≤ B → dnI B m ab wl b t → dnI B m ab wl (b + c) (dnP B m ab wl c b t)
  | 0, _, _, _, _, h => h
  | c + 1, b, t, hb, hc, h => by
    have := dn_all hT hB hm hw htot c (b + 1) _ (by omega) (by omega) (dn_step hT hB hm hw htot hb (by omega) h)
    rw [show b + (c + 1) = b + 1 + c by omega]
    exact this
theorem pass_ok (hT : ∀ b, b ≠ 0 → b < B → ab b < b) (hB : 0 < B) (hm : 1 ≤ m) (hw : ∀ b, b < B → VB (wl b)) (htot : tot B wl ≤ 12) (t : Nat → List Nat) : ∀ n, 0 < n → n < B → okL m (pass B m ab wl t (2 * n)) ∧ okL m (pass B m ab wl t (2 * n + 1)) := by
  intro n h1 h2
  have hu := up_all hT hB hm hw htot (B - 1) t (by omega) (fun n k1 k2 => by omega)
  have hd := dn_all hT hB hm hw htot (B - 1) 1 _ (by omega) (by omega) ⟨hu, fun n k1 k2 => by omega⟩
  exact ⟨(hd.1 n h1 h2).1, (hd.2 n h1 (by omega)).1⟩
end ROOM
