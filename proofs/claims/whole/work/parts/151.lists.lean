/-! ===== lists of boxes: a box comes; two are joined; as many as may be told ===== -/
/-- where a box goes, from the end on: behind the last that isn't above it -/
def insP (x : Nat) (l : List Nat) : Nat → Nat
  | 0 => 0
  | k + 1 => if x < l.getD k 0 then insP x l k else k + 1
def insR (x : Nat) (l : List Nat) : List Nat := l.take (insP x l l.length) ++ x :: l.drop (insP x l l.length)
def addB (x : Nat) (l : List Nat) : List Nat := if l.any (fun y => cov y x) = true then l else insR x (l.filter (fun y => !cov x y))
/-- the pair by which least is wasted: its waste, its places; none yet: 2147483647, 0, 1 -/
def stepJ (l : List Nat) (acc : Nat × Nat × Nat) (i j : Nat) : Nat × Nat × Nat := if wst (l.getD i 0) (l.getD j 0) < acc.1 then (wst (l.getD i 0) (l.getD j 0), i, j) else acc
def jIn (l : List Nat) (i : Nat) : Nat → Nat → Nat × Nat × Nat → Nat × Nat × Nat
  | 0, _, acc => acc
  | m + 1, j, acc => jIn l i m (j + 1) (stepJ l acc i j)
def jOut (l : List Nat) : Nat → Nat → Nat × Nat × Nat → Nat × Nat × Nat
  | 0, _, acc => acc
  | m + 1, i, acc => jOut l m (i + 1) (jIn l i (l.length - (i + 1)) (i + 1) acc)
def bestP (l : List Nat) : Nat × Nat × Nat := jOut l l.length 0 (2147483647, 0, 1)
def bestJ (l : List Nat) : Nat := jn (l.getD (bestP l).2.1 0) (l.getD (bestP l).2.2 0)
def redu (m : Nat) : Nat → List Nat → List Nat
  | 0, l => l
  | k + 1, l => if m < l.length then redu m k (addB (bestJ l) l) else l
abbrev apart (a b : Nat) : Prop := cov a b = false ∧ cov b a = false
abbrev AC (l : List Nat) : Prop := l.Pairwise apart
abbrev VB (l : List Nat) : Prop := ∀ x ∈ l, vb x
theorem insP_le (x : Nat) (l : List Nat) : ∀ k, insP x l k ≤ k
  | 0 => Nat.le_refl 0
  | k + 1 => by
    unfold insP
    split
    · exact Nat.le_succ_of_le (insP_le x l k)
    · exact Nat.le_refl _
theorem insR_len (x : Nat) (l : List Nat) : (insR x l).length = l.length + 1 := by
  have h := insP_le x l l.length
  unfold insR
  simp only [List.length_append, List.length_take, List.length_cons, List.length_drop]
  omega
theorem insR_mem {x y : Nat} {l : List Nat} : y ∈ insR x l ↔ y = x ∨ y ∈ l := by
  have h : y ∈ l ↔ y ∈ l.take (insP x l l.length) ∨ y ∈ l.drop (insP x l l.length) := by
    rw [← List.mem_append, List.take_append_drop]
  unfold insR
  rw [List.mem_append, List.mem_cons, h]
  constructor
  · rintro (h | h | h)
    · exact Or.inr (Or.inl h)
    · exact Or.inl h
    · exact Or.inr (Or.inr h)
  · rintro (h | h | h)
    · exact Or.inr (Or.inl h)
    · exact Or.inl h
    · exact Or.inr (Or.inr h)
theorem insR_ac {x : Nat} {l : List Nat} (h : AC l) (hx : ∀ y ∈ l, apart x y) : AC (insR x l) := by
  have e : l = l.take (insP x l l.length) ++ l.drop (insP x l l.length) := (List.take_append_drop _ _).symm
  generalize hk : insP x l l.length = k at e
  have h' : (l.take k ++ l.drop k).Pairwise apart := by rw [← e]; exact h
  rw [List.pairwise_append] at h'
  unfold insR
  rw [hk]
  show (l.take k ++ x :: l.drop k).Pairwise apart
  rw [List.pairwise_append, List.pairwise_cons]
  refine ⟨h'.1, ⟨fun y hy => hx y (List.mem_of_mem_drop hy), h'.2.1⟩, fun a ha b hb => ?_⟩
  rcases List.mem_cons.mp hb with rfl | hb
  · exact ⟨(hx a (List.mem_of_mem_take ha)).2, (hx a (List.mem_of_mem_take ha)).1⟩
  · exact h'.2.2 a ha b hb
theorem addB_vb {x : Nat} {l : List Nat} (hx : vb x) (h : VB l) : VB (addB x l) := by
  unfold addB
  split
  · exact h
  · intro y hy
    rcases insR_mem.mp hy with rfl | hy
    · exact hx
    · exact h y (List.mem_filter.mp hy).1
theorem addB_ac {x : Nat} {l : List Nat} (h : AC l) : AC (addB x l) := by
  unfold addB
  split
  · exact h
  · rename_i hn
    refine insR_ac (h.sublist (List.filter_sublist)) (fun y hy => ?_)
    obtain ⟨h1, h2⟩ := List.mem_filter.mp hy
    refine ⟨by simpa using h2, ?_⟩
    cases hc : cov y x with
    | false => rfl
    | true => exact absurd (List.any_eq_true.mpr ⟨y, h1, hc⟩) hn
theorem addB_len (x : Nat) (l : List Nat) : (addB x l).length ≤ l.length + 1 := by
  unfold addB
  split
  · omega
  · rw [insR_len]
    exact Nat.succ_le_succ (List.length_filter_le _ _)
/-- two at different places that go, leave at most two less -/
theorem filt_two : ∀ (l : List Nat) (p : Nat → Bool) (i j : Nat), i < j → j < l.length → p (l.getD i 0) = false → p (l.getD j 0) = false → (l.filter p).length + 2 ≤ l.length
  | [], _, _, _, _, h, _, _ => by simp at h
  | a :: l, p, i, j, hij, hj, h1, h2 => by
    cases i with
    | zero =>
      have h1 : p a = false := h1
      rw [List.filter_cons_of_neg (by rw [h1]; decide)]
      cases j with
      | zero => omega
      | succ j =>
        have h2 : p (l.getD j 0) = false := h2
        have hl : j < l.length := by simpa using hj
        have key : ∀ (l : List Nat) (j : Nat), j < l.length → p (l.getD j 0) = false → (l.filter p).length + 1 ≤ l.length := by
          intro l
          induction l with
          | nil => intro j hj; simp at hj
          | cons b l ih =>
            intro j hj hp
            cases j with
            | zero =>
              have hp : p b = false := hp
              rw [List.filter_cons_of_neg (by rw [hp]; decide)]
              exact Nat.succ_le_succ (List.length_filter_le _ _)
            | succ j =>
              have := ih j (by simpa using hj) hp
              by_cases hb : p b = true
              · rw [List.filter_cons_of_pos hb]
                simp only [List.length_cons]
                omega
              · rw [List.filter_cons_of_neg hb]
                simp only [List.length_cons]
                omega
        have := key l j hl h2
        simp only [List.length_cons]
        omega
    | succ i =>
      cases j with
      | zero => omega
      | succ j =>
        have := filt_two l p i j (by omega) (by simpa using hj) h1 h2
        by_cases hb : p a = true
        · rw [List.filter_cons_of_pos hb]
          simp only [List.length_cons]
          omega
        · rw [List.filter_cons_of_neg hb]
          simp only [List.length_cons]
          omega
/-- the best pair: two places, the first below the second -/
def okP (l : List Nat) (acc : Nat × Nat × Nat) : Prop := acc = (2147483647, 0, 1) ∨ (acc.1 = wst (l.getD acc.2.1 0) (l.getD acc.2.2 0) ∧ acc.2.1 < acc.2.2 ∧ acc.2.2 < l.length)
theorem stepJ_ok {l : List Nat} {acc : Nat × Nat × Nat} {i j : Nat} (h : okP l acc) (hij : i < j) (hj : j < l.length) : okP l (stepJ l acc i j) := by
  unfold stepJ
  split
  · exact Or.inr ⟨rfl, hij, hj⟩
  · exact h
theorem stepJ_set {l : List Nat} {acc : Nat × Nat × Nat} {i j : Nat} : (stepJ l acc i j).1 < 2147483647 := by
  have h := wst_lt (l.getD i 0) (l.getD j 0)
  unfold stepJ
  split
  · show wst _ _ < _
    omega
  · rename_i hn
    omega
theorem jIn_ok {l : List Nat} {i : Nat} : ∀ (m j : Nat) (acc : Nat × Nat × Nat), okP l acc → i < j → j + m = l.length → okP l (jIn l i m j acc)
  | 0, _, _, h, _, _ => h
  | m + 1, j, acc, h, hij, hj => by
    have h1 : okP l (stepJ l acc i j) := stepJ_ok h hij (by omega)
    unfold jIn
    generalize stepJ l acc i j = acc2 at h1 ⊢
    exact jIn_ok m (j + 1) acc2 h1 (by omega) (by omega)
theorem jIn_keep {l : List Nat} {i : Nat} : ∀ (m j : Nat) (acc : Nat × Nat × Nat), acc.1 < 2147483647 → (jIn l i m j acc).1 < 2147483647
  | 0, _, _, h => h
  | m + 1, j, acc, _ => by
    have h1 : (stepJ l acc i j).1 < 2147483647 := stepJ_set
    unfold jIn
    generalize stepJ l acc i j = acc2 at h1 ⊢
    exact jIn_keep m (j + 1) acc2 h1
theorem jIn_set {l : List Nat} {i : Nat} (m j : Nat) (acc : Nat × Nat × Nat) : (jIn l i (m + 1) j acc).1 < 2147483647 := by
  have h1 : (stepJ l acc i j).1 < 2147483647 := stepJ_set
  unfold jIn
  generalize stepJ l acc i j = acc2 at h1 ⊢
  exact jIn_keep m (j + 1) acc2 h1
theorem jOut_ok {l : List Nat} : ∀ (m i : Nat) (acc : Nat × Nat × Nat), okP l acc → i + m = l.length → okP l (jOut l m i acc)
  | 0, _, _, h, _ => h
  | m + 1, i, acc, h, hi => by
    have h1 := jIn_ok (i := i) (l.length - (i + 1)) (i + 1) acc h (by omega) (by omega)
    unfold jOut
    generalize jIn l i (l.length - (i + 1)) (i + 1) acc = acc2 at h1 ⊢
    exact jOut_ok m (i + 1) acc2 h1 (by omega)
theorem jOut_keep {l : List Nat} : ∀ (m i : Nat) (acc : Nat × Nat × Nat), acc.1 < 2147483647 → (jOut l m i acc).1 < 2147483647
  | 0, _, _, h => h
  | m + 1, i, acc, h => by
    have h1 := jIn_keep (l := l) (i := i) (l.length - (i + 1)) (i + 1) acc h
    unfold jOut
    generalize jIn l i (l.length - (i + 1)) (i + 1) acc = acc2 at h1 ⊢
    exact jOut_keep m (i + 1) acc2 h1
theorem bestP_ok {l : List Nat} (h : 2 ≤ l.length) : (bestP l).1 = wst (l.getD (bestP l).2.1 0) (l.getD (bestP l).2.2 0) ∧ (bestP l).2.1 < (bestP l).2.2 ∧ (bestP l).2.2 < l.length := by
  have h1 : okP l (bestP l) := jOut_ok l.length 0 _ (Or.inl rfl) (by omega)
  have h2 : (bestP l).1 < 2147483647 := by
    unfold bestP
    obtain ⟨m, hm⟩ : ∃ m, l.length = m + 2 := ⟨l.length - 2, by omega⟩
    rw [hm]
    show (jOut l (m + 1) 1 (jIn l 0 (l.length - (0 + 1)) (0 + 1) _)).1 < _
    rw [show l.length - (0 + 1) = m + 1 by omega]
    exact jOut_keep _ _ _ (jIn_set _ _ _)
  rcases h1 with h1 | h1
  · rw [h1] at h2
    exact absurd h2 (Nat.lt_irrefl _)
  · exact h1
theorem gd_at {l : List Nat} {i : Nat} (h : i < l.length) : l.getD i 0 = l[i] := (List.getElem_eq_getD 0).symm
theorem getD_mem {l : List Nat} {i : Nat} (h : i < l.length) : l.getD i 0 ∈ l := by
  rw [gd_at h]
  exact List.getElem_mem h
theorem bestJ_vb {l : List Nat} (hv : VB l) (h : 2 ≤ l.length) : vb (bestJ l) := by
  obtain ⟨-, h1, h2⟩ := bestP_ok h
  exact jn_vb (hv _ (getD_mem (by omega))) (hv _ (getD_mem h2))
theorem ac_at {l : List Nat} (h : AC l) {i j : Nat} (hij : i < j) (hj : j < l.length) : apart (l.getD i 0) (l.getD j 0) := by
  rw [gd_at (by omega : i < l.length), gd_at hj]
  exact List.pairwise_iff_getElem.mp h i j (by omega) hj hij
theorem join_len {l : List Nat} (ha : AC l) (h : 2 ≤ l.length) : (addB (bestJ l) l).length < l.length := by
  obtain ⟨-, h1, h2⟩ := bestP_ok h
  have hc := cov_jn (l.getD (bestP l).2.1 0) (l.getD (bestP l).2.2 0)
  have hab := ac_at ha h1 h2
  unfold addB
  split
  · rename_i hany
    obtain ⟨y, hy, hcy⟩ := List.any_eq_true.mp hany
    have c1 := cov_tr hcy hc.1
    have c2 := cov_tr hcy hc.2
    obtain ⟨k, hk, rfl⟩ := List.mem_iff_getElem.mp hy
    have ek : l[k] = l.getD k 0 := (gd_at hk).symm
    rw [ek] at c1 c2
    rcases Nat.lt_trichotomy k (bestP l).2.1 with h3 | h3 | h3
    · have := (ac_at ha h3 (by omega)).1
      rw [c1] at this
      cases this
    · rw [h3] at c2
      have := hab.1
      rw [c2] at this
      cases this
    · have := (ac_at ha h3 hk).2
      rw [c1] at this
      cases this
  · rw [insR_len]
    have := filt_two l (fun y => !cov (bestJ l) y) _ _ h1 h2 (by simp only [Bool.not_eq_false']; exact hc.1) (by simp only [Bool.not_eq_false']; exact hc.2)
    omega
theorem redu_ok (m : Nat) (hm : 1 ≤ m) : ∀ (k : Nat) (l : List Nat), AC l → VB l → l.length ≤ k + m → AC (redu m k l) ∧ VB (redu m k l) ∧ (redu m k l).length ≤ m ∧ (redu m k l).length ≤ l.length
  | 0, l, ha, hv, h => ⟨ha, hv, by unfold redu; omega, Nat.le_refl _⟩
  | k + 1, l, ha, hv, h => by
    unfold redu
    split
    · have hl := join_len ha (by omega)
      obtain ⟨r1, r2, r3, r4⟩ := redu_ok m hm k (addB (bestJ l) l) (addB_ac ha) (addB_vb (bestJ_vb hv (by omega)) hv) (by omega)
      exact ⟨r1, r2, r3, by omega⟩
    · exact ⟨ha, hv, by omega, Nat.le_refl _⟩
/-- more turns change nothing -/
theorem redu_more (m : Nat) (hm : 1 ≤ m) : ∀ (k k' : Nat) (l : List Nat), AC l → l.length ≤ k + m → k ≤ k' → redu m k' l = redu m k l
  | 0, k', l, ha, h, hk => by
    cases k' with
    | zero => rfl
    | succ k' =>
      unfold redu
      rw [if_neg (by omega)]
  | k + 1, k', l, ha, h, hk => by
    cases k' with
    | zero => omega
    | succ k' =>
      unfold redu
      split
      · have hl := join_len ha (by omega)
        exact redu_more m hm k k' _ (addB_ac ha) (by omega) (by omega)
      · rfl
def adds (xs l : List Nat) : List Nat := xs.foldl (fun l x => addB x l) l
theorem adds_ok : ∀ (xs l : List Nat), AC l → VB l → VB xs → AC (adds xs l) ∧ VB (adds xs l) ∧ (adds xs l).length ≤ l.length + xs.length
  | [], l, h1, h2, _ => ⟨h1, h2, Nat.le_refl _⟩
  | x :: xs, l, h1, h2, h3 => by
    obtain ⟨a, b, c⟩ := adds_ok xs (addB x l) (addB_ac h1) (addB_vb (h3 x List.mem_cons_self) h2) (fun y hy => h3 y (List.mem_cons_of_mem _ hy))
    have := addB_len x l
    exact ⟨a, b, by show (adds xs (addB x l)).length ≤ l.length + (xs.length + 1); omega⟩
theorem adds_app (xs ys l : List Nat) : adds (xs ++ ys) l = adds ys (adds xs l) := by
  unfold adds
  exact List.foldl_append
