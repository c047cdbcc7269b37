/-! ===== the reference: puts ===== -/
/-- places of the row on which the lists rest -/
def rel (j : Nat) : Prop := j ≤ 3 ∨ (8 ≤ j ∧ j < 16) ∨ (170 ≤ j ∧ j < 254) ∨ ∃ c, c < 6 ∧ j = 16 + 25 * c
theorem TL_congr {s s' : Nat → Int32} (h : ∀ j, rel j → s' j = s j) : TL s' = TL s ∧ nB s' = nB s ∧ nC s' = nC s ∧ nW s' = nW s ∧ nM s' = nM s ∧ abS s' = abS s ∧ home s' = home s ∧ ownr s' = ownr s ∧ wbx s' = wbx s := by
  have e0 : nB s' = nB s := by unfold nB; rw [h 0 (Or.inl (by decide))]
  have e1 : nC s' = nC s := by unfold nC; rw [h 1 (Or.inl (by decide))]
  have e2 : nW s' = nW s := by unfold nW; rw [h 2 (Or.inl (by decide))]
  have e3 : nM s' = nM s := by unfold nM; rw [h 3 (Or.inl (by decide))]
  have e4 : abS s' = abS s := by
    funext b
    unfold abS
    split
    · rw [h (8 + b) (Or.inr (Or.inl (by omega)))]
    · rfl
  have e5 : home s' = home s := by
    funext c
    unfold home
    split
    · rename_i hc
      rw [h (16 + 25 * c) (Or.inr (Or.inr (Or.inr ⟨c, hc, rfl⟩)))]
    · rfl
  have e6 : ownr s' = ownr s := by
    funext w
    unfold ownr
    split
    · rw [h (170 + 7 * w) (Or.inr (Or.inr (Or.inl (by omega))))]
    · rfl
  have e7 : wbx s' = wbx s := by
    funext w
    unfold wbx
    split
    · rw [h (171 + 7 * w) (Or.inr (Or.inr (Or.inl (by omega)))), h (172 + 7 * w) (Or.inr (Or.inr (Or.inl (by omega)))), h (173 + 7 * w) (Or.inr (Or.inr (Or.inl (by omega)))), h (174 + 7 * w) (Or.inr (Or.inr (Or.inl (by omega)))), h (175 + 7 * w) (Or.inr (Or.inr (Or.inl (by omega)))), h (176 + 7 * w) (Or.inr (Or.inr (Or.inl (by omega))))]
    · rfl
  have e8 : wlS s' = wlS s := by
    have key : ∀ (b m w : Nat), wlF s' b m w = wlF s b m w := by
      intro b m
      induction m with
      | zero => intro w; rfl
      | succ m ih =>
        intro w
        rw [wlF, wlF, ih, e5, e6, e7]
    funext b
    unfold wlS
    rw [key, e2]
  refine ⟨?_, e0, e1, e2, e3, e4, e5, e6, e7⟩
  unfold TL
  rw [e0, e3, e4, e8]
theorem agr_congr {s s' : Nat → Int32} (h : ∀ j, rel j → s' j = s j) {tab : Nat → List Nat} (ha : agr s tab) : agr s' tab := by
  obtain ⟨e1, e2, -⟩ := TL_congr h
  unfold agr
  rw [e1, e2]
  exact ha
def stS (G : Nat) (n : Int32) (c : Nat) (s : Nat → Int32) : Nat → Int32 := if G.testBit c = true then (if s (17 + 25 * c) = 1 then lgS c n s else wtS c n s) else s
def ptF (G : Nat) (n : Int32) : Nat → Nat → (Nat → Int32) → Nat → Int32
  | 0, _, s => s
  | m + 1, c, s => ptF G n m (c + 1) (stS G n c s)
def putS (s : Nat → Int32) (c G V : Nat) : Nat → Int32 := upd (upd (upd (ptF G (s 4) (nC s) 0 s) 4 (s 4 + 1)) 5 (s 5 + nI c)) 6 (s 6 + nI (pcF 7 V))
theorem lgS_out {c : Nat} {n : Int32} {s : Nat → Int32} {j : Nat} (h : j < 18 + 25 * c ∨ 33 + 25 * c ≤ j ∨ j = 19 + 25 * c ∨ j = 20 + 25 * c) : lgS c n s j = s j := by
  unfold lgS upd shU
  rw [if_neg (by omega), if_neg (by omega), if_neg (by omega)]
theorem wtS_out {c : Nat} {n : Int32} {s : Nat → Int32} {j : Nat} (hk : kpt s c ≤ 8) (h8 : s (20 + 25 * c) = nI (kpt s c)) (h : j < 19 + 25 * c ∨ 41 + 25 * c ≤ j ∨ (21 + 25 * c ≤ j ∧ j < 33 + 25 * c)) : wtS c n s j = s j := by
  unfold wtS
  split
  · unfold upd shD
    rw [if_neg (by omega), if_neg (by omega), if_neg (by omega), if_neg (by omega), if_neg (by omega)]
  · rename_i hn
    have k8 : kpt s c ≠ 8 := fun q => hn (by rw [h8, q]; rfl)
    unfold upd
    rw [if_neg (by omega), if_neg (by omega)]
theorem stS_out {G c : Nat} {n : Int32} {s : Nat → Int32} {j : Nat} (hk : kpt s c ≤ 8) (h8 : s (20 + 25 * c) = nI (kpt s c)) (h : j < 18 + 25 * c ∨ 41 + 25 * c ≤ j) : stS G n c s j = s j := by
  unfold stS
  split
  · split
    · exact lgS_out (by omega)
    · exact wtS_out hk h8 (by omega)
  · rfl
section MO13
variable {σ : hp_H} {r : Nat}
theorem Mo_pt1 {s : Nat → Int32} (hs : Wf s) {G : Nat} (hG : G < 2 ^ 7) {K : Int32 → hp_H → Option (Int32 × hp_H)} : ∀ (m k f : Nat) (R : oR) (s' : Nat → Int32), k + m = nC s → R.2 0 = s' → (∀ j, j < 16 ∨ 16 + 25 * k ≤ j → s' j = s j) → R.1 16 = nI G → f_Mo_puts_l1 r K (f + m + 1) (nI k) (bk_Mo σ r R) = K (nI (nC s)) (bk_Mo σ r (sA R 0 (ptF G (s 4) m k s')))
  | 0, k, f, R, s', hk, h0, hj, h16 => by
    have hC6 := hs.2.1.1.2
    have e1 : hp_aI (bk_Mo σ r R) (r + 1) 0 1 = some (nI (nC s)) := by rw [← hs.2.1.1.1, ← hj 1 (by omega), ← h0]; exact Mo_a0 (i := 1) (by decide)
    have es : sA R 0 s' = R := by rw [← h0]; exact sA_self
    rw [f_Mo_puts_l1, Mo_g0, Option.bind_some, e1, Option.bind_some, show k = nC s by omega, if_pos ((nI_leI (by omega) (by omega)).mpr (Nat.le_refl _)), ptF, es]
  | m + 1, k, f, R, s', hk, h0, hj, h16 => by
    have hC6 := hs.2.1.1.2
    obtain ⟨-, pr, k1, k2⟩ := hs.2.1.2 k (by omega)
    have e1 : hp_aI (bk_Mo σ r R) (r + 1) 0 1 = some (nI (nC s)) := by rw [← hs.2.1.1.1, ← hj 1 (by omega), ← h0]; exact Mo_a0 (i := 1) (by decide)
    have e4 : hp_aI (bk_Mo σ r R) (r + 1) 0 4 = some (s 4) := by rw [← hj 4 (by omega), ← h0]; exact Mo_a0 (i := 4) (by decide)
    have eo : f_Mo_of r (nI k) 1 (bk_Mo σ r R) = some (s (17 + 25 * k)) := by
      have := Mo_of (σ := σ) (r := r) (R := R) (c := k) (k := 1) (by omega)
      rw [h0, show 16 + 25 * k + 1 = 17 + 25 * k by omega, hj _ (by omega)] at this
      exact this
    have hkp : kpt s' k = kpt s k := by unfold kpt; rw [hj _ (by omega)]
    have k1' : s' (20 + 25 * k) = nI (kpt s' k) := by rw [hj _ (by omega), hkp]; exact k1
    have k2' : kpt s' k ≤ 8 := by rw [hkp]; exact k2
    have hlt : ¬ nI (nC s) ≤ nI k := fun q => by have := (nI_leI (by omega) (by omega)).mp q; omega
    have ih := fun (R1 : oR) (h16' : R1.1 16 = nI G) (hR1 : R1.2 0 = stS G (s 4) k s') => Mo_pt1 hs hG (K := K) m (k + 1) f R1 _ (by omega) hR1 (fun j hjj => by rw [stS_out k2' k1' (by omega)]; exact hj j (by omega)) h16'
    rw [f_Mo_puts_l1]
    simp only [Mo_g0, Option.bind_some, e1]
    rw [if_neg hlt]
    simp only [Mo_g16, Option.bind_some, h16, eo, e4, nI_1]
    have est : ∀ s2 : Nat → Int32, stS G (s 4) k s' = s2 → ∀ R1 : oR, R1 = sA R 0 s2 → f_Mo_puts_l1 r K (f + (m + 1)) (nI (k + 1)) (bk_Mo σ r R1) = K (nI (nC s)) (bk_Mo σ r (sA R 0 (ptF G (s 4) (m + 1) k s'))) := by
      intro s2 h2 R1 hR1
      have := ih R1 (by rw [hR1]; exact h16) (by rw [hR1, sA_at, h2])
      rw [ptF]
      rw [hR1, sA_A] at this
      rw [hR1]
      exact this
    by_cases g1 : G.testBit k = true
    · rw [if_pos ((bit_1 (by omega) (by omega)).mpr g1)]
      by_cases g2 : s (17 + 25 * k) = 1
      · rw [if_pos g2, Mo_logs (by omega) h0, Option.bind_some]
        refine est _ ?_ _ rfl
        unfold stS
        rw [if_pos g1, if_pos (by rw [hj _ (by omega)]; exact g2)]
      · rw [if_neg g2, if_pos ((bit_1 (by omega) (by omega)).mpr g1), Mo_waits (by omega) h0 ⟨k1', k2'⟩, Option.bind_some]
        refine est _ ?_ _ rfl
        unfold stS
        rw [if_pos g1, if_neg (by rw [hj _ (by omega)]; exact g2)]
    · rw [if_neg (fun q => g1 ((bit_1 (by omega) (by omega)).mp q)), if_neg (fun q => g1 ((bit_1 (by omega) (by omega)).mp q))]
      refine est s' ?_ R ?_
      · unfold stS
        rw [if_neg g1]
      · rw [← h0]
        exact sA_self.symm
end MO13
