/-! ===== the reference: the best pair, and its join ===== -/
def bst (w : Nat) : Int32 := if w = 2147483647 then -1 else nI w
def okw (w : Nat) : Prop := w = 2147483647 ∨ w < 1073741824
theorem wst_lt2 (a b : Nat) : wst a b < 1073741824 := by
  have := wst_lt a b
  omega
theorem stepJ_okw {l : List Nat} {acc : Nat × Nat × Nat} {i j : Nat} (h : okw acc.1) : okw (stepJ l acc i j).1 := by
  have hw := wst_lt2 (l.getD i 0) (l.getD j 0)
  unfold stepJ
  split
  · exact Or.inr hw
  · exact h
theorem bst_step {w v : Nat} (hw : okw w) (hv : v < 1073741824) : (bst w = -1 ↔ w = 2147483647) ∧ (w ≠ 2147483647 → (bst w ≤ nI v ↔ w ≤ v)) := by
  unfold bst
  rcases hw with h | h
  · rw [if_pos h]
    exact ⟨⟨fun _ => h, fun _ => rfl⟩, fun q => absurd h q⟩
  · have hne : w ≠ 2147483647 := by omega
    rw [if_neg hne]
    refine ⟨⟨fun q => ?_, fun q => absurd q hne⟩, fun _ => nI_leI (by omega) (by omega)⟩
    have h1 := congrArg Int32.toInt q
    rw [nI_toInt (by omega)] at h1
    have h2 : (-1 : Int32).toInt = -1 := rfl
    omega
theorem hp_bs {α β : Type} {x : α} {σ : hp_H} {k : α → hp_H → Option β} : hp_b (some (x, σ)) k = k x σ := rfl
theorem jIn_s {l : List Nat} {i m j : Nat} {acc : Nat × Nat × Nat} : jIn l i (m + 1) j acc = jIn l i m (j + 1) (stepJ l acc i j) := by rw [jIn]
section MO5
variable {σ : hp_H} {r : Nat} {R : oR}
theorem Mo_j2 {l : List Nat} (hl : VB l) (hn : l.length < 77) (h13 : R.1 13 = nI l.length) (hb : boxAll (R.2 12) l.length (fun i => l.getD i 0)) {i : Nat} (hi : i < l.length) {K : Int32 → Int32 → Int32 → Int32 → hp_H → Option hp_H} : ∀ (m j f : Nat) (acc : Nat × Nat × Nat) (J : Nat → Int32), okw acc.1 → i < j → j + m = l.length → ∃ J', f_Mo_joins_l2 r (nI i) K (f + m + 1) (bst acc.1) (nI acc.2.1) (nI acc.2.2) (nI j) (bk_Mo σ r (sA R 14 J)) = K (bst (jIn l i m j acc).1) (nI (jIn l i m j acc).2.1) (nI (jIn l i m j acc).2.2) (nI l.length) (bk_Mo σ r (sA R 14 J'))
  | 0, j, f, acc, J, ho, hij, h => by
    refine ⟨J, ?_⟩
    rw [f_Mo_joins_l2, Mo_g13, Option.bind_some, sA_1, h13, show j = l.length by omega, if_pos ((nI_leI (by omega) (by omega)).mpr (Nat.le_refl _))]
    rfl
  | m + 1, j, f, acc, J, ho, hij, h => by
    have b1 : bxAt ((sA R 14 J).2 12) i (l.getD i 0) := by rw [sA_ne (by decide)]; exact hb i hi
    have b2 : bxAt ((sA R 14 J).2 12) j (l.getD j 0) := by rw [sA_ne (by decide)]; exact hb j (by omega)
    have v1 := hl _ (getD_mem hi)
    have v2 := hl _ (getD_mem (show j < l.length by omega))
    have hw := wst_lt2 (l.getD i 0) (l.getD j 0)
    have hbs := bst_step ho hw
    rw [f_Mo_joins_l2, Mo_g13, Option.bind_some, sA_1, h13, if_neg (fun q => by have := (nI_leI (by omega) (by omega)).mp q; omega), Mo_wasteOf b1 b2 v1 v2 (by omega) (by omega), hp_bs, sA_A, nI_1]
    have ih := fun acc' ho' J1 => Mo_j2 hl hn h13 hb hi (K := K) m (j + 1) f acc' J1 ho' (by omega) (by omega)
    have hset : (wst (l.getD i 0) (l.getD j 0) < acc.1) → ∃ J', f_Mo_joins_l2 r (nI i) K (f + (m + 1)) (nI (wst (l.getD i 0) (l.getD j 0))) (nI i) (nI j) (nI (j + 1)) (bk_Mo σ r (sA R 14 (wr ((sA R 14 J).2 14) 0 6 (fun u => nI (dgt u (jn (l.getD i 0) (l.getD j 0))))))) = K (bst (jIn l i (m + 1) j acc).1) (nI (jIn l i (m + 1) j acc).2.1) (nI (jIn l i (m + 1) j acc).2.2) (nI l.length) (bk_Mo σ r (sA R 14 J')) := by
      intro hlt
      have es : stepJ l acc i j = (wst (l.getD i 0) (l.getD j 0), i, j) := by
        unfold stepJ
        rw [if_pos hlt]
      have := ih (wst (l.getD i 0) (l.getD j 0), i, j) (Or.inr hw) (wr ((sA R 14 J).2 14) 0 6 (fun u => nI (dgt u (jn (l.getD i 0) (l.getD j 0)))))
      have eb : bst (wst (l.getD i 0) (l.getD j 0)) = nI (wst (l.getD i 0) (l.getD j 0)) := by
        unfold bst
        rw [if_neg (by omega)]
      rw [jIn_s, es, ← eb]
      exact this
    by_cases h1 : acc.1 = 2147483647
    · rw [if_pos (hbs.1.mpr h1)]
      exact hset (by omega)
    · rw [if_neg (fun q => h1 (hbs.1.mp q))]
      by_cases h2 : acc.1 ≤ wst (l.getD i 0) (l.getD j 0)
      · rw [if_pos ((hbs.2 h1).mpr h2)]
        have es : stepJ l acc i j = acc := by
          unfold stepJ
          rw [if_neg (by omega)]
        have := ih acc ho (wr ((sA R 14 J).2 14) 0 6 (fun u => nI (dgt u (jn (l.getD i 0) (l.getD j 0)))))
        rw [jIn_s, es]
        exact this
      · rw [if_neg (fun q => h2 ((hbs.2 h1).mp q))]
        exact hset (by omega)
theorem jIn_okw {l : List Nat} {i : Nat} : ∀ (m j : Nat) (acc : Nat × Nat × Nat), okw acc.1 → okw (jIn l i m j acc).1
  | 0, _, _, h => h
  | m + 1, j, acc, h => by
    have h1 := stepJ_okw (l := l) (i := i) (j := j) h
    rw [jIn_s]
    exact jIn_okw m (j + 1) _ h1
theorem Mo_j1 {l : List Nat} (hl : VB l) (hn : l.length < 77) (h13 : R.1 13 = nI l.length) (hb : boxAll (R.2 12) l.length (fun i => l.getD i 0)) {K : Int32 → Int32 → Int32 → Int32 → hp_H → Option hp_H} : ∀ (m i f : Nat) (acc : Nat × Nat × Nat) (J : Nat → Int32), okw acc.1 → i + m = l.length → ∃ J', f_Mo_joins_l1 r K (f + m + 1) (bst acc.1) (nI acc.2.1) (nI acc.2.2) (nI i) (bk_Mo σ r (sA R 14 J)) = K (bst (jOut l m i acc).1) (nI (jOut l m i acc).2.1) (nI (jOut l m i acc).2.2) (nI l.length) (bk_Mo σ r (sA R 14 J'))
  | 0, i, f, acc, J, ho, h => by
    refine ⟨J, ?_⟩
    rw [f_Mo_joins_l1, Mo_g13, Option.bind_some, sA_1, h13, show i = l.length by omega, if_pos ((nI_leI (by omega) (by omega)).mpr (Nat.le_refl _))]
    rfl
  | m + 1, i, f, acc, J, ho, h => by
    rw [f_Mo_joins_l1, Mo_g13, Option.bind_some, sA_1, h13, if_neg (fun q => by have := (nI_leI (by omega) (by omega)).mp q; omega), nI_1]
    obtain ⟨g, hg⟩ := hp_fu (l.length - (i + 1) + 1) (by omega)
    obtain ⟨J1, e1⟩ := Mo_j2 (σ := σ) (r := r) hl hn h13 hb (i := i) (by omega) (K := fun z9 z10 z11 z12 σ => f_Mo_joins_l1 r K (f + (m + 1)) z9 z10 z11 (nI (i + 1)) σ) (l.length - (i + 1)) (i + 1) g acc J ho (by omega) (by omega)
    have hg' : g + (l.length - (i + 1)) + 1 = hp_F := hg.symm
    rw [hg'] at e1
    obtain ⟨J2, e2⟩ := Mo_j1 hl hn h13 hb (K := K) m (i + 1) f (jIn l i (l.length - (i + 1)) (i + 1) acc) J1 (jIn_okw _ _ _ ho) (by omega)
    exact ⟨J2, e1.trans e2⟩
theorem Mo_j3 {k : Nat} (hk : k < 79) (h13 : R.1 13 = nI k) {K : Int32 → hp_H → Option hp_H} {A : Nat → Int32} : ∀ (m t n : Nat), t + m = 6 → f_Mo_joins_l3 r K (n + m + 1) (nI t) (bk_Mo σ r (sA R 12 (wr A (6 * k) t (R.2 14)))) = K (nI 6) (bk_Mo σ r (sA R 12 (wr A (6 * k) 6 (R.2 14))))
  | 0, t, n, h => by
    rw [show t = 6 by omega, f_Mo_joins_l3, if_pos (by decide)]
  | m + 1, t, n, h => by
    rw [f_Mo_joins_l3, if_neg (by rw [il_6, nI_leI (by omega) (by omega)]; omega), Mo_g12, Option.bind_some, Mo_g13, Option.bind_some, Mo_g14, Option.bind_some, sA_1, h13, Mo_a14 (by omega), Option.bind_some, sA_ne (by decide), il_6, pk_mul, nI_add, Mo_s12 (by omega), Option.bind_some, nI_1]
    have e : (((sA R 12 (wr A (6 * k) t (R.2 14))).1, up2 (sA R 12 (wr A (6 * k) t (R.2 14))).2 12 (6 * k + t) (R.2 14 t)) : oR) = sA R 12 (wr A (6 * k) (t + 1) (R.2 14)) := by
      show sA (sA R 12 (wr A (6 * k) t (R.2 14))) 12 (upd ((sA R 12 (wr A (6 * k) t (R.2 14))).2 12) (6 * k + t) (R.2 14 t)) = _
      rw [sA_A, sA_at, wr_s]
    rw [e]
    exact Mo_j3 hk h13 m (t + 1) n (by omega)
theorem Mo_joins {l : List Nat} (hl : VB l) (hn : l.length < 77) (h2 : 2 ≤ l.length) (h13 : R.1 13 = nI l.length) (hb : boxAll (R.2 12) l.length (fun i => l.getD i 0)) : ∃ R', f_Mo_joins r (bk_Mo σ r R) = some (bk_Mo σ r R') ∧ kps R R' [13] [12, 14] ∧ R'.1 13 = nI (addB (bestJ l) l).length ∧ boxAll (R'.2 12) (addB (bestJ l) l).length (fun i => (addB (bestJ l) l).getD i 0) := by
  obtain ⟨-, p1, p2⟩ := bestP_ok h2
  obtain ⟨f, hf⟩ := hp_fu (l.length + 1) (by omega)
  have hf' : f + l.length + 1 = hp_F := hf.symm
  unfold f_Mo_joins
  rw [Mo_own]
  obtain ⟨J1, e1⟩ := Mo_j1 (σ := σ) (r := r) hl hn h13 hb (K := fun z13 z14 z15 z16 σ => hp_b (f_Mo_wasteOf r z14 z15 σ) fun v18 σ => f_Mo_joins_l3 r (fun z24 σ => (f_Mo_comes r σ).bind fun σ => some σ) hp_F 0 σ) l.length 0 f (2147483647, 0, 1) (R.2 14) (Or.inl rfl) (by omega)
  rw [sA_self, hf'] at e1
  have ei : bst 2147483647 = -1 := by
    unfold bst
    rw [if_pos rfl]
  rw [ei] at e1
  have b1 : bxAt ((sA R 14 J1).2 12) (bestP l).2.1 (l.getD (bestP l).2.1 0) := by rw [sA_ne (by decide)]; exact hb _ (by omega)
  have b2 : bxAt ((sA R 14 J1).2 12) (bestP l).2.2 (l.getD (bestP l).2.2 0) := by rw [sA_ne (by decide)]; exact hb _ p2
  have v1 := hl _ (getD_mem (show (bestP l).2.1 < l.length by omega))
  have v2 := hl _ (getD_mem p2)
  have w1 := Mo_wasteOf (σ := σ) (r := r) b1 b2 v1 v2 (by omega) (by omega)
  rw [sA_A, sA_at] at w1
  generalize hJ2 : wr J1 0 6 (fun u => nI (dgt u (jn (l.getD (bestP l).2.1 0) (l.getD (bestP l).2.2 0)))) = J2 at w1
  obtain ⟨n6, hn6⟩ := hp_fu 7 (by decide)
  have j3 := Mo_j3 (σ := σ) (r := r) (R := sA R 14 J2) (k := l.length) (by omega) h13 (K := fun z24 σ => (f_Mo_comes r σ).bind fun σ => some σ) (A := R.2 12) 6 0 n6 (by decide)
  have hn6' : n6 + 6 + 1 = hp_F := hn6.symm
  rw [wr_0, hn6'] at j3
  have es : sA (sA R 14 J2) 12 (R.2 12) = sA R 14 J2 := by
    have := sA_self (R := sA R 14 J2) (j := 12)
    rw [sA_ne (by decide)] at this
    exact this
  rw [es] at j3
  generalize hR3 : sA (sA R 14 J2) 12 (wr (R.2 12) (6 * l.length) 6 ((sA R 14 J2).2 14)) = R3 at j3
  have k3 : kps R R3 [13] [12, 14] := by
    rw [← hR3]
    exact kps_tr (kps_A (by decide)) (kps_A (by decide))
  have h3 : R3.1 13 = nI l.length := by rw [← hR3]; exact h13
  have hb3 : boxAll (R3.2 12) l.length (fun i => l.getD i 0) := by
    intro i hi t ht
    rw [← hR3, sA_at, wr_out (by omega)]
    exact hb i hi t ht
  have hx3 : bxAt (R3.2 12) l.length (bestJ l) := by
    intro t ht
    rw [← hR3, sA_at, wr_in ht, sA_at, ← hJ2]
    have := wr_in (A := J1) (base := 0) (m := 6) (g := fun u => nI (dgt u (jn (l.getD (bestP l).2.1 0) (l.getD (bestP l).2.2 0)))) ht
    rw [Nat.zero_add] at this
    have hbj : bestJ l = jn (l.getD (bestP l).2.1 0) (l.getD (bestP l).2.2 0) := by unfold bestJ; rfl
    rw [this, hbj]
  obtain ⟨R4, c1, c2, c3, c4⟩ := Mo_comes (σ := σ) (r := r) (bestJ_vb hl h2) hl hn h3 hb3 hx3
  refine ⟨R4, e1.trans ?_, kps_tr k3 (kps_mono c2 (fun _ h => h) (fun j h => by rw [List.mem_singleton.mp h]; decide)), c3, c4⟩
  show hp_b (f_Mo_wasteOf r (nI (bestP l).2.1) (nI (bestP l).2.2) (bk_Mo σ r (sA R 14 J1))) _ = _
  rw [w1, hp_bs]
  refine j3.trans ?_
  rw [c1, Option.bind_some]
end MO5
