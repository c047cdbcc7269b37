/-! ===== the reference: client, come, put ===== -/
def cliS (s : Nat → Int32) (b : Nat) : Nat → Int32 := upd (upd (upd (wr s (16 + 25 * nC s) 25 (fun _ => 0)) (16 + 25 * nC s) (nI b)) (17 + 25 * nC s) 1) 1 (nI (nC s + 1))
/-- kept notices come into the log, from number i on, m of them -/
def cmF (c : Nat) : Nat → Nat → (Nat → Int32) → Nat → Int32
  | 0, _, s => s
  | m + 1, i, s => cmF c m (i + 1) (lgS c (s (33 + 25 * c + i)) s)
def comS (s : Nat → Int32) (c b : Nat) : Nat → Int32 := upd (upd (upd (cmF c (kpt s c) 0 s) (20 + 25 * c) 0) (16 + 25 * c) (nI b)) (17 + 25 * c) 1
theorem ded_kps {R : oR} {k : Nat} {s : Nat → Int32} : kps R (sA (dedX R k) 0 s) [3, 11] [0, 2] := by
  unfold dedX
  exact kps_tr (kps_tr (kps_tr (kps_A (by decide)) (kps_F (by decide))) (kps_F (by decide))) (kps_A (by decide))
theorem ded_laid {R : oR} {k : Nat} {s s' : Nat → Int32} (h : laidI R s) : laidI (sA (dedX R k) 0 s') s' := by
  obtain ⟨-, tab, h1, -⟩ := h
  have e : (sA (dedX R k) 0 s').1 11 = 0 := sF_at (R := sF (sA R 2 (pstS (R.2 2) k (R.2 0))) 3 (nI (pstN k))) (j := 11) (x := 0)
  refine ⟨Or.inl e, tab, tdA_kp h1 ded_kps (by decide) (by decide), fun q => ?_⟩
  rw [e] at q
  exact absurd q (by decide)
section MO17
variable {σ : hp_H} {r : Nat} {R : oR} {x y z : Int32}
theorem Mo_cl1 {c : Nat} (hc : c < 6) {A : Nat → Int32} {K : Int32 → hp_H → Option (Int32 × hp_H)} : ∀ (m t f : Nat), t + m = 25 → f_Mo_client_l1 r x (nI c) K (f + m + 1) (nI t) (bk_Mo σ r (sA R 0 (wr A (16 + 25 * c) t (fun _ => 0)))) = K (nI 25) (bk_Mo σ r (sA R 0 (wr A (16 + 25 * c) 25 (fun _ => 0))))
  | 0, t, f, h => by
    rw [show t = 25 by omega, f_Mo_client_l1, show (25 : Int32) = nI 25 from rfl, if_pos ((nI_leI (by omega) (by omega)).mpr (Nat.le_refl _))]
  | m + 1, t, f, h => by
    have e : upd (wr A (16 + 25 * c) t (fun _ => 0)) (16 + 25 * c + t) 0 = wr A (16 + 25 * c) (t + 1) (fun _ => 0) := wr_s
    rw [f_Mo_client_l1, show (25 : Int32) = nI 25 from rfl, if_neg (fun q => by have := (nI_leI (by omega) (by omega)).mp q; omega), Mo_sets (by omega), Option.bind_some, sA_A, sA_at, e, nI_1]
    exact Mo_cl1 hc m (t + 1) f (by omega)
theorem Mo_cli {k : Nat} {s : Nat → Int32} (hs : Wf s) (hk : k ≤ 16) (h0 : R.2 0 = s) (h3 : R.1 3 = nI k) {b : Nat} (hb : b < nB s) (h6 : nC s ≠ 6) : f_Mo_client r (nI b) (bk_Mo σ r R) = some (nI (nC s), bk_Mo σ r (sA (dedX R k) 0 (cliS s b))) := by
  have hB7 := hs.1.1.2.2
  have hC6 := hs.2.1.1.2
  have e1 : hp_aI (bk_Mo σ r R) (r + 1) 0 1 = some (nI (nC s)) := by rw [← hs.2.1.1.1, ← h0]; exact Mo_a0 (i := 1) (by decide)
  have h6' : ¬ nI (nC s) = 6 := fun q => h6 ((nI_eq (b := 6) (by omega) (by omega)).mp q)
  obtain ⟨f, hf⟩ := hp_fu 26 (by decide)
  have hf' : f + 25 + 1 = hp_F := hf.symm
  unfold f_Mo_client
  rw [Mo_own, Mo_isBroker (B := nB s) (by rw [h0]; exact hs.1.1.1) (by omega), Option.bind_some, tst_y (inI_nI hb (by omega)), Mo_g0, Option.bind_some, e1, Option.bind_some, if_neg h6', Mo_dd hk h0 h3, Option.bind_some, Mo_g0, Option.bind_some, Mo_r_1, Option.bind_some, hs.2.1.1.1]
  have h1 := Mo_cl1 (σ := σ) (r := r) (R := dedX R k) (x := nI b) (c := nC s) (by omega) (A := s) (K := fun z12 σ => (f_Mo_sets r (nI (nC s)) 0 (nI b) σ).bind fun σ => (f_Mo_sets r (nI (nC s)) 1 1 σ).bind fun σ => (hp_gR σ r 10 0).bind fun q15 => (hp_aI σ q15 0 1).bind fun v16 => (hp_sI σ q15 0 1 (v16 + 1)).bind fun σ => some (nI (nC s), σ)) 25 0 f (by decide)
  rw [wr_0, hf'] at h1
  refine (show _ = _ from h1).trans ?_
  have w0 : ∀ (B : Nat → Int32) (v : Int32), f_Mo_sets r (nI (nC s)) 0 v (bk_Mo σ r (sA (dedX R k) 0 B)) = some (bk_Mo σ r (sA (dedX R k) 0 (upd B (16 + 25 * nC s) v))) := fun B v => by
    rw [show (0 : Int32) = nI 0 from rfl, Mo_sets (by omega), sA_A, sA_at, Nat.add_zero]
  have w1 : ∀ (B : Nat → Int32) (v : Int32), f_Mo_sets r (nI (nC s)) 1 v (bk_Mo σ r (sA (dedX R k) 0 B)) = some (bk_Mo σ r (sA (dedX R k) 0 (upd B (17 + 25 * nC s) v))) := fun B v => by
    rw [show f_Mo_sets r (nI (nC s)) 1 v = f_Mo_sets r (nI (nC s)) (nI 1) v from rfl, Mo_sets (by omega), sA_A, sA_at, show 16 + 25 * nC s + 1 = 17 + 25 * nC s by omega]
  have u1 : upd (upd (wr s (16 + 25 * nC s) 25 (fun _ => 0)) (16 + 25 * nC s) (nI b)) (17 + 25 * nC s) 1 1 = nI (nC s) := by
    rw [upd_ne (by omega), upd_ne (by omega), wr_out (by omega)]
    exact hs.2.1.1.1
  rw [w0, Option.bind_some, w1, Option.bind_some, Mo_g0, Option.bind_some, Mo_r_1, Option.bind_some, Mo_w_1, Option.bind_some, u1, nI_1]
  rfl
theorem Mo_cli_no {s : Nat → Int32} (hs : Wf s) (h0 : R.2 0 = s) (hx : ¬ inI x (nB s)) : f_Mo_client r x (bk_Mo σ r R) = some (-1000000001, bk_Mo σ r R) := by
  have hB7 := hs.1.1.2.2
  unfold f_Mo_client
  rw [Mo_own, Mo_isBroker (B := nB s) (by rw [h0]; exact hs.1.1.1) (by omega), Option.bind_some, tst_n hx]
theorem Mo_cli_full {s : Nat → Int32} (hs : Wf s) (h0 : R.2 0 = s) {b : Nat} (hb : b < nB s) (h6 : nC s = 6) : f_Mo_client r (nI b) (bk_Mo σ r R) = some (-1000000004, bk_Mo σ r R) := by
  have hB7 := hs.1.1.2.2
  have e1 : hp_aI (bk_Mo σ r R) (r + 1) 0 1 = some (nI (nC s)) := by rw [← hs.2.1.1.1, ← h0]; exact Mo_a0 (i := 1) (by decide)
  unfold f_Mo_client
  rw [Mo_own, Mo_isBroker (B := nB s) (by rw [h0]; exact hs.1.1.1) (by omega), Option.bind_some, tst_y (inI_nI hb (by omega)), Mo_g0, Option.bind_some, e1, Option.bind_some, if_pos (by rw [h6]; rfl)]
theorem Mo_cm1 {c k : Nat} (hc : c < 6) (hk : k ≤ 8) {K : Int32 → hp_H → Option (Int32 × hp_H)} : ∀ (m i f : Nat) (A : Nat → Int32), i + m = k → f_Mo_come_l1 r (nI c) x (nI k) K (f + m + 1) (nI i) (bk_Mo σ r (sA R 0 A)) = K (nI k) (bk_Mo σ r (sA R 0 (cmF c m i A)))
  | 0, i, f, A, h => by
    rw [show i = k by omega, f_Mo_come_l1, if_pos ((nI_leI (by omega) (by omega)).mpr (Nat.le_refl _)), cmF]
  | m + 1, i, f, A, h => by
    rw [f_Mo_come_l1, if_neg (fun q => by have := (nI_leI (by omega) (by omega)).mp q; omega), il_17, nI_add, Mo_of (by omega), Option.bind_some, sA_at, Mo_logs hc sA_at, Option.bind_some, sA_A, nI_1, show 16 + 25 * c + (17 + i) = 33 + 25 * c + i by omega, cmF]
    exact Mo_cm1 hc hk m (i + 1) f _ (by omega)
theorem Mo_com {k : Nat} {s : Nat → Int32} (hs : Wf s) (hk : k ≤ 16) (h0 : R.2 0 = s) (h3 : R.1 3 = nI k) {b c : Nat} (hb : b < nB s) (hc : c < nC s) (hp : s (17 + 25 * c) = 0) : f_Mo_come r (nI c) (nI b) (bk_Mo σ r R) = some (nI (kpt s c), bk_Mo σ r (sA (dedX R k) 0 (comS s c b))) := by
  have hB7 := hs.1.1.2.2
  have hC6 := hs.2.1.1.2
  obtain ⟨-, -, k1, k2⟩ := hs.2.1.2 c hc
  obtain ⟨f, hf⟩ := hp_fu (kpt s c + 1) (by omega)
  have hf' : f + kpt s c + 1 = hp_F := hf.symm
  have o1 : f_Mo_of r (nI c) 1 (bk_Mo σ r R) = some 0 := by
    have := Mo_of (σ := σ) (r := r) (R := R) (c := c) (k := 1) (by omega)
    rw [h0, show 16 + 25 * c + 1 = 17 + 25 * c by omega, hp] at this
    exact this
  have o4 : f_Mo_of r (nI c) 4 (bk_Mo σ r (sA (dedX R k) 0 s)) = some (nI (kpt s c)) := by
    have := Mo_of (σ := σ) (r := r) (R := sA (dedX R k) 0 s) (c := c) (k := 4) (by omega)
    rw [sA_at, show 16 + 25 * c + 4 = 20 + 25 * c by omega, k1] at this
    exact this
  unfold f_Mo_come
  rw [Mo_own, Mo_isClient (C := nC s) (by rw [h0]; exact hs.2.1.1.1) (by omega), Option.bind_some, tst_y (inI_nI hc (by omega)), Mo_isBroker (B := nB s) (by rw [h0]; exact hs.1.1.1) (by omega), Option.bind_some, tst_y (inI_nI hb (by omega)), o1, Option.bind_some, if_neg (by decide), Mo_dd hk h0 h3, Option.bind_some, o4, Option.bind_some]
  have h1 := Mo_cm1 (σ := σ) (r := r) (R := dedX R k) (x := nI b) (c := c) (k := kpt s c) (by omega) k2 (K := fun z17 σ => (f_Mo_sets r (nI c) 4 0 σ).bind fun σ => (f_Mo_sets r (nI c) 0 (nI b) σ).bind fun σ => (f_Mo_sets r (nI c) 1 1 σ).bind fun σ => some (nI (kpt s c), σ)) (kpt s c) 0 f s (by omega)
  rw [hf'] at h1
  refine (show _ = _ from h1).trans ?_
  have w0 : ∀ (B : Nat → Int32) (v : Int32), f_Mo_sets r (nI c) 0 v (bk_Mo σ r (sA (dedX R k) 0 B)) = some (bk_Mo σ r (sA (dedX R k) 0 (upd B (16 + 25 * c) v))) := fun B v => by
    rw [show f_Mo_sets r (nI c) 0 v = f_Mo_sets r (nI c) (nI 0) v from rfl, Mo_sets (by omega), sA_A, sA_at, Nat.add_zero]
  have w1 : ∀ (B : Nat → Int32) (v : Int32), f_Mo_sets r (nI c) 1 v (bk_Mo σ r (sA (dedX R k) 0 B)) = some (bk_Mo σ r (sA (dedX R k) 0 (upd B (17 + 25 * c) v))) := fun B v => by
    rw [show f_Mo_sets r (nI c) 1 v = f_Mo_sets r (nI c) (nI 1) v from rfl, Mo_sets (by omega), sA_A, sA_at, show 16 + 25 * c + 1 = 17 + 25 * c by omega]
  have w4 : ∀ (B : Nat → Int32) (v : Int32), f_Mo_sets r (nI c) 4 v (bk_Mo σ r (sA (dedX R k) 0 B)) = some (bk_Mo σ r (sA (dedX R k) 0 (upd B (20 + 25 * c) v))) := fun B v => by
    rw [show f_Mo_sets r (nI c) 4 v = f_Mo_sets r (nI c) (nI 4) v from rfl, Mo_sets (by omega), sA_A, sA_at, show 16 + 25 * c + 4 = 20 + 25 * c by omega]
  rw [w4, Option.bind_some, w0, Option.bind_some, w1, Option.bind_some]
  rfl
theorem Mo_thg {x y z : Nat} (hx : x < 10) (hy : y < 10) (hz : z < 10) : f_Mo_areThings (nI x) (nI y) (nI z) = some 1 := by
  have h : ∀ n, n < 10 → (0 : Int32).toInt ≤ (nI n).toInt ∧ (nI n).toInt ≤ (9 : Int32).toInt := fun n hn => by
    rw [nI_toInt (by omega)]
    show (0 : Int) ≤ n ∧ (n : Int) ≤ 9
    omega
  unfold f_Mo_areThings
  rw [in_wi, wi_lit, Option.bind_some, tsw_y (h x hx), wi_lit, Option.bind_some, tsw_y (h y hy), wi_lit, Option.bind_some, tsw_y (h z hz)]
theorem Mo_thg_no (h : ¬ (inI x 10 ∧ inI y 10 ∧ inI z 10)) : f_Mo_areThings x y z = some 0 := by
  have h1 : ∀ v : Int32, ((0 : Int32).toInt ≤ v.toInt ∧ v.toInt ≤ (9 : Int32).toInt) → inI v 10 := fun v q => by
    have q' : (0 : Int) ≤ v.toInt ∧ v.toInt ≤ 9 := q
    unfold inI
    omega
  unfold f_Mo_areThings
  rw [in_wi, wi_lit, Option.bind_some]
  by_cases c1 : (0 : Int32).toInt ≤ x.toInt ∧ x.toInt ≤ (9 : Int32).toInt
  · rw [tsw_y c1, wi_lit, Option.bind_some]
    by_cases c2 : (0 : Int32).toInt ≤ y.toInt ∧ y.toInt ≤ (9 : Int32).toInt
    · rw [tsw_y c2, wi_lit, Option.bind_some, tsw_n (fun c3 => h ⟨h1 _ c1, h1 _ c2, h1 _ c3⟩)]
    · rw [tsw_n c2]
  · rw [tsw_n c1]
theorem Mo_put {k : Nat} {s : Nat → Int32} (hs : Wf s) (hk : k ≤ 16) (h0 : R.2 0 = s) (h3 : R.1 3 = nI k) (hI : laidI R s) {b x y z : Nat} (hb : b < nB s) (hx : x < 10) (hy : y < 10) (hz : z < 10) : ∃ R' P c G V, f_Mo_put r (nI b) (nI x) (nI y) (nI z) (bk_Mo σ r R) = some (nI (pcF 7 G), bk_Mo σ r R') ∧ kps (sA (dedX R k) 0 s) R' [11, 13, 15, 16, 17, 18] [0, 9, 10, 12, 14] ∧ R'.2 0 = putS s c G V ∧ laidI R' (putS s c G V) ∧ JR s (nt x y z) b P c G V := by
  have hB7 := hs.1.1.2.2
  obtain ⟨R', P, c, G, V, a1, a2, a3, a4, a5⟩ := Mo_puts (σ := σ) (r := r) hs (R := sA (dedX R k) 0 s) sA_at (ded_laid hI) hb hx hy hz
  refine ⟨R', P, c, G, V, ?_, a2, a3, a4, a5⟩
  unfold f_Mo_put
  rw [Mo_own, Mo_isBroker (B := nB s) (by rw [h0]; exact hs.1.1.1) (by omega), Option.bind_some, tst_y (inI_nI hb (by omega)), Mo_thg hx hy hz, Option.bind_some, if_neg (by decide), Mo_dd hk h0 h3, Option.bind_some, a1, hp_bs]
end MO17
