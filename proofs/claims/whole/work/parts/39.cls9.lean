/-! THE CLASS: a Machine fetches -/
section Ft
variable {c : Nat → Nat → Int32} {y : Nat → Int32} {n s : Nat} {d u v : Int32} {mg sv : Bool}
theorem ft2_lo {j : Nat} (h : j < 39) (h4 : j ≠ 34) (h5 : j ≠ 35) : ft2 c y n s d u v mg sv j = y j := by
  unfold ft2; rw [ux_n h5, ux_n h4, ux_n (by omega), ux_n (by omega), ux_n (by omega), ux_n (by omega), ux_n (by omega), fil_n (by omega)]
theorem ft2_34 : ft2 c y n s d u v mg sv 34 = y 34 + 1 := by unfold ft2; rw [ux_n (by omega), ux_e]
theorem ft2_35 : ft2 c y n s d u v mg sv 35 = gsE c s := by unfold ft2; rw [ux_e]
theorem ft2_en {i f : Nat} (hi : i < n) (hf : f < 13) : ft2 c y n s d u v mg sv (39 + 13 * i + f) = y (39 + 13 * i + f) := by
  unfold ft2; rw [ux_n (by omega), ux_n (by omega), ux_n (by omega), ux_n (by omega), ux_n (by omega), ux_n (by omega), ux_n (by omega), fil_n (by omega)]
theorem ft2_e0 : ft2 c y n s d u v mg sv (39 + 13 * n) = nI s := by
  unfold ft2; rw [ux_n (by omega), ux_n (by omega), ux_n (by omega), ux_n (by omega), ux_n (by omega), ux_n (by omega), ux_e]
theorem ft2_e1 : ft2 c y n s d u v mg sv (39 + 13 * n + 1) = d := by
  unfold ft2; rw [ux_n (by omega), ux_n (by omega), ux_n (by omega), ux_n (by omega), ux_n (by omega), ux_e]
theorem ft2_e2 : ft2 c y n s d u v mg sv (39 + 13 * n + 2) = u := by
  unfold ft2; rw [ux_n (by omega), ux_n (by omega), ux_n (by omega), ux_n (by omega), ux_e]
theorem ft2_e3 : ft2 c y n s d u v mg sv (39 + 13 * n + 3) = v := by
  unfold ft2; rw [ux_n (by omega), ux_n (by omega), ux_n (by omega), ux_e]
theorem ft2_e4 : ft2 c y n s d u v mg sv (39 + 13 * n + 4) = ((if mg = true then 5 else 0) ||| (if sv = true then 8 else 0)) := by
  unfold ft2; rw [ux_n (by omega), ux_n (by omega), ux_e]
theorem ft2_sv {r : Nat} (hr : r < 8) : ft2 c y n s d u v mg sv (39 + 13 * n + 5 + r) = if sv = true then mapE c y r n else 0 := by
  unfold ft2; rw [ux_n (by omega), ux_n (by omega), ux_n (by omega), ux_n (by omega), ux_n (by omega), ux_n (by omega), ux_n (by omega)]
  unfold fil
  rw [if_pos (by omega), show 39 + 13 * n + 5 + r - (39 + 13 * n + 5) = r by omega]
theorem ft_mk : ∀ mg sv : Bool, bt ((if mg = true then 5 else 0) ||| (if sv = true then 8 else 0)) 0 = mg ∧ bt ((if mg = true then 5 else 0) ||| (if sv = true then 8 else 0)) 1 = false ∧ bt ((if mg = true then 5 else 0) ||| (if sv = true then 8 else 0)) 2 = mg ∧ bt ((if mg = true then 5 else 0) ||| (if sv = true then 8 else 0)) 3 = sv := by decide
end Ft
theorem cntN_lim {q : Nat → Bool} {n : Nat} (h : n ≤ 32) : cntN (fun i => decide (i < n) && q i) 32 = cntN q n := by
  obtain ⟨k, hk⟩ : ∃ k, 32 = n + k := ⟨32 - n, by omega⟩
  rw [hk, cntN_add]
  have h1 : cntN (fun i => decide (i < n) && q i) n = cntN q n := cntN_congr (fun i hi => by simp [hi])
  have h2 : cntN (fun i => decide (n + i < n) && q (n + i)) k = 0 := cntN_zero.mpr (fun i hi => by rw [decide_eq_false (show ¬ n + i < n by omega)]; rfl)
  rw [h1, h2]
  rfl
section Cls9
variable {σ τ : St} {a p : Nat} {c : Nat → Nat → Int32} {m : Nat} {x y : Nat → Int32} {n n' nc : Nat}
theorem MR.fetch (R : MR c x n nc σ a) (h12 : n < 12) {s : Nat} (hs24 : s < 24) {d u v : Int32} {mg sv : Bool} (hlo : ∀ j, j ≠ 8 → j ≠ 33 → y j = x j)
    (f1 : hI τ a 1 = hI σ a 1) (f3 : hI τ a 3 = y 33) (f5 : hI τ a 5 = y 8) (f6 : hI τ a 6 = nI (n + 1)) (f16 : hI τ a 16 = gsE c s) (f17 : hI τ a 17 = hI σ a 17) (f18 : hI τ a 18 = hI σ a 18) (f19 : hI τ a 19 = hI σ a 19)
    (g1 : hI τ (a + 1) = hI σ (a + 1)) (g2 : hI τ (a + 2) = hI σ (a + 2)) (g3 : hI τ (a + 3) = ux (hI σ (a + 3)) n (nI s)) (g4 : hI τ (a + 4) = ux (hI σ (a + 4)) n d) (g5 : hI τ (a + 5) = ux (hI σ (a + 5)) n u) (g6 : hI τ (a + 6) = ux (hI σ (a + 6)) n v)
    (hb : ∀ j, j < 32 → bt (hI τ a 11) j = (if j = n then (decide (c 1 s = 5) || decide (c 1 s = 3)) else bt (hI σ a 11) j) ∧ bt (hI τ a 12) j = (if j = n then mg else bt (hI σ a 12) j) ∧ bt (hI τ a 13) j = bt (hI σ a 13) j ∧ bt (hI τ a 14) j = (if j = n then mg else bt (hI σ a 14) j) ∧ bt (hI τ a 15) j = (if j = n then sv else bt (hI σ a 15) j)) : MR c (ft2 c y n s d u v mg sv) (n + 1) nc τ a := by
  obtain ⟨⟨r1, r2, r3, r4, r5, r6, r7, r8⟩, rv, rk, re, rb⟩ := R
  refine ⟨⟨?_, ?_, ?_, f6, ?_, ?_, ?_, ?_⟩, fun w hw => ?_, fun r hr => ?_, fun j hj => ?_, fun j hj => ?_⟩
  · rw [f1, r1]
  · rw [f3, ft2_lo (by omega) (by omega) (by omega)]
  · rw [f5, ft2_lo (by omega) (by omega) (by omega)]
  · rw [f16, ft2_35]
  · rw [f17, r6, ft2_lo (by omega) (by omega) (by omega), hlo _ (by omega) (by omega)]
  · rw [f18, r7, ft2_lo (by omega) (by omega) (by omega), hlo _ (by omega) (by omega)]
  · rw [f19, r8, ft2_lo (by omega) (by omega) (by omega), hlo _ (by omega) (by omega)]
  · rw [g1, rv w hw, ft2_lo (by omega) (by omega) (by omega), hlo _ (by omega) (by omega)]
  · rw [g2, rk r hr, ft2_lo (by omega) (by omega) (by omega), hlo _ (by omega) (by omega)]
  · rw [g3, g4, g5, g6]
    by_cases h : j = n
    · subst h
      rw [ux_e, ux_e, ux_e, ux_e, ft2_e0, ft2_e1, ft2_e2, ft2_e3]
      exact ⟨rfl, rfl, rfl, rfl⟩
    · have hj' : j < n := by omega
      have e0 := ft2_en (c := c) (y := y) (n := n) (s := s) (d := d) (u := u) (v := v) (mg := mg) (sv := sv) hj' (show 0 < 13 by omega)
      rw [Nat.add_zero] at e0
      rw [ux_n h, ux_n h, ux_n h, ux_n h, e0, ft2_en hj' (by omega), ft2_en hj' (by omega), ft2_en hj' (by omega), hlo _ (by omega) (by omega), hlo _ (by omega) (by omega), hlo _ (by omega) (by omega), hlo _ (by omega) (by omega)]
      exact re j hj'
  · obtain ⟨b1, b2, b3, b4, b5⟩ := rb j hj
    obtain ⟨k1, k2, k3, k4, k5⟩ := hb j hj
    obtain ⟨e1, e2, e3, e4⟩ := hasB_bt (ft2 c y n s d u v mg sv) j
    rw [k1, k2, k3, k4, k5, e1, e2, e3, e4]
    by_cases h : j = n
    · subst h
      obtain ⟨m1, m2, m3, m4⟩ := ft_mk mg sv
      have hk : kdE c (ft2 c y j s d u v mg sv) j = c 1 s := by unfold kdE sS; rw [ft2_e0, nI_clamp (by omega)]
      rw [ft2_e4, m1, m2, m3, m4, b3]
      simp [risE, hk]
    · have hji : decide (j < n + 1) = decide (j < n) := by simp only [decide_eq_decide]; omega
      rw [if_neg h, if_neg h, if_neg h, if_neg h, b1, b2, b3, b4, b5, hji]
      by_cases hj' : j < n
      · have e0 := ft2_en (c := c) (y := y) (n := n) (s := s) (d := d) (u := u) (v := v) (mg := mg) (sv := sv) hj' (show 0 < 13 by omega)
        rw [Nat.add_zero] at e0
        have hk : kdE c (ft2 c y n s d u v mg sv) j = kdE c x j := by unfold kdE sS; rw [e0, hlo _ (by omega) (by omega)]
        obtain ⟨q1, q2, q3, q4⟩ := hasB_bt x j
        rw [q1, q2, q3, q4, ft2_en hj' (by omega), hlo _ (by omega) (by omega)]
        unfold risE
        rw [hk]
        exact ⟨rfl, rfl, rfl, rfl, rfl⟩
      · simp [hj']
theorem MR.past (R : MR c x n nc σ a) {f : Nat} (h3 : 3 ≤ f) (h6 : f ≤ 6) (v : Int32) : MR c x n nc (sI σ (a + f) n v) a := by
  have ha : hI (sI σ (a + f) n v) a = hI σ a := hI_sIr (by omega)
  obtain ⟨r, rv, rk, re, rb⟩ := R
  refine ⟨by rw [ha]; exact r, fun w hw => by rw [hI_sIr (by omega)]; exact rv w hw, fun q hq => by rw [hI_sIr (by omega)]; exact rk q hq, fun j hj => ?_, by rw [ha]; exact rb⟩
  rw [hI_sIn (Or.inr (by omega)), hI_sIn (Or.inr (by omega)), hI_sIn (Or.inr (by omega)), hI_sIn (Or.inr (by omega))]
  exact re j hj
theorem Mc.past (D : Mc σ a p c m x n nc) (hd : p + 10 < a) {f : Nat} (h3 : 3 ≤ f) (h6 : f ≤ 6) (v : Int32) : Mc (sI σ (a + f) n v) a p c m x n nc := D.mk (Fr.s0 ⟨by omega, by omega⟩) hd (D.2.2.2.2.2.1.past h3 h6 v) D.2.2.2.2.2.2
theorem ctr_c (D : Mc σ a p c m x n nc) {v : Int32} (hv : v = -1 ∨ isN v 8) : f_X3_cellToRead a v σ = some (if v = -1 then -2 else mapE c x v.toNatClampNeg n, σ) := by
  unfold f_X3_cellToRead f_X3_cellToRead_0 f_X3_cellToRead_21
  rw [if_pos D.t, reg_f, osb]
  dsimp only
  rcases hv with h | ⟨r, hr, rfl⟩
  · rw [if_pos (by rw [h]; decide), if_pos h]
  · rw [if_neg (by
      rw [show (decide (nI r < 0 ∨ 8 ≤ nI r)) = false from decide_eq_false (fun h => h.elim (nI_pos (by omega)) (nI_ge (a := r) (b := 8) (by omega) (by omega)))]
      decide), D.f.2.2.2.1, osb, map_c D hr (Nat.le_refl n), osb, if_neg (nI_nm1 (by omega)), nI_clamp (by omega)]
theorem save_c (D : Mc σ a p c m x n nc) {s : Nat} (h5 : c 1 s = 5) : f_X3_saveIfRoom a (nI n) σ = some (if savE c x n s = true then sI σ a 15 (hI σ a 15 ||| jshl 1 (nI n)) else σ) := by
  have h12 := D.n12
  unfold f_X3_saveIfRoom f_X3_saveIfRoom_0 f_X3_saveIfRoom_29
  rw [if_pos D.t, gI_k D.t, osb, bc_k, osb]
  dsimp only
  have hc : cntN (bt (hI σ a 15)) 32 = cntN (fun i => hasB x i 8) n := by
    rw [cntN_congr (q := fun i => decide (i < n) && hasB x i 8) (fun i hi => (D.2.2.2.2.2.1.2.2.2.2 i hi).2.2.2.2), cntN_lim (by omega)]
  rw [hc, D.po, osb, D.g.2.2.1, osb, gI_k D.t, osb, pI_k D.t, osb]
  unfold savE
  rw [h5]
  by_cases h : c 0 2 ≤ nI (cntN (fun i => hasB x i 8) n) <;> simp [h]
theorem rsk_c (D : Mc σ a p c m x n nc) {s : Nat} (hs : s < m) : f_X5_isRisky p (nI s) σ = some (b2i (decide (c 1 s = 5) || decide (c 1 s = 3)), σ) := by
  obtain ⟨⟨a1, a2⟩, -⟩ := D.pr hs
  unfold f_X5_isRisky f_X5_isRisky_0 f_X5_isRisky_20 f_X5_isRisky_25
  simp only [D.2.2.1.1, if_true, a1, a2, osb]
  by_cases h5 : c 1 s = 5
  · simp [h5, b2i]
  · by_cases h3 : c 1 s = 3 <;> simp [h5, h3, b2i]
theorem clm17 (H : MSh σ a) (hk : ∀ r, r < 8 → hI σ (a + 2) r = x r) (d : Int32) : ∀ (q i fu : Nat) (υ : St), i + q = 8 → q < fu → υ = sI σ a 5 (hI σ a 5 ||| setN (fun r => decide (x r = d)) i) → f_X3_claim_17 fu a d (nI i) υ = some (sI σ a 5 (hI σ a 5 ||| setN (fun r => decide (x r = d)) 8))
  | 0, i, fu, υ, hi, hf, hυ => by
    obtain ⟨f, rfl⟩ : ∃ f, fu = f + 1 := ⟨fu - 1, by omega⟩
    obtain rfl : i = 8 := by omega
    rw [e_X3_claim_17, if_pos (by decide), hυ]
  | q + 1, i, fu, υ, hi, hf, hυ => by
    obtain ⟨f, rfl⟩ : ∃ f, fu = f + 1 := ⟨fu - 1, by omega⟩
    have t0 : hT υ a = 4 := by rw [hυ]; exact H.1
    have k1 : gR 4 4 a υ = some (a + 2) := by rw [hυ]; exact H.2.2.1.r H.1
    have k2 : aI 22 (a + 2) (nI i) υ = some (x i) := by
      rw [hυ, aI_k (show hT (sI σ a 5 _) (a + 2) = 22 from H.2.2.1.2.1) (show hN (sI σ a 5 _) (a + 2) = 8 from H.2.2.1.2.2) (by omega) (by omega), hI_sIr (by omega), hk i (by omega)]
    rw [e_X3_claim_17, if_neg (show ¬ (8 : Int32) ≤ nI i from nI_ge (a := i) (b := 8) (by omega) (by omega)), k1, osb, k2, osb]
    unfold f_X3_claim_46
    rw [nI_1]
    by_cases h : x i = d
    · rw [if_pos h, gI_k t0, osb, bo_f, osb]
      dsimp only
      rw [pI_k t0, osb]
      refine clm17 H hk d q (i + 1) f _ (by omega) (by omega) ?_
      rw [hυ, hI_sIe, sI_sI, show bo (nI i) = jshl 1 (nI i) from if_pos (nI_pos' (by omega))]
      simp only [setN, h, decide_true, if_true, i_or_a]
    · rw [if_neg h]
      refine clm17 H hk d q (i + 1) f υ (by omega) (by omega) ?_
      rw [hυ]
      simp only [setN, h, decide_false, Bool.false_eq_true, if_false, i_or_z]
theorem clm_c (H : MSh σ a) (hk : ∀ r, r < 8 → hI σ (a + 2) r = x r) {d : Nat} (hd : d < 24) : f_X3_claim a (nI d) σ = some (sI (sI σ a 3 (hI σ a 3 &&& (jshl 1 (nI d) ^^^ (-1)))) a 5 (hI σ a 5 ||| setN (fun r => decide (x r = nI d)) 8)) := by
  unfold f_X3_claim f_X3_claim_0
  rw [if_pos H.1, gI_k H.1, osb, bo_f, osb]
  dsimp only
  rw [pI_k H.1, osb, show bo (nI d) = jshl 1 (nI d) from if_pos (nI_pos' (by omega))]
  generalize hω : sI σ a 3 (hI σ a 3 &&& (jshl 1 (nI d) ^^^ (-1))) = ω
  have H2 : MSh ω a := by rw [← hω]; exact H
  have h5 : hI ω a 5 = hI σ a 5 := by rw [← hω]; exact hI_sIn (Or.inr (by omega))
  rw [← h5]
  refine clm17 H2 (fun r hr => by rw [← hω, hI_sIr (by omega)]; exact hk r hr) (nI d) 8 0 FU ω (by omega) (by unfold FU; omega) ?_
  show ω = sI ω a 5 (hI ω a 5 ||| 0)
  rw [i_or_z]
  have e : u2 (hI ω) a 5 (hI ω a 5) = hI ω := by
    funext b i
    by_cases hb : b = a ∧ i = 5
    · simp only [u2, if_pos hb]; rw [hb.1, hb.2]
    · simp only [u2, if_neg hb]
  show ω = (hT ω, hN ω, u2 (hI ω) a 5 (hI ω a 5), hP ω, hL ω, hZ ω)
  rw [e]
  rfl
end Cls9
