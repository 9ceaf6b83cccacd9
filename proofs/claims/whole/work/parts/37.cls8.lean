/-! THE CLASS: a Machine commits, on -/
section Cls8
variable {σ τ : St} {a p : Nat} {c : Nat → Nat → Int32} {m : Nat} {x y : Nat → Int32} {n n' nc : Nat}
theorem MR.kept (R : MR c x n nc σ a) {r : Nat} (hr8 : r < 8) (v g : Int32) (hr : ∀ q, q ≠ a → q ≠ a + 2 → hI τ q = hI σ q) (hv : ∀ q, hI τ (a + 2) q = if q = r then v else hI σ (a + 2) q) (hf : ∀ q, q ≠ 5 → hI τ a q = hI σ a q) (h5 : hI τ a 5 = g) : MR c (ux (ux x r v) 8 g) n nc τ a := by
  obtain ⟨⟨r1, r2, r3, r4, r5, r6, r7, r8⟩, rv, rk, re, rb⟩ := R
  refine ⟨⟨?_, ?_, ?_, ?_, ?_, ?_, ?_, ?_⟩, fun u hu => ?_, fun q hq => ?_, fun j hj => ?_, fun j hj => ?_⟩
  · rw [hf 1 (by omega), r1]
  · rw [hf 3 (by omega), r2, ux_n (by omega), ux_n (by omega)]
  · rw [h5, ux_e]
  · rw [hf 6 (by omega), r4]
  · rw [hf 16 (by omega), r5, ux_n (by omega), ux_n (by omega)]
  · rw [hf 17 (by omega), r6, ux_n (by omega), ux_n (by omega)]
  · rw [hf 18 (by omega), r7, ux_n (by omega), ux_n (by omega)]
  · rw [hf 19 (by omega), r8, ux_n (by omega), ux_n (by omega)]
  · rw [hr _ (by omega) (by omega), rv u hu, ux_n (by omega), ux_n (by omega)]
  · rw [hv q, ux_n (by omega)]
    by_cases h : q = r
    · rw [if_pos h, h, ux_e]
    · rw [if_neg h, ux_n h, rk q hq]
  · rw [hr _ (by omega) (by omega), hr _ (by omega) (by omega), hr _ (by omega) (by omega), hr _ (by omega) (by omega), ux_n (by omega), ux_n (by omega), ux_n (by omega), ux_n (by omega), ux_n (by omega), ux_n (by omega), ux_n (by omega), ux_n (by omega)]
    exact re j hj
  · rw [hf 11 (by omega), hf 12 (by omega), hf 13 (by omega), hf 14 (by omega), hf 15 (by omega)]
    have hk : kdE c (ux (ux x r v) 8 g) j = kdE c x j := by unfold kdE sS; rw [ux_n (by omega), ux_n (by omega)]
    have hhb : ∀ q, hasB (ux (ux x r v) 8 g) j q = hasB x j q := fun q => by unfold hasB; rw [ux_n (by omega), ux_n (by omega)]
    rw [hhb, hhb, hhb, hhb]
    unfold risE
    rw [hk]
    exact rb j hj
theorem ret79_c (H : MSh σ a) (R : MR c x (n' + 1) nc σ a) (h12 : n' + 1 ≤ 12) (v : Int32) : ∃ τ, f_X3_retire_79 a v σ = some (v, τ) ∧ Fr (inM a) σ τ ∧ MR c (ux (ux (shf x 143) 34 (x 34 - 1)) 37 (x 37 + 1)) n' nc τ a := by
  have hin : inM a a := ⟨Nat.le_refl a, by omega⟩
  obtain ⟨τ, t1, t2, t3, t4, t5, t6, t7, t8⟩ := drop_c H R.1.2.2.2.1 h12
  have t0 : hT τ a = 4 := by rw [t2.1]; exact H.1
  unfold f_X3_retire_79
  rw [t1, osb, gI_k t0, osb, pI_k t0, osb]
  refine ⟨_, rfl, t2.trans (Fr.s0 hin), ?_⟩
  refine MR.drop R h12 (by rw [hI_sIn (Or.inr (by omega))]; exact t3) (fun q h1 h2 => by rw [hI_sIn (Or.inr (by omega))]; exact t4 q h1 h2) (fun q h1 h2 h3 => by rw [hI_sIn (Or.inr h3)]; exact t5 q h1 h2) (by rw [hI_sIe, t5 19 (by omega) (by omega)]) (fun i hi => ?_) (by rw [hI_sIr (by omega)]; exact t7) (by rw [hI_sIr (by omega)]; exact t8)
  rw [hI_sIr (by omega), hI_sIr (by omega), hI_sIr (by omega), hI_sIr (by omega)]
  exact t6 i hi
theorem retire_c (D : Mc σ a p c m x n nc) (hd : p + 10 < a) (h0 : 0 < n) : ∃ τ, f_X3_retire a σ = some (cvE x, τ) ∧ Fr (inM a) σ τ ∧ MR c (coE c x) (coN x n) nc τ a := by
  have h12 := D.n12
  have h24 := D.c24
  have hin : inM a a := ⟨Nat.le_refl a, by omega⟩
  obtain ⟨s1, s2, s3⟩ := D.st h0
  obtain ⟨⟨a1, a2⟩, ⟨b1, b2⟩, -⟩ := D.e h0
  have hb2 := (D.b h0).2.2.1
  have a2' : aI 22 (a + 3) 0 σ = some (x 39) := a2
  have b2' : aI 22 (a + 4) 0 σ = some (x 40) := b2
  have s1' : x 39 = nI (sS x 0) := s1
  have x34 := D.2.2.2.2.2.2.2.2.2.1
  have R := D.2.2.2.2.2.1
  unfold f_X3_retire f_X3_retire_0
  rw [if_pos D.t, a1, osb, a2', osb, gI_k D.t, osb]
  have h11 := and_11 (hI σ a 13)
  rw [hb2] at h11
  unfold cvE coE coN
  cases ht : hasB x 0 2 with
  | true =>
    rw [if_pos (h11.mpr ht), if_pos rfl, if_pos rfl, if_pos rfl]
    obtain ⟨τ, t1, t2, t3, t4, t5, t6⟩ := keep_c (k := 0) D.t
    have t0 : hT τ a = 4 := by rw [t2.1]; exact D.t
    rw [show (0 : Int32) = nI 0 from rfl, t1, osb, pZ_k t0 (Or.inr rfl), osb, pI_k (σ := sI τ a 17 1) t0, osb]
    refine ⟨_, rfl, Fr.st (Fr.st t2 hin) hin, ?_⟩
    obtain ⟨⟨r1, r2, r3, r4, r5, r6, r7, r8⟩, rv, rk, re, rb⟩ := R
    have hr : ∀ r, r ≠ a → hI (sI (sI τ a 17 1) a 16 (x 39)) r = hI σ r := fun r h => by rw [hI_sIr h, hI_sIr h, t6 r h]
    have hf : ∀ q, q ≠ 6 → (q < 11 ∨ 15 < q) → q ≠ 16 → q ≠ 17 → hI (sI (sI τ a 17 1) a 16 (x 39)) a q = hI σ a q := fun q h1 h2 h3 h4 => by rw [hI_sIn (Or.inr h3), hI_sIn (Or.inr h4), t5 q h1 h2]
    refine ⟨⟨?_, ?_, ?_, ?_, ?_, ?_, ?_, ?_⟩, fun w hw => ?_, fun r hr2 => ?_, fun j hj => absurd hj (by omega), fun j hj => ?_⟩
    · rw [hf 1 (by omega) (by omega) (by omega) (by omega), r1]
    · rw [hf 3 (by omega) (by omega) (by omega) (by omega), r2, ux_n (by omega), ux_n (by omega), ux_n (by omega)]
    · rw [hf 5 (by omega) (by omega) (by omega) (by omega), r3, ux_n (by omega), ux_n (by omega), ux_n (by omega)]
    · rw [hI_sIn (Or.inr (by omega)), hI_sIn (Or.inr (by omega)), t3]
    · rw [hI_sIe, ux_e]
    · rw [hI_sIn (Or.inr (by omega)), hI_sIe, ux_n (by omega), ux_e]
    · rw [hf 18 (by omega) (by omega) (by omega) (by omega), r7, ux_n (by omega), ux_n (by omega), ux_n (by omega)]
    · rw [hf 19 (by omega) (by omega) (by omega) (by omega), r8, ux_n (by omega), ux_n (by omega), ux_n (by omega)]
    · rw [hr _ (by omega), rv w hw, ux_n (by omega), ux_n (by omega), ux_n (by omega)]
    · rw [hr _ (by omega), rk r hr2, ux_n (by omega), ux_n (by omega), ux_n (by omega)]
    · have hbit : ∀ q, 11 ≤ q → q ≤ 15 → bt (hI (sI (sI τ a 17 1) a 16 (x 39)) a q) j = false := fun q h1 h2 => by
        rw [hI_sIn (Or.inr (by omega)), hI_sIn (Or.inr (by omega)), t4 q h1 h2, b_and, b_msk 0 (by omega) j hj]; simp
      rw [hbit 11 (by omega) (by omega), hbit 12 (by omega) (by omega), hbit 13 (by omega) (by omega), hbit 14 (by omega) (by omega), hbit 15 (by omega) (by omega)]
      simp
  | false =>
    obtain ⟨k, rfl⟩ : ∃ k, n = k + 1 := ⟨n - 1, by omega⟩
    rw [if_neg (fun h => by rw [h11.mp h] at ht; cases ht), if_neg Bool.false_ne_true, if_neg Bool.false_ne_true, if_neg Bool.false_ne_true, D.po, osb, (D.pr s2).2.1.1, osb, s1', (D.pr s2).2.1.2, osb, reg_f, osb]
    dsimp only
    have hto := (D.2.2.2.2.1.2.2.2.2.2.2 _ s2).2.1
    have eto : toE c x 0 = c 2 (sS x 0) := rfl
    by_cases h5 : c 1 (sS x 0) = 5
    · rw [if_pos h5] at hto
      rw [if_pos (by rw [hto]; decide), if_pos (by rw [eto, hto])]
      obtain ⟨τ, t1, t2, t3⟩ := ret79_c D.1 R h12 (nI (sS x 0))
      exact ⟨τ, t1, t2, t3⟩
    · rw [if_neg h5] at hto
      obtain ⟨r, hr, er⟩ := hto
      rw [er] at eto ⊢
      rw [if_neg (by
        rw [show (decide (nI r < 0 ∨ 8 ≤ nI r)) = false from decide_eq_false (fun h => h.elim (nI_pos (by omega)) (nI_ge (a := r) (b := 8) (by omega) (by omega)))]
        decide), (D.k hr).1, osb, b1, osb, b2', osb, xI_k D.1.2.2.1.2.1 D.1.2.2.1.2.2 hr (by omega), osb]
      generalize hω : sI σ (a + 2) r (x 40) = ω
      have t0 : hT ω a = 4 := by rw [← hω]; exact D.t
      have t5 : hI ω a 5 = x 8 := by rw [← hω, hI_sIr (by omega)]; exact R.1.2.2.1
      rw [gI_k t0, osb, bo_f, osb]
      dsimp only
      rw [pI_k t0, osb, t5, show bo (nI r) = jshl 1 (nI r) from if_pos (nI_pos' (by omega)), if_neg (by rw [eto]; exact nI_nm1 (by omega)), eto, nI_clamp (show r < 2 ^ 31 by omega)]
      have R2 : MR c (ux (ux x r (x 40)) 8 (x 8 &&& (jshl 1 (nI r) ^^^ (-1)))) (k + 1) nc (sI ω a 5 (x 8 &&& (jshl 1 (nI r) ^^^ (-1)))) a := by
        refine MR.kept R hr _ _ (fun q h1 h2 => by rw [hI_sIr h1, ← hω, hI_sIr h2]) (fun q => ?_) (fun q hq => by rw [hI_sIn (Or.inr hq), ← hω, hI_sIr (by omega)]) hI_sIe
        rw [hI_sIr (by omega), ← hω, hI_sI]
        by_cases h : q = r <;> simp [h]
      have F2 : Fr (inM a) σ (sI ω a 5 (x 8 &&& (jshl 1 (nI r) ^^^ (-1)))) := by
        rw [← hω]; exact Fr.st (Fr.s0 ⟨by omega, by omega⟩) hin
      have H2 : MSh (sI ω a 5 (x 8 &&& (jshl 1 (nI r) ^^^ (-1)))) a := by rw [← hω]; exact D.1
      obtain ⟨τ, t1, t2, t3⟩ := ret79_c H2 R2 h12 (nI (sS x 0))
      rw [ux_n (i := 34) (by omega), ux_n (i := 34) (by omega), ux_n (i := 37) (by omega), ux_n (i := 37) (by omega)] at t3
      exact ⟨τ, t1, F2.trans t2, t3⟩
end Cls8
