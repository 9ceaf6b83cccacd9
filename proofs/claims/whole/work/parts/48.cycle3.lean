/-! A CYCLE: the reference's, its phases -/
section Cyc3
variable {σ τ : St} {M k : Nat} {c : Nat → Nat → Int32} {m : Nat} {x x0 : Nat → Int32} {n n' nc : Nat}
theorem rcy127 (D : Md σ M k c x0) (hc : hI σ M 26 = nI nc) : ∀ (q i fu : Nat) (x : Nat → Int32), i + q = 2 → q < fu → Rk c m x nc → f_X10_cycle_127 fu M (nI i) (sR σ (M + 4) x) = some (sR σ (M + 4) (fck c nc q x)) ∧ Rk c m (fck c nc q x) nc
  | 0, i, fu, x, hi, hf, K => by
    obtain ⟨f, rfl⟩ : ∃ f, fu = f + 1 := ⟨fu - 1, by omega⟩
    obtain rfl : i = 2 := by omega
    rw [e_X10_cycle_127, if_pos (by decide)]
    exact ⟨rfl, K⟩
  | q + 1, i, fu, x, hi, hf, K => by
    obtain ⟨f, rfl⟩ : ∃ f, fu = f + 1 := ⟨fu - 1, by omega⟩
    rw [e_X10_cycle_127, if_neg (show ¬ (2 : Int32) ≤ nI i from nI_ge (a := i) (b := 2) (by omega) (by omega)), wnf_j (D.to x) K.1 (by rw [hI_sRn (by omega)]; exact hc), osb]
    dsimp only
    by_cases h : wnfE c x (nN x) nc = 0
    · obtain ⟨K', e⟩ := K.ft h
      have hk : fck c nc (q + 1) x = fck c nc q (ftE c x (nN x) nc) := by simp only [fck, fc1, if_pos h]
      rw [if_pos h, fet_j D K.1 hc h, osb, nI_1, hk]
      exact rcy127 D hc q (i + 1) f (ftE c x (nN x) nc) (by omega) (by omega) K'
    · rw [if_neg h, fck_id h]
      exact ⟨rfl, K⟩
theorem rcy2 (D : Md σ M k c x0) : ∀ (q i fu : Nat) (x : Nat → Int32), i + q = 2 → q < fu → Rk c m x nc → f_X10_cycle_2 fu M (nI i) (sR σ (M + 4) x) = f_X10_cycle_35 M (sR σ (M + 4) (cmk c q x)) ∧ Rk c m (cmk c q x) nc
  | 0, i, fu, x, hi, hf, K => by
    obtain ⟨f, rfl⟩ : ∃ f, fu = f + 1 := ⟨fu - 1, by omega⟩
    obtain rfl : i = 2 := by omega
    rw [e_X10_cycle_2, if_pos (by decide)]
    exact ⟨rfl, K⟩
  | q + 1, i, fu, x, hi, hf, K => by
    obtain ⟨f, rfl⟩ : ∃ f, fu = f + 1 := ⟨fu - 1, by omega⟩
    rw [e_X10_cycle_2, if_neg (show ¬ (2 : Int32) ≤ nI i from nI_ge (a := i) (b := 2) (by omega) (by omega)), wnc_j (D.to x) K.1, osb]
    dsimp only
    by_cases h : wncE x (nN x) = 0
    · obtain ⟨K', e⟩ := K.co (wnc0 h)
      have h36 : x 36 = 0 := by
        rcases K.1.2.1.2.2.2.2.1 with h6 | h6
        · exact h6
        · have := K.2 h6
          have := wnc0 h
          omega
      have hk : cmk c (q + 1) x = cmk c q (coE c x) := by simp only [cmk, cm1, if_pos h]
      rw [if_pos h, xa_k (D.to x), osb, r36_k (D.to x), osb, if_pos h36, com_j D K.1 (wnc0 h), osb, nI_1, hk]
      exact rcy2 D q (i + 1) f (coE c x) (by omega) (by omega) K'
    · rw [if_neg h, cmk_id h]
      exact ⟨rfl, K⟩
theorem rcy56 {k42 : Nat → Int32 → St → Option St} (D : Md σ M k c x) (R : Rok c m x n nc) (v : Int32) : ∀ (q i fu : Nat), i + q = n → q < fu → (∀ j, j < i → runE x j = false) → f_X10_cycle_56 k42 fu M v (nI i) σ = f_X10_cycle_81 k42 M v (nI ((fstN (runE x) n).getD n)) σ
  | 0, i, fu, hi, hf, ha => by
    obtain ⟨f, rfl⟩ : ∃ f, fu = f + 1 := ⟨fu - 1, by omega⟩
    have h12 := R.n12
    obtain rfl : i = n := by omega
    rw [e_X10_cycle_56, xa_k D, osb, r34_k D, osb, R.2.1.2.2.2.1, if_pos (nI_le (Nat.le_refl _) (by omega))]
    cases h : fstN (runE x) i with
    | none => rfl
    | some j => obtain ⟨h1, h2, -⟩ := fstN_some h; rw [ha j h1] at h2; cases h2
  | q + 1, i, fu, hi, hf, ha => by
    obtain ⟨f, rfl⟩ : ∃ f, fu = f + 1 := ⟨fu - 1, by omega⟩
    have h12 := R.n12
    rw [e_X10_cycle_56, xa_k D, osb, r34_k D, osb, R.2.1.2.2.2.1, if_neg (nI_ge (by omega) (by omega)), run_j D R (by omega), osb]
    dsimp only
    cases hp : runE x i with
    | false =>
      rw [if_pos (by simp [b2i]), nI_1]
      exact rcy56 D R v q (i + 1) f (by omega) (by omega) (fun j hj => by
        by_cases h : j = i
        · rw [h]; exact hp
        · exact ha j (by omega))
    | true =>
      rw [if_neg (by simp [b2i]), fstN_of (j := i) (by omega) hp ha]
      rfl
end Cyc3
