/-! THE CLASS: a Machine begins -/
section Beg
variable {σ υ : St} {a p : Nat} {c : Nat → Nat → Int32} {m : Nat} {x : Nat → Int32} {n nc : Nat}
theorem bg27 (H : MSh υ a) (y : Nat → Int32) : ∀ (q i fu : Nat), i + q = 8 → q < fu → f_X3_begin_27 fu a (nI i) (sR υ (a + 2) (fil y 0 nI i)) = f_X3_begin_27 (0 + 1) a (nI 8) (sR υ (a + 2) (fil y 0 nI 8))
  | 0, i, fu, hi, hf => by
    obtain ⟨f, rfl⟩ : ∃ f, fu = f + 1 := ⟨fu - 1, by omega⟩
    obtain rfl : i = 8 := by omega
    rw [e_X3_begin_27, e_X3_begin_27, if_pos (by decide), if_pos (by decide)]
  | q + 1, i, fu, hi, hf => by
    obtain ⟨f, rfl⟩ : ∃ f, fu = f + 1 := ⟨fu - 1, by omega⟩
    have ih := bg27 H y q (i + 1) f (by omega) (by omega)
    rw [fil_s, Nat.zero_add, ← nI_1] at ih
    rw [e_X3_begin_27 f, if_neg (show ¬ (8 : Int32) ≤ nI i from nI_ge (a := i) (b := 8) (by omega) (by omega)), gR_k (σ := sR υ (a + 2) (fil y 0 nI i)) H.1 H.2.2.1.1, osb, ws_r H.2.2.1.2.1 H.2.2.1.2.2 (by omega) (by omega), osb]
    exact ih
theorem bgT (ht : hT υ a = 4) : ∃ τ, f_X3_begin_27 (0 + 1) a (nI 8) υ = some τ ∧ Fr (inM a) υ τ ∧ (∀ r, r ≠ a → hI τ r = hI υ r) ∧ hI τ a 1 = hI υ a 1 ∧ hI τ a 3 = hI υ a 3 ∧ hI τ a 5 = 0 ∧ hI τ a 6 = nI 0 ∧ hI τ a 16 = 0 ∧ hI τ a 17 = 0 ∧ hI τ a 18 = 0 ∧ hI τ a 19 = 0 ∧ ∀ q, 11 ≤ q → q ≤ 15 → ∀ j, j < 32 → bt (hI τ a q) j = false := by
  have hin : inM a a := ⟨Nat.le_refl a, by omega⟩
  rw [e_X3_begin_27, if_pos (by decide), pI_k ht, osb]
  obtain ⟨τ, t1, t2, t3, t4, t5, t6⟩ := keep_c (σ := sI υ a 5 0) (a := a) (k := 0) ht
  have t0 : hT τ a = 4 := by rw [t2.1]; exact ht
  rw [nI_0] at t1
  rw [t1, osb, pI_k t0, osb, pZ_k (σ := sI τ a 16 0) t0 (Or.inl rfl), osb, pZ_k (σ := sI (sI τ a 16 0) a 17 0) t0 (Or.inl rfl), osb, pI_k (σ := sI (sI (sI τ a 16 0) a 17 0) a 18 0) t0, osb]
  refine ⟨_, rfl, Fr.st (Fr.st (Fr.st (Fr.st ((Fr.s0 hin).trans t2) hin) hin) hin) hin, ?_, ?_, ?_, ?_, ?_, ?_, ?_, ?_, hI_sIe, ?_⟩
  · intro r h; rw [hI_sIr h, hI_sIr h, hI_sIr h, hI_sIr h, t6 r h, hI_sIr h]
  · simp [hI_sI, t5 1 (by omega) (by omega)]
  · simp [hI_sI, t5 3 (by omega) (by omega)]
  · simp [hI_sI, t5 5 (by omega) (by omega)]
  · simp [hI_sI, t3]
  · simp [hI_sI]
  · simp [hI_sI]
  · simp [hI_sI]
  · intro q h1 h2 j hj
    rw [hI_sIn (Or.inr (by omega)), hI_sIn (Or.inr (by omega)), hI_sIn (Or.inr (by omega)), hI_sIn (Or.inr (by omega)), t4 q h1 h2, b_and, b_msk 0 (by omega) j hj]
    simp
end Beg
