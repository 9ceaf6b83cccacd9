/-! WHAT A ROW KEEPS: through a run, a commit, a fetch -/
section Keep
variable {c : Nat → Nat → Int32} {m : Nat} {x y : Nat → Int32} {n n' nc : Nat}
theorem Xok.of (X : Xok c m x n nc) (hn : n' ≤ n) (h34 : y 34 = nI n') (hlo : ∀ j, j ≤ 8 → y j = x j) (h36 : y 36 = 0 ∨ y 36 = 1) (he : ∀ i, i < n' → ∀ f, f < 4 → y (39 + 13 * i + f) = x (39 + 13 * i + f)) : Xok c m y n' nc := by
  obtain ⟨x1, x2, x3, x4, x5, x6, x7, x8⟩ := X
  refine ⟨by omega, Int32.le_trans (nI_le hn (by omega)) x2, x3, h34, h36, by rw [hlo 8 (by omega)]; exact x6, fun r hr => by rw [hlo r (by omega)]; exact x7 r hr, fun i hi => ?_⟩
  have e0 := he i hi 0 (by omega)
  rw [Nat.add_zero] at e0
  have hk : kdE c y i = kdE c x i := by unfold kdE sS; rw [e0]
  rw [e0, he i hi 1 (by omega), he i hi 2 (by omega), he i hi 3 (by omega), hk]
  exact x8 i (by omega)
theorem Xo2.of (O : Xo2 c x n) (hn : n' ≤ n) (hlo : ∀ r, r < 8 → y r = x r) (he : ∀ i, i < n' → ∀ f, f < 13 → f ≠ 4 → y (39 + 13 * i + f) = x (39 + 13 * i + f)) (h4 : ∀ i, i < n' → (hasB y i 4 = true → hasB x i 4 = true) ∧ (hasB y i 8 = true → hasB x i 8 = true)) : Xo2 c y n' := fun i hi => by
  obtain ⟨o1, o2⟩ := O i (by omega)
  have e0 := he i hi 0 (by omega) (by omega)
  rw [Nat.add_zero] at e0
  have hk : kdE c y i = kdE c x i := by unfold kdE sS; rw [e0]
  refine ⟨fun h => by rw [hk]; exact o1 ((h4 i hi).1 h), fun h => ?_⟩
  obtain ⟨q1, q2⟩ := o2 ((h4 i hi).2 h)
  refine ⟨by rw [hk]; exact q1, fun r hr => ?_⟩
  have e5 := he i hi (5 + r) (by omega) (by omega)
  rw [← Nat.add_assoc] at e5
  rw [e5, q2 r hr]
  have hstep : ∀ j, j ≤ i → mapE c x r j = mapE c y r j := fun j => by
    induction j with
    | zero => intro _; exact (hlo r hr).symm
    | succ j ih =>
      intro hj
      have a0 := he j (by omega) 0 (by omega) (by omega)
      rw [Nat.add_zero] at a0
      have ht : toE c y j = toE c x j := by unfold toE sS; rw [a0]
      simp only [mapE]
      rw [ht, he j (by omega) 1 (by omega) (by omega), ih (by omega)]
  exact hstep i (Nat.le_refl i)
theorem mapE_ok (X : Xok c m x n nc) (C : Cok c m) {r : Nat} (hr : r < 8) : ∀ i, i ≤ n → isN (mapE c x r i) nc
  | 0, _ => X.2.2.2.2.2.2.1 r hr
  | i + 1, hi => by
    simp only [mapE]
    by_cases h : toE c x i = nI r
    · rw [if_pos h]
      obtain ⟨⟨w, hw, ew⟩, h2, -⟩ := X.2.2.2.2.2.2.2 i (by omega)
      have hsw : sS x i = w := by unfold sS; rw [ew, nI_clamp (by have := C.1; omega)]
      have h5 : ¬ kdE c x i = 5 := fun h5 => by
        have := (C.2.2.2.2.2.2 w hw).2.1
        rw [if_pos (by unfold kdE at h5; rw [hsw] at h5; exact h5)] at this
        unfold toE at h
        rw [hsw, this] at h
        exact nI_nm1 (w := r) (by omega) h.symm
      rw [if_neg h5] at h2
      exact h2
    · rw [if_neg h]; exact mapE_ok X C hr i (by omega)
end Keep
