/-! CLASS AND REFERENCE: further questions -/
section Ask
variable {σ τ : St} {a p M k : Nat} {c : Nat → Nat → Int32} {m : Nat} {x y : Nat → Int32} {n n' nc : Nat}
theorem owk_l (D : Mc σ a p c m x n nc) : ∀ (q i fu : Nat), i + q = n → q < fu → (∀ j, j < i → runE x j = false) → f_X3_oldestToWork_2 fu a (nI i) σ = some (o2i (fstN (runE x) n), σ)
  | 0, i, fu, hi, hf, ha => by
    obtain ⟨f, rfl⟩ : ∃ f, fu = f + 1 := ⟨fu - 1, by omega⟩
    have h12 := D.n12
    obtain rfl : i = n := by omega
    rw [e_X3_oldestToWork_2, D.f.2.2.2.1, osb, if_pos (nI_le (Nat.le_refl _) (by omega))]
    cases h : fstN (runE x) i with
    | none => rfl
    | some j => obtain ⟨h1, h2, -⟩ := fstN_some h; rw [ha j h1] at h2; cases h2
  | q + 1, i, fu, hi, hf, ha => by
    obtain ⟨f, rfl⟩ : ∃ f, fu = f + 1 := ⟨fu - 1, by omega⟩
    have h12 := D.n12
    rw [e_X3_oldestToWork_2, D.f.2.2.2.1, osb, if_neg (nI_ge (by omega) (by omega)), canW_c D (by omega), osb]
    dsimp only
    cases hp : runE x i with
    | false =>
      rw [if_pos (by simp [b2i]), nI_1]
      exact owk_l D q (i + 1) f (by omega) (by omega) (fun j hj => by
        by_cases h : j = i
        · rw [h]; exact hp
        · exact ha j (by omega))
    | true =>
      rw [if_neg (by simp [b2i]), fstN_of (j := i) (by omega) hp ha]
      rfl
theorem owk_c (D : Mc σ a p c m x n nc) : f_X3_oldestToWork a σ = some (o2i (fstN (runE x) n), σ) := by
  have h12 := D.n12
  unfold f_X3_oldestToWork f_X3_oldestToWork_0
  rw [if_pos D.t]
  exact owk_l D n 0 FU (by omega) (by unfold FU; omega) (fun _ h => absurd h (Nat.not_lt_zero _))
/-- is it over -/
def ovE (c : Nat → Nat → Int32) (x : Nat → Int32) (n : Nat) : Bool := decide (x 36 = 1) || (decide (n = 0) && decide (x 35 < 0 ∨ c 0 5 ≤ x 35))
theorem over_c (D : Mc σ a p c m x n nc) : f_X3_isOver a σ = some (b2i (ovE c x n), σ) := by
  have h12 := D.n12
  unfold f_X3_isOver f_X3_isOver_0 f_X3_isOver_28 f_X3_isOver_32 f_X3_isOver_33 ovE
  simp only [D.t, if_true, D.f.2.2.2.2.2.1, osb, D.f.2.2.2.1, D.po, D.f.2.2.2.2.1, has_c D]
  rcases D.2.2.2.2.2.2.2.2.2.2.1 with h36 | h36
  · rw [if_pos h36]
    by_cases h0 : n = 0
    · subst h0
      by_cases h2 : x 35 < 0 ∨ c 0 5 ≤ x 35 <;> simp [h36, h2, b2i, nI_0]
    · rw [if_neg (nI_ne0 (by omega) (by omega))]
      simp [h36, h0, b2i]
  · rw [if_neg (by rw [h36]; decide)]
    simp [h36, b2i]
/-- the kept value -/
def kvE (c : Nat → Nat → Int32) (x : Nat → Int32) (n r : Nat) : Int32 := if goneE c x n r = true then -2 else x (9 + (x r).toNatClampNeg)
theorem kv_c (D : Mc σ a p c m x n nc) {r : Nat} (hr : r < 8) : f_X3_keptValue a (nI r) σ = some (kvE c x n r, σ) := by
  have h24 := D.c24
  obtain ⟨w, hw, ew⟩ := D.2.2.2.2.2.2.2.2.2.2.2.2.1 r hr
  have hb := and_bo (setN (goneE c x n) 8) (w := r) (by omega)
  rw [gone_bt hr] at hb
  unfold f_X3_keptValue f_X3_keptValue_0 f_X3_keptValue_21 f_X3_keptValue_42 kvE
  rw [if_pos D.t, D.f.2.2.2.1, osb, lgb_c D (Nat.le_refl n), osb, bo_f, osb]
  dsimp only
  cases hg : goneE c x n r with
  | false =>
    rw [if_pos (hb.mpr hg), if_pos rfl, if_neg (by decide), (D.v (w := w) (by omega)).1, osb, (D.k hr).1, osb, (D.k hr).2, osb, ew, (D.v (w := w) (by omega)).2, osb, nI_clamp (by omega)]
  | true =>
    rw [if_neg (fun h => by rw [hb.mp h] at hg; cases hg), if_neg (by decide), if_pos rfl]
theorem kv_k (D : Md σ M k c x) (R : Rok c m x n nc) {r : Nat} (hr : r < 8) : f_X10_valueOf M (nI r) σ = some (kvE c x n r, σ) := by
  have h24 := R.2.1.2.2.1
  obtain ⟨w, hw, ew⟩ := R.2.1.2.2.2.2.2.2.1 r hr
  unfold f_X10_valueOf f_X10_valueOf_0 f_X10_valueOf_27 kvE
  rw [if_pos D.1, isLetGo_k D R.xs R.2.1.2.2.2.1 hr, osb]
  dsimp only
  cases hg : goneE c x n r with
  | false =>
    rw [if_pos (by simp [b2i]), if_neg (by decide), xa_k D, osb, osb, row_k D (by omega), osb, ew, rowl D (9 + w) (v := 9 + nI w) (nI_p 9 w) (by omega), osb, nI_clamp (by omega)]
  | true =>
    rw [if_neg (by simp [b2i]), if_pos rfl]
theorem wt_l (D : Mc σ a p c m x n nc) (v : Int32) : ∀ (q i fu : Nat), i + q = n → q < fu → f_X3_waitersFor_4 fu a v (nI (cntN (wtE x v) i)) (nI i) σ = some (nI (cntN (wtE x v) n), σ)
  | 0, i, fu, hi, hf => by
    obtain ⟨f, rfl⟩ : ∃ f, fu = f + 1 := ⟨fu - 1, by omega⟩
    have h12 := D.n12
    obtain rfl : i = n := by omega
    rw [e_X3_waitersFor_4, D.f.2.2.2.1, osb, if_pos (nI_le (Nat.le_refl _) (by omega))]
  | q + 1, i, fu, hi, hf => by
    obtain ⟨f, rfl⟩ : ∃ f, fu = f + 1 := ⟨fu - 1, by omega⟩
    have h12 := D.n12
    have ih := wt_l D v q (i + 1) f (by omega) (by omega)
    obtain ⟨-, -, ⟨c1, c2⟩, ⟨d1, d2⟩⟩ := D.e (i := i) (by omega)
    rw [e_X3_waitersFor_4, D.f.2.2.2.1, osb, if_neg (nI_ge (by omega) (by omega)), done_c D (by omega), osb]
    unfold f_X3_waitersFor_40 f_X3_waitersFor_43
    dsimp only
    cases hd : hasB x i 1 with
    | true =>
      rw [if_neg (by simp [b2i]), nI_1]
      simp only [cntN, wtE, hd, Bool.not_true, Bool.false_and] at ih
      exact ih
    | false =>
      rw [if_pos (by simp [b2i]), c1, osb, c2, osb]
      by_cases h1 : x (39 + 13 * i + 2) = v
      · rw [if_pos h1, nI_1, nI_1]
        simp only [cntN, wtE, hd, rdE, h1, decide_true, Bool.not_false, Bool.true_and, Bool.true_or, if_true] at ih
        exact ih
      · rw [if_neg h1, d1, osb, d2, osb]
        by_cases h2 : x (39 + 13 * i + 3) = v
        · rw [if_pos h2, nI_1, nI_1]
          simp only [cntN, wtE, hd, rdE, h2, decide_true, Bool.not_false, Bool.true_and, Bool.or_true, if_true] at ih
          exact ih
        · rw [if_neg h2, nI_1]
          simp only [cntN, wtE, hd, rdE, h1, h2, decide_false, Bool.not_false, Bool.true_and, Bool.or_false, Bool.false_eq_true, if_false] at ih
          exact ih
theorem wt_c (D : Mc σ a p c m x n nc) (v : Int32) : f_X3_waitersFor a v σ = some (nI (cntN (wtE x v) n), σ) := by
  have h12 := D.n12
  unfold f_X3_waitersFor f_X3_waitersFor_0
  rw [if_pos D.t]
  exact wt_l D v n 0 FU (by omega) (by unfold FU; omega)
end Ask
