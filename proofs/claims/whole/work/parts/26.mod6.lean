/-! THE REFERENCE's core functions: commits and runs -/
theorem nI_nm2 {w : Nat} (h : w < 2 ^ 31) : ¬ nI w = -2 := fun e => by
  have := congrArg Int32.toInt e
  rw [nI_toInt h] at this
  simp at this
section Mod6
variable {σ : St} {M k : Nat} {c : Nat → Nat → Int32} {x : Nat → Int32} {n : Nat}
theorem shf_0 {y : Nat → Int32} : shf y 0 = y := by funext j; exact if_neg (by omega)
theorem w8 (D : Md σ M k c x) (y : Nat → Int32) {v : Int32} : xI (M + 4) 8 v (sR σ (M + 4) y) = some (sR σ (M + 4) (ux y 8 v)) := ws D y 8 (by omega) rfl
theorem w33 (D : Md σ M k c x) (y : Nat → Int32) {v : Int32} : xI (M + 4) 33 v (sR σ (M + 4) y) = some (sR σ (M + 4) (ux y 33 v)) := ws D y 33 (by omega) rfl
theorem w34 (D : Md σ M k c x) (y : Nat → Int32) {v : Int32} : xI (M + 4) 34 v (sR σ (M + 4) y) = some (sR σ (M + 4) (ux y 34 v)) := ws D y 34 (by omega) rfl
theorem w35 (D : Md σ M k c x) (y : Nat → Int32) {v : Int32} : xI (M + 4) 35 v (sR σ (M + 4) y) = some (sR σ (M + 4) (ux y 35 v)) := ws D y 35 (by omega) rfl
theorem w36 (D : Md σ M k c x) (y : Nat → Int32) {v : Int32} : xI (M + 4) 36 v (sR σ (M + 4) y) = some (sR σ (M + 4) (ux y 36 v)) := ws D y 36 (by omega) rfl
theorem w37 (D : Md σ M k c x) (y : Nat → Int32) {v : Int32} : xI (M + 4) 37 v (sR σ (M + 4) y) = some (sR σ (M + 4) (ux y 37 v)) := ws D y 37 (by omega) rfl
theorem w38 (D : Md σ M k c x) (y : Nat → Int32) {v : Int32} : xI (M + 4) 38 v (sR σ (M + 4) y) = some (sR σ (M + 4) (ux y 38 v)) := ws D y 38 (by omega) rfl
theorem we (D : Md σ M k c x) (y : Nat → Int32) {i : Nat} (hi : i < 12) (f : Nat) (hf : f < 13) {u v : Int32} (hu : u = nI f) : xI (M + 4) (nI (39 + 13 * i) + u) v (sR σ (M + 4) y) = some (sR σ (M + 4) (ux y (39 + 13 * i + f) v)) := ws D y _ (by omega) (by rw [hu]; exact nI_p _ _)
theorem we1 (D : Md σ M k c x) (y : Nat → Int32) {i : Nat} (hi : i < 12) {v : Int32} : xI (M + 4) (nI (39 + 13 * i) + 1) v (sR σ (M + 4) y) = some (sR σ (M + 4) (ux y (39 + 13 * i + 1) v)) := we D y hi 1 (by omega) rfl
theorem we2 (D : Md σ M k c x) (y : Nat → Int32) {i : Nat} (hi : i < 12) {v : Int32} : xI (M + 4) (nI (39 + 13 * i) + 2) v (sR σ (M + 4) y) = some (sR σ (M + 4) (ux y (39 + 13 * i + 2) v)) := we D y hi 2 (by omega) rfl
theorem we3 (D : Md σ M k c x) (y : Nat → Int32) {i : Nat} (hi : i < 12) {v : Int32} : xI (M + 4) (nI (39 + 13 * i) + 3) v (sR σ (M + 4) y) = some (sR σ (M + 4) (ux y (39 + 13 * i + 3) v)) := we D y hi 3 (by omega) rfl
theorem we4 (D : Md σ M k c x) (y : Nat → Int32) {i : Nat} (hi : i < 12) {v : Int32} : xI (M + 4) (nI (39 + 13 * i) + 4) v (sR σ (M + 4) y) = some (sR σ (M + 4) (ux y (39 + 13 * i + 4) v)) := we D y hi 4 (by omega) rfl
theorem com_l (D : Md σ M k c x) (v : Int32) (y : Nat → Int32) : ∀ (m i fu : Nat), i + m = 143 → m < fu → f_X10_commitsOne_94 fu M v (nI (39 + i)) (sR σ (M + 4) (shf y i)) = some (v, sR σ (M + 4) (ux (ux (shf y 143) 34 (y 34 - 1)) 37 (y 37 + 1)))
  | 0, i, fu, hi, hf => by
    obtain ⟨f, rfl⟩ : ∃ f, fu = f + 1 := ⟨fu - 1, by omega⟩
    obtain rfl : i = 143 := by omega
    rw [e_X10_commitsOne_94, if_pos (by decide), xa_k (D.to _), osb, r34_k (D.to _), osb, w34 D _, osb, xa_k (D.to _), osb, r37_k (D.to _), osb, w37 D _, osb]
    rw [ux_n (by omega), show shf y 143 34 = y 34 from rfl, show shf y 143 37 = y 37 from rfl]
  | m + 1, i, fu, hi, hf => by
    obtain ⟨f, rfl⟩ : ∃ f, fu = f + 1 := ⟨fu - 1, by omega⟩
    have ih := com_l D v y m (i + 1) f (by omega) (by omega)
    rw [e_X10_commitsOne_94, if_neg (show ¬ (182 : Int32) ≤ nI (39 + i) from nI_ge (a := 39 + i) (b := 182) (by omega) (by omega)), xa_k (D.to _), osb, osb, rowl (D.to _) (39 + i + 13) (v := nI (39 + i) + 13) (nI_p _ 13) (by omega), osb, ws D _ (39 + i) (by omega) rfl, osb, ← shf_s, nI_1]
    exact ih
theorem com1_k (D : Md σ M k c x) (X : Xs x n) (h0 : 0 < n) (ht : toE c x 0 = -1 ∨ isN (toE c x 0) 8) : f_X10_commitsOne M (sR σ (M + 4) x) = some (cvE x, sR σ (M + 4) (coE c x)) := by
  have D1 := D.to x
  unfold f_X10_commitsOne f_X10_commitsOne_0 cvE coE f_X10_commitsOne_91
  rw [if_pos D1.1, xa_k D1, osb, show (0 : Int32) = nI 0 from rfl, at_k D1 0, osb]
  dsimp only
  rw [row_k D1 (j := 39 + 13 * 0) (by omega), osb, has_k D1 (by omega), osb]
  dsimp only
  cases h2 : hasB x 0 2 with
  | true =>
    rw [if_neg (by simp [b2i, nI_0])]
    simp only [if_true]
    rw [xa_k D1, osb, w34 D _, osb, xa_k (D.to _), osb, w36 D _, osb, xa_k (D.to _), osb, w35 D _, osb]
  | false =>
    rw [if_pos (by simp [b2i, nI_0]), reg_k D1 X h0, osb]
    simp only [Bool.false_eq_true, if_false]
    have hl := com_l D (x 39)
    by_cases hm : toE c x 0 = -1
    · rw [if_pos hm, if_pos hm]
      have := hl x 143 0 FU (by omega) (by unfold FU; omega)
      rw [shf_0] at this
      exact this
    · obtain ⟨r, hr, er⟩ := ht.resolve_left hm
      rw [if_neg hm, if_neg hm, er, nI_clamp (show r < 2 ^ 31 by omega), xa_k D1, osb, osb, at_k D1 0, osb]
      dsimp only
      rw [en1_k D1 (by omega), osb, ws D _ r (by omega) rfl, osb, xa_k (D.to _), osb, r8_k (D.to _), osb, w8 D _, osb]
      rw [show ux x r (x (39 + 13 * 0 + 1)) 8 = x 8 from ux_n (by omega)]
      have := hl (ux (ux x r (x 40)) 8 (x 8 &&& (jshl 1 (nI r) ^^^ (-1)))) 143 0 FU (by omega) (by unfold FU; omega)
      rw [shf_0, ux_n (i := 34) (by omega), ux_n (i := 34) (by omega), ux_n (i := 37) (by omega), ux_n (i := 37) (by omega)] at this
      exact this
theorem val_k (D : Md σ M k c x) {v : Int32} (hv : isC v 24) : v = -2 ∨ ∃ w, w < 24 ∧ v = nI w ∧ aI 22 (M + 4) (9 + v) σ = some (vlE x v) := by
  rcases hv with h | ⟨w, hw, rfl⟩
  · exact Or.inl h
  · refine Or.inr ⟨w, hw, rfl, ?_⟩
    rw [rowl D (9 + w) (v := 9 + nI w) (nI_p 9 w) (by omega)]
    have : ¬ nI w = -2 := fun h => by
      have := congrArg Int32.toInt h
      rw [nI_toInt (by omega)] at this
      simp at this
    simp [vlE, this, nI_clamp (show w < 2 ^ 31 by omega)]
end Mod6
