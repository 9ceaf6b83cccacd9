/-! WHAT A ROW KEEPS, on -/
section Keep2
variable {c : Nat → Nat → Int32} {m : Nat} {x y : Nat → Int32} {n n' nc : Nat}
theorem rn_pt (X : Xok c m x n nc) {i : Nat} (hi : i < n) : (∀ j, j ≤ 8 ∨ (35 < j ∧ j < 39) ∨ (39 ≤ j ∧ j ≠ 39 + 13 * i + 4) → rnE c x i j = x j) ∧ rnE c x i 34 = nI (rnN c x i n) ∧ hasB (rnE c x i) i 4 = hasB x i 4 ∧ hasB (rnE c x i) i 8 = false := by
  have h12 := X.1
  have h24 := X.2.2.1
  have x34 := X.2.2.2.1
  obtain ⟨k1, k2, k3, k4⟩ := mk_bt (x (39 + 13 * i + 4))
  obtain ⟨-, -, e3, -⟩ := hasB_bt x i
  obtain ⟨-, -, d3, d4⟩ := hasB_bt (rnE c x i) i
  rw [d3, d4, e3]
  have hN : rnN c x i n = if c 1 (sS x i) = 5 ∧ ¬ nxE c (sS x i) (vlE x (x (39 + 13 * i + 2))) (vlE x (x (39 + 13 * i + 3))) = gsE c (sS x i) then i + 1 else n := by
    unfold rnN msE
    by_cases h5 : c 1 (sS x i) = 5
    · by_cases hg : nxE c (sS x i) (vlE x (x (39 + 13 * i + 2))) (vlE x (x (39 + 13 * i + 3))) = gsE c (sS x i) <;> simp [h5, hg]
    · simp [h5]
  rw [hN, rnE_2]
  unfold rn2
  by_cases h5 : c 1 (sS x i) = 5
  · simp only [h5, if_true, true_and]
    by_cases hg : nxE c (sS x i) (vlE x (x (39 + 13 * i + 2))) (vlE x (x (39 + 13 * i + 3))) = gsE c (sS x i)
    · simp only [if_pos hg]
      rw [if_neg (fun h => h hg)]
      refine ⟨fun j hj => ux_n (by omega), by rw [ux_n (by omega)]; exact x34, by rw [ux_e, k3], by rw [ux_e, k4]⟩
    · simp only [if_neg hg]
      rw [if_pos hg]
      refine ⟨fun j hj => by rw [ux_n (by omega), ux_n (by omega), ux_n (by omega)], by rw [ux_n (by omega), ux_e, nI_1], by rw [ux_n (by omega), ux_n (by omega), ux_e, k3], by rw [ux_n (by omega), ux_n (by omega), ux_e, k4]⟩
  · simp only [if_neg h5]
    rw [if_neg (show ¬ (c 1 (sS x i) = 5 ∧ ¬ nxE c (sS x i) (vlE x (x (39 + 13 * i + 2))) (vlE x (x (39 + 13 * i + 3))) = gsE c (sS x i)) from fun h => h5 h.1)]
    by_cases ht : c 1 (sS x i) = 3 ∧ vlE x (x (39 + 13 * i + 3)) = 0
    · rw [if_pos ht]
      refine ⟨fun j hj => by rw [ux_n (by omega), ux_n (by omega)], by rw [ux_n (by omega), ux_n (by omega)]; exact x34, ?_, ?_⟩
      · rw [ux_e, ux_e, b_or, k3, show bt 2 2 = false by decide, Bool.or_false]
      · rw [ux_e, ux_e, b_or, k4, show bt 2 3 = false by decide, Bool.or_false]
    · rw [if_neg ht]
      have h2 := (X.2.2.2.2.2.2.2 i hi).2.1
      rw [if_neg (show ¬ kdE c x i = 5 from h5)] at h2
      obtain ⟨w, hw, ew⟩ := h2
      rw [ew, nI_clamp (show w < 2 ^ 31 by omega)]
      refine ⟨fun j hj => by rw [ux_n (by omega), ux_n (by omega), ux_n (by omega)], by rw [ux_n (by omega), ux_n (by omega), ux_n (by omega)]; exact x34, by rw [ux_n (by omega), ux_n (by omega), ux_e, k3], by rw [ux_n (by omega), ux_n (by omega), ux_e, k4]⟩
theorem rnN_le {i : Nat} (hi : i < n) : rnN c x i n ≤ n ∧ i < rnN c x i n := by
  unfold rnN
  by_cases h : msE c x i = true
  · rw [if_pos h]; omega
  · rw [if_neg h]; omega
theorem keep_rn (X : Xok c m x n nc) (O : Xo2 c x n) {i : Nat} (hi : i < n) : Xok c m (rnE c x i) (rnN c x i n) nc ∧ Xo2 c (rnE c x i) (rnN c x i n) := by
  obtain ⟨p1, p2, p3, p4⟩ := rn_pt X hi
  have hle := (rnN_le (c := c) (x := x) hi).1
  refine ⟨X.of hle p2 (fun j hj => p1 j (by omega)) (by rw [p1 36 (by omega)]; exact X.2.2.2.2.1) (fun j hj f hf => p1 _ (by omega)), O.of hle (fun r hr => p1 r (by omega)) (fun j hj f hf h4 => p1 _ (by omega)) (fun j hj => ?_)⟩
  by_cases h : j = i
  · subst h
    rw [p3, p4]
    exact ⟨id, fun h => by cases h⟩
  · have : ∀ q, hasB (rnE c x i) j q = hasB x j q := fun q => by unfold hasB; rw [p1 _ (by omega)]
    rw [this, this]
    exact ⟨id, id⟩
theorem keep_rnV (X : Xok c m x n nc) (C : Cok c m) (V : Xv x) {i : Nat} (hi : i < n) : Xv (rnE c x i) := fun q hq => by
  have h12 := X.1
  have h24 := X.2.2.1
  have hm := C.1
  obtain ⟨⟨s, hs, es⟩, h2, h3, h4⟩ := X.2.2.2.2.2.2.2 i hi
  have ess : sS x i = s := by unfold sS; rw [es, nI_clamp (by omega)]
  rw [rnE_2, ess]
  unfold rn2
  by_cases h5 : c 1 s = 5
  · simp only [h5, if_true]
    by_cases hg : nxE c s (vlE x (x (39 + 13 * i + 2))) (vlE x (x (39 + 13 * i + 3))) = gsE c s
    · simp only [if_pos hg]; rw [ux_n (by omega)]; exact V q hq
    · simp only [if_neg hg]; rw [ux_n (by omega), ux_n (by omega), ux_n (by omega)]; exact V q hq
  · simp only [if_neg h5]
    by_cases ht : c 1 s = 3 ∧ vlE x (x (39 + 13 * i + 3)) = 0
    · rw [if_pos ht, ux_n (by omega), ux_n (by omega)]; exact V q hq
    · rw [if_neg ht]
      rw [if_neg (show ¬ kdE c x i = 5 by unfold kdE; rw [ess]; exact h5)] at h2
      obtain ⟨w, hw, ew⟩ := h2
      rw [ew, nI_clamp (show w < 2 ^ 31 by omega), ux_n (by omega)]
      by_cases hqw : q = w
      · rw [hqw, ux_e]
        obtain ⟨u, hu, eu⟩ := vl_ok V (h3.mono h24)
        obtain ⟨v, hv, ev⟩ := vl_ok V (h4.mono h24)
        unfold ouE
        by_cases h0 : c 1 s = 0
        · rw [if_pos h0]; exact (C.2.2.2.2.2.2 s hs).2.2.2.2.1
        · rw [if_neg h0]
          by_cases h4' : c 1 s = 4
          · rw [if_pos h4']; exact ⟨u, hu, eu⟩
          · rw [if_neg h4', eu, ev]
            exact cm_ok hu hv (fun h => ht ⟨h.1, by rw [ev, h.2]; rfl⟩)
      · rw [ux_n (by omega), ux_n (by omega)]; exact V q hq
/-- a commit that doesn't trap, point by point -/
theorem co_pt (X : Xok c m x n nc) (C : Cok c m) (h0 : 0 < n) (ht : hasB x 0 2 = false) : (∀ r, r < 8 → coE c x r = if toE c x 0 = nI r then x 40 else x r) ∧ (∀ i f, i + 1 < n → f < 13 → coE c x (39 + 13 * i + f) = x (39 + 13 * (i + 1) + f)) ∧ coE c x 34 = nI (n - 1) ∧ (∀ j, 8 < j → j < 39 → j ≠ 34 → j ≠ 37 → coE c x j = x j) ∧ coE c x 8 = (if toE c x 0 = -1 then x 8 else x 8 &&& (jshl 1 (toE c x 0) ^^^ (-1))) := by
  have h12 := X.1
  have x34 := X.2.2.2.1
  obtain ⟨⟨s, hs, es⟩, h2, h3, h4⟩ := X.2.2.2.2.2.2.2 0 h0
  have hm := C.1
  have ess : sS x 0 = s := by unfold sS; rw [es, nI_clamp (by omega)]
  have hto := (C.2.2.2.2.2.2 s hs).2.1
  have eto : toE c x 0 = c 2 s := by unfold toE; rw [ess]
  have e34 : x 34 - 1 = nI (n - 1) := by
    obtain ⟨k, rfl⟩ : ∃ k, n = k + 1 := ⟨n - 1, by omega⟩
    rw [x34, nI_pred]; rfl
  unfold coE
  rw [if_neg (by rw [ht]; decide), e34]
  have lo : ∀ (y : Nat → Int32) j, j < 39 → shf y 143 j = y j := fun y j h => if_neg (by omega)
  have hi' : ∀ (y : Nat → Int32) i f, i + 1 < n → f < 13 → shf y 143 (39 + 13 * i + f) = y (39 + 13 * (i + 1) + f) := fun y i f h hf => by
    unfold shf; rw [if_pos (by omega)]; congr 1; omega
  by_cases h5 : c 1 s = 5
  · rw [if_pos h5] at hto
    have hm1 : toE c x 0 = -1 := by rw [eto, hto]
    simp only [hm1, if_true]
    refine ⟨fun r hr => ?_, fun i f hi hf => ?_, ?_, fun j h8 h9 h34 h37 => ?_, ?_⟩
    · rw [ux_n (by omega), ux_n (by omega), lo _ _ (by omega), if_neg (fun h => nI_nm1 (w := r) (by omega) h.symm)]
    · rw [ux_n (by omega), ux_n (by omega), hi' _ _ _ hi hf]
    · rw [ux_n (by omega), ux_e]
    · rw [ux_n h37, ux_n h34, lo _ _ h9]
    · rw [ux_n (by omega), ux_n (by omega), lo _ _ (by omega)]
  · rw [if_neg h5] at hto
    obtain ⟨r0, hr0, er0⟩ := hto
    have hm1 : toE c x 0 = nI r0 := by rw [eto, er0]
    simp only [hm1, if_neg (nI_nm1 (show r0 < 2 ^ 31 by omega)), nI_clamp (show r0 < 2 ^ 31 by omega)]
    refine ⟨fun r hr => ?_, fun i f hi hf => ?_, ?_, fun j h8 h9 h34 h37 => ?_, ?_⟩
    · rw [ux_n (by omega), ux_n (by omega), lo _ _ (by omega), ux_n (by omega)]
      by_cases h : r = r0
      · rw [h, ux_e, if_pos rfl]
      · rw [ux_n h, if_neg (fun e => h ((nI_eq (by omega) (by omega)).mp e).symm)]
    · rw [ux_n (by omega), ux_n (by omega), hi' _ _ _ hi hf, ux_n (by omega), ux_n (by omega)]
    · rw [ux_n (by omega), ux_e]
    · rw [ux_n h37, ux_n h34, lo _ _ h9, ux_n (by omega), ux_n (by omega)]
    · rw [ux_n (by omega), ux_n (by omega), lo _ _ (by omega), ux_e]
theorem map_co (X : Xok c m x n nc) (C : Cok c m) (h0 : 0 < n) (ht : hasB x 0 2 = false) {r : Nat} (hr : r < 8) : ∀ i, i + 1 ≤ n → mapE c (coE c x) r i = mapE c x r (i + 1)
  | 0, _ => by
    show coE c x r = _
    rw [(co_pt X C h0 ht).1 r hr]
    rfl
  | i + 1, hi => by
    have ih := map_co X C h0 ht hr i (by omega)
    have e0 := (co_pt X C h0 ht).2.1 i 0 (by omega) (by omega)
    rw [Nat.add_zero, Nat.add_zero] at e0
    have e1 := (co_pt X C h0 ht).2.1 i 1 (by omega) (by omega)
    have hte : toE c (coE c x) i = toE c x (i + 1) := by unfold toE sS; rw [e0]
    have l : mapE c (coE c x) r (i + 1) = if toE c (coE c x) i = nI r then coE c x (39 + 13 * i + 1) else mapE c (coE c x) r i := rfl
    have l2 : mapE c x r (i + 1 + 1) = if toE c x (i + 1) = nI r then x (39 + 13 * (i + 1) + 1) else mapE c x r (i + 1) := rfl
    rw [l, l2, hte, e1, ih]
end Keep2
