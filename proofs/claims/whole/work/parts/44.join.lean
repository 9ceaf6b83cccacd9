/-! CLASS AND REFERENCE: the same change of the same row -/
/-- what belongs to a row -/
def Rok (c : Nat → Nat → Int32) (m : Nat) (x : Nat → Int32) (n nc : Nat) : Prop := Cok c m ∧ Xok c m x n nc ∧ Xo2 c x n ∧ Xv x
section Join
variable {σ τ : St} {a p M k : Nat} {c : Nat → Nat → Int32} {m : Nat} {x y : Nat → Int32} {n n' nc : Nat}
theorem wnf0 (h : wnfE c x n nc = 0) (hc : c 0 5 = nI m) (hm : m ≤ 24) : ∃ s, s < m ∧ x 35 = nI s ∧ ¬ nI n = c 0 1 ∧ (¬ c 1 s = 5 → merE c x n s = false → lowE c x n nc ≠ none) ∧ ¬ x 36 = 1 := by
  unfold wnfE at h
  by_cases h1 : x 36 = 1
  · rw [if_pos h1] at h; exact absurd h (by decide)
  · rw [if_neg h1] at h
    by_cases h2 : x 35 < 0 ∨ c 0 5 ≤ x 35
    · rw [if_pos h2] at h; exact absurd h (by decide)
    · rw [if_neg h2] at h
      by_cases h3 : nI n = c 0 1
      · rw [if_pos h3] at h; exact absurd h (by decide)
      · rw [if_neg h3] at h
        obtain ⟨s, hs, es⟩ : ∃ s, s < m ∧ x 35 = nI s := by
          rcases pk_ix (x 35) (n := m) (by omega) with q | q | q
          · exact absurd (Or.inl q) h2
          · exact absurd (Or.inr (by rw [hc]; exact q)) h2
          · exact q
        rw [es, nI_clamp (by omega)] at h
        refine ⟨s, hs, es, h3, fun h5 hmg hl => ?_, h1⟩
        rw [if_neg h5, if_neg (by rw [hmg]; decide), if_pos hl] at h
        exact absurd h (by decide)
theorem take_j (D : Mc σ a p c m x n nc) (hd : p + 10 < a) (O : Xo2 c x n) (V : Xv x) (h : wnfE c x n nc = 0) : ∃ τ, f_X3_take a σ = some (x 35, τ) ∧ Fr (inM a) σ τ ∧ Mc τ a p c m (ftE c x n nc) (n + 1) nc ∧ Rok c m (ftE c x n nc) (n + 1) nc := by
  have C := D.2.2.2.2.1
  have X := D.2.2.2.2.2.2
  obtain ⟨s, hs, es, h3, hl, -⟩ := wnf0 h C.2.1 C.1
  obtain ⟨k1, k2, k3, k4⟩ := keep_ft X C O V hs es h3 hl
  obtain ⟨τ, t1, t2, t3⟩ := take_c D hd k1 hs es hl
  exact ⟨τ, by rw [es]; exact t1, t2, D.mk t2 hd t3 k2, C, k2, k3, k4⟩
theorem work_j (D : Mc σ a p c m x n nc) (hd : p + 10 < a) (O : Xo2 c x n) (V : Xv x) {i : Nat} (hi : i < n) : ∃ τ, f_X3_work a (nI i) σ = some (rvE c x i, τ) ∧ Fr (inM a) σ τ ∧ Mc τ a p c m (rnE c x i) (rnN c x i n) nc ∧ Rok c m (rnE c x i) (rnN c x i n) nc := by
  have C := D.2.2.2.2.1
  have X := D.2.2.2.2.2.2
  obtain ⟨τ, t1, t2, t3⟩ := work_c D O V hd hi
  obtain ⟨k1, k2⟩ := keep_rn X O hi
  exact ⟨τ, t1, t2, D.mk t2 hd t3 k1, C, k1, k2, keep_rnV X C V hi⟩
theorem wnc_eq (X : Xok c m x n nc) (O : Xo2 c x n) : (if n = 0 then 1 else if hasB x 0 1 = false then 2 else if hasB x 0 4 = true ∧ (decide (x 40 = -2) || !rdyE x (x 40)) = true then 3 else 0) = wncE x n := by
  unfold wncE
  by_cases h0 : n = 0
  · rw [if_pos h0, if_pos h0]
  · rw [if_neg h0, if_neg h0]
    cases h4 : hasB x 0 4 with
    | false => simp
    | true =>
      have hk := (O 0 (by omega)).1 h4
      have h2 := (X.2.2.2.2.2.2.2 0 (by omega)).2.1
      rw [if_neg (by rw [hk]; decide)] at h2
      obtain ⟨w, hw, ew⟩ := h2
      have h24 := X.2.2.1
      have hne : ¬ x 40 = -2 := by
        have ew' : x 40 = nI w := ew
        rw [ew']; exact nI_nm2 (by omega)
      simp [hne]
theorem wnr_j (D : Mc σ a p c m x n nc) (O : Xo2 c x n) : f_X3_whyNotRetire a σ = some (wncE x n, σ) := by
  rw [wnr_c D, wnc_eq D.2.2.2.2.2.2 O]
theorem retire_j (D : Mc σ a p c m x n nc) (hd : p + 10 < a) (O : Xo2 c x n) (V : Xv x) (h0 : 0 < n) : ∃ τ, f_X3_retire a σ = some (cvE x, τ) ∧ Fr (inM a) σ τ ∧ Mc τ a p c m (coE c x) (coN x n) nc ∧ Rok c m (coE c x) (coN x n) nc := by
  have C := D.2.2.2.2.1
  have X := D.2.2.2.2.2.2
  obtain ⟨τ, t1, t2, t3⟩ := retire_c D hd h0
  obtain ⟨k1, k2, k3⟩ := keep_co X C O V h0
  exact ⟨τ, t1, t2, D.mk t2 hd t3 k1, C, k1, k2, k3⟩
-- the reference
theorem Rok.n12 (R : Rok c m x n nc) : n ≤ 12 := R.2.1.1
theorem Rok.xs (R : Rok c m x n nc) : Xs x n := R.2.1.xs R.1.1
theorem Rok.c1 (R : Rok c m x n nc) {i : Nat} (hi : i < n) : isC (x (39 + 13 * i + 1)) 24 ∧ isC (x (39 + 13 * i + 2)) 24 ∧ isC (x (39 + 13 * i + 3)) 24 := by
  obtain ⟨-, h2, h3, h4⟩ := R.2.1.2.2.2.2.2.2.2 i hi
  have h24 := R.2.1.2.2.1
  refine ⟨?_, h3.mono h24, h4.mono h24⟩
  by_cases h : kdE c x i = 5
  · rw [if_pos h] at h2; exact Or.inl h2
  · rw [if_neg h] at h2; exact isC.mono (Or.inr h2) h24
theorem wnf_j (D : Md σ M k c x) (R : Rok c m x n nc) (hc : hI σ M 26 = nI nc) : f_X10_whyNoFetch M σ = some (wnfE c x n nc, σ) := by
  have C := R.1
  refine wnf_k D R.xs R.2.1.2.2.2.1 hc R.2.1.2.2.1 C.2.1 C.1 (fun s hs h4 => ?_) C.2.2.2.2.1
  have := (C.2.2.2.2.2.2 s hs).2.2.1
  rwa [if_neg (by rw [h4]; decide)] at this
theorem wnc_j (D : Md σ M k c x) (R : Rok c m x n nc) : f_X10_whyNoCommit M σ = some (wncE x n, σ) :=
  wnc_k D R.2.1.2.2.2.1 R.n12 (fun h => (R.c1 h).1)
theorem run_j (D : Md σ M k c x) (R : Rok c m x n nc) {i : Nat} (hi : i < n) : f_X10_isRunnable M (nI i) σ = some (b2i (runE x i), σ) := by
  have h12 := R.n12
  exact run_k D (by omega) (R.c1 hi).2.1 (R.c1 hi).2.2
theorem fet_j (D : Md σ M k c y) (R : Rok c m x n nc) (hc : hI σ M 26 = nI nc) (h : wnfE c x n nc = 0) : f_X10_fetches M (sR σ (M + 4) x) = some (x 35, sR σ (M + 4) (ftE c x n nc)) := by
  have C := R.1
  obtain ⟨s, hs, es, h3, hl, -⟩ := wnf0 h C.2.1 C.1
  have h12 := (keep_ft R.2.1 C R.2.2.1 R.2.2.2 hs es h3 hl).1
  have hm := C.1
  have hC := C.2.2.2.2.2.2 s hs
  have := fet_k ((D.to x)) R.xs R.2.1.2.2.2.1 h12 (nc := nc) (by rw [hI_sRn (by omega)]; exact hc) R.2.1.2.2.1 (s := s) (by omega) es (fun h0 => by have := hC.2.2.1; rwa [if_neg h0] at this) (fun h0 => by have := hC.2.2.2.1; rwa [if_neg h0] at this) C.2.2.2.2.1
  rw [sR_sR, sR_sR] at this
  rw [this, es]
theorem runs_j (D : Md σ M k c y) (R : Rok c m x n nc) {i : Nat} (hi : i < n) : f_X10_runsOne M (nI i) (sR σ (M + 4) x) = some (rvE c x i, sR (sI σ M 27 (b2i (msE c x i))) (M + 4) (rnE c x i)) := by
  have h12 := R.n12
  have h24 := R.2.1.2.2.1
  have := runs_k (D.to x) (show i < 12 by omega) (R.xs.2 i hi) (R.c1 hi).2.1 (R.c1 hi).2.2 (fun h5 => by
    have h2 := (R.2.1.2.2.2.2.2.2.2 i hi).2.1
    rw [if_neg (show ¬ kdE c x i = 5 from h5)] at h2
    obtain ⟨w, hw, ew⟩ := h2
    exact ⟨w, by omega, ew⟩)
  rw [sR_sR, sI_sRc (by omega), sR_sR] at this
  exact this
theorem com_j (D : Md σ M k c y) (R : Rok c m x n nc) (h0 : 0 < n) : f_X10_commitsOne M (sR σ (M + 4) x) = some (cvE x, sR σ (M + 4) (coE c x)) := by
  have C := R.1
  have := com1_k (D.to x) R.xs h0 (by
    obtain ⟨s, hs, es⟩ := (R.2.1.2.2.2.2.2.2.2 0 h0).1
    have hm := C.1
    have ess : sS x 0 = s := by unfold sS; rw [es, nI_clamp (by omega)]
    have hto := (C.2.2.2.2.2.2 s hs).2.1
    unfold toE
    rw [ess]
    by_cases h5 : c 1 s = 5
    · rw [if_pos h5] at hto; exact Or.inl hto
    · rw [if_neg h5] at hto; exact Or.inr hto)
  rw [sR_sR, sR_sR] at this
  exact this
end Join
