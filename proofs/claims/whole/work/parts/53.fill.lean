/-! Arrays.fill over a row of ints -/
section Fill
variable {σ : St} {b N : Nat}
theorem ws_r {y : Nat → Int32} {j : Nat} {v : Int32} (h1 : hT σ b = 22) (h2 : hN σ b = N) (hj : j < N) (hN' : N ≤ 100000) : xI b (nI j) v (sR σ b y) = some (sR σ b (ux y j v)) := by
  rw [xI_k (σ := sR σ b y) h1 h2 hj hN', sI_sR]
theorem fill_l (h1 : hT σ b = 22) (h2 : hN σ b = N) (hN' : N ≤ 4000) (v : Int32) (y : Nat → Int32) : ∀ (q i fu : Nat), i + q = N → q < fu → f_J7_fill_53178_5 fu b v (nI i) (nI N) (sR σ b (fil y 0 (fun _ => v) i)) = some (sR σ b (fil y 0 (fun _ => v) N))
  | 0, i, fu, hi, hf => by
    obtain ⟨f, rfl⟩ : ∃ f, fu = f + 1 := ⟨fu - 1, by omega⟩
    obtain rfl : i = N := by omega
    rw [e_J7_fill_53178_5, if_pos (nI_le (Nat.le_refl _) (by omega))]
  | q + 1, i, fu, hi, hf => by
    obtain ⟨f, rfl⟩ : ∃ f, fu = f + 1 := ⟨fu - 1, by omega⟩
    have ih := fill_l h1 h2 hN' v y q (i + 1) f (by omega) (by omega)
    rw [fil_s, Nat.zero_add, ← nI_1] at ih
    rw [e_J7_fill_53178_5, if_neg (nI_ge (by omega) (by omega)), ws_r h1 h2 (by omega) (by omega), osb]
    exact ih
theorem fill_k (h1 : hT σ b = 22) (h2 : hN σ b = N) (hN' : N ≤ 4000) (ha : aN b σ = some (nI N)) (v : Int32) : f_J7_fill_53178 b v σ = some (sR σ b (fil (hI σ b) 0 (fun _ => v) N)) := by
  have := fill_l h1 h2 hN' v (hI σ b) N 0 FU (by omega) (by unfold FU; omega)
  rw [fil_0, nI_0, sR_id] at this
  unfold f_J7_fill_53178 f_J7_fill_53178_0
  rw [ha, osb]
  exact this
end Fill
