/-! CYCLES by how many cells: the reference's -/
def crE (c : Nat → Nat → Int32) (nc : Nat) (x : Nat → Int32) : Int32 := nI nc - nI (cntN (freE c x (nN x)) nc)
/-- so many cycles more, from a row on: the row, how many cycles, misses, the crowd -/
def goE (c : Nat → Nat → Int32) (nc : Nat) : Nat → (Nat → Int32) → Nat → Int32 → Int32 → (Nat → Int32) × Nat × Int32 × Int32
  | 0, x, n, u, v => (x, n, u, v)
  | q + 1, x, n, u, v => if ovE c x (nN x) = true then (x, n, u, v) else goE c nc q (cyE c nc x).1 (n + 1) (u + b2i (cyE c nc x).2) (jmax v (crE c nc (cyE c nc x).1))
def FrQ (M : Nat) (σ τ : St) : Prop := Fr (fun r => r = M) σ τ ∧ ∀ q, (q < 26 ∨ 30 < q) → hI τ M q = hI σ M q
theorem FrQ.refl {M : Nat} {σ : St} : FrQ M σ σ := ⟨Fr.refl, fun _ _ => rfl⟩
theorem FrQ.trans {M : Nat} {σ τ υ : St} (h : FrQ M σ τ) (g : FrQ M τ υ) : FrQ M σ υ := ⟨h.1.trans g.1, fun q h1 => (g.2 q h1).trans (h.2 q h1)⟩
theorem FrQ.s0 {M j : Nat} {σ : St} {v : Int32} (h : 26 ≤ j) (h2 : j ≤ 30) : FrQ M σ (sI σ M j v) := ⟨Fr.s0 rfl, fun q h1 => hI_sIn (Or.inr (by omega))⟩
theorem FrC.q {M : Nat} {σ τ : St} (h : FrC M σ τ) : FrQ M σ τ := ⟨h.1, fun q h1 => h.2 q (by omega) (by omega)⟩
theorem cnt_setN {p : Nat → Bool} {nc : Nat} (h : nc ≤ 32) : cntN (bt (setN p nc)) 32 = cntN p nc := by
  rw [cntN_congr (q := fun i => decide (i < nc) && p i) (fun i hi => b_setN h hi), cntN_lim h]
section Goes
variable {σ τ : St} {M k : Nat} {c : Nat → Nat → Int32} {m : Nat} {x x0 : Nat → Int32} {n n' nc : Nat}
theorem goE_o {q : Nat} {u v : Int32} (h : ovE c x (nN x) = true) : goE c nc (q + 1) x n u v = (x, n, u, v) := by simp only [goE, if_pos h]
theorem goE_s {q : Nat} {u v : Int32} (h : ovE c x (nN x) = false) : goE c nc (q + 1) x n u v = goE c nc q (cyE c nc x).1 (n + 1) (u + b2i (cyE c nc x).2) (jmax v (crE c nc (cyE c nc x).1)) := by simp only [goE, h, Bool.false_eq_true, if_false]
theorem goes_l : ∀ (q n fu : Nat) (σ : St) (x x0 : Nat → Int32) (u v : Int32), n + q = 300 → q < fu → Md σ M k c x0 → hI σ M 26 = nI nc → hI σ M 28 = nI n → hI σ M 29 = u → hI σ M 30 = v → Rk c m x nc → ∃ τ, f_X10_goes_20 fu M (nI nc) (sR σ (M + 4) x) = some (sR τ (M + 4) (goE c nc q x n u v).1) ∧ FrQ M σ τ ∧ Md τ M k c x0 ∧ hI τ M 26 = nI nc ∧ hI τ M 28 = nI (goE c nc q x n u v).2.1 ∧ hI τ M 29 = (goE c nc q x n u v).2.2.1 ∧ hI τ M 30 = (goE c nc q x n u v).2.2.2
  | 0, n, fu, σ, x, x0, u, v, hn, hf, D, h26, h28, h29, h30, K => by
    obtain ⟨f, rfl⟩ : ∃ f, fu = f + 1 := ⟨fu - 1, by omega⟩
    obtain rfl : n = 300 := by omega
    have e : hI (sR σ (M + 4) x) M = hI σ M := hI_sRn (by omega)
    rw [e_X10_goes_20, gI_k (D.to x).1, osb, e, h28, if_pos (by decide)]
    exact ⟨σ, rfl, FrQ.refl, D, h26, h28, h29, h30⟩
  | q + 1, n, fu, σ, x, x0, u, v, hn, hf, D, h26, h28, h29, h30, K => by
    obtain ⟨f, rfl⟩ : ∃ f, fu = f + 1 := ⟨fu - 1, by omega⟩
    have e : hI (sR σ (M + 4) x) M = hI σ M := hI_sRn (by omega)
    have h12 := K.1.n12
    have h24 := K.1.2.1.2.2.1
    have hend : ovE c x (nN x) = true → ∃ τ, f_X10_goes_107 (sR σ (M + 4) x) = some (sR τ (M + 4) (goE c nc (q + 1) x n u v).1) ∧ FrQ M σ τ ∧ Md τ M k c x0 ∧ hI τ M 26 = nI nc ∧ hI τ M 28 = nI (goE c nc (q + 1) x n u v).2.1 ∧ hI τ M 29 = (goE c nc (q + 1) x n u v).2.2.1 ∧ hI τ M 30 = (goE c nc (q + 1) x n u v).2.2.2 := fun ho => by
      rw [goE_o ho]
      exact ⟨σ, rfl, FrQ.refl, D, h26, h28, h29, h30⟩
    have hgo : ovE c x (nN x) = false → ∃ τ, f_X10_goes_67 (f_X10_goes_20 f) M (nI nc) (sR σ (M + 4) x) = some (sR τ (M + 4) (goE c nc (q + 1) x n u v).1) ∧ FrQ M σ τ ∧ Md τ M k c x0 ∧ hI τ M 26 = nI nc ∧ hI τ M 28 = nI (goE c nc (q + 1) x n u v).2.1 ∧ hI τ M 29 = (goE c nc (q + 1) x n u v).2.2.1 ∧ hI τ M 30 = (goE c nc (q + 1) x n u v).2.2.2 := fun ho => by
      rw [goE_s ho]
      obtain ⟨τ, t1, t2, t3, t4, t5⟩ := rcy_k D h26 K
      generalize cyE c nc x = y at t1 t4 t5 ⊢
      unfold f_X10_goes_67 f_X10_goes_104
      have e2 : hI (sR τ (M + 4) y.1) M = hI τ M := hI_sRn (by omega)
      rw [t1, osb, gI_k (t3.to y.1).1, osb, e2, t2.2 28 (by omega) (by omega), h28, nI_1, pI_k (t3.to y.1).1, osb, sI_sRc (by omega)]
      have D3 := t3.setM (j := 28) (nI (n + 1))
      have F3 : FrQ M σ (sI τ M 28 (nI (n + 1))) := t2.q.trans (FrQ.s0 (by omega) (by omega))
      have g26 : hI (sI τ M 28 (nI (n + 1))) M 26 = nI nc := by rw [hI_sIn (Or.inr (by omega)), t2.2 26 (by omega) (by omega)]; exact h26
      have g28 : hI (sI τ M 28 (nI (n + 1))) M 28 = nI (n + 1) := hI_sIe
      have g29 : hI (sI τ M 28 (nI (n + 1))) M 29 = u + b2i y.2 := by rw [hI_sIn (Or.inr (by omega)), t4, h29]
      have g30 : hI (sI τ M 28 (nI (n + 1))) M 30 = v := by rw [hI_sIn (Or.inr (by omega)), t2.2 30 (by omega) (by omega)]; exact h30
      generalize sI τ M 28 (nI (n + 1)) = ω at D3 F3 g26 g28 g29 g30 ⊢
      have e3 : hI (sR ω (M + 4) y.1) M = hI ω M := hI_sRn (by omega)
      rw [free_k (D3.to y.1) t5.1.xs t5.1.2.1.2.2.2.1 (nc := nc) (by rw [e3]; exact g26) h24, osb]
      dsimp only
      rw [bits_k _ (by rw [b_setN (by omega) (by omega), decide_eq_false (by omega)]; rfl), osb, bndu, cnt_setN (by omega), gI_k (D3.to y.1).1, osb, e3, g30]
      show ∃ τ, (if crE c nc y.1 ≤ v then _ else _) = _ ∧ _
      by_cases hc : crE c nc y.1 ≤ v
      · have hj : jmax v (crE c nc y.1) = v := if_neg (Int32.not_lt.mpr hc)
        rw [if_pos hc, hj]
        obtain ⟨υ, u1, u2, u3⟩ := goes_l q (n + 1) f ω y.1 x0 (u + b2i y.2) v (by omega) (by omega) D3 g26 g28 g29 g30 t5
        exact ⟨υ, u1, F3.trans u2, u3⟩
      · have hj : jmax v (crE c nc y.1) = crE c nc y.1 := if_pos (Int32.not_le.mp hc)
        rw [if_neg hc, hj, pI_k (D3.to y.1).1, osb, sI_sRc (by omega)]
        obtain ⟨υ, u1, u2, u3⟩ := goes_l q (n + 1) f (sI ω M 30 (crE c nc y.1)) y.1 x0 (u + b2i y.2) (crE c nc y.1) (by omega) (by omega) (D3.setM _) (by rw [hI_sIn (Or.inr (by omega))]; exact g26) (by rw [hI_sIn (Or.inr (by omega))]; exact g28) (by rw [hI_sIn (Or.inr (by omega))]; exact g29) hI_sIe t5
        exact ⟨υ, u1, (F3.trans (FrQ.s0 (by omega) (by omega))).trans u2, u3⟩
    rw [e_X10_goes_20, gI_k (D.to x).1, osb, e, h28, if_neg (show ¬ (300 : Int32) ≤ nI n from nI_ge (a := n) (b := 300) (by omega) (by omega)), xa_k (D.to x), osb, r36_k (D.to x), osb]
    rcases K.1.2.1.2.2.2.2.1 with h36 | h36
    · rw [if_pos h36, osb, r34_k (D.to x), osb, K.1.2.1.2.2.2.1]
      by_cases h0 : nN x = 0
      · rw [h0, if_neg (by decide), core_k (D.to x), osb, osb, r35_k (D.to x), osb, step_k (D.to x), osb]
        dsimp only
        by_cases hs : x 35 < 0 ∨ c 0 5 ≤ x 35
        · rw [decide_eq_true hs, if_pos (by decide)]
          exact hend (by unfold ovE; rw [h0, decide_eq_true hs]; simp)
        · rw [decide_eq_false hs, if_neg (by decide)]
          exact hgo (by unfold ovE; rw [h0, decide_eq_false hs, h36]; decide)
      · rw [if_pos (show (0 : Int32) < nI (nN x) from nI_lt (a := 0) (by omega) (by omega))]
        exact hgo (by unfold ovE; rw [h36, decide_eq_false h0]; rfl)
    · rw [if_neg (by rw [h36]; decide)]
      exact hend (by unfold ovE; rw [h36]; simp)
theorem goE_ru : ∀ (q n : Nat) (x : Nat → Int32) (u v : Int32) (b : Nat), Rk c m x nc → Ru x b → Ru (goE c nc q x n u v).1 (b + 2 * q) ∧ Rk c m (goE c nc q x n u v).1 nc ∧ n ≤ (goE c nc q x n u v).2.1 ∧ (goE c nc q x n u v).2.1 ≤ n + q
  | 0, n, x, u, v, b, K, U => ⟨U, K, Nat.le_refl _, Nat.le_refl _⟩
  | q + 1, n, x, u, v, b, K, U => by
    cases ho : ovE c x (nN x) with
    | true =>
      rw [goE_o ho]
      obtain ⟨u1, u2, w, hw, ew⟩ := U
      exact ⟨⟨u1, u2, w, by omega, ew⟩, K, Nat.le_refl _, Nat.le_add_right _ _⟩
    | false =>
      rw [goE_s ho]
      obtain ⟨U', K'⟩ := cy_ru K U
      generalize cyE c nc x = y at U' K' ⊢
      obtain ⟨g1, g2, g3, g4⟩ := goE_ru q (n + 1) y.1 (u + b2i y.2) (jmax v (crE c nc y.1)) (b + 2) K' U'
      exact ⟨by rw [show b + 2 * (q + 1) = b + 2 + 2 * q by omega]; exact g1, g2, by omega, by omega⟩
end Goes
