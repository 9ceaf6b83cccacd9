/-! A CYCLE: the reference's, whole -/
/-- the Model's own cell alone has changed, in its fields 27 (is there a miss) and 29 (how many) -/
def FrC (M : Nat) (σ τ : St) : Prop := Fr (fun r => r = M) σ τ ∧ ∀ q, q ≠ 27 → q ≠ 29 → hI τ M q = hI σ M q
theorem FrC.refl {M : Nat} {σ : St} : FrC M σ σ := ⟨Fr.refl, fun _ _ _ => rfl⟩
theorem FrC.trans {M : Nat} {σ τ υ : St} (h : FrC M σ τ) (g : FrC M τ υ) : FrC M σ υ := ⟨h.1.trans g.1, fun q h1 h2 => (g.2 q h1 h2).trans (h.2 q h1 h2)⟩
theorem FrC.s27 {M : Nat} {σ : St} {v : Int32} : FrC M σ (sI σ M 27 v) := ⟨Fr.s0 rfl, fun q h1 _ => hI_sIn (Or.inr h1)⟩
theorem FrC.s29 {M : Nat} {σ : St} {v : Int32} : FrC M σ (sI σ M 29 v) := ⟨Fr.s0 rfl, fun q _ h2 => hI_sIn (Or.inr h2)⟩
section Cyc4
variable {σ τ : St} {M k : Nat} {c : Nat → Nat → Int32} {m : Nat} {x x0 : Nat → Int32} {n n' nc : Nat}
theorem rnk_t : ∀ q, rnk c q x true = (x, true)
  | 0 => rfl
  | _ + 1 => rfl
theorem i_add_0 (v : Int32) : v + 0 = v := by simp
theorem rcy98 {k42 : Nat → Int32 → St → Option St} (D : Md σ M k c x0) {i : Nat} {b : Bool} {v : Int32} (h27 : hI σ M 27 = b2i b) (h29 : hI σ M 29 = v) : f_X10_cycle_98 k42 M (nI i) (sR σ (M + 4) x) = k42 M (nI (i + 1)) (sR (sI σ M 29 (v + b2i b)) (M + 4) x) := by
  have e : hI (sR σ (M + 4) x) M = hI σ M := hI_sRn (by omega)
  unfold f_X10_cycle_98 f_X10_cycle_115
  rw [gI_k (D.to x).1, osb, gI_k (D.to x).1, osb, e, h27, h29]
  cases b with
  | false => rw [if_pos (by simp [b2i]), pI_k (D.to x).1, osb, sI_sRc (by omega), nI_1]; rfl
  | true => rw [if_neg (by simp [b2i]), pI_k (D.to x).1, osb, sI_sRc (by omega), nI_1]; rfl
theorem rcy42 : ∀ (q i fu : Nat) (σ : St) (x x0 : Nat → Int32) (b : Bool) (v : Int32), i + q = 2 → q < fu → Md σ M k c x0 → hI σ M 27 = b2i b → hI σ M 29 = v → Rk c m x nc → ∃ τ, f_X10_cycle_42 fu M (nI i) (sR σ (M + 4) x) = f_X10_cycle_125 M (sR τ (M + 4) (rnk c q x b).1) ∧ FrC M σ τ ∧ Md τ M k c x0 ∧ hI τ M 29 = (if b = true then v else v + b2i (rnk c q x b).2) ∧ Rk c m (rnk c q x b).1 nc
  | 0, i, fu, σ, x, x0, b, v, hi, hf, D, h27, h29, K => by
    obtain ⟨f, rfl⟩ : ∃ f, fu = f + 1 := ⟨fu - 1, by omega⟩
    obtain rfl : i = 2 := by omega
    rw [e_X10_cycle_42, if_pos (by decide)]
    refine ⟨σ, rfl, FrC.refl, D, ?_, K⟩
    cases b with
    | true => rw [if_pos rfl]; exact h29
    | false => rw [if_neg (by decide)]; show _ = v + b2i false; rw [show b2i false = 0 from if_neg (by decide), i_add_0]; exact h29
  | q + 1, i, fu, σ, x, x0, b, v, hi, hf, D, h27, h29, K => by
    obtain ⟨f, rfl⟩ : ∃ f, fu = f + 1 := ⟨fu - 1, by omega⟩
    have e : hI (sR σ (M + 4) x) M = hI σ M := hI_sRn (by omega)
    rw [e_X10_cycle_42, if_neg (show ¬ (2 : Int32) ≤ nI i from nI_ge (a := i) (b := 2) (by omega) (by omega)), gI_k (D.to x).1, osb, e, h27]
    cases b with
    | true =>
      rw [if_neg (by simp [b2i]), rnk_t]
      exact ⟨σ, rfl, FrC.refl, D, by rw [if_pos rfl]; exact h29, K⟩
    | false =>
      have h12 := K.1.n12
      have hs := rcy56 (k42 := f_X10_cycle_42 f) (D.to x) K.1 (nI i) (nN x) 0 FU (by omega) (by unfold FU; omega) (fun _ h => absurd h (Nat.not_lt_zero _))
      rw [nI_0] at hs
      rw [if_pos (by simp [b2i]), hs]
      have hr : rnk c (q + 1) x false = rnk c q (rn1 c x).1 (rn1 c x).2 := rfl
      rw [hr]
      unfold f_X10_cycle_81
      rw [xa_k (D.to x), osb, r34_k (D.to x), osb, K.1.2.1.2.2.2.1]
      cases ho : fstN (runE x) (nN x) with
      | none =>
        have h1 : rn1 c x = (x, false) := by unfold rn1; rw [ho]
        rw [Option.getD_none, if_pos (nI_le (Nat.le_refl _) (by omega)), rcy98 D h27 h29, h1]
        have hz : v + b2i false = v := by rw [show b2i false = 0 from if_neg (by decide), i_add_0]
        rw [hz]
        obtain ⟨τ, t1, t2, t3, t4, t5⟩ := rcy42 q (i + 1) f (sI σ M 29 v) x x0 false v (by omega) (by omega) (D.setM v) (by rw [hI_sIn (Or.inr (by omega))]; exact h27) hI_sIe K
        exact ⟨τ, t1, FrC.s29.trans t2, t3, t4, t5⟩
      | some j =>
        have hj := (fstN_some ho).1
        have h1 : rn1 c x = (rnE c x j, msE c x j) := by unfold rn1; rw [ho]
        obtain ⟨K', -⟩ := K.rn hj
        rw [Option.getD_some, if_neg (nI_ge hj (by omega)), runs_j D K.1 hj, osb, h1]
        dsimp only
        have D1 := D.setM (j := 27) (b2i (msE c x j))
        rw [rcy98 D1 hI_sIe (v := v) (by rw [hI_sIn (Or.inr (by omega))]; exact h29)]
        obtain ⟨τ, t1, t2, t3, t4, t5⟩ := rcy42 q (i + 1) f (sI (sI σ M 27 (b2i (msE c x j))) M 29 (v + b2i (msE c x j))) (rnE c x j) x0 (msE c x j) (v + b2i (msE c x j)) (by omega) (by omega) (D1.setM _) (by rw [hI_sIn (Or.inr (by omega)), hI_sIe]) hI_sIe K'
        refine ⟨τ, t1, (FrC.s27.trans FrC.s29).trans t2, t3, ?_, t5⟩
        rw [t4, if_neg (show ¬ (false = true) by decide)]
        cases hm : msE c x j with
        | true => rw [if_pos rfl, rnk_t]
        | false => rw [if_neg (by decide), show b2i false = 0 from if_neg (by decide), i_add_0]
end Cyc4
