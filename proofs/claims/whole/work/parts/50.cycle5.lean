/-! A CYCLE: the reference's, whole -/
section Cyc5
variable {σ τ : St} {M k : Nat} {c : Nat → Nat → Int32} {m : Nat} {x x0 : Nat → Int32} {n n' nc : Nat}
theorem rcy_k (D : Md σ M k c x0) (hc : hI σ M 26 = nI nc) (K : Rk c m x nc) : ∃ τ, f_X10_cycle M (sR σ (M + 4) x) = some (sR τ (M + 4) (cyE c nc x).1) ∧ FrC M σ τ ∧ Md τ M k c x0 ∧ hI τ M 29 = hI σ M 29 + b2i (cyE c nc x).2 ∧ Rk c m (cyE c nc x).1 nc := by
  rw [cyE_e]
  dsimp only
  obtain ⟨a1, a2⟩ := rcy2 (nc := nc) (m := m) D 2 0 FU x (by omega) (by unfold FU; omega) K
  generalize cmk c 2 x = x1 at a1 a2 ⊢
  obtain ⟨τ, b1, b2, b3, b4, b5⟩ := rcy42 (M := M) (k := k) 2 0 FU (sI σ M 27 0) x1 x0 false (hI σ M 29) (by omega) (by unfold FU; omega) (D.setM 0) (by rw [hI_sIe]; exact (if_neg (by decide)).symm) (by rw [hI_sIn (Or.inr (by omega))]) a2
  generalize rnk c 2 x1 false = x2 at b1 b4 b5 ⊢
  have hF : FrC M σ τ := FrC.s27.trans b2
  obtain ⟨c1, c2⟩ := rcy127 (nc := nc) (m := m) b3 (by rw [hF.2 26 (by omega) (by omega)]; exact hc) 2 0 FU x2.1 (by omega) (by unfold FU; omega) b5
  generalize fck c nc 2 x2.1 = x3 at c1 c2 ⊢
  rw [nI_0] at a1 b1 c1
  refine ⟨τ, ?_, hF, b3, by rw [b4, if_neg (show ¬ (false = true) by decide)], c2⟩
  unfold f_X10_cycle f_X10_cycle_0
  rw [if_pos (D.to x).1, a1]
  unfold f_X10_cycle_35
  rw [pZ_k (D.to x1).1 (Or.inl rfl), osb, sI_sRc (by omega), b1]
  unfold f_X10_cycle_125
  exact c1
end Cyc5
