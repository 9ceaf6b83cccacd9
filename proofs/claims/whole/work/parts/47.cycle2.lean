/-! A CYCLE: the class's, whole -/
section Cyc2
variable {σ τ : St} {a p y M k : Nat} {c : Nat → Nat → Int32} {m : Nat} {x : Nat → Int32} {n n' nc : Nat}
theorem cy35_c (hd : p + 10 < a) : ∀ (q i fu : Nat) (σ : St) (x : Nat → Int32) (b : Bool), i + q = 2 → q < fu → Yc σ y a → Mc σ a p c m x (nN x) nc → Rk c m x nc → ∃ τ, f_X0_goOneCycle_35 fu y (b2i b) (nI i) σ = f_X0_goOneCycle_88 y (b2i (rnk c q x b).2) τ ∧ Fr (inM a) σ τ ∧ Mc τ a p c m (rnk c q x b).1 (nN (rnk c q x b).1) nc ∧ Rk c m (rnk c q x b).1 nc
  | 0, i, fu, σ, x, b, hi, hf, Y, D, K => by
    obtain ⟨f, rfl⟩ : ∃ f, fu = f + 1 := ⟨fu - 1, by omega⟩
    obtain rfl : i = 2 := by omega
    rw [e_X0_goOneCycle_35, if_pos (by decide)]
    exact ⟨σ, rfl, Fr.refl, D, K⟩
  | q + 1, i, fu, σ, x, b, hi, hf, Y, D, K => by
    obtain ⟨f, rfl⟩ : ∃ f, fu = f + 1 := ⟨fu - 1, by omega⟩
    rw [e_X0_goOneCycle_35, if_neg (show ¬ (2 : Int32) ≤ nI i from nI_ge (a := i) (b := 2) (by omega) (by omega))]
    cases b with
    | true =>
      rw [if_neg (by simp [b2i])]
      have : rnk c (q + 1) x true = (x, true) := rfl
      rw [this]
      exact ⟨σ, rfl, Fr.refl, D, K⟩
    | false =>
      have h12 := D.n12
      rw [if_pos (by simp [b2i]), gR_k Y.1 Y.2, osb, owk_c D, osb]
      dsimp only
      have hr : rnk c (q + 1) x false = rnk c q (rn1 c x).1 (rn1 c x).2 := rfl
      rw [hr]
      cases ho : fstN (runE x) (nN x) with
      | none =>
        have h1 : rn1 c x = (x, false) := by unfold rn1; rw [ho]
        rw [if_pos (by decide), h1]
        unfold f_X0_goOneCycle_82
        rw [nI_1]
        exact cy35_c hd q (i + 1) f σ x false (by omega) (by omega) Y D K
      | some j =>
        have hj := (fstN_some ho).1
        have h1 : rn1 c x = (rnE c x j, msE c x j) := by unfold rn1; rw [ho]
        obtain ⟨τ, t1, t2, t3, t4⟩ := work_j D hd K.1.2.2.1 K.1.2.2.2 hj
        obtain ⟨K', e⟩ := K.rn hj
        rw [h1]
        have h82 : ∀ b, b = msE c x j → ∃ υ, f_X0_goOneCycle_72 (f_X0_goOneCycle_35 f) y (nI i) (nI j) (b2i b) σ = f_X0_goOneCycle_88 y (b2i (rnk c q (rnE c x j) (msE c x j)).2) υ ∧ Fr (inM a) σ υ ∧ Mc υ a p c m (rnk c q (rnE c x j) (msE c x j)).1 (nN (rnk c q (rnE c x j) (msE c x j)).1) nc ∧ Rk c m (rnk c q (rnE c x j) (msE c x j)).1 nc := fun b hb => by
          rw [hb]
          unfold f_X0_goOneCycle_72 f_X0_goOneCycle_82
          rw [gR_k Y.1 Y.2, osb, t1, osb, nI_1]
          obtain ⟨υ, u1, u2, u3, u4⟩ := cy35_c hd q (i + 1) f τ (rnE c x j) (msE c x j) (by omega) (by omega) (Y.fr t2) (by rw [e]; exact t3) K'
          exact ⟨υ, u1, t2.trans u2, u3, u4⟩
        show ∃ υ, (if nI j < 0 then _ else _) = _ ∧ _
        rw [if_neg (nI_pos (by omega)), gR_k Y.1 Y.2, osb]
        show ∃ υ, ((f_X3_misguessed a (nI j) σ).bind _) = _ ∧ _
        rw [mis_c D hj, osb]
        dsimp only
        cases hm : msE c x j with
        | false =>
          rw [if_pos (by simp [b2i])]
          have := h82 false hm.symm
          rw [hm] at this
          exact this
        | true =>
          rw [if_neg (by simp [b2i])]
          have := h82 true hm.symm
          rw [hm] at this
          exact this
theorem cyE_e : cyE c nc x = (fck c nc 2 (rnk c 2 (cmk c 2 x) false).1, (rnk c 2 (cmk c 2 x) false).2) := by unfold cyE; rfl
theorem goc_c (hd : p + 10 < a) (Y : Yc σ y a) (D : Mc σ a p c m x (nN x) nc) (K : Rk c m x nc) : ∃ τ, f_X0_goOneCycle y σ = some (b2i (cyE c nc x).2, τ) ∧ Fr (inM a) σ τ ∧ Mc τ a p c m (cyE c nc x).1 (nN (cyE c nc x).1) nc ∧ Rk c m (cyE c nc x).1 nc := by
  rw [cyE_e]
  dsimp only
  obtain ⟨τ1, a1, a2, a3, a4⟩ := cy2_c hd 2 0 FU σ x (by omega) (by unfold FU; omega) Y D K
  generalize cmk c 2 x = x1 at a3 a4 ⊢
  obtain ⟨τ2, b1, b2, b3, b4⟩ := cy35_c hd 2 0 FU τ1 x1 false (by omega) (by unfold FU; omega) (Y.fr a2) a3 a4
  generalize rnk c 2 x1 false = x2 at b1 b3 b4 ⊢
  obtain ⟨τ3, c1, c2, c3, c4⟩ := cy90_c hd (b2i x2.2) 2 0 FU τ2 x2.1 (by omega) (by unfold FU; omega) ((Y.fr a2).fr b2) b3 b4
  generalize fck c nc 2 x2.1 = x3 at c3 c4 ⊢
  rw [nI_0] at a1 b1 c1
  rw [show b2i false = 0 from if_neg (by decide)] at b1
  refine ⟨τ3, ?_, (a2.trans b2).trans c2, c3, c4⟩
  unfold f_X0_goOneCycle f_X0_goOneCycle_0
  rw [if_pos Y.1, a1]
  unfold f_X0_goOneCycle_31
  rw [b1]
  unfold f_X0_goOneCycle_88
  rw [c1]
end Cyc2
