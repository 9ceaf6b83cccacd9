/-! CYCLES by how many cells: the class's -/
def YSh (σ : St) (y : Nat) : Prop := hT σ y = 1 ∧ hP σ y 0 = some (y + 5) ∧ Fld σ y 1 (y + 1) 22 16 ∧ Fld σ y 2 (y + 2) 22 16 ∧ Fld σ y 3 (y + 3) 22 16 ∧ Fld σ y 4 (y + 4) 22 16 ∧ MSh σ (y + 5)
def inY (y r : Nat) : Prop := y + 1 ≤ r ∧ r ≤ y + 11
def t0E : Nat → Int32 := tlE (fun _ => 0)
theorem tl_0 {x : Nat → Int32} (U : ∀ j, 195 ≤ j → x j = 0) : tlE x = t0E := by
  funext j
  unfold t0E tlE
  by_cases h : j = 33
  · subst h; rw [ux_e, ux_e]
  · rw [ux_n h, ux_n h]
    by_cases h2 : j < 195
    · unfold fil; rw [if_pos (by omega), if_pos (by omega)]
    · rw [fil_n (by omega), fil_n (by omega)]; exact U j (by omega)
theorem t0_at {j : Nat} (h : j ≠ 33) : t0E j = if j < 8 then nI j else 0 := by
  unfold t0E tlE
  rw [ux_n h]
  by_cases h2 : j < 195
  · unfold fil; rw [if_pos (by omega), Nat.sub_zero]; rfl
  · rw [fil_n (by omega), if_neg (by omega)]
theorem t0_ru : Ru t0E 0 := ⟨fun j hj => by rw [t0_at (by omega), if_neg (by omega)], by rw [t0_at (by omega), if_neg (by omega)]; exact Or.inl rfl, 0, Nat.le_refl _, by rw [t0_at (by omega), if_neg (by omega)]; rfl⟩
section Slot
variable {σ τ υ : St} {a p y : Nat} {c : Nat → Nat → Int32} {m : Nat} {x : Nat → Int32} {n n' nc s : Nat}
theorem YSh.fr {S : Nat → Prop} (h : YSh σ y) (F : Fr S σ τ) : YSh τ y := by
  obtain ⟨h0, h1, ⟨a1, b1, c1⟩, ⟨a2, b2, c2⟩, ⟨a3, b3, c3⟩, ⟨a4, b4, c4⟩, h6⟩ := h
  refine ⟨by rw [F.1]; exact h0, by rw [F.2.2.1]; exact h1, ⟨?_, ?_, ?_⟩, ⟨?_, ?_, ?_⟩, ⟨?_, ?_, ?_⟩, ⟨?_, ?_, ?_⟩, h6.fr F⟩ <;> first | (rw [F.2.2.1]; assumption) | (rw [F.1]; assumption) | (rw [F.2.1]; assumption)
theorem Mc.off (h : Mc σ a p c m x n nc) (hd : p + 10 < a) {r j : Nat} {v : Int32} (hr : p + 10 < r) (hr2 : r < a) : Mc (sI σ r j v) a p c m x n nc :=
  h.sm (fun q h1 h2 => (Fr.s0 (S := fun t => t = r) rfl).sm (by omega)) (fun q h1 h2 => (Fr.s0 (S := fun t => t = r) rfl).sm (by omega))
theorem slot_l (hd : p + 10 < y) (hs : s < 16) (hc : nc ≤ 24) : ∀ (q n fu : Nat) (σ : St) (x : Nat → Int32) (u v : Int32), n + q = 300 → q < fu → YSh σ y → Mc σ (y + 5) p c m x (nN x) nc → Rk c m x nc → hI σ (y + 3) s = u → hI σ (y + 4) s = v → ∃ τ, f_X0_slotOf_42 fu y (nI nc) (nI s) (nI n) σ = some (nI s, τ) ∧ Fr (inY y) σ τ ∧ hI τ (y + 1) s = nI (goE c nc q x n u v).2.1 ∧ hI τ (y + 2) s = (goE c nc q x n u v).1 37 ∧ hI τ (y + 3) s = (goE c nc q x n u v).2.2.1 ∧ hI τ (y + 4) s = (goE c nc q x n u v).2.2.2 ∧ ∀ r, y + 1 ≤ r → r ≤ y + 4 → ∀ j, j ≠ s → hI τ r j = hI σ r j := by
  have hend : ∀ (q n : Nat) (σ : St) (x : Nat → Int32) (u v : Int32), n ≤ 300 → goE c nc q x n u v = (x, n, u, v) → YSh σ y → Mc σ (y + 5) p c m x (nN x) nc → hI σ (y + 3) s = u → hI σ (y + 4) s = v → ∃ τ, f_X0_slotOf_117 y (nI s) (nI n) σ = some (nI s, τ) ∧ Fr (inY y) σ τ ∧ hI τ (y + 1) s = nI (goE c nc q x n u v).2.1 ∧ hI τ (y + 2) s = (goE c nc q x n u v).1 37 ∧ hI τ (y + 3) s = (goE c nc q x n u v).2.2.1 ∧ hI τ (y + 4) s = (goE c nc q x n u v).2.2.2 ∧ ∀ r, y + 1 ≤ r → r ≤ y + 4 → ∀ j, j ≠ s → hI τ r j = hI σ r j := by
    intro q n σ x u v hn he Y D h3 h4
    rw [he]
    dsimp only
    unfold f_X0_slotOf_117
    rw [Y.2.2.1.r Y.1, osb, xI_k Y.2.2.1.2.1 Y.2.2.1.2.2 hs (by omega), osb]
    have F1 : Fr (inY y) σ (sI σ (y + 1) s (nI n)) := Fr.s0 ⟨by omega, by omega⟩
    have Y1 := Y.fr F1
    have D1 : Mc (sI σ (y + 1) s (nI n)) (y + 5) p c m x (nN x) nc := D.off (by omega) (by omega) (by omega)
    rw [Y1.2.2.2.1.r Y1.1, osb, gR_k Y1.1 Y1.2.1, osb, D1.f.2.2.2.2.2.2.2, osb, xI_k Y1.2.2.2.1.2.1 Y1.2.2.2.1.2.2 hs (by omega), osb]
    refine ⟨_, rfl, Fr.st F1 ⟨by omega, by omega⟩, ?_, hI_sIe, ?_, ?_, fun r h1 h2 j hj => ?_⟩
    · rw [hI_sIn (Or.inl (by omega)), hI_sIe]
    · rw [hI_sIn (Or.inl (by omega)), hI_sIn (Or.inl (by omega))]; exact h3
    · rw [hI_sIn (Or.inl (by omega)), hI_sIn (Or.inl (by omega))]; exact h4
    · rw [hI_sIn (Or.inr hj), hI_sIn (Or.inr hj)]
  intro q
  induction q with
  | zero =>
    intro n fu σ x u v hn hf Y D K h3 h4
    obtain ⟨f, rfl⟩ : ∃ f, fu = f + 1 := ⟨fu - 1, by omega⟩
    obtain rfl : n = 300 := by omega
    rw [e_X0_slotOf_42, if_pos (by decide)]
    exact hend 0 300 σ x u v (by omega) rfl Y D h3 h4
  | succ q ih =>
    intro n fu σ x u v hn hf Y D K h3 h4
    obtain ⟨f, rfl⟩ : ∃ f, fu = f + 1 := ⟨fu - 1, by omega⟩
    rw [e_X0_slotOf_42, if_neg (show ¬ (300 : Int32) ≤ nI n from nI_ge (a := n) (b := 300) (by omega) (by omega)), gR_k Y.1 Y.2.1, osb, over_c D, osb]
    dsimp only
    cases ho : ovE c x (nN x) with
    | true =>
      rw [if_neg (by decide)]
      exact hend (q + 1) n σ x u v (by omega) (goE_o ho) Y D h3 h4
    | false =>
      rw [if_pos (by decide), goE_s ho, Y.2.2.2.2.1.r Y.1, osb, Y.2.2.2.2.1.g hs (by omega), osb, h3]
      obtain ⟨τ, t1, t2, t3, t4⟩ := goc_c (y := y) (by omega) ⟨Y.1, Y.2.1⟩ D K
      generalize cyE c nc x = w at t1 t3 t4 ⊢
      have Y1 := Y.fr t2
      have e3 : hI τ (y + 3) = hI σ (y + 3) := t2.2.2.2.2.2 _ (fun h => by have := h.1; omega)
      have e4 : hI τ (y + 4) = hI σ (y + 4) := t2.2.2.2.2.2 _ (fun h => by have := h.1; omega)
      rw [t1, osb]
      dsimp only
      rw [xI_k Y1.2.2.2.2.1.2.1 Y1.2.2.2.2.1.2.2 hs (by omega), osb]
      have F2 : Fr (inY y) σ (sI τ (y + 3) s (u + b2i w.2)) := Fr.st (t2.mono (fun r h => ⟨by have := h.1; omega, by have := h.2; omega⟩)) ⟨by omega, by omega⟩
      have Y2 := Y.fr F2
      have D2 : Mc (sI τ (y + 3) s (u + b2i w.2)) (y + 5) p c m w.1 (nN w.1) nc := t3.off (by omega) (by omega) (by omega)
      have g3 : hI (sI τ (y + 3) s (u + b2i w.2)) (y + 3) s = u + b2i w.2 := hI_sIe
      have g4 : hI (sI τ (y + 3) s (u + b2i w.2)) (y + 4) s = v := by rw [hI_sIn (Or.inl (by omega)), e4]; exact h4
      have g5 : ∀ r, y + 1 ≤ r → r ≤ y + 4 → ∀ j, j ≠ s → hI (sI τ (y + 3) s (u + b2i w.2)) r j = hI σ r j := fun r h1 h2 j hj => by
        rw [hI_sIn (Or.inr hj), t2.2.2.2.2.2 r (fun h => by have := h.1; omega)]
      generalize sI τ (y + 3) s (u + b2i w.2) = ω at F2 Y2 D2 g3 g4 g5 ⊢
      rw [gR_k Y2.1 Y2.2.1, osb, osb, D2.f.2.2.2.1, osb, free_c D2 (Nat.le_refl _), osb]
      dsimp only
      rw [bc_k, osb, bndu, cnt_setN (by omega)]
      dsimp only
      rw [Y2.2.2.2.2.2.1.r Y2.1, osb, osb, Y2.2.2.2.2.2.1.g hs (by omega), osb, g4, xI_k Y2.2.2.2.2.2.1.2.1 Y2.2.2.2.2.2.1.2.2 hs (by omega), osb, nI_1]
      show ∃ τ, f_X0_slotOf_42 f y (nI nc) (nI s) (nI (n + 1)) (sI ω (y + 4) s (jmax v (crE c nc w.1))) = _ ∧ _
      have F3 : Fr (inY y) ω (sI ω (y + 4) s (jmax v (crE c nc w.1))) := Fr.s0 ⟨by omega, by omega⟩
      obtain ⟨υ, u1, u2, u3, u4, u5, u6, u7⟩ := ih (n + 1) f (sI ω (y + 4) s (jmax v (crE c nc w.1))) w.1 (u + b2i w.2) (jmax v (crE c nc w.1)) (by omega) (by omega) (Y2.fr F3) (D2.off (by omega) (by omega) (by omega)) t4 (by rw [hI_sIn (Or.inl (by omega))]; exact g3) hI_sIe
      refine ⟨υ, u1, (F2.trans F3).trans u2, u3, u4, u5, u6, fun r h1 h2 j hj => ?_⟩
      rw [u7 r h1 h2 j hj, hI_sIn (Or.inr hj)]
      exact g5 r h1 h2 j hj
end Slot
