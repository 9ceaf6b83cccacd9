/-! CYCLES by how many cells: the class's cache -/
def goR (c : Nat → Nat → Int32) (nc : Nat) : (Nat → Int32) × Nat × Int32 × Int32 := goE c nc 300 t0E 0 0 0
def Yat (c : Nat → Nat → Int32) (σ : St) (y s : Nat) : Prop := hI σ (y + 1) s = nI (goR c (s + 9)).2.1 ∧ hI σ (y + 2) s = (goR c (s + 9)).1 37 ∧ hI σ (y + 3) s = (goR c (s + 9)).2.2.1 ∧ hI σ (y + 4) s = (goR c (s + 9)).2.2.2
def Ych (c : Nat → Nat → Int32) (σ : St) (y : Nat) : Prop := ∀ s, s < 16 → hI σ (y + 1) s = 0 ∨ Yat c σ y s
section Slot2
variable {σ τ υ : St} {a p y : Nat} {c : Nat → Nat → Int32} {m : Nat} {x : Nat → Int32} {n n' nc s : Nat}
theorem t0_n : nN t0E = 0 := by unfold nN; rw [t0_at (by omega), if_neg (by omega)]; rfl
theorem YSh.sm (h : YSh σ y) (s : ∀ r, y ≤ r → r ≤ y + 11 → Sm σ τ r) : YSh τ y := by
  obtain ⟨h0, h1, h2, h3, h4, h5, h6⟩ := h
  have s0 := s y (by omega) (by omega)
  exact ⟨by rw [s0.1]; exact h0, by rw [s0.2.2.2.1]; exact h1, h2.sm s0 (s _ (by omega) (by omega)), h3.sm s0 (s _ (by omega) (by omega)), h4.sm s0 (s _ (by omega) (by omega)), h5.sm s0 (s _ (by omega) (by omega)), h6.sm (fun r q1 q2 => s r (by omega) (by omega))⟩
theorem YSh.sP (h : YSh σ y) : YSh (sP σ (y + 5) 0 (some p)) y := by
  obtain ⟨h0, h1, ⟨a1, b1⟩, ⟨a2, b2⟩, ⟨a3, b3⟩, ⟨a4, b4⟩, h6⟩ := h
  exact ⟨h0, (hP_sPn (Or.inl (by omega))).trans h1, ⟨(hP_sPn (Or.inl (by omega))).trans a1, b1⟩, ⟨(hP_sPn (Or.inl (by omega))).trans a2, b2⟩, ⟨(hP_sPn (Or.inl (by omega))).trans a3, b3⟩, ⟨(hP_sPn (Or.inl (by omega))).trans a4, b4⟩, h6.sP⟩
theorem slotOf_c (hd : p + 10 < y) (Y : YSh σ y) (H : Ych c σ y) (hs : s < 16) (S : PSh σ p) (P : PR c m σ p) (C : Cok c m) : ∃ τ, f_X0_slotOf y p (nI (s + 9)) σ = some (nI s, τ) ∧ Fg (inY y) σ τ ∧ YSh τ y ∧ Ych c τ y ∧ Yat c τ y s := by
  have e9 : nI (s + 9) - 9 = nI s := by
    show nI (s + 9) - nI 9 = nI s
    rw [pk_sub (by omega), show s + 9 - 9 = s by omega]
  unfold f_X0_slotOf f_X0_slotOf_0
  rw [if_pos Y.1, bndu, e9, Y.2.2.1.r Y.1, osb, Y.2.2.1.g hs (by omega), osb]
  by_cases h0 : hI σ (y + 1) s = 0
  · rw [if_pos h0, gR_k Y.1 Y.2.1, osb]
    obtain ⟨τ, t1, t2, t3⟩ := begin_c (p := p) (c := c) (x := fun _ => 0) (nc := s + 9) Y.2.2.2.2.2.2
    have K : Rk c m t0E (s + 9) := told_ok C (by omega) (by omega)
    rw [t1, osb]
    have Y1 : YSh τ y := Y.sP.fr t2
    have G1 : Fg (inY y) σ τ := (Fg.sP (S := inY y) (a := y + 5) (j := 0) (v := some p) (σ := σ) ⟨by omega, by omega⟩).trans (t2.g.mono (fun r h => ⟨by have := h.1; omega, by have := h.2; omega⟩))
    have hp1 : hP τ (y + 5) 0 = some p := by rw [t2.2.2.1]; exact hP_sPe
    have out : ∀ r, p ≤ r → r ≤ p + 10 → Sm σ τ r := fun r h1 h2 => G1.2 r (fun h => by have := h.1; omega)
    have D1 : Mc τ (y + 5) p c m t0E (nN t0E) (s + 9) := ⟨Y1.2.2.2.2.2.2, hp1, S.sm out, P.sm out, C, by rw [t0_n]; exact t3, K.1.2.1⟩
    have q1 : ∀ r, y + 1 ≤ r → r ≤ y + 4 → hI τ r = hI σ r := fun r h1 h2 => by
      rw [t2.2.2.2.2.2 r (fun h => by have := h.1; omega)]; rfl
    rw [Y1.2.2.2.2.1.r Y1.1, osb, xI_k Y1.2.2.2.2.1.2.1 Y1.2.2.2.2.1.2.2 hs (by omega), osb]
    have F2 : Fr (inY y) τ (sI τ (y + 3) s 0) := Fr.s0 ⟨by omega, by omega⟩
    have Y2 := Y1.fr F2
    have D2 : Mc (sI τ (y + 3) s 0) (y + 5) p c m t0E (nN t0E) (s + 9) := D1.off (by omega) (by omega) (by omega)
    rw [Y2.2.2.2.2.2.1.r Y2.1, osb, xI_k Y2.2.2.2.2.2.1.2.1 Y2.2.2.2.2.2.1.2.2 hs (by omega), osb]
    have F3 : Fr (inY y) τ (sI (sI τ (y + 3) s 0) (y + 4) s 0) := Fr.st F2 ⟨by omega, by omega⟩
    have Y3 := Y1.fr F3
    have D3 : Mc (sI (sI τ (y + 3) s 0) (y + 4) s 0) (y + 5) p c m t0E (nN t0E) (s + 9) := D2.off (by omega) (by omega) (by omega)
    obtain ⟨υ, u1, u2, u3, u4, u5, u6, u7⟩ := slot_l (c := c) (m := m) (nc := s + 9) hd hs (by omega) 300 0 FU (sI (sI τ (y + 3) s 0) (y + 4) s 0) t0E 0 0 (by omega) (by unfold FU; omega) Y3 D3 K (by rw [hI_sIn (Or.inl (by omega)), hI_sIe]) hI_sIe
    rw [nI_0] at u1
    have hR : goE c (s + 9) 300 t0E 0 0 0 = goR c (s + 9) := by unfold goR; rfl
    rw [hR] at u3 u4 u5 u6
    have hat : Yat c υ y s := ⟨u3, u4, u5, u6⟩
    refine ⟨υ, u1, G1.trans (F3.trans u2).g, Y3.fr u2, fun s' hs' => ?_, hat⟩
    by_cases e : s' = s
    · subst e; exact Or.inr hat
    · have q2 : ∀ r, y + 1 ≤ r → r ≤ y + 4 → hI υ r s' = hI σ r s' := fun r h1 h2 => by
        rw [u7 r h1 h2 s' e, hI_sIn (Or.inr e), hI_sIn (Or.inr e), q1 r h1 h2]
      unfold Yat
      rw [q2 (y + 1) (by omega) (by omega), q2 (y + 2) (by omega) (by omega), q2 (y + 3) (by omega) (by omega), q2 (y + 4) (by omega) (by omega)]
      exact H s' hs'
  · rw [if_neg h0]
    exact ⟨σ, rfl, Fg.refl, Y, H, (H s hs).resolve_left h0⟩
theorem goR_ru (C : Cok c m) (h9 : 8 ≤ nc) (h24 : nc ≤ 24) : ∃ w n, w ≤ 600 ∧ (goR c nc).1 37 = nI w ∧ n ≤ 300 ∧ (goR c nc).2.1 = n ∧ Ru (goR c nc).1 600 := by
  have K : Rk c m t0E nc := told_ok C h9 h24
  obtain ⟨g1, g2, g3, g4⟩ := goE_ru 300 0 t0E 0 0 0 K t0_ru
  have hR : goE c nc 300 t0E 0 0 0 = goR c nc := by unfold goR; rfl
  rw [hR] at g1 g2 g3 g4
  obtain ⟨w, hw, ew⟩ := g1.2.2
  exact ⟨w, _, hw, ew, by omega, rfl, g1⟩
end Slot2
/-! CYCLES: the reference goes -/
section Goes2
variable {σ τ : St} {M k : Nat} {c : Nat → Nat → Int32} {m : Nat} {x x0 : Nat → Int32} {n n' nc : Nat}
theorem goes_k (D : Md σ M k c x0) (C : Cok c m) (h9 : 8 ≤ nc) (h24 : nc ≤ 24) (U : ∀ j, 195 ≤ j → x j = 0) : ∃ τ, f_X10_goes M (nI nc) (sR σ (M + 4) x) = some (sR τ (M + 4) (goR c nc).1) ∧ FrQ M σ τ ∧ Md τ M k c x0 ∧ hI τ M 28 = nI (goR c nc).2.1 ∧ hI τ M 29 = (goR c nc).2.2.1 ∧ hI τ M 30 = (goR c nc).2.2.2 := by
  unfold f_X10_goes f_X10_goes_0
  rw [if_pos (D.to x).1, told_k D, osb, tl_0 U]
  have K : Rk c m t0E nc := told_ok C h9 h24
  have D1 := D.setM (j := 26) (nI nc)
  rw [pI_k (D1.to t0E).1, osb, sI_sRc (by omega)]
  have D2 := D1.setM (j := 28) 0
  rw [pI_k (D2.to t0E).1, osb, sI_sRc (by omega)]
  have D3 := D2.setM (j := 29) 0
  rw [pI_k (D3.to t0E).1, osb, sI_sRc (by omega)]
  have D4 := D3.setM (j := 30) 0
  have F : FrQ M σ (sI (sI (sI (sI σ M 26 (nI nc)) M 28 0) M 29 0) M 30 0) := (((FrQ.s0 (by omega) (by omega)).trans (FrQ.s0 (by omega) (by omega))).trans (FrQ.s0 (by omega) (by omega))).trans (FrQ.s0 (by omega) (by omega))
  obtain ⟨τ, t1, t2, t3, t4, t5, t6, t7⟩ := goes_l (nc := nc) (m := m) 300 0 FU _ t0E x0 0 0 (by omega) (by unfold FU; omega) D4 (by simp [hI_sI]) (by simp [hI_sI, nI_0]) (by simp [hI_sI]) hI_sIe K
  have hR : goE c nc 300 t0E 0 0 0 = goR c nc := by unfold goR; rfl
  rw [hR] at t1 t5 t6 t7
  exact ⟨τ, t1, F.trans t2, t3, t5, t6, t7⟩
end Goes2
