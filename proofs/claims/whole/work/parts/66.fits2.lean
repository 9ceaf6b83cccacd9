/-! FITS: the class finds them; the reference's first wrong got -/
def inF (y l r : Nat) : Prop := r = y ∨ (l ≤ r ∧ r ≤ l + 1)
section Fits2
variable {σ τ υ : St} {a p y l M k : Nat} {c : Nat → Nat → Int32} {m : Nat} {x x0 : Nat → Int32} {n nc nu ng : Nat} {o : Int32} {rg : Nat → Int32}
theorem o2m_neg {q : Option Nat} {b : Nat} (h : ∀ j, q = some j → j < b) (hb : b ≤ 1000) : (0 ≤ o2m q) ↔ q.isNone = false := by
  cases q with
  | none => decide
  | some j => exact ⟨fun _ => rfl, fun _ => nI_pos' (by have := h j rfl; omega)⟩
theorem find_l (hd : p + 10 < a) (hl : a + 6 < l) (hy : l + 1 < y) (N : Cun c nu ng) : ∀ (q j fu : Nat) (σ : St), j + q = 2 ^ nu → q < fu → Mc σ a p c m x n nc → LSh σ l → hT σ y = 2 → hI σ y 0 = setN (fiE c nu ng) j → hI σ y 1 = nI nu → ∃ τ, f_X1_find_15 fu y p l (nI j) σ = some τ ∧ Fr (inF y l) σ τ ∧ FSh τ y nu (fiE c nu ng)
  | 0, j, fu, σ, hj, hf, D, H, ht, h0, h1 => by
    obtain ⟨g, rfl⟩ : ∃ g, fu = g + 1 := ⟨fu - 1, by omega⟩
    have h4 := N.1
    have h16 := pw16 h4
    rw [e_X1_find_15, gI_k ht, osb, h1, sh_pw nu (by omega), if_pos (nI_le (by omega) (by omega))]
    exact ⟨σ, rfl, Fr.refl, ht, by rw [h0, show j = 2 ^ nu by omega], h1, h4⟩
  | q + 1, j, fu, σ, hj, hf, D, H, ht, h0, h1 => by
    obtain ⟨g, rfl⟩ : ∃ g, fu = g + 1 := ⟨fu - 1, by omega⟩
    have h4 := N.1
    have h6 := N.2.2.1
    have h16 := pw16 h4
    rw [e_X1_find_15, gI_k ht, osb, h1, sh_pw nu (by omega), if_neg (nI_ge (by omega) (by omega))]
    obtain ⟨τ, t1, t2, t3, t4⟩ := play_c (o := nI j) (L := 200) D hd hl N (by omega) H
    have t2' : Fr (inF y l) σ τ := t2.mono (fun r h => Or.inr h)
    have D1 := D.hi hd t2 (fun r h => by have := h.1; omega)
    have e0 : hI τ y = hI σ y := t2.2.2.2.2.2 y (fun h => by have := h.2; omega)
    have ht1 : hT τ y = 2 := by rw [t2.1]; exact ht
    have t1' : f_X4_play l p (nI j) 200 σ = some τ := t1
    rw [t1', osb, fng_c D1 N t3.1.1 t3.1.2.1, osb]
    dsimp only
    unfold f_X1_find_54
    have hx : fiE c nu ng j = (wgE c ng (plE c nu (nI j) 200).1).isNone := rfl
    generalize hw : wgE c ng (plE c nu (nI j) 200).1 = w at hx ⊢
    have hn := o2m_neg (q := w) (b := ng) (fun t ht => by rw [← hw] at ht; exact (fstN_some ht).1) (by omega)
    rw [nI_1]
    cases hi : w.isNone with
    | false =>
      rw [if_pos (hn.mpr hi)]
      obtain ⟨υ, u1, u2, u3⟩ := find_l hd hl hy N q (j + 1) g τ (by omega) (by omega) D1 t3.1.1 ht1 (by rw [e0, h0]; simp only [setN, hx, hi, Bool.false_eq_true, if_false, i_or_z]) (by rw [e0]; exact h1)
      exact ⟨υ, u1, t2'.trans u2, u3⟩
    | true =>
      rw [if_neg (fun h => by rw [hn.mp h] at hi; cases hi), gI_k ht1, osb, pI_k ht1, osb, e0, h0]
      have F2 : Fr (inF y l) τ (sI τ y 0 (setN (fiE c nu ng) j ||| jshl 1 (nI j))) := Fr.s0 (Or.inl rfl)
      have G2 : Fr (fun r => r = y) τ (sI τ y 0 (setN (fiE c nu ng) j ||| jshl 1 (nI j))) := Fr.s0 rfl
      obtain ⟨υ, u1, u2, u3⟩ := find_l hd hl hy N q (j + 1) g (sI τ y 0 (setN (fiE c nu ng) j ||| jshl 1 (nI j))) (by omega) (by omega) (D1.hi hd G2 (fun r h => by omega)) (t3.1.1.fr G2) ht1 (by rw [hI_sIe]; simp only [setN, hx, hi, if_true]) (by rw [hI_sIn (Or.inr (by omega)), e0]; exact h1)
      exact ⟨υ, u1, (t2'.trans F2).trans u2, u3⟩
theorem find_c (D : Mc σ a p c m x n nc) (hd : p + 10 < a) (hl : a + 6 < l) (hy : l + 1 < y) (N : Cun c nu ng) (H : LSh σ l) (ht : hT σ y = 2) : ∃ τ, f_X1_find y p l σ = some τ ∧ Fr (inF y l) σ τ ∧ FSh τ y nu (fiE c nu ng) := by
  have h16 := pw16 N.1
  unfold f_X1_find f_X1_find_0
  rw [if_pos ht, pI_k ht, osb]
  have G1 : Fr (fun r => r = y) σ (sI σ y 0 0) := Fr.s0 rfl
  have D1 := D.hi hd G1 (fun r h => by omega)
  rw [D1.g.2.2.2.2.2.2.1, osb, N.2.1, pI_k (σ := sI σ y 0 0) ht, osb]
  have G2 : Fr (fun r => r = y) σ (sI (sI σ y 0 0) y 1 (nI nu)) := Fr.st G1 rfl
  obtain ⟨υ, u1, u2, u3⟩ := find_l hd hl hy N (2 ^ nu) 0 FU (sI (sI σ y 0 0) y 1 (nI nu)) (by omega) (by unfold FU; omega) (D.hi hd G2 (fun r h => by omega)) (H.fr G2) ht (by rw [hI_sIn (Or.inr (by omega)), hI_sIe]; rfl) hI_sIe
  rw [nI_0] at u1
  exact ⟨υ, u1, (G2.mono (fun r h => Or.inl h)).trans u2, u3⟩
-- the reference
theorem wg_l (D : Md σ M k c x0) (N : Cun c nu ng) (P : Fld σ M 15 (M + 2) 22 8) (hr : ∀ r, r < 8 → hI σ (M + 2) r = rg r) : ∀ (q i fu : Nat), i + q = ng → q < fu → (∀ j, j < i → (!decide (rg (c 9 j).toNatClampNeg = c 10 j)) = false) → f_X10_wrongGot_10 fu M (nI i) σ = some (o2m (wgE c ng rg), σ)
  | 0, i, fu, hi, hf, ha => by
    obtain ⟨f, rfl⟩ : ∃ f, fu = f + 1 := ⟨fu - 1, by omega⟩
    obtain rfl : i = ng := by omega
    have h6 := N.2.2.1
    rw [e_X10_wrongGot_10, core_k D, osb, gI_k D.2.2.2.1.1, osb, D.2.2.2.2.1.2.2.2.2.2.2.1, N.2.2.2.1, if_pos (nI_le (Nat.le_refl _) (by omega))]
    cases h : wgE c i rg with
    | none => rfl
    | some j => obtain ⟨h1, h2, -⟩ := fstN_some h; rw [ha j h1] at h2; cases h2
  | q + 1, i, fu, hi, hf, ha => by
    obtain ⟨f, rfl⟩ : ∃ f, fu = f + 1 := ⟨fu - 1, by omega⟩
    have h6 := N.2.2.1
    have P9 := D.2.2.2.1.2.2.2.2.2.2.2.2.2.1
    have P10 := D.2.2.2.1.2.2.2.2.2.2.2.2.2.2
    obtain ⟨S9, S10⟩ := D.2.2.2.2.1.2.2.2.2.2.2.2.2.2.2 i (by omega)
    obtain ⟨w, hw, ew⟩ := N.2.2.2.2.2.2 i (by omega)
    rw [e_X10_wrongGot_10, core_k D, osb, gI_k D.2.2.2.1.1, osb, D.2.2.2.2.1.2.2.2.2.2.2.1, N.2.2.2.1, if_neg (nI_ge (by omega) (by omega)), P.r D.1, osb, osb, P9.r D.2.2.2.1.1, osb, P9.g (by omega) (by omega), osb, S9, ew, P.g hw (by omega), osb, hr w hw, osb, P10.r D.2.2.2.1.1, osb, P10.g (by omega) (by omega), osb, S10]
    by_cases h : rg w = c 10 i
    · rw [if_pos h, nI_1]
      exact wg_l D N P hr q (i + 1) f (by omega) (by omega) (fun j hj => by
        by_cases e : j = i
        · subst e; rw [ew, nI_clamp (by omega), decide_eq_true h]; rfl
        · exact ha j (by omega))
    · rw [if_neg h]
      unfold wgE
      rw [fstN_of (j := i) (by omega) (by rw [ew, nI_clamp (by omega), decide_eq_false h]; rfl) ha]
      rfl
theorem wg_k (D : Md σ M k c x0) (C : Cok c m) (N : Cun c nu ng) (P : Fld σ M 15 (M + 2) 22 8) (o : Int32) : ∃ τ, f_X10_wrongGot M o σ = some (o2m (wgE c ng (plE c nu o 200).1), τ) ∧ FrP M σ τ := by
  have h6 := N.2.2.1
  obtain ⟨τ, t1, t2, t3⟩ := ply_k (o := o) (L := 200) D C N P (by omega)
  have t1' : f_X10_plainly M o 200 σ = some τ := t1
  have w := wg_l (D.frP t2) N t3.1.1 t3.1.2.1 ng 0 FU (by omega) (by unfold FU; omega) (fun _ h => absurd h (Nat.not_lt_zero _))
  rw [nI_0] at w
  unfold f_X10_wrongGot f_X10_wrongGot_0
  rw [if_pos D.1, t1', osb, w]
  exact ⟨τ, rfl, t2⟩
end Fits2
