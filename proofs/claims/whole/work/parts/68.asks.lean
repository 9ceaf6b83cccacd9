/-! FITS: what the reference asks -/
section Asks
variable {σ τ υ : St} {M k : Nat} {c : Nat → Nat → Int32} {m : Nat} {x x0 : Nat → Int32} {n nc nu ng : Nat} {f : Nat → Bool} {i0 : Int32}
def alI (l : Nat → Int32) (q : Option Nat) : Int32 := match q with
  | some b => l b
  | none => -2
theorem jmax_le {u v : Int32} : (if u ≤ v then v else u) = jmax u v := by
  unfold jmax
  by_cases h : u < v
  · rw [if_pos h, if_pos (Int32.le_of_lt h)]
  · rw [if_neg h]
    by_cases h2 : u ≤ v
    · rw [if_pos h2]; exact Int32.le_antisymm (Int32.not_lt.mp h) h2
    · rw [if_neg h2]
theorem asks_l (N : Cun c nu ng) (h0 : ¬ cntN f (2 ^ nu) = 0) : ∀ (q j fu : Nat) (σ : St), j + q = nu → q < fu → Md σ M k c x0 → Fld σ M 34 (M + 7) 22 4 → TEn σ M nu f → hI σ M 35 = alI (lfE f (2 ^ nu)) (bqE (lfE f (2 ^ nu)) j) → ∃ τ, f_X10_asks_17 fu M (o2m (bqE (lfE f (2 ^ nu)) j)) (nI j) σ = some (o2m (bqE (lfE f (2 ^ nu)) nu), τ) ∧ FrT M σ τ ∧ hI τ M 35 = alI (lfE f (2 ^ nu)) (bqE (lfE f (2 ^ nu)) nu)
  | 0, j, fu, σ, hj, hf, D, O, T, h35 => by
    obtain ⟨g, rfl⟩ : ∃ g, fu = g + 1 := ⟨fu - 1, by omega⟩
    have h4 := N.1
    obtain rfl : j = nu := by omega
    rw [e_X10_asks_17, core_k D, osb, D.un N, osb, if_pos (nI_le (Nat.le_refl _) (by omega))]
    exact ⟨σ, rfl, FrT.refl, h35⟩
  | q + 1, j, fu, σ, hj, hf, D, O, T, h35 => by
    obtain ⟨g, rfl⟩ : ∃ g, fu = g + 1 := ⟨fu - 1, by omega⟩
    have h4 := N.1
    have h16 := pw16 h4
    have hcl := cntN_le (p := f) (2 ^ nu)
    have hO : aI 22 (M + 7) (nI j) σ = some (nI (cntN (fun m => f m && bt (nI m) j) (2 ^ nu))) := by rw [O.g (by omega) (by omega), T.2.2.2 j (by omega)]
    have h75 : ∀ v : Int32, v = lfE f (2 ^ nu) j → ∃ τ, f_X10_asks_75 (f_X10_asks_17 g) M (o2m (bqE (lfE f (2 ^ nu)) j)) (nI j) v σ = some (o2m (bqE (lfE f (2 ^ nu)) nu), τ) ∧ FrT M σ τ ∧ hI τ M 35 = alI (lfE f (2 ^ nu)) (bqE (lfE f (2 ^ nu)) nu) := fun v hv => by
      subst hv
      have h93 : bqE (lfE f (2 ^ nu)) (j + 1) = some j → ∃ τ, f_X10_asks_93 (f_X10_asks_17 g) M (nI j) (lfE f (2 ^ nu) j) σ = some (o2m (bqE (lfE f (2 ^ nu)) nu), τ) ∧ FrT M σ τ ∧ hI τ M 35 = alI (lfE f (2 ^ nu)) (bqE (lfE f (2 ^ nu)) nu) := fun hb => by
        unfold f_X10_asks_93 f_X10_asks_100
        rw [pI_k D.1, osb, nI_1]
        have F1 : FrT M σ (sI σ M 35 (lfE f (2 ^ nu) j)) := FrT.s0 (by omega) (by omega)
        obtain ⟨τ, t1, t2, t3⟩ := asks_l N h0 q (j + 1) g (sI σ M 35 (lfE f (2 ^ nu) j)) (by omega) (by omega) (D.frT F1) (O.fr F1.1) ⟨by rw [hI_sIn (Or.inr (by omega))]; exact T.1, by rw [hI_sIn (Or.inr (by omega))]; exact T.2.1, by rw [hI_sIn (Or.inr (by omega))]; exact T.2.2.1, fun t ht => by rw [hI_sIn (Or.inl (by omega))]; exact T.2.2.2 t ht⟩ (by rw [hI_sIe, hb]; rfl)
        rw [hb] at t1
        exact ⟨τ, t1, F1.trans t2, t3⟩
      unfold f_X10_asks_75
      have hs : bqE (lfE f (2 ^ nu)) (j + 1) = match bqE (lfE f (2 ^ nu)) j with
        | none => some j
        | some b => if lfE f (2 ^ nu) j < lfE f (2 ^ nu) b then some j else some b := rfl
      cases hb : bqE (lfE f (2 ^ nu)) j with
      | none =>
        rw [show o2m none = (-2 : Int32) from rfl, if_pos rfl]
        rw [hb] at hs
        exact h93 hs
      | some b =>
        have hlt := bqE_lt hb
        rw [hb] at hs h35
        simp only at hs
        rw [show o2m (some b) = nI b from rfl, if_neg (nI_nm2 (by omega)), gI_k D.1, osb, h35]
        show ∃ τ, (if lfE f (2 ^ nu) j < lfE f (2 ^ nu) b then _ else _) = _ ∧ _
        by_cases hl : lfE f (2 ^ nu) j < lfE f (2 ^ nu) b
        · rw [if_pos hl]
          rw [if_pos hl] at hs
          exact h93 hs
        · rw [if_neg hl]
          rw [if_neg hl] at hs
          unfold f_X10_asks_100
          rw [nI_1]
          obtain ⟨τ, t1, t2, t3⟩ := asks_l N h0 q (j + 1) g σ (by omega) (by omega) D O T (by rw [h35, hs])
          rw [hs] at t1
          exact ⟨τ, t1, t2, t3⟩
    rw [e_X10_asks_17, core_k D, osb, D.un N, osb, if_neg (nI_ge (by omega) (by omega)), gI_k D.1, osb, T.1, if_neg (nI_nle (by omega) (by omega))]
    simp only [O.r D.1, hO, osb]
    have hm := jmax_le (u := nI (cntN (fun m => f m && bt (nI m) j) (2 ^ nu))) (v := nI (cntN f (2 ^ nu)) - nI (cntN (fun m => f m && bt (nI m) j) (2 ^ nu)))
    by_cases hle : nI (cntN (fun m => f m && bt (nI m) j) (2 ^ nu)) ≤ nI (cntN f (2 ^ nu)) - nI (cntN (fun m => f m && bt (nI m) j) (2 ^ nu))
    · rw [if_pos hle] at hm
      rw [if_pos hle]
      exact h75 _ hm
    · rw [if_neg hle] at hm
      rw [if_neg hle]
      exact h75 _ hm
theorem asks_k (D : Md σ M k c x0) (C : Cok c m) (N : Cun c nu ng) (P : Fld σ M 15 (M + 2) 22 8) (O : Fld σ M 34 (M + 7) 22 4) : ∃ τ, f_X10_asks M σ = some (o2m (bestE (fiE c nu ng) nu), τ) ∧ FrT M σ τ ∧ hI τ M 35 = alI (lfE (fiE c nu ng) (2 ^ nu)) (bestE (fiE c nu ng) nu) := by
  have h4 := N.1
  have h16 := pw16 h4
  obtain ⟨τ, t1, t2, t3⟩ := fit_k D C N P O (-1)
  unfold f_X10_asks f_X10_asks_0
  rw [if_pos D.1, t1, osb]
  dsimp only
  have D1 := D.frT t2
  rw [pI_k D1.1, osb]
  have F1 : FrT M τ (sI τ M 35 (-2)) := FrT.s0 (by omega) (by omega)
  have D2 := D1.frT F1
  have T2 : TEn (sI τ M 35 (-2)) M nu (fiE c nu ng) := ⟨by rw [hI_sIn (Or.inr (by omega))]; exact t3.1, by rw [hI_sIn (Or.inr (by omega))]; exact t3.2.1, by rw [hI_sIn (Or.inr (by omega))]; exact t3.2.2.1, fun t ht => by rw [hI_sIn (Or.inl (by omega))]; exact t3.2.2.2 t ht⟩
  unfold bestE
  by_cases h0 : cntN (fiE c nu ng) (2 ^ nu) = 0
  · rw [if_pos h0, show FU = 4999 + 1 from rfl, e_X10_asks_17, core_k D2, osb, D2.un N, osb, gI_k D2.1, osb, T2.1, h0, if_pos (show nI 0 ≤ 0 by decide)]
    unfold f_X10_asks_106
    refine ⟨sI τ M 35 (-2), ?_, t2.trans F1, hI_sIe⟩
    split <;> rfl
  · rw [if_neg h0]
    obtain ⟨υ, u1, u2, u3⟩ := asks_l N h0 nu 0 FU (sI τ M 35 (-2)) (by omega) (by unfold FU; omega) D2 (O.fr (t2.trans F1).1) T2 hI_sIe
    rw [nI_0] at u1
    exact ⟨υ, u1, (t2.trans F1).trans u2, u3⟩
end Asks
