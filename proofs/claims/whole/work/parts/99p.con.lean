/-! CONSTRUCTORS -/
/-- n new cells, all zero, and nothing else has changed -/
def NwB (σ τ : St) (n : Nat) : Prop := (∀ r, r < hZ σ → Sm σ τ r) ∧ hZ τ = hZ σ + n ∧ ∀ r, hZ σ ≤ r → r < hZ σ + n → ∀ q, hI τ r q = 0
section Con
variable {σ τ υ : St} {a f t n k j f' r t' n' ty : Nat}
theorem hZ_sP {v : Option Nat} : hZ (sP σ a k v) = hZ σ := rfl
theorem hI_sP9 {v : Option Nat} : hI (sP σ a k v) = hI σ := rfl
theorem pinit_k (σ : St) : ∃ τ, f_X5_init (hZ σ) (nw σ 6 0) = some τ ∧ PSh τ (hZ σ) ∧ NwB σ τ 11 := by
  have B0 := Bt.new σ 6 0
  unfold NwB
  generalize hZ σ = k at B0 ⊢
  unfold f_X5_init f_X5_init_0
  rw [if_pos B0.2.1]
  generalize nw σ 6 0 = σ0 at B0 ⊢
  have B1 := B0.go (f := 6) (t := 22) (n := 24)
  have a1 := B0.fld (f := 6) (t := 22) (n := 24)
  rw [B0.st]
  generalize nwF σ0 k 6 22 24 = σ1 at B1 a1 ⊢
  have B2 := B1.go (f := 7) (t := 22) (n := 24)
  have a2 := B1.fld (f := 7) (t := 22) (n := 24)
  replace a1 := B1.no (f := 7) (t := 22) (n := 24) a1 (by omega) (by omega)
  rw [B1.st]
  generalize nwF σ1 k 7 22 24 = σ2 at B2 a1 a2 ⊢
  have B3 := B2.go (f := 8) (t := 22) (n := 24)
  have a3 := B2.fld (f := 8) (t := 22) (n := 24)
  replace a1 := B2.no (f := 8) (t := 22) (n := 24) a1 (by omega) (by omega)
  replace a2 := B2.no (f := 8) (t := 22) (n := 24) a2 (by omega) (by omega)
  rw [B2.st]
  generalize nwF σ2 k 8 22 24 = σ3 at B3 a1 a2 a3 ⊢
  have B4 := B3.go (f := 9) (t := 22) (n := 24)
  have a4 := B3.fld (f := 9) (t := 22) (n := 24)
  replace a1 := B3.no (f := 9) (t := 22) (n := 24) a1 (by omega) (by omega)
  replace a2 := B3.no (f := 9) (t := 22) (n := 24) a2 (by omega) (by omega)
  replace a3 := B3.no (f := 9) (t := 22) (n := 24) a3 (by omega) (by omega)
  rw [B3.st]
  generalize nwF σ3 k 9 22 24 = σ4 at B4 a1 a2 a3 a4 ⊢
  have B5 := B4.go (f := 10) (t := 22) (n := 24)
  have a5 := B4.fld (f := 10) (t := 22) (n := 24)
  replace a1 := B4.no (f := 10) (t := 22) (n := 24) a1 (by omega) (by omega)
  replace a2 := B4.no (f := 10) (t := 22) (n := 24) a2 (by omega) (by omega)
  replace a3 := B4.no (f := 10) (t := 22) (n := 24) a3 (by omega) (by omega)
  replace a4 := B4.no (f := 10) (t := 22) (n := 24) a4 (by omega) (by omega)
  rw [B4.st]
  generalize nwF σ4 k 10 22 24 = σ5 at B5 a1 a2 a3 a4 a5 ⊢
  have B6 := B5.go (f := 11) (t := 23) (n := 24)
  have a6 := B5.fld (f := 11) (t := 23) (n := 24)
  replace a1 := B5.no (f := 11) (t := 23) (n := 24) a1 (by omega) (by omega)
  replace a2 := B5.no (f := 11) (t := 23) (n := 24) a2 (by omega) (by omega)
  replace a3 := B5.no (f := 11) (t := 23) (n := 24) a3 (by omega) (by omega)
  replace a4 := B5.no (f := 11) (t := 23) (n := 24) a4 (by omega) (by omega)
  replace a5 := B5.no (f := 11) (t := 23) (n := 24) a5 (by omega) (by omega)
  rw [B5.st]
  generalize nwF σ5 k 11 23 24 = σ6 at B6 a1 a2 a3 a4 a5 a6 ⊢
  have B7 := B6.go (f := 13) (t := 22) (n := 4)
  have a7 := B6.fld (f := 13) (t := 22) (n := 4)
  replace a1 := B6.no (f := 13) (t := 22) (n := 4) a1 (by omega) (by omega)
  replace a2 := B6.no (f := 13) (t := 22) (n := 4) a2 (by omega) (by omega)
  replace a3 := B6.no (f := 13) (t := 22) (n := 4) a3 (by omega) (by omega)
  replace a4 := B6.no (f := 13) (t := 22) (n := 4) a4 (by omega) (by omega)
  replace a5 := B6.no (f := 13) (t := 22) (n := 4) a5 (by omega) (by omega)
  replace a6 := B6.no (f := 13) (t := 22) (n := 4) a6 (by omega) (by omega)
  rw [B6.st]
  generalize nwF σ6 k 13 22 4 = σ7 at B7 a1 a2 a3 a4 a5 a6 a7 ⊢
  have B8 := B7.go (f := 14) (t := 22) (n := 4)
  have a8 := B7.fld (f := 14) (t := 22) (n := 4)
  replace a1 := B7.no (f := 14) (t := 22) (n := 4) a1 (by omega) (by omega)
  replace a2 := B7.no (f := 14) (t := 22) (n := 4) a2 (by omega) (by omega)
  replace a3 := B7.no (f := 14) (t := 22) (n := 4) a3 (by omega) (by omega)
  replace a4 := B7.no (f := 14) (t := 22) (n := 4) a4 (by omega) (by omega)
  replace a5 := B7.no (f := 14) (t := 22) (n := 4) a5 (by omega) (by omega)
  replace a6 := B7.no (f := 14) (t := 22) (n := 4) a6 (by omega) (by omega)
  replace a7 := B7.no (f := 14) (t := 22) (n := 4) a7 (by omega) (by omega)
  rw [B7.st]
  generalize nwF σ7 k 14 22 4 = σ8 at B8 a1 a2 a3 a4 a5 a6 a7 a8 ⊢
  have B9 := B8.go (f := 16) (t := 22) (n := 6)
  have a9 := B8.fld (f := 16) (t := 22) (n := 6)
  replace a1 := B8.no (f := 16) (t := 22) (n := 6) a1 (by omega) (by omega)
  replace a2 := B8.no (f := 16) (t := 22) (n := 6) a2 (by omega) (by omega)
  replace a3 := B8.no (f := 16) (t := 22) (n := 6) a3 (by omega) (by omega)
  replace a4 := B8.no (f := 16) (t := 22) (n := 6) a4 (by omega) (by omega)
  replace a5 := B8.no (f := 16) (t := 22) (n := 6) a5 (by omega) (by omega)
  replace a6 := B8.no (f := 16) (t := 22) (n := 6) a6 (by omega) (by omega)
  replace a7 := B8.no (f := 16) (t := 22) (n := 6) a7 (by omega) (by omega)
  replace a8 := B8.no (f := 16) (t := 22) (n := 6) a8 (by omega) (by omega)
  rw [B8.st]
  generalize nwF σ8 k 16 22 6 = σ9 at B9 a1 a2 a3 a4 a5 a6 a7 a8 a9 ⊢
  have B10 := B9.go (f := 17) (t := 22) (n := 6)
  have a10 := B9.fld (f := 17) (t := 22) (n := 6)
  replace a1 := B9.no (f := 17) (t := 22) (n := 6) a1 (by omega) (by omega)
  replace a2 := B9.no (f := 17) (t := 22) (n := 6) a2 (by omega) (by omega)
  replace a3 := B9.no (f := 17) (t := 22) (n := 6) a3 (by omega) (by omega)
  replace a4 := B9.no (f := 17) (t := 22) (n := 6) a4 (by omega) (by omega)
  replace a5 := B9.no (f := 17) (t := 22) (n := 6) a5 (by omega) (by omega)
  replace a6 := B9.no (f := 17) (t := 22) (n := 6) a6 (by omega) (by omega)
  replace a7 := B9.no (f := 17) (t := 22) (n := 6) a7 (by omega) (by omega)
  replace a8 := B9.no (f := 17) (t := 22) (n := 6) a8 (by omega) (by omega)
  replace a9 := B9.no (f := 17) (t := 22) (n := 6) a9 (by omega) (by omega)
  rw [B9.st]
  generalize nwF σ9 k 17 22 6 = σ10 at B10 a1 a2 a3 a4 a5 a6 a7 a8 a9 a10 ⊢
  obtain ⟨b1, b2, b3, b4, b5⟩ := B10
  exact ⟨σ10, rfl, ⟨b2, a1, a2, a3, a4, a5, a6, a7, a8, a9, a10⟩, b1, b3, b5⟩
theorem minit_k (σ : St) (p : Nat) : ∃ τ, f_X3_init (hZ σ) p (nw σ 4 0) = some τ ∧ MSh τ (hZ σ) ∧ NwB σ τ 7 := by
  have B0 := Bt.new σ 4 0
  unfold NwB
  generalize hZ σ = k at B0 ⊢
  unfold f_X3_init f_X3_init_0
  rw [if_pos B0.2.1]
  generalize nw σ 4 0 = σ0 at B0 ⊢
  have B1 := B0.go (f := 2) (t := 22) (n := 24)
  have a1 := B0.fld (f := 2) (t := 22) (n := 24)
  rw [B0.st]
  generalize nwF σ0 k 2 22 24 = σ1 at B1 a1 ⊢
  have B2 := B1.go (f := 4) (t := 22) (n := 8)
  have a2 := B1.fld (f := 4) (t := 22) (n := 8)
  replace a1 := B1.no (f := 4) (t := 22) (n := 8) a1 (by omega) (by omega)
  rw [B1.st]
  generalize nwF σ1 k 4 22 8 = σ2 at B2 a1 a2 ⊢
  have B3 := B2.go (f := 7) (t := 22) (n := 12)
  have a3 := B2.fld (f := 7) (t := 22) (n := 12)
  replace a1 := B2.no (f := 7) (t := 22) (n := 12) a1 (by omega) (by omega)
  replace a2 := B2.no (f := 7) (t := 22) (n := 12) a2 (by omega) (by omega)
  rw [B2.st]
  generalize nwF σ2 k 7 22 12 = σ3 at B3 a1 a2 a3 ⊢
  have B4 := B3.go (f := 8) (t := 22) (n := 12)
  have a4 := B3.fld (f := 8) (t := 22) (n := 12)
  replace a1 := B3.no (f := 8) (t := 22) (n := 12) a1 (by omega) (by omega)
  replace a2 := B3.no (f := 8) (t := 22) (n := 12) a2 (by omega) (by omega)
  replace a3 := B3.no (f := 8) (t := 22) (n := 12) a3 (by omega) (by omega)
  rw [B3.st]
  generalize nwF σ3 k 8 22 12 = σ4 at B4 a1 a2 a3 a4 ⊢
  have B5 := B4.go (f := 9) (t := 22) (n := 12)
  have a5 := B4.fld (f := 9) (t := 22) (n := 12)
  replace a1 := B4.no (f := 9) (t := 22) (n := 12) a1 (by omega) (by omega)
  replace a2 := B4.no (f := 9) (t := 22) (n := 12) a2 (by omega) (by omega)
  replace a3 := B4.no (f := 9) (t := 22) (n := 12) a3 (by omega) (by omega)
  replace a4 := B4.no (f := 9) (t := 22) (n := 12) a4 (by omega) (by omega)
  rw [B4.st]
  generalize nwF σ4 k 9 22 12 = σ5 at B5 a1 a2 a3 a4 a5 ⊢
  have B6 := B5.go (f := 10) (t := 22) (n := 12)
  have a6 := B5.fld (f := 10) (t := 22) (n := 12)
  replace a1 := B5.no (f := 10) (t := 22) (n := 12) a1 (by omega) (by omega)
  replace a2 := B5.no (f := 10) (t := 22) (n := 12) a2 (by omega) (by omega)
  replace a3 := B5.no (f := 10) (t := 22) (n := 12) a3 (by omega) (by omega)
  replace a4 := B5.no (f := 10) (t := 22) (n := 12) a4 (by omega) (by omega)
  replace a5 := B5.no (f := 10) (t := 22) (n := 12) a5 (by omega) (by omega)
  rw [B5.st]
  generalize nwF σ5 k 10 22 12 = σ6 at B6 a1 a2 a3 a4 a5 a6 ⊢
  obtain ⟨b1, b2, b3, b4, b5⟩ := B6
  rw [pP_k b2, osb]
  have H : MSh σ6 k := ⟨b2, a1, a2, a3, a4, a5, a6⟩
  have H1 := H.sP (p := p)
  have z1 : hZ (sP σ6 k 0 (some p)) = k + 7 := by rw [hZ_sP, b3]
  have i1 : ∀ r, hI (sP σ6 k 0 (some p)) r = hI σ6 r := fun r => by rw [hI_sP9]
  have g1 : ∀ r, r < k → Sm σ6 (sP σ6 k 0 (some p)) r := fun r hr => (Fg.sP (S := fun r => r = k) rfl).2 r (by omega)
  generalize sP σ6 k 0 (some p) = τ at H1 z1 i1 g1 ⊢
  exact ⟨τ, rfl, H1, fun r hr => (b1 r hr).trans (g1 r hr), z1, fun r h1 h2 q => by rw [i1]; exact b5 r h1 h2 q⟩
theorem tinit_k (σ : St) : ∃ τ, f_X7_init (hZ σ) (nw σ 8 0) = some τ ∧ TSh τ (hZ σ) ∧ NwB σ τ 4 := by
  have B0 := Bt.new σ 8 0
  unfold NwB
  generalize hZ σ = k at B0 ⊢
  unfold f_X7_init f_X7_init_0
  rw [if_pos B0.2.1]
  generalize nw σ 8 0 = σ0 at B0 ⊢
  have B1 := B0.go (f := 0) (t := 22) (n := 901)
  have a1 := B0.fld (f := 0) (t := 22) (n := 901)
  rw [B0.st]
  generalize nwF σ0 k 0 22 901 = σ1 at B1 a1 ⊢
  have B2 := B1.go (f := 1) (t := 22) (n := 901)
  have a2 := B1.fld (f := 1) (t := 22) (n := 901)
  replace a1 := B1.no (f := 1) (t := 22) (n := 901) a1 (by omega) (by omega)
  rw [B1.st]
  generalize nwF σ1 k 1 22 901 = σ2 at B2 a1 a2 ⊢
  have B3 := B2.go (f := 2) (t := 22) (n := 901)
  have a3 := B2.fld (f := 2) (t := 22) (n := 901)
  replace a1 := B2.no (f := 2) (t := 22) (n := 901) a1 (by omega) (by omega)
  replace a2 := B2.no (f := 2) (t := 22) (n := 901) a2 (by omega) (by omega)
  rw [B2.st]
  generalize nwF σ2 k 2 22 901 = σ3 at B3 a1 a2 a3 ⊢
  obtain ⟨b1, b2, b3, b4, b5⟩ := B3
  exact ⟨σ3, rfl, ⟨b2, a1, a2, a3⟩, b1, b3, b5⟩
theorem linit_k (σ : St) : ∃ τ, f_X4_init (hZ σ) (nw σ 5 0) = some τ ∧ LSh τ (hZ σ) ∧ NwB σ τ 2 := by
  have B0 := Bt.new σ 5 0
  unfold NwB
  generalize hZ σ = k at B0 ⊢
  unfold f_X4_init f_X4_init_0
  rw [if_pos B0.2.1]
  generalize nw σ 5 0 = σ0 at B0 ⊢
  have B1 := B0.go (f := 0) (t := 22) (n := 8)
  have a1 := B0.fld (f := 0) (t := 22) (n := 8)
  rw [B0.st]
  generalize nwF σ0 k 0 22 8 = σ1 at B1 a1 ⊢
  obtain ⟨b1, b2, b3, b4, b5⟩ := B1
  exact ⟨σ1, rfl, ⟨b2, a1⟩, b1, b3, b5⟩
end Con
