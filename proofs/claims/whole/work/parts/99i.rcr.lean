/-! THE REFERENCE reads a text into a new Core -/
section Rcr
variable {σ τ υ : St} {M L k : Nat} {b : Nat → Int32}
theorem rcr_k (h0 : hT σ M = 11) (F : Fld σ M 5 (M + 1) 21 900) (h9 : L ≤ 900) (hb : ∀ j, j < 900 → hI σ (M + 1) j = b j) (hj : ∀ j, j < 900 → jb (b j) = b j) (hz : M + 9 ≤ hZ σ) : ∃ τ, (∀ g : St → Option (Int32 × St), ((pI 11 7 M (nI L) σ).bind fun σ5 => (pI 11 6 M 0 σ5).bind fun σ6 => (pI 11 8 M 0 σ6).bind fun σ7 => (pI 11 12 M 0 σ7).bind fun σ8 => bnd (nw σ8 10 0) fun σ9 => (f_X9_init (hZ σ8) σ9).bind fun σ10 => (pP 11 4 M (hZ σ8) σ10).bind fun σ11 => (pI 11 9 M 0 σ11).bind fun σ12 => (f_X10_goesOn M σ12).bind fun σ13 => (f_X10_readAll M σ13).bind g) = g τ) ∧ hZ τ = hZ σ + 11 ∧ (∀ r, r < hZ σ → r ≠ M → Sm σ τ r) ∧ hT τ M = 11 ∧ hN τ M = hN σ M ∧ (∀ j, j ≠ 4 → hP τ M j = hP σ M j) ∧ (∀ q, (q < 6 ∨ 13 < q) → hI τ M q = hI σ M q) ∧ hI τ M 6 = 0 ∧ OutQ τ M (pAll b L (L + 1) false ((fun _ _ => 0), 0, 0, 0) (bkE b L 0)) (fun s => RC τ M (hZ σ) s.1 ∧ hI τ M 12 = 0) := by
  have e8 : ∃ σ8, sI (sI (sI (sI σ M 7 (nI L)) M 6 0) M 8 0) M 12 0 = σ8 := ⟨_, rfl⟩
  obtain ⟨σ8, e8⟩ := e8
  have t8 : hT σ8 = hT σ := by rw [← e8]; rfl
  have n8 : hN σ8 = hN σ := by rw [← e8]; rfl
  have p8 : hP σ8 = hP σ := by rw [← e8]; rfl
  have l8 : hL σ8 = hL σ := by rw [← e8]; rfl
  have z8 : hZ σ8 = hZ σ := by rw [← e8]; rfl
  have i8 : ∀ r, r ≠ M → hI σ8 r = hI σ r := fun r hr => by rw [← e8, hI_sIr hr, hI_sIr hr, hI_sIr hr, hI_sIr hr]
  have m8 : ∀ q, (q < 6 ∨ 13 < q) → hI σ8 M q = hI σ M q := fun q hq => by rw [← e8, hI_sIn (Or.inr (by omega)), hI_sIn (Or.inr (by omega)), hI_sIn (Or.inr (by omega)), hI_sIn (Or.inr (by omega))]
  have m7 : hI σ8 M 7 = nI L := by rw [← e8, hI_sIn (Or.inr (by omega)), hI_sIn (Or.inr (by omega)), hI_sIn (Or.inr (by omega)), hI_sIe]
  have m6 : hI σ8 M 6 = 0 := by rw [← e8, hI_sIn (Or.inr (by omega)), hI_sIn (Or.inr (by omega)), hI_sIe]
  have ms : hI σ8 M 8 = 0 := by rw [← e8, hI_sIn (Or.inr (by omega)), hI_sIe]
  have m12 : hI σ8 M 12 = 0 := by rw [← e8, hI_sIe]
  have x8 : ∀ g : St → Option (Int32 × St), ((pI 11 7 M (nI L) σ).bind fun σ5 => (pI 11 6 M 0 σ5).bind fun σ6 => (pI 11 8 M 0 σ6).bind fun σ7 => (pI 11 12 M 0 σ7).bind g) = g σ8 := fun g => by
    rw [pI_k h0, osb, pI_k (σ := sI σ M 7 (nI L)) h0, osb, pI_k (σ := sI (sI σ M 7 (nI L)) M 6 0) h0, osb, pI_k (σ := sI (sI (sI σ M 7 (nI L)) M 6 0) M 8 0) h0, osb, e8]
  obtain ⟨σ10, c1, c2, c3, c4, c5⟩ := cinit_k σ8
  rw [z8] at c1 c2 c3 c4 c5
  have sM := c5 M (by omega)
  have s1 := c5 (M + 1) (by omega)
  have t10 : hT σ10 M = 11 := by rw [sM.1, t8]; exact h0
  obtain ⟨σ12, e12⟩ : ∃ σ12, sI (sP σ10 M 4 (some (hZ σ))) M 9 0 = σ12 := ⟨_, rfl⟩
  have t12 : hT σ12 = hT σ10 := by rw [← e12]; rfl
  have n12 : hN σ12 = hN σ10 := by rw [← e12]; rfl
  have z12 : hZ σ12 = hZ σ10 := by rw [← e12]; rfl
  have l12 : hL σ12 = hL σ10 := by rw [← e12]; rfl
  have p12 : ∀ r j, (r ≠ M ∨ j ≠ 4) → hP σ12 r j = hP σ10 r j := fun r j h => by rw [← e12]; exact hP_sPn h
  have p4 : hP σ12 M 4 = some (hZ σ) := by rw [← e12]; exact hP_sPe
  have i12 : ∀ r, r ≠ M → hI σ12 r = hI σ10 r := fun r hr => by rw [← e12, hI_sIr hr]; rfl
  have q12 : ∀ q, q ≠ 9 → hI σ12 M q = hI σ10 M q := fun q hq => by rw [← e12, hI_sIn (Or.inr hq)]; rfl
  have q9 : hI σ12 M 9 = 0 := by rw [← e12, hI_sIe]
  have s12 : ∀ r, r ≠ M → Sm σ10 σ12 r := fun r hr => ⟨by rw [t12], by rw [n12], i12 r hr, by funext j; exact p12 r j (Or.inl hr), by rw [l12]⟩
  have H : Rt σ12 M L b := ⟨by rw [t12]; exact t10, ⟨by rw [p12 _ _ (Or.inr (by omega)), sM.2.2.2.1, p8]; exact F.1, by rw [t12, s1.1, t8]; exact F.2.1, by rw [n12, s1.2.1, n8]; exact F.2.2⟩, by rw [q12 _ (by omega), sM.2.2.1]; exact m7, h9, fun j hj => by rw [i12 _ (by omega), s1.2.2.1, i8 _ (by omega)]; exact hb j hj, hj⟩
  obtain ⟨σ13, g1, g2, g3⟩ := gon_q H (q := 0) (by omega) (by rw [q12 _ (by omega), sM.2.2.1, ms]; rfl) (by rw [q9]; decide)
  have C12 : RC σ12 M (hZ σ) (fun _ _ => 0) := ⟨p4, c2.sm (fun r h1 h2 => s12 r (by omega)), c3.sm (fun r h1 h2 => s12 r (by omega)), hz⟩
  have T13 : RG σ13 M L b (bkE b L 0) := ⟨g3, by rw [g2.2.2.2.2.2 12 (by omega), q12 _ (by omega), sM.2.2.1]; exact m12⟩
  obtain ⟨τ, r1, r2, r3⟩ := ra_r T13 (C12.fr g2.v)
  have FK : FrK M (hZ σ) σ12 τ := g2.v.toK.trans r2
  refine ⟨τ, fun g => ?_, ?_, fun r hr hM => ?_, ?_, ?_, fun j hj => ?_, fun q hq => ?_, ?_, r3⟩
  · rw [x8, bndu, z8, c1, osb, pP_k t10, osb, pI_k (σ := sP σ10 M 4 (some (hZ σ))) t10, osb, e12, g1, osb, r1, osb]
  · rw [FK.2.2.2.1, z12]; exact c4
  · have a := c5 r hr
    have c := s12 r hM
    have e := FK.2.2.2.2.1 r hM (by omega)
    exact ⟨by rw [FK.1, c.1, a.1, t8], by rw [FK.2.1, c.2.1, a.2.1, n8], by rw [e.1, c.2.2.1, a.2.2.1, i8 r hM], by rw [FK.2.2.1, c.2.2.2.1, a.2.2.2.1, p8], by rw [e.2, c.2.2.2.2, a.2.2.2.2, l8]⟩
  · rw [FK.1, t12]; exact t10
  · rw [FK.2.1, n12, sM.2.1, n8]
  · rw [FK.2.2.1, p12 _ _ (Or.inr hj), sM.2.2.2.1, p8]
  · rw [FK.2.2.2.2.2 q (by omega), q12 q (by omega), sM.2.2.1]; exact m8 q hq
  · rw [FK.2.2.2.2.2 6 (by omega), q12 6 (by omega), sM.2.2.1]; exact m6
end Rcr
