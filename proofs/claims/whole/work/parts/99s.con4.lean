/-! THE REFERENCE's constructor, and what holds at the start -/
section Con4
variable {σ0 σ τ υ : St} {a f t n k j f' r t' n' ty b : Nat} {F : Nat → Int32}
/-- as Bt, but the first cell has the ints F -/
def Bu (σ0 σ : St) (k ty j : Nat) (F : Nat → Int32) : Prop := (∀ r, r < k → Sm σ0 σ r) ∧ hT σ k = ty ∧ hZ σ = k + j ∧ 0 < j ∧ hI σ k = F ∧ (∀ q, q < 5 → hP σ k q = none) ∧ ∀ r, k < r → r < k + j → ∀ q, hI σ r q = 0
theorem Bu.go (B : Bu σ0 σ k ty j F) (h5 : 5 ≤ f) : Bu σ0 (nwF σ k f t n) k ty (j + 1) F := by
  obtain ⟨b1, b2, b3, b4, b5, b6, b7⟩ := B
  refine ⟨fun r hr => (b1 r hr).trans (nwF_sm (by omega) (by omega)), by rw [nwF_t (by omega)]; exact b2, by rw [nwF_z]; omega, by omega, by rw [nwF_i (by omega)]; exact b5, fun q hq => by rw [nwF_p (by omega) (Or.inr (by omega))]; exact b6 q hq, fun r h1 h2 q => ?_⟩
  by_cases e : r = hZ σ
  · exact if_pos e
  · rw [nwF_i e]; exact b7 r h1 (by omega) q
theorem Bu.st (B : Bu σ0 σ k ty j F) {α : Type} {g : St → Option α} : (bnd (nw σ t n) fun σ1 => (pP ty f k (hZ σ) σ1).bind g) = g (nwF σ k f t n) := nwF_e B.2.1 (by have := B.2.2.1; have := B.2.2.2.1; omega)
theorem Bu.fld (B : Bu σ0 σ k ty j F) : Fld (nwF σ k f t n) k f (k + j) t n := by
  have h := B.2.2.1
  have h2 := B.2.2.2.1
  rw [← h]
  exact nwF_f (by omega)
theorem Bu.no (B : Bu σ0 σ k ty j F) (F' : Fld σ k f' (k + r) t' n') (hr : r < j) (hf : f' ≠ f) : Fld (nwF σ k f t n) k f' (k + r) t' n' := by
  have h := B.2.2.1
  exact nwF_o F' (by omega) (by omega) hf
theorem ginit_k (σ : St) : ∃ τ, f_X10_init (hZ σ) (nw σ 11 0) = some τ ∧ (∀ r, r < hZ σ → Sm σ τ r) ∧ hT τ (hZ σ) = 11 ∧ hZ τ = hZ σ + 8 ∧ hI τ (hZ σ) 2 = -1 ∧ (∀ q, q ≠ 2 → hI τ (hZ σ) q = 0) ∧ hP τ (hZ σ) 3 = none ∧ (∀ r, hZ σ < r → r < hZ σ + 8 → ∀ q, hI τ r q = 0) ∧ Fld τ (hZ σ) 5 (hZ σ + 1) 21 900 ∧ Fld τ (hZ σ) 15 (hZ σ + 2) 22 8 ∧ Fld τ (hZ σ) 20 (hZ σ + 3) 22 195 ∧ Fld τ (hZ σ) 21 (hZ σ + 4) 22 195 ∧ Fld τ (hZ σ) 22 (hZ σ + 5) 22 3120 ∧ Fld τ (hZ σ) 23 (hZ σ + 6) 22 585 ∧ Fld τ (hZ σ) 34 (hZ σ + 7) 22 4 := by
  have B := Bt.new σ 11 0
  have hp : ∀ q, hP (nw σ 11 0) (hZ σ) q = none := fun q => if_pos rfl
  generalize hZ σ = k at B hp ⊢
  unfold f_X10_init f_X10_init_0
  rw [if_pos B.2.1, pI_k B.2.1, osb]
  generalize nw σ 11 0 = σ0 at B hp ⊢
  have B0 : Bu σ (sI σ0 k 2 (-1)) k 11 1 (hI (sI σ0 k 2 (-1)) k) := ⟨fun r hr => (B.1 r hr).trans ((Fg.sI (S := fun r => r = k) rfl).2 r (by omega)), B.2.1, B.2.2.1, by omega, rfl, fun q _ => hp q, fun r h1 h2 => absurd h2 (by omega)⟩
  have i2 : hI (sI σ0 k 2 (-1)) k 2 = -1 := hI_sIe
  have iq : ∀ q, q ≠ 2 → hI (sI σ0 k 2 (-1)) k q = 0 := fun q hq => by rw [hI_sIn (Or.inr hq)]; exact B.2.2.2.2 k (by omega) (by omega) q
  generalize hI (sI σ0 k 2 (-1)) k = F at B0 i2 iq
  generalize sI σ0 k 2 (-1) = σ0 at B0 ⊢
  have B1 := B0.go (f := 5) (t := 21) (n := 900) (by omega)
  have a1 := B0.fld (f := 5) (t := 21) (n := 900)
  rw [B0.st]
  generalize nwF σ0 k 5 21 900 = σ1 at B1 a1 ⊢
  have B2 := B1.go (f := 15) (t := 22) (n := 8) (by omega)
  have a2 := B1.fld (f := 15) (t := 22) (n := 8)
  replace a1 := B1.no (f := 15) (t := 22) (n := 8) a1 (by omega) (by omega)
  rw [B1.st]
  generalize nwF σ1 k 15 22 8 = σ2 at B2 a1 a2 ⊢
  have B3 := B2.go (f := 20) (t := 22) (n := 195) (by omega)
  have a3 := B2.fld (f := 20) (t := 22) (n := 195)
  replace a1 := B2.no (f := 20) (t := 22) (n := 195) a1 (by omega) (by omega)
  replace a2 := B2.no (f := 20) (t := 22) (n := 195) a2 (by omega) (by omega)
  rw [B2.st]
  generalize nwF σ2 k 20 22 195 = σ3 at B3 a1 a2 a3 ⊢
  have B4 := B3.go (f := 21) (t := 22) (n := 195) (by omega)
  have a4 := B3.fld (f := 21) (t := 22) (n := 195)
  replace a1 := B3.no (f := 21) (t := 22) (n := 195) a1 (by omega) (by omega)
  replace a2 := B3.no (f := 21) (t := 22) (n := 195) a2 (by omega) (by omega)
  replace a3 := B3.no (f := 21) (t := 22) (n := 195) a3 (by omega) (by omega)
  rw [B3.st]
  generalize nwF σ3 k 21 22 195 = σ4 at B4 a1 a2 a3 a4 ⊢
  have B5 := B4.go (f := 22) (t := 22) (n := 3120) (by omega)
  have a5 := B4.fld (f := 22) (t := 22) (n := 3120)
  replace a1 := B4.no (f := 22) (t := 22) (n := 3120) a1 (by omega) (by omega)
  replace a2 := B4.no (f := 22) (t := 22) (n := 3120) a2 (by omega) (by omega)
  replace a3 := B4.no (f := 22) (t := 22) (n := 3120) a3 (by omega) (by omega)
  replace a4 := B4.no (f := 22) (t := 22) (n := 3120) a4 (by omega) (by omega)
  rw [B4.st]
  generalize nwF σ4 k 22 22 3120 = σ5 at B5 a1 a2 a3 a4 a5 ⊢
  have B6 := B5.go (f := 23) (t := 22) (n := 585) (by omega)
  have a6 := B5.fld (f := 23) (t := 22) (n := 585)
  replace a1 := B5.no (f := 23) (t := 22) (n := 585) a1 (by omega) (by omega)
  replace a2 := B5.no (f := 23) (t := 22) (n := 585) a2 (by omega) (by omega)
  replace a3 := B5.no (f := 23) (t := 22) (n := 585) a3 (by omega) (by omega)
  replace a4 := B5.no (f := 23) (t := 22) (n := 585) a4 (by omega) (by omega)
  replace a5 := B5.no (f := 23) (t := 22) (n := 585) a5 (by omega) (by omega)
  rw [B5.st]
  generalize nwF σ5 k 23 22 585 = σ6 at B6 a1 a2 a3 a4 a5 a6 ⊢
  have B7 := B6.go (f := 34) (t := 22) (n := 4) (by omega)
  have a7 := B6.fld (f := 34) (t := 22) (n := 4)
  replace a1 := B6.no (f := 34) (t := 22) (n := 4) a1 (by omega) (by omega)
  replace a2 := B6.no (f := 34) (t := 22) (n := 4) a2 (by omega) (by omega)
  replace a3 := B6.no (f := 34) (t := 22) (n := 4) a3 (by omega) (by omega)
  replace a4 := B6.no (f := 34) (t := 22) (n := 4) a4 (by omega) (by omega)
  replace a5 := B6.no (f := 34) (t := 22) (n := 4) a5 (by omega) (by omega)
  replace a6 := B6.no (f := 34) (t := 22) (n := 4) a6 (by omega) (by omega)
  rw [B6.st]
  generalize nwF σ6 k 34 22 4 = σ7 at B7 a1 a2 a3 a4 a5 a6 a7 ⊢
  obtain ⟨b1, b2, b3, b4, b5, b6, b7⟩ := B7
  exact ⟨σ7, rfl, b1, b2, b3, by rw [b5]; exact i2, fun q hq => by rw [b5]; exact iq q hq, b6 3 (by omega), b7, a1, a2, a3, a4, a5, a6, a7⟩
/-- the start: x, the reference, the row for led's answer -/
theorem J_start (σ : St) : ∃ τ υ, f_X8_init (hZ σ) (nw σ 9 0) = some τ ∧ hZ τ = hZ σ + 195 ∧ f_X10_init (hZ σ + 195) (nw τ 11 0) = some υ ∧ hZ υ = hZ σ + 203 ∧ J (hZ σ) 0 (nw υ 24 1) ∧ (∀ r, r < hZ σ → Sm σ (nw υ 24 1) r) := by
  obtain ⟨τ, t1, c1, c2, c3, c4, n1, n2, n3⟩ := zinit_k σ
  obtain ⟨υ, u1, g1, g2, g3, g4, g5, g6, g7, f1, f2, f3, f4, f5, f6, f7⟩ := ginit_k τ
  rw [n2] at u1 g1 g2 g3 g4 g5 g6 g7 f1 f2 f3 f4 f5 f6 f7
  generalize hZ σ = z at *
  obtain ⟨w1, w2, w3⟩ := NwB.arr (σ := υ) (t := 24) (n := 1)
  have hT9 : hT (nw υ 24 1) (hZ υ) = 24 := if_pos rfl
  have hN9 : hN (nw υ 24 1) (hZ υ) = 1 := if_pos rfl
  have hz : hZ υ = z + 203 := by omega
  rw [hz] at w1 w2 hT9 hN9
  refine ⟨τ, υ, t1, n2, u1, hz, ?_⟩
  generalize nw υ 24 1 = φ at *
  have sC : ∀ r, inC z r → Sm τ φ r := fun r hr => (g1 r (by have := hr.2; omega)).trans (w1 r (by have := hr.2; omega))
  have sM : ∀ r, r < z + 203 → Sm υ φ r := w1
  have z0 : ∀ r, z ≤ r → r < z + 195 → ∀ q, hI τ r q = 0 := fun r h1 h2 q => n3 r h1 h2 q
  have CB0 : CB z (z + 2) (z + 13) (false, (fun _ _ => 0), 0, 0, 0, 0) ((fun _ => 0), 0, (fun _ _ => 0), 0, (fun _ _ => 0)) ((fun _ => 0), 0, 0) τ := ⟨c1, c2, c3, c4, ⟨⟨(z0 z (by omega) (by omega) 1).trans nI_0.symm, (z0 z (by omega) (by omega) 2), fun k _ => z0 (z + 1) (by omega) (by omega) k, z0 (z + 24) (by omega) (by omega) 0⟩, ⟨(z0 (z + 44) (by omega) (by omega) 3).trans nI_0.symm, (z0 (z + 44) (by omega) (by omega) 4).trans nI_0.symm, ⟨by show (0 : Nat) ≤ 16; omega, by show (0 : Nat) ≤ 3; omega⟩, 0, by omega, (z0 (z + 44) (by omega) (by omega) 2).trans nI_0.symm, fun h => (nomatch h)⟩, fun h => (nomatch h)⟩, fun h => (nomatch h)⟩
  have C0 : CJ z (z + 2) (z + 13) (false, (fun _ _ => 0), 0, 0, 0, 0) ((fun _ => 0), 0, (fun _ _ => 0), 0, (fun _ _ => 0)) ((fun _ => 0), 0, 0) 0 (-1) τ := ⟨CB0, z0 z (by omega) (by omega) 12, by rw [if_neg (by decide)]⟩
  have m0 := sM (z + 195) (by omega)
  have fl : ∀ {k b t N : Nat}, b < 8 → Fld υ (z + 195) k (z + 195 + b) t N → Fld φ (z + 195) k (z + 195 + b) t N := fun {k b t N} hb F' => F'.sb (by rw [m0.2.2.2.1]) (sM _ (by omega))
  have iM : ∀ q, q ≠ 2 → hI φ (z + 195) q = 0 := fun q hq => by rw [m0.2.2.1]; exact g5 q hq
  have iR : ∀ r, z + 195 < r → r < z + 203 → ∀ q, hI φ r q = 0 := fun r h1 h2 q => by rw [(sM r h2).2.2.1]; exact g7 r h1 (by omega) q
  have R0 : RJ (z + 195) (false, (fun _ _ => 0), 0, 0, 0, 0) ((fun _ => 0), 0, (fun _ _ => 0), 0, (fun _ _ => 0)) ((fun _ => 0), 0, 0) 0 (-1) φ := by
    refine ⟨⟨⟨by omega, by rw [m0.1]; exact g2, fl (by omega) f1, fl (by omega) f2, fl (by omega) f3, fl (by omega) f4, fl (by omega) f5, fl (by omega) f6, fl (by omega) f7⟩, ⟨(iM 6 (by omega)).trans nI_0.symm, iM 12 (by omega), (iM 24 (by omega)).trans nI_0.symm, (iM 25 (by omega)).trans nI_0.symm⟩, fun k _ => iR _ (by omega) (by omega) k, fun j _ => iR _ (by omega) (by omega) j, fun j _ => iR _ (by omega) (by omega) j, fun _ => by rw [m0.2.2.2.1]; exact g6, fun h => (nomatch h)⟩, iM 1 (by omega), by rw [m0.2.2.1]; exact g4⟩
  refine ⟨⟨z + 2, z + 13, _, _, _, 0, -1, ?_, C0.sm sC, R0, hT9, hN9⟩, fun r hr => ((n1 r hr).trans (g1 r (by omega))).trans (w1 r (by omega))⟩
  exact ⟨fun _ => ⟨rfl, rfl⟩, fun h => (nomatch h), by show (0 : Nat) ≤ 16; omega, by show (0 : Nat) ≤ 3; omega, by show (0 : Nat) ≤ 900; omega, fun _ _ => (show jb 0 = 0 by decide)⟩
end Con4
