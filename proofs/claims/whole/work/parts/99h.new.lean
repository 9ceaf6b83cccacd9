/-! A NEW CORE -/
/-- a new array, and the field it goes into -/
def nwF (σ : St) (a f t n : Nat) : St := sP (nw σ t n) a f (some (hZ σ))
section New
variable {σ τ υ : St} {a f t n k j f' r t' n' ty : Nat}
theorem nwF_e {α : Type} {g : St → Option α} (h : hT σ a = ty) (ha : a < hZ σ) : (bnd (nw σ t n) fun σ1 => (pP ty f a (hZ σ) σ1).bind g) = g (nwF σ a f t n) := by
  have h' : hT (nw σ t n) a = ty := (if_neg (show ¬ a = hZ σ by omega)).trans h
  rw [bndu, pP_k h', osb]
  rfl
theorem nwF_z : hZ (nwF σ a f t n) = hZ σ + 1 := rfl
theorem nwF_t (h : r ≠ hZ σ) : hT (nwF σ a f t n) r = hT σ r := if_neg h
theorem nwF_n (h : r ≠ hZ σ) : hN (nwF σ a f t n) r = hN σ r := if_neg h
theorem nwF_i (h : r ≠ hZ σ) : hI (nwF σ a f t n) r = hI σ r := by funext q; exact if_neg h
theorem nwF_l (h : r ≠ hZ σ) : hL (nwF σ a f t n) r = hL σ r := by funext q; exact if_neg h
theorem nwF_p (h : r ≠ hZ σ) (hr : r ≠ a ∨ j ≠ f) : hP (nwF σ a f t n) r j = hP σ r j := by
  unfold nwF
  rw [hP_sPn hr]
  exact if_neg h
theorem nwF_sm (h : r ≠ hZ σ) (hr : r ≠ a) : Sm σ (nwF σ a f t n) r := ⟨nwF_t h, nwF_n h, nwF_i h, by funext q; exact nwF_p h (Or.inl hr), nwF_l h⟩
theorem nwF_f (ha : a < hZ σ) : Fld (nwF σ a f t n) a f (hZ σ) t n := ⟨hP_sPe, if_pos rfl, if_pos rfl⟩
theorem nwF_o (F : Fld σ a f' r t' n') (ha : a < hZ σ) (hr : r < hZ σ) (hf : f' ≠ f) : Fld (nwF σ a f t n) a f' r t' n' := ⟨by rw [nwF_p (by omega) (Or.inr hf)]; exact F.1, by rw [nwF_t (by omega)]; exact F.2.1, by rw [nwF_n (by omega)]; exact F.2.2⟩
/-- the object at k is being built: so many cells of it stand -/
def Bt (σ0 σ : St) (k ty j : Nat) : Prop := (∀ r, r < k → Sm σ0 σ r) ∧ hT σ k = ty ∧ hZ σ = k + j ∧ 0 < j ∧ ∀ r, k ≤ r → r < k + j → ∀ q, hI σ r q = 0
theorem Bt.go {σ0 : St} (B : Bt σ0 σ k ty j) : Bt σ0 (nwF σ k f t n) k ty (j + 1) := by
  obtain ⟨b1, b2, b3, b4, b5⟩ := B
  refine ⟨fun r hr => (b1 r hr).trans (nwF_sm (by omega) (by omega)), by rw [nwF_t (by omega)]; exact b2, by rw [nwF_z]; omega, by omega, fun r h1 h2 q => ?_⟩
  by_cases e : r = hZ σ
  · exact if_pos e
  · rw [nwF_i e]; exact b5 r h1 (by omega) q
theorem Bt.st {σ0 : St} (B : Bt σ0 σ k ty j) {α : Type} {g : St → Option α} : (bnd (nw σ t n) fun σ1 => (pP ty f k (hZ σ) σ1).bind g) = g (nwF σ k f t n) := nwF_e B.2.1 (by have := B.2.2.1; have := B.2.2.2.1; omega)
theorem Bt.fld {σ0 : St} (B : Bt σ0 σ k ty j) : Fld (nwF σ k f t n) k f (k + j) t n := by
  have h := B.2.2.1
  have h2 := B.2.2.2.1
  rw [← h]
  exact nwF_f (by omega)
theorem Bt.no {σ0 : St} (B : Bt σ0 σ k ty j) (F : Fld σ k f' (k + r) t' n') (hr : r < j) (hf : f' ≠ f) : Fld (nwF σ k f t n) k f' (k + r) t' n' := by
  have h := B.2.2.1
  exact nwF_o F (by omega) (by omega) hf
theorem Bt.new (σ : St) (t n : Nat) : Bt σ (nw σ t n) (hZ σ) t 1 := ⟨fun r hr => ⟨if_neg (by omega), if_neg (by omega), by funext q; exact if_neg (by omega), by funext q; exact if_neg (by omega), by funext q; exact if_neg (by omega)⟩, if_pos rfl, rfl, by omega, fun r h1 h2 q => if_pos (by omega)⟩
theorem cinit_k (σ : St) : ∃ τ, f_X9_init (hZ σ) (nw σ 10 0) = some τ ∧ CSh τ (hZ σ) ∧ CR (fun _ _ => 0) τ (hZ σ) ∧ hZ τ = hZ σ + 11 ∧ ∀ r, r < hZ σ → Sm σ τ r := by
  have B0 := Bt.new σ 10 0
  generalize hZ σ = k at B0 ⊢
  unfold f_X9_init f_X9_init_0
  rw [if_pos B0.2.1]
  generalize nw σ 10 0 = σ0 at B0 ⊢
  have B1 := B0.go (f := 8) (t := 22) (n := 24)
  have a1 := B0.fld (f := 8) (t := 22) (n := 24)
  rw [B0.st]
  generalize nwF σ0 k 8 22 24 = σ1 at B1 a1 ⊢
  have B2 := B1.go (f := 9) (t := 22) (n := 24)
  have a2 := B1.fld (f := 9) (t := 22) (n := 24)
  replace a1 := B1.no (f := 9) (t := 22) (n := 24) a1 (by omega) (by omega)
  rw [B1.st]
  generalize nwF σ1 k 9 22 24 = σ2 at B2 a1 a2 ⊢
  have B3 := B2.go (f := 10) (t := 22) (n := 24)
  have a3 := B2.fld (f := 10) (t := 22) (n := 24)
  replace a1 := B2.no (f := 10) (t := 22) (n := 24) a1 (by omega) (by omega)
  replace a2 := B2.no (f := 10) (t := 22) (n := 24) a2 (by omega) (by omega)
  rw [B2.st]
  generalize nwF σ2 k 10 22 24 = σ3 at B3 a1 a2 a3 ⊢
  have B4 := B3.go (f := 11) (t := 22) (n := 24)
  have a4 := B3.fld (f := 11) (t := 22) (n := 24)
  replace a1 := B3.no (f := 11) (t := 22) (n := 24) a1 (by omega) (by omega)
  replace a2 := B3.no (f := 11) (t := 22) (n := 24) a2 (by omega) (by omega)
  replace a3 := B3.no (f := 11) (t := 22) (n := 24) a3 (by omega) (by omega)
  rw [B3.st]
  generalize nwF σ3 k 11 22 24 = σ4 at B4 a1 a2 a3 a4 ⊢
  have B5 := B4.go (f := 12) (t := 22) (n := 24)
  have a5 := B4.fld (f := 12) (t := 22) (n := 24)
  replace a1 := B4.no (f := 12) (t := 22) (n := 24) a1 (by omega) (by omega)
  replace a2 := B4.no (f := 12) (t := 22) (n := 24) a2 (by omega) (by omega)
  replace a3 := B4.no (f := 12) (t := 22) (n := 24) a3 (by omega) (by omega)
  replace a4 := B4.no (f := 12) (t := 22) (n := 24) a4 (by omega) (by omega)
  rw [B4.st]
  generalize nwF σ4 k 12 22 24 = σ5 at B5 a1 a2 a3 a4 a5 ⊢
  have B6 := B5.go (f := 13) (t := 23) (n := 24)
  have a6 := B5.fld (f := 13) (t := 23) (n := 24)
  replace a1 := B5.no (f := 13) (t := 23) (n := 24) a1 (by omega) (by omega)
  replace a2 := B5.no (f := 13) (t := 23) (n := 24) a2 (by omega) (by omega)
  replace a3 := B5.no (f := 13) (t := 23) (n := 24) a3 (by omega) (by omega)
  replace a4 := B5.no (f := 13) (t := 23) (n := 24) a4 (by omega) (by omega)
  replace a5 := B5.no (f := 13) (t := 23) (n := 24) a5 (by omega) (by omega)
  rw [B5.st]
  generalize nwF σ5 k 13 23 24 = σ6 at B6 a1 a2 a3 a4 a5 a6 ⊢
  have B7 := B6.go (f := 14) (t := 22) (n := 4)
  have a7 := B6.fld (f := 14) (t := 22) (n := 4)
  replace a1 := B6.no (f := 14) (t := 22) (n := 4) a1 (by omega) (by omega)
  replace a2 := B6.no (f := 14) (t := 22) (n := 4) a2 (by omega) (by omega)
  replace a3 := B6.no (f := 14) (t := 22) (n := 4) a3 (by omega) (by omega)
  replace a4 := B6.no (f := 14) (t := 22) (n := 4) a4 (by omega) (by omega)
  replace a5 := B6.no (f := 14) (t := 22) (n := 4) a5 (by omega) (by omega)
  replace a6 := B6.no (f := 14) (t := 22) (n := 4) a6 (by omega) (by omega)
  rw [B6.st]
  generalize nwF σ6 k 14 22 4 = σ7 at B7 a1 a2 a3 a4 a5 a6 a7 ⊢
  have B8 := B7.go (f := 15) (t := 22) (n := 4)
  have a8 := B7.fld (f := 15) (t := 22) (n := 4)
  replace a1 := B7.no (f := 15) (t := 22) (n := 4) a1 (by omega) (by omega)
  replace a2 := B7.no (f := 15) (t := 22) (n := 4) a2 (by omega) (by omega)
  replace a3 := B7.no (f := 15) (t := 22) (n := 4) a3 (by omega) (by omega)
  replace a4 := B7.no (f := 15) (t := 22) (n := 4) a4 (by omega) (by omega)
  replace a5 := B7.no (f := 15) (t := 22) (n := 4) a5 (by omega) (by omega)
  replace a6 := B7.no (f := 15) (t := 22) (n := 4) a6 (by omega) (by omega)
  replace a7 := B7.no (f := 15) (t := 22) (n := 4) a7 (by omega) (by omega)
  rw [B7.st]
  generalize nwF σ7 k 15 22 4 = σ8 at B8 a1 a2 a3 a4 a5 a6 a7 a8 ⊢
  have B9 := B8.go (f := 16) (t := 22) (n := 6)
  have a9 := B8.fld (f := 16) (t := 22) (n := 6)
  replace a1 := B8.no (f := 16) (t := 22) (n := 6) a1 (by omega) (by omega)
  replace a2 := B8.no (f := 16) (t := 22) (n := 6) a2 (by omega) (by omega)
  replace a3 := B8.no (f := 16) (t := 22) (n := 6) a3 (by omega) (by omega)
  replace a4 := B8.no (f := 16) (t := 22) (n := 6) a4 (by omega) (by omega)
  replace a5 := B8.no (f := 16) (t := 22) (n := 6) a5 (by omega) (by omega)
  replace a6 := B8.no (f := 16) (t := 22) (n := 6) a6 (by omega) (by omega)
  replace a7 := B8.no (f := 16) (t := 22) (n := 6) a7 (by omega) (by omega)
  replace a8 := B8.no (f := 16) (t := 22) (n := 6) a8 (by omega) (by omega)
  rw [B8.st]
  generalize nwF σ8 k 16 22 6 = σ9 at B9 a1 a2 a3 a4 a5 a6 a7 a8 a9 ⊢
  have B10 := B9.go (f := 17) (t := 22) (n := 6)
  have a10 := B9.fld (f := 17) (t := 22) (n := 6)
  replace a1 := B9.no (f := 17) (t := 22) (n := 6) a1 (by omega) (by omega)
  replace a2 := B9.no (f := 17) (t := 22) (n := 6) a2 (by omega) (by omega)
  replace a3 := B9.no (f := 17) (t := 22) (n := 6) a3 (by omega) (by omega)
  replace a4 := B9.no (f := 17) (t := 22) (n := 6) a4 (by omega) (by omega)
  replace a5 := B9.no (f := 17) (t := 22) (n := 6) a5 (by omega) (by omega)
  replace a6 := B9.no (f := 17) (t := 22) (n := 6) a6 (by omega) (by omega)
  replace a7 := B9.no (f := 17) (t := 22) (n := 6) a7 (by omega) (by omega)
  replace a8 := B9.no (f := 17) (t := 22) (n := 6) a8 (by omega) (by omega)
  replace a9 := B9.no (f := 17) (t := 22) (n := 6) a9 (by omega) (by omega)
  rw [B9.st]
  generalize nwF σ9 k 17 22 6 = σ10 at B10 a1 a2 a3 a4 a5 a6 a7 a8 a9 a10 ⊢
  obtain ⟨b1, b2, b3, b4, b5⟩ := B10
  have z : ∀ i, i ≤ 10 → ∀ q, hI σ10 (k + i) q = 0 := fun i hi q => b5 (k + i) (by omega) (by omega) q
  have z0 : ∀ q, hI σ10 k q = 0 := fun q => b5 k (by omega) (by omega) q
  refine ⟨σ10, rfl, ⟨b2, a1, a2, a3, a4, a5, a6, a7, a8, a9, a10⟩, ⟨z0 0, z0 1, z0 2, z0 3, z0 4, z0 5, z0 6, z0 7, fun s _ => ⟨z 1 (by omega) s, z 2 (by omega) s, z 3 (by omega) s, z 4 (by omega) s, z 5 (by omega) s, z 6 (by omega) s⟩, fun s _ => ⟨z 7 (by omega) s, z 8 (by omega) s⟩, fun s _ => ⟨z 9 (by omega) s, z 10 (by omega) s⟩⟩, b3, b1⟩
end New
