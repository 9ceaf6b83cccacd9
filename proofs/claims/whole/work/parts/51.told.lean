/-! THE REFERENCE's first row -/
def tgE (j : Nat) : Int32 := if j < 8 then nI j else 0
def tlE (x : Nat → Int32) : Nat → Int32 := ux (fil x 0 tgE 195) 33 255
section Told
variable {σ τ : St} {M k : Nat} {c : Nat → Nat → Int32} {m : Nat} {x x0 : Nat → Int32} {n n' nc : Nat}
theorem told_l (D : Md σ M k c x0) (v : Int32) : ∀ (q i fu : Nat), i + q = 195 → q < fu → f_X10_asTold_2 fu M v (nI i) (sR σ (M + 4) (fil x 0 tgE i)) = some (sR (sI σ M 26 v) (M + 4) (tlE x))
  | 0, i, fu, hi, hf => by
    obtain ⟨f, rfl⟩ : ∃ f, fu = f + 1 := ⟨fu - 1, by omega⟩
    obtain rfl : i = 195 := by omega
    rw [e_X10_asTold_2, if_pos (by decide), xa_k (D.to _), osb, w33 D _, osb, pI_k (D.to _).1, osb, sI_sRc (by omega)]
    rfl
  | q + 1, i, fu, hi, hf => by
    obtain ⟨f, rfl⟩ : ∃ f, fu = f + 1 := ⟨fu - 1, by omega⟩
    have ih := told_l D v q (i + 1) f (by omega) (by omega)
    rw [fil_s, Nat.zero_add, ← nI_1] at ih
    rw [e_X10_asTold_2, if_neg (show ¬ (195 : Int32) ≤ nI i from nI_ge (a := i) (b := 195) (by omega) (by omega)), xa_k (D.to _), osb]
    unfold f_X10_asTold_25
    by_cases h : i < 8
    · rw [if_neg (show ¬ (8 : Int32) ≤ nI i from nI_ge (a := i) (b := 8) h (by omega)), ws D _ i (by omega) rfl, osb]
      rw [show tgE i = nI i from if_pos h] at ih
      exact ih
    · rw [if_pos (show (8 : Int32) ≤ nI i from nI_le (a := 8) (b := i) (by omega) (by omega)), ws D _ i (by omega) rfl, osb]
      rw [show tgE i = 0 from if_neg h] at ih
      exact ih
theorem told_k (D : Md σ M k c x0) (v : Int32) : f_X10_asTold M v (sR σ (M + 4) x) = some (sR (sI σ M 26 v) (M + 4) (tlE x)) := by
  have := told_l (x := x) D v 195 0 FU (by omega) (by unfold FU; omega)
  rw [fil_0, nI_0] at this
  unfold f_X10_asTold f_X10_asTold_0
  rw [if_pos (D.to x).1]
  exact this
/-- the first row keeps all -/
theorem told_ok (C : Cok c m) (h9 : 8 ≤ nc) (h24 : nc ≤ 24) : Rk c m (tlE x) nc := by
  have lo : ∀ j, j < 195 → j ≠ 33 → tlE x j = tgE j := fun j h1 h2 => by
    unfold tlE; rw [ux_n h2]; unfold fil; rw [if_pos (by omega), Nat.sub_zero]
  have z : ∀ j, 8 ≤ j → j < 195 → j ≠ 33 → tlE x j = 0 := fun j h0 h1 h2 => by rw [lo j h1 h2]; exact if_neg (by omega)
  have hn : nN (tlE x) = 0 := by unfold nN; rw [z 34 (by omega) (by omega) (by omega)]; rfl
  obtain ⟨w, w1, w2, ew⟩ := C.2.2.1
  refine ⟨?_, fun _ => hn⟩
  rw [hn]
  refine ⟨C, ⟨by omega, by rw [ew]; exact nI_le (by omega) (by omega), h24, z 34 (by omega) (by omega) (by omega), Or.inl (z 36 (by omega) (by omega) (by omega)), ⟨fun _ => z 8 (by omega) (by omega) (by omega), fun r _ _ => by rw [z 8 (by omega) (by omega) (by omega)]; exact b_0 r⟩, fun r hr => ⟨r, by omega, by rw [lo r (by omega) (by omega)]; exact if_pos hr⟩, fun i hi => absurd hi (by omega)⟩, fun i hi => absurd hi (by omega), fun q hq => ⟨0, by omega, z (9 + q) (by omega) (by omega) (by omega)⟩⟩
end Told
