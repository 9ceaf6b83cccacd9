/-! THE REFERENCE's core functions, as functions of the program c and the row x -/
def isN (v : Int32) (n : Nat) : Prop := ∃ w, w < n ∧ v = nI w
def isC (v : Int32) (n : Nat) : Prop := v = -2 ∨ isN v n
def b2i (b : Bool) : Int32 := if b = true then 1 else 0
theorem b2i01 (b : Bool) : b2i b = 0 ∨ b2i b = 1 := by cases b <;> simp [b2i]
theorem b2i0 {b : Bool} : (b2i b = 0) ↔ b = false := by cases b <;> simp [b2i]
theorem b2i1 {b : Bool} : (b2i b = 1) ↔ b = true := by cases b <;> simp [b2i]
theorem b2i_or (a b : Bool) : b2i a ||| b2i b = b2i (a || b) := by cases a <;> cases b <;> decide
def CSh (σ : St) (k : Nat) : Prop := hT σ k = 10 ∧ Fld σ k 8 (k + 1) 22 24 ∧ Fld σ k 9 (k + 2) 22 24 ∧ Fld σ k 10 (k + 3) 22 24 ∧ Fld σ k 11 (k + 4) 22 24 ∧ Fld σ k 12 (k + 5) 22 24 ∧ Fld σ k 13 (k + 6) 23 24 ∧ Fld σ k 14 (k + 7) 22 4 ∧ Fld σ k 15 (k + 8) 22 4 ∧ Fld σ k 16 (k + 9) 22 6 ∧ Fld σ k 17 (k + 10) 22 6
def CR (c : Nat → Nat → Int32) (σ : St) (k : Nat) : Prop := hI σ k 0 = c 0 0 ∧ hI σ k 1 = c 0 1 ∧ hI σ k 2 = c 0 2 ∧ hI σ k 3 = c 0 3 ∧ hI σ k 4 = c 0 5 ∧ hI σ k 5 = c 0 6 ∧ hI σ k 6 = c 0 7 ∧ hI σ k 7 = c 0 4 ∧ (∀ s, s < 24 → hI σ (k + 1) s = c 1 s ∧ hI σ (k + 2) s = c 2 s ∧ hI σ (k + 3) s = c 3 s ∧ hI σ (k + 4) s = c 4 s ∧ hI σ (k + 5) s = c 5 s ∧ hI σ (k + 6) s = c 6 s) ∧ (∀ u, u < 4 → hI σ (k + 7) u = c 7 u ∧ hI σ (k + 8) u = c 8 u) ∧ (∀ g, g < 6 → hI σ (k + 9) g = c 9 g ∧ hI σ (k + 10) g = c 10 g)
def Md (σ : St) (M k : Nat) (c : Nat → Nat → Int32) (x : Nat → Int32) : Prop := hT σ M = 11 ∧ Fld σ M 21 (M + 4) 22 195 ∧ hP σ M 3 = some k ∧ CSh σ k ∧ CR c σ k ∧ (∀ j, j < 195 → hI σ (M + 4) j = x j) ∧ M + 8 ≤ k
-- an entry's parts
def sS (x : Nat → Int32) (i : Nat) : Nat := (x (39 + 13 * i)).toNatClampNeg
def hasB (x : Nat → Int32) (i : Nat) (m : Int32) : Bool := !decide (x (39 + 13 * i + 4) &&& m = 0)
def toE (c : Nat → Nat → Int32) (x : Nat → Int32) (i : Nat) : Int32 := c 2 (sS x i)
def kdE (c : Nat → Nat → Int32) (x : Nat → Int32) (i : Nat) : Int32 := c 1 (sS x i)
def mapE (c : Nat → Nat → Int32) (x : Nat → Int32) (r : Nat) : Nat → Int32
  | 0 => x r
  | i + 1 => if toE c x i = nI r then x (39 + 13 * i + 1) else mapE c x r i
def badE (c : Nat → Nat → Int32) (x : Nat → Int32) (i : Nat) : Bool := hasB x i 2 || ((decide (kdE c x i = 5) || decide (kdE c x i = 3)) && !hasB x i 1)
def sureE (c : Nat → Nat → Int32) (x : Nat → Int32) : Nat → Bool := allN (fun i => !badE c x i)
def rdE (x : Nat → Int32) (i : Nat) (v : Int32) : Bool := decide (x (39 + 13 * i + 2) = v) || decide (x (39 + 13 * i + 3) = v)
def busyE (x : Nat → Int32) (r i : Nat) : Bool := decide (x (39 + 13 * i + 1) = x r) || (!hasB x i 1 && rdE x i (x r))
def replE (c : Nat → Nat → Int32) (x : Nat → Int32) (r i : Nat) : Bool := decide (toE c x i = nI r) && sureE c x (i + 1)
def goneE (c : Nat → Nat → Int32) (x : Nat → Int32) (n r : Nat) : Bool := bt (x 8) r || (!decide (c 0 4 = 0) && (allN (fun i => !busyE x r i) n && anyN (replE c x r) n))
/-- steps of the first n entries are steps -/
def Xs (x : Nat → Int32) (n : Nat) : Prop := n ≤ 12 ∧ ∀ i, i < n → isN (x (39 + 13 * i)) 24
theorem Xs.at {x : Nat → Int32} {n i : Nat} (h : Xs x n) (hi : i < n) : x (39 + 13 * i) = nI (sS x i) ∧ sS x i < 24 := by
  obtain ⟨w, h1, h2⟩ := h.2 i hi
  have : sS x i = w := by unfold sS; rw [h2, nI_clamp (by omega)]
  exact ⟨by rw [this]; exact h2, by omega⟩
theorem lit39 : (39 : Int32) = nI 39 := rfl
theorem lit13 : (13 : Int32) = nI 13 := rfl
theorem atN (i : Nat) : (39 : Int32) + (13 * nI i) = nI (39 + 13 * i) := by rw [lit39, lit13, pk_mul, nI_add]
theorem nI_p (a : Nat) (m : Nat) : nI a + nI m = nI (a + m) := nI_add a m
section Mod
variable {σ : St} {M k : Nat} {c : Nat → Nat → Int32} {x : Nat → Int32} {n : Nat}
theorem at_k (D : Md σ M k c x) (i : Nat) : f_X10_at M (nI i) σ = some (nI (39 + 13 * i), σ) := by
  unfold f_X10_at f_X10_at_0
  rw [if_pos D.1, atN]
theorem row_k (D : Md σ M k c x) {j : Nat} (hj : j < 195) : aI 22 (M + 4) (nI j) σ = some (x j) := by
  rw [D.2.1.g hj (by omega), D.2.2.2.2.2.1 j hj]
theorem xa_k (D : Md σ M k c x) : gR 11 21 M σ = some (M + 4) := D.2.1.r D.1
theorem has_k (D : Md σ M k c x) {i : Nat} (hi : i < 12) (m : Int32) : f_X10_has M (nI i) m σ = some (b2i (hasB x i m), σ) := by
  unfold f_X10_has f_X10_has_0
  rw [if_pos D.1, xa_k D, osb, at_k D i, osb]
  have e : (nI (39 + 13 * i) + 4 : Int32) = nI (39 + 13 * i + 4) := nI_p _ 4
  show (aI 22 (M + 4) (nI (39 + 13 * i) + 4) σ).bind _ = _
  rw [e, row_k D (by omega), osb]
  unfold f_X10_has_22 hasB b2i
  by_cases h : x (39 + 13 * i + 4) &&& m = 0 <;> simp [h]
theorem reg_k (D : Md σ M k c x) (X : Xs x n) {i : Nat} (hi : i < n) : f_X10_registerOf M (nI i) σ = some (toE c x i, σ) := by
  obtain ⟨h1, h2⟩ := X.at hi
  have hn := X.1
  unfold f_X10_registerOf f_X10_registerOf_0
  rw [if_pos D.1, gR_k D.1 D.2.2.1, osb, D.2.2.2.1.2.2.1.r D.2.2.2.1.1, osb, xa_k D, osb, at_k D i, osb]
  show (aI 22 (M + 4) (nI (39 + 13 * i)) σ).bind _ = _
  rw [row_k D (by omega), osb, h1]
  show (aI 22 (k + 2) (nI (sS x i)) σ).bind _ = _
  rw [D.2.2.2.1.2.2.1.g h2 (by omega), osb, (D.2.2.2.2.1.2.2.2.2.2.2.2.2.1 _ h2).2.1]
  rfl
theorem knd_k (D : Md σ M k c x) (X : Xs x n) {i : Nat} (hi : i < n) : f_X10_kindOf M (nI i) σ = some (kdE c x i, σ) := by
  obtain ⟨h1, h2⟩ := X.at hi
  have hn := X.1
  unfold f_X10_kindOf f_X10_kindOf_0
  rw [if_pos D.1, gR_k D.1 D.2.2.1, osb, D.2.2.2.1.2.1.r D.2.2.2.1.1, osb, xa_k D, osb, at_k D i, osb]
  show (aI 22 (M + 4) (nI (39 + 13 * i)) σ).bind _ = _
  rw [row_k D (by omega), osb, h1]
  show (aI 22 (k + 1) (nI (sS x i)) σ).bind _ = _
  rw [D.2.2.2.1.2.1.g h2 (by omega), osb, (D.2.2.2.2.1.2.2.2.2.2.2.2.2.1 _ h2).1]
  rfl
theorem mapOf_k (D : Md σ M k c x) (X : Xs x n) {r : Nat} (hr : r < 8) : ∀ (i fu : Nat), i ≤ n → i < fu → f_X10_mapOf_2 fu M (nI r) (nI i + (-1)) σ = some (mapE c x r i, σ)
  | 0, fu, _, hf => by
    obtain ⟨f, rfl⟩ : ∃ f, fu = f + 1 := ⟨fu - 1, by omega⟩
    rw [e_X10_mapOf_2, nI_neg1, if_pos (by decide), xa_k D, osb, row_k D (by omega)]
    rfl
  | i + 1, fu, hi, hf => by
    obtain ⟨f, rfl⟩ : ∃ f, fu = f + 1 := ⟨fu - 1, by omega⟩
    have hn := X.1
    rw [e_X10_mapOf_2, nI_m1, if_neg (nI_pos (by omega)), reg_k D X (by omega), osb]
    show (if toE c x i = nI r then _ else _) = _
    by_cases h : toE c x i = nI r
    · rw [if_pos h]
      show (gR 11 21 M σ).bind _ = _
      rw [xa_k D, osb, at_k D i, osb]
      show (aI 22 (M + 4) (nI (39 + 13 * i) + 1) σ).bind _ = _
      rw [show (nI (39 + 13 * i) + 1 : Int32) = nI (39 + 13 * i + 1) from nI_p _ 1, row_k D (by omega)]
      simp [mapE, h]
    · rw [if_neg h]
      show f_X10_mapOf_2 f M (nI r) (nI i + (-1)) σ = _
      rw [mapOf_k D X hr i f (by omega) (by omega)]
      simp [mapE, h]
theorem sure_k (D : Md σ M k c x) (X : Xs x n) {i : Nat} (hi : i < n) : ∀ (m j fu : Nat), j + m = i + 1 → m < fu → sureE c x j = true → f_X10_isSure_2 fu M (nI i) (nI j) σ = some (b2i (sureE c x (i + 1)), σ)
  | 0, j, fu, hj, hf, hs => by
    obtain ⟨f, rfl⟩ : ∃ f, fu = f + 1 := ⟨fu - 1, by omega⟩
    have hn := X.1
    rw [e_X10_isSure_2, if_pos (nI_lt (by omega) (by omega)), ← hj]
    simp [hs, b2i]
  | m + 1, j, fu, hj, hf, hs => by
    obtain ⟨f, rfl⟩ : ∃ f, fu = f + 1 := ⟨fu - 1, by omega⟩
    have hn := X.1
    have hstep : sureE c x (j + 1) = true → f_X10_isSure_2 f M (nI i) (nI j + 1) σ = some (b2i (sureE c x (i + 1)), σ) := fun h => by
      rw [nI_1]
      exact sure_k D X hi m (j + 1) f (by omega) (by omega) h
    have hend : badE c x j = true → sureE c x (i + 1) = false := fun h => by
      cases hq : sureE c x (i + 1) with
      | false => rfl
      | true =>
        have := allN_iff.mp hq j (by omega)
        simp [h] at this
    have hgo : badE c x j = false → sureE c x (j + 1) = true := fun h => by
      show (sureE c x j && !badE c x j) = true
      rw [hs, h]; rfl
    rw [e_X10_isSure_2, if_neg (nI_nlt (by omega) (by omega)), has_k D (by omega), osb]
    show (if b2i (hasB x j 2) = 0 then _ else _) = _
    cases ht : hasB x j 2 with
    | true =>
      rw [if_neg (by simp [b2i])]
      rw [hend (by simp [badE, ht])]
      rfl
    | false =>
      rw [if_pos (by simp [b2i])]
      show (f_X10_kindOf M (nI j) σ).bind _ = _
      rw [knd_k D X (by omega), osb]
      have h34 : (kdE c x j = 5 ∨ kdE c x j = 3) → f_X10_isSure_34 (f_X10_isSure_2 f) M (nI i) (nI j) σ = some (b2i (sureE c x (i + 1)), σ) := fun hk => by
        unfold f_X10_isSure_34
        rw [has_k D (by omega), osb]
        show (if b2i (hasB x j 1) = 0 then _ else _) = _
        cases hd : hasB x j 1 with
        | false =>
          rw [if_pos (by simp [b2i]), hend (by rcases hk with hk | hk <;> simp [badE, ht, hd, hk])]
          rfl
        | true =>
          rw [if_neg (by simp [b2i])]
          exact hstep (hgo (by simp [badE, ht, hd]))
      show (if kdE c x j = 5 then _ else _) = _
      by_cases h5 : kdE c x j = 5
      · rw [if_pos h5]
        exact h34 (Or.inl h5)
      · rw [if_neg h5]
        show (f_X10_kindOf M (nI j) σ).bind _ = _
        rw [knd_k D X (by omega), osb]
        show (if kdE c x j = 3 then _ else _) = _
        by_cases h3 : kdE c x j = 3
        · rw [if_pos h3]
          exact h34 (Or.inr h3)
        · rw [if_neg h3]
          exact hstep (hgo (by simp [badE, ht, h5, h3]))
theorem isSure_k (D : Md σ M k c x) (X : Xs x n) {i : Nat} (hi : i < n) : f_X10_isSure M (nI i) σ = some (b2i (sureE c x (i + 1)), σ) := by
  have hn := X.1
  unfold f_X10_isSure f_X10_isSure_0
  rw [if_pos D.1]
  exact sure_k D X hi (i + 1) 0 FU (by omega) (by unfold FU; omega) rfl
theorem reads_k (D : Md σ M k c x) {i : Nat} (hi : i < 12) (v : Int32) : f_X10_reads M (nI i) v σ = some (b2i (rdE x i v), σ) := by
  unfold f_X10_reads f_X10_reads_0
  rw [if_pos D.1, xa_k D, osb, at_k D i, osb]
  show (aI 22 (M + 4) (nI (39 + 13 * i) + 2) σ).bind _ = _
  rw [show (nI (39 + 13 * i) + 2 : Int32) = nI (39 + 13 * i + 2) from nI_p _ 2, row_k D (by omega), osb]
  by_cases h2 : x (39 + 13 * i + 2) = v
  · rw [if_pos h2]
    simp [f_X10_reads_32, f_X10_reads_37, rdE, h2, b2i]
  · rw [if_neg h2]
    show (gR 11 21 M σ).bind _ = _
    rw [xa_k D, osb, at_k D i, osb]
    show (aI 22 (M + 4) (nI (39 + 13 * i) + 3) σ).bind _ = _
    rw [show (nI (39 + 13 * i) + 3 : Int32) = nI (39 + 13 * i + 3) from nI_p _ 3, row_k D (by omega), osb]
    by_cases h3 : x (39 + 13 * i + 3) = v
    · rw [if_pos h3]
      simp [f_X10_reads_32, f_X10_reads_37, rdE, h3, b2i]
    · rw [if_neg h3]
      simp [f_X10_reads_37, rdE, h2, h3, b2i]
end Mod
