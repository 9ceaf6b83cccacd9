/-! THE CLASS: a Machine works -/
def Fr (S : Nat → Prop) (σ τ : St) : Prop := hT τ = hT σ ∧ hN τ = hN σ ∧ hP τ = hP σ ∧ hL τ = hL σ ∧ hZ τ = hZ σ ∧ ∀ r, ¬ S r → hI τ r = hI σ r
theorem Fr.refl {S : Nat → Prop} {σ : St} : Fr S σ σ := ⟨rfl, rfl, rfl, rfl, rfl, fun _ _ => rfl⟩
theorem Fr.trans {S : Nat → Prop} {σ τ υ : St} (h : Fr S σ τ) (g : Fr S τ υ) : Fr S σ υ := ⟨g.1.trans h.1, g.2.1.trans h.2.1, g.2.2.1.trans h.2.2.1, g.2.2.2.1.trans h.2.2.2.1, g.2.2.2.2.1.trans h.2.2.2.2.1, fun r hr => (g.2.2.2.2.2 r hr).trans (h.2.2.2.2.2 r hr)⟩
theorem Fr.mono {S S' : Nat → Prop} {σ τ : St} (h : Fr S σ τ) (g : ∀ r, S r → S' r) : Fr S' σ τ := ⟨h.1, h.2.1, h.2.2.1, h.2.2.2.1, h.2.2.2.2.1, fun r hr => h.2.2.2.2.2 r (fun q => hr (g r q))⟩
theorem Fr.s0 {S : Nat → Prop} {σ : St} {a k : Nat} {v : Int32} (h : S a) : Fr S σ (sI σ a k v) := ⟨rfl, rfl, rfl, rfl, rfl, fun r hr => hI_sIr (fun e => hr (e ▸ h))⟩
theorem Fr.st {S : Nat → Prop} {σ τ : St} {a k : Nat} {v : Int32} (g : Fr S σ τ) (h : S a) : Fr S σ (sI τ a k v) := g.trans (Fr.s0 h)
def inM (a r : Nat) : Prop := a ≤ r ∧ r ≤ a + 6
theorem hT_sI {σ : St} {a k : Nat} {v : Int32} : hT (sI σ a k v) = hT σ := rfl
theorem hN_sI {σ : St} {a k : Nat} {v : Int32} : hN (sI σ a k v) = hN σ := rfl
theorem hP_sI {σ : St} {a k : Nat} {v : Int32} : hP (sI σ a k v) = hP σ := rfl
theorem keep_c {σ : St} {a k : Nat} (ht : hT σ a = 4) : ∃ τ, f_X3_keepOldest a (nI k) σ = some τ ∧ Fr (inM a) σ τ ∧ hI τ a 6 = nI k ∧ (∀ q, 11 ≤ q → q ≤ 15 → hI τ a q = hI σ a q &&& (jshl 1 (nI k) - 1)) ∧ (∀ q, q ≠ 6 → (q < 11 ∨ 15 < q) → hI τ a q = hI σ a q) ∧ ∀ r, r ≠ a → hI τ r = hI σ r := by
  unfold f_X3_keepOldest f_X3_keepOldest_0
  simp only [ht, if_true, bndu, pI, gI, hT_sI, osb]
  have hin : inM a a := ⟨Nat.le_refl a, by omega⟩
  refine ⟨_, rfl, Fr.st (Fr.st (Fr.st (Fr.st (Fr.st (Fr.s0 hin) hin) hin) hin) hin) hin, ?_, ?_, ?_, ?_⟩
  · simp [hI_sI]
  · intro q h1 h2
    obtain rfl | rfl | rfl | rfl | rfl : q = 11 ∨ q = 12 ∨ q = 13 ∨ q = 14 ∨ q = 15 := by omega
    all_goals simp [hI_sI]
  · intro q h1 h2
    rw [hI_sIn (Or.inr (by omega)), hI_sIn (Or.inr (by omega)), hI_sIn (Or.inr (by omega)), hI_sIn (Or.inr (by omega)), hI_sIn (Or.inr (by omega)), hI_sIn (Or.inr h1)]
  · intro r hr
    rw [hI_sIr hr, hI_sIr hr, hI_sIr hr, hI_sIr hr, hI_sIr hr, hI_sIr hr]
theorem and_1 (v : Int32) : (v &&& 1 = 0) ↔ bt v 0 = false := and_bo v (w := 0) (by omega)
theorem and_2 (v : Int32) : (v &&& 2 = 0) ↔ bt v 1 = false := and_bo v (w := 1) (by omega)
theorem and_4 (v : Int32) : (v &&& 4 = 0) ↔ bt v 2 = false := and_bo v (w := 2) (by omega)
theorem and_8 (v : Int32) : (v &&& 8 = 0) ↔ bt v 3 = false := and_bo v (w := 3) (by omega)
theorem hasB_bt (x : Nat → Int32) (i : Nat) : hasB x i 1 = bt (x (39 + 13 * i + 4)) 0 ∧ hasB x i 2 = bt (x (39 + 13 * i + 4)) 1 ∧ hasB x i 4 = bt (x (39 + 13 * i + 4)) 2 ∧ hasB x i 8 = bt (x (39 + 13 * i + 4)) 3 := by
  unfold hasB
  generalize x (39 + 13 * i + 4) = v
  refine ⟨?_, ?_, ?_, ?_⟩
  · have := and_1 v; cases h : bt v 0 <;> simp [this, h]
  · have := and_2 v; cases h : bt v 1 <;> simp [this, h]
  · have := and_4 v; cases h : bt v 2 <;> simp [this, h]
  · have := and_8 v; cases h : bt v 3 <;> simp [this, h]
/-- further, what a row keeps to -/
def Xo2 (c : Nat → Nat → Int32) (x : Nat → Int32) (n : Nat) : Prop := ∀ i, i < n → (hasB x i 4 = true → kdE c x i = 4) ∧ (hasB x i 8 = true → kdE c x i = 5 ∧ ∀ r, r < 8 → x (39 + 13 * i + 5 + r) = mapE c x r i)
theorem mk_bt (v : Int32) : bt ((v &&& (-9)) ||| 1) 0 = true ∧ bt ((v &&& (-9)) ||| 1) 1 = bt v 1 ∧ bt ((v &&& (-9)) ||| 1) 2 = bt v 2 ∧ bt ((v &&& (-9)) ||| 1) 3 = false := by
  simp only [b_or, b_and]
  rw [show bt 1 0 = true by decide, show bt 1 1 = false by decide, show bt 1 2 = false by decide, show bt 1 3 = false by decide, show bt (-9) 1 = true by decide, show bt (-9) 2 = true by decide, show bt (-9) 3 = false by decide]
  simp
section Cls4
variable {σ τ : St} {a p : Nat} {c : Nat → Nat → Int32} {m : Nat} {x y : Nat → Int32} {n n' nc : Nat}
theorem Mc.mk (D : Mc σ a p c m x n nc) (F : Fr (inM a) σ τ) (hd : p + 10 < a) (hR : MR c y n' nc τ a) (hX : Xok c m y n' nc) : Mc τ a p c m y n' nc := by
  obtain ⟨d1, d2, d3, d4, d5, d6, d7⟩ := D
  obtain ⟨f1, f2, f3, f4, f5, f6⟩ := F
  refine ⟨?_, ?_, ?_, ?_, d5, hR, hX⟩
  · unfold MSh Fld at d1 ⊢; rw [f1, f2, f3]; exact d1
  · rw [f3]; exact d2
  · unfold PSh Fld at d3 ⊢; rw [f1, f2, f3]; exact d3
  · have e : ∀ q, q ≤ 10 → hI τ (p + q) = hI σ (p + q) := fun q hq => f6 _ (fun h => by have := h.1; omega)
    have e0 : hI τ p = hI σ p := e 0 (by omega)
    unfold PR
    rw [e0, e 1 (by omega), e 2 (by omega), e 3 (by omega), e 4 (by omega), e 5 (by omega), e 6 (by omega), e 7 (by omega), e 8 (by omega), e 9 (by omega), e 10 (by omega)]
    exact d4
theorem nxo_c (D : Mc σ a p c m x n nc) {i : Nat} (hi : i < n) : f_X3_nextOf a (nI i) σ = some (if kdE c x i = 5 then nxE c (sS x i) (vlE x (x (39 + 13 * i + 2))) (vlE x (x (39 + 13 * i + 3))) else nI (sS x i) + 1, σ) := by
  obtain ⟨s1, s2, s3⟩ := D.st hi
  obtain ⟨⟨a1, a2⟩, -, ⟨c1, c2⟩, ⟨d1, d2⟩⟩ := D.e hi
  unfold f_X3_nextOf f_X3_nextOf_0
  simp only [D.t, if_true, D.po, osb, a1, a2, c1, c2, d1, d2, val_c D (D.c2 hi).1, val_c D (D.c2 hi).2, s1, nxb_c D s2]
  rfl
theorem mis_c (D : Mc σ a p c m x n nc) {i : Nat} (hi : i < n) : f_X3_misguessed a (nI i) σ = some (b2i (msE c x i), σ) := by
  obtain ⟨s1, s2, s3⟩ := D.st hi
  obtain ⟨⟨a1, a2⟩, -⟩ := D.e hi
  unfold f_X3_misguessed f_X3_misguessed_0 f_X3_misguessed_26
  simp only [D.t, if_true, nxo_c D hi, D.po, osb, a1, a2, s1, gsb_c D s2]
  unfold msE kdE
  by_cases h5 : c 1 (sS x i) = 5
  · simp only [h5, if_true, decide_true, Bool.true_and]
    by_cases hg : nxE c (sS x i) (vlE x (x (39 + 13 * i + 2))) (vlE x (x (39 + 13 * i + 3))) = gsE c (sS x i) <;> simp [hg, b2i]
  · have : gsE c (sS x i) = nI (sS x i) + 1 := by simp [gsE, h5]
    simp [h5, this, b2i]
theorem out_c (D : Mc σ a p c m x n nc) {s : Nat} (hs : s < m) (h5 : ¬ c 1 s = 5) (u v : Int32) : f_X5_outcome p (nI s) u v σ = some (if c 1 s = 3 then (if v = 0 then -1 else u / v) else ouE c s u v, σ) := by
  obtain ⟨⟨a1, a2⟩, -, -, -, ⟨b1, b2⟩, -⟩ := D.pr hs
  have hk := (D.2.2.2.2.1.2.2.2.2.2.2 _ hs).1
  unfold f_X5_outcome f_X5_outcome_0 f_X5_outcome_74 ouE cmE
  simp only [D.2.2.1.1, if_true, a1, a2, b1, b2, osb]
  obtain ⟨w, hw, ew⟩ := hk
  obtain rfl | rfl | rfl | rfl | rfl | rfl : w = 0 ∨ w = 1 ∨ w = 2 ∨ w = 3 ∨ w = 4 ∨ w = 5 := by omega
  · rw [ew]; rfl
  · rw [ew]; rfl
  · rw [ew]; rfl
  · rw [ew]
    by_cases hv : v = 0
    · simp [hv, nI]
    · simp [hv, nI]
  · rw [ew]; rfl
  · exact absurd ew h5
end Cls4
