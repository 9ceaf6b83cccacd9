/-! THE CLASS: a Machine commits -/
theorem hT_sR {σ : St} {a : Nat} {f : Nat → Int32} : hT (sR σ a f) = hT σ := rfl
theorem hN_sR {σ : St} {a : Nat} {f : Nat → Int32} : hN (sR σ a f) = hN σ := rfl
theorem hP_sR {σ : St} {a : Nat} {f : Nat → Int32} : hP (sR σ a f) = hP σ := rfl
theorem hI_sR {σ : St} {a b j : Nat} {f : Nat → Int32} : hI (sR σ a f) b j = if b = a then f j else hI σ b j := by
  by_cases h : b = a
  · rw [if_pos h, h, hI_sRe]
  · rw [if_neg h, hI_sRn h]
theorem Fr.r0 {S : Nat → Prop} {σ : St} {a : Nat} {f : Nat → Int32} (h : S a) : Fr S σ (sR σ a f) := ⟨rfl, rfl, rfl, rfl, rfl, fun r hr => hI_sRn (fun e => hr (e ▸ h))⟩
theorem cp_k {σ : St} {b k : Nat} (h1 : hT σ b = 22) (h2 : hN σ b = 12) (hk : k + 1 ≤ 12) : cpI b 1 b 0 (nI k) σ = some (sR σ b (va_cpy (hI σ b) (hI σ b) 1 0 k)) := by
  unfold cpI
  rw [if_pos ⟨h1, h1, by decide, by decide, nI_pos' (by omega), by rw [h2, nI_clamp (by omega)]; show 1 + k ≤ 12; omega, by rw [h2, nI_clamp (by omega)]; show 0 + k ≤ 12; omega⟩, nI_clamp (by omega)]
  rfl
theorem drop_c {σ : St} {a k : Nat} (H : MSh σ a) (hn : hI σ a 6 = nI (k + 1)) (hk : k + 1 ≤ 12) : ∃ τ, f_X3_dropOldest a σ = some τ ∧ Fr (inM a) σ τ ∧ hI τ a 6 = nI k ∧ (∀ q, 11 ≤ q → q ≤ 15 → hI τ a q = jshr (hI σ a q) 1) ∧ (∀ q, q ≠ 6 → (q < 11 ∨ 15 < q) → hI τ a q = hI σ a q) ∧ (∀ i, i < k → hI τ (a + 3) i = hI σ (a + 3) (i + 1) ∧ hI τ (a + 4) i = hI σ (a + 4) (i + 1) ∧ hI τ (a + 5) i = hI σ (a + 5) (i + 1) ∧ hI τ (a + 6) i = hI σ (a + 6) (i + 1)) ∧ hI τ (a + 1) = hI σ (a + 1) ∧ hI τ (a + 2) = hI σ (a + 2) := by
  obtain ⟨t0, -, -, ⟨p3, t3, n3⟩, ⟨p4, t4, n4⟩, ⟨p5, t5, n5⟩, ⟨p6, t6, n6⟩⟩ := H
  have hin : inM a a := ⟨Nat.le_refl a, by omega⟩
  have h0 : f_X3_dropOldest a σ = some (sI (sI (sI (sI (sI (sR (sR (sR (sR (sI σ a 6 (nI k)) (a + 3) (va_cpy (hI σ (a + 3)) (hI σ (a + 3)) 1 0 k)) (a + 4) (va_cpy (hI σ (a + 4)) (hI σ (a + 4)) 1 0 k)) (a + 5) (va_cpy (hI σ (a + 5)) (hI σ (a + 5)) 1 0 k)) (a + 6) (va_cpy (hI σ (a + 6)) (hI σ (a + 6)) 1 0 k)) a 11 (jshr (hI σ a 11) 1)) a 12 (jshr (hI σ a 12) 1)) a 13 (jshr (hI σ a 13) 1)) a 14 (jshr (hI σ a 14) 1)) a 15 (jshr (hI σ a 15) 1)) := by
    unfold f_X3_dropOldest f_X3_dropOldest_0
    have e6 : ∀ {f g : Nat → Int32} {b1 b2 : Nat}, True := trivial
    simp only [t0, if_true, gI, pI, gR, hT_sI, hP_sI, hT_sR, hP_sR, osb, hn, nI_pred, p3, p4, p5, p6]
    rw [hI_sIe, cp_k (show hT (sI σ a 6 (nI k)) (a + 3) = 22 from t3) n3 hk, osb]
    simp only [hT_sI, hT_sR, hP_sI, hP_sR, t0, if_true, osb, p4, p5, p6]
    rw [hI_sRn (show a ≠ a + 3 by omega), hI_sIe, cp_k (σ := sR (sI σ a 6 (nI k)) (a + 3) _) (show hT σ (a + 4) = 22 from t4) n4 hk, osb]
    simp only [hT_sI, hT_sR, hP_sI, hP_sR, t0, if_true, osb, p5, p6]
    rw [hI_sRn (show a ≠ a + 4 by omega), hI_sRn (show a ≠ a + 3 by omega), hI_sIe, cp_k (σ := sR (sR (sI σ a 6 (nI k)) (a + 3) _) (a + 4) _) (show hT σ (a + 5) = 22 from t5) n5 hk, osb]
    simp only [hT_sI, hT_sR, hP_sI, hP_sR, t0, if_true, osb, p6]
    rw [hI_sRn (show a ≠ a + 5 by omega), hI_sRn (show a ≠ a + 4 by omega), hI_sRn (show a ≠ a + 3 by omega), hI_sIe, cp_k (σ := sR (sR (sR (sI σ a 6 (nI k)) (a + 3) _) (a + 4) _) (a + 5) _) (show hT σ (a + 6) = 22 from t6) n6 hk, osb]
    simp only [hT_sI, hT_sR, t0, if_true, osb]
    have z3 : hI (sI σ a 6 (nI k)) (a + 3) = hI σ (a + 3) := hI_sIr (by omega)
    have z4 : ∀ f, hI (sR (sI σ a 6 (nI k)) (a + 3) f) (a + 4) = hI σ (a + 4) := fun f => by rw [hI_sRn (by omega), hI_sIr (by omega)]
    have z5 : ∀ f g, hI (sR (sR (sI σ a 6 (nI k)) (a + 3) f) (a + 4) g) (a + 5) = hI σ (a + 5) := fun f g => by rw [hI_sRn (by omega), hI_sRn (by omega), hI_sIr (by omega)]
    have z6 : ∀ f g h, hI (sR (sR (sR (sI σ a 6 (nI k)) (a + 3) f) (a + 4) g) (a + 5) h) (a + 6) = hI σ (a + 6) := fun f g h => by rw [hI_sRn (by omega), hI_sRn (by omega), hI_sRn (by omega), hI_sIr (by omega)]
    rw [z3, z4, z5, z6]
    simp [hI_sI, hI_sR]
  refine ⟨_, h0, ?_, ?_, ?_, ?_, ?_, ?_, ?_⟩
  · exact Fr.st (Fr.st (Fr.st (Fr.st (Fr.st (((((Fr.s0 hin).trans (Fr.r0 ⟨by omega, by omega⟩)).trans (Fr.r0 ⟨by omega, by omega⟩)).trans (Fr.r0 ⟨by omega, by omega⟩)).trans (Fr.r0 ⟨by omega, by omega⟩)) hin) hin) hin) hin) hin
  · simp [hI_sI, hI_sR]
  · intro q h1 h2
    obtain rfl | rfl | rfl | rfl | rfl : q = 11 ∨ q = 12 ∨ q = 13 ∨ q = 14 ∨ q = 15 := by omega
    all_goals simp [hI_sI]
  · intro q h1 h2
    rw [hI_sIn (Or.inr (by omega)), hI_sIn (Or.inr (by omega)), hI_sIn (Or.inr (by omega)), hI_sIn (Or.inr (by omega)), hI_sIn (Or.inr (by omega)), hI_sRn (by omega), hI_sRn (by omega), hI_sRn (by omega), hI_sRn (by omega), hI_sIn (Or.inr h1)]
  · intro i hi
    have e : ∀ f : Nat → Int32, va_cpy f f 1 0 k i = f (i + 1) := fun f => by
      rw [pk_cpy_in (by omega) (by omega), show 1 + (i - 0) = i + 1 by omega]
    simp [hI_sI, hI_sR, e]
  · funext q; simp [hI_sI, hI_sR]
  · funext q; simp [hI_sI, hI_sR]
theorem and_11 (v : Int32) : (v &&& 1 = 1) ↔ bt v 0 = true := by
  have := b_ask1 v (n := 0) (by omega)
  rwa [show jshr v (nI 0) = v by
    refine b_ext (fun i hi => ?_)
    rw [b_sshr 0 (by omega) _ hi, if_pos (by omega), Nat.zero_add]] at this
theorem reg_f (v : Int32) (σ : St) : f_X8_isRegister v σ = some (b2i (!decide (v < 0 ∨ 8 ≤ v)), σ) := by
  unfold f_X8_isRegister f_X8_isRegister_0 f_X8_isRegister_14 f_X8_isRegister_15
  by_cases h : v < 0
  · simp [h, b2i]
  · by_cases h2 : 8 ≤ v <;> simp [h, h2, b2i]
def coN (x : Nat → Int32) (n : Nat) : Nat := if hasB x 0 2 = true then 0 else n - 1
section Cls7
variable {σ τ : St} {a p : Nat} {c : Nat → Nat → Int32} {m : Nat} {x y : Nat → Int32} {n n' nc : Nat}
/-- the oldest dropped -/
theorem MR.drop (R : MR c x (n' + 1) nc σ a) (h12 : n' + 1 ≤ 12) (h6 : hI τ a 6 = nI n') (hb : ∀ q, 11 ≤ q → q ≤ 15 → hI τ a q = jshr (hI σ a q) 1) (hf : ∀ q, q ≠ 6 → (q < 11 ∨ 15 < q) → q ≠ 19 → hI τ a q = hI σ a q) (h19 : hI τ a 19 = hI σ a 19 + 1) (he : ∀ i, i < n' → hI τ (a + 3) i = hI σ (a + 3) (i + 1) ∧ hI τ (a + 4) i = hI σ (a + 4) (i + 1) ∧ hI τ (a + 5) i = hI σ (a + 5) (i + 1) ∧ hI τ (a + 6) i = hI σ (a + 6) (i + 1)) (h1 : hI τ (a + 1) = hI σ (a + 1)) (h2 : hI τ (a + 2) = hI σ (a + 2)) : MR c (ux (ux (shf x 143) 34 (x 34 - 1)) 37 (x 37 + 1)) n' nc τ a := by
  obtain ⟨⟨r1, r2, r3, r4, r5, r6, r7, r8⟩, rv, rk, re, rb⟩ := R
  have lo : ∀ j, j < 39 → j ≠ 34 → j ≠ 37 → ux (ux (shf x 143) 34 (x 34 - 1)) 37 (x 37 + 1) j = x j := fun j h h34 h37 => by
    rw [ux_n h37, ux_n h34]; exact if_neg (by omega)
  have hi' : ∀ j, 39 ≤ j → j < 182 → ux (ux (shf x 143) 34 (x 34 - 1)) 37 (x 37 + 1) j = x (j + 13) := fun j h hj => by
    rw [ux_n (by omega), ux_n (by omega)]; exact if_pos (by omega)
  have en : ∀ i f, i < n' → f < 13 → ux (ux (shf x 143) 34 (x 34 - 1)) 37 (x 37 + 1) (39 + 13 * i + f) = x (39 + 13 * (i + 1) + f) := fun i f h hf => by
    rw [hi' _ (by omega) (by omega)]; congr 1; omega
  refine ⟨⟨?_, ?_, ?_, h6, ?_, ?_, ?_, ?_⟩, fun w hw => ?_, fun r hr2 => ?_, fun j hj => ?_, fun j hj => ?_⟩
  · rw [hf 1 (by omega) (by omega) (by omega), r1]
  · rw [hf 3 (by omega) (by omega) (by omega), r2, lo _ (by omega) (by omega) (by omega)]
  · rw [hf 5 (by omega) (by omega) (by omega), r3, lo _ (by omega) (by omega) (by omega)]
  · rw [hf 16 (by omega) (by omega) (by omega), r5, lo _ (by omega) (by omega) (by omega)]
  · rw [hf 17 (by omega) (by omega) (by omega), r6, lo _ (by omega) (by omega) (by omega)]
  · rw [hf 18 (by omega) (by omega) (by omega), r7, lo _ (by omega) (by omega) (by omega)]
  · rw [h19, r8, ux_e]
  · rw [h1, rv w hw, lo _ (by omega) (by omega) (by omega)]
  · rw [h2, rk r hr2, lo _ (by omega) (by omega) (by omega)]
  · obtain ⟨q1, q2, q3, q4⟩ := he j hj
    obtain ⟨g1, g2, g3, g4⟩ := re (j + 1) (by omega)
    have := en j 0 hj (by omega)
    rw [Nat.add_zero, Nat.add_zero] at this
    rw [q1, q2, q3, q4, g1, g2, g3, g4, this, en j 1 hj (by omega), en j 2 hj (by omega), en j 3 hj (by omega)]
    exact ⟨rfl, rfl, rfl, rfl⟩
  · have hsh : ∀ q, 11 ≤ q → q ≤ 15 → bt (hI τ a q) j = if 1 + j < 32 then bt (hI σ a q) (1 + j) else bt (hI σ a q) 31 := fun q g1 g2 => by
      rw [hb q g1 g2]; exact b_sshr 1 (by omega) _ hj
    rw [hsh 11 (by omega) (by omega), hsh 12 (by omega) (by omega), hsh 13 (by omega) (by omega), hsh 14 (by omega) (by omega), hsh 15 (by omega) (by omega)]
    by_cases hjn : j < n'
    · have hlt : 1 + j < 32 := by omega
      obtain ⟨b1, b2, b3, b4, b5⟩ := rb (1 + j) hlt
      have hk : kdE c (ux (ux (shf x 143) 34 (x 34 - 1)) 37 (x 37 + 1)) j = kdE c x (1 + j) := by
        unfold kdE sS
        have := en j 0 hjn (by omega)
        rw [Nat.add_zero, Nat.add_zero] at this
        rw [this, Nat.add_comm 1 j]
      have hh : ∀ q, hasB (ux (ux (shf x 143) 34 (x 34 - 1)) 37 (x 37 + 1)) j q = hasB x (1 + j) q := fun q => by
        unfold hasB
        rw [en j 4 hjn (by omega), Nat.add_comm 1 j]
      have hlt2 : 1 + j < n' + 1 := by omega
      simp only [hlt, if_true, b1, b2, b3, b4, b5, hh, risE, hk, hjn, hlt2, decide_true, Bool.true_and, and_self]
    · have hz : ∀ q, q < 32 → n' + 1 ≤ q → bt (hI σ a 11) q = false ∧ bt (hI σ a 12) q = false ∧ bt (hI σ a 13) q = false ∧ bt (hI σ a 14) q = false ∧ bt (hI σ a 15) q = false := fun q g1 g2 => by
        have := rb q g1
        have hq : ¬ q < n' + 1 := by omega
        simpa [hq] using this
      by_cases hlt : 1 + j < 32
      · obtain ⟨z1, z2, z3, z4, z5⟩ := hz (1 + j) hlt (by omega)
        simp [hlt, z1, z2, z3, z4, z5, hjn]
      · obtain ⟨z1, z2, z3, z4, z5⟩ := hz 31 (by omega) (by omega)
        simp [hlt, z1, z2, z3, z4, z5, hjn]
end Cls7
