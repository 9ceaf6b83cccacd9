/-! THE CLASS: a Machine is copied -/
def cpN (j : Nat) : Nat := if j = 1 then 24 else if j = 2 then 8 else 12
def CpQ (σ σ1 : St) (a b : Nat) (L T : List Nat) (υ : St) : Prop := Fr (inM b) σ1 υ ∧ (∀ k, k ∈ L → hI υ b k = hI σ a k) ∧ (∀ j, j ∈ T → ∀ i, i < cpN j → hI υ (b + j) i = hI σ (a + j) i)
section Copy
variable {σ σ1 υ : St} {a b p : Nat} {c : Nat → Nat → Int32} {m : Nat} {x : Nat → Int32} {n nc : Nat} {L T : List Nat}
theorem cp_sI (Q : CpQ σ σ1 a b L T υ) (k : Nat) {v : Int32} (hv : v = hI σ a k) : CpQ σ σ1 a b (k :: L) T (sI υ b k v) := by
  refine ⟨Fr.st Q.1 ⟨by omega, by omega⟩, fun q hq => ?_, fun j hj i hi => ?_⟩
  · by_cases e : q = k
    · subst e; rw [hI_sIe, hv]
    · rw [hI_sIn (Or.inr e)]
      rcases List.mem_cons.mp hq with h | h
      · exact absurd h e
      · exact Q.2.1 q h
  · by_cases e : b + j = b
    · by_cases e2 : i = k
      · subst e2
        have : j = 0 := by omega
        subst this
        rw [Nat.add_zero, hI_sIe, hv, Nat.add_zero]
      · rw [hI_sIn (Or.inr e2)]; exact Q.2.2 j hj i hi
    · rw [hI_sIn (Or.inl e)]; exact Q.2.2 j hj i hi
theorem cp_I (Q : CpQ σ σ1 a b L T υ) (h1 : hI σ1 = hI σ) (ha : ¬ inM b a) (t1 : hT σ1 a = 4) (t2 : hT σ1 b = 4) (k : Nat) : ∃ υ', (∀ G : St → Option St, ((gI 4 k a υ).bind fun v => (pI 4 k b v υ).bind G) = G υ') ∧ CpQ σ σ1 a b (k :: L) T υ' := by
  have e : hI υ a = hI σ a := by rw [Q.1.2.2.2.2.2 a ha, h1]
  refine ⟨sI υ b k (hI υ a k), fun G => ?_, cp_sI Q k (by rw [e])⟩
  rw [gI_k (by rw [Q.1.1]; exact t1), osb, pI_k (by rw [Q.1.1]; exact t2), osb]
theorem cp_Z (Q : CpQ σ σ1 a b L T υ) (h1 : hI σ1 = hI σ) (ha : ¬ inM b a) (t1 : hT σ1 a = 4) (t2 : hT σ1 b = 4) (k : Nat) (hz : hI σ a k = 0 ∨ hI σ a k = 1) : ∃ υ', (∀ G : St → Option St, ((gI 4 k a υ).bind fun v => (pZ 4 k b v υ).bind G) = G υ') ∧ CpQ σ σ1 a b (k :: L) T υ' := by
  have e : hI υ a = hI σ a := by rw [Q.1.2.2.2.2.2 a ha, h1]
  refine ⟨sI υ b k (hI υ a k), fun G => ?_, cp_sI Q k (by rw [e])⟩
  rw [gI_k (by rw [Q.1.1]; exact t1), osb, pZ_k (by rw [Q.1.1]; exact t2) (by rw [e]; exact hz), osb]
theorem cp_A (Q : CpQ σ σ1 a b L T υ) (h1 : hI σ1 = hI σ) (ha : ∀ r, a ≤ r → r ≤ a + 6 → ¬ inM b r) (t1 : hT σ1 a = 4) (t2 : hT σ1 b = 4) (k j N : Nat) (hj : 1 ≤ j) (hj6 : j ≤ 6) (f1 : Fld σ1 a k (a + j) 22 N) (f2 : Fld σ1 b k (b + j) 22 N) (hN : cpN j = N) (hN2 : N ≤ 1000) : ∃ υ', (∀ G : St → Option St, ((gR 4 k a υ).bind fun v => (gR 4 k b υ).bind fun w => (cpI v 0 w 0 (nI N) υ).bind G) = G υ') ∧ CpQ σ σ1 a b L (j :: T) υ' := by
  have e : hI υ (a + j) = hI σ (a + j) := by rw [Q.1.2.2.2.2.2 (a + j) (ha _ (by omega) (by omega)), h1]
  have g1 := f1.fr Q.1
  have g2 := f2.fr Q.1
  refine ⟨sR υ (b + j) (va_cpy (hI υ (a + j)) (hI υ (b + j)) 0 0 N), fun G => ?_, Q.1.trans (Fr.r0 ⟨by omega, by omega⟩), fun q hq => ?_, fun t ht i hi => ?_⟩
  · rw [g1.r (by rw [Q.1.1]; exact t1), osb, g2.r (by rw [Q.1.1]; exact t2), osb]
    unfold cpI
    rw [show (0 : Int32).toNatClampNeg = 0 from rfl, nI_clamp (by omega), if_pos ⟨g1.2.1, g2.2.1, by decide, by decide, nI_pos' (by omega), by rw [g1.2.2]; omega, by rw [g2.2.2]; omega⟩, osb]
  · rw [hI_sRn (by omega)]; exact Q.2.1 q hq
  · by_cases et : t = j
    · subst et
      rw [hI_sRe, pk_cpy_in (by omega) (by omega), e, Nat.zero_add, Nat.sub_zero]
    · rw [hI_sRn (by omega)]
      rcases List.mem_cons.mp ht with h | h
      · exact absurd h et
      · exact Q.2.2 t h i hi
theorem copy_c (D : Mc σ a p c m x n nc) (H : MSh σ b) (hab : a + 6 < b ∨ b + 6 < a) (hpa : p + 10 < b) (h38 : x 38 = 0 ∨ x 38 = 1) : ∃ τ, f_X3_copyFrom b a σ = some τ ∧ Fg (inM b) σ τ ∧ Mc τ b p c m x n nc := by
  have ha : ∀ r, a ≤ r → r ≤ a + 6 → ¬ inM b r := fun r h1 h2 h => by have := h.1; have := h.2; omega
  have H1 := H.sP (p := p)
  have A1 : MSh (sP σ b 0 (some p)) a := D.1.sm (fun r h1 h2 => (Fg.sP (S := inM b) (σ := σ) (a := b) (j := 0) (v := some p) ⟨by omega, by omega⟩).2 r (ha r h1 h2))
  have h0 : hI (sP σ b 0 (some p)) = hI σ := rfl
  have Z17 : hI σ a 17 = 0 ∨ hI σ a 17 = 1 := by rw [D.2.2.2.2.2.1.1.2.2.2.2.2.1]; exact D.2.2.2.2.2.2.2.2.2.2.1
  have Z18 : hI σ a 18 = 0 ∨ hI σ a 18 = 1 := by rw [D.2.2.2.2.2.1.1.2.2.2.2.2.2.1]; exact h38
  have haa := ha a (by omega) (by omega)
  unfold f_X3_copyFrom f_X3_copyFrom_0
  rw [if_pos H.1, D.po, osb, pP_k H.1, osb]
  have G0 : Fg (inM b) σ (sP σ b 0 (some p)) := Fg.sP ⟨by omega, by omega⟩
  have hp1 : hP (sP σ b 0 (some p)) b 0 = some p := hP_sPe
  generalize sP σ b 0 (some p) = σ1 at H1 A1 h0 G0 hp1 ⊢
  have Q0 : CpQ σ σ1 a b [] [] σ1 := ⟨Fr.refl, fun _ h => (nomatch h), fun _ h => (nomatch h)⟩
  obtain ⟨υ1, e1, Q1⟩ := cp_I Q0 h0 haa A1.1 H1.1 1
  rw [e1]
  obtain ⟨υ2, e2, Q2⟩ := cp_A Q1 h0 ha A1.1 H1.1 2 1 24 (by omega) (by omega) A1.2.1 H1.2.1 rfl (by omega)
  erw [e2]
  obtain ⟨υ3, e3, Q3⟩ := cp_I Q2 h0 haa A1.1 H1.1 3
  rw [e3]
  obtain ⟨υ4, e4, Q4⟩ := cp_A Q3 h0 ha A1.1 H1.1 4 2 8 (by omega) (by omega) A1.2.2.1 H1.2.2.1 rfl (by omega)
  erw [e4]
  obtain ⟨υ5, e5, Q5⟩ := cp_I Q4 h0 haa A1.1 H1.1 5
  rw [e5]
  obtain ⟨υ6, e6, Q6⟩ := cp_I Q5 h0 haa A1.1 H1.1 6
  rw [e6]
  obtain ⟨υ7, e7, Q7⟩ := cp_A Q6 h0 ha A1.1 H1.1 7 3 12 (by omega) (by omega) A1.2.2.2.1 H1.2.2.2.1 rfl (by omega)
  erw [e7]
  obtain ⟨υ8, e8, Q8⟩ := cp_A Q7 h0 ha A1.1 H1.1 8 4 12 (by omega) (by omega) A1.2.2.2.2.1 H1.2.2.2.2.1 rfl (by omega)
  erw [e8]
  obtain ⟨υ9, e9, Q9⟩ := cp_A Q8 h0 ha A1.1 H1.1 9 5 12 (by omega) (by omega) A1.2.2.2.2.2.1 H1.2.2.2.2.2.1 rfl (by omega)
  erw [e9]
  obtain ⟨υ10, e10, Q10⟩ := cp_A Q9 h0 ha A1.1 H1.1 10 6 12 (by omega) (by omega) A1.2.2.2.2.2.2 H1.2.2.2.2.2.2 rfl (by omega)
  erw [e10]
  obtain ⟨υ11, e11, Q11⟩ := cp_I Q10 h0 haa A1.1 H1.1 11
  rw [e11]
  obtain ⟨υ12, e12, Q12⟩ := cp_I Q11 h0 haa A1.1 H1.1 12
  rw [e12]
  obtain ⟨υ13, e13, Q13⟩ := cp_I Q12 h0 haa A1.1 H1.1 13
  rw [e13]
  obtain ⟨υ14, e14, Q14⟩ := cp_I Q13 h0 haa A1.1 H1.1 14
  rw [e14]
  obtain ⟨υ15, e15, Q15⟩ := cp_I Q14 h0 haa A1.1 H1.1 15
  rw [e15]
  obtain ⟨υ16, e16, Q16⟩ := cp_I Q15 h0 haa A1.1 H1.1 16
  rw [e16]
  obtain ⟨υ17, e17, Q17⟩ := cp_Z Q16 h0 haa A1.1 H1.1 17 Z17
  rw [e17]
  obtain ⟨υ18, e18, Q18⟩ := cp_Z Q17 h0 haa A1.1 H1.1 18 Z18
  rw [e18]
  obtain ⟨υ19, e19, Q19⟩ := cp_I Q18 h0 haa A1.1 H1.1 19
  rw [e19]
  have G : Fg (inM b) σ υ19 := G0.trans Q19.1.g
  have out : ∀ r, p ≤ r → r ≤ p + 10 → Sm σ υ19 r := fun r h1 h2 => G.2 r (fun h => by have := h.1; omega)
  have k : ∀ q, q = 1 ∨ q = 3 ∨ q = 5 ∨ q = 6 ∨ (11 ≤ q ∧ q ≤ 19) → hI υ19 b q = hI σ a q := fun q hq => Q19.2.1 q (by
    simp only [List.mem_cons, List.not_mem_nil, or_false]; omega)
  have kj : ∀ j, 1 ≤ j → j ≤ 6 → ∀ i, i < cpN j → hI υ19 (b + j) i = hI σ (a + j) i := fun j h1 h2 => Q19.2.2 j (by
    simp only [List.mem_cons, List.not_mem_nil, or_false]; omega)
  have h12 := D.n12
  refine ⟨υ19, rfl, G, H1.fr Q19.1, by rw [Q19.1.2.2.1]; exact hp1, D.2.2.1.sm out, D.2.2.2.1.sm out, D.2.2.2.2.1, ?_, D.2.2.2.2.2.2⟩
  obtain ⟨⟨r1, r2, r3, r4, r5, r6, r7, r8⟩, rv, rk, re, rb⟩ := D.2.2.2.2.2.1
  refine ⟨⟨?_, ?_, ?_, ?_, ?_, ?_, ?_, ?_⟩, fun w hw => ?_, fun r hr => ?_, fun i hi => ?_, fun i hi => ?_⟩
  · rw [k 1 (by omega)]; exact r1
  · rw [k 3 (by omega)]; exact r2
  · rw [k 5 (by omega)]; exact r3
  · rw [k 6 (by omega)]; exact r4
  · rw [k 16 (by omega)]; exact r5
  · rw [k 17 (by omega)]; exact r6
  · rw [k 18 (by omega)]; exact r7
  · rw [k 19 (by omega)]; exact r8
  · rw [kj 1 (by omega) (by omega) w (by first | exact hw | exact hr | exact Nat.lt_of_lt_of_le hi h12)]; exact rv w hw
  · rw [kj 2 (by omega) (by omega) r (by first | exact hw | exact hr | exact Nat.lt_of_lt_of_le hi h12)]; exact rk r hr
  · rw [kj 3 (by omega) (by omega) i (by first | exact hw | exact hr | exact Nat.lt_of_lt_of_le hi h12), kj 4 (by omega) (by omega) i (by first | exact hw | exact hr | exact Nat.lt_of_lt_of_le hi h12), kj 5 (by omega) (by omega) i (by first | exact hw | exact hr | exact Nat.lt_of_lt_of_le hi h12), kj 6 (by omega) (by omega) i (by first | exact hw | exact hr | exact Nat.lt_of_lt_of_le hi h12)]; exact re i hi
  · rw [k 11 (by omega), k 12 (by omega), k 13 (by omega), k 14 (by omega), k 15 (by omega)]; exact rb i hi
end Copy
