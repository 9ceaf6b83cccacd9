/-! THE REFERENCE's core functions: what is done -/
def ux (x : Nat → Int32) (j : Nat) (v : Int32) : Nat → Int32 := fun i => if i = j then v else x i
theorem ux_e {x : Nat → Int32} {j : Nat} {v : Int32} : ux x j v j = v := if_pos rfl
theorem ux_n {x : Nat → Int32} {i j : Nat} {v : Int32} (h : i ≠ j) : ux x j v i = x i := if_neg h
def gsE (c : Nat → Nat → Int32) (s : Nat) : Int32 := if c 1 s = 5 ∧ ¬ c 6 s = 0 then c 5 s else nI s + 1
def cmE (kd a b : Int32) : Int32 := if kd = 1 then jrem (a + b) 10000 else if kd = 2 then jrem (a - b + 10000) 10000 else if b = 0 then jrem 0 10000 else jrem (a / b) 10000
/-- what a read cell holds -/
def vlE (x : Nat → Int32) (v : Int32) : Int32 := if v = -2 then 0 else x (9 + v.toNatClampNeg)
/-- what becomes -/
def ouE (c : Nat → Nat → Int32) (s : Nat) (a b : Int32) : Int32 := if c 1 s = 0 then c 5 s else if c 1 s = 4 then a else cmE (c 1 s) a b
def nxE (c : Nat → Nat → Int32) (s : Nat) (a b : Int32) : Int32 := if a = b then c 5 s else nI s + 1
section Mod4
variable {σ : St} {M k : Nat} {c : Nat → Nat → Int32} {x : Nat → Int32} {n : Nat}
theorem Md.set (D : Md σ M k c x) {j : Nat} (v : Int32) : Md (sI σ (M + 4) j v) M k c (ux x j v) := by
  obtain ⟨d1, d2, d3, d4, d5, d6, d7⟩ := D
  have e : ∀ q, q ≤ 10 → hI (sI σ (M + 4) j v) (k + q) = hI σ (k + q) := fun q hq => hI_sIr (by omega)
  have e0 : hI (sI σ (M + 4) j v) k = hI σ k := hI_sIr (by omega)
  refine ⟨d1, d2, d3, d4, ?_, fun i hi => ?_, d7⟩
  · unfold CR
    rw [e0, e 1 (by omega), e 2 (by omega), e 3 (by omega), e 4 (by omega), e 5 (by omega), e 6 (by omega), e 7 (by omega), e 8 (by omega), e 9 (by omega), e 10 (by omega)]
    exact d5
  · by_cases h : i = j
    · subst h; rw [hI_sIe, ux_e]
    · rw [hI_sIn (Or.inr h), ux_n h]; exact d6 i hi
theorem Md.setM (D : Md σ M k c x) {j : Nat} (v : Int32) : Md (sI σ M j v) M k c x := by
  obtain ⟨d1, d2, d3, d4, d5, d6, d7⟩ := D
  have e : ∀ q, q ≤ 10 → hI (sI σ M j v) (k + q) = hI σ (k + q) := fun q hq => hI_sIr (by omega)
  have e0 : hI (sI σ M j v) k = hI σ k := hI_sIr (by omega)
  refine ⟨d1, d2, d3, d4, ?_, fun i hi => ?_, d7⟩
  · unfold CR
    rw [e0, e 1 (by omega), e 2 (by omega), e 3 (by omega), e 4 (by omega), e 5 (by omega), e 6 (by omega), e 7 (by omega), e 8 (by omega), e 9 (by omega), e 10 (by omega)]
    exact d5
  · rw [hI_sIr (by omega)]; exact d6 i hi
theorem xset (D : Md σ M k c x) {j : Nat} (hj : j < 195) {v u : Int32} (hu : u = nI j) : xI (M + 4) u v σ = some (sI σ (M + 4) j v) := by
  rw [hu]; exact xI_k D.2.1.2.1 D.2.1.2.2 hj (by omega)
theorem kar (D : Md σ M k c x) {s : Nat} (hs : s < 24) : (gR 10 8 k σ = some (k + 1) ∧ aI 22 (k + 1) (nI s) σ = some (c 1 s)) ∧ (gR 10 9 k σ = some (k + 2) ∧ aI 22 (k + 2) (nI s) σ = some (c 2 s)) ∧ (gR 10 10 k σ = some (k + 3) ∧ aI 22 (k + 3) (nI s) σ = some (c 3 s)) ∧ (gR 10 11 k σ = some (k + 4) ∧ aI 22 (k + 4) (nI s) σ = some (c 4 s)) ∧ (gR 10 12 k σ = some (k + 5) ∧ aI 22 (k + 5) (nI s) σ = some (c 5 s)) ∧ (gR 10 13 k σ = some (k + 6) ∧ aI 23 (k + 6) (nI s) σ = some (c 6 s)) := by
  obtain ⟨d1, d2, d3, ⟨t0, t1, t2, t3, t4, t5, t6, -⟩, d5, d6, d7⟩ := D
  obtain ⟨q1, q2, q3, q4, q5, q6⟩ := d5.2.2.2.2.2.2.2.2.1 s hs
  exact ⟨⟨t1.r t0, by rw [t1.g hs (by omega), q1]⟩, ⟨t2.r t0, by rw [t2.g hs (by omega), q2]⟩, ⟨t3.r t0, by rw [t3.g hs (by omega), q3]⟩, ⟨t4.r t0, by rw [t4.g hs (by omega), q4]⟩, ⟨t5.r t0, by rw [t5.g hs (by omega), q5]⟩, ⟨t6.r t0, by rw [t6.g hs (by omega), q6]⟩⟩
theorem gues_k (D : Md σ M k c x) {s : Nat} (hs : s < 24) : f_X10_guessed M (nI s) σ = some (gsE c s, σ) := by
  obtain ⟨⟨a1, a2⟩, -, -, -, ⟨a3, a4⟩, ⟨a5, a6⟩⟩ := kar D hs
  unfold f_X10_guessed f_X10_guessed_0 f_X10_guessed_37 f_X10_guessed_40
  simp only [D.1, if_true, core_k D, osb, a1, a2, a3, a4, a5, a6, gsE]
  by_cases h5 : c 1 s = 5
  · by_cases h6 : c 6 s = 0 <;> simp [h5, h6]
  · simp [h5]
theorem crd_k (D : Md σ M k c x) {s : Nat} (hs : s < 24) : f_X9_reads k (nI s) σ = some (if c 1 s = 0 then 0 else if c 1 s = 4 then 1 else 2, σ) := by
  obtain ⟨⟨a1, a2⟩, -⟩ := kar D hs
  unfold f_X9_reads f_X9_reads_0 f_X9_reads_28
  simp only [D.2.2.2.1.1, if_true, osb, a1, a2]
  by_cases h0 : c 1 s = 0
  · simp [h0]
  · by_cases h4 : c 1 s = 4 <;> simp [h0, h4]
theorem com_k (kd a b : Int32) : f_X10_comes kd a b σ = some (cmE kd a b, σ) := by
  unfold f_X10_comes f_X10_comes_0 f_X10_comes_37 cmE
  by_cases h1 : kd = 1
  · simp [h1]
  · by_cases h2 : kd = 2
    · simp [h2]
    · by_cases h3 : b = 0 <;> simp [h1, h2, h3]
/-- the row behind a run of the i-th -/
def rnE (c : Nat → Nat → Int32) (x : Nat → Int32) (i : Nat) : Nat → Int32 :=
  let s := sS x i
  let a := vlE x (x (39 + 13 * i + 2))
  let b := vlE x (x (39 + 13 * i + 3))
  let y := ux x (39 + 13 * i + 4) ((x (39 + 13 * i + 4) &&& (-9)) ||| 1)
  if c 1 s = 5 then (if nxE c s a b = gsE c s then y else ux (ux y 34 (nI i + 1)) 35 (nxE c s a b))
  else if c 1 s = 3 ∧ b = 0 then ux y (39 + 13 * i + 4) (y (39 + 13 * i + 4) ||| 2)
  else ux (ux y (9 + (x (39 + 13 * i + 1)).toNatClampNeg) (ouE c s a b)) 33 (x 33 ||| jshl 1 (x (39 + 13 * i + 1)))
/-- is it a miss -/
def msE (c : Nat → Nat → Int32) (x : Nat → Int32) (i : Nat) : Bool :=
  decide (c 1 (sS x i) = 5) && !decide (nxE c (sS x i) (vlE x (x (39 + 13 * i + 2))) (vlE x (x (39 + 13 * i + 3))) = gsE c (sS x i))
def rvE (c : Nat → Nat → Int32) (x : Nat → Int32) (i : Nat) : Int32 := if msE c x i = true then x 34 - nI i - 1 else 0
end Mod4
