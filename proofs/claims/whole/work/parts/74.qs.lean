/-! QUESTIONS: the simple ones -/
theorem b2i_t : b2i true = 1 := rfl
theorem b2i_f : b2i false = 0 := rfl
theorem i10 : ((1 : Int32) = 0) ↔ False := by decide
theorem i00 : ((0 : Int32) = 0) ↔ True := by decide
section Qs
variable {σ τ υ : St} {z p d M k : Nat} {P : PT} {S : SX} {I : IT} {tr wh v w : Int32} {B : Nat}
theorem in_k (v a b : Int32) : f_X10_in v a b σ = some (b2i (!decide (v < a ∨ b < v)), σ) := by
  unfold f_X10_in f_X10_in_0 f_X10_in_14 f_X10_in_15
  by_cases h1 : v < a
  · simp [h1, b2i]
  · by_cases h2 : b < v <;> simp [h1, h2, b2i]
theorem RB.gq (R : RB M P S I σ) : (P.1 = false → gQ 11 3 M σ = some none) ∧ (P.1 = true → ∃ k, gQ 11 3 M σ = some (some k)) := by
  refine ⟨fun h => by rw [gQ_k R.t, R.2.2.2.2.2.1 h], fun h => ?_⟩
  obtain ⟨k, D, -⟩ := R.md h
  exact ⟨k, by rw [gQ_k R.t, D.2.2.1]⟩
theorem RB.s0 (R : RB M P S I σ) : RB M P S I (sI σ M 0 0) := R.rs (RS.s0 (by omega))
theorem rReg (R : RB M P S I σ) (v : Int32) : f_X10_isRegister M v σ = some (b2i (P.1 && !decide (v < 0 ∨ 8 ≤ v)), σ) := by
  unfold f_X10_isRegister f_X10_isRegister_0 f_X10_isRegister_21 f_X10_isRegister_22
  rw [if_pos R.t]
  cases hP : P.1 with
  | false => rw [R.gq.1 hP, osb, ocn]; rfl
  | true =>
    obtain ⟨k, e⟩ := R.gq.2 hP
    rw [e, osb, oco]
    by_cases h1 : v < 0
    · simp [h1, b2i]
    · by_cases h2 : (8 : Int32) ≤ v <;> simp [h1, h2, b2i]
theorem cReg (v : Int32) : f_X8_isRegister v σ = some (b2i (!decide (v < 0 ∨ 8 ≤ v)), σ) := reg_f v σ
def isEn (P : PT) (S : SX) (i : Int32) : Bool := P.1 && !decide (i < 0 ∨ nI (nN S.1) ≤ i)
theorem cEnt (C : CB z p d P S I σ) (i : Int32) : f_X8_isEntry z i σ = some (b2i (isEn P S i), σ) := by
  unfold f_X8_isEntry f_X8_isEntry_0 f_X8_isEntry_26 f_X8_isEntry_27 isEn
  rw [if_pos C.zt, C.told, osb]
  cases hP : P.1 with
  | false => rfl
  | true =>
    have D := C.mq hP
    rw [if_neg (by decide), C.m, osb, D.f.2.2.2.1, osb]
    by_cases h1 : i < 0
    · simp [h1, b2i]
    · by_cases h2 : nI (nN S.1) ≤ i <;> simp [h1, h2, b2i]
theorem RB.a3 (R : RB M P S I σ) (hP : P.1 = true) {j : Nat} (hj : j < 195) : aI 22 (M + 3) (nI j) σ = some (S.1 j) := by rw [R.1.2.2.2.2.1.g hj (by omega), R.x hP]
theorem AW.rk (A : AW P S I B) (hP : P.1 = true) : Rk P.2.1 P.2.2.1 S.1 P.2.2.2.2.2 := (A.2.1 hP).2.2.2.2.2.1.1
theorem rEnt (R : RB M P S I σ) (A : AW P S I B) (i : Int32) : f_X10_isEntry M i σ = some (b2i (isEn P S i), σ) := by
  unfold f_X10_isEntry f_X10_isEntry_0 f_X10_isEntry_26 f_X10_isEntry_27 isEn
  rw [if_pos R.t]
  cases hP : P.1 with
  | false => rw [R.gq.1 hP, osb, ocn]; rfl
  | true =>
    obtain ⟨k, e⟩ := R.gq.2 hP
    have h34 : aI 22 (M + 3) 34 σ = some (nI (nN S.1)) := by
      have := R.a3 hP (j := 34) (by omega)
      rw [(A.rk hP).1.2.1.2.2.2.1] at this
      exact this
    rw [e, osb, oco, R.1.2.2.2.2.1.r R.t, osb, h34, osb]
    by_cases h1 : i < 0
    · simp [h1, b2i]
    · by_cases h2 : nI (nN S.1) ≤ i <;> simp [h1, h2, b2i]
theorem isEn_t {i : Int32} (h : isEn P S i = true) (h12 : nN S.1 ≤ 12) : P.1 = true ∧ ∃ j, j < nN S.1 ∧ i = nI j := by
  unfold isEn at h
  simp only [Bool.and_eq_true, Bool.not_eq_true', decide_eq_false_iff_not] at h
  refine ⟨h.1, ?_⟩
  rcases pk_ix i (n := nN S.1) (by omega) with q | q | q
  · exact absurd (Or.inl q) h.2
  · exact absurd (Or.inr q) h.2
  · exact q
theorem reg_c {v : Int32} : (v < 0 ∨ 8 ≤ v) ∨ ∃ j, j < 8 ∧ v = nI j ∧ ¬ (v < 0 ∨ 8 ≤ v) := by
  rcases pk_ix v (n := 8) (by omega) with q | q | ⟨j, hj, e⟩
  · exact Or.inl (Or.inl q)
  · exact Or.inl (Or.inr q)
  · refine Or.inr ⟨j, hj, e, fun h => ?_⟩
    rw [e] at h
    rcases h with h | h
    · exact nI_pos (by omega) h
    · exact nI_ge (a := j) (b := 8) hj (by omega) h
theorem letGo_c0 (hP : P.1 = false) : Qc z p d P S I (fun σ => f_X8_letGo z σ) (-1) 1 := by
  intro σ tr wh C
  refine ⟨sI σ z 12 1, ?_, C.r 1 (by decide), fg_c 1⟩
  simp only [f_X8_letGo_13, f_X8_letGo_0, f_X8_letGo, C.1.zt, C.1.told, hP, ref_1 C.1.zt, osb, b2i_t, b2i_f, i10, i00, if_true, if_false, Bool.not_true, Bool.not_false, Bool.true_and, Bool.false_and, Bool.and_true, Bool.and_false]
theorem letGo_r0 (hP : P.1 = false) : Qr M P S I (fun σ => f_X10_letGo M σ) (-1) 1 := by
  intro σ tr wh R
  have R1 := R.1.s0
  refine ⟨sI (sI (sI σ M 0 0) M 1 1) M 2 (-1), ?_, R1.end 1, RS.end (RS.s0 (by omega)) 1⟩
  simp only [f_X10_letGo_0, f_X10_letGo, R.1.t, pI_k R.1.t, R1.gq.1 hP, ocn, refd_k R1.t, osb, b2i_t, b2i_f, i10, i00, if_true, if_false, Bool.not_true, Bool.not_false, Bool.true_and, Bool.false_and, Bool.and_true, Bool.and_false]
theorem letGo_c1 (A : AW P S I B) (hP : P.1 = true) : Qc z p d P S I (fun σ => f_X8_letGo z σ) (setN (goneE P.2.1 S.1 (nN S.1)) 8) 0 := by
  intro σ tr wh C
  have C1 := C.r 0 (by decide)
  have D := C1.1.mq hP
  have K := A.rk hP
  refine ⟨sI σ z 12 0, ?_, C1, fg_c 0⟩
  simp only [f_X8_letGo_13, f_X8_letGo_0, f_X8_letGo, C.1.zt, C.1.told, hP, ref_0 C.1.zt, C1.1.m, D.f.2.2.2.1, lgb_c D (Nat.le_refl _), osb, b2i_t, b2i_f, i10, i00, if_true, if_false, Bool.not_true, Bool.not_false, Bool.true_and, Bool.false_and, Bool.and_true, Bool.and_false]
theorem letGo_r1 (A : AW P S I B) (hP : P.1 = true) : Qr M P S I (fun σ => f_X10_letGo M σ) (setN (goneE P.2.1 S.1 (nN S.1)) 8) 0 := by
  intro σ tr wh R
  have R1 := R.1.s0
  have K := A.rk hP
  obtain ⟨k', e⟩ := R1.gq.2 hP
  obtain ⟨k, ω, w1, w2, Dk, h26, w5, w6⟩ := R1.work A hP
  refine ⟨sI (sI ω M 1 0) M 2 (-1), ?_, w5.end 0, RS.end ((RS.s0 (by omega)).trans w6) 0⟩
  simp only [f_X10_letGo_0, f_X10_letGo, R.1.t, pI_k R.1.t, e, oco, w1, letGo_k Dk K.1.xs K.1.2.1.2.2.2.1, good_k w5.t, osb, b2i_t, b2i_f, i10, i00, if_true, if_false, Bool.not_true, Bool.not_false, Bool.true_and, Bool.false_and, Bool.and_true, Bool.and_false]
theorem letGo_a (A : AW P S I B) (C : CJ z p d P S I tr wh σ) (R : RJ (z + 195) P S I tr wh σ) (o1 : hT σ (z + 203) = 24) (o2 : hN σ (z + 203) = 1) : Alike z (fun σ => f_X8_letGo z σ) (fun σ => f_X10_letGo (z + 195) σ) B σ := by
  cases hP : P.1 with
  | false => exact alk_q A C R o1 o2 (letGo_c0 hP) (letGo_r0 hP)
  | true => exact alk_q A C R o1 o2 (letGo_c1 A hP) (letGo_r1 A hP)
theorem free_c0 (hP : P.1 = false) : Qc z p d P S I (fun σ => f_X8_free z σ) (-1) 1 := by
  intro σ tr wh C
  refine ⟨sI σ z 12 1, ?_, C.r 1 (by decide), fg_c 1⟩
  simp only [f_X8_free_13, f_X8_free_0, f_X8_free, C.1.zt, C.1.told, hP, ref_1 C.1.zt, osb, b2i_t, b2i_f, i10, i00, if_true, if_false, Bool.not_true, Bool.not_false, Bool.true_and, Bool.false_and, Bool.and_true, Bool.and_false]
theorem free_r0 (hP : P.1 = false) : Qr M P S I (fun σ => f_X10_free M σ) (-1) 1 := by
  intro σ tr wh R
  have R1 := R.1.s0
  refine ⟨sI (sI (sI σ M 0 0) M 1 1) M 2 (-1), ?_, R1.end 1, RS.end (RS.s0 (by omega)) 1⟩
  simp only [f_X10_free_0, f_X10_free, R.1.t, pI_k R.1.t, R1.gq.1 hP, ocn, refd_k R1.t, osb, b2i_t, b2i_f, i10, i00, if_true, if_false, Bool.not_true, Bool.not_false, Bool.true_and, Bool.false_and, Bool.and_true, Bool.and_false]
theorem free_c1 (A : AW P S I B) (hP : P.1 = true) : Qc z p d P S I (fun σ => f_X8_free z σ) (setN (freE P.2.1 S.1 (nN S.1)) P.2.2.2.2.2) 0 := by
  intro σ tr wh C
  have C1 := C.r 0 (by decide)
  have D := C1.1.mq hP
  have K := A.rk hP
  refine ⟨sI σ z 12 0, ?_, C1, fg_c 0⟩
  simp only [f_X8_free_13, f_X8_free_0, f_X8_free, C.1.zt, C.1.told, hP, ref_0 C.1.zt, C1.1.m, D.f.2.2.2.1, free_c D (Nat.le_refl _), osb, b2i_t, b2i_f, i10, i00, if_true, if_false, Bool.not_true, Bool.not_false, Bool.true_and, Bool.false_and, Bool.and_true, Bool.and_false]
theorem free_r1 (A : AW P S I B) (hP : P.1 = true) : Qr M P S I (fun σ => f_X10_free M σ) (setN (freE P.2.1 S.1 (nN S.1)) P.2.2.2.2.2) 0 := by
  intro σ tr wh R
  have R1 := R.1.s0
  have K := A.rk hP
  obtain ⟨k', e⟩ := R1.gq.2 hP
  obtain ⟨k, ω, w1, w2, Dk, h26, w5, w6⟩ := R1.work A hP
  refine ⟨sI (sI ω M 1 0) M 2 (-1), ?_, w5.end 0, RS.end ((RS.s0 (by omega)).trans w6) 0⟩
  simp only [f_X10_free_0, f_X10_free, R.1.t, pI_k R.1.t, e, oco, w1, free_k Dk K.1.xs K.1.2.1.2.2.2.1 h26 K.1.2.1.2.2.1, good_k w5.t, osb, b2i_t, b2i_f, i10, i00, if_true, if_false, Bool.not_true, Bool.not_false, Bool.true_and, Bool.false_and, Bool.and_true, Bool.and_false]
theorem free_a (A : AW P S I B) (C : CJ z p d P S I tr wh σ) (R : RJ (z + 195) P S I tr wh σ) (o1 : hT σ (z + 203) = 24) (o2 : hN σ (z + 203) = 1) : Alike z (fun σ => f_X8_free z σ) (fun σ => f_X10_free (z + 195) σ) B σ := by
  cases hP : P.1 with
  | false => exact alk_q A C R o1 o2 (free_c0 hP) (free_r0 hP)
  | true => exact alk_q A C R o1 o2 (free_c1 A hP) (free_r1 A hP)
theorem ready_c0 (hP : P.1 = false) : Qc z p d P S I (fun σ => f_X8_ready z σ) (-1) 1 := by
  intro σ tr wh C
  refine ⟨sI σ z 12 1, ?_, C.r 1 (by decide), fg_c 1⟩
  simp only [f_X8_ready_13, f_X8_ready_0, f_X8_ready, C.1.zt, C.1.told, hP, ref_1 C.1.zt, osb, b2i_t, b2i_f, i10, i00, if_true, if_false, Bool.not_true, Bool.not_false, Bool.true_and, Bool.false_and, Bool.and_true, Bool.and_false]
theorem ready_r0 (hP : P.1 = false) : Qr M P S I (fun σ => f_X10_ready M σ) (-1) 1 := by
  intro σ tr wh R
  have R1 := R.1.s0
  refine ⟨sI (sI (sI σ M 0 0) M 1 1) M 2 (-1), ?_, R1.end 1, RS.end (RS.s0 (by omega)) 1⟩
  simp only [f_X10_ready_31, f_X10_ready_0, f_X10_ready, R.1.t, pI_k R.1.t, R1.gq.1 hP, ocn, refd_k R1.t, osb, b2i_t, b2i_f, i10, i00, if_true, if_false, Bool.not_true, Bool.not_false, Bool.true_and, Bool.false_and, Bool.and_true, Bool.and_false]
theorem ready_c1 (A : AW P S I B) (hP : P.1 = true) : Qc z p d P S I (fun σ => f_X8_ready z σ) (S.1 33) 0 := by
  intro σ tr wh C
  have C1 := C.r 0 (by decide)
  have D := C1.1.mq hP
  have K := A.rk hP
  refine ⟨sI σ z 12 0, ?_, C1, fg_c 0⟩
  simp only [f_X8_ready_13, f_X8_ready_0, f_X8_ready, C.1.zt, C.1.told, hP, ref_0 C.1.zt, C1.1.m, D.f.2.1, osb, b2i_t, b2i_f, i10, i00, if_true, if_false, Bool.not_true, Bool.not_false, Bool.true_and, Bool.false_and, Bool.and_true, Bool.and_false]
theorem ready_r1 (A : AW P S I B) (hP : P.1 = true) : Qr M P S I (fun σ => f_X10_ready M σ) (S.1 33) 0 := by
  intro σ tr wh R
  have R1 := R.1.s0
  have K := A.rk hP
  obtain ⟨k', e⟩ := R1.gq.2 hP
  have h3 : aI 22 (M + 3) 33 (sI σ M 0 0) = some (S.1 33) := (R1.a3 hP (j := 33) (by omega)).trans (by rfl)
  refine ⟨sI (sI (sI σ M 0 0) M 1 0) M 2 (-1), ?_, R1.end 0, RS.end (RS.s0 (by omega)) 0⟩
  simp only [f_X10_ready_31, f_X10_ready_0, f_X10_ready, R.1.t, pI_k R.1.t, e, oco, R1.1.2.2.2.2.1.r R1.t, h3, good_k R1.t, osb, b2i_t, b2i_f, i10, i00, if_true, if_false, Bool.not_true, Bool.not_false, Bool.true_and, Bool.false_and, Bool.and_true, Bool.and_false]
theorem ready_a (A : AW P S I B) (C : CJ z p d P S I tr wh σ) (R : RJ (z + 195) P S I tr wh σ) (o1 : hT σ (z + 203) = 24) (o2 : hN σ (z + 203) = 1) : Alike z (fun σ => f_X8_ready z σ) (fun σ => f_X10_ready (z + 195) σ) B σ := by
  cases hP : P.1 with
  | false => exact alk_q A C R o1 o2 (ready_c0 hP) (ready_r0 hP)
  | true => exact alk_q A C R o1 o2 (ready_c1 A hP) (ready_r1 A hP)
theorem entries_c0 (hP : P.1 = false) : Qc z p d P S I (fun σ => f_X8_entries z σ) (-1) 1 := by
  intro σ tr wh C
  refine ⟨sI σ z 12 1, ?_, C.r 1 (by decide), fg_c 1⟩
  simp only [f_X8_entries_13, f_X8_entries_0, f_X8_entries, C.1.zt, C.1.told, hP, ref_1 C.1.zt, osb, b2i_t, b2i_f, i10, i00, if_true, if_false, Bool.not_true, Bool.not_false, Bool.true_and, Bool.false_and, Bool.and_true, Bool.and_false]
theorem entries_r0 (hP : P.1 = false) : Qr M P S I (fun σ => f_X10_entries M σ) (-1) 1 := by
  intro σ tr wh R
  have R1 := R.1.s0
  refine ⟨sI (sI (sI σ M 0 0) M 1 1) M 2 (-1), ?_, R1.end 1, RS.end (RS.s0 (by omega)) 1⟩
  simp only [f_X10_entries_31, f_X10_entries_0, f_X10_entries, R.1.t, pI_k R.1.t, R1.gq.1 hP, ocn, refd_k R1.t, osb, b2i_t, b2i_f, i10, i00, if_true, if_false, Bool.not_true, Bool.not_false, Bool.true_and, Bool.false_and, Bool.and_true, Bool.and_false]
theorem entries_c1 (A : AW P S I B) (hP : P.1 = true) : Qc z p d P S I (fun σ => f_X8_entries z σ) (nI (nN S.1)) 0 := by
  intro σ tr wh C
  have C1 := C.r 0 (by decide)
  have D := C1.1.mq hP
  have K := A.rk hP
  refine ⟨sI σ z 12 0, ?_, C1, fg_c 0⟩
  simp only [f_X8_entries_13, f_X8_entries_0, f_X8_entries, C.1.zt, C.1.told, hP, ref_0 C.1.zt, C1.1.m, D.f.2.2.2.1, osb, b2i_t, b2i_f, i10, i00, if_true, if_false, Bool.not_true, Bool.not_false, Bool.true_and, Bool.false_and, Bool.and_true, Bool.and_false]
theorem entries_r1 (A : AW P S I B) (hP : P.1 = true) : Qr M P S I (fun σ => f_X10_entries M σ) (nI (nN S.1)) 0 := by
  intro σ tr wh R
  have R1 := R.1.s0
  have K := A.rk hP
  obtain ⟨k', e⟩ := R1.gq.2 hP
  have h3 : aI 22 (M + 3) 34 (sI σ M 0 0) = some (nI (nN S.1)) := (R1.a3 hP (j := 34) (by omega)).trans (by rw [K.1.2.1.2.2.2.1])
  refine ⟨sI (sI (sI σ M 0 0) M 1 0) M 2 (-1), ?_, R1.end 0, RS.end (RS.s0 (by omega)) 0⟩
  simp only [f_X10_entries_31, f_X10_entries_0, f_X10_entries, R.1.t, pI_k R.1.t, e, oco, R1.1.2.2.2.2.1.r R1.t, h3, good_k R1.t, osb, b2i_t, b2i_f, i10, i00, if_true, if_false, Bool.not_true, Bool.not_false, Bool.true_and, Bool.false_and, Bool.and_true, Bool.and_false]
theorem entries_a (A : AW P S I B) (C : CJ z p d P S I tr wh σ) (R : RJ (z + 195) P S I tr wh σ) (o1 : hT σ (z + 203) = 24) (o2 : hN σ (z + 203) = 1) : Alike z (fun σ => f_X8_entries z σ) (fun σ => f_X10_entries (z + 195) σ) B σ := by
  cases hP : P.1 with
  | false => exact alk_q A C R o1 o2 (entries_c0 hP) (entries_r0 hP)
  | true => exact alk_q A C R o1 o2 (entries_c1 A hP) (entries_r1 A hP)
theorem nextStep_c0 (hP : P.1 = false) : Qc z p d P S I (fun σ => f_X8_nextStep z σ) (-1) 1 := by
  intro σ tr wh C
  refine ⟨sI σ z 12 1, ?_, C.r 1 (by decide), fg_c 1⟩
  simp only [f_X8_nextStep_13, f_X8_nextStep_0, f_X8_nextStep, C.1.zt, C.1.told, hP, ref_1 C.1.zt, osb, b2i_t, b2i_f, i10, i00, if_true, if_false, Bool.not_true, Bool.not_false, Bool.true_and, Bool.false_and, Bool.and_true, Bool.and_false]
theorem nextStep_r0 (hP : P.1 = false) : Qr M P S I (fun σ => f_X10_nextStep M σ) (-1) 1 := by
  intro σ tr wh R
  have R1 := R.1.s0
  refine ⟨sI (sI (sI σ M 0 0) M 1 1) M 2 (-1), ?_, R1.end 1, RS.end (RS.s0 (by omega)) 1⟩
  simp only [f_X10_nextStep_31, f_X10_nextStep_0, f_X10_nextStep, R.1.t, pI_k R.1.t, R1.gq.1 hP, ocn, refd_k R1.t, osb, b2i_t, b2i_f, i10, i00, if_true, if_false, Bool.not_true, Bool.not_false, Bool.true_and, Bool.false_and, Bool.and_true, Bool.and_false]
theorem nextStep_c1 (A : AW P S I B) (hP : P.1 = true) : Qc z p d P S I (fun σ => f_X8_nextStep z σ) (S.1 35) 0 := by
  intro σ tr wh C
  have C1 := C.r 0 (by decide)
  have D := C1.1.mq hP
  have K := A.rk hP
  refine ⟨sI σ z 12 0, ?_, C1, fg_c 0⟩
  simp only [f_X8_nextStep_13, f_X8_nextStep_0, f_X8_nextStep, C.1.zt, C.1.told, hP, ref_0 C.1.zt, C1.1.m, D.f.2.2.2.2.1, osb, b2i_t, b2i_f, i10, i00, if_true, if_false, Bool.not_true, Bool.not_false, Bool.true_and, Bool.false_and, Bool.and_true, Bool.and_false]
theorem nextStep_r1 (A : AW P S I B) (hP : P.1 = true) : Qr M P S I (fun σ => f_X10_nextStep M σ) (S.1 35) 0 := by
  intro σ tr wh R
  have R1 := R.1.s0
  have K := A.rk hP
  obtain ⟨k', e⟩ := R1.gq.2 hP
  have h3 : aI 22 (M + 3) 35 (sI σ M 0 0) = some (S.1 35) := (R1.a3 hP (j := 35) (by omega)).trans (by rfl)
  refine ⟨sI (sI (sI σ M 0 0) M 1 0) M 2 (-1), ?_, R1.end 0, RS.end (RS.s0 (by omega)) 0⟩
  simp only [f_X10_nextStep_31, f_X10_nextStep_0, f_X10_nextStep, R.1.t, pI_k R.1.t, e, oco, R1.1.2.2.2.2.1.r R1.t, h3, good_k R1.t, osb, b2i_t, b2i_f, i10, i00, if_true, if_false, Bool.not_true, Bool.not_false, Bool.true_and, Bool.false_and, Bool.and_true, Bool.and_false]
theorem nextStep_a (A : AW P S I B) (C : CJ z p d P S I tr wh σ) (R : RJ (z + 195) P S I tr wh σ) (o1 : hT σ (z + 203) = 24) (o2 : hN σ (z + 203) = 1) : Alike z (fun σ => f_X8_nextStep z σ) (fun σ => f_X10_nextStep (z + 195) σ) B σ := by
  cases hP : P.1 with
  | false => exact alk_q A C R o1 o2 (nextStep_c0 hP) (nextStep_r0 hP)
  | true => exact alk_q A C R o1 o2 (nextStep_c1 A hP) (nextStep_r1 A hP)
theorem fetchable_c0 (hP : P.1 = false) : Qc z p d P S I (fun σ => f_X8_fetchable z σ) (-1) 1 := by
  intro σ tr wh C
  refine ⟨sI σ z 12 1, ?_, C.r 1 (by decide), fg_c 1⟩
  simp only [f_X8_fetchable_13, f_X8_fetchable_0, f_X8_fetchable, C.1.zt, C.1.told, hP, ref_1 C.1.zt, osb, b2i_t, b2i_f, i10, i00, if_true, if_false, Bool.not_true, Bool.not_false, Bool.true_and, Bool.false_and, Bool.and_true, Bool.and_false]
theorem fetchable_r0 (hP : P.1 = false) : Qr M P S I (fun σ => f_X10_fetchable M σ) (-1) 1 := by
  intro σ tr wh R
  have R1 := R.1.s0
  refine ⟨sI (sI (sI σ M 0 0) M 1 1) M 2 (-1), ?_, R1.end 1, RS.end (RS.s0 (by omega)) 1⟩
  simp only [f_X10_fetchable_0, f_X10_fetchable, R.1.t, pI_k R.1.t, R1.gq.1 hP, ocn, refd_k R1.t, osb, b2i_t, b2i_f, i10, i00, if_true, if_false, Bool.not_true, Bool.not_false, Bool.true_and, Bool.false_and, Bool.and_true, Bool.and_false]
theorem fetchable_c1 (A : AW P S I B) (hP : P.1 = true) : Qc z p d P S I (fun σ => f_X8_fetchable z σ) (wnfE P.2.1 S.1 (nN S.1) P.2.2.2.2.2) 0 := by
  intro σ tr wh C
  have C1 := C.r 0 (by decide)
  have D := C1.1.mq hP
  have K := A.rk hP
  refine ⟨sI σ z 12 0, ?_, C1, fg_c 0⟩
  simp only [f_X8_fetchable_13, f_X8_fetchable_0, f_X8_fetchable, C.1.zt, C.1.told, hP, ref_0 C.1.zt, C1.1.m, wnt_c D, osb, b2i_t, b2i_f, i10, i00, if_true, if_false, Bool.not_true, Bool.not_false, Bool.true_and, Bool.false_and, Bool.and_true, Bool.and_false]
theorem fetchable_r1 (A : AW P S I B) (hP : P.1 = true) : Qr M P S I (fun σ => f_X10_fetchable M σ) (wnfE P.2.1 S.1 (nN S.1) P.2.2.2.2.2) 0 := by
  intro σ tr wh R
  have R1 := R.1.s0
  have K := A.rk hP
  obtain ⟨k', e⟩ := R1.gq.2 hP
  obtain ⟨k, ω, w1, w2, Dk, h26, w5, w6⟩ := R1.work A hP
  refine ⟨sI (sI ω M 1 0) M 2 (-1), ?_, w5.end 0, RS.end ((RS.s0 (by omega)).trans w6) 0⟩
  simp only [f_X10_fetchable_0, f_X10_fetchable, R.1.t, pI_k R.1.t, e, oco, w1, wnf_j Dk K.1 h26, good_k w5.t, osb, b2i_t, b2i_f, i10, i00, if_true, if_false, Bool.not_true, Bool.not_false, Bool.true_and, Bool.false_and, Bool.and_true, Bool.and_false]
theorem fetchable_a (A : AW P S I B) (C : CJ z p d P S I tr wh σ) (R : RJ (z + 195) P S I tr wh σ) (o1 : hT σ (z + 203) = 24) (o2 : hN σ (z + 203) = 1) : Alike z (fun σ => f_X8_fetchable z σ) (fun σ => f_X10_fetchable (z + 195) σ) B σ := by
  cases hP : P.1 with
  | false => exact alk_q A C R o1 o2 (fetchable_c0 hP) (fetchable_r0 hP)
  | true => exact alk_q A C R o1 o2 (fetchable_c1 A hP) (fetchable_r1 A hP)
theorem commitable_c0 (hP : P.1 = false) : Qc z p d P S I (fun σ => f_X8_commitable z σ) (-1) 1 := by
  intro σ tr wh C
  refine ⟨sI σ z 12 1, ?_, C.r 1 (by decide), fg_c 1⟩
  simp only [f_X8_commitable_13, f_X8_commitable_0, f_X8_commitable, C.1.zt, C.1.told, hP, ref_1 C.1.zt, osb, b2i_t, b2i_f, i10, i00, if_true, if_false, Bool.not_true, Bool.not_false, Bool.true_and, Bool.false_and, Bool.and_true, Bool.and_false]
theorem commitable_r0 (hP : P.1 = false) : Qr M P S I (fun σ => f_X10_commitable M σ) (-1) 1 := by
  intro σ tr wh R
  have R1 := R.1.s0
  refine ⟨sI (sI (sI σ M 0 0) M 1 1) M 2 (-1), ?_, R1.end 1, RS.end (RS.s0 (by omega)) 1⟩
  simp only [f_X10_commitable_0, f_X10_commitable, R.1.t, pI_k R.1.t, R1.gq.1 hP, ocn, refd_k R1.t, osb, b2i_t, b2i_f, i10, i00, if_true, if_false, Bool.not_true, Bool.not_false, Bool.true_and, Bool.false_and, Bool.and_true, Bool.and_false]
theorem commitable_c1 (A : AW P S I B) (hP : P.1 = true) : Qc z p d P S I (fun σ => f_X8_commitable z σ) (wncE S.1 (nN S.1)) 0 := by
  intro σ tr wh C
  have C1 := C.r 0 (by decide)
  have D := C1.1.mq hP
  have K := A.rk hP
  refine ⟨sI σ z 12 0, ?_, C1, fg_c 0⟩
  simp only [f_X8_commitable_13, f_X8_commitable_0, f_X8_commitable, C.1.zt, C.1.told, hP, ref_0 C.1.zt, C1.1.m, wnr_j D K.1.2.2.1, osb, b2i_t, b2i_f, i10, i00, if_true, if_false, Bool.not_true, Bool.not_false, Bool.true_and, Bool.false_and, Bool.and_true, Bool.and_false]
theorem commitable_r1 (A : AW P S I B) (hP : P.1 = true) : Qr M P S I (fun σ => f_X10_commitable M σ) (wncE S.1 (nN S.1)) 0 := by
  intro σ tr wh R
  have R1 := R.1.s0
  have K := A.rk hP
  obtain ⟨k', e⟩ := R1.gq.2 hP
  obtain ⟨k, ω, w1, w2, Dk, h26, w5, w6⟩ := R1.work A hP
  refine ⟨sI (sI ω M 1 0) M 2 (-1), ?_, w5.end 0, RS.end ((RS.s0 (by omega)).trans w6) 0⟩
  simp only [f_X10_commitable_0, f_X10_commitable, R.1.t, pI_k R.1.t, e, oco, w1, wnc_j Dk K.1, good_k w5.t, osb, b2i_t, b2i_f, i10, i00, if_true, if_false, Bool.not_true, Bool.not_false, Bool.true_and, Bool.false_and, Bool.and_true, Bool.and_false]
theorem commitable_a (A : AW P S I B) (C : CJ z p d P S I tr wh σ) (R : RJ (z + 195) P S I tr wh σ) (o1 : hT σ (z + 203) = 24) (o2 : hN σ (z + 203) = 1) : Alike z (fun σ => f_X8_commitable z σ) (fun σ => f_X10_commitable (z + 195) σ) B σ := by
  cases hP : P.1 with
  | false => exact alk_q A C R o1 o2 (commitable_c0 hP) (commitable_r0 hP)
  | true => exact alk_q A C R o1 o2 (commitable_c1 A hP) (commitable_r1 A hP)
theorem value_c0 {r : Int32} (h : (P.1 && !decide (r < 0 ∨ 8 ≤ r)) = false) : Qc z p d P S I (fun σ => f_X8_value z r σ) (-1) 1 := by
  intro σ tr wh C
  refine ⟨sI σ z 12 1, ?_, C.r 1 (by decide), fg_c 1⟩
  cases hP : P.1 with
  | false => simp only [f_X8_value_20, f_X8_value_15, f_X8_value_0, f_X8_value, C.1.zt, C.1.told, hP, ref_1 C.1.zt, osb, b2i_t, b2i_f, i10, i00, if_true, if_false, Bool.not_true, Bool.not_false, Bool.true_and, Bool.false_and, Bool.and_true, Bool.and_false]
  | true =>
    rw [hP, Bool.true_and] at h
    simp only [f_X8_value_20, f_X8_value_15, f_X8_value_0, f_X8_value, C.1.zt, C.1.told, hP, cReg, h, ref_1 C.1.zt, osb, b2i_t, b2i_f, i10, i00, if_true, if_false, Bool.not_true, Bool.not_false, Bool.true_and, Bool.false_and, Bool.and_true, Bool.and_false]
theorem value_r0 {r : Int32} (h : (P.1 && !decide (r < 0 ∨ 8 ≤ r)) = false) : Qr M P S I (fun σ => f_X10_value M r σ) (-1) 1 := by
  intro σ tr wh R
  have R1 := R.1.s0
  refine ⟨sI (sI (sI σ M 0 0) M 1 1) M 2 (-1), ?_, R1.end 1, RS.end (RS.s0 (by omega)) 1⟩
  simp only [f_X10_value_0, f_X10_value, R.1.t, pI_k R.1.t, rReg R1, h, refd_k R1.t, osb, b2i_t, b2i_f, i10, i00, if_true, if_false, Bool.not_true, Bool.not_false, Bool.true_and, Bool.false_and, Bool.and_true, Bool.and_false]
theorem value_c1 (A : AW P S I B) (hP : P.1 = true) {r : Int32} {j : Nat} (hj : j < 8) (e : r = nI j) (h : ¬ (r < 0 ∨ 8 ≤ r)) : Qc z p d P S I (fun σ => f_X8_value z r σ) (kvE P.2.1 S.1 (nN S.1) j) 0 := by
  intro σ tr wh C
  have C1 := C.r 0 (by decide)
  have D := C1.1.mq hP
  have K := A.rk hP
  refine ⟨sI σ z 12 0, ?_, C1, fg_c 0⟩
  simp only [f_X8_value_20, f_X8_value_15, f_X8_value_0, f_X8_value, C.1.zt, C.1.told, hP, cReg, decide_eq_false h, ref_0 C.1.zt, C1.1.m, osb, b2i_t, b2i_f, i10, i00, if_true, if_false, Bool.not_true, Bool.not_false, Bool.true_and, Bool.false_and, Bool.and_true, Bool.and_false]
  subst e
  simp only [kv_c D hj, osb]
theorem value_r1 (A : AW P S I B) (hP : P.1 = true) {r : Int32} {j : Nat} (hj : j < 8) (e : r = nI j) (h : ¬ (r < 0 ∨ 8 ≤ r)) : Qr M P S I (fun σ => f_X10_value M r σ) (kvE P.2.1 S.1 (nN S.1) j) 0 := by
  intro σ tr wh R
  have R1 := R.1.s0
  have K := A.rk hP
  obtain ⟨k, ω, w1, w2, Dk, h26, w5, w6⟩ := R1.work A hP
  refine ⟨sI (sI ω M 1 0) M 2 (-1), ?_, w5.end 0, RS.end ((RS.s0 (by omega)).trans w6) 0⟩
  simp only [f_X10_value_0, f_X10_value, R.1.t, pI_k R.1.t, rReg R1, hP, decide_eq_false h, w1, osb, b2i_t, b2i_f, i10, i00, if_true, if_false, Bool.not_true, Bool.not_false, Bool.true_and, Bool.false_and, Bool.and_true, Bool.and_false]
  subst e
  simp only [kv_k Dk K.1 hj, good_k w5.t, osb]
theorem value_a (A : AW P S I B) (C : CJ z p d P S I tr wh σ) (R : RJ (z + 195) P S I tr wh σ) (o1 : hT σ (z + 203) = 24) (o2 : hN σ (z + 203) = 1) (r : Int32) : Alike z (fun σ => f_X8_value z r σ) (fun σ => f_X10_value (z + 195) r σ) B σ := by
  cases hP : P.1 with
  | false => exact alk_q A C R o1 o2 (value_c0 (by rw [hP]; rfl)) (value_r0 (by rw [hP]; rfl))
  | true =>
    rcases reg_c (v := r) with h | ⟨j, hj, e, h⟩
    · exact alk_q A C R o1 o2 (value_c0 (by rw [decide_eq_true h]; simp)) (value_r0 (by rw [decide_eq_true h]; simp))
    · exact alk_q A C R o1 o2 (value_c1 A hP hj e h) (value_r1 A hP hj e h)
theorem kept_c0 {r : Int32} (h : (P.1 && !decide (r < 0 ∨ 8 ≤ r)) = false) : Qc z p d P S I (fun σ => f_X8_kept z r σ) (-1) 1 := by
  intro σ tr wh C
  refine ⟨sI σ z 12 1, ?_, C.r 1 (by decide), fg_c 1⟩
  cases hP : P.1 with
  | false => simp only [f_X8_kept_20, f_X8_kept_15, f_X8_kept_0, f_X8_kept, C.1.zt, C.1.told, hP, ref_1 C.1.zt, osb, b2i_t, b2i_f, i10, i00, if_true, if_false, Bool.not_true, Bool.not_false, Bool.true_and, Bool.false_and, Bool.and_true, Bool.and_false]
  | true =>
    rw [hP, Bool.true_and] at h
    simp only [f_X8_kept_20, f_X8_kept_15, f_X8_kept_0, f_X8_kept, C.1.zt, C.1.told, hP, cReg, h, ref_1 C.1.zt, osb, b2i_t, b2i_f, i10, i00, if_true, if_false, Bool.not_true, Bool.not_false, Bool.true_and, Bool.false_and, Bool.and_true, Bool.and_false]
theorem kept_r0 {r : Int32} (h : (P.1 && !decide (r < 0 ∨ 8 ≤ r)) = false) : Qr M P S I (fun σ => f_X10_kept M r σ) (-1) 1 := by
  intro σ tr wh R
  have R1 := R.1.s0
  refine ⟨sI (sI (sI σ M 0 0) M 1 1) M 2 (-1), ?_, R1.end 1, RS.end (RS.s0 (by omega)) 1⟩
  simp only [f_X10_kept_31, f_X10_kept_0, f_X10_kept, R.1.t, pI_k R.1.t, rReg R1, h, refd_k R1.t, osb, b2i_t, b2i_f, i10, i00, if_true, if_false, Bool.not_true, Bool.not_false, Bool.true_and, Bool.false_and, Bool.and_true, Bool.and_false]
theorem kept_c1 (A : AW P S I B) (hP : P.1 = true) {r : Int32} {j : Nat} (hj : j < 8) (e : r = nI j) (h : ¬ (r < 0 ∨ 8 ≤ r)) : Qc z p d P S I (fun σ => f_X8_kept z r σ) (S.1 j) 0 := by
  intro σ tr wh C
  have C1 := C.r 0 (by decide)
  have D := C1.1.mq hP
  have K := A.rk hP
  refine ⟨sI σ z 12 0, ?_, C1, fg_c 0⟩
  simp only [f_X8_kept_20, f_X8_kept_15, f_X8_kept_0, f_X8_kept, C.1.zt, C.1.told, hP, cReg, decide_eq_false h, ref_0 C.1.zt, C1.1.m, osb, b2i_t, b2i_f, i10, i00, if_true, if_false, Bool.not_true, Bool.not_false, Bool.true_and, Bool.false_and, Bool.and_true, Bool.and_false]
  subst e
  simp only [(D.k hj).1, (D.k hj).2, osb]
theorem kept_r1 (A : AW P S I B) (hP : P.1 = true) {r : Int32} {j : Nat} (hj : j < 8) (e : r = nI j) (h : ¬ (r < 0 ∨ 8 ≤ r)) : Qr M P S I (fun σ => f_X10_kept M r σ) (S.1 j) 0 := by
  intro σ tr wh R
  have R1 := R.1.s0
  refine ⟨sI (sI (sI σ M 0 0) M 1 0) M 2 (-1), ?_, R1.end 0, RS.end (RS.s0 (by omega)) 0⟩
  simp only [f_X10_kept_31, f_X10_kept_0, f_X10_kept, R.1.t, pI_k R.1.t, rReg R1, hP, decide_eq_false h, R1.1.2.2.2.2.1.r R1.t, osb, b2i_t, b2i_f, i10, i00, if_true, if_false, Bool.not_true, Bool.not_false, Bool.true_and, Bool.false_and, Bool.and_true, Bool.and_false]
  subst e
  simp only [R1.a3 hP (j := j) (by omega), good_k R1.t, osb]
theorem kept_a (A : AW P S I B) (C : CJ z p d P S I tr wh σ) (R : RJ (z + 195) P S I tr wh σ) (o1 : hT σ (z + 203) = 24) (o2 : hN σ (z + 203) = 1) (r : Int32) : Alike z (fun σ => f_X8_kept z r σ) (fun σ => f_X10_kept (z + 195) r σ) B σ := by
  cases hP : P.1 with
  | false => exact alk_q A C R o1 o2 (kept_c0 (by rw [hP]; rfl)) (kept_r0 (by rw [hP]; rfl))
  | true =>
    rcases reg_c (v := r) with h | ⟨j, hj, e, h⟩
    · exact alk_q A C R o1 o2 (kept_c0 (by rw [decide_eq_true h]; simp)) (kept_r0 (by rw [decide_eq_true h]; simp))
    · exact alk_q A C R o1 o2 (kept_c1 A hP hj e h) (kept_r1 A hP hj e h)
theorem mapped_c0 {r : Int32} (h : (P.1 && !decide (r < 0 ∨ 8 ≤ r)) = false) : Qc z p d P S I (fun σ => f_X8_mapped z r σ) (-1) 1 := by
  intro σ tr wh C
  refine ⟨sI σ z 12 1, ?_, C.r 1 (by decide), fg_c 1⟩
  cases hP : P.1 with
  | false => simp only [f_X8_mapped_20, f_X8_mapped_15, f_X8_mapped_0, f_X8_mapped, C.1.zt, C.1.told, hP, ref_1 C.1.zt, osb, b2i_t, b2i_f, i10, i00, if_true, if_false, Bool.not_true, Bool.not_false, Bool.true_and, Bool.false_and, Bool.and_true, Bool.and_false]
  | true =>
    rw [hP, Bool.true_and] at h
    simp only [f_X8_mapped_20, f_X8_mapped_15, f_X8_mapped_0, f_X8_mapped, C.1.zt, C.1.told, hP, cReg, h, ref_1 C.1.zt, osb, b2i_t, b2i_f, i10, i00, if_true, if_false, Bool.not_true, Bool.not_false, Bool.true_and, Bool.false_and, Bool.and_true, Bool.and_false]
theorem mapped_r0 {r : Int32} (h : (P.1 && !decide (r < 0 ∨ 8 ≤ r)) = false) : Qr M P S I (fun σ => f_X10_mapped M r σ) (-1) 1 := by
  intro σ tr wh R
  have R1 := R.1.s0
  refine ⟨sI (sI (sI σ M 0 0) M 1 1) M 2 (-1), ?_, R1.end 1, RS.end (RS.s0 (by omega)) 1⟩
  simp only [f_X10_mapped_0, f_X10_mapped, R.1.t, pI_k R.1.t, rReg R1, h, refd_k R1.t, osb, b2i_t, b2i_f, i10, i00, if_true, if_false, Bool.not_true, Bool.not_false, Bool.true_and, Bool.false_and, Bool.and_true, Bool.and_false]
theorem mapped_c1 (A : AW P S I B) (hP : P.1 = true) {r : Int32} {j : Nat} (hj : j < 8) (e : r = nI j) (h : ¬ (r < 0 ∨ 8 ≤ r)) : Qc z p d P S I (fun σ => f_X8_mapped z r σ) (mapE P.2.1 S.1 j (nN S.1)) 0 := by
  intro σ tr wh C
  have C1 := C.r 0 (by decide)
  have D := C1.1.mq hP
  have K := A.rk hP
  refine ⟨sI σ z 12 0, ?_, C1, fg_c 0⟩
  simp only [f_X8_mapped_20, f_X8_mapped_15, f_X8_mapped_0, f_X8_mapped, C.1.zt, C.1.told, hP, cReg, decide_eq_false h, ref_0 C.1.zt, C1.1.m, osb, b2i_t, b2i_f, i10, i00, if_true, if_false, Bool.not_true, Bool.not_false, Bool.true_and, Bool.false_and, Bool.and_true, Bool.and_false]
  subst e
  simp only [D.f.2.2.2.1, map_c D hj (Nat.le_refl _), osb]
theorem mapped_r1 (A : AW P S I B) (hP : P.1 = true) {r : Int32} {j : Nat} (hj : j < 8) (e : r = nI j) (h : ¬ (r < 0 ∨ 8 ≤ r)) : Qr M P S I (fun σ => f_X10_mapped M r σ) (mapE P.2.1 S.1 j (nN S.1)) 0 := by
  intro σ tr wh R
  have R1 := R.1.s0
  have K := A.rk hP
  obtain ⟨k, ω, w1, w2, Dk, h26, w5, w6⟩ := R1.work A hP
  refine ⟨sI (sI ω M 1 0) M 2 (-1), ?_, w5.end 0, RS.end ((RS.s0 (by omega)).trans w6) 0⟩
  simp only [f_X10_mapped_0, f_X10_mapped, R.1.t, pI_k R.1.t, rReg R1, hP, decide_eq_false h, w1, osb, b2i_t, b2i_f, i10, i00, if_true, if_false, Bool.not_true, Bool.not_false, Bool.true_and, Bool.false_and, Bool.and_true, Bool.and_false]
  subst e
  simp only [xa_k Dk, r34_k Dk, K.1.2.1.2.2.2.1, mapOf_w Dk K.1.xs hj (Nat.le_refl _), good_k w5.t, osb]
theorem mapped_a (A : AW P S I B) (C : CJ z p d P S I tr wh σ) (R : RJ (z + 195) P S I tr wh σ) (o1 : hT σ (z + 203) = 24) (o2 : hN σ (z + 203) = 1) (r : Int32) : Alike z (fun σ => f_X8_mapped z r σ) (fun σ => f_X10_mapped (z + 195) r σ) B σ := by
  cases hP : P.1 with
  | false => exact alk_q A C R o1 o2 (mapped_c0 (by rw [hP]; rfl)) (mapped_r0 (by rw [hP]; rfl))
  | true =>
    rcases reg_c (v := r) with h | ⟨j, hj, e, h⟩
    · exact alk_q A C R o1 o2 (mapped_c0 (by rw [decide_eq_true h]; simp)) (mapped_r0 (by rw [decide_eq_true h]; simp))
    · exact alk_q A C R o1 o2 (mapped_c1 A hP hj e h) (mapped_r1 A hP hj e h)
end Qs
