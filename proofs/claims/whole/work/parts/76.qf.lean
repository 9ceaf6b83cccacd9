/-! QUESTIONS: fits -/
section Qf
variable {σ τ υ : St} {z p d M k : Nat} {P : PT} {S : SX} {I : IT} {tr wh v w : Int32} {B : Nat}
theorem CB.ff (C : CB z p d P S I σ) (hP : P.1 = true) : FSh σ (z + 194) P.2.2.2.1 (fiE P.2.1 P.2.2.2.1 P.2.2.2.2.1) := (C.2.2.2.2.1.2.2 hP).2.2
theorem RB.fit (R : RB M P S I σ) (A : AW P S I B) (hP : P.1 = true) (i0 : Int32) : ∃ τ, f_X10_fitting M i0 σ = some (o2i (fxE (fiE P.2.1 P.2.2.2.1 P.2.2.2.2.1) i0 (2 ^ P.2.2.2.1)), τ) ∧ RS M σ τ ∧ RB M P S I τ ∧ TEn τ M P.2.2.2.1 (fiE P.2.1 P.2.2.2.1 P.2.2.2.2.1) := by
  obtain ⟨k, D, -⟩ := R.md hP
  obtain ⟨τ, t1, t2, t3⟩ := fit_k D (A.2.1 hP).1 (A.2.1 hP).2.1 R.1.2.2.2.1 R.1.2.2.2.2.2.2.2.2 i0
  exact ⟨τ, t1, t2.rs, R.rs t2.rs, t3⟩
theorem RB.asks (R : RB M P S I σ) (A : AW P S I B) (hP : P.1 = true) : ∃ τ, f_X10_asks M σ = some (o2m (bestE (fiE P.2.1 P.2.2.2.1 P.2.2.2.2.1) P.2.2.2.1), τ) ∧ RS M σ τ ∧ RB M P S I τ ∧ hI τ M 35 = alI (lfE (fiE P.2.1 P.2.2.2.1 P.2.2.2.2.1) (2 ^ P.2.2.2.1)) (bestE (fiE P.2.1 P.2.2.2.1 P.2.2.2.2.1) P.2.2.2.1) := by
  obtain ⟨k, D, -⟩ := R.md hP
  obtain ⟨τ, t1, t2, t3⟩ := asks_k D (A.2.1 hP).1 (A.2.1 hP).2.1 R.1.2.2.2.1 R.1.2.2.2.2.2.2.2.2
  exact ⟨τ, t1, t2.rs, R.rs t2.rs, t3⟩
theorem fits_c0 (hP : P.1 = false) : Qc z p d P S I (fun σ => f_X8_fits z σ) (-1) 1 := by
  intro σ tr wh C
  refine ⟨sI σ z 12 1, ?_, C.r 1 (by decide), fg_c 1⟩
  simp only [f_X8_fits_13, f_X8_fits_0, f_X8_fits, C.1.zt, C.1.told, hP, ref_1 C.1.zt, osb, b2i_t, b2i_f, i10, i00, if_true, if_false, Bool.not_true, Bool.not_false, Bool.true_and, Bool.false_and, Bool.and_true, Bool.and_false]
theorem fits_r0 (hP : P.1 = false) : Qr M P S I (fun σ => f_X10_fits M σ) (-1) 1 := by
  intro σ tr wh R
  have R1 := R.1.s0
  refine ⟨sI (sI (sI σ M 0 0) M 1 1) M 2 (-1), ?_, R1.end 1, RS.end (RS.s0 (by omega)) 1⟩
  simp only [f_X10_fits_0, f_X10_fits, R.1.t, pI_k R.1.t, R1.gq.1 hP, ocn, refd_k R1.t, osb, b2i_t, b2i_f, i10, i00, if_true, if_false, Bool.not_true, Bool.not_false, Bool.true_and, Bool.false_and, Bool.and_true, Bool.and_false]
theorem fits_c1 (A : AW P S I B) (hP : P.1 = true) : Qc z p d P S I (fun σ => f_X8_fits z σ) (nI (cntN (fiE P.2.1 P.2.2.2.1 P.2.2.2.2.1) (2 ^ P.2.2.2.1))) 0 := by
  intro σ tr wh C
  have C1 := C.r 0 (by decide)
  refine ⟨sI σ z 12 0, ?_, C1, fg_c 0⟩
  simp only [f_X8_fits_13, f_X8_fits_0, f_X8_fits, C.1.zt, C.1.told, hP, ref_0 C.1.zt, C1.1.fs, hm_c (C1.1.ff hP), osb, b2i_t, b2i_f, i10, i00, if_true, if_false, Bool.not_true, Bool.not_false, Bool.true_and, Bool.false_and, Bool.and_true, Bool.and_false]
theorem fits_r1 (A : AW P S I B) (hP : P.1 = true) : Qr M P S I (fun σ => f_X10_fits M σ) (nI (cntN (fiE P.2.1 P.2.2.2.1 P.2.2.2.2.1) (2 ^ P.2.2.2.1))) 0 := by
  intro σ tr wh R
  have R1 := R.1.s0
  obtain ⟨k', e⟩ := R1.gq.2 hP
  obtain ⟨τ, t1, t2, t3, t4⟩ := R1.fit A hP (-1)
  refine ⟨sI (sI τ M 1 0) M 2 (-1), ?_, t3.end 0, RS.end ((RS.s0 (by omega)).trans t2) 0⟩
  simp only [f_X10_fits_0, f_X10_fits, R.1.t, pI_k R.1.t, e, oco, t1, gI_k t3.t, t4.1, good_k t3.t, osb, b2i_t, b2i_f, i10, i00, if_true, if_false, Bool.not_true, Bool.not_false, Bool.true_and, Bool.false_and, Bool.and_true, Bool.and_false]
theorem fits_a (A : AW P S I B) (C : CJ z p d P S I tr wh σ) (R : RJ (z + 195) P S I tr wh σ) (o1 : hT σ (z + 203) = 24) (o2 : hN σ (z + 203) = 1) : Alike z (fun σ => f_X8_fits z σ) (fun σ => f_X10_fits (z + 195) σ) B σ := by
  cases hP : P.1 with
  | false => exact alk_q A C R o1 o2 (fits_c0 hP) (fits_r0 hP)
  | true => exact alk_q A C R o1 o2 (fits_c1 A hP) (fits_r1 A hP)
theorem could_c0 (hP : P.1 = false) : Qc z p d P S I (fun σ => f_X8_could z σ) (-1) 1 := by
  intro σ tr wh C
  refine ⟨sI σ z 12 1, ?_, C.r 1 (by decide), fg_c 1⟩
  simp only [f_X8_could_13, f_X8_could_0, f_X8_could, C.1.zt, C.1.told, hP, ref_1 C.1.zt, osb, b2i_t, b2i_f, i10, i00, if_true, if_false, Bool.not_true, Bool.not_false, Bool.true_and, Bool.false_and, Bool.and_true, Bool.and_false]
theorem could_r0 (hP : P.1 = false) : Qr M P S I (fun σ => f_X10_could M σ) (-1) 1 := by
  intro σ tr wh R
  have R1 := R.1.s0
  refine ⟨sI (sI (sI σ M 0 0) M 1 1) M 2 (-1), ?_, R1.end 1, RS.end (RS.s0 (by omega)) 1⟩
  simp only [f_X10_could_0, f_X10_could, R.1.t, pI_k R.1.t, R1.gq.1 hP, ocn, refd_k R1.t, osb, b2i_t, b2i_f, i10, i00, if_true, if_false, Bool.not_true, Bool.not_false, Bool.true_and, Bool.false_and, Bool.and_true, Bool.and_false]
theorem could_c1 (A : AW P S I B) (hP : P.1 = true) : Qc z p d P S I (fun σ => f_X8_could z σ) (orE (fiE P.2.1 P.2.2.2.1 P.2.2.2.2.1) (2 ^ P.2.2.2.1)) 0 := by
  intro σ tr wh C
  have C1 := C.r 0 (by decide)
  refine ⟨sI σ z 12 0, ?_, C1, fg_c 0⟩
  simp only [f_X8_could_13, f_X8_could_0, f_X8_could, C.1.zt, C.1.told, hP, ref_0 C.1.zt, C1.1.fs, some_c (C1.1.ff hP), osb, b2i_t, b2i_f, i10, i00, if_true, if_false, Bool.not_true, Bool.not_false, Bool.true_and, Bool.false_and, Bool.and_true, Bool.and_false]
theorem could_r1 (A : AW P S I B) (hP : P.1 = true) : Qr M P S I (fun σ => f_X10_could M σ) (orE (fiE P.2.1 P.2.2.2.1 P.2.2.2.2.1) (2 ^ P.2.2.2.1)) 0 := by
  intro σ tr wh R
  have R1 := R.1.s0
  obtain ⟨k', e⟩ := R1.gq.2 hP
  obtain ⟨τ, t1, t2, t3, t4⟩ := R1.fit A hP (-1)
  refine ⟨sI (sI τ M 1 0) M 2 (-1), ?_, t3.end 0, RS.end ((RS.s0 (by omega)).trans t2) 0⟩
  simp only [f_X10_could_0, f_X10_could, R.1.t, pI_k R.1.t, e, oco, t1, gI_k t3.t, t4.2.1, good_k t3.t, osb, b2i_t, b2i_f, i10, i00, if_true, if_false, Bool.not_true, Bool.not_false, Bool.true_and, Bool.false_and, Bool.and_true, Bool.and_false]
theorem could_a (A : AW P S I B) (C : CJ z p d P S I tr wh σ) (R : RJ (z + 195) P S I tr wh σ) (o1 : hT σ (z + 203) = 24) (o2 : hN σ (z + 203) = 1) : Alike z (fun σ => f_X8_could z σ) (fun σ => f_X10_could (z + 195) σ) B σ := by
  cases hP : P.1 with
  | false => exact alk_q A C R o1 o2 (could_c0 hP) (could_r0 hP)
  | true => exact alk_q A C R o1 o2 (could_c1 A hP) (could_r1 A hP)
theorem surely_c0 (hP : P.1 = false) : Qc z p d P S I (fun σ => f_X8_surely z σ) (-1) 1 := by
  intro σ tr wh C
  refine ⟨sI σ z 12 1, ?_, C.r 1 (by decide), fg_c 1⟩
  simp only [f_X8_surely_13, f_X8_surely_0, f_X8_surely, C.1.zt, C.1.told, hP, ref_1 C.1.zt, osb, b2i_t, b2i_f, i10, i00, if_true, if_false, Bool.not_true, Bool.not_false, Bool.true_and, Bool.false_and, Bool.and_true, Bool.and_false]
theorem surely_r0 (hP : P.1 = false) : Qr M P S I (fun σ => f_X10_surely M σ) (-1) 1 := by
  intro σ tr wh R
  have R1 := R.1.s0
  refine ⟨sI (sI (sI σ M 0 0) M 1 1) M 2 (-1), ?_, R1.end 1, RS.end (RS.s0 (by omega)) 1⟩
  simp only [f_X10_surely_0, f_X10_surely, R.1.t, pI_k R.1.t, R1.gq.1 hP, ocn, refd_k R1.t, osb, b2i_t, b2i_f, i10, i00, if_true, if_false, Bool.not_true, Bool.not_false, Bool.true_and, Bool.false_and, Bool.and_true, Bool.and_false]
theorem surely_c1 (A : AW P S I B) (hP : P.1 = true) : Qc z p d P S I (fun σ => f_X8_surely z σ) (alE (fiE P.2.1 P.2.2.2.1 P.2.2.2.2.1) P.2.2.2.1) 0 := by
  intro σ tr wh C
  have C1 := C.r 0 (by decide)
  refine ⟨sI σ z 12 0, ?_, C1, fg_c 0⟩
  simp only [f_X8_surely_13, f_X8_surely_0, f_X8_surely, C.1.zt, C.1.told, hP, ref_0 C.1.zt, C1.1.fs, all_c (C1.1.ff hP), osb, b2i_t, b2i_f, i10, i00, if_true, if_false, Bool.not_true, Bool.not_false, Bool.true_and, Bool.false_and, Bool.and_true, Bool.and_false]
theorem surely_r1 (A : AW P S I B) (hP : P.1 = true) : Qr M P S I (fun σ => f_X10_surely M σ) (alE (fiE P.2.1 P.2.2.2.1 P.2.2.2.2.1) P.2.2.2.1) 0 := by
  intro σ tr wh R
  have R1 := R.1.s0
  obtain ⟨k', e⟩ := R1.gq.2 hP
  obtain ⟨τ, t1, t2, t3, t4⟩ := R1.fit A hP (-1)
  refine ⟨sI (sI τ M 1 0) M 2 (-1), ?_, t3.end 0, RS.end ((RS.s0 (by omega)).trans t2) 0⟩
  simp only [f_X10_surely_0, f_X10_surely, R.1.t, pI_k R.1.t, e, oco, t1, gI_k t3.t, t4.2.2.1, good_k t3.t, osb, b2i_t, b2i_f, i10, i00, if_true, if_false, Bool.not_true, Bool.not_false, Bool.true_and, Bool.false_and, Bool.and_true, Bool.and_false]
theorem surely_a (A : AW P S I B) (C : CJ z p d P S I tr wh σ) (R : RJ (z + 195) P S I tr wh σ) (o1 : hT σ (z + 203) = 24) (o2 : hN σ (z + 203) = 1) : Alike z (fun σ => f_X8_surely z σ) (fun σ => f_X10_surely (z + 195) σ) B σ := by
  cases hP : P.1 with
  | false => exact alk_q A C R o1 o2 (surely_c0 hP) (surely_r0 hP)
  | true => exact alk_q A C R o1 o2 (surely_c1 A hP) (surely_r1 A hP)
theorem ask_c0 (hP : P.1 = false) : Qc z p d P S I (fun σ => f_X8_ask z σ) (-1) 1 := by
  intro σ tr wh C
  refine ⟨sI σ z 12 1, ?_, C.r 1 (by decide), fg_c 1⟩
  simp only [f_X8_ask_13, f_X8_ask_0, f_X8_ask, C.1.zt, C.1.told, hP, ref_1 C.1.zt, osb, b2i_t, b2i_f, i10, i00, if_true, if_false, Bool.not_true, Bool.not_false, Bool.true_and, Bool.false_and, Bool.and_true, Bool.and_false]
theorem ask_r0 (hP : P.1 = false) : Qr M P S I (fun σ => f_X10_ask M σ) (-1) 1 := by
  intro σ tr wh R
  have R1 := R.1.s0
  refine ⟨sI (sI (sI σ M 0 0) M 1 1) M 2 (-1), ?_, R1.end 1, RS.end (RS.s0 (by omega)) 1⟩
  simp only [f_X10_ask_28, f_X10_ask_0, f_X10_ask, R.1.t, pI_k R.1.t, R1.gq.1 hP, ocn, refd_k R1.t, osb, b2i_t, b2i_f, i10, i00, if_true, if_false, Bool.not_true, Bool.not_false, Bool.true_and, Bool.false_and, Bool.and_true, Bool.and_false]
theorem ask_c1 (A : AW P S I B) (hP : P.1 = true) : Qc z p d P S I (fun σ => f_X8_ask z σ) (o2m (bestE (fiE P.2.1 P.2.2.2.1 P.2.2.2.2.1) P.2.2.2.1)) 0 := by
  intro σ tr wh C
  have C1 := C.r 0 (by decide)
  refine ⟨sI σ z 12 0, ?_, C1, fg_c 0⟩
  simp only [f_X8_ask_13, f_X8_ask_0, f_X8_ask, C.1.zt, C.1.told, hP, ref_0 C.1.zt, C1.1.fs, best_c (C1.1.ff hP), osb, b2i_t, b2i_f, i10, i00, if_true, if_false, Bool.not_true, Bool.not_false, Bool.true_and, Bool.false_and, Bool.and_true, Bool.and_false]
theorem ask_r1 (A : AW P S I B) (hP : P.1 = true) : Qr M P S I (fun σ => f_X10_ask M σ) (o2m (bestE (fiE P.2.1 P.2.2.2.1 P.2.2.2.2.1) P.2.2.2.1)) 0 := by
  intro σ tr wh R
  have R1 := R.1.s0
  obtain ⟨k', e⟩ := R1.gq.2 hP
  obtain ⟨τ, t1, t2, t3, t4⟩ := R1.asks A hP
  refine ⟨sI (sI τ M 1 0) M 2 (-1), ?_, t3.end 0, RS.end ((RS.s0 (by omega)).trans t2) 0⟩
  simp only [f_X10_ask_28, f_X10_ask_0, f_X10_ask, R.1.t, pI_k R.1.t, e, oco, t1, good_k t3.t, osb, b2i_t, b2i_f, i10, i00, if_true, if_false, Bool.not_true, Bool.not_false, Bool.true_and, Bool.false_and, Bool.and_true, Bool.and_false]
theorem ask_a (A : AW P S I B) (C : CJ z p d P S I tr wh σ) (R : RJ (z + 195) P S I tr wh σ) (o1 : hT σ (z + 203) = 24) (o2 : hN σ (z + 203) = 1) : Alike z (fun σ => f_X8_ask z σ) (fun σ => f_X10_ask (z + 195) σ) B σ := by
  cases hP : P.1 with
  | false => exact alk_q A C R o1 o2 (ask_c0 hP) (ask_r0 hP)
  | true => exact alk_q A C R o1 o2 (ask_c1 A hP) (ask_r1 A hP)
theorem askLeaves_c0 (hP : P.1 = false) : Qc z p d P S I (fun σ => f_X8_askLeaves z σ) (-1) 1 := by
  intro σ tr wh C
  refine ⟨sI σ z 12 1, ?_, C.r 1 (by decide), fg_c 1⟩
  simp only [f_X8_askLeaves_47, f_X8_askLeaves_13, f_X8_askLeaves_0, f_X8_askLeaves, C.1.zt, C.1.told, hP, ref_1 C.1.zt, osb, b2i_t, b2i_f, i10, i00, if_true, if_false, Bool.not_true, Bool.not_false, Bool.true_and, Bool.false_and, Bool.and_true, Bool.and_false]
theorem askLeaves_r0 (hP : P.1 = false) : Qr M P S I (fun σ => f_X10_askLeaves M σ) (-1) 1 := by
  intro σ tr wh R
  have R1 := R.1.s0
  refine ⟨sI (sI (sI σ M 0 0) M 1 1) M 2 (-1), ?_, R1.end 1, RS.end (RS.s0 (by omega)) 1⟩
  simp only [f_X10_askLeaves_0, f_X10_askLeaves, R.1.t, pI_k R.1.t, R1.gq.1 hP, ocn, refd_k R1.t, osb, b2i_t, b2i_f, i10, i00, if_true, if_false, Bool.not_true, Bool.not_false, Bool.true_and, Bool.false_and, Bool.and_true, Bool.and_false]
theorem askLeaves_c1 (A : AW P S I B) (hP : P.1 = true) : Qc z p d P S I (fun σ => f_X8_askLeaves z σ) (alI (lfE (fiE P.2.1 P.2.2.2.1 P.2.2.2.2.1) (2 ^ P.2.2.2.1)) (bestE (fiE P.2.1 P.2.2.2.1 P.2.2.2.2.1) P.2.2.2.1)) 0 := by
  intro σ tr wh C
  have C1 := C.r 0 (by decide)
  refine ⟨sI σ z 12 0, ?_, C1, fg_c 0⟩
  have FF := C1.1.ff hP
  have h4 := FF.2.2.2
  have hb : ∀ b, bestE (fiE P.2.1 P.2.2.2.1 P.2.2.2.2.1) P.2.2.2.1 = some b → b < P.2.2.2.1 := fun b hb => by
    unfold bestE at hb
    split at hb
    · cases hb
    · exact bqE_lt hb
  simp only [f_X8_askLeaves_47, f_X8_askLeaves_13, f_X8_askLeaves_0, f_X8_askLeaves, C.1.zt, C.1.told, hP, ref_0 C.1.zt, C1.1.fs, best_c FF, osb, b2i_t, b2i_f, i10, i00, if_true, if_false, Bool.not_true, Bool.not_false, Bool.true_and, Bool.false_and, Bool.and_true, Bool.and_false]
  cases hq : bestE (fiE P.2.1 P.2.2.2.1 P.2.2.2.2.1) P.2.2.2.1 with
  | none => rw [if_neg (by decide)]; rfl
  | some b =>
    have := hb b hq
    rw [show o2m (some b) = nI b from rfl, if_pos (nI_pos' (by omega)), left_c FF (by omega), osb]
    rfl
theorem askLeaves_r1 (A : AW P S I B) (hP : P.1 = true) : Qr M P S I (fun σ => f_X10_askLeaves M σ) (alI (lfE (fiE P.2.1 P.2.2.2.1 P.2.2.2.2.1) (2 ^ P.2.2.2.1)) (bestE (fiE P.2.1 P.2.2.2.1 P.2.2.2.2.1) P.2.2.2.1)) 0 := by
  intro σ tr wh R
  have R1 := R.1.s0
  obtain ⟨k', e⟩ := R1.gq.2 hP
  obtain ⟨τ, t1, t2, t3, t4⟩ := R1.asks A hP
  refine ⟨sI (sI τ M 1 0) M 2 (-1), ?_, t3.end 0, RS.end ((RS.s0 (by omega)).trans t2) 0⟩
  simp only [f_X10_askLeaves_0, f_X10_askLeaves, R.1.t, pI_k R.1.t, e, oco, t1, gI_k t3.t, t4, good_k t3.t, osb, b2i_t, b2i_f, i10, i00, if_true, if_false, Bool.not_true, Bool.not_false, Bool.true_and, Bool.false_and, Bool.and_true, Bool.and_false]
theorem askLeaves_a (A : AW P S I B) (C : CJ z p d P S I tr wh σ) (R : RJ (z + 195) P S I tr wh σ) (o1 : hT σ (z + 203) = 24) (o2 : hN σ (z + 203) = 1) : Alike z (fun σ => f_X8_askLeaves z σ) (fun σ => f_X10_askLeaves (z + 195) σ) B σ := by
  cases hP : P.1 with
  | false => exact alk_q A C R o1 o2 (askLeaves_c0 hP) (askLeaves_r0 hP)
  | true => exact alk_q A C R o1 o2 (askLeaves_c1 A hP) (askLeaves_r1 A hP)
theorem fx_none {f : Nat → Bool} {i : Int32} {Q : Nat} (hQ : Q ≤ 1000) (h : i < 0 ∨ nI (cntN f Q) ≤ i) : fxE f i Q = none := by
  cases hq : fxE f i Q with
  | none => rfl
  | some j =>
    obtain ⟨h1, h2, -⟩ := fstN_some hq
    simp only [Bool.and_eq_true, decide_eq_true_eq] at h2
    have hl := cntN_lt h2.1 h1
    have hq2 := cntN_le (p := f) Q
    rw [← h2.2] at h
    rcases h with h | h
    · exact absurd h (nI_pos (by omega))
    · exact absurd h (nI_ge hl (by omega))
theorem fx_some {f : Nat → Bool} : ∀ {Q j : Nat}, j < cntN f Q → ∃ t, fxE f (nI j) Q = some t
  | 0, j, h => by simp [cntN] at h
  | Q + 1, j, h => by
    by_cases hc : j < cntN f Q
    · obtain ⟨t, ht⟩ := fx_some hc
      refine ⟨t, ?_⟩
      unfold fxE at ht ⊢
      simp only [fstN, ht]
    · simp only [cntN] at h
      have hf : f Q = true := by
        cases hq : f Q with
        | true => rfl
        | false => rw [hq] at h; simp at h; omega
      rw [hf] at h
      simp at h
      have e : cntN f Q = j := by omega
      have hp : (f Q && decide (nI (cntN f Q) = nI j)) = true := by rw [hf, e]; simp
      unfold fxE
      simp only [fstN, hp, if_true]
      cases fstN (fun m => f m && decide (nI (cntN f m) = nI j)) Q with
      | none => exact ⟨Q, rfl⟩
      | some t => exact ⟨t, rfl⟩
theorem fitAt_c0 (A : AW P S I B) {i : Int32} (h : P.1 = false ∨ (i < 0 ∨ nI (cntN (fiE P.2.1 P.2.2.2.1 P.2.2.2.2.1) (2 ^ P.2.2.2.1)) ≤ i)) : Qc z p d P S I (fun σ => f_X8_fitAt z i σ) (-1) 1 := by
  intro σ tr wh C
  refine ⟨sI σ z 12 1, ?_, C.r 1 (by decide), fg_c 1⟩
  cases hP : P.1 with
  | false => simp only [f_X8_fitAt_28, f_X8_fitAt_23, f_X8_fitAt_0, f_X8_fitAt, C.1.zt, C.1.told, hP, ref_1 C.1.zt, osb, b2i_t, b2i_f, i10, i00, if_true, if_false, Bool.not_true, Bool.not_false, Bool.true_and, Bool.false_and, Bool.and_true, Bool.and_false]
  | true =>
    by_cases h0 : i < 0
    · simp only [f_X8_fitAt_28, f_X8_fitAt_23, f_X8_fitAt_0, f_X8_fitAt, C.1.zt, C.1.told, hP, h0, ref_1 C.1.zt, osb, b2i_t, b2i_f, i10, i00, if_true, if_false, Bool.not_true, Bool.not_false, Bool.true_and, Bool.false_and, Bool.and_true, Bool.and_false]
    · have h1 : ¬ i < nI (cntN (fiE P.2.1 P.2.2.2.1 P.2.2.2.2.1) (2 ^ P.2.2.2.1)) := by
        rcases h with h | h | h
        · rw [hP] at h; cases h
        · exact absurd h h0
        · exact Int32.not_lt.mpr h
      simp only [f_X8_fitAt_28, f_X8_fitAt_23, f_X8_fitAt_0, f_X8_fitAt, C.1.zt, C.1.told, hP, h0, C.1.fs, hm_c (C.1.ff hP), h1, ref_1 C.1.zt, osb, b2i_t, b2i_f, i10, i00, if_true, if_false, Bool.not_true, Bool.not_false, Bool.true_and, Bool.false_and, Bool.and_true, Bool.and_false]
theorem fitAt_r0 (A : AW P S I B) {i : Int32} (h : P.1 = false ∨ (i < 0 ∨ nI (cntN (fiE P.2.1 P.2.2.2.1 P.2.2.2.2.1) (2 ^ P.2.2.2.1)) ≤ i)) : Qr M P S I (fun σ => f_X10_fitAt M i σ) (-1) 1 := by
  intro σ tr wh R
  have R1 := R.1.s0
  cases hP : P.1 with
  | false =>
    refine ⟨sI (sI (sI σ M 0 0) M 1 1) M 2 (-1), ?_, R1.end 1, RS.end (RS.s0 (by omega)) 1⟩
    simp only [f_X10_fitAt_16, f_X10_fitAt_46, f_X10_fitAt_0, f_X10_fitAt, R.1.t, pI_k R.1.t, R1.gq.1 hP, ocn, refd_k R1.t, osb, b2i_t, b2i_f, i10, i00, if_true, if_false, Bool.not_true, Bool.not_false, Bool.true_and, Bool.false_and, Bool.and_true, Bool.and_false]
  | true =>
    obtain ⟨k', e⟩ := R1.gq.2 hP
    have h16 := pw16 (A.2.1 hP).2.1.1
    by_cases h0 : 0 ≤ i
    · obtain ⟨τ, t1, t2, t3, t4⟩ := R1.fit A hP i
      have hx := fx_none (f := (fiE P.2.1 P.2.2.2.1 P.2.2.2.2.1)) (i := i) (Q := 2 ^ P.2.2.2.1) (by omega) (h.resolve_left (by rw [hP]; decide))
      rw [hx] at t1
      have t1' : f_X10_fitting M i (sI σ M 0 0) = some (-1, τ) := t1
      refine ⟨sI (sI τ M 1 1) M 2 (-1), ?_, t3.end 1, RS.end ((RS.s0 (by omega)).trans t2) 1⟩
      simp only [f_X10_fitAt_16, f_X10_fitAt_46, f_X10_fitAt_0, f_X10_fitAt, R.1.t, pI_k R.1.t, e, oco, h0, t1', refd_k t3.t, osb, b2i_t, b2i_f, i10, i00, if_true, if_false, Bool.not_true, Bool.not_false, Bool.true_and, Bool.false_and, Bool.and_true, Bool.and_false]
    · refine ⟨sI (sI (sI σ M 0 0) M 1 1) M 2 (-1), ?_, R1.end 1, RS.end (RS.s0 (by omega)) 1⟩
      simp only [f_X10_fitAt_16, f_X10_fitAt_46, f_X10_fitAt_0, f_X10_fitAt, R.1.t, pI_k R.1.t, e, oco, h0, refd_k R1.t, osb, b2i_t, b2i_f, i10, i00, if_true, if_false, Bool.not_true, Bool.not_false, Bool.true_and, Bool.false_and, Bool.and_true, Bool.and_false]
theorem fitAt_c1 (A : AW P S I B) (hP : P.1 = true) {j : Nat} (h : j < cntN (fiE P.2.1 P.2.2.2.1 P.2.2.2.2.1) (2 ^ P.2.2.2.1)) : Qc z p d P S I (fun σ => f_X8_fitAt z (nI j) σ) (o2i (fxE (fiE P.2.1 P.2.2.2.1 P.2.2.2.2.1) (nI j) (2 ^ P.2.2.2.1))) 0 := by
  intro σ tr wh C
  have C1 := C.r 0 (by decide)
  have h16 := pw16 (A.2.1 hP).2.1.1
  have hc := cntN_le (p := (fiE P.2.1 P.2.2.2.1 P.2.2.2.2.1)) (2 ^ P.2.2.2.1)
  refine ⟨sI σ z 12 0, ?_, C1, fg_c 0⟩
  simp only [f_X8_fitAt_28, f_X8_fitAt_23, f_X8_fitAt_0, f_X8_fitAt, C.1.zt, C.1.told, hP, nI_pos (show j < 2 ^ 31 by omega), C.1.fs, hm_c (C.1.ff hP), nI_lt h (show cntN (fiE P.2.1 P.2.2.2.1 P.2.2.2.2.1) (2 ^ P.2.2.2.1) < 2 ^ 31 by omega), ref_0 C.1.zt, C1.1.fs, nth_c (C1.1.ff hP) (show j ≤ 1000 by omega), osb, b2i_t, b2i_f, i10, i00, if_true, if_false, Bool.not_true, Bool.not_false, Bool.true_and, Bool.false_and, Bool.and_true, Bool.and_false]
theorem fitAt_r1 (A : AW P S I B) (hP : P.1 = true) {j : Nat} (h : j < cntN (fiE P.2.1 P.2.2.2.1 P.2.2.2.2.1) (2 ^ P.2.2.2.1)) : Qr M P S I (fun σ => f_X10_fitAt M (nI j) σ) (o2i (fxE (fiE P.2.1 P.2.2.2.1 P.2.2.2.2.1) (nI j) (2 ^ P.2.2.2.1))) 0 := by
  intro σ tr wh R
  have R1 := R.1.s0
  have h16 := pw16 (A.2.1 hP).2.1.1
  have hc := cntN_le (p := (fiE P.2.1 P.2.2.2.1 P.2.2.2.2.1)) (2 ^ P.2.2.2.1)
  obtain ⟨k', e⟩ := R1.gq.2 hP
  obtain ⟨τ, t1, t2, t3, t4⟩ := R1.fit A hP (nI j)
  obtain ⟨t, ht⟩ := fx_some h
  have htl := (fstN_some ht).1
  have hne : ¬ o2i (fxE (fiE P.2.1 P.2.2.2.1 P.2.2.2.2.1) (nI j) (2 ^ P.2.2.2.1)) = -1 := by rw [ht]; exact nI_nm1 (by omega)
  refine ⟨sI (sI τ M 1 0) M 2 (-1), ?_, t3.end 0, RS.end ((RS.s0 (by omega)).trans t2) 0⟩
  simp only [f_X10_fitAt_16, f_X10_fitAt_46, f_X10_fitAt_0, f_X10_fitAt, R.1.t, pI_k R.1.t, e, oco, nI_pos' (show j < 2 ^ 31 by omega), t1, hne, good_k t3.t, osb, b2i_t, b2i_f, i10, i00, if_true, if_false, Bool.not_true, Bool.not_false, Bool.true_and, Bool.false_and, Bool.and_true, Bool.and_false]
theorem fitAt_a (A : AW P S I B) (C : CJ z p d P S I tr wh σ) (R : RJ (z + 195) P S I tr wh σ) (o1 : hT σ (z + 203) = 24) (o2 : hN σ (z + 203) = 1) (i : Int32) : Alike z (fun σ => f_X8_fitAt z i σ) (fun σ => f_X10_fitAt (z + 195) i σ) B σ := by
  cases hP : P.1 with
  | false => exact alk_q A C R o1 o2 (fitAt_c0 A (Or.inl hP)) (fitAt_r0 A (Or.inl hP))
  | true =>
    have h16 := pw16 (A.2.1 hP).2.1.1
    have hc := cntN_le (p := (fiE P.2.1 P.2.2.2.1 P.2.2.2.2.1)) (2 ^ P.2.2.2.1)
    rcases pk_ix i (n := cntN (fiE P.2.1 P.2.2.2.1 P.2.2.2.2.1) (2 ^ P.2.2.2.1)) (by omega) with q | q | ⟨j, hj, e⟩
    · exact alk_q A C R o1 o2 (fitAt_c0 A (Or.inr (Or.inl q))) (fitAt_r0 A (Or.inr (Or.inl q)))
    · exact alk_q A C R o1 o2 (fitAt_c0 A (Or.inr (Or.inr q))) (fitAt_r0 A (Or.inr (Or.inr q)))
    · subst e; exact alk_q A C R o1 o2 (fitAt_c1 A hP hj) (fitAt_r1 A hP hj)
end Qf
