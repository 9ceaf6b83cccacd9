/-! QUESTIONS: sizes, what is told of a refusal -/
section Qt
variable {σ τ υ : St} {z p d M k : Nat} {P : PT} {S : SX} {I : IT} {tr wh v w : Int32} {B : Nat} {c : Nat → Nat → Int32} {m : Nat} {x : Nat → Int32} {n nc : Nat}
theorem CB.rd (C : CB z p d P S I σ) : gR 9 5 z σ = some (z + 24) := gR_k C.1.1 C.1.2.2.2.2.1
theorem RJ.s0 (R : RJ M P S I tr wh σ) : RJ M P S I tr wh (sI σ M 0 0) := ⟨R.1.s0, by rw [hI_sIn (Or.inr (by omega))]; exact R.2.1, by rw [hI_sIn (Or.inr (by omega))]; exact R.2.2⟩
theorem fg_r : Fg (inR M) σ (sI σ M 0 v) := Fg.sI ⟨by omega, by omega⟩
theorem fault_a (A : AW P S I B) (C : CJ z p d P S I tr wh σ) (R : RJ (z + 195) P S I tr wh σ) (o1 : hT σ (z + 203) = 24) (o2 : hN σ (z + 203) = 1) : Alike z (fun σ => f_X8_fault z σ) (fun σ => f_X10_fault (z + 195) σ) B σ := by
  refine alk_of (v := I.2.2) (A.up (by omega)) R o1 o2 ⟨σ, ?_, C, Fg.refl⟩ (fun τ Rτ => ⟨sI τ (z + 195) 0 0, ?_, Rτ.s0, fg_r⟩)
  · simp only [f_X8_fault, f_X8_fault_0, C.1.zt, C.1.rd, gI_k C.1.2.1.1, C.1.2.2.2.2.1.1.2.2.2, osb, b2i_t, b2i_f, i10, i00, if_true, if_false, Bool.not_true, Bool.not_false, Bool.true_and, Bool.false_and, Bool.and_true, Bool.and_false]
  · simp only [f_X10_fault, f_X10_fault_0, Rτ.1.t, pI_k Rτ.1.t, gI_k Rτ.s0.1.t, Rτ.s0.1.2.1.2.1, osb, b2i_t, b2i_f, i10, i00, if_true, if_false, Bool.not_true, Bool.not_false, Bool.true_and, Bool.false_and, Bool.and_true, Bool.and_false]
theorem trouble_a (A : AW P S I B) (C : CJ z p d P S I tr wh σ) (R : RJ (z + 195) P S I tr wh σ) (o1 : hT σ (z + 203) = 24) (o2 : hN σ (z + 203) = 1) : Alike z (fun σ => f_X8_trouble z σ) (fun σ => f_X10_trouble (z + 195) σ) B σ := by
  refine alk_of (v := tr) (A.up (by omega)) R o1 o2 ⟨σ, ?_, C, Fg.refl⟩ (fun τ Rτ => ⟨sI τ (z + 195) 0 0, ?_, Rτ.s0, fg_r⟩)
  · simp only [f_X8_trouble, f_X8_trouble_0, C.1.zt, gI_k C.1.zt, C.2.1, osb, b2i_t, b2i_f, i10, i00, if_true, if_false, Bool.not_true, Bool.not_false, Bool.true_and, Bool.false_and, Bool.and_true, Bool.and_false]
  · simp only [f_X10_trouble, f_X10_trouble_0, Rτ.1.t, pI_k Rτ.1.t, gI_k Rτ.s0.1.t, Rτ.s0.2.1, osb, b2i_t, b2i_f, i10, i00, if_true, if_false, Bool.not_true, Bool.not_false, Bool.true_and, Bool.false_and, Bool.and_true, Bool.and_false]
theorem where_a (A : AW P S I B) (C : CJ z p d P S I tr wh σ) (R : RJ (z + 195) P S I tr wh σ) (o1 : hT σ (z + 203) = 24) (o2 : hN σ (z + 203) = 1) : Alike z (fun σ => f_X8_where z σ) (fun σ => f_X10_where (z + 195) σ) B σ := by
  refine alk_of (v := wh) (A.up (by omega)) R o1 o2 ⟨σ, ?_, C, Fg.refl⟩ (fun τ Rτ => ⟨sI τ (z + 195) 0 0, ?_, Rτ.s0, fg_r⟩)
  · have h := C.2.2
    simp only [f_X8_where, f_X8_where_0, f_X8_where_19, C.1.zt, gI_k C.1.zt, C.2.1, C.1.rd, gI_k C.1.2.1.1, osb, b2i_t, b2i_f, i10, i00, if_true, if_false, Bool.not_true, Bool.not_false, Bool.true_and, Bool.false_and, Bool.and_true, Bool.and_false]
    by_cases h4 : tr = 4
    · rw [if_pos h4] at h ⊢; rw [h]
    · rw [if_neg h4] at h ⊢; rw [h]
  · simp only [f_X10_where, f_X10_where_0, Rτ.1.t, pI_k Rτ.1.t, gI_k Rτ.s0.1.t, Rτ.s0.2.2, osb, b2i_t, b2i_f, i10, i00, if_true, if_false, Bool.not_true, Bool.not_false, Bool.true_and, Bool.false_and, Bool.and_true, Bool.and_false]
def szE (P : PT) (S : SX) (q : Nat) : Int32 := if P.1 = false then 0 else if q < 8 then P.2.1 0 q else if q = 8 then S.1 37 else if q = 9 then nI (cntN (fun i => hasB S.1 i 8) (nN S.1)) else if q = 10 then S.1 36 else if q = 11 then nI S.2.1 else nI S.2.2.2.1
theorem sz_out {w : Int32} (h : w < 0 ∨ 13 < w) (C : CJ z p d P S I tr wh σ) : f_X8_size z w σ = some (-1, σ) := by
  by_cases h0 : w < 0
  · simp only [f_X8_size, f_X8_size_0, f_X8_size_10, C.1.zt, h0, osb, b2i_t, b2i_f, i10, i00, if_true, if_false, Bool.not_true, Bool.not_false, Bool.true_and, Bool.false_and, Bool.and_true, Bool.and_false]
  · have h1 : ¬ w ≤ 13 := Int32.not_le.mpr (h.resolve_left h0)
    simp only [f_X8_size, f_X8_size_0, f_X8_size_10, C.1.zt, h0, h1, osb, b2i_t, b2i_f, i10, i00, if_true, if_false, Bool.not_true, Bool.not_false, Bool.true_and, Bool.false_and, Bool.and_true, Bool.and_false]
theorem sz_outr {w : Int32} (h : w < 0 ∨ 13 < w) (R : RJ M P S I tr wh σ) : f_X10_size M w σ = some (-1, sI σ M 0 0) := by
  have h1 : ¬ w = 13 := fun e => by rw [e] at h; exact h.elim (by decide) (by decide)
  have h2 : w < 0 ∨ 12 < w := h.imp id (fun q => Int32.lt_trans (by decide) q)
  simp only [f_X10_size, f_X10_size_0, R.1.t, pI_k R.1.t, h1, in_k, decide_eq_true h2, osb, b2i_t, b2i_f, i10, i00, if_true, if_false, Bool.not_true, Bool.not_false, Bool.true_and, Bool.false_and, Bool.and_true, Bool.and_false]
theorem sz_13 (C : CJ z p d P S I tr wh σ) : f_X8_size z 13 σ = some (nI I.2.1, σ) := by
  simp only [f_X8_size, f_X8_size_0, C.1.zt, show ¬ (13 : Int32) < 0 by decide, show (13 : Int32) ≤ 13 by decide, gI_k C.1.zt, C.1.2.2.2.2.1.1.1, osb, b2i_t, b2i_f, i10, i00, if_true, if_false, Bool.not_true, Bool.not_false, Bool.true_and, Bool.false_and, Bool.and_true, Bool.and_false]
theorem sz_13r (R : RJ M P S I tr wh σ) : f_X10_size M 13 σ = some (nI I.2.1, sI σ M 0 0) := by
  simp only [f_X10_size, f_X10_size_0, R.1.t, pI_k R.1.t, gI_k R.s0.1.t, R.s0.1.2.1.1, osb, b2i_t, b2i_f, i10, i00, if_true, if_false, Bool.not_true, Bool.not_false, Bool.true_and, Bool.false_and, Bool.and_true, Bool.and_false]
theorem sz_c (A : AW P S I B) (C : CJ z p d P S I tr wh σ) {q : Nat} (hq : q < 13) : f_X8_size z (nI q) σ = some (szE P S q, σ) := by
  have h13 : ¬ nI q = 13 := fun e => by have := (nI_eq (a := q) (b := 13) (by omega) (by omega)).mp e; omega
  unfold szE
  cases hP : P.1 with
  | false =>
    simp only [f_X8_size, f_X8_size_0, C.1.zt, nI_pos (show q < 2 ^ 31 by omega), show nI q ≤ 13 from nI_le (b := 13) (by omega) (by omega), h13, C.1.told, hP, osb, b2i_t, b2i_f, i10, i00, if_true, if_false, Bool.not_true, Bool.not_false, Bool.true_and, Bool.false_and, Bool.and_true, Bool.and_false]
  | true =>
    have D := C.1.mq hP
    have K := A.rk hP
    have h12 := D.n12
    rw [if_neg (show ¬ (true = false) by decide)]
    simp only [f_X8_size, f_X8_size_0, f_X8_size_51, f_X8_sizeOfState, f_X8_sizeOfState_0, f_X8_sizeOfState_66, f_X8_sizeOfText, f_X8_sizeOfText_0, f_X8_sizeOfText_91, C.1.zt, nI_pos (show q < 2 ^ 31 by omega), show nI q ≤ 13 from nI_le (b := 13) (by omega) (by omega), h13, C.1.told, hP, C.1.pg, C.1.m, C.1.hs, D.g.1, D.g.2.1, D.g.2.2.1, D.g.2.2.2.1, D.g.2.2.2.2.1, D.g.2.2.2.2.2.1, D.g.2.2.2.2.2.2.1, D.g.2.2.2.2.2.2.2, D.f.2.2.2.2.2.2.2, D.f.2.2.2.2.2.1, gI_k C.1.2.2.1.1, C.1.2.2.2.2.1.2.1.1, C.1.2.2.2.2.1.2.1.2.1, gI_k D.t, bc_k, osb, b2i_t, b2i_f, i10, i00, if_true, if_false, Bool.not_true, Bool.not_false, Bool.true_and, Bool.false_and, Bool.and_true, Bool.and_false]
    have e4 := D.2.2.2.2.1.2.2.2.2.2.1
    have e10 := K.1.2.1.2.2.2.2.1
    have e9 : cntN (bt (hI σ (z + 30) 15)) 32 = cntN (fun i => hasB S.1 i 8) (nN S.1) := by
      rw [cntN_congr (q := fun i => decide (i < nN S.1) && hasB S.1 i 8) (fun i hi => (D.2.2.2.2.2.1.2.2.2.2 i hi).2.2.2.2), cntN_lim (by omega)]
    obtain rfl | rfl | rfl | rfl | rfl | rfl | rfl | rfl | rfl | rfl | rfl | rfl | rfl : q = 0 ∨ q = 1 ∨ q = 2 ∨ q = 3 ∨ q = 4 ∨ q = 5 ∨ q = 6 ∨ q = 7 ∨ q = 8 ∨ q = 9 ∨ q = 10 ∨ q = 11 ∨ q = 12 := by omega
    · rw [if_neg (show ¬ (8 : Int32) ≤ nI 0 by decide), if_pos (show nI 0 = 0 by decide), if_pos (show 0 < 8 by omega)]
      try rfl
    · rw [if_neg (show ¬ (8 : Int32) ≤ nI 1 by decide), if_neg (show ¬ nI 1 = 0 by decide), if_pos (show nI 1 = 1 by decide), if_pos (show 1 < 8 by omega)]
      try rfl
    · rw [if_neg (show ¬ (8 : Int32) ≤ nI 2 by decide), if_neg (show ¬ nI 2 = 0 by decide), if_neg (show ¬ nI 2 = 1 by decide), if_pos (show nI 2 = 2 by decide), if_pos (show 2 < 8 by omega)]
      try rfl
    · rw [if_neg (show ¬ (8 : Int32) ≤ nI 3 by decide), if_neg (show ¬ nI 3 = 0 by decide), if_neg (show ¬ nI 3 = 1 by decide), if_neg (show ¬ nI 3 = 2 by decide), if_pos (show nI 3 = 3 by decide), if_pos (show 3 < 8 by omega)]
      try rfl
    · rw [if_neg (show ¬ (8 : Int32) ≤ nI 4 by decide), if_neg (show ¬ nI 4 = 0 by decide), if_neg (show ¬ nI 4 = 1 by decide), if_neg (show ¬ nI 4 = 2 by decide), if_neg (show ¬ nI 4 = 3 by decide), if_pos (show nI 4 = 4 by decide), if_pos (show 4 < 8 by omega)]
      rcases e4 with h | h <;> rw [h] <;> rfl
    · rw [if_neg (show ¬ (8 : Int32) ≤ nI 5 by decide), if_neg (show ¬ nI 5 = 0 by decide), if_neg (show ¬ nI 5 = 1 by decide), if_neg (show ¬ nI 5 = 2 by decide), if_neg (show ¬ nI 5 = 3 by decide), if_neg (show ¬ nI 5 = 4 by decide), if_pos (show nI 5 = 5 by decide), if_pos (show 5 < 8 by omega)]
      try rfl
    · rw [if_neg (show ¬ (8 : Int32) ≤ nI 6 by decide), if_neg (show ¬ nI 6 = 0 by decide), if_neg (show ¬ nI 6 = 1 by decide), if_neg (show ¬ nI 6 = 2 by decide), if_neg (show ¬ nI 6 = 3 by decide), if_neg (show ¬ nI 6 = 4 by decide), if_neg (show ¬ nI 6 = 5 by decide), if_pos (show nI 6 = 6 by decide), if_pos (show 6 < 8 by omega)]
      try rfl
    · rw [if_neg (show ¬ (8 : Int32) ≤ nI 7 by decide), if_neg (show ¬ nI 7 = 0 by decide), if_neg (show ¬ nI 7 = 1 by decide), if_neg (show ¬ nI 7 = 2 by decide), if_neg (show ¬ nI 7 = 3 by decide), if_neg (show ¬ nI 7 = 4 by decide), if_neg (show ¬ nI 7 = 5 by decide), if_neg (show ¬ nI 7 = 6 by decide), if_pos (show 7 < 8 by omega)]
      try rfl
    · rw [if_pos (show (8 : Int32) ≤ nI 8 by decide), if_pos (show nI 8 = 8 by decide), if_neg (show ¬ 8 < 8 by omega), if_pos (show 8 = 8 from rfl)]
      try rfl
    · rw [if_pos (show (8 : Int32) ≤ nI 9 by decide), if_neg (show ¬ nI 9 = 8 by decide), if_pos (show nI 9 = 9 by decide), if_neg (show ¬ 9 < 8 by omega), if_neg (show ¬ 9 = 8 by omega), if_pos (show 9 = 9 from rfl)]
      rw [osb, e9]
    · rw [if_pos (show (8 : Int32) ≤ nI 10 by decide), if_neg (show ¬ nI 10 = 8 by decide), if_neg (show ¬ nI 10 = 9 by decide), if_pos (show nI 10 = 10 by decide), if_neg (show ¬ 10 < 8 by omega), if_neg (show ¬ 10 = 8 by omega), if_neg (show ¬ 10 = 9 by omega), if_pos (show 10 = 10 from rfl)]
      rcases e10 with h | h <;> rw [h] <;> rfl
    · rw [if_pos (show (8 : Int32) ≤ nI 11 by decide), if_neg (show ¬ nI 11 = 8 by decide), if_neg (show ¬ nI 11 = 9 by decide), if_neg (show ¬ nI 11 = 10 by decide), if_pos (show nI 11 = 11 by decide), if_neg (show ¬ 11 < 8 by omega), if_neg (show ¬ 11 = 8 by omega), if_neg (show ¬ 11 = 9 by omega), if_neg (show ¬ 11 = 10 by omega), if_pos (show 11 = 11 from rfl)]
      try rfl
    · rw [if_pos (show (8 : Int32) ≤ nI 12 by decide), if_neg (show ¬ nI 12 = 8 by decide), if_neg (show ¬ nI 12 = 9 by decide), if_neg (show ¬ nI 12 = 10 by decide), if_neg (show ¬ nI 12 = 11 by decide), if_neg (show ¬ 12 < 8 by omega), if_neg (show ¬ 12 = 8 by omega), if_neg (show ¬ 12 = 9 by omega), if_neg (show ¬ 12 = 10 by omega), if_neg (show ¬ 12 = 11 by omega)]
      try rfl
theorem sz_r (A : AW P S I B) (R : RJ M P S I tr wh σ) {q : Nat} (hq : q < 13) : ∃ υ, f_X10_size M (nI q) σ = some (szE P S q, υ) ∧ RJ M P S I tr wh υ ∧ Fg (inR M) σ υ := by
  have h13 : ¬ nI q = 13 := fun e => by have := (nI_eq (a := q) (b := 13) (by omega) (by omega)).mp e; omega
  have m2 : ¬ (nI q < 0 ∨ 12 < nI q) := fun h => h.elim (nI_pos (by omega)) (Int32.not_lt.mpr (nI_le (b := 12) (by omega) (by omega)))
  have R1 := R.s0
  unfold szE
  cases hP : P.1 with
  | false =>
    refine ⟨sI σ M 0 0, ?_, R1, fg_r⟩
    simp only [f_X10_size, f_X10_size_0, R.1.t, pI_k R.1.t, h13, in_k, decide_eq_false m2, R1.1.gq.1 hP, ocn, osb, b2i_t, b2i_f, i10, i00, if_true, if_false, Bool.not_true, Bool.not_false, Bool.true_and, Bool.false_and, Bool.and_true, Bool.and_false]
  | true =>
    have K := A.rk hP
    have h12 := K.1.n12
    obtain ⟨k, D, -⟩ := R1.1.md hP
    have e : gQ 11 3 M (sI σ M 0 0) = some (some k) := by rw [gQ_k R1.1.t, D.2.2.1]
    have dk := D.2.2.2.1.1
    obtain ⟨r0, r1, r2, r3, r4, r5, r6, r7, -⟩ := D.2.2.2.2.1
    have e4 := K.1.1.2.2.2.2.2.1
    rw [if_neg (show ¬ (true = false) by decide)]
    by_cases h9 : q = 9
    · subst h9
      obtain ⟨k2, ω, w1, w2, Dk, h26, w5, w6⟩ := R1.1.work A hP
      have wj : RJ M P S I tr wh ω := ⟨w5, by rw [w2, hI_sRn (by omega), hI_sIn (Or.inr (by omega))]; exact R1.2.1, by rw [w2, hI_sRn (by omega), hI_sIn (Or.inr (by omega))]; exact R1.2.2⟩
      refine ⟨ω, ?_, wj, fg_r.trans w6.g⟩
      rw [if_neg (by omega), if_neg (by omega), if_pos rfl]
      simp only [f_X10_size, f_X10_size_0, f_X10_savesThere, f_X10_savesThere_0, R.1.t, pI_k R.1.t, h13, in_k, decide_eq_false m2, e, oco, show ¬ nI 9 = 0 by decide, show ¬ nI 9 = 1 by decide, show ¬ nI 9 = 2 by decide, show ¬ nI 9 = 3 by decide, show ¬ nI 9 = 4 by decide, show ¬ nI 9 = 5 by decide, show ¬ nI 9 = 6 by decide, show ¬ nI 9 = 7 by decide, show ¬ nI 9 = 8 by decide, show nI 9 = 9 by decide, R1.1.t, w1, saves_k Dk K.1.2.1.2.2.2.1 h12, osb, b2i_t, b2i_f, i10, i00, if_true, if_false, Bool.not_true, Bool.not_false, Bool.true_and, Bool.false_and, Bool.and_true, Bool.and_false]
      rfl
    · refine ⟨sI σ M 0 0, ?_, R1, fg_r⟩
      have a37 : aI 22 (M + 3) 37 (sI σ M 0 0) = some (S.1 37) := R1.1.a3 hP (j := 37) (by omega)
      have a36 : aI 22 (M + 3) 36 (sI σ M 0 0) = some (S.1 36) := R1.1.a3 hP (j := 36) (by omega)
      simp only [f_X10_size, f_X10_size_0, f_X10_size_147, R.1.t, pI_k R.1.t, h13, in_k, decide_eq_false m2, e, oco, core_k D, gI_k dk, r0, r1, r2, r3, r4, r5, r6, r7, R1.1.1.2.2.2.2.1.r R1.1.t, a37, a36, gI_k R1.1.t, R1.1.2.1.2.2.1, R1.1.2.1.2.2.2, osb, b2i_t, b2i_f, i10, i00, if_true, if_false, Bool.not_true, Bool.not_false, Bool.true_and, Bool.false_and, Bool.and_true, Bool.and_false]
      obtain rfl | rfl | rfl | rfl | rfl | rfl | rfl | rfl | rfl | rfl | rfl | rfl : q = 0 ∨ q = 1 ∨ q = 2 ∨ q = 3 ∨ q = 4 ∨ q = 5 ∨ q = 6 ∨ q = 7 ∨ q = 8 ∨ q = 10 ∨ q = 11 ∨ q = 12 := by omega
      · rw [if_pos (show nI 0 = 0 by decide), if_pos (show 0 < 8 by omega)]
      · rw [if_neg (show ¬ nI 1 = 0 by decide), if_pos (show nI 1 = 1 by decide), if_pos (show 1 < 8 by omega)]
      · rw [if_neg (show ¬ nI 2 = 0 by decide), if_neg (show ¬ nI 2 = 1 by decide), if_pos (show nI 2 = 2 by decide), if_pos (show 2 < 8 by omega)]
      · rw [if_neg (show ¬ nI 3 = 0 by decide), if_neg (show ¬ nI 3 = 1 by decide), if_neg (show ¬ nI 3 = 2 by decide), if_pos (show nI 3 = 3 by decide), if_pos (show 3 < 8 by omega)]
      · rw [if_neg (show ¬ nI 4 = 0 by decide), if_neg (show ¬ nI 4 = 1 by decide), if_neg (show ¬ nI 4 = 2 by decide), if_neg (show ¬ nI 4 = 3 by decide), if_pos (show nI 4 = 4 by decide), if_pos (show 4 < 8 by omega)]
        rcases e4 with h | h <;> rw [h] <;> rfl
      · rw [if_neg (show ¬ nI 5 = 0 by decide), if_neg (show ¬ nI 5 = 1 by decide), if_neg (show ¬ nI 5 = 2 by decide), if_neg (show ¬ nI 5 = 3 by decide), if_neg (show ¬ nI 5 = 4 by decide), if_pos (show nI 5 = 5 by decide), if_pos (show 5 < 8 by omega)]
      · rw [if_neg (show ¬ nI 6 = 0 by decide), if_neg (show ¬ nI 6 = 1 by decide), if_neg (show ¬ nI 6 = 2 by decide), if_neg (show ¬ nI 6 = 3 by decide), if_neg (show ¬ nI 6 = 4 by decide), if_neg (show ¬ nI 6 = 5 by decide), if_pos (show nI 6 = 6 by decide), if_pos (show 6 < 8 by omega)]
      · rw [if_neg (show ¬ nI 7 = 0 by decide), if_neg (show ¬ nI 7 = 1 by decide), if_neg (show ¬ nI 7 = 2 by decide), if_neg (show ¬ nI 7 = 3 by decide), if_neg (show ¬ nI 7 = 4 by decide), if_neg (show ¬ nI 7 = 5 by decide), if_neg (show ¬ nI 7 = 6 by decide), if_pos (show nI 7 = 7 by decide), if_pos (show 7 < 8 by omega)]
      · rw [if_neg (show ¬ nI 8 = 0 by decide), if_neg (show ¬ nI 8 = 1 by decide), if_neg (show ¬ nI 8 = 2 by decide), if_neg (show ¬ nI 8 = 3 by decide), if_neg (show ¬ nI 8 = 4 by decide), if_neg (show ¬ nI 8 = 5 by decide), if_neg (show ¬ nI 8 = 6 by decide), if_neg (show ¬ nI 8 = 7 by decide), if_pos (show nI 8 = 8 by decide), if_neg (show ¬ 8 < 8 by omega), if_pos (show 8 = 8 from rfl)]
      · rw [if_neg (show ¬ nI 10 = 0 by decide), if_neg (show ¬ nI 10 = 1 by decide), if_neg (show ¬ nI 10 = 2 by decide), if_neg (show ¬ nI 10 = 3 by decide), if_neg (show ¬ nI 10 = 4 by decide), if_neg (show ¬ nI 10 = 5 by decide), if_neg (show ¬ nI 10 = 6 by decide), if_neg (show ¬ nI 10 = 7 by decide), if_neg (show ¬ nI 10 = 8 by decide), if_neg (show ¬ nI 10 = 9 by decide), if_pos (show nI 10 = 10 by decide), if_neg (show ¬ 10 < 8 by omega), if_neg (show ¬ 10 = 8 by omega), if_neg (show ¬ 10 = 9 by omega), if_pos (show 10 = 10 from rfl)]
      · rw [if_neg (show ¬ nI 11 = 0 by decide), if_neg (show ¬ nI 11 = 1 by decide), if_neg (show ¬ nI 11 = 2 by decide), if_neg (show ¬ nI 11 = 3 by decide), if_neg (show ¬ nI 11 = 4 by decide), if_neg (show ¬ nI 11 = 5 by decide), if_neg (show ¬ nI 11 = 6 by decide), if_neg (show ¬ nI 11 = 7 by decide), if_neg (show ¬ nI 11 = 8 by decide), if_neg (show ¬ nI 11 = 9 by decide), if_neg (show ¬ nI 11 = 10 by decide), if_pos (show nI 11 = 11 by decide), if_neg (show ¬ 11 < 8 by omega), if_neg (show ¬ 11 = 8 by omega), if_neg (show ¬ 11 = 9 by omega), if_neg (show ¬ 11 = 10 by omega), if_pos (show 11 = 11 from rfl)]
      · rw [if_neg (show ¬ nI 12 = 0 by decide), if_neg (show ¬ nI 12 = 1 by decide), if_neg (show ¬ nI 12 = 2 by decide), if_neg (show ¬ nI 12 = 3 by decide), if_neg (show ¬ nI 12 = 4 by decide), if_neg (show ¬ nI 12 = 5 by decide), if_neg (show ¬ nI 12 = 6 by decide), if_neg (show ¬ nI 12 = 7 by decide), if_neg (show ¬ nI 12 = 8 by decide), if_neg (show ¬ nI 12 = 9 by decide), if_neg (show ¬ nI 12 = 10 by decide), if_neg (show ¬ nI 12 = 11 by decide), if_neg (show ¬ 12 < 8 by omega), if_neg (show ¬ 12 = 8 by omega), if_neg (show ¬ 12 = 9 by omega), if_neg (show ¬ 12 = 10 by omega), if_neg (show ¬ 12 = 11 by omega)]
theorem size_a (A : AW P S I B) (C : CJ z p d P S I tr wh σ) (R : RJ (z + 195) P S I tr wh σ) (o1 : hT σ (z + 203) = 24) (o2 : hN σ (z + 203) = 1) (w : Int32) : Alike z (fun σ => f_X8_size z w σ) (fun σ => f_X10_size (z + 195) w σ) B σ := by
  rcases pk_ix w (n := 14) (by omega) with h | h | ⟨q, hq, e⟩
  · exact alk_of (A.up (by omega)) R o1 o2 ⟨σ, sz_out (Or.inl h) C, C, Fg.refl⟩ (fun τ Rτ => ⟨_, sz_outr (Or.inl h) Rτ, Rτ.s0, fg_r⟩)
  · have h' : (13 : Int32) < w := Int32.lt_of_lt_of_le (show (13 : Int32) < nI 14 by decide) h
    exact alk_of (A.up (by omega)) R o1 o2 ⟨σ, sz_out (Or.inr h') C, C, Fg.refl⟩ (fun τ Rτ => ⟨_, sz_outr (Or.inr h') Rτ, Rτ.s0, fg_r⟩)
  · by_cases h13 : q = 13
    · subst h13; subst e
      exact alk_of (A.up (by omega)) R o1 o2 ⟨σ, sz_13 C, C, Fg.refl⟩ (fun τ Rτ => ⟨_, sz_13r Rτ, Rτ.s0, fg_r⟩)
    · subst e
      exact alk_of (A.up (by omega)) R o1 o2 ⟨σ, sz_c A C (by omega), C, Fg.refl⟩ (fun τ Rτ => sz_r A Rτ (by omega))
end Qt
