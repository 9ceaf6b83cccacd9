/-! QUESTIONS: cycles -/
section Qy
variable {σ τ υ : St} {z p d M k : Nat} {P : PT} {S : SX} {I : IT} {tr wh v w : Int32} {B s : Nat}
theorem CJ.slot (C : CJ z p d P S I tr wh σ) (A : AW P S I B) (hP : P.1 = true) (hs : s < 16) : ∃ τ, f_X0_slotOf (z + 182) p (nI (s + 9)) σ = some (nI s, τ) ∧ CJ z p d P S I tr wh τ ∧ Fg (inC z) σ τ ∧ YSh τ (z + 182) ∧ Yat P.2.1 τ (z + 182) s := by
  have D := C.1.mq hP
  have pd := C.1.1.pd
  obtain ⟨τ, t1, t2, t3, t4, t5⟩ := slotOf_c (c := P.2.1) (m := P.2.2.1) (p := p) (y := z + 182) (by omega) C.1.2.2.2.1.2.2.2.1 (C.1.2.2.2.2.2 hP) hs D.2.2.1 D.2.2.2.1 D.2.2.2.2.1
  have e : ∀ r, r < z + 183 → hI τ r = hI σ r := fun r hr => (t2.2 r (fun h => by have := h.1; omega)).2.2.1
  exact ⟨τ, t1, ⟨C.1.cyc t2 t3 t4, by rw [e z (by omega)]; exact C.2.1, by rw [e (z + 24) (by omega)]; exact C.2.2⟩, t2.mono (fun r h => ⟨by have := h.1; omega, by have := h.2; omega⟩), t3, t5⟩
theorem RB.goes (R : RB M P S I σ) (A : AW P S I B) (hP : P.1 = true) {nc : Nat} (h9 : 9 ≤ nc) (h24 : nc ≤ 24) : ∃ τ, f_X10_goes M (nI nc) σ = some τ ∧ RS M σ τ ∧ RB M P S I τ ∧ hI τ M 28 = nI (goR P.2.1 nc).2.1 ∧ hI τ M 29 = (goR P.2.1 nc).2.2.1 ∧ hI τ M 30 = (goR P.2.1 nc).2.2.2 ∧ aI 22 (M + 4) 37 τ = some ((goR P.2.1 nc).1 37) := by
  obtain ⟨k, D, -⟩ := R.md hP
  have C := (A.2.1 hP).1
  obtain ⟨τ, t1, t2, t3, t4, t5, t6⟩ := goes_k (x := hI σ (M + 4)) (nc := nc) D C (by omega) h24 R.2.2.2.2.1
  rw [sR_id] at t1
  obtain ⟨w, n, hw, ew, hn, en, U⟩ := goR_ru C (show 8 ≤ nc by omega) h24
  have rs : RS M σ (sR τ (M + 4) (goR P.2.1 nc).1) := t2.rs.trans (RS.row U.1)
  have e : hI (sR τ (M + 4) (goR P.2.1 nc).1) M = hI τ M := hI_sRn (by omega)
  exact ⟨_, t1, rs, R.rs rs, by rw [e]; exact t4, by rw [e]; exact t5, by rw [e]; exact t6, r37_k (t3.to (goR P.2.1 nc).1)⟩
theorem cel_c (v : Int32) : (v < 9 ∨ 24 < v) ∨ ∃ s, s < 16 ∧ v = nI (s + 9) ∧ ¬ (v < 9 ∨ 24 < v) := by
  by_cases h : v < 9 ∨ 24 < v
  · exact Or.inl h
  · refine Or.inr ?_
    have h1 : ¬ v < 9 := fun q => h (Or.inl q)
    have h2 : ¬ (24 : Int32) < v := fun q => h (Or.inr q)
    rcases pk_ix v (n := 25) (by omega) with q | q | ⟨j, hj, e⟩
    · exact absurd (Int32.lt_of_lt_of_le q (by decide)) h1
    · exact absurd (Int32.lt_of_lt_of_le (show (24 : Int32) < nI 25 by decide) q) h2
    · refine ⟨j - 9, by omega, ?_, h⟩
      have : 9 ≤ j := by
        rcases Nat.lt_or_ge j 9 with g | g
        · exact absurd (by rw [e]; exact nI_lt (b := 9) g (by omega)) h1
        · exact g
      rw [e, show j - 9 + 9 = j by omega]
theorem isC_c (v : Int32) : f_X8_isCells v σ = some (b2i (!decide (v < 9 ∨ 24 < v)), σ) := by
  unfold f_X8_isCells f_X8_isCells_0 f_X8_isCells_16 f_X8_isCells_17
  by_cases h1 : v < 9
  · simp [h1, b2i]
  · by_cases h2 : (24 : Int32) < v <;> simp [h1, h2, b2i]
def rcE (P : PT) (v : Int32) : Int32 := if P.1 = false then 1 else if v < 9 ∨ 24 < v then 2 else 0
theorem rc_k (R : RB M P S I σ) (v : Int32) : f_X10_refusesCells M v σ = some (rcE P v, σ) := by
  unfold f_X10_refusesCells f_X10_refusesCells_0 f_X10_refusesCells_27 rcE
  rw [if_pos R.t]
  cases hP : P.1 with
  | false => rw [R.gq.1 hP, osb, ocn]; rfl
  | true =>
    obtain ⟨k, e⟩ := R.gq.2 hP
    rw [e, osb, oco, in_k, osb]
    by_cases h : v < 9 ∨ 24 < v
    · rw [decide_eq_true h]; simp [h, b2i]
    · rw [decide_eq_false h]; simp [h, b2i]
theorem l10 : ((1 : Int32) ≤ 0) ↔ False := by decide
theorem l20 : ((2 : Int32) ≤ 0) ↔ False := by decide
theorem l00 : ((0 : Int32) ≤ 0) ↔ True := by decide
theorem cycles_c0 (hP : P.1 = false) {v : Int32} : Qc z p d P S I (fun σ => f_X8_cycles z v σ) (-1) 1 := by
  intro σ tr wh C
  refine ⟨sI σ z 12 1, ?_, C.r 1 (by decide), fg_c 1⟩
  simp only [f_X8_cycles_40, f_X8_cycles_33, f_X8_cycles_13, f_X8_cycles_0, f_X8_cycles, C.1.zt, C.1.told, hP, ref_1 C.1.zt, osb, b2i_t, b2i_f, i10, i00, if_true, if_false, Bool.not_true, Bool.not_false, Bool.true_and, Bool.false_and, Bool.and_true, Bool.and_false]
theorem cycles_r0 (hP : P.1 = false) {v : Int32} : Qr M P S I (fun σ => f_X10_cycles M v σ) (-1) 1 := by
  intro σ tr wh R
  have R1 := R.1.s0
  refine ⟨sI (sI (sI σ M 0 0) M 1 1) M 2 (-1), ?_, R1.end 1, RS.end (RS.s0 (by omega)) 1⟩
  have h : rcE P v = 1 := by unfold rcE; rw [if_pos hP]
  simp only [f_X10_cycles_0, f_X10_cycles, R.1.t, pI_k R.1.t, rc_k R1, h, l10, refd_k R1.t, osb, b2i_t, b2i_f, i10, i00, if_true, if_false, Bool.not_true, Bool.not_false, Bool.true_and, Bool.false_and, Bool.and_true, Bool.and_false]
theorem cycles_c2 (hP : P.1 = true) {v : Int32} (h : v < 9 ∨ 24 < v) : Qc z p d P S I (fun σ => f_X8_cycles z v σ) (-1) 2 := by
  intro σ tr wh C
  have C1 := C.r 0 (by decide)
  refine ⟨sI (sI σ z 12 0) z 12 2, ?_, C1.r 2 (by decide), (fg_c 0).trans (fg_c 2)⟩
  simp only [f_X8_cycles_40, f_X8_cycles_33, f_X8_cycles_13, f_X8_cycles_0, f_X8_cycles, C.1.zt, C.1.told, hP, ref_0 C.1.zt, isC_c, decide_eq_true h, ref_1 C1.1.zt, osb, b2i_t, b2i_f, i10, i00, if_true, if_false, Bool.not_true, Bool.not_false, Bool.true_and, Bool.false_and, Bool.and_true, Bool.and_false]
theorem cycles_r2 (hP : P.1 = true) {v : Int32} (h : v < 9 ∨ 24 < v) : Qr M P S I (fun σ => f_X10_cycles M v σ) (-1) 2 := by
  intro σ tr wh R
  have R1 := R.1.s0
  refine ⟨sI (sI (sI σ M 0 0) M 1 2) M 2 (-1), ?_, R1.end 2, RS.end (RS.s0 (by omega)) 2⟩
  have h : rcE P v = 2 := by unfold rcE; rw [if_neg (by rw [hP]; decide), if_pos h]
  simp only [f_X10_cycles_0, f_X10_cycles, R.1.t, pI_k R.1.t, rc_k R1, h, l20, refd_k R1.t, osb, b2i_t, b2i_f, i10, i00, if_true, if_false, Bool.not_true, Bool.not_false, Bool.true_and, Bool.false_and, Bool.and_true, Bool.and_false]
theorem cycles_c1 (A : AW P S I B) (hP : P.1 = true) (hs : s < 16) (h : ¬ (nI (s + 9) < 9 ∨ 24 < nI (s + 9))) : Qc z p d P S I (fun σ => f_X8_cycles z (nI (s + 9)) σ) (nI (goR P.2.1 (s + 9)).2.1) 0 := by
  intro σ tr wh C
  have C1 := C.r 0 (by decide)
  have C2 := C1.r 0 (by decide)
  have Y := C2.1.2.2.2.1.2.2.2.1
  obtain ⟨τ, t1, t2, t3, t4, t5⟩ := C2.slot A hP hs
  refine ⟨τ, ?_, t2, ((fg_c 0).trans (fg_c 0)).trans t3⟩
  simp only [f_X8_cycles_40, f_X8_cycles_33, f_X8_cycles_13, f_X8_cycles_0, f_X8_cycles, C.1.zt, C.1.told, hP, ref_0 C.1.zt, isC_c, decide_eq_false h, ref_0 C1.1.zt, C2.1.cy, C2.1.pg, Y.2.2.1.r Y.1, t1, t4.2.2.1.g hs (show 16 ≤ 100000 by omega), t5.1, osb, b2i_t, b2i_f, i10, i00, if_true, if_false, Bool.not_true, Bool.not_false, Bool.true_and, Bool.false_and, Bool.and_true, Bool.and_false]
theorem cycles_r1 (A : AW P S I B) (hP : P.1 = true) (hs : s < 16) (h : ¬ (nI (s + 9) < 9 ∨ 24 < nI (s + 9))) : Qr M P S I (fun σ => f_X10_cycles M (nI (s + 9)) σ) (nI (goR P.2.1 (s + 9)).2.1) 0 := by
  intro σ tr wh R
  have R1 := R.1.s0
  obtain ⟨τ, t1, t2, t3, t4, t5, t6, t7⟩ := R1.goes A hP (nc := s + 9) (by omega) (by omega)
  have R4 := t3.1.2.2.2.2.2.1.r t3.t
  refine ⟨sI (sI τ M 1 0) M 2 (-1), ?_, t3.end 0, RS.end ((RS.s0 (by omega)).trans t2) 0⟩
  have h : rcE P (nI (s + 9)) = 0 := by unfold rcE; rw [if_neg (by rw [hP]; decide), if_neg h]
  simp only [f_X10_cycles_0, f_X10_cycles, R.1.t, pI_k R.1.t, rc_k R1, h, l00, t1, gI_k t3.t, t4, good_k t3.t, osb, b2i_t, b2i_f, i10, i00, if_true, if_false, Bool.not_true, Bool.not_false, Bool.true_and, Bool.false_and, Bool.and_true, Bool.and_false]
theorem cycles_a (A : AW P S I B) (C : CJ z p d P S I tr wh σ) (R : RJ (z + 195) P S I tr wh σ) (o1 : hT σ (z + 203) = 24) (o2 : hN σ (z + 203) = 1) (v : Int32) : Alike z (fun σ => f_X8_cycles z v σ) (fun σ => f_X10_cycles (z + 195) v σ) B σ := by
  cases hP : P.1 with
  | false => exact alk_q A C R o1 o2 (cycles_c0 hP) (cycles_r0 hP)
  | true =>
    rcases cel_c v with h | ⟨s, hs, e, h⟩
    · exact alk_q A C R o1 o2 (cycles_c2 hP h) (cycles_r2 hP h)
    · subst e; exact alk_q A C R o1 o2 (cycles_c1 A hP hs h) (cycles_r1 A hP hs h)
theorem commits_c0 (hP : P.1 = false) {v : Int32} : Qc z p d P S I (fun σ => f_X8_commits z v σ) (-1) 1 := by
  intro σ tr wh C
  refine ⟨sI σ z 12 1, ?_, C.r 1 (by decide), fg_c 1⟩
  simp only [f_X8_commits_40, f_X8_commits_33, f_X8_commits_13, f_X8_commits_0, f_X8_commits, C.1.zt, C.1.told, hP, ref_1 C.1.zt, osb, b2i_t, b2i_f, i10, i00, if_true, if_false, Bool.not_true, Bool.not_false, Bool.true_and, Bool.false_and, Bool.and_true, Bool.and_false]
theorem commits_r0 (hP : P.1 = false) {v : Int32} : Qr M P S I (fun σ => f_X10_commits M v σ) (-1) 1 := by
  intro σ tr wh R
  have R1 := R.1.s0
  refine ⟨sI (sI (sI σ M 0 0) M 1 1) M 2 (-1), ?_, R1.end 1, RS.end (RS.s0 (by omega)) 1⟩
  have h : rcE P v = 1 := by unfold rcE; rw [if_pos hP]
  simp only [f_X10_commits_0, f_X10_commits, R.1.t, pI_k R.1.t, rc_k R1, h, l10, refd_k R1.t, osb, b2i_t, b2i_f, i10, i00, if_true, if_false, Bool.not_true, Bool.not_false, Bool.true_and, Bool.false_and, Bool.and_true, Bool.and_false]
theorem commits_c2 (hP : P.1 = true) {v : Int32} (h : v < 9 ∨ 24 < v) : Qc z p d P S I (fun σ => f_X8_commits z v σ) (-1) 2 := by
  intro σ tr wh C
  have C1 := C.r 0 (by decide)
  refine ⟨sI (sI σ z 12 0) z 12 2, ?_, C1.r 2 (by decide), (fg_c 0).trans (fg_c 2)⟩
  simp only [f_X8_commits_40, f_X8_commits_33, f_X8_commits_13, f_X8_commits_0, f_X8_commits, C.1.zt, C.1.told, hP, ref_0 C.1.zt, isC_c, decide_eq_true h, ref_1 C1.1.zt, osb, b2i_t, b2i_f, i10, i00, if_true, if_false, Bool.not_true, Bool.not_false, Bool.true_and, Bool.false_and, Bool.and_true, Bool.and_false]
theorem commits_r2 (hP : P.1 = true) {v : Int32} (h : v < 9 ∨ 24 < v) : Qr M P S I (fun σ => f_X10_commits M v σ) (-1) 2 := by
  intro σ tr wh R
  have R1 := R.1.s0
  refine ⟨sI (sI (sI σ M 0 0) M 1 2) M 2 (-1), ?_, R1.end 2, RS.end (RS.s0 (by omega)) 2⟩
  have h : rcE P v = 2 := by unfold rcE; rw [if_neg (by rw [hP]; decide), if_pos h]
  simp only [f_X10_commits_0, f_X10_commits, R.1.t, pI_k R.1.t, rc_k R1, h, l20, refd_k R1.t, osb, b2i_t, b2i_f, i10, i00, if_true, if_false, Bool.not_true, Bool.not_false, Bool.true_and, Bool.false_and, Bool.and_true, Bool.and_false]
theorem commits_c1 (A : AW P S I B) (hP : P.1 = true) (hs : s < 16) (h : ¬ (nI (s + 9) < 9 ∨ 24 < nI (s + 9))) : Qc z p d P S I (fun σ => f_X8_commits z (nI (s + 9)) σ) ((goR P.2.1 (s + 9)).1 37) 0 := by
  intro σ tr wh C
  have C1 := C.r 0 (by decide)
  have C2 := C1.r 0 (by decide)
  have Y := C2.1.2.2.2.1.2.2.2.1
  obtain ⟨τ, t1, t2, t3, t4, t5⟩ := C2.slot A hP hs
  refine ⟨τ, ?_, t2, ((fg_c 0).trans (fg_c 0)).trans t3⟩
  simp only [f_X8_commits_40, f_X8_commits_33, f_X8_commits_13, f_X8_commits_0, f_X8_commits, C.1.zt, C.1.told, hP, ref_0 C.1.zt, isC_c, decide_eq_false h, ref_0 C1.1.zt, C2.1.cy, C2.1.pg, Y.2.2.2.1.r Y.1, t1, t4.2.2.2.1.g hs (show 16 ≤ 100000 by omega), t5.2.1, osb, b2i_t, b2i_f, i10, i00, if_true, if_false, Bool.not_true, Bool.not_false, Bool.true_and, Bool.false_and, Bool.and_true, Bool.and_false]
theorem commits_r1 (A : AW P S I B) (hP : P.1 = true) (hs : s < 16) (h : ¬ (nI (s + 9) < 9 ∨ 24 < nI (s + 9))) : Qr M P S I (fun σ => f_X10_commits M (nI (s + 9)) σ) ((goR P.2.1 (s + 9)).1 37) 0 := by
  intro σ tr wh R
  have R1 := R.1.s0
  obtain ⟨τ, t1, t2, t3, t4, t5, t6, t7⟩ := R1.goes A hP (nc := s + 9) (by omega) (by omega)
  have R4 := t3.1.2.2.2.2.2.1.r t3.t
  refine ⟨sI (sI τ M 1 0) M 2 (-1), ?_, t3.end 0, RS.end ((RS.s0 (by omega)).trans t2) 0⟩
  have h : rcE P (nI (s + 9)) = 0 := by unfold rcE; rw [if_neg (by rw [hP]; decide), if_neg h]
  simp only [f_X10_commits_0, f_X10_commits, R.1.t, pI_k R.1.t, rc_k R1, h, l00, t1, R4, t7, good_k t3.t, osb, b2i_t, b2i_f, i10, i00, if_true, if_false, Bool.not_true, Bool.not_false, Bool.true_and, Bool.false_and, Bool.and_true, Bool.and_false]
theorem commits_a (A : AW P S I B) (C : CJ z p d P S I tr wh σ) (R : RJ (z + 195) P S I tr wh σ) (o1 : hT σ (z + 203) = 24) (o2 : hN σ (z + 203) = 1) (v : Int32) : Alike z (fun σ => f_X8_commits z v σ) (fun σ => f_X10_commits (z + 195) v σ) B σ := by
  cases hP : P.1 with
  | false => exact alk_q A C R o1 o2 (commits_c0 hP) (commits_r0 hP)
  | true =>
    rcases cel_c v with h | ⟨s, hs, e, h⟩
    · exact alk_q A C R o1 o2 (commits_c2 hP h) (commits_r2 hP h)
    · subst e; exact alk_q A C R o1 o2 (commits_c1 A hP hs h) (commits_r1 A hP hs h)
theorem misses_c0 (hP : P.1 = false) {v : Int32} : Qc z p d P S I (fun σ => f_X8_misses z v σ) (-1) 1 := by
  intro σ tr wh C
  refine ⟨sI σ z 12 1, ?_, C.r 1 (by decide), fg_c 1⟩
  simp only [f_X8_misses_40, f_X8_misses_33, f_X8_misses_13, f_X8_misses_0, f_X8_misses, C.1.zt, C.1.told, hP, ref_1 C.1.zt, osb, b2i_t, b2i_f, i10, i00, if_true, if_false, Bool.not_true, Bool.not_false, Bool.true_and, Bool.false_and, Bool.and_true, Bool.and_false]
theorem misses_r0 (hP : P.1 = false) {v : Int32} : Qr M P S I (fun σ => f_X10_misses M v σ) (-1) 1 := by
  intro σ tr wh R
  have R1 := R.1.s0
  refine ⟨sI (sI (sI σ M 0 0) M 1 1) M 2 (-1), ?_, R1.end 1, RS.end (RS.s0 (by omega)) 1⟩
  have h : rcE P v = 1 := by unfold rcE; rw [if_pos hP]
  simp only [f_X10_misses_0, f_X10_misses, R.1.t, pI_k R.1.t, rc_k R1, h, l10, refd_k R1.t, osb, b2i_t, b2i_f, i10, i00, if_true, if_false, Bool.not_true, Bool.not_false, Bool.true_and, Bool.false_and, Bool.and_true, Bool.and_false]
theorem misses_c2 (hP : P.1 = true) {v : Int32} (h : v < 9 ∨ 24 < v) : Qc z p d P S I (fun σ => f_X8_misses z v σ) (-1) 2 := by
  intro σ tr wh C
  have C1 := C.r 0 (by decide)
  refine ⟨sI (sI σ z 12 0) z 12 2, ?_, C1.r 2 (by decide), (fg_c 0).trans (fg_c 2)⟩
  simp only [f_X8_misses_40, f_X8_misses_33, f_X8_misses_13, f_X8_misses_0, f_X8_misses, C.1.zt, C.1.told, hP, ref_0 C.1.zt, isC_c, decide_eq_true h, ref_1 C1.1.zt, osb, b2i_t, b2i_f, i10, i00, if_true, if_false, Bool.not_true, Bool.not_false, Bool.true_and, Bool.false_and, Bool.and_true, Bool.and_false]
theorem misses_r2 (hP : P.1 = true) {v : Int32} (h : v < 9 ∨ 24 < v) : Qr M P S I (fun σ => f_X10_misses M v σ) (-1) 2 := by
  intro σ tr wh R
  have R1 := R.1.s0
  refine ⟨sI (sI (sI σ M 0 0) M 1 2) M 2 (-1), ?_, R1.end 2, RS.end (RS.s0 (by omega)) 2⟩
  have h : rcE P v = 2 := by unfold rcE; rw [if_neg (by rw [hP]; decide), if_pos h]
  simp only [f_X10_misses_0, f_X10_misses, R.1.t, pI_k R.1.t, rc_k R1, h, l20, refd_k R1.t, osb, b2i_t, b2i_f, i10, i00, if_true, if_false, Bool.not_true, Bool.not_false, Bool.true_and, Bool.false_and, Bool.and_true, Bool.and_false]
theorem misses_c1 (A : AW P S I B) (hP : P.1 = true) (hs : s < 16) (h : ¬ (nI (s + 9) < 9 ∨ 24 < nI (s + 9))) : Qc z p d P S I (fun σ => f_X8_misses z (nI (s + 9)) σ) ((goR P.2.1 (s + 9)).2.2.1) 0 := by
  intro σ tr wh C
  have C1 := C.r 0 (by decide)
  have C2 := C1.r 0 (by decide)
  have Y := C2.1.2.2.2.1.2.2.2.1
  obtain ⟨τ, t1, t2, t3, t4, t5⟩ := C2.slot A hP hs
  refine ⟨τ, ?_, t2, ((fg_c 0).trans (fg_c 0)).trans t3⟩
  simp only [f_X8_misses_40, f_X8_misses_33, f_X8_misses_13, f_X8_misses_0, f_X8_misses, C.1.zt, C.1.told, hP, ref_0 C.1.zt, isC_c, decide_eq_false h, ref_0 C1.1.zt, C2.1.cy, C2.1.pg, Y.2.2.2.2.1.r Y.1, t1, t4.2.2.2.2.1.g hs (show 16 ≤ 100000 by omega), t5.2.2.1, osb, b2i_t, b2i_f, i10, i00, if_true, if_false, Bool.not_true, Bool.not_false, Bool.true_and, Bool.false_and, Bool.and_true, Bool.and_false]
theorem misses_r1 (A : AW P S I B) (hP : P.1 = true) (hs : s < 16) (h : ¬ (nI (s + 9) < 9 ∨ 24 < nI (s + 9))) : Qr M P S I (fun σ => f_X10_misses M (nI (s + 9)) σ) ((goR P.2.1 (s + 9)).2.2.1) 0 := by
  intro σ tr wh R
  have R1 := R.1.s0
  obtain ⟨τ, t1, t2, t3, t4, t5, t6, t7⟩ := R1.goes A hP (nc := s + 9) (by omega) (by omega)
  have R4 := t3.1.2.2.2.2.2.1.r t3.t
  refine ⟨sI (sI τ M 1 0) M 2 (-1), ?_, t3.end 0, RS.end ((RS.s0 (by omega)).trans t2) 0⟩
  have h : rcE P (nI (s + 9)) = 0 := by unfold rcE; rw [if_neg (by rw [hP]; decide), if_neg h]
  simp only [f_X10_misses_0, f_X10_misses, R.1.t, pI_k R.1.t, rc_k R1, h, l00, t1, gI_k t3.t, t5, good_k t3.t, osb, b2i_t, b2i_f, i10, i00, if_true, if_false, Bool.not_true, Bool.not_false, Bool.true_and, Bool.false_and, Bool.and_true, Bool.and_false]
theorem misses_a (A : AW P S I B) (C : CJ z p d P S I tr wh σ) (R : RJ (z + 195) P S I tr wh σ) (o1 : hT σ (z + 203) = 24) (o2 : hN σ (z + 203) = 1) (v : Int32) : Alike z (fun σ => f_X8_misses z v σ) (fun σ => f_X10_misses (z + 195) v σ) B σ := by
  cases hP : P.1 with
  | false => exact alk_q A C R o1 o2 (misses_c0 hP) (misses_r0 hP)
  | true =>
    rcases cel_c v with h | ⟨s, hs, e, h⟩
    · exact alk_q A C R o1 o2 (misses_c2 hP h) (misses_r2 hP h)
    · subst e; exact alk_q A C R o1 o2 (misses_c1 A hP hs h) (misses_r1 A hP hs h)
theorem crowd_c0 (hP : P.1 = false) {v : Int32} : Qc z p d P S I (fun σ => f_X8_crowd z v σ) (-1) 1 := by
  intro σ tr wh C
  refine ⟨sI σ z 12 1, ?_, C.r 1 (by decide), fg_c 1⟩
  simp only [f_X8_crowd_40, f_X8_crowd_33, f_X8_crowd_13, f_X8_crowd_0, f_X8_crowd, C.1.zt, C.1.told, hP, ref_1 C.1.zt, osb, b2i_t, b2i_f, i10, i00, if_true, if_false, Bool.not_true, Bool.not_false, Bool.true_and, Bool.false_and, Bool.and_true, Bool.and_false]
theorem crowd_r0 (hP : P.1 = false) {v : Int32} : Qr M P S I (fun σ => f_X10_crowd M v σ) (-1) 1 := by
  intro σ tr wh R
  have R1 := R.1.s0
  refine ⟨sI (sI (sI σ M 0 0) M 1 1) M 2 (-1), ?_, R1.end 1, RS.end (RS.s0 (by omega)) 1⟩
  have h : rcE P v = 1 := by unfold rcE; rw [if_pos hP]
  simp only [f_X10_crowd_0, f_X10_crowd, R.1.t, pI_k R.1.t, rc_k R1, h, l10, refd_k R1.t, osb, b2i_t, b2i_f, i10, i00, if_true, if_false, Bool.not_true, Bool.not_false, Bool.true_and, Bool.false_and, Bool.and_true, Bool.and_false]
theorem crowd_c2 (hP : P.1 = true) {v : Int32} (h : v < 9 ∨ 24 < v) : Qc z p d P S I (fun σ => f_X8_crowd z v σ) (-1) 2 := by
  intro σ tr wh C
  have C1 := C.r 0 (by decide)
  refine ⟨sI (sI σ z 12 0) z 12 2, ?_, C1.r 2 (by decide), (fg_c 0).trans (fg_c 2)⟩
  simp only [f_X8_crowd_40, f_X8_crowd_33, f_X8_crowd_13, f_X8_crowd_0, f_X8_crowd, C.1.zt, C.1.told, hP, ref_0 C.1.zt, isC_c, decide_eq_true h, ref_1 C1.1.zt, osb, b2i_t, b2i_f, i10, i00, if_true, if_false, Bool.not_true, Bool.not_false, Bool.true_and, Bool.false_and, Bool.and_true, Bool.and_false]
theorem crowd_r2 (hP : P.1 = true) {v : Int32} (h : v < 9 ∨ 24 < v) : Qr M P S I (fun σ => f_X10_crowd M v σ) (-1) 2 := by
  intro σ tr wh R
  have R1 := R.1.s0
  refine ⟨sI (sI (sI σ M 0 0) M 1 2) M 2 (-1), ?_, R1.end 2, RS.end (RS.s0 (by omega)) 2⟩
  have h : rcE P v = 2 := by unfold rcE; rw [if_neg (by rw [hP]; decide), if_pos h]
  simp only [f_X10_crowd_0, f_X10_crowd, R.1.t, pI_k R.1.t, rc_k R1, h, l20, refd_k R1.t, osb, b2i_t, b2i_f, i10, i00, if_true, if_false, Bool.not_true, Bool.not_false, Bool.true_and, Bool.false_and, Bool.and_true, Bool.and_false]
theorem crowd_c1 (A : AW P S I B) (hP : P.1 = true) (hs : s < 16) (h : ¬ (nI (s + 9) < 9 ∨ 24 < nI (s + 9))) : Qc z p d P S I (fun σ => f_X8_crowd z (nI (s + 9)) σ) ((goR P.2.1 (s + 9)).2.2.2) 0 := by
  intro σ tr wh C
  have C1 := C.r 0 (by decide)
  have C2 := C1.r 0 (by decide)
  have Y := C2.1.2.2.2.1.2.2.2.1
  obtain ⟨τ, t1, t2, t3, t4, t5⟩ := C2.slot A hP hs
  refine ⟨τ, ?_, t2, ((fg_c 0).trans (fg_c 0)).trans t3⟩
  simp only [f_X8_crowd_40, f_X8_crowd_33, f_X8_crowd_13, f_X8_crowd_0, f_X8_crowd, C.1.zt, C.1.told, hP, ref_0 C.1.zt, isC_c, decide_eq_false h, ref_0 C1.1.zt, C2.1.cy, C2.1.pg, Y.2.2.2.2.2.1.r Y.1, t1, t4.2.2.2.2.2.1.g hs (show 16 ≤ 100000 by omega), t5.2.2.2, osb, b2i_t, b2i_f, i10, i00, if_true, if_false, Bool.not_true, Bool.not_false, Bool.true_and, Bool.false_and, Bool.and_true, Bool.and_false]
theorem crowd_r1 (A : AW P S I B) (hP : P.1 = true) (hs : s < 16) (h : ¬ (nI (s + 9) < 9 ∨ 24 < nI (s + 9))) : Qr M P S I (fun σ => f_X10_crowd M (nI (s + 9)) σ) ((goR P.2.1 (s + 9)).2.2.2) 0 := by
  intro σ tr wh R
  have R1 := R.1.s0
  obtain ⟨τ, t1, t2, t3, t4, t5, t6, t7⟩ := R1.goes A hP (nc := s + 9) (by omega) (by omega)
  have R4 := t3.1.2.2.2.2.2.1.r t3.t
  refine ⟨sI (sI τ M 1 0) M 2 (-1), ?_, t3.end 0, RS.end ((RS.s0 (by omega)).trans t2) 0⟩
  have h : rcE P (nI (s + 9)) = 0 := by unfold rcE; rw [if_neg (by rw [hP]; decide), if_neg h]
  simp only [f_X10_crowd_0, f_X10_crowd, R.1.t, pI_k R.1.t, rc_k R1, h, l00, t1, gI_k t3.t, t6, good_k t3.t, osb, b2i_t, b2i_f, i10, i00, if_true, if_false, Bool.not_true, Bool.not_false, Bool.true_and, Bool.false_and, Bool.and_true, Bool.and_false]
theorem crowd_a (A : AW P S I B) (C : CJ z p d P S I tr wh σ) (R : RJ (z + 195) P S I tr wh σ) (o1 : hT σ (z + 203) = 24) (o2 : hN σ (z + 203) = 1) (v : Int32) : Alike z (fun σ => f_X8_crowd z v σ) (fun σ => f_X10_crowd (z + 195) v σ) B σ := by
  cases hP : P.1 with
  | false => exact alk_q A C R o1 o2 (crowd_c0 hP) (crowd_r0 hP)
  | true =>
    rcases cel_c v with h | ⟨s, hs, e, h⟩
    · exact alk_q A C R o1 o2 (crowd_c2 hP h) (crowd_r2 hP h)
    · subst e; exact alk_q A C R o1 o2 (crowd_c1 A hP hs h) (crowd_r1 A hP hs h)
/-- the fewest cells -/
def cfE (c : Nat → Nat → Int32) (n : Int32) : Option Nat := fstN (fun s => !decide (n < nI (goR c (s + 9)).2.1)) 16
def o2c (q : Option Nat) : Int32 := match q with
  | some s => nI (s + 9)
  | none => -2
theorem cf_cl (A : AW P S I B) (hP : P.1 = true) (n : Int32) : ∀ (q i fu : Nat) (σ : St), i + q = 16 → q < fu → CJ z p d P S I tr wh σ → (∀ j, j < i → (!decide (n < nI (goR P.2.1 (j + 9)).2.1)) = false) → ∃ τ, f_X8_cellsFor_49 fu z n (nI (i + 9)) σ = some (o2c (cfE P.2.1 n), τ) ∧ CJ z p d P S I tr wh τ ∧ Fg (inC z) σ τ
  | 0, i, fu, σ, hi, hf, C, ha => by
    obtain ⟨f, rfl⟩ : ∃ f, fu = f + 1 := ⟨fu - 1, by omega⟩
    obtain rfl : i = 16 := by omega
    rw [e_X8_cellsFor_49, if_pos (by decide)]
    refine ⟨σ, ?_, C, Fg.refl⟩
    cases h : cfE P.2.1 n with
    | none => rfl
    | some j => obtain ⟨h1, h2, -⟩ := fstN_some h; rw [ha j h1] at h2; cases h2
  | q + 1, i, fu, σ, hi, hf, C, ha => by
    obtain ⟨f, rfl⟩ : ∃ f, fu = f + 1 := ⟨fu - 1, by omega⟩
    have hlt : ¬ (24 : Int32) < nI (i + 9) := fun h => by have := (nI_ltI (a := 24) (b := i + 9) (by omega) (by omega)).mp h; omega
    have Y := C.1.2.2.2.1.2.2.2.1
    obtain ⟨τ, t1, t2, t3, t4, t5⟩ := C.slot A hP (s := i) (by omega)
    rw [e_X8_cellsFor_49, if_neg hlt]
    simp only [C.1.cy, C.1.pg, Y.2.2.1.r Y.1, t1, t4.2.2.1.g (show i < 16 by omega) (show 16 ≤ 100000 by omega), t5.1, osb]
    by_cases hn : n < nI (goR P.2.1 (i + 9)).2.1
    · rw [if_pos hn, nI_1]
      obtain ⟨υ, u1, u2, u3⟩ := cf_cl A hP n q (i + 1) f τ (by omega) (by omega) t2 (fun j hj => by
        by_cases e : j = i
        · subst e; rw [decide_eq_true hn]; rfl
        · exact ha j (by omega))
      rw [show i + 1 + 9 = i + 9 + 1 by omega] at u1
      exact ⟨υ, u1, u2, t3.trans u3⟩
    · rw [if_neg hn]
      refine ⟨τ, ?_, t2, t3⟩
      unfold cfE
      rw [fstN_of (j := i) (by omega) (by rw [decide_eq_false hn]; rfl) ha]
      rfl
theorem cf_rl (A : AW P S I B) (hP : P.1 = true) (n : Int32) : ∀ (q i fu : Nat) (σ : St), i + q = 16 → q < fu → RB M P S I σ → (∀ j, j < i → (!decide (n < nI (goR P.2.1 (j + 9)).2.1)) = false) → ∃ τ, f_X10_cellsFor_38 fu M n (nI (i + 9)) σ = some (o2c (cfE P.2.1 n), τ) ∧ RJ M P S I 0 (-1) τ ∧ Fg (inR M) σ τ
  | 0, i, fu, σ, hi, hf, R, ha => by
    obtain ⟨f, rfl⟩ : ∃ f, fu = f + 1 := ⟨fu - 1, by omega⟩
    obtain rfl : i = 16 := by omega
    rw [e_X10_cellsFor_38, if_pos (by decide), good_k R.t, osb]
    refine ⟨_, ?_, R.end 0, RS.end RS.refl 0⟩
    cases h : cfE P.2.1 n with
    | none => rfl
    | some j => obtain ⟨h1, h2, -⟩ := fstN_some h; rw [ha j h1] at h2; cases h2
  | q + 1, i, fu, σ, hi, hf, R, ha => by
    obtain ⟨f, rfl⟩ : ∃ f, fu = f + 1 := ⟨fu - 1, by omega⟩
    have hlt : ¬ (24 : Int32) < nI (i + 9) := fun h => by have := (nI_ltI (a := 24) (b := i + 9) (by omega) (by omega)).mp h; omega
    obtain ⟨τ, t1, t2, t3, t4, -⟩ := R.goes A hP (nc := i + 9) (by omega) (by omega)
    rw [e_X10_cellsFor_38, if_neg hlt, t1, osb, gI_k t3.t, osb, t4]
    by_cases hn : n < nI (goR P.2.1 (i + 9)).2.1
    · rw [if_pos hn, nI_1]
      obtain ⟨υ, u1, u2, u3⟩ := cf_rl A hP n q (i + 1) f τ (by omega) (by omega) t3 (fun j hj => by
        by_cases e : j = i
        · subst e; rw [decide_eq_true hn]; rfl
        · exact ha j (by omega))
      rw [show i + 1 + 9 = i + 9 + 1 by omega] at u1
      exact ⟨υ, u1, u2, t2.g.trans u3⟩
    · rw [if_neg hn, good_k t3.t, osb]
      refine ⟨_, ?_, t3.end 0, RS.end t2 0⟩
      unfold cfE
      rw [fstN_of (j := i) (by omega) (by rw [decide_eq_false hn]; rfl) ha]
      rfl
theorem cellsFor_c0 (hP : P.1 = false) {n : Int32} : Qc z p d P S I (fun σ => f_X8_cellsFor z n σ) (-1) 1 := by
  intro σ tr wh C
  refine ⟨sI σ z 12 1, ?_, C.r 1 (by decide), fg_c 1⟩
  simp only [f_X8_cellsFor_44, f_X8_cellsFor_49, f_X8_cellsFor_37, f_X8_cellsFor_32, f_X8_cellsFor_13, f_X8_cellsFor_0, f_X8_cellsFor, C.1.zt, C.1.told, hP, ref_1 C.1.zt, osb, b2i_t, b2i_f, i10, i00, if_true, if_false, Bool.not_true, Bool.not_false, Bool.true_and, Bool.false_and, Bool.and_true, Bool.and_false]
theorem cellsFor_r0 (hP : P.1 = false) {n : Int32} : Qr M P S I (fun σ => f_X10_cellsFor M n σ) (-1) 1 := by
  intro σ tr wh R
  have R1 := R.1.s0
  refine ⟨sI (sI (sI σ M 0 0) M 1 1) M 2 (-1), ?_, R1.end 1, RS.end (RS.s0 (by omega)) 1⟩
  simp only [f_X10_cellsFor_38, f_X10_cellsFor_0, f_X10_cellsFor, R.1.t, pI_k R.1.t, R1.gq.1 hP, ocn, refd_k R1.t, osb, b2i_t, b2i_f, i10, i00, if_true, if_false, Bool.not_true, Bool.not_false, Bool.true_and, Bool.false_and, Bool.and_true, Bool.and_false]
theorem cellsFor_c2 (hP : P.1 = true) {n : Int32} (h : n < 0 ∨ 300 < n) : Qc z p d P S I (fun σ => f_X8_cellsFor z n σ) (-1) 2 := by
  intro σ tr wh C
  have C1 := C.r 0 (by decide)
  refine ⟨sI (sI σ z 12 0) z 12 2, ?_, C1.r 2 (by decide), (fg_c 0).trans (fg_c 2)⟩
  by_cases h0 : n < 0
  · simp only [f_X8_cellsFor_44, f_X8_cellsFor_49, f_X8_cellsFor_37, f_X8_cellsFor_32, f_X8_cellsFor_13, f_X8_cellsFor_0, f_X8_cellsFor, C.1.zt, C.1.told, hP, ref_0 C.1.zt, h0, ref_1 C1.1.zt, osb, b2i_t, b2i_f, i10, i00, if_true, if_false, Bool.not_true, Bool.not_false, Bool.true_and, Bool.false_and, Bool.and_true, Bool.and_false]
  · have h1 : ¬ n ≤ 300 := Int32.not_le.mpr (h.resolve_left h0)
    simp only [f_X8_cellsFor_44, f_X8_cellsFor_49, f_X8_cellsFor_37, f_X8_cellsFor_32, f_X8_cellsFor_13, f_X8_cellsFor_0, f_X8_cellsFor, C.1.zt, C.1.told, hP, ref_0 C.1.zt, h0, h1, ref_1 C1.1.zt, osb, b2i_t, b2i_f, i10, i00, if_true, if_false, Bool.not_true, Bool.not_false, Bool.true_and, Bool.false_and, Bool.and_true, Bool.and_false]
theorem cellsFor_r2 (hP : P.1 = true) {n : Int32} (h : n < 0 ∨ 300 < n) : Qr M P S I (fun σ => f_X10_cellsFor M n σ) (-1) 2 := by
  intro σ tr wh R
  have R1 := R.1.s0
  obtain ⟨k', e⟩ := R1.gq.2 hP
  refine ⟨sI (sI (sI σ M 0 0) M 1 2) M 2 (-1), ?_, R1.end 2, RS.end (RS.s0 (by omega)) 2⟩
  simp only [f_X10_cellsFor_38, f_X10_cellsFor_0, f_X10_cellsFor, R.1.t, pI_k R.1.t, e, oco, in_k, decide_eq_true h, refd_k R1.t, osb, b2i_t, b2i_f, i10, i00, if_true, if_false, Bool.not_true, Bool.not_false, Bool.true_and, Bool.false_and, Bool.and_true, Bool.and_false]
theorem cellsFor_c1 (A : AW P S I B) (hP : P.1 = true) {n : Int32} (h : ¬ (n < 0 ∨ 300 < n)) : Qc z p d P S I (fun σ => f_X8_cellsFor z n σ) (o2c (cfE P.2.1 n)) 0 := by
  intro σ tr wh C
  have C1 := C.r 0 (by decide)
  have C2 := C1.r 0 (by decide)
  have h0 : ¬ n < 0 := fun q => h (Or.inl q)
  have h1 : n ≤ 300 := Int32.not_lt.mp (fun q => h (Or.inr q))
  obtain ⟨τ, t1, t2, t3⟩ := cf_cl A hP n 16 0 FU (sI (sI σ z 12 0) z 12 0) (by omega) (by unfold FU; omega) C2 (fun _ h => absurd h (Nat.not_lt_zero _))
  have t1' : f_X8_cellsFor_49 FU z n 9 (sI (sI σ z 12 0) z 12 0) = some (o2c (cfE P.2.1 n), τ) := t1
  refine ⟨τ, ?_, t2, ((fg_c 0).trans (fg_c 0)).trans t3⟩
  simp only [f_X8_cellsFor, f_X8_cellsFor_0, f_X8_cellsFor_13, f_X8_cellsFor_37, C.1.zt, C.1.told, hP, ref_0 C.1.zt, h0, h1, ref_0 C1.1.zt, t1', osb, b2i_t, b2i_f, i10, i00, if_true, if_false, Bool.not_true, Bool.not_false, Bool.true_and, Bool.false_and, Bool.and_true, Bool.and_false]
theorem cellsFor_r1 (A : AW P S I B) (hP : P.1 = true) {n : Int32} (h : ¬ (n < 0 ∨ 300 < n)) : Qr M P S I (fun σ => f_X10_cellsFor M n σ) (o2c (cfE P.2.1 n)) 0 := by
  intro σ tr wh R
  have R1 := R.1.s0
  obtain ⟨k', e⟩ := R1.gq.2 hP
  obtain ⟨τ, t1, t2, t3⟩ := cf_rl A hP n 16 0 FU (sI σ M 0 0) (by omega) (by unfold FU; omega) R1 (fun _ h => absurd h (Nat.not_lt_zero _))
  have t1' : f_X10_cellsFor_38 FU M n 9 (sI σ M 0 0) = some (o2c (cfE P.2.1 n), τ) := t1
  refine ⟨τ, ?_, t2, (RS.s0 (by omega)).g.trans t3⟩
  simp only [f_X10_cellsFor, f_X10_cellsFor_0, R.1.t, pI_k R.1.t, e, oco, in_k, decide_eq_false h, t1', osb, b2i_t, b2i_f, i10, i00, if_true, if_false, Bool.not_true, Bool.not_false, Bool.true_and, Bool.false_and, Bool.and_true, Bool.and_false]
theorem cellsFor_a (A : AW P S I B) (C : CJ z p d P S I tr wh σ) (R : RJ (z + 195) P S I tr wh σ) (o1 : hT σ (z + 203) = 24) (o2 : hN σ (z + 203) = 1) (n : Int32) : Alike z (fun σ => f_X8_cellsFor z n σ) (fun σ => f_X10_cellsFor (z + 195) n σ) B σ := by
  cases hP : P.1 with
  | false => exact alk_q A C R o1 o2 (cellsFor_c0 hP) (cellsFor_r0 hP)
  | true =>
    by_cases h : n < 0 ∨ 300 < n
    · exact alk_q A C R o1 o2 (cellsFor_c2 hP h) (cellsFor_r2 hP h)
    · exact alk_q A C R o1 o2 (cellsFor_c1 A hP h) (cellsFor_r1 A hP h)
end Qy
