/-! QUESTIONS: of the plain machine -/
section Qp
variable {σ τ υ : St} {z p d M k : Nat} {P : PT} {S : SX} {I : IT} {tr wh v w : Int32} {B : Nat}
theorem CB.pl (C : CB z p d P S I σ) : gR 9 9 z σ = some (z + 180) := gR_k C.1.1 C.1.2.2.2.2.2.2.2.2.1
theorem CB.pg (C : CB z p d P S I σ) : gR 9 3 z σ = some p := gR_k C.1.1 C.1.2.2.1
theorem CB.dr (C : CB z p d P S I σ) : gR 9 7 z σ = some (z + 37) := gR_k C.1.1 C.1.2.2.2.2.2.2.1
theorem CB.hs (C : CB z p d P S I σ) : gR 9 8 z σ = some (z + 44) := gR_k C.1.1 C.1.2.2.2.2.2.2.2.1
theorem CB.cy (C : CB z p d P S I σ) : gR 9 10 z σ = some (z + 182) := gR_k C.1.1 C.1.2.2.2.2.2.2.2.2.2.1
theorem CB.fs (C : CB z p d P S I σ) : gR 9 11 z σ = some (z + 194) := gR_k C.1.1 C.1.2.2.2.2.2.2.2.2.2.2.1
theorem CB.hd (C : CB z p d P S I σ) : p + 10 < z + 30 := by have := C.1.pd; omega
theorem CJ.plain (C : CJ z p d P S I tr wh σ) (F : Fr (inL (z + 180)) σ τ) : CJ z p d P S I tr wh τ ∧ Fg (inC z) σ τ := by
  have e : ∀ r, r < z + 180 → hI τ r = hI σ r := fun r hr => F.2.2.2.2.2 r (fun h => by have := h.1; omega)
  exact ⟨⟨C.1.plain F, by rw [e z (by omega)]; exact C.2.1, by rw [e (z + 24) (by omega)]; exact C.2.2⟩, F.g.mono (fun r h => ⟨by have := h.1; omega, by have := h.2; omega⟩)⟩
theorem CJ.play (C : CJ z p d P S I tr wh σ) (A : AW P S I B) (hP : P.1 = true) (o : Int32) {L : Nat} (hL : L ≤ 300) : ∃ τ, f_X4_play (z + 180) p o (nI L) σ = some τ ∧ CJ z p d P S I tr wh τ ∧ Fg (inC z) σ τ ∧ LE τ (z + 180) (plE P.2.1 P.2.2.2.1 o L) := by
  obtain ⟨τ, t1, t2, t3, -⟩ := play_c (o := o) (C.1.mq hP) C.1.hd (y := z + 180) (by omega) (A.2.1 hP).2.1 hL C.1.2.2.2.1.2.2.1
  obtain ⟨c1, c2⟩ := C.plain t2
  exact ⟨τ, t1, c1, c2, t3⟩
def toP (P : PT) : Nat := (plE P.2.1 P.2.2.2.1 0 200).2.2.1
theorem pl_min {c : Nat → Nat → Int32} {nu : Nat} {o : Int32} : ∀ (q Q : Nat) (rg : Nat → Int32) (nx : Int32) (d : Nat) (ms : Int32), q ≤ Q → (plK c nu o q rg nx d ms).2.2.1 = min (d + q) (plK c nu o Q rg nx d ms).2.2.1 ∧ d ≤ (plK c nu o Q rg nx d ms).2.2.1 ∧ (plK c nu o Q rg nx d ms).2.2.1 ≤ d + Q
  | 0, Q, rg, nx, d, ms, h => by
    have h2 : d ≤ (plK c nu o Q rg nx d ms).2.2.1 ∧ (plK c nu o Q rg nx d ms).2.2.1 ≤ d + Q := by
      induction Q generalizing rg nx d ms with
      | zero => exact ⟨Nat.le_refl _, Nat.le_refl _⟩
      | succ Q ih =>
        simp only [plK]
        split
        · exact ⟨Nat.le_refl _, Nat.le_add_right _ _⟩
        · split
          · have := ih rg (nxE c nx.toNatClampNeg (rdP rg (c 3 nx.toNatClampNeg)) (rdP rg (c 4 nx.toNatClampNeg))) (d + 1) (ms + (if nxE c nx.toNatClampNeg (rdP rg (c 3 nx.toNatClampNeg)) (rdP rg (c 4 nx.toNatClampNeg)) = gsE c nx.toNatClampNeg then 0 else 1)) (by omega)
            omega
          · split
            · exact ⟨Nat.le_refl _, Nat.le_add_right _ _⟩
            · have := ih (ux rg (c 2 nx.toNatClampNeg).toNatClampNeg (vaP c nu o nx.toNatClampNeg (rdP rg (c 3 nx.toNatClampNeg)) (rdP rg (c 4 nx.toNatClampNeg)))) (nx + 1) (d + 1) ms (by omega)
              omega
    refine ⟨?_, h2⟩
    simp only [plK]
    omega
  | q + 1, 0, rg, nx, d, ms, h => by omega
  | q + 1, Q + 1, rg, nx, d, ms, h => by
    simp only [plK]
    split
    · exact ⟨by simp only; omega, Nat.le_refl _, Nat.le_add_right _ _⟩
    · split
      · have := pl_min (c := c) (nu := nu) (o := o) q Q rg (nxE c nx.toNatClampNeg (rdP rg (c 3 nx.toNatClampNeg)) (rdP rg (c 4 nx.toNatClampNeg))) (d + 1) (ms + (if nxE c nx.toNatClampNeg (rdP rg (c 3 nx.toNatClampNeg)) (rdP rg (c 4 nx.toNatClampNeg)) = gsE c nx.toNatClampNeg then 0 else 1)) (by omega)
        omega
      · split
        · exact ⟨by simp only; omega, Nat.le_refl _, Nat.le_add_right _ _⟩
        · have := pl_min (c := c) (nu := nu) (o := o) q Q (ux rg (c 2 nx.toNatClampNeg).toNatClampNeg (vaP c nu o nx.toNatClampNeg (rdP rg (c 3 nx.toNatClampNeg)) (rdP rg (c 4 nx.toNatClampNeg)))) (nx + 1) (d + 1) ms (by omega)
          omega
theorem pl_le {j : Nat} (h : j ≤ 200) : (plE P.2.1 P.2.2.2.1 0 j).2.2.1 = min j (toP P) ∧ toP P ≤ 200 := by
  have := pl_min (c := P.2.1) (nu := P.2.2.2.1) (o := 0) j 200 (fun _ => 0) 0 0 0 h
  unfold toP
  unfold plE
  omega
theorem tot_c (C : CJ z p d P S I tr wh σ) (A : AW P S I B) (hP : P.1 = true) : ∃ τ, f_X8_plainTotal z σ = some (nI (toP P), τ) ∧ CJ z p d P S I tr wh τ ∧ Fg (inC z) σ τ := by
  obtain ⟨τ, t1, t2, t3, t4⟩ := C.play A hP 0 (L := 200) (by omega)
  have t1' : f_X4_play (z + 180) p 0 200 σ = some τ := t1
  refine ⟨τ, ?_, t2, t3⟩
  simp only [f_X8_plainTotal, f_X8_plainTotal_0, C.1.zt, C.1.pl, C.1.pg, t1', t2.1.pl, gI_k t4.1.1.1, t4.1.2.2.1, osb, b2i_t, b2i_f, i10, i00, if_true, if_false, Bool.not_true, Bool.not_false, Bool.true_and, Bool.false_and, Bool.and_true, Bool.and_false]
  rfl
/-- the reference plays -/
theorem RB.play (R : RB M P S I σ) (A : AW P S I B) (hP : P.1 = true) (o : Int32) {L : Nat} (hL : L ≤ 300) : ∃ τ, f_X10_plainly M o (nI L) σ = some τ ∧ RS M σ τ ∧ RB M P S I τ ∧ PEn τ M P.2.1 (plE P.2.1 P.2.2.2.1 o L) := by
  obtain ⟨k, D, -⟩ := R.md hP
  obtain ⟨τ, t1, t2, t3⟩ := ply_k (o := o) D (A.2.1 hP).1 (A.2.1 hP).2.1 R.1.2.2.2.1 hL
  exact ⟨τ, t1, t2.rs, R.rs t2.rs, t3⟩
def isJ (n : Int32) : Prop := n < 0 ∨ 200 < n
theorem isJ_c (n : Int32) : isJ n ∨ ∃ j, j ≤ 200 ∧ n = nI j ∧ ¬ n < 0 ∧ ¬ 200 < n := by
  rcases pk_ix n (n := 201) (by omega) with q | q | ⟨j, hj, e⟩
  · exact Or.inl (Or.inl q)
  · refine Or.inl (Or.inr ?_)
    exact Int32.lt_of_lt_of_le (show (200 : Int32) < nI 201 by decide) q
  · refine Or.inr ⟨j, by omega, e, by rw [e]; exact nI_pos (by omega), ?_⟩
    rw [e]
    exact fun h => by have := (nI_ltI (a := 200) (b := j) (by omega) (by omega)).mp h; omega
theorem pd_0 (R : RB M P S I σ) {n : Int32} (h : isJ n) : f_X10_plainlyDone M n σ = some (0, σ) := by
  simp only [f_X10_plainlyDone, f_X10_plainlyDone_0, R.t, in_k, decide_eq_true (show n < 0 ∨ 200 < n from h), osb, b2i_t, b2i_f, i10, i00, if_true, if_false, Bool.not_true, Bool.not_false, Bool.true_and, Bool.false_and, Bool.and_true, Bool.and_false]
theorem pd_1 (R : RB M P S I σ) (A : AW P S I B) (hP : P.1 = true) {j : Nat} (hj : j ≤ 200) : ∃ τ, f_X10_plainlyDone M (nI j) σ = some (b2i (decide (j ≤ toP P)), τ) ∧ RS M σ τ ∧ RB M P S I τ ∧ PEn τ M P.2.1 (plE P.2.1 P.2.2.2.1 0 j) := by
  obtain ⟨τ, t1, t2, t3, t4⟩ := R.play A hP 0 (L := j) (by omega)
  refine ⟨τ, ?_, t2, t3, t4⟩
  have h : ¬ (nI j < 0 ∨ 200 < nI j) := fun h => by
    rcases h with h | h
    · exact nI_pos (by omega) h
    · have := (nI_ltI (a := 200) (b := j) (by omega) (by omega)).mp h; omega
  obtain ⟨q1, q2⟩ := pl_le (P := P) hj
  simp only [f_X10_plainlyDone, f_X10_plainlyDone_0, f_X10_plainlyDone_32, R.t, in_k, decide_eq_false h, t1, gI_k t3.t, t4.1.2.2.2.1, q1, osb, b2i_t, b2i_f, i10, i00, if_true, if_false, Bool.not_true, Bool.not_false, Bool.true_and, Bool.false_and, Bool.and_true, Bool.and_false]
  by_cases hc : j ≤ toP P
  · rw [Nat.min_eq_left hc, if_pos rfl, decide_eq_true hc]; rfl
  · rw [if_neg (fun e => by have := (nI_eq (by omega) (by omega)).mp e; omega), decide_eq_false hc]; rfl
theorem plainSteps_c0 (hP : P.1 = false) : Qc z p d P S I (fun σ => f_X8_plainSteps z σ) (-1) 1 := by
  intro σ tr wh C
  refine ⟨sI σ z 12 1, ?_, C.r 1 (by decide), fg_c 1⟩
  simp only [f_X8_plainSteps_13, f_X8_plainSteps_0, f_X8_plainSteps, C.1.zt, C.1.told, hP, ref_1 C.1.zt, osb, b2i_t, b2i_f, i10, i00, if_true, if_false, Bool.not_true, Bool.not_false, Bool.true_and, Bool.false_and, Bool.and_true, Bool.and_false]
theorem plainSteps_r0 (hP : P.1 = false) : Qr M P S I (fun σ => f_X10_plainSteps M σ) (-1) 1 := by
  intro σ tr wh R
  have R1 := R.1.s0
  refine ⟨sI (sI (sI σ M 0 0) M 1 1) M 2 (-1), ?_, R1.end 1, RS.end (RS.s0 (by omega)) 1⟩
  simp only [f_X10_plainSteps_0, f_X10_plainSteps, R.1.t, pI_k R.1.t, R1.gq.1 hP, ocn, refd_k R1.t, osb, b2i_t, b2i_f, i10, i00, if_true, if_false, Bool.not_true, Bool.not_false, Bool.true_and, Bool.false_and, Bool.and_true, Bool.and_false]
theorem plainSteps_c1 (A : AW P S I B) (hP : P.1 = true) : Qc z p d P S I (fun σ => f_X8_plainSteps z σ) (nI (toP P)) 0 := by
  intro σ tr wh C
  have C1 := C.r 0 (by decide)
  obtain ⟨τ, t1, t2, t3⟩ := tot_c C1 A hP
  refine ⟨τ, ?_, t2, (fg_c 0).trans t3⟩
  simp only [f_X8_plainSteps_13, f_X8_plainSteps_0, f_X8_plainSteps, C.1.zt, C.1.told, hP, ref_0 C.1.zt, t1, osb, b2i_t, b2i_f, i10, i00, if_true, if_false, Bool.not_true, Bool.not_false, Bool.true_and, Bool.false_and, Bool.and_true, Bool.and_false]
theorem plainSteps_r1 (A : AW P S I B) (hP : P.1 = true) : Qr M P S I (fun σ => f_X10_plainSteps M σ) (nI (toP P)) 0 := by
  intro σ tr wh R
  have R1 := R.1.s0
  obtain ⟨k', e⟩ := R1.gq.2 hP
  obtain ⟨τ, t1, t2, t3, t4⟩ := R1.play A hP 0 (L := 200) (by omega)
  have t1' : f_X10_plainly M 0 200 (sI σ M 0 0) = some τ := t1
  refine ⟨sI (sI τ M 1 0) M 2 (-1), ?_, t3.end 0, RS.end ((RS.s0 (by omega)).trans t2) 0⟩
  simp only [f_X10_plainSteps_0, f_X10_plainSteps, R.1.t, pI_k R.1.t, e, oco, t1', gI_k t3.t, t4.1.2.2.2.1, good_k t3.t, osb, b2i_t, b2i_f, i10, i00, if_true, if_false, Bool.not_true, Bool.not_false, Bool.true_and, Bool.false_and, Bool.and_true, Bool.and_false]
  rfl
theorem plainSteps_a (A : AW P S I B) (C : CJ z p d P S I tr wh σ) (R : RJ (z + 195) P S I tr wh σ) (o1 : hT σ (z + 203) = 24) (o2 : hN σ (z + 203) = 1) : Alike z (fun σ => f_X8_plainSteps z σ) (fun σ => f_X10_plainSteps (z + 195) σ) B σ := by
  cases hP : P.1 with
  | false => exact alk_q A C R o1 o2 (plainSteps_c0 hP) (plainSteps_r0 hP)
  | true => exact alk_q A C R o1 o2 (plainSteps_c1 A hP) (plainSteps_r1 A hP)
theorem plainMisses_c0 (hP : P.1 = false) : Qc z p d P S I (fun σ => f_X8_plainMisses z σ) (-1) 1 := by
  intro σ tr wh C
  refine ⟨sI σ z 12 1, ?_, C.r 1 (by decide), fg_c 1⟩
  simp only [f_X8_plainMisses_13, f_X8_plainMisses_0, f_X8_plainMisses, C.1.zt, C.1.told, hP, ref_1 C.1.zt, osb, b2i_t, b2i_f, i10, i00, if_true, if_false, Bool.not_true, Bool.not_false, Bool.true_and, Bool.false_and, Bool.and_true, Bool.and_false]
theorem plainMisses_r0 (hP : P.1 = false) : Qr M P S I (fun σ => f_X10_plainMisses M σ) (-1) 1 := by
  intro σ tr wh R
  have R1 := R.1.s0
  refine ⟨sI (sI (sI σ M 0 0) M 1 1) M 2 (-1), ?_, R1.end 1, RS.end (RS.s0 (by omega)) 1⟩
  simp only [f_X10_plainMisses_0, f_X10_plainMisses, R.1.t, pI_k R.1.t, R1.gq.1 hP, ocn, refd_k R1.t, osb, b2i_t, b2i_f, i10, i00, if_true, if_false, Bool.not_true, Bool.not_false, Bool.true_and, Bool.false_and, Bool.and_true, Bool.and_false]
theorem plainMisses_c1 (A : AW P S I B) (hP : P.1 = true) : Qc z p d P S I (fun σ => f_X8_plainMisses z σ) ((plE P.2.1 P.2.2.2.1 0 200).2.2.2.1) 0 := by
  intro σ tr wh C
  have C1 := C.r 0 (by decide)
  obtain ⟨τ, t1, t2, t3, t4⟩ := C1.play A hP 0 (L := 200) (by omega)
  have t1' : f_X4_play (z + 180) p 0 200 (sI σ z 12 0) = some τ := t1
  refine ⟨τ, ?_, t2, (fg_c 0).trans t3⟩
  simp only [f_X8_plainMisses_13, f_X8_plainMisses_0, f_X8_plainMisses, C.1.zt, C.1.told, hP, ref_0 C.1.zt, C1.1.pl, C1.1.pg, t1', t2.1.pl, gI_k t4.1.1.1, t4.1.2.2.2.2, osb, b2i_t, b2i_f, i10, i00, if_true, if_false, Bool.not_true, Bool.not_false, Bool.true_and, Bool.false_and, Bool.and_true, Bool.and_false]
theorem plainMisses_r1 (A : AW P S I B) (hP : P.1 = true) : Qr M P S I (fun σ => f_X10_plainMisses M σ) ((plE P.2.1 P.2.2.2.1 0 200).2.2.2.1) 0 := by
  intro σ tr wh R
  have R1 := R.1.s0
  obtain ⟨k', e⟩ := R1.gq.2 hP
  obtain ⟨τ, t1, t2, t3, t4⟩ := R1.play A hP 0 (L := 200) (by omega)
  have t1' : f_X10_plainly M 0 200 (sI σ M 0 0) = some τ := t1
  refine ⟨sI (sI τ M 1 0) M 2 (-1), ?_, t3.end 0, RS.end ((RS.s0 (by omega)).trans t2) 0⟩
  simp only [f_X10_plainMisses_0, f_X10_plainMisses, R.1.t, pI_k R.1.t, e, oco, t1', gI_k t3.t, t4.1.2.2.2.2, good_k t3.t, osb, b2i_t, b2i_f, i10, i00, if_true, if_false, Bool.not_true, Bool.not_false, Bool.true_and, Bool.false_and, Bool.and_true, Bool.and_false]
theorem plainMisses_a (A : AW P S I B) (C : CJ z p d P S I tr wh σ) (R : RJ (z + 195) P S I tr wh σ) (o1 : hT σ (z + 203) = 24) (o2 : hN σ (z + 203) = 1) : Alike z (fun σ => f_X8_plainMisses z σ) (fun σ => f_X10_plainMisses (z + 195) σ) B σ := by
  cases hP : P.1 with
  | false => exact alk_q A C R o1 o2 (plainMisses_c0 hP) (plainMisses_r0 hP)
  | true => exact alk_q A C R o1 o2 (plainMisses_c1 A hP) (plainMisses_r1 A hP)
theorem plainEnd_c0 (hP : P.1 = false) : Qc z p d P S I (fun σ => f_X8_plainEnd z σ) (-1) 1 := by
  intro σ tr wh C
  refine ⟨sI σ z 12 1, ?_, C.r 1 (by decide), fg_c 1⟩
  simp only [f_X8_plainEnd_71, f_X8_plainEnd_13, f_X8_plainEnd_0, f_X8_plainEnd, C.1.zt, C.1.told, hP, ref_1 C.1.zt, osb, b2i_t, b2i_f, i10, i00, if_true, if_false, Bool.not_true, Bool.not_false, Bool.true_and, Bool.false_and, Bool.and_true, Bool.and_false]
theorem plainEnd_r0 (hP : P.1 = false) : Qr M P S I (fun σ => f_X10_plainEnd M σ) (-1) 1 := by
  intro σ tr wh R
  have R1 := R.1.s0
  refine ⟨sI (sI (sI σ M 0 0) M 1 1) M 2 (-1), ?_, R1.end 1, RS.end (RS.s0 (by omega)) 1⟩
  simp only [f_X10_plainEnd_0, f_X10_plainEnd, R.1.t, pI_k R.1.t, R1.gq.1 hP, ocn, refd_k R1.t, osb, b2i_t, b2i_f, i10, i00, if_true, if_false, Bool.not_true, Bool.not_false, Bool.true_and, Bool.false_and, Bool.and_true, Bool.and_false]
theorem plainEnd_c1 (A : AW P S I B) (hP : P.1 = true) : Qc z p d P S I (fun σ => f_X8_plainEnd z σ) (peE P.2.1 (plE P.2.1 P.2.2.2.1 0 200)) 0 := by
  intro σ tr wh C
  have C1 := C.r 0 (by decide)
  obtain ⟨τ, t1, t2, t3, t4⟩ := C1.play A hP 0 (L := 200) (by omega)
  have t1' : f_X4_play (z + 180) p 0 200 (sI σ z 12 0) = some τ := t1
  refine ⟨τ, ?_, t2, (fg_c 0).trans t3⟩
  simp only [f_X8_plainEnd_71, f_X8_plainEnd_13, f_X8_plainEnd_0, f_X8_plainEnd, C.1.zt, C.1.told, hP, ref_0 C.1.zt, C1.1.pl, C1.1.pg, t1', t2.1.pl, t2.1.pg, gI_k t4.1.1.1, t4.2, t4.1.2.2.2.1, has_c (t2.1.mq hP), osb, b2i_t, b2i_f, i10, i00, if_true, if_false, Bool.not_true, Bool.not_false, Bool.true_and, Bool.false_and, Bool.and_true, Bool.and_false]
  unfold peE
  cases (plE P.2.1 P.2.2.2.1 0 200).2.2.2.2 with
  | true => rfl
  | false =>
    rw [if_pos (show b2i false = 0 from rfl), if_neg (show ¬ (false = true) by decide)]
    by_cases h : (plE P.2.1 P.2.2.2.1 0 200).2.1 < 0 ∨ P.2.1 0 5 ≤ (plE P.2.1 P.2.2.2.1 0 200).2.1
    · rw [decide_eq_true h, if_pos (by decide), if_pos h]
    · rw [decide_eq_false h, if_neg (by decide), if_neg h]
theorem plainEnd_r1 (A : AW P S I B) (hP : P.1 = true) : Qr M P S I (fun σ => f_X10_plainEnd M σ) (peE P.2.1 (plE P.2.1 P.2.2.2.1 0 200)) 0 := by
  intro σ tr wh R
  have R1 := R.1.s0
  obtain ⟨k', e⟩ := R1.gq.2 hP
  obtain ⟨τ, t1, t2, t3, t4⟩ := R1.play A hP 0 (L := 200) (by omega)
  have t1' : f_X10_plainly M 0 200 (sI σ M 0 0) = some τ := t1
  refine ⟨sI (sI τ M 1 0) M 2 (-1), ?_, t3.end 0, RS.end ((RS.s0 (by omega)).trans t2) 0⟩
  simp only [f_X10_plainEnd_0, f_X10_plainEnd, R.1.t, pI_k R.1.t, e, oco, t1', gI_k t3.t, t4.2, good_k t3.t, osb, b2i_t, b2i_f, i10, i00, if_true, if_false, Bool.not_true, Bool.not_false, Bool.true_and, Bool.false_and, Bool.and_true, Bool.and_false]
theorem plainEnd_a (A : AW P S I B) (C : CJ z p d P S I tr wh σ) (R : RJ (z + 195) P S I tr wh σ) (o1 : hT σ (z + 203) = 24) (o2 : hN σ (z + 203) = 1) : Alike z (fun σ => f_X8_plainEnd z σ) (fun σ => f_X10_plainEnd (z + 195) σ) B σ := by
  cases hP : P.1 with
  | false => exact alk_q A C R o1 o2 (plainEnd_c0 hP) (plainEnd_r0 hP)
  | true => exact alk_q A C R o1 o2 (plainEnd_c1 A hP) (plainEnd_r1 A hP)
theorem judge_c0 (hP : P.1 = false) : Qc z p d P S I (fun σ => f_X8_judge z σ) (-1) 1 := by
  intro σ tr wh C
  refine ⟨sI σ z 12 1, ?_, C.r 1 (by decide), fg_c 1⟩
  simp only [f_X8_judge_13, f_X8_judge_0, f_X8_judge, C.1.zt, C.1.told, hP, ref_1 C.1.zt, osb, b2i_t, b2i_f, i10, i00, if_true, if_false, Bool.not_true, Bool.not_false, Bool.true_and, Bool.false_and, Bool.and_true, Bool.and_false]
theorem judge_r0 (hP : P.1 = false) : Qr M P S I (fun σ => f_X10_judge M σ) (-1) 1 := by
  intro σ tr wh R
  have R1 := R.1.s0
  refine ⟨sI (sI (sI σ M 0 0) M 1 1) M 2 (-1), ?_, R1.end 1, RS.end (RS.s0 (by omega)) 1⟩
  simp only [f_X10_judge_29, f_X10_judge_0, f_X10_judge, R.1.t, pI_k R.1.t, R1.gq.1 hP, ocn, refd_k R1.t, osb, b2i_t, b2i_f, i10, i00, if_true, if_false, Bool.not_true, Bool.not_false, Bool.true_and, Bool.false_and, Bool.and_true, Bool.and_false]
theorem judge_c1 (A : AW P S I B) (hP : P.1 = true) : Qc z p d P S I (fun σ => f_X8_judge z σ) (o2m (wgE P.2.1 P.2.2.2.2.1 (plE P.2.1 P.2.2.2.1 0 200).1)) 0 := by
  intro σ tr wh C
  have C1 := C.r 0 (by decide)
  obtain ⟨τ, t1, t2, t3, t4⟩ := C1.play A hP 0 (L := 200) (by omega)
  have t1' : f_X4_play (z + 180) p 0 200 (sI σ z 12 0) = some τ := t1
  refine ⟨τ, ?_, t2, (fg_c 0).trans t3⟩
  simp only [f_X8_judge_13, f_X8_judge_0, f_X8_judge, C.1.zt, C.1.told, hP, ref_0 C.1.zt, C1.1.pl, C1.1.pg, t1', t2.1.pl, t2.1.pg, fng_c (t2.1.mq hP) (A.2.1 hP).2.1 t4.1.1 t4.1.2.1, osb, b2i_t, b2i_f, i10, i00, if_true, if_false, Bool.not_true, Bool.not_false, Bool.true_and, Bool.false_and, Bool.and_true, Bool.and_false]
theorem judge_r1 (A : AW P S I B) (hP : P.1 = true) : Qr M P S I (fun σ => f_X10_judge M σ) (o2m (wgE P.2.1 P.2.2.2.2.1 (plE P.2.1 P.2.2.2.1 0 200).1)) 0 := by
  intro σ tr wh R
  have R1 := R.1.s0
  obtain ⟨k', e⟩ := R1.gq.2 hP
  obtain ⟨k, D, -⟩ := R1.md hP
  obtain ⟨τ, t1, t2⟩ := wg_k D (A.2.1 hP).1 (A.2.1 hP).2.1 R1.1.2.2.2.1 0
  have t3 := R1.rs t2.rs
  refine ⟨sI (sI τ M 1 0) M 2 (-1), ?_, t3.end 0, RS.end ((RS.s0 (by omega)).trans t2.rs) 0⟩
  simp only [f_X10_judge_29, f_X10_judge_0, f_X10_judge, R.1.t, pI_k R.1.t, e, oco, t1, good_k t3.t, osb, b2i_t, b2i_f, i10, i00, if_true, if_false, Bool.not_true, Bool.not_false, Bool.true_and, Bool.false_and, Bool.and_true, Bool.and_false]
theorem judge_a (A : AW P S I B) (C : CJ z p d P S I tr wh σ) (R : RJ (z + 195) P S I tr wh σ) (o1 : hT σ (z + 203) = 24) (o2 : hN σ (z + 203) = 1) : Alike z (fun σ => f_X8_judge z σ) (fun σ => f_X10_judge (z + 195) σ) B σ := by
  cases hP : P.1 with
  | false => exact alk_q A C R o1 o2 (judge_c0 hP) (judge_r0 hP)
  | true => exact alk_q A C R o1 o2 (judge_c1 A hP) (judge_r1 A hP)
theorem plainStep_c0 (hP : P.1 = false) {n : Int32} : Qc z p d P S I (fun σ => f_X8_plainStep z n σ) (-1) 1 := by
  intro σ tr wh C
  refine ⟨sI σ z 12 1, ?_, C.r 1 (by decide), fg_c 1⟩
  simp only [f_X8_plainStep_45, f_X8_plainStep_38, f_X8_plainStep_33, f_X8_plainStep_13, f_X8_plainStep_0, f_X8_plainStep, C.1.zt, C.1.told, hP, ref_1 C.1.zt, osb, b2i_t, b2i_f, i10, i00, if_true, if_false, Bool.not_true, Bool.not_false, Bool.true_and, Bool.false_and, Bool.and_true, Bool.and_false]
theorem plainStep_r0 (hP : P.1 = false) {n : Int32} : Qr M P S I (fun σ => f_X10_plainStep M n σ) (-1) 1 := by
  intro σ tr wh R
  have R1 := R.1.s0
  refine ⟨sI (sI (sI σ M 0 0) M 1 1) M 2 (-1), ?_, R1.end 1, RS.end (RS.s0 (by omega)) 1⟩
  simp only [f_X10_plainStep_42, f_X10_plainStep_0, f_X10_plainStep, R.1.t, pI_k R.1.t, R1.gq.1 hP, ocn, refd_k R1.t, osb, b2i_t, b2i_f, i10, i00, if_true, if_false, Bool.not_true, Bool.not_false, Bool.true_and, Bool.false_and, Bool.and_true, Bool.and_false]
theorem tot_no {n : Int32} (hn : isJ n ∨ ∃ j, j ≤ 200 ∧ n = nI j ∧ ¬ j ≤ toP P) : n < 0 ∨ (¬ n < 0 ∧ ¬ n ≤ nI (toP P)) := by
  have ht := (pl_le (P := P) (j := 0) (by omega)).2
  by_cases h0 : n < 0
  · exact Or.inl h0
  · refine Or.inr ⟨h0, fun h => ?_⟩
    rcases hn with (q | q) | ⟨j, hj, e, hn⟩
    · exact h0 q
    · have h2 : (200 : Int32) < nI (toP P) := Int32.lt_of_lt_of_le q h
      have := (nI_ltI (a := 200) (b := toP P) (by omega) (by omega)).mp h2
      omega
    · rw [e] at h
      have := (nI_leI (by omega) (by omega)).mp h
      omega
theorem plainStep_c2 (A : AW P S I B) (hP : P.1 = true) {n : Int32} (hn : isJ n ∨ ∃ j, j ≤ 200 ∧ n = nI j ∧ ¬ j ≤ toP P) : Qc z p d P S I (fun σ => f_X8_plainStep z n σ) (-1) 2 := by
  intro σ tr wh C
  have C1 := C.r 0 (by decide)
  rcases tot_no hn with h | ⟨h1, h2⟩
  · refine ⟨sI (sI σ z 12 0) z 12 2, ?_, C1.r 2 (by decide), (fg_c 0).trans (fg_c 2)⟩
    simp only [f_X8_plainStep_45, f_X8_plainStep_38, f_X8_plainStep_33, f_X8_plainStep_13, f_X8_plainStep_0, f_X8_plainStep, C.1.zt, C.1.told, hP, ref_0 C.1.zt, h, ref_1 C1.1.zt, osb, b2i_t, b2i_f, i10, i00, if_true, if_false, Bool.not_true, Bool.not_false, Bool.true_and, Bool.false_and, Bool.and_true, Bool.and_false]
  · obtain ⟨τ, t1, t2, t3⟩ := tot_c C1 A hP
    refine ⟨sI τ z 12 2, ?_, t2.r 2 (by decide), ((fg_c 0).trans t3).trans (fg_c 2)⟩
    simp only [f_X8_plainStep_45, f_X8_plainStep_38, f_X8_plainStep_33, f_X8_plainStep_13, f_X8_plainStep_0, f_X8_plainStep, C.1.zt, C.1.told, hP, ref_0 C.1.zt, t1, h1, h2, ref_1 t2.1.zt, osb, b2i_t, b2i_f, i10, i00, if_true, if_false, Bool.not_true, Bool.not_false, Bool.true_and, Bool.false_and, Bool.and_true, Bool.and_false]
theorem plainStep_r2 (A : AW P S I B) (hP : P.1 = true) {n : Int32} (hn : isJ n ∨ ∃ j, j ≤ 200 ∧ n = nI j ∧ ¬ j ≤ toP P) : Qr M P S I (fun σ => f_X10_plainStep M n σ) (-1) 2 := by
  intro σ tr wh R
  have R1 := R.1.s0
  obtain ⟨k', e⟩ := R1.gq.2 hP
  rcases hn with h | ⟨j, hj, ej, h⟩
  · refine ⟨sI (sI (sI σ M 0 0) M 1 2) M 2 (-1), ?_, R1.end 2, RS.end (RS.s0 (by omega)) 2⟩
    simp only [f_X10_plainStep_42, f_X10_plainStep_0, f_X10_plainStep, R.1.t, pI_k R.1.t, e, oco, pd_0 R1 h, refd_k R1.t, osb, b2i_t, b2i_f, i10, i00, if_true, if_false, Bool.not_true, Bool.not_false, Bool.true_and, Bool.false_and, Bool.and_true, Bool.and_false]
  · subst ej
    obtain ⟨τ, t1, t2, t3, t4⟩ := pd_1 R1 A hP hj
    rw [decide_eq_false h] at t1
    refine ⟨sI (sI τ M 1 2) M 2 (-1), ?_, t3.end 2, RS.end ((RS.s0 (by omega)).trans t2) 2⟩
    simp only [f_X10_plainStep_42, f_X10_plainStep_0, f_X10_plainStep, R.1.t, pI_k R.1.t, e, oco, t1, refd_k t3.t, osb, b2i_t, b2i_f, i10, i00, if_true, if_false, Bool.not_true, Bool.not_false, Bool.true_and, Bool.false_and, Bool.and_true, Bool.and_false]
theorem plainStep_c1 (A : AW P S I B) (hP : P.1 = true) {j : Nat} (hj : j ≤ 200) (h : j ≤ toP P) : Qc z p d P S I (fun σ => f_X8_plainStep z (nI j) σ) (plE P.2.1 P.2.2.2.1 0 j).2.1 0 := by
  intro σ tr wh C
  have C1 := C.r 0 (by decide)
  have ht := (pl_le (P := P) (j := 0) (by omega)).2
  obtain ⟨τ, t1, t2, t3⟩ := tot_c C1 A hP
  have C2 := t2.r 0 (by decide)
  obtain ⟨υ, u1, u2, u3, u4⟩ := C2.play A hP 0 (L := j) (by omega)
  refine ⟨υ, ?_, u2, (((fg_c 0).trans t3).trans (fg_c 0)).trans u3⟩
  simp only [f_X8_plainStep_45, f_X8_plainStep_38, f_X8_plainStep_33, f_X8_plainStep_13, f_X8_plainStep_0, f_X8_plainStep, C.1.zt, C.1.told, hP, ref_0 C.1.zt, t1, nI_pos (show j < 2 ^ 31 by omega), nI_le h (show toP P < 2 ^ 31 by omega), ref_0 t2.1.zt, C2.1.pl, C2.1.pg, u1, u2.1.pl, gI_k u4.1.1.1, u4.1.2.2.2.1, osb, b2i_t, b2i_f, i10, i00, if_true, if_false, Bool.not_true, Bool.not_false, Bool.true_and, Bool.false_and, Bool.and_true, Bool.and_false]
theorem plainStep_r1 (A : AW P S I B) (hP : P.1 = true) {j : Nat} (hj : j ≤ 200) (h : j ≤ toP P) : Qr M P S I (fun σ => f_X10_plainStep M (nI j) σ) (plE P.2.1 P.2.2.2.1 0 j).2.1 0 := by
  intro σ tr wh R
  have R1 := R.1.s0
  obtain ⟨k', e⟩ := R1.gq.2 hP
  obtain ⟨τ, t1, t2, t3, t4⟩ := pd_1 R1 A hP hj
  rw [decide_eq_true h] at t1
  refine ⟨sI (sI τ M 1 0) M 2 (-1), ?_, t3.end 0, RS.end ((RS.s0 (by omega)).trans t2) 0⟩
  simp only [f_X10_plainStep_42, f_X10_plainStep_0, f_X10_plainStep, R.1.t, pI_k R.1.t, e, oco, t1, gI_k t3.t, t4.1.2.2.1, good_k t3.t, osb, b2i_t, b2i_f, i10, i00, if_true, if_false, Bool.not_true, Bool.not_false, Bool.true_and, Bool.false_and, Bool.and_true, Bool.and_false]
theorem plainStep_a (A : AW P S I B) (C : CJ z p d P S I tr wh σ) (R : RJ (z + 195) P S I tr wh σ) (o1 : hT σ (z + 203) = 24) (o2 : hN σ (z + 203) = 1) (n : Int32) : Alike z (fun σ => f_X8_plainStep z n σ) (fun σ => f_X10_plainStep (z + 195) n σ) B σ := by
  cases hP : P.1 with
  | false => exact alk_q A C R o1 o2 (plainStep_c0 hP) (plainStep_r0 hP)
  | true =>
    rcases isJ_c n with h | ⟨j, hj, e, -⟩
    · exact alk_q A C R o1 o2 (plainStep_c2 A hP (Or.inl h)) (plainStep_r2 A hP (Or.inl h))
    · by_cases hc : j ≤ toP P
      · subst e; exact alk_q A C R o1 o2 (plainStep_c1 A hP hj hc) (plainStep_r1 A hP hj hc)
      · exact alk_q A C R o1 o2 (plainStep_c2 A hP (Or.inr ⟨j, hj, e, hc⟩)) (plainStep_r2 A hP (Or.inr ⟨j, hj, e, hc⟩))
theorem reg_7 {r : Int32} : (r < 0 ∨ 7 < r) ↔ (r < 0 ∨ 8 ≤ r) := by
  have : (7 < r) ↔ (8 ≤ r) := by rw [Int32.lt_iff_toInt_lt, Int32.le_iff_toInt_le]; show (7 : Int) < _ ↔ (8 : Int) ≤ _; omega
  rw [this]
theorem plainAt_c0 {r n : Int32} (h : (P.1 && !decide (r < 0 ∨ 8 ≤ r)) = false) : Qc z p d P S I (fun σ => f_X8_plainAt z r n σ) (-1) 1 := by
  intro σ tr wh C
  refine ⟨sI σ z 12 1, ?_, C.r 1 (by decide), fg_c 1⟩
  cases hP : P.1 with
  | false => simp only [f_X8_plainAt_47, f_X8_plainAt_42, f_X8_plainAt_20, f_X8_plainAt_15, f_X8_plainAt_0, f_X8_plainAt, C.1.zt, C.1.told, hP, ref_1 C.1.zt, osb, b2i_t, b2i_f, i10, i00, if_true, if_false, Bool.not_true, Bool.not_false, Bool.true_and, Bool.false_and, Bool.and_true, Bool.and_false]
  | true =>
    rw [hP, Bool.true_and] at h
    simp only [f_X8_plainAt_47, f_X8_plainAt_42, f_X8_plainAt_20, f_X8_plainAt_15, f_X8_plainAt_0, f_X8_plainAt, C.1.zt, C.1.told, hP, cReg, h, ref_1 C.1.zt, osb, b2i_t, b2i_f, i10, i00, if_true, if_false, Bool.not_true, Bool.not_false, Bool.true_and, Bool.false_and, Bool.and_true, Bool.and_false]
theorem plainAt_r0 {r n : Int32} (h : (P.1 && !decide (r < 0 ∨ 8 ≤ r)) = false) : Qr M P S I (fun σ => f_X10_plainAt M r n σ) (-1) 1 := by
  intro σ tr wh R
  have R1 := R.1.s0
  refine ⟨sI (sI (sI σ M 0 0) M 1 1) M 2 (-1), ?_, R1.end 1, RS.end (RS.s0 (by omega)) 1⟩
  cases hP : P.1 with
  | false => simp only [f_X10_plainAt_22, f_X10_plainAt_54, f_X10_plainAt_0, f_X10_plainAt, R.1.t, pI_k R.1.t, R1.gq.1 hP, ocn, refd_k R1.t, osb, b2i_t, b2i_f, i10, i00, if_true, if_false, Bool.not_true, Bool.not_false, Bool.true_and, Bool.false_and, Bool.and_true, Bool.and_false]
  | true =>
    obtain ⟨k', e⟩ := R1.gq.2 hP
    rw [hP, Bool.true_and] at h
    have h' : (!decide (r < 0 ∨ 7 < r)) = false := by rw [← h]; congr 1
    simp only [f_X10_plainAt_22, f_X10_plainAt_54, f_X10_plainAt_0, f_X10_plainAt, R.1.t, pI_k R.1.t, e, oco, in_k, h', refd_k R1.t, osb, b2i_t, b2i_f, i10, i00, if_true, if_false, Bool.not_true, Bool.not_false, Bool.true_and, Bool.false_and, Bool.and_true, Bool.and_false]
theorem plainAt_c2 (A : AW P S I B) (hP : P.1 = true) {r n : Int32} (hr : ¬ (r < 0 ∨ 8 ≤ r)) (hn : isJ n ∨ ∃ j, j ≤ 200 ∧ n = nI j ∧ ¬ j ≤ toP P) : Qc z p d P S I (fun σ => f_X8_plainAt z r n σ) (-1) 2 := by
  intro σ tr wh C
  have C1 := C.r 0 (by decide)
  rcases tot_no hn with h | ⟨h1, h2⟩
  · refine ⟨sI (sI σ z 12 0) z 12 2, ?_, C1.r 2 (by decide), (fg_c 0).trans (fg_c 2)⟩
    simp only [f_X8_plainAt_47, f_X8_plainAt_42, f_X8_plainAt_20, f_X8_plainAt_15, f_X8_plainAt_0, f_X8_plainAt, C.1.zt, C.1.told, hP, cReg, decide_eq_false hr, ref_0 C.1.zt, h, ref_1 C1.1.zt, osb, b2i_t, b2i_f, i10, i00, if_true, if_false, Bool.not_true, Bool.not_false, Bool.true_and, Bool.false_and, Bool.and_true, Bool.and_false]
  · obtain ⟨τ, t1, t2, t3⟩ := tot_c C1 A hP
    refine ⟨sI τ z 12 2, ?_, t2.r 2 (by decide), ((fg_c 0).trans t3).trans (fg_c 2)⟩
    simp only [f_X8_plainAt_47, f_X8_plainAt_42, f_X8_plainAt_20, f_X8_plainAt_15, f_X8_plainAt_0, f_X8_plainAt, C.1.zt, C.1.told, hP, cReg, decide_eq_false hr, ref_0 C.1.zt, t1, h1, h2, ref_1 t2.1.zt, osb, b2i_t, b2i_f, i10, i00, if_true, if_false, Bool.not_true, Bool.not_false, Bool.true_and, Bool.false_and, Bool.and_true, Bool.and_false]
theorem plainAt_r2 (A : AW P S I B) (hP : P.1 = true) {r n : Int32} (hr : ¬ (r < 0 ∨ 8 ≤ r)) (hn : isJ n ∨ ∃ j, j ≤ 200 ∧ n = nI j ∧ ¬ j ≤ toP P) : Qr M P S I (fun σ => f_X10_plainAt M r n σ) (-1) 2 := by
  intro σ tr wh R
  have R1 := R.1.s0
  have hr' : ¬ (r < 0 ∨ 7 < r) := fun h => hr (reg_7.mp h)
  obtain ⟨k', e⟩ := R1.gq.2 hP
  rcases hn with h | ⟨j, hj, ej, h⟩
  · refine ⟨sI (sI (sI σ M 0 0) M 1 2) M 2 (-1), ?_, R1.end 2, RS.end (RS.s0 (by omega)) 2⟩
    simp only [f_X10_plainAt_22, f_X10_plainAt_54, f_X10_plainAt_0, f_X10_plainAt, R.1.t, pI_k R.1.t, e, oco, in_k, decide_eq_false hr', pd_0 R1 h, refd_k R1.t, osb, b2i_t, b2i_f, i10, i00, if_true, if_false, Bool.not_true, Bool.not_false, Bool.true_and, Bool.false_and, Bool.and_true, Bool.and_false]
  · subst ej
    obtain ⟨τ, t1, t2, t3, t4⟩ := pd_1 R1 A hP hj
    rw [decide_eq_false h] at t1
    refine ⟨sI (sI τ M 1 2) M 2 (-1), ?_, t3.end 2, RS.end ((RS.s0 (by omega)).trans t2) 2⟩
    simp only [f_X10_plainAt_22, f_X10_plainAt_54, f_X10_plainAt_0, f_X10_plainAt, R.1.t, pI_k R.1.t, e, oco, in_k, decide_eq_false hr', t1, refd_k t3.t, osb, b2i_t, b2i_f, i10, i00, if_true, if_false, Bool.not_true, Bool.not_false, Bool.true_and, Bool.false_and, Bool.and_true, Bool.and_false]
theorem plainAt_c1 (A : AW P S I B) (hP : P.1 = true) {i j : Nat} (hi : i < 8) (hr : ¬ (nI i < 0 ∨ 8 ≤ nI i)) (hj : j ≤ 200) (h : j ≤ toP P) : Qc z p d P S I (fun σ => f_X8_plainAt z (nI i) (nI j) σ) ((plE P.2.1 P.2.2.2.1 0 j).1 i) 0 := by
  intro σ tr wh C
  have C1 := C.r 0 (by decide)
  have ht := (pl_le (P := P) (j := 0) (by omega)).2
  obtain ⟨τ, t1, t2, t3⟩ := tot_c C1 A hP
  have C2 := t2.r 0 (by decide)
  obtain ⟨υ, u1, u2, u3, u4⟩ := C2.play A hP 0 (L := j) (by omega)
  refine ⟨υ, ?_, u2, (((fg_c 0).trans t3).trans (fg_c 0)).trans u3⟩
  simp only [f_X8_plainAt_47, f_X8_plainAt_42, f_X8_plainAt_20, f_X8_plainAt_15, f_X8_plainAt_0, f_X8_plainAt, C.1.zt, C.1.told, hP, cReg, decide_eq_false hr, ref_0 C.1.zt, t1, nI_pos (show j < 2 ^ 31 by omega), nI_le h (show toP P < 2 ^ 31 by omega), ref_0 t2.1.zt, C2.1.pl, C2.1.pg, u1, u2.1.pl, u4.1.1.2.r u4.1.1.1, u4.1.1.2.g hi (show 8 ≤ 100000 by omega), u4.1.2.1 i hi, osb, b2i_t, b2i_f, i10, i00, if_true, if_false, Bool.not_true, Bool.not_false, Bool.true_and, Bool.false_and, Bool.and_true, Bool.and_false]
theorem plainAt_r1 (A : AW P S I B) (hP : P.1 = true) {i j : Nat} (hi : i < 8) (hr : ¬ (nI i < 0 ∨ 8 ≤ nI i)) (hj : j ≤ 200) (h : j ≤ toP P) : Qr M P S I (fun σ => f_X10_plainAt M (nI i) (nI j) σ) ((plE P.2.1 P.2.2.2.1 0 j).1 i) 0 := by
  intro σ tr wh R
  have R1 := R.1.s0
  have hr' : ¬ (nI i < 0 ∨ 7 < nI i) := fun h => hr (reg_7.mp h)
  obtain ⟨k', e⟩ := R1.gq.2 hP
  obtain ⟨τ, t1, t2, t3, t4⟩ := pd_1 R1 A hP hj
  rw [decide_eq_true h] at t1
  refine ⟨sI (sI τ M 1 0) M 2 (-1), ?_, t3.end 0, RS.end ((RS.s0 (by omega)).trans t2) 0⟩
  simp only [f_X10_plainAt_22, f_X10_plainAt_54, f_X10_plainAt_0, f_X10_plainAt, R.1.t, pI_k R.1.t, e, oco, in_k, decide_eq_false hr', t1, t4.1.1.r t3.t, t4.1.1.g hi (show 8 ≤ 100000 by omega), t4.1.2.1 i hi, good_k t3.t, osb, b2i_t, b2i_f, i10, i00, if_true, if_false, Bool.not_true, Bool.not_false, Bool.true_and, Bool.false_and, Bool.and_true, Bool.and_false]
theorem plainAt_a (A : AW P S I B) (C : CJ z p d P S I tr wh σ) (R : RJ (z + 195) P S I tr wh σ) (o1 : hT σ (z + 203) = 24) (o2 : hN σ (z + 203) = 1) (r n : Int32) : Alike z (fun σ => f_X8_plainAt z r n σ) (fun σ => f_X10_plainAt (z + 195) r n σ) B σ := by
  cases hP : P.1 with
  | false => exact alk_q A C R o1 o2 (plainAt_c0 (by rw [hP]; rfl)) (plainAt_r0 (by rw [hP]; rfl))
  | true =>
    rcases reg_c (v := r) with hr | ⟨i, hi, ei, hr⟩
    · exact alk_q A C R o1 o2 (plainAt_c0 (by rw [decide_eq_true hr]; simp)) (plainAt_r0 (by rw [decide_eq_true hr]; simp))
    · rcases isJ_c n with h | ⟨j, hj, e, -⟩
      · exact alk_q A C R o1 o2 (plainAt_c2 A hP hr (Or.inl h)) (plainAt_r2 A hP hr (Or.inl h))
      · by_cases hc : j ≤ toP P
        · subst e; subst ei; exact alk_q A C R o1 o2 (plainAt_c1 A hP hi hr hj hc) (plainAt_r1 A hP hi hr hj hc)
        · exact alk_q A C R o1 o2 (plainAt_c2 A hP hr (Or.inr ⟨j, hj, e, hc⟩)) (plainAt_r2 A hP hr (Or.inr ⟨j, hj, e, hc⟩))
end Qp
