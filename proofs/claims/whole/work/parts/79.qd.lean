/-! QUESTIONS: what is drawn -/
section Qd
variable {σ τ υ : St} {z p d M k : Nat} {P : PT} {S : SX} {I : IT} {tr wh v w : Int32} {B s n : Nat}
def drP (P : PT) (S : SX) (s n : Nat) : (Nat → Int32) × Nat := drE P.2.1 P.2.2.2.2.2 n S.1 s 0
theorem CJ.draw (C : CJ z p d P S I tr wh σ) (A : AW P S I B) (hP : P.1 = true) (hs : s < 65537) (hn : n ≤ 300) : ∃ τ, f_X8_drawTries z (nI s) (nI n) σ = some τ ∧ CJ z p d P S I tr wh τ ∧ Fg (inC z) σ τ ∧ Mc τ (z + 37) p P.2.1 P.2.2.1 (drP P S s n).1 (nN (drP P S s n).1) P.2.2.2.2.2 := by
  have D := C.1.mq hP
  have K := A.rk hP
  have pd := C.1.1.pd
  have U := (A.2.1 hP).2.2.2.2.2.1.2
  obtain ⟨τ, t1, t2, t3⟩ := copy_c D C.1.2.2.2.1.2.1 (Or.inl (by omega)) (by omega) U.2.1
  have Z : Zd τ z (z + 37) := ⟨by rw [(t2.2 z (fun h => by have := h.1; omega)).1]; exact C.1.zt, by rw [(t2.2 z (fun h => by have := h.1; omega)).2.2.2.1]; exact C.1.1.2.2.2.2.2.2.1⟩
  obtain ⟨υ, u1, u2, u3, u4⟩ := dt_l (z := z) (a := z + 37) (p := p) (by omega) hn n 0 FU τ S.1 s 0 (by omega) (by unfold FU; omega) hs Z t3 K
  rw [nI_0] at u1
  have G : Fg (inM (z + 37)) σ υ := t2.trans u2.g
  have e : ∀ r, r < z + 37 → hI υ r = hI σ r := fun r hr => (G.2 r (fun h => by have := h.1; omega)).2.2.1
  have hR : drE P.2.1 P.2.2.2.2.2 n S.1 s 0 = drP P S s n := rfl
  rw [hR] at u3
  refine ⟨υ, ?_, ⟨C.1.drawn G u3.1, by rw [e z (by omega)]; exact C.2.1, by rw [e (z + 24) (by omega)]; exact C.2.2⟩, G.mono (fun r h => ⟨by have := h.1; omega, by have := h.2; omega⟩), u3⟩
  simp only [f_X8_drawTries, f_X8_drawTries_0, C.1.zt, C.1.dr, C.1.m, t1, u1, osb, b2i_t, b2i_f, i10, i00, if_true, if_false, Bool.not_true, Bool.not_false, Bool.true_and, Bool.false_and, Bool.and_true, Bool.and_false]
theorem RB.draw (R : RB M P S I σ) (A : AW P S I B) (hP : P.1 = true) (hs : s < 65537) (hn : n ≤ 300) : ∃ k τ, f_X10_tries M (nI s) (nI n) σ = some τ ∧ RS M σ τ ∧ RB M P S I τ ∧ hI τ M 37 = nI (drP P S s n).2 ∧ Md τ M k P.2.1 (drP P S s n).1 := by
  have K := A.rk hP
  have U := (A.2.1 hP).2.2.2.2.2.1.2
  obtain ⟨k, ω, w1, w2, Dk, h26, w5, w6⟩ := R.work A hP
  obtain ⟨k0, D0, -⟩ := R.md hP
  have F2 : FrW M (sI σ M 26 (nI P.2.2.2.2.2)) (sI (sI (sI σ M 26 (nI P.2.2.2.2.2)) M 36 (nI s)) M 37 0) := (FrW.s0 (by omega)).trans (FrW.s0 (by omega))
  have D2 : Md (sI (sI (sI σ M 26 (nI P.2.2.2.2.2)) M 36 (nI s)) M 37 0) M k0 P.2.1 (hI σ (M + 4)) := ((D0.setM _).setM _).setM _
  obtain ⟨τ, t1, t2, t3⟩ := tr_l (L := n) (nc := P.2.2.2.2.2) (m := P.2.2.1) hn n 0 FU (sI (sI (sI σ M 26 (nI P.2.2.2.2.2)) M 36 (nI s)) M 37 0) S.1 s 0 (by omega) (by unfold FU; omega) hs D2 (by simp [hI_sI]) (by simp [hI_sI]) (by rw [hI_sIe]; rfl) K
  rw [nI_0] at t1
  obtain ⟨w, hw, ew⟩ := U.2.2
  have hU := (dr_cnt n S.1 s 0 w B K (by rw [ew]; rfl) U).2.1
  have hR : drE P.2.1 P.2.2.2.2.2 n S.1 s 0 = drP P S s n := rfl
  rw [hR] at t1 t3 hU
  have rs : RS M σ (sR τ (M + 4) (drP P S s n).1) := (((RS.s0 (by omega)).trans F2.rs).trans t2.rs).trans (RS.row hU.1)
  refine ⟨k0, _, ?_, rs, R.rs rs, by rw [hI_sRn (by omega)]; exact t3, (D2.frW t2).to _⟩
  have e1 : pI 11 36 M (nI s) ω = some (sR (sI (sI σ M 26 (nI P.2.2.2.2.2)) M 36 (nI s)) (M + 4) S.1) := by rw [pI_k w5.t, w2, sI_sRc (by omega)]
  have e2 : pI 11 37 M 0 (sR (sI (sI σ M 26 (nI P.2.2.2.2.2)) M 36 (nI s)) (M + 4) S.1) = some (sR (sI (sI (sI σ M 26 (nI P.2.2.2.2.2)) M 36 (nI s)) M 37 0) (M + 4) S.1) := by rw [pI_k (σ := sR (sI (sI σ M 26 (nI P.2.2.2.2.2)) M 36 (nI s)) (M + 4) S.1) R.t, sI_sRc (by omega)]
  simp only [f_X10_tries, f_X10_tries_0, R.t, w1, e1, e2, t1, osb, b2i_t, b2i_f, i10, i00, if_true, if_false, Bool.not_true, Bool.not_false, Bool.true_and, Bool.false_and, Bool.and_true, Bool.and_false]
def noDr (s n : Int32) : Prop := (s < 0 ∨ 65537 ≤ s) ∨ (n < 0 ∨ 300 < n)
theorem dr_c (s n : Int32) : noDr s n ∨ ∃ a b, a < 65537 ∧ b ≤ 300 ∧ s = nI a ∧ n = nI b ∧ ¬ noDr s n := by
  by_cases h : noDr s n
  · exact Or.inl h
  · refine Or.inr ?_
    rcases pk_ix s (n := 65537) (by omega) with q | q | ⟨a, ha, ea⟩
    · exact absurd (Or.inl (Or.inl q)) h
    · exact absurd (Or.inl (Or.inr q)) h
    · rcases pk_ix n (n := 301) (by omega) with q | q | ⟨b, hb, eb⟩
      · exact absurd (Or.inr (Or.inl q)) h
      · exact absurd (Or.inr (Or.inr (Int32.lt_of_lt_of_le (show (300 : Int32) < nI 301 by decide) q))) h
      · exact ⟨a, b, ha, by omega, ea, eb, h⟩
theorem isD_1 {s n : Int32} (h : noDr s n) : f_X8_isDraw s n σ = some (0, σ) := by
  unfold f_X8_isDraw f_X8_isDraw_0 f_X8_isDraw_26 f_X8_isDraw_27
  by_cases h1 : s < 0
  · simp [h1]
  · by_cases h2 : (65537 : Int32) ≤ s
    · simp [h2]
    · by_cases h3 : n < 0
      · simp [h3]
      · have h4 : (300 : Int32) < n := (h.resolve_left (fun q => q.elim h1 h2)).resolve_left h3
        simp [h1, h2, h3, h4]
theorem isD_0 {s n : Int32} (h : ¬ noDr s n) : f_X8_isDraw s n σ = some (1, σ) := by
  unfold f_X8_isDraw f_X8_isDraw_0 f_X8_isDraw_27
  have h1 : ¬ s < 0 := fun q => h (Or.inl (Or.inl q))
  have h2 : ¬ (65537 : Int32) ≤ s := fun q => h (Or.inl (Or.inr q))
  have h3 : ¬ n < 0 := fun q => h (Or.inr (Or.inl q))
  have h4 : ¬ (300 : Int32) < n := fun q => h (Or.inr (Or.inr q))
  simp [h1, h2, h3, h4]
theorem d6 {s : Int32} : (65536 < s) ↔ (65537 ≤ s) := by rw [Int32.lt_iff_toInt_lt, Int32.le_iff_toInt_le]; show (65536 : Int) < _ ↔ (65537 : Int) ≤ _; omega
theorem rd_0 (h : hT σ M = 11) {s n : Int32} : f_X10_refusesDraw M 0 s n σ = some (1, σ) := by
  unfold f_X10_refusesDraw f_X10_refusesDraw_0 f_X10_refusesDraw_35
  rw [if_pos h, if_pos rfl]
theorem rd_1 (h : hT σ M = 11) {s n : Int32} (hd : noDr s n) : f_X10_refusesDraw M 1 s n σ = some (2, σ) := by
  simp only [f_X10_refusesDraw, f_X10_refusesDraw_0, f_X10_refusesDraw_34, f_X10_refusesDraw_35, h, in_k, osb, b2i_t, b2i_f, i10, i00, if_true, if_false, Bool.not_true, Bool.not_false, Bool.true_and, Bool.false_and, Bool.and_true, Bool.and_false]
  by_cases h1 : s < 0 ∨ 65536 < s
  · rw [decide_eq_true h1]; rfl
  · have h1' : ¬ (s < 0 ∨ 65537 ≤ s) := fun q => h1 (q.imp id d6.mpr)
    rw [decide_eq_false h1, decide_eq_true (hd.resolve_left h1')]; rfl
theorem rd_2 (h : hT σ M = 11) {s n : Int32} (hd : ¬ noDr s n) : f_X10_refusesDraw M 1 s n σ = some (0, σ) := by
  have h1 : ¬ (s < 0 ∨ 65536 < s) := fun q => hd (Or.inl (q.imp id d6.mp))
  have h2 : ¬ (n < 0 ∨ 300 < n) := fun q => hd (Or.inr q)
  simp only [f_X10_refusesDraw, f_X10_refusesDraw_0, f_X10_refusesDraw_35, h, in_k, decide_eq_false h1, decide_eq_false h2, osb, b2i_t, b2i_f, i10, i00, if_true, if_false, Bool.not_true, Bool.not_false, Bool.true_and, Bool.false_and, Bool.and_true, Bool.and_false]
theorem drawnCommits_c0 (hP : P.1 = false) {s n : Int32} : Qc z p d P S I (fun σ => f_X8_drawnCommits z s n σ) (-1) 1 := by
  intro σ tr wh C
  refine ⟨sI σ z 12 1, ?_, C.r 1 (by decide), fg_c 1⟩
  simp only [f_X8_drawnCommits_41, f_X8_drawnCommits_34, f_X8_drawnCommits_13, f_X8_drawnCommits_0, f_X8_drawnCommits, C.1.zt, C.1.told, hP, ref_1 C.1.zt, osb, b2i_t, b2i_f, i10, i00, if_true, if_false, Bool.not_true, Bool.not_false, Bool.true_and, Bool.false_and, Bool.and_true, Bool.and_false]
theorem drawnCommits_r0 (hP : P.1 = false) {s n : Int32} : Qr M P S I (fun σ => f_X10_drawnCommits M s n σ) (-1) 1 := by
  intro σ tr wh R
  have R1 := R.1.s0
  refine ⟨sI (sI (sI σ M 0 0) M 1 1) M 2 (-1), ?_, R1.end 1, RS.end (RS.s0 (by omega)) 1⟩
  simp only [f_X10_drawnCommits_18, f_X10_drawnCommits_0, f_X10_drawnCommits, R.1.t, pI_k R.1.t, R1.gq.1 hP, ocn, rd_0 R1.t, l10, refd_k R1.t, osb, b2i_t, b2i_f, i10, i00, if_true, if_false, Bool.not_true, Bool.not_false, Bool.true_and, Bool.false_and, Bool.and_true, Bool.and_false]
theorem drawnCommits_c2 (hP : P.1 = true) {s n : Int32} (h : noDr s n) : Qc z p d P S I (fun σ => f_X8_drawnCommits z s n σ) (-1) 2 := by
  intro σ tr wh C
  have C1 := C.r 0 (by decide)
  refine ⟨sI (sI σ z 12 0) z 12 2, ?_, C1.r 2 (by decide), (fg_c 0).trans (fg_c 2)⟩
  simp only [f_X8_drawnCommits_41, f_X8_drawnCommits_34, f_X8_drawnCommits_13, f_X8_drawnCommits_0, f_X8_drawnCommits, C.1.zt, C.1.told, hP, ref_0 C.1.zt, isD_1 h, ref_1 C1.1.zt, osb, b2i_t, b2i_f, i10, i00, if_true, if_false, Bool.not_true, Bool.not_false, Bool.true_and, Bool.false_and, Bool.and_true, Bool.and_false]
theorem drawnCommits_r2 (hP : P.1 = true) {s n : Int32} (h : noDr s n) : Qr M P S I (fun σ => f_X10_drawnCommits M s n σ) (-1) 2 := by
  intro σ tr wh R
  have R1 := R.1.s0
  obtain ⟨k', e⟩ := R1.gq.2 hP
  refine ⟨sI (sI (sI σ M 0 0) M 1 2) M 2 (-1), ?_, R1.end 2, RS.end (RS.s0 (by omega)) 2⟩
  simp only [f_X10_drawnCommits_18, f_X10_drawnCommits_0, f_X10_drawnCommits, R.1.t, pI_k R.1.t, e, oco, rd_1 R1.t h, l20, refd_k R1.t, osb, b2i_t, b2i_f, i10, i00, if_true, if_false, Bool.not_true, Bool.not_false, Bool.true_and, Bool.false_and, Bool.and_true, Bool.and_false]
theorem drawnCommits_c1 (A : AW P S I B) (hP : P.1 = true) {a b : Nat} (ha : a < 65537) (hb : b ≤ 300) (h : ¬ noDr (nI a) (nI b)) : Qc z p d P S I (fun σ => f_X8_drawnCommits z (nI a) (nI b) σ) (nI (drP P S a b).2) 0 := by
  intro σ tr wh C
  have C1 := C.r 0 (by decide)
  have C2 := C1.r 0 (by decide)
  obtain ⟨τ, t1, t2, t3, t4⟩ := C2.draw A hP ha hb
  have U := (A.2.1 hP).2.2.2.2.2.1.2
  obtain ⟨w, hw, ew⟩ := U.2.2
  have hc := (dr_cnt b S.1 a 0 w B (A.rk hP) (by rw [ew]; rfl) U).1
  have hR : drE P.2.1 P.2.2.2.2.2 b S.1 a 0 = drP P S a b := rfl
  rw [hR] at hc
  have g1 : gI 4 19 (z + 37) τ = some (nI (w + (drP P S a b).2)) := by rw [t4.f.2.2.2.2.2.2.2, hc]
  have g2 : gI 4 19 (z + 30) τ = some (nI w) := by rw [(t2.1.mq hP).f.2.2.2.2.2.2.2, ew]
  refine ⟨τ, ?_, t2, ((fg_c 0).trans (fg_c 0)).trans t3⟩
  simp only [f_X8_drawnCommits_41, f_X8_drawnCommits_34, f_X8_drawnCommits_13, f_X8_drawnCommits_0, f_X8_drawnCommits, C.1.zt, C.1.told, hP, ref_0 C.1.zt, isD_0 h, ref_0 C1.1.zt, t1, t2.1.dr, t2.1.m, g1, g2, osb, b2i_t, b2i_f, i10, i00, if_true, if_false, Bool.not_true, Bool.not_false, Bool.true_and, Bool.false_and, Bool.and_true, Bool.and_false]
  rw [pk_sub (by omega), show w + (drP P S a b).2 - w = (drP P S a b).2 by omega]
theorem drawnCommits_r1 (A : AW P S I B) (hP : P.1 = true) {a b : Nat} (ha : a < 65537) (hb : b ≤ 300) (h : ¬ noDr (nI a) (nI b)) : Qr M P S I (fun σ => f_X10_drawnCommits M (nI a) (nI b) σ) (nI (drP P S a b).2) 0 := by
  intro σ tr wh R
  have R1 := R.1.s0
  obtain ⟨k', e⟩ := R1.gq.2 hP
  obtain ⟨k, τ, t1, t2, t3, t4, t5⟩ := R1.draw A hP ha hb
  refine ⟨sI (sI τ M 1 0) M 2 (-1), ?_, t3.end 0, RS.end ((RS.s0 (by omega)).trans t2) 0⟩
  simp only [f_X10_drawnCommits_18, f_X10_drawnCommits_0, f_X10_drawnCommits, R.1.t, pI_k R.1.t, e, oco, rd_2 R1.t h, l00, t1, gI_k t3.t, t4, good_k t3.t, osb, b2i_t, b2i_f, i10, i00, if_true, if_false, Bool.not_true, Bool.not_false, Bool.true_and, Bool.false_and, Bool.and_true, Bool.and_false]
theorem drawnCommits_a (A : AW P S I B) (C : CJ z p d P S I tr wh σ) (R : RJ (z + 195) P S I tr wh σ) (o1 : hT σ (z + 203) = 24) (o2 : hN σ (z + 203) = 1) (s n : Int32) : Alike z (fun σ => f_X8_drawnCommits z s n σ) (fun σ => f_X10_drawnCommits (z + 195) s n σ) B σ := by
  cases hP : P.1 with
  | false => exact alk_q A C R o1 o2 (drawnCommits_c0 hP) (drawnCommits_r0 hP)
  | true =>
    rcases dr_c s n with h | ⟨a, b, ha, hb, ea, eb, h⟩
    · exact alk_q A C R o1 o2 (drawnCommits_c2 hP h) (drawnCommits_r2 hP h)
    · subst ea; subst eb; exact alk_q A C R o1 o2 (drawnCommits_c1 A hP ha hb h) (drawnCommits_r1 A hP ha hb h)
theorem drawnValue_c0 {r s n : Int32} (h : (P.1 && !decide (r < 0 ∨ 8 ≤ r)) = false) : Qc z p d P S I (fun σ => f_X8_drawnValue z r s n σ) (-1) 1 := by
  intro σ tr wh C
  refine ⟨sI σ z 12 1, ?_, C.r 1 (by decide), fg_c 1⟩
  cases hP : P.1 with
  | false => simp only [f_X8_drawnValue_48, f_X8_drawnValue_41, f_X8_drawnValue_20, f_X8_drawnValue_15, f_X8_drawnValue_0, f_X8_drawnValue, C.1.zt, C.1.told, hP, ref_1 C.1.zt, osb, b2i_t, b2i_f, i10, i00, if_true, if_false, Bool.not_true, Bool.not_false, Bool.true_and, Bool.false_and, Bool.and_true, Bool.and_false]
  | true =>
    rw [hP, Bool.true_and] at h
    simp only [f_X8_drawnValue_48, f_X8_drawnValue_41, f_X8_drawnValue_20, f_X8_drawnValue_15, f_X8_drawnValue_0, f_X8_drawnValue, C.1.zt, C.1.told, hP, cReg, h, ref_1 C.1.zt, osb, b2i_t, b2i_f, i10, i00, if_true, if_false, Bool.not_true, Bool.not_false, Bool.true_and, Bool.false_and, Bool.and_true, Bool.and_false]
theorem drawnValue_r0 {r s n : Int32} (h : (P.1 && !decide (r < 0 ∨ 8 ≤ r)) = false) : Qr M P S I (fun σ => f_X10_drawnValue M r s n σ) (-1) 1 := by
  intro σ tr wh R
  have R1 := R.1.s0
  refine ⟨sI (sI (sI σ M 0 0) M 1 1) M 2 (-1), ?_, R1.end 1, RS.end (RS.s0 (by omega)) 1⟩
  simp only [f_X10_drawnValue_0, f_X10_drawnValue, R.1.t, pI_k R.1.t, rReg R1, h, rd_0 R1.t, l10, refd_k R1.t, osb, b2i_t, b2i_f, i10, i00, if_true, if_false, Bool.not_true, Bool.not_false, Bool.true_and, Bool.false_and, Bool.and_true, Bool.and_false]
theorem drawnValue_c2 (hP : P.1 = true) {r s n : Int32} (hr : ¬ (r < 0 ∨ 8 ≤ r)) (h : noDr s n) : Qc z p d P S I (fun σ => f_X8_drawnValue z r s n σ) (-1) 2 := by
  intro σ tr wh C
  have C1 := C.r 0 (by decide)
  refine ⟨sI (sI σ z 12 0) z 12 2, ?_, C1.r 2 (by decide), (fg_c 0).trans (fg_c 2)⟩
  simp only [f_X8_drawnValue_48, f_X8_drawnValue_41, f_X8_drawnValue_20, f_X8_drawnValue_15, f_X8_drawnValue_0, f_X8_drawnValue, C.1.zt, C.1.told, hP, cReg, decide_eq_false hr, ref_0 C.1.zt, isD_1 h, ref_1 C1.1.zt, osb, b2i_t, b2i_f, i10, i00, if_true, if_false, Bool.not_true, Bool.not_false, Bool.true_and, Bool.false_and, Bool.and_true, Bool.and_false]
theorem drawnValue_r2 (hP : P.1 = true) {r s n : Int32} (hr : ¬ (r < 0 ∨ 8 ≤ r)) (h : noDr s n) : Qr M P S I (fun σ => f_X10_drawnValue M r s n σ) (-1) 2 := by
  intro σ tr wh R
  have R1 := R.1.s0
  refine ⟨sI (sI (sI σ M 0 0) M 1 2) M 2 (-1), ?_, R1.end 2, RS.end (RS.s0 (by omega)) 2⟩
  simp only [f_X10_drawnValue_0, f_X10_drawnValue, R.1.t, pI_k R.1.t, rReg R1, hP, decide_eq_false hr, rd_1 R1.t h, l20, refd_k R1.t, osb, b2i_t, b2i_f, i10, i00, if_true, if_false, Bool.not_true, Bool.not_false, Bool.true_and, Bool.false_and, Bool.and_true, Bool.and_false]
theorem drawnValue_c1 (A : AW P S I B) (hP : P.1 = true) {i a b : Nat} (hi : i < 8) (hr : ¬ (nI i < 0 ∨ 8 ≤ nI i)) (ha : a < 65537) (hb : b ≤ 300) (h : ¬ noDr (nI a) (nI b)) : Qc z p d P S I (fun σ => f_X8_drawnValue z (nI i) (nI a) (nI b) σ) (kvE P.2.1 (drP P S a b).1 (nN (drP P S a b).1) i) 0 := by
  intro σ tr wh C
  have C1 := C.r 0 (by decide)
  have C2 := C1.r 0 (by decide)
  obtain ⟨τ, t1, t2, t3, t4⟩ := C2.draw A hP ha hb
  refine ⟨τ, ?_, t2, ((fg_c 0).trans (fg_c 0)).trans t3⟩
  simp only [f_X8_drawnValue_48, f_X8_drawnValue_41, f_X8_drawnValue_20, f_X8_drawnValue_15, f_X8_drawnValue_0, f_X8_drawnValue, C.1.zt, C.1.told, hP, cReg, decide_eq_false hr, ref_0 C.1.zt, isD_0 h, ref_0 C1.1.zt, t1, t2.1.dr, kv_c t4 hi, osb, b2i_t, b2i_f, i10, i00, if_true, if_false, Bool.not_true, Bool.not_false, Bool.true_and, Bool.false_and, Bool.and_true, Bool.and_false]
theorem drawnValue_r1 (A : AW P S I B) (hP : P.1 = true) {i a b : Nat} (hi : i < 8) (hr : ¬ (nI i < 0 ∨ 8 ≤ nI i)) (ha : a < 65537) (hb : b ≤ 300) (h : ¬ noDr (nI a) (nI b)) : Qr M P S I (fun σ => f_X10_drawnValue M (nI i) (nI a) (nI b) σ) (kvE P.2.1 (drP P S a b).1 (nN (drP P S a b).1) i) 0 := by
  intro σ tr wh R
  have R1 := R.1.s0
  obtain ⟨k, τ, t1, t2, t3, t4, t5⟩ := R1.draw A hP ha hb
  have U := (A.2.1 hP).2.2.2.2.2.1.2
  obtain ⟨w, hw, ew⟩ := U.2.2
  have hK := (dr_cnt b S.1 a 0 w B (A.rk hP) (by rw [ew]; rfl) U).2.2
  have hR : drE P.2.1 P.2.2.2.2.2 b S.1 a 0 = drP P S a b := rfl
  rw [hR] at hK
  refine ⟨sI (sI τ M 1 0) M 2 (-1), ?_, t3.end 0, RS.end ((RS.s0 (by omega)).trans t2) 0⟩
  simp only [f_X10_drawnValue_0, f_X10_drawnValue, R.1.t, pI_k R.1.t, rReg R1, hP, decide_eq_false hr, rd_2 R1.t h, l00, t1, kv_k t5 hK.1 hi, good_k t3.t, osb, b2i_t, b2i_f, i10, i00, if_true, if_false, Bool.not_true, Bool.not_false, Bool.true_and, Bool.false_and, Bool.and_true, Bool.and_false]
theorem drawnValue_a (A : AW P S I B) (C : CJ z p d P S I tr wh σ) (R : RJ (z + 195) P S I tr wh σ) (o1 : hT σ (z + 203) = 24) (o2 : hN σ (z + 203) = 1) (r s n : Int32) : Alike z (fun σ => f_X8_drawnValue z r s n σ) (fun σ => f_X10_drawnValue (z + 195) r s n σ) B σ := by
  cases hP : P.1 with
  | false => exact alk_q A C R o1 o2 (drawnValue_c0 (by rw [hP]; rfl)) (drawnValue_r0 (by rw [hP]; rfl))
  | true =>
    rcases reg_c (v := r) with hr | ⟨i, hi, ei, hr⟩
    · exact alk_q A C R o1 o2 (drawnValue_c0 (by rw [decide_eq_true hr]; simp)) (drawnValue_r0 (by rw [decide_eq_true hr]; simp))
    · rcases dr_c s n with h | ⟨a, b, ha, hb, ea, eb, h⟩
      · exact alk_q A C R o1 o2 (drawnValue_c2 hP hr h) (drawnValue_r2 hP hr h)
      · subst ea; subst eb; subst ei; exact alk_q A C R o1 o2 (drawnValue_c1 A hP hi hr ha hb h) (drawnValue_r1 A hP hi hr ha hb h)
end Qd
