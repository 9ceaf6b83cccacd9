/-! ACTS: both sides -/
section Acts
variable {σ τ υ : St} {z p d M k t na : Nat} {P : PT} {S S' : SX} {I : IT} {tr wh v w : Int32} {B : Nat} {c : Nat → Nat → Int32} {m : Nat} {x : Nat → Int32} {n nc : Nat}
theorem wnf_cs : wnfE c x n nc = 0 ∨ wnfE c x n nc = 1 ∨ wnfE c x n nc = 2 ∨ wnfE c x n nc = 3 ∨ wnfE c x n nc = 4 := by
  unfold wnfE
  by_cases h1 : x 36 = 1
  · rw [if_pos h1]; exact Or.inr (Or.inl rfl)
  · rw [if_neg h1]
    by_cases h2 : x 35 < 0 ∨ c 0 5 ≤ x 35
    · rw [if_pos h2]; exact Or.inr (Or.inr (Or.inl rfl))
    · rw [if_neg h2]
      by_cases h3 : nI n = c 0 1
      · rw [if_pos h3]; exact Or.inr (Or.inr (Or.inr (Or.inl rfl)))
      · rw [if_neg h3]
        by_cases h4 : c 1 (x 35).toNatClampNeg = 5
        · rw [if_pos h4]; exact Or.inl rfl
        · rw [if_neg h4]
          by_cases h5 : merE c x n (x 35).toNatClampNeg = true
          · rw [if_pos h5]; exact Or.inl rfl
          · rw [if_neg h5]
            by_cases h6 : lowE c x n nc = none
            · rw [if_pos h6]; exact Or.inr (Or.inr (Or.inr (Or.inr rfl)))
            · rw [if_neg h6]; exact Or.inl rfl
theorem wnc_cs : wncE x n = 0 ∨ (wncE x n = 1 ∧ n = 0) ∨ ((wncE x n = 2 ∨ wncE x n = 3) ∧ n ≠ 0) := by
  unfold wncE
  by_cases h0 : n = 0
  · rw [if_pos h0]; exact Or.inr (Or.inl ⟨rfl, h0⟩)
  · rw [if_neg h0]
    by_cases h1 : hasB x 0 1 = false
    · rw [if_pos h1]; exact Or.inr (Or.inr ⟨Or.inl rfl, h0⟩)
    · rw [if_neg h1]
      by_cases h2 : hasB x 0 4 = true ∧ rdyE x (x 40) = false
      · rw [if_pos h2]; exact Or.inr (Or.inr ⟨Or.inr rfl, h0⟩)
      · rw [if_neg h2]; exact Or.inl rfl
theorem AW.act (A : AW P S I B) (hP : P.1 = true) {y : Nat → Int32} (G : Gd P (B + 1) y) : AW P (y, (rmS S).2) I (B + 1) := by
  have A1 := A.up (B' := B + 1) (by omega)
  obtain ⟨b1, b2, b3, b4, b5, b6, b7, b8, b9⟩ := A1.2.1 hP
  refine ⟨fun h => absurd (hP.symm.trans h) (by decide), fun _ => ⟨b1, b2, b3, b4, b5, G, fun k hk => ?_, b8, b9⟩, ?_, A.2.2.2.1, A.2.2.2.2⟩
  · show Gd P (B + 1) (rmH S.2.1 S.2.2.1 S.1 k)
    have hk' : k < rmA S.2.1 := hk
    unfold rmA at hk'
    unfold rmH
    by_cases h : S.2.1 = 16
    · rw [if_pos h] at hk' ⊢
      by_cases h2 : k < 15
      · rw [if_pos h2]; exact b7 (k + 1) (by omega)
      · rw [if_neg h2]; exact b6
    · rw [if_neg h] at hk' ⊢
      by_cases h2 : k = S.2.1
      · rw [if_pos h2]; exact b6
      · rw [if_neg h2]; exact b7 k (by omega)
  · show rmA S.2.1 ≤ 16
    have := A.2.2.1
    unfold rmA
    split <;> omega
theorem CJ.lo (C : CJ z p d P S I tr wh σ) (C' : CB z p d P S' I τ) (s : ∀ r, r < z + 30 → Sm σ τ r) : CJ z p d P S' I tr wh τ := ⟨C', by rw [(s z (by omega)).2.2.1]; exact C.2.1, by rw [(s (z + 24) (by omega)).2.2.1]; exact C.2.2⟩
/-- the class acts: it remembers, and its Machine changes -/
theorem act_c (C : CJ z p d P S I tr wh σ) (A : AW P S I B) (hP : P.1 = true) {y : Nat → Int32} (op : ∀ τ, Mq P p τ (z + 30) S.1 → ∃ υ, Fr (inM (z + 30)) τ υ ∧ Mq P p υ (z + 30) y) : ∃ τ υ, f_X2_keep (z + 44) (z + 30) σ = some τ ∧ CB z p d P (rmS S) I τ ∧ Mq P p τ (z + 30) S.1 ∧ Fr (inM (z + 30)) τ υ ∧ CJ z p d P (y, (rmS S).2) I tr wh υ ∧ Fg (inC z) σ υ := by
  have U := (A.2.1 hP).2.2.2.2.2.1.2
  obtain ⟨τ, t1, t2, t3, t4⟩ := keep_h C.1 hP U.2.1
  have M0 : Mq P p τ (z + 30) S.1 := t2.mq hP
  obtain ⟨υ, u1, u2⟩ := op τ M0
  have C2 : CB z p d P (y, (rmS S).2) I υ := t2.now u1.g u2.1 (fun _ => u2)
  refine ⟨τ, υ, t1, t2, M0, u1, C.lo C2 (fun r hr => (t4 r (by omega)).trans (u1.sm (fun h => by have := h.1; omega))), t3.trans (u1.g.mono (fun r h => ⟨by have := h.1; omega, by have := h.2; omega⟩))⟩
theorem act_c' (C : CJ z p d P S I tr wh σ) (A : AW P S I B) (hP : P.1 = true) {y : Nat → Int32} {f : St → Option (Int32 × St)} {v : Int32} (op : ∀ τ, Mq P p τ (z + 30) S.1 → ∃ υ, f τ = some (v, υ) ∧ Fr (inM (z + 30)) τ υ ∧ Mq P p υ (z + 30) y) : ∃ τ υ, f_X2_keep (z + 44) (z + 30) σ = some τ ∧ CB z p d P (rmS S) I τ ∧ f τ = some (v, υ) ∧ CJ z p d P (y, (rmS S).2) I tr wh υ ∧ Fg (inC z) σ υ := by
  have U := (A.2.1 hP).2.2.2.2.2.1.2
  obtain ⟨τ, t1, t2, t3, t4⟩ := keep_h C.1 hP U.2.1
  obtain ⟨υ, u0, u1, u2⟩ := op τ (t2.mq hP)
  have C2 : CB z p d P (y, (rmS S).2) I υ := t2.now u1.g u2.1 (fun _ => u2)
  exact ⟨τ, υ, t1, t2, u0, C.lo C2 (fun r hr => (t4 r (by omega)).trans (u1.sm (fun h => by have := h.1; omega))), t3.trans (u1.g.mono (fun r h => ⟨by have := h.1; omega, by have := h.2; omega⟩))⟩
/-- the reference has worked and remembers -/
theorem RB.rem' (R : RB M P S I σ) (A : AW P S I B) (hP : P.1 = true) (h4 : hI σ (M + 4) = S.1) (h26 : hI σ M 26 = nI P.2.2.2.2.2) : ∃ k τ, f_X10_remembers M σ = some (sR τ (M + 4) S.1) ∧ RB M P (rmS S) I τ ∧ Md τ M k P.2.1 S.1 ∧ hI τ M 26 = nI P.2.2.2.2.2 ∧ Fg (inR M) σ τ := by
  obtain ⟨τ, t1, t2, t3, t4⟩ := R.rem A hP
  obtain ⟨k, D, -⟩ := t2.md hP
  have e4 : hI τ (M + 4) = S.1 := by rw [t3.2.2.2.2.2 (M + 4) (by omega)]; exact h4
  rw [e4] at D
  refine ⟨k, τ, ?_, t2, D, by rw [t4 26 (by omega)]; exact h26, t3.g.mono (fun r h => ⟨by omega, by omega⟩)⟩
  rw [t1, ← e4, sR_id]
theorem fin_r (R : RB M P S I τ) (hP : P.1 = true) {y : Nat → Int32} (hy : ∀ j, 195 ≤ j → y j = 0) (v : Int32) : ∃ υ, f_X10_done M v (sR τ (M + 4) y) = some (v, υ) ∧ RJ M P (y, S.2) I 0 (-1) υ ∧ Fg (inR M) τ υ := by
  obtain ⟨d1, d2⟩ := done_k (v := v) R hP hy
  refine ⟨_, d1, d2.end 0, ?_⟩
  exact (((Fg.sR (S := inR M) ⟨by omega, by omega⟩).trans (Fg.sR ⟨by omega, by omega⟩)).trans (Fg.sI ⟨by omega, by omega⟩)).trans (Fg.sI ⟨by omega, by omega⟩)
theorem z1 : ¬ ((1 : Int32) ≤ 0) := by decide
theorem Gd.ft (G : Gd P B x) (h : wnfE P.2.1 x (nN x) P.2.2.2.2.2 = 0) : Gd P (B + 1) (ftE P.2.1 x (nN x) P.2.2.2.2.2) := by
  obtain ⟨s, hs, es, h3, hl, -⟩ := wnf0 h G.1.1.1.2.1 G.1.1.1.1
  have h12 := (keep_ft G.1.1.2.1 G.1.1.1 G.1.1.2.2.1 G.1.1.2.2.2 hs es h3 hl).1
  have U : Ru (ftE P.2.1 x (nN x) P.2.2.2.2.2) B := Ru.ft h12 G.2
  exact ⟨(G.1.ft h).1, U.1, U.2.1, by obtain ⟨w, hw, ew⟩ := U.2.2; exact ⟨w, by omega, ew⟩⟩
theorem Gd.rn (G : Gd P B x) {i : Nat} (hi : i < nN x) : Gd P (B + 1) (rnE P.2.1 x i) := by
  have U : Ru (rnE P.2.1 x i) B := Ru.rn G.1.1.2.1 hi G.2
  exact ⟨(G.1.rn hi).1, U.1, U.2.1, by obtain ⟨w, hw, ew⟩ := U.2.2; exact ⟨w, by omega, ew⟩⟩
theorem Gd.co (G : Gd P B x) (h0 : 0 < nN x) : Gd P (B + 1) (coE P.2.1 x) := ⟨(G.1.co h0).1, Ru.co G.1.1.2.1 G.1.1.1 h0 G.2⟩
-- fetch
theorem fetch_c0 (hP : P.1 = false) : Qc z p d P S I (fun σ => f_X8_fetch z σ) (-1) 1 := by
  intro σ tr wh C
  refine ⟨sI σ z 12 1, ?_, C.r 1 (by decide), fg_c 1⟩
  simp only [f_X8_fetch, f_X8_fetch_0, f_X8_fetch_13, C.1.zt, C.1.told, hP, ref_1 C.1.zt, osb, b2i_t, b2i_f, i10, i00, if_true, if_false, Bool.not_true, Bool.not_false, Bool.true_and, Bool.false_and, Bool.and_true, Bool.and_false]
theorem fetch_r0 (hP : P.1 = false) : Qr M P S I (fun σ => f_X10_fetch M σ) (-1) 1 := by
  intro σ tr wh R
  have R1 := R.1.s0
  refine ⟨sI (sI (sI σ M 0 0) M 1 1) M 2 (-1), ?_, R1.end 1, RS.end (RS.s0 (by omega)) 1⟩
  simp only [f_X10_fetch, f_X10_fetch_0, R.1.t, pI_k R.1.t, R1.gq.1 hP, ocn, refd_k R1.t, osb, b2i_t, b2i_f, i10, i00, if_true, if_false, Bool.not_true, Bool.not_false, Bool.true_and, Bool.false_and, Bool.and_true, Bool.and_false]
def frE (w : Int32) : Int32 := if w = 1 then 5 else if w = 2 then 6 else 3
theorem fetch_c2 (A : AW P S I B) (hP : P.1 = true) (h : ¬ wnfE P.2.1 S.1 (nN S.1) P.2.2.2.2.2 = 0) : Qc z p d P S I (fun σ => f_X8_fetch z σ) (-1) (frE (wnfE P.2.1 S.1 (nN S.1) P.2.2.2.2.2)) := by
  intro σ tr wh C
  have C1 := C.r 0 (by decide)
  have D := C1.1.mq hP
  have C2 := C1.r 0 (by decide)
  have C3 := C2.r 0 (by decide)
  obtain e | e | e := (show (wnfE P.2.1 S.1 (nN S.1) P.2.2.2.2.2 = 1) ∨ (wnfE P.2.1 S.1 (nN S.1) P.2.2.2.2.2 = 2) ∨ (wnfE P.2.1 S.1 (nN S.1) P.2.2.2.2.2 ≠ 1 ∧ wnfE P.2.1 S.1 (nN S.1) P.2.2.2.2.2 ≠ 2) by
    by_cases q1 : wnfE P.2.1 S.1 (nN S.1) P.2.2.2.2.2 = 1
    · exact Or.inl q1
    · by_cases q2 : wnfE P.2.1 S.1 (nN S.1) P.2.2.2.2.2 = 2
      · exact Or.inr (Or.inl q2)
      · exact Or.inr (Or.inr ⟨q1, q2⟩))
  · refine ⟨sI (sI σ z 12 0) z 12 5, ?_, by rw [e]; exact C1.r 5 (by decide), (fg_c 0).trans (fg_c 5)⟩
    simp only [f_X8_fetch, f_X8_fetch_0, f_X8_fetch_13, f_X8_fetch_41, f_X8_fetch_67, C.1.zt, C.1.told, hP, ref_0 C.1.zt, C1.1.m, wnt_c D, e, ref_1 C1.1.zt, osb, b2i_t, b2i_f, i10, i00, if_true, if_false, Bool.not_true, Bool.not_false, Bool.true_and, Bool.false_and, Bool.and_true, Bool.and_false]
  · refine ⟨sI (sI (sI σ z 12 0) z 12 0) z 12 6, ?_, by rw [e]; exact C2.r 6 (by decide), ((fg_c 0).trans (fg_c 0)).trans (fg_c 6)⟩
    simp only [f_X8_fetch, f_X8_fetch_0, f_X8_fetch_13, f_X8_fetch_41, f_X8_fetch_59, f_X8_fetch_67, C.1.zt, C.1.told, hP, ref_0 C.1.zt, C1.1.m, wnt_c D, e, show ¬ (2 : Int32) = 1 by decide, ref_0 C1.1.zt, ref_1 C2.1.zt, osb, b2i_t, b2i_f, i10, i00, if_true, if_false, Bool.not_true, Bool.not_false, Bool.true_and, Bool.false_and, Bool.and_true, Bool.and_false]
  · refine ⟨sI (sI (sI (sI σ z 12 0) z 12 0) z 12 0) z 12 3, ?_, by unfold frE; rw [if_neg e.1, if_neg e.2]; exact C3.r 3 (by decide), (((fg_c 0).trans (fg_c 0)).trans (fg_c 0)).trans (fg_c 3)⟩
    simp only [f_X8_fetch, f_X8_fetch_0, f_X8_fetch_13, f_X8_fetch_41, f_X8_fetch_59, f_X8_fetch_79, f_X8_fetch_67, C.1.zt, C.1.told, hP, ref_0 C.1.zt, C1.1.m, wnt_c D, e.1, e.2, h, ref_0 C1.1.zt, ref_0 C2.1.zt, ref_1 C3.1.zt, osb, b2i_t, b2i_f, i10, i00, if_true, if_false, Bool.not_true, Bool.not_false, Bool.true_and, Bool.false_and, Bool.and_true, Bool.and_false]
theorem fetch_r2 (A : AW P S I B) (hP : P.1 = true) (h : ¬ wnfE P.2.1 S.1 (nN S.1) P.2.2.2.2.2 = 0) : Qr M P S I (fun σ => f_X10_fetch M σ) (-1) (frE (wnfE P.2.1 S.1 (nN S.1) P.2.2.2.2.2)) := by
  intro σ tr wh R
  have R1 := R.1.s0
  have K := A.rk hP
  obtain ⟨k', e⟩ := R1.gq.2 hP
  obtain ⟨k, ω, w1, w2, Dk, h26, w5, w6⟩ := R1.work A hP
  refine ⟨sI (sI ω M 1 (frE (wnfE P.2.1 S.1 (nN S.1) P.2.2.2.2.2))) M 2 (-1), ?_, w5.end _, RS.end ((RS.s0 (by omega)).trans w6) _⟩
  have hl : ¬ wnfE P.2.1 S.1 (nN S.1) P.2.2.2.2.2 ≤ 0 := by
    rcases wnf_cs (c := P.2.1) (x := S.1) (n := nN S.1) (nc := P.2.2.2.2.2) with q | q | q | q | q
    · exact absurd q h
    all_goals (rw [q]; decide)
  simp only [f_X10_fetch, f_X10_fetch_0, f_X10_fetch_52, R.1.t, pI_k R.1.t, e, oco, w1, wnf_j Dk K.1 h26, hl, refd_k w5.t, osb, b2i_t, b2i_f, i10, i00, if_true, if_false, Bool.not_true, Bool.not_false, Bool.true_and, Bool.false_and, Bool.and_true, Bool.and_false]
  unfold frE
  by_cases q1 : wnfE P.2.1 S.1 (nN S.1) P.2.2.2.2.2 = 1
  · rw [if_pos q1, if_pos q1]
  · rw [if_neg q1, if_neg q1]
    by_cases q2 : wnfE P.2.1 S.1 (nN S.1) P.2.2.2.2.2 = 2
    · rw [if_pos q2, if_pos q2]
    · rw [if_neg q2, if_neg q2]
theorem fetch_a (A : AW P S I B) (C : CJ z p d P S I tr wh σ) (R : RJ (z + 195) P S I tr wh σ) (o1 : hT σ (z + 203) = 24) (o2 : hN σ (z + 203) = 1) : Alike z (fun σ => f_X8_fetch z σ) (fun σ => f_X10_fetch (z + 195) σ) B σ := by
  cases hP : P.1 with
  | false => exact alk_q A C R o1 o2 (fetch_c0 hP) (fetch_r0 hP)
  | true =>
    by_cases h : wnfE P.2.1 S.1 (nN S.1) P.2.2.2.2.2 = 0
    · have G := (A.2.1 hP).2.2.2.2.2.1
      have K := G.1
      have G' := G.ft h
      have C1 := C.r 0 (by decide)
      have D := C1.1.mq hP
      have C2 := C1.r 0 (by decide)
      have C3 := C2.r 0 (by decide)
      have C4 := C3.r 0 (by decide)
      obtain ⟨τ, υ, t1, t2, t3, t4, t5⟩ := act_c' (f := f_X3_take (z + 30)) (v := S.1 35) (y := ftE P.2.1 S.1 (nN S.1) P.2.2.2.2.2) C4 A hP (fun τ M0 => by
        obtain ⟨υ, u1, u2, u3, -⟩ := take_j M0 C.1.hd K.1.2.2.1 K.1.2.2.2 h
        exact ⟨υ, u1, u2, by unfold Mq; rw [(K.ft h).2]; exact u3⟩)
      refine alk_of (v := S.1 35) (A.act hP G') R o1 o2 ⟨υ, ?_, t4, ((((fg_c 0).trans (fg_c 0)).trans (fg_c 0)).trans (fg_c 0)).trans t5⟩ (fun ρ Rρ => ?_)
      · simp only [f_X8_fetch, f_X8_fetch_0, f_X8_fetch_13, f_X8_fetch_41, f_X8_fetch_59, f_X8_fetch_79, C.1.zt, C.1.told, hP, ref_0 C.1.zt, C1.1.m, wnt_c D, h, show ¬ (0 : Int32) = 1 by decide, show ¬ (0 : Int32) = 2 by decide, ref_0 C1.1.zt, ref_0 C2.1.zt, ref_0 C3.1.zt, C4.1.hs, C4.1.m, t1, t2.m, t3, osb, b2i_t, b2i_f, i10, i00, if_true, if_false, Bool.not_true, Bool.not_false, Bool.true_and, Bool.false_and, Bool.and_true, Bool.and_false]
      · have R1 := Rρ.1.s0
        obtain ⟨k', e⟩ := R1.gq.2 hP
        obtain ⟨k, ω, w1, w2, Dk, h26, w5, w6⟩ := R1.work A hP
        obtain ⟨k2, ψ, r1, r2, r3, r4, r5⟩ := w5.rem' A hP (by rw [w2, hI_sRe]) h26
        have ef := fet_j r3 K.1 r4 h
        obtain ⟨φ, f1, f2, f3⟩ := fin_r r2 hP G'.2.1 (S.1 35)
        refine ⟨φ, ?_, f2, ((fg_r.trans w6.g).trans r5).trans f3⟩
        simp only [f_X10_fetch, f_X10_fetch_0, Rρ.1.t, pI_k Rρ.1.t, e, oco, w1, wnf_j Dk K.1 h26, h, l00, r1, ef, f1, osb, b2i_t, b2i_f, i10, i00, if_true, if_false, Bool.not_true, Bool.not_false, Bool.true_and, Bool.false_and, Bool.and_true, Bool.and_false]
    · exact alk_q A C R o1 o2 (fetch_c2 A hP h) (fetch_r2 A hP h)
-- run
theorem run_a (A : AW P S I B) (C : CJ z p d P S I tr wh σ) (R : RJ (z + 195) P S I tr wh σ) (o1 : hT σ (z + 203) = 24) (o2 : hN σ (z + 203) = 1) (i : Int32) : Alike z (fun σ => f_X8_run z i σ) (fun σ => f_X10_run (z + 195) i σ) B σ := by
  cases hi : isEn P S i with
  | false =>
    refine alk_of (v := (-1 : Int32)) (tr' := 1) (wh' := -1) (A.up (by omega)) R o1 o2 ⟨sI σ z 12 1, ?_, C.r 1 (by decide), fg_c 1⟩ (fun ρ Rρ => ⟨sI (sI (sI ρ (z + 195) 0 0) (z + 195) 1 1) (z + 195) 2 (-1), ?_, Rρ.1.s0.end 1, RS.end (RS.s0 (by omega)) 1⟩)
    · simp only [f_X8_run_45, f_X8_run_38, f_X8_run_14, f_X8_run_0, f_X8_run, C.1.zt, cEnt C.1, hi, ref_1 C.1.zt, osb, b2i_t, b2i_f, i10, i00, if_true, if_false, Bool.not_true, Bool.not_false, Bool.true_and, Bool.false_and, Bool.and_true, Bool.and_false]
    · simp only [f_X10_run_0, f_X10_run, Rρ.1.t, pI_k Rρ.1.t, rEnt Rρ.1.s0 A, hi, refd_k Rρ.1.s0.t, osb, b2i_t, b2i_f, i10, i00, if_true, if_false, Bool.not_true, Bool.not_false, Bool.true_and, Bool.false_and, Bool.and_true, Bool.and_false]
  | true =>
    obtain ⟨hP, j, hj, ej⟩ := ent_a A hi
    subst ej
    have G := (A.2.1 hP).2.2.2.2.2.1
    have K := G.1
    have C1 := C.r 0 (by decide)
    have D := C1.1.mq hP
    cases hr : runE S.1 j with
    | false =>
      refine alk_of (v := (-1 : Int32)) (tr' := 5) (wh' := -1) (A.up (by omega)) R o1 o2 ⟨sI (sI σ z 12 0) z 12 5, ?_, C1.r 5 (by decide), (fg_c 0).trans (fg_c 5)⟩ (fun ρ Rρ => ?_)
      · simp only [f_X8_run_45, f_X8_run_38, f_X8_run_14, f_X8_run_0, f_X8_run, C.1.zt, cEnt C.1, hi, ref_0 C.1.zt, C1.1.m, canW_c D hj, hr, ref_1 C1.1.zt, osb, b2i_t, b2i_f, i10, i00, if_true, if_false, Bool.not_true, Bool.not_false, Bool.true_and, Bool.false_and, Bool.and_true, Bool.and_false]
      · have R1 := Rρ.1.s0
        obtain ⟨k, ω, w1, w2, Dk, h26, w5, w6⟩ := R1.work A hP
        refine ⟨sI (sI ω (z + 195) 1 5) (z + 195) 2 (-1), ?_, w5.end 5, RS.end ((RS.s0 (by omega)).trans w6) 5⟩
        simp only [f_X10_run_0, f_X10_run, Rρ.1.t, pI_k Rρ.1.t, rEnt R1 A, hi, w1, run_j Dk K.1 hj, hr, refd_k w5.t, osb, b2i_t, b2i_f, i10, i00, if_true, if_false, Bool.not_true, Bool.not_false, Bool.true_and, Bool.false_and, Bool.and_true, Bool.and_false]
    | true =>
      have G' := G.rn hj
      have C2 := C1.r 0 (by decide)
      obtain ⟨τ, υ, t1, t2, t3, t4, t5⟩ := act_c' (f := f_X3_work (z + 30) (nI j)) (v := rvE P.2.1 S.1 j) (y := rnE P.2.1 S.1 j) C2 A hP (fun τ M0 => by
        obtain ⟨υ, u1, u2, u3, -⟩ := work_j M0 C.1.hd K.1.2.2.1 K.1.2.2.2 hj
        exact ⟨υ, u1, u2, by unfold Mq; rw [(K.rn hj).2]; exact u3⟩)
      refine alk_of (v := rvE P.2.1 S.1 j) (A.act hP G') R o1 o2 ⟨υ, ?_, t4, ((fg_c 0).trans (fg_c 0)).trans t5⟩ (fun ρ Rρ => ?_)
      · simp only [f_X8_run_45, f_X8_run_38, f_X8_run_14, f_X8_run_0, f_X8_run, C.1.zt, cEnt C.1, hi, ref_0 C.1.zt, C1.1.m, canW_c D hj, hr, ref_0 C1.1.zt, C2.1.hs, C2.1.m, t1, t2.m, t3, osb, b2i_t, b2i_f, i10, i00, if_true, if_false, Bool.not_true, Bool.not_false, Bool.true_and, Bool.false_and, Bool.and_true, Bool.and_false]
      · have R1 := Rρ.1.s0
        obtain ⟨k, ω, w1, w2, Dk, h26, w5, w6⟩ := R1.work A hP
        obtain ⟨k2, ψ, r1, r2, r3, r4, r5⟩ := w5.rem' A hP (by rw [w2, hI_sRe]) h26
        have ef := runs_j r3 K.1 hj
        have r2' : RB (z + 195) P (rmS S) I (sI ψ (z + 195) 27 (b2i (msE P.2.1 S.1 j))) := r2.rs (RS.s0 (by omega))
        obtain ⟨φ, f1, f2, f3⟩ := fin_r r2' hP G'.2.1 (rvE P.2.1 S.1 j)
        refine ⟨φ, ?_, f2, (((fg_r.trans w6.g).trans r5).trans (Fg.sI ⟨by omega, by omega⟩)).trans f3⟩
        simp only [f_X10_run_0, f_X10_run, Rρ.1.t, pI_k Rρ.1.t, rEnt R1 A, hi, w1, run_j Dk K.1 hj, hr, r1, ef, f1, osb, b2i_t, b2i_f, i10, i00, if_true, if_false, Bool.not_true, Bool.not_false, Bool.true_and, Bool.false_and, Bool.and_true, Bool.and_false]
-- commit
theorem commit_a (A : AW P S I B) (C : CJ z p d P S I tr wh σ) (R : RJ (z + 195) P S I tr wh σ) (o1 : hT σ (z + 203) = 24) (o2 : hN σ (z + 203) = 1) : Alike z (fun σ => f_X8_commit z σ) (fun σ => f_X10_commit (z + 195) σ) B σ := by
  cases hP : P.1 with
  | false =>
    refine alk_of (v := (-1 : Int32)) (tr' := 1) (wh' := -1) (A.up (by omega)) R o1 o2 ⟨sI σ z 12 1, ?_, C.r 1 (by decide), fg_c 1⟩ (fun ρ Rρ => ⟨sI (sI (sI ρ (z + 195) 0 0) (z + 195) 1 1) (z + 195) 2 (-1), ?_, Rρ.1.s0.end 1, RS.end (RS.s0 (by omega)) 1⟩)
    · simp only [f_X8_commit_44, f_X8_commit_62, f_X8_commit_36, f_X8_commit_13, f_X8_commit_0, f_X8_commit, C.1.zt, C.1.told, hP, ref_1 C.1.zt, osb, b2i_t, b2i_f, i10, i00, if_true, if_false, Bool.not_true, Bool.not_false, Bool.true_and, Bool.false_and, Bool.and_true, Bool.and_false]
    · simp only [f_X10_commit_43, f_X10_commit_0, f_X10_commit, Rρ.1.t, pI_k Rρ.1.t, Rρ.1.s0.gq.1 hP, ocn, refd_k Rρ.1.s0.t, osb, b2i_t, b2i_f, i10, i00, if_true, if_false, Bool.not_true, Bool.not_false, Bool.true_and, Bool.false_and, Bool.and_true, Bool.and_false]
  | true =>
    have G := (A.2.1 hP).2.2.2.2.2.1
    have K := G.1
    have h12 := K.1.n12
    have C1 := C.r 0 (by decide)
    have D := C1.1.mq hP
    have C2 := C1.r 0 (by decide)
    have D2 := C2.1.mq hP
    rcases wnc_cs (x := S.1) (n := nN S.1) with h | ⟨h, h0⟩ | ⟨h, h0⟩
    · have h0 := wnc0 h
      have G' := G.co h0
      have C3 := C2.r 0 (by decide)
      obtain ⟨τ, υ, t1, t2, t3, t4, t5⟩ := act_c' (f := f_X3_retire (z + 30)) (v := cvE S.1) (y := coE P.2.1 S.1) C3 A hP (fun τ M0 => by
        obtain ⟨υ, u1, u2, u3, -⟩ := retire_j M0 C.1.hd K.1.2.2.1 K.1.2.2.2 h0
        exact ⟨υ, u1, u2, by unfold Mq; rw [(K.co h0).2]; exact u3⟩)
      refine alk_of (v := cvE S.1) (A.act hP G') R o1 o2 ⟨υ, ?_, t4, (((fg_c 0).trans (fg_c 0)).trans (fg_c 0)).trans t5⟩ (fun ρ Rρ => ?_)
      · simp only [f_X8_commit_44, f_X8_commit_62, f_X8_commit_36, f_X8_commit_13, f_X8_commit_0, f_X8_commit, C.1.zt, C.1.told, hP, ref_0 C.1.zt, C1.1.m, D.f.2.2.2.1, nI_ne0 h0 (show nN S.1 < 2 ^ 31 by omega), ref_0 C1.1.zt, C2.1.m, wnr_j D2 K.1.2.2.1, h, ref_0 C2.1.zt, C3.1.hs, C3.1.m, t1, t2.m, t3, osb, b2i_t, b2i_f, i10, i00, if_true, if_false, Bool.not_true, Bool.not_false, Bool.true_and, Bool.false_and, Bool.and_true, Bool.and_false]
      · have R1 := Rρ.1.s0
        obtain ⟨k', e⟩ := R1.gq.2 hP
        obtain ⟨k, ω, w1, w2, Dk, h26, w5, w6⟩ := R1.work A hP
        obtain ⟨k2, ψ, r1, r2, r3, r4, r5⟩ := w5.rem' A hP (by rw [w2, hI_sRe]) h26
        have ef := com_j r3 K.1 h0
        obtain ⟨φ, f1, f2, f3⟩ := fin_r r2 hP G'.2.1 (cvE S.1)
        refine ⟨φ, ?_, f2, ((fg_r.trans w6.g).trans r5).trans f3⟩
        simp only [f_X10_commit_43, f_X10_commit_0, f_X10_commit, Rρ.1.t, pI_k Rρ.1.t, e, oco, w1, wnc_j Dk K.1, h, l00, r1, ef, f1, osb, b2i_t, b2i_f, i10, i00, if_true, if_false, Bool.not_true, Bool.not_false, Bool.true_and, Bool.false_and, Bool.and_true, Bool.and_false]
    · refine alk_of (v := (-1 : Int32)) (tr' := 6) (wh' := -1) (A.up (by omega)) R o1 o2 ⟨sI (sI σ z 12 0) z 12 6, ?_, C1.r 6 (by decide), (fg_c 0).trans (fg_c 6)⟩ (fun ρ Rρ => ?_)
      · simp only [f_X8_commit_44, f_X8_commit_62, f_X8_commit_36, f_X8_commit_13, f_X8_commit_0, f_X8_commit, C.1.zt, C.1.told, hP, ref_0 C.1.zt, C1.1.m, D.f.2.2.2.1, h0, nI_0, ref_1 C1.1.zt, osb, b2i_t, b2i_f, i10, i00, if_true, if_false, Bool.not_true, Bool.not_false, Bool.true_and, Bool.false_and, Bool.and_true, Bool.and_false]
      · have R1 := Rρ.1.s0
        obtain ⟨k', e⟩ := R1.gq.2 hP
        obtain ⟨k, ω, w1, w2, Dk, h26, w5, w6⟩ := R1.work A hP
        refine ⟨sI (sI ω (z + 195) 1 6) (z + 195) 2 (-1), ?_, w5.end 6, RS.end ((RS.s0 (by omega)).trans w6) 6⟩
        simp only [f_X10_commit_43, f_X10_commit_0, f_X10_commit, Rρ.1.t, pI_k Rρ.1.t, e, oco, w1, wnc_j Dk K.1, h, l10, refd_k w5.t, osb, b2i_t, b2i_f, i10, i00, if_true, if_false, Bool.not_true, Bool.not_false, Bool.true_and, Bool.false_and, Bool.and_true, Bool.and_false]
    · have hne : ¬ wncE S.1 (nN S.1) = 0 := by rcases h with h | h <;> rw [h] <;> decide
      have hn1 : ¬ wncE S.1 (nN S.1) = 1 := by rcases h with h | h <;> rw [h] <;> decide
      have hl : ¬ wncE S.1 (nN S.1) ≤ 0 := by rcases h with h | h <;> rw [h] <;> decide
      refine alk_of (v := (-1 : Int32)) (tr' := 5) (wh' := -1) (A.up (by omega)) R o1 o2 ⟨sI (sI (sI σ z 12 0) z 12 0) z 12 5, ?_, C2.r 5 (by decide), ((fg_c 0).trans (fg_c 0)).trans (fg_c 5)⟩ (fun ρ Rρ => ?_)
      · simp only [f_X8_commit_44, f_X8_commit_62, f_X8_commit_36, f_X8_commit_13, f_X8_commit_0, f_X8_commit, C.1.zt, C.1.told, hP, ref_0 C.1.zt, C1.1.m, D.f.2.2.2.1, nI_ne0 (show 0 < nN S.1 by omega) (show nN S.1 < 2 ^ 31 by omega), ref_0 C1.1.zt, C2.1.m, wnr_j D2 K.1.2.2.1, hne, ref_1 C2.1.zt, osb, b2i_t, b2i_f, i10, i00, if_true, if_false, Bool.not_true, Bool.not_false, Bool.true_and, Bool.false_and, Bool.and_true, Bool.and_false]
      · have R1 := Rρ.1.s0
        obtain ⟨k', e⟩ := R1.gq.2 hP
        obtain ⟨k, ω, w1, w2, Dk, h26, w5, w6⟩ := R1.work A hP
        refine ⟨sI (sI ω (z + 195) 1 5) (z + 195) 2 (-1), ?_, w5.end 5, RS.end ((RS.s0 (by omega)).trans w6) 5⟩
        simp only [f_X10_commit_43, f_X10_commit_0, f_X10_commit, Rρ.1.t, pI_k Rρ.1.t, e, oco, w1, wnc_j Dk K.1, hl, hn1, refd_k w5.t, osb, b2i_t, b2i_f, i10, i00, if_true, if_false, Bool.not_true, Bool.not_false, Bool.true_and, Bool.false_and, Bool.and_true, Bool.and_false]
end Acts
