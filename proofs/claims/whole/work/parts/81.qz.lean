/-! QUESTIONS: a cell, an entry, sizes, what is told -/
section Qz
variable {σ τ υ : St} {z p d M k : Nat} {P : PT} {S : SX} {I : IT} {tr wh v w : Int32} {B : Nat} {c : Nat → Nat → Int32} {m : Nat} {x : Nat → Int32} {n nc : Nat}
theorem wt_rl (D : Md σ M k c x) (h34 : x 34 = nI n) (h12 : n ≤ 12) (v : Int32) : ∀ (q i fu : Nat), i + q = n → q < fu → f_X10_waitingFor_4 fu M v (nI (cntN (wtE x v) i)) (nI i) σ = some (nI (cntN (wtE x v) n), σ)
  | 0, i, fu, hi, hf => by
    obtain ⟨f, rfl⟩ : ∃ f, fu = f + 1 := ⟨fu - 1, by omega⟩
    obtain rfl : i = n := by omega
    rw [e_X10_waitingFor_4, xa_k D, osb, r34_k D, osb, h34, if_pos (nI_le (Nat.le_refl _) (by omega))]
  | q + 1, i, fu, hi, hf => by
    obtain ⟨f, rfl⟩ : ∃ f, fu = f + 1 := ⟨fu - 1, by omega⟩
    have ih := wt_rl D h34 h12 v q (i + 1) f (by omega) (by omega)
    rw [e_X10_waitingFor_4, xa_k D, osb, r34_k D, osb, h34, if_neg (nI_ge (by omega) (by omega)), has_k D (by omega), osb]
    unfold f_X10_waitingFor_38 f_X10_waitingFor_39
    dsimp only
    cases hd : hasB x i 1 with
    | true =>
      rw [if_neg (by decide), bndu, i_add_0, nI_1]
      simp only [cntN, wtE, hd, Bool.not_true, Bool.false_and, Bool.false_eq_true, if_false, Nat.add_zero] at ih
      exact ih
    | false =>
      rw [if_pos (by decide), reads_k D (by omega), osb]
      dsimp only
      cases hr : rdE x i v with
      | false =>
        rw [if_pos (by decide), bndu, i_add_0, nI_1]
        simp only [cntN, wtE, hd, hr, Bool.not_false, Bool.true_and, Bool.false_eq_true, if_false, Nat.add_zero] at ih
        exact ih
      | true =>
        rw [if_neg (by decide), bndu, nI_1, nI_1]
        simp only [cntN, wtE, hd, hr, Bool.not_false, Bool.true_and, if_true] at ih
        exact ih
theorem wt_k (D : Md σ M k c x) (h34 : x 34 = nI n) (h12 : n ≤ 12) (v : Int32) : f_X10_waitingFor M v σ = some (nI (cntN (wtE x v) n), σ) := by
  have := wt_rl D h34 h12 v n 0 FU (by omega) (by unfold FU; omega)
  unfold f_X10_waitingFor f_X10_waitingFor_0
  rw [if_pos D.1, ← nI_0]
  exact this
def noCe (P : PT) (v w : Int32) : Prop := P.1 = false ∨ (v < 0 ∨ nI P.2.2.2.2.2 ≤ v) ∨ (w < 0 ∨ 2 < w)
theorem cell_c0 (A : AW P S I B) {v w : Int32} (h : noCe P v w) : Qc z p d P S I (fun σ => f_X8_cell z v w σ) (-1) 1 := by
  intro σ tr wh C
  refine ⟨sI σ z 12 1, ?_, C.r 1 (by decide), fg_c 1⟩
  cases hP : P.1 with
  | false => simp only [f_X8_cell_75, f_X8_cell_37, f_X8_cell_32, f_X8_cell_0, f_X8_cell, C.1.zt, C.1.told, hP, ref_1 C.1.zt, osb, b2i_t, b2i_f, i10, i00, if_true, if_false, Bool.not_true, Bool.not_false, Bool.true_and, Bool.false_and, Bool.and_true, Bool.and_false]
  | true =>
    have D := C.1.mq hP
    have g0 : gI 6 0 p σ = some (nI P.2.2.2.2.2) := by rw [D.g.1, (A.2.1 hP).2.2.2.2.1]
    have h := h.resolve_left (by rw [hP]; decide)
    by_cases h1 : v < 0
    · simp only [f_X8_cell_75, f_X8_cell_37, f_X8_cell_32, f_X8_cell_0, f_X8_cell, C.1.zt, C.1.told, hP, h1, ref_1 C.1.zt, osb, b2i_t, b2i_f, i10, i00, if_true, if_false, Bool.not_true, Bool.not_false, Bool.true_and, Bool.false_and, Bool.and_true, Bool.and_false]
    · by_cases h2 : nI P.2.2.2.2.2 ≤ v
      · simp only [f_X8_cell_75, f_X8_cell_37, f_X8_cell_32, f_X8_cell_0, f_X8_cell, C.1.zt, C.1.told, hP, h1, C.1.pg, g0, h2, ref_1 C.1.zt, osb, b2i_t, b2i_f, i10, i00, if_true, if_false, Bool.not_true, Bool.not_false, Bool.true_and, Bool.false_and, Bool.and_true, Bool.and_false]
      · have h := h.resolve_left (fun q => q.elim h1 h2)
        by_cases h3 : w < 0
        · simp only [f_X8_cell_75, f_X8_cell_37, f_X8_cell_32, f_X8_cell_0, f_X8_cell, C.1.zt, C.1.told, hP, h1, C.1.pg, g0, h2, h3, ref_1 C.1.zt, osb, b2i_t, b2i_f, i10, i00, if_true, if_false, Bool.not_true, Bool.not_false, Bool.true_and, Bool.false_and, Bool.and_true, Bool.and_false]
        · have h4 : ¬ w ≤ 2 := Int32.not_le.mpr (h.resolve_left h3)
          simp only [f_X8_cell_75, f_X8_cell_37, f_X8_cell_32, f_X8_cell_0, f_X8_cell, C.1.zt, C.1.told, hP, h1, C.1.pg, g0, h2, h3, h4, ref_1 C.1.zt, osb, b2i_t, b2i_f, i10, i00, if_true, if_false, Bool.not_true, Bool.not_false, Bool.true_and, Bool.false_and, Bool.and_true, Bool.and_false]
theorem rCel (R : RB M P S I σ) (A : AW P S I B) (v : Int32) : f_X10_isCell M v σ = some (b2i (P.1 && !decide (v < 0 ∨ nI P.2.2.2.2.2 ≤ v)), σ) := by
  unfold f_X10_isCell f_X10_isCell_0 f_X10_isCell_26 f_X10_isCell_27
  rw [if_pos R.t]
  cases hP : P.1 with
  | false => rw [R.gq.1 hP, osb, ocn]; rfl
  | true =>
    obtain ⟨k, D, -⟩ := R.md hP
    have e : gQ 11 3 M σ = some (some k) := by rw [gQ_k R.t, D.2.2.1]
    rw [e, osb, oco, core_k D, osb, gI_k D.2.2.2.1.1, osb, D.2.2.2.2.1.1, (A.2.1 hP).2.2.2.2.1]
    by_cases h1 : v < 0
    · simp [h1, b2i]
    · by_cases h2 : nI P.2.2.2.2.2 ≤ v <;> simp [h1, h2, b2i]
theorem cell_r0 (A : AW P S I B) {v w : Int32} (h : noCe P v w) : Qr M P S I (fun σ => f_X10_cell M v w σ) (-1) 1 := by
  intro σ tr wh R
  have R1 := R.1.s0
  refine ⟨sI (sI (sI σ M 0 0) M 1 1) M 2 (-1), ?_, R1.end 1, RS.end (RS.s0 (by omega)) 1⟩
  cases hc : (P.1 && !decide (v < 0 ∨ nI P.2.2.2.2.2 ≤ v)) with
  | false => simp only [f_X10_cell_22, f_X10_cell_83, f_X10_cell_0, f_X10_cell, R.1.t, pI_k R.1.t, rCel R1 A, hc, refd_k R1.t, osb, b2i_t, b2i_f, i10, i00, if_true, if_false, Bool.not_true, Bool.not_false, Bool.true_and, Bool.false_and, Bool.and_true, Bool.and_false]
  | true =>
    simp only [Bool.and_eq_true, Bool.not_eq_true', decide_eq_false_iff_not] at hc
    have h := (h.resolve_left (by rw [hc.1]; decide)).resolve_left hc.2
    simp only [f_X10_cell_22, f_X10_cell_83, f_X10_cell_0, f_X10_cell, R.1.t, pI_k R.1.t, rCel R1 A, hc.1, decide_eq_false hc.2, in_k, decide_eq_true h, refd_k R1.t, osb, b2i_t, b2i_f, i10, i00, if_true, if_false, Bool.not_true, Bool.not_false, Bool.true_and, Bool.false_and, Bool.and_true, Bool.and_false]
def clE (P : PT) (x : Nat → Int32) (j q : Nat) : Int32 := if q = 0 then (if bt (x 33) j = true then x (9 + j) else -2) else if q = 1 then nI (hldE x (nN x) (nI j) (bt (setN (goneE P.2.1 x (nN x)) 8))) else nI (cntN (wtE x (nI j)) (nN x))
theorem noC_j {j q : Nat} (A : AW P S I B) (hP : P.1 = true) (hj : j < P.2.2.2.2.2) (hq : q < 3) : ¬ nI j < 0 ∧ ¬ nI P.2.2.2.2.2 ≤ nI j ∧ ¬ nI q < 0 ∧ nI q ≤ 2 := by
  have h24 := (A.2.1 hP).2.2.2.1
  exact ⟨nI_pos (by omega), nI_ge hj (by omega), nI_pos (by omega), nI_le (b := 2) (by omega) (by omega)⟩
theorem cell_c1 (A : AW P S I B) (hP : P.1 = true) {j q : Nat} (hj : j < P.2.2.2.2.2) (hq : q < 3) : Qc z p d P S I (fun σ => f_X8_cell z (nI j) (nI q) σ) (clE P S.1 j q) 0 := by
  intro σ tr wh C
  have C1 := C.r 0 (by decide)
  have D0 := C.1.mq hP
  have D := C1.1.mq hP
  have h24 := D.c24
  have g0 : gI 6 0 p σ = some (nI P.2.2.2.2.2) := by rw [D0.g.1, (A.2.1 hP).2.2.2.2.1]
  obtain ⟨n1, n2, n3, n4⟩ := noC_j A hP hj hq
  refine ⟨sI σ z 12 0, ?_, C1, fg_c 0⟩
  simp only [f_X8_cell_75, f_X8_cell_37, f_X8_cell_32, f_X8_cell_0, f_X8_cell, C.1.zt, C.1.told, hP, n1, C.1.pg, g0, n2, n3, n4, ref_0 C.1.zt, osb, b2i_t, b2i_f, i10, i00, if_true, if_false, Bool.not_true, Bool.not_false, Bool.true_and, Bool.false_and, Bool.and_true, Bool.and_false]
  unfold clE
  have hr := rdy_c D (v := nI j) (Or.inr ⟨j, hj, rfl⟩)
  obtain rfl | rfl | rfl : q = 0 ∨ q = 1 ∨ q = 2 := by omega
  · have e : (!decide (nI j = -2) && rdyE S.1 (nI j)) = bt (S.1 33) j := by
      unfold rdyE
      rw [decide_eq_false (nI_nm2 (by omega)), nI_clamp (by omega)]; simp
    rw [e] at hr
    simp only [nI_0, C1.1.m, hr, (D.v (w := j) (by omega)).1, (D.v (w := j) (by omega)).2, osb, b2i_t, b2i_f, i10, i00, if_true, if_false, Bool.not_true, Bool.not_false, Bool.true_and, Bool.false_and, Bool.and_true, Bool.and_false]
    cases bt (S.1 33) j <;> rfl
  · rw [if_neg (show ¬ nI 1 = 0 by decide), if_pos (show nI 1 = 1 by decide), if_neg (by omega), if_pos rfl]
    simp only [C1.1.m, D.f.2.2.2.1, lgb_c D (Nat.le_refl _), hold_c D, osb]
  · rw [if_neg (show ¬ nI 2 = 0 by decide), if_neg (show ¬ nI 2 = 1 by decide), if_neg (by omega), if_neg (by omega)]
    simp only [C1.1.m, wt_c D, osb]
theorem cell_r1 (A : AW P S I B) (hP : P.1 = true) {j q : Nat} (hj : j < P.2.2.2.2.2) (hq : q < 3) : Qr M P S I (fun σ => f_X10_cell M (nI j) (nI q) σ) (clE P S.1 j q) 0 := by
  intro σ tr wh R
  have R1 := R.1.s0
  have K := A.rk hP
  have h12 := K.1.n12
  have h24 := (A.2.1 hP).2.2.2.1
  obtain ⟨n1, n2, n3, n4⟩ := noC_j A hP hj hq
  obtain ⟨k, ω, w1, w2, Dk, h26, w5, w6⟩ := R1.work A hP
  refine ⟨sI (sI ω M 1 0) M 2 (-1), ?_, w5.end 0, RS.end ((RS.s0 (by omega)).trans w6) 0⟩
  have m1 : ¬ (nI j < 0 ∨ nI P.2.2.2.2.2 ≤ nI j) := fun h => h.elim n1 n2
  have m2 : ¬ (nI q < 0 ∨ 2 < nI q) := fun h => h.elim n3 (Int32.not_lt.mpr n4)
  simp only [f_X10_cell_22, f_X10_cell_83, f_X10_cell_0, f_X10_cell, R.1.t, pI_k R.1.t, rCel R1 A, hP, decide_eq_false m1, in_k, decide_eq_false m2, w1, osb, b2i_t, b2i_f, i10, i00, if_true, if_false, Bool.not_true, Bool.not_false, Bool.true_and, Bool.false_and, Bool.and_true, Bool.and_false]
  unfold clE
  have hr := rdy_k Dk (v := nI j) (Or.inr ⟨j, by omega, rfl⟩)
  obtain rfl | rfl | rfl : q = 0 ∨ q = 1 ∨ q = 2 := by omega
  · have e : rdyE S.1 (nI j) = bt (S.1 33) j := by
      unfold rdyE
      rw [decide_eq_false (nI_nm2 (by omega)), nI_clamp (by omega)]; simp
    rw [e] at hr
    simp only [nI_0, hr, xa_k Dk, rowl Dk (9 + j) (v := 9 + nI j) (nI_p 9 j) (by omega), good_k w5.t, osb, b2i_t, b2i_f, i10, i00, if_true, if_false, Bool.not_true, Bool.not_false, Bool.true_and, Bool.false_and, Bool.and_true, Bool.and_false]
    cases bt (S.1 33) j <;> rfl
  · rw [if_neg (show ¬ nI 1 = 0 by decide), if_pos (show nI 1 = 1 by decide), if_neg (by omega), if_pos rfl]
    simp only [letGo_k Dk K.1.xs K.1.2.1.2.2.2.1, hold_k Dk K.1.2.1.2.2.2.1 h12, good_k w5.t, osb]
  · rw [if_neg (show ¬ nI 2 = 0 by decide), if_neg (show ¬ nI 2 = 1 by decide), if_neg (by omega), if_neg (by omega)]
    simp only [wt_k Dk K.1.2.1.2.2.2.1 h12, good_k w5.t, osb]
theorem cell_a (A : AW P S I B) (C : CJ z p d P S I tr wh σ) (R : RJ (z + 195) P S I tr wh σ) (o1 : hT σ (z + 203) = 24) (o2 : hN σ (z + 203) = 1) (v w : Int32) : Alike z (fun σ => f_X8_cell z v w σ) (fun σ => f_X10_cell (z + 195) v w σ) B σ := by
  by_cases h : noCe P v w
  · exact alk_q A C R o1 o2 (cell_c0 A h) (cell_r0 A h)
  · have hP : P.1 = true := by
      cases hP : P.1 with
      | true => rfl
      | false => exact absurd (Or.inl hP) h
    have h24 := (A.2.1 hP).2.2.2.1
    rcases pk_ix v (n := P.2.2.2.2.2) (by omega) with q | q | ⟨j, hj, ej⟩
    · exact absurd (Or.inr (Or.inl (Or.inl q))) h
    · exact absurd (Or.inr (Or.inl (Or.inr q))) h
    · rcases pk_ix w (n := 3) (by omega) with q | q | ⟨i, hi, ei⟩
      · exact absurd (Or.inr (Or.inr (Or.inl q))) h
      · exact absurd (Or.inr (Or.inr (Or.inr (Int32.lt_of_lt_of_le (show (2 : Int32) < nI 3 by decide) q)))) h
      · subst ej; subst ei; exact alk_q A C R o1 o2 (cell_c1 A hP hj hi) (cell_r1 A hP hj hi)
-- an entry
theorem sure_cq (D : Mc σ k p c m x n nc) {i : Nat} (hi : i < n) : f_X3_isSure k (nI i) σ = some (b2i (sureE c x (i + 1)), σ) := by
  have h12 := D.n12
  unfold f_X3_isSure f_X3_isSure_0 f_X3_isSure_13
  rw [if_pos D.t, sure_c D, osb, suE_k (n := n) hi]
  dsimp only
  have hs : suE c x n ≤ n := by
    unfold suE
    cases h : fstN (badE c x) n with
    | none => exact Nat.le_refl _
    | some j => exact Nat.le_of_lt (fstN_some h).1
  by_cases h : suE c x n ≤ i
  · rw [if_pos (nI_le h (by omega)), if_pos (Or.inl rfl), decide_eq_false (by omega)]; rfl
  · rw [if_neg (nI_ge (by omega) (by omega)), if_pos (Or.inr rfl), decide_eq_true (by omega)]; rfl
def enE (c : Nat → Nat → Int32) (x : Nat → Int32) (i q : Nat) : Int32 := if q < 4 then x (39 + 13 * i + q) else if q = 4 then b2i (hasB x i 1) else if q = 5 then b2i (hasB x i 2) else if q = 6 then b2i (hasB x i 4) else if q = 7 then b2i (hasB x i 8) else b2i (sureE c x (i + 1))
theorem entry_c0 {i w : Int32} (h : isEn P S i = false ∨ (w < 0 ∨ 8 < w)) : Qc z p d P S I (fun σ => f_X8_entry z i w σ) (-1) 1 := by
  intro σ tr wh C
  refine ⟨sI σ z 12 1, ?_, C.r 1 (by decide), fg_c 1⟩
  cases hi : isEn P S i with
  | false => simp only [f_X8_entry_184, f_X8_entry_24, f_X8_entry_19, f_X8_entry_0, f_X8_entry, C.1.zt, cEnt C.1, hi, ref_1 C.1.zt, osb, b2i_t, b2i_f, i10, i00, if_true, if_false, Bool.not_true, Bool.not_false, Bool.true_and, Bool.false_and, Bool.and_true, Bool.and_false]
  | true =>
    have h := h.resolve_left (by rw [hi]; decide)
    by_cases h3 : w < 0
    · simp only [f_X8_entry_184, f_X8_entry_24, f_X8_entry_19, f_X8_entry_0, f_X8_entry, C.1.zt, cEnt C.1, hi, h3, ref_1 C.1.zt, osb, b2i_t, b2i_f, i10, i00, if_true, if_false, Bool.not_true, Bool.not_false, Bool.true_and, Bool.false_and, Bool.and_true, Bool.and_false]
    · have h4 : ¬ w ≤ 8 := Int32.not_le.mpr (h.resolve_left h3)
      simp only [f_X8_entry_184, f_X8_entry_24, f_X8_entry_19, f_X8_entry_0, f_X8_entry, C.1.zt, cEnt C.1, hi, h3, h4, ref_1 C.1.zt, osb, b2i_t, b2i_f, i10, i00, if_true, if_false, Bool.not_true, Bool.not_false, Bool.true_and, Bool.false_and, Bool.and_true, Bool.and_false]
theorem entry_r0 (A : AW P S I B) {i w : Int32} (h : isEn P S i = false ∨ (w < 0 ∨ 8 < w)) : Qr M P S I (fun σ => f_X10_entry M i w σ) (-1) 1 := by
  intro σ tr wh R
  have R1 := R.1.s0
  refine ⟨sI (sI (sI σ M 0 0) M 1 1) M 2 (-1), ?_, R1.end 1, RS.end (RS.s0 (by omega)) 1⟩
  cases hi : isEn P S i with
  | false => simp only [f_X10_entry_23, f_X10_entry_80, f_X10_entry_112, f_X10_entry_131, f_X10_entry_150, f_X10_entry_170, f_X10_entry_188, f_X10_entry_0, f_X10_entry, R.1.t, pI_k R.1.t, rEnt R1 A, hi, refd_k R1.t, osb, b2i_t, b2i_f, i10, i00, if_true, if_false, Bool.not_true, Bool.not_false, Bool.true_and, Bool.false_and, Bool.and_true, Bool.and_false]
  | true =>
    have h := h.resolve_left (by rw [hi]; decide)
    simp only [f_X10_entry_23, f_X10_entry_80, f_X10_entry_112, f_X10_entry_131, f_X10_entry_150, f_X10_entry_170, f_X10_entry_188, f_X10_entry_0, f_X10_entry, R.1.t, pI_k R.1.t, rEnt R1 A, hi, in_k, decide_eq_true h, refd_k R1.t, osb, b2i_t, b2i_f, i10, i00, if_true, if_false, Bool.not_true, Bool.not_false, Bool.true_and, Bool.false_and, Bool.and_true, Bool.and_false]
theorem b_ask2 (x : Int32) {n : Nat} (hn : n < 32) : jshr x (nI n) &&& 1 = b2i (bt x n) := b_ask x hn
theorem entry_c1 (A : AW P S I B) (hP : P.1 = true) {j q : Nat} (hj : j < nN S.1) (hi : isEn P S (nI j) = true) (hq : q ≤ 8) : Qc z p d P S I (fun σ => f_X8_entry z (nI j) (nI q) σ) (enE P.2.1 S.1 j q) 0 := by
  intro σ tr wh C
  have C1 := C.r 0 (by decide)
  have D := C1.1.mq hP
  have h12 := D.n12
  refine ⟨sI σ z 12 0, ?_, C1, fg_c 0⟩
  obtain ⟨⟨a1, a2⟩, ⟨b1, b2⟩, ⟨c1, c2⟩, ⟨d1, d2⟩⟩ := D.e hj
  obtain ⟨-, q1, q2, q3, q4⟩ := D.b hj
  simp only [f_X8_entry_184, f_X8_entry_24, f_X8_entry_19, f_X8_entry_0, f_X8_entry, C.1.zt, cEnt C.1, hi, nI_pos (show q < 2 ^ 31 by omega), show (nI q ≤ 8) from nI_le (b := 8) hq (by omega), ref_0 C.1.zt, osb, b2i_t, b2i_f, i10, i00, if_true, if_false, Bool.not_true, Bool.not_false, Bool.true_and, Bool.false_and, Bool.and_true, Bool.and_false]
  unfold enE
  obtain rfl | rfl | rfl | rfl | rfl | rfl | rfl | rfl | rfl : q = 0 ∨ q = 1 ∨ q = 2 ∨ q = 3 ∨ q = 4 ∨ q = 5 ∨ q = 6 ∨ q = 7 ∨ q = 8 := by omega
  · rw [if_pos (show nI 0 = 0 by decide), if_pos (by omega)]
    simp only [C1.1.m, a1, a2, Nat.add_zero, osb]
  · rw [if_neg (show ¬ nI 1 = 0 by decide), if_pos (show nI 1 = 1 by decide), if_pos (by omega)]
    simp only [C1.1.m, b1, b2, Nat.add_zero, osb]
  · rw [if_neg (show ¬ nI 2 = 0 by decide), if_neg (show ¬ nI 2 = 1 by decide), if_pos (show nI 2 = 2 by decide), if_pos (by omega)]
    simp only [C1.1.m, c1, c2, Nat.add_zero, osb]
  · rw [if_neg (show ¬ nI 3 = 0 by decide), if_neg (show ¬ nI 3 = 1 by decide), if_neg (show ¬ nI 3 = 2 by decide), if_pos (show nI 3 = 3 by decide), if_pos (by omega)]
    simp only [C1.1.m, d1, d2, Nat.add_zero, osb]
  · rw [if_neg (show ¬ nI 4 = 0 by decide), if_neg (show ¬ nI 4 = 1 by decide), if_neg (show ¬ nI 4 = 2 by decide), if_neg (show ¬ nI 4 = 3 by decide), if_pos (show nI 4 = 4 by decide), if_neg (by omega), if_pos rfl]
    simp only [C1.1.m, gI_k D.t, b_ask2 _ (show j < 32 by omega), q1, Nat.add_zero, osb]
  · rw [if_neg (show ¬ nI 5 = 0 by decide), if_neg (show ¬ nI 5 = 1 by decide), if_neg (show ¬ nI 5 = 2 by decide), if_neg (show ¬ nI 5 = 3 by decide), if_neg (show ¬ nI 5 = 4 by decide), if_pos (show nI 5 = 5 by decide), if_neg (by omega), if_neg (by omega), if_pos rfl]
    simp only [C1.1.m, gI_k D.t, b_ask2 _ (show j < 32 by omega), q2, Nat.add_zero, osb]
  · rw [if_neg (show ¬ nI 6 = 0 by decide), if_neg (show ¬ nI 6 = 1 by decide), if_neg (show ¬ nI 6 = 2 by decide), if_neg (show ¬ nI 6 = 3 by decide), if_neg (show ¬ nI 6 = 4 by decide), if_neg (show ¬ nI 6 = 5 by decide), if_pos (show nI 6 = 6 by decide), if_neg (by omega), if_neg (by omega), if_neg (by omega), if_pos rfl]
    simp only [C1.1.m, gI_k D.t, b_ask2 _ (show j < 32 by omega), q3, Nat.add_zero, osb]
  · rw [if_neg (show ¬ nI 7 = 0 by decide), if_neg (show ¬ nI 7 = 1 by decide), if_neg (show ¬ nI 7 = 2 by decide), if_neg (show ¬ nI 7 = 3 by decide), if_neg (show ¬ nI 7 = 4 by decide), if_neg (show ¬ nI 7 = 5 by decide), if_neg (show ¬ nI 7 = 6 by decide), if_pos (show nI 7 = 7 by decide), if_neg (by omega), if_neg (by omega), if_neg (by omega), if_neg (by omega), if_pos rfl]
    simp only [C1.1.m, gI_k D.t, b_ask2 _ (show j < 32 by omega), q4, Nat.add_zero, osb]
  · rw [if_neg (show ¬ nI 8 = 0 by decide), if_neg (show ¬ nI 8 = 1 by decide), if_neg (show ¬ nI 8 = 2 by decide), if_neg (show ¬ nI 8 = 3 by decide), if_neg (show ¬ nI 8 = 4 by decide), if_neg (show ¬ nI 8 = 5 by decide), if_neg (show ¬ nI 8 = 6 by decide), if_neg (show ¬ nI 8 = 7 by decide), if_neg (by omega), if_neg (by omega), if_neg (by omega), if_neg (by omega), if_neg (by omega)]
    simp only [C1.1.m, sure_cq D hj, Nat.add_zero, osb]
    cases sureE P.2.1 S.1 (j + 1) <;> rfl
theorem entry_r1 (A : AW P S I B) (hP : P.1 = true) {j q : Nat} (hj : j < nN S.1) (hi : isEn P S (nI j) = true) (hq : q ≤ 8) : Qr M P S I (fun σ => f_X10_entry M (nI j) (nI q) σ) (enE P.2.1 S.1 j q) 0 := by
  intro σ tr wh R
  have R1 := R.1.s0
  have K := A.rk hP
  have h12 := K.1.n12
  obtain ⟨k, ω, w1, w2, Dk, h26, w5, w6⟩ := R1.work A hP
  refine ⟨sI (sI ω M 1 0) M 2 (-1), ?_, w5.end 0, RS.end ((RS.s0 (by omega)).trans w6) 0⟩
  have m2 : ¬ (nI q < 0 ∨ 8 < nI q) := fun h => h.elim (nI_pos (by omega)) (Int32.not_lt.mpr (nI_le (b := 8) hq (by omega)))
  have e80 : q < 4 → f_X10_entry_80 M (nI j) (nI q) ω = some (S.1 (39 + 13 * j + q), sI (sI ω M 1 0) M 2 (-1)) := fun h4 => by
    simp only [f_X10_entry_80, xa_k Dk, at_k Dk j, ent_k Dk (show j < 12 by omega) q rfl (show q < 13 by omega), good_k w5.t, osb]
  simp only [f_X10_entry, f_X10_entry_0, f_X10_entry_112, f_X10_entry_131, f_X10_entry_150, f_X10_entry_170, f_X10_entry_188, R.1.t, pI_k R.1.t, rEnt R1 A, hi, in_k, decide_eq_false m2, w1, osb, b2i_t, b2i_f, i10, i00, if_true, if_false, Bool.not_true, Bool.not_false, Bool.true_and, Bool.false_and, Bool.and_true, Bool.and_false]
  unfold enE
  obtain rfl | rfl | rfl | rfl | rfl | rfl | rfl | rfl | rfl : q = 0 ∨ q = 1 ∨ q = 2 ∨ q = 3 ∨ q = 4 ∨ q = 5 ∨ q = 6 ∨ q = 7 ∨ q = 8 := by omega
  · rw [if_pos (show nI 0 = 0 by decide), if_pos (by omega)]
    exact e80 (by omega)
  · rw [if_neg (show ¬ nI 1 = 0 by decide), if_pos (show nI 1 = 1 by decide), if_pos (by omega)]
    exact e80 (by omega)
  · rw [if_neg (show ¬ nI 2 = 0 by decide), if_neg (show ¬ nI 2 = 1 by decide), if_pos (show nI 2 = 2 by decide), if_pos (by omega)]
    exact e80 (by omega)
  · rw [if_neg (show ¬ nI 3 = 0 by decide), if_neg (show ¬ nI 3 = 1 by decide), if_neg (show ¬ nI 3 = 2 by decide), if_pos (show nI 3 = 3 by decide), if_pos (by omega)]
    exact e80 (by omega)
  · rw [if_neg (show ¬ nI 4 = 0 by decide), if_neg (show ¬ nI 4 = 1 by decide), if_neg (show ¬ nI 4 = 2 by decide), if_neg (show ¬ nI 4 = 3 by decide), if_pos (show nI 4 = 4 by decide), if_neg (by omega), if_pos rfl]
    simp only [has_k Dk (show j < 12 by omega), good_k w5.t, osb]
    cases hasB S.1 j 1 <;> rfl
  · rw [if_neg (show ¬ nI 5 = 0 by decide), if_neg (show ¬ nI 5 = 1 by decide), if_neg (show ¬ nI 5 = 2 by decide), if_neg (show ¬ nI 5 = 3 by decide), if_neg (show ¬ nI 5 = 4 by decide), if_pos (show nI 5 = 5 by decide), if_neg (by omega), if_neg (by omega), if_pos rfl]
    simp only [has_k Dk (show j < 12 by omega), good_k w5.t, osb]
    cases hasB S.1 j 2 <;> rfl
  · rw [if_neg (show ¬ nI 6 = 0 by decide), if_neg (show ¬ nI 6 = 1 by decide), if_neg (show ¬ nI 6 = 2 by decide), if_neg (show ¬ nI 6 = 3 by decide), if_neg (show ¬ nI 6 = 4 by decide), if_neg (show ¬ nI 6 = 5 by decide), if_pos (show nI 6 = 6 by decide), if_neg (by omega), if_neg (by omega), if_neg (by omega), if_pos rfl]
    simp only [has_k Dk (show j < 12 by omega), good_k w5.t, osb]
    cases hasB S.1 j 4 <;> rfl
  · rw [if_neg (show ¬ nI 7 = 0 by decide), if_neg (show ¬ nI 7 = 1 by decide), if_neg (show ¬ nI 7 = 2 by decide), if_neg (show ¬ nI 7 = 3 by decide), if_neg (show ¬ nI 7 = 4 by decide), if_neg (show ¬ nI 7 = 5 by decide), if_neg (show ¬ nI 7 = 6 by decide), if_pos (show nI 7 = 7 by decide), if_neg (by omega), if_neg (by omega), if_neg (by omega), if_neg (by omega), if_pos rfl]
    simp only [has_k Dk (show j < 12 by omega), good_k w5.t, osb]
    cases hasB S.1 j 8 <;> rfl
  · rw [if_neg (show ¬ nI 8 = 0 by decide), if_neg (show ¬ nI 8 = 1 by decide), if_neg (show ¬ nI 8 = 2 by decide), if_neg (show ¬ nI 8 = 3 by decide), if_neg (show ¬ nI 8 = 4 by decide), if_neg (show ¬ nI 8 = 5 by decide), if_neg (show ¬ nI 8 = 6 by decide), if_neg (show ¬ nI 8 = 7 by decide), if_neg (by omega), if_neg (by omega), if_neg (by omega), if_neg (by omega), if_neg (by omega)]
    simp only [isSure_k Dk K.1.xs hj, good_k w5.t, osb]
    cases sureE P.2.1 S.1 (j + 1) <;> rfl
theorem entry_a (A : AW P S I B) (C : CJ z p d P S I tr wh σ) (R : RJ (z + 195) P S I tr wh σ) (o1 : hT σ (z + 203) = 24) (o2 : hN σ (z + 203) = 1) (i w : Int32) : Alike z (fun σ => f_X8_entry z i w σ) (fun σ => f_X10_entry (z + 195) i w σ) B σ := by
  cases hi : isEn P S i with
  | false => exact alk_q A C R o1 o2 (entry_c0 (Or.inl hi)) (entry_r0 A (Or.inl hi))
  | true =>
    obtain ⟨hP, j, hj, ej⟩ := ent_a A hi
    rcases pk_ix w (n := 9) (by omega) with h | h | ⟨q, hq, eq⟩
    · exact alk_q A C R o1 o2 (entry_c0 (Or.inr (Or.inl h))) (entry_r0 A (Or.inr (Or.inl h)))
    · have h' : (8 : Int32) < w := Int32.lt_of_lt_of_le (show (8 : Int32) < nI 9 by decide) h
      exact alk_q A C R o1 o2 (entry_c0 (Or.inr (Or.inr h'))) (entry_r0 A (Or.inr (Or.inr h')))
    · subst ej; subst eq; exact alk_q A C R o1 o2 (entry_c1 A hP hj hi (by omega)) (entry_r1 A hP hj hi (by omega))
end Qz
