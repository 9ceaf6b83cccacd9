/-! QUESTIONS: cells, entries, maps -/
section Qe
variable {σ τ υ : St} {z p d M k : Nat} {P : PT} {S : SX} {I : IT} {tr wh v w : Int32} {B : Nat} {c : Nat → Nat → Int32} {m : Nat} {x : Nat → Int32} {n nc : Nat}
-- runnable
theorem run_cl (C : CB z p d P S I σ) (hP : P.1 = true) : ∀ (q i fu : Nat), i + q = nN S.1 → q < fu → f_X8_runnable_26 fu z (setN (runE S.1) i) (nI i) σ = some (setN (runE S.1) (nN S.1), σ)
  | 0, i, fu, hi, hf => by
    obtain ⟨f, rfl⟩ : ∃ f, fu = f + 1 := ⟨fu - 1, by omega⟩
    have D := C.mq hP
    have h12 := D.n12
    rw [e_X8_runnable_26, C.m, osb, D.f.2.2.2.1, osb, if_pos (nI_le (by omega) (by omega)), show i = nN S.1 by omega]
  | q + 1, i, fu, hi, hf => by
    obtain ⟨f, rfl⟩ : ∃ f, fu = f + 1 := ⟨fu - 1, by omega⟩
    have D := C.mq hP
    have h12 := D.n12
    have ih := run_cl C hP q (i + 1) f (by omega) (by omega)
    rw [e_X8_runnable_26, C.m, osb, D.f.2.2.2.1, osb, if_neg (nI_ge (by omega) (by omega)), osb, canW_c D (by omega), osb]
    unfold f_X8_runnable_54
    dsimp only
    cases hr : runE S.1 i with
    | false =>
      rw [if_pos (by decide), nI_1]
      simp only [setN, hr, Bool.false_eq_true, if_false, i_or_z] at ih
      exact ih
    | true =>
      rw [if_neg (by decide), bndu, nI_1]
      simp only [setN, hr, if_true] at ih
      exact ih
theorem run_rl (R : RB M P S I σ) (D : Md σ M k P.2.1 S.1) (K : Rk P.2.1 P.2.2.1 S.1 P.2.2.2.2.2) : ∀ (q i fu : Nat), i + q = nN S.1 → q < fu → f_X10_runnable_26 fu M (setN (runE S.1) i) (nI i) σ = some (setN (runE S.1) (nN S.1), sI (sI σ M 1 0) M 2 (-1))
  | 0, i, fu, hi, hf => by
    obtain ⟨f, rfl⟩ : ∃ f, fu = f + 1 := ⟨fu - 1, by omega⟩
    have h12 := K.1.n12
    rw [e_X10_runnable_26, xa_k D, osb, r34_k D, osb, K.1.2.1.2.2.2.1, if_pos (nI_le (by omega) (by omega)), good_k R.t, osb, show i = nN S.1 by omega]
  | q + 1, i, fu, hi, hf => by
    obtain ⟨f, rfl⟩ : ∃ f, fu = f + 1 := ⟨fu - 1, by omega⟩
    have h12 := K.1.n12
    have ih := run_rl R D K q (i + 1) f (by omega) (by omega)
    rw [e_X10_runnable_26, xa_k D, osb, r34_k D, osb, K.1.2.1.2.2.2.1, if_neg (nI_ge (by omega) (by omega)), run_j D K.1 (by omega), osb]
    unfold f_X10_runnable_53
    dsimp only
    cases hr : runE S.1 i with
    | false =>
      rw [if_pos (by decide), bndu, nI_1]
      simp only [setN, hr, Bool.false_eq_true, if_false] at ih
      exact ih
    | true =>
      rw [if_neg (by decide), bndu, nI_1]
      simp only [setN, hr, if_true] at ih
      exact ih
theorem runnable_c0 (hP : P.1 = false) : Qc z p d P S I (fun σ => f_X8_runnable z σ) (-1) 1 := by
  intro σ tr wh C
  refine ⟨sI σ z 12 1, ?_, C.r 1 (by decide), fg_c 1⟩
  simp only [f_X8_runnable, f_X8_runnable_0, f_X8_runnable_13, C.1.zt, C.1.told, hP, ref_1 C.1.zt, osb, b2i_t, b2i_f, i10, i00, if_true, if_false, Bool.not_true, Bool.not_false, Bool.true_and, Bool.false_and, Bool.and_true, Bool.and_false]
theorem runnable_r0 (hP : P.1 = false) : Qr M P S I (fun σ => f_X10_runnable M σ) (-1) 1 := by
  intro σ tr wh R
  have R1 := R.1.s0
  refine ⟨sI (sI (sI σ M 0 0) M 1 1) M 2 (-1), ?_, R1.end 1, RS.end (RS.s0 (by omega)) 1⟩
  simp only [f_X10_runnable, f_X10_runnable_0, R.1.t, pI_k R.1.t, R1.gq.1 hP, ocn, refd_k R1.t, osb, b2i_t, b2i_f, i10, i00, if_true, if_false, Bool.not_true, Bool.not_false, Bool.true_and, Bool.false_and, Bool.and_true, Bool.and_false]
theorem runnable_c1 (A : AW P S I B) (hP : P.1 = true) : Qc z p d P S I (fun σ => f_X8_runnable z σ) (setN (runE S.1) (nN S.1)) 0 := by
  intro σ tr wh C
  have C1 := C.r 0 (by decide)
  have h12 := (A.rk hP).1.n12
  have hl := run_cl C1.1 hP (nN S.1) 0 FU (by omega) (by unfold FU; omega)
  rw [nI_0] at hl
  have hl' : f_X8_runnable_26 FU z 0 0 (sI σ z 12 0) = some (setN (runE S.1) (nN S.1), sI σ z 12 0) := hl
  refine ⟨sI σ z 12 0, ?_, C1, fg_c 0⟩
  simp only [f_X8_runnable, f_X8_runnable_0, f_X8_runnable_13, C.1.zt, C.1.told, hP, ref_0 C.1.zt, hl', osb, b2i_t, b2i_f, i10, i00, if_true, if_false, Bool.not_true, Bool.not_false, Bool.true_and, Bool.false_and, Bool.and_true, Bool.and_false]
theorem runnable_r1 (A : AW P S I B) (hP : P.1 = true) : Qr M P S I (fun σ => f_X10_runnable M σ) (setN (runE S.1) (nN S.1)) 0 := by
  intro σ tr wh R
  have R1 := R.1.s0
  have K := A.rk hP
  have h12 := K.1.n12
  obtain ⟨k', e⟩ := R1.gq.2 hP
  obtain ⟨k, ω, w1, w2, Dk, h26, w5, w6⟩ := R1.work A hP
  have hl := run_rl w5 Dk K (nN S.1) 0 FU (by omega) (by unfold FU; omega)
  rw [nI_0] at hl
  have hl' : f_X10_runnable_26 FU M 0 0 ω = some (setN (runE S.1) (nN S.1), sI (sI ω M 1 0) M 2 (-1)) := hl
  refine ⟨sI (sI ω M 1 0) M 2 (-1), ?_, w5.end 0, RS.end ((RS.s0 (by omega)).trans w6) 0⟩
  simp only [f_X10_runnable, f_X10_runnable_0, R.1.t, pI_k R.1.t, e, oco, w1, hl', osb, b2i_t, b2i_f, i10, i00, if_true, if_false, Bool.not_true, Bool.not_false, Bool.true_and, Bool.false_and, Bool.and_true, Bool.and_false]
theorem runnable_a (A : AW P S I B) (C : CJ z p d P S I tr wh σ) (R : RJ (z + 195) P S I tr wh σ) (o1 : hT σ (z + 203) = 24) (o2 : hN σ (z + 203) = 1) : Alike z (fun σ => f_X8_runnable z σ) (fun σ => f_X10_runnable (z + 195) σ) B σ := by
  cases hP : P.1 with
  | false => exact alk_q A C R o1 o2 (runnable_c0 hP) (runnable_r0 hP)
  | true => exact alk_q A C R o1 o2 (runnable_c1 A hP) (runnable_r1 A hP)
-- walked, saved
theorem walked_c0 {i r : Int32} (h : isEn P S i = false ∨ (r < 0 ∨ 8 ≤ r)) : Qc z p d P S I (fun σ => f_X8_walked z i r σ) (-1) 1 := by
  intro σ tr wh C
  refine ⟨sI σ z 12 1, ?_, C.r 1 (by decide), fg_c 1⟩
  cases hi : isEn P S i with
  | false => simp only [f_X8_walked_21, f_X8_walked_16, f_X8_walked_0, f_X8_walked, C.1.zt, cEnt C.1, hi, ref_1 C.1.zt, osb, b2i_t, b2i_f, i10, i00, if_true, if_false, Bool.not_true, Bool.not_false, Bool.true_and, Bool.false_and, Bool.and_true, Bool.and_false]
  | true =>
    have hr := h.resolve_left (by rw [hi]; decide)
    simp only [f_X8_walked_21, f_X8_walked_16, f_X8_walked_0, f_X8_walked, C.1.zt, cEnt C.1, hi, cReg, decide_eq_true hr, ref_1 C.1.zt, osb, b2i_t, b2i_f, i10, i00, if_true, if_false, Bool.not_true, Bool.not_false, Bool.true_and, Bool.false_and, Bool.and_true, Bool.and_false]
theorem walked_r0 (A : AW P S I B) {i r : Int32} (h : isEn P S i = false ∨ (r < 0 ∨ 8 ≤ r)) : Qr M P S I (fun σ => f_X10_walked M i r σ) (-1) 1 := by
  intro σ tr wh R
  have R1 := R.1.s0
  refine ⟨sI (sI (sI σ M 0 0) M 1 1) M 2 (-1), ?_, R1.end 1, RS.end (RS.s0 (by omega)) 1⟩
  cases hi : isEn P S i with
  | false => simp only [f_X10_walked_21, f_X10_walked_0, f_X10_walked, R.1.t, pI_k R.1.t, rEnt R1 A, hi, refd_k R1.t, osb, b2i_t, b2i_f, i10, i00, if_true, if_false, Bool.not_true, Bool.not_false, Bool.true_and, Bool.false_and, Bool.and_true, Bool.and_false]
  | true =>
    have hr := h.resolve_left (by rw [hi]; decide)
    simp only [f_X10_walked_21, f_X10_walked_0, f_X10_walked, R.1.t, pI_k R.1.t, rEnt R1 A, hi, rReg R1, decide_eq_true hr, refd_k R1.t, osb, b2i_t, b2i_f, i10, i00, if_true, if_false, Bool.not_true, Bool.not_false, Bool.true_and, Bool.false_and, Bool.and_true, Bool.and_false]
theorem walked_c1 (A : AW P S I B) (hP : P.1 = true) {j q : Nat} (hj : j < nN S.1) (hi : isEn P S (nI j) = true) (hq : q < 8) (hr : ¬ (nI q < 0 ∨ 8 ≤ nI q)) : Qc z p d P S I (fun σ => f_X8_walked z (nI j) (nI q) σ) (mapE P.2.1 S.1 q (j + 1)) 0 := by
  intro σ tr wh C
  have C1 := C.r 0 (by decide)
  have D := C1.1.mq hP
  refine ⟨sI σ z 12 0, ?_, C1, fg_c 0⟩
  simp only [f_X8_walked_21, f_X8_walked_16, f_X8_walked_0, f_X8_walked, C.1.zt, cEnt C.1, hi, cReg, decide_eq_false hr, ref_0 C.1.zt, C1.1.m, nI_1, map_c D hq (show j + 1 ≤ nN S.1 by omega), osb, b2i_t, b2i_f, i10, i00, if_true, if_false, Bool.not_true, Bool.not_false, Bool.true_and, Bool.false_and, Bool.and_true, Bool.and_false]
theorem mapOf_w' (D : Md σ M k c x) (X : Xs x n) {r i : Nat} (hr : r < 8) (hi : i < n) : f_X10_mapOf M (nI r) (nI i) σ = some (mapE c x r (i + 1), σ) := by
  have := mapOf_w D X hr (show i + 1 ≤ n by omega)
  rw [nI_pred] at this
  exact this
theorem walked_r1 (A : AW P S I B) (hP : P.1 = true) {j q : Nat} (hj : j < nN S.1) (hi : isEn P S (nI j) = true) (hq : q < 8) (hr : ¬ (nI q < 0 ∨ 8 ≤ nI q)) : Qr M P S I (fun σ => f_X10_walked M (nI j) (nI q) σ) (mapE P.2.1 S.1 q (j + 1)) 0 := by
  intro σ tr wh R
  have R1 := R.1.s0
  have K := A.rk hP
  obtain ⟨k, ω, w1, w2, Dk, h26, w5, w6⟩ := R1.work A hP
  refine ⟨sI (sI ω M 1 0) M 2 (-1), ?_, w5.end 0, RS.end ((RS.s0 (by omega)).trans w6) 0⟩
  simp only [f_X10_walked_21, f_X10_walked_0, f_X10_walked, R.1.t, pI_k R.1.t, rEnt R1 A, hi, rReg R1, hP, decide_eq_false hr, w1, mapOf_w' Dk K.1.xs hq hj, good_k w5.t, osb, b2i_t, b2i_f, i10, i00, if_true, if_false, Bool.not_true, Bool.not_false, Bool.true_and, Bool.false_and, Bool.and_true, Bool.and_false]
theorem ent_a (A : AW P S I B) {i : Int32} (h : isEn P S i = true) : P.1 = true ∧ ∃ j, j < nN S.1 ∧ i = nI j := by
  have hP : P.1 = true := by
    cases hP : P.1 with
    | true => rfl
    | false => unfold isEn at h; rw [hP] at h; cases h
  exact isEn_t h (A.rk hP).1.n12
theorem walked_a (A : AW P S I B) (C : CJ z p d P S I tr wh σ) (R : RJ (z + 195) P S I tr wh σ) (o1 : hT σ (z + 203) = 24) (o2 : hN σ (z + 203) = 1) (i r : Int32) : Alike z (fun σ => f_X8_walked z i r σ) (fun σ => f_X10_walked (z + 195) i r σ) B σ := by
  cases hi : isEn P S i with
  | false => exact alk_q A C R o1 o2 (walked_c0 (Or.inl hi)) (walked_r0 A (Or.inl hi))
  | true =>
    rcases reg_c (v := r) with hr | ⟨q, hq, eq, hr⟩
    · exact alk_q A C R o1 o2 (walked_c0 (Or.inr hr)) (walked_r0 A (Or.inr hr))
    · obtain ⟨hP, j, hj, ej⟩ := ent_a A hi
      subst ej; subst eq; exact alk_q A C R o1 o2 (walked_c1 A hP hj hi hq hr) (walked_r1 A hP hj hi hq hr)
theorem saved_c0 {i r : Int32} (h : isEn P S i = false ∨ (r < 0 ∨ 8 ≤ r)) : Qc z p d P S I (fun σ => f_X8_saved z i r σ) (-1) 1 := by
  intro σ tr wh C
  refine ⟨sI σ z 12 1, ?_, C.r 1 (by decide), fg_c 1⟩
  cases hi : isEn P S i with
  | false => simp only [f_X8_saved_61, f_X8_saved_21, f_X8_saved_16, f_X8_saved_0, f_X8_saved, C.1.zt, cEnt C.1, hi, ref_1 C.1.zt, osb, b2i_t, b2i_f, i10, i00, if_true, if_false, Bool.not_true, Bool.not_false, Bool.true_and, Bool.false_and, Bool.and_true, Bool.and_false]
  | true =>
    have hr := h.resolve_left (by rw [hi]; decide)
    simp only [f_X8_saved_61, f_X8_saved_21, f_X8_saved_16, f_X8_saved_0, f_X8_saved, C.1.zt, cEnt C.1, hi, cReg, decide_eq_true hr, ref_1 C.1.zt, osb, b2i_t, b2i_f, i10, i00, if_true, if_false, Bool.not_true, Bool.not_false, Bool.true_and, Bool.false_and, Bool.and_true, Bool.and_false]
theorem saved_r0 (A : AW P S I B) {i r : Int32} (h : isEn P S i = false ∨ (r < 0 ∨ 8 ≤ r)) : Qr M P S I (fun σ => f_X10_saved M i r σ) (-1) 1 := by
  intro σ tr wh R
  have R1 := R.1.s0
  refine ⟨sI (sI (sI σ M 0 0) M 1 1) M 2 (-1), ?_, R1.end 1, RS.end (RS.s0 (by omega)) 1⟩
  cases hi : isEn P S i with
  | false => simp only [f_X10_saved_21, f_X10_saved_61, f_X10_saved_0, f_X10_saved, R.1.t, pI_k R.1.t, rEnt R1 A, hi, refd_k R1.t, osb, b2i_t, b2i_f, i10, i00, if_true, if_false, Bool.not_true, Bool.not_false, Bool.true_and, Bool.false_and, Bool.and_true, Bool.and_false]
  | true =>
    have hr := h.resolve_left (by rw [hi]; decide)
    simp only [f_X10_saved_21, f_X10_saved_61, f_X10_saved_0, f_X10_saved, R.1.t, pI_k R.1.t, rEnt R1 A, hi, rReg R1, decide_eq_true hr, refd_k R1.t, osb, b2i_t, b2i_f, i10, i00, if_true, if_false, Bool.not_true, Bool.not_false, Bool.true_and, Bool.false_and, Bool.and_true, Bool.and_false]
def svE (c : Nat → Nat → Int32) (x : Nat → Int32) (i r : Nat) : Int32 := if hasB x i 8 = true then mapE c x r (i + 1) else -2
theorem sv_eq (K : Rk c m x nc) {i r : Nat} (hi : i < nN x) (hr : r < 8) (h : hasB x i 8 = true) : mapE c x r (i + 1) = x (39 + 13 * i + 5 + r) := by
  obtain ⟨h5, hs⟩ := (K.1.2.2.1 i hi).2 h
  obtain ⟨s, hs1, es⟩ := (K.1.2.1.2.2.2.2.2.2.2 i hi).1
  have hm := K.1.1.1
  have ess : sS x i = s := by unfold sS; rw [es, nI_clamp (by omega)]
  have hto := (K.1.1.2.2.2.2.2.2 s hs1).2.1
  unfold kdE at h5
  rw [ess] at h5
  rw [if_pos h5] at hto
  have hne : ¬ toE c x i = nI r := by unfold toE; rw [ess, hto]; exact fun e => nI_nm1 (w := r) (by omega) e.symm
  simp only [mapE]
  rw [if_neg hne, hs r hr]
theorem saved_c1 (A : AW P S I B) (hP : P.1 = true) {j q : Nat} (hj : j < nN S.1) (hi : isEn P S (nI j) = true) (hq : q < 8) (hr : ¬ (nI q < 0 ∨ 8 ≤ nI q)) : Qc z p d P S I (fun σ => f_X8_saved z (nI j) (nI q) σ) (svE P.2.1 S.1 j q) 0 := by
  intro σ tr wh C
  have C1 := C.r 0 (by decide)
  have D := C1.1.mq hP
  have h12 := D.n12
  refine ⟨sI σ z 12 0, ?_, C1, fg_c 0⟩
  simp only [f_X8_saved_61, f_X8_saved_21, f_X8_saved_16, f_X8_saved_0, f_X8_saved, C.1.zt, cEnt C.1, hi, cReg, decide_eq_false hr, ref_0 C.1.zt, C1.1.m, gI_k D.t, nI_1, map_c D hq (show j + 1 ≤ nN S.1 by omega), osb, b2i_t, b2i_f, i10, i00, if_true, if_false, Bool.not_true, Bool.not_false, Bool.true_and, Bool.false_and, Bool.and_true, Bool.and_false]
  unfold svE
  have hb := (D.b hj).2.2.2.2
  cases h8 : hasB S.1 j 8 with
  | true => rw [if_pos ((b_ask1 _ (by omega)).mpr (by rw [hb]; exact h8)), if_pos rfl]
  | false => rw [if_neg (fun h => by have := (b_ask1 _ (by omega)).mp h; rw [hb, h8] at this; cases this), if_neg (by decide)]
theorem saved_r1 (A : AW P S I B) (hP : P.1 = true) {j q : Nat} (hj : j < nN S.1) (hi : isEn P S (nI j) = true) (hq : q < 8) (hr : ¬ (nI q < 0 ∨ 8 ≤ nI q)) : Qr M P S I (fun σ => f_X10_saved M (nI j) (nI q) σ) (svE P.2.1 S.1 j q) 0 := by
  intro σ tr wh R
  have R1 := R.1.s0
  have K := A.rk hP
  have h12 := K.1.n12
  obtain ⟨k, ω, w1, w2, Dk, h26, w5, w6⟩ := R1.work A hP
  have e5 : (nI (39 + 13 * j) + 5 + nI q : Int32) = nI (39 + 13 * j + 5 + q) := by
    show nI (39 + 13 * j) + nI 5 + nI q = _
    rw [nI_add, nI_add]
  have ea : aI 22 (M + 4) (nI (39 + 13 * j + 5 + q)) ω = some (S.1 (39 + 13 * j + 5 + q)) := row_k Dk (by omega)
  refine ⟨sI (sI ω M 1 0) M 2 (-1), ?_, w5.end 0, RS.end ((RS.s0 (by omega)).trans w6) 0⟩
  simp only [f_X10_saved_21, f_X10_saved_61, f_X10_saved_0, f_X10_saved, R.1.t, pI_k R.1.t, rEnt R1 A, hi, rReg R1, hP, decide_eq_false hr, w1, has_k Dk (show j < 12 by omega), xa_k Dk, at_k Dk j, e5, ea, good_k w5.t, osb, b2i_t, b2i_f, i10, i00, if_true, if_false, Bool.not_true, Bool.not_false, Bool.true_and, Bool.false_and, Bool.and_true, Bool.and_false]
  unfold svE
  cases h8 : hasB S.1 j 8 with
  | true => rw [if_neg (by decide), if_pos rfl, sv_eq K hj hq h8]
  | false => rw [if_pos (by decide), if_neg (by decide)]
theorem saved_a (A : AW P S I B) (C : CJ z p d P S I tr wh σ) (R : RJ (z + 195) P S I tr wh σ) (o1 : hT σ (z + 203) = 24) (o2 : hN σ (z + 203) = 1) (i r : Int32) : Alike z (fun σ => f_X8_saved z i r σ) (fun σ => f_X10_saved (z + 195) i r σ) B σ := by
  cases hi : isEn P S i with
  | false => exact alk_q A C R o1 o2 (saved_c0 (Or.inl hi)) (saved_r0 A (Or.inl hi))
  | true =>
    rcases reg_c (v := r) with hr | ⟨q, hq, eq, hr⟩
    · exact alk_q A C R o1 o2 (saved_c0 (Or.inr hr)) (saved_r0 A (Or.inr hr))
    · obtain ⟨hP, j, hj, ej⟩ := ent_a A hi
      subst ej; subst eq; exact alk_q A C R o1 o2 (saved_c1 A hP hj hi hq hr) (saved_r1 A hP hj hi hq hr)
-- gives
theorem fre34 {v : Int32} {q w : Nat} : freE c (ux x 34 v) q w = freE c x q w := by
  have e : ∀ j, j ≠ 34 → ux x 34 v j = x j := fun j h => ux_n h
  have e1 : ∀ i f, f < 13 → ux x 34 v (39 + 13 * i + f) = x (39 + 13 * i + f) := fun i f _ => e _ (by omega)
  have e0 : ∀ i, ux x 34 v (39 + 13 * i) = x (39 + 13 * i) := fun i => e _ (by omega)
  have hs : ∀ i, sS (ux x 34 v) i = sS x i := fun i => by unfold sS; rw [e0]
  have hb : ∀ i mk, hasB (ux x 34 v) i mk = hasB x i mk := fun i mk => by unfold hasB; rw [e1 i 4 (by omega)]
  have ht : ∀ i, toE c (ux x 34 v) i = toE c x i := fun i => by unfold toE; rw [hs]
  have hbad : ∀ i, badE c (ux x 34 v) i = badE c x i := fun i => by unfold badE kdE; rw [hb, hb, hs]
  have hsu : sureE c (ux x 34 v) = sureE c x := by unfold sureE; congr 1; funext i; rw [hbad]
  have hrep : ∀ r, replE c (ux x 34 v) r = replE c x r := fun r => by funext i; unfold replE; rw [ht, hsu]
  have hbz : ∀ r, r < 8 → ∀ i, busyE (ux x 34 v) r i = busyE x r i := fun r hr i => by unfold busyE rdE; rw [e1 i 1 (by omega), e r (by omega), hb, e1 i 2 (by omega), e1 i 3 (by omega)]
  have hg : ∀ r, r < 8 → goneE c (ux x 34 v) q r = goneE c x q r := fun r hr => by
    unfold goneE
    rw [e 8 (by omega), hrep, show (fun i => !busyE (ux x 34 v) r i) = (fun i => !busyE x r i) by funext i; rw [hbz r hr]]
  unfold freE
  have : hldE (ux x 34 v) q (nI w) (goneE c (ux x 34 v) q) = hldE x q (nI w) (goneE c x q) := by
    rw [hldE_congr (g' := goneE c x q) hg]
    unfold hldE
    have a1 : (fun i => decide (ux x 34 v (39 + 13 * i + 1) = nI w)) = (fun i => decide (x (39 + 13 * i + 1) = nI w)) := by funext i; rw [e1 i 1 (by omega)]
    have a2 : cntN (fun r => decide (ux x 34 v r = nI w) && !goneE c x q r) 8 = cntN (fun r => decide (x r = nI w) && !goneE c x q r) 8 := cntN_congr (fun r hr => by rw [e r (by omega)])
    rw [a1, a2]
  rw [this]
def gvE (c : Nat → Nat → Int32) (x : Nat → Int32) (nc i : Nat) : Int32 := nI (cntN (freE c x (i + 1)) nc) - nI (cntN (freE c x (nN x)) nc)
theorem gives_c0 {i : Int32} (h : isEn P S i = false) : Qc z p d P S I (fun σ => f_X8_gives z i σ) (-1) 1 := by
  intro σ tr wh C
  refine ⟨sI σ z 12 1, ?_, C.r 1 (by decide), fg_c 1⟩
  simp only [f_X8_gives_14, f_X8_gives_0, f_X8_gives, C.1.zt, cEnt C.1, h, ref_1 C.1.zt, osb, b2i_t, b2i_f, i10, i00, if_true, if_false, Bool.not_true, Bool.not_false, Bool.true_and, Bool.false_and, Bool.and_true, Bool.and_false]
theorem gives_r0 (A : AW P S I B) {i : Int32} (h : isEn P S i = false) : Qr M P S I (fun σ => f_X10_gives M i σ) (-1) 1 := by
  intro σ tr wh R
  have R1 := R.1.s0
  refine ⟨sI (sI (sI σ M 0 0) M 1 1) M 2 (-1), ?_, R1.end 1, RS.end (RS.s0 (by omega)) 1⟩
  simp only [f_X10_gives_0, f_X10_gives, R.1.t, pI_k R.1.t, rEnt R1 A, h, refd_k R1.t, osb, b2i_t, b2i_f, i10, i00, if_true, if_false, Bool.not_true, Bool.not_false, Bool.true_and, Bool.false_and, Bool.and_true, Bool.and_false]
theorem gives_c1 (A : AW P S I B) (hP : P.1 = true) {j : Nat} (hj : j < nN S.1) (hi : isEn P S (nI j) = true) : Qc z p d P S I (fun σ => f_X8_gives z (nI j) σ) (gvE P.2.1 S.1 P.2.2.2.2.2 j) 0 := by
  intro σ tr wh C
  have C1 := C.r 0 (by decide)
  have D := C1.1.mq hP
  have h24 := D.c24
  refine ⟨sI σ z 12 0, ?_, C1, fg_c 0⟩
  simp only [f_X8_gives_14, f_X8_gives_0, f_X8_gives, C.1.zt, cEnt C.1, hi, ref_0 C.1.zt, C1.1.m, nI_1, free_c D (show j + 1 ≤ nN S.1 by omega), bc_k, D.f.2.2.2.1, free_c D (Nat.le_refl _), cnt_setN (show P.2.2.2.2.2 ≤ 32 by omega), osb, b2i_t, b2i_f, i10, i00, if_true, if_false, Bool.not_true, Bool.not_false, Bool.true_and, Bool.false_and, Bool.and_true, Bool.and_false]
  rfl
theorem gives_r1 (A : AW P S I B) (hP : P.1 = true) {j : Nat} (hj : j < nN S.1) (hi : isEn P S (nI j) = true) : Qr M P S I (fun σ => f_X10_gives M (nI j) σ) (gvE P.2.1 S.1 P.2.2.2.2.2 j) 0 := by
  intro σ tr wh R
  have R1 := R.1.s0
  have K := A.rk hP
  have h12 := K.1.n12
  have h24 := K.1.2.1.2.2.1
  obtain ⟨k, ω, w1, w2, Dk, h26, w5, w6⟩ := R1.work A hP
  obtain ⟨k0, D0, -⟩ := R1.md hP
  have hb : ∀ q, bt (setN (freE P.2.1 S.1 q) P.2.2.2.2.2) 31 = false := fun q => by rw [b_setN (by omega) (by omega), decide_eq_false (by omega)]; rfl
  have ex : xI (M + 4) 34 (nI (j + 1)) ω = some (sR (sI (sI σ M 0 0) M 26 (nI P.2.2.2.2.2)) (M + 4) (ux S.1 34 (nI (j + 1)))) := by
    rw [w2]; exact w34 (D0.setM _) S.1
  have D2 : Md (sR (sI (sI σ M 0 0) M 26 (nI P.2.2.2.2.2)) (M + 4) (ux S.1 34 (nI (j + 1)))) M k0 P.2.1 (ux S.1 34 (nI (j + 1))) := (D0.setM _).to _
  have X2 : Xs (ux S.1 34 (nI (j + 1))) (j + 1) := ⟨by omega, fun i hi => by rw [ux_n (by omega)]; exact K.1.xs.2 i (by omega)⟩
  have rs2 : RS M (sI σ M 0 0) (sR (sI (sI σ M 0 0) M 26 (nI P.2.2.2.2.2)) (M + 4) (ux S.1 34 (nI (j + 1)))) := (RS.s0 (by omega)).trans (RS.row (fun q hq => by rw [ux_n (by omega)]; exact (A.2.1 hP).2.2.2.2.2.1.2.1 q hq))
  have f2 := free_k D2 X2 ux_e (nc := P.2.2.2.2.2) (by rw [hI_sRn (by omega), hI_sIe]) h24
  have ef : freE P.2.1 (ux S.1 34 (nI (j + 1))) (j + 1) = freE P.2.1 S.1 (j + 1) := by funext w; exact fre34
  rw [ef] at f2
  have R2 := R1.rs rs2
  refine ⟨_, ?_, R2.end 0, RS.end ((RS.s0 (by omega)).trans rs2) 0⟩
  simp only [f_X10_gives_0, f_X10_gives, R.1.t, pI_k R.1.t, rEnt R1 A, hi, w1, free_k Dk K.1.xs K.1.2.1.2.2.2.1 h26 h24, bits_k _ (hb _), xa_k Dk, nI_1, ex, f2, cnt_setN (show P.2.2.2.2.2 ≤ 32 by omega), good_k R2.t, osb, b2i_t, b2i_f, i10, i00, if_true, if_false, Bool.not_true, Bool.not_false, Bool.true_and, Bool.false_and, Bool.and_true, Bool.and_false]
  rfl
theorem gives_a (A : AW P S I B) (C : CJ z p d P S I tr wh σ) (R : RJ (z + 195) P S I tr wh σ) (o1 : hT σ (z + 203) = 24) (o2 : hN σ (z + 203) = 1) (i : Int32) : Alike z (fun σ => f_X8_gives z i σ) (fun σ => f_X10_gives (z + 195) i σ) B σ := by
  cases hi : isEn P S i with
  | false => exact alk_q A C R o1 o2 (gives_c0 hi) (gives_r0 A hi)
  | true =>
    obtain ⟨hP, j, hj, ej⟩ := ent_a A hi
    subst ej; exact alk_q A C R o1 o2 (gives_c1 A hP hj hi) (gives_r1 A hP hj hi)
end Qe
