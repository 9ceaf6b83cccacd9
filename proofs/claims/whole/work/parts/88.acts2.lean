/-! ACTS: going on, undoing, images -/
section Acts2
variable {σ τ υ : St} {z p d M k t na : Nat} {P : PT} {S S' : SX} {I : IT} {tr wh v w : Int32} {B : Nat} {c : Nat → Nat → Int32} {m : Nat} {x : Nat → Int32} {n nc : Nat}
theorem o01 : ((0 : Int32) = 0 ∨ (0 : Int32) = 1) ↔ True := by decide
theorem o11 : ((1 : Int32) = 0 ∨ (1 : Int32) = 1) ↔ True := by decide
def reE (x : Nat → Int32) (s : Int32) : Nat → Int32 := ux (ux (ux x 36 0) 38 1) 35 s
theorem re_at {s : Int32} {j : Nat} (h : j ≠ 35) (h2 : j ≠ 36) (h3 : j ≠ 38) : reE x s j = x j := by unfold reE; rw [ux_n h, ux_n h3, ux_n h2]
theorem Gd.re (G : Gd P B x) (h36 : x 36 = 1) {s : Int32} : Gd P (B + 1) (reE x s) ∧ nN (reE x s) = nN x := by
  have hn0 := G.1.2 h36
  have e34 : nN (reE x s) = nN x := by unfold nN; rw [re_at (by omega) (by omega) (by omega)]
  have e36 : reE x s 36 = 0 := by unfold reE; rw [ux_n (by omega), ux_n (by omega), ux_e]
  have e38 : reE x s 38 = 1 := by unfold reE; rw [ux_n (by omega), ux_e]
  obtain ⟨C, X, O, V⟩ := G.1.1
  refine ⟨⟨⟨?_, fun h => by rw [e36] at h; exact absurd h (by decide)⟩, fun j hj => by rw [re_at (by omega) (by omega) (by omega)]; exact G.2.1 j hj, Or.inr e38, ?_⟩, e34⟩
  · rw [e34]
    refine ⟨C, Xok.of X (Nat.le_refl _) (by rw [re_at (by omega) (by omega) (by omega)]; exact X.2.2.2.1) (fun j hj => re_at (by omega) (by omega) (by omega)) (Or.inl e36) (fun i hi => absurd hi (by omega)), fun i hi => absurd hi (by omega), fun w hw => by rw [re_at (by omega) (by omega) (by omega)]; exact V w hw⟩
  · obtain ⟨w, hw, ew⟩ := G.2.2.2
    exact ⟨w, by omega, by rw [re_at (by omega) (by omega) (by omega)]; exact ew⟩
theorem re35 {s : Int32} : reE x s 35 = s := by unfold reE; rw [ux_e]
theorem re36 {s : Int32} : reE x s 36 = 0 := by unfold reE; rw [ux_n (by omega), ux_n (by omega), ux_e]
theorem re38 {s : Int32} : reE x s 38 = 1 := by unfold reE; rw [ux_n (by omega), ux_e]
theorem MR.re {s : Int32} (R : MR c x 0 nc σ k) (e : ∀ q, q ≠ 16 → q ≠ 17 → q ≠ 18 → hI τ k q = hI σ k q) (er : ∀ r, r ≠ k → hI τ r = hI σ r) (h16 : hI τ k 16 = s) (h17 : hI τ k 17 = 0) (h18 : hI τ k 18 = 1) : MR c (reE x s) 0 nc τ k := by
  obtain ⟨⟨r1, r2, r3, r4, r5, r6, r7, r8⟩, rv, rk, re, rb⟩ := R
  refine ⟨⟨?_, ?_, ?_, ?_, ?_, ?_, ?_, ?_⟩, fun w hw => ?_, fun r hr => ?_, fun i hi => absurd hi (Nat.not_lt_zero _), fun i hi => ?_⟩
  · rw [e 1 (by omega) (by omega) (by omega)]; exact r1
  · rw [e 3 (by omega) (by omega) (by omega), re_at (by omega) (by omega) (by omega)]; exact r2
  · rw [e 5 (by omega) (by omega) (by omega), re_at (by omega) (by omega) (by omega)]; exact r3
  · rw [e 6 (by omega) (by omega) (by omega)]; exact r4
  · rw [h16, re35]
  · rw [h17, re36]
  · rw [h18, re38]
  · rw [e 19 (by omega) (by omega) (by omega), re_at (by omega) (by omega) (by omega)]; exact r8
  · rw [er (k + 1) (by omega), re_at (by omega) (by omega) (by omega)]; exact rv w hw
  · rw [er (k + 2) (by omega), re_at (by omega) (by omega) (by omega)]; exact rk r hr
  · have h0 : decide (i < 0) = false := rfl
    have rbi := rb i hi
    rw [e 11 (by omega) (by omega) (by omega), e 12 (by omega) (by omega) (by omega), e 13 (by omega) (by omega) (by omega), e 14 (by omega) (by omega) (by omega), e 15 (by omega) (by omega) (by omega)]
    rw [h0, Bool.false_and, Bool.false_and, Bool.false_and, Bool.false_and, Bool.false_and] at rbi
    rw [h0, Bool.false_and, Bool.false_and, Bool.false_and, Bool.false_and, Bool.false_and]
    exact rbi
theorem goOn_c (D : Mq P p σ k x) (hd : p + 10 < k) (G : Gd P B x) (h36 : x 36 = 1) {s : Int32} : ∃ τ, f_X3_goOnAt k s σ = some τ ∧ Fr (inM k) σ τ ∧ Mq P p τ k (reE x s) := by
  obtain ⟨G', e34⟩ := G.re h36 (s := s)
  have hn0 := G.1.2 h36
  have hin : inM k k := ⟨by omega, by omega⟩
  have F : Fr (inM k) σ (sI (sI (sI σ k 16 s) k 17 0) k 18 1) := Fr.st (Fr.st (Fr.s0 hin) hin) hin
  have e : ∀ q, q ≠ 16 → q ≠ 17 → q ≠ 18 → hI (sI (sI (sI σ k 16 s) k 17 0) k 18 1) k q = hI σ k q := fun q h1 h2 h3 => by rw [hI_sIn (Or.inr h3), hI_sIn (Or.inr h2), hI_sIn (Or.inr h1)]
  have er : ∀ r, r ≠ k → hI (sI (sI (sI σ k 16 s) k 17 0) k 18 1) r = hI σ r := fun r h => by rw [hI_sIr h, hI_sIr h, hI_sIr h]
  have k16 : hI (sI (sI (sI σ k 16 s) k 17 0) k 18 1) k 16 = s := by rw [hI_sIn (Or.inr (by omega)), hI_sIn (Or.inr (by omega)), hI_sIe]
  have k17 : hI (sI (sI (sI σ k 16 s) k 17 0) k 18 1) k 17 = 0 := by rw [hI_sIn (Or.inr (by omega)), hI_sIe]
  have k18 : hI (sI (sI (sI σ k 16 s) k 17 0) k 18 1) k 18 = 1 := hI_sIe
  have hf : f_X3_goOnAt k s σ = some (sI (sI (sI σ k 16 s) k 17 0) k 18 1) := by
    unfold f_X3_goOnAt f_X3_goOnAt_0
    rw [if_pos D.1.1, pI_k D.1.1, osb, pZ_k (σ := sI σ k 16 s) D.1.1 (Or.inl rfl), osb, pZ_k (σ := sI (sI σ k 16 s) k 17 0) D.1.1 (Or.inr rfl), osb]
  generalize sI (sI (sI σ k 16 s) k 17 0) k 18 1 = τ at F e er k16 k17 k18 hf
  have MR0 := D.2.2.2.2.2.1
  have X' := G'.1.1.2.1
  have D' : Mc σ k p P.2.1 P.2.2.1 x (nN x) P.2.2.2.2.2 := D
  rw [hn0] at MR0 e34 D'
  rw [e34] at X'
  refine ⟨τ, hf, F, ?_⟩
  unfold Mq
  rw [e34]
  exact Mc.mk D' F hd (MR0.re e er k16 k17 k18) X'
theorem resume_a (A : AW P S I B) (C : CJ z p d P S I tr wh σ) (R : RJ (z + 195) P S I tr wh σ) (o1 : hT σ (z + 203) = 24) (o2 : hN σ (z + 203) = 1) (s : Int32) : Alike z (fun σ => f_X8_resume z s σ) (fun σ => f_X10_resume (z + 195) s σ) B σ := by
  cases hP : P.1 with
  | false =>
    refine alk_of (v := (0 : Int32)) (tr' := 1) (wh' := -1) (A.up (by omega)) R o1 o2 ⟨sI σ z 12 1, ?_, C.r 1 (by decide), fg_c 1⟩ (fun ρ Rρ => ⟨sI (sI (sI ρ (z + 195) 0 0) (z + 195) 1 1) (z + 195) 2 (-1), ?_, Rρ.1.s0.end 1, RS.end (RS.s0 (by omega)) 1⟩)
    · simp only [f_X8_resume_43, f_X8_resume_61, f_X8_resume_36, f_X8_resume_31, f_X8_resume_13, f_X8_resume_0, f_X8_resume, C.1.zt, C.1.told, hP, ref_1 C.1.zt, osb, b2i_t, b2i_f, i10, i00, if_true, if_false, Bool.not_true, Bool.not_false, Bool.true_and, Bool.false_and, Bool.and_true, Bool.and_false]
    · simp only [f_X10_resume_0, f_X10_resume, Rρ.1.t, pI_k Rρ.1.t, Rρ.1.s0.gq.1 hP, ocn, den_k Rρ.1.s0.t, o01, true_or, or_true, osb, b2i_t, b2i_f, i10, i00, if_true, if_false, Bool.not_true, Bool.not_false, Bool.true_and, Bool.false_and, Bool.and_true, Bool.and_false]
  | true =>
    have G := (A.2.1 hP).2.2.2.2.2.1
    have K := G.1
    have C1 := C.r 0 (by decide)
    have C2 := C1.r 0 (by decide)
    have D2 := C2.1.mq hP
    by_cases hs : s < 0 ∨ 24 < s
    · refine alk_of (v := (0 : Int32)) (tr' := 2) (wh' := -1) (A.up (by omega)) R o1 o2 ⟨sI (sI σ z 12 0) z 12 2, ?_, C1.r 2 (by decide), (fg_c 0).trans (fg_c 2)⟩ (fun ρ Rρ => ⟨sI (sI (sI ρ (z + 195) 0 0) (z + 195) 1 2) (z + 195) 2 (-1), ?_, Rρ.1.s0.end 2, RS.end (RS.s0 (by omega)) 2⟩)
      · by_cases h0 : s < 0
        · simp only [f_X8_resume_43, f_X8_resume_61, f_X8_resume_36, f_X8_resume_31, f_X8_resume_13, f_X8_resume_0, f_X8_resume, C.1.zt, C.1.told, hP, ref_0 C.1.zt, h0, ref_1 C1.1.zt, osb, b2i_t, b2i_f, i10, i00, if_true, if_false, Bool.not_true, Bool.not_false, Bool.true_and, Bool.false_and, Bool.and_true, Bool.and_false]
        · have h1 : ¬ s ≤ 24 := Int32.not_le.mpr (hs.resolve_left h0)
          simp only [f_X8_resume_43, f_X8_resume_61, f_X8_resume_36, f_X8_resume_31, f_X8_resume_13, f_X8_resume_0, f_X8_resume, C.1.zt, C.1.told, hP, ref_0 C.1.zt, h0, h1, ref_1 C1.1.zt, osb, b2i_t, b2i_f, i10, i00, if_true, if_false, Bool.not_true, Bool.not_false, Bool.true_and, Bool.false_and, Bool.and_true, Bool.and_false]
      · obtain ⟨k', e⟩ := Rρ.1.s0.gq.2 hP
        simp only [f_X10_resume_0, f_X10_resume, Rρ.1.t, pI_k Rρ.1.t, e, oco, in_k, decide_eq_true hs, den_k Rρ.1.s0.t, o01, true_or, or_true, osb, b2i_t, b2i_f, i10, i00, if_true, if_false, Bool.not_true, Bool.not_false, Bool.true_and, Bool.false_and, Bool.and_true, Bool.and_false]
    · have h0 : ¬ s < 0 := fun q => hs (Or.inl q)
      have h1 : s ≤ 24 := Int32.not_lt.mp (fun q => hs (Or.inr q))
      rcases K.1.2.1.2.2.2.2.1 with h36 | h36
      · refine alk_of (v := (0 : Int32)) (tr' := 5) (wh' := -1) (A.up (by omega)) R o1 o2 ⟨sI (sI (sI σ z 12 0) z 12 0) z 12 5, ?_, C2.r 5 (by decide), ((fg_c 0).trans (fg_c 0)).trans (fg_c 5)⟩ (fun ρ Rρ => ⟨sI (sI (sI ρ (z + 195) 0 0) (z + 195) 1 5) (z + 195) 2 (-1), ?_, Rρ.1.s0.end 5, RS.end (RS.s0 (by omega)) 5⟩)
        · simp only [f_X8_resume_43, f_X8_resume_61, f_X8_resume_36, f_X8_resume_31, f_X8_resume_13, f_X8_resume_0, f_X8_resume, C.1.zt, C.1.told, hP, ref_0 C.1.zt, h0, h1, ref_0 C1.1.zt, C2.1.m, D2.f.2.2.2.2.2.1, h36, ref_1 C2.1.zt, osb, b2i_t, b2i_f, i10, i00, if_true, if_false, Bool.not_true, Bool.not_false, Bool.true_and, Bool.false_and, Bool.and_true, Bool.and_false]
        · obtain ⟨k', e⟩ := Rρ.1.s0.gq.2 hP
          have a36 : aI 22 (z + 195 + 3) 36 (sI ρ (z + 195) 0 0) = some (S.1 36) := Rρ.1.s0.a3 hP (j := 36) (by omega)
          simp only [f_X10_resume_0, f_X10_resume, Rρ.1.t, pI_k Rρ.1.t, e, oco, in_k, decide_eq_false hs, Rρ.1.s0.1.2.2.2.2.1.r Rρ.1.s0.t, a36, h36, den_k Rρ.1.s0.t, o01, true_or, or_true, osb, b2i_t, b2i_f, i10, i00, if_true, if_false, Bool.not_true, Bool.not_false, Bool.true_and, Bool.false_and, Bool.and_true, Bool.and_false]
      · have C3 := C2.r 0 (by decide)
        obtain ⟨G', e34⟩ := G.re h36 (s := s)
        obtain ⟨τ, υ, t1, t2, t3, t4, t5⟩ := act_c' (f := fun τ => (f_X3_goOnAt (z + 30) s τ).bind fun q => some (1, q)) (v := (1 : Int32)) (y := reE S.1 s) C3 A hP (fun τ M0 => by
          obtain ⟨υ, u1, u2, u3⟩ := goOn_c M0 C.1.hd G h36 (s := s)
          exact ⟨υ, by simp only [u1, osb], u2, u3⟩)
        refine alk_of (v := (1 : Int32)) (A.act hP G') R o1 o2 ⟨υ, ?_, t4, (((fg_c 0).trans (fg_c 0)).trans (fg_c 0)).trans t5⟩ (fun ρ Rρ => ?_)
        · simp only [f_X8_resume_43, f_X8_resume_61, f_X8_resume_36, f_X8_resume_31, f_X8_resume_13, f_X8_resume_0, f_X8_resume, C.1.zt, C.1.told, hP, ref_0 C.1.zt, h0, h1, ref_0 C1.1.zt, C2.1.m, D2.f.2.2.2.2.2.1, h36, ref_0 C2.1.zt, C3.1.hs, C3.1.m, t1, t2.m, t3, osb, b2i_t, b2i_f, i10, i00, if_true, if_false, Bool.not_true, Bool.not_false, Bool.true_and, Bool.false_and, Bool.and_true, Bool.and_false]
        · have R1 := Rρ.1.s0
          obtain ⟨k', e⟩ := R1.gq.2 hP
          have a36 : aI 22 (z + 195 + 3) 36 (sI ρ (z + 195) 0 0) = some (S.1 36) := R1.a3 hP (j := 36) (by omega)
          obtain ⟨ψ, r1, r2, r3, r4⟩ := R1.rem A hP
          have ex : hI ψ (z + 195 + 3) = S.1 := by rw [r3.2.2.2.2.2 (z + 195 + 3) (by omega)]; exact R1.x hP
          have V := r2.1.2.2.2.2.1
          have hy : ∀ j, 195 ≤ j → reE S.1 s j = 0 := G'.2.1
          have R3 : RB (z + 195) P (reE S.1 s, (rmS S).2) I (sR ψ (z + 195 + 3) (reE S.1 s)) := r2.v0 hy
          have x1 : xI (z + 195 + 3) 36 0 ψ = some (sR ψ (z + 195 + 3) (ux S.1 36 0)) := by
            have := ws_r (σ := ψ) (y := S.1) (j := 36) (v := 0) V.2.1 V.2.2 (by omega) (by omega)
            rw [← ex, sR_id] at this
            rw [← ex]
            exact this
          have x2 : xI (z + 195 + 3) 38 1 (sR ψ (z + 195 + 3) (ux S.1 36 0)) = some (sR ψ (z + 195 + 3) (ux (ux S.1 36 0) 38 1)) := ws_r (σ := ψ) (j := 38) V.2.1 V.2.2 (by omega) (by omega)
          have x3 : xI (z + 195 + 3) 35 s (sR ψ (z + 195 + 3) (ux (ux S.1 36 0) 38 1)) = some (sR ψ (z + 195 + 3) (reE S.1 s)) := ws_r (σ := ψ) (j := 35) V.2.1 V.2.2 (by omega) (by omega)
          have g1 : gR 11 20 (z + 195) ψ = some (z + 195 + 3) := V.r r2.t
          have g2 : gR 11 20 (z + 195) (sR ψ (z + 195 + 3) (ux S.1 36 0)) = some (z + 195 + 3) := V.r r2.t
          have g3 : gR 11 20 (z + 195) (sR ψ (z + 195 + 3) (ux (ux S.1 36 0) 38 1)) = some (z + 195 + 3) := V.r r2.t
          refine ⟨sI (sI (sR ψ (z + 195 + 3) (reE S.1 s)) (z + 195) 1 0) (z + 195) 2 (-1), ?_, R3.end 0, (((fg_r.trans (r3.g.mono (fun r h => ⟨by omega, by omega⟩))).trans (Fg.sR ⟨by omega, by omega⟩)).trans (Fg.sI ⟨by omega, by omega⟩)).trans (Fg.sI ⟨by omega, by omega⟩)⟩
          simp only [f_X10_resume_0, f_X10_resume, Rρ.1.t, pI_k Rρ.1.t, e, oco, in_k, decide_eq_false hs, R1.1.2.2.2.2.1.r R1.t, a36, h36, r1, g1, x1, g2, x2, g3, x3, gra_k R3.t, o11, true_or, or_true, osb, b2i_t, b2i_f, i10, i00, if_true, if_false, Bool.not_true, Bool.not_false, Bool.true_and, Bool.false_and, Bool.and_true, Bool.and_false]
-- undo
theorem undo_a (A : AW P S I B) (C : CJ z p d P S I tr wh σ) (R : RJ (z + 195) P S I tr wh σ) (o1 : hT σ (z + 203) = 24) (o2 : hN σ (z + 203) = 1) : Alike z (fun σ => f_X8_undo z σ) (fun σ => f_X10_undo (z + 195) σ) B σ := by
  have ht := C.1.2.2.1.1
  have e3 := C.1.hd'.1
  by_cases h0 : S.2.1 = 0
  · refine alk_of (v := (0 : Int32)) (tr' := 6) (wh' := -1) (A.up (by omega)) R o1 o2 ⟨sI σ z 12 6, ?_, C.r 6 (by decide), fg_c 6⟩ (fun ρ Rρ => ⟨sI (sI (sI ρ (z + 195) 0 0) (z + 195) 1 6) (z + 195) 2 (-1), ?_, Rρ.1.s0.end 6, RS.end (RS.s0 (by omega)) 6⟩)
    · simp only [f_X8_undo_16, f_X8_undo_0, f_X8_undo, C.1.zt, C.1.hs, gI_k ht, e3, h0, nI_0, ref_1 C.1.zt, osb, b2i_t, b2i_f, i10, i00, if_true, if_false, Bool.not_true, Bool.not_false, Bool.true_and, Bool.false_and, Bool.and_true, Bool.and_false]
    · cases hP : P.1 with
      | false => simp only [f_X10_undo, f_X10_undo_0, f_X10_undo_19, Rρ.1.t, pI_k Rρ.1.t, Rρ.1.s0.gq.1 hP, ocn, den_k Rρ.1.s0.t, o01, true_or, or_true, osb, b2i_t, b2i_f, i10, i00, if_true, if_false, Bool.not_true, Bool.not_false, Bool.true_and, Bool.false_and, Bool.and_true, Bool.and_false]
      | true =>
        obtain ⟨k', e⟩ := Rρ.1.s0.gq.2 hP
        simp only [f_X10_undo, f_X10_undo_0, f_X10_undo_19, Rρ.1.t, pI_k Rρ.1.t, e, oco, gI_k Rρ.1.s0.t, Rρ.1.s0.2.1.2.2.1, h0, nI_0, den_k Rρ.1.s0.t, o01, true_or, or_true, osb, b2i_t, b2i_f, i10, i00, if_true, if_false, Bool.not_true, Bool.not_false, Bool.true_and, Bool.false_and, Bool.and_true, Bool.and_false]
  · have hP : P.1 = true := by
      cases hP : P.1 with
      | true => rfl
      | false => exact absurd (A.1 hP).1 h0
    have h16 := A.2.2.1
    have G := (A.2.1 hP).2.2.2.2.2.2.1 (S.2.1 - 1) (by omega)
    have C1 := C.r 0 (by decide)
    obtain ⟨τ, t1, t2, t3, t4⟩ := back_h C1.1 hP (by omega) G.2.2.1
    have A' : AW P (S.2.2.1 (S.2.1 - 1), S.2.1 - 1, S.2.2) I (B + 1) := by
      have A1 := A.up (B' := B + 1) (by omega)
      obtain ⟨b1, b2, b3, b4, b5, b6, b7, b8, b9⟩ := A1.2.1 hP
      exact ⟨fun h => absurd (hP.symm.trans h) (by decide), fun _ => ⟨b1, b2, b3, b4, b5, b7 _ (by omega), fun k hk => b7 k (by have : k < S.2.1 - 1 := hk; omega), b8, b9⟩, show S.2.1 - 1 ≤ 16 by omega, A.2.2.2.1, A.2.2.2.2⟩
    have hs : nI S.2.1 - 1 = nI (S.2.1 - 1) := by
      show nI S.2.1 - nI 1 = _
      rw [pk_sub (by omega)]
    refine alk_of (v := (1 : Int32)) A' R o1 o2 ⟨τ, ?_, C1.lo t2 t4, (fg_c 0).trans t3⟩ (fun ρ Rρ => ?_)
    · simp only [f_X8_undo_16, f_X8_undo_0, f_X8_undo, C.1.zt, C.1.hs, gI_k ht, e3, nI_ne0 (show 0 < S.2.1 by omega) (show S.2.1 < 2 ^ 31 by omega), ref_0 C.1.zt, C1.1.hs, C1.1.m, t1, osb, b2i_t, b2i_f, i10, i00, if_true, if_false, Bool.not_true, Bool.not_false, Bool.true_and, Bool.false_and, Bool.and_true, Bool.and_false]
    · have R1 := Rρ.1.s0
      obtain ⟨k', e⟩ := R1.gq.2 hP
      have Hω : Hr (sI (sI ρ (z + 195) 0 0) (z + 195) 24 (nI (S.2.1 - 1))) (z + 195) := R1.hr
      have hl := un38 Hω (na := S.2.1 - 1) hI_sIe (by omega) (hI (sI (sI ρ (z + 195) 0 0) (z + 195) 24 (nI (S.2.1 - 1))) (z + 195 + 3)) 195 0 FU (by omega) (by unfold FU; omega)
      rw [fil_0, sR_id, nI_0] at hl
      obtain ⟨-, g1, g2, g3⟩ := R1.2.2.2.2.2.2 hP
      have e5 : hI (sI (sI ρ (z + 195) 0 0) (z + 195) 24 (nI (S.2.1 - 1))) (z + 195 + 5) = hI (sI ρ (z + 195) 0 0) (z + 195 + 5) := hI_sIr (by omega)
      have e6 : hI (sI (sI ρ (z + 195) 0 0) (z + 195) 24 (nI (S.2.1 - 1))) (z + 195 + 3) = S.1 := by rw [hI_sIr (by omega)]; exact g1
      have ef : fil S.1 0 (fun j => hI (sI ρ (z + 195) 0 0) (z + 195 + 5) (195 * (S.2.1 - 1) + j)) 195 = S.2.2.1 (S.2.1 - 1) := by
        funext j
        by_cases hj : j < 195
        · unfold fil; rw [if_pos (by omega), Nat.sub_zero]; exact g2 (S.2.1 - 1) (by omega) j hj
        · rw [fil_n (by omega), G.2.1 j (by omega)]; exact (A.2.1 hP).2.2.2.2.2.1.2.1 j (by omega)
      rw [e5, e6, ef] at hl
      have Rn : RB (z + 195) P (S.2.2.1 (S.2.1 - 1), S.2.1 - 1, S.2.2) I (sR (sI (sI ρ (z + 195) 0 0) (z + 195) 24 (nI (S.2.1 - 1))) (z + 195 + 3) (S.2.2.1 (S.2.1 - 1))) := by
        have er : ∀ r, r ≠ z + 195 → r ≠ z + 195 + 3 → hI (sR (sI (sI ρ (z + 195) 0 0) (z + 195) 24 (nI (S.2.1 - 1))) (z + 195 + 3) (S.2.2.1 (S.2.1 - 1))) r = hI (sI ρ (z + 195) 0 0) r := fun r h1 h2 => by rw [hI_sRn h2, hI_sIr h1]
        have eM : ∀ q, q ≠ 24 → hI (sR (sI (sI ρ (z + 195) 0 0) (z + 195) 24 (nI (S.2.1 - 1))) (z + 195 + 3) (S.2.2.1 (S.2.1 - 1))) (z + 195) q = hI (sI ρ (z + 195) 0 0) (z + 195) q := fun q hq => by rw [hI_sRn (by omega), hI_sIn (Or.inr hq)]
        exact R1.rows rfl rfl rfl rfl (fun r h1 h2 _ _ => er r h1 h2) (eM 6 (by omega)) (eM 12 (by omega)) (by rw [hI_sRn (by omega), hI_sIe]) (by rw [eM 25 (by omega)]; exact R1.2.1.2.2.2) (fun j hj => by rw [hI_sRe]; exact G.2.1 j hj) (fun _ => ⟨hI_sRe, fun k hk j hj => by
          have hk' : k < S.2.1 - 1 := hk
          rw [er _ (by omega) (by omega)]; exact g2 k (by omega) j hj, fun k hk j hj => by rw [er _ (by omega) (by omega)]; exact g3 k hk j hj⟩)
      refine ⟨_, ?_, Rn.end 0, (((fg_r.trans (Fg.sI ⟨by omega, by omega⟩)).trans (Fg.sR ⟨by omega, by omega⟩)).trans (Fg.sI ⟨by omega, by omega⟩)).trans (Fg.sI ⟨by omega, by omega⟩)⟩
      simp only [f_X10_undo, f_X10_undo_0, Rρ.1.t, pI_k Rρ.1.t, e, oco, gI_k R1.t, R1.2.1.2.2.1, nI_ne0 (show 0 < S.2.1 by omega) (show S.2.1 < 2 ^ 31 by omega), hs, pI_k R1.t, hl, true_or, or_true, osb, b2i_t, b2i_f, i10, i00, if_true, if_false, Bool.not_true, Bool.not_false, Bool.true_and, Bool.false_and, Bool.and_true, Bool.and_false]
-- image
theorem image_a (A : AW P S I B) (C : CJ z p d P S I tr wh σ) (R : RJ (z + 195) P S I tr wh σ) (o1 : hT σ (z + 203) = 24) (o2 : hN σ (z + 203) = 1) : Alike z (fun σ => f_X8_image z σ) (fun σ => f_X10_image (z + 195) σ) B σ := by
  cases hP : P.1 with
  | false =>
    refine alk_of (v := (-1 : Int32)) (tr' := 1) (wh' := -1) (A.up (by omega)) R o1 o2 ⟨sI σ z 12 1, ?_, C.r 1 (by decide), fg_c 1⟩ (fun ρ Rρ => ⟨sI (sI (sI ρ (z + 195) 0 0) (z + 195) 1 1) (z + 195) 2 (-1), ?_, Rρ.1.s0.end 1, RS.end (RS.s0 (by omega)) 1⟩)
    · simp only [f_X8_image_44, f_X8_image_37, f_X8_image_13, f_X8_image_0, f_X8_image, C.1.zt, C.1.told, hP, ref_1 C.1.zt, osb, b2i_t, b2i_f, i10, i00, if_true, if_false, Bool.not_true, Bool.not_false, Bool.true_and, Bool.false_and, Bool.and_true, Bool.and_false]
    · simp only [f_X10_image, f_X10_image_0, Rρ.1.t, pI_k Rρ.1.t, Rρ.1.s0.gq.1 hP, ocn, refd_k Rρ.1.s0.t, osb, b2i_t, b2i_f, i10, i00, if_true, if_false, Bool.not_true, Bool.not_false, Bool.true_and, Bool.false_and, Bool.and_true, Bool.and_false]
  | true =>
    have C1 := C.r 0 (by decide)
    have ht := C1.1.2.2.1.1
    have e4 := C1.1.hd'.2.1
    have h3 := A.2.2.2.1
    by_cases hn : S.2.2.2.1 = 3
    · refine alk_of (v := (-1 : Int32)) (tr' := 3) (wh' := -1) (A.up (by omega)) R o1 o2 ⟨sI (sI σ z 12 0) z 12 3, ?_, C1.r 3 (by decide), (fg_c 0).trans (fg_c 3)⟩ (fun ρ Rρ => ⟨sI (sI (sI ρ (z + 195) 0 0) (z + 195) 1 3) (z + 195) 2 (-1), ?_, Rρ.1.s0.end 3, RS.end (RS.s0 (by omega)) 3⟩)
      · simp only [f_X8_image_44, f_X8_image_37, f_X8_image_13, f_X8_image_0, f_X8_image, C.1.zt, C.1.told, hP, ref_0 C.1.zt, C1.1.hs, gI_k ht, e4, hn, show ¬ nI 3 < 3 by decide, ref_1 C1.1.zt, osb, b2i_t, b2i_f, i10, i00, if_true, if_false, Bool.not_true, Bool.not_false, Bool.true_and, Bool.false_and, Bool.and_true, Bool.and_false]
      · obtain ⟨k', e⟩ := Rρ.1.s0.gq.2 hP
        simp only [f_X10_image, f_X10_image_0, Rρ.1.t, pI_k Rρ.1.t, e, oco, gI_k Rρ.1.s0.t, Rρ.1.s0.2.1.2.2.2, hn, show nI 3 = 3 by decide, refd_k Rρ.1.s0.t, osb, b2i_t, b2i_f, i10, i00, if_true, if_false, Bool.not_true, Bool.not_false, Bool.true_and, Bool.false_and, Bool.and_true, Bool.and_false]
    · have hlt : nI S.2.2.2.1 < 3 := nI_lt (b := 3) (by omega) (by omega)
      have hne : ¬ nI S.2.2.2.1 = 3 := fun q => hn ((nI_eq (b := 3) (by omega) (by omega)).mp q)
      have G := (A.2.1 hP).2.2.2.2.2.1
      have C2 := C1.r 0 (by decide)
      obtain ⟨τ, t1, t2, t3, t4⟩ := pic_h C2.1 hP (by omega) G.2.2.1
      have A' : AW P (S.1, S.2.1, S.2.2.1, S.2.2.2.1 + 1, fun k => if k = S.2.2.2.1 then S.1 else S.2.2.2.2 k) I (B + 1) := by
        have A1 := A.up (B' := B + 1) (by omega)
        obtain ⟨b1, b2, b3, b4, b5, b6, b7, b8, b9⟩ := A1.2.1 hP
        refine ⟨fun h => absurd (hP.symm.trans h) (by decide), fun _ => ⟨b1, b2, b3, b4, b5, b6, b7, fun k hk => ?_, b9⟩, A.2.2.1, show S.2.2.2.1 + 1 ≤ 3 by omega, A.2.2.2.2⟩
        have hk' : k < S.2.2.2.1 + 1 := hk
        show Gd P (B + 1) (if k = S.2.2.2.1 then S.1 else S.2.2.2.2 k)
        by_cases q : k = S.2.2.2.1
        · rw [if_pos q]; exact b6
        · rw [if_neg q]; exact b8 k (by omega)
      refine alk_of (v := nI S.2.2.2.1) A' R o1 o2 ⟨τ, ?_, C2.lo t2 (fun r hr => t4 r (by omega)), ((fg_c 0).trans (fg_c 0)).trans t3⟩ (fun ρ Rρ => ?_)
      · simp only [f_X8_image_44, f_X8_image_37, f_X8_image_13, f_X8_image_0, f_X8_image, C.1.zt, C.1.told, hP, ref_0 C.1.zt, C1.1.hs, gI_k ht, e4, hlt, ref_0 C1.1.zt, C2.1.hs, C2.1.m, t1, osb, b2i_t, b2i_f, i10, i00, if_true, if_false, Bool.not_true, Bool.not_false, Bool.true_and, Bool.false_and, Bool.and_true, Bool.and_false]
      · have R1 := Rρ.1.s0
        obtain ⟨k', e⟩ := R1.gq.2 hP
        have hl := im34 R1.hr R1.2.1.2.2.2 (by omega) (hI (sI ρ (z + 195) 0 0) (z + 195 + 6)) 195 0 FU (by omega) (by unfold FU; omega)
        obtain ⟨-, g1, g2, g3⟩ := R1.2.2.2.2.2.2 hP
        rw [fil_0, sR_id, nI_0, g1] at hl
        have Rn : RB (z + 195) P (S.1, S.2.1, S.2.2.1, S.2.2.2.1 + 1, fun k => if k = S.2.2.2.1 then S.1 else S.2.2.2.2 k) I (sI (sR (sI ρ (z + 195) 0 0) (z + 195 + 6) (fil (hI (sI ρ (z + 195) 0 0) (z + 195 + 6)) (195 * S.2.2.2.1) S.1 195)) (z + 195) 25 (nI (S.2.2.2.1 + 1))) := by
          have er : ∀ r, r ≠ z + 195 → r ≠ z + 195 + 6 → hI (sI (sR (sI ρ (z + 195) 0 0) (z + 195 + 6) (fil (hI (sI ρ (z + 195) 0 0) (z + 195 + 6)) (195 * S.2.2.2.1) S.1 195)) (z + 195) 25 (nI (S.2.2.2.1 + 1))) r = hI (sI ρ (z + 195) 0 0) r := fun r h1 h2 => by rw [hI_sIr h1, hI_sRn h2]
          have eM : ∀ q, q ≠ 25 → hI (sI (sR (sI ρ (z + 195) 0 0) (z + 195 + 6) (fil (hI (sI ρ (z + 195) 0 0) (z + 195 + 6)) (195 * S.2.2.2.1) S.1 195)) (z + 195) 25 (nI (S.2.2.2.1 + 1))) (z + 195) q = hI (sI ρ (z + 195) 0 0) (z + 195) q := fun q hq => by rw [hI_sIn (Or.inr hq), hI_sRn (by omega)]
          refine R1.rows rfl rfl rfl rfl (fun r h1 _ _ h2 => er r h1 h2) (eM 6 (by omega)) (eM 12 (by omega)) (by rw [eM 24 (by omega)]; exact R1.2.1.2.2.1) hI_sIe (fun j hj => by rw [er _ (by omega) (by omega)]; exact R1.2.2.2.1 j hj) (fun _ => ⟨by rw [er _ (by omega) (by omega)]; exact g1, fun k hk j hj => by rw [er _ (by omega) (by omega)]; exact g2 k hk j hj, fun k hk j hj => ?_⟩)
          have hk' : k < S.2.2.2.1 + 1 := hk
          show _ = (if k = S.2.2.2.1 then S.1 else S.2.2.2.2 k) j
          rw [hI_sIr (by omega), hI_sRe]
          by_cases q : k = S.2.2.2.1
          · rw [if_pos q]; unfold fil; rw [if_pos (by omega), show 195 * k + j - 195 * S.2.2.2.1 = j by rw [q]; omega]
          · rw [if_neg q, fil_n (by omega)]; exact g3 k (by omega) j hj
        refine ⟨_, ?_, Rn.end 0, (((fg_r.trans (Fg.sR ⟨by omega, by omega⟩)).trans (Fg.sI ⟨by omega, by omega⟩)).trans (Fg.sI ⟨by omega, by omega⟩)).trans (Fg.sI ⟨by omega, by omega⟩)⟩
        simp only [f_X10_image, f_X10_image_0, Rρ.1.t, pI_k Rρ.1.t, e, oco, gI_k R1.t, R1.2.1.2.2.2, hne, hl, true_or, or_true, osb, b2i_t, b2i_f, i10, i00, if_true, if_false, Bool.not_true, Bool.not_false, Bool.true_and, Bool.false_and, Bool.and_true, Bool.and_false]
-- back
theorem back_a (A : AW P S I B) (C : CJ z p d P S I tr wh σ) (R : RJ (z + 195) P S I tr wh σ) (o1 : hT σ (z + 203) = 24) (o2 : hN σ (z + 203) = 1) (i : Int32) : Alike z (fun σ => f_X8_back z i σ) (fun σ => f_X10_back (z + 195) i σ) B σ := by
  have ht := C.1.2.2.1.1
  have e4 := C.1.hd'.2.1
  have h3 := A.2.2.2.1
  by_cases hb : i < 0 ∨ nI S.2.2.2.1 ≤ i
  · refine alk_of (v := (0 : Int32)) (tr' := 1) (wh' := -1) (A.up (by omega)) R o1 o2 ⟨sI σ z 12 1, ?_, C.r 1 (by decide), fg_c 1⟩ (fun ρ Rρ => ⟨sI (sI (sI ρ (z + 195) 0 0) (z + 195) 1 1) (z + 195) 2 (-1), ?_, Rρ.1.s0.end 1, RS.end (RS.s0 (by omega)) 1⟩)
    · by_cases h0 : i < 0
      · simp only [f_X8_back_21, f_X8_back_16, f_X8_back_0, f_X8_back, C.1.zt, h0, ref_1 C.1.zt, osb, b2i_t, b2i_f, i10, i00, if_true, if_false, Bool.not_true, Bool.not_false, Bool.true_and, Bool.false_and, Bool.and_true, Bool.and_false]
      · have h1 : ¬ i < nI S.2.2.2.1 := Int32.not_lt.mpr (hb.resolve_left h0)
        simp only [f_X8_back_21, f_X8_back_16, f_X8_back_0, f_X8_back, C.1.zt, h0, C.1.hs, gI_k ht, e4, h1, ref_1 C.1.zt, osb, b2i_t, b2i_f, i10, i00, if_true, if_false, Bool.not_true, Bool.not_false, Bool.true_and, Bool.false_and, Bool.and_true, Bool.and_false]
    · cases hP : P.1 with
      | false => simp only [f_X10_back, f_X10_back_0, f_X10_back_24, Rρ.1.t, pI_k Rρ.1.t, Rρ.1.s0.gq.1 hP, ocn, den_k Rρ.1.s0.t, o01, true_or, or_true, osb, b2i_t, b2i_f, i10, i00, if_true, if_false, Bool.not_true, Bool.not_false, Bool.true_and, Bool.false_and, Bool.and_true, Bool.and_false]
      | true =>
        obtain ⟨k', e⟩ := Rρ.1.s0.gq.2 hP
        by_cases h0 : i < 0
        · simp only [f_X10_back, f_X10_back_0, f_X10_back_24, Rρ.1.t, pI_k Rρ.1.t, e, oco, h0, den_k Rρ.1.s0.t, o01, true_or, or_true, osb, b2i_t, b2i_f, i10, i00, if_true, if_false, Bool.not_true, Bool.not_false, Bool.true_and, Bool.false_and, Bool.and_true, Bool.and_false]
        · have h1 : ¬ i < nI S.2.2.2.1 := Int32.not_lt.mpr (hb.resolve_left h0)
          simp only [f_X10_back, f_X10_back_0, f_X10_back_24, Rρ.1.t, pI_k Rρ.1.t, e, oco, h0, gI_k Rρ.1.s0.t, Rρ.1.s0.2.1.2.2.2, h1, den_k Rρ.1.s0.t, o01, true_or, or_true, osb, b2i_t, b2i_f, i10, i00, if_true, if_false, Bool.not_true, Bool.not_false, Bool.true_and, Bool.false_and, Bool.and_true, Bool.and_false]
  · obtain ⟨a, ha, ea⟩ : ∃ a, a < S.2.2.2.1 ∧ i = nI a := by
      rcases pk_ix i (n := S.2.2.2.1) (by omega) with q | q | q
      · exact absurd (Or.inl q) hb
      · exact absurd (Or.inr q) hb
      · exact q
    subst ea
    have hP : P.1 = true := by
      cases hP : P.1 with
      | true => rfl
      | false => have := (A.1 hP).2; omega
    have h0 : ¬ nI a < 0 := fun q => hb (Or.inl q)
    have h1 : nI a < nI S.2.2.2.1 := nI_lt ha (by omega)
    have G := (A.2.1 hP).2.2.2.2.2.2.2.1 a ha
    have C1 := C.r 0 (by decide)
    obtain ⟨τ, t1, t2, t3, t4⟩ := ret_h C1.1 hP ha G.2.2.1
    have A' : AW P (S.2.2.2.2 a, 0, S.2.2) I (B + 1) := by
      have A1 := A.up (B' := B + 1) (by omega)
      obtain ⟨b1, b2, b3, b4, b5, b6, b7, b8, b9⟩ := A1.2.1 hP
      exact ⟨fun h => absurd (hP.symm.trans h) (by decide), fun _ => ⟨b1, b2, b3, b4, b5, b8 _ ha, fun k hk => absurd (show k < 0 from hk) (by omega), b8, b9⟩, show 0 ≤ 16 by omega, A.2.2.2.1, A.2.2.2.2⟩
    refine alk_of (v := (1 : Int32)) A' R o1 o2 ⟨τ, ?_, C1.lo t2 t4, (fg_c 0).trans t3⟩ (fun ρ Rρ => ?_)
    · simp only [f_X8_back_21, f_X8_back_16, f_X8_back_0, f_X8_back, C.1.zt, h0, C.1.hs, gI_k ht, e4, h1, ref_0 C.1.zt, C1.1.hs, C1.1.m, t1, osb, b2i_t, b2i_f, i10, i00, if_true, if_false, Bool.not_true, Bool.not_false, Bool.true_and, Bool.false_and, Bool.and_true, Bool.and_false]
    · have R1 := Rρ.1.s0
      obtain ⟨k', e⟩ := R1.gq.2 hP
      have hl := bk32 R1.hr (a := a) (by omega) (hI (sI ρ (z + 195) 0 0) (z + 195 + 3)) 195 0 FU (by omega) (by unfold FU; omega)
      obtain ⟨-, g1, g2, g3⟩ := R1.2.2.2.2.2.2 hP
      have ef : fil S.1 0 (fun j => hI (sI ρ (z + 195) 0 0) (z + 195 + 6) (195 * a + j)) 195 = S.2.2.2.2 a := by
        funext j
        by_cases hj : j < 195
        · unfold fil; rw [if_pos (by omega), Nat.sub_zero]; exact g3 a ha j hj
        · rw [fil_n (by omega), G.2.1 j (by omega)]; exact (A.2.1 hP).2.2.2.2.2.1.2.1 j (by omega)
      rw [fil_0, sR_id, nI_0, g1, ef] at hl
      have Rn : RB (z + 195) P (S.2.2.2.2 a, 0, S.2.2) I (sI (sR (sI ρ (z + 195) 0 0) (z + 195 + 3) (S.2.2.2.2 a)) (z + 195) 24 0) := by
        have er : ∀ r, r ≠ z + 195 → r ≠ z + 195 + 3 → hI (sI (sR (sI ρ (z + 195) 0 0) (z + 195 + 3) (S.2.2.2.2 a)) (z + 195) 24 0) r = hI (sI ρ (z + 195) 0 0) r := fun r h1 h2 => by rw [hI_sIr h1, hI_sRn h2]
        have eM : ∀ q, q ≠ 24 → hI (sI (sR (sI ρ (z + 195) 0 0) (z + 195 + 3) (S.2.2.2.2 a)) (z + 195) 24 0) (z + 195) q = hI (sI ρ (z + 195) 0 0) (z + 195) q := fun q hq => by rw [hI_sIn (Or.inr hq), hI_sRn (by omega)]
        exact R1.rows rfl rfl rfl rfl (fun r h1 h2 _ _ => er r h1 h2) (eM 6 (by omega)) (eM 12 (by omega)) (by rw [hI_sIe]; rfl) (by rw [eM 25 (by omega)]; exact R1.2.1.2.2.2) (fun j hj => by rw [hI_sIr (by omega), hI_sRe]; exact G.2.1 j hj) (fun _ => ⟨by rw [hI_sIr (by omega), hI_sRe], fun k hk j hj => absurd (show k < 0 from hk) (by omega), fun k hk j hj => by rw [er _ (by omega) (by omega)]; exact g3 k hk j hj⟩)
      refine ⟨_, ?_, Rn.end 0, (((fg_r.trans (Fg.sR ⟨by omega, by omega⟩)).trans (Fg.sI ⟨by omega, by omega⟩)).trans (Fg.sI ⟨by omega, by omega⟩)).trans (Fg.sI ⟨by omega, by omega⟩)⟩
      simp only [f_X10_back, f_X10_back_0, Rρ.1.t, pI_k Rρ.1.t, e, oco, h0, gI_k R1.t, R1.2.1.2.2.2, h1, hl, true_or, or_true, osb, b2i_t, b2i_f, i10, i00, if_true, if_false, Bool.not_true, Bool.not_false, Bool.true_and, Bool.false_and, Bool.and_true, Bool.and_false]
end Acts2
