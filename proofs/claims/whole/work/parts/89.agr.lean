/-! QUESTIONS: does it agree; which is led -/
section Agr
variable {σ τ υ : St} {z p d M k t na : Nat} {P : PT} {S S' : SX} {I : IT} {tr wh v w : Int32} {B : Nat} {c : Nat → Nat → Int32} {m : Nat} {x : Nat → Int32} {n nc : Nat} {rg : Nat → Int32}
def agB (c : Nat → Nat → Int32) (x rg : Nat → Int32) (r : Nat) : Bool := goneE c x (nN x) r || decide (x (9 + (x r).toNatClampNeg) = rg r)
theorem allN_f {q : Nat → Bool} {n i : Nat} (hi : i < n) (h : q i = false) : allN q n = false := by
  cases hq : allN q n with
  | false => rfl
  | true => rw [allN_iff.mp hq i hi] at h; cases h
theorem agr_cl (C : CB z p d P S I σ) (hP : P.1 = true) (hr : ∀ r, r < 8 → hI σ (z + 180 + 1) r = rg r) : ∀ (q i fu : Nat), i + q = 8 → q < fu → allN (agB P.2.1 S.1 rg) i = true → f_X8_agrees_84 fu z (setN (goneE P.2.1 S.1 (nN S.1)) 8) (nI i) σ = some (b2i (allN (agB P.2.1 S.1 rg) 8), σ)
  | 0, i, fu, hi, hf, ha => by
    obtain ⟨f, rfl⟩ : ∃ f, fu = f + 1 := ⟨fu - 1, by omega⟩
    obtain rfl : i = 8 := by omega
    rw [e_X8_agrees_84, if_pos (by decide), ha]
    rfl
  | q + 1, i, fu, hi, hf, ha => by
    obtain ⟨f, rfl⟩ : ∃ f, fu = f + 1 := ⟨fu - 1, by omega⟩
    have D := C.mq hP
    have L := C.2.2.2.1.2.2.1
    have hgo : agB P.2.1 S.1 rg i = true → f_X8_agrees_84 f z (setN (goneE P.2.1 S.1 (nN S.1)) 8) (nI (i + 1)) σ = some (b2i (allN (agB P.2.1 S.1 rg) 8), σ) := fun hb => agr_cl C hP hr q (i + 1) f (by omega) (by omega) (by show (allN (agB P.2.1 S.1 rg) i && agB P.2.1 S.1 rg i) = true; rw [ha, hb]; rfl)
    rw [e_X8_agrees_84, if_neg (show ¬ (8 : Int32) ≤ nI i from nI_ge (a := i) (b := 8) (by omega) (by omega)), b_ask2 _ (by omega), gone_bt (show i < 8 by omega)]
    unfold f_X8_agrees_103 f_X8_agrees_130
    cases hg : goneE P.2.1 S.1 (nN S.1) i with
    | true =>
      rw [if_neg (by decide), if_pos rfl, nI_1]
      exact hgo (by unfold agB; rw [hg]; rfl)
    | false =>
      have hkv : f_X3_keptValue (z + 30) (nI i) σ = some (S.1 (9 + (S.1 i).toNatClampNeg), σ) := by
        rw [kv_c D (show i < 8 by omega)]
        unfold kvE
        rw [hg, if_neg (by decide)]
      rw [if_pos (by decide), if_neg (by decide), C.m, osb, hkv, osb]
      dsimp only
      rw [C.pl, osb, L.2.r L.1, osb, L.2.g (show i < 8 by omega) (by omega), osb, hr i (by omega)]
      by_cases h : S.1 (9 + (S.1 i).toNatClampNeg) = rg i
      · rw [if_pos h, nI_1]
        exact hgo (by unfold agB; rw [decide_eq_true h, Bool.or_true])
      · rw [if_neg h, allN_f (i := i) (by omega) (by unfold agB; rw [hg, decide_eq_false h]; rfl)]
        rfl
theorem agr_rl (R : RB M P S I σ) (D : Md σ M k P.2.1 S.1) (K : Rk P.2.1 P.2.2.1 S.1 P.2.2.2.2.2) (hr : ∀ r, r < 8 → hI σ (M + 2) r = rg r) : ∀ (q i fu : Nat), i + q = 8 → q < fu → allN (agB P.2.1 S.1 rg) i = true → f_X10_agrees_55 fu M (nI i) σ = some (b2i (allN (agB P.2.1 S.1 rg) 8), sI (sI σ M 1 0) M 2 (-1))
  | 0, i, fu, hi, hf, ha => by
    obtain ⟨f, rfl⟩ : ∃ f, fu = f + 1 := ⟨fu - 1, by omega⟩
    obtain rfl : i = 8 := by omega
    rw [e_X10_agrees_55, if_pos (by decide), good_k R.t, osb, ha]
    rfl
  | q + 1, i, fu, hi, hf, ha => by
    obtain ⟨f, rfl⟩ : ∃ f, fu = f + 1 := ⟨fu - 1, by omega⟩
    have h24 := K.1.2.1.2.2.1
    have L := R.1.2.2.2.1
    have hgo : agB P.2.1 S.1 rg i = true → f_X10_agrees_55 f M (nI (i + 1)) σ = some (b2i (allN (agB P.2.1 S.1 rg) 8), sI (sI σ M 1 0) M 2 (-1)) := fun hb => agr_rl R D K hr q (i + 1) f (by omega) (by omega) (by show (allN (agB P.2.1 S.1 rg) i && agB P.2.1 S.1 rg i) = true; rw [ha, hb]; rfl)
    obtain ⟨w, hw, ew⟩ := K.1.2.1.2.2.2.2.2.2.1 i (by omega)
    rw [e_X10_agrees_55, if_neg (show ¬ (8 : Int32) ≤ nI i from nI_ge (a := i) (b := 8) (by omega) (by omega)), isLetGo_k D K.1.xs K.1.2.1.2.2.2.1 (show i < 8 by omega), osb]
    unfold f_X10_agrees_98
    dsimp only
    cases hg : goneE P.2.1 S.1 (nN S.1) i with
    | true =>
      rw [if_neg (by decide), nI_1]
      exact hgo (by unfold agB; rw [hg]; rfl)
    | false =>
      rw [if_pos (by decide), xa_k D, osb, osb, row_k D (by omega), osb, ew, rowl D (9 + w) (v := 9 + nI w) (nI_p 9 w) (by omega), osb, L.r R.t, osb, L.g (show i < 8 by omega) (by omega), osb, hr i (by omega)]
      have hw' : (S.1 i).toNatClampNeg = w := by rw [ew, nI_clamp (by omega)]
      by_cases h : S.1 (9 + w) = rg i
      · rw [if_pos h, nI_1]
        exact hgo (by unfold agB; rw [hw', decide_eq_true h, Bool.or_true])
      · rw [if_neg h, good_k R.t, osb, allN_f (i := i) (by omega) (by unfold agB; rw [hg, hw', decide_eq_false h]; rfl)]
        rfl
def agE (P : PT) (x : Nat → Int32) (w : Nat) : Int32 := if x 38 = 1 then 0 else if w ≤ toP P then b2i (allN (agB P.2.1 x (plE P.2.1 P.2.2.2.1 0 w).1) 8) else 0
theorem agrees_c1 (A : AW P S I B) (hP : P.1 = true) (hB : B ≤ 100000) {w : Nat} (hw : w ≤ B) (ew : S.1 37 = nI w) : Qc z p d P S I (fun σ => f_X8_agrees z σ) (agE P S.1 w) 0 := by
  intro σ tr wh C
  have C1 := C.r 0 (by decide)
  have D := C1.1.mq hP
  have U := (A.2.1 hP).2.2.2.2.2.1.2
  have ht := (pl_le (P := P) (j := 0) (by omega)).2
  unfold agE
  rcases U.2.1 with h38 | h38
  · rw [if_neg (by rw [h38]; decide)]
    obtain ⟨τ, t1, t2, t3⟩ := tot_c C1 A hP
    by_cases hc : w ≤ toP P
    · rw [if_pos hc]
      obtain ⟨υ, u1, u2, u3, u4⟩ := t2.play A hP 0 (L := w) (by omega)
      have D2 := u2.1.mq hP
      have hl := agr_cl u2.1 hP u4.1.2.1 8 0 FU (by omega) (by unfold FU; omega) rfl
      rw [nI_0] at hl
      refine ⟨υ, ?_, u2, ((fg_c 0).trans t3).trans u3⟩
      simp only [f_X8_agrees, f_X8_agrees_0, f_X8_agrees_13, C.1.zt, C.1.told, hP, ref_0 C.1.zt, C1.1.m, D.f.2.2.2.2.2.2.1, h38, D.f.2.2.2.2.2.2.2, ew, t1, nI_le hc (show toP P < 2 ^ 31 by omega), t2.1.pl, t2.1.pg, t2.1.m, (t2.1.mq hP).f.2.2.2.2.2.2.2, u1, u2.1.m, D2.f.2.2.2.1, lgb_c D2 (Nat.le_refl _), hl, osb, b2i_t, b2i_f, i10, i00, if_true, if_false, Bool.not_true, Bool.not_false, Bool.true_and, Bool.false_and, Bool.and_true, Bool.and_false]
    · rw [if_neg hc]
      refine ⟨τ, ?_, t2, (fg_c 0).trans t3⟩
      have hn : ¬ nI w ≤ nI (toP P) := nI_ge (by omega) (by omega)
      simp only [f_X8_agrees, f_X8_agrees_0, f_X8_agrees_13, f_X8_agrees_46, C.1.zt, C.1.told, hP, ref_0 C.1.zt, C1.1.m, D.f.2.2.2.2.2.2.1, h38, D.f.2.2.2.2.2.2.2, ew, t1, hn, osb, b2i_t, b2i_f, i10, i00, if_true, if_false, Bool.not_true, Bool.not_false, Bool.true_and, Bool.false_and, Bool.and_true, Bool.and_false]
  · rw [if_pos h38]
    refine ⟨sI σ z 12 0, ?_, C1, fg_c 0⟩
    simp only [f_X8_agrees, f_X8_agrees_0, f_X8_agrees_13, f_X8_agrees_46, C.1.zt, C.1.told, hP, ref_0 C.1.zt, C1.1.m, D.f.2.2.2.2.2.2.1, h38, osb, b2i_t, b2i_f, i10, i00, if_true, if_false, Bool.not_true, Bool.not_false, Bool.true_and, Bool.false_and, Bool.and_true, Bool.and_false]
theorem pd_2 (R : RB M P S I σ) (A : AW P S I B) (hP : P.1 = true) {j : Nat} (hj : j ≤ 200) : ∃ τ, f_X10_plainlyDone M (nI j) σ = some (b2i (decide (j ≤ toP P)), τ) ∧ FrP M σ τ ∧ PEn τ M P.2.1 (plE P.2.1 P.2.2.2.1 0 j) := by
  obtain ⟨k, D, -⟩ := R.md hP
  obtain ⟨τ, t1, t2, t4⟩ := ply_k (o := 0) (L := j) D (A.2.1 hP).1 (A.2.1 hP).2.1 R.1.2.2.2.1 (by omega)
  have t3 := R.rs t2.rs
  refine ⟨τ, ?_, t2, t4⟩
  have h : ¬ (nI j < 0 ∨ 200 < nI j) := fun h => by
    rcases h with h | h
    · exact nI_pos (by omega) h
    · have := (nI_ltI (a := 200) (b := j) (by omega) (by omega)).mp h; omega
  obtain ⟨q1, q2⟩ := pl_le (P := P) hj
  simp only [f_X10_plainlyDone, f_X10_plainlyDone_0, f_X10_plainlyDone_32, R.t, in_k, decide_eq_false h, t1, gI_k t3.t, t4.1.2.2.2.1, q1, osb, b2i_t, b2i_f, i10, i00, if_true, if_false, Bool.not_true, Bool.not_false, Bool.true_and, Bool.false_and, Bool.and_true, Bool.and_false]
  by_cases hc : j ≤ toP P
  · rw [Nat.min_eq_left hc, if_pos rfl, decide_eq_true hc]; rfl
  · rw [if_neg (fun e => by have := (nI_eq (by omega) (by omega)).mp e; omega), decide_eq_false hc]; rfl
theorem agr_w (A : AW P S I B) (hP : P.1 = true) (R1 : RB M P S I σ) {w : Nat} (h2 : w ≤ 200) (hc : w ≤ toP P) {k : Nat} (Dk : Md σ M k P.2.1 S.1) (h4 : hI σ (M + 4) = S.1) : ∃ τ, f_X10_plainlyDone M (nI w) σ = some (1, τ) ∧ RS M σ τ ∧ RB M P S I τ ∧ f_X10_agrees_55 FU M 0 τ = some (b2i (allN (agB P.2.1 S.1 (plE P.2.1 P.2.2.2.1 0 w).1) 8), sI (sI τ M 1 0) M 2 (-1)) := by
  obtain ⟨τ, t1, t2, t4⟩ := pd_2 R1 A hP h2
  rw [decide_eq_true hc] at t1
  have t3 := R1.rs t2.rs
  have DD := Dk.frP t2
  have hl := agr_rl t3 DD (A.rk hP) t4.1.2.1 8 0 FU (by omega) (by unfold FU; omega) rfl
  rw [nI_0] at hl
  exact ⟨τ, t1, t2.rs, t3, hl⟩
theorem agr_in (R : RB M P S I σ) (A : AW P S I B) (hP : P.1 = true) {w : Nat} (ew : S.1 37 = nI w) : ∃ k ω, RB M P S I ω ∧ RS M σ ω ∧ Md ω M k P.2.1 S.1 ∧ hI ω (M + 4) = S.1 ∧ (S.1 38 = 1 → f_X10_agrees M σ = f_X10_agrees_47 M ω) ∧ (¬ S.1 38 = 1 → f_X10_agrees M σ = (f_X10_plainlyDone M (nI w) ω).bind fun q11 => if q11.1 = 0 then f_X10_agrees_47 M q11.2 else f_X10_agrees_55 FU M 0 q11.2) := by
  have R1 := R.s0
  obtain ⟨k', e⟩ := R1.gq.2 hP
  obtain ⟨k, ω, w1, w2, Dk, h26, w5, w6⟩ := R1.work A hP
  have g37 := r37_k Dk
  rw [ew] at g37
  refine ⟨k, ω, w5, (RS.s0 (by omega)).trans w6, Dk, by rw [w2, hI_sRe], fun h => ?_, fun h => ?_⟩
  · unfold f_X10_agrees f_X10_agrees_0
    rw [if_pos R.t, pI_k R.t, osb, e, osb, oco, w1, osb, xa_k Dk, osb, r38_k Dk, osb, if_pos h]
  · unfold f_X10_agrees f_X10_agrees_0
    rw [if_pos R.t, pI_k R.t, osb, e, osb, oco, w1, osb, xa_k Dk, osb, r38_k Dk, osb, if_neg h, osb, g37, osb]
theorem agr47 (R : RB M P S I σ) : f_X10_agrees_47 M σ = some (0, sI (sI σ M 1 0) M 2 (-1)) := by
  unfold f_X10_agrees_47
  rw [good_k R.t, osb]
theorem agrees_r1 (A : AW P S I B) (hP : P.1 = true) (hB : B ≤ 100000) {w : Nat} (hw : w ≤ B) (ew : S.1 37 = nI w) : Qr M P S I (fun σ => f_X10_agrees M σ) (agE P S.1 w) 0 := by
  intro σ tr wh R
  have ht := (pl_le (P := P) (j := 0) (by omega)).2
  obtain ⟨k, ω, w5, w6, Dk, h4, h1, h2⟩ := agr_in R.1 A hP ew
  show ∃ τ, f_X10_agrees M σ = some (agE P S.1 w, τ) ∧ _
  unfold agE
  by_cases h38 : S.1 38 = 1
  · rw [if_pos h38, h1 h38, agr47 w5]
    exact ⟨_, rfl, w5.end 0, RS.end w6 0⟩
  · rw [if_neg h38, h2 h38]
    by_cases hc : w ≤ toP P
    · rw [if_pos hc]
      obtain ⟨τ, t1, t2, t3, hl⟩ := agr_w A hP w5 (by omega) hc Dk h4
      refine ⟨sI (sI τ M 1 0) M 2 (-1), ?_, t3.end 0, RS.end (w6.trans t2) 0⟩
      rw [t1, osb, if_neg (show ¬ (1 : Int32) = 0 by decide), hl]
    · rw [if_neg hc]
      by_cases hw2 : w ≤ 200
      · obtain ⟨τ, t1, t2, t4⟩ := pd_2 w5 A hP hw2
        rw [decide_eq_false hc] at t1
        have t3 := w5.rs t2.rs
        refine ⟨sI (sI τ M 1 0) M 2 (-1), ?_, t3.end 0, RS.end (w6.trans t2.rs) 0⟩
        rw [t1, osb, if_pos (show b2i false = 0 from rfl), agr47 t3]
      · have hj : isJ (nI w) := Or.inr (nI_lt (a := 200) (by omega) (by omega))
        refine ⟨sI (sI ω M 1 0) M 2 (-1), ?_, w5.end 0, RS.end w6 0⟩
        rw [pd_0 w5 hj, osb, if_pos (show (0 : Int32) = 0 from rfl), agr47 w5]
theorem agrees_a (A : AW P S I B) (hB : B ≤ 100000) (C : CJ z p d P S I tr wh σ) (R : RJ (z + 195) P S I tr wh σ) (o1 : hT σ (z + 203) = 24) (o2 : hN σ (z + 203) = 1) : Alike z (fun σ => f_X8_agrees z σ) (fun σ => f_X10_agrees (z + 195) σ) B σ := by
  cases hP : P.1 with
  | false =>
    refine alk_of (v := (-1 : Int32)) (tr' := 1) (wh' := -1) (A.up (by omega)) R o1 o2 ⟨sI σ z 12 1, ?_, C.r 1 (by decide), fg_c 1⟩ (fun ρ Rρ => ⟨sI (sI (sI ρ (z + 195) 0 0) (z + 195) 1 1) (z + 195) 2 (-1), ?_, Rρ.1.s0.end 1, RS.end (RS.s0 (by omega)) 1⟩)
    · simp only [f_X8_agrees, f_X8_agrees_0, f_X8_agrees_13, C.1.zt, C.1.told, hP, ref_1 C.1.zt, osb, b2i_t, b2i_f, i10, i00, if_true, if_false, Bool.not_true, Bool.not_false, Bool.true_and, Bool.false_and, Bool.and_true, Bool.and_false]
    · simp only [f_X10_agrees, f_X10_agrees_0, Rρ.1.t, pI_k Rρ.1.t, Rρ.1.s0.gq.1 hP, ocn, refd_k Rρ.1.s0.t, osb, b2i_t, b2i_f, i10, i00, if_true, if_false, Bool.not_true, Bool.not_false, Bool.true_and, Bool.false_and, Bool.and_true, Bool.and_false]
  | true =>
    obtain ⟨w, hw, ew⟩ := (A.2.1 hP).2.2.2.2.2.1.2.2.2
    exact alk_q A C R o1 o2 (agrees_c1 A hP hB hw ew) (agrees_r1 A hP hB hw ew)
-- led
def ldE (P : PT) (S : SX) (i : Int32) : Option Nat := if P.1 = true then fxE (fun m => hasB S.1 m 1) i (nN S.1) else none
theorem nd_l (D : Mc σ k p c m x n nc) (i : Nat) (hi : i < 2 ^ 31) : ∀ (q j fu l : Nat), j + q = n → q < fu → cntN (fun m => hasB x m 1) j + l = i → (∀ t, t < j → (hasB x t 1 && decide (nI (cntN (fun m => hasB x m 1) t) = nI i)) = false) → f_X3_nthDone_4 fu k (nI l) (nI j) σ = some (o2i (fxE (fun m => hasB x m 1) (nI i) n), σ)
  | 0, j, fu, l, hj, hf, hc, ha => by
    obtain ⟨g, rfl⟩ : ∃ g, fu = g + 1 := ⟨fu - 1, by omega⟩
    have h12 := D.n12
    obtain rfl : j = n := by omega
    rw [e_X3_nthDone_4, D.f.2.2.2.1, osb, if_pos (nI_le (Nat.le_refl _) (by omega))]
    cases h : fxE (fun m => hasB x m 1) (nI i) j with
    | none => rfl
    | some t => obtain ⟨h1, h2, -⟩ := fstN_some h; rw [ha t (by omega)] at h2; cases h2
  | q + 1, j, fu, l, hj, hf, hc, ha => by
    obtain ⟨g, rfl⟩ : ∃ g, fu = g + 1 := ⟨fu - 1, by omega⟩
    have h12 := D.n12
    have hcl := cntN_le (p := fun m => hasB x m 1) j
    rw [e_X3_nthDone_4, D.f.2.2.2.1, osb, if_neg (nI_ge (by omega) (by omega)), done_c D (by omega), osb]
    unfold f_X3_nthDone_29
    dsimp only
    cases hfj : hasB x j 1 with
    | false =>
      rw [if_pos (by decide), nI_1]
      exact nd_l D i hi q (j + 1) g l (by omega) (by omega) (by simp only [cntN, hfj]; simpa using hc) (fun t ht => by
        by_cases e : t = j
        · subst e; rw [hfj]; rfl
        · exact ha t (by omega))
    | true =>
      rw [if_neg (by decide)]
      cases l with
      | zero =>
        unfold fxE
        rw [if_pos nI_0, fstN_of (j := j) (by omega) (by rw [hfj, decide_eq_true (by rw [← hc]; rfl)]; rfl) ha]
        rfl
      | succ l' =>
        rw [if_neg (nI_ne0 (by omega) (by omega)), nI_m1, nI_1]
        exact nd_l D i hi q (j + 1) g l' (by omega) (by omega) (by simp only [cntN, hfj, if_true]; omega) (fun t ht => by
          by_cases e : t = j
          · subst e
            rw [hfj, decide_eq_false (fun h => by have := (nI_eq (by omega) (by omega)).mp h; omega)]; rfl
          · exact ha t (by omega))
theorem nd_c (D : Mc σ k p c m x n nc) {i : Int32} (hi : ¬ i < 0) : f_X3_nthDone k i σ = some (o2i (fxE (fun m => hasB x m 1) i n), σ) := by
  obtain ⟨j, hj, e⟩ := nI_of hi
  subst e
  have h12 := D.n12
  have := nd_l D j hj n 0 FU j (by omega) (by unfold FU; omega) (by simp [cntN]) (fun _ h => absurd h (Nat.not_lt_zero _))
  unfold f_X3_nthDone f_X3_nthDone_0
  rw [if_pos D.t, ← nI_0]
  exact this
theorem ld_l (D : Md σ M k c x) (h34 : x 34 = nI n) (h12 : n ≤ 12) (hq : gQ 11 3 M σ = some (some k)) (i : Int32) : ∀ (q j fu : Nat), j + q = n → q < fu → (∀ t, t < j → (hasB x t 1 && decide (nI (cntN (fun m => hasB x m 1) t) = i)) = false) → f_X10_led_20 fu M i (nI (cntN (fun m => hasB x m 1) j)) (nI j) σ = (match fxE (fun m => hasB x m 1) i n with | some t => some (nI t, σ) | none => some (0, sI σ M 0 1))
  | 0, j, fu, hj, hf, ha => by
    obtain ⟨g, rfl⟩ : ∃ g, fu = g + 1 := ⟨fu - 1, by omega⟩
    obtain rfl : j = n := by omega
    rw [e_X10_led_20, hq, osb, oco, xa_k D, osb, r34_k D, osb, h34, if_pos (nI_le (Nat.le_refl _) (by omega))]
    unfold f_X10_led_66
    rw [pI_k D.1, osb]
    cases h : fxE (fun m => hasB x m 1) i j with
    | none => rfl
    | some t => obtain ⟨h1, h2, -⟩ := fstN_some h; rw [ha t (by omega)] at h2; cases h2
  | q + 1, j, fu, hj, hf, ha => by
    obtain ⟨g, rfl⟩ : ∃ g, fu = g + 1 := ⟨fu - 1, by omega⟩
    have ih := ld_l D h34 h12 hq i q (j + 1) g (by omega) (by omega)
    rw [e_X10_led_20, hq, osb, oco, xa_k D, osb, r34_k D, osb, h34, if_neg (nI_ge (by omega) (by omega)), has_k D (by omega), osb]
    unfold f_X10_led_60
    dsimp only
    cases hfj : hasB x j 1 with
    | false =>
      rw [if_pos (by decide), nI_1]
      have hc : cntN (fun m => hasB x m 1) (j + 1) = cntN (fun m => hasB x m 1) j := by simp only [cntN, hfj, Bool.false_eq_true, if_false, Nat.add_zero]
      rw [hc] at ih
      exact ih (fun t ht => by
        by_cases e : t = j
        · subst e; rw [hfj]; rfl
        · exact ha t (by omega))
    | true =>
      rw [if_neg (by decide)]
      by_cases hi : nI (cntN (fun m => hasB x m 1) j) = i
      · have hx : fxE (fun m => hasB x m 1) i n = some j := fstN_of (by omega) (by show (hasB x j 1 && decide (nI (cntN (fun m => hasB x m 1) j) = i)) = true; rw [hfj, decide_eq_true hi]; rfl) ha
        rw [if_pos hi, hx]
      · rw [if_neg hi, nI_1, nI_1]
        have hc : cntN (fun m => hasB x m 1) (j + 1) = cntN (fun m => hasB x m 1) j + 1 := by simp only [cntN, hfj, if_true]
        rw [hc] at ih
        exact ih (fun t ht => by
          by_cases e : t = j
          · subst e; rw [decide_eq_false hi, Bool.and_false]
          · exact ha t (by omega))
theorem led_r (A : AW P S I B) (R : RJ M P S I tr wh σ) (i : Int32) : ∃ υ, f_X10_led M i σ = some ((match ldE P S i with | some t => nI t | none => 0), υ) ∧ RJ M P S I tr wh υ ∧ Fg (inR M) σ υ ∧ hI υ M 0 = (match ldE P S i with | some _ => 0 | none => 1) := by
  have R1 := R.s0
  unfold ldE
  cases hP : P.1 with
  | false =>
    rw [if_neg (by decide)]
    have R2 : RJ M P S I tr wh (sI (sI σ M 0 0) M 0 1) := ⟨R1.1.rs (RS.s0 (by omega)), by rw [hI_sIn (Or.inr (by omega))]; exact R1.2.1, by rw [hI_sIn (Or.inr (by omega))]; exact R1.2.2⟩
    refine ⟨sI (sI σ M 0 0) M 0 1, ?_, R2, fg_r.trans fg_r, hI_sIe⟩
    unfold f_X10_led f_X10_led_0 f_X10_led_18
    rw [if_pos R.1.t, pI_k R.1.t, osb, R1.1.gq.1 hP, osb, ocn, show FU = 4999 + 1 from rfl, e_X10_led_20, R1.1.gq.1 hP, osb, ocn]
    unfold f_X10_led_66
    rw [pI_k R1.1.t, osb]
  | true =>
    rw [if_pos rfl]
    have K := A.rk hP
    have h12 := K.1.n12
    obtain ⟨k, ω, w1, w2, Dk, h26, w5, w6⟩ := R1.1.work A hP
    have wj : RJ M P S I tr wh ω := ⟨w5, by rw [w2, hI_sRn (by omega), hI_sIn (Or.inr (by omega))]; exact R1.2.1, by rw [w2, hI_sRn (by omega), hI_sIn (Or.inr (by omega))]; exact R1.2.2⟩
    obtain ⟨k0, e0⟩ := R1.1.gq.2 hP
    have eq : gQ 11 3 M ω = some (some k) := by rw [gQ_k w5.t, Dk.2.2.1]
    have hl := ld_l Dk K.1.2.1.2.2.2.1 h12 eq i (nN S.1) 0 FU (by omega) (by unfold FU; omega) (fun _ h => absurd h (Nat.not_lt_zero _))
    have hl' : f_X10_led_20 FU M i 0 0 ω = (match fxE (fun m => hasB S.1 m 1) i (nN S.1) with | some t => some (nI t, ω) | none => some (0, sI ω M 0 1)) := hl
    have hf : f_X10_led M i σ = (match fxE (fun m => hasB S.1 m 1) i (nN S.1) with | some t => some (nI t, ω) | none => some (0, sI ω M 0 1)) := by
      unfold f_X10_led f_X10_led_0 f_X10_led_18
      rw [if_pos R.1.t, pI_k R.1.t, osb, e0, osb, oco, w1, osb, hl']
    have h00 : hI ω M 0 = 0 := by rw [w2, hI_sRn (by omega), hI_sIn (Or.inr (by omega)), hI_sIe]
    cases hx : fxE (fun m => hasB S.1 m 1) i (nN S.1) with
    | some t =>
      rw [hx] at hf
      exact ⟨ω, hf, wj, fg_r.trans w6.g, h00⟩
    | none =>
      rw [hx] at hf
      exact ⟨sI ω M 0 1, hf, ⟨w5.rs (RS.s0 (by omega)), by rw [hI_sIn (Or.inr (by omega))]; exact wj.2.1, by rw [hI_sIn (Or.inr (by omega))]; exact wj.2.2⟩, (fg_r.trans w6.g).trans fg_r, hI_sIe⟩
end Agr
