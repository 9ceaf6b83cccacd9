/-! THE CLASS's lines: unsure, got -/
section Cug
variable {σ τ υ : St} {Y T X d L n p m nu ng r j kk i f : Nat} {b : Nat → Int32} {c : Cc} {v v0 v1 v2 v3 v4 k a2 a3 a4 a5 y : Int32}
theorem has_q (D : DC σ d c m nu ng) (v : Int32) : f_X5_has d v σ = some (b2i (!decide (v < 0 ∨ c 0 5 ≤ v)), σ) := by
  unfold f_X5_has f_X5_has_0 f_X5_has_16 f_X5_has_17
  rw [if_pos D.1.1, gI_k D.1.1, osb, D.2.1.2.2.2.2.2.1]
  by_cases h : v < 0
  · simp [h, b2i]
  · by_cases h2 : c 0 5 ≤ v <;> simp [h, h2, b2i]
theorem iun_l (D : DC σ d c m nu ng) (hu : c 0 6 = nI nu) (h4 : nu ≤ 4) : ∀ (q i fu : Nat), i + q = nu → q < fu → allN (fun u => !decide (c 7 u = v)) i = true → f_X5_isUnsure_2 fu d v (nI i) σ = some (b2i (!allN (fun u => !decide (c 7 u = v)) nu), σ)
  | 0, i, fu, hi, hf, ha => by
    obtain ⟨f, rfl⟩ : ∃ f, fu = f + 1 := ⟨fu - 1, by omega⟩
    obtain rfl : i = nu := by omega
    rw [e_X5_isUnsure_2, gI_k D.1.1, osb, D.2.1.2.2.2.2.2.2.1, hu, if_pos (nI_le (Nat.le_refl _) (by omega)), ha]
    rfl
  | q + 1, i, fu, hi, hf, ha => by
    obtain ⟨f, rfl⟩ : ∃ f, fu = f + 1 := ⟨fu - 1, by omega⟩
    have S7 := D.1.2.2.2.2.2.2.2.1
    rw [e_X5_isUnsure_2, gI_k D.1.1, osb, D.2.1.2.2.2.2.2.2.1, hu, if_neg (nI_ge (by omega) (by omega)), S7.r D.1.1, osb, S7.g (by omega) (by omega), osb, (D.2.2.2.1 i (by omega)).1]
    by_cases h : c 7 i = v
    · rw [if_pos h, allN_f (i := i) (by omega) (by rw [decide_eq_true h]; rfl)]
      rfl
    · rw [if_neg h, nI_1]
      exact iun_l D hu h4 q (i + 1) f (by omega) (by omega) (by show (allN _ i && !decide _) = true; rw [ha, decide_eq_false h]; rfl)
theorem iun_q (D : DC σ d c m nu ng) (hu : c 0 6 = nI nu) (h4 : nu ≤ 4) : f_X5_isUnsure d v σ = some (b2i (!allN (fun u => !decide (c 7 u = v)) nu), σ) := by
  unfold f_X5_isUnsure f_X5_isUnsure_0
  rw [if_pos D.1.1, ← nI_0]
  exact iun_l D hu h4 nu 0 FU (by omega) (by unfold FU; omega) rfl
theorem ig_l (D : DC σ d c m nu ng) (hu : c 0 7 = nI ng) (h6 : ng ≤ 6) : ∀ (q i fu : Nat), i + q = ng → q < fu → allN (fun u => !decide (c 9 u = v)) i = true → f_X5_isGot_2 fu d v (nI i) σ = some (b2i (!allN (fun u => !decide (c 9 u = v)) ng), σ)
  | 0, i, fu, hi, hf, ha => by
    obtain ⟨f, rfl⟩ : ∃ f, fu = f + 1 := ⟨fu - 1, by omega⟩
    obtain rfl : i = ng := by omega
    rw [e_X5_isGot_2, gI_k D.1.1, osb, D.2.1.2.2.2.2.2.2.2, hu, if_pos (nI_le (Nat.le_refl _) (by omega)), ha]
    rfl
  | q + 1, i, fu, hi, hf, ha => by
    obtain ⟨f, rfl⟩ : ∃ f, fu = f + 1 := ⟨fu - 1, by omega⟩
    have S9 := D.1.2.2.2.2.2.2.2.2.2.1
    rw [e_X5_isGot_2, gI_k D.1.1, osb, D.2.1.2.2.2.2.2.2.2, hu, if_neg (nI_ge (by omega) (by omega)), S9.r D.1.1, osb, S9.g (by omega) (by omega), osb, (D.2.2.2.2 i (by omega)).1]
    by_cases h : c 9 i = v
    · rw [if_pos h, allN_f (i := i) (by omega) (by rw [decide_eq_true h]; rfl)]
      rfl
    · rw [if_neg h, nI_1]
      exact ig_l D hu h6 q (i + 1) f (by omega) (by omega) (by show (allN _ i && !decide _) = true; rw [ha, decide_eq_false h]; rfl)
theorem ig_q (D : DC σ d c m nu ng) (hu : c 0 7 = nI ng) (h6 : ng ≤ 6) : f_X5_isGot d v σ = some (b2i (!allN (fun u => !decide (c 9 u = v)) ng), σ) := by
  unfold f_X5_isGot f_X5_isGot_0
  rw [if_pos D.1.1, ← nI_0]
  exact ig_l D hu h6 ng 0 FU (by omega) (by unfold FU; omega) rfl
def unD (σ : St) (d nu : Nat) (x v : Int32) : St := sI (sI (sI σ (d + 7) nu x) (d + 8) nu v) d 12 (nI (nu + 1))
def goD (σ : St) (d ng : Nat) (x v : Int32) : St := sI (sI (sI σ (d + 9) ng x) (d + 10) ng v) d 15 (nI (ng + 1))
theorem un_D (D : DC σ d c m nu ng) : DC (unD σ d nu a2 v) d (unC c nu a2 v) m (nu + 1) ng := by
  obtain ⟨P, ⟨q0, q1, q2, q3, q4, q5, q6, q7⟩, r2, r3, r4⟩ := D
  refine ⟨P, ⟨?_, ?_, ?_, ?_, ?_, ?_, ?_, ?_⟩, fun s hs => ?_, fun u hu => ?_, fun g hg => ?_⟩
  · simp [unD, hI_if, unC, q0]
  · simp [unD, hI_if, unC, q1]
  · simp [unD, hI_if, unC, q2]
  · simp [unD, hI_if, unC, q3]
  · simp [unD, hI_if, unC, q4]
  · simp [unD, hI_if, unC, q5]
  · simp [unD, hI_if, unC]
  · simp [unD, hI_if, unC, q7]
  · obtain ⟨s1, s2, s3, s4, s5, s6⟩ := r2 s hs
    simp [unD, hI_if, unC, s1, s2, s3, s4, s5, s6]
  · by_cases e : u = nu
    · simp [unD, hI_if, unC, e]
    · have := r3 u (by omega)
      simp [unD, hI_if, unC, e, this]
  · have := r4 g hg
    simp [unD, hI_if, unC, this]
theorem go_D (D : DC σ d c m nu ng) : DC (goD σ d ng a2 v) d (goC c ng a2 v) m nu (ng + 1) := by
  obtain ⟨P, ⟨q0, q1, q2, q3, q4, q5, q6, q7⟩, r2, r3, r4⟩ := D
  refine ⟨P, ⟨?_, ?_, ?_, ?_, ?_, ?_, ?_, ?_⟩, fun s hs => ?_, fun u hu => ?_, fun g hg => ?_⟩
  · simp [goD, hI_if, goC, q0]
  · simp [goD, hI_if, goC, q1]
  · simp [goD, hI_if, goC, q2]
  · simp [goD, hI_if, goC, q3]
  · simp [goD, hI_if, goC, q4]
  · simp [goD, hI_if, goC, q5]
  · simp [goD, hI_if, goC, q6]
  · simp [goD, hI_if, goC]
  · obtain ⟨s1, s2, s3, s4, s5, s6⟩ := r2 s hs
    simp [goD, hI_if, goC, s1, s2, s3, s4, s5, s6]
  · have := r3 u hu
    simp [goD, hI_if, goC, this]
  · by_cases e : g = ng
    · simp [goD, hI_if, goC, e]
    · have := r4 g (by omega)
      simp [goD, hI_if, goC, e, this]
theorem fat_c (B : Bs σ Y d) (w x : Int32) : f_X6_failsAt Y w x σ = some (0, sI (sI σ Y 0 w) Y 1 x) := by
  unfold f_X6_failsAt f_X6_failsAt_0
  rw [if_pos B.1, pI_k B.1, osb, pI_k (σ := sI σ Y 0 w) B.1, osb]
theorem sun_c (R : Rd σ Y T X d L b n p) (H : YY Y T X d) (D : DC σ d c m nu ng) (hm : m ≤ 24) (h5 : c 0 5 = nI m) (hu : c 0 6 = nI nu) (h4 : nu < 4) : ∃ τ, f_X6_readUnsure Y σ = some (b2i (okS (pUn b L c nu (adP b L p))), τ) ∧ Fr (iYD Y d) σ τ ∧ OutR τ Y (pUn b L c nu (adP b L p)) (fun q => Rd τ Y T X d L b n q.2 ∧ DC τ d q.1 m (nu + 1) ng) := by
  obtain ⟨y1, y2, y3, y4⟩ := id H
  have B := R.bs D.1
  obtain ⟨σ1, s1, F1, R1, -⟩ := adv_c R H
  have D1 := D.yf F1 y3
  obtain ⟨σ2, t1, F2, t3⟩ := tkw_d R1 H 0 9999
  unfold f_X6_readUnsure f_X6_readUnsure_0 f_X6_readUnsure_45 pUn
  rw [if_pos R.t, s1, osb, t1, osb]
  dsimp only
  by_cases h2 : tkS b L (adP b L p) = 2
  · obtain ⟨w, hw, ew⟩ := va_b h2
    have hp : pWhole b L 0 9999 (adP b L p) = .inr (nI w, adP b L (adP b L p)) := by
      unfold pWhole
      rw [if_pos h2, ew, if_neg]
      rintro (g | g)
      · exact absurd g (nI_pos (by omega))
      · exact absurd g (nI_nlt (a := 9999) (by omega) (by omega))
    rw [hp] at t3 ⊢
    obtain ⟨R2, w5, w6⟩ := t3
    have D2 := D1.yf F2 y3
    have F02 := F1.trans F2
    have B2 := B.fr F02
    rw [if_neg (by show ¬ (1 : Int32) = 0; decide), gI_k B2.1, osb, w5, B2.g, osb, has_q D2, osb, if_pos h2, ew]
    dsimp only
    unfold isSt
    by_cases hb : nI w < 0 ∨ c 0 5 ≤ nI w
    · rw [decide_eq_true hb, if_pos (by decide), gI_k B2.1, osb, w6, fat_c B2, osb, if_pos (Or.inl rfl), if_neg (by simp)]
      exact ⟨_, rfl, (F02.trans fail_fr).yd, fail_out⟩
    · have hwm : w < m := by
        by_cases g : m ≤ w
        · exact absurd (Or.inr (by rw [h5]; exact nI_le g (by omega))) hb
        · omega
      have f6 := B2.2.2.2.1
      rw [decide_eq_false hb, if_neg (by decide), B2.g, osb, f6.r B2.2.2.1, osb, f6.g (show w < 24 by omega) (by omega), osb, (D2.2.2.1 w hwm).1, uN_n (by omega)]
      by_cases hc : c 1 w = 0
      · rw [if_pos hc, osb, iun_q D2 hu (by omega), osb, decide_eq_true hc, if_pos (show (!false && true) = true by decide)]
        dsimp only
        by_cases ha : allN (fun u => !decide (c 7 u = nI w)) nu = true
        · rw [ha, if_pos (show b2i (!true) = 0 by decide), if_pos rfl]
          obtain ⟨σ3, u1, F3, u3⟩ := tkw_d R2 H 0 9999
          rw [u1, osb]
          dsimp only at u3 ⊢
          cases hq : pWhole b L 0 9999 (adP b L (adP b L p)) with
          | inl e =>
            rw [hq] at u3
            rw [if_pos (by rfl)]
            exact ⟨σ3, rfl, (F02.trans F3).yd, u3⟩
          | inr q =>
            rw [hq] at u3
            obtain ⟨R3, x5, -⟩ := u3
            have D3 := D2.yf F3 y3
            have B3 := B2.fr F3
            have f13 := B3.2.2.2.2.2.2.2.2.2.1
            have f14 := B3.2.2.2.2.2.2.2.2.2.2.1
            have e12 : hI σ3 d 12 = nI nu := D3.2.1.2.2.2.2.2.2.1.trans hu
            rw [if_neg (by show ¬ (1 : Int32) = 0; decide), B3.g, osb, f13.r B3.2.2.1, osb, osb, gI_k B3.2.2.1, osb, e12, xI_k f13.2.1 f13.2.2 h4 (by omega), osb]
            have g1 : hI (sI σ3 (d + 7) nu (nI w)) d 12 = nI nu := by rw [hI_sIn (Or.inl (by omega))]; exact e12
            have g2 : hI (sI σ3 (d + 7) nu (nI w)) Y 5 = q.1 := by rw [hI_sIn (Or.inl (by omega))]; exact x5
            rw [Bs.g (σ := sI σ3 (d + 7) nu (nI w)) B3, osb, gR_k (σ := sI σ3 (d + 7) nu (nI w)) B3.2.2.1 f14.1, osb, osb, gI_k (σ := sI σ3 (d + 7) nu (nI w)) B3.2.2.1, osb, g1, gI_k (σ := sI σ3 (d + 7) nu (nI w)) B3.1, osb, g2, xI_k (σ := sI σ3 (d + 7) nu (nI w)) f14.2.1 f14.2.2 h4 (by omega), osb]
            have g3 : hI (sI (sI σ3 (d + 7) nu (nI w)) (d + 8) nu q.1) d 12 = nI nu := by rw [hI_sIn (Or.inl (by omega))]; exact g1
            rw [Bs.g (σ := sI (sI σ3 (d + 7) nu (nI w)) (d + 8) nu q.1) B3, osb, gI_k (σ := sI (sI σ3 (d + 7) nu (nI w)) (d + 8) nu q.1) B3.2.2.1, osb, g3, nI_1, pI_k (σ := sI (sI σ3 (d + 7) nu (nI w)) (d + 8) nu q.1) B3.2.2.1, osb]
            have hd : ∀ r, d ≤ r → r ≤ d + 10 → iYD Y d r := fun r h1 h2 => Or.inr ⟨h1, h2⟩
            refine ⟨_, rfl, Fr.st (Fr.st (Fr.st (F02.trans F3).yd (hd _ (by omega) (by omega))) (hd _ (by omega) (by omega))) (hd _ (by omega) (by omega)), ?_, un_D D3⟩
            exact ((R3.w H (by omega) (by omega)).w H (by omega) (by omega)).w H (by omega) (by omega)
        · have ha' : allN (fun u => !decide (c 7 u = nI w)) nu = false := by
            cases hh : allN (fun u => !decide (c 7 u = nI w)) nu with
            | false => rfl
            | true => exact absurd hh ha
          rw [ha', if_neg (show ¬ b2i (!false) = 0 by decide), gI_k B2.1, osb, w6, fat_c B2, osb, if_pos (Or.inl rfl), if_neg (show ¬ (false = true) by decide)]
          exact ⟨_, rfl, (F02.trans fail_fr).yd, fail_out⟩
      · rw [if_neg hc, gI_k B2.1, osb, w6, fat_c B2, osb, if_pos (Or.inl rfl), decide_eq_false hc, if_neg (by simp)]
        exact ⟨_, rfl, (F02.trans fail_fr).yd, fail_out⟩
  · have hp : pWhole b L 0 9999 (adP b L p) = .inl (1, adP b L p) := by
      unfold pWhole
      rw [if_neg h2]
    rw [hp] at t3 ⊢
    rw [if_pos (by rfl), if_neg h2]
    exact ⟨σ2, rfl, (F1.trans F2).yd, t3⟩
theorem sgo_c (R : Rd σ Y T X d L b n p) (H : YY Y T X d) (D : DC σ d c m nu ng) (hu : c 0 7 = nI ng) (h6 : ng < 6) : ∃ τ, f_X6_readGot Y σ = some (b2i (okS (pGo b L c ng (adP b L p))), τ) ∧ Fr (iYD Y d) σ τ ∧ OutR τ Y (pGo b L c ng (adP b L p)) (fun q => Rd τ Y T X d L b n q.2 ∧ DC τ d q.1 m nu (ng + 1)) := by
  obtain ⟨y1, y2, y3, y4⟩ := id H
  have B := R.bs D.1
  obtain ⟨σ1, s1, F1, R1, -⟩ := adv_c R H
  have D1 := D.yf F1 y3
  obtain ⟨σ2, t1, F2, t3⟩ := tkw_d R1 H 0 7
  unfold f_X6_readGot f_X6_readGot_0 pGo
  rw [if_pos R.t, s1, osb, t1, osb]
  dsimp only
  cases hp : pWhole b L 0 7 (adP b L p) with
  | inl e =>
    rw [hp] at t3
    rw [if_pos (by rfl)]
    exact ⟨σ2, rfl, (F1.trans F2).yd, t3⟩
  | inr w =>
    rw [hp] at t3
    obtain ⟨R2, w5, w6⟩ := t3
    have D2 := D1.yf F2 y3
    have F02 := F1.trans F2
    have B2 := B.fr F02
    rw [if_neg (by show ¬ (1 : Int32) = 0; decide), gI_k B2.1, osb, w5, B2.g, osb, ig_q D2 hu (by omega), osb]
    dsimp only [andS]
    by_cases ha : allN (fun u => !decide (c 9 u = w.1)) ng = true
    · rw [ha, if_pos (show b2i (!true) = 0 by decide), if_pos rfl]
      obtain ⟨σ3, u1, F3, u3⟩ := tkw_d R2 H 0 9999
      rw [u1, osb]
      dsimp only
      cases hq : pWhole b L 0 9999 w.2 with
      | inl e =>
        rw [hq] at u3
        rw [if_pos (by rfl)]
        exact ⟨σ3, rfl, (F02.trans F3).yd, u3⟩
      | inr q =>
        rw [hq] at u3
        obtain ⟨R3, x5, -⟩ := u3
        have D3 := D2.yf F3 y3
        have B3 := B2.fr F3
        have f16 := B3.2.2.2.2.2.2.2.2.2.2.2.1
        have f17 := B3.2.2.2.2.2.2.2.2.2.2.2.2
        have e15 : hI σ3 d 15 = nI ng := D3.2.1.2.2.2.2.2.2.2.trans hu
        rw [if_neg (by show ¬ (1 : Int32) = 0; decide), B3.g, osb, f16.r B3.2.2.1, osb, osb, gI_k B3.2.2.1, osb, e15, xI_k f16.2.1 f16.2.2 h6 (by omega), osb]
        have g1 : hI (sI σ3 (d + 9) ng w.1) d 15 = nI ng := by rw [hI_sIn (Or.inl (by omega))]; exact e15
        have g2 : hI (sI σ3 (d + 9) ng w.1) Y 5 = q.1 := by rw [hI_sIn (Or.inl (by omega))]; exact x5
        rw [Bs.g (σ := sI σ3 (d + 9) ng w.1) B3, osb, gR_k (σ := sI σ3 (d + 9) ng w.1) B3.2.2.1 f17.1, osb, osb, gI_k (σ := sI σ3 (d + 9) ng w.1) B3.2.2.1, osb, g1, gI_k (σ := sI σ3 (d + 9) ng w.1) B3.1, osb, g2, xI_k (σ := sI σ3 (d + 9) ng w.1) f17.2.1 f17.2.2 h6 (by omega), osb]
        have g3 : hI (sI (sI σ3 (d + 9) ng w.1) (d + 10) ng q.1) d 15 = nI ng := by rw [hI_sIn (Or.inl (by omega))]; exact g1
        rw [Bs.g (σ := sI (sI σ3 (d + 9) ng w.1) (d + 10) ng q.1) B3, osb, gI_k (σ := sI (sI σ3 (d + 9) ng w.1) (d + 10) ng q.1) B3.2.2.1, osb, g3, nI_1, pI_k (σ := sI (sI σ3 (d + 9) ng w.1) (d + 10) ng q.1) B3.2.2.1, osb]
        have hd : ∀ r, d ≤ r → r ≤ d + 10 → iYD Y d r := fun r h1 h2 => Or.inr ⟨h1, h2⟩
        refine ⟨_, rfl, Fr.st (Fr.st (Fr.st (F02.trans F3).yd (hd _ (by omega) (by omega))) (hd _ (by omega) (by omega))) (hd _ (by omega) (by omega)), ?_, go_D D3⟩
        exact ((R3.w H (by omega) (by omega)).w H (by omega) (by omega)).w H (by omega) (by omega)
    · have ha' : allN (fun u => !decide (c 9 u = w.1)) ng = false := by
        cases hh : allN (fun u => !decide (c 9 u = w.1)) ng with
        | false => rfl
        | true => exact absurd hh ha
      rw [ha', if_neg (show ¬ b2i (!false) = 0 by decide), gI_k B2.1, osb, w6, fat_c B2, osb, if_pos (Or.inl rfl), if_neg (show ¬ (false = true) by decide)]
      exact ⟨_, rfl, (F02.trans fail_fr).yd, fail_out⟩
end Cug
