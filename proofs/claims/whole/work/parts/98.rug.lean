/-! THE REFERENCE's lines: unsure and got -/
section Rug
variable {σ τ υ : St} {M L p k m nu ng kk : Nat} {b : Nat → Int32} {c : Cc} {v y a1 a2 a3 a4 a5 a6 : Int32}
theorem stp_q (C : RC σ M k c) (v : Int32) : f_X9_isStep k v σ = some (b2i (!decide (v < 0 ∨ c 0 5 ≤ v)), σ) := by
  unfold f_X9_isStep f_X9_isStep_0 f_X9_isStep_16 f_X9_isStep_17
  rw [if_pos C.2.1.1, gI_k C.2.1.1, osb, C.2.2.1.2.2.2.2.1]
  by_cases h : v < 0
  · simp [h, b2i]
  · by_cases h2 : c 0 5 ≤ v <;> simp [h, h2, b2i]
theorem uof_l (C : RC σ M k c) (hu : c 0 6 = nI nu) (h4 : nu ≤ 4) : ∀ (q i fu : Nat), i + q = nu → q < fu → allN (fun u => !decide (c 7 u = v)) i = true → ∃ x, f_X9_unsureOf_2 fu k v (nI i) σ = some (x, σ) ∧ (x = -1 ↔ allN (fun u => !decide (c 7 u = v)) nu = true)
  | 0, i, fu, hi, hf, ha => by
    obtain ⟨f, rfl⟩ : ∃ f, fu = f + 1 := ⟨fu - 1, by omega⟩
    obtain rfl : i = nu := by omega
    rw [e_X9_unsureOf_2, gI_k C.2.1.1, osb, C.2.2.1.2.2.2.2.2.1, hu, if_pos (nI_le (Nat.le_refl _) (by omega))]
    exact ⟨-1, rfl, fun _ => ha, fun _ => rfl⟩
  | q + 1, i, fu, hi, hf, ha => by
    obtain ⟨f, rfl⟩ : ∃ f, fu = f + 1 := ⟨fu - 1, by omega⟩
    have S7 := C.2.1.2.2.2.2.2.2.2.1
    rw [e_X9_unsureOf_2, gI_k C.2.1.1, osb, C.2.2.1.2.2.2.2.2.1, hu, if_neg (nI_ge (by omega) (by omega)), S7.r C.2.1.1, osb, S7.g (by omega) (by omega), osb, (C.2.2.1.2.2.2.2.2.2.2.2.2.1 i (by omega)).1]
    by_cases h : c 7 i = v
    · rw [if_pos h]
      refine ⟨nI i, rfl, fun e => absurd e (nI_nm1 (by omega)), fun e => ?_⟩
      have := allN_iff.mp e i (by omega)
      rw [decide_eq_true h] at this
      exact absurd this (by decide)
    · rw [if_neg h, nI_1]
      exact uof_l C hu h4 q (i + 1) f (by omega) (by omega) (by show (allN _ i && !decide _) = true; rw [ha, decide_eq_false h]; rfl)
theorem uof_q (C : RC σ M k c) (hu : c 0 6 = nI nu) (h4 : nu ≤ 4) : ∃ x, f_X9_unsureOf k v σ = some (x, σ) ∧ (x = -1 ↔ allN (fun u => !decide (c 7 u = v)) nu = true) := by
  unfold f_X9_unsureOf f_X9_unsureOf_0
  rw [if_pos C.2.1.1, ← nI_0]
  exact uof_l C hu h4 nu 0 FU (by omega) (by unfold FU; omega) rfl
theorem igo_l (C : RC σ M k c) (hu : c 0 7 = nI ng) (h6 : ng ≤ 6) : ∀ (q i fu : Nat), i + q = ng → q < fu → allN (fun u => !decide (c 9 u = v)) i = true → f_X9_isGot_2 fu k v (nI i) σ = some (b2i (!allN (fun u => !decide (c 9 u = v)) ng), σ)
  | 0, i, fu, hi, hf, ha => by
    obtain ⟨f, rfl⟩ : ∃ f, fu = f + 1 := ⟨fu - 1, by omega⟩
    obtain rfl : i = ng := by omega
    rw [e_X9_isGot_2, gI_k C.2.1.1, osb, C.2.2.1.2.2.2.2.2.2.1, hu, if_pos (nI_le (Nat.le_refl _) (by omega)), ha]
    rfl
  | q + 1, i, fu, hi, hf, ha => by
    obtain ⟨f, rfl⟩ : ∃ f, fu = f + 1 := ⟨fu - 1, by omega⟩
    have S9 := C.2.1.2.2.2.2.2.2.2.2.2.1
    rw [e_X9_isGot_2, gI_k C.2.1.1, osb, C.2.2.1.2.2.2.2.2.2.1, hu, if_neg (nI_ge (by omega) (by omega)), S9.r C.2.1.1, osb, S9.g (by omega) (by omega), osb, (C.2.2.1.2.2.2.2.2.2.2.2.2.2 i (by omega)).1]
    by_cases h : c 9 i = v
    · rw [if_pos h, allN_f (i := i) (by omega) (by rw [decide_eq_true h]; rfl)]
      rfl
    · rw [if_neg h, nI_1]
      exact igo_l C hu h6 q (i + 1) f (by omega) (by omega) (by show (allN _ i && !decide _) = true; rw [ha, decide_eq_false h]; rfl)
theorem igo_q (C : RC σ M k c) (hu : c 0 7 = nI ng) (h6 : ng ≤ 6) : f_X9_isGot k v σ = some (b2i (!allN (fun u => !decide (c 9 u = v)) ng), σ) := by
  unfold f_X9_isGot f_X9_isGot_0
  rw [if_pos C.2.1.1, ← nI_0]
  exact igo_l C hu h6 ng 0 FU (by omega) (by unfold FU; omega) rfl
def unS (σ : St) (k nu : Nat) (x v : Int32) : St := sI (sI (sI σ (k + 7) nu x) (k + 8) nu v) k 5 (nI (nu + 1))
def goS (σ : St) (k ng : Nat) (x v : Int32) : St := sI (sI (sI σ (k + 9) ng x) (k + 10) ng v) k 6 (nI (ng + 1))
theorem un_C (C : RC σ M k c) (hu : nu < 4) : RC (unS σ k nu a1 v) M k (unC c nu a1 v) := by
  obtain ⟨P, S, R, hk⟩ := C
  refine ⟨P, S, ?_, hk⟩
  obtain ⟨r0, r1, r2, r3, r4, r5, r6, r7, r8, r9, r10⟩ := R
  unfold unS
  refine ⟨?_, ?_, ?_, ?_, ?_, ?_, ?_, ?_, fun s hs => ?_, fun u hu => ?_, fun u hu => ?_⟩
  · simp [hI_if, unC, r0]
  · simp [hI_if, unC, r1]
  · simp [hI_if, unC, r2]
  · simp [hI_if, unC, r3]
  · simp [hI_if, unC, r4]
  · simp [hI_if, unC]
  · simp [hI_if, unC, r6]
  · simp [hI_if, unC, r7]
  · obtain ⟨s1, s2, s3, s4, s5, s6⟩ := r8 s hs
    simp [hI_if, unC, s1, s2, s3, s4, s5, s6]
  · by_cases e : u = nu
    · simp [hI_if, unC, e]
    · simp [hI_if, unC, e, r9 u hu]
  · simp [hI_if, unC, r10 u hu]
theorem go_C (C : RC σ M k c) (hu : ng < 6) : RC (goS σ k ng a1 v) M k (goC c ng a1 v) := by
  obtain ⟨P, S, R, hk⟩ := C
  refine ⟨P, S, ?_, hk⟩
  obtain ⟨r0, r1, r2, r3, r4, r5, r6, r7, r8, r9, r10⟩ := R
  unfold goS
  refine ⟨?_, ?_, ?_, ?_, ?_, ?_, ?_, ?_, fun s hs => ?_, fun u hu => ?_, fun u hu => ?_⟩
  · simp [hI_if, goC, r0]
  · simp [hI_if, goC, r1]
  · simp [hI_if, goC, r2]
  · simp [hI_if, goC, r3]
  · simp [hI_if, goC, r4]
  · simp [hI_if, goC, r5]
  · simp [hI_if, goC]
  · simp [hI_if, goC, r7]
  · obtain ⟨s1, s2, s3, s4, s5, s6⟩ := r8 s hs
    simp [hI_if, goC, s1, s2, s3, s4, s5, s6]
  · simp [hI_if, goC, r9 u hu]
  · by_cases e : u = ng
    · simp [hI_if, goC, e]
    · simp [hI_if, goC, e, r10 u hu]
theorem u85_o (h : Ovr σ M) : f_X10_readUnsure_85 M σ = some σ := by
  unfold f_X10_readUnsure_85
  rw [gI_k h.1, osb, go_o h, osb, rw_o h, osb]
  dsimp only
  rw [h.g, osb, if_pos rfl]
theorem u85_r (T : RG σ M L b p) (C : RC σ M k c) (h2 : tkS b L p = 2) (hu : c 0 6 = nI nu) (h4 : nu < 4) : ∃ τ, f_X10_readUnsure_85 M σ = some τ ∧ FrK M k σ τ ∧ OutQ τ M (andS (pWhole b L 0 9999 (adP b L p)) (fun q => (.inr (unC c nu (vaE b L p) q.1, q.2) : Flt ⊕ (Cc × Nat)))) (fun q => RLn τ M L b k q.1 q.2) := by
  have hk := C.2.2.2
  obtain ⟨τ, t1, t2, t3⟩ := gon_g T (by omega)
  obtain ⟨w, υ, u1, u2, u3⟩ := rw_r t3 0 9999
  unfold f_X10_readUnsure_85
  rw [gI_k T.1.t, osb, T.1.2.2.2.2.2.2 h2, t1, osb, u1, osb, adP_n (by omega)]
  dsimp only
  cases hp : pWhole b L 0 9999 (nxP b L p) with
  | inl e =>
    rw [hp] at u3
    have ov : Ovr υ M := ⟨u3.1, u3.2.1⟩
    rw [ov.g, osb, if_pos rfl]
    exact ⟨υ, rfl, (t2.trans u2).toK, u3⟩
  | inr q =>
    rw [hp] at u3
    obtain ⟨rfl, T3⟩ := u3
    have F := t2.trans u2
    have C' := C.fr F
    have h0 := T3.1.t
    obtain ⟨P, ⟨K, -, -, -, -, -, -, f7, f8, -⟩, R, -⟩ := C'
    have e5 : hI υ k 5 = nI nu := R.2.2.2.2.2.1.trans hu
    rw [T3.1.so, osb, if_neg rSo_5]
    refine ⟨unS υ k nu (vaE b L p) q.1, ?_, ?_, ?_, un_C (C.fr F) h4⟩
    · refine (ka_u h0 P K f7 e5 h4 (by omega)).trans ?_
      refine (ka_u (σ := sI υ (k + 7) nu (vaE b L p)) h0 P K f8 (show hI (sI υ (k + 7) nu (vaE b L p)) k 5 = nI nu by rw [hI_sIn (Or.inl (by omega))]; exact e5) h4 (by omega)).trans ?_
      refine (ka_i (σ := sI (sI υ (k + 7) nu (vaE b L p)) (k + 8) nu q.1) h0 P K).trans ?_
      rw [hI_sIn (Or.inl (by omega)), hI_sIn (Or.inl (by omega)), e5, nI_1]
      rfl
    · exact ((F.toK.w (by omega) (by omega) (by omega)).w (by omega) (by omega) (by omega)).w (by omega) (by omega) (by omega)
    · exact ((T3.w (by omega)).w (by omega)).w (by omega)
theorem uN_n {w : Nat} (h : w < 100000) : uN (nI w) = w := pk_tn (by omega)
theorem run_r (T : RG σ M L b p) (C : RC σ M k c) (h1 : tkS b L p = 1) (hm : m ≤ 24) (h5 : c 0 5 = nI m) (hu : c 0 6 = nI nu) (h4 : nu ≤ 4) : ∃ τ, f_X10_readUnsure M σ = some τ ∧ FrK M k σ τ ∧ OutQ τ M (if nu = 4 then (.inl (5, p) : Flt ⊕ (Cc × Nat)) else if c 0 0 = 0 then .inl (6, p) else pUn b L c nu (adP b L p)) (fun q => RLn τ M L b k q.1 q.2) := by
  have n4 : (nI nu = 4) ↔ nu = 4 := nI_eq (b := 4) (by omega) (by omega)
  obtain ⟨τ, t1, t2, t3⟩ := lb_r T C h1 (nI nu) 4
  have C' := C.fr t2
  unfold f_X10_readUnsure f_X10_readUnsure_0 f_X10_readUnsure_57
  rw [if_pos T.1.t, gR_k T.1.t C.1, osb, gI_k C.2.1.1, osb, C.2.2.1.2.2.2.2.2.1, hu, t1, osb]
  have hov : Ovr τ M → ((gI 11 9 M τ).bind fun x4 => if x4 = 3 then ((gR 11 4 M τ).bind fun x6 => (gI 11 11 M τ).bind fun x7 => (f_X9_isStep x6 x7 τ).bind fun q8 => if q8.1 = 0 then (f_X10_flaw M 2 q8.2).bind fun σ1 => f_X10_readUnsure_85 M σ1 else (gR 11 4 M q8.2).bind fun x10 => (gR 10 8 x10 q8.2).bind fun x11 => (gI 11 11 M q8.2).bind fun x12 => (aI 22 x11 x12 q8.2).bind fun x13 => if x13 = 0 then (gR 11 4 M q8.2).bind fun x15 => (gI 11 11 M q8.2).bind fun x16 => (f_X9_unsureOf x15 x16 q8.2).bind fun q17 => if q17.1 = (-1) then f_X10_readUnsure_85 M q17.2 else (f_X10_flaw M 3 q17.2).bind fun σ19 => f_X10_readUnsure_85 M σ19 else (f_X10_flaw M 2 q8.2).bind fun σ1 => f_X10_readUnsure_85 M σ1) else (f_X10_flaw M 1 τ).bind fun σ20 => f_X10_readUnsure_85 M σ20) = some τ := fun ov => by
    rw [ov.g, osb, if_neg (by decide), fl_o ov, osb, u85_o ov]
  by_cases e : nu = 4
  · rw [if_pos (n4.mpr e)] at t3
    rw [hov ⟨t3.1, t3.2.1⟩, if_pos e]
    exact ⟨τ, rfl, t2.toK, t3⟩
  · rw [if_neg (fun q => e (n4.mp q))] at t3
    rw [if_neg e]
    by_cases h0 : c 0 0 = 0
    · rw [if_pos h0] at t3
      rw [hov ⟨t3.1, t3.2.1⟩, if_pos h0]
      exact ⟨τ, rfl, t2.toK, t3⟩
    · rw [if_neg h0] at t3
      have T' : RG τ M L b (nxP b L p) := t3
      have hS := (rSo_is (tkS_4 (b := b) (L := L) (p := nxP b L p))).2.2.1
      rw [if_neg h0, adP_n (Or.inl h1), T'.1.so, osb]
      unfold pUn
      by_cases h2 : tkS b L (nxP b L p) = 2
      · have hv := T'.1.2.2.2.2.2.2 h2
        rw [if_pos (hS.mpr h2), if_pos h2, gR_k T'.1.t C'.1, osb, gI_k T'.1.t, osb, hv, stp_q C', osb]
        dsimp only
        unfold isSt
        by_cases hb : vaE b L (nxP b L p) < 0 ∨ c 0 5 ≤ vaE b L (nxP b L p)
        · obtain ⟨υ, u1, u2, u3, u4, u5⟩ := fl_r T'.1 2
          rw [decide_eq_true hb, if_pos (by decide), u1, osb, u85_o u3, if_neg (by simp)]
          exact ⟨υ, rfl, (t2.trans u2).toK, u3.1, u3.2, u4, u5⟩
        · obtain ⟨w, hw, ew⟩ := va_b h2
          have hwm : w < m := by
            by_cases g : m ≤ w
            · exact absurd (Or.inr (by rw [h5, ew]; exact nI_le g (by omega))) hb
            · omega
          have S1 := C'.2.1.2.1
          have R1 := (C'.2.2.1.2.2.2.2.2.2.2.2.1 w (by omega)).1
          rw [decide_eq_false hb, if_neg (by decide), gR_k T'.1.t C'.1, osb, S1.r C'.2.1.1, osb, gI_k T'.1.t, osb, hv, ew, S1.g (show w < 24 by omega) (by omega), osb, R1, uN_n (by omega)]
          by_cases hc : c 1 w = 0
          · obtain ⟨x, x1, x2⟩ := uof_q (v := nI w) C' hu h4
            rw [if_pos hc, osb, osb, x1, osb, decide_eq_true hc, if_pos (show (!false && true) = true by decide)]
            dsimp only
            by_cases ha : allN (fun u => !decide (c 7 u = nI w)) nu = true
            · obtain ⟨υ, u1, u2, u3⟩ := u85_r T' C' h2 hu (by omega)
              rw [if_pos (x2.mpr ha), u1, if_pos ha]
              rw [ew] at u3
              exact ⟨υ, rfl, t2.toK.trans u2, u3⟩
            · obtain ⟨υ, u1, u2, u3, u4, u5⟩ := fl_r T'.1 3
              rw [if_neg (fun q => ha (x2.mp q)), u1, osb, u85_o u3, if_neg ha]
              exact ⟨υ, rfl, (t2.trans u2).toK, u3.1, u3.2, u4, u5⟩
          · obtain ⟨υ, u1, u2, u3, u4, u5⟩ := fl_r T'.1 2
            rw [if_neg hc, u1, osb, u85_o u3, decide_eq_false hc, if_neg (by simp)]
            exact ⟨υ, rfl, (t2.trans u2).toK, u3.1, u3.2, u4, u5⟩
      · obtain ⟨υ, u1, u2, u3, u4, u5⟩ := fl_r T'.1 1
        rw [if_neg (fun q => h2 (hS.mp q)), u1, osb, u85_o u3, if_neg h2]
        exact ⟨υ, rfl, (t2.trans u2).toK, u3.1, u3.2, u4, u5⟩
end Rug
