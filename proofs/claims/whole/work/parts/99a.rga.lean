/-! THE REFERENCE's lines: got -/
section Rga
variable {σ τ υ : St} {M L p k m nu ng kk : Nat} {b : Nat → Int32} {c : Cc} {v y a1 a2 a3 a4 a5 a6 : Int32}
theorem g45_o (h : Ovr σ M) : f_X10_readGot_45 M v σ = some σ := by
  unfold f_X10_readGot_45
  rw [go_o h, osb, rw_o h, osb]
  dsimp only
  rw [h.g, osb, if_pos rfl]
theorem g45_r (T : RG σ M L b p) (C : RC σ M k c) (h2 : tkS b L p = 2) (hu : c 0 7 = nI ng) (h6 : ng < 6) : ∃ τ, f_X10_readGot_45 M v σ = some τ ∧ FrK M k σ τ ∧ OutQ τ M (andS (pWhole b L 0 9999 (nxP b L p)) (fun q => (.inr (goC c ng v q.1, q.2) : Flt ⊕ (Cc × Nat)))) (fun q => RLn τ M L b k q.1 q.2) := by
  have hk := C.2.2.2
  obtain ⟨τ, t1, t2, t3⟩ := gon_g T (by omega)
  obtain ⟨w, υ, u1, u2, u3⟩ := rw_r t3 0 9999
  unfold f_X10_readGot_45
  rw [t1, osb, u1, osb]
  dsimp only
  cases hp : pWhole b L 0 9999 (nxP b L p) with
  | inl e =>
    rw [hp] at u3
    have ov : Ovr υ M := ⟨u3.1, u3.2.1⟩
    rw [ov.g, osb, if_pos rfl]
    exact ⟨υ, rfl, (t2.trans u2).toK, u3⟩
  | inr q =>
    rw [hp] at u3
    obtain ⟨rfl, T3⟩ := u3
    have F := t2.trans u2
    have C' := C.fr F
    have h0 := T3.1.t
    obtain ⟨P, ⟨K, -, -, -, -, -, -, -, -, f9, f10⟩, R, -⟩ := C'
    have e6 : hI υ k 6 = nI ng := R.2.2.2.2.2.2.1.trans hu
    rw [T3.1.so, osb, if_neg rSo_5]
    refine ⟨goS υ k ng v q.1, ?_, ?_, ?_, go_C (C.fr F) h6⟩
    · refine (ka_u h0 P K f9 e6 h6 (by omega)).trans ?_
      refine (ka_u (σ := sI υ (k + 9) ng v) h0 P K f10 (show hI (sI υ (k + 9) ng v) k 6 = nI ng by rw [hI_sIn (Or.inl (by omega))]; exact e6) h6 (by omega)).trans ?_
      refine (ka_i (σ := sI (sI υ (k + 9) ng v) (k + 10) ng q.1) h0 P K).trans ?_
      rw [hI_sIn (Or.inl (by omega)), hI_sIn (Or.inl (by omega)), e6, nI_1]
      rfl
    · exact ((F.toK.w (by omega) (by omega) (by omega)).w (by omega) (by omega) (by omega)).w (by omega) (by omega) (by omega)
    · exact ((T3.w (by omega)).w (by omega)).w (by omega)
theorem rgo_r (T : RG σ M L b p) (C : RC σ M k c) (h1 : tkS b L p = 1) (hu : c 0 7 = nI ng) (h6 : ng ≤ 6) : ∃ τ, f_X10_readGot M σ = some τ ∧ FrK M k σ τ ∧ OutQ τ M (if ng = 6 then (.inl (5, p) : Flt ⊕ (Cc × Nat)) else if c 0 0 = 0 then .inl (6, p) else pGo b L c ng (adP b L p)) (fun q => RLn τ M L b k q.1 q.2) := by
  have n6 : (nI ng = 6) ↔ ng = 6 := nI_eq (b := 6) (by omega) (by omega)
  obtain ⟨τ, t1, t2, t3⟩ := lb_r T C h1 (nI ng) 6
  have C' := C.fr t2
  unfold f_X10_readGot f_X10_readGot_0
  rw [if_pos T.1.t, gR_k T.1.t C.1, osb, gI_k C.2.1.1, osb, C.2.2.1.2.2.2.2.2.2.1, hu, t1, osb]
  have hov : Ovr τ M → ((f_X10_wholeAt M 0 7 τ).bind fun q4 => (gI 11 9 M q4.2).bind fun x5 => if x5 = 5 then f_X10_readGot_45 M q4.1 q4.2 else (gR 11 4 M q4.2).bind fun x7 => (f_X9_isGot x7 q4.1 q4.2).bind fun q8 => if q8.1 = 0 then f_X10_readGot_45 M q4.1 q8.2 else (f_X10_flaw M 3 q8.2).bind fun σ10 => f_X10_readGot_45 M q4.1 σ10) = some τ := fun ov => by
    rw [wa_o ov, osb]
    dsimp only
    rw [ov.g, osb, if_pos rfl, g45_o ov]
  by_cases e : ng = 6
  · rw [if_pos (n6.mpr e)] at t3
    rw [hov ⟨t3.1, t3.2.1⟩, if_pos e]
    exact ⟨τ, rfl, t2.toK, t3⟩
  · rw [if_neg (fun q => e (n6.mp q))] at t3
    rw [if_neg e]
    by_cases h0 : c 0 0 = 0
    · rw [if_pos h0] at t3
      rw [hov ⟨t3.1, t3.2.1⟩, if_pos h0]
      exact ⟨τ, rfl, t2.toK, t3⟩
    · rw [if_neg h0] at t3
      have T' : RG τ M L b (nxP b L p) := t3
      rw [if_neg h0, adP_n (Or.inl h1)]
      obtain ⟨w, υ, u1, u2, u3⟩ := wa_r T' 0 7
      rw [u1, osb]
      dsimp only
      unfold pGo
      cases hp : pWhole b L 0 7 (nxP b L p) with
      | inl e =>
        rw [hp] at u3
        have ov : Ovr υ M := ⟨u3.1, u3.2.1⟩
        rw [ov.g, osb, if_pos rfl, g45_o ov]
        exact ⟨υ, rfl, (t2.trans u2).toK, u3⟩
      | inr q =>
        rw [hp] at u3
        obtain ⟨rfl, rfl, h2, hq⟩ := u3
        rw [T'.1.so, osb, if_neg rSo_5, gR_k T'.1.t C'.1, osb, igo_q C' hu h6, osb]
        dsimp only [andS]
        by_cases ha : allN (fun u => !decide (c 9 u = q.1)) ng = true
        · obtain ⟨ω, w1, w2, w3⟩ := g45_r (v := q.1) T' C' h2 hu (by omega)
          rw [ha, if_pos (by decide), w1, if_pos rfl, hq]
          exact ⟨ω, rfl, t2.toK.trans w2, w3⟩
        · obtain ⟨ω, w1, w2, w3, w4, w5⟩ := fl_r T'.1 3
          have ha' : allN (fun u => !decide (c 9 u = q.1)) ng = false := by
            cases hh : allN (fun u => !decide (c 9 u = q.1)) ng with
            | false => rfl
            | true => exact absurd hh ha
          rw [ha', if_neg (by decide), w1, osb, g45_o w3, if_neg (show ¬ (false = true) by decide)]
          exact ⟨ω, rfl, (t2.trans w2).toK, w3.1, w3.2, w4, w5⟩
/-- which line it is -/
theorem kah_r (T : RT σ M L b p) (h6 : isW b L p (sW 6) = false) : f_X10_kindAtHand M σ = some ((if lnK b L p ≤ 5 then nI (lnK b L p) else -1), σ) := by
  have e0 := isw_r T (i := 24) (by omega)
  have e1 := isw_r T (i := 25) (by omega)
  have e2 := isw_r T (i := 26) (by omega)
  have e3 := isw_r T (i := 27) (by omega)
  have e4 := isw_r T (i := 28) (by omega)
  have e5 := isw_r T (i := 29) (by omega)
  rw [show sW 24 = sW 0 from rfl] at e0
  rw [show sW 25 = sW 1 from rfl] at e1
  rw [show sW 26 = sW 2 from rfl] at e2
  rw [show sW 27 = sW 3 from rfl] at e3
  rw [show sW 28 = sW 4 from rfl] at e4
  rw [show sW 29 = sW 5 from rfl] at e5
  unfold f_X10_kindAtHand f_X10_kindAtHand_0 f_X10_kindAtHand_71 lnK
  rw [if_pos T.t, e0, osb]
  dsimp only
  cases w0 : isW b L p (sW 0) with
  | true => simp [b2i, nI_0]
  | false =>
    simp only [b2i, Bool.false_eq_true, if_false, if_true, e1, osb]
    cases w1 : isW b L p (sW 1) with
    | true => simp [b2i]; rfl
    | false =>
      simp only [b2i, Bool.false_eq_true, if_false, if_true, e2, osb]
      cases w2 : isW b L p (sW 2) with
      | true => simp [b2i]; rfl
      | false =>
        simp only [b2i, Bool.false_eq_true, if_false, if_true, e3, osb]
        cases w3 : isW b L p (sW 3) with
        | true => simp [b2i]; rfl
        | false =>
          simp only [b2i, Bool.false_eq_true, if_false, if_true, e4, osb]
          cases w4 : isW b L p (sW 4) with
          | true => simp [b2i]; rfl
          | false =>
            simp only [b2i, Bool.false_eq_true, if_false, if_true, e5, osb]
            cases w5 : isW b L p (sW 5) with
            | true => simp [b2i]; rfl
            | false =>
              simp only [b2i, Bool.false_eq_true, if_false, if_true, h6]
              (repeat' split) <;> first | rfl | omega
end Rga
