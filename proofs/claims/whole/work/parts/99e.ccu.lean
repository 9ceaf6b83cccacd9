/-! THE CLASS's lines: core, unsure, got -/
def COq (σ : St) (d : Nat) (v0 v1 v2 v3 v4 : Int32) : Prop := PSh σ d ∧ hI σ d 0 = v0 ∧ hI σ d 1 = v1 ∧ hI σ d 2 = v2 ∧ hI σ d 3 = v3 ∧ hI σ d 4 = v4 ∧ hI σ d 5 = 0 ∧ hI σ d 12 = 0 ∧ hI σ d 15 = 0
section Ccu
variable {σ τ υ : St} {Y T X d L n p m nu ng r j kk i f : Nat} {b : Nat → Int32} {c : Cc} {v v0 v1 v2 v3 v4 k a2 a3 a4 a5 y : Int32}
theorem COq.yf (O : COq σ d v0 v1 v2 v3 v4) (F : Fr (fun r => r = Y) σ τ) (h : d + 10 < Y) : COq τ d v0 v1 v2 v3 v4 := by
  have e : hI τ d = hI σ d := F.2.2.2.2.2 d (by omega)
  unfold COq
  rw [e]
  exact ⟨O.1.fr F, O.2⟩
theorem COq.s0 (O : COq σ d v0 v1 v2 v3 v4) : COq (sI σ d 0 v) d v v1 v2 v3 v4 := by
  obtain ⟨P, h0, h1, h2, h3, h4, h5, h6, h7⟩ := O
  refine ⟨P, ?_, ?_, ?_, ?_, ?_, ?_, ?_, ?_⟩ <;> simp [hI_if, h0, h1, h2, h3, h4, h5, h6, h7]
theorem COq.s1 (O : COq σ d v0 v1 v2 v3 v4) : COq (sI σ d 1 v) d v0 v v2 v3 v4 := by
  obtain ⟨P, h0, h1, h2, h3, h4, h5, h6, h7⟩ := O
  refine ⟨P, ?_, ?_, ?_, ?_, ?_, ?_, ?_, ?_⟩ <;> simp [hI_if, h0, h1, h2, h3, h4, h5, h6, h7]
theorem COq.s2 (O : COq σ d v0 v1 v2 v3 v4) : COq (sI σ d 2 v) d v0 v1 v v3 v4 := by
  obtain ⟨P, h0, h1, h2, h3, h4, h5, h6, h7⟩ := O
  refine ⟨P, ?_, ?_, ?_, ?_, ?_, ?_, ?_, ?_⟩ <;> simp [hI_if, h0, h1, h2, h3, h4, h5, h6, h7]
theorem COq.s3 (O : COq σ d v0 v1 v2 v3 v4) : COq (sI σ d 3 v) d v0 v1 v2 v v4 := by
  obtain ⟨P, h0, h1, h2, h3, h4, h5, h6, h7⟩ := O
  refine ⟨P, ?_, ?_, ?_, ?_, ?_, ?_, ?_, ?_⟩ <;> simp [hI_if, h0, h1, h2, h3, h4, h5, h6, h7]
theorem COq.s4 (O : COq σ d v0 v1 v2 v3 v4) : COq (sI σ d 4 v) d v0 v1 v2 v3 v := by
  obtain ⟨P, h0, h1, h2, h3, h4, h5, h6, h7⟩ := O
  refine ⟨P, ?_, ?_, ?_, ?_, ?_, ?_, ?_, ?_⟩ <;> simp [hI_if, h0, h1, h2, h3, h4, h5, h6, h7]
theorem COq.dc (O : COq σ d v0 v1 v2 v3 v4) : DC σ d (coC v0 v1 v2 v3 v4) 0 0 0 := by
  obtain ⟨P, h0, h1, h2, h3, h4, h5, h6, h7⟩ := O
  exact ⟨P, ⟨h0, h1, h2, h3, h4, h5, h6, h7⟩, fun s hs => absurd hs (Nat.not_lt_zero _), fun s hs => absurd hs (Nat.not_lt_zero _), fun s hs => absurd hs (Nat.not_lt_zero _)⟩
/-- a word and a whole, and where the whole goes -/
theorem pt_c (R : Rd σ Y T X d L b n p) (H : YY Y T X d) (B : Bs σ Y d) (hi : i < 34) (lo up : Int32) (f : Nat) : ∃ τ, Fr (fun r => r = Y) σ τ ∧ ((∃ e, pPart b L (sW i) lo up p = .inl e ∧ (hI τ Y 0 = e.1 ∧ hI τ Y 1 = nI e.2) ∧ ∀ g : St → Option (Int32 × St), ((f_X6_takesWord Y i σ).bind fun q2 => if q2.1 = 0 then some (0, q2.2) else (f_X6_takesWhole Y lo up q2.2).bind fun q4 => if q4.1 = 0 then some (0, q4.2) else (gR 7 7 Y q4.2).bind fun x6 => (gI 7 5 Y q4.2).bind fun x7 => (pI 6 f x6 x7 q4.2).bind g) = some (0, τ)) ∨ (∃ q, pPart b L (sW i) lo up p = .inr q ∧ Rd τ Y T X d L b n q.2 ∧ ∀ g : St → Option (Int32 × St), ((f_X6_takesWord Y i σ).bind fun q2 => if q2.1 = 0 then some (0, q2.2) else (f_X6_takesWhole Y lo up q2.2).bind fun q4 => if q4.1 = 0 then some (0, q4.2) else (gR 7 7 Y q4.2).bind fun x6 => (gI 7 5 Y q4.2).bind fun x7 => (pI 6 f x6 x7 q4.2).bind g) = g (sI τ d f q.1))) := by
  obtain ⟨τ, t1, t2, t3⟩ := tw_c R H hi
  rw [t1]
  unfold pPart
  cases hp : pWord b L (sW i) p with
  | inl e =>
    rw [hp] at t3
    refine ⟨τ, t2, Or.inl ⟨e, rfl, t3, fun g => ?_⟩⟩
    rw [osb, if_pos (by rfl)]
  | inr p1 =>
    rw [hp] at t3
    have R1 : Rd τ Y T X d L b n p1 := t3
    obtain ⟨υ, u1, u2, u3⟩ := tkw_d R1 H lo up
    dsimp only [andS]
    cases hq : pWhole b L lo up p1 with
    | inl e =>
      rw [hq] at u3
      refine ⟨υ, t2.trans u2, Or.inl ⟨e, rfl, u3, fun g => ?_⟩⟩
      rw [osb, if_neg (by show ¬ (1 : Int32) = 0; decide)]
      dsimp only
      rw [u1, osb, hq, if_pos (by rfl)]
    | inr q =>
      rw [hq] at u3
      obtain ⟨R2, w5, -⟩ := u3
      have B2 := B.fr (t2.trans u2)
      refine ⟨υ, t2.trans u2, Or.inr ⟨q, rfl, R2, fun g => ?_⟩⟩
      rw [osb, if_neg (by show ¬ (1 : Int32) = 0; decide)]
      dsimp only
      rw [u1, osb, hq, if_neg (by show ¬ (1 : Int32) = 0; decide)]
      dsimp only
      rw [B2.g, osb, gI_k B2.1, osb, w5, pI_k B2.2.2.1, osb]
theorem pCore_c : pCore b L p = andS (pPart b L (sW 9) 9 24 p) fun q0 => andS (pPart b L (sW 10) 2 12 q0.2) fun q1 => andS (pPart b L (sW 11) 0 4 q1.2) fun q2 => andS (pPart b L (sW 12) 1 4 q2.2) fun q3 => andS (pOr b L (sW 13) (sW 14) q3.2) fun q4 => .inr (coC q0.1 q1.1 q2.1 q3.1 q4.1, q4.2) := by
  unfold pCore pPart
  simp only [andS_a]
theorem sco_c (R : Rd σ Y T X d L b n p) (H : YY Y T X d) (O : COq σ d v0 v1 v2 v3 v4) : ∃ τ, f_X6_readCore Y σ = some (b2i (okS (pCore b L (adP b L p))), τ) ∧ Fr (iYD Y d) σ τ ∧ OutR τ Y (pCore b L (adP b L p)) (fun q => Rd τ Y T X d L b n q.2 ∧ DC τ d q.1 0 0 0) := by
  obtain ⟨y1, y2, y3, y4⟩ := id H
  have B := R.bs O.1
  have hd : iYD Y d d := Or.inr ⟨by omega, by omega⟩
  obtain ⟨σ1, s1, F1, R1, -⟩ := adv_c R H
  have O1 := O.yf F1 y3
  unfold f_X6_readCore f_X6_readCore_0 f_X6_readCore_24 f_X6_readCore_56 f_X6_readCore_87 f_X6_readCore_118 f_X6_readCore_169
  rw [if_pos R.t, s1, osb, pCore_c]
  obtain ⟨τ0, G0, h⟩ := pt_c R1 H (B.fr F1) (i := 9) (by omega) 9 24 0
  rcases h with ⟨e, h1, h2, h3⟩ | ⟨q0, h1, R2, h3⟩
  · rw [h3, h1]
    exact ⟨τ0, rfl, (F1.trans G0).yd, h2⟩
  rw [h3, h1]
  dsimp only [andS]
  have R3 := R2.w (j := 0) (v := q0.1) (r := d) H (by omega) (by omega)
  have O3 := (O1.yf G0 y3).s0 (v := q0.1)
  have F3 : Fr (iYD Y d) σ (sI τ0 d 0 q0.1) := Fr.st (F1.trans G0).yd hd
  generalize sI τ0 d 0 q0.1 = σ3 at R3 O3 F3 ⊢
  obtain ⟨τ1, G1, h⟩ := pt_c R3 H (B.fr F3) (i := 10) (by omega) 2 12 1
  rcases h with ⟨e, h1, h2, h3⟩ | ⟨q1, h1, R2, h3⟩
  · rw [h3, h1]
    exact ⟨τ1, rfl, F3.trans G1.yd, h2⟩
  rw [h3, h1]
  dsimp only
  have R4 := R2.w (j := 1) (v := q1.1) (r := d) H (by omega) (by omega)
  have O4 := (O3.yf G1 y3).s1 (v := q1.1)
  have F4 : Fr (iYD Y d) σ (sI τ1 d 1 q1.1) := Fr.st (F3.trans G1.yd) hd
  generalize sI τ1 d 1 q1.1 = σ4 at R4 O4 F4 ⊢
  obtain ⟨τ2, G2, h⟩ := pt_c R4 H (B.fr F4) (i := 11) (by omega) 0 4 2
  rcases h with ⟨e, h1, h2, h3⟩ | ⟨q2, h1, R2, h3⟩
  · rw [h3, h1]
    exact ⟨τ2, rfl, F4.trans G2.yd, h2⟩
  rw [h3, h1]
  dsimp only
  have R5 := R2.w (j := 2) (v := q2.1) (r := d) H (by omega) (by omega)
  have O5 := (O4.yf G2 y3).s2 (v := q2.1)
  have F5 : Fr (iYD Y d) σ (sI τ2 d 2 q2.1) := Fr.st (F4.trans G2.yd) hd
  generalize sI τ2 d 2 q2.1 = σ5 at R5 O5 F5 ⊢
  obtain ⟨τ3, G3, h⟩ := pt_c R5 H (B.fr F5) (i := 12) (by omega) 1 4 3
  rcases h with ⟨e, h1, h2, h3⟩ | ⟨q3, h1, R2, h3⟩
  · rw [h3, h1]
    exact ⟨τ3, rfl, F5.trans G3.yd, h2⟩
  rw [h3, h1]
  dsimp only
  have R6 := R2.w (j := 3) (v := q3.1) (r := d) H (by omega) (by omega)
  have O6 := (O5.yf G3 y3).s3 (v := q3.1)
  have F6 : Fr (iYD Y d) σ (sI τ3 d 3 q3.1) := Fr.st (F5.trans G3.yd) hd
  generalize sI τ3 d 3 q3.1 = σ6 at R6 O6 F6 ⊢
  have B6 := B.fr F6
  rw [B6.g, osb, isw_c R6 (i := 13) (by omega), osb]
  dsimp only
  rw [pZ_k B6.2.2.1 (by cases isW b L q3.2 (sW 13) <;> decide), osb]
  have R7 := R6.w (j := 4) (v := b2i (isW b L q3.2 (sW 13))) (r := d) H (by omega) (by omega)
  have O7 := O6.s4 (v := b2i (isW b L q3.2 (sW 13)))
  have F7 : Fr (iYD Y d) σ (sI σ6 d 4 (b2i (isW b L q3.2 (sW 13)))) := Fr.st F6 hd
  generalize sI σ6 d 4 (b2i (isW b L q3.2 (sW 13))) = σ7 at R7 O7 F7 ⊢
  have B7 := B.fr F7
  rw [B7.g, osb, gI_k B7.2.2.1, osb, O7.2.2.2.2.2.1]
  unfold pOr
  cases hw : isW b L q3.2 (sW 13) with
  | true =>
    rw [hw] at O7
    obtain ⟨σ8, u1, F8, u3⟩ := tw_c R7 H (i := 13) (by omega)
    unfold pWord at u1 u3
    rw [hw, if_pos rfl] at u1 u3
    rw [if_neg (by decide), u1, osb, if_pos rfl]
    dsimp only
    rw [if_pos (by show (1 : Int32) = 0 ∨ (1 : Int32) = 1; decide)]
    exact ⟨σ8, rfl, F7.trans F8.yd, u3, (O7.yf F8 y3).dc⟩
  | false =>
    rw [hw] at O7
    obtain ⟨σ8, u1, F8, u3⟩ := tw_c R7 H (i := 14) (by omega)
    unfold pWord at u1 u3
    rw [if_pos (by decide), u1, osb, if_neg (show ¬ (false = true) by decide)]
    dsimp only
    cases hw2 : isW b L q3.2 (sW 14) with
    | true =>
      rw [hw2, if_pos rfl] at u3
      rw [if_pos rfl, if_pos (by show (1 : Int32) = 0 ∨ (1 : Int32) = 1; decide)]
      exact ⟨σ8, rfl, F7.trans F8.yd, u3, (O7.yf F8 y3).dc⟩
    | false =>
      rw [hw2, if_neg (show ¬ (false = true) by decide)] at u3
      rw [if_neg (show ¬ (false = true) by decide), if_pos (by show (0 : Int32) = 0 ∨ (0 : Int32) = 1; decide)]
      exact ⟨σ8, rfl, F7.trans F8.yd, u3⟩
end Ccu
