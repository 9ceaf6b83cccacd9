/-! THE CLASS's lines: steps -/
section Cst
variable {σ τ υ : St} {Y T X d L n p m nu ng r j kk : Nat} {b : Nat → Int32} {c : Cc} {v k a2 a3 a4 a5 y : Int32}
theorem st_D (D : DC σ d c m nu ng) (W : RW σ d m k a2 a3 a4 a5 y) : DC (sI σ d 5 (nI (m + 1))) d (stC c m k a2 a3 a4 a5 y) (m + 1) nu ng := by
  obtain ⟨P, ⟨q0, q1, q2, q3, q4, q5, q6, q7⟩, r2, r3, r4⟩ := D
  obtain ⟨w1, w2, w3, w4, w5, w6⟩ := W
  have e : ∀ a q, d + 1 ≤ a → hI (sI σ d 5 (nI (m + 1))) a q = hI σ a q := fun a q ha => hI_sIn (Or.inl (by omega))
  have e0 : ∀ q, q ≠ 5 → hI (sI σ d 5 (nI (m + 1))) d q = hI σ d q := fun q hq => hI_sIn (Or.inr hq)
  obtain ⟨t1, t2, t3, t4, t5, t6⟩ := stC_m (c := c) (m := m) (kk := k) (d := a2) (a := a3) (e := a4) (v := a5) (y := y)
  refine ⟨P, ⟨?_, ?_, ?_, ?_, ?_, ?_, ?_, ?_⟩, fun i hi => ?_, fun u hu => ?_, fun g hg => ?_⟩
  · rw [e0 _ (by omega), stC_0 (by omega)]; exact q0
  · rw [e0 _ (by omega), stC_0 (by omega)]; exact q1
  · rw [e0 _ (by omega), stC_0 (by omega)]; exact q2
  · rw [e0 _ (by omega), stC_0 (by omega)]; exact q3
  · rw [e0 _ (by omega), stC_0 (by omega)]; exact q4
  · rw [hI_sIe]; rfl
  · rw [e0 _ (by omega), stC_0 (by omega)]; exact q6
  · rw [e0 _ (by omega), stC_0 (by omega)]; exact q7
  · rw [e _ _ (by omega), e _ _ (by omega), e _ _ (by omega), e _ _ (by omega), e _ _ (by omega), e _ _ (by omega)]
    by_cases hs : i = m
    · subst hs
      rw [t1, t2, t3, t4, t5, t6]
      exact ⟨w1, w2, w3, w4, w5, w6⟩
    · rw [stC_o (by omega) hs, stC_o (by omega) hs, stC_o (by omega) hs, stC_o (by omega) hs, stC_o (by omega) hs, stC_o (by omega) hs]
      exact r2 i (by omega)
  · rw [e _ _ (by omega), e _ _ (by omega), stC_h (by omega), stC_h (by omega)]
    exact r3 u hu
  · rw [e _ _ (by omega), e _ _ (by omega), stC_h (by omega), stC_h (by omega)]
    exact r4 g hg
/-- a step stands in the draft, but is not counted yet -/
def DS (σ : St) (d : Nat) (c' : Cc) (m nu ng : Nat) : Prop := DC (sI σ d 5 (nI (m + 1))) d c' (m + 1) nu ng ∧ hI σ d 5 = nI m
theorem DS.of (D : DC σ d c m nu ng) (h5 : c 0 5 = nI m) (W : RW σ d m k a2 a3 a4 a5 y) : DS σ d (stC c m k a2 a3 a4 a5 y) m nu ng := ⟨st_D D W, D.2.1.2.2.2.2.2.1.trans h5⟩
theorem ps_0 : pStep b L c m 0 p = andS (pWhole b L 0 7 p) fun q => andS (pWhole b L 0 9999 q.2) fun w => .inr (stC c m (nI 0) q.1 (-1) (-1) w.1 0, w.2) := rfl
theorem ps_4 : pStep b L c m 4 p = andS (pWhole b L 0 7 p) fun q => andS (pWhole b L 0 7 q.2) fun w => .inr (stC c m (nI 4) q.1 w.1 (-1) 0 0, w.2) := rfl
theorem ps_a (h : kk = 1 ∨ kk = 2 ∨ kk = 3) : pStep b L c m kk p = andS (pWhole b L 0 7 p) fun q => andS (pPair b L q.2) fun w => .inr (stC c m (nI kk) q.1 w.1.1 w.1.2 0 0, w.2) := by
  unfold pStep pD pA pE pV pY pPair
  rw [if_neg (by omega)]
  cases pWhole b L 0 7 p with
  | inl e => rfl
  | inr q =>
    dsimp only [andS]
    rw [if_neg (by omega)]
    cases pWhole b L 0 7 q.2 with
    | inl e => rfl
    | inr w =>
      dsimp only
      rw [if_neg (by omega)]
      cases pWhole b L 0 7 w.2 with
      | inl e => rfl
      | inr x =>
        dsimp only
        rw [if_neg (by omega), if_neg (by omega)]
        dsimp only
        rw [if_neg (by omega)]
theorem ps_5 : pStep b L c m 5 p = andS (pPair b L p) fun q => andS (pWhole b L 0 24 q.2) fun w => andS (pOr b L (sW 15) (sW 16) w.2) fun x => .inr (stC c m (nI 5) (-1) q.1.1 q.1.2 w.1 x.1, x.2) := by
  unfold pPair
  simp only [andS_a]
  rfl
theorem sch_c (R : Rd σ Y T X d L b n p) (H : YY Y T X d) (D : DC σ d c m nu ng) (hm : m < 24) (h5 : c 0 5 = nI m) (hk : kk ≤ 4) : ∃ τ, f_X6_readChange Y (nI kk) σ = some (b2i (okS (pStep b L c m kk (adP b L p))), τ) ∧ Fr (iYD Y d) σ τ ∧ OutR τ Y (pStep b L c m kk (adP b L p)) (fun q => Rd τ Y T X d L b n q.2 ∧ DS τ d q.1 m nu ng) := by
  obtain ⟨y1, y2, y3, y4⟩ := id H
  have k4 : (nI kk = 4) ↔ kk = 4 := nIk (a := 4) (by omega) (by omega)
  have k0 : (nI kk = 0) ↔ kk = 0 := nIk (a := 0) (by omega) (by omega)
  have B := R.bs D.1
  obtain ⟨σ1, s1, F1, R1, -⟩ := adv_c R H
  have D1 := D.yf F1 y3
  have R2 := es_R (m := m) (k := nI kk) R1 H
  obtain ⟨D2, W2⟩ := es_D (k := nI kk) D1
  have F2 : Fr (iYD Y d) σ (esS σ1 d m (nI kk)) := es_F F1.yd
  unfold f_X6_readChange f_X6_readChange_0
  rw [if_pos R.t, s1, osb, (B.fr F1).g, osb, es_c D1 hm h5, osb]
  dsimp only
  generalize esS σ1 d m (nI kk) = σ2 at R2 D2 W2 F2 ⊢
  obtain ⟨σ3, t1, F3, t3⟩ := tkw_d R2 H 0 7
  rw [t1, osb]
  dsimp only
  have fail : ∀ e, pWhole b L 0 7 (adP b L p) = .inl e → pStep b L c m kk (adP b L p) = .inl e := fun e he => by
    have h : kk = 0 ∨ kk = 4 ∨ (kk = 1 ∨ kk = 2 ∨ kk = 3) := by omega
    rcases h with rfl | rfl | h
    · rw [ps_0, he]; rfl
    · rw [ps_4, he]; rfl
    · rw [ps_a h, he]; rfl
  cases hp : pWhole b L 0 7 (adP b L p) with
  | inl e =>
    rw [hp] at t3
    rw [fail e hp, if_pos (by rfl)]
    exact ⟨σ3, rfl, F2.trans F3.yd, t3⟩
  | inr q =>
    rw [hp] at t3
    obtain ⟨R3, v5, -⟩ := t3
    have B3 := (B.fr F2).fr F3
    have f7 := B3.2.2.2.2.1
    rw [if_neg (by show ¬ (1 : Int32) = 0; decide), B3.g, osb, f7.r B3.2.2.1, osb, gI_k B3.1, osb, v5, xI_k f7.2.1 f7.2.2 hm (by omega), osb]
    have R4 := R3.w (j := m) (v := q.1) (r := d + 2) H (by omega) (by omega)
    have D4 : DC (sI σ3 (d + 2) m q.1) d c m nu ng := (D2.yf F3 y3).w (by omega) (by omega)
    have W4 : RW (sI σ3 (d + 2) m q.1) d m (nI kk) q.1 (-1) (-1) 0 0 := (W2.yf F3 y3).s2
    have F4 : Fr (iYD Y d) σ (sI σ3 (d + 2) m q.1) := Fr.st (F2.trans F3.yd) (Or.inr ⟨by omega, by omega⟩)
    generalize sI σ3 (d + 2) m q.1 = σ4 at R4 D4 W4 F4 ⊢
    have h : kk = 0 ∨ kk = 4 ∨ (kk = 1 ∨ kk = 2 ∨ kk = 3) := by omega
    rcases h with e | e | h
    · subst e
      obtain ⟨σ5, s1, F5, s3⟩ := tkw_d R4 H 0 9999
      have B5 := (B.fr F4).fr F5
      have f10 := B5.2.2.2.2.2.2.2.1
      rw [if_pos (show nI 0 = 0 from rfl), s1, osb, ps_0, hp]
      dsimp only [andS]
      rw [B5.g, osb, f10.r B5.2.2.1, osb, gI_k B5.1, osb, xI_k f10.2.1 f10.2.2 hm (by omega), osb]
      cases hq : pWhole b L 0 9999 q.2 with
      | inl e =>
        rw [hq] at s3
        rw [if_pos (by show (0 : Int32) = 0 ∨ (0 : Int32) = 1; decide)]
        exact ⟨_, rfl, Fr.st (F4.trans F5.yd) (Or.inr ⟨by omega, by omega⟩), out_w s3 (by omega)⟩
      | inr w =>
        rw [hq] at s3
        obtain ⟨R5, w5, -⟩ := s3
        rw [if_pos (by show (1 : Int32) = 0 ∨ (1 : Int32) = 1; decide), w5]
        exact ⟨_, rfl, Fr.st (F4.trans F5.yd) (Or.inr ⟨by omega, by omega⟩), R5.w H (by omega) (by omega), DS.of ((D4.yf F5 y3).w (by omega) (by omega)) h5 (W4.yf F5 y3).s5⟩
    · subst e
      obtain ⟨σ5, s1, F5, s3⟩ := tkw_d R4 H 0 7
      have B5 := (B.fr F4).fr F5
      have f8 := B5.2.2.2.2.2.1
      rw [if_neg (show ¬ nI 4 = 0 by decide), if_pos (show nI 4 = 4 from rfl), s1, osb, ps_4, hp]
      dsimp only [andS]
      rw [B5.g, osb, f8.r B5.2.2.1, osb, gI_k B5.1, osb, xI_k f8.2.1 f8.2.2 hm (by omega), osb]
      cases hq : pWhole b L 0 7 q.2 with
      | inl e =>
        rw [hq] at s3
        rw [if_pos (by show (0 : Int32) = 0 ∨ (0 : Int32) = 1; decide)]
        exact ⟨_, rfl, Fr.st (F4.trans F5.yd) (Or.inr ⟨by omega, by omega⟩), out_w s3 (by omega)⟩
      | inr w =>
        rw [hq] at s3
        obtain ⟨R5, w5, -⟩ := s3
        rw [if_pos (by show (1 : Int32) = 0 ∨ (1 : Int32) = 1; decide), w5]
        exact ⟨_, rfl, Fr.st (F4.trans F5.yd) (Or.inr ⟨by omega, by omega⟩), R5.w H (by omega) (by omega), DS.of ((D4.yf F5 y3).w (by omega) (by omega)) h5 (W4.yf F5 y3).s3⟩
    · obtain ⟨σ5, s1, F5, s3⟩ := tp_c R4 H D4 W4 hm
      rw [if_neg (fun g => by have := k0.mp g; omega), if_neg (fun g => by have := k4.mp g; omega), s1, osb, ps_a h, hp]
      dsimp only [andS]
      cases hq : pPair b L q.2 with
      | inl e =>
        rw [hq] at s3
        rw [if_pos (by show (0 : Int32) = 0 ∨ (0 : Int32) = 1; decide)]
        exact ⟨_, rfl, F4.trans F5, s3⟩
      | inr w =>
        rw [hq] at s3
        obtain ⟨R5, D5, W5⟩ := s3
        rw [if_pos (by show (1 : Int32) = 0 ∨ (1 : Int32) = 1; decide)]
        exact ⟨_, rfl, F4.trans F5, R5, DS.of D5 h5 W5⟩
theorem ssk_c (R : Rd σ Y T X d L b n p) (H : YY Y T X d) (D : DC σ d c m nu ng) (hm : m < 24) (h5 : c 0 5 = nI m) : ∃ τ, f_X6_readSkip Y σ = some (b2i (okS (pStep b L c m 5 (adP b L p))), τ) ∧ Fr (iYD Y d) σ τ ∧ OutR τ Y (pStep b L c m 5 (adP b L p)) (fun q => Rd τ Y T X d L b n q.2 ∧ DS τ d q.1 m nu ng) := by
  obtain ⟨y1, y2, y3, y4⟩ := id H
  have B := R.bs D.1
  obtain ⟨σ1, s1, F1, R1, -⟩ := adv_c R H
  have D1 := D.yf F1 y3
  have R2 := es_R (m := m) (k := 5) R1 H
  obtain ⟨D2, W2⟩ := es_D (k := 5) D1
  have F2 : Fr (iYD Y d) σ (esS σ1 d m 5) := es_F F1.yd
  unfold f_X6_readSkip f_X6_readSkip_0 f_X6_readSkip_31 f_X6_readSkip_88
  rw [if_pos R.t, s1, osb, (B.fr F1).g, osb, es_c D1 hm h5, osb, ps_5]
  dsimp only
  generalize esS σ1 d m 5 = σ2 at R2 D2 W2 F2 ⊢
  obtain ⟨σ3, t1, F3, t3⟩ := tp_c R2 H D2 W2 hm
  rw [t1, osb]
  dsimp only
  cases hp : pPair b L (adP b L p) with
  | inl e =>
    rw [hp] at t3
    rw [if_pos (by rfl)]
    exact ⟨σ3, rfl, F2.trans F3, t3⟩
  | inr q =>
    rw [hp] at t3
    obtain ⟨R3, D3, W3⟩ := t3
    obtain ⟨σ4, s1, F4, s3⟩ := tkw_d R3 H 0 24
    rw [if_neg (by show ¬ (1 : Int32) = 0; decide), s1, osb]
    dsimp only [andS]
    cases hq : pWhole b L 0 24 q.2 with
    | inl e =>
      rw [hq] at s3
      rw [if_pos (by rfl)]
      exact ⟨σ4, rfl, (F2.trans F3).trans F4.yd, s3⟩
    | inr w =>
      rw [hq] at s3
      obtain ⟨R4, w5, -⟩ := s3
      have B4 := ((B.fr F2).fr F3).fr F4
      have f10 := B4.2.2.2.2.2.2.2.1
      rw [if_neg (by show ¬ (1 : Int32) = 0; decide), B4.g, osb, f10.r B4.2.2.1, osb, gI_k B4.1, osb, w5, xI_k f10.2.1 f10.2.2 hm (by omega), osb]
      have R5 := R4.w (j := m) (v := w.1) (r := d + 5) H (by omega) (by omega)
      have D5 : DC (sI σ4 (d + 5) m w.1) d c m nu ng := (D3.yf F4 y3).w (by omega) (by omega)
      have W5 : RW (sI σ4 (d + 5) m w.1) d m 5 (-1) q.1.1 q.1.2 w.1 0 := (W3.yf F4 y3).s5
      have F5 : Fr (iYD Y d) σ (sI σ4 (d + 5) m w.1) := Fr.st ((F2.trans F3).trans F4.yd) (Or.inr ⟨by omega, by omega⟩)
      generalize sI σ4 (d + 5) m w.1 = σ5 at R5 D5 W5 F5 ⊢
      have B5 := B.fr F5
      have f11 := B5.2.2.2.2.2.2.2.2.1
      rw [B5.g, osb, f11.r B5.2.2.1, osb, isw_c R5 (i := 15) (by omega), osb]
      dsimp only
      rw [xZ_k f11.2.1 f11.2.2 hm (by omega), osb, jz_y (by cases isW b L w.2 (sW 15) <;> decide)]
      have R6 := R5.w (j := m) (v := b2i (isW b L w.2 (sW 15))) (r := d + 6) H (by omega) (by omega)
      have D6 : DC (sI σ5 (d + 6) m (b2i (isW b L w.2 (sW 15)))) d c m nu ng := D5.w (by omega) (by omega)
      have W6 : RW (sI σ5 (d + 6) m (b2i (isW b L w.2 (sW 15)))) d m 5 (-1) q.1.1 q.1.2 w.1 (b2i (isW b L w.2 (sW 15))) := W5.s6
      have F6 : Fr (iYD Y d) σ (sI σ5 (d + 6) m (b2i (isW b L w.2 (sW 15)))) := Fr.st F5 (Or.inr ⟨by omega, by omega⟩)
      generalize sI σ5 (d + 6) m (b2i (isW b L w.2 (sW 15))) = σ6 at R6 D6 W6 F6 ⊢
      have B6 := B.fr F6
      have f12 := B6.2.2.2.2.2.2.2.2.1
      rw [B6.g, osb, f12.r B6.2.2.1, osb, f12.g hm (by omega), osb, W6.2.2.2.2.2]
      unfold pOr
      cases hw : isW b L w.2 (sW 15) with
      | true =>
        rw [hw] at W6
        obtain ⟨σ7, u1, F7, u3⟩ := tw_c R6 H (i := 15) (by omega)
        unfold pWord at u1 u3
        rw [hw, if_pos rfl] at u1 u3
        rw [if_neg (by decide), u1, osb, if_pos rfl]
        dsimp only
        rw [if_pos (by show (1 : Int32) = 0 ∨ (1 : Int32) = 1; decide)]
        exact ⟨σ7, rfl, F6.trans F7.yd, u3, DS.of (D6.yf F7 y3) h5 (W6.yf F7 y3)⟩
      | false =>
        rw [hw] at W6
        obtain ⟨σ7, u1, F7, u3⟩ := tw_c R6 H (i := 16) (by omega)
        unfold pWord at u1 u3
        rw [if_pos (by decide), u1, osb, if_neg (show ¬ (false = true) by decide)]
        dsimp only
        cases hw2 : isW b L w.2 (sW 16) with
        | true =>
          rw [hw2, if_pos rfl] at u3
          rw [if_pos rfl, if_pos (by show (1 : Int32) = 0 ∨ (1 : Int32) = 1; decide)]
          exact ⟨σ7, rfl, F6.trans F7.yd, u3, DS.of (D6.yf F7 y3) h5 (W6.yf F7 y3)⟩
        | false =>
          rw [hw2, if_neg (show ¬ (false = true) by decide)] at u3
          rw [if_neg (show ¬ (false = true) by decide), if_pos (by show (0 : Int32) = 0 ∨ (0 : Int32) = 1; decide)]
          exact ⟨σ7, rfl, F6.trans F7.yd, u3⟩
end Cst
