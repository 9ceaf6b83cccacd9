/-! THE CLASS's lines: a line, all of them -/
def CLn (σ : St) (d : Nat) (told : Bool) (s : PS) : Prop := (told = true → DC σ d s.1 s.2.1 s.2.2.1 s.2.2.2) ∧ (told = false → PSh σ d ∧ hI σ d 5 = 0 ∧ hI σ d 12 = 0 ∧ hI σ d 15 = 0)
section Cal
variable {σ τ υ : St} {Y T X d L n p m nu ng r j kk i f line : Nat} {b : Nat → Int32} {c : Cc} {v : Int32} {told : Bool} {s : PS}
theorem CLn.sh (C : CLn σ d told s) : PSh σ d := by
  cases told with
  | true => exact (C.1 rfl).1
  | false => exact (C.2 rfl).1
theorem sol_c (R : Rd σ Y T X d L b n p) : f_X6_sortOfLine Y σ = some ((if lnK b L p = 9 then -1 else nI (lnK b L p)), σ) := by
  have e0 := isw_c R (i := 0) (by omega)
  have e1 := isw_c R (i := 1) (by omega)
  have e2 := isw_c R (i := 2) (by omega)
  have e3 := isw_c R (i := 3) (by omega)
  have e4 := isw_c R (i := 4) (by omega)
  have e5 := isw_c R (i := 5) (by omega)
  have e6 := isw_c R (i := 6) (by omega)
  have e7 := isw_c R (i := 7) (by omega)
  have e8 := isw_c R (i := 8) (by omega)
  unfold f_X6_sortOfLine f_X6_sortOfLine_0 f_X6_sortOfLine_105 lnK
  rw [if_pos R.t, e0, osb]
  dsimp only
  cases w0 : isW b L p (sW 0) with
  | true => simp [b2i, nI_0]
  | false =>
    simp only [b2i, Bool.false_eq_true, if_false, if_true, e1, osb]
    cases w1 : isW b L p (sW 1) with
    | true => simp [b2i]; rfl
    | false =>
      simp only [b2i, Bool.false_eq_true, if_false, if_true, e2, osb]
      cases w2 : isW b L p (sW 2) with
      | true => simp [b2i]; rfl
      | false =>
        simp only [b2i, Bool.false_eq_true, if_false, if_true, e3, osb]
        cases w3 : isW b L p (sW 3) with
        | true => simp [b2i]; rfl
        | false =>
          simp only [b2i, Bool.false_eq_true, if_false, if_true, e4, osb]
          cases w4 : isW b L p (sW 4) with
          | true => simp [b2i]; rfl
          | false =>
            simp only [b2i, Bool.false_eq_true, if_false, if_true, e5, osb]
            cases w5 : isW b L p (sW 5) with
            | true => simp [b2i]; rfl
            | false =>
              simp only [b2i, Bool.false_eq_true, if_false, if_true, e6, osb]
              cases w6 : isW b L p (sW 6) with
              | true => simp [b2i]; rfl
              | false =>
                simp only [b2i, Bool.false_eq_true, if_false, if_true, e7, osb]
                cases w7 : isW b L p (sW 7) with
                | true => simp [b2i]; rfl
                | false =>
                  simp only [b2i, Bool.false_eq_true, if_false, if_true, e8, osb]
                  cases w8 : isW b L p (sW 8) with
                  | true => simp [b2i]; rfl
                  | false => simp [b2i]
/-- a line fails at once -/
theorem lf_c (R : Rd σ Y T X d L b n p) (H : YY Y T X d) (w : Int32) : ∃ τ, ((f_X6_fails Y w σ).bind fun q => if q.1 = 0 ∨ q.1 = 1 then some (q.1, q.2) else none) = some (0, τ) ∧ Fr (iYD Y d) σ τ ∧ hI τ Y 0 = w ∧ hI τ Y 1 = nI p := by
  rw [fails_c R H, osb, if_pos (Or.inl rfl)]
  exact ⟨_, rfl, fail_fr.yd, fail_out (α := Nat) (Q := fun _ => True)⟩
/-- a step is counted, or not -/
theorem cnt_c {S : Flt ⊕ (Cc × Nat)} {a : Nat} (H : YY Y T X d) (B : Bs τ Y d) (F : Fr (iYD Y d) σ τ) (h5 : okS S = true → hI τ d 5 = nI m) (h : OutR τ Y S (fun q => Rd τ Y T X d L b n q.2 ∧ DS τ d q.1 m nu ng)) : ∃ υ, f_X6_readLine_145 Y (b2i (okS S)) τ = some (b2i (okS (andS S fun q => (.inr ((q.1, m + 1, nu, ng), q.2) : Flt ⊕ (PS × Nat)))), υ) ∧ Fr (iYD Y d) σ υ ∧ OutR υ Y (andS S fun q => (.inr ((q.1, m + 1, nu, ng), q.2) : Flt ⊕ (PS × Nat))) (fun q => Rd υ Y T X d L b n q.2 ∧ DC υ d q.1.1 q.1.2.1 q.1.2.2.1 q.1.2.2.2) := by
  obtain ⟨y1, y2, y3, y4⟩ := id H
  have hd : iYD Y d d := Or.inr ⟨by omega, by omega⟩
  unfold f_X6_readLine_145 f_X6_readLine_163
  rw [B.g, osb, gI_k B.2.2.1, osb]
  cases S with
  | inl e =>
    rw [if_pos (by rfl), pI_k B.2.2.1, osb, if_pos (by show (0 : Int32) = 0 ∨ (0 : Int32) = 1; decide)]
    exact ⟨_, rfl, Fr.st F hd, out_w h (by omega)⟩
  | inr q =>
    obtain ⟨R, D, e5⟩ := h
    rw [if_neg (by show ¬ (1 : Int32) = 0; decide), pI_k B.2.2.1, osb, if_pos (by show (1 : Int32) = 0 ∨ (1 : Int32) = 1; decide), e5, nI_1]
    exact ⟨_, rfl, Fr.st F hd, R.w H (by omega) (by omega), D⟩
theorem okS_and {α β : Type} {R : Flt ⊕ α} {f : α → β} : okS (andS R fun q => (.inr (f q) : Flt ⊕ β)) = okS R := by cases R <;> rfl
theorem b2i_01 (x : Bool) : b2i x = 0 ∨ b2i x = 1 := by cases x <;> decide
theorem sli_c (R : Rd σ Y T X d L b n p) (H : YY Y T X d) (C : CLn σ d told s) (hs : SI told s) (hl : nI line = 0 ↔ told = false) : ∃ τ, f_X6_readLine Y (nI line) σ = some (b2i (okS (pLine b L told s p)), τ) ∧ Fr (iYD Y d) σ τ ∧ OutR τ Y (pLine b L told s p) (fun q => Rd τ Y T X d L b n q.2 ∧ DC τ d q.1.1 q.1.2.1 q.1.2.2.1 q.1.2.2.2) := by
  obtain ⟨n1, n2, n3, n4, n5, n6⟩ := hs.n
  have h9 := lnK_9 (b := b) (L := L) (p := p)
  have B := R.bs C.sh
  unfold f_X6_readLine f_X6_readLine_0 f_X6_readLine_37 f_X6_readLine_78 f_X6_readLine_109 pLine
  rw [if_pos R.t, sol_c R, osb]
  dsimp only
  by_cases e9 : lnK b L p = 9
  · rw [if_pos e9, if_neg (by decide), if_pos e9]
    exact lf_c R H 1
  · have kE : ∀ a, a ≤ 9 → ((nI (lnK b L p) = nI a) ↔ lnK b L p = a) := fun a ha => nI_eq (by omega) (by omega)
    have k6 := kE 6 (by omega)
    have k7 := kE 7 (by omega)
    have k8 := kE 8 (by omega)
    have k5 := kE 5 (by omega)
    rw [if_neg e9, if_pos (show (0 : Int32) ≤ nI (lnK b L p) from nI_le (a := 0) (by omega) (by omega)), if_neg e9]
    by_cases e6 : lnK b L p = 6
    · rw [if_pos (show nI (lnK b L p) = 6 from k6.mpr e6), if_pos e6]
      cases ht : told with
      | true =>
        rw [if_neg (fun q => by rw [ht] at hl; exact absurd (hl.mp q) (by decide)), if_pos rfl]
        exact lf_c R H 3
      | false =>
        obtain ⟨P, c5, c6, c7⟩ := C.2 ht
        obtain ⟨τ, t1, t2, t3⟩ := sco_c (v0 := hI σ d 0) (v1 := hI σ d 1) (v2 := hI σ d 2) (v3 := hI σ d 3) (v4 := hI σ d 4) R H ⟨P, rfl, rfl, rfl, rfl, rfl, c5, c6, c7⟩
        rw [if_pos (hl.mpr ht), t1, osb, if_neg (show ¬ (false = true) by decide), okS_and]
        dsimp only
        rw [if_pos (b2i_01 _)]
        exact ⟨τ, rfl, t2, t3.and (fun u hu => hu)⟩
    · rw [if_neg (show ¬ nI (lnK b L p) = 6 from fun q => e6 (k6.mp q)), if_neg e6]
      cases ht : told with
      | false =>
        rw [if_pos (hl.mpr ht), if_pos rfl]
        exact lf_c R H 6
      | true =>
        have D := C.1 ht
        rw [if_neg (fun q => by rw [ht] at hl; exact absurd (hl.mp q) (by decide)), if_neg (show ¬ (true = false) by decide)]
        by_cases e7 : lnK b L p = 7
        · rw [if_pos (show nI (lnK b L p) = 7 from k7.mpr e7), if_pos e7, B.g, osb, gI_k D.1.1, osb, D.2.1.2.2.2.2.2.2.1, n4]
          by_cases h4 : 4 ≤ s.2.2.1
          · rw [if_pos (show (4 : Int32) ≤ nI s.2.2.1 from nI_le (a := 4) h4 (by omega)), if_pos h4]
            exact lf_c R H 5
          · obtain ⟨τ, t1, t2, t3⟩ := sun_c R H D n1 n2 n4 (by omega)
            rw [if_neg (show ¬ (4 : Int32) ≤ nI s.2.2.1 from nI_ge (b := 4) (by omega) (by omega)), if_neg h4, t1, osb, okS_and]
            dsimp only
            rw [if_pos (b2i_01 _)]
            exact ⟨τ, rfl, t2, t3.and (fun u hu => hu)⟩
        · rw [if_neg (show ¬ nI (lnK b L p) = 7 from fun q => e7 (k7.mp q)), if_neg e7]
          by_cases e8 : lnK b L p = 8
          · rw [if_pos (show nI (lnK b L p) = 8 from k8.mpr e8), if_pos e8, B.g, osb, gI_k D.1.1, osb, D.2.1.2.2.2.2.2.2.2, n6]
            by_cases h4 : 6 ≤ s.2.2.2
            · rw [if_pos (show (6 : Int32) ≤ nI s.2.2.2 from nI_le (a := 6) h4 (by omega)), if_pos h4]
              exact lf_c R H 5
            · obtain ⟨τ, t1, t2, t3⟩ := sgo_c R H D n6 (by omega)
              rw [if_neg (show ¬ (6 : Int32) ≤ nI s.2.2.2 from nI_ge (b := 6) (by omega) (by omega)), if_neg h4, t1, osb, okS_and]
              dsimp only
              rw [if_pos (b2i_01 _)]
              exact ⟨τ, rfl, t2, t3.and (fun u hu => hu)⟩
          · rw [if_neg (show ¬ nI (lnK b L p) = 8 from fun q => e8 (k8.mp q)), if_neg e8, B.g, osb, gI_k D.1.1, osb, D.2.1.2.2.2.2.2.1, n2]
            by_cases h24 : 24 ≤ s.2.1
            · rw [if_neg (show ¬ nI s.2.1 < 24 from nI_nlt (b := 24) h24 (by omega)), if_pos h24]
              exact lf_c R H 5
            · rw [if_pos (show nI s.2.1 < 24 from nI_lt (b := 24) (by omega) (by omega)), if_neg h24]
              by_cases e5 : lnK b L p = 5
              · obtain ⟨τ, t1, t2, t3⟩ := ssk_c R H D (by omega) n2
                rw [if_pos (show nI (lnK b L p) = 5 from k5.mpr e5), t1, osb, e5]
                exact cnt_c (a := 0) H (B.fr t2) t2 (fun _ => by
                  have := t3
                  cases hS : pStep b L s.1 s.2.1 5 (adP b L p) with
                  | inl e => rename_i q; rw [hS] at q; cases q
                  | inr q => rw [hS] at this; exact this.2.2) t3
              · obtain ⟨τ, t1, t2, t3⟩ := sch_c (kk := lnK b L p) R H D (by omega) n2 (by omega)
                rw [if_neg (show ¬ nI (lnK b L p) = 5 from fun q => e5 (k5.mp q)), t1, osb]
                exact cnt_c (a := 0) H (B.fr t2) t2 (fun _ => by
                  have := t3
                  cases hS : pStep b L s.1 s.2.1 (lnK b L p) (adP b L p) with
                  | inl e => rename_i q; rw [hS] at q; cases q
                  | inr q => rw [hS] at this; exact this.2.2) t3
theorem srl_l : ∀ (f fu : Nat) (told : Bool) (s : PS) (p line : Nat) (σ : St), L - p < f → f ≤ fu → line ≤ p → Rd σ Y T X d L b n p → YY Y T X d → CLn σ d told s → SI told s → (nI line = 0 ↔ told = false) → ∃ τ, f_X6_reads_61 fu Y (nI L) (nI line) σ = some (b2i (okS (pAll b L f told s p)), τ) ∧ Fr (iYD Y d) σ τ ∧ OutR τ Y (pAll b L f told s p) (fun s' => DC τ d s'.1 s'.2.1 s'.2.2.1 s'.2.2.2 ∧ hI τ Y 0 = 0)
  | 0, fu, told, s, p, line, σ, h1, h2, h3, R, H, C, hs, hl => by omega
  | f + 1, fu, told, s, p, line, σ, h1, h2, h3, R, H, C, hs, hl => by
    obtain ⟨g, rfl⟩ : ∃ g, fu = g + 1 := ⟨fu - 1, by omega⟩
    obtain ⟨k0, -, -, -, kp, kL, -⟩ := R.at
    obtain ⟨τ, t1, t2, t3⟩ := sli_c R H C hs hl
    rw [e_X6_reads_61, if_neg (show ¬ nI L < nI line from nI_nlt (by omega) (by omega)), t1, osb]
    unfold pAll
    dsimp only
    cases hp : pLine b L told s p with
    | inl e =>
      rw [hp] at t3
      rw [if_pos (by rfl)]
      exact ⟨τ, rfl, t2, t3⟩
    | inr q =>
      rw [hp] at t3
      obtain ⟨R', D'⟩ := t3
      obtain ⟨i1, i2, i3⟩ := hs.line kp hp
      obtain ⟨k, k1, k2, k3, k4, k5, g4, g3, g2, g7, x0, x1, x2, x3, s1, s2, s3⟩ := R'.at
      have hS := tkS_4 (b := b) (L := L) (p := q.2)
      dsimp only [andS]
      rw [if_neg (by show ¬ (1 : Int32) = 0; decide), g3, osb, x0, osb, g4, osb, s1, osb]
      unfold f_X6_reads_113 f_X6_reads_118
      by_cases e0 : tkS b L q.2 = 0
      · rw [if_pos (show nI (tkS b L q.2) = 0 by rw [e0]; rfl), if_pos e0, g7, osb, gI_k D'.1.1, osb, D'.2.1.2.2.2.2.2.1, i1.n.2.1]
        by_cases hm : 0 < q.1.2.1
        · have := i1.n.1
          rw [if_pos (show (0 : Int32) < nI q.1.2.1 from nI_lt (a := 0) hm (by omega)), if_pos (Or.inr rfl), if_pos hm]
          obtain ⟨-, -, -, _, -, -, -, k00⟩ := R'
          exact ⟨τ, rfl, t2, D', k00⟩
        · rw [if_neg (show ¬ (0 : Int32) < nI q.1.2.1 from nI_nlt (a := 0) (by omega) (by omega)), fails_c R' H, osb, if_pos rfl, if_pos (Or.inl rfl), if_neg hm]
          exact ⟨_, rfl, t2.trans fail_fr.yd, fail_out⟩
      · rw [if_neg (show ¬ nI (tkS b L q.2) = 0 from fun w => e0 ((nI_eq (b := 0) (by omega) (by omega)).mp w)), if_neg e0, osb, x0, osb, osb, s1, osb]
        by_cases e3 : tkS b L q.2 = 3
        · obtain ⟨υ, u1, u2, u3, -⟩ := adv_c R' H
          have hlt : q.2 < L := by
            by_cases g : L ≤ q.2
            · unfold tkS at e3; rw [if_pos g] at e3; omega
            · omega
          have hn := (nx_b (b := b) i3).2.2 hlt
          have ha := adP_n (b := b) (L := L) (p := q.2) (by omega)
          obtain ⟨ω, w1, w2, w3⟩ := srl_l f g true q.1 (adP b L q.2) (line + 1) υ (by omega) (by omega) (by omega) u3 H ⟨fun _ => D'.yf u2 H.2.2.1, fun e => (nomatch e)⟩ i1 ⟨fun e => by have := (nI_eq (a := line + 1) (b := 0) (by omega) (by omega)).mp e; omega, fun e => (nomatch e)⟩
          rw [if_pos (show nI (tkS b L q.2) = 3 by rw [e3]; rfl), if_pos e3, u1, osb, nI_1]
          exact ⟨ω, w1, (t2.trans u2.yd).trans w2, w3⟩
        · rw [if_neg (show ¬ nI (tkS b L q.2) = 3 from fun w => e3 ((nI_eq (b := 3) (by omega) (by omega)).mp w)), if_neg e3]
          rw [fails_c R' H, osb, if_pos (Or.inl rfl)]
          exact ⟨_, rfl, t2.trans fail_fr.yd, fail_out⟩
end Cal
