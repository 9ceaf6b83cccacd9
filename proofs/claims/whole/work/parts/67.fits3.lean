/-! FITS: the reference's -/
def FrT (M : Nat) (σ τ : St) : Prop := Fr (fun r => r = M ∨ r = M + 2 ∨ r = M + 7) σ τ ∧ ∀ q, (q < 16 ∨ (19 < q ∧ q < 31) ∨ 35 < q) → hI τ M q = hI σ M q
theorem FrT.refl {M : Nat} {σ : St} : FrT M σ σ := ⟨Fr.refl, fun _ _ => rfl⟩
theorem FrT.trans {M : Nat} {σ τ υ : St} (h : FrT M σ τ) (g : FrT M τ υ) : FrT M σ υ := ⟨h.1.trans g.1, fun q h1 => (g.2 q h1).trans (h.2 q h1)⟩
theorem FrT.s0 {M j : Nat} {σ : St} {v : Int32} (h : 31 ≤ j) (h2 : j ≤ 35) : FrT M σ (sI σ M j v) := ⟨Fr.s0 (Or.inl rfl), fun q h1 => hI_sIn (Or.inr (by omega))⟩
theorem FrP.t {M : Nat} {σ τ : St} (h : FrP M σ τ) : FrT M σ τ := ⟨h.1.mono (fun r g => by omega), fun q h1 => h.2 q (by omega)⟩
theorem cntN_lt {f : Nat → Bool} {t : Nat} (ht : f t = true) : ∀ {j : Nat}, t < j → cntN f t < cntN f j
  | j + 1, h => by
    simp only [cntN]
    by_cases e : t = j
    · subst e; rw [ht]; simp
    · have := cntN_lt ht (show t < j by omega)
      omega
theorem fxE_t {f : Nat → Bool} {i : Int32} {j : Nat} (hj : j < 1000) (h : (f j && decide (nI (cntN f j) = i)) = true) : fxE f i (j + 1) = some j := by
  unfold fxE
  refine fstN_of (by omega) h (fun t ht => ?_)
  simp only [Bool.and_eq_true, decide_eq_true_eq] at h
  cases hf : f t with
  | false => rfl
  | true =>
    have h1 := cntN_lt hf ht
    have h2 := cntN_le (p := f) j
    rw [decide_eq_false (fun e => by
      have := (nI_eq (a := cntN f t) (b := cntN f j) (by omega) (by omega)).mp (e.trans h.2.symm)
      omega)]
    rfl
theorem fxE_f {f : Nat → Bool} {i : Int32} {j : Nat} (h : (f j && decide (nI (cntN f j) = i)) = false) : fxE f i (j + 1) = fxE f i j := by
  unfold fxE
  simp only [fstN, h, Bool.false_eq_true, if_false]
  cases fstN (fun m => f m && decide (nI (cntN f m) = i)) j <;> rfl
section Fits3
variable {σ τ υ : St} {M k : Nat} {c : Nat → Nat → Int32} {m : Nat} {x x0 : Nat → Int32} {n nc nu ng : Nat} {f : Nat → Bool} {i0 : Int32}
theorem Md.frT (D : Md σ M k c x) (F : FrT M σ τ) : Md τ M k c x := D.fr F.1 (fun r h => by have := D.2.2.2.2.2.2; omega)
theorem Md.un (D : Md σ M k c x) (N : Cun c nu ng) : gI 10 5 k σ = some (nI nu) := by rw [gI_k D.2.2.2.1.1, D.2.2.2.2.1.2.2.2.2.2.1, N.2.1]
theorem ft118 {k49 : Nat → Int32 → Int32 → Int32 → St → Option (Int32 × St)} (N : Cun c nu ng) (a1 a2 : Int32) {j : Nat} : ∀ (q i fu : Nat) (σ : St), i + q = nu → q < fu → Md σ M k c x0 → Fld σ M 34 (M + 7) 22 4 → ∃ τ, f_X10_fitting_118 k49 fu M a1 a2 (nI j) (nI i) σ = k49 M a1 a2 (nI (j + 1)) τ ∧ Fr (fun r => r = M + 7) σ τ ∧ (∀ t, t < i → hI τ (M + 7) t = hI σ (M + 7) t) ∧ ∀ t, i ≤ t → t < nu → hI τ (M + 7) t = hI σ (M + 7) t + b2i (bt (nI j) t)
  | 0, i, fu, σ, hi, hf, D, O => by
    obtain ⟨g, rfl⟩ : ∃ g, fu = g + 1 := ⟨fu - 1, by omega⟩
    have h4 := N.1
    rw [e_X10_fitting_118, core_k D, osb, D.un N, osb, if_pos (nI_le (by omega) (by omega))]
    unfold f_X10_fitting_160
    rw [nI_1]
    exact ⟨σ, rfl, Fr.refl, fun _ _ => rfl, fun t h1 h2 => absurd h2 (by omega)⟩
  | q + 1, i, fu, σ, hi, hf, D, O => by
    obtain ⟨g, rfl⟩ : ∃ g, fu = g + 1 := ⟨fu - 1, by omega⟩
    have h4 := N.1
    have hk := D.2.2.2.2.2.2
    rw [e_X10_fitting_118, core_k D, osb, D.un N, osb, if_neg (nI_ge (by omega) (by omega)), O.r D.1, osb, O.g (by omega) (by omega), osb, bit_k _ (by omega), osb]
    dsimp only
    have h152 : ∀ v : Int32, v = b2i (bt (nI j) i) → ∃ τ, f_X10_fitting_152 k49 (f_X10_fitting_118 k49 g) M a1 a2 (nI j) (nI i) (M + 7) (nI i) (hI σ (M + 7) i) v σ = k49 M a1 a2 (nI (j + 1)) τ ∧ Fr (fun r => r = M + 7) σ τ ∧ (∀ t, t < i → hI τ (M + 7) t = hI σ (M + 7) t) ∧ ∀ t, i ≤ t → t < nu → hI τ (M + 7) t = hI σ (M + 7) t + b2i (bt (nI j) t) := fun v hv => by
      unfold f_X10_fitting_152
      rw [xI_k O.2.1 O.2.2 (by omega) (by omega), osb, nI_1]
      have F1 : Fr (fun r => r = M + 7) σ (sI σ (M + 7) i (hI σ (M + 7) i + v)) := Fr.s0 rfl
      obtain ⟨τ, t1, t2, t3, t4⟩ := ft118 (k49 := k49) N a1 a2 (j := j) q (i + 1) g (sI σ (M + 7) i (hI σ (M + 7) i + v)) (by omega) (by omega) (D.fr F1 (fun r h => by omega)) (O.fr F1)
      refine ⟨τ, t1, F1.trans t2, fun t ht => ?_, fun t h1 h2 => ?_⟩
      · rw [t3 t (by omega), hI_sIn (Or.inr (by omega))]
      · by_cases e : t = i
        · subst e; rw [t3 t (by omega), hI_sIe, hv]
        · rw [t4 t (by omega) h2, hI_sIn (Or.inr e)]
    cases hb : bt (nI j) i with
    | false => rw [if_pos (by decide)]; exact h152 0 (by rw [hb]; rfl)
    | true => rw [if_neg (by decide)]; exact h152 1 (by rw [hb]; rfl)
def TSt (σ : St) (M nu : Nat) (f : Nat → Bool) (j : Nat) : Prop := Fld σ M 15 (M + 2) 22 8 ∧ Fld σ M 34 (M + 7) 22 4 ∧ hI σ M 31 = nI (cntN f j) ∧ hI σ M 32 = orE f j ∧ hI σ M 33 = anE f (jshl 1 (nI nu) - 1) j ∧ ∀ t, t < nu → hI σ (M + 7) t = nI (cntN (fun m => f m && bt (nI m) t) j)
def TEn (σ : St) (M nu : Nat) (f : Nat → Bool) : Prop := hI σ M 31 = nI (cntN f (2 ^ nu)) ∧ hI σ M 32 = orE f (2 ^ nu) ∧ hI σ M 33 = alE f nu ∧ ∀ t, t < nu → hI σ (M + 7) t = nI (cntN (fun m => f m && bt (nI m) t) (2 ^ nu))
theorem ft49 (C : Cok c m) (N : Cun c nu ng) : ∀ (q j fu : Nat) (σ : St), j + q = 2 ^ nu → q < fu → Md σ M k c x0 → TSt σ M nu (fiE c nu ng) j → ∃ τ, f_X10_fitting_49 fu M i0 (o2i (fxE (fiE c nu ng) i0 j)) (nI j) σ = some (o2i (fxE (fiE c nu ng) i0 (2 ^ nu)), τ) ∧ FrT M σ τ ∧ TEn τ M nu (fiE c nu ng)
  | 0, j, fu, σ, hj, hf, D, T => by
    obtain ⟨g, rfl⟩ : ∃ g, fu = g + 1 := ⟨fu - 1, by omega⟩
    have h4 := N.1
    have h16 := pw16 h4
    obtain rfl : j = 2 ^ nu := by omega
    have hcl := cntN_le (p := fiE c nu ng) (2 ^ nu)
    rw [e_X10_fitting_49, core_k D, osb, D.un N, osb, sh_pw nu (by omega), if_pos (nI_le (Nat.le_refl _) (by omega)), gI_k D.1, osb, T.2.2.1]
    unfold f_X10_fitting_178
    by_cases h0 : cntN (fiE c nu ng) (2 ^ nu) = 0
    · rw [h0, if_pos nI_0, pI_k D.1, osb]
      refine ⟨_, rfl, FrT.s0 (by omega) (by omega), ?_, ?_, ?_, fun t ht => ?_⟩
      · rw [hI_sIn (Or.inr (by omega))]; exact T.2.2.1
      · rw [hI_sIn (Or.inr (by omega))]; exact T.2.2.2.1
      · rw [hI_sIe]; unfold alE; rw [if_pos h0]
      · rw [hI_sIn (Or.inl (by omega))]; exact T.2.2.2.2.2 t ht
    · rw [if_neg (nI_ne0 (by omega) (by omega))]
      exact ⟨σ, rfl, FrT.refl, T.2.2.1, T.2.2.2.1, by rw [T.2.2.2.2.1]; unfold alE; rw [if_neg h0], T.2.2.2.2.2⟩
  | q + 1, j, fu, σ, hj, hf, D, T => by
    obtain ⟨g, rfl⟩ : ∃ g, fu = g + 1 := ⟨fu - 1, by omega⟩
    have h4 := N.1
    have h6 := N.2.2.1
    have h16 := pw16 h4
    rw [e_X10_fitting_49, core_k D, osb, D.un N, osb, sh_pw nu (by omega), if_neg (nI_ge (by omega) (by omega))]
    obtain ⟨τ, t1, t2⟩ := wg_k D C N T.1 (nI j)
    have D1 := D.frP t2
    have e7 : hI τ (M + 7) = hI σ (M + 7) := t2.1.2.2.2.2.2 _ (by omega)
    have hx : fiE c nu ng j = (wgE c ng (plE c nu (nI j) 200).1).isNone := rfl
    have T1 : TSt τ M nu (fiE c nu ng) j := ⟨T.1.fr t2.1, T.2.1.fr t2.1, by rw [t2.2 31 (by omega)]; exact T.2.2.1, by rw [t2.2 32 (by omega)]; exact T.2.2.2.1, by rw [t2.2 33 (by omega)]; exact T.2.2.2.2.1, fun t ht => by rw [e7]; exact T.2.2.2.2.2 t ht⟩
    rw [t1, osb]
    dsimp only
    have hne : o2m (wgE c ng (plE c nu (nI j) 200).1) = -2 ↔ fiE c nu ng j = true := by
      rw [hx]
      cases hw : wgE c ng (plE c nu (nI j) 200).1 with
      | none => exact ⟨fun _ => rfl, fun _ => rfl⟩
      | some w =>
        have := (fstN_some hw).1
        exact ⟨fun h => absurd h (nI_nm2 (by omega)), fun h => by cases h⟩
    cases hfj : fiE c nu ng j with
    | false =>
      rw [if_neg (fun h => by rw [hne.mp h] at hfj; cases hfj)]
      unfold f_X10_fitting_160
      rw [nI_1, ← fxE_f (j := j) (by rw [hfj]; rfl)]
      obtain ⟨υ, u1, u2, u3⟩ := ft49 C N q (j + 1) g τ (by omega) (by omega) D1 ⟨T1.1, T1.2.1, by rw [T1.2.2.1]; simp only [cntN, hfj, Bool.false_eq_true, if_false, Nat.add_zero], by rw [T1.2.2.2.1]; simp only [orE, hfj, Bool.false_eq_true, if_false, i_or_z], by rw [T1.2.2.2.2.1]; simp only [anE, hfj, Bool.false_eq_true, if_false], fun t ht => by rw [T1.2.2.2.2.2 t ht]; simp only [cntN, hfj, Bool.false_and, Bool.false_eq_true, if_false, Nat.add_zero]⟩
      exact ⟨υ, u1, t2.t.trans u2, u3⟩
    | true =>
      rw [if_pos (hne.mpr hfj), gI_k D1.1, osb, T1.2.2.1]
      have h85 : ∀ a2 : Int32, a2 = o2i (fxE (fiE c nu ng) i0 (j + 1)) → ∃ υ, f_X10_fitting_85 (f_X10_fitting_49 g) M i0 a2 (nI j) τ = some (o2i (fxE (fiE c nu ng) i0 (2 ^ nu)), υ) ∧ FrT M σ υ ∧ TEn υ M nu (fiE c nu ng) := fun a2 ha => by
        subst ha
        unfold f_X10_fitting_85
        rw [gI_k D1.1, osb, T1.2.2.1, nI_1, pI_k D1.1, osb]
        generalize hω : sI τ M 31 (nI (cntN (fiE c nu ng) j + 1)) = ω
        have w0 : hT ω M = 11 := by rw [← hω]; exact D1.1
        have w32 : hI ω M 32 = orE (fiE c nu ng) j := by rw [← hω, hI_sIn (Or.inr (by omega))]; exact T1.2.2.2.1
        rw [gI_k w0, osb, w32, pI_k w0, osb]
        generalize hψ : sI ω M 32 (orE (fiE c nu ng) j ||| nI j) = ψ
        have v0 : hT ψ M = 11 := by rw [← hψ]; exact w0
        have v33 : hI ψ M 33 = anE (fiE c nu ng) (jshl 1 (nI nu) - 1) j := by rw [← hψ, hI_sIn (Or.inr (by omega)), ← hω, hI_sIn (Or.inr (by omega))]; exact T1.2.2.2.2.1
        rw [gI_k v0, osb, v33, pI_k v0, osb]
        have F3 : FrT M τ (sI ψ M 33 (anE (fiE c nu ng) (jshl 1 (nI nu) - 1) j &&& nI j)) := by
          rw [← hψ, ← hω]
          exact ((FrT.s0 (by omega) (by omega)).trans (FrT.s0 (by omega) (by omega))).trans (FrT.s0 (by omega) (by omega))
        have D3 := D1.frT F3
        have g31 : hI (sI ψ M 33 (anE (fiE c nu ng) (jshl 1 (nI nu) - 1) j &&& nI j)) M 31 = nI (cntN (fiE c nu ng) j + 1) := by rw [hI_sIn (Or.inr (by omega)), ← hψ, hI_sIn (Or.inr (by omega)), ← hω, hI_sIe]
        have g32 : hI (sI ψ M 33 (anE (fiE c nu ng) (jshl 1 (nI nu) - 1) j &&& nI j)) M 32 = orE (fiE c nu ng) j ||| nI j := by rw [hI_sIn (Or.inr (by omega)), ← hψ, hI_sIe]
        have g33 : hI (sI ψ M 33 (anE (fiE c nu ng) (jshl 1 (nI nu) - 1) j &&& nI j)) M 33 = anE (fiE c nu ng) (jshl 1 (nI nu) - 1) j &&& nI j := hI_sIe
        have g7 : hI (sI ψ M 33 (anE (fiE c nu ng) (jshl 1 (nI nu) - 1) j &&& nI j)) (M + 7) = hI τ (M + 7) := by rw [hI_sIr (by omega), ← hψ, hI_sIr (by omega), ← hω, hI_sIr (by omega)]
        generalize sI ψ M 33 (anE (fiE c nu ng) (jshl 1 (nI nu) - 1) j &&& nI j) = φ at F3 D3 g31 g32 g33 g7 ⊢
        obtain ⟨ρ, r1, r2, r3, r4⟩ := ft118 (k49 := f_X10_fitting_49 g) N i0 (o2i (fxE (fiE c nu ng) i0 (j + 1))) (j := j) nu 0 FU φ (by omega) (by unfold FU; omega) D3 (T1.2.1.fr F3.1)
        rw [nI_0] at r1
        rw [r1]
        have R : FrT M φ ρ := ⟨r2.mono (fun r h => by omega), fun q _ => by rw [r2.2.2.2.2.2 M (by omega)]⟩
        have eM : hI ρ M = hI φ M := r2.2.2.2.2.2 M (by omega)
        obtain ⟨υ, u1, u2, u3⟩ := ft49 C N q (j + 1) g ρ (by omega) (by omega) (D3.frT R) ⟨(T1.1.fr F3.1).fr R.1, (T1.2.1.fr F3.1).fr R.1, by rw [eM, g31]; simp only [cntN, hfj, if_true], by rw [eM, g32]; simp only [orE, hfj, if_true], by rw [eM, g33]; simp only [anE, hfj, if_true], fun t ht => by
          rw [r4 t (by omega) ht, g7, T1.2.2.2.2.2 t ht]
          simp only [cntN, hfj, Bool.true_and]
          cases hb : bt (nI j) t with
          | true => exact nI_1 _
          | false => exact i_add_0 _⟩
        exact ⟨υ, u1, (t2.t.trans F3).trans (R.trans u2), u3⟩
      by_cases hi : nI (cntN (fiE c nu ng) j) = i0
      · rw [if_pos hi]
        exact h85 (nI j) (by rw [fxE_t (j := j) (by omega) (by rw [hfj, decide_eq_true hi]; rfl)]; rfl)
      · rw [if_neg hi]
        exact h85 _ (by rw [fxE_f (j := j) (by rw [decide_eq_false hi, Bool.and_false])])
theorem ft29 (D : Md σ M k c x0) (O : Fld σ M 34 (M + 7) 22 4) (y : Nat → Int32) (a1 a2 : Int32) : ∀ (q i fu : Nat), i + q = 4 → q < fu → f_X10_fitting_29 fu M a1 a2 (nI i) (sR σ (M + 7) (fil y 0 (fun _ => 0) i)) = f_X10_fitting_49 FU M a1 a2 0 (sR σ (M + 7) (fil y 0 (fun _ => 0) 4))
  | 0, i, fu, hi, hf => by
    obtain ⟨f, rfl⟩ : ∃ f, fu = f + 1 := ⟨fu - 1, by omega⟩
    obtain rfl : i = 4 := by omega
    rw [e_X10_fitting_29, if_pos (by decide)]
  | q + 1, i, fu, hi, hf => by
    obtain ⟨f, rfl⟩ : ∃ f, fu = f + 1 := ⟨fu - 1, by omega⟩
    have ih := ft29 D O y a1 a2 q (i + 1) f (by omega) (by omega)
    rw [fil_s, Nat.zero_add, ← nI_1] at ih
    rw [e_X10_fitting_29, if_neg (show ¬ (4 : Int32) ≤ nI i from nI_ge (a := i) (b := 4) (by omega) (by omega)), gR_k (σ := sR σ (M + 7) (fil y 0 (fun _ => 0) i)) D.1 O.1, osb, ws_r O.2.1 O.2.2 (by omega) (by omega), osb]
    exact ih
theorem fit_k (D : Md σ M k c x0) (C : Cok c m) (N : Cun c nu ng) (P : Fld σ M 15 (M + 2) 22 8) (O : Fld σ M 34 (M + 7) 22 4) (i0 : Int32) : ∃ τ, f_X10_fitting M i0 σ = some (o2i (fxE (fiE c nu ng) i0 (2 ^ nu)), τ) ∧ FrT M σ τ ∧ TEn τ M nu (fiE c nu ng) := by
  have h16 := pw16 N.1
  unfold f_X10_fitting f_X10_fitting_0
  rw [if_pos D.1, pI_k D.1, osb, pI_k (σ := sI σ M 31 0) D.1, osb]
  have D2 := (D.setM (j := 31) 0).setM (j := 32) 0
  rw [core_k D2, osb, D2.un N, osb, pI_k D2.1, osb]
  have F3 : FrT M σ (sI (sI (sI σ M 31 0) M 32 0) M 33 (jshl 1 (nI nu) - 1)) := ((FrT.s0 (by omega) (by omega)).trans (FrT.s0 (by omega) (by omega))).trans (FrT.s0 (by omega) (by omega))
  have g31 : hI (sI (sI (sI σ M 31 0) M 32 0) M 33 (jshl 1 (nI nu) - 1)) M 31 = 0 := by simp [hI_sI]
  have g32 : hI (sI (sI (sI σ M 31 0) M 32 0) M 33 (jshl 1 (nI nu) - 1)) M 32 = 0 := by simp [hI_sI]
  have g33 : hI (sI (sI (sI σ M 31 0) M 32 0) M 33 (jshl 1 (nI nu) - 1)) M 33 = jshl 1 (nI nu) - 1 := hI_sIe
  generalize sI (sI (sI σ M 31 0) M 32 0) M 33 (jshl 1 (nI nu) - 1) = φ at F3 g31 g32 g33 ⊢
  have D3 := D.frT F3
  have h0 := ft29 D3 (O.fr F3.1) (hI φ (M + 7)) i0 (-1) 4 0 FU (by omega) (by unfold FU; omega)
  rw [fil_0, sR_id, nI_0] at h0
  rw [h0]
  have F4 : FrT M φ (sR φ (M + 7) (fil (hI φ (M + 7)) 0 (fun _ => 0) 4)) := ⟨Fr.r0 (Or.inr (Or.inr rfl)), fun q _ => by rw [hI_sRn (by omega)]⟩
  have eM : hI (sR φ (M + 7) (fil (hI φ (M + 7)) 0 (fun _ => 0) 4)) M = hI φ M := hI_sRn (by omega)
  have F5 := F3.trans F4
  obtain ⟨τ, t1, t2, t3⟩ := ft49 (i0 := i0) C N (2 ^ nu) 0 FU _ (by omega) (by unfold FU; omega) (D.frT F5) ⟨P.fr F5.1, O.fr F5.1, by rw [eM, g31]; rfl, by rw [eM, g32]; rfl, by rw [eM, g33]; rfl, fun t ht => by
    have h4 := N.1
    rw [hI_sRe]; unfold fil; rw [if_pos (by omega)]; rfl⟩
  rw [nI_0] at t1
  exact ⟨τ, t1, F5.trans t2, t3⟩
end Fits3
