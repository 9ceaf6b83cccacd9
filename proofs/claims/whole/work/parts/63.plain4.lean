/-! THE PLAIN MACHINE: the reference's -/
def FrP (M : Nat) (σ τ : St) : Prop := Fr (fun r => r = M ∨ r = M + 2) σ τ ∧ ∀ q, (q < 16 ∨ 19 < q) → hI τ M q = hI σ M q
theorem FrP.refl {M : Nat} {σ : St} : FrP M σ σ := ⟨Fr.refl, fun _ _ => rfl⟩
theorem FrP.trans {M : Nat} {σ τ υ : St} (h : FrP M σ τ) (g : FrP M τ υ) : FrP M σ υ := ⟨h.1.trans g.1, fun q h1 => (g.2 q h1).trans (h.2 q h1)⟩
theorem FrP.s0 {M j : Nat} {σ : St} {v : Int32} (h : 16 ≤ j) (h2 : j ≤ 19) : FrP M σ (sI σ M j v) := ⟨Fr.s0 (Or.inl rfl), fun q h1 => hI_sIn (Or.inr (by omega))⟩
theorem FrP.s2 {M j : Nat} {σ : St} {v : Int32} : FrP M σ (sI σ (M + 2) j v) := ⟨Fr.s0 (Or.inr rfl), fun q h1 => hI_sIn (Or.inl (by omega))⟩
section Plain4
variable {σ τ υ : St} {M k : Nat} {c : Nat → Nat → Int32} {m : Nat} {x x0 : Nat → Int32} {n nc s nu ng d : Nat} {o ms nx : Int32} {rg : Nat → Int32} {S : Nat → Prop}
theorem Md.fr (D : Md σ M k c x) (F : Fr S σ τ) (hS : ∀ r, S r → r ≠ M + 4 ∧ r < k) : Md τ M k c x := by
  obtain ⟨h1, h2, h3, h4, h5, h6, h7⟩ := D
  exact ⟨by rw [F.1]; exact h1, ⟨by rw [F.2.2.1]; exact h2.1, by rw [F.1]; exact h2.2.1, by rw [F.2.1]; exact h2.2.2⟩, by rw [F.2.2.1]; exact h3, h4.sm (fun r a b => F.sm (fun h => by have := (hS r h).2; omega)), h5.sm (fun r a b => F.sm (fun h => by have := (hS r h).2; omega)), fun j hj => by rw [F.2.2.2.2.2 _ (fun h => (hS _ h).1 rfl)]; exact h6 j hj, h7⟩
theorem Md.frP (D : Md σ M k c x) (F : FrP M σ τ) : Md τ M k c x := D.fr F.1 (fun r h => by have := D.2.2.2.2.2.2; omega)
def PSt (σ : St) (M : Nat) (rg : Nat → Int32) (nx : Int32) (d : Nat) (ms : Int32) : Prop := Fld σ M 15 (M + 2) 22 8 ∧ (∀ r, r < 8 → hI σ (M + 2) r = rg r) ∧ hI σ M 16 = nx ∧ hI σ M 17 = nI d ∧ hI σ M 19 = ms
def peE (c : Nat → Nat → Int32) (R : (Nat → Int32) × Int32 × Nat × Int32 × Bool) : Int32 := if R.2.2.2.2 = true then 1 else if R.2.1 < 0 ∨ c 0 5 ≤ R.2.1 then 0 else 2
def PEn (τ : St) (M : Nat) (c : Nat → Nat → Int32) (R : (Nat → Int32) × Int32 × Nat × Int32 × Bool) : Prop := PSt τ M R.1 R.2.1 R.2.2.1 R.2.2.2.1 ∧ hI τ M 18 = peE c R
theorem Fld.fr {a k b t N : Nat} (h : Fld σ a k b t N) (F : Fr S σ τ) : Fld τ a k b t N := ⟨by rw [F.2.2.1]; exact h.1, by rw [F.1]; exact h.2.1, by rw [F.2.1]; exact h.2.2⟩
theorem PSt.s18 (P : PSt σ M rg nx d ms) (v : Int32) : PSt (sI σ M 18 v) M rg nx d ms := by
  obtain ⟨p1, p2, p3, p4, p5⟩ := P
  exact ⟨p1, fun r h => by rw [hI_sIn (Or.inl (by omega))]; exact p2 r h, by rw [hI_sIn (Or.inr (by omega))]; exact p3, by rw [hI_sIn (Or.inr (by omega))]; exact p4, by rw [hI_sIn (Or.inr (by omega))]; exact p5⟩
theorem uo_l (D : Md σ M k c x) (N : Cun c nu ng) : ∀ (q i fu : Nat), i + q = nu → q < fu → (∀ j, j < i → decide (c 7 j = nI s) = false) → f_X9_unsureOf_2 fu k (nI s) (nI i) σ = some (o2i (fstN (fun u => decide (c 7 u = nI s)) nu), σ)
  | 0, i, fu, hi, hf, ha => by
    obtain ⟨f, rfl⟩ : ∃ f, fu = f + 1 := ⟨fu - 1, by omega⟩
    obtain rfl : i = nu := by omega
    have h4 := N.1
    rw [e_X9_unsureOf_2, gI_k D.2.2.2.1.1, osb, D.2.2.2.2.1.2.2.2.2.2.1, N.2.1, if_pos (nI_le (Nat.le_refl _) (by omega))]
    cases h : fstN (fun u => decide (c 7 u = nI s)) i with
    | none => rfl
    | some j => obtain ⟨h1, h2, -⟩ := fstN_some h; simp only [ha j h1] at h2; cases h2
  | q + 1, i, fu, hi, hf, ha => by
    obtain ⟨f, rfl⟩ : ∃ f, fu = f + 1 := ⟨fu - 1, by omega⟩
    have h4 := N.1
    have S7 := D.2.2.2.1.2.2.2.2.2.2.2.1
    rw [e_X9_unsureOf_2, gI_k D.2.2.2.1.1, osb, D.2.2.2.2.1.2.2.2.2.2.1, N.2.1, if_neg (nI_ge (by omega) (by omega)), S7.r D.2.2.2.1.1, osb, S7.g (by omega) (by omega), osb, (D.2.2.2.2.1.2.2.2.2.2.2.2.2.2.1 i (by omega)).1]
    by_cases h : c 7 i = nI s
    · rw [if_pos h, fstN_of (j := i) (by omega) (decide_eq_true h) ha]
      rfl
    · rw [if_neg h, nI_1]
      exact uo_l D N q (i + 1) f (by omega) (by omega) (fun j hj => by
        by_cases e : j = i
        · subst e; exact decide_eq_false h
        · exact ha j (by omega))
theorem uo_k (D : Md σ M k c x) (N : Cun c nu ng) : f_X9_unsureOf k (nI s) σ = some (o2i (fstN (fun u => decide (c 7 u = nI s)) nu), σ) := by
  have h4 := N.1
  unfold f_X9_unsureOf f_X9_unsureOf_0
  rw [if_pos D.2.2.2.1.1, ← nI_0]
  exact uo_l D N nu 0 FU (by omega) (by unfold FU; omega) (fun _ h => absurd h (Nat.not_lt_zero _))
theorem sb_k (D : Md σ M k c x) (N : Cun c nu ng) (hs : s < 24) : f_X10_setBy M (nI s) o σ = some (nbE c nu o s, σ) := by
  have h4 := N.1
  obtain ⟨-, -, -, -, ⟨a1, a2⟩, -⟩ := kar D hs
  have h34 : f_X10_setBy_34 M (nI s) σ = some (c 5 s, σ) := by
    unfold f_X10_setBy_34 f_X10_setBy_43
    rw [core_k D, osb, a1, osb, a2, osb]
  unfold f_X10_setBy f_X10_setBy_0 nbE
  rw [if_pos D.1, core_k D, osb, uo_k D N, osb]
  dsimp only
  cases h : fstN (fun u => decide (c 7 u = nI s)) nu with
  | none =>
    rw [show o2i none = (-1 : Int32) from rfl, if_pos rfl]
    exact h34
  | some u =>
    have hu := (fstN_some h).1
    have S8 := D.2.2.2.1.2.2.2.2.2.2.2.2.1
    rw [show o2i (some u) = nI u from rfl, if_neg (nI_nm1 (by omega)), bit_k o (by omega), osb]
    dsimp only
    cases hb : bt o u with
    | false =>
      rw [if_pos (by decide), h34]
      rfl
    | true =>
      unfold f_X10_setBy_43
      rw [if_neg (by decide), core_k D, osb, S8.r D.2.2.2.1.1, osb, S8.g (by omega) (by omega), osb, (D.2.2.2.2.1.2.2.2.2.2.2.2.2.2.1 u (by omega)).2]
      rfl
theorem pl308 {k41 : Nat → Int32 → Int32 → St → Option St} (h : hT σ M = 11) (h17 : hI σ M 17 = nI d) (L : Int32) : f_X10_plainly_308 k41 M o L σ = k41 M o L (sI σ M 17 (nI (d + 1))) := by
  unfold f_X10_plainly_308
  rw [gI_k h, osb, h17, nI_1, pI_k h, osb]
theorem pl194_s {k41 : Nat → Int32 → Int32 → St → Option St} (D : Md σ M k c x0) (P : PSt σ M rg (nI s) d ms) (hs : s < 24) (h5 : c 1 s = 5) (a b L nx : Int32) : ∃ τ, f_X10_plainly_194 k41 M o L (nI s) a b M nx σ = k41 M o L τ ∧ FrP M σ τ ∧ PSt τ M rg nx (d + 1) (ms + (if nx = gsE c s then 0 else 1)) ∧ hI τ M 18 = hI σ M 18 := by
  obtain ⟨p1, p2, p3, p4, p5⟩ := P
  have D1 := D.setM (j := 16) nx
  obtain ⟨⟨a1, a2⟩, -⟩ := kar D1 hs
  unfold f_X10_plainly_194
  rw [pI_k D.1, osb, core_k D1, osb, a1, osb, a2, osb, if_pos h5, gI_k D1.1, osb, gI_k D1.1, osb, gues_k D1 hs, osb, hI_sIe, hI_sIn (Or.inr (by omega)), p5]
  dsimp only
  have h232 : ∀ v : Int32, ∃ τ, f_X10_plainly_232 k41 M o L M ms v (sI σ M 16 nx) = k41 M o L τ ∧ FrP M σ τ ∧ PSt τ M rg nx (d + 1) (ms + v) ∧ hI τ M 18 = hI σ M 18 := fun v => by
    unfold f_X10_plainly_232
    rw [pI_k D1.1, osb, pl308 (σ := sI (sI σ M 16 nx) M 19 (ms + v)) (d := d) D.1 (by rw [hI_sIn (Or.inr (by omega)), hI_sIn (Or.inr (by omega))]; exact p4)]
    refine ⟨_, rfl, ((FrP.s0 (by omega) (by omega)).trans (FrP.s0 (by omega) (by omega))).trans (FrP.s0 (by omega) (by omega)), ⟨p1, fun r h => ?_, ?_, hI_sIe, ?_⟩, ?_⟩
    · rw [hI_sIn (Or.inl (by omega)), hI_sIn (Or.inl (by omega)), hI_sIn (Or.inl (by omega))]; exact p2 r h
    · rw [hI_sIn (Or.inr (by omega)), hI_sIn (Or.inr (by omega)), hI_sIe]
    · rw [hI_sIn (Or.inr (by omega)), hI_sIe]
    · rw [hI_sIn (Or.inr (by omega)), hI_sIn (Or.inr (by omega)), hI_sIn (Or.inr (by omega))]
  by_cases hg : nx = gsE c s
  · rw [if_pos hg, if_pos hg]; exact h232 0
  · rw [if_neg hg, if_neg hg]; exact h232 1
theorem pl194_v {k41 : Nat → Int32 → Int32 → St → Option St} (D : Md σ M k c x0) (N : Cun c nu ng) (P : PSt σ M rg (nI s) d ms) (hs : s < 24) (h5 : ¬ c 1 s = 5) (h2 : isN (c 2 s) 8) (a b L nx : Int32) : ∃ τ, f_X10_plainly_194 k41 M o L (nI s) a b M nx σ = k41 M o L τ ∧ FrP M σ τ ∧ PSt τ M (ux rg (c 2 s).toNatClampNeg (vaP c nu o s a b)) nx (d + 1) ms ∧ hI τ M 18 = hI σ M 18 := by
  obtain ⟨p1, p2, p3, p4, p5⟩ := P
  obtain ⟨t, ht, et⟩ := h2
  have D1 := D.setM (j := 16) nx
  obtain ⟨⟨a1, a2⟩, ⟨b1, b2⟩, -⟩ := kar D1 hs
  have q1 : Fld (sI σ M 16 nx) M 15 (M + 2) 22 8 := p1
  have h307 : ∀ v : Int32, v = vaP c nu o s a b → ∃ τ, f_X10_plainly_307 k41 M o L (M + 2) (c 2 s) v (sI σ M 16 nx) = k41 M o L τ ∧ FrP M σ τ ∧ PSt τ M (ux rg (c 2 s).toNatClampNeg (vaP c nu o s a b)) nx (d + 1) ms ∧ hI τ M 18 = hI σ M 18 := fun v hv => by
    rw [← hv]
    unfold f_X10_plainly_307
    rw [et, xI_k q1.2.1 q1.2.2 ht (by omega), osb, pl308 (σ := sI (sI σ M 16 nx) (M + 2) t v) (d := d) D.1 (by rw [hI_sIn (Or.inl (by omega)), hI_sIn (Or.inr (by omega))]; exact p4), nI_clamp (by omega)]
    refine ⟨_, rfl, ((FrP.s0 (by omega) (by omega)).trans FrP.s2).trans (FrP.s0 (by omega) (by omega)), ⟨p1, fun r h => ?_, ?_, hI_sIe, ?_⟩, ?_⟩
    · rw [hI_sIn (Or.inl (by omega))]
      by_cases e : r = t
      · subst e; rw [hI_sIe, ux_e]
      · rw [hI_sIn (Or.inr e), hI_sIn (Or.inl (by omega)), ux_n e]; exact p2 r h
    · rw [hI_sIn (Or.inr (by omega)), hI_sIn (Or.inl (by omega)), hI_sIe]
    · rw [hI_sIn (Or.inr (by omega)), hI_sIn (Or.inl (by omega)), hI_sIn (Or.inr (by omega))]; exact p5
    · rw [hI_sIn (Or.inr (by omega)), hI_sIn (Or.inl (by omega)), hI_sIn (Or.inr (by omega))]
  unfold f_X10_plainly_194
  rw [pI_k D.1, osb, core_k D1, osb, a1, osb, a2, osb, if_neg h5, q1.r D1.1, osb, osb, b1, osb, b2, osb, osb, a1, osb, a2, osb]
  by_cases h0 : c 1 s = 0
  · rw [if_pos h0, sb_k D1 N hs, osb]
    exact h307 _ (by unfold vaP; rw [if_pos h0])
  · rw [if_neg h0, osb, a1, osb, a2, osb]
    by_cases h4 : c 1 s = 4
    · rw [if_pos h4]
      exact h307 _ (by unfold vaP; rw [if_neg h0, if_pos h4])
    · rw [if_neg h4, osb, a1, osb, a2, osb, com_k, osb]
      exact h307 _ (by unfold vaP; rw [if_neg h0, if_neg h4])
end Plain4
