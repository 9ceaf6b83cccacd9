/-! THE PLAIN MACHINE: the reference's, whole -/
section Plain5
variable {σ τ υ : St} {M k : Nat} {c : Nat → Nat → Int32} {m : Nat} {x x0 : Nat → Int32} {n nc s nu ng d : Nat} {o ms nx : Int32} {rg : Nat → Int32} {S : Nat → Prop}
theorem pe_f : peE c (rg, nx, d, ms, false) = if nx < 0 ∨ c 0 5 ≤ nx then 0 else 2 := rfl
theorem pe_t : peE c (rg, nx, d, ms, true) = 1 := rfl
theorem pl100 {k41 : Nat → Int32 → Int32 → St → Option St} (D : Md σ M k c x0) (C : Cok c m) (P : PSt σ M rg nx d ms) (hs : s < m) (a L : Int32) : f_X10_plainly_100 k41 M o L (nI s) a σ = f_X10_plainly_132 k41 M o L (nI s) a (rdP rg (c 4 s)) σ := by
  have hm := C.1
  obtain ⟨-, -, -, ⟨a1, a2⟩, -⟩ := kar D (show s < 24 by omega)
  have h4 := (C.2.2.2.2.2.2 s hs).2.2.2.1
  unfold f_X10_plainly_100
  rw [core_k D, osb, crd_k D (by omega), osb]
  dsimp only
  by_cases h : c 1 s = 0 ∨ c 1 s = 4
  · rw [if_pos h] at h4
    have e : rdP rg (c 4 s) = 0 := by unfold rdP; rw [if_pos h4]
    rw [e]
    by_cases h0 : c 1 s = 0
    · rw [if_pos h0, if_pos (by decide)]
    · rw [if_neg h0, if_pos (h.resolve_left h0), if_pos (by decide)]
  · rw [if_neg h] at h4
    obtain ⟨w, hw, ew⟩ := h4
    have e : rdP rg (c 4 s) = rg w := by unfold rdP; rw [ew, if_neg (nI_nm1 (by omega)), nI_clamp (by omega)]
    rw [if_neg (fun q => h (Or.inl q)), if_neg (fun q => h (Or.inr q)), if_neg (by decide), P.1.r D.1, osb, core_k D, osb, a1, osb, a2, osb, ew, P.1.g hw (by omega), osb, P.2.1 w hw, ← e, ew]
theorem pl158 {k41 : Nat → Int32 → Int32 → St → Option St} (D : Md σ M k c x0) (hs : s < 24) (a b L : Int32) : f_X10_plainly_158 k41 M o L (nI s) a b σ = f_X10_plainly_194 k41 M o L (nI s) a b M (if c 1 s = 5 then nxE c s a b else nI s + 1) σ := by
  obtain ⟨⟨a1, a2⟩, -, -, -, ⟨b1, b2⟩, -⟩ := kar D hs
  unfold f_X10_plainly_158 f_X10_plainly_191
  rw [core_k D, osb, a1, osb, a2, osb]
  by_cases h5 : c 1 s = 5
  · rw [if_pos h5, if_pos h5]
    unfold nxE
    by_cases h : a = b
    · rw [if_pos h, if_pos h, osb, b1, osb, b2, osb]
    · rw [if_neg h, if_neg h]
  · rw [if_neg h5, if_neg h5]
theorem pl132 {k41 : Nat → Int32 → Int32 → St → Option St} (D : Md σ M k c x0) (hs : s < 24) (a b L : Int32) : f_X10_plainly_132 k41 M o L (nI s) a b σ = if c 1 s = 3 ∧ b = 0 then some (sI σ M 18 1) else f_X10_plainly_194 k41 M o L (nI s) a b M (if c 1 s = 5 then nxE c s a b else nI s + 1) σ := by
  obtain ⟨⟨a1, a2⟩, -⟩ := kar D hs
  rw [← pl158 D hs]
  unfold f_X10_plainly_132
  rw [core_k D, osb, a1, osb, a2, osb]
  by_cases h3 : c 1 s = 3
  · rw [if_pos h3]
    by_cases hb : b = 0
    · rw [if_pos hb, if_pos ⟨h3, hb⟩, pI_k D.1, osb]
    · rw [if_neg hb, if_neg (fun h => hb h.2)]
  · rw [if_neg h3, if_neg (fun h => h3 h.1)]
theorem ply_l (C : Cok c m) (N : Cun c nu ng) {L : Nat} (hL : L ≤ 300) : ∀ (q d fu : Nat) (σ : St) (rg : Nat → Int32) (nx ms : Int32), d + q = L → q < fu → Md σ M k c x0 → PSt σ M rg nx d ms → hI σ M 18 = 2 → ∃ τ, f_X10_plainly_41 fu M o (nI L) σ = some τ ∧ FrP M σ τ ∧ PEn τ M c (plK c nu o q rg nx d ms)
  | 0, d, fu, σ, rg, nx, ms, hq, hf, D, P, h18 => by
    obtain ⟨f, rfl⟩ : ∃ f, fu = f + 1 := ⟨fu - 1, by omega⟩
    obtain rfl : d = L := by omega
    have e : plK c nu o 0 rg nx d ms = (rg, nx, d, ms, false) := rfl
    rw [e_X10_plainly_41, gI_k D.1, osb, P.2.2.2.1, if_pos (nI_le (Nat.le_refl _) (by omega)), core_k D, osb, gI_k D.1, osb, P.2.2.1, step_k D, osb, e]
    dsimp only
    by_cases ho : nx < 0 ∨ c 0 5 ≤ nx
    · rw [decide_eq_true ho, if_pos (by decide), pI_k D.1, osb]
      exact ⟨_, rfl, FrP.s0 (by omega) (by omega), P.s18 0, by rw [hI_sIe]; rw [pe_f, if_pos ho]⟩
    · rw [decide_eq_false ho, if_neg (by decide)]
      exact ⟨σ, rfl, FrP.refl, P, by rw [h18]; rw [pe_f, if_neg ho]⟩
  | q + 1, d, fu, σ, rg, nx, ms, hq, hf, D, P, h18 => by
    obtain ⟨f, rfl⟩ : ∃ f, fu = f + 1 := ⟨fu - 1, by omega⟩
    have hm := C.1
    rw [e_X10_plainly_41, gI_k D.1, osb, P.2.2.2.1, if_neg (nI_ge (by omega) (by omega)), gI_k D.1, osb, P.2.2.1, core_k D, osb, step_k D, osb]
    dsimp only
    rcases nx_cases nx C.1 C.2.1 with ho | ⟨s, hs, es, hn⟩
    · rw [decide_eq_true ho, if_pos (by decide), pI_k D.1, osb, plK_o ho]
      exact ⟨_, rfl, FrP.s0 (by omega) (by omega), P.s18 0, by rw [hI_sIe]; rw [pe_f, if_pos ho]⟩
    · subst es
      have h24 : s < 24 := by omega
      obtain ⟨-, -, ⟨a1, a2⟩, -⟩ := kar D h24
      rw [decide_eq_false hn, if_neg (by decide), core_k D, osb, crd_k D h24, osb, plK_in hs C.1 C.2.1]
      dsimp only
      have h3' := (C.2.2.2.2.2.2 s hs).2.2.1
      have hgo : ∀ a, a = rdP rg (c 3 s) → ∃ τ, f_X10_plainly_100 (f_X10_plainly_41 f) M o (nI L) (nI s) a σ = some τ ∧ FrP M σ τ ∧ PEn τ M c (if c 1 s = 5 then plK c nu o q rg (nxE c s (rdP rg (c 3 s)) (rdP rg (c 4 s))) (d + 1) (ms + (if nxE c s (rdP rg (c 3 s)) (rdP rg (c 4 s)) = gsE c s then 0 else 1)) else if c 1 s = 3 ∧ rdP rg (c 4 s) = 0 then (rg, nI s, d, ms, true) else plK c nu o q (ux rg (c 2 s).toNatClampNeg (vaP c nu o s (rdP rg (c 3 s)) (rdP rg (c 4 s)))) (nI s + 1) (d + 1) ms) := fun a ha => by
        subst ha
        rw [pl100 D C P hs, pl132 D h24]
        by_cases h3 : c 1 s = 3 ∧ rdP rg (c 4 s) = 0
        · rw [if_pos h3, if_neg (by rw [h3.1]; decide), if_pos h3]
          exact ⟨_, rfl, FrP.s0 (by omega) (by omega), P.s18 1, by rw [hI_sIe, pe_t]⟩
        · rw [if_neg h3]
          by_cases h5 : c 1 s = 5
          · rw [if_pos h5, if_pos h5]
            obtain ⟨τ, t1, t2, t3, t4⟩ := pl194_s (o := o) (k41 := f_X10_plainly_41 f) D P h24 h5 (rdP rg (c 3 s)) (rdP rg (c 4 s)) (nI L) (nxE c s (rdP rg (c 3 s)) (rdP rg (c 4 s)))
            rw [t1]
            obtain ⟨υ, u1, u2, u3⟩ := ply_l C N hL q (d + 1) f τ _ _ _ (by omega) (by omega) (D.frP t2) t3 (by rw [t4]; exact h18)
            exact ⟨υ, u1, t2.trans u2, u3⟩
          · rw [if_neg h5, if_neg h5, if_neg h3]
            have h2 := (C.2.2.2.2.2.2 s hs).2.1
            rw [if_neg h5] at h2
            obtain ⟨τ, t1, t2, t3, t4⟩ := pl194_v (o := o) (k41 := f_X10_plainly_41 f) D N P h24 h5 h2 (rdP rg (c 3 s)) (rdP rg (c 4 s)) (nI L) (nI s + 1)
            rw [t1]
            obtain ⟨υ, u1, u2, u3⟩ := ply_l C N hL q (d + 1) f τ _ _ _ (by omega) (by omega) (D.frP t2) t3 (by rw [t4]; exact h18)
            exact ⟨υ, u1, t2.trans u2, u3⟩
      by_cases h0 : c 1 s = 0
      · rw [if_pos h0] at h3'
        rw [if_pos h0, if_pos (by decide)]
        exact hgo 0 (by unfold rdP; rw [if_pos h3'])
      · rw [if_neg h0] at h3'
        obtain ⟨w, hw, ew⟩ := h3'
        rw [if_neg h0, if_neg (by split <;> decide), P.1.r D.1, osb, core_k D, osb, a1, osb, a2, osb, ew, P.1.g hw (by omega), osb, P.2.1 w hw]
        rw [ew] at hgo
        exact hgo _ (by unfold rdP; rw [if_neg (nI_nm1 (by omega)), nI_clamp (by omega)])
theorem ply0 (D : Md σ M k c x0) (P : Fld σ M 15 (M + 2) 22 8) (y : Nat → Int32) (L : Int32) : ∀ (q i fu : Nat), i + q = 8 → q < fu → f_X10_plainly_2 fu M o L (nI i) (sR σ (M + 2) (fil y 0 (fun _ => 0) i)) = f_X10_plainly_2 (0 + 1) M o L 8 (sR σ (M + 2) (fil y 0 (fun _ => 0) 8))
  | 0, i, fu, hi, hf => by
    obtain ⟨f, rfl⟩ : ∃ f, fu = f + 1 := ⟨fu - 1, by omega⟩
    obtain rfl : i = 8 := by omega
    rw [e_X10_plainly_2 f, e_X10_plainly_2 0, if_pos (by decide), if_pos (by decide)]
  | q + 1, i, fu, hi, hf => by
    obtain ⟨f, rfl⟩ : ∃ f, fu = f + 1 := ⟨fu - 1, by omega⟩
    have ih := ply0 D P y L q (i + 1) f (by omega) (by omega)
    rw [fil_s, Nat.zero_add, ← nI_1] at ih
    rw [e_X10_plainly_2 f, if_neg (show ¬ (8 : Int32) ≤ nI i from nI_ge (a := i) (b := 8) (by omega) (by omega)), gR_k (σ := sR σ (M + 2) (fil y 0 (fun _ => 0) i)) D.1 P.1, osb, ws_r P.2.1 P.2.2 (by omega) (by omega), osb]
    exact ih
theorem ply_k (D : Md σ M k c x0) (C : Cok c m) (N : Cun c nu ng) (P : Fld σ M 15 (M + 2) 22 8) {L : Nat} (hL : L ≤ 300) : ∃ τ, f_X10_plainly M o (nI L) σ = some τ ∧ FrP M σ τ ∧ PEn τ M c (plE c nu o L) := by
  have h0 := ply0 (o := o) D P (hI σ (M + 2)) (nI L) 8 0 FU (by omega) (by unfold FU; omega)
  rw [fil_0, sR_id, nI_0] at h0
  unfold f_X10_plainly f_X10_plainly_0
  rw [if_pos D.1, h0, e_X10_plainly_2, if_pos (by decide)]
  have F1 : FrP M σ (sR σ (M + 2) (fil (hI σ (M + 2)) 0 (fun _ => 0) 8)) := ⟨Fr.r0 (Or.inr rfl), fun q _ => by rw [hI_sRn (by omega)]⟩
  have r1 : ∀ r, r < 8 → hI (sR σ (M + 2) (fil (hI σ (M + 2)) 0 (fun _ => 0) 8)) (M + 2) r = 0 := fun r h => by
    rw [hI_sRe]; unfold fil; rw [if_pos (by omega)]
  generalize sR σ (M + 2) (fil (hI σ (M + 2)) 0 (fun _ => 0) 8) = σ1 at F1 r1 ⊢
  have D1 := D.frP F1
  have P1 : Fld σ1 M 15 (M + 2) 22 8 := P.fr F1.1
  rw [pI_k D1.1, osb, pI_k (σ := sI σ1 M 16 0) D1.1, osb, pI_k (σ := sI (sI σ1 M 16 0) M 17 0) D1.1, osb, pI_k (σ := sI (sI (sI σ1 M 16 0) M 17 0) M 19 0) D1.1, osb]
  have F5 : FrP M σ (sI (sI (sI (sI σ1 M 16 0) M 17 0) M 19 0) M 18 2) := (((F1.trans (FrP.s0 (by omega) (by omega))).trans (FrP.s0 (by omega) (by omega))).trans (FrP.s0 (by omega) (by omega))).trans (FrP.s0 (by omega) (by omega))
  obtain ⟨τ, t1, t2, t3⟩ := ply_l (o := o) (L := L) (k := k) (x0 := x0) C N hL L 0 FU (sI (sI (sI (sI σ1 M 16 0) M 17 0) M 19 0) M 18 2) (fun _ => 0) 0 0 (by omega) (by unfold FU; omega) (D.frP F5) ⟨P.fr F5.1, fun r h => by
    rw [hI_sIn (Or.inl (by omega)), hI_sIn (Or.inl (by omega)), hI_sIn (Or.inl (by omega)), hI_sIn (Or.inl (by omega))]; exact r1 r h, by simp [hI_sI], by simp [hI_sI, nI_0], by simp [hI_sI]⟩ hI_sIe
  have hR : plK c nu o L (fun _ => 0) 0 0 0 = plE c nu o L := by unfold plE; rfl
  rw [hR] at t3
  exact ⟨τ, t1, F5.trans t2, t3⟩
end Plain5
