/-! THE PLAIN MACHINE: the class plays, whole -/
section Plain3
variable {σ τ υ : St} {a p y : Nat} {c : Nat → Nat → Int32} {m : Nat} {x : Nat → Int32} {n nc s nu ng d : Nat} {o ms : Int32} {rg : Nat → Int32}
theorem plK_o {q : Nat} {nx : Int32} (h : nx < 0 ∨ c 0 5 ≤ nx) : plK c nu o (q + 1) rg nx d ms = (rg, nx, d, ms, false) := by simp only [plK, if_pos h]
theorem plK_in {q : Nat} (hs : s < m) (hm : m ≤ 24) (hc : c 0 5 = nI m) : plK c nu o (q + 1) rg (nI s) d ms = (if c 1 s = 5 then plK c nu o q rg (nxE c s (rdP rg (c 3 s)) (rdP rg (c 4 s))) (d + 1) (ms + (if nxE c s (rdP rg (c 3 s)) (rdP rg (c 4 s)) = gsE c s then 0 else 1)) else
    if c 1 s = 3 ∧ rdP rg (c 4 s) = 0 then (rg, nI s, d, ms, true) else
    plK c nu o q (ux rg (c 2 s).toNatClampNeg (vaP c nu o s (rdP rg (c 3 s)) (rdP rg (c 4 s)))) (nI s + 1) (d + 1) ms) := by
  have h : ¬ (nI s < 0 ∨ c 0 5 ≤ nI s) := fun h => by
    rcases h with h | h
    · exact nI_pos (by omega) h
    · rw [hc] at h; exact nI_ge hs (by omega) h
  simp only [plK]
  rw [if_neg h, nI_clamp (by omega)]
theorem nx_cases (nx : Int32) (hm : m ≤ 24) (hc : c 0 5 = nI m) : (nx < 0 ∨ c 0 5 ≤ nx) ∨ ∃ s, s < m ∧ nx = nI s ∧ ¬ (nI s < 0 ∨ c 0 5 ≤ nI s) := by
  rcases pk_ix nx (n := m) (by omega) with h | h | ⟨s, hs, es⟩
  · exact Or.inl (Or.inl h)
  · exact Or.inl (Or.inr (by rw [hc]; exact h))
  · refine Or.inr ⟨s, hs, es, fun h => ?_⟩
    rcases h with h | h
    · exact nI_pos (by omega) h
    · rw [hc] at h; exact nI_ge hs (by omega) h
def LE (τ : St) (y : Nat) (R : (Nat → Int32) × Int32 × Nat × Int32 × Bool) : Prop := LR τ y R.1 R.2.1 R.2.2.1 R.2.2.2.1 ∧ hI τ y 4 = b2i R.2.2.2.2
theorem play_l (hd : p + 10 < a) (hy : a + 6 < y) (N : Cun c nu ng) {L : Nat} (hL : L ≤ 300) : ∀ (q d fu : Nat) (σ : St) (rg : Nat → Int32) (nx ms : Int32), d + q = L → q < fu → Mc σ a p c m x n nc → LR σ y rg nx d ms → Prg rg → hI σ y 4 = 0 → ∃ τ, f_X4_play_31 fu y p o (nI L) (nI d) σ = some τ ∧ Fr (inL y) σ τ ∧ LE τ y (plK c nu o q rg nx d ms) ∧ Prg (plK c nu o q rg nx d ms).1
  | 0, d, fu, σ, rg, nx, ms, hq, hf, D, H, G, h4 => by
    obtain ⟨f, rfl⟩ : ∃ f, fu = f + 1 := ⟨fu - 1, by omega⟩
    obtain rfl : d = L := by omega
    rw [e_X4_play_31, if_pos (nI_le (Nat.le_refl _) (by omega))]
    exact ⟨σ, rfl, Fr.refl, ⟨H, by rw [h4]; rfl⟩, G⟩
  | q + 1, d, fu, σ, rg, nx, ms, hq, hf, D, H, G, h4 => by
    obtain ⟨f, rfl⟩ : ∃ f, fu = f + 1 := ⟨fu - 1, by omega⟩
    have C := D.2.2.2.2.1
    rw [e_X4_play_31, if_neg (nI_ge (by omega) (by omega)), gI_k H.1.1, osb, H.2.2.2.1, has_c D, osb]
    dsimp only
    rcases nx_cases nx C.1 C.2.1 with ho | ⟨s, hs, es, hn⟩
    · rw [decide_eq_true ho, if_pos (by decide), plK_o ho]
      exact ⟨σ, rfl, Fr.refl, ⟨H, by rw [h4]; rfl⟩, G⟩
    · subst es
      rw [decide_eq_false hn, if_neg (by decide), gI_k H.1.1, osb, h4, if_pos rfl, plK_in hs C.1 C.2.1]
      by_cases h5 : c 1 s = 5
      · rw [if_pos h5]
        obtain ⟨τ, t1, t2, t3, t4⟩ := ps_skip (o := o) D hd hy hs H h4 h5
        rw [t1, osb, nI_1]
        obtain ⟨υ, u1, u2, u3⟩ := play_l hd hy N hL q (d + 1) f τ _ _ _ (by omega) (by omega) (D.hi hd t2 (fun r h => by have := h.1; omega)) t3 G t4
        exact ⟨υ, u1, t2.trans u2, u3⟩
      · rw [if_neg h5]
        by_cases h3 : c 1 s = 3 ∧ rdP rg (c 4 s) = 0
        · rw [if_pos h3]
          obtain ⟨τ, t1, t2, t3, t4⟩ := ps_trap (o := o) D hs H h3.1 h3.2
          have D1 := D.hi hd t2 (fun r h => by have := h.1; omega)
          obtain ⟨f', rfl⟩ : ∃ f', f = f' + 1 := ⟨f - 1, by omega⟩
          rw [t1, osb, nI_1, e_X4_play_31]
          refine ⟨τ, ?_, t2, ⟨t3, by rw [t4]; rfl⟩, G⟩
          by_cases hl : L ≤ d + 1
          · rw [if_pos (nI_le hl (by omega))]; rfl
          · rw [if_neg (nI_ge (by omega) (by omega)), gI_k t3.1.1, osb, t3.2.2.2.1, has_c D1, osb]
            dsimp only
            rw [decide_eq_false hn, if_neg (by decide), gI_k t3.1.1, osb, t4, if_neg (by decide)]
            rfl
        · rw [if_neg h3]
          obtain ⟨τ, t1, t2, t3, t4, t5⟩ := ps_go (o := o) D N hs H G h4 h5 h3
          rw [t1, osb, nI_1]
          obtain ⟨υ, u1, u2, u3⟩ := play_l hd hy N hL q (d + 1) f τ _ _ _ (by omega) (by omega) (D.hi hd t2 (fun r h => by have := h.1; omega)) t3 t5 t4
          exact ⟨υ, u1, t2.trans u2, u3⟩
/-- from the start -/
def plE (c : Nat → Nat → Int32) (nu : Nat) (o : Int32) (L : Nat) : (Nat → Int32) × Int32 × Nat × Int32 × Bool := plK c nu o L (fun _ => 0) 0 0 0
theorem play_c (D : Mc σ a p c m x n nc) (hd : p + 10 < a) (hy : a + 6 < y) (N : Cun c nu ng) {L : Nat} (hL : L ≤ 300) (H : LSh σ y) : ∃ τ, f_X4_play y p o (nI L) σ = some τ ∧ Fr (inL y) σ τ ∧ LE τ y (plE c nu o L) ∧ Prg (plE c nu o L).1 := by
  have hin : inL y y := ⟨by omega, by omega⟩
  unfold f_X4_play f_X4_play_0
  rw [if_pos H.1, H.2.r H.1, osb, fill_k H.2.2.1 H.2.2.2 (by omega) (by unfold aN; rw [if_pos (by rw [H.2.2.1]; omega), H.2.2.2]; rfl) 0, osb]
  have F1 : Fr (inL y) σ (sR σ (y + 1) (fil (hI σ (y + 1)) 0 (fun _ => 0) 8)) := Fr.r0 ⟨by omega, by omega⟩
  have r1 : ∀ r, r < 8 → hI (sR σ (y + 1) (fil (hI σ (y + 1)) 0 (fun _ => 0) 8)) (y + 1) r = 0 := fun r h => by
    rw [hI_sRe]; unfold fil; rw [if_pos (by omega)]
  generalize sR σ (y + 1) (fil (hI σ (y + 1)) 0 (fun _ => 0) 8) = σ1 at F1 r1 ⊢
  have H1 := H.fr F1
  rw [pI_k H1.1, osb, pI_k (σ := sI σ1 y 1 0) H1.1, osb, pI_k (σ := sI (sI σ1 y 1 0) y 2 0) H1.1, osb, pZ_k (σ := sI (sI (sI σ1 y 1 0) y 2 0) y 3 0) H1.1 (Or.inl rfl), osb]
  have F5 := Fr.st (k := 4) (v := 0) (Fr.st (k := 3) (v := 0) (Fr.st (k := 2) (v := 0) (Fr.st (k := 1) (v := 0) F1 hin) hin) hin) hin
  have L5 : LR (sI (sI (sI (sI σ1 y 1 0) y 2 0) y 3 0) y 4 0) y (fun _ => 0) 0 0 0 := ⟨H.fr F5, fun r h => by
    rw [hI_sIn (Or.inl (by omega)), hI_sIn (Or.inl (by omega)), hI_sIn (Or.inl (by omega)), hI_sIn (Or.inl (by omega))]; exact r1 r h, by simp [hI_sI, nI_0], by simp [hI_sI], by simp [hI_sI]⟩
  obtain ⟨τ, t1, t2, t3, t4⟩ := play_l (o := o) (L := L) hd hy N hL L 0 FU _ _ _ _ (by omega) (by unfold FU; omega) (D.hi hd F5 (fun r h => by have := h.1; omega)) L5 (fun r _ => ⟨0, by omega, rfl⟩) hI_sIe
  rw [nI_0] at t1
  have hR : plK c nu o L (fun _ => 0) 0 0 0 = plE c nu o L := by unfold plE; rfl
  rw [hR] at t3 t4
  exact ⟨τ, t1, F5.trans t2, t3, t4⟩
/-- which got isn't so -/
def wgE (c : Nat → Nat → Int32) (ng : Nat) (rg : Nat → Int32) : Option Nat := fstN (fun g => !decide (rg (c 9 g).toNatClampNeg = c 10 g)) ng
def o2m (q : Option Nat) : Int32 := match q with
  | some g => nI g
  | none => -2
theorem fng_l (D : Mc σ a p c m x n nc) (N : Cun c nu ng) (H : LSh σ y) (hr : ∀ r, r < 8 → hI σ (y + 1) r = rg r) : ∀ (q i fu : Nat), i + q = ng → q < fu → (∀ j, j < i → (!decide (rg (c 9 j).toNatClampNeg = c 10 j)) = false) → f_X4_firstNotGot_2 fu y p (nI i) σ = some (o2m (wgE c ng rg), σ)
  | 0, i, fu, hi, hf, ha => by
    obtain ⟨f, rfl⟩ : ∃ f, fu = f + 1 := ⟨fu - 1, by omega⟩
    obtain rfl : i = ng := by omega
    have h6 := N.2.2.1
    rw [e_X4_firstNotGot_2, D.g.2.2.2.2.2.2.2, osb, N.2.2.2.1, if_pos (nI_le (Nat.le_refl _) (by omega))]
    cases h : wgE c i rg with
    | none => rfl
    | some j => obtain ⟨h1, h2, -⟩ := fstN_some h; simp only [ha j h1] at h2; cases h2
  | q + 1, i, fu, hi, hf, ha => by
    obtain ⟨f, rfl⟩ : ∃ f, fu = f + 1 := ⟨fu - 1, by omega⟩
    have h6 := N.2.2.1
    have hg : nI i < c 0 7 := by rw [N.2.2.2.1]; exact nI_lt (by omega) (by omega)
    obtain ⟨S9, S10⟩ := D.2.2.2.1.2.2.2 i hg (by omega)
    have P9 := D.2.2.1.2.2.2.2.2.2.2.2.2.1
    have P10 := D.2.2.1.2.2.2.2.2.2.2.2.2.2
    obtain ⟨w, hw, ew⟩ := N.2.2.2.2.2.2 i (by omega)
    rw [e_X4_firstNotGot_2, D.g.2.2.2.2.2.2.2, osb, N.2.2.2.1, if_neg (nI_ge (by omega) (by omega)), H.2.r H.1, osb, P9.r D.2.2.1.1, osb, P9.g (by omega) (by omega), osb, S9, ew, H.2.g hw (by omega), osb, hr w hw, P10.r D.2.2.1.1, osb, P10.g (by omega) (by omega), osb, S10]
    by_cases h : rg w = c 10 i
    · rw [if_pos h, nI_1]
      exact fng_l D N H hr q (i + 1) f (by omega) (by omega) (fun j hj => by
        by_cases e : j = i
        · subst e; rw [ew, nI_clamp (by omega), decide_eq_true h]; rfl
        · exact ha j (by omega))
    · rw [if_neg h]
      unfold wgE
      rw [fstN_of (j := i) (by omega) (by rw [ew, nI_clamp (by omega), decide_eq_false h]; rfl) ha]
      rfl
theorem fng_c (D : Mc σ a p c m x n nc) (N : Cun c nu ng) (H : LSh σ y) (hr : ∀ r, r < 8 → hI σ (y + 1) r = rg r) : f_X4_firstNotGot y p σ = some (o2m (wgE c ng rg), σ) := by
  have h6 := N.2.2.1
  unfold f_X4_firstNotGot f_X4_firstNotGot_0
  rw [if_pos H.1, ← nI_0]
  exact fng_l D N H hr ng 0 FU (by omega) (by unfold FU; omega) (fun _ h => absurd h (Nat.not_lt_zero _))
end Plain3
