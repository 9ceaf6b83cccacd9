/-! THE PLAIN MACHINE: the class plays -/
section Plain2
variable {σ τ υ : St} {a p y : Nat} {c : Nat → Nat → Int32} {m : Nat} {x : Nat → Int32} {n nc s nu ng d : Nat} {o ms : Int32} {rg : Nat → Int32}
theorem div_cm {u v : Nat} (hu : u < 10000) (hv : v < 10000) (h0 : ¬ nI v = 0) : nI u / nI v = cmE 3 (nI u) (nI v) := by
  have hv0 : 0 < v := by
    rcases Nat.eq_zero_or_pos v with h | h
    · exact absurd (by rw [h]; rfl) h0
    · exact h
  have hq : u / v < 10000 := Nat.lt_of_le_of_lt (Nat.div_le_self u v) hu
  unfold cmE
  rw [if_neg (by decide), if_neg (by decide), if_neg h0, pk_div (by omega) hv0 (by omega), rem_ok (by omega), Nat.mod_eq_of_lt hq]
/-- the state of a play -/
def LR (σ : St) (y : Nat) (rg : Nat → Int32) (nx : Int32) (d : Nat) (ms : Int32) : Prop := LSh σ y ∧ (∀ r, r < 8 → hI σ (y + 1) r = rg r) ∧ hI σ y 1 = nI d ∧ hI σ y 2 = nx ∧ hI σ y 3 = ms
theorem cok_34 (C : Cok c m) (hs : s < m) : (c 3 s = -1 ∨ isN (c 3 s) 8) ∧ (c 4 s = -1 ∨ isN (c 4 s) 8) := by
  obtain ⟨-, -, h3, h4, -⟩ := C.2.2.2.2.2.2 s hs
  refine ⟨?_, ?_⟩
  · by_cases h : c 1 s = 0
    · rw [if_pos h] at h3; exact Or.inl h3
    · rw [if_neg h] at h3; exact Or.inr h3
  · by_cases h : c 1 s = 0 ∨ c 1 s = 4
    · rw [if_pos h] at h4; exact Or.inl h4
    · rw [if_neg h] at h4; exact Or.inr h4
theorem ps_skip (D : Mc σ a p c m x n nc) (hd : p + 10 < a) (hy : a + 6 < y) (hs : s < m) (L : LR σ y rg (nI s) d ms) (h4 : hI σ y 4 = 0) (h5 : c 1 s = 5) : ∃ τ, f_X4_playStep y p o σ = some τ ∧ Fr (inL y) σ τ ∧ LR τ y rg (nxE c s (rdP rg (c 3 s)) (rdP rg (c 4 s))) (d + 1) (ms + (if nxE c s (rdP rg (c 3 s)) (rdP rg (c 4 s)) = gsE c s then 0 else 1)) ∧ hI τ y 4 = 0 := by
  obtain ⟨H, hr, l1, l2, l3⟩ := L
  obtain ⟨C3, C4⟩ := cok_34 D.2.2.2.2.1 hs
  obtain ⟨⟨a1, a2⟩, -, ⟨b1, b2⟩, ⟨e1, e2⟩, -⟩ := D.pr hs
  have hin : inL y y := ⟨by omega, by omega⟩
  unfold f_X4_playStep f_X4_playStep_0
  rw [if_pos H.1, gI_k H.1, osb, l2, b1, osb, b2, osb, read_c H hr C3, osb]
  dsimp only
  rw [e1, osb, e2, osb, read_c H hr C4, osb]
  dsimp only
  rw [a1, osb, a2, osb, if_pos h5, nxb_c D hs, osb, if_pos h5]
  dsimp only
  generalize nxE c s (rdP rg (c 3 s)) (rdP rg (c 4 s)) = nx
  rw [pI_k H.1, osb]
  have F1 : Fr (inL y) σ (sI σ y 2 nx) := Fr.s0 hin
  have H1 := H.fr F1
  have D1 := D.hi hd F1 (fun r h => by have := h.1; omega)
  have k1 : hI (sI σ y 2 nx) y 1 = nI d := by rw [hI_sIn (Or.inr (by omega))]; exact l1
  have k2 : hI (sI σ y 2 nx) y 2 = nx := hI_sIe
  have k3 : hI (sI σ y 2 nx) y 3 = ms := by rw [hI_sIn (Or.inr (by omega))]; exact l3
  have k4 : hI (sI σ y 2 nx) y 4 = 0 := by rw [hI_sIn (Or.inr (by omega))]; exact h4
  have kr : ∀ r, r < 8 → hI (sI σ y 2 nx) (y + 1) r = rg r := fun r h => by rw [hI_sIn (Or.inl (by omega))]; exact hr r h
  generalize sI σ y 2 nx = ω at F1 H1 D1 k1 k2 k3 k4 kr ⊢
  rw [gI_k H1.1, osb, gI_k H1.1, osb, k3, k2, gsb_c D1 hs, osb]
  dsimp only
  have h74 : ∀ v : Int32, ∃ τ, f_X4_playStep_74 y y ms v ω = some τ ∧ Fr (inL y) σ τ ∧ LR τ y rg nx (d + 1) (ms + v) ∧ hI τ y 4 = 0 := fun v => by
    unfold f_X4_playStep_74
    rw [pI_k H1.1, osb, gI_k (σ := sI ω y 3 (ms + v)) H1.1, osb, hI_sIn (Or.inr (by omega)), k1, nI_1, pI_k (σ := sI ω y 3 (ms + v)) H1.1, osb]
    have F3 := Fr.st (k := 1) (v := nI (d + 1)) (Fr.st (k := 3) (v := ms + v) F1 hin) hin
    refine ⟨_, rfl, F3, ⟨H.fr F3, fun r h => ?_, hI_sIe, ?_, ?_⟩, ?_⟩
    · rw [hI_sIn (Or.inl (by omega)), hI_sIn (Or.inl (by omega))]; exact kr r h
    · rw [hI_sIn (Or.inr (by omega)), hI_sIn (Or.inr (by omega))]; exact k2
    · rw [hI_sIn (Or.inr (by omega)), hI_sIe]
    · rw [hI_sIn (Or.inr (by omega)), hI_sIn (Or.inr (by omega))]; exact k4
  by_cases hg : nx = gsE c s
  · rw [if_pos hg, if_pos hg]; exact h74 0
  · rw [if_neg hg, if_neg hg]; exact h74 1
theorem ps_trap (D : Mc σ a p c m x n nc) (hs : s < m) (L : LR σ y rg (nI s) d ms) (h3 : c 1 s = 3) (hb : rdP rg (c 4 s) = 0) : ∃ τ, f_X4_playStep y p o σ = some τ ∧ Fr (inL y) σ τ ∧ LR τ y rg (nI s) d ms ∧ hI τ y 4 = 1 := by
  obtain ⟨H, hr, l1, l2, l3⟩ := L
  obtain ⟨C3, C4⟩ := cok_34 D.2.2.2.2.1 hs
  obtain ⟨⟨a1, a2⟩, -, ⟨b1, b2⟩, ⟨e1, e2⟩, -⟩ := D.pr hs
  have hin : inL y y := ⟨by omega, by omega⟩
  unfold f_X4_playStep f_X4_playStep_0
  rw [if_pos H.1, gI_k H.1, osb, l2, b1, osb, b2, osb, read_c H hr C3, osb]
  dsimp only
  rw [e1, osb, e2, osb, read_c H hr C4, osb]
  dsimp only
  rw [a1, osb, a2, osb, if_neg (by rw [h3]; decide), osb, a2, osb, if_neg (by rw [h3]; decide)]
  unfold f_X4_playStep_103 f_X4_playStep_128
  rw [if_pos rfl, out_c D hs (by rw [h3]; decide), osb, if_pos h3, if_pos hb]
  dsimp only
  rw [if_pos rfl, pZ_k H.1 (Or.inr rfl), osb]
  have F3 : Fr (inL y) σ (sI σ y 4 1) := Fr.s0 hin
  refine ⟨_, rfl, F3, ⟨H.fr F3, fun r h => ?_, ?_, ?_, ?_⟩, hI_sIe⟩
  · rw [hI_sIn (Or.inl (by omega))]; exact hr r h
  · rw [hI_sIn (Or.inr (by omega))]; exact l1
  · rw [hI_sIn (Or.inr (by omega))]; exact l2
  · rw [hI_sIn (Or.inr (by omega))]; exact l3
theorem ps_128 (D : Mc σ a p c m x n nc) (hs : s < m) (L : LR σ y rg (nI s) d ms) (h4 : hI σ y 4 = 0) (h5 : ¬ c 1 s = 5) {v : Int32} (hv : isN v 10000) : ∃ τ, f_X4_playStep_128 y p (nI s) v σ = some τ ∧ Fr (inL y) σ τ ∧ LR τ y (ux rg (c 2 s).toNatClampNeg v) (nI s + 1) (d + 1) ms ∧ hI τ y 4 = 0 := by
  obtain ⟨H, hr, l1, l2, l3⟩ := L
  obtain ⟨-, ⟨b1, b2⟩, -⟩ := D.pr hs
  have hin : inL y y := ⟨by omega, by omega⟩
  have h2 := (D.2.2.2.2.1.2.2.2.2.2.2 s hs).2.1
  rw [if_neg h5] at h2
  obtain ⟨t, ht, et⟩ := h2
  obtain ⟨w, hw, ew⟩ := hv
  unfold f_X4_playStep_128
  rw [if_neg (by rw [ew]; exact nI_nm1 (by omega)), H.2.r H.1, osb, b1, osb, b2, osb, et, xI_k H.2.2.1 H.2.2.2 ht (by omega), osb, nI_clamp (by omega)]
  have F1 : Fr (inL y) σ (sI σ (y + 1) t v) := Fr.s0 ⟨by omega, by omega⟩
  have H1 := H.fr F1
  have F2 : Fr (inL y) σ (sI (sI σ (y + 1) t v) y 2 (nI s + 1)) := Fr.st F1 hin
  have H2 := H.fr F2
  rw [pI_k H1.1, osb, gI_k H2.1, osb, hI_sIn (Or.inr (by omega)), hI_sIn (Or.inl (by omega)), l1, nI_1 d, pI_k H2.1, osb]
  have F3 := Fr.st (k := 1) (v := nI (d + 1)) F2 hin
  refine ⟨_, rfl, F3, ⟨H.fr F3, fun r h => ?_, hI_sIe, ?_, ?_⟩, ?_⟩
  · rw [hI_sIn (Or.inl (by omega)), hI_sIn (Or.inl (by omega))]
    by_cases e : r = t
    · subst e; rw [hI_sIe, ux_e]
    · rw [hI_sIn (Or.inr e), ux_n e]; exact hr r h
  · rw [hI_sIn (Or.inr (by omega)), hI_sIe]
  · rw [hI_sIn (Or.inr (by omega)), hI_sIn (Or.inr (by omega)), hI_sIn (Or.inl (by omega))]; exact l3
  · rw [hI_sIn (Or.inr (by omega)), hI_sIn (Or.inr (by omega)), hI_sIn (Or.inl (by omega))]; exact h4
theorem ps_go (D : Mc σ a p c m x n nc) (N : Cun c nu ng) (hs : s < m) (L : LR σ y rg (nI s) d ms) (G : Prg rg) (h4 : hI σ y 4 = 0) (h5 : ¬ c 1 s = 5) (h3 : ¬ (c 1 s = 3 ∧ rdP rg (c 4 s) = 0)) : ∃ τ, f_X4_playStep y p o σ = some τ ∧ Fr (inL y) σ τ ∧ LR τ y (ux rg (c 2 s).toNatClampNeg (vaP c nu o s (rdP rg (c 3 s)) (rdP rg (c 4 s)))) (nI s + 1) (d + 1) ms ∧ hI τ y 4 = 0 ∧ Prg (ux rg (c 2 s).toNatClampNeg (vaP c nu o s (rdP rg (c 3 s)) (rdP rg (c 4 s)))) := by
  have L' := L
  obtain ⟨H, hr, l1, l2, l3⟩ := L
  have C := D.2.2.2.2.1
  obtain ⟨C3, C4⟩ := cok_34 C hs
  obtain ⟨⟨a1, a2⟩, -, ⟨b1, b2⟩, ⟨e1, e2⟩, -⟩ := D.pr hs
  obtain ⟨u, hu, eu⟩ := rd_ok G C3
  obtain ⟨v, hv, ev⟩ := rd_ok G C4
  have hok : isN (vaP c nu o s (rdP rg (c 3 s)) (rdP rg (c 4 s))) 10000 := by
    rw [eu, ev]
    exact va_ok C N hs hu hv (by rw [← ev]; exact h3)
  obtain ⟨τ, t1, t2, t3, t4⟩ := ps_128 D hs L' h4 h5 hok
  refine ⟨τ, ?_, t2, t3, t4, fun r h => ?_⟩
  · unfold f_X4_playStep f_X4_playStep_0
    rw [if_pos H.1, gI_k H.1, osb, l2, b1, osb, b2, osb, read_c H hr C3, osb]
    dsimp only
    rw [e1, osb, e2, osb, read_c H hr C4, osb]
    dsimp only
    rw [a1, osb, a2, osb, if_neg h5, osb, a2, osb]
    unfold f_X4_playStep_103
    by_cases h0 : c 1 s = 0
    · rw [if_pos h0, if_neg (by decide), nb_c D N hs, osb]
      dsimp only
      rw [← t1]
      unfold vaP
      rw [if_pos h0]
    · rw [if_neg h0, if_pos rfl, out_c D hs h5, osb]
      dsimp only
      rw [← t1]
      congr 1
      unfold vaP ouE
      rw [if_neg h0, if_neg h0]
      by_cases hk : c 1 s = 3
      · have hb : ¬ rdP rg (c 4 s) = 0 := fun e => h3 ⟨hk, e⟩
        rw [if_pos hk, if_neg hb, if_neg (by rw [hk]; decide), hk, eu, ev]
        rw [ev] at hb
        exact div_cm hu hv hb
      · rw [if_neg hk]
  · by_cases e : r = (c 2 s).toNatClampNeg
    · subst e; rw [ux_e]; exact hok
    · rw [ux_n e]; exact G r h
end Plain2
