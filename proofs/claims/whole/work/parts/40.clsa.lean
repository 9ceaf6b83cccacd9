/-! THE CLASS: a Machine fetches, whole -/
theorem hI_sIu {σ : St} {b k : Nat} {v : Int32} : hI (sI σ b k v) b = ux (hI σ b) k v := by
  funext j
  by_cases h : j = k
  · rw [h, hI_sIe, ux_e]
  · rw [hI_sIn (Or.inr h), ux_n h]
section Clsa
variable {σ τ υ : St} {a p : Nat} {c : Nat → Nat → Int32} {m : Nat} {x y : Nat → Int32} {n n' nc : Nat}
theorem PSh.fr {S : Nat → Prop} (h : PSh σ p) (F : Fr S σ τ) : PSh τ p := by
  unfold PSh Fld at h ⊢; rw [F.1, F.2.1, F.2.2.1]; exact h
theorem MSh.fr {S : Nat → Prop} (h : MSh σ a) (F : Fr S σ τ) : MSh τ a := by
  unfold MSh Fld at h ⊢; rw [F.1, F.2.1, F.2.2.1]; exact h
theorem PR.fr (h : PR c m σ p) (F : Fr (inM a) σ τ) (hd : p + 10 < a) : PR c m τ p := by
  have e : ∀ q, q ≤ 10 → hI τ (p + q) = hI σ (p + q) := fun q hq => F.2.2.2.2.2 _ (fun h => by have := h.1; omega)
  have e0 : hI τ p = hI σ p := e 0 (by omega)
  unfold PR
  rw [e0, e 1 (by omega), e 2 (by omega), e 3 (by omega), e 4 (by omega), e 5 (by omega), e 6 (by omega), e 7 (by omega), e 8 (by omega), e 9 (by omega), e 10 (by omega)]
  exact h
theorem rsk_p (S : PSh σ p) (P : PR c m σ p) (hm : m ≤ 24) {s : Nat} (hs : s < m) : f_X5_isRisky p (nI s) σ = some (b2i (decide (c 1 s = 5) || decide (c 1 s = 3)), σ) := by
  have a1 := S.2.1.r S.1
  have a2 : aI 22 (p + 1) (nI s) σ = some (c 1 s) := by rw [S.2.1.g (by omega) (by omega), (P.2.1 s hs).1]
  unfold f_X5_isRisky f_X5_isRisky_0 f_X5_isRisky_20 f_X5_isRisky_25
  simp only [S.1, if_true, a1, a2, osb]
  by_cases h5 : c 1 s = 5
  · simp [h5, b2i]
  · by_cases h3 : c 1 s = 3 <;> simp [h5, h3, b2i]
theorem gsb_p (S : PSh σ p) (P : PR c m σ p) (hm : m ≤ 24) {s : Nat} (hs : s < m) : f_X5_guessBehind p (nI s) σ = some (gsE c s, σ) := by
  have a1 := S.2.1.r S.1
  have a2 : aI 22 (p + 1) (nI s) σ = some (c 1 s) := by rw [S.2.1.g (by omega) (by omega), (P.2.1 s hs).1]
  have b1 := S.2.2.2.2.2.1.r S.1
  have b2 : aI 22 (p + 5) (nI s) σ = some (c 5 s) := by rw [S.2.2.2.2.2.1.g (by omega) (by omega), (P.2.1 s hs).2.2.2.2.1]
  have e1 := S.2.2.2.2.2.2.1.r S.1
  have e2 : aI 23 (p + 6) (nI s) σ = some (c 6 s) := by rw [S.2.2.2.2.2.2.1.g (by omega) (by omega), (P.2.1 s hs).2.2.2.2.2]
  unfold f_X5_guessBehind f_X5_guessBehind_0 f_X5_guessBehind_28 f_X5_guessBehind_31 gsE
  simp only [S.1, if_true, a1, a2, b1, b2, e1, e2, osb]
  by_cases h5 : c 1 s = 5
  · by_cases h : c 6 s = 0 <;> simp [h5, h]
  · simp [h5]
theorem tk173 (H : MSh υ a) (hp : hP υ a 0 = some p) (S : PSh υ p) (P : PR c m υ p) (hm : m ≤ 24) (hd : p + 10 < a) {s : Nat} (hs : s < m) (hn : hI υ a 6 = nI n) (h12 : n < 12) : f_X3_take_173 a (nI s) (nI n) υ = some (nI s, sI (sI (sI υ (a + 3) n (nI s)) a 6 (nI (n + 1))) a 16 (gsE c s)) := by
  have F : Fr (inM a) υ (sI (sI υ (a + 3) n (nI s)) a 6 (nI (n + 1))) := Fr.st (Fr.s0 ⟨by omega, by omega⟩) ⟨by omega, by omega⟩
  unfold f_X3_take_173
  rw [H.2.2.2.1.r H.1, osb, xI_k H.2.2.2.1.2.1 H.2.2.2.1.2.2 h12 (by omega), osb, gI_k (show hT (sI υ (a + 3) n (nI s)) a = 4 from H.1), osb, hI_sIr (by omega), hn, nI_1, pI_k (show hT (sI υ (a + 3) n (nI s)) a = 4 from H.1), osb,
    gR_k (σ := sI (sI υ (a + 3) n (nI s)) a 6 (nI (n + 1))) H.1 hp, osb, gsb_p (S.fr F) (P.fr F hd) hm hs, osb]
  dsimp only
  rw [pI_k (σ := sI (sI υ (a + 3) n (nI s)) a 6 (nI (n + 1))) H.1, osb]
theorem tk150 (H : MSh υ a) (hp : hP υ a 0 = some p) (S : PSh υ p) (P : PR c m υ p) (hm : m ≤ 24) (hd : p + 10 < a) {s : Nat} (hs : s < m) (hn : hI υ a 6 = nI n) (h12 : n < 12) : ∃ τ, f_X3_take_150 a (nI s) (nI n) υ = some (nI s, τ) ∧ Fr (inM a) υ τ ∧ hI τ a 6 = nI (n + 1) ∧ hI τ a 16 = gsE c s ∧ (∀ j, j < 32 → bt (hI υ a 11) n = false → bt (hI τ a 11) j = if j = n then (decide (c 1 s = 5) || decide (c 1 s = 3)) else bt (hI υ a 11) j) ∧ (∀ q, q ≠ 6 → q ≠ 11 → q ≠ 16 → hI τ a q = hI υ a q) ∧ hI τ (a + 3) = ux (hI υ (a + 3)) n (nI s) ∧ ∀ r, r ≠ a → r ≠ a + 3 → hI τ r = hI υ r := by
  have hin : inM a a := ⟨Nat.le_refl a, by omega⟩
  unfold f_X3_take_150
  rw [gR_k H.1 hp, osb, rsk_p S P hm hs, osb]
  dsimp only
  cases hr : (decide (c 1 s = 5) || decide (c 1 s = 3)) with
  | false =>
    rw [if_pos (by simp [b2i]), tk173 H hp S P hm hd hs hn h12]
    refine ⟨_, rfl, Fr.st (Fr.st (Fr.s0 ⟨by omega, by omega⟩) hin) hin, ?_, hI_sIe, ?_, ?_, ?_, ?_⟩
    · rw [hI_sIn (Or.inr (by omega)), hI_sIe]
    · intro j hj h0
      rw [hI_sIn (Or.inr (by omega)), hI_sIn (Or.inr (by omega)), hI_sIr (by omega)]
      by_cases h : j = n
      · rw [if_pos h, h, h0]
      · rw [if_neg h]
    · intro q h1 h2 h3
      rw [hI_sIn (Or.inr h3), hI_sIn (Or.inr h1), hI_sIr (by omega)]
    · rw [hI_sIr (by omega), hI_sIr (by omega), hI_sIu]
    · intro r h1 h2
      rw [hI_sIr h1, hI_sIr h1, hI_sIr h2]
  | true =>
    rw [if_neg (by simp [b2i]), gI_k H.1, osb, pI_k H.1, osb]
    have F : Fr (inM a) υ (sI υ a 11 (hI υ a 11 ||| jshl 1 (nI n))) := Fr.s0 hin
    rw [tk173 (υ := sI υ a 11 (hI υ a 11 ||| jshl 1 (nI n))) (p := p) (c := c) (m := m) H hp (S.fr F) (P.fr F hd) hm hd hs (by rw [hI_sIn (Or.inr (by omega))]; exact hn) h12]
    refine ⟨_, rfl, Fr.st (Fr.st (Fr.st F ⟨by omega, by omega⟩) hin) hin, ?_, hI_sIe, ?_, ?_, ?_, ?_⟩
    · rw [hI_sIn (Or.inr (by omega)), hI_sIe]
    · intro j hj h0
      rw [hI_sIn (Or.inr (by omega)), hI_sIn (Or.inr (by omega)), hI_sIr (by omega), hI_sIe, or_sh (by omega) hj]
    · intro q h1 h2 h3
      rw [hI_sIn (Or.inr h3), hI_sIn (Or.inr h1), hI_sIr (by omega), hI_sIn (Or.inr h2)]
    · rw [hI_sIr (by omega), hI_sIr (by omega), hI_sIu, hI_sIr (by omega)]
    · intro r h1 h2
      rw [hI_sIr h1, hI_sIr h1, hI_sIr h2, hI_sIr h1]
theorem tk_skip (D : Mc σ a p c m x n nc) (hd : p + 10 < a) (h12 : n < 12) {s : Nat} (hs : s < m) (es : x 35 = nI s) {ω : St} (D14 : Mc ω a p c m x n nc) (F14 : Fr (inM a) σ ω) (k5 : hI ω (a + 5) = ux (hI σ (a + 5)) n (oneE c x n s)) (k6 : hI ω (a + 6) = ux (hI σ (a + 6)) n (twoE c x n s)) (kr : ∀ r, r ≠ a + 5 → r ≠ a + 6 → hI ω r = hI σ r) (h5 : c 1 s = 5) : ∃ τ, ((gR 4 8 a ω).bind fun x37 => (xI x37 (nI n) (-2) ω).bind fun σ38 => (f_X3_saveIfRoom a (nI n) σ38).bind fun σ39 => f_X3_take_150 a (nI s) (nI n) σ39) = some (nI s, τ) ∧ Fr (inM a) σ τ ∧ MR c (ft2 c (ft1 c x n nc s) n s (newE c x n nc s) (oneE c x n s) (twoE c x n s) (merE c x n s) (savE c x n s)) (n + 1) nc τ a := by
  have h24 := D.c24
  have hm : m ≤ 24 := D.2.2.2.2.1.1
  have hin : inM a a := ⟨Nat.le_refl a, by omega⟩
  have R := D.2.2.2.2.2.1
  have kA : hI ω a = hI σ a := kr a (by omega) (by omega)
  have bz : ∀ q, 11 ≤ q → q ≤ 15 → bt (hI σ a q) n = false := fun q h1 h2 => by
    have := R.2.2.2.2 n (by omega)
    obtain rfl | rfl | rfl | rfl | rfl : q = 11 ∨ q = 12 ∨ q = 13 ∨ q = 14 ∨ q = 15 := by omega
    all_goals simp [this]
  rw [D14.1.2.2.2.2.1.r D14.t, osb, xI_k D14.1.2.2.2.2.1.2.1 D14.1.2.2.2.2.1.2.2 h12 (by omega), osb]
  have D15 := D14.past hd (f := 4) (by omega) (by omega) (-2)
  rw [save_c D15 h5, osb]
  have hmg : merE c x n s = false := by simp [merE, h5]
  have hnew : newE c x n nc s = -2 := by simp [newE, h5]
  have hf1 : ft1 c x n nc s = x := by simp [ft1, h5]
  rw [hmg, hnew, hf1]
  generalize hφ : (if savE c x n s = true then sI (sI ω (a + 4) n (-2)) a 15 (hI (sI ω (a + 4) n (-2)) a 15 ||| jshl 1 (nI n)) else sI ω (a + 4) n (-2)) = φ
  have Fφ : Fr (inM a) (sI ω (a + 4) n (-2)) φ := by
    rw [← hφ]
    by_cases h : savE c x n s = true
    · rw [if_pos h]; exact Fr.s0 hin
    · rw [if_neg h]; exact Fr.refl
  have φr : ∀ r, r ≠ a → hI φ r = hI (sI ω (a + 4) n (-2)) r := fun r h => by
    rw [← hφ]
    by_cases h2 : savE c x n s = true
    · rw [if_pos h2, hI_sIr h]
    · rw [if_neg h2]
  have φq : ∀ q, q ≠ 15 → hI φ a q = hI σ a q := fun q h => by
    rw [← hφ]
    by_cases h2 : savE c x n s = true
    · rw [if_pos h2, hI_sIn (Or.inr h), hI_sIr (by omega), kA]
    · rw [if_neg h2, hI_sIr (by omega), kA]
  have φb : ∀ j, j < 32 → bt (hI φ a 15) j = if j = n then savE c x n s else bt (hI σ a 15) j := fun j hj => by
    rw [← hφ]
    by_cases h2 : savE c x n s = true
    · rw [if_pos h2, hI_sIe, or_sh (by omega) hj, hI_sIr (by omega), kA, h2]
    · rw [if_neg h2, hI_sIr (by omega), kA]
      by_cases h : j = n
      · rw [if_pos h, h, bz 15 (by omega) (by omega)]; cases hq : savE c x n s with
        | false => rfl
        | true => exact absurd hq h2
      · rw [if_neg h]
  have Fall : Fr (inM a) σ φ := (F14.trans (Fr.s0 ⟨by omega, by omega⟩)).trans Fφ
  obtain ⟨τ, t1, t2, t3, t4, t5, t6, t7, t8⟩ := tk150 (D.1.fr Fall) (by rw [Fall.2.2.1]; exact D.2.1) (D.2.2.1.fr Fall) (D.2.2.2.1.fr Fall hd) hm hd hs (by rw [φq 6 (by omega)]; exact R.1.2.2.2.1) h12
  refine ⟨τ, t1, Fall.trans t2, ?_⟩
  refine MR.fetch R h12 (by omega) (fun _ _ _ => rfl) ?_ ?_ ?_ t3 t4 ?_ ?_ ?_ ?_ ?_ ?_ ?_ ?_ ?_ (fun j hj => ⟨?_, ?_, ?_, ?_, ?_⟩)
  · rw [t6 1 (by omega) (by omega) (by omega), φq 1 (by omega)]
  · rw [t6 3 (by omega) (by omega) (by omega), φq 3 (by omega)]; exact R.1.2.1
  · rw [t6 5 (by omega) (by omega) (by omega), φq 5 (by omega)]; exact R.1.2.2.1
  · rw [t6 17 (by omega) (by omega) (by omega), φq 17 (by omega)]
  · rw [t6 18 (by omega) (by omega) (by omega), φq 18 (by omega)]
  · rw [t6 19 (by omega) (by omega) (by omega), φq 19 (by omega)]
  · rw [t8 _ (by omega) (by omega), φr _ (by omega), hI_sIr (by omega), kr _ (by omega) (by omega)]
  · rw [t8 _ (by omega) (by omega), φr _ (by omega), hI_sIr (by omega), kr _ (by omega) (by omega)]
  · rw [t7, φr _ (by omega), hI_sIr (by omega), kr _ (by omega) (by omega)]
  · rw [t8 _ (by omega) (by omega), φr _ (by omega), hI_sIu, kr _ (by omega) (by omega)]
  · rw [t8 _ (by omega) (by omega), φr _ (by omega), hI_sIr (by omega), k5]
  · rw [t8 _ (by omega) (by omega), φr _ (by omega), hI_sIr (by omega), k6]
  · rw [t5 j hj (by rw [φq 11 (by omega)]; exact bz 11 (by omega) (by omega)), φq 11 (by omega)]
  · rw [t6 12 (by omega) (by omega) (by omega), φq 12 (by omega)]
    by_cases h : j = n
    · rw [if_pos h, h, bz 12 (by omega) (by omega)]
    · rw [if_neg h]
  · rw [t6 13 (by omega) (by omega) (by omega), φq 13 (by omega)]
  · rw [t6 14 (by omega) (by omega) (by omega), φq 14 (by omega)]
    by_cases h : j = n
    · rw [if_pos h, h, bz 14 (by omega) (by omega)]
    · rw [if_neg h]
  · rw [t6 15 (by omega) (by omega) (by omega), φb j hj]
theorem tk_mrg (D : Mc σ a p c m x n nc) (hd : p + 10 < a) (h12 : n < 12) {s : Nat} (hs : s < m) (es : x 35 = nI s) {ω : St} (D14 : Mc ω a p c m x n nc) (F14 : Fr (inM a) σ ω) (k5 : hI ω (a + 5) = ux (hI σ (a + 5)) n (oneE c x n s)) (k6 : hI ω (a + 6) = ux (hI σ (a + 6)) n (twoE c x n s)) (kr : ∀ r, r ≠ a + 5 → r ≠ a + 6 → hI ω r = hI σ r) (h5 : ¬ c 1 s = 5) (hmg : merE c x n s = true) : ∃ τ, ((gR 4 8 a ω).bind fun x29 => (gR 4 9 a ω).bind fun x30 => (aI 22 x30 (nI n) ω).bind fun x31 => (xI x29 (nI n) x31 ω).bind fun σ32 => (gI 4 14 a σ32).bind fun x33 => (pI 4 14 a (x33 ||| jshl 1 (nI n)) σ32).bind fun σ34 => (gI 4 12 a σ34).bind fun x35 => (pI 4 12 a (x35 ||| jshl 1 (nI n)) σ34).bind fun σ36 => f_X3_take_150 a (nI s) (nI n) σ36) = some (nI s, τ) ∧ Fr (inM a) σ τ ∧ MR c (ft2 c (ft1 c x n nc s) n s (newE c x n nc s) (oneE c x n s) (twoE c x n s) true false) (n + 1) nc τ a := by
  have h24 := D.c24
  have hm : m ≤ 24 := D.2.2.2.2.1.1
  have hin : inM a a := ⟨Nat.le_refl a, by omega⟩
  have R := D.2.2.2.2.2.1
  have kA : hI ω a = hI σ a := kr a (by omega) (by omega)
  have bz : ∀ q, 11 ≤ q → q ≤ 15 → bt (hI σ a q) n = false := fun q h1 h2 => by
    have := R.2.2.2.2 n (by omega)
    obtain rfl | rfl | rfl | rfl | rfl : q = 11 ∨ q = 12 ∨ q = 13 ∨ q = 14 ∨ q = 15 := by omega
    all_goals simp [this]
  rw [D14.1.2.2.2.2.1.r D14.t, osb, D14.1.2.2.2.2.2.1.r D14.t, osb, aI_k D14.1.2.2.2.2.2.1.2.1 D14.1.2.2.2.2.2.1.2.2 h12 (by omega), osb, k5, ux_e, xI_k D14.1.2.2.2.2.1.2.1 D14.1.2.2.2.2.1.2.2 h12 (by omega), osb]
  have hnew : newE c x n nc s = oneE c x n s := by simp [newE, h5, hmg]
  have hf1 : ft1 c x n nc s = x := by simp [ft1, hmg]
  rw [hnew, hf1]
  have u0 : hT (sI ω (a + 4) n (oneE c x n s)) a = 4 := D14.t
  rw [gI_k u0, osb, pI_k u0, osb, gI_k (σ := sI (sI ω (a + 4) n (oneE c x n s)) a 14 _) u0, osb, pI_k (σ := sI (sI ω (a + 4) n (oneE c x n s)) a 14 _) u0, osb]
  generalize hφ : sI (sI (sI ω (a + 4) n (oneE c x n s)) a 14 (hI (sI ω (a + 4) n (oneE c x n s)) a 14 ||| jshl 1 (nI n))) a 12 (hI (sI (sI ω (a + 4) n (oneE c x n s)) a 14 (hI (sI ω (a + 4) n (oneE c x n s)) a 14 ||| jshl 1 (nI n))) a 12 ||| jshl 1 (nI n)) = φ
  have φr : ∀ r, r ≠ a → hI φ r = hI (sI ω (a + 4) n (oneE c x n s)) r := fun r h => by rw [← hφ, hI_sIr h, hI_sIr h]
  have φq : ∀ q, q ≠ 12 → q ≠ 14 → hI φ a q = hI σ a q := fun q h1 h2 => by rw [← hφ, hI_sIn (Or.inr h1), hI_sIn (Or.inr h2), hI_sIr (by omega), kA]
  have φ12 : hI φ a 12 = hI σ a 12 ||| jshl 1 (nI n) := by rw [← hφ, hI_sIe, hI_sIn (Or.inr (by omega)), hI_sIr (by omega), kA]
  have φ14 : hI φ a 14 = hI σ a 14 ||| jshl 1 (nI n) := by rw [← hφ, hI_sIn (Or.inr (by omega)), hI_sIe, hI_sIr (by omega), kA]
  have Fall : Fr (inM a) σ φ := by rw [← hφ]; exact Fr.st (Fr.st (F14.trans (Fr.s0 ⟨by omega, by omega⟩)) hin) hin
  obtain ⟨τ, t1, t2, t3, t4, t5, t6, t7, t8⟩ := tk150 (D.1.fr Fall) (by rw [Fall.2.2.1]; exact D.2.1) (D.2.2.1.fr Fall) (D.2.2.2.1.fr Fall hd) hm hd hs (by rw [φq 6 (by omega) (by omega)]; exact R.1.2.2.2.1) h12
  refine ⟨τ, t1, Fall.trans t2, ?_⟩
  refine MR.fetch R h12 (by omega) (fun _ _ _ => rfl) ?_ ?_ ?_ t3 t4 ?_ ?_ ?_ ?_ ?_ ?_ ?_ ?_ ?_ (fun j hj => ⟨?_, ?_, ?_, ?_, ?_⟩)
  · rw [t6 1 (by omega) (by omega) (by omega), φq 1 (by omega) (by omega)]
  · rw [t6 3 (by omega) (by omega) (by omega), φq 3 (by omega) (by omega)]; exact R.1.2.1
  · rw [t6 5 (by omega) (by omega) (by omega), φq 5 (by omega) (by omega)]; exact R.1.2.2.1
  · rw [t6 17 (by omega) (by omega) (by omega), φq 17 (by omega) (by omega)]
  · rw [t6 18 (by omega) (by omega) (by omega), φq 18 (by omega) (by omega)]
  · rw [t6 19 (by omega) (by omega) (by omega), φq 19 (by omega) (by omega)]
  · rw [t8 _ (by omega) (by omega), φr _ (by omega), hI_sIr (by omega), kr _ (by omega) (by omega)]
  · rw [t8 _ (by omega) (by omega), φr _ (by omega), hI_sIr (by omega), kr _ (by omega) (by omega)]
  · rw [t7, φr _ (by omega), hI_sIr (by omega), kr _ (by omega) (by omega)]
  · rw [t8 _ (by omega) (by omega), φr _ (by omega), hI_sIu, kr _ (by omega) (by omega)]
  · rw [t8 _ (by omega) (by omega), φr _ (by omega), hI_sIr (by omega), k5]
  · rw [t8 _ (by omega) (by omega), φr _ (by omega), hI_sIr (by omega), k6]
  · rw [t5 j hj (by rw [φq 11 (by omega) (by omega)]; exact bz 11 (by omega) (by omega)), φq 11 (by omega) (by omega)]
  · rw [t6 12 (by omega) (by omega) (by omega), φ12, or_sh (by omega) hj]
  · rw [t6 13 (by omega) (by omega) (by omega), φq 13 (by omega) (by omega)]
  · rw [t6 14 (by omega) (by omega) (by omega), φ14, or_sh (by omega) hj]
  · rw [t6 15 (by omega) (by omega) (by omega), φq 15 (by omega) (by omega)]
    by_cases h : j = n
    · rw [if_pos h, h, bz 15 (by omega) (by omega)]
    · rw [if_neg h]
theorem tk_clm (D : Mc σ a p c m x n nc) (hd : p + 10 < a) (h12 : n < 12) {s : Nat} (hs : s < m) (es : x 35 = nI s) {ω : St} (D14 : Mc ω a p c m x n nc) (F14 : Fr (inM a) σ ω) (k5 : hI ω (a + 5) = ux (hI σ (a + 5)) n (oneE c x n s)) (k6 : hI ω (a + 6) = ux (hI σ (a + 6)) n (twoE c x n s)) (kr : ∀ r, r ≠ a + 5 → r ≠ a + 6 → hI ω r = hI σ r) (h5 : ¬ c 1 s = 5) (hmg : merE c x n s = false) (hl : lowE c x n nc ≠ none) : ∃ τ, ((gR 4 8 a ω).bind fun x21 => (gI 4 6 a ω).bind fun x22 => (f_X3_freeBits a x22 ω).bind fun q23 => (f_J6_numberOfTrailingZeros_0f7a4 q23.1 q23.2).bind fun q24 => (xI x21 (nI n) q24.1 q24.2).bind fun σ25 => (gR 4 8 a σ25).bind fun x26 => (aI 22 x26 (nI n) σ25).bind fun x27 => (f_X3_claim a x27 σ25).bind fun σ28 => f_X3_take_150 a (nI s) (nI n) σ28) = some (nI s, τ) ∧ Fr (inM a) σ τ ∧ MR c (ft2 c (ft1 c x n nc s) n s (newE c x n nc s) (oneE c x n s) (twoE c x n s) false false) (n + 1) nc τ a := by
  have h24 := D.c24
  have hm : m ≤ 24 := D.2.2.2.2.1.1
  have hin : inM a a := ⟨Nat.le_refl a, by omega⟩
  have R := D.2.2.2.2.2.1
  have kA : hI ω a = hI σ a := kr a (by omega) (by omega)
  have bz : ∀ q, 11 ≤ q → q ≤ 15 → bt (hI σ a q) n = false := fun q h1 h2 => by
    have := R.2.2.2.2 n (by omega)
    obtain rfl | rfl | rfl | rfl | rfl : q = 11 ∨ q = 12 ∨ q = 13 ∨ q = 14 ∨ q = 15 := by omega
    all_goals simp [this]
  obtain ⟨w, hw⟩ : ∃ w, lowE c x n nc = some w := by
    cases h : lowE c x n nc with
    | none => exact absurd h hl
    | some w => exact ⟨w, rfl⟩
  obtain ⟨w1, w2, w3⟩ := fstN_some hw
  have hnz : f_J6_numberOfTrailingZeros_0f7a4 (setN (freE c x n) nc) ω = some (nI w, ω) := ntz_k (by omega) (by rw [b_setN (by omega) (by omega), w2]; simp [w1]) (fun i hi => by rw [b_setN (by omega) (by omega), w3 i hi]; simp) ω
  rw [D14.1.2.2.2.2.1.r D14.t, osb, D14.f.2.2.2.1, osb, free_c D14 (Nat.le_refl n), osb]
  dsimp only
  rw [hnz, osb]
  dsimp only
  rw [xI_k D14.1.2.2.2.2.1.2.1 D14.1.2.2.2.2.1.2.2 h12 (by omega), osb]
  have hnew : newE c x n nc s = nI w := by simp [newE, h5, hmg, hw, o2i]
  have hf1 : ft1 c x n nc s = takE x (nI w) := by simp [ft1, h5, hmg, hnew]
  rw [hnew, hf1]
  generalize hψ : sI ω (a + 4) n (nI w) = ψ
  have Fψ : Fr (inM a) σ ψ := by rw [← hψ]; exact F14.trans (Fr.s0 ⟨by omega, by omega⟩)
  have Hψ := D.1.fr Fψ
  have ψA : hI ψ a = hI σ a := by rw [← hψ, hI_sIr (by omega), kA]
  have ψ4 : hI ψ (a + 4) = ux (hI σ (a + 4)) n (nI w) := by rw [← hψ, hI_sIu, kr _ (by omega) (by omega)]
  have ψr : ∀ r, r ≠ a + 4 → hI ψ r = hI ω r := fun r h => by rw [← hψ, hI_sIr h]
  rw [Hψ.2.2.2.2.1.r Hψ.1, osb, aI_k Hψ.2.2.2.2.1.2.1 Hψ.2.2.2.2.1.2.2 h12 (by omega), osb, ψ4, ux_e, clm_c (x := x) Hψ (fun r hr => by rw [ψr _ (by omega), kr _ (by omega) (by omega)]; exact R.2.2.1 r hr) (show w < 24 by omega), osb]
  generalize hφ : sI (sI ψ a 3 (hI ψ a 3 &&& (jshl 1 (nI w) ^^^ (-1)))) a 5 (hI ψ a 5 ||| setN (fun r => decide (x r = nI w)) 8) = φ
  have φr : ∀ r, r ≠ a → hI φ r = hI ψ r := fun r h => by rw [← hφ, hI_sIr h, hI_sIr h]
  have φq : ∀ q, q ≠ 3 → q ≠ 5 → hI φ a q = hI σ a q := fun q h1 h2 => by rw [← hφ, hI_sIn (Or.inr h2), hI_sIn (Or.inr h1), ψA]
  have φ3 : hI φ a 3 = takE x (nI w) 33 := by
    unfold takE
    rw [← hφ, hI_sIn (Or.inr (by omega)), hI_sIe, ψA, R.1.2.1, ux_e]
  have φ5 : hI φ a 5 = takE x (nI w) 8 := by
    unfold takE
    rw [← hφ, hI_sIe, ψA, R.1.2.2.1, ux_n (by omega), ux_e]
  have Fall : Fr (inM a) σ φ := by rw [← hφ]; exact Fr.st (Fr.st Fψ hin) hin
  obtain ⟨τ, t1, t2, t3, t4, t5, t6, t7, t8⟩ := tk150 (D.1.fr Fall) (by rw [Fall.2.2.1]; exact D.2.1) (D.2.2.1.fr Fall) (D.2.2.2.1.fr Fall hd) hm hd hs (by rw [φq 6 (by omega) (by omega)]; exact R.1.2.2.2.1) h12
  refine ⟨τ, t1, Fall.trans t2, ?_⟩
  refine MR.fetch R h12 (by omega) (fun j h1 h2 => by unfold takE; rw [ux_n h2, ux_n h1]) ?_ ?_ ?_ t3 t4 ?_ ?_ ?_ ?_ ?_ ?_ ?_ ?_ ?_ (fun j hj => ⟨?_, ?_, ?_, ?_, ?_⟩)
  · rw [t6 1 (by omega) (by omega) (by omega), φq 1 (by omega) (by omega)]
  · rw [t6 3 (by omega) (by omega) (by omega), φ3]
  · rw [t6 5 (by omega) (by omega) (by omega), φ5]
  · rw [t6 17 (by omega) (by omega) (by omega), φq 17 (by omega) (by omega)]
  · rw [t6 18 (by omega) (by omega) (by omega), φq 18 (by omega) (by omega)]
  · rw [t6 19 (by omega) (by omega) (by omega), φq 19 (by omega) (by omega)]
  · rw [t8 _ (by omega) (by omega), φr _ (by omega), ψr _ (by omega), kr _ (by omega) (by omega)]
  · rw [t8 _ (by omega) (by omega), φr _ (by omega), ψr _ (by omega), kr _ (by omega) (by omega)]
  · rw [t7, φr _ (by omega), ψr _ (by omega), kr _ (by omega) (by omega)]
  · rw [t8 _ (by omega) (by omega), φr _ (by omega), ψ4]
  · rw [t8 _ (by omega) (by omega), φr _ (by omega), ψr _ (by omega), k5]
  · rw [t8 _ (by omega) (by omega), φr _ (by omega), ψr _ (by omega), k6]
  · rw [t5 j hj (by rw [φq 11 (by omega) (by omega)]; exact bz 11 (by omega) (by omega)), φq 11 (by omega) (by omega)]
  · rw [t6 12 (by omega) (by omega) (by omega), φq 12 (by omega) (by omega)]
    by_cases h : j = n
    · rw [if_pos h, h, bz 12 (by omega) (by omega)]
    · rw [if_neg h]
  · rw [t6 13 (by omega) (by omega) (by omega), φq 13 (by omega) (by omega)]
  · rw [t6 14 (by omega) (by omega) (by omega), φq 14 (by omega) (by omega)]
    by_cases h : j = n
    · rw [if_pos h, h, bz 14 (by omega) (by omega)]
    · rw [if_neg h]
  · rw [t6 15 (by omega) (by omega) (by omega), φq 15 (by omega) (by omega)]
    by_cases h : j = n
    · rw [if_pos h, h, bz 15 (by omega) (by omega)]
    · rw [if_neg h]
theorem take_c (D : Mc σ a p c m x n nc) (hd : p + 10 < a) (h12 : n < 12) {s : Nat} (hs : s < m) (es : x 35 = nI s) (hl : ¬ c 1 s = 5 → merE c x n s = false → lowE c x n nc ≠ none) : ∃ τ, f_X3_take a σ = some (nI s, τ) ∧ Fr (inM a) σ τ ∧ MR c (ftE c x n nc) (n + 1) nc τ a := by
  have h24 := D.c24
  have hm : m ≤ 24 := D.2.2.2.2.1.1
  have hin : inM a a := ⟨Nat.le_refl a, by omega⟩
  have R := D.2.2.2.2.2.1
  have hC := D.2.2.2.2.1.2.2.2.2.2.2 _ hs
  have ess : (x 35).toNatClampNeg = s := by rw [es, nI_clamp (by omega)]
  have hfe : ftE c x n nc = ft2 c (ft1 c x n nc s) n s (newE c x n nc s) (oneE c x n s) (twoE c x n s) (merE c x n s) (savE c x n s) := by unfold ftE; rw [ess]
  have bz : ∀ q, 11 ≤ q → q ≤ 15 → bt (hI σ a q) n = false := fun q h1 h2 => by
    have := R.2.2.2.2 n (by omega)
    obtain rfl | rfl | rfl | rfl | rfl : q = 11 ∨ q = 12 ∨ q = 13 ∨ q = 14 ∨ q = 15 := by omega
    all_goals simp [this]
  have c1 : ∀ {υ : St}, Mc υ a p c m x n nc → f_X3_cellToRead a (c 3 s) υ = some (oneE c x n s, υ) := fun E => by
    have h := hC.2.2.1
    unfold oneE
    by_cases h0 : c 1 s = 0
    · rw [if_pos h0] at h ⊢; rw [ctr_c E (Or.inl h), if_pos h]
    · rw [if_neg h0] at h ⊢
      rw [ctr_c E (Or.inr h)]
      obtain ⟨r, hr, er⟩ := h
      rw [er, if_neg (nI_nm1 (by omega))]
  have c2 : ∀ {υ : St}, Mc υ a p c m x n nc → f_X3_cellToRead a (c 4 s) υ = some (twoE c x n s, υ) := fun E => by
    have h := hC.2.2.2.1
    unfold twoE
    by_cases h0 : c 1 s = 0 ∨ c 1 s = 4
    · rw [if_pos h0] at h ⊢; rw [ctr_c E (Or.inl h), if_pos h]
    · rw [if_neg h0] at h ⊢
      rw [ctr_c E (Or.inr h)]
      obtain ⟨r, hr, er⟩ := h
      rw [er, if_neg (nI_nm1 (by omega))]
  unfold f_X3_take f_X3_take_0
  rw [if_pos D.t, D.f.2.2.2.2.1, osb, D.f.2.2.2.1, osb, D.1.2.2.2.2.2.1.r D.t, osb, D.po, osb, es, (D.pr hs).2.2.1.1, osb, (D.pr hs).2.2.1.2, osb, c1 D, osb]
  dsimp only
  rw [xI_k D.1.2.2.2.2.2.1.2.1 D.1.2.2.2.2.2.1.2.2 h12 (by omega), osb]
  have D8 := D.past hd (f := 5) (by omega) (by omega) (oneE c x n s)
  have D14 := D8.past hd (f := 6) (by omega) (by omega) (twoE c x n s)
  rw [D8.1.2.2.2.2.2.2.r D8.t, osb, D8.po, osb, (D8.pr hs).2.2.2.1.1, osb, (D8.pr hs).2.2.2.1.2, osb, c2 D8, osb]
  dsimp only
  rw [xI_k D8.1.2.2.2.2.2.2.2.1 D8.1.2.2.2.2.2.2.2.2 h12 (by omega), osb]
  have F14 : Fr (inM a) σ (sI (sI σ (a + 5) n (oneE c x n s)) (a + 6) n (twoE c x n s)) := Fr.st (Fr.s0 ⟨by omega, by omega⟩) ⟨by omega, by omega⟩
  have k5 : hI (sI (sI σ (a + 5) n (oneE c x n s)) (a + 6) n (twoE c x n s)) (a + 5) = ux (hI σ (a + 5)) n (oneE c x n s) := by rw [hI_sIr (by omega), hI_sIu]
  have k6 : hI (sI (sI σ (a + 5) n (oneE c x n s)) (a + 6) n (twoE c x n s)) (a + 6) = ux (hI σ (a + 6)) n (twoE c x n s) := by rw [hI_sIu, hI_sIr (by omega)]
  have kr : ∀ r, r ≠ a + 5 → r ≠ a + 6 → hI (sI (sI σ (a + 5) n (oneE c x n s)) (a + 6) n (twoE c x n s)) r = hI σ r := fun r h1 h2 => by rw [hI_sIr h2, hI_sIr h1]
  generalize sI (sI σ (a + 5) n (oneE c x n s)) (a + 6) n (twoE c x n s) = ω at D14 F14 k5 k6 kr
  have kA : hI ω a = hI σ a := kr a (by omega) (by omega)
  rw [D14.po, osb, (D14.pr hs).1.1, osb, (D14.pr hs).1.2, osb, hfe]
  by_cases h5 : c 1 s = 5
  · rw [if_pos h5]
    exact tk_skip D hd h12 hs es D14 F14 k5 k6 kr h5
  · rw [if_neg h5, mer_c D14 hs es, osb]
    have hsv : savE c x n s = false := by simp [savE, h5]
    rw [hsv]
    cases hmg : merE c x n s with
    | true =>
      rw [if_neg (by simp [b2i])]
      exact tk_mrg D hd h12 hs es D14 F14 k5 k6 kr h5 hmg
    | false =>
      rw [if_pos (by simp [b2i])]
      exact tk_clm D hd h12 hs es D14 F14 k5 k6 kr h5 hmg (hl h5 hmg)
end Clsa
