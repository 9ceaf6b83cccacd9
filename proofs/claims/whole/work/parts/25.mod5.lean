/-! THE REFERENCE's core functions: refusals, runs, commits, fetches -/
theorem sI_sR {σ : St} {a j : Nat} {y : Nat → Int32} {v : Int32} : sI (sR σ a y) a j v = sR σ a (ux y j v) := by
  have e : u2 (hI (sR σ a y)) a j v = fun b => if b = a then ux y j v else hI σ b := by
    funext b i
    by_cases hb : b = a
    · subst hb
      by_cases hi : i = j
      · subst hi; simp [u2, ux]
      · simp [u2, ux, hi, hI_sRe]
    · simp [u2, hb, hI_sRn hb]
  show (hT σ, hN σ, u2 (hI (sR σ a y)) a j v, hP σ, hL σ, hZ σ) = _
  rw [e]
  rfl
theorem sI_sRc {σ : St} {a b j : Nat} {y : Nat → Int32} {v : Int32} (h : b ≠ a) : sI (sR σ a y) b j v = sR (sI σ b j v) a y := by
  have e : u2 (hI (sR σ a y)) b j v = fun b' => if b' = a then y else hI (sI σ b j v) b' := by
    funext b' i
    by_cases hb : b' = a
    · subst hb
      simp [u2, Ne.symm h, hI_sRe]
    · simp [u2, hb, hI_sRn hb, hI_sI]
  show (hT σ, hN σ, u2 (hI (sR σ a y)) b j v, hP σ, hL σ, hZ σ) = _
  rw [e]
  rfl
theorem sI_sI {σ : St} {a j : Nat} {u v : Int32} : sI (sI σ a j u) a j v = sI σ a j v := by
  have e : u2 (hI (sI σ a j u)) a j v = u2 (hI σ) a j v := by
    funext b i
    by_cases hb : b = a ∧ i = j
    · simp [u2, hb]
    · simp only [u2, if_neg hb]; exact if_neg hb
  show (hT σ, hN σ, u2 (hI (sI σ a j u)) a j v, hP σ, hL σ, hZ σ) = _
  rw [e]
  rfl
theorem sR_sR {σ : St} {a : Nat} {y w : Nat → Int32} : sR (sR σ a y) a w = sR σ a w := by
  have e : (fun b => if b = a then w else hI (sR σ a y) b) = fun b => if b = a then w else hI σ b := by
    funext b
    by_cases hb : b = a
    · simp [hb]
    · simp [hb, hI_sRn hb]
  show (hT σ, hN σ, (fun b => if b = a then w else hI (sR σ a y) b), hP σ, hL σ, hZ σ) = _
  rw [e]
  rfl
theorem sR_id {σ : St} {a : Nat} : sR σ a (hI σ a) = σ := by
  have e : (fun b => if b = a then hI σ a else hI σ b) = hI σ := by
    funext b
    by_cases hb : b = a <;> simp [hb]
  show (hT σ, hN σ, (fun b => if b = a then hI σ a else hI σ b), hP σ, hL σ, hZ σ) = _
  rw [e]
  rfl
def fil (y : Nat → Int32) (B : Nat) (f : Nat → Int32) (m : Nat) : Nat → Int32 := fun j => if B ≤ j ∧ j < B + m then f (j - B) else y j
theorem fil_0 {y f : Nat → Int32} {B : Nat} : fil y B f 0 = y := by funext j; exact if_neg (by omega)
theorem fil_s {y f : Nat → Int32} {B m : Nat} : fil y B f (m + 1) = ux (fil y B f m) (B + m) (f m) := by
  funext j
  show (if B ≤ j ∧ j < B + (m + 1) then f (j - B) else y j) = if j = B + m then f m else if B ≤ j ∧ j < B + m then f (j - B) else y j
  by_cases h : j = B + m
  · subst h; rw [if_pos (by omega), if_pos rfl, show B + m - B = m by omega]
  · rw [if_neg h]
    by_cases h2 : B ≤ j ∧ j < B + m
    · rw [if_pos h2, if_pos (by omega)]
    · rw [if_neg h2, if_neg (by omega)]
theorem fil_n {y f : Nat → Int32} {B m j : Nat} (h : j < B ∨ B + m ≤ j) : fil y B f m j = y j := if_neg (by omega)
def shf (y : Nat → Int32) (m : Nat) : Nat → Int32 := fun j => if 39 ≤ j ∧ j < 39 + m then y (j + 13) else y j
theorem shf_s {y : Nat → Int32} {m : Nat} : shf y (m + 1) = ux (shf y m) (39 + m) (shf y m (39 + m + 13)) := by
  funext j
  show (if 39 ≤ j ∧ j < 39 + (m + 1) then y (j + 13) else y j) = if j = 39 + m then (if 39 ≤ 39 + m + 13 ∧ 39 + m + 13 < 39 + m then y (39 + m + 13 + 13) else y (39 + m + 13)) else if 39 ≤ j ∧ j < 39 + m then y (j + 13) else y j
  by_cases h : j = 39 + m
  · subst h; rw [if_pos (by omega), if_pos rfl, if_neg (by omega)]
  · rw [if_neg h]
    by_cases h2 : 39 ≤ j ∧ j < 39 + m
    · rw [if_pos h2, if_pos (by omega)]
    · rw [if_neg h2, if_neg (by omega)]
/-- the row behind a commit -/
def coE (c : Nat → Nat → Int32) (x : Nat → Int32) : Nat → Int32 :=
  if hasB x 0 2 = true then ux (ux (ux x 34 0) 36 1) 35 (x 39) else
  let y := if toE c x 0 = -1 then x else ux (ux x (toE c x 0).toNatClampNeg (x 40)) 8 (x 8 &&& (jshl 1 (toE c x 0) ^^^ (-1)))
  ux (ux (shf y 143) 34 (x 34 - 1)) 37 (x 37 + 1)
def cvE (x : Nat → Int32) : Int32 := if hasB x 0 2 = true then -2 else x 39
section Mod5
variable {σ : St} {M k : Nat} {c : Nat → Nat → Int32} {x : Nat → Int32} {n : Nat}
theorem Md.to (D : Md σ M k c x) (y : Nat → Int32) : Md (sR σ (M + 4) y) M k c y := by
  obtain ⟨d1, d2, d3, d4, d5, d6, d7⟩ := D
  have e : ∀ q, q ≤ 10 → hI (sR σ (M + 4) y) (k + q) = hI σ (k + q) := fun q hq => hI_sRn (by omega)
  have e0 : hI (sR σ (M + 4) y) k = hI σ k := hI_sRn (by omega)
  refine ⟨d1, d2, d3, d4, ?_, fun i hi => ?_, d7⟩
  · unfold CR
    rw [e0, e 1 (by omega), e 2 (by omega), e 3 (by omega), e 4 (by omega), e 5 (by omega), e 6 (by omega), e 7 (by omega), e 8 (by omega), e 9 (by omega), e 10 (by omega)]
    exact d5
  · rw [hI_sRe]
theorem ws (D : Md σ M k c x) (y : Nat → Int32) (j : Nat) (hj : j < 195) {u v : Int32} (hu : u = nI j) : xI (M + 4) u v (sR σ (M + 4) y) = some (sR σ (M + 4) (ux y j v)) := by
  rw [xset (D.to y) hj hu, sI_sR]
theorem wnf_k (D : Md σ M k c x) (X : Xs x n) (hn : x 34 = nI n) {nc : Nat} (hc : hI σ M 26 = nI nc) (h24 : nc ≤ 24) {m : Nat} (hm : c 0 5 = nI m) (hm24 : m ≤ 24) (hone : ∀ s, s < m → c 1 s = 4 → isN (c 3 s) 8) (hsh : isN (c 0 3) 5) : f_X10_whyNoFetch M σ = some (wnfE c x n nc, σ) := by
  unfold f_X10_whyNoFetch f_X10_whyNoFetch_0 f_X10_whyNoFetch_86 f_X10_whyNoFetch_87
  simp only [D.1, if_true, xa_k D, osb, r36_k D, r35_k D, core_k D, step_k D]
  unfold wnfE
  by_cases h1 : x 36 = 1
  · simp [h1]
  · by_cases h2 : x 35 < 0 ∨ c 0 5 ≤ x 35
    · simp [h1, h2, b2i]
    · obtain ⟨s, hs, es⟩ : ∃ s, s < m ∧ x 35 = nI s := by
        rcases pk_ix (x 35) (n := m) (by omega) with q | q | q
        · exact absurd (Or.inl q) h2
        · exact absurd (Or.inr (by rw [hm]; exact q)) h2
        · exact q
      rw [if_neg h1, if_neg h1, if_neg (by simp [h2, b2i]), if_neg h2, gI_k D.2.2.2.1.1]
      simp only [r34_k D, osb, hn, D.2.2.2.2.1.2.1]
      by_cases h3 : nI n = c 0 1
      · rw [if_pos h3, if_pos h3]
      · obtain ⟨⟨a1, a2⟩, -⟩ := kar D (s := s) (by omega)
        simp only [if_neg h3, a1, osb, es, a2, nI_clamp (show s < 2 ^ 31 by omega)]
        by_cases h5 : c 1 s = 5
        · rw [if_pos h5, if_pos h5]
        · rw [if_neg h5, if_neg h5, merg_k D X hn (by omega) (hone s hs) hsh, osb]
          dsimp only
          cases hmg : merE c x n s with
          | true => simp [b2i]
          | false =>
            rw [if_pos (by simp [b2i]), low_k D X hn hc h24, osb]
            cases hl : lowE c x n nc with
            | none => simp [o2i]
            | some j =>
              have hj := (fstN_some hl).1
              have : ¬ nI j = -1 := fun h => by
                have := congrArg Int32.toInt h
                rw [nI_toInt (by omega)] at this
                simp at this
              simp [o2i, this]
theorem wnc_k (D : Md σ M k c x) (hn : x 34 = nI n) (h12 : n ≤ 12) (hx : 0 < n → isC (x 40) 24) : f_X10_whyNoCommit M σ = some (wncE x n, σ) := by
  unfold f_X10_whyNoCommit f_X10_whyNoCommit_0 f_X10_whyNoCommit_55 f_X10_whyNoCommit_56
  simp only [D.1, if_true, xa_k D, osb, r34_k D, hn]
  unfold wncE
  by_cases h0 : n = 0
  · subst h0; simp [nI_0]
  · rw [if_neg (nI_ne0 (by omega) (by omega)), if_neg h0, show (0 : Int32) = nI 0 from rfl, has_k D (by omega), osb]
    dsimp only
    cases h1 : hasB x 0 1 with
    | false => simp [b2i, nI_0]
    | true =>
      rw [if_neg (by simp [b2i, nI_0]), if_neg (by simp), has_k D (by omega), osb]
      dsimp only
      cases h4 : hasB x 0 4 with
      | false => simp [b2i, nI_0]
      | true =>
        rw [if_neg (by simp [b2i, nI_0]), xa_k D, osb, at_k D 0, osb]
        dsimp only
        rw [en1_k D (by omega), osb, rdy_k D (hx (by omega)), osb]
        cases hr : rdyE x (x 40) <;> simp [b2i, nI_0, hr]
end Mod5
