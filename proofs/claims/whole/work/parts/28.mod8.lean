/-! THE REFERENCE's core functions: a fetch -/
def oneE (c : Nat → Nat → Int32) (x : Nat → Int32) (n s : Nat) : Int32 := if c 1 s = 0 then -2 else mapE c x (c 3 s).toNatClampNeg n
def twoE (c : Nat → Nat → Int32) (x : Nat → Int32) (n s : Nat) : Int32 := if c 1 s = 0 ∨ c 1 s = 4 then -2 else mapE c x (c 4 s).toNatClampNeg n
def savE (c : Nat → Nat → Int32) (x : Nat → Int32) (n s : Nat) : Bool := decide (c 1 s = 5) && !decide (c 0 2 ≤ nI (cntN (fun i => hasB x i 8) n))
def newE (c : Nat → Nat → Int32) (x : Nat → Int32) (n nc s : Nat) : Int32 := if c 1 s = 5 then -2 else if merE c x n s = true then oneE c x n s else o2i (lowE c x n nc)
def takE (x : Nat → Int32) (d : Int32) : Nat → Int32 := ux (ux x 8 (x 8 ||| setN (fun r => decide (x r = d)) 8)) 33 (x 33 &&& (jshl 1 d ^^^ (-1)))
def ft1 (c : Nat → Nat → Int32) (x : Nat → Int32) (n nc s : Nat) : Nat → Int32 := if c 1 s = 5 ∨ merE c x n s = true then x else takE x (newE c x n nc s)
def ft2 (c : Nat → Nat → Int32) (y : Nat → Int32) (n s : Nat) (d a b : Int32) (mg sv : Bool) : Nat → Int32 :=
  ux (ux (ux (ux (ux (ux (ux (fil y (39 + 13 * n + 5) (fun r => if sv = true then mapE c y r n else 0) 8) (39 + 13 * n) (nI s)) (39 + 13 * n + 1) d) (39 + 13 * n + 2) a) (39 + 13 * n + 3) b) (39 + 13 * n + 4) ((if mg = true then 5 else 0) ||| (if sv = true then 8 else 0))) 34 (y 34 + 1)) 35 (gsE c s)
/-- the row behind a fetch -/
def ftE (c : Nat → Nat → Int32) (x : Nat → Int32) (n nc : Nat) : Nat → Int32 :=
  let s := (x 35).toNatClampNeg
  ft2 c (ft1 c x n nc s) n s (newE c x n nc s) (oneE c x n s) (twoE c x n s) (merE c x n s) (savE c x n s)
theorem mapE_congr {c : Nat → Nat → Int32} {x y : Nat → Int32} {r : Nat} : ∀ {n : Nat}, x r = y r → (∀ j, 39 ≤ j → j < 39 + 13 * n → x j = y j) → mapE c x r n = mapE c y r n
  | 0, h, _ => h
  | n + 1, h, h2 => by
    have e : toE c x n = toE c y n := by unfold toE sS; rw [h2 (39 + 13 * n) (by omega) (by omega)]
    simp only [mapE]
    rw [e, h2 (39 + 13 * n + 1) (by omega) (by omega), mapE_congr h (fun j h3 h4 => h2 j h3 (by omega))]
theorem Xs.congr {x y : Nat → Int32} {n : Nat} (X : Xs x n) (h : ∀ j, 39 ≤ j → j < 39 + 13 * n → y j = x j) : Xs y n := ⟨X.1, fun i hi => by rw [h _ (by omega) (by omega)]; exact X.2 i hi⟩
theorem i_or_z (x : Int32) : x ||| 0 = x := by refine b_ext (fun i _ => ?_); rw [b_or, b_0, Bool.or_false]
theorem i_or_a (x y z : Int32) : x ||| (y ||| z) = (x ||| y) ||| z := by refine b_ext (fun i _ => ?_); simp only [b_or, Bool.or_assoc]
section Mod8
variable {σ : St} {M k : Nat} {c : Nat → Nat → Int32} {x : Nat → Int32} {n : Nat}
theorem fet367_k (D : Md σ M k c x) (y : Nat → Int32) {s : Nat} (hn : n < 12) (hs : s < 24) (a b : Int32) : f_X10_fetches_367 M (nI s) (M + 4) (nI (39 + 13 * n) + 4) a b (sR σ (M + 4) y) = some (nI s, sR σ (M + 4) (ux (ux (ux y (39 + 13 * n + 4) (a ||| b)) 34 (y 34 + 1)) 35 (gsE c s))) := by
  unfold f_X10_fetches_367
  rw [we4 D _ hn, osb, xa_k (D.to _), osb, r34_k (D.to _), osb, w34 D _, osb, xa_k (D.to _), osb, gues_k (D.to _) hs, osb, w35 D _, osb, ux_n (i := 34) (by omega)]
theorem fet237_l (D : Md σ M k c x) (y : Nat → Int32) (X : Xs y n) {s : Nat} (hn : n < 12) (hs : s < 24) (d a b : Int32) (mg sv : Bool) : ∀ (m i fu : Nat), i + m = 8 → m < fu → f_X10_fetches_237 fu M (nI s) (nI n) a b (b2i mg) (b2i sv) d (nI i) (sR σ (M + 4) (fil y (39 + 13 * n + 5) (fun r => if sv = true then mapE c y r n else 0) i)) = some (nI s, sR σ (M + 4) (ft2 c y n s d a b mg sv))
  | 0, i, fu, hi, hf => by
    obtain ⟨f, rfl⟩ : ∃ f, fu = f + 1 := ⟨fu - 1, by omega⟩
    obtain rfl : i = 8 := by omega
    rw [e_X10_fetches_237, if_pos (by decide), xa_k (D.to _), osb, at_k (D.to _), osb]
    dsimp only
    rw [ws D _ (39 + 13 * n) (by omega) rfl, osb, xa_k (D.to _), osb, at_k (D.to _), osb]
    dsimp only
    rw [we1 D _ hn, osb, xa_k (D.to _), osb, at_k (D.to _), osb]
    dsimp only
    rw [we2 D _ hn, osb, xa_k (D.to _), osb, at_k (D.to _), osb]
    dsimp only
    rw [we3 D _ hn, osb, xa_k (D.to _), osb, at_k (D.to _), osb]
    unfold f_X10_fetches_356 ft2
    simp only [fet367_k D _ hn hs]
    have e34 : ∀ q : Nat → Int32, (∀ j, j < 39 → q j = y j) → ux (ux (ux (ux q (39 + 13 * n) (nI s)) (39 + 13 * n + 1) d) (39 + 13 * n + 2) a) (39 + 13 * n + 3) b 34 = y 34 := fun q hq => by
      rw [ux_n (by omega), ux_n (by omega), ux_n (by omega), ux_n (by omega), hq 34 (by omega)]
    rw [e34 _ (fun j hj => fil_n (by omega))]
    cases mg <;> cases sv <;> simp [b2i]
  | m + 1, i, fu, hi, hf => by
    obtain ⟨f, rfl⟩ : ∃ f, fu = f + 1 := ⟨fu - 1, by omega⟩
    have ih := fet237_l D y X hn hs d a b mg sv m (i + 1) f (by omega) (by omega)
    rw [e_X10_fetches_237, if_neg (show ¬ (8 : Int32) ≤ nI i from nI_ge (a := i) (b := 8) (by omega) (by omega)), xa_k (D.to _), osb, at_k (D.to _), osb]
    unfold f_X10_fetches_276
    dsimp only
    have eix : nI (39 + 13 * n) + 5 + nI i = nI (39 + 13 * n + 5 + i) := by rw [show (nI (39 + 13 * n) + 5 : Int32) = nI (39 + 13 * n + 5) from nI_p _ 5, nI_p]
    rw [eix]
    rw [fil_s, ← nI_1] at ih
    cases sv with
    | false =>
      rw [if_pos (by simp [b2i]), ws D _ (39 + 13 * n + 5 + i) (by omega) rfl, osb]
      simp only [Bool.false_eq_true, if_false] at ih ⊢
      exact ih
    | true =>
      rw [if_neg (by simp [b2i]), mapOf_w (D.to _) (X.congr (fun j h1 h2 => fil_n (by omega))) (by omega) (Nat.le_refl n), osb]
      dsimp only
      rw [ws D _ (39 + 13 * n + 5 + i) (by omega) rfl, osb, mapE_congr (y := y) (fil_n (by omega)) (fun j h1 h2 => fil_n (by omega))]
      simp only [if_true] at ih ⊢
      exact ih
theorem fet234_k (D : Md σ M k c x) (y : Nat → Int32) (X : Xs y n) {s : Nat} (hn : n < 12) (hs : s < 24) (d a b : Int32) (mg sv : Bool) : f_X10_fetches_234 M (nI s) (nI n) a b (b2i mg) (b2i sv) d (sR σ (M + 4) y) = some (nI s, sR σ (M + 4) (ft2 c y n s d a b mg sv)) := by
  have := fet237_l D y X hn hs d a b mg sv 8 0 FU (by omega) (by unfold FU; omega)
  rw [fil_0] at this
  exact this
theorem fet179_l (D : Md σ M k c x) (y : Nat → Int32) (X : Xs y n) {s : Nat} (hn : n < 12) (hs : s < 24) (d a b : Int32) (mg sv : Bool) : ∀ (m i fu : Nat), i + m = 8 → m < fu → f_X10_fetches_179 fu M (nI s) (nI n) a b (b2i mg) (b2i sv) d (nI i) (sR σ (M + 4) (ux y 8 (y 8 ||| setN (fun r => decide (y r = d)) i))) = some (nI s, sR σ (M + 4) (ft2 c (takE y d) n s d a b mg sv))
  | 0, i, fu, hi, hf => by
    obtain ⟨f, rfl⟩ : ∃ f, fu = f + 1 := ⟨fu - 1, by omega⟩
    obtain rfl : i = 8 := by omega
    rw [e_X10_fetches_179, if_pos (by decide), xa_k (D.to _), osb, r33_k (D.to _), osb, w33 D _, osb, ux_n (i := 33) (by omega)]
    exact fet234_k D (takE y d) (X.congr (fun j h1 h2 => by unfold takE; rw [ux_n (by omega), ux_n (by omega)])) hn hs d a b mg sv
  | m + 1, i, fu, hi, hf => by
    obtain ⟨f, rfl⟩ : ∃ f, fu = f + 1 := ⟨fu - 1, by omega⟩
    have ih := fet179_l D y X hn hs d a b mg sv m (i + 1) f (by omega) (by omega)
    rw [e_X10_fetches_179, if_neg (show ¬ (8 : Int32) ≤ nI i from nI_ge (a := i) (b := 8) (by omega) (by omega)), xa_k (D.to _), osb, row_k (D.to _) (by omega), osb, ux_n (show i ≠ 8 by omega)]
    unfold f_X10_fetches_212
    rw [← nI_1] at ih
    by_cases h : y i = d
    · rw [if_pos h, osb, r8_k (D.to _), osb, w8 D _, osb, ux_e]
      simp only [setN, h, decide_true, if_true, i_or_a] at ih
      have e : ∀ u v : Int32, ux (ux y 8 u) 8 v = ux y 8 v := fun u v => by
        funext j; unfold ux; by_cases hj : j = 8 <;> simp [hj]
      rw [e]
      exact ih
    · rw [if_neg h]
      simp only [setN, h, decide_false, Bool.false_eq_true, if_false, i_or_z] at ih
      exact ih
theorem fet_k (D : Md σ M k c x) (X : Xs x n) (hn : x 34 = nI n) (h12 : n < 12) {nc : Nat} (hc : hI σ M 26 = nI nc) (h24 : nc ≤ 24) {s : Nat} (hs : s < 24) (es : x 35 = nI s) (h1 : ¬ c 1 s = 0 → isN (c 3 s) 8) (h2 : ¬ (c 1 s = 0 ∨ c 1 s = 4) → isN (c 4 s) 8) (hsh : isN (c 0 3) 5) : f_X10_fetches M (sR σ (M + 4) x) = some (nI s, sR σ (M + 4) (ftE c x n nc)) := by
  have D1 := D.to x
  have hc1 : hI (sR σ (M + 4) x) M 26 = nI nc := by rw [hI_sRn (by omega)]; exact hc
  have ess : (x 35).toNatClampNeg = s := by rw [es, nI_clamp (by omega)]
  obtain ⟨⟨a1, a2⟩, -, ⟨b1, b2⟩, ⟨e1, e2⟩, -⟩ := kar D1 hs
  have hfe : ftE c x n nc = ft2 c (ft1 c x n nc s) n s (newE c x n nc s) (oneE c x n s) (twoE c x n s) (merE c x n s) (savE c x n s) := by unfold ftE; rw [ess]
  have h123 : ∀ sv, sv = savE c x n s → f_X10_fetches_123 M (nI s) (nI n) (oneE c x n s) (twoE c x n s) (b2i (merE c x n s)) (b2i sv) (sR σ (M + 4) x) = some (nI s, sR σ (M + 4) (ftE c x n nc)) := fun sv hsv => by
    rw [hfe, ← hsv]
    unfold f_X10_fetches_123 f_X10_fetches_156
    simp only [core_k D1, osb, a1, a2]
    by_cases h5 : c 1 s = 5
    · simp only [if_pos h5]
      rw [fet234_k D x X h12 hs]
      simp [newE, ft1, h5]
    · simp only [if_neg h5]
      cases hm : merE c x n s with
      | true =>
        rw [if_neg (by simp [b2i]), if_neg (by simp [b2i]), fet234_k D x X h12 hs]
        simp [newE, ft1, h5, hm]
      | false =>
        rw [if_pos (by simp [b2i]), low_k D1 X hn hc1 h24, osb]
        dsimp only
        simp only [core_k D1, osb, a1, a2, if_neg h5]
        rw [if_pos (by simp [b2i])]
        have := fet179_l D x X h12 hs (o2i (lowE c x n nc)) (oneE c x n s) (twoE c x n s) false sv 8 0 FU (by omega) (by unfold FU; omega)
        have e0 : ux x 8 (x 8 ||| setN (fun r => decide (x r = o2i (lowE c x n nc))) 0) = x := by
          funext j
          by_cases hj : j = 8
          · subst hj; rw [ux_e]; exact i_or_z _
          · exact ux_n hj
        rw [e0] at this
        have e1 : newE c x n nc s = o2i (lowE c x n nc) := by simp [newE, h5, hm]
        have e2 : ft1 c x n nc s = takE x (o2i (lowE c x n nc)) := by simp [ft1, h5, hm, e1]
        rw [e1, e2]
        exact this
  have h82 : f_X10_fetches_82 M (nI s) (nI n) (oneE c x n s) (twoE c x n s) (sR σ (M + 4) x) = some (nI s, sR σ (M + 4) (ftE c x n nc)) := by
    unfold f_X10_fetches_82 f_X10_fetches_122
    rw [merg_k D1 X hn hs (fun h4 => h1 (by rw [h4]; decide)) hsh, osb]
    simp only [core_k D1, osb, a1, a2]
    by_cases h5 : c 1 s = 5
    · rw [if_pos h5, saves_k D1 hn (by omega), osb]
      simp only [core_k D1, osb]
      rw [gI_k D1.2.2.2.1.1, osb, D1.2.2.2.2.1.2.2.1]
      by_cases hl : c 0 2 ≤ nI (cntN (fun i => hasB x i 8) n)
      · rw [if_pos hl]; exact h123 false (by simp [savE, hl])
      · rw [if_neg hl]; exact h123 true (by simp [savE, hl, h5])
    · rw [if_neg h5]; exact h123 false (by simp [savE, h5])
  have h48 : f_X10_fetches_48 M (nI s) (nI n) (oneE c x n s) (sR σ (M + 4) x) = some (nI s, sR σ (M + 4) (ftE c x n nc)) := by
    unfold f_X10_fetches_48
    simp only [core_k D1, osb, crd_k D1 hs]
    by_cases h0 : c 1 s = 0 ∨ c 1 s = 4
    · rw [if_pos (by rcases h0 with h | h <;> rw [h] <;> decide), ← h82]
      simp [twoE, h0]
    · obtain ⟨w, hw, ew⟩ := h2 h0
      have h0' : ¬ c 1 s = 0 ∧ ¬ c 1 s = 4 := by simpa using h0
      rw [if_neg (by rw [if_neg h0'.1, if_neg h0'.2]; decide), e1, osb, e2, osb, ew, mapOf_w D1 X hw (Nat.le_refl n), osb, ← h82]
      simp [twoE, h0', ew, nI_clamp (show w < 2 ^ 31 by omega)]
  unfold f_X10_fetches f_X10_fetches_0
  rw [if_pos D1.1]
  simp only [xa_k D1, osb, r35_k D1, r34_k D1, core_k D1, es, hn, crd_k D1 hs]
  by_cases h0 : c 1 s = 0
  · rw [if_pos (by rw [h0]; decide), ← h48]
    simp [oneE, h0]
  · obtain ⟨w, hw, ew⟩ := h1 h0
    rw [if_neg (by rw [if_neg h0]; by_cases h4 : c 1 s = 4 <;> simp [h4] <;> decide), b1, osb, b2, osb, ew, mapOf_w D1 X hw (Nat.le_refl n), osb, ← h48]
    simp [oneE, h0, ew, nI_clamp (show w < 2 ^ 31 by omega)]
end Mod8
