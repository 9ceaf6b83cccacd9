/-! WHAT A TEXT SAYS: what holds of it -/
section Prs
variable {b : Nat → Int32} {L p q k : Nat} {c : Cc} {m nu ng : Nat} {r : Int32 × Nat} {s : Cc × Nat}
theorem isW_u {w w' : List Int32} (h : isW b L p w = true) (g : isW b L p w' = true) : w = w' := by
  unfold isW at h g
  rw [Bool.and_eq_true, Bool.and_eq_true] at h g
  have l1 := of_decide_eq_true h.2.1
  have l2 := of_decide_eq_true g.2.1
  have a1 := allN_iff.mp h.2.2
  have a2 := allN_iff.mp g.2.2
  have hl : w.length = w'.length := by omega
  apply List.ext_getElem hl
  intro i i1 i2
  have e1 := of_decide_eq_true (a1 i i1)
  have e2 := of_decide_eq_true (a2 i i2)
  rw [e1] at e2
  simpa [List.getD, List.getElem?_eq_getElem i1, List.getElem?_eq_getElem i2] using e2
theorem isDg_q {v : Int32} (h : isDg v = true) : ∃ q, q < 10 ∧ v - 48 = nI q := by
  unfold isDg at h
  simp only [Bool.not_eq_true', decide_eq_false_iff_not] at h
  have h0 : ¬ v < 48 := fun g => h (Or.inl g)
  have h1 : ¬ 57 < v := fun g => h (Or.inr g)
  obtain ⟨w, w1, w2, e⟩ := isN_r (v := v) (a := 48) (e := 57) (by omega) (Int32.not_lt.mp h0) (Int32.not_lt.mp h1) (by omega)
  refine ⟨w - 48, by omega, ?_⟩
  rw [e, show (48 : Int32) = nI 48 from rfl, pk_sub w1]
theorem whN_v : ∀ {r p v : Nat}, (∀ j, j < r → isDg (b (p + j)) = true) → (v + 1) * 10 ^ r ≤ 100000 → ∃ w, w < (v + 1) * 10 ^ r ∧ whN b r p (nI v) = nI w
  | 0, p, v, _, _ => ⟨v, by omega, rfl⟩
  | r + 1, p, v, h, hb => by
    obtain ⟨d, hd, ed⟩ := isDg_q (h 0 (by omega))
    have h10 : nI v * 10 = nI (v * 10) := by
      unfold nI
      rw [Int32.ofNat_mul]
      rfl
    have e10 : (v + 1) * 10 ^ (r + 1) = (v * 10 + 10) * 10 ^ r := by rw [Nat.pow_succ, show v * 10 + 10 = (v + 1) * 10 by omega, Nat.mul_assoc, Nat.mul_comm (10 ^ r) 10]
    have hle : (v * 10 + d + 1) * 10 ^ r ≤ (v * 10 + 10) * 10 ^ r := Nat.mul_le_mul_right _ (by omega)
    obtain ⟨w, w1, w2⟩ := whN_v (r := r) (p := p + 1) (v := v * 10 + d) (fun j hj => by rw [show p + 1 + j = p + (j + 1) by omega]; exact h (j + 1) (by omega)) (by omega)
    refine ⟨w, by omega, ?_⟩
    show whN b r (p + 1) (nI v * 10 + (b p - 48)) = nI w
    rw [show b p - 48 = nI d from ed, h10, nI_add]
    exact w2
theorem tkS_n (h : tkS b L p = 2) : p < L ∧ isDg (b p) = true ∧ isL (b p) = false ∧ tkE b L p - p ≤ 4 := by
  unfold tkS at h
  by_cases h1 : L ≤ p
  · rw [if_pos h1] at h; omega
  · rw [if_neg h1] at h
    by_cases h2 : isL (b p) = true
    · rw [if_pos h2] at h
      split at h <;> omega
    · rw [if_neg h2] at h
      by_cases h4 : isDg (b p) = true
      · rw [if_pos h4] at h
        by_cases h3 : tkE b L p - p ≤ 4
        · exact ⟨by omega, h4, by cases hq : isL (b p) with | false => rfl | true => exact absurd hq h2, h3⟩
        · rw [if_neg h3] at h; omega
      · rw [if_neg h4] at h
        split at h <;> omega
theorem va_b (h : tkS b L p = 2) : ∃ w, w < 10000 ∧ vaE b L p = nI w := by
  obtain ⟨h1, h2, h3, h4⟩ := tkS_n h
  have hE := tkE_D h1 h2 h3
  have hp : 10 ^ (tkE b L p - p) ≤ 10 ^ 4 := Nat.pow_le_pow_right (by omega) h4
  obtain ⟨w, w1, w2⟩ := whN_v (b := b) (r := tkE b L p - p) (p := p) (v := 0) (fun j hj => sk_all (q := isDg) (r := L - p) (p := p) (by omega) (by rw [← hE]; omega)) (by omega)
  exact ⟨w, by omega, w2⟩
theorem pWhole_n {a e : Nat} (he : e < 2 ^ 31) (ha : a < 2 ^ 31) (h : pWhole b L (nI a) (nI e) p = .inr r) : r.2 = adP b L p ∧ ∃ w, a ≤ w ∧ w ≤ e ∧ r.1 = nI w := by
  obtain ⟨h1, h2, h3, h4, h5⟩ := pWhole_i h
  exact ⟨h3, isN_r he h4 h5 ha⟩
theorem pWhole_7 (h : pWhole b L 0 7 p = .inr r) : r.2 = adP b L p ∧ isN r.1 8 := by
  obtain ⟨h1, w, -, h2, h3⟩ := pWhole_n (a := 0) (e := 7) (by omega) (by omega) h
  exact ⟨h1, w, by omega, h3⟩
theorem pWhole_9 (h : pWhole b L 0 9999 p = .inr r) : r.2 = adP b L p ∧ isN r.1 10000 := by
  obtain ⟨h1, w, -, h2, h3⟩ := pWhole_n (a := 0) (e := 9999) (by omega) (by omega) h
  exact ⟨h1, w, by omega, h3⟩
theorem pCore_i (hp : p ≤ L) (h : pCore b L p = .inr s) : p ≤ s.2 ∧ s.2 ≤ L ∧ Gq s.1 0 0 0 := by
  unfold pCore at h
  obtain ⟨p0, e0, h⟩ := andS_i h
  obtain ⟨q0, f0, h⟩ := andS_i h
  obtain ⟨p1, e1, h⟩ := andS_i h
  obtain ⟨q1, f1, h⟩ := andS_i h
  obtain ⟨p2, e2, h⟩ := andS_i h
  obtain ⟨q2, f2, h⟩ := andS_i h
  obtain ⟨p3, e3, h⟩ := andS_i h
  obtain ⟨q3, f3, h⟩ := andS_i h
  obtain ⟨q4, f4, h⟩ := andS_i h
  obtain ⟨g0, w0, a0, c0, d0⟩ := pWhole_n (a := 9) (e := 24) (by omega) (by omega) f0
  obtain ⟨g1, w1, a1, c1, d1⟩ := pWhole_n (a := 2) (e := 12) (by omega) (by omega) f1
  obtain ⟨g2, w2, a2, c2, d2⟩ := pWhole_n (a := 0) (e := 4) (by omega) (by omega) f2
  obtain ⟨g3, w3, a3, c3, d3⟩ := pWhole_n (a := 1) (e := 4) (by omega) (by omega) f3
  obtain ⟨g4, d4⟩ := pOr_i f4
  have n0 := adP_b (b := b) hp
  rw [← pWord_i e0] at n0
  have m0 := adP_b (b := b) n0.2
  rw [← g0] at m0
  have n1 := adP_b (b := b) m0.2
  rw [← pWord_i e1] at n1
  have m1 := adP_b (b := b) n1.2
  rw [← g1] at m1
  have n2 := adP_b (b := b) m1.2
  rw [← pWord_i e2] at n2
  have m2 := adP_b (b := b) n2.2
  rw [← g2] at m2
  have n3 := adP_b (b := b) m2.2
  rw [← pWord_i e3] at n3
  have m3 := adP_b (b := b) n3.2
  rw [← g3] at m3
  have m4 := adP_b (b := b) m3.2
  rw [← g4] at m4
  cases h
  dsimp only
  refine ⟨by omega, by omega, ?_, ?_, w0, a0, c0, d0⟩
  · exact ⟨by omega, rfl, ⟨w1, a1, c1, d1⟩, ⟨w2, by omega, d2⟩, ⟨w3, by omega, d3⟩, d4, fun i hi => absurd hi (by omega)⟩
  · exact ⟨by omega, rfl, by omega, rfl, fun u v _ hv => absurd hv (by omega), fun u hu => absurd hu (by omega), fun u hu => absurd hu (by omega)⟩
theorem pD_i (hp : p ≤ L) (h : pD b L k p = .inr r) : p ≤ r.2 ∧ r.2 ≤ L ∧ (if k = 5 then r.1 = -1 else isN r.1 8) := by
  unfold pD at h
  by_cases hk : k = 5
  · rw [if_pos hk] at h ⊢; cases h; exact ⟨Nat.le_refl _, hp, rfl⟩
  · rw [if_neg hk] at h ⊢
    have := pWhole_7 h
    have := adP_b (b := b) hp
    exact ⟨by omega, by omega, (pWhole_7 h).2⟩
theorem pA_i (hp : p ≤ L) (h : pA b L k p = .inr r) : p ≤ r.2 ∧ r.2 ≤ L ∧ (if k = 0 then r.1 = -1 else isN r.1 8) := by
  unfold pA at h
  by_cases hk : k = 0
  · rw [if_pos hk] at h ⊢; cases h; exact ⟨Nat.le_refl _, hp, rfl⟩
  · rw [if_neg hk] at h ⊢
    have := pWhole_7 h
    have := adP_b (b := b) hp
    exact ⟨by omega, by omega, (pWhole_7 h).2⟩
theorem pE_i (hp : p ≤ L) (h : pE b L k p = .inr r) : p ≤ r.2 ∧ r.2 ≤ L ∧ (if k = 0 ∨ k = 4 then r.1 = -1 else isN r.1 8) := by
  unfold pE at h
  by_cases hk : k = 0 ∨ k = 4
  · rw [if_pos hk] at h ⊢; cases h; exact ⟨Nat.le_refl _, hp, rfl⟩
  · rw [if_neg hk] at h ⊢
    have := pWhole_7 h
    have := adP_b (b := b) hp
    exact ⟨by omega, by omega, (pWhole_7 h).2⟩
theorem pV_i (hp : p ≤ L) (h : pV b L k p = .inr r) : p ≤ r.2 ∧ r.2 ≤ L ∧ isN r.1 10000 := by
  unfold pV at h
  have ha := adP_b (b := b) hp
  by_cases hk : k = 0
  · rw [if_pos hk] at h
    have := pWhole_9 h
    exact ⟨by omega, by omega, this.2⟩
  · rw [if_neg hk] at h
    by_cases h5 : k = 5
    · rw [if_pos h5] at h
      obtain ⟨h1, w, -, h2, h3⟩ := pWhole_n (a := 0) (e := 24) (by omega) (by omega) h
      exact ⟨by omega, by omega, w, by omega, h3⟩
    · rw [if_neg h5] at h
      cases h
      exact ⟨Nat.le_refl _, hp, 0, by omega, rfl⟩
theorem pY_i (hp : p ≤ L) (h : pY b L k p = .inr r) : p ≤ r.2 ∧ r.2 ≤ L ∧ (r.1 = 0 ∨ r.1 = 1) := by
  unfold pY at h
  have ha := adP_b (b := b) hp
  by_cases hk : k = 5
  · rw [if_pos hk] at h
    have := pOr_i h
    exact ⟨by omega, by omega, this.2⟩
  · rw [if_neg hk] at h
    cases h
    exact ⟨Nat.le_refl _, hp, Or.inl rfl⟩
theorem stC_0 {c : Cc} {kk d a e v y : Int32} {j : Nat} (h : j ≠ 5) : stC c m kk d a e v y 0 j = c 0 j := by unfold stC; rw [if_pos rfl, if_neg h]
theorem stC_o {c : Cc} {kk d a e v y : Int32} {i j : Nat} (hi : i ≠ 0) (h : j ≠ m) : stC c m kk d a e v y i j = c i j := by unfold stC; rw [if_neg hi, if_neg h]
theorem stC_h {c : Cc} {kk d a e v y : Int32} {i j : Nat} (hi : 7 ≤ i) : stC c m kk d a e v y i j = c i j := by
  unfold stC
  rw [if_neg (by omega)]
  split
  · rw [if_neg (by omega), if_neg (by omega), if_neg (by omega), if_neg (by omega), if_neg (by omega), if_neg (by omega)]
  · rfl
theorem stC_m {c : Cc} {kk d a e v y : Int32} : stC c m kk d a e v y 1 m = kk ∧ stC c m kk d a e v y 2 m = d ∧ stC c m kk d a e v y 3 m = a ∧ stC c m kk d a e v y 4 m = e ∧ stC c m kk d a e v y 5 m = v ∧ stC c m kk d a e v y 6 m = y := by
  unfold stC; simp
theorem nIk {k a : Nat} (hk : k ≤ 5) (ha : a ≤ 5) : (nI k = nI a) ↔ k = a := nI_eq (by omega) (by omega)
theorem pStep_i (G : Gq c m nu ng) (hm : m < 24) (hk : k ≤ 5) (hp : p ≤ L) (h : pStep b L c m k p = .inr s) : p ≤ s.2 ∧ s.2 ≤ L ∧ Gq s.1 (m + 1) nu ng := by
  unfold pStep at h
  obtain ⟨d, e0, h⟩ := andS_i h
  obtain ⟨a, e1, h⟩ := andS_i h
  obtain ⟨e, e2, h⟩ := andS_i h
  obtain ⟨v, e3, h⟩ := andS_i h
  obtain ⟨y, e4, h⟩ := andS_i h
  obtain ⟨a1, a2, a3⟩ := pD_i hp e0
  obtain ⟨b1, b2, b3⟩ := pA_i a2 e1
  obtain ⟨c1, c2, c3⟩ := pE_i b2 e2
  obtain ⟨d1, d2, d3⟩ := pV_i c2 e3
  obtain ⟨f1, f2, f3⟩ := pY_i d2 e4
  obtain ⟨⟨g1, g2, g3, g4, g5, g6, g7⟩, ⟨u1, u2, u3, u4, u5, u6, u7⟩, nc, n1, n2, n3⟩ := G
  cases h
  dsimp only
  obtain ⟨t1, t2, t3, t4, t5, t6⟩ := stC_m (c := c) (m := m) (kk := nI k) (d := d.1) (a := a.1) (e := e.1) (v := v.1) (y := y.1)
  refine ⟨by omega, by omega, ⟨by omega, rfl, by rw [stC_0 (by omega)]; exact g3, by rw [stC_0 (by omega)]; exact g4, by rw [stC_0 (by omega)]; exact g5, by rw [stC_0 (by omega)]; exact g6, fun i hi => ?_⟩, ⟨u1, by rw [stC_0 (by omega)]; exact u2, u3, by rw [stC_0 (by omega)]; exact u4, fun x w hx hw => by rw [stC_h (by omega), stC_h (by omega)]; exact u5 x w hx hw, fun x hx => by rw [stC_h (by omega)]; exact u6 x hx, fun x hx => by rw [stC_h (by omega)]; exact u7 x hx⟩, nc, n1, n2, by rw [stC_0 (by omega)]; exact n3⟩
  by_cases hs : i = m
  · subst hs
    rw [t1, t2, t3, t4, t5, t6]
    have k5 : (nI k = 5) ↔ k = 5 := nIk (a := 5) hk (by omega)
    have k0 : (nI k = 0) ↔ k = 0 := nIk (a := 0) hk (by omega)
    have k4 : (nI k = 4) ↔ k = 4 := nIk (a := 4) hk (by omega)
    simp only [k5, k0, k4]
    exact ⟨⟨k, by omega, rfl⟩, a3, b3, c3, d3, f3⟩
  · rw [stC_o (by omega) hs, stC_o (by omega) hs, stC_o (by omega) hs, stC_o (by omega) hs, stC_o (by omega) hs, stC_o (by omega) hs]
    exact g7 i (by omega)
theorem unC_0 {c : Cc} {x v : Int32} {j : Nat} (h : j ≠ 6) : unC c nu x v 0 j = c 0 j := by unfold unC; rw [if_pos rfl, if_neg h]
theorem unC_h {c : Cc} {x v : Int32} {i j : Nat} (hi : i ≠ 0) (h : (i ≠ 7 ∧ i ≠ 8) ∨ j ≠ nu) : unC c nu x v i j = c i j := by
  unfold unC
  rw [if_neg hi]
  split
  · rw [if_neg (by omega), if_neg (by omega)]
  · rfl
theorem unC_m {c : Cc} {x v : Int32} : unC c nu x v 7 nu = x ∧ unC c nu x v 8 nu = v := by unfold unC; simp
theorem goC_0 {c : Cc} {x v : Int32} {j : Nat} (h : j ≠ 7) : goC c ng x v 0 j = c 0 j := by unfold goC; rw [if_pos rfl, if_neg h]
theorem goC_h {c : Cc} {x v : Int32} {i j : Nat} (hi : i ≠ 0) (h : (i ≠ 9 ∧ i ≠ 10) ∨ j ≠ ng) : goC c ng x v i j = c i j := by
  unfold goC
  rw [if_neg hi]
  split
  · rw [if_neg (by omega), if_neg (by omega)]
  · rfl
theorem goC_m {c : Cc} {x v : Int32} : goC c ng x v 9 ng = x ∧ goC c ng x v 10 ng = v := by unfold goC; simp
theorem pUn_i (G : Gq c m nu ng) (hm : nu < 4) (hp : p ≤ L) (h : pUn b L c nu p = .inr s) : p ≤ s.2 ∧ s.2 ≤ L ∧ Gq s.1 m (nu + 1) ng := by
  unfold pUn at h
  split at h
  · rename_i h2
    split at h
    · split at h
      · rename_i hS hA
        obtain ⟨q, e0, h⟩ := andS_i h
        obtain ⟨q1, q2⟩ := pWhole_9 e0
        have a1 := adP_b (b := b) hp
        have a2 := adP_b (b := b) a1.2
        obtain ⟨⟨g1, g2, g3, g4, g5, g6, g7⟩, ⟨u1, u2, u3, u4, u5, u6, u7⟩, nc, n1, n2, n3⟩ := G
        obtain ⟨t1, t2⟩ := unC_m (c := c) (nu := nu) (x := vaE b L p) (v := q.1)
        cases h
        dsimp only
        have hA' := allN_iff.mp hA
        refine ⟨by omega, by omega, ⟨g1, by rw [unC_0 (by omega)]; exact g2, by rw [unC_0 (by omega)]; exact g3, by rw [unC_0 (by omega)]; exact g4, by rw [unC_0 (by omega)]; exact g5, by rw [unC_0 (by omega)]; exact g6, fun i hi => ?_⟩, ⟨by omega, rfl, u3, by rw [unC_0 (by omega)]; exact u4, fun x w hx hw => ?_, fun x hx => ?_, fun x hx => ?_⟩, nc, n1, n2, by rw [unC_0 (by omega)]; exact n3⟩
        · simp only [unC_h (c := c) (nu := nu) (x := vaE b L p) (v := q.1) (i := 1) (j := i) (by omega) (by omega), unC_h (c := c) (nu := nu) (x := vaE b L p) (v := q.1) (i := 2) (j := i) (by omega) (by omega), unC_h (c := c) (nu := nu) (x := vaE b L p) (v := q.1) (i := 3) (j := i) (by omega) (by omega), unC_h (c := c) (nu := nu) (x := vaE b L p) (v := q.1) (i := 4) (j := i) (by omega) (by omega), unC_h (c := c) (nu := nu) (x := vaE b L p) (v := q.1) (i := 5) (j := i) (by omega) (by omega), unC_h (c := c) (nu := nu) (x := vaE b L p) (v := q.1) (i := 6) (j := i) (by omega) (by omega)]
          exact g7 i hi
        · rw [unC_h (j := x) (by omega) (Or.inr (by omega))]
          by_cases hq : w = nu
          · rw [hq, t1]
            have := hA' x (by omega)
            intro e
            rw [decide_eq_true e] at this
            exact absurd this (by decide)
          · rw [unC_h (by omega) (Or.inr hq)]
            exact u5 x w hx (by omega)
        · by_cases hq : x = nu
          · rw [hq, t2]; exact q2
          · rw [unC_h (by omega) (Or.inr hq)]
            exact u6 x (by omega)
        · rw [unC_h (by omega) (by omega)]
          exact u7 x hx
      · cases h
    · cases h
  · cases h
theorem pGo_i (G : Gq c m nu ng) (hm : ng < 6) (hp : p ≤ L) (h : pGo b L c ng p = .inr s) : p ≤ s.2 ∧ s.2 ≤ L ∧ Gq s.1 m nu (ng + 1) := by
  unfold pGo at h
  obtain ⟨q, e0, h⟩ := andS_i h
  split at h
  · obtain ⟨w, e1, h⟩ := andS_i h
    obtain ⟨q1, q2⟩ := pWhole_7 e0
    obtain ⟨w1, w2⟩ := pWhole_9 e1
    have a1 := adP_b (b := b) hp
    rw [← q1] at a1
    have a2 := adP_b (b := b) a1.2
    rw [← w1] at a2
    obtain ⟨⟨g1, g2, g3, g4, g5, g6, g7⟩, ⟨u1, u2, u3, u4, u5, u6, u7⟩, nc, n1, n2, n3⟩ := G
    obtain ⟨t1, t2⟩ := goC_m (c := c) (ng := ng) (x := q.1) (v := w.1)
    cases h
    dsimp only
    refine ⟨by omega, by omega, ⟨g1, by rw [goC_0 (by omega)]; exact g2, by rw [goC_0 (by omega)]; exact g3, by rw [goC_0 (by omega)]; exact g4, by rw [goC_0 (by omega)]; exact g5, by rw [goC_0 (by omega)]; exact g6, fun i hi => ?_⟩, ⟨u1, by rw [goC_0 (by omega)]; exact u2, by omega, rfl, fun x y hx hy => ?_, fun x hx => ?_, fun x hx => ?_⟩, nc, n1, n2, by rw [goC_0 (by omega)]; exact n3⟩
    · simp only [goC_h (c := c) (ng := ng) (x := q.1) (v := w.1) (i := 1) (j := i) (by omega) (by omega), goC_h (c := c) (ng := ng) (x := q.1) (v := w.1) (i := 2) (j := i) (by omega) (by omega), goC_h (c := c) (ng := ng) (x := q.1) (v := w.1) (i := 3) (j := i) (by omega) (by omega), goC_h (c := c) (ng := ng) (x := q.1) (v := w.1) (i := 4) (j := i) (by omega) (by omega), goC_h (c := c) (ng := ng) (x := q.1) (v := w.1) (i := 5) (j := i) (by omega) (by omega), goC_h (c := c) (ng := ng) (x := q.1) (v := w.1) (i := 6) (j := i) (by omega) (by omega)]
      exact g7 i hi
    · rw [goC_h (by omega) (by omega), goC_h (by omega) (by omega)]
      exact u5 x y hx hy
    · rw [goC_h (by omega) (by omega)]
      exact u6 x hx
    · by_cases hq : x = ng
      · rw [hq, t1]; exact q2
      · rw [goC_h (by omega) (Or.inr hq)]
        exact u7 x (by omega)
  · cases h
theorem lnK_9 : lnK b L p ≤ 9 := by unfold lnK; (repeat' split) <;> omega
theorem pLine_i {told : Bool} {s : PS} {r : PS × Nat} (G : told = true → Gs s) (hp : p ≤ L) (h : pLine b L told s p = .inr r) : p ≤ r.2 ∧ r.2 ≤ L ∧ Gs r.1 := by
  have ha := adP_b (b := b) hp
  have h9 := lnK_9 (b := b) (L := L) (p := p)
  unfold pLine at h
  split at h
  · cases h
  · split at h
    · split at h
      · cases h
      · obtain ⟨q, e, h⟩ := andS_i h
        have := pCore_i ha.2 e
        cases h
        exact ⟨by dsimp only; omega, this.2⟩
    · split at h
      · cases h
      · rename_i ht
        have G' := G (by cases told with | true => rfl | false => exact absurd rfl ht)
        split at h
        · split at h
          · cases h
          · obtain ⟨q, e, h⟩ := andS_i h
            have := pUn_i G' (by omega) ha.2 e
            cases h
            exact ⟨by dsimp only; omega, this.2⟩
        · split at h
          · split at h
            · cases h
            · obtain ⟨q, e, h⟩ := andS_i h
              have := pGo_i G' (by omega) ha.2 e
              cases h
              exact ⟨by dsimp only; omega, this.2⟩
          · split at h
            · cases h
            · obtain ⟨q, e, h⟩ := andS_i h
              have := pStep_i G' (by omega) (by omega) ha.2 e
              cases h
              exact ⟨by dsimp only; omega, this.2⟩
theorem pAll_i : ∀ {f : Nat} {told : Bool} {s t : PS} {p : Nat}, (told = true → Gs s) → p ≤ L → pAll b L f told s p = .inr t → Gs t ∧ 0 < t.2.1
  | 0, _, _, _, _, _, _, h => by cases h
  | f + 1, told, s, t, p, G, hp, h => by
    obtain ⟨q, e, h⟩ := andS_i (show andS (pLine b L told s p) _ = .inr t from h)
    obtain ⟨h1, h2, h3⟩ := pLine_i G hp e
    split at h
    · split at h
      · rename_i h0
        cases h
        exact ⟨h3, h0⟩
      · cases h
    · split at h
      · exact pAll_i (fun _ => h3) (adP_b h2).2 h
      · cases h
end Prs
