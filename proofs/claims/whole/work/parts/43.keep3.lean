/-! WHAT A ROW KEEPS: commits and fetches -/
section Keep3
variable {c : Nat → Nat → Int32} {m : Nat} {x y : Nat → Int32} {n n' nc : Nat}
theorem keep_co (X : Xok c m x n nc) (C : Cok c m) (O : Xo2 c x n) (V : Xv x) (h0 : 0 < n) : Xok c m (coE c x) (coN x n) nc ∧ Xo2 c (coE c x) (coN x n) ∧ Xv (coE c x) := by
  have h12 := X.1
  cases ht : hasB x 0 2 with
  | true =>
    have hc : coE c x = ux (ux (ux x 34 0) 36 1) 35 (x 39) := by unfold coE; rw [if_pos ht]
    have hn : coN x n = 0 := by unfold coN; rw [if_pos ht]
    rw [hc, hn]
    refine ⟨X.of (by omega) (by rw [ux_n (by omega), ux_n (by omega), ux_e]; rfl) (fun j hj => by rw [ux_n (by omega), ux_n (by omega), ux_n (by omega)]) (Or.inr (by rw [ux_n (by omega), ux_e])) (fun i hi => absurd hi (by omega)), fun i hi => absurd hi (by omega), fun w hw => by rw [ux_n (by omega), ux_n (by omega), ux_n (by omega)]; exact V w hw⟩
  | false =>
    have hn : coN x n = n - 1 := by unfold coN; rw [if_neg (by rw [ht]; decide)]
    obtain ⟨q1, q2, q3, q4, q5⟩ := co_pt X C h0 ht
    rw [hn]
    obtain ⟨x1, x2, x3, x4, x5, ⟨x6, x6'⟩, x7, x8⟩ := X
    have hE : ∀ i, i < n - 1 → coE c x (39 + 13 * i) = x (39 + 13 * (i + 1)) := fun i hi => by
      have := q2 i 0 (by omega) (by omega)
      rwa [Nat.add_zero, Nat.add_zero] at this
    have hk : ∀ i, i < n - 1 → kdE c (coE c x) i = kdE c x (i + 1) := fun i hi => by unfold kdE sS; rw [hE i hi]
    refine ⟨⟨by omega, Int32.le_trans (nI_le (by omega) (by omega)) x2, x3, q3, by rw [q4 36 (by omega) (by omega) (by omega) (by omega)]; exact x5, ⟨fun he => ?_, fun r hr h8 => ?_⟩, fun r hr => ?_, fun i hi => ?_⟩, fun i hi => ?_, fun w hw => by rw [q4 (9 + w) (by omega) (by omega) (by omega) (by omega)]; exact V w hw⟩
    · rw [q5, x6 he]
      by_cases h : toE c x 0 = -1
      · rw [if_pos h]
      · rw [if_neg h]; refine b_ext (fun i hi => ?_); rw [b_and, b_0]; rfl
    · rw [q5]
      by_cases h : toE c x 0 = -1
      · rw [if_pos h]; exact x6' r hr h8
      · rw [if_neg h, b_and, x6' r hr h8]; rfl
    · rw [q1 r hr]
      by_cases h : toE c x 0 = nI r
      · rw [if_pos h]
        have := mapE_ok (n := n) ⟨x1, x2, x3, x4, x5, ⟨x6, x6'⟩, x7, x8⟩ C hr 1 (by omega)
        have e : mapE c x r 1 = x 40 := by
          show (if toE c x 0 = nI r then x (39 + 13 * 0 + 1) else _) = _
          rw [if_pos h]
        rw [e] at this
        exact this
      · rw [if_neg h]; exact x7 r hr
    · rw [hk i hi, hE i hi, q2 i 1 (by omega) (by omega), q2 i 2 (by omega) (by omega), q2 i 3 (by omega) (by omega)]
      exact x8 (i + 1) (by omega)
    · have hh : ∀ q, hasB (coE c x) i q = hasB x (i + 1) q := fun q => by unfold hasB; rw [q2 i 4 (by omega) (by omega)]
      rw [hh, hh, hk i hi]
      obtain ⟨o1, o2⟩ := O (i + 1) (by omega)
      refine ⟨o1, fun h => ⟨(o2 h).1, fun r hr => ?_⟩⟩
      have := q2 i (5 + r) (by omega) (by omega)
      rw [← Nat.add_assoc, ← Nat.add_assoc] at this
      rw [this, (o2 h).2 r hr]
      exact (map_co ⟨x1, x2, x3, x4, x5, ⟨x6, x6'⟩, x7, x8⟩ C h0 ht hr i (by omega)).symm
theorem keep_ft (X : Xok c m x n nc) (C : Cok c m) (O : Xo2 c x n) (V : Xv x) {s : Nat} (hs : s < m) (es : x 35 = nI s) (hlt : ¬ nI n = c 0 1) (hl : ¬ c 1 s = 5 → merE c x n s = false → lowE c x n nc ≠ none) : n < 12 ∧ Xok c m (ftE c x n nc) (n + 1) nc ∧ Xo2 c (ftE c x n nc) (n + 1) ∧ Xv (ftE c x n nc) := by
  have h12 := X.1
  have h24 := X.2.2.1
  have hm := C.1
  obtain ⟨W, W1, W2, eW⟩ := C.2.2.1
  have hnW : n < W := by
    have h1 := X.2.1
    rw [eW] at h1 hlt
    have := (nI_leI (a := n) (b := W) (by omega) (by omega)).mp h1
    have : n ≠ W := fun h => hlt (by rw [h])
    omega
  have ess : (x 35).toNatClampNeg = s := by rw [es, nI_clamp (by omega)]
  have hfe : ftE c x n nc = ft2 c (ft1 c x n nc s) n s (newE c x n nc s) (oneE c x n s) (twoE c x n s) (merE c x n s) (savE c x n s) := by unfold ftE; rw [ess]
  have hC := C.2.2.2.2.2.2 s hs
  have f1 : ∀ j, j ≠ 8 → j ≠ 33 → ft1 c x n nc s j = x j := fun j h1 h2 => by
    unfold ft1
    by_cases h : c 1 s = 5 ∨ merE c x n s = true
    · rw [if_pos h]
    · rw [if_neg h]; unfold takE; rw [ux_n h2, ux_n h1]
  have one : isC (oneE c x n s) nc := by
    unfold oneE
    by_cases h0 : c 1 s = 0
    · rw [if_pos h0]; exact Or.inl rfl
    · rw [if_neg h0]
      have := hC.2.2.1
      rw [if_neg h0] at this
      obtain ⟨r, hr, er⟩ := this
      rw [er, nI_clamp (by omega)]
      exact Or.inr (mapE_ok X C hr n (Nat.le_refl n))
  have two : isC (twoE c x n s) nc := by
    unfold twoE
    by_cases h0 : c 1 s = 0 ∨ c 1 s = 4
    · rw [if_pos h0]; exact Or.inl rfl
    · rw [if_neg h0]
      have := hC.2.2.2.1
      rw [if_neg h0] at this
      obtain ⟨r, hr, er⟩ := this
      rw [er, nI_clamp (by omega)]
      exact Or.inr (mapE_ok X C hr n (Nat.le_refl n))
  have mg4 : merE c x n s = true → c 1 s = 4 := fun h => by
    unfold merE at h
    simp only [Bool.and_eq_true, decide_eq_true_eq] at h
    exact h.1
  have new : if c 1 s = 5 then newE c x n nc s = -2 else isN (newE c x n nc s) nc := by
    unfold newE
    by_cases h5 : c 1 s = 5
    · rw [if_pos h5, if_pos h5]
    · rw [if_neg h5, if_neg h5]
      cases hmg : merE c x n s with
      | true =>
        rw [if_pos rfl]
        have h4 := mg4 hmg
        unfold oneE
        have h0 : ¬ c 1 s = 0 := by rw [h4]; decide
        rw [if_neg h0]
        have := hC.2.2.1
        rw [if_neg h0] at this
        obtain ⟨r, hr, er⟩ := this
        rw [er, nI_clamp (by omega)]
        exact mapE_ok X C hr n (Nat.le_refl n)
      | false =>
        rw [if_neg (by decide)]
        cases hq : lowE c x n nc with
        | none => exact absurd hq (hl h5 hmg)
        | some w => exact ⟨w, (fstN_some hq).1, rfl⟩
  have g8 : (c 0 4 = 0 → ft1 c x n nc s 8 = 0) ∧ ∀ r, r < 32 → 8 ≤ r → bt (ft1 c x n nc s 8) r = false := by
    obtain ⟨x6, x6'⟩ := X.2.2.2.2.2.1
    unfold ft1
    by_cases h : c 1 s = 5 ∨ merE c x n s = true
    · rw [if_pos h]; exact ⟨x6, x6'⟩
    · rw [if_neg h]
      have e8 : takE x (newE c x n nc s) 8 = x 8 ||| setN (fun r => decide (x r = newE c x n nc s)) 8 := by unfold takE; rw [ux_n (by omega), ux_e]
      rw [e8]
      refine ⟨fun he => ?_, fun r hr h8 => ?_⟩
      · have h5 : ¬ c 1 s = 5 := fun q => h (Or.inl q)
        have hmg : merE c x n s = false := by
          cases hq : merE c x n s with
          | false => rfl
          | true => exact absurd (Or.inr hq) h
        cases hq : lowE c x n nc with
        | none => exact absurd hq (hl h5 hmg)
        | some w =>
          obtain ⟨w1, w2, -⟩ := fstN_some hq
          have hnew : newE c x n nc s = nI w := by simp [newE, h5, hmg, hq, o2i]
          have hz : setN (fun r => decide (x r = newE c x n nc s)) 8 = 0 := (setN_0 (by omega)).mpr (by
            cases hf : fstN (fun r => decide (x r = newE c x n nc s)) 8 with
            | none => rfl
            | some r =>
              obtain ⟨r1, r2, -⟩ := fstN_some hf
              have hxr : x r = nI w := by rw [← hnew]; simpa using r2
              have hg : goneE c x n r = false := by simp [goneE, he, x6 he, b_0]
              have hfre : hldE x n (nI w) (goneE c x n) = 0 := by
                unfold freE at w2; simpa using w2
              unfold hldE at hfre
              have h2 := (cntN_zero.mp (Nat.add_eq_zero_iff.mp hfre).2) r r1
              simp [hxr, hg] at h2)
          rw [hz, x6 he]; decide
      · rw [b_or, x6' r hr h8, b_setN (by omega) hr]
        simp; omega
  have hold : ∀ i, i < n → ∀ f, f < 13 → ftE c x n nc (39 + 13 * i + f) = x (39 + 13 * i + f) := fun i hi f hf => by
    rw [hfe, ft2_en hi hf, f1 _ (by omega) (by omega)]
  have hkold : ∀ i, i < n → kdE c (ftE c x n nc) i = kdE c x i := fun i hi => by
    have := hold i hi 0 (by omega)
    rw [Nat.add_zero] at this
    unfold kdE sS; rw [this]
  have hkn : kdE c (ftE c x n nc) n = c 1 s := by unfold kdE sS; rw [hfe, ft2_e0, nI_clamp (by omega)]
  have hkept : ∀ r, r < 8 → ftE c x n nc r = x r := fun r hr => by rw [hfe, ft2_lo (by omega) (by omega) (by omega), f1 _ (by omega) (by omega)]
  have hmap : ∀ r, r < 8 → ∀ i, i ≤ n → mapE c (ftE c x n nc) r i = mapE c x r i := fun r hr i hi => mapE_congr (hkept r hr) (fun j h1 h2 => by
    have := hold ((j - 39) / 13) (by omega) ((j - 39) % 13) (by omega)
    rwa [show 39 + 13 * ((j - 39) / 13) + (j - 39) % 13 = j by omega] at this)
  refine ⟨by omega, ⟨by omega, ?_, h24, ?_, ?_, ?_, ?_, ?_⟩, ?_, ?_⟩
  · rw [eW]; exact nI_le (by omega) (by omega)
  · rw [hfe, ft2_34, f1 _ (by omega) (by omega), X.2.2.2.1, nI_1]
  · rw [hfe, ft2_lo (by omega) (by omega) (by omega), f1 _ (by omega) (by omega)]; exact X.2.2.2.2.1
  · rw [hfe, ft2_lo (by omega) (by omega) (by omega)]; exact g8
  · intro r hr; rw [hkept r hr]; exact X.2.2.2.2.2.2.1 r hr
  · intro i hi
    by_cases h : i = n
    · subst h
      rw [hkn, hfe, ft2_e0, ft2_e1, ft2_e2, ft2_e3]
      exact ⟨⟨s, hs, rfl⟩, new, one, two⟩
    · have hi' : i < n := by omega
      have e0 := hold i hi' 0 (by omega)
      rw [Nat.add_zero] at e0
      rw [hkold i hi', e0, hold i hi' 1 (by omega), hold i hi' 2 (by omega), hold i hi' 3 (by omega)]
      exact X.2.2.2.2.2.2.2 i hi'
  · intro i hi
    by_cases h : i = n
    · subst h
      obtain ⟨-, -, d3, d4⟩ := hasB_bt (ftE c x i nc) i
      have e4 : ftE c x i nc (39 + 13 * i + 4) = ((if merE c x i s = true then 5 else 0) ||| (if savE c x i s = true then 8 else 0)) := by rw [hfe, ft2_e4]
      obtain ⟨-, -, m3, m4⟩ := ft_mk (merE c x i s) (savE c x i s)
      rw [d3, d4, e4, m3, m4, hkn]
      refine ⟨mg4, fun h => ⟨?_, fun r hr => ?_⟩⟩
      · unfold savE at h
        simp only [Bool.and_eq_true, decide_eq_true_eq] at h
        exact h.1
      · have e5 : ftE c x i nc (39 + 13 * i + 5 + r) = mapE c (ft1 c x i nc s) r i := by rw [hfe, ft2_sv hr, if_pos h]
        rw [e5, hmap r hr i (Nat.le_refl i)]
        exact mapE_congr (f1 r (by omega) (by omega)) (fun j h1 h2 => f1 j (by omega) (by omega))
    · have hi' : i < n := by omega
      have hh : ∀ q, hasB (ftE c x n nc) i q = hasB x i q := fun q => by unfold hasB; rw [hold i hi' 4 (by omega)]
      rw [hh, hh, hkold i hi']
      obtain ⟨o1, o2⟩ := O i hi'
      refine ⟨o1, fun h => ⟨(o2 h).1, fun r hr => ?_⟩⟩
      have e5 := hold i hi' (5 + r) (by omega)
      rw [← Nat.add_assoc] at e5
      rw [e5, hmap r hr i (by omega)]
      exact (o2 h).2 r hr
  · intro w hw
    rw [hfe, ft2_lo (by omega) (by omega) (by omega), f1 _ (by omega) (by omega)]
    exact V w hw
end Keep3
