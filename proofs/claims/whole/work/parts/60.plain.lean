/-! THE PLAIN MACHINE: what it comes to; the class's -/
/-- what was told of unsure and got numbers: nu and ng of them -/
def Cun (c : Nat → Nat → Int32) (nu ng : Nat) : Prop := nu ≤ 4 ∧ c 0 6 = nI nu ∧ ng ≤ 6 ∧ c 0 7 = nI ng ∧ (∀ u v, u < v → v < nu → c 7 u ≠ c 7 v) ∧ (∀ u, u < nu → isN (c 8 u) 10000) ∧ (∀ g, g < ng → isN (c 9 g) 8)
def nbC (c : Nat → Nat → Int32) (nu : Nat) (o : Int32) (s : Nat) : Int32 := match fstN (fun u => decide (c 7 u = nI s) && bt o u) nu with
  | some u => c 8 u
  | none => c 5 s
def nbE (c : Nat → Nat → Int32) (nu : Nat) (o : Int32) (s : Nat) : Int32 := match fstN (fun u => decide (c 7 u = nI s)) nu with
  | some u => if bt o u = true then c 8 u else c 5 s
  | none => c 5 s
theorem nb_eq {c : Nat → Nat → Int32} {nu ng : Nat} {o : Int32} {s : Nat} (N : Cun c nu ng) : nbC c nu o s = nbE c nu o s := by
  unfold nbC nbE
  cases h : fstN (fun u => decide (c 7 u = nI s)) nu with
  | none =>
    have h0 := fstN_none h
    cases g : fstN (fun u => decide (c 7 u = nI s) && bt o u) nu with
    | none => rfl
    | some u =>
      obtain ⟨g1, g2, -⟩ := fstN_some g
      have := h0 u g1
      rw [this] at g2
      cases g2
  | some u =>
    obtain ⟨h1, h2, h3⟩ := fstN_some h
    have h2' : c 7 u = nI s := of_decide_eq_true h2
    cases hb : bt o u with
    | true =>
      rw [fstN_of (p := fun u => decide (c 7 u = nI s) && bt o u) (j := u) h1 (by rw [h2, hb]; rfl) (fun i hi => by rw [h3 i hi]; rfl)]
      simp [hb]
    | false =>
      cases g : fstN (fun u => decide (c 7 u = nI s) && bt o u) nu with
      | none => simp [hb]
      | some v =>
        obtain ⟨g1, g2, -⟩ := fstN_some g
        simp only [Bool.and_eq_true, decide_eq_true_eq] at g2
        have hv : v ≠ u := fun e => by rw [e, hb] at g2; cases g2.2
        rcases Nat.lt_or_gt_of_ne hv with q | q
        · exact absurd (g2.1.trans h2'.symm) (N.2.2.2.2.1 v u q h1)
        · exact absurd (h2'.trans g2.1.symm) (N.2.2.2.2.1 u v q g1)
def rdP (rg : Nat → Int32) (v : Int32) : Int32 := if v = -1 then 0 else rg v.toNatClampNeg
/-- what a step that changes a register makes of it -/
def vaP (c : Nat → Nat → Int32) (nu : Nat) (o : Int32) (s : Nat) (a b : Int32) : Int32 := if c 1 s = 0 then nbE c nu o s else if c 1 s = 4 then a else cmE (c 1 s) a b
/-- so many steps more: registers, next, done, missed, trapped -/
def plK (c : Nat → Nat → Int32) (nu : Nat) (o : Int32) : Nat → (Nat → Int32) → Int32 → Nat → Int32 → (Nat → Int32) × Int32 × Nat × Int32 × Bool
  | 0, rg, nx, d, ms => (rg, nx, d, ms, false)
  | q + 1, rg, nx, d, ms =>
    if nx < 0 ∨ c 0 5 ≤ nx then (rg, nx, d, ms, false) else
    if c 1 nx.toNatClampNeg = 5 then plK c nu o q rg (nxE c nx.toNatClampNeg (rdP rg (c 3 nx.toNatClampNeg)) (rdP rg (c 4 nx.toNatClampNeg))) (d + 1) (ms + (if nxE c nx.toNatClampNeg (rdP rg (c 3 nx.toNatClampNeg)) (rdP rg (c 4 nx.toNatClampNeg)) = gsE c nx.toNatClampNeg then 0 else 1)) else
    if c 1 nx.toNatClampNeg = 3 ∧ rdP rg (c 4 nx.toNatClampNeg) = 0 then (rg, nx, d, ms, true) else
    plK c nu o q (ux rg (c 2 nx.toNatClampNeg).toNatClampNeg (vaP c nu o nx.toNatClampNeg (rdP rg (c 3 nx.toNatClampNeg)) (rdP rg (c 4 nx.toNatClampNeg)))) (nx + 1) (d + 1) ms
def Prg (rg : Nat → Int32) : Prop := ∀ r, r < 8 → isN (rg r) 10000
def LSh (σ : St) (y : Nat) : Prop := hT σ y = 5 ∧ Fld σ y 0 (y + 1) 22 8
def inL (y r : Nat) : Prop := y ≤ r ∧ r ≤ y + 1
theorem LSh.fr {S : Nat → Prop} {σ τ : St} {y : Nat} (h : LSh σ y) (F : Fr S σ τ) : LSh τ y := ⟨by rw [F.1]; exact h.1, by rw [F.2.2.1]; exact h.2.1, by rw [F.1]; exact h.2.2.1, by rw [F.2.1]; exact h.2.2.2⟩
theorem LSh.sm {σ τ : St} {y : Nat} (h : LSh σ y) (s : ∀ r, y ≤ r → r ≤ y + 1 → Sm σ τ r) : LSh τ y := ⟨by rw [(s y (by omega) (by omega)).1]; exact h.1, h.2.sm (s y (by omega) (by omega)) (s _ (by omega) (by omega))⟩
section Plain
variable {σ τ υ : St} {a p y : Nat} {c : Nat → Nat → Int32} {m : Nat} {x : Nat → Int32} {n nc s nu ng : Nat} {o : Int32} {rg : Nat → Int32}
theorem Mc.hi {S : Nat → Prop} (h : Mc σ a p c m x n nc) (hd : p + 10 < a) (F : Fr S σ τ) (hS : ∀ r, S r → a + 6 < r) : Mc τ a p c m x n nc :=
  h.sm (fun q h1 h2 => F.sm (fun g => by have := hS q g; omega)) (fun q h1 h2 => F.sm (fun g => by have := hS q g; omega))
theorem rd_ok (hr : Prg rg) {v : Int32} (hv : v = -1 ∨ isN v 8) : ∃ q, q < 10000 ∧ rdP rg v = nI q := by
  unfold rdP
  rcases hv with h | ⟨w, hw, rfl⟩
  · exact ⟨0, by omega, by rw [if_pos h]; rfl⟩
  · rw [if_neg (nI_nm1 (by omega)), nI_clamp (by omega)]; exact hr w hw
theorem read_c (L : LSh σ y) (hr : ∀ r, r < 8 → hI σ (y + 1) r = rg r) {v : Int32} (hv : v = -1 ∨ isN v 8) : f_X4_read y v σ = some (rdP rg v, σ) := by
  unfold f_X4_read f_X4_read_0 f_X4_read_17 rdP
  rw [if_pos L.1, reg_f, osb]
  dsimp only
  rcases hv with h | ⟨w, hw, rfl⟩
  · subst h
    rw [if_pos (by decide), if_pos rfl]
  · rw [if_neg (by
      rw [decide_eq_false (fun h => by
        rcases h with h | h
        · exact nI_pos (by omega) h
        · exact nI_ge (a := w) (b := 8) hw (by omega) h)]
      decide), L.2.r L.1, osb, L.2.g hw (by omega), osb, hr w hw, if_neg (nI_nm1 (by omega)), nI_clamp (by omega)]
theorem nbc_l (D : Mc σ a p c m x n nc) (N : Cun c nu ng) (hs : s < m) : ∀ (q i fu : Nat), i + q = nu → q < fu → (∀ j, j < i → (decide (c 7 j = nI s) && bt o j) = false) → f_X5_numberBy_2 fu p (nI s) o (nI i) σ = some (nbC c nu o s, σ)
  | 0, i, fu, hi, hf, ha => by
    obtain ⟨f, rfl⟩ : ∃ f, fu = f + 1 := ⟨fu - 1, by omega⟩
    obtain rfl : i = nu := by omega
    have h4 := N.1
    rw [e_X5_numberBy_2, D.g.2.2.2.2.2.2.1, osb, N.2.1, if_pos (nI_le (Nat.le_refl _) (by omega)), (D.pr hs).2.2.2.2.1.1, osb, (D.pr hs).2.2.2.2.1.2, osb]
    unfold nbC
    cases h : fstN (fun u => decide (c 7 u = nI s) && bt o u) i with
    | none => rfl
    | some j => obtain ⟨h1, h2, -⟩ := fstN_some h; simp only [ha j h1] at h2; cases h2
  | q + 1, i, fu, hi, hf, ha => by
    obtain ⟨f, rfl⟩ : ∃ f, fu = f + 1 := ⟨fu - 1, by omega⟩
    have h4 := N.1
    have hu : nI i < c 0 6 := by rw [N.2.1]; exact nI_lt (by omega) (by omega)
    obtain ⟨S7, S8⟩ := D.2.2.2.1.2.2.1 i hu (by omega)
    have P7 := D.2.2.1.2.2.2.2.2.2.2.1
    have P8 := D.2.2.1.2.2.2.2.2.2.2.2.1
    rw [e_X5_numberBy_2, D.g.2.2.2.2.2.2.1, osb, N.2.1, if_neg (nI_ge (by omega) (by omega)), P7.r D.2.2.1.1, osb, P7.g (by omega) (by omega), osb, S7]
    unfold f_X5_numberBy_36
    have ih := nbc_l D N hs q (i + 1) f (by omega) (by omega)
    by_cases h7 : c 7 i = nI s
    · rw [if_pos h7]
      by_cases hb : bt o i = true
      · rw [if_pos ((b_ask1 o (by omega)).mpr hb), P8.r D.2.2.1.1, osb, P8.g (by omega) (by omega), osb, S8]
        unfold nbC
        rw [fstN_of (p := fun u => decide (c 7 u = nI s) && bt o u) (j := i) (by omega) (by rw [decide_eq_true h7, hb]; rfl) ha]
      · rw [if_neg (fun h => hb ((b_ask1 o (by omega)).mp h)), nI_1]
        exact ih (fun j hj => by
          by_cases e : j = i
          · subst e; rw [Bool.not_eq_true] at hb; rw [hb, Bool.and_false]
          · exact ha j (by omega))
    · rw [if_neg h7, nI_1]
      exact ih (fun j hj => by
        by_cases e : j = i
        · subst e; rw [decide_eq_false h7]; rfl
        · exact ha j (by omega))
theorem nb_c (D : Mc σ a p c m x n nc) (N : Cun c nu ng) (hs : s < m) : f_X5_numberBy p (nI s) o σ = some (nbE c nu o s, σ) := by
  have h4 := N.1
  unfold f_X5_numberBy f_X5_numberBy_0
  rw [if_pos D.2.2.1.1, ← nI_0, nbc_l D N hs nu 0 FU (by omega) (by unfold FU; omega) (fun _ h => absurd h (Nat.not_lt_zero _)), nb_eq N]
theorem nbE_ok (C : Cok c m) (N : Cun c nu ng) (hs : s < m) : isN (nbE c nu o s) 10000 := by
  unfold nbE
  have h5 := (C.2.2.2.2.2.2 s hs).2.2.2.2.1
  cases h : fstN (fun u => decide (c 7 u = nI s)) nu with
  | none => exact h5
  | some u =>
    simp only
    by_cases hb : bt o u = true
    · rw [if_pos hb]; exact N.2.2.2.2.2.1 u (fstN_some h).1
    · rw [if_neg hb]; exact h5
theorem va_ok (C : Cok c m) (N : Cun c nu ng) (hs : s < m) {u v : Nat} (hu : u < 10000) (hv : v < 10000) (h3 : ¬ (c 1 s = 3 ∧ nI v = 0)) : isN (vaP c nu o s (nI u) (nI v)) 10000 := by
  unfold vaP
  by_cases h0 : c 1 s = 0
  · rw [if_pos h0]; exact nbE_ok C N hs
  · rw [if_neg h0]
    by_cases h4 : c 1 s = 4
    · rw [if_pos h4]; exact ⟨u, hu, rfl⟩
    · rw [if_neg h4]
      obtain ⟨q, hq, eq⟩ := cm_ok (kd := c 1 s) hu hv (fun h => h3 ⟨h.1, by rw [h.2]; rfl⟩)
      exact ⟨q, hq, eq⟩
end Plain
