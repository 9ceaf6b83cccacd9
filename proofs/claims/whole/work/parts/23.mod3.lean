/-! THE REFERENCE's core functions: what can be done -/
/-- the least place below n with p, or none -/
def fstN (p : Nat → Bool) : Nat → Option Nat
  | 0 => none
  | n + 1 => match fstN p n with
    | some j => some j
    | none => if p n = true then some n else none
theorem fstN_some {p : Nat → Bool} : ∀ {n j : Nat}, fstN p n = some j → j < n ∧ p j = true ∧ ∀ i, i < j → p i = false
  | 0, j, h => by cases h
  | n + 1, j, h => by
    simp only [fstN] at h
    cases hf : fstN p n with
    | some q =>
      rw [hf] at h
      cases h
      obtain ⟨h1, h2, h3⟩ := fstN_some hf
      exact ⟨by omega, h2, h3⟩
    | none =>
      rw [hf] at h
      have hn : ∀ i, i < n → p i = false := fstN_none hf
      by_cases hp : p n = true
      · simp only [hp, if_true] at h
        cases h
        exact ⟨by omega, hp, hn⟩
      · simp only [if_neg hp] at h
        cases h
where
  fstN_none {p : Nat → Bool} : ∀ {n : Nat}, fstN p n = none → ∀ i, i < n → p i = false
  | 0, _, i, hi => by omega
  | n + 1, h, i, hi => by
    simp only [fstN] at h
    cases hf : fstN p n with
    | some q => rw [hf] at h; cases h
    | none =>
      rw [hf] at h
      by_cases hin : i = n
      · subst hin
        cases hp : p i with
        | false => rfl
        | true => simp [hp] at h
      · exact fstN_none hf i (by omega)
theorem fstN_none {p : Nat → Bool} {n : Nat} (h : fstN p n = none) : ∀ i, i < n → p i = false := fstN_some.fstN_none h
theorem fstN_of {p : Nat → Bool} {n j : Nat} (h1 : j < n) (h2 : p j = true) (h3 : ∀ i, i < j → p i = false) : fstN p n = some j := by
  cases h : fstN p n with
  | none => have := fstN_none h j h1; rw [h2] at this; cases this
  | some q =>
    obtain ⟨g1, g2, g3⟩ := fstN_some h
    have : q = j := by
      rcases Nat.lt_trichotomy q j with r | r | r
      · rw [h3 q r] at g2; cases g2
      · exact r
      · rw [g3 j r] at h2; cases h2
    rw [this]
def o2i (o : Option Nat) : Int32 := match o with
  | some j => nI j
  | none => -1
def lowE (c : Nat → Nat → Int32) (x : Nat → Int32) (n nc : Nat) : Option Nat := fstN (freE c x n) nc
/-- is cell v ready (-2 is) -/
def rdyE (x : Nat → Int32) (v : Int32) : Bool := decide (v = -2) || bt (x 33) v.toNatClampNeg
def runE (x : Nat → Int32) (i : Nat) : Bool := !hasB x i 1 && (rdyE x (x (39 + 13 * i + 2)) && rdyE x (x (39 + 13 * i + 3)))
def merE (c : Nat → Nat → Int32) (x : Nat → Int32) (n s : Nat) : Bool := decide (c 1 s = 4) && decide (hldE x n (mapE c x (c 3 s).toNatClampNeg n) (goneE c x n) < (c 0 3).toNatClampNeg)
/-- why not fetch -/
def wnfE (c : Nat → Nat → Int32) (x : Nat → Int32) (n nc : Nat) : Int32 :=
  if x 36 = 1 then 1 else if x 35 < 0 ∨ c 0 5 ≤ x 35 then 2 else if nI n = c 0 1 then 3 else
  if c 1 (x 35).toNatClampNeg = 5 then 0 else if merE c x n (x 35).toNatClampNeg = true then 0 else if lowE c x n nc = none then 4 else 0
def wncE (x : Nat → Int32) (n : Nat) : Int32 := if n = 0 then 1 else if hasB x 0 1 = false then 2 else if hasB x 0 4 = true ∧ rdyE x (x 40) = false then 3 else 0
section Mod3
variable {σ : St} {M k : Nat} {c : Nat → Nat → Int32} {x : Nat → Int32} {n : Nat}
theorem low_l (D : Md σ M k c x) {nc : Nat} (hc : hI σ M 26 = nI nc) (h24 : nc ≤ 24) (p : Nat → Bool) : ∀ (m i fu : Nat), i + m = nc → m < fu → (∀ j, j < i → p j = false) → f_X10_lowestFree_7 fu M (setN p nc) (nI i) σ = some (o2i (fstN p nc), σ)
  | 0, i, fu, hi, hf, ha => by
    obtain ⟨f, rfl⟩ : ∃ f, fu = f + 1 := ⟨fu - 1, by omega⟩
    obtain rfl : i = nc := by omega
    rw [e_X10_lowestFree_7, gI_k D.1, osb, hc, if_pos (nI_le (Nat.le_refl _) (by omega))]
    cases h : fstN p i with
    | none => rfl
    | some j => obtain ⟨h1, h2, -⟩ := fstN_some h; rw [ha j h1] at h2; cases h2
  | m + 1, i, fu, hi, hf, ha => by
    obtain ⟨f, rfl⟩ : ∃ f, fu = f + 1 := ⟨fu - 1, by omega⟩
    rw [e_X10_lowestFree_7, gI_k D.1, osb, hc, if_neg (nI_ge (by omega) (by omega)), bit_k _ (by omega), osb, b_setN (by omega) (by omega)]
    dsimp only
    cases hp : p i with
    | false =>
      rw [if_pos (by simp [b2i]), nI_1]
      exact low_l D hc h24 p m (i + 1) f (by omega) (by omega) (fun j hj => by
        by_cases h : j = i
        · rw [h]; exact hp
        · exact ha j (by omega))
    | true =>
      rw [if_neg (by simp [b2i]; omega), fstN_of (j := i) (by omega) hp ha]
      rfl
theorem low_k (D : Md σ M k c x) (X : Xs x n) (hn : x 34 = nI n) {nc : Nat} (hc : hI σ M 26 = nI nc) (h24 : nc ≤ 24) : f_X10_lowestFree M σ = some (o2i (lowE c x n nc), σ) := by
  unfold f_X10_lowestFree f_X10_lowestFree_0
  rw [if_pos D.1, free_k D X hn hc h24, osb]
  exact low_l D hc h24 _ nc 0 FU (by omega) (by unfold FU; omega) (fun _ h => absurd h (Nat.not_lt_zero _))
theorem saves_l (D : Md σ M k c x) (hn : x 34 = nI n) (h12 : n ≤ 12) : ∀ (m i fu : Nat), i + m = n → m < fu → f_X10_savesNow_4 fu M (nI (cntN (fun i => hasB x i 8) i)) (nI i) σ = some (nI (cntN (fun i => hasB x i 8) n), σ)
  | 0, i, fu, hi, hf => by
    obtain ⟨f, rfl⟩ : ∃ f, fu = f + 1 := ⟨fu - 1, by omega⟩
    obtain rfl : i = n := by omega
    rw [e_X10_savesNow_4, xa_k D, osb, r34_k D, osb, hn, if_pos (nI_le (Nat.le_refl _) (by omega))]
  | m + 1, i, fu, hi, hf => by
    obtain ⟨f, rfl⟩ : ∃ f, fu = f + 1 := ⟨fu - 1, by omega⟩
    have ih := saves_l D hn h12 m (i + 1) f (by omega) (by omega)
    rw [e_X10_savesNow_4, xa_k D, osb, r34_k D, osb, hn, if_neg (nI_ge (by omega) (by omega)), has_k D (by omega), osb]
    dsimp only
    unfold f_X10_savesNow_31
    cases h : hasB x i 8 with
    | false =>
      rw [if_pos (by simp [b2i]), bndu, nI_1, show ∀ y : Int32, y + 0 = y from fun y => by simp]
      simp only [cntN, h] at ih
      exact ih
    | true =>
      rw [if_neg (by simp [b2i]), bndu, nI_1, nI_1]
      simp only [cntN, h] at ih
      exact ih
theorem saves_k (D : Md σ M k c x) (hn : x 34 = nI n) (h12 : n ≤ 12) : f_X10_savesNow M σ = some (nI (cntN (fun i => hasB x i 8) n), σ) := by
  unfold f_X10_savesNow f_X10_savesNow_0
  rw [if_pos D.1]
  exact saves_l D hn h12 n 0 FU (by omega) (by unfold FU; omega)
theorem rdy_k (D : Md σ M k c x) {v : Int32} (hv : isC v 24) : f_X10_isReady M v σ = some (b2i (rdyE x v), σ) := by
  unfold f_X10_isReady f_X10_isReady_0 f_X10_isReady_20 f_X10_isReady_25
  rw [if_pos D.1]
  by_cases h : v = -2
  · rw [if_pos h]; simp [rdyE, h, b2i]
  · rw [if_neg h, xa_k D, osb, r33_k D, osb]
    rcases hv with hv | ⟨w, hw, rfl⟩
    · exact absurd hv h
    · rw [bit_k _ (by omega), osb]
      simp only [rdyE, h, decide_false, Bool.false_or, nI_clamp (show w < 2 ^ 31 by omega)]
      cases bt (x 33) w <;> simp [b2i]
theorem run_k (D : Md σ M k c x) {i : Nat} (hi : i < 12) (h2 : isC (x (39 + 13 * i + 2)) 24) (h3 : isC (x (39 + 13 * i + 3)) 24) : f_X10_isRunnable M (nI i) σ = some (b2i (runE x i), σ) := by
  unfold f_X10_isRunnable f_X10_isRunnable_0 f_X10_isRunnable_51 f_X10_isRunnable_52
  rw [if_pos D.1, has_k D hi, osb]
  dsimp only
  unfold runE
  cases hd : hasB x i 1 with
  | true => rw [if_neg (by simp [b2i])]; simp [b2i]
  | false =>
    rw [if_pos (by simp [b2i])]
    simp only [xa_k D, osb, at_k D i, en2_k D hi, rdy_k D h2]
    cases hr : rdyE x (x (39 + 13 * i + 2)) with
    | false => simp [b2i]
    | true =>
      rw [if_neg (by simp [b2i]), en3_k D hi, osb, rdy_k D h3, osb]
      cases hr3 : rdyE x (x (39 + 13 * i + 3)) <;> simp [b2i]
theorem step_k (D : Md σ M k c x) (v : Int32) : f_X9_isStep k v σ = some (b2i (!decide (v < 0 ∨ c 0 5 ≤ v)), σ) := by
  unfold f_X9_isStep f_X9_isStep_0 f_X9_isStep_16 f_X9_isStep_17
  rw [if_pos D.2.2.2.1.1, gI_k D.2.2.2.1.1, osb, D.2.2.2.2.1.2.2.2.2.1]
  by_cases h : v < 0
  · simp [h, b2i]
  · by_cases h2 : c 0 5 ≤ v <;> simp [h, h2, b2i]
theorem core_k (D : Md σ M k c x) : gR 11 3 M σ = some k := gR_k D.1 D.2.2.1
theorem mapOf_w (D : Md σ M k c x) (X : Xs x n) {r i : Nat} (hr : r < 8) (hi : i ≤ n) : f_X10_mapOf M (nI r) (nI i - 1) σ = some (mapE c x r i, σ) := by
  have h12 := X.1
  unfold f_X10_mapOf f_X10_mapOf_0
  rw [if_pos D.1, show nI i - 1 = nI i + (-1) by rw [Int32.sub_eq_add_neg]]
  exact mapOf_k D X hr i FU hi (by unfold FU; omega)
theorem merg_k (D : Md σ M k c x) (X : Xs x n) (hn : x 34 = nI n) {s : Nat} (hs : s < 24) (hone : c 1 s = 4 → isN (c 3 s) 8) (hsh : isN (c 0 3) 5) : f_X10_isMerging M (nI s) σ = some (b2i (merE c x n s), σ) := by
  have h12 := X.1
  unfold f_X10_isMerging f_X10_isMerging_0 f_X10_isMerging_57 f_X10_isMerging_58
  rw [if_pos D.1]
  simp only [core_k D, osb, D.2.2.2.1.2.1.r D.2.2.2.1.1, D.2.2.2.1.2.1.g hs (show 24 ≤ 100000 by omega), (D.2.2.2.2.1.2.2.2.2.2.2.2.2.1 _ hs).1]
  by_cases h4 : c 1 s = 4
  · rw [if_pos h4]
    obtain ⟨w, hw, ew⟩ := hone h4
    obtain ⟨q, hq, eq⟩ := hsh
    simp only [D.2.2.2.1.2.2.2.1.r D.2.2.2.1.1, osb, D.2.2.2.1.2.2.2.1.g hs (show 24 ≤ 100000 by omega), (D.2.2.2.2.1.2.2.2.2.2.2.2.2.1 _ hs).2.2.1, xa_k D, r34_k D, hn, ew, mapOf_w D X hw (Nat.le_refl n), letGo_k D X hn, hold_k D hn h12, gI_k D.2.2.2.1.1, D.2.2.2.2.1.2.2.2.1, eq]
    rw [hldE_congr (g' := goneE c x n) (fun r hr => gone_bt hr)]
    simp only [core_k D, osb, gI_k D.2.2.2.1.1, D.2.2.2.2.1.2.2.2.1, eq]
    have hle := hldE_le (x := x) (n := n) (mapE c x w n) (goneE c x n)
    simp only [merE, h4, ew, eq, nI_clamp (show w < 2 ^ 31 by omega), nI_clamp (show q < 2 ^ 31 by omega), decide_true, Bool.true_and]
    by_cases hlt : hldE x n (mapE c x w n) (goneE c x n) < q
    · rw [if_neg (nI_ge hlt (by omega))]; simp [hlt, b2i]
    · rw [if_pos (nI_le (by omega) (by omega))]; simp [hlt, b2i]
  · rw [if_neg h4]
    simp [merE, h4, b2i]
end Mod3
