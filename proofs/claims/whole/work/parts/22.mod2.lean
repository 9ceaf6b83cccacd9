/-! THE REFERENCE's core functions, on -/
def setN (p : Nat → Bool) : Nat → Int32
  | 0 => 0
  | n + 1 => setN p n ||| (if p n = true then jshl 1 (nI n) else 0)
theorem b_setN {p : Nat → Bool} : ∀ {n j : Nat}, n ≤ 32 → j < 32 → bt (setN p n) j = (decide (j < n) && p j)
  | 0, j, _, _ => by simp [setN, b_0]
  | n + 1, j, hn, hj => by
    simp only [setN, b_or]
    rw [b_setN (n := n) (by omega) hj]
    by_cases h : j = n
    · subst h
      cases hp : p j <;> simp [b_0, b_sh1 j hj j hj]
    · have : decide (j < n + 1) = decide (j < n) := by simp only [decide_eq_decide]; omega
      rw [this]
      cases hp : p n <;> simp [b_0, b_sh1 n (by omega) j hj, h]
def hldE (x : Nat → Int32) (n : Nat) (v : Int32) (g : Nat → Bool) : Nat := cntN (fun i => decide (x (39 + 13 * i + 1) = v)) n + cntN (fun r => decide (x r = v) && !g r) 8
def freE (c : Nat → Nat → Int32) (x : Nat → Int32) (n w : Nat) : Bool := decide (hldE x n (nI w) (goneE c x n) = 0)
section Mod2
variable {σ : St} {M k : Nat} {c : Nat → Nat → Int32} {x : Nat → Int32} {n : Nat}
theorem rowl (D : Md σ M k c x) (j : Nat) {v : Int32} (hv : v = nI j) (hj : j < 195) : aI 22 (M + 4) v σ = some (x j) := by rw [hv]; exact row_k D hj
theorem ent_k (D : Md σ M k c x) {i : Nat} (hi : i < 12) (f : Nat) {v : Int32} (hv : v = nI f) (hf : f < 13) : aI 22 (M + 4) (nI (39 + 13 * i) + v) σ = some (x (39 + 13 * i + f)) := rowl D _ (by rw [hv]; exact nI_p _ _) (by omega)
theorem r8_k (D : Md σ M k c x) : aI 22 (M + 4) 8 σ = some (x 8) := row_k D (j := 8) (by omega)
theorem r33_k (D : Md σ M k c x) : aI 22 (M + 4) 33 σ = some (x 33) := row_k D (j := 33) (by omega)
theorem r34_k (D : Md σ M k c x) : aI 22 (M + 4) 34 σ = some (x 34) := row_k D (j := 34) (by omega)
theorem r35_k (D : Md σ M k c x) : aI 22 (M + 4) 35 σ = some (x 35) := row_k D (j := 35) (by omega)
theorem r36_k (D : Md σ M k c x) : aI 22 (M + 4) 36 σ = some (x 36) := row_k D (j := 36) (by omega)
theorem r37_k (D : Md σ M k c x) : aI 22 (M + 4) 37 σ = some (x 37) := row_k D (j := 37) (by omega)
theorem r38_k (D : Md σ M k c x) : aI 22 (M + 4) 38 σ = some (x 38) := row_k D (j := 38) (by omega)
theorem en1_k (D : Md σ M k c x) {i : Nat} (hi : i < 12) : aI 22 (M + 4) (nI (39 + 13 * i) + 1) σ = some (x (39 + 13 * i + 1)) := ent_k D hi 1 (v := 1) rfl (by omega)
theorem en2_k (D : Md σ M k c x) {i : Nat} (hi : i < 12) : aI 22 (M + 4) (nI (39 + 13 * i) + 2) σ = some (x (39 + 13 * i + 2)) := ent_k D hi 2 (v := 2) rfl (by omega)
theorem en3_k (D : Md σ M k c x) {i : Nat} (hi : i < 12) : aI 22 (M + 4) (nI (39 + 13 * i) + 3) σ = some (x (39 + 13 * i + 3)) := ent_k D hi 3 (v := 3) rfl (by omega)
theorem en4_k (D : Md σ M k c x) {i : Nat} (hi : i < 12) : aI 22 (M + 4) (nI (39 + 13 * i) + 4) σ = some (x (39 + 13 * i + 4)) := ent_k D hi 4 (v := 4) rfl (by omega)
theorem bit_k (v : Int32) {j : Nat} (hj : j < 32) : f_X10_bit v (nI j) σ = some (b2i (bt v j), σ) := by
  unfold f_X10_bit f_X10_bit_0 f_X10_bit_14
  rw [b_ask v hj]
  cases bt v j <;> simp [b2i]
theorem isLetGo_l (D : Md σ M k c x) (X : Xs x n) (hn : x 34 = nI n) {r : Nat} (hr : r < 8) : ∀ (m i fu : Nat), i + m = n → m < fu → allN (fun i => !busyE x r i) i = true → f_X10_isLetGo_32 fu M (nI r) (b2i (anyN (replE c x r) i)) (nI i) σ = some (b2i (allN (fun i => !busyE x r i) n && anyN (replE c x r) n), σ)
  | 0, i, fu, hi, hf, ha => by
    obtain ⟨f, rfl⟩ : ∃ f, fu = f + 1 := ⟨fu - 1, by omega⟩
    have h12 := X.1
    obtain rfl : i = n := by omega
    rw [e_X10_isLetGo_32, xa_k D, osb, r34_k D, osb, hn, if_pos (nI_le (Nat.le_refl _) (by omega)), if_pos (b2i01 _), ha]
    rfl
  | m + 1, i, fu, hi, hf, ha => by
    obtain ⟨f, rfl⟩ : ∃ f, fu = f + 1 := ⟨fu - 1, by omega⟩
    have h12 := X.1
    have hend : busyE x r i = true → (allN (fun i => !busyE x r i) n && anyN (replE c x r) n) = false := fun h => by
      cases hq : allN (fun i => !busyE x r i) n with
      | false => rfl
      | true =>
        have := allN_iff.mp hq i (by omega)
        simp [h] at this
    have hgo : busyE x r i = false → f_X10_isLetGo_89 (f_X10_isLetGo_32 f) M (nI r) (b2i (anyN (replE c x r) i)) (nI i) σ = some (b2i (allN (fun i => !busyE x r i) n && anyN (replE c x r) n), σ) := fun h => by
      have ha2 : allN (fun i => !busyE x r i) (i + 1) = true := by simp [allN, ha, h]
      have ih := isLetGo_l D X hn hr m (i + 1) f (by omega) (by omega) ha2
      have e1 : anyN (replE c x r) (i + 1) = (anyN (replE c x r) i || replE c x r i) := rfl
      unfold f_X10_isLetGo_89
      rw [reg_k D X (by omega), osb]
      dsimp only
      by_cases ht : toE c x i = nI r
      · rw [if_pos ht, isSure_k D X (by omega), osb]
        dsimp only
        cases hs : sureE c x (i + 1) with
        | false =>
          rw [if_pos (by simp [b2i])]
          unfold f_X10_isLetGo_111 f_X10_isLetGo_112
          rw [bndu, nI_1, show (0 : Int32) = b2i false from rfl, b2i_or]
          rw [e1, show replE c x r i = false by simp [replE, hs]] at ih
          exact ih
        | true =>
          rw [if_neg (by simp [b2i])]
          unfold f_X10_isLetGo_112
          rw [bndu, nI_1, show (1 : Int32) = b2i true from rfl, b2i_or]
          rw [e1, show replE c x r i = true by simp [replE, hs, ht]] at ih
          exact ih
      · rw [if_neg ht]
        unfold f_X10_isLetGo_111 f_X10_isLetGo_112
        rw [bndu, nI_1, show (0 : Int32) = b2i false from rfl, b2i_or]
        rw [e1, show replE c x r i = false by simp [replE, ht]] at ih
        exact ih
    rw [e_X10_isLetGo_32, xa_k D, osb, r34_k D, osb, hn, if_neg (nI_ge (by omega) (by omega)), osb, at_k D i, osb]
    dsimp only
    rw [en1_k D (by omega), osb]
    simp only [xa_k D, osb]
    rw [row_k D (by omega), osb]
    by_cases h1 : x (39 + 13 * i + 1) = x r
    · rw [if_pos h1, hend (by simp [busyE, h1])]
      rfl
    · rw [if_neg h1, has_k D (by omega), osb]
      dsimp only
      cases hd : hasB x i 1 with
      | true =>
        rw [if_neg (by simp [b2i])]
        exact hgo (by simp [busyE, h1, hd])
      | false =>
        rw [if_pos (by simp [b2i])]
        simp only [xa_k D, osb]
        rw [row_k D (by omega), osb, reads_k D (by omega), osb]
        dsimp only
        cases hr2 : rdE x i (x r) with
        | false =>
          rw [if_pos (by simp [b2i])]
          exact hgo (by simp [busyE, h1, hd, hr2])
        | true =>
          rw [if_neg (by simp [b2i]), hend (by simp [busyE, hd, hr2])]
          rfl
theorem isLetGo_k (D : Md σ M k c x) (X : Xs x n) (hn : x 34 = nI n) {r : Nat} (hr : r < 8) : f_X10_isLetGo M (nI r) σ = some (b2i (goneE c x n r), σ) := by
  have h12 := X.1
  unfold f_X10_isLetGo f_X10_isLetGo_0
  rw [if_pos D.1, xa_k D, osb, r8_k D, osb, bit_k _ (by omega), osb]
  dsimp only
  cases hb : bt (x 8) r with
  | true => rw [if_neg (by simp [b2i])]; simp [goneE, hb, b2i]
  | false =>
    rw [if_pos (by simp [b2i]), gR_k D.1 D.2.2.1, osb, gI_k D.2.2.2.1.1, osb, D.2.2.2.2.1.2.2.2.2.2.2.2.1]
    by_cases he : c 0 4 = 0
    · rw [if_pos he]; simp [goneE, hb, he, b2i]
    · rw [if_neg he]
      have := isLetGo_l D X hn hr n 0 FU (by omega) (by unfold FU; omega) rfl
      rw [show goneE c x n r = (allN (fun i => !busyE x r i) n && anyN (replE c x r) n) by simp [goneE, hb, he]]
      exact this
theorem letGo_l (D : Md σ M k c x) (X : Xs x n) (hn : x 34 = nI n) : ∀ (m i fu : Nat), i + m = 8 → m < fu → f_X10_letGoNow_4 fu M (setN (goneE c x n) i) (nI i) σ = some (setN (goneE c x n) 8, σ)
  | 0, i, fu, hi, hf => by
    obtain ⟨f, rfl⟩ : ∃ f, fu = f + 1 := ⟨fu - 1, by omega⟩
    obtain rfl : i = 8 := by omega
    rw [e_X10_letGoNow_4, if_pos (by decide)]
  | m + 1, i, fu, hi, hf => by
    obtain ⟨f, rfl⟩ : ∃ f, fu = f + 1 := ⟨fu - 1, by omega⟩
    have ih := letGo_l D X hn m (i + 1) f (by omega) (by omega)
    rw [e_X10_letGoNow_4, if_neg (show ¬ (8 : Int32) ≤ nI i from nI_ge (a := i) (b := 8) (by omega) (by omega)), isLetGo_k D X hn (by omega), osb]
    dsimp only
    unfold f_X10_letGoNow_26
    cases hg : goneE c x n i with
    | false =>
      rw [if_pos (by simp [b2i]), bndu, nI_1]
      simp only [setN, hg] at ih
      exact ih
    | true =>
      rw [if_neg (by simp [b2i]), bndu, nI_1]
      simp only [setN, hg] at ih
      exact ih
theorem letGo_k (D : Md σ M k c x) (X : Xs x n) (hn : x 34 = nI n) : f_X10_letGoNow M σ = some (setN (goneE c x n) 8, σ) := by
  unfold f_X10_letGoNow f_X10_letGoNow_0
  rw [if_pos D.1]
  exact letGo_l D X hn 8 0 FU (by omega) (by unfold FU; omega)
theorem hold_l2 (D : Md σ M k c x) (v g : Int32) (s : Nat) : ∀ (m i fu : Nat), i + m = 8 → m < fu → f_X10_holders_51 fu M v g (nI (s + cntN (fun r => decide (x r = v) && !bt g r) i)) (nI i) σ = some (nI (s + cntN (fun r => decide (x r = v) && !bt g r) 8), σ)
  | 0, i, fu, hi, hf => by
    obtain ⟨f, rfl⟩ : ∃ f, fu = f + 1 := ⟨fu - 1, by omega⟩
    obtain rfl : i = 8 := by omega
    rw [e_X10_holders_51, if_pos (by decide)]
  | m + 1, i, fu, hi, hf => by
    obtain ⟨f, rfl⟩ : ∃ f, fu = f + 1 := ⟨fu - 1, by omega⟩
    have ih := hold_l2 D v g s m (i + 1) f (by omega) (by omega)
    rw [e_X10_holders_51, if_neg (show ¬ (8 : Int32) ≤ nI i from nI_ge (a := i) (b := 8) (by omega) (by omega)), xa_k D, osb, row_k D (by omega), osb]
    unfold f_X10_holders_83 f_X10_holders_84
    by_cases h : x i = v
    · rw [if_pos h, bit_k _ (by omega), osb]
      dsimp only
      cases hb : bt g i with
      | false =>
        rw [if_pos (by simp [b2i]), bndu, nI_1, nI_1]
        simp only [cntN, h, hb] at ih
        exact ih
      | true =>
        rw [if_neg (by simp [b2i]), bndu, nI_1, show ∀ y : Int32, y + 0 = y from fun y => by simp]
        simp only [cntN, h, hb] at ih
        exact ih
    · rw [if_neg h, bndu, nI_1, show ∀ y : Int32, y + 0 = y from fun y => by simp]
      simp only [cntN, h] at ih
      exact ih
theorem hold_l (D : Md σ M k c x) (hn : x 34 = nI n) (h12 : n ≤ 12) (v g : Int32) : ∀ (m i fu : Nat), i + m = n → m < fu → f_X10_holders_5 fu M v g (nI (cntN (fun i => decide (x (39 + 13 * i + 1) = v)) i)) (nI i) σ = some (nI (hldE x n v (bt g)), σ)
  | 0, i, fu, hi, hf => by
    obtain ⟨f, rfl⟩ : ∃ f, fu = f + 1 := ⟨fu - 1, by omega⟩
    obtain rfl : i = n := by omega
    rw [e_X10_holders_5, xa_k D, osb, r34_k D, osb, hn, if_pos (nI_le (Nat.le_refl _) (by omega))]
    exact hold_l2 D v g _ 8 0 FU (by omega) (by unfold FU; omega)
  | m + 1, i, fu, hi, hf => by
    obtain ⟨f, rfl⟩ : ∃ f, fu = f + 1 := ⟨fu - 1, by omega⟩
    have ih := hold_l D hn h12 v g m (i + 1) f (by omega) (by omega)
    rw [e_X10_holders_5, xa_k D, osb, r34_k D, osb, hn, if_neg (nI_ge (by omega) (by omega)), osb, at_k D i, osb]
    dsimp only
    rw [en1_k D (by omega), osb]
    unfold f_X10_holders_40
    by_cases h : x (39 + 13 * i + 1) = v
    · rw [if_pos h, bndu, nI_1, nI_1]
      simp only [cntN, h] at ih
      exact ih
    · rw [if_neg h, bndu, nI_1, show ∀ y : Int32, y + 0 = y from fun y => by simp]
      simp only [cntN, h] at ih
      exact ih
theorem hold_k (D : Md σ M k c x) (hn : x 34 = nI n) (h12 : n ≤ 12) (v g : Int32) : f_X10_holders M v g σ = some (nI (hldE x n v (bt g)), σ) := by
  unfold f_X10_holders f_X10_holders_0
  rw [if_pos D.1]
  exact hold_l D hn h12 v g n 0 FU (by omega) (by unfold FU; omega)
theorem hldE_congr {v : Int32} {g g' : Nat → Bool} (h : ∀ r, r < 8 → g r = g' r) : hldE x n v g = hldE x n v g' := by
  unfold hldE
  rw [cntN_congr (n := 8) (fun r hr => by rw [h r hr])]
theorem hldE_le (v : Int32) (g : Nat → Bool) : hldE x n v g ≤ n + 8 := Nat.add_le_add (cntN_le _) (cntN_le _)
theorem gone_bt {r : Nat} (hr : r < 8) : bt (setN (goneE c x n) 8) r = goneE c x n r := by rw [b_setN (by omega) (by omega)]; simp [hr]
theorem free_l (D : Md σ M k c x) (hn : x 34 = nI n) (h12 : n ≤ 12) {nc : Nat} (hc : hI σ M 26 = nI nc) (h24 : nc ≤ 24) : ∀ (m i fu : Nat), i + m = nc → m < fu → f_X10_freeNow_9 fu M (setN (goneE c x n) 8) (setN (freE c x n) i) (nI i) σ = some (setN (freE c x n) nc, σ)
  | 0, i, fu, hi, hf => by
    obtain ⟨f, rfl⟩ : ∃ f, fu = f + 1 := ⟨fu - 1, by omega⟩
    obtain rfl : i = nc := by omega
    rw [e_X10_freeNow_9, gI_k D.1, osb, hc, if_pos (nI_le (Nat.le_refl _) (by omega))]
  | m + 1, i, fu, hi, hf => by
    obtain ⟨f, rfl⟩ : ∃ f, fu = f + 1 := ⟨fu - 1, by omega⟩
    have ih := free_l D hn h12 hc h24 m (i + 1) f (by omega) (by omega)
    rw [e_X10_freeNow_9, gI_k D.1, osb, hc, if_neg (nI_ge (by omega) (by omega)), hold_k D hn h12, osb, hldE_congr (g' := goneE c x n) (fun r hr => gone_bt hr)]
    dsimp only
    unfold f_X10_freeNow_34
    have hle := hldE_le (x := x) (n := n) (nI i) (goneE c x n)
    by_cases h : hldE x n (nI i) (goneE c x n) = 0
    · rw [if_pos (by rw [h]; rfl), bndu, nI_1]
      simp only [setN, freE, h] at ih
      exact ih
    · rw [if_neg (nI_ne0 (by omega) (by omega)), bndu, nI_1]
      simp only [setN, freE, h] at ih
      exact ih
theorem free_k (D : Md σ M k c x) (X : Xs x n) (hn : x 34 = nI n) {nc : Nat} (hc : hI σ M 26 = nI nc) (h24 : nc ≤ 24) : f_X10_freeNow M σ = some (setN (freE c x n) nc, σ) := by
  unfold f_X10_freeNow f_X10_freeNow_0
  rw [if_pos D.1, letGo_k D X hn, osb]
  exact free_l D hn X.1 hc h24 nc 0 FU (by omega) (by unfold FU; omega)
end Mod2
