/-! THE CLASS: holders, free cells, refusals -/
def hd1 (x : Nat → Int32) (g : Int32) : Nat → Int32
  | 0 => 0
  | r + 1 => if g &&& bo (nI r) = 0 then hd1 x g r ||| bo (x r) else hd1 x g r
def hd2 (x : Nat → Int32) (b : Int32) : Nat → Int32
  | 0 => b
  | i + 1 => hd2 x b i ||| bo (x (39 + 13 * i + 1))
/-- who waits for the cell v -/
def wtE (x : Nat → Int32) (v : Int32) (i : Nat) : Bool := !hasB x i 1 && rdE x i v
section Cls3
variable {σ : St} {a p : Nat} {c : Nat → Nat → Int32} {m : Nat} {x : Nat → Int32} {n nc : Nat}
theorem hb45 (D : Mc σ a p c m x n nc) (v : Int32) (s : Nat) : ∀ (q i fu : Nat), i + q = n → q < fu → f_X3_holdersBut_45 fu a v (nI (s + cntN (fun i => decide (x (39 + 13 * i + 1) = v)) i)) (nI i) σ = some (nI (s + cntN (fun i => decide (x (39 + 13 * i + 1) = v)) n), σ)
  | 0, i, fu, hi, hf => by
    obtain ⟨f, rfl⟩ : ∃ f, fu = f + 1 := ⟨fu - 1, by omega⟩
    have h12 := D.n12
    obtain rfl : i = n := by omega
    rw [e_X3_holdersBut_45, D.f.2.2.2.1, osb, if_pos (nI_le (Nat.le_refl _) (by omega))]
  | q + 1, i, fu, hi, hf => by
    obtain ⟨f, rfl⟩ : ∃ f, fu = f + 1 := ⟨fu - 1, by omega⟩
    have h12 := D.n12
    have ih := hb45 D v s q (i + 1) f (by omega) (by omega)
    obtain ⟨-, ⟨b1, b2⟩, -⟩ := D.e (i := i) (by omega)
    rw [e_X3_holdersBut_45, D.f.2.2.2.1, osb, if_neg (nI_ge (by omega) (by omega)), b1, osb, b2, osb]
    unfold f_X3_holdersBut_68
    by_cases h : x (39 + 13 * i + 1) = v
    · rw [if_pos h, nI_1, nI_1]
      simp only [cntN, h] at ih
      exact ih
    · rw [if_neg h, nI_1]
      simp only [cntN, h] at ih
      exact ih
theorem hb5 (D : Mc σ a p c m x n nc) (v : Int32) (g : Int32) : ∀ (q i fu : Nat), i + q = 8 → q < fu → f_X3_holdersBut_5 fu a g v (nI (cntN (fun r => decide (x r = v) && !bt g r) i)) (nI i) σ = some (nI (hldE x n v (bt g)), σ)
  | 0, i, fu, hi, hf => by
    obtain ⟨f, rfl⟩ : ∃ f, fu = f + 1 := ⟨fu - 1, by omega⟩
    obtain rfl : i = 8 := by omega
    have h12 := D.n12
    rw [e_X3_holdersBut_5, if_pos (by decide), hldE, Nat.add_comm]
    exact hb45 D v _ n 0 FU (by omega) (by unfold FU; omega)
  | q + 1, i, fu, hi, hf => by
    obtain ⟨f, rfl⟩ : ∃ f, fu = f + 1 := ⟨fu - 1, by omega⟩
    have ih := hb5 D v g q (i + 1) f (by omega) (by omega)
    obtain ⟨k1, k2⟩ := D.k (r := i) (by omega)
    rw [e_X3_holdersBut_5, if_neg (show ¬ (8 : Int32) ≤ nI i from nI_ge (a := i) (b := 8) (by omega) (by omega)), k1, osb, k2, osb]
    unfold f_X3_holdersBut_36
    by_cases h : x i = v
    · rw [if_pos h, bo_f, osb]
      dsimp only
      by_cases hb : g &&& bo (nI i) = 0
      · rw [if_pos hb, nI_1, nI_1]
        have := (and_bo g (w := i) (by omega)).mp hb
        simp only [cntN, h, this] at ih
        exact ih
      · rw [if_neg hb, nI_1]
        have : bt g i = true := by
          cases hq : bt g i with
          | true => rfl
          | false => exact absurd ((and_bo g (w := i) (by omega)).mpr hq) hb
        simp only [cntN, h, this] at ih
        exact ih
    · rw [if_neg h, nI_1]
      simp only [cntN, h] at ih
      exact ih
theorem hold_c (D : Mc σ a p c m x n nc) (v : Int32) (g : Int32) : f_X3_holdersBut a g v σ = some (nI (hldE x n v (bt g)), σ) := by
  unfold f_X3_holdersBut f_X3_holdersBut_0
  rw [if_pos D.t]
  exact hb5 D v g 8 0 FU (by omega) (by unfold FU; omega)
theorem mer_c (D : Mc σ a p c m x n nc) {s : Nat} (hs : s < m) (es : x 35 = nI s) : f_X3_mergesNext a σ = some (b2i (merE c x n s), σ) := by
  have h12 := D.n12
  obtain ⟨⟨a1, a2⟩, -, ⟨b1, b2⟩, -⟩ := D.pr hs
  unfold f_X3_mergesNext f_X3_mergesNext_0 f_X3_mergesNext_67
  simp only [D.t, if_true, D.po, osb, a1, D.f.2.2.2.2.1, es, a2]
  by_cases h4 : c 1 s = 4
  · rw [if_pos h4]
    have hc3 := (D.2.2.2.2.1.2.2.2.2.2.2 _ hs).2.2.1
    rw [if_neg (by rw [h4]; decide)] at hc3
    obtain ⟨w, hw, ew⟩ := hc3
    obtain ⟨q, hq, eq⟩ := D.2.2.2.2.1.2.2.2.2.1
    simp only [D.f.2.2.2.1, b1, b2, osb, ew, map_c D hw (Nat.le_refl n), lgb_c D (Nat.le_refl n), hold_c D, D.po, D.g.2.2.2.1, eq]
    rw [hldE_congr (g' := goneE c x n) (fun r hr => gone_bt hr)]
    have hle := hldE_le (x := x) (n := n) (mapE c x w n) (goneE c x n)
    simp only [merE, h4, ew, eq, nI_clamp (show w < 2 ^ 31 by omega), nI_clamp (show q < 2 ^ 31 by omega), decide_true, Bool.true_and]
    by_cases hlt : hldE x n (mapE c x w n) (goneE c x n) < q
    · rw [if_neg (nI_ge hlt (by omega))]; simp [hlt, b2i]
    · rw [if_pos (nI_le (by omega) (by omega))]; simp [hlt, b2i]
  · rw [if_neg h4]
    simp [merE, h4, b2i]
theorem fb50 (D : Mc σ a p c m x n nc) {k : Nat} (hk : k ≤ n) (b : Int32) : ∀ (q i fu : Nat), i + q = k → q < fu → f_X3_freeBits_50 fu a (nI k) (hd2 x b i) (nI i) σ = some ((hd2 x b k ^^^ (-1)) &&& (jshl 1 (nI nc) - 1), σ)
  | 0, i, fu, hi, hf => by
    obtain ⟨f, rfl⟩ : ∃ f, fu = f + 1 := ⟨fu - 1, by omega⟩
    have h12 := D.n12
    obtain rfl : i = k := by omega
    rw [e_X3_freeBits_50, if_pos (nI_le (Nat.le_refl _) (by omega)), D.f.1, osb]
  | q + 1, i, fu, hi, hf => by
    obtain ⟨f, rfl⟩ : ∃ f, fu = f + 1 := ⟨fu - 1, by omega⟩
    have h12 := D.n12
    have ih := fb50 D hk b q (i + 1) f (by omega) (by omega)
    obtain ⟨-, ⟨b1, b2⟩, -⟩ := D.e (i := i) (by omega)
    rw [e_X3_freeBits_50, if_neg (nI_ge (by omega) (by omega)), b1, osb, b2, osb, bo_f, osb, bndu]
    rw [← nI_1] at ih
    exact ih
theorem fb11 (D : Mc σ a p c m x n nc) {k : Nat} (hk : k ≤ n) (g : Int32) : ∀ (q i fu : Nat), i + q = 8 → q < fu → f_X3_freeBits_11 fu a (nI k) (hd1 x g i) g (nI i) σ = some ((hd2 x (hd1 x g 8) k ^^^ (-1)) &&& (jshl 1 (nI nc) - 1), σ)
  | 0, i, fu, hi, hf => by
    obtain ⟨f, rfl⟩ : ∃ f, fu = f + 1 := ⟨fu - 1, by omega⟩
    have h12 := D.n12
    obtain rfl : i = 8 := by omega
    rw [e_X3_freeBits_11, if_pos (by decide)]
    exact fb50 D hk _ k 0 FU (by omega) (by unfold FU; omega)
  | q + 1, i, fu, hi, hf => by
    obtain ⟨f, rfl⟩ : ∃ f, fu = f + 1 := ⟨fu - 1, by omega⟩
    have ih := fb11 D hk g q (i + 1) f (by omega) (by omega)
    obtain ⟨k1, k2⟩ := D.k (r := i) (by omega)
    rw [e_X3_freeBits_11, if_neg (show ¬ (8 : Int32) ≤ nI i from nI_ge (a := i) (b := 8) (by omega) (by omega)), bo_f, osb]
    unfold f_X3_freeBits_41
    dsimp only
    simp only [hd1] at ih
    rw [← nI_1] at ih
    by_cases h : g &&& bo (nI i) = 0
    · rw [if_pos h, k1, osb, k2, osb, bo_f, osb, bndu]
      rw [if_pos h] at ih
      exact ih
    · rw [if_neg h]
      rw [if_neg h] at ih
      exact ih
theorem hd1_bt (D : Mc σ a p c m x n nc) (g : Int32) {w : Nat} (hw : w < 32) : ∀ i, i ≤ 8 → bt (hd1 x g i) w = anyN (fun r => decide (x r = nI w) && !bt g r) i
  | 0, _ => b_0 w
  | i + 1, hi => by
    have h24 := D.c24
    have ih := hd1_bt D g hw i (by omega)
    obtain ⟨q, hq, eq⟩ := D.2.2.2.2.2.2.2.2.2.2.2.2.1 i (by omega)
    have e1 := bo_bt (v := x i) (Or.inl (Or.inr ⟨q, by omega, eq⟩)) hw
    simp only [hd1, anyN]
    have hg := and_bo g (w := i) (by omega)
    cases hb : bt g i with
    | false => rw [if_pos (hg.mpr hb), b_or, ih, e1]; simp
    | true => rw [if_neg (fun h => by rw [hg.mp h] at hb; cases hb), ih]; simp
theorem hd2_bt (D : Mc σ a p c m x n nc) (b : Int32) {w : Nat} (hw : w < 32) : ∀ i, i ≤ n → bt (hd2 x b i) w = (bt b w || anyN (fun j => decide (x (39 + 13 * j + 1) = nI w)) i)
  | 0, _ => by simp [hd2, anyN]
  | i + 1, hi => by
    have h24 := D.c24
    have ih := hd2_bt D b hw i (by omega)
    have e1 := bo_bt (Or.inl ((D.c1 (i := i) (by omega)).mono h24)) hw
    simp only [hd2, anyN, b_or, ih, e1, Bool.or_assoc]
theorem cnt_any {q : Nat → Bool} {n : Nat} : (cntN q n = 0) ↔ anyN q n = false := by
  rw [cntN_zero]
  constructor
  · intro h
    cases ha : anyN q n with
    | false => rfl
    | true => obtain ⟨i, h1, h2⟩ := anyN_iff.mp ha; rw [h i h1] at h2; cases h2
  · intro h i hi
    cases hq : q i with
    | false => rfl
    | true => rw [anyN_iff.mpr ⟨i, hi, hq⟩] at h; cases h
theorem free_c (D : Mc σ a p c m x n nc) {k : Nat} (hk : k ≤ n) : f_X3_freeBits a (nI k) σ = some (setN (freE c x k) nc, σ) := by
  have h12 := D.n12
  have h24 := D.c24
  unfold f_X3_freeBits f_X3_freeBits_0
  rw [if_pos D.t, lgb_c D hk, osb]
  have := fb11 D hk (setN (goneE c x k) 8) 8 0 FU (by omega) (by unfold FU; omega)
  refine Eq.trans this ?_
  have e : (hd2 x (hd1 x (setN (goneE c x k) 8) 8) k ^^^ (-1)) &&& (jshl 1 (nI nc) - 1) = setN (freE c x k) nc := b_ext (fun w hw => by
    rw [b_and, b_not _ hw, b_msk nc (by omega) w hw, b_setN (by omega) hw, hd2_bt D _ hw k hk, hd1_bt D _ hw 8 (Nat.le_refl 8)]
    unfold freE hldE
    have e1 : anyN (fun r => decide (x r = nI w) && !bt (setN (goneE c x k) 8) r) 8 = anyN (fun r => decide (x r = nI w) && !goneE c x k r) 8 := anyN_congr (fun r hr => by rw [gone_bt hr])
    rw [e1]
    have h1 := cnt_any (q := fun j => decide (x (39 + 13 * j + 1) = nI w)) (n := k)
    have h2 := cnt_any (q := fun r => decide (x r = nI w) && !goneE c x k r) (n := 8)
    simp only [Nat.add_eq_zero_iff, h1, h2]
    cases anyN (fun r => decide (x r = nI w) && !goneE c x k r) 8 <;> cases anyN (fun j => decide (x (39 + 13 * j + 1) = nI w)) k <;> simp)
  rw [e]
theorem setN_0 {q : Nat → Bool} {n : Nat} (hn : n ≤ 31) : (setN q n = 0) ↔ fstN q n = none := by
  constructor
  · intro h
    cases hf : fstN q n with
    | none => rfl
    | some j =>
      obtain ⟨h1, h2, -⟩ := fstN_some hf
      have := congrArg (fun v => bt v j) h
      simp only [b_setN (show n ≤ 32 by omega) (show j < 32 by omega), b_0, h2, h1] at this
      simp at this
  · intro h
    refine b_ext (fun i hi => ?_)
    rw [b_setN (by omega) hi, b_0]
    by_cases hin : i < n
    · rw [fstN_none h i hin]; simp
    · simp [hin]
theorem wnt_c (D : Mc σ a p c m x n nc) : f_X3_whyNotTake a σ = some (wnfE c x n nc, σ) := by
  have h12 := D.n12
  have h24 := D.c24
  obtain ⟨w, hw1, hw2, ew⟩ := D.2.2.2.2.1.2.2.1
  have hle := D.2.2.2.2.2.2.2.1
  have hnw : n ≤ w := by rw [ew] at hle; exact (nI_leI (by omega) (by omega)).mp hle
  have hm : m ≤ 24 := D.2.2.2.2.1.1
  have hcm := D.2.2.2.2.1.2.1
  unfold f_X3_whyNotTake f_X3_whyNotTake_0 f_X3_whyNotTake_68 f_X3_whyNotTake_69 f_X3_whyNotTake_89 f_X3_whyNotTake_90 wnfE
  simp only [D.t, if_true, D.f.2.2.2.2.2.1, osb]
  rcases D.2.2.2.2.2.2.2.2.2.2.1 with h36 | h36
  · rw [if_pos h36, if_neg (by rw [h36]; decide)]
    simp only [D.po, D.f.2.2.2.2.1, osb, has_c D]
    by_cases h2 : x 35 < 0 ∨ c 0 5 ≤ x 35
    · simp [h2, b2i]
    · obtain ⟨s, hs, es⟩ : ∃ s, s < m ∧ x 35 = nI s := by
        rcases pk_ix (x 35) (n := m) (by omega) with q | q | q
        · exact absurd (Or.inl q) h2
        · exact absurd (Or.inr (by rw [hcm]; exact q)) h2
        · exact q
      rw [if_neg (by simp [h2, b2i]), if_neg h2]
      simp only [D.f.2.2.2.1, D.po, D.g.2.1, osb, ew]
      by_cases h3 : n = w
      · rw [if_neg (by rw [h3]; exact nI_nlt (Nat.le_refl _) (by omega)), if_pos (by rw [h3])]
      · obtain ⟨⟨a1, a2⟩, -⟩ := D.pr hs
        rw [if_pos (nI_lt (by omega) (by omega)), if_neg (fun h => h3 ((nI_eq (by omega) (by omega)).mp h)), a1, osb, es, a2, osb, nI_clamp (show s < 2 ^ 31 by omega)]
        by_cases h5 : c 1 s = 5
        · simp [h5]
        · rw [if_neg h5, if_neg h5, mer_c D hs es, osb]
          dsimp only
          cases hmg : merE c x n s with
          | true => simp [b2i]
          | false =>
            rw [if_pos (by simp [b2i]), if_neg (by decide), D.f.2.2.2.1, osb, free_c D (Nat.le_refl n), osb]
            dsimp only
            have h0 := setN_0 (q := freE c x n) (n := nc) (by omega)
            by_cases hl : lowE c x n nc = none
            · rw [if_pos (h0.mpr hl)]; simp [hl]
            · rw [if_neg (fun h => hl (h0.mp h))]; simp [hl]
  · rw [if_neg (by rw [h36]; decide), if_pos h36]
theorem wnr_c (D : Mc σ a p c m x n nc) : f_X3_whyNotRetire a σ = some (if n = 0 then 1 else if hasB x 0 1 = false then 2 else if hasB x 0 4 = true ∧ (decide (x 40 = -2) || !rdyE x (x 40)) = true then 3 else 0, σ) := by
  have h12 := D.n12
  unfold f_X3_whyNotRetire f_X3_whyNotRetire_0 f_X3_whyNotRetire_34 f_X3_whyNotRetire_56 f_X3_whyNotRetire_57
  simp only [D.t, if_true, D.f.2.2.2.1, osb]
  by_cases h0 : n = 0
  · subst h0; simp [nI_0]
  · rw [if_neg (nI_ne0 (by omega) (by omega)), if_neg h0, show (0 : Int32) = nI 0 from rfl, done_c D (by omega), osb]
    dsimp only
    cases h1 : hasB x 0 1 with
    | false => simp [b2i, nI_0]
    | true =>
      rw [if_neg (by simp [b2i, nI_0]), if_neg (show ¬ (true = false) by decide), gI_k D.t, osb]
      have hb := b_ask1 (hI σ a 14) (n := 0) (by omega)
      rw [show jshr (hI σ a 14) (nI 0) = hI σ a 14 by
        refine b_ext (fun i hi => ?_)
        rw [b_sshr 0 (by omega) _ hi, if_pos (by omega), Nat.zero_add], (D.b (i := 0) (by omega)).2.2.2.1] at hb
      obtain ⟨-, ⟨b1, b2⟩, -⟩ := D.e (i := 0) (by omega)
      cases h4 : hasB x 0 4 with
      | false =>
        rw [if_neg (fun h => by rw [hb.mp h] at h4; cases h4)]
        simp
      | true =>
        rw [if_pos (hb.mpr h4), if_neg (by decide), b1, osb, b2, osb, rdy_c D (D.c1 (i := 0) (by omega)), osb]
        cases hr : rdyE x (x 40) <;> by_cases h2 : x 40 = -2 <;> simp [hr, h2, b2i, nI_0]
end Cls3
