/-! THE CLASS: trailing zeros, who is let go, who holds, what is free -/
def ntz (x : Int32) : Int32 :=
  let d (a b : Int32) : Int32 := b + jushr a 1
  let e (a b : Int32) : Int32 := if a ≤ 4 then d a b else d (jushr a 2) (b + 2)
  let f (a b : Int32) : Int32 := if a ≤ 16 then e a b else e (jushr a 4) (b + 4)
  let g (a b : Int32) : Int32 := if a ≤ 256 then f a b else f (jushr a 8) (b + 8)
  if 0 < x then (if x ≤ 65536 then g x 1 else g (jushr x 16) (1 + 16)) else x &&& 32
theorem ntz_f (x : Int32) (σ : St) : f_J6_numberOfTrailingZeros_0f7a4 x σ = some (ntz ((x ^^^ (-1)) &&& (x - 1)), σ) := by
  unfold f_J6_numberOfTrailingZeros_0f7a4 f_J6_numberOfTrailingZeros_0f7a4_0 ntz
  simp only [bndu]
  generalize (x ^^^ (-1)) &&& (x - 1) = y
  have h62 : ∀ a b, f_J6_numberOfTrailingZeros_0f7a4_62 a b σ = some (if a ≤ 4 then b + jushr a 1 else b + 2 + jushr (jushr a 2) 1, σ) := fun a b => by
    unfold f_J6_numberOfTrailingZeros_0f7a4_62 f_J6_numberOfTrailingZeros_0f7a4_74
    by_cases h : a ≤ 4 <;> simp [h, bndu]
  have h49 : ∀ a b, f_J6_numberOfTrailingZeros_0f7a4_49 a b σ = some (if a ≤ 16 then (if a ≤ 4 then b + jushr a 1 else b + 2 + jushr (jushr a 2) 1) else (if jushr a 4 ≤ 4 then b + 4 + jushr (jushr a 4) 1 else b + 4 + 2 + jushr (jushr (jushr a 4) 2) 1), σ) := fun a b => by
    unfold f_J6_numberOfTrailingZeros_0f7a4_49
    simp only [h62, bndu]
    by_cases h : a ≤ 16 <;> simp [h]
  have h34 : ∀ a b, f_J6_numberOfTrailingZeros_0f7a4_34 a b σ = some (if a ≤ 256 then (if a ≤ 16 then (if a ≤ 4 then b + jushr a 1 else b + 2 + jushr (jushr a 2) 1) else (if jushr a 4 ≤ 4 then b + 4 + jushr (jushr a 4) 1 else b + 4 + 2 + jushr (jushr (jushr a 4) 2) 1)) else (if jushr a 8 ≤ 16 then (if jushr a 8 ≤ 4 then b + 8 + jushr (jushr a 8) 1 else b + 8 + 2 + jushr (jushr (jushr a 8) 2) 1) else (if jushr (jushr a 8) 4 ≤ 4 then b + 8 + 4 + jushr (jushr (jushr a 8) 4) 1 else b + 8 + 4 + 2 + jushr (jushr (jushr (jushr a 8) 4) 2) 1)), σ) := fun a b => by
    unfold f_J6_numberOfTrailingZeros_0f7a4_34
    simp only [h49, bndu]
    by_cases h : a ≤ 256 <;> simp [h]
  simp only [h34]
  by_cases h : 0 < y
  · by_cases h2 : y ≤ 65536 <;> simp [h, h2]
  · simp [h]
theorem ntz_m : ∀ j, j < 31 → ntz (jshl 1 (nI j) - 1) = nI j := by decide +kernel
theorem bt_nat (x : Int32) (i : Nat) : bt x i = x.toBitVec.toNat.testBit i := rfl
/-- below the lowest bit: ones -/
theorem low_ones {x : Int32} {j : Nat} (hj : j < 31) (h1 : bt x j = true) (h0 : ∀ i, i < j → bt x i = false) : (x ^^^ (-1)) &&& (x - 1) = jshl 1 (nI j) - 1 := by
  refine b_ext (fun i hi => ?_)
  rw [b_msk j (by omega) i hi, b_and, b_not x hi]
  have hx : x.toBitVec.toNat % 2 ^ (j + 1) = 2 ^ j := by
    refine Nat.eq_of_testBit_eq (fun q => ?_)
    rw [Nat.testBit_mod_two_pow, Nat.testBit_two_pow]
    by_cases hq : q < j + 1
    · by_cases hqj : q = j
      · subst hqj; rw [← bt_nat, h1]; simp
      · rw [← bt_nat, h0 q (by omega)]; simp; omega
    · simp [hq]; omega
  obtain ⟨Q, hQ⟩ : ∃ Q, x.toBitVec.toNat = 2 ^ (j + 1) * Q + 2 ^ j := ⟨x.toBitVec.toNat / 2 ^ (j + 1), by
    have := Nat.div_add_mod x.toBitVec.toNat (2 ^ (j + 1)); omega⟩
  have hp : 0 < 2 ^ j := Nat.two_pow_pos j
  have hlt := x.toBitVec.isLt
  have hx1 : (x - 1).toBitVec.toNat = 2 ^ (j + 1) * Q + (2 ^ j - 1) := by
    rw [Int32.toBitVec_sub, BitVec.toNat_sub]
    show (2 ^ 32 - 1 + x.toBitVec.toNat) % 2 ^ 32 = _
    rw [show 2 ^ 32 - 1 + x.toBitVec.toNat = (x.toBitVec.toNat - 1) + 2 ^ 32 by omega, Nat.add_mod_right, Nat.mod_eq_of_lt (by omega)]
    omega
  have hpw : 2 ^ (j + 1) = 2 * 2 ^ j := by rw [Nat.pow_succ]; omega
  rw [bt_nat, bt_nat, hx1, hQ, Nat.testBit_two_pow_mul_add _ (by omega), Nat.testBit_two_pow_mul_add _ (by omega)]
  by_cases hij : i < j
  · rw [if_pos (by omega), if_pos (by omega), Nat.testBit_two_pow, Nat.testBit_two_pow_sub_one]
    simp [hij]; omega
  · by_cases he : i = j
    · subst he
      rw [if_pos (by omega), if_pos (by omega), Nat.testBit_two_pow]
      simp
    · rw [if_neg (by omega), if_neg (by omega)]
      cases Q.testBit (i - (j + 1)) <;> simp [hij]
theorem ntz_k {x : Int32} {j : Nat} (hj : j < 31) (h1 : bt x j = true) (h0 : ∀ i, i < j → bt x i = false) (σ : St) : f_J6_numberOfTrailingZeros_0f7a4 x σ = some (nI j, σ) := by
  rw [ntz_f, low_ones hj h1 h0, ntz_m j hj]
def bo (v : Int32) : Int32 := if 0 ≤ v then jshl 1 v else 0
theorem bo_f (v : Int32) (σ : St) : f_X3_bitOf v σ = some (bo v, σ) := by
  unfold f_X3_bitOf f_X3_bitOf_0 f_X3_bitOf_11 bo
  by_cases h : 0 ≤ v <;> simp [h]
theorem bo_bt {v : Int32} (hv : isC v 24 ∨ v = -1) {w : Nat} (hw : w < 32) : bt (bo v) w = decide (v = nI w) := by
  have hneg : ∀ u : Int32, ¬ 0 ≤ u → bt (bo u) w = decide (u = nI w) := fun u hu => by
    have : ¬ u = nI w := fun h => hu (by rw [h]; exact nI_pos' (by omega))
    simp [bo, hu, b_0, this]
  rcases hv with (h | ⟨q, hq, rfl⟩) | h
  · rw [h]; exact hneg _ (by decide)
  · unfold bo
    rw [if_pos (nI_pos' (by omega)), b_sh1 q (by omega) w hw]
    simp only [nI_eq (show q < 2 ^ 31 by omega) (show w < 2 ^ 31 by omega)]
    by_cases h : w = q
    · simp [h]
    · simp [h, Ne.symm h]
  · rw [h]; exact hneg _ (by decide)
theorem and_bo (y : Int32) {w : Nat} (hw : w < 32) : (y &&& bo (nI w) = 0) ↔ bt y w = false := by
  have e : bo (nI w) = jshl 1 (nI w) := if_pos (nI_pos' (by omega))
  rw [e]
  constructor
  · intro h
    have := congrArg (fun q => bt q w) h
    simp only [b_and, b_sh1 w hw w hw, b_0, decide_true, Bool.and_true] at this
    exact this
  · intro h
    refine b_ext (fun i hi => ?_)
    rw [b_and, b_sh1 w hw i hi, b_0]
    by_cases hi2 : i = w
    · subst hi2; simp [h]
    · simp [hi2]
/-- how many are sure -/
def suE (c : Nat → Nat → Int32) (x : Nat → Int32) (n : Nat) : Nat := (fstN (badE c x) n).getD n
theorem suE_k {c : Nat → Nat → Int32} {x : Nat → Int32} {n j : Nat} (hj : j < n) : sureE c x (j + 1) = decide (j < suE c x n) := by
  unfold sureE suE
  cases h : fstN (badE c x) n with
  | none =>
    have := fstN_none h
    simp only [Option.getD_none, hj, decide_true]
    exact allN_iff.mpr (fun i hi => by rw [this i (by omega)]; rfl)
  | some q =>
    obtain ⟨h1, h2, h3⟩ := fstN_some h
    simp only [Option.getD_some]
    by_cases hq : j < q
    · simp only [hq, decide_true]
      exact allN_iff.mpr (fun i hi => by rw [h3 i (by omega)]; rfl)
    · simp only [hq, decide_false]
      cases ha : allN (fun i => !badE c x i) (j + 1) with
      | false => rfl
      | true =>
        have := allN_iff.mp ha q (by omega)
        simp [h2] at this
/-- the busy bits, the replaced bits, the gone bits, as the class gathers them -/
def bsI (x : Nat → Int32) : Nat → Int32
  | 0 => 0
  | i + 1 => if hasB x i 1 = true then bsI x i ||| bo (x (39 + 13 * i + 1)) else (bsI x i ||| bo (x (39 + 13 * i + 1))) ||| (bo (x (39 + 13 * i + 2)) ||| bo (x (39 + 13 * i + 3)))
def rpI (c : Nat → Nat → Int32) (x : Nat → Int32) (su : Nat) : Nat → Int32
  | 0 => 0
  | i + 1 => if su ≤ i then rpI c x su i else rpI c x su i ||| bo (toE c x i)
def gnI (x : Nat → Int32) (b r : Int32) : Nat → Int32
  | 0 => x 8
  | i + 1 => if b &&& bo (x i) = 0 then gnI x b r i ||| (r &&& bo (nI i)) else gnI x b r i
section Cls2
variable {σ : St} {a p : Nat} {c : Nat → Nat → Int32} {m : Nat} {x : Nat → Int32} {n nc : Nat}
theorem sure_c (D : Mc σ a p c m x n nc) : f_X3_sureOnes a σ = some (nI (suE c x n), σ) := by
  have h12 := D.n12
  have hb : ∀ i, i < 32 → bt ((hI σ a 11 &&& (hI σ a 12 ^^^ (-1))) ||| hI σ a 13) i = (decide (i < n) && badE c x i) := fun i hi => by
    obtain ⟨q1, q2, q3, -⟩ := D.2.2.2.2.2.1.2.2.2.2 i hi
    rw [b_or, b_and, b_not _ hi, q1, q2, q3]
    unfold badE risE
    by_cases hn : i < n
    · simp only [hn, decide_true, Bool.true_and]
      cases hasB x i 2 <;> cases hasB x i 1 <;> simp
    · simp [hn]
  unfold f_X3_sureOnes f_X3_sureOnes_0 f_X3_sureOnes_32
  rw [if_pos D.t, gI_k D.t, osb, gI_k D.t, osb, gI_k D.t, osb, bndu, D.f.2.2.2.1]
  simp only [osb]
  unfold suE
  cases h : fstN (badE c x) n with
  | none =>
    have h0 := fstN_none h
    rw [if_pos (b_ext (fun i hi => by
      rw [hb i hi, b_0]
      by_cases hn : i < n
      · simp [h0 i hn]
      · simp [hn]))]
    rfl
  | some q =>
    obtain ⟨h1, h2, h3⟩ := fstN_some h
    rw [if_neg (fun e => by
      have := hb q (by omega)
      rw [e, b_0] at this
      simp [h1, h2] at this), ntz_k (j := q) (by omega) (by rw [hb q (by omega)]; simp [h1, h2]) (fun i hi => by rw [hb i (by omega), h3 i hi]; simp), osb]
    rfl
theorem bsI_bt (D : Mc σ a p c m x n nc) {w : Nat} (hw : w < 32) : ∀ i, i ≤ n → bt (bsI x i) w = anyN (fun j => decide (x (39 + 13 * j + 1) = nI w) || (!hasB x j 1 && rdE x j (nI w))) i
  | 0, _ => b_0 w
  | i + 1, hi => by
    have h24 := D.c24
    have ih := bsI_bt D hw i (by omega)
    have e1 := bo_bt (Or.inl ((D.c1 (i := i) (by omega)).mono h24)) hw
    have e2 := bo_bt (Or.inl ((D.c2 (i := i) (by omega)).1.mono h24)) hw
    have e3 := bo_bt (Or.inl ((D.c2 (i := i) (by omega)).2.mono h24)) hw
    simp only [bsI, anyN]
    cases hd : hasB x i 1 with
    | true => simp only [if_true, b_or, ih, e1]; simp
    | false => simp only [Bool.false_eq_true, if_false, b_or, ih, e1, e2, e3, rdE]; simp [Bool.or_assoc]
theorem Mc.to (D : Mc σ a p c m x n nc) {i : Nat} (hi : i < n) : isC (toE c x i) 24 ∨ toE c x i = -1 := by
  obtain ⟨s1, s2, s3⟩ := D.st hi
  have := (D.2.2.2.2.1.2.2.2.2.2.2 _ s2).2.1
  by_cases h5 : c 1 (sS x i) = 5
  · rw [if_pos h5] at this; exact Or.inr this
  · rw [if_neg h5] at this
    obtain ⟨w, h1, h2⟩ := this
    exact Or.inl (Or.inr ⟨w, by omega, h2⟩)
theorem rpI_bt (D : Mc σ a p c m x n nc) {w : Nat} (hw : w < 32) : ∀ i, i ≤ n → bt (rpI c x (suE c x n) i) w = anyN (replE c x w) i
  | 0, _ => b_0 w
  | i + 1, hi => by
    have ih := rpI_bt D hw i (by omega)
    have e1 := bo_bt (D.to (i := i) (by omega)) hw
    simp only [rpI, anyN, replE, suE_k (show i < n by omega)]
    by_cases h : suE c x n ≤ i
    · rw [if_pos h, ih]; simp [Nat.not_lt.mpr h]
    · rw [if_neg h, b_or, ih, e1]; simp [Nat.lt_of_not_le h]
theorem gnI_bt (D : Mc σ a p c m x n nc) (b r : Int32) {w : Nat} (hw : w < 32) : ∀ i, i ≤ 8 → bt (gnI x b r i) w = (bt (x 8) w || (decide (w < i) && (decide (b &&& bo (x w) = 0) && bt r w)))
  | 0, _ => by simp [gnI]
  | i + 1, hi => by
    have ih := gnI_bt D b r hw i (by omega)
    simp only [gnI]
    by_cases h : b &&& bo (x i) = 0
    · rw [if_pos h, b_or, ih, b_and, bo_bt (Or.inl (Or.inr ⟨i, by omega, rfl⟩)) hw]
      simp only [nI_eq (show i < 2 ^ 31 by omega) (show w < 2 ^ 31 by omega)]
      by_cases hwi : w = i
      · subst hwi; simp [h]
      · have : (w < i + 1) = (w < i) := by simp only [eq_iff_iff]; omega
        simp [Ne.symm hwi, this]
    · rw [if_neg h, ih]
      by_cases hwi : w = i
      · subst hwi; simp [h]
      · have : (w < i + 1) = (w < i) := by simp only [eq_iff_iff]; omega
        simp [this]
theorem lgb121 (D : Mc σ a p c m x n nc) (b r : Int32) : ∀ (q i fu : Nat), i + q = 8 → q < fu → f_X3_letGoBits_121 fu a b r (gnI x b r i) (nI i) σ = some (gnI x b r 8, σ)
  | 0, i, fu, hi, hf => by
    obtain ⟨f, rfl⟩ : ∃ f, fu = f + 1 := ⟨fu - 1, by omega⟩
    obtain rfl : i = 8 := by omega
    rw [e_X3_letGoBits_121, if_pos (by decide)]
  | q + 1, i, fu, hi, hf => by
    obtain ⟨f, rfl⟩ : ∃ f, fu = f + 1 := ⟨fu - 1, by omega⟩
    have ih := lgb121 D b r q (i + 1) f (by omega) (by omega)
    obtain ⟨k1, k2⟩ := D.k (r := i) (by omega)
    rw [e_X3_letGoBits_121, if_neg (show ¬ (8 : Int32) ≤ nI i from nI_ge (a := i) (b := 8) (by omega) (by omega)), k1, osb, k2, osb, bo_f, osb]
    unfold f_X3_letGoBits_156
    dsimp only
    simp only [gnI] at ih
    rw [← nI_1] at ih
    by_cases h : b &&& bo (x i) = 0
    · rw [if_pos h, bo_f, osb, bndu]
      rw [if_pos h] at ih
      exact ih
    · rw [if_neg h]
      rw [if_neg h] at ih
      exact ih
theorem lgb25 (D : Mc σ a p c m x n nc) {k : Nat} (hk : k ≤ n) : ∀ (q i fu : Nat), i + q = k → q < fu → f_X3_letGoBits_25 fu a (nI k) (nI (suE c x n)) (bsI x i) (rpI c x (suE c x n) i) (nI i) σ = some (gnI x (bsI x k) (rpI c x (suE c x n) k) 8, σ)
  | 0, i, fu, hi, hf => by
    obtain ⟨f, rfl⟩ : ∃ f, fu = f + 1 := ⟨fu - 1, by omega⟩
    have h12 := D.n12
    obtain rfl : i = k := by omega
    rw [e_X3_letGoBits_25, if_pos (nI_le (Nat.le_refl _) (by omega)), D.f.2.2.1, osb]
    exact lgb121 D _ _ 8 0 FU (by omega) (by unfold FU; omega)
  | q + 1, i, fu, hi, hf => by
    obtain ⟨f, rfl⟩ : ∃ f, fu = f + 1 := ⟨fu - 1, by omega⟩
    have h12 := D.n12
    have hsu : suE c x n ≤ n := by
      unfold suE
      cases h : fstN (badE c x) n with
      | none => simp
      | some j => have := (fstN_some h).1; simp; omega
    have ih := lgb25 D hk q (i + 1) f (by omega) (by omega)
    obtain ⟨s1, s2, s3⟩ := D.st (i := i) (by omega)
    obtain ⟨⟨a1, a2⟩, ⟨b1, b2⟩, ⟨c1, c2⟩, ⟨d1, d2⟩⟩ := D.e (i := i) (by omega)
    have h77 : ∀ B, B = bsI x (i + 1) → f_X3_letGoBits_77 (f_X3_letGoBits_25 f) a (nI k) (nI (suE c x n)) B (rpI c x (suE c x n) i) (nI i) σ = some (gnI x (bsI x k) (rpI c x (suE c x n) k) 8, σ) := fun B hB => by
      rw [hB]
      unfold f_X3_letGoBits_77 f_X3_letGoBits_106
      rw [← nI_1] at ih
      by_cases h : suE c x n ≤ i
      · rw [if_pos (nI_le h (by omega))]
        simp only [rpI, if_pos h] at ih
        exact ih
      · rw [if_neg (nI_ge (by omega) (by omega)), D.po, osb, (D.pr s2).2.1.1, osb, a1, osb, a2, osb, s1, (D.pr s2).2.1.2, osb, bo_f, osb, bndu]
        simp only [rpI, if_neg h] at ih
        exact ih
    rw [e_X3_letGoBits_25, if_neg (nI_ge (by omega) (by omega)), b1, osb, b2, osb, bo_f, osb, bndu, done_c D (by omega), osb]
    dsimp only
    cases hd : hasB x i 1 with
    | true =>
      rw [if_neg (by simp [b2i])]
      exact h77 _ (by simp [bsI, hd])
    | false =>
      rw [if_pos (by simp [b2i]), c1, osb, c2, osb, bo_f, osb]
      dsimp only
      rw [d1, osb, d2, osb, bo_f, osb, bndu]
      exact h77 _ (by simp [bsI, hd])
theorem lgb_c (D : Mc σ a p c m x n nc) {k : Nat} (hk : k ≤ n) : f_X3_letGoBits a (nI k) σ = some (setN (goneE c x k) 8, σ) := by
  have h12 := D.n12
  have h24 := D.c24
  unfold f_X3_letGoBits f_X3_letGoBits_0
  rw [if_pos D.t, D.po, osb, D.g.2.2.2.2.1, osb]
  obtain ⟨ho1, ho2⟩ := D.2.2.2.2.2.2.2.2.2.2.2.1
  by_cases he : c 0 4 = 0
  · rw [if_pos he]
    have : setN (goneE c x k) 8 = 0 := b_ext (fun r hr => by
      rw [b_setN (by omega) hr, b_0]
      simp [goneE, he, ho1 he, b_0])
    rw [this]
  · rw [if_neg he, sure_c D, osb]
    have := lgb25 D hk k 0 FU (by omega) (by unfold FU; omega)
    refine Eq.trans this ?_
    have e : gnI x (bsI x k) (rpI c x (suE c x n) k) 8 = setN (goneE c x k) 8 := b_ext (fun r hr => by
      rw [gnI_bt D _ _ hr 8 (Nat.le_refl 8), b_setN (by omega) hr]
      by_cases h8 : r < 8
      · obtain ⟨w, hw, ew⟩ := D.2.2.2.2.2.2.2.2.2.2.2.2.1 r h8
        have hq : decide (bsI x k &&& bo (x r) = 0) = allN (fun i => !busyE x r i) k := by
          rw [ew]
          have h1 := and_bo (bsI x k) (w := w) (by omega)
          rw [bsI_bt D (w := w) (by omega) k hk] at h1
          cases hA : allN (fun i => !busyE x r i) k with
          | true =>
            simp only [decide_eq_true_eq]
            refine h1.mpr ?_
            cases hB : anyN (fun j => decide (x (39 + 13 * j + 1) = nI w) || (!hasB x j 1 && rdE x j (nI w))) k with
            | false => rfl
            | true =>
              obtain ⟨j, hj, hj2⟩ := anyN_iff.mp hB
              have := allN_iff.mp hA j hj
              simp only [busyE, ew, hj2, Bool.not_true, Bool.false_eq_true] at this
          | false =>
            simp only [decide_eq_false_iff_not]
            intro h0
            have h2 := h1.mp h0
            have : allN (fun i => !busyE x r i) k = true := allN_iff.mpr (fun j hj => by
              cases hB : busyE x r j with
              | false => rfl
              | true =>
                have : anyN (fun j => decide (x (39 + 13 * j + 1) = nI w) || (!hasB x j 1 && rdE x j (nI w))) k = true := anyN_iff.mpr ⟨j, hj, by simpa only [busyE, ew] using hB⟩
                rw [h2] at this; cases this)
            rw [hA] at this; cases this
        rw [hq, rpI_bt D hr k hk]
        simp [goneE, h8, he]
      · rw [ho2 r hr (by omega)]; simp [h8])
    rw [e]
end Cls2
