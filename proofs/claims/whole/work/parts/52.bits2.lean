/-! THE REFERENCE counts bits -/
theorem clr_low {x : Int32} {j : Nat} (hj : j < 31) (h1 : bt x j = true) (h0 : ∀ i, i < j → bt x i = false) (i : Nat) : bt (x &&& (x - 1)) i = (bt x i && !decide (i = j)) := by
  have hx : x.toBitVec.toNat % 2 ^ (j + 1) = 2 ^ j := by
    refine Nat.eq_of_testBit_eq (fun q => ?_)
    rw [Nat.testBit_mod_two_pow, Nat.testBit_two_pow]
    by_cases hq : q < j + 1
    · by_cases hqj : q = j
      · subst hqj; rw [← bt_nat, h1]; simp
      · rw [← bt_nat, h0 q (by omega)]; simp; omega
    · simp [hq]; omega
  obtain ⟨Q, hQ⟩ : ∃ Q, x.toBitVec.toNat = 2 ^ (j + 1) * Q + 2 ^ j := ⟨x.toBitVec.toNat / 2 ^ (j + 1), by
    have := Nat.div_add_mod x.toBitVec.toNat (2 ^ (j + 1)); omega⟩
  have hp : 0 < 2 ^ j := Nat.two_pow_pos j
  have hlt := x.toBitVec.isLt
  have hx1 : (x - 1).toBitVec.toNat = 2 ^ (j + 1) * Q + (2 ^ j - 1) := by
    rw [Int32.toBitVec_sub, BitVec.toNat_sub]
    show (2 ^ 32 - 1 + x.toBitVec.toNat) % 2 ^ 32 = _
    rw [show 2 ^ 32 - 1 + x.toBitVec.toNat = (x.toBitVec.toNat - 1) + 2 ^ 32 by omega, Nat.add_mod_right, Nat.mod_eq_of_lt (by omega)]
    omega
  have hpw : 2 ^ (j + 1) = 2 * 2 ^ j := by rw [Nat.pow_succ]; omega
  rw [b_and]
  by_cases hij : i < j
  · rw [h0 i hij]; rfl
  · by_cases he : i = j
    · subst he
      rw [h1, bt_nat, hx1, Nat.testBit_two_pow_mul_add _ (by omega), if_pos (by omega), Nat.testBit_two_pow_sub_one]
      simp
    · rw [bt_nat, bt_nat, hx1, hQ, Nat.testBit_two_pow_mul_add _ (by omega), Nat.testBit_two_pow_mul_add _ (by omega), if_neg (by omega), if_neg (by omega)]
      cases Q.testBit (i - (j + 1)) <;> simp [he]
theorem cntN_rm {q : Nat → Bool} {j : Nat} (h : q j = true) : ∀ {n : Nat}, j < n → cntN q n = cntN (fun i => q i && !decide (i = j)) n + 1
  | n + 1, hj => by
    simp only [cntN]
    by_cases hjn : j = n
    · subst hjn
      have : cntN (fun i => q i && !decide (i = j)) j = cntN q j := cntN_congr (fun i hi => by
        rw [decide_eq_false (by omega)]; simp)
      simp [this, h]
    · have hn : ¬ n = j := fun e => hjn e.symm
      rw [cntN_rm h (show j < n by omega)]
      by_cases hq : q n = true
      · simp [hn, hq]
      · simp [hn, hq]
theorem bits_l (σ : St) : ∀ (q fu a : Nat) (v : Int32), cntN (bt v) 32 = q → q < fu → bt v 31 = false → f_X10_bits_4 fu (nI a) v σ = some (nI (a + q), σ)
  | 0, fu, a, v, hq, hf, hb => by
    obtain ⟨f, rfl⟩ : ∃ f, fu = f + 1 := ⟨fu - 1, by omega⟩
    have hv : v = 0 := b_ext (fun i hi => by rw [cntN_zero.mp hq i hi, b_0])
    rw [e_X10_bits_4, if_pos hv]
    rfl
  | q + 1, fu, a, v, hq, hf, hb => by
    obtain ⟨f, rfl⟩ : ∃ f, fu = f + 1 := ⟨fu - 1, by omega⟩
    cases ho : fstN (bt v) 32 with
    | none =>
      have h0 := cntN_zero.mpr (fstN_none ho)
      omega
    | some j =>
      obtain ⟨j1, j2, j3⟩ := fstN_some ho
      have hj : j < 31 := by
        by_cases h : j = 31
        · rw [h, hb] at j2; cases j2
        · omega
      have hv : ¬ v = 0 := fun e => by rw [e, b_0] at j2; cases j2
      have hc := clr_low hj j2 j3
      have hcnt : cntN (bt (v &&& (v - 1))) 32 = q := by
        rw [cntN_congr (q := fun i => bt v i && !decide (i = j)) (fun i _ => hc i)]
        have := cntN_rm j2 j1
        omega
      rw [e_X10_bits_4, if_neg hv, bndu, nI_1, bits_l σ q f (a + 1) (v &&& (v - 1)) hcnt (by omega) (by rw [hc 31, hb]; rfl), show a + 1 + q = a + (q + 1) by omega]
theorem bits_k (v : Int32) (hb : bt v 31 = false) (σ : St) : f_X10_bits v σ = some (nI (cntN (bt v) 32), σ) := by
  have := bits_l σ (cntN (bt v) 32) FU 0 v rfl (by have := cntN_le (p := bt v) 32; unfold FU; omega) hb
  rw [nI_0, Nat.zero_add] at this
  unfold f_X10_bits f_X10_bits_0
  exact this
