/-! Integer.bitCount -/
theorem land_dig {a b : Nat} (A B : Nat) (ha : a < 256) (hb : b < 256) : (256 * A + a) &&& (256 * B + b) = 256 * (A &&& B) + (a &&& b) := by
  have hab : a &&& b < 2 ^ 8 := Nat.and_lt_two_pow _ hb
  refine Nat.eq_of_testBit_eq (fun i => ?_)
  rw [Nat.testBit_and, show (256 : Nat) = 2 ^ 8 from rfl, Nat.testBit_two_pow_mul_add _ ha, Nat.testBit_two_pow_mul_add _ hb, Nat.testBit_two_pow_mul_add _ hab]
  by_cases h : i < 8
  · simp [h]
  · simp [h]
def bf1 (a : Nat) : Nat := a - ((a / 2) &&& 85)
def bf2 (a : Nat) : Nat := (a &&& 51) + ((a / 4) &&& 51)
def bf3 (a : Nat) : Nat := (a + a / 16) &&& 15
def pc8 (a : Nat) : Nat := cntN (fun i => a.testBit i) 8
theorem bq1 : ∀ a, a < 256 → ∀ e, e < 2 → (a / 2 + 128 * e) &&& 85 = (a / 2) &&& 85 := by decide +kernel
theorem bq1' : ∀ a, a < 256 → ((a / 2) &&& 85) ≤ a := by decide +kernel
theorem bq2 : ∀ a, a < 256 → ∀ e, e < 4 → (a / 4 + 64 * e) &&& 51 = (a / 4) &&& 51 := by decide +kernel
theorem bq2' : ∀ a, a < 256 → bf2 (bf1 a) ≤ 68 := by decide +kernel
theorem bq2n : ∀ a, a < 256 → bf2 (bf1 a) % 16 ≤ 4 := by decide +kernel
theorem bq3 : ∀ a, a < 69 → ∀ e, e < 16 → (a + a / 16 + 16 * e) &&& 15 = bf3 a := by decide +kernel
theorem bq4 : ∀ a, a < 256 → bf3 (bf2 (bf1 a)) = pc8 a := by decide +kernel
theorem bs1 {a M K : Nat} (ha : a < 256) : ((256 * M + a) / 2) &&& (256 * K + 85) = 256 * ((M / 2) &&& K) + ((a / 2) &&& 85) := by
  rw [show (256 * M + a) / 2 = 256 * (M / 2) + (a / 2 + 128 * (M % 2)) by omega, land_dig _ _ (by omega) (by omega), bq1 a ha _ (by omega)]
theorem bs2 {a M K : Nat} (ha : a < 256) : ((256 * M + a) / 4) &&& (256 * K + 51) = 256 * ((M / 4) &&& K) + ((a / 4) &&& 51) := by
  rw [show (256 * M + a) / 4 = 256 * (M / 4) + (a / 4 + 64 * (M % 4)) by omega, land_dig _ _ (by omega) (by omega), bq2 a ha _ (by omega)]
def bcN (N : Nat) : Nat :=
  let y1 := N - ((N / 2) &&& 1431655765)
  let y2 := (y1 &&& 858993459) + ((y1 / 4) &&& 858993459)
  let y3 := (y2 + y2 / 16) &&& 252645135
  let y4 := y3 + y3 / 256
  let y5 := y4 + y4 / 65536
  y5 &&& 63
theorem bc_dig {a b d e : Nat} (ha : a < 256) (hb : b < 256) (hd : d < 256) (he : e < 256) : bcN (256 * (256 * (256 * e + d) + b) + a) = pc8 a + pc8 b + pc8 d + pc8 e := by
  have w1 : ∀ q, q < 256 → bf1 q < 256 := fun q hq => by unfold bf1; omega
  have e1 : (256 * (256 * (256 * e + d) + b) + a) - (((256 * (256 * (256 * e + d) + b) + a) / 2) &&& 1431655765) = 256 * (256 * (256 * bf1 e + bf1 d) + bf1 b) + bf1 a := by
    rw [show (1431655765 : Nat) = 256 * (256 * (256 * 85 + 85) + 85) + 85 from rfl, bs1 ha, bs1 hb, bs1 hd]
    have := bq1' a ha
    have := bq1' b hb
    have := bq1' d hd
    have := bq1' e he
    unfold bf1
    omega
  unfold bcN
  simp only [e1]
  have e2 : ((256 * (256 * (256 * bf1 e + bf1 d) + bf1 b) + bf1 a) &&& 858993459) + (((256 * (256 * (256 * bf1 e + bf1 d) + bf1 b) + bf1 a) / 4) &&& 858993459) = 256 * (256 * (256 * bf2 (bf1 e) + bf2 (bf1 d)) + bf2 (bf1 b)) + bf2 (bf1 a) := by
    rw [show (858993459 : Nat) = 256 * (256 * (256 * 51 + 51) + 51) + 51 from rfl, bs2 (w1 a ha), bs2 (w1 b hb), bs2 (w1 d hd), land_dig _ _ (w1 a ha) (by omega), land_dig _ _ (w1 b hb) (by omega), land_dig _ _ (w1 d hd) (by omega)]
    unfold bf2
    omega
  rw [e2]
  have z1 := bq2' a ha
  have z2 := bq2' b hb
  have z3 := bq2' d hd
  have z4 := bq2' e he
  have y1 := bq2n a ha
  have y2 := bq2n b hb
  have y3 := bq2n d hd
  have y4 := bq2n e he
  have e3 : ((256 * (256 * (256 * bf2 (bf1 e) + bf2 (bf1 d)) + bf2 (bf1 b)) + bf2 (bf1 a)) + (256 * (256 * (256 * bf2 (bf1 e) + bf2 (bf1 d)) + bf2 (bf1 b)) + bf2 (bf1 a)) / 16) &&& 252645135 = 256 * (256 * (256 * pc8 e + pc8 d) + pc8 b) + pc8 a := by
    generalize hA : bf2 (bf1 a) = A at z1 y1
    generalize hB : bf2 (bf1 b) = B at z2 y2
    generalize hD : bf2 (bf1 d) = D at z3 y3
    generalize hE : bf2 (bf1 e) = E at z4 y4
    rw [show (256 * (256 * (256 * E + D) + B) + A) + (256 * (256 * (256 * E + D) + B) + A) / 16 = 256 * (256 * (256 * (E + E / 16 + 16 * 0) + (D + D / 16 + 16 * (E % 16))) + (B + B / 16 + 16 * (D % 16))) + (A + A / 16 + 16 * (B % 16)) by omega,
      show (252645135 : Nat) = 256 * (256 * (256 * 15 + 15) + 15) + 15 from rfl, land_dig _ _ (by omega) (by omega), land_dig _ _ (by omega) (by omega), land_dig _ _ (by omega) (by omega),
      bq3 A (by omega) _ (by omega), bq3 B (by omega) _ (by omega), bq3 D (by omega) _ (by omega), bq3 E (by omega) 0 (by omega), ← hA, ← hB, ← hD, ← hE, bq4 a ha, bq4 b hb, bq4 d hd, bq4 e he]
  rw [e3, show (63 : Nat) = 2 ^ 6 - 1 from rfl, Nat.and_two_pow_sub_one_eq_mod]
  have q1 : pc8 a ≤ 8 := cntN_le 8
  have q2 : pc8 b ≤ 8 := cntN_le 8
  have q3 : pc8 d ≤ 8 := cntN_le 8
  have q4 : pc8 e ≤ 8 := cntN_le 8
  clear e3 e2 e1 z1 z2 z3 z4 y1 y2 y3 y4 w1
  generalize pc8 a = A at q1
  generalize pc8 b = B at q2
  generalize pc8 d = D at q3
  generalize pc8 e = E at q4
  have d1 : (256 * (256 * (256 * E + D) + B) + A) / 256 = 256 * (256 * E + D) + B := by omega
  rw [d1]
  have d2 : (256 * (256 * (256 * E + D) + B) + A + (256 * (256 * E + D) + B)) / 65536 = 256 * E + D + E := by omega
  rw [d2]
  omega
theorem i_and (a b : Nat) : nI a &&& nI b = nI (a &&& b) := Int32.toBitVec_inj.mp (by
  rw [Int32.toBitVec_and]
  show BitVec.ofNat 32 a &&& BitVec.ofNat 32 b = BitVec.ofNat 32 (a &&& b)
  exact (BitVec.ofNat_and ..).symm)
theorem i_ush {N k : Nat} (hN : N < 2 ^ 32) (s : Int32) (hs : ((s.toUInt32 &&& Int32.toUInt32 31).toBitVec % 32).toNat = k) : jushr (nI N) s = nI (N / 2 ^ k) := pk_ushrN hN s k hs
theorem bc_f {N : Nat} (hN : N < 2 ^ 32) (σ : St) : f_J6_bitCount_0f7a4 (nI N) σ = some (nI (bcN N), σ) := by
  have l1 : (N / 2) &&& 1431655765 ≤ N := Nat.le_trans Nat.and_le_left (by omega)
  have h1 : nI N - (jushr (nI N) 1 &&& 1431655765) = nI (N - ((N / 2) &&& 1431655765)) := by
    rw [i_ush hN 1 (k := 1) (by decide), show (1431655765 : Int32) = nI 1431655765 from rfl, i_and, pk_sub (by simpa using l1)]
  have b1 : N - ((N / 2) &&& 1431655765) < 2 ^ 32 := by omega
  generalize hy1 : N - ((N / 2) &&& 1431655765) = y1 at h1 b1
  have b2 : (y1 &&& 858993459) + ((y1 / 4) &&& 858993459) ≤ 858993459 + 858993459 := Nat.add_le_add Nat.and_le_right Nat.and_le_right
  have h2 : (nI y1 &&& 858993459) + (jushr (nI y1) 2 &&& 858993459) = nI ((y1 &&& 858993459) + ((y1 / 4) &&& 858993459)) := by
    rw [i_ush b1 2 (k := 2) (by decide), show (858993459 : Int32) = nI 858993459 from rfl, i_and, i_and, nI_add]
  generalize hy2 : (y1 &&& 858993459) + ((y1 / 4) &&& 858993459) = y2 at h2 b2
  have b3 : (y2 + y2 / 16) &&& 252645135 ≤ 252645135 := Nat.and_le_right
  have h3 : (nI y2 + jushr (nI y2) 4) &&& 252645135 = nI ((y2 + y2 / 16) &&& 252645135) := by
    rw [i_ush (by omega) 4 (k := 4) (by decide), nI_add, show (252645135 : Int32) = nI 252645135 from rfl, i_and]
  generalize hy3 : (y2 + y2 / 16) &&& 252645135 = y3 at h3 b3
  have h4 : nI y3 + jushr (nI y3) 8 = nI (y3 + y3 / 256) := by rw [i_ush (by omega) 8 (k := 8) (by decide), nI_add]
  have h5 : nI (y3 + y3 / 256) + jushr (nI (y3 + y3 / 256)) 16 = nI (y3 + y3 / 256 + (y3 + y3 / 256) / 65536) := by rw [i_ush (by omega) 16 (k := 16) (by decide), nI_add]
  have h6 : nI (y3 + y3 / 256 + (y3 + y3 / 256) / 65536) &&& 63 = nI ((y3 + y3 / 256 + (y3 + y3 / 256) / 65536) &&& 63) := by rw [show (63 : Int32) = nI 63 from rfl, i_and]
  unfold f_J6_bitCount_0f7a4 f_J6_bitCount_0f7a4_0 bcN
  simp only [bndu, hy1, hy2, hy3, h1, h2, h3, h4, h5, h6]
theorem cntN_add {q : Nat → Bool} {a : Nat} : ∀ b, cntN q (a + b) = cntN q a + cntN (fun i => q (a + i)) b
  | 0 => by simp [cntN]
  | b + 1 => by
    rw [← Nat.add_assoc]
    simp only [cntN, cntN_add b]
    omega
/-- how many bits -/
theorem bc_k (v : Int32) (σ : St) : f_J6_bitCount_0f7a4 v σ = some (nI (cntN (bt v) 32), σ) := by
  have hN := v.toBitVec.isLt
  have hv : v = nI v.toBitVec.toNat := Int32.toBitVec_inj.mp (by
    show v.toBitVec = BitVec.ofNat 32 v.toBitVec.toNat
    rw [BitVec.ofNat_toNat, BitVec.setWidth_eq])
  generalize hM : v.toBitVec.toNat = N at hN hv
  have hb : ∀ i, bt v i = N.testBit i := fun i => by rw [bt_nat, hM]
  rw [hv, bc_f hN]
  congr 3
  obtain ⟨a, b, d, e, ha, hb', hd, he, hNe⟩ : ∃ a b d e, a < 256 ∧ b < 256 ∧ d < 256 ∧ e < 256 ∧ N = 256 * (256 * (256 * e + d) + b) + a := ⟨N % 256, N / 256 % 256, N / 65536 % 256, N / 16777216, by omega, by omega, by omega, by omega, by omega⟩
  rw [← hv, hNe, bc_dig ha hb' hd he]
  have t : ∀ (A q i : Nat), q < 256 → i < 8 → (256 * A + q).testBit i = q.testBit i := fun A q i hq hi => by
    rw [show (256 : Nat) = 2 ^ 8 from rfl, Nat.testBit_two_pow_mul_add _ hq, if_pos hi]
  have u : ∀ (A q i : Nat), q < 256 → (256 * A + q).testBit (8 + i) = A.testBit i := fun A q i hq => by
    rw [show (256 : Nat) = 2 ^ 8 from rfl, Nat.testBit_two_pow_mul_add _ hq, if_neg (by omega), show 8 + i - 8 = i by omega]
  have hf : cntN (bt v) 32 = cntN (fun i => N.testBit i) 32 := cntN_congr (fun i _ => hb i)
  rw [hf, hNe, show (32 : Nat) = 8 + (8 + (8 + 8)) from rfl, cntN_add, cntN_add, cntN_add]
  simp only [u _ _ _ ha, u _ _ _ hb', u _ _ _ hd]
  rw [cntN_congr (q := fun i => a.testBit i) (fun i hi => t _ a i ha hi), cntN_congr (q := fun i => b.testBit i) (fun i hi => t _ b i hb' hi), cntN_congr (q := fun i => d.testBit i) (fun i hi => t _ d i hd hi)]
  unfold pc8
  omega
