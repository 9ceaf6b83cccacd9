noncomputable def f_J3_checkIndex_8e157_0 (a0 : Int32) (a1 : Int32) (a2 : Option Nat) (σ : St) : Option (Int32 × St) :=
  if a0 < 0 then
    none
  else
    if a0 < a1 then
      some (a0, σ)
    else
      none
noncomputable def f_J3_checkIndex_8e157 (a0 : Int32) (a1 : Int32) (a2 : Option Nat) (σ : St) : Option (Int32 × St) := f_J3_checkIndex_8e157_0 a0 a1 a2 σ
noncomputable def f_J0_checkIndex_df160 (a0 a1 : Int32) (σ : St) : Option St := (f_J3_checkIndex_8e157 a0 a1 none σ).bind fun q => some q.2
noncomputable def f_J0_isLatin1_aae02_18 (s0 : Int32) (σ : St) : Option (Int32 × St) :=
  if s0 = 0 ∨ s0 = 1 then some (s0, σ) else none
noncomputable def f_J0_isLatin1_aae02_17  (σ : St) : Option (Int32 × St) :=
  f_J0_isLatin1_aae02_18 0 σ
noncomputable def f_J0_isLatin1_aae02_0 (a0 : Nat) (σ : St) : Option (Int32 × St) :=
  if (1 : Int32) = 0 then
    f_J0_isLatin1_aae02_17  σ
  else
    if (0 : Int32) = 0 then
      f_J0_isLatin1_aae02_18 1 σ
    else
      f_J0_isLatin1_aae02_17  σ
noncomputable def f_J0_isLatin1_aae02 (a0 : Nat) (σ : St) : Option (Int32 × St) := if a0 < nStr then f_J0_isLatin1_aae02_0 a0 σ else none
noncomputable def f_J1_charAt_3b067_0 (a0 : Nat) (a1 : Int32) (σ : St) : Option (Int32 × St) :=
  (sBlen a0).bind fun x1 =>
  (f_J0_checkIndex_df160 a1 x1 σ).bind fun σ2 =>
  (sByte a0 a1).bind fun x3 =>
  some (jc (x3 &&& 255), σ2)
noncomputable def f_J1_charAt_3b067 (a0 : Nat) (a1 : Int32) (σ : St) : Option (Int32 × St) := f_J1_charAt_3b067_0 a0 a1 σ
noncomputable def f_J0_charAt_5068e_0 (a0 : Nat) (a1 : Int32) (σ : St) : Option (Int32 × St) :=
  (f_J0_isLatin1_aae02 a0 σ).bind fun q1 =>
  if q1.1 = 0 then
    none
  else
    (f_J1_charAt_3b067 a0 a1 q1.2).bind fun q3 =>
    if jc q3.1 = q3.1 then some (q3.1, q3.2) else none
noncomputable def f_J0_charAt_5068e (a0 : Nat) (a1 : Int32) (σ : St) : Option (Int32 × St) := if a0 < nStr then f_J0_charAt_5068e_0 a0 a1 σ else none
noncomputable def f_J0_coder_7d493_14 (s0 : Int32) (σ : St) : Option (Int32 × St) :=
  if jb s0 = s0 then some (s0, σ) else none
noncomputable def f_J0_coder_7d493_0 (a0 : Nat) (σ : St) : Option (Int32 × St) :=
  if (1 : Int32) = 0 then
    f_J0_coder_7d493_14 1 σ
  else
    f_J0_coder_7d493_14 0 σ
noncomputable def f_J0_coder_7d493 (a0 : Nat) (σ : St) : Option (Int32 × St) := if a0 < nStr then f_J0_coder_7d493_0 a0 σ else none
noncomputable def f_J0_length_8abf5_0 (a0 : Nat) (σ : St) : Option (Int32 × St) :=
  (sBlen a0).bind fun x1 =>
  (f_J0_coder_7d493 a0 σ).bind fun q2 =>
  some (jshr x1 q2.1, q2.2)
noncomputable def f_J0_length_8abf5 (a0 : Nat) (σ : St) : Option (Int32 × St) := if a0 < nStr then f_J0_length_8abf5_0 a0 σ else none
noncomputable def f_J6_bitCount_0f7a4_0 (a0 : Int32) (σ : St) : Option (Int32 × St) :=
  bnd (a0 - ((jushr a0 1) &&& 1431655765)) fun x1 =>
  bnd ((x1 &&& 858993459) + ((jushr x1 2) &&& 858993459)) fun x2 =>
  bnd ((x2 + (jushr x2 4)) &&& 252645135) fun x3 =>
  bnd (x3 + (jushr x3 8)) fun x4 =>
  bnd (x4 + (jushr x4 16)) fun x5 =>
  some (x5 &&& 63, σ)
noncomputable def f_J6_bitCount_0f7a4 (a0 : Int32) (σ : St) : Option (Int32 × St) := f_J6_bitCount_0f7a4_0 a0 σ
noncomputable def f_J6_numberOfTrailingZeros_0f7a4_74 (a0 : Int32) (a1 : Int32) (σ : St) : Option (Int32 × St) :=
  some (a1 + (jushr a0 1), σ)
noncomputable def f_J6_numberOfTrailingZeros_0f7a4_62 (a0 : Int32) (a1 : Int32) (σ : St) : Option (Int32 × St) :=
  if a0 ≤ 4 then
    f_J6_numberOfTrailingZeros_0f7a4_74 a0 a1  σ
  else
    bnd (jushr a0 2) fun x2 =>
    f_J6_numberOfTrailingZeros_0f7a4_74 x2 (a1 + 2)  σ
noncomputable def f_J6_numberOfTrailingZeros_0f7a4_49 (a0 : Int32) (a1 : Int32) (σ : St) : Option (Int32 × St) :=
  if a0 ≤ 16 then
    f_J6_numberOfTrailingZeros_0f7a4_62 a0 a1  σ
  else
    bnd (jushr a0 4) fun x2 =>
    f_J6_numberOfTrailingZeros_0f7a4_62 x2 (a1 + 4)  σ
noncomputable def f_J6_numberOfTrailingZeros_0f7a4_34 (a0 : Int32) (a1 : Int32) (σ : St) : Option (Int32 × St) :=
  if a0 ≤ 256 then
    f_J6_numberOfTrailingZeros_0f7a4_49 a0 a1  σ
  else
    bnd (jushr a0 8) fun x2 =>
    f_J6_numberOfTrailingZeros_0f7a4_49 x2 (a1 + 8)  σ
noncomputable def f_J6_numberOfTrailingZeros_0f7a4_0 (a0 : Int32) (σ : St) : Option (Int32 × St) :=
  bnd ((a0 ^^^ (-1)) &&& (a0 - 1)) fun x1 =>
  if 0 < x1 then
    if x1 ≤ 65536 then
      f_J6_numberOfTrailingZeros_0f7a4_34 x1 1  σ
    else
      bnd (jushr x1 16) fun x4 =>
      f_J6_numberOfTrailingZeros_0f7a4_34 x4 (1 + 16)  σ
  else
    some (x1 &&& 32, σ)
noncomputable def f_J6_numberOfTrailingZeros_0f7a4 (a0 : Int32) (σ : St) : Option (Int32 × St) := f_J6_numberOfTrailingZeros_0f7a4_0 a0 σ
noncomputable def f_J7_fill_53178_5 (n : Nat) : Nat → Int32 → Int32 → Int32 → St → Option (St) :=
  Nat.rec (motive := fun _ => Nat → Int32 → Int32 → Int32 → St → Option (St)) (fun _ _ _ _ _ => none) (fun _ ih => fun a0 a1 a2 a3 σ =>
  if a3 ≤ a2 then
    some σ
  else
    (xI a0 a2 a1 σ).bind fun σ2 =>
    ih a0 a1 (a2 + 1) a3  σ2) n
theorem e_J7_fill_53178_5 (n : Nat) {a0 : Nat} {a1 : Int32} {a2 : Int32} {a3 : Int32} {σ : St} : f_J7_fill_53178_5 (n + 1) a0 a1 a2 a3 σ = (
  if a3 ≤ a2 then
    some σ
  else
    (xI a0 a2 a1 σ).bind fun σ2 =>
    (f_J7_fill_53178_5 n) a0 a1 (a2 + 1) a3  σ2) := rfl
noncomputable def f_J7_fill_53178_0 (a0 : Nat) (a1 : Int32) (σ : St) : Option (St) :=
  (aN a0 σ).bind fun x1 =>
  f_J7_fill_53178_5 FU a0 a1 0 x1  σ
noncomputable def f_J7_fill_53178 (a0 : Nat) (a1 : Int32) (σ : St) : Option (St) := f_J7_fill_53178_0 a0 a1 σ
noncomputable def f_X0_forget_0 (a0 : Nat) (σ : St) : Option (St) :=
  (gR 1 1 a0 σ).bind fun x1 =>
  (f_J7_fill_53178 x1 0 σ).bind fun σ2 =>
  some σ2
noncomputable def f_X0_forget (a0 : Nat) (σ : St) : Option (St) := if hT σ a0 = 1 then f_X0_forget_0 a0 σ else none
noncomputable def f_X3_isDone_17 (s0 : Int32) (σ : St) : Option (Int32 × St) :=
  if s0 = 0 ∨ s0 = 1 then some (s0, σ) else none
noncomputable def f_X3_isDone_0 (a0 : Nat) (a1 : Int32) (σ : St) : Option (Int32 × St) :=
  (gI 4 12 a0 σ).bind fun x1 =>
  if ((jshr x1 a1) &&& 1) = 1 then
    f_X3_isDone_17 1 σ
  else
    f_X3_isDone_17 0 σ
noncomputable def f_X3_isDone (a0 : Nat) (a1 : Int32) (σ : St) : Option (Int32 × St) := if hT σ a0 = 4 then f_X3_isDone_0 a0 a1 σ else none
noncomputable def f_X3_isReady_21 (s0 : Int32) (σ : St) : Option (Int32 × St) :=
  if s0 = 0 ∨ s0 = 1 then some (s0, σ) else none
noncomputable def f_X3_isReady_20  (σ : St) : Option (Int32 × St) :=
  f_X3_isReady_21 0 σ
noncomputable def f_X3_isReady_0 (a0 : Nat) (a1 : Int32) (σ : St) : Option (Int32 × St) :=
  if a1 < 0 then
    f_X3_isReady_20  σ
  else
    (gI 4 3 a0 σ).bind fun x2 =>
    if ((jshr x2 a1) &&& 1) = 1 then
      f_X3_isReady_21 1 σ
    else
      f_X3_isReady_20  σ
noncomputable def f_X3_isReady (a0 : Nat) (a1 : Int32) (σ : St) : Option (Int32 × St) := if hT σ a0 = 4 then f_X3_isReady_0 a0 a1 σ else none
noncomputable def f_X3_whyNotRetire_57 (s0 : Int32) (σ : St) : Option (Int32 × St) :=
  some (s0, σ)
noncomputable def f_X3_whyNotRetire_56  (σ : St) : Option (Int32 × St) :=
  f_X3_whyNotRetire_57 0 σ
noncomputable def f_X3_whyNotRetire_34 (a0 : Nat) (s0 : Int32) (σ : St) : Option (Int32 × St) :=
  if s0 = 0 then
    f_X3_whyNotRetire_56  σ
  else
    (gR 4 8 a0 σ).bind fun x2 =>
    (aI 22 x2 0 σ).bind fun x3 =>
    (f_X3_isReady a0 x3 σ).bind fun q4 =>
    if q4.1 = 0 then
      f_X3_whyNotRetire_57 3 q4.2
    else
      f_X3_whyNotRetire_56  q4.2
noncomputable def f_X3_whyNotRetire_0 (a0 : Nat) (σ : St) : Option (Int32 × St) :=
  (gI 4 6 a0 σ).bind fun x1 =>
  if x1 = 0 then
    some (1, σ)
  else
    (f_X3_isDone a0 0 σ).bind fun q3 =>
    if q3.1 = 0 then
      some (2, q3.2)
    else
      (gI 4 14 a0 q3.2).bind fun x5 =>
      if (x5 &&& 1) = 1 then
        f_X3_whyNotRetire_34 a0 1 q3.2
      else
        f_X3_whyNotRetire_34 a0 0 q3.2
noncomputable def f_X3_whyNotRetire (a0 : Nat) (σ : St) : Option (Int32 × St) := if hT σ a0 = 4 then f_X3_whyNotRetire_0 a0 σ else none
noncomputable def f_X3_keepOldest_0 (a0 : Nat) (a1 : Int32) (σ : St) : Option (St) :=
  bnd ((jshl 1 a1) - 1) fun x1 =>
  (pI 4 6 a0 a1 σ).bind fun σ2 =>
  (gI 4 11 a0 σ2).bind fun x3 =>
  (pI 4 11 a0 (x3 &&& x1) σ2).bind fun σ4 =>
  (gI 4 12 a0 σ4).bind fun x5 =>
  (pI 4 12 a0 (x5 &&& x1) σ4).bind fun σ6 =>
  (gI 4 13 a0 σ6).bind fun x7 =>
  (pI 4 13 a0 (x7 &&& x1) σ6).bind fun σ8 =>
  (gI 4 14 a0 σ8).bind fun x9 =>
  (pI 4 14 a0 (x9 &&& x1) σ8).bind fun σ10 =>
  (gI 4 15 a0 σ10).bind fun x11 =>
  (pI 4 15 a0 (x11 &&& x1) σ10).bind fun σ12 =>
  some σ12
noncomputable def f_X3_keepOldest (a0 : Nat) (a1 : Int32) (σ : St) : Option (St) := if hT σ a0 = 4 then f_X3_keepOldest_0 a0 a1 σ else none
noncomputable def f_X8_isRegister_15 (s0 : Int32) (σ : St) : Option (Int32 × St) :=
  if s0 = 0 ∨ s0 = 1 then some (s0, σ) else none
noncomputable def f_X8_isRegister_14  (σ : St) : Option (Int32 × St) :=
  f_X8_isRegister_15 0 σ
noncomputable def f_X8_isRegister_0 (a0 : Int32) (σ : St) : Option (Int32 × St) :=
  if a0 < 0 then
    f_X8_isRegister_14  σ
  else
    if 8 ≤ a0 then
      f_X8_isRegister_14  σ
    else
      f_X8_isRegister_15 1 σ
noncomputable def f_X8_isRegister (a0 : Int32) (σ : St) : Option (Int32 × St) := f_X8_isRegister_0 a0 σ
noncomputable def f_X3_bitOf_11 (s0 : Int32) (σ : St) : Option (Int32 × St) :=
  some (s0, σ)
noncomputable def f_X3_bitOf_0 (a0 : Int32) (σ : St) : Option (Int32 × St) :=
  if 0 ≤ a0 then
    f_X3_bitOf_11 (jshl 1 a0) σ
  else
    f_X3_bitOf_11 0 σ
noncomputable def f_X3_bitOf (a0 : Int32) (σ : St) : Option (Int32 × St) := f_X3_bitOf_0 a0 σ
noncomputable def f_X3_dropOldest_0 (a0 : Nat) (σ : St) : Option (St) :=
  (gI 4 6 a0 σ).bind fun x1 =>
  (pI 4 6 a0 (x1 - 1) σ).bind fun σ2 =>
  (gR 4 7 a0 σ2).bind fun x3 =>
  (gR 4 7 a0 σ2).bind fun x4 =>
  (gI 4 6 a0 σ2).bind fun x5 =>
  (cpI x3 1 x4 0 x5 σ2).bind fun σ6 =>
  (gR 4 8 a0 σ6).bind fun x7 =>
  (gR 4 8 a0 σ6).bind fun x8 =>
  (gI 4 6 a0 σ6).bind fun x9 =>
  (cpI x7 1 x8 0 x9 σ6).bind fun σ10 =>
  (gR 4 9 a0 σ10).bind fun x11 =>
  (gR 4 9 a0 σ10).bind fun x12 =>
  (gI 4 6 a0 σ10).bind fun x13 =>
  (cpI x11 1 x12 0 x13 σ10).bind fun σ14 =>
  (gR 4 10 a0 σ14).bind fun x15 =>
  (gR 4 10 a0 σ14).bind fun x16 =>
  (gI 4 6 a0 σ14).bind fun x17 =>
  (cpI x15 1 x16 0 x17 σ14).bind fun σ18 =>
  (gI 4 11 a0 σ18).bind fun x19 =>
  (pI 4 11 a0 (jshr x19 1) σ18).bind fun σ20 =>
  (gI 4 12 a0 σ20).bind fun x21 =>
  (pI 4 12 a0 (jshr x21 1) σ20).bind fun σ22 =>
  (gI 4 13 a0 σ22).bind fun x23 =>
  (pI 4 13 a0 (jshr x23 1) σ22).bind fun σ24 =>
  (gI 4 14 a0 σ24).bind fun x25 =>
  (pI 4 14 a0 (jshr x25 1) σ24).bind fun σ26 =>
  (gI 4 15 a0 σ26).bind fun x27 =>
  (pI 4 15 a0 (jshr x27 1) σ26).bind fun σ28 =>
  some σ28
noncomputable def f_X3_dropOldest (a0 : Nat) (σ : St) : Option (St) := if hT σ a0 = 4 then f_X3_dropOldest_0 a0 σ else none
noncomputable def f_X3_retire_79 (a0 : Nat) (a1 : Int32) (σ : St) : Option (Int32 × St) :=
  (f_X3_dropOldest a0 σ).bind fun σ1 =>
  (gI 4 19 a0 σ1).bind fun x2 =>
  (pI 4 19 a0 (x2 + 1) σ1).bind fun σ3 =>
  some (a1, σ3)
noncomputable def f_X3_retire_0 (a0 : Nat) (σ : St) : Option (Int32 × St) :=
  (gR 4 7 a0 σ).bind fun x1 =>
  (aI 22 x1 0 σ).bind fun x2 =>
  (gI 4 13 a0 σ).bind fun x3 =>
  if (x3 &&& 1) = 1 then
    (f_X3_keepOldest a0 0 σ).bind fun σ17 =>
    (pZ 4 17 a0 1 σ17).bind fun σ18 =>
    (pI 4 16 a0 x2 σ18).bind fun σ19 =>
    some ((-2), σ19)
  else
    (gR 4 0 a0 σ).bind fun x5 =>
    (gR 6 7 x5 σ).bind fun x6 =>
    (aI 22 x6 x2 σ).bind fun x7 =>
    (f_X8_isRegister x7 σ).bind fun q8 =>
    if q8.1 = 0 then
      f_X3_retire_79 a0 x2  q8.2
    else
      (gR 4 4 a0 q8.2).bind fun x10 =>
      (gR 4 8 a0 q8.2).bind fun x11 =>
      (aI 22 x11 0 q8.2).bind fun x12 =>
      (xI x10 x7 x12 q8.2).bind fun σ13 =>
      (gI 4 5 a0 σ13).bind fun x14 =>
      (f_X3_bitOf x7 σ13).bind fun q15 =>
      (pI 4 5 a0 (x14 &&& (q15.1 ^^^ (-1))) q15.2).bind fun σ16 =>
      f_X3_retire_79 a0 x2  σ16
noncomputable def f_X3_retire (a0 : Nat) (σ : St) : Option (Int32 × St) := if hT σ a0 = 4 then f_X3_retire_0 a0 σ else none
noncomputable def f_X3_canRead_17 (s0 : Int32) (σ : St) : Option (Int32 × St) :=
  if s0 = 0 ∨ s0 = 1 then some (s0, σ) else none
noncomputable def f_X3_canRead_12  (σ : St) : Option (Int32 × St) :=
  f_X3_canRead_17 1 σ
noncomputable def f_X3_canRead_0 (a0 : Nat) (a1 : Int32) (σ : St) : Option (Int32 × St) :=
  if a1 < 0 then
    f_X3_canRead_12  σ
  else
    (f_X3_isReady a0 a1 σ).bind fun q2 =>
    if q2.1 = 0 then
      f_X3_canRead_17 0 q2.2
    else
      f_X3_canRead_12  q2.2
noncomputable def f_X3_canRead (a0 : Nat) (a1 : Int32) (σ : St) : Option (Int32 × St) := if hT σ a0 = 4 then f_X3_canRead_0 a0 a1 σ else none
noncomputable def f_X3_canWork_39 (s0 : Int32) (σ : St) : Option (Int32 × St) :=
  if s0 = 0 ∨ s0 = 1 then some (s0, σ) else none
noncomputable def f_X3_canWork_38  (σ : St) : Option (Int32 × St) :=
  f_X3_canWork_39 0 σ
noncomputable def f_X3_canWork_0 (a0 : Nat) (a1 : Int32) (σ : St) : Option (Int32 × St) :=
  (f_X3_isDone a0 a1 σ).bind fun q1 =>
  if q1.1 = 0 then
    (gR 4 9 a0 q1.2).bind fun x3 =>
    (aI 22 x3 a1 q1.2).bind fun x4 =>
    (f_X3_canRead a0 x4 q1.2).bind fun q5 =>
    if q5.1 = 0 then
      f_X3_canWork_38  q5.2
    else
      (gR 4 10 a0 q5.2).bind fun x7 =>
      (aI 22 x7 a1 q5.2).bind fun x8 =>
      (f_X3_canRead a0 x8 q5.2).bind fun q9 =>
      if q9.1 = 0 then
        f_X3_canWork_38  q9.2
      else
        f_X3_canWork_39 1 q9.2
  else
    f_X3_canWork_38  q1.2
noncomputable def f_X3_canWork (a0 : Nat) (a1 : Int32) (σ : St) : Option (Int32 × St) := if hT σ a0 = 4 then f_X3_canWork_0 a0 a1 σ else none
noncomputable def f_X3_oldestToWork_2 (n : Nat) : Nat → Int32 → St → Option (Int32 × St) :=
  Nat.rec (motive := fun _ => Nat → Int32 → St → Option (Int32 × St)) (fun _ _ _ => none) (fun _ ih => fun a0 a1 σ =>
  (gI 4 6 a0 σ).bind fun x1 =>
  if x1 ≤ a1 then
    some ((-1), σ)
  else
    (f_X3_canWork a0 a1 σ).bind fun q3 =>
    if q3.1 = 0 then
      ih a0 (a1 + 1)  q3.2
    else
      some (a1, q3.2)) n
theorem e_X3_oldestToWork_2 (n : Nat) {a0 : Nat} {a1 : Int32} {σ : St} : f_X3_oldestToWork_2 (n + 1) a0 a1 σ = (
  (gI 4 6 a0 σ).bind fun x1 =>
  if x1 ≤ a1 then
    some ((-1), σ)
  else
    (f_X3_canWork a0 a1 σ).bind fun q3 =>
    if q3.1 = 0 then
      (f_X3_oldestToWork_2 n) a0 (a1 + 1)  q3.2
    else
      some (a1, q3.2)) := rfl
noncomputable def f_X3_oldestToWork_0 (a0 : Nat) (σ : St) : Option (Int32 × St) :=
  f_X3_oldestToWork_2 FU a0 0  σ
noncomputable def f_X3_oldestToWork (a0 : Nat) (σ : St) : Option (Int32 × St) := if hT σ a0 = 4 then f_X3_oldestToWork_0 a0 σ else none
noncomputable def f_X3_valueRead_14 (s0 : Int32) (σ : St) : Option (Int32 × St) :=
  some (s0, σ)
noncomputable def f_X3_valueRead_0 (a0 : Nat) (a1 : Int32) (σ : St) : Option (Int32 × St) :=
  if 0 ≤ a1 then
    (gR 4 2 a0 σ).bind fun x2 =>
    (aI 22 x2 a1 σ).bind fun x3 =>
    f_X3_valueRead_14 x3 σ
  else
    f_X3_valueRead_14 0 σ
noncomputable def f_X3_valueRead (a0 : Nat) (a1 : Int32) (σ : St) : Option (Int32 × St) := if hT σ a0 = 4 then f_X3_valueRead_0 a0 a1 σ else none
noncomputable def f_X5_nextBehind_27 (s0 : Int32) (σ : St) : Option (Int32 × St) :=
  some (s0, σ)
noncomputable def f_X5_nextBehind_24 (a1 : Int32) (σ : St) : Option (Int32 × St) :=
  f_X5_nextBehind_27 (a1 + 1) σ
noncomputable def f_X5_nextBehind_0 (a0 : Nat) (a1 : Int32) (a2 : Int32) (a3 : Int32) (σ : St) : Option (Int32 × St) :=
  (gR 6 6 a0 σ).bind fun x1 =>
  (aI 22 x1 a1 σ).bind fun x2 =>
  if x2 = 5 then
    if a2 = a3 then
      (gR 6 10 a0 σ).bind fun x5 =>
      (aI 22 x5 a1 σ).bind fun x6 =>
      f_X5_nextBehind_27 x6 σ
    else
      f_X5_nextBehind_24 a1  σ
  else
    f_X5_nextBehind_24 a1  σ
noncomputable def f_X5_nextBehind (a0 : Nat) (a1 : Int32) (a2 : Int32) (a3 : Int32) (σ : St) : Option (Int32 × St) := if hT σ a0 = 6 then f_X5_nextBehind_0 a0 a1 a2 a3 σ else none
noncomputable def f_X3_nextOf_0 (a0 : Nat) (a1 : Int32) (σ : St) : Option (Int32 × St) :=
  (gR 4 0 a0 σ).bind fun x1 =>
  (gR 4 7 a0 σ).bind fun x2 =>
  (aI 22 x2 a1 σ).bind fun x3 =>
  (gR 4 9 a0 σ).bind fun x4 =>
  (aI 22 x4 a1 σ).bind fun x5 =>
  (f_X3_valueRead a0 x5 σ).bind fun q6 =>
  (gR 4 10 a0 q6.2).bind fun x7 =>
  (aI 22 x7 a1 q6.2).bind fun x8 =>
  (f_X3_valueRead a0 x8 q6.2).bind fun q9 =>
  (f_X5_nextBehind x1 x3 q6.1 q9.1 q9.2).bind fun q10 =>
  some (q10.1, q10.2)
noncomputable def f_X3_nextOf (a0 : Nat) (a1 : Int32) (σ : St) : Option (Int32 × St) := if hT σ a0 = 4 then f_X3_nextOf_0 a0 a1 σ else none
noncomputable def f_X5_guessBehind_31 (s0 : Int32) (σ : St) : Option (Int32 × St) :=
  some (s0, σ)
noncomputable def f_X5_guessBehind_28 (a1 : Int32) (σ : St) : Option (Int32 × St) :=
  f_X5_guessBehind_31 (a1 + 1) σ
noncomputable def f_X5_guessBehind_0 (a0 : Nat) (a1 : Int32) (σ : St) : Option (Int32 × St) :=
  (gR 6 6 a0 σ).bind fun x1 =>
  (aI 22 x1 a1 σ).bind fun x2 =>
  if x2 = 5 then
    (gR 6 11 a0 σ).bind fun x4 =>
    (aI 23 x4 a1 σ).bind fun x5 =>
    if x5 = 0 then
      f_X5_guessBehind_28 a1  σ
    else
      (gR 6 10 a0 σ).bind fun x7 =>
      (aI 22 x7 a1 σ).bind fun x8 =>
      f_X5_guessBehind_31 x8 σ
  else
    f_X5_guessBehind_28 a1  σ
noncomputable def f_X5_guessBehind (a0 : Nat) (a1 : Int32) (σ : St) : Option (Int32 × St) := if hT σ a0 = 6 then f_X5_guessBehind_0 a0 a1 σ else none
noncomputable def f_X3_misguessed_26 (s0 : Int32) (σ : St) : Option (Int32 × St) :=
  if s0 = 0 ∨ s0 = 1 then some (s0, σ) else none
noncomputable def f_X3_misguessed_0 (a0 : Nat) (a1 : Int32) (σ : St) : Option (Int32 × St) :=
  (f_X3_nextOf a0 a1 σ).bind fun q1 =>
  (gR 4 0 a0 q1.2).bind fun x2 =>
  (gR 4 7 a0 q1.2).bind fun x3 =>
  (aI 22 x3 a1 q1.2).bind fun x4 =>
  (f_X5_guessBehind x2 x4 q1.2).bind fun q5 =>
  if q1.1 = q5.1 then
    f_X3_misguessed_26 0 q5.2
  else
    f_X3_misguessed_26 1 q5.2
noncomputable def f_X3_misguessed (a0 : Nat) (a1 : Int32) (σ : St) : Option (Int32 × St) := if hT σ a0 = 4 then f_X3_misguessed_0 a0 a1 σ else none
noncomputable def f_X3_workSkip_0 (a0 : Nat) (a1 : Int32) (σ : St) : Option (Int32 × St) :=
  (gI 4 15 a0 σ).bind fun x1 =>
  (pI 4 15 a0 (x1 &&& ((jshl 1 a1) ^^^ (-1))) σ).bind fun σ2 =>
  (f_X3_nextOf a0 a1 σ2).bind fun q3 =>
  (gR 4 0 a0 q3.2).bind fun x4 =>
  (gR 4 7 a0 q3.2).bind fun x5 =>
  (aI 22 x5 a1 q3.2).bind fun x6 =>
  (f_X5_guessBehind x4 x6 q3.2).bind fun q7 =>
  if q3.1 = q7.1 then
    some (0, q7.2)
  else
    (gI 4 6 a0 q7.2).bind fun x9 =>
    bnd ((x9 - a1) - 1) fun x10 =>
    (pI 4 16 a0 q3.1 q7.2).bind fun σ11 =>
    (f_X3_keepOldest a0 (a1 + 1) σ11).bind fun σ12 =>
    some (x10, σ12)
noncomputable def f_X3_workSkip (a0 : Nat) (a1 : Int32) (σ : St) : Option (Int32 × St) := if hT σ a0 = 4 then f_X3_workSkip_0 a0 a1 σ else none
noncomputable def f_X5_outcome_74 (s0 : Int32) (σ : St) : Option (Int32 × St) :=
  some (s0, σ)
noncomputable def f_X5_outcome_0 (a0 : Nat) (a1 : Int32) (a2 : Int32) (a3 : Int32) (σ : St) : Option (Int32 × St) :=
  (gR 6 6 a0 σ).bind fun x1 =>
  (aI 22 x1 a1 σ).bind fun x2 =>
  if x2 = 0 then
    (gR 6 10 a0 σ).bind fun x7 =>
    (aI 22 x7 a1 σ).bind fun x8 =>
    some (x8, σ)
  else
    if x2 = 1 then
      some (jrem (a2 + a3) 10000, σ)
    else
      if x2 = 2 then
        some (jrem ((a2 - a3) + 10000) 10000, σ)
      else
        if x2 = 3 then
          if a3 = 0 then
            f_X5_outcome_74 (-1) σ
          else
            if a3 = 0 then none else
            f_X5_outcome_74 (a2 / a3) σ
        else
          some (a2, σ)
noncomputable def f_X5_outcome (a0 : Nat) (a1 : Int32) (a2 : Int32) (a3 : Int32) (σ : St) : Option (Int32 × St) := if hT σ a0 = 6 then f_X5_outcome_0 a0 a1 a2 a3 σ else none
noncomputable def f_X3_work_120  (σ : St) : Option (Int32 × St) :=
  some (0, σ)
noncomputable def f_X3_work_0 (a0 : Nat) (a1 : Int32) (σ : St) : Option (Int32 × St) :=
  (gI 4 12 a0 σ).bind fun x1 =>
  (pI 4 12 a0 (x1 ||| (jshl 1 a1)) σ).bind fun σ2 =>
  (gR 4 0 a0 σ2).bind fun x3 =>
  (gR 6 6 x3 σ2).bind fun x4 =>
  (gR 4 7 a0 σ2).bind fun x5 =>
  (aI 22 x5 a1 σ2).bind fun x6 =>
  (aI 22 x4 x6 σ2).bind fun x7 =>
  if x7 = 5 then
    (f_X3_workSkip a0 a1 σ2).bind fun q31 =>
    some (q31.1, q31.2)
  else
    (gR 4 0 a0 σ2).bind fun x9 =>
    (gR 4 7 a0 σ2).bind fun x10 =>
    (aI 22 x10 a1 σ2).bind fun x11 =>
    (gR 4 9 a0 σ2).bind fun x12 =>
    (aI 22 x12 a1 σ2).bind fun x13 =>
    (f_X3_valueRead a0 x13 σ2).bind fun q14 =>
    (gR 4 10 a0 q14.2).bind fun x15 =>
    (aI 22 x15 a1 q14.2).bind fun x16 =>
    (f_X3_valueRead a0 x16 q14.2).bind fun q17 =>
    (f_X5_outcome x9 x11 q14.1 q17.1 q17.2).bind fun q18 =>
    if q18.1 = (-1) then
      (gI 4 13 a0 q18.2).bind fun x29 =>
      (pI 4 13 a0 (x29 ||| (jshl 1 a1)) q18.2).bind fun σ30 =>
      f_X3_work_120  σ30
    else
      (gR 4 2 a0 q18.2).bind fun x20 =>
      (gR 4 8 a0 q18.2).bind fun x21 =>
      (aI 22 x21 a1 q18.2).bind fun x22 =>
      (xI x20 x22 q18.1 q18.2).bind fun σ23 =>
      (gI 4 3 a0 σ23).bind fun x24 =>
      (gR 4 8 a0 σ23).bind fun x25 =>
      (aI 22 x25 a1 σ23).bind fun x26 =>
      (f_X3_bitOf x26 σ23).bind fun q27 =>
      (pI 4 3 a0 (x24 ||| q27.1) q27.2).bind fun σ28 =>
      f_X3_work_120  σ28
noncomputable def f_X3_work (a0 : Nat) (a1 : Int32) (σ : St) : Option (Int32 × St) := if hT σ a0 = 4 then f_X3_work_0 a0 a1 σ else none
noncomputable def f_X5_has_17 (s0 : Int32) (σ : St) : Option (Int32 × St) :=
  if s0 = 0 ∨ s0 = 1 then some (s0, σ) else none
noncomputable def f_X5_has_16  (σ : St) : Option (Int32 × St) :=
  f_X5_has_17 0 σ
noncomputable def f_X5_has_0 (a0 : Nat) (a1 : Int32) (σ : St) : Option (Int32 × St) :=
  if a1 < 0 then
    f_X5_has_16  σ
  else
    (gI 6 5 a0 σ).bind fun x2 =>
    if x2 ≤ a1 then
      f_X5_has_16  σ
    else
      f_X5_has_17 1 σ
noncomputable def f_X5_has (a0 : Nat) (a1 : Int32) (σ : St) : Option (Int32 × St) := if hT σ a0 = 6 then f_X5_has_0 a0 a1 σ else none
noncomputable def f_X3_mapBy_4 (n : Nat) : Nat → Int32 → Int32 → St → Option (Int32 × St) :=
  Nat.rec (motive := fun _ => Nat → Int32 → Int32 → St → Option (Int32 × St)) (fun _ _ _ _ => none) (fun _ ih => fun a0 a2 a3 σ =>
  if a3 < 0 then
    (gR 4 4 a0 σ).bind fun x2 =>
    (aI 22 x2 a2 σ).bind fun x3 =>
    some (x3, σ)
  else
    (gR 4 0 a0 σ).bind fun x4 =>
    (gR 6 7 x4 σ).bind fun x5 =>
    (gR 4 7 a0 σ).bind fun x6 =>
    (aI 22 x6 a3 σ).bind fun x7 =>
    (aI 22 x5 x7 σ).bind fun x8 =>
    if x8 = a2 then
      (gR 4 8 a0 σ).bind fun x10 =>
      (aI 22 x10 a3 σ).bind fun x11 =>
      some (x11, σ)
    else
      ih a0 a2 (a3 + (-1))  σ) n
theorem e_X3_mapBy_4 (n : Nat) {a0 : Nat} {a2 : Int32} {a3 : Int32} {σ : St} : f_X3_mapBy_4 (n + 1) a0 a2 a3 σ = (
  if a3 < 0 then
    (gR 4 4 a0 σ).bind fun x2 =>
    (aI 22 x2 a2 σ).bind fun x3 =>
    some (x3, σ)
  else
    (gR 4 0 a0 σ).bind fun x4 =>
    (gR 6 7 x4 σ).bind fun x5 =>
    (gR 4 7 a0 σ).bind fun x6 =>
    (aI 22 x6 a3 σ).bind fun x7 =>
    (aI 22 x5 x7 σ).bind fun x8 =>
    if x8 = a2 then
      (gR 4 8 a0 σ).bind fun x10 =>
      (aI 22 x10 a3 σ).bind fun x11 =>
      some (x11, σ)
    else
      (f_X3_mapBy_4 n) a0 a2 (a3 + (-1))  σ) := rfl
noncomputable def f_X3_mapBy_0 (a0 : Nat) (a1 : Int32) (a2 : Int32) (σ : St) : Option (Int32 × St) :=
  bnd (a1 - 1) fun x1 =>
  f_X3_mapBy_4 FU a0 a2 x1  σ
noncomputable def f_X3_mapBy (a0 : Nat) (a1 : Int32) (a2 : Int32) (σ : St) : Option (Int32 × St) := if hT σ a0 = 4 then f_X3_mapBy_0 a0 a1 a2 σ else none
noncomputable def f_X3_sureOnes_32 (s0 : Int32) (σ : St) : Option (Int32 × St) :=
  some (s0, σ)
noncomputable def f_X3_sureOnes_0 (a0 : Nat) (σ : St) : Option (Int32 × St) :=
  (gI 4 11 a0 σ).bind fun x1 =>
  (gI 4 12 a0 σ).bind fun x2 =>
  (gI 4 13 a0 σ).bind fun x3 =>
  bnd ((x1 &&& (x2 ^^^ (-1))) ||| x3) fun x4 =>
  if x4 = 0 then
    (gI 4 6 a0 σ).bind fun x7 =>
    f_X3_sureOnes_32 x7 σ
  else
    (f_J6_numberOfTrailingZeros_0f7a4 x4 σ).bind fun q6 =>
    f_X3_sureOnes_32 q6.1 q6.2
noncomputable def f_X3_sureOnes (a0 : Nat) (σ : St) : Option (Int32 × St) := if hT σ a0 = 4 then f_X3_sureOnes_0 a0 σ else none
noncomputable def f_X3_letGoBits_156 (k121 : Nat → Int32 → Int32 → Int32 → Int32 → St → Option (Int32 × St)) (a0 : Nat) (a3 : Int32) (a4 : Int32) (a5 : Int32) (a6 : Int32) (σ : St) : Option (Int32 × St) :=
  k121 a0 a3 a4 a5 (a6 + 1)  σ
noncomputable def f_X3_letGoBits_121 (n : Nat) : Nat → Int32 → Int32 → Int32 → Int32 → St → Option (Int32 × St) :=
  Nat.rec (motive := fun _ => Nat → Int32 → Int32 → Int32 → Int32 → St → Option (Int32 × St)) (fun _ _ _ _ _ _ => none) (fun _ ih => fun a0 a3 a4 a5 a6 σ =>
  if 8 ≤ a6 then
    some (a5, σ)
  else
    (gR 4 4 a0 σ).bind fun x2 =>
    (aI 22 x2 a6 σ).bind fun x3 =>
    (f_X3_bitOf x3 σ).bind fun q4 =>
    if (a3 &&& q4.1) = 0 then
      (f_X3_bitOf a6 q4.2).bind fun q6 =>
      bnd (a5 ||| (a4 &&& q6.1)) fun x7 =>
      f_X3_letGoBits_156 ih a0 a3 a4 x7 a6  q6.2
    else
      f_X3_letGoBits_156 ih a0 a3 a4 a5 a6  q4.2) n
theorem e_X3_letGoBits_121 (n : Nat) {a0 : Nat} {a3 : Int32} {a4 : Int32} {a5 : Int32} {a6 : Int32} {σ : St} : f_X3_letGoBits_121 (n + 1) a0 a3 a4 a5 a6 σ = (
  if 8 ≤ a6 then
    some (a5, σ)
  else
    (gR 4 4 a0 σ).bind fun x2 =>
    (aI 22 x2 a6 σ).bind fun x3 =>
    (f_X3_bitOf x3 σ).bind fun q4 =>
    if (a3 &&& q4.1) = 0 then
      (f_X3_bitOf a6 q4.2).bind fun q6 =>
      bnd (a5 ||| (a4 &&& q6.1)) fun x7 =>
      f_X3_letGoBits_156 (f_X3_letGoBits_121 n) a0 a3 a4 x7 a6  q6.2
    else
      f_X3_letGoBits_156 (f_X3_letGoBits_121 n) a0 a3 a4 a5 a6  q4.2) := rfl
noncomputable def f_X3_letGoBits_106 (k25 : Nat → Int32 → Int32 → Int32 → Int32 → Int32 → St → Option (Int32 × St)) (a0 : Nat) (a1 : Int32) (a2 : Int32) (a3 : Int32) (a4 : Int32) (a5 : Int32) (σ : St) : Option (Int32 × St) :=
  k25 a0 a1 a2 a3 a4 (a5 + 1)  σ
noncomputable def f_X3_letGoBits_77 (k25 : Nat → Int32 → Int32 → Int32 → Int32 → Int32 → St → Option (Int32 × St)) (a0 : Nat) (a1 : Int32) (a2 : Int32) (a3 : Int32) (a4 : Int32) (a5 : Int32) (σ : St) : Option (Int32 × St) :=
  if a2 ≤ a5 then
    f_X3_letGoBits_106 k25 a0 a1 a2 a3 a4 a5  σ
  else
    (gR 4 0 a0 σ).bind fun x2 =>
    (gR 6 7 x2 σ).bind fun x3 =>
    (gR 4 7 a0 σ).bind fun x4 =>
    (aI 22 x4 a5 σ).bind fun x5 =>
    (aI 22 x3 x5 σ).bind fun x6 =>
    (f_X3_bitOf x6 σ).bind fun q7 =>
    bnd (a4 ||| q7.1) fun x8 =>
    f_X3_letGoBits_106 k25 a0 a1 a2 a3 x8 a5  q7.2
noncomputable def f_X3_letGoBits_25 (n : Nat) : Nat → Int32 → Int32 → Int32 → Int32 → Int32 → St → Option (Int32 × St) :=
  Nat.rec (motive := fun _ => Nat → Int32 → Int32 → Int32 → Int32 → Int32 → St → Option (Int32 × St)) (fun _ _ _ _ _ _ _ => none) (fun _ ih => fun a0 a1 a2 a3 a4 a5 σ =>
  if a1 ≤ a5 then
    (gI 4 5 a0 σ).bind fun x2 =>
    f_X3_letGoBits_121 FU a0 a3 a4 x2 0  σ
  else
    (gR 4 8 a0 σ).bind fun x3 =>
    (aI 22 x3 a5 σ).bind fun x4 =>
    (f_X3_bitOf x4 σ).bind fun q5 =>
    bnd (a3 ||| q5.1) fun x6 =>
    (f_X3_isDone a0 a5 q5.2).bind fun q7 =>
    if q7.1 = 0 then
      (gR 4 9 a0 q7.2).bind fun x9 =>
      (aI 22 x9 a5 q7.2).bind fun x10 =>
      (f_X3_bitOf x10 q7.2).bind fun q11 =>
      (gR 4 10 a0 q11.2).bind fun x12 =>
      (aI 22 x12 a5 q11.2).bind fun x13 =>
      (f_X3_bitOf x13 q11.2).bind fun q14 =>
      bnd (x6 ||| (q11.1 ||| q14.1)) fun x15 =>
      f_X3_letGoBits_77 ih a0 a1 a2 x15 a4 a5  q14.2
    else
      f_X3_letGoBits_77 ih a0 a1 a2 x6 a4 a5  q7.2) n
theorem e_X3_letGoBits_25 (n : Nat) {a0 : Nat} {a1 : Int32} {a2 : Int32} {a3 : Int32} {a4 : Int32} {a5 : Int32} {σ : St} : f_X3_letGoBits_25 (n + 1) a0 a1 a2 a3 a4 a5 σ = (
  if a1 ≤ a5 then
    (gI 4 5 a0 σ).bind fun x2 =>
    f_X3_letGoBits_121 FU a0 a3 a4 x2 0  σ
  else
    (gR 4 8 a0 σ).bind fun x3 =>
    (aI 22 x3 a5 σ).bind fun x4 =>
    (f_X3_bitOf x4 σ).bind fun q5 =>
    bnd (a3 ||| q5.1) fun x6 =>
    (f_X3_isDone a0 a5 q5.2).bind fun q7 =>
    if q7.1 = 0 then
      (gR 4 9 a0 q7.2).bind fun x9 =>
      (aI 22 x9 a5 q7.2).bind fun x10 =>
      (f_X3_bitOf x10 q7.2).bind fun q11 =>
      (gR 4 10 a0 q11.2).bind fun x12 =>
      (aI 22 x12 a5 q11.2).bind fun x13 =>
      (f_X3_bitOf x13 q11.2).bind fun q14 =>
      bnd (x6 ||| (q11.1 ||| q14.1)) fun x15 =>
      f_X3_letGoBits_77 (f_X3_letGoBits_25 n) a0 a1 a2 x15 a4 a5  q14.2
    else
      f_X3_letGoBits_77 (f_X3_letGoBits_25 n) a0 a1 a2 x6 a4 a5  q7.2) := rfl
noncomputable def f_X3_letGoBits_0 (a0 : Nat) (a1 : Int32) (σ : St) : Option (Int32 × St) :=
  (gR 4 0 a0 σ).bind fun x1 =>
  (gI 6 4 x1 σ).bind fun x2 =>
  if x2 = 0 then
    some (0, σ)
  else
    (f_X3_sureOnes a0 σ).bind fun q4 =>
    f_X3_letGoBits_25 FU a0 a1 q4.1 0 0 0  q4.2
noncomputable def f_X3_letGoBits (a0 : Nat) (a1 : Int32) (σ : St) : Option (Int32 × St) := if hT σ a0 = 4 then f_X3_letGoBits_0 a0 a1 σ else none
noncomputable def f_X3_holdersBut_68 (k45 : Nat → Int32 → Int32 → Int32 → St → Option (Int32 × St)) (a0 : Nat) (a2 : Int32) (a3 : Int32) (a4 : Int32) (σ : St) : Option (Int32 × St) :=
  k45 a0 a2 a3 (a4 + 1)  σ
noncomputable def f_X3_holdersBut_45 (n : Nat) : Nat → Int32 → Int32 → Int32 → St → Option (Int32 × St) :=
  Nat.rec (motive := fun _ => Nat → Int32 → Int32 → Int32 → St → Option (Int32 × St)) (fun _ _ _ _ _ => none) (fun _ ih => fun a0 a2 a3 a4 σ =>
  (gI 4 6 a0 σ).bind fun x1 =>
  if x1 ≤ a4 then
    some (a3, σ)
  else
    (gR 4 8 a0 σ).bind fun x3 =>
    (aI 22 x3 a4 σ).bind fun x4 =>
    if x4 = a2 then
      f_X3_holdersBut_68 ih a0 a2 (a3 + 1) a4  σ
    else
      f_X3_holdersBut_68 ih a0 a2 a3 a4  σ) n
theorem e_X3_holdersBut_45 (n : Nat) {a0 : Nat} {a2 : Int32} {a3 : Int32} {a4 : Int32} {σ : St} : f_X3_holdersBut_45 (n + 1) a0 a2 a3 a4 σ = (
  (gI 4 6 a0 σ).bind fun x1 =>
  if x1 ≤ a4 then
    some (a3, σ)
  else
    (gR 4 8 a0 σ).bind fun x3 =>
    (aI 22 x3 a4 σ).bind fun x4 =>
    if x4 = a2 then
      f_X3_holdersBut_68 (f_X3_holdersBut_45 n) a0 a2 (a3 + 1) a4  σ
    else
      f_X3_holdersBut_68 (f_X3_holdersBut_45 n) a0 a2 a3 a4  σ) := rfl
noncomputable def f_X3_holdersBut_36 (k5 : Nat → Int32 → Int32 → Int32 → Int32 → St → Option (Int32 × St)) (a0 : Nat) (a1 : Int32) (a2 : Int32) (a3 : Int32) (a4 : Int32) (σ : St) : Option (Int32 × St) :=
  k5 a0 a1 a2 a3 (a4 + 1)  σ
noncomputable def f_X3_holdersBut_5 (n : Nat) : Nat → Int32 → Int32 → Int32 → Int32 → St → Option (Int32 × St) :=
  Nat.rec (motive := fun _ => Nat → Int32 → Int32 → Int32 → Int32 → St → Option (Int32 × St)) (fun _ _ _ _ _ _ => none) (fun _ ih => fun a0 a1 a2 a3 a4 σ =>
  if 8 ≤ a4 then
    f_X3_holdersBut_45 FU a0 a2 a3 0  σ
  else
    (gR 4 4 a0 σ).bind fun x2 =>
    (aI 22 x2 a4 σ).bind fun x3 =>
    if x3 = a2 then
      (f_X3_bitOf a4 σ).bind fun q5 =>
      if (a1 &&& q5.1) = 0 then
        f_X3_holdersBut_36 ih a0 a1 a2 (a3 + 1) a4  q5.2
      else
        f_X3_holdersBut_36 ih a0 a1 a2 a3 a4  q5.2
    else
      f_X3_holdersBut_36 ih a0 a1 a2 a3 a4  σ) n
theorem e_X3_holdersBut_5 (n : Nat) {a0 : Nat} {a1 : Int32} {a2 : Int32} {a3 : Int32} {a4 : Int32} {σ : St} : f_X3_holdersBut_5 (n + 1) a0 a1 a2 a3 a4 σ = (
  if 8 ≤ a4 then
    f_X3_holdersBut_45 FU a0 a2 a3 0  σ
  else
    (gR 4 4 a0 σ).bind fun x2 =>
    (aI 22 x2 a4 σ).bind fun x3 =>
    if x3 = a2 then
      (f_X3_bitOf a4 σ).bind fun q5 =>
      if (a1 &&& q5.1) = 0 then
        f_X3_holdersBut_36 (f_X3_holdersBut_5 n) a0 a1 a2 (a3 + 1) a4  q5.2
      else
        f_X3_holdersBut_36 (f_X3_holdersBut_5 n) a0 a1 a2 a3 a4  q5.2
    else
      f_X3_holdersBut_36 (f_X3_holdersBut_5 n) a0 a1 a2 a3 a4  σ) := rfl
noncomputable def f_X3_holdersBut_0 (a0 : Nat) (a1 : Int32) (a2 : Int32) (σ : St) : Option (Int32 × St) :=
  f_X3_holdersBut_5 FU a0 a1 a2 0 0  σ
noncomputable def f_X3_holdersBut (a0 : Nat) (a1 : Int32) (a2 : Int32) (σ : St) : Option (Int32 × St) := if hT σ a0 = 4 then f_X3_holdersBut_0 a0 a1 a2 σ else none
noncomputable def f_X3_mergesNext_67 (s0 : Int32) (σ : St) : Option (Int32 × St) :=
  if s0 = 0 ∨ s0 = 1 then some (s0, σ) else none
noncomputable def f_X3_mergesNext_0 (a0 : Nat) (σ : St) : Option (Int32 × St) :=
  (gR 4 0 a0 σ).bind fun x1 =>
  (gR 6 6 x1 σ).bind fun x2 =>
  (gI 4 16 a0 σ).bind fun x3 =>
  (aI 22 x2 x3 σ).bind fun x4 =>
  if x4 = 4 then
    (gI 4 6 a0 σ).bind fun x6 =>
    (gR 4 0 a0 σ).bind fun x7 =>
    (gR 6 8 x7 σ).bind fun x8 =>
    (gI 4 16 a0 σ).bind fun x9 =>
    (aI 22 x8 x9 σ).bind fun x10 =>
    (f_X3_mapBy a0 x6 x10 σ).bind fun q11 =>
    (gI 4 6 a0 q11.2).bind fun x12 =>
    (f_X3_letGoBits a0 x12 q11.2).bind fun q13 =>
    (f_X3_holdersBut a0 q13.1 q11.1 q13.2).bind fun q14 =>
    (gR 4 0 a0 q14.2).bind fun x15 =>
    (gI 6 3 x15 q14.2).bind fun x16 =>
    if x16 ≤ q14.1 then
      f_X3_mergesNext_67 0 q14.2
    else
      f_X3_mergesNext_67 1 q14.2
  else
    some (0, σ)
noncomputable def f_X3_mergesNext (a0 : Nat) (σ : St) : Option (Int32 × St) := if hT σ a0 = 4 then f_X3_mergesNext_0 a0 σ else none
noncomputable def f_X3_freeBits_50 (n : Nat) : Nat → Int32 → Int32 → Int32 → St → Option (Int32 × St) :=
  Nat.rec (motive := fun _ => Nat → Int32 → Int32 → Int32 → St → Option (Int32 × St)) (fun _ _ _ _ _ => none) (fun _ ih => fun a0 a1 a2 a4 σ =>
  if a1 ≤ a4 then
    (gI 4 1 a0 σ).bind fun x2 =>
    some ((a2 ^^^ (-1)) &&& ((jshl 1 x2) - 1), σ)
  else
    (gR 4 8 a0 σ).bind fun x3 =>
    (aI 22 x3 a4 σ).bind fun x4 =>
    (f_X3_bitOf x4 σ).bind fun q5 =>
    bnd (a2 ||| q5.1) fun x6 =>
    ih a0 a1 x6 (a4 + 1)  q5.2) n
theorem e_X3_freeBits_50 (n : Nat) {a0 : Nat} {a1 : Int32} {a2 : Int32} {a4 : Int32} {σ : St} : f_X3_freeBits_50 (n + 1) a0 a1 a2 a4 σ = (
  if a1 ≤ a4 then
    (gI 4 1 a0 σ).bind fun x2 =>
    some ((a2 ^^^ (-1)) &&& ((jshl 1 x2) - 1), σ)
  else
    (gR 4 8 a0 σ).bind fun x3 =>
    (aI 22 x3 a4 σ).bind fun x4 =>
    (f_X3_bitOf x4 σ).bind fun q5 =>
    bnd (a2 ||| q5.1) fun x6 =>
    (f_X3_freeBits_50 n) a0 a1 x6 (a4 + 1)  q5.2) := rfl
noncomputable def f_X3_freeBits_41 (k11 : Nat → Int32 → Int32 → Int32 → Int32 → St → Option (Int32 × St)) (a0 : Nat) (a1 : Int32) (a2 : Int32) (a3 : Int32) (a4 : Int32) (σ : St) : Option (Int32 × St) :=
  k11 a0 a1 a2 a3 (a4 + 1)  σ
noncomputable def f_X3_freeBits_11 (n : Nat) : Nat → Int32 → Int32 → Int32 → Int32 → St → Option (Int32 × St) :=
  Nat.rec (motive := fun _ => Nat → Int32 → Int32 → Int32 → Int32 → St → Option (Int32 × St)) (fun _ _ _ _ _ _ => none) (fun _ ih => fun a0 a1 a2 a3 a4 σ =>
  if 8 ≤ a4 then
    f_X3_freeBits_50 FU a0 a1 a2 0  σ
  else
    (f_X3_bitOf a4 σ).bind fun q2 =>
    if (a3 &&& q2.1) = 0 then
      (gR 4 4 a0 q2.2).bind fun x4 =>
      (aI 22 x4 a4 q2.2).bind fun x5 =>
      (f_X3_bitOf x5 q2.2).bind fun q6 =>
      bnd (a2 ||| q6.1) fun x7 =>
      f_X3_freeBits_41 ih a0 a1 x7 a3 a4  q6.2
    else
      f_X3_freeBits_41 ih a0 a1 a2 a3 a4  q2.2) n
theorem e_X3_freeBits_11 (n : Nat) {a0 : Nat} {a1 : Int32} {a2 : Int32} {a3 : Int32} {a4 : Int32} {σ : St} : f_X3_freeBits_11 (n + 1) a0 a1 a2 a3 a4 σ = (
  if 8 ≤ a4 then
    f_X3_freeBits_50 FU a0 a1 a2 0  σ
  else
    (f_X3_bitOf a4 σ).bind fun q2 =>
    if (a3 &&& q2.1) = 0 then
      (gR 4 4 a0 q2.2).bind fun x4 =>
      (aI 22 x4 a4 q2.2).bind fun x5 =>
      (f_X3_bitOf x5 q2.2).bind fun q6 =>
      bnd (a2 ||| q6.1) fun x7 =>
      f_X3_freeBits_41 (f_X3_freeBits_11 n) a0 a1 x7 a3 a4  q6.2
    else
      f_X3_freeBits_41 (f_X3_freeBits_11 n) a0 a1 a2 a3 a4  q2.2) := rfl
noncomputable def f_X3_freeBits_0 (a0 : Nat) (a1 : Int32) (σ : St) : Option (Int32 × St) :=
  (f_X3_letGoBits a0 a1 σ).bind fun q1 =>
  f_X3_freeBits_11 FU a0 a1 0 q1.1 0  q1.2
noncomputable def f_X3_freeBits (a0 : Nat) (a1 : Int32) (σ : St) : Option (Int32 × St) := if hT σ a0 = 4 then f_X3_freeBits_0 a0 a1 σ else none
noncomputable def f_X3_whyNotTake_90 (s0 : Int32) (σ : St) : Option (Int32 × St) :=
  some (s0, σ)
noncomputable def f_X3_whyNotTake_89  (σ : St) : Option (Int32 × St) :=
  f_X3_whyNotTake_90 0 σ
noncomputable def f_X3_whyNotTake_69 (a0 : Nat) (s0 : Int32) (σ : St) : Option (Int32 × St) :=
  if s0 = 0 then
    f_X3_whyNotTake_89  σ
  else
    (gI 4 6 a0 σ).bind fun x2 =>
    (f_X3_freeBits a0 x2 σ).bind fun q3 =>
    if q3.1 = 0 then
      f_X3_whyNotTake_90 4 q3.2
    else
      f_X3_whyNotTake_89  q3.2
noncomputable def f_X3_whyNotTake_68 (a0 : Nat) (σ : St) : Option (Int32 × St) :=
  f_X3_whyNotTake_69 a0 0 σ
noncomputable def f_X3_whyNotTake_0 (a0 : Nat) (σ : St) : Option (Int32 × St) :=
  (gI 4 17 a0 σ).bind fun x1 =>
  if x1 = 0 then
    (gR 4 0 a0 σ).bind fun x3 =>
    (gI 4 16 a0 σ).bind fun x4 =>
    (f_X5_has x3 x4 σ).bind fun q5 =>
    if q5.1 = 0 then
      some (2, q5.2)
    else
      (gI 4 6 a0 q5.2).bind fun x7 =>
      (gR 4 0 a0 q5.2).bind fun x8 =>
      (gI 6 1 x8 q5.2).bind fun x9 =>
      if x7 < x9 then
        (gR 4 0 a0 q5.2).bind fun x11 =>
        (gR 6 6 x11 q5.2).bind fun x12 =>
        (gI 4 16 a0 q5.2).bind fun x13 =>
        (aI 22 x12 x13 q5.2).bind fun x14 =>
        if x14 = 5 then
          f_X3_whyNotTake_68 a0  q5.2
        else
          (f_X3_mergesNext a0 q5.2).bind fun q16 =>
          if q16.1 = 0 then
            f_X3_whyNotTake_69 a0 1 q16.2
          else
            f_X3_whyNotTake_68 a0  q16.2
      else
        some (3, q5.2)
  else
    some (1, σ)
noncomputable def f_X3_whyNotTake (a0 : Nat) (σ : St) : Option (Int32 × St) := if hT σ a0 = 4 then f_X3_whyNotTake_0 a0 σ else none
noncomputable def f_X3_cellToRead_21 (s0 : Int32) (σ : St) : Option (Int32 × St) :=
  some (s0, σ)
noncomputable def f_X3_cellToRead_0 (a0 : Nat) (a1 : Int32) (σ : St) : Option (Int32 × St) :=
  (f_X8_isRegister a1 σ).bind fun q1 =>
  if q1.1 = 0 then
    f_X3_cellToRead_21 (-2) q1.2
  else
    (gI 4 6 a0 q1.2).bind fun x3 =>
    (f_X3_mapBy a0 x3 a1 q1.2).bind fun q4 =>
    f_X3_cellToRead_21 q4.1 q4.2
noncomputable def f_X3_cellToRead (a0 : Nat) (a1 : Int32) (σ : St) : Option (Int32 × St) := if hT σ a0 = 4 then f_X3_cellToRead_0 a0 a1 σ else none
noncomputable def f_X3_saveIfRoom_29  (σ : St) : Option (St) :=
  some σ
noncomputable def f_X3_saveIfRoom_0 (a0 : Nat) (a1 : Int32) (σ : St) : Option (St) :=
  (gI 4 15 a0 σ).bind fun x1 =>
  (f_J6_bitCount_0f7a4 x1 σ).bind fun q2 =>
  (gR 4 0 a0 q2.2).bind fun x3 =>
  (gI 6 2 x3 q2.2).bind fun x4 =>
  if x4 ≤ q2.1 then
    f_X3_saveIfRoom_29  q2.2
  else
    (gI 4 15 a0 q2.2).bind fun x6 =>
    (pI 4 15 a0 (x6 ||| (jshl 1 a1)) q2.2).bind fun σ7 =>
    f_X3_saveIfRoom_29  σ7
noncomputable def f_X3_saveIfRoom (a0 : Nat) (a1 : Int32) (σ : St) : Option (St) := if hT σ a0 = 4 then f_X3_saveIfRoom_0 a0 a1 σ else none
noncomputable def f_X3_claim_46 (k17 : Nat → Int32 → Int32 → St → Option (St)) (a0 : Nat) (a1 : Int32) (a2 : Int32) (σ : St) : Option (St) :=
  k17 a0 a1 (a2 + 1)  σ
noncomputable def f_X3_claim_17 (n : Nat) : Nat → Int32 → Int32 → St → Option (St) :=
  Nat.rec (motive := fun _ => Nat → Int32 → Int32 → St → Option (St)) (fun _ _ _ _ => none) (fun _ ih => fun a0 a1 a2 σ =>
  if 8 ≤ a2 then
    some σ
  else
    (gR 4 4 a0 σ).bind fun x2 =>
    (aI 22 x2 a2 σ).bind fun x3 =>
    if x3 = a1 then
      (gI 4 5 a0 σ).bind fun x5 =>
      (f_X3_bitOf a2 σ).bind fun q6 =>
      (pI 4 5 a0 (x5 ||| q6.1) q6.2).bind fun σ7 =>
      f_X3_claim_46 ih a0 a1 a2  σ7
    else
      f_X3_claim_46 ih a0 a1 a2  σ) n
theorem e_X3_claim_17 (n : Nat) {a0 : Nat} {a1 : Int32} {a2 : Int32} {σ : St} : f_X3_claim_17 (n + 1) a0 a1 a2 σ = (
  if 8 ≤ a2 then
    some σ
  else
    (gR 4 4 a0 σ).bind fun x2 =>
    (aI 22 x2 a2 σ).bind fun x3 =>
    if x3 = a1 then
      (gI 4 5 a0 σ).bind fun x5 =>
      (f_X3_bitOf a2 σ).bind fun q6 =>
      (pI 4 5 a0 (x5 ||| q6.1) q6.2).bind fun σ7 =>
      f_X3_claim_46 (f_X3_claim_17 n) a0 a1 a2  σ7
    else
      f_X3_claim_46 (f_X3_claim_17 n) a0 a1 a2  σ) := rfl
noncomputable def f_X3_claim_0 (a0 : Nat) (a1 : Int32) (σ : St) : Option (St) :=
  (gI 4 3 a0 σ).bind fun x1 =>
  (f_X3_bitOf a1 σ).bind fun q2 =>
  (pI 4 3 a0 (x1 &&& (q2.1 ^^^ (-1))) q2.2).bind fun σ3 =>
  f_X3_claim_17 FU a0 a1 0  σ3
noncomputable def f_X3_claim (a0 : Nat) (a1 : Int32) (σ : St) : Option (St) := if hT σ a0 = 4 then f_X3_claim_0 a0 a1 σ else none
noncomputable def f_X5_isRisky_25 (s0 : Int32) (σ : St) : Option (Int32 × St) :=
  if s0 = 0 ∨ s0 = 1 then some (s0, σ) else none
noncomputable def f_X5_isRisky_20  (σ : St) : Option (Int32 × St) :=
  f_X5_isRisky_25 1 σ
noncomputable def f_X5_isRisky_0 (a0 : Nat) (a1 : Int32) (σ : St) : Option (Int32 × St) :=
  (gR 6 6 a0 σ).bind fun x1 =>
  (aI 22 x1 a1 σ).bind fun x2 =>
  if x2 = 5 then
    f_X5_isRisky_20  σ
  else
    (gR 6 6 a0 σ).bind fun x4 =>
    (aI 22 x4 a1 σ).bind fun x5 =>
    if x5 = 3 then
      f_X5_isRisky_20  σ
    else
      f_X5_isRisky_25 0 σ
noncomputable def f_X5_isRisky (a0 : Nat) (a1 : Int32) (σ : St) : Option (Int32 × St) := if hT σ a0 = 6 then f_X5_isRisky_0 a0 a1 σ else none
noncomputable def f_X3_take_173 (a0 : Nat) (a1 : Int32) (a2 : Int32) (σ : St) : Option (Int32 × St) :=
  (gR 4 7 a0 σ).bind fun x1 =>
  (xI x1 a2 a1 σ).bind fun σ2 =>
  (gI 4 6 a0 σ2).bind fun x3 =>
  (pI 4 6 a0 (x3 + 1) σ2).bind fun σ4 =>
  (gR 4 0 a0 σ4).bind fun x5 =>
  (f_X5_guessBehind x5 a1 σ4).bind fun q6 =>
  (pI 4 16 a0 q6.1 q6.2).bind fun σ7 =>
  some (a1, σ7)
noncomputable def f_X3_take_150 (a0 : Nat) (a1 : Int32) (a2 : Int32) (σ : St) : Option (Int32 × St) :=
  (gR 4 0 a0 σ).bind fun x1 =>
  (f_X5_isRisky x1 a1 σ).bind fun q2 =>
  if q2.1 = 0 then
    f_X3_take_173 a0 a1 a2  q2.2
  else
    (gI 4 11 a0 q2.2).bind fun x4 =>
    (pI 4 11 a0 (x4 ||| (jshl 1 a2)) q2.2).bind fun σ5 =>
    f_X3_take_173 a0 a1 a2  σ5
noncomputable def f_X3_take_0 (a0 : Nat) (σ : St) : Option (Int32 × St) :=
  (gI 4 16 a0 σ).bind fun x1 =>
  (gI 4 6 a0 σ).bind fun x2 =>
  (gR 4 9 a0 σ).bind fun x3 =>
  (gR 4 0 a0 σ).bind fun x4 =>
  (gR 6 8 x4 σ).bind fun x5 =>
  (aI 22 x5 x1 σ).bind fun x6 =>
  (f_X3_cellToRead a0 x6 σ).bind fun q7 =>
  (xI x3 x2 q7.1 q7.2).bind fun σ8 =>
  (gR 4 10 a0 σ8).bind fun x9 =>
  (gR 4 0 a0 σ8).bind fun x10 =>
  (gR 6 9 x10 σ8).bind fun x11 =>
  (aI 22 x11 x1 σ8).bind fun x12 =>
  (f_X3_cellToRead a0 x12 σ8).bind fun q13 =>
  (xI x9 x2 q13.1 q13.2).bind fun σ14 =>
  (gR 4 0 a0 σ14).bind fun x15 =>
  (gR 6 6 x15 σ14).bind fun x16 =>
  (aI 22 x16 x1 σ14).bind fun x17 =>
  if x17 = 5 then
    (gR 4 8 a0 σ14).bind fun x37 =>
    (xI x37 x2 (-2) σ14).bind fun σ38 =>
    (f_X3_saveIfRoom a0 x2 σ38).bind fun σ39 =>
    f_X3_take_150 a0 x1 x2  σ39
  else
    (f_X3_mergesNext a0 σ14).bind fun q19 =>
    if q19.1 = 0 then
      (gR 4 8 a0 q19.2).bind fun x21 =>
      (gI 4 6 a0 q19.2).bind fun x22 =>
      (f_X3_freeBits a0 x22 q19.2).bind fun q23 =>
      (f_J6_numberOfTrailingZeros_0f7a4 q23.1 q23.2).bind fun q24 =>
      (xI x21 x2 q24.1 q24.2).bind fun σ25 =>
      (gR 4 8 a0 σ25).bind fun x26 =>
      (aI 22 x26 x2 σ25).bind fun x27 =>
      (f_X3_claim a0 x27 σ25).bind fun σ28 =>
      f_X3_take_150 a0 x1 x2  σ28
    else
      (gR 4 8 a0 q19.2).bind fun x29 =>
      (gR 4 9 a0 q19.2).bind fun x30 =>
      (aI 22 x30 x2 q19.2).bind fun x31 =>
      (xI x29 x2 x31 q19.2).bind fun σ32 =>
      (gI 4 14 a0 σ32).bind fun x33 =>
      (pI 4 14 a0 (x33 ||| (jshl 1 x2)) σ32).bind fun σ34 =>
      (gI 4 12 a0 σ34).bind fun x35 =>
      (pI 4 12 a0 (x35 ||| (jshl 1 x2)) σ34).bind fun σ36 =>
      f_X3_take_150 a0 x1 x2  σ36
noncomputable def f_X3_take (a0 : Nat) (σ : St) : Option (Int32 × St) := if hT σ a0 = 4 then f_X3_take_0 a0 σ else none
noncomputable def f_X0_goOneCycle_119 (a1 : Int32) (σ : St) : Option (Int32 × St) :=
  some (a1, σ)
noncomputable def f_X0_goOneCycle_90 (n : Nat) : Nat → Int32 → Int32 → St → Option (Int32 × St) :=
  Nat.rec (motive := fun _ => Nat → Int32 → Int32 → St → Option (Int32 × St)) (fun _ _ _ _ => none) (fun _ ih => fun a0 a1 a2 σ =>
  if 2 ≤ a2 then
    f_X0_goOneCycle_119 a1  σ
  else
    (gR 1 0 a0 σ).bind fun x2 =>
    (f_X3_whyNotTake x2 σ).bind fun q3 =>
    if q3.1 = 0 then
      (gR 1 0 a0 q3.2).bind fun x5 =>
      (f_X3_take x5 q3.2).bind fun q6 =>
      ih a0 a1 (a2 + 1)  q6.2
    else
      f_X0_goOneCycle_119 a1  q3.2) n
theorem e_X0_goOneCycle_90 (n : Nat) {a0 : Nat} {a1 : Int32} {a2 : Int32} {σ : St} : f_X0_goOneCycle_90 (n + 1) a0 a1 a2 σ = (
  if 2 ≤ a2 then
    f_X0_goOneCycle_119 a1  σ
  else
    (gR 1 0 a0 σ).bind fun x2 =>
    (f_X3_whyNotTake x2 σ).bind fun q3 =>
    if q3.1 = 0 then
      (gR 1 0 a0 q3.2).bind fun x5 =>
      (f_X3_take x5 q3.2).bind fun q6 =>
      (f_X0_goOneCycle_90 n) a0 a1 (a2 + 1)  q6.2
    else
      f_X0_goOneCycle_119 a1  q3.2) := rfl
noncomputable def f_X0_goOneCycle_88 (a0 : Nat) (a1 : Int32) (σ : St) : Option (Int32 × St) :=
  f_X0_goOneCycle_90 FU a0 a1 0  σ
noncomputable def f_X0_goOneCycle_82 (k35 : Nat → Int32 → Int32 → St → Option (Int32 × St)) (a0 : Nat) (a1 : Int32) (a2 : Int32) (σ : St) : Option (Int32 × St) :=
  k35 a0 a1 (a2 + 1)  σ
noncomputable def f_X0_goOneCycle_72 (k35 : Nat → Int32 → Int32 → St → Option (Int32 × St)) (a0 : Nat) (a2 : Int32) (a3 : Int32) (s0 : Int32) (σ : St) : Option (Int32 × St) :=
  (gR 1 0 a0 σ).bind fun x1 =>
  (f_X3_work x1 a3 σ).bind fun q2 =>
  f_X0_goOneCycle_82 k35 a0 s0 a2  q2.2
noncomputable def f_X0_goOneCycle_35 (n : Nat) : Nat → Int32 → Int32 → St → Option (Int32 × St) :=
  Nat.rec (motive := fun _ => Nat → Int32 → Int32 → St → Option (Int32 × St)) (fun _ _ _ _ => none) (fun _ ih => fun a0 a1 a2 σ =>
  if 2 ≤ a2 then
    f_X0_goOneCycle_88 a0 a1  σ
  else
    if a1 = 0 then
      (gR 1 0 a0 σ).bind fun x3 =>
      (f_X3_oldestToWork x3 σ).bind fun q4 =>
      if q4.1 < 0 then
        f_X0_goOneCycle_82 ih a0 a1 a2  q4.2
      else
        (gR 1 0 a0 q4.2).bind fun x6 =>
        (f_X3_misguessed x6 q4.1 q4.2).bind fun q7 =>
        if q7.1 = 0 then
          f_X0_goOneCycle_72 ih a0 a2 q4.1 0 q7.2
        else
          f_X0_goOneCycle_72 ih a0 a2 q4.1 1 q7.2
    else
      f_X0_goOneCycle_88 a0 a1  σ) n
theorem e_X0_goOneCycle_35 (n : Nat) {a0 : Nat} {a1 : Int32} {a2 : Int32} {σ : St} : f_X0_goOneCycle_35 (n + 1) a0 a1 a2 σ = (
  if 2 ≤ a2 then
    f_X0_goOneCycle_88 a0 a1  σ
  else
    if a1 = 0 then
      (gR 1 0 a0 σ).bind fun x3 =>
      (f_X3_oldestToWork x3 σ).bind fun q4 =>
      if q4.1 < 0 then
        f_X0_goOneCycle_82 (f_X0_goOneCycle_35 n) a0 a1 a2  q4.2
      else
        (gR 1 0 a0 q4.2).bind fun x6 =>
        (f_X3_misguessed x6 q4.1 q4.2).bind fun q7 =>
        if q7.1 = 0 then
          f_X0_goOneCycle_72 (f_X0_goOneCycle_35 n) a0 a2 q4.1 0 q7.2
        else
          f_X0_goOneCycle_72 (f_X0_goOneCycle_35 n) a0 a2 q4.1 1 q7.2
    else
      f_X0_goOneCycle_88 a0 a1  σ) := rfl
noncomputable def f_X0_goOneCycle_31 (a0 : Nat) (σ : St) : Option (Int32 × St) :=
  f_X0_goOneCycle_35 FU a0 0 0  σ
noncomputable def f_X0_goOneCycle_2 (n : Nat) : Nat → Int32 → St → Option (Int32 × St) :=
  Nat.rec (motive := fun _ => Nat → Int32 → St → Option (Int32 × St)) (fun _ _ _ => none) (fun _ ih => fun a0 a1 σ =>
  if 2 ≤ a1 then
    f_X0_goOneCycle_31 a0  σ
  else
    (gR 1 0 a0 σ).bind fun x2 =>
    (f_X3_whyNotRetire x2 σ).bind fun q3 =>
    if q3.1 = 0 then
      (gR 1 0 a0 q3.2).bind fun x5 =>
      (f_X3_retire x5 q3.2).bind fun q6 =>
      ih a0 (a1 + 1)  q6.2
    else
      f_X0_goOneCycle_31 a0  q3.2) n
theorem e_X0_goOneCycle_2 (n : Nat) {a0 : Nat} {a1 : Int32} {σ : St} : f_X0_goOneCycle_2 (n + 1) a0 a1 σ = (
  if 2 ≤ a1 then
    f_X0_goOneCycle_31 a0  σ
  else
    (gR 1 0 a0 σ).bind fun x2 =>
    (f_X3_whyNotRetire x2 σ).bind fun q3 =>
    if q3.1 = 0 then
      (gR 1 0 a0 q3.2).bind fun x5 =>
      (f_X3_retire x5 q3.2).bind fun q6 =>
      (f_X0_goOneCycle_2 n) a0 (a1 + 1)  q6.2
    else
      f_X0_goOneCycle_31 a0  q3.2) := rfl
noncomputable def f_X0_goOneCycle_0 (a0 : Nat) (σ : St) : Option (Int32 × St) :=
  f_X0_goOneCycle_2 FU a0 0  σ
noncomputable def f_X0_goOneCycle (a0 : Nat) (σ : St) : Option (Int32 × St) := if hT σ a0 = 1 then f_X0_goOneCycle_0 a0 σ else none
noncomputable def f_X3_init_0 (a0 : Nat) (a1 : Nat) (σ : St) : Option (St) :=
  bnd (nw σ 22 24) fun σ1 =>
  (pP 4 2 a0 (hZ σ) σ1).bind fun σ2 =>
  bnd (nw σ2 22 8) fun σ3 =>
  (pP 4 4 a0 (hZ σ2) σ3).bind fun σ4 =>
  bnd (nw σ4 22 12) fun σ5 =>
  (pP 4 7 a0 (hZ σ4) σ5).bind fun σ6 =>
  bnd (nw σ6 22 12) fun σ7 =>
  (pP 4 8 a0 (hZ σ6) σ7).bind fun σ8 =>
  bnd (nw σ8 22 12) fun σ9 =>
  (pP 4 9 a0 (hZ σ8) σ9).bind fun σ10 =>
  bnd (nw σ10 22 12) fun σ11 =>
  (pP 4 10 a0 (hZ σ10) σ11).bind fun σ12 =>
  (pP 4 0 a0 a1 σ12).bind fun σ13 =>
  some σ13
noncomputable def f_X3_init (a0 : Nat) (a1 : Nat) (σ : St) : Option (St) := if hT σ a0 = 4 then f_X3_init_0 a0 a1 σ else none
noncomputable def f_X0_init_0 (a0 : Nat) (a1 : Nat) (σ : St) : Option (St) :=
  bnd (nw σ 22 16) fun σ1 =>
  (pP 1 1 a0 (hZ σ) σ1).bind fun σ2 =>
  bnd (nw σ2 22 16) fun σ3 =>
  (pP 1 2 a0 (hZ σ2) σ3).bind fun σ4 =>
  bnd (nw σ4 22 16) fun σ5 =>
  (pP 1 3 a0 (hZ σ4) σ5).bind fun σ6 =>
  bnd (nw σ6 22 16) fun σ7 =>
  (pP 1 4 a0 (hZ σ6) σ7).bind fun σ8 =>
  bnd (nw σ8 4 0) fun σ9 =>
  (f_X3_init (hZ σ8) a1 σ9).bind fun σ10 =>
  (pP 1 0 a0 (hZ σ8) σ10).bind fun σ11 =>
  some σ11
noncomputable def f_X0_init (a0 : Nat) (a1 : Nat) (σ : St) : Option (St) := if hT σ a0 = 1 then f_X0_init_0 a0 a1 σ else none
noncomputable def f_X3_begin_27 (n : Nat) : Nat → Int32 → St → Option (St) :=
  Nat.rec (motive := fun _ => Nat → Int32 → St → Option (St)) (fun _ _ _ => none) (fun _ ih => fun a0 a3 σ =>
  if 8 ≤ a3 then
    (pI 4 5 a0 0 σ).bind fun σ2 =>
    (f_X3_keepOldest a0 0 σ2).bind fun σ3 =>
    (pI 4 16 a0 0 σ3).bind fun σ4 =>
    (pZ 4 17 a0 0 σ4).bind fun σ5 =>
    (pZ 4 18 a0 0 σ5).bind fun σ6 =>
    (pI 4 19 a0 0 σ6).bind fun σ7 =>
    some σ7
  else
    (gR 4 4 a0 σ).bind fun x8 =>
    (xI x8 a3 a3 σ).bind fun σ9 =>
    ih a0 (a3 + 1)  σ9) n
theorem e_X3_begin_27 (n : Nat) {a0 : Nat} {a3 : Int32} {σ : St} : f_X3_begin_27 (n + 1) a0 a3 σ = (
  if 8 ≤ a3 then
    (pI 4 5 a0 0 σ).bind fun σ2 =>
    (f_X3_keepOldest a0 0 σ2).bind fun σ3 =>
    (pI 4 16 a0 0 σ3).bind fun σ4 =>
    (pZ 4 17 a0 0 σ4).bind fun σ5 =>
    (pZ 4 18 a0 0 σ5).bind fun σ6 =>
    (pI 4 19 a0 0 σ6).bind fun σ7 =>
    some σ7
  else
    (gR 4 4 a0 σ).bind fun x8 =>
    (xI x8 a3 a3 σ).bind fun σ9 =>
    (f_X3_begin_27 n) a0 (a3 + 1)  σ9) := rfl
noncomputable def f_X3_begin_0 (a0 : Nat) (a1 : Nat) (a2 : Int32) (σ : St) : Option (St) :=
  (pP 4 0 a0 a1 σ).bind fun σ1 =>
  (pI 4 1 a0 a2 σ1).bind fun σ2 =>
  (gR 4 2 a0 σ2).bind fun x3 =>
  (f_J7_fill_53178 x3 0 σ2).bind fun σ4 =>
  (pI 4 3 a0 255 σ4).bind fun σ5 =>
  f_X3_begin_27 FU a0 0  σ5
noncomputable def f_X3_begin (a0 : Nat) (a1 : Nat) (a2 : Int32) (σ : St) : Option (St) := if hT σ a0 = 4 then f_X3_begin_0 a0 a1 a2 σ else none
noncomputable def f_X3_isOver_33 (s0 : Int32) (σ : St) : Option (Int32 × St) :=
  if s0 = 0 ∨ s0 = 1 then some (s0, σ) else none
noncomputable def f_X3_isOver_28  (σ : St) : Option (Int32 × St) :=
  f_X3_isOver_33 1 σ
noncomputable def f_X3_isOver_32  (σ : St) : Option (Int32 × St) :=
  f_X3_isOver_33 0 σ
noncomputable def f_X3_isOver_0 (a0 : Nat) (σ : St) : Option (Int32 × St) :=
  (gI 4 17 a0 σ).bind fun x1 =>
  if x1 = 0 then
    (gI 4 6 a0 σ).bind fun x3 =>
    if x3 = 0 then
      (gR 4 0 a0 σ).bind fun x5 =>
      (gI 4 16 a0 σ).bind fun x6 =>
      (f_X5_has x5 x6 σ).bind fun q7 =>
      if q7.1 = 0 then
        f_X3_isOver_28  q7.2
      else
        f_X3_isOver_32  q7.2
    else
      f_X3_isOver_32  σ
  else
    f_X3_isOver_28  σ
noncomputable def f_X3_isOver (a0 : Nat) (σ : St) : Option (Int32 × St) := if hT σ a0 = 4 then f_X3_isOver_0 a0 σ else none
noncomputable def f_X0_slotOf_117 (a0 : Nat) (a3 : Int32) (a4 : Int32) (σ : St) : Option (Int32 × St) :=
  (gR 1 1 a0 σ).bind fun x1 =>
  (xI x1 a3 a4 σ).bind fun σ2 =>
  (gR 1 2 a0 σ2).bind fun x3 =>
  (gR 1 0 a0 σ2).bind fun x4 =>
  (gI 4 19 x4 σ2).bind fun x5 =>
  (xI x3 a3 x5 σ2).bind fun σ6 =>
  some (a3, σ6)
noncomputable def f_X0_slotOf_42 (n : Nat) : Nat → Int32 → Int32 → Int32 → St → Option (Int32 × St) :=
  Nat.rec (motive := fun _ => Nat → Int32 → Int32 → Int32 → St → Option (Int32 × St)) (fun _ _ _ _ _ => none) (fun _ ih => fun a0 a2 a3 a4 σ =>
  if 300 ≤ a4 then
    f_X0_slotOf_117 a0 a3 a4  σ
  else
    (gR 1 0 a0 σ).bind fun x2 =>
    (f_X3_isOver x2 σ).bind fun q3 =>
    if q3.1 = 0 then
      (gR 1 3 a0 q3.2).bind fun x5 =>
      (aI 22 x5 a3 q3.2).bind fun x6 =>
      (f_X0_goOneCycle a0 q3.2).bind fun q7 =>
      (xI x5 a3 (x6 + q7.1) q7.2).bind fun σ8 =>
      (gR 1 0 a0 σ8).bind fun x9 =>
      (gR 1 0 a0 σ8).bind fun x10 =>
      (gI 4 6 x10 σ8).bind fun x11 =>
      (f_X3_freeBits x9 x11 σ8).bind fun q12 =>
      (f_J6_bitCount_0f7a4 q12.1 q12.2).bind fun q13 =>
      bnd (a2 - q13.1) fun x14 =>
      (gR 1 4 a0 q13.2).bind fun x15 =>
      (gR 1 4 a0 q13.2).bind fun x16 =>
      (aI 22 x16 a3 q13.2).bind fun x17 =>
      (xI x15 a3 (jmax x17 x14) q13.2).bind fun σ18 =>
      ih a0 a2 a3 (a4 + 1)  σ18
    else
      f_X0_slotOf_117 a0 a3 a4  q3.2) n
theorem e_X0_slotOf_42 (n : Nat) {a0 : Nat} {a2 : Int32} {a3 : Int32} {a4 : Int32} {σ : St} : f_X0_slotOf_42 (n + 1) a0 a2 a3 a4 σ = (
  if 300 ≤ a4 then
    f_X0_slotOf_117 a0 a3 a4  σ
  else
    (gR 1 0 a0 σ).bind fun x2 =>
    (f_X3_isOver x2 σ).bind fun q3 =>
    if q3.1 = 0 then
      (gR 1 3 a0 q3.2).bind fun x5 =>
      (aI 22 x5 a3 q3.2).bind fun x6 =>
      (f_X0_goOneCycle a0 q3.2).bind fun q7 =>
      (xI x5 a3 (x6 + q7.1) q7.2).bind fun σ8 =>
      (gR 1 0 a0 σ8).bind fun x9 =>
      (gR 1 0 a0 σ8).bind fun x10 =>
      (gI 4 6 x10 σ8).bind fun x11 =>
      (f_X3_freeBits x9 x11 σ8).bind fun q12 =>
      (f_J6_bitCount_0f7a4 q12.1 q12.2).bind fun q13 =>
      bnd (a2 - q13.1) fun x14 =>
      (gR 1 4 a0 q13.2).bind fun x15 =>
      (gR 1 4 a0 q13.2).bind fun x16 =>
      (aI 22 x16 a3 q13.2).bind fun x17 =>
      (xI x15 a3 (jmax x17 x14) q13.2).bind fun σ18 =>
      (f_X0_slotOf_42 n) a0 a2 a3 (a4 + 1)  σ18
    else
      f_X0_slotOf_117 a0 a3 a4  q3.2) := rfl
noncomputable def f_X0_slotOf_0 (a0 : Nat) (a1 : Nat) (a2 : Int32) (σ : St) : Option (Int32 × St) :=
  bnd (a2 - 9) fun x1 =>
  (gR 1 1 a0 σ).bind fun x2 =>
  (aI 22 x2 x1 σ).bind fun x3 =>
  if x3 = 0 then
    (gR 1 0 a0 σ).bind fun x5 =>
    (f_X3_begin x5 a1 a2 σ).bind fun σ6 =>
    (gR 1 3 a0 σ6).bind fun x7 =>
    (xI x7 x1 0 σ6).bind fun σ8 =>
    (gR 1 4 a0 σ8).bind fun x9 =>
    (xI x9 x1 0 σ8).bind fun σ10 =>
    f_X0_slotOf_42 FU a0 a2 x1 0  σ10
  else
    some (x1, σ)
noncomputable def f_X0_slotOf (a0 : Nat) (a1 : Nat) (a2 : Int32) (σ : St) : Option (Int32 × St) := if hT σ a0 = 1 then f_X0_slotOf_0 a0 a1 a2 σ else none
noncomputable def f_X10_refused_0 (a0 : Nat) (a1 : Int32) (σ : St) : Option (Int32 × St) :=
  (pI 11 1 a0 a1 σ).bind fun σ1 =>
  (pI 11 2 a0 (-1) σ1).bind fun σ2 =>
  some ((-1), σ2)
noncomputable def f_X10_refused (a0 : Nat) (a1 : Int32) (σ : St) : Option (Int32 × St) := if hT σ a0 = 11 then f_X10_refused_0 a0 a1 σ else none
noncomputable def f_X10_works_2 (n : Nat) : Nat → Int32 → St → Option (St) :=
  Nat.rec (motive := fun _ => Nat → Int32 → St → Option (St)) (fun _ _ _ => none) (fun _ ih => fun a0 a1 σ =>
  if 195 ≤ a1 then
    (gR 11 3 a0 σ).bind fun x2 =>
    (gI 10 0 x2 σ).bind fun x3 =>
    (pI 11 26 a0 x3 σ).bind fun σ4 =>
    some σ4
  else
    (gR 11 21 a0 σ).bind fun x5 =>
    (gR 11 20 a0 σ).bind fun x6 =>
    (aI 22 x6 a1 σ).bind fun x7 =>
    (xI x5 a1 x7 σ).bind fun σ8 =>
    ih a0 (a1 + 1)  σ8) n
theorem e_X10_works_2 (n : Nat) {a0 : Nat} {a1 : Int32} {σ : St} : f_X10_works_2 (n + 1) a0 a1 σ = (
  if 195 ≤ a1 then
    (gR 11 3 a0 σ).bind fun x2 =>
    (gI 10 0 x2 σ).bind fun x3 =>
    (pI 11 26 a0 x3 σ).bind fun σ4 =>
    some σ4
  else
    (gR 11 21 a0 σ).bind fun x5 =>
    (gR 11 20 a0 σ).bind fun x6 =>
    (aI 22 x6 a1 σ).bind fun x7 =>
    (xI x5 a1 x7 σ).bind fun σ8 =>
    (f_X10_works_2 n) a0 (a1 + 1)  σ8) := rfl
noncomputable def f_X10_works_0 (a0 : Nat) (σ : St) : Option (St) :=
  f_X10_works_2 FU a0 0  σ
noncomputable def f_X10_works (a0 : Nat) (σ : St) : Option (St) := if hT σ a0 = 11 then f_X10_works_0 a0 σ else none
noncomputable def f_X10_in_15 (s0 : Int32) (σ : St) : Option (Int32 × St) :=
  if s0 = 0 ∨ s0 = 1 then some (s0, σ) else none
noncomputable def f_X10_in_14  (σ : St) : Option (Int32 × St) :=
  f_X10_in_15 0 σ
noncomputable def f_X10_in_0 (a0 : Int32) (a1 : Int32) (a2 : Int32) (σ : St) : Option (Int32 × St) :=
  if a0 < a1 then
    f_X10_in_14  σ
  else
    if a2 < a0 then
      f_X10_in_14  σ
    else
      f_X10_in_15 1 σ
noncomputable def f_X10_in (a0 : Int32) (a1 : Int32) (a2 : Int32) (σ : St) : Option (Int32 × St) := f_X10_in_0 a0 a1 a2 σ
noncomputable def f_X9_isStep_17 (s0 : Int32) (σ : St) : Option (Int32 × St) :=
  if s0 = 0 ∨ s0 = 1 then some (s0, σ) else none
noncomputable def f_X9_isStep_16  (σ : St) : Option (Int32 × St) :=
  f_X9_isStep_17 0 σ
noncomputable def f_X9_isStep_0 (a0 : Nat) (a1 : Int32) (σ : St) : Option (Int32 × St) :=
  if a1 < 0 then
    f_X9_isStep_16  σ
  else
    (gI 10 4 a0 σ).bind fun x2 =>
    if x2 ≤ a1 then
      f_X9_isStep_16  σ
    else
      f_X9_isStep_17 1 σ
noncomputable def f_X9_isStep (a0 : Nat) (a1 : Int32) (σ : St) : Option (Int32 × St) := if hT σ a0 = 10 then f_X9_isStep_0 a0 a1 σ else none
noncomputable def f_X9_reads_28 (s0 : Int32) (σ : St) : Option (Int32 × St) :=
  some (s0, σ)
noncomputable def f_X9_reads_0 (a0 : Nat) (a1 : Int32) (σ : St) : Option (Int32 × St) :=
  (gR 10 8 a0 σ).bind fun x1 =>
  (aI 22 x1 a1 σ).bind fun x2 =>
  if x2 = 0 then
    f_X9_reads_28 0 σ
  else
    (gR 10 8 a0 σ).bind fun x4 =>
    (aI 22 x4 a1 σ).bind fun x5 =>
    if x5 = 4 then
      f_X9_reads_28 1 σ
    else
      f_X9_reads_28 2 σ
noncomputable def f_X9_reads (a0 : Nat) (a1 : Int32) (σ : St) : Option (Int32 × St) := if hT σ a0 = 10 then f_X9_reads_0 a0 a1 σ else none
noncomputable def f_X10_guessed_40 (s0 : Int32) (σ : St) : Option (Int32 × St) :=
  some (s0, σ)
noncomputable def f_X10_guessed_37 (a1 : Int32) (σ : St) : Option (Int32 × St) :=
  f_X10_guessed_40 (a1 + 1) σ
noncomputable def f_X10_guessed_0 (a0 : Nat) (a1 : Int32) (σ : St) : Option (Int32 × St) :=
  (gR 11 3 a0 σ).bind fun x1 =>
  (gR 10 8 x1 σ).bind fun x2 =>
  (aI 22 x2 a1 σ).bind fun x3 =>
  if x3 = 5 then
    (gR 11 3 a0 σ).bind fun x5 =>
    (gR 10 13 x5 σ).bind fun x6 =>
    (aI 23 x6 a1 σ).bind fun x7 =>
    if x7 = 0 then
      f_X10_guessed_37 a1  σ
    else
      (gR 11 3 a0 σ).bind fun x9 =>
      (gR 10 12 x9 σ).bind fun x10 =>
      (aI 22 x10 a1 σ).bind fun x11 =>
      f_X10_guessed_40 x11 σ
  else
    f_X10_guessed_37 a1  σ
noncomputable def f_X10_guessed (a0 : Nat) (a1 : Int32) (σ : St) : Option (Int32 × St) := if hT σ a0 = 11 then f_X10_guessed_0 a0 a1 σ else none
noncomputable def f_X9_unsureOf_2 (n : Nat) : Nat → Int32 → Int32 → St → Option (Int32 × St) :=
  Nat.rec (motive := fun _ => Nat → Int32 → Int32 → St → Option (Int32 × St)) (fun _ _ _ _ => none) (fun _ ih => fun a0 a1 a2 σ =>
  (gI 10 5 a0 σ).bind fun x1 =>
  if x1 ≤ a2 then
    some ((-1), σ)
  else
    (gR 10 14 a0 σ).bind fun x3 =>
    (aI 22 x3 a2 σ).bind fun x4 =>
    if x4 = a1 then
      some (a2, σ)
    else
      ih a0 a1 (a2 + 1)  σ) n
theorem e_X9_unsureOf_2 (n : Nat) {a0 : Nat} {a1 : Int32} {a2 : Int32} {σ : St} : f_X9_unsureOf_2 (n + 1) a0 a1 a2 σ = (
  (gI 10 5 a0 σ).bind fun x1 =>
  if x1 ≤ a2 then
    some ((-1), σ)
  else
    (gR 10 14 a0 σ).bind fun x3 =>
    (aI 22 x3 a2 σ).bind fun x4 =>
    if x4 = a1 then
      some (a2, σ)
    else
      (f_X9_unsureOf_2 n) a0 a1 (a2 + 1)  σ) := rfl
noncomputable def f_X9_unsureOf_0 (a0 : Nat) (a1 : Int32) (σ : St) : Option (Int32 × St) :=
  f_X9_unsureOf_2 FU a0 a1 0  σ
noncomputable def f_X9_unsureOf (a0 : Nat) (a1 : Int32) (σ : St) : Option (Int32 × St) := if hT σ a0 = 10 then f_X9_unsureOf_0 a0 a1 σ else none
noncomputable def f_X10_bit_14 (s0 : Int32) (σ : St) : Option (Int32 × St) :=
  if s0 = 0 ∨ s0 = 1 then some (s0, σ) else none
noncomputable def f_X10_bit_0 (a0 : Int32) (a1 : Int32) (σ : St) : Option (Int32 × St) :=
  if ((jshr a0 a1) &&& 1) = 1 then
    f_X10_bit_14 1 σ
  else
    f_X10_bit_14 0 σ
noncomputable def f_X10_bit (a0 : Int32) (a1 : Int32) (σ : St) : Option (Int32 × St) := f_X10_bit_0 a0 a1 σ
noncomputable def f_X10_setBy_43 (s0 : Int32) (σ : St) : Option (Int32 × St) :=
  some (s0, σ)
noncomputable def f_X10_setBy_34 (a0 : Nat) (a1 : Int32) (σ : St) : Option (Int32 × St) :=
  (gR 11 3 a0 σ).bind fun x1 =>
  (gR 10 12 x1 σ).bind fun x2 =>
  (aI 22 x2 a1 σ).bind fun x3 =>
  f_X10_setBy_43 x3 σ
noncomputable def f_X10_setBy_0 (a0 : Nat) (a1 : Int32) (a2 : Int32) (σ : St) : Option (Int32 × St) :=
  (gR 11 3 a0 σ).bind fun x1 =>
  (f_X9_unsureOf x1 a1 σ).bind fun q2 =>
  if q2.1 = (-1) then
    f_X10_setBy_34 a0 a1  q2.2
  else
    (f_X10_bit a2 q2.1 q2.2).bind fun q4 =>
    if q4.1 = 0 then
      f_X10_setBy_34 a0 a1  q4.2
    else
      (gR 11 3 a0 q4.2).bind fun x6 =>
      (gR 10 15 x6 q4.2).bind fun x7 =>
      (aI 22 x7 q2.1 q4.2).bind fun x8 =>
      f_X10_setBy_43 x8 q4.2
noncomputable def f_X10_setBy (a0 : Nat) (a1 : Int32) (a2 : Int32) (σ : St) : Option (Int32 × St) := if hT σ a0 = 11 then f_X10_setBy_0 a0 a1 a2 σ else none
noncomputable def f_X10_comes_37 (s0 : Int32) (σ : St) : Option (Int32 × St) :=
  some (jrem s0 10000, σ)
noncomputable def f_X10_comes_0 (a0 : Int32) (a1 : Int32) (a2 : Int32) (σ : St) : Option (Int32 × St) :=
  if a0 = 1 then
    f_X10_comes_37 (a1 + a2) σ
  else
    if a0 = 2 then
      f_X10_comes_37 ((a1 - a2) + 10000) σ
    else
      if a2 = 0 then
        f_X10_comes_37 0 σ
      else
        if a2 = 0 then none else
        f_X10_comes_37 (a1 / a2) σ
noncomputable def f_X10_comes (a0 : Int32) (a1 : Int32) (a2 : Int32) (σ : St) : Option (Int32 × St) := f_X10_comes_0 a0 a1 a2 σ
noncomputable def f_X10_plainly_340  (σ : St) : Option (St) :=
  some σ
noncomputable def f_X10_plainly_308 (k41 : Nat → Int32 → Int32 → St → Option (St)) (a0 : Nat) (a1 : Int32) (a2 : Int32) (σ : St) : Option (St) :=
  (gI 11 17 a0 σ).bind fun x1 =>
  (pI 11 17 a0 (x1 + 1) σ).bind fun σ2 =>
  k41 a0 a1 a2  σ2
noncomputable def f_X10_plainly_307 (k41 : Nat → Int32 → Int32 → St → Option (St)) (a0 : Nat) (a1 : Int32) (a2 : Int32) (s0 : Nat) (s1 : Int32) (s2 : Int32) (σ : St) : Option (St) :=
  (xI s0 s1 s2 σ).bind fun σ1 =>
  f_X10_plainly_308 k41 a0 a1 a2  σ1
noncomputable def f_X10_plainly_232 (k41 : Nat → Int32 → Int32 → St → Option (St)) (a0 : Nat) (a1 : Int32) (a2 : Int32) (s0 : Nat) (s1 : Int32) (s2 : Int32) (σ : St) : Option (St) :=
  (pI 11 19 s0 (s1 + s2) σ).bind fun σ1 =>
  f_X10_plainly_308 k41 a0 a1 a2  σ1
noncomputable def f_X10_plainly_194 (k41 : Nat → Int32 → Int32 → St → Option (St)) (a0 : Nat) (a1 : Int32) (a2 : Int32) (a3 : Int32) (a4 : Int32) (a5 : Int32) (s0 : Nat) (s1 : Int32) (σ : St) : Option (St) :=
  (pI 11 16 s0 s1 σ).bind fun σ1 =>
  (gR 11 3 a0 σ1).bind fun x2 =>
  (gR 10 8 x2 σ1).bind fun x3 =>
  (aI 22 x3 a3 σ1).bind fun x4 =>
  if x4 = 5 then
    (gI 11 19 a0 σ1).bind fun x23 =>
    (gI 11 16 a0 σ1).bind fun x24 =>
    (f_X10_guessed a0 a3 σ1).bind fun q25 =>
    if x24 = q25.1 then
      f_X10_plainly_232 k41 a0 a1 a2 a0 x23 0 q25.2
    else
      f_X10_plainly_232 k41 a0 a1 a2 a0 x23 1 q25.2
  else
    (gR 11 15 a0 σ1).bind fun x6 =>
    (gR 11 3 a0 σ1).bind fun x7 =>
    (gR 10 9 x7 σ1).bind fun x8 =>
    (aI 22 x8 a3 σ1).bind fun x9 =>
    (gR 11 3 a0 σ1).bind fun x10 =>
    (gR 10 8 x10 σ1).bind fun x11 =>
    (aI 22 x11 a3 σ1).bind fun x12 =>
    if x12 = 0 then
      (f_X10_setBy a0 a3 a1 σ1).bind fun q22 =>
      f_X10_plainly_307 k41 a0 a1 a2 x6 x9 q22.1 q22.2
    else
      (gR 11 3 a0 σ1).bind fun x14 =>
      (gR 10 8 x14 σ1).bind fun x15 =>
      (aI 22 x15 a3 σ1).bind fun x16 =>
      if x16 = 4 then
        f_X10_plainly_307 k41 a0 a1 a2 x6 x9 a4 σ1
      else
        (gR 11 3 a0 σ1).bind fun x18 =>
        (gR 10 8 x18 σ1).bind fun x19 =>
        (aI 22 x19 a3 σ1).bind fun x20 =>
        (f_X10_comes x20 a4 a5 σ1).bind fun q21 =>
        f_X10_plainly_307 k41 a0 a1 a2 x6 x9 q21.1 q21.2
noncomputable def f_X10_plainly_191 (k41 : Nat → Int32 → Int32 → St → Option (St)) (a0 : Nat) (a1 : Int32) (a2 : Int32) (a3 : Int32) (a4 : Int32) (a5 : Int32) (s0 : Nat) (σ : St) : Option (St) :=
  f_X10_plainly_194 k41 a0 a1 a2 a3 a4 a5 s0 (a3 + 1) σ
noncomputable def f_X10_plainly_158 (k41 : Nat → Int32 → Int32 → St → Option (St)) (a0 : Nat) (a1 : Int32) (a2 : Int32) (a3 : Int32) (a4 : Int32) (a5 : Int32) (σ : St) : Option (St) :=
  (gR 11 3 a0 σ).bind fun x1 =>
  (gR 10 8 x1 σ).bind fun x2 =>
  (aI 22 x2 a3 σ).bind fun x3 =>
  if x3 = 5 then
    if a4 = a5 then
      (gR 11 3 a0 σ).bind fun x6 =>
      (gR 10 12 x6 σ).bind fun x7 =>
      (aI 22 x7 a3 σ).bind fun x8 =>
      f_X10_plainly_194 k41 a0 a1 a2 a3 a4 a5 a0 x8 σ
    else
      f_X10_plainly_191 k41 a0 a1 a2 a3 a4 a5 a0 σ
  else
    f_X10_plainly_191 k41 a0 a1 a2 a3 a4 a5 a0 σ
noncomputable def f_X10_plainly_132 (k41 : Nat → Int32 → Int32 → St → Option (St)) (a0 : Nat) (a1 : Int32) (a2 : Int32) (a3 : Int32) (a4 : Int32) (s0 : Int32) (σ : St) : Option (St) :=
  (gR 11 3 a0 σ).bind fun x1 =>
  (gR 10 8 x1 σ).bind fun x2 =>
  (aI 22 x2 a3 σ).bind fun x3 =>
  if x3 = 3 then
    if s0 = 0 then
      (pI 11 18 a0 1 σ).bind fun σ6 =>
      some σ6
    else
      f_X10_plainly_158 k41 a0 a1 a2 a3 a4 s0  σ
  else
    f_X10_plainly_158 k41 a0 a1 a2 a3 a4 s0  σ
noncomputable def f_X10_plainly_100 (k41 : Nat → Int32 → Int32 → St → Option (St)) (a0 : Nat) (a1 : Int32) (a2 : Int32) (a3 : Int32) (s0 : Int32) (σ : St) : Option (St) :=
  (gR 11 3 a0 σ).bind fun x1 =>
  (f_X9_reads x1 a3 σ).bind fun q2 =>
  if q2.1 ≤ 1 then
    f_X10_plainly_132 k41 a0 a1 a2 a3 s0 0 q2.2
  else
    (gR 11 15 a0 q2.2).bind fun x4 =>
    (gR 11 3 a0 q2.2).bind fun x5 =>
    (gR 10 11 x5 q2.2).bind fun x6 =>
    (aI 22 x6 a3 q2.2).bind fun x7 =>
    (aI 22 x4 x7 q2.2).bind fun x8 =>
    f_X10_plainly_132 k41 a0 a1 a2 a3 s0 x8 q2.2
noncomputable def f_X10_plainly_41 (n : Nat) : Nat → Int32 → Int32 → St → Option (St) :=
  Nat.rec (motive := fun _ => Nat → Int32 → Int32 → St → Option (St)) (fun _ _ _ _ => none) (fun _ ih => fun a0 a1 a2 σ =>
  (gI 11 17 a0 σ).bind fun x1 =>
  if a2 ≤ x1 then
    (gR 11 3 a0 σ).bind fun x3 =>
    (gI 11 16 a0 σ).bind fun x4 =>
    (f_X9_isStep x3 x4 σ).bind fun q5 =>
    if q5.1 = 0 then
      (pI 11 18 a0 0 q5.2).bind fun σ7 =>
      f_X10_plainly_340  σ7
    else
      f_X10_plainly_340  q5.2
  else
    (gI 11 16 a0 σ).bind fun x8 =>
    (gR 11 3 a0 σ).bind fun x9 =>
    (f_X9_isStep x9 x8 σ).bind fun q10 =>
    if q10.1 = 0 then
      (pI 11 18 a0 0 q10.2).bind fun σ20 =>
      some σ20
    else
      (gR 11 3 a0 q10.2).bind fun x12 =>
      (f_X9_reads x12 x8 q10.2).bind fun q13 =>
      if q13.1 ≤ 0 then
        f_X10_plainly_100 ih a0 a1 a2 x8 0 q13.2
      else
        (gR 11 15 a0 q13.2).bind fun x15 =>
        (gR 11 3 a0 q13.2).bind fun x16 =>
        (gR 10 10 x16 q13.2).bind fun x17 =>
        (aI 22 x17 x8 q13.2).bind fun x18 =>
        (aI 22 x15 x18 q13.2).bind fun x19 =>
        f_X10_plainly_100 ih a0 a1 a2 x8 x19 q13.2) n
theorem e_X10_plainly_41 (n : Nat) {a0 : Nat} {a1 : Int32} {a2 : Int32} {σ : St} : f_X10_plainly_41 (n + 1) a0 a1 a2 σ = (
  (gI 11 17 a0 σ).bind fun x1 =>
  if a2 ≤ x1 then
    (gR 11 3 a0 σ).bind fun x3 =>
    (gI 11 16 a0 σ).bind fun x4 =>
    (f_X9_isStep x3 x4 σ).bind fun q5 =>
    if q5.1 = 0 then
      (pI 11 18 a0 0 q5.2).bind fun σ7 =>
      f_X10_plainly_340  σ7
    else
      f_X10_plainly_340  q5.2
  else
    (gI 11 16 a0 σ).bind fun x8 =>
    (gR 11 3 a0 σ).bind fun x9 =>
    (f_X9_isStep x9 x8 σ).bind fun q10 =>
    if q10.1 = 0 then
      (pI 11 18 a0 0 q10.2).bind fun σ20 =>
      some σ20
    else
      (gR 11 3 a0 q10.2).bind fun x12 =>
      (f_X9_reads x12 x8 q10.2).bind fun q13 =>
      if q13.1 ≤ 0 then
        f_X10_plainly_100 (f_X10_plainly_41 n) a0 a1 a2 x8 0 q13.2
      else
        (gR 11 15 a0 q13.2).bind fun x15 =>
        (gR 11 3 a0 q13.2).bind fun x16 =>
        (gR 10 10 x16 q13.2).bind fun x17 =>
        (aI 22 x17 x8 q13.2).bind fun x18 =>
        (aI 22 x15 x18 q13.2).bind fun x19 =>
        f_X10_plainly_100 (f_X10_plainly_41 n) a0 a1 a2 x8 x19 q13.2) := rfl
noncomputable def f_X10_plainly_2 (n : Nat) : Nat → Int32 → Int32 → Int32 → St → Option (St) :=
  Nat.rec (motive := fun _ => Nat → Int32 → Int32 → Int32 → St → Option (St)) (fun _ _ _ _ _ => none) (fun _ ih => fun a0 a1 a2 a3 σ =>
  if 8 ≤ a3 then
    (pI 11 16 a0 0 σ).bind fun σ2 =>
    (pI 11 17 a0 0 σ2).bind fun σ3 =>
    (pI 11 19 a0 0 σ3).bind fun σ4 =>
    (pI 11 18 a0 2 σ4).bind fun σ5 =>
    f_X10_plainly_41 FU a0 a1 a2  σ5
  else
    (gR 11 15 a0 σ).bind fun x6 =>
    (xI x6 a3 0 σ).bind fun σ7 =>
    ih a0 a1 a2 (a3 + 1)  σ7) n
theorem e_X10_plainly_2 (n : Nat) {a0 : Nat} {a1 : Int32} {a2 : Int32} {a3 : Int32} {σ : St} : f_X10_plainly_2 (n + 1) a0 a1 a2 a3 σ = (
  if 8 ≤ a3 then
    (pI 11 16 a0 0 σ).bind fun σ2 =>
    (pI 11 17 a0 0 σ2).bind fun σ3 =>
    (pI 11 19 a0 0 σ3).bind fun σ4 =>
    (pI 11 18 a0 2 σ4).bind fun σ5 =>
    f_X10_plainly_41 FU a0 a1 a2  σ5
  else
    (gR 11 15 a0 σ).bind fun x6 =>
    (xI x6 a3 0 σ).bind fun σ7 =>
    (f_X10_plainly_2 n) a0 a1 a2 (a3 + 1)  σ7) := rfl
noncomputable def f_X10_plainly_0 (a0 : Nat) (a1 : Int32) (a2 : Int32) (σ : St) : Option (St) :=
  f_X10_plainly_2 FU a0 a1 a2 0  σ
noncomputable def f_X10_plainly (a0 : Nat) (a1 : Int32) (a2 : Int32) (σ : St) : Option (St) := if hT σ a0 = 11 then f_X10_plainly_0 a0 a1 a2 σ else none
noncomputable def f_X10_plainlyDone_32 (s0 : Int32) (σ : St) : Option (Int32 × St) :=
  if s0 = 0 ∨ s0 = 1 then some (s0, σ) else none
noncomputable def f_X10_plainlyDone_0 (a0 : Nat) (a1 : Int32) (σ : St) : Option (Int32 × St) :=
  (f_X10_in a1 0 200 σ).bind fun q1 =>
  if q1.1 = 0 then
    some (0, q1.2)
  else
    (f_X10_plainly a0 0 a1 q1.2).bind fun σ3 =>
    (gI 11 17 a0 σ3).bind fun x4 =>
    if x4 = a1 then
      f_X10_plainlyDone_32 1 σ3
    else
      f_X10_plainlyDone_32 0 σ3
noncomputable def f_X10_plainlyDone (a0 : Nat) (a1 : Int32) (σ : St) : Option (Int32 × St) := if hT σ a0 = 11 then f_X10_plainlyDone_0 a0 a1 σ else none
noncomputable def f_X10_good_0 (a0 : Nat) (a1 : Int32) (σ : St) : Option (Int32 × St) :=
  (pI 11 1 a0 0 σ).bind fun σ1 =>
  (pI 11 2 a0 (-1) σ1).bind fun σ2 =>
  some (a1, σ2)
noncomputable def f_X10_good (a0 : Nat) (a1 : Int32) (σ : St) : Option (Int32 × St) := if hT σ a0 = 11 then f_X10_good_0 a0 a1 σ else none
noncomputable def f_X10_at_0 (a0 : Nat) (a1 : Int32) (σ : St) : Option (Int32 × St) :=
  some (39 + (13 * a1), σ)
noncomputable def f_X10_at (a0 : Nat) (a1 : Int32) (σ : St) : Option (Int32 × St) := if hT σ a0 = 11 then f_X10_at_0 a0 a1 σ else none
noncomputable def f_X10_has_22 (s0 : Int32) (σ : St) : Option (Int32 × St) :=
  if s0 = 0 ∨ s0 = 1 then some (s0, σ) else none
noncomputable def f_X10_has_0 (a0 : Nat) (a1 : Int32) (a2 : Int32) (σ : St) : Option (Int32 × St) :=
  (gR 11 21 a0 σ).bind fun x1 =>
  (f_X10_at a0 a1 σ).bind fun q2 =>
  (aI 22 x1 (q2.1 + 4) q2.2).bind fun x3 =>
  if (x3 &&& a2) = 0 then
    f_X10_has_22 0 q2.2
  else
    f_X10_has_22 1 q2.2
noncomputable def f_X10_has (a0 : Nat) (a1 : Int32) (a2 : Int32) (σ : St) : Option (Int32 × St) := if hT σ a0 = 11 then f_X10_has_0 a0 a1 a2 σ else none
noncomputable def f_X10_reads_37 (s0 : Int32) (σ : St) : Option (Int32 × St) :=
  if s0 = 0 ∨ s0 = 1 then some (s0, σ) else none
noncomputable def f_X10_reads_32  (σ : St) : Option (Int32 × St) :=
  f_X10_reads_37 1 σ
noncomputable def f_X10_reads_0 (a0 : Nat) (a1 : Int32) (a2 : Int32) (σ : St) : Option (Int32 × St) :=
  (gR 11 21 a0 σ).bind fun x1 =>
  (f_X10_at a0 a1 σ).bind fun q2 =>
  (aI 22 x1 (q2.1 + 2) q2.2).bind fun x3 =>
  if x3 = a2 then
    f_X10_reads_32  q2.2
  else
    (gR 11 21 a0 q2.2).bind fun x5 =>
    (f_X10_at a0 a1 q2.2).bind fun q6 =>
    (aI 22 x5 (q6.1 + 3) q6.2).bind fun x7 =>
    if x7 = a2 then
      f_X10_reads_32  q6.2
    else
      f_X10_reads_37 0 q6.2
noncomputable def f_X10_reads (a0 : Nat) (a1 : Int32) (a2 : Int32) (σ : St) : Option (Int32 × St) := if hT σ a0 = 11 then f_X10_reads_0 a0 a1 a2 σ else none
noncomputable def f_X10_registerOf_0 (a0 : Nat) (a1 : Int32) (σ : St) : Option (Int32 × St) :=
  (gR 11 3 a0 σ).bind fun x1 =>
  (gR 10 9 x1 σ).bind fun x2 =>
  (gR 11 21 a0 σ).bind fun x3 =>
  (f_X10_at a0 a1 σ).bind fun q4 =>
  (aI 22 x3 q4.1 q4.2).bind fun x5 =>
  (aI 22 x2 x5 q4.2).bind fun x6 =>
  some (x6, q4.2)
noncomputable def f_X10_registerOf (a0 : Nat) (a1 : Int32) (σ : St) : Option (Int32 × St) := if hT σ a0 = 11 then f_X10_registerOf_0 a0 a1 σ else none
noncomputable def f_X10_kindOf_0 (a0 : Nat) (a1 : Int32) (σ : St) : Option (Int32 × St) :=
  (gR 11 3 a0 σ).bind fun x1 =>
  (gR 10 8 x1 σ).bind fun x2 =>
  (gR 11 21 a0 σ).bind fun x3 =>
  (f_X10_at a0 a1 σ).bind fun q4 =>
  (aI 22 x3 q4.1 q4.2).bind fun x5 =>
  (aI 22 x2 x5 q4.2).bind fun x6 =>
  some (x6, q4.2)
noncomputable def f_X10_kindOf (a0 : Nat) (a1 : Int32) (σ : St) : Option (Int32 × St) := if hT σ a0 = 11 then f_X10_kindOf_0 a0 a1 σ else none
noncomputable def f_X10_isSure_43  (σ : St) : Option (Int32 × St) :=
  some (0, σ)
noncomputable def f_X10_isSure_45 (k2 : Nat → Int32 → Int32 → St → Option (Int32 × St)) (a0 : Nat) (a1 : Int32) (a2 : Int32) (σ : St) : Option (Int32 × St) :=
  k2 a0 a1 (a2 + 1)  σ
noncomputable def f_X10_isSure_34 (k2 : Nat → Int32 → Int32 → St → Option (Int32 × St)) (a0 : Nat) (a1 : Int32) (a2 : Int32) (σ : St) : Option (Int32 × St) :=
  (f_X10_has a0 a2 1 σ).bind fun q1 =>
  if q1.1 = 0 then
    f_X10_isSure_43  q1.2
  else
    f_X10_isSure_45 k2 a0 a1 a2  q1.2
noncomputable def f_X10_isSure_2 (n : Nat) : Nat → Int32 → Int32 → St → Option (Int32 × St) :=
  Nat.rec (motive := fun _ => Nat → Int32 → Int32 → St → Option (Int32 × St)) (fun _ _ _ _ => none) (fun _ ih => fun a0 a1 a2 σ =>
  if a1 < a2 then
    some (1, σ)
  else
    (f_X10_has a0 a2 2 σ).bind fun q2 =>
    if q2.1 = 0 then
      (f_X10_kindOf a0 a2 q2.2).bind fun q4 =>
      if q4.1 = 5 then
        f_X10_isSure_34 ih a0 a1 a2  q4.2
      else
        (f_X10_kindOf a0 a2 q4.2).bind fun q6 =>
        if q6.1 = 3 then
          f_X10_isSure_34 ih a0 a1 a2  q6.2
        else
          f_X10_isSure_45 ih a0 a1 a2  q6.2
    else
      f_X10_isSure_43  q2.2) n
theorem e_X10_isSure_2 (n : Nat) {a0 : Nat} {a1 : Int32} {a2 : Int32} {σ : St} : f_X10_isSure_2 (n + 1) a0 a1 a2 σ = (
  if a1 < a2 then
    some (1, σ)
  else
    (f_X10_has a0 a2 2 σ).bind fun q2 =>
    if q2.1 = 0 then
      (f_X10_kindOf a0 a2 q2.2).bind fun q4 =>
      if q4.1 = 5 then
        f_X10_isSure_34 (f_X10_isSure_2 n) a0 a1 a2  q4.2
      else
        (f_X10_kindOf a0 a2 q4.2).bind fun q6 =>
        if q6.1 = 3 then
          f_X10_isSure_34 (f_X10_isSure_2 n) a0 a1 a2  q6.2
        else
          f_X10_isSure_45 (f_X10_isSure_2 n) a0 a1 a2  q6.2
    else
      f_X10_isSure_43  q2.2) := rfl
noncomputable def f_X10_isSure_0 (a0 : Nat) (a1 : Int32) (σ : St) : Option (Int32 × St) :=
  f_X10_isSure_2 FU a0 a1 0  σ
noncomputable def f_X10_isSure (a0 : Nat) (a1 : Int32) (σ : St) : Option (Int32 × St) := if hT σ a0 = 11 then f_X10_isSure_0 a0 a1 σ else none
noncomputable def f_X10_isLetGo_87  (σ : St) : Option (Int32 × St) :=
  some (0, σ)
noncomputable def f_X10_isLetGo_112 (k32 : Nat → Int32 → Int32 → Int32 → St → Option (Int32 × St)) (a0 : Nat) (a1 : Int32) (a3 : Int32) (s0 : Int32) (s1 : Int32) (σ : St) : Option (Int32 × St) :=
  bnd (s0 ||| s1) fun x1 =>
  k32 a0 a1 x1 (a3 + 1)  σ
noncomputable def f_X10_isLetGo_111 (k32 : Nat → Int32 → Int32 → Int32 → St → Option (Int32 × St)) (a0 : Nat) (a1 : Int32) (a3 : Int32) (s0 : Int32) (σ : St) : Option (Int32 × St) :=
  f_X10_isLetGo_112 k32 a0 a1 a3 s0 0 σ
noncomputable def f_X10_isLetGo_89 (k32 : Nat → Int32 → Int32 → Int32 → St → Option (Int32 × St)) (a0 : Nat) (a1 : Int32) (a2 : Int32) (a3 : Int32) (σ : St) : Option (Int32 × St) :=
  (f_X10_registerOf a0 a3 σ).bind fun q1 =>
  if q1.1 = a1 then
    (f_X10_isSure a0 a3 q1.2).bind fun q3 =>
    if q3.1 = 0 then
      f_X10_isLetGo_111 k32 a0 a1 a3 a2 q3.2
    else
      f_X10_isLetGo_112 k32 a0 a1 a3 a2 1 q3.2
  else
    f_X10_isLetGo_111 k32 a0 a1 a3 a2 q1.2
noncomputable def f_X10_isLetGo_32 (n : Nat) : Nat → Int32 → Int32 → Int32 → St → Option (Int32 × St) :=
  Nat.rec (motive := fun _ => Nat → Int32 → Int32 → Int32 → St → Option (Int32 × St)) (fun _ _ _ _ _ => none) (fun _ ih => fun a0 a1 a2 a3 σ =>
  (gR 11 21 a0 σ).bind fun x1 =>
  (aI 22 x1 34 σ).bind fun x2 =>
  if x2 ≤ a3 then
    if a2 = 0 ∨ a2 = 1 then some (a2, σ) else none
  else
    (gR 11 21 a0 σ).bind fun x4 =>
    (f_X10_at a0 a3 σ).bind fun q5 =>
    (aI 22 x4 (q5.1 + 1) q5.2).bind fun x6 =>
    (gR 11 21 a0 q5.2).bind fun x7 =>
    (aI 22 x7 a1 q5.2).bind fun x8 =>
    if x6 = x8 then
      f_X10_isLetGo_87  q5.2
    else
      (f_X10_has a0 a3 1 q5.2).bind fun q10 =>
      if q10.1 = 0 then
        (gR 11 21 a0 q10.2).bind fun x12 =>
        (aI 22 x12 a1 q10.2).bind fun x13 =>
        (f_X10_reads a0 a3 x13 q10.2).bind fun q14 =>
        if q14.1 = 0 then
          f_X10_isLetGo_89 ih a0 a1 a2 a3  q14.2
        else
          f_X10_isLetGo_87  q14.2
      else
        f_X10_isLetGo_89 ih a0 a1 a2 a3  q10.2) n
theorem e_X10_isLetGo_32 (n : Nat) {a0 : Nat} {a1 : Int32} {a2 : Int32} {a3 : Int32} {σ : St} : f_X10_isLetGo_32 (n + 1) a0 a1 a2 a3 σ = (
  (gR 11 21 a0 σ).bind fun x1 =>
  (aI 22 x1 34 σ).bind fun x2 =>
  if x2 ≤ a3 then
    if a2 = 0 ∨ a2 = 1 then some (a2, σ) else none
  else
    (gR 11 21 a0 σ).bind fun x4 =>
    (f_X10_at a0 a3 σ).bind fun q5 =>
    (aI 22 x4 (q5.1 + 1) q5.2).bind fun x6 =>
    (gR 11 21 a0 q5.2).bind fun x7 =>
    (aI 22 x7 a1 q5.2).bind fun x8 =>
    if x6 = x8 then
      f_X10_isLetGo_87  q5.2
    else
      (f_X10_has a0 a3 1 q5.2).bind fun q10 =>
      if q10.1 = 0 then
        (gR 11 21 a0 q10.2).bind fun x12 =>
        (aI 22 x12 a1 q10.2).bind fun x13 =>
        (f_X10_reads a0 a3 x13 q10.2).bind fun q14 =>
        if q14.1 = 0 then
          f_X10_isLetGo_89 (f_X10_isLetGo_32 n) a0 a1 a2 a3  q14.2
        else
          f_X10_isLetGo_87  q14.2
      else
        f_X10_isLetGo_89 (f_X10_isLetGo_32 n) a0 a1 a2 a3  q10.2) := rfl
noncomputable def f_X10_isLetGo_0 (a0 : Nat) (a1 : Int32) (σ : St) : Option (Int32 × St) :=
  (gR 11 21 a0 σ).bind fun x1 =>
  (aI 22 x1 8 σ).bind fun x2 =>
  (f_X10_bit x2 a1 σ).bind fun q3 =>
  if q3.1 = 0 then
    (gR 11 3 a0 q3.2).bind fun x5 =>
    (gI 10 7 x5 q3.2).bind fun x6 =>
    if x6 = 0 then
      some (0, q3.2)
    else
      f_X10_isLetGo_32 FU a0 a1 0 0  q3.2
  else
    some (1, q3.2)
noncomputable def f_X10_isLetGo (a0 : Nat) (a1 : Int32) (σ : St) : Option (Int32 × St) := if hT σ a0 = 11 then f_X10_isLetGo_0 a0 a1 σ else none
noncomputable def f_X10_agrees_47 (a0 : Nat) (σ : St) : Option (Int32 × St) :=
  (f_X10_good a0 0 σ).bind fun q1 =>
  some (q1.1, q1.2)
noncomputable def f_X10_agrees_98 (k55 : Nat → Int32 → St → Option (Int32 × St)) (a0 : Nat) (a1 : Int32) (σ : St) : Option (Int32 × St) :=
  k55 a0 (a1 + 1)  σ
noncomputable def f_X10_agrees_55 (n : Nat) : Nat → Int32 → St → Option (Int32 × St) :=
  Nat.rec (motive := fun _ => Nat → Int32 → St → Option (Int32 × St)) (fun _ _ _ => none) (fun _ ih => fun a0 a1 σ =>
  if 8 ≤ a1 then
    (f_X10_good a0 1 σ).bind fun q2 =>
    some (q2.1, q2.2)
  else
    (f_X10_isLetGo a0 a1 σ).bind fun q3 =>
    if q3.1 = 0 then
      (gR 11 21 a0 q3.2).bind fun x5 =>
      (gR 11 21 a0 q3.2).bind fun x6 =>
      (aI 22 x6 a1 q3.2).bind fun x7 =>
      (aI 22 x5 (9 + x7) q3.2).bind fun x8 =>
      (gR 11 15 a0 q3.2).bind fun x9 =>
      (aI 22 x9 a1 q3.2).bind fun x10 =>
      if x8 = x10 then
        f_X10_agrees_98 ih a0 a1  q3.2
      else
        (f_X10_good a0 0 q3.2).bind fun q12 =>
        some (q12.1, q12.2)
    else
      f_X10_agrees_98 ih a0 a1  q3.2) n
theorem e_X10_agrees_55 (n : Nat) {a0 : Nat} {a1 : Int32} {σ : St} : f_X10_agrees_55 (n + 1) a0 a1 σ = (
  if 8 ≤ a1 then
    (f_X10_good a0 1 σ).bind fun q2 =>
    some (q2.1, q2.2)
  else
    (f_X10_isLetGo a0 a1 σ).bind fun q3 =>
    if q3.1 = 0 then
      (gR 11 21 a0 q3.2).bind fun x5 =>
      (gR 11 21 a0 q3.2).bind fun x6 =>
      (aI 22 x6 a1 q3.2).bind fun x7 =>
      (aI 22 x5 (9 + x7) q3.2).bind fun x8 =>
      (gR 11 15 a0 q3.2).bind fun x9 =>
      (aI 22 x9 a1 q3.2).bind fun x10 =>
      if x8 = x10 then
        f_X10_agrees_98 (f_X10_agrees_55 n) a0 a1  q3.2
      else
        (f_X10_good a0 0 q3.2).bind fun q12 =>
        some (q12.1, q12.2)
    else
      f_X10_agrees_98 (f_X10_agrees_55 n) a0 a1  q3.2) := rfl
noncomputable def f_X10_agrees_0 (a0 : Nat) (σ : St) : Option (Int32 × St) :=
  (pI 11 0 a0 0 σ).bind fun σ1 =>
  (gQ 11 3 a0 σ1).bind fun x2 =>
  oc x2 (
    (f_X10_refused a0 1 σ1).bind fun q4 =>
    some (q4.1, q4.2)) (fun _ =>
    (f_X10_works a0 σ1).bind fun σ5 =>
    (gR 11 21 a0 σ5).bind fun x6 =>
    (aI 22 x6 38 σ5).bind fun x7 =>
    if x7 = 1 then
      f_X10_agrees_47 a0  σ5
    else
      (gR 11 21 a0 σ5).bind fun x9 =>
      (aI 22 x9 37 σ5).bind fun x10 =>
      (f_X10_plainlyDone a0 x10 σ5).bind fun q11 =>
      if q11.1 = 0 then
        f_X10_agrees_47 a0  q11.2
      else
        f_X10_agrees_55 FU a0 0  q11.2)
noncomputable def f_X10_agrees (a0 : Nat) (σ : St) : Option (Int32 × St) := if hT σ a0 = 11 then f_X10_agrees_0 a0 σ else none
noncomputable def f_X10_asTold_25 (k2 : Nat → Int32 → Int32 → St → Option (St)) (a0 : Nat) (a1 : Int32) (a2 : Int32) (s0 : Nat) (s1 : Int32) (s2 : Int32) (σ : St) : Option (St) :=
  (xI s0 s1 s2 σ).bind fun σ1 =>
  k2 a0 a1 (a2 + 1)  σ1
noncomputable def f_X10_asTold_2 (n : Nat) : Nat → Int32 → Int32 → St → Option (St) :=
  Nat.rec (motive := fun _ => Nat → Int32 → Int32 → St → Option (St)) (fun _ _ _ _ => none) (fun _ ih => fun a0 a1 a2 σ =>
  if 195 ≤ a2 then
    (gR 11 21 a0 σ).bind fun x2 =>
    (xI x2 33 255 σ).bind fun σ3 =>
    (pI 11 26 a0 a1 σ3).bind fun σ4 =>
    some σ4
  else
    (gR 11 21 a0 σ).bind fun x5 =>
    if 8 ≤ a2 then
      f_X10_asTold_25 ih a0 a1 a2 x5 a2 0 σ
    else
      f_X10_asTold_25 ih a0 a1 a2 x5 a2 a2 σ) n
theorem e_X10_asTold_2 (n : Nat) {a0 : Nat} {a1 : Int32} {a2 : Int32} {σ : St} : f_X10_asTold_2 (n + 1) a0 a1 a2 σ = (
  if 195 ≤ a2 then
    (gR 11 21 a0 σ).bind fun x2 =>
    (xI x2 33 255 σ).bind fun σ3 =>
    (pI 11 26 a0 a1 σ3).bind fun σ4 =>
    some σ4
  else
    (gR 11 21 a0 σ).bind fun x5 =>
    if 8 ≤ a2 then
      f_X10_asTold_25 (f_X10_asTold_2 n) a0 a1 a2 x5 a2 0 σ
    else
      f_X10_asTold_25 (f_X10_asTold_2 n) a0 a1 a2 x5 a2 a2 σ) := rfl
noncomputable def f_X10_asTold_0 (a0 : Nat) (a1 : Int32) (σ : St) : Option (St) :=
  f_X10_asTold_2 FU a0 a1 0  σ
noncomputable def f_X10_asTold (a0 : Nat) (a1 : Int32) (σ : St) : Option (St) := if hT σ a0 = 11 then f_X10_asTold_0 a0 a1 σ else none
noncomputable def f_X10_wrongGot_10 (n : Nat) : Nat → Int32 → St → Option (Int32 × St) :=
  Nat.rec (motive := fun _ => Nat → Int32 → St → Option (Int32 × St)) (fun _ _ _ => none) (fun _ ih => fun a0 a2 σ =>
  (gR 11 3 a0 σ).bind fun x1 =>
  (gI 10 6 x1 σ).bind fun x2 =>
  if x2 ≤ a2 then
    some ((-2), σ)
  else
    (gR 11 15 a0 σ).bind fun x4 =>
    (gR 11 3 a0 σ).bind fun x5 =>
    (gR 10 16 x5 σ).bind fun x6 =>
    (aI 22 x6 a2 σ).bind fun x7 =>
    (aI 22 x4 x7 σ).bind fun x8 =>
    (gR 11 3 a0 σ).bind fun x9 =>
    (gR 10 17 x9 σ).bind fun x10 =>
    (aI 22 x10 a2 σ).bind fun x11 =>
    if x8 = x11 then
      ih a0 (a2 + 1)  σ
    else
      some (a2, σ)) n
theorem e_X10_wrongGot_10 (n : Nat) {a0 : Nat} {a2 : Int32} {σ : St} : f_X10_wrongGot_10 (n + 1) a0 a2 σ = (
  (gR 11 3 a0 σ).bind fun x1 =>
  (gI 10 6 x1 σ).bind fun x2 =>
  if x2 ≤ a2 then
    some ((-2), σ)
  else
    (gR 11 15 a0 σ).bind fun x4 =>
    (gR 11 3 a0 σ).bind fun x5 =>
    (gR 10 16 x5 σ).bind fun x6 =>
    (aI 22 x6 a2 σ).bind fun x7 =>
    (aI 22 x4 x7 σ).bind fun x8 =>
    (gR 11 3 a0 σ).bind fun x9 =>
    (gR 10 17 x9 σ).bind fun x10 =>
    (aI 22 x10 a2 σ).bind fun x11 =>
    if x8 = x11 then
      (f_X10_wrongGot_10 n) a0 (a2 + 1)  σ
    else
      some (a2, σ)) := rfl
noncomputable def f_X10_wrongGot_0 (a0 : Nat) (a1 : Int32) (σ : St) : Option (Int32 × St) :=
  (f_X10_plainly a0 a1 200 σ).bind fun σ1 =>
  f_X10_wrongGot_10 FU a0 0  σ1
noncomputable def f_X10_wrongGot (a0 : Nat) (a1 : Int32) (σ : St) : Option (Int32 × St) := if hT σ a0 = 11 then f_X10_wrongGot_0 a0 a1 σ else none
noncomputable def f_X10_fitting_178 (a2 : Int32) (σ : St) : Option (Int32 × St) :=
  some (a2, σ)
noncomputable def f_X10_fitting_160 (k49 : Nat → Int32 → Int32 → Int32 → St → Option (Int32 × St)) (a0 : Nat) (a1 : Int32) (a2 : Int32) (a3 : Int32) (σ : St) : Option (Int32 × St) :=
  k49 a0 a1 a2 (a3 + 1)  σ
noncomputable def f_X10_fitting_152 (k49 : Nat → Int32 → Int32 → Int32 → St → Option (Int32 × St)) (k118 : Nat → Int32 → Int32 → Int32 → Int32 → St → Option (Int32 × St)) (a0 : Nat) (a1 : Int32) (a2 : Int32) (a3 : Int32) (a4 : Int32) (s0 : Nat) (s1 : Int32) (s2 : Int32) (s3 : Int32) (σ : St) : Option (Int32 × St) :=
  (xI s0 s1 (s2 + s3) σ).bind fun σ1 =>
  k118 a0 a1 a2 a3 (a4 + 1)  σ1
noncomputable def f_X10_fitting_118 (k49 : Nat → Int32 → Int32 → Int32 → St → Option (Int32 × St)) (n : Nat) : Nat → Int32 → Int32 → Int32 → Int32 → St → Option (Int32 × St) :=
  Nat.rec (motive := fun _ => Nat → Int32 → Int32 → Int32 → Int32 → St → Option (Int32 × St)) (fun _ _ _ _ _ _ => none) (fun _ ih => fun a0 a1 a2 a3 a4 σ =>
  (gR 11 3 a0 σ).bind fun x1 =>
  (gI 10 5 x1 σ).bind fun x2 =>
  if x2 ≤ a4 then
    f_X10_fitting_160 k49 a0 a1 a2 a3  σ
  else
    (gR 11 34 a0 σ).bind fun x4 =>
    (aI 22 x4 a4 σ).bind fun x5 =>
    (f_X10_bit a3 a4 σ).bind fun q6 =>
    if q6.1 = 0 then
      f_X10_fitting_152 k49 ih a0 a1 a2 a3 a4 x4 a4 x5 0 q6.2
    else
      f_X10_fitting_152 k49 ih a0 a1 a2 a3 a4 x4 a4 x5 1 q6.2) n
theorem e_X10_fitting_118 {k49 : Nat → Int32 → Int32 → Int32 → St → Option (Int32 × St)} (n : Nat) {a0 : Nat} {a1 : Int32} {a2 : Int32} {a3 : Int32} {a4 : Int32} {σ : St} : f_X10_fitting_118 k49 (n + 1) a0 a1 a2 a3 a4 σ = (
  (gR 11 3 a0 σ).bind fun x1 =>
  (gI 10 5 x1 σ).bind fun x2 =>
  if x2 ≤ a4 then
    f_X10_fitting_160 k49 a0 a1 a2 a3  σ
  else
    (gR 11 34 a0 σ).bind fun x4 =>
    (aI 22 x4 a4 σ).bind fun x5 =>
    (f_X10_bit a3 a4 σ).bind fun q6 =>
    if q6.1 = 0 then
      f_X10_fitting_152 k49 (f_X10_fitting_118 k49 n) a0 a1 a2 a3 a4 x4 a4 x5 0 q6.2
    else
      f_X10_fitting_152 k49 (f_X10_fitting_118 k49 n) a0 a1 a2 a3 a4 x4 a4 x5 1 q6.2) := rfl
noncomputable def f_X10_fitting_85 (k49 : Nat → Int32 → Int32 → Int32 → St → Option (Int32 × St)) (a0 : Nat) (a1 : Int32) (a2 : Int32) (a3 : Int32) (σ : St) : Option (Int32 × St) :=
  (gI 11 31 a0 σ).bind fun x1 =>
  (pI 11 31 a0 (x1 + 1) σ).bind fun σ2 =>
  (gI 11 32 a0 σ2).bind fun x3 =>
  (pI 11 32 a0 (x3 ||| a3) σ2).bind fun σ4 =>
  (gI 11 33 a0 σ4).bind fun x5 =>
  (pI 11 33 a0 (x5 &&& a3) σ4).bind fun σ6 =>
  f_X10_fitting_118 k49 FU a0 a1 a2 a3 0  σ6
noncomputable def f_X10_fitting_49 (n : Nat) : Nat → Int32 → Int32 → Int32 → St → Option (Int32 × St) :=
  Nat.rec (motive := fun _ => Nat → Int32 → Int32 → Int32 → St → Option (Int32 × St)) (fun _ _ _ _ _ => none) (fun _ ih => fun a0 a1 a2 a3 σ =>
  (gR 11 3 a0 σ).bind fun x1 =>
  (gI 10 5 x1 σ).bind fun x2 =>
  if (jshl 1 x2) ≤ a3 then
    (gI 11 31 a0 σ).bind fun x4 =>
    if x4 = 0 then
      (pI 11 33 a0 0 σ).bind fun σ6 =>
      f_X10_fitting_178 a2  σ6
    else
      f_X10_fitting_178 a2  σ
  else
    (f_X10_wrongGot a0 a3 σ).bind fun q7 =>
    if q7.1 = (-2) then
      (gI 11 31 a0 q7.2).bind fun x9 =>
      if x9 = a1 then
        f_X10_fitting_85 ih a0 a1 a3 a3  q7.2
      else
        f_X10_fitting_85 ih a0 a1 a2 a3  q7.2
    else
      f_X10_fitting_160 ih a0 a1 a2 a3  q7.2) n
theorem e_X10_fitting_49 (n : Nat) {a0 : Nat} {a1 : Int32} {a2 : Int32} {a3 : Int32} {σ : St} : f_X10_fitting_49 (n + 1) a0 a1 a2 a3 σ = (
  (gR 11 3 a0 σ).bind fun x1 =>
  (gI 10 5 x1 σ).bind fun x2 =>
  if (jshl 1 x2) ≤ a3 then
    (gI 11 31 a0 σ).bind fun x4 =>
    if x4 = 0 then
      (pI 11 33 a0 0 σ).bind fun σ6 =>
      f_X10_fitting_178 a2  σ6
    else
      f_X10_fitting_178 a2  σ
  else
    (f_X10_wrongGot a0 a3 σ).bind fun q7 =>
    if q7.1 = (-2) then
      (gI 11 31 a0 q7.2).bind fun x9 =>
      if x9 = a1 then
        f_X10_fitting_85 (f_X10_fitting_49 n) a0 a1 a3 a3  q7.2
      else
        f_X10_fitting_85 (f_X10_fitting_49 n) a0 a1 a2 a3  q7.2
    else
      f_X10_fitting_160 (f_X10_fitting_49 n) a0 a1 a2 a3  q7.2) := rfl
noncomputable def f_X10_fitting_29 (n : Nat) : Nat → Int32 → Int32 → Int32 → St → Option (Int32 × St) :=
  Nat.rec (motive := fun _ => Nat → Int32 → Int32 → Int32 → St → Option (Int32 × St)) (fun _ _ _ _ _ => none) (fun _ ih => fun a0 a1 a2 a3 σ =>
  if 4 ≤ a3 then
    f_X10_fitting_49 FU a0 a1 a2 0  σ
  else
    (gR 11 34 a0 σ).bind fun x2 =>
    (xI x2 a3 0 σ).bind fun σ3 =>
    ih a0 a1 a2 (a3 + 1)  σ3) n
theorem e_X10_fitting_29 (n : Nat) {a0 : Nat} {a1 : Int32} {a2 : Int32} {a3 : Int32} {σ : St} : f_X10_fitting_29 (n + 1) a0 a1 a2 a3 σ = (
  if 4 ≤ a3 then
    f_X10_fitting_49 FU a0 a1 a2 0  σ
  else
    (gR 11 34 a0 σ).bind fun x2 =>
    (xI x2 a3 0 σ).bind fun σ3 =>
    (f_X10_fitting_29 n) a0 a1 a2 (a3 + 1)  σ3) := rfl
noncomputable def f_X10_fitting_0 (a0 : Nat) (a1 : Int32) (σ : St) : Option (Int32 × St) :=
  (pI 11 31 a0 0 σ).bind fun σ1 =>
  (pI 11 32 a0 0 σ1).bind fun σ2 =>
  (gR 11 3 a0 σ2).bind fun x3 =>
  (gI 10 5 x3 σ2).bind fun x4 =>
  (pI 11 33 a0 ((jshl 1 x4) - 1) σ2).bind fun σ5 =>
  f_X10_fitting_29 FU a0 a1 (-1) 0  σ5
noncomputable def f_X10_fitting (a0 : Nat) (a1 : Int32) (σ : St) : Option (Int32 × St) := if hT σ a0 = 11 then f_X10_fitting_0 a0 a1 σ else none
noncomputable def f_X10_asks_106 (a1 : Int32) (σ : St) : Option (Int32 × St) :=
  some (a1, σ)
noncomputable def f_X10_asks_100 (k17 : Nat → Int32 → Int32 → St → Option (Int32 × St)) (a0 : Nat) (a1 : Int32) (a2 : Int32) (σ : St) : Option (Int32 × St) :=
  k17 a0 a1 (a2 + 1)  σ
noncomputable def f_X10_asks_93 (k17 : Nat → Int32 → Int32 → St → Option (Int32 × St)) (a0 : Nat) (a2 : Int32) (a3 : Int32) (σ : St) : Option (Int32 × St) :=
  (pI 11 35 a0 a3 σ).bind fun σ1 =>
  f_X10_asks_100 k17 a0 a2 a2  σ1
noncomputable def f_X10_asks_75 (k17 : Nat → Int32 → Int32 → St → Option (Int32 × St)) (a0 : Nat) (a1 : Int32) (a2 : Int32) (s0 : Int32) (σ : St) : Option (Int32 × St) :=
  if a1 = (-2) then
    f_X10_asks_93 k17 a0 a2 s0  σ
  else
    (gI 11 35 a0 σ).bind fun x2 =>
    if s0 < x2 then
      f_X10_asks_93 k17 a0 a2 s0  σ
    else
      f_X10_asks_100 k17 a0 a1 a2  σ
noncomputable def f_X10_asks_17 (n : Nat) : Nat → Int32 → Int32 → St → Option (Int32 × St) :=
  Nat.rec (motive := fun _ => Nat → Int32 → Int32 → St → Option (Int32 × St)) (fun _ _ _ _ => none) (fun _ ih => fun a0 a1 a2 σ =>
  (gR 11 3 a0 σ).bind fun x1 =>
  (gI 10 5 x1 σ).bind fun x2 =>
  if x2 ≤ a2 then
    f_X10_asks_106 a1  σ
  else
    (gI 11 31 a0 σ).bind fun x4 =>
    if x4 ≤ 0 then
      f_X10_asks_106 a1  σ
    else
      (gR 11 34 a0 σ).bind fun x6 =>
      (aI 22 x6 a2 σ).bind fun x7 =>
      (gI 11 31 a0 σ).bind fun x8 =>
      (gR 11 34 a0 σ).bind fun x9 =>
      (aI 22 x9 a2 σ).bind fun x10 =>
      if x7 ≤ (x8 - x10) then
        (gI 11 31 a0 σ).bind fun x12 =>
        (gR 11 34 a0 σ).bind fun x13 =>
        (aI 22 x13 a2 σ).bind fun x14 =>
        f_X10_asks_75 ih a0 a1 a2 (x12 - x14) σ
      else
        (gR 11 34 a0 σ).bind fun x15 =>
        (aI 22 x15 a2 σ).bind fun x16 =>
        f_X10_asks_75 ih a0 a1 a2 x16 σ) n
theorem e_X10_asks_17 (n : Nat) {a0 : Nat} {a1 : Int32} {a2 : Int32} {σ : St} : f_X10_asks_17 (n + 1) a0 a1 a2 σ = (
  (gR 11 3 a0 σ).bind fun x1 =>
  (gI 10 5 x1 σ).bind fun x2 =>
  if x2 ≤ a2 then
    f_X10_asks_106 a1  σ
  else
    (gI 11 31 a0 σ).bind fun x4 =>
    if x4 ≤ 0 then
      f_X10_asks_106 a1  σ
    else
      (gR 11 34 a0 σ).bind fun x6 =>
      (aI 22 x6 a2 σ).bind fun x7 =>
      (gI 11 31 a0 σ).bind fun x8 =>
      (gR 11 34 a0 σ).bind fun x9 =>
      (aI 22 x9 a2 σ).bind fun x10 =>
      if x7 ≤ (x8 - x10) then
        (gI 11 31 a0 σ).bind fun x12 =>
        (gR 11 34 a0 σ).bind fun x13 =>
        (aI 22 x13 a2 σ).bind fun x14 =>
        f_X10_asks_75 (f_X10_asks_17 n) a0 a1 a2 (x12 - x14) σ
      else
        (gR 11 34 a0 σ).bind fun x15 =>
        (aI 22 x15 a2 σ).bind fun x16 =>
        f_X10_asks_75 (f_X10_asks_17 n) a0 a1 a2 x16 σ) := rfl
noncomputable def f_X10_asks_0 (a0 : Nat) (σ : St) : Option (Int32 × St) :=
  (f_X10_fitting a0 (-1) σ).bind fun q1 =>
  (pI 11 35 a0 (-2) q1.2).bind fun σ2 =>
  f_X10_asks_17 FU a0 (-2) 0  σ2
noncomputable def f_X10_asks (a0 : Nat) (σ : St) : Option (Int32 × St) := if hT σ a0 = 11 then f_X10_asks_0 a0 σ else none
noncomputable def f_X10_ask_28 (s0 : Int32) (σ : St) : Option (Int32 × St) :=
  some (s0, σ)
noncomputable def f_X10_ask_0 (a0 : Nat) (σ : St) : Option (Int32 × St) :=
  (pI 11 0 a0 0 σ).bind fun σ1 =>
  (gQ 11 3 a0 σ1).bind fun x2 =>
  oc x2 (
    (f_X10_refused a0 1 σ1).bind fun q4 =>
    f_X10_ask_28 q4.1 q4.2) (fun _ =>
    (f_X10_asks a0 σ1).bind fun q5 =>
    (f_X10_good a0 q5.1 q5.2).bind fun q6 =>
    f_X10_ask_28 q6.1 q6.2)
noncomputable def f_X10_ask (a0 : Nat) (σ : St) : Option (Int32 × St) := if hT σ a0 = 11 then f_X10_ask_0 a0 σ else none
noncomputable def f_X10_askLeaves_0 (a0 : Nat) (σ : St) : Option (Int32 × St) :=
  (pI 11 0 a0 0 σ).bind fun σ1 =>
  (gQ 11 3 a0 σ1).bind fun x2 =>
  oc x2 (
    (f_X10_refused a0 1 σ1).bind fun q4 =>
    some (q4.1, q4.2)) (fun _ =>
    (f_X10_asks a0 σ1).bind fun q5 =>
    (gI 11 35 a0 q5.2).bind fun x6 =>
    (f_X10_good a0 x6 q5.2).bind fun q7 =>
    some (q7.1, q7.2))
noncomputable def f_X10_askLeaves (a0 : Nat) (σ : St) : Option (Int32 × St) := if hT σ a0 = 11 then f_X10_askLeaves_0 a0 σ else none
noncomputable def f_X10_denied_0 (a0 : Nat) (a1 : Int32) (σ : St) : Option (Int32 × St) :=
  (f_X10_refused a0 a1 σ).bind fun q1 =>
  some (0, q1.2)
noncomputable def f_X10_denied (a0 : Nat) (a1 : Int32) (σ : St) : Option (Int32 × St) := if hT σ a0 = 11 then f_X10_denied_0 a0 a1 σ else none
noncomputable def f_X10_granted_0 (a0 : Nat) (σ : St) : Option (Int32 × St) :=
  (f_X10_good a0 0 σ).bind fun q1 =>
  some (1, q1.2)
noncomputable def f_X10_granted (a0 : Nat) (σ : St) : Option (Int32 × St) := if hT σ a0 = 11 then f_X10_granted_0 a0 σ else none
noncomputable def f_X10_back_24 (a0 : Nat) (σ : St) : Option (Int32 × St) :=
  (f_X10_denied a0 1 σ).bind fun q1 =>
  if q1.1 = 0 ∨ q1.1 = 1 then some (q1.1, q1.2) else none
noncomputable def f_X10_back_32 (n : Nat) : Nat → Int32 → Int32 → St → Option (Int32 × St) :=
  Nat.rec (motive := fun _ => Nat → Int32 → Int32 → St → Option (Int32 × St)) (fun _ _ _ _ => none) (fun _ ih => fun a0 a1 a2 σ =>
  if 195 ≤ a2 then
    (pI 11 24 a0 0 σ).bind fun σ2 =>
    (f_X10_granted a0 σ2).bind fun q3 =>
    if q3.1 = 0 ∨ q3.1 = 1 then some (q3.1, q3.2) else none
  else
    (gR 11 20 a0 σ).bind fun x4 =>
    (gR 11 23 a0 σ).bind fun x5 =>
    (aI 22 x5 ((195 * a1) + a2) σ).bind fun x6 =>
    (xI x4 a2 x6 σ).bind fun σ7 =>
    ih a0 a1 (a2 + 1)  σ7) n
theorem e_X10_back_32 (n : Nat) {a0 : Nat} {a1 : Int32} {a2 : Int32} {σ : St} : f_X10_back_32 (n + 1) a0 a1 a2 σ = (
  if 195 ≤ a2 then
    (pI 11 24 a0 0 σ).bind fun σ2 =>
    (f_X10_granted a0 σ2).bind fun q3 =>
    if q3.1 = 0 ∨ q3.1 = 1 then some (q3.1, q3.2) else none
  else
    (gR 11 20 a0 σ).bind fun x4 =>
    (gR 11 23 a0 σ).bind fun x5 =>
    (aI 22 x5 ((195 * a1) + a2) σ).bind fun x6 =>
    (xI x4 a2 x6 σ).bind fun σ7 =>
    (f_X10_back_32 n) a0 a1 (a2 + 1)  σ7) := rfl
noncomputable def f_X10_back_0 (a0 : Nat) (a1 : Int32) (σ : St) : Option (Int32 × St) :=
  (pI 11 0 a0 0 σ).bind fun σ1 =>
  (gQ 11 3 a0 σ1).bind fun x2 =>
  oc x2 (
    f_X10_back_24 a0  σ1) (fun _ =>
    if a1 < 0 then
      f_X10_back_24 a0  σ1
    else
      (gI 11 25 a0 σ1).bind fun x5 =>
      if a1 < x5 then
        f_X10_back_32 FU a0 a1 0  σ1
      else
        f_X10_back_24 a0  σ1)
noncomputable def f_X10_back (a0 : Nat) (a1 : Int32) (σ : St) : Option (Int32 × St) := if hT σ a0 = 11 then f_X10_back_0 a0 a1 σ else none
noncomputable def f_X10_bits_4 (n : Nat) : Int32 → Int32 → St → Option (Int32 × St) :=
  Nat.rec (motive := fun _ => Int32 → Int32 → St → Option (Int32 × St)) (fun _ _ _ => none) (fun _ ih => fun a1 a2 σ =>
  if a2 = 0 then
    some (a1, σ)
  else
    bnd (a2 &&& (a2 - 1)) fun x2 =>
    ih (a1 + 1) x2  σ) n
theorem e_X10_bits_4 (n : Nat) {a1 : Int32} {a2 : Int32} {σ : St} : f_X10_bits_4 (n + 1) a1 a2 σ = (
  if a2 = 0 then
    some (a1, σ)
  else
    bnd (a2 &&& (a2 - 1)) fun x2 =>
    (f_X10_bits_4 n) (a1 + 1) x2  σ) := rfl
noncomputable def f_X10_bits_0 (a0 : Int32) (σ : St) : Option (Int32 × St) :=
  f_X10_bits_4 FU 0 a0  σ
noncomputable def f_X10_bits (a0 : Int32) (σ : St) : Option (Int32 × St) := f_X10_bits_0 a0 σ
noncomputable def f_X10_byteAt_22 (s0 : Int32) (σ : St) : Option (Int32 × St) :=
  some (s0, σ)
noncomputable def f_X10_byteAt_0 (a0 : Nat) (a1 : Int32) (σ : St) : Option (Int32 × St) :=
  (gI 11 7 a0 σ).bind fun x1 =>
  if x1 ≤ a1 then
    f_X10_byteAt_22 (-1) σ
  else
    (gR 11 5 a0 σ).bind fun x3 =>
    (aI 21 x3 a1 σ).bind fun x4 =>
    f_X10_byteAt_22 (x4 &&& 255) σ
noncomputable def f_X10_byteAt (a0 : Nat) (a1 : Int32) (σ : St) : Option (Int32 × St) := if hT σ a0 = 11 then f_X10_byteAt_0 a0 a1 σ else none
noncomputable def f_X10_isCell_27 (s0 : Int32) (σ : St) : Option (Int32 × St) :=
  if s0 = 0 ∨ s0 = 1 then some (s0, σ) else none
noncomputable def f_X10_isCell_26  (σ : St) : Option (Int32 × St) :=
  f_X10_isCell_27 0 σ
noncomputable def f_X10_isCell_0 (a0 : Nat) (a1 : Int32) (σ : St) : Option (Int32 × St) :=
  (gQ 11 3 a0 σ).bind fun x1 =>
  oc x1 (
    f_X10_isCell_26  σ) (fun _ =>
    if a1 < 0 then
      f_X10_isCell_26  σ
    else
      (gR 11 3 a0 σ).bind fun x4 =>
      (gI 10 0 x4 σ).bind fun x5 =>
      if x5 ≤ a1 then
        f_X10_isCell_26  σ
      else
        f_X10_isCell_27 1 σ)
noncomputable def f_X10_isCell (a0 : Nat) (a1 : Int32) (σ : St) : Option (Int32 × St) := if hT σ a0 = 11 then f_X10_isCell_0 a0 a1 σ else none
noncomputable def f_X10_isReady_25 (s0 : Int32) (σ : St) : Option (Int32 × St) :=
  if s0 = 0 ∨ s0 = 1 then some (s0, σ) else none
noncomputable def f_X10_isReady_20  (σ : St) : Option (Int32 × St) :=
  f_X10_isReady_25 1 σ
noncomputable def f_X10_isReady_0 (a0 : Nat) (a1 : Int32) (σ : St) : Option (Int32 × St) :=
  if a1 = (-2) then
    f_X10_isReady_20  σ
  else
    (gR 11 21 a0 σ).bind fun x2 =>
    (aI 22 x2 33 σ).bind fun x3 =>
    (f_X10_bit x3 a1 σ).bind fun q4 =>
    if q4.1 = 0 then
      f_X10_isReady_25 0 q4.2
    else
      f_X10_isReady_20  q4.2
noncomputable def f_X10_isReady (a0 : Nat) (a1 : Int32) (σ : St) : Option (Int32 × St) := if hT σ a0 = 11 then f_X10_isReady_0 a0 a1 σ else none
noncomputable def f_X10_letGoNow_26 (k4 : Nat → Int32 → Int32 → St → Option (Int32 × St)) (a0 : Nat) (a2 : Int32) (s0 : Int32) (s1 : Int32) (σ : St) : Option (Int32 × St) :=
  bnd (s0 ||| s1) fun x1 =>
  k4 a0 x1 (a2 + 1)  σ
noncomputable def f_X10_letGoNow_4 (n : Nat) : Nat → Int32 → Int32 → St → Option (Int32 × St) :=
  Nat.rec (motive := fun _ => Nat → Int32 → Int32 → St → Option (Int32 × St)) (fun _ _ _ _ => none) (fun _ ih => fun a0 a1 a2 σ =>
  if 8 ≤ a2 then
    some (a1, σ)
  else
    (f_X10_isLetGo a0 a2 σ).bind fun q2 =>
    if q2.1 = 0 then
      f_X10_letGoNow_26 ih a0 a2 a1 0 q2.2
    else
      f_X10_letGoNow_26 ih a0 a2 a1 (jshl 1 a2) q2.2) n
theorem e_X10_letGoNow_4 (n : Nat) {a0 : Nat} {a1 : Int32} {a2 : Int32} {σ : St} : f_X10_letGoNow_4 (n + 1) a0 a1 a2 σ = (
  if 8 ≤ a2 then
    some (a1, σ)
  else
    (f_X10_isLetGo a0 a2 σ).bind fun q2 =>
    if q2.1 = 0 then
      f_X10_letGoNow_26 (f_X10_letGoNow_4 n) a0 a2 a1 0 q2.2
    else
      f_X10_letGoNow_26 (f_X10_letGoNow_4 n) a0 a2 a1 (jshl 1 a2) q2.2) := rfl
noncomputable def f_X10_letGoNow_0 (a0 : Nat) (σ : St) : Option (Int32 × St) :=
  f_X10_letGoNow_4 FU a0 0 0  σ
noncomputable def f_X10_letGoNow (a0 : Nat) (σ : St) : Option (Int32 × St) := if hT σ a0 = 11 then f_X10_letGoNow_0 a0 σ else none
noncomputable def f_X10_holders_84 (k51 : Nat → Int32 → Int32 → Int32 → Int32 → St → Option (Int32 × St)) (a0 : Nat) (a1 : Int32) (a2 : Int32) (a4 : Int32) (s0 : Int32) (s1 : Int32) (σ : St) : Option (Int32 × St) :=
  bnd (s0 + s1) fun x1 =>
  k51 a0 a1 a2 x1 (a4 + 1)  σ
noncomputable def f_X10_holders_83 (k51 : Nat → Int32 → Int32 → Int32 → Int32 → St → Option (Int32 × St)) (a0 : Nat) (a1 : Int32) (a2 : Int32) (a4 : Int32) (s0 : Int32) (σ : St) : Option (Int32 × St) :=
  f_X10_holders_84 k51 a0 a1 a2 a4 s0 0 σ
noncomputable def f_X10_holders_51 (n : Nat) : Nat → Int32 → Int32 → Int32 → Int32 → St → Option (Int32 × St) :=
  Nat.rec (motive := fun _ => Nat → Int32 → Int32 → Int32 → Int32 → St → Option (Int32 × St)) (fun _ _ _ _ _ _ => none) (fun _ ih => fun a0 a1 a2 a3 a4 σ =>
  if 8 ≤ a4 then
    some (a3, σ)
  else
    (gR 11 21 a0 σ).bind fun x2 =>
    (aI 22 x2 a4 σ).bind fun x3 =>
    if x3 = a1 then
      (f_X10_bit a2 a4 σ).bind fun q5 =>
      if q5.1 = 0 then
        f_X10_holders_84 ih a0 a1 a2 a4 a3 1 q5.2
      else
        f_X10_holders_83 ih a0 a1 a2 a4 a3 q5.2
    else
      f_X10_holders_83 ih a0 a1 a2 a4 a3 σ) n
theorem e_X10_holders_51 (n : Nat) {a0 : Nat} {a1 : Int32} {a2 : Int32} {a3 : Int32} {a4 : Int32} {σ : St} : f_X10_holders_51 (n + 1) a0 a1 a2 a3 a4 σ = (
  if 8 ≤ a4 then
    some (a3, σ)
  else
    (gR 11 21 a0 σ).bind fun x2 =>
    (aI 22 x2 a4 σ).bind fun x3 =>
    if x3 = a1 then
      (f_X10_bit a2 a4 σ).bind fun q5 =>
      if q5.1 = 0 then
        f_X10_holders_84 (f_X10_holders_51 n) a0 a1 a2 a4 a3 1 q5.2
      else
        f_X10_holders_83 (f_X10_holders_51 n) a0 a1 a2 a4 a3 q5.2
    else
      f_X10_holders_83 (f_X10_holders_51 n) a0 a1 a2 a4 a3 σ) := rfl
noncomputable def f_X10_holders_40 (k5 : Nat → Int32 → Int32 → Int32 → Int32 → St → Option (Int32 × St)) (a0 : Nat) (a1 : Int32) (a2 : Int32) (a4 : Int32) (s0 : Int32) (s1 : Int32) (σ : St) : Option (Int32 × St) :=
  bnd (s0 + s1) fun x1 =>
  k5 a0 a1 a2 x1 (a4 + 1)  σ
noncomputable def f_X10_holders_5 (n : Nat) : Nat → Int32 → Int32 → Int32 → Int32 → St → Option (Int32 × St) :=
  Nat.rec (motive := fun _ => Nat → Int32 → Int32 → Int32 → Int32 → St → Option (Int32 × St)) (fun _ _ _ _ _ _ => none) (fun _ ih => fun a0 a1 a2 a3 a4 σ =>
  (gR 11 21 a0 σ).bind fun x1 =>
  (aI 22 x1 34 σ).bind fun x2 =>
  if x2 ≤ a4 then
    f_X10_holders_51 FU a0 a1 a2 a3 0  σ
  else
    (gR 11 21 a0 σ).bind fun x4 =>
    (f_X10_at a0 a4 σ).bind fun q5 =>
    (aI 22 x4 (q5.1 + 1) q5.2).bind fun x6 =>
    if x6 = a1 then
      f_X10_holders_40 ih a0 a1 a2 a4 a3 1 q5.2
    else
      f_X10_holders_40 ih a0 a1 a2 a4 a3 0 q5.2) n
theorem e_X10_holders_5 (n : Nat) {a0 : Nat} {a1 : Int32} {a2 : Int32} {a3 : Int32} {a4 : Int32} {σ : St} : f_X10_holders_5 (n + 1) a0 a1 a2 a3 a4 σ = (
  (gR 11 21 a0 σ).bind fun x1 =>
  (aI 22 x1 34 σ).bind fun x2 =>
  if x2 ≤ a4 then
    f_X10_holders_51 FU a0 a1 a2 a3 0  σ
  else
    (gR 11 21 a0 σ).bind fun x4 =>
    (f_X10_at a0 a4 σ).bind fun q5 =>
    (aI 22 x4 (q5.1 + 1) q5.2).bind fun x6 =>
    if x6 = a1 then
      f_X10_holders_40 (f_X10_holders_5 n) a0 a1 a2 a4 a3 1 q5.2
    else
      f_X10_holders_40 (f_X10_holders_5 n) a0 a1 a2 a4 a3 0 q5.2) := rfl
noncomputable def f_X10_holders_0 (a0 : Nat) (a1 : Int32) (a2 : Int32) (σ : St) : Option (Int32 × St) :=
  f_X10_holders_5 FU a0 a1 a2 0 0  σ
noncomputable def f_X10_holders (a0 : Nat) (a1 : Int32) (a2 : Int32) (σ : St) : Option (Int32 × St) := if hT σ a0 = 11 then f_X10_holders_0 a0 a1 a2 σ else none
noncomputable def f_X10_waitingFor_39 (k4 : Nat → Int32 → Int32 → Int32 → St → Option (Int32 × St)) (a0 : Nat) (a1 : Int32) (a3 : Int32) (s0 : Int32) (s1 : Int32) (σ : St) : Option (Int32 × St) :=
  bnd (s0 + s1) fun x1 =>
  k4 a0 a1 x1 (a3 + 1)  σ
noncomputable def f_X10_waitingFor_38 (k4 : Nat → Int32 → Int32 → Int32 → St → Option (Int32 × St)) (a0 : Nat) (a1 : Int32) (a3 : Int32) (s0 : Int32) (σ : St) : Option (Int32 × St) :=
  f_X10_waitingFor_39 k4 a0 a1 a3 s0 0 σ
noncomputable def f_X10_waitingFor_4 (n : Nat) : Nat → Int32 → Int32 → Int32 → St → Option (Int32 × St) :=
  Nat.rec (motive := fun _ => Nat → Int32 → Int32 → Int32 → St → Option (Int32 × St)) (fun _ _ _ _ _ => none) (fun _ ih => fun a0 a1 a2 a3 σ =>
  (gR 11 21 a0 σ).bind fun x1 =>
  (aI 22 x1 34 σ).bind fun x2 =>
  if x2 ≤ a3 then
    some (a2, σ)
  else
    (f_X10_has a0 a3 1 σ).bind fun q4 =>
    if q4.1 = 0 then
      (f_X10_reads a0 a3 a1 q4.2).bind fun q6 =>
      if q6.1 = 0 then
        f_X10_waitingFor_38 ih a0 a1 a3 a2 q6.2
      else
        f_X10_waitingFor_39 ih a0 a1 a3 a2 1 q6.2
    else
      f_X10_waitingFor_38 ih a0 a1 a3 a2 q4.2) n
theorem e_X10_waitingFor_4 (n : Nat) {a0 : Nat} {a1 : Int32} {a2 : Int32} {a3 : Int32} {σ : St} : f_X10_waitingFor_4 (n + 1) a0 a1 a2 a3 σ = (
  (gR 11 21 a0 σ).bind fun x1 =>
  (aI 22 x1 34 σ).bind fun x2 =>
  if x2 ≤ a3 then
    some (a2, σ)
  else
    (f_X10_has a0 a3 1 σ).bind fun q4 =>
    if q4.1 = 0 then
      (f_X10_reads a0 a3 a1 q4.2).bind fun q6 =>
      if q6.1 = 0 then
        f_X10_waitingFor_38 (f_X10_waitingFor_4 n) a0 a1 a3 a2 q6.2
      else
        f_X10_waitingFor_39 (f_X10_waitingFor_4 n) a0 a1 a3 a2 1 q6.2
    else
      f_X10_waitingFor_38 (f_X10_waitingFor_4 n) a0 a1 a3 a2 q4.2) := rfl
noncomputable def f_X10_waitingFor_0 (a0 : Nat) (a1 : Int32) (σ : St) : Option (Int32 × St) :=
  f_X10_waitingFor_4 FU a0 a1 0 0  σ
noncomputable def f_X10_waitingFor (a0 : Nat) (a1 : Int32) (σ : St) : Option (Int32 × St) := if hT σ a0 = 11 then f_X10_waitingFor_0 a0 a1 σ else none
noncomputable def f_X10_cell_22 (a0 : Nat) (σ : St) : Option (Int32 × St) :=
  (f_X10_refused a0 1 σ).bind fun q1 =>
  some (q1.1, q1.2)
noncomputable def f_X10_cell_83 (s0 : Nat) (s1 : Int32) (σ : St) : Option (Int32 × St) :=
  (f_X10_good s0 s1 σ).bind fun q1 =>
  some (q1.1, q1.2)
noncomputable def f_X10_cell_0 (a0 : Nat) (a1 : Int32) (a2 : Int32) (σ : St) : Option (Int32 × St) :=
  (pI 11 0 a0 0 σ).bind fun σ1 =>
  (f_X10_isCell a0 a1 σ1).bind fun q2 =>
  if q2.1 = 0 then
    f_X10_cell_22 a0  q2.2
  else
    (f_X10_in a2 0 2 q2.2).bind fun q4 =>
    if q4.1 = 0 then
      f_X10_cell_22 a0  q4.2
    else
      (f_X10_works a0 q4.2).bind fun σ6 =>
      if a2 = 0 then
        (f_X10_isReady a0 a1 σ6).bind fun q9 =>
        if q9.1 = 0 then
          f_X10_cell_83 a0 (-2) q9.2
        else
          (gR 11 21 a0 q9.2).bind fun x11 =>
          (aI 22 x11 (9 + a1) q9.2).bind fun x12 =>
          f_X10_cell_83 a0 x12 q9.2
      else
        if a2 = 1 then
          (f_X10_letGoNow a0 σ6).bind fun q13 =>
          (f_X10_holders a0 a1 q13.1 q13.2).bind fun q14 =>
          (f_X10_good a0 q14.1 q14.2).bind fun q15 =>
          some (q15.1, q15.2)
        else
          (f_X10_waitingFor a0 a1 σ6).bind fun q16 =>
          (f_X10_good a0 q16.1 q16.2).bind fun q17 =>
          some (q17.1, q17.2)
noncomputable def f_X10_cell (a0 : Nat) (a1 : Int32) (a2 : Int32) (σ : St) : Option (Int32 × St) := if hT σ a0 = 11 then f_X10_cell_0 a0 a1 a2 σ else none
noncomputable def f_X10_whyNoCommit_56 (s0 : Int32) (σ : St) : Option (Int32 × St) :=
  some (s0, σ)
noncomputable def f_X10_whyNoCommit_55  (σ : St) : Option (Int32 × St) :=
  f_X10_whyNoCommit_56 0 σ
noncomputable def f_X10_whyNoCommit_0 (a0 : Nat) (σ : St) : Option (Int32 × St) :=
  (gR 11 21 a0 σ).bind fun x1 =>
  (aI 22 x1 34 σ).bind fun x2 =>
  if x2 = 0 then
    some (1, σ)
  else
    (f_X10_has a0 0 1 σ).bind fun q4 =>
    if q4.1 = 0 then
      some (2, q4.2)
    else
      (f_X10_has a0 0 4 q4.2).bind fun q6 =>
      if q6.1 = 0 then
        f_X10_whyNoCommit_55  q6.2
      else
        (gR 11 21 a0 q6.2).bind fun x8 =>
        (f_X10_at a0 0 q6.2).bind fun q9 =>
        (aI 22 x8 (q9.1 + 1) q9.2).bind fun x10 =>
        (f_X10_isReady a0 x10 q9.2).bind fun q11 =>
        if q11.1 = 0 then
          f_X10_whyNoCommit_56 3 q11.2
        else
          f_X10_whyNoCommit_55  q11.2
noncomputable def f_X10_whyNoCommit (a0 : Nat) (σ : St) : Option (Int32 × St) := if hT σ a0 = 11 then f_X10_whyNoCommit_0 a0 σ else none
noncomputable def f_X10_commitsOne_94 (n : Nat) : Nat → Int32 → Int32 → St → Option (Int32 × St) :=
  Nat.rec (motive := fun _ => Nat → Int32 → Int32 → St → Option (Int32 × St)) (fun _ _ _ _ => none) (fun _ ih => fun a0 a1 a3 σ =>
  if 182 ≤ a3 then
    (gR 11 21 a0 σ).bind fun x2 =>
    (aI 22 x2 34 σ).bind fun x3 =>
    (xI x2 34 (x3 - 1) σ).bind fun σ4 =>
    (gR 11 21 a0 σ4).bind fun x5 =>
    (aI 22 x5 37 σ4).bind fun x6 =>
    (xI x5 37 (x6 + 1) σ4).bind fun σ7 =>
    some (a1, σ7)
  else
    (gR 11 21 a0 σ).bind fun x8 =>
    (gR 11 21 a0 σ).bind fun x9 =>
    (aI 22 x9 (a3 + 13) σ).bind fun x10 =>
    (xI x8 a3 x10 σ).bind fun σ11 =>
    ih a0 a1 (a3 + 1)  σ11) n
theorem e_X10_commitsOne_94 (n : Nat) {a0 : Nat} {a1 : Int32} {a3 : Int32} {σ : St} : f_X10_commitsOne_94 (n + 1) a0 a1 a3 σ = (
  if 182 ≤ a3 then
    (gR 11 21 a0 σ).bind fun x2 =>
    (aI 22 x2 34 σ).bind fun x3 =>
    (xI x2 34 (x3 - 1) σ).bind fun σ4 =>
    (gR 11 21 a0 σ4).bind fun x5 =>
    (aI 22 x5 37 σ4).bind fun x6 =>
    (xI x5 37 (x6 + 1) σ4).bind fun σ7 =>
    some (a1, σ7)
  else
    (gR 11 21 a0 σ).bind fun x8 =>
    (gR 11 21 a0 σ).bind fun x9 =>
    (aI 22 x9 (a3 + 13) σ).bind fun x10 =>
    (xI x8 a3 x10 σ).bind fun σ11 =>
    (f_X10_commitsOne_94 n) a0 a1 (a3 + 1)  σ11) := rfl
noncomputable def f_X10_commitsOne_91 (a0 : Nat) (a1 : Int32) (σ : St) : Option (Int32 × St) :=
  f_X10_commitsOne_94 FU a0 a1 39  σ
noncomputable def f_X10_commitsOne_0 (a0 : Nat) (σ : St) : Option (Int32 × St) :=
  (gR 11 21 a0 σ).bind fun x1 =>
  (f_X10_at a0 0 σ).bind fun q2 =>
  (aI 22 x1 q2.1 q2.2).bind fun x3 =>
  (f_X10_has a0 0 2 q2.2).bind fun q4 =>
  if q4.1 = 0 then
    (f_X10_registerOf a0 0 q4.2).bind fun q6 =>
    if q6.1 = (-1) then
      f_X10_commitsOne_91 a0 x3  q6.2
    else
      (gR 11 21 a0 q6.2).bind fun x8 =>
      (gR 11 21 a0 q6.2).bind fun x9 =>
      (f_X10_at a0 0 q6.2).bind fun q10 =>
      (aI 22 x9 (q10.1 + 1) q10.2).bind fun x11 =>
      (xI x8 q6.1 x11 q10.2).bind fun σ12 =>
      (gR 11 21 a0 σ12).bind fun x13 =>
      (aI 22 x13 8 σ12).bind fun x14 =>
      (xI x13 8 (x14 &&& ((jshl 1 q6.1) ^^^ (-1))) σ12).bind fun σ15 =>
      f_X10_commitsOne_91 a0 x3  σ15
  else
    (gR 11 21 a0 q4.2).bind fun x16 =>
    (xI x16 34 0 q4.2).bind fun σ17 =>
    (gR 11 21 a0 σ17).bind fun x18 =>
    (xI x18 36 1 σ17).bind fun σ19 =>
    (gR 11 21 a0 σ19).bind fun x20 =>
    (xI x20 35 x3 σ19).bind fun σ21 =>
    some ((-2), σ21)
noncomputable def f_X10_commitsOne (a0 : Nat) (σ : St) : Option (Int32 × St) := if hT σ a0 = 11 then f_X10_commitsOne_0 a0 σ else none
noncomputable def f_X10_isRunnable_52 (s0 : Int32) (σ : St) : Option (Int32 × St) :=
  if s0 = 0 ∨ s0 = 1 then some (s0, σ) else none
noncomputable def f_X10_isRunnable_51  (σ : St) : Option (Int32 × St) :=
  f_X10_isRunnable_52 0 σ
noncomputable def f_X10_isRunnable_0 (a0 : Nat) (a1 : Int32) (σ : St) : Option (Int32 × St) :=
  (f_X10_has a0 a1 1 σ).bind fun q1 =>
  if q1.1 = 0 then
    (gR 11 21 a0 q1.2).bind fun x3 =>
    (f_X10_at a0 a1 q1.2).bind fun q4 =>
    (aI 22 x3 (q4.1 + 2) q4.2).bind fun x5 =>
    (f_X10_isReady a0 x5 q4.2).bind fun q6 =>
    if q6.1 = 0 then
      f_X10_isRunnable_51  q6.2
    else
      (gR 11 21 a0 q6.2).bind fun x8 =>
      (f_X10_at a0 a1 q6.2).bind fun q9 =>
      (aI 22 x8 (q9.1 + 3) q9.2).bind fun x10 =>
      (f_X10_isReady a0 x10 q9.2).bind fun q11 =>
      if q11.1 = 0 then
        f_X10_isRunnable_51  q11.2
      else
        f_X10_isRunnable_52 1 q11.2
  else
    f_X10_isRunnable_51  q1.2
noncomputable def f_X10_isRunnable (a0 : Nat) (a1 : Int32) (σ : St) : Option (Int32 × St) := if hT σ a0 = 11 then f_X10_isRunnable_0 a0 a1 σ else none
noncomputable def f_X10_runsOne_333 (a0 : Nat) (a5 : Int32) (s0 : Nat) (s1 : Int32) (s2 : Int32) (σ : St) : Option (Int32 × St) :=
  (xI s0 s1 s2 σ).bind fun σ1 =>
  (gR 11 21 a0 σ1).bind fun x2 =>
  (aI 22 x2 33 σ1).bind fun x3 =>
  (xI x2 33 (x3 ||| (jshl 1 a5)) σ1).bind fun σ4 =>
  some (0, σ4)
noncomputable def f_X10_runsOne_254 (a0 : Nat) (a1 : Int32) (a2 : Int32) (a3 : Int32) (a4 : Int32) (σ : St) : Option (Int32 × St) :=
  (gR 11 21 a0 σ).bind fun x1 =>
  (f_X10_at a0 a1 σ).bind fun q2 =>
  (aI 22 x1 (q2.1 + 1) q2.2).bind fun x3 =>
  (gR 11 21 a0 q2.2).bind fun x4 =>
  (gR 11 3 a0 q2.2).bind fun x5 =>
  (gR 10 8 x5 q2.2).bind fun x6 =>
  (aI 22 x6 a2 q2.2).bind fun x7 =>
  if x7 = 0 then
    (gR 11 3 a0 q2.2).bind fun x17 =>
    (gR 10 12 x17 q2.2).bind fun x18 =>
    (aI 22 x18 a2 q2.2).bind fun x19 =>
    f_X10_runsOne_333 a0 x3 x4 (9 + x3) x19 q2.2
  else
    (gR 11 3 a0 q2.2).bind fun x9 =>
    (gR 10 8 x9 q2.2).bind fun x10 =>
    (aI 22 x10 a2 q2.2).bind fun x11 =>
    if x11 = 4 then
      f_X10_runsOne_333 a0 x3 x4 (9 + x3) a3 q2.2
    else
      (gR 11 3 a0 q2.2).bind fun x13 =>
      (gR 10 8 x13 q2.2).bind fun x14 =>
      (aI 22 x14 a2 q2.2).bind fun x15 =>
      (f_X10_comes x15 a3 a4 q2.2).bind fun q16 =>
      f_X10_runsOne_333 a0 x3 x4 (9 + x3) q16.1 q16.2
noncomputable def f_X10_runsOne_164 (a0 : Nat) (a1 : Int32) (a2 : Int32) (s0 : Int32) (σ : St) : Option (Int32 × St) :=
  (f_X10_guessed a0 a2 σ).bind fun q1 =>
  if s0 = q1.1 then
    some (0, q1.2)
  else
    (pZ 11 27 a0 1 q1.2).bind fun σ3 =>
    (gR 11 21 a0 σ3).bind fun x4 =>
    (aI 22 x4 34 σ3).bind fun x5 =>
    bnd ((x5 - a1) - 1) fun x6 =>
    (gR 11 21 a0 σ3).bind fun x7 =>
    (xI x7 34 (a1 + 1) σ3).bind fun σ8 =>
    (gR 11 21 a0 σ8).bind fun x9 =>
    (xI x9 35 s0 σ8).bind fun σ10 =>
    some (x6, σ10)
noncomputable def f_X10_runsOne_94 (a0 : Nat) (a1 : Int32) (a2 : Int32) (a3 : Int32) (s0 : Int32) (σ : St) : Option (Int32 × St) :=
  (pZ 11 27 a0 0 σ).bind fun σ1 =>
  (gR 11 21 a0 σ1).bind fun x2 =>
  (f_X10_at a0 a1 σ1).bind fun q3 =>
  (gR 11 21 a0 q3.2).bind fun x4 =>
  (f_X10_at a0 a1 q3.2).bind fun q5 =>
  (aI 22 x4 (q5.1 + 4) q5.2).bind fun x6 =>
  (xI x2 (q3.1 + 4) ((x6 &&& (-9)) ||| 1) q5.2).bind fun σ7 =>
  (gR 11 3 a0 σ7).bind fun x8 =>
  (gR 10 8 x8 σ7).bind fun x9 =>
  (aI 22 x9 a2 σ7).bind fun x10 =>
  if x10 = 5 then
    if a3 = s0 then
      (gR 11 3 a0 σ7).bind fun x22 =>
      (gR 10 12 x22 σ7).bind fun x23 =>
      (aI 22 x23 a2 σ7).bind fun x24 =>
      f_X10_runsOne_164 a0 a1 a2 x24 σ7
    else
      f_X10_runsOne_164 a0 a1 a2 (a2 + 1) σ7
  else
    (gR 11 3 a0 σ7).bind fun x12 =>
    (gR 10 8 x12 σ7).bind fun x13 =>
    (aI 22 x13 a2 σ7).bind fun x14 =>
    if x14 = 3 then
      if s0 = 0 then
        (gR 11 21 a0 σ7).bind fun x17 =>
        (f_X10_at a0 a1 σ7).bind fun q18 =>
        (aI 22 x17 (q18.1 + 4) q18.2).bind fun x19 =>
        (xI x17 (q18.1 + 4) (x19 ||| 2) q18.2).bind fun σ20 =>
        some (0, σ20)
      else
        f_X10_runsOne_254 a0 a1 a2 a3 s0  σ7
    else
      f_X10_runsOne_254 a0 a1 a2 a3 s0  σ7
noncomputable def f_X10_runsOne_52 (a0 : Nat) (a1 : Int32) (a2 : Int32) (s0 : Int32) (σ : St) : Option (Int32 × St) :=
  (gR 11 21 a0 σ).bind fun x1 =>
  (f_X10_at a0 a1 σ).bind fun q2 =>
  (aI 22 x1 (q2.1 + 3) q2.2).bind fun x3 =>
  if x3 = (-2) then
    f_X10_runsOne_94 a0 a1 a2 s0 0 q2.2
  else
    (gR 11 21 a0 q2.2).bind fun x5 =>
    (gR 11 21 a0 q2.2).bind fun x6 =>
    (f_X10_at a0 a1 q2.2).bind fun q7 =>
    (aI 22 x6 (q7.1 + 3) q7.2).bind fun x8 =>
    (aI 22 x5 (9 + x8) q7.2).bind fun x9 =>
    f_X10_runsOne_94 a0 a1 a2 s0 x9 q7.2
noncomputable def f_X10_runsOne_0 (a0 : Nat) (a1 : Int32) (σ : St) : Option (Int32 × St) :=
  (gR 11 21 a0 σ).bind fun x1 =>
  (f_X10_at a0 a1 σ).bind fun q2 =>
  (aI 22 x1 q2.1 q2.2).bind fun x3 =>
  (gR 11 21 a0 q2.2).bind fun x4 =>
  (f_X10_at a0 a1 q2.2).bind fun q5 =>
  (aI 22 x4 (q5.1 + 2) q5.2).bind fun x6 =>
  if x6 = (-2) then
    f_X10_runsOne_52 a0 a1 x3 0 q5.2
  else
    (gR 11 21 a0 q5.2).bind fun x8 =>
    (gR 11 21 a0 q5.2).bind fun x9 =>
    (f_X10_at a0 a1 q5.2).bind fun q10 =>
    (aI 22 x9 (q10.1 + 2) q10.2).bind fun x11 =>
    (aI 22 x8 (9 + x11) q10.2).bind fun x12 =>
    f_X10_runsOne_52 a0 a1 x3 x12 q10.2
noncomputable def f_X10_runsOne (a0 : Nat) (a1 : Int32) (σ : St) : Option (Int32 × St) := if hT σ a0 = 11 then f_X10_runsOne_0 a0 a1 σ else none
noncomputable def f_X10_mapOf_2 (n : Nat) : Nat → Int32 → Int32 → St → Option (Int32 × St) :=
  Nat.rec (motive := fun _ => Nat → Int32 → Int32 → St → Option (Int32 × St)) (fun _ _ _ _ => none) (fun _ ih => fun a0 a1 a3 σ =>
  if a3 < 0 then
    (gR 11 21 a0 σ).bind fun x2 =>
    (aI 22 x2 a1 σ).bind fun x3 =>
    some (x3, σ)
  else
    (f_X10_registerOf a0 a3 σ).bind fun q4 =>
    if q4.1 = a1 then
      (gR 11 21 a0 q4.2).bind fun x6 =>
      (f_X10_at a0 a3 q4.2).bind fun q7 =>
      (aI 22 x6 (q7.1 + 1) q7.2).bind fun x8 =>
      some (x8, q7.2)
    else
      ih a0 a1 (a3 + (-1))  q4.2) n
theorem e_X10_mapOf_2 (n : Nat) {a0 : Nat} {a1 : Int32} {a3 : Int32} {σ : St} : f_X10_mapOf_2 (n + 1) a0 a1 a3 σ = (
  if a3 < 0 then
    (gR 11 21 a0 σ).bind fun x2 =>
    (aI 22 x2 a1 σ).bind fun x3 =>
    some (x3, σ)
  else
    (f_X10_registerOf a0 a3 σ).bind fun q4 =>
    if q4.1 = a1 then
      (gR 11 21 a0 q4.2).bind fun x6 =>
      (f_X10_at a0 a3 q4.2).bind fun q7 =>
      (aI 22 x6 (q7.1 + 1) q7.2).bind fun x8 =>
      some (x8, q7.2)
    else
      (f_X10_mapOf_2 n) a0 a1 (a3 + (-1))  q4.2) := rfl
noncomputable def f_X10_mapOf_0 (a0 : Nat) (a1 : Int32) (a2 : Int32) (σ : St) : Option (Int32 × St) :=
  f_X10_mapOf_2 FU a0 a1 a2  σ
noncomputable def f_X10_mapOf (a0 : Nat) (a1 : Int32) (a2 : Int32) (σ : St) : Option (Int32 × St) := if hT σ a0 = 11 then f_X10_mapOf_0 a0 a1 a2 σ else none
noncomputable def f_X10_isMerging_58 (s0 : Int32) (σ : St) : Option (Int32 × St) :=
  if s0 = 0 ∨ s0 = 1 then some (s0, σ) else none
noncomputable def f_X10_isMerging_57  (σ : St) : Option (Int32 × St) :=
  f_X10_isMerging_58 0 σ
noncomputable def f_X10_isMerging_0 (a0 : Nat) (a1 : Int32) (σ : St) : Option (Int32 × St) :=
  (gR 11 3 a0 σ).bind fun x1 =>
  (gR 10 8 x1 σ).bind fun x2 =>
  (aI 22 x2 a1 σ).bind fun x3 =>
  if x3 = 4 then
    (gR 11 3 a0 σ).bind fun x5 =>
    (gR 10 10 x5 σ).bind fun x6 =>
    (aI 22 x6 a1 σ).bind fun x7 =>
    (gR 11 21 a0 σ).bind fun x8 =>
    (aI 22 x8 34 σ).bind fun x9 =>
    (f_X10_mapOf a0 x7 (x9 - 1) σ).bind fun q10 =>
    (f_X10_letGoNow a0 q10.2).bind fun q11 =>
    (f_X10_holders a0 q10.1 q11.1 q11.2).bind fun q12 =>
    (gR 11 3 a0 q12.2).bind fun x13 =>
    (gI 10 3 x13 q12.2).bind fun x14 =>
    if x14 ≤ q12.1 then
      f_X10_isMerging_57  q12.2
    else
      f_X10_isMerging_58 1 q12.2
  else
    f_X10_isMerging_57  σ
noncomputable def f_X10_isMerging (a0 : Nat) (a1 : Int32) (σ : St) : Option (Int32 × St) := if hT σ a0 = 11 then f_X10_isMerging_0 a0 a1 σ else none
noncomputable def f_X10_freeNow_34 (k9 : Nat → Int32 → Int32 → Int32 → St → Option (Int32 × St)) (a0 : Nat) (a1 : Int32) (a3 : Int32) (s0 : Int32) (s1 : Int32) (σ : St) : Option (Int32 × St) :=
  bnd (s0 ||| s1) fun x1 =>
  k9 a0 a1 x1 (a3 + 1)  σ
noncomputable def f_X10_freeNow_9 (n : Nat) : Nat → Int32 → Int32 → Int32 → St → Option (Int32 × St) :=
  Nat.rec (motive := fun _ => Nat → Int32 → Int32 → Int32 → St → Option (Int32 × St)) (fun _ _ _ _ _ => none) (fun _ ih => fun a0 a1 a2 a3 σ =>
  (gI 11 26 a0 σ).bind fun x1 =>
  if x1 ≤ a3 then
    some (a2, σ)
  else
    (f_X10_holders a0 a3 a1 σ).bind fun q3 =>
    if q3.1 = 0 then
      f_X10_freeNow_34 ih a0 a1 a3 a2 (jshl 1 a3) q3.2
    else
      f_X10_freeNow_34 ih a0 a1 a3 a2 0 q3.2) n
theorem e_X10_freeNow_9 (n : Nat) {a0 : Nat} {a1 : Int32} {a2 : Int32} {a3 : Int32} {σ : St} : f_X10_freeNow_9 (n + 1) a0 a1 a2 a3 σ = (
  (gI 11 26 a0 σ).bind fun x1 =>
  if x1 ≤ a3 then
    some (a2, σ)
  else
    (f_X10_holders a0 a3 a1 σ).bind fun q3 =>
    if q3.1 = 0 then
      f_X10_freeNow_34 (f_X10_freeNow_9 n) a0 a1 a3 a2 (jshl 1 a3) q3.2
    else
      f_X10_freeNow_34 (f_X10_freeNow_9 n) a0 a1 a3 a2 0 q3.2) := rfl
noncomputable def f_X10_freeNow_0 (a0 : Nat) (σ : St) : Option (Int32 × St) :=
  (f_X10_letGoNow a0 σ).bind fun q1 =>
  f_X10_freeNow_9 FU a0 q1.1 0 0  q1.2
noncomputable def f_X10_freeNow (a0 : Nat) (σ : St) : Option (Int32 × St) := if hT σ a0 = 11 then f_X10_freeNow_0 a0 σ else none
noncomputable def f_X10_lowestFree_7 (n : Nat) : Nat → Int32 → Int32 → St → Option (Int32 × St) :=
  Nat.rec (motive := fun _ => Nat → Int32 → Int32 → St → Option (Int32 × St)) (fun _ _ _ _ => none) (fun _ ih => fun a0 a1 a2 σ =>
  (gI 11 26 a0 σ).bind fun x1 =>
  if x1 ≤ a2 then
    some ((-1), σ)
  else
    (f_X10_bit a1 a2 σ).bind fun q3 =>
    if q3.1 = 0 then
      ih a0 a1 (a2 + 1)  q3.2
    else
      some (a2, q3.2)) n
theorem e_X10_lowestFree_7 (n : Nat) {a0 : Nat} {a1 : Int32} {a2 : Int32} {σ : St} : f_X10_lowestFree_7 (n + 1) a0 a1 a2 σ = (
  (gI 11 26 a0 σ).bind fun x1 =>
  if x1 ≤ a2 then
    some ((-1), σ)
  else
    (f_X10_bit a1 a2 σ).bind fun q3 =>
    if q3.1 = 0 then
      (f_X10_lowestFree_7 n) a0 a1 (a2 + 1)  q3.2
    else
      some (a2, q3.2)) := rfl
noncomputable def f_X10_lowestFree_0 (a0 : Nat) (σ : St) : Option (Int32 × St) :=
  (f_X10_freeNow a0 σ).bind fun q1 =>
  f_X10_lowestFree_7 FU a0 q1.1 0  q1.2
noncomputable def f_X10_lowestFree (a0 : Nat) (σ : St) : Option (Int32 × St) := if hT σ a0 = 11 then f_X10_lowestFree_0 a0 σ else none
noncomputable def f_X10_whyNoFetch_87 (s0 : Int32) (σ : St) : Option (Int32 × St) :=
  some (s0, σ)
noncomputable def f_X10_whyNoFetch_86  (σ : St) : Option (Int32 × St) :=
  f_X10_whyNoFetch_87 0 σ
noncomputable def f_X10_whyNoFetch_0 (a0 : Nat) (σ : St) : Option (Int32 × St) :=
  (gR 11 21 a0 σ).bind fun x1 =>
  (aI 22 x1 36 σ).bind fun x2 =>
  if x2 = 1 then
    some (1, σ)
  else
    (gR 11 21 a0 σ).bind fun x4 =>
    (aI 22 x4 35 σ).bind fun x5 =>
    (gR 11 3 a0 σ).bind fun x6 =>
    (f_X9_isStep x6 x5 σ).bind fun q7 =>
    if q7.1 = 0 then
      some (2, q7.2)
    else
      (gR 11 21 a0 q7.2).bind fun x9 =>
      (aI 22 x9 34 q7.2).bind fun x10 =>
      (gR 11 3 a0 q7.2).bind fun x11 =>
      (gI 10 1 x11 q7.2).bind fun x12 =>
      if x10 = x12 then
        some (3, q7.2)
      else
        (gR 11 3 a0 q7.2).bind fun x14 =>
        (gR 10 8 x14 q7.2).bind fun x15 =>
        (aI 22 x15 x5 q7.2).bind fun x16 =>
        if x16 = 5 then
          f_X10_whyNoFetch_86  q7.2
        else
          (f_X10_isMerging a0 x5 q7.2).bind fun q18 =>
          if q18.1 = 0 then
            (f_X10_lowestFree a0 q18.2).bind fun q20 =>
            if q20.1 = (-1) then
              f_X10_whyNoFetch_87 4 q20.2
            else
              f_X10_whyNoFetch_86  q20.2
          else
            f_X10_whyNoFetch_86  q18.2
noncomputable def f_X10_whyNoFetch (a0 : Nat) (σ : St) : Option (Int32 × St) := if hT σ a0 = 11 then f_X10_whyNoFetch_0 a0 σ else none
noncomputable def f_X10_savesNow_31 (k4 : Nat → Int32 → Int32 → St → Option (Int32 × St)) (a0 : Nat) (a2 : Int32) (s0 : Int32) (s1 : Int32) (σ : St) : Option (Int32 × St) :=
  bnd (s0 + s1) fun x1 =>
  k4 a0 x1 (a2 + 1)  σ
noncomputable def f_X10_savesNow_4 (n : Nat) : Nat → Int32 → Int32 → St → Option (Int32 × St) :=
  Nat.rec (motive := fun _ => Nat → Int32 → Int32 → St → Option (Int32 × St)) (fun _ _ _ _ => none) (fun _ ih => fun a0 a1 a2 σ =>
  (gR 11 21 a0 σ).bind fun x1 =>
  (aI 22 x1 34 σ).bind fun x2 =>
  if x2 ≤ a2 then
    some (a1, σ)
  else
    (f_X10_has a0 a2 8 σ).bind fun q4 =>
    if q4.1 = 0 then
      f_X10_savesNow_31 ih a0 a2 a1 0 q4.2
    else
      f_X10_savesNow_31 ih a0 a2 a1 1 q4.2) n
theorem e_X10_savesNow_4 (n : Nat) {a0 : Nat} {a1 : Int32} {a2 : Int32} {σ : St} : f_X10_savesNow_4 (n + 1) a0 a1 a2 σ = (
  (gR 11 21 a0 σ).bind fun x1 =>
  (aI 22 x1 34 σ).bind fun x2 =>
  if x2 ≤ a2 then
    some (a1, σ)
  else
    (f_X10_has a0 a2 8 σ).bind fun q4 =>
    if q4.1 = 0 then
      f_X10_savesNow_31 (f_X10_savesNow_4 n) a0 a2 a1 0 q4.2
    else
      f_X10_savesNow_31 (f_X10_savesNow_4 n) a0 a2 a1 1 q4.2) := rfl
noncomputable def f_X10_savesNow_0 (a0 : Nat) (σ : St) : Option (Int32 × St) :=
  f_X10_savesNow_4 FU a0 0 0  σ
noncomputable def f_X10_savesNow (a0 : Nat) (σ : St) : Option (Int32 × St) := if hT σ a0 = 11 then f_X10_savesNow_0 a0 σ else none
noncomputable def f_X10_fetches_367 (a0 : Nat) (a1 : Int32) (s0 : Nat) (s1 : Int32) (s2 : Int32) (s3 : Int32) (σ : St) : Option (Int32 × St) :=
  (xI s0 s1 (s2 ||| s3) σ).bind fun σ1 =>
  (gR 11 21 a0 σ1).bind fun x2 =>
  (aI 22 x2 34 σ1).bind fun x3 =>
  (xI x2 34 (x3 + 1) σ1).bind fun σ4 =>
  (gR 11 21 a0 σ4).bind fun x5 =>
  (f_X10_guessed a0 a1 σ4).bind fun q6 =>
  (xI x5 35 q6.1 q6.2).bind fun σ7 =>
  some (a1, σ7)
noncomputable def f_X10_fetches_356 (a0 : Nat) (a1 : Int32) (a6 : Int32) (s0 : Nat) (s1 : Int32) (s2 : Int32) (σ : St) : Option (Int32 × St) :=
  if a6 = 0 then
    f_X10_fetches_367 a0 a1 s0 s1 s2 0 σ
  else
    f_X10_fetches_367 a0 a1 s0 s1 s2 8 σ
noncomputable def f_X10_fetches_276 (k237 : Nat → Int32 → Int32 → Int32 → Int32 → Int32 → Int32 → Int32 → Int32 → St → Option (Int32 × St)) (a0 : Nat) (a1 : Int32) (a2 : Int32) (a3 : Int32) (a4 : Int32) (a5 : Int32) (a6 : Int32) (a7 : Int32) (a8 : Int32) (s0 : Nat) (s1 : Int32) (s2 : Int32) (σ : St) : Option (Int32 × St) :=
  (xI s0 s1 s2 σ).bind fun σ1 =>
  k237 a0 a1 a2 a3 a4 a5 a6 a7 (a8 + 1)  σ1
noncomputable def f_X10_fetches_237 (n : Nat) : Nat → Int32 → Int32 → Int32 → Int32 → Int32 → Int32 → Int32 → Int32 → St → Option (Int32 × St) :=
  Nat.rec (motive := fun _ => Nat → Int32 → Int32 → Int32 → Int32 → Int32 → Int32 → Int32 → Int32 → St → Option (Int32 × St)) (fun _ _ _ _ _ _ _ _ _ _ => none) (fun _ ih => fun a0 a1 a2 a3 a4 a5 a6 a7 a8 σ =>
  if 8 ≤ a8 then
    (gR 11 21 a0 σ).bind fun x2 =>
    (f_X10_at a0 a2 σ).bind fun q3 =>
    (xI x2 q3.1 a1 q3.2).bind fun σ4 =>
    (gR 11 21 a0 σ4).bind fun x5 =>
    (f_X10_at a0 a2 σ4).bind fun q6 =>
    (xI x5 (q6.1 + 1) a7 q6.2).bind fun σ7 =>
    (gR 11 21 a0 σ7).bind fun x8 =>
    (f_X10_at a0 a2 σ7).bind fun q9 =>
    (xI x8 (q9.1 + 2) a3 q9.2).bind fun σ10 =>
    (gR 11 21 a0 σ10).bind fun x11 =>
    (f_X10_at a0 a2 σ10).bind fun q12 =>
    (xI x11 (q12.1 + 3) a4 q12.2).bind fun σ13 =>
    (gR 11 21 a0 σ13).bind fun x14 =>
    (f_X10_at a0 a2 σ13).bind fun q15 =>
    if a5 = 0 then
      f_X10_fetches_356 a0 a1 a6 x14 (q15.1 + 4) 0 q15.2
    else
      f_X10_fetches_356 a0 a1 a6 x14 (q15.1 + 4) 5 q15.2
  else
    (gR 11 21 a0 σ).bind fun x17 =>
    (f_X10_at a0 a2 σ).bind fun q18 =>
    if a6 = 0 then
      f_X10_fetches_276 ih a0 a1 a2 a3 a4 a5 a6 a7 a8 x17 ((q18.1 + 5) + a8) 0 q18.2
    else
      (f_X10_mapOf a0 a8 (a2 - 1) q18.2).bind fun q20 =>
      f_X10_fetches_276 ih a0 a1 a2 a3 a4 a5 a6 a7 a8 x17 ((q18.1 + 5) + a8) q20.1 q20.2) n
theorem e_X10_fetches_237 (n : Nat) {a0 : Nat} {a1 : Int32} {a2 : Int32} {a3 : Int32} {a4 : Int32} {a5 : Int32} {a6 : Int32} {a7 : Int32} {a8 : Int32} {σ : St} : f_X10_fetches_237 (n + 1) a0 a1 a2 a3 a4 a5 a6 a7 a8 σ = (
  if 8 ≤ a8 then
    (gR 11 21 a0 σ).bind fun x2 =>
    (f_X10_at a0 a2 σ).bind fun q3 =>
    (xI x2 q3.1 a1 q3.2).bind fun σ4 =>
    (gR 11 21 a0 σ4).bind fun x5 =>
    (f_X10_at a0 a2 σ4).bind fun q6 =>
    (xI x5 (q6.1 + 1) a7 q6.2).bind fun σ7 =>
    (gR 11 21 a0 σ7).bind fun x8 =>
    (f_X10_at a0 a2 σ7).bind fun q9 =>
    (xI x8 (q9.1 + 2) a3 q9.2).bind fun σ10 =>
    (gR 11 21 a0 σ10).bind fun x11 =>
    (f_X10_at a0 a2 σ10).bind fun q12 =>
    (xI x11 (q12.1 + 3) a4 q12.2).bind fun σ13 =>
    (gR 11 21 a0 σ13).bind fun x14 =>
    (f_X10_at a0 a2 σ13).bind fun q15 =>
    if a5 = 0 then
      f_X10_fetches_356 a0 a1 a6 x14 (q15.1 + 4) 0 q15.2
    else
      f_X10_fetches_356 a0 a1 a6 x14 (q15.1 + 4) 5 q15.2
  else
    (gR 11 21 a0 σ).bind fun x17 =>
    (f_X10_at a0 a2 σ).bind fun q18 =>
    if a6 = 0 then
      f_X10_fetches_276 (f_X10_fetches_237 n) a0 a1 a2 a3 a4 a5 a6 a7 a8 x17 ((q18.1 + 5) + a8) 0 q18.2
    else
      (f_X10_mapOf a0 a8 (a2 - 1) q18.2).bind fun q20 =>
      f_X10_fetches_276 (f_X10_fetches_237 n) a0 a1 a2 a3 a4 a5 a6 a7 a8 x17 ((q18.1 + 5) + a8) q20.1 q20.2) := rfl
noncomputable def f_X10_fetches_234 (a0 : Nat) (a1 : Int32) (a2 : Int32) (a3 : Int32) (a4 : Int32) (a5 : Int32) (a6 : Int32) (a7 : Int32) (σ : St) : Option (Int32 × St) :=
  f_X10_fetches_237 FU a0 a1 a2 a3 a4 a5 a6 a7 0  σ
noncomputable def f_X10_fetches_212 (k179 : Nat → Int32 → Int32 → Int32 → Int32 → Int32 → Int32 → Int32 → Int32 → St → Option (Int32 × St)) (a0 : Nat) (a1 : Int32) (a2 : Int32) (a3 : Int32) (a4 : Int32) (a5 : Int32) (a6 : Int32) (a7 : Int32) (a8 : Int32) (σ : St) : Option (Int32 × St) :=
  k179 a0 a1 a2 a3 a4 a5 a6 a7 (a8 + 1)  σ
noncomputable def f_X10_fetches_179 (n : Nat) : Nat → Int32 → Int32 → Int32 → Int32 → Int32 → Int32 → Int32 → Int32 → St → Option (Int32 × St) :=
  Nat.rec (motive := fun _ => Nat → Int32 → Int32 → Int32 → Int32 → Int32 → Int32 → Int32 → Int32 → St → Option (Int32 × St)) (fun _ _ _ _ _ _ _ _ _ _ => none) (fun _ ih => fun a0 a1 a2 a3 a4 a5 a6 a7 a8 σ =>
  if 8 ≤ a8 then
    (gR 11 21 a0 σ).bind fun x2 =>
    (aI 22 x2 33 σ).bind fun x3 =>
    (xI x2 33 (x3 &&& ((jshl 1 a7) ^^^ (-1))) σ).bind fun σ4 =>
    f_X10_fetches_234 a0 a1 a2 a3 a4 a5 a6 a7  σ4
  else
    (gR 11 21 a0 σ).bind fun x5 =>
    (aI 22 x5 a8 σ).bind fun x6 =>
    if x6 = a7 then
      (gR 11 21 a0 σ).bind fun x8 =>
      (aI 22 x8 8 σ).bind fun x9 =>
      (xI x8 8 (x9 ||| (jshl 1 a8)) σ).bind fun σ10 =>
      f_X10_fetches_212 ih a0 a1 a2 a3 a4 a5 a6 a7 a8  σ10
    else
      f_X10_fetches_212 ih a0 a1 a2 a3 a4 a5 a6 a7 a8  σ) n
theorem e_X10_fetches_179 (n : Nat) {a0 : Nat} {a1 : Int32} {a2 : Int32} {a3 : Int32} {a4 : Int32} {a5 : Int32} {a6 : Int32} {a7 : Int32} {a8 : Int32} {σ : St} : f_X10_fetches_179 (n + 1) a0 a1 a2 a3 a4 a5 a6 a7 a8 σ = (
  if 8 ≤ a8 then
    (gR 11 21 a0 σ).bind fun x2 =>
    (aI 22 x2 33 σ).bind fun x3 =>
    (xI x2 33 (x3 &&& ((jshl 1 a7) ^^^ (-1))) σ).bind fun σ4 =>
    f_X10_fetches_234 a0 a1 a2 a3 a4 a5 a6 a7  σ4
  else
    (gR 11 21 a0 σ).bind fun x5 =>
    (aI 22 x5 a8 σ).bind fun x6 =>
    if x6 = a7 then
      (gR 11 21 a0 σ).bind fun x8 =>
      (aI 22 x8 8 σ).bind fun x9 =>
      (xI x8 8 (x9 ||| (jshl 1 a8)) σ).bind fun σ10 =>
      f_X10_fetches_212 (f_X10_fetches_179 n) a0 a1 a2 a3 a4 a5 a6 a7 a8  σ10
    else
      f_X10_fetches_212 (f_X10_fetches_179 n) a0 a1 a2 a3 a4 a5 a6 a7 a8  σ) := rfl
noncomputable def f_X10_fetches_156 (a0 : Nat) (a1 : Int32) (a2 : Int32) (a3 : Int32) (a4 : Int32) (a5 : Int32) (a6 : Int32) (s0 : Int32) (σ : St) : Option (Int32 × St) :=
  (gR 11 3 a0 σ).bind fun x1 =>
  (gR 10 8 x1 σ).bind fun x2 =>
  (aI 22 x2 a1 σ).bind fun x3 =>
  if x3 = 5 then
    f_X10_fetches_234 a0 a1 a2 a3 a4 a5 a6 s0  σ
  else
    if a5 = 0 then
      f_X10_fetches_179 FU a0 a1 a2 a3 a4 a5 a6 s0 0  σ
    else
      f_X10_fetches_234 a0 a1 a2 a3 a4 a5 a6 s0  σ
noncomputable def f_X10_fetches_123 (a0 : Nat) (a1 : Int32) (a2 : Int32) (a3 : Int32) (a4 : Int32) (a5 : Int32) (s0 : Int32) (σ : St) : Option (Int32 × St) :=
  (gR 11 3 a0 σ).bind fun x1 =>
  (gR 10 8 x1 σ).bind fun x2 =>
  (aI 22 x2 a1 σ).bind fun x3 =>
  if x3 = 5 then
    f_X10_fetches_156 a0 a1 a2 a3 a4 a5 s0 (-2) σ
  else
    if a5 = 0 then
      (f_X10_lowestFree a0 σ).bind fun q6 =>
      f_X10_fetches_156 a0 a1 a2 a3 a4 a5 s0 q6.1 q6.2
    else
      f_X10_fetches_156 a0 a1 a2 a3 a4 a5 s0 a3 σ
noncomputable def f_X10_fetches_122 (a0 : Nat) (a1 : Int32) (a2 : Int32) (a3 : Int32) (a4 : Int32) (a5 : Int32) (σ : St) : Option (Int32 × St) :=
  f_X10_fetches_123 a0 a1 a2 a3 a4 a5 0 σ
noncomputable def f_X10_fetches_82 (a0 : Nat) (a1 : Int32) (a2 : Int32) (a3 : Int32) (s0 : Int32) (σ : St) : Option (Int32 × St) :=
  (f_X10_isMerging a0 a1 σ).bind fun q1 =>
  (gR 11 3 a0 q1.2).bind fun x2 =>
  (gR 10 8 x2 q1.2).bind fun x3 =>
  (aI 22 x3 a1 q1.2).bind fun x4 =>
  if x4 = 5 then
    (f_X10_savesNow a0 q1.2).bind fun q6 =>
    (gR 11 3 a0 q6.2).bind fun x7 =>
    (gI 10 2 x7 q6.2).bind fun x8 =>
    if x8 ≤ q6.1 then
      f_X10_fetches_122 a0 a1 a2 a3 s0 q1.1  q6.2
    else
      f_X10_fetches_123 a0 a1 a2 a3 s0 q1.1 1 q6.2
  else
    f_X10_fetches_122 a0 a1 a2 a3 s0 q1.1  q1.2
noncomputable def f_X10_fetches_48 (a0 : Nat) (a1 : Int32) (a2 : Int32) (s0 : Int32) (σ : St) : Option (Int32 × St) :=
  (gR 11 3 a0 σ).bind fun x1 =>
  (f_X9_reads x1 a1 σ).bind fun q2 =>
  if q2.1 ≤ 1 then
    f_X10_fetches_82 a0 a1 a2 s0 (-2) q2.2
  else
    (gR 11 3 a0 q2.2).bind fun x4 =>
    (gR 10 11 x4 q2.2).bind fun x5 =>
    (aI 22 x5 a1 q2.2).bind fun x6 =>
    (f_X10_mapOf a0 x6 (a2 - 1) q2.2).bind fun q7 =>
    f_X10_fetches_82 a0 a1 a2 s0 q7.1 q7.2
noncomputable def f_X10_fetches_0 (a0 : Nat) (σ : St) : Option (Int32 × St) :=
  (gR 11 21 a0 σ).bind fun x1 =>
  (aI 22 x1 35 σ).bind fun x2 =>
  (gR 11 21 a0 σ).bind fun x3 =>
  (aI 22 x3 34 σ).bind fun x4 =>
  (gR 11 3 a0 σ).bind fun x5 =>
  (f_X9_reads x5 x2 σ).bind fun q6 =>
  if q6.1 ≤ 0 then
    f_X10_fetches_48 a0 x2 x4 (-2) q6.2
  else
    (gR 11 3 a0 q6.2).bind fun x8 =>
    (gR 10 10 x8 q6.2).bind fun x9 =>
    (aI 22 x9 x2 q6.2).bind fun x10 =>
    (f_X10_mapOf a0 x10 (x4 - 1) q6.2).bind fun q11 =>
    f_X10_fetches_48 a0 x2 x4 q11.1 q11.2
noncomputable def f_X10_fetches (a0 : Nat) (σ : St) : Option (Int32 × St) := if hT σ a0 = 11 then f_X10_fetches_0 a0 σ else none
noncomputable def f_X10_cycle_150  (σ : St) : Option (St) :=
  some σ
noncomputable def f_X10_cycle_127 (n : Nat) : Nat → Int32 → St → Option (St) :=
  Nat.rec (motive := fun _ => Nat → Int32 → St → Option (St)) (fun _ _ _ => none) (fun _ ih => fun a0 a1 σ =>
  if 2 ≤ a1 then
    f_X10_cycle_150  σ
  else
    (f_X10_whyNoFetch a0 σ).bind fun q2 =>
    if q2.1 = 0 then
      (f_X10_fetches a0 q2.2).bind fun q4 =>
      ih a0 (a1 + 1)  q4.2
    else
      f_X10_cycle_150  q2.2) n
theorem e_X10_cycle_127 (n : Nat) {a0 : Nat} {a1 : Int32} {σ : St} : f_X10_cycle_127 (n + 1) a0 a1 σ = (
  if 2 ≤ a1 then
    f_X10_cycle_150  σ
  else
    (f_X10_whyNoFetch a0 σ).bind fun q2 =>
    if q2.1 = 0 then
      (f_X10_fetches a0 q2.2).bind fun q4 =>
      (f_X10_cycle_127 n) a0 (a1 + 1)  q4.2
    else
      f_X10_cycle_150  q2.2) := rfl
noncomputable def f_X10_cycle_125 (a0 : Nat) (σ : St) : Option (St) :=
  f_X10_cycle_127 FU a0 0  σ
noncomputable def f_X10_cycle_115 (k42 : Nat → Int32 → St → Option (St)) (a0 : Nat) (a1 : Int32) (s0 : Nat) (s1 : Int32) (s2 : Int32) (σ : St) : Option (St) :=
  (pI 11 29 s0 (s1 + s2) σ).bind fun σ1 =>
  k42 a0 (a1 + 1)  σ1
noncomputable def f_X10_cycle_98 (k42 : Nat → Int32 → St → Option (St)) (a0 : Nat) (a1 : Int32) (σ : St) : Option (St) :=
  (gI 11 29 a0 σ).bind fun x1 =>
  (gI 11 27 a0 σ).bind fun x2 =>
  if x2 = 0 then
    f_X10_cycle_115 k42 a0 a1 a0 x1 0 σ
  else
    f_X10_cycle_115 k42 a0 a1 a0 x1 1 σ
noncomputable def f_X10_cycle_81 (k42 : Nat → Int32 → St → Option (St)) (a0 : Nat) (a1 : Int32) (a2 : Int32) (σ : St) : Option (St) :=
  (gR 11 21 a0 σ).bind fun x1 =>
  (aI 22 x1 34 σ).bind fun x2 =>
  if x2 ≤ a2 then
    f_X10_cycle_98 k42 a0 a1  σ
  else
    (f_X10_runsOne a0 a2 σ).bind fun q4 =>
    f_X10_cycle_98 k42 a0 a1  q4.2
noncomputable def f_X10_cycle_56 (k42 : Nat → Int32 → St → Option (St)) (n : Nat) : Nat → Int32 → Int32 → St → Option (St) :=
  Nat.rec (motive := fun _ => Nat → Int32 → Int32 → St → Option (St)) (fun _ _ _ _ => none) (fun _ ih => fun a0 a1 a2 σ =>
  (gR 11 21 a0 σ).bind fun x1 =>
  (aI 22 x1 34 σ).bind fun x2 =>
  if x2 ≤ a2 then
    f_X10_cycle_81 k42 a0 a1 a2  σ
  else
    (f_X10_isRunnable a0 a2 σ).bind fun q4 =>
    if q4.1 = 0 then
      ih a0 a1 (a2 + 1)  q4.2
    else
      f_X10_cycle_81 k42 a0 a1 a2  q4.2) n
theorem e_X10_cycle_56 {k42 : Nat → Int32 → St → Option (St)} (n : Nat) {a0 : Nat} {a1 : Int32} {a2 : Int32} {σ : St} : f_X10_cycle_56 k42 (n + 1) a0 a1 a2 σ = (
  (gR 11 21 a0 σ).bind fun x1 =>
  (aI 22 x1 34 σ).bind fun x2 =>
  if x2 ≤ a2 then
    f_X10_cycle_81 k42 a0 a1 a2  σ
  else
    (f_X10_isRunnable a0 a2 σ).bind fun q4 =>
    if q4.1 = 0 then
      (f_X10_cycle_56 k42 n) a0 a1 (a2 + 1)  q4.2
    else
      f_X10_cycle_81 k42 a0 a1 a2  q4.2) := rfl
noncomputable def f_X10_cycle_42 (n : Nat) : Nat → Int32 → St → Option (St) :=
  Nat.rec (motive := fun _ => Nat → Int32 → St → Option (St)) (fun _ _ _ => none) (fun _ ih => fun a0 a1 σ =>
  if 2 ≤ a1 then
    f_X10_cycle_125 a0  σ
  else
    (gI 11 27 a0 σ).bind fun x2 =>
    if x2 = 0 then
      f_X10_cycle_56 ih FU a0 a1 0  σ
    else
      f_X10_cycle_125 a0  σ) n
theorem e_X10_cycle_42 (n : Nat) {a0 : Nat} {a1 : Int32} {σ : St} : f_X10_cycle_42 (n + 1) a0 a1 σ = (
  if 2 ≤ a1 then
    f_X10_cycle_125 a0  σ
  else
    (gI 11 27 a0 σ).bind fun x2 =>
    if x2 = 0 then
      f_X10_cycle_56 (f_X10_cycle_42 n) FU a0 a1 0  σ
    else
      f_X10_cycle_125 a0  σ) := rfl
noncomputable def f_X10_cycle_35 (a0 : Nat) (σ : St) : Option (St) :=
  (pZ 11 27 a0 0 σ).bind fun σ1 =>
  f_X10_cycle_42 FU a0 0  σ1
noncomputable def f_X10_cycle_2 (n : Nat) : Nat → Int32 → St → Option (St) :=
  Nat.rec (motive := fun _ => Nat → Int32 → St → Option (St)) (fun _ _ _ => none) (fun _ ih => fun a0 a1 σ =>
  if 2 ≤ a1 then
    f_X10_cycle_35 a0  σ
  else
    (f_X10_whyNoCommit a0 σ).bind fun q2 =>
    if q2.1 = 0 then
      (gR 11 21 a0 q2.2).bind fun x4 =>
      (aI 22 x4 36 q2.2).bind fun x5 =>
      if x5 = 0 then
        (f_X10_commitsOne a0 q2.2).bind fun q7 =>
        ih a0 (a1 + 1)  q7.2
      else
        f_X10_cycle_35 a0  q2.2
    else
      f_X10_cycle_35 a0  q2.2) n
theorem e_X10_cycle_2 (n : Nat) {a0 : Nat} {a1 : Int32} {σ : St} : f_X10_cycle_2 (n + 1) a0 a1 σ = (
  if 2 ≤ a1 then
    f_X10_cycle_35 a0  σ
  else
    (f_X10_whyNoCommit a0 σ).bind fun q2 =>
    if q2.1 = 0 then
      (gR 11 21 a0 q2.2).bind fun x4 =>
      (aI 22 x4 36 q2.2).bind fun x5 =>
      if x5 = 0 then
        (f_X10_commitsOne a0 q2.2).bind fun q7 =>
        (f_X10_cycle_2 n) a0 (a1 + 1)  q7.2
      else
        f_X10_cycle_35 a0  q2.2
    else
      f_X10_cycle_35 a0  q2.2) := rfl
noncomputable def f_X10_cycle_0 (a0 : Nat) (σ : St) : Option (St) :=
  f_X10_cycle_2 FU a0 0  σ
noncomputable def f_X10_cycle (a0 : Nat) (σ : St) : Option (St) := if hT σ a0 = 11 then f_X10_cycle_0 a0 σ else none
noncomputable def f_X10_goes_107  (σ : St) : Option (St) :=
  some σ
noncomputable def f_X10_goes_104 (k20 : Nat → Int32 → St → Option (St)) (a0 : Nat) (a1 : Int32) (σ : St) : Option (St) :=
  k20 a0 a1  σ
noncomputable def f_X10_goes_67 (k20 : Nat → Int32 → St → Option (St)) (a0 : Nat) (a1 : Int32) (σ : St) : Option (St) :=
  (f_X10_cycle a0 σ).bind fun σ1 =>
  (gI 11 28 a0 σ1).bind fun x2 =>
  (pI 11 28 a0 (x2 + 1) σ1).bind fun σ3 =>
  (f_X10_freeNow a0 σ3).bind fun q4 =>
  (f_X10_bits q4.1 q4.2).bind fun q5 =>
  bnd (a1 - q5.1) fun x6 =>
  (gI 11 30 a0 q5.2).bind fun x7 =>
  if x6 ≤ x7 then
    f_X10_goes_104 k20 a0 a1  q5.2
  else
    (pI 11 30 a0 x6 q5.2).bind fun σ9 =>
    f_X10_goes_104 k20 a0 a1  σ9
noncomputable def f_X10_goes_20 (n : Nat) : Nat → Int32 → St → Option (St) :=
  Nat.rec (motive := fun _ => Nat → Int32 → St → Option (St)) (fun _ _ _ => none) (fun _ ih => fun a0 a1 σ =>
  (gI 11 28 a0 σ).bind fun x1 =>
  if 300 ≤ x1 then
    f_X10_goes_107  σ
  else
    (gR 11 21 a0 σ).bind fun x3 =>
    (aI 22 x3 36 σ).bind fun x4 =>
    if x4 = 0 then
      (gR 11 21 a0 σ).bind fun x6 =>
      (aI 22 x6 34 σ).bind fun x7 =>
      if 0 < x7 then
        f_X10_goes_67 ih a0 a1  σ
      else
        (gR 11 3 a0 σ).bind fun x9 =>
        (gR 11 21 a0 σ).bind fun x10 =>
        (aI 22 x10 35 σ).bind fun x11 =>
        (f_X9_isStep x9 x11 σ).bind fun q12 =>
        if q12.1 = 0 then
          f_X10_goes_107  q12.2
        else
          f_X10_goes_67 ih a0 a1  q12.2
    else
      f_X10_goes_107  σ) n
theorem e_X10_goes_20 (n : Nat) {a0 : Nat} {a1 : Int32} {σ : St} : f_X10_goes_20 (n + 1) a0 a1 σ = (
  (gI 11 28 a0 σ).bind fun x1 =>
  if 300 ≤ x1 then
    f_X10_goes_107  σ
  else
    (gR 11 21 a0 σ).bind fun x3 =>
    (aI 22 x3 36 σ).bind fun x4 =>
    if x4 = 0 then
      (gR 11 21 a0 σ).bind fun x6 =>
      (aI 22 x6 34 σ).bind fun x7 =>
      if 0 < x7 then
        f_X10_goes_67 (f_X10_goes_20 n) a0 a1  σ
      else
        (gR 11 3 a0 σ).bind fun x9 =>
        (gR 11 21 a0 σ).bind fun x10 =>
        (aI 22 x10 35 σ).bind fun x11 =>
        (f_X9_isStep x9 x11 σ).bind fun q12 =>
        if q12.1 = 0 then
          f_X10_goes_107  q12.2
        else
          f_X10_goes_67 (f_X10_goes_20 n) a0 a1  q12.2
    else
      f_X10_goes_107  σ) := rfl
noncomputable def f_X10_goes_0 (a0 : Nat) (a1 : Int32) (σ : St) : Option (St) :=
  (f_X10_asTold a0 a1 σ).bind fun σ1 =>
  (pI 11 28 a0 0 σ1).bind fun σ2 =>
  (pI 11 29 a0 0 σ2).bind fun σ3 =>
  (pI 11 30 a0 0 σ3).bind fun σ4 =>
  f_X10_goes_20 FU a0 a1  σ4
noncomputable def f_X10_goes (a0 : Nat) (a1 : Int32) (σ : St) : Option (St) := if hT σ a0 = 11 then f_X10_goes_0 a0 a1 σ else none
noncomputable def f_X10_cellsFor_38 (n : Nat) : Nat → Int32 → Int32 → St → Option (Int32 × St) :=
  Nat.rec (motive := fun _ => Nat → Int32 → Int32 → St → Option (Int32 × St)) (fun _ _ _ _ => none) (fun _ ih => fun a0 a1 a2 σ =>
  if 24 < a2 then
    (f_X10_good a0 (-2) σ).bind fun q2 =>
    some (q2.1, q2.2)
  else
    (f_X10_goes a0 a2 σ).bind fun σ3 =>
    (gI 11 28 a0 σ3).bind fun x4 =>
    if a1 < x4 then
      ih a0 a1 (a2 + 1)  σ3
    else
      (f_X10_good a0 a2 σ3).bind fun q6 =>
      some (q6.1, q6.2)) n
theorem e_X10_cellsFor_38 (n : Nat) {a0 : Nat} {a1 : Int32} {a2 : Int32} {σ : St} : f_X10_cellsFor_38 (n + 1) a0 a1 a2 σ = (
  if 24 < a2 then
    (f_X10_good a0 (-2) σ).bind fun q2 =>
    some (q2.1, q2.2)
  else
    (f_X10_goes a0 a2 σ).bind fun σ3 =>
    (gI 11 28 a0 σ3).bind fun x4 =>
    if a1 < x4 then
      (f_X10_cellsFor_38 n) a0 a1 (a2 + 1)  σ3
    else
      (f_X10_good a0 a2 σ3).bind fun q6 =>
      some (q6.1, q6.2)) := rfl
noncomputable def f_X10_cellsFor_0 (a0 : Nat) (a1 : Int32) (σ : St) : Option (Int32 × St) :=
  (pI 11 0 a0 0 σ).bind fun σ1 =>
  (gQ 11 3 a0 σ1).bind fun x2 =>
  oc x2 (
    (f_X10_refused a0 1 σ1).bind fun q4 =>
    some (q4.1, q4.2)) (fun _ =>
    (f_X10_in a1 0 300 σ1).bind fun q5 =>
    if q5.1 = 0 then
      (f_X10_refused a0 2 q5.2).bind fun q7 =>
      some (q7.1, q7.2)
    else
      f_X10_cellsFor_38 FU a0 a1 9  q5.2)
noncomputable def f_X10_cellsFor (a0 : Nat) (a1 : Int32) (σ : St) : Option (Int32 × St) := if hT σ a0 = 11 then f_X10_cellsFor_0 a0 a1 σ else none
noncomputable def f_X10_remembers_52 (n : Nat) : Nat → Int32 → St → Option (St) :=
  Nat.rec (motive := fun _ => Nat → Int32 → St → Option (St)) (fun _ _ _ => none) (fun _ ih => fun a0 a1 σ =>
  if 195 ≤ a1 then
    (gI 11 24 a0 σ).bind fun x2 =>
    (pI 11 24 a0 (x2 + 1) σ).bind fun σ3 =>
    some σ3
  else
    (gR 11 22 a0 σ).bind fun x4 =>
    (gI 11 24 a0 σ).bind fun x5 =>
    (gR 11 20 a0 σ).bind fun x6 =>
    (aI 22 x6 a1 σ).bind fun x7 =>
    (xI x4 ((195 * x5) + a1) x7 σ).bind fun σ8 =>
    ih a0 (a1 + 1)  σ8) n
theorem e_X10_remembers_52 (n : Nat) {a0 : Nat} {a1 : Int32} {σ : St} : f_X10_remembers_52 (n + 1) a0 a1 σ = (
  if 195 ≤ a1 then
    (gI 11 24 a0 σ).bind fun x2 =>
    (pI 11 24 a0 (x2 + 1) σ).bind fun σ3 =>
    some σ3
  else
    (gR 11 22 a0 σ).bind fun x4 =>
    (gI 11 24 a0 σ).bind fun x5 =>
    (gR 11 20 a0 σ).bind fun x6 =>
    (aI 22 x6 a1 σ).bind fun x7 =>
    (xI x4 ((195 * x5) + a1) x7 σ).bind fun σ8 =>
    (f_X10_remembers_52 n) a0 (a1 + 1)  σ8) := rfl
noncomputable def f_X10_remembers_50 (a0 : Nat) (σ : St) : Option (St) :=
  f_X10_remembers_52 FU a0 0  σ
noncomputable def f_X10_remembers_11 (n : Nat) : Nat → Int32 → St → Option (St) :=
  Nat.rec (motive := fun _ => Nat → Int32 → St → Option (St)) (fun _ _ _ => none) (fun _ ih => fun a0 a1 σ =>
  if 2925 ≤ a1 then
    (gI 11 24 a0 σ).bind fun x2 =>
    (pI 11 24 a0 (x2 - 1) σ).bind fun σ3 =>
    f_X10_remembers_50 a0  σ3
  else
    (gR 11 22 a0 σ).bind fun x4 =>
    (gR 11 22 a0 σ).bind fun x5 =>
    (aI 22 x5 (a1 + 195) σ).bind fun x6 =>
    (xI x4 a1 x6 σ).bind fun σ7 =>
    ih a0 (a1 + 1)  σ7) n
theorem e_X10_remembers_11 (n : Nat) {a0 : Nat} {a1 : Int32} {σ : St} : f_X10_remembers_11 (n + 1) a0 a1 σ = (
  if 2925 ≤ a1 then
    (gI 11 24 a0 σ).bind fun x2 =>
    (pI 11 24 a0 (x2 - 1) σ).bind fun σ3 =>
    f_X10_remembers_50 a0  σ3
  else
    (gR 11 22 a0 σ).bind fun x4 =>
    (gR 11 22 a0 σ).bind fun x5 =>
    (aI 22 x5 (a1 + 195) σ).bind fun x6 =>
    (xI x4 a1 x6 σ).bind fun σ7 =>
    (f_X10_remembers_11 n) a0 (a1 + 1)  σ7) := rfl
noncomputable def f_X10_remembers_0 (a0 : Nat) (σ : St) : Option (St) :=
  (gI 11 24 a0 σ).bind fun x1 =>
  if x1 = 16 then
    f_X10_remembers_11 FU a0 0  σ
  else
    f_X10_remembers_50 a0  σ
noncomputable def f_X10_remembers (a0 : Nat) (σ : St) : Option (St) := if hT σ a0 = 11 then f_X10_remembers_0 a0 σ else none
noncomputable def f_X10_remains_2 (n : Nat) : Nat → Int32 → St → Option (St) :=
  Nat.rec (motive := fun _ => Nat → Int32 → St → Option (St)) (fun _ _ _ => none) (fun _ ih => fun a0 a1 σ =>
  if 195 ≤ a1 then
    some σ
  else
    (gR 11 20 a0 σ).bind fun x2 =>
    (gR 11 21 a0 σ).bind fun x3 =>
    (aI 22 x3 a1 σ).bind fun x4 =>
    (xI x2 a1 x4 σ).bind fun σ5 =>
    ih a0 (a1 + 1)  σ5) n
theorem e_X10_remains_2 (n : Nat) {a0 : Nat} {a1 : Int32} {σ : St} : f_X10_remains_2 (n + 1) a0 a1 σ = (
  if 195 ≤ a1 then
    some σ
  else
    (gR 11 20 a0 σ).bind fun x2 =>
    (gR 11 21 a0 σ).bind fun x3 =>
    (aI 22 x3 a1 σ).bind fun x4 =>
    (xI x2 a1 x4 σ).bind fun σ5 =>
    (f_X10_remains_2 n) a0 (a1 + 1)  σ5) := rfl
noncomputable def f_X10_remains_0 (a0 : Nat) (σ : St) : Option (St) :=
  f_X10_remains_2 FU a0 0  σ
noncomputable def f_X10_remains (a0 : Nat) (σ : St) : Option (St) := if hT σ a0 = 11 then f_X10_remains_0 a0 σ else none
noncomputable def f_X10_done_0 (a0 : Nat) (a1 : Int32) (σ : St) : Option (Int32 × St) :=
  (f_X10_remains a0 σ).bind fun σ1 =>
  (f_X10_good a0 a1 σ1).bind fun q2 =>
  some (q2.1, q2.2)
noncomputable def f_X10_done (a0 : Nat) (a1 : Int32) (σ : St) : Option (Int32 × St) := if hT σ a0 = 11 then f_X10_done_0 a0 a1 σ else none
noncomputable def f_X10_commit_43 (s0 : Nat) (s1 : Int32) (σ : St) : Option (Int32 × St) :=
  (f_X10_refused s0 s1 σ).bind fun q1 =>
  some (q1.1, q1.2)
noncomputable def f_X10_commit_0 (a0 : Nat) (σ : St) : Option (Int32 × St) :=
  (pI 11 0 a0 0 σ).bind fun σ1 =>
  (gQ 11 3 a0 σ1).bind fun x2 =>
  oc x2 (
    (f_X10_refused a0 1 σ1).bind fun q4 =>
    some (q4.1, q4.2)) (fun _ =>
    (f_X10_works a0 σ1).bind fun σ5 =>
    (f_X10_whyNoCommit a0 σ5).bind fun q6 =>
    if q6.1 ≤ 0 then
      (f_X10_remembers a0 q6.2).bind fun σ8 =>
      (f_X10_commitsOne a0 σ8).bind fun q9 =>
      (f_X10_done a0 q9.1 q9.2).bind fun q10 =>
      some (q10.1, q10.2)
    else
      if q6.1 = 1 then
        f_X10_commit_43 a0 6 q6.2
      else
        f_X10_commit_43 a0 5 q6.2)
noncomputable def f_X10_commit (a0 : Nat) (σ : St) : Option (Int32 × St) := if hT σ a0 = 11 then f_X10_commit_0 a0 σ else none
noncomputable def f_X10_commitable_0 (a0 : Nat) (σ : St) : Option (Int32 × St) :=
  (pI 11 0 a0 0 σ).bind fun σ1 =>
  (gQ 11 3 a0 σ1).bind fun x2 =>
  oc x2 (
    (f_X10_refused a0 1 σ1).bind fun q4 =>
    some (q4.1, q4.2)) (fun _ =>
    (f_X10_works a0 σ1).bind fun σ5 =>
    (f_X10_whyNoCommit a0 σ5).bind fun q6 =>
    (f_X10_good a0 q6.1 q6.2).bind fun q7 =>
    some (q7.1, q7.2))
noncomputable def f_X10_commitable (a0 : Nat) (σ : St) : Option (Int32 × St) := if hT σ a0 = 11 then f_X10_commitable_0 a0 σ else none
noncomputable def f_X10_refusesCells_27 (s0 : Int32) (σ : St) : Option (Int32 × St) :=
  some (s0, σ)
noncomputable def f_X10_refusesCells_0 (a0 : Nat) (a1 : Int32) (σ : St) : Option (Int32 × St) :=
  (gQ 11 3 a0 σ).bind fun x1 =>
  oc x1 (
    f_X10_refusesCells_27 1 σ) (fun _ =>
    (f_X10_in a1 9 24 σ).bind fun q3 =>
    if q3.1 = 0 then
      f_X10_refusesCells_27 2 q3.2
    else
      f_X10_refusesCells_27 0 q3.2)
noncomputable def f_X10_refusesCells (a0 : Nat) (a1 : Int32) (σ : St) : Option (Int32 × St) := if hT σ a0 = 11 then f_X10_refusesCells_0 a0 a1 σ else none
noncomputable def f_X10_commits_0 (a0 : Nat) (a1 : Int32) (σ : St) : Option (Int32 × St) :=
  (pI 11 0 a0 0 σ).bind fun σ1 =>
  (f_X10_refusesCells a0 a1 σ1).bind fun q2 =>
  if q2.1 ≤ 0 then
    (f_X10_goes a0 a1 q2.2).bind fun σ4 =>
    (gR 11 21 a0 σ4).bind fun x5 =>
    (aI 22 x5 37 σ4).bind fun x6 =>
    (f_X10_good a0 x6 σ4).bind fun q7 =>
    some (q7.1, q7.2)
  else
    (f_X10_refused a0 q2.1 q2.2).bind fun q8 =>
    some (q8.1, q8.2)
noncomputable def f_X10_commits (a0 : Nat) (a1 : Int32) (σ : St) : Option (Int32 × St) := if hT σ a0 = 11 then f_X10_commits_0 a0 a1 σ else none
noncomputable def f_X10_common_6 (n : Nat) : Int64 → Int64 → St → Option (Int64 × St) :=
  Nat.rec (motive := fun _ => Int64 → Int64 → St → Option (Int64 × St)) (fun _ _ _ => none) (fun _ ih => fun a4 a6 σ =>
  if (lg_cmp a6 0) = 0 then
    some (a4, σ)
  else
    if a6 = 0 then none else
    bnd (lrem a4 a6) fun x3 =>
    ih a6 x3  σ) n
theorem e_X10_common_6 (n : Nat) {a4 : Int64} {a6 : Int64} {σ : St} : f_X10_common_6 (n + 1) a4 a6 σ = (
  if (lg_cmp a6 0) = 0 then
    some (a4, σ)
  else
    if a6 = 0 then none else
    bnd (lrem a4 a6) fun x3 =>
    (f_X10_common_6 n) a6 x3  σ) := rfl
noncomputable def f_X10_common_0 (a0 : Int64) (a2 : Int64) (σ : St) : Option (Int64 × St) :=
  f_X10_common_6 FU a0 a2  σ
noncomputable def f_X10_common (a0 : Int64) (a2 : Int64) (σ : St) : Option (Int64 × St) := f_X10_common_0 a0 a2 σ
noncomputable def f_X9_init_0 (a0 : Nat) (σ : St) : Option (St) :=
  bnd (nw σ 22 24) fun σ1 =>
  (pP 10 8 a0 (hZ σ) σ1).bind fun σ2 =>
  bnd (nw σ2 22 24) fun σ3 =>
  (pP 10 9 a0 (hZ σ2) σ3).bind fun σ4 =>
  bnd (nw σ4 22 24) fun σ5 =>
  (pP 10 10 a0 (hZ σ4) σ5).bind fun σ6 =>
  bnd (nw σ6 22 24) fun σ7 =>
  (pP 10 11 a0 (hZ σ6) σ7).bind fun σ8 =>
  bnd (nw σ8 22 24) fun σ9 =>
  (pP 10 12 a0 (hZ σ8) σ9).bind fun σ10 =>
  bnd (nw σ10 23 24) fun σ11 =>
  (pP 10 13 a0 (hZ σ10) σ11).bind fun σ12 =>
  bnd (nw σ12 22 4) fun σ13 =>
  (pP 10 14 a0 (hZ σ12) σ13).bind fun σ14 =>
  bnd (nw σ14 22 4) fun σ15 =>
  (pP 10 15 a0 (hZ σ14) σ15).bind fun σ16 =>
  bnd (nw σ16 22 6) fun σ17 =>
  (pP 10 16 a0 (hZ σ16) σ17).bind fun σ18 =>
  bnd (nw σ18 22 6) fun σ19 =>
  (pP 10 17 a0 (hZ σ18) σ19).bind fun σ20 =>
  some σ20
noncomputable def f_X9_init (a0 : Nat) (σ : St) : Option (St) := if hT σ a0 = 10 then f_X9_init_0 a0 σ else none
noncomputable def f_X10_isLetter_17 (s0 : Int32) (σ : St) : Option (Int32 × St) :=
  if s0 = 0 ∨ s0 = 1 then some (s0, σ) else none
noncomputable def f_X10_isLetter_16  (σ : St) : Option (Int32 × St) :=
  f_X10_isLetter_17 0 σ
noncomputable def f_X10_isLetter_0 (a0 : Int32) (σ : St) : Option (Int32 × St) :=
  if a0 < 97 then
    f_X10_isLetter_16  σ
  else
    if 122 < a0 then
      f_X10_isLetter_16  σ
    else
      f_X10_isLetter_17 1 σ
noncomputable def f_X10_isLetter (a0 : Int32) (σ : St) : Option (Int32 × St) := f_X10_isLetter_0 a0 σ
noncomputable def f_X10_isDigit_17 (s0 : Int32) (σ : St) : Option (Int32 × St) :=
  if s0 = 0 ∨ s0 = 1 then some (s0, σ) else none
noncomputable def f_X10_isDigit_16  (σ : St) : Option (Int32 × St) :=
  f_X10_isDigit_17 0 σ
noncomputable def f_X10_isDigit_0 (a0 : Int32) (σ : St) : Option (Int32 × St) :=
  if a0 < 48 then
    f_X10_isDigit_16  σ
  else
    if 57 < a0 then
      f_X10_isDigit_16  σ
    else
      f_X10_isDigit_17 1 σ
noncomputable def f_X10_isDigit (a0 : Int32) (σ : St) : Option (Int32 × St) := f_X10_isDigit_0 a0 σ
noncomputable def f_X10_goesOn_265  (σ : St) : Option (St) :=
  some σ
noncomputable def f_X10_goesOn_215 (k173 : Nat → Int32 → St → Option (St)) (a0 : Nat) (a2 : Int32) (σ : St) : Option (St) :=
  (gI 11 8 a0 σ).bind fun x1 =>
  (pI 11 8 a0 (x1 + 1) σ).bind fun σ2 =>
  k173 a0 (a2 + 1)  σ2
noncomputable def f_X10_goesOn_173 (n : Nat) : Nat → Int32 → St → Option (St) :=
  Nat.rec (motive := fun _ => Nat → Int32 → St → Option (St)) (fun _ _ _ => none) (fun _ ih => fun a0 a2 σ =>
  (gI 11 8 a0 σ).bind fun x1 =>
  (f_X10_byteAt a0 x1 σ).bind fun q2 =>
  (f_X10_isDigit q2.1 q2.2).bind fun q3 =>
  if q3.1 = 0 then
    if 4 < a2 then
      f_X10_goesOn_265  q3.2
    else
      (pI 11 9 a0 3 q3.2).bind fun σ6 =>
      f_X10_goesOn_265  σ6
  else
    if 4 ≤ a2 then
      f_X10_goesOn_215 ih a0 a2  q3.2
    else
      (gI 11 11 a0 q3.2).bind fun x8 =>
      (gI 11 8 a0 q3.2).bind fun x9 =>
      (f_X10_byteAt a0 x9 q3.2).bind fun q10 =>
      (pI 11 11 a0 (((10 * x8) + q10.1) - 48) q10.2).bind fun σ11 =>
      f_X10_goesOn_215 ih a0 a2  σ11) n
theorem e_X10_goesOn_173 (n : Nat) {a0 : Nat} {a2 : Int32} {σ : St} : f_X10_goesOn_173 (n + 1) a0 a2 σ = (
  (gI 11 8 a0 σ).bind fun x1 =>
  (f_X10_byteAt a0 x1 σ).bind fun q2 =>
  (f_X10_isDigit q2.1 q2.2).bind fun q3 =>
  if q3.1 = 0 then
    if 4 < a2 then
      f_X10_goesOn_265  q3.2
    else
      (pI 11 9 a0 3 q3.2).bind fun σ6 =>
      f_X10_goesOn_265  σ6
  else
    if 4 ≤ a2 then
      f_X10_goesOn_215 (f_X10_goesOn_173 n) a0 a2  q3.2
    else
      (gI 11 11 a0 q3.2).bind fun x8 =>
      (gI 11 8 a0 q3.2).bind fun x9 =>
      (f_X10_byteAt a0 x9 q3.2).bind fun q10 =>
      (pI 11 11 a0 (((10 * x8) + q10.1) - 48) q10.2).bind fun σ11 =>
      f_X10_goesOn_215 (f_X10_goesOn_173 n) a0 a2  σ11) := rfl
noncomputable def f_X10_goesOn_131 (k84 : Nat → Int32 → St → Option (St)) (a0 : Nat) (a2 : Int32) (σ : St) : Option (St) :=
  (gI 11 8 a0 σ).bind fun x1 =>
  (pI 11 8 a0 (x1 + 1) σ).bind fun σ2 =>
  k84 a0 (a2 + 1)  σ2
noncomputable def f_X10_goesOn_84 (n : Nat) : Nat → Int32 → St → Option (St) :=
  Nat.rec (motive := fun _ => Nat → Int32 → St → Option (St)) (fun _ _ _ => none) (fun _ ih => fun a0 a2 σ =>
  (gI 11 8 a0 σ).bind fun x1 =>
  (f_X10_byteAt a0 x1 σ).bind fun q2 =>
  (f_X10_isLetter q2.1 q2.2).bind fun q3 =>
  if q3.1 = 0 then
    if 8 < a2 then
      f_X10_goesOn_265  q3.2
    else
      (pI 11 9 a0 2 q3.2).bind fun σ6 =>
      f_X10_goesOn_265  σ6
  else
    if 8 ≤ a2 then
      f_X10_goesOn_131 ih a0 a2  q3.2
    else
      (gL 11 14 a0 q3.2).bind fun x8 =>
      (gI 11 8 a0 q3.2).bind fun x9 =>
      (f_X10_byteAt a0 x9 q3.2).bind fun q10 =>
      (pL 11 14 a0 ((32 * x8) + (((q10.1 - 97) + 1).toInt64)) q10.2).bind fun σ11 =>
      f_X10_goesOn_131 ih a0 a2  σ11) n
theorem e_X10_goesOn_84 (n : Nat) {a0 : Nat} {a2 : Int32} {σ : St} : f_X10_goesOn_84 (n + 1) a0 a2 σ = (
  (gI 11 8 a0 σ).bind fun x1 =>
  (f_X10_byteAt a0 x1 σ).bind fun q2 =>
  (f_X10_isLetter q2.1 q2.2).bind fun q3 =>
  if q3.1 = 0 then
    if 8 < a2 then
      f_X10_goesOn_265  q3.2
    else
      (pI 11 9 a0 2 q3.2).bind fun σ6 =>
      f_X10_goesOn_265  σ6
  else
    if 8 ≤ a2 then
      f_X10_goesOn_131 (f_X10_goesOn_84 n) a0 a2  q3.2
    else
      (gL 11 14 a0 q3.2).bind fun x8 =>
      (gI 11 8 a0 q3.2).bind fun x9 =>
      (f_X10_byteAt a0 x9 q3.2).bind fun q10 =>
      (pL 11 14 a0 ((32 * x8) + (((q10.1 - 97) + 1).toInt64)) q10.2).bind fun σ11 =>
      f_X10_goesOn_131 (f_X10_goesOn_84 n) a0 a2  σ11) := rfl
noncomputable def f_X10_goesOn_9 (n : Nat) : Nat → St → Option (St) :=
  Nat.rec (motive := fun _ => Nat → St → Option (St)) (fun _ _ => none) (fun _ ih => fun a0 σ =>
  (gI 11 8 a0 σ).bind fun x1 =>
  (f_X10_byteAt a0 x1 σ).bind fun q2 =>
  if q2.1 = 32 then
    (gI 11 8 a0 q2.2).bind fun x21 =>
    (pI 11 8 a0 (x21 + 1) q2.2).bind fun σ22 =>
    ih a0  σ22
  else
    (gI 11 8 a0 q2.2).bind fun x4 =>
    (pI 11 10 a0 x4 q2.2).bind fun σ5 =>
    (pI 11 9 a0 0 σ5).bind fun σ6 =>
    (gI 11 8 a0 σ6).bind fun x7 =>
    (f_X10_byteAt a0 x7 σ6).bind fun q8 =>
    if q8.1 = (-1) then
      (pI 11 9 a0 1 q8.2).bind fun σ20 =>
      f_X10_goesOn_265  σ20
    else
      (f_X10_isLetter q8.1 q8.2).bind fun q10 =>
      if q10.1 = 0 then
        (f_X10_isDigit q8.1 q10.2).bind fun q12 =>
        if q12.1 = 0 then
          if q8.1 = 59 then
            (pI 11 9 a0 4 q12.2).bind fun σ15 =>
            (gI 11 8 a0 σ15).bind fun x16 =>
            (pI 11 8 a0 (x16 + 1) σ15).bind fun σ17 =>
            f_X10_goesOn_265  σ17
          else
            f_X10_goesOn_265  q12.2
        else
          (pI 11 11 a0 0 q12.2).bind fun σ18 =>
          f_X10_goesOn_173 FU a0 0  σ18
      else
        (pL 11 14 a0 0 q10.2).bind fun σ19 =>
        f_X10_goesOn_84 FU a0 0  σ19) n
theorem e_X10_goesOn_9 (n : Nat) {a0 : Nat} {σ : St} : f_X10_goesOn_9 (n + 1) a0 σ = (
  (gI 11 8 a0 σ).bind fun x1 =>
  (f_X10_byteAt a0 x1 σ).bind fun q2 =>
  if q2.1 = 32 then
    (gI 11 8 a0 q2.2).bind fun x21 =>
    (pI 11 8 a0 (x21 + 1) q2.2).bind fun σ22 =>
    (f_X10_goesOn_9 n) a0  σ22
  else
    (gI 11 8 a0 q2.2).bind fun x4 =>
    (pI 11 10 a0 x4 q2.2).bind fun σ5 =>
    (pI 11 9 a0 0 σ5).bind fun σ6 =>
    (gI 11 8 a0 σ6).bind fun x7 =>
    (f_X10_byteAt a0 x7 σ6).bind fun q8 =>
    if q8.1 = (-1) then
      (pI 11 9 a0 1 q8.2).bind fun σ20 =>
      f_X10_goesOn_265  σ20
    else
      (f_X10_isLetter q8.1 q8.2).bind fun q10 =>
      if q10.1 = 0 then
        (f_X10_isDigit q8.1 q10.2).bind fun q12 =>
        if q12.1 = 0 then
          if q8.1 = 59 then
            (pI 11 9 a0 4 q12.2).bind fun σ15 =>
            (gI 11 8 a0 σ15).bind fun x16 =>
            (pI 11 8 a0 (x16 + 1) σ15).bind fun σ17 =>
            f_X10_goesOn_265  σ17
          else
            f_X10_goesOn_265  q12.2
        else
          (pI 11 11 a0 0 q12.2).bind fun σ18 =>
          f_X10_goesOn_173 FU a0 0  σ18
      else
        (pL 11 14 a0 0 q10.2).bind fun σ19 =>
        f_X10_goesOn_84 FU a0 0  σ19) := rfl
noncomputable def f_X10_goesOn_0 (a0 : Nat) (σ : St) : Option (St) :=
  (gI 11 9 a0 σ).bind fun x1 =>
  if x1 = 5 then
    some σ
  else
    f_X10_goesOn_9 FU a0  σ
noncomputable def f_X10_goesOn (a0 : Nat) (σ : St) : Option (St) := if hT σ a0 = 11 then f_X10_goesOn_0 a0 σ else none
noncomputable def f_X10_packed_4 (n : Nat) : Nat → Int64 → Int32 → St → Option (Int64 × St) :=
  Nat.rec (motive := fun _ => Nat → Int64 → Int32 → St → Option (Int64 × St)) (fun _ _ _ _ => none) (fun _ ih => fun a0 a1 a3 σ =>
  (f_J0_length_8abf5 a0 σ).bind fun q1 =>
  if q1.1 ≤ a3 then
    some (a1, q1.2)
  else
    (f_J0_charAt_5068e a0 a3 q1.2).bind fun q3 =>
    bnd ((32 * a1) + (((q3.1 - 97) + 1).toInt64)) fun x4 =>
    ih a0 x4 (a3 + 1)  q3.2) n
theorem e_X10_packed_4 (n : Nat) {a0 : Nat} {a1 : Int64} {a3 : Int32} {σ : St} : f_X10_packed_4 (n + 1) a0 a1 a3 σ = (
  (f_J0_length_8abf5 a0 σ).bind fun q1 =>
  if q1.1 ≤ a3 then
    some (a1, q1.2)
  else
    (f_J0_charAt_5068e a0 a3 q1.2).bind fun q3 =>
    bnd ((32 * a1) + (((q3.1 - 97) + 1).toInt64)) fun x4 =>
    (f_X10_packed_4 n) a0 x4 (a3 + 1)  q3.2) := rfl
noncomputable def f_X10_packed_0 (a0 : Nat) (σ : St) : Option (Int64 × St) :=
  f_X10_packed_4 FU a0 0 0  σ
noncomputable def f_X10_packed (a0 : Nat) (σ : St) : Option (Int64 × St) := f_X10_packed_0 a0 σ
noncomputable def f_X10_isWord_25 (s0 : Int32) (σ : St) : Option (Int32 × St) :=
  if s0 = 0 ∨ s0 = 1 then some (s0, σ) else none
noncomputable def f_X10_isWord_24  (σ : St) : Option (Int32 × St) :=
  f_X10_isWord_25 0 σ
noncomputable def f_X10_isWord_0 (a0 : Nat) (a1 : Nat) (σ : St) : Option (Int32 × St) :=
  (gI 11 9 a0 σ).bind fun x1 =>
  if x1 = 2 then
    (gL 11 14 a0 σ).bind fun x3 =>
    (f_X10_packed a1 σ).bind fun q4 =>
    if (lg_cmp x3 q4.1) = 0 then
      f_X10_isWord_25 1 q4.2
    else
      f_X10_isWord_24  q4.2
  else
    f_X10_isWord_24  σ
noncomputable def f_X10_isWord (a0 : Nat) (a1 : Nat) (σ : St) : Option (Int32 × St) := if hT σ a0 = 11 then f_X10_isWord_0 a0 a1 σ else none
noncomputable def f_X10_flaw_0 (a0 : Nat) (a1 : Int32) (σ : St) : Option (St) :=
  (gI 11 9 a0 σ).bind fun x1 =>
  if x1 = 5 then
    some σ
  else
    (pI 11 12 a0 a1 σ).bind fun σ3 =>
    (gI 11 10 a0 σ3).bind fun x4 =>
    (pI 11 13 a0 x4 σ3).bind fun σ5 =>
    (pI 11 9 a0 5 σ5).bind fun σ6 =>
    some σ6
noncomputable def f_X10_flaw (a0 : Nat) (a1 : Int32) (σ : St) : Option (St) := if hT σ a0 = 11 then f_X10_flaw_0 a0 a1 σ else none
noncomputable def f_X10_needs_13 (a0 : Nat) (σ : St) : Option (St) :=
  (f_X10_goesOn a0 σ).bind fun σ1 =>
  some σ1
noncomputable def f_X10_needs_0 (a0 : Nat) (a1 : Nat) (σ : St) : Option (St) :=
  (f_X10_isWord a0 a1 σ).bind fun q1 =>
  if q1.1 = 0 then
    (f_X10_flaw a0 1 q1.2).bind fun σ3 =>
    f_X10_needs_13 a0  σ3
  else
    f_X10_needs_13 a0  q1.2
noncomputable def f_X10_needs (a0 : Nat) (a1 : Nat) (σ : St) : Option (St) := if hT σ a0 = 11 then f_X10_needs_0 a0 a1 σ else none
noncomputable def f_X10_wholeAt_49 (s0 : Int32) (σ : St) : Option (Int32 × St) :=
  some (s0, σ)
noncomputable def f_X10_wholeAt_33 (a0 : Nat) (a1 : Int32) (σ : St) : Option (Int32 × St) :=
  (gI 11 9 a0 σ).bind fun x1 =>
  if x1 = 5 then
    f_X10_wholeAt_49 a1 σ
  else
    (gI 11 11 a0 σ).bind fun x3 =>
    f_X10_wholeAt_49 x3 σ
noncomputable def f_X10_wholeAt_0 (a0 : Nat) (a1 : Int32) (a2 : Int32) (σ : St) : Option (Int32 × St) :=
  (gI 11 9 a0 σ).bind fun x1 =>
  if x1 = 3 then
    (gI 11 11 a0 σ).bind fun x3 =>
    (f_X10_in x3 a1 a2 σ).bind fun q4 =>
    if q4.1 = 0 then
      (f_X10_flaw a0 4 q4.2).bind fun σ6 =>
      f_X10_wholeAt_33 a0 a1  σ6
    else
      f_X10_wholeAt_33 a0 a1  q4.2
  else
    (f_X10_flaw a0 1 σ).bind fun σ7 =>
    f_X10_wholeAt_33 a0 a1  σ7
noncomputable def f_X10_wholeAt (a0 : Nat) (a1 : Int32) (a2 : Int32) (σ : St) : Option (Int32 × St) := if hT σ a0 = 11 then f_X10_wholeAt_0 a0 a1 a2 σ else none
noncomputable def f_X10_readWhole_0 (a0 : Nat) (a1 : Int32) (a2 : Int32) (σ : St) : Option (Int32 × St) :=
  (f_X10_wholeAt a0 a1 a2 σ).bind fun q1 =>
  (f_X10_goesOn a0 q1.2).bind fun σ2 =>
  some (q1.1, σ2)
noncomputable def f_X10_readWhole (a0 : Nat) (a1 : Int32) (a2 : Int32) (σ : St) : Option (Int32 × St) := if hT σ a0 = 11 then f_X10_readWhole_0 a0 a1 a2 σ else none
noncomputable def f_X10_readPart_0 (a0 : Nat) (a1 : Nat) (a2 : Int32) (a3 : Int32) (σ : St) : Option (Int32 × St) :=
  (f_X10_needs a0 a1 σ).bind fun σ1 =>
  (f_X10_readWhole a0 a2 a3 σ1).bind fun q2 =>
  some (q2.1, q2.2)
noncomputable def f_X10_readPart (a0 : Nat) (a1 : Nat) (a2 : Int32) (a3 : Int32) (σ : St) : Option (Int32 × St) := if hT σ a0 = 11 then f_X10_readPart_0 a0 a1 a2 a3 σ else none
noncomputable def f_X10_readCore_86 (a0 : Nat) (a1 : Int32) (a2 : Int32) (a3 : Int32) (a4 : Int32) (a5 : Int32) (σ : St) : Option (St) :=
  (f_X10_goesOn a0 σ).bind fun σ1 =>
  (gI 11 9 a0 σ1).bind fun x2 =>
  if x2 = 5 then
    some σ1
  else
    (gR 11 4 a0 σ1).bind fun x4 =>
    (pI 10 0 x4 a1 σ1).bind fun σ5 =>
    (gR 11 4 a0 σ5).bind fun x6 =>
    (pI 10 1 x6 a2 σ5).bind fun σ7 =>
    (gR 11 4 a0 σ7).bind fun x8 =>
    (pI 10 2 x8 a3 σ7).bind fun σ9 =>
    (gR 11 4 a0 σ9).bind fun x10 =>
    (pI 10 3 x10 a4 σ9).bind fun σ11 =>
    (gR 11 4 a0 σ11).bind fun x12 =>
    (pZ 10 7 x12 a5 σ11).bind fun σ13 =>
    some σ13
noncomputable def f_X10_readCore_15 (a0 : Nat) (σ : St) : Option (St) :=
  (f_X10_goesOn a0 σ).bind fun σ1 =>
  (f_X10_readPart a0 18 9 24 σ1).bind fun q2 =>
  (f_X10_readPart a0 19 2 12 q2.2).bind fun q3 =>
  (f_X10_readPart a0 20 0 4 q3.2).bind fun q4 =>
  (f_X10_readPart a0 21 1 4 q4.2).bind fun q5 =>
  (f_X10_isWord a0 22 q5.2).bind fun q6 =>
  if q6.1 = 0 then
    (f_X10_isWord a0 23 q6.2).bind fun q8 =>
    if q8.1 = 0 then
      (f_X10_flaw a0 1 q8.2).bind fun σ10 =>
      f_X10_readCore_86 a0 q2.1 q3.1 q4.1 q5.1 q6.1  σ10
    else
      f_X10_readCore_86 a0 q2.1 q3.1 q4.1 q5.1 q6.1  q8.2
  else
    f_X10_readCore_86 a0 q2.1 q3.1 q4.1 q5.1 q6.1  q6.2
noncomputable def f_X10_readCore_0 (a0 : Nat) (σ : St) : Option (St) :=
  (gR 11 4 a0 σ).bind fun x1 =>
  (gI 10 0 x1 σ).bind fun x2 =>
  if x2 ≤ 0 then
    f_X10_readCore_15 a0  σ
  else
    (f_X10_flaw a0 3 σ).bind fun σ4 =>
    f_X10_readCore_15 a0  σ4
noncomputable def f_X10_readCore (a0 : Nat) (σ : St) : Option (St) := if hT σ a0 = 11 then f_X10_readCore_0 a0 σ else none
noncomputable def f_X10_kindAtHand_71 (s0 : Int32) (σ : St) : Option (Int32 × St) :=
  some (s0, σ)
noncomputable def f_X10_kindAtHand_0 (a0 : Nat) (σ : St) : Option (Int32 × St) :=
  (f_X10_isWord a0 24 σ).bind fun q1 =>
  if q1.1 = 0 then
    (f_X10_isWord a0 25 q1.2).bind fun q3 =>
    if q3.1 = 0 then
      (f_X10_isWord a0 26 q3.2).bind fun q5 =>
      if q5.1 = 0 then
        (f_X10_isWord a0 27 q5.2).bind fun q7 =>
        if q7.1 = 0 then
          (f_X10_isWord a0 28 q7.2).bind fun q9 =>
          if q9.1 = 0 then
            (f_X10_isWord a0 29 q9.2).bind fun q11 =>
            if q11.1 = 0 then
              f_X10_kindAtHand_71 (-1) q11.2
            else
              f_X10_kindAtHand_71 5 q11.2
          else
            f_X10_kindAtHand_71 4 q9.2
        else
          some (3, q7.2)
      else
        some (2, q5.2)
    else
      some (1, q3.2)
  else
    some (0, q1.2)
noncomputable def f_X10_kindAtHand (a0 : Nat) (σ : St) : Option (Int32 × St) := if hT σ a0 = 11 then f_X10_kindAtHand_0 a0 σ else none
noncomputable def f_X10_lineBegins_26 (a0 : Nat) (σ : St) : Option (St) :=
  (f_X10_goesOn a0 σ).bind fun σ1 =>
  some σ1
noncomputable def f_X10_lineBegins_10 (a0 : Nat) (σ : St) : Option (St) :=
  (gR 11 4 a0 σ).bind fun x1 =>
  (gI 10 0 x1 σ).bind fun x2 =>
  if x2 = 0 then
    (f_X10_flaw a0 6 σ).bind fun σ4 =>
    f_X10_lineBegins_26 a0  σ4
  else
    f_X10_lineBegins_26 a0  σ
noncomputable def f_X10_lineBegins_0 (a0 : Nat) (a1 : Int32) (a2 : Int32) (σ : St) : Option (St) :=
  if a1 = a2 then
    (f_X10_flaw a0 5 σ).bind fun σ2 =>
    f_X10_lineBegins_10 a0  σ2
  else
    f_X10_lineBegins_10 a0  σ
noncomputable def f_X10_lineBegins (a0 : Nat) (a1 : Int32) (a2 : Int32) (σ : St) : Option (St) := if hT σ a0 = 11 then f_X10_lineBegins_0 a0 a1 a2 σ else none
noncomputable def f_X10_readRegister_0 (a0 : Nat) (σ : St) : Option (Int32 × St) :=
  (f_X10_readWhole a0 0 7 σ).bind fun q1 =>
  some (q1.1, q1.2)
noncomputable def f_X10_readRegister (a0 : Nat) (σ : St) : Option (Int32 × St) := if hT σ a0 = 11 then f_X10_readRegister_0 a0 σ else none
noncomputable def f_X10_readStep_119 (a0 : Nat) (a1 : Int32) (a2 : Int32) (a3 : Int32) (a4 : Int32) (a5 : Int32) (a6 : Int32) (σ : St) : Option (St) :=
  (gI 11 9 a0 σ).bind fun x1 =>
  if x1 = 5 then
    some σ
  else
    (gR 11 4 a0 σ).bind fun x3 =>
    (gI 10 4 x3 σ).bind fun x4 =>
    (gR 11 4 a0 σ).bind fun x5 =>
    (gR 10 8 x5 σ).bind fun x6 =>
    (xI x6 x4 a1 σ).bind fun σ7 =>
    (gR 11 4 a0 σ7).bind fun x8 =>
    (gR 10 9 x8 σ7).bind fun x9 =>
    (xI x9 x4 a2 σ7).bind fun σ10 =>
    (gR 11 4 a0 σ10).bind fun x11 =>
    (gR 10 10 x11 σ10).bind fun x12 =>
    (xI x12 x4 a3 σ10).bind fun σ13 =>
    (gR 11 4 a0 σ13).bind fun x14 =>
    (gR 10 11 x14 σ13).bind fun x15 =>
    (xI x15 x4 a4 σ13).bind fun σ16 =>
    (gR 11 4 a0 σ16).bind fun x17 =>
    (gR 10 12 x17 σ16).bind fun x18 =>
    (xI x18 x4 a5 σ16).bind fun σ19 =>
    (gR 11 4 a0 σ19).bind fun x20 =>
    (gR 10 13 x20 σ19).bind fun x21 =>
    (xZ x21 x4 a6 σ19).bind fun σ22 =>
    (gR 11 4 a0 σ22).bind fun x23 =>
    (gI 10 4 x23 σ22).bind fun x24 =>
    (pI 10 4 x23 (x24 + 1) σ22).bind fun σ25 =>
    some σ25
noncomputable def f_X10_readStep_115 (a0 : Nat) (a1 : Int32) (a2 : Int32) (a3 : Int32) (a4 : Int32) (a5 : Int32) (a6 : Int32) (σ : St) : Option (St) :=
  (f_X10_goesOn a0 σ).bind fun σ1 =>
  f_X10_readStep_119 a0 a1 a2 a3 a4 a5 a6  σ1
noncomputable def f_X10_readStep_74 (a0 : Nat) (a1 : Int32) (a2 : Int32) (a3 : Int32) (a4 : Int32) (a5 : Int32) (a6 : Int32) (σ : St) : Option (St) :=
  if a1 = 5 then
    (f_X10_readWhole a0 0 24 σ).bind fun q2 =>
    (f_X10_isWord a0 30 q2.2).bind fun q3 =>
    if q3.1 = 0 then
      (f_X10_isWord a0 31 q3.2).bind fun q5 =>
      if q5.1 = 0 then
        (f_X10_flaw a0 1 q5.2).bind fun σ7 =>
        f_X10_readStep_115 a0 a1 a2 a3 a4 q2.1 q3.1  σ7
      else
        f_X10_readStep_115 a0 a1 a2 a3 a4 q2.1 q3.1  q5.2
    else
      f_X10_readStep_115 a0 a1 a2 a3 a4 q2.1 q3.1  q3.2
  else
    f_X10_readStep_119 a0 a1 a2 a3 a4 a5 a6  σ
noncomputable def f_X10_readStep_60 (a0 : Nat) (a1 : Int32) (a2 : Int32) (a3 : Int32) (a4 : Int32) (a5 : Int32) (a6 : Int32) (σ : St) : Option (St) :=
  if a1 = 0 then
    (f_X10_readWhole a0 0 9999 σ).bind fun q2 =>
    f_X10_readStep_74 a0 a1 a2 a3 a4 q2.1 a6  q2.2
  else
    f_X10_readStep_74 a0 a1 a2 a3 a4 a5 a6  σ
noncomputable def f_X10_readStep_45 (a0 : Nat) (a1 : Int32) (a2 : Int32) (a3 : Int32) (a4 : Int32) (a5 : Int32) (a6 : Int32) (σ : St) : Option (St) :=
  if a1 = 0 then
    f_X10_readStep_60 a0 a1 a2 a3 a4 a5 a6  σ
  else
    if a1 = 4 then
      f_X10_readStep_60 a0 a1 a2 a3 a4 a5 a6  σ
    else
      (f_X10_readRegister a0 σ).bind fun q3 =>
      f_X10_readStep_60 a0 a1 a2 a3 q3.1 a5 a6  q3.2
noncomputable def f_X10_readStep_36 (a0 : Nat) (a1 : Int32) (a2 : Int32) (a3 : Int32) (a4 : Int32) (a5 : Int32) (a6 : Int32) (σ : St) : Option (St) :=
  if a1 = 0 then
    f_X10_readStep_45 a0 a1 a2 a3 a4 a5 a6  σ
  else
    (f_X10_readRegister a0 σ).bind fun q2 =>
    f_X10_readStep_45 a0 a1 a2 q2.1 a4 a5 a6  q2.2
noncomputable def f_X10_readStep_0 (a0 : Nat) (a1 : Int32) (σ : St) : Option (St) :=
  (gR 11 4 a0 σ).bind fun x1 =>
  (gI 10 4 x1 σ).bind fun x2 =>
  (f_X10_lineBegins a0 x2 24 σ).bind fun σ3 =>
  if a1 = 5 then
    f_X10_readStep_36 a0 a1 (-1) (-1) (-1) 0 0  σ3
  else
    (f_X10_readRegister a0 σ3).bind fun q5 =>
    f_X10_readStep_36 a0 a1 q5.1 (-1) (-1) 0 0  q5.2
noncomputable def f_X10_readStep (a0 : Nat) (a1 : Int32) (σ : St) : Option (St) := if hT σ a0 = 11 then f_X10_readStep_0 a0 a1 σ else none
noncomputable def f_X10_readUnsure_85 (a0 : Nat) (σ : St) : Option (St) :=
  (gI 11 11 a0 σ).bind fun x1 =>
  (f_X10_goesOn a0 σ).bind fun σ2 =>
  (f_X10_readWhole a0 0 9999 σ2).bind fun q3 =>
  (gI 11 9 a0 q3.2).bind fun x4 =>
  if x4 = 5 then
    some q3.2
  else
    (gR 11 4 a0 q3.2).bind fun x6 =>
    (gR 10 14 x6 q3.2).bind fun x7 =>
    (gR 11 4 a0 q3.2).bind fun x8 =>
    (gI 10 5 x8 q3.2).bind fun x9 =>
    (xI x7 x9 x1 q3.2).bind fun σ10 =>
    (gR 11 4 a0 σ10).bind fun x11 =>
    (gR 10 15 x11 σ10).bind fun x12 =>
    (gR 11 4 a0 σ10).bind fun x13 =>
    (gI 10 5 x13 σ10).bind fun x14 =>
    (xI x12 x14 q3.1 σ10).bind fun σ15 =>
    (gR 11 4 a0 σ15).bind fun x16 =>
    (gI 10 5 x16 σ15).bind fun x17 =>
    (pI 10 5 x16 (x17 + 1) σ15).bind fun σ18 =>
    some σ18
noncomputable def f_X10_readUnsure_57 (a0 : Nat) (σ : St) : Option (St) :=
  (f_X10_flaw a0 2 σ).bind fun σ1 =>
  f_X10_readUnsure_85 a0  σ1
noncomputable def f_X10_readUnsure_0 (a0 : Nat) (σ : St) : Option (St) :=
  (gR 11 4 a0 σ).bind fun x1 =>
  (gI 10 5 x1 σ).bind fun x2 =>
  (f_X10_lineBegins a0 x2 4 σ).bind fun σ3 =>
  (gI 11 9 a0 σ3).bind fun x4 =>
  if x4 = 3 then
    (gR 11 4 a0 σ3).bind fun x6 =>
    (gI 11 11 a0 σ3).bind fun x7 =>
    (f_X9_isStep x6 x7 σ3).bind fun q8 =>
    if q8.1 = 0 then
      f_X10_readUnsure_57 a0  q8.2
    else
      (gR 11 4 a0 q8.2).bind fun x10 =>
      (gR 10 8 x10 q8.2).bind fun x11 =>
      (gI 11 11 a0 q8.2).bind fun x12 =>
      (aI 22 x11 x12 q8.2).bind fun x13 =>
      if x13 = 0 then
        (gR 11 4 a0 q8.2).bind fun x15 =>
        (gI 11 11 a0 q8.2).bind fun x16 =>
        (f_X9_unsureOf x15 x16 q8.2).bind fun q17 =>
        if q17.1 = (-1) then
          f_X10_readUnsure_85 a0  q17.2
        else
          (f_X10_flaw a0 3 q17.2).bind fun σ19 =>
          f_X10_readUnsure_85 a0  σ19
      else
        f_X10_readUnsure_57 a0  q8.2
  else
    (f_X10_flaw a0 1 σ3).bind fun σ20 =>
    f_X10_readUnsure_85 a0  σ20
noncomputable def f_X10_readUnsure (a0 : Nat) (σ : St) : Option (St) := if hT σ a0 = 11 then f_X10_readUnsure_0 a0 σ else none
noncomputable def f_X9_isGot_2 (n : Nat) : Nat → Int32 → Int32 → St → Option (Int32 × St) :=
  Nat.rec (motive := fun _ => Nat → Int32 → Int32 → St → Option (Int32 × St)) (fun _ _ _ _ => none) (fun _ ih => fun a0 a1 a2 σ =>
  (gI 10 6 a0 σ).bind fun x1 =>
  if x1 ≤ a2 then
    some (0, σ)
  else
    (gR 10 16 a0 σ).bind fun x3 =>
    (aI 22 x3 a2 σ).bind fun x4 =>
    if x4 = a1 then
      some (1, σ)
    else
      ih a0 a1 (a2 + 1)  σ) n
theorem e_X9_isGot_2 (n : Nat) {a0 : Nat} {a1 : Int32} {a2 : Int32} {σ : St} : f_X9_isGot_2 (n + 1) a0 a1 a2 σ = (
  (gI 10 6 a0 σ).bind fun x1 =>
  if x1 ≤ a2 then
    some (0, σ)
  else
    (gR 10 16 a0 σ).bind fun x3 =>
    (aI 22 x3 a2 σ).bind fun x4 =>
    if x4 = a1 then
      some (1, σ)
    else
      (f_X9_isGot_2 n) a0 a1 (a2 + 1)  σ) := rfl
noncomputable def f_X9_isGot_0 (a0 : Nat) (a1 : Int32) (σ : St) : Option (Int32 × St) :=
  f_X9_isGot_2 FU a0 a1 0  σ
noncomputable def f_X9_isGot (a0 : Nat) (a1 : Int32) (σ : St) : Option (Int32 × St) := if hT σ a0 = 10 then f_X9_isGot_0 a0 a1 σ else none
noncomputable def f_X10_readGot_45 (a0 : Nat) (a1 : Int32) (σ : St) : Option (St) :=
  (f_X10_goesOn a0 σ).bind fun σ1 =>
  (f_X10_readWhole a0 0 9999 σ1).bind fun q2 =>
  (gI 11 9 a0 q2.2).bind fun x3 =>
  if x3 = 5 then
    some q2.2
  else
    (gR 11 4 a0 q2.2).bind fun x5 =>
    (gR 10 16 x5 q2.2).bind fun x6 =>
    (gR 11 4 a0 q2.2).bind fun x7 =>
    (gI 10 6 x7 q2.2).bind fun x8 =>
    (xI x6 x8 a1 q2.2).bind fun σ9 =>
    (gR 11 4 a0 σ9).bind fun x10 =>
    (gR 10 17 x10 σ9).bind fun x11 =>
    (gR 11 4 a0 σ9).bind fun x12 =>
    (gI 10 6 x12 σ9).bind fun x13 =>
    (xI x11 x13 q2.1 σ9).bind fun σ14 =>
    (gR 11 4 a0 σ14).bind fun x15 =>
    (gI 10 6 x15 σ14).bind fun x16 =>
    (pI 10 6 x15 (x16 + 1) σ14).bind fun σ17 =>
    some σ17
noncomputable def f_X10_readGot_0 (a0 : Nat) (σ : St) : Option (St) :=
  (gR 11 4 a0 σ).bind fun x1 =>
  (gI 10 6 x1 σ).bind fun x2 =>
  (f_X10_lineBegins a0 x2 6 σ).bind fun σ3 =>
  (f_X10_wholeAt a0 0 7 σ3).bind fun q4 =>
  (gI 11 9 a0 q4.2).bind fun x5 =>
  if x5 = 5 then
    f_X10_readGot_45 a0 q4.1  q4.2
  else
    (gR 11 4 a0 q4.2).bind fun x7 =>
    (f_X9_isGot x7 q4.1 q4.2).bind fun q8 =>
    if q8.1 = 0 then
      f_X10_readGot_45 a0 q4.1  q8.2
    else
      (f_X10_flaw a0 3 q8.2).bind fun σ10 =>
      f_X10_readGot_45 a0 q4.1  σ10
noncomputable def f_X10_readGot (a0 : Nat) (σ : St) : Option (St) := if hT σ a0 = 11 then f_X10_readGot_0 a0 σ else none
noncomputable def f_X10_readLine_72  (σ : St) : Option (St) :=
  some σ
noncomputable def f_X10_readLine_0 (a0 : Nat) (σ : St) : Option (St) :=
  (f_X10_isWord a0 17 σ).bind fun q1 =>
  if q1.1 = 0 then
    (f_X10_kindAtHand a0 q1.2).bind fun q3 =>
    if q3.1 = (-1) then
      (f_X10_isWord a0 32 q3.2).bind fun q5 =>
      if q5.1 = 0 then
        (f_X10_isWord a0 33 q5.2).bind fun q7 =>
        if q7.1 = 0 then
          (f_X10_flaw a0 1 q7.2).bind fun σ9 =>
          f_X10_readLine_72  σ9
        else
          (f_X10_readGot a0 q7.2).bind fun σ10 =>
          f_X10_readLine_72  σ10
      else
        (f_X10_readUnsure a0 q5.2).bind fun σ11 =>
        f_X10_readLine_72  σ11
    else
      (f_X10_kindAtHand a0 q3.2).bind fun q12 =>
      (f_X10_readStep a0 q12.1 q12.2).bind fun σ13 =>
      f_X10_readLine_72  σ13
  else
    (f_X10_readCore a0 q1.2).bind fun σ14 =>
    f_X10_readLine_72  σ14
noncomputable def f_X10_readLine (a0 : Nat) (σ : St) : Option (St) := if hT σ a0 = 11 then f_X10_readLine_0 a0 σ else none
noncomputable def f_X10_eatsSemicolon_22 (a1 : Int32) (σ : St) : Option (Int32 × St) :=
  if a1 = 0 ∨ a1 = 1 then some (a1, σ) else none
noncomputable def f_X10_eatsSemicolon_13 (a0 : Nat) (s0 : Int32) (σ : St) : Option (Int32 × St) :=
  if s0 = 0 then
    f_X10_eatsSemicolon_22 s0  σ
  else
    (f_X10_goesOn a0 σ).bind fun σ2 =>
    f_X10_eatsSemicolon_22 s0  σ2
noncomputable def f_X10_eatsSemicolon_0 (a0 : Nat) (σ : St) : Option (Int32 × St) :=
  (gI 11 9 a0 σ).bind fun x1 =>
  if x1 = 4 then
    f_X10_eatsSemicolon_13 a0 1 σ
  else
    f_X10_eatsSemicolon_13 a0 0 σ
noncomputable def f_X10_eatsSemicolon (a0 : Nat) (σ : St) : Option (Int32 × St) := if hT σ a0 = 11 then f_X10_eatsSemicolon_0 a0 σ else none
noncomputable def f_X10_readAll_47  (σ : St) : Option (St) :=
  some σ
noncomputable def f_X10_readAll_31 (a0 : Nat) (σ : St) : Option (St) :=
  (gR 11 4 a0 σ).bind fun x1 =>
  (gI 10 4 x1 σ).bind fun x2 =>
  if x2 = 0 then
    (f_X10_flaw a0 6 σ).bind fun σ4 =>
    f_X10_readAll_47  σ4
  else
    f_X10_readAll_47  σ
noncomputable def f_X10_readAll_2 (n : Nat) : Nat → Int32 → St → Option (St) :=
  Nat.rec (motive := fun _ => Nat → Int32 → St → Option (St)) (fun _ _ _ => none) (fun _ ih => fun a0 a1 σ =>
  if a1 = 0 then
    (gI 11 9 a0 σ).bind fun x2 =>
    if x2 = 1 then
      f_X10_readAll_31 a0  σ
    else
      (f_X10_flaw a0 1 σ).bind fun σ4 =>
      f_X10_readAll_31 a0  σ4
  else
    (f_X10_readLine a0 σ).bind fun σ5 =>
    (f_X10_eatsSemicolon a0 σ5).bind fun q6 =>
    ih a0 q6.1  q6.2) n
theorem e_X10_readAll_2 (n : Nat) {a0 : Nat} {a1 : Int32} {σ : St} : f_X10_readAll_2 (n + 1) a0 a1 σ = (
  if a1 = 0 then
    (gI 11 9 a0 σ).bind fun x2 =>
    if x2 = 1 then
      f_X10_readAll_31 a0  σ
    else
      (f_X10_flaw a0 1 σ).bind fun σ4 =>
      f_X10_readAll_31 a0  σ4
  else
    (f_X10_readLine a0 σ).bind fun σ5 =>
    (f_X10_eatsSemicolon a0 σ5).bind fun q6 =>
    (f_X10_readAll_2 n) a0 q6.1  q6.2) := rfl
noncomputable def f_X10_readAll_0 (a0 : Nat) (σ : St) : Option (St) :=
  f_X10_readAll_2 FU a0 1  σ
noncomputable def f_X10_readAll (a0 : Nat) (σ : St) : Option (St) := if hT σ a0 = 11 then f_X10_readAll_0 a0 σ else none
noncomputable def f_X10_core_17 (a0 : Nat) (σ : St) : Option (Int32 × St) :=
  (f_X10_refused a0 2 σ).bind fun q1 =>
  some (q1.1, q1.2)
noncomputable def f_X10_core_0 (a0 : Nat) (a1 : Int32) (σ : St) : Option (Int32 × St) :=
  (pI 11 0 a0 0 σ).bind fun σ1 =>
  if a1 < 0 then
    f_X10_core_17 a0  σ1
  else
    (gI 11 6 a0 σ1).bind fun x3 =>
    if a1 ≤ x3 then
      (pI 11 7 a0 a1 σ1).bind fun σ5 =>
      (pI 11 6 a0 0 σ5).bind fun σ6 =>
      (pI 11 8 a0 0 σ6).bind fun σ7 =>
      (pI 11 12 a0 0 σ7).bind fun σ8 =>
      bnd (nw σ8 10 0) fun σ9 =>
      (f_X9_init (hZ σ8) σ9).bind fun σ10 =>
      (pP 11 4 a0 (hZ σ8) σ10).bind fun σ11 =>
      (pI 11 9 a0 0 σ11).bind fun σ12 =>
      (f_X10_goesOn a0 σ12).bind fun σ13 =>
      (f_X10_readAll a0 σ13).bind fun σ14 =>
      (gI 11 12 a0 σ14).bind fun x15 =>
      if x15 ≤ 0 then
        (gR 11 4 a0 σ14).bind fun x17 =>
        (pP 11 3 a0 x17 σ14).bind fun σ18 =>
        (gR 11 3 a0 σ18).bind fun x19 =>
        (gI 10 0 x19 σ18).bind fun x20 =>
        (f_X10_asTold a0 x20 σ18).bind fun σ21 =>
        (f_X10_remains a0 σ21).bind fun σ22 =>
        (pI 11 24 a0 0 σ22).bind fun σ23 =>
        (pI 11 25 a0 0 σ23).bind fun σ24 =>
        (gR 11 3 a0 σ24).bind fun x25 =>
        (gI 10 4 x25 σ24).bind fun x26 =>
        (f_X10_good a0 x26 σ24).bind fun q27 =>
        some (q27.1, q27.2)
      else
        (pI 11 1 a0 4 σ14).bind fun σ28 =>
        (gI 11 13 a0 σ28).bind fun x29 =>
        (pI 11 2 a0 x29 σ28).bind fun σ30 =>
        some ((-1), σ30)
    else
      f_X10_core_17 a0  σ1
noncomputable def f_X10_core (a0 : Nat) (a1 : Int32) (σ : St) : Option (Int32 × St) := if hT σ a0 = 11 then f_X10_core_0 a0 a1 σ else none
noncomputable def f_X10_could_0 (a0 : Nat) (σ : St) : Option (Int32 × St) :=
  (pI 11 0 a0 0 σ).bind fun σ1 =>
  (gQ 11 3 a0 σ1).bind fun x2 =>
  oc x2 (
    (f_X10_refused a0 1 σ1).bind fun q4 =>
    some (q4.1, q4.2)) (fun _ =>
    (f_X10_fitting a0 (-1) σ1).bind fun q5 =>
    (gI 11 32 a0 q5.2).bind fun x6 =>
    (f_X10_good a0 x6 q5.2).bind fun q7 =>
    some (q7.1, q7.2))
noncomputable def f_X10_could (a0 : Nat) (σ : St) : Option (Int32 × St) := if hT σ a0 = 11 then f_X10_could_0 a0 σ else none
noncomputable def f_X10_crowd_0 (a0 : Nat) (a1 : Int32) (σ : St) : Option (Int32 × St) :=
  (pI 11 0 a0 0 σ).bind fun σ1 =>
  (f_X10_refusesCells a0 a1 σ1).bind fun q2 =>
  if q2.1 ≤ 0 then
    (f_X10_goes a0 a1 q2.2).bind fun σ4 =>
    (gI 11 30 a0 σ4).bind fun x5 =>
    (f_X10_good a0 x5 σ4).bind fun q6 =>
    some (q6.1, q6.2)
  else
    (f_X10_refused a0 q2.1 q2.2).bind fun q7 =>
    some (q7.1, q7.2)
noncomputable def f_X10_crowd (a0 : Nat) (a1 : Int32) (σ : St) : Option (Int32 × St) := if hT σ a0 = 11 then f_X10_crowd_0 a0 a1 σ else none
noncomputable def f_X10_cycles_0 (a0 : Nat) (a1 : Int32) (σ : St) : Option (Int32 × St) :=
  (pI 11 0 a0 0 σ).bind fun σ1 =>
  (f_X10_refusesCells a0 a1 σ1).bind fun q2 =>
  if q2.1 ≤ 0 then
    (f_X10_goes a0 a1 q2.2).bind fun σ4 =>
    (gI 11 28 a0 σ4).bind fun x5 =>
    (f_X10_good a0 x5 σ4).bind fun q6 =>
    some (q6.1, q6.2)
  else
    (f_X10_refused a0 q2.1 q2.2).bind fun q7 =>
    some (q7.1, q7.2)
noncomputable def f_X10_cycles (a0 : Nat) (a1 : Int32) (σ : St) : Option (Int32 × St) := if hT σ a0 = 11 then f_X10_cycles_0 a0 a1 σ else none
noncomputable def f_X10_refusesDraw_35 (s0 : Int32) (σ : St) : Option (Int32 × St) :=
  some (s0, σ)
noncomputable def f_X10_refusesDraw_34  (σ : St) : Option (Int32 × St) :=
  f_X10_refusesDraw_35 2 σ
noncomputable def f_X10_refusesDraw_0 (a0 : Nat) (a1 : Int32) (a2 : Int32) (a3 : Int32) (σ : St) : Option (Int32 × St) :=
  if a1 = 0 then
    f_X10_refusesDraw_35 1 σ
  else
    (f_X10_in a2 0 65536 σ).bind fun q2 =>
    if q2.1 = 0 then
      f_X10_refusesDraw_34  q2.2
    else
      (f_X10_in a3 0 300 q2.2).bind fun q4 =>
      if q4.1 = 0 then
        f_X10_refusesDraw_34  q4.2
      else
        f_X10_refusesDraw_35 0 q4.2
noncomputable def f_X10_refusesDraw (a0 : Nat) (a1 : Int32) (a2 : Int32) (a3 : Int32) (σ : St) : Option (Int32 × St) := if hT σ a0 = 11 then f_X10_refusesDraw_0 a0 a1 a2 a3 σ else none
noncomputable def f_X10_draws_0 (a0 : Nat) (a1 : Int32) (σ : St) : Option (Int32 × St) :=
  (gI 11 36 a0 σ).bind fun x1 =>
  (pI 11 36 a0 ((lrem ((75 * x1.toInt64) + 74) 65537).toInt32) σ).bind fun σ2 =>
  (gI 11 36 a0 σ2).bind fun x3 =>
  if a1 = 0 then none else
  some (jrem x3 a1, σ2)
noncomputable def f_X10_draws (a0 : Nat) (a1 : Int32) (σ : St) : Option (Int32 × St) := if hT σ a0 = 11 then f_X10_draws_0 a0 a1 σ else none
noncomputable def f_X10_tries_122 (k16 : Nat → Int32 → Int32 → St → Option (St)) (a0 : Nat) (a2 : Int32) (a3 : Int32) (σ : St) : Option (St) :=
  k16 a0 a2 (a3 + 1)  σ
noncomputable def f_X10_tries_90 (k16 : Nat → Int32 → Int32 → St → Option (St)) (a0 : Nat) (a2 : Int32) (a3 : Int32) (a4 : Int32) (σ : St) : Option (St) :=
  if a4 = 2 then
    (f_X10_whyNoCommit a0 σ).bind fun q2 =>
    if q2.1 = 0 then
      (f_X10_commitsOne a0 q2.2).bind fun q4 =>
      if q4.1 = (-2) then
        f_X10_tries_122 k16 a0 a2 a3  q4.2
      else
        (gI 11 37 a0 q4.2).bind fun x6 =>
        (pI 11 37 a0 (x6 + 1) q4.2).bind fun σ7 =>
        f_X10_tries_122 k16 a0 a2 a3  σ7
    else
      f_X10_tries_122 k16 a0 a2 a3  q2.2
  else
    f_X10_tries_122 k16 a0 a2 a3  σ
noncomputable def f_X10_tries_45 (k16 : Nat → Int32 → Int32 → St → Option (St)) (a0 : Nat) (a2 : Int32) (a3 : Int32) (a4 : Int32) (σ : St) : Option (St) :=
  if a4 = 1 then
    (gR 11 21 a0 σ).bind fun x2 =>
    (aI 22 x2 34 σ).bind fun x3 =>
    if x3 ≤ 0 then
      f_X10_tries_90 k16 a0 a2 a3 a4  σ
    else
      (gR 11 21 a0 σ).bind fun x5 =>
      (aI 22 x5 34 σ).bind fun x6 =>
      (f_X10_draws a0 x6 σ).bind fun q7 =>
      (f_X10_isRunnable a0 q7.1 q7.2).bind fun q8 =>
      if q8.1 = 0 then
        f_X10_tries_90 k16 a0 a2 a3 a4  q8.2
      else
        (f_X10_runsOne a0 q7.1 q8.2).bind fun q10 =>
        f_X10_tries_90 k16 a0 a2 a3 a4  q10.2
  else
    f_X10_tries_90 k16 a0 a2 a3 a4  σ
noncomputable def f_X10_tries_16 (n : Nat) : Nat → Int32 → Int32 → St → Option (St) :=
  Nat.rec (motive := fun _ => Nat → Int32 → Int32 → St → Option (St)) (fun _ _ _ _ => none) (fun _ ih => fun a0 a2 a3 σ =>
  if a2 ≤ a3 then
    some σ
  else
    (f_X10_draws a0 3 σ).bind fun q2 =>
    if q2.1 = 0 then
      (f_X10_whyNoFetch a0 q2.2).bind fun q4 =>
      if q4.1 = 0 then
        (f_X10_fetches a0 q4.2).bind fun q6 =>
        f_X10_tries_45 ih a0 a2 a3 q2.1  q6.2
      else
        f_X10_tries_45 ih a0 a2 a3 q2.1  q4.2
    else
      f_X10_tries_45 ih a0 a2 a3 q2.1  q2.2) n
theorem e_X10_tries_16 (n : Nat) {a0 : Nat} {a2 : Int32} {a3 : Int32} {σ : St} : f_X10_tries_16 (n + 1) a0 a2 a3 σ = (
  if a2 ≤ a3 then
    some σ
  else
    (f_X10_draws a0 3 σ).bind fun q2 =>
    if q2.1 = 0 then
      (f_X10_whyNoFetch a0 q2.2).bind fun q4 =>
      if q4.1 = 0 then
        (f_X10_fetches a0 q4.2).bind fun q6 =>
        f_X10_tries_45 (f_X10_tries_16 n) a0 a2 a3 q2.1  q6.2
      else
        f_X10_tries_45 (f_X10_tries_16 n) a0 a2 a3 q2.1  q4.2
    else
      f_X10_tries_45 (f_X10_tries_16 n) a0 a2 a3 q2.1  q2.2) := rfl
noncomputable def f_X10_tries_0 (a0 : Nat) (a1 : Int32) (a2 : Int32) (σ : St) : Option (St) :=
  (f_X10_works a0 σ).bind fun σ1 =>
  (pI 11 36 a0 a1 σ1).bind fun σ2 =>
  (pI 11 37 a0 0 σ2).bind fun σ3 =>
  f_X10_tries_16 FU a0 a2 0  σ3
noncomputable def f_X10_tries (a0 : Nat) (a1 : Int32) (a2 : Int32) (σ : St) : Option (St) := if hT σ a0 = 11 then f_X10_tries_0 a0 a1 a2 σ else none
noncomputable def f_X10_drawnCommits_18 (a0 : Nat) (a1 : Int32) (a2 : Int32) (s0 : Nat) (s1 : Int32) (σ : St) : Option (Int32 × St) :=
  (f_X10_refusesDraw s0 s1 a1 a2 σ).bind fun q1 =>
  if q1.1 ≤ 0 then
    (f_X10_tries a0 a1 a2 q1.2).bind fun σ3 =>
    (gI 11 37 a0 σ3).bind fun x4 =>
    (f_X10_good a0 x4 σ3).bind fun q5 =>
    some (q5.1, q5.2)
  else
    (f_X10_refused a0 q1.1 q1.2).bind fun q6 =>
    some (q6.1, q6.2)
noncomputable def f_X10_drawnCommits_0 (a0 : Nat) (a1 : Int32) (a2 : Int32) (σ : St) : Option (Int32 × St) :=
  (pI 11 0 a0 0 σ).bind fun σ1 =>
  (gQ 11 3 a0 σ1).bind fun x2 =>
  oc x2 (
    f_X10_drawnCommits_18 a0 a1 a2 a0 0 σ1) (fun _ =>
    f_X10_drawnCommits_18 a0 a1 a2 a0 1 σ1)
noncomputable def f_X10_drawnCommits (a0 : Nat) (a1 : Int32) (a2 : Int32) (σ : St) : Option (Int32 × St) := if hT σ a0 = 11 then f_X10_drawnCommits_0 a0 a1 a2 σ else none
noncomputable def f_X10_isRegister_22 (s0 : Int32) (σ : St) : Option (Int32 × St) :=
  if s0 = 0 ∨ s0 = 1 then some (s0, σ) else none
noncomputable def f_X10_isRegister_21  (σ : St) : Option (Int32 × St) :=
  f_X10_isRegister_22 0 σ
noncomputable def f_X10_isRegister_0 (a0 : Nat) (a1 : Int32) (σ : St) : Option (Int32 × St) :=
  (gQ 11 3 a0 σ).bind fun x1 =>
  oc x1 (
    f_X10_isRegister_21  σ) (fun _ =>
    if a1 < 0 then
      f_X10_isRegister_21  σ
    else
      if 8 ≤ a1 then
        f_X10_isRegister_21  σ
      else
        f_X10_isRegister_22 1 σ)
noncomputable def f_X10_isRegister (a0 : Nat) (a1 : Int32) (σ : St) : Option (Int32 × St) := if hT σ a0 = 11 then f_X10_isRegister_0 a0 a1 σ else none
noncomputable def f_X10_valueOf_27 (s0 : Int32) (σ : St) : Option (Int32 × St) :=
  some (s0, σ)
noncomputable def f_X10_valueOf_0 (a0 : Nat) (a1 : Int32) (σ : St) : Option (Int32 × St) :=
  (f_X10_isLetGo a0 a1 σ).bind fun q1 =>
  if q1.1 = 0 then
    (gR 11 21 a0 q1.2).bind fun x3 =>
    (gR 11 21 a0 q1.2).bind fun x4 =>
    (aI 22 x4 a1 q1.2).bind fun x5 =>
    (aI 22 x3 (9 + x5) q1.2).bind fun x6 =>
    f_X10_valueOf_27 x6 q1.2
  else
    f_X10_valueOf_27 (-2) q1.2
noncomputable def f_X10_valueOf (a0 : Nat) (a1 : Int32) (σ : St) : Option (Int32 × St) := if hT σ a0 = 11 then f_X10_valueOf_0 a0 a1 σ else none
noncomputable def f_X10_drawnValue_0 (a0 : Nat) (a1 : Int32) (a2 : Int32) (a3 : Int32) (σ : St) : Option (Int32 × St) :=
  (pI 11 0 a0 0 σ).bind fun σ1 =>
  (f_X10_isRegister a0 a1 σ1).bind fun q2 =>
  (f_X10_refusesDraw a0 q2.1 a2 a3 q2.2).bind fun q3 =>
  if q3.1 ≤ 0 then
    (f_X10_tries a0 a2 a3 q3.2).bind fun σ5 =>
    (f_X10_valueOf a0 a1 σ5).bind fun q6 =>
    (f_X10_good a0 q6.1 q6.2).bind fun q7 =>
    some (q7.1, q7.2)
  else
    (f_X10_refused a0 q3.1 q3.2).bind fun q8 =>
    some (q8.1, q8.2)
noncomputable def f_X10_drawnValue (a0 : Nat) (a1 : Int32) (a2 : Int32) (a3 : Int32) (σ : St) : Option (Int32 × St) := if hT σ a0 = 11 then f_X10_drawnValue_0 a0 a1 a2 a3 σ else none
noncomputable def f_X10_entries_31 (s0 : Int32) (σ : St) : Option (Int32 × St) :=
  some (s0, σ)
noncomputable def f_X10_entries_0 (a0 : Nat) (σ : St) : Option (Int32 × St) :=
  (pI 11 0 a0 0 σ).bind fun σ1 =>
  (gQ 11 3 a0 σ1).bind fun x2 =>
  oc x2 (
    (f_X10_refused a0 1 σ1).bind fun q4 =>
    f_X10_entries_31 q4.1 q4.2) (fun _ =>
    (gR 11 20 a0 σ1).bind fun x5 =>
    (aI 22 x5 34 σ1).bind fun x6 =>
    (f_X10_good a0 x6 σ1).bind fun q7 =>
    f_X10_entries_31 q7.1 q7.2)
noncomputable def f_X10_entries (a0 : Nat) (σ : St) : Option (Int32 × St) := if hT σ a0 = 11 then f_X10_entries_0 a0 σ else none
noncomputable def f_X10_isEntry_27 (s0 : Int32) (σ : St) : Option (Int32 × St) :=
  if s0 = 0 ∨ s0 = 1 then some (s0, σ) else none
noncomputable def f_X10_isEntry_26  (σ : St) : Option (Int32 × St) :=
  f_X10_isEntry_27 0 σ
noncomputable def f_X10_isEntry_0 (a0 : Nat) (a1 : Int32) (σ : St) : Option (Int32 × St) :=
  (gQ 11 3 a0 σ).bind fun x1 =>
  oc x1 (
    f_X10_isEntry_26  σ) (fun _ =>
    if a1 < 0 then
      f_X10_isEntry_26  σ
    else
      (gR 11 20 a0 σ).bind fun x4 =>
      (aI 22 x4 34 σ).bind fun x5 =>
      if x5 ≤ a1 then
        f_X10_isEntry_26  σ
      else
        f_X10_isEntry_27 1 σ)
noncomputable def f_X10_isEntry (a0 : Nat) (a1 : Int32) (σ : St) : Option (Int32 × St) := if hT σ a0 = 11 then f_X10_isEntry_0 a0 a1 σ else none
noncomputable def f_X10_entry_23 (a0 : Nat) (σ : St) : Option (Int32 × St) :=
  (f_X10_refused a0 1 σ).bind fun q1 =>
  some (q1.1, q1.2)
noncomputable def f_X10_entry_80 (a0 : Nat) (a1 : Int32) (a2 : Int32) (σ : St) : Option (Int32 × St) :=
  (gR 11 21 a0 σ).bind fun x1 =>
  (f_X10_at a0 a1 σ).bind fun q2 =>
  (aI 22 x1 (q2.1 + a2) q2.2).bind fun x3 =>
  (f_X10_good a0 x3 q2.2).bind fun q4 =>
  some (q4.1, q4.2)
noncomputable def f_X10_entry_112 (s0 : Nat) (s1 : Int32) (σ : St) : Option (Int32 × St) :=
  (f_X10_good s0 s1 σ).bind fun q1 =>
  some (q1.1, q1.2)
noncomputable def f_X10_entry_131 (s0 : Nat) (s1 : Int32) (σ : St) : Option (Int32 × St) :=
  (f_X10_good s0 s1 σ).bind fun q1 =>
  some (q1.1, q1.2)
noncomputable def f_X10_entry_150 (s0 : Nat) (s1 : Int32) (σ : St) : Option (Int32 × St) :=
  (f_X10_good s0 s1 σ).bind fun q1 =>
  some (q1.1, q1.2)
noncomputable def f_X10_entry_170 (s0 : Nat) (s1 : Int32) (σ : St) : Option (Int32 × St) :=
  (f_X10_good s0 s1 σ).bind fun q1 =>
  some (q1.1, q1.2)
noncomputable def f_X10_entry_188 (s0 : Nat) (s1 : Int32) (σ : St) : Option (Int32 × St) :=
  (f_X10_good s0 s1 σ).bind fun q1 =>
  some (q1.1, q1.2)
noncomputable def f_X10_entry_0 (a0 : Nat) (a1 : Int32) (a2 : Int32) (σ : St) : Option (Int32 × St) :=
  (pI 11 0 a0 0 σ).bind fun σ1 =>
  (f_X10_isEntry a0 a1 σ1).bind fun q2 =>
  if q2.1 = 0 then
    f_X10_entry_23 a0  q2.2
  else
    (f_X10_in a2 0 8 q2.2).bind fun q4 =>
    if q4.1 = 0 then
      f_X10_entry_23 a0  q4.2
    else
      (f_X10_works a0 q4.2).bind fun σ6 =>
      if a2 = 0 then
        f_X10_entry_80 a0 a1 a2  σ6
      else
        if a2 = 1 then
          f_X10_entry_80 a0 a1 a2  σ6
        else
          if a2 = 2 then
            f_X10_entry_80 a0 a1 a2  σ6
          else
            if a2 = 3 then
              f_X10_entry_80 a0 a1 a2  σ6
            else
              if a2 = 4 then
                (f_X10_has a0 a1 1 σ6).bind fun q15 =>
                if q15.1 = 0 then
                  f_X10_entry_112 a0 0 q15.2
                else
                  f_X10_entry_112 a0 1 q15.2
              else
                if a2 = 5 then
                  (f_X10_has a0 a1 2 σ6).bind fun q17 =>
                  if q17.1 = 0 then
                    f_X10_entry_131 a0 0 q17.2
                  else
                    f_X10_entry_131 a0 1 q17.2
                else
                  if a2 = 6 then
                    (f_X10_has a0 a1 4 σ6).bind fun q19 =>
                    if q19.1 = 0 then
                      f_X10_entry_150 a0 0 q19.2
                    else
                      f_X10_entry_150 a0 1 q19.2
                  else
                    if a2 = 7 then
                      (f_X10_has a0 a1 8 σ6).bind fun q21 =>
                      if q21.1 = 0 then
                        f_X10_entry_170 a0 0 q21.2
                      else
                        f_X10_entry_170 a0 1 q21.2
                    else
                      (f_X10_isSure a0 a1 σ6).bind fun q23 =>
                      if q23.1 = 0 then
                        f_X10_entry_188 a0 0 q23.2
                      else
                        f_X10_entry_188 a0 1 q23.2
noncomputable def f_X10_entry (a0 : Nat) (a1 : Int32) (a2 : Int32) (σ : St) : Option (Int32 × St) := if hT σ a0 = 11 then f_X10_entry_0 a0 a1 a2 σ else none
noncomputable def f_X10_fault_0 (a0 : Nat) (σ : St) : Option (Int32 × St) :=
  (pI 11 0 a0 0 σ).bind fun σ1 =>
  (gI 11 12 a0 σ1).bind fun x2 =>
  some (x2, σ1)
noncomputable def f_X10_fault (a0 : Nat) (σ : St) : Option (Int32 × St) := if hT σ a0 = 11 then f_X10_fault_0 a0 σ else none
noncomputable def f_X10_feed_76 (k23 : Nat → Int32 → Int32 → Int32 → Int32 → Int32 → Int32 → St → Option (Int32 × St)) (a0 : Nat) (a1 : Int32) (a2 : Int32) (a3 : Int32) (a4 : Int32) (a5 : Int32) (a6 : Int32) (s0 : Int32) (σ : St) : Option (Int32 × St) :=
  (gR 11 5 a0 σ).bind fun x1 =>
  (gI 11 6 a0 σ).bind fun x2 =>
  (xB x1 x2 (jb (jshr s0 (24 - (8 * (jrem a6 4))))) σ).bind fun σ3 =>
  (gI 11 6 a0 σ3).bind fun x4 =>
  (pI 11 6 a0 (x4 + 1) σ3).bind fun σ5 =>
  k23 a0 a1 a2 a3 a4 a5 (a6 + 1)  σ5
noncomputable def f_X10_feed_23 (n : Nat) : Nat → Int32 → Int32 → Int32 → Int32 → Int32 → Int32 → St → Option (Int32 × St) :=
  Nat.rec (motive := fun _ => Nat → Int32 → Int32 → Int32 → Int32 → Int32 → Int32 → St → Option (Int32 × St)) (fun _ _ _ _ _ _ _ _ => none) (fun _ ih => fun a0 a1 a2 a3 a4 a5 a6 σ =>
  if 20 ≤ a6 then
    (gI 11 6 a0 σ).bind fun x2 =>
    some (x2, σ)
  else
    if 4 ≤ a6 then
      if 8 ≤ a6 then
        if 12 ≤ a6 then
          if 16 ≤ a6 then
            f_X10_feed_76 ih a0 a1 a2 a3 a4 a5 a6 a5 σ
          else
            f_X10_feed_76 ih a0 a1 a2 a3 a4 a5 a6 a4 σ
        else
          f_X10_feed_76 ih a0 a1 a2 a3 a4 a5 a6 a3 σ
      else
        f_X10_feed_76 ih a0 a1 a2 a3 a4 a5 a6 a2 σ
    else
      f_X10_feed_76 ih a0 a1 a2 a3 a4 a5 a6 a1 σ) n
theorem e_X10_feed_23 (n : Nat) {a0 : Nat} {a1 : Int32} {a2 : Int32} {a3 : Int32} {a4 : Int32} {a5 : Int32} {a6 : Int32} {σ : St} : f_X10_feed_23 (n + 1) a0 a1 a2 a3 a4 a5 a6 σ = (
  if 20 ≤ a6 then
    (gI 11 6 a0 σ).bind fun x2 =>
    some (x2, σ)
  else
    if 4 ≤ a6 then
      if 8 ≤ a6 then
        if 12 ≤ a6 then
          if 16 ≤ a6 then
            f_X10_feed_76 (f_X10_feed_23 n) a0 a1 a2 a3 a4 a5 a6 a5 σ
          else
            f_X10_feed_76 (f_X10_feed_23 n) a0 a1 a2 a3 a4 a5 a6 a4 σ
        else
          f_X10_feed_76 (f_X10_feed_23 n) a0 a1 a2 a3 a4 a5 a6 a3 σ
      else
        f_X10_feed_76 (f_X10_feed_23 n) a0 a1 a2 a3 a4 a5 a6 a2 σ
    else
      f_X10_feed_76 (f_X10_feed_23 n) a0 a1 a2 a3 a4 a5 a6 a1 σ) := rfl
noncomputable def f_X10_feed_0 (a0 : Nat) (a1 : Int32) (a2 : Int32) (a3 : Int32) (a4 : Int32) (a5 : Int32) (σ : St) : Option (Int32 × St) :=
  (pI 11 0 a0 0 σ).bind fun σ1 =>
  (gI 11 6 a0 σ1).bind fun x2 =>
  if (x2 + 20) ≤ 900 then
    f_X10_feed_23 FU a0 a1 a2 a3 a4 a5 0  σ1
  else
    some ((-1), σ1)
noncomputable def f_X10_feed (a0 : Nat) (a1 : Int32) (a2 : Int32) (a3 : Int32) (a4 : Int32) (a5 : Int32) (σ : St) : Option (Int32 × St) := if hT σ a0 = 11 then f_X10_feed_0 a0 a1 a2 a3 a4 a5 σ else none
noncomputable def f_X10_fetch_52 (s0 : Nat) (s1 : Int32) (σ : St) : Option (Int32 × St) :=
  (f_X10_refused s0 s1 σ).bind fun q1 =>
  some (q1.1, q1.2)
noncomputable def f_X10_fetch_0 (a0 : Nat) (σ : St) : Option (Int32 × St) :=
  (pI 11 0 a0 0 σ).bind fun σ1 =>
  (gQ 11 3 a0 σ1).bind fun x2 =>
  oc x2 (
    (f_X10_refused a0 1 σ1).bind fun q4 =>
    some (q4.1, q4.2)) (fun _ =>
    (f_X10_works a0 σ1).bind fun σ5 =>
    (f_X10_whyNoFetch a0 σ5).bind fun q6 =>
    if q6.1 ≤ 0 then
      (f_X10_remembers a0 q6.2).bind fun σ8 =>
      (f_X10_fetches a0 σ8).bind fun q9 =>
      (f_X10_done a0 q9.1 q9.2).bind fun q10 =>
      some (q10.1, q10.2)
    else
      if q6.1 = 1 then
        f_X10_fetch_52 a0 5 q6.2
      else
        if q6.1 = 2 then
          f_X10_fetch_52 a0 6 q6.2
        else
          f_X10_fetch_52 a0 3 q6.2)
noncomputable def f_X10_fetch (a0 : Nat) (σ : St) : Option (Int32 × St) := if hT σ a0 = 11 then f_X10_fetch_0 a0 σ else none
noncomputable def f_X10_fetchable_0 (a0 : Nat) (σ : St) : Option (Int32 × St) :=
  (pI 11 0 a0 0 σ).bind fun σ1 =>
  (gQ 11 3 a0 σ1).bind fun x2 =>
  oc x2 (
    (f_X10_refused a0 1 σ1).bind fun q4 =>
    some (q4.1, q4.2)) (fun _ =>
    (f_X10_works a0 σ1).bind fun σ5 =>
    (f_X10_whyNoFetch a0 σ5).bind fun q6 =>
    (f_X10_good a0 q6.1 q6.2).bind fun q7 =>
    some (q7.1, q7.2))
noncomputable def f_X10_fetchable (a0 : Nat) (σ : St) : Option (Int32 × St) := if hT σ a0 = 11 then f_X10_fetchable_0 a0 σ else none
noncomputable def f_X10_fitAt_16 (a0 : Nat) (σ : St) : Option (Int32 × St) :=
  (f_X10_refused a0 1 σ).bind fun q1 =>
  some (q1.1, q1.2)
noncomputable def f_X10_fitAt_46 (s0 : Int32) (σ : St) : Option (Int32 × St) :=
  some (s0, σ)
noncomputable def f_X10_fitAt_0 (a0 : Nat) (a1 : Int32) (σ : St) : Option (Int32 × St) :=
  (pI 11 0 a0 0 σ).bind fun σ1 =>
  (gQ 11 3 a0 σ1).bind fun x2 =>
  oc x2 (
    f_X10_fitAt_16 a0  σ1) (fun _ =>
    if 0 ≤ a1 then
      (f_X10_fitting a0 a1 σ1).bind fun q5 =>
      if q5.1 = (-1) then
        (f_X10_refused a0 1 q5.2).bind fun q8 =>
        f_X10_fitAt_46 q8.1 q8.2
      else
        (f_X10_good a0 q5.1 q5.2).bind fun q7 =>
        f_X10_fitAt_46 q7.1 q7.2
    else
      f_X10_fitAt_16 a0  σ1)
noncomputable def f_X10_fitAt (a0 : Nat) (a1 : Int32) (σ : St) : Option (Int32 × St) := if hT σ a0 = 11 then f_X10_fitAt_0 a0 a1 σ else none
noncomputable def f_X10_fits_0 (a0 : Nat) (σ : St) : Option (Int32 × St) :=
  (pI 11 0 a0 0 σ).bind fun σ1 =>
  (gQ 11 3 a0 σ1).bind fun x2 =>
  oc x2 (
    (f_X10_refused a0 1 σ1).bind fun q4 =>
    some (q4.1, q4.2)) (fun _ =>
    (f_X10_fitting a0 (-1) σ1).bind fun q5 =>
    (gI 11 31 a0 q5.2).bind fun x6 =>
    (f_X10_good a0 x6 q5.2).bind fun q7 =>
    some (q7.1, q7.2))
noncomputable def f_X10_fits (a0 : Nat) (σ : St) : Option (Int32 × St) := if hT σ a0 = 11 then f_X10_fits_0 a0 σ else none
noncomputable def f_X10_fraction_16 (a1 : Int64) (a3 : Int64) (s0 : Int64) (σ : St) : Option (Int64 × St) :=
  (f_X10_common a1 a3 σ).bind fun q1 =>
  if q1.1 = 0 then none else
  some (s0 / q1.1, q1.2)
noncomputable def f_X10_fraction_0 (a0 : Nat) (a1 : Int64) (a3 : Int64) (a5 : Int32) (σ : St) : Option (Int64 × St) :=
  (f_X10_good a0 0 σ).bind fun q1 =>
  if a5 = 0 then
    f_X10_fraction_16 a1 a3 a1 q1.2
  else
    f_X10_fraction_16 a1 a3 a3 q1.2
noncomputable def f_X10_fraction (a0 : Nat) (a1 : Int64) (a3 : Int64) (a5 : Int32) (σ : St) : Option (Int64 × St) := if hT σ a0 = 11 then f_X10_fraction_0 a0 a1 a3 a5 σ else none
noncomputable def f_X10_free_0 (a0 : Nat) (σ : St) : Option (Int32 × St) :=
  (pI 11 0 a0 0 σ).bind fun σ1 =>
  (gQ 11 3 a0 σ1).bind fun x2 =>
  oc x2 (
    (f_X10_refused a0 1 σ1).bind fun q4 =>
    some (q4.1, q4.2)) (fun _ =>
    (f_X10_works a0 σ1).bind fun σ5 =>
    (f_X10_freeNow a0 σ5).bind fun q6 =>
    (f_X10_good a0 q6.1 q6.2).bind fun q7 =>
    some (q7.1, q7.2))
noncomputable def f_X10_free (a0 : Nat) (σ : St) : Option (Int32 × St) := if hT σ a0 = 11 then f_X10_free_0 a0 σ else none
noncomputable def f_X10_gives_0 (a0 : Nat) (a1 : Int32) (σ : St) : Option (Int32 × St) :=
  (pI 11 0 a0 0 σ).bind fun σ1 =>
  (f_X10_isEntry a0 a1 σ1).bind fun q2 =>
  if q2.1 = 0 then
    (f_X10_refused a0 1 q2.2).bind fun q12 =>
    some (q12.1, q12.2)
  else
    (f_X10_works a0 q2.2).bind fun σ4 =>
    (f_X10_freeNow a0 σ4).bind fun q5 =>
    (f_X10_bits q5.1 q5.2).bind fun q6 =>
    (gR 11 21 a0 q6.2).bind fun x7 =>
    (xI x7 34 (a1 + 1) q6.2).bind fun σ8 =>
    (f_X10_freeNow a0 σ8).bind fun q9 =>
    (f_X10_bits q9.1 q9.2).bind fun q10 =>
    (f_X10_good a0 (q10.1 - q6.1) q10.2).bind fun q11 =>
    some (q11.1, q11.2)
noncomputable def f_X10_gives (a0 : Nat) (a1 : Int32) (σ : St) : Option (Int32 × St) := if hT σ a0 = 11 then f_X10_gives_0 a0 a1 σ else none
noncomputable def f_X10_image_34 (n : Nat) : Nat → Int32 → St → Option (Int32 × St) :=
  Nat.rec (motive := fun _ => Nat → Int32 → St → Option (Int32 × St)) (fun _ _ _ => none) (fun _ ih => fun a0 a1 σ =>
  if 195 ≤ a1 then
    (gI 11 25 a0 σ).bind fun x2 =>
    (pI 11 25 a0 (x2 + 1) σ).bind fun σ3 =>
    (gI 11 25 a0 σ3).bind fun x4 =>
    (f_X10_good a0 (x4 - 1) σ3).bind fun q5 =>
    some (q5.1, q5.2)
  else
    (gR 11 23 a0 σ).bind fun x6 =>
    (gI 11 25 a0 σ).bind fun x7 =>
    (gR 11 20 a0 σ).bind fun x8 =>
    (aI 22 x8 a1 σ).bind fun x9 =>
    (xI x6 ((195 * x7) + a1) x9 σ).bind fun σ10 =>
    ih a0 (a1 + 1)  σ10) n
theorem e_X10_image_34 (n : Nat) {a0 : Nat} {a1 : Int32} {σ : St} : f_X10_image_34 (n + 1) a0 a1 σ = (
  if 195 ≤ a1 then
    (gI 11 25 a0 σ).bind fun x2 =>
    (pI 11 25 a0 (x2 + 1) σ).bind fun σ3 =>
    (gI 11 25 a0 σ3).bind fun x4 =>
    (f_X10_good a0 (x4 - 1) σ3).bind fun q5 =>
    some (q5.1, q5.2)
  else
    (gR 11 23 a0 σ).bind fun x6 =>
    (gI 11 25 a0 σ).bind fun x7 =>
    (gR 11 20 a0 σ).bind fun x8 =>
    (aI 22 x8 a1 σ).bind fun x9 =>
    (xI x6 ((195 * x7) + a1) x9 σ).bind fun σ10 =>
    (f_X10_image_34 n) a0 (a1 + 1)  σ10) := rfl
noncomputable def f_X10_image_0 (a0 : Nat) (σ : St) : Option (Int32 × St) :=
  (pI 11 0 a0 0 σ).bind fun σ1 =>
  (gQ 11 3 a0 σ1).bind fun x2 =>
  oc x2 (
    (f_X10_refused a0 1 σ1).bind fun q4 =>
    some (q4.1, q4.2)) (fun _ =>
    (gI 11 25 a0 σ1).bind fun x5 =>
    if x5 = 3 then
      (f_X10_refused a0 3 σ1).bind fun q7 =>
      some (q7.1, q7.2)
    else
      f_X10_image_34 FU a0 0  σ1)
noncomputable def f_X10_image (a0 : Nat) (σ : St) : Option (Int32 × St) := if hT σ a0 = 11 then f_X10_image_0 a0 σ else none
noncomputable def f_X10_init_0 (a0 : Nat) (σ : St) : Option (St) :=
  (pI 11 2 a0 (-1) σ).bind fun σ1 =>
  bnd (nw σ1 21 900) fun σ2 =>
  (pP 11 5 a0 (hZ σ1) σ2).bind fun σ3 =>
  bnd (nw σ3 22 8) fun σ4 =>
  (pP 11 15 a0 (hZ σ3) σ4).bind fun σ5 =>
  bnd (nw σ5 22 195) fun σ6 =>
  (pP 11 20 a0 (hZ σ5) σ6).bind fun σ7 =>
  bnd (nw σ7 22 195) fun σ8 =>
  (pP 11 21 a0 (hZ σ7) σ8).bind fun σ9 =>
  bnd (nw σ9 22 3120) fun σ10 =>
  (pP 11 22 a0 (hZ σ9) σ10).bind fun σ11 =>
  bnd (nw σ11 22 585) fun σ12 =>
  (pP 11 23 a0 (hZ σ11) σ12).bind fun σ13 =>
  bnd (nw σ13 22 4) fun σ14 =>
  (pP 11 34 a0 (hZ σ13) σ14).bind fun σ15 =>
  some σ15
noncomputable def f_X10_init (a0 : Nat) (σ : St) : Option (St) := if hT σ a0 = 11 then f_X10_init_0 a0 σ else none
noncomputable def f_X10_judge_29 (s0 : Int32) (σ : St) : Option (Int32 × St) :=
  some (s0, σ)
noncomputable def f_X10_judge_0 (a0 : Nat) (σ : St) : Option (Int32 × St) :=
  (pI 11 0 a0 0 σ).bind fun σ1 =>
  (gQ 11 3 a0 σ1).bind fun x2 =>
  oc x2 (
    (f_X10_refused a0 1 σ1).bind fun q4 =>
    f_X10_judge_29 q4.1 q4.2) (fun _ =>
    (f_X10_wrongGot a0 0 σ1).bind fun q5 =>
    (f_X10_good a0 q5.1 q5.2).bind fun q6 =>
    f_X10_judge_29 q6.1 q6.2)
noncomputable def f_X10_judge (a0 : Nat) (σ : St) : Option (Int32 × St) := if hT σ a0 = 11 then f_X10_judge_0 a0 σ else none
noncomputable def f_X10_kept_31 (s0 : Int32) (σ : St) : Option (Int32 × St) :=
  some (s0, σ)
noncomputable def f_X10_kept_0 (a0 : Nat) (a1 : Int32) (σ : St) : Option (Int32 × St) :=
  (pI 11 0 a0 0 σ).bind fun σ1 =>
  (f_X10_isRegister a0 a1 σ1).bind fun q2 =>
  if q2.1 = 0 then
    (f_X10_refused a0 1 q2.2).bind fun q4 =>
    f_X10_kept_31 q4.1 q4.2
  else
    (gR 11 20 a0 q2.2).bind fun x5 =>
    (aI 22 x5 a1 q2.2).bind fun x6 =>
    (f_X10_good a0 x6 q2.2).bind fun q7 =>
    f_X10_kept_31 q7.1 q7.2
noncomputable def f_X10_kept (a0 : Nat) (a1 : Int32) (σ : St) : Option (Int32 × St) := if hT σ a0 = 11 then f_X10_kept_0 a0 a1 σ else none
noncomputable def f_X10_led_66 (a0 : Nat) (σ : St) : Option (Int32 × St) :=
  (pI 11 0 a0 1 σ).bind fun σ1 =>
  some (0, σ1)
noncomputable def f_X10_led_60 (k20 : Nat → Int32 → Int32 → Int32 → St → Option (Int32 × St)) (a0 : Nat) (a1 : Int32) (a2 : Int32) (a3 : Int32) (σ : St) : Option (Int32 × St) :=
  k20 a0 a1 a2 (a3 + 1)  σ
noncomputable def f_X10_led_20 (n : Nat) : Nat → Int32 → Int32 → Int32 → St → Option (Int32 × St) :=
  Nat.rec (motive := fun _ => Nat → Int32 → Int32 → Int32 → St → Option (Int32 × St)) (fun _ _ _ _ _ => none) (fun _ ih => fun a0 a1 a2 a3 σ =>
  (gQ 11 3 a0 σ).bind fun x1 =>
  oc x1 (
    f_X10_led_66 a0  σ) (fun _ =>
    (gR 11 21 a0 σ).bind fun x3 =>
    (aI 22 x3 34 σ).bind fun x4 =>
    if x4 ≤ a3 then
      f_X10_led_66 a0  σ
    else
      (f_X10_has a0 a3 1 σ).bind fun q6 =>
      if q6.1 = 0 then
        f_X10_led_60 ih a0 a1 a2 a3  q6.2
      else
        if a2 = a1 then
          some (a3, q6.2)
        else
          f_X10_led_60 ih a0 a1 (a2 + 1) a3  q6.2)) n
theorem e_X10_led_20 (n : Nat) {a0 : Nat} {a1 : Int32} {a2 : Int32} {a3 : Int32} {σ : St} : f_X10_led_20 (n + 1) a0 a1 a2 a3 σ = (
  (gQ 11 3 a0 σ).bind fun x1 =>
  oc x1 (
    f_X10_led_66 a0  σ) (fun _ =>
    (gR 11 21 a0 σ).bind fun x3 =>
    (aI 22 x3 34 σ).bind fun x4 =>
    if x4 ≤ a3 then
      f_X10_led_66 a0  σ
    else
      (f_X10_has a0 a3 1 σ).bind fun q6 =>
      if q6.1 = 0 then
        f_X10_led_60 (f_X10_led_20 n) a0 a1 a2 a3  q6.2
      else
        if a2 = a1 then
          some (a3, q6.2)
        else
          f_X10_led_60 (f_X10_led_20 n) a0 a1 (a2 + 1) a3  q6.2)) := rfl
noncomputable def f_X10_led_18 (a0 : Nat) (a1 : Int32) (a2 : Int32) (σ : St) : Option (Int32 × St) :=
  f_X10_led_20 FU a0 a1 a2 0  σ
noncomputable def f_X10_led_0 (a0 : Nat) (a1 : Int32) (σ : St) : Option (Int32 × St) :=
  (pI 11 0 a0 0 σ).bind fun σ1 =>
  (gQ 11 3 a0 σ1).bind fun x2 =>
  oc x2 (
    f_X10_led_18 a0 a1 0  σ1) (fun _ =>
    (f_X10_works a0 σ1).bind fun σ4 =>
    f_X10_led_18 a0 a1 0  σ4)
noncomputable def f_X10_led (a0 : Nat) (a1 : Int32) (σ : St) : Option (Int32 × St) := if hT σ a0 = 11 then f_X10_led_0 a0 a1 σ else none
noncomputable def f_X10_letGo_0 (a0 : Nat) (σ : St) : Option (Int32 × St) :=
  (pI 11 0 a0 0 σ).bind fun σ1 =>
  (gQ 11 3 a0 σ1).bind fun x2 =>
  oc x2 (
    (f_X10_refused a0 1 σ1).bind fun q4 =>
    some (q4.1, q4.2)) (fun _ =>
    (f_X10_works a0 σ1).bind fun σ5 =>
    (f_X10_letGoNow a0 σ5).bind fun q6 =>
    (f_X10_good a0 q6.1 q6.2).bind fun q7 =>
    some (q7.1, q7.2))
noncomputable def f_X10_letGo (a0 : Nat) (σ : St) : Option (Int32 × St) := if hT σ a0 = 11 then f_X10_letGo_0 a0 σ else none
noncomputable def f_X10_mapped_0 (a0 : Nat) (a1 : Int32) (σ : St) : Option (Int32 × St) :=
  (pI 11 0 a0 0 σ).bind fun σ1 =>
  (f_X10_isRegister a0 a1 σ1).bind fun q2 =>
  if q2.1 = 0 then
    (f_X10_refused a0 1 q2.2).bind fun q9 =>
    some (q9.1, q9.2)
  else
    (f_X10_works a0 q2.2).bind fun σ4 =>
    (gR 11 21 a0 σ4).bind fun x5 =>
    (aI 22 x5 34 σ4).bind fun x6 =>
    (f_X10_mapOf a0 a1 (x6 - 1) σ4).bind fun q7 =>
    (f_X10_good a0 q7.1 q7.2).bind fun q8 =>
    some (q8.1, q8.2)
noncomputable def f_X10_mapped (a0 : Nat) (a1 : Int32) (σ : St) : Option (Int32 × St) := if hT σ a0 = 11 then f_X10_mapped_0 a0 a1 σ else none
noncomputable def f_X10_misses_0 (a0 : Nat) (a1 : Int32) (σ : St) : Option (Int32 × St) :=
  (pI 11 0 a0 0 σ).bind fun σ1 =>
  (f_X10_refusesCells a0 a1 σ1).bind fun q2 =>
  if q2.1 ≤ 0 then
    (f_X10_goes a0 a1 q2.2).bind fun σ4 =>
    (gI 11 29 a0 σ4).bind fun x5 =>
    (f_X10_good a0 x5 σ4).bind fun q6 =>
    some (q6.1, q6.2)
  else
    (f_X10_refused a0 q2.1 q2.2).bind fun q7 =>
    some (q7.1, q7.2)
noncomputable def f_X10_misses (a0 : Nat) (a1 : Int32) (σ : St) : Option (Int32 × St) := if hT σ a0 = 11 then f_X10_misses_0 a0 a1 σ else none
noncomputable def f_X10_nextStep_31 (s0 : Int32) (σ : St) : Option (Int32 × St) :=
  some (s0, σ)
noncomputable def f_X10_nextStep_0 (a0 : Nat) (σ : St) : Option (Int32 × St) :=
  (pI 11 0 a0 0 σ).bind fun σ1 =>
  (gQ 11 3 a0 σ1).bind fun x2 =>
  oc x2 (
    (f_X10_refused a0 1 σ1).bind fun q4 =>
    f_X10_nextStep_31 q4.1 q4.2) (fun _ =>
    (gR 11 20 a0 σ1).bind fun x5 =>
    (aI 22 x5 35 σ1).bind fun x6 =>
    (f_X10_good a0 x6 σ1).bind fun q7 =>
    f_X10_nextStep_31 q7.1 q7.2)
noncomputable def f_X10_nextStep (a0 : Nat) (σ : St) : Option (Int32 × St) := if hT σ a0 = 11 then f_X10_nextStep_0 a0 σ else none
noncomputable def f_X10_plainAt_22 (a0 : Nat) (σ : St) : Option (Int32 × St) :=
  (f_X10_refused a0 1 σ).bind fun q1 =>
  some (q1.1, q1.2)
noncomputable def f_X10_plainAt_54 (s0 : Int32) (σ : St) : Option (Int32 × St) :=
  some (s0, σ)
noncomputable def f_X10_plainAt_0 (a0 : Nat) (a1 : Int32) (a2 : Int32) (σ : St) : Option (Int32 × St) :=
  (pI 11 0 a0 0 σ).bind fun σ1 =>
  (gQ 11 3 a0 σ1).bind fun x2 =>
  oc x2 (
    f_X10_plainAt_22 a0  σ1) (fun _ =>
    (f_X10_in a1 0 7 σ1).bind fun q4 =>
    if q4.1 = 0 then
      f_X10_plainAt_22 a0  q4.2
    else
      (f_X10_plainlyDone a0 a2 q4.2).bind fun q6 =>
      if q6.1 = 0 then
        (f_X10_refused a0 2 q6.2).bind fun q8 =>
        f_X10_plainAt_54 q8.1 q8.2
      else
        (gR 11 15 a0 q6.2).bind fun x9 =>
        (aI 22 x9 a1 q6.2).bind fun x10 =>
        (f_X10_good a0 x10 q6.2).bind fun q11 =>
        f_X10_plainAt_54 q11.1 q11.2)
noncomputable def f_X10_plainAt (a0 : Nat) (a1 : Int32) (a2 : Int32) (σ : St) : Option (Int32 × St) := if hT σ a0 = 11 then f_X10_plainAt_0 a0 a1 a2 σ else none
noncomputable def f_X10_plainEnd_0 (a0 : Nat) (σ : St) : Option (Int32 × St) :=
  (pI 11 0 a0 0 σ).bind fun σ1 =>
  (gQ 11 3 a0 σ1).bind fun x2 =>
  oc x2 (
    (f_X10_refused a0 1 σ1).bind fun q4 =>
    some (q4.1, q4.2)) (fun _ =>
    (f_X10_plainly a0 0 200 σ1).bind fun σ5 =>
    (gI 11 18 a0 σ5).bind fun x6 =>
    (f_X10_good a0 x6 σ5).bind fun q7 =>
    some (q7.1, q7.2))
noncomputable def f_X10_plainEnd (a0 : Nat) (σ : St) : Option (Int32 × St) := if hT σ a0 = 11 then f_X10_plainEnd_0 a0 σ else none
noncomputable def f_X10_plainMisses_0 (a0 : Nat) (σ : St) : Option (Int32 × St) :=
  (pI 11 0 a0 0 σ).bind fun σ1 =>
  (gQ 11 3 a0 σ1).bind fun x2 =>
  oc x2 (
    (f_X10_refused a0 1 σ1).bind fun q4 =>
    some (q4.1, q4.2)) (fun _ =>
    (f_X10_plainly a0 0 200 σ1).bind fun σ5 =>
    (gI 11 19 a0 σ5).bind fun x6 =>
    (f_X10_good a0 x6 σ5).bind fun q7 =>
    some (q7.1, q7.2))
noncomputable def f_X10_plainMisses (a0 : Nat) (σ : St) : Option (Int32 × St) := if hT σ a0 = 11 then f_X10_plainMisses_0 a0 σ else none
noncomputable def f_X10_plainStep_42 (s0 : Int32) (σ : St) : Option (Int32 × St) :=
  some (s0, σ)
noncomputable def f_X10_plainStep_0 (a0 : Nat) (a1 : Int32) (σ : St) : Option (Int32 × St) :=
  (pI 11 0 a0 0 σ).bind fun σ1 =>
  (gQ 11 3 a0 σ1).bind fun x2 =>
  oc x2 (
    (f_X10_refused a0 1 σ1).bind fun q4 =>
    some (q4.1, q4.2)) (fun _ =>
    (f_X10_plainlyDone a0 a1 σ1).bind fun q5 =>
    if q5.1 = 0 then
      (f_X10_refused a0 2 q5.2).bind fun q7 =>
      f_X10_plainStep_42 q7.1 q7.2
    else
      (gI 11 16 a0 q5.2).bind fun x8 =>
      (f_X10_good a0 x8 q5.2).bind fun q9 =>
      f_X10_plainStep_42 q9.1 q9.2)
noncomputable def f_X10_plainStep (a0 : Nat) (a1 : Int32) (σ : St) : Option (Int32 × St) := if hT σ a0 = 11 then f_X10_plainStep_0 a0 a1 σ else none
noncomputable def f_X10_plainSteps_0 (a0 : Nat) (σ : St) : Option (Int32 × St) :=
  (pI 11 0 a0 0 σ).bind fun σ1 =>
  (gQ 11 3 a0 σ1).bind fun x2 =>
  oc x2 (
    (f_X10_refused a0 1 σ1).bind fun q4 =>
    some (q4.1, q4.2)) (fun _ =>
    (f_X10_plainly a0 0 200 σ1).bind fun σ5 =>
    (gI 11 17 a0 σ5).bind fun x6 =>
    (f_X10_good a0 x6 σ5).bind fun q7 =>
    some (q7.1, q7.2))
noncomputable def f_X10_plainSteps (a0 : Nat) (σ : St) : Option (Int32 × St) := if hT σ a0 = 11 then f_X10_plainSteps_0 a0 σ else none
noncomputable def f_X10_rate_52 (a2 : Int32) (s0 : Nat) (s1 : Int64) (s2 : Int64) (σ : St) : Option (Int64 × St) :=
  (f_X10_fraction s0 s1 s2 a2 σ).bind fun q1 =>
  some (q1.1, q1.2)
noncomputable def f_X10_rate_0 (a0 : Nat) (a1 : Int32) (a2 : Int32) (σ : St) : Option (Int64 × St) :=
  (pI 11 0 a0 0 σ).bind fun σ1 =>
  (f_X10_refusesCells a0 a1 σ1).bind fun q2 =>
  if q2.1 ≤ 0 then
    (f_X10_goes a0 a1 q2.2).bind fun σ4 =>
    (gR 11 21 a0 σ4).bind fun x5 =>
    (aI 22 x5 37 σ4).bind fun x6 =>
    (gI 11 28 a0 σ4).bind fun x7 =>
    if x7 = 0 then
      f_X10_rate_52 a2 a0 x6.toInt64 1 σ4
    else
      (gI 11 28 a0 σ4).bind fun x9 =>
      f_X10_rate_52 a2 a0 x6.toInt64 x9.toInt64 σ4
  else
    (f_X10_refused a0 q2.1 q2.2).bind fun q10 =>
    some (q10.1.toInt64, q10.2)
noncomputable def f_X10_rate (a0 : Nat) (a1 : Int32) (a2 : Int32) (σ : St) : Option (Int64 × St) := if hT σ a0 = 11 then f_X10_rate_0 a0 a1 a2 σ else none
noncomputable def f_X10_ready_31 (s0 : Int32) (σ : St) : Option (Int32 × St) :=
  some (s0, σ)
noncomputable def f_X10_ready_0 (a0 : Nat) (σ : St) : Option (Int32 × St) :=
  (pI 11 0 a0 0 σ).bind fun σ1 =>
  (gQ 11 3 a0 σ1).bind fun x2 =>
  oc x2 (
    (f_X10_refused a0 1 σ1).bind fun q4 =>
    f_X10_ready_31 q4.1 q4.2) (fun _ =>
    (gR 11 20 a0 σ1).bind fun x5 =>
    (aI 22 x5 33 σ1).bind fun x6 =>
    (f_X10_good a0 x6 σ1).bind fun q7 =>
    f_X10_ready_31 q7.1 q7.2)
noncomputable def f_X10_ready (a0 : Nat) (σ : St) : Option (Int32 × St) := if hT σ a0 = 11 then f_X10_ready_0 a0 σ else none
noncomputable def f_X10_resume_0 (a0 : Nat) (a1 : Int32) (σ : St) : Option (Int32 × St) :=
  (pI 11 0 a0 0 σ).bind fun σ1 =>
  (gQ 11 3 a0 σ1).bind fun x2 =>
  oc x2 (
    (f_X10_denied a0 1 σ1).bind fun q4 =>
    if q4.1 = 0 ∨ q4.1 = 1 then some (q4.1, q4.2) else none) (fun _ =>
    (f_X10_in a1 0 24 σ1).bind fun q5 =>
    if q5.1 = 0 then
      (f_X10_denied a0 2 q5.2).bind fun q19 =>
      if q19.1 = 0 ∨ q19.1 = 1 then some (q19.1, q19.2) else none
    else
      (gR 11 20 a0 q5.2).bind fun x7 =>
      (aI 22 x7 36 q5.2).bind fun x8 =>
      if x8 = 0 then
        (f_X10_denied a0 5 q5.2).bind fun q18 =>
        if q18.1 = 0 ∨ q18.1 = 1 then some (q18.1, q18.2) else none
      else
        (f_X10_remembers a0 q5.2).bind fun σ10 =>
        (gR 11 20 a0 σ10).bind fun x11 =>
        (xI x11 36 0 σ10).bind fun σ12 =>
        (gR 11 20 a0 σ12).bind fun x13 =>
        (xI x13 38 1 σ12).bind fun σ14 =>
        (gR 11 20 a0 σ14).bind fun x15 =>
        (xI x15 35 a1 σ14).bind fun σ16 =>
        (f_X10_granted a0 σ16).bind fun q17 =>
        if q17.1 = 0 ∨ q17.1 = 1 then some (q17.1, q17.2) else none)
noncomputable def f_X10_resume (a0 : Nat) (a1 : Int32) (σ : St) : Option (Int32 × St) := if hT σ a0 = 11 then f_X10_resume_0 a0 a1 σ else none
noncomputable def f_X10_run_0 (a0 : Nat) (a1 : Int32) (σ : St) : Option (Int32 × St) :=
  (pI 11 0 a0 0 σ).bind fun σ1 =>
  (f_X10_isEntry a0 a1 σ1).bind fun q2 =>
  if q2.1 = 0 then
    (f_X10_refused a0 1 q2.2).bind fun q11 =>
    some (q11.1, q11.2)
  else
    (f_X10_works a0 q2.2).bind fun σ4 =>
    (f_X10_isRunnable a0 a1 σ4).bind fun q5 =>
    if q5.1 = 0 then
      (f_X10_refused a0 5 q5.2).bind fun q10 =>
      some (q10.1, q10.2)
    else
      (f_X10_remembers a0 q5.2).bind fun σ7 =>
      (f_X10_runsOne a0 a1 σ7).bind fun q8 =>
      (f_X10_done a0 q8.1 q8.2).bind fun q9 =>
      some (q9.1, q9.2)
noncomputable def f_X10_run (a0 : Nat) (a1 : Int32) (σ : St) : Option (Int32 × St) := if hT σ a0 = 11 then f_X10_run_0 a0 a1 σ else none
noncomputable def f_X10_runnable_53 (k26 : Nat → Int32 → Int32 → St → Option (Int32 × St)) (a0 : Nat) (a2 : Int32) (s0 : Int32) (s1 : Int32) (σ : St) : Option (Int32 × St) :=
  bnd (s0 ||| s1) fun x1 =>
  k26 a0 x1 (a2 + 1)  σ
noncomputable def f_X10_runnable_26 (n : Nat) : Nat → Int32 → Int32 → St → Option (Int32 × St) :=
  Nat.rec (motive := fun _ => Nat → Int32 → Int32 → St → Option (Int32 × St)) (fun _ _ _ _ => none) (fun _ ih => fun a0 a1 a2 σ =>
  (gR 11 21 a0 σ).bind fun x1 =>
  (aI 22 x1 34 σ).bind fun x2 =>
  if x2 ≤ a2 then
    (f_X10_good a0 a1 σ).bind fun q4 =>
    some (q4.1, q4.2)
  else
    (f_X10_isRunnable a0 a2 σ).bind fun q5 =>
    if q5.1 = 0 then
      f_X10_runnable_53 ih a0 a2 a1 0 q5.2
    else
      f_X10_runnable_53 ih a0 a2 a1 (jshl 1 a2) q5.2) n
theorem e_X10_runnable_26 (n : Nat) {a0 : Nat} {a1 : Int32} {a2 : Int32} {σ : St} : f_X10_runnable_26 (n + 1) a0 a1 a2 σ = (
  (gR 11 21 a0 σ).bind fun x1 =>
  (aI 22 x1 34 σ).bind fun x2 =>
  if x2 ≤ a2 then
    (f_X10_good a0 a1 σ).bind fun q4 =>
    some (q4.1, q4.2)
  else
    (f_X10_isRunnable a0 a2 σ).bind fun q5 =>
    if q5.1 = 0 then
      f_X10_runnable_53 (f_X10_runnable_26 n) a0 a2 a1 0 q5.2
    else
      f_X10_runnable_53 (f_X10_runnable_26 n) a0 a2 a1 (jshl 1 a2) q5.2) := rfl
noncomputable def f_X10_runnable_0 (a0 : Nat) (σ : St) : Option (Int32 × St) :=
  (pI 11 0 a0 0 σ).bind fun σ1 =>
  (gQ 11 3 a0 σ1).bind fun x2 =>
  oc x2 (
    (f_X10_refused a0 1 σ1).bind fun q4 =>
    some (q4.1, q4.2)) (fun _ =>
    (f_X10_works a0 σ1).bind fun σ5 =>
    f_X10_runnable_26 FU a0 0 0  σ5)
noncomputable def f_X10_runnable (a0 : Nat) (σ : St) : Option (Int32 × St) := if hT σ a0 = 11 then f_X10_runnable_0 a0 σ else none
noncomputable def f_X10_saved_21 (a0 : Nat) (σ : St) : Option (Int32 × St) :=
  (f_X10_refused a0 1 σ).bind fun q1 =>
  some (q1.1, q1.2)
noncomputable def f_X10_saved_61 (s0 : Nat) (s1 : Int32) (σ : St) : Option (Int32 × St) :=
  (f_X10_good s0 s1 σ).bind fun q1 =>
  some (q1.1, q1.2)
noncomputable def f_X10_saved_0 (a0 : Nat) (a1 : Int32) (a2 : Int32) (σ : St) : Option (Int32 × St) :=
  (pI 11 0 a0 0 σ).bind fun σ1 =>
  (f_X10_isEntry a0 a1 σ1).bind fun q2 =>
  if q2.1 = 0 then
    f_X10_saved_21 a0  q2.2
  else
    (f_X10_isRegister a0 a2 q2.2).bind fun q4 =>
    if q4.1 = 0 then
      f_X10_saved_21 a0  q4.2
    else
      (f_X10_works a0 q4.2).bind fun σ6 =>
      (f_X10_has a0 a1 8 σ6).bind fun q7 =>
      if q7.1 = 0 then
        f_X10_saved_61 a0 (-2) q7.2
      else
        (gR 11 21 a0 q7.2).bind fun x9 =>
        (f_X10_at a0 a1 q7.2).bind fun q10 =>
        (aI 22 x9 ((q10.1 + 5) + a2) q10.2).bind fun x11 =>
        f_X10_saved_61 a0 x11 q10.2
noncomputable def f_X10_saved (a0 : Nat) (a1 : Int32) (a2 : Int32) (σ : St) : Option (Int32 × St) := if hT σ a0 = 11 then f_X10_saved_0 a0 a1 a2 σ else none
noncomputable def f_X10_savesThere_0 (a0 : Nat) (σ : St) : Option (Int32 × St) :=
  (f_X10_works a0 σ).bind fun σ1 =>
  (f_X10_savesNow a0 σ1).bind fun q2 =>
  some (q2.1, q2.2)
noncomputable def f_X10_savesThere (a0 : Nat) (σ : St) : Option (Int32 × St) := if hT σ a0 = 11 then f_X10_savesThere_0 a0 σ else none
noncomputable def f_X10_size_147 (s0 : Int32) (σ : St) : Option (Int32 × St) :=
  some (s0, σ)
noncomputable def f_X10_size_0 (a0 : Nat) (a1 : Int32) (σ : St) : Option (Int32 × St) :=
  (pI 11 0 a0 0 σ).bind fun σ1 =>
  if a1 = 13 then
    (gI 11 6 a0 σ1).bind fun x43 =>
    some (x43, σ1)
  else
    (f_X10_in a1 0 12 σ1).bind fun q3 =>
    if q3.1 = 0 then
      some ((-1), q3.2)
    else
      (gQ 11 3 a0 q3.2).bind fun x5 =>
      oc x5 (
        some (0, q3.2)) (fun _ =>
        if a1 = 0 then
          (gR 11 3 a0 q3.2).bind fun x19 =>
          (gI 10 0 x19 q3.2).bind fun x20 =>
          some (x20, q3.2)
        else
          if a1 = 1 then
            (gR 11 3 a0 q3.2).bind fun x21 =>
            (gI 10 1 x21 q3.2).bind fun x22 =>
            some (x22, q3.2)
          else
            if a1 = 2 then
              (gR 11 3 a0 q3.2).bind fun x23 =>
              (gI 10 2 x23 q3.2).bind fun x24 =>
              some (x24, q3.2)
            else
              if a1 = 3 then
                (gR 11 3 a0 q3.2).bind fun x25 =>
                (gI 10 3 x25 q3.2).bind fun x26 =>
                some (x26, q3.2)
              else
                if a1 = 4 then
                  (gR 11 3 a0 q3.2).bind fun x27 =>
                  (gI 10 7 x27 q3.2).bind fun x28 =>
                  if x28 = 0 then
                    f_X10_size_147 0 q3.2
                  else
                    f_X10_size_147 1 q3.2
                else
                  if a1 = 5 then
                    (gR 11 3 a0 q3.2).bind fun x30 =>
                    (gI 10 4 x30 q3.2).bind fun x31 =>
                    some (x31, q3.2)
                  else
                    if a1 = 6 then
                      (gR 11 3 a0 q3.2).bind fun x32 =>
                      (gI 10 5 x32 q3.2).bind fun x33 =>
                      some (x33, q3.2)
                    else
                      if a1 = 7 then
                        (gR 11 3 a0 q3.2).bind fun x34 =>
                        (gI 10 6 x34 q3.2).bind fun x35 =>
                        some (x35, q3.2)
                      else
                        if a1 = 8 then
                          (gR 11 20 a0 q3.2).bind fun x36 =>
                          (aI 22 x36 37 q3.2).bind fun x37 =>
                          some (x37, q3.2)
                        else
                          if a1 = 9 then
                            (f_X10_savesThere a0 q3.2).bind fun q38 =>
                            some (q38.1, q38.2)
                          else
                            if a1 = 10 then
                              (gR 11 20 a0 q3.2).bind fun x39 =>
                              (aI 22 x39 36 q3.2).bind fun x40 =>
                              some (x40, q3.2)
                            else
                              if a1 = 11 then
                                (gI 11 24 a0 q3.2).bind fun x41 =>
                                some (x41, q3.2)
                              else
                                (gI 11 25 a0 q3.2).bind fun x42 =>
                                some (x42, q3.2))
noncomputable def f_X10_size (a0 : Nat) (a1 : Int32) (σ : St) : Option (Int32 × St) := if hT σ a0 = 11 then f_X10_size_0 a0 a1 σ else none
noncomputable def f_X10_surely_0 (a0 : Nat) (σ : St) : Option (Int32 × St) :=
  (pI 11 0 a0 0 σ).bind fun σ1 =>
  (gQ 11 3 a0 σ1).bind fun x2 =>
  oc x2 (
    (f_X10_refused a0 1 σ1).bind fun q4 =>
    some (q4.1, q4.2)) (fun _ =>
    (f_X10_fitting a0 (-1) σ1).bind fun q5 =>
    (gI 11 33 a0 q5.2).bind fun x6 =>
    (f_X10_good a0 x6 q5.2).bind fun q7 =>
    some (q7.1, q7.2))
noncomputable def f_X10_surely (a0 : Nat) (σ : St) : Option (Int32 × St) := if hT σ a0 = 11 then f_X10_surely_0 a0 σ else none
noncomputable def f_X10_thrown_0 (a0 : Nat) (σ : St) : Option (Int32 × St) :=
  (gI 11 0 a0 σ).bind fun x1 =>
  some (x1, σ)
noncomputable def f_X10_thrown (a0 : Nat) (σ : St) : Option (Int32 × St) := if hT σ a0 = 11 then f_X10_thrown_0 a0 σ else none
noncomputable def f_X10_trouble_0 (a0 : Nat) (σ : St) : Option (Int32 × St) :=
  (pI 11 0 a0 0 σ).bind fun σ1 =>
  (gI 11 1 a0 σ1).bind fun x2 =>
  some (x2, σ1)
noncomputable def f_X10_trouble (a0 : Nat) (σ : St) : Option (Int32 × St) := if hT σ a0 = 11 then f_X10_trouble_0 a0 σ else none
noncomputable def f_X10_undo_19 (a0 : Nat) (σ : St) : Option (Int32 × St) :=
  (f_X10_denied a0 6 σ).bind fun q1 =>
  if q1.1 = 0 ∨ q1.1 = 1 then some (q1.1, q1.2) else none
noncomputable def f_X10_undo_38 (n : Nat) : Nat → Int32 → St → Option (Int32 × St) :=
  Nat.rec (motive := fun _ => Nat → Int32 → St → Option (Int32 × St)) (fun _ _ _ => none) (fun _ ih => fun a0 a1 σ =>
  if 195 ≤ a1 then
    (f_X10_granted a0 σ).bind fun q2 =>
    if q2.1 = 0 ∨ q2.1 = 1 then some (q2.1, q2.2) else none
  else
    (gR 11 20 a0 σ).bind fun x3 =>
    (gR 11 22 a0 σ).bind fun x4 =>
    (gI 11 24 a0 σ).bind fun x5 =>
    (aI 22 x4 ((195 * x5) + a1) σ).bind fun x6 =>
    (xI x3 a1 x6 σ).bind fun σ7 =>
    ih a0 (a1 + 1)  σ7) n
theorem e_X10_undo_38 (n : Nat) {a0 : Nat} {a1 : Int32} {σ : St} : f_X10_undo_38 (n + 1) a0 a1 σ = (
  if 195 ≤ a1 then
    (f_X10_granted a0 σ).bind fun q2 =>
    if q2.1 = 0 ∨ q2.1 = 1 then some (q2.1, q2.2) else none
  else
    (gR 11 20 a0 σ).bind fun x3 =>
    (gR 11 22 a0 σ).bind fun x4 =>
    (gI 11 24 a0 σ).bind fun x5 =>
    (aI 22 x4 ((195 * x5) + a1) σ).bind fun x6 =>
    (xI x3 a1 x6 σ).bind fun σ7 =>
    (f_X10_undo_38 n) a0 (a1 + 1)  σ7) := rfl
noncomputable def f_X10_undo_0 (a0 : Nat) (σ : St) : Option (Int32 × St) :=
  (pI 11 0 a0 0 σ).bind fun σ1 =>
  (gQ 11 3 a0 σ1).bind fun x2 =>
  oc x2 (
    f_X10_undo_19 a0  σ1) (fun _ =>
    (gI 11 24 a0 σ1).bind fun x4 =>
    if x4 = 0 then
      f_X10_undo_19 a0  σ1
    else
      (gI 11 24 a0 σ1).bind fun x6 =>
      (pI 11 24 a0 (x6 - 1) σ1).bind fun σ7 =>
      f_X10_undo_38 FU a0 0  σ7)
noncomputable def f_X10_undo (a0 : Nat) (σ : St) : Option (Int32 × St) := if hT σ a0 = 11 then f_X10_undo_0 a0 σ else none
noncomputable def f_X10_value_0 (a0 : Nat) (a1 : Int32) (σ : St) : Option (Int32 × St) :=
  (pI 11 0 a0 0 σ).bind fun σ1 =>
  (f_X10_isRegister a0 a1 σ1).bind fun q2 =>
  if q2.1 = 0 then
    (f_X10_refused a0 1 q2.2).bind fun q7 =>
    some (q7.1, q7.2)
  else
    (f_X10_works a0 q2.2).bind fun σ4 =>
    (f_X10_valueOf a0 a1 σ4).bind fun q5 =>
    (f_X10_good a0 q5.1 q5.2).bind fun q6 =>
    some (q6.1, q6.2)
noncomputable def f_X10_value (a0 : Nat) (a1 : Int32) (σ : St) : Option (Int32 × St) := if hT σ a0 = 11 then f_X10_value_0 a0 a1 σ else none
noncomputable def f_X10_walked_21 (a0 : Nat) (σ : St) : Option (Int32 × St) :=
  (f_X10_refused a0 1 σ).bind fun q1 =>
  some (q1.1, q1.2)
noncomputable def f_X10_walked_0 (a0 : Nat) (a1 : Int32) (a2 : Int32) (σ : St) : Option (Int32 × St) :=
  (pI 11 0 a0 0 σ).bind fun σ1 =>
  (f_X10_isEntry a0 a1 σ1).bind fun q2 =>
  if q2.1 = 0 then
    f_X10_walked_21 a0  q2.2
  else
    (f_X10_isRegister a0 a2 q2.2).bind fun q4 =>
    if q4.1 = 0 then
      f_X10_walked_21 a0  q4.2
    else
      (f_X10_works a0 q4.2).bind fun σ6 =>
      (f_X10_mapOf a0 a2 a1 σ6).bind fun q7 =>
      (f_X10_good a0 q7.1 q7.2).bind fun q8 =>
      some (q8.1, q8.2)
noncomputable def f_X10_walked (a0 : Nat) (a1 : Int32) (a2 : Int32) (σ : St) : Option (Int32 × St) := if hT σ a0 = 11 then f_X10_walked_0 a0 a1 a2 σ else none
noncomputable def f_X10_where_0 (a0 : Nat) (σ : St) : Option (Int32 × St) :=
  (pI 11 0 a0 0 σ).bind fun σ1 =>
  (gI 11 2 a0 σ1).bind fun x2 =>
  some (x2, σ1)
noncomputable def f_X10_where (a0 : Nat) (σ : St) : Option (Int32 × St) := if hT σ a0 = 11 then f_X10_where_0 a0 σ else none
noncomputable def f_X1_fitsBy_17 (s0 : Int32) (σ : St) : Option (Int32 × St) :=
  if s0 = 0 ∨ s0 = 1 then some (s0, σ) else none
noncomputable def f_X1_fitsBy_0 (a0 : Nat) (a1 : Int32) (σ : St) : Option (Int32 × St) :=
  (gI 2 0 a0 σ).bind fun x1 =>
  if ((jshr x1 a1) &&& 1) = 1 then
    f_X1_fitsBy_17 1 σ
  else
    f_X1_fitsBy_17 0 σ
noncomputable def f_X1_fitsBy (a0 : Nat) (a1 : Int32) (σ : St) : Option (Int32 × St) := if hT σ a0 = 2 then f_X1_fitsBy_0 a0 a1 σ else none
noncomputable def f_X1_howMany_0 (a0 : Nat) (σ : St) : Option (Int32 × St) :=
  (gI 2 0 a0 σ).bind fun x1 =>
  (f_J6_bitCount_0f7a4 x1 σ).bind fun q2 =>
  some (q2.1, q2.2)
noncomputable def f_X1_howMany (a0 : Nat) (σ : St) : Option (Int32 × St) := if hT σ a0 = 2 then f_X1_howMany_0 a0 σ else none
noncomputable def f_X1_leftBy_34 (k4 : Nat → Int32 → Int32 → Int32 → St → Option (Int32 × St)) (a0 : Nat) (a1 : Int32) (a2 : Int32) (a3 : Int32) (σ : St) : Option (Int32 × St) :=
  k4 a0 a1 a2 (a3 + 1)  σ
noncomputable def f_X1_leftBy_4 (n : Nat) : Nat → Int32 → Int32 → Int32 → St → Option (Int32 × St) :=
  Nat.rec (motive := fun _ => Nat → Int32 → Int32 → Int32 → St → Option (Int32 × St)) (fun _ _ _ _ _ => none) (fun _ ih => fun a0 a1 a2 a3 σ =>
  (gI 2 1 a0 σ).bind fun x1 =>
  if (jshl 1 x1) ≤ a3 then
    (f_X1_howMany a0 σ).bind fun q3 =>
    some (jmax a2 (q3.1 - a2), q3.2)
  else
    (f_X1_fitsBy a0 a3 σ).bind fun q4 =>
    if q4.1 = 0 then
      f_X1_leftBy_34 ih a0 a1 a2 a3  q4.2
    else
      if ((jshr a3 a1) &&& 1) = 1 then
        f_X1_leftBy_34 ih a0 a1 (a2 + 1) a3  q4.2
      else
        f_X1_leftBy_34 ih a0 a1 a2 a3  q4.2) n
theorem e_X1_leftBy_4 (n : Nat) {a0 : Nat} {a1 : Int32} {a2 : Int32} {a3 : Int32} {σ : St} : f_X1_leftBy_4 (n + 1) a0 a1 a2 a3 σ = (
  (gI 2 1 a0 σ).bind fun x1 =>
  if (jshl 1 x1) ≤ a3 then
    (f_X1_howMany a0 σ).bind fun q3 =>
    some (jmax a2 (q3.1 - a2), q3.2)
  else
    (f_X1_fitsBy a0 a3 σ).bind fun q4 =>
    if q4.1 = 0 then
      f_X1_leftBy_34 (f_X1_leftBy_4 n) a0 a1 a2 a3  q4.2
    else
      if ((jshr a3 a1) &&& 1) = 1 then
        f_X1_leftBy_34 (f_X1_leftBy_4 n) a0 a1 (a2 + 1) a3  q4.2
      else
        f_X1_leftBy_34 (f_X1_leftBy_4 n) a0 a1 a2 a3  q4.2) := rfl
noncomputable def f_X1_leftBy_0 (a0 : Nat) (a1 : Int32) (σ : St) : Option (Int32 × St) :=
  f_X1_leftBy_4 FU a0 a1 0 0  σ
noncomputable def f_X1_leftBy (a0 : Nat) (a1 : Int32) (σ : St) : Option (Int32 × St) := if hT σ a0 = 2 then f_X1_leftBy_0 a0 a1 σ else none
noncomputable def f_X1_bestQuestion_45 (a1 : Int32) (σ : St) : Option (Int32 × St) :=
  some (a1, σ)
noncomputable def f_X1_bestQuestion_39 (k5 : Nat → Int32 → Int32 → St → Option (Int32 × St)) (a0 : Nat) (a1 : Int32) (a2 : Int32) (σ : St) : Option (Int32 × St) :=
  k5 a0 a1 (a2 + 1)  σ
noncomputable def f_X1_bestQuestion_37 (k5 : Nat → Int32 → Int32 → St → Option (Int32 × St)) (a0 : Nat) (a2 : Int32) (σ : St) : Option (Int32 × St) :=
  f_X1_bestQuestion_39 k5 a0 a2 a2  σ
noncomputable def f_X1_bestQuestion_5 (n : Nat) : Nat → Int32 → Int32 → St → Option (Int32 × St) :=
  Nat.rec (motive := fun _ => Nat → Int32 → Int32 → St → Option (Int32 × St)) (fun _ _ _ _ => none) (fun _ ih => fun a0 a1 a2 σ =>
  (gI 2 1 a0 σ).bind fun x1 =>
  if x1 ≤ a2 then
    f_X1_bestQuestion_45 a1  σ
  else
    (gI 2 0 a0 σ).bind fun x3 =>
    if x3 = 0 then
      f_X1_bestQuestion_45 a1  σ
    else
      if a1 < 0 then
        f_X1_bestQuestion_37 ih a0 a2  σ
      else
        (f_X1_leftBy a0 a2 σ).bind fun q6 =>
        (f_X1_leftBy a0 a1 q6.2).bind fun q7 =>
        if q7.1 ≤ q6.1 then
          f_X1_bestQuestion_39 ih a0 a1 a2  q7.2
        else
          f_X1_bestQuestion_37 ih a0 a2  q7.2) n
theorem e_X1_bestQuestion_5 (n : Nat) {a0 : Nat} {a1 : Int32} {a2 : Int32} {σ : St} : f_X1_bestQuestion_5 (n + 1) a0 a1 a2 σ = (
  (gI 2 1 a0 σ).bind fun x1 =>
  if x1 ≤ a2 then
    f_X1_bestQuestion_45 a1  σ
  else
    (gI 2 0 a0 σ).bind fun x3 =>
    if x3 = 0 then
      f_X1_bestQuestion_45 a1  σ
    else
      if a1 < 0 then
        f_X1_bestQuestion_37 (f_X1_bestQuestion_5 n) a0 a2  σ
      else
        (f_X1_leftBy a0 a2 σ).bind fun q6 =>
        (f_X1_leftBy a0 a1 q6.2).bind fun q7 =>
        if q7.1 ≤ q6.1 then
          f_X1_bestQuestion_39 (f_X1_bestQuestion_5 n) a0 a1 a2  q7.2
        else
          f_X1_bestQuestion_37 (f_X1_bestQuestion_5 n) a0 a2  q7.2) := rfl
noncomputable def f_X1_bestQuestion_0 (a0 : Nat) (σ : St) : Option (Int32 × St) :=
  f_X1_bestQuestion_5 FU a0 (-2) 0  σ
noncomputable def f_X1_bestQuestion (a0 : Nat) (σ : St) : Option (Int32 × St) := if hT σ a0 = 2 then f_X1_bestQuestion_0 a0 σ else none
noncomputable def f_X4_read_17 (s0 : Int32) (σ : St) : Option (Int32 × St) :=
  some (s0, σ)
noncomputable def f_X4_read_0 (a0 : Nat) (a1 : Int32) (σ : St) : Option (Int32 × St) :=
  (f_X8_isRegister a1 σ).bind fun q1 =>
  if q1.1 = 0 then
    f_X4_read_17 0 q1.2
  else
    (gR 5 0 a0 q1.2).bind fun x3 =>
    (aI 22 x3 a1 q1.2).bind fun x4 =>
    f_X4_read_17 x4 q1.2
noncomputable def f_X4_read (a0 : Nat) (a1 : Int32) (σ : St) : Option (Int32 × St) := if hT σ a0 = 5 then f_X4_read_0 a0 a1 σ else none
noncomputable def f_X5_numberBy_36 (k2 : Nat → Int32 → Int32 → Int32 → St → Option (Int32 × St)) (a0 : Nat) (a1 : Int32) (a2 : Int32) (a3 : Int32) (σ : St) : Option (Int32 × St) :=
  k2 a0 a1 a2 (a3 + 1)  σ
noncomputable def f_X5_numberBy_2 (n : Nat) : Nat → Int32 → Int32 → Int32 → St → Option (Int32 × St) :=
  Nat.rec (motive := fun _ => Nat → Int32 → Int32 → Int32 → St → Option (Int32 × St)) (fun _ _ _ _ _ => none) (fun _ ih => fun a0 a1 a2 a3 σ =>
  (gI 6 12 a0 σ).bind fun x1 =>
  if x1 ≤ a3 then
    (gR 6 10 a0 σ).bind fun x3 =>
    (aI 22 x3 a1 σ).bind fun x4 =>
    some (x4, σ)
  else
    (gR 6 13 a0 σ).bind fun x5 =>
    (aI 22 x5 a3 σ).bind fun x6 =>
    if x6 = a1 then
      if ((jshr a2 a3) &&& 1) = 1 then
        (gR 6 14 a0 σ).bind fun x9 =>
        (aI 22 x9 a3 σ).bind fun x10 =>
        some (x10, σ)
      else
        f_X5_numberBy_36 ih a0 a1 a2 a3  σ
    else
      f_X5_numberBy_36 ih a0 a1 a2 a3  σ) n
theorem e_X5_numberBy_2 (n : Nat) {a0 : Nat} {a1 : Int32} {a2 : Int32} {a3 : Int32} {σ : St} : f_X5_numberBy_2 (n + 1) a0 a1 a2 a3 σ = (
  (gI 6 12 a0 σ).bind fun x1 =>
  if x1 ≤ a3 then
    (gR 6 10 a0 σ).bind fun x3 =>
    (aI 22 x3 a1 σ).bind fun x4 =>
    some (x4, σ)
  else
    (gR 6 13 a0 σ).bind fun x5 =>
    (aI 22 x5 a3 σ).bind fun x6 =>
    if x6 = a1 then
      if ((jshr a2 a3) &&& 1) = 1 then
        (gR 6 14 a0 σ).bind fun x9 =>
        (aI 22 x9 a3 σ).bind fun x10 =>
        some (x10, σ)
      else
        f_X5_numberBy_36 (f_X5_numberBy_2 n) a0 a1 a2 a3  σ
    else
      f_X5_numberBy_36 (f_X5_numberBy_2 n) a0 a1 a2 a3  σ) := rfl
noncomputable def f_X5_numberBy_0 (a0 : Nat) (a1 : Int32) (a2 : Int32) (σ : St) : Option (Int32 × St) :=
  f_X5_numberBy_2 FU a0 a1 a2 0  σ
noncomputable def f_X5_numberBy (a0 : Nat) (a1 : Int32) (a2 : Int32) (σ : St) : Option (Int32 × St) := if hT σ a0 = 6 then f_X5_numberBy_0 a0 a1 a2 σ else none
noncomputable def f_X4_playStep_128 (a0 : Nat) (a1 : Nat) (a3 : Int32) (s0 : Int32) (σ : St) : Option (St) :=
  if s0 = (-1) then
    (pZ 5 4 a0 1 σ).bind fun σ9 =>
    some σ9
  else
    (gR 5 0 a0 σ).bind fun x2 =>
    (gR 6 7 a1 σ).bind fun x3 =>
    (aI 22 x3 a3 σ).bind fun x4 =>
    (xI x2 x4 s0 σ).bind fun σ5 =>
    (pI 5 2 a0 (a3 + 1) σ5).bind fun σ6 =>
    (gI 5 1 a0 σ6).bind fun x7 =>
    (pI 5 1 a0 (x7 + 1) σ6).bind fun σ8 =>
    some σ8
noncomputable def f_X4_playStep_103 (a0 : Nat) (a1 : Nat) (a2 : Int32) (a3 : Int32) (a4 : Int32) (a5 : Int32) (s0 : Int32) (σ : St) : Option (St) :=
  if s0 = 0 then
    (f_X5_outcome a1 a3 a4 a5 σ).bind fun q2 =>
    f_X4_playStep_128 a0 a1 a3 q2.1 q2.2
  else
    (f_X5_numberBy a1 a3 a2 σ).bind fun q3 =>
    f_X4_playStep_128 a0 a1 a3 q3.1 q3.2
noncomputable def f_X4_playStep_74 (a0 : Nat) (s0 : Nat) (s1 : Int32) (s2 : Int32) (σ : St) : Option (St) :=
  (pI 5 3 s0 (s1 + s2) σ).bind fun σ1 =>
  (gI 5 1 a0 σ1).bind fun x2 =>
  (pI 5 1 a0 (x2 + 1) σ1).bind fun σ3 =>
  some σ3
noncomputable def f_X4_playStep_0 (a0 : Nat) (a1 : Nat) (a2 : Int32) (σ : St) : Option (St) :=
  (gI 5 2 a0 σ).bind fun x1 =>
  (gR 6 8 a1 σ).bind fun x2 =>
  (aI 22 x2 x1 σ).bind fun x3 =>
  (f_X4_read a0 x3 σ).bind fun q4 =>
  (gR 6 9 a1 q4.2).bind fun x5 =>
  (aI 22 x5 x1 q4.2).bind fun x6 =>
  (f_X4_read a0 x6 q4.2).bind fun q7 =>
  (gR 6 6 a1 q7.2).bind fun x8 =>
  (aI 22 x8 x1 q7.2).bind fun x9 =>
  if x9 = 5 then
    (f_X5_nextBehind a1 x1 q4.1 q7.1 q7.2).bind fun q14 =>
    (pI 5 2 a0 q14.1 q14.2).bind fun σ15 =>
    (gI 5 3 a0 σ15).bind fun x16 =>
    (gI 5 2 a0 σ15).bind fun x17 =>
    (f_X5_guessBehind a1 x1 σ15).bind fun q18 =>
    if x17 = q18.1 then
      f_X4_playStep_74 a0 a0 x16 0 q18.2
    else
      f_X4_playStep_74 a0 a0 x16 1 q18.2
  else
    (gR 6 6 a1 q7.2).bind fun x11 =>
    (aI 22 x11 x1 q7.2).bind fun x12 =>
    if x12 = 0 then
      f_X4_playStep_103 a0 a1 a2 x1 q4.1 q7.1 1 q7.2
    else
      f_X4_playStep_103 a0 a1 a2 x1 q4.1 q7.1 0 q7.2
noncomputable def f_X4_playStep (a0 : Nat) (a1 : Nat) (a2 : Int32) (σ : St) : Option (St) := if hT σ a0 = 5 then f_X4_playStep_0 a0 a1 a2 σ else none
noncomputable def f_X4_play_67  (σ : St) : Option (St) :=
  some σ
noncomputable def f_X4_play_31 (n : Nat) : Nat → Nat → Int32 → Int32 → Int32 → St → Option (St) :=
  Nat.rec (motive := fun _ => Nat → Nat → Int32 → Int32 → Int32 → St → Option (St)) (fun _ _ _ _ _ _ => none) (fun _ ih => fun a0 a1 a2 a3 a4 σ =>
  if a3 ≤ a4 then
    f_X4_play_67  σ
  else
    (gI 5 2 a0 σ).bind fun x2 =>
    (f_X5_has a1 x2 σ).bind fun q3 =>
    if q3.1 = 0 then
      f_X4_play_67  q3.2
    else
      (gI 5 4 a0 q3.2).bind fun x5 =>
      if x5 = 0 then
        (f_X4_playStep a0 a1 a2 q3.2).bind fun σ7 =>
        ih a0 a1 a2 a3 (a4 + 1)  σ7
      else
        f_X4_play_67  q3.2) n
theorem e_X4_play_31 (n : Nat) {a0 : Nat} {a1 : Nat} {a2 : Int32} {a3 : Int32} {a4 : Int32} {σ : St} : f_X4_play_31 (n + 1) a0 a1 a2 a3 a4 σ = (
  if a3 ≤ a4 then
    f_X4_play_67  σ
  else
    (gI 5 2 a0 σ).bind fun x2 =>
    (f_X5_has a1 x2 σ).bind fun q3 =>
    if q3.1 = 0 then
      f_X4_play_67  q3.2
    else
      (gI 5 4 a0 q3.2).bind fun x5 =>
      if x5 = 0 then
        (f_X4_playStep a0 a1 a2 q3.2).bind fun σ7 =>
        (f_X4_play_31 n) a0 a1 a2 a3 (a4 + 1)  σ7
      else
        f_X4_play_67  q3.2) := rfl
noncomputable def f_X4_play_0 (a0 : Nat) (a1 : Nat) (a2 : Int32) (a3 : Int32) (σ : St) : Option (St) :=
  (gR 5 0 a0 σ).bind fun x1 =>
  (f_J7_fill_53178 x1 0 σ).bind fun σ2 =>
  (pI 5 1 a0 0 σ2).bind fun σ3 =>
  (pI 5 2 a0 0 σ3).bind fun σ4 =>
  (pI 5 3 a0 0 σ4).bind fun σ5 =>
  (pZ 5 4 a0 0 σ5).bind fun σ6 =>
  f_X4_play_31 FU a0 a1 a2 a3 0  σ6
noncomputable def f_X4_play (a0 : Nat) (a1 : Nat) (a2 : Int32) (a3 : Int32) (σ : St) : Option (St) := if hT σ a0 = 5 then f_X4_play_0 a0 a1 a2 a3 σ else none
noncomputable def f_X4_firstNotGot_2 (n : Nat) : Nat → Nat → Int32 → St → Option (Int32 × St) :=
  Nat.rec (motive := fun _ => Nat → Nat → Int32 → St → Option (Int32 × St)) (fun _ _ _ _ => none) (fun _ ih => fun a0 a1 a2 σ =>
  (gI 6 15 a1 σ).bind fun x1 =>
  if x1 ≤ a2 then
    some ((-2), σ)
  else
    (gR 5 0 a0 σ).bind fun x3 =>
    (gR 6 16 a1 σ).bind fun x4 =>
    (aI 22 x4 a2 σ).bind fun x5 =>
    (aI 22 x3 x5 σ).bind fun x6 =>
    (gR 6 17 a1 σ).bind fun x7 =>
    (aI 22 x7 a2 σ).bind fun x8 =>
    if x6 = x8 then
      ih a0 a1 (a2 + 1)  σ
    else
      some (a2, σ)) n
theorem e_X4_firstNotGot_2 (n : Nat) {a0 : Nat} {a1 : Nat} {a2 : Int32} {σ : St} : f_X4_firstNotGot_2 (n + 1) a0 a1 a2 σ = (
  (gI 6 15 a1 σ).bind fun x1 =>
  if x1 ≤ a2 then
    some ((-2), σ)
  else
    (gR 5 0 a0 σ).bind fun x3 =>
    (gR 6 16 a1 σ).bind fun x4 =>
    (aI 22 x4 a2 σ).bind fun x5 =>
    (aI 22 x3 x5 σ).bind fun x6 =>
    (gR 6 17 a1 σ).bind fun x7 =>
    (aI 22 x7 a2 σ).bind fun x8 =>
    if x6 = x8 then
      (f_X4_firstNotGot_2 n) a0 a1 (a2 + 1)  σ
    else
      some (a2, σ)) := rfl
noncomputable def f_X4_firstNotGot_0 (a0 : Nat) (a1 : Nat) (σ : St) : Option (Int32 × St) :=
  f_X4_firstNotGot_2 FU a0 a1 0  σ
noncomputable def f_X4_firstNotGot (a0 : Nat) (a1 : Nat) (σ : St) : Option (Int32 × St) := if hT σ a0 = 5 then f_X4_firstNotGot_0 a0 a1 σ else none
noncomputable def f_X1_find_54 (k15 : Nat → Nat → Nat → Int32 → St → Option (St)) (a0 : Nat) (a1 : Nat) (a2 : Nat) (a3 : Int32) (σ : St) : Option (St) :=
  k15 a0 a1 a2 (a3 + 1)  σ
noncomputable def f_X1_find_15 (n : Nat) : Nat → Nat → Nat → Int32 → St → Option (St) :=
  Nat.rec (motive := fun _ => Nat → Nat → Nat → Int32 → St → Option (St)) (fun _ _ _ _ _ => none) (fun _ ih => fun a0 a1 a2 a3 σ =>
  (gI 2 1 a0 σ).bind fun x1 =>
  if (jshl 1 x1) ≤ a3 then
    some σ
  else
    (f_X4_play a2 a1 a3 200 σ).bind fun σ3 =>
    (f_X4_firstNotGot a2 a1 σ3).bind fun q4 =>
    if 0 ≤ q4.1 then
      f_X1_find_54 ih a0 a1 a2 a3  q4.2
    else
      (gI 2 0 a0 q4.2).bind fun x6 =>
      (pI 2 0 a0 (x6 ||| (jshl 1 a3)) q4.2).bind fun σ7 =>
      f_X1_find_54 ih a0 a1 a2 a3  σ7) n
theorem e_X1_find_15 (n : Nat) {a0 : Nat} {a1 : Nat} {a2 : Nat} {a3 : Int32} {σ : St} : f_X1_find_15 (n + 1) a0 a1 a2 a3 σ = (
  (gI 2 1 a0 σ).bind fun x1 =>
  if (jshl 1 x1) ≤ a3 then
    some σ
  else
    (f_X4_play a2 a1 a3 200 σ).bind fun σ3 =>
    (f_X4_firstNotGot a2 a1 σ3).bind fun q4 =>
    if 0 ≤ q4.1 then
      f_X1_find_54 (f_X1_find_15 n) a0 a1 a2 a3  q4.2
    else
      (gI 2 0 a0 q4.2).bind fun x6 =>
      (pI 2 0 a0 (x6 ||| (jshl 1 a3)) q4.2).bind fun σ7 =>
      f_X1_find_54 (f_X1_find_15 n) a0 a1 a2 a3  σ7) := rfl
noncomputable def f_X1_find_0 (a0 : Nat) (a1 : Nat) (a2 : Nat) (σ : St) : Option (St) :=
  (pI 2 0 a0 0 σ).bind fun σ1 =>
  (gI 6 12 a1 σ1).bind fun x2 =>
  (pI 2 1 a0 x2 σ1).bind fun σ3 =>
  f_X1_find_15 FU a0 a1 a2 0  σ3
noncomputable def f_X1_find (a0 : Nat) (a1 : Nat) (a2 : Nat) (σ : St) : Option (St) := if hT σ a0 = 2 then f_X1_find_0 a0 a1 a2 σ else none
noncomputable def f_X1_inAll_46 (k22 : Nat → Int32 → Int32 → St → Option (Int32 × St)) (a0 : Nat) (a2 : Int32) (s0 : Int32) (s1 : Int32) (σ : St) : Option (Int32 × St) :=
  bnd (s0 &&& s1) fun x1 =>
  k22 a0 x1 (a2 + 1)  σ
noncomputable def f_X1_inAll_22 (n : Nat) : Nat → Int32 → Int32 → St → Option (Int32 × St) :=
  Nat.rec (motive := fun _ => Nat → Int32 → Int32 → St → Option (Int32 × St)) (fun _ _ _ _ => none) (fun _ ih => fun a0 a1 a2 σ =>
  (gI 2 1 a0 σ).bind fun x1 =>
  if (jshl 1 x1) ≤ a2 then
    some (a1, σ)
  else
    (f_X1_fitsBy a0 a2 σ).bind fun q3 =>
    if q3.1 = 0 then
      f_X1_inAll_46 ih a0 a2 a1 a1 q3.2
    else
      f_X1_inAll_46 ih a0 a2 a1 a2 q3.2) n
theorem e_X1_inAll_22 (n : Nat) {a0 : Nat} {a1 : Int32} {a2 : Int32} {σ : St} : f_X1_inAll_22 (n + 1) a0 a1 a2 σ = (
  (gI 2 1 a0 σ).bind fun x1 =>
  if (jshl 1 x1) ≤ a2 then
    some (a1, σ)
  else
    (f_X1_fitsBy a0 a2 σ).bind fun q3 =>
    if q3.1 = 0 then
      f_X1_inAll_46 (f_X1_inAll_22 n) a0 a2 a1 a1 q3.2
    else
      f_X1_inAll_46 (f_X1_inAll_22 n) a0 a2 a1 a2 q3.2) := rfl
noncomputable def f_X1_inAll_19 (a0 : Nat) (s0 : Int32) (σ : St) : Option (Int32 × St) :=
  f_X1_inAll_22 FU a0 s0 0  σ
noncomputable def f_X1_inAll_0 (a0 : Nat) (σ : St) : Option (Int32 × St) :=
  (gI 2 0 a0 σ).bind fun x1 =>
  if x1 = 0 then
    f_X1_inAll_19 a0 0 σ
  else
    (gI 2 1 a0 σ).bind fun x3 =>
    f_X1_inAll_19 a0 ((jshl 1 x3) - 1) σ
noncomputable def f_X1_inAll (a0 : Nat) (σ : St) : Option (Int32 × St) := if hT σ a0 = 2 then f_X1_inAll_0 a0 σ else none
noncomputable def f_X1_inSome_28 (k4 : Nat → Int32 → Int32 → St → Option (Int32 × St)) (a0 : Nat) (a2 : Int32) (s0 : Int32) (s1 : Int32) (σ : St) : Option (Int32 × St) :=
  bnd (s0 ||| s1) fun x1 =>
  k4 a0 x1 (a2 + 1)  σ
noncomputable def f_X1_inSome_4 (n : Nat) : Nat → Int32 → Int32 → St → Option (Int32 × St) :=
  Nat.rec (motive := fun _ => Nat → Int32 → Int32 → St → Option (Int32 × St)) (fun _ _ _ _ => none) (fun _ ih => fun a0 a1 a2 σ =>
  (gI 2 1 a0 σ).bind fun x1 =>
  if (jshl 1 x1) ≤ a2 then
    some (a1, σ)
  else
    (f_X1_fitsBy a0 a2 σ).bind fun q3 =>
    if q3.1 = 0 then
      f_X1_inSome_28 ih a0 a2 a1 0 q3.2
    else
      f_X1_inSome_28 ih a0 a2 a1 a2 q3.2) n
theorem e_X1_inSome_4 (n : Nat) {a0 : Nat} {a1 : Int32} {a2 : Int32} {σ : St} : f_X1_inSome_4 (n + 1) a0 a1 a2 σ = (
  (gI 2 1 a0 σ).bind fun x1 =>
  if (jshl 1 x1) ≤ a2 then
    some (a1, σ)
  else
    (f_X1_fitsBy a0 a2 σ).bind fun q3 =>
    if q3.1 = 0 then
      f_X1_inSome_28 (f_X1_inSome_4 n) a0 a2 a1 0 q3.2
    else
      f_X1_inSome_28 (f_X1_inSome_4 n) a0 a2 a1 a2 q3.2) := rfl
noncomputable def f_X1_inSome_0 (a0 : Nat) (σ : St) : Option (Int32 × St) :=
  f_X1_inSome_4 FU a0 0 0  σ
noncomputable def f_X1_inSome (a0 : Nat) (σ : St) : Option (Int32 × St) := if hT σ a0 = 2 then f_X1_inSome_0 a0 σ else none
noncomputable def f_X1_init_0 (a0 : Nat) (σ : St) : Option (St) :=
  some σ
noncomputable def f_X1_init (a0 : Nat) (σ : St) : Option (St) := if hT σ a0 = 2 then f_X1_init_0 a0 σ else none
noncomputable def f_X1_nth_31 (k4 : Nat → Int32 → Int32 → St → Option (Int32 × St)) (a0 : Nat) (a2 : Int32) (a3 : Int32) (σ : St) : Option (Int32 × St) :=
  k4 a0 a2 (a3 + 1)  σ
noncomputable def f_X1_nth_4 (n : Nat) : Nat → Int32 → Int32 → St → Option (Int32 × St) :=
  Nat.rec (motive := fun _ => Nat → Int32 → Int32 → St → Option (Int32 × St)) (fun _ _ _ _ => none) (fun _ ih => fun a0 a2 a3 σ =>
  (gI 2 1 a0 σ).bind fun x1 =>
  if (jshl 1 x1) ≤ a3 then
    some ((-1), σ)
  else
    (f_X1_fitsBy a0 a3 σ).bind fun q3 =>
    if q3.1 = 0 then
      f_X1_nth_31 ih a0 a2 a3  q3.2
    else
      if a2 = 0 then
        some (a3, q3.2)
      else
        f_X1_nth_31 ih a0 (a2 + (-1)) a3  q3.2) n
theorem e_X1_nth_4 (n : Nat) {a0 : Nat} {a2 : Int32} {a3 : Int32} {σ : St} : f_X1_nth_4 (n + 1) a0 a2 a3 σ = (
  (gI 2 1 a0 σ).bind fun x1 =>
  if (jshl 1 x1) ≤ a3 then
    some ((-1), σ)
  else
    (f_X1_fitsBy a0 a3 σ).bind fun q3 =>
    if q3.1 = 0 then
      f_X1_nth_31 (f_X1_nth_4 n) a0 a2 a3  q3.2
    else
      if a2 = 0 then
        some (a3, q3.2)
      else
        f_X1_nth_31 (f_X1_nth_4 n) a0 (a2 + (-1)) a3  q3.2) := rfl
noncomputable def f_X1_nth_0 (a0 : Nat) (a1 : Int32) (σ : St) : Option (Int32 × St) :=
  f_X1_nth_4 FU a0 a1 0  σ
noncomputable def f_X1_nth (a0 : Nat) (a1 : Int32) (σ : St) : Option (Int32 × St) := if hT σ a0 = 2 then f_X1_nth_0 a0 a1 σ else none
noncomputable def f_X2_forget_0 (a0 : Nat) (σ : St) : Option (St) :=
  (pI 3 3 a0 0 σ).bind fun σ1 =>
  (pI 3 4 a0 0 σ1).bind fun σ2 =>
  some σ2
noncomputable def f_X2_forget (a0 : Nat) (σ : St) : Option (St) := if hT σ a0 = 3 then f_X2_forget_0 a0 σ else none
noncomputable def f_X2_init_51 (n : Nat) : Nat → Nat → Int32 → St → Option (St) :=
  Nat.rec (motive := fun _ => Nat → Nat → Int32 → St → Option (St)) (fun _ _ _ _ => none) (fun _ ih => fun a0 a1 a2 σ =>
  if 3 ≤ a2 then
    some σ
  else
    (gR 3 1 a0 σ).bind fun x2 =>
    bnd (nw σ 4 0) fun σ3 =>
    (f_X3_init (hZ σ) a1 σ3).bind fun σ4 =>
    (xP x2 a2 (hZ σ) σ4).bind fun σ5 =>
    ih a0 a1 (a2 + 1)  σ5) n
theorem e_X2_init_51 (n : Nat) {a0 : Nat} {a1 : Nat} {a2 : Int32} {σ : St} : f_X2_init_51 (n + 1) a0 a1 a2 σ = (
  if 3 ≤ a2 then
    some σ
  else
    (gR 3 1 a0 σ).bind fun x2 =>
    bnd (nw σ 4 0) fun σ3 =>
    (f_X3_init (hZ σ) a1 σ3).bind fun σ4 =>
    (xP x2 a2 (hZ σ) σ4).bind fun σ5 =>
    (f_X2_init_51 n) a0 a1 (a2 + 1)  σ5) := rfl
noncomputable def f_X2_init_23 (n : Nat) : Nat → Nat → Int32 → St → Option (St) :=
  Nat.rec (motive := fun _ => Nat → Nat → Int32 → St → Option (St)) (fun _ _ _ _ => none) (fun _ ih => fun a0 a1 a2 σ =>
  if 16 ≤ a2 then
    f_X2_init_51 FU a0 a1 0  σ
  else
    (gR 3 0 a0 σ).bind fun x2 =>
    bnd (nw σ 4 0) fun σ3 =>
    (f_X3_init (hZ σ) a1 σ3).bind fun σ4 =>
    (xP x2 a2 (hZ σ) σ4).bind fun σ5 =>
    ih a0 a1 (a2 + 1)  σ5) n
theorem e_X2_init_23 (n : Nat) {a0 : Nat} {a1 : Nat} {a2 : Int32} {σ : St} : f_X2_init_23 (n + 1) a0 a1 a2 σ = (
  if 16 ≤ a2 then
    f_X2_init_51 FU a0 a1 0  σ
  else
    (gR 3 0 a0 σ).bind fun x2 =>
    bnd (nw σ 4 0) fun σ3 =>
    (f_X3_init (hZ σ) a1 σ3).bind fun σ4 =>
    (xP x2 a2 (hZ σ) σ4).bind fun σ5 =>
    (f_X2_init_23 n) a0 a1 (a2 + 1)  σ5) := rfl
noncomputable def f_X2_init_0 (a0 : Nat) (a1 : Nat) (σ : St) : Option (St) :=
  bnd (nw σ 25 16) fun σ1 =>
  (pP 3 0 a0 (hZ σ) σ1).bind fun σ2 =>
  bnd (nw σ2 25 3) fun σ3 =>
  (pP 3 1 a0 (hZ σ2) σ3).bind fun σ4 =>
  f_X2_init_23 FU a0 a1 0  σ4
noncomputable def f_X2_init (a0 : Nat) (a1 : Nat) (σ : St) : Option (St) := if hT σ a0 = 3 then f_X2_init_0 a0 a1 σ else none
noncomputable def f_X3_copyFrom_0 (a0 : Nat) (a1 : Nat) (σ : St) : Option (St) :=
  (gR 4 0 a1 σ).bind fun x1 =>
  (pP 4 0 a0 x1 σ).bind fun σ2 =>
  (gI 4 1 a1 σ2).bind fun x3 =>
  (pI 4 1 a0 x3 σ2).bind fun σ4 =>
  (gR 4 2 a1 σ4).bind fun x5 =>
  (gR 4 2 a0 σ4).bind fun x6 =>
  (cpI x5 0 x6 0 24 σ4).bind fun σ7 =>
  (gI 4 3 a1 σ7).bind fun x8 =>
  (pI 4 3 a0 x8 σ7).bind fun σ9 =>
  (gR 4 4 a1 σ9).bind fun x10 =>
  (gR 4 4 a0 σ9).bind fun x11 =>
  (cpI x10 0 x11 0 8 σ9).bind fun σ12 =>
  (gI 4 5 a1 σ12).bind fun x13 =>
  (pI 4 5 a0 x13 σ12).bind fun σ14 =>
  (gI 4 6 a1 σ14).bind fun x15 =>
  (pI 4 6 a0 x15 σ14).bind fun σ16 =>
  (gR 4 7 a1 σ16).bind fun x17 =>
  (gR 4 7 a0 σ16).bind fun x18 =>
  (cpI x17 0 x18 0 12 σ16).bind fun σ19 =>
  (gR 4 8 a1 σ19).bind fun x20 =>
  (gR 4 8 a0 σ19).bind fun x21 =>
  (cpI x20 0 x21 0 12 σ19).bind fun σ22 =>
  (gR 4 9 a1 σ22).bind fun x23 =>
  (gR 4 9 a0 σ22).bind fun x24 =>
  (cpI x23 0 x24 0 12 σ22).bind fun σ25 =>
  (gR 4 10 a1 σ25).bind fun x26 =>
  (gR 4 10 a0 σ25).bind fun x27 =>
  (cpI x26 0 x27 0 12 σ25).bind fun σ28 =>
  (gI 4 11 a1 σ28).bind fun x29 =>
  (pI 4 11 a0 x29 σ28).bind fun σ30 =>
  (gI 4 12 a1 σ30).bind fun x31 =>
  (pI 4 12 a0 x31 σ30).bind fun σ32 =>
  (gI 4 13 a1 σ32).bind fun x33 =>
  (pI 4 13 a0 x33 σ32).bind fun σ34 =>
  (gI 4 14 a1 σ34).bind fun x35 =>
  (pI 4 14 a0 x35 σ34).bind fun σ36 =>
  (gI 4 15 a1 σ36).bind fun x37 =>
  (pI 4 15 a0 x37 σ36).bind fun σ38 =>
  (gI 4 16 a1 σ38).bind fun x39 =>
  (pI 4 16 a0 x39 σ38).bind fun σ40 =>
  (gI 4 17 a1 σ40).bind fun x41 =>
  (pZ 4 17 a0 x41 σ40).bind fun σ42 =>
  (gI 4 18 a1 σ42).bind fun x43 =>
  (pZ 4 18 a0 x43 σ42).bind fun σ44 =>
  (gI 4 19 a1 σ44).bind fun x45 =>
  (pI 4 19 a0 x45 σ44).bind fun σ46 =>
  some σ46
noncomputable def f_X3_copyFrom (a0 : Nat) (a1 : Nat) (σ : St) : Option (St) := if hT σ a0 = 4 then f_X3_copyFrom_0 a0 a1 σ else none
noncomputable def f_X2_keep_0 (a0 : Nat) (a1 : Nat) (σ : St) : Option (St) :=
  (gR 3 0 a0 σ).bind fun x1 =>
  (gI 3 2 a0 σ).bind fun x2 =>
  (aP x1 x2 σ).bind fun x3 =>
  (f_X3_copyFrom x3 a1 σ).bind fun σ4 =>
  (gI 3 2 a0 σ4).bind fun x5 =>
  (pI 3 2 a0 (jrem (x5 + 1) 16) σ4).bind fun σ6 =>
  (gI 3 3 a0 σ6).bind fun x7 =>
  (pI 3 3 a0 (jmin (x7 + 1) 16) σ6).bind fun σ8 =>
  some σ8
noncomputable def f_X2_keep (a0 : Nat) (a1 : Nat) (σ : St) : Option (St) := if hT σ a0 = 3 then f_X2_keep_0 a0 a1 σ else none
noncomputable def f_X2_picture_0 (a0 : Nat) (a1 : Nat) (σ : St) : Option (Int32 × St) :=
  (gR 3 1 a0 σ).bind fun x1 =>
  (gI 3 4 a0 σ).bind fun x2 =>
  (aP x1 x2 σ).bind fun x3 =>
  (f_X3_copyFrom x3 a1 σ).bind fun σ4 =>
  (gI 3 4 a0 σ4).bind fun x5 =>
  (pI 3 4 a0 (x5 + 1) σ4).bind fun σ6 =>
  (gI 3 4 a0 σ6).bind fun x7 =>
  some (x7 - 1, σ6)
noncomputable def f_X2_picture (a0 : Nat) (a1 : Nat) (σ : St) : Option (Int32 × St) := if hT σ a0 = 3 then f_X2_picture_0 a0 a1 σ else none
noncomputable def f_X2_returnTo_0 (a0 : Nat) (a1 : Int32) (a2 : Nat) (σ : St) : Option (St) :=
  (gR 3 1 a0 σ).bind fun x1 =>
  (aP x1 a1 σ).bind fun x2 =>
  (f_X3_copyFrom a2 x2 σ).bind fun σ3 =>
  (pI 3 3 a0 0 σ3).bind fun σ4 =>
  some σ4
noncomputable def f_X2_returnTo (a0 : Nat) (a1 : Int32) (a2 : Nat) (σ : St) : Option (St) := if hT σ a0 = 3 then f_X2_returnTo_0 a0 a1 a2 σ else none
noncomputable def f_X2_takeBack_0 (a0 : Nat) (a1 : Nat) (σ : St) : Option (St) :=
  (gI 3 2 a0 σ).bind fun x1 =>
  (pI 3 2 a0 (jrem ((x1 + 16) - 1) 16) σ).bind fun σ2 =>
  (gI 3 3 a0 σ2).bind fun x3 =>
  (pI 3 3 a0 (x3 - 1) σ2).bind fun σ4 =>
  (gR 3 0 a0 σ4).bind fun x5 =>
  (gI 3 2 a0 σ4).bind fun x6 =>
  (aP x5 x6 σ4).bind fun x7 =>
  (f_X3_copyFrom a1 x7 σ4).bind fun σ8 =>
  some σ8
noncomputable def f_X2_takeBack (a0 : Nat) (a1 : Nat) (σ : St) : Option (St) := if hT σ a0 = 3 then f_X2_takeBack_0 a0 a1 σ else none
noncomputable def f_X3_goOnAt_0 (a0 : Nat) (a1 : Int32) (σ : St) : Option (St) :=
  (pI 4 16 a0 a1 σ).bind fun σ1 =>
  (pZ 4 17 a0 0 σ1).bind fun σ2 =>
  (pZ 4 18 a0 1 σ2).bind fun σ3 =>
  some σ3
noncomputable def f_X3_goOnAt (a0 : Nat) (a1 : Int32) (σ : St) : Option (St) := if hT σ a0 = 4 then f_X3_goOnAt_0 a0 a1 σ else none
noncomputable def f_X3_isSure_13 (s0 : Int32) (σ : St) : Option (Int32 × St) :=
  if s0 = 0 ∨ s0 = 1 then some (s0, σ) else none
noncomputable def f_X3_isSure_0 (a0 : Nat) (a1 : Int32) (σ : St) : Option (Int32 × St) :=
  (f_X3_sureOnes a0 σ).bind fun q1 =>
  if q1.1 ≤ a1 then
    f_X3_isSure_13 0 q1.2
  else
    f_X3_isSure_13 1 q1.2
noncomputable def f_X3_isSure (a0 : Nat) (a1 : Int32) (σ : St) : Option (Int32 × St) := if hT σ a0 = 4 then f_X3_isSure_0 a0 a1 σ else none
noncomputable def f_X3_keptValue_42 (s0 : Int32) (σ : St) : Option (Int32 × St) :=
  some (s0, σ)
noncomputable def f_X3_keptValue_21 (a0 : Nat) (a1 : Int32) (s0 : Int32) (σ : St) : Option (Int32 × St) :=
  if s0 = 0 then
    (gR 4 2 a0 σ).bind fun x2 =>
    (gR 4 4 a0 σ).bind fun x3 =>
    (aI 22 x3 a1 σ).bind fun x4 =>
    (aI 22 x2 x4 σ).bind fun x5 =>
    f_X3_keptValue_42 x5 σ
  else
    f_X3_keptValue_42 (-2) σ
noncomputable def f_X3_keptValue_0 (a0 : Nat) (a1 : Int32) (σ : St) : Option (Int32 × St) :=
  (gI 4 6 a0 σ).bind fun x1 =>
  (f_X3_letGoBits a0 x1 σ).bind fun q2 =>
  (f_X3_bitOf a1 q2.2).bind fun q3 =>
  if (q2.1 &&& q3.1) = 0 then
    f_X3_keptValue_21 a0 a1 0 q3.2
  else
    f_X3_keptValue_21 a0 a1 1 q3.2
noncomputable def f_X3_keptValue (a0 : Nat) (a1 : Int32) (σ : St) : Option (Int32 × St) := if hT σ a0 = 4 then f_X3_keptValue_0 a0 a1 σ else none
noncomputable def f_X3_nthDone_29 (k4 : Nat → Int32 → Int32 → St → Option (Int32 × St)) (a0 : Nat) (a2 : Int32) (a3 : Int32) (σ : St) : Option (Int32 × St) :=
  k4 a0 a2 (a3 + 1)  σ
noncomputable def f_X3_nthDone_4 (n : Nat) : Nat → Int32 → Int32 → St → Option (Int32 × St) :=
  Nat.rec (motive := fun _ => Nat → Int32 → Int32 → St → Option (Int32 × St)) (fun _ _ _ _ => none) (fun _ ih => fun a0 a2 a3 σ =>
  (gI 4 6 a0 σ).bind fun x1 =>
  if x1 ≤ a3 then
    some ((-1), σ)
  else
    (f_X3_isDone a0 a3 σ).bind fun q3 =>
    if q3.1 = 0 then
      f_X3_nthDone_29 ih a0 a2 a3  q3.2
    else
      if a2 = 0 then
        some (a3, q3.2)
      else
        f_X3_nthDone_29 ih a0 (a2 + (-1)) a3  q3.2) n
theorem e_X3_nthDone_4 (n : Nat) {a0 : Nat} {a2 : Int32} {a3 : Int32} {σ : St} : f_X3_nthDone_4 (n + 1) a0 a2 a3 σ = (
  (gI 4 6 a0 σ).bind fun x1 =>
  if x1 ≤ a3 then
    some ((-1), σ)
  else
    (f_X3_isDone a0 a3 σ).bind fun q3 =>
    if q3.1 = 0 then
      f_X3_nthDone_29 (f_X3_nthDone_4 n) a0 a2 a3  q3.2
    else
      if a2 = 0 then
        some (a3, q3.2)
      else
        f_X3_nthDone_29 (f_X3_nthDone_4 n) a0 (a2 + (-1)) a3  q3.2) := rfl
noncomputable def f_X3_nthDone_0 (a0 : Nat) (a1 : Int32) (σ : St) : Option (Int32 × St) :=
  f_X3_nthDone_4 FU a0 a1 0  σ
noncomputable def f_X3_nthDone (a0 : Nat) (a1 : Int32) (σ : St) : Option (Int32 × St) := if hT σ a0 = 4 then f_X3_nthDone_0 a0 a1 σ else none
noncomputable def f_X3_waitersFor_43 (k4 : Nat → Int32 → Int32 → Int32 → St → Option (Int32 × St)) (a0 : Nat) (a1 : Int32) (a2 : Int32) (a3 : Int32) (σ : St) : Option (Int32 × St) :=
  k4 a0 a1 a2 (a3 + 1)  σ
noncomputable def f_X3_waitersFor_40 (k4 : Nat → Int32 → Int32 → Int32 → St → Option (Int32 × St)) (a0 : Nat) (a1 : Int32) (a2 : Int32) (a3 : Int32) (σ : St) : Option (Int32 × St) :=
  f_X3_waitersFor_43 k4 a0 a1 (a2 + 1) a3  σ
noncomputable def f_X3_waitersFor_4 (n : Nat) : Nat → Int32 → Int32 → Int32 → St → Option (Int32 × St) :=
  Nat.rec (motive := fun _ => Nat → Int32 → Int32 → Int32 → St → Option (Int32 × St)) (fun _ _ _ _ _ => none) (fun _ ih => fun a0 a1 a2 a3 σ =>
  (gI 4 6 a0 σ).bind fun x1 =>
  if x1 ≤ a3 then
    some (a2, σ)
  else
    (f_X3_isDone a0 a3 σ).bind fun q3 =>
    if q3.1 = 0 then
      (gR 4 9 a0 q3.2).bind fun x5 =>
      (aI 22 x5 a3 q3.2).bind fun x6 =>
      if x6 = a1 then
        f_X3_waitersFor_40 ih a0 a1 a2 a3  q3.2
      else
        (gR 4 10 a0 q3.2).bind fun x8 =>
        (aI 22 x8 a3 q3.2).bind fun x9 =>
        if x9 = a1 then
          f_X3_waitersFor_40 ih a0 a1 a2 a3  q3.2
        else
          f_X3_waitersFor_43 ih a0 a1 a2 a3  q3.2
    else
      f_X3_waitersFor_43 ih a0 a1 a2 a3  q3.2) n
theorem e_X3_waitersFor_4 (n : Nat) {a0 : Nat} {a1 : Int32} {a2 : Int32} {a3 : Int32} {σ : St} : f_X3_waitersFor_4 (n + 1) a0 a1 a2 a3 σ = (
  (gI 4 6 a0 σ).bind fun x1 =>
  if x1 ≤ a3 then
    some (a2, σ)
  else
    (f_X3_isDone a0 a3 σ).bind fun q3 =>
    if q3.1 = 0 then
      (gR 4 9 a0 q3.2).bind fun x5 =>
      (aI 22 x5 a3 q3.2).bind fun x6 =>
      if x6 = a1 then
        f_X3_waitersFor_40 (f_X3_waitersFor_4 n) a0 a1 a2 a3  q3.2
      else
        (gR 4 10 a0 q3.2).bind fun x8 =>
        (aI 22 x8 a3 q3.2).bind fun x9 =>
        if x9 = a1 then
          f_X3_waitersFor_40 (f_X3_waitersFor_4 n) a0 a1 a2 a3  q3.2
        else
          f_X3_waitersFor_43 (f_X3_waitersFor_4 n) a0 a1 a2 a3  q3.2
    else
      f_X3_waitersFor_43 (f_X3_waitersFor_4 n) a0 a1 a2 a3  q3.2) := rfl
noncomputable def f_X3_waitersFor_0 (a0 : Nat) (a1 : Int32) (σ : St) : Option (Int32 × St) :=
  f_X3_waitersFor_4 FU a0 a1 0 0  σ
noncomputable def f_X3_waitersFor (a0 : Nat) (a1 : Int32) (σ : St) : Option (Int32 × St) := if hT σ a0 = 4 then f_X3_waitersFor_0 a0 a1 σ else none
noncomputable def f_X4_init_0 (a0 : Nat) (σ : St) : Option (St) :=
  bnd (nw σ 22 8) fun σ1 =>
  (pP 5 0 a0 (hZ σ) σ1).bind fun σ2 =>
  some σ2
noncomputable def f_X4_init (a0 : Nat) (σ : St) : Option (St) := if hT σ a0 = 5 then f_X4_init_0 a0 σ else none
noncomputable def f_X5_clear_0 (a0 : Nat) (σ : St) : Option (St) :=
  (pI 6 5 a0 0 σ).bind fun σ1 =>
  (pI 6 12 a0 0 σ1).bind fun σ2 =>
  (pI 6 15 a0 0 σ2).bind fun σ3 =>
  some σ3
noncomputable def f_X5_clear (a0 : Nat) (σ : St) : Option (St) := if hT σ a0 = 6 then f_X5_clear_0 a0 σ else none
noncomputable def f_X5_emptyStep_18 (a0 : Nat) (a1 : Int32) (s0 : Int32) (σ : St) : Option (Int32 × St) :=
  (gR 6 6 a0 σ).bind fun x1 =>
  (xI x1 s0 a1 σ).bind fun σ2 =>
  (gR 6 7 a0 σ2).bind fun x3 =>
  (xI x3 s0 (-1) σ2).bind fun σ4 =>
  (gR 6 8 a0 σ4).bind fun x5 =>
  (xI x5 s0 (-1) σ4).bind fun σ6 =>
  (gR 6 9 a0 σ6).bind fun x7 =>
  (xI x7 s0 (-1) σ6).bind fun σ8 =>
  (gR 6 10 a0 σ8).bind fun x9 =>
  (xI x9 s0 0 σ8).bind fun σ10 =>
  (gR 6 11 a0 σ10).bind fun x11 =>
  (xZ x11 s0 0 σ10).bind fun σ12 =>
  some (s0, σ12)
noncomputable def f_X5_emptyStep_0 (a0 : Nat) (a1 : Int32) (σ : St) : Option (Int32 × St) :=
  (gI 6 5 a0 σ).bind fun x1 =>
  if 24 ≤ x1 then
    f_X5_emptyStep_18 a0 a1 23 σ
  else
    (gI 6 5 a0 σ).bind fun x3 =>
    f_X5_emptyStep_18 a0 a1 x3 σ
noncomputable def f_X5_emptyStep (a0 : Nat) (a1 : Int32) (σ : St) : Option (Int32 × St) := if hT σ a0 = 6 then f_X5_emptyStep_0 a0 a1 σ else none
noncomputable def f_X5_init_0 (a0 : Nat) (σ : St) : Option (St) :=
  bnd (nw σ 22 24) fun σ1 =>
  (pP 6 6 a0 (hZ σ) σ1).bind fun σ2 =>
  bnd (nw σ2 22 24) fun σ3 =>
  (pP 6 7 a0 (hZ σ2) σ3).bind fun σ4 =>
  bnd (nw σ4 22 24) fun σ5 =>
  (pP 6 8 a0 (hZ σ4) σ5).bind fun σ6 =>
  bnd (nw σ6 22 24) fun σ7 =>
  (pP 6 9 a0 (hZ σ6) σ7).bind fun σ8 =>
  bnd (nw σ8 22 24) fun σ9 =>
  (pP 6 10 a0 (hZ σ8) σ9).bind fun σ10 =>
  bnd (nw σ10 23 24) fun σ11 =>
  (pP 6 11 a0 (hZ σ10) σ11).bind fun σ12 =>
  bnd (nw σ12 22 4) fun σ13 =>
  (pP 6 13 a0 (hZ σ12) σ13).bind fun σ14 =>
  bnd (nw σ14 22 4) fun σ15 =>
  (pP 6 14 a0 (hZ σ14) σ15).bind fun σ16 =>
  bnd (nw σ16 22 6) fun σ17 =>
  (pP 6 16 a0 (hZ σ16) σ17).bind fun σ18 =>
  bnd (nw σ18 22 6) fun σ19 =>
  (pP 6 17 a0 (hZ σ18) σ19).bind fun σ20 =>
  some σ20
noncomputable def f_X5_init (a0 : Nat) (σ : St) : Option (St) := if hT σ a0 = 6 then f_X5_init_0 a0 σ else none
noncomputable def f_X5_isGot_2 (n : Nat) : Nat → Int32 → Int32 → St → Option (Int32 × St) :=
  Nat.rec (motive := fun _ => Nat → Int32 → Int32 → St → Option (Int32 × St)) (fun _ _ _ _ => none) (fun _ ih => fun a0 a1 a2 σ =>
  (gI 6 15 a0 σ).bind fun x1 =>
  if x1 ≤ a2 then
    some (0, σ)
  else
    (gR 6 16 a0 σ).bind fun x3 =>
    (aI 22 x3 a2 σ).bind fun x4 =>
    if x4 = a1 then
      some (1, σ)
    else
      ih a0 a1 (a2 + 1)  σ) n
theorem e_X5_isGot_2 (n : Nat) {a0 : Nat} {a1 : Int32} {a2 : Int32} {σ : St} : f_X5_isGot_2 (n + 1) a0 a1 a2 σ = (
  (gI 6 15 a0 σ).bind fun x1 =>
  if x1 ≤ a2 then
    some (0, σ)
  else
    (gR 6 16 a0 σ).bind fun x3 =>
    (aI 22 x3 a2 σ).bind fun x4 =>
    if x4 = a1 then
      some (1, σ)
    else
      (f_X5_isGot_2 n) a0 a1 (a2 + 1)  σ) := rfl
noncomputable def f_X5_isGot_0 (a0 : Nat) (a1 : Int32) (σ : St) : Option (Int32 × St) :=
  f_X5_isGot_2 FU a0 a1 0  σ
noncomputable def f_X5_isGot (a0 : Nat) (a1 : Int32) (σ : St) : Option (Int32 × St) := if hT σ a0 = 6 then f_X5_isGot_0 a0 a1 σ else none
noncomputable def f_X5_isUnsure_2 (n : Nat) : Nat → Int32 → Int32 → St → Option (Int32 × St) :=
  Nat.rec (motive := fun _ => Nat → Int32 → Int32 → St → Option (Int32 × St)) (fun _ _ _ _ => none) (fun _ ih => fun a0 a1 a2 σ =>
  (gI 6 12 a0 σ).bind fun x1 =>
  if x1 ≤ a2 then
    some (0, σ)
  else
    (gR 6 13 a0 σ).bind fun x3 =>
    (aI 22 x3 a2 σ).bind fun x4 =>
    if x4 = a1 then
      some (1, σ)
    else
      ih a0 a1 (a2 + 1)  σ) n
theorem e_X5_isUnsure_2 (n : Nat) {a0 : Nat} {a1 : Int32} {a2 : Int32} {σ : St} : f_X5_isUnsure_2 (n + 1) a0 a1 a2 σ = (
  (gI 6 12 a0 σ).bind fun x1 =>
  if x1 ≤ a2 then
    some (0, σ)
  else
    (gR 6 13 a0 σ).bind fun x3 =>
    (aI 22 x3 a2 σ).bind fun x4 =>
    if x4 = a1 then
      some (1, σ)
    else
      (f_X5_isUnsure_2 n) a0 a1 (a2 + 1)  σ) := rfl
noncomputable def f_X5_isUnsure_0 (a0 : Nat) (a1 : Int32) (σ : St) : Option (Int32 × St) :=
  f_X5_isUnsure_2 FU a0 a1 0  σ
noncomputable def f_X5_isUnsure (a0 : Nat) (a1 : Int32) (σ : St) : Option (Int32 × St) := if hT σ a0 = 6 then f_X5_isUnsure_0 a0 a1 σ else none
noncomputable def f_X6_advance_24  (σ : St) : Option (St) :=
  some σ
noncomputable def f_X6_advance_0 (a0 : Nat) (σ : St) : Option (St) :=
  (gI 7 4 a0 σ).bind fun x1 =>
  (gR 7 3 a0 σ).bind fun x2 =>
  (gI 8 3 x2 σ).bind fun x3 =>
  if x3 ≤ x1 then
    f_X6_advance_24  σ
  else
    (gI 7 4 a0 σ).bind fun x5 =>
    (pI 7 4 a0 (x5 + 1) σ).bind fun σ6 =>
    f_X6_advance_24  σ6
noncomputable def f_X6_advance (a0 : Nat) (σ : St) : Option (St) := if hT σ a0 = 7 then f_X6_advance_0 a0 σ else none
noncomputable def f_X6_fails_0 (a0 : Nat) (a1 : Int32) (σ : St) : Option (Int32 × St) :=
  (pI 7 0 a0 a1 σ).bind fun σ1 =>
  (gR 7 3 a0 σ1).bind fun x2 =>
  (gR 8 1 x2 σ1).bind fun x3 =>
  (gI 7 4 a0 σ1).bind fun x4 =>
  (aI 22 x3 x4 σ1).bind fun x5 =>
  (pI 7 1 a0 x5 σ1).bind fun σ6 =>
  some (0, σ6)
noncomputable def f_X6_fails (a0 : Nat) (a1 : Int32) (σ : St) : Option (Int32 × St) := if hT σ a0 = 7 then f_X6_fails_0 a0 a1 σ else none
noncomputable def f_X6_failsAt_0 (a0 : Nat) (a1 : Int32) (a2 : Int32) (σ : St) : Option (Int32 × St) :=
  (pI 7 0 a0 a1 σ).bind fun σ1 =>
  (pI 7 1 a0 a2 σ1).bind fun σ2 =>
  some (0, σ2)
noncomputable def f_X6_failsAt (a0 : Nat) (a1 : Int32) (a2 : Int32) (σ : St) : Option (Int32 × St) := if hT σ a0 = 7 then f_X6_failsAt_0 a0 a1 a2 σ else none
noncomputable def f_X7_init_0 (a0 : Nat) (σ : St) : Option (St) :=
  bnd (nw σ 22 901) fun σ1 =>
  (pP 8 0 a0 (hZ σ) σ1).bind fun σ2 =>
  bnd (nw σ2 22 901) fun σ3 =>
  (pP 8 1 a0 (hZ σ2) σ3).bind fun σ4 =>
  bnd (nw σ4 22 901) fun σ5 =>
  (pP 8 2 a0 (hZ σ4) σ5).bind fun σ6 =>
  some σ6
noncomputable def f_X7_init (a0 : Nat) (σ : St) : Option (St) := if hT σ a0 = 8 then f_X7_init_0 a0 σ else none
noncomputable def f_X6_init_0 (a0 : Nat) (a1 : Nat) (σ : St) : Option (St) :=
  bnd (nw σ 21 0) fun σ1 =>
  (pP 7 2 a0 (hZ σ) σ1).bind fun σ2 =>
  bnd (nw σ2 8 0) fun σ3 =>
  (f_X7_init (hZ σ2) σ3).bind fun σ4 =>
  (pP 7 3 a0 (hZ σ2) σ4).bind fun σ5 =>
  (pP 7 7 a0 a1 σ5).bind fun σ6 =>
  some σ6
noncomputable def f_X6_init (a0 : Nat) (a1 : Nat) (σ : St) : Option (St) := if hT σ a0 = 7 then f_X6_init_0 a0 a1 σ else none
noncomputable def f_X6_isWord_50  (σ : St) : Option (Int32 × St) :=
  some (0, σ)
noncomputable def f_X6_isWord_54 (n : Nat) : Nat → Nat → Int32 → Int32 → St → Option (Int32 × St) :=
  Nat.rec (motive := fun _ => Nat → Nat → Int32 → Int32 → St → Option (Int32 × St)) (fun _ _ _ _ _ => none) (fun _ ih => fun a0 a1 a2 a3 σ =>
  (f_J0_length_8abf5 a1 σ).bind fun q1 =>
  if q1.1 ≤ a3 then
    some (1, q1.2)
  else
    (gR 7 2 a0 q1.2).bind fun x3 =>
    (aI 21 x3 (a2 + a3) q1.2).bind fun x4 =>
    (f_J0_charAt_5068e a1 a3 q1.2).bind fun q5 =>
    if x4 = q5.1 then
      ih a0 a1 a2 (a3 + 1)  q5.2
    else
      some (0, q5.2)) n
theorem e_X6_isWord_54 (n : Nat) {a0 : Nat} {a1 : Nat} {a2 : Int32} {a3 : Int32} {σ : St} : f_X6_isWord_54 (n + 1) a0 a1 a2 a3 σ = (
  (f_J0_length_8abf5 a1 σ).bind fun q1 =>
  if q1.1 ≤ a3 then
    some (1, q1.2)
  else
    (gR 7 2 a0 q1.2).bind fun x3 =>
    (aI 21 x3 (a2 + a3) q1.2).bind fun x4 =>
    (f_J0_charAt_5068e a1 a3 q1.2).bind fun q5 =>
    if x4 = q5.1 then
      (f_X6_isWord_54 n) a0 a1 a2 (a3 + 1)  q5.2
    else
      some (0, q5.2)) := rfl
noncomputable def f_X6_isWord_0 (a0 : Nat) (a1 : Nat) (σ : St) : Option (Int32 × St) :=
  (gR 7 3 a0 σ).bind fun x1 =>
  (gR 8 1 x1 σ).bind fun x2 =>
  (gI 7 4 a0 σ).bind fun x3 =>
  (aI 22 x2 x3 σ).bind fun x4 =>
  (gR 7 3 a0 σ).bind fun x5 =>
  (gR 8 0 x5 σ).bind fun x6 =>
  (gI 7 4 a0 σ).bind fun x7 =>
  (aI 22 x6 x7 σ).bind fun x8 =>
  if x8 = 1 then
    (gR 7 3 a0 σ).bind fun x10 =>
    (gR 8 2 x10 σ).bind fun x11 =>
    (gI 7 4 a0 σ).bind fun x12 =>
    (aI 22 x11 x12 σ).bind fun x13 =>
    (f_J0_length_8abf5 a1 σ).bind fun q14 =>
    if (x13 - x4) = q14.1 then
      f_X6_isWord_54 FU a0 a1 x4 0  q14.2
    else
      f_X6_isWord_50  q14.2
  else
    f_X6_isWord_50  σ
noncomputable def f_X6_isWord (a0 : Nat) (a1 : Nat) (σ : St) : Option (Int32 × St) := if hT σ a0 = 7 then f_X6_isWord_0 a0 a1 σ else none
noncomputable def f_X6_wholeHere_15 (n : Nat) : Nat → Int32 → Int32 → St → Option (Int32 × St) :=
  Nat.rec (motive := fun _ => Nat → Int32 → Int32 → St → Option (Int32 × St)) (fun _ _ _ _ => none) (fun _ ih => fun a0 a1 a2 σ =>
  (gR 7 3 a0 σ).bind fun x1 =>
  (gR 8 2 x1 σ).bind fun x2 =>
  (gI 7 4 a0 σ).bind fun x3 =>
  (aI 22 x2 x3 σ).bind fun x4 =>
  if x4 ≤ a2 then
    some (a1, σ)
  else
    (gR 7 2 a0 σ).bind fun x6 =>
    (aI 21 x6 a2 σ).bind fun x7 =>
    bnd ((a1 * 10) + (x7 - 48)) fun x8 =>
    ih a0 x8 (a2 + 1)  σ) n
theorem e_X6_wholeHere_15 (n : Nat) {a0 : Nat} {a1 : Int32} {a2 : Int32} {σ : St} : f_X6_wholeHere_15 (n + 1) a0 a1 a2 σ = (
  (gR 7 3 a0 σ).bind fun x1 =>
  (gR 8 2 x1 σ).bind fun x2 =>
  (gI 7 4 a0 σ).bind fun x3 =>
  (aI 22 x2 x3 σ).bind fun x4 =>
  if x4 ≤ a2 then
    some (a1, σ)
  else
    (gR 7 2 a0 σ).bind fun x6 =>
    (aI 21 x6 a2 σ).bind fun x7 =>
    bnd ((a1 * 10) + (x7 - 48)) fun x8 =>
    (f_X6_wholeHere_15 n) a0 x8 (a2 + 1)  σ) := rfl
noncomputable def f_X6_wholeHere_0 (a0 : Nat) (σ : St) : Option (Int32 × St) :=
  (gR 7 3 a0 σ).bind fun x1 =>
  (gR 8 1 x1 σ).bind fun x2 =>
  (gI 7 4 a0 σ).bind fun x3 =>
  (aI 22 x2 x3 σ).bind fun x4 =>
  f_X6_wholeHere_15 FU a0 0 x4  σ
noncomputable def f_X6_wholeHere (a0 : Nat) (σ : St) : Option (Int32 × St) := if hT σ a0 = 7 then f_X6_wholeHere_0 a0 σ else none
noncomputable def f_X6_takesWhole_62 (a0 : Nat) (σ : St) : Option (Int32 × St) :=
  (f_X6_fails a0 4 σ).bind fun q1 =>
  if q1.1 = 0 ∨ q1.1 = 1 then some (q1.1, q1.2) else none
noncomputable def f_X6_takesWhole_0 (a0 : Nat) (a1 : Int32) (a2 : Int32) (σ : St) : Option (Int32 × St) :=
  (gR 7 3 a0 σ).bind fun x1 =>
  (gR 8 0 x1 σ).bind fun x2 =>
  (gI 7 4 a0 σ).bind fun x3 =>
  (aI 22 x2 x3 σ).bind fun x4 =>
  if x4 = 2 then
    (f_X6_wholeHere a0 σ).bind fun q6 =>
    (pI 7 5 a0 q6.1 q6.2).bind fun σ7 =>
    (gR 7 3 a0 σ7).bind fun x8 =>
    (gR 8 1 x8 σ7).bind fun x9 =>
    (gI 7 4 a0 σ7).bind fun x10 =>
    (aI 22 x9 x10 σ7).bind fun x11 =>
    (pI 7 6 a0 x11 σ7).bind fun σ12 =>
    (gI 7 5 a0 σ12).bind fun x13 =>
    if x13 < a1 then
      f_X6_takesWhole_62 a0  σ12
    else
      (gI 7 5 a0 σ12).bind fun x15 =>
      if x15 ≤ a2 then
        (f_X6_advance a0 σ12).bind fun σ17 =>
        some (1, σ17)
      else
        f_X6_takesWhole_62 a0  σ12
  else
    (f_X6_fails a0 1 σ).bind fun q18 =>
    if q18.1 = 0 ∨ q18.1 = 1 then some (q18.1, q18.2) else none
noncomputable def f_X6_takesWhole (a0 : Nat) (a1 : Int32) (a2 : Int32) (σ : St) : Option (Int32 × St) := if hT σ a0 = 7 then f_X6_takesWhole_0 a0 a1 a2 σ else none
noncomputable def f_X6_takesPair_0 (a0 : Nat) (a1 : Int32) (σ : St) : Option (Int32 × St) :=
  (f_X6_takesWhole a0 0 7 σ).bind fun q1 =>
  if q1.1 = 0 then
    some (0, q1.2)
  else
    (gR 7 7 a0 q1.2).bind fun x3 =>
    (gR 6 8 x3 q1.2).bind fun x4 =>
    (gI 7 5 a0 q1.2).bind fun x5 =>
    (xI x4 a1 x5 q1.2).bind fun σ6 =>
    (f_X6_takesWhole a0 0 7 σ6).bind fun q7 =>
    (gR 7 7 a0 q7.2).bind fun x8 =>
    (gR 6 9 x8 q7.2).bind fun x9 =>
    (gI 7 5 a0 q7.2).bind fun x10 =>
    (xI x9 a1 x10 q7.2).bind fun σ11 =>
    if q7.1 = 0 ∨ q7.1 = 1 then some (q7.1, σ11) else none
noncomputable def f_X6_takesPair (a0 : Nat) (a1 : Int32) (σ : St) : Option (Int32 × St) := if hT σ a0 = 7 then f_X6_takesPair_0 a0 a1 σ else none
noncomputable def f_X6_readChange_0 (a0 : Nat) (a1 : Int32) (σ : St) : Option (Int32 × St) :=
  (f_X6_advance a0 σ).bind fun σ1 =>
  (gR 7 7 a0 σ1).bind fun x2 =>
  (f_X5_emptyStep x2 a1 σ1).bind fun q3 =>
  (f_X6_takesWhole a0 0 7 q3.2).bind fun q4 =>
  if q4.1 = 0 then
    some (0, q4.2)
  else
    (gR 7 7 a0 q4.2).bind fun x6 =>
    (gR 6 7 x6 q4.2).bind fun x7 =>
    (gI 7 5 a0 q4.2).bind fun x8 =>
    (xI x7 q3.1 x8 q4.2).bind fun σ9 =>
    if a1 = 0 then
      (f_X6_takesWhole a0 0 9999 σ9).bind fun q18 =>
      (gR 7 7 a0 q18.2).bind fun x19 =>
      (gR 6 10 x19 q18.2).bind fun x20 =>
      (gI 7 5 a0 q18.2).bind fun x21 =>
      (xI x20 q3.1 x21 q18.2).bind fun σ22 =>
      if q18.1 = 0 ∨ q18.1 = 1 then some (q18.1, σ22) else none
    else
      if a1 = 4 then
        (f_X6_takesWhole a0 0 7 σ9).bind fun q13 =>
        (gR 7 7 a0 q13.2).bind fun x14 =>
        (gR 6 8 x14 q13.2).bind fun x15 =>
        (gI 7 5 a0 q13.2).bind fun x16 =>
        (xI x15 q3.1 x16 q13.2).bind fun σ17 =>
        if q13.1 = 0 ∨ q13.1 = 1 then some (q13.1, σ17) else none
      else
        (f_X6_takesPair a0 q3.1 σ9).bind fun q12 =>
        if q12.1 = 0 ∨ q12.1 = 1 then some (q12.1, q12.2) else none
noncomputable def f_X6_readChange (a0 : Nat) (a1 : Int32) (σ : St) : Option (Int32 × St) := if hT σ a0 = 7 then f_X6_readChange_0 a0 a1 σ else none
noncomputable def f_X6_takesWord_0 (a0 : Nat) (a1 : Nat) (σ : St) : Option (Int32 × St) :=
  (f_X6_isWord a0 a1 σ).bind fun q1 =>
  if q1.1 = 0 then
    (f_X6_fails a0 1 q1.2).bind fun q4 =>
    if q4.1 = 0 ∨ q4.1 = 1 then some (q4.1, q4.2) else none
  else
    (f_X6_advance a0 q1.2).bind fun σ3 =>
    some (1, σ3)
noncomputable def f_X6_takesWord (a0 : Nat) (a1 : Nat) (σ : St) : Option (Int32 × St) := if hT σ a0 = 7 then f_X6_takesWord_0 a0 a1 σ else none
noncomputable def f_X6_readCore_24  (σ : St) : Option (Int32 × St) :=
  some (0, σ)
noncomputable def f_X6_readCore_56  (σ : St) : Option (Int32 × St) :=
  some (0, σ)
noncomputable def f_X6_readCore_87  (σ : St) : Option (Int32 × St) :=
  some (0, σ)
noncomputable def f_X6_readCore_118  (σ : St) : Option (Int32 × St) :=
  some (0, σ)
noncomputable def f_X6_readCore_169 (s0 : Int32) (σ : St) : Option (Int32 × St) :=
  if s0 = 0 ∨ s0 = 1 then some (s0, σ) else none
noncomputable def f_X6_readCore_0 (a0 : Nat) (σ : St) : Option (Int32 × St) :=
  (f_X6_advance a0 σ).bind fun σ1 =>
  (f_X6_takesWord a0 9 σ1).bind fun q2 =>
  if q2.1 = 0 then
    f_X6_readCore_24  q2.2
  else
    (f_X6_takesWhole a0 9 24 q2.2).bind fun q4 =>
    if q4.1 = 0 then
      f_X6_readCore_24  q4.2
    else
      (gR 7 7 a0 q4.2).bind fun x6 =>
      (gI 7 5 a0 q4.2).bind fun x7 =>
      (pI 6 0 x6 x7 q4.2).bind fun σ8 =>
      (f_X6_takesWord a0 10 σ8).bind fun q9 =>
      if q9.1 = 0 then
        f_X6_readCore_56  q9.2
      else
        (f_X6_takesWhole a0 2 12 q9.2).bind fun q11 =>
        if q11.1 = 0 then
          f_X6_readCore_56  q11.2
        else
          (gR 7 7 a0 q11.2).bind fun x13 =>
          (gI 7 5 a0 q11.2).bind fun x14 =>
          (pI 6 1 x13 x14 q11.2).bind fun σ15 =>
          (f_X6_takesWord a0 11 σ15).bind fun q16 =>
          if q16.1 = 0 then
            f_X6_readCore_87  q16.2
          else
            (f_X6_takesWhole a0 0 4 q16.2).bind fun q18 =>
            if q18.1 = 0 then
              f_X6_readCore_87  q18.2
            else
              (gR 7 7 a0 q18.2).bind fun x20 =>
              (gI 7 5 a0 q18.2).bind fun x21 =>
              (pI 6 2 x20 x21 q18.2).bind fun σ22 =>
              (f_X6_takesWord a0 12 σ22).bind fun q23 =>
              if q23.1 = 0 then
                f_X6_readCore_118  q23.2
              else
                (f_X6_takesWhole a0 1 4 q23.2).bind fun q25 =>
                if q25.1 = 0 then
                  f_X6_readCore_118  q25.2
                else
                  (gR 7 7 a0 q25.2).bind fun x27 =>
                  (gI 7 5 a0 q25.2).bind fun x28 =>
                  (pI 6 3 x27 x28 q25.2).bind fun σ29 =>
                  (gR 7 7 a0 σ29).bind fun x30 =>
                  (f_X6_isWord a0 13 σ29).bind fun q31 =>
                  (pZ 6 4 x30 q31.1 q31.2).bind fun σ32 =>
                  (gR 7 7 a0 σ32).bind fun x33 =>
                  (gI 6 4 x33 σ32).bind fun x34 =>
                  if x34 = 0 then
                    (f_X6_takesWord a0 14 σ32).bind fun q36 =>
                    f_X6_readCore_169 q36.1 q36.2
                  else
                    (f_X6_takesWord a0 13 σ32).bind fun q37 =>
                    f_X6_readCore_169 q37.1 q37.2
noncomputable def f_X6_readCore (a0 : Nat) (σ : St) : Option (Int32 × St) := if hT σ a0 = 7 then f_X6_readCore_0 a0 σ else none
noncomputable def f_X6_readGot_0 (a0 : Nat) (σ : St) : Option (Int32 × St) :=
  (f_X6_advance a0 σ).bind fun σ1 =>
  (f_X6_takesWhole a0 0 7 σ1).bind fun q2 =>
  if q2.1 = 0 then
    some (0, q2.2)
  else
    (gI 7 5 a0 q2.2).bind fun x4 =>
    (gR 7 7 a0 q2.2).bind fun x5 =>
    (f_X5_isGot x5 x4 q2.2).bind fun q6 =>
    if q6.1 = 0 then
      (f_X6_takesWhole a0 0 9999 q6.2).bind fun q8 =>
      if q8.1 = 0 then
        some (0, q8.2)
      else
        (gR 7 7 a0 q8.2).bind fun x10 =>
        (gR 6 16 x10 q8.2).bind fun x11 =>
        (gR 7 7 a0 q8.2).bind fun x12 =>
        (gI 6 15 x12 q8.2).bind fun x13 =>
        (xI x11 x13 x4 q8.2).bind fun σ14 =>
        (gR 7 7 a0 σ14).bind fun x15 =>
        (gR 6 17 x15 σ14).bind fun x16 =>
        (gR 7 7 a0 σ14).bind fun x17 =>
        (gI 6 15 x17 σ14).bind fun x18 =>
        (gI 7 5 a0 σ14).bind fun x19 =>
        (xI x16 x18 x19 σ14).bind fun σ20 =>
        (gR 7 7 a0 σ20).bind fun x21 =>
        (gI 6 15 x21 σ20).bind fun x22 =>
        (pI 6 15 x21 (x22 + 1) σ20).bind fun σ23 =>
        some (1, σ23)
    else
      (gI 7 6 a0 q6.2).bind fun x24 =>
      (f_X6_failsAt a0 3 x24 q6.2).bind fun q25 =>
      if q25.1 = 0 ∨ q25.1 = 1 then some (q25.1, q25.2) else none
noncomputable def f_X6_readGot (a0 : Nat) (σ : St) : Option (Int32 × St) := if hT σ a0 = 7 then f_X6_readGot_0 a0 σ else none
noncomputable def f_X6_sortOfLine_105 (s0 : Int32) (σ : St) : Option (Int32 × St) :=
  some (s0, σ)
noncomputable def f_X6_sortOfLine_0 (a0 : Nat) (σ : St) : Option (Int32 × St) :=
  (f_X6_isWord a0 0 σ).bind fun q1 =>
  if q1.1 = 0 then
    (f_X6_isWord a0 1 q1.2).bind fun q3 =>
    if q3.1 = 0 then
      (f_X6_isWord a0 2 q3.2).bind fun q5 =>
      if q5.1 = 0 then
        (f_X6_isWord a0 3 q5.2).bind fun q7 =>
        if q7.1 = 0 then
          (f_X6_isWord a0 4 q7.2).bind fun q9 =>
          if q9.1 = 0 then
            (f_X6_isWord a0 5 q9.2).bind fun q11 =>
            if q11.1 = 0 then
              (f_X6_isWord a0 6 q11.2).bind fun q13 =>
              if q13.1 = 0 then
                (f_X6_isWord a0 7 q13.2).bind fun q15 =>
                if q15.1 = 0 then
                  (f_X6_isWord a0 8 q15.2).bind fun q17 =>
                  if q17.1 = 0 then
                    f_X6_sortOfLine_105 (-1) q17.2
                  else
                    f_X6_sortOfLine_105 8 q17.2
                else
                  some (7, q15.2)
              else
                some (6, q13.2)
            else
              some (5, q11.2)
          else
            some (4, q9.2)
        else
          some (3, q7.2)
      else
        some (2, q5.2)
    else
      some (1, q3.2)
  else
    some (0, q1.2)
noncomputable def f_X6_sortOfLine (a0 : Nat) (σ : St) : Option (Int32 × St) := if hT σ a0 = 7 then f_X6_sortOfLine_0 a0 σ else none
noncomputable def f_X6_readUnsure_45 (a0 : Nat) (σ : St) : Option (Int32 × St) :=
  (gI 7 6 a0 σ).bind fun x1 =>
  (f_X6_failsAt a0 2 x1 σ).bind fun q2 =>
  if q2.1 = 0 ∨ q2.1 = 1 then some (q2.1, q2.2) else none
noncomputable def f_X6_readUnsure_0 (a0 : Nat) (σ : St) : Option (Int32 × St) :=
  (f_X6_advance a0 σ).bind fun σ1 =>
  (f_X6_takesWhole a0 0 9999 σ1).bind fun q2 =>
  if q2.1 = 0 then
    some (0, q2.2)
  else
    (gI 7 5 a0 q2.2).bind fun x4 =>
    (gR 7 7 a0 q2.2).bind fun x5 =>
    (f_X5_has x5 x4 q2.2).bind fun q6 =>
    if q6.1 = 0 then
      f_X6_readUnsure_45 a0  q6.2
    else
      (gR 7 7 a0 q6.2).bind fun x8 =>
      (gR 6 6 x8 q6.2).bind fun x9 =>
      (aI 22 x9 x4 q6.2).bind fun x10 =>
      if x10 = 0 then
        (gR 7 7 a0 q6.2).bind fun x12 =>
        (f_X5_isUnsure x12 x4 q6.2).bind fun q13 =>
        if q13.1 = 0 then
          (f_X6_takesWhole a0 0 9999 q13.2).bind fun q15 =>
          if q15.1 = 0 then
            some (0, q15.2)
          else
            (gR 7 7 a0 q15.2).bind fun x17 =>
            (gR 6 13 x17 q15.2).bind fun x18 =>
            (gR 7 7 a0 q15.2).bind fun x19 =>
            (gI 6 12 x19 q15.2).bind fun x20 =>
            (xI x18 x20 x4 q15.2).bind fun σ21 =>
            (gR 7 7 a0 σ21).bind fun x22 =>
            (gR 6 14 x22 σ21).bind fun x23 =>
            (gR 7 7 a0 σ21).bind fun x24 =>
            (gI 6 12 x24 σ21).bind fun x25 =>
            (gI 7 5 a0 σ21).bind fun x26 =>
            (xI x23 x25 x26 σ21).bind fun σ27 =>
            (gR 7 7 a0 σ27).bind fun x28 =>
            (gI 6 12 x28 σ27).bind fun x29 =>
            (pI 6 12 x28 (x29 + 1) σ27).bind fun σ30 =>
            some (1, σ30)
        else
          (gI 7 6 a0 q13.2).bind fun x31 =>
          (f_X6_failsAt a0 3 x31 q13.2).bind fun q32 =>
          if q32.1 = 0 ∨ q32.1 = 1 then some (q32.1, q32.2) else none
      else
        f_X6_readUnsure_45 a0  q6.2
noncomputable def f_X6_readUnsure (a0 : Nat) (σ : St) : Option (Int32 × St) := if hT σ a0 = 7 then f_X6_readUnsure_0 a0 σ else none
noncomputable def f_X6_readSkip_31  (σ : St) : Option (Int32 × St) :=
  some (0, σ)
noncomputable def f_X6_readSkip_88 (s0 : Int32) (σ : St) : Option (Int32 × St) :=
  if s0 = 0 ∨ s0 = 1 then some (s0, σ) else none
noncomputable def f_X6_readSkip_0 (a0 : Nat) (σ : St) : Option (Int32 × St) :=
  (f_X6_advance a0 σ).bind fun σ1 =>
  (gR 7 7 a0 σ1).bind fun x2 =>
  (f_X5_emptyStep x2 5 σ1).bind fun q3 =>
  (f_X6_takesPair a0 q3.1 q3.2).bind fun q4 =>
  if q4.1 = 0 then
    f_X6_readSkip_31  q4.2
  else
    (f_X6_takesWhole a0 0 24 q4.2).bind fun q6 =>
    if q6.1 = 0 then
      f_X6_readSkip_31  q6.2
    else
      (gR 7 7 a0 q6.2).bind fun x8 =>
      (gR 6 10 x8 q6.2).bind fun x9 =>
      (gI 7 5 a0 q6.2).bind fun x10 =>
      (xI x9 q3.1 x10 q6.2).bind fun σ11 =>
      (gR 7 7 a0 σ11).bind fun x12 =>
      (gR 6 11 x12 σ11).bind fun x13 =>
      (f_X6_isWord a0 15 σ11).bind fun q14 =>
      (xZ x13 q3.1 q14.1 q14.2).bind fun σ15 =>
      (gR 7 7 a0 σ15).bind fun x16 =>
      (gR 6 11 x16 σ15).bind fun x17 =>
      (aI 23 x17 q3.1 σ15).bind fun x18 =>
      if x18 = 0 then
        (f_X6_takesWord a0 16 σ15).bind fun q20 =>
        f_X6_readSkip_88 q20.1 q20.2
      else
        (f_X6_takesWord a0 15 σ15).bind fun q21 =>
        f_X6_readSkip_88 q21.1 q21.2
noncomputable def f_X6_readSkip (a0 : Nat) (σ : St) : Option (Int32 × St) := if hT σ a0 = 7 then f_X6_readSkip_0 a0 σ else none
noncomputable def f_X6_readLine_163 (a3 : Int32) (s0 : Nat) (s1 : Int32) (s2 : Int32) (σ : St) : Option (Int32 × St) :=
  (pI 6 5 s0 (s1 + s2) σ).bind fun σ1 =>
  if a3 = 0 ∨ a3 = 1 then some (a3, σ1) else none
noncomputable def f_X6_readLine_145 (a0 : Nat) (s0 : Int32) (σ : St) : Option (Int32 × St) :=
  (gR 7 7 a0 σ).bind fun x1 =>
  (gI 6 5 x1 σ).bind fun x2 =>
  if s0 = 0 then
    f_X6_readLine_163 s0 x1 x2 0 σ
  else
    f_X6_readLine_163 s0 x1 x2 1 σ
noncomputable def f_X6_readLine_109 (s0 : Int32) (σ : St) : Option (Int32 × St) :=
  if s0 = 0 ∨ s0 = 1 then some (s0, σ) else none
noncomputable def f_X6_readLine_78 (s0 : Int32) (σ : St) : Option (Int32 × St) :=
  if s0 = 0 ∨ s0 = 1 then some (s0, σ) else none
noncomputable def f_X6_readLine_37 (s0 : Int32) (σ : St) : Option (Int32 × St) :=
  if s0 = 0 ∨ s0 = 1 then some (s0, σ) else none
noncomputable def f_X6_readLine_0 (a0 : Nat) (a1 : Int32) (σ : St) : Option (Int32 × St) :=
  (f_X6_sortOfLine a0 σ).bind fun q1 =>
  if 0 ≤ q1.1 then
    if q1.1 = 6 then
      if a1 = 0 then
        (f_X6_readCore a0 q1.2).bind fun q27 =>
        f_X6_readLine_37 q27.1 q27.2
      else
        (f_X6_fails a0 3 q1.2).bind fun q26 =>
        f_X6_readLine_37 q26.1 q26.2
    else
      if a1 = 0 then
        (f_X6_fails a0 6 q1.2).bind fun q24 =>
        if q24.1 = 0 ∨ q24.1 = 1 then some (q24.1, q24.2) else none
      else
        if q1.1 = 7 then
          (gR 7 7 a0 q1.2).bind fun x19 =>
          (gI 6 12 x19 q1.2).bind fun x20 =>
          if 4 ≤ x20 then
            (f_X6_fails a0 5 q1.2).bind fun q22 =>
            f_X6_readLine_78 q22.1 q22.2
          else
            (f_X6_readUnsure a0 q1.2).bind fun q23 =>
            f_X6_readLine_78 q23.1 q23.2
        else
          if q1.1 = 8 then
            (gR 7 7 a0 q1.2).bind fun x14 =>
            (gI 6 15 x14 q1.2).bind fun x15 =>
            if 6 ≤ x15 then
              (f_X6_fails a0 5 q1.2).bind fun q17 =>
              f_X6_readLine_109 q17.1 q17.2
            else
              (f_X6_readGot a0 q1.2).bind fun q18 =>
              f_X6_readLine_109 q18.1 q18.2
          else
            (gR 7 7 a0 q1.2).bind fun x7 =>
            (gI 6 5 x7 q1.2).bind fun x8 =>
            if x8 < 24 then
              if q1.1 = 5 then
                (f_X6_readSkip a0 q1.2).bind fun q12 =>
                f_X6_readLine_145 a0 q12.1 q12.2
              else
                (f_X6_readChange a0 q1.1 q1.2).bind fun q11 =>
                f_X6_readLine_145 a0 q11.1 q11.2
            else
              (f_X6_fails a0 5 q1.2).bind fun q13 =>
              if q13.1 = 0 ∨ q13.1 = 1 then some (q13.1, q13.2) else none
  else
    (f_X6_fails a0 1 q1.2).bind fun q28 =>
    if q28.1 = 0 ∨ q28.1 = 1 then some (q28.1, q28.2) else none
noncomputable def f_X6_readLine (a0 : Nat) (a1 : Int32) (σ : St) : Option (Int32 × St) := if hT σ a0 = 7 then f_X6_readLine_0 a0 a1 σ else none
noncomputable def f_X7_pastBlanks_21 (a3 : Int32) (σ : St) : Option (Int32 × St) :=
  some (a3, σ)
noncomputable def f_X7_pastBlanks_2 (n : Nat) : Nat → Int32 → Int32 → St → Option (Int32 × St) :=
  Nat.rec (motive := fun _ => Nat → Int32 → Int32 → St → Option (Int32 × St)) (fun _ _ _ _ => none) (fun _ ih => fun a0 a2 a3 σ =>
  if a2 ≤ a3 then
    f_X7_pastBlanks_21 a3  σ
  else
    (aI 21 a0 a3 σ).bind fun x2 =>
    if x2 = 32 then
      ih a0 a2 (a3 + 1)  σ
    else
      f_X7_pastBlanks_21 a3  σ) n
theorem e_X7_pastBlanks_2 (n : Nat) {a0 : Nat} {a2 : Int32} {a3 : Int32} {σ : St} : f_X7_pastBlanks_2 (n + 1) a0 a2 a3 σ = (
  if a2 ≤ a3 then
    f_X7_pastBlanks_21 a3  σ
  else
    (aI 21 a0 a3 σ).bind fun x2 =>
    if x2 = 32 then
      (f_X7_pastBlanks_2 n) a0 a2 (a3 + 1)  σ
    else
      f_X7_pastBlanks_21 a3  σ) := rfl
noncomputable def f_X7_pastBlanks_0 (a0 : Nat) (a1 : Int32) (a2 : Int32) (σ : St) : Option (Int32 × St) :=
  f_X7_pastBlanks_2 FU a0 a2 a1  σ
noncomputable def f_X7_pastBlanks (a0 : Nat) (a1 : Int32) (a2 : Int32) (σ : St) : Option (Int32 × St) := f_X7_pastBlanks_0 a0 a1 a2 σ
noncomputable def f_X7_isLetter_17 (s0 : Int32) (σ : St) : Option (Int32 × St) :=
  if s0 = 0 ∨ s0 = 1 then some (s0, σ) else none
noncomputable def f_X7_isLetter_16  (σ : St) : Option (Int32 × St) :=
  f_X7_isLetter_17 0 σ
noncomputable def f_X7_isLetter_0 (a0 : Int32) (σ : St) : Option (Int32 × St) :=
  if a0 < 97 then
    f_X7_isLetter_16  σ
  else
    if 122 < a0 then
      f_X7_isLetter_16  σ
    else
      f_X7_isLetter_17 1 σ
noncomputable def f_X7_isLetter (a0 : Int32) (σ : St) : Option (Int32 × St) := f_X7_isLetter_0 a0 σ
noncomputable def f_X7_isDigit_17 (s0 : Int32) (σ : St) : Option (Int32 × St) :=
  if s0 = 0 ∨ s0 = 1 then some (s0, σ) else none
noncomputable def f_X7_isDigit_16  (σ : St) : Option (Int32 × St) :=
  f_X7_isDigit_17 0 σ
noncomputable def f_X7_isDigit_0 (a0 : Int32) (σ : St) : Option (Int32 × St) :=
  if a0 < 48 then
    f_X7_isDigit_16  σ
  else
    if 57 < a0 then
      f_X7_isDigit_16  σ
    else
      f_X7_isDigit_17 1 σ
noncomputable def f_X7_isDigit (a0 : Int32) (σ : St) : Option (Int32 × St) := f_X7_isDigit_0 a0 σ
noncomputable def f_X7_runEnd_61 (a5 : Int32) (σ : St) : Option (Int32 × St) :=
  some (a5, σ)
noncomputable def f_X7_runEnd_55 (k20 : Nat → Int32 → Int32 → Int32 → Int32 → St → Option (Int32 × St)) (a0 : Nat) (a2 : Int32) (a3 : Int32) (a4 : Int32) (a5 : Int32) (σ : St) : Option (Int32 × St) :=
  k20 a0 a2 a3 a4 (a5 + 1)  σ
noncomputable def f_X7_runEnd_40 (k20 : Nat → Int32 → Int32 → Int32 → Int32 → St → Option (Int32 × St)) (a0 : Nat) (a2 : Int32) (a3 : Int32) (a4 : Int32) (a5 : Int32) (σ : St) : Option (Int32 × St) :=
  if a4 = 0 then
    f_X7_runEnd_61 a5  σ
  else
    (aI 21 a0 a5 σ).bind fun x2 =>
    (f_X7_isDigit x2 σ).bind fun q3 =>
    if q3.1 = 0 then
      f_X7_runEnd_61 a5  q3.2
    else
      f_X7_runEnd_55 k20 a0 a2 a3 a4 a5  q3.2
noncomputable def f_X7_runEnd_20 (n : Nat) : Nat → Int32 → Int32 → Int32 → Int32 → St → Option (Int32 × St) :=
  Nat.rec (motive := fun _ => Nat → Int32 → Int32 → Int32 → Int32 → St → Option (Int32 × St)) (fun _ _ _ _ _ _ => none) (fun _ ih => fun a0 a2 a3 a4 a5 σ =>
  if a2 ≤ a5 then
    f_X7_runEnd_61 a5  σ
  else
    if a3 = 0 then
      f_X7_runEnd_40 ih a0 a2 a3 a4 a5  σ
    else
      (aI 21 a0 a5 σ).bind fun x3 =>
      (f_X7_isLetter x3 σ).bind fun q4 =>
      if q4.1 = 0 then
        f_X7_runEnd_40 ih a0 a2 a3 a4 a5  q4.2
      else
        f_X7_runEnd_55 ih a0 a2 a3 a4 a5  q4.2) n
theorem e_X7_runEnd_20 (n : Nat) {a0 : Nat} {a2 : Int32} {a3 : Int32} {a4 : Int32} {a5 : Int32} {σ : St} : f_X7_runEnd_20 (n + 1) a0 a2 a3 a4 a5 σ = (
  if a2 ≤ a5 then
    f_X7_runEnd_61 a5  σ
  else
    if a3 = 0 then
      f_X7_runEnd_40 (f_X7_runEnd_20 n) a0 a2 a3 a4 a5  σ
    else
      (aI 21 a0 a5 σ).bind fun x3 =>
      (f_X7_isLetter x3 σ).bind fun q4 =>
      if q4.1 = 0 then
        f_X7_runEnd_40 (f_X7_runEnd_20 n) a0 a2 a3 a4 a5  q4.2
      else
        f_X7_runEnd_55 (f_X7_runEnd_20 n) a0 a2 a3 a4 a5  q4.2) := rfl
noncomputable def f_X7_runEnd_0 (a0 : Nat) (a1 : Int32) (a2 : Int32) (σ : St) : Option (Int32 × St) :=
  (aI 21 a0 a1 σ).bind fun x1 =>
  (f_X7_isLetter x1 σ).bind fun q2 =>
  (aI 21 a0 a1 q2.2).bind fun x3 =>
  (f_X7_isDigit x3 q2.2).bind fun q4 =>
  bnd (a1 + 1) fun x5 =>
  f_X7_runEnd_20 FU a0 a2 q2.1 q4.1 x5  q4.2
noncomputable def f_X7_runEnd (a0 : Nat) (a1 : Int32) (a2 : Int32) (σ : St) : Option (Int32 × St) := f_X7_runEnd_0 a0 a1 a2 σ
noncomputable def f_X7_sortOf_48 (s0 : Int32) (σ : St) : Option (Int32 × St) :=
  some (s0, σ)
noncomputable def f_X7_sortOf_36 (s0 : Int32) (σ : St) : Option (Int32 × St) :=
  some (s0, σ)
noncomputable def f_X7_sortOf_18 (s0 : Int32) (σ : St) : Option (Int32 × St) :=
  some (s0, σ)
noncomputable def f_X7_sortOf_0 (a0 : Int32) (a1 : Int32) (σ : St) : Option (Int32 × St) :=
  (f_X7_isLetter a0 σ).bind fun q1 =>
  if q1.1 = 0 then
    (f_X7_isDigit a0 q1.2).bind fun q3 =>
    if q3.1 = 0 then
      if a0 = 59 then
        f_X7_sortOf_48 3 q3.2
      else
        f_X7_sortOf_48 4 q3.2
    else
      if 4 < a1 then
        f_X7_sortOf_36 4 q3.2
      else
        f_X7_sortOf_36 2 q3.2
  else
    if 8 < a1 then
      f_X7_sortOf_18 4 q1.2
    else
      f_X7_sortOf_18 1 q1.2
noncomputable def f_X7_sortOf (a0 : Int32) (a1 : Int32) (σ : St) : Option (Int32 × St) := f_X7_sortOf_0 a0 a1 σ
noncomputable def f_X7_part_103 (a0 : Nat) (a2 : Int32) (a4 : Int32) (σ : St) : Option (St) :=
  (gR 8 1 a0 σ).bind fun x1 =>
  (xI x1 a4 a2 σ).bind fun σ2 =>
  (gR 8 2 a0 σ2).bind fun x3 =>
  (xI x3 a4 a2 σ2).bind fun σ4 =>
  (gR 8 0 a0 σ4).bind fun x5 =>
  (xI x5 a4 0 σ4).bind fun σ6 =>
  (pI 8 3 a0 a4 σ6).bind fun σ7 =>
  some σ7
noncomputable def f_X7_part_10 (n : Nat) : Nat → Nat → Int32 → Int32 → Int32 → St → Option (St) :=
  Nat.rec (motive := fun _ => Nat → Nat → Int32 → Int32 → Int32 → St → Option (St)) (fun _ _ _ _ _ _ => none) (fun _ ih => fun a0 a1 a2 a3 a4 σ =>
  if a2 ≤ a3 then
    f_X7_part_103 a0 a2 a4  σ
  else
    if 900 ≤ a4 then
      f_X7_part_103 a0 a2 a4  σ
    else
      (gR 8 1 a0 σ).bind fun x3 =>
      (xI x3 a4 a3 σ).bind fun σ4 =>
      (gR 8 2 a0 σ4).bind fun x5 =>
      (f_X7_runEnd a1 a3 a2 σ4).bind fun q6 =>
      (xI x5 a4 q6.1 q6.2).bind fun σ7 =>
      (gR 8 0 a0 σ7).bind fun x8 =>
      (aI 21 a1 a3 σ7).bind fun x9 =>
      (gR 8 2 a0 σ7).bind fun x10 =>
      (aI 22 x10 a4 σ7).bind fun x11 =>
      (f_X7_sortOf x9 (x11 - a3) σ7).bind fun q12 =>
      (xI x8 a4 q12.1 q12.2).bind fun σ13 =>
      (gR 8 0 a0 σ13).bind fun x14 =>
      (aI 22 x14 a4 σ13).bind fun x15 =>
      if x15 = 4 then
        (pI 8 3 a0 a4 σ13).bind fun σ20 =>
        some σ20
      else
        (gR 8 2 a0 σ13).bind fun x17 =>
        (aI 22 x17 a4 σ13).bind fun x18 =>
        (f_X7_pastBlanks a1 x18 a2 σ13).bind fun q19 =>
        ih a0 a1 a2 q19.1 (a4 + 1)  q19.2) n
theorem e_X7_part_10 (n : Nat) {a0 : Nat} {a1 : Nat} {a2 : Int32} {a3 : Int32} {a4 : Int32} {σ : St} : f_X7_part_10 (n + 1) a0 a1 a2 a3 a4 σ = (
  if a2 ≤ a3 then
    f_X7_part_103 a0 a2 a4  σ
  else
    if 900 ≤ a4 then
      f_X7_part_103 a0 a2 a4  σ
    else
      (gR 8 1 a0 σ).bind fun x3 =>
      (xI x3 a4 a3 σ).bind fun σ4 =>
      (gR 8 2 a0 σ4).bind fun x5 =>
      (f_X7_runEnd a1 a3 a2 σ4).bind fun q6 =>
      (xI x5 a4 q6.1 q6.2).bind fun σ7 =>
      (gR 8 0 a0 σ7).bind fun x8 =>
      (aI 21 a1 a3 σ7).bind fun x9 =>
      (gR 8 2 a0 σ7).bind fun x10 =>
      (aI 22 x10 a4 σ7).bind fun x11 =>
      (f_X7_sortOf x9 (x11 - a3) σ7).bind fun q12 =>
      (xI x8 a4 q12.1 q12.2).bind fun σ13 =>
      (gR 8 0 a0 σ13).bind fun x14 =>
      (aI 22 x14 a4 σ13).bind fun x15 =>
      if x15 = 4 then
        (pI 8 3 a0 a4 σ13).bind fun σ20 =>
        some σ20
      else
        (gR 8 2 a0 σ13).bind fun x17 =>
        (aI 22 x17 a4 σ13).bind fun x18 =>
        (f_X7_pastBlanks a1 x18 a2 σ13).bind fun q19 =>
        (f_X7_part_10 n) a0 a1 a2 q19.1 (a4 + 1)  q19.2) := rfl
noncomputable def f_X7_part_0 (a0 : Nat) (a1 : Nat) (a2 : Int32) (σ : St) : Option (St) :=
  (f_X7_pastBlanks a1 0 a2 σ).bind fun q1 =>
  f_X7_part_10 FU a0 a1 a2 q1.1 0  q1.2
noncomputable def f_X7_part (a0 : Nat) (a1 : Nat) (a2 : Int32) (σ : St) : Option (St) := if hT σ a0 = 8 then f_X7_part_0 a0 a1 a2 σ else none
noncomputable def f_X6_reads_118 (s0 : Int32) (σ : St) : Option (Int32 × St) :=
  if s0 = 0 ∨ s0 = 1 then some (s0, σ) else none
noncomputable def f_X6_reads_113  (σ : St) : Option (Int32 × St) :=
  f_X6_reads_118 1 σ
noncomputable def f_X6_reads_61 (n : Nat) : Nat → Int32 → Int32 → St → Option (Int32 × St) :=
  Nat.rec (motive := fun _ => Nat → Int32 → Int32 → St → Option (Int32 × St)) (fun _ _ _ _ => none) (fun _ ih => fun a0 a4 a5 σ =>
  if a4 < a5 then
    (f_X6_fails a0 1 σ).bind fun q2 =>
    if q2.1 = 0 ∨ q2.1 = 1 then some (q2.1, q2.2) else none
  else
    (f_X6_readLine a0 a5 σ).bind fun q3 =>
    if q3.1 = 0 then
      some (0, q3.2)
    else
      (gR 7 3 a0 q3.2).bind fun x5 =>
      (gR 8 0 x5 q3.2).bind fun x6 =>
      (gI 7 4 a0 q3.2).bind fun x7 =>
      (aI 22 x6 x7 q3.2).bind fun x8 =>
      if x8 = 0 then
        (gR 7 7 a0 q3.2).bind fun x17 =>
        (gI 6 5 x17 q3.2).bind fun x18 =>
        if 0 < x18 then
          f_X6_reads_113  q3.2
        else
          (f_X6_fails a0 6 q3.2).bind fun q20 =>
          if q20.1 = 0 then
            f_X6_reads_118 0 q20.2
          else
            f_X6_reads_113  q20.2
      else
        (gR 7 3 a0 q3.2).bind fun x10 =>
        (gR 8 0 x10 q3.2).bind fun x11 =>
        (gI 7 4 a0 q3.2).bind fun x12 =>
        (aI 22 x11 x12 q3.2).bind fun x13 =>
        if x13 = 3 then
          (f_X6_advance a0 q3.2).bind fun σ15 =>
          ih a0 a4 (a5 + 1)  σ15
        else
          (f_X6_fails a0 1 q3.2).bind fun q16 =>
          if q16.1 = 0 ∨ q16.1 = 1 then some (q16.1, q16.2) else none) n
theorem e_X6_reads_61 (n : Nat) {a0 : Nat} {a4 : Int32} {a5 : Int32} {σ : St} : f_X6_reads_61 (n + 1) a0 a4 a5 σ = (
  if a4 < a5 then
    (f_X6_fails a0 1 σ).bind fun q2 =>
    if q2.1 = 0 ∨ q2.1 = 1 then some (q2.1, q2.2) else none
  else
    (f_X6_readLine a0 a5 σ).bind fun q3 =>
    if q3.1 = 0 then
      some (0, q3.2)
    else
      (gR 7 3 a0 q3.2).bind fun x5 =>
      (gR 8 0 x5 q3.2).bind fun x6 =>
      (gI 7 4 a0 q3.2).bind fun x7 =>
      (aI 22 x6 x7 q3.2).bind fun x8 =>
      if x8 = 0 then
        (gR 7 7 a0 q3.2).bind fun x17 =>
        (gI 6 5 x17 q3.2).bind fun x18 =>
        if 0 < x18 then
          f_X6_reads_113  q3.2
        else
          (f_X6_fails a0 6 q3.2).bind fun q20 =>
          if q20.1 = 0 then
            f_X6_reads_118 0 q20.2
          else
            f_X6_reads_113  q20.2
      else
        (gR 7 3 a0 q3.2).bind fun x10 =>
        (gR 8 0 x10 q3.2).bind fun x11 =>
        (gI 7 4 a0 q3.2).bind fun x12 =>
        (aI 22 x11 x12 q3.2).bind fun x13 =>
        if x13 = 3 then
          (f_X6_advance a0 q3.2).bind fun σ15 =>
          (f_X6_reads_61 n) a0 a4 (a5 + 1)  σ15
        else
          (f_X6_fails a0 1 q3.2).bind fun q16 =>
          if q16.1 = 0 ∨ q16.1 = 1 then some (q16.1, q16.2) else none) := rfl
noncomputable def f_X6_reads_14 (a0 : Nat) (a1 : Nat) (a3 : Nat) (s0 : Int32) (σ : St) : Option (Int32 × St) :=
  (pP 7 2 a0 a1 σ).bind fun σ1 =>
  (gR 7 3 a0 σ1).bind fun x2 =>
  (f_X7_part x2 a1 s0 σ1).bind fun σ3 =>
  (pI 7 4 a0 0 σ3).bind fun σ4 =>
  (pI 7 0 a0 0 σ4).bind fun σ5 =>
  (pI 7 1 a0 0 σ5).bind fun σ6 =>
  (pP 7 7 a0 a3 σ6).bind fun σ7 =>
  (gR 7 7 a0 σ7).bind fun x8 =>
  (f_X5_clear x8 σ7).bind fun σ9 =>
  f_X6_reads_61 FU a0 s0 0  σ9
noncomputable def f_X6_reads_0 (a0 : Nat) (a1 : Nat) (a2 : Int32) (a3 : Nat) (σ : St) : Option (Int32 × St) :=
  if 0 ≤ a2 then
    (aN a1 σ).bind fun x2 =>
    f_X6_reads_14 a0 a1 a3 (jmin a2 x2) σ
  else
    f_X6_reads_14 a0 a1 a3 0 σ
noncomputable def f_X6_reads (a0 : Nat) (a1 : Nat) (a2 : Int32) (a3 : Nat) (σ : St) : Option (Int32 × St) := if hT σ a0 = 7 then f_X6_reads_0 a0 a1 a2 a3 σ else none
noncomputable def f_X8_refused_10 (a1 : Int32) (s0 : Nat) (s1 : Int32) (σ : St) : Option (Int32 × St) :=
  (pI 9 12 s0 s1 σ).bind fun σ1 =>
  if a1 = 0 ∨ a1 = 1 then some (a1, σ1) else none
noncomputable def f_X8_refused_0 (a0 : Nat) (a1 : Int32) (a2 : Int32) (σ : St) : Option (Int32 × St) :=
  if a1 = 0 then
    f_X8_refused_10 a1 a0 0 σ
  else
    f_X8_refused_10 a1 a0 a2 σ
noncomputable def f_X8_refused (a0 : Nat) (a1 : Int32) (a2 : Int32) (σ : St) : Option (Int32 × St) := if hT σ a0 = 9 then f_X8_refused_0 a0 a1 a2 σ else none
noncomputable def f_X8_plainTotal_0 (a0 : Nat) (σ : St) : Option (Int32 × St) :=
  (gR 9 9 a0 σ).bind fun x1 =>
  (gR 9 3 a0 σ).bind fun x2 =>
  (f_X4_play x1 x2 0 200 σ).bind fun σ3 =>
  (gR 9 9 a0 σ3).bind fun x4 =>
  (gI 5 1 x4 σ3).bind fun x5 =>
  some (x5, σ3)
noncomputable def f_X8_plainTotal (a0 : Nat) (σ : St) : Option (Int32 × St) := if hT σ a0 = 9 then f_X8_plainTotal_0 a0 σ else none
noncomputable def f_X8_agrees_46  (σ : St) : Option (Int32 × St) :=
  some (0, σ)
noncomputable def f_X8_agrees_130 (k84 : Nat → Int32 → Int32 → St → Option (Int32 × St)) (a0 : Nat) (a1 : Int32) (a2 : Int32) (σ : St) : Option (Int32 × St) :=
  k84 a0 a1 (a2 + 1)  σ
noncomputable def f_X8_agrees_103 (k84 : Nat → Int32 → Int32 → St → Option (Int32 × St)) (a0 : Nat) (a1 : Int32) (a2 : Int32) (s0 : Int32) (σ : St) : Option (Int32 × St) :=
  if s0 = 0 then
    f_X8_agrees_130 k84 a0 a1 a2  σ
  else
    (gR 9 6 a0 σ).bind fun x2 =>
    (f_X3_keptValue x2 a2 σ).bind fun q3 =>
    (gR 9 9 a0 q3.2).bind fun x4 =>
    (gR 5 0 x4 q3.2).bind fun x5 =>
    (aI 22 x5 a2 q3.2).bind fun x6 =>
    if q3.1 = x6 then
      f_X8_agrees_130 k84 a0 a1 a2  q3.2
    else
      some (0, q3.2)
noncomputable def f_X8_agrees_84 (n : Nat) : Nat → Int32 → Int32 → St → Option (Int32 × St) :=
  Nat.rec (motive := fun _ => Nat → Int32 → Int32 → St → Option (Int32 × St)) (fun _ _ _ _ => none) (fun _ ih => fun a0 a1 a2 σ =>
  if 8 ≤ a2 then
    some (1, σ)
  else
    if ((jshr a1 a2) &&& 1) = 0 then
      f_X8_agrees_103 ih a0 a1 a2 1 σ
    else
      f_X8_agrees_103 ih a0 a1 a2 0 σ) n
theorem e_X8_agrees_84 (n : Nat) {a0 : Nat} {a1 : Int32} {a2 : Int32} {σ : St} : f_X8_agrees_84 (n + 1) a0 a1 a2 σ = (
  if 8 ≤ a2 then
    some (1, σ)
  else
    if ((jshr a1 a2) &&& 1) = 0 then
      f_X8_agrees_103 (f_X8_agrees_84 n) a0 a1 a2 1 σ
    else
      f_X8_agrees_103 (f_X8_agrees_84 n) a0 a1 a2 0 σ) := rfl
noncomputable def f_X8_agrees_13 (a0 : Nat) (s0 : Nat) (s1 : Int32) (σ : St) : Option (Int32 × St) :=
  (f_X8_refused s0 s1 1 σ).bind fun q1 =>
  if q1.1 = 0 then
    (gR 9 6 a0 q1.2).bind fun x3 =>
    (gI 4 18 x3 q1.2).bind fun x4 =>
    if x4 = 0 then
      (gR 9 6 a0 q1.2).bind fun x6 =>
      (gI 4 19 x6 q1.2).bind fun x7 =>
      (f_X8_plainTotal a0 q1.2).bind fun q8 =>
      if x7 ≤ q8.1 then
        (gR 9 9 a0 q8.2).bind fun x10 =>
        (gR 9 3 a0 q8.2).bind fun x11 =>
        (gR 9 6 a0 q8.2).bind fun x12 =>
        (gI 4 19 x12 q8.2).bind fun x13 =>
        (f_X4_play x10 x11 0 x13 q8.2).bind fun σ14 =>
        (gR 9 6 a0 σ14).bind fun x15 =>
        (gR 9 6 a0 σ14).bind fun x16 =>
        (gI 4 6 x16 σ14).bind fun x17 =>
        (f_X3_letGoBits x15 x17 σ14).bind fun q18 =>
        f_X8_agrees_84 FU a0 q18.1 0  q18.2
      else
        f_X8_agrees_46  q8.2
    else
      f_X8_agrees_46  q1.2
  else
    some ((-1), q1.2)
noncomputable def f_X8_agrees_0 (a0 : Nat) (σ : St) : Option (Int32 × St) :=
  (gI 9 2 a0 σ).bind fun x1 =>
  if x1 = 0 then
    f_X8_agrees_13 a0 a0 1 σ
  else
    f_X8_agrees_13 a0 a0 0 σ
noncomputable def f_X8_agrees (a0 : Nat) (σ : St) : Option (Int32 × St) := if hT σ a0 = 9 then f_X8_agrees_0 a0 σ else none
noncomputable def f_X8_ask_13 (a0 : Nat) (s0 : Nat) (s1 : Int32) (σ : St) : Option (Int32 × St) :=
  (f_X8_refused s0 s1 1 σ).bind fun q1 =>
  if q1.1 = 0 then
    (gR 9 11 a0 q1.2).bind fun x3 =>
    (f_X1_bestQuestion x3 q1.2).bind fun q4 =>
    some (q4.1, q4.2)
  else
    some ((-1), q1.2)
noncomputable def f_X8_ask_0 (a0 : Nat) (σ : St) : Option (Int32 × St) :=
  (gI 9 2 a0 σ).bind fun x1 =>
  if x1 = 0 then
    f_X8_ask_13 a0 a0 1 σ
  else
    f_X8_ask_13 a0 a0 0 σ
noncomputable def f_X8_ask (a0 : Nat) (σ : St) : Option (Int32 × St) := if hT σ a0 = 9 then f_X8_ask_0 a0 σ else none
noncomputable def f_X8_askLeaves_47 (s0 : Int32) (σ : St) : Option (Int32 × St) :=
  some (s0, σ)
noncomputable def f_X8_askLeaves_13 (a0 : Nat) (s0 : Nat) (s1 : Int32) (σ : St) : Option (Int32 × St) :=
  (f_X8_refused s0 s1 1 σ).bind fun q1 =>
  if q1.1 = 0 then
    (gR 9 11 a0 q1.2).bind fun x3 =>
    (f_X1_bestQuestion x3 q1.2).bind fun q4 =>
    if 0 ≤ q4.1 then
      (gR 9 11 a0 q4.2).bind fun x6 =>
      (f_X1_leftBy x6 q4.1 q4.2).bind fun q7 =>
      f_X8_askLeaves_47 q7.1 q7.2
    else
      f_X8_askLeaves_47 (-2) q4.2
  else
    some ((-1), q1.2)
noncomputable def f_X8_askLeaves_0 (a0 : Nat) (σ : St) : Option (Int32 × St) :=
  (gI 9 2 a0 σ).bind fun x1 =>
  if x1 = 0 then
    f_X8_askLeaves_13 a0 a0 1 σ
  else
    f_X8_askLeaves_13 a0 a0 0 σ
noncomputable def f_X8_askLeaves (a0 : Nat) (σ : St) : Option (Int32 × St) := if hT σ a0 = 9 then f_X8_askLeaves_0 a0 σ else none
noncomputable def f_X8_back_21 (a0 : Nat) (a1 : Int32) (s0 : Nat) (s1 : Int32) (σ : St) : Option (Int32 × St) :=
  (f_X8_refused s0 s1 1 σ).bind fun q1 =>
  if q1.1 = 0 then
    (gR 9 8 a0 q1.2).bind fun x3 =>
    (gR 9 6 a0 q1.2).bind fun x4 =>
    (f_X2_returnTo x3 a1 x4 q1.2).bind fun σ5 =>
    some (1, σ5)
  else
    some (0, q1.2)
noncomputable def f_X8_back_16 (a0 : Nat) (a1 : Int32) (s0 : Nat) (σ : St) : Option (Int32 × St) :=
  f_X8_back_21 a0 a1 s0 1 σ
noncomputable def f_X8_back_0 (a0 : Nat) (a1 : Int32) (σ : St) : Option (Int32 × St) :=
  if a1 < 0 then
    f_X8_back_16 a0 a1 a0 σ
  else
    (gR 9 8 a0 σ).bind fun x2 =>
    (gI 3 4 x2 σ).bind fun x3 =>
    if a1 < x3 then
      f_X8_back_21 a0 a1 a0 0 σ
    else
      f_X8_back_16 a0 a1 a0 σ
noncomputable def f_X8_back (a0 : Nat) (a1 : Int32) (σ : St) : Option (Int32 × St) := if hT σ a0 = 9 then f_X8_back_0 a0 a1 σ else none
noncomputable def f_X8_beginWithDraft_0 (a0 : Nat) (σ : St) : Option (St) :=
  (gR 9 3 a0 σ).bind fun x1 =>
  (gR 9 4 a0 σ).bind fun x2 =>
  (pP 9 3 a0 x2 σ).bind fun σ3 =>
  (pP 9 4 a0 x1 σ3).bind fun σ4 =>
  (pZ 9 2 a0 1 σ4).bind fun σ5 =>
  (gR 9 6 a0 σ5).bind fun x6 =>
  (gR 9 3 a0 σ5).bind fun x7 =>
  (gR 9 3 a0 σ5).bind fun x8 =>
  (gI 6 0 x8 σ5).bind fun x9 =>
  (f_X3_begin x6 x7 x9 σ5).bind fun σ10 =>
  (gR 9 8 a0 σ10).bind fun x11 =>
  (f_X2_forget x11 σ10).bind fun σ12 =>
  (gR 9 10 a0 σ12).bind fun x13 =>
  (f_X0_forget x13 σ12).bind fun σ14 =>
  (gR 9 11 a0 σ14).bind fun x15 =>
  (gR 9 3 a0 σ14).bind fun x16 =>
  (gR 9 9 a0 σ14).bind fun x17 =>
  (f_X1_find x15 x16 x17 σ14).bind fun σ18 =>
  some σ18
noncomputable def f_X8_beginWithDraft (a0 : Nat) (σ : St) : Option (St) := if hT σ a0 = 9 then f_X8_beginWithDraft_0 a0 σ else none
noncomputable def f_X8_cell_75 (s0 : Int32) (σ : St) : Option (Int32 × St) :=
  some (s0, σ)
noncomputable def f_X8_cell_37 (a0 : Nat) (a1 : Int32) (a2 : Int32) (s0 : Nat) (s1 : Int32) (σ : St) : Option (Int32 × St) :=
  (f_X8_refused s0 s1 1 σ).bind fun q1 =>
  if q1.1 = 0 then
    if a2 = 0 then
      (gR 9 6 a0 q1.2).bind fun x13 =>
      (f_X3_isReady x13 a1 q1.2).bind fun q14 =>
      if q14.1 = 0 then
        f_X8_cell_75 (-2) q14.2
      else
        (gR 9 6 a0 q14.2).bind fun x16 =>
        (gR 4 2 x16 q14.2).bind fun x17 =>
        (aI 22 x17 a1 q14.2).bind fun x18 =>
        f_X8_cell_75 x18 q14.2
    else
      if a2 = 1 then
        (gR 9 6 a0 q1.2).bind fun x7 =>
        (gR 9 6 a0 q1.2).bind fun x8 =>
        (gR 9 6 a0 q1.2).bind fun x9 =>
        (gI 4 6 x9 q1.2).bind fun x10 =>
        (f_X3_letGoBits x8 x10 q1.2).bind fun q11 =>
        (f_X3_holdersBut x7 q11.1 a1 q11.2).bind fun q12 =>
        some (q12.1, q12.2)
      else
        (gR 9 6 a0 q1.2).bind fun x5 =>
        (f_X3_waitersFor x5 a1 q1.2).bind fun q6 =>
        some (q6.1, q6.2)
  else
    some ((-1), q1.2)
noncomputable def f_X8_cell_32 (a0 : Nat) (a1 : Int32) (a2 : Int32) (s0 : Nat) (σ : St) : Option (Int32 × St) :=
  f_X8_cell_37 a0 a1 a2 s0 1 σ
noncomputable def f_X8_cell_0 (a0 : Nat) (a1 : Int32) (a2 : Int32) (σ : St) : Option (Int32 × St) :=
  (gI 9 2 a0 σ).bind fun x1 =>
  if x1 = 0 then
    f_X8_cell_32 a0 a1 a2 a0 σ
  else
    if a1 < 0 then
      f_X8_cell_32 a0 a1 a2 a0 σ
    else
      (gR 9 3 a0 σ).bind fun x4 =>
      (gI 6 0 x4 σ).bind fun x5 =>
      if x5 ≤ a1 then
        f_X8_cell_32 a0 a1 a2 a0 σ
      else
        if a2 < 0 then
          f_X8_cell_32 a0 a1 a2 a0 σ
        else
          if a2 ≤ 2 then
            f_X8_cell_37 a0 a1 a2 a0 0 σ
          else
            f_X8_cell_32 a0 a1 a2 a0 σ
noncomputable def f_X8_cell (a0 : Nat) (a1 : Int32) (a2 : Int32) (σ : St) : Option (Int32 × St) := if hT σ a0 = 9 then f_X8_cell_0 a0 a1 a2 σ else none
noncomputable def f_X8_cellsFor_44  (σ : St) : Option (Int32 × St) :=
  some ((-1), σ)
noncomputable def f_X8_cellsFor_49 (n : Nat) : Nat → Int32 → Int32 → St → Option (Int32 × St) :=
  Nat.rec (motive := fun _ => Nat → Int32 → Int32 → St → Option (Int32 × St)) (fun _ _ _ _ => none) (fun _ ih => fun a0 a1 a2 σ =>
  if 24 < a2 then
    some ((-2), σ)
  else
    (gR 9 10 a0 σ).bind fun x2 =>
    (gR 1 1 x2 σ).bind fun x3 =>
    (gR 9 10 a0 σ).bind fun x4 =>
    (gR 9 3 a0 σ).bind fun x5 =>
    (f_X0_slotOf x4 x5 a2 σ).bind fun q6 =>
    (aI 22 x3 q6.1 q6.2).bind fun x7 =>
    if a1 < x7 then
      ih a0 a1 (a2 + 1)  q6.2
    else
      some (a2, q6.2)) n
theorem e_X8_cellsFor_49 (n : Nat) {a0 : Nat} {a1 : Int32} {a2 : Int32} {σ : St} : f_X8_cellsFor_49 (n + 1) a0 a1 a2 σ = (
  if 24 < a2 then
    some ((-2), σ)
  else
    (gR 9 10 a0 σ).bind fun x2 =>
    (gR 1 1 x2 σ).bind fun x3 =>
    (gR 9 10 a0 σ).bind fun x4 =>
    (gR 9 3 a0 σ).bind fun x5 =>
    (f_X0_slotOf x4 x5 a2 σ).bind fun q6 =>
    (aI 22 x3 q6.1 q6.2).bind fun x7 =>
    if a1 < x7 then
      (f_X8_cellsFor_49 n) a0 a1 (a2 + 1)  q6.2
    else
      some (a2, q6.2)) := rfl
noncomputable def f_X8_cellsFor_37 (a0 : Nat) (a1 : Int32) (s0 : Nat) (s1 : Int32) (σ : St) : Option (Int32 × St) :=
  (f_X8_refused s0 s1 2 σ).bind fun q1 =>
  if q1.1 = 0 then
    f_X8_cellsFor_49 FU a0 a1 9  q1.2
  else
    f_X8_cellsFor_44  q1.2
noncomputable def f_X8_cellsFor_32 (a0 : Nat) (a1 : Int32) (s0 : Nat) (σ : St) : Option (Int32 × St) :=
  f_X8_cellsFor_37 a0 a1 s0 1 σ
noncomputable def f_X8_cellsFor_13 (a0 : Nat) (a1 : Int32) (s0 : Nat) (s1 : Int32) (σ : St) : Option (Int32 × St) :=
  (f_X8_refused s0 s1 1 σ).bind fun q1 =>
  if q1.1 = 0 then
    if a1 < 0 then
      f_X8_cellsFor_32 a0 a1 a0 q1.2
    else
      if a1 ≤ 300 then
        f_X8_cellsFor_37 a0 a1 a0 0 q1.2
      else
        f_X8_cellsFor_32 a0 a1 a0 q1.2
  else
    f_X8_cellsFor_44  q1.2
noncomputable def f_X8_cellsFor_0 (a0 : Nat) (a1 : Int32) (σ : St) : Option (Int32 × St) :=
  (gI 9 2 a0 σ).bind fun x1 =>
  if x1 = 0 then
    f_X8_cellsFor_13 a0 a1 a0 1 σ
  else
    f_X8_cellsFor_13 a0 a1 a0 0 σ
noncomputable def f_X8_cellsFor (a0 : Nat) (a1 : Int32) (σ : St) : Option (Int32 × St) := if hT σ a0 = 9 then f_X8_cellsFor_0 a0 a1 σ else none
noncomputable def f_X8_commit_44  (σ : St) : Option (Int32 × St) :=
  some ((-1), σ)
noncomputable def f_X8_commit_62 (a0 : Nat) (s0 : Nat) (s1 : Int32) (σ : St) : Option (Int32 × St) :=
  (f_X8_refused s0 s1 5 σ).bind fun q1 =>
  if q1.1 = 0 then
    (gR 9 8 a0 q1.2).bind fun x3 =>
    (gR 9 6 a0 q1.2).bind fun x4 =>
    (f_X2_keep x3 x4 q1.2).bind fun σ5 =>
    (gR 9 6 a0 σ5).bind fun x6 =>
    (f_X3_retire x6 σ5).bind fun q7 =>
    some (q7.1, q7.2)
  else
    some ((-1), q1.2)
noncomputable def f_X8_commit_36 (a0 : Nat) (s0 : Nat) (s1 : Int32) (σ : St) : Option (Int32 × St) :=
  (f_X8_refused s0 s1 6 σ).bind fun q1 =>
  if q1.1 = 0 then
    (gR 9 6 a0 q1.2).bind fun x3 =>
    (f_X3_whyNotRetire x3 q1.2).bind fun q4 =>
    if q4.1 = 0 then
      f_X8_commit_62 a0 a0 0 q4.2
    else
      f_X8_commit_62 a0 a0 1 q4.2
  else
    f_X8_commit_44  q1.2
noncomputable def f_X8_commit_13 (a0 : Nat) (s0 : Nat) (s1 : Int32) (σ : St) : Option (Int32 × St) :=
  (f_X8_refused s0 s1 1 σ).bind fun q1 =>
  if q1.1 = 0 then
    (gR 9 6 a0 q1.2).bind fun x3 =>
    (gI 4 6 x3 q1.2).bind fun x4 =>
    if x4 = 0 then
      f_X8_commit_36 a0 a0 1 q1.2
    else
      f_X8_commit_36 a0 a0 0 q1.2
  else
    f_X8_commit_44  q1.2
noncomputable def f_X8_commit_0 (a0 : Nat) (σ : St) : Option (Int32 × St) :=
  (gI 9 2 a0 σ).bind fun x1 =>
  if x1 = 0 then
    f_X8_commit_13 a0 a0 1 σ
  else
    f_X8_commit_13 a0 a0 0 σ
noncomputable def f_X8_commit (a0 : Nat) (σ : St) : Option (Int32 × St) := if hT σ a0 = 9 then f_X8_commit_0 a0 σ else none
noncomputable def f_X8_commitable_13 (a0 : Nat) (s0 : Nat) (s1 : Int32) (σ : St) : Option (Int32 × St) :=
  (f_X8_refused s0 s1 1 σ).bind fun q1 =>
  if q1.1 = 0 then
    (gR 9 6 a0 q1.2).bind fun x3 =>
    (f_X3_whyNotRetire x3 q1.2).bind fun q4 =>
    some (q4.1, q4.2)
  else
    some ((-1), q1.2)
noncomputable def f_X8_commitable_0 (a0 : Nat) (σ : St) : Option (Int32 × St) :=
  (gI 9 2 a0 σ).bind fun x1 =>
  if x1 = 0 then
    f_X8_commitable_13 a0 a0 1 σ
  else
    f_X8_commitable_13 a0 a0 0 σ
noncomputable def f_X8_commitable (a0 : Nat) (σ : St) : Option (Int32 × St) := if hT σ a0 = 9 then f_X8_commitable_0 a0 σ else none
noncomputable def f_X8_isCells_17 (s0 : Int32) (σ : St) : Option (Int32 × St) :=
  if s0 = 0 ∨ s0 = 1 then some (s0, σ) else none
noncomputable def f_X8_isCells_16  (σ : St) : Option (Int32 × St) :=
  f_X8_isCells_17 0 σ
noncomputable def f_X8_isCells_0 (a0 : Int32) (σ : St) : Option (Int32 × St) :=
  if a0 < 9 then
    f_X8_isCells_16  σ
  else
    if 24 < a0 then
      f_X8_isCells_16  σ
    else
      f_X8_isCells_17 1 σ
noncomputable def f_X8_isCells (a0 : Int32) (σ : St) : Option (Int32 × St) := f_X8_isCells_0 a0 σ
noncomputable def f_X8_commits_40  (σ : St) : Option (Int32 × St) :=
  some ((-1), σ)
noncomputable def f_X8_commits_33 (a0 : Nat) (a1 : Int32) (s0 : Nat) (s1 : Int32) (σ : St) : Option (Int32 × St) :=
  (f_X8_refused s0 s1 2 σ).bind fun q1 =>
  if q1.1 = 0 then
    (gR 9 10 a0 q1.2).bind fun x3 =>
    (gR 1 2 x3 q1.2).bind fun x4 =>
    (gR 9 10 a0 q1.2).bind fun x5 =>
    (gR 9 3 a0 q1.2).bind fun x6 =>
    (f_X0_slotOf x5 x6 a1 q1.2).bind fun q7 =>
    (aI 22 x4 q7.1 q7.2).bind fun x8 =>
    some (x8, q7.2)
  else
    f_X8_commits_40  q1.2
noncomputable def f_X8_commits_13 (a0 : Nat) (a1 : Int32) (s0 : Nat) (s1 : Int32) (σ : St) : Option (Int32 × St) :=
  (f_X8_refused s0 s1 1 σ).bind fun q1 =>
  if q1.1 = 0 then
    (f_X8_isCells a1 q1.2).bind fun q3 =>
    if q3.1 = 0 then
      f_X8_commits_33 a0 a1 a0 1 q3.2
    else
      f_X8_commits_33 a0 a1 a0 0 q3.2
  else
    f_X8_commits_40  q1.2
noncomputable def f_X8_commits_0 (a0 : Nat) (a1 : Int32) (σ : St) : Option (Int32 × St) :=
  (gI 9 2 a0 σ).bind fun x1 =>
  if x1 = 0 then
    f_X8_commits_13 a0 a1 a0 1 σ
  else
    f_X8_commits_13 a0 a1 a0 0 σ
noncomputable def f_X8_commits (a0 : Nat) (a1 : Int32) (σ : St) : Option (Int32 × St) := if hT σ a0 = 9 then f_X8_commits_0 a0 a1 σ else none
noncomputable def f_X8_commonDivisor_21 (k2 : Int32 → Int32 → Int32 → St → Option (Int32 × St)) (a0 : Int32) (a1 : Int32) (a2 : Int32) (σ : St) : Option (Int32 × St) :=
  k2 a0 a1 (a2 + (-1))  σ
noncomputable def f_X8_commonDivisor_2 (n : Nat) : Int32 → Int32 → Int32 → St → Option (Int32 × St) :=
  Nat.rec (motive := fun _ => Int32 → Int32 → Int32 → St → Option (Int32 × St)) (fun _ _ _ _ => none) (fun _ ih => fun a0 a1 a2 σ =>
  if a2 ≤ 1 then
    some (1, σ)
  else
    if a2 = 0 then none else
    if (jrem a0 a2) = 0 then
      if a2 = 0 then none else
      if (jrem a1 a2) = 0 then
        some (a2, σ)
      else
        f_X8_commonDivisor_21 ih a0 a1 a2  σ
    else
      f_X8_commonDivisor_21 ih a0 a1 a2  σ) n
theorem e_X8_commonDivisor_2 (n : Nat) {a0 : Int32} {a1 : Int32} {a2 : Int32} {σ : St} : f_X8_commonDivisor_2 (n + 1) a0 a1 a2 σ = (
  if a2 ≤ 1 then
    some (1, σ)
  else
    if a2 = 0 then none else
    if (jrem a0 a2) = 0 then
      if a2 = 0 then none else
      if (jrem a1 a2) = 0 then
        some (a2, σ)
      else
        f_X8_commonDivisor_21 (f_X8_commonDivisor_2 n) a0 a1 a2  σ
    else
      f_X8_commonDivisor_21 (f_X8_commonDivisor_2 n) a0 a1 a2  σ) := rfl
noncomputable def f_X8_commonDivisor_0 (a0 : Int32) (a1 : Int32) (σ : St) : Option (Int32 × St) :=
  f_X8_commonDivisor_2 FU a0 a1 a1  σ
noncomputable def f_X8_commonDivisor (a0 : Int32) (a1 : Int32) (σ : St) : Option (Int32 × St) := f_X8_commonDivisor_0 a0 a1 σ
noncomputable def f_X8_core_59 (a0 : Nat) (s0 : Nat) (s1 : Int32) (σ : St) : Option (Int32 × St) :=
  (f_X8_refused s0 s1 4 σ).bind fun q1 =>
  if q1.1 = 0 then
    (f_X8_beginWithDraft a0 q1.2).bind fun σ3 =>
    (gR 9 3 a0 σ3).bind fun x4 =>
    (gI 6 5 x4 σ3).bind fun x5 =>
    some (x5, σ3)
  else
    some ((-1), q1.2)
noncomputable def f_X8_core_18 (a0 : Nat) (a1 : Int32) (s0 : Nat) (s1 : Int32) (σ : St) : Option (Int32 × St) :=
  (f_X8_refused s0 s1 2 σ).bind fun q1 =>
  if q1.1 = 0 then
    (gR 9 5 a0 q1.2).bind fun x3 =>
    (gR 9 0 a0 q1.2).bind fun x4 =>
    (gR 9 4 a0 q1.2).bind fun x5 =>
    (f_X6_reads x3 x4 a1 x5 q1.2).bind fun q6 =>
    (pI 9 1 a0 0 q6.2).bind fun σ7 =>
    if q6.1 = 0 then
      f_X8_core_59 a0 a0 1 σ7
    else
      f_X8_core_59 a0 a0 0 σ7
  else
    some ((-1), q1.2)
noncomputable def f_X8_core_13 (a0 : Nat) (a1 : Int32) (s0 : Nat) (σ : St) : Option (Int32 × St) :=
  f_X8_core_18 a0 a1 s0 1 σ
noncomputable def f_X8_core_0 (a0 : Nat) (a1 : Int32) (σ : St) : Option (Int32 × St) :=
  if a1 < 0 then
    f_X8_core_13 a0 a1 a0 σ
  else
    (gI 9 1 a0 σ).bind fun x2 =>
    if a1 ≤ x2 then
      f_X8_core_18 a0 a1 a0 0 σ
    else
      f_X8_core_13 a0 a1 a0 σ
noncomputable def f_X8_core (a0 : Nat) (a1 : Int32) (σ : St) : Option (Int32 × St) := if hT σ a0 = 9 then f_X8_core_0 a0 a1 σ else none
noncomputable def f_X8_could_13 (a0 : Nat) (s0 : Nat) (s1 : Int32) (σ : St) : Option (Int32 × St) :=
  (f_X8_refused s0 s1 1 σ).bind fun q1 =>
  if q1.1 = 0 then
    (gR 9 11 a0 q1.2).bind fun x3 =>
    (f_X1_inSome x3 q1.2).bind fun q4 =>
    some (q4.1, q4.2)
  else
    some ((-1), q1.2)
noncomputable def f_X8_could_0 (a0 : Nat) (σ : St) : Option (Int32 × St) :=
  (gI 9 2 a0 σ).bind fun x1 =>
  if x1 = 0 then
    f_X8_could_13 a0 a0 1 σ
  else
    f_X8_could_13 a0 a0 0 σ
noncomputable def f_X8_could (a0 : Nat) (σ : St) : Option (Int32 × St) := if hT σ a0 = 9 then f_X8_could_0 a0 σ else none
noncomputable def f_X8_crowd_40  (σ : St) : Option (Int32 × St) :=
  some ((-1), σ)
noncomputable def f_X8_crowd_33 (a0 : Nat) (a1 : Int32) (s0 : Nat) (s1 : Int32) (σ : St) : Option (Int32 × St) :=
  (f_X8_refused s0 s1 2 σ).bind fun q1 =>
  if q1.1 = 0 then
    (gR 9 10 a0 q1.2).bind fun x3 =>
    (gR 1 4 x3 q1.2).bind fun x4 =>
    (gR 9 10 a0 q1.2).bind fun x5 =>
    (gR 9 3 a0 q1.2).bind fun x6 =>
    (f_X0_slotOf x5 x6 a1 q1.2).bind fun q7 =>
    (aI 22 x4 q7.1 q7.2).bind fun x8 =>
    some (x8, q7.2)
  else
    f_X8_crowd_40  q1.2
noncomputable def f_X8_crowd_13 (a0 : Nat) (a1 : Int32) (s0 : Nat) (s1 : Int32) (σ : St) : Option (Int32 × St) :=
  (f_X8_refused s0 s1 1 σ).bind fun q1 =>
  if q1.1 = 0 then
    (f_X8_isCells a1 q1.2).bind fun q3 =>
    if q3.1 = 0 then
      f_X8_crowd_33 a0 a1 a0 1 q3.2
    else
      f_X8_crowd_33 a0 a1 a0 0 q3.2
  else
    f_X8_crowd_40  q1.2
noncomputable def f_X8_crowd_0 (a0 : Nat) (a1 : Int32) (σ : St) : Option (Int32 × St) :=
  (gI 9 2 a0 σ).bind fun x1 =>
  if x1 = 0 then
    f_X8_crowd_13 a0 a1 a0 1 σ
  else
    f_X8_crowd_13 a0 a1 a0 0 σ
noncomputable def f_X8_crowd (a0 : Nat) (a1 : Int32) (σ : St) : Option (Int32 × St) := if hT σ a0 = 9 then f_X8_crowd_0 a0 a1 σ else none
noncomputable def f_X8_cycles_40  (σ : St) : Option (Int32 × St) :=
  some ((-1), σ)
noncomputable def f_X8_cycles_33 (a0 : Nat) (a1 : Int32) (s0 : Nat) (s1 : Int32) (σ : St) : Option (Int32 × St) :=
  (f_X8_refused s0 s1 2 σ).bind fun q1 =>
  if q1.1 = 0 then
    (gR 9 10 a0 q1.2).bind fun x3 =>
    (gR 1 1 x3 q1.2).bind fun x4 =>
    (gR 9 10 a0 q1.2).bind fun x5 =>
    (gR 9 3 a0 q1.2).bind fun x6 =>
    (f_X0_slotOf x5 x6 a1 q1.2).bind fun q7 =>
    (aI 22 x4 q7.1 q7.2).bind fun x8 =>
    some (x8, q7.2)
  else
    f_X8_cycles_40  q1.2
noncomputable def f_X8_cycles_13 (a0 : Nat) (a1 : Int32) (s0 : Nat) (s1 : Int32) (σ : St) : Option (Int32 × St) :=
  (f_X8_refused s0 s1 1 σ).bind fun q1 =>
  if q1.1 = 0 then
    (f_X8_isCells a1 q1.2).bind fun q3 =>
    if q3.1 = 0 then
      f_X8_cycles_33 a0 a1 a0 1 q3.2
    else
      f_X8_cycles_33 a0 a1 a0 0 q3.2
  else
    f_X8_cycles_40  q1.2
noncomputable def f_X8_cycles_0 (a0 : Nat) (a1 : Int32) (σ : St) : Option (Int32 × St) :=
  (gI 9 2 a0 σ).bind fun x1 =>
  if x1 = 0 then
    f_X8_cycles_13 a0 a1 a0 1 σ
  else
    f_X8_cycles_13 a0 a1 a0 0 σ
noncomputable def f_X8_cycles (a0 : Nat) (a1 : Int32) (σ : St) : Option (Int32 × St) := if hT σ a0 = 9 then f_X8_cycles_0 a0 a1 σ else none
noncomputable def f_X8_nextSeed_0 (a0 : Int32) (σ : St) : Option (Int32 × St) :=
  some (jrem ((75 * a0) + 74) 65537, σ)
noncomputable def f_X8_nextSeed (a0 : Int32) (σ : St) : Option (Int32 × St) := f_X8_nextSeed_0 a0 σ
noncomputable def f_X8_workIfPossible_20  (σ : St) : Option (St) :=
  some σ
noncomputable def f_X8_workIfPossible_0 (a0 : Nat) (a1 : Int32) (σ : St) : Option (St) :=
  (gR 9 7 a0 σ).bind fun x1 =>
  (f_X3_canWork x1 a1 σ).bind fun q2 =>
  if q2.1 = 0 then
    f_X8_workIfPossible_20  q2.2
  else
    (gR 9 7 a0 q2.2).bind fun x4 =>
    (f_X3_work x4 a1 q2.2).bind fun q5 =>
    f_X8_workIfPossible_20  q5.2
noncomputable def f_X8_workIfPossible (a0 : Nat) (a1 : Int32) (σ : St) : Option (St) := if hT σ a0 = 9 then f_X8_workIfPossible_0 a0 a1 σ else none
noncomputable def f_X8_drawTries_119 (k16 : Nat → Int32 → Int32 → Int32 → St → Option (St)) (a0 : Nat) (a2 : Int32) (a3 : Int32) (a4 : Int32) (σ : St) : Option (St) :=
  k16 a0 a2 a3 (a4 + 1)  σ
noncomputable def f_X8_drawTries_95 (k16 : Nat → Int32 → Int32 → Int32 → St → Option (St)) (a0 : Nat) (a2 : Int32) (a3 : Int32) (a4 : Int32) (a5 : Int32) (σ : St) : Option (St) :=
  if a5 = 2 then
    (gR 9 7 a0 σ).bind fun x2 =>
    (f_X3_whyNotRetire x2 σ).bind fun q3 =>
    if q3.1 = 0 then
      (gR 9 7 a0 q3.2).bind fun x5 =>
      (f_X3_retire x5 q3.2).bind fun q6 =>
      f_X8_drawTries_119 k16 a0 a2 a3 a4  q6.2
    else
      f_X8_drawTries_119 k16 a0 a2 a3 a4  q3.2
  else
    f_X8_drawTries_119 k16 a0 a2 a3 a4  σ
noncomputable def f_X8_drawTries_58 (k16 : Nat → Int32 → Int32 → Int32 → St → Option (St)) (a0 : Nat) (a2 : Int32) (a3 : Int32) (a4 : Int32) (a5 : Int32) (σ : St) : Option (St) :=
  if a5 = 1 then
    (gR 9 7 a0 σ).bind fun x2 =>
    (gI 4 6 x2 σ).bind fun x3 =>
    if x3 ≤ 0 then
      f_X8_drawTries_95 k16 a0 a2 a3 a4 a5  σ
    else
      (f_X8_nextSeed a3 σ).bind fun q5 =>
      (gR 9 7 a0 q5.2).bind fun x6 =>
      (gI 4 6 x6 q5.2).bind fun x7 =>
      if x7 = 0 then none else
      (f_X8_workIfPossible a0 (jrem q5.1 x7) q5.2).bind fun σ9 =>
      f_X8_drawTries_119 k16 a0 a2 q5.1 a4  σ9
  else
    f_X8_drawTries_95 k16 a0 a2 a3 a4 a5  σ
noncomputable def f_X8_drawTries_16 (n : Nat) : Nat → Int32 → Int32 → Int32 → St → Option (St) :=
  Nat.rec (motive := fun _ => Nat → Int32 → Int32 → Int32 → St → Option (St)) (fun _ _ _ _ _ => none) (fun _ ih => fun a0 a2 a3 a4 σ =>
  if a2 ≤ a4 then
    some σ
  else
    (f_X8_nextSeed a3 σ).bind fun q2 =>
    bnd (jrem q2.1 3) fun x3 =>
    if x3 = 0 then
      (gR 9 7 a0 q2.2).bind fun x5 =>
      (f_X3_whyNotTake x5 q2.2).bind fun q6 =>
      if q6.1 = 0 then
        (gR 9 7 a0 q6.2).bind fun x8 =>
        (f_X3_take x8 q6.2).bind fun q9 =>
        f_X8_drawTries_119 ih a0 a2 q2.1 a4  q9.2
      else
        f_X8_drawTries_58 ih a0 a2 q2.1 a4 x3  q6.2
    else
      f_X8_drawTries_58 ih a0 a2 q2.1 a4 x3  q2.2) n
theorem e_X8_drawTries_16 (n : Nat) {a0 : Nat} {a2 : Int32} {a3 : Int32} {a4 : Int32} {σ : St} : f_X8_drawTries_16 (n + 1) a0 a2 a3 a4 σ = (
  if a2 ≤ a4 then
    some σ
  else
    (f_X8_nextSeed a3 σ).bind fun q2 =>
    bnd (jrem q2.1 3) fun x3 =>
    if x3 = 0 then
      (gR 9 7 a0 q2.2).bind fun x5 =>
      (f_X3_whyNotTake x5 q2.2).bind fun q6 =>
      if q6.1 = 0 then
        (gR 9 7 a0 q6.2).bind fun x8 =>
        (f_X3_take x8 q6.2).bind fun q9 =>
        f_X8_drawTries_119 (f_X8_drawTries_16 n) a0 a2 q2.1 a4  q9.2
      else
        f_X8_drawTries_58 (f_X8_drawTries_16 n) a0 a2 q2.1 a4 x3  q6.2
    else
      f_X8_drawTries_58 (f_X8_drawTries_16 n) a0 a2 q2.1 a4 x3  q2.2) := rfl
noncomputable def f_X8_drawTries_0 (a0 : Nat) (a1 : Int32) (a2 : Int32) (σ : St) : Option (St) :=
  (gR 9 7 a0 σ).bind fun x1 =>
  (gR 9 6 a0 σ).bind fun x2 =>
  (f_X3_copyFrom x1 x2 σ).bind fun σ3 =>
  f_X8_drawTries_16 FU a0 a2 a1 0  σ3
noncomputable def f_X8_drawTries (a0 : Nat) (a1 : Int32) (a2 : Int32) (σ : St) : Option (St) := if hT σ a0 = 9 then f_X8_drawTries_0 a0 a1 a2 σ else none
noncomputable def f_X8_isDraw_27 (s0 : Int32) (σ : St) : Option (Int32 × St) :=
  if s0 = 0 ∨ s0 = 1 then some (s0, σ) else none
noncomputable def f_X8_isDraw_26  (σ : St) : Option (Int32 × St) :=
  f_X8_isDraw_27 0 σ
noncomputable def f_X8_isDraw_0 (a0 : Int32) (a1 : Int32) (σ : St) : Option (Int32 × St) :=
  if a0 < 0 then
    f_X8_isDraw_26  σ
  else
    if 65537 ≤ a0 then
      f_X8_isDraw_26  σ
    else
      if a1 < 0 then
        f_X8_isDraw_26  σ
      else
        if 300 < a1 then
          f_X8_isDraw_26  σ
        else
          f_X8_isDraw_27 1 σ
noncomputable def f_X8_isDraw (a0 : Int32) (a1 : Int32) (σ : St) : Option (Int32 × St) := f_X8_isDraw_0 a0 a1 σ
noncomputable def f_X8_drawnCommits_41  (σ : St) : Option (Int32 × St) :=
  some ((-1), σ)
noncomputable def f_X8_drawnCommits_34 (a0 : Nat) (a1 : Int32) (a2 : Int32) (s0 : Nat) (s1 : Int32) (σ : St) : Option (Int32 × St) :=
  (f_X8_refused s0 s1 2 σ).bind fun q1 =>
  if q1.1 = 0 then
    (f_X8_drawTries a0 a1 a2 q1.2).bind fun σ3 =>
    (gR 9 7 a0 σ3).bind fun x4 =>
    (gI 4 19 x4 σ3).bind fun x5 =>
    (gR 9 6 a0 σ3).bind fun x6 =>
    (gI 4 19 x6 σ3).bind fun x7 =>
    some (x5 - x7, σ3)
  else
    f_X8_drawnCommits_41  q1.2
noncomputable def f_X8_drawnCommits_13 (a0 : Nat) (a1 : Int32) (a2 : Int32) (s0 : Nat) (s1 : Int32) (σ : St) : Option (Int32 × St) :=
  (f_X8_refused s0 s1 1 σ).bind fun q1 =>
  if q1.1 = 0 then
    (f_X8_isDraw a1 a2 q1.2).bind fun q3 =>
    if q3.1 = 0 then
      f_X8_drawnCommits_34 a0 a1 a2 a0 1 q3.2
    else
      f_X8_drawnCommits_34 a0 a1 a2 a0 0 q3.2
  else
    f_X8_drawnCommits_41  q1.2
noncomputable def f_X8_drawnCommits_0 (a0 : Nat) (a1 : Int32) (a2 : Int32) (σ : St) : Option (Int32 × St) :=
  (gI 9 2 a0 σ).bind fun x1 =>
  if x1 = 0 then
    f_X8_drawnCommits_13 a0 a1 a2 a0 1 σ
  else
    f_X8_drawnCommits_13 a0 a1 a2 a0 0 σ
noncomputable def f_X8_drawnCommits (a0 : Nat) (a1 : Int32) (a2 : Int32) (σ : St) : Option (Int32 × St) := if hT σ a0 = 9 then f_X8_drawnCommits_0 a0 a1 a2 σ else none
noncomputable def f_X8_drawnValue_48  (σ : St) : Option (Int32 × St) :=
  some ((-1), σ)
noncomputable def f_X8_drawnValue_41 (a0 : Nat) (a1 : Int32) (a2 : Int32) (a3 : Int32) (s0 : Nat) (s1 : Int32) (σ : St) : Option (Int32 × St) :=
  (f_X8_refused s0 s1 2 σ).bind fun q1 =>
  if q1.1 = 0 then
    (f_X8_drawTries a0 a2 a3 q1.2).bind fun σ3 =>
    (gR 9 7 a0 σ3).bind fun x4 =>
    (f_X3_keptValue x4 a1 σ3).bind fun q5 =>
    some (q5.1, q5.2)
  else
    f_X8_drawnValue_48  q1.2
noncomputable def f_X8_drawnValue_20 (a0 : Nat) (a1 : Int32) (a2 : Int32) (a3 : Int32) (s0 : Nat) (s1 : Int32) (σ : St) : Option (Int32 × St) :=
  (f_X8_refused s0 s1 1 σ).bind fun q1 =>
  if q1.1 = 0 then
    (f_X8_isDraw a2 a3 q1.2).bind fun q3 =>
    if q3.1 = 0 then
      f_X8_drawnValue_41 a0 a1 a2 a3 a0 1 q3.2
    else
      f_X8_drawnValue_41 a0 a1 a2 a3 a0 0 q3.2
  else
    f_X8_drawnValue_48  q1.2
noncomputable def f_X8_drawnValue_15 (a0 : Nat) (a1 : Int32) (a2 : Int32) (a3 : Int32) (s0 : Nat) (σ : St) : Option (Int32 × St) :=
  f_X8_drawnValue_20 a0 a1 a2 a3 s0 1 σ
noncomputable def f_X8_drawnValue_0 (a0 : Nat) (a1 : Int32) (a2 : Int32) (a3 : Int32) (σ : St) : Option (Int32 × St) :=
  (gI 9 2 a0 σ).bind fun x1 =>
  if x1 = 0 then
    f_X8_drawnValue_15 a0 a1 a2 a3 a0 σ
  else
    (f_X8_isRegister a1 σ).bind fun q3 =>
    if q3.1 = 0 then
      f_X8_drawnValue_15 a0 a1 a2 a3 a0 q3.2
    else
      f_X8_drawnValue_20 a0 a1 a2 a3 a0 0 q3.2
noncomputable def f_X8_drawnValue (a0 : Nat) (a1 : Int32) (a2 : Int32) (a3 : Int32) (σ : St) : Option (Int32 × St) := if hT σ a0 = 9 then f_X8_drawnValue_0 a0 a1 a2 a3 σ else none
noncomputable def f_X8_entries_13 (a0 : Nat) (s0 : Nat) (s1 : Int32) (σ : St) : Option (Int32 × St) :=
  (f_X8_refused s0 s1 1 σ).bind fun q1 =>
  if q1.1 = 0 then
    (gR 9 6 a0 q1.2).bind fun x3 =>
    (gI 4 6 x3 q1.2).bind fun x4 =>
    some (x4, q1.2)
  else
    some ((-1), q1.2)
noncomputable def f_X8_entries_0 (a0 : Nat) (σ : St) : Option (Int32 × St) :=
  (gI 9 2 a0 σ).bind fun x1 =>
  if x1 = 0 then
    f_X8_entries_13 a0 a0 1 σ
  else
    f_X8_entries_13 a0 a0 0 σ
noncomputable def f_X8_entries (a0 : Nat) (σ : St) : Option (Int32 × St) := if hT σ a0 = 9 then f_X8_entries_0 a0 σ else none
noncomputable def f_X8_isEntry_27 (s0 : Int32) (σ : St) : Option (Int32 × St) :=
  if s0 = 0 ∨ s0 = 1 then some (s0, σ) else none
noncomputable def f_X8_isEntry_26  (σ : St) : Option (Int32 × St) :=
  f_X8_isEntry_27 0 σ
noncomputable def f_X8_isEntry_0 (a0 : Nat) (a1 : Int32) (σ : St) : Option (Int32 × St) :=
  (gI 9 2 a0 σ).bind fun x1 =>
  if x1 = 0 then
    f_X8_isEntry_26  σ
  else
    if a1 < 0 then
      f_X8_isEntry_26  σ
    else
      (gR 9 6 a0 σ).bind fun x4 =>
      (gI 4 6 x4 σ).bind fun x5 =>
      if x5 ≤ a1 then
        f_X8_isEntry_26  σ
      else
        f_X8_isEntry_27 1 σ
noncomputable def f_X8_isEntry (a0 : Nat) (a1 : Int32) (σ : St) : Option (Int32 × St) := if hT σ a0 = 9 then f_X8_isEntry_0 a0 a1 σ else none
noncomputable def f_X8_entry_184 (s0 : Int32) (σ : St) : Option (Int32 × St) :=
  some (s0, σ)
noncomputable def f_X8_entry_24 (a0 : Nat) (a1 : Int32) (a2 : Int32) (s0 : Nat) (s1 : Int32) (σ : St) : Option (Int32 × St) :=
  (f_X8_refused s0 s1 1 σ).bind fun q1 =>
  if q1.1 = 0 then
    if a2 = 0 then
      (gR 9 6 a0 q1.2).bind fun x11 =>
      (gR 4 7 x11 q1.2).bind fun x12 =>
      (aI 22 x12 a1 q1.2).bind fun x13 =>
      some (x13, q1.2)
    else
      if a2 = 1 then
        (gR 9 6 a0 q1.2).bind fun x14 =>
        (gR 4 8 x14 q1.2).bind fun x15 =>
        (aI 22 x15 a1 q1.2).bind fun x16 =>
        some (x16, q1.2)
      else
        if a2 = 2 then
          (gR 9 6 a0 q1.2).bind fun x17 =>
          (gR 4 9 x17 q1.2).bind fun x18 =>
          (aI 22 x18 a1 q1.2).bind fun x19 =>
          some (x19, q1.2)
        else
          if a2 = 3 then
            (gR 9 6 a0 q1.2).bind fun x20 =>
            (gR 4 10 x20 q1.2).bind fun x21 =>
            (aI 22 x21 a1 q1.2).bind fun x22 =>
            some (x22, q1.2)
          else
            if a2 = 4 then
              (gR 9 6 a0 q1.2).bind fun x23 =>
              (gI 4 12 x23 q1.2).bind fun x24 =>
              some ((jshr x24 a1) &&& 1, q1.2)
            else
              if a2 = 5 then
                (gR 9 6 a0 q1.2).bind fun x25 =>
                (gI 4 13 x25 q1.2).bind fun x26 =>
                some ((jshr x26 a1) &&& 1, q1.2)
              else
                if a2 = 6 then
                  (gR 9 6 a0 q1.2).bind fun x27 =>
                  (gI 4 14 x27 q1.2).bind fun x28 =>
                  some ((jshr x28 a1) &&& 1, q1.2)
                else
                  if a2 = 7 then
                    (gR 9 6 a0 q1.2).bind fun x29 =>
                    (gI 4 15 x29 q1.2).bind fun x30 =>
                    some ((jshr x30 a1) &&& 1, q1.2)
                  else
                    (gR 9 6 a0 q1.2).bind fun x31 =>
                    (f_X3_isSure x31 a1 q1.2).bind fun q32 =>
                    if q32.1 = 0 then
                      f_X8_entry_184 0 q32.2
                    else
                      f_X8_entry_184 1 q32.2
  else
    some ((-1), q1.2)
noncomputable def f_X8_entry_19 (a0 : Nat) (a1 : Int32) (a2 : Int32) (s0 : Nat) (σ : St) : Option (Int32 × St) :=
  f_X8_entry_24 a0 a1 a2 s0 1 σ
noncomputable def f_X8_entry_0 (a0 : Nat) (a1 : Int32) (a2 : Int32) (σ : St) : Option (Int32 × St) :=
  (f_X8_isEntry a0 a1 σ).bind fun q1 =>
  if q1.1 = 0 then
    f_X8_entry_19 a0 a1 a2 a0 q1.2
  else
    if a2 < 0 then
      f_X8_entry_19 a0 a1 a2 a0 q1.2
    else
      if a2 ≤ 8 then
        f_X8_entry_24 a0 a1 a2 a0 0 q1.2
      else
        f_X8_entry_19 a0 a1 a2 a0 q1.2
noncomputable def f_X8_entry (a0 : Nat) (a1 : Int32) (a2 : Int32) (σ : St) : Option (Int32 × St) := if hT σ a0 = 9 then f_X8_entry_0 a0 a1 a2 σ else none
noncomputable def f_X8_fault_0 (a0 : Nat) (σ : St) : Option (Int32 × St) :=
  (gR 9 5 a0 σ).bind fun x1 =>
  (gI 7 0 x1 σ).bind fun x2 =>
  some (x2, σ)
noncomputable def f_X8_fault (a0 : Nat) (σ : St) : Option (Int32 × St) := if hT σ a0 = 9 then f_X8_fault_0 a0 σ else none
noncomputable def f_X8_putBytes_46  (σ : St) : Option (St) :=
  some σ
noncomputable def f_X8_putBytes_3 (n : Nat) : Nat → Int32 → Int32 → St → Option (St) :=
  Nat.rec (motive := fun _ => Nat → Int32 → Int32 → St → Option (St)) (fun _ _ _ _ => none) (fun _ ih => fun a0 a1 a2 σ =>
  if a2 < 0 then
    f_X8_putBytes_46  σ
  else
    (gI 9 1 a0 σ).bind fun x2 =>
    if 900 ≤ x2 then
      f_X8_putBytes_46  σ
    else
      (gR 9 0 a0 σ).bind fun x4 =>
      (gI 9 1 a0 σ).bind fun x5 =>
      (xB x4 x5 (jb (jushr a1 a2)) σ).bind fun σ6 =>
      (gI 9 1 a0 σ6).bind fun x7 =>
      (pI 9 1 a0 (x7 + 1) σ6).bind fun σ8 =>
      ih a0 a1 (a2 + (-8))  σ8) n
theorem e_X8_putBytes_3 (n : Nat) {a0 : Nat} {a1 : Int32} {a2 : Int32} {σ : St} : f_X8_putBytes_3 (n + 1) a0 a1 a2 σ = (
  if a2 < 0 then
    f_X8_putBytes_46  σ
  else
    (gI 9 1 a0 σ).bind fun x2 =>
    if 900 ≤ x2 then
      f_X8_putBytes_46  σ
    else
      (gR 9 0 a0 σ).bind fun x4 =>
      (gI 9 1 a0 σ).bind fun x5 =>
      (xB x4 x5 (jb (jushr a1 a2)) σ).bind fun σ6 =>
      (gI 9 1 a0 σ6).bind fun x7 =>
      (pI 9 1 a0 (x7 + 1) σ6).bind fun σ8 =>
      (f_X8_putBytes_3 n) a0 a1 (a2 + (-8))  σ8) := rfl
noncomputable def f_X8_putBytes_0 (a0 : Nat) (a1 : Int32) (σ : St) : Option (St) :=
  f_X8_putBytes_3 FU a0 a1 24  σ
noncomputable def f_X8_putBytes (a0 : Nat) (a1 : Int32) (σ : St) : Option (St) := if hT σ a0 = 9 then f_X8_putBytes_0 a0 a1 σ else none
noncomputable def f_X8_feed_0 (a0 : Nat) (a1 : Int32) (a2 : Int32) (a3 : Int32) (a4 : Int32) (a5 : Int32) (σ : St) : Option (Int32 × St) :=
  (gI 9 1 a0 σ).bind fun x1 =>
  if (x1 + 20) ≤ 900 then
    (f_X8_putBytes a0 a1 σ).bind fun σ3 =>
    (f_X8_putBytes a0 a2 σ3).bind fun σ4 =>
    (f_X8_putBytes a0 a3 σ4).bind fun σ5 =>
    (f_X8_putBytes a0 a4 σ5).bind fun σ6 =>
    (f_X8_putBytes a0 a5 σ6).bind fun σ7 =>
    (gI 9 1 a0 σ7).bind fun x8 =>
    some (x8, σ7)
  else
    some ((-1), σ)
noncomputable def f_X8_feed (a0 : Nat) (a1 : Int32) (a2 : Int32) (a3 : Int32) (a4 : Int32) (a5 : Int32) (σ : St) : Option (Int32 × St) := if hT σ a0 = 9 then f_X8_feed_0 a0 a1 a2 a3 a4 a5 σ else none
noncomputable def f_X8_fetch_67  (σ : St) : Option (Int32 × St) :=
  some ((-1), σ)
noncomputable def f_X8_fetch_79 (a0 : Nat) (s0 : Nat) (s1 : Int32) (σ : St) : Option (Int32 × St) :=
  (f_X8_refused s0 s1 3 σ).bind fun q1 =>
  if q1.1 = 0 then
    (gR 9 8 a0 q1.2).bind fun x3 =>
    (gR 9 6 a0 q1.2).bind fun x4 =>
    (f_X2_keep x3 x4 q1.2).bind fun σ5 =>
    (gR 9 6 a0 σ5).bind fun x6 =>
    (f_X3_take x6 σ5).bind fun q7 =>
    some (q7.1, q7.2)
  else
    some ((-1), q1.2)
noncomputable def f_X8_fetch_59 (a0 : Nat) (a1 : Int32) (s0 : Nat) (s1 : Int32) (σ : St) : Option (Int32 × St) :=
  (f_X8_refused s0 s1 6 σ).bind fun q1 =>
  if q1.1 = 0 then
    if a1 = 0 then
      f_X8_fetch_79 a0 a0 0 q1.2
    else
      f_X8_fetch_79 a0 a0 1 q1.2
  else
    f_X8_fetch_67  q1.2
noncomputable def f_X8_fetch_41 (a0 : Nat) (a1 : Int32) (s0 : Nat) (s1 : Int32) (σ : St) : Option (Int32 × St) :=
  (f_X8_refused s0 s1 5 σ).bind fun q1 =>
  if q1.1 = 0 then
    if a1 = 2 then
      f_X8_fetch_59 a0 a1 a0 1 q1.2
    else
      f_X8_fetch_59 a0 a1 a0 0 q1.2
  else
    f_X8_fetch_67  q1.2
noncomputable def f_X8_fetch_13 (a0 : Nat) (s0 : Nat) (s1 : Int32) (σ : St) : Option (Int32 × St) :=
  (f_X8_refused s0 s1 1 σ).bind fun q1 =>
  if q1.1 = 0 then
    (gR 9 6 a0 q1.2).bind fun x3 =>
    (f_X3_whyNotTake x3 q1.2).bind fun q4 =>
    if q4.1 = 1 then
      f_X8_fetch_41 a0 q4.1 a0 1 q4.2
    else
      f_X8_fetch_41 a0 q4.1 a0 0 q4.2
  else
    some ((-1), q1.2)
noncomputable def f_X8_fetch_0 (a0 : Nat) (σ : St) : Option (Int32 × St) :=
  (gI 9 2 a0 σ).bind fun x1 =>
  if x1 = 0 then
    f_X8_fetch_13 a0 a0 1 σ
  else
    f_X8_fetch_13 a0 a0 0 σ
noncomputable def f_X8_fetch (a0 : Nat) (σ : St) : Option (Int32 × St) := if hT σ a0 = 9 then f_X8_fetch_0 a0 σ else none
noncomputable def f_X8_fetchable_13 (a0 : Nat) (s0 : Nat) (s1 : Int32) (σ : St) : Option (Int32 × St) :=
  (f_X8_refused s0 s1 1 σ).bind fun q1 =>
  if q1.1 = 0 then
    (gR 9 6 a0 q1.2).bind fun x3 =>
    (f_X3_whyNotTake x3 q1.2).bind fun q4 =>
    some (q4.1, q4.2)
  else
    some ((-1), q1.2)
noncomputable def f_X8_fetchable_0 (a0 : Nat) (σ : St) : Option (Int32 × St) :=
  (gI 9 2 a0 σ).bind fun x1 =>
  if x1 = 0 then
    f_X8_fetchable_13 a0 a0 1 σ
  else
    f_X8_fetchable_13 a0 a0 0 σ
noncomputable def f_X8_fetchable (a0 : Nat) (σ : St) : Option (Int32 × St) := if hT σ a0 = 9 then f_X8_fetchable_0 a0 σ else none
noncomputable def f_X8_fitAt_28 (a0 : Nat) (a1 : Int32) (s0 : Nat) (s1 : Int32) (σ : St) : Option (Int32 × St) :=
  (f_X8_refused s0 s1 1 σ).bind fun q1 =>
  if q1.1 = 0 then
    (gR 9 11 a0 q1.2).bind fun x3 =>
    (f_X1_nth x3 a1 q1.2).bind fun q4 =>
    some (q4.1, q4.2)
  else
    some ((-1), q1.2)
noncomputable def f_X8_fitAt_23 (a0 : Nat) (a1 : Int32) (s0 : Nat) (σ : St) : Option (Int32 × St) :=
  f_X8_fitAt_28 a0 a1 s0 1 σ
noncomputable def f_X8_fitAt_0 (a0 : Nat) (a1 : Int32) (σ : St) : Option (Int32 × St) :=
  (gI 9 2 a0 σ).bind fun x1 =>
  if x1 = 0 then
    f_X8_fitAt_23 a0 a1 a0 σ
  else
    if a1 < 0 then
      f_X8_fitAt_23 a0 a1 a0 σ
    else
      (gR 9 11 a0 σ).bind fun x4 =>
      (f_X1_howMany x4 σ).bind fun q5 =>
      if a1 < q5.1 then
        f_X8_fitAt_28 a0 a1 a0 0 q5.2
      else
        f_X8_fitAt_23 a0 a1 a0 q5.2
noncomputable def f_X8_fitAt (a0 : Nat) (a1 : Int32) (σ : St) : Option (Int32 × St) := if hT σ a0 = 9 then f_X8_fitAt_0 a0 a1 σ else none
noncomputable def f_X8_fits_13 (a0 : Nat) (s0 : Nat) (s1 : Int32) (σ : St) : Option (Int32 × St) :=
  (f_X8_refused s0 s1 1 σ).bind fun q1 =>
  if q1.1 = 0 then
    (gR 9 11 a0 q1.2).bind fun x3 =>
    (f_X1_howMany x3 q1.2).bind fun q4 =>
    some (q4.1, q4.2)
  else
    some ((-1), q1.2)
noncomputable def f_X8_fits_0 (a0 : Nat) (σ : St) : Option (Int32 × St) :=
  (gI 9 2 a0 σ).bind fun x1 =>
  if x1 = 0 then
    f_X8_fits_13 a0 a0 1 σ
  else
    f_X8_fits_13 a0 a0 0 σ
noncomputable def f_X8_fits (a0 : Nat) (σ : St) : Option (Int32 × St) := if hT σ a0 = 9 then f_X8_fits_0 a0 σ else none
noncomputable def f_X8_free_13 (a0 : Nat) (s0 : Nat) (s1 : Int32) (σ : St) : Option (Int32 × St) :=
  (f_X8_refused s0 s1 1 σ).bind fun q1 =>
  if q1.1 = 0 then
    (gR 9 6 a0 q1.2).bind fun x3 =>
    (gR 9 6 a0 q1.2).bind fun x4 =>
    (gI 4 6 x4 q1.2).bind fun x5 =>
    (f_X3_freeBits x3 x5 q1.2).bind fun q6 =>
    some (q6.1, q6.2)
  else
    some ((-1), q1.2)
noncomputable def f_X8_free_0 (a0 : Nat) (σ : St) : Option (Int32 × St) :=
  (gI 9 2 a0 σ).bind fun x1 =>
  if x1 = 0 then
    f_X8_free_13 a0 a0 1 σ
  else
    f_X8_free_13 a0 a0 0 σ
noncomputable def f_X8_free (a0 : Nat) (σ : St) : Option (Int32 × St) := if hT σ a0 = 9 then f_X8_free_0 a0 σ else none
noncomputable def f_X8_gives_14 (a0 : Nat) (a1 : Int32) (s0 : Nat) (s1 : Int32) (σ : St) : Option (Int32 × St) :=
  (f_X8_refused s0 s1 1 σ).bind fun q1 =>
  if q1.1 = 0 then
    (gR 9 6 a0 q1.2).bind fun x3 =>
    (f_X3_freeBits x3 (a1 + 1) q1.2).bind fun q4 =>
    (f_J6_bitCount_0f7a4 q4.1 q4.2).bind fun q5 =>
    (gR 9 6 a0 q5.2).bind fun x6 =>
    (gR 9 6 a0 q5.2).bind fun x7 =>
    (gI 4 6 x7 q5.2).bind fun x8 =>
    (f_X3_freeBits x6 x8 q5.2).bind fun q9 =>
    (f_J6_bitCount_0f7a4 q9.1 q9.2).bind fun q10 =>
    some (q5.1 - q10.1, q10.2)
  else
    some ((-1), q1.2)
noncomputable def f_X8_gives_0 (a0 : Nat) (a1 : Int32) (σ : St) : Option (Int32 × St) :=
  (f_X8_isEntry a0 a1 σ).bind fun q1 =>
  if q1.1 = 0 then
    f_X8_gives_14 a0 a1 a0 1 q1.2
  else
    f_X8_gives_14 a0 a1 a0 0 q1.2
noncomputable def f_X8_gives (a0 : Nat) (a1 : Int32) (σ : St) : Option (Int32 × St) := if hT σ a0 = 9 then f_X8_gives_0 a0 a1 σ else none
noncomputable def f_X8_image_44  (σ : St) : Option (Int32 × St) :=
  some ((-1), σ)
noncomputable def f_X8_image_37 (a0 : Nat) (s0 : Nat) (s1 : Int32) (σ : St) : Option (Int32 × St) :=
  (f_X8_refused s0 s1 3 σ).bind fun q1 =>
  if q1.1 = 0 then
    (gR 9 8 a0 q1.2).bind fun x3 =>
    (gR 9 6 a0 q1.2).bind fun x4 =>
    (f_X2_picture x3 x4 q1.2).bind fun q5 =>
    some (q5.1, q5.2)
  else
    f_X8_image_44  q1.2
noncomputable def f_X8_image_13 (a0 : Nat) (s0 : Nat) (s1 : Int32) (σ : St) : Option (Int32 × St) :=
  (f_X8_refused s0 s1 1 σ).bind fun q1 =>
  if q1.1 = 0 then
    (gR 9 8 a0 q1.2).bind fun x3 =>
    (gI 3 4 x3 q1.2).bind fun x4 =>
    if x4 < 3 then
      f_X8_image_37 a0 a0 0 q1.2
    else
      f_X8_image_37 a0 a0 1 q1.2
  else
    f_X8_image_44  q1.2
noncomputable def f_X8_image_0 (a0 : Nat) (σ : St) : Option (Int32 × St) :=
  (gI 9 2 a0 σ).bind fun x1 =>
  if x1 = 0 then
    f_X8_image_13 a0 a0 1 σ
  else
    f_X8_image_13 a0 a0 0 σ
noncomputable def f_X8_image (a0 : Nat) (σ : St) : Option (Int32 × St) := if hT σ a0 = 9 then f_X8_image_0 a0 σ else none
noncomputable def f_X8_init_0 (a0 : Nat) (σ : St) : Option (St) :=
  bnd (nw σ 21 900) fun σ1 =>
  (pP 9 0 a0 (hZ σ) σ1).bind fun σ2 =>
  bnd (nw σ2 6 0) fun σ3 =>
  (f_X5_init (hZ σ2) σ3).bind fun σ4 =>
  (pP 9 3 a0 (hZ σ2) σ4).bind fun σ5 =>
  bnd (nw σ5 6 0) fun σ6 =>
  (f_X5_init (hZ σ5) σ6).bind fun σ7 =>
  (pP 9 4 a0 (hZ σ5) σ7).bind fun σ8 =>
  bnd (nw σ8 7 0) fun σ9 =>
  (gR 9 4 a0 σ9).bind fun x10 =>
  (f_X6_init (hZ σ8) x10 σ9).bind fun σ11 =>
  (pP 9 5 a0 (hZ σ8) σ11).bind fun σ12 =>
  bnd (nw σ12 4 0) fun σ13 =>
  (gR 9 3 a0 σ13).bind fun x14 =>
  (f_X3_init (hZ σ12) x14 σ13).bind fun σ15 =>
  (pP 9 6 a0 (hZ σ12) σ15).bind fun σ16 =>
  bnd (nw σ16 4 0) fun σ17 =>
  (gR 9 3 a0 σ17).bind fun x18 =>
  (f_X3_init (hZ σ16) x18 σ17).bind fun σ19 =>
  (pP 9 7 a0 (hZ σ16) σ19).bind fun σ20 =>
  bnd (nw σ20 3 0) fun σ21 =>
  (gR 9 3 a0 σ21).bind fun x22 =>
  (f_X2_init (hZ σ20) x22 σ21).bind fun σ23 =>
  (pP 9 8 a0 (hZ σ20) σ23).bind fun σ24 =>
  bnd (nw σ24 5 0) fun σ25 =>
  (f_X4_init (hZ σ24) σ25).bind fun σ26 =>
  (pP 9 9 a0 (hZ σ24) σ26).bind fun σ27 =>
  bnd (nw σ27 1 0) fun σ28 =>
  (gR 9 3 a0 σ28).bind fun x29 =>
  (f_X0_init (hZ σ27) x29 σ28).bind fun σ30 =>
  (pP 9 10 a0 (hZ σ27) σ30).bind fun σ31 =>
  bnd (nw σ31 2 0) fun σ32 =>
  (f_X1_init (hZ σ31) σ32).bind fun σ33 =>
  (pP 9 11 a0 (hZ σ31) σ33).bind fun σ34 =>
  (pZ 9 2 a0 0 σ34).bind fun σ35 =>
  (pI 9 1 a0 0 σ35).bind fun σ36 =>
  (pI 9 12 a0 0 σ36).bind fun σ37 =>
  some σ37
noncomputable def f_X8_init (a0 : Nat) (σ : St) : Option (St) := if hT σ a0 = 9 then f_X8_init_0 a0 σ else none
noncomputable def f_X8_judge_13 (a0 : Nat) (s0 : Nat) (s1 : Int32) (σ : St) : Option (Int32 × St) :=
  (f_X8_refused s0 s1 1 σ).bind fun q1 =>
  if q1.1 = 0 then
    (gR 9 9 a0 q1.2).bind fun x3 =>
    (gR 9 3 a0 q1.2).bind fun x4 =>
    (f_X4_play x3 x4 0 200 q1.2).bind fun σ5 =>
    (gR 9 9 a0 σ5).bind fun x6 =>
    (gR 9 3 a0 σ5).bind fun x7 =>
    (f_X4_firstNotGot x6 x7 σ5).bind fun q8 =>
    some (q8.1, q8.2)
  else
    some ((-1), q1.2)
noncomputable def f_X8_judge_0 (a0 : Nat) (σ : St) : Option (Int32 × St) :=
  (gI 9 2 a0 σ).bind fun x1 =>
  if x1 = 0 then
    f_X8_judge_13 a0 a0 1 σ
  else
    f_X8_judge_13 a0 a0 0 σ
noncomputable def f_X8_judge (a0 : Nat) (σ : St) : Option (Int32 × St) := if hT σ a0 = 9 then f_X8_judge_0 a0 σ else none
noncomputable def f_X8_kept_20 (a0 : Nat) (a1 : Int32) (s0 : Nat) (s1 : Int32) (σ : St) : Option (Int32 × St) :=
  (f_X8_refused s0 s1 1 σ).bind fun q1 =>
  if q1.1 = 0 then
    (gR 9 6 a0 q1.2).bind fun x3 =>
    (gR 4 4 x3 q1.2).bind fun x4 =>
    (aI 22 x4 a1 q1.2).bind fun x5 =>
    some (x5, q1.2)
  else
    some ((-1), q1.2)
noncomputable def f_X8_kept_15 (a0 : Nat) (a1 : Int32) (s0 : Nat) (σ : St) : Option (Int32 × St) :=
  f_X8_kept_20 a0 a1 s0 1 σ
noncomputable def f_X8_kept_0 (a0 : Nat) (a1 : Int32) (σ : St) : Option (Int32 × St) :=
  (gI 9 2 a0 σ).bind fun x1 =>
  if x1 = 0 then
    f_X8_kept_15 a0 a1 a0 σ
  else
    (f_X8_isRegister a1 σ).bind fun q3 =>
    if q3.1 = 0 then
      f_X8_kept_15 a0 a1 a0 q3.2
    else
      f_X8_kept_20 a0 a1 a0 0 q3.2
noncomputable def f_X8_kept (a0 : Nat) (a1 : Int32) (σ : St) : Option (Int32 × St) := if hT σ a0 = 9 then f_X8_kept_0 a0 a1 σ else none
noncomputable def f_X8_letGo_13 (a0 : Nat) (s0 : Nat) (s1 : Int32) (σ : St) : Option (Int32 × St) :=
  (f_X8_refused s0 s1 1 σ).bind fun q1 =>
  if q1.1 = 0 then
    (gR 9 6 a0 q1.2).bind fun x3 =>
    (gR 9 6 a0 q1.2).bind fun x4 =>
    (gI 4 6 x4 q1.2).bind fun x5 =>
    (f_X3_letGoBits x3 x5 q1.2).bind fun q6 =>
    some (q6.1, q6.2)
  else
    some ((-1), q1.2)
noncomputable def f_X8_letGo_0 (a0 : Nat) (σ : St) : Option (Int32 × St) :=
  (gI 9 2 a0 σ).bind fun x1 =>
  if x1 = 0 then
    f_X8_letGo_13 a0 a0 1 σ
  else
    f_X8_letGo_13 a0 a0 0 σ
noncomputable def f_X8_letGo (a0 : Nat) (σ : St) : Option (Int32 × St) := if hT σ a0 = 9 then f_X8_letGo_0 a0 σ else none
noncomputable def f_X8_mapped_20 (a0 : Nat) (a1 : Int32) (s0 : Nat) (s1 : Int32) (σ : St) : Option (Int32 × St) :=
  (f_X8_refused s0 s1 1 σ).bind fun q1 =>
  if q1.1 = 0 then
    (gR 9 6 a0 q1.2).bind fun x3 =>
    (gR 9 6 a0 q1.2).bind fun x4 =>
    (gI 4 6 x4 q1.2).bind fun x5 =>
    (f_X3_mapBy x3 x5 a1 q1.2).bind fun q6 =>
    some (q6.1, q6.2)
  else
    some ((-1), q1.2)
noncomputable def f_X8_mapped_15 (a0 : Nat) (a1 : Int32) (s0 : Nat) (σ : St) : Option (Int32 × St) :=
  f_X8_mapped_20 a0 a1 s0 1 σ
noncomputable def f_X8_mapped_0 (a0 : Nat) (a1 : Int32) (σ : St) : Option (Int32 × St) :=
  (gI 9 2 a0 σ).bind fun x1 =>
  if x1 = 0 then
    f_X8_mapped_15 a0 a1 a0 σ
  else
    (f_X8_isRegister a1 σ).bind fun q3 =>
    if q3.1 = 0 then
      f_X8_mapped_15 a0 a1 a0 q3.2
    else
      f_X8_mapped_20 a0 a1 a0 0 q3.2
noncomputable def f_X8_mapped (a0 : Nat) (a1 : Int32) (σ : St) : Option (Int32 × St) := if hT σ a0 = 9 then f_X8_mapped_0 a0 a1 σ else none
noncomputable def f_X8_misses_40  (σ : St) : Option (Int32 × St) :=
  some ((-1), σ)
noncomputable def f_X8_misses_33 (a0 : Nat) (a1 : Int32) (s0 : Nat) (s1 : Int32) (σ : St) : Option (Int32 × St) :=
  (f_X8_refused s0 s1 2 σ).bind fun q1 =>
  if q1.1 = 0 then
    (gR 9 10 a0 q1.2).bind fun x3 =>
    (gR 1 3 x3 q1.2).bind fun x4 =>
    (gR 9 10 a0 q1.2).bind fun x5 =>
    (gR 9 3 a0 q1.2).bind fun x6 =>
    (f_X0_slotOf x5 x6 a1 q1.2).bind fun q7 =>
    (aI 22 x4 q7.1 q7.2).bind fun x8 =>
    some (x8, q7.2)
  else
    f_X8_misses_40  q1.2
noncomputable def f_X8_misses_13 (a0 : Nat) (a1 : Int32) (s0 : Nat) (s1 : Int32) (σ : St) : Option (Int32 × St) :=
  (f_X8_refused s0 s1 1 σ).bind fun q1 =>
  if q1.1 = 0 then
    (f_X8_isCells a1 q1.2).bind fun q3 =>
    if q3.1 = 0 then
      f_X8_misses_33 a0 a1 a0 1 q3.2
    else
      f_X8_misses_33 a0 a1 a0 0 q3.2
  else
    f_X8_misses_40  q1.2
noncomputable def f_X8_misses_0 (a0 : Nat) (a1 : Int32) (σ : St) : Option (Int32 × St) :=
  (gI 9 2 a0 σ).bind fun x1 =>
  if x1 = 0 then
    f_X8_misses_13 a0 a1 a0 1 σ
  else
    f_X8_misses_13 a0 a1 a0 0 σ
noncomputable def f_X8_misses (a0 : Nat) (a1 : Int32) (σ : St) : Option (Int32 × St) := if hT σ a0 = 9 then f_X8_misses_0 a0 a1 σ else none
noncomputable def f_X8_nextStep_13 (a0 : Nat) (s0 : Nat) (s1 : Int32) (σ : St) : Option (Int32 × St) :=
  (f_X8_refused s0 s1 1 σ).bind fun q1 =>
  if q1.1 = 0 then
    (gR 9 6 a0 q1.2).bind fun x3 =>
    (gI 4 16 x3 q1.2).bind fun x4 =>
    some (x4, q1.2)
  else
    some ((-1), q1.2)
noncomputable def f_X8_nextStep_0 (a0 : Nat) (σ : St) : Option (Int32 × St) :=
  (gI 9 2 a0 σ).bind fun x1 =>
  if x1 = 0 then
    f_X8_nextStep_13 a0 a0 1 σ
  else
    f_X8_nextStep_13 a0 a0 0 σ
noncomputable def f_X8_nextStep (a0 : Nat) (σ : St) : Option (Int32 × St) := if hT σ a0 = 9 then f_X8_nextStep_0 a0 σ else none
noncomputable def f_X8_plainAt_47 (a0 : Nat) (a1 : Int32) (a2 : Int32) (s0 : Nat) (s1 : Int32) (σ : St) : Option (Int32 × St) :=
  (f_X8_refused s0 s1 2 σ).bind fun q1 =>
  if q1.1 = 0 then
    (gR 9 9 a0 q1.2).bind fun x3 =>
    (gR 9 3 a0 q1.2).bind fun x4 =>
    (f_X4_play x3 x4 0 a2 q1.2).bind fun σ5 =>
    (gR 9 9 a0 σ5).bind fun x6 =>
    (gR 5 0 x6 σ5).bind fun x7 =>
    (aI 22 x7 a1 σ5).bind fun x8 =>
    some (x8, σ5)
  else
    some ((-1), q1.2)
noncomputable def f_X8_plainAt_42 (a0 : Nat) (a1 : Int32) (a2 : Int32) (s0 : Nat) (σ : St) : Option (Int32 × St) :=
  f_X8_plainAt_47 a0 a1 a2 s0 1 σ
noncomputable def f_X8_plainAt_20 (a0 : Nat) (a1 : Int32) (a2 : Int32) (s0 : Nat) (s1 : Int32) (σ : St) : Option (Int32 × St) :=
  (f_X8_refused s0 s1 1 σ).bind fun q1 =>
  if q1.1 = 0 then
    if a2 < 0 then
      f_X8_plainAt_42 a0 a1 a2 a0 q1.2
    else
      (f_X8_plainTotal a0 q1.2).bind fun q4 =>
      if a2 ≤ q4.1 then
        f_X8_plainAt_47 a0 a1 a2 a0 0 q4.2
      else
        f_X8_plainAt_42 a0 a1 a2 a0 q4.2
  else
    some ((-1), q1.2)
noncomputable def f_X8_plainAt_15 (a0 : Nat) (a1 : Int32) (a2 : Int32) (s0 : Nat) (σ : St) : Option (Int32 × St) :=
  f_X8_plainAt_20 a0 a1 a2 s0 1 σ
noncomputable def f_X8_plainAt_0 (a0 : Nat) (a1 : Int32) (a2 : Int32) (σ : St) : Option (Int32 × St) :=
  (gI 9 2 a0 σ).bind fun x1 =>
  if x1 = 0 then
    f_X8_plainAt_15 a0 a1 a2 a0 σ
  else
    (f_X8_isRegister a1 σ).bind fun q3 =>
    if q3.1 = 0 then
      f_X8_plainAt_15 a0 a1 a2 a0 q3.2
    else
      f_X8_plainAt_20 a0 a1 a2 a0 0 q3.2
noncomputable def f_X8_plainAt (a0 : Nat) (a1 : Int32) (a2 : Int32) (σ : St) : Option (Int32 × St) := if hT σ a0 = 9 then f_X8_plainAt_0 a0 a1 a2 σ else none
noncomputable def f_X8_plainEnd_71 (s0 : Int32) (σ : St) : Option (Int32 × St) :=
  some (s0, σ)
noncomputable def f_X8_plainEnd_13 (a0 : Nat) (s0 : Nat) (s1 : Int32) (σ : St) : Option (Int32 × St) :=
  (f_X8_refused s0 s1 1 σ).bind fun q1 =>
  if q1.1 = 0 then
    (gR 9 9 a0 q1.2).bind fun x3 =>
    (gR 9 3 a0 q1.2).bind fun x4 =>
    (f_X4_play x3 x4 0 200 q1.2).bind fun σ5 =>
    (gR 9 9 a0 σ5).bind fun x6 =>
    (gI 5 4 x6 σ5).bind fun x7 =>
    if x7 = 0 then
      (gR 9 3 a0 σ5).bind fun x9 =>
      (gR 9 9 a0 σ5).bind fun x10 =>
      (gI 5 2 x10 σ5).bind fun x11 =>
      (f_X5_has x9 x11 σ5).bind fun q12 =>
      if q12.1 = 0 then
        f_X8_plainEnd_71 0 q12.2
      else
        f_X8_plainEnd_71 2 q12.2
    else
      some (1, σ5)
  else
    some ((-1), q1.2)
noncomputable def f_X8_plainEnd_0 (a0 : Nat) (σ : St) : Option (Int32 × St) :=
  (gI 9 2 a0 σ).bind fun x1 =>
  if x1 = 0 then
    f_X8_plainEnd_13 a0 a0 1 σ
  else
    f_X8_plainEnd_13 a0 a0 0 σ
noncomputable def f_X8_plainEnd (a0 : Nat) (σ : St) : Option (Int32 × St) := if hT σ a0 = 9 then f_X8_plainEnd_0 a0 σ else none
noncomputable def f_X8_plainMisses_13 (a0 : Nat) (s0 : Nat) (s1 : Int32) (σ : St) : Option (Int32 × St) :=
  (f_X8_refused s0 s1 1 σ).bind fun q1 =>
  if q1.1 = 0 then
    (gR 9 9 a0 q1.2).bind fun x3 =>
    (gR 9 3 a0 q1.2).bind fun x4 =>
    (f_X4_play x3 x4 0 200 q1.2).bind fun σ5 =>
    (gR 9 9 a0 σ5).bind fun x6 =>
    (gI 5 3 x6 σ5).bind fun x7 =>
    some (x7, σ5)
  else
    some ((-1), q1.2)
noncomputable def f_X8_plainMisses_0 (a0 : Nat) (σ : St) : Option (Int32 × St) :=
  (gI 9 2 a0 σ).bind fun x1 =>
  if x1 = 0 then
    f_X8_plainMisses_13 a0 a0 1 σ
  else
    f_X8_plainMisses_13 a0 a0 0 σ
noncomputable def f_X8_plainMisses (a0 : Nat) (σ : St) : Option (Int32 × St) := if hT σ a0 = 9 then f_X8_plainMisses_0 a0 σ else none
noncomputable def f_X8_plainStep_45  (σ : St) : Option (Int32 × St) :=
  some ((-1), σ)
noncomputable def f_X8_plainStep_38 (a0 : Nat) (a1 : Int32) (s0 : Nat) (s1 : Int32) (σ : St) : Option (Int32 × St) :=
  (f_X8_refused s0 s1 2 σ).bind fun q1 =>
  if q1.1 = 0 then
    (gR 9 9 a0 q1.2).bind fun x3 =>
    (gR 9 3 a0 q1.2).bind fun x4 =>
    (f_X4_play x3 x4 0 a1 q1.2).bind fun σ5 =>
    (gR 9 9 a0 σ5).bind fun x6 =>
    (gI 5 2 x6 σ5).bind fun x7 =>
    some (x7, σ5)
  else
    f_X8_plainStep_45  q1.2
noncomputable def f_X8_plainStep_33 (a0 : Nat) (a1 : Int32) (s0 : Nat) (σ : St) : Option (Int32 × St) :=
  f_X8_plainStep_38 a0 a1 s0 1 σ
noncomputable def f_X8_plainStep_13 (a0 : Nat) (a1 : Int32) (s0 : Nat) (s1 : Int32) (σ : St) : Option (Int32 × St) :=
  (f_X8_refused s0 s1 1 σ).bind fun q1 =>
  if q1.1 = 0 then
    if a1 < 0 then
      f_X8_plainStep_33 a0 a1 a0 q1.2
    else
      (f_X8_plainTotal a0 q1.2).bind fun q4 =>
      if a1 ≤ q4.1 then
        f_X8_plainStep_38 a0 a1 a0 0 q4.2
      else
        f_X8_plainStep_33 a0 a1 a0 q4.2
  else
    f_X8_plainStep_45  q1.2
noncomputable def f_X8_plainStep_0 (a0 : Nat) (a1 : Int32) (σ : St) : Option (Int32 × St) :=
  (gI 9 2 a0 σ).bind fun x1 =>
  if x1 = 0 then
    f_X8_plainStep_13 a0 a1 a0 1 σ
  else
    f_X8_plainStep_13 a0 a1 a0 0 σ
noncomputable def f_X8_plainStep (a0 : Nat) (a1 : Int32) (σ : St) : Option (Int32 × St) := if hT σ a0 = 9 then f_X8_plainStep_0 a0 a1 σ else none
noncomputable def f_X8_plainSteps_13 (a0 : Nat) (s0 : Nat) (s1 : Int32) (σ : St) : Option (Int32 × St) :=
  (f_X8_refused s0 s1 1 σ).bind fun q1 =>
  if q1.1 = 0 then
    (f_X8_plainTotal a0 q1.2).bind fun q3 =>
    some (q3.1, q3.2)
  else
    some ((-1), q1.2)
noncomputable def f_X8_plainSteps_0 (a0 : Nat) (σ : St) : Option (Int32 × St) :=
  (gI 9 2 a0 σ).bind fun x1 =>
  if x1 = 0 then
    f_X8_plainSteps_13 a0 a0 1 σ
  else
    f_X8_plainSteps_13 a0 a0 0 σ
noncomputable def f_X8_plainSteps (a0 : Nat) (σ : St) : Option (Int32 × St) := if hT σ a0 = 9 then f_X8_plainSteps_0 a0 σ else none
noncomputable def f_X8_rate_40  (σ : St) : Option (Int64 × St) :=
  some ((-1), σ)
noncomputable def f_X8_rate_107 (s0 : Int64) (σ : St) : Option (Int64 × St) :=
  some (s0, σ)
noncomputable def f_X8_rate_33 (a0 : Nat) (a1 : Int32) (a2 : Int32) (s0 : Nat) (s1 : Int32) (σ : St) : Option (Int64 × St) :=
  (f_X8_refused s0 s1 2 σ).bind fun q1 =>
  if q1.1 = 0 then
    (gR 9 10 a0 q1.2).bind fun x3 =>
    (gR 9 3 a0 q1.2).bind fun x4 =>
    (f_X0_slotOf x3 x4 a1 q1.2).bind fun q5 =>
    (gR 9 10 a0 q5.2).bind fun x6 =>
    (gR 1 2 x6 q5.2).bind fun x7 =>
    (aI 22 x7 q5.1 q5.2).bind fun x8 =>
    (gR 9 10 a0 q5.2).bind fun x9 =>
    (gR 1 1 x9 q5.2).bind fun x10 =>
    (aI 22 x10 q5.1 q5.2).bind fun x11 =>
    (f_X8_commonDivisor x8 x11 q5.2).bind fun q12 =>
    if a2 = 0 then
      if q12.1 = 0 then none else
      f_X8_rate_107 ((x8 / q12.1).toInt64) q12.2
    else
      if q12.1 = 0 then none else
      f_X8_rate_107 ((x11 / q12.1).toInt64) q12.2
  else
    f_X8_rate_40  q1.2
noncomputable def f_X8_rate_13 (a0 : Nat) (a1 : Int32) (a2 : Int32) (s0 : Nat) (s1 : Int32) (σ : St) : Option (Int64 × St) :=
  (f_X8_refused s0 s1 1 σ).bind fun q1 =>
  if q1.1 = 0 then
    (f_X8_isCells a1 q1.2).bind fun q3 =>
    if q3.1 = 0 then
      f_X8_rate_33 a0 a1 a2 a0 1 q3.2
    else
      f_X8_rate_33 a0 a1 a2 a0 0 q3.2
  else
    f_X8_rate_40  q1.2
noncomputable def f_X8_rate_0 (a0 : Nat) (a1 : Int32) (a2 : Int32) (σ : St) : Option (Int64 × St) :=
  (gI 9 2 a0 σ).bind fun x1 =>
  if x1 = 0 then
    f_X8_rate_13 a0 a1 a2 a0 1 σ
  else
    f_X8_rate_13 a0 a1 a2 a0 0 σ
noncomputable def f_X8_rate (a0 : Nat) (a1 : Int32) (a2 : Int32) (σ : St) : Option (Int64 × St) := if hT σ a0 = 9 then f_X8_rate_0 a0 a1 a2 σ else none
noncomputable def f_X8_ready_13 (a0 : Nat) (s0 : Nat) (s1 : Int32) (σ : St) : Option (Int32 × St) :=
  (f_X8_refused s0 s1 1 σ).bind fun q1 =>
  if q1.1 = 0 then
    (gR 9 6 a0 q1.2).bind fun x3 =>
    (gI 4 3 x3 q1.2).bind fun x4 =>
    some (x4, q1.2)
  else
    some ((-1), q1.2)
noncomputable def f_X8_ready_0 (a0 : Nat) (σ : St) : Option (Int32 × St) :=
  (gI 9 2 a0 σ).bind fun x1 =>
  if x1 = 0 then
    f_X8_ready_13 a0 a0 1 σ
  else
    f_X8_ready_13 a0 a0 0 σ
noncomputable def f_X8_ready (a0 : Nat) (σ : St) : Option (Int32 × St) := if hT σ a0 = 9 then f_X8_ready_0 a0 σ else none
noncomputable def f_X8_resume_43  (σ : St) : Option (Int32 × St) :=
  some (0, σ)
noncomputable def f_X8_resume_61 (a0 : Nat) (a1 : Int32) (s0 : Nat) (s1 : Int32) (σ : St) : Option (Int32 × St) :=
  (f_X8_refused s0 s1 5 σ).bind fun q1 =>
  if q1.1 = 0 then
    (gR 9 8 a0 q1.2).bind fun x3 =>
    (gR 9 6 a0 q1.2).bind fun x4 =>
    (f_X2_keep x3 x4 q1.2).bind fun σ5 =>
    (gR 9 6 a0 σ5).bind fun x6 =>
    (f_X3_goOnAt x6 a1 σ5).bind fun σ7 =>
    some (1, σ7)
  else
    some (0, q1.2)
noncomputable def f_X8_resume_36 (a0 : Nat) (a1 : Int32) (s0 : Nat) (s1 : Int32) (σ : St) : Option (Int32 × St) :=
  (f_X8_refused s0 s1 2 σ).bind fun q1 =>
  if q1.1 = 0 then
    (gR 9 6 a0 q1.2).bind fun x3 =>
    (gI 4 17 x3 q1.2).bind fun x4 =>
    if x4 = 0 then
      f_X8_resume_61 a0 a1 a0 1 q1.2
    else
      f_X8_resume_61 a0 a1 a0 0 q1.2
  else
    f_X8_resume_43  q1.2
noncomputable def f_X8_resume_31 (a0 : Nat) (a1 : Int32) (s0 : Nat) (σ : St) : Option (Int32 × St) :=
  f_X8_resume_36 a0 a1 s0 1 σ
noncomputable def f_X8_resume_13 (a0 : Nat) (a1 : Int32) (s0 : Nat) (s1 : Int32) (σ : St) : Option (Int32 × St) :=
  (f_X8_refused s0 s1 1 σ).bind fun q1 =>
  if q1.1 = 0 then
    if a1 < 0 then
      f_X8_resume_31 a0 a1 a0 q1.2
    else
      if a1 ≤ 24 then
        f_X8_resume_36 a0 a1 a0 0 q1.2
      else
        f_X8_resume_31 a0 a1 a0 q1.2
  else
    f_X8_resume_43  q1.2
noncomputable def f_X8_resume_0 (a0 : Nat) (a1 : Int32) (σ : St) : Option (Int32 × St) :=
  (gI 9 2 a0 σ).bind fun x1 =>
  if x1 = 0 then
    f_X8_resume_13 a0 a1 a0 1 σ
  else
    f_X8_resume_13 a0 a1 a0 0 σ
noncomputable def f_X8_resume (a0 : Nat) (a1 : Int32) (σ : St) : Option (Int32 × St) := if hT σ a0 = 9 then f_X8_resume_0 a0 a1 σ else none
noncomputable def f_X8_run_45  (σ : St) : Option (Int32 × St) :=
  some ((-1), σ)
noncomputable def f_X8_run_38 (a0 : Nat) (a1 : Int32) (s0 : Nat) (s1 : Int32) (σ : St) : Option (Int32 × St) :=
  (f_X8_refused s0 s1 5 σ).bind fun q1 =>
  if q1.1 = 0 then
    (gR 9 8 a0 q1.2).bind fun x3 =>
    (gR 9 6 a0 q1.2).bind fun x4 =>
    (f_X2_keep x3 x4 q1.2).bind fun σ5 =>
    (gR 9 6 a0 σ5).bind fun x6 =>
    (f_X3_work x6 a1 σ5).bind fun q7 =>
    some (q7.1, q7.2)
  else
    f_X8_run_45  q1.2
noncomputable def f_X8_run_14 (a0 : Nat) (a1 : Int32) (s0 : Nat) (s1 : Int32) (σ : St) : Option (Int32 × St) :=
  (f_X8_refused s0 s1 1 σ).bind fun q1 =>
  if q1.1 = 0 then
    (gR 9 6 a0 q1.2).bind fun x3 =>
    (f_X3_canWork x3 a1 q1.2).bind fun q4 =>
    if q4.1 = 0 then
      f_X8_run_38 a0 a1 a0 1 q4.2
    else
      f_X8_run_38 a0 a1 a0 0 q4.2
  else
    f_X8_run_45  q1.2
noncomputable def f_X8_run_0 (a0 : Nat) (a1 : Int32) (σ : St) : Option (Int32 × St) :=
  (f_X8_isEntry a0 a1 σ).bind fun q1 =>
  if q1.1 = 0 then
    f_X8_run_14 a0 a1 a0 1 q1.2
  else
    f_X8_run_14 a0 a1 a0 0 q1.2
noncomputable def f_X8_run (a0 : Nat) (a1 : Int32) (σ : St) : Option (Int32 × St) := if hT σ a0 = 9 then f_X8_run_0 a0 a1 σ else none
noncomputable def f_X8_runnable_54 (k26 : Nat → Int32 → Int32 → St → Option (Int32 × St)) (a0 : Nat) (a1 : Int32) (a2 : Int32) (σ : St) : Option (Int32 × St) :=
  k26 a0 a1 (a2 + 1)  σ
noncomputable def f_X8_runnable_26 (n : Nat) : Nat → Int32 → Int32 → St → Option (Int32 × St) :=
  Nat.rec (motive := fun _ => Nat → Int32 → Int32 → St → Option (Int32 × St)) (fun _ _ _ _ => none) (fun _ ih => fun a0 a1 a2 σ =>
  (gR 9 6 a0 σ).bind fun x1 =>
  (gI 4 6 x1 σ).bind fun x2 =>
  if x2 ≤ a2 then
    some (a1, σ)
  else
    (gR 9 6 a0 σ).bind fun x4 =>
    (f_X3_canWork x4 a2 σ).bind fun q5 =>
    if q5.1 = 0 then
      f_X8_runnable_54 ih a0 a1 a2  q5.2
    else
      bnd (a1 ||| (jshl 1 a2)) fun x7 =>
      f_X8_runnable_54 ih a0 x7 a2  q5.2) n
theorem e_X8_runnable_26 (n : Nat) {a0 : Nat} {a1 : Int32} {a2 : Int32} {σ : St} : f_X8_runnable_26 (n + 1) a0 a1 a2 σ = (
  (gR 9 6 a0 σ).bind fun x1 =>
  (gI 4 6 x1 σ).bind fun x2 =>
  if x2 ≤ a2 then
    some (a1, σ)
  else
    (gR 9 6 a0 σ).bind fun x4 =>
    (f_X3_canWork x4 a2 σ).bind fun q5 =>
    if q5.1 = 0 then
      f_X8_runnable_54 (f_X8_runnable_26 n) a0 a1 a2  q5.2
    else
      bnd (a1 ||| (jshl 1 a2)) fun x7 =>
      f_X8_runnable_54 (f_X8_runnable_26 n) a0 x7 a2  q5.2) := rfl
noncomputable def f_X8_runnable_13 (a0 : Nat) (s0 : Nat) (s1 : Int32) (σ : St) : Option (Int32 × St) :=
  (f_X8_refused s0 s1 1 σ).bind fun q1 =>
  if q1.1 = 0 then
    f_X8_runnable_26 FU a0 0 0  q1.2
  else
    some ((-1), q1.2)
noncomputable def f_X8_runnable_0 (a0 : Nat) (σ : St) : Option (Int32 × St) :=
  (gI 9 2 a0 σ).bind fun x1 =>
  if x1 = 0 then
    f_X8_runnable_13 a0 a0 1 σ
  else
    f_X8_runnable_13 a0 a0 0 σ
noncomputable def f_X8_runnable (a0 : Nat) (σ : St) : Option (Int32 × St) := if hT σ a0 = 9 then f_X8_runnable_0 a0 σ else none
noncomputable def f_X8_saved_61 (s0 : Int32) (σ : St) : Option (Int32 × St) :=
  some (s0, σ)
noncomputable def f_X8_saved_21 (a0 : Nat) (a1 : Int32) (a2 : Int32) (s0 : Nat) (s1 : Int32) (σ : St) : Option (Int32 × St) :=
  (f_X8_refused s0 s1 1 σ).bind fun q1 =>
  if q1.1 = 0 then
    (gR 9 6 a0 q1.2).bind fun x3 =>
    (gI 4 15 x3 q1.2).bind fun x4 =>
    if ((jshr x4 a1) &&& 1) = 1 then
      (gR 9 6 a0 q1.2).bind fun x6 =>
      (f_X3_mapBy x6 (a1 + 1) a2 q1.2).bind fun q7 =>
      f_X8_saved_61 q7.1 q7.2
    else
      f_X8_saved_61 (-2) q1.2
  else
    some ((-1), q1.2)
noncomputable def f_X8_saved_16 (a0 : Nat) (a1 : Int32) (a2 : Int32) (s0 : Nat) (σ : St) : Option (Int32 × St) :=
  f_X8_saved_21 a0 a1 a2 s0 1 σ
noncomputable def f_X8_saved_0 (a0 : Nat) (a1 : Int32) (a2 : Int32) (σ : St) : Option (Int32 × St) :=
  (f_X8_isEntry a0 a1 σ).bind fun q1 =>
  if q1.1 = 0 then
    f_X8_saved_16 a0 a1 a2 a0 q1.2
  else
    (f_X8_isRegister a2 q1.2).bind fun q3 =>
    if q3.1 = 0 then
      f_X8_saved_16 a0 a1 a2 a0 q3.2
    else
      f_X8_saved_21 a0 a1 a2 a0 0 q3.2
noncomputable def f_X8_saved (a0 : Nat) (a1 : Int32) (a2 : Int32) (σ : St) : Option (Int32 × St) := if hT σ a0 = 9 then f_X8_saved_0 a0 a1 a2 σ else none
noncomputable def f_X8_sizeOfText_91 (s0 : Int32) (σ : St) : Option (Int32 × St) :=
  some (s0, σ)
noncomputable def f_X8_sizeOfText_0 (a0 : Nat) (a1 : Int32) (σ : St) : Option (Int32 × St) :=
  if a1 = 0 then
    (gR 9 3 a0 σ).bind fun x8 =>
    (gI 6 0 x8 σ).bind fun x9 =>
    some (x9, σ)
  else
    if a1 = 1 then
      (gR 9 3 a0 σ).bind fun x10 =>
      (gI 6 1 x10 σ).bind fun x11 =>
      some (x11, σ)
    else
      if a1 = 2 then
        (gR 9 3 a0 σ).bind fun x12 =>
        (gI 6 2 x12 σ).bind fun x13 =>
        some (x13, σ)
      else
        if a1 = 3 then
          (gR 9 3 a0 σ).bind fun x14 =>
          (gI 6 3 x14 σ).bind fun x15 =>
          some (x15, σ)
        else
          if a1 = 4 then
            (gR 9 3 a0 σ).bind fun x16 =>
            (gI 6 4 x16 σ).bind fun x17 =>
            if x17 = 0 then
              f_X8_sizeOfText_91 0 σ
            else
              f_X8_sizeOfText_91 1 σ
          else
            if a1 = 5 then
              (gR 9 3 a0 σ).bind fun x19 =>
              (gI 6 5 x19 σ).bind fun x20 =>
              some (x20, σ)
            else
              if a1 = 6 then
                (gR 9 3 a0 σ).bind fun x21 =>
                (gI 6 12 x21 σ).bind fun x22 =>
                some (x22, σ)
              else
                (gR 9 3 a0 σ).bind fun x23 =>
                (gI 6 15 x23 σ).bind fun x24 =>
                some (x24, σ)
noncomputable def f_X8_sizeOfText (a0 : Nat) (a1 : Int32) (σ : St) : Option (Int32 × St) := if hT σ a0 = 9 then f_X8_sizeOfText_0 a0 a1 σ else none
noncomputable def f_X8_sizeOfState_66 (s0 : Int32) (σ : St) : Option (Int32 × St) :=
  some (s0, σ)
noncomputable def f_X8_sizeOfState_0 (a0 : Nat) (a1 : Int32) (σ : St) : Option (Int32 × St) :=
  if a1 = 8 then
    (gR 9 6 a0 σ).bind fun x5 =>
    (gI 4 19 x5 σ).bind fun x6 =>
    some (x6, σ)
  else
    if a1 = 9 then
      (gR 9 6 a0 σ).bind fun x7 =>
      (gI 4 15 x7 σ).bind fun x8 =>
      (f_J6_bitCount_0f7a4 x8 σ).bind fun q9 =>
      some (q9.1, q9.2)
    else
      if a1 = 10 then
        (gR 9 6 a0 σ).bind fun x10 =>
        (gI 4 17 x10 σ).bind fun x11 =>
        if x11 = 0 then
          f_X8_sizeOfState_66 0 σ
        else
          f_X8_sizeOfState_66 1 σ
      else
        if a1 = 11 then
          (gR 9 8 a0 σ).bind fun x13 =>
          (gI 3 3 x13 σ).bind fun x14 =>
          some (x14, σ)
        else
          (gR 9 8 a0 σ).bind fun x15 =>
          (gI 3 4 x15 σ).bind fun x16 =>
          some (x16, σ)
noncomputable def f_X8_sizeOfState (a0 : Nat) (a1 : Int32) (σ : St) : Option (Int32 × St) := if hT σ a0 = 9 then f_X8_sizeOfState_0 a0 a1 σ else none
noncomputable def f_X8_size_10  (σ : St) : Option (Int32 × St) :=
  some ((-1), σ)
noncomputable def f_X8_size_51 (s0 : Int32) (σ : St) : Option (Int32 × St) :=
  some (s0, σ)
noncomputable def f_X8_size_0 (a0 : Nat) (a1 : Int32) (σ : St) : Option (Int32 × St) :=
  if a1 < 0 then
    f_X8_size_10  σ
  else
    if a1 ≤ 13 then
      if a1 = 13 then
        (gI 9 1 a0 σ).bind fun x9 =>
        some (x9, σ)
      else
        (gI 9 2 a0 σ).bind fun x4 =>
        if x4 = 0 then
          some (0, σ)
        else
          if 8 ≤ a1 then
            (f_X8_sizeOfState a0 a1 σ).bind fun q7 =>
            f_X8_size_51 q7.1 q7.2
          else
            (f_X8_sizeOfText a0 a1 σ).bind fun q8 =>
            f_X8_size_51 q8.1 q8.2
    else
      f_X8_size_10  σ
noncomputable def f_X8_size (a0 : Nat) (a1 : Int32) (σ : St) : Option (Int32 × St) := if hT σ a0 = 9 then f_X8_size_0 a0 a1 σ else none
noncomputable def f_X8_surely_13 (a0 : Nat) (s0 : Nat) (s1 : Int32) (σ : St) : Option (Int32 × St) :=
  (f_X8_refused s0 s1 1 σ).bind fun q1 =>
  if q1.1 = 0 then
    (gR 9 11 a0 q1.2).bind fun x3 =>
    (f_X1_inAll x3 q1.2).bind fun q4 =>
    some (q4.1, q4.2)
  else
    some ((-1), q1.2)
noncomputable def f_X8_surely_0 (a0 : Nat) (σ : St) : Option (Int32 × St) :=
  (gI 9 2 a0 σ).bind fun x1 =>
  if x1 = 0 then
    f_X8_surely_13 a0 a0 1 σ
  else
    f_X8_surely_13 a0 a0 0 σ
noncomputable def f_X8_surely (a0 : Nat) (σ : St) : Option (Int32 × St) := if hT σ a0 = 9 then f_X8_surely_0 a0 σ else none
noncomputable def f_X8_trouble_0 (a0 : Nat) (σ : St) : Option (Int32 × St) :=
  (gI 9 12 a0 σ).bind fun x1 =>
  some (x1, σ)
noncomputable def f_X8_trouble (a0 : Nat) (σ : St) : Option (Int32 × St) := if hT σ a0 = 9 then f_X8_trouble_0 a0 σ else none
noncomputable def f_X8_undo_16 (a0 : Nat) (s0 : Nat) (s1 : Int32) (σ : St) : Option (Int32 × St) :=
  (f_X8_refused s0 s1 6 σ).bind fun q1 =>
  if q1.1 = 0 then
    (gR 9 8 a0 q1.2).bind fun x3 =>
    (gR 9 6 a0 q1.2).bind fun x4 =>
    (f_X2_takeBack x3 x4 q1.2).bind fun σ5 =>
    some (1, σ5)
  else
    some (0, q1.2)
noncomputable def f_X8_undo_0 (a0 : Nat) (σ : St) : Option (Int32 × St) :=
  (gR 9 8 a0 σ).bind fun x1 =>
  (gI 3 3 x1 σ).bind fun x2 =>
  if x2 = 0 then
    f_X8_undo_16 a0 a0 1 σ
  else
    f_X8_undo_16 a0 a0 0 σ
noncomputable def f_X8_undo (a0 : Nat) (σ : St) : Option (Int32 × St) := if hT σ a0 = 9 then f_X8_undo_0 a0 σ else none
noncomputable def f_X8_value_20 (a0 : Nat) (a1 : Int32) (s0 : Nat) (s1 : Int32) (σ : St) : Option (Int32 × St) :=
  (f_X8_refused s0 s1 1 σ).bind fun q1 =>
  if q1.1 = 0 then
    (gR 9 6 a0 q1.2).bind fun x3 =>
    (f_X3_keptValue x3 a1 q1.2).bind fun q4 =>
    some (q4.1, q4.2)
  else
    some ((-1), q1.2)
noncomputable def f_X8_value_15 (a0 : Nat) (a1 : Int32) (s0 : Nat) (σ : St) : Option (Int32 × St) :=
  f_X8_value_20 a0 a1 s0 1 σ
noncomputable def f_X8_value_0 (a0 : Nat) (a1 : Int32) (σ : St) : Option (Int32 × St) :=
  (gI 9 2 a0 σ).bind fun x1 =>
  if x1 = 0 then
    f_X8_value_15 a0 a1 a0 σ
  else
    (f_X8_isRegister a1 σ).bind fun q3 =>
    if q3.1 = 0 then
      f_X8_value_15 a0 a1 a0 q3.2
    else
      f_X8_value_20 a0 a1 a0 0 q3.2
noncomputable def f_X8_value (a0 : Nat) (a1 : Int32) (σ : St) : Option (Int32 × St) := if hT σ a0 = 9 then f_X8_value_0 a0 a1 σ else none
noncomputable def f_X8_walked_21 (a0 : Nat) (a1 : Int32) (a2 : Int32) (s0 : Nat) (s1 : Int32) (σ : St) : Option (Int32 × St) :=
  (f_X8_refused s0 s1 1 σ).bind fun q1 =>
  if q1.1 = 0 then
    (gR 9 6 a0 q1.2).bind fun x3 =>
    (f_X3_mapBy x3 (a1 + 1) a2 q1.2).bind fun q4 =>
    some (q4.1, q4.2)
  else
    some ((-1), q1.2)
noncomputable def f_X8_walked_16 (a0 : Nat) (a1 : Int32) (a2 : Int32) (s0 : Nat) (σ : St) : Option (Int32 × St) :=
  f_X8_walked_21 a0 a1 a2 s0 1 σ
noncomputable def f_X8_walked_0 (a0 : Nat) (a1 : Int32) (a2 : Int32) (σ : St) : Option (Int32 × St) :=
  (f_X8_isEntry a0 a1 σ).bind fun q1 =>
  if q1.1 = 0 then
    f_X8_walked_16 a0 a1 a2 a0 q1.2
  else
    (f_X8_isRegister a2 q1.2).bind fun q3 =>
    if q3.1 = 0 then
      f_X8_walked_16 a0 a1 a2 a0 q3.2
    else
      f_X8_walked_21 a0 a1 a2 a0 0 q3.2
noncomputable def f_X8_walked (a0 : Nat) (a1 : Int32) (a2 : Int32) (σ : St) : Option (Int32 × St) := if hT σ a0 = 9 then f_X8_walked_0 a0 a1 a2 σ else none
noncomputable def f_X8_where_19 (s0 : Int32) (σ : St) : Option (Int32 × St) :=
  some (s0, σ)
noncomputable def f_X8_where_0 (a0 : Nat) (σ : St) : Option (Int32 × St) :=
  (gI 9 12 a0 σ).bind fun x1 =>
  if x1 = 4 then
    (gR 9 5 a0 σ).bind fun x3 =>
    (gI 7 1 x3 σ).bind fun x4 =>
    f_X8_where_19 x4 σ
  else
    f_X8_where_19 (-1) σ
noncomputable def f_X8_where (a0 : Nat) (σ : St) : Option (Int32 × St) := if hT σ a0 = 9 then f_X8_where_0 a0 σ else none
