theorem w_J3_checkIndex_8e157_0 {sa : Env3} {a0 : Int32} {a1 : Int32} {a2 : Option Nat} {σ : St} {r : Int32 × St} (h : f_J3_checkIndex_8e157_0 a0 a1 a2 σ = some r) : VV sa cJ3_checkIndex_8e157 K_J3_checkIndex_8e157 0 [(0, .int a0), (1, .int a1), (2, va_rf a2)] [] σ (pO r) 0 0 := by
  unfold f_J3_checkIndex_8e157_0 at h
  refine v_iload_n (dq D_J3_checkIndex_8e157 0 rfl) 0 rfl ?_
  refine v_if_lt (dq D_J3_checkIndex_8e157 1 rfl) rfl (fun c1 => ?_) (fun c1 => ?_)
  · have h := itp h c1
    cases h
  · have h := itn h c1
    refine v_iload_n (dq D_J3_checkIndex_8e157 2 rfl) 0 rfl ?_
    refine v_iload_n (dq D_J3_checkIndex_8e157 3 rfl) 1 rfl ?_
    refine v_icmp_lt (dq D_J3_checkIndex_8e157 4 rfl) rfl (fun c2 => ?_) (fun c2 => ?_)
    · have h := itp h c2
      refine v_iload_n (dq D_J3_checkIndex_8e157 10 rfl) 0 rfl ?_
      obtain rfl := Option.some.inj h
      exact v_iret (dq D_J3_checkIndex_8e157 11 rfl) rfl ⟨rfl, rfl⟩
    · have h := itn h c2
      cases h
theorem m_J3_checkIndex_8e157 {sa : Env3} {a0 : Int32} {a1 : Int32} {a2 : Option Nat} {σ : St} {r : Int32 × St} (h : f_J3_checkIndex_8e157 a0 a1 a2 σ = some r) : Ex sa yJ3_checkIndex_8e157 cJ3_checkIndex_8e157 K_J3_checkIndex_8e157 [.int a0, .int a1, va_rf a2] σ (pO r) := by cases a2 <;> exact Ex.of (by decide) rfl (fun q => nomatch q) (Nat.le_of_ble_eq_true rfl) (w_J3_checkIndex_8e157_0 h)
theorem m_J0_checkIndex_df160 {sa : Env3} {a0 a1 : Int32} {σ : St} {r : St} (h : f_J0_checkIndex_df160 a0 a1 σ = some r) : Ex sa yJ0_checkIndex_df160 cJ0_checkIndex_df160 K_J0_checkIndex_df160 [.int a0, .int a1] σ (pU r) := by
  refine Ex.of (by decide) rfl (fun q => nomatch q) (Nat.le_of_ble_eq_true rfl) ?_
  unfold f_J0_checkIndex_df160 at h
  obtain ⟨q1, hq1, h⟩ := obi h
  refine v_iload_n (dq D_J0_checkIndex_df160 0 rfl) 0 rfl ?_
  refine v_iload_n (dq D_J0_checkIndex_df160 1 rfl) 1 rfl ?_
  refine v_sfm (dq D_J0_checkIndex_df160 2 rfl) tw_492 (fun o => ?_)
  have hq2 : f_J3_checkIndex_8e157 a0 a1 o σ = some q1 := hq1
  refine v_cSi (bc := 0) (bs := 0) (As := [.int a0, .int a1, va_rf o]) (dq D_J0_checkIndex_df160 3 rfl) cs_J3_checkIndex_8e157 ml_RJ0_1059 (m_J3_checkIndex_8e157 hq2) rfl rfl (Nat.le_of_ble_eq_true rfl) ⟨Nat.le_of_ble_eq_true rfl, Nat.le_of_ble_eq_true rfl⟩ ⟨Nat.le_of_ble_eq_true rfl, Nat.le_of_ble_eq_true rfl⟩ ?_
  refine v_pop (dq D_J0_checkIndex_df160 4 rfl) rfl ?_
  obtain rfl := Option.some.inj h
  exact v_vret (dq D_J0_checkIndex_df160 5 rfl) rfl ⟨rfl, rfl⟩
theorem w_J0_isLatin1_aae02_18 {sa : Env3} {s0 : Int32} {σ : St} {r : Int32 × St} (h : f_J0_isLatin1_aae02_18 s0 σ = some r) : VV sa cJ0_isLatin1_aae02 K_J0_isLatin1_aae02 18 [] [.int s0] σ (pO r) 0 0 := by
  unfold f_J0_isLatin1_aae02_18 at h
  have hz := (itg h).1
  have h := (itg h).2
  obtain rfl := Option.some.inj h
  exact v_zret (dq D_J0_isLatin1_aae02 8 rfl) rfl (z_nar hz) ⟨rfl, rfl⟩
theorem w_J0_isLatin1_aae02_17 {sa : Env3}  {σ : St} {r : Int32 × St} (h : f_J0_isLatin1_aae02_17  σ = some r) : VV sa cJ0_isLatin1_aae02 K_J0_isLatin1_aae02 17 [] [] σ (pO r) 0 0 := by
  unfold f_J0_isLatin1_aae02_17 at h
  refine v_iconst (dq D_J0_isLatin1_aae02 7 rfl) kc_0 ?_
  exact w_J0_isLatin1_aae02_18 h
theorem w_J0_isLatin1_aae02_0 {sa : Env3} {a0 : Nat} {σ : St} {r : Int32 × St} (hs0 : a0 < nStr) (h : f_J0_isLatin1_aae02_0 a0 σ = some r) : VV sa cJ0_isLatin1_aae02 K_J0_isLatin1_aae02 0 [(0, .ref (sa.1 a0))] [] σ (pO r) 0 0 := by
  unfold f_J0_isLatin1_aae02_0 at h
  refine v_scs (dq D_J0_isLatin1_aae02 0 rfl) tw_476 ?_
  refine v_if_eq (dq D_J0_isLatin1_aae02 1 rfl) rfl (fun c1 => ?_) (fun c1 => ?_)
  · have h := itp h c1
    exact v_sub [] rfl (w_J0_isLatin1_aae02_17 h)
  · have h := itn h c1
    refine v_aload_n (dq D_J0_isLatin1_aae02 2 rfl) 0 rfl ?_
    refine v_scod (dq D_J0_isLatin1_aae02 3 rfl) tw_1945 hs0 ?_
    refine v_if_ne (dq D_J0_isLatin1_aae02 4 rfl) rfl (fun c2 => ?_) (fun c2 => ?_)
    · have h := itn h c2
      exact v_sub [] rfl (w_J0_isLatin1_aae02_17 h)
    · have h := itp h c2
      refine v_iconst (dq D_J0_isLatin1_aae02 5 rfl) kc_1 ?_
      refine v_goto (dq D_J0_isLatin1_aae02 6 rfl) rfl ?_
      exact v_sub [] rfl (w_J0_isLatin1_aae02_18 h)
theorem m_J0_isLatin1_aae02 {sa : Env3} {a0 : Nat} {σ : St} {r : Int32 × St} (h : f_J0_isLatin1_aae02 a0 σ = some r) : Ex sa yJ0_isLatin1_aae02 cJ0_isLatin1_aae02 K_J0_isLatin1_aae02 [.ref (sa.1 a0)] σ (pO r) := Ex.of (by decide) rfl (fun q => nomatch q) (Nat.le_of_ble_eq_true rfl) (w_J0_isLatin1_aae02_0 (itg h).1 (itg h).2)
theorem w_J1_charAt_3b067_0 {sa : Env3} {a0 : Nat} {a1 : Int32} {σ : St} {r : Int32 × St} (h : f_J1_charAt_3b067_0 a0 a1 σ = some r) : VV sa cJ1_charAt_3b067 K_J1_charAt_3b067 0 [(0, .ref (sa.1 (a0 + 2000))), (1, .int a1)] [] σ (pO r) 0 0 := by
  unfold f_J1_charAt_3b067_0 at h
  refine v_iload_n (dq D_J1_charAt_3b067 0 rfl) 1 rfl ?_
  refine v_aload_n (dq D_J1_charAt_3b067 1 rfl) 0 rfl ?_
  obtain ⟨x1, hx1, h⟩ := obi h
  refine v_sbl (dq D_J1_charAt_3b067 2 rfl) hx1 ?_
  obtain ⟨σ2, hσ2, h⟩ := obi h
  refine v_cSv (bc := 0) (bs := 0) (As := [.int a1, .int x1]) (dq D_J1_charAt_3b067 3 rfl) cs_J0_checkIndex_df160 ml_RJ1_9 (m_J0_checkIndex_df160 hσ2) rfl rfl (Nat.le_of_ble_eq_true rfl) ⟨Nat.le_of_ble_eq_true rfl, Nat.le_of_ble_eq_true rfl⟩ ⟨Nat.le_of_ble_eq_true rfl, Nat.le_of_ble_eq_true rfl⟩ ?_
  refine v_aload_n (dq D_J1_charAt_3b067 4 rfl) 0 rfl ?_
  refine v_iload_n (dq D_J1_charAt_3b067 5 rfl) 1 rfl ?_
  obtain ⟨x3, hx3, h⟩ := obi h
  refine v_sba (dq D_J1_charAt_3b067 6 rfl) hx3 ?_
  refine v_sipush (dq D_J1_charAt_3b067 7 rfl) ks_255 ?_
  refine v_iand (dq D_J1_charAt_3b067 8 rfl) ?_
  refine v_i2c (dq D_J1_charAt_3b067 9 rfl) ?_
  obtain rfl := Option.some.inj h
  exact v_zret (dq D_J1_charAt_3b067 10 rfl) rfl (pk_nc _) ⟨rfl, rfl⟩
theorem m_J1_charAt_3b067 {sa : Env3} {a0 : Nat} {a1 : Int32} {σ : St} {r : Int32 × St} (h : f_J1_charAt_3b067 a0 a1 σ = some r) : Ex sa yJ1_charAt_3b067 cJ1_charAt_3b067 K_J1_charAt_3b067 [.ref (sa.1 (a0 + 2000)), .int a1] σ (pO r) := Ex.of (by decide) rfl (fun q => nomatch q) (Nat.le_of_ble_eq_true rfl) (w_J1_charAt_3b067_0 h)
theorem w_J0_charAt_5068e_0 {sa : Env3} {a0 : Nat} {a1 : Int32} {σ : St} {r : Int32 × St} (hs0 : a0 < nStr) (h : f_J0_charAt_5068e_0 a0 a1 σ = some r) : VV sa cJ0_charAt_5068e K_J0_charAt_5068e 0 [(0, .ref (sa.1 a0)), (1, .int a1)] [] σ (pO r) 0 0 := by
  unfold f_J0_charAt_5068e_0 at h
  refine v_aload_n (dq D_J0_charAt_5068e 0 rfl) 0 rfl ?_
  obtain ⟨q1, hq1, h⟩ := obi h
  refine v_cTi (bc := 0) (bs := 0) (As := []) (dq D_J0_charAt_5068e 1 rfl) ct_J0_isLatin1_aae02 ml_RJ0_492 (itg hq1).1 (m_J0_isLatin1_aae02 hq1) rfl rfl (Nat.le_of_ble_eq_true rfl) ⟨Nat.le_of_ble_eq_true rfl, Nat.le_of_ble_eq_true rfl⟩ ⟨Nat.le_of_ble_eq_true rfl, Nat.le_of_ble_eq_true rfl⟩ ?_
  refine v_if_eq (dq D_J0_charAt_5068e 2 rfl) rfl (fun c2 => ?_) (fun c2 => ?_)
  · have h := itp h c2
    cases h
  · have h := itn h c2
    refine v_aload_n (dq D_J0_charAt_5068e 3 rfl) 0 rfl ?_
    refine v_sval (dq D_J0_charAt_5068e 4 rfl) tw_1944 hs0 ?_
    refine v_iload_n (dq D_J0_charAt_5068e 5 rfl) 1 rfl ?_
    obtain ⟨q3, hq3, h⟩ := obi h
    refine v_cSi (bc := 0) (bs := 0) (As := [.ref (sa.1 (a0 + 2000)), .int a1]) (dq D_J0_charAt_5068e 6 rfl) cs_J1_charAt_3b067 ml_RJ0_495 (m_J1_charAt_3b067 hq3) rfl rfl (Nat.le_of_ble_eq_true rfl) ⟨Nat.le_of_ble_eq_true rfl, Nat.le_of_ble_eq_true rfl⟩ ⟨Nat.le_of_ble_eq_true rfl, Nat.le_of_ble_eq_true rfl⟩ ?_
    have hz := (itg h).1
    have h := (itg h).2
    obtain rfl := Option.some.inj h
    exact v_zret (dq D_J0_charAt_5068e 7 rfl) rfl (jc_nar hz) ⟨rfl, rfl⟩
theorem m_J0_charAt_5068e {sa : Env3} {a0 : Nat} {a1 : Int32} {σ : St} {r : Int32 × St} (h : f_J0_charAt_5068e a0 a1 σ = some r) : Ex sa yJ0_charAt_5068e cJ0_charAt_5068e K_J0_charAt_5068e [.ref (sa.1 a0), .int a1] σ (pO r) := Ex.of (by decide) rfl (fun q => nomatch q) (Nat.le_of_ble_eq_true rfl) (w_J0_charAt_5068e_0 (itg h).1 (itg h).2)
theorem w_J0_coder_7d493_14 {sa : Env3} {s0 : Int32} {σ : St} {r : Int32 × St} (h : f_J0_coder_7d493_14 s0 σ = some r) : VV sa cJ0_coder_7d493 K_J0_coder_7d493 14 [] [.int s0] σ (pO r) 0 0 := by
  unfold f_J0_coder_7d493_14 at h
  have hz := (itg h).1
  have h := (itg h).2
  obtain rfl := Option.some.inj h
  exact v_zret (dq D_J0_coder_7d493 6 rfl) rfl (jb_nar hz) ⟨rfl, rfl⟩
theorem w_J0_coder_7d493_0 {sa : Env3} {a0 : Nat} {σ : St} {r : Int32 × St} (hs0 : a0 < nStr) (h : f_J0_coder_7d493_0 a0 σ = some r) : VV sa cJ0_coder_7d493 K_J0_coder_7d493 0 [(0, .ref (sa.1 a0))] [] σ (pO r) 0 0 := by
  unfold f_J0_coder_7d493_0 at h
  refine v_scs (dq D_J0_coder_7d493 0 rfl) tw_476 ?_
  refine v_if_eq (dq D_J0_coder_7d493 1 rfl) rfl (fun c1 => ?_) (fun c1 => ?_)
  · have h := itp h c1
    refine v_iconst (dq D_J0_coder_7d493 5 rfl) kc_1 ?_
    exact v_sub [] rfl (w_J0_coder_7d493_14 h)
  · have h := itn h c1
    refine v_aload_n (dq D_J0_coder_7d493 2 rfl) 0 rfl ?_
    refine v_scod (dq D_J0_coder_7d493 3 rfl) tw_1945 hs0 ?_
    refine v_goto (dq D_J0_coder_7d493 4 rfl) rfl ?_
    exact v_sub [] rfl (w_J0_coder_7d493_14 h)
theorem m_J0_coder_7d493 {sa : Env3} {a0 : Nat} {σ : St} {r : Int32 × St} (h : f_J0_coder_7d493 a0 σ = some r) : Ex sa yJ0_coder_7d493 cJ0_coder_7d493 K_J0_coder_7d493 [.ref (sa.1 a0)] σ (pO r) := Ex.of (by decide) rfl (fun q => nomatch q) (Nat.le_of_ble_eq_true rfl) (w_J0_coder_7d493_0 (itg h).1 (itg h).2)
theorem w_J0_length_8abf5_0 {sa : Env3} {a0 : Nat} {σ : St} {r : Int32 × St} (hs0 : a0 < nStr) (h : f_J0_length_8abf5_0 a0 σ = some r) : VV sa cJ0_length_8abf5 K_J0_length_8abf5 0 [(0, .ref (sa.1 a0))] [] σ (pO r) 0 0 := by
  unfold f_J0_length_8abf5_0 at h
  refine v_aload_n (dq D_J0_length_8abf5 0 rfl) 0 rfl ?_
  refine v_sval (dq D_J0_length_8abf5 1 rfl) tw_1944 hs0 ?_
  obtain ⟨x1, hx1, h⟩ := obi h
  refine v_sbl (dq D_J0_length_8abf5 2 rfl) hx1 ?_
  refine v_aload_n (dq D_J0_length_8abf5 3 rfl) 0 rfl ?_
  obtain ⟨q2, hq2, h⟩ := obi h
  refine v_cTi (bc := 0) (bs := 0) (As := []) (dq D_J0_length_8abf5 4 rfl) ct_J0_coder_7d493 ml_RJ0_335 (itg hq2).1 (m_J0_coder_7d493 hq2) rfl rfl (Nat.le_of_ble_eq_true rfl) ⟨Nat.le_of_ble_eq_true rfl, Nat.le_of_ble_eq_true rfl⟩ ⟨Nat.le_of_ble_eq_true rfl, Nat.le_of_ble_eq_true rfl⟩ ?_
  refine v_ishr (dq D_J0_length_8abf5 5 rfl) ?_
  obtain rfl := Option.some.inj h
  exact v_iret (dq D_J0_length_8abf5 6 rfl) rfl ⟨rfl, rfl⟩
theorem m_J0_length_8abf5 {sa : Env3} {a0 : Nat} {σ : St} {r : Int32 × St} (h : f_J0_length_8abf5 a0 σ = some r) : Ex sa yJ0_length_8abf5 cJ0_length_8abf5 K_J0_length_8abf5 [.ref (sa.1 a0)] σ (pO r) := Ex.of (by decide) rfl (fun q => nomatch q) (Nat.le_of_ble_eq_true rfl) (w_J0_length_8abf5_0 (itg h).1 (itg h).2)
theorem w_J6_bitCount_0f7a4_0 {sa : Env3} {a0 : Int32} {σ : St} {r : Int32 × St} (h : f_J6_bitCount_0f7a4_0 a0 σ = some r) : VV sa cJ6_bitCount_0f7a4 K_J6_bitCount_0f7a4 0 [(0, .int a0)] [] σ (pO r) 0 0 := by
  unfold f_J6_bitCount_0f7a4_0 at h
  refine v_iload_n (dq D_J6_bitCount_0f7a4 0 rfl) 0 rfl ?_
  refine v_iload_n (dq D_J6_bitCount_0f7a4 1 rfl) 0 rfl ?_
  refine v_iconst (dq D_J6_bitCount_0f7a4 2 rfl) kc_1 ?_
  refine v_iushr (dq D_J6_bitCount_0f7a4 3 rfl) ?_
  refine v_ldcw (dq D_J6_bitCount_0f7a4 4 rfl) tw_840 ?_
  refine v_iand (dq D_J6_bitCount_0f7a4 5 rfl) ?_
  refine v_isub (dq D_J6_bitCount_0f7a4 6 rfl) ?_
  obtain ⟨x1, ex1, h⟩ := bnd_inv h
  refine v_top (congrArg Value.int ex1) ?_
  refine v_istore_n (dq D_J6_bitCount_0f7a4 7 rfl) [(0, .int x1)] rfl (Nat.le_of_ble_eq_true rfl) rfl ?_
  refine v_iload_n (dq D_J6_bitCount_0f7a4 8 rfl) 0 rfl ?_
  refine v_ldcw (dq D_J6_bitCount_0f7a4 9 rfl) tw_841 ?_
  refine v_iand (dq D_J6_bitCount_0f7a4 10 rfl) ?_
  refine v_iload_n (dq D_J6_bitCount_0f7a4 11 rfl) 0 rfl ?_
  refine v_iconst (dq D_J6_bitCount_0f7a4 12 rfl) kc_2 ?_
  refine v_iushr (dq D_J6_bitCount_0f7a4 13 rfl) ?_
  refine v_ldcw (dq D_J6_bitCount_0f7a4 14 rfl) tw_841 ?_
  refine v_iand (dq D_J6_bitCount_0f7a4 15 rfl) ?_
  refine v_iadd (dq D_J6_bitCount_0f7a4 16 rfl) ?_
  obtain ⟨x2, ex2, h⟩ := bnd_inv h
  refine v_top (congrArg Value.int ex2) ?_
  refine v_istore_n (dq D_J6_bitCount_0f7a4 17 rfl) [(0, .int x2)] rfl (Nat.le_of_ble_eq_true rfl) rfl ?_
  refine v_iload_n (dq D_J6_bitCount_0f7a4 18 rfl) 0 rfl ?_
  refine v_iload_n (dq D_J6_bitCount_0f7a4 19 rfl) 0 rfl ?_
  refine v_iconst (dq D_J6_bitCount_0f7a4 20 rfl) kc_4 ?_
  refine v_iushr (dq D_J6_bitCount_0f7a4 21 rfl) ?_
  refine v_iadd (dq D_J6_bitCount_0f7a4 22 rfl) ?_
  refine v_ldcw (dq D_J6_bitCount_0f7a4 23 rfl) tw_842 ?_
  refine v_iand (dq D_J6_bitCount_0f7a4 24 rfl) ?_
  obtain ⟨x3, ex3, h⟩ := bnd_inv h
  refine v_top (congrArg Value.int ex3) ?_
  refine v_istore_n (dq D_J6_bitCount_0f7a4 25 rfl) [(0, .int x3)] rfl (Nat.le_of_ble_eq_true rfl) rfl ?_
  refine v_iload_n (dq D_J6_bitCount_0f7a4 26 rfl) 0 rfl ?_
  refine v_iload_n (dq D_J6_bitCount_0f7a4 27 rfl) 0 rfl ?_
  refine v_bipush (dq D_J6_bitCount_0f7a4 28 rfl) kb_8 ?_
  refine v_iushr (dq D_J6_bitCount_0f7a4 29 rfl) ?_
  refine v_iadd (dq D_J6_bitCount_0f7a4 30 rfl) ?_
  obtain ⟨x4, ex4, h⟩ := bnd_inv h
  refine v_top (congrArg Value.int ex4) ?_
  refine v_istore_n (dq D_J6_bitCount_0f7a4 31 rfl) [(0, .int x4)] rfl (Nat.le_of_ble_eq_true rfl) rfl ?_
  refine v_iload_n (dq D_J6_bitCount_0f7a4 32 rfl) 0 rfl ?_
  refine v_iload_n (dq D_J6_bitCount_0f7a4 33 rfl) 0 rfl ?_
  refine v_bipush (dq D_J6_bitCount_0f7a4 34 rfl) kb_16 ?_
  refine v_iushr (dq D_J6_bitCount_0f7a4 35 rfl) ?_
  refine v_iadd (dq D_J6_bitCount_0f7a4 36 rfl) ?_
  obtain ⟨x5, ex5, h⟩ := bnd_inv h
  refine v_top (congrArg Value.int ex5) ?_
  refine v_istore_n (dq D_J6_bitCount_0f7a4 37 rfl) [(0, .int x5)] rfl (Nat.le_of_ble_eq_true rfl) rfl ?_
  refine v_iload_n (dq D_J6_bitCount_0f7a4 38 rfl) 0 rfl ?_
  refine v_bipush (dq D_J6_bitCount_0f7a4 39 rfl) kb_63 ?_
  refine v_iand (dq D_J6_bitCount_0f7a4 40 rfl) ?_
  obtain rfl := Option.some.inj h
  exact v_iret (dq D_J6_bitCount_0f7a4 41 rfl) rfl ⟨rfl, rfl⟩
theorem m_J6_bitCount_0f7a4 {sa : Env3} {a0 : Int32} {σ : St} {r : Int32 × St} (h : f_J6_bitCount_0f7a4 a0 σ = some r) : Ex sa yJ6_bitCount_0f7a4 cJ6_bitCount_0f7a4 K_J6_bitCount_0f7a4 [.int a0] σ (pO r) := Ex.of (by decide) rfl (fun q => nomatch q) (Nat.le_of_ble_eq_true rfl) (w_J6_bitCount_0f7a4_0 h)
theorem w_J6_numberOfTrailingZeros_0f7a4_74 {sa : Env3} {a0 : Int32} {a1 : Int32} {σ : St} {r : Int32 × St} (h : f_J6_numberOfTrailingZeros_0f7a4_74 a0 a1 σ = some r) : VV sa cJ6_numberOfTrailingZeros_0f7a4 K_J6_numberOfTrailingZeros_0f7a4 74 [(0, .int a0), (1, .int a1)] [] σ (pO r) 0 0 := by
  unfold f_J6_numberOfTrailingZeros_0f7a4_74 at h
  refine v_iload_n (dq D_J6_numberOfTrailingZeros_0f7a4 48 rfl) 1 rfl ?_
  refine v_iload_n (dq D_J6_numberOfTrailingZeros_0f7a4 49 rfl) 0 rfl ?_
  refine v_iconst (dq D_J6_numberOfTrailingZeros_0f7a4 50 rfl) kc_1 ?_
  refine v_iushr (dq D_J6_numberOfTrailingZeros_0f7a4 51 rfl) ?_
  refine v_iadd (dq D_J6_numberOfTrailingZeros_0f7a4 52 rfl) ?_
  obtain rfl := Option.some.inj h
  exact v_iret (dq D_J6_numberOfTrailingZeros_0f7a4 53 rfl) rfl ⟨rfl, rfl⟩
theorem w_J6_numberOfTrailingZeros_0f7a4_62 {sa : Env3} {a0 : Int32} {a1 : Int32} {σ : St} {r : Int32 × St} (h : f_J6_numberOfTrailingZeros_0f7a4_62 a0 a1 σ = some r) : VV sa cJ6_numberOfTrailingZeros_0f7a4 K_J6_numberOfTrailingZeros_0f7a4 62 [(0, .int a0), (1, .int a1)] [] σ (pO r) 0 0 := by
  unfold f_J6_numberOfTrailingZeros_0f7a4_62 at h
  refine v_iload_n (dq D_J6_numberOfTrailingZeros_0f7a4 40 rfl) 0 rfl ?_
  refine v_iconst (dq D_J6_numberOfTrailingZeros_0f7a4 41 rfl) kc_4 ?_
  refine v_icmp_le (dq D_J6_numberOfTrailingZeros_0f7a4 42 rfl) rfl (fun c1 => ?_) (fun c1 => ?_)
  · have h := itp h c1
    exact w_J6_numberOfTrailingZeros_0f7a4_74 h
  · have h := itn h c1
    refine v_iinc (dq D_J6_numberOfTrailingZeros_0f7a4 43 rfl) 1 [(1, .int (a1 + 2)), (0, .int a0)] rfl kc_2 (Nat.le_of_ble_eq_true rfl) rfl ?_
    refine v_iload_n (dq D_J6_numberOfTrailingZeros_0f7a4 44 rfl) 1 rfl ?_
    refine v_iconst (dq D_J6_numberOfTrailingZeros_0f7a4 45 rfl) kc_2 ?_
    refine v_iushr (dq D_J6_numberOfTrailingZeros_0f7a4 46 rfl) ?_
    obtain ⟨x2, ex2, h⟩ := bnd_inv h
    refine v_top (congrArg Value.int ex2) ?_
    refine v_istore_n (dq D_J6_numberOfTrailingZeros_0f7a4 47 rfl) [(0, .int x2), (1, .int (a1 + 2))] rfl (Nat.le_of_ble_eq_true rfl) rfl ?_
    exact w_J6_numberOfTrailingZeros_0f7a4_74 h
theorem w_J6_numberOfTrailingZeros_0f7a4_49 {sa : Env3} {a0 : Int32} {a1 : Int32} {σ : St} {r : Int32 × St} (h : f_J6_numberOfTrailingZeros_0f7a4_49 a0 a1 σ = some r) : VV sa cJ6_numberOfTrailingZeros_0f7a4 K_J6_numberOfTrailingZeros_0f7a4 49 [(0, .int a0), (1, .int a1)] [] σ (pO r) 0 0 := by
  unfold f_J6_numberOfTrailingZeros_0f7a4_49 at h
  refine v_iload_n (dq D_J6_numberOfTrailingZeros_0f7a4 32 rfl) 0 rfl ?_
  refine v_bipush (dq D_J6_numberOfTrailingZeros_0f7a4 33 rfl) kb_16 ?_
  refine v_icmp_le (dq D_J6_numberOfTrailingZeros_0f7a4 34 rfl) rfl (fun c1 => ?_) (fun c1 => ?_)
  · have h := itp h c1
    exact w_J6_numberOfTrailingZeros_0f7a4_62 h
  · have h := itn h c1
    refine v_iinc (dq D_J6_numberOfTrailingZeros_0f7a4 35 rfl) 1 [(1, .int (a1 + 4)), (0, .int a0)] rfl kc_4 (Nat.le_of_ble_eq_true rfl) rfl ?_
    refine v_iload_n (dq D_J6_numberOfTrailingZeros_0f7a4 36 rfl) 1 rfl ?_
    refine v_iconst (dq D_J6_numberOfTrailingZeros_0f7a4 37 rfl) kc_4 ?_
    refine v_iushr (dq D_J6_numberOfTrailingZeros_0f7a4 38 rfl) ?_
    obtain ⟨x2, ex2, h⟩ := bnd_inv h
    refine v_top (congrArg Value.int ex2) ?_
    refine v_istore_n (dq D_J6_numberOfTrailingZeros_0f7a4 39 rfl) [(0, .int x2), (1, .int (a1 + 4))] rfl (Nat.le_of_ble_eq_true rfl) rfl ?_
    exact w_J6_numberOfTrailingZeros_0f7a4_62 h
theorem w_J6_numberOfTrailingZeros_0f7a4_34 {sa : Env3} {a0 : Int32} {a1 : Int32} {σ : St} {r : Int32 × St} (h : f_J6_numberOfTrailingZeros_0f7a4_34 a0 a1 σ = some r) : VV sa cJ6_numberOfTrailingZeros_0f7a4 K_J6_numberOfTrailingZeros_0f7a4 34 [(0, .int a0), (1, .int a1)] [] σ (pO r) 0 0 := by
  unfold f_J6_numberOfTrailingZeros_0f7a4_34 at h
  refine v_iload_n (dq D_J6_numberOfTrailingZeros_0f7a4 24 rfl) 0 rfl ?_
  refine v_sipush (dq D_J6_numberOfTrailingZeros_0f7a4 25 rfl) ks_256 ?_
  refine v_icmp_le (dq D_J6_numberOfTrailingZeros_0f7a4 26 rfl) rfl (fun c1 => ?_) (fun c1 => ?_)
  · have h := itp h c1
    exact w_J6_numberOfTrailingZeros_0f7a4_49 h
  · have h := itn h c1
    refine v_iinc (dq D_J6_numberOfTrailingZeros_0f7a4 27 rfl) 1 [(1, .int (a1 + 8)), (0, .int a0)] rfl kc_8 (Nat.le_of_ble_eq_true rfl) rfl ?_
    refine v_iload_n (dq D_J6_numberOfTrailingZeros_0f7a4 28 rfl) 1 rfl ?_
    refine v_bipush (dq D_J6_numberOfTrailingZeros_0f7a4 29 rfl) kb_8 ?_
    refine v_iushr (dq D_J6_numberOfTrailingZeros_0f7a4 30 rfl) ?_
    obtain ⟨x2, ex2, h⟩ := bnd_inv h
    refine v_top (congrArg Value.int ex2) ?_
    refine v_istore_n (dq D_J6_numberOfTrailingZeros_0f7a4 31 rfl) [(0, .int x2), (1, .int (a1 + 8))] rfl (Nat.le_of_ble_eq_true rfl) rfl ?_
    exact w_J6_numberOfTrailingZeros_0f7a4_49 h
theorem w_J6_numberOfTrailingZeros_0f7a4_0 {sa : Env3} {a0 : Int32} {σ : St} {r : Int32 × St} (h : f_J6_numberOfTrailingZeros_0f7a4_0 a0 σ = some r) : VV sa cJ6_numberOfTrailingZeros_0f7a4 K_J6_numberOfTrailingZeros_0f7a4 0 [(0, .int a0)] [] σ (pO r) 0 0 := by
  unfold f_J6_numberOfTrailingZeros_0f7a4_0 at h
  refine v_iload_n (dq D_J6_numberOfTrailingZeros_0f7a4 0 rfl) 0 rfl ?_
  refine v_iconst (dq D_J6_numberOfTrailingZeros_0f7a4 1 rfl) kc_m1 ?_
  refine v_ixor (dq D_J6_numberOfTrailingZeros_0f7a4 2 rfl) ?_
  refine v_iload_n (dq D_J6_numberOfTrailingZeros_0f7a4 3 rfl) 0 rfl ?_
  refine v_iconst (dq D_J6_numberOfTrailingZeros_0f7a4 4 rfl) kc_1 ?_
  refine v_isub (dq D_J6_numberOfTrailingZeros_0f7a4 5 rfl) ?_
  refine v_iand (dq D_J6_numberOfTrailingZeros_0f7a4 6 rfl) ?_
  obtain ⟨x1, ex1, h⟩ := bnd_inv h
  refine v_top (congrArg Value.int ex1) ?_
  refine v_istore_n (dq D_J6_numberOfTrailingZeros_0f7a4 7 rfl) [(0, .int x1)] rfl (Nat.le_of_ble_eq_true rfl) rfl ?_
  refine v_iload_n (dq D_J6_numberOfTrailingZeros_0f7a4 8 rfl) 0 rfl ?_
  refine v_if_gt (dq D_J6_numberOfTrailingZeros_0f7a4 9 rfl) rfl (fun c2 => ?_) (fun c2 => ?_)
  · have h := itp h c2
    refine v_iconst (dq D_J6_numberOfTrailingZeros_0f7a4 14 rfl) kc_1 ?_
    refine v_istore_n (dq D_J6_numberOfTrailingZeros_0f7a4 15 rfl) [(1, .int 1), (0, .int x1)] rfl (Nat.le_of_ble_eq_true rfl) rfl ?_
    refine v_iload_n (dq D_J6_numberOfTrailingZeros_0f7a4 16 rfl) 1 rfl ?_
    refine v_ldcw (dq D_J6_numberOfTrailingZeros_0f7a4 17 rfl) tw_715 ?_
    refine v_icmp_le (dq D_J6_numberOfTrailingZeros_0f7a4 18 rfl) rfl (fun c3 => ?_) (fun c3 => ?_)
    · have h := itp h c3
      exact v_sub [1, 0] rfl (w_J6_numberOfTrailingZeros_0f7a4_34 h)
    · have h := itn h c3
      refine v_iinc (dq D_J6_numberOfTrailingZeros_0f7a4 19 rfl) 0 [(1, .int (1 + 16)), (0, .int x1)] rfl kc_16 (Nat.le_of_ble_eq_true rfl) rfl ?_
      refine v_iload_n (dq D_J6_numberOfTrailingZeros_0f7a4 20 rfl) 1 rfl ?_
      refine v_bipush (dq D_J6_numberOfTrailingZeros_0f7a4 21 rfl) kb_16 ?_
      refine v_iushr (dq D_J6_numberOfTrailingZeros_0f7a4 22 rfl) ?_
      obtain ⟨x4, ex4, h⟩ := bnd_inv h
      refine v_top (congrArg Value.int ex4) ?_
      refine v_istore_n (dq D_J6_numberOfTrailingZeros_0f7a4 23 rfl) [(0, .int x4), (1, .int (1 + 16))] rfl (Nat.le_of_ble_eq_true rfl) rfl ?_
      exact w_J6_numberOfTrailingZeros_0f7a4_34 h
  · have h := itn h c2
    refine v_iload_n (dq D_J6_numberOfTrailingZeros_0f7a4 10 rfl) 0 rfl ?_
    refine v_bipush (dq D_J6_numberOfTrailingZeros_0f7a4 11 rfl) kb_32 ?_
    refine v_iand (dq D_J6_numberOfTrailingZeros_0f7a4 12 rfl) ?_
    obtain rfl := Option.some.inj h
    exact v_iret (dq D_J6_numberOfTrailingZeros_0f7a4 13 rfl) rfl ⟨rfl, rfl⟩
theorem m_J6_numberOfTrailingZeros_0f7a4 {sa : Env3} {a0 : Int32} {σ : St} {r : Int32 × St} (h : f_J6_numberOfTrailingZeros_0f7a4 a0 σ = some r) : Ex sa yJ6_numberOfTrailingZeros_0f7a4 cJ6_numberOfTrailingZeros_0f7a4 K_J6_numberOfTrailingZeros_0f7a4 [.int a0] σ (pO r) := Ex.of (by decide) rfl (fun q => nomatch q) (Nat.le_of_ble_eq_true rfl) (w_J6_numberOfTrailingZeros_0f7a4_0 h)
theorem w_J7_fill_53178_5 {sa : Env3} : ∀ (n : Nat) {a0 : Nat} {a1 : Int32} {a2 : Int32} {a3 : Int32} {σ : St} {r : St}, f_J7_fill_53178_5 n a0 a1 a2 a3 σ = some r → VV sa cJ7_fill_53178 K_J7_fill_53178 5 [(0, .ref a0), (1, .int a1), (2, .int a2), (3, .int a3)] [] σ (pU r) 0 0 := by
  intro n
  induction n with
  | zero => intro a0 a1 a2 a3 σ r h; cases h
  | succ n ih =>
    intro a0 a1 a2 a3 σ r h
    rw [e_J7_fill_53178_5] at h
    refine v_iload_n (dq D_J7_fill_53178 5 rfl) 2 rfl ?_
    refine v_iload_n (dq D_J7_fill_53178 6 rfl) 3 rfl ?_
    refine v_icmp_ge (dq D_J7_fill_53178 7 rfl) rfl (fun c1 => ?_) (fun c1 => ?_)
    · have h := itp h c1
      obtain rfl := Option.some.inj h
      exact v_vret (dq D_J7_fill_53178 14 rfl) rfl ⟨rfl, rfl⟩
    · have h := itn h c1
      refine v_aload_n (dq D_J7_fill_53178 8 rfl) 0 rfl ?_
      refine v_iload_n (dq D_J7_fill_53178 9 rfl) 2 rfl ?_
      refine v_iload_n (dq D_J7_fill_53178 10 rfl) 1 rfl ?_
      obtain ⟨σ2, hσ2, h⟩ := obi h
      refine v_iast (dq D_J7_fill_53178 11 rfl) hσ2 ?_
      refine v_iinc (dq D_J7_fill_53178 12 rfl) 2 [(2, .int (a2 + 1)), (0, .ref a0), (1, .int a1), (3, .int a3)] rfl kc_1 (Nat.le_of_ble_eq_true rfl) rfl ?_
      refine v_goto (dq D_J7_fill_53178 13 rfl) rfl ?_
      exact v_sub [1, 2, 0, 3] rfl (ih h)
theorem w_J7_fill_53178_0 {sa : Env3} {a0 : Nat} {a1 : Int32} {σ : St} {r : St} (h : f_J7_fill_53178_0 a0 a1 σ = some r) : VV sa cJ7_fill_53178 K_J7_fill_53178 0 [(0, .ref a0), (1, .int a1)] [] σ (pU r) 0 0 := by
  unfold f_J7_fill_53178_0 at h
  refine v_iconst (dq D_J7_fill_53178 0 rfl) kc_0 ?_
  refine v_istore_n (dq D_J7_fill_53178 1 rfl) [(2, .int 0), (0, .ref a0), (1, .int a1)] rfl (Nat.le_of_ble_eq_true rfl) rfl ?_
  refine v_aload_n (dq D_J7_fill_53178 2 rfl) 1 rfl ?_
  obtain ⟨x1, hx1, h⟩ := obi h
  refine v_alen (dq D_J7_fill_53178 3 rfl) hx1 ?_
  refine v_istore_n (dq D_J7_fill_53178 4 rfl) [(3, .int x1), (2, .int 0), (0, .ref a0), (1, .int a1)] rfl (Nat.le_of_ble_eq_true rfl) rfl ?_
  exact v_sub [2, 3, 1, 0] rfl (w_J7_fill_53178_5 _ h)
theorem m_J7_fill_53178 {sa : Env3} {a0 : Nat} {a1 : Int32} {σ : St} {r : St} (h : f_J7_fill_53178 a0 a1 σ = some r) : Ex sa yJ7_fill_53178 cJ7_fill_53178 K_J7_fill_53178 [.ref a0, .int a1] σ (pU r) := Ex.of (by decide) rfl (fun q => nomatch q) (Nat.le_of_ble_eq_true rfl) (w_J7_fill_53178_0 h)
theorem w_X0_forget_0 {sa : Env3} {a0 : Nat} {σ : St} {r : St} (h : f_X0_forget_0 a0 σ = some r) : VV sa cX0_forget K_X0_forget 0 [(0, .ref a0)] [] σ (pU r) 0 0 := by
  unfold f_X0_forget_0 at h
  refine v_aload_n (dq D_X0_forget 0 rfl) 0 rfl ?_
  obtain ⟨x1, hx1, h⟩ := obi h
  refine v_gR (dq D_X0_forget 1 rfl) fa_RX0_11 hx1 ?_
  refine v_iconst (dq D_X0_forget 2 rfl) kc_0 ?_
  obtain ⟨σ2, hσ2, h⟩ := obi h
  refine v_cSv (bc := 0) (bs := 0) (As := [.ref x1, .int 0]) (dq D_X0_forget 3 rfl) cs_J7_fill_53178 ml_RX0_33 (m_J7_fill_53178 hσ2) rfl rfl (Nat.le_of_ble_eq_true rfl) ⟨Nat.le_of_ble_eq_true rfl, Nat.le_of_ble_eq_true rfl⟩ ⟨Nat.le_of_ble_eq_true rfl, Nat.le_of_ble_eq_true rfl⟩ ?_
  obtain rfl := Option.some.inj h
  exact v_vret (dq D_X0_forget 4 rfl) rfl ⟨rfl, rfl⟩
theorem m_X0_forget {sa : Env3} {a0 : Nat} {σ : St} {r : St} (h : f_X0_forget a0 σ = some r) : Ex sa yX0_forget cX0_forget K_X0_forget [.ref a0] σ (pU r) := Ex.of (by decide) rfl (fun q => nomatch q) (Nat.le_of_ble_eq_true rfl) (w_X0_forget_0 (itg h).2)
theorem w_X3_isDone_17 {sa : Env3} {s0 : Int32} {σ : St} {r : Int32 × St} (h : f_X3_isDone_17 s0 σ = some r) : VV sa cX3_isDone K_X3_isDone 17 [] [.int s0] σ (pO r) 0 0 := by
  unfold f_X3_isDone_17 at h
  have hz := (itg h).1
  have h := (itg h).2
  obtain rfl := Option.some.inj h
  exact v_zret (dq D_X3_isDone 11 rfl) rfl (z_nar hz) ⟨rfl, rfl⟩
theorem w_X3_isDone_0 {sa : Env3} {a0 : Nat} {a1 : Int32} {σ : St} {r : Int32 × St} (h : f_X3_isDone_0 a0 a1 σ = some r) : VV sa cX3_isDone K_X3_isDone 0 [(0, .ref a0), (1, .int a1)] [] σ (pO r) 0 0 := by
  unfold f_X3_isDone_0 at h
  refine v_aload_n (dq D_X3_isDone 0 rfl) 0 rfl ?_
  obtain ⟨x1, hx1, h⟩ := obi h
  refine v_gI (dq D_X3_isDone 1 rfl) fa_RX3_79 hx1 ?_
  refine v_iload_n (dq D_X3_isDone 2 rfl) 1 rfl ?_
  refine v_ishr (dq D_X3_isDone 3 rfl) ?_
  refine v_iconst (dq D_X3_isDone 4 rfl) kc_1 ?_
  refine v_iand (dq D_X3_isDone 5 rfl) ?_
  refine v_iconst (dq D_X3_isDone 6 rfl) kc_1 ?_
  refine v_icmp_ne (dq D_X3_isDone 7 rfl) rfl (fun c2 => ?_) (fun c2 => ?_)
  · have h := itn h c2
    refine v_iconst (dq D_X3_isDone 10 rfl) kc_0 ?_
    exact v_sub [] rfl (w_X3_isDone_17 h)
  · have h := itp h c2
    refine v_iconst (dq D_X3_isDone 8 rfl) kc_1 ?_
    refine v_goto (dq D_X3_isDone 9 rfl) rfl ?_
    exact v_sub [] rfl (w_X3_isDone_17 h)
theorem m_X3_isDone {sa : Env3} {a0 : Nat} {a1 : Int32} {σ : St} {r : Int32 × St} (h : f_X3_isDone a0 a1 σ = some r) : Ex sa yX3_isDone cX3_isDone K_X3_isDone [.ref a0, .int a1] σ (pO r) := Ex.of (by decide) rfl (fun q => nomatch q) (Nat.le_of_ble_eq_true rfl) (w_X3_isDone_0 (itg h).2)
theorem w_X3_isReady_21 {sa : Env3} {s0 : Int32} {σ : St} {r : Int32 × St} (h : f_X3_isReady_21 s0 σ = some r) : VV sa cX3_isReady K_X3_isReady 21 [] [.int s0] σ (pO r) 0 0 := by
  unfold f_X3_isReady_21 at h
  have hz := (itg h).1
  have h := (itg h).2
  obtain rfl := Option.some.inj h
  exact v_zret (dq D_X3_isReady 13 rfl) rfl (z_nar hz) ⟨rfl, rfl⟩
theorem w_X3_isReady_20 {sa : Env3}  {σ : St} {r : Int32 × St} (h : f_X3_isReady_20  σ = some r) : VV sa cX3_isReady K_X3_isReady 20 [] [] σ (pO r) 0 0 := by
  unfold f_X3_isReady_20 at h
  refine v_iconst (dq D_X3_isReady 12 rfl) kc_0 ?_
  exact w_X3_isReady_21 h
theorem w_X3_isReady_0 {sa : Env3} {a0 : Nat} {a1 : Int32} {σ : St} {r : Int32 × St} (h : f_X3_isReady_0 a0 a1 σ = some r) : VV sa cX3_isReady K_X3_isReady 0 [(0, .ref a0), (1, .int a1)] [] σ (pO r) 0 0 := by
  unfold f_X3_isReady_0 at h
  refine v_iload_n (dq D_X3_isReady 0 rfl) 1 rfl ?_
  refine v_if_lt (dq D_X3_isReady 1 rfl) rfl (fun c1 => ?_) (fun c1 => ?_)
  · have h := itp h c1
    exact v_sub [] rfl (w_X3_isReady_20 h)
  · have h := itn h c1
    refine v_aload_n (dq D_X3_isReady 2 rfl) 0 rfl ?_
    obtain ⟨x2, hx2, h⟩ := obi h
    refine v_gI (dq D_X3_isReady 3 rfl) fa_RX3_44 hx2 ?_
    refine v_iload_n (dq D_X3_isReady 4 rfl) 1 rfl ?_
    refine v_ishr (dq D_X3_isReady 5 rfl) ?_
    refine v_iconst (dq D_X3_isReady 6 rfl) kc_1 ?_
    refine v_iand (dq D_X3_isReady 7 rfl) ?_
    refine v_iconst (dq D_X3_isReady 8 rfl) kc_1 ?_
    refine v_icmp_ne (dq D_X3_isReady 9 rfl) rfl (fun c3 => ?_) (fun c3 => ?_)
    · have h := itn h c3
      exact v_sub [] rfl (w_X3_isReady_20 h)
    · have h := itp h c3
      refine v_iconst (dq D_X3_isReady 10 rfl) kc_1 ?_
      refine v_goto (dq D_X3_isReady 11 rfl) rfl ?_
      exact v_sub [] rfl (w_X3_isReady_21 h)
theorem m_X3_isReady {sa : Env3} {a0 : Nat} {a1 : Int32} {σ : St} {r : Int32 × St} (h : f_X3_isReady a0 a1 σ = some r) : Ex sa yX3_isReady cX3_isReady K_X3_isReady [.ref a0, .int a1] σ (pO r) := Ex.of (by decide) rfl (fun q => nomatch q) (Nat.le_of_ble_eq_true rfl) (w_X3_isReady_0 (itg h).2)
theorem w_X3_whyNotRetire_57 {sa : Env3} {s0 : Int32} {σ : St} {r : Int32 × St} (h : f_X3_whyNotRetire_57 s0 σ = some r) : VV sa cX3_whyNotRetire K_X3_whyNotRetire 57 [] [.int s0] σ (pO r) 0 0 := by
  unfold f_X3_whyNotRetire_57 at h
  obtain rfl := Option.some.inj h
  exact v_iret (dq D_X3_whyNotRetire 33 rfl) rfl ⟨rfl, rfl⟩
theorem w_X3_whyNotRetire_56 {sa : Env3}  {σ : St} {r : Int32 × St} (h : f_X3_whyNotRetire_56  σ = some r) : VV sa cX3_whyNotRetire K_X3_whyNotRetire 56 [] [] σ (pO r) 0 0 := by
  unfold f_X3_whyNotRetire_56 at h
  refine v_iconst (dq D_X3_whyNotRetire 32 rfl) kc_0 ?_
  exact w_X3_whyNotRetire_57 h
theorem w_X3_whyNotRetire_34 {sa : Env3} {a0 : Nat} {s0 : Int32} {σ : St} {r : Int32 × St} (h : f_X3_whyNotRetire_34 a0 s0 σ = some r) : VV sa cX3_whyNotRetire K_X3_whyNotRetire 34 [(0, .ref a0)] [.int s0] σ (pO r) 0 0 := by
  unfold f_X3_whyNotRetire_34 at h
  refine v_istore_n (dq D_X3_whyNotRetire 20 rfl) [(1, .int s0), (0, .ref a0)] rfl (Nat.le_of_ble_eq_true rfl) rfl ?_
  refine v_iload_n (dq D_X3_whyNotRetire 21 rfl) 0 rfl ?_
  refine v_if_eq (dq D_X3_whyNotRetire 22 rfl) rfl (fun c1 => ?_) (fun c1 => ?_)
  · have h := itp h c1
    exact v_sub [] rfl (w_X3_whyNotRetire_56 h)
  · have h := itn h c1
    refine v_aload_n (dq D_X3_whyNotRetire 23 rfl) 1 rfl ?_
    refine v_aload_n (dq D_X3_whyNotRetire 24 rfl) 1 rfl ?_
    obtain ⟨x2, hx2, h⟩ := obi h
    refine v_gR (dq D_X3_whyNotRetire 25 rfl) fa_RX3_21 hx2 ?_
    refine v_iconst (dq D_X3_whyNotRetire 26 rfl) kc_0 ?_
    obtain ⟨x3, hx3, h⟩ := obi h
    refine v_iald (dq D_X3_whyNotRetire 27 rfl) hx3 ?_
    obtain ⟨q4, hq4, h⟩ := obi h
    refine v_cVi (bc := 0) (bs := 0) (As := [.int x3]) (dq D_X3_whyNotRetire 28 rfl) cv_X3_isReady ml_RX3_181 (itg hq4).1 (m_X3_isReady hq4) rfl rfl (Nat.le_of_ble_eq_true rfl) ⟨Nat.le_of_ble_eq_true rfl, Nat.le_of_ble_eq_true rfl⟩ ⟨Nat.le_of_ble_eq_true rfl, Nat.le_of_ble_eq_true rfl⟩ ?_
    refine v_if_ne (dq D_X3_whyNotRetire 29 rfl) rfl (fun c5 => ?_) (fun c5 => ?_)
    · have h := itn h c5
      exact v_sub [] rfl (w_X3_whyNotRetire_56 h)
    · have h := itp h c5
      refine v_iconst (dq D_X3_whyNotRetire 30 rfl) kc_3 ?_
      refine v_goto (dq D_X3_whyNotRetire 31 rfl) rfl ?_
      exact v_sub [] rfl (w_X3_whyNotRetire_57 h)
theorem w_X3_whyNotRetire_0 {sa : Env3} {a0 : Nat} {σ : St} {r : Int32 × St} (h : f_X3_whyNotRetire_0 a0 σ = some r) : VV sa cX3_whyNotRetire K_X3_whyNotRetire 0 [(0, .ref a0)] [] σ (pO r) 0 0 := by
  unfold f_X3_whyNotRetire_0 at h
  refine v_aload_n (dq D_X3_whyNotRetire 0 rfl) 0 rfl ?_
  obtain ⟨x1, hx1, h⟩ := obi h
  refine v_gI (dq D_X3_whyNotRetire 1 rfl) fa_RX3_73 hx1 ?_
  refine v_if_ne (dq D_X3_whyNotRetire 2 rfl) rfl (fun c2 => ?_) (fun c2 => ?_)
  · have h := itn h c2
    refine v_aload_n (dq D_X3_whyNotRetire 5 rfl) 0 rfl ?_
    refine v_iconst (dq D_X3_whyNotRetire 6 rfl) kc_0 ?_
    obtain ⟨q3, hq3, h⟩ := obi h
    refine v_cVi (bc := 0) (bs := 0) (As := [.int 0]) (dq D_X3_whyNotRetire 7 rfl) cv_X3_isDone ml_RX3_112 (itg hq3).1 (m_X3_isDone hq3) rfl rfl (Nat.le_of_ble_eq_true rfl) ⟨Nat.le_of_ble_eq_true rfl, Nat.le_of_ble_eq_true rfl⟩ ⟨Nat.le_of_ble_eq_true rfl, Nat.le_of_ble_eq_true rfl⟩ ?_
    refine v_if_ne (dq D_X3_whyNotRetire 8 rfl) rfl (fun c4 => ?_) (fun c4 => ?_)
    · have h := itn h c4
      refine v_aload_n (dq D_X3_whyNotRetire 11 rfl) 0 rfl ?_
      obtain ⟨x5, hx5, h⟩ := obi h
      refine v_gI (dq D_X3_whyNotRetire 12 rfl) fa_RX3_85 hx5 ?_
      refine v_iconst (dq D_X3_whyNotRetire 13 rfl) kc_1 ?_
      refine v_iand (dq D_X3_whyNotRetire 14 rfl) ?_
      refine v_iconst (dq D_X3_whyNotRetire 15 rfl) kc_1 ?_
      refine v_icmp_ne (dq D_X3_whyNotRetire 16 rfl) rfl (fun c6 => ?_) (fun c6 => ?_)
      · have h := itn h c6
        refine v_iconst (dq D_X3_whyNotRetire 19 rfl) kc_0 ?_
        exact w_X3_whyNotRetire_34 h
      · have h := itp h c6
        refine v_iconst (dq D_X3_whyNotRetire 17 rfl) kc_1 ?_
        refine v_goto (dq D_X3_whyNotRetire 18 rfl) rfl ?_
        exact w_X3_whyNotRetire_34 h
    · have h := itp h c4
      refine v_iconst (dq D_X3_whyNotRetire 9 rfl) kc_2 ?_
      obtain rfl := Option.some.inj h
      exact v_iret (dq D_X3_whyNotRetire 10 rfl) rfl ⟨rfl, rfl⟩
  · have h := itp h c2
    refine v_iconst (dq D_X3_whyNotRetire 3 rfl) kc_1 ?_
    obtain rfl := Option.some.inj h
    exact v_iret (dq D_X3_whyNotRetire 4 rfl) rfl ⟨rfl, rfl⟩
theorem m_X3_whyNotRetire {sa : Env3} {a0 : Nat} {σ : St} {r : Int32 × St} (h : f_X3_whyNotRetire a0 σ = some r) : Ex sa yX3_whyNotRetire cX3_whyNotRetire K_X3_whyNotRetire [.ref a0] σ (pO r) := Ex.of (by decide) rfl (fun q => nomatch q) (Nat.le_of_ble_eq_true rfl) (w_X3_whyNotRetire_0 (itg h).2)
theorem w_X3_keepOldest_0 {sa : Env3} {a0 : Nat} {a1 : Int32} {σ : St} {r : St} (h : f_X3_keepOldest_0 a0 a1 σ = some r) : VV sa cX3_keepOldest K_X3_keepOldest 0 [(0, .ref a0), (1, .int a1)] [] σ (pU r) 0 0 := by
  unfold f_X3_keepOldest_0 at h
  refine v_iconst (dq D_X3_keepOldest 0 rfl) kc_1 ?_
  refine v_iload_n (dq D_X3_keepOldest 1 rfl) 1 rfl ?_
  refine v_ishl (dq D_X3_keepOldest 2 rfl) ?_
  refine v_iconst (dq D_X3_keepOldest 3 rfl) kc_1 ?_
  refine v_isub (dq D_X3_keepOldest 4 rfl) ?_
  obtain ⟨x1, ex1, h⟩ := bnd_inv h
  refine v_top (congrArg Value.int ex1) ?_
  refine v_istore_n (dq D_X3_keepOldest 5 rfl) [(2, .int x1), (0, .ref a0), (1, .int a1)] rfl (Nat.le_of_ble_eq_true rfl) rfl ?_
  refine v_aload_n (dq D_X3_keepOldest 6 rfl) 1 rfl ?_
  refine v_iload_n (dq D_X3_keepOldest 7 rfl) 2 rfl ?_
  obtain ⟨σ2, hσ2, h⟩ := obi h
  refine v_pI (dq D_X3_keepOldest 8 rfl) fp_RX3_73 hσ2 ?_
  refine v_aload_n (dq D_X3_keepOldest 9 rfl) 1 rfl ?_
  refine v_dup (dq D_X3_keepOldest 10 rfl) rfl ?_
  obtain ⟨x3, hx3, h⟩ := obi h
  refine v_gI (dq D_X3_keepOldest 11 rfl) fa_RX3_76 hx3 ?_
  refine v_iload_n (dq D_X3_keepOldest 12 rfl) 0 rfl ?_
  refine v_iand (dq D_X3_keepOldest 13 rfl) ?_
  obtain ⟨σ4, hσ4, h⟩ := obi h
  refine v_pI (dq D_X3_keepOldest 14 rfl) fp_RX3_76 hσ4 ?_
  refine v_aload_n (dq D_X3_keepOldest 15 rfl) 1 rfl ?_
  refine v_dup (dq D_X3_keepOldest 16 rfl) rfl ?_
  obtain ⟨x5, hx5, h⟩ := obi h
  refine v_gI (dq D_X3_keepOldest 17 rfl) fa_RX3_79 hx5 ?_
  refine v_iload_n (dq D_X3_keepOldest 18 rfl) 0 rfl ?_
  refine v_iand (dq D_X3_keepOldest 19 rfl) ?_
  obtain ⟨σ6, hσ6, h⟩ := obi h
  refine v_pI (dq D_X3_keepOldest 20 rfl) fp_RX3_79 hσ6 ?_
  refine v_aload_n (dq D_X3_keepOldest 21 rfl) 1 rfl ?_
  refine v_dup (dq D_X3_keepOldest 22 rfl) rfl ?_
  obtain ⟨x7, hx7, h⟩ := obi h
  refine v_gI (dq D_X3_keepOldest 23 rfl) fa_RX3_82 hx7 ?_
  refine v_iload_n (dq D_X3_keepOldest 24 rfl) 0 rfl ?_
  refine v_iand (dq D_X3_keepOldest 25 rfl) ?_
  obtain ⟨σ8, hσ8, h⟩ := obi h
  refine v_pI (dq D_X3_keepOldest 26 rfl) fp_RX3_82 hσ8 ?_
  refine v_aload_n (dq D_X3_keepOldest 27 rfl) 1 rfl ?_
  refine v_dup (dq D_X3_keepOldest 28 rfl) rfl ?_
  obtain ⟨x9, hx9, h⟩ := obi h
  refine v_gI (dq D_X3_keepOldest 29 rfl) fa_RX3_85 hx9 ?_
  refine v_iload_n (dq D_X3_keepOldest 30 rfl) 0 rfl ?_
  refine v_iand (dq D_X3_keepOldest 31 rfl) ?_
  obtain ⟨σ10, hσ10, h⟩ := obi h
  refine v_pI (dq D_X3_keepOldest 32 rfl) fp_RX3_85 hσ10 ?_
  refine v_aload_n (dq D_X3_keepOldest 33 rfl) 1 rfl ?_
  refine v_dup (dq D_X3_keepOldest 34 rfl) rfl ?_
  obtain ⟨x11, hx11, h⟩ := obi h
  refine v_gI (dq D_X3_keepOldest 35 rfl) fa_RX3_88 hx11 ?_
  refine v_iload_n (dq D_X3_keepOldest 36 rfl) 0 rfl ?_
  refine v_iand (dq D_X3_keepOldest 37 rfl) ?_
  obtain ⟨σ12, hσ12, h⟩ := obi h
  refine v_pI (dq D_X3_keepOldest 38 rfl) fp_RX3_88 hσ12 ?_
  obtain rfl := Option.some.inj h
  exact v_vret (dq D_X3_keepOldest 39 rfl) rfl ⟨rfl, rfl⟩
theorem m_X3_keepOldest {sa : Env3} {a0 : Nat} {a1 : Int32} {σ : St} {r : St} (h : f_X3_keepOldest a0 a1 σ = some r) : Ex sa yX3_keepOldest cX3_keepOldest K_X3_keepOldest [.ref a0, .int a1] σ (pU r) := Ex.of (by decide) rfl (fun q => nomatch q) (Nat.le_of_ble_eq_true rfl) (w_X3_keepOldest_0 (itg h).2)
theorem w_X8_isRegister_15 {sa : Env3} {s0 : Int32} {σ : St} {r : Int32 × St} (h : f_X8_isRegister_15 s0 σ = some r) : VV sa cX8_isRegister K_X8_isRegister 15 [] [.int s0] σ (pO r) 0 0 := by
  unfold f_X8_isRegister_15 at h
  have hz := (itg h).1
  have h := (itg h).2
  obtain rfl := Option.some.inj h
  exact v_zret (dq D_X8_isRegister 8 rfl) rfl (z_nar hz) ⟨rfl, rfl⟩
theorem w_X8_isRegister_14 {sa : Env3}  {σ : St} {r : Int32 × St} (h : f_X8_isRegister_14  σ = some r) : VV sa cX8_isRegister K_X8_isRegister 14 [] [] σ (pO r) 0 0 := by
  unfold f_X8_isRegister_14 at h
  refine v_iconst (dq D_X8_isRegister 7 rfl) kc_0 ?_
  exact w_X8_isRegister_15 h
theorem w_X8_isRegister_0 {sa : Env3} {a0 : Int32} {σ : St} {r : Int32 × St} (h : f_X8_isRegister_0 a0 σ = some r) : VV sa cX8_isRegister K_X8_isRegister 0 [(0, .int a0)] [] σ (pO r) 0 0 := by
  unfold f_X8_isRegister_0 at h
  refine v_iload_n (dq D_X8_isRegister 0 rfl) 0 rfl ?_
  refine v_if_lt (dq D_X8_isRegister 1 rfl) rfl (fun c1 => ?_) (fun c1 => ?_)
  · have h := itp h c1
    exact v_sub [] rfl (w_X8_isRegister_14 h)
  · have h := itn h c1
    refine v_iload_n (dq D_X8_isRegister 2 rfl) 0 rfl ?_
    refine v_bipush (dq D_X8_isRegister 3 rfl) kb_8 ?_
    refine v_icmp_ge (dq D_X8_isRegister 4 rfl) rfl (fun c2 => ?_) (fun c2 => ?_)
    · have h := itp h c2
      exact v_sub [] rfl (w_X8_isRegister_14 h)
    · have h := itn h c2
      refine v_iconst (dq D_X8_isRegister 5 rfl) kc_1 ?_
      refine v_goto (dq D_X8_isRegister 6 rfl) rfl ?_
      exact v_sub [] rfl (w_X8_isRegister_15 h)
theorem m_X8_isRegister {sa : Env3} {a0 : Int32} {σ : St} {r : Int32 × St} (h : f_X8_isRegister a0 σ = some r) : Ex sa yX8_isRegister cX8_isRegister K_X8_isRegister [.int a0] σ (pO r) := Ex.of (by decide) rfl (fun q => nomatch q) (Nat.le_of_ble_eq_true rfl) (w_X8_isRegister_0 h)
theorem w_X3_bitOf_11 {sa : Env3} {s0 : Int32} {σ : St} {r : Int32 × St} (h : f_X3_bitOf_11 s0 σ = some r) : VV sa cX3_bitOf K_X3_bitOf 11 [] [.int s0] σ (pO r) 0 0 := by
  unfold f_X3_bitOf_11 at h
  obtain rfl := Option.some.inj h
  exact v_iret (dq D_X3_bitOf 7 rfl) rfl ⟨rfl, rfl⟩
theorem w_X3_bitOf_0 {sa : Env3} {a0 : Int32} {σ : St} {r : Int32 × St} (h : f_X3_bitOf_0 a0 σ = some r) : VV sa cX3_bitOf K_X3_bitOf 0 [(0, .int a0)] [] σ (pO r) 0 0 := by
  unfold f_X3_bitOf_0 at h
  refine v_iload_n (dq D_X3_bitOf 0 rfl) 0 rfl ?_
  refine v_if_ge (dq D_X3_bitOf 1 rfl) rfl (fun c1 => ?_) (fun c1 => ?_)
  · have h := itp h c1
    refine v_iconst (dq D_X3_bitOf 4 rfl) kc_1 ?_
    refine v_iload_n (dq D_X3_bitOf 5 rfl) 0 rfl ?_
    refine v_ishl (dq D_X3_bitOf 6 rfl) ?_
    exact v_sub [] rfl (w_X3_bitOf_11 h)
  · have h := itn h c1
    refine v_iconst (dq D_X3_bitOf 2 rfl) kc_0 ?_
    refine v_goto (dq D_X3_bitOf 3 rfl) rfl ?_
    exact v_sub [] rfl (w_X3_bitOf_11 h)
theorem m_X3_bitOf {sa : Env3} {a0 : Int32} {σ : St} {r : Int32 × St} (h : f_X3_bitOf a0 σ = some r) : Ex sa yX3_bitOf cX3_bitOf K_X3_bitOf [.int a0] σ (pO r) := Ex.of (by decide) rfl (fun q => nomatch q) (Nat.le_of_ble_eq_true rfl) (w_X3_bitOf_0 h)
theorem w_X3_dropOldest_0 {sa : Env3} {a0 : Nat} {σ : St} {r : St} (h : f_X3_dropOldest_0 a0 σ = some r) : VV sa cX3_dropOldest K_X3_dropOldest 0 [(0, .ref a0)] [] σ (pU r) 0 0 := by
  unfold f_X3_dropOldest_0 at h
  refine v_aload_n (dq D_X3_dropOldest 0 rfl) 0 rfl ?_
  refine v_dup (dq D_X3_dropOldest 1 rfl) rfl ?_
  obtain ⟨x1, hx1, h⟩ := obi h
  refine v_gI (dq D_X3_dropOldest 2 rfl) fa_RX3_73 hx1 ?_
  refine v_iconst (dq D_X3_dropOldest 3 rfl) kc_1 ?_
  refine v_isub (dq D_X3_dropOldest 4 rfl) ?_
  obtain ⟨σ2, hσ2, h⟩ := obi h
  refine v_pI (dq D_X3_dropOldest 5 rfl) fp_RX3_73 hσ2 ?_
  refine v_aload_n (dq D_X3_dropOldest 6 rfl) 0 rfl ?_
  obtain ⟨x3, hx3, h⟩ := obi h
  refine v_gR (dq D_X3_dropOldest 7 rfl) fa_RX3_18 hx3 ?_
  refine v_iconst (dq D_X3_dropOldest 8 rfl) kc_1 ?_
  refine v_aload_n (dq D_X3_dropOldest 9 rfl) 0 rfl ?_
  obtain ⟨x4, hx4, h⟩ := obi h
  refine v_gR (dq D_X3_dropOldest 10 rfl) fa_RX3_18 hx4 ?_
  refine v_iconst (dq D_X3_dropOldest 11 rfl) kc_0 ?_
  refine v_aload_n (dq D_X3_dropOldest 12 rfl) 0 rfl ?_
  obtain ⟨x5, hx5, h⟩ := obi h
  refine v_gI (dq D_X3_dropOldest 13 rfl) fa_RX3_73 hx5 ?_
  obtain ⟨σ6, hσ6, h⟩ := obi h
  refine v_copy (dq D_X3_dropOldest 14 rfl) tw_877 tw_879 tw_878 tw_19 (Nat.le_of_ble_eq_true rfl) (Nat.le_of_ble_eq_true rfl) hσ6 ?_
  refine v_aload_n (dq D_X3_dropOldest 15 rfl) 0 rfl ?_
  obtain ⟨x7, hx7, h⟩ := obi h
  refine v_gR (dq D_X3_dropOldest 16 rfl) fa_RX3_21 hx7 ?_
  refine v_iconst (dq D_X3_dropOldest 17 rfl) kc_1 ?_
  refine v_aload_n (dq D_X3_dropOldest 18 rfl) 0 rfl ?_
  obtain ⟨x8, hx8, h⟩ := obi h
  refine v_gR (dq D_X3_dropOldest 19 rfl) fa_RX3_21 hx8 ?_
  refine v_iconst (dq D_X3_dropOldest 20 rfl) kc_0 ?_
  refine v_aload_n (dq D_X3_dropOldest 21 rfl) 0 rfl ?_
  obtain ⟨x9, hx9, h⟩ := obi h
  refine v_gI (dq D_X3_dropOldest 22 rfl) fa_RX3_73 hx9 ?_
  obtain ⟨σ10, hσ10, h⟩ := obi h
  refine v_copy (dq D_X3_dropOldest 23 rfl) tw_877 tw_879 tw_878 tw_19 (Nat.le_of_ble_eq_true rfl) (Nat.le_of_ble_eq_true rfl) hσ10 ?_
  refine v_aload_n (dq D_X3_dropOldest 24 rfl) 0 rfl ?_
  obtain ⟨x11, hx11, h⟩ := obi h
  refine v_gR (dq D_X3_dropOldest 25 rfl) fa_RX3_24 hx11 ?_
  refine v_iconst (dq D_X3_dropOldest 26 rfl) kc_1 ?_
  refine v_aload_n (dq D_X3_dropOldest 27 rfl) 0 rfl ?_
  obtain ⟨x12, hx12, h⟩ := obi h
  refine v_gR (dq D_X3_dropOldest 28 rfl) fa_RX3_24 hx12 ?_
  refine v_iconst (dq D_X3_dropOldest 29 rfl) kc_0 ?_
  refine v_aload_n (dq D_X3_dropOldest 30 rfl) 0 rfl ?_
  obtain ⟨x13, hx13, h⟩ := obi h
  refine v_gI (dq D_X3_dropOldest 31 rfl) fa_RX3_73 hx13 ?_
  obtain ⟨σ14, hσ14, h⟩ := obi h
  refine v_copy (dq D_X3_dropOldest 32 rfl) tw_877 tw_879 tw_878 tw_19 (Nat.le_of_ble_eq_true rfl) (Nat.le_of_ble_eq_true rfl) hσ14 ?_
  refine v_aload_n (dq D_X3_dropOldest 33 rfl) 0 rfl ?_
  obtain ⟨x15, hx15, h⟩ := obi h
  refine v_gR (dq D_X3_dropOldest 34 rfl) fa_RX3_27 hx15 ?_
  refine v_iconst (dq D_X3_dropOldest 35 rfl) kc_1 ?_
  refine v_aload_n (dq D_X3_dropOldest 36 rfl) 0 rfl ?_
  obtain ⟨x16, hx16, h⟩ := obi h
  refine v_gR (dq D_X3_dropOldest 37 rfl) fa_RX3_27 hx16 ?_
  refine v_iconst (dq D_X3_dropOldest 38 rfl) kc_0 ?_
  refine v_aload_n (dq D_X3_dropOldest 39 rfl) 0 rfl ?_
  obtain ⟨x17, hx17, h⟩ := obi h
  refine v_gI (dq D_X3_dropOldest 40 rfl) fa_RX3_73 hx17 ?_
  obtain ⟨σ18, hσ18, h⟩ := obi h
  refine v_copy (dq D_X3_dropOldest 41 rfl) tw_877 tw_879 tw_878 tw_19 (Nat.le_of_ble_eq_true rfl) (Nat.le_of_ble_eq_true rfl) hσ18 ?_
  refine v_aload_n (dq D_X3_dropOldest 42 rfl) 0 rfl ?_
  refine v_dup (dq D_X3_dropOldest 43 rfl) rfl ?_
  obtain ⟨x19, hx19, h⟩ := obi h
  refine v_gI (dq D_X3_dropOldest 44 rfl) fa_RX3_76 hx19 ?_
  refine v_iconst (dq D_X3_dropOldest 45 rfl) kc_1 ?_
  refine v_ishr (dq D_X3_dropOldest 46 rfl) ?_
  obtain ⟨σ20, hσ20, h⟩ := obi h
  refine v_pI (dq D_X3_dropOldest 47 rfl) fp_RX3_76 hσ20 ?_
  refine v_aload_n (dq D_X3_dropOldest 48 rfl) 0 rfl ?_
  refine v_dup (dq D_X3_dropOldest 49 rfl) rfl ?_
  obtain ⟨x21, hx21, h⟩ := obi h
  refine v_gI (dq D_X3_dropOldest 50 rfl) fa_RX3_79 hx21 ?_
  refine v_iconst (dq D_X3_dropOldest 51 rfl) kc_1 ?_
  refine v_ishr (dq D_X3_dropOldest 52 rfl) ?_
  obtain ⟨σ22, hσ22, h⟩ := obi h
  refine v_pI (dq D_X3_dropOldest 53 rfl) fp_RX3_79 hσ22 ?_
  refine v_aload_n (dq D_X3_dropOldest 54 rfl) 0 rfl ?_
  refine v_dup (dq D_X3_dropOldest 55 rfl) rfl ?_
  obtain ⟨x23, hx23, h⟩ := obi h
  refine v_gI (dq D_X3_dropOldest 56 rfl) fa_RX3_82 hx23 ?_
  refine v_iconst (dq D_X3_dropOldest 57 rfl) kc_1 ?_
  refine v_ishr (dq D_X3_dropOldest 58 rfl) ?_
  obtain ⟨σ24, hσ24, h⟩ := obi h
  refine v_pI (dq D_X3_dropOldest 59 rfl) fp_RX3_82 hσ24 ?_
  refine v_aload_n (dq D_X3_dropOldest 60 rfl) 0 rfl ?_
  refine v_dup (dq D_X3_dropOldest 61 rfl) rfl ?_
  obtain ⟨x25, hx25, h⟩ := obi h
  refine v_gI (dq D_X3_dropOldest 62 rfl) fa_RX3_85 hx25 ?_
  refine v_iconst (dq D_X3_dropOldest 63 rfl) kc_1 ?_
  refine v_ishr (dq D_X3_dropOldest 64 rfl) ?_
  obtain ⟨σ26, hσ26, h⟩ := obi h
  refine v_pI (dq D_X3_dropOldest 65 rfl) fp_RX3_85 hσ26 ?_
  refine v_aload_n (dq D_X3_dropOldest 66 rfl) 0 rfl ?_
  refine v_dup (dq D_X3_dropOldest 67 rfl) rfl ?_
  obtain ⟨x27, hx27, h⟩ := obi h
  refine v_gI (dq D_X3_dropOldest 68 rfl) fa_RX3_88 hx27 ?_
  refine v_iconst (dq D_X3_dropOldest 69 rfl) kc_1 ?_
  refine v_ishr (dq D_X3_dropOldest 70 rfl) ?_
  obtain ⟨σ28, hσ28, h⟩ := obi h
  refine v_pI (dq D_X3_dropOldest 71 rfl) fp_RX3_88 hσ28 ?_
  obtain rfl := Option.some.inj h
  exact v_vret (dq D_X3_dropOldest 72 rfl) rfl ⟨rfl, rfl⟩
theorem m_X3_dropOldest {sa : Env3} {a0 : Nat} {σ : St} {r : St} (h : f_X3_dropOldest a0 σ = some r) : Ex sa yX3_dropOldest cX3_dropOldest K_X3_dropOldest [.ref a0] σ (pU r) := Ex.of (by decide) rfl (fun q => nomatch q) (Nat.le_of_ble_eq_true rfl) (w_X3_dropOldest_0 (itg h).2)
theorem w_X3_retire_79 {sa : Env3} {a0 : Nat} {a1 : Int32} {σ : St} {r : Int32 × St} (h : f_X3_retire_79 a0 a1 σ = some r) : VV sa cX3_retire K_X3_retire 79 [(0, .ref a0), (1, .int a1)] [] σ (pO r) 0 0 := by
  unfold f_X3_retire_79 at h
  refine v_aload_n (dq D_X3_retire 48 rfl) 0 rfl ?_
  obtain ⟨σ1, hσ1, h⟩ := obi h
  refine v_cVv (bc := 0) (bs := 0) (As := []) (dq D_X3_retire 49 rfl) cv_X3_dropOldest ml_RX3_200 (itg hσ1).1 (m_X3_dropOldest hσ1) rfl rfl (Nat.le_of_ble_eq_true rfl) ⟨Nat.le_of_ble_eq_true rfl, Nat.le_of_ble_eq_true rfl⟩ ⟨Nat.le_of_ble_eq_true rfl, Nat.le_of_ble_eq_true rfl⟩ ?_
  refine v_aload_n (dq D_X3_retire 50 rfl) 0 rfl ?_
  refine v_dup (dq D_X3_retire 51 rfl) rfl ?_
  obtain ⟨x2, hx2, h⟩ := obi h
  refine v_gI (dq D_X3_retire 52 rfl) fa_RX3_64 hx2 ?_
  refine v_iconst (dq D_X3_retire 53 rfl) kc_1 ?_
  refine v_iadd (dq D_X3_retire 54 rfl) ?_
  obtain ⟨σ3, hσ3, h⟩ := obi h
  refine v_pI (dq D_X3_retire 55 rfl) fp_RX3_64 hσ3 ?_
  refine v_iload_n (dq D_X3_retire 56 rfl) 1 rfl ?_
  obtain rfl := Option.some.inj h
  exact v_iret (dq D_X3_retire 57 rfl) rfl ⟨rfl, rfl⟩
theorem w_X3_retire_0 {sa : Env3} {a0 : Nat} {σ : St} {r : Int32 × St} (h : f_X3_retire_0 a0 σ = some r) : VV sa cX3_retire K_X3_retire 0 [(0, .ref a0)] [] σ (pO r) 0 0 := by
  unfold f_X3_retire_0 at h
  refine v_aload_n (dq D_X3_retire 0 rfl) 0 rfl ?_
  obtain ⟨x1, hx1, h⟩ := obi h
  refine v_gR (dq D_X3_retire 1 rfl) fa_RX3_18 hx1 ?_
  refine v_iconst (dq D_X3_retire 2 rfl) kc_0 ?_
  obtain ⟨x2, hx2, h⟩ := obi h
  refine v_iald (dq D_X3_retire 3 rfl) hx2 ?_
  refine v_istore_n (dq D_X3_retire 4 rfl) [(1, .int x2), (0, .ref a0)] rfl (Nat.le_of_ble_eq_true rfl) rfl ?_
  refine v_aload_n (dq D_X3_retire 5 rfl) 1 rfl ?_
  obtain ⟨x3, hx3, h⟩ := obi h
  refine v_gI (dq D_X3_retire 6 rfl) fa_RX3_82 hx3 ?_
  refine v_iconst (dq D_X3_retire 7 rfl) kc_1 ?_
  refine v_iand (dq D_X3_retire 8 rfl) ?_
  refine v_iconst (dq D_X3_retire 9 rfl) kc_1 ?_
  refine v_icmp_ne (dq D_X3_retire 10 rfl) rfl (fun c4 => ?_) (fun c4 => ?_)
  · have h := itn h c4
    refine v_aload_n (dq D_X3_retire 22 rfl) 1 rfl ?_
    obtain ⟨x5, hx5, h⟩ := obi h
    refine v_gR (dq D_X3_retire 23 rfl) fa_RX3_30 hx5 ?_
    obtain ⟨x6, hx6, h⟩ := obi h
    refine v_gR (dq D_X3_retire 24 rfl) fa_RX3_91 hx6 ?_
    refine v_iload_n (dq D_X3_retire 25 rfl) 0 rfl ?_
    obtain ⟨x7, hx7, h⟩ := obi h
    refine v_iald (dq D_X3_retire 26 rfl) hx7 ?_
    refine v_istore_n (dq D_X3_retire 27 rfl) [(2, .int x7), (1, .int x2), (0, .ref a0)] rfl (Nat.le_of_ble_eq_true rfl) rfl ?_
    refine v_iload_n (dq D_X3_retire 28 rfl) 0 rfl ?_
    obtain ⟨q8, hq8, h⟩ := obi h
    refine v_cSi (bc := 0) (bs := 0) (As := [.int x7]) (dq D_X3_retire 29 rfl) cs_X8_isRegister ml_RX3_169 (m_X8_isRegister hq8) rfl rfl (Nat.le_of_ble_eq_true rfl) ⟨Nat.le_of_ble_eq_true rfl, Nat.le_of_ble_eq_true rfl⟩ ⟨Nat.le_of_ble_eq_true rfl, Nat.le_of_ble_eq_true rfl⟩ ?_
    refine v_if_eq (dq D_X3_retire 30 rfl) rfl (fun c9 => ?_) (fun c9 => ?_)
    · have h := itp h c9
      exact v_sub [2, 1] rfl (w_X3_retire_79 h)
    · have h := itn h c9
      refine v_aload_n (dq D_X3_retire 31 rfl) 2 rfl ?_
      obtain ⟨x10, hx10, h⟩ := obi h
      refine v_gR (dq D_X3_retire 32 rfl) fa_RX3_15 hx10 ?_
      refine v_iload_n (dq D_X3_retire 33 rfl) 0 rfl ?_
      refine v_aload_n (dq D_X3_retire 34 rfl) 2 rfl ?_
      obtain ⟨x11, hx11, h⟩ := obi h
      refine v_gR (dq D_X3_retire 35 rfl) fa_RX3_21 hx11 ?_
      refine v_iconst (dq D_X3_retire 36 rfl) kc_0 ?_
      obtain ⟨x12, hx12, h⟩ := obi h
      refine v_iald (dq D_X3_retire 37 rfl) hx12 ?_
      obtain ⟨σ13, hσ13, h⟩ := obi h
      refine v_iast (dq D_X3_retire 38 rfl) hσ13 ?_
      refine v_aload_n (dq D_X3_retire 39 rfl) 2 rfl ?_
      refine v_dup (dq D_X3_retire 40 rfl) rfl ?_
      obtain ⟨x14, hx14, h⟩ := obi h
      refine v_gI (dq D_X3_retire 41 rfl) fa_RX3_47 hx14 ?_
      refine v_iload_n (dq D_X3_retire 42 rfl) 0 rfl ?_
      obtain ⟨q15, hq15, h⟩ := obi h
      refine v_cSi (bc := 0) (bs := 0) (As := [.int x7]) (dq D_X3_retire 43 rfl) cs_X3_bitOf ml_RX3_109 (m_X3_bitOf hq15) rfl rfl (Nat.le_of_ble_eq_true rfl) ⟨Nat.le_of_ble_eq_true rfl, Nat.le_of_ble_eq_true rfl⟩ ⟨Nat.le_of_ble_eq_true rfl, Nat.le_of_ble_eq_true rfl⟩ ?_
      refine v_iconst (dq D_X3_retire 44 rfl) kc_m1 ?_
      refine v_ixor (dq D_X3_retire 45 rfl) ?_
      refine v_iand (dq D_X3_retire 46 rfl) ?_
      obtain ⟨σ16, hσ16, h⟩ := obi h
      refine v_pI (dq D_X3_retire 47 rfl) fp_RX3_47 hσ16 ?_
      exact v_sub [2, 1] rfl (w_X3_retire_79 h)
  · have h := itp h c4
    refine v_aload_n (dq D_X3_retire 11 rfl) 1 rfl ?_
    refine v_iconst (dq D_X3_retire 12 rfl) kc_0 ?_
    obtain ⟨σ17, hσ17, h⟩ := obi h
    refine v_cVv (bc := 0) (bs := 0) (As := [.int 0]) (dq D_X3_retire 13 rfl) cv_X3_keepOldest ml_RX3_50 (itg hσ17).1 (m_X3_keepOldest hσ17) rfl rfl (Nat.le_of_ble_eq_true rfl) ⟨Nat.le_of_ble_eq_true rfl, Nat.le_of_ble_eq_true rfl⟩ ⟨Nat.le_of_ble_eq_true rfl, Nat.le_of_ble_eq_true rfl⟩ ?_
    refine v_aload_n (dq D_X3_retire 14 rfl) 1 rfl ?_
    refine v_iconst (dq D_X3_retire 15 rfl) kc_1 ?_
    obtain ⟨σ18, hσ18, h⟩ := obi h
    refine v_pZ (dq D_X3_retire 16 rfl) fp_RX3_57 hσ18 ?_
    refine v_aload_n (dq D_X3_retire 17 rfl) 1 rfl ?_
    refine v_iload_n (dq D_X3_retire 18 rfl) 0 rfl ?_
    obtain ⟨σ19, hσ19, h⟩ := obi h
    refine v_pI (dq D_X3_retire 19 rfl) fp_RX3_54 hσ19 ?_
    refine v_bipush (dq D_X3_retire 20 rfl) kb_m2 ?_
    obtain rfl := Option.some.inj h
    exact v_iret (dq D_X3_retire 21 rfl) rfl ⟨rfl, rfl⟩
theorem m_X3_retire {sa : Env3} {a0 : Nat} {σ : St} {r : Int32 × St} (h : f_X3_retire a0 σ = some r) : Ex sa yX3_retire cX3_retire K_X3_retire [.ref a0] σ (pO r) := Ex.of (by decide) rfl (fun q => nomatch q) (Nat.le_of_ble_eq_true rfl) (w_X3_retire_0 (itg h).2)
theorem w_X3_canRead_17 {sa : Env3} {s0 : Int32} {σ : St} {r : Int32 × St} (h : f_X3_canRead_17 s0 σ = some r) : VV sa cX3_canRead K_X3_canRead 17 [] [.int s0] σ (pO r) 0 0 := by
  unfold f_X3_canRead_17 at h
  have hz := (itg h).1
  have h := (itg h).2
  obtain rfl := Option.some.inj h
  exact v_zret (dq D_X3_canRead 9 rfl) rfl (z_nar hz) ⟨rfl, rfl⟩
theorem w_X3_canRead_12 {sa : Env3}  {σ : St} {r : Int32 × St} (h : f_X3_canRead_12  σ = some r) : VV sa cX3_canRead K_X3_canRead 12 [] [] σ (pO r) 0 0 := by
  unfold f_X3_canRead_12 at h
  refine v_iconst (dq D_X3_canRead 6 rfl) kc_1 ?_
  refine v_goto (dq D_X3_canRead 7 rfl) rfl ?_
  exact w_X3_canRead_17 h
theorem w_X3_canRead_0 {sa : Env3} {a0 : Nat} {a1 : Int32} {σ : St} {r : Int32 × St} (h : f_X3_canRead_0 a0 a1 σ = some r) : VV sa cX3_canRead K_X3_canRead 0 [(0, .ref a0), (1, .int a1)] [] σ (pO r) 0 0 := by
  unfold f_X3_canRead_0 at h
  refine v_iload_n (dq D_X3_canRead 0 rfl) 1 rfl ?_
  refine v_if_lt (dq D_X3_canRead 1 rfl) rfl (fun c1 => ?_) (fun c1 => ?_)
  · have h := itp h c1
    exact v_sub [] rfl (w_X3_canRead_12 h)
  · have h := itn h c1
    refine v_aload_n (dq D_X3_canRead 2 rfl) 0 rfl ?_
    refine v_iload_n (dq D_X3_canRead 3 rfl) 1 rfl ?_
    obtain ⟨q2, hq2, h⟩ := obi h
    refine v_cVi (bc := 0) (bs := 0) (As := [.int a1]) (dq D_X3_canRead 4 rfl) cv_X3_isReady ml_RX3_181 (itg hq2).1 (m_X3_isReady hq2) rfl rfl (Nat.le_of_ble_eq_true rfl) ⟨Nat.le_of_ble_eq_true rfl, Nat.le_of_ble_eq_true rfl⟩ ⟨Nat.le_of_ble_eq_true rfl, Nat.le_of_ble_eq_true rfl⟩ ?_
    refine v_if_eq (dq D_X3_canRead 5 rfl) rfl (fun c3 => ?_) (fun c3 => ?_)
    · have h := itp h c3
      refine v_iconst (dq D_X3_canRead 8 rfl) kc_0 ?_
      exact v_sub [] rfl (w_X3_canRead_17 h)
    · have h := itn h c3
      exact v_sub [] rfl (w_X3_canRead_12 h)
theorem m_X3_canRead {sa : Env3} {a0 : Nat} {a1 : Int32} {σ : St} {r : Int32 × St} (h : f_X3_canRead a0 a1 σ = some r) : Ex sa yX3_canRead cX3_canRead K_X3_canRead [.ref a0, .int a1] σ (pO r) := Ex.of (by decide) rfl (fun q => nomatch q) (Nat.le_of_ble_eq_true rfl) (w_X3_canRead_0 (itg h).2)
theorem w_X3_canWork_39 {sa : Env3} {s0 : Int32} {σ : St} {r : Int32 × St} (h : f_X3_canWork_39 s0 σ = some r) : VV sa cX3_canWork K_X3_canWork 39 [] [.int s0] σ (pO r) 0 0 := by
  unfold f_X3_canWork_39 at h
  have hz := (itg h).1
  have h := (itg h).2
  obtain rfl := Option.some.inj h
  exact v_zret (dq D_X3_canWork 21 rfl) rfl (z_nar hz) ⟨rfl, rfl⟩
theorem w_X3_canWork_38 {sa : Env3}  {σ : St} {r : Int32 × St} (h : f_X3_canWork_38  σ = some r) : VV sa cX3_canWork K_X3_canWork 38 [] [] σ (pO r) 0 0 := by
  unfold f_X3_canWork_38 at h
  refine v_iconst (dq D_X3_canWork 20 rfl) kc_0 ?_
  exact w_X3_canWork_39 h
theorem w_X3_canWork_0 {sa : Env3} {a0 : Nat} {a1 : Int32} {σ : St} {r : Int32 × St} (h : f_X3_canWork_0 a0 a1 σ = some r) : VV sa cX3_canWork K_X3_canWork 0 [(0, .ref a0), (1, .int a1)] [] σ (pO r) 0 0 := by
  unfold f_X3_canWork_0 at h
  refine v_aload_n (dq D_X3_canWork 0 rfl) 0 rfl ?_
  refine v_iload_n (dq D_X3_canWork 1 rfl) 1 rfl ?_
  obtain ⟨q1, hq1, h⟩ := obi h
  refine v_cVi (bc := 0) (bs := 0) (As := [.int a1]) (dq D_X3_canWork 2 rfl) cv_X3_isDone ml_RX3_112 (itg hq1).1 (m_X3_isDone hq1) rfl rfl (Nat.le_of_ble_eq_true rfl) ⟨Nat.le_of_ble_eq_true rfl, Nat.le_of_ble_eq_true rfl⟩ ⟨Nat.le_of_ble_eq_true rfl, Nat.le_of_ble_eq_true rfl⟩ ?_
  refine v_if_ne (dq D_X3_canWork 3 rfl) rfl (fun c2 => ?_) (fun c2 => ?_)
  · have h := itn h c2
    exact v_sub [] rfl (w_X3_canWork_38 h)
  · have h := itp h c2
    refine v_aload_n (dq D_X3_canWork 4 rfl) 0 rfl ?_
    refine v_aload_n (dq D_X3_canWork 5 rfl) 0 rfl ?_
    obtain ⟨x3, hx3, h⟩ := obi h
    refine v_gR (dq D_X3_canWork 6 rfl) fa_RX3_24 hx3 ?_
    refine v_iload_n (dq D_X3_canWork 7 rfl) 1 rfl ?_
    obtain ⟨x4, hx4, h⟩ := obi h
    refine v_iald (dq D_X3_canWork 8 rfl) hx4 ?_
    obtain ⟨q5, hq5, h⟩ := obi h
    refine v_cVi (bc := 0) (bs := 0) (As := [.int x4]) (dq D_X3_canWork 9 rfl) cv_X3_canRead ml_RX3_178 (itg hq5).1 (m_X3_canRead hq5) rfl rfl (Nat.le_of_ble_eq_true rfl) ⟨Nat.le_of_ble_eq_true rfl, Nat.le_of_ble_eq_true rfl⟩ ⟨Nat.le_of_ble_eq_true rfl, Nat.le_of_ble_eq_true rfl⟩ ?_
    refine v_if_eq (dq D_X3_canWork 10 rfl) rfl (fun c6 => ?_) (fun c6 => ?_)
    · have h := itp h c6
      exact v_sub [] rfl (w_X3_canWork_38 h)
    · have h := itn h c6
      refine v_aload_n (dq D_X3_canWork 11 rfl) 0 rfl ?_
      refine v_aload_n (dq D_X3_canWork 12 rfl) 0 rfl ?_
      obtain ⟨x7, hx7, h⟩ := obi h
      refine v_gR (dq D_X3_canWork 13 rfl) fa_RX3_27 hx7 ?_
      refine v_iload_n (dq D_X3_canWork 14 rfl) 1 rfl ?_
      obtain ⟨x8, hx8, h⟩ := obi h
      refine v_iald (dq D_X3_canWork 15 rfl) hx8 ?_
      obtain ⟨q9, hq9, h⟩ := obi h
      refine v_cVi (bc := 0) (bs := 0) (As := [.int x8]) (dq D_X3_canWork 16 rfl) cv_X3_canRead ml_RX3_178 (itg hq9).1 (m_X3_canRead hq9) rfl rfl (Nat.le_of_ble_eq_true rfl) ⟨Nat.le_of_ble_eq_true rfl, Nat.le_of_ble_eq_true rfl⟩ ⟨Nat.le_of_ble_eq_true rfl, Nat.le_of_ble_eq_true rfl⟩ ?_
      refine v_if_eq (dq D_X3_canWork 17 rfl) rfl (fun c10 => ?_) (fun c10 => ?_)
      · have h := itp h c10
        exact v_sub [] rfl (w_X3_canWork_38 h)
      · have h := itn h c10
        refine v_iconst (dq D_X3_canWork 18 rfl) kc_1 ?_
        refine v_goto (dq D_X3_canWork 19 rfl) rfl ?_
        exact v_sub [] rfl (w_X3_canWork_39 h)
theorem m_X3_canWork {sa : Env3} {a0 : Nat} {a1 : Int32} {σ : St} {r : Int32 × St} (h : f_X3_canWork a0 a1 σ = some r) : Ex sa yX3_canWork cX3_canWork K_X3_canWork [.ref a0, .int a1] σ (pO r) := Ex.of (by decide) rfl (fun q => nomatch q) (Nat.le_of_ble_eq_true rfl) (w_X3_canWork_0 (itg h).2)
theorem w_X3_oldestToWork_2 {sa : Env3} : ∀ (n : Nat) {a0 : Nat} {a1 : Int32} {σ : St} {r : Int32 × St}, f_X3_oldestToWork_2 n a0 a1 σ = some r → VV sa cX3_oldestToWork K_X3_oldestToWork 2 [(0, .ref a0), (1, .int a1)] [] σ (pO r) 0 0 := by
  intro n
  induction n with
  | zero => intro a0 a1 σ r h; cases h
  | succ n ih =>
    intro a0 a1 σ r h
    rw [e_X3_oldestToWork_2] at h
    refine v_iload_n (dq D_X3_oldestToWork 2 rfl) 1 rfl ?_
    refine v_aload_n (dq D_X3_oldestToWork 3 rfl) 0 rfl ?_
    obtain ⟨x1, hx1, h⟩ := obi h
    refine v_gI (dq D_X3_oldestToWork 4 rfl) fa_RX3_73 hx1 ?_
    refine v_icmp_ge (dq D_X3_oldestToWork 5 rfl) rfl (fun c2 => ?_) (fun c2 => ?_)
    · have h := itp h c2
      refine v_iconst (dq D_X3_oldestToWork 14 rfl) kc_m1 ?_
      obtain rfl := Option.some.inj h
      exact v_iret (dq D_X3_oldestToWork 15 rfl) rfl ⟨rfl, rfl⟩
    · have h := itn h c2
      refine v_aload_n (dq D_X3_oldestToWork 6 rfl) 0 rfl ?_
      refine v_iload_n (dq D_X3_oldestToWork 7 rfl) 1 rfl ?_
      obtain ⟨q3, hq3, h⟩ := obi h
      refine v_cVi (bc := 0) (bs := 0) (As := [.int a1]) (dq D_X3_oldestToWork 8 rfl) cv_X3_canWork ml_RX3_119 (itg hq3).1 (m_X3_canWork hq3) rfl rfl (Nat.le_of_ble_eq_true rfl) ⟨Nat.le_of_ble_eq_true rfl, Nat.le_of_ble_eq_true rfl⟩ ⟨Nat.le_of_ble_eq_true rfl, Nat.le_of_ble_eq_true rfl⟩ ?_
      refine v_if_eq (dq D_X3_oldestToWork 9 rfl) rfl (fun c4 => ?_) (fun c4 => ?_)
      · have h := itp h c4
        refine v_iinc (dq D_X3_oldestToWork 12 rfl) 1 [(1, .int (a1 + 1)), (0, .ref a0)] rfl kc_1 (Nat.le_of_ble_eq_true rfl) rfl ?_
        refine v_goto (dq D_X3_oldestToWork 13 rfl) rfl ?_
        exact v_sub [1, 0] rfl (ih h)
      · have h := itn h c4
        refine v_iload_n (dq D_X3_oldestToWork 10 rfl) 1 rfl ?_
        obtain rfl := Option.some.inj h
        exact v_iret (dq D_X3_oldestToWork 11 rfl) rfl ⟨rfl, rfl⟩
theorem w_X3_oldestToWork_0 {sa : Env3} {a0 : Nat} {σ : St} {r : Int32 × St} (h : f_X3_oldestToWork_0 a0 σ = some r) : VV sa cX3_oldestToWork K_X3_oldestToWork 0 [(0, .ref a0)] [] σ (pO r) 0 0 := by
  unfold f_X3_oldestToWork_0 at h
  refine v_iconst (dq D_X3_oldestToWork 0 rfl) kc_0 ?_
  refine v_istore_n (dq D_X3_oldestToWork 1 rfl) [(1, .int 0), (0, .ref a0)] rfl (Nat.le_of_ble_eq_true rfl) rfl ?_
  exact v_sub [1, 0] rfl (w_X3_oldestToWork_2 _ h)
theorem m_X3_oldestToWork {sa : Env3} {a0 : Nat} {σ : St} {r : Int32 × St} (h : f_X3_oldestToWork a0 σ = some r) : Ex sa yX3_oldestToWork cX3_oldestToWork K_X3_oldestToWork [.ref a0] σ (pO r) := Ex.of (by decide) rfl (fun q => nomatch q) (Nat.le_of_ble_eq_true rfl) (w_X3_oldestToWork_0 (itg h).2)
theorem w_X3_valueRead_14 {sa : Env3} {s0 : Int32} {σ : St} {r : Int32 × St} (h : f_X3_valueRead_14 s0 σ = some r) : VV sa cX3_valueRead K_X3_valueRead 14 [] [.int s0] σ (pO r) 0 0 := by
  unfold f_X3_valueRead_14 at h
  obtain rfl := Option.some.inj h
  exact v_iret (dq D_X3_valueRead 8 rfl) rfl ⟨rfl, rfl⟩
theorem w_X3_valueRead_0 {sa : Env3} {a0 : Nat} {a1 : Int32} {σ : St} {r : Int32 × St} (h : f_X3_valueRead_0 a0 a1 σ = some r) : VV sa cX3_valueRead K_X3_valueRead 0 [(0, .ref a0), (1, .int a1)] [] σ (pO r) 0 0 := by
  unfold f_X3_valueRead_0 at h
  refine v_iload_n (dq D_X3_valueRead 0 rfl) 1 rfl ?_
  refine v_if_ge (dq D_X3_valueRead 1 rfl) rfl (fun c1 => ?_) (fun c1 => ?_)
  · have h := itp h c1
    refine v_aload_n (dq D_X3_valueRead 4 rfl) 0 rfl ?_
    obtain ⟨x2, hx2, h⟩ := obi h
    refine v_gR (dq D_X3_valueRead 5 rfl) fa_RX3_9 hx2 ?_
    refine v_iload_n (dq D_X3_valueRead 6 rfl) 1 rfl ?_
    obtain ⟨x3, hx3, h⟩ := obi h
    refine v_iald (dq D_X3_valueRead 7 rfl) hx3 ?_
    exact v_sub [] rfl (w_X3_valueRead_14 h)
  · have h := itn h c1
    refine v_iconst (dq D_X3_valueRead 2 rfl) kc_0 ?_
    refine v_goto (dq D_X3_valueRead 3 rfl) rfl ?_
    exact v_sub [] rfl (w_X3_valueRead_14 h)
theorem m_X3_valueRead {sa : Env3} {a0 : Nat} {a1 : Int32} {σ : St} {r : Int32 × St} (h : f_X3_valueRead a0 a1 σ = some r) : Ex sa yX3_valueRead cX3_valueRead K_X3_valueRead [.ref a0, .int a1] σ (pO r) := Ex.of (by decide) rfl (fun q => nomatch q) (Nat.le_of_ble_eq_true rfl) (w_X3_valueRead_0 (itg h).2)
theorem w_X5_nextBehind_27 {sa : Env3} {s0 : Int32} {σ : St} {r : Int32 × St} (h : f_X5_nextBehind_27 s0 σ = some r) : VV sa cX5_nextBehind K_X5_nextBehind 27 [] [.int s0] σ (pO r) 0 0 := by
  unfold f_X5_nextBehind_27 at h
  obtain rfl := Option.some.inj h
  exact v_iret (dq D_X5_nextBehind 17 rfl) rfl ⟨rfl, rfl⟩
theorem w_X5_nextBehind_24 {sa : Env3} {a1 : Int32} {σ : St} {r : Int32 × St} (h : f_X5_nextBehind_24 a1 σ = some r) : VV sa cX5_nextBehind K_X5_nextBehind 24 [(1, .int a1)] [] σ (pO r) 0 0 := by
  unfold f_X5_nextBehind_24 at h
  refine v_iload_n (dq D_X5_nextBehind 14 rfl) 0 rfl ?_
  refine v_iconst (dq D_X5_nextBehind 15 rfl) kc_1 ?_
  refine v_iadd (dq D_X5_nextBehind 16 rfl) ?_
  exact v_sub [] rfl (w_X5_nextBehind_27 h)
theorem w_X5_nextBehind_0 {sa : Env3} {a0 : Nat} {a1 : Int32} {a2 : Int32} {a3 : Int32} {σ : St} {r : Int32 × St} (h : f_X5_nextBehind_0 a0 a1 a2 a3 σ = some r) : VV sa cX5_nextBehind K_X5_nextBehind 0 [(0, .ref a0), (1, .int a1), (2, .int a2), (3, .int a3)] [] σ (pO r) 0 0 := by
  unfold f_X5_nextBehind_0 at h
  refine v_aload_n (dq D_X5_nextBehind 0 rfl) 0 rfl ?_
  obtain ⟨x1, hx1, h⟩ := obi h
  refine v_gR (dq D_X5_nextBehind 1 rfl) fa_RX5_9 hx1 ?_
  refine v_iload_n (dq D_X5_nextBehind 2 rfl) 1 rfl ?_
  obtain ⟨x2, hx2, h⟩ := obi h
  refine v_iald (dq D_X5_nextBehind 3 rfl) hx2 ?_
  refine v_iconst (dq D_X5_nextBehind 4 rfl) kc_5 ?_
  refine v_icmp_ne (dq D_X5_nextBehind 5 rfl) rfl (fun c3 => ?_) (fun c3 => ?_)
  · have h := itn h c3
    exact v_sub [1] rfl (w_X5_nextBehind_24 h)
  · have h := itp h c3
    refine v_iload_n (dq D_X5_nextBehind 6 rfl) 2 rfl ?_
    refine v_iload_n (dq D_X5_nextBehind 7 rfl) 3 rfl ?_
    refine v_icmp_ne (dq D_X5_nextBehind 8 rfl) rfl (fun c4 => ?_) (fun c4 => ?_)
    · have h := itn h c4
      exact v_sub [1] rfl (w_X5_nextBehind_24 h)
    · have h := itp h c4
      refine v_aload_n (dq D_X5_nextBehind 9 rfl) 0 rfl ?_
      obtain ⟨x5, hx5, h⟩ := obi h
      refine v_gR (dq D_X5_nextBehind 10 rfl) fa_RX5_24 hx5 ?_
      refine v_iload_n (dq D_X5_nextBehind 11 rfl) 1 rfl ?_
      obtain ⟨x6, hx6, h⟩ := obi h
      refine v_iald (dq D_X5_nextBehind 12 rfl) hx6 ?_
      refine v_goto (dq D_X5_nextBehind 13 rfl) rfl ?_
      exact v_sub [] rfl (w_X5_nextBehind_27 h)
theorem m_X5_nextBehind {sa : Env3} {a0 : Nat} {a1 : Int32} {a2 : Int32} {a3 : Int32} {σ : St} {r : Int32 × St} (h : f_X5_nextBehind a0 a1 a2 a3 σ = some r) : Ex sa yX5_nextBehind cX5_nextBehind K_X5_nextBehind [.ref a0, .int a1, .int a2, .int a3] σ (pO r) := Ex.of (by decide) rfl (fun q => nomatch q) (Nat.le_of_ble_eq_true rfl) (w_X5_nextBehind_0 (itg h).2)
theorem w_X3_nextOf_0 {sa : Env3} {a0 : Nat} {a1 : Int32} {σ : St} {r : Int32 × St} (h : f_X3_nextOf_0 a0 a1 σ = some r) : VV sa cX3_nextOf K_X3_nextOf 0 [(0, .ref a0), (1, .int a1)] [] σ (pO r) 0 0 := by
  unfold f_X3_nextOf_0 at h
  refine v_aload_n (dq D_X3_nextOf 0 rfl) 0 rfl ?_
  obtain ⟨x1, hx1, h⟩ := obi h
  refine v_gR (dq D_X3_nextOf 1 rfl) fa_RX3_30 hx1 ?_
  refine v_aload_n (dq D_X3_nextOf 2 rfl) 0 rfl ?_
  obtain ⟨x2, hx2, h⟩ := obi h
  refine v_gR (dq D_X3_nextOf 3 rfl) fa_RX3_18 hx2 ?_
  refine v_iload_n (dq D_X3_nextOf 4 rfl) 1 rfl ?_
  obtain ⟨x3, hx3, h⟩ := obi h
  refine v_iald (dq D_X3_nextOf 5 rfl) hx3 ?_
  refine v_aload_n (dq D_X3_nextOf 6 rfl) 0 rfl ?_
  refine v_aload_n (dq D_X3_nextOf 7 rfl) 0 rfl ?_
  obtain ⟨x4, hx4, h⟩ := obi h
  refine v_gR (dq D_X3_nextOf 8 rfl) fa_RX3_24 hx4 ?_
  refine v_iload_n (dq D_X3_nextOf 9 rfl) 1 rfl ?_
  obtain ⟨x5, hx5, h⟩ := obi h
  refine v_iald (dq D_X3_nextOf 10 rfl) hx5 ?_
  obtain ⟨q6, hq6, h⟩ := obi h
  refine v_cVi (bc := 0) (bs := 0) (As := [.int x5]) (dq D_X3_nextOf 11 rfl) cv_X3_valueRead ml_RX3_187 (itg hq6).1 (m_X3_valueRead hq6) rfl rfl (Nat.le_of_ble_eq_true rfl) ⟨Nat.le_of_ble_eq_true rfl, Nat.le_of_ble_eq_true rfl⟩ ⟨Nat.le_of_ble_eq_true rfl, Nat.le_of_ble_eq_true rfl⟩ ?_
  refine v_aload_n (dq D_X3_nextOf 12 rfl) 0 rfl ?_
  refine v_aload_n (dq D_X3_nextOf 13 rfl) 0 rfl ?_
  obtain ⟨x7, hx7, h⟩ := obi h
  refine v_gR (dq D_X3_nextOf 14 rfl) fa_RX3_27 hx7 ?_
  refine v_iload_n (dq D_X3_nextOf 15 rfl) 1 rfl ?_
  obtain ⟨x8, hx8, h⟩ := obi h
  refine v_iald (dq D_X3_nextOf 16 rfl) hx8 ?_
  obtain ⟨q9, hq9, h⟩ := obi h
  refine v_cVi (bc := 0) (bs := 0) (As := [.int x8]) (dq D_X3_nextOf 17 rfl) cv_X3_valueRead ml_RX3_187 (itg hq9).1 (m_X3_valueRead hq9) rfl rfl (Nat.le_of_ble_eq_true rfl) ⟨Nat.le_of_ble_eq_true rfl, Nat.le_of_ble_eq_true rfl⟩ ⟨Nat.le_of_ble_eq_true rfl, Nat.le_of_ble_eq_true rfl⟩ ?_
  obtain ⟨q10, hq10, h⟩ := obi h
  refine v_cVi (bc := 0) (bs := 0) (As := [.int x3, .int q6.1, .int q9.1]) (dq D_X3_nextOf 18 rfl) cv_X5_nextBehind ml_RX3_190 (itg hq10).1 (m_X5_nextBehind hq10) rfl rfl (Nat.le_of_ble_eq_true rfl) ⟨Nat.le_of_ble_eq_true rfl, Nat.le_of_ble_eq_true rfl⟩ ⟨Nat.le_of_ble_eq_true rfl, Nat.le_of_ble_eq_true rfl⟩ ?_
  obtain rfl := Option.some.inj h
  exact v_iret (dq D_X3_nextOf 19 rfl) rfl ⟨rfl, rfl⟩
theorem m_X3_nextOf {sa : Env3} {a0 : Nat} {a1 : Int32} {σ : St} {r : Int32 × St} (h : f_X3_nextOf a0 a1 σ = some r) : Ex sa yX3_nextOf cX3_nextOf K_X3_nextOf [.ref a0, .int a1] σ (pO r) := Ex.of (by decide) rfl (fun q => nomatch q) (Nat.le_of_ble_eq_true rfl) (w_X3_nextOf_0 (itg h).2)
theorem w_X5_guessBehind_31 {sa : Env3} {s0 : Int32} {σ : St} {r : Int32 × St} (h : f_X5_guessBehind_31 s0 σ = some r) : VV sa cX5_guessBehind K_X5_guessBehind 31 [] [.int s0] σ (pO r) 0 0 := by
  unfold f_X5_guessBehind_31 at h
  obtain rfl := Option.some.inj h
  exact v_iret (dq D_X5_guessBehind 19 rfl) rfl ⟨rfl, rfl⟩
theorem w_X5_guessBehind_28 {sa : Env3} {a1 : Int32} {σ : St} {r : Int32 × St} (h : f_X5_guessBehind_28 a1 σ = some r) : VV sa cX5_guessBehind K_X5_guessBehind 28 [(1, .int a1)] [] σ (pO r) 0 0 := by
  unfold f_X5_guessBehind_28 at h
  refine v_iload_n (dq D_X5_guessBehind 16 rfl) 0 rfl ?_
  refine v_iconst (dq D_X5_guessBehind 17 rfl) kc_1 ?_
  refine v_iadd (dq D_X5_guessBehind 18 rfl) ?_
  exact v_sub [] rfl (w_X5_guessBehind_31 h)
theorem w_X5_guessBehind_0 {sa : Env3} {a0 : Nat} {a1 : Int32} {σ : St} {r : Int32 × St} (h : f_X5_guessBehind_0 a0 a1 σ = some r) : VV sa cX5_guessBehind K_X5_guessBehind 0 [(0, .ref a0), (1, .int a1)] [] σ (pO r) 0 0 := by
  unfold f_X5_guessBehind_0 at h
  refine v_aload_n (dq D_X5_guessBehind 0 rfl) 0 rfl ?_
  obtain ⟨x1, hx1, h⟩ := obi h
  refine v_gR (dq D_X5_guessBehind 1 rfl) fa_RX5_9 hx1 ?_
  refine v_iload_n (dq D_X5_guessBehind 2 rfl) 1 rfl ?_
  obtain ⟨x2, hx2, h⟩ := obi h
  refine v_iald (dq D_X5_guessBehind 3 rfl) hx2 ?_
  refine v_iconst (dq D_X5_guessBehind 4 rfl) kc_5 ?_
  refine v_icmp_ne (dq D_X5_guessBehind 5 rfl) rfl (fun c3 => ?_) (fun c3 => ?_)
  · have h := itn h c3
    exact v_sub [1] rfl (w_X5_guessBehind_28 h)
  · have h := itp h c3
    refine v_aload_n (dq D_X5_guessBehind 6 rfl) 0 rfl ?_
    obtain ⟨x4, hx4, h⟩ := obi h
    refine v_gR (dq D_X5_guessBehind 7 rfl) fa_RX5_27 hx4 ?_
    refine v_iload_n (dq D_X5_guessBehind 8 rfl) 1 rfl ?_
    obtain ⟨x5, hx5, h⟩ := obi h
    refine v_zald (dq D_X5_guessBehind 9 rfl) hx5 ?_
    refine v_if_eq (dq D_X5_guessBehind 10 rfl) rfl (fun c6 => ?_) (fun c6 => ?_)
    · have h := itp h c6
      exact v_sub [1] rfl (w_X5_guessBehind_28 h)
    · have h := itn h c6
      refine v_aload_n (dq D_X5_guessBehind 11 rfl) 0 rfl ?_
      obtain ⟨x7, hx7, h⟩ := obi h
      refine v_gR (dq D_X5_guessBehind 12 rfl) fa_RX5_24 hx7 ?_
      refine v_iload_n (dq D_X5_guessBehind 13 rfl) 1 rfl ?_
      obtain ⟨x8, hx8, h⟩ := obi h
      refine v_iald (dq D_X5_guessBehind 14 rfl) hx8 ?_
      refine v_goto (dq D_X5_guessBehind 15 rfl) rfl ?_
      exact v_sub [] rfl (w_X5_guessBehind_31 h)
theorem m_X5_guessBehind {sa : Env3} {a0 : Nat} {a1 : Int32} {σ : St} {r : Int32 × St} (h : f_X5_guessBehind a0 a1 σ = some r) : Ex sa yX5_guessBehind cX5_guessBehind K_X5_guessBehind [.ref a0, .int a1] σ (pO r) := Ex.of (by decide) rfl (fun q => nomatch q) (Nat.le_of_ble_eq_true rfl) (w_X5_guessBehind_0 (itg h).2)
theorem w_X3_misguessed_26 {sa : Env3} {s0 : Int32} {σ : St} {r : Int32 × St} (h : f_X3_misguessed_26 s0 σ = some r) : VV sa cX3_misguessed K_X3_misguessed 26 [] [.int s0] σ (pO r) 0 0 := by
  unfold f_X3_misguessed_26 at h
  have hz := (itg h).1
  have h := (itg h).2
  obtain rfl := Option.some.inj h
  exact v_zret (dq D_X3_misguessed 14 rfl) rfl (z_nar hz) ⟨rfl, rfl⟩
theorem w_X3_misguessed_0 {sa : Env3} {a0 : Nat} {a1 : Int32} {σ : St} {r : Int32 × St} (h : f_X3_misguessed_0 a0 a1 σ = some r) : VV sa cX3_misguessed K_X3_misguessed 0 [(0, .ref a0), (1, .int a1)] [] σ (pO r) 0 0 := by
  unfold f_X3_misguessed_0 at h
  refine v_aload_n (dq D_X3_misguessed 0 rfl) 0 rfl ?_
  refine v_iload_n (dq D_X3_misguessed 1 rfl) 1 rfl ?_
  obtain ⟨q1, hq1, h⟩ := obi h
  refine v_cVi (bc := 0) (bs := 0) (As := [.int a1]) (dq D_X3_misguessed 2 rfl) cv_X3_nextOf ml_RX3_184 (itg hq1).1 (m_X3_nextOf hq1) rfl rfl (Nat.le_of_ble_eq_true rfl) ⟨Nat.le_of_ble_eq_true rfl, Nat.le_of_ble_eq_true rfl⟩ ⟨Nat.le_of_ble_eq_true rfl, Nat.le_of_ble_eq_true rfl⟩ ?_
  refine v_aload_n (dq D_X3_misguessed 3 rfl) 0 rfl ?_
  obtain ⟨x2, hx2, h⟩ := obi h
  refine v_gR (dq D_X3_misguessed 4 rfl) fa_RX3_30 hx2 ?_
  refine v_aload_n (dq D_X3_misguessed 5 rfl) 0 rfl ?_
  obtain ⟨x3, hx3, h⟩ := obi h
  refine v_gR (dq D_X3_misguessed 6 rfl) fa_RX3_18 hx3 ?_
  refine v_iload_n (dq D_X3_misguessed 7 rfl) 1 rfl ?_
  obtain ⟨x4, hx4, h⟩ := obi h
  refine v_iald (dq D_X3_misguessed 8 rfl) hx4 ?_
  obtain ⟨q5, hq5, h⟩ := obi h
  refine v_cVi (bc := 0) (bs := 0) (As := [.int x4]) (dq D_X3_misguessed 9 rfl) cv_X5_guessBehind ml_RX3_166 (itg hq5).1 (m_X5_guessBehind hq5) rfl rfl (Nat.le_of_ble_eq_true rfl) ⟨Nat.le_of_ble_eq_true rfl, Nat.le_of_ble_eq_true rfl⟩ ⟨Nat.le_of_ble_eq_true rfl, Nat.le_of_ble_eq_true rfl⟩ ?_
  refine v_icmp_eq (dq D_X3_misguessed 10 rfl) rfl (fun c6 => ?_) (fun c6 => ?_)
  · have h := itp h c6
    refine v_iconst (dq D_X3_misguessed 13 rfl) kc_0 ?_
    exact v_sub [] rfl (w_X3_misguessed_26 h)
  · have h := itn h c6
    refine v_iconst (dq D_X3_misguessed 11 rfl) kc_1 ?_
    refine v_goto (dq D_X3_misguessed 12 rfl) rfl ?_
    exact v_sub [] rfl (w_X3_misguessed_26 h)
theorem m_X3_misguessed {sa : Env3} {a0 : Nat} {a1 : Int32} {σ : St} {r : Int32 × St} (h : f_X3_misguessed a0 a1 σ = some r) : Ex sa yX3_misguessed cX3_misguessed K_X3_misguessed [.ref a0, .int a1] σ (pO r) := Ex.of (by decide) rfl (fun q => nomatch q) (Nat.le_of_ble_eq_true rfl) (w_X3_misguessed_0 (itg h).2)
theorem w_X3_workSkip_0 {sa : Env3} {a0 : Nat} {a1 : Int32} {σ : St} {r : Int32 × St} (h : f_X3_workSkip_0 a0 a1 σ = some r) : VV sa cX3_workSkip K_X3_workSkip 0 [(0, .ref a0), (1, .int a1)] [] σ (pO r) 0 0 := by
  unfold f_X3_workSkip_0 at h
  refine v_aload_n (dq D_X3_workSkip 0 rfl) 0 rfl ?_
  refine v_dup (dq D_X3_workSkip 1 rfl) rfl ?_
  obtain ⟨x1, hx1, h⟩ := obi h
  refine v_gI (dq D_X3_workSkip 2 rfl) fa_RX3_88 hx1 ?_
  refine v_iconst (dq D_X3_workSkip 3 rfl) kc_1 ?_
  refine v_iload_n (dq D_X3_workSkip 4 rfl) 1 rfl ?_
  refine v_ishl (dq D_X3_workSkip 5 rfl) ?_
  refine v_iconst (dq D_X3_workSkip 6 rfl) kc_m1 ?_
  refine v_ixor (dq D_X3_workSkip 7 rfl) ?_
  refine v_iand (dq D_X3_workSkip 8 rfl) ?_
  obtain ⟨σ2, hσ2, h⟩ := obi h
  refine v_pI (dq D_X3_workSkip 9 rfl) fp_RX3_88 hσ2 ?_
  refine v_aload_n (dq D_X3_workSkip 10 rfl) 0 rfl ?_
  refine v_iload_n (dq D_X3_workSkip 11 rfl) 1 rfl ?_
  obtain ⟨q3, hq3, h⟩ := obi h
  refine v_cVi (bc := 0) (bs := 0) (As := [.int a1]) (dq D_X3_workSkip 12 rfl) cv_X3_nextOf ml_RX3_184 (itg hq3).1 (m_X3_nextOf hq3) rfl rfl (Nat.le_of_ble_eq_true rfl) ⟨Nat.le_of_ble_eq_true rfl, Nat.le_of_ble_eq_true rfl⟩ ⟨Nat.le_of_ble_eq_true rfl, Nat.le_of_ble_eq_true rfl⟩ ?_
  refine v_istore_n (dq D_X3_workSkip 13 rfl) [(2, .int q3.1), (0, .ref a0), (1, .int a1)] rfl (Nat.le_of_ble_eq_true rfl) rfl ?_
  refine v_iload_n (dq D_X3_workSkip 14 rfl) 0 rfl ?_
  refine v_aload_n (dq D_X3_workSkip 15 rfl) 1 rfl ?_
  obtain ⟨x4, hx4, h⟩ := obi h
  refine v_gR (dq D_X3_workSkip 16 rfl) fa_RX3_30 hx4 ?_
  refine v_aload_n (dq D_X3_workSkip 17 rfl) 1 rfl ?_
  obtain ⟨x5, hx5, h⟩ := obi h
  refine v_gR (dq D_X3_workSkip 18 rfl) fa_RX3_18 hx5 ?_
  refine v_iload_n (dq D_X3_workSkip 19 rfl) 2 rfl ?_
  obtain ⟨x6, hx6, h⟩ := obi h
  refine v_iald (dq D_X3_workSkip 20 rfl) hx6 ?_
  obtain ⟨q7, hq7, h⟩ := obi h
  refine v_cVi (bc := 0) (bs := 0) (As := [.int x6]) (dq D_X3_workSkip 21 rfl) cv_X5_guessBehind ml_RX3_166 (itg hq7).1 (m_X5_guessBehind hq7) rfl rfl (Nat.le_of_ble_eq_true rfl) ⟨Nat.le_of_ble_eq_true rfl, Nat.le_of_ble_eq_true rfl⟩ ⟨Nat.le_of_ble_eq_true rfl, Nat.le_of_ble_eq_true rfl⟩ ?_
  refine v_icmp_ne (dq D_X3_workSkip 22 rfl) rfl (fun c8 => ?_) (fun c8 => ?_)
  · have h := itn h c8
    refine v_aload_n (dq D_X3_workSkip 25 rfl) 1 rfl ?_
    obtain ⟨x9, hx9, h⟩ := obi h
    refine v_gI (dq D_X3_workSkip 26 rfl) fa_RX3_73 hx9 ?_
    refine v_iload_n (dq D_X3_workSkip 27 rfl) 2 rfl ?_
    refine v_isub (dq D_X3_workSkip 28 rfl) ?_
    refine v_iconst (dq D_X3_workSkip 29 rfl) kc_1 ?_
    refine v_isub (dq D_X3_workSkip 30 rfl) ?_
    obtain ⟨x10, ex10, h⟩ := bnd_inv h
    refine v_top (congrArg Value.int ex10) ?_
    refine v_istore_n (dq D_X3_workSkip 31 rfl) [(3, .int x10), (2, .int q3.1), (0, .ref a0), (1, .int a1)] rfl (Nat.le_of_ble_eq_true rfl) rfl ?_
    refine v_aload_n (dq D_X3_workSkip 32 rfl) 2 rfl ?_
    refine v_iload_n (dq D_X3_workSkip 33 rfl) 1 rfl ?_
    obtain ⟨σ11, hσ11, h⟩ := obi h
    refine v_pI (dq D_X3_workSkip 34 rfl) fp_RX3_54 hσ11 ?_
    refine v_aload_n (dq D_X3_workSkip 35 rfl) 2 rfl ?_
    refine v_iload_n (dq D_X3_workSkip 36 rfl) 3 rfl ?_
    refine v_iconst (dq D_X3_workSkip 37 rfl) kc_1 ?_
    refine v_iadd (dq D_X3_workSkip 38 rfl) ?_
    obtain ⟨σ12, hσ12, h⟩ := obi h
    refine v_cVv (bc := 0) (bs := 0) (As := [.int (a1 + 1)]) (dq D_X3_workSkip 39 rfl) cv_X3_keepOldest ml_RX3_50 (itg hσ12).1 (m_X3_keepOldest hσ12) rfl rfl (Nat.le_of_ble_eq_true rfl) ⟨Nat.le_of_ble_eq_true rfl, Nat.le_of_ble_eq_true rfl⟩ ⟨Nat.le_of_ble_eq_true rfl, Nat.le_of_ble_eq_true rfl⟩ ?_
    refine v_iload_n (dq D_X3_workSkip 40 rfl) 0 rfl ?_
    obtain rfl := Option.some.inj h
    exact v_iret (dq D_X3_workSkip 41 rfl) rfl ⟨rfl, rfl⟩
  · have h := itp h c8
    refine v_iconst (dq D_X3_workSkip 23 rfl) kc_0 ?_
    obtain rfl := Option.some.inj h
    exact v_iret (dq D_X3_workSkip 24 rfl) rfl ⟨rfl, rfl⟩
theorem m_X3_workSkip {sa : Env3} {a0 : Nat} {a1 : Int32} {σ : St} {r : Int32 × St} (h : f_X3_workSkip a0 a1 σ = some r) : Ex sa yX3_workSkip cX3_workSkip K_X3_workSkip [.ref a0, .int a1] σ (pO r) := Ex.of (by decide) rfl (fun q => nomatch q) (Nat.le_of_ble_eq_true rfl) (w_X3_workSkip_0 (itg h).2)
theorem w_X5_outcome_74 {sa : Env3} {s0 : Int32} {σ : St} {r : Int32 × St} (h : f_X5_outcome_74 s0 σ = some r) : VV sa cX5_outcome K_X5_outcome 74 [] [.int s0] σ (pO r) 0 0 := by
  unfold f_X5_outcome_74 at h
  obtain rfl := Option.some.inj h
  exact v_iret (dq D_X5_outcome 31 rfl) rfl ⟨rfl, rfl⟩
theorem w_X5_outcome_0 {sa : Env3} {a0 : Nat} {a1 : Int32} {a2 : Int32} {a3 : Int32} {σ : St} {r : Int32 × St} (h : f_X5_outcome_0 a0 a1 a2 a3 σ = some r) : VV sa cX5_outcome K_X5_outcome 0 [(0, .ref a0), (1, .int a1), (2, .int a2), (3, .int a3)] [] σ (pO r) 0 0 := by
  unfold f_X5_outcome_0 at h
  refine v_aload_n (dq D_X5_outcome 0 rfl) 0 rfl ?_
  obtain ⟨x1, hx1, h⟩ := obi h
  refine v_gR (dq D_X5_outcome 1 rfl) fa_RX5_9 hx1 ?_
  refine v_iload_n (dq D_X5_outcome 2 rfl) 1 rfl ?_
  obtain ⟨x2, hx2, h⟩ := obi h
  refine v_iald (dq D_X5_outcome 3 rfl) hx2 ?_
  by_cases c3 : x2 = 0
  · have h := itp h c3
    refine v_tblAt (v := 0) (dq D_X5_outcome 4 rfl) c3 (by decide) (by decide) rfl rfl ?_
    refine v_aload_n (dq D_X5_outcome 5 rfl) 0 rfl ?_
    obtain ⟨x7, hx7, h⟩ := obi h
    refine v_gR (dq D_X5_outcome 6 rfl) fa_RX5_24 hx7 ?_
    refine v_iload_n (dq D_X5_outcome 7 rfl) 1 rfl ?_
    obtain ⟨x8, hx8, h⟩ := obi h
    refine v_iald (dq D_X5_outcome 8 rfl) hx8 ?_
    obtain rfl := Option.some.inj h
    exact v_iret (dq D_X5_outcome 9 rfl) rfl ⟨rfl, rfl⟩
  · have h := itn h c3
    by_cases c4 : x2 = 1
    · have h := itp h c4
      refine v_tblAt (v := 1) (dq D_X5_outcome 4 rfl) c4 (by decide) (by decide) rfl rfl ?_
      refine v_iload_n (dq D_X5_outcome 10 rfl) 2 rfl ?_
      refine v_iload_n (dq D_X5_outcome 11 rfl) 3 rfl ?_
      refine v_iadd (dq D_X5_outcome 12 rfl) ?_
      refine v_sipush (dq D_X5_outcome 13 rfl) ks_10000 ?_
      refine v_irem (dq D_X5_outcome 14 rfl) (by decide) ?_
      obtain rfl := Option.some.inj h
      exact v_iret (dq D_X5_outcome 15 rfl) rfl ⟨rfl, rfl⟩
    · have h := itn h c4
      by_cases c5 : x2 = 2
      · have h := itp h c5
        refine v_tblAt (v := 2) (dq D_X5_outcome 4 rfl) c5 (by decide) (by decide) rfl rfl ?_
        refine v_iload_n (dq D_X5_outcome 16 rfl) 2 rfl ?_
        refine v_iload_n (dq D_X5_outcome 17 rfl) 3 rfl ?_
        refine v_isub (dq D_X5_outcome 18 rfl) ?_
        refine v_sipush (dq D_X5_outcome 19 rfl) ks_10000 ?_
        refine v_iadd (dq D_X5_outcome 20 rfl) ?_
        refine v_sipush (dq D_X5_outcome 21 rfl) ks_10000 ?_
        refine v_irem (dq D_X5_outcome 22 rfl) (by decide) ?_
        obtain rfl := Option.some.inj h
        exact v_iret (dq D_X5_outcome 23 rfl) rfl ⟨rfl, rfl⟩
      · have h := itn h c5
        by_cases c6 : x2 = 3
        · have h := itp h c6
          refine v_tblAt (v := 3) (dq D_X5_outcome 4 rfl) c6 (by decide) (by decide) rfl rfl ?_
          refine v_iload_n (dq D_X5_outcome 24 rfl) 3 rfl ?_
          refine v_if_ne (dq D_X5_outcome 25 rfl) rfl (fun c9 => ?_) (fun c9 => ?_)
          · have h := itn h c9
            refine v_iload_n (dq D_X5_outcome 28 rfl) 2 rfl ?_
            refine v_iload_n (dq D_X5_outcome 29 rfl) 3 rfl ?_
            have c10 := (itx h).1
            have h := (itx h).2
            refine v_idiv (dq D_X5_outcome 30 rfl) c10 ?_
            exact v_sub [] rfl (w_X5_outcome_74 h)
          · have h := itp h c9
            refine v_iconst (dq D_X5_outcome 26 rfl) kc_m1 ?_
            refine v_goto (dq D_X5_outcome 27 rfl) rfl ?_
            exact v_sub [] rfl (w_X5_outcome_74 h)
        · have h := itn h c6
          refine v_tblOut (dq D_X5_outcome 4 rfl) (by have g0 : (x2).toInt ≠ 0 := i32_ne c3; have g1 : (x2).toInt ≠ 1 := i32_ne c4; have g2 : (x2).toInt ≠ 2 := i32_ne c5; have g3 : (x2).toInt ≠ 3 := i32_ne c6; omega) rfl ?_
          refine v_iload_n (dq D_X5_outcome 32 rfl) 2 rfl ?_
          obtain rfl := Option.some.inj h
          exact v_iret (dq D_X5_outcome 33 rfl) rfl ⟨rfl, rfl⟩
theorem m_X5_outcome {sa : Env3} {a0 : Nat} {a1 : Int32} {a2 : Int32} {a3 : Int32} {σ : St} {r : Int32 × St} (h : f_X5_outcome a0 a1 a2 a3 σ = some r) : Ex sa yX5_outcome cX5_outcome K_X5_outcome [.ref a0, .int a1, .int a2, .int a3] σ (pO r) := Ex.of (by decide) rfl (fun q => nomatch q) (Nat.le_of_ble_eq_true rfl) (w_X5_outcome_0 (itg h).2)
theorem w_X3_work_120 {sa : Env3}  {σ : St} {r : Int32 × St} (h : f_X3_work_120  σ = some r) : VV sa cX3_work K_X3_work 120 [] [] σ (pO r) 0 0 := by
  unfold f_X3_work_120 at h
  refine v_iconst (dq D_X3_work 72 rfl) kc_0 ?_
  obtain rfl := Option.some.inj h
  exact v_iret (dq D_X3_work 73 rfl) rfl ⟨rfl, rfl⟩
theorem w_X3_work_0 {sa : Env3} {a0 : Nat} {a1 : Int32} {σ : St} {r : Int32 × St} (h : f_X3_work_0 a0 a1 σ = some r) : VV sa cX3_work K_X3_work 0 [(0, .ref a0), (1, .int a1)] [] σ (pO r) 0 0 := by
  unfold f_X3_work_0 at h
  refine v_aload_n (dq D_X3_work 0 rfl) 0 rfl ?_
  refine v_dup (dq D_X3_work 1 rfl) rfl ?_
  obtain ⟨x1, hx1, h⟩ := obi h
  refine v_gI (dq D_X3_work 2 rfl) fa_RX3_79 hx1 ?_
  refine v_iconst (dq D_X3_work 3 rfl) kc_1 ?_
  refine v_iload_n (dq D_X3_work 4 rfl) 1 rfl ?_
  refine v_ishl (dq D_X3_work 5 rfl) ?_
  refine v_ior (dq D_X3_work 6 rfl) ?_
  obtain ⟨σ2, hσ2, h⟩ := obi h
  refine v_pI (dq D_X3_work 7 rfl) fp_RX3_79 hσ2 ?_
  refine v_aload_n (dq D_X3_work 8 rfl) 0 rfl ?_
  obtain ⟨x3, hx3, h⟩ := obi h
  refine v_gR (dq D_X3_work 9 rfl) fa_RX3_30 hx3 ?_
  obtain ⟨x4, hx4, h⟩ := obi h
  refine v_gR (dq D_X3_work 10 rfl) fa_RX3_128 hx4 ?_
  refine v_aload_n (dq D_X3_work 11 rfl) 0 rfl ?_
  obtain ⟨x5, hx5, h⟩ := obi h
  refine v_gR (dq D_X3_work 12 rfl) fa_RX3_18 hx5 ?_
  refine v_iload_n (dq D_X3_work 13 rfl) 1 rfl ?_
  obtain ⟨x6, hx6, h⟩ := obi h
  refine v_iald (dq D_X3_work 14 rfl) hx6 ?_
  obtain ⟨x7, hx7, h⟩ := obi h
  refine v_iald (dq D_X3_work 15 rfl) hx7 ?_
  refine v_iconst (dq D_X3_work 16 rfl) kc_5 ?_
  refine v_icmp_ne (dq D_X3_work 17 rfl) rfl (fun c8 => ?_) (fun c8 => ?_)
  · have h := itn h c8
    refine v_aload_n (dq D_X3_work 22 rfl) 0 rfl ?_
    obtain ⟨x9, hx9, h⟩ := obi h
    refine v_gR (dq D_X3_work 23 rfl) fa_RX3_30 hx9 ?_
    refine v_aload_n (dq D_X3_work 24 rfl) 0 rfl ?_
    obtain ⟨x10, hx10, h⟩ := obi h
    refine v_gR (dq D_X3_work 25 rfl) fa_RX3_18 hx10 ?_
    refine v_iload_n (dq D_X3_work 26 rfl) 1 rfl ?_
    obtain ⟨x11, hx11, h⟩ := obi h
    refine v_iald (dq D_X3_work 27 rfl) hx11 ?_
    refine v_aload_n (dq D_X3_work 28 rfl) 0 rfl ?_
    refine v_aload_n (dq D_X3_work 29 rfl) 0 rfl ?_
    obtain ⟨x12, hx12, h⟩ := obi h
    refine v_gR (dq D_X3_work 30 rfl) fa_RX3_24 hx12 ?_
    refine v_iload_n (dq D_X3_work 31 rfl) 1 rfl ?_
    obtain ⟨x13, hx13, h⟩ := obi h
    refine v_iald (dq D_X3_work 32 rfl) hx13 ?_
    obtain ⟨q14, hq14, h⟩ := obi h
    refine v_cVi (bc := 0) (bs := 0) (As := [.int x13]) (dq D_X3_work 33 rfl) cv_X3_valueRead ml_RX3_187 (itg hq14).1 (m_X3_valueRead hq14) rfl rfl (Nat.le_of_ble_eq_true rfl) ⟨Nat.le_of_ble_eq_true rfl, Nat.le_of_ble_eq_true rfl⟩ ⟨Nat.le_of_ble_eq_true rfl, Nat.le_of_ble_eq_true rfl⟩ ?_
    refine v_aload_n (dq D_X3_work 34 rfl) 0 rfl ?_
    refine v_aload_n (dq D_X3_work 35 rfl) 0 rfl ?_
    obtain ⟨x15, hx15, h⟩ := obi h
    refine v_gR (dq D_X3_work 36 rfl) fa_RX3_27 hx15 ?_
    refine v_iload_n (dq D_X3_work 37 rfl) 1 rfl ?_
    obtain ⟨x16, hx16, h⟩ := obi h
    refine v_iald (dq D_X3_work 38 rfl) hx16 ?_
    obtain ⟨q17, hq17, h⟩ := obi h
    refine v_cVi (bc := 0) (bs := 0) (As := [.int x16]) (dq D_X3_work 39 rfl) cv_X3_valueRead ml_RX3_187 (itg hq17).1 (m_X3_valueRead hq17) rfl rfl (Nat.le_of_ble_eq_true rfl) ⟨Nat.le_of_ble_eq_true rfl, Nat.le_of_ble_eq_true rfl⟩ ⟨Nat.le_of_ble_eq_true rfl, Nat.le_of_ble_eq_true rfl⟩ ?_
    obtain ⟨q18, hq18, h⟩ := obi h
    refine v_cVi (bc := 0) (bs := 0) (As := [.int x11, .int q14.1, .int q17.1]) (dq D_X3_work 40 rfl) cv_X5_outcome ml_RX3_197 (itg hq18).1 (m_X5_outcome hq18) rfl rfl (Nat.le_of_ble_eq_true rfl) ⟨Nat.le_of_ble_eq_true rfl, Nat.le_of_ble_eq_true rfl⟩ ⟨Nat.le_of_ble_eq_true rfl, Nat.le_of_ble_eq_true rfl⟩ ?_
    refine v_istore_n (dq D_X3_work 41 rfl) [(2, .int q18.1), (0, .ref a0), (1, .int a1)] rfl (Nat.le_of_ble_eq_true rfl) rfl ?_
    refine v_iload_n (dq D_X3_work 42 rfl) 0 rfl ?_
    refine v_iconst (dq D_X3_work 43 rfl) kc_m1 ?_
    refine v_icmp_ne (dq D_X3_work 44 rfl) rfl (fun c19 => ?_) (fun c19 => ?_)
    · have h := itn h c19
      refine v_aload_n (dq D_X3_work 54 rfl) 1 rfl ?_
      obtain ⟨x20, hx20, h⟩ := obi h
      refine v_gR (dq D_X3_work 55 rfl) fa_RX3_9 hx20 ?_
      refine v_aload_n (dq D_X3_work 56 rfl) 1 rfl ?_
      obtain ⟨x21, hx21, h⟩ := obi h
      refine v_gR (dq D_X3_work 57 rfl) fa_RX3_21 hx21 ?_
      refine v_iload_n (dq D_X3_work 58 rfl) 2 rfl ?_
      obtain ⟨x22, hx22, h⟩ := obi h
      refine v_iald (dq D_X3_work 59 rfl) hx22 ?_
      refine v_iload_n (dq D_X3_work 60 rfl) 0 rfl ?_
      obtain ⟨σ23, hσ23, h⟩ := obi h
      refine v_iast (dq D_X3_work 61 rfl) hσ23 ?_
      refine v_aload_n (dq D_X3_work 62 rfl) 1 rfl ?_
      refine v_dup (dq D_X3_work 63 rfl) rfl ?_
      obtain ⟨x24, hx24, h⟩ := obi h
      refine v_gI (dq D_X3_work 64 rfl) fa_RX3_44 hx24 ?_
      refine v_aload_n (dq D_X3_work 65 rfl) 1 rfl ?_
      obtain ⟨x25, hx25, h⟩ := obi h
      refine v_gR (dq D_X3_work 66 rfl) fa_RX3_21 hx25 ?_
      refine v_iload_n (dq D_X3_work 67 rfl) 2 rfl ?_
      obtain ⟨x26, hx26, h⟩ := obi h
      refine v_iald (dq D_X3_work 68 rfl) hx26 ?_
      obtain ⟨q27, hq27, h⟩ := obi h
      refine v_cSi (bc := 0) (bs := 0) (As := [.int x26]) (dq D_X3_work 69 rfl) cs_X3_bitOf ml_RX3_109 (m_X3_bitOf hq27) rfl rfl (Nat.le_of_ble_eq_true rfl) ⟨Nat.le_of_ble_eq_true rfl, Nat.le_of_ble_eq_true rfl⟩ ⟨Nat.le_of_ble_eq_true rfl, Nat.le_of_ble_eq_true rfl⟩ ?_
      refine v_ior (dq D_X3_work 70 rfl) ?_
      obtain ⟨σ28, hσ28, h⟩ := obi h
      refine v_pI (dq D_X3_work 71 rfl) fp_RX3_44 hσ28 ?_
      exact v_sub [] rfl (w_X3_work_120 h)
    · have h := itp h c19
      refine v_aload_n (dq D_X3_work 45 rfl) 1 rfl ?_
      refine v_dup (dq D_X3_work 46 rfl) rfl ?_
      obtain ⟨x29, hx29, h⟩ := obi h
      refine v_gI (dq D_X3_work 47 rfl) fa_RX3_82 hx29 ?_
      refine v_iconst (dq D_X3_work 48 rfl) kc_1 ?_
      refine v_iload_n (dq D_X3_work 49 rfl) 2 rfl ?_
      refine v_ishl (dq D_X3_work 50 rfl) ?_
      refine v_ior (dq D_X3_work 51 rfl) ?_
      obtain ⟨σ30, hσ30, h⟩ := obi h
      refine v_pI (dq D_X3_work 52 rfl) fp_RX3_82 hσ30 ?_
      refine v_goto (dq D_X3_work 53 rfl) rfl ?_
      exact v_sub [] rfl (w_X3_work_120 h)
  · have h := itp h c8
    refine v_aload_n (dq D_X3_work 18 rfl) 0 rfl ?_
    refine v_iload_n (dq D_X3_work 19 rfl) 1 rfl ?_
    obtain ⟨q31, hq31, h⟩ := obi h
    refine v_cVi (bc := 0) (bs := 0) (As := [.int a1]) (dq D_X3_work 20 rfl) cv_X3_workSkip ml_RX3_194 (itg hq31).1 (m_X3_workSkip hq31) rfl rfl (Nat.le_of_ble_eq_true rfl) ⟨Nat.le_of_ble_eq_true rfl, Nat.le_of_ble_eq_true rfl⟩ ⟨Nat.le_of_ble_eq_true rfl, Nat.le_of_ble_eq_true rfl⟩ ?_
    obtain rfl := Option.some.inj h
    exact v_iret (dq D_X3_work 21 rfl) rfl ⟨rfl, rfl⟩
theorem m_X3_work {sa : Env3} {a0 : Nat} {a1 : Int32} {σ : St} {r : Int32 × St} (h : f_X3_work a0 a1 σ = some r) : Ex sa yX3_work cX3_work K_X3_work [.ref a0, .int a1] σ (pO r) := Ex.of (by decide) rfl (fun q => nomatch q) (Nat.le_of_ble_eq_true rfl) (w_X3_work_0 (itg h).2)
theorem w_X5_has_17 {sa : Env3} {s0 : Int32} {σ : St} {r : Int32 × St} (h : f_X5_has_17 s0 σ = some r) : VV sa cX5_has K_X5_has 17 [] [.int s0] σ (pO r) 0 0 := by
  unfold f_X5_has_17 at h
  have hz := (itg h).1
  have h := (itg h).2
  obtain rfl := Option.some.inj h
  exact v_zret (dq D_X5_has 9 rfl) rfl (z_nar hz) ⟨rfl, rfl⟩
theorem w_X5_has_16 {sa : Env3}  {σ : St} {r : Int32 × St} (h : f_X5_has_16  σ = some r) : VV sa cX5_has K_X5_has 16 [] [] σ (pO r) 0 0 := by
  unfold f_X5_has_16 at h
  refine v_iconst (dq D_X5_has 8 rfl) kc_0 ?_
  exact w_X5_has_17 h
theorem w_X5_has_0 {sa : Env3} {a0 : Nat} {a1 : Int32} {σ : St} {r : Int32 × St} (h : f_X5_has_0 a0 a1 σ = some r) : VV sa cX5_has K_X5_has 0 [(0, .ref a0), (1, .int a1)] [] σ (pO r) 0 0 := by
  unfold f_X5_has_0 at h
  refine v_iload_n (dq D_X5_has 0 rfl) 1 rfl ?_
  refine v_if_lt (dq D_X5_has 1 rfl) rfl (fun c1 => ?_) (fun c1 => ?_)
  · have h := itp h c1
    exact v_sub [] rfl (w_X5_has_16 h)
  · have h := itn h c1
    refine v_iload_n (dq D_X5_has 2 rfl) 1 rfl ?_
    refine v_aload_n (dq D_X5_has 3 rfl) 0 rfl ?_
    obtain ⟨x2, hx2, h⟩ := obi h
    refine v_gI (dq D_X5_has 4 rfl) fa_RX5_43 hx2 ?_
    refine v_icmp_ge (dq D_X5_has 5 rfl) rfl (fun c3 => ?_) (fun c3 => ?_)
    · have h := itp h c3
      exact v_sub [] rfl (w_X5_has_16 h)
    · have h := itn h c3
      refine v_iconst (dq D_X5_has 6 rfl) kc_1 ?_
      refine v_goto (dq D_X5_has 7 rfl) rfl ?_
      exact v_sub [] rfl (w_X5_has_17 h)
theorem m_X5_has {sa : Env3} {a0 : Nat} {a1 : Int32} {σ : St} {r : Int32 × St} (h : f_X5_has a0 a1 σ = some r) : Ex sa yX5_has cX5_has K_X5_has [.ref a0, .int a1] σ (pO r) := Ex.of (by decide) rfl (fun q => nomatch q) (Nat.le_of_ble_eq_true rfl) (w_X5_has_0 (itg h).2)
theorem w_X3_mapBy_4 {sa : Env3} : ∀ (n : Nat) {a0 : Nat} {a2 : Int32} {a3 : Int32} {σ : St} {r : Int32 × St}, f_X3_mapBy_4 n a0 a2 a3 σ = some r → VV sa cX3_mapBy K_X3_mapBy 4 [(0, .ref a0), (2, .int a2), (3, .int a3)] [] σ (pO r) 0 0 := by
  intro n
  induction n with
  | zero => intro a0 a2 a3 σ r h; cases h
  | succ n ih =>
    intro a0 a2 a3 σ r h
    rw [e_X3_mapBy_4] at h
    refine v_iload_n (dq D_X3_mapBy 4 rfl) 2 rfl ?_
    refine v_if_lt (dq D_X3_mapBy 5 rfl) rfl (fun c1 => ?_) (fun c1 => ?_)
    · have h := itp h c1
      refine v_aload_n (dq D_X3_mapBy 23 rfl) 0 rfl ?_
      obtain ⟨x2, hx2, h⟩ := obi h
      refine v_gR (dq D_X3_mapBy 24 rfl) fa_RX3_15 hx2 ?_
      refine v_iload_n (dq D_X3_mapBy 25 rfl) 1 rfl ?_
      obtain ⟨x3, hx3, h⟩ := obi h
      refine v_iald (dq D_X3_mapBy 26 rfl) hx3 ?_
      obtain rfl := Option.some.inj h
      exact v_iret (dq D_X3_mapBy 27 rfl) rfl ⟨rfl, rfl⟩
    · have h := itn h c1
      refine v_aload_n (dq D_X3_mapBy 6 rfl) 0 rfl ?_
      obtain ⟨x4, hx4, h⟩ := obi h
      refine v_gR (dq D_X3_mapBy 7 rfl) fa_RX3_30 hx4 ?_
      obtain ⟨x5, hx5, h⟩ := obi h
      refine v_gR (dq D_X3_mapBy 8 rfl) fa_RX3_91 hx5 ?_
      refine v_aload_n (dq D_X3_mapBy 9 rfl) 0 rfl ?_
      obtain ⟨x6, hx6, h⟩ := obi h
      refine v_gR (dq D_X3_mapBy 10 rfl) fa_RX3_18 hx6 ?_
      refine v_iload_n (dq D_X3_mapBy 11 rfl) 2 rfl ?_
      obtain ⟨x7, hx7, h⟩ := obi h
      refine v_iald (dq D_X3_mapBy 12 rfl) hx7 ?_
      obtain ⟨x8, hx8, h⟩ := obi h
      refine v_iald (dq D_X3_mapBy 13 rfl) hx8 ?_
      refine v_iload_n (dq D_X3_mapBy 14 rfl) 1 rfl ?_
      refine v_icmp_ne (dq D_X3_mapBy 15 rfl) rfl (fun c9 => ?_) (fun c9 => ?_)
      · have h := itn h c9
        refine v_iinc (dq D_X3_mapBy 21 rfl) 2 [(3, .int (a3 + (-1))), (0, .ref a0), (2, .int a2)] rfl kc_m1 (Nat.le_of_ble_eq_true rfl) rfl ?_
        refine v_goto (dq D_X3_mapBy 22 rfl) rfl ?_
        exact v_sub [1, 2, 0] rfl (ih h)
      · have h := itp h c9
        refine v_aload_n (dq D_X3_mapBy 16 rfl) 0 rfl ?_
        obtain ⟨x10, hx10, h⟩ := obi h
        refine v_gR (dq D_X3_mapBy 17 rfl) fa_RX3_21 hx10 ?_
        refine v_iload_n (dq D_X3_mapBy 18 rfl) 2 rfl ?_
        obtain ⟨x11, hx11, h⟩ := obi h
        refine v_iald (dq D_X3_mapBy 19 rfl) hx11 ?_
        obtain rfl := Option.some.inj h
        exact v_iret (dq D_X3_mapBy 20 rfl) rfl ⟨rfl, rfl⟩
theorem w_X3_mapBy_0 {sa : Env3} {a0 : Nat} {a1 : Int32} {a2 : Int32} {σ : St} {r : Int32 × St} (h : f_X3_mapBy_0 a0 a1 a2 σ = some r) : VV sa cX3_mapBy K_X3_mapBy 0 [(0, .ref a0), (1, .int a1), (2, .int a2)] [] σ (pO r) 0 0 := by
  unfold f_X3_mapBy_0 at h
  refine v_iload_n (dq D_X3_mapBy 0 rfl) 1 rfl ?_
  refine v_iconst (dq D_X3_mapBy 1 rfl) kc_1 ?_
  refine v_isub (dq D_X3_mapBy 2 rfl) ?_
  obtain ⟨x1, ex1, h⟩ := bnd_inv h
  refine v_top (congrArg Value.int ex1) ?_
  refine v_istore_n (dq D_X3_mapBy 3 rfl) [(3, .int x1), (0, .ref a0), (1, .int a1), (2, .int a2)] rfl (Nat.le_of_ble_eq_true rfl) rfl ?_
  exact v_sub [1, 3, 0] rfl (w_X3_mapBy_4 _ h)
theorem m_X3_mapBy {sa : Env3} {a0 : Nat} {a1 : Int32} {a2 : Int32} {σ : St} {r : Int32 × St} (h : f_X3_mapBy a0 a1 a2 σ = some r) : Ex sa yX3_mapBy cX3_mapBy K_X3_mapBy [.ref a0, .int a1, .int a2] σ (pO r) := Ex.of (by decide) rfl (fun q => nomatch q) (Nat.le_of_ble_eq_true rfl) (w_X3_mapBy_0 (itg h).2)
theorem w_X3_sureOnes_32 {sa : Env3} {s0 : Int32} {σ : St} {r : Int32 × St} (h : f_X3_sureOnes_32 s0 σ = some r) : VV sa cX3_sureOnes K_X3_sureOnes 32 [] [.int s0] σ (pO r) 0 0 := by
  unfold f_X3_sureOnes_32 at h
  obtain rfl := Option.some.inj h
  exact v_iret (dq D_X3_sureOnes 18 rfl) rfl ⟨rfl, rfl⟩
theorem w_X3_sureOnes_0 {sa : Env3} {a0 : Nat} {σ : St} {r : Int32 × St} (h : f_X3_sureOnes_0 a0 σ = some r) : VV sa cX3_sureOnes K_X3_sureOnes 0 [(0, .ref a0)] [] σ (pO r) 0 0 := by
  unfold f_X3_sureOnes_0 at h
  refine v_aload_n (dq D_X3_sureOnes 0 rfl) 0 rfl ?_
  obtain ⟨x1, hx1, h⟩ := obi h
  refine v_gI (dq D_X3_sureOnes 1 rfl) fa_RX3_76 hx1 ?_
  refine v_aload_n (dq D_X3_sureOnes 2 rfl) 0 rfl ?_
  obtain ⟨x2, hx2, h⟩ := obi h
  refine v_gI (dq D_X3_sureOnes 3 rfl) fa_RX3_79 hx2 ?_
  refine v_iconst (dq D_X3_sureOnes 4 rfl) kc_m1 ?_
  refine v_ixor (dq D_X3_sureOnes 5 rfl) ?_
  refine v_iand (dq D_X3_sureOnes 6 rfl) ?_
  refine v_aload_n (dq D_X3_sureOnes 7 rfl) 0 rfl ?_
  obtain ⟨x3, hx3, h⟩ := obi h
  refine v_gI (dq D_X3_sureOnes 8 rfl) fa_RX3_82 hx3 ?_
  refine v_ior (dq D_X3_sureOnes 9 rfl) ?_
  obtain ⟨x4, ex4, h⟩ := bnd_inv h
  refine v_top (congrArg Value.int ex4) ?_
  refine v_istore_n (dq D_X3_sureOnes 10 rfl) [(1, .int x4), (0, .ref a0)] rfl (Nat.le_of_ble_eq_true rfl) rfl ?_
  refine v_iload_n (dq D_X3_sureOnes 11 rfl) 0 rfl ?_
  refine v_if_ne (dq D_X3_sureOnes 12 rfl) rfl (fun c5 => ?_) (fun c5 => ?_)
  · have h := itn h c5
    refine v_iload_n (dq D_X3_sureOnes 16 rfl) 0 rfl ?_
    obtain ⟨q6, hq6, h⟩ := obi h
    refine v_cSi (bc := 0) (bs := 0) (As := [.int x4]) (dq D_X3_sureOnes 17 rfl) cs_J6_numberOfTrailingZeros_0f7a4 ml_RX3_96 (m_J6_numberOfTrailingZeros_0f7a4 hq6) rfl rfl (Nat.le_of_ble_eq_true rfl) ⟨Nat.le_of_ble_eq_true rfl, Nat.le_of_ble_eq_true rfl⟩ ⟨Nat.le_of_ble_eq_true rfl, Nat.le_of_ble_eq_true rfl⟩ ?_
    exact v_sub [] rfl (w_X3_sureOnes_32 h)
  · have h := itp h c5
    refine v_aload_n (dq D_X3_sureOnes 13 rfl) 1 rfl ?_
    obtain ⟨x7, hx7, h⟩ := obi h
    refine v_gI (dq D_X3_sureOnes 14 rfl) fa_RX3_73 hx7 ?_
    refine v_goto (dq D_X3_sureOnes 15 rfl) rfl ?_
    exact v_sub [] rfl (w_X3_sureOnes_32 h)
theorem m_X3_sureOnes {sa : Env3} {a0 : Nat} {σ : St} {r : Int32 × St} (h : f_X3_sureOnes a0 σ = some r) : Ex sa yX3_sureOnes cX3_sureOnes K_X3_sureOnes [.ref a0] σ (pO r) := Ex.of (by decide) rfl (fun q => nomatch q) (Nat.le_of_ble_eq_true rfl) (w_X3_sureOnes_0 (itg h).2)
theorem w_X3_letGoBits_156 {sa : Env3} {k121 : Nat → Int32 → Int32 → Int32 → Int32 → St → Option (Int32 × St)} (hk121 : ∀ {a0 : Nat} {a3 : Int32} {a4 : Int32} {a5 : Int32} {a6 : Int32} {σ : St} {r : Int32 × St}, k121 a0 a3 a4 a5 a6 σ = some r → VV sa cX3_letGoBits K_X3_letGoBits 121 [(0, .ref a0), (3, .int a3), (4, .int a4), (5, .int a5), (6, .int a6)] [] σ (pO r) 0 0) {a0 : Nat} {a3 : Int32} {a4 : Int32} {a5 : Int32} {a6 : Int32} {σ : St} {r : Int32 × St} (h : f_X3_letGoBits_156 k121 a0 a3 a4 a5 a6 σ = some r) : VV sa cX3_letGoBits K_X3_letGoBits 156 [(0, .ref a0), (3, .int a3), (4, .int a4), (5, .int a5), (6, .int a6)] [] σ (pO r) 0 0 := by
  unfold f_X3_letGoBits_156 at h
  refine v_iinc (dq D_X3_letGoBits 84 rfl) 4 [(6, .int (a6 + 1)), (0, .ref a0), (3, .int a3), (4, .int a4), (5, .int a5)] rfl kc_1 (Nat.le_of_ble_eq_true rfl) rfl ?_
  refine v_goto (dq D_X3_letGoBits 85 rfl) rfl ?_
  exact v_sub [1, 2, 3, 4, 0] rfl (hk121 h)
theorem w_X3_letGoBits_121 {sa : Env3} : ∀ (n : Nat) {a0 : Nat} {a3 : Int32} {a4 : Int32} {a5 : Int32} {a6 : Int32} {σ : St} {r : Int32 × St}, f_X3_letGoBits_121 n a0 a3 a4 a5 a6 σ = some r → VV sa cX3_letGoBits K_X3_letGoBits 121 [(0, .ref a0), (3, .int a3), (4, .int a4), (5, .int a5), (6, .int a6)] [] σ (pO r) 0 0 := by
  intro n
  induction n with
  | zero => intro a0 a3 a4 a5 a6 σ r h; cases h
  | succ n ih =>
    intro a0 a3 a4 a5 a6 σ r h
    rw [e_X3_letGoBits_121] at h
    refine v_iload (dq D_X3_letGoBits 66 rfl) 4 rfl ?_
    refine v_bipush (dq D_X3_letGoBits 67 rfl) kb_8 ?_
    refine v_icmp_ge (dq D_X3_letGoBits 68 rfl) rfl (fun c1 => ?_) (fun c1 => ?_)
    · have h := itp h c1
      refine v_iload (dq D_X3_letGoBits 86 rfl) 3 rfl ?_
      obtain rfl := Option.some.inj h
      exact v_iret (dq D_X3_letGoBits 87 rfl) rfl ⟨rfl, rfl⟩
    · have h := itn h c1
      refine v_iload_n (dq D_X3_letGoBits 69 rfl) 1 rfl ?_
      refine v_aload_n (dq D_X3_letGoBits 70 rfl) 0 rfl ?_
      obtain ⟨x2, hx2, h⟩ := obi h
      refine v_gR (dq D_X3_letGoBits 71 rfl) fa_RX3_15 hx2 ?_
      refine v_iload (dq D_X3_letGoBits 72 rfl) 4 rfl ?_
      obtain ⟨x3, hx3, h⟩ := obi h
      refine v_iald (dq D_X3_letGoBits 73 rfl) hx3 ?_
      obtain ⟨q4, hq4, h⟩ := obi h
      refine v_cSi (bc := 0) (bs := 0) (As := [.int x3]) (dq D_X3_letGoBits 74 rfl) cs_X3_bitOf ml_RX3_109 (m_X3_bitOf hq4) rfl rfl (Nat.le_of_ble_eq_true rfl) ⟨Nat.le_of_ble_eq_true rfl, Nat.le_of_ble_eq_true rfl⟩ ⟨Nat.le_of_ble_eq_true rfl, Nat.le_of_ble_eq_true rfl⟩ ?_
      refine v_iand (dq D_X3_letGoBits 75 rfl) ?_
      refine v_if_ne (dq D_X3_letGoBits 76 rfl) rfl (fun c5 => ?_) (fun c5 => ?_)
      · have h := itn h c5
        exact w_X3_letGoBits_156 ih h
      · have h := itp h c5
        refine v_iload (dq D_X3_letGoBits 77 rfl) 3 rfl ?_
        refine v_iload (dq D_X3_letGoBits 78 rfl) 2 rfl ?_
        refine v_iload (dq D_X3_letGoBits 79 rfl) 4 rfl ?_
        obtain ⟨q6, hq6, h⟩ := obi h
        refine v_cSi (bc := 0) (bs := 0) (As := [.int a6]) (dq D_X3_letGoBits 80 rfl) cs_X3_bitOf ml_RX3_109 (m_X3_bitOf hq6) rfl rfl (Nat.le_of_ble_eq_true rfl) ⟨Nat.le_of_ble_eq_true rfl, Nat.le_of_ble_eq_true rfl⟩ ⟨Nat.le_of_ble_eq_true rfl, Nat.le_of_ble_eq_true rfl⟩ ?_
        refine v_iand (dq D_X3_letGoBits 81 rfl) ?_
        refine v_ior (dq D_X3_letGoBits 82 rfl) ?_
        obtain ⟨x7, ex7, h⟩ := bnd_inv h
        refine v_top (congrArg Value.int ex7) ?_
        refine v_istore (dq D_X3_letGoBits 83 rfl) [(5, .int x7), (0, .ref a0), (3, .int a3), (4, .int a4), (6, .int a6)] (Nat.le_of_ble_eq_true rfl) rfl ?_
        exact v_sub [1, 2, 3, 0, 4] rfl (w_X3_letGoBits_156 ih h)
theorem w_X3_letGoBits_106 {sa : Env3} {k25 : Nat → Int32 → Int32 → Int32 → Int32 → Int32 → St → Option (Int32 × St)} (hk25 : ∀ {a0 : Nat} {a1 : Int32} {a2 : Int32} {a3 : Int32} {a4 : Int32} {a5 : Int32} {σ : St} {r : Int32 × St}, k25 a0 a1 a2 a3 a4 a5 σ = some r → VV sa cX3_letGoBits K_X3_letGoBits 25 [(0, .ref a0), (1, .int a1), (2, .int a2), (3, .int a3), (4, .int a4), (5, .int a5)] [] σ (pO r) 0 0) {a0 : Nat} {a1 : Int32} {a2 : Int32} {a3 : Int32} {a4 : Int32} {a5 : Int32} {σ : St} {r : Int32 × St} (h : f_X3_letGoBits_106 k25 a0 a1 a2 a3 a4 a5 σ = some r) : VV sa cX3_letGoBits K_X3_letGoBits 106 [(0, .ref a0), (1, .int a1), (2, .int a2), (3, .int a3), (4, .int a4), (5, .int a5)] [] σ (pO r) 0 0 := by
  unfold f_X3_letGoBits_106 at h
  refine v_iinc (dq D_X3_letGoBits 59 rfl) 5 [(5, .int (a5 + 1)), (0, .ref a0), (1, .int a1), (2, .int a2), (3, .int a3), (4, .int a4)] rfl kc_1 (Nat.le_of_ble_eq_true rfl) rfl ?_
  refine v_goto (dq D_X3_letGoBits 60 rfl) rfl ?_
  exact v_sub [1, 2, 3, 4, 5, 0] rfl (hk25 h)
theorem w_X3_letGoBits_77 {sa : Env3} {k25 : Nat → Int32 → Int32 → Int32 → Int32 → Int32 → St → Option (Int32 × St)} (hk25 : ∀ {a0 : Nat} {a1 : Int32} {a2 : Int32} {a3 : Int32} {a4 : Int32} {a5 : Int32} {σ : St} {r : Int32 × St}, k25 a0 a1 a2 a3 a4 a5 σ = some r → VV sa cX3_letGoBits K_X3_letGoBits 25 [(0, .ref a0), (1, .int a1), (2, .int a2), (3, .int a3), (4, .int a4), (5, .int a5)] [] σ (pO r) 0 0) {a0 : Nat} {a1 : Int32} {a2 : Int32} {a3 : Int32} {a4 : Int32} {a5 : Int32} {σ : St} {r : Int32 × St} (h : f_X3_letGoBits_77 k25 a0 a1 a2 a3 a4 a5 σ = some r) : VV sa cX3_letGoBits K_X3_letGoBits 77 [(0, .ref a0), (1, .int a1), (2, .int a2), (3, .int a3), (4, .int a4), (5, .int a5)] [] σ (pO r) 0 0 := by
  unfold f_X3_letGoBits_77 at h
  refine v_iload (dq D_X3_letGoBits 44 rfl) 5 rfl ?_
  refine v_iload_n (dq D_X3_letGoBits 45 rfl) 2 rfl ?_
  refine v_icmp_ge (dq D_X3_letGoBits 46 rfl) rfl (fun c1 => ?_) (fun c1 => ?_)
  · have h := itp h c1
    exact w_X3_letGoBits_106 hk25 h
  · have h := itn h c1
    refine v_iload (dq D_X3_letGoBits 47 rfl) 4 rfl ?_
    refine v_aload_n (dq D_X3_letGoBits 48 rfl) 0 rfl ?_
    obtain ⟨x2, hx2, h⟩ := obi h
    refine v_gR (dq D_X3_letGoBits 49 rfl) fa_RX3_30 hx2 ?_
    obtain ⟨x3, hx3, h⟩ := obi h
    refine v_gR (dq D_X3_letGoBits 50 rfl) fa_RX3_91 hx3 ?_
    refine v_aload_n (dq D_X3_letGoBits 51 rfl) 0 rfl ?_
    obtain ⟨x4, hx4, h⟩ := obi h
    refine v_gR (dq D_X3_letGoBits 52 rfl) fa_RX3_18 hx4 ?_
    refine v_iload (dq D_X3_letGoBits 53 rfl) 5 rfl ?_
    obtain ⟨x5, hx5, h⟩ := obi h
    refine v_iald (dq D_X3_letGoBits 54 rfl) hx5 ?_
    obtain ⟨x6, hx6, h⟩ := obi h
    refine v_iald (dq D_X3_letGoBits 55 rfl) hx6 ?_
    obtain ⟨q7, hq7, h⟩ := obi h
    refine v_cSi (bc := 0) (bs := 0) (As := [.int x6]) (dq D_X3_letGoBits 56 rfl) cs_X3_bitOf ml_RX3_109 (m_X3_bitOf hq7) rfl rfl (Nat.le_of_ble_eq_true rfl) ⟨Nat.le_of_ble_eq_true rfl, Nat.le_of_ble_eq_true rfl⟩ ⟨Nat.le_of_ble_eq_true rfl, Nat.le_of_ble_eq_true rfl⟩ ?_
    refine v_ior (dq D_X3_letGoBits 57 rfl) ?_
    obtain ⟨x8, ex8, h⟩ := bnd_inv h
    refine v_top (congrArg Value.int ex8) ?_
    refine v_istore (dq D_X3_letGoBits 58 rfl) [(4, .int x8), (0, .ref a0), (1, .int a1), (2, .int a2), (3, .int a3), (5, .int a5)] (Nat.le_of_ble_eq_true rfl) rfl ?_
    exact v_sub [1, 2, 3, 4, 0, 5] rfl (w_X3_letGoBits_106 hk25 h)
theorem w_X3_letGoBits_25 {sa : Env3} : ∀ (n : Nat) {a0 : Nat} {a1 : Int32} {a2 : Int32} {a3 : Int32} {a4 : Int32} {a5 : Int32} {σ : St} {r : Int32 × St}, f_X3_letGoBits_25 n a0 a1 a2 a3 a4 a5 σ = some r → VV sa cX3_letGoBits K_X3_letGoBits 25 [(0, .ref a0), (1, .int a1), (2, .int a2), (3, .int a3), (4, .int a4), (5, .int a5)] [] σ (pO r) 0 0 := by
  intro n
  induction n with
  | zero => intro a0 a1 a2 a3 a4 a5 σ r h; cases h
  | succ n ih =>
    intro a0 a1 a2 a3 a4 a5 σ r h
    rw [e_X3_letGoBits_25] at h
    refine v_iload (dq D_X3_letGoBits 15 rfl) 5 rfl ?_
    refine v_iload_n (dq D_X3_letGoBits 16 rfl) 1 rfl ?_
    refine v_icmp_ge (dq D_X3_letGoBits 17 rfl) rfl (fun c1 => ?_) (fun c1 => ?_)
    · have h := itp h c1
      refine v_aload_n (dq D_X3_letGoBits 61 rfl) 0 rfl ?_
      obtain ⟨x2, hx2, h⟩ := obi h
      refine v_gI (dq D_X3_letGoBits 62 rfl) fa_RX3_47 hx2 ?_
      refine v_istore (dq D_X3_letGoBits 63 rfl) [(5, .int x2), (0, .ref a0), (1, .int a1), (2, .int a2), (3, .int a3), (4, .int a4)] (Nat.le_of_ble_eq_true rfl) rfl ?_
      refine v_iconst (dq D_X3_letGoBits 64 rfl) kc_0 ?_
      refine v_istore (dq D_X3_letGoBits 65 rfl) [(6, .int 0), (5, .int x2), (0, .ref a0), (1, .int a1), (2, .int a2), (3, .int a3), (4, .int a4)] (Nat.le_of_ble_eq_true rfl) rfl ?_
      exact v_sub [2, 5, 6, 1, 0] rfl (w_X3_letGoBits_121 _ h)
    · have h := itn h c1
      refine v_iload_n (dq D_X3_letGoBits 18 rfl) 3 rfl ?_
      refine v_aload_n (dq D_X3_letGoBits 19 rfl) 0 rfl ?_
      obtain ⟨x3, hx3, h⟩ := obi h
      refine v_gR (dq D_X3_letGoBits 20 rfl) fa_RX3_21 hx3 ?_
      refine v_iload (dq D_X3_letGoBits 21 rfl) 5 rfl ?_
      obtain ⟨x4, hx4, h⟩ := obi h
      refine v_iald (dq D_X3_letGoBits 22 rfl) hx4 ?_
      obtain ⟨q5, hq5, h⟩ := obi h
      refine v_cSi (bc := 0) (bs := 0) (As := [.int x4]) (dq D_X3_letGoBits 23 rfl) cs_X3_bitOf ml_RX3_109 (m_X3_bitOf hq5) rfl rfl (Nat.le_of_ble_eq_true rfl) ⟨Nat.le_of_ble_eq_true rfl, Nat.le_of_ble_eq_true rfl⟩ ⟨Nat.le_of_ble_eq_true rfl, Nat.le_of_ble_eq_true rfl⟩ ?_
      refine v_ior (dq D_X3_letGoBits 24 rfl) ?_
      obtain ⟨x6, ex6, h⟩ := bnd_inv h
      refine v_top (congrArg Value.int ex6) ?_
      refine v_istore_n (dq D_X3_letGoBits 25 rfl) [(3, .int x6), (0, .ref a0), (1, .int a1), (2, .int a2), (4, .int a4), (5, .int a5)] rfl (Nat.le_of_ble_eq_true rfl) rfl ?_
      refine v_aload_n (dq D_X3_letGoBits 26 rfl) 1 rfl ?_
      refine v_iload (dq D_X3_letGoBits 27 rfl) 5 rfl ?_
      obtain ⟨q7, hq7, h⟩ := obi h
      refine v_cVi (bc := 0) (bs := 0) (As := [.int a5]) (dq D_X3_letGoBits 28 rfl) cv_X3_isDone ml_RX3_112 (itg hq7).1 (m_X3_isDone hq7) rfl rfl (Nat.le_of_ble_eq_true rfl) ⟨Nat.le_of_ble_eq_true rfl, Nat.le_of_ble_eq_true rfl⟩ ⟨Nat.le_of_ble_eq_true rfl, Nat.le_of_ble_eq_true rfl⟩ ?_
      refine v_if_ne (dq D_X3_letGoBits 29 rfl) rfl (fun c8 => ?_) (fun c8 => ?_)
      · have h := itn h c8
        exact v_sub [1, 2, 3, 0, 4, 5] rfl (w_X3_letGoBits_77 ih h)
      · have h := itp h c8
        refine v_iload_n (dq D_X3_letGoBits 30 rfl) 0 rfl ?_
        refine v_aload_n (dq D_X3_letGoBits 31 rfl) 1 rfl ?_
        obtain ⟨x9, hx9, h⟩ := obi h
        refine v_gR (dq D_X3_letGoBits 32 rfl) fa_RX3_24 hx9 ?_
        refine v_iload (dq D_X3_letGoBits 33 rfl) 5 rfl ?_
        obtain ⟨x10, hx10, h⟩ := obi h
        refine v_iald (dq D_X3_letGoBits 34 rfl) hx10 ?_
        obtain ⟨q11, hq11, h⟩ := obi h
        refine v_cSi (bc := 0) (bs := 0) (As := [.int x10]) (dq D_X3_letGoBits 35 rfl) cs_X3_bitOf ml_RX3_109 (m_X3_bitOf hq11) rfl rfl (Nat.le_of_ble_eq_true rfl) ⟨Nat.le_of_ble_eq_true rfl, Nat.le_of_ble_eq_true rfl⟩ ⟨Nat.le_of_ble_eq_true rfl, Nat.le_of_ble_eq_true rfl⟩ ?_
        refine v_aload_n (dq D_X3_letGoBits 36 rfl) 1 rfl ?_
        obtain ⟨x12, hx12, h⟩ := obi h
        refine v_gR (dq D_X3_letGoBits 37 rfl) fa_RX3_27 hx12 ?_
        refine v_iload (dq D_X3_letGoBits 38 rfl) 5 rfl ?_
        obtain ⟨x13, hx13, h⟩ := obi h
        refine v_iald (dq D_X3_letGoBits 39 rfl) hx13 ?_
        obtain ⟨q14, hq14, h⟩ := obi h
        refine v_cSi (bc := 0) (bs := 0) (As := [.int x13]) (dq D_X3_letGoBits 40 rfl) cs_X3_bitOf ml_RX3_109 (m_X3_bitOf hq14) rfl rfl (Nat.le_of_ble_eq_true rfl) ⟨Nat.le_of_ble_eq_true rfl, Nat.le_of_ble_eq_true rfl⟩ ⟨Nat.le_of_ble_eq_true rfl, Nat.le_of_ble_eq_true rfl⟩ ?_
        refine v_ior (dq D_X3_letGoBits 41 rfl) ?_
        refine v_ior (dq D_X3_letGoBits 42 rfl) ?_
        obtain ⟨x15, ex15, h⟩ := bnd_inv h
        refine v_top (congrArg Value.int ex15) ?_
        refine v_istore_n (dq D_X3_letGoBits 43 rfl) [(3, .int x15), (0, .ref a0), (1, .int a1), (2, .int a2), (4, .int a4), (5, .int a5)] rfl (Nat.le_of_ble_eq_true rfl) rfl ?_
        exact v_sub [1, 2, 3, 0, 4, 5] rfl (w_X3_letGoBits_77 ih h)
theorem w_X3_letGoBits_0 {sa : Env3} {a0 : Nat} {a1 : Int32} {σ : St} {r : Int32 × St} (h : f_X3_letGoBits_0 a0 a1 σ = some r) : VV sa cX3_letGoBits K_X3_letGoBits 0 [(0, .ref a0), (1, .int a1)] [] σ (pO r) 0 0 := by
  unfold f_X3_letGoBits_0 at h
  refine v_aload_n (dq D_X3_letGoBits 0 rfl) 0 rfl ?_
  obtain ⟨x1, hx1, h⟩ := obi h
  refine v_gR (dq D_X3_letGoBits 1 rfl) fa_RX3_30 hx1 ?_
  obtain ⟨x2, hx2, h⟩ := obi h
  refine v_gI (dq D_X3_letGoBits 2 rfl) fa_RX3_106 hx2 ?_
  refine v_if_ne (dq D_X3_letGoBits 3 rfl) rfl (fun c3 => ?_) (fun c3 => ?_)
  · have h := itn h c3
    refine v_aload_n (dq D_X3_letGoBits 6 rfl) 0 rfl ?_
    obtain ⟨q4, hq4, h⟩ := obi h
    refine v_cVi (bc := 0) (bs := 0) (As := []) (dq D_X3_letGoBits 7 rfl) cv_X3_sureOnes ml_RX3_102 (itg hq4).1 (m_X3_sureOnes hq4) rfl rfl (Nat.le_of_ble_eq_true rfl) ⟨Nat.le_of_ble_eq_true rfl, Nat.le_of_ble_eq_true rfl⟩ ⟨Nat.le_of_ble_eq_true rfl, Nat.le_of_ble_eq_true rfl⟩ ?_
    refine v_istore_n (dq D_X3_letGoBits 8 rfl) [(2, .int q4.1), (0, .ref a0), (1, .int a1)] rfl (Nat.le_of_ble_eq_true rfl) rfl ?_
    refine v_iconst (dq D_X3_letGoBits 9 rfl) kc_0 ?_
    refine v_istore_n (dq D_X3_letGoBits 10 rfl) [(3, .int 0), (2, .int q4.1), (0, .ref a0), (1, .int a1)] rfl (Nat.le_of_ble_eq_true rfl) rfl ?_
    refine v_iconst (dq D_X3_letGoBits 11 rfl) kc_0 ?_
    refine v_istore (dq D_X3_letGoBits 12 rfl) [(4, .int 0), (3, .int 0), (2, .int q4.1), (0, .ref a0), (1, .int a1)] (Nat.le_of_ble_eq_true rfl) rfl ?_
    refine v_iconst (dq D_X3_letGoBits 13 rfl) kc_0 ?_
    refine v_istore (dq D_X3_letGoBits 14 rfl) [(5, .int 0), (4, .int 0), (3, .int 0), (2, .int q4.1), (0, .ref a0), (1, .int a1)] (Nat.le_of_ble_eq_true rfl) rfl ?_
    exact v_sub [4, 5, 3, 2, 1, 0] rfl (w_X3_letGoBits_25 _ h)
  · have h := itp h c3
    refine v_iconst (dq D_X3_letGoBits 4 rfl) kc_0 ?_
    obtain rfl := Option.some.inj h
    exact v_iret (dq D_X3_letGoBits 5 rfl) rfl ⟨rfl, rfl⟩
theorem m_X3_letGoBits {sa : Env3} {a0 : Nat} {a1 : Int32} {σ : St} {r : Int32 × St} (h : f_X3_letGoBits a0 a1 σ = some r) : Ex sa yX3_letGoBits cX3_letGoBits K_X3_letGoBits [.ref a0, .int a1] σ (pO r) := Ex.of (by decide) rfl (fun q => nomatch q) (Nat.le_of_ble_eq_true rfl) (w_X3_letGoBits_0 (itg h).2)
theorem w_X3_holdersBut_68 {sa : Env3} {k45 : Nat → Int32 → Int32 → Int32 → St → Option (Int32 × St)} (hk45 : ∀ {a0 : Nat} {a2 : Int32} {a3 : Int32} {a4 : Int32} {σ : St} {r : Int32 × St}, k45 a0 a2 a3 a4 σ = some r → VV sa cX3_holdersBut K_X3_holdersBut 45 [(0, .ref a0), (2, .int a2), (3, .int a3), (4, .int a4)] [] σ (pO r) 0 0) {a0 : Nat} {a2 : Int32} {a3 : Int32} {a4 : Int32} {σ : St} {r : Int32 × St} (h : f_X3_holdersBut_68 k45 a0 a2 a3 a4 σ = some r) : VV sa cX3_holdersBut K_X3_holdersBut 68 [(0, .ref a0), (2, .int a2), (3, .int a3), (4, .int a4)] [] σ (pO r) 0 0 := by
  unfold f_X3_holdersBut_68 at h
  refine v_iinc (dq D_X3_holdersBut 34 rfl) 3 [(4, .int (a4 + 1)), (0, .ref a0), (2, .int a2), (3, .int a3)] rfl kc_1 (Nat.le_of_ble_eq_true rfl) rfl ?_
  refine v_goto (dq D_X3_holdersBut 35 rfl) rfl ?_
  exact v_sub [1, 2, 3, 0] rfl (hk45 h)
theorem w_X3_holdersBut_45 {sa : Env3} : ∀ (n : Nat) {a0 : Nat} {a2 : Int32} {a3 : Int32} {a4 : Int32} {σ : St} {r : Int32 × St}, f_X3_holdersBut_45 n a0 a2 a3 a4 σ = some r → VV sa cX3_holdersBut K_X3_holdersBut 45 [(0, .ref a0), (2, .int a2), (3, .int a3), (4, .int a4)] [] σ (pO r) 0 0 := by
  intro n
  induction n with
  | zero => intro a0 a2 a3 a4 σ r h; cases h
  | succ n ih =>
    intro a0 a2 a3 a4 σ r h
    rw [e_X3_holdersBut_45] at h
    refine v_iload (dq D_X3_holdersBut 23 rfl) 3 rfl ?_
    refine v_aload_n (dq D_X3_holdersBut 24 rfl) 0 rfl ?_
    obtain ⟨x1, hx1, h⟩ := obi h
    refine v_gI (dq D_X3_holdersBut 25 rfl) fa_RX3_73 hx1 ?_
    refine v_icmp_ge (dq D_X3_holdersBut 26 rfl) rfl (fun c2 => ?_) (fun c2 => ?_)
    · have h := itp h c2
      refine v_iload_n (dq D_X3_holdersBut 36 rfl) 2 rfl ?_
      obtain rfl := Option.some.inj h
      exact v_iret (dq D_X3_holdersBut 37 rfl) rfl ⟨rfl, rfl⟩
    · have h := itn h c2
      refine v_aload_n (dq D_X3_holdersBut 27 rfl) 0 rfl ?_
      obtain ⟨x3, hx3, h⟩ := obi h
      refine v_gR (dq D_X3_holdersBut 28 rfl) fa_RX3_21 hx3 ?_
      refine v_iload (dq D_X3_holdersBut 29 rfl) 3 rfl ?_
      obtain ⟨x4, hx4, h⟩ := obi h
      refine v_iald (dq D_X3_holdersBut 30 rfl) hx4 ?_
      refine v_iload_n (dq D_X3_holdersBut 31 rfl) 1 rfl ?_
      refine v_icmp_ne (dq D_X3_holdersBut 32 rfl) rfl (fun c5 => ?_) (fun c5 => ?_)
      · have h := itn h c5
        exact w_X3_holdersBut_68 ih h
      · have h := itp h c5
        refine v_iinc (dq D_X3_holdersBut 33 rfl) 2 [(3, .int (a3 + 1)), (0, .ref a0), (2, .int a2), (4, .int a4)] rfl kc_1 (Nat.le_of_ble_eq_true rfl) rfl ?_
        exact v_sub [1, 2, 0, 3] rfl (w_X3_holdersBut_68 ih h)
theorem w_X3_holdersBut_36 {sa : Env3} {k5 : Nat → Int32 → Int32 → Int32 → Int32 → St → Option (Int32 × St)} (hk5 : ∀ {a0 : Nat} {a1 : Int32} {a2 : Int32} {a3 : Int32} {a4 : Int32} {σ : St} {r : Int32 × St}, k5 a0 a1 a2 a3 a4 σ = some r → VV sa cX3_holdersBut K_X3_holdersBut 5 [(0, .ref a0), (1, .int a1), (2, .int a2), (3, .int a3), (4, .int a4)] [] σ (pO r) 0 0) {a0 : Nat} {a1 : Int32} {a2 : Int32} {a3 : Int32} {a4 : Int32} {σ : St} {r : Int32 × St} (h : f_X3_holdersBut_36 k5 a0 a1 a2 a3 a4 σ = some r) : VV sa cX3_holdersBut K_X3_holdersBut 36 [(0, .ref a0), (1, .int a1), (2, .int a2), (3, .int a3), (4, .int a4)] [] σ (pO r) 0 0 := by
  unfold f_X3_holdersBut_36 at h
  refine v_iinc (dq D_X3_holdersBut 19 rfl) 4 [(4, .int (a4 + 1)), (0, .ref a0), (1, .int a1), (2, .int a2), (3, .int a3)] rfl kc_1 (Nat.le_of_ble_eq_true rfl) rfl ?_
  refine v_goto (dq D_X3_holdersBut 20 rfl) rfl ?_
  exact v_sub [1, 2, 3, 4, 0] rfl (hk5 h)
theorem w_X3_holdersBut_5 {sa : Env3} : ∀ (n : Nat) {a0 : Nat} {a1 : Int32} {a2 : Int32} {a3 : Int32} {a4 : Int32} {σ : St} {r : Int32 × St}, f_X3_holdersBut_5 n a0 a1 a2 a3 a4 σ = some r → VV sa cX3_holdersBut K_X3_holdersBut 5 [(0, .ref a0), (1, .int a1), (2, .int a2), (3, .int a3), (4, .int a4)] [] σ (pO r) 0 0 := by
  intro n
  induction n with
  | zero => intro a0 a1 a2 a3 a4 σ r h; cases h
  | succ n ih =>
    intro a0 a1 a2 a3 a4 σ r h
    rw [e_X3_holdersBut_5] at h
    refine v_iload (dq D_X3_holdersBut 4 rfl) 4 rfl ?_
    refine v_bipush (dq D_X3_holdersBut 5 rfl) kb_8 ?_
    refine v_icmp_ge (dq D_X3_holdersBut 6 rfl) rfl (fun c1 => ?_) (fun c1 => ?_)
    · have h := itp h c1
      refine v_iconst (dq D_X3_holdersBut 21 rfl) kc_0 ?_
      refine v_istore (dq D_X3_holdersBut 22 rfl) [(4, .int 0), (0, .ref a0), (1, .int a1), (2, .int a2), (3, .int a3)] (Nat.le_of_ble_eq_true rfl) rfl ?_
      exact v_sub [1, 3, 4, 0] rfl (w_X3_holdersBut_45 _ h)
    · have h := itn h c1
      refine v_aload_n (dq D_X3_holdersBut 7 rfl) 0 rfl ?_
      obtain ⟨x2, hx2, h⟩ := obi h
      refine v_gR (dq D_X3_holdersBut 8 rfl) fa_RX3_15 hx2 ?_
      refine v_iload (dq D_X3_holdersBut 9 rfl) 4 rfl ?_
      obtain ⟨x3, hx3, h⟩ := obi h
      refine v_iald (dq D_X3_holdersBut 10 rfl) hx3 ?_
      refine v_iload_n (dq D_X3_holdersBut 11 rfl) 2 rfl ?_
      refine v_icmp_ne (dq D_X3_holdersBut 12 rfl) rfl (fun c4 => ?_) (fun c4 => ?_)
      · have h := itn h c4
        exact w_X3_holdersBut_36 ih h
      · have h := itp h c4
        refine v_iload_n (dq D_X3_holdersBut 13 rfl) 1 rfl ?_
        refine v_iload (dq D_X3_holdersBut 14 rfl) 4 rfl ?_
        obtain ⟨q5, hq5, h⟩ := obi h
        refine v_cSi (bc := 0) (bs := 0) (As := [.int a4]) (dq D_X3_holdersBut 15 rfl) cs_X3_bitOf ml_RX3_109 (m_X3_bitOf hq5) rfl rfl (Nat.le_of_ble_eq_true rfl) ⟨Nat.le_of_ble_eq_true rfl, Nat.le_of_ble_eq_true rfl⟩ ⟨Nat.le_of_ble_eq_true rfl, Nat.le_of_ble_eq_true rfl⟩ ?_
        refine v_iand (dq D_X3_holdersBut 16 rfl) ?_
        refine v_if_ne (dq D_X3_holdersBut 17 rfl) rfl (fun c6 => ?_) (fun c6 => ?_)
        · have h := itn h c6
          exact w_X3_holdersBut_36 ih h
        · have h := itp h c6
          refine v_iinc (dq D_X3_holdersBut 18 rfl) 3 [(3, .int (a3 + 1)), (0, .ref a0), (1, .int a1), (2, .int a2), (4, .int a4)] rfl kc_1 (Nat.le_of_ble_eq_true rfl) rfl ?_
          exact v_sub [1, 2, 3, 0, 4] rfl (w_X3_holdersBut_36 ih h)
theorem w_X3_holdersBut_0 {sa : Env3} {a0 : Nat} {a1 : Int32} {a2 : Int32} {σ : St} {r : Int32 × St} (h : f_X3_holdersBut_0 a0 a1 a2 σ = some r) : VV sa cX3_holdersBut K_X3_holdersBut 0 [(0, .ref a0), (1, .int a1), (2, .int a2)] [] σ (pO r) 0 0 := by
  unfold f_X3_holdersBut_0 at h
  refine v_iconst (dq D_X3_holdersBut 0 rfl) kc_0 ?_
  refine v_istore_n (dq D_X3_holdersBut 1 rfl) [(3, .int 0), (0, .ref a0), (1, .int a1), (2, .int a2)] rfl (Nat.le_of_ble_eq_true rfl) rfl ?_
  refine v_iconst (dq D_X3_holdersBut 2 rfl) kc_0 ?_
  refine v_istore (dq D_X3_holdersBut 3 rfl) [(4, .int 0), (3, .int 0), (0, .ref a0), (1, .int a1), (2, .int a2)] (Nat.le_of_ble_eq_true rfl) rfl ?_
  exact v_sub [2, 3, 4, 1, 0] rfl (w_X3_holdersBut_5 _ h)
theorem m_X3_holdersBut {sa : Env3} {a0 : Nat} {a1 : Int32} {a2 : Int32} {σ : St} {r : Int32 × St} (h : f_X3_holdersBut a0 a1 a2 σ = some r) : Ex sa yX3_holdersBut cX3_holdersBut K_X3_holdersBut [.ref a0, .int a1, .int a2] σ (pO r) := Ex.of (by decide) rfl (fun q => nomatch q) (Nat.le_of_ble_eq_true rfl) (w_X3_holdersBut_0 (itg h).2)
theorem w_X3_mergesNext_67 {sa : Env3} {s0 : Int32} {σ : St} {r : Int32 × St} (h : f_X3_mergesNext_67 s0 σ = some r) : VV sa cX3_mergesNext K_X3_mergesNext 67 [] [.int s0] σ (pO r) 0 0 := by
  unfold f_X3_mergesNext_67 at h
  have hz := (itg h).1
  have h := (itg h).2
  obtain rfl := Option.some.inj h
  exact v_zret (dq D_X3_mergesNext 35 rfl) rfl (z_nar hz) ⟨rfl, rfl⟩
theorem w_X3_mergesNext_0 {sa : Env3} {a0 : Nat} {σ : St} {r : Int32 × St} (h : f_X3_mergesNext_0 a0 σ = some r) : VV sa cX3_mergesNext K_X3_mergesNext 0 [(0, .ref a0)] [] σ (pO r) 0 0 := by
  unfold f_X3_mergesNext_0 at h
  refine v_aload_n (dq D_X3_mergesNext 0 rfl) 0 rfl ?_
  obtain ⟨x1, hx1, h⟩ := obi h
  refine v_gR (dq D_X3_mergesNext 1 rfl) fa_RX3_30 hx1 ?_
  obtain ⟨x2, hx2, h⟩ := obi h
  refine v_gR (dq D_X3_mergesNext 2 rfl) fa_RX3_128 hx2 ?_
  refine v_aload_n (dq D_X3_mergesNext 3 rfl) 0 rfl ?_
  obtain ⟨x3, hx3, h⟩ := obi h
  refine v_gI (dq D_X3_mergesNext 4 rfl) fa_RX3_54 hx3 ?_
  obtain ⟨x4, hx4, h⟩ := obi h
  refine v_iald (dq D_X3_mergesNext 5 rfl) hx4 ?_
  refine v_iconst (dq D_X3_mergesNext 6 rfl) kc_4 ?_
  refine v_icmp_eq (dq D_X3_mergesNext 7 rfl) rfl (fun c5 => ?_) (fun c5 => ?_)
  · have h := itp h c5
    refine v_aload_n (dq D_X3_mergesNext 10 rfl) 0 rfl ?_
    refine v_aload_n (dq D_X3_mergesNext 11 rfl) 0 rfl ?_
    obtain ⟨x6, hx6, h⟩ := obi h
    refine v_gI (dq D_X3_mergesNext 12 rfl) fa_RX3_73 hx6 ?_
    refine v_aload_n (dq D_X3_mergesNext 13 rfl) 0 rfl ?_
    obtain ⟨x7, hx7, h⟩ := obi h
    refine v_gR (dq D_X3_mergesNext 14 rfl) fa_RX3_30 hx7 ?_
    obtain ⟨x8, hx8, h⟩ := obi h
    refine v_gR (dq D_X3_mergesNext 15 rfl) fa_RX3_138 hx8 ?_
    refine v_aload_n (dq D_X3_mergesNext 16 rfl) 0 rfl ?_
    obtain ⟨x9, hx9, h⟩ := obi h
    refine v_gI (dq D_X3_mergesNext 17 rfl) fa_RX3_54 hx9 ?_
    obtain ⟨x10, hx10, h⟩ := obi h
    refine v_iald (dq D_X3_mergesNext 18 rfl) hx10 ?_
    obtain ⟨q11, hq11, h⟩ := obi h
    refine v_cVi (bc := 0) (bs := 0) (As := [.int x6, .int x10]) (dq D_X3_mergesNext 19 rfl) cv_X3_mapBy ml_RX3_141 (itg hq11).1 (m_X3_mapBy hq11) rfl rfl (Nat.le_of_ble_eq_true rfl) ⟨Nat.le_of_ble_eq_true rfl, Nat.le_of_ble_eq_true rfl⟩ ⟨Nat.le_of_ble_eq_true rfl, Nat.le_of_ble_eq_true rfl⟩ ?_
    refine v_istore_n (dq D_X3_mergesNext 20 rfl) [(1, .int q11.1), (0, .ref a0)] rfl (Nat.le_of_ble_eq_true rfl) rfl ?_
    refine v_aload_n (dq D_X3_mergesNext 21 rfl) 1 rfl ?_
    refine v_aload_n (dq D_X3_mergesNext 22 rfl) 1 rfl ?_
    refine v_aload_n (dq D_X3_mergesNext 23 rfl) 1 rfl ?_
    obtain ⟨x12, hx12, h⟩ := obi h
    refine v_gI (dq D_X3_mergesNext 24 rfl) fa_RX3_73 hx12 ?_
    obtain ⟨q13, hq13, h⟩ := obi h
    refine v_cVi (bc := 0) (bs := 0) (As := [.int x12]) (dq D_X3_mergesNext 25 rfl) cv_X3_letGoBits ml_RX3_116 (itg hq13).1 (m_X3_letGoBits hq13) rfl rfl (Nat.le_of_ble_eq_true rfl) ⟨Nat.le_of_ble_eq_true rfl, Nat.le_of_ble_eq_true rfl⟩ ⟨Nat.le_of_ble_eq_true rfl, Nat.le_of_ble_eq_true rfl⟩ ?_
    refine v_iload_n (dq D_X3_mergesNext 26 rfl) 0 rfl ?_
    obtain ⟨q14, hq14, h⟩ := obi h
    refine v_cVi (bc := 0) (bs := 0) (As := [.int q13.1, .int q11.1]) (dq D_X3_mergesNext 27 rfl) cv_X3_holdersBut ml_RX3_145 (itg hq14).1 (m_X3_holdersBut hq14) rfl rfl (Nat.le_of_ble_eq_true rfl) ⟨Nat.le_of_ble_eq_true rfl, Nat.le_of_ble_eq_true rfl⟩ ⟨Nat.le_of_ble_eq_true rfl, Nat.le_of_ble_eq_true rfl⟩ ?_
    refine v_aload_n (dq D_X3_mergesNext 28 rfl) 1 rfl ?_
    obtain ⟨x15, hx15, h⟩ := obi h
    refine v_gR (dq D_X3_mergesNext 29 rfl) fa_RX3_30 hx15 ?_
    obtain ⟨x16, hx16, h⟩ := obi h
    refine v_gI (dq D_X3_mergesNext 30 rfl) fa_RX3_148 hx16 ?_
    refine v_icmp_ge (dq D_X3_mergesNext 31 rfl) rfl (fun c17 => ?_) (fun c17 => ?_)
    · have h := itp h c17
      refine v_iconst (dq D_X3_mergesNext 34 rfl) kc_0 ?_
      exact v_sub [] rfl (w_X3_mergesNext_67 h)
    · have h := itn h c17
      refine v_iconst (dq D_X3_mergesNext 32 rfl) kc_1 ?_
      refine v_goto (dq D_X3_mergesNext 33 rfl) rfl ?_
      exact v_sub [] rfl (w_X3_mergesNext_67 h)
  · have h := itn h c5
    refine v_iconst (dq D_X3_mergesNext 8 rfl) kc_0 ?_
    obtain rfl := Option.some.inj h
    exact v_zret (dq D_X3_mergesNext 9 rfl) rfl rfl ⟨rfl, rfl⟩
theorem m_X3_mergesNext {sa : Env3} {a0 : Nat} {σ : St} {r : Int32 × St} (h : f_X3_mergesNext a0 σ = some r) : Ex sa yX3_mergesNext cX3_mergesNext K_X3_mergesNext [.ref a0] σ (pO r) := Ex.of (by decide) rfl (fun q => nomatch q) (Nat.le_of_ble_eq_true rfl) (w_X3_mergesNext_0 (itg h).2)
theorem w_X3_freeBits_50 {sa : Env3} : ∀ (n : Nat) {a0 : Nat} {a1 : Int32} {a2 : Int32} {a4 : Int32} {σ : St} {r : Int32 × St}, f_X3_freeBits_50 n a0 a1 a2 a4 σ = some r → VV sa cX3_freeBits K_X3_freeBits 50 [(0, .ref a0), (1, .int a1), (2, .int a2), (4, .int a4)] [] σ (pO r) 0 0 := by
  intro n
  induction n with
  | zero => intro a0 a1 a2 a4 σ r h; cases h
  | succ n ih =>
    intro a0 a1 a2 a4 σ r h
    rw [e_X3_freeBits_50] at h
    refine v_iload (dq D_X3_freeBits 28 rfl) 3 rfl ?_
    refine v_iload_n (dq D_X3_freeBits 29 rfl) 1 rfl ?_
    refine v_icmp_ge (dq D_X3_freeBits 30 rfl) rfl (fun c1 => ?_) (fun c1 => ?_)
    · have h := itp h c1
      refine v_iload_n (dq D_X3_freeBits 41 rfl) 2 rfl ?_
      refine v_iconst (dq D_X3_freeBits 42 rfl) kc_m1 ?_
      refine v_ixor (dq D_X3_freeBits 43 rfl) ?_
      refine v_iconst (dq D_X3_freeBits 44 rfl) kc_1 ?_
      refine v_aload_n (dq D_X3_freeBits 45 rfl) 0 rfl ?_
      obtain ⟨x2, hx2, h⟩ := obi h
      refine v_gI (dq D_X3_freeBits 46 rfl) fa_RX3_34 hx2 ?_
      refine v_ishl (dq D_X3_freeBits 47 rfl) ?_
      refine v_iconst (dq D_X3_freeBits 48 rfl) kc_1 ?_
      refine v_isub (dq D_X3_freeBits 49 rfl) ?_
      refine v_iand (dq D_X3_freeBits 50 rfl) ?_
      obtain rfl := Option.some.inj h
      exact v_iret (dq D_X3_freeBits 51 rfl) rfl ⟨rfl, rfl⟩
    · have h := itn h c1
      refine v_iload_n (dq D_X3_freeBits 31 rfl) 2 rfl ?_
      refine v_aload_n (dq D_X3_freeBits 32 rfl) 0 rfl ?_
      obtain ⟨x3, hx3, h⟩ := obi h
      refine v_gR (dq D_X3_freeBits 33 rfl) fa_RX3_21 hx3 ?_
      refine v_iload (dq D_X3_freeBits 34 rfl) 3 rfl ?_
      obtain ⟨x4, hx4, h⟩ := obi h
      refine v_iald (dq D_X3_freeBits 35 rfl) hx4 ?_
      obtain ⟨q5, hq5, h⟩ := obi h
      refine v_cSi (bc := 0) (bs := 0) (As := [.int x4]) (dq D_X3_freeBits 36 rfl) cs_X3_bitOf ml_RX3_109 (m_X3_bitOf hq5) rfl rfl (Nat.le_of_ble_eq_true rfl) ⟨Nat.le_of_ble_eq_true rfl, Nat.le_of_ble_eq_true rfl⟩ ⟨Nat.le_of_ble_eq_true rfl, Nat.le_of_ble_eq_true rfl⟩ ?_
      refine v_ior (dq D_X3_freeBits 37 rfl) ?_
      obtain ⟨x6, ex6, h⟩ := bnd_inv h
      refine v_top (congrArg Value.int ex6) ?_
      refine v_istore_n (dq D_X3_freeBits 38 rfl) [(2, .int x6), (0, .ref a0), (1, .int a1), (4, .int a4)] rfl (Nat.le_of_ble_eq_true rfl) rfl ?_
      refine v_iinc (dq D_X3_freeBits 39 rfl) 3 [(4, .int (a4 + 1)), (2, .int x6), (0, .ref a0), (1, .int a1)] rfl kc_1 (Nat.le_of_ble_eq_true rfl) rfl ?_
      refine v_goto (dq D_X3_freeBits 40 rfl) rfl ?_
      exact v_sub [2, 3, 1, 0] rfl (ih h)
theorem w_X3_freeBits_41 {sa : Env3} {k11 : Nat → Int32 → Int32 → Int32 → Int32 → St → Option (Int32 × St)} (hk11 : ∀ {a0 : Nat} {a1 : Int32} {a2 : Int32} {a3 : Int32} {a4 : Int32} {σ : St} {r : Int32 × St}, k11 a0 a1 a2 a3 a4 σ = some r → VV sa cX3_freeBits K_X3_freeBits 11 [(0, .ref a0), (1, .int a1), (2, .int a2), (3, .int a3), (4, .int a4)] [] σ (pO r) 0 0) {a0 : Nat} {a1 : Int32} {a2 : Int32} {a3 : Int32} {a4 : Int32} {σ : St} {r : Int32 × St} (h : f_X3_freeBits_41 k11 a0 a1 a2 a3 a4 σ = some r) : VV sa cX3_freeBits K_X3_freeBits 41 [(0, .ref a0), (1, .int a1), (2, .int a2), (3, .int a3), (4, .int a4)] [] σ (pO r) 0 0 := by
  unfold f_X3_freeBits_41 at h
  refine v_iinc (dq D_X3_freeBits 24 rfl) 4 [(4, .int (a4 + 1)), (0, .ref a0), (1, .int a1), (2, .int a2), (3, .int a3)] rfl kc_1 (Nat.le_of_ble_eq_true rfl) rfl ?_
  refine v_goto (dq D_X3_freeBits 25 rfl) rfl ?_
  exact v_sub [1, 2, 3, 4, 0] rfl (hk11 h)
theorem w_X3_freeBits_11 {sa : Env3} : ∀ (n : Nat) {a0 : Nat} {a1 : Int32} {a2 : Int32} {a3 : Int32} {a4 : Int32} {σ : St} {r : Int32 × St}, f_X3_freeBits_11 n a0 a1 a2 a3 a4 σ = some r → VV sa cX3_freeBits K_X3_freeBits 11 [(0, .ref a0), (1, .int a1), (2, .int a2), (3, .int a3), (4, .int a4)] [] σ (pO r) 0 0 := by
  intro n
  induction n with
  | zero => intro a0 a1 a2 a3 a4 σ r h; cases h
  | succ n ih =>
    intro a0 a1 a2 a3 a4 σ r h
    rw [e_X3_freeBits_11] at h
    refine v_iload (dq D_X3_freeBits 8 rfl) 4 rfl ?_
    refine v_bipush (dq D_X3_freeBits 9 rfl) kb_8 ?_
    refine v_icmp_ge (dq D_X3_freeBits 10 rfl) rfl (fun c1 => ?_) (fun c1 => ?_)
    · have h := itp h c1
      refine v_iconst (dq D_X3_freeBits 26 rfl) kc_0 ?_
      refine v_istore (dq D_X3_freeBits 27 rfl) [(4, .int 0), (0, .ref a0), (1, .int a1), (2, .int a2), (3, .int a3)] (Nat.le_of_ble_eq_true rfl) rfl ?_
      exact v_sub [1, 2, 3, 0] rfl (w_X3_freeBits_50 _ h)
    · have h := itn h c1
      refine v_iload_n (dq D_X3_freeBits 11 rfl) 3 rfl ?_
      refine v_iload (dq D_X3_freeBits 12 rfl) 4 rfl ?_
      obtain ⟨q2, hq2, h⟩ := obi h
      refine v_cSi (bc := 0) (bs := 0) (As := [.int a4]) (dq D_X3_freeBits 13 rfl) cs_X3_bitOf ml_RX3_109 (m_X3_bitOf hq2) rfl rfl (Nat.le_of_ble_eq_true rfl) ⟨Nat.le_of_ble_eq_true rfl, Nat.le_of_ble_eq_true rfl⟩ ⟨Nat.le_of_ble_eq_true rfl, Nat.le_of_ble_eq_true rfl⟩ ?_
      refine v_iand (dq D_X3_freeBits 14 rfl) ?_
      refine v_if_ne (dq D_X3_freeBits 15 rfl) rfl (fun c3 => ?_) (fun c3 => ?_)
      · have h := itn h c3
        exact w_X3_freeBits_41 ih h
      · have h := itp h c3
        refine v_iload_n (dq D_X3_freeBits 16 rfl) 2 rfl ?_
        refine v_aload_n (dq D_X3_freeBits 17 rfl) 0 rfl ?_
        obtain ⟨x4, hx4, h⟩ := obi h
        refine v_gR (dq D_X3_freeBits 18 rfl) fa_RX3_15 hx4 ?_
        refine v_iload (dq D_X3_freeBits 19 rfl) 4 rfl ?_
        obtain ⟨x5, hx5, h⟩ := obi h
        refine v_iald (dq D_X3_freeBits 20 rfl) hx5 ?_
        obtain ⟨q6, hq6, h⟩ := obi h
        refine v_cSi (bc := 0) (bs := 0) (As := [.int x5]) (dq D_X3_freeBits 21 rfl) cs_X3_bitOf ml_RX3_109 (m_X3_bitOf hq6) rfl rfl (Nat.le_of_ble_eq_true rfl) ⟨Nat.le_of_ble_eq_true rfl, Nat.le_of_ble_eq_true rfl⟩ ⟨Nat.le_of_ble_eq_true rfl, Nat.le_of_ble_eq_true rfl⟩ ?_
        refine v_ior (dq D_X3_freeBits 22 rfl) ?_
        obtain ⟨x7, ex7, h⟩ := bnd_inv h
        refine v_top (congrArg Value.int ex7) ?_
        refine v_istore_n (dq D_X3_freeBits 23 rfl) [(2, .int x7), (0, .ref a0), (1, .int a1), (3, .int a3), (4, .int a4)] rfl (Nat.le_of_ble_eq_true rfl) rfl ?_
        exact v_sub [1, 2, 0, 3, 4] rfl (w_X3_freeBits_41 ih h)
theorem w_X3_freeBits_0 {sa : Env3} {a0 : Nat} {a1 : Int32} {σ : St} {r : Int32 × St} (h : f_X3_freeBits_0 a0 a1 σ = some r) : VV sa cX3_freeBits K_X3_freeBits 0 [(0, .ref a0), (1, .int a1)] [] σ (pO r) 0 0 := by
  unfold f_X3_freeBits_0 at h
  refine v_iconst (dq D_X3_freeBits 0 rfl) kc_0 ?_
  refine v_istore_n (dq D_X3_freeBits 1 rfl) [(2, .int 0), (0, .ref a0), (1, .int a1)] rfl (Nat.le_of_ble_eq_true rfl) rfl ?_
  refine v_aload_n (dq D_X3_freeBits 2 rfl) 1 rfl ?_
  refine v_iload_n (dq D_X3_freeBits 3 rfl) 2 rfl ?_
  obtain ⟨q1, hq1, h⟩ := obi h
  refine v_cVi (bc := 0) (bs := 0) (As := [.int a1]) (dq D_X3_freeBits 4 rfl) cv_X3_letGoBits ml_RX3_116 (itg hq1).1 (m_X3_letGoBits hq1) rfl rfl (Nat.le_of_ble_eq_true rfl) ⟨Nat.le_of_ble_eq_true rfl, Nat.le_of_ble_eq_true rfl⟩ ⟨Nat.le_of_ble_eq_true rfl, Nat.le_of_ble_eq_true rfl⟩ ?_
  refine v_istore_n (dq D_X3_freeBits 5 rfl) [(3, .int q1.1), (2, .int 0), (0, .ref a0), (1, .int a1)] rfl (Nat.le_of_ble_eq_true rfl) rfl ?_
  refine v_iconst (dq D_X3_freeBits 6 rfl) kc_0 ?_
  refine v_istore (dq D_X3_freeBits 7 rfl) [(4, .int 0), (3, .int q1.1), (2, .int 0), (0, .ref a0), (1, .int a1)] (Nat.le_of_ble_eq_true rfl) rfl ?_
  exact v_sub [3, 4, 2, 1, 0] rfl (w_X3_freeBits_11 _ h)
theorem m_X3_freeBits {sa : Env3} {a0 : Nat} {a1 : Int32} {σ : St} {r : Int32 × St} (h : f_X3_freeBits a0 a1 σ = some r) : Ex sa yX3_freeBits cX3_freeBits K_X3_freeBits [.ref a0, .int a1] σ (pO r) := Ex.of (by decide) rfl (fun q => nomatch q) (Nat.le_of_ble_eq_true rfl) (w_X3_freeBits_0 (itg h).2)
theorem w_X3_whyNotTake_90 {sa : Env3} {s0 : Int32} {σ : St} {r : Int32 × St} (h : f_X3_whyNotTake_90 s0 σ = some r) : VV sa cX3_whyNotTake K_X3_whyNotTake 90 [] [.int s0] σ (pO r) 0 0 := by
  unfold f_X3_whyNotTake_90 at h
  obtain rfl := Option.some.inj h
  exact v_iret (dq D_X3_whyNotTake 46 rfl) rfl ⟨rfl, rfl⟩
theorem w_X3_whyNotTake_89 {sa : Env3}  {σ : St} {r : Int32 × St} (h : f_X3_whyNotTake_89  σ = some r) : VV sa cX3_whyNotTake K_X3_whyNotTake 89 [] [] σ (pO r) 0 0 := by
  unfold f_X3_whyNotTake_89 at h
  refine v_iconst (dq D_X3_whyNotTake 45 rfl) kc_0 ?_
  exact w_X3_whyNotTake_90 h
theorem w_X3_whyNotTake_69 {sa : Env3} {a0 : Nat} {s0 : Int32} {σ : St} {r : Int32 × St} (h : f_X3_whyNotTake_69 a0 s0 σ = some r) : VV sa cX3_whyNotTake K_X3_whyNotTake 69 [(0, .ref a0)] [.int s0] σ (pO r) 0 0 := by
  unfold f_X3_whyNotTake_69 at h
  refine v_istore_n (dq D_X3_whyNotTake 35 rfl) [(1, .int s0), (0, .ref a0)] rfl (Nat.le_of_ble_eq_true rfl) rfl ?_
  refine v_iload_n (dq D_X3_whyNotTake 36 rfl) 0 rfl ?_
  refine v_if_eq (dq D_X3_whyNotTake 37 rfl) rfl (fun c1 => ?_) (fun c1 => ?_)
  · have h := itp h c1
    exact v_sub [] rfl (w_X3_whyNotTake_89 h)
  · have h := itn h c1
    refine v_aload_n (dq D_X3_whyNotTake 38 rfl) 1 rfl ?_
    refine v_aload_n (dq D_X3_whyNotTake 39 rfl) 1 rfl ?_
    obtain ⟨x2, hx2, h⟩ := obi h
    refine v_gI (dq D_X3_whyNotTake 40 rfl) fa_RX3_73 hx2 ?_
    obtain ⟨q3, hq3, h⟩ := obi h
    refine v_cVi (bc := 0) (bs := 0) (As := [.int x2]) (dq D_X3_whyNotTake 41 rfl) cv_X3_freeBits ml_RX3_135 (itg hq3).1 (m_X3_freeBits hq3) rfl rfl (Nat.le_of_ble_eq_true rfl) ⟨Nat.le_of_ble_eq_true rfl, Nat.le_of_ble_eq_true rfl⟩ ⟨Nat.le_of_ble_eq_true rfl, Nat.le_of_ble_eq_true rfl⟩ ?_
    refine v_if_ne (dq D_X3_whyNotTake 42 rfl) rfl (fun c4 => ?_) (fun c4 => ?_)
    · have h := itn h c4
      exact v_sub [] rfl (w_X3_whyNotTake_89 h)
    · have h := itp h c4
      refine v_iconst (dq D_X3_whyNotTake 43 rfl) kc_4 ?_
      refine v_goto (dq D_X3_whyNotTake 44 rfl) rfl ?_
      exact v_sub [] rfl (w_X3_whyNotTake_90 h)
theorem w_X3_whyNotTake_68 {sa : Env3} {a0 : Nat} {σ : St} {r : Int32 × St} (h : f_X3_whyNotTake_68 a0 σ = some r) : VV sa cX3_whyNotTake K_X3_whyNotTake 68 [(0, .ref a0)] [] σ (pO r) 0 0 := by
  unfold f_X3_whyNotTake_68 at h
  refine v_iconst (dq D_X3_whyNotTake 34 rfl) kc_0 ?_
  exact w_X3_whyNotTake_69 h
theorem w_X3_whyNotTake_0 {sa : Env3} {a0 : Nat} {σ : St} {r : Int32 × St} (h : f_X3_whyNotTake_0 a0 σ = some r) : VV sa cX3_whyNotTake K_X3_whyNotTake 0 [(0, .ref a0)] [] σ (pO r) 0 0 := by
  unfold f_X3_whyNotTake_0 at h
  refine v_aload_n (dq D_X3_whyNotTake 0 rfl) 0 rfl ?_
  obtain ⟨x1, hx1, h⟩ := obi h
  refine v_gI (dq D_X3_whyNotTake 1 rfl) fa_RX3_57 hx1 ?_
  refine v_if_eq (dq D_X3_whyNotTake 2 rfl) rfl (fun c2 => ?_) (fun c2 => ?_)
  · have h := itp h c2
    refine v_aload_n (dq D_X3_whyNotTake 5 rfl) 0 rfl ?_
    obtain ⟨x3, hx3, h⟩ := obi h
    refine v_gR (dq D_X3_whyNotTake 6 rfl) fa_RX3_30 hx3 ?_
    refine v_aload_n (dq D_X3_whyNotTake 7 rfl) 0 rfl ?_
    obtain ⟨x4, hx4, h⟩ := obi h
    refine v_gI (dq D_X3_whyNotTake 8 rfl) fa_RX3_54 hx4 ?_
    obtain ⟨q5, hq5, h⟩ := obi h
    refine v_cVi (bc := 0) (bs := 0) (As := [.int x4]) (dq D_X3_whyNotTake 9 rfl) cv_X5_has ml_RX3_122 (itg hq5).1 (m_X5_has hq5) rfl rfl (Nat.le_of_ble_eq_true rfl) ⟨Nat.le_of_ble_eq_true rfl, Nat.le_of_ble_eq_true rfl⟩ ⟨Nat.le_of_ble_eq_true rfl, Nat.le_of_ble_eq_true rfl⟩ ?_
    refine v_if_ne (dq D_X3_whyNotTake 10 rfl) rfl (fun c6 => ?_) (fun c6 => ?_)
    · have h := itn h c6
      refine v_aload_n (dq D_X3_whyNotTake 13 rfl) 0 rfl ?_
      obtain ⟨x7, hx7, h⟩ := obi h
      refine v_gI (dq D_X3_whyNotTake 14 rfl) fa_RX3_73 hx7 ?_
      refine v_aload_n (dq D_X3_whyNotTake 15 rfl) 0 rfl ?_
      obtain ⟨x8, hx8, h⟩ := obi h
      refine v_gR (dq D_X3_whyNotTake 16 rfl) fa_RX3_30 hx8 ?_
      obtain ⟨x9, hx9, h⟩ := obi h
      refine v_gI (dq D_X3_whyNotTake 17 rfl) fa_RX3_125 hx9 ?_
      refine v_icmp_lt (dq D_X3_whyNotTake 18 rfl) rfl (fun c10 => ?_) (fun c10 => ?_)
      · have h := itp h c10
        refine v_aload_n (dq D_X3_whyNotTake 21 rfl) 0 rfl ?_
        obtain ⟨x11, hx11, h⟩ := obi h
        refine v_gR (dq D_X3_whyNotTake 22 rfl) fa_RX3_30 hx11 ?_
        obtain ⟨x12, hx12, h⟩ := obi h
        refine v_gR (dq D_X3_whyNotTake 23 rfl) fa_RX3_128 hx12 ?_
        refine v_aload_n (dq D_X3_whyNotTake 24 rfl) 0 rfl ?_
        obtain ⟨x13, hx13, h⟩ := obi h
        refine v_gI (dq D_X3_whyNotTake 25 rfl) fa_RX3_54 hx13 ?_
        obtain ⟨x14, hx14, h⟩ := obi h
        refine v_iald (dq D_X3_whyNotTake 26 rfl) hx14 ?_
        refine v_iconst (dq D_X3_whyNotTake 27 rfl) kc_5 ?_
        refine v_icmp_eq (dq D_X3_whyNotTake 28 rfl) rfl (fun c15 => ?_) (fun c15 => ?_)
        · have h := itp h c15
          exact w_X3_whyNotTake_68 h
        · have h := itn h c15
          refine v_aload_n (dq D_X3_whyNotTake 29 rfl) 0 rfl ?_
          obtain ⟨q16, hq16, h⟩ := obi h
          refine v_cVi (bc := 0) (bs := 0) (As := []) (dq D_X3_whyNotTake 30 rfl) cv_X3_mergesNext ml_RX3_131 (itg hq16).1 (m_X3_mergesNext hq16) rfl rfl (Nat.le_of_ble_eq_true rfl) ⟨Nat.le_of_ble_eq_true rfl, Nat.le_of_ble_eq_true rfl⟩ ⟨Nat.le_of_ble_eq_true rfl, Nat.le_of_ble_eq_true rfl⟩ ?_
          refine v_if_ne (dq D_X3_whyNotTake 31 rfl) rfl (fun c17 => ?_) (fun c17 => ?_)
          · have h := itn h c17
            exact w_X3_whyNotTake_68 h
          · have h := itp h c17
            refine v_iconst (dq D_X3_whyNotTake 32 rfl) kc_1 ?_
            refine v_goto (dq D_X3_whyNotTake 33 rfl) rfl ?_
            exact w_X3_whyNotTake_69 h
      · have h := itn h c10
        refine v_iconst (dq D_X3_whyNotTake 19 rfl) kc_3 ?_
        obtain rfl := Option.some.inj h
        exact v_iret (dq D_X3_whyNotTake 20 rfl) rfl ⟨rfl, rfl⟩
    · have h := itp h c6
      refine v_iconst (dq D_X3_whyNotTake 11 rfl) kc_2 ?_
      obtain rfl := Option.some.inj h
      exact v_iret (dq D_X3_whyNotTake 12 rfl) rfl ⟨rfl, rfl⟩
  · have h := itn h c2
    refine v_iconst (dq D_X3_whyNotTake 3 rfl) kc_1 ?_
    obtain rfl := Option.some.inj h
    exact v_iret (dq D_X3_whyNotTake 4 rfl) rfl ⟨rfl, rfl⟩
theorem m_X3_whyNotTake {sa : Env3} {a0 : Nat} {σ : St} {r : Int32 × St} (h : f_X3_whyNotTake a0 σ = some r) : Ex sa yX3_whyNotTake cX3_whyNotTake K_X3_whyNotTake [.ref a0] σ (pO r) := Ex.of (by decide) rfl (fun q => nomatch q) (Nat.le_of_ble_eq_true rfl) (w_X3_whyNotTake_0 (itg h).2)
theorem w_X3_cellToRead_21 {sa : Env3} {s0 : Int32} {σ : St} {r : Int32 × St} (h : f_X3_cellToRead_21 s0 σ = some r) : VV sa cX3_cellToRead K_X3_cellToRead 21 [] [.int s0] σ (pO r) 0 0 := by
  unfold f_X3_cellToRead_21 at h
  obtain rfl := Option.some.inj h
  exact v_iret (dq D_X3_cellToRead 10 rfl) rfl ⟨rfl, rfl⟩
theorem w_X3_cellToRead_0 {sa : Env3} {a0 : Nat} {a1 : Int32} {σ : St} {r : Int32 × St} (h : f_X3_cellToRead_0 a0 a1 σ = some r) : VV sa cX3_cellToRead K_X3_cellToRead 0 [(0, .ref a0), (1, .int a1)] [] σ (pO r) 0 0 := by
  unfold f_X3_cellToRead_0 at h
  refine v_iload_n (dq D_X3_cellToRead 0 rfl) 1 rfl ?_
  obtain ⟨q1, hq1, h⟩ := obi h
  refine v_cSi (bc := 0) (bs := 0) (As := [.int a1]) (dq D_X3_cellToRead 1 rfl) cs_X8_isRegister ml_RX3_169 (m_X8_isRegister hq1) rfl rfl (Nat.le_of_ble_eq_true rfl) ⟨Nat.le_of_ble_eq_true rfl, Nat.le_of_ble_eq_true rfl⟩ ⟨Nat.le_of_ble_eq_true rfl, Nat.le_of_ble_eq_true rfl⟩ ?_
  refine v_if_eq (dq D_X3_cellToRead 2 rfl) rfl (fun c2 => ?_) (fun c2 => ?_)
  · have h := itp h c2
    refine v_bipush (dq D_X3_cellToRead 9 rfl) kb_m2 ?_
    exact v_sub [] rfl (w_X3_cellToRead_21 h)
  · have h := itn h c2
    refine v_aload_n (dq D_X3_cellToRead 3 rfl) 0 rfl ?_
    refine v_aload_n (dq D_X3_cellToRead 4 rfl) 0 rfl ?_
    obtain ⟨x3, hx3, h⟩ := obi h
    refine v_gI (dq D_X3_cellToRead 5 rfl) fa_RX3_73 hx3 ?_
    refine v_iload_n (dq D_X3_cellToRead 6 rfl) 1 rfl ?_
    obtain ⟨q4, hq4, h⟩ := obi h
    refine v_cVi (bc := 0) (bs := 0) (As := [.int x3, .int a1]) (dq D_X3_cellToRead 7 rfl) cv_X3_mapBy ml_RX3_141 (itg hq4).1 (m_X3_mapBy hq4) rfl rfl (Nat.le_of_ble_eq_true rfl) ⟨Nat.le_of_ble_eq_true rfl, Nat.le_of_ble_eq_true rfl⟩ ⟨Nat.le_of_ble_eq_true rfl, Nat.le_of_ble_eq_true rfl⟩ ?_
    refine v_goto (dq D_X3_cellToRead 8 rfl) rfl ?_
    exact v_sub [] rfl (w_X3_cellToRead_21 h)
theorem m_X3_cellToRead {sa : Env3} {a0 : Nat} {a1 : Int32} {σ : St} {r : Int32 × St} (h : f_X3_cellToRead a0 a1 σ = some r) : Ex sa yX3_cellToRead cX3_cellToRead K_X3_cellToRead [.ref a0, .int a1] σ (pO r) := Ex.of (by decide) rfl (fun q => nomatch q) (Nat.le_of_ble_eq_true rfl) (w_X3_cellToRead_0 (itg h).2)
theorem w_X3_saveIfRoom_29 {sa : Env3}  {σ : St} {r : St} (h : f_X3_saveIfRoom_29  σ = some r) : VV sa cX3_saveIfRoom K_X3_saveIfRoom 29 [] [] σ (pU r) 0 0 := by
  unfold f_X3_saveIfRoom_29 at h
  obtain rfl := Option.some.inj h
  exact v_vret (dq D_X3_saveIfRoom 15 rfl) rfl ⟨rfl, rfl⟩
theorem w_X3_saveIfRoom_0 {sa : Env3} {a0 : Nat} {a1 : Int32} {σ : St} {r : St} (h : f_X3_saveIfRoom_0 a0 a1 σ = some r) : VV sa cX3_saveIfRoom K_X3_saveIfRoom 0 [(0, .ref a0), (1, .int a1)] [] σ (pU r) 0 0 := by
  unfold f_X3_saveIfRoom_0 at h
  refine v_aload_n (dq D_X3_saveIfRoom 0 rfl) 0 rfl ?_
  obtain ⟨x1, hx1, h⟩ := obi h
  refine v_gI (dq D_X3_saveIfRoom 1 rfl) fa_RX3_88 hx1 ?_
  obtain ⟨q2, hq2, h⟩ := obi h
  refine v_cSi (bc := 0) (bs := 0) (As := [.int x1]) (dq D_X3_saveIfRoom 2 rfl) cs_J6_bitCount_0f7a4 ml_RX3_172 (m_J6_bitCount_0f7a4 hq2) rfl rfl (Nat.le_of_ble_eq_true rfl) ⟨Nat.le_of_ble_eq_true rfl, Nat.le_of_ble_eq_true rfl⟩ ⟨Nat.le_of_ble_eq_true rfl, Nat.le_of_ble_eq_true rfl⟩ ?_
  refine v_aload_n (dq D_X3_saveIfRoom 3 rfl) 0 rfl ?_
  obtain ⟨x3, hx3, h⟩ := obi h
  refine v_gR (dq D_X3_saveIfRoom 4 rfl) fa_RX3_30 hx3 ?_
  obtain ⟨x4, hx4, h⟩ := obi h
  refine v_gI (dq D_X3_saveIfRoom 5 rfl) fa_RX3_175 hx4 ?_
  refine v_icmp_ge (dq D_X3_saveIfRoom 6 rfl) rfl (fun c5 => ?_) (fun c5 => ?_)
  · have h := itp h c5
    exact v_sub [] rfl (w_X3_saveIfRoom_29 h)
  · have h := itn h c5
    refine v_aload_n (dq D_X3_saveIfRoom 7 rfl) 0 rfl ?_
    refine v_dup (dq D_X3_saveIfRoom 8 rfl) rfl ?_
    obtain ⟨x6, hx6, h⟩ := obi h
    refine v_gI (dq D_X3_saveIfRoom 9 rfl) fa_RX3_88 hx6 ?_
    refine v_iconst (dq D_X3_saveIfRoom 10 rfl) kc_1 ?_
    refine v_iload_n (dq D_X3_saveIfRoom 11 rfl) 1 rfl ?_
    refine v_ishl (dq D_X3_saveIfRoom 12 rfl) ?_
    refine v_ior (dq D_X3_saveIfRoom 13 rfl) ?_
    obtain ⟨σ7, hσ7, h⟩ := obi h
    refine v_pI (dq D_X3_saveIfRoom 14 rfl) fp_RX3_88 hσ7 ?_
    exact v_sub [] rfl (w_X3_saveIfRoom_29 h)
theorem m_X3_saveIfRoom {sa : Env3} {a0 : Nat} {a1 : Int32} {σ : St} {r : St} (h : f_X3_saveIfRoom a0 a1 σ = some r) : Ex sa yX3_saveIfRoom cX3_saveIfRoom K_X3_saveIfRoom [.ref a0, .int a1] σ (pU r) := Ex.of (by decide) rfl (fun q => nomatch q) (Nat.le_of_ble_eq_true rfl) (w_X3_saveIfRoom_0 (itg h).2)
theorem w_X3_claim_46 {sa : Env3} {k17 : Nat → Int32 → Int32 → St → Option (St)} (hk17 : ∀ {a0 : Nat} {a1 : Int32} {a2 : Int32} {σ : St} {r : St}, k17 a0 a1 a2 σ = some r → VV sa cX3_claim K_X3_claim 17 [(0, .ref a0), (1, .int a1), (2, .int a2)] [] σ (pU r) 0 0) {a0 : Nat} {a1 : Int32} {a2 : Int32} {σ : St} {r : St} (h : f_X3_claim_46 k17 a0 a1 a2 σ = some r) : VV sa cX3_claim K_X3_claim 46 [(0, .ref a0), (1, .int a1), (2, .int a2)] [] σ (pU r) 0 0 := by
  unfold f_X3_claim_46 at h
  refine v_iinc (dq D_X3_claim 27 rfl) 2 [(2, .int (a2 + 1)), (0, .ref a0), (1, .int a1)] rfl kc_1 (Nat.le_of_ble_eq_true rfl) rfl ?_
  refine v_goto (dq D_X3_claim 28 rfl) rfl ?_
  exact v_sub [1, 2, 0] rfl (hk17 h)
theorem w_X3_claim_17 {sa : Env3} : ∀ (n : Nat) {a0 : Nat} {a1 : Int32} {a2 : Int32} {σ : St} {r : St}, f_X3_claim_17 n a0 a1 a2 σ = some r → VV sa cX3_claim K_X3_claim 17 [(0, .ref a0), (1, .int a1), (2, .int a2)] [] σ (pU r) 0 0 := by
  intro n
  induction n with
  | zero => intro a0 a1 a2 σ r h; cases h
  | succ n ih =>
    intro a0 a1 a2 σ r h
    rw [e_X3_claim_17] at h
    refine v_iload_n (dq D_X3_claim 11 rfl) 2 rfl ?_
    refine v_bipush (dq D_X3_claim 12 rfl) kb_8 ?_
    refine v_icmp_ge (dq D_X3_claim 13 rfl) rfl (fun c1 => ?_) (fun c1 => ?_)
    · have h := itp h c1
      obtain rfl := Option.some.inj h
      exact v_vret (dq D_X3_claim 29 rfl) rfl ⟨rfl, rfl⟩
    · have h := itn h c1
      refine v_aload_n (dq D_X3_claim 14 rfl) 0 rfl ?_
      obtain ⟨x2, hx2, h⟩ := obi h
      refine v_gR (dq D_X3_claim 15 rfl) fa_RX3_15 hx2 ?_
      refine v_iload_n (dq D_X3_claim 16 rfl) 2 rfl ?_
      obtain ⟨x3, hx3, h⟩ := obi h
      refine v_iald (dq D_X3_claim 17 rfl) hx3 ?_
      refine v_iload_n (dq D_X3_claim 18 rfl) 1 rfl ?_
      refine v_icmp_ne (dq D_X3_claim 19 rfl) rfl (fun c4 => ?_) (fun c4 => ?_)
      · have h := itn h c4
        exact w_X3_claim_46 ih h
      · have h := itp h c4
        refine v_aload_n (dq D_X3_claim 20 rfl) 0 rfl ?_
        refine v_dup (dq D_X3_claim 21 rfl) rfl ?_
        obtain ⟨x5, hx5, h⟩ := obi h
        refine v_gI (dq D_X3_claim 22 rfl) fa_RX3_47 hx5 ?_
        refine v_iload_n (dq D_X3_claim 23 rfl) 2 rfl ?_
        obtain ⟨q6, hq6, h⟩ := obi h
        refine v_cSi (bc := 0) (bs := 0) (As := [.int a2]) (dq D_X3_claim 24 rfl) cs_X3_bitOf ml_RX3_109 (m_X3_bitOf hq6) rfl rfl (Nat.le_of_ble_eq_true rfl) ⟨Nat.le_of_ble_eq_true rfl, Nat.le_of_ble_eq_true rfl⟩ ⟨Nat.le_of_ble_eq_true rfl, Nat.le_of_ble_eq_true rfl⟩ ?_
        refine v_ior (dq D_X3_claim 25 rfl) ?_
        obtain ⟨σ7, hσ7, h⟩ := obi h
        refine v_pI (dq D_X3_claim 26 rfl) fp_RX3_47 hσ7 ?_
        exact w_X3_claim_46 ih h
theorem w_X3_claim_0 {sa : Env3} {a0 : Nat} {a1 : Int32} {σ : St} {r : St} (h : f_X3_claim_0 a0 a1 σ = some r) : VV sa cX3_claim K_X3_claim 0 [(0, .ref a0), (1, .int a1)] [] σ (pU r) 0 0 := by
  unfold f_X3_claim_0 at h
  refine v_aload_n (dq D_X3_claim 0 rfl) 0 rfl ?_
  refine v_dup (dq D_X3_claim 1 rfl) rfl ?_
  obtain ⟨x1, hx1, h⟩ := obi h
  refine v_gI (dq D_X3_claim 2 rfl) fa_RX3_44 hx1 ?_
  refine v_iload_n (dq D_X3_claim 3 rfl) 1 rfl ?_
  obtain ⟨q2, hq2, h⟩ := obi h
  refine v_cSi (bc := 0) (bs := 0) (As := [.int a1]) (dq D_X3_claim 4 rfl) cs_X3_bitOf ml_RX3_109 (m_X3_bitOf hq2) rfl rfl (Nat.le_of_ble_eq_true rfl) ⟨Nat.le_of_ble_eq_true rfl, Nat.le_of_ble_eq_true rfl⟩ ⟨Nat.le_of_ble_eq_true rfl, Nat.le_of_ble_eq_true rfl⟩ ?_
  refine v_iconst (dq D_X3_claim 5 rfl) kc_m1 ?_
  refine v_ixor (dq D_X3_claim 6 rfl) ?_
  refine v_iand (dq D_X3_claim 7 rfl) ?_
  obtain ⟨σ3, hσ3, h⟩ := obi h
  refine v_pI (dq D_X3_claim 8 rfl) fp_RX3_44 hσ3 ?_
  refine v_iconst (dq D_X3_claim 9 rfl) kc_0 ?_
  refine v_istore_n (dq D_X3_claim 10 rfl) [(2, .int 0), (0, .ref a0), (1, .int a1)] rfl (Nat.le_of_ble_eq_true rfl) rfl ?_
  exact v_sub [1, 2, 0] rfl (w_X3_claim_17 _ h)
theorem m_X3_claim {sa : Env3} {a0 : Nat} {a1 : Int32} {σ : St} {r : St} (h : f_X3_claim a0 a1 σ = some r) : Ex sa yX3_claim cX3_claim K_X3_claim [.ref a0, .int a1] σ (pU r) := Ex.of (by decide) rfl (fun q => nomatch q) (Nat.le_of_ble_eq_true rfl) (w_X3_claim_0 (itg h).2)
theorem w_X5_isRisky_25 {sa : Env3} {s0 : Int32} {σ : St} {r : Int32 × St} (h : f_X5_isRisky_25 s0 σ = some r) : VV sa cX5_isRisky K_X5_isRisky 25 [] [.int s0] σ (pO r) 0 0 := by
  unfold f_X5_isRisky_25 at h
  have hz := (itg h).1
  have h := (itg h).2
  obtain rfl := Option.some.inj h
  exact v_zret (dq D_X5_isRisky 15 rfl) rfl (z_nar hz) ⟨rfl, rfl⟩
theorem w_X5_isRisky_20 {sa : Env3}  {σ : St} {r : Int32 × St} (h : f_X5_isRisky_20  σ = some r) : VV sa cX5_isRisky K_X5_isRisky 20 [] [] σ (pO r) 0 0 := by
  unfold f_X5_isRisky_20 at h
  refine v_iconst (dq D_X5_isRisky 12 rfl) kc_1 ?_
  refine v_goto (dq D_X5_isRisky 13 rfl) rfl ?_
  exact w_X5_isRisky_25 h
theorem w_X5_isRisky_0 {sa : Env3} {a0 : Nat} {a1 : Int32} {σ : St} {r : Int32 × St} (h : f_X5_isRisky_0 a0 a1 σ = some r) : VV sa cX5_isRisky K_X5_isRisky 0 [(0, .ref a0), (1, .int a1)] [] σ (pO r) 0 0 := by
  unfold f_X5_isRisky_0 at h
  refine v_aload_n (dq D_X5_isRisky 0 rfl) 0 rfl ?_
  obtain ⟨x1, hx1, h⟩ := obi h
  refine v_gR (dq D_X5_isRisky 1 rfl) fa_RX5_9 hx1 ?_
  refine v_iload_n (dq D_X5_isRisky 2 rfl) 1 rfl ?_
  obtain ⟨x2, hx2, h⟩ := obi h
  refine v_iald (dq D_X5_isRisky 3 rfl) hx2 ?_
  refine v_iconst (dq D_X5_isRisky 4 rfl) kc_5 ?_
  refine v_icmp_eq (dq D_X5_isRisky 5 rfl) rfl (fun c3 => ?_) (fun c3 => ?_)
  · have h := itp h c3
    exact v_sub [] rfl (w_X5_isRisky_20 h)
  · have h := itn h c3
    refine v_aload_n (dq D_X5_isRisky 6 rfl) 0 rfl ?_
    obtain ⟨x4, hx4, h⟩ := obi h
    refine v_gR (dq D_X5_isRisky 7 rfl) fa_RX5_9 hx4 ?_
    refine v_iload_n (dq D_X5_isRisky 8 rfl) 1 rfl ?_
    obtain ⟨x5, hx5, h⟩ := obi h
    refine v_iald (dq D_X5_isRisky 9 rfl) hx5 ?_
    refine v_iconst (dq D_X5_isRisky 10 rfl) kc_3 ?_
    refine v_icmp_ne (dq D_X5_isRisky 11 rfl) rfl (fun c6 => ?_) (fun c6 => ?_)
    · have h := itn h c6
      refine v_iconst (dq D_X5_isRisky 14 rfl) kc_0 ?_
      exact v_sub [] rfl (w_X5_isRisky_25 h)
    · have h := itp h c6
      exact v_sub [] rfl (w_X5_isRisky_20 h)
theorem m_X5_isRisky {sa : Env3} {a0 : Nat} {a1 : Int32} {σ : St} {r : Int32 × St} (h : f_X5_isRisky a0 a1 σ = some r) : Ex sa yX5_isRisky cX5_isRisky K_X5_isRisky [.ref a0, .int a1] σ (pO r) := Ex.of (by decide) rfl (fun q => nomatch q) (Nat.le_of_ble_eq_true rfl) (w_X5_isRisky_0 (itg h).2)
theorem w_X3_take_173 {sa : Env3} {a0 : Nat} {a1 : Int32} {a2 : Int32} {σ : St} {r : Int32 × St} (h : f_X3_take_173 a0 a1 a2 σ = some r) : VV sa cX3_take K_X3_take 173 [(0, .ref a0), (1, .int a1), (2, .int a2)] [] σ (pO r) 0 0 := by
  unfold f_X3_take_173 at h
  refine v_aload_n (dq D_X3_take 100 rfl) 0 rfl ?_
  obtain ⟨x1, hx1, h⟩ := obi h
  refine v_gR (dq D_X3_take 101 rfl) fa_RX3_18 hx1 ?_
  refine v_iload_n (dq D_X3_take 102 rfl) 2 rfl ?_
  refine v_iload_n (dq D_X3_take 103 rfl) 1 rfl ?_
  obtain ⟨σ2, hσ2, h⟩ := obi h
  refine v_iast (dq D_X3_take 104 rfl) hσ2 ?_
  refine v_aload_n (dq D_X3_take 105 rfl) 0 rfl ?_
  refine v_dup (dq D_X3_take 106 rfl) rfl ?_
  obtain ⟨x3, hx3, h⟩ := obi h
  refine v_gI (dq D_X3_take 107 rfl) fa_RX3_73 hx3 ?_
  refine v_iconst (dq D_X3_take 108 rfl) kc_1 ?_
  refine v_iadd (dq D_X3_take 109 rfl) ?_
  obtain ⟨σ4, hσ4, h⟩ := obi h
  refine v_pI (dq D_X3_take 110 rfl) fp_RX3_73 hσ4 ?_
  refine v_aload_n (dq D_X3_take 111 rfl) 0 rfl ?_
  refine v_aload_n (dq D_X3_take 112 rfl) 0 rfl ?_
  obtain ⟨x5, hx5, h⟩ := obi h
  refine v_gR (dq D_X3_take 113 rfl) fa_RX3_30 hx5 ?_
  refine v_iload_n (dq D_X3_take 114 rfl) 1 rfl ?_
  obtain ⟨q6, hq6, h⟩ := obi h
  refine v_cVi (bc := 0) (bs := 0) (As := [.int a1]) (dq D_X3_take 115 rfl) cv_X5_guessBehind ml_RX3_166 (itg hq6).1 (m_X5_guessBehind hq6) rfl rfl (Nat.le_of_ble_eq_true rfl) ⟨Nat.le_of_ble_eq_true rfl, Nat.le_of_ble_eq_true rfl⟩ ⟨Nat.le_of_ble_eq_true rfl, Nat.le_of_ble_eq_true rfl⟩ ?_
  obtain ⟨σ7, hσ7, h⟩ := obi h
  refine v_pI (dq D_X3_take 116 rfl) fp_RX3_54 hσ7 ?_
  refine v_iload_n (dq D_X3_take 117 rfl) 1 rfl ?_
  obtain rfl := Option.some.inj h
  exact v_iret (dq D_X3_take 118 rfl) rfl ⟨rfl, rfl⟩
theorem w_X3_take_150 {sa : Env3} {a0 : Nat} {a1 : Int32} {a2 : Int32} {σ : St} {r : Int32 × St} (h : f_X3_take_150 a0 a1 a2 σ = some r) : VV sa cX3_take K_X3_take 150 [(0, .ref a0), (1, .int a1), (2, .int a2)] [] σ (pO r) 0 0 := by
  unfold f_X3_take_150 at h
  refine v_aload_n (dq D_X3_take 87 rfl) 0 rfl ?_
  obtain ⟨x1, hx1, h⟩ := obi h
  refine v_gR (dq D_X3_take 88 rfl) fa_RX3_30 hx1 ?_
  refine v_iload_n (dq D_X3_take 89 rfl) 1 rfl ?_
  obtain ⟨q2, hq2, h⟩ := obi h
  refine v_cVi (bc := 0) (bs := 0) (As := [.int a1]) (dq D_X3_take 90 rfl) cv_X5_isRisky ml_RX3_163 (itg hq2).1 (m_X5_isRisky hq2) rfl rfl (Nat.le_of_ble_eq_true rfl) ⟨Nat.le_of_ble_eq_true rfl, Nat.le_of_ble_eq_true rfl⟩ ⟨Nat.le_of_ble_eq_true rfl, Nat.le_of_ble_eq_true rfl⟩ ?_
  refine v_if_eq (dq D_X3_take 91 rfl) rfl (fun c3 => ?_) (fun c3 => ?_)
  · have h := itp h c3
    exact w_X3_take_173 h
  · have h := itn h c3
    refine v_aload_n (dq D_X3_take 92 rfl) 0 rfl ?_
    refine v_dup (dq D_X3_take 93 rfl) rfl ?_
    obtain ⟨x4, hx4, h⟩ := obi h
    refine v_gI (dq D_X3_take 94 rfl) fa_RX3_76 hx4 ?_
    refine v_iconst (dq D_X3_take 95 rfl) kc_1 ?_
    refine v_iload_n (dq D_X3_take 96 rfl) 2 rfl ?_
    refine v_ishl (dq D_X3_take 97 rfl) ?_
    refine v_ior (dq D_X3_take 98 rfl) ?_
    obtain ⟨σ5, hσ5, h⟩ := obi h
    refine v_pI (dq D_X3_take 99 rfl) fp_RX3_76 hσ5 ?_
    exact w_X3_take_173 h
theorem w_X3_take_0 {sa : Env3} {a0 : Nat} {σ : St} {r : Int32 × St} (h : f_X3_take_0 a0 σ = some r) : VV sa cX3_take K_X3_take 0 [(0, .ref a0)] [] σ (pO r) 0 0 := by
  unfold f_X3_take_0 at h
  refine v_aload_n (dq D_X3_take 0 rfl) 0 rfl ?_
  obtain ⟨x1, hx1, h⟩ := obi h
  refine v_gI (dq D_X3_take 1 rfl) fa_RX3_54 hx1 ?_
  refine v_istore_n (dq D_X3_take 2 rfl) [(1, .int x1), (0, .ref a0)] rfl (Nat.le_of_ble_eq_true rfl) rfl ?_
  refine v_aload_n (dq D_X3_take 3 rfl) 1 rfl ?_
  obtain ⟨x2, hx2, h⟩ := obi h
  refine v_gI (dq D_X3_take 4 rfl) fa_RX3_73 hx2 ?_
  refine v_istore_n (dq D_X3_take 5 rfl) [(2, .int x2), (1, .int x1), (0, .ref a0)] rfl (Nat.le_of_ble_eq_true rfl) rfl ?_
  refine v_aload_n (dq D_X3_take 6 rfl) 2 rfl ?_
  obtain ⟨x3, hx3, h⟩ := obi h
  refine v_gR (dq D_X3_take 7 rfl) fa_RX3_24 hx3 ?_
  refine v_iload_n (dq D_X3_take 8 rfl) 0 rfl ?_
  refine v_aload_n (dq D_X3_take 9 rfl) 2 rfl ?_
  refine v_aload_n (dq D_X3_take 10 rfl) 2 rfl ?_
  obtain ⟨x4, hx4, h⟩ := obi h
  refine v_gR (dq D_X3_take 11 rfl) fa_RX3_30 hx4 ?_
  obtain ⟨x5, hx5, h⟩ := obi h
  refine v_gR (dq D_X3_take 12 rfl) fa_RX3_138 hx5 ?_
  refine v_iload_n (dq D_X3_take 13 rfl) 1 rfl ?_
  obtain ⟨x6, hx6, h⟩ := obi h
  refine v_iald (dq D_X3_take 14 rfl) hx6 ?_
  obtain ⟨q7, hq7, h⟩ := obi h
  refine v_cVi (bc := 0) (bs := 0) (As := [.int x6]) (dq D_X3_take 15 rfl) cv_X3_cellToRead ml_RX3_151 (itg hq7).1 (m_X3_cellToRead hq7) rfl rfl (Nat.le_of_ble_eq_true rfl) ⟨Nat.le_of_ble_eq_true rfl, Nat.le_of_ble_eq_true rfl⟩ ⟨Nat.le_of_ble_eq_true rfl, Nat.le_of_ble_eq_true rfl⟩ ?_
  obtain ⟨σ8, hσ8, h⟩ := obi h
  refine v_iast (dq D_X3_take 16 rfl) hσ8 ?_
  refine v_aload_n (dq D_X3_take 17 rfl) 2 rfl ?_
  obtain ⟨x9, hx9, h⟩ := obi h
  refine v_gR (dq D_X3_take 18 rfl) fa_RX3_27 hx9 ?_
  refine v_iload_n (dq D_X3_take 19 rfl) 0 rfl ?_
  refine v_aload_n (dq D_X3_take 20 rfl) 2 rfl ?_
  refine v_aload_n (dq D_X3_take 21 rfl) 2 rfl ?_
  obtain ⟨x10, hx10, h⟩ := obi h
  refine v_gR (dq D_X3_take 22 rfl) fa_RX3_30 hx10 ?_
  obtain ⟨x11, hx11, h⟩ := obi h
  refine v_gR (dq D_X3_take 23 rfl) fa_RX3_154 hx11 ?_
  refine v_iload_n (dq D_X3_take 24 rfl) 1 rfl ?_
  obtain ⟨x12, hx12, h⟩ := obi h
  refine v_iald (dq D_X3_take 25 rfl) hx12 ?_
  obtain ⟨q13, hq13, h⟩ := obi h
  refine v_cVi (bc := 0) (bs := 0) (As := [.int x12]) (dq D_X3_take 26 rfl) cv_X3_cellToRead ml_RX3_151 (itg hq13).1 (m_X3_cellToRead hq13) rfl rfl (Nat.le_of_ble_eq_true rfl) ⟨Nat.le_of_ble_eq_true rfl, Nat.le_of_ble_eq_true rfl⟩ ⟨Nat.le_of_ble_eq_true rfl, Nat.le_of_ble_eq_true rfl⟩ ?_
  obtain ⟨σ14, hσ14, h⟩ := obi h
  refine v_iast (dq D_X3_take 27 rfl) hσ14 ?_
  refine v_aload_n (dq D_X3_take 28 rfl) 2 rfl ?_
  obtain ⟨x15, hx15, h⟩ := obi h
  refine v_gR (dq D_X3_take 29 rfl) fa_RX3_30 hx15 ?_
  obtain ⟨x16, hx16, h⟩ := obi h
  refine v_gR (dq D_X3_take 30 rfl) fa_RX3_128 hx16 ?_
  refine v_iload_n (dq D_X3_take 31 rfl) 1 rfl ?_
  obtain ⟨x17, hx17, h⟩ := obi h
  refine v_iald (dq D_X3_take 32 rfl) hx17 ?_
  refine v_iconst (dq D_X3_take 33 rfl) kc_5 ?_
  refine v_icmp_ne (dq D_X3_take 34 rfl) rfl (fun c18 => ?_) (fun c18 => ?_)
  · have h := itn h c18
    refine v_aload_n (dq D_X3_take 44 rfl) 2 rfl ?_
    obtain ⟨q19, hq19, h⟩ := obi h
    refine v_cVi (bc := 0) (bs := 0) (As := []) (dq D_X3_take 45 rfl) cv_X3_mergesNext ml_RX3_131 (itg hq19).1 (m_X3_mergesNext hq19) rfl rfl (Nat.le_of_ble_eq_true rfl) ⟨Nat.le_of_ble_eq_true rfl, Nat.le_of_ble_eq_true rfl⟩ ⟨Nat.le_of_ble_eq_true rfl, Nat.le_of_ble_eq_true rfl⟩ ?_
    refine v_if_eq (dq D_X3_take 46 rfl) rfl (fun c20 => ?_) (fun c20 => ?_)
    · have h := itp h c20
      refine v_aload_n (dq D_X3_take 72 rfl) 2 rfl ?_
      obtain ⟨x21, hx21, h⟩ := obi h
      refine v_gR (dq D_X3_take 73 rfl) fa_RX3_21 hx21 ?_
      refine v_iload_n (dq D_X3_take 74 rfl) 0 rfl ?_
      refine v_aload_n (dq D_X3_take 75 rfl) 2 rfl ?_
      refine v_aload_n (dq D_X3_take 76 rfl) 2 rfl ?_
      obtain ⟨x22, hx22, h⟩ := obi h
      refine v_gI (dq D_X3_take 77 rfl) fa_RX3_73 hx22 ?_
      obtain ⟨q23, hq23, h⟩ := obi h
      refine v_cVi (bc := 0) (bs := 0) (As := [.int x22]) (dq D_X3_take 78 rfl) cv_X3_freeBits ml_RX3_135 (itg hq23).1 (m_X3_freeBits hq23) rfl rfl (Nat.le_of_ble_eq_true rfl) ⟨Nat.le_of_ble_eq_true rfl, Nat.le_of_ble_eq_true rfl⟩ ⟨Nat.le_of_ble_eq_true rfl, Nat.le_of_ble_eq_true rfl⟩ ?_
      obtain ⟨q24, hq24, h⟩ := obi h
      refine v_cSi (bc := 0) (bs := 0) (As := [.int q23.1]) (dq D_X3_take 79 rfl) cs_J6_numberOfTrailingZeros_0f7a4 ml_RX3_96 (m_J6_numberOfTrailingZeros_0f7a4 hq24) rfl rfl (Nat.le_of_ble_eq_true rfl) ⟨Nat.le_of_ble_eq_true rfl, Nat.le_of_ble_eq_true rfl⟩ ⟨Nat.le_of_ble_eq_true rfl, Nat.le_of_ble_eq_true rfl⟩ ?_
      obtain ⟨σ25, hσ25, h⟩ := obi h
      refine v_iast (dq D_X3_take 80 rfl) hσ25 ?_
      refine v_aload_n (dq D_X3_take 81 rfl) 2 rfl ?_
      refine v_aload_n (dq D_X3_take 82 rfl) 2 rfl ?_
      obtain ⟨x26, hx26, h⟩ := obi h
      refine v_gR (dq D_X3_take 83 rfl) fa_RX3_21 hx26 ?_
      refine v_iload_n (dq D_X3_take 84 rfl) 0 rfl ?_
      obtain ⟨x27, hx27, h⟩ := obi h
      refine v_iald (dq D_X3_take 85 rfl) hx27 ?_
      obtain ⟨σ28, hσ28, h⟩ := obi h
      refine v_cVv (bc := 0) (bs := 0) (As := [.int x27]) (dq D_X3_take 86 rfl) cv_X3_claim ml_RX3_160 (itg hσ28).1 (m_X3_claim hσ28) rfl rfl (Nat.le_of_ble_eq_true rfl) ⟨Nat.le_of_ble_eq_true rfl, Nat.le_of_ble_eq_true rfl⟩ ⟨Nat.le_of_ble_eq_true rfl, Nat.le_of_ble_eq_true rfl⟩ ?_
      exact v_sub [2, 1, 0] rfl (w_X3_take_150 h)
    · have h := itn h c20
      refine v_aload_n (dq D_X3_take 47 rfl) 2 rfl ?_
      obtain ⟨x29, hx29, h⟩ := obi h
      refine v_gR (dq D_X3_take 48 rfl) fa_RX3_21 hx29 ?_
      refine v_iload_n (dq D_X3_take 49 rfl) 0 rfl ?_
      refine v_aload_n (dq D_X3_take 50 rfl) 2 rfl ?_
      obtain ⟨x30, hx30, h⟩ := obi h
      refine v_gR (dq D_X3_take 51 rfl) fa_RX3_24 hx30 ?_
      refine v_iload_n (dq D_X3_take 52 rfl) 0 rfl ?_
      obtain ⟨x31, hx31, h⟩ := obi h
      refine v_iald (dq D_X3_take 53 rfl) hx31 ?_
      obtain ⟨σ32, hσ32, h⟩ := obi h
      refine v_iast (dq D_X3_take 54 rfl) hσ32 ?_
      refine v_aload_n (dq D_X3_take 55 rfl) 2 rfl ?_
      refine v_dup (dq D_X3_take 56 rfl) rfl ?_
      obtain ⟨x33, hx33, h⟩ := obi h
      refine v_gI (dq D_X3_take 57 rfl) fa_RX3_85 hx33 ?_
      refine v_iconst (dq D_X3_take 58 rfl) kc_1 ?_
      refine v_iload_n (dq D_X3_take 59 rfl) 0 rfl ?_
      refine v_ishl (dq D_X3_take 60 rfl) ?_
      refine v_ior (dq D_X3_take 61 rfl) ?_
      obtain ⟨σ34, hσ34, h⟩ := obi h
      refine v_pI (dq D_X3_take 62 rfl) fp_RX3_85 hσ34 ?_
      refine v_aload_n (dq D_X3_take 63 rfl) 2 rfl ?_
      refine v_dup (dq D_X3_take 64 rfl) rfl ?_
      obtain ⟨x35, hx35, h⟩ := obi h
      refine v_gI (dq D_X3_take 65 rfl) fa_RX3_79 hx35 ?_
      refine v_iconst (dq D_X3_take 66 rfl) kc_1 ?_
      refine v_iload_n (dq D_X3_take 67 rfl) 0 rfl ?_
      refine v_ishl (dq D_X3_take 68 rfl) ?_
      refine v_ior (dq D_X3_take 69 rfl) ?_
      obtain ⟨σ36, hσ36, h⟩ := obi h
      refine v_pI (dq D_X3_take 70 rfl) fp_RX3_79 hσ36 ?_
      refine v_goto (dq D_X3_take 71 rfl) rfl ?_
      exact v_sub [2, 1, 0] rfl (w_X3_take_150 h)
  · have h := itp h c18
    refine v_aload_n (dq D_X3_take 35 rfl) 2 rfl ?_
    obtain ⟨x37, hx37, h⟩ := obi h
    refine v_gR (dq D_X3_take 36 rfl) fa_RX3_21 hx37 ?_
    refine v_iload_n (dq D_X3_take 37 rfl) 0 rfl ?_
    refine v_bipush (dq D_X3_take 38 rfl) kb_m2 ?_
    obtain ⟨σ38, hσ38, h⟩ := obi h
    refine v_iast (dq D_X3_take 39 rfl) hσ38 ?_
    refine v_aload_n (dq D_X3_take 40 rfl) 2 rfl ?_
    refine v_iload_n (dq D_X3_take 41 rfl) 0 rfl ?_
    obtain ⟨σ39, hσ39, h⟩ := obi h
    refine v_cVv (bc := 0) (bs := 0) (As := [.int x2]) (dq D_X3_take 42 rfl) cv_X3_saveIfRoom ml_RX3_157 (itg hσ39).1 (m_X3_saveIfRoom hσ39) rfl rfl (Nat.le_of_ble_eq_true rfl) ⟨Nat.le_of_ble_eq_true rfl, Nat.le_of_ble_eq_true rfl⟩ ⟨Nat.le_of_ble_eq_true rfl, Nat.le_of_ble_eq_true rfl⟩ ?_
    refine v_goto (dq D_X3_take 43 rfl) rfl ?_
    exact v_sub [2, 1, 0] rfl (w_X3_take_150 h)
theorem m_X3_take {sa : Env3} {a0 : Nat} {σ : St} {r : Int32 × St} (h : f_X3_take a0 σ = some r) : Ex sa yX3_take cX3_take K_X3_take [.ref a0] σ (pO r) := Ex.of (by decide) rfl (fun q => nomatch q) (Nat.le_of_ble_eq_true rfl) (w_X3_take_0 (itg h).2)
theorem w_X0_goOneCycle_119 {sa : Env3} {a1 : Int32} {σ : St} {r : Int32 × St} (h : f_X0_goOneCycle_119 a1 σ = some r) : VV sa cX0_goOneCycle K_X0_goOneCycle 119 [(1, .int a1)] [] σ (pO r) 0 0 := by
  unfold f_X0_goOneCycle_119 at h
  refine v_iload_n (dq D_X0_goOneCycle 61 rfl) 0 rfl ?_
  obtain rfl := Option.some.inj h
  exact v_iret (dq D_X0_goOneCycle 62 rfl) rfl ⟨rfl, rfl⟩
theorem w_X0_goOneCycle_90 {sa : Env3} : ∀ (n : Nat) {a0 : Nat} {a1 : Int32} {a2 : Int32} {σ : St} {r : Int32 × St}, f_X0_goOneCycle_90 n a0 a1 a2 σ = some r → VV sa cX0_goOneCycle K_X0_goOneCycle 90 [(0, .ref a0), (1, .int a1), (2, .int a2)] [] σ (pO r) 0 0 := by
  intro n
  induction n with
  | zero => intro a0 a1 a2 σ r h; cases h
  | succ n ih =>
    intro a0 a1 a2 σ r h
    rw [e_X0_goOneCycle_90] at h
    refine v_iload_n (dq D_X0_goOneCycle 48 rfl) 2 rfl ?_
    refine v_iconst (dq D_X0_goOneCycle 49 rfl) kc_2 ?_
    refine v_icmp_ge (dq D_X0_goOneCycle 50 rfl) rfl (fun c1 => ?_) (fun c1 => ?_)
    · have h := itp h c1
      exact v_sub [1] rfl (w_X0_goOneCycle_119 h)
    · have h := itn h c1
      refine v_aload_n (dq D_X0_goOneCycle 51 rfl) 0 rfl ?_
      obtain ⟨x2, hx2, h⟩ := obi h
      refine v_gR (dq D_X0_goOneCycle 52 rfl) fa_RX0_29 hx2 ?_
      obtain ⟨q3, hq3, h⟩ := obi h
      refine v_cVi (bc := 0) (bs := 0) (As := []) (dq D_X0_goOneCycle 53 rfl) cv_X3_whyNotTake ml_RX0_88 (itg hq3).1 (m_X3_whyNotTake hq3) rfl rfl (Nat.le_of_ble_eq_true rfl) ⟨Nat.le_of_ble_eq_true rfl, Nat.le_of_ble_eq_true rfl⟩ ⟨Nat.le_of_ble_eq_true rfl, Nat.le_of_ble_eq_true rfl⟩ ?_
      refine v_if_ne (dq D_X0_goOneCycle 54 rfl) rfl (fun c4 => ?_) (fun c4 => ?_)
      · have h := itn h c4
        exact v_sub [1] rfl (w_X0_goOneCycle_119 h)
      · have h := itp h c4
        refine v_aload_n (dq D_X0_goOneCycle 55 rfl) 0 rfl ?_
        obtain ⟨x5, hx5, h⟩ := obi h
        refine v_gR (dq D_X0_goOneCycle 56 rfl) fa_RX0_29 hx5 ?_
        obtain ⟨q6, hq6, h⟩ := obi h
        refine v_cVi (bc := 0) (bs := 0) (As := []) (dq D_X0_goOneCycle 57 rfl) cv_X3_take ml_RX0_91 (itg hq6).1 (m_X3_take hq6) rfl rfl (Nat.le_of_ble_eq_true rfl) ⟨Nat.le_of_ble_eq_true rfl, Nat.le_of_ble_eq_true rfl⟩ ⟨Nat.le_of_ble_eq_true rfl, Nat.le_of_ble_eq_true rfl⟩ ?_
        refine v_pop (dq D_X0_goOneCycle 58 rfl) rfl ?_
        refine v_iinc (dq D_X0_goOneCycle 59 rfl) 2 [(2, .int (a2 + 1)), (0, .ref a0), (1, .int a1)] rfl kc_1 (Nat.le_of_ble_eq_true rfl) rfl ?_
        refine v_goto (dq D_X0_goOneCycle 60 rfl) rfl ?_
        exact v_sub [1, 2, 0] rfl (ih h)
theorem w_X0_goOneCycle_88 {sa : Env3} {a0 : Nat} {a1 : Int32} {σ : St} {r : Int32 × St} (h : f_X0_goOneCycle_88 a0 a1 σ = some r) : VV sa cX0_goOneCycle K_X0_goOneCycle 88 [(0, .ref a0), (1, .int a1)] [] σ (pO r) 0 0 := by
  unfold f_X0_goOneCycle_88 at h
  refine v_iconst (dq D_X0_goOneCycle 46 rfl) kc_0 ?_
  refine v_istore_n (dq D_X0_goOneCycle 47 rfl) [(2, .int 0), (0, .ref a0), (1, .int a1)] rfl (Nat.le_of_ble_eq_true rfl) rfl ?_
  exact v_sub [1, 2, 0] rfl (w_X0_goOneCycle_90 _ h)
theorem w_X0_goOneCycle_82 {sa : Env3} {k35 : Nat → Int32 → Int32 → St → Option (Int32 × St)} (hk35 : ∀ {a0 : Nat} {a1 : Int32} {a2 : Int32} {σ : St} {r : Int32 × St}, k35 a0 a1 a2 σ = some r → VV sa cX0_goOneCycle K_X0_goOneCycle 35 [(0, .ref a0), (1, .int a1), (2, .int a2)] [] σ (pO r) 0 0) {a0 : Nat} {a1 : Int32} {a2 : Int32} {σ : St} {r : Int32 × St} (h : f_X0_goOneCycle_82 k35 a0 a1 a2 σ = some r) : VV sa cX0_goOneCycle K_X0_goOneCycle 82 [(0, .ref a0), (1, .int a1), (2, .int a2)] [] σ (pO r) 0 0 := by
  unfold f_X0_goOneCycle_82 at h
  refine v_iinc (dq D_X0_goOneCycle 44 rfl) 2 [(2, .int (a2 + 1)), (0, .ref a0), (1, .int a1)] rfl kc_1 (Nat.le_of_ble_eq_true rfl) rfl ?_
  refine v_goto (dq D_X0_goOneCycle 45 rfl) rfl ?_
  exact v_sub [1, 2, 0] rfl (hk35 h)
theorem w_X0_goOneCycle_72 {sa : Env3} {k35 : Nat → Int32 → Int32 → St → Option (Int32 × St)} (hk35 : ∀ {a0 : Nat} {a1 : Int32} {a2 : Int32} {σ : St} {r : Int32 × St}, k35 a0 a1 a2 σ = some r → VV sa cX0_goOneCycle K_X0_goOneCycle 35 [(0, .ref a0), (1, .int a1), (2, .int a2)] [] σ (pO r) 0 0) {a0 : Nat} {a2 : Int32} {a3 : Int32} {s0 : Int32} {σ : St} {r : Int32 × St} (h : f_X0_goOneCycle_72 k35 a0 a2 a3 s0 σ = some r) : VV sa cX0_goOneCycle K_X0_goOneCycle 72 [(0, .ref a0), (2, .int a2), (3, .int a3)] [.int s0] σ (pO r) 0 0 := by
  unfold f_X0_goOneCycle_72 at h
  refine v_istore_n (dq D_X0_goOneCycle 38 rfl) [(1, .int s0), (0, .ref a0), (2, .int a2), (3, .int a3)] rfl (Nat.le_of_ble_eq_true rfl) rfl ?_
  refine v_aload_n (dq D_X0_goOneCycle 39 rfl) 1 rfl ?_
  obtain ⟨x1, hx1, h⟩ := obi h
  refine v_gR (dq D_X0_goOneCycle 40 rfl) fa_RX0_29 hx1 ?_
  refine v_iload_n (dq D_X0_goOneCycle 41 rfl) 3 rfl ?_
  obtain ⟨q2, hq2, h⟩ := obi h
  refine v_cVi (bc := 0) (bs := 0) (As := [.int a3]) (dq D_X0_goOneCycle 42 rfl) cv_X3_work ml_RX0_85 (itg hq2).1 (m_X3_work hq2) rfl rfl (Nat.le_of_ble_eq_true rfl) ⟨Nat.le_of_ble_eq_true rfl, Nat.le_of_ble_eq_true rfl⟩ ⟨Nat.le_of_ble_eq_true rfl, Nat.le_of_ble_eq_true rfl⟩ ?_
  refine v_pop (dq D_X0_goOneCycle 43 rfl) rfl ?_
  exact v_sub [1, 0, 2] rfl (w_X0_goOneCycle_82 hk35 h)
theorem w_X0_goOneCycle_35 {sa : Env3} : ∀ (n : Nat) {a0 : Nat} {a1 : Int32} {a2 : Int32} {σ : St} {r : Int32 × St}, f_X0_goOneCycle_35 n a0 a1 a2 σ = some r → VV sa cX0_goOneCycle K_X0_goOneCycle 35 [(0, .ref a0), (1, .int a1), (2, .int a2)] [] σ (pO r) 0 0 := by
  intro n
  induction n with
  | zero => intro a0 a1 a2 σ r h; cases h
  | succ n ih =>
    intro a0 a1 a2 σ r h
    rw [e_X0_goOneCycle_35] at h
    refine v_iload_n (dq D_X0_goOneCycle 19 rfl) 2 rfl ?_
    refine v_iconst (dq D_X0_goOneCycle 20 rfl) kc_2 ?_
    refine v_icmp_ge (dq D_X0_goOneCycle 21 rfl) rfl (fun c1 => ?_) (fun c1 => ?_)
    · have h := itp h c1
      exact v_sub [0, 1] rfl (w_X0_goOneCycle_88 h)
    · have h := itn h c1
      refine v_iload_n (dq D_X0_goOneCycle 22 rfl) 1 rfl ?_
      refine v_if_ne (dq D_X0_goOneCycle 23 rfl) rfl (fun c2 => ?_) (fun c2 => ?_)
      · have h := itn h c2
        exact v_sub [0, 1] rfl (w_X0_goOneCycle_88 h)
      · have h := itp h c2
        refine v_aload_n (dq D_X0_goOneCycle 24 rfl) 0 rfl ?_
        obtain ⟨x3, hx3, h⟩ := obi h
        refine v_gR (dq D_X0_goOneCycle 25 rfl) fa_RX0_29 hx3 ?_
        obtain ⟨q4, hq4, h⟩ := obi h
        refine v_cVi (bc := 0) (bs := 0) (As := []) (dq D_X0_goOneCycle 26 rfl) cv_X3_oldestToWork ml_RX0_78 (itg hq4).1 (m_X3_oldestToWork hq4) rfl rfl (Nat.le_of_ble_eq_true rfl) ⟨Nat.le_of_ble_eq_true rfl, Nat.le_of_ble_eq_true rfl⟩ ⟨Nat.le_of_ble_eq_true rfl, Nat.le_of_ble_eq_true rfl⟩ ?_
        refine v_istore_n (dq D_X0_goOneCycle 27 rfl) [(3, .int q4.1), (0, .ref a0), (1, .int a1), (2, .int a2)] rfl (Nat.le_of_ble_eq_true rfl) rfl ?_
        refine v_iload_n (dq D_X0_goOneCycle 28 rfl) 0 rfl ?_
        refine v_if_lt (dq D_X0_goOneCycle 29 rfl) rfl (fun c5 => ?_) (fun c5 => ?_)
        · have h := itp h c5
          exact v_sub [1, 2, 3] rfl (w_X0_goOneCycle_82 ih h)
        · have h := itn h c5
          refine v_aload_n (dq D_X0_goOneCycle 30 rfl) 1 rfl ?_
          obtain ⟨x6, hx6, h⟩ := obi h
          refine v_gR (dq D_X0_goOneCycle 31 rfl) fa_RX0_29 hx6 ?_
          refine v_iload_n (dq D_X0_goOneCycle 32 rfl) 0 rfl ?_
          obtain ⟨q7, hq7, h⟩ := obi h
          refine v_cVi (bc := 0) (bs := 0) (As := [.int q4.1]) (dq D_X0_goOneCycle 33 rfl) cv_X3_misguessed ml_RX0_81 (itg hq7).1 (m_X3_misguessed hq7) rfl rfl (Nat.le_of_ble_eq_true rfl) ⟨Nat.le_of_ble_eq_true rfl, Nat.le_of_ble_eq_true rfl⟩ ⟨Nat.le_of_ble_eq_true rfl, Nat.le_of_ble_eq_true rfl⟩ ?_
          refine v_if_eq (dq D_X0_goOneCycle 34 rfl) rfl (fun c8 => ?_) (fun c8 => ?_)
          · have h := itp h c8
            refine v_iconst (dq D_X0_goOneCycle 37 rfl) kc_0 ?_
            exact v_sub [1, 3, 0] rfl (w_X0_goOneCycle_72 ih h)
          · have h := itn h c8
            refine v_iconst (dq D_X0_goOneCycle 35 rfl) kc_1 ?_
            refine v_goto (dq D_X0_goOneCycle 36 rfl) rfl ?_
            exact v_sub [1, 3, 0] rfl (w_X0_goOneCycle_72 ih h)
theorem w_X0_goOneCycle_31 {sa : Env3} {a0 : Nat} {σ : St} {r : Int32 × St} (h : f_X0_goOneCycle_31 a0 σ = some r) : VV sa cX0_goOneCycle K_X0_goOneCycle 31 [(0, .ref a0)] [] σ (pO r) 0 0 := by
  unfold f_X0_goOneCycle_31 at h
  refine v_iconst (dq D_X0_goOneCycle 15 rfl) kc_0 ?_
  refine v_istore_n (dq D_X0_goOneCycle 16 rfl) [(1, .int 0), (0, .ref a0)] rfl (Nat.le_of_ble_eq_true rfl) rfl ?_
  refine v_iconst (dq D_X0_goOneCycle 17 rfl) kc_0 ?_
  refine v_istore_n (dq D_X0_goOneCycle 18 rfl) [(2, .int 0), (1, .int 0), (0, .ref a0)] rfl (Nat.le_of_ble_eq_true rfl) rfl ?_
  exact v_sub [2, 1, 0] rfl (w_X0_goOneCycle_35 _ h)
theorem w_X0_goOneCycle_2 {sa : Env3} : ∀ (n : Nat) {a0 : Nat} {a1 : Int32} {σ : St} {r : Int32 × St}, f_X0_goOneCycle_2 n a0 a1 σ = some r → VV sa cX0_goOneCycle K_X0_goOneCycle 2 [(0, .ref a0), (1, .int a1)] [] σ (pO r) 0 0 := by
  intro n
  induction n with
  | zero => intro a0 a1 σ r h; cases h
  | succ n ih =>
    intro a0 a1 σ r h
    rw [e_X0_goOneCycle_2] at h
    refine v_iload_n (dq D_X0_goOneCycle 2 rfl) 1 rfl ?_
    refine v_iconst (dq D_X0_goOneCycle 3 rfl) kc_2 ?_
    refine v_icmp_ge (dq D_X0_goOneCycle 4 rfl) rfl (fun c1 => ?_) (fun c1 => ?_)
    · have h := itp h c1
      exact v_sub [0] rfl (w_X0_goOneCycle_31 h)
    · have h := itn h c1
      refine v_aload_n (dq D_X0_goOneCycle 5 rfl) 0 rfl ?_
      obtain ⟨x2, hx2, h⟩ := obi h
      refine v_gR (dq D_X0_goOneCycle 6 rfl) fa_RX0_29 hx2 ?_
      obtain ⟨q3, hq3, h⟩ := obi h
      refine v_cVi (bc := 0) (bs := 0) (As := []) (dq D_X0_goOneCycle 7 rfl) cv_X3_whyNotRetire ml_RX0_72 (itg hq3).1 (m_X3_whyNotRetire hq3) rfl rfl (Nat.le_of_ble_eq_true rfl) ⟨Nat.le_of_ble_eq_true rfl, Nat.le_of_ble_eq_true rfl⟩ ⟨Nat.le_of_ble_eq_true rfl, Nat.le_of_ble_eq_true rfl⟩ ?_
      refine v_if_ne (dq D_X0_goOneCycle 8 rfl) rfl (fun c4 => ?_) (fun c4 => ?_)
      · have h := itn h c4
        exact v_sub [0] rfl (w_X0_goOneCycle_31 h)
      · have h := itp h c4
        refine v_aload_n (dq D_X0_goOneCycle 9 rfl) 0 rfl ?_
        obtain ⟨x5, hx5, h⟩ := obi h
        refine v_gR (dq D_X0_goOneCycle 10 rfl) fa_RX0_29 hx5 ?_
        obtain ⟨q6, hq6, h⟩ := obi h
        refine v_cVi (bc := 0) (bs := 0) (As := []) (dq D_X0_goOneCycle 11 rfl) cv_X3_retire ml_RX0_75 (itg hq6).1 (m_X3_retire hq6) rfl rfl (Nat.le_of_ble_eq_true rfl) ⟨Nat.le_of_ble_eq_true rfl, Nat.le_of_ble_eq_true rfl⟩ ⟨Nat.le_of_ble_eq_true rfl, Nat.le_of_ble_eq_true rfl⟩ ?_
        refine v_pop (dq D_X0_goOneCycle 12 rfl) rfl ?_
        refine v_iinc (dq D_X0_goOneCycle 13 rfl) 1 [(1, .int (a1 + 1)), (0, .ref a0)] rfl kc_1 (Nat.le_of_ble_eq_true rfl) rfl ?_
        refine v_goto (dq D_X0_goOneCycle 14 rfl) rfl ?_
        exact v_sub [1, 0] rfl (ih h)
theorem w_X0_goOneCycle_0 {sa : Env3} {a0 : Nat} {σ : St} {r : Int32 × St} (h : f_X0_goOneCycle_0 a0 σ = some r) : VV sa cX0_goOneCycle K_X0_goOneCycle 0 [(0, .ref a0)] [] σ (pO r) 0 0 := by
  unfold f_X0_goOneCycle_0 at h
  refine v_iconst (dq D_X0_goOneCycle 0 rfl) kc_0 ?_
  refine v_istore_n (dq D_X0_goOneCycle 1 rfl) [(1, .int 0), (0, .ref a0)] rfl (Nat.le_of_ble_eq_true rfl) rfl ?_
  exact v_sub [1, 0] rfl (w_X0_goOneCycle_2 _ h)
theorem m_X0_goOneCycle {sa : Env3} {a0 : Nat} {σ : St} {r : Int32 × St} (h : f_X0_goOneCycle a0 σ = some r) : Ex sa yX0_goOneCycle cX0_goOneCycle K_X0_goOneCycle [.ref a0] σ (pO r) := Ex.of (by decide) rfl (fun q => nomatch q) (Nat.le_of_ble_eq_true rfl) (w_X0_goOneCycle_0 (itg h).2)
theorem w_X3_init_0 {sa : Env3} {a0 : Nat} {a1 : Nat} {σ : St} {r : St} (h : f_X3_init_0 a0 a1 σ = some r) : VV sa cX3_init K_X3_init 0 [(0, .ref a0), (1, .ref a1)] [] σ (pU r) 6 80 := by
  unfold f_X3_init_0 at h
  refine v_aload_n (dq D_X3_init 0 rfl) 0 rfl ?_
  refine v_objI (dq D_X3_init 1 rfl) tw_194 tw_30 tw_31 (Nat.le_of_ble_eq_true rfl) (Nat.le_of_ble_eq_true rfl) ?_
  refine v_aload_n (dq D_X3_init 2 rfl) 0 rfl ?_
  refine v_bipush (dq D_X3_init 3 rfl) kb_24 ?_
  obtain ⟨σ1, hσ1, h⟩ := bnd_inv h
  refine v_newa (t := 22) (N := 24) (bc := 5) (bs := 56) (dq D_X3_init 4 rfl) rfl (Or.inr (Or.inl ⟨rfl, rfl, rfl⟩)) tw_131 (by decide) (by decide) (Nat.le_of_ble_eq_true rfl) ⟨Nat.le_of_ble_eq_true rfl, Nat.le_of_ble_eq_true rfl⟩ hσ1 ?_
  obtain ⟨σ2, hσ2, h⟩ := obi h
  refine v_pP (dq D_X3_init 5 rfl) fp_RX3_9 (fun _ => rfl) hσ2 ?_
  refine v_aload_n (dq D_X3_init 6 rfl) 0 rfl ?_
  refine v_bipush (dq D_X3_init 7 rfl) kb_8 ?_
  obtain ⟨σ3, hσ3, h⟩ := bnd_inv h
  refine v_newa (t := 22) (N := 8) (bc := 4) (bs := 48) (dq D_X3_init 8 rfl) rfl (Or.inr (Or.inl ⟨rfl, rfl, rfl⟩)) tw_131 (by decide) (by decide) (Nat.le_of_ble_eq_true rfl) ⟨Nat.le_of_ble_eq_true rfl, Nat.le_of_ble_eq_true rfl⟩ hσ3 ?_
  obtain ⟨σ4, hσ4, h⟩ := obi h
  refine v_pP (dq D_X3_init 9 rfl) fp_RX3_15 (fun _ => rfl) hσ4 ?_
  refine v_aload_n (dq D_X3_init 10 rfl) 0 rfl ?_
  refine v_bipush (dq D_X3_init 11 rfl) kb_12 ?_
  obtain ⟨σ5, hσ5, h⟩ := bnd_inv h
  refine v_newa (t := 22) (N := 12) (bc := 3) (bs := 36) (dq D_X3_init 12 rfl) rfl (Or.inr (Or.inl ⟨rfl, rfl, rfl⟩)) tw_131 (by decide) (by decide) (Nat.le_of_ble_eq_true rfl) ⟨Nat.le_of_ble_eq_true rfl, Nat.le_of_ble_eq_true rfl⟩ hσ5 ?_
  obtain ⟨σ6, hσ6, h⟩ := obi h
  refine v_pP (dq D_X3_init 13 rfl) fp_RX3_18 (fun _ => rfl) hσ6 ?_
  refine v_aload_n (dq D_X3_init 14 rfl) 0 rfl ?_
  refine v_bipush (dq D_X3_init 15 rfl) kb_12 ?_
  obtain ⟨σ7, hσ7, h⟩ := bnd_inv h
  refine v_newa (t := 22) (N := 12) (bc := 2) (bs := 24) (dq D_X3_init 16 rfl) rfl (Or.inr (Or.inl ⟨rfl, rfl, rfl⟩)) tw_131 (by decide) (by decide) (Nat.le_of_ble_eq_true rfl) ⟨Nat.le_of_ble_eq_true rfl, Nat.le_of_ble_eq_true rfl⟩ hσ7 ?_
  obtain ⟨σ8, hσ8, h⟩ := obi h
  refine v_pP (dq D_X3_init 17 rfl) fp_RX3_21 (fun _ => rfl) hσ8 ?_
  refine v_aload_n (dq D_X3_init 18 rfl) 0 rfl ?_
  refine v_bipush (dq D_X3_init 19 rfl) kb_12 ?_
  obtain ⟨σ9, hσ9, h⟩ := bnd_inv h
  refine v_newa (t := 22) (N := 12) (bc := 1) (bs := 12) (dq D_X3_init 20 rfl) rfl (Or.inr (Or.inl ⟨rfl, rfl, rfl⟩)) tw_131 (by decide) (by decide) (Nat.le_of_ble_eq_true rfl) ⟨Nat.le_of_ble_eq_true rfl, Nat.le_of_ble_eq_true rfl⟩ hσ9 ?_
  obtain ⟨σ10, hσ10, h⟩ := obi h
  refine v_pP (dq D_X3_init 21 rfl) fp_RX3_24 (fun _ => rfl) hσ10 ?_
  refine v_aload_n (dq D_X3_init 22 rfl) 0 rfl ?_
  refine v_bipush (dq D_X3_init 23 rfl) kb_12 ?_
  obtain ⟨σ11, hσ11, h⟩ := bnd_inv h
  refine v_newa (t := 22) (N := 12) (bc := 0) (bs := 0) (dq D_X3_init 24 rfl) rfl (Or.inr (Or.inl ⟨rfl, rfl, rfl⟩)) tw_131 (by decide) (by decide) (Nat.le_of_ble_eq_true rfl) ⟨Nat.le_of_ble_eq_true rfl, Nat.le_of_ble_eq_true rfl⟩ hσ11 ?_
  obtain ⟨σ12, hσ12, h⟩ := obi h
  refine v_pP (dq D_X3_init 25 rfl) fp_RX3_27 (fun _ => rfl) hσ12 ?_
  refine v_aload_n (dq D_X3_init 26 rfl) 0 rfl ?_
  refine v_aload_n (dq D_X3_init 27 rfl) 1 rfl ?_
  obtain ⟨σ13, hσ13, h⟩ := obi h
  refine v_pP (dq D_X3_init 28 rfl) fp_RX3_30 (fun q => nomatch q) hσ13 ?_
  obtain rfl := Option.some.inj h
  exact v_vret (dq D_X3_init 29 rfl) rfl ⟨rfl, rfl⟩
theorem m_X3_init {sa : Env3} {a0 : Nat} {a1 : Nat} {σ : St} {r : St} (h : f_X3_init a0 a1 σ = some r) : Ex sa yX3_init cX3_init K_X3_init [.ref a0, .ref a1] σ (pU r) := Ex.of (by decide) rfl (fun _ => rfl) (Nat.le_of_ble_eq_true rfl) (w_X3_init_0 (itg h).2)
theorem w_X0_init_0 {sa : Env3} {a0 : Nat} {a1 : Nat} {σ : St} {r : St} (h : f_X0_init_0 a0 a1 σ = some r) : VV sa cX0_init K_X0_init 0 [(0, .ref a0), (1, .ref a1)] [] σ (pU r) 11 164 := by
  unfold f_X0_init_0 at h
  refine v_aload_n (dq D_X0_init 0 rfl) 0 rfl ?_
  refine v_objI (dq D_X0_init 1 rfl) tw_333 tw_30 tw_31 (Nat.le_of_ble_eq_true rfl) (Nat.le_of_ble_eq_true rfl) ?_
  refine v_aload_n (dq D_X0_init 2 rfl) 0 rfl ?_
  refine v_bipush (dq D_X0_init 3 rfl) kb_16 ?_
  obtain ⟨σ1, hσ1, h⟩ := bnd_inv h
  refine v_newa (t := 22) (N := 16) (bc := 10) (bs := 148) (dq D_X0_init 4 rfl) rfl (Or.inr (Or.inl ⟨rfl, rfl, rfl⟩)) tw_131 (by decide) (by decide) (Nat.le_of_ble_eq_true rfl) ⟨Nat.le_of_ble_eq_true rfl, Nat.le_of_ble_eq_true rfl⟩ hσ1 ?_
  obtain ⟨σ2, hσ2, h⟩ := obi h
  refine v_pP (dq D_X0_init 5 rfl) fp_RX0_11 (fun _ => rfl) hσ2 ?_
  refine v_aload_n (dq D_X0_init 6 rfl) 0 rfl ?_
  refine v_bipush (dq D_X0_init 7 rfl) kb_16 ?_
  obtain ⟨σ3, hσ3, h⟩ := bnd_inv h
  refine v_newa (t := 22) (N := 16) (bc := 9) (bs := 132) (dq D_X0_init 8 rfl) rfl (Or.inr (Or.inl ⟨rfl, rfl, rfl⟩)) tw_131 (by decide) (by decide) (Nat.le_of_ble_eq_true rfl) ⟨Nat.le_of_ble_eq_true rfl, Nat.le_of_ble_eq_true rfl⟩ hσ3 ?_
  obtain ⟨σ4, hσ4, h⟩ := obi h
  refine v_pP (dq D_X0_init 9 rfl) fp_RX0_15 (fun _ => rfl) hσ4 ?_
  refine v_aload_n (dq D_X0_init 10 rfl) 0 rfl ?_
  refine v_bipush (dq D_X0_init 11 rfl) kb_16 ?_
  obtain ⟨σ5, hσ5, h⟩ := bnd_inv h
  refine v_newa (t := 22) (N := 16) (bc := 8) (bs := 116) (dq D_X0_init 12 rfl) rfl (Or.inr (Or.inl ⟨rfl, rfl, rfl⟩)) tw_131 (by decide) (by decide) (Nat.le_of_ble_eq_true rfl) ⟨Nat.le_of_ble_eq_true rfl, Nat.le_of_ble_eq_true rfl⟩ hσ5 ?_
  obtain ⟨σ6, hσ6, h⟩ := obi h
  refine v_pP (dq D_X0_init 13 rfl) fp_RX0_18 (fun _ => rfl) hσ6 ?_
  refine v_aload_n (dq D_X0_init 14 rfl) 0 rfl ?_
  refine v_bipush (dq D_X0_init 15 rfl) kb_16 ?_
  obtain ⟨σ7, hσ7, h⟩ := bnd_inv h
  refine v_newa (t := 22) (N := 16) (bc := 7) (bs := 100) (dq D_X0_init 16 rfl) rfl (Or.inr (Or.inl ⟨rfl, rfl, rfl⟩)) tw_131 (by decide) (by decide) (Nat.le_of_ble_eq_true rfl) ⟨Nat.le_of_ble_eq_true rfl, Nat.le_of_ble_eq_true rfl⟩ hσ7 ?_
  obtain ⟨σ8, hσ8, h⟩ := obi h
  refine v_pP (dq D_X0_init 17 rfl) fp_RX0_21 (fun _ => rfl) hσ8 ?_
  refine v_aload_n (dq D_X0_init 18 rfl) 0 rfl ?_
  obtain ⟨σ9, hσ9, h⟩ := bnd_inv h
  refine v_new (bc := 6) (bs := 80) (dq D_X0_init 19 rfl) cc3 tw_334 ⟨Nat.le_of_ble_eq_true rfl, Nat.le_of_ble_eq_true rfl⟩ hσ9 ?_
  refine v_dup (dq D_X0_init 20 rfl) rfl ?_
  refine v_aload_n (dq D_X0_init 21 rfl) 1 rfl ?_
  obtain ⟨σ10, hσ10, h⟩ := obi h
  refine v_cIv (bc := 0) (bs := 0) (As := [.ref a1]) (dq D_X0_init 22 rfl) ci_X3_init ml_RX0_26 (m_X3_init hσ10) rfl rfl (Nat.le_of_ble_eq_true rfl) ⟨Nat.le_of_ble_eq_true rfl, Nat.le_of_ble_eq_true rfl⟩ ⟨Nat.le_of_ble_eq_true rfl, Nat.le_of_ble_eq_true rfl⟩ ?_
  obtain ⟨σ11, hσ11, h⟩ := obi h
  refine v_pP (dq D_X0_init 23 rfl) fp_RX0_29 (fun _ => rfl) hσ11 ?_
  obtain rfl := Option.some.inj h
  exact v_vret (dq D_X0_init 24 rfl) rfl ⟨rfl, rfl⟩
theorem m_X0_init {sa : Env3} {a0 : Nat} {a1 : Nat} {σ : St} {r : St} (h : f_X0_init a0 a1 σ = some r) : Ex sa yX0_init cX0_init K_X0_init [.ref a0, .ref a1] σ (pU r) := Ex.of (by decide) rfl (fun _ => rfl) (Nat.le_of_ble_eq_true rfl) (w_X0_init_0 (itg h).2)
theorem w_X3_begin_27 {sa : Env3} : ∀ (n : Nat) {a0 : Nat} {a3 : Int32} {σ : St} {r : St}, f_X3_begin_27 n a0 a3 σ = some r → VV sa cX3_begin K_X3_begin 27 [(0, .ref a0), (3, .int a3)] [] σ (pU r) 0 0 := by
  intro n
  induction n with
  | zero => intro a0 a3 σ r h; cases h
  | succ n ih =>
    intro a0 a3 σ r h
    rw [e_X3_begin_27] at h
    refine v_iload_n (dq D_X3_begin 15 rfl) 1 rfl ?_
    refine v_bipush (dq D_X3_begin 16 rfl) kb_8 ?_
    refine v_icmp_ge (dq D_X3_begin 17 rfl) rfl (fun c1 => ?_) (fun c1 => ?_)
    · have h := itp h c1
      refine v_aload_n (dq D_X3_begin 25 rfl) 0 rfl ?_
      refine v_iconst (dq D_X3_begin 26 rfl) kc_0 ?_
      obtain ⟨σ2, hσ2, h⟩ := obi h
      refine v_pI (dq D_X3_begin 27 rfl) fp_RX3_47 hσ2 ?_
      refine v_aload_n (dq D_X3_begin 28 rfl) 0 rfl ?_
      refine v_iconst (dq D_X3_begin 29 rfl) kc_0 ?_
      obtain ⟨σ3, hσ3, h⟩ := obi h
      refine v_cVv (bc := 0) (bs := 0) (As := [.int 0]) (dq D_X3_begin 30 rfl) cv_X3_keepOldest ml_RX3_50 (itg hσ3).1 (m_X3_keepOldest hσ3) rfl rfl (Nat.le_of_ble_eq_true rfl) ⟨Nat.le_of_ble_eq_true rfl, Nat.le_of_ble_eq_true rfl⟩ ⟨Nat.le_of_ble_eq_true rfl, Nat.le_of_ble_eq_true rfl⟩ ?_
      refine v_aload_n (dq D_X3_begin 31 rfl) 0 rfl ?_
      refine v_iconst (dq D_X3_begin 32 rfl) kc_0 ?_
      obtain ⟨σ4, hσ4, h⟩ := obi h
      refine v_pI (dq D_X3_begin 33 rfl) fp_RX3_54 hσ4 ?_
      refine v_aload_n (dq D_X3_begin 34 rfl) 0 rfl ?_
      refine v_iconst (dq D_X3_begin 35 rfl) kc_0 ?_
      obtain ⟨σ5, hσ5, h⟩ := obi h
      refine v_pZ (dq D_X3_begin 36 rfl) fp_RX3_57 hσ5 ?_
      refine v_aload_n (dq D_X3_begin 37 rfl) 0 rfl ?_
      refine v_iconst (dq D_X3_begin 38 rfl) kc_0 ?_
      obtain ⟨σ6, hσ6, h⟩ := obi h
      refine v_pZ (dq D_X3_begin 39 rfl) fp_RX3_61 hσ6 ?_
      refine v_aload_n (dq D_X3_begin 40 rfl) 0 rfl ?_
      refine v_iconst (dq D_X3_begin 41 rfl) kc_0 ?_
      obtain ⟨σ7, hσ7, h⟩ := obi h
      refine v_pI (dq D_X3_begin 42 rfl) fp_RX3_64 hσ7 ?_
      obtain rfl := Option.some.inj h
      exact v_vret (dq D_X3_begin 43 rfl) rfl ⟨rfl, rfl⟩
    · have h := itn h c1
      refine v_aload_n (dq D_X3_begin 18 rfl) 0 rfl ?_
      obtain ⟨x8, hx8, h⟩ := obi h
      refine v_gR (dq D_X3_begin 19 rfl) fa_RX3_15 hx8 ?_
      refine v_iload_n (dq D_X3_begin 20 rfl) 1 rfl ?_
      refine v_iload_n (dq D_X3_begin 21 rfl) 1 rfl ?_
      obtain ⟨σ9, hσ9, h⟩ := obi h
      refine v_iast (dq D_X3_begin 22 rfl) hσ9 ?_
      refine v_iinc (dq D_X3_begin 23 rfl) 1 [(3, .int (a3 + 1)), (0, .ref a0)] rfl kc_1 (Nat.le_of_ble_eq_true rfl) rfl ?_
      refine v_goto (dq D_X3_begin 24 rfl) rfl ?_
      exact v_sub [1, 0] rfl (ih h)
theorem w_X3_begin_0 {sa : Env3} {a0 : Nat} {a1 : Nat} {a2 : Int32} {σ : St} {r : St} (h : f_X3_begin_0 a0 a1 a2 σ = some r) : VV sa cX3_begin K_X3_begin 0 [(0, .ref a0), (1, .ref a1), (2, .int a2)] [] σ (pU r) 0 0 := by
  unfold f_X3_begin_0 at h
  refine v_aload_n (dq D_X3_begin 0 rfl) 0 rfl ?_
  refine v_aload_n (dq D_X3_begin 1 rfl) 1 rfl ?_
  obtain ⟨σ1, hσ1, h⟩ := obi h
  refine v_pP (dq D_X3_begin 2 rfl) fp_RX3_30 (fun q => nomatch q) hσ1 ?_
  refine v_aload_n (dq D_X3_begin 3 rfl) 0 rfl ?_
  refine v_iload_n (dq D_X3_begin 4 rfl) 2 rfl ?_
  obtain ⟨σ2, hσ2, h⟩ := obi h
  refine v_pI (dq D_X3_begin 5 rfl) fp_RX3_34 hσ2 ?_
  refine v_aload_n (dq D_X3_begin 6 rfl) 0 rfl ?_
  obtain ⟨x3, hx3, h⟩ := obi h
  refine v_gR (dq D_X3_begin 7 rfl) fa_RX3_9 hx3 ?_
  refine v_iconst (dq D_X3_begin 8 rfl) kc_0 ?_
  obtain ⟨σ4, hσ4, h⟩ := obi h
  refine v_cSv (bc := 0) (bs := 0) (As := [.ref x3, .int 0]) (dq D_X3_begin 9 rfl) cs_J7_fill_53178 ml_RX3_38 (m_J7_fill_53178 hσ4) rfl rfl (Nat.le_of_ble_eq_true rfl) ⟨Nat.le_of_ble_eq_true rfl, Nat.le_of_ble_eq_true rfl⟩ ⟨Nat.le_of_ble_eq_true rfl, Nat.le_of_ble_eq_true rfl⟩ ?_
  refine v_aload_n (dq D_X3_begin 10 rfl) 0 rfl ?_
  refine v_sipush (dq D_X3_begin 11 rfl) ks_255 ?_
  obtain ⟨σ5, hσ5, h⟩ := obi h
  refine v_pI (dq D_X3_begin 12 rfl) fp_RX3_44 hσ5 ?_
  refine v_iconst (dq D_X3_begin 13 rfl) kc_0 ?_
  refine v_istore_n (dq D_X3_begin 14 rfl) [(3, .int 0), (0, .ref a0), (1, .ref a1), (2, .int a2)] rfl (Nat.le_of_ble_eq_true rfl) rfl ?_
  exact v_sub [1, 0] rfl (w_X3_begin_27 _ h)
theorem m_X3_begin {sa : Env3} {a0 : Nat} {a1 : Nat} {a2 : Int32} {σ : St} {r : St} (h : f_X3_begin a0 a1 a2 σ = some r) : Ex sa yX3_begin cX3_begin K_X3_begin [.ref a0, .ref a1, .int a2] σ (pU r) := Ex.of (by decide) rfl (fun q => nomatch q) (Nat.le_of_ble_eq_true rfl) (w_X3_begin_0 (itg h).2)
theorem w_X3_isOver_33 {sa : Env3} {s0 : Int32} {σ : St} {r : Int32 × St} (h : f_X3_isOver_33 s0 σ = some r) : VV sa cX3_isOver K_X3_isOver 33 [] [.int s0] σ (pO r) 0 0 := by
  unfold f_X3_isOver_33 at h
  have hz := (itg h).1
  have h := (itg h).2
  obtain rfl := Option.some.inj h
  exact v_zret (dq D_X3_isOver 15 rfl) rfl (z_nar hz) ⟨rfl, rfl⟩
theorem w_X3_isOver_28 {sa : Env3}  {σ : St} {r : Int32 × St} (h : f_X3_isOver_28  σ = some r) : VV sa cX3_isOver K_X3_isOver 28 [] [] σ (pO r) 0 0 := by
  unfold f_X3_isOver_28 at h
  refine v_iconst (dq D_X3_isOver 12 rfl) kc_1 ?_
  refine v_goto (dq D_X3_isOver 13 rfl) rfl ?_
  exact w_X3_isOver_33 h
theorem w_X3_isOver_32 {sa : Env3}  {σ : St} {r : Int32 × St} (h : f_X3_isOver_32  σ = some r) : VV sa cX3_isOver K_X3_isOver 32 [] [] σ (pO r) 0 0 := by
  unfold f_X3_isOver_32 at h
  refine v_iconst (dq D_X3_isOver 14 rfl) kc_0 ?_
  exact w_X3_isOver_33 h
theorem w_X3_isOver_0 {sa : Env3} {a0 : Nat} {σ : St} {r : Int32 × St} (h : f_X3_isOver_0 a0 σ = some r) : VV sa cX3_isOver K_X3_isOver 0 [(0, .ref a0)] [] σ (pO r) 0 0 := by
  unfold f_X3_isOver_0 at h
  refine v_aload_n (dq D_X3_isOver 0 rfl) 0 rfl ?_
  obtain ⟨x1, hx1, h⟩ := obi h
  refine v_gI (dq D_X3_isOver 1 rfl) fa_RX3_57 hx1 ?_
  refine v_if_ne (dq D_X3_isOver 2 rfl) rfl (fun c2 => ?_) (fun c2 => ?_)
  · have h := itn h c2
    exact v_sub [] rfl (w_X3_isOver_28 h)
  · have h := itp h c2
    refine v_aload_n (dq D_X3_isOver 3 rfl) 0 rfl ?_
    obtain ⟨x3, hx3, h⟩ := obi h
    refine v_gI (dq D_X3_isOver 4 rfl) fa_RX3_73 hx3 ?_
    refine v_if_ne (dq D_X3_isOver 5 rfl) rfl (fun c4 => ?_) (fun c4 => ?_)
    · have h := itn h c4
      exact v_sub [] rfl (w_X3_isOver_32 h)
    · have h := itp h c4
      refine v_aload_n (dq D_X3_isOver 6 rfl) 0 rfl ?_
      obtain ⟨x5, hx5, h⟩ := obi h
      refine v_gR (dq D_X3_isOver 7 rfl) fa_RX3_30 hx5 ?_
      refine v_aload_n (dq D_X3_isOver 8 rfl) 0 rfl ?_
      obtain ⟨x6, hx6, h⟩ := obi h
      refine v_gI (dq D_X3_isOver 9 rfl) fa_RX3_54 hx6 ?_
      obtain ⟨q7, hq7, h⟩ := obi h
      refine v_cVi (bc := 0) (bs := 0) (As := [.int x6]) (dq D_X3_isOver 10 rfl) cv_X5_has ml_RX3_122 (itg hq7).1 (m_X5_has hq7) rfl rfl (Nat.le_of_ble_eq_true rfl) ⟨Nat.le_of_ble_eq_true rfl, Nat.le_of_ble_eq_true rfl⟩ ⟨Nat.le_of_ble_eq_true rfl, Nat.le_of_ble_eq_true rfl⟩ ?_
      refine v_if_ne (dq D_X3_isOver 11 rfl) rfl (fun c8 => ?_) (fun c8 => ?_)
      · have h := itn h c8
        exact v_sub [] rfl (w_X3_isOver_32 h)
      · have h := itp h c8
        exact v_sub [] rfl (w_X3_isOver_28 h)
theorem m_X3_isOver {sa : Env3} {a0 : Nat} {σ : St} {r : Int32 × St} (h : f_X3_isOver a0 σ = some r) : Ex sa yX3_isOver cX3_isOver K_X3_isOver [.ref a0] σ (pO r) := Ex.of (by decide) rfl (fun q => nomatch q) (Nat.le_of_ble_eq_true rfl) (w_X3_isOver_0 (itg h).2)
theorem w_X0_slotOf_117 {sa : Env3} {a0 : Nat} {a3 : Int32} {a4 : Int32} {σ : St} {r : Int32 × St} (h : f_X0_slotOf_117 a0 a3 a4 σ = some r) : VV sa cX0_slotOf K_X0_slotOf 117 [(0, .ref a0), (3, .int a3), (4, .int a4)] [] σ (pO r) 0 0 := by
  unfold f_X0_slotOf_117 at h
  refine v_aload_n (dq D_X0_slotOf 66 rfl) 0 rfl ?_
  obtain ⟨x1, hx1, h⟩ := obi h
  refine v_gR (dq D_X0_slotOf 67 rfl) fa_RX0_11 hx1 ?_
  refine v_iload_n (dq D_X0_slotOf 68 rfl) 1 rfl ?_
  refine v_iload (dq D_X0_slotOf 69 rfl) 2 rfl ?_
  obtain ⟨σ2, hσ2, h⟩ := obi h
  refine v_iast (dq D_X0_slotOf 70 rfl) hσ2 ?_
  refine v_aload_n (dq D_X0_slotOf 71 rfl) 0 rfl ?_
  obtain ⟨x3, hx3, h⟩ := obi h
  refine v_gR (dq D_X0_slotOf 72 rfl) fa_RX0_15 hx3 ?_
  refine v_iload_n (dq D_X0_slotOf 73 rfl) 1 rfl ?_
  refine v_aload_n (dq D_X0_slotOf 74 rfl) 0 rfl ?_
  obtain ⟨x4, hx4, h⟩ := obi h
  refine v_gR (dq D_X0_slotOf 75 rfl) fa_RX0_29 hx4 ?_
  obtain ⟨x5, hx5, h⟩ := obi h
  refine v_gI (dq D_X0_slotOf 76 rfl) fa_RX0_70 hx5 ?_
  obtain ⟨σ6, hσ6, h⟩ := obi h
  refine v_iast (dq D_X0_slotOf 77 rfl) hσ6 ?_
  refine v_iload_n (dq D_X0_slotOf 78 rfl) 1 rfl ?_
  obtain rfl := Option.some.inj h
  exact v_iret (dq D_X0_slotOf 79 rfl) rfl ⟨rfl, rfl⟩
theorem w_X0_slotOf_42 {sa : Env3} : ∀ (n : Nat) {a0 : Nat} {a2 : Int32} {a3 : Int32} {a4 : Int32} {σ : St} {r : Int32 × St}, f_X0_slotOf_42 n a0 a2 a3 a4 σ = some r → VV sa cX0_slotOf K_X0_slotOf 42 [(0, .ref a0), (2, .int a2), (3, .int a3), (4, .int a4)] [] σ (pO r) 0 0 := by
  intro n
  induction n with
  | zero => intro a0 a2 a3 a4 σ r h; cases h
  | succ n ih =>
    intro a0 a2 a3 a4 σ r h
    rw [e_X0_slotOf_42] at h
    refine v_iload (dq D_X0_slotOf 28 rfl) 3 rfl ?_
    refine v_sipush (dq D_X0_slotOf 29 rfl) ks_300 ?_
    refine v_icmp_ge (dq D_X0_slotOf 30 rfl) rfl (fun c1 => ?_) (fun c1 => ?_)
    · have h := itp h c1
      exact v_sub [0, 2, 3] rfl (w_X0_slotOf_117 h)
    · have h := itn h c1
      refine v_aload_n (dq D_X0_slotOf 31 rfl) 0 rfl ?_
      obtain ⟨x2, hx2, h⟩ := obi h
      refine v_gR (dq D_X0_slotOf 32 rfl) fa_RX0_29 hx2 ?_
      obtain ⟨q3, hq3, h⟩ := obi h
      refine v_cVi (bc := 0) (bs := 0) (As := []) (dq D_X0_slotOf 33 rfl) cv_X3_isOver ml_RX0_43 (itg hq3).1 (m_X3_isOver hq3) rfl rfl (Nat.le_of_ble_eq_true rfl) ⟨Nat.le_of_ble_eq_true rfl, Nat.le_of_ble_eq_true rfl⟩ ⟨Nat.le_of_ble_eq_true rfl, Nat.le_of_ble_eq_true rfl⟩ ?_
      refine v_if_ne (dq D_X0_slotOf 34 rfl) rfl (fun c4 => ?_) (fun c4 => ?_)
      · have h := itn h c4
        exact v_sub [0, 2, 3] rfl (w_X0_slotOf_117 h)
      · have h := itp h c4
        refine v_aload_n (dq D_X0_slotOf 35 rfl) 0 rfl ?_
        obtain ⟨x5, hx5, h⟩ := obi h
        refine v_gR (dq D_X0_slotOf 36 rfl) fa_RX0_18 hx5 ?_
        refine v_iload_n (dq D_X0_slotOf 37 rfl) 2 rfl ?_
        refine v_dup2 (dq D_X0_slotOf 38 rfl) rfl rfl ?_
        obtain ⟨x6, hx6, h⟩ := obi h
        refine v_iald (dq D_X0_slotOf 39 rfl) hx6 ?_
        refine v_aload_n (dq D_X0_slotOf 40 rfl) 0 rfl ?_
        obtain ⟨q7, hq7, h⟩ := obi h
        refine v_cVi (bc := 0) (bs := 0) (As := []) (dq D_X0_slotOf 41 rfl) cv_X0_goOneCycle ml_RX0_47 (itg hq7).1 (m_X0_goOneCycle hq7) rfl rfl (Nat.le_of_ble_eq_true rfl) ⟨Nat.le_of_ble_eq_true rfl, Nat.le_of_ble_eq_true rfl⟩ ⟨Nat.le_of_ble_eq_true rfl, Nat.le_of_ble_eq_true rfl⟩ ?_
        refine v_iadd (dq D_X0_slotOf 42 rfl) ?_
        obtain ⟨σ8, hσ8, h⟩ := obi h
        refine v_iast (dq D_X0_slotOf 43 rfl) hσ8 ?_
        refine v_iload_n (dq D_X0_slotOf 44 rfl) 1 rfl ?_
        refine v_aload_n (dq D_X0_slotOf 45 rfl) 0 rfl ?_
        obtain ⟨x9, hx9, h⟩ := obi h
        refine v_gR (dq D_X0_slotOf 46 rfl) fa_RX0_29 hx9 ?_
        refine v_aload_n (dq D_X0_slotOf 47 rfl) 0 rfl ?_
        obtain ⟨x10, hx10, h⟩ := obi h
        refine v_gR (dq D_X0_slotOf 48 rfl) fa_RX0_29 hx10 ?_
        obtain ⟨x11, hx11, h⟩ := obi h
        refine v_gI (dq D_X0_slotOf 49 rfl) fa_RX0_51 hx11 ?_
        obtain ⟨q12, hq12, h⟩ := obi h
        refine v_cVi (bc := 0) (bs := 0) (As := [.int x11]) (dq D_X0_slotOf 50 rfl) cv_X3_freeBits ml_RX0_55 (itg hq12).1 (m_X3_freeBits hq12) rfl rfl (Nat.le_of_ble_eq_true rfl) ⟨Nat.le_of_ble_eq_true rfl, Nat.le_of_ble_eq_true rfl⟩ ⟨Nat.le_of_ble_eq_true rfl, Nat.le_of_ble_eq_true rfl⟩ ?_
        obtain ⟨q13, hq13, h⟩ := obi h
        refine v_cSi (bc := 0) (bs := 0) (As := [.int q12.1]) (dq D_X0_slotOf 51 rfl) cs_J6_bitCount_0f7a4 ml_RX0_59 (m_J6_bitCount_0f7a4 hq13) rfl rfl (Nat.le_of_ble_eq_true rfl) ⟨Nat.le_of_ble_eq_true rfl, Nat.le_of_ble_eq_true rfl⟩ ⟨Nat.le_of_ble_eq_true rfl, Nat.le_of_ble_eq_true rfl⟩ ?_
        refine v_isub (dq D_X0_slotOf 52 rfl) ?_
        obtain ⟨x14, ex14, h⟩ := bnd_inv h
        refine v_top (congrArg Value.int ex14) ?_
        refine v_istore (dq D_X0_slotOf 53 rfl) [(5, .int x14), (0, .ref a0), (2, .int a2), (3, .int a3), (4, .int a4)] (Nat.le_of_ble_eq_true rfl) rfl ?_
        refine v_aload_n (dq D_X0_slotOf 54 rfl) 1 rfl ?_
        obtain ⟨x15, hx15, h⟩ := obi h
        refine v_gR (dq D_X0_slotOf 55 rfl) fa_RX0_21 hx15 ?_
        refine v_iload_n (dq D_X0_slotOf 56 rfl) 3 rfl ?_
        refine v_aload_n (dq D_X0_slotOf 57 rfl) 1 rfl ?_
        obtain ⟨x16, hx16, h⟩ := obi h
        refine v_gR (dq D_X0_slotOf 58 rfl) fa_RX0_21 hx16 ?_
        refine v_iload_n (dq D_X0_slotOf 59 rfl) 3 rfl ?_
        obtain ⟨x17, hx17, h⟩ := obi h
        refine v_iald (dq D_X0_slotOf 60 rfl) hx17 ?_
        refine v_iload (dq D_X0_slotOf 61 rfl) 0 rfl ?_
        refine v_mmax (dq D_X0_slotOf 62 rfl) tw_932 tw_933 tw_11 tw_934 (Nat.le_of_ble_eq_true rfl) (Nat.le_of_ble_eq_true rfl) ?_
        obtain ⟨σ18, hσ18, h⟩ := obi h
        refine v_iast (dq D_X0_slotOf 63 rfl) hσ18 ?_
        refine v_iinc (dq D_X0_slotOf 64 rfl) 4 [(4, .int (a4 + 1)), (5, .int x14), (0, .ref a0), (2, .int a2), (3, .int a3)] rfl kc_1 (Nat.le_of_ble_eq_true rfl) rfl ?_
        refine v_goto (dq D_X0_slotOf 65 rfl) rfl ?_
        exact v_sub [2, 3, 4, 0] rfl (ih h)
theorem w_X0_slotOf_0 {sa : Env3} {a0 : Nat} {a1 : Nat} {a2 : Int32} {σ : St} {r : Int32 × St} (h : f_X0_slotOf_0 a0 a1 a2 σ = some r) : VV sa cX0_slotOf K_X0_slotOf 0 [(0, .ref a0), (1, .ref a1), (2, .int a2)] [] σ (pO r) 0 0 := by
  unfold f_X0_slotOf_0 at h
  refine v_iload_n (dq D_X0_slotOf 0 rfl) 2 rfl ?_
  refine v_bipush (dq D_X0_slotOf 1 rfl) kb_9 ?_
  refine v_isub (dq D_X0_slotOf 2 rfl) ?_
  obtain ⟨x1, ex1, h⟩ := bnd_inv h
  refine v_top (congrArg Value.int ex1) ?_
  refine v_istore_n (dq D_X0_slotOf 3 rfl) [(3, .int x1), (0, .ref a0), (1, .ref a1), (2, .int a2)] rfl (Nat.le_of_ble_eq_true rfl) rfl ?_
  refine v_aload_n (dq D_X0_slotOf 4 rfl) 1 rfl ?_
  obtain ⟨x2, hx2, h⟩ := obi h
  refine v_gR (dq D_X0_slotOf 5 rfl) fa_RX0_11 hx2 ?_
  refine v_iload_n (dq D_X0_slotOf 6 rfl) 0 rfl ?_
  obtain ⟨x3, hx3, h⟩ := obi h
  refine v_iald (dq D_X0_slotOf 7 rfl) hx3 ?_
  refine v_if_eq (dq D_X0_slotOf 8 rfl) rfl (fun c4 => ?_) (fun c4 => ?_)
  · have h := itp h c4
    refine v_aload_n (dq D_X0_slotOf 11 rfl) 1 rfl ?_
    obtain ⟨x5, hx5, h⟩ := obi h
    refine v_gR (dq D_X0_slotOf 12 rfl) fa_RX0_29 hx5 ?_
    refine v_aload_n (dq D_X0_slotOf 13 rfl) 2 rfl ?_
    refine v_iload_n (dq D_X0_slotOf 14 rfl) 3 rfl ?_
    obtain ⟨σ6, hσ6, h⟩ := obi h
    refine v_cVv (bc := 0) (bs := 0) (As := [.ref a1, .int a2]) (dq D_X0_slotOf 15 rfl) cv_X3_begin ml_RX0_39 (itg hσ6).1 (m_X3_begin hσ6) rfl rfl (Nat.le_of_ble_eq_true rfl) ⟨Nat.le_of_ble_eq_true rfl, Nat.le_of_ble_eq_true rfl⟩ ⟨Nat.le_of_ble_eq_true rfl, Nat.le_of_ble_eq_true rfl⟩ ?_
    refine v_aload_n (dq D_X0_slotOf 16 rfl) 1 rfl ?_
    obtain ⟨x7, hx7, h⟩ := obi h
    refine v_gR (dq D_X0_slotOf 17 rfl) fa_RX0_18 hx7 ?_
    refine v_iload_n (dq D_X0_slotOf 18 rfl) 0 rfl ?_
    refine v_iconst (dq D_X0_slotOf 19 rfl) kc_0 ?_
    obtain ⟨σ8, hσ8, h⟩ := obi h
    refine v_iast (dq D_X0_slotOf 20 rfl) hσ8 ?_
    refine v_aload_n (dq D_X0_slotOf 21 rfl) 1 rfl ?_
    obtain ⟨x9, hx9, h⟩ := obi h
    refine v_gR (dq D_X0_slotOf 22 rfl) fa_RX0_21 hx9 ?_
    refine v_iload_n (dq D_X0_slotOf 23 rfl) 0 rfl ?_
    refine v_iconst (dq D_X0_slotOf 24 rfl) kc_0 ?_
    obtain ⟨σ10, hσ10, h⟩ := obi h
    refine v_iast (dq D_X0_slotOf 25 rfl) hσ10 ?_
    refine v_iconst (dq D_X0_slotOf 26 rfl) kc_0 ?_
    refine v_istore (dq D_X0_slotOf 27 rfl) [(4, .int 0), (3, .int x1), (0, .ref a0), (1, .ref a1), (2, .int a2)] (Nat.le_of_ble_eq_true rfl) rfl ?_
    exact v_sub [2, 4, 1, 0] rfl (w_X0_slotOf_42 _ h)
  · have h := itn h c4
    refine v_iload_n (dq D_X0_slotOf 9 rfl) 0 rfl ?_
    obtain rfl := Option.some.inj h
    exact v_iret (dq D_X0_slotOf 10 rfl) rfl ⟨rfl, rfl⟩
theorem m_X0_slotOf {sa : Env3} {a0 : Nat} {a1 : Nat} {a2 : Int32} {σ : St} {r : Int32 × St} (h : f_X0_slotOf a0 a1 a2 σ = some r) : Ex sa yX0_slotOf cX0_slotOf K_X0_slotOf [.ref a0, .ref a1, .int a2] σ (pO r) := Ex.of (by decide) rfl (fun q => nomatch q) (Nat.le_of_ble_eq_true rfl) (w_X0_slotOf_0 (itg h).2)
theorem w_X10_refused_0 {sa : Env3} {a0 : Nat} {a1 : Int32} {σ : St} {r : Int32 × St} (h : f_X10_refused_0 a0 a1 σ = some r) : VV sa cX10_refused K_X10_refused 0 [(0, .ref a0), (1, .int a1)] [] σ (pO r) 0 0 := by
  unfold f_X10_refused_0 at h
  refine v_aload_n (dq D_X10_refused 0 rfl) 0 rfl ?_
  refine v_iload_n (dq D_X10_refused 1 rfl) 1 rfl ?_
  obtain ⟨σ1, hσ1, h⟩ := obi h
  refine v_pI (dq D_X10_refused 2 rfl) fp_RX10_39 hσ1 ?_
  refine v_aload_n (dq D_X10_refused 3 rfl) 0 rfl ?_
  refine v_iconst (dq D_X10_refused 4 rfl) kc_m1 ?_
  obtain ⟨σ2, hσ2, h⟩ := obi h
  refine v_pI (dq D_X10_refused 5 rfl) fp_RX10_9 hσ2 ?_
  refine v_iconst (dq D_X10_refused 6 rfl) kc_m1 ?_
  obtain rfl := Option.some.inj h
  exact v_iret (dq D_X10_refused 7 rfl) rfl ⟨rfl, rfl⟩
theorem m_X10_refused {sa : Env3} {a0 : Nat} {a1 : Int32} {σ : St} {r : Int32 × St} (h : f_X10_refused a0 a1 σ = some r) : Ex sa yX10_refused cX10_refused K_X10_refused [.ref a0, .int a1] σ (pO r) := Ex.of (by decide) rfl (fun q => nomatch q) (Nat.le_of_ble_eq_true rfl) (w_X10_refused_0 (itg h).2)
theorem w_X10_works_2 {sa : Env3} : ∀ (n : Nat) {a0 : Nat} {a1 : Int32} {σ : St} {r : St}, f_X10_works_2 n a0 a1 σ = some r → VV sa cX10_works K_X10_works 2 [(0, .ref a0), (1, .int a1)] [] σ (pU r) 0 0 := by
  intro n
  induction n with
  | zero => intro a0 a1 σ r h; cases h
  | succ n ih =>
    intro a0 a1 σ r h
    rw [e_X10_works_2] at h
    refine v_iload_n (dq D_X10_works 2 rfl) 1 rfl ?_
    refine v_sipush (dq D_X10_works 3 rfl) ks_195 ?_
    refine v_icmp_ge (dq D_X10_works 4 rfl) rfl (fun c1 => ?_) (fun c1 => ?_)
    · have h := itp h c1
      refine v_aload_n (dq D_X10_works 15 rfl) 0 rfl ?_
      refine v_aload_n (dq D_X10_works 16 rfl) 0 rfl ?_
      obtain ⟨x2, hx2, h⟩ := obi h
      refine v_gR (dq D_X10_works 17 rfl) fa_RX10_266 hx2 ?_
      obtain ⟨x3, hx3, h⟩ := obi h
      refine v_gI (dq D_X10_works 18 rfl) fa_RX10_134 hx3 ?_
      obtain ⟨σ4, hσ4, h⟩ := obi h
      refine v_pI (dq D_X10_works 19 rfl) fp_RX10_315 hσ4 ?_
      obtain rfl := Option.some.inj h
      exact v_vret (dq D_X10_works 20 rfl) rfl ⟨rfl, rfl⟩
    · have h := itn h c1
      refine v_aload_n (dq D_X10_works 5 rfl) 0 rfl ?_
      obtain ⟨x5, hx5, h⟩ := obi h
      refine v_gR (dq D_X10_works 6 rfl) fa_RX10_24 hx5 ?_
      refine v_iload_n (dq D_X10_works 7 rfl) 1 rfl ?_
      refine v_aload_n (dq D_X10_works 8 rfl) 0 rfl ?_
      obtain ⟨x6, hx6, h⟩ := obi h
      refine v_gR (dq D_X10_works 9 rfl) fa_RX10_21 hx6 ?_
      refine v_iload_n (dq D_X10_works 10 rfl) 1 rfl ?_
      obtain ⟨x7, hx7, h⟩ := obi h
      refine v_iald (dq D_X10_works 11 rfl) hx7 ?_
      obtain ⟨σ8, hσ8, h⟩ := obi h
      refine v_iast (dq D_X10_works 12 rfl) hσ8 ?_
      refine v_iinc (dq D_X10_works 13 rfl) 1 [(1, .int (a1 + 1)), (0, .ref a0)] rfl kc_1 (Nat.le_of_ble_eq_true rfl) rfl ?_
      refine v_goto (dq D_X10_works 14 rfl) rfl ?_
      exact v_sub [1, 0] rfl (ih h)
theorem w_X10_works_0 {sa : Env3} {a0 : Nat} {σ : St} {r : St} (h : f_X10_works_0 a0 σ = some r) : VV sa cX10_works K_X10_works 0 [(0, .ref a0)] [] σ (pU r) 0 0 := by
  unfold f_X10_works_0 at h
  refine v_iconst (dq D_X10_works 0 rfl) kc_0 ?_
  refine v_istore_n (dq D_X10_works 1 rfl) [(1, .int 0), (0, .ref a0)] rfl (Nat.le_of_ble_eq_true rfl) rfl ?_
  exact v_sub [1, 0] rfl (w_X10_works_2 _ h)
theorem m_X10_works {sa : Env3} {a0 : Nat} {σ : St} {r : St} (h : f_X10_works a0 σ = some r) : Ex sa yX10_works cX10_works K_X10_works [.ref a0] σ (pU r) := Ex.of (by decide) rfl (fun q => nomatch q) (Nat.le_of_ble_eq_true rfl) (w_X10_works_0 (itg h).2)
theorem w_X10_in_15 {sa : Env3} {s0 : Int32} {σ : St} {r : Int32 × St} (h : f_X10_in_15 s0 σ = some r) : VV sa cX10_in K_X10_in 15 [] [.int s0] σ (pO r) 0 0 := by
  unfold f_X10_in_15 at h
  have hz := (itg h).1
  have h := (itg h).2
  obtain rfl := Option.some.inj h
  exact v_zret (dq D_X10_in 9 rfl) rfl (z_nar hz) ⟨rfl, rfl⟩
theorem w_X10_in_14 {sa : Env3}  {σ : St} {r : Int32 × St} (h : f_X10_in_14  σ = some r) : VV sa cX10_in K_X10_in 14 [] [] σ (pO r) 0 0 := by
  unfold f_X10_in_14 at h
  refine v_iconst (dq D_X10_in 8 rfl) kc_0 ?_
  exact w_X10_in_15 h
theorem w_X10_in_0 {sa : Env3} {a0 : Int32} {a1 : Int32} {a2 : Int32} {σ : St} {r : Int32 × St} (h : f_X10_in_0 a0 a1 a2 σ = some r) : VV sa cX10_in K_X10_in 0 [(0, .int a0), (1, .int a1), (2, .int a2)] [] σ (pO r) 0 0 := by
  unfold f_X10_in_0 at h
  refine v_iload_n (dq D_X10_in 0 rfl) 0 rfl ?_
  refine v_iload_n (dq D_X10_in 1 rfl) 1 rfl ?_
  refine v_icmp_lt (dq D_X10_in 2 rfl) rfl (fun c1 => ?_) (fun c1 => ?_)
  · have h := itp h c1
    exact v_sub [] rfl (w_X10_in_14 h)
  · have h := itn h c1
    refine v_iload_n (dq D_X10_in 3 rfl) 0 rfl ?_
    refine v_iload_n (dq D_X10_in 4 rfl) 2 rfl ?_
    refine v_icmp_gt (dq D_X10_in 5 rfl) rfl (fun c2 => ?_) (fun c2 => ?_)
    · have h := itp h c2
      exact v_sub [] rfl (w_X10_in_14 h)
    · have h := itn h c2
      refine v_iconst (dq D_X10_in 6 rfl) kc_1 ?_
      refine v_goto (dq D_X10_in 7 rfl) rfl ?_
      exact v_sub [] rfl (w_X10_in_15 h)
theorem m_X10_in {sa : Env3} {a0 : Int32} {a1 : Int32} {a2 : Int32} {σ : St} {r : Int32 × St} (h : f_X10_in a0 a1 a2 σ = some r) : Ex sa yX10_in cX10_in K_X10_in [.int a0, .int a1, .int a2] σ (pO r) := Ex.of (by decide) rfl (fun q => nomatch q) (Nat.le_of_ble_eq_true rfl) (w_X10_in_0 h)
theorem w_X9_isStep_17 {sa : Env3} {s0 : Int32} {σ : St} {r : Int32 × St} (h : f_X9_isStep_17 s0 σ = some r) : VV sa cX9_isStep K_X9_isStep 17 [] [.int s0] σ (pO r) 0 0 := by
  unfold f_X9_isStep_17 at h
  have hz := (itg h).1
  have h := (itg h).2
  obtain rfl := Option.some.inj h
  exact v_zret (dq D_X9_isStep 9 rfl) rfl (z_nar hz) ⟨rfl, rfl⟩
theorem w_X9_isStep_16 {sa : Env3}  {σ : St} {r : Int32 × St} (h : f_X9_isStep_16  σ = some r) : VV sa cX9_isStep K_X9_isStep 16 [] [] σ (pO r) 0 0 := by
  unfold f_X9_isStep_16 at h
  refine v_iconst (dq D_X9_isStep 8 rfl) kc_0 ?_
  exact w_X9_isStep_17 h
theorem w_X9_isStep_0 {sa : Env3} {a0 : Nat} {a1 : Int32} {σ : St} {r : Int32 × St} (h : f_X9_isStep_0 a0 a1 σ = some r) : VV sa cX9_isStep K_X9_isStep 0 [(0, .ref a0), (1, .int a1)] [] σ (pO r) 0 0 := by
  unfold f_X9_isStep_0 at h
  refine v_iload_n (dq D_X9_isStep 0 rfl) 1 rfl ?_
  refine v_if_lt (dq D_X9_isStep 1 rfl) rfl (fun c1 => ?_) (fun c1 => ?_)
  · have h := itp h c1
    exact v_sub [] rfl (w_X9_isStep_16 h)
  · have h := itn h c1
    refine v_iload_n (dq D_X9_isStep 2 rfl) 1 rfl ?_
    refine v_aload_n (dq D_X9_isStep 3 rfl) 0 rfl ?_
    obtain ⟨x2, hx2, h⟩ := obi h
    refine v_gI (dq D_X9_isStep 4 rfl) fa_RX9_43 hx2 ?_
    refine v_icmp_ge (dq D_X9_isStep 5 rfl) rfl (fun c3 => ?_) (fun c3 => ?_)
    · have h := itp h c3
      exact v_sub [] rfl (w_X9_isStep_16 h)
    · have h := itn h c3
      refine v_iconst (dq D_X9_isStep 6 rfl) kc_1 ?_
      refine v_goto (dq D_X9_isStep 7 rfl) rfl ?_
      exact v_sub [] rfl (w_X9_isStep_17 h)
theorem m_X9_isStep {sa : Env3} {a0 : Nat} {a1 : Int32} {σ : St} {r : Int32 × St} (h : f_X9_isStep a0 a1 σ = some r) : Ex sa yX9_isStep cX9_isStep K_X9_isStep [.ref a0, .int a1] σ (pO r) := Ex.of (by decide) rfl (fun q => nomatch q) (Nat.le_of_ble_eq_true rfl) (w_X9_isStep_0 (itg h).2)
theorem w_X9_reads_28 {sa : Env3} {s0 : Int32} {σ : St} {r : Int32 × St} (h : f_X9_reads_28 s0 σ = some r) : VV sa cX9_reads K_X9_reads 28 [] [.int s0] σ (pO r) 0 0 := by
  unfold f_X9_reads_28 at h
  obtain rfl := Option.some.inj h
  exact v_iret (dq D_X9_reads 16 rfl) rfl ⟨rfl, rfl⟩
theorem w_X9_reads_0 {sa : Env3} {a0 : Nat} {a1 : Int32} {σ : St} {r : Int32 × St} (h : f_X9_reads_0 a0 a1 σ = some r) : VV sa cX9_reads K_X9_reads 0 [(0, .ref a0), (1, .int a1)] [] σ (pO r) 0 0 := by
  unfold f_X9_reads_0 at h
  refine v_aload_n (dq D_X9_reads 0 rfl) 0 rfl ?_
  obtain ⟨x1, hx1, h⟩ := obi h
  refine v_gR (dq D_X9_reads 1 rfl) fa_RX9_9 hx1 ?_
  refine v_iload_n (dq D_X9_reads 2 rfl) 1 rfl ?_
  obtain ⟨x2, hx2, h⟩ := obi h
  refine v_iald (dq D_X9_reads 3 rfl) hx2 ?_
  refine v_if_ne (dq D_X9_reads 4 rfl) rfl (fun c3 => ?_) (fun c3 => ?_)
  · have h := itn h c3
    refine v_aload_n (dq D_X9_reads 7 rfl) 0 rfl ?_
    obtain ⟨x4, hx4, h⟩ := obi h
    refine v_gR (dq D_X9_reads 8 rfl) fa_RX9_9 hx4 ?_
    refine v_iload_n (dq D_X9_reads 9 rfl) 1 rfl ?_
    obtain ⟨x5, hx5, h⟩ := obi h
    refine v_iald (dq D_X9_reads 10 rfl) hx5 ?_
    refine v_iconst (dq D_X9_reads 11 rfl) kc_4 ?_
    refine v_icmp_ne (dq D_X9_reads 12 rfl) rfl (fun c6 => ?_) (fun c6 => ?_)
    · have h := itn h c6
      refine v_iconst (dq D_X9_reads 15 rfl) kc_2 ?_
      exact v_sub [] rfl (w_X9_reads_28 h)
    · have h := itp h c6
      refine v_iconst (dq D_X9_reads 13 rfl) kc_1 ?_
      refine v_goto (dq D_X9_reads 14 rfl) rfl ?_
      exact v_sub [] rfl (w_X9_reads_28 h)
  · have h := itp h c3
    refine v_iconst (dq D_X9_reads 5 rfl) kc_0 ?_
    refine v_goto (dq D_X9_reads 6 rfl) rfl ?_
    exact v_sub [] rfl (w_X9_reads_28 h)
theorem m_X9_reads {sa : Env3} {a0 : Nat} {a1 : Int32} {σ : St} {r : Int32 × St} (h : f_X9_reads a0 a1 σ = some r) : Ex sa yX9_reads cX9_reads K_X9_reads [.ref a0, .int a1] σ (pO r) := Ex.of (by decide) rfl (fun q => nomatch q) (Nat.le_of_ble_eq_true rfl) (w_X9_reads_0 (itg h).2)
theorem w_X10_guessed_40 {sa : Env3} {s0 : Int32} {σ : St} {r : Int32 × St} (h : f_X10_guessed_40 s0 σ = some r) : VV sa cX10_guessed K_X10_guessed 40 [] [.int s0] σ (pO r) 0 0 := by
  unfold f_X10_guessed_40 at h
  obtain rfl := Option.some.inj h
  exact v_iret (dq D_X10_guessed 22 rfl) rfl ⟨rfl, rfl⟩
theorem w_X10_guessed_37 {sa : Env3} {a1 : Int32} {σ : St} {r : Int32 × St} (h : f_X10_guessed_37 a1 σ = some r) : VV sa cX10_guessed K_X10_guessed 37 [(1, .int a1)] [] σ (pO r) 0 0 := by
  unfold f_X10_guessed_37 at h
  refine v_iload_n (dq D_X10_guessed 19 rfl) 0 rfl ?_
  refine v_iconst (dq D_X10_guessed 20 rfl) kc_1 ?_
  refine v_iadd (dq D_X10_guessed 21 rfl) ?_
  exact v_sub [] rfl (w_X10_guessed_40 h)
theorem w_X10_guessed_0 {sa : Env3} {a0 : Nat} {a1 : Int32} {σ : St} {r : Int32 × St} (h : f_X10_guessed_0 a0 a1 σ = some r) : VV sa cX10_guessed K_X10_guessed 0 [(0, .ref a0), (1, .int a1)] [] σ (pO r) 0 0 := by
  unfold f_X10_guessed_0 at h
  refine v_aload_n (dq D_X10_guessed 0 rfl) 0 rfl ?_
  obtain ⟨x1, hx1, h⟩ := obi h
  refine v_gR (dq D_X10_guessed 1 rfl) fa_RX10_266 hx1 ?_
  obtain ⟨x2, hx2, h⟩ := obi h
  refine v_gR (dq D_X10_guessed 2 rfl) fa_RX10_217 hx2 ?_
  refine v_iload_n (dq D_X10_guessed 3 rfl) 1 rfl ?_
  obtain ⟨x3, hx3, h⟩ := obi h
  refine v_iald (dq D_X10_guessed 4 rfl) hx3 ?_
  refine v_iconst (dq D_X10_guessed 5 rfl) kc_5 ?_
  refine v_icmp_ne (dq D_X10_guessed 6 rfl) rfl (fun c4 => ?_) (fun c4 => ?_)
  · have h := itn h c4
    exact v_sub [1] rfl (w_X10_guessed_37 h)
  · have h := itp h c4
    refine v_aload_n (dq D_X10_guessed 7 rfl) 0 rfl ?_
    obtain ⟨x5, hx5, h⟩ := obi h
    refine v_gR (dq D_X10_guessed 8 rfl) fa_RX10_266 hx5 ?_
    obtain ⟨x6, hx6, h⟩ := obi h
    refine v_gR (dq D_X10_guessed 9 rfl) fa_RX10_231 hx6 ?_
    refine v_iload_n (dq D_X10_guessed 10 rfl) 1 rfl ?_
    obtain ⟨x7, hx7, h⟩ := obi h
    refine v_zald (dq D_X10_guessed 11 rfl) hx7 ?_
    refine v_if_eq (dq D_X10_guessed 12 rfl) rfl (fun c8 => ?_) (fun c8 => ?_)
    · have h := itp h c8
      exact v_sub [1] rfl (w_X10_guessed_37 h)
    · have h := itn h c8
      refine v_aload_n (dq D_X10_guessed 13 rfl) 0 rfl ?_
      obtain ⟨x9, hx9, h⟩ := obi h
      refine v_gR (dq D_X10_guessed 14 rfl) fa_RX10_266 hx9 ?_
      obtain ⟨x10, hx10, h⟩ := obi h
      refine v_gR (dq D_X10_guessed 15 rfl) fa_RX10_229 hx10 ?_
      refine v_iload_n (dq D_X10_guessed 16 rfl) 1 rfl ?_
      obtain ⟨x11, hx11, h⟩ := obi h
      refine v_iald (dq D_X10_guessed 17 rfl) hx11 ?_
      refine v_goto (dq D_X10_guessed 18 rfl) rfl ?_
      exact v_sub [] rfl (w_X10_guessed_40 h)
theorem m_X10_guessed {sa : Env3} {a0 : Nat} {a1 : Int32} {σ : St} {r : Int32 × St} (h : f_X10_guessed a0 a1 σ = some r) : Ex sa yX10_guessed cX10_guessed K_X10_guessed [.ref a0, .int a1] σ (pO r) := Ex.of (by decide) rfl (fun q => nomatch q) (Nat.le_of_ble_eq_true rfl) (w_X10_guessed_0 (itg h).2)
theorem w_X9_unsureOf_2 {sa : Env3} : ∀ (n : Nat) {a0 : Nat} {a1 : Int32} {a2 : Int32} {σ : St} {r : Int32 × St}, f_X9_unsureOf_2 n a0 a1 a2 σ = some r → VV sa cX9_unsureOf K_X9_unsureOf 2 [(0, .ref a0), (1, .int a1), (2, .int a2)] [] σ (pO r) 0 0 := by
  intro n
  induction n with
  | zero => intro a0 a1 a2 σ r h; cases h
  | succ n ih =>
    intro a0 a1 a2 σ r h
    rw [e_X9_unsureOf_2] at h
    refine v_iload_n (dq D_X9_unsureOf 2 rfl) 2 rfl ?_
    refine v_aload_n (dq D_X9_unsureOf 3 rfl) 0 rfl ?_
    obtain ⟨x1, hx1, h⟩ := obi h
    refine v_gI (dq D_X9_unsureOf 4 rfl) fa_RX9_47 hx1 ?_
    refine v_icmp_ge (dq D_X9_unsureOf 5 rfl) rfl (fun c2 => ?_) (fun c2 => ?_)
    · have h := itp h c2
      refine v_iconst (dq D_X9_unsureOf 16 rfl) kc_m1 ?_
      obtain rfl := Option.some.inj h
      exact v_iret (dq D_X9_unsureOf 17 rfl) rfl ⟨rfl, rfl⟩
    · have h := itn h c2
      refine v_aload_n (dq D_X9_unsureOf 6 rfl) 0 rfl ?_
      obtain ⟨x3, hx3, h⟩ := obi h
      refine v_gR (dq D_X9_unsureOf 7 rfl) fa_RX9_31 hx3 ?_
      refine v_iload_n (dq D_X9_unsureOf 8 rfl) 2 rfl ?_
      obtain ⟨x4, hx4, h⟩ := obi h
      refine v_iald (dq D_X9_unsureOf 9 rfl) hx4 ?_
      refine v_iload_n (dq D_X9_unsureOf 10 rfl) 1 rfl ?_
      refine v_icmp_ne (dq D_X9_unsureOf 11 rfl) rfl (fun c5 => ?_) (fun c5 => ?_)
      · have h := itn h c5
        refine v_iinc (dq D_X9_unsureOf 14 rfl) 2 [(2, .int (a2 + 1)), (0, .ref a0), (1, .int a1)] rfl kc_1 (Nat.le_of_ble_eq_true rfl) rfl ?_
        refine v_goto (dq D_X9_unsureOf 15 rfl) rfl ?_
        exact v_sub [1, 2, 0] rfl (ih h)
      · have h := itp h c5
        refine v_iload_n (dq D_X9_unsureOf 12 rfl) 2 rfl ?_
        obtain rfl := Option.some.inj h
        exact v_iret (dq D_X9_unsureOf 13 rfl) rfl ⟨rfl, rfl⟩
theorem w_X9_unsureOf_0 {sa : Env3} {a0 : Nat} {a1 : Int32} {σ : St} {r : Int32 × St} (h : f_X9_unsureOf_0 a0 a1 σ = some r) : VV sa cX9_unsureOf K_X9_unsureOf 0 [(0, .ref a0), (1, .int a1)] [] σ (pO r) 0 0 := by
  unfold f_X9_unsureOf_0 at h
  refine v_iconst (dq D_X9_unsureOf 0 rfl) kc_0 ?_
  refine v_istore_n (dq D_X9_unsureOf 1 rfl) [(2, .int 0), (0, .ref a0), (1, .int a1)] rfl (Nat.le_of_ble_eq_true rfl) rfl ?_
  exact v_sub [1, 2, 0] rfl (w_X9_unsureOf_2 _ h)
theorem m_X9_unsureOf {sa : Env3} {a0 : Nat} {a1 : Int32} {σ : St} {r : Int32 × St} (h : f_X9_unsureOf a0 a1 σ = some r) : Ex sa yX9_unsureOf cX9_unsureOf K_X9_unsureOf [.ref a0, .int a1] σ (pO r) := Ex.of (by decide) rfl (fun q => nomatch q) (Nat.le_of_ble_eq_true rfl) (w_X9_unsureOf_0 (itg h).2)
theorem w_X10_bit_14 {sa : Env3} {s0 : Int32} {σ : St} {r : Int32 × St} (h : f_X10_bit_14 s0 σ = some r) : VV sa cX10_bit K_X10_bit 14 [] [.int s0] σ (pO r) 0 0 := by
  unfold f_X10_bit_14 at h
  have hz := (itg h).1
  have h := (itg h).2
  obtain rfl := Option.some.inj h
  exact v_zret (dq D_X10_bit 10 rfl) rfl (z_nar hz) ⟨rfl, rfl⟩
theorem w_X10_bit_0 {sa : Env3} {a0 : Int32} {a1 : Int32} {σ : St} {r : Int32 × St} (h : f_X10_bit_0 a0 a1 σ = some r) : VV sa cX10_bit K_X10_bit 0 [(0, .int a0), (1, .int a1)] [] σ (pO r) 0 0 := by
  unfold f_X10_bit_0 at h
  refine v_iload_n (dq D_X10_bit 0 rfl) 0 rfl ?_
  refine v_iload_n (dq D_X10_bit 1 rfl) 1 rfl ?_
  refine v_ishr (dq D_X10_bit 2 rfl) ?_
  refine v_iconst (dq D_X10_bit 3 rfl) kc_1 ?_
  refine v_iand (dq D_X10_bit 4 rfl) ?_
  refine v_iconst (dq D_X10_bit 5 rfl) kc_1 ?_
  refine v_icmp_ne (dq D_X10_bit 6 rfl) rfl (fun c1 => ?_) (fun c1 => ?_)
  · have h := itn h c1
    refine v_iconst (dq D_X10_bit 9 rfl) kc_0 ?_
    exact v_sub [] rfl (w_X10_bit_14 h)
  · have h := itp h c1
    refine v_iconst (dq D_X10_bit 7 rfl) kc_1 ?_
    refine v_goto (dq D_X10_bit 8 rfl) rfl ?_
    exact v_sub [] rfl (w_X10_bit_14 h)
theorem m_X10_bit {sa : Env3} {a0 : Int32} {a1 : Int32} {σ : St} {r : Int32 × St} (h : f_X10_bit a0 a1 σ = some r) : Ex sa yX10_bit cX10_bit K_X10_bit [.int a0, .int a1] σ (pO r) := Ex.of (by decide) rfl (fun q => nomatch q) (Nat.le_of_ble_eq_true rfl) (w_X10_bit_0 h)
theorem w_X10_setBy_43 {sa : Env3} {s0 : Int32} {σ : St} {r : Int32 × St} (h : f_X10_setBy_43 s0 σ = some r) : VV sa cX10_setBy K_X10_setBy 43 [] [.int s0] σ (pO r) 0 0 := by
  unfold f_X10_setBy_43 at h
  obtain rfl := Option.some.inj h
  exact v_iret (dq D_X10_setBy 23 rfl) rfl ⟨rfl, rfl⟩
theorem w_X10_setBy_34 {sa : Env3} {a0 : Nat} {a1 : Int32} {σ : St} {r : Int32 × St} (h : f_X10_setBy_34 a0 a1 σ = some r) : VV sa cX10_setBy K_X10_setBy 34 [(0, .ref a0), (1, .int a1)] [] σ (pO r) 0 0 := by
  unfold f_X10_setBy_34 at h
  refine v_aload_n (dq D_X10_setBy 18 rfl) 0 rfl ?_
  obtain ⟨x1, hx1, h⟩ := obi h
  refine v_gR (dq D_X10_setBy 19 rfl) fa_RX10_266 hx1 ?_
  obtain ⟨x2, hx2, h⟩ := obi h
  refine v_gR (dq D_X10_setBy 20 rfl) fa_RX10_229 hx2 ?_
  refine v_iload_n (dq D_X10_setBy 21 rfl) 1 rfl ?_
  obtain ⟨x3, hx3, h⟩ := obi h
  refine v_iald (dq D_X10_setBy 22 rfl) hx3 ?_
  exact v_sub [] rfl (w_X10_setBy_43 h)
theorem w_X10_setBy_0 {sa : Env3} {a0 : Nat} {a1 : Int32} {a2 : Int32} {σ : St} {r : Int32 × St} (h : f_X10_setBy_0 a0 a1 a2 σ = some r) : VV sa cX10_setBy K_X10_setBy 0 [(0, .ref a0), (1, .int a1), (2, .int a2)] [] σ (pO r) 0 0 := by
  unfold f_X10_setBy_0 at h
  refine v_aload_n (dq D_X10_setBy 0 rfl) 0 rfl ?_
  obtain ⟨x1, hx1, h⟩ := obi h
  refine v_gR (dq D_X10_setBy 1 rfl) fa_RX10_266 hx1 ?_
  refine v_iload_n (dq D_X10_setBy 2 rfl) 1 rfl ?_
  obtain ⟨q2, hq2, h⟩ := obi h
  refine v_cVi (bc := 0) (bs := 0) (As := [.int a1]) (dq D_X10_setBy 3 rfl) cv_X9_unsureOf ml_RX10_240 (itg hq2).1 (m_X9_unsureOf hq2) rfl rfl (Nat.le_of_ble_eq_true rfl) ⟨Nat.le_of_ble_eq_true rfl, Nat.le_of_ble_eq_true rfl⟩ ⟨Nat.le_of_ble_eq_true rfl, Nat.le_of_ble_eq_true rfl⟩ ?_
  refine v_istore_n (dq D_X10_setBy 4 rfl) [(3, .int q2.1), (0, .ref a0), (1, .int a1), (2, .int a2)] rfl (Nat.le_of_ble_eq_true rfl) rfl ?_
  refine v_iload_n (dq D_X10_setBy 5 rfl) 0 rfl ?_
  refine v_iconst (dq D_X10_setBy 6 rfl) kc_m1 ?_
  refine v_icmp_eq (dq D_X10_setBy 7 rfl) rfl (fun c3 => ?_) (fun c3 => ?_)
  · have h := itp h c3
    exact v_sub [1, 2] rfl (w_X10_setBy_34 h)
  · have h := itn h c3
    refine v_iload_n (dq D_X10_setBy 8 rfl) 3 rfl ?_
    refine v_iload_n (dq D_X10_setBy 9 rfl) 0 rfl ?_
    obtain ⟨q4, hq4, h⟩ := obi h
    refine v_cSi (bc := 0) (bs := 0) (As := [.int a2, .int q2.1]) (dq D_X10_setBy 10 rfl) cs_X10_bit ml_RX10_280 (m_X10_bit hq4) rfl rfl (Nat.le_of_ble_eq_true rfl) ⟨Nat.le_of_ble_eq_true rfl, Nat.le_of_ble_eq_true rfl⟩ ⟨Nat.le_of_ble_eq_true rfl, Nat.le_of_ble_eq_true rfl⟩ ?_
    refine v_if_eq (dq D_X10_setBy 11 rfl) rfl (fun c5 => ?_) (fun c5 => ?_)
    · have h := itp h c5
      exact v_sub [1, 2] rfl (w_X10_setBy_34 h)
    · have h := itn h c5
      refine v_aload_n (dq D_X10_setBy 12 rfl) 1 rfl ?_
      obtain ⟨x6, hx6, h⟩ := obi h
      refine v_gR (dq D_X10_setBy 13 rfl) fa_RX10_266 hx6 ?_
      obtain ⟨x7, hx7, h⟩ := obi h
      refine v_gR (dq D_X10_setBy 14 rfl) fa_RX10_245 hx7 ?_
      refine v_iload_n (dq D_X10_setBy 15 rfl) 0 rfl ?_
      obtain ⟨x8, hx8, h⟩ := obi h
      refine v_iald (dq D_X10_setBy 16 rfl) hx8 ?_
      refine v_goto (dq D_X10_setBy 17 rfl) rfl ?_
      exact v_sub [] rfl (w_X10_setBy_43 h)
theorem m_X10_setBy {sa : Env3} {a0 : Nat} {a1 : Int32} {a2 : Int32} {σ : St} {r : Int32 × St} (h : f_X10_setBy a0 a1 a2 σ = some r) : Ex sa yX10_setBy cX10_setBy K_X10_setBy [.ref a0, .int a1, .int a2] σ (pO r) := Ex.of (by decide) rfl (fun q => nomatch q) (Nat.le_of_ble_eq_true rfl) (w_X10_setBy_0 (itg h).2)
theorem w_X10_comes_37 {sa : Env3} {s0 : Int32} {σ : St} {r : Int32 × St} (h : f_X10_comes_37 s0 σ = some r) : VV sa cX10_comes K_X10_comes 37 [] [.int s0] σ (pO r) 0 0 := by
  unfold f_X10_comes_37 at h
  refine v_istore_n (dq D_X10_comes 23 rfl) [(3, .int s0)] rfl (Nat.le_of_ble_eq_true rfl) rfl ?_
  refine v_iload_n (dq D_X10_comes 24 rfl) 0 rfl ?_
  refine v_sipush (dq D_X10_comes 25 rfl) ks_10000 ?_
  refine v_irem (dq D_X10_comes 26 rfl) (by decide) ?_
  obtain rfl := Option.some.inj h
  exact v_iret (dq D_X10_comes 27 rfl) rfl ⟨rfl, rfl⟩
theorem w_X10_comes_0 {sa : Env3} {a0 : Int32} {a1 : Int32} {a2 : Int32} {σ : St} {r : Int32 × St} (h : f_X10_comes_0 a0 a1 a2 σ = some r) : VV sa cX10_comes K_X10_comes 0 [(0, .int a0), (1, .int a1), (2, .int a2)] [] σ (pO r) 0 0 := by
  unfold f_X10_comes_0 at h
  refine v_iload_n (dq D_X10_comes 0 rfl) 0 rfl ?_
  refine v_iconst (dq D_X10_comes 1 rfl) kc_1 ?_
  refine v_icmp_ne (dq D_X10_comes 2 rfl) rfl (fun c1 => ?_) (fun c1 => ?_)
  · have h := itn h c1
    refine v_iload_n (dq D_X10_comes 7 rfl) 0 rfl ?_
    refine v_iconst (dq D_X10_comes 8 rfl) kc_2 ?_
    refine v_icmp_ne (dq D_X10_comes 9 rfl) rfl (fun c2 => ?_) (fun c2 => ?_)
    · have h := itn h c2
      refine v_iload_n (dq D_X10_comes 16 rfl) 2 rfl ?_
      refine v_if_ne (dq D_X10_comes 17 rfl) rfl (fun c3 => ?_) (fun c3 => ?_)
      · have h := itn h c3
        refine v_iload_n (dq D_X10_comes 20 rfl) 1 rfl ?_
        refine v_iload_n (dq D_X10_comes 21 rfl) 2 rfl ?_
        have c4 := (itx h).1
        have h := (itx h).2
        refine v_idiv (dq D_X10_comes 22 rfl) c4 ?_
        exact v_sub [] rfl (w_X10_comes_37 h)
      · have h := itp h c3
        refine v_iconst (dq D_X10_comes 18 rfl) kc_0 ?_
        refine v_goto (dq D_X10_comes 19 rfl) rfl ?_
        exact v_sub [] rfl (w_X10_comes_37 h)
    · have h := itp h c2
      refine v_iload_n (dq D_X10_comes 10 rfl) 1 rfl ?_
      refine v_iload_n (dq D_X10_comes 11 rfl) 2 rfl ?_
      refine v_isub (dq D_X10_comes 12 rfl) ?_
      refine v_sipush (dq D_X10_comes 13 rfl) ks_10000 ?_
      refine v_iadd (dq D_X10_comes 14 rfl) ?_
      refine v_goto (dq D_X10_comes 15 rfl) rfl ?_
      exact v_sub [] rfl (w_X10_comes_37 h)
  · have h := itp h c1
    refine v_iload_n (dq D_X10_comes 3 rfl) 1 rfl ?_
    refine v_iload_n (dq D_X10_comes 4 rfl) 2 rfl ?_
    refine v_iadd (dq D_X10_comes 5 rfl) ?_
    refine v_goto (dq D_X10_comes 6 rfl) rfl ?_
    exact v_sub [] rfl (w_X10_comes_37 h)
theorem m_X10_comes {sa : Env3} {a0 : Int32} {a1 : Int32} {a2 : Int32} {σ : St} {r : Int32 × St} (h : f_X10_comes a0 a1 a2 σ = some r) : Ex sa yX10_comes cX10_comes K_X10_comes [.int a0, .int a1, .int a2] σ (pO r) := Ex.of (by decide) rfl (fun q => nomatch q) (Nat.le_of_ble_eq_true rfl) (w_X10_comes_0 h)
theorem w_X10_plainly_340 {sa : Env3}  {σ : St} {r : St} (h : f_X10_plainly_340  σ = some r) : VV sa cX10_plainly K_X10_plainly 340 [] [] σ (pU r) 0 0 := by
  unfold f_X10_plainly_340 at h
  obtain rfl := Option.some.inj h
  exact v_vret (dq D_X10_plainly 181 rfl) rfl ⟨rfl, rfl⟩
theorem w_X10_plainly_308 {sa : Env3} {k41 : Nat → Int32 → Int32 → St → Option (St)} (hk41 : ∀ {a0 : Nat} {a1 : Int32} {a2 : Int32} {σ : St} {r : St}, k41 a0 a1 a2 σ = some r → VV sa cX10_plainly K_X10_plainly 41 [(0, .ref a0), (1, .int a1), (2, .int a2)] [] σ (pU r) 0 0) {a0 : Nat} {a1 : Int32} {a2 : Int32} {σ : St} {r : St} (h : f_X10_plainly_308 k41 a0 a1 a2 σ = some r) : VV sa cX10_plainly K_X10_plainly 308 [(0, .ref a0), (1, .int a1), (2, .int a2)] [] σ (pU r) 0 0 := by
  unfold f_X10_plainly_308 at h
  refine v_aload_n (dq D_X10_plainly 165 rfl) 0 rfl ?_
  refine v_dup (dq D_X10_plainly 166 rfl) rfl ?_
  obtain ⟨x1, hx1, h⟩ := obi h
  refine v_gI (dq D_X10_plainly 167 rfl) fa_RX10_287 hx1 ?_
  refine v_iconst (dq D_X10_plainly 168 rfl) kc_1 ?_
  refine v_iadd (dq D_X10_plainly 169 rfl) ?_
  obtain ⟨σ2, hσ2, h⟩ := obi h
  refine v_pI (dq D_X10_plainly 170 rfl) fp_RX10_287 hσ2 ?_
  refine v_goto (dq D_X10_plainly 171 rfl) rfl ?_
  exact hk41 h
theorem w_X10_plainly_307 {sa : Env3} {k41 : Nat → Int32 → Int32 → St → Option (St)} (hk41 : ∀ {a0 : Nat} {a1 : Int32} {a2 : Int32} {σ : St} {r : St}, k41 a0 a1 a2 σ = some r → VV sa cX10_plainly K_X10_plainly 41 [(0, .ref a0), (1, .int a1), (2, .int a2)] [] σ (pU r) 0 0) {a0 : Nat} {a1 : Int32} {a2 : Int32} {s0 : Nat} {s1 : Int32} {s2 : Int32} {σ : St} {r : St} (h : f_X10_plainly_307 k41 a0 a1 a2 s0 s1 s2 σ = some r) : VV sa cX10_plainly K_X10_plainly 307 [(0, .ref a0), (1, .int a1), (2, .int a2)] [.int s2, .int s1, .ref s0] σ (pU r) 0 0 := by
  unfold f_X10_plainly_307 at h
  obtain ⟨σ1, hσ1, h⟩ := obi h
  refine v_iast (dq D_X10_plainly 164 rfl) hσ1 ?_
  exact w_X10_plainly_308 hk41 h
theorem w_X10_plainly_232 {sa : Env3} {k41 : Nat → Int32 → Int32 → St → Option (St)} (hk41 : ∀ {a0 : Nat} {a1 : Int32} {a2 : Int32} {σ : St} {r : St}, k41 a0 a1 a2 σ = some r → VV sa cX10_plainly K_X10_plainly 41 [(0, .ref a0), (1, .int a1), (2, .int a2)] [] σ (pU r) 0 0) {a0 : Nat} {a1 : Int32} {a2 : Int32} {s0 : Nat} {s1 : Int32} {s2 : Int32} {σ : St} {r : St} (h : f_X10_plainly_232 k41 a0 a1 a2 s0 s1 s2 σ = some r) : VV sa cX10_plainly K_X10_plainly 232 [(0, .ref a0), (1, .int a1), (2, .int a2)] [.int s2, .int s1, .ref s0] σ (pU r) 0 0 := by
  unfold f_X10_plainly_232 at h
  refine v_iadd (dq D_X10_plainly 126 rfl) ?_
  obtain ⟨σ1, hσ1, h⟩ := obi h
  refine v_pI (dq D_X10_plainly 127 rfl) fp_RX10_290 hσ1 ?_
  refine v_goto (dq D_X10_plainly 128 rfl) rfl ?_
  exact w_X10_plainly_308 hk41 h
theorem w_X10_plainly_194 {sa : Env3} {k41 : Nat → Int32 → Int32 → St → Option (St)} (hk41 : ∀ {a0 : Nat} {a1 : Int32} {a2 : Int32} {σ : St} {r : St}, k41 a0 a1 a2 σ = some r → VV sa cX10_plainly K_X10_plainly 41 [(0, .ref a0), (1, .int a1), (2, .int a2)] [] σ (pU r) 0 0) {a0 : Nat} {a1 : Int32} {a2 : Int32} {a3 : Int32} {a4 : Int32} {a5 : Int32} {s0 : Nat} {s1 : Int32} {σ : St} {r : St} (h : f_X10_plainly_194 k41 a0 a1 a2 a3 a4 a5 s0 s1 σ = some r) : VV sa cX10_plainly K_X10_plainly 194 [(0, .ref a0), (1, .int a1), (2, .int a2), (3, .int a3), (4, .int a4), (5, .int a5)] [.int s1, .ref s0] σ (pU r) 0 0 := by
  unfold f_X10_plainly_194 at h
  obtain ⟨σ1, hσ1, h⟩ := obi h
  refine v_pI (dq D_X10_plainly 106 rfl) fp_RX10_284 hσ1 ?_
  refine v_aload_n (dq D_X10_plainly 107 rfl) 0 rfl ?_
  obtain ⟨x2, hx2, h⟩ := obi h
  refine v_gR (dq D_X10_plainly 108 rfl) fa_RX10_266 hx2 ?_
  obtain ⟨x3, hx3, h⟩ := obi h
  refine v_gR (dq D_X10_plainly 109 rfl) fa_RX10_217 hx3 ?_
  refine v_iload_n (dq D_X10_plainly 110 rfl) 3 rfl ?_
  obtain ⟨x4, hx4, h⟩ := obi h
  refine v_iald (dq D_X10_plainly 111 rfl) hx4 ?_
  refine v_iconst (dq D_X10_plainly 112 rfl) kc_5 ?_
  refine v_icmp_ne (dq D_X10_plainly 113 rfl) rfl (fun c5 => ?_) (fun c5 => ?_)
  · have h := itn h c5
    refine v_aload_n (dq D_X10_plainly 129 rfl) 0 rfl ?_
    obtain ⟨x6, hx6, h⟩ := obi h
    refine v_gR (dq D_X10_plainly 130 rfl) fa_RX10_17 hx6 ?_
    refine v_aload_n (dq D_X10_plainly 131 rfl) 0 rfl ?_
    obtain ⟨x7, hx7, h⟩ := obi h
    refine v_gR (dq D_X10_plainly 132 rfl) fa_RX10_266 hx7 ?_
    obtain ⟨x8, hx8, h⟩ := obi h
    refine v_gR (dq D_X10_plainly 133 rfl) fa_RX10_220 hx8 ?_
    refine v_iload_n (dq D_X10_plainly 134 rfl) 3 rfl ?_
    obtain ⟨x9, hx9, h⟩ := obi h
    refine v_iald (dq D_X10_plainly 135 rfl) hx9 ?_
    refine v_aload_n (dq D_X10_plainly 136 rfl) 0 rfl ?_
    obtain ⟨x10, hx10, h⟩ := obi h
    refine v_gR (dq D_X10_plainly 137 rfl) fa_RX10_266 hx10 ?_
    obtain ⟨x11, hx11, h⟩ := obi h
    refine v_gR (dq D_X10_plainly 138 rfl) fa_RX10_217 hx11 ?_
    refine v_iload_n (dq D_X10_plainly 139 rfl) 3 rfl ?_
    obtain ⟨x12, hx12, h⟩ := obi h
    refine v_iald (dq D_X10_plainly 140 rfl) hx12 ?_
    refine v_if_ne (dq D_X10_plainly 141 rfl) rfl (fun c13 => ?_) (fun c13 => ?_)
    · have h := itn h c13
      refine v_aload_n (dq D_X10_plainly 147 rfl) 0 rfl ?_
      obtain ⟨x14, hx14, h⟩ := obi h
      refine v_gR (dq D_X10_plainly 148 rfl) fa_RX10_266 hx14 ?_
      obtain ⟨x15, hx15, h⟩ := obi h
      refine v_gR (dq D_X10_plainly 149 rfl) fa_RX10_217 hx15 ?_
      refine v_iload_n (dq D_X10_plainly 150 rfl) 3 rfl ?_
      obtain ⟨x16, hx16, h⟩ := obi h
      refine v_iald (dq D_X10_plainly 151 rfl) hx16 ?_
      refine v_iconst (dq D_X10_plainly 152 rfl) kc_4 ?_
      refine v_icmp_ne (dq D_X10_plainly 153 rfl) rfl (fun c17 => ?_) (fun c17 => ?_)
      · have h := itn h c17
        refine v_aload_n (dq D_X10_plainly 156 rfl) 0 rfl ?_
        obtain ⟨x18, hx18, h⟩ := obi h
        refine v_gR (dq D_X10_plainly 157 rfl) fa_RX10_266 hx18 ?_
        obtain ⟨x19, hx19, h⟩ := obi h
        refine v_gR (dq D_X10_plainly 158 rfl) fa_RX10_217 hx19 ?_
        refine v_iload_n (dq D_X10_plainly 159 rfl) 3 rfl ?_
        obtain ⟨x20, hx20, h⟩ := obi h
        refine v_iald (dq D_X10_plainly 160 rfl) hx20 ?_
        refine v_iload (dq D_X10_plainly 161 rfl) 4 rfl ?_
        refine v_iload (dq D_X10_plainly 162 rfl) 5 rfl ?_
        obtain ⟨q21, hq21, h⟩ := obi h
        refine v_cSi (bc := 0) (bs := 0) (As := [.int x20, .int a4, .int a5]) (dq D_X10_plainly 163 rfl) cs_X10_comes ml_RX10_305 (m_X10_comes hq21) rfl rfl (Nat.le_of_ble_eq_true rfl) ⟨Nat.le_of_ble_eq_true rfl, Nat.le_of_ble_eq_true rfl⟩ ⟨Nat.le_of_ble_eq_true rfl, Nat.le_of_ble_eq_true rfl⟩ ?_
        exact v_sub [0, 1, 2] rfl (w_X10_plainly_307 hk41 h)
      · have h := itp h c17
        refine v_iload (dq D_X10_plainly 154 rfl) 4 rfl ?_
        refine v_goto (dq D_X10_plainly 155 rfl) rfl ?_
        exact v_sub [0, 1, 2] rfl (w_X10_plainly_307 hk41 h)
    · have h := itp h c13
      refine v_aload_n (dq D_X10_plainly 142 rfl) 0 rfl ?_
      refine v_iload_n (dq D_X10_plainly 143 rfl) 3 rfl ?_
      refine v_iload_n (dq D_X10_plainly 144 rfl) 1 rfl ?_
      obtain ⟨q22, hq22, h⟩ := obi h
      refine v_cVi (bc := 0) (bs := 0) (As := [.int a3, .int a1]) (dq D_X10_plainly 145 rfl) cv_X10_setBy ml_RX10_302 (itg hq22).1 (m_X10_setBy hq22) rfl rfl (Nat.le_of_ble_eq_true rfl) ⟨Nat.le_of_ble_eq_true rfl, Nat.le_of_ble_eq_true rfl⟩ ⟨Nat.le_of_ble_eq_true rfl, Nat.le_of_ble_eq_true rfl⟩ ?_
      refine v_goto (dq D_X10_plainly 146 rfl) rfl ?_
      exact v_sub [0, 1, 2] rfl (w_X10_plainly_307 hk41 h)
  · have h := itp h c5
    refine v_aload_n (dq D_X10_plainly 114 rfl) 0 rfl ?_
    refine v_dup (dq D_X10_plainly 115 rfl) rfl ?_
    obtain ⟨x23, hx23, h⟩ := obi h
    refine v_gI (dq D_X10_plainly 116 rfl) fa_RX10_290 hx23 ?_
    refine v_aload_n (dq D_X10_plainly 117 rfl) 0 rfl ?_
    obtain ⟨x24, hx24, h⟩ := obi h
    refine v_gI (dq D_X10_plainly 118 rfl) fa_RX10_284 hx24 ?_
    refine v_aload_n (dq D_X10_plainly 119 rfl) 0 rfl ?_
    refine v_iload_n (dq D_X10_plainly 120 rfl) 3 rfl ?_
    obtain ⟨q25, hq25, h⟩ := obi h
    refine v_cVi (bc := 0) (bs := 0) (As := [.int a3]) (dq D_X10_plainly 121 rfl) cv_X10_guessed ml_RX10_299 (itg hq25).1 (m_X10_guessed hq25) rfl rfl (Nat.le_of_ble_eq_true rfl) ⟨Nat.le_of_ble_eq_true rfl, Nat.le_of_ble_eq_true rfl⟩ ⟨Nat.le_of_ble_eq_true rfl, Nat.le_of_ble_eq_true rfl⟩ ?_
    refine v_icmp_ne (dq D_X10_plainly 122 rfl) rfl (fun c26 => ?_) (fun c26 => ?_)
    · have h := itn h c26
      refine v_iconst (dq D_X10_plainly 125 rfl) kc_1 ?_
      exact v_sub [0, 1, 2] rfl (w_X10_plainly_232 hk41 h)
    · have h := itp h c26
      refine v_iconst (dq D_X10_plainly 123 rfl) kc_0 ?_
      refine v_goto (dq D_X10_plainly 124 rfl) rfl ?_
      exact v_sub [0, 1, 2] rfl (w_X10_plainly_232 hk41 h)
theorem w_X10_plainly_191 {sa : Env3} {k41 : Nat → Int32 → Int32 → St → Option (St)} (hk41 : ∀ {a0 : Nat} {a1 : Int32} {a2 : Int32} {σ : St} {r : St}, k41 a0 a1 a2 σ = some r → VV sa cX10_plainly K_X10_plainly 41 [(0, .ref a0), (1, .int a1), (2, .int a2)] [] σ (pU r) 0 0) {a0 : Nat} {a1 : Int32} {a2 : Int32} {a3 : Int32} {a4 : Int32} {a5 : Int32} {s0 : Nat} {σ : St} {r : St} (h : f_X10_plainly_191 k41 a0 a1 a2 a3 a4 a5 s0 σ = some r) : VV sa cX10_plainly K_X10_plainly 191 [(0, .ref a0), (1, .int a1), (2, .int a2), (3, .int a3), (4, .int a4), (5, .int a5)] [.ref s0] σ (pU r) 0 0 := by
  unfold f_X10_plainly_191 at h
  refine v_iload_n (dq D_X10_plainly 103 rfl) 3 rfl ?_
  refine v_iconst (dq D_X10_plainly 104 rfl) kc_1 ?_
  refine v_iadd (dq D_X10_plainly 105 rfl) ?_
  exact w_X10_plainly_194 hk41 h
theorem w_X10_plainly_158 {sa : Env3} {k41 : Nat → Int32 → Int32 → St → Option (St)} (hk41 : ∀ {a0 : Nat} {a1 : Int32} {a2 : Int32} {σ : St} {r : St}, k41 a0 a1 a2 σ = some r → VV sa cX10_plainly K_X10_plainly 41 [(0, .ref a0), (1, .int a1), (2, .int a2)] [] σ (pU r) 0 0) {a0 : Nat} {a1 : Int32} {a2 : Int32} {a3 : Int32} {a4 : Int32} {a5 : Int32} {σ : St} {r : St} (h : f_X10_plainly_158 k41 a0 a1 a2 a3 a4 a5 σ = some r) : VV sa cX10_plainly K_X10_plainly 158 [(0, .ref a0), (1, .int a1), (2, .int a2), (3, .int a3), (4, .int a4), (5, .int a5)] [] σ (pU r) 0 0 := by
  unfold f_X10_plainly_158 at h
  refine v_aload_n (dq D_X10_plainly 86 rfl) 0 rfl ?_
  refine v_aload_n (dq D_X10_plainly 87 rfl) 0 rfl ?_
  obtain ⟨x1, hx1, h⟩ := obi h
  refine v_gR (dq D_X10_plainly 88 rfl) fa_RX10_266 hx1 ?_
  obtain ⟨x2, hx2, h⟩ := obi h
  refine v_gR (dq D_X10_plainly 89 rfl) fa_RX10_217 hx2 ?_
  refine v_iload_n (dq D_X10_plainly 90 rfl) 3 rfl ?_
  obtain ⟨x3, hx3, h⟩ := obi h
  refine v_iald (dq D_X10_plainly 91 rfl) hx3 ?_
  refine v_iconst (dq D_X10_plainly 92 rfl) kc_5 ?_
  refine v_icmp_ne (dq D_X10_plainly 93 rfl) rfl (fun c4 => ?_) (fun c4 => ?_)
  · have h := itn h c4
    exact w_X10_plainly_191 hk41 h
  · have h := itp h c4
    refine v_iload (dq D_X10_plainly 94 rfl) 4 rfl ?_
    refine v_iload (dq D_X10_plainly 95 rfl) 5 rfl ?_
    refine v_icmp_ne (dq D_X10_plainly 96 rfl) rfl (fun c5 => ?_) (fun c5 => ?_)
    · have h := itn h c5
      exact w_X10_plainly_191 hk41 h
    · have h := itp h c5
      refine v_aload_n (dq D_X10_plainly 97 rfl) 0 rfl ?_
      obtain ⟨x6, hx6, h⟩ := obi h
      refine v_gR (dq D_X10_plainly 98 rfl) fa_RX10_266 hx6 ?_
      obtain ⟨x7, hx7, h⟩ := obi h
      refine v_gR (dq D_X10_plainly 99 rfl) fa_RX10_229 hx7 ?_
      refine v_iload_n (dq D_X10_plainly 100 rfl) 3 rfl ?_
      obtain ⟨x8, hx8, h⟩ := obi h
      refine v_iald (dq D_X10_plainly 101 rfl) hx8 ?_
      refine v_goto (dq D_X10_plainly 102 rfl) rfl ?_
      exact w_X10_plainly_194 hk41 h
theorem w_X10_plainly_132 {sa : Env3} {k41 : Nat → Int32 → Int32 → St → Option (St)} (hk41 : ∀ {a0 : Nat} {a1 : Int32} {a2 : Int32} {σ : St} {r : St}, k41 a0 a1 a2 σ = some r → VV sa cX10_plainly K_X10_plainly 41 [(0, .ref a0), (1, .int a1), (2, .int a2)] [] σ (pU r) 0 0) {a0 : Nat} {a1 : Int32} {a2 : Int32} {a3 : Int32} {a4 : Int32} {s0 : Int32} {σ : St} {r : St} (h : f_X10_plainly_132 k41 a0 a1 a2 a3 a4 s0 σ = some r) : VV sa cX10_plainly K_X10_plainly 132 [(0, .ref a0), (1, .int a1), (2, .int a2), (3, .int a3), (4, .int a4)] [.int s0] σ (pU r) 0 0 := by
  unfold f_X10_plainly_132 at h
  refine v_istore (dq D_X10_plainly 72 rfl) [(5, .int s0), (0, .ref a0), (1, .int a1), (2, .int a2), (3, .int a3), (4, .int a4)] (Nat.le_of_ble_eq_true rfl) rfl ?_
  refine v_aload_n (dq D_X10_plainly 73 rfl) 1 rfl ?_
  obtain ⟨x1, hx1, h⟩ := obi h
  refine v_gR (dq D_X10_plainly 74 rfl) fa_RX10_266 hx1 ?_
  obtain ⟨x2, hx2, h⟩ := obi h
  refine v_gR (dq D_X10_plainly 75 rfl) fa_RX10_217 hx2 ?_
  refine v_iload_n (dq D_X10_plainly 76 rfl) 4 rfl ?_
  obtain ⟨x3, hx3, h⟩ := obi h
  refine v_iald (dq D_X10_plainly 77 rfl) hx3 ?_
  refine v_iconst (dq D_X10_plainly 78 rfl) kc_3 ?_
  refine v_icmp_ne (dq D_X10_plainly 79 rfl) rfl (fun c4 => ?_) (fun c4 => ?_)
  · have h := itn h c4
    exact v_sub [1, 2, 3, 4, 5, 0] rfl (w_X10_plainly_158 hk41 h)
  · have h := itp h c4
    refine v_iload (dq D_X10_plainly 80 rfl) 0 rfl ?_
    refine v_if_ne (dq D_X10_plainly 81 rfl) rfl (fun c5 => ?_) (fun c5 => ?_)
    · have h := itn h c5
      exact v_sub [1, 2, 3, 4, 5, 0] rfl (w_X10_plainly_158 hk41 h)
    · have h := itp h c5
      refine v_aload_n (dq D_X10_plainly 82 rfl) 1 rfl ?_
      refine v_iconst (dq D_X10_plainly 83 rfl) kc_1 ?_
      obtain ⟨σ6, hσ6, h⟩ := obi h
      refine v_pI (dq D_X10_plainly 84 rfl) fp_RX10_293 hσ6 ?_
      obtain rfl := Option.some.inj h
      exact v_vret (dq D_X10_plainly 85 rfl) rfl ⟨rfl, rfl⟩
theorem w_X10_plainly_100 {sa : Env3} {k41 : Nat → Int32 → Int32 → St → Option (St)} (hk41 : ∀ {a0 : Nat} {a1 : Int32} {a2 : Int32} {σ : St} {r : St}, k41 a0 a1 a2 σ = some r → VV sa cX10_plainly K_X10_plainly 41 [(0, .ref a0), (1, .int a1), (2, .int a2)] [] σ (pU r) 0 0) {a0 : Nat} {a1 : Int32} {a2 : Int32} {a3 : Int32} {s0 : Int32} {σ : St} {r : St} (h : f_X10_plainly_100 k41 a0 a1 a2 a3 s0 σ = some r) : VV sa cX10_plainly K_X10_plainly 100 [(0, .ref a0), (1, .int a1), (2, .int a2), (3, .int a3)] [.int s0] σ (pU r) 0 0 := by
  unfold f_X10_plainly_100 at h
  refine v_istore (dq D_X10_plainly 55 rfl) [(4, .int s0), (0, .ref a0), (1, .int a1), (2, .int a2), (3, .int a3)] (Nat.le_of_ble_eq_true rfl) rfl ?_
  refine v_aload_n (dq D_X10_plainly 56 rfl) 1 rfl ?_
  obtain ⟨x1, hx1, h⟩ := obi h
  refine v_gR (dq D_X10_plainly 57 rfl) fa_RX10_266 hx1 ?_
  refine v_iload_n (dq D_X10_plainly 58 rfl) 4 rfl ?_
  obtain ⟨q2, hq2, h⟩ := obi h
  refine v_cVi (bc := 0) (bs := 0) (As := [.int a3]) (dq D_X10_plainly 59 rfl) cv_X9_reads ml_RX10_296 (itg hq2).1 (m_X9_reads hq2) rfl rfl (Nat.le_of_ble_eq_true rfl) ⟨Nat.le_of_ble_eq_true rfl, Nat.le_of_ble_eq_true rfl⟩ ⟨Nat.le_of_ble_eq_true rfl, Nat.le_of_ble_eq_true rfl⟩ ?_
  refine v_iconst (dq D_X10_plainly 60 rfl) kc_1 ?_
  refine v_icmp_le (dq D_X10_plainly 61 rfl) rfl (fun c3 => ?_) (fun c3 => ?_)
  · have h := itp h c3
    refine v_iconst (dq D_X10_plainly 71 rfl) kc_0 ?_
    exact v_sub [1, 2, 3, 4, 0] rfl (w_X10_plainly_132 hk41 h)
  · have h := itn h c3
    refine v_aload_n (dq D_X10_plainly 62 rfl) 1 rfl ?_
    obtain ⟨x4, hx4, h⟩ := obi h
    refine v_gR (dq D_X10_plainly 63 rfl) fa_RX10_17 hx4 ?_
    refine v_aload_n (dq D_X10_plainly 64 rfl) 1 rfl ?_
    obtain ⟨x5, hx5, h⟩ := obi h
    refine v_gR (dq D_X10_plainly 65 rfl) fa_RX10_266 hx5 ?_
    obtain ⟨x6, hx6, h⟩ := obi h
    refine v_gR (dq D_X10_plainly 66 rfl) fa_RX10_226 hx6 ?_
    refine v_iload_n (dq D_X10_plainly 67 rfl) 4 rfl ?_
    obtain ⟨x7, hx7, h⟩ := obi h
    refine v_iald (dq D_X10_plainly 68 rfl) hx7 ?_
    obtain ⟨x8, hx8, h⟩ := obi h
    refine v_iald (dq D_X10_plainly 69 rfl) hx8 ?_
    refine v_goto (dq D_X10_plainly 70 rfl) rfl ?_
    exact v_sub [1, 2, 3, 4, 0] rfl (w_X10_plainly_132 hk41 h)
theorem w_X10_plainly_41 {sa : Env3} : ∀ (n : Nat) {a0 : Nat} {a1 : Int32} {a2 : Int32} {σ : St} {r : St}, f_X10_plainly_41 n a0 a1 a2 σ = some r → VV sa cX10_plainly K_X10_plainly 41 [(0, .ref a0), (1, .int a1), (2, .int a2)] [] σ (pU r) 0 0 := by
  intro n
  induction n with
  | zero => intro a0 a1 a2 σ r h; cases h
  | succ n ih =>
    intro a0 a1 a2 σ r h
    rw [e_X10_plainly_41] at h
    refine v_aload_n (dq D_X10_plainly 24 rfl) 0 rfl ?_
    obtain ⟨x1, hx1, h⟩ := obi h
    refine v_gI (dq D_X10_plainly 25 rfl) fa_RX10_287 hx1 ?_
    refine v_iload_n (dq D_X10_plainly 26 rfl) 2 rfl ?_
    refine v_icmp_ge (dq D_X10_plainly 27 rfl) rfl (fun c2 => ?_) (fun c2 => ?_)
    · have h := itp h c2
      refine v_aload_n (dq D_X10_plainly 172 rfl) 0 rfl ?_
      obtain ⟨x3, hx3, h⟩ := obi h
      refine v_gR (dq D_X10_plainly 173 rfl) fa_RX10_266 hx3 ?_
      refine v_aload_n (dq D_X10_plainly 174 rfl) 0 rfl ?_
      obtain ⟨x4, hx4, h⟩ := obi h
      refine v_gI (dq D_X10_plainly 175 rfl) fa_RX10_284 hx4 ?_
      obtain ⟨q5, hq5, h⟩ := obi h
      refine v_cVi (bc := 0) (bs := 0) (As := [.int x4]) (dq D_X10_plainly 176 rfl) cv_X9_isStep ml_RX10_237 (itg hq5).1 (m_X9_isStep hq5) rfl rfl (Nat.le_of_ble_eq_true rfl) ⟨Nat.le_of_ble_eq_true rfl, Nat.le_of_ble_eq_true rfl⟩ ⟨Nat.le_of_ble_eq_true rfl, Nat.le_of_ble_eq_true rfl⟩ ?_
      refine v_if_ne (dq D_X10_plainly 177 rfl) rfl (fun c6 => ?_) (fun c6 => ?_)
      · have h := itn h c6
        exact v_sub [] rfl (w_X10_plainly_340 h)
      · have h := itp h c6
        refine v_aload_n (dq D_X10_plainly 178 rfl) 0 rfl ?_
        refine v_iconst (dq D_X10_plainly 179 rfl) kc_0 ?_
        obtain ⟨σ7, hσ7, h⟩ := obi h
        refine v_pI (dq D_X10_plainly 180 rfl) fp_RX10_293 hσ7 ?_
        exact v_sub [] rfl (w_X10_plainly_340 h)
    · have h := itn h c2
      refine v_aload_n (dq D_X10_plainly 28 rfl) 0 rfl ?_
      obtain ⟨x8, hx8, h⟩ := obi h
      refine v_gI (dq D_X10_plainly 29 rfl) fa_RX10_284 hx8 ?_
      refine v_istore_n (dq D_X10_plainly 30 rfl) [(3, .int x8), (0, .ref a0), (1, .int a1), (2, .int a2)] rfl (Nat.le_of_ble_eq_true rfl) rfl ?_
      refine v_aload_n (dq D_X10_plainly 31 rfl) 1 rfl ?_
      obtain ⟨x9, hx9, h⟩ := obi h
      refine v_gR (dq D_X10_plainly 32 rfl) fa_RX10_266 hx9 ?_
      refine v_iload_n (dq D_X10_plainly 33 rfl) 0 rfl ?_
      obtain ⟨q10, hq10, h⟩ := obi h
      refine v_cVi (bc := 0) (bs := 0) (As := [.int x8]) (dq D_X10_plainly 34 rfl) cv_X9_isStep ml_RX10_237 (itg hq10).1 (m_X9_isStep hq10) rfl rfl (Nat.le_of_ble_eq_true rfl) ⟨Nat.le_of_ble_eq_true rfl, Nat.le_of_ble_eq_true rfl⟩ ⟨Nat.le_of_ble_eq_true rfl, Nat.le_of_ble_eq_true rfl⟩ ?_
      refine v_if_ne (dq D_X10_plainly 35 rfl) rfl (fun c11 => ?_) (fun c11 => ?_)
      · have h := itn h c11
        refine v_aload_n (dq D_X10_plainly 40 rfl) 1 rfl ?_
        obtain ⟨x12, hx12, h⟩ := obi h
        refine v_gR (dq D_X10_plainly 41 rfl) fa_RX10_266 hx12 ?_
        refine v_iload_n (dq D_X10_plainly 42 rfl) 0 rfl ?_
        obtain ⟨q13, hq13, h⟩ := obi h
        refine v_cVi (bc := 0) (bs := 0) (As := [.int x8]) (dq D_X10_plainly 43 rfl) cv_X9_reads ml_RX10_296 (itg hq13).1 (m_X9_reads hq13) rfl rfl (Nat.le_of_ble_eq_true rfl) ⟨Nat.le_of_ble_eq_true rfl, Nat.le_of_ble_eq_true rfl⟩ ⟨Nat.le_of_ble_eq_true rfl, Nat.le_of_ble_eq_true rfl⟩ ?_
        refine v_if_le (dq D_X10_plainly 44 rfl) rfl (fun c14 => ?_) (fun c14 => ?_)
        · have h := itp h c14
          refine v_iconst (dq D_X10_plainly 54 rfl) kc_0 ?_
          exact v_sub [1, 2, 3, 0] rfl (w_X10_plainly_100 ih h)
        · have h := itn h c14
          refine v_aload_n (dq D_X10_plainly 45 rfl) 1 rfl ?_
          obtain ⟨x15, hx15, h⟩ := obi h
          refine v_gR (dq D_X10_plainly 46 rfl) fa_RX10_17 hx15 ?_
          refine v_aload_n (dq D_X10_plainly 47 rfl) 1 rfl ?_
          obtain ⟨x16, hx16, h⟩ := obi h
          refine v_gR (dq D_X10_plainly 48 rfl) fa_RX10_266 hx16 ?_
          obtain ⟨x17, hx17, h⟩ := obi h
          refine v_gR (dq D_X10_plainly 49 rfl) fa_RX10_223 hx17 ?_
          refine v_iload_n (dq D_X10_plainly 50 rfl) 0 rfl ?_
          obtain ⟨x18, hx18, h⟩ := obi h
          refine v_iald (dq D_X10_plainly 51 rfl) hx18 ?_
          obtain ⟨x19, hx19, h⟩ := obi h
          refine v_iald (dq D_X10_plainly 52 rfl) hx19 ?_
          refine v_goto (dq D_X10_plainly 53 rfl) rfl ?_
          exact v_sub [1, 2, 3, 0] rfl (w_X10_plainly_100 ih h)
      · have h := itp h c11
        refine v_aload_n (dq D_X10_plainly 36 rfl) 1 rfl ?_
        refine v_iconst (dq D_X10_plainly 37 rfl) kc_0 ?_
        obtain ⟨σ20, hσ20, h⟩ := obi h
        refine v_pI (dq D_X10_plainly 38 rfl) fp_RX10_293 hσ20 ?_
        obtain rfl := Option.some.inj h
        exact v_vret (dq D_X10_plainly 39 rfl) rfl ⟨rfl, rfl⟩
theorem w_X10_plainly_2 {sa : Env3} : ∀ (n : Nat) {a0 : Nat} {a1 : Int32} {a2 : Int32} {a3 : Int32} {σ : St} {r : St}, f_X10_plainly_2 n a0 a1 a2 a3 σ = some r → VV sa cX10_plainly K_X10_plainly 2 [(0, .ref a0), (1, .int a1), (2, .int a2), (3, .int a3)] [] σ (pU r) 0 0 := by
  intro n
  induction n with
  | zero => intro a0 a1 a2 a3 σ r h; cases h
  | succ n ih =>
    intro a0 a1 a2 a3 σ r h
    rw [e_X10_plainly_2] at h
    refine v_iload_n (dq D_X10_plainly 2 rfl) 3 rfl ?_
    refine v_bipush (dq D_X10_plainly 3 rfl) kb_8 ?_
    refine v_icmp_ge (dq D_X10_plainly 4 rfl) rfl (fun c1 => ?_) (fun c1 => ?_)
    · have h := itp h c1
      refine v_aload_n (dq D_X10_plainly 12 rfl) 0 rfl ?_
      refine v_iconst (dq D_X10_plainly 13 rfl) kc_0 ?_
      obtain ⟨σ2, hσ2, h⟩ := obi h
      refine v_pI (dq D_X10_plainly 14 rfl) fp_RX10_284 hσ2 ?_
      refine v_aload_n (dq D_X10_plainly 15 rfl) 0 rfl ?_
      refine v_iconst (dq D_X10_plainly 16 rfl) kc_0 ?_
      obtain ⟨σ3, hσ3, h⟩ := obi h
      refine v_pI (dq D_X10_plainly 17 rfl) fp_RX10_287 hσ3 ?_
      refine v_aload_n (dq D_X10_plainly 18 rfl) 0 rfl ?_
      refine v_iconst (dq D_X10_plainly 19 rfl) kc_0 ?_
      obtain ⟨σ4, hσ4, h⟩ := obi h
      refine v_pI (dq D_X10_plainly 20 rfl) fp_RX10_290 hσ4 ?_
      refine v_aload_n (dq D_X10_plainly 21 rfl) 0 rfl ?_
      refine v_iconst (dq D_X10_plainly 22 rfl) kc_2 ?_
      obtain ⟨σ5, hσ5, h⟩ := obi h
      refine v_pI (dq D_X10_plainly 23 rfl) fp_RX10_293 hσ5 ?_
      exact v_sub [0, 1, 2] rfl (w_X10_plainly_41 _ h)
    · have h := itn h c1
      refine v_aload_n (dq D_X10_plainly 5 rfl) 0 rfl ?_
      obtain ⟨x6, hx6, h⟩ := obi h
      refine v_gR (dq D_X10_plainly 6 rfl) fa_RX10_17 hx6 ?_
      refine v_iload_n (dq D_X10_plainly 7 rfl) 3 rfl ?_
      refine v_iconst (dq D_X10_plainly 8 rfl) kc_0 ?_
      obtain ⟨σ7, hσ7, h⟩ := obi h
      refine v_iast (dq D_X10_plainly 9 rfl) hσ7 ?_
      refine v_iinc (dq D_X10_plainly 10 rfl) 3 [(3, .int (a3 + 1)), (0, .ref a0), (1, .int a1), (2, .int a2)] rfl kc_1 (Nat.le_of_ble_eq_true rfl) rfl ?_
      refine v_goto (dq D_X10_plainly 11 rfl) rfl ?_
      exact v_sub [1, 2, 3, 0] rfl (ih h)
theorem w_X10_plainly_0 {sa : Env3} {a0 : Nat} {a1 : Int32} {a2 : Int32} {σ : St} {r : St} (h : f_X10_plainly_0 a0 a1 a2 σ = some r) : VV sa cX10_plainly K_X10_plainly 0 [(0, .ref a0), (1, .int a1), (2, .int a2)] [] σ (pU r) 0 0 := by
  unfold f_X10_plainly_0 at h
  refine v_iconst (dq D_X10_plainly 0 rfl) kc_0 ?_
  refine v_istore_n (dq D_X10_plainly 1 rfl) [(3, .int 0), (0, .ref a0), (1, .int a1), (2, .int a2)] rfl (Nat.le_of_ble_eq_true rfl) rfl ?_
  exact v_sub [1, 2, 3, 0] rfl (w_X10_plainly_2 _ h)
theorem m_X10_plainly {sa : Env3} {a0 : Nat} {a1 : Int32} {a2 : Int32} {σ : St} {r : St} (h : f_X10_plainly a0 a1 a2 σ = some r) : Ex sa yX10_plainly cX10_plainly K_X10_plainly [.ref a0, .int a1, .int a2] σ (pU r) := Ex.of (by decide) rfl (fun q => nomatch q) (Nat.le_of_ble_eq_true rfl) (w_X10_plainly_0 (itg h).2)
