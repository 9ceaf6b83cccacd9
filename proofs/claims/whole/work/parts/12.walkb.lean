theorem w_X10_plainlyDone_32 {sa : Env3} {s0 : Int32} {σ : St} {r : Int32 × St} (h : f_X10_plainlyDone_32 s0 σ = some r) : VV sa cX10_plainlyDone K_X10_plainlyDone 32 [] [.int s0] σ (pO r) 0 0 := by
  unfold f_X10_plainlyDone_32 at h
  have hz := (itg h).1
  have h := (itg h).2
  obtain rfl := Option.some.inj h
  exact v_zret (dq D_X10_plainlyDone 18 rfl) rfl (z_nar hz) ⟨rfl, rfl⟩
theorem w_X10_plainlyDone_0 {sa : Env3} {a0 : Nat} {a1 : Int32} {σ : St} {r : Int32 × St} (h : f_X10_plainlyDone_0 a0 a1 σ = some r) : VV sa cX10_plainlyDone K_X10_plainlyDone 0 [(0, .ref a0), (1, .int a1)] [] σ (pO r) 0 0 := by
  unfold f_X10_plainlyDone_0 at h
  refine v_iload_n (dq D_X10_plainlyDone 0 rfl) 1 rfl ?_
  refine v_iconst (dq D_X10_plainlyDone 1 rfl) kc_0 ?_
  refine v_sipush (dq D_X10_plainlyDone 2 rfl) ks_200 ?_
  obtain ⟨q1, hq1, h⟩ := obi h
  refine v_cSi (bc := 0) (bs := 0) (As := [.int a1, .int 0, .int 200]) (dq D_X10_plainlyDone 3 rfl) cs_X10_in ml_RX10_115 (m_X10_in hq1) rfl rfl (Nat.le_of_ble_eq_true rfl) ⟨Nat.le_of_ble_eq_true rfl, Nat.le_of_ble_eq_true rfl⟩ ⟨Nat.le_of_ble_eq_true rfl, Nat.le_of_ble_eq_true rfl⟩ ?_
  refine v_if_ne (dq D_X10_plainlyDone 4 rfl) rfl (fun c2 => ?_) (fun c2 => ?_)
  · have h := itn h c2
    refine v_aload_n (dq D_X10_plainlyDone 7 rfl) 0 rfl ?_
    refine v_iconst (dq D_X10_plainlyDone 8 rfl) kc_0 ?_
    refine v_iload_n (dq D_X10_plainlyDone 9 rfl) 1 rfl ?_
    obtain ⟨σ3, hσ3, h⟩ := obi h
    refine v_cVv (bc := 0) (bs := 0) (As := [.int 0, .int a1]) (dq D_X10_plainlyDone 10 rfl) cv_X10_plainly ml_RX10_309 (itg hσ3).1 (m_X10_plainly hσ3) rfl rfl (Nat.le_of_ble_eq_true rfl) ⟨Nat.le_of_ble_eq_true rfl, Nat.le_of_ble_eq_true rfl⟩ ⟨Nat.le_of_ble_eq_true rfl, Nat.le_of_ble_eq_true rfl⟩ ?_
    refine v_aload_n (dq D_X10_plainlyDone 11 rfl) 0 rfl ?_
    obtain ⟨x4, hx4, h⟩ := obi h
    refine v_gI (dq D_X10_plainlyDone 12 rfl) fa_RX10_287 hx4 ?_
    refine v_iload_n (dq D_X10_plainlyDone 13 rfl) 1 rfl ?_
    refine v_icmp_ne (dq D_X10_plainlyDone 14 rfl) rfl (fun c5 => ?_) (fun c5 => ?_)
    · have h := itn h c5
      refine v_iconst (dq D_X10_plainlyDone 17 rfl) kc_0 ?_
      exact v_sub [] rfl (w_X10_plainlyDone_32 h)
    · have h := itp h c5
      refine v_iconst (dq D_X10_plainlyDone 15 rfl) kc_1 ?_
      refine v_goto (dq D_X10_plainlyDone 16 rfl) rfl ?_
      exact v_sub [] rfl (w_X10_plainlyDone_32 h)
  · have h := itp h c2
    refine v_iconst (dq D_X10_plainlyDone 5 rfl) kc_0 ?_
    obtain rfl := Option.some.inj h
    exact v_zret (dq D_X10_plainlyDone 6 rfl) rfl rfl ⟨rfl, rfl⟩
theorem m_X10_plainlyDone {sa : Env3} {a0 : Nat} {a1 : Int32} {σ : St} {r : Int32 × St} (h : f_X10_plainlyDone a0 a1 σ = some r) : Ex sa yX10_plainlyDone cX10_plainlyDone K_X10_plainlyDone [.ref a0, .int a1] σ (pO r) := Ex.of (by decide) rfl (fun q => nomatch q) (Nat.le_of_ble_eq_true rfl) (w_X10_plainlyDone_0 (itg h).2)
theorem w_X10_good_0 {sa : Env3} {a0 : Nat} {a1 : Int32} {σ : St} {r : Int32 × St} (h : f_X10_good_0 a0 a1 σ = some r) : VV sa cX10_good K_X10_good 0 [(0, .ref a0), (1, .int a1)] [] σ (pO r) 0 0 := by
  unfold f_X10_good_0 at h
  refine v_aload_n (dq D_X10_good 0 rfl) 0 rfl ?_
  refine v_iconst (dq D_X10_good 1 rfl) kc_0 ?_
  obtain ⟨σ1, hσ1, h⟩ := obi h
  refine v_pI (dq D_X10_good 2 rfl) fp_RX10_39 hσ1 ?_
  refine v_aload_n (dq D_X10_good 3 rfl) 0 rfl ?_
  refine v_iconst (dq D_X10_good 4 rfl) kc_m1 ?_
  obtain ⟨σ2, hσ2, h⟩ := obi h
  refine v_pI (dq D_X10_good 5 rfl) fp_RX10_9 hσ2 ?_
  refine v_iload_n (dq D_X10_good 6 rfl) 1 rfl ?_
  obtain rfl := Option.some.inj h
  exact v_iret (dq D_X10_good 7 rfl) rfl ⟨rfl, rfl⟩
theorem m_X10_good {sa : Env3} {a0 : Nat} {a1 : Int32} {σ : St} {r : Int32 × St} (h : f_X10_good a0 a1 σ = some r) : Ex sa yX10_good cX10_good K_X10_good [.ref a0, .int a1] σ (pO r) := Ex.of (by decide) rfl (fun q => nomatch q) (Nat.le_of_ble_eq_true rfl) (w_X10_good_0 (itg h).2)
theorem w_X10_at_0 {sa : Env3} {a0 : Nat} {a1 : Int32} {σ : St} {r : Int32 × St} (h : f_X10_at_0 a0 a1 σ = some r) : VV sa cX10_at K_X10_at 0 [(0, .ref a0), (1, .int a1)] [] σ (pO r) 0 0 := by
  unfold f_X10_at_0 at h
  refine v_bipush (dq D_X10_at 0 rfl) kb_39 ?_
  refine v_bipush (dq D_X10_at 1 rfl) kb_13 ?_
  refine v_iload_n (dq D_X10_at 2 rfl) 1 rfl ?_
  refine v_imul (dq D_X10_at 3 rfl) ?_
  refine v_iadd (dq D_X10_at 4 rfl) ?_
  obtain rfl := Option.some.inj h
  exact v_iret (dq D_X10_at 5 rfl) rfl ⟨rfl, rfl⟩
theorem m_X10_at {sa : Env3} {a0 : Nat} {a1 : Int32} {σ : St} {r : Int32 × St} (h : f_X10_at a0 a1 σ = some r) : Ex sa yX10_at cX10_at K_X10_at [.ref a0, .int a1] σ (pO r) := Ex.of (by decide) rfl (fun q => nomatch q) (Nat.le_of_ble_eq_true rfl) (w_X10_at_0 (itg h).2)
theorem w_X10_has_22 {sa : Env3} {s0 : Int32} {σ : St} {r : Int32 × St} (h : f_X10_has_22 s0 σ = some r) : VV sa cX10_has K_X10_has 22 [] [.int s0] σ (pO r) 0 0 := by
  unfold f_X10_has_22 at h
  have hz := (itg h).1
  have h := (itg h).2
  obtain rfl := Option.some.inj h
  exact v_zret (dq D_X10_has 14 rfl) rfl (z_nar hz) ⟨rfl, rfl⟩
theorem w_X10_has_0 {sa : Env3} {a0 : Nat} {a1 : Int32} {a2 : Int32} {σ : St} {r : Int32 × St} (h : f_X10_has_0 a0 a1 a2 σ = some r) : VV sa cX10_has K_X10_has 0 [(0, .ref a0), (1, .int a1), (2, .int a2)] [] σ (pO r) 0 0 := by
  unfold f_X10_has_0 at h
  refine v_aload_n (dq D_X10_has 0 rfl) 0 rfl ?_
  obtain ⟨x1, hx1, h⟩ := obi h
  refine v_gR (dq D_X10_has 1 rfl) fa_RX10_24 hx1 ?_
  refine v_aload_n (dq D_X10_has 2 rfl) 0 rfl ?_
  refine v_iload_n (dq D_X10_has 3 rfl) 1 rfl ?_
  obtain ⟨q2, hq2, h⟩ := obi h
  refine v_cVi (bc := 0) (bs := 0) (As := [.int a1]) (dq D_X10_has 4 rfl) cv_X10_at ml_RX10_316 (itg hq2).1 (m_X10_at hq2) rfl rfl (Nat.le_of_ble_eq_true rfl) ⟨Nat.le_of_ble_eq_true rfl, Nat.le_of_ble_eq_true rfl⟩ ⟨Nat.le_of_ble_eq_true rfl, Nat.le_of_ble_eq_true rfl⟩ ?_
  refine v_iconst (dq D_X10_has 5 rfl) kc_4 ?_
  refine v_iadd (dq D_X10_has 6 rfl) ?_
  obtain ⟨x3, hx3, h⟩ := obi h
  refine v_iald (dq D_X10_has 7 rfl) hx3 ?_
  refine v_iload_n (dq D_X10_has 8 rfl) 2 rfl ?_
  refine v_iand (dq D_X10_has 9 rfl) ?_
  refine v_if_eq (dq D_X10_has 10 rfl) rfl (fun c4 => ?_) (fun c4 => ?_)
  · have h := itp h c4
    refine v_iconst (dq D_X10_has 13 rfl) kc_0 ?_
    exact v_sub [] rfl (w_X10_has_22 h)
  · have h := itn h c4
    refine v_iconst (dq D_X10_has 11 rfl) kc_1 ?_
    refine v_goto (dq D_X10_has 12 rfl) rfl ?_
    exact v_sub [] rfl (w_X10_has_22 h)
theorem m_X10_has {sa : Env3} {a0 : Nat} {a1 : Int32} {a2 : Int32} {σ : St} {r : Int32 × St} (h : f_X10_has a0 a1 a2 σ = some r) : Ex sa yX10_has cX10_has K_X10_has [.ref a0, .int a1, .int a2] σ (pO r) := Ex.of (by decide) rfl (fun q => nomatch q) (Nat.le_of_ble_eq_true rfl) (w_X10_has_0 (itg h).2)
theorem w_X10_reads_37 {sa : Env3} {s0 : Int32} {σ : St} {r : Int32 × St} (h : f_X10_reads_37 s0 σ = some r) : VV sa cX10_reads K_X10_reads 37 [] [.int s0] σ (pO r) 0 0 := by
  unfold f_X10_reads_37 at h
  have hz := (itg h).1
  have h := (itg h).2
  obtain rfl := Option.some.inj h
  exact v_zret (dq D_X10_reads 23 rfl) rfl (z_nar hz) ⟨rfl, rfl⟩
theorem w_X10_reads_32 {sa : Env3}  {σ : St} {r : Int32 × St} (h : f_X10_reads_32  σ = some r) : VV sa cX10_reads K_X10_reads 32 [] [] σ (pO r) 0 0 := by
  unfold f_X10_reads_32 at h
  refine v_iconst (dq D_X10_reads 20 rfl) kc_1 ?_
  refine v_goto (dq D_X10_reads 21 rfl) rfl ?_
  exact w_X10_reads_37 h
theorem w_X10_reads_0 {sa : Env3} {a0 : Nat} {a1 : Int32} {a2 : Int32} {σ : St} {r : Int32 × St} (h : f_X10_reads_0 a0 a1 a2 σ = some r) : VV sa cX10_reads K_X10_reads 0 [(0, .ref a0), (1, .int a1), (2, .int a2)] [] σ (pO r) 0 0 := by
  unfold f_X10_reads_0 at h
  refine v_aload_n (dq D_X10_reads 0 rfl) 0 rfl ?_
  obtain ⟨x1, hx1, h⟩ := obi h
  refine v_gR (dq D_X10_reads 1 rfl) fa_RX10_24 hx1 ?_
  refine v_aload_n (dq D_X10_reads 2 rfl) 0 rfl ?_
  refine v_iload_n (dq D_X10_reads 3 rfl) 1 rfl ?_
  obtain ⟨q2, hq2, h⟩ := obi h
  refine v_cVi (bc := 0) (bs := 0) (As := [.int a1]) (dq D_X10_reads 4 rfl) cv_X10_at ml_RX10_316 (itg hq2).1 (m_X10_at hq2) rfl rfl (Nat.le_of_ble_eq_true rfl) ⟨Nat.le_of_ble_eq_true rfl, Nat.le_of_ble_eq_true rfl⟩ ⟨Nat.le_of_ble_eq_true rfl, Nat.le_of_ble_eq_true rfl⟩ ?_
  refine v_iconst (dq D_X10_reads 5 rfl) kc_2 ?_
  refine v_iadd (dq D_X10_reads 6 rfl) ?_
  obtain ⟨x3, hx3, h⟩ := obi h
  refine v_iald (dq D_X10_reads 7 rfl) hx3 ?_
  refine v_iload_n (dq D_X10_reads 8 rfl) 2 rfl ?_
  refine v_icmp_eq (dq D_X10_reads 9 rfl) rfl (fun c4 => ?_) (fun c4 => ?_)
  · have h := itp h c4
    exact v_sub [] rfl (w_X10_reads_32 h)
  · have h := itn h c4
    refine v_aload_n (dq D_X10_reads 10 rfl) 0 rfl ?_
    obtain ⟨x5, hx5, h⟩ := obi h
    refine v_gR (dq D_X10_reads 11 rfl) fa_RX10_24 hx5 ?_
    refine v_aload_n (dq D_X10_reads 12 rfl) 0 rfl ?_
    refine v_iload_n (dq D_X10_reads 13 rfl) 1 rfl ?_
    obtain ⟨q6, hq6, h⟩ := obi h
    refine v_cVi (bc := 0) (bs := 0) (As := [.int a1]) (dq D_X10_reads 14 rfl) cv_X10_at ml_RX10_316 (itg hq6).1 (m_X10_at hq6) rfl rfl (Nat.le_of_ble_eq_true rfl) ⟨Nat.le_of_ble_eq_true rfl, Nat.le_of_ble_eq_true rfl⟩ ⟨Nat.le_of_ble_eq_true rfl, Nat.le_of_ble_eq_true rfl⟩ ?_
    refine v_iconst (dq D_X10_reads 15 rfl) kc_3 ?_
    refine v_iadd (dq D_X10_reads 16 rfl) ?_
    obtain ⟨x7, hx7, h⟩ := obi h
    refine v_iald (dq D_X10_reads 17 rfl) hx7 ?_
    refine v_iload_n (dq D_X10_reads 18 rfl) 2 rfl ?_
    refine v_icmp_ne (dq D_X10_reads 19 rfl) rfl (fun c8 => ?_) (fun c8 => ?_)
    · have h := itn h c8
      refine v_iconst (dq D_X10_reads 22 rfl) kc_0 ?_
      exact v_sub [] rfl (w_X10_reads_37 h)
    · have h := itp h c8
      exact v_sub [] rfl (w_X10_reads_32 h)
theorem m_X10_reads {sa : Env3} {a0 : Nat} {a1 : Int32} {a2 : Int32} {σ : St} {r : Int32 × St} (h : f_X10_reads a0 a1 a2 σ = some r) : Ex sa yX10_reads cX10_reads K_X10_reads [.ref a0, .int a1, .int a2] σ (pO r) := Ex.of (by decide) rfl (fun q => nomatch q) (Nat.le_of_ble_eq_true rfl) (w_X10_reads_0 (itg h).2)
theorem w_X10_registerOf_0 {sa : Env3} {a0 : Nat} {a1 : Int32} {σ : St} {r : Int32 × St} (h : f_X10_registerOf_0 a0 a1 σ = some r) : VV sa cX10_registerOf K_X10_registerOf 0 [(0, .ref a0), (1, .int a1)] [] σ (pO r) 0 0 := by
  unfold f_X10_registerOf_0 at h
  refine v_aload_n (dq D_X10_registerOf 0 rfl) 0 rfl ?_
  obtain ⟨x1, hx1, h⟩ := obi h
  refine v_gR (dq D_X10_registerOf 1 rfl) fa_RX10_266 hx1 ?_
  obtain ⟨x2, hx2, h⟩ := obi h
  refine v_gR (dq D_X10_registerOf 2 rfl) fa_RX10_220 hx2 ?_
  refine v_aload_n (dq D_X10_registerOf 3 rfl) 0 rfl ?_
  obtain ⟨x3, hx3, h⟩ := obi h
  refine v_gR (dq D_X10_registerOf 4 rfl) fa_RX10_24 hx3 ?_
  refine v_aload_n (dq D_X10_registerOf 5 rfl) 0 rfl ?_
  refine v_iload_n (dq D_X10_registerOf 6 rfl) 1 rfl ?_
  obtain ⟨q4, hq4, h⟩ := obi h
  refine v_cVi (bc := 0) (bs := 0) (As := [.int a1]) (dq D_X10_registerOf 7 rfl) cv_X10_at ml_RX10_316 (itg hq4).1 (m_X10_at hq4) rfl rfl (Nat.le_of_ble_eq_true rfl) ⟨Nat.le_of_ble_eq_true rfl, Nat.le_of_ble_eq_true rfl⟩ ⟨Nat.le_of_ble_eq_true rfl, Nat.le_of_ble_eq_true rfl⟩ ?_
  obtain ⟨x5, hx5, h⟩ := obi h
  refine v_iald (dq D_X10_registerOf 8 rfl) hx5 ?_
  obtain ⟨x6, hx6, h⟩ := obi h
  refine v_iald (dq D_X10_registerOf 9 rfl) hx6 ?_
  obtain rfl := Option.some.inj h
  exact v_iret (dq D_X10_registerOf 10 rfl) rfl ⟨rfl, rfl⟩
theorem m_X10_registerOf {sa : Env3} {a0 : Nat} {a1 : Int32} {σ : St} {r : Int32 × St} (h : f_X10_registerOf a0 a1 σ = some r) : Ex sa yX10_registerOf cX10_registerOf K_X10_registerOf [.ref a0, .int a1] σ (pO r) := Ex.of (by decide) rfl (fun q => nomatch q) (Nat.le_of_ble_eq_true rfl) (w_X10_registerOf_0 (itg h).2)
theorem w_X10_kindOf_0 {sa : Env3} {a0 : Nat} {a1 : Int32} {σ : St} {r : Int32 × St} (h : f_X10_kindOf_0 a0 a1 σ = some r) : VV sa cX10_kindOf K_X10_kindOf 0 [(0, .ref a0), (1, .int a1)] [] σ (pO r) 0 0 := by
  unfold f_X10_kindOf_0 at h
  refine v_aload_n (dq D_X10_kindOf 0 rfl) 0 rfl ?_
  obtain ⟨x1, hx1, h⟩ := obi h
  refine v_gR (dq D_X10_kindOf 1 rfl) fa_RX10_266 hx1 ?_
  obtain ⟨x2, hx2, h⟩ := obi h
  refine v_gR (dq D_X10_kindOf 2 rfl) fa_RX10_217 hx2 ?_
  refine v_aload_n (dq D_X10_kindOf 3 rfl) 0 rfl ?_
  obtain ⟨x3, hx3, h⟩ := obi h
  refine v_gR (dq D_X10_kindOf 4 rfl) fa_RX10_24 hx3 ?_
  refine v_aload_n (dq D_X10_kindOf 5 rfl) 0 rfl ?_
  refine v_iload_n (dq D_X10_kindOf 6 rfl) 1 rfl ?_
  obtain ⟨q4, hq4, h⟩ := obi h
  refine v_cVi (bc := 0) (bs := 0) (As := [.int a1]) (dq D_X10_kindOf 7 rfl) cv_X10_at ml_RX10_316 (itg hq4).1 (m_X10_at hq4) rfl rfl (Nat.le_of_ble_eq_true rfl) ⟨Nat.le_of_ble_eq_true rfl, Nat.le_of_ble_eq_true rfl⟩ ⟨Nat.le_of_ble_eq_true rfl, Nat.le_of_ble_eq_true rfl⟩ ?_
  obtain ⟨x5, hx5, h⟩ := obi h
  refine v_iald (dq D_X10_kindOf 8 rfl) hx5 ?_
  obtain ⟨x6, hx6, h⟩ := obi h
  refine v_iald (dq D_X10_kindOf 9 rfl) hx6 ?_
  obtain rfl := Option.some.inj h
  exact v_iret (dq D_X10_kindOf 10 rfl) rfl ⟨rfl, rfl⟩
theorem m_X10_kindOf {sa : Env3} {a0 : Nat} {a1 : Int32} {σ : St} {r : Int32 × St} (h : f_X10_kindOf a0 a1 σ = some r) : Ex sa yX10_kindOf cX10_kindOf K_X10_kindOf [.ref a0, .int a1] σ (pO r) := Ex.of (by decide) rfl (fun q => nomatch q) (Nat.le_of_ble_eq_true rfl) (w_X10_kindOf_0 (itg h).2)
theorem w_X10_isSure_43 {sa : Env3}  {σ : St} {r : Int32 × St} (h : f_X10_isSure_43  σ = some r) : VV sa cX10_isSure K_X10_isSure 43 [] [] σ (pO r) 0 0 := by
  unfold f_X10_isSure_43 at h
  refine v_iconst (dq D_X10_isSure 25 rfl) kc_0 ?_
  obtain rfl := Option.some.inj h
  exact v_zret (dq D_X10_isSure 26 rfl) rfl rfl ⟨rfl, rfl⟩
theorem w_X10_isSure_45 {sa : Env3} {k2 : Nat → Int32 → Int32 → St → Option (Int32 × St)} (hk2 : ∀ {a0 : Nat} {a1 : Int32} {a2 : Int32} {σ : St} {r : Int32 × St}, k2 a0 a1 a2 σ = some r → VV sa cX10_isSure K_X10_isSure 2 [(0, .ref a0), (1, .int a1), (2, .int a2)] [] σ (pO r) 0 0) {a0 : Nat} {a1 : Int32} {a2 : Int32} {σ : St} {r : Int32 × St} (h : f_X10_isSure_45 k2 a0 a1 a2 σ = some r) : VV sa cX10_isSure K_X10_isSure 45 [(0, .ref a0), (1, .int a1), (2, .int a2)] [] σ (pO r) 0 0 := by
  unfold f_X10_isSure_45 at h
  refine v_iinc (dq D_X10_isSure 27 rfl) 2 [(2, .int (a2 + 1)), (0, .ref a0), (1, .int a1)] rfl kc_1 (Nat.le_of_ble_eq_true rfl) rfl ?_
  refine v_goto (dq D_X10_isSure 28 rfl) rfl ?_
  exact v_sub [1, 2, 0] rfl (hk2 h)
theorem w_X10_isSure_34 {sa : Env3} {k2 : Nat → Int32 → Int32 → St → Option (Int32 × St)} (hk2 : ∀ {a0 : Nat} {a1 : Int32} {a2 : Int32} {σ : St} {r : Int32 × St}, k2 a0 a1 a2 σ = some r → VV sa cX10_isSure K_X10_isSure 2 [(0, .ref a0), (1, .int a1), (2, .int a2)] [] σ (pO r) 0 0) {a0 : Nat} {a1 : Int32} {a2 : Int32} {σ : St} {r : Int32 × St} (h : f_X10_isSure_34 k2 a0 a1 a2 σ = some r) : VV sa cX10_isSure K_X10_isSure 34 [(0, .ref a0), (1, .int a1), (2, .int a2)] [] σ (pO r) 0 0 := by
  unfold f_X10_isSure_34 at h
  refine v_aload_n (dq D_X10_isSure 20 rfl) 0 rfl ?_
  refine v_iload_n (dq D_X10_isSure 21 rfl) 2 rfl ?_
  refine v_iconst (dq D_X10_isSure 22 rfl) kc_1 ?_
  obtain ⟨q1, hq1, h⟩ := obi h
  refine v_cVi (bc := 0) (bs := 0) (As := [.int a2, .int 1]) (dq D_X10_isSure 23 rfl) cv_X10_has ml_RX10_322 (itg hq1).1 (m_X10_has hq1) rfl rfl (Nat.le_of_ble_eq_true rfl) ⟨Nat.le_of_ble_eq_true rfl, Nat.le_of_ble_eq_true rfl⟩ ⟨Nat.le_of_ble_eq_true rfl, Nat.le_of_ble_eq_true rfl⟩ ?_
  refine v_if_ne (dq D_X10_isSure 24 rfl) rfl (fun c2 => ?_) (fun c2 => ?_)
  · have h := itn h c2
    exact w_X10_isSure_45 hk2 h
  · have h := itp h c2
    exact v_sub [] rfl (w_X10_isSure_43 h)
theorem w_X10_isSure_2 {sa : Env3} : ∀ (n : Nat) {a0 : Nat} {a1 : Int32} {a2 : Int32} {σ : St} {r : Int32 × St}, f_X10_isSure_2 n a0 a1 a2 σ = some r → VV sa cX10_isSure K_X10_isSure 2 [(0, .ref a0), (1, .int a1), (2, .int a2)] [] σ (pO r) 0 0 := by
  intro n
  induction n with
  | zero => intro a0 a1 a2 σ r h; cases h
  | succ n ih =>
    intro a0 a1 a2 σ r h
    rw [e_X10_isSure_2] at h
    refine v_iload_n (dq D_X10_isSure 2 rfl) 2 rfl ?_
    refine v_iload_n (dq D_X10_isSure 3 rfl) 1 rfl ?_
    refine v_icmp_gt (dq D_X10_isSure 4 rfl) rfl (fun c1 => ?_) (fun c1 => ?_)
    · have h := itp h c1
      refine v_iconst (dq D_X10_isSure 29 rfl) kc_1 ?_
      obtain rfl := Option.some.inj h
      exact v_zret (dq D_X10_isSure 30 rfl) rfl rfl ⟨rfl, rfl⟩
    · have h := itn h c1
      refine v_aload_n (dq D_X10_isSure 5 rfl) 0 rfl ?_
      refine v_iload_n (dq D_X10_isSure 6 rfl) 2 rfl ?_
      refine v_iconst (dq D_X10_isSure 7 rfl) kc_2 ?_
      obtain ⟨q2, hq2, h⟩ := obi h
      refine v_cVi (bc := 0) (bs := 0) (As := [.int a2, .int 2]) (dq D_X10_isSure 8 rfl) cv_X10_has ml_RX10_322 (itg hq2).1 (m_X10_has hq2) rfl rfl (Nat.le_of_ble_eq_true rfl) ⟨Nat.le_of_ble_eq_true rfl, Nat.le_of_ble_eq_true rfl⟩ ⟨Nat.le_of_ble_eq_true rfl, Nat.le_of_ble_eq_true rfl⟩ ?_
      refine v_if_ne (dq D_X10_isSure 9 rfl) rfl (fun c3 => ?_) (fun c3 => ?_)
      · have h := itn h c3
        exact v_sub [] rfl (w_X10_isSure_43 h)
      · have h := itp h c3
        refine v_aload_n (dq D_X10_isSure 10 rfl) 0 rfl ?_
        refine v_iload_n (dq D_X10_isSure 11 rfl) 2 rfl ?_
        obtain ⟨q4, hq4, h⟩ := obi h
        refine v_cVi (bc := 0) (bs := 0) (As := [.int a2]) (dq D_X10_isSure 12 rfl) cv_X10_kindOf ml_RX10_325 (itg hq4).1 (m_X10_kindOf hq4) rfl rfl (Nat.le_of_ble_eq_true rfl) ⟨Nat.le_of_ble_eq_true rfl, Nat.le_of_ble_eq_true rfl⟩ ⟨Nat.le_of_ble_eq_true rfl, Nat.le_of_ble_eq_true rfl⟩ ?_
        refine v_iconst (dq D_X10_isSure 13 rfl) kc_5 ?_
        refine v_icmp_eq (dq D_X10_isSure 14 rfl) rfl (fun c5 => ?_) (fun c5 => ?_)
        · have h := itp h c5
          exact w_X10_isSure_34 ih h
        · have h := itn h c5
          refine v_aload_n (dq D_X10_isSure 15 rfl) 0 rfl ?_
          refine v_iload_n (dq D_X10_isSure 16 rfl) 2 rfl ?_
          obtain ⟨q6, hq6, h⟩ := obi h
          refine v_cVi (bc := 0) (bs := 0) (As := [.int a2]) (dq D_X10_isSure 17 rfl) cv_X10_kindOf ml_RX10_325 (itg hq6).1 (m_X10_kindOf hq6) rfl rfl (Nat.le_of_ble_eq_true rfl) ⟨Nat.le_of_ble_eq_true rfl, Nat.le_of_ble_eq_true rfl⟩ ⟨Nat.le_of_ble_eq_true rfl, Nat.le_of_ble_eq_true rfl⟩ ?_
          refine v_iconst (dq D_X10_isSure 18 rfl) kc_3 ?_
          refine v_icmp_ne (dq D_X10_isSure 19 rfl) rfl (fun c7 => ?_) (fun c7 => ?_)
          · have h := itn h c7
            exact w_X10_isSure_45 ih h
          · have h := itp h c7
            exact w_X10_isSure_34 ih h
theorem w_X10_isSure_0 {sa : Env3} {a0 : Nat} {a1 : Int32} {σ : St} {r : Int32 × St} (h : f_X10_isSure_0 a0 a1 σ = some r) : VV sa cX10_isSure K_X10_isSure 0 [(0, .ref a0), (1, .int a1)] [] σ (pO r) 0 0 := by
  unfold f_X10_isSure_0 at h
  refine v_iconst (dq D_X10_isSure 0 rfl) kc_0 ?_
  refine v_istore_n (dq D_X10_isSure 1 rfl) [(2, .int 0), (0, .ref a0), (1, .int a1)] rfl (Nat.le_of_ble_eq_true rfl) rfl ?_
  exact v_sub [1, 2, 0] rfl (w_X10_isSure_2 _ h)
theorem m_X10_isSure {sa : Env3} {a0 : Nat} {a1 : Int32} {σ : St} {r : Int32 × St} (h : f_X10_isSure a0 a1 σ = some r) : Ex sa yX10_isSure cX10_isSure K_X10_isSure [.ref a0, .int a1] σ (pO r) := Ex.of (by decide) rfl (fun q => nomatch q) (Nat.le_of_ble_eq_true rfl) (w_X10_isSure_0 (itg h).2)
theorem w_X10_isLetGo_87 {sa : Env3}  {σ : St} {r : Int32 × St} (h : f_X10_isLetGo_87  σ = some r) : VV sa cX10_isLetGo K_X10_isLetGo 87 [] [] σ (pO r) 0 0 := by
  unfold f_X10_isLetGo_87 at h
  refine v_iconst (dq D_X10_isLetGo 51 rfl) kc_0 ?_
  obtain rfl := Option.some.inj h
  exact v_zret (dq D_X10_isLetGo 52 rfl) rfl rfl ⟨rfl, rfl⟩
theorem w_X10_isLetGo_112 {sa : Env3} {k32 : Nat → Int32 → Int32 → Int32 → St → Option (Int32 × St)} (hk32 : ∀ {a0 : Nat} {a1 : Int32} {a2 : Int32} {a3 : Int32} {σ : St} {r : Int32 × St}, k32 a0 a1 a2 a3 σ = some r → VV sa cX10_isLetGo K_X10_isLetGo 32 [(0, .ref a0), (1, .int a1), (2, .int a2), (3, .int a3)] [] σ (pO r) 0 0) {a0 : Nat} {a1 : Int32} {a3 : Int32} {s0 : Int32} {s1 : Int32} {σ : St} {r : Int32 × St} (h : f_X10_isLetGo_112 k32 a0 a1 a3 s0 s1 σ = some r) : VV sa cX10_isLetGo K_X10_isLetGo 112 [(0, .ref a0), (1, .int a1), (3, .int a3)] [.int s1, .int s0] σ (pO r) 0 0 := by
  unfold f_X10_isLetGo_112 at h
  refine v_ior (dq D_X10_isLetGo 66 rfl) ?_
  obtain ⟨x1, ex1, h⟩ := bnd_inv h
  refine v_top (congrArg Value.int ex1) ?_
  refine v_istore_n (dq D_X10_isLetGo 67 rfl) [(2, .int x1), (0, .ref a0), (1, .int a1), (3, .int a3)] rfl (Nat.le_of_ble_eq_true rfl) rfl ?_
  refine v_iinc (dq D_X10_isLetGo 68 rfl) 3 [(3, .int (a3 + 1)), (2, .int x1), (0, .ref a0), (1, .int a1)] rfl kc_1 (Nat.le_of_ble_eq_true rfl) rfl ?_
  refine v_goto (dq D_X10_isLetGo 69 rfl) rfl ?_
  exact v_sub [2, 3, 1, 0] rfl (hk32 h)
theorem w_X10_isLetGo_111 {sa : Env3} {k32 : Nat → Int32 → Int32 → Int32 → St → Option (Int32 × St)} (hk32 : ∀ {a0 : Nat} {a1 : Int32} {a2 : Int32} {a3 : Int32} {σ : St} {r : Int32 × St}, k32 a0 a1 a2 a3 σ = some r → VV sa cX10_isLetGo K_X10_isLetGo 32 [(0, .ref a0), (1, .int a1), (2, .int a2), (3, .int a3)] [] σ (pO r) 0 0) {a0 : Nat} {a1 : Int32} {a3 : Int32} {s0 : Int32} {σ : St} {r : Int32 × St} (h : f_X10_isLetGo_111 k32 a0 a1 a3 s0 σ = some r) : VV sa cX10_isLetGo K_X10_isLetGo 111 [(0, .ref a0), (1, .int a1), (3, .int a3)] [.int s0] σ (pO r) 0 0 := by
  unfold f_X10_isLetGo_111 at h
  refine v_iconst (dq D_X10_isLetGo 65 rfl) kc_0 ?_
  exact w_X10_isLetGo_112 hk32 h
theorem w_X10_isLetGo_89 {sa : Env3} {k32 : Nat → Int32 → Int32 → Int32 → St → Option (Int32 × St)} (hk32 : ∀ {a0 : Nat} {a1 : Int32} {a2 : Int32} {a3 : Int32} {σ : St} {r : Int32 × St}, k32 a0 a1 a2 a3 σ = some r → VV sa cX10_isLetGo K_X10_isLetGo 32 [(0, .ref a0), (1, .int a1), (2, .int a2), (3, .int a3)] [] σ (pO r) 0 0) {a0 : Nat} {a1 : Int32} {a2 : Int32} {a3 : Int32} {σ : St} {r : Int32 × St} (h : f_X10_isLetGo_89 k32 a0 a1 a2 a3 σ = some r) : VV sa cX10_isLetGo K_X10_isLetGo 89 [(0, .ref a0), (1, .int a1), (2, .int a2), (3, .int a3)] [] σ (pO r) 0 0 := by
  unfold f_X10_isLetGo_89 at h
  refine v_iload_n (dq D_X10_isLetGo 53 rfl) 2 rfl ?_
  refine v_aload_n (dq D_X10_isLetGo 54 rfl) 0 rfl ?_
  refine v_iload_n (dq D_X10_isLetGo 55 rfl) 3 rfl ?_
  obtain ⟨q1, hq1, h⟩ := obi h
  refine v_cVi (bc := 0) (bs := 0) (As := [.int a3]) (dq D_X10_isLetGo 56 rfl) cv_X10_registerOf ml_RX10_319 (itg hq1).1 (m_X10_registerOf hq1) rfl rfl (Nat.le_of_ble_eq_true rfl) ⟨Nat.le_of_ble_eq_true rfl, Nat.le_of_ble_eq_true rfl⟩ ⟨Nat.le_of_ble_eq_true rfl, Nat.le_of_ble_eq_true rfl⟩ ?_
  refine v_iload_n (dq D_X10_isLetGo 57 rfl) 1 rfl ?_
  refine v_icmp_ne (dq D_X10_isLetGo 58 rfl) rfl (fun c2 => ?_) (fun c2 => ?_)
  · have h := itn h c2
    exact v_sub [0, 1, 3] rfl (w_X10_isLetGo_111 hk32 h)
  · have h := itp h c2
    refine v_aload_n (dq D_X10_isLetGo 59 rfl) 0 rfl ?_
    refine v_iload_n (dq D_X10_isLetGo 60 rfl) 3 rfl ?_
    obtain ⟨q3, hq3, h⟩ := obi h
    refine v_cVi (bc := 0) (bs := 0) (As := [.int a3]) (dq D_X10_isLetGo 61 rfl) cv_X10_isSure ml_RX10_330 (itg hq3).1 (m_X10_isSure hq3) rfl rfl (Nat.le_of_ble_eq_true rfl) ⟨Nat.le_of_ble_eq_true rfl, Nat.le_of_ble_eq_true rfl⟩ ⟨Nat.le_of_ble_eq_true rfl, Nat.le_of_ble_eq_true rfl⟩ ?_
    refine v_if_eq (dq D_X10_isLetGo 62 rfl) rfl (fun c4 => ?_) (fun c4 => ?_)
    · have h := itp h c4
      exact v_sub [0, 1, 3] rfl (w_X10_isLetGo_111 hk32 h)
    · have h := itn h c4
      refine v_iconst (dq D_X10_isLetGo 63 rfl) kc_1 ?_
      refine v_goto (dq D_X10_isLetGo 64 rfl) rfl ?_
      exact v_sub [0, 1, 3] rfl (w_X10_isLetGo_112 hk32 h)
theorem w_X10_isLetGo_32 {sa : Env3} : ∀ (n : Nat) {a0 : Nat} {a1 : Int32} {a2 : Int32} {a3 : Int32} {σ : St} {r : Int32 × St}, f_X10_isLetGo_32 n a0 a1 a2 a3 σ = some r → VV sa cX10_isLetGo K_X10_isLetGo 32 [(0, .ref a0), (1, .int a1), (2, .int a2), (3, .int a3)] [] σ (pO r) 0 0 := by
  intro n
  induction n with
  | zero => intro a0 a1 a2 a3 σ r h; cases h
  | succ n ih =>
    intro a0 a1 a2 a3 σ r h
    rw [e_X10_isLetGo_32] at h
    refine v_iload_n (dq D_X10_isLetGo 19 rfl) 3 rfl ?_
    refine v_aload_n (dq D_X10_isLetGo 20 rfl) 0 rfl ?_
    obtain ⟨x1, hx1, h⟩ := obi h
    refine v_gR (dq D_X10_isLetGo 21 rfl) fa_RX10_24 hx1 ?_
    refine v_bipush (dq D_X10_isLetGo 22 rfl) kb_34 ?_
    obtain ⟨x2, hx2, h⟩ := obi h
    refine v_iald (dq D_X10_isLetGo 23 rfl) hx2 ?_
    refine v_icmp_ge (dq D_X10_isLetGo 24 rfl) rfl (fun c3 => ?_) (fun c3 => ?_)
    · have h := itp h c3
      refine v_iload_n (dq D_X10_isLetGo 70 rfl) 2 rfl ?_
      have hz := (itg h).1
      have h := (itg h).2
      obtain rfl := Option.some.inj h
      exact v_zret (dq D_X10_isLetGo 71 rfl) rfl (z_nar hz) ⟨rfl, rfl⟩
    · have h := itn h c3
      refine v_aload_n (dq D_X10_isLetGo 25 rfl) 0 rfl ?_
      obtain ⟨x4, hx4, h⟩ := obi h
      refine v_gR (dq D_X10_isLetGo 26 rfl) fa_RX10_24 hx4 ?_
      refine v_aload_n (dq D_X10_isLetGo 27 rfl) 0 rfl ?_
      refine v_iload_n (dq D_X10_isLetGo 28 rfl) 3 rfl ?_
      obtain ⟨q5, hq5, h⟩ := obi h
      refine v_cVi (bc := 0) (bs := 0) (As := [.int a3]) (dq D_X10_isLetGo 29 rfl) cv_X10_at ml_RX10_316 (itg hq5).1 (m_X10_at hq5) rfl rfl (Nat.le_of_ble_eq_true rfl) ⟨Nat.le_of_ble_eq_true rfl, Nat.le_of_ble_eq_true rfl⟩ ⟨Nat.le_of_ble_eq_true rfl, Nat.le_of_ble_eq_true rfl⟩ ?_
      refine v_iconst (dq D_X10_isLetGo 30 rfl) kc_1 ?_
      refine v_iadd (dq D_X10_isLetGo 31 rfl) ?_
      obtain ⟨x6, hx6, h⟩ := obi h
      refine v_iald (dq D_X10_isLetGo 32 rfl) hx6 ?_
      refine v_aload_n (dq D_X10_isLetGo 33 rfl) 0 rfl ?_
      obtain ⟨x7, hx7, h⟩ := obi h
      refine v_gR (dq D_X10_isLetGo 34 rfl) fa_RX10_24 hx7 ?_
      refine v_iload_n (dq D_X10_isLetGo 35 rfl) 1 rfl ?_
      obtain ⟨x8, hx8, h⟩ := obi h
      refine v_iald (dq D_X10_isLetGo 36 rfl) hx8 ?_
      refine v_icmp_eq (dq D_X10_isLetGo 37 rfl) rfl (fun c9 => ?_) (fun c9 => ?_)
      · have h := itp h c9
        exact v_sub [] rfl (w_X10_isLetGo_87 h)
      · have h := itn h c9
        refine v_aload_n (dq D_X10_isLetGo 38 rfl) 0 rfl ?_
        refine v_iload_n (dq D_X10_isLetGo 39 rfl) 3 rfl ?_
        refine v_iconst (dq D_X10_isLetGo 40 rfl) kc_1 ?_
        obtain ⟨q10, hq10, h⟩ := obi h
        refine v_cVi (bc := 0) (bs := 0) (As := [.int a3, .int 1]) (dq D_X10_isLetGo 41 rfl) cv_X10_has ml_RX10_322 (itg hq10).1 (m_X10_has hq10) rfl rfl (Nat.le_of_ble_eq_true rfl) ⟨Nat.le_of_ble_eq_true rfl, Nat.le_of_ble_eq_true rfl⟩ ⟨Nat.le_of_ble_eq_true rfl, Nat.le_of_ble_eq_true rfl⟩ ?_
        refine v_if_ne (dq D_X10_isLetGo 42 rfl) rfl (fun c11 => ?_) (fun c11 => ?_)
        · have h := itn h c11
          exact w_X10_isLetGo_89 ih h
        · have h := itp h c11
          refine v_aload_n (dq D_X10_isLetGo 43 rfl) 0 rfl ?_
          refine v_iload_n (dq D_X10_isLetGo 44 rfl) 3 rfl ?_
          refine v_aload_n (dq D_X10_isLetGo 45 rfl) 0 rfl ?_
          obtain ⟨x12, hx12, h⟩ := obi h
          refine v_gR (dq D_X10_isLetGo 46 rfl) fa_RX10_24 hx12 ?_
          refine v_iload_n (dq D_X10_isLetGo 47 rfl) 1 rfl ?_
          obtain ⟨x13, hx13, h⟩ := obi h
          refine v_iald (dq D_X10_isLetGo 48 rfl) hx13 ?_
          obtain ⟨q14, hq14, h⟩ := obi h
          refine v_cVi (bc := 0) (bs := 0) (As := [.int a3, .int x13]) (dq D_X10_isLetGo 49 rfl) cv_X10_reads ml_RX10_328 (itg hq14).1 (m_X10_reads hq14) rfl rfl (Nat.le_of_ble_eq_true rfl) ⟨Nat.le_of_ble_eq_true rfl, Nat.le_of_ble_eq_true rfl⟩ ⟨Nat.le_of_ble_eq_true rfl, Nat.le_of_ble_eq_true rfl⟩ ?_
          refine v_if_eq (dq D_X10_isLetGo 50 rfl) rfl (fun c15 => ?_) (fun c15 => ?_)
          · have h := itp h c15
            exact w_X10_isLetGo_89 ih h
          · have h := itn h c15
            exact v_sub [] rfl (w_X10_isLetGo_87 h)
theorem w_X10_isLetGo_0 {sa : Env3} {a0 : Nat} {a1 : Int32} {σ : St} {r : Int32 × St} (h : f_X10_isLetGo_0 a0 a1 σ = some r) : VV sa cX10_isLetGo K_X10_isLetGo 0 [(0, .ref a0), (1, .int a1)] [] σ (pO r) 0 0 := by
  unfold f_X10_isLetGo_0 at h
  refine v_aload_n (dq D_X10_isLetGo 0 rfl) 0 rfl ?_
  obtain ⟨x1, hx1, h⟩ := obi h
  refine v_gR (dq D_X10_isLetGo 1 rfl) fa_RX10_24 hx1 ?_
  refine v_bipush (dq D_X10_isLetGo 2 rfl) kb_8 ?_
  obtain ⟨x2, hx2, h⟩ := obi h
  refine v_iald (dq D_X10_isLetGo 3 rfl) hx2 ?_
  refine v_iload_n (dq D_X10_isLetGo 4 rfl) 1 rfl ?_
  obtain ⟨q3, hq3, h⟩ := obi h
  refine v_cSi (bc := 0) (bs := 0) (As := [.int x2, .int a1]) (dq D_X10_isLetGo 5 rfl) cs_X10_bit ml_RX10_280 (m_X10_bit hq3) rfl rfl (Nat.le_of_ble_eq_true rfl) ⟨Nat.le_of_ble_eq_true rfl, Nat.le_of_ble_eq_true rfl⟩ ⟨Nat.le_of_ble_eq_true rfl, Nat.le_of_ble_eq_true rfl⟩ ?_
  refine v_if_eq (dq D_X10_isLetGo 6 rfl) rfl (fun c4 => ?_) (fun c4 => ?_)
  · have h := itp h c4
    refine v_aload_n (dq D_X10_isLetGo 9 rfl) 0 rfl ?_
    obtain ⟨x5, hx5, h⟩ := obi h
    refine v_gR (dq D_X10_isLetGo 10 rfl) fa_RX10_266 hx5 ?_
    obtain ⟨x6, hx6, h⟩ := obi h
    refine v_gI (dq D_X10_isLetGo 11 rfl) fa_RX10_203 hx6 ?_
    refine v_if_ne (dq D_X10_isLetGo 12 rfl) rfl (fun c7 => ?_) (fun c7 => ?_)
    · have h := itn h c7
      refine v_iconst (dq D_X10_isLetGo 15 rfl) kc_0 ?_
      refine v_istore_n (dq D_X10_isLetGo 16 rfl) [(2, .int 0), (0, .ref a0), (1, .int a1)] rfl (Nat.le_of_ble_eq_true rfl) rfl ?_
      refine v_iconst (dq D_X10_isLetGo 17 rfl) kc_0 ?_
      refine v_istore_n (dq D_X10_isLetGo 18 rfl) [(3, .int 0), (2, .int 0), (0, .ref a0), (1, .int a1)] rfl (Nat.le_of_ble_eq_true rfl) rfl ?_
      exact v_sub [2, 3, 1, 0] rfl (w_X10_isLetGo_32 _ h)
    · have h := itp h c7
      refine v_iconst (dq D_X10_isLetGo 13 rfl) kc_0 ?_
      obtain rfl := Option.some.inj h
      exact v_zret (dq D_X10_isLetGo 14 rfl) rfl rfl ⟨rfl, rfl⟩
  · have h := itn h c4
    refine v_iconst (dq D_X10_isLetGo 7 rfl) kc_1 ?_
    obtain rfl := Option.some.inj h
    exact v_zret (dq D_X10_isLetGo 8 rfl) rfl rfl ⟨rfl, rfl⟩
theorem m_X10_isLetGo {sa : Env3} {a0 : Nat} {a1 : Int32} {σ : St} {r : Int32 × St} (h : f_X10_isLetGo a0 a1 σ = some r) : Ex sa yX10_isLetGo cX10_isLetGo K_X10_isLetGo [.ref a0, .int a1] σ (pO r) := Ex.of (by decide) rfl (fun q => nomatch q) (Nat.le_of_ble_eq_true rfl) (w_X10_isLetGo_0 (itg h).2)
theorem w_X10_agrees_47 {sa : Env3} {a0 : Nat} {σ : St} {r : Int32 × St} (h : f_X10_agrees_47 a0 σ = some r) : VV sa cX10_agrees K_X10_agrees 47 [(0, .ref a0)] [] σ (pO r) 0 0 := by
  unfold f_X10_agrees_47 at h
  refine v_aload_n (dq D_X10_agrees 25 rfl) 0 rfl ?_
  refine v_iconst (dq D_X10_agrees 26 rfl) kc_0 ?_
  obtain ⟨q1, hq1, h⟩ := obi h
  refine v_cVi (bc := 0) (bs := 0) (As := [.int 0]) (dq D_X10_agrees 27 rfl) cv_X10_good ml_RX10_46 (itg hq1).1 (m_X10_good hq1) rfl rfl (Nat.le_of_ble_eq_true rfl) ⟨Nat.le_of_ble_eq_true rfl, Nat.le_of_ble_eq_true rfl⟩ ⟨Nat.le_of_ble_eq_true rfl, Nat.le_of_ble_eq_true rfl⟩ ?_
  obtain rfl := Option.some.inj h
  exact v_iret (dq D_X10_agrees 28 rfl) rfl ⟨rfl, rfl⟩
theorem w_X10_agrees_98 {sa : Env3} {k55 : Nat → Int32 → St → Option (Int32 × St)} (hk55 : ∀ {a0 : Nat} {a1 : Int32} {σ : St} {r : Int32 × St}, k55 a0 a1 σ = some r → VV sa cX10_agrees K_X10_agrees 55 [(0, .ref a0), (1, .int a1)] [] σ (pO r) 0 0) {a0 : Nat} {a1 : Int32} {σ : St} {r : Int32 × St} (h : f_X10_agrees_98 k55 a0 a1 σ = some r) : VV sa cX10_agrees K_X10_agrees 98 [(0, .ref a0), (1, .int a1)] [] σ (pO r) 0 0 := by
  unfold f_X10_agrees_98 at h
  refine v_iinc (dq D_X10_agrees 56 rfl) 1 [(1, .int (a1 + 1)), (0, .ref a0)] rfl kc_1 (Nat.le_of_ble_eq_true rfl) rfl ?_
  refine v_goto (dq D_X10_agrees 57 rfl) rfl ?_
  exact v_sub [1, 0] rfl (hk55 h)
theorem w_X10_agrees_55 {sa : Env3} : ∀ (n : Nat) {a0 : Nat} {a1 : Int32} {σ : St} {r : Int32 × St}, f_X10_agrees_55 n a0 a1 σ = some r → VV sa cX10_agrees K_X10_agrees 55 [(0, .ref a0), (1, .int a1)] [] σ (pO r) 0 0 := by
  intro n
  induction n with
  | zero => intro a0 a1 σ r h; cases h
  | succ n ih =>
    intro a0 a1 σ r h
    rw [e_X10_agrees_55] at h
    refine v_iload_n (dq D_X10_agrees 31 rfl) 1 rfl ?_
    refine v_bipush (dq D_X10_agrees 32 rfl) kb_8 ?_
    refine v_icmp_ge (dq D_X10_agrees 33 rfl) rfl (fun c1 => ?_) (fun c1 => ?_)
    · have h := itp h c1
      refine v_aload_n (dq D_X10_agrees 58 rfl) 0 rfl ?_
      refine v_iconst (dq D_X10_agrees 59 rfl) kc_1 ?_
      obtain ⟨q2, hq2, h⟩ := obi h
      refine v_cVi (bc := 0) (bs := 0) (As := [.int 1]) (dq D_X10_agrees 60 rfl) cv_X10_good ml_RX10_46 (itg hq2).1 (m_X10_good hq2) rfl rfl (Nat.le_of_ble_eq_true rfl) ⟨Nat.le_of_ble_eq_true rfl, Nat.le_of_ble_eq_true rfl⟩ ⟨Nat.le_of_ble_eq_true rfl, Nat.le_of_ble_eq_true rfl⟩ ?_
      obtain rfl := Option.some.inj h
      exact v_iret (dq D_X10_agrees 61 rfl) rfl ⟨rfl, rfl⟩
    · have h := itn h c1
      refine v_aload_n (dq D_X10_agrees 34 rfl) 0 rfl ?_
      refine v_iload_n (dq D_X10_agrees 35 rfl) 1 rfl ?_
      obtain ⟨q3, hq3, h⟩ := obi h
      refine v_cVi (bc := 0) (bs := 0) (As := [.int a1]) (dq D_X10_agrees 36 rfl) cv_X10_isLetGo ml_RX10_333 (itg hq3).1 (m_X10_isLetGo hq3) rfl rfl (Nat.le_of_ble_eq_true rfl) ⟨Nat.le_of_ble_eq_true rfl, Nat.le_of_ble_eq_true rfl⟩ ⟨Nat.le_of_ble_eq_true rfl, Nat.le_of_ble_eq_true rfl⟩ ?_
      refine v_if_ne (dq D_X10_agrees 37 rfl) rfl (fun c4 => ?_) (fun c4 => ?_)
      · have h := itn h c4
        exact w_X10_agrees_98 ih h
      · have h := itp h c4
        refine v_aload_n (dq D_X10_agrees 38 rfl) 0 rfl ?_
        obtain ⟨x5, hx5, h⟩ := obi h
        refine v_gR (dq D_X10_agrees 39 rfl) fa_RX10_24 hx5 ?_
        refine v_bipush (dq D_X10_agrees 40 rfl) kb_9 ?_
        refine v_aload_n (dq D_X10_agrees 41 rfl) 0 rfl ?_
        obtain ⟨x6, hx6, h⟩ := obi h
        refine v_gR (dq D_X10_agrees 42 rfl) fa_RX10_24 hx6 ?_
        refine v_iload_n (dq D_X10_agrees 43 rfl) 1 rfl ?_
        obtain ⟨x7, hx7, h⟩ := obi h
        refine v_iald (dq D_X10_agrees 44 rfl) hx7 ?_
        refine v_iadd (dq D_X10_agrees 45 rfl) ?_
        obtain ⟨x8, hx8, h⟩ := obi h
        refine v_iald (dq D_X10_agrees 46 rfl) hx8 ?_
        refine v_aload_n (dq D_X10_agrees 47 rfl) 0 rfl ?_
        obtain ⟨x9, hx9, h⟩ := obi h
        refine v_gR (dq D_X10_agrees 48 rfl) fa_RX10_17 hx9 ?_
        refine v_iload_n (dq D_X10_agrees 49 rfl) 1 rfl ?_
        obtain ⟨x10, hx10, h⟩ := obi h
        refine v_iald (dq D_X10_agrees 50 rfl) hx10 ?_
        refine v_icmp_eq (dq D_X10_agrees 51 rfl) rfl (fun c11 => ?_) (fun c11 => ?_)
        · have h := itp h c11
          exact w_X10_agrees_98 ih h
        · have h := itn h c11
          refine v_aload_n (dq D_X10_agrees 52 rfl) 0 rfl ?_
          refine v_iconst (dq D_X10_agrees 53 rfl) kc_0 ?_
          obtain ⟨q12, hq12, h⟩ := obi h
          refine v_cVi (bc := 0) (bs := 0) (As := [.int 0]) (dq D_X10_agrees 54 rfl) cv_X10_good ml_RX10_46 (itg hq12).1 (m_X10_good hq12) rfl rfl (Nat.le_of_ble_eq_true rfl) ⟨Nat.le_of_ble_eq_true rfl, Nat.le_of_ble_eq_true rfl⟩ ⟨Nat.le_of_ble_eq_true rfl, Nat.le_of_ble_eq_true rfl⟩ ?_
          obtain rfl := Option.some.inj h
          exact v_iret (dq D_X10_agrees 55 rfl) rfl ⟨rfl, rfl⟩
theorem w_X10_agrees_0 {sa : Env3} {a0 : Nat} {σ : St} {r : Int32 × St} (h : f_X10_agrees_0 a0 σ = some r) : VV sa cX10_agrees K_X10_agrees 0 [(0, .ref a0)] [] σ (pO r) 0 0 := by
  unfold f_X10_agrees_0 at h
  refine v_aload_n (dq D_X10_agrees 0 rfl) 0 rfl ?_
  refine v_iconst (dq D_X10_agrees 1 rfl) kc_0 ?_
  obtain ⟨σ1, hσ1, h⟩ := obi h
  refine v_pI (dq D_X10_agrees 2 rfl) fp_RX10_36 hσ1 ?_
  refine v_aload_n (dq D_X10_agrees 3 rfl) 0 rfl ?_
  obtain ⟨x2, hx2, h⟩ := obi h
  refine v_gQ (dq D_X10_agrees 4 rfl) fa_RX10_266 hx2 ?_
  rcases oc_inv h with ⟨rfl, h⟩ | ⟨b3, rfl, h⟩
  · refine v_ifnonnullN (dq D_X10_agrees 5 rfl) ?_
    refine v_aload_n (dq D_X10_agrees 6 rfl) 0 rfl ?_
    refine v_iconst (dq D_X10_agrees 7 rfl) kc_1 ?_
    obtain ⟨q4, hq4, h⟩ := obi h
    refine v_cVi (bc := 0) (bs := 0) (As := [.int 1]) (dq D_X10_agrees 8 rfl) cv_X10_refused ml_RX10_42 (itg hq4).1 (m_X10_refused hq4) rfl rfl (Nat.le_of_ble_eq_true rfl) ⟨Nat.le_of_ble_eq_true rfl, Nat.le_of_ble_eq_true rfl⟩ ⟨Nat.le_of_ble_eq_true rfl, Nat.le_of_ble_eq_true rfl⟩ ?_
    obtain rfl := Option.some.inj h
    exact v_iret (dq D_X10_agrees 9 rfl) rfl ⟨rfl, rfl⟩
  · refine v_ifnonnullR (dq D_X10_agrees 5 rfl) rfl ?_
    refine v_aload_n (dq D_X10_agrees 10 rfl) 0 rfl ?_
    obtain ⟨σ5, hσ5, h⟩ := obi h
    refine v_cVv (bc := 0) (bs := 0) (As := []) (dq D_X10_agrees 11 rfl) cv_X10_works ml_RX10_366 (itg hσ5).1 (m_X10_works hσ5) rfl rfl (Nat.le_of_ble_eq_true rfl) ⟨Nat.le_of_ble_eq_true rfl, Nat.le_of_ble_eq_true rfl⟩ ⟨Nat.le_of_ble_eq_true rfl, Nat.le_of_ble_eq_true rfl⟩ ?_
    refine v_aload_n (dq D_X10_agrees 12 rfl) 0 rfl ?_
    obtain ⟨x6, hx6, h⟩ := obi h
    refine v_gR (dq D_X10_agrees 13 rfl) fa_RX10_24 hx6 ?_
    refine v_bipush (dq D_X10_agrees 14 rfl) kb_38 ?_
    obtain ⟨x7, hx7, h⟩ := obi h
    refine v_iald (dq D_X10_agrees 15 rfl) hx7 ?_
    refine v_iconst (dq D_X10_agrees 16 rfl) kc_1 ?_
    refine v_icmp_eq (dq D_X10_agrees 17 rfl) rfl (fun c8 => ?_) (fun c8 => ?_)
    · have h := itp h c8
      exact w_X10_agrees_47 h
    · have h := itn h c8
      refine v_aload_n (dq D_X10_agrees 18 rfl) 0 rfl ?_
      refine v_aload_n (dq D_X10_agrees 19 rfl) 0 rfl ?_
      obtain ⟨x9, hx9, h⟩ := obi h
      refine v_gR (dq D_X10_agrees 20 rfl) fa_RX10_24 hx9 ?_
      refine v_bipush (dq D_X10_agrees 21 rfl) kb_37 ?_
      obtain ⟨x10, hx10, h⟩ := obi h
      refine v_iald (dq D_X10_agrees 22 rfl) hx10 ?_
      obtain ⟨q11, hq11, h⟩ := obi h
      refine v_cVi (bc := 0) (bs := 0) (As := [.int x10]) (dq D_X10_agrees 23 rfl) cv_X10_plainlyDone ml_RX10_312 (itg hq11).1 (m_X10_plainlyDone hq11) rfl rfl (Nat.le_of_ble_eq_true rfl) ⟨Nat.le_of_ble_eq_true rfl, Nat.le_of_ble_eq_true rfl⟩ ⟨Nat.le_of_ble_eq_true rfl, Nat.le_of_ble_eq_true rfl⟩ ?_
      refine v_if_ne (dq D_X10_agrees 24 rfl) rfl (fun c12 => ?_) (fun c12 => ?_)
      · have h := itn h c12
        refine v_iconst (dq D_X10_agrees 29 rfl) kc_0 ?_
        refine v_istore_n (dq D_X10_agrees 30 rfl) [(1, .int 0), (0, .ref a0)] rfl (Nat.le_of_ble_eq_true rfl) rfl ?_
        exact v_sub [1, 0] rfl (w_X10_agrees_55 _ h)
      · have h := itp h c12
        exact w_X10_agrees_47 h
theorem m_X10_agrees {sa : Env3} {a0 : Nat} {σ : St} {r : Int32 × St} (h : f_X10_agrees a0 σ = some r) : Ex sa yX10_agrees cX10_agrees K_X10_agrees [.ref a0] σ (pO r) := Ex.of (by decide) rfl (fun q => nomatch q) (Nat.le_of_ble_eq_true rfl) (w_X10_agrees_0 (itg h).2)
theorem w_X10_asTold_25 {sa : Env3} {k2 : Nat → Int32 → Int32 → St → Option (St)} (hk2 : ∀ {a0 : Nat} {a1 : Int32} {a2 : Int32} {σ : St} {r : St}, k2 a0 a1 a2 σ = some r → VV sa cX10_asTold K_X10_asTold 2 [(0, .ref a0), (1, .int a1), (2, .int a2)] [] σ (pU r) 0 0) {a0 : Nat} {a1 : Int32} {a2 : Int32} {s0 : Nat} {s1 : Int32} {s2 : Int32} {σ : St} {r : St} (h : f_X10_asTold_25 k2 a0 a1 a2 s0 s1 s2 σ = some r) : VV sa cX10_asTold K_X10_asTold 25 [(0, .ref a0), (1, .int a1), (2, .int a2)] [.int s2, .int s1, .ref s0] σ (pU r) 0 0 := by
  unfold f_X10_asTold_25 at h
  obtain ⟨σ1, hσ1, h⟩ := obi h
  refine v_iast (dq D_X10_asTold 14 rfl) hσ1 ?_
  refine v_iinc (dq D_X10_asTold 15 rfl) 2 [(2, .int (a2 + 1)), (0, .ref a0), (1, .int a1)] rfl kc_1 (Nat.le_of_ble_eq_true rfl) rfl ?_
  refine v_goto (dq D_X10_asTold 16 rfl) rfl ?_
  exact v_sub [1, 2, 0] rfl (hk2 h)
theorem w_X10_asTold_2 {sa : Env3} : ∀ (n : Nat) {a0 : Nat} {a1 : Int32} {a2 : Int32} {σ : St} {r : St}, f_X10_asTold_2 n a0 a1 a2 σ = some r → VV sa cX10_asTold K_X10_asTold 2 [(0, .ref a0), (1, .int a1), (2, .int a2)] [] σ (pU r) 0 0 := by
  intro n
  induction n with
  | zero => intro a0 a1 a2 σ r h; cases h
  | succ n ih =>
    intro a0 a1 a2 σ r h
    rw [e_X10_asTold_2] at h
    refine v_iload_n (dq D_X10_asTold 2 rfl) 2 rfl ?_
    refine v_sipush (dq D_X10_asTold 3 rfl) ks_195 ?_
    refine v_icmp_ge (dq D_X10_asTold 4 rfl) rfl (fun c1 => ?_) (fun c1 => ?_)
    · have h := itp h c1
      refine v_aload_n (dq D_X10_asTold 17 rfl) 0 rfl ?_
      obtain ⟨x2, hx2, h⟩ := obi h
      refine v_gR (dq D_X10_asTold 18 rfl) fa_RX10_24 hx2 ?_
      refine v_bipush (dq D_X10_asTold 19 rfl) kb_33 ?_
      refine v_sipush (dq D_X10_asTold 20 rfl) ks_255 ?_
      obtain ⟨σ3, hσ3, h⟩ := obi h
      refine v_iast (dq D_X10_asTold 21 rfl) hσ3 ?_
      refine v_aload_n (dq D_X10_asTold 22 rfl) 0 rfl ?_
      refine v_iload_n (dq D_X10_asTold 23 rfl) 1 rfl ?_
      obtain ⟨σ4, hσ4, h⟩ := obi h
      refine v_pI (dq D_X10_asTold 24 rfl) fp_RX10_315 hσ4 ?_
      obtain rfl := Option.some.inj h
      exact v_vret (dq D_X10_asTold 25 rfl) rfl ⟨rfl, rfl⟩
    · have h := itn h c1
      refine v_aload_n (dq D_X10_asTold 5 rfl) 0 rfl ?_
      obtain ⟨x5, hx5, h⟩ := obi h
      refine v_gR (dq D_X10_asTold 6 rfl) fa_RX10_24 hx5 ?_
      refine v_iload_n (dq D_X10_asTold 7 rfl) 2 rfl ?_
      refine v_iload_n (dq D_X10_asTold 8 rfl) 2 rfl ?_
      refine v_bipush (dq D_X10_asTold 9 rfl) kb_8 ?_
      refine v_icmp_ge (dq D_X10_asTold 10 rfl) rfl (fun c6 => ?_) (fun c6 => ?_)
      · have h := itp h c6
        refine v_iconst (dq D_X10_asTold 13 rfl) kc_0 ?_
        exact w_X10_asTold_25 ih h
      · have h := itn h c6
        refine v_iload_n (dq D_X10_asTold 11 rfl) 2 rfl ?_
        refine v_goto (dq D_X10_asTold 12 rfl) rfl ?_
        exact w_X10_asTold_25 ih h
theorem w_X10_asTold_0 {sa : Env3} {a0 : Nat} {a1 : Int32} {σ : St} {r : St} (h : f_X10_asTold_0 a0 a1 σ = some r) : VV sa cX10_asTold K_X10_asTold 0 [(0, .ref a0), (1, .int a1)] [] σ (pU r) 0 0 := by
  unfold f_X10_asTold_0 at h
  refine v_iconst (dq D_X10_asTold 0 rfl) kc_0 ?_
  refine v_istore_n (dq D_X10_asTold 1 rfl) [(2, .int 0), (0, .ref a0), (1, .int a1)] rfl (Nat.le_of_ble_eq_true rfl) rfl ?_
  exact v_sub [1, 2, 0] rfl (w_X10_asTold_2 _ h)
theorem m_X10_asTold {sa : Env3} {a0 : Nat} {a1 : Int32} {σ : St} {r : St} (h : f_X10_asTold a0 a1 σ = some r) : Ex sa yX10_asTold cX10_asTold K_X10_asTold [.ref a0, .int a1] σ (pU r) := Ex.of (by decide) rfl (fun q => nomatch q) (Nat.le_of_ble_eq_true rfl) (w_X10_asTold_0 (itg h).2)
theorem w_X10_wrongGot_10 {sa : Env3} : ∀ (n : Nat) {a0 : Nat} {a2 : Int32} {σ : St} {r : Int32 × St}, f_X10_wrongGot_10 n a0 a2 σ = some r → VV sa cX10_wrongGot K_X10_wrongGot 10 [(0, .ref a0), (2, .int a2)] [] σ (pO r) 0 0 := by
  intro n
  induction n with
  | zero => intro a0 a2 σ r h; cases h
  | succ n ih =>
    intro a0 a2 σ r h
    rw [e_X10_wrongGot_10] at h
    refine v_iload_n (dq D_X10_wrongGot 6 rfl) 1 rfl ?_
    refine v_aload_n (dq D_X10_wrongGot 7 rfl) 0 rfl ?_
    obtain ⟨x1, hx1, h⟩ := obi h
    refine v_gR (dq D_X10_wrongGot 8 rfl) fa_RX10_266 hx1 ?_
    obtain ⟨x2, hx2, h⟩ := obi h
    refine v_gI (dq D_X10_wrongGot 9 rfl) fa_RX10_248 hx2 ?_
    refine v_icmp_ge (dq D_X10_wrongGot 10 rfl) rfl (fun c3 => ?_) (fun c3 => ?_)
    · have h := itp h c3
      refine v_bipush (dq D_X10_wrongGot 29 rfl) kb_m2 ?_
      obtain rfl := Option.some.inj h
      exact v_iret (dq D_X10_wrongGot 30 rfl) rfl ⟨rfl, rfl⟩
    · have h := itn h c3
      refine v_aload_n (dq D_X10_wrongGot 11 rfl) 0 rfl ?_
      obtain ⟨x4, hx4, h⟩ := obi h
      refine v_gR (dq D_X10_wrongGot 12 rfl) fa_RX10_17 hx4 ?_
      refine v_aload_n (dq D_X10_wrongGot 13 rfl) 0 rfl ?_
      obtain ⟨x5, hx5, h⟩ := obi h
      refine v_gR (dq D_X10_wrongGot 14 rfl) fa_RX10_266 hx5 ?_
      obtain ⟨x6, hx6, h⟩ := obi h
      refine v_gR (dq D_X10_wrongGot 15 rfl) fa_RX10_254 hx6 ?_
      refine v_iload_n (dq D_X10_wrongGot 16 rfl) 1 rfl ?_
      obtain ⟨x7, hx7, h⟩ := obi h
      refine v_iald (dq D_X10_wrongGot 17 rfl) hx7 ?_
      obtain ⟨x8, hx8, h⟩ := obi h
      refine v_iald (dq D_X10_wrongGot 18 rfl) hx8 ?_
      refine v_aload_n (dq D_X10_wrongGot 19 rfl) 0 rfl ?_
      obtain ⟨x9, hx9, h⟩ := obi h
      refine v_gR (dq D_X10_wrongGot 20 rfl) fa_RX10_266 hx9 ?_
      obtain ⟨x10, hx10, h⟩ := obi h
      refine v_gR (dq D_X10_wrongGot 21 rfl) fa_RX10_256 hx10 ?_
      refine v_iload_n (dq D_X10_wrongGot 22 rfl) 1 rfl ?_
      obtain ⟨x11, hx11, h⟩ := obi h
      refine v_iald (dq D_X10_wrongGot 23 rfl) hx11 ?_
      refine v_icmp_eq (dq D_X10_wrongGot 24 rfl) rfl (fun c12 => ?_) (fun c12 => ?_)
      · have h := itp h c12
        refine v_iinc (dq D_X10_wrongGot 27 rfl) 1 [(2, .int (a2 + 1)), (0, .ref a0)] rfl kc_1 (Nat.le_of_ble_eq_true rfl) rfl ?_
        refine v_goto (dq D_X10_wrongGot 28 rfl) rfl ?_
        exact v_sub [1, 0] rfl (ih h)
      · have h := itn h c12
        refine v_iload_n (dq D_X10_wrongGot 25 rfl) 1 rfl ?_
        obtain rfl := Option.some.inj h
        exact v_iret (dq D_X10_wrongGot 26 rfl) rfl ⟨rfl, rfl⟩
theorem w_X10_wrongGot_0 {sa : Env3} {a0 : Nat} {a1 : Int32} {σ : St} {r : Int32 × St} (h : f_X10_wrongGot_0 a0 a1 σ = some r) : VV sa cX10_wrongGot K_X10_wrongGot 0 [(0, .ref a0), (1, .int a1)] [] σ (pO r) 0 0 := by
  unfold f_X10_wrongGot_0 at h
  refine v_aload_n (dq D_X10_wrongGot 0 rfl) 0 rfl ?_
  refine v_iload_n (dq D_X10_wrongGot 1 rfl) 1 rfl ?_
  refine v_sipush (dq D_X10_wrongGot 2 rfl) ks_200 ?_
  obtain ⟨σ1, hσ1, h⟩ := obi h
  refine v_cVv (bc := 0) (bs := 0) (As := [.int a1, .int 200]) (dq D_X10_wrongGot 3 rfl) cv_X10_plainly ml_RX10_309 (itg hσ1).1 (m_X10_plainly hσ1) rfl rfl (Nat.le_of_ble_eq_true rfl) ⟨Nat.le_of_ble_eq_true rfl, Nat.le_of_ble_eq_true rfl⟩ ⟨Nat.le_of_ble_eq_true rfl, Nat.le_of_ble_eq_true rfl⟩ ?_
  refine v_iconst (dq D_X10_wrongGot 4 rfl) kc_0 ?_
  refine v_istore_n (dq D_X10_wrongGot 5 rfl) [(2, .int 0), (0, .ref a0), (1, .int a1)] rfl (Nat.le_of_ble_eq_true rfl) rfl ?_
  exact v_sub [1, 0] rfl (w_X10_wrongGot_10 _ h)
theorem m_X10_wrongGot {sa : Env3} {a0 : Nat} {a1 : Int32} {σ : St} {r : Int32 × St} (h : f_X10_wrongGot a0 a1 σ = some r) : Ex sa yX10_wrongGot cX10_wrongGot K_X10_wrongGot [.ref a0, .int a1] σ (pO r) := Ex.of (by decide) rfl (fun q => nomatch q) (Nat.le_of_ble_eq_true rfl) (w_X10_wrongGot_0 (itg h).2)
theorem w_X10_fitting_178 {sa : Env3} {a2 : Int32} {σ : St} {r : Int32 × St} (h : f_X10_fitting_178 a2 σ = some r) : VV sa cX10_fitting K_X10_fitting 178 [(2, .int a2)] [] σ (pO r) 0 0 := by
  unfold f_X10_fitting_178 at h
  refine v_iload_n (dq D_X10_fitting 99 rfl) 0 rfl ?_
  obtain rfl := Option.some.inj h
  exact v_iret (dq D_X10_fitting 100 rfl) rfl ⟨rfl, rfl⟩
theorem w_X10_fitting_160 {sa : Env3} {k49 : Nat → Int32 → Int32 → Int32 → St → Option (Int32 × St)} (hk49 : ∀ {a0 : Nat} {a1 : Int32} {a2 : Int32} {a3 : Int32} {σ : St} {r : Int32 × St}, k49 a0 a1 a2 a3 σ = some r → VV sa cX10_fitting K_X10_fitting 49 [(0, .ref a0), (1, .int a1), (2, .int a2), (3, .int a3)] [] σ (pO r) 0 0) {a0 : Nat} {a1 : Int32} {a2 : Int32} {a3 : Int32} {σ : St} {r : Int32 × St} (h : f_X10_fitting_160 k49 a0 a1 a2 a3 σ = some r) : VV sa cX10_fitting K_X10_fitting 160 [(0, .ref a0), (1, .int a1), (2, .int a2), (3, .int a3)] [] σ (pO r) 0 0 := by
  unfold f_X10_fitting_160 at h
  refine v_iinc (dq D_X10_fitting 91 rfl) 3 [(3, .int (a3 + 1)), (0, .ref a0), (1, .int a1), (2, .int a2)] rfl kc_1 (Nat.le_of_ble_eq_true rfl) rfl ?_
  refine v_goto (dq D_X10_fitting 92 rfl) rfl ?_
  exact v_sub [1, 2, 3, 0] rfl (hk49 h)
theorem w_X10_fitting_152 {sa : Env3} {k49 : Nat → Int32 → Int32 → Int32 → St → Option (Int32 × St)} {k118 : Nat → Int32 → Int32 → Int32 → Int32 → St → Option (Int32 × St)} (hk49 : ∀ {a0 : Nat} {a1 : Int32} {a2 : Int32} {a3 : Int32} {σ : St} {r : Int32 × St}, k49 a0 a1 a2 a3 σ = some r → VV sa cX10_fitting K_X10_fitting 49 [(0, .ref a0), (1, .int a1), (2, .int a2), (3, .int a3)] [] σ (pO r) 0 0) (hk118 : ∀ {a0 : Nat} {a1 : Int32} {a2 : Int32} {a3 : Int32} {a4 : Int32} {σ : St} {r : Int32 × St}, k118 a0 a1 a2 a3 a4 σ = some r → VV sa cX10_fitting K_X10_fitting 118 [(0, .ref a0), (1, .int a1), (2, .int a2), (3, .int a3), (4, .int a4)] [] σ (pO r) 0 0) {a0 : Nat} {a1 : Int32} {a2 : Int32} {a3 : Int32} {a4 : Int32} {s0 : Nat} {s1 : Int32} {s2 : Int32} {s3 : Int32} {σ : St} {r : Int32 × St} (h : f_X10_fitting_152 k49 k118 a0 a1 a2 a3 a4 s0 s1 s2 s3 σ = some r) : VV sa cX10_fitting K_X10_fitting 152 [(0, .ref a0), (1, .int a1), (2, .int a2), (3, .int a3), (4, .int a4)] [.int s3, .int s2, .int s1, .ref s0] σ (pO r) 0 0 := by
  unfold f_X10_fitting_152 at h
  refine v_iadd (dq D_X10_fitting 87 rfl) ?_
  obtain ⟨σ1, hσ1, h⟩ := obi h
  refine v_iast (dq D_X10_fitting 88 rfl) hσ1 ?_
  refine v_iinc (dq D_X10_fitting 89 rfl) 4 [(4, .int (a4 + 1)), (0, .ref a0), (1, .int a1), (2, .int a2), (3, .int a3)] rfl kc_1 (Nat.le_of_ble_eq_true rfl) rfl ?_
  refine v_goto (dq D_X10_fitting 90 rfl) rfl ?_
  exact v_sub [1, 2, 3, 4, 0] rfl (hk118 h)
theorem w_X10_fitting_118 {sa : Env3} {k49 : Nat → Int32 → Int32 → Int32 → St → Option (Int32 × St)} (hk49 : ∀ {a0 : Nat} {a1 : Int32} {a2 : Int32} {a3 : Int32} {σ : St} {r : Int32 × St}, k49 a0 a1 a2 a3 σ = some r → VV sa cX10_fitting K_X10_fitting 49 [(0, .ref a0), (1, .int a1), (2, .int a2), (3, .int a3)] [] σ (pO r) 0 0) : ∀ (n : Nat) {a0 : Nat} {a1 : Int32} {a2 : Int32} {a3 : Int32} {a4 : Int32} {σ : St} {r : Int32 × St}, f_X10_fitting_118 k49 n a0 a1 a2 a3 a4 σ = some r → VV sa cX10_fitting K_X10_fitting 118 [(0, .ref a0), (1, .int a1), (2, .int a2), (3, .int a3), (4, .int a4)] [] σ (pO r) 0 0 := by
  intro n
  induction n with
  | zero => intro a0 a1 a2 a3 a4 σ r h; cases h
  | succ n ih =>
    intro a0 a1 a2 a3 a4 σ r h
    rw [e_X10_fitting_118] at h
    refine v_iload (dq D_X10_fitting 70 rfl) 4 rfl ?_
    refine v_aload_n (dq D_X10_fitting 71 rfl) 0 rfl ?_
    obtain ⟨x1, hx1, h⟩ := obi h
    refine v_gR (dq D_X10_fitting 72 rfl) fa_RX10_266 hx1 ?_
    obtain ⟨x2, hx2, h⟩ := obi h
    refine v_gI (dq D_X10_fitting 73 rfl) fa_RX10_234 hx2 ?_
    refine v_icmp_ge (dq D_X10_fitting 74 rfl) rfl (fun c3 => ?_) (fun c3 => ?_)
    · have h := itp h c3
      exact v_sub [0, 1, 2, 3] rfl (w_X10_fitting_160 hk49 h)
    · have h := itn h c3
      refine v_aload_n (dq D_X10_fitting 75 rfl) 0 rfl ?_
      obtain ⟨x4, hx4, h⟩ := obi h
      refine v_gR (dq D_X10_fitting 76 rfl) fa_RX10_33 hx4 ?_
      refine v_iload (dq D_X10_fitting 77 rfl) 4 rfl ?_
      refine v_dup2 (dq D_X10_fitting 78 rfl) rfl rfl ?_
      obtain ⟨x5, hx5, h⟩ := obi h
      refine v_iald (dq D_X10_fitting 79 rfl) hx5 ?_
      refine v_iload_n (dq D_X10_fitting 80 rfl) 3 rfl ?_
      refine v_iload (dq D_X10_fitting 81 rfl) 4 rfl ?_
      obtain ⟨q6, hq6, h⟩ := obi h
      refine v_cSi (bc := 0) (bs := 0) (As := [.int a3, .int a4]) (dq D_X10_fitting 82 rfl) cs_X10_bit ml_RX10_280 (m_X10_bit hq6) rfl rfl (Nat.le_of_ble_eq_true rfl) ⟨Nat.le_of_ble_eq_true rfl, Nat.le_of_ble_eq_true rfl⟩ ⟨Nat.le_of_ble_eq_true rfl, Nat.le_of_ble_eq_true rfl⟩ ?_
      refine v_if_eq (dq D_X10_fitting 83 rfl) rfl (fun c7 => ?_) (fun c7 => ?_)
      · have h := itp h c7
        refine v_iconst (dq D_X10_fitting 86 rfl) kc_0 ?_
        exact w_X10_fitting_152 hk49 ih h
      · have h := itn h c7
        refine v_iconst (dq D_X10_fitting 84 rfl) kc_1 ?_
        refine v_goto (dq D_X10_fitting 85 rfl) rfl ?_
        exact w_X10_fitting_152 hk49 ih h
theorem w_X10_fitting_85 {sa : Env3} {k49 : Nat → Int32 → Int32 → Int32 → St → Option (Int32 × St)} (hk49 : ∀ {a0 : Nat} {a1 : Int32} {a2 : Int32} {a3 : Int32} {σ : St} {r : Int32 × St}, k49 a0 a1 a2 a3 σ = some r → VV sa cX10_fitting K_X10_fitting 49 [(0, .ref a0), (1, .int a1), (2, .int a2), (3, .int a3)] [] σ (pO r) 0 0) {a0 : Nat} {a1 : Int32} {a2 : Int32} {a3 : Int32} {σ : St} {r : Int32 × St} (h : f_X10_fitting_85 k49 a0 a1 a2 a3 σ = some r) : VV sa cX10_fitting K_X10_fitting 85 [(0, .ref a0), (1, .int a1), (2, .int a2), (3, .int a3)] [] σ (pO r) 0 0 := by
  unfold f_X10_fitting_85 at h
  refine v_aload_n (dq D_X10_fitting 50 rfl) 0 rfl ?_
  refine v_dup (dq D_X10_fitting 51 rfl) rfl ?_
  obtain ⟨x1, hx1, h⟩ := obi h
  refine v_gI (dq D_X10_fitting 52 rfl) fa_RX10_424 hx1 ?_
  refine v_iconst (dq D_X10_fitting 53 rfl) kc_1 ?_
  refine v_iadd (dq D_X10_fitting 54 rfl) ?_
  obtain ⟨σ2, hσ2, h⟩ := obi h
  refine v_pI (dq D_X10_fitting 55 rfl) fp_RX10_424 hσ2 ?_
  refine v_aload_n (dq D_X10_fitting 56 rfl) 0 rfl ?_
  refine v_dup (dq D_X10_fitting 57 rfl) rfl ?_
  obtain ⟨x3, hx3, h⟩ := obi h
  refine v_gI (dq D_X10_fitting 58 rfl) fa_RX10_427 hx3 ?_
  refine v_iload_n (dq D_X10_fitting 59 rfl) 3 rfl ?_
  refine v_ior (dq D_X10_fitting 60 rfl) ?_
  obtain ⟨σ4, hσ4, h⟩ := obi h
  refine v_pI (dq D_X10_fitting 61 rfl) fp_RX10_427 hσ4 ?_
  refine v_aload_n (dq D_X10_fitting 62 rfl) 0 rfl ?_
  refine v_dup (dq D_X10_fitting 63 rfl) rfl ?_
  obtain ⟨x5, hx5, h⟩ := obi h
  refine v_gI (dq D_X10_fitting 64 rfl) fa_RX10_430 hx5 ?_
  refine v_iload_n (dq D_X10_fitting 65 rfl) 3 rfl ?_
  refine v_iand (dq D_X10_fitting 66 rfl) ?_
  obtain ⟨σ6, hσ6, h⟩ := obi h
  refine v_pI (dq D_X10_fitting 67 rfl) fp_RX10_430 hσ6 ?_
  refine v_iconst (dq D_X10_fitting 68 rfl) kc_0 ?_
  refine v_istore (dq D_X10_fitting 69 rfl) [(4, .int 0), (0, .ref a0), (1, .int a1), (2, .int a2), (3, .int a3)] (Nat.le_of_ble_eq_true rfl) rfl ?_
  exact v_sub [1, 2, 3, 4, 0] rfl (w_X10_fitting_118 hk49 _ h)
theorem w_X10_fitting_49 {sa : Env3} : ∀ (n : Nat) {a0 : Nat} {a1 : Int32} {a2 : Int32} {a3 : Int32} {σ : St} {r : Int32 × St}, f_X10_fitting_49 n a0 a1 a2 a3 σ = some r → VV sa cX10_fitting K_X10_fitting 49 [(0, .ref a0), (1, .int a1), (2, .int a2), (3, .int a3)] [] σ (pO r) 0 0 := by
  intro n
  induction n with
  | zero => intro a0 a1 a2 a3 σ r h; cases h
  | succ n ih =>
    intro a0 a1 a2 a3 σ r h
    rw [e_X10_fitting_49] at h
    refine v_iload_n (dq D_X10_fitting 31 rfl) 3 rfl ?_
    refine v_iconst (dq D_X10_fitting 32 rfl) kc_1 ?_
    refine v_aload_n (dq D_X10_fitting 33 rfl) 0 rfl ?_
    obtain ⟨x1, hx1, h⟩ := obi h
    refine v_gR (dq D_X10_fitting 34 rfl) fa_RX10_266 hx1 ?_
    obtain ⟨x2, hx2, h⟩ := obi h
    refine v_gI (dq D_X10_fitting 35 rfl) fa_RX10_234 hx2 ?_
    refine v_ishl (dq D_X10_fitting 36 rfl) ?_
    refine v_icmp_ge (dq D_X10_fitting 37 rfl) rfl (fun c3 => ?_) (fun c3 => ?_)
    · have h := itp h c3
      refine v_aload_n (dq D_X10_fitting 93 rfl) 0 rfl ?_
      obtain ⟨x4, hx4, h⟩ := obi h
      refine v_gI (dq D_X10_fitting 94 rfl) fa_RX10_424 hx4 ?_
      refine v_if_ne (dq D_X10_fitting 95 rfl) rfl (fun c5 => ?_) (fun c5 => ?_)
      · have h := itn h c5
        exact v_sub [2] rfl (w_X10_fitting_178 h)
      · have h := itp h c5
        refine v_aload_n (dq D_X10_fitting 96 rfl) 0 rfl ?_
        refine v_iconst (dq D_X10_fitting 97 rfl) kc_0 ?_
        obtain ⟨σ6, hσ6, h⟩ := obi h
        refine v_pI (dq D_X10_fitting 98 rfl) fp_RX10_430 hσ6 ?_
        exact v_sub [2] rfl (w_X10_fitting_178 h)
    · have h := itn h c3
      refine v_aload_n (dq D_X10_fitting 38 rfl) 0 rfl ?_
      refine v_iload_n (dq D_X10_fitting 39 rfl) 3 rfl ?_
      obtain ⟨q7, hq7, h⟩ := obi h
      refine v_cVi (bc := 0) (bs := 0) (As := [.int a3]) (dq D_X10_fitting 40 rfl) cv_X10_wrongGot ml_RX10_433 (itg hq7).1 (m_X10_wrongGot hq7) rfl rfl (Nat.le_of_ble_eq_true rfl) ⟨Nat.le_of_ble_eq_true rfl, Nat.le_of_ble_eq_true rfl⟩ ⟨Nat.le_of_ble_eq_true rfl, Nat.le_of_ble_eq_true rfl⟩ ?_
      refine v_bipush (dq D_X10_fitting 41 rfl) kb_m2 ?_
      refine v_icmp_eq (dq D_X10_fitting 42 rfl) rfl (fun c8 => ?_) (fun c8 => ?_)
      · have h := itp h c8
        refine v_aload_n (dq D_X10_fitting 44 rfl) 0 rfl ?_
        obtain ⟨x9, hx9, h⟩ := obi h
        refine v_gI (dq D_X10_fitting 45 rfl) fa_RX10_424 hx9 ?_
        refine v_iload_n (dq D_X10_fitting 46 rfl) 1 rfl ?_
        refine v_icmp_ne (dq D_X10_fitting 47 rfl) rfl (fun c10 => ?_) (fun c10 => ?_)
        · have h := itn h c10
          exact w_X10_fitting_85 ih h
        · have h := itp h c10
          refine v_iload_n (dq D_X10_fitting 48 rfl) 3 rfl ?_
          refine v_istore_n (dq D_X10_fitting 49 rfl) [(2, .int a3), (0, .ref a0), (1, .int a1), (3, .int a3)] rfl (Nat.le_of_ble_eq_true rfl) rfl ?_
          exact v_sub [1, 2, 0, 3] rfl (w_X10_fitting_85 ih h)
      · have h := itn h c8
        refine v_goto (dq D_X10_fitting 43 rfl) rfl ?_
        exact w_X10_fitting_160 ih h
theorem w_X10_fitting_29 {sa : Env3} : ∀ (n : Nat) {a0 : Nat} {a1 : Int32} {a2 : Int32} {a3 : Int32} {σ : St} {r : Int32 × St}, f_X10_fitting_29 n a0 a1 a2 a3 σ = some r → VV sa cX10_fitting K_X10_fitting 29 [(0, .ref a0), (1, .int a1), (2, .int a2), (3, .int a3)] [] σ (pO r) 0 0 := by
  intro n
  induction n with
  | zero => intro a0 a1 a2 a3 σ r h; cases h
  | succ n ih =>
    intro a0 a1 a2 a3 σ r h
    rw [e_X10_fitting_29] at h
    refine v_iload_n (dq D_X10_fitting 19 rfl) 3 rfl ?_
    refine v_iconst (dq D_X10_fitting 20 rfl) kc_4 ?_
    refine v_icmp_ge (dq D_X10_fitting 21 rfl) rfl (fun c1 => ?_) (fun c1 => ?_)
    · have h := itp h c1
      refine v_iconst (dq D_X10_fitting 29 rfl) kc_0 ?_
      refine v_istore_n (dq D_X10_fitting 30 rfl) [(3, .int 0), (0, .ref a0), (1, .int a1), (2, .int a2)] rfl (Nat.le_of_ble_eq_true rfl) rfl ?_
      exact v_sub [1, 2, 3, 0] rfl (w_X10_fitting_49 _ h)
    · have h := itn h c1
      refine v_aload_n (dq D_X10_fitting 22 rfl) 0 rfl ?_
      obtain ⟨x2, hx2, h⟩ := obi h
      refine v_gR (dq D_X10_fitting 23 rfl) fa_RX10_33 hx2 ?_
      refine v_iload_n (dq D_X10_fitting 24 rfl) 3 rfl ?_
      refine v_iconst (dq D_X10_fitting 25 rfl) kc_0 ?_
      obtain ⟨σ3, hσ3, h⟩ := obi h
      refine v_iast (dq D_X10_fitting 26 rfl) hσ3 ?_
      refine v_iinc (dq D_X10_fitting 27 rfl) 3 [(3, .int (a3 + 1)), (0, .ref a0), (1, .int a1), (2, .int a2)] rfl kc_1 (Nat.le_of_ble_eq_true rfl) rfl ?_
      refine v_goto (dq D_X10_fitting 28 rfl) rfl ?_
      exact v_sub [1, 2, 3, 0] rfl (ih h)
theorem w_X10_fitting_0 {sa : Env3} {a0 : Nat} {a1 : Int32} {σ : St} {r : Int32 × St} (h : f_X10_fitting_0 a0 a1 σ = some r) : VV sa cX10_fitting K_X10_fitting 0 [(0, .ref a0), (1, .int a1)] [] σ (pO r) 0 0 := by
  unfold f_X10_fitting_0 at h
  refine v_aload_n (dq D_X10_fitting 0 rfl) 0 rfl ?_
  refine v_iconst (dq D_X10_fitting 1 rfl) kc_0 ?_
  obtain ⟨σ1, hσ1, h⟩ := obi h
  refine v_pI (dq D_X10_fitting 2 rfl) fp_RX10_424 hσ1 ?_
  refine v_aload_n (dq D_X10_fitting 3 rfl) 0 rfl ?_
  refine v_iconst (dq D_X10_fitting 4 rfl) kc_0 ?_
  obtain ⟨σ2, hσ2, h⟩ := obi h
  refine v_pI (dq D_X10_fitting 5 rfl) fp_RX10_427 hσ2 ?_
  refine v_aload_n (dq D_X10_fitting 6 rfl) 0 rfl ?_
  refine v_iconst (dq D_X10_fitting 7 rfl) kc_1 ?_
  refine v_aload_n (dq D_X10_fitting 8 rfl) 0 rfl ?_
  obtain ⟨x3, hx3, h⟩ := obi h
  refine v_gR (dq D_X10_fitting 9 rfl) fa_RX10_266 hx3 ?_
  obtain ⟨x4, hx4, h⟩ := obi h
  refine v_gI (dq D_X10_fitting 10 rfl) fa_RX10_234 hx4 ?_
  refine v_ishl (dq D_X10_fitting 11 rfl) ?_
  refine v_iconst (dq D_X10_fitting 12 rfl) kc_1 ?_
  refine v_isub (dq D_X10_fitting 13 rfl) ?_
  obtain ⟨σ5, hσ5, h⟩ := obi h
  refine v_pI (dq D_X10_fitting 14 rfl) fp_RX10_430 hσ5 ?_
  refine v_iconst (dq D_X10_fitting 15 rfl) kc_m1 ?_
  refine v_istore_n (dq D_X10_fitting 16 rfl) [(2, .int (-1)), (0, .ref a0), (1, .int a1)] rfl (Nat.le_of_ble_eq_true rfl) rfl ?_
  refine v_iconst (dq D_X10_fitting 17 rfl) kc_0 ?_
  refine v_istore_n (dq D_X10_fitting 18 rfl) [(3, .int 0), (2, .int (-1)), (0, .ref a0), (1, .int a1)] rfl (Nat.le_of_ble_eq_true rfl) rfl ?_
  exact v_sub [2, 3, 1, 0] rfl (w_X10_fitting_29 _ h)
theorem m_X10_fitting {sa : Env3} {a0 : Nat} {a1 : Int32} {σ : St} {r : Int32 × St} (h : f_X10_fitting a0 a1 σ = some r) : Ex sa yX10_fitting cX10_fitting K_X10_fitting [.ref a0, .int a1] σ (pO r) := Ex.of (by decide) rfl (fun q => nomatch q) (Nat.le_of_ble_eq_true rfl) (w_X10_fitting_0 (itg h).2)
theorem w_X10_asks_106 {sa : Env3} {a1 : Int32} {σ : St} {r : Int32 × St} (h : f_X10_asks_106 a1 σ = some r) : VV sa cX10_asks K_X10_asks 106 [(1, .int a1)] [] σ (pO r) 0 0 := by
  unfold f_X10_asks_106 at h
  refine v_iload_n (dq D_X10_asks 59 rfl) 0 rfl ?_
  obtain rfl := Option.some.inj h
  exact v_iret (dq D_X10_asks 60 rfl) rfl ⟨rfl, rfl⟩
theorem w_X10_asks_100 {sa : Env3} {k17 : Nat → Int32 → Int32 → St → Option (Int32 × St)} (hk17 : ∀ {a0 : Nat} {a1 : Int32} {a2 : Int32} {σ : St} {r : Int32 × St}, k17 a0 a1 a2 σ = some r → VV sa cX10_asks K_X10_asks 17 [(0, .ref a0), (1, .int a1), (2, .int a2)] [] σ (pO r) 0 0) {a0 : Nat} {a1 : Int32} {a2 : Int32} {σ : St} {r : Int32 × St} (h : f_X10_asks_100 k17 a0 a1 a2 σ = some r) : VV sa cX10_asks K_X10_asks 100 [(0, .ref a0), (1, .int a1), (2, .int a2)] [] σ (pO r) 0 0 := by
  unfold f_X10_asks_100 at h
  refine v_iinc (dq D_X10_asks 57 rfl) 2 [(2, .int (a2 + 1)), (0, .ref a0), (1, .int a1)] rfl kc_1 (Nat.le_of_ble_eq_true rfl) rfl ?_
  refine v_goto (dq D_X10_asks 58 rfl) rfl ?_
  exact v_sub [1, 2, 0] rfl (hk17 h)
theorem w_X10_asks_93 {sa : Env3} {k17 : Nat → Int32 → Int32 → St → Option (Int32 × St)} (hk17 : ∀ {a0 : Nat} {a1 : Int32} {a2 : Int32} {σ : St} {r : Int32 × St}, k17 a0 a1 a2 σ = some r → VV sa cX10_asks K_X10_asks 17 [(0, .ref a0), (1, .int a1), (2, .int a2)] [] σ (pO r) 0 0) {a0 : Nat} {a2 : Int32} {a3 : Int32} {σ : St} {r : Int32 × St} (h : f_X10_asks_93 k17 a0 a2 a3 σ = some r) : VV sa cX10_asks K_X10_asks 93 [(0, .ref a0), (2, .int a2), (3, .int a3)] [] σ (pO r) 0 0 := by
  unfold f_X10_asks_93 at h
  refine v_iload_n (dq D_X10_asks 52 rfl) 1 rfl ?_
  refine v_istore_n (dq D_X10_asks 53 rfl) [(1, .int a2), (0, .ref a0), (2, .int a2), (3, .int a3)] rfl (Nat.le_of_ble_eq_true rfl) rfl ?_
  refine v_aload_n (dq D_X10_asks 54 rfl) 1 rfl ?_
  refine v_iload_n (dq D_X10_asks 55 rfl) 3 rfl ?_
  obtain ⟨σ1, hσ1, h⟩ := obi h
  refine v_pI (dq D_X10_asks 56 rfl) fp_RX10_439 hσ1 ?_
  exact v_sub [1, 0, 2] rfl (w_X10_asks_100 hk17 h)
theorem w_X10_asks_75 {sa : Env3} {k17 : Nat → Int32 → Int32 → St → Option (Int32 × St)} (hk17 : ∀ {a0 : Nat} {a1 : Int32} {a2 : Int32} {σ : St} {r : Int32 × St}, k17 a0 a1 a2 σ = some r → VV sa cX10_asks K_X10_asks 17 [(0, .ref a0), (1, .int a1), (2, .int a2)] [] σ (pO r) 0 0) {a0 : Nat} {a1 : Int32} {a2 : Int32} {s0 : Int32} {σ : St} {r : Int32 × St} (h : f_X10_asks_75 k17 a0 a1 a2 s0 σ = some r) : VV sa cX10_asks K_X10_asks 75 [(0, .ref a0), (1, .int a1), (2, .int a2)] [.int s0] σ (pO r) 0 0 := by
  unfold f_X10_asks_75 at h
  refine v_istore_n (dq D_X10_asks 43 rfl) [(3, .int s0), (0, .ref a0), (1, .int a1), (2, .int a2)] rfl (Nat.le_of_ble_eq_true rfl) rfl ?_
  refine v_iload_n (dq D_X10_asks 44 rfl) 2 rfl ?_
  refine v_bipush (dq D_X10_asks 45 rfl) kb_m2 ?_
  refine v_icmp_eq (dq D_X10_asks 46 rfl) rfl (fun c1 => ?_) (fun c1 => ?_)
  · have h := itp h c1
    exact v_sub [1, 3, 0] rfl (w_X10_asks_93 hk17 h)
  · have h := itn h c1
    refine v_iload_n (dq D_X10_asks 47 rfl) 0 rfl ?_
    refine v_aload_n (dq D_X10_asks 48 rfl) 1 rfl ?_
    obtain ⟨x2, hx2, h⟩ := obi h
    refine v_gI (dq D_X10_asks 49 rfl) fa_RX10_439 hx2 ?_
    refine v_icmp_lt (dq D_X10_asks 50 rfl) rfl (fun c3 => ?_) (fun c3 => ?_)
    · have h := itp h c3
      exact v_sub [1, 3, 0] rfl (w_X10_asks_93 hk17 h)
    · have h := itn h c3
      refine v_goto (dq D_X10_asks 51 rfl) rfl ?_
      exact v_sub [1, 2, 3] rfl (w_X10_asks_100 hk17 h)
theorem w_X10_asks_17 {sa : Env3} : ∀ (n : Nat) {a0 : Nat} {a1 : Int32} {a2 : Int32} {σ : St} {r : Int32 × St}, f_X10_asks_17 n a0 a1 a2 σ = some r → VV sa cX10_asks K_X10_asks 17 [(0, .ref a0), (1, .int a1), (2, .int a2)] [] σ (pO r) 0 0 := by
  intro n
  induction n with
  | zero => intro a0 a1 a2 σ r h; cases h
  | succ n ih =>
    intro a0 a1 a2 σ r h
    rw [e_X10_asks_17] at h
    refine v_iload_n (dq D_X10_asks 11 rfl) 2 rfl ?_
    refine v_aload_n (dq D_X10_asks 12 rfl) 0 rfl ?_
    obtain ⟨x1, hx1, h⟩ := obi h
    refine v_gR (dq D_X10_asks 13 rfl) fa_RX10_266 hx1 ?_
    obtain ⟨x2, hx2, h⟩ := obi h
    refine v_gI (dq D_X10_asks 14 rfl) fa_RX10_234 hx2 ?_
    refine v_icmp_ge (dq D_X10_asks 15 rfl) rfl (fun c3 => ?_) (fun c3 => ?_)
    · have h := itp h c3
      exact v_sub [1] rfl (w_X10_asks_106 h)
    · have h := itn h c3
      refine v_aload_n (dq D_X10_asks 16 rfl) 0 rfl ?_
      obtain ⟨x4, hx4, h⟩ := obi h
      refine v_gI (dq D_X10_asks 17 rfl) fa_RX10_424 hx4 ?_
      refine v_if_le (dq D_X10_asks 18 rfl) rfl (fun c5 => ?_) (fun c5 => ?_)
      · have h := itp h c5
        exact v_sub [1] rfl (w_X10_asks_106 h)
      · have h := itn h c5
        refine v_aload_n (dq D_X10_asks 19 rfl) 0 rfl ?_
        obtain ⟨x6, hx6, h⟩ := obi h
        refine v_gR (dq D_X10_asks 20 rfl) fa_RX10_33 hx6 ?_
        refine v_iload_n (dq D_X10_asks 21 rfl) 2 rfl ?_
        obtain ⟨x7, hx7, h⟩ := obi h
        refine v_iald (dq D_X10_asks 22 rfl) hx7 ?_
        refine v_aload_n (dq D_X10_asks 23 rfl) 0 rfl ?_
        obtain ⟨x8, hx8, h⟩ := obi h
        refine v_gI (dq D_X10_asks 24 rfl) fa_RX10_424 hx8 ?_
        refine v_aload_n (dq D_X10_asks 25 rfl) 0 rfl ?_
        obtain ⟨x9, hx9, h⟩ := obi h
        refine v_gR (dq D_X10_asks 26 rfl) fa_RX10_33 hx9 ?_
        refine v_iload_n (dq D_X10_asks 27 rfl) 2 rfl ?_
        obtain ⟨x10, hx10, h⟩ := obi h
        refine v_iald (dq D_X10_asks 28 rfl) hx10 ?_
        refine v_isub (dq D_X10_asks 29 rfl) ?_
        refine v_icmp_le (dq D_X10_asks 30 rfl) rfl (fun c11 => ?_) (fun c11 => ?_)
        · have h := itp h c11
          refine v_aload_n (dq D_X10_asks 36 rfl) 0 rfl ?_
          obtain ⟨x12, hx12, h⟩ := obi h
          refine v_gI (dq D_X10_asks 37 rfl) fa_RX10_424 hx12 ?_
          refine v_aload_n (dq D_X10_asks 38 rfl) 0 rfl ?_
          obtain ⟨x13, hx13, h⟩ := obi h
          refine v_gR (dq D_X10_asks 39 rfl) fa_RX10_33 hx13 ?_
          refine v_iload_n (dq D_X10_asks 40 rfl) 2 rfl ?_
          obtain ⟨x14, hx14, h⟩ := obi h
          refine v_iald (dq D_X10_asks 41 rfl) hx14 ?_
          refine v_isub (dq D_X10_asks 42 rfl) ?_
          exact w_X10_asks_75 ih h
        · have h := itn h c11
          refine v_aload_n (dq D_X10_asks 31 rfl) 0 rfl ?_
          obtain ⟨x15, hx15, h⟩ := obi h
          refine v_gR (dq D_X10_asks 32 rfl) fa_RX10_33 hx15 ?_
          refine v_iload_n (dq D_X10_asks 33 rfl) 2 rfl ?_
          obtain ⟨x16, hx16, h⟩ := obi h
          refine v_iald (dq D_X10_asks 34 rfl) hx16 ?_
          refine v_goto (dq D_X10_asks 35 rfl) rfl ?_
          exact w_X10_asks_75 ih h
theorem w_X10_asks_0 {sa : Env3} {a0 : Nat} {σ : St} {r : Int32 × St} (h : f_X10_asks_0 a0 σ = some r) : VV sa cX10_asks K_X10_asks 0 [(0, .ref a0)] [] σ (pO r) 0 0 := by
  unfold f_X10_asks_0 at h
  refine v_aload_n (dq D_X10_asks 0 rfl) 0 rfl ?_
  refine v_iconst (dq D_X10_asks 1 rfl) kc_m1 ?_
  obtain ⟨q1, hq1, h⟩ := obi h
  refine v_cVi (bc := 0) (bs := 0) (As := [.int (-1)]) (dq D_X10_asks 2 rfl) cv_X10_fitting ml_RX10_436 (itg hq1).1 (m_X10_fitting hq1) rfl rfl (Nat.le_of_ble_eq_true rfl) ⟨Nat.le_of_ble_eq_true rfl, Nat.le_of_ble_eq_true rfl⟩ ⟨Nat.le_of_ble_eq_true rfl, Nat.le_of_ble_eq_true rfl⟩ ?_
  refine v_pop (dq D_X10_asks 3 rfl) rfl ?_
  refine v_bipush (dq D_X10_asks 4 rfl) kb_m2 ?_
  refine v_istore_n (dq D_X10_asks 5 rfl) [(1, .int (-2)), (0, .ref a0)] rfl (Nat.le_of_ble_eq_true rfl) rfl ?_
  refine v_aload_n (dq D_X10_asks 6 rfl) 1 rfl ?_
  refine v_bipush (dq D_X10_asks 7 rfl) kb_m2 ?_
  obtain ⟨σ2, hσ2, h⟩ := obi h
  refine v_pI (dq D_X10_asks 8 rfl) fp_RX10_439 hσ2 ?_
  refine v_iconst (dq D_X10_asks 9 rfl) kc_0 ?_
  refine v_istore_n (dq D_X10_asks 10 rfl) [(2, .int 0), (1, .int (-2)), (0, .ref a0)] rfl (Nat.le_of_ble_eq_true rfl) rfl ?_
  exact v_sub [2, 1, 0] rfl (w_X10_asks_17 _ h)
theorem m_X10_asks {sa : Env3} {a0 : Nat} {σ : St} {r : Int32 × St} (h : f_X10_asks a0 σ = some r) : Ex sa yX10_asks cX10_asks K_X10_asks [.ref a0] σ (pO r) := Ex.of (by decide) rfl (fun q => nomatch q) (Nat.le_of_ble_eq_true rfl) (w_X10_asks_0 (itg h).2)
theorem w_X10_ask_28 {sa : Env3} {s0 : Int32} {σ : St} {r : Int32 × St} (h : f_X10_ask_28 s0 σ = some r) : VV sa cX10_ask K_X10_ask 28 [] [.int s0] σ (pO r) 0 0 := by
  unfold f_X10_ask_28 at h
  obtain rfl := Option.some.inj h
  exact v_iret (dq D_X10_ask 14 rfl) rfl ⟨rfl, rfl⟩
theorem w_X10_ask_0 {sa : Env3} {a0 : Nat} {σ : St} {r : Int32 × St} (h : f_X10_ask_0 a0 σ = some r) : VV sa cX10_ask K_X10_ask 0 [(0, .ref a0)] [] σ (pO r) 0 0 := by
  unfold f_X10_ask_0 at h
  refine v_aload_n (dq D_X10_ask 0 rfl) 0 rfl ?_
  refine v_iconst (dq D_X10_ask 1 rfl) kc_0 ?_
  obtain ⟨σ1, hσ1, h⟩ := obi h
  refine v_pI (dq D_X10_ask 2 rfl) fp_RX10_36 hσ1 ?_
  refine v_aload_n (dq D_X10_ask 3 rfl) 0 rfl ?_
  obtain ⟨x2, hx2, h⟩ := obi h
  refine v_gQ (dq D_X10_ask 4 rfl) fa_RX10_266 hx2 ?_
  rcases oc_inv h with ⟨rfl, h⟩ | ⟨b3, rfl, h⟩
  · refine v_ifnonnullN (dq D_X10_ask 5 rfl) ?_
    refine v_aload_n (dq D_X10_ask 6 rfl) 0 rfl ?_
    refine v_iconst (dq D_X10_ask 7 rfl) kc_1 ?_
    obtain ⟨q4, hq4, h⟩ := obi h
    refine v_cVi (bc := 0) (bs := 0) (As := [.int 1]) (dq D_X10_ask 8 rfl) cv_X10_refused ml_RX10_42 (itg hq4).1 (m_X10_refused hq4) rfl rfl (Nat.le_of_ble_eq_true rfl) ⟨Nat.le_of_ble_eq_true rfl, Nat.le_of_ble_eq_true rfl⟩ ⟨Nat.le_of_ble_eq_true rfl, Nat.le_of_ble_eq_true rfl⟩ ?_
    refine v_goto (dq D_X10_ask 9 rfl) rfl ?_
    exact v_sub [] rfl (w_X10_ask_28 h)
  · refine v_ifnonnullR (dq D_X10_ask 5 rfl) rfl ?_
    refine v_aload_n (dq D_X10_ask 10 rfl) 0 rfl ?_
    refine v_aload_n (dq D_X10_ask 11 rfl) 0 rfl ?_
    obtain ⟨q5, hq5, h⟩ := obi h
    refine v_cVi (bc := 0) (bs := 0) (As := []) (dq D_X10_ask 12 rfl) cv_X10_asks ml_RX10_442 (itg hq5).1 (m_X10_asks hq5) rfl rfl (Nat.le_of_ble_eq_true rfl) ⟨Nat.le_of_ble_eq_true rfl, Nat.le_of_ble_eq_true rfl⟩ ⟨Nat.le_of_ble_eq_true rfl, Nat.le_of_ble_eq_true rfl⟩ ?_
    obtain ⟨q6, hq6, h⟩ := obi h
    refine v_cVi (bc := 0) (bs := 0) (As := [.int q5.1]) (dq D_X10_ask 13 rfl) cv_X10_good ml_RX10_46 (itg hq6).1 (m_X10_good hq6) rfl rfl (Nat.le_of_ble_eq_true rfl) ⟨Nat.le_of_ble_eq_true rfl, Nat.le_of_ble_eq_true rfl⟩ ⟨Nat.le_of_ble_eq_true rfl, Nat.le_of_ble_eq_true rfl⟩ ?_
    exact v_sub [] rfl (w_X10_ask_28 h)
theorem m_X10_ask {sa : Env3} {a0 : Nat} {σ : St} {r : Int32 × St} (h : f_X10_ask a0 σ = some r) : Ex sa yX10_ask cX10_ask K_X10_ask [.ref a0] σ (pO r) := Ex.of (by decide) rfl (fun q => nomatch q) (Nat.le_of_ble_eq_true rfl) (w_X10_ask_0 (itg h).2)
theorem w_X10_askLeaves_0 {sa : Env3} {a0 : Nat} {σ : St} {r : Int32 × St} (h : f_X10_askLeaves_0 a0 σ = some r) : VV sa cX10_askLeaves K_X10_askLeaves 0 [(0, .ref a0)] [] σ (pO r) 0 0 := by
  unfold f_X10_askLeaves_0 at h
  refine v_aload_n (dq D_X10_askLeaves 0 rfl) 0 rfl ?_
  refine v_iconst (dq D_X10_askLeaves 1 rfl) kc_0 ?_
  obtain ⟨σ1, hσ1, h⟩ := obi h
  refine v_pI (dq D_X10_askLeaves 2 rfl) fp_RX10_36 hσ1 ?_
  refine v_aload_n (dq D_X10_askLeaves 3 rfl) 0 rfl ?_
  obtain ⟨x2, hx2, h⟩ := obi h
  refine v_gQ (dq D_X10_askLeaves 4 rfl) fa_RX10_266 hx2 ?_
  rcases oc_inv h with ⟨rfl, h⟩ | ⟨b3, rfl, h⟩
  · refine v_ifnonnullN (dq D_X10_askLeaves 5 rfl) ?_
    refine v_aload_n (dq D_X10_askLeaves 6 rfl) 0 rfl ?_
    refine v_iconst (dq D_X10_askLeaves 7 rfl) kc_1 ?_
    obtain ⟨q4, hq4, h⟩ := obi h
    refine v_cVi (bc := 0) (bs := 0) (As := [.int 1]) (dq D_X10_askLeaves 8 rfl) cv_X10_refused ml_RX10_42 (itg hq4).1 (m_X10_refused hq4) rfl rfl (Nat.le_of_ble_eq_true rfl) ⟨Nat.le_of_ble_eq_true rfl, Nat.le_of_ble_eq_true rfl⟩ ⟨Nat.le_of_ble_eq_true rfl, Nat.le_of_ble_eq_true rfl⟩ ?_
    obtain rfl := Option.some.inj h
    exact v_iret (dq D_X10_askLeaves 9 rfl) rfl ⟨rfl, rfl⟩
  · refine v_ifnonnullR (dq D_X10_askLeaves 5 rfl) rfl ?_
    refine v_aload_n (dq D_X10_askLeaves 10 rfl) 0 rfl ?_
    obtain ⟨q5, hq5, h⟩ := obi h
    refine v_cVi (bc := 0) (bs := 0) (As := []) (dq D_X10_askLeaves 11 rfl) cv_X10_asks ml_RX10_442 (itg hq5).1 (m_X10_asks hq5) rfl rfl (Nat.le_of_ble_eq_true rfl) ⟨Nat.le_of_ble_eq_true rfl, Nat.le_of_ble_eq_true rfl⟩ ⟨Nat.le_of_ble_eq_true rfl, Nat.le_of_ble_eq_true rfl⟩ ?_
    refine v_pop (dq D_X10_askLeaves 12 rfl) rfl ?_
    refine v_aload_n (dq D_X10_askLeaves 13 rfl) 0 rfl ?_
    refine v_aload_n (dq D_X10_askLeaves 14 rfl) 0 rfl ?_
    obtain ⟨x6, hx6, h⟩ := obi h
    refine v_gI (dq D_X10_askLeaves 15 rfl) fa_RX10_439 hx6 ?_
    obtain ⟨q7, hq7, h⟩ := obi h
    refine v_cVi (bc := 0) (bs := 0) (As := [.int x6]) (dq D_X10_askLeaves 16 rfl) cv_X10_good ml_RX10_46 (itg hq7).1 (m_X10_good hq7) rfl rfl (Nat.le_of_ble_eq_true rfl) ⟨Nat.le_of_ble_eq_true rfl, Nat.le_of_ble_eq_true rfl⟩ ⟨Nat.le_of_ble_eq_true rfl, Nat.le_of_ble_eq_true rfl⟩ ?_
    obtain rfl := Option.some.inj h
    exact v_iret (dq D_X10_askLeaves 17 rfl) rfl ⟨rfl, rfl⟩
theorem m_X10_askLeaves {sa : Env3} {a0 : Nat} {σ : St} {r : Int32 × St} (h : f_X10_askLeaves a0 σ = some r) : Ex sa yX10_askLeaves cX10_askLeaves K_X10_askLeaves [.ref a0] σ (pO r) := Ex.of (by decide) rfl (fun q => nomatch q) (Nat.le_of_ble_eq_true rfl) (w_X10_askLeaves_0 (itg h).2)
theorem w_X10_denied_0 {sa : Env3} {a0 : Nat} {a1 : Int32} {σ : St} {r : Int32 × St} (h : f_X10_denied_0 a0 a1 σ = some r) : VV sa cX10_denied K_X10_denied 0 [(0, .ref a0), (1, .int a1)] [] σ (pO r) 0 0 := by
  unfold f_X10_denied_0 at h
  refine v_aload_n (dq D_X10_denied 0 rfl) 0 rfl ?_
  refine v_iload_n (dq D_X10_denied 1 rfl) 1 rfl ?_
  obtain ⟨q1, hq1, h⟩ := obi h
  refine v_cVi (bc := 0) (bs := 0) (As := [.int a1]) (dq D_X10_denied 2 rfl) cv_X10_refused ml_RX10_42 (itg hq1).1 (m_X10_refused hq1) rfl rfl (Nat.le_of_ble_eq_true rfl) ⟨Nat.le_of_ble_eq_true rfl, Nat.le_of_ble_eq_true rfl⟩ ⟨Nat.le_of_ble_eq_true rfl, Nat.le_of_ble_eq_true rfl⟩ ?_
  refine v_pop (dq D_X10_denied 3 rfl) rfl ?_
  refine v_iconst (dq D_X10_denied 4 rfl) kc_0 ?_
  obtain rfl := Option.some.inj h
  exact v_zret (dq D_X10_denied 5 rfl) rfl rfl ⟨rfl, rfl⟩
theorem m_X10_denied {sa : Env3} {a0 : Nat} {a1 : Int32} {σ : St} {r : Int32 × St} (h : f_X10_denied a0 a1 σ = some r) : Ex sa yX10_denied cX10_denied K_X10_denied [.ref a0, .int a1] σ (pO r) := Ex.of (by decide) rfl (fun q => nomatch q) (Nat.le_of_ble_eq_true rfl) (w_X10_denied_0 (itg h).2)
theorem w_X10_granted_0 {sa : Env3} {a0 : Nat} {σ : St} {r : Int32 × St} (h : f_X10_granted_0 a0 σ = some r) : VV sa cX10_granted K_X10_granted 0 [(0, .ref a0)] [] σ (pO r) 0 0 := by
  unfold f_X10_granted_0 at h
  refine v_aload_n (dq D_X10_granted 0 rfl) 0 rfl ?_
  refine v_iconst (dq D_X10_granted 1 rfl) kc_0 ?_
  obtain ⟨q1, hq1, h⟩ := obi h
  refine v_cVi (bc := 0) (bs := 0) (As := [.int 0]) (dq D_X10_granted 2 rfl) cv_X10_good ml_RX10_46 (itg hq1).1 (m_X10_good hq1) rfl rfl (Nat.le_of_ble_eq_true rfl) ⟨Nat.le_of_ble_eq_true rfl, Nat.le_of_ble_eq_true rfl⟩ ⟨Nat.le_of_ble_eq_true rfl, Nat.le_of_ble_eq_true rfl⟩ ?_
  refine v_pop (dq D_X10_granted 3 rfl) rfl ?_
  refine v_iconst (dq D_X10_granted 4 rfl) kc_1 ?_
  obtain rfl := Option.some.inj h
  exact v_zret (dq D_X10_granted 5 rfl) rfl rfl ⟨rfl, rfl⟩
theorem m_X10_granted {sa : Env3} {a0 : Nat} {σ : St} {r : Int32 × St} (h : f_X10_granted a0 σ = some r) : Ex sa yX10_granted cX10_granted K_X10_granted [.ref a0] σ (pO r) := Ex.of (by decide) rfl (fun q => nomatch q) (Nat.le_of_ble_eq_true rfl) (w_X10_granted_0 (itg h).2)
theorem w_X10_back_24 {sa : Env3} {a0 : Nat} {σ : St} {r : Int32 × St} (h : f_X10_back_24 a0 σ = some r) : VV sa cX10_back K_X10_back 24 [(0, .ref a0)] [] σ (pO r) 0 0 := by
  unfold f_X10_back_24 at h
  refine v_aload_n (dq D_X10_back 12 rfl) 0 rfl ?_
  refine v_iconst (dq D_X10_back 13 rfl) kc_1 ?_
  obtain ⟨q1, hq1, h⟩ := obi h
  refine v_cVi (bc := 0) (bs := 0) (As := [.int 1]) (dq D_X10_back 14 rfl) cv_X10_denied ml_RX10_474 (itg hq1).1 (m_X10_denied hq1) rfl rfl (Nat.le_of_ble_eq_true rfl) ⟨Nat.le_of_ble_eq_true rfl, Nat.le_of_ble_eq_true rfl⟩ ⟨Nat.le_of_ble_eq_true rfl, Nat.le_of_ble_eq_true rfl⟩ ?_
  have hz := (itg h).1
  have h := (itg h).2
  obtain rfl := Option.some.inj h
  exact v_zret (dq D_X10_back 15 rfl) rfl (z_nar hz) ⟨rfl, rfl⟩
theorem w_X10_back_32 {sa : Env3} : ∀ (n : Nat) {a0 : Nat} {a1 : Int32} {a2 : Int32} {σ : St} {r : Int32 × St}, f_X10_back_32 n a0 a1 a2 σ = some r → VV sa cX10_back K_X10_back 32 [(0, .ref a0), (1, .int a1), (2, .int a2)] [] σ (pO r) 0 0 := by
  intro n
  induction n with
  | zero => intro a0 a1 a2 σ r h; cases h
  | succ n ih =>
    intro a0 a1 a2 σ r h
    rw [e_X10_back_32] at h
    refine v_iload_n (dq D_X10_back 18 rfl) 2 rfl ?_
    refine v_sipush (dq D_X10_back 19 rfl) ks_195 ?_
    refine v_icmp_ge (dq D_X10_back 20 rfl) rfl (fun c1 => ?_) (fun c1 => ?_)
    · have h := itp h c1
      refine v_aload_n (dq D_X10_back 35 rfl) 0 rfl ?_
      refine v_iconst (dq D_X10_back 36 rfl) kc_0 ?_
      obtain ⟨σ2, hσ2, h⟩ := obi h
      refine v_pI (dq D_X10_back 37 rfl) fp_RX10_274 hσ2 ?_
      refine v_aload_n (dq D_X10_back 38 rfl) 0 rfl ?_
      obtain ⟨q3, hq3, h⟩ := obi h
      refine v_cVi (bc := 0) (bs := 0) (As := []) (dq D_X10_back 39 rfl) cv_X10_granted ml_RX10_477 (itg hq3).1 (m_X10_granted hq3) rfl rfl (Nat.le_of_ble_eq_true rfl) ⟨Nat.le_of_ble_eq_true rfl, Nat.le_of_ble_eq_true rfl⟩ ⟨Nat.le_of_ble_eq_true rfl, Nat.le_of_ble_eq_true rfl⟩ ?_
      have hz := (itg h).1
      have h := (itg h).2
      obtain rfl := Option.some.inj h
      exact v_zret (dq D_X10_back 40 rfl) rfl (z_nar hz) ⟨rfl, rfl⟩
    · have h := itn h c1
      refine v_aload_n (dq D_X10_back 21 rfl) 0 rfl ?_
      obtain ⟨x4, hx4, h⟩ := obi h
      refine v_gR (dq D_X10_back 22 rfl) fa_RX10_21 hx4 ?_
      refine v_iload_n (dq D_X10_back 23 rfl) 2 rfl ?_
      refine v_aload_n (dq D_X10_back 24 rfl) 0 rfl ?_
      obtain ⟨x5, hx5, h⟩ := obi h
      refine v_gR (dq D_X10_back 25 rfl) fa_RX10_30 hx5 ?_
      refine v_sipush (dq D_X10_back 26 rfl) ks_195 ?_
      refine v_iload_n (dq D_X10_back 27 rfl) 1 rfl ?_
      refine v_imul (dq D_X10_back 28 rfl) ?_
      refine v_iload_n (dq D_X10_back 29 rfl) 2 rfl ?_
      refine v_iadd (dq D_X10_back 30 rfl) ?_
      obtain ⟨x6, hx6, h⟩ := obi h
      refine v_iald (dq D_X10_back 31 rfl) hx6 ?_
      obtain ⟨σ7, hσ7, h⟩ := obi h
      refine v_iast (dq D_X10_back 32 rfl) hσ7 ?_
      refine v_iinc (dq D_X10_back 33 rfl) 2 [(2, .int (a2 + 1)), (0, .ref a0), (1, .int a1)] rfl kc_1 (Nat.le_of_ble_eq_true rfl) rfl ?_
      refine v_goto (dq D_X10_back 34 rfl) rfl ?_
      exact v_sub [1, 2, 0] rfl (ih h)
theorem w_X10_back_0 {sa : Env3} {a0 : Nat} {a1 : Int32} {σ : St} {r : Int32 × St} (h : f_X10_back_0 a0 a1 σ = some r) : VV sa cX10_back K_X10_back 0 [(0, .ref a0), (1, .int a1)] [] σ (pO r) 0 0 := by
  unfold f_X10_back_0 at h
  refine v_aload_n (dq D_X10_back 0 rfl) 0 rfl ?_
  refine v_iconst (dq D_X10_back 1 rfl) kc_0 ?_
  obtain ⟨σ1, hσ1, h⟩ := obi h
  refine v_pI (dq D_X10_back 2 rfl) fp_RX10_36 hσ1 ?_
  refine v_aload_n (dq D_X10_back 3 rfl) 0 rfl ?_
  obtain ⟨x2, hx2, h⟩ := obi h
  refine v_gQ (dq D_X10_back 4 rfl) fa_RX10_266 hx2 ?_
  rcases oc_inv h with ⟨rfl, h⟩ | ⟨b3, rfl, h⟩
  · refine v_ifnullN (dq D_X10_back 5 rfl) rfl ?_
    exact v_sub [0] rfl (w_X10_back_24 h)
  · refine v_ifnullR (dq D_X10_back 5 rfl) ?_
    refine v_iload_n (dq D_X10_back 6 rfl) 1 rfl ?_
    refine v_if_lt (dq D_X10_back 7 rfl) rfl (fun c4 => ?_) (fun c4 => ?_)
    · have h := itp h c4
      exact v_sub [0] rfl (w_X10_back_24 h)
    · have h := itn h c4
      refine v_iload_n (dq D_X10_back 8 rfl) 1 rfl ?_
      refine v_aload_n (dq D_X10_back 9 rfl) 0 rfl ?_
      obtain ⟨x5, hx5, h⟩ := obi h
      refine v_gI (dq D_X10_back 10 rfl) fa_RX10_277 hx5 ?_
      refine v_icmp_lt (dq D_X10_back 11 rfl) rfl (fun c6 => ?_) (fun c6 => ?_)
      · have h := itp h c6
        refine v_iconst (dq D_X10_back 16 rfl) kc_0 ?_
        refine v_istore_n (dq D_X10_back 17 rfl) [(2, .int 0), (0, .ref a0), (1, .int a1)] rfl (Nat.le_of_ble_eq_true rfl) rfl ?_
        exact v_sub [1, 2, 0] rfl (w_X10_back_32 _ h)
      · have h := itn h c6
        exact v_sub [0] rfl (w_X10_back_24 h)
theorem m_X10_back {sa : Env3} {a0 : Nat} {a1 : Int32} {σ : St} {r : Int32 × St} (h : f_X10_back a0 a1 σ = some r) : Ex sa yX10_back cX10_back K_X10_back [.ref a0, .int a1] σ (pO r) := Ex.of (by decide) rfl (fun q => nomatch q) (Nat.le_of_ble_eq_true rfl) (w_X10_back_0 (itg h).2)
theorem w_X10_bits_4 {sa : Env3} : ∀ (n : Nat) {a1 : Int32} {a2 : Int32} {σ : St} {r : Int32 × St}, f_X10_bits_4 n a1 a2 σ = some r → VV sa cX10_bits K_X10_bits 4 [(1, .int a1), (2, .int a2)] [] σ (pO r) 0 0 := by
  intro n
  induction n with
  | zero => intro a1 a2 σ r h; cases h
  | succ n ih =>
    intro a1 a2 σ r h
    rw [e_X10_bits_4] at h
    refine v_iload_n (dq D_X10_bits 4 rfl) 1 rfl ?_
    refine v_if_eq (dq D_X10_bits 5 rfl) rfl (fun c1 => ?_) (fun c1 => ?_)
    · have h := itp h c1
      refine v_iload_n (dq D_X10_bits 14 rfl) 0 rfl ?_
      obtain rfl := Option.some.inj h
      exact v_iret (dq D_X10_bits 15 rfl) rfl ⟨rfl, rfl⟩
    · have h := itn h c1
      refine v_iinc (dq D_X10_bits 6 rfl) 0 [(1, .int (a1 + 1)), (2, .int a2)] rfl kc_1 (Nat.le_of_ble_eq_true rfl) rfl ?_
      refine v_iload_n (dq D_X10_bits 7 rfl) 1 rfl ?_
      refine v_iload_n (dq D_X10_bits 8 rfl) 1 rfl ?_
      refine v_iconst (dq D_X10_bits 9 rfl) kc_1 ?_
      refine v_isub (dq D_X10_bits 10 rfl) ?_
      refine v_iand (dq D_X10_bits 11 rfl) ?_
      obtain ⟨x2, ex2, h⟩ := bnd_inv h
      refine v_top (congrArg Value.int ex2) ?_
      refine v_istore_n (dq D_X10_bits 12 rfl) [(2, .int x2), (1, .int (a1 + 1))] rfl (Nat.le_of_ble_eq_true rfl) rfl ?_
      refine v_goto (dq D_X10_bits 13 rfl) rfl ?_
      exact v_sub [1, 0] rfl (ih h)
theorem w_X10_bits_0 {sa : Env3} {a0 : Int32} {σ : St} {r : Int32 × St} (h : f_X10_bits_0 a0 σ = some r) : VV sa cX10_bits K_X10_bits 0 [(0, .int a0)] [] σ (pO r) 0 0 := by
  unfold f_X10_bits_0 at h
  refine v_iconst (dq D_X10_bits 0 rfl) kc_0 ?_
  refine v_istore_n (dq D_X10_bits 1 rfl) [(1, .int 0), (0, .int a0)] rfl (Nat.le_of_ble_eq_true rfl) rfl ?_
  refine v_iload_n (dq D_X10_bits 2 rfl) 1 rfl ?_
  refine v_istore_n (dq D_X10_bits 3 rfl) [(2, .int a0), (1, .int 0), (0, .int a0)] rfl (Nat.le_of_ble_eq_true rfl) rfl ?_
  exact v_sub [1, 0] rfl (w_X10_bits_4 _ h)
theorem m_X10_bits {sa : Env3} {a0 : Int32} {σ : St} {r : Int32 × St} (h : f_X10_bits a0 σ = some r) : Ex sa yX10_bits cX10_bits K_X10_bits [.int a0] σ (pO r) := Ex.of (by decide) rfl (fun q => nomatch q) (Nat.le_of_ble_eq_true rfl) (w_X10_bits_0 h)
theorem w_X10_byteAt_22 {sa : Env3} {s0 : Int32} {σ : St} {r : Int32 × St} (h : f_X10_byteAt_22 s0 σ = some r) : VV sa cX10_byteAt K_X10_byteAt 22 [] [.int s0] σ (pO r) 0 0 := by
  unfold f_X10_byteAt_22 at h
  obtain rfl := Option.some.inj h
  exact v_iret (dq D_X10_byteAt 12 rfl) rfl ⟨rfl, rfl⟩
theorem w_X10_byteAt_0 {sa : Env3} {a0 : Nat} {a1 : Int32} {σ : St} {r : Int32 × St} (h : f_X10_byteAt_0 a0 a1 σ = some r) : VV sa cX10_byteAt K_X10_byteAt 0 [(0, .ref a0), (1, .int a1)] [] σ (pO r) 0 0 := by
  unfold f_X10_byteAt_0 at h
  refine v_iload_n (dq D_X10_byteAt 0 rfl) 1 rfl ?_
  refine v_aload_n (dq D_X10_byteAt 1 rfl) 0 rfl ?_
  obtain ⟨x1, hx1, h⟩ := obi h
  refine v_gI (dq D_X10_byteAt 2 rfl) fa_RX10_53 hx1 ?_
  refine v_icmp_ge (dq D_X10_byteAt 3 rfl) rfl (fun c2 => ?_) (fun c2 => ?_)
  · have h := itp h c2
    refine v_iconst (dq D_X10_byteAt 11 rfl) kc_m1 ?_
    exact v_sub [] rfl (w_X10_byteAt_22 h)
  · have h := itn h c2
    refine v_aload_n (dq D_X10_byteAt 4 rfl) 0 rfl ?_
    obtain ⟨x3, hx3, h⟩ := obi h
    refine v_gR (dq D_X10_byteAt 5 rfl) fa_RX10_13 hx3 ?_
    refine v_iload_n (dq D_X10_byteAt 6 rfl) 1 rfl ?_
    obtain ⟨x4, hx4, h⟩ := obi h
    refine v_bald (dq D_X10_byteAt 7 rfl) hx4 ?_
    refine v_sipush (dq D_X10_byteAt 8 rfl) ks_255 ?_
    refine v_iand (dq D_X10_byteAt 9 rfl) ?_
    refine v_goto (dq D_X10_byteAt 10 rfl) rfl ?_
    exact v_sub [] rfl (w_X10_byteAt_22 h)
theorem m_X10_byteAt {sa : Env3} {a0 : Nat} {a1 : Int32} {σ : St} {r : Int32 × St} (h : f_X10_byteAt a0 a1 σ = some r) : Ex sa yX10_byteAt cX10_byteAt K_X10_byteAt [.ref a0, .int a1] σ (pO r) := Ex.of (by decide) rfl (fun q => nomatch q) (Nat.le_of_ble_eq_true rfl) (w_X10_byteAt_0 (itg h).2)
theorem w_X10_isCell_27 {sa : Env3} {s0 : Int32} {σ : St} {r : Int32 × St} (h : f_X10_isCell_27 s0 σ = some r) : VV sa cX10_isCell K_X10_isCell 27 [] [.int s0] σ (pO r) 0 0 := by
  unfold f_X10_isCell_27 at h
  have hz := (itg h).1
  have h := (itg h).2
  obtain rfl := Option.some.inj h
  exact v_zret (dq D_X10_isCell 13 rfl) rfl (z_nar hz) ⟨rfl, rfl⟩
theorem w_X10_isCell_26 {sa : Env3}  {σ : St} {r : Int32 × St} (h : f_X10_isCell_26  σ = some r) : VV sa cX10_isCell K_X10_isCell 26 [] [] σ (pO r) 0 0 := by
  unfold f_X10_isCell_26 at h
  refine v_iconst (dq D_X10_isCell 12 rfl) kc_0 ?_
  exact w_X10_isCell_27 h
theorem w_X10_isCell_0 {sa : Env3} {a0 : Nat} {a1 : Int32} {σ : St} {r : Int32 × St} (h : f_X10_isCell_0 a0 a1 σ = some r) : VV sa cX10_isCell K_X10_isCell 0 [(0, .ref a0), (1, .int a1)] [] σ (pO r) 0 0 := by
  unfold f_X10_isCell_0 at h
  refine v_aload_n (dq D_X10_isCell 0 rfl) 0 rfl ?_
  obtain ⟨x1, hx1, h⟩ := obi h
  refine v_gQ (dq D_X10_isCell 1 rfl) fa_RX10_266 hx1 ?_
  rcases oc_inv h with ⟨rfl, h⟩ | ⟨b2, rfl, h⟩
  · refine v_ifnullN (dq D_X10_isCell 2 rfl) rfl ?_
    exact v_sub [] rfl (w_X10_isCell_26 h)
  · refine v_ifnullR (dq D_X10_isCell 2 rfl) ?_
    refine v_iload_n (dq D_X10_isCell 3 rfl) 1 rfl ?_
    refine v_if_lt (dq D_X10_isCell 4 rfl) rfl (fun c3 => ?_) (fun c3 => ?_)
    · have h := itp h c3
      exact v_sub [] rfl (w_X10_isCell_26 h)
    · have h := itn h c3
      refine v_iload_n (dq D_X10_isCell 5 rfl) 1 rfl ?_
      refine v_aload_n (dq D_X10_isCell 6 rfl) 0 rfl ?_
      obtain ⟨x4, hx4, h⟩ := obi h
      refine v_gR (dq D_X10_isCell 7 rfl) fa_RX10_266 hx4 ?_
      obtain ⟨x5, hx5, h⟩ := obi h
      refine v_gI (dq D_X10_isCell 8 rfl) fa_RX10_134 hx5 ?_
      refine v_icmp_ge (dq D_X10_isCell 9 rfl) rfl (fun c6 => ?_) (fun c6 => ?_)
      · have h := itp h c6
        exact v_sub [] rfl (w_X10_isCell_26 h)
      · have h := itn h c6
        refine v_iconst (dq D_X10_isCell 10 rfl) kc_1 ?_
        refine v_goto (dq D_X10_isCell 11 rfl) rfl ?_
        exact v_sub [] rfl (w_X10_isCell_27 h)
theorem m_X10_isCell {sa : Env3} {a0 : Nat} {a1 : Int32} {σ : St} {r : Int32 × St} (h : f_X10_isCell a0 a1 σ = some r) : Ex sa yX10_isCell cX10_isCell K_X10_isCell [.ref a0, .int a1] σ (pO r) := Ex.of (by decide) rfl (fun q => nomatch q) (Nat.le_of_ble_eq_true rfl) (w_X10_isCell_0 (itg h).2)
theorem w_X10_isReady_25 {sa : Env3} {s0 : Int32} {σ : St} {r : Int32 × St} (h : f_X10_isReady_25 s0 σ = some r) : VV sa cX10_isReady K_X10_isReady 25 [] [.int s0] σ (pO r) 0 0 := by
  unfold f_X10_isReady_25 at h
  have hz := (itg h).1
  have h := (itg h).2
  obtain rfl := Option.some.inj h
  exact v_zret (dq D_X10_isReady 13 rfl) rfl (z_nar hz) ⟨rfl, rfl⟩
theorem w_X10_isReady_20 {sa : Env3}  {σ : St} {r : Int32 × St} (h : f_X10_isReady_20  σ = some r) : VV sa cX10_isReady K_X10_isReady 20 [] [] σ (pO r) 0 0 := by
  unfold f_X10_isReady_20 at h
  refine v_iconst (dq D_X10_isReady 10 rfl) kc_1 ?_
  refine v_goto (dq D_X10_isReady 11 rfl) rfl ?_
  exact w_X10_isReady_25 h
theorem w_X10_isReady_0 {sa : Env3} {a0 : Nat} {a1 : Int32} {σ : St} {r : Int32 × St} (h : f_X10_isReady_0 a0 a1 σ = some r) : VV sa cX10_isReady K_X10_isReady 0 [(0, .ref a0), (1, .int a1)] [] σ (pO r) 0 0 := by
  unfold f_X10_isReady_0 at h
  refine v_iload_n (dq D_X10_isReady 0 rfl) 1 rfl ?_
  refine v_bipush (dq D_X10_isReady 1 rfl) kb_m2 ?_
  refine v_icmp_eq (dq D_X10_isReady 2 rfl) rfl (fun c1 => ?_) (fun c1 => ?_)
  · have h := itp h c1
    exact v_sub [] rfl (w_X10_isReady_20 h)
  · have h := itn h c1
    refine v_aload_n (dq D_X10_isReady 3 rfl) 0 rfl ?_
    obtain ⟨x2, hx2, h⟩ := obi h
    refine v_gR (dq D_X10_isReady 4 rfl) fa_RX10_24 hx2 ?_
    refine v_bipush (dq D_X10_isReady 5 rfl) kb_33 ?_
    obtain ⟨x3, hx3, h⟩ := obi h
    refine v_iald (dq D_X10_isReady 6 rfl) hx3 ?_
    refine v_iload_n (dq D_X10_isReady 7 rfl) 1 rfl ?_
    obtain ⟨q4, hq4, h⟩ := obi h
    refine v_cSi (bc := 0) (bs := 0) (As := [.int x3, .int a1]) (dq D_X10_isReady 8 rfl) cs_X10_bit ml_RX10_280 (m_X10_bit hq4) rfl rfl (Nat.le_of_ble_eq_true rfl) ⟨Nat.le_of_ble_eq_true rfl, Nat.le_of_ble_eq_true rfl⟩ ⟨Nat.le_of_ble_eq_true rfl, Nat.le_of_ble_eq_true rfl⟩ ?_
    refine v_if_eq (dq D_X10_isReady 9 rfl) rfl (fun c5 => ?_) (fun c5 => ?_)
    · have h := itp h c5
      refine v_iconst (dq D_X10_isReady 12 rfl) kc_0 ?_
      exact v_sub [] rfl (w_X10_isReady_25 h)
    · have h := itn h c5
      exact v_sub [] rfl (w_X10_isReady_20 h)
theorem m_X10_isReady {sa : Env3} {a0 : Nat} {a1 : Int32} {σ : St} {r : Int32 × St} (h : f_X10_isReady a0 a1 σ = some r) : Ex sa yX10_isReady cX10_isReady K_X10_isReady [.ref a0, .int a1] σ (pO r) := Ex.of (by decide) rfl (fun q => nomatch q) (Nat.le_of_ble_eq_true rfl) (w_X10_isReady_0 (itg h).2)
theorem w_X10_letGoNow_26 {sa : Env3} {k4 : Nat → Int32 → Int32 → St → Option (Int32 × St)} (hk4 : ∀ {a0 : Nat} {a1 : Int32} {a2 : Int32} {σ : St} {r : Int32 × St}, k4 a0 a1 a2 σ = some r → VV sa cX10_letGoNow K_X10_letGoNow 4 [(0, .ref a0), (1, .int a1), (2, .int a2)] [] σ (pO r) 0 0) {a0 : Nat} {a2 : Int32} {s0 : Int32} {s1 : Int32} {σ : St} {r : Int32 × St} (h : f_X10_letGoNow_26 k4 a0 a2 s0 s1 σ = some r) : VV sa cX10_letGoNow K_X10_letGoNow 26 [(0, .ref a0), (2, .int a2)] [.int s1, .int s0] σ (pO r) 0 0 := by
  unfold f_X10_letGoNow_26 at h
  refine v_ior (dq D_X10_letGoNow 17 rfl) ?_
  obtain ⟨x1, ex1, h⟩ := bnd_inv h
  refine v_top (congrArg Value.int ex1) ?_
  refine v_istore_n (dq D_X10_letGoNow 18 rfl) [(1, .int x1), (0, .ref a0), (2, .int a2)] rfl (Nat.le_of_ble_eq_true rfl) rfl ?_
  refine v_iinc (dq D_X10_letGoNow 19 rfl) 2 [(2, .int (a2 + 1)), (1, .int x1), (0, .ref a0)] rfl kc_1 (Nat.le_of_ble_eq_true rfl) rfl ?_
  refine v_goto (dq D_X10_letGoNow 20 rfl) rfl ?_
  exact v_sub [2, 1, 0] rfl (hk4 h)
theorem w_X10_letGoNow_4 {sa : Env3} : ∀ (n : Nat) {a0 : Nat} {a1 : Int32} {a2 : Int32} {σ : St} {r : Int32 × St}, f_X10_letGoNow_4 n a0 a1 a2 σ = some r → VV sa cX10_letGoNow K_X10_letGoNow 4 [(0, .ref a0), (1, .int a1), (2, .int a2)] [] σ (pO r) 0 0 := by
  intro n
  induction n with
  | zero => intro a0 a1 a2 σ r h; cases h
  | succ n ih =>
    intro a0 a1 a2 σ r h
    rw [e_X10_letGoNow_4] at h
    refine v_iload_n (dq D_X10_letGoNow 4 rfl) 2 rfl ?_
    refine v_bipush (dq D_X10_letGoNow 5 rfl) kb_8 ?_
    refine v_icmp_ge (dq D_X10_letGoNow 6 rfl) rfl (fun c1 => ?_) (fun c1 => ?_)
    · have h := itp h c1
      refine v_iload_n (dq D_X10_letGoNow 21 rfl) 1 rfl ?_
      obtain rfl := Option.some.inj h
      exact v_iret (dq D_X10_letGoNow 22 rfl) rfl ⟨rfl, rfl⟩
    · have h := itn h c1
      refine v_iload_n (dq D_X10_letGoNow 7 rfl) 1 rfl ?_
      refine v_aload_n (dq D_X10_letGoNow 8 rfl) 0 rfl ?_
      refine v_iload_n (dq D_X10_letGoNow 9 rfl) 2 rfl ?_
      obtain ⟨q2, hq2, h⟩ := obi h
      refine v_cVi (bc := 0) (bs := 0) (As := [.int a2]) (dq D_X10_letGoNow 10 rfl) cv_X10_isLetGo ml_RX10_333 (itg hq2).1 (m_X10_isLetGo hq2) rfl rfl (Nat.le_of_ble_eq_true rfl) ⟨Nat.le_of_ble_eq_true rfl, Nat.le_of_ble_eq_true rfl⟩ ⟨Nat.le_of_ble_eq_true rfl, Nat.le_of_ble_eq_true rfl⟩ ?_
      refine v_if_eq (dq D_X10_letGoNow 11 rfl) rfl (fun c3 => ?_) (fun c3 => ?_)
      · have h := itp h c3
        refine v_iconst (dq D_X10_letGoNow 16 rfl) kc_0 ?_
        exact v_sub [0, 2] rfl (w_X10_letGoNow_26 ih h)
      · have h := itn h c3
        refine v_iconst (dq D_X10_letGoNow 12 rfl) kc_1 ?_
        refine v_iload_n (dq D_X10_letGoNow 13 rfl) 2 rfl ?_
        refine v_ishl (dq D_X10_letGoNow 14 rfl) ?_
        refine v_goto (dq D_X10_letGoNow 15 rfl) rfl ?_
        exact v_sub [0, 2] rfl (w_X10_letGoNow_26 ih h)
theorem w_X10_letGoNow_0 {sa : Env3} {a0 : Nat} {σ : St} {r : Int32 × St} (h : f_X10_letGoNow_0 a0 σ = some r) : VV sa cX10_letGoNow K_X10_letGoNow 0 [(0, .ref a0)] [] σ (pO r) 0 0 := by
  unfold f_X10_letGoNow_0 at h
  refine v_iconst (dq D_X10_letGoNow 0 rfl) kc_0 ?_
  refine v_istore_n (dq D_X10_letGoNow 1 rfl) [(1, .int 0), (0, .ref a0)] rfl (Nat.le_of_ble_eq_true rfl) rfl ?_
  refine v_iconst (dq D_X10_letGoNow 2 rfl) kc_0 ?_
  refine v_istore_n (dq D_X10_letGoNow 3 rfl) [(2, .int 0), (1, .int 0), (0, .ref a0)] rfl (Nat.le_of_ble_eq_true rfl) rfl ?_
  exact v_sub [2, 1, 0] rfl (w_X10_letGoNow_4 _ h)
theorem m_X10_letGoNow {sa : Env3} {a0 : Nat} {σ : St} {r : Int32 × St} (h : f_X10_letGoNow a0 σ = some r) : Ex sa yX10_letGoNow cX10_letGoNow K_X10_letGoNow [.ref a0] σ (pO r) := Ex.of (by decide) rfl (fun q => nomatch q) (Nat.le_of_ble_eq_true rfl) (w_X10_letGoNow_0 (itg h).2)
theorem w_X10_holders_84 {sa : Env3} {k51 : Nat → Int32 → Int32 → Int32 → Int32 → St → Option (Int32 × St)} (hk51 : ∀ {a0 : Nat} {a1 : Int32} {a2 : Int32} {a3 : Int32} {a4 : Int32} {σ : St} {r : Int32 × St}, k51 a0 a1 a2 a3 a4 σ = some r → VV sa cX10_holders K_X10_holders 51 [(0, .ref a0), (1, .int a1), (2, .int a2), (3, .int a3), (4, .int a4)] [] σ (pO r) 0 0) {a0 : Nat} {a1 : Int32} {a2 : Int32} {a4 : Int32} {s0 : Int32} {s1 : Int32} {σ : St} {r : Int32 × St} (h : f_X10_holders_84 k51 a0 a1 a2 a4 s0 s1 σ = some r) : VV sa cX10_holders K_X10_holders 84 [(0, .ref a0), (1, .int a1), (2, .int a2), (4, .int a4)] [.int s1, .int s0] σ (pO r) 0 0 := by
  unfold f_X10_holders_84 at h
  refine v_iadd (dq D_X10_holders 47 rfl) ?_
  obtain ⟨x1, ex1, h⟩ := bnd_inv h
  refine v_top (congrArg Value.int ex1) ?_
  refine v_istore_n (dq D_X10_holders 48 rfl) [(3, .int x1), (0, .ref a0), (1, .int a1), (2, .int a2), (4, .int a4)] rfl (Nat.le_of_ble_eq_true rfl) rfl ?_
  refine v_iinc (dq D_X10_holders 49 rfl) 4 [(4, .int (a4 + 1)), (3, .int x1), (0, .ref a0), (1, .int a1), (2, .int a2)] rfl kc_1 (Nat.le_of_ble_eq_true rfl) rfl ?_
  refine v_goto (dq D_X10_holders 50 rfl) rfl ?_
  exact v_sub [2, 3, 4, 1, 0] rfl (hk51 h)
theorem w_X10_holders_83 {sa : Env3} {k51 : Nat → Int32 → Int32 → Int32 → Int32 → St → Option (Int32 × St)} (hk51 : ∀ {a0 : Nat} {a1 : Int32} {a2 : Int32} {a3 : Int32} {a4 : Int32} {σ : St} {r : Int32 × St}, k51 a0 a1 a2 a3 a4 σ = some r → VV sa cX10_holders K_X10_holders 51 [(0, .ref a0), (1, .int a1), (2, .int a2), (3, .int a3), (4, .int a4)] [] σ (pO r) 0 0) {a0 : Nat} {a1 : Int32} {a2 : Int32} {a4 : Int32} {s0 : Int32} {σ : St} {r : Int32 × St} (h : f_X10_holders_83 k51 a0 a1 a2 a4 s0 σ = some r) : VV sa cX10_holders K_X10_holders 83 [(0, .ref a0), (1, .int a1), (2, .int a2), (4, .int a4)] [.int s0] σ (pO r) 0 0 := by
  unfold f_X10_holders_83 at h
  refine v_iconst (dq D_X10_holders 46 rfl) kc_0 ?_
  exact w_X10_holders_84 hk51 h
theorem w_X10_holders_51 {sa : Env3} : ∀ (n : Nat) {a0 : Nat} {a1 : Int32} {a2 : Int32} {a3 : Int32} {a4 : Int32} {σ : St} {r : Int32 × St}, f_X10_holders_51 n a0 a1 a2 a3 a4 σ = some r → VV sa cX10_holders K_X10_holders 51 [(0, .ref a0), (1, .int a1), (2, .int a2), (3, .int a3), (4, .int a4)] [] σ (pO r) 0 0 := by
  intro n
  induction n with
  | zero => intro a0 a1 a2 a3 a4 σ r h; cases h
  | succ n ih =>
    intro a0 a1 a2 a3 a4 σ r h
    rw [e_X10_holders_51] at h
    refine v_iload (dq D_X10_holders 30 rfl) 4 rfl ?_
    refine v_bipush (dq D_X10_holders 31 rfl) kb_8 ?_
    refine v_icmp_ge (dq D_X10_holders 32 rfl) rfl (fun c1 => ?_) (fun c1 => ?_)
    · have h := itp h c1
      refine v_iload_n (dq D_X10_holders 51 rfl) 3 rfl ?_
      obtain rfl := Option.some.inj h
      exact v_iret (dq D_X10_holders 52 rfl) rfl ⟨rfl, rfl⟩
    · have h := itn h c1
      refine v_iload_n (dq D_X10_holders 33 rfl) 3 rfl ?_
      refine v_aload_n (dq D_X10_holders 34 rfl) 0 rfl ?_
      obtain ⟨x2, hx2, h⟩ := obi h
      refine v_gR (dq D_X10_holders 35 rfl) fa_RX10_24 hx2 ?_
      refine v_iload (dq D_X10_holders 36 rfl) 4 rfl ?_
      obtain ⟨x3, hx3, h⟩ := obi h
      refine v_iald (dq D_X10_holders 37 rfl) hx3 ?_
      refine v_iload_n (dq D_X10_holders 38 rfl) 1 rfl ?_
      refine v_icmp_ne (dq D_X10_holders 39 rfl) rfl (fun c4 => ?_) (fun c4 => ?_)
      · have h := itn h c4
        exact v_sub [0, 1, 2, 4] rfl (w_X10_holders_83 ih h)
      · have h := itp h c4
        refine v_iload_n (dq D_X10_holders 40 rfl) 2 rfl ?_
        refine v_iload (dq D_X10_holders 41 rfl) 4 rfl ?_
        obtain ⟨q5, hq5, h⟩ := obi h
        refine v_cSi (bc := 0) (bs := 0) (As := [.int a2, .int a4]) (dq D_X10_holders 42 rfl) cs_X10_bit ml_RX10_280 (m_X10_bit hq5) rfl rfl (Nat.le_of_ble_eq_true rfl) ⟨Nat.le_of_ble_eq_true rfl, Nat.le_of_ble_eq_true rfl⟩ ⟨Nat.le_of_ble_eq_true rfl, Nat.le_of_ble_eq_true rfl⟩ ?_
        refine v_if_ne (dq D_X10_holders 43 rfl) rfl (fun c6 => ?_) (fun c6 => ?_)
        · have h := itn h c6
          exact v_sub [0, 1, 2, 4] rfl (w_X10_holders_83 ih h)
        · have h := itp h c6
          refine v_iconst (dq D_X10_holders 44 rfl) kc_1 ?_
          refine v_goto (dq D_X10_holders 45 rfl) rfl ?_
          exact v_sub [0, 1, 2, 4] rfl (w_X10_holders_84 ih h)
theorem w_X10_holders_40 {sa : Env3} {k5 : Nat → Int32 → Int32 → Int32 → Int32 → St → Option (Int32 × St)} (hk5 : ∀ {a0 : Nat} {a1 : Int32} {a2 : Int32} {a3 : Int32} {a4 : Int32} {σ : St} {r : Int32 × St}, k5 a0 a1 a2 a3 a4 σ = some r → VV sa cX10_holders K_X10_holders 5 [(0, .ref a0), (1, .int a1), (2, .int a2), (3, .int a3), (4, .int a4)] [] σ (pO r) 0 0) {a0 : Nat} {a1 : Int32} {a2 : Int32} {a4 : Int32} {s0 : Int32} {s1 : Int32} {σ : St} {r : Int32 × St} (h : f_X10_holders_40 k5 a0 a1 a2 a4 s0 s1 σ = some r) : VV sa cX10_holders K_X10_holders 40 [(0, .ref a0), (1, .int a1), (2, .int a2), (4, .int a4)] [.int s1, .int s0] σ (pO r) 0 0 := by
  unfold f_X10_holders_40 at h
  refine v_iadd (dq D_X10_holders 24 rfl) ?_
  obtain ⟨x1, ex1, h⟩ := bnd_inv h
  refine v_top (congrArg Value.int ex1) ?_
  refine v_istore_n (dq D_X10_holders 25 rfl) [(3, .int x1), (0, .ref a0), (1, .int a1), (2, .int a2), (4, .int a4)] rfl (Nat.le_of_ble_eq_true rfl) rfl ?_
  refine v_iinc (dq D_X10_holders 26 rfl) 4 [(4, .int (a4 + 1)), (3, .int x1), (0, .ref a0), (1, .int a1), (2, .int a2)] rfl kc_1 (Nat.le_of_ble_eq_true rfl) rfl ?_
  refine v_goto (dq D_X10_holders 27 rfl) rfl ?_
  exact v_sub [2, 3, 4, 1, 0] rfl (hk5 h)
theorem w_X10_holders_5 {sa : Env3} : ∀ (n : Nat) {a0 : Nat} {a1 : Int32} {a2 : Int32} {a3 : Int32} {a4 : Int32} {σ : St} {r : Int32 × St}, f_X10_holders_5 n a0 a1 a2 a3 a4 σ = some r → VV sa cX10_holders K_X10_holders 5 [(0, .ref a0), (1, .int a1), (2, .int a2), (3, .int a3), (4, .int a4)] [] σ (pO r) 0 0 := by
  intro n
  induction n with
  | zero => intro a0 a1 a2 a3 a4 σ r h; cases h
  | succ n ih =>
    intro a0 a1 a2 a3 a4 σ r h
    rw [e_X10_holders_5] at h
    refine v_iload (dq D_X10_holders 4 rfl) 4 rfl ?_
    refine v_aload_n (dq D_X10_holders 5 rfl) 0 rfl ?_
    obtain ⟨x1, hx1, h⟩ := obi h
    refine v_gR (dq D_X10_holders 6 rfl) fa_RX10_24 hx1 ?_
    refine v_bipush (dq D_X10_holders 7 rfl) kb_34 ?_
    obtain ⟨x2, hx2, h⟩ := obi h
    refine v_iald (dq D_X10_holders 8 rfl) hx2 ?_
    refine v_icmp_ge (dq D_X10_holders 9 rfl) rfl (fun c3 => ?_) (fun c3 => ?_)
    · have h := itp h c3
      refine v_iconst (dq D_X10_holders 28 rfl) kc_0 ?_
      refine v_istore (dq D_X10_holders 29 rfl) [(4, .int 0), (0, .ref a0), (1, .int a1), (2, .int a2), (3, .int a3)] (Nat.le_of_ble_eq_true rfl) rfl ?_
      exact v_sub [1, 2, 3, 4, 0] rfl (w_X10_holders_51 _ h)
    · have h := itn h c3
      refine v_iload_n (dq D_X10_holders 10 rfl) 3 rfl ?_
      refine v_aload_n (dq D_X10_holders 11 rfl) 0 rfl ?_
      obtain ⟨x4, hx4, h⟩ := obi h
      refine v_gR (dq D_X10_holders 12 rfl) fa_RX10_24 hx4 ?_
      refine v_aload_n (dq D_X10_holders 13 rfl) 0 rfl ?_
      refine v_iload (dq D_X10_holders 14 rfl) 4 rfl ?_
      obtain ⟨q5, hq5, h⟩ := obi h
      refine v_cVi (bc := 0) (bs := 0) (As := [.int a4]) (dq D_X10_holders 15 rfl) cv_X10_at ml_RX10_316 (itg hq5).1 (m_X10_at hq5) rfl rfl (Nat.le_of_ble_eq_true rfl) ⟨Nat.le_of_ble_eq_true rfl, Nat.le_of_ble_eq_true rfl⟩ ⟨Nat.le_of_ble_eq_true rfl, Nat.le_of_ble_eq_true rfl⟩ ?_
      refine v_iconst (dq D_X10_holders 16 rfl) kc_1 ?_
      refine v_iadd (dq D_X10_holders 17 rfl) ?_
      obtain ⟨x6, hx6, h⟩ := obi h
      refine v_iald (dq D_X10_holders 18 rfl) hx6 ?_
      refine v_iload_n (dq D_X10_holders 19 rfl) 1 rfl ?_
      refine v_icmp_ne (dq D_X10_holders 20 rfl) rfl (fun c7 => ?_) (fun c7 => ?_)
      · have h := itn h c7
        refine v_iconst (dq D_X10_holders 23 rfl) kc_0 ?_
        exact v_sub [0, 1, 2, 4] rfl (w_X10_holders_40 ih h)
      · have h := itp h c7
        refine v_iconst (dq D_X10_holders 21 rfl) kc_1 ?_
        refine v_goto (dq D_X10_holders 22 rfl) rfl ?_
        exact v_sub [0, 1, 2, 4] rfl (w_X10_holders_40 ih h)
theorem w_X10_holders_0 {sa : Env3} {a0 : Nat} {a1 : Int32} {a2 : Int32} {σ : St} {r : Int32 × St} (h : f_X10_holders_0 a0 a1 a2 σ = some r) : VV sa cX10_holders K_X10_holders 0 [(0, .ref a0), (1, .int a1), (2, .int a2)] [] σ (pO r) 0 0 := by
  unfold f_X10_holders_0 at h
  refine v_iconst (dq D_X10_holders 0 rfl) kc_0 ?_
  refine v_istore_n (dq D_X10_holders 1 rfl) [(3, .int 0), (0, .ref a0), (1, .int a1), (2, .int a2)] rfl (Nat.le_of_ble_eq_true rfl) rfl ?_
  refine v_iconst (dq D_X10_holders 2 rfl) kc_0 ?_
  refine v_istore (dq D_X10_holders 3 rfl) [(4, .int 0), (3, .int 0), (0, .ref a0), (1, .int a1), (2, .int a2)] (Nat.le_of_ble_eq_true rfl) rfl ?_
  exact v_sub [2, 3, 4, 1, 0] rfl (w_X10_holders_5 _ h)
theorem m_X10_holders {sa : Env3} {a0 : Nat} {a1 : Int32} {a2 : Int32} {σ : St} {r : Int32 × St} (h : f_X10_holders a0 a1 a2 σ = some r) : Ex sa yX10_holders cX10_holders K_X10_holders [.ref a0, .int a1, .int a2] σ (pO r) := Ex.of (by decide) rfl (fun q => nomatch q) (Nat.le_of_ble_eq_true rfl) (w_X10_holders_0 (itg h).2)
theorem w_X10_waitingFor_39 {sa : Env3} {k4 : Nat → Int32 → Int32 → Int32 → St → Option (Int32 × St)} (hk4 : ∀ {a0 : Nat} {a1 : Int32} {a2 : Int32} {a3 : Int32} {σ : St} {r : Int32 × St}, k4 a0 a1 a2 a3 σ = some r → VV sa cX10_waitingFor K_X10_waitingFor 4 [(0, .ref a0), (1, .int a1), (2, .int a2), (3, .int a3)] [] σ (pO r) 0 0) {a0 : Nat} {a1 : Int32} {a3 : Int32} {s0 : Int32} {s1 : Int32} {σ : St} {r : Int32 × St} (h : f_X10_waitingFor_39 k4 a0 a1 a3 s0 s1 σ = some r) : VV sa cX10_waitingFor K_X10_waitingFor 39 [(0, .ref a0), (1, .int a1), (3, .int a3)] [.int s1, .int s0] σ (pO r) 0 0 := by
  unfold f_X10_waitingFor_39 at h
  refine v_iadd (dq D_X10_waitingFor 24 rfl) ?_
  obtain ⟨x1, ex1, h⟩ := bnd_inv h
  refine v_top (congrArg Value.int ex1) ?_
  refine v_istore_n (dq D_X10_waitingFor 25 rfl) [(2, .int x1), (0, .ref a0), (1, .int a1), (3, .int a3)] rfl (Nat.le_of_ble_eq_true rfl) rfl ?_
  refine v_iinc (dq D_X10_waitingFor 26 rfl) 3 [(3, .int (a3 + 1)), (2, .int x1), (0, .ref a0), (1, .int a1)] rfl kc_1 (Nat.le_of_ble_eq_true rfl) rfl ?_
  refine v_goto (dq D_X10_waitingFor 27 rfl) rfl ?_
  exact v_sub [2, 3, 1, 0] rfl (hk4 h)
theorem w_X10_waitingFor_38 {sa : Env3} {k4 : Nat → Int32 → Int32 → Int32 → St → Option (Int32 × St)} (hk4 : ∀ {a0 : Nat} {a1 : Int32} {a2 : Int32} {a3 : Int32} {σ : St} {r : Int32 × St}, k4 a0 a1 a2 a3 σ = some r → VV sa cX10_waitingFor K_X10_waitingFor 4 [(0, .ref a0), (1, .int a1), (2, .int a2), (3, .int a3)] [] σ (pO r) 0 0) {a0 : Nat} {a1 : Int32} {a3 : Int32} {s0 : Int32} {σ : St} {r : Int32 × St} (h : f_X10_waitingFor_38 k4 a0 a1 a3 s0 σ = some r) : VV sa cX10_waitingFor K_X10_waitingFor 38 [(0, .ref a0), (1, .int a1), (3, .int a3)] [.int s0] σ (pO r) 0 0 := by
  unfold f_X10_waitingFor_38 at h
  refine v_iconst (dq D_X10_waitingFor 23 rfl) kc_0 ?_
  exact w_X10_waitingFor_39 hk4 h
theorem w_X10_waitingFor_4 {sa : Env3} : ∀ (n : Nat) {a0 : Nat} {a1 : Int32} {a2 : Int32} {a3 : Int32} {σ : St} {r : Int32 × St}, f_X10_waitingFor_4 n a0 a1 a2 a3 σ = some r → VV sa cX10_waitingFor K_X10_waitingFor 4 [(0, .ref a0), (1, .int a1), (2, .int a2), (3, .int a3)] [] σ (pO r) 0 0 := by
  intro n
  induction n with
  | zero => intro a0 a1 a2 a3 σ r h; cases h
  | succ n ih =>
    intro a0 a1 a2 a3 σ r h
    rw [e_X10_waitingFor_4] at h
    refine v_iload_n (dq D_X10_waitingFor 4 rfl) 3 rfl ?_
    refine v_aload_n (dq D_X10_waitingFor 5 rfl) 0 rfl ?_
    obtain ⟨x1, hx1, h⟩ := obi h
    refine v_gR (dq D_X10_waitingFor 6 rfl) fa_RX10_24 hx1 ?_
    refine v_bipush (dq D_X10_waitingFor 7 rfl) kb_34 ?_
    obtain ⟨x2, hx2, h⟩ := obi h
    refine v_iald (dq D_X10_waitingFor 8 rfl) hx2 ?_
    refine v_icmp_ge (dq D_X10_waitingFor 9 rfl) rfl (fun c3 => ?_) (fun c3 => ?_)
    · have h := itp h c3
      refine v_iload_n (dq D_X10_waitingFor 28 rfl) 2 rfl ?_
      obtain rfl := Option.some.inj h
      exact v_iret (dq D_X10_waitingFor 29 rfl) rfl ⟨rfl, rfl⟩
    · have h := itn h c3
      refine v_iload_n (dq D_X10_waitingFor 10 rfl) 2 rfl ?_
      refine v_aload_n (dq D_X10_waitingFor 11 rfl) 0 rfl ?_
      refine v_iload_n (dq D_X10_waitingFor 12 rfl) 3 rfl ?_
      refine v_iconst (dq D_X10_waitingFor 13 rfl) kc_1 ?_
      obtain ⟨q4, hq4, h⟩ := obi h
      refine v_cVi (bc := 0) (bs := 0) (As := [.int a3, .int 1]) (dq D_X10_waitingFor 14 rfl) cv_X10_has ml_RX10_322 (itg hq4).1 (m_X10_has hq4) rfl rfl (Nat.le_of_ble_eq_true rfl) ⟨Nat.le_of_ble_eq_true rfl, Nat.le_of_ble_eq_true rfl⟩ ⟨Nat.le_of_ble_eq_true rfl, Nat.le_of_ble_eq_true rfl⟩ ?_
      refine v_if_ne (dq D_X10_waitingFor 15 rfl) rfl (fun c5 => ?_) (fun c5 => ?_)
      · have h := itn h c5
        exact v_sub [0, 1, 3] rfl (w_X10_waitingFor_38 ih h)
      · have h := itp h c5
        refine v_aload_n (dq D_X10_waitingFor 16 rfl) 0 rfl ?_
        refine v_iload_n (dq D_X10_waitingFor 17 rfl) 3 rfl ?_
        refine v_iload_n (dq D_X10_waitingFor 18 rfl) 1 rfl ?_
        obtain ⟨q6, hq6, h⟩ := obi h
        refine v_cVi (bc := 0) (bs := 0) (As := [.int a3, .int a1]) (dq D_X10_waitingFor 19 rfl) cv_X10_reads ml_RX10_328 (itg hq6).1 (m_X10_reads hq6) rfl rfl (Nat.le_of_ble_eq_true rfl) ⟨Nat.le_of_ble_eq_true rfl, Nat.le_of_ble_eq_true rfl⟩ ⟨Nat.le_of_ble_eq_true rfl, Nat.le_of_ble_eq_true rfl⟩ ?_
        refine v_if_eq (dq D_X10_waitingFor 20 rfl) rfl (fun c7 => ?_) (fun c7 => ?_)
        · have h := itp h c7
          exact v_sub [0, 1, 3] rfl (w_X10_waitingFor_38 ih h)
        · have h := itn h c7
          refine v_iconst (dq D_X10_waitingFor 21 rfl) kc_1 ?_
          refine v_goto (dq D_X10_waitingFor 22 rfl) rfl ?_
          exact v_sub [0, 1, 3] rfl (w_X10_waitingFor_39 ih h)
theorem w_X10_waitingFor_0 {sa : Env3} {a0 : Nat} {a1 : Int32} {σ : St} {r : Int32 × St} (h : f_X10_waitingFor_0 a0 a1 σ = some r) : VV sa cX10_waitingFor K_X10_waitingFor 0 [(0, .ref a0), (1, .int a1)] [] σ (pO r) 0 0 := by
  unfold f_X10_waitingFor_0 at h
  refine v_iconst (dq D_X10_waitingFor 0 rfl) kc_0 ?_
  refine v_istore_n (dq D_X10_waitingFor 1 rfl) [(2, .int 0), (0, .ref a0), (1, .int a1)] rfl (Nat.le_of_ble_eq_true rfl) rfl ?_
  refine v_iconst (dq D_X10_waitingFor 2 rfl) kc_0 ?_
  refine v_istore_n (dq D_X10_waitingFor 3 rfl) [(3, .int 0), (2, .int 0), (0, .ref a0), (1, .int a1)] rfl (Nat.le_of_ble_eq_true rfl) rfl ?_
  exact v_sub [2, 3, 1, 0] rfl (w_X10_waitingFor_4 _ h)
theorem m_X10_waitingFor {sa : Env3} {a0 : Nat} {a1 : Int32} {σ : St} {r : Int32 × St} (h : f_X10_waitingFor a0 a1 σ = some r) : Ex sa yX10_waitingFor cX10_waitingFor K_X10_waitingFor [.ref a0, .int a1] σ (pO r) := Ex.of (by decide) rfl (fun q => nomatch q) (Nat.le_of_ble_eq_true rfl) (w_X10_waitingFor_0 (itg h).2)
theorem w_X10_cell_22 {sa : Env3} {a0 : Nat} {σ : St} {r : Int32 × St} (h : f_X10_cell_22 a0 σ = some r) : VV sa cX10_cell K_X10_cell 22 [(0, .ref a0)] [] σ (pO r) 0 0 := by
  unfold f_X10_cell_22 at h
  refine v_aload_n (dq D_X10_cell 12 rfl) 0 rfl ?_
  refine v_iconst (dq D_X10_cell 13 rfl) kc_1 ?_
  obtain ⟨q1, hq1, h⟩ := obi h
  refine v_cVi (bc := 0) (bs := 0) (As := [.int 1]) (dq D_X10_cell 14 rfl) cv_X10_refused ml_RX10_42 (itg hq1).1 (m_X10_refused hq1) rfl rfl (Nat.le_of_ble_eq_true rfl) ⟨Nat.le_of_ble_eq_true rfl, Nat.le_of_ble_eq_true rfl⟩ ⟨Nat.le_of_ble_eq_true rfl, Nat.le_of_ble_eq_true rfl⟩ ?_
  obtain rfl := Option.some.inj h
  exact v_iret (dq D_X10_cell 15 rfl) rfl ⟨rfl, rfl⟩
theorem w_X10_cell_83 {sa : Env3} {s0 : Nat} {s1 : Int32} {σ : St} {r : Int32 × St} (h : f_X10_cell_83 s0 s1 σ = some r) : VV sa cX10_cell K_X10_cell 83 [] [.int s1, .ref s0] σ (pO r) 0 0 := by
  unfold f_X10_cell_83 at h
  obtain ⟨q1, hq1, h⟩ := obi h
  refine v_cVi (bc := 0) (bs := 0) (As := [.int s1]) (dq D_X10_cell 33 rfl) cv_X10_good ml_RX10_46 (itg hq1).1 (m_X10_good hq1) rfl rfl (Nat.le_of_ble_eq_true rfl) ⟨Nat.le_of_ble_eq_true rfl, Nat.le_of_ble_eq_true rfl⟩ ⟨Nat.le_of_ble_eq_true rfl, Nat.le_of_ble_eq_true rfl⟩ ?_
  obtain rfl := Option.some.inj h
  exact v_iret (dq D_X10_cell 34 rfl) rfl ⟨rfl, rfl⟩
theorem w_X10_cell_0 {sa : Env3} {a0 : Nat} {a1 : Int32} {a2 : Int32} {σ : St} {r : Int32 × St} (h : f_X10_cell_0 a0 a1 a2 σ = some r) : VV sa cX10_cell K_X10_cell 0 [(0, .ref a0), (1, .int a1), (2, .int a2)] [] σ (pO r) 0 0 := by
  unfold f_X10_cell_0 at h
  refine v_aload_n (dq D_X10_cell 0 rfl) 0 rfl ?_
  refine v_iconst (dq D_X10_cell 1 rfl) kc_0 ?_
  obtain ⟨σ1, hσ1, h⟩ := obi h
  refine v_pI (dq D_X10_cell 2 rfl) fp_RX10_36 hσ1 ?_
  refine v_aload_n (dq D_X10_cell 3 rfl) 0 rfl ?_
  refine v_iload_n (dq D_X10_cell 4 rfl) 1 rfl ?_
  obtain ⟨q2, hq2, h⟩ := obi h
  refine v_cVi (bc := 0) (bs := 0) (As := [.int a1]) (dq D_X10_cell 5 rfl) cv_X10_isCell ml_RX10_372 (itg hq2).1 (m_X10_isCell hq2) rfl rfl (Nat.le_of_ble_eq_true rfl) ⟨Nat.le_of_ble_eq_true rfl, Nat.le_of_ble_eq_true rfl⟩ ⟨Nat.le_of_ble_eq_true rfl, Nat.le_of_ble_eq_true rfl⟩ ?_
  refine v_if_eq (dq D_X10_cell 6 rfl) rfl (fun c3 => ?_) (fun c3 => ?_)
  · have h := itp h c3
    exact v_sub [0] rfl (w_X10_cell_22 h)
  · have h := itn h c3
    refine v_iload_n (dq D_X10_cell 7 rfl) 2 rfl ?_
    refine v_iconst (dq D_X10_cell 8 rfl) kc_0 ?_
    refine v_iconst (dq D_X10_cell 9 rfl) kc_2 ?_
    obtain ⟨q4, hq4, h⟩ := obi h
    refine v_cSi (bc := 0) (bs := 0) (As := [.int a2, .int 0, .int 2]) (dq D_X10_cell 10 rfl) cs_X10_in ml_RX10_115 (m_X10_in hq4) rfl rfl (Nat.le_of_ble_eq_true rfl) ⟨Nat.le_of_ble_eq_true rfl, Nat.le_of_ble_eq_true rfl⟩ ⟨Nat.le_of_ble_eq_true rfl, Nat.le_of_ble_eq_true rfl⟩ ?_
    refine v_if_ne (dq D_X10_cell 11 rfl) rfl (fun c5 => ?_) (fun c5 => ?_)
    · have h := itn h c5
      refine v_aload_n (dq D_X10_cell 16 rfl) 0 rfl ?_
      obtain ⟨σ6, hσ6, h⟩ := obi h
      refine v_cVv (bc := 0) (bs := 0) (As := []) (dq D_X10_cell 17 rfl) cv_X10_works ml_RX10_366 (itg hσ6).1 (m_X10_works hσ6) rfl rfl (Nat.le_of_ble_eq_true rfl) ⟨Nat.le_of_ble_eq_true rfl, Nat.le_of_ble_eq_true rfl⟩ ⟨Nat.le_of_ble_eq_true rfl, Nat.le_of_ble_eq_true rfl⟩ ?_
      refine v_iload_n (dq D_X10_cell 18 rfl) 2 rfl ?_
      by_cases c7 : a2 = 0
      · have h := itp h c7
        refine v_lkAt (v := 0) (dq D_X10_cell 19 rfl) c7 (by decide) rfl rfl ?_
        refine v_aload_n (dq D_X10_cell 20 rfl) 0 rfl ?_
        refine v_aload_n (dq D_X10_cell 21 rfl) 0 rfl ?_
        refine v_iload_n (dq D_X10_cell 22 rfl) 1 rfl ?_
        obtain ⟨q9, hq9, h⟩ := obi h
        refine v_cVi (bc := 0) (bs := 0) (As := [.int a1]) (dq D_X10_cell 23 rfl) cv_X10_isReady ml_RX10_357 (itg hq9).1 (m_X10_isReady hq9) rfl rfl (Nat.le_of_ble_eq_true rfl) ⟨Nat.le_of_ble_eq_true rfl, Nat.le_of_ble_eq_true rfl⟩ ⟨Nat.le_of_ble_eq_true rfl, Nat.le_of_ble_eq_true rfl⟩ ?_
        refine v_if_eq (dq D_X10_cell 24 rfl) rfl (fun c10 => ?_) (fun c10 => ?_)
        · have h := itp h c10
          refine v_bipush (dq D_X10_cell 32 rfl) kb_m2 ?_
          exact v_sub [] rfl (w_X10_cell_83 h)
        · have h := itn h c10
          refine v_aload_n (dq D_X10_cell 25 rfl) 0 rfl ?_
          obtain ⟨x11, hx11, h⟩ := obi h
          refine v_gR (dq D_X10_cell 26 rfl) fa_RX10_24 hx11 ?_
          refine v_bipush (dq D_X10_cell 27 rfl) kb_9 ?_
          refine v_iload_n (dq D_X10_cell 28 rfl) 1 rfl ?_
          refine v_iadd (dq D_X10_cell 29 rfl) ?_
          obtain ⟨x12, hx12, h⟩ := obi h
          refine v_iald (dq D_X10_cell 30 rfl) hx12 ?_
          refine v_goto (dq D_X10_cell 31 rfl) rfl ?_
          exact v_sub [] rfl (w_X10_cell_83 h)
      · have h := itn h c7
        by_cases c8 : a2 = 1
        · have h := itp h c8
          refine v_lkAt (v := 1) (dq D_X10_cell 19 rfl) c8 (by decide) rfl rfl ?_
          refine v_aload_n (dq D_X10_cell 35 rfl) 0 rfl ?_
          refine v_aload_n (dq D_X10_cell 36 rfl) 0 rfl ?_
          refine v_iload_n (dq D_X10_cell 37 rfl) 1 rfl ?_
          refine v_aload_n (dq D_X10_cell 38 rfl) 0 rfl ?_
          obtain ⟨q13, hq13, h⟩ := obi h
          refine v_cVi (bc := 0) (bs := 0) (As := []) (dq D_X10_cell 39 rfl) cv_X10_letGoNow ml_RX10_336 (itg hq13).1 (m_X10_letGoNow hq13) rfl rfl (Nat.le_of_ble_eq_true rfl) ⟨Nat.le_of_ble_eq_true rfl, Nat.le_of_ble_eq_true rfl⟩ ⟨Nat.le_of_ble_eq_true rfl, Nat.le_of_ble_eq_true rfl⟩ ?_
          obtain ⟨q14, hq14, h⟩ := obi h
          refine v_cVi (bc := 0) (bs := 0) (As := [.int a1, .int q13.1]) (dq D_X10_cell 40 rfl) cv_X10_holders ml_RX10_339 (itg hq14).1 (m_X10_holders hq14) rfl rfl (Nat.le_of_ble_eq_true rfl) ⟨Nat.le_of_ble_eq_true rfl, Nat.le_of_ble_eq_true rfl⟩ ⟨Nat.le_of_ble_eq_true rfl, Nat.le_of_ble_eq_true rfl⟩ ?_
          obtain ⟨q15, hq15, h⟩ := obi h
          refine v_cVi (bc := 0) (bs := 0) (As := [.int q14.1]) (dq D_X10_cell 41 rfl) cv_X10_good ml_RX10_46 (itg hq15).1 (m_X10_good hq15) rfl rfl (Nat.le_of_ble_eq_true rfl) ⟨Nat.le_of_ble_eq_true rfl, Nat.le_of_ble_eq_true rfl⟩ ⟨Nat.le_of_ble_eq_true rfl, Nat.le_of_ble_eq_true rfl⟩ ?_
          obtain rfl := Option.some.inj h
          exact v_iret (dq D_X10_cell 42 rfl) rfl ⟨rfl, rfl⟩
        · have h := itn h c8
          refine v_lookup (off := 68) (dq D_X10_cell 19 rfl) (by decide) (by have g0 : (a2).toInt ≠ 0 := i32_ne c7; have g1 : (a2).toInt ≠ 1 := i32_ne c8; simp [Op.lookupswitch.offset, Ne.symm g0, Ne.symm g1, g0, g1]) rfl ?_
          refine v_aload_n (dq D_X10_cell 43 rfl) 0 rfl ?_
          refine v_aload_n (dq D_X10_cell 44 rfl) 0 rfl ?_
          refine v_iload_n (dq D_X10_cell 45 rfl) 1 rfl ?_
          obtain ⟨q16, hq16, h⟩ := obi h
          refine v_cVi (bc := 0) (bs := 0) (As := [.int a1]) (dq D_X10_cell 46 rfl) cv_X10_waitingFor ml_RX10_375 (itg hq16).1 (m_X10_waitingFor hq16) rfl rfl (Nat.le_of_ble_eq_true rfl) ⟨Nat.le_of_ble_eq_true rfl, Nat.le_of_ble_eq_true rfl⟩ ⟨Nat.le_of_ble_eq_true rfl, Nat.le_of_ble_eq_true rfl⟩ ?_
          obtain ⟨q17, hq17, h⟩ := obi h
          refine v_cVi (bc := 0) (bs := 0) (As := [.int q16.1]) (dq D_X10_cell 47 rfl) cv_X10_good ml_RX10_46 (itg hq17).1 (m_X10_good hq17) rfl rfl (Nat.le_of_ble_eq_true rfl) ⟨Nat.le_of_ble_eq_true rfl, Nat.le_of_ble_eq_true rfl⟩ ⟨Nat.le_of_ble_eq_true rfl, Nat.le_of_ble_eq_true rfl⟩ ?_
          obtain rfl := Option.some.inj h
          exact v_iret (dq D_X10_cell 48 rfl) rfl ⟨rfl, rfl⟩
    · have h := itp h c5
      exact v_sub [0] rfl (w_X10_cell_22 h)
theorem m_X10_cell {sa : Env3} {a0 : Nat} {a1 : Int32} {a2 : Int32} {σ : St} {r : Int32 × St} (h : f_X10_cell a0 a1 a2 σ = some r) : Ex sa yX10_cell cX10_cell K_X10_cell [.ref a0, .int a1, .int a2] σ (pO r) := Ex.of (by decide) rfl (fun q => nomatch q) (Nat.le_of_ble_eq_true rfl) (w_X10_cell_0 (itg h).2)
theorem w_X10_whyNoCommit_56 {sa : Env3} {s0 : Int32} {σ : St} {r : Int32 × St} (h : f_X10_whyNoCommit_56 s0 σ = some r) : VV sa cX10_whyNoCommit K_X10_whyNoCommit 56 [] [.int s0] σ (pO r) 0 0 := by
  unfold f_X10_whyNoCommit_56 at h
  obtain rfl := Option.some.inj h
  exact v_iret (dq D_X10_whyNoCommit 33 rfl) rfl ⟨rfl, rfl⟩
theorem w_X10_whyNoCommit_55 {sa : Env3}  {σ : St} {r : Int32 × St} (h : f_X10_whyNoCommit_55  σ = some r) : VV sa cX10_whyNoCommit K_X10_whyNoCommit 55 [] [] σ (pO r) 0 0 := by
  unfold f_X10_whyNoCommit_55 at h
  refine v_iconst (dq D_X10_whyNoCommit 32 rfl) kc_0 ?_
  exact w_X10_whyNoCommit_56 h
theorem w_X10_whyNoCommit_0 {sa : Env3} {a0 : Nat} {σ : St} {r : Int32 × St} (h : f_X10_whyNoCommit_0 a0 σ = some r) : VV sa cX10_whyNoCommit K_X10_whyNoCommit 0 [(0, .ref a0)] [] σ (pO r) 0 0 := by
  unfold f_X10_whyNoCommit_0 at h
  refine v_aload_n (dq D_X10_whyNoCommit 0 rfl) 0 rfl ?_
  obtain ⟨x1, hx1, h⟩ := obi h
  refine v_gR (dq D_X10_whyNoCommit 1 rfl) fa_RX10_24 hx1 ?_
  refine v_bipush (dq D_X10_whyNoCommit 2 rfl) kb_34 ?_
  obtain ⟨x2, hx2, h⟩ := obi h
  refine v_iald (dq D_X10_whyNoCommit 3 rfl) hx2 ?_
  refine v_if_ne (dq D_X10_whyNoCommit 4 rfl) rfl (fun c3 => ?_) (fun c3 => ?_)
  · have h := itn h c3
    refine v_aload_n (dq D_X10_whyNoCommit 7 rfl) 0 rfl ?_
    refine v_iconst (dq D_X10_whyNoCommit 8 rfl) kc_0 ?_
    refine v_iconst (dq D_X10_whyNoCommit 9 rfl) kc_1 ?_
    obtain ⟨q4, hq4, h⟩ := obi h
    refine v_cVi (bc := 0) (bs := 0) (As := [.int 0, .int 1]) (dq D_X10_whyNoCommit 10 rfl) cv_X10_has ml_RX10_322 (itg hq4).1 (m_X10_has hq4) rfl rfl (Nat.le_of_ble_eq_true rfl) ⟨Nat.le_of_ble_eq_true rfl, Nat.le_of_ble_eq_true rfl⟩ ⟨Nat.le_of_ble_eq_true rfl, Nat.le_of_ble_eq_true rfl⟩ ?_
    refine v_if_ne (dq D_X10_whyNoCommit 11 rfl) rfl (fun c5 => ?_) (fun c5 => ?_)
    · have h := itn h c5
      refine v_aload_n (dq D_X10_whyNoCommit 14 rfl) 0 rfl ?_
      refine v_iconst (dq D_X10_whyNoCommit 15 rfl) kc_0 ?_
      refine v_iconst (dq D_X10_whyNoCommit 16 rfl) kc_4 ?_
      obtain ⟨q6, hq6, h⟩ := obi h
      refine v_cVi (bc := 0) (bs := 0) (As := [.int 0, .int 4]) (dq D_X10_whyNoCommit 17 rfl) cv_X10_has ml_RX10_322 (itg hq6).1 (m_X10_has hq6) rfl rfl (Nat.le_of_ble_eq_true rfl) ⟨Nat.le_of_ble_eq_true rfl, Nat.le_of_ble_eq_true rfl⟩ ⟨Nat.le_of_ble_eq_true rfl, Nat.le_of_ble_eq_true rfl⟩ ?_
      refine v_if_eq (dq D_X10_whyNoCommit 18 rfl) rfl (fun c7 => ?_) (fun c7 => ?_)
      · have h := itp h c7
        exact v_sub [] rfl (w_X10_whyNoCommit_55 h)
      · have h := itn h c7
        refine v_aload_n (dq D_X10_whyNoCommit 19 rfl) 0 rfl ?_
        refine v_aload_n (dq D_X10_whyNoCommit 20 rfl) 0 rfl ?_
        obtain ⟨x8, hx8, h⟩ := obi h
        refine v_gR (dq D_X10_whyNoCommit 21 rfl) fa_RX10_24 hx8 ?_
        refine v_aload_n (dq D_X10_whyNoCommit 22 rfl) 0 rfl ?_
        refine v_iconst (dq D_X10_whyNoCommit 23 rfl) kc_0 ?_
        obtain ⟨q9, hq9, h⟩ := obi h
        refine v_cVi (bc := 0) (bs := 0) (As := [.int 0]) (dq D_X10_whyNoCommit 24 rfl) cv_X10_at ml_RX10_316 (itg hq9).1 (m_X10_at hq9) rfl rfl (Nat.le_of_ble_eq_true rfl) ⟨Nat.le_of_ble_eq_true rfl, Nat.le_of_ble_eq_true rfl⟩ ⟨Nat.le_of_ble_eq_true rfl, Nat.le_of_ble_eq_true rfl⟩ ?_
        refine v_iconst (dq D_X10_whyNoCommit 25 rfl) kc_1 ?_
        refine v_iadd (dq D_X10_whyNoCommit 26 rfl) ?_
        obtain ⟨x10, hx10, h⟩ := obi h
        refine v_iald (dq D_X10_whyNoCommit 27 rfl) hx10 ?_
        obtain ⟨q11, hq11, h⟩ := obi h
        refine v_cVi (bc := 0) (bs := 0) (As := [.int x10]) (dq D_X10_whyNoCommit 28 rfl) cv_X10_isReady ml_RX10_357 (itg hq11).1 (m_X10_isReady hq11) rfl rfl (Nat.le_of_ble_eq_true rfl) ⟨Nat.le_of_ble_eq_true rfl, Nat.le_of_ble_eq_true rfl⟩ ⟨Nat.le_of_ble_eq_true rfl, Nat.le_of_ble_eq_true rfl⟩ ?_
        refine v_if_ne (dq D_X10_whyNoCommit 29 rfl) rfl (fun c12 => ?_) (fun c12 => ?_)
        · have h := itn h c12
          exact v_sub [] rfl (w_X10_whyNoCommit_55 h)
        · have h := itp h c12
          refine v_iconst (dq D_X10_whyNoCommit 30 rfl) kc_3 ?_
          refine v_goto (dq D_X10_whyNoCommit 31 rfl) rfl ?_
          exact v_sub [] rfl (w_X10_whyNoCommit_56 h)
    · have h := itp h c5
      refine v_iconst (dq D_X10_whyNoCommit 12 rfl) kc_2 ?_
      obtain rfl := Option.some.inj h
      exact v_iret (dq D_X10_whyNoCommit 13 rfl) rfl ⟨rfl, rfl⟩
  · have h := itp h c3
    refine v_iconst (dq D_X10_whyNoCommit 5 rfl) kc_1 ?_
    obtain rfl := Option.some.inj h
    exact v_iret (dq D_X10_whyNoCommit 6 rfl) rfl ⟨rfl, rfl⟩
theorem m_X10_whyNoCommit {sa : Env3} {a0 : Nat} {σ : St} {r : Int32 × St} (h : f_X10_whyNoCommit a0 σ = some r) : Ex sa yX10_whyNoCommit cX10_whyNoCommit K_X10_whyNoCommit [.ref a0] σ (pO r) := Ex.of (by decide) rfl (fun q => nomatch q) (Nat.le_of_ble_eq_true rfl) (w_X10_whyNoCommit_0 (itg h).2)
theorem w_X10_commitsOne_94 {sa : Env3} : ∀ (n : Nat) {a0 : Nat} {a1 : Int32} {a3 : Int32} {σ : St} {r : Int32 × St}, f_X10_commitsOne_94 n a0 a1 a3 σ = some r → VV sa cX10_commitsOne K_X10_commitsOne 94 [(0, .ref a0), (1, .int a1), (3, .int a3)] [] σ (pO r) 0 0 := by
  intro n
  induction n with
  | zero => intro a0 a1 a3 σ r h; cases h
  | succ n ih =>
    intro a0 a1 a3 σ r h
    rw [e_X10_commitsOne_94] at h
    refine v_iload_n (dq D_X10_commitsOne 62 rfl) 2 rfl ?_
    refine v_sipush (dq D_X10_commitsOne 63 rfl) ks_182 ?_
    refine v_icmp_ge (dq D_X10_commitsOne 64 rfl) rfl (fun c1 => ?_) (fun c1 => ?_)
    · have h := itp h c1
      refine v_aload_n (dq D_X10_commitsOne 77 rfl) 0 rfl ?_
      obtain ⟨x2, hx2, h⟩ := obi h
      refine v_gR (dq D_X10_commitsOne 78 rfl) fa_RX10_24 hx2 ?_
      refine v_bipush (dq D_X10_commitsOne 79 rfl) kb_34 ?_
      refine v_dup2 (dq D_X10_commitsOne 80 rfl) rfl rfl ?_
      obtain ⟨x3, hx3, h⟩ := obi h
      refine v_iald (dq D_X10_commitsOne 81 rfl) hx3 ?_
      refine v_iconst (dq D_X10_commitsOne 82 rfl) kc_1 ?_
      refine v_isub (dq D_X10_commitsOne 83 rfl) ?_
      obtain ⟨σ4, hσ4, h⟩ := obi h
      refine v_iast (dq D_X10_commitsOne 84 rfl) hσ4 ?_
      refine v_aload_n (dq D_X10_commitsOne 85 rfl) 0 rfl ?_
      obtain ⟨x5, hx5, h⟩ := obi h
      refine v_gR (dq D_X10_commitsOne 86 rfl) fa_RX10_24 hx5 ?_
      refine v_bipush (dq D_X10_commitsOne 87 rfl) kb_37 ?_
      refine v_dup2 (dq D_X10_commitsOne 88 rfl) rfl rfl ?_
      obtain ⟨x6, hx6, h⟩ := obi h
      refine v_iald (dq D_X10_commitsOne 89 rfl) hx6 ?_
      refine v_iconst (dq D_X10_commitsOne 90 rfl) kc_1 ?_
      refine v_iadd (dq D_X10_commitsOne 91 rfl) ?_
      obtain ⟨σ7, hσ7, h⟩ := obi h
      refine v_iast (dq D_X10_commitsOne 92 rfl) hσ7 ?_
      refine v_iload_n (dq D_X10_commitsOne 93 rfl) 1 rfl ?_
      obtain rfl := Option.some.inj h
      exact v_iret (dq D_X10_commitsOne 94 rfl) rfl ⟨rfl, rfl⟩
    · have h := itn h c1
      refine v_aload_n (dq D_X10_commitsOne 65 rfl) 0 rfl ?_
      obtain ⟨x8, hx8, h⟩ := obi h
      refine v_gR (dq D_X10_commitsOne 66 rfl) fa_RX10_24 hx8 ?_
      refine v_iload_n (dq D_X10_commitsOne 67 rfl) 2 rfl ?_
      refine v_aload_n (dq D_X10_commitsOne 68 rfl) 0 rfl ?_
      obtain ⟨x9, hx9, h⟩ := obi h
      refine v_gR (dq D_X10_commitsOne 69 rfl) fa_RX10_24 hx9 ?_
      refine v_iload_n (dq D_X10_commitsOne 70 rfl) 2 rfl ?_
      refine v_bipush (dq D_X10_commitsOne 71 rfl) kb_13 ?_
      refine v_iadd (dq D_X10_commitsOne 72 rfl) ?_
      obtain ⟨x10, hx10, h⟩ := obi h
      refine v_iald (dq D_X10_commitsOne 73 rfl) hx10 ?_
      obtain ⟨σ11, hσ11, h⟩ := obi h
      refine v_iast (dq D_X10_commitsOne 74 rfl) hσ11 ?_
      refine v_iinc (dq D_X10_commitsOne 75 rfl) 2 [(3, .int (a3 + 1)), (0, .ref a0), (1, .int a1)] rfl kc_1 (Nat.le_of_ble_eq_true rfl) rfl ?_
      refine v_goto (dq D_X10_commitsOne 76 rfl) rfl ?_
      exact v_sub [1, 2, 0] rfl (ih h)
theorem w_X10_commitsOne_91 {sa : Env3} {a0 : Nat} {a1 : Int32} {σ : St} {r : Int32 × St} (h : f_X10_commitsOne_91 a0 a1 σ = some r) : VV sa cX10_commitsOne K_X10_commitsOne 91 [(0, .ref a0), (1, .int a1)] [] σ (pO r) 0 0 := by
  unfold f_X10_commitsOne_91 at h
  refine v_bipush (dq D_X10_commitsOne 60 rfl) kb_39 ?_
  refine v_istore_n (dq D_X10_commitsOne 61 rfl) [(3, .int 39), (0, .ref a0), (1, .int a1)] rfl (Nat.le_of_ble_eq_true rfl) rfl ?_
  exact v_sub [1, 2, 0] rfl (w_X10_commitsOne_94 _ h)
theorem w_X10_commitsOne_0 {sa : Env3} {a0 : Nat} {σ : St} {r : Int32 × St} (h : f_X10_commitsOne_0 a0 σ = some r) : VV sa cX10_commitsOne K_X10_commitsOne 0 [(0, .ref a0)] [] σ (pO r) 0 0 := by
  unfold f_X10_commitsOne_0 at h
  refine v_aload_n (dq D_X10_commitsOne 0 rfl) 0 rfl ?_
  obtain ⟨x1, hx1, h⟩ := obi h
  refine v_gR (dq D_X10_commitsOne 1 rfl) fa_RX10_24 hx1 ?_
  refine v_aload_n (dq D_X10_commitsOne 2 rfl) 0 rfl ?_
  refine v_iconst (dq D_X10_commitsOne 3 rfl) kc_0 ?_
  obtain ⟨q2, hq2, h⟩ := obi h
  refine v_cVi (bc := 0) (bs := 0) (As := [.int 0]) (dq D_X10_commitsOne 4 rfl) cv_X10_at ml_RX10_316 (itg hq2).1 (m_X10_at hq2) rfl rfl (Nat.le_of_ble_eq_true rfl) ⟨Nat.le_of_ble_eq_true rfl, Nat.le_of_ble_eq_true rfl⟩ ⟨Nat.le_of_ble_eq_true rfl, Nat.le_of_ble_eq_true rfl⟩ ?_
  obtain ⟨x3, hx3, h⟩ := obi h
  refine v_iald (dq D_X10_commitsOne 5 rfl) hx3 ?_
  refine v_istore_n (dq D_X10_commitsOne 6 rfl) [(1, .int x3), (0, .ref a0)] rfl (Nat.le_of_ble_eq_true rfl) rfl ?_
  refine v_aload_n (dq D_X10_commitsOne 7 rfl) 1 rfl ?_
  refine v_iconst (dq D_X10_commitsOne 8 rfl) kc_0 ?_
  refine v_iconst (dq D_X10_commitsOne 9 rfl) kc_2 ?_
  obtain ⟨q4, hq4, h⟩ := obi h
  refine v_cVi (bc := 0) (bs := 0) (As := [.int 0, .int 2]) (dq D_X10_commitsOne 10 rfl) cv_X10_has ml_RX10_322 (itg hq4).1 (m_X10_has hq4) rfl rfl (Nat.le_of_ble_eq_true rfl) ⟨Nat.le_of_ble_eq_true rfl, Nat.le_of_ble_eq_true rfl⟩ ⟨Nat.le_of_ble_eq_true rfl, Nat.le_of_ble_eq_true rfl⟩ ?_
  refine v_if_eq (dq D_X10_commitsOne 11 rfl) rfl (fun c5 => ?_) (fun c5 => ?_)
  · have h := itp h c5
    refine v_aload_n (dq D_X10_commitsOne 29 rfl) 1 rfl ?_
    refine v_iconst (dq D_X10_commitsOne 30 rfl) kc_0 ?_
    obtain ⟨q6, hq6, h⟩ := obi h
    refine v_cVi (bc := 0) (bs := 0) (As := [.int 0]) (dq D_X10_commitsOne 31 rfl) cv_X10_registerOf ml_RX10_319 (itg hq6).1 (m_X10_registerOf hq6) rfl rfl (Nat.le_of_ble_eq_true rfl) ⟨Nat.le_of_ble_eq_true rfl, Nat.le_of_ble_eq_true rfl⟩ ⟨Nat.le_of_ble_eq_true rfl, Nat.le_of_ble_eq_true rfl⟩ ?_
    refine v_istore_n (dq D_X10_commitsOne 32 rfl) [(2, .int q6.1), (1, .int x3), (0, .ref a0)] rfl (Nat.le_of_ble_eq_true rfl) rfl ?_
    refine v_iload_n (dq D_X10_commitsOne 33 rfl) 0 rfl ?_
    refine v_iconst (dq D_X10_commitsOne 34 rfl) kc_m1 ?_
    refine v_icmp_eq (dq D_X10_commitsOne 35 rfl) rfl (fun c7 => ?_) (fun c7 => ?_)
    · have h := itp h c7
      exact v_sub [2, 1] rfl (w_X10_commitsOne_91 h)
    · have h := itn h c7
      refine v_aload_n (dq D_X10_commitsOne 36 rfl) 2 rfl ?_
      obtain ⟨x8, hx8, h⟩ := obi h
      refine v_gR (dq D_X10_commitsOne 37 rfl) fa_RX10_24 hx8 ?_
      refine v_iload_n (dq D_X10_commitsOne 38 rfl) 0 rfl ?_
      refine v_aload_n (dq D_X10_commitsOne 39 rfl) 2 rfl ?_
      obtain ⟨x9, hx9, h⟩ := obi h
      refine v_gR (dq D_X10_commitsOne 40 rfl) fa_RX10_24 hx9 ?_
      refine v_aload_n (dq D_X10_commitsOne 41 rfl) 2 rfl ?_
      refine v_iconst (dq D_X10_commitsOne 42 rfl) kc_0 ?_
      obtain ⟨q10, hq10, h⟩ := obi h
      refine v_cVi (bc := 0) (bs := 0) (As := [.int 0]) (dq D_X10_commitsOne 43 rfl) cv_X10_at ml_RX10_316 (itg hq10).1 (m_X10_at hq10) rfl rfl (Nat.le_of_ble_eq_true rfl) ⟨Nat.le_of_ble_eq_true rfl, Nat.le_of_ble_eq_true rfl⟩ ⟨Nat.le_of_ble_eq_true rfl, Nat.le_of_ble_eq_true rfl⟩ ?_
      refine v_iconst (dq D_X10_commitsOne 44 rfl) kc_1 ?_
      refine v_iadd (dq D_X10_commitsOne 45 rfl) ?_
      obtain ⟨x11, hx11, h⟩ := obi h
      refine v_iald (dq D_X10_commitsOne 46 rfl) hx11 ?_
      obtain ⟨σ12, hσ12, h⟩ := obi h
      refine v_iast (dq D_X10_commitsOne 47 rfl) hσ12 ?_
      refine v_aload_n (dq D_X10_commitsOne 48 rfl) 2 rfl ?_
      obtain ⟨x13, hx13, h⟩ := obi h
      refine v_gR (dq D_X10_commitsOne 49 rfl) fa_RX10_24 hx13 ?_
      refine v_bipush (dq D_X10_commitsOne 50 rfl) kb_8 ?_
      refine v_dup2 (dq D_X10_commitsOne 51 rfl) rfl rfl ?_
      obtain ⟨x14, hx14, h⟩ := obi h
      refine v_iald (dq D_X10_commitsOne 52 rfl) hx14 ?_
      refine v_iconst (dq D_X10_commitsOne 53 rfl) kc_1 ?_
      refine v_iload_n (dq D_X10_commitsOne 54 rfl) 0 rfl ?_
      refine v_ishl (dq D_X10_commitsOne 55 rfl) ?_
      refine v_iconst (dq D_X10_commitsOne 56 rfl) kc_m1 ?_
      refine v_ixor (dq D_X10_commitsOne 57 rfl) ?_
      refine v_iand (dq D_X10_commitsOne 58 rfl) ?_
      obtain ⟨σ15, hσ15, h⟩ := obi h
      refine v_iast (dq D_X10_commitsOne 59 rfl) hσ15 ?_
      exact v_sub [2, 1] rfl (w_X10_commitsOne_91 h)
  · have h := itn h c5
    refine v_aload_n (dq D_X10_commitsOne 12 rfl) 1 rfl ?_
    obtain ⟨x16, hx16, h⟩ := obi h
    refine v_gR (dq D_X10_commitsOne 13 rfl) fa_RX10_24 hx16 ?_
    refine v_bipush (dq D_X10_commitsOne 14 rfl) kb_34 ?_
    refine v_iconst (dq D_X10_commitsOne 15 rfl) kc_0 ?_
    obtain ⟨σ17, hσ17, h⟩ := obi h
    refine v_iast (dq D_X10_commitsOne 16 rfl) hσ17 ?_
    refine v_aload_n (dq D_X10_commitsOne 17 rfl) 1 rfl ?_
    obtain ⟨x18, hx18, h⟩ := obi h
    refine v_gR (dq D_X10_commitsOne 18 rfl) fa_RX10_24 hx18 ?_
    refine v_bipush (dq D_X10_commitsOne 19 rfl) kb_36 ?_
    refine v_iconst (dq D_X10_commitsOne 20 rfl) kc_1 ?_
    obtain ⟨σ19, hσ19, h⟩ := obi h
    refine v_iast (dq D_X10_commitsOne 21 rfl) hσ19 ?_
    refine v_aload_n (dq D_X10_commitsOne 22 rfl) 1 rfl ?_
    obtain ⟨x20, hx20, h⟩ := obi h
    refine v_gR (dq D_X10_commitsOne 23 rfl) fa_RX10_24 hx20 ?_
    refine v_bipush (dq D_X10_commitsOne 24 rfl) kb_35 ?_
    refine v_iload_n (dq D_X10_commitsOne 25 rfl) 0 rfl ?_
    obtain ⟨σ21, hσ21, h⟩ := obi h
    refine v_iast (dq D_X10_commitsOne 26 rfl) hσ21 ?_
    refine v_bipush (dq D_X10_commitsOne 27 rfl) kb_m2 ?_
    obtain rfl := Option.some.inj h
    exact v_iret (dq D_X10_commitsOne 28 rfl) rfl ⟨rfl, rfl⟩
theorem m_X10_commitsOne {sa : Env3} {a0 : Nat} {σ : St} {r : Int32 × St} (h : f_X10_commitsOne a0 σ = some r) : Ex sa yX10_commitsOne cX10_commitsOne K_X10_commitsOne [.ref a0] σ (pO r) := Ex.of (by decide) rfl (fun q => nomatch q) (Nat.le_of_ble_eq_true rfl) (w_X10_commitsOne_0 (itg h).2)
theorem w_X10_isRunnable_52 {sa : Env3} {s0 : Int32} {σ : St} {r : Int32 × St} (h : f_X10_isRunnable_52 s0 σ = some r) : VV sa cX10_isRunnable K_X10_isRunnable 52 [] [.int s0] σ (pO r) 0 0 := by
  unfold f_X10_isRunnable_52 at h
  have hz := (itg h).1
  have h := (itg h).2
  obtain rfl := Option.some.inj h
  exact v_zret (dq D_X10_isRunnable 30 rfl) rfl (z_nar hz) ⟨rfl, rfl⟩
theorem w_X10_isRunnable_51 {sa : Env3}  {σ : St} {r : Int32 × St} (h : f_X10_isRunnable_51  σ = some r) : VV sa cX10_isRunnable K_X10_isRunnable 51 [] [] σ (pO r) 0 0 := by
  unfold f_X10_isRunnable_51 at h
  refine v_iconst (dq D_X10_isRunnable 29 rfl) kc_0 ?_
  exact w_X10_isRunnable_52 h
theorem w_X10_isRunnable_0 {sa : Env3} {a0 : Nat} {a1 : Int32} {σ : St} {r : Int32 × St} (h : f_X10_isRunnable_0 a0 a1 σ = some r) : VV sa cX10_isRunnable K_X10_isRunnable 0 [(0, .ref a0), (1, .int a1)] [] σ (pO r) 0 0 := by
  unfold f_X10_isRunnable_0 at h
  refine v_aload_n (dq D_X10_isRunnable 0 rfl) 0 rfl ?_
  refine v_iload_n (dq D_X10_isRunnable 1 rfl) 1 rfl ?_
  refine v_iconst (dq D_X10_isRunnable 2 rfl) kc_1 ?_
  obtain ⟨q1, hq1, h⟩ := obi h
  refine v_cVi (bc := 0) (bs := 0) (As := [.int a1, .int 1]) (dq D_X10_isRunnable 3 rfl) cv_X10_has ml_RX10_322 (itg hq1).1 (m_X10_has hq1) rfl rfl (Nat.le_of_ble_eq_true rfl) ⟨Nat.le_of_ble_eq_true rfl, Nat.le_of_ble_eq_true rfl⟩ ⟨Nat.le_of_ble_eq_true rfl, Nat.le_of_ble_eq_true rfl⟩ ?_
  refine v_if_ne (dq D_X10_isRunnable 4 rfl) rfl (fun c2 => ?_) (fun c2 => ?_)
  · have h := itn h c2
    exact v_sub [] rfl (w_X10_isRunnable_51 h)
  · have h := itp h c2
    refine v_aload_n (dq D_X10_isRunnable 5 rfl) 0 rfl ?_
    refine v_aload_n (dq D_X10_isRunnable 6 rfl) 0 rfl ?_
    obtain ⟨x3, hx3, h⟩ := obi h
    refine v_gR (dq D_X10_isRunnable 7 rfl) fa_RX10_24 hx3 ?_
    refine v_aload_n (dq D_X10_isRunnable 8 rfl) 0 rfl ?_
    refine v_iload_n (dq D_X10_isRunnable 9 rfl) 1 rfl ?_
    obtain ⟨q4, hq4, h⟩ := obi h
    refine v_cVi (bc := 0) (bs := 0) (As := [.int a1]) (dq D_X10_isRunnable 10 rfl) cv_X10_at ml_RX10_316 (itg hq4).1 (m_X10_at hq4) rfl rfl (Nat.le_of_ble_eq_true rfl) ⟨Nat.le_of_ble_eq_true rfl, Nat.le_of_ble_eq_true rfl⟩ ⟨Nat.le_of_ble_eq_true rfl, Nat.le_of_ble_eq_true rfl⟩ ?_
    refine v_iconst (dq D_X10_isRunnable 11 rfl) kc_2 ?_
    refine v_iadd (dq D_X10_isRunnable 12 rfl) ?_
    obtain ⟨x5, hx5, h⟩ := obi h
    refine v_iald (dq D_X10_isRunnable 13 rfl) hx5 ?_
    obtain ⟨q6, hq6, h⟩ := obi h
    refine v_cVi (bc := 0) (bs := 0) (As := [.int x5]) (dq D_X10_isRunnable 14 rfl) cv_X10_isReady ml_RX10_357 (itg hq6).1 (m_X10_isReady hq6) rfl rfl (Nat.le_of_ble_eq_true rfl) ⟨Nat.le_of_ble_eq_true rfl, Nat.le_of_ble_eq_true rfl⟩ ⟨Nat.le_of_ble_eq_true rfl, Nat.le_of_ble_eq_true rfl⟩ ?_
    refine v_if_eq (dq D_X10_isRunnable 15 rfl) rfl (fun c7 => ?_) (fun c7 => ?_)
    · have h := itp h c7
      exact v_sub [] rfl (w_X10_isRunnable_51 h)
    · have h := itn h c7
      refine v_aload_n (dq D_X10_isRunnable 16 rfl) 0 rfl ?_
      refine v_aload_n (dq D_X10_isRunnable 17 rfl) 0 rfl ?_
      obtain ⟨x8, hx8, h⟩ := obi h
      refine v_gR (dq D_X10_isRunnable 18 rfl) fa_RX10_24 hx8 ?_
      refine v_aload_n (dq D_X10_isRunnable 19 rfl) 0 rfl ?_
      refine v_iload_n (dq D_X10_isRunnable 20 rfl) 1 rfl ?_
      obtain ⟨q9, hq9, h⟩ := obi h
      refine v_cVi (bc := 0) (bs := 0) (As := [.int a1]) (dq D_X10_isRunnable 21 rfl) cv_X10_at ml_RX10_316 (itg hq9).1 (m_X10_at hq9) rfl rfl (Nat.le_of_ble_eq_true rfl) ⟨Nat.le_of_ble_eq_true rfl, Nat.le_of_ble_eq_true rfl⟩ ⟨Nat.le_of_ble_eq_true rfl, Nat.le_of_ble_eq_true rfl⟩ ?_
      refine v_iconst (dq D_X10_isRunnable 22 rfl) kc_3 ?_
      refine v_iadd (dq D_X10_isRunnable 23 rfl) ?_
      obtain ⟨x10, hx10, h⟩ := obi h
      refine v_iald (dq D_X10_isRunnable 24 rfl) hx10 ?_
      obtain ⟨q11, hq11, h⟩ := obi h
      refine v_cVi (bc := 0) (bs := 0) (As := [.int x10]) (dq D_X10_isRunnable 25 rfl) cv_X10_isReady ml_RX10_357 (itg hq11).1 (m_X10_isReady hq11) rfl rfl (Nat.le_of_ble_eq_true rfl) ⟨Nat.le_of_ble_eq_true rfl, Nat.le_of_ble_eq_true rfl⟩ ⟨Nat.le_of_ble_eq_true rfl, Nat.le_of_ble_eq_true rfl⟩ ?_
      refine v_if_eq (dq D_X10_isRunnable 26 rfl) rfl (fun c12 => ?_) (fun c12 => ?_)
      · have h := itp h c12
        exact v_sub [] rfl (w_X10_isRunnable_51 h)
      · have h := itn h c12
        refine v_iconst (dq D_X10_isRunnable 27 rfl) kc_1 ?_
        refine v_goto (dq D_X10_isRunnable 28 rfl) rfl ?_
        exact v_sub [] rfl (w_X10_isRunnable_52 h)
theorem m_X10_isRunnable {sa : Env3} {a0 : Nat} {a1 : Int32} {σ : St} {r : Int32 × St} (h : f_X10_isRunnable a0 a1 σ = some r) : Ex sa yX10_isRunnable cX10_isRunnable K_X10_isRunnable [.ref a0, .int a1] σ (pO r) := Ex.of (by decide) rfl (fun q => nomatch q) (Nat.le_of_ble_eq_true rfl) (w_X10_isRunnable_0 (itg h).2)
theorem w_X10_runsOne_333 {sa : Env3} {a0 : Nat} {a5 : Int32} {s0 : Nat} {s1 : Int32} {s2 : Int32} {σ : St} {r : Int32 × St} (h : f_X10_runsOne_333 a0 a5 s0 s1 s2 σ = some r) : VV sa cX10_runsOne K_X10_runsOne 333 [(0, .ref a0), (5, .int a5)] [.int s2, .int s1, .ref s0] σ (pO r) 0 0 := by
  unfold f_X10_runsOne_333 at h
  obtain ⟨σ1, hσ1, h⟩ := obi h
  refine v_iast (dq D_X10_runsOne 201 rfl) hσ1 ?_
  refine v_aload_n (dq D_X10_runsOne 202 rfl) 0 rfl ?_
  obtain ⟨x2, hx2, h⟩ := obi h
  refine v_gR (dq D_X10_runsOne 203 rfl) fa_RX10_24 hx2 ?_
  refine v_bipush (dq D_X10_runsOne 204 rfl) kb_33 ?_
  refine v_dup2 (dq D_X10_runsOne 205 rfl) rfl rfl ?_
  obtain ⟨x3, hx3, h⟩ := obi h
  refine v_iald (dq D_X10_runsOne 206 rfl) hx3 ?_
  refine v_iconst (dq D_X10_runsOne 207 rfl) kc_1 ?_
  refine v_iload (dq D_X10_runsOne 208 rfl) 1 rfl ?_
  refine v_ishl (dq D_X10_runsOne 209 rfl) ?_
  refine v_ior (dq D_X10_runsOne 210 rfl) ?_
  obtain ⟨σ4, hσ4, h⟩ := obi h
  refine v_iast (dq D_X10_runsOne 211 rfl) hσ4 ?_
  refine v_iconst (dq D_X10_runsOne 212 rfl) kc_0 ?_
  obtain rfl := Option.some.inj h
  exact v_iret (dq D_X10_runsOne 213 rfl) rfl ⟨rfl, rfl⟩
theorem w_X10_runsOne_254 {sa : Env3} {a0 : Nat} {a1 : Int32} {a2 : Int32} {a3 : Int32} {a4 : Int32} {σ : St} {r : Int32 × St} (h : f_X10_runsOne_254 a0 a1 a2 a3 a4 σ = some r) : VV sa cX10_runsOne K_X10_runsOne 254 [(0, .ref a0), (1, .int a1), (2, .int a2), (3, .int a3), (4, .int a4)] [] σ (pO r) 0 0 := by
  unfold f_X10_runsOne_254 at h
  refine v_aload_n (dq D_X10_runsOne 158 rfl) 0 rfl ?_
  obtain ⟨x1, hx1, h⟩ := obi h
  refine v_gR (dq D_X10_runsOne 159 rfl) fa_RX10_24 hx1 ?_
  refine v_aload_n (dq D_X10_runsOne 160 rfl) 0 rfl ?_
  refine v_iload_n (dq D_X10_runsOne 161 rfl) 1 rfl ?_
  obtain ⟨q2, hq2, h⟩ := obi h
  refine v_cVi (bc := 0) (bs := 0) (As := [.int a1]) (dq D_X10_runsOne 162 rfl) cv_X10_at ml_RX10_316 (itg hq2).1 (m_X10_at hq2) rfl rfl (Nat.le_of_ble_eq_true rfl) ⟨Nat.le_of_ble_eq_true rfl, Nat.le_of_ble_eq_true rfl⟩ ⟨Nat.le_of_ble_eq_true rfl, Nat.le_of_ble_eq_true rfl⟩ ?_
  refine v_iconst (dq D_X10_runsOne 163 rfl) kc_1 ?_
  refine v_iadd (dq D_X10_runsOne 164 rfl) ?_
  obtain ⟨x3, hx3, h⟩ := obi h
  refine v_iald (dq D_X10_runsOne 165 rfl) hx3 ?_
  refine v_istore (dq D_X10_runsOne 166 rfl) [(5, .int x3), (0, .ref a0), (1, .int a1), (2, .int a2), (3, .int a3), (4, .int a4)] (Nat.le_of_ble_eq_true rfl) rfl ?_
  refine v_aload_n (dq D_X10_runsOne 167 rfl) 1 rfl ?_
  obtain ⟨x4, hx4, h⟩ := obi h
  refine v_gR (dq D_X10_runsOne 168 rfl) fa_RX10_24 hx4 ?_
  refine v_bipush (dq D_X10_runsOne 169 rfl) kb_9 ?_
  refine v_iload (dq D_X10_runsOne 170 rfl) 0 rfl ?_
  refine v_iadd (dq D_X10_runsOne 171 rfl) ?_
  refine v_aload_n (dq D_X10_runsOne 172 rfl) 1 rfl ?_
  obtain ⟨x5, hx5, h⟩ := obi h
  refine v_gR (dq D_X10_runsOne 173 rfl) fa_RX10_266 hx5 ?_
  obtain ⟨x6, hx6, h⟩ := obi h
  refine v_gR (dq D_X10_runsOne 174 rfl) fa_RX10_217 hx6 ?_
  refine v_iload_n (dq D_X10_runsOne 175 rfl) 3 rfl ?_
  obtain ⟨x7, hx7, h⟩ := obi h
  refine v_iald (dq D_X10_runsOne 176 rfl) hx7 ?_
  refine v_if_ne (dq D_X10_runsOne 177 rfl) rfl (fun c8 => ?_) (fun c8 => ?_)
  · have h := itn h c8
    refine v_aload_n (dq D_X10_runsOne 184 rfl) 1 rfl ?_
    obtain ⟨x9, hx9, h⟩ := obi h
    refine v_gR (dq D_X10_runsOne 185 rfl) fa_RX10_266 hx9 ?_
    obtain ⟨x10, hx10, h⟩ := obi h
    refine v_gR (dq D_X10_runsOne 186 rfl) fa_RX10_217 hx10 ?_
    refine v_iload_n (dq D_X10_runsOne 187 rfl) 3 rfl ?_
    obtain ⟨x11, hx11, h⟩ := obi h
    refine v_iald (dq D_X10_runsOne 188 rfl) hx11 ?_
    refine v_iconst (dq D_X10_runsOne 189 rfl) kc_4 ?_
    refine v_icmp_ne (dq D_X10_runsOne 190 rfl) rfl (fun c12 => ?_) (fun c12 => ?_)
    · have h := itn h c12
      refine v_aload_n (dq D_X10_runsOne 193 rfl) 1 rfl ?_
      obtain ⟨x13, hx13, h⟩ := obi h
      refine v_gR (dq D_X10_runsOne 194 rfl) fa_RX10_266 hx13 ?_
      obtain ⟨x14, hx14, h⟩ := obi h
      refine v_gR (dq D_X10_runsOne 195 rfl) fa_RX10_217 hx14 ?_
      refine v_iload_n (dq D_X10_runsOne 196 rfl) 3 rfl ?_
      obtain ⟨x15, hx15, h⟩ := obi h
      refine v_iald (dq D_X10_runsOne 197 rfl) hx15 ?_
      refine v_iload_n (dq D_X10_runsOne 198 rfl) 4 rfl ?_
      refine v_iload (dq D_X10_runsOne 199 rfl) 5 rfl ?_
      obtain ⟨q16, hq16, h⟩ := obi h
      refine v_cSi (bc := 0) (bs := 0) (As := [.int x15, .int a3, .int a4]) (dq D_X10_runsOne 200 rfl) cs_X10_comes ml_RX10_305 (m_X10_comes hq16) rfl rfl (Nat.le_of_ble_eq_true rfl) ⟨Nat.le_of_ble_eq_true rfl, Nat.le_of_ble_eq_true rfl⟩ ⟨Nat.le_of_ble_eq_true rfl, Nat.le_of_ble_eq_true rfl⟩ ?_
      exact v_sub [1, 0] rfl (w_X10_runsOne_333 h)
    · have h := itp h c12
      refine v_iload_n (dq D_X10_runsOne 191 rfl) 4 rfl ?_
      refine v_goto (dq D_X10_runsOne 192 rfl) rfl ?_
      exact v_sub [1, 0] rfl (w_X10_runsOne_333 h)
  · have h := itp h c8
    refine v_aload_n (dq D_X10_runsOne 178 rfl) 1 rfl ?_
    obtain ⟨x17, hx17, h⟩ := obi h
    refine v_gR (dq D_X10_runsOne 179 rfl) fa_RX10_266 hx17 ?_
    obtain ⟨x18, hx18, h⟩ := obi h
    refine v_gR (dq D_X10_runsOne 180 rfl) fa_RX10_229 hx18 ?_
    refine v_iload_n (dq D_X10_runsOne 181 rfl) 3 rfl ?_
    obtain ⟨x19, hx19, h⟩ := obi h
    refine v_iald (dq D_X10_runsOne 182 rfl) hx19 ?_
    refine v_goto (dq D_X10_runsOne 183 rfl) rfl ?_
    exact v_sub [1, 0] rfl (w_X10_runsOne_333 h)
theorem w_X10_runsOne_164 {sa : Env3} {a0 : Nat} {a1 : Int32} {a2 : Int32} {s0 : Int32} {σ : St} {r : Int32 × St} (h : f_X10_runsOne_164 a0 a1 a2 s0 σ = some r) : VV sa cX10_runsOne K_X10_runsOne 164 [(0, .ref a0), (1, .int a1), (2, .int a2)] [.int s0] σ (pO r) 0 0 := by
  unfold f_X10_runsOne_164 at h
  refine v_istore (dq D_X10_runsOne 101 rfl) [(5, .int s0), (0, .ref a0), (1, .int a1), (2, .int a2)] (Nat.le_of_ble_eq_true rfl) rfl ?_
  refine v_iload (dq D_X10_runsOne 102 rfl) 0 rfl ?_
  refine v_aload_n (dq D_X10_runsOne 103 rfl) 1 rfl ?_
  refine v_iload_n (dq D_X10_runsOne 104 rfl) 3 rfl ?_
  obtain ⟨q1, hq1, h⟩ := obi h
  refine v_cVi (bc := 0) (bs := 0) (As := [.int a2]) (dq D_X10_runsOne 105 rfl) cv_X10_guessed ml_RX10_299 (itg hq1).1 (m_X10_guessed hq1) rfl rfl (Nat.le_of_ble_eq_true rfl) ⟨Nat.le_of_ble_eq_true rfl, Nat.le_of_ble_eq_true rfl⟩ ⟨Nat.le_of_ble_eq_true rfl, Nat.le_of_ble_eq_true rfl⟩ ?_
  refine v_icmp_ne (dq D_X10_runsOne 106 rfl) rfl (fun c2 => ?_) (fun c2 => ?_)
  · have h := itn h c2
    refine v_aload_n (dq D_X10_runsOne 109 rfl) 1 rfl ?_
    refine v_iconst (dq D_X10_runsOne 110 rfl) kc_1 ?_
    obtain ⟨σ3, hσ3, h⟩ := obi h
    refine v_pZ (dq D_X10_runsOne 111 rfl) fp_RX10_360 hσ3 ?_
    refine v_aload_n (dq D_X10_runsOne 112 rfl) 1 rfl ?_
    obtain ⟨x4, hx4, h⟩ := obi h
    refine v_gR (dq D_X10_runsOne 113 rfl) fa_RX10_24 hx4 ?_
    refine v_bipush (dq D_X10_runsOne 114 rfl) kb_34 ?_
    obtain ⟨x5, hx5, h⟩ := obi h
    refine v_iald (dq D_X10_runsOne 115 rfl) hx5 ?_
    refine v_iload_n (dq D_X10_runsOne 116 rfl) 2 rfl ?_
    refine v_isub (dq D_X10_runsOne 117 rfl) ?_
    refine v_iconst (dq D_X10_runsOne 118 rfl) kc_1 ?_
    refine v_isub (dq D_X10_runsOne 119 rfl) ?_
    obtain ⟨x6, ex6, h⟩ := bnd_inv h
    refine v_top (congrArg Value.int ex6) ?_
    refine v_istore (dq D_X10_runsOne 120 rfl) [(6, .int x6), (5, .int s0), (0, .ref a0), (1, .int a1), (2, .int a2)] (Nat.le_of_ble_eq_true rfl) rfl ?_
    refine v_aload_n (dq D_X10_runsOne 121 rfl) 2 rfl ?_
    obtain ⟨x7, hx7, h⟩ := obi h
    refine v_gR (dq D_X10_runsOne 122 rfl) fa_RX10_24 hx7 ?_
    refine v_bipush (dq D_X10_runsOne 123 rfl) kb_34 ?_
    refine v_iload_n (dq D_X10_runsOne 124 rfl) 3 rfl ?_
    refine v_iconst (dq D_X10_runsOne 125 rfl) kc_1 ?_
    refine v_iadd (dq D_X10_runsOne 126 rfl) ?_
    obtain ⟨σ8, hσ8, h⟩ := obi h
    refine v_iast (dq D_X10_runsOne 127 rfl) hσ8 ?_
    refine v_aload_n (dq D_X10_runsOne 128 rfl) 2 rfl ?_
    obtain ⟨x9, hx9, h⟩ := obi h
    refine v_gR (dq D_X10_runsOne 129 rfl) fa_RX10_24 hx9 ?_
    refine v_bipush (dq D_X10_runsOne 130 rfl) kb_35 ?_
    refine v_iload (dq D_X10_runsOne 131 rfl) 1 rfl ?_
    obtain ⟨σ10, hσ10, h⟩ := obi h
    refine v_iast (dq D_X10_runsOne 132 rfl) hσ10 ?_
    refine v_iload (dq D_X10_runsOne 133 rfl) 0 rfl ?_
    obtain rfl := Option.some.inj h
    exact v_iret (dq D_X10_runsOne 134 rfl) rfl ⟨rfl, rfl⟩
  · have h := itp h c2
    refine v_iconst (dq D_X10_runsOne 107 rfl) kc_0 ?_
    obtain rfl := Option.some.inj h
    exact v_iret (dq D_X10_runsOne 108 rfl) rfl ⟨rfl, rfl⟩
theorem w_X10_runsOne_94 {sa : Env3} {a0 : Nat} {a1 : Int32} {a2 : Int32} {a3 : Int32} {s0 : Int32} {σ : St} {r : Int32 × St} (h : f_X10_runsOne_94 a0 a1 a2 a3 s0 σ = some r) : VV sa cX10_runsOne K_X10_runsOne 94 [(0, .ref a0), (1, .int a1), (2, .int a2), (3, .int a3)] [.int s0] σ (pO r) 0 0 := by
  unfold f_X10_runsOne_94 at h
  refine v_istore (dq D_X10_runsOne 58 rfl) [(4, .int s0), (0, .ref a0), (1, .int a1), (2, .int a2), (3, .int a3)] (Nat.le_of_ble_eq_true rfl) rfl ?_
  refine v_aload_n (dq D_X10_runsOne 59 rfl) 1 rfl ?_
  refine v_iconst (dq D_X10_runsOne 60 rfl) kc_0 ?_
  obtain ⟨σ1, hσ1, h⟩ := obi h
  refine v_pZ (dq D_X10_runsOne 61 rfl) fp_RX10_360 hσ1 ?_
  refine v_aload_n (dq D_X10_runsOne 62 rfl) 1 rfl ?_
  obtain ⟨x2, hx2, h⟩ := obi h
  refine v_gR (dq D_X10_runsOne 63 rfl) fa_RX10_24 hx2 ?_
  refine v_aload_n (dq D_X10_runsOne 64 rfl) 1 rfl ?_
  refine v_iload_n (dq D_X10_runsOne 65 rfl) 2 rfl ?_
  obtain ⟨q3, hq3, h⟩ := obi h
  refine v_cVi (bc := 0) (bs := 0) (As := [.int a1]) (dq D_X10_runsOne 66 rfl) cv_X10_at ml_RX10_316 (itg hq3).1 (m_X10_at hq3) rfl rfl (Nat.le_of_ble_eq_true rfl) ⟨Nat.le_of_ble_eq_true rfl, Nat.le_of_ble_eq_true rfl⟩ ⟨Nat.le_of_ble_eq_true rfl, Nat.le_of_ble_eq_true rfl⟩ ?_
  refine v_iconst (dq D_X10_runsOne 67 rfl) kc_4 ?_
  refine v_iadd (dq D_X10_runsOne 68 rfl) ?_
  refine v_aload_n (dq D_X10_runsOne 69 rfl) 1 rfl ?_
  obtain ⟨x4, hx4, h⟩ := obi h
  refine v_gR (dq D_X10_runsOne 70 rfl) fa_RX10_24 hx4 ?_
  refine v_aload_n (dq D_X10_runsOne 71 rfl) 1 rfl ?_
  refine v_iload_n (dq D_X10_runsOne 72 rfl) 2 rfl ?_
  obtain ⟨q5, hq5, h⟩ := obi h
  refine v_cVi (bc := 0) (bs := 0) (As := [.int a1]) (dq D_X10_runsOne 73 rfl) cv_X10_at ml_RX10_316 (itg hq5).1 (m_X10_at hq5) rfl rfl (Nat.le_of_ble_eq_true rfl) ⟨Nat.le_of_ble_eq_true rfl, Nat.le_of_ble_eq_true rfl⟩ ⟨Nat.le_of_ble_eq_true rfl, Nat.le_of_ble_eq_true rfl⟩ ?_
  refine v_iconst (dq D_X10_runsOne 74 rfl) kc_4 ?_
  refine v_iadd (dq D_X10_runsOne 75 rfl) ?_
  obtain ⟨x6, hx6, h⟩ := obi h
  refine v_iald (dq D_X10_runsOne 76 rfl) hx6 ?_
  refine v_bipush (dq D_X10_runsOne 77 rfl) kb_m9 ?_
  refine v_iand (dq D_X10_runsOne 78 rfl) ?_
  refine v_iconst (dq D_X10_runsOne 79 rfl) kc_1 ?_
  refine v_ior (dq D_X10_runsOne 80 rfl) ?_
  obtain ⟨σ7, hσ7, h⟩ := obi h
  refine v_iast (dq D_X10_runsOne 81 rfl) hσ7 ?_
  refine v_aload_n (dq D_X10_runsOne 82 rfl) 1 rfl ?_
  obtain ⟨x8, hx8, h⟩ := obi h
  refine v_gR (dq D_X10_runsOne 83 rfl) fa_RX10_266 hx8 ?_
  obtain ⟨x9, hx9, h⟩ := obi h
  refine v_gR (dq D_X10_runsOne 84 rfl) fa_RX10_217 hx9 ?_
  refine v_iload_n (dq D_X10_runsOne 85 rfl) 3 rfl ?_
  obtain ⟨x10, hx10, h⟩ := obi h
  refine v_iald (dq D_X10_runsOne 86 rfl) hx10 ?_
  refine v_iconst (dq D_X10_runsOne 87 rfl) kc_5 ?_
  refine v_icmp_ne (dq D_X10_runsOne 88 rfl) rfl (fun c11 => ?_) (fun c11 => ?_)
  · have h := itn h c11
    refine v_aload_n (dq D_X10_runsOne 135 rfl) 1 rfl ?_
    obtain ⟨x12, hx12, h⟩ := obi h
    refine v_gR (dq D_X10_runsOne 136 rfl) fa_RX10_266 hx12 ?_
    obtain ⟨x13, hx13, h⟩ := obi h
    refine v_gR (dq D_X10_runsOne 137 rfl) fa_RX10_217 hx13 ?_
    refine v_iload_n (dq D_X10_runsOne 138 rfl) 3 rfl ?_
    obtain ⟨x14, hx14, h⟩ := obi h
    refine v_iald (dq D_X10_runsOne 139 rfl) hx14 ?_
    refine v_iconst (dq D_X10_runsOne 140 rfl) kc_3 ?_
    refine v_icmp_ne (dq D_X10_runsOne 141 rfl) rfl (fun c15 => ?_) (fun c15 => ?_)
    · have h := itn h c15
      exact v_sub [1, 2, 3, 4, 0] rfl (w_X10_runsOne_254 h)
    · have h := itp h c15
      refine v_iload (dq D_X10_runsOne 142 rfl) 0 rfl ?_
      refine v_if_ne (dq D_X10_runsOne 143 rfl) rfl (fun c16 => ?_) (fun c16 => ?_)
      · have h := itn h c16
        exact v_sub [1, 2, 3, 4, 0] rfl (w_X10_runsOne_254 h)
      · have h := itp h c16
        refine v_aload_n (dq D_X10_runsOne 144 rfl) 1 rfl ?_
        obtain ⟨x17, hx17, h⟩ := obi h
        refine v_gR (dq D_X10_runsOne 145 rfl) fa_RX10_24 hx17 ?_
        refine v_aload_n (dq D_X10_runsOne 146 rfl) 1 rfl ?_
        refine v_iload_n (dq D_X10_runsOne 147 rfl) 2 rfl ?_
        obtain ⟨q18, hq18, h⟩ := obi h
        refine v_cVi (bc := 0) (bs := 0) (As := [.int a1]) (dq D_X10_runsOne 148 rfl) cv_X10_at ml_RX10_316 (itg hq18).1 (m_X10_at hq18) rfl rfl (Nat.le_of_ble_eq_true rfl) ⟨Nat.le_of_ble_eq_true rfl, Nat.le_of_ble_eq_true rfl⟩ ⟨Nat.le_of_ble_eq_true rfl, Nat.le_of_ble_eq_true rfl⟩ ?_
        refine v_iconst (dq D_X10_runsOne 149 rfl) kc_4 ?_
        refine v_iadd (dq D_X10_runsOne 150 rfl) ?_
        refine v_dup2 (dq D_X10_runsOne 151 rfl) rfl rfl ?_
        obtain ⟨x19, hx19, h⟩ := obi h
        refine v_iald (dq D_X10_runsOne 152 rfl) hx19 ?_
        refine v_iconst (dq D_X10_runsOne 153 rfl) kc_2 ?_
        refine v_ior (dq D_X10_runsOne 154 rfl) ?_
        obtain ⟨σ20, hσ20, h⟩ := obi h
        refine v_iast (dq D_X10_runsOne 155 rfl) hσ20 ?_
        refine v_iconst (dq D_X10_runsOne 156 rfl) kc_0 ?_
        obtain rfl := Option.some.inj h
        exact v_iret (dq D_X10_runsOne 157 rfl) rfl ⟨rfl, rfl⟩
  · have h := itp h c11
    refine v_iload_n (dq D_X10_runsOne 89 rfl) 4 rfl ?_
    refine v_iload (dq D_X10_runsOne 90 rfl) 0 rfl ?_
    refine v_icmp_ne (dq D_X10_runsOne 91 rfl) rfl (fun c21 => ?_) (fun c21 => ?_)
    · have h := itn h c21
      refine v_iload_n (dq D_X10_runsOne 98 rfl) 3 rfl ?_
      refine v_iconst (dq D_X10_runsOne 99 rfl) kc_1 ?_
      refine v_iadd (dq D_X10_runsOne 100 rfl) ?_
      exact v_sub [1, 2, 3] rfl (w_X10_runsOne_164 h)
    · have h := itp h c21
      refine v_aload_n (dq D_X10_runsOne 92 rfl) 1 rfl ?_
      obtain ⟨x22, hx22, h⟩ := obi h
      refine v_gR (dq D_X10_runsOne 93 rfl) fa_RX10_266 hx22 ?_
      obtain ⟨x23, hx23, h⟩ := obi h
      refine v_gR (dq D_X10_runsOne 94 rfl) fa_RX10_229 hx23 ?_
      refine v_iload_n (dq D_X10_runsOne 95 rfl) 3 rfl ?_
      obtain ⟨x24, hx24, h⟩ := obi h
      refine v_iald (dq D_X10_runsOne 96 rfl) hx24 ?_
      refine v_goto (dq D_X10_runsOne 97 rfl) rfl ?_
      exact v_sub [1, 2, 3] rfl (w_X10_runsOne_164 h)
theorem w_X10_runsOne_52 {sa : Env3} {a0 : Nat} {a1 : Int32} {a2 : Int32} {s0 : Int32} {σ : St} {r : Int32 × St} (h : f_X10_runsOne_52 a0 a1 a2 s0 σ = some r) : VV sa cX10_runsOne K_X10_runsOne 52 [(0, .ref a0), (1, .int a1), (2, .int a2)] [.int s0] σ (pO r) 0 0 := by
  unfold f_X10_runsOne_52 at h
  refine v_istore_n (dq D_X10_runsOne 32 rfl) [(3, .int s0), (0, .ref a0), (1, .int a1), (2, .int a2)] rfl (Nat.le_of_ble_eq_true rfl) rfl ?_
  refine v_aload_n (dq D_X10_runsOne 33 rfl) 1 rfl ?_
  obtain ⟨x1, hx1, h⟩ := obi h
  refine v_gR (dq D_X10_runsOne 34 rfl) fa_RX10_24 hx1 ?_
  refine v_aload_n (dq D_X10_runsOne 35 rfl) 1 rfl ?_
  refine v_iload_n (dq D_X10_runsOne 36 rfl) 2 rfl ?_
  obtain ⟨q2, hq2, h⟩ := obi h
  refine v_cVi (bc := 0) (bs := 0) (As := [.int a1]) (dq D_X10_runsOne 37 rfl) cv_X10_at ml_RX10_316 (itg hq2).1 (m_X10_at hq2) rfl rfl (Nat.le_of_ble_eq_true rfl) ⟨Nat.le_of_ble_eq_true rfl, Nat.le_of_ble_eq_true rfl⟩ ⟨Nat.le_of_ble_eq_true rfl, Nat.le_of_ble_eq_true rfl⟩ ?_
  refine v_iconst (dq D_X10_runsOne 38 rfl) kc_3 ?_
  refine v_iadd (dq D_X10_runsOne 39 rfl) ?_
  obtain ⟨x3, hx3, h⟩ := obi h
  refine v_iald (dq D_X10_runsOne 40 rfl) hx3 ?_
  refine v_bipush (dq D_X10_runsOne 41 rfl) kb_m2 ?_
  refine v_icmp_ne (dq D_X10_runsOne 42 rfl) rfl (fun c4 => ?_) (fun c4 => ?_)
  · have h := itn h c4
    refine v_aload_n (dq D_X10_runsOne 45 rfl) 1 rfl ?_
    obtain ⟨x5, hx5, h⟩ := obi h
    refine v_gR (dq D_X10_runsOne 46 rfl) fa_RX10_24 hx5 ?_
    refine v_bipush (dq D_X10_runsOne 47 rfl) kb_9 ?_
    refine v_aload_n (dq D_X10_runsOne 48 rfl) 1 rfl ?_
    obtain ⟨x6, hx6, h⟩ := obi h
    refine v_gR (dq D_X10_runsOne 49 rfl) fa_RX10_24 hx6 ?_
    refine v_aload_n (dq D_X10_runsOne 50 rfl) 1 rfl ?_
    refine v_iload_n (dq D_X10_runsOne 51 rfl) 2 rfl ?_
    obtain ⟨q7, hq7, h⟩ := obi h
    refine v_cVi (bc := 0) (bs := 0) (As := [.int a1]) (dq D_X10_runsOne 52 rfl) cv_X10_at ml_RX10_316 (itg hq7).1 (m_X10_at hq7) rfl rfl (Nat.le_of_ble_eq_true rfl) ⟨Nat.le_of_ble_eq_true rfl, Nat.le_of_ble_eq_true rfl⟩ ⟨Nat.le_of_ble_eq_true rfl, Nat.le_of_ble_eq_true rfl⟩ ?_
    refine v_iconst (dq D_X10_runsOne 53 rfl) kc_3 ?_
    refine v_iadd (dq D_X10_runsOne 54 rfl) ?_
    obtain ⟨x8, hx8, h⟩ := obi h
    refine v_iald (dq D_X10_runsOne 55 rfl) hx8 ?_
    refine v_iadd (dq D_X10_runsOne 56 rfl) ?_
    obtain ⟨x9, hx9, h⟩ := obi h
    refine v_iald (dq D_X10_runsOne 57 rfl) hx9 ?_
    exact v_sub [1, 2, 3, 0] rfl (w_X10_runsOne_94 h)
  · have h := itp h c4
    refine v_iconst (dq D_X10_runsOne 43 rfl) kc_0 ?_
    refine v_goto (dq D_X10_runsOne 44 rfl) rfl ?_
    exact v_sub [1, 2, 3, 0] rfl (w_X10_runsOne_94 h)
theorem w_X10_runsOne_0 {sa : Env3} {a0 : Nat} {a1 : Int32} {σ : St} {r : Int32 × St} (h : f_X10_runsOne_0 a0 a1 σ = some r) : VV sa cX10_runsOne K_X10_runsOne 0 [(0, .ref a0), (1, .int a1)] [] σ (pO r) 0 0 := by
  unfold f_X10_runsOne_0 at h
  refine v_aload_n (dq D_X10_runsOne 0 rfl) 0 rfl ?_
  obtain ⟨x1, hx1, h⟩ := obi h
  refine v_gR (dq D_X10_runsOne 1 rfl) fa_RX10_24 hx1 ?_
  refine v_aload_n (dq D_X10_runsOne 2 rfl) 0 rfl ?_
  refine v_iload_n (dq D_X10_runsOne 3 rfl) 1 rfl ?_
  obtain ⟨q2, hq2, h⟩ := obi h
  refine v_cVi (bc := 0) (bs := 0) (As := [.int a1]) (dq D_X10_runsOne 4 rfl) cv_X10_at ml_RX10_316 (itg hq2).1 (m_X10_at hq2) rfl rfl (Nat.le_of_ble_eq_true rfl) ⟨Nat.le_of_ble_eq_true rfl, Nat.le_of_ble_eq_true rfl⟩ ⟨Nat.le_of_ble_eq_true rfl, Nat.le_of_ble_eq_true rfl⟩ ?_
  obtain ⟨x3, hx3, h⟩ := obi h
  refine v_iald (dq D_X10_runsOne 5 rfl) hx3 ?_
  refine v_istore_n (dq D_X10_runsOne 6 rfl) [(2, .int x3), (0, .ref a0), (1, .int a1)] rfl (Nat.le_of_ble_eq_true rfl) rfl ?_
  refine v_aload_n (dq D_X10_runsOne 7 rfl) 1 rfl ?_
  obtain ⟨x4, hx4, h⟩ := obi h
  refine v_gR (dq D_X10_runsOne 8 rfl) fa_RX10_24 hx4 ?_
  refine v_aload_n (dq D_X10_runsOne 9 rfl) 1 rfl ?_
  refine v_iload_n (dq D_X10_runsOne 10 rfl) 2 rfl ?_
  obtain ⟨q5, hq5, h⟩ := obi h
  refine v_cVi (bc := 0) (bs := 0) (As := [.int a1]) (dq D_X10_runsOne 11 rfl) cv_X10_at ml_RX10_316 (itg hq5).1 (m_X10_at hq5) rfl rfl (Nat.le_of_ble_eq_true rfl) ⟨Nat.le_of_ble_eq_true rfl, Nat.le_of_ble_eq_true rfl⟩ ⟨Nat.le_of_ble_eq_true rfl, Nat.le_of_ble_eq_true rfl⟩ ?_
  refine v_iconst (dq D_X10_runsOne 12 rfl) kc_2 ?_
  refine v_iadd (dq D_X10_runsOne 13 rfl) ?_
  obtain ⟨x6, hx6, h⟩ := obi h
  refine v_iald (dq D_X10_runsOne 14 rfl) hx6 ?_
  refine v_bipush (dq D_X10_runsOne 15 rfl) kb_m2 ?_
  refine v_icmp_ne (dq D_X10_runsOne 16 rfl) rfl (fun c7 => ?_) (fun c7 => ?_)
  · have h := itn h c7
    refine v_aload_n (dq D_X10_runsOne 19 rfl) 1 rfl ?_
    obtain ⟨x8, hx8, h⟩ := obi h
    refine v_gR (dq D_X10_runsOne 20 rfl) fa_RX10_24 hx8 ?_
    refine v_bipush (dq D_X10_runsOne 21 rfl) kb_9 ?_
    refine v_aload_n (dq D_X10_runsOne 22 rfl) 1 rfl ?_
    obtain ⟨x9, hx9, h⟩ := obi h
    refine v_gR (dq D_X10_runsOne 23 rfl) fa_RX10_24 hx9 ?_
    refine v_aload_n (dq D_X10_runsOne 24 rfl) 1 rfl ?_
    refine v_iload_n (dq D_X10_runsOne 25 rfl) 2 rfl ?_
    obtain ⟨q10, hq10, h⟩ := obi h
    refine v_cVi (bc := 0) (bs := 0) (As := [.int a1]) (dq D_X10_runsOne 26 rfl) cv_X10_at ml_RX10_316 (itg hq10).1 (m_X10_at hq10) rfl rfl (Nat.le_of_ble_eq_true rfl) ⟨Nat.le_of_ble_eq_true rfl, Nat.le_of_ble_eq_true rfl⟩ ⟨Nat.le_of_ble_eq_true rfl, Nat.le_of_ble_eq_true rfl⟩ ?_
    refine v_iconst (dq D_X10_runsOne 27 rfl) kc_2 ?_
    refine v_iadd (dq D_X10_runsOne 28 rfl) ?_
    obtain ⟨x11, hx11, h⟩ := obi h
    refine v_iald (dq D_X10_runsOne 29 rfl) hx11 ?_
    refine v_iadd (dq D_X10_runsOne 30 rfl) ?_
    obtain ⟨x12, hx12, h⟩ := obi h
    refine v_iald (dq D_X10_runsOne 31 rfl) hx12 ?_
    exact v_sub [1, 2, 0] rfl (w_X10_runsOne_52 h)
  · have h := itp h c7
    refine v_iconst (dq D_X10_runsOne 17 rfl) kc_0 ?_
    refine v_goto (dq D_X10_runsOne 18 rfl) rfl ?_
    exact v_sub [1, 2, 0] rfl (w_X10_runsOne_52 h)
theorem m_X10_runsOne {sa : Env3} {a0 : Nat} {a1 : Int32} {σ : St} {r : Int32 × St} (h : f_X10_runsOne a0 a1 σ = some r) : Ex sa yX10_runsOne cX10_runsOne K_X10_runsOne [.ref a0, .int a1] σ (pO r) := Ex.of (by decide) rfl (fun q => nomatch q) (Nat.le_of_ble_eq_true rfl) (w_X10_runsOne_0 (itg h).2)
theorem w_X10_mapOf_2 {sa : Env3} : ∀ (n : Nat) {a0 : Nat} {a1 : Int32} {a3 : Int32} {σ : St} {r : Int32 × St}, f_X10_mapOf_2 n a0 a1 a3 σ = some r → VV sa cX10_mapOf K_X10_mapOf 2 [(0, .ref a0), (1, .int a1), (3, .int a3)] [] σ (pO r) 0 0 := by
  intro n
  induction n with
  | zero => intro a0 a1 a3 σ r h; cases h
  | succ n ih =>
    intro a0 a1 a3 σ r h
    rw [e_X10_mapOf_2] at h
    refine v_iload_n (dq D_X10_mapOf 2 rfl) 2 rfl ?_
    refine v_if_lt (dq D_X10_mapOf 3 rfl) rfl (fun c1 => ?_) (fun c1 => ?_)
    · have h := itp h c1
      refine v_aload_n (dq D_X10_mapOf 20 rfl) 0 rfl ?_
      obtain ⟨x2, hx2, h⟩ := obi h
      refine v_gR (dq D_X10_mapOf 21 rfl) fa_RX10_24 hx2 ?_
      refine v_iload_n (dq D_X10_mapOf 22 rfl) 1 rfl ?_
      obtain ⟨x3, hx3, h⟩ := obi h
      refine v_iald (dq D_X10_mapOf 23 rfl) hx3 ?_
      obtain rfl := Option.some.inj h
      exact v_iret (dq D_X10_mapOf 24 rfl) rfl ⟨rfl, rfl⟩
    · have h := itn h c1
      refine v_aload_n (dq D_X10_mapOf 4 rfl) 0 rfl ?_
      refine v_iload_n (dq D_X10_mapOf 5 rfl) 2 rfl ?_
      obtain ⟨q4, hq4, h⟩ := obi h
      refine v_cVi (bc := 0) (bs := 0) (As := [.int a3]) (dq D_X10_mapOf 6 rfl) cv_X10_registerOf ml_RX10_319 (itg hq4).1 (m_X10_registerOf hq4) rfl rfl (Nat.le_of_ble_eq_true rfl) ⟨Nat.le_of_ble_eq_true rfl, Nat.le_of_ble_eq_true rfl⟩ ⟨Nat.le_of_ble_eq_true rfl, Nat.le_of_ble_eq_true rfl⟩ ?_
      refine v_iload_n (dq D_X10_mapOf 7 rfl) 1 rfl ?_
      refine v_icmp_ne (dq D_X10_mapOf 8 rfl) rfl (fun c5 => ?_) (fun c5 => ?_)
      · have h := itn h c5
        refine v_iinc (dq D_X10_mapOf 18 rfl) 2 [(3, .int (a3 + (-1))), (0, .ref a0), (1, .int a1)] rfl kc_m1 (Nat.le_of_ble_eq_true rfl) rfl ?_
        refine v_goto (dq D_X10_mapOf 19 rfl) rfl ?_
        exact v_sub [1, 2, 0] rfl (ih h)
      · have h := itp h c5
        refine v_aload_n (dq D_X10_mapOf 9 rfl) 0 rfl ?_
        obtain ⟨x6, hx6, h⟩ := obi h
        refine v_gR (dq D_X10_mapOf 10 rfl) fa_RX10_24 hx6 ?_
        refine v_aload_n (dq D_X10_mapOf 11 rfl) 0 rfl ?_
        refine v_iload_n (dq D_X10_mapOf 12 rfl) 2 rfl ?_
        obtain ⟨q7, hq7, h⟩ := obi h
        refine v_cVi (bc := 0) (bs := 0) (As := [.int a3]) (dq D_X10_mapOf 13 rfl) cv_X10_at ml_RX10_316 (itg hq7).1 (m_X10_at hq7) rfl rfl (Nat.le_of_ble_eq_true rfl) ⟨Nat.le_of_ble_eq_true rfl, Nat.le_of_ble_eq_true rfl⟩ ⟨Nat.le_of_ble_eq_true rfl, Nat.le_of_ble_eq_true rfl⟩ ?_
        refine v_iconst (dq D_X10_mapOf 14 rfl) kc_1 ?_
        refine v_iadd (dq D_X10_mapOf 15 rfl) ?_
        obtain ⟨x8, hx8, h⟩ := obi h
        refine v_iald (dq D_X10_mapOf 16 rfl) hx8 ?_
        obtain rfl := Option.some.inj h
        exact v_iret (dq D_X10_mapOf 17 rfl) rfl ⟨rfl, rfl⟩
theorem w_X10_mapOf_0 {sa : Env3} {a0 : Nat} {a1 : Int32} {a2 : Int32} {σ : St} {r : Int32 × St} (h : f_X10_mapOf_0 a0 a1 a2 σ = some r) : VV sa cX10_mapOf K_X10_mapOf 0 [(0, .ref a0), (1, .int a1), (2, .int a2)] [] σ (pO r) 0 0 := by
  unfold f_X10_mapOf_0 at h
  refine v_iload_n (dq D_X10_mapOf 0 rfl) 2 rfl ?_
  refine v_istore_n (dq D_X10_mapOf 1 rfl) [(3, .int a2), (0, .ref a0), (1, .int a1), (2, .int a2)] rfl (Nat.le_of_ble_eq_true rfl) rfl ?_
  exact v_sub [1, 2, 0] rfl (w_X10_mapOf_2 _ h)
theorem m_X10_mapOf {sa : Env3} {a0 : Nat} {a1 : Int32} {a2 : Int32} {σ : St} {r : Int32 × St} (h : f_X10_mapOf a0 a1 a2 σ = some r) : Ex sa yX10_mapOf cX10_mapOf K_X10_mapOf [.ref a0, .int a1, .int a2] σ (pO r) := Ex.of (by decide) rfl (fun q => nomatch q) (Nat.le_of_ble_eq_true rfl) (w_X10_mapOf_0 (itg h).2)
theorem w_X10_isMerging_58 {sa : Env3} {s0 : Int32} {σ : St} {r : Int32 × St} (h : f_X10_isMerging_58 s0 σ = some r) : VV sa cX10_isMerging K_X10_isMerging 58 [] [.int s0] σ (pO r) 0 0 := by
  unfold f_X10_isMerging_58 at h
  have hz := (itg h).1
  have h := (itg h).2
  obtain rfl := Option.some.inj h
  exact v_zret (dq D_X10_isMerging 31 rfl) rfl (z_nar hz) ⟨rfl, rfl⟩
theorem w_X10_isMerging_57 {sa : Env3}  {σ : St} {r : Int32 × St} (h : f_X10_isMerging_57  σ = some r) : VV sa cX10_isMerging K_X10_isMerging 57 [] [] σ (pO r) 0 0 := by
  unfold f_X10_isMerging_57 at h
  refine v_iconst (dq D_X10_isMerging 30 rfl) kc_0 ?_
  exact w_X10_isMerging_58 h
theorem w_X10_isMerging_0 {sa : Env3} {a0 : Nat} {a1 : Int32} {σ : St} {r : Int32 × St} (h : f_X10_isMerging_0 a0 a1 σ = some r) : VV sa cX10_isMerging K_X10_isMerging 0 [(0, .ref a0), (1, .int a1)] [] σ (pO r) 0 0 := by
  unfold f_X10_isMerging_0 at h
  refine v_aload_n (dq D_X10_isMerging 0 rfl) 0 rfl ?_
  obtain ⟨x1, hx1, h⟩ := obi h
  refine v_gR (dq D_X10_isMerging 1 rfl) fa_RX10_266 hx1 ?_
  obtain ⟨x2, hx2, h⟩ := obi h
  refine v_gR (dq D_X10_isMerging 2 rfl) fa_RX10_217 hx2 ?_
  refine v_iload_n (dq D_X10_isMerging 3 rfl) 1 rfl ?_
  obtain ⟨x3, hx3, h⟩ := obi h
  refine v_iald (dq D_X10_isMerging 4 rfl) hx3 ?_
  refine v_iconst (dq D_X10_isMerging 5 rfl) kc_4 ?_
  refine v_icmp_ne (dq D_X10_isMerging 6 rfl) rfl (fun c4 => ?_) (fun c4 => ?_)
  · have h := itn h c4
    exact v_sub [] rfl (w_X10_isMerging_57 h)
  · have h := itp h c4
    refine v_aload_n (dq D_X10_isMerging 7 rfl) 0 rfl ?_
    refine v_aload_n (dq D_X10_isMerging 8 rfl) 0 rfl ?_
    refine v_aload_n (dq D_X10_isMerging 9 rfl) 0 rfl ?_
    obtain ⟨x5, hx5, h⟩ := obi h
    refine v_gR (dq D_X10_isMerging 10 rfl) fa_RX10_266 hx5 ?_
    obtain ⟨x6, hx6, h⟩ := obi h
    refine v_gR (dq D_X10_isMerging 11 rfl) fa_RX10_223 hx6 ?_
    refine v_iload_n (dq D_X10_isMerging 12 rfl) 1 rfl ?_
    obtain ⟨x7, hx7, h⟩ := obi h
    refine v_iald (dq D_X10_isMerging 13 rfl) hx7 ?_
    refine v_aload_n (dq D_X10_isMerging 14 rfl) 0 rfl ?_
    obtain ⟨x8, hx8, h⟩ := obi h
    refine v_gR (dq D_X10_isMerging 15 rfl) fa_RX10_24 hx8 ?_
    refine v_bipush (dq D_X10_isMerging 16 rfl) kb_34 ?_
    obtain ⟨x9, hx9, h⟩ := obi h
    refine v_iald (dq D_X10_isMerging 17 rfl) hx9 ?_
    refine v_iconst (dq D_X10_isMerging 18 rfl) kc_1 ?_
    refine v_isub (dq D_X10_isMerging 19 rfl) ?_
    obtain ⟨q10, hq10, h⟩ := obi h
    refine v_cVi (bc := 0) (bs := 0) (As := [.int x7, .int (x9 - 1)]) (dq D_X10_isMerging 20 rfl) cv_X10_mapOf ml_RX10_345 (itg hq10).1 (m_X10_mapOf hq10) rfl rfl (Nat.le_of_ble_eq_true rfl) ⟨Nat.le_of_ble_eq_true rfl, Nat.le_of_ble_eq_true rfl⟩ ⟨Nat.le_of_ble_eq_true rfl, Nat.le_of_ble_eq_true rfl⟩ ?_
    refine v_aload_n (dq D_X10_isMerging 21 rfl) 0 rfl ?_
    obtain ⟨q11, hq11, h⟩ := obi h
    refine v_cVi (bc := 0) (bs := 0) (As := []) (dq D_X10_isMerging 22 rfl) cv_X10_letGoNow ml_RX10_336 (itg hq11).1 (m_X10_letGoNow hq11) rfl rfl (Nat.le_of_ble_eq_true rfl) ⟨Nat.le_of_ble_eq_true rfl, Nat.le_of_ble_eq_true rfl⟩ ⟨Nat.le_of_ble_eq_true rfl, Nat.le_of_ble_eq_true rfl⟩ ?_
    obtain ⟨q12, hq12, h⟩ := obi h
    refine v_cVi (bc := 0) (bs := 0) (As := [.int q10.1, .int q11.1]) (dq D_X10_isMerging 23 rfl) cv_X10_holders ml_RX10_339 (itg hq12).1 (m_X10_holders hq12) rfl rfl (Nat.le_of_ble_eq_true rfl) ⟨Nat.le_of_ble_eq_true rfl, Nat.le_of_ble_eq_true rfl⟩ ⟨Nat.le_of_ble_eq_true rfl, Nat.le_of_ble_eq_true rfl⟩ ?_
    refine v_aload_n (dq D_X10_isMerging 24 rfl) 0 rfl ?_
    obtain ⟨x13, hx13, h⟩ := obi h
    refine v_gR (dq D_X10_isMerging 25 rfl) fa_RX10_266 hx13 ?_
    obtain ⟨x14, hx14, h⟩ := obi h
    refine v_gI (dq D_X10_isMerging 26 rfl) fa_RX10_201 hx14 ?_
    refine v_icmp_ge (dq D_X10_isMerging 27 rfl) rfl (fun c15 => ?_) (fun c15 => ?_)
    · have h := itp h c15
      exact v_sub [] rfl (w_X10_isMerging_57 h)
    · have h := itn h c15
      refine v_iconst (dq D_X10_isMerging 28 rfl) kc_1 ?_
      refine v_goto (dq D_X10_isMerging 29 rfl) rfl ?_
      exact v_sub [] rfl (w_X10_isMerging_58 h)
theorem m_X10_isMerging {sa : Env3} {a0 : Nat} {a1 : Int32} {σ : St} {r : Int32 × St} (h : f_X10_isMerging a0 a1 σ = some r) : Ex sa yX10_isMerging cX10_isMerging K_X10_isMerging [.ref a0, .int a1] σ (pO r) := Ex.of (by decide) rfl (fun q => nomatch q) (Nat.le_of_ble_eq_true rfl) (w_X10_isMerging_0 (itg h).2)
theorem w_X10_freeNow_34 {sa : Env3} {k9 : Nat → Int32 → Int32 → Int32 → St → Option (Int32 × St)} (hk9 : ∀ {a0 : Nat} {a1 : Int32} {a2 : Int32} {a3 : Int32} {σ : St} {r : Int32 × St}, k9 a0 a1 a2 a3 σ = some r → VV sa cX10_freeNow K_X10_freeNow 9 [(0, .ref a0), (1, .int a1), (2, .int a2), (3, .int a3)] [] σ (pO r) 0 0) {a0 : Nat} {a1 : Int32} {a3 : Int32} {s0 : Int32} {s1 : Int32} {σ : St} {r : Int32 × St} (h : f_X10_freeNow_34 k9 a0 a1 a3 s0 s1 σ = some r) : VV sa cX10_freeNow K_X10_freeNow 34 [(0, .ref a0), (1, .int a1), (3, .int a3)] [.int s1, .int s0] σ (pO r) 0 0 := by
  unfold f_X10_freeNow_34 at h
  refine v_ior (dq D_X10_freeNow 22 rfl) ?_
  obtain ⟨x1, ex1, h⟩ := bnd_inv h
  refine v_top (congrArg Value.int ex1) ?_
  refine v_istore_n (dq D_X10_freeNow 23 rfl) [(2, .int x1), (0, .ref a0), (1, .int a1), (3, .int a3)] rfl (Nat.le_of_ble_eq_true rfl) rfl ?_
  refine v_iinc (dq D_X10_freeNow 24 rfl) 3 [(3, .int (a3 + 1)), (2, .int x1), (0, .ref a0), (1, .int a1)] rfl kc_1 (Nat.le_of_ble_eq_true rfl) rfl ?_
  refine v_goto (dq D_X10_freeNow 25 rfl) rfl ?_
  exact v_sub [2, 3, 1, 0] rfl (hk9 h)
theorem w_X10_freeNow_9 {sa : Env3} : ∀ (n : Nat) {a0 : Nat} {a1 : Int32} {a2 : Int32} {a3 : Int32} {σ : St} {r : Int32 × St}, f_X10_freeNow_9 n a0 a1 a2 a3 σ = some r → VV sa cX10_freeNow K_X10_freeNow 9 [(0, .ref a0), (1, .int a1), (2, .int a2), (3, .int a3)] [] σ (pO r) 0 0 := by
  intro n
  induction n with
  | zero => intro a0 a1 a2 a3 σ r h; cases h
  | succ n ih =>
    intro a0 a1 a2 a3 σ r h
    rw [e_X10_freeNow_9] at h
    refine v_iload_n (dq D_X10_freeNow 7 rfl) 3 rfl ?_
    refine v_aload_n (dq D_X10_freeNow 8 rfl) 0 rfl ?_
    obtain ⟨x1, hx1, h⟩ := obi h
    refine v_gI (dq D_X10_freeNow 9 rfl) fa_RX10_315 hx1 ?_
    refine v_icmp_ge (dq D_X10_freeNow 10 rfl) rfl (fun c2 => ?_) (fun c2 => ?_)
    · have h := itp h c2
      refine v_iload_n (dq D_X10_freeNow 26 rfl) 2 rfl ?_
      obtain rfl := Option.some.inj h
      exact v_iret (dq D_X10_freeNow 27 rfl) rfl ⟨rfl, rfl⟩
    · have h := itn h c2
      refine v_iload_n (dq D_X10_freeNow 11 rfl) 2 rfl ?_
      refine v_aload_n (dq D_X10_freeNow 12 rfl) 0 rfl ?_
      refine v_iload_n (dq D_X10_freeNow 13 rfl) 3 rfl ?_
      refine v_iload_n (dq D_X10_freeNow 14 rfl) 1 rfl ?_
      obtain ⟨q3, hq3, h⟩ := obi h
      refine v_cVi (bc := 0) (bs := 0) (As := [.int a3, .int a1]) (dq D_X10_freeNow 15 rfl) cv_X10_holders ml_RX10_339 (itg hq3).1 (m_X10_holders hq3) rfl rfl (Nat.le_of_ble_eq_true rfl) ⟨Nat.le_of_ble_eq_true rfl, Nat.le_of_ble_eq_true rfl⟩ ⟨Nat.le_of_ble_eq_true rfl, Nat.le_of_ble_eq_true rfl⟩ ?_
      refine v_if_ne (dq D_X10_freeNow 16 rfl) rfl (fun c4 => ?_) (fun c4 => ?_)
      · have h := itn h c4
        refine v_iconst (dq D_X10_freeNow 21 rfl) kc_0 ?_
        exact v_sub [0, 1, 3] rfl (w_X10_freeNow_34 ih h)
      · have h := itp h c4
        refine v_iconst (dq D_X10_freeNow 17 rfl) kc_1 ?_
        refine v_iload_n (dq D_X10_freeNow 18 rfl) 3 rfl ?_
        refine v_ishl (dq D_X10_freeNow 19 rfl) ?_
        refine v_goto (dq D_X10_freeNow 20 rfl) rfl ?_
        exact v_sub [0, 1, 3] rfl (w_X10_freeNow_34 ih h)
theorem w_X10_freeNow_0 {sa : Env3} {a0 : Nat} {σ : St} {r : Int32 × St} (h : f_X10_freeNow_0 a0 σ = some r) : VV sa cX10_freeNow K_X10_freeNow 0 [(0, .ref a0)] [] σ (pO r) 0 0 := by
  unfold f_X10_freeNow_0 at h
  refine v_aload_n (dq D_X10_freeNow 0 rfl) 0 rfl ?_
  obtain ⟨q1, hq1, h⟩ := obi h
  refine v_cVi (bc := 0) (bs := 0) (As := []) (dq D_X10_freeNow 1 rfl) cv_X10_letGoNow ml_RX10_336 (itg hq1).1 (m_X10_letGoNow hq1) rfl rfl (Nat.le_of_ble_eq_true rfl) ⟨Nat.le_of_ble_eq_true rfl, Nat.le_of_ble_eq_true rfl⟩ ⟨Nat.le_of_ble_eq_true rfl, Nat.le_of_ble_eq_true rfl⟩ ?_
  refine v_istore_n (dq D_X10_freeNow 2 rfl) [(1, .int q1.1), (0, .ref a0)] rfl (Nat.le_of_ble_eq_true rfl) rfl ?_
  refine v_iconst (dq D_X10_freeNow 3 rfl) kc_0 ?_
  refine v_istore_n (dq D_X10_freeNow 4 rfl) [(2, .int 0), (1, .int q1.1), (0, .ref a0)] rfl (Nat.le_of_ble_eq_true rfl) rfl ?_
  refine v_iconst (dq D_X10_freeNow 5 rfl) kc_0 ?_
  refine v_istore_n (dq D_X10_freeNow 6 rfl) [(3, .int 0), (2, .int 0), (1, .int q1.1), (0, .ref a0)] rfl (Nat.le_of_ble_eq_true rfl) rfl ?_
  exact v_sub [3, 2, 1, 0] rfl (w_X10_freeNow_9 _ h)
theorem m_X10_freeNow {sa : Env3} {a0 : Nat} {σ : St} {r : Int32 × St} (h : f_X10_freeNow a0 σ = some r) : Ex sa yX10_freeNow cX10_freeNow K_X10_freeNow [.ref a0] σ (pO r) := Ex.of (by decide) rfl (fun q => nomatch q) (Nat.le_of_ble_eq_true rfl) (w_X10_freeNow_0 (itg h).2)
theorem w_X10_lowestFree_7 {sa : Env3} : ∀ (n : Nat) {a0 : Nat} {a1 : Int32} {a2 : Int32} {σ : St} {r : Int32 × St}, f_X10_lowestFree_7 n a0 a1 a2 σ = some r → VV sa cX10_lowestFree K_X10_lowestFree 7 [(0, .ref a0), (1, .int a1), (2, .int a2)] [] σ (pO r) 0 0 := by
  intro n
  induction n with
  | zero => intro a0 a1 a2 σ r h; cases h
  | succ n ih =>
    intro a0 a1 a2 σ r h
    rw [e_X10_lowestFree_7] at h
    refine v_iload_n (dq D_X10_lowestFree 5 rfl) 2 rfl ?_
    refine v_aload_n (dq D_X10_lowestFree 6 rfl) 0 rfl ?_
    obtain ⟨x1, hx1, h⟩ := obi h
    refine v_gI (dq D_X10_lowestFree 7 rfl) fa_RX10_315 hx1 ?_
    refine v_icmp_ge (dq D_X10_lowestFree 8 rfl) rfl (fun c2 => ?_) (fun c2 => ?_)
    · have h := itp h c2
      refine v_iconst (dq D_X10_lowestFree 17 rfl) kc_m1 ?_
      obtain rfl := Option.some.inj h
      exact v_iret (dq D_X10_lowestFree 18 rfl) rfl ⟨rfl, rfl⟩
    · have h := itn h c2
      refine v_iload_n (dq D_X10_lowestFree 9 rfl) 1 rfl ?_
      refine v_iload_n (dq D_X10_lowestFree 10 rfl) 2 rfl ?_
      obtain ⟨q3, hq3, h⟩ := obi h
      refine v_cSi (bc := 0) (bs := 0) (As := [.int a1, .int a2]) (dq D_X10_lowestFree 11 rfl) cs_X10_bit ml_RX10_280 (m_X10_bit hq3) rfl rfl (Nat.le_of_ble_eq_true rfl) ⟨Nat.le_of_ble_eq_true rfl, Nat.le_of_ble_eq_true rfl⟩ ⟨Nat.le_of_ble_eq_true rfl, Nat.le_of_ble_eq_true rfl⟩ ?_
      refine v_if_eq (dq D_X10_lowestFree 12 rfl) rfl (fun c4 => ?_) (fun c4 => ?_)
      · have h := itp h c4
        refine v_iinc (dq D_X10_lowestFree 15 rfl) 2 [(2, .int (a2 + 1)), (0, .ref a0), (1, .int a1)] rfl kc_1 (Nat.le_of_ble_eq_true rfl) rfl ?_
        refine v_goto (dq D_X10_lowestFree 16 rfl) rfl ?_
        exact v_sub [1, 2, 0] rfl (ih h)
      · have h := itn h c4
        refine v_iload_n (dq D_X10_lowestFree 13 rfl) 2 rfl ?_
        obtain rfl := Option.some.inj h
        exact v_iret (dq D_X10_lowestFree 14 rfl) rfl ⟨rfl, rfl⟩
theorem w_X10_lowestFree_0 {sa : Env3} {a0 : Nat} {σ : St} {r : Int32 × St} (h : f_X10_lowestFree_0 a0 σ = some r) : VV sa cX10_lowestFree K_X10_lowestFree 0 [(0, .ref a0)] [] σ (pO r) 0 0 := by
  unfold f_X10_lowestFree_0 at h
  refine v_aload_n (dq D_X10_lowestFree 0 rfl) 0 rfl ?_
  obtain ⟨q1, hq1, h⟩ := obi h
  refine v_cVi (bc := 0) (bs := 0) (As := []) (dq D_X10_lowestFree 1 rfl) cv_X10_freeNow ml_RX10_342 (itg hq1).1 (m_X10_freeNow hq1) rfl rfl (Nat.le_of_ble_eq_true rfl) ⟨Nat.le_of_ble_eq_true rfl, Nat.le_of_ble_eq_true rfl⟩ ⟨Nat.le_of_ble_eq_true rfl, Nat.le_of_ble_eq_true rfl⟩ ?_
  refine v_istore_n (dq D_X10_lowestFree 2 rfl) [(1, .int q1.1), (0, .ref a0)] rfl (Nat.le_of_ble_eq_true rfl) rfl ?_
  refine v_iconst (dq D_X10_lowestFree 3 rfl) kc_0 ?_
  refine v_istore_n (dq D_X10_lowestFree 4 rfl) [(2, .int 0), (1, .int q1.1), (0, .ref a0)] rfl (Nat.le_of_ble_eq_true rfl) rfl ?_
  exact v_sub [2, 1, 0] rfl (w_X10_lowestFree_7 _ h)
theorem m_X10_lowestFree {sa : Env3} {a0 : Nat} {σ : St} {r : Int32 × St} (h : f_X10_lowestFree a0 σ = some r) : Ex sa yX10_lowestFree cX10_lowestFree K_X10_lowestFree [.ref a0] σ (pO r) := Ex.of (by decide) rfl (fun q => nomatch q) (Nat.le_of_ble_eq_true rfl) (w_X10_lowestFree_0 (itg h).2)
theorem w_X10_whyNoFetch_87 {sa : Env3} {s0 : Int32} {σ : St} {r : Int32 × St} (h : f_X10_whyNoFetch_87 s0 σ = some r) : VV sa cX10_whyNoFetch K_X10_whyNoFetch 87 [] [.int s0] σ (pO r) 0 0 := by
  unfold f_X10_whyNoFetch_87 at h
  obtain rfl := Option.some.inj h
  exact v_iret (dq D_X10_whyNoFetch 48 rfl) rfl ⟨rfl, rfl⟩
theorem w_X10_whyNoFetch_86 {sa : Env3}  {σ : St} {r : Int32 × St} (h : f_X10_whyNoFetch_86  σ = some r) : VV sa cX10_whyNoFetch K_X10_whyNoFetch 86 [] [] σ (pO r) 0 0 := by
  unfold f_X10_whyNoFetch_86 at h
  refine v_iconst (dq D_X10_whyNoFetch 47 rfl) kc_0 ?_
  exact w_X10_whyNoFetch_87 h
theorem w_X10_whyNoFetch_0 {sa : Env3} {a0 : Nat} {σ : St} {r : Int32 × St} (h : f_X10_whyNoFetch_0 a0 σ = some r) : VV sa cX10_whyNoFetch K_X10_whyNoFetch 0 [(0, .ref a0)] [] σ (pO r) 0 0 := by
  unfold f_X10_whyNoFetch_0 at h
  refine v_aload_n (dq D_X10_whyNoFetch 0 rfl) 0 rfl ?_
  obtain ⟨x1, hx1, h⟩ := obi h
  refine v_gR (dq D_X10_whyNoFetch 1 rfl) fa_RX10_24 hx1 ?_
  refine v_bipush (dq D_X10_whyNoFetch 2 rfl) kb_36 ?_
  obtain ⟨x2, hx2, h⟩ := obi h
  refine v_iald (dq D_X10_whyNoFetch 3 rfl) hx2 ?_
  refine v_iconst (dq D_X10_whyNoFetch 4 rfl) kc_1 ?_
  refine v_icmp_ne (dq D_X10_whyNoFetch 5 rfl) rfl (fun c3 => ?_) (fun c3 => ?_)
  · have h := itn h c3
    refine v_aload_n (dq D_X10_whyNoFetch 8 rfl) 0 rfl ?_
    obtain ⟨x4, hx4, h⟩ := obi h
    refine v_gR (dq D_X10_whyNoFetch 9 rfl) fa_RX10_24 hx4 ?_
    refine v_bipush (dq D_X10_whyNoFetch 10 rfl) kb_35 ?_
    obtain ⟨x5, hx5, h⟩ := obi h
    refine v_iald (dq D_X10_whyNoFetch 11 rfl) hx5 ?_
    refine v_istore_n (dq D_X10_whyNoFetch 12 rfl) [(1, .int x5), (0, .ref a0)] rfl (Nat.le_of_ble_eq_true rfl) rfl ?_
    refine v_aload_n (dq D_X10_whyNoFetch 13 rfl) 1 rfl ?_
    obtain ⟨x6, hx6, h⟩ := obi h
    refine v_gR (dq D_X10_whyNoFetch 14 rfl) fa_RX10_266 hx6 ?_
    refine v_iload_n (dq D_X10_whyNoFetch 15 rfl) 0 rfl ?_
    obtain ⟨q7, hq7, h⟩ := obi h
    refine v_cVi (bc := 0) (bs := 0) (As := [.int x5]) (dq D_X10_whyNoFetch 16 rfl) cv_X9_isStep ml_RX10_237 (itg hq7).1 (m_X9_isStep hq7) rfl rfl (Nat.le_of_ble_eq_true rfl) ⟨Nat.le_of_ble_eq_true rfl, Nat.le_of_ble_eq_true rfl⟩ ⟨Nat.le_of_ble_eq_true rfl, Nat.le_of_ble_eq_true rfl⟩ ?_
    refine v_if_ne (dq D_X10_whyNoFetch 17 rfl) rfl (fun c8 => ?_) (fun c8 => ?_)
    · have h := itn h c8
      refine v_aload_n (dq D_X10_whyNoFetch 20 rfl) 1 rfl ?_
      obtain ⟨x9, hx9, h⟩ := obi h
      refine v_gR (dq D_X10_whyNoFetch 21 rfl) fa_RX10_24 hx9 ?_
      refine v_bipush (dq D_X10_whyNoFetch 22 rfl) kb_34 ?_
      obtain ⟨x10, hx10, h⟩ := obi h
      refine v_iald (dq D_X10_whyNoFetch 23 rfl) hx10 ?_
      refine v_aload_n (dq D_X10_whyNoFetch 24 rfl) 1 rfl ?_
      obtain ⟨x11, hx11, h⟩ := obi h
      refine v_gR (dq D_X10_whyNoFetch 25 rfl) fa_RX10_266 hx11 ?_
      obtain ⟨x12, hx12, h⟩ := obi h
      refine v_gI (dq D_X10_whyNoFetch 26 rfl) fa_RX10_197 hx12 ?_
      refine v_icmp_ne (dq D_X10_whyNoFetch 27 rfl) rfl (fun c13 => ?_) (fun c13 => ?_)
      · have h := itn h c13
        refine v_aload_n (dq D_X10_whyNoFetch 30 rfl) 1 rfl ?_
        obtain ⟨x14, hx14, h⟩ := obi h
        refine v_gR (dq D_X10_whyNoFetch 31 rfl) fa_RX10_266 hx14 ?_
        obtain ⟨x15, hx15, h⟩ := obi h
        refine v_gR (dq D_X10_whyNoFetch 32 rfl) fa_RX10_217 hx15 ?_
        refine v_iload_n (dq D_X10_whyNoFetch 33 rfl) 0 rfl ?_
        obtain ⟨x16, hx16, h⟩ := obi h
        refine v_iald (dq D_X10_whyNoFetch 34 rfl) hx16 ?_
        refine v_iconst (dq D_X10_whyNoFetch 35 rfl) kc_5 ?_
        refine v_icmp_eq (dq D_X10_whyNoFetch 36 rfl) rfl (fun c17 => ?_) (fun c17 => ?_)
        · have h := itp h c17
          exact v_sub [] rfl (w_X10_whyNoFetch_86 h)
        · have h := itn h c17
          refine v_aload_n (dq D_X10_whyNoFetch 37 rfl) 1 rfl ?_
          refine v_iload_n (dq D_X10_whyNoFetch 38 rfl) 0 rfl ?_
          obtain ⟨q18, hq18, h⟩ := obi h
          refine v_cVi (bc := 0) (bs := 0) (As := [.int x5]) (dq D_X10_whyNoFetch 39 rfl) cv_X10_isMerging ml_RX10_348 (itg hq18).1 (m_X10_isMerging hq18) rfl rfl (Nat.le_of_ble_eq_true rfl) ⟨Nat.le_of_ble_eq_true rfl, Nat.le_of_ble_eq_true rfl⟩ ⟨Nat.le_of_ble_eq_true rfl, Nat.le_of_ble_eq_true rfl⟩ ?_
          refine v_if_ne (dq D_X10_whyNoFetch 40 rfl) rfl (fun c19 => ?_) (fun c19 => ?_)
          · have h := itn h c19
            exact v_sub [] rfl (w_X10_whyNoFetch_86 h)
          · have h := itp h c19
            refine v_aload_n (dq D_X10_whyNoFetch 41 rfl) 1 rfl ?_
            obtain ⟨q20, hq20, h⟩ := obi h
            refine v_cVi (bc := 0) (bs := 0) (As := []) (dq D_X10_whyNoFetch 42 rfl) cv_X10_lowestFree ml_RX10_351 (itg hq20).1 (m_X10_lowestFree hq20) rfl rfl (Nat.le_of_ble_eq_true rfl) ⟨Nat.le_of_ble_eq_true rfl, Nat.le_of_ble_eq_true rfl⟩ ⟨Nat.le_of_ble_eq_true rfl, Nat.le_of_ble_eq_true rfl⟩ ?_
            refine v_iconst (dq D_X10_whyNoFetch 43 rfl) kc_m1 ?_
            refine v_icmp_ne (dq D_X10_whyNoFetch 44 rfl) rfl (fun c21 => ?_) (fun c21 => ?_)
            · have h := itn h c21
              exact v_sub [] rfl (w_X10_whyNoFetch_86 h)
            · have h := itp h c21
              refine v_iconst (dq D_X10_whyNoFetch 45 rfl) kc_4 ?_
              refine v_goto (dq D_X10_whyNoFetch 46 rfl) rfl ?_
              exact v_sub [] rfl (w_X10_whyNoFetch_87 h)
      · have h := itp h c13
        refine v_iconst (dq D_X10_whyNoFetch 28 rfl) kc_3 ?_
        obtain rfl := Option.some.inj h
        exact v_iret (dq D_X10_whyNoFetch 29 rfl) rfl ⟨rfl, rfl⟩
    · have h := itp h c8
      refine v_iconst (dq D_X10_whyNoFetch 18 rfl) kc_2 ?_
      obtain rfl := Option.some.inj h
      exact v_iret (dq D_X10_whyNoFetch 19 rfl) rfl ⟨rfl, rfl⟩
  · have h := itp h c3
    refine v_iconst (dq D_X10_whyNoFetch 6 rfl) kc_1 ?_
    obtain rfl := Option.some.inj h
    exact v_iret (dq D_X10_whyNoFetch 7 rfl) rfl ⟨rfl, rfl⟩
theorem m_X10_whyNoFetch {sa : Env3} {a0 : Nat} {σ : St} {r : Int32 × St} (h : f_X10_whyNoFetch a0 σ = some r) : Ex sa yX10_whyNoFetch cX10_whyNoFetch K_X10_whyNoFetch [.ref a0] σ (pO r) := Ex.of (by decide) rfl (fun q => nomatch q) (Nat.le_of_ble_eq_true rfl) (w_X10_whyNoFetch_0 (itg h).2)
theorem w_X10_savesNow_31 {sa : Env3} {k4 : Nat → Int32 → Int32 → St → Option (Int32 × St)} (hk4 : ∀ {a0 : Nat} {a1 : Int32} {a2 : Int32} {σ : St} {r : Int32 × St}, k4 a0 a1 a2 σ = some r → VV sa cX10_savesNow K_X10_savesNow 4 [(0, .ref a0), (1, .int a1), (2, .int a2)] [] σ (pO r) 0 0) {a0 : Nat} {a2 : Int32} {s0 : Int32} {s1 : Int32} {σ : St} {r : Int32 × St} (h : f_X10_savesNow_31 k4 a0 a2 s0 s1 σ = some r) : VV sa cX10_savesNow K_X10_savesNow 31 [(0, .ref a0), (2, .int a2)] [.int s1, .int s0] σ (pO r) 0 0 := by
  unfold f_X10_savesNow_31 at h
  refine v_iadd (dq D_X10_savesNow 19 rfl) ?_
  obtain ⟨x1, ex1, h⟩ := bnd_inv h
  refine v_top (congrArg Value.int ex1) ?_
  refine v_istore_n (dq D_X10_savesNow 20 rfl) [(1, .int x1), (0, .ref a0), (2, .int a2)] rfl (Nat.le_of_ble_eq_true rfl) rfl ?_
  refine v_iinc (dq D_X10_savesNow 21 rfl) 2 [(2, .int (a2 + 1)), (1, .int x1), (0, .ref a0)] rfl kc_1 (Nat.le_of_ble_eq_true rfl) rfl ?_
  refine v_goto (dq D_X10_savesNow 22 rfl) rfl ?_
  exact v_sub [2, 1, 0] rfl (hk4 h)
theorem w_X10_savesNow_4 {sa : Env3} : ∀ (n : Nat) {a0 : Nat} {a1 : Int32} {a2 : Int32} {σ : St} {r : Int32 × St}, f_X10_savesNow_4 n a0 a1 a2 σ = some r → VV sa cX10_savesNow K_X10_savesNow 4 [(0, .ref a0), (1, .int a1), (2, .int a2)] [] σ (pO r) 0 0 := by
  intro n
  induction n with
  | zero => intro a0 a1 a2 σ r h; cases h
  | succ n ih =>
    intro a0 a1 a2 σ r h
    rw [e_X10_savesNow_4] at h
    refine v_iload_n (dq D_X10_savesNow 4 rfl) 2 rfl ?_
    refine v_aload_n (dq D_X10_savesNow 5 rfl) 0 rfl ?_
    obtain ⟨x1, hx1, h⟩ := obi h
    refine v_gR (dq D_X10_savesNow 6 rfl) fa_RX10_24 hx1 ?_
    refine v_bipush (dq D_X10_savesNow 7 rfl) kb_34 ?_
    obtain ⟨x2, hx2, h⟩ := obi h
    refine v_iald (dq D_X10_savesNow 8 rfl) hx2 ?_
    refine v_icmp_ge (dq D_X10_savesNow 9 rfl) rfl (fun c3 => ?_) (fun c3 => ?_)
    · have h := itp h c3
      refine v_iload_n (dq D_X10_savesNow 23 rfl) 1 rfl ?_
      obtain rfl := Option.some.inj h
      exact v_iret (dq D_X10_savesNow 24 rfl) rfl ⟨rfl, rfl⟩
    · have h := itn h c3
      refine v_iload_n (dq D_X10_savesNow 10 rfl) 1 rfl ?_
      refine v_aload_n (dq D_X10_savesNow 11 rfl) 0 rfl ?_
      refine v_iload_n (dq D_X10_savesNow 12 rfl) 2 rfl ?_
      refine v_bipush (dq D_X10_savesNow 13 rfl) kb_8 ?_
      obtain ⟨q4, hq4, h⟩ := obi h
      refine v_cVi (bc := 0) (bs := 0) (As := [.int a2, .int 8]) (dq D_X10_savesNow 14 rfl) cv_X10_has ml_RX10_322 (itg hq4).1 (m_X10_has hq4) rfl rfl (Nat.le_of_ble_eq_true rfl) ⟨Nat.le_of_ble_eq_true rfl, Nat.le_of_ble_eq_true rfl⟩ ⟨Nat.le_of_ble_eq_true rfl, Nat.le_of_ble_eq_true rfl⟩ ?_
      refine v_if_eq (dq D_X10_savesNow 15 rfl) rfl (fun c5 => ?_) (fun c5 => ?_)
      · have h := itp h c5
        refine v_iconst (dq D_X10_savesNow 18 rfl) kc_0 ?_
        exact v_sub [0, 2] rfl (w_X10_savesNow_31 ih h)
      · have h := itn h c5
        refine v_iconst (dq D_X10_savesNow 16 rfl) kc_1 ?_
        refine v_goto (dq D_X10_savesNow 17 rfl) rfl ?_
        exact v_sub [0, 2] rfl (w_X10_savesNow_31 ih h)
theorem w_X10_savesNow_0 {sa : Env3} {a0 : Nat} {σ : St} {r : Int32 × St} (h : f_X10_savesNow_0 a0 σ = some r) : VV sa cX10_savesNow K_X10_savesNow 0 [(0, .ref a0)] [] σ (pO r) 0 0 := by
  unfold f_X10_savesNow_0 at h
  refine v_iconst (dq D_X10_savesNow 0 rfl) kc_0 ?_
  refine v_istore_n (dq D_X10_savesNow 1 rfl) [(1, .int 0), (0, .ref a0)] rfl (Nat.le_of_ble_eq_true rfl) rfl ?_
  refine v_iconst (dq D_X10_savesNow 2 rfl) kc_0 ?_
  refine v_istore_n (dq D_X10_savesNow 3 rfl) [(2, .int 0), (1, .int 0), (0, .ref a0)] rfl (Nat.le_of_ble_eq_true rfl) rfl ?_
  exact v_sub [2, 1, 0] rfl (w_X10_savesNow_4 _ h)
theorem m_X10_savesNow {sa : Env3} {a0 : Nat} {σ : St} {r : Int32 × St} (h : f_X10_savesNow a0 σ = some r) : Ex sa yX10_savesNow cX10_savesNow K_X10_savesNow [.ref a0] σ (pO r) := Ex.of (by decide) rfl (fun q => nomatch q) (Nat.le_of_ble_eq_true rfl) (w_X10_savesNow_0 (itg h).2)
theorem w_X10_fetches_367 {sa : Env3} {a0 : Nat} {a1 : Int32} {s0 : Nat} {s1 : Int32} {s2 : Int32} {s3 : Int32} {σ : St} {r : Int32 × St} (h : f_X10_fetches_367 a0 a1 s0 s1 s2 s3 σ = some r) : VV sa cX10_fetches K_X10_fetches 367 [(0, .ref a0), (1, .int a1)] [.int s3, .int s2, .int s1, .ref s0] σ (pO r) 0 0 := by
  unfold f_X10_fetches_367 at h
  refine v_ior (dq D_X10_fetches 206 rfl) ?_
  obtain ⟨σ1, hσ1, h⟩ := obi h
  refine v_iast (dq D_X10_fetches 207 rfl) hσ1 ?_
  refine v_aload_n (dq D_X10_fetches 208 rfl) 0 rfl ?_
  obtain ⟨x2, hx2, h⟩ := obi h
  refine v_gR (dq D_X10_fetches 209 rfl) fa_RX10_24 hx2 ?_
  refine v_bipush (dq D_X10_fetches 210 rfl) kb_34 ?_
  refine v_dup2 (dq D_X10_fetches 211 rfl) rfl rfl ?_
  obtain ⟨x3, hx3, h⟩ := obi h
  refine v_iald (dq D_X10_fetches 212 rfl) hx3 ?_
  refine v_iconst (dq D_X10_fetches 213 rfl) kc_1 ?_
  refine v_iadd (dq D_X10_fetches 214 rfl) ?_
  obtain ⟨σ4, hσ4, h⟩ := obi h
  refine v_iast (dq D_X10_fetches 215 rfl) hσ4 ?_
  refine v_aload_n (dq D_X10_fetches 216 rfl) 0 rfl ?_
  obtain ⟨x5, hx5, h⟩ := obi h
  refine v_gR (dq D_X10_fetches 217 rfl) fa_RX10_24 hx5 ?_
  refine v_bipush (dq D_X10_fetches 218 rfl) kb_35 ?_
  refine v_aload_n (dq D_X10_fetches 219 rfl) 0 rfl ?_
  refine v_iload_n (dq D_X10_fetches 220 rfl) 1 rfl ?_
  obtain ⟨q6, hq6, h⟩ := obi h
  refine v_cVi (bc := 0) (bs := 0) (As := [.int a1]) (dq D_X10_fetches 221 rfl) cv_X10_guessed ml_RX10_299 (itg hq6).1 (m_X10_guessed hq6) rfl rfl (Nat.le_of_ble_eq_true rfl) ⟨Nat.le_of_ble_eq_true rfl, Nat.le_of_ble_eq_true rfl⟩ ⟨Nat.le_of_ble_eq_true rfl, Nat.le_of_ble_eq_true rfl⟩ ?_
  obtain ⟨σ7, hσ7, h⟩ := obi h
  refine v_iast (dq D_X10_fetches 222 rfl) hσ7 ?_
  refine v_iload_n (dq D_X10_fetches 223 rfl) 1 rfl ?_
  obtain rfl := Option.some.inj h
  exact v_iret (dq D_X10_fetches 224 rfl) rfl ⟨rfl, rfl⟩
theorem w_X10_fetches_356 {sa : Env3} {a0 : Nat} {a1 : Int32} {a6 : Int32} {s0 : Nat} {s1 : Int32} {s2 : Int32} {σ : St} {r : Int32 × St} (h : f_X10_fetches_356 a0 a1 a6 s0 s1 s2 σ = some r) : VV sa cX10_fetches K_X10_fetches 356 [(0, .ref a0), (1, .int a1), (6, .int a6)] [.int s2, .int s1, .ref s0] σ (pO r) 0 0 := by
  unfold f_X10_fetches_356 at h
  refine v_iload (dq D_X10_fetches 201 rfl) 2 rfl ?_
  refine v_if_eq (dq D_X10_fetches 202 rfl) rfl (fun c1 => ?_) (fun c1 => ?_)
  · have h := itp h c1
    refine v_iconst (dq D_X10_fetches 205 rfl) kc_0 ?_
    exact v_sub [0, 1] rfl (w_X10_fetches_367 h)
  · have h := itn h c1
    refine v_bipush (dq D_X10_fetches 203 rfl) kb_8 ?_
    refine v_goto (dq D_X10_fetches 204 rfl) rfl ?_
    exact v_sub [0, 1] rfl (w_X10_fetches_367 h)
theorem w_X10_fetches_276 {sa : Env3} {k237 : Nat → Int32 → Int32 → Int32 → Int32 → Int32 → Int32 → Int32 → Int32 → St → Option (Int32 × St)} (hk237 : ∀ {a0 : Nat} {a1 : Int32} {a2 : Int32} {a3 : Int32} {a4 : Int32} {a5 : Int32} {a6 : Int32} {a7 : Int32} {a8 : Int32} {σ : St} {r : Int32 × St}, k237 a0 a1 a2 a3 a4 a5 a6 a7 a8 σ = some r → VV sa cX10_fetches K_X10_fetches 237 [(0, .ref a0), (1, .int a1), (2, .int a2), (3, .int a3), (4, .int a4), (5, .int a5), (6, .int a6), (7, .int a7), (8, .int a8)] [] σ (pO r) 0 0) {a0 : Nat} {a1 : Int32} {a2 : Int32} {a3 : Int32} {a4 : Int32} {a5 : Int32} {a6 : Int32} {a7 : Int32} {a8 : Int32} {s0 : Nat} {s1 : Int32} {s2 : Int32} {σ : St} {r : Int32 × St} (h : f_X10_fetches_276 k237 a0 a1 a2 a3 a4 a5 a6 a7 a8 s0 s1 s2 σ = some r) : VV sa cX10_fetches K_X10_fetches 276 [(0, .ref a0), (1, .int a1), (2, .int a2), (3, .int a3), (4, .int a4), (5, .int a5), (6, .int a6), (7, .int a7), (8, .int a8)] [.int s2, .int s1, .ref s0] σ (pO r) 0 0 := by
  unfold f_X10_fetches_276 at h
  obtain ⟨σ1, hσ1, h⟩ := obi h
  refine v_iast (dq D_X10_fetches 152 rfl) hσ1 ?_
  refine v_iinc (dq D_X10_fetches 153 rfl) 8 [(8, .int (a8 + 1)), (0, .ref a0), (1, .int a1), (2, .int a2), (3, .int a3), (4, .int a4), (5, .int a5), (6, .int a6), (7, .int a7)] rfl kc_1 (Nat.le_of_ble_eq_true rfl) rfl ?_
  refine v_goto (dq D_X10_fetches 154 rfl) rfl ?_
  exact v_sub [1, 2, 3, 4, 5, 6, 7, 8, 0] rfl (hk237 h)
theorem w_X10_fetches_237 {sa : Env3} : ∀ (n : Nat) {a0 : Nat} {a1 : Int32} {a2 : Int32} {a3 : Int32} {a4 : Int32} {a5 : Int32} {a6 : Int32} {a7 : Int32} {a8 : Int32} {σ : St} {r : Int32 × St}, f_X10_fetches_237 n a0 a1 a2 a3 a4 a5 a6 a7 a8 σ = some r → VV sa cX10_fetches K_X10_fetches 237 [(0, .ref a0), (1, .int a1), (2, .int a2), (3, .int a3), (4, .int a4), (5, .int a5), (6, .int a6), (7, .int a7), (8, .int a8)] [] σ (pO r) 0 0 := by
  intro n
  induction n with
  | zero => intro a0 a1 a2 a3 a4 a5 a6 a7 a8 σ r h; cases h
  | succ n ih =>
    intro a0 a1 a2 a3 a4 a5 a6 a7 a8 σ r h
    rw [e_X10_fetches_237] at h
    refine v_iload (dq D_X10_fetches 130 rfl) 8 rfl ?_
    refine v_bipush (dq D_X10_fetches 131 rfl) kb_8 ?_
    refine v_icmp_ge (dq D_X10_fetches 132 rfl) rfl (fun c1 => ?_) (fun c1 => ?_)
    · have h := itp h c1
      refine v_aload_n (dq D_X10_fetches 155 rfl) 0 rfl ?_
      obtain ⟨x2, hx2, h⟩ := obi h
      refine v_gR (dq D_X10_fetches 156 rfl) fa_RX10_24 hx2 ?_
      refine v_aload_n (dq D_X10_fetches 157 rfl) 0 rfl ?_
      refine v_iload_n (dq D_X10_fetches 158 rfl) 2 rfl ?_
      obtain ⟨q3, hq3, h⟩ := obi h
      refine v_cVi (bc := 0) (bs := 0) (As := [.int a2]) (dq D_X10_fetches 159 rfl) cv_X10_at ml_RX10_316 (itg hq3).1 (m_X10_at hq3) rfl rfl (Nat.le_of_ble_eq_true rfl) ⟨Nat.le_of_ble_eq_true rfl, Nat.le_of_ble_eq_true rfl⟩ ⟨Nat.le_of_ble_eq_true rfl, Nat.le_of_ble_eq_true rfl⟩ ?_
      refine v_iload_n (dq D_X10_fetches 160 rfl) 1 rfl ?_
      obtain ⟨σ4, hσ4, h⟩ := obi h
      refine v_iast (dq D_X10_fetches 161 rfl) hσ4 ?_
      refine v_aload_n (dq D_X10_fetches 162 rfl) 0 rfl ?_
      obtain ⟨x5, hx5, h⟩ := obi h
      refine v_gR (dq D_X10_fetches 163 rfl) fa_RX10_24 hx5 ?_
      refine v_aload_n (dq D_X10_fetches 164 rfl) 0 rfl ?_
      refine v_iload_n (dq D_X10_fetches 165 rfl) 2 rfl ?_
      obtain ⟨q6, hq6, h⟩ := obi h
      refine v_cVi (bc := 0) (bs := 0) (As := [.int a2]) (dq D_X10_fetches 166 rfl) cv_X10_at ml_RX10_316 (itg hq6).1 (m_X10_at hq6) rfl rfl (Nat.le_of_ble_eq_true rfl) ⟨Nat.le_of_ble_eq_true rfl, Nat.le_of_ble_eq_true rfl⟩ ⟨Nat.le_of_ble_eq_true rfl, Nat.le_of_ble_eq_true rfl⟩ ?_
      refine v_iconst (dq D_X10_fetches 167 rfl) kc_1 ?_
      refine v_iadd (dq D_X10_fetches 168 rfl) ?_
      refine v_iload (dq D_X10_fetches 169 rfl) 7 rfl ?_
      obtain ⟨σ7, hσ7, h⟩ := obi h
      refine v_iast (dq D_X10_fetches 170 rfl) hσ7 ?_
      refine v_aload_n (dq D_X10_fetches 171 rfl) 0 rfl ?_
      obtain ⟨x8, hx8, h⟩ := obi h
      refine v_gR (dq D_X10_fetches 172 rfl) fa_RX10_24 hx8 ?_
      refine v_aload_n (dq D_X10_fetches 173 rfl) 0 rfl ?_
      refine v_iload_n (dq D_X10_fetches 174 rfl) 2 rfl ?_
      obtain ⟨q9, hq9, h⟩ := obi h
      refine v_cVi (bc := 0) (bs := 0) (As := [.int a2]) (dq D_X10_fetches 175 rfl) cv_X10_at ml_RX10_316 (itg hq9).1 (m_X10_at hq9) rfl rfl (Nat.le_of_ble_eq_true rfl) ⟨Nat.le_of_ble_eq_true rfl, Nat.le_of_ble_eq_true rfl⟩ ⟨Nat.le_of_ble_eq_true rfl, Nat.le_of_ble_eq_true rfl⟩ ?_
      refine v_iconst (dq D_X10_fetches 176 rfl) kc_2 ?_
      refine v_iadd (dq D_X10_fetches 177 rfl) ?_
      refine v_iload_n (dq D_X10_fetches 178 rfl) 3 rfl ?_
      obtain ⟨σ10, hσ10, h⟩ := obi h
      refine v_iast (dq D_X10_fetches 179 rfl) hσ10 ?_
      refine v_aload_n (dq D_X10_fetches 180 rfl) 0 rfl ?_
      obtain ⟨x11, hx11, h⟩ := obi h
      refine v_gR (dq D_X10_fetches 181 rfl) fa_RX10_24 hx11 ?_
      refine v_aload_n (dq D_X10_fetches 182 rfl) 0 rfl ?_
      refine v_iload_n (dq D_X10_fetches 183 rfl) 2 rfl ?_
      obtain ⟨q12, hq12, h⟩ := obi h
      refine v_cVi (bc := 0) (bs := 0) (As := [.int a2]) (dq D_X10_fetches 184 rfl) cv_X10_at ml_RX10_316 (itg hq12).1 (m_X10_at hq12) rfl rfl (Nat.le_of_ble_eq_true rfl) ⟨Nat.le_of_ble_eq_true rfl, Nat.le_of_ble_eq_true rfl⟩ ⟨Nat.le_of_ble_eq_true rfl, Nat.le_of_ble_eq_true rfl⟩ ?_
      refine v_iconst (dq D_X10_fetches 185 rfl) kc_3 ?_
      refine v_iadd (dq D_X10_fetches 186 rfl) ?_
      refine v_iload (dq D_X10_fetches 187 rfl) 4 rfl ?_
      obtain ⟨σ13, hσ13, h⟩ := obi h
      refine v_iast (dq D_X10_fetches 188 rfl) hσ13 ?_
      refine v_aload_n (dq D_X10_fetches 189 rfl) 0 rfl ?_
      obtain ⟨x14, hx14, h⟩ := obi h
      refine v_gR (dq D_X10_fetches 190 rfl) fa_RX10_24 hx14 ?_
      refine v_aload_n (dq D_X10_fetches 191 rfl) 0 rfl ?_
      refine v_iload_n (dq D_X10_fetches 192 rfl) 2 rfl ?_
      obtain ⟨q15, hq15, h⟩ := obi h
      refine v_cVi (bc := 0) (bs := 0) (As := [.int a2]) (dq D_X10_fetches 193 rfl) cv_X10_at ml_RX10_316 (itg hq15).1 (m_X10_at hq15) rfl rfl (Nat.le_of_ble_eq_true rfl) ⟨Nat.le_of_ble_eq_true rfl, Nat.le_of_ble_eq_true rfl⟩ ⟨Nat.le_of_ble_eq_true rfl, Nat.le_of_ble_eq_true rfl⟩ ?_
      refine v_iconst (dq D_X10_fetches 194 rfl) kc_4 ?_
      refine v_iadd (dq D_X10_fetches 195 rfl) ?_
      refine v_iload (dq D_X10_fetches 196 rfl) 5 rfl ?_
      refine v_if_eq (dq D_X10_fetches 197 rfl) rfl (fun c16 => ?_) (fun c16 => ?_)
      · have h := itp h c16
        refine v_iconst (dq D_X10_fetches 200 rfl) kc_0 ?_
        exact v_sub [0, 1, 6] rfl (w_X10_fetches_356 h)
      · have h := itn h c16
        refine v_iconst (dq D_X10_fetches 198 rfl) kc_5 ?_
        refine v_goto (dq D_X10_fetches 199 rfl) rfl ?_
        exact v_sub [0, 1, 6] rfl (w_X10_fetches_356 h)
    · have h := itn h c1
      refine v_aload_n (dq D_X10_fetches 133 rfl) 0 rfl ?_
      obtain ⟨x17, hx17, h⟩ := obi h
      refine v_gR (dq D_X10_fetches 134 rfl) fa_RX10_24 hx17 ?_
      refine v_aload_n (dq D_X10_fetches 135 rfl) 0 rfl ?_
      refine v_iload_n (dq D_X10_fetches 136 rfl) 2 rfl ?_
      obtain ⟨q18, hq18, h⟩ := obi h
      refine v_cVi (bc := 0) (bs := 0) (As := [.int a2]) (dq D_X10_fetches 137 rfl) cv_X10_at ml_RX10_316 (itg hq18).1 (m_X10_at hq18) rfl rfl (Nat.le_of_ble_eq_true rfl) ⟨Nat.le_of_ble_eq_true rfl, Nat.le_of_ble_eq_true rfl⟩ ⟨Nat.le_of_ble_eq_true rfl, Nat.le_of_ble_eq_true rfl⟩ ?_
      refine v_iconst (dq D_X10_fetches 138 rfl) kc_5 ?_
      refine v_iadd (dq D_X10_fetches 139 rfl) ?_
      refine v_iload (dq D_X10_fetches 140 rfl) 8 rfl ?_
      refine v_iadd (dq D_X10_fetches 141 rfl) ?_
      refine v_iload (dq D_X10_fetches 142 rfl) 6 rfl ?_
      refine v_if_eq (dq D_X10_fetches 143 rfl) rfl (fun c19 => ?_) (fun c19 => ?_)
      · have h := itp h c19
        refine v_iconst (dq D_X10_fetches 151 rfl) kc_0 ?_
        exact w_X10_fetches_276 ih h
      · have h := itn h c19
        refine v_aload_n (dq D_X10_fetches 144 rfl) 0 rfl ?_
        refine v_iload (dq D_X10_fetches 145 rfl) 8 rfl ?_
        refine v_iload_n (dq D_X10_fetches 146 rfl) 2 rfl ?_
        refine v_iconst (dq D_X10_fetches 147 rfl) kc_1 ?_
        refine v_isub (dq D_X10_fetches 148 rfl) ?_
        obtain ⟨q20, hq20, h⟩ := obi h
        refine v_cVi (bc := 0) (bs := 0) (As := [.int a8, .int (a2 - 1)]) (dq D_X10_fetches 149 rfl) cv_X10_mapOf ml_RX10_345 (itg hq20).1 (m_X10_mapOf hq20) rfl rfl (Nat.le_of_ble_eq_true rfl) ⟨Nat.le_of_ble_eq_true rfl, Nat.le_of_ble_eq_true rfl⟩ ⟨Nat.le_of_ble_eq_true rfl, Nat.le_of_ble_eq_true rfl⟩ ?_
        refine v_goto (dq D_X10_fetches 150 rfl) rfl ?_
        exact w_X10_fetches_276 ih h
theorem w_X10_fetches_234 {sa : Env3} {a0 : Nat} {a1 : Int32} {a2 : Int32} {a3 : Int32} {a4 : Int32} {a5 : Int32} {a6 : Int32} {a7 : Int32} {σ : St} {r : Int32 × St} (h : f_X10_fetches_234 a0 a1 a2 a3 a4 a5 a6 a7 σ = some r) : VV sa cX10_fetches K_X10_fetches 234 [(0, .ref a0), (1, .int a1), (2, .int a2), (3, .int a3), (4, .int a4), (5, .int a5), (6, .int a6), (7, .int a7)] [] σ (pO r) 0 0 := by
  unfold f_X10_fetches_234 at h
  refine v_iconst (dq D_X10_fetches 128 rfl) kc_0 ?_
  refine v_istore (dq D_X10_fetches 129 rfl) [(8, .int 0), (0, .ref a0), (1, .int a1), (2, .int a2), (3, .int a3), (4, .int a4), (5, .int a5), (6, .int a6), (7, .int a7)] (Nat.le_of_ble_eq_true rfl) rfl ?_
  exact v_sub [1, 2, 3, 4, 5, 6, 7, 8, 0] rfl (w_X10_fetches_237 _ h)
theorem w_X10_fetches_212 {sa : Env3} {k179 : Nat → Int32 → Int32 → Int32 → Int32 → Int32 → Int32 → Int32 → Int32 → St → Option (Int32 × St)} (hk179 : ∀ {a0 : Nat} {a1 : Int32} {a2 : Int32} {a3 : Int32} {a4 : Int32} {a5 : Int32} {a6 : Int32} {a7 : Int32} {a8 : Int32} {σ : St} {r : Int32 × St}, k179 a0 a1 a2 a3 a4 a5 a6 a7 a8 σ = some r → VV sa cX10_fetches K_X10_fetches 179 [(0, .ref a0), (1, .int a1), (2, .int a2), (3, .int a3), (4, .int a4), (5, .int a5), (6, .int a6), (7, .int a7), (8, .int a8)] [] σ (pO r) 0 0) {a0 : Nat} {a1 : Int32} {a2 : Int32} {a3 : Int32} {a4 : Int32} {a5 : Int32} {a6 : Int32} {a7 : Int32} {a8 : Int32} {σ : St} {r : Int32 × St} (h : f_X10_fetches_212 k179 a0 a1 a2 a3 a4 a5 a6 a7 a8 σ = some r) : VV sa cX10_fetches K_X10_fetches 212 [(0, .ref a0), (1, .int a1), (2, .int a2), (3, .int a3), (4, .int a4), (5, .int a5), (6, .int a6), (7, .int a7), (8, .int a8)] [] σ (pO r) 0 0 := by
  unfold f_X10_fetches_212 at h
  refine v_iinc (dq D_X10_fetches 114 rfl) 8 [(8, .int (a8 + 1)), (0, .ref a0), (1, .int a1), (2, .int a2), (3, .int a3), (4, .int a4), (5, .int a5), (6, .int a6), (7, .int a7)] rfl kc_1 (Nat.le_of_ble_eq_true rfl) rfl ?_
  refine v_goto (dq D_X10_fetches 115 rfl) rfl ?_
  exact v_sub [1, 2, 3, 4, 5, 6, 7, 8, 0] rfl (hk179 h)
theorem w_X10_fetches_179 {sa : Env3} : ∀ (n : Nat) {a0 : Nat} {a1 : Int32} {a2 : Int32} {a3 : Int32} {a4 : Int32} {a5 : Int32} {a6 : Int32} {a7 : Int32} {a8 : Int32} {σ : St} {r : Int32 × St}, f_X10_fetches_179 n a0 a1 a2 a3 a4 a5 a6 a7 a8 σ = some r → VV sa cX10_fetches K_X10_fetches 179 [(0, .ref a0), (1, .int a1), (2, .int a2), (3, .int a3), (4, .int a4), (5, .int a5), (6, .int a6), (7, .int a7), (8, .int a8)] [] σ (pO r) 0 0 := by
  intro n
  induction n with
  | zero => intro a0 a1 a2 a3 a4 a5 a6 a7 a8 σ r h; cases h
  | succ n ih =>
    intro a0 a1 a2 a3 a4 a5 a6 a7 a8 σ r h
    rw [e_X10_fetches_179] at h
    refine v_iload (dq D_X10_fetches 95 rfl) 8 rfl ?_
    refine v_bipush (dq D_X10_fetches 96 rfl) kb_8 ?_
    refine v_icmp_ge (dq D_X10_fetches 97 rfl) rfl (fun c1 => ?_) (fun c1 => ?_)
    · have h := itp h c1
      refine v_aload_n (dq D_X10_fetches 116 rfl) 0 rfl ?_
      obtain ⟨x2, hx2, h⟩ := obi h
      refine v_gR (dq D_X10_fetches 117 rfl) fa_RX10_24 hx2 ?_
      refine v_bipush (dq D_X10_fetches 118 rfl) kb_33 ?_
      refine v_dup2 (dq D_X10_fetches 119 rfl) rfl rfl ?_
      obtain ⟨x3, hx3, h⟩ := obi h
      refine v_iald (dq D_X10_fetches 120 rfl) hx3 ?_
      refine v_iconst (dq D_X10_fetches 121 rfl) kc_1 ?_
      refine v_iload (dq D_X10_fetches 122 rfl) 7 rfl ?_
      refine v_ishl (dq D_X10_fetches 123 rfl) ?_
      refine v_iconst (dq D_X10_fetches 124 rfl) kc_m1 ?_
      refine v_ixor (dq D_X10_fetches 125 rfl) ?_
      refine v_iand (dq D_X10_fetches 126 rfl) ?_
      obtain ⟨σ4, hσ4, h⟩ := obi h
      refine v_iast (dq D_X10_fetches 127 rfl) hσ4 ?_
      exact v_sub [0, 1, 2, 3, 4, 5, 6, 7] rfl (w_X10_fetches_234 h)
    · have h := itn h c1
      refine v_aload_n (dq D_X10_fetches 98 rfl) 0 rfl ?_
      obtain ⟨x5, hx5, h⟩ := obi h
      refine v_gR (dq D_X10_fetches 99 rfl) fa_RX10_24 hx5 ?_
      refine v_iload (dq D_X10_fetches 100 rfl) 8 rfl ?_
      obtain ⟨x6, hx6, h⟩ := obi h
      refine v_iald (dq D_X10_fetches 101 rfl) hx6 ?_
      refine v_iload (dq D_X10_fetches 102 rfl) 7 rfl ?_
      refine v_icmp_ne (dq D_X10_fetches 103 rfl) rfl (fun c7 => ?_) (fun c7 => ?_)
      · have h := itn h c7
        exact w_X10_fetches_212 ih h
      · have h := itp h c7
        refine v_aload_n (dq D_X10_fetches 104 rfl) 0 rfl ?_
        obtain ⟨x8, hx8, h⟩ := obi h
        refine v_gR (dq D_X10_fetches 105 rfl) fa_RX10_24 hx8 ?_
        refine v_bipush (dq D_X10_fetches 106 rfl) kb_8 ?_
        refine v_dup2 (dq D_X10_fetches 107 rfl) rfl rfl ?_
        obtain ⟨x9, hx9, h⟩ := obi h
        refine v_iald (dq D_X10_fetches 108 rfl) hx9 ?_
        refine v_iconst (dq D_X10_fetches 109 rfl) kc_1 ?_
        refine v_iload (dq D_X10_fetches 110 rfl) 8 rfl ?_
        refine v_ishl (dq D_X10_fetches 111 rfl) ?_
        refine v_ior (dq D_X10_fetches 112 rfl) ?_
        obtain ⟨σ10, hσ10, h⟩ := obi h
        refine v_iast (dq D_X10_fetches 113 rfl) hσ10 ?_
        exact w_X10_fetches_212 ih h
theorem w_X10_fetches_156 {sa : Env3} {a0 : Nat} {a1 : Int32} {a2 : Int32} {a3 : Int32} {a4 : Int32} {a5 : Int32} {a6 : Int32} {s0 : Int32} {σ : St} {r : Int32 × St} (h : f_X10_fetches_156 a0 a1 a2 a3 a4 a5 a6 s0 σ = some r) : VV sa cX10_fetches K_X10_fetches 156 [(0, .ref a0), (1, .int a1), (2, .int a2), (3, .int a3), (4, .int a4), (5, .int a5), (6, .int a6)] [.int s0] σ (pO r) 0 0 := by
  unfold f_X10_fetches_156 at h
  refine v_istore (dq D_X10_fetches 83 rfl) [(7, .int s0), (0, .ref a0), (1, .int a1), (2, .int a2), (3, .int a3), (4, .int a4), (5, .int a5), (6, .int a6)] (Nat.le_of_ble_eq_true rfl) rfl ?_
  refine v_aload_n (dq D_X10_fetches 84 rfl) 1 rfl ?_
  obtain ⟨x1, hx1, h⟩ := obi h
  refine v_gR (dq D_X10_fetches 85 rfl) fa_RX10_266 hx1 ?_
  obtain ⟨x2, hx2, h⟩ := obi h
  refine v_gR (dq D_X10_fetches 86 rfl) fa_RX10_217 hx2 ?_
  refine v_iload_n (dq D_X10_fetches 87 rfl) 2 rfl ?_
  obtain ⟨x3, hx3, h⟩ := obi h
  refine v_iald (dq D_X10_fetches 88 rfl) hx3 ?_
  refine v_iconst (dq D_X10_fetches 89 rfl) kc_5 ?_
  refine v_icmp_eq (dq D_X10_fetches 90 rfl) rfl (fun c4 => ?_) (fun c4 => ?_)
  · have h := itp h c4
    exact v_sub [1, 2, 3, 4, 5, 6, 7, 0] rfl (w_X10_fetches_234 h)
  · have h := itn h c4
    refine v_iload (dq D_X10_fetches 91 rfl) 6 rfl ?_
    refine v_if_ne (dq D_X10_fetches 92 rfl) rfl (fun c5 => ?_) (fun c5 => ?_)
    · have h := itn h c5
      exact v_sub [1, 2, 3, 4, 5, 6, 7, 0] rfl (w_X10_fetches_234 h)
    · have h := itp h c5
      refine v_iconst (dq D_X10_fetches 93 rfl) kc_0 ?_
      refine v_istore (dq D_X10_fetches 94 rfl) [(8, .int 0), (7, .int s0), (0, .ref a0), (1, .int a1), (2, .int a2), (3, .int a3), (4, .int a4), (5, .int a5), (6, .int a6)] (Nat.le_of_ble_eq_true rfl) rfl ?_
      exact v_sub [2, 3, 4, 5, 6, 7, 8, 1, 0] rfl (w_X10_fetches_179 _ h)
theorem w_X10_fetches_123 {sa : Env3} {a0 : Nat} {a1 : Int32} {a2 : Int32} {a3 : Int32} {a4 : Int32} {a5 : Int32} {s0 : Int32} {σ : St} {r : Int32 × St} (h : f_X10_fetches_123 a0 a1 a2 a3 a4 a5 s0 σ = some r) : VV sa cX10_fetches K_X10_fetches 123 [(0, .ref a0), (1, .int a1), (2, .int a2), (3, .int a3), (4, .int a4), (5, .int a5)] [.int s0] σ (pO r) 0 0 := by
  unfold f_X10_fetches_123 at h
  refine v_istore (dq D_X10_fetches 67 rfl) [(6, .int s0), (0, .ref a0), (1, .int a1), (2, .int a2), (3, .int a3), (4, .int a4), (5, .int a5)] (Nat.le_of_ble_eq_true rfl) rfl ?_
  refine v_aload_n (dq D_X10_fetches 68 rfl) 1 rfl ?_
  obtain ⟨x1, hx1, h⟩ := obi h
  refine v_gR (dq D_X10_fetches 69 rfl) fa_RX10_266 hx1 ?_
  obtain ⟨x2, hx2, h⟩ := obi h
  refine v_gR (dq D_X10_fetches 70 rfl) fa_RX10_217 hx2 ?_
  refine v_iload_n (dq D_X10_fetches 71 rfl) 2 rfl ?_
  obtain ⟨x3, hx3, h⟩ := obi h
  refine v_iald (dq D_X10_fetches 72 rfl) hx3 ?_
  refine v_iconst (dq D_X10_fetches 73 rfl) kc_5 ?_
  refine v_icmp_ne (dq D_X10_fetches 74 rfl) rfl (fun c4 => ?_) (fun c4 => ?_)
  · have h := itn h c4
    refine v_iload (dq D_X10_fetches 77 rfl) 6 rfl ?_
    refine v_if_eq (dq D_X10_fetches 78 rfl) rfl (fun c5 => ?_) (fun c5 => ?_)
    · have h := itp h c5
      refine v_aload_n (dq D_X10_fetches 81 rfl) 1 rfl ?_
      obtain ⟨q6, hq6, h⟩ := obi h
      refine v_cVi (bc := 0) (bs := 0) (As := []) (dq D_X10_fetches 82 rfl) cv_X10_lowestFree ml_RX10_351 (itg hq6).1 (m_X10_lowestFree hq6) rfl rfl (Nat.le_of_ble_eq_true rfl) ⟨Nat.le_of_ble_eq_true rfl, Nat.le_of_ble_eq_true rfl⟩ ⟨Nat.le_of_ble_eq_true rfl, Nat.le_of_ble_eq_true rfl⟩ ?_
      exact v_sub [1, 2, 3, 4, 5, 6, 0] rfl (w_X10_fetches_156 h)
    · have h := itn h c5
      refine v_iload_n (dq D_X10_fetches 79 rfl) 4 rfl ?_
      refine v_goto (dq D_X10_fetches 80 rfl) rfl ?_
      exact v_sub [1, 2, 3, 4, 5, 6, 0] rfl (w_X10_fetches_156 h)
  · have h := itp h c4
    refine v_bipush (dq D_X10_fetches 75 rfl) kb_m2 ?_
    refine v_goto (dq D_X10_fetches 76 rfl) rfl ?_
    exact v_sub [1, 2, 3, 4, 5, 6, 0] rfl (w_X10_fetches_156 h)
theorem w_X10_fetches_122 {sa : Env3} {a0 : Nat} {a1 : Int32} {a2 : Int32} {a3 : Int32} {a4 : Int32} {a5 : Int32} {σ : St} {r : Int32 × St} (h : f_X10_fetches_122 a0 a1 a2 a3 a4 a5 σ = some r) : VV sa cX10_fetches K_X10_fetches 122 [(0, .ref a0), (1, .int a1), (2, .int a2), (3, .int a3), (4, .int a4), (5, .int a5)] [] σ (pO r) 0 0 := by
  unfold f_X10_fetches_122 at h
  refine v_iconst (dq D_X10_fetches 66 rfl) kc_0 ?_
  exact w_X10_fetches_123 h
theorem w_X10_fetches_82 {sa : Env3} {a0 : Nat} {a1 : Int32} {a2 : Int32} {a3 : Int32} {s0 : Int32} {σ : St} {r : Int32 × St} (h : f_X10_fetches_82 a0 a1 a2 a3 s0 σ = some r) : VV sa cX10_fetches K_X10_fetches 82 [(0, .ref a0), (1, .int a1), (2, .int a2), (3, .int a3)] [.int s0] σ (pO r) 0 0 := by
  unfold f_X10_fetches_82 at h
  refine v_istore (dq D_X10_fetches 46 rfl) [(4, .int s0), (0, .ref a0), (1, .int a1), (2, .int a2), (3, .int a3)] (Nat.le_of_ble_eq_true rfl) rfl ?_
  refine v_aload_n (dq D_X10_fetches 47 rfl) 1 rfl ?_
  refine v_iload_n (dq D_X10_fetches 48 rfl) 2 rfl ?_
  obtain ⟨q1, hq1, h⟩ := obi h
  refine v_cVi (bc := 0) (bs := 0) (As := [.int a1]) (dq D_X10_fetches 49 rfl) cv_X10_isMerging ml_RX10_348 (itg hq1).1 (m_X10_isMerging hq1) rfl rfl (Nat.le_of_ble_eq_true rfl) ⟨Nat.le_of_ble_eq_true rfl, Nat.le_of_ble_eq_true rfl⟩ ⟨Nat.le_of_ble_eq_true rfl, Nat.le_of_ble_eq_true rfl⟩ ?_
  refine v_istore (dq D_X10_fetches 50 rfl) [(5, .int q1.1), (4, .int s0), (0, .ref a0), (1, .int a1), (2, .int a2), (3, .int a3)] (Nat.le_of_ble_eq_true rfl) rfl ?_
  refine v_aload_n (dq D_X10_fetches 51 rfl) 2 rfl ?_
  obtain ⟨x2, hx2, h⟩ := obi h
  refine v_gR (dq D_X10_fetches 52 rfl) fa_RX10_266 hx2 ?_
  obtain ⟨x3, hx3, h⟩ := obi h
  refine v_gR (dq D_X10_fetches 53 rfl) fa_RX10_217 hx3 ?_
  refine v_iload_n (dq D_X10_fetches 54 rfl) 3 rfl ?_
  obtain ⟨x4, hx4, h⟩ := obi h
  refine v_iald (dq D_X10_fetches 55 rfl) hx4 ?_
  refine v_iconst (dq D_X10_fetches 56 rfl) kc_5 ?_
  refine v_icmp_ne (dq D_X10_fetches 57 rfl) rfl (fun c5 => ?_) (fun c5 => ?_)
  · have h := itn h c5
    exact v_sub [2, 3, 4, 5, 1, 0] rfl (w_X10_fetches_122 h)
  · have h := itp h c5
    refine v_aload_n (dq D_X10_fetches 58 rfl) 2 rfl ?_
    obtain ⟨q6, hq6, h⟩ := obi h
    refine v_cVi (bc := 0) (bs := 0) (As := []) (dq D_X10_fetches 59 rfl) cv_X10_savesNow ml_RX10_354 (itg hq6).1 (m_X10_savesNow hq6) rfl rfl (Nat.le_of_ble_eq_true rfl) ⟨Nat.le_of_ble_eq_true rfl, Nat.le_of_ble_eq_true rfl⟩ ⟨Nat.le_of_ble_eq_true rfl, Nat.le_of_ble_eq_true rfl⟩ ?_
    refine v_aload_n (dq D_X10_fetches 60 rfl) 2 rfl ?_
    obtain ⟨x7, hx7, h⟩ := obi h
    refine v_gR (dq D_X10_fetches 61 rfl) fa_RX10_266 hx7 ?_
    obtain ⟨x8, hx8, h⟩ := obi h
    refine v_gI (dq D_X10_fetches 62 rfl) fa_RX10_199 hx8 ?_
    refine v_icmp_ge (dq D_X10_fetches 63 rfl) rfl (fun c9 => ?_) (fun c9 => ?_)
    · have h := itp h c9
      exact v_sub [2, 3, 4, 5, 1, 0] rfl (w_X10_fetches_122 h)
    · have h := itn h c9
      refine v_iconst (dq D_X10_fetches 64 rfl) kc_1 ?_
      refine v_goto (dq D_X10_fetches 65 rfl) rfl ?_
      exact v_sub [2, 3, 4, 5, 1, 0] rfl (w_X10_fetches_123 h)
theorem w_X10_fetches_48 {sa : Env3} {a0 : Nat} {a1 : Int32} {a2 : Int32} {s0 : Int32} {σ : St} {r : Int32 × St} (h : f_X10_fetches_48 a0 a1 a2 s0 σ = some r) : VV sa cX10_fetches K_X10_fetches 48 [(0, .ref a0), (1, .int a1), (2, .int a2)] [.int s0] σ (pO r) 0 0 := by
  unfold f_X10_fetches_48 at h
  refine v_istore_n (dq D_X10_fetches 27 rfl) [(3, .int s0), (0, .ref a0), (1, .int a1), (2, .int a2)] rfl (Nat.le_of_ble_eq_true rfl) rfl ?_
  refine v_aload_n (dq D_X10_fetches 28 rfl) 1 rfl ?_
  obtain ⟨x1, hx1, h⟩ := obi h
  refine v_gR (dq D_X10_fetches 29 rfl) fa_RX10_266 hx1 ?_
  refine v_iload_n (dq D_X10_fetches 30 rfl) 2 rfl ?_
  obtain ⟨q2, hq2, h⟩ := obi h
  refine v_cVi (bc := 0) (bs := 0) (As := [.int a1]) (dq D_X10_fetches 31 rfl) cv_X9_reads ml_RX10_296 (itg hq2).1 (m_X9_reads hq2) rfl rfl (Nat.le_of_ble_eq_true rfl) ⟨Nat.le_of_ble_eq_true rfl, Nat.le_of_ble_eq_true rfl⟩ ⟨Nat.le_of_ble_eq_true rfl, Nat.le_of_ble_eq_true rfl⟩ ?_
  refine v_iconst (dq D_X10_fetches 32 rfl) kc_1 ?_
  refine v_icmp_le (dq D_X10_fetches 33 rfl) rfl (fun c3 => ?_) (fun c3 => ?_)
  · have h := itp h c3
    refine v_bipush (dq D_X10_fetches 45 rfl) kb_m2 ?_
    exact v_sub [1, 2, 3, 0] rfl (w_X10_fetches_82 h)
  · have h := itn h c3
    refine v_aload_n (dq D_X10_fetches 34 rfl) 1 rfl ?_
    refine v_aload_n (dq D_X10_fetches 35 rfl) 1 rfl ?_
    obtain ⟨x4, hx4, h⟩ := obi h
    refine v_gR (dq D_X10_fetches 36 rfl) fa_RX10_266 hx4 ?_
    obtain ⟨x5, hx5, h⟩ := obi h
    refine v_gR (dq D_X10_fetches 37 rfl) fa_RX10_226 hx5 ?_
    refine v_iload_n (dq D_X10_fetches 38 rfl) 2 rfl ?_
    obtain ⟨x6, hx6, h⟩ := obi h
    refine v_iald (dq D_X10_fetches 39 rfl) hx6 ?_
    refine v_iload_n (dq D_X10_fetches 40 rfl) 3 rfl ?_
    refine v_iconst (dq D_X10_fetches 41 rfl) kc_1 ?_
    refine v_isub (dq D_X10_fetches 42 rfl) ?_
    obtain ⟨q7, hq7, h⟩ := obi h
    refine v_cVi (bc := 0) (bs := 0) (As := [.int x6, .int (a2 - 1)]) (dq D_X10_fetches 43 rfl) cv_X10_mapOf ml_RX10_345 (itg hq7).1 (m_X10_mapOf hq7) rfl rfl (Nat.le_of_ble_eq_true rfl) ⟨Nat.le_of_ble_eq_true rfl, Nat.le_of_ble_eq_true rfl⟩ ⟨Nat.le_of_ble_eq_true rfl, Nat.le_of_ble_eq_true rfl⟩ ?_
    refine v_goto (dq D_X10_fetches 44 rfl) rfl ?_
    exact v_sub [1, 2, 3, 0] rfl (w_X10_fetches_82 h)
theorem w_X10_fetches_0 {sa : Env3} {a0 : Nat} {σ : St} {r : Int32 × St} (h : f_X10_fetches_0 a0 σ = some r) : VV sa cX10_fetches K_X10_fetches 0 [(0, .ref a0)] [] σ (pO r) 0 0 := by
  unfold f_X10_fetches_0 at h
  refine v_aload_n (dq D_X10_fetches 0 rfl) 0 rfl ?_
  obtain ⟨x1, hx1, h⟩ := obi h
  refine v_gR (dq D_X10_fetches 1 rfl) fa_RX10_24 hx1 ?_
  refine v_bipush (dq D_X10_fetches 2 rfl) kb_35 ?_
  obtain ⟨x2, hx2, h⟩ := obi h
  refine v_iald (dq D_X10_fetches 3 rfl) hx2 ?_
  refine v_istore_n (dq D_X10_fetches 4 rfl) [(1, .int x2), (0, .ref a0)] rfl (Nat.le_of_ble_eq_true rfl) rfl ?_
  refine v_aload_n (dq D_X10_fetches 5 rfl) 1 rfl ?_
  obtain ⟨x3, hx3, h⟩ := obi h
  refine v_gR (dq D_X10_fetches 6 rfl) fa_RX10_24 hx3 ?_
  refine v_bipush (dq D_X10_fetches 7 rfl) kb_34 ?_
  obtain ⟨x4, hx4, h⟩ := obi h
  refine v_iald (dq D_X10_fetches 8 rfl) hx4 ?_
  refine v_istore_n (dq D_X10_fetches 9 rfl) [(2, .int x4), (1, .int x2), (0, .ref a0)] rfl (Nat.le_of_ble_eq_true rfl) rfl ?_
  refine v_aload_n (dq D_X10_fetches 10 rfl) 2 rfl ?_
  obtain ⟨x5, hx5, h⟩ := obi h
  refine v_gR (dq D_X10_fetches 11 rfl) fa_RX10_266 hx5 ?_
  refine v_iload_n (dq D_X10_fetches 12 rfl) 1 rfl ?_
  obtain ⟨q6, hq6, h⟩ := obi h
  refine v_cVi (bc := 0) (bs := 0) (As := [.int x2]) (dq D_X10_fetches 13 rfl) cv_X9_reads ml_RX10_296 (itg hq6).1 (m_X9_reads hq6) rfl rfl (Nat.le_of_ble_eq_true rfl) ⟨Nat.le_of_ble_eq_true rfl, Nat.le_of_ble_eq_true rfl⟩ ⟨Nat.le_of_ble_eq_true rfl, Nat.le_of_ble_eq_true rfl⟩ ?_
  refine v_if_le (dq D_X10_fetches 14 rfl) rfl (fun c7 => ?_) (fun c7 => ?_)
  · have h := itp h c7
    refine v_bipush (dq D_X10_fetches 26 rfl) kb_m2 ?_
    exact v_sub [2, 1, 0] rfl (w_X10_fetches_48 h)
  · have h := itn h c7
    refine v_aload_n (dq D_X10_fetches 15 rfl) 2 rfl ?_
    refine v_aload_n (dq D_X10_fetches 16 rfl) 2 rfl ?_
    obtain ⟨x8, hx8, h⟩ := obi h
    refine v_gR (dq D_X10_fetches 17 rfl) fa_RX10_266 hx8 ?_
    obtain ⟨x9, hx9, h⟩ := obi h
    refine v_gR (dq D_X10_fetches 18 rfl) fa_RX10_223 hx9 ?_
    refine v_iload_n (dq D_X10_fetches 19 rfl) 1 rfl ?_
    obtain ⟨x10, hx10, h⟩ := obi h
    refine v_iald (dq D_X10_fetches 20 rfl) hx10 ?_
    refine v_iload_n (dq D_X10_fetches 21 rfl) 0 rfl ?_
    refine v_iconst (dq D_X10_fetches 22 rfl) kc_1 ?_
    refine v_isub (dq D_X10_fetches 23 rfl) ?_
    obtain ⟨q11, hq11, h⟩ := obi h
    refine v_cVi (bc := 0) (bs := 0) (As := [.int x10, .int (x4 - 1)]) (dq D_X10_fetches 24 rfl) cv_X10_mapOf ml_RX10_345 (itg hq11).1 (m_X10_mapOf hq11) rfl rfl (Nat.le_of_ble_eq_true rfl) ⟨Nat.le_of_ble_eq_true rfl, Nat.le_of_ble_eq_true rfl⟩ ⟨Nat.le_of_ble_eq_true rfl, Nat.le_of_ble_eq_true rfl⟩ ?_
    refine v_goto (dq D_X10_fetches 25 rfl) rfl ?_
    exact v_sub [2, 1, 0] rfl (w_X10_fetches_48 h)
theorem m_X10_fetches {sa : Env3} {a0 : Nat} {σ : St} {r : Int32 × St} (h : f_X10_fetches a0 σ = some r) : Ex sa yX10_fetches cX10_fetches K_X10_fetches [.ref a0] σ (pO r) := Ex.of (by decide) rfl (fun q => nomatch q) (Nat.le_of_ble_eq_true rfl) (w_X10_fetches_0 (itg h).2)
theorem w_X10_cycle_150 {sa : Env3}  {σ : St} {r : St} (h : f_X10_cycle_150  σ = some r) : VV sa cX10_cycle K_X10_cycle 150 [] [] σ (pU r) 0 0 := by
  unfold f_X10_cycle_150 at h
  obtain rfl := Option.some.inj h
  exact v_vret (dq D_X10_cycle 79 rfl) rfl ⟨rfl, rfl⟩
theorem w_X10_cycle_127 {sa : Env3} : ∀ (n : Nat) {a0 : Nat} {a1 : Int32} {σ : St} {r : St}, f_X10_cycle_127 n a0 a1 σ = some r → VV sa cX10_cycle K_X10_cycle 127 [(0, .ref a0), (1, .int a1)] [] σ (pU r) 0 0 := by
  intro n
  induction n with
  | zero => intro a0 a1 σ r h; cases h
  | succ n ih =>
    intro a0 a1 σ r h
    rw [e_X10_cycle_127] at h
    refine v_iload_n (dq D_X10_cycle 68 rfl) 1 rfl ?_
    refine v_iconst (dq D_X10_cycle 69 rfl) kc_2 ?_
    refine v_icmp_ge (dq D_X10_cycle 70 rfl) rfl (fun c1 => ?_) (fun c1 => ?_)
    · have h := itp h c1
      exact v_sub [] rfl (w_X10_cycle_150 h)
    · have h := itn h c1
      refine v_aload_n (dq D_X10_cycle 71 rfl) 0 rfl ?_
      obtain ⟨q2, hq2, h⟩ := obi h
      refine v_cVi (bc := 0) (bs := 0) (As := []) (dq D_X10_cycle 72 rfl) cv_X10_whyNoFetch ml_RX10_384 (itg hq2).1 (m_X10_whyNoFetch hq2) rfl rfl (Nat.le_of_ble_eq_true rfl) ⟨Nat.le_of_ble_eq_true rfl, Nat.le_of_ble_eq_true rfl⟩ ⟨Nat.le_of_ble_eq_true rfl, Nat.le_of_ble_eq_true rfl⟩ ?_
      refine v_if_ne (dq D_X10_cycle 73 rfl) rfl (fun c3 => ?_) (fun c3 => ?_)
      · have h := itn h c3
        exact v_sub [] rfl (w_X10_cycle_150 h)
      · have h := itp h c3
        refine v_aload_n (dq D_X10_cycle 74 rfl) 0 rfl ?_
        obtain ⟨q4, hq4, h⟩ := obi h
        refine v_cVi (bc := 0) (bs := 0) (As := []) (dq D_X10_cycle 75 rfl) cv_X10_fetches ml_RX10_402 (itg hq4).1 (m_X10_fetches hq4) rfl rfl (Nat.le_of_ble_eq_true rfl) ⟨Nat.le_of_ble_eq_true rfl, Nat.le_of_ble_eq_true rfl⟩ ⟨Nat.le_of_ble_eq_true rfl, Nat.le_of_ble_eq_true rfl⟩ ?_
        refine v_pop (dq D_X10_cycle 76 rfl) rfl ?_
        refine v_iinc (dq D_X10_cycle 77 rfl) 1 [(1, .int (a1 + 1)), (0, .ref a0)] rfl kc_1 (Nat.le_of_ble_eq_true rfl) rfl ?_
        refine v_goto (dq D_X10_cycle 78 rfl) rfl ?_
        exact v_sub [1, 0] rfl (ih h)
theorem w_X10_cycle_125 {sa : Env3} {a0 : Nat} {σ : St} {r : St} (h : f_X10_cycle_125 a0 σ = some r) : VV sa cX10_cycle K_X10_cycle 125 [(0, .ref a0)] [] σ (pU r) 0 0 := by
  unfold f_X10_cycle_125 at h
  refine v_iconst (dq D_X10_cycle 66 rfl) kc_0 ?_
  refine v_istore_n (dq D_X10_cycle 67 rfl) [(1, .int 0), (0, .ref a0)] rfl (Nat.le_of_ble_eq_true rfl) rfl ?_
  exact v_sub [1, 0] rfl (w_X10_cycle_127 _ h)
theorem w_X10_cycle_115 {sa : Env3} {k42 : Nat → Int32 → St → Option (St)} (hk42 : ∀ {a0 : Nat} {a1 : Int32} {σ : St} {r : St}, k42 a0 a1 σ = some r → VV sa cX10_cycle K_X10_cycle 42 [(0, .ref a0), (1, .int a1)] [] σ (pU r) 0 0) {a0 : Nat} {a1 : Int32} {s0 : Nat} {s1 : Int32} {s2 : Int32} {σ : St} {r : St} (h : f_X10_cycle_115 k42 a0 a1 s0 s1 s2 σ = some r) : VV sa cX10_cycle K_X10_cycle 115 [(0, .ref a0), (1, .int a1)] [.int s2, .int s1, .ref s0] σ (pU r) 0 0 := by
  unfold f_X10_cycle_115 at h
  refine v_iadd (dq D_X10_cycle 62 rfl) ?_
  obtain ⟨σ1, hσ1, h⟩ := obi h
  refine v_pI (dq D_X10_cycle 63 rfl) fp_RX10_399 hσ1 ?_
  refine v_iinc (dq D_X10_cycle 64 rfl) 1 [(1, .int (a1 + 1)), (0, .ref a0)] rfl kc_1 (Nat.le_of_ble_eq_true rfl) rfl ?_
  refine v_goto (dq D_X10_cycle 65 rfl) rfl ?_
  exact v_sub [1, 0] rfl (hk42 h)
theorem w_X10_cycle_98 {sa : Env3} {k42 : Nat → Int32 → St → Option (St)} (hk42 : ∀ {a0 : Nat} {a1 : Int32} {σ : St} {r : St}, k42 a0 a1 σ = some r → VV sa cX10_cycle K_X10_cycle 42 [(0, .ref a0), (1, .int a1)] [] σ (pU r) 0 0) {a0 : Nat} {a1 : Int32} {σ : St} {r : St} (h : f_X10_cycle_98 k42 a0 a1 σ = some r) : VV sa cX10_cycle K_X10_cycle 98 [(0, .ref a0), (1, .int a1)] [] σ (pU r) 0 0 := by
  unfold f_X10_cycle_98 at h
  refine v_aload_n (dq D_X10_cycle 53 rfl) 0 rfl ?_
  refine v_dup (dq D_X10_cycle 54 rfl) rfl ?_
  obtain ⟨x1, hx1, h⟩ := obi h
  refine v_gI (dq D_X10_cycle 55 rfl) fa_RX10_399 hx1 ?_
  refine v_aload_n (dq D_X10_cycle 56 rfl) 0 rfl ?_
  obtain ⟨x2, hx2, h⟩ := obi h
  refine v_gI (dq D_X10_cycle 57 rfl) fa_RX10_360 hx2 ?_
  refine v_if_eq (dq D_X10_cycle 58 rfl) rfl (fun c3 => ?_) (fun c3 => ?_)
  · have h := itp h c3
    refine v_iconst (dq D_X10_cycle 61 rfl) kc_0 ?_
    exact w_X10_cycle_115 hk42 h
  · have h := itn h c3
    refine v_iconst (dq D_X10_cycle 59 rfl) kc_1 ?_
    refine v_goto (dq D_X10_cycle 60 rfl) rfl ?_
    exact w_X10_cycle_115 hk42 h
theorem w_X10_cycle_81 {sa : Env3} {k42 : Nat → Int32 → St → Option (St)} (hk42 : ∀ {a0 : Nat} {a1 : Int32} {σ : St} {r : St}, k42 a0 a1 σ = some r → VV sa cX10_cycle K_X10_cycle 42 [(0, .ref a0), (1, .int a1)] [] σ (pU r) 0 0) {a0 : Nat} {a1 : Int32} {a2 : Int32} {σ : St} {r : St} (h : f_X10_cycle_81 k42 a0 a1 a2 σ = some r) : VV sa cX10_cycle K_X10_cycle 81 [(0, .ref a0), (1, .int a1), (2, .int a2)] [] σ (pU r) 0 0 := by
  unfold f_X10_cycle_81 at h
  refine v_iload_n (dq D_X10_cycle 43 rfl) 2 rfl ?_
  refine v_aload_n (dq D_X10_cycle 44 rfl) 0 rfl ?_
  obtain ⟨x1, hx1, h⟩ := obi h
  refine v_gR (dq D_X10_cycle 45 rfl) fa_RX10_24 hx1 ?_
  refine v_bipush (dq D_X10_cycle 46 rfl) kb_34 ?_
  obtain ⟨x2, hx2, h⟩ := obi h
  refine v_iald (dq D_X10_cycle 47 rfl) hx2 ?_
  refine v_icmp_ge (dq D_X10_cycle 48 rfl) rfl (fun c3 => ?_) (fun c3 => ?_)
  · have h := itp h c3
    exact v_sub [0, 1] rfl (w_X10_cycle_98 hk42 h)
  · have h := itn h c3
    refine v_aload_n (dq D_X10_cycle 49 rfl) 0 rfl ?_
    refine v_iload_n (dq D_X10_cycle 50 rfl) 2 rfl ?_
    obtain ⟨q4, hq4, h⟩ := obi h
    refine v_cVi (bc := 0) (bs := 0) (As := [.int a2]) (dq D_X10_cycle 51 rfl) cv_X10_runsOne ml_RX10_396 (itg hq4).1 (m_X10_runsOne hq4) rfl rfl (Nat.le_of_ble_eq_true rfl) ⟨Nat.le_of_ble_eq_true rfl, Nat.le_of_ble_eq_true rfl⟩ ⟨Nat.le_of_ble_eq_true rfl, Nat.le_of_ble_eq_true rfl⟩ ?_
    refine v_pop (dq D_X10_cycle 52 rfl) rfl ?_
    exact v_sub [0, 1] rfl (w_X10_cycle_98 hk42 h)
theorem w_X10_cycle_56 {sa : Env3} {k42 : Nat → Int32 → St → Option (St)} (hk42 : ∀ {a0 : Nat} {a1 : Int32} {σ : St} {r : St}, k42 a0 a1 σ = some r → VV sa cX10_cycle K_X10_cycle 42 [(0, .ref a0), (1, .int a1)] [] σ (pU r) 0 0) : ∀ (n : Nat) {a0 : Nat} {a1 : Int32} {a2 : Int32} {σ : St} {r : St}, f_X10_cycle_56 k42 n a0 a1 a2 σ = some r → VV sa cX10_cycle K_X10_cycle 56 [(0, .ref a0), (1, .int a1), (2, .int a2)] [] σ (pU r) 0 0 := by
  intro n
  induction n with
  | zero => intro a0 a1 a2 σ r h; cases h
  | succ n ih =>
    intro a0 a1 a2 σ r h
    rw [e_X10_cycle_56] at h
    refine v_iload_n (dq D_X10_cycle 31 rfl) 2 rfl ?_
    refine v_aload_n (dq D_X10_cycle 32 rfl) 0 rfl ?_
    obtain ⟨x1, hx1, h⟩ := obi h
    refine v_gR (dq D_X10_cycle 33 rfl) fa_RX10_24 hx1 ?_
    refine v_bipush (dq D_X10_cycle 34 rfl) kb_34 ?_
    obtain ⟨x2, hx2, h⟩ := obi h
    refine v_iald (dq D_X10_cycle 35 rfl) hx2 ?_
    refine v_icmp_ge (dq D_X10_cycle 36 rfl) rfl (fun c3 => ?_) (fun c3 => ?_)
    · have h := itp h c3
      exact w_X10_cycle_81 hk42 h
    · have h := itn h c3
      refine v_aload_n (dq D_X10_cycle 37 rfl) 0 rfl ?_
      refine v_iload_n (dq D_X10_cycle 38 rfl) 2 rfl ?_
      obtain ⟨q4, hq4, h⟩ := obi h
      refine v_cVi (bc := 0) (bs := 0) (As := [.int a2]) (dq D_X10_cycle 39 rfl) cv_X10_isRunnable ml_RX10_381 (itg hq4).1 (m_X10_isRunnable hq4) rfl rfl (Nat.le_of_ble_eq_true rfl) ⟨Nat.le_of_ble_eq_true rfl, Nat.le_of_ble_eq_true rfl⟩ ⟨Nat.le_of_ble_eq_true rfl, Nat.le_of_ble_eq_true rfl⟩ ?_
      refine v_if_ne (dq D_X10_cycle 40 rfl) rfl (fun c5 => ?_) (fun c5 => ?_)
      · have h := itn h c5
        exact w_X10_cycle_81 hk42 h
      · have h := itp h c5
        refine v_iinc (dq D_X10_cycle 41 rfl) 2 [(2, .int (a2 + 1)), (0, .ref a0), (1, .int a1)] rfl kc_1 (Nat.le_of_ble_eq_true rfl) rfl ?_
        refine v_goto (dq D_X10_cycle 42 rfl) rfl ?_
        exact v_sub [1, 2, 0] rfl (ih h)
theorem w_X10_cycle_42 {sa : Env3} : ∀ (n : Nat) {a0 : Nat} {a1 : Int32} {σ : St} {r : St}, f_X10_cycle_42 n a0 a1 σ = some r → VV sa cX10_cycle K_X10_cycle 42 [(0, .ref a0), (1, .int a1)] [] σ (pU r) 0 0 := by
  intro n
  induction n with
  | zero => intro a0 a1 σ r h; cases h
  | succ n ih =>
    intro a0 a1 σ r h
    rw [e_X10_cycle_42] at h
    refine v_iload_n (dq D_X10_cycle 23 rfl) 1 rfl ?_
    refine v_iconst (dq D_X10_cycle 24 rfl) kc_2 ?_
    refine v_icmp_ge (dq D_X10_cycle 25 rfl) rfl (fun c1 => ?_) (fun c1 => ?_)
    · have h := itp h c1
      exact v_sub [0] rfl (w_X10_cycle_125 h)
    · have h := itn h c1
      refine v_aload_n (dq D_X10_cycle 26 rfl) 0 rfl ?_
      obtain ⟨x2, hx2, h⟩ := obi h
      refine v_gI (dq D_X10_cycle 27 rfl) fa_RX10_360 hx2 ?_
      refine v_if_ne (dq D_X10_cycle 28 rfl) rfl (fun c3 => ?_) (fun c3 => ?_)
      · have h := itn h c3
        exact v_sub [0] rfl (w_X10_cycle_125 h)
      · have h := itp h c3
        refine v_iconst (dq D_X10_cycle 29 rfl) kc_0 ?_
        refine v_istore_n (dq D_X10_cycle 30 rfl) [(2, .int 0), (0, .ref a0), (1, .int a1)] rfl (Nat.le_of_ble_eq_true rfl) rfl ?_
        exact v_sub [1, 2, 0] rfl (w_X10_cycle_56 ih _ h)
theorem w_X10_cycle_35 {sa : Env3} {a0 : Nat} {σ : St} {r : St} (h : f_X10_cycle_35 a0 σ = some r) : VV sa cX10_cycle K_X10_cycle 35 [(0, .ref a0)] [] σ (pU r) 0 0 := by
  unfold f_X10_cycle_35 at h
  refine v_aload_n (dq D_X10_cycle 18 rfl) 0 rfl ?_
  refine v_iconst (dq D_X10_cycle 19 rfl) kc_0 ?_
  obtain ⟨σ1, hσ1, h⟩ := obi h
  refine v_pZ (dq D_X10_cycle 20 rfl) fp_RX10_360 hσ1 ?_
  refine v_iconst (dq D_X10_cycle 21 rfl) kc_0 ?_
  refine v_istore_n (dq D_X10_cycle 22 rfl) [(1, .int 0), (0, .ref a0)] rfl (Nat.le_of_ble_eq_true rfl) rfl ?_
  exact v_sub [1, 0] rfl (w_X10_cycle_42 _ h)
theorem w_X10_cycle_2 {sa : Env3} : ∀ (n : Nat) {a0 : Nat} {a1 : Int32} {σ : St} {r : St}, f_X10_cycle_2 n a0 a1 σ = some r → VV sa cX10_cycle K_X10_cycle 2 [(0, .ref a0), (1, .int a1)] [] σ (pU r) 0 0 := by
  intro n
  induction n with
  | zero => intro a0 a1 σ r h; cases h
  | succ n ih =>
    intro a0 a1 σ r h
    rw [e_X10_cycle_2] at h
    refine v_iload_n (dq D_X10_cycle 2 rfl) 1 rfl ?_
    refine v_iconst (dq D_X10_cycle 3 rfl) kc_2 ?_
    refine v_icmp_ge (dq D_X10_cycle 4 rfl) rfl (fun c1 => ?_) (fun c1 => ?_)
    · have h := itp h c1
      exact v_sub [0] rfl (w_X10_cycle_35 h)
    · have h := itn h c1
      refine v_aload_n (dq D_X10_cycle 5 rfl) 0 rfl ?_
      obtain ⟨q2, hq2, h⟩ := obi h
      refine v_cVi (bc := 0) (bs := 0) (As := []) (dq D_X10_cycle 6 rfl) cv_X10_whyNoCommit ml_RX10_387 (itg hq2).1 (m_X10_whyNoCommit hq2) rfl rfl (Nat.le_of_ble_eq_true rfl) ⟨Nat.le_of_ble_eq_true rfl, Nat.le_of_ble_eq_true rfl⟩ ⟨Nat.le_of_ble_eq_true rfl, Nat.le_of_ble_eq_true rfl⟩ ?_
      refine v_if_ne (dq D_X10_cycle 7 rfl) rfl (fun c3 => ?_) (fun c3 => ?_)
      · have h := itn h c3
        exact v_sub [0] rfl (w_X10_cycle_35 h)
      · have h := itp h c3
        refine v_aload_n (dq D_X10_cycle 8 rfl) 0 rfl ?_
        obtain ⟨x4, hx4, h⟩ := obi h
        refine v_gR (dq D_X10_cycle 9 rfl) fa_RX10_24 hx4 ?_
        refine v_bipush (dq D_X10_cycle 10 rfl) kb_36 ?_
        obtain ⟨x5, hx5, h⟩ := obi h
        refine v_iald (dq D_X10_cycle 11 rfl) hx5 ?_
        refine v_if_ne (dq D_X10_cycle 12 rfl) rfl (fun c6 => ?_) (fun c6 => ?_)
        · have h := itn h c6
          exact v_sub [0] rfl (w_X10_cycle_35 h)
        · have h := itp h c6
          refine v_aload_n (dq D_X10_cycle 13 rfl) 0 rfl ?_
          obtain ⟨q7, hq7, h⟩ := obi h
          refine v_cVi (bc := 0) (bs := 0) (As := []) (dq D_X10_cycle 14 rfl) cv_X10_commitsOne ml_RX10_393 (itg hq7).1 (m_X10_commitsOne hq7) rfl rfl (Nat.le_of_ble_eq_true rfl) ⟨Nat.le_of_ble_eq_true rfl, Nat.le_of_ble_eq_true rfl⟩ ⟨Nat.le_of_ble_eq_true rfl, Nat.le_of_ble_eq_true rfl⟩ ?_
          refine v_pop (dq D_X10_cycle 15 rfl) rfl ?_
          refine v_iinc (dq D_X10_cycle 16 rfl) 1 [(1, .int (a1 + 1)), (0, .ref a0)] rfl kc_1 (Nat.le_of_ble_eq_true rfl) rfl ?_
          refine v_goto (dq D_X10_cycle 17 rfl) rfl ?_
          exact v_sub [1, 0] rfl (ih h)
theorem w_X10_cycle_0 {sa : Env3} {a0 : Nat} {σ : St} {r : St} (h : f_X10_cycle_0 a0 σ = some r) : VV sa cX10_cycle K_X10_cycle 0 [(0, .ref a0)] [] σ (pU r) 0 0 := by
  unfold f_X10_cycle_0 at h
  refine v_iconst (dq D_X10_cycle 0 rfl) kc_0 ?_
  refine v_istore_n (dq D_X10_cycle 1 rfl) [(1, .int 0), (0, .ref a0)] rfl (Nat.le_of_ble_eq_true rfl) rfl ?_
  exact v_sub [1, 0] rfl (w_X10_cycle_2 _ h)
theorem m_X10_cycle {sa : Env3} {a0 : Nat} {σ : St} {r : St} (h : f_X10_cycle a0 σ = some r) : Ex sa yX10_cycle cX10_cycle K_X10_cycle [.ref a0] σ (pU r) := Ex.of (by decide) rfl (fun q => nomatch q) (Nat.le_of_ble_eq_true rfl) (w_X10_cycle_0 (itg h).2)
