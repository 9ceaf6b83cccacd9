theorem w_X10_fetch_52 {sa : Env3} {s0 : Nat} {s1 : Int32} {σ : St} {r : Int32 × St} (h : f_X10_fetch_52 s0 s1 σ = some r) : VV sa cX10_fetch K_X10_fetch 52 [] [.int s1, .ref s0] σ (pO r) 0 0 := by
  unfold f_X10_fetch_52 at h
  obtain ⟨q1, hq1, h⟩ := obi h
  refine v_cVi (bc := 0) (bs := 0) (As := [.int s1]) (dq D_X10_fetch 29 rfl) cv_X10_refused ml_RX10_42 (itg hq1).1 (m_X10_refused hq1) rfl rfl (Nat.le_of_ble_eq_true rfl) ⟨Nat.le_of_ble_eq_true rfl, Nat.le_of_ble_eq_true rfl⟩ ⟨Nat.le_of_ble_eq_true rfl, Nat.le_of_ble_eq_true rfl⟩ ?_
  obtain rfl := Option.some.inj h
  exact v_iret (dq D_X10_fetch 30 rfl) rfl ⟨rfl, rfl⟩
theorem w_X10_fetch_0 {sa : Env3} {a0 : Nat} {σ : St} {r : Int32 × St} (h : f_X10_fetch_0 a0 σ = some r) : VV sa cX10_fetch K_X10_fetch 0 [(0, .ref a0)] [] σ (pO r) 0 0 := by
  unfold f_X10_fetch_0 at h
  refine v_aload_n (dq D_X10_fetch 0 rfl) 0 rfl ?_
  refine v_iconst (dq D_X10_fetch 1 rfl) kc_0 ?_
  obtain ⟨σ1, hσ1, h⟩ := obi h
  refine v_pI (dq D_X10_fetch 2 rfl) fp_RX10_36 hσ1 ?_
  refine v_aload_n (dq D_X10_fetch 3 rfl) 0 rfl ?_
  obtain ⟨x2, hx2, h⟩ := obi h
  refine v_gQ (dq D_X10_fetch 4 rfl) fa_RX10_266 hx2 ?_
  rcases oc_inv h with ⟨rfl, h⟩ | ⟨b3, rfl, h⟩
  · refine v_ifnonnullN (dq D_X10_fetch 5 rfl) ?_
    refine v_aload_n (dq D_X10_fetch 6 rfl) 0 rfl ?_
    refine v_iconst (dq D_X10_fetch 7 rfl) kc_1 ?_
    obtain ⟨q4, hq4, h⟩ := obi h
    refine v_cVi (bc := 0) (bs := 0) (As := [.int 1]) (dq D_X10_fetch 8 rfl) cv_X10_refused ml_RX10_42 (itg hq4).1 (m_X10_refused hq4) rfl rfl (Nat.le_of_ble_eq_true rfl) ⟨Nat.le_of_ble_eq_true rfl, Nat.le_of_ble_eq_true rfl⟩ ⟨Nat.le_of_ble_eq_true rfl, Nat.le_of_ble_eq_true rfl⟩ ?_
    obtain rfl := Option.some.inj h
    exact v_iret (dq D_X10_fetch 9 rfl) rfl ⟨rfl, rfl⟩
  · refine v_ifnonnullR (dq D_X10_fetch 5 rfl) rfl ?_
    refine v_aload_n (dq D_X10_fetch 10 rfl) 0 rfl ?_
    obtain ⟨σ5, hσ5, h⟩ := obi h
    refine v_cVv (bc := 0) (bs := 0) (As := []) (dq D_X10_fetch 11 rfl) cv_X10_works ml_RX10_366 (itg hσ5).1 (m_X10_works hσ5) rfl rfl (Nat.le_of_ble_eq_true rfl) ⟨Nat.le_of_ble_eq_true rfl, Nat.le_of_ble_eq_true rfl⟩ ⟨Nat.le_of_ble_eq_true rfl, Nat.le_of_ble_eq_true rfl⟩ ?_
    refine v_aload_n (dq D_X10_fetch 12 rfl) 0 rfl ?_
    obtain ⟨q6, hq6, h⟩ := obi h
    refine v_cVi (bc := 0) (bs := 0) (As := []) (dq D_X10_fetch 13 rfl) cv_X10_whyNoFetch ml_RX10_384 (itg hq6).1 (m_X10_whyNoFetch hq6) rfl rfl (Nat.le_of_ble_eq_true rfl) ⟨Nat.le_of_ble_eq_true rfl, Nat.le_of_ble_eq_true rfl⟩ ⟨Nat.le_of_ble_eq_true rfl, Nat.le_of_ble_eq_true rfl⟩ ?_
    refine v_istore_n (dq D_X10_fetch 14 rfl) [(1, .int q6.1), (0, .ref a0)] rfl (Nat.le_of_ble_eq_true rfl) rfl ?_
    refine v_iload_n (dq D_X10_fetch 15 rfl) 0 rfl ?_
    refine v_if_le (dq D_X10_fetch 16 rfl) rfl (fun c7 => ?_) (fun c7 => ?_)
    · have h := itp h c7
      refine v_aload_n (dq D_X10_fetch 31 rfl) 1 rfl ?_
      obtain ⟨σ8, hσ8, h⟩ := obi h
      refine v_cVv (bc := 0) (bs := 0) (As := []) (dq D_X10_fetch 32 rfl) cv_X10_remembers ml_RX10_468 (itg hσ8).1 (m_X10_remembers hσ8) rfl rfl (Nat.le_of_ble_eq_true rfl) ⟨Nat.le_of_ble_eq_true rfl, Nat.le_of_ble_eq_true rfl⟩ ⟨Nat.le_of_ble_eq_true rfl, Nat.le_of_ble_eq_true rfl⟩ ?_
      refine v_aload_n (dq D_X10_fetch 33 rfl) 1 rfl ?_
      refine v_aload_n (dq D_X10_fetch 34 rfl) 1 rfl ?_
      obtain ⟨q9, hq9, h⟩ := obi h
      refine v_cVi (bc := 0) (bs := 0) (As := []) (dq D_X10_fetch 35 rfl) cv_X10_fetches ml_RX10_402 (itg hq9).1 (m_X10_fetches hq9) rfl rfl (Nat.le_of_ble_eq_true rfl) ⟨Nat.le_of_ble_eq_true rfl, Nat.le_of_ble_eq_true rfl⟩ ⟨Nat.le_of_ble_eq_true rfl, Nat.le_of_ble_eq_true rfl⟩ ?_
      obtain ⟨q10, hq10, h⟩ := obi h
      refine v_cVi (bc := 0) (bs := 0) (As := [.int q9.1]) (dq D_X10_fetch 36 rfl) cv_X10_done ml_RX10_471 (itg hq10).1 (m_X10_done hq10) rfl rfl (Nat.le_of_ble_eq_true rfl) ⟨Nat.le_of_ble_eq_true rfl, Nat.le_of_ble_eq_true rfl⟩ ⟨Nat.le_of_ble_eq_true rfl, Nat.le_of_ble_eq_true rfl⟩ ?_
      obtain rfl := Option.some.inj h
      exact v_iret (dq D_X10_fetch 37 rfl) rfl ⟨rfl, rfl⟩
    · have h := itn h c7
      refine v_aload_n (dq D_X10_fetch 17 rfl) 1 rfl ?_
      refine v_iload_n (dq D_X10_fetch 18 rfl) 0 rfl ?_
      refine v_iconst (dq D_X10_fetch 19 rfl) kc_1 ?_
      refine v_icmp_ne (dq D_X10_fetch 20 rfl) rfl (fun c11 => ?_) (fun c11 => ?_)
      · have h := itn h c11
        refine v_iload_n (dq D_X10_fetch 23 rfl) 0 rfl ?_
        refine v_iconst (dq D_X10_fetch 24 rfl) kc_2 ?_
        refine v_icmp_ne (dq D_X10_fetch 25 rfl) rfl (fun c12 => ?_) (fun c12 => ?_)
        · have h := itn h c12
          refine v_iconst (dq D_X10_fetch 28 rfl) kc_3 ?_
          exact v_sub [] rfl (w_X10_fetch_52 h)
        · have h := itp h c12
          refine v_bipush (dq D_X10_fetch 26 rfl) kb_6 ?_
          refine v_goto (dq D_X10_fetch 27 rfl) rfl ?_
          exact v_sub [] rfl (w_X10_fetch_52 h)
      · have h := itp h c11
        refine v_iconst (dq D_X10_fetch 21 rfl) kc_5 ?_
        refine v_goto (dq D_X10_fetch 22 rfl) rfl ?_
        exact v_sub [] rfl (w_X10_fetch_52 h)
theorem m_X10_fetch {sa : Env3} {a0 : Nat} {σ : St} {r : Int32 × St} (h : f_X10_fetch a0 σ = some r) : Ex sa yX10_fetch cX10_fetch K_X10_fetch [.ref a0] σ (pO r) := Ex.of (by decide) rfl (fun q => nomatch q) (Nat.le_of_ble_eq_true rfl) (w_X10_fetch_0 (itg h).2)
theorem w_X10_fetchable_0 {sa : Env3} {a0 : Nat} {σ : St} {r : Int32 × St} (h : f_X10_fetchable_0 a0 σ = some r) : VV sa cX10_fetchable K_X10_fetchable 0 [(0, .ref a0)] [] σ (pO r) 0 0 := by
  unfold f_X10_fetchable_0 at h
  refine v_aload_n (dq D_X10_fetchable 0 rfl) 0 rfl ?_
  refine v_iconst (dq D_X10_fetchable 1 rfl) kc_0 ?_
  obtain ⟨σ1, hσ1, h⟩ := obi h
  refine v_pI (dq D_X10_fetchable 2 rfl) fp_RX10_36 hσ1 ?_
  refine v_aload_n (dq D_X10_fetchable 3 rfl) 0 rfl ?_
  obtain ⟨x2, hx2, h⟩ := obi h
  refine v_gQ (dq D_X10_fetchable 4 rfl) fa_RX10_266 hx2 ?_
  rcases oc_inv h with ⟨rfl, h⟩ | ⟨b3, rfl, h⟩
  · refine v_ifnonnullN (dq D_X10_fetchable 5 rfl) ?_
    refine v_aload_n (dq D_X10_fetchable 6 rfl) 0 rfl ?_
    refine v_iconst (dq D_X10_fetchable 7 rfl) kc_1 ?_
    obtain ⟨q4, hq4, h⟩ := obi h
    refine v_cVi (bc := 0) (bs := 0) (As := [.int 1]) (dq D_X10_fetchable 8 rfl) cv_X10_refused ml_RX10_42 (itg hq4).1 (m_X10_refused hq4) rfl rfl (Nat.le_of_ble_eq_true rfl) ⟨Nat.le_of_ble_eq_true rfl, Nat.le_of_ble_eq_true rfl⟩ ⟨Nat.le_of_ble_eq_true rfl, Nat.le_of_ble_eq_true rfl⟩ ?_
    obtain rfl := Option.some.inj h
    exact v_iret (dq D_X10_fetchable 9 rfl) rfl ⟨rfl, rfl⟩
  · refine v_ifnonnullR (dq D_X10_fetchable 5 rfl) rfl ?_
    refine v_aload_n (dq D_X10_fetchable 10 rfl) 0 rfl ?_
    obtain ⟨σ5, hσ5, h⟩ := obi h
    refine v_cVv (bc := 0) (bs := 0) (As := []) (dq D_X10_fetchable 11 rfl) cv_X10_works ml_RX10_366 (itg hσ5).1 (m_X10_works hσ5) rfl rfl (Nat.le_of_ble_eq_true rfl) ⟨Nat.le_of_ble_eq_true rfl, Nat.le_of_ble_eq_true rfl⟩ ⟨Nat.le_of_ble_eq_true rfl, Nat.le_of_ble_eq_true rfl⟩ ?_
    refine v_aload_n (dq D_X10_fetchable 12 rfl) 0 rfl ?_
    refine v_aload_n (dq D_X10_fetchable 13 rfl) 0 rfl ?_
    obtain ⟨q6, hq6, h⟩ := obi h
    refine v_cVi (bc := 0) (bs := 0) (As := []) (dq D_X10_fetchable 14 rfl) cv_X10_whyNoFetch ml_RX10_384 (itg hq6).1 (m_X10_whyNoFetch hq6) rfl rfl (Nat.le_of_ble_eq_true rfl) ⟨Nat.le_of_ble_eq_true rfl, Nat.le_of_ble_eq_true rfl⟩ ⟨Nat.le_of_ble_eq_true rfl, Nat.le_of_ble_eq_true rfl⟩ ?_
    obtain ⟨q7, hq7, h⟩ := obi h
    refine v_cVi (bc := 0) (bs := 0) (As := [.int q6.1]) (dq D_X10_fetchable 15 rfl) cv_X10_good ml_RX10_46 (itg hq7).1 (m_X10_good hq7) rfl rfl (Nat.le_of_ble_eq_true rfl) ⟨Nat.le_of_ble_eq_true rfl, Nat.le_of_ble_eq_true rfl⟩ ⟨Nat.le_of_ble_eq_true rfl, Nat.le_of_ble_eq_true rfl⟩ ?_
    obtain rfl := Option.some.inj h
    exact v_iret (dq D_X10_fetchable 16 rfl) rfl ⟨rfl, rfl⟩
theorem m_X10_fetchable {sa : Env3} {a0 : Nat} {σ : St} {r : Int32 × St} (h : f_X10_fetchable a0 σ = some r) : Ex sa yX10_fetchable cX10_fetchable K_X10_fetchable [.ref a0] σ (pO r) := Ex.of (by decide) rfl (fun q => nomatch q) (Nat.le_of_ble_eq_true rfl) (w_X10_fetchable_0 (itg h).2)
theorem w_X10_fitAt_16 {sa : Env3} {a0 : Nat} {σ : St} {r : Int32 × St} (h : f_X10_fitAt_16 a0 σ = some r) : VV sa cX10_fitAt K_X10_fitAt 16 [(0, .ref a0)] [] σ (pO r) 0 0 := by
  unfold f_X10_fitAt_16 at h
  refine v_aload_n (dq D_X10_fitAt 8 rfl) 0 rfl ?_
  refine v_iconst (dq D_X10_fitAt 9 rfl) kc_1 ?_
  obtain ⟨q1, hq1, h⟩ := obi h
  refine v_cVi (bc := 0) (bs := 0) (As := [.int 1]) (dq D_X10_fitAt 10 rfl) cv_X10_refused ml_RX10_42 (itg hq1).1 (m_X10_refused hq1) rfl rfl (Nat.le_of_ble_eq_true rfl) ⟨Nat.le_of_ble_eq_true rfl, Nat.le_of_ble_eq_true rfl⟩ ⟨Nat.le_of_ble_eq_true rfl, Nat.le_of_ble_eq_true rfl⟩ ?_
  obtain rfl := Option.some.inj h
  exact v_iret (dq D_X10_fitAt 11 rfl) rfl ⟨rfl, rfl⟩
theorem w_X10_fitAt_46 {sa : Env3} {s0 : Int32} {σ : St} {r : Int32 × St} (h : f_X10_fitAt_46 s0 σ = some r) : VV sa cX10_fitAt K_X10_fitAt 46 [] [.int s0] σ (pO r) 0 0 := by
  unfold f_X10_fitAt_46 at h
  obtain rfl := Option.some.inj h
  exact v_iret (dq D_X10_fitAt 26 rfl) rfl ⟨rfl, rfl⟩
theorem w_X10_fitAt_0 {sa : Env3} {a0 : Nat} {a1 : Int32} {σ : St} {r : Int32 × St} (h : f_X10_fitAt_0 a0 a1 σ = some r) : VV sa cX10_fitAt K_X10_fitAt 0 [(0, .ref a0), (1, .int a1)] [] σ (pO r) 0 0 := by
  unfold f_X10_fitAt_0 at h
  refine v_aload_n (dq D_X10_fitAt 0 rfl) 0 rfl ?_
  refine v_iconst (dq D_X10_fitAt 1 rfl) kc_0 ?_
  obtain ⟨σ1, hσ1, h⟩ := obi h
  refine v_pI (dq D_X10_fitAt 2 rfl) fp_RX10_36 hσ1 ?_
  refine v_aload_n (dq D_X10_fitAt 3 rfl) 0 rfl ?_
  obtain ⟨x2, hx2, h⟩ := obi h
  refine v_gQ (dq D_X10_fitAt 4 rfl) fa_RX10_266 hx2 ?_
  rcases oc_inv h with ⟨rfl, h⟩ | ⟨b3, rfl, h⟩
  · refine v_ifnullN (dq D_X10_fitAt 5 rfl) rfl ?_
    exact v_sub [0] rfl (w_X10_fitAt_16 h)
  · refine v_ifnullR (dq D_X10_fitAt 5 rfl) ?_
    refine v_iload_n (dq D_X10_fitAt 6 rfl) 1 rfl ?_
    refine v_if_ge (dq D_X10_fitAt 7 rfl) rfl (fun c4 => ?_) (fun c4 => ?_)
    · have h := itp h c4
      refine v_aload_n (dq D_X10_fitAt 12 rfl) 0 rfl ?_
      refine v_iload_n (dq D_X10_fitAt 13 rfl) 1 rfl ?_
      obtain ⟨q5, hq5, h⟩ := obi h
      refine v_cVi (bc := 0) (bs := 0) (As := [.int a1]) (dq D_X10_fitAt 14 rfl) cv_X10_fitting ml_RX10_436 (itg hq5).1 (m_X10_fitting hq5) rfl rfl (Nat.le_of_ble_eq_true rfl) ⟨Nat.le_of_ble_eq_true rfl, Nat.le_of_ble_eq_true rfl⟩ ⟨Nat.le_of_ble_eq_true rfl, Nat.le_of_ble_eq_true rfl⟩ ?_
      refine v_istore_n (dq D_X10_fitAt 15 rfl) [(2, .int q5.1), (0, .ref a0), (1, .int a1)] rfl (Nat.le_of_ble_eq_true rfl) rfl ?_
      refine v_iload_n (dq D_X10_fitAt 16 rfl) 0 rfl ?_
      refine v_iconst (dq D_X10_fitAt 17 rfl) kc_m1 ?_
      refine v_icmp_ne (dq D_X10_fitAt 18 rfl) rfl (fun c6 => ?_) (fun c6 => ?_)
      · have h := itn h c6
        refine v_aload_n (dq D_X10_fitAt 23 rfl) 1 rfl ?_
        refine v_iload_n (dq D_X10_fitAt 24 rfl) 0 rfl ?_
        obtain ⟨q7, hq7, h⟩ := obi h
        refine v_cVi (bc := 0) (bs := 0) (As := [.int q5.1]) (dq D_X10_fitAt 25 rfl) cv_X10_good ml_RX10_46 (itg hq7).1 (m_X10_good hq7) rfl rfl (Nat.le_of_ble_eq_true rfl) ⟨Nat.le_of_ble_eq_true rfl, Nat.le_of_ble_eq_true rfl⟩ ⟨Nat.le_of_ble_eq_true rfl, Nat.le_of_ble_eq_true rfl⟩ ?_
        exact v_sub [] rfl (w_X10_fitAt_46 h)
      · have h := itp h c6
        refine v_aload_n (dq D_X10_fitAt 19 rfl) 1 rfl ?_
        refine v_iconst (dq D_X10_fitAt 20 rfl) kc_1 ?_
        obtain ⟨q8, hq8, h⟩ := obi h
        refine v_cVi (bc := 0) (bs := 0) (As := [.int 1]) (dq D_X10_fitAt 21 rfl) cv_X10_refused ml_RX10_42 (itg hq8).1 (m_X10_refused hq8) rfl rfl (Nat.le_of_ble_eq_true rfl) ⟨Nat.le_of_ble_eq_true rfl, Nat.le_of_ble_eq_true rfl⟩ ⟨Nat.le_of_ble_eq_true rfl, Nat.le_of_ble_eq_true rfl⟩ ?_
        refine v_goto (dq D_X10_fitAt 22 rfl) rfl ?_
        exact v_sub [] rfl (w_X10_fitAt_46 h)
    · have h := itn h c4
      exact v_sub [0] rfl (w_X10_fitAt_16 h)
theorem m_X10_fitAt {sa : Env3} {a0 : Nat} {a1 : Int32} {σ : St} {r : Int32 × St} (h : f_X10_fitAt a0 a1 σ = some r) : Ex sa yX10_fitAt cX10_fitAt K_X10_fitAt [.ref a0, .int a1] σ (pO r) := Ex.of (by decide) rfl (fun q => nomatch q) (Nat.le_of_ble_eq_true rfl) (w_X10_fitAt_0 (itg h).2)
theorem w_X10_fits_0 {sa : Env3} {a0 : Nat} {σ : St} {r : Int32 × St} (h : f_X10_fits_0 a0 σ = some r) : VV sa cX10_fits K_X10_fits 0 [(0, .ref a0)] [] σ (pO r) 0 0 := by
  unfold f_X10_fits_0 at h
  refine v_aload_n (dq D_X10_fits 0 rfl) 0 rfl ?_
  refine v_iconst (dq D_X10_fits 1 rfl) kc_0 ?_
  obtain ⟨σ1, hσ1, h⟩ := obi h
  refine v_pI (dq D_X10_fits 2 rfl) fp_RX10_36 hσ1 ?_
  refine v_aload_n (dq D_X10_fits 3 rfl) 0 rfl ?_
  obtain ⟨x2, hx2, h⟩ := obi h
  refine v_gQ (dq D_X10_fits 4 rfl) fa_RX10_266 hx2 ?_
  rcases oc_inv h with ⟨rfl, h⟩ | ⟨b3, rfl, h⟩
  · refine v_ifnonnullN (dq D_X10_fits 5 rfl) ?_
    refine v_aload_n (dq D_X10_fits 6 rfl) 0 rfl ?_
    refine v_iconst (dq D_X10_fits 7 rfl) kc_1 ?_
    obtain ⟨q4, hq4, h⟩ := obi h
    refine v_cVi (bc := 0) (bs := 0) (As := [.int 1]) (dq D_X10_fits 8 rfl) cv_X10_refused ml_RX10_42 (itg hq4).1 (m_X10_refused hq4) rfl rfl (Nat.le_of_ble_eq_true rfl) ⟨Nat.le_of_ble_eq_true rfl, Nat.le_of_ble_eq_true rfl⟩ ⟨Nat.le_of_ble_eq_true rfl, Nat.le_of_ble_eq_true rfl⟩ ?_
    obtain rfl := Option.some.inj h
    exact v_iret (dq D_X10_fits 9 rfl) rfl ⟨rfl, rfl⟩
  · refine v_ifnonnullR (dq D_X10_fits 5 rfl) rfl ?_
    refine v_aload_n (dq D_X10_fits 10 rfl) 0 rfl ?_
    refine v_iconst (dq D_X10_fits 11 rfl) kc_m1 ?_
    obtain ⟨q5, hq5, h⟩ := obi h
    refine v_cVi (bc := 0) (bs := 0) (As := [.int (-1)]) (dq D_X10_fits 12 rfl) cv_X10_fitting ml_RX10_436 (itg hq5).1 (m_X10_fitting hq5) rfl rfl (Nat.le_of_ble_eq_true rfl) ⟨Nat.le_of_ble_eq_true rfl, Nat.le_of_ble_eq_true rfl⟩ ⟨Nat.le_of_ble_eq_true rfl, Nat.le_of_ble_eq_true rfl⟩ ?_
    refine v_pop (dq D_X10_fits 13 rfl) rfl ?_
    refine v_aload_n (dq D_X10_fits 14 rfl) 0 rfl ?_
    refine v_aload_n (dq D_X10_fits 15 rfl) 0 rfl ?_
    obtain ⟨x6, hx6, h⟩ := obi h
    refine v_gI (dq D_X10_fits 16 rfl) fa_RX10_424 hx6 ?_
    obtain ⟨q7, hq7, h⟩ := obi h
    refine v_cVi (bc := 0) (bs := 0) (As := [.int x6]) (dq D_X10_fits 17 rfl) cv_X10_good ml_RX10_46 (itg hq7).1 (m_X10_good hq7) rfl rfl (Nat.le_of_ble_eq_true rfl) ⟨Nat.le_of_ble_eq_true rfl, Nat.le_of_ble_eq_true rfl⟩ ⟨Nat.le_of_ble_eq_true rfl, Nat.le_of_ble_eq_true rfl⟩ ?_
    obtain rfl := Option.some.inj h
    exact v_iret (dq D_X10_fits 18 rfl) rfl ⟨rfl, rfl⟩
theorem m_X10_fits {sa : Env3} {a0 : Nat} {σ : St} {r : Int32 × St} (h : f_X10_fits a0 σ = some r) : Ex sa yX10_fits cX10_fits K_X10_fits [.ref a0] σ (pO r) := Ex.of (by decide) rfl (fun q => nomatch q) (Nat.le_of_ble_eq_true rfl) (w_X10_fits_0 (itg h).2)
theorem w_X10_fraction_16 {sa : Env3} {a1 : Int64} {a3 : Int64} {s0 : Int64} {σ : St} {r : Int64 × St} (h : f_X10_fraction_16 a1 a3 s0 σ = some r) : VV sa cX10_fraction K_X10_fraction 16 [(1, .long a1), (3, .long a3)] [.long s0] σ (pJ r) 0 0 := by
  unfold f_X10_fraction_16 at h
  refine v_lload_n (dq D_X10_fraction 9 rfl) 0 rfl ?_
  refine v_lload_n (dq D_X10_fraction 10 rfl) 1 rfl ?_
  obtain ⟨q1, hq1, h⟩ := obi h
  refine v_cSj (bc := 0) (bs := 0) (As := [.long a1, .long a3]) (dq D_X10_fraction 11 rfl) cs_X10_common ml_RX10_49 (m_X10_common hq1) rfl rfl (Nat.le_of_ble_eq_true rfl) ⟨Nat.le_of_ble_eq_true rfl, Nat.le_of_ble_eq_true rfl⟩ ⟨Nat.le_of_ble_eq_true rfl, Nat.le_of_ble_eq_true rfl⟩ ?_
  have c2 := (itx h).1
  have h := (itx h).2
  refine v_ldiv (dq D_X10_fraction 12 rfl) c2 ?_
  obtain rfl := Option.some.inj h
  exact v_lret (dq D_X10_fraction 13 rfl) rfl ⟨rfl, rfl⟩
theorem w_X10_fraction_0 {sa : Env3} {a0 : Nat} {a1 : Int64} {a3 : Int64} {a5 : Int32} {σ : St} {r : Int64 × St} (h : f_X10_fraction_0 a0 a1 a3 a5 σ = some r) : VV sa cX10_fraction K_X10_fraction 0 [(0, .ref a0), (1, .long a1), (3, .long a3), (5, .int a5)] [] σ (pJ r) 0 0 := by
  unfold f_X10_fraction_0 at h
  refine v_aload_n (dq D_X10_fraction 0 rfl) 0 rfl ?_
  refine v_iconst (dq D_X10_fraction 1 rfl) kc_0 ?_
  obtain ⟨q1, hq1, h⟩ := obi h
  refine v_cVi (bc := 0) (bs := 0) (As := [.int 0]) (dq D_X10_fraction 2 rfl) cv_X10_good ml_RX10_46 (itg hq1).1 (m_X10_good hq1) rfl rfl (Nat.le_of_ble_eq_true rfl) ⟨Nat.le_of_ble_eq_true rfl, Nat.le_of_ble_eq_true rfl⟩ ⟨Nat.le_of_ble_eq_true rfl, Nat.le_of_ble_eq_true rfl⟩ ?_
  refine v_pop (dq D_X10_fraction 3 rfl) rfl ?_
  refine v_iload (dq D_X10_fraction 4 rfl) 3 rfl ?_
  refine v_if_eq (dq D_X10_fraction 5 rfl) rfl (fun c2 => ?_) (fun c2 => ?_)
  · have h := itp h c2
    refine v_lload_n (dq D_X10_fraction 8 rfl) 1 rfl ?_
    exact v_sub [1, 2] rfl (w_X10_fraction_16 h)
  · have h := itn h c2
    refine v_lload_n (dq D_X10_fraction 6 rfl) 2 rfl ?_
    refine v_goto (dq D_X10_fraction 7 rfl) rfl ?_
    exact v_sub [1, 2] rfl (w_X10_fraction_16 h)
theorem m_X10_fraction {sa : Env3} {a0 : Nat} {a1 : Int64} {a3 : Int64} {a5 : Int32} {σ : St} {r : Int64 × St} (h : f_X10_fraction a0 a1 a3 a5 σ = some r) : Ex sa yX10_fraction cX10_fraction K_X10_fraction [.ref a0, .long a1, .long a3, .int a5] σ (pJ r) := Ex.of (by decide) rfl (fun q => nomatch q) (Nat.le_of_ble_eq_true rfl) (w_X10_fraction_0 (itg h).2)
theorem w_X10_free_0 {sa : Env3} {a0 : Nat} {σ : St} {r : Int32 × St} (h : f_X10_free_0 a0 σ = some r) : VV sa cX10_free K_X10_free 0 [(0, .ref a0)] [] σ (pO r) 0 0 := by
  unfold f_X10_free_0 at h
  refine v_aload_n (dq D_X10_free 0 rfl) 0 rfl ?_
  refine v_iconst (dq D_X10_free 1 rfl) kc_0 ?_
  obtain ⟨σ1, hσ1, h⟩ := obi h
  refine v_pI (dq D_X10_free 2 rfl) fp_RX10_36 hσ1 ?_
  refine v_aload_n (dq D_X10_free 3 rfl) 0 rfl ?_
  obtain ⟨x2, hx2, h⟩ := obi h
  refine v_gQ (dq D_X10_free 4 rfl) fa_RX10_266 hx2 ?_
  rcases oc_inv h with ⟨rfl, h⟩ | ⟨b3, rfl, h⟩
  · refine v_ifnonnullN (dq D_X10_free 5 rfl) ?_
    refine v_aload_n (dq D_X10_free 6 rfl) 0 rfl ?_
    refine v_iconst (dq D_X10_free 7 rfl) kc_1 ?_
    obtain ⟨q4, hq4, h⟩ := obi h
    refine v_cVi (bc := 0) (bs := 0) (As := [.int 1]) (dq D_X10_free 8 rfl) cv_X10_refused ml_RX10_42 (itg hq4).1 (m_X10_refused hq4) rfl rfl (Nat.le_of_ble_eq_true rfl) ⟨Nat.le_of_ble_eq_true rfl, Nat.le_of_ble_eq_true rfl⟩ ⟨Nat.le_of_ble_eq_true rfl, Nat.le_of_ble_eq_true rfl⟩ ?_
    obtain rfl := Option.some.inj h
    exact v_iret (dq D_X10_free 9 rfl) rfl ⟨rfl, rfl⟩
  · refine v_ifnonnullR (dq D_X10_free 5 rfl) rfl ?_
    refine v_aload_n (dq D_X10_free 10 rfl) 0 rfl ?_
    obtain ⟨σ5, hσ5, h⟩ := obi h
    refine v_cVv (bc := 0) (bs := 0) (As := []) (dq D_X10_free 11 rfl) cv_X10_works ml_RX10_366 (itg hσ5).1 (m_X10_works hσ5) rfl rfl (Nat.le_of_ble_eq_true rfl) ⟨Nat.le_of_ble_eq_true rfl, Nat.le_of_ble_eq_true rfl⟩ ⟨Nat.le_of_ble_eq_true rfl, Nat.le_of_ble_eq_true rfl⟩ ?_
    refine v_aload_n (dq D_X10_free 12 rfl) 0 rfl ?_
    refine v_aload_n (dq D_X10_free 13 rfl) 0 rfl ?_
    obtain ⟨q6, hq6, h⟩ := obi h
    refine v_cVi (bc := 0) (bs := 0) (As := []) (dq D_X10_free 14 rfl) cv_X10_freeNow ml_RX10_342 (itg hq6).1 (m_X10_freeNow hq6) rfl rfl (Nat.le_of_ble_eq_true rfl) ⟨Nat.le_of_ble_eq_true rfl, Nat.le_of_ble_eq_true rfl⟩ ⟨Nat.le_of_ble_eq_true rfl, Nat.le_of_ble_eq_true rfl⟩ ?_
    obtain ⟨q7, hq7, h⟩ := obi h
    refine v_cVi (bc := 0) (bs := 0) (As := [.int q6.1]) (dq D_X10_free 15 rfl) cv_X10_good ml_RX10_46 (itg hq7).1 (m_X10_good hq7) rfl rfl (Nat.le_of_ble_eq_true rfl) ⟨Nat.le_of_ble_eq_true rfl, Nat.le_of_ble_eq_true rfl⟩ ⟨Nat.le_of_ble_eq_true rfl, Nat.le_of_ble_eq_true rfl⟩ ?_
    obtain rfl := Option.some.inj h
    exact v_iret (dq D_X10_free 16 rfl) rfl ⟨rfl, rfl⟩
theorem m_X10_free {sa : Env3} {a0 : Nat} {σ : St} {r : Int32 × St} (h : f_X10_free a0 σ = some r) : Ex sa yX10_free cX10_free K_X10_free [.ref a0] σ (pO r) := Ex.of (by decide) rfl (fun q => nomatch q) (Nat.le_of_ble_eq_true rfl) (w_X10_free_0 (itg h).2)
theorem w_X10_gives_0 {sa : Env3} {a0 : Nat} {a1 : Int32} {σ : St} {r : Int32 × St} (h : f_X10_gives_0 a0 a1 σ = some r) : VV sa cX10_gives K_X10_gives 0 [(0, .ref a0), (1, .int a1)] [] σ (pO r) 0 0 := by
  unfold f_X10_gives_0 at h
  refine v_aload_n (dq D_X10_gives 0 rfl) 0 rfl ?_
  refine v_iconst (dq D_X10_gives 1 rfl) kc_0 ?_
  obtain ⟨σ1, hσ1, h⟩ := obi h
  refine v_pI (dq D_X10_gives 2 rfl) fp_RX10_36 hσ1 ?_
  refine v_aload_n (dq D_X10_gives 3 rfl) 0 rfl ?_
  refine v_iload_n (dq D_X10_gives 4 rfl) 1 rfl ?_
  obtain ⟨q2, hq2, h⟩ := obi h
  refine v_cVi (bc := 0) (bs := 0) (As := [.int a1]) (dq D_X10_gives 5 rfl) cv_X10_isEntry ml_RX10_378 (itg hq2).1 (m_X10_isEntry hq2) rfl rfl (Nat.le_of_ble_eq_true rfl) ⟨Nat.le_of_ble_eq_true rfl, Nat.le_of_ble_eq_true rfl⟩ ⟨Nat.le_of_ble_eq_true rfl, Nat.le_of_ble_eq_true rfl⟩ ?_
  refine v_if_ne (dq D_X10_gives 6 rfl) rfl (fun c3 => ?_) (fun c3 => ?_)
  · have h := itn h c3
    refine v_aload_n (dq D_X10_gives 11 rfl) 0 rfl ?_
    obtain ⟨σ4, hσ4, h⟩ := obi h
    refine v_cVv (bc := 0) (bs := 0) (As := []) (dq D_X10_gives 12 rfl) cv_X10_works ml_RX10_366 (itg hσ4).1 (m_X10_works hσ4) rfl rfl (Nat.le_of_ble_eq_true rfl) ⟨Nat.le_of_ble_eq_true rfl, Nat.le_of_ble_eq_true rfl⟩ ⟨Nat.le_of_ble_eq_true rfl, Nat.le_of_ble_eq_true rfl⟩ ?_
    refine v_aload_n (dq D_X10_gives 13 rfl) 0 rfl ?_
    obtain ⟨q5, hq5, h⟩ := obi h
    refine v_cVi (bc := 0) (bs := 0) (As := []) (dq D_X10_gives 14 rfl) cv_X10_freeNow ml_RX10_342 (itg hq5).1 (m_X10_freeNow hq5) rfl rfl (Nat.le_of_ble_eq_true rfl) ⟨Nat.le_of_ble_eq_true rfl, Nat.le_of_ble_eq_true rfl⟩ ⟨Nat.le_of_ble_eq_true rfl, Nat.le_of_ble_eq_true rfl⟩ ?_
    obtain ⟨q6, hq6, h⟩ := obi h
    refine v_cSi (bc := 0) (bs := 0) (As := [.int q5.1]) (dq D_X10_gives 15 rfl) cs_X10_bits ml_RX10_390 (m_X10_bits hq6) rfl rfl (Nat.le_of_ble_eq_true rfl) ⟨Nat.le_of_ble_eq_true rfl, Nat.le_of_ble_eq_true rfl⟩ ⟨Nat.le_of_ble_eq_true rfl, Nat.le_of_ble_eq_true rfl⟩ ?_
    refine v_istore_n (dq D_X10_gives 16 rfl) [(2, .int q6.1), (0, .ref a0), (1, .int a1)] rfl (Nat.le_of_ble_eq_true rfl) rfl ?_
    refine v_aload_n (dq D_X10_gives 17 rfl) 1 rfl ?_
    obtain ⟨x7, hx7, h⟩ := obi h
    refine v_gR (dq D_X10_gives 18 rfl) fa_RX10_24 hx7 ?_
    refine v_bipush (dq D_X10_gives 19 rfl) kb_34 ?_
    refine v_iload_n (dq D_X10_gives 20 rfl) 2 rfl ?_
    refine v_iconst (dq D_X10_gives 21 rfl) kc_1 ?_
    refine v_iadd (dq D_X10_gives 22 rfl) ?_
    obtain ⟨σ8, hσ8, h⟩ := obi h
    refine v_iast (dq D_X10_gives 23 rfl) hσ8 ?_
    refine v_aload_n (dq D_X10_gives 24 rfl) 1 rfl ?_
    refine v_aload_n (dq D_X10_gives 25 rfl) 1 rfl ?_
    obtain ⟨q9, hq9, h⟩ := obi h
    refine v_cVi (bc := 0) (bs := 0) (As := []) (dq D_X10_gives 26 rfl) cv_X10_freeNow ml_RX10_342 (itg hq9).1 (m_X10_freeNow hq9) rfl rfl (Nat.le_of_ble_eq_true rfl) ⟨Nat.le_of_ble_eq_true rfl, Nat.le_of_ble_eq_true rfl⟩ ⟨Nat.le_of_ble_eq_true rfl, Nat.le_of_ble_eq_true rfl⟩ ?_
    obtain ⟨q10, hq10, h⟩ := obi h
    refine v_cSi (bc := 0) (bs := 0) (As := [.int q9.1]) (dq D_X10_gives 27 rfl) cs_X10_bits ml_RX10_390 (m_X10_bits hq10) rfl rfl (Nat.le_of_ble_eq_true rfl) ⟨Nat.le_of_ble_eq_true rfl, Nat.le_of_ble_eq_true rfl⟩ ⟨Nat.le_of_ble_eq_true rfl, Nat.le_of_ble_eq_true rfl⟩ ?_
    refine v_iload_n (dq D_X10_gives 28 rfl) 0 rfl ?_
    refine v_isub (dq D_X10_gives 29 rfl) ?_
    obtain ⟨q11, hq11, h⟩ := obi h
    refine v_cVi (bc := 0) (bs := 0) (As := [.int (q10.1 - q6.1)]) (dq D_X10_gives 30 rfl) cv_X10_good ml_RX10_46 (itg hq11).1 (m_X10_good hq11) rfl rfl (Nat.le_of_ble_eq_true rfl) ⟨Nat.le_of_ble_eq_true rfl, Nat.le_of_ble_eq_true rfl⟩ ⟨Nat.le_of_ble_eq_true rfl, Nat.le_of_ble_eq_true rfl⟩ ?_
    obtain rfl := Option.some.inj h
    exact v_iret (dq D_X10_gives 31 rfl) rfl ⟨rfl, rfl⟩
  · have h := itp h c3
    refine v_aload_n (dq D_X10_gives 7 rfl) 0 rfl ?_
    refine v_iconst (dq D_X10_gives 8 rfl) kc_1 ?_
    obtain ⟨q12, hq12, h⟩ := obi h
    refine v_cVi (bc := 0) (bs := 0) (As := [.int 1]) (dq D_X10_gives 9 rfl) cv_X10_refused ml_RX10_42 (itg hq12).1 (m_X10_refused hq12) rfl rfl (Nat.le_of_ble_eq_true rfl) ⟨Nat.le_of_ble_eq_true rfl, Nat.le_of_ble_eq_true rfl⟩ ⟨Nat.le_of_ble_eq_true rfl, Nat.le_of_ble_eq_true rfl⟩ ?_
    obtain rfl := Option.some.inj h
    exact v_iret (dq D_X10_gives 10 rfl) rfl ⟨rfl, rfl⟩
theorem m_X10_gives {sa : Env3} {a0 : Nat} {a1 : Int32} {σ : St} {r : Int32 × St} (h : f_X10_gives a0 a1 σ = some r) : Ex sa yX10_gives cX10_gives K_X10_gives [.ref a0, .int a1] σ (pO r) := Ex.of (by decide) rfl (fun q => nomatch q) (Nat.le_of_ble_eq_true rfl) (w_X10_gives_0 (itg h).2)
theorem w_X10_image_34 {sa : Env3} : ∀ (n : Nat) {a0 : Nat} {a1 : Int32} {σ : St} {r : Int32 × St}, f_X10_image_34 n a0 a1 σ = some r → VV sa cX10_image K_X10_image 34 [(0, .ref a0), (1, .int a1)] [] σ (pO r) 0 0 := by
  intro n
  induction n with
  | zero => intro a0 a1 σ r h; cases h
  | succ n ih =>
    intro a0 a1 σ r h
    rw [e_X10_image_34] at h
    refine v_iload_n (dq D_X10_image 20 rfl) 1 rfl ?_
    refine v_sipush (dq D_X10_image 21 rfl) ks_195 ?_
    refine v_icmp_ge (dq D_X10_image 22 rfl) rfl (fun c1 => ?_) (fun c1 => ?_)
    · have h := itp h c1
      refine v_aload_n (dq D_X10_image 38 rfl) 0 rfl ?_
      refine v_dup (dq D_X10_image 39 rfl) rfl ?_
      obtain ⟨x2, hx2, h⟩ := obi h
      refine v_gI (dq D_X10_image 40 rfl) fa_RX10_277 hx2 ?_
      refine v_iconst (dq D_X10_image 41 rfl) kc_1 ?_
      refine v_iadd (dq D_X10_image 42 rfl) ?_
      obtain ⟨σ3, hσ3, h⟩ := obi h
      refine v_pI (dq D_X10_image 43 rfl) fp_RX10_277 hσ3 ?_
      refine v_aload_n (dq D_X10_image 44 rfl) 0 rfl ?_
      refine v_aload_n (dq D_X10_image 45 rfl) 0 rfl ?_
      obtain ⟨x4, hx4, h⟩ := obi h
      refine v_gI (dq D_X10_image 46 rfl) fa_RX10_277 hx4 ?_
      refine v_iconst (dq D_X10_image 47 rfl) kc_1 ?_
      refine v_isub (dq D_X10_image 48 rfl) ?_
      obtain ⟨q5, hq5, h⟩ := obi h
      refine v_cVi (bc := 0) (bs := 0) (As := [.int (x4 - 1)]) (dq D_X10_image 49 rfl) cv_X10_good ml_RX10_46 (itg hq5).1 (m_X10_good hq5) rfl rfl (Nat.le_of_ble_eq_true rfl) ⟨Nat.le_of_ble_eq_true rfl, Nat.le_of_ble_eq_true rfl⟩ ⟨Nat.le_of_ble_eq_true rfl, Nat.le_of_ble_eq_true rfl⟩ ?_
      obtain rfl := Option.some.inj h
      exact v_iret (dq D_X10_image 50 rfl) rfl ⟨rfl, rfl⟩
    · have h := itn h c1
      refine v_aload_n (dq D_X10_image 23 rfl) 0 rfl ?_
      obtain ⟨x6, hx6, h⟩ := obi h
      refine v_gR (dq D_X10_image 24 rfl) fa_RX10_30 hx6 ?_
      refine v_sipush (dq D_X10_image 25 rfl) ks_195 ?_
      refine v_aload_n (dq D_X10_image 26 rfl) 0 rfl ?_
      obtain ⟨x7, hx7, h⟩ := obi h
      refine v_gI (dq D_X10_image 27 rfl) fa_RX10_277 hx7 ?_
      refine v_imul (dq D_X10_image 28 rfl) ?_
      refine v_iload_n (dq D_X10_image 29 rfl) 1 rfl ?_
      refine v_iadd (dq D_X10_image 30 rfl) ?_
      refine v_aload_n (dq D_X10_image 31 rfl) 0 rfl ?_
      obtain ⟨x8, hx8, h⟩ := obi h
      refine v_gR (dq D_X10_image 32 rfl) fa_RX10_21 hx8 ?_
      refine v_iload_n (dq D_X10_image 33 rfl) 1 rfl ?_
      obtain ⟨x9, hx9, h⟩ := obi h
      refine v_iald (dq D_X10_image 34 rfl) hx9 ?_
      obtain ⟨σ10, hσ10, h⟩ := obi h
      refine v_iast (dq D_X10_image 35 rfl) hσ10 ?_
      refine v_iinc (dq D_X10_image 36 rfl) 1 [(1, .int (a1 + 1)), (0, .ref a0)] rfl kc_1 (Nat.le_of_ble_eq_true rfl) rfl ?_
      refine v_goto (dq D_X10_image 37 rfl) rfl ?_
      exact v_sub [1, 0] rfl (ih h)
theorem w_X10_image_0 {sa : Env3} {a0 : Nat} {σ : St} {r : Int32 × St} (h : f_X10_image_0 a0 σ = some r) : VV sa cX10_image K_X10_image 0 [(0, .ref a0)] [] σ (pO r) 0 0 := by
  unfold f_X10_image_0 at h
  refine v_aload_n (dq D_X10_image 0 rfl) 0 rfl ?_
  refine v_iconst (dq D_X10_image 1 rfl) kc_0 ?_
  obtain ⟨σ1, hσ1, h⟩ := obi h
  refine v_pI (dq D_X10_image 2 rfl) fp_RX10_36 hσ1 ?_
  refine v_aload_n (dq D_X10_image 3 rfl) 0 rfl ?_
  obtain ⟨x2, hx2, h⟩ := obi h
  refine v_gQ (dq D_X10_image 4 rfl) fa_RX10_266 hx2 ?_
  rcases oc_inv h with ⟨rfl, h⟩ | ⟨b3, rfl, h⟩
  · refine v_ifnonnullN (dq D_X10_image 5 rfl) ?_
    refine v_aload_n (dq D_X10_image 6 rfl) 0 rfl ?_
    refine v_iconst (dq D_X10_image 7 rfl) kc_1 ?_
    obtain ⟨q4, hq4, h⟩ := obi h
    refine v_cVi (bc := 0) (bs := 0) (As := [.int 1]) (dq D_X10_image 8 rfl) cv_X10_refused ml_RX10_42 (itg hq4).1 (m_X10_refused hq4) rfl rfl (Nat.le_of_ble_eq_true rfl) ⟨Nat.le_of_ble_eq_true rfl, Nat.le_of_ble_eq_true rfl⟩ ⟨Nat.le_of_ble_eq_true rfl, Nat.le_of_ble_eq_true rfl⟩ ?_
    obtain rfl := Option.some.inj h
    exact v_iret (dq D_X10_image 9 rfl) rfl ⟨rfl, rfl⟩
  · refine v_ifnonnullR (dq D_X10_image 5 rfl) rfl ?_
    refine v_aload_n (dq D_X10_image 10 rfl) 0 rfl ?_
    obtain ⟨x5, hx5, h⟩ := obi h
    refine v_gI (dq D_X10_image 11 rfl) fa_RX10_277 hx5 ?_
    refine v_iconst (dq D_X10_image 12 rfl) kc_3 ?_
    refine v_icmp_ne (dq D_X10_image 13 rfl) rfl (fun c6 => ?_) (fun c6 => ?_)
    · have h := itn h c6
      refine v_iconst (dq D_X10_image 18 rfl) kc_0 ?_
      refine v_istore_n (dq D_X10_image 19 rfl) [(1, .int 0), (0, .ref a0)] rfl (Nat.le_of_ble_eq_true rfl) rfl ?_
      exact v_sub [1, 0] rfl (w_X10_image_34 _ h)
    · have h := itp h c6
      refine v_aload_n (dq D_X10_image 14 rfl) 0 rfl ?_
      refine v_iconst (dq D_X10_image 15 rfl) kc_3 ?_
      obtain ⟨q7, hq7, h⟩ := obi h
      refine v_cVi (bc := 0) (bs := 0) (As := [.int 3]) (dq D_X10_image 16 rfl) cv_X10_refused ml_RX10_42 (itg hq7).1 (m_X10_refused hq7) rfl rfl (Nat.le_of_ble_eq_true rfl) ⟨Nat.le_of_ble_eq_true rfl, Nat.le_of_ble_eq_true rfl⟩ ⟨Nat.le_of_ble_eq_true rfl, Nat.le_of_ble_eq_true rfl⟩ ?_
      obtain rfl := Option.some.inj h
      exact v_iret (dq D_X10_image 17 rfl) rfl ⟨rfl, rfl⟩
theorem m_X10_image {sa : Env3} {a0 : Nat} {σ : St} {r : Int32 × St} (h : f_X10_image a0 σ = some r) : Ex sa yX10_image cX10_image K_X10_image [.ref a0] σ (pO r) := Ex.of (by decide) rfl (fun q => nomatch q) (Nat.le_of_ble_eq_true rfl) (w_X10_image_0 (itg h).2)
theorem w_X10_init_0 {sa : Env3} {a0 : Nat} {σ : St} {r : St} (h : f_X10_init_0 a0 σ = some r) : VV sa cX10_init K_X10_init 0 [(0, .ref a0)] [] σ (pU r) 7 5007 := by
  unfold f_X10_init_0 at h
  refine v_aload_n (dq D_X10_init 0 rfl) 0 rfl ?_
  refine v_objI (dq D_X10_init 1 rfl) tw_1194 tw_30 tw_31 (Nat.le_of_ble_eq_true rfl) (Nat.le_of_ble_eq_true rfl) ?_
  refine v_aload_n (dq D_X10_init 2 rfl) 0 rfl ?_
  refine v_iconst (dq D_X10_init 3 rfl) kc_m1 ?_
  obtain ⟨σ1, hσ1, h⟩ := obi h
  refine v_pI (dq D_X10_init 4 rfl) fp_RX10_9 hσ1 ?_
  refine v_aload_n (dq D_X10_init 5 rfl) 0 rfl ?_
  refine v_sipush (dq D_X10_init 6 rfl) ks_900 ?_
  obtain ⟨σ2, hσ2, h⟩ := bnd_inv h
  refine v_newa (t := 21) (N := 900) (bc := 6) (bs := 4107) (dq D_X10_init 7 rfl) rfl (Or.inl ⟨rfl, rfl, rfl⟩) tw_130 (by decide) (by decide) (Nat.le_of_ble_eq_true rfl) ⟨Nat.le_of_ble_eq_true rfl, Nat.le_of_ble_eq_true rfl⟩ hσ2 ?_
  obtain ⟨σ3, hσ3, h⟩ := obi h
  refine v_pP (dq D_X10_init 8 rfl) fp_RX10_13 (fun _ => rfl) hσ3 ?_
  refine v_aload_n (dq D_X10_init 9 rfl) 0 rfl ?_
  refine v_bipush (dq D_X10_init 10 rfl) kb_8 ?_
  obtain ⟨σ4, hσ4, h⟩ := bnd_inv h
  refine v_newa (t := 22) (N := 8) (bc := 5) (bs := 4099) (dq D_X10_init 11 rfl) rfl (Or.inr (Or.inl ⟨rfl, rfl, rfl⟩)) tw_131 (by decide) (by decide) (Nat.le_of_ble_eq_true rfl) ⟨Nat.le_of_ble_eq_true rfl, Nat.le_of_ble_eq_true rfl⟩ hσ4 ?_
  obtain ⟨σ5, hσ5, h⟩ := obi h
  refine v_pP (dq D_X10_init 12 rfl) fp_RX10_17 (fun _ => rfl) hσ5 ?_
  refine v_aload_n (dq D_X10_init 13 rfl) 0 rfl ?_
  refine v_sipush (dq D_X10_init 14 rfl) ks_195 ?_
  obtain ⟨σ6, hσ6, h⟩ := bnd_inv h
  refine v_newa (t := 22) (N := 195) (bc := 4) (bs := 3904) (dq D_X10_init 15 rfl) rfl (Or.inr (Or.inl ⟨rfl, rfl, rfl⟩)) tw_131 (by decide) (by decide) (Nat.le_of_ble_eq_true rfl) ⟨Nat.le_of_ble_eq_true rfl, Nat.le_of_ble_eq_true rfl⟩ hσ6 ?_
  obtain ⟨σ7, hσ7, h⟩ := obi h
  refine v_pP (dq D_X10_init 16 rfl) fp_RX10_21 (fun _ => rfl) hσ7 ?_
  refine v_aload_n (dq D_X10_init 17 rfl) 0 rfl ?_
  refine v_sipush (dq D_X10_init 18 rfl) ks_195 ?_
  obtain ⟨σ8, hσ8, h⟩ := bnd_inv h
  refine v_newa (t := 22) (N := 195) (bc := 3) (bs := 3709) (dq D_X10_init 19 rfl) rfl (Or.inr (Or.inl ⟨rfl, rfl, rfl⟩)) tw_131 (by decide) (by decide) (Nat.le_of_ble_eq_true rfl) ⟨Nat.le_of_ble_eq_true rfl, Nat.le_of_ble_eq_true rfl⟩ hσ8 ?_
  obtain ⟨σ9, hσ9, h⟩ := obi h
  refine v_pP (dq D_X10_init 20 rfl) fp_RX10_24 (fun _ => rfl) hσ9 ?_
  refine v_aload_n (dq D_X10_init 21 rfl) 0 rfl ?_
  refine v_sipush (dq D_X10_init 22 rfl) ks_3120 ?_
  obtain ⟨σ10, hσ10, h⟩ := bnd_inv h
  refine v_newa (t := 22) (N := 3120) (bc := 2) (bs := 589) (dq D_X10_init 23 rfl) rfl (Or.inr (Or.inl ⟨rfl, rfl, rfl⟩)) tw_131 (by decide) (by decide) (Nat.le_of_ble_eq_true rfl) ⟨Nat.le_of_ble_eq_true rfl, Nat.le_of_ble_eq_true rfl⟩ hσ10 ?_
  obtain ⟨σ11, hσ11, h⟩ := obi h
  refine v_pP (dq D_X10_init 24 rfl) fp_RX10_27 (fun _ => rfl) hσ11 ?_
  refine v_aload_n (dq D_X10_init 25 rfl) 0 rfl ?_
  refine v_sipush (dq D_X10_init 26 rfl) ks_585 ?_
  obtain ⟨σ12, hσ12, h⟩ := bnd_inv h
  refine v_newa (t := 22) (N := 585) (bc := 1) (bs := 4) (dq D_X10_init 27 rfl) rfl (Or.inr (Or.inl ⟨rfl, rfl, rfl⟩)) tw_131 (by decide) (by decide) (Nat.le_of_ble_eq_true rfl) ⟨Nat.le_of_ble_eq_true rfl, Nat.le_of_ble_eq_true rfl⟩ hσ12 ?_
  obtain ⟨σ13, hσ13, h⟩ := obi h
  refine v_pP (dq D_X10_init 28 rfl) fp_RX10_30 (fun _ => rfl) hσ13 ?_
  refine v_aload_n (dq D_X10_init 29 rfl) 0 rfl ?_
  refine v_iconst (dq D_X10_init 30 rfl) kc_4 ?_
  obtain ⟨σ14, hσ14, h⟩ := bnd_inv h
  refine v_newa (t := 22) (N := 4) (bc := 0) (bs := 0) (dq D_X10_init 31 rfl) rfl (Or.inr (Or.inl ⟨rfl, rfl, rfl⟩)) tw_131 (by decide) (by decide) (Nat.le_of_ble_eq_true rfl) ⟨Nat.le_of_ble_eq_true rfl, Nat.le_of_ble_eq_true rfl⟩ hσ14 ?_
  obtain ⟨σ15, hσ15, h⟩ := obi h
  refine v_pP (dq D_X10_init 32 rfl) fp_RX10_33 (fun _ => rfl) hσ15 ?_
  obtain rfl := Option.some.inj h
  exact v_vret (dq D_X10_init 33 rfl) rfl ⟨rfl, rfl⟩
theorem m_X10_init {sa : Env3} {a0 : Nat} {σ : St} {r : St} (h : f_X10_init a0 σ = some r) : Ex sa yX10_init cX10_init K_X10_init [.ref a0] σ (pU r) := Ex.of (by decide) rfl (fun _ => rfl) (Nat.le_of_ble_eq_true rfl) (w_X10_init_0 (itg h).2)
theorem w_X10_judge_29 {sa : Env3} {s0 : Int32} {σ : St} {r : Int32 × St} (h : f_X10_judge_29 s0 σ = some r) : VV sa cX10_judge K_X10_judge 29 [] [.int s0] σ (pO r) 0 0 := by
  unfold f_X10_judge_29 at h
  obtain rfl := Option.some.inj h
  exact v_iret (dq D_X10_judge 15 rfl) rfl ⟨rfl, rfl⟩
theorem w_X10_judge_0 {sa : Env3} {a0 : Nat} {σ : St} {r : Int32 × St} (h : f_X10_judge_0 a0 σ = some r) : VV sa cX10_judge K_X10_judge 0 [(0, .ref a0)] [] σ (pO r) 0 0 := by
  unfold f_X10_judge_0 at h
  refine v_aload_n (dq D_X10_judge 0 rfl) 0 rfl ?_
  refine v_iconst (dq D_X10_judge 1 rfl) kc_0 ?_
  obtain ⟨σ1, hσ1, h⟩ := obi h
  refine v_pI (dq D_X10_judge 2 rfl) fp_RX10_36 hσ1 ?_
  refine v_aload_n (dq D_X10_judge 3 rfl) 0 rfl ?_
  obtain ⟨x2, hx2, h⟩ := obi h
  refine v_gQ (dq D_X10_judge 4 rfl) fa_RX10_266 hx2 ?_
  rcases oc_inv h with ⟨rfl, h⟩ | ⟨b3, rfl, h⟩
  · refine v_ifnonnullN (dq D_X10_judge 5 rfl) ?_
    refine v_aload_n (dq D_X10_judge 6 rfl) 0 rfl ?_
    refine v_iconst (dq D_X10_judge 7 rfl) kc_1 ?_
    obtain ⟨q4, hq4, h⟩ := obi h
    refine v_cVi (bc := 0) (bs := 0) (As := [.int 1]) (dq D_X10_judge 8 rfl) cv_X10_refused ml_RX10_42 (itg hq4).1 (m_X10_refused hq4) rfl rfl (Nat.le_of_ble_eq_true rfl) ⟨Nat.le_of_ble_eq_true rfl, Nat.le_of_ble_eq_true rfl⟩ ⟨Nat.le_of_ble_eq_true rfl, Nat.le_of_ble_eq_true rfl⟩ ?_
    refine v_goto (dq D_X10_judge 9 rfl) rfl ?_
    exact v_sub [] rfl (w_X10_judge_29 h)
  · refine v_ifnonnullR (dq D_X10_judge 5 rfl) rfl ?_
    refine v_aload_n (dq D_X10_judge 10 rfl) 0 rfl ?_
    refine v_aload_n (dq D_X10_judge 11 rfl) 0 rfl ?_
    refine v_iconst (dq D_X10_judge 12 rfl) kc_0 ?_
    obtain ⟨q5, hq5, h⟩ := obi h
    refine v_cVi (bc := 0) (bs := 0) (As := [.int 0]) (dq D_X10_judge 13 rfl) cv_X10_wrongGot ml_RX10_433 (itg hq5).1 (m_X10_wrongGot hq5) rfl rfl (Nat.le_of_ble_eq_true rfl) ⟨Nat.le_of_ble_eq_true rfl, Nat.le_of_ble_eq_true rfl⟩ ⟨Nat.le_of_ble_eq_true rfl, Nat.le_of_ble_eq_true rfl⟩ ?_
    obtain ⟨q6, hq6, h⟩ := obi h
    refine v_cVi (bc := 0) (bs := 0) (As := [.int q5.1]) (dq D_X10_judge 14 rfl) cv_X10_good ml_RX10_46 (itg hq6).1 (m_X10_good hq6) rfl rfl (Nat.le_of_ble_eq_true rfl) ⟨Nat.le_of_ble_eq_true rfl, Nat.le_of_ble_eq_true rfl⟩ ⟨Nat.le_of_ble_eq_true rfl, Nat.le_of_ble_eq_true rfl⟩ ?_
    exact v_sub [] rfl (w_X10_judge_29 h)
theorem m_X10_judge {sa : Env3} {a0 : Nat} {σ : St} {r : Int32 × St} (h : f_X10_judge a0 σ = some r) : Ex sa yX10_judge cX10_judge K_X10_judge [.ref a0] σ (pO r) := Ex.of (by decide) rfl (fun q => nomatch q) (Nat.le_of_ble_eq_true rfl) (w_X10_judge_0 (itg h).2)
theorem w_X10_kept_31 {sa : Env3} {s0 : Int32} {σ : St} {r : Int32 × St} (h : f_X10_kept_31 s0 σ = some r) : VV sa cX10_kept K_X10_kept 31 [] [.int s0] σ (pO r) 0 0 := by
  unfold f_X10_kept_31 at h
  obtain rfl := Option.some.inj h
  exact v_iret (dq D_X10_kept 17 rfl) rfl ⟨rfl, rfl⟩
theorem w_X10_kept_0 {sa : Env3} {a0 : Nat} {a1 : Int32} {σ : St} {r : Int32 × St} (h : f_X10_kept_0 a0 a1 σ = some r) : VV sa cX10_kept K_X10_kept 0 [(0, .ref a0), (1, .int a1)] [] σ (pO r) 0 0 := by
  unfold f_X10_kept_0 at h
  refine v_aload_n (dq D_X10_kept 0 rfl) 0 rfl ?_
  refine v_iconst (dq D_X10_kept 1 rfl) kc_0 ?_
  obtain ⟨σ1, hσ1, h⟩ := obi h
  refine v_pI (dq D_X10_kept 2 rfl) fp_RX10_36 hσ1 ?_
  refine v_aload_n (dq D_X10_kept 3 rfl) 0 rfl ?_
  refine v_iload_n (dq D_X10_kept 4 rfl) 1 rfl ?_
  obtain ⟨q2, hq2, h⟩ := obi h
  refine v_cVi (bc := 0) (bs := 0) (As := [.int a1]) (dq D_X10_kept 5 rfl) cv_X10_isRegister ml_RX10_363 (itg hq2).1 (m_X10_isRegister hq2) rfl rfl (Nat.le_of_ble_eq_true rfl) ⟨Nat.le_of_ble_eq_true rfl, Nat.le_of_ble_eq_true rfl⟩ ⟨Nat.le_of_ble_eq_true rfl, Nat.le_of_ble_eq_true rfl⟩ ?_
  refine v_if_eq (dq D_X10_kept 6 rfl) rfl (fun c3 => ?_) (fun c3 => ?_)
  · have h := itp h c3
    refine v_aload_n (dq D_X10_kept 14 rfl) 0 rfl ?_
    refine v_iconst (dq D_X10_kept 15 rfl) kc_1 ?_
    obtain ⟨q4, hq4, h⟩ := obi h
    refine v_cVi (bc := 0) (bs := 0) (As := [.int 1]) (dq D_X10_kept 16 rfl) cv_X10_refused ml_RX10_42 (itg hq4).1 (m_X10_refused hq4) rfl rfl (Nat.le_of_ble_eq_true rfl) ⟨Nat.le_of_ble_eq_true rfl, Nat.le_of_ble_eq_true rfl⟩ ⟨Nat.le_of_ble_eq_true rfl, Nat.le_of_ble_eq_true rfl⟩ ?_
    exact v_sub [] rfl (w_X10_kept_31 h)
  · have h := itn h c3
    refine v_aload_n (dq D_X10_kept 7 rfl) 0 rfl ?_
    refine v_aload_n (dq D_X10_kept 8 rfl) 0 rfl ?_
    obtain ⟨x5, hx5, h⟩ := obi h
    refine v_gR (dq D_X10_kept 9 rfl) fa_RX10_21 hx5 ?_
    refine v_iload_n (dq D_X10_kept 10 rfl) 1 rfl ?_
    obtain ⟨x6, hx6, h⟩ := obi h
    refine v_iald (dq D_X10_kept 11 rfl) hx6 ?_
    obtain ⟨q7, hq7, h⟩ := obi h
    refine v_cVi (bc := 0) (bs := 0) (As := [.int x6]) (dq D_X10_kept 12 rfl) cv_X10_good ml_RX10_46 (itg hq7).1 (m_X10_good hq7) rfl rfl (Nat.le_of_ble_eq_true rfl) ⟨Nat.le_of_ble_eq_true rfl, Nat.le_of_ble_eq_true rfl⟩ ⟨Nat.le_of_ble_eq_true rfl, Nat.le_of_ble_eq_true rfl⟩ ?_
    refine v_goto (dq D_X10_kept 13 rfl) rfl ?_
    exact v_sub [] rfl (w_X10_kept_31 h)
theorem m_X10_kept {sa : Env3} {a0 : Nat} {a1 : Int32} {σ : St} {r : Int32 × St} (h : f_X10_kept a0 a1 σ = some r) : Ex sa yX10_kept cX10_kept K_X10_kept [.ref a0, .int a1] σ (pO r) := Ex.of (by decide) rfl (fun q => nomatch q) (Nat.le_of_ble_eq_true rfl) (w_X10_kept_0 (itg h).2)
theorem w_X10_led_66 {sa : Env3} {a0 : Nat} {σ : St} {r : Int32 × St} (h : f_X10_led_66 a0 σ = some r) : VV sa cX10_led K_X10_led 66 [(0, .ref a0)] [] σ (pO r) 0 0 := by
  unfold f_X10_led_66 at h
  refine v_aload_n (dq D_X10_led 35 rfl) 0 rfl ?_
  refine v_iconst (dq D_X10_led 36 rfl) kc_1 ?_
  obtain ⟨σ1, hσ1, h⟩ := obi h
  refine v_pI (dq D_X10_led 37 rfl) fp_RX10_36 hσ1 ?_
  refine v_iconst (dq D_X10_led 38 rfl) kc_0 ?_
  obtain rfl := Option.some.inj h
  exact v_iret (dq D_X10_led 39 rfl) rfl ⟨rfl, rfl⟩
theorem w_X10_led_60 {sa : Env3} {k20 : Nat → Int32 → Int32 → Int32 → St → Option (Int32 × St)} (hk20 : ∀ {a0 : Nat} {a1 : Int32} {a2 : Int32} {a3 : Int32} {σ : St} {r : Int32 × St}, k20 a0 a1 a2 a3 σ = some r → VV sa cX10_led K_X10_led 20 [(0, .ref a0), (1, .int a1), (2, .int a2), (3, .int a3)] [] σ (pO r) 0 0) {a0 : Nat} {a1 : Int32} {a2 : Int32} {a3 : Int32} {σ : St} {r : Int32 × St} (h : f_X10_led_60 k20 a0 a1 a2 a3 σ = some r) : VV sa cX10_led K_X10_led 60 [(0, .ref a0), (1, .int a1), (2, .int a2), (3, .int a3)] [] σ (pO r) 0 0 := by
  unfold f_X10_led_60 at h
  refine v_iinc (dq D_X10_led 33 rfl) 3 [(3, .int (a3 + 1)), (0, .ref a0), (1, .int a1), (2, .int a2)] rfl kc_1 (Nat.le_of_ble_eq_true rfl) rfl ?_
  refine v_goto (dq D_X10_led 34 rfl) rfl ?_
  exact v_sub [1, 2, 3, 0] rfl (hk20 h)
theorem w_X10_led_20 {sa : Env3} : ∀ (n : Nat) {a0 : Nat} {a1 : Int32} {a2 : Int32} {a3 : Int32} {σ : St} {r : Int32 × St}, f_X10_led_20 n a0 a1 a2 a3 σ = some r → VV sa cX10_led K_X10_led 20 [(0, .ref a0), (1, .int a1), (2, .int a2), (3, .int a3)] [] σ (pO r) 0 0 := by
  intro n
  induction n with
  | zero => intro a0 a1 a2 a3 σ r h; cases h
  | succ n ih =>
    intro a0 a1 a2 a3 σ r h
    rw [e_X10_led_20] at h
    refine v_aload_n (dq D_X10_led 12 rfl) 0 rfl ?_
    obtain ⟨x1, hx1, h⟩ := obi h
    refine v_gQ (dq D_X10_led 13 rfl) fa_RX10_266 hx1 ?_
    rcases oc_inv h with ⟨rfl, h⟩ | ⟨b2, rfl, h⟩
    · refine v_ifnullN (dq D_X10_led 14 rfl) rfl ?_
      exact v_sub [0] rfl (w_X10_led_66 h)
    · refine v_ifnullR (dq D_X10_led 14 rfl) ?_
      refine v_iload_n (dq D_X10_led 15 rfl) 3 rfl ?_
      refine v_aload_n (dq D_X10_led 16 rfl) 0 rfl ?_
      obtain ⟨x3, hx3, h⟩ := obi h
      refine v_gR (dq D_X10_led 17 rfl) fa_RX10_24 hx3 ?_
      refine v_bipush (dq D_X10_led 18 rfl) kb_34 ?_
      obtain ⟨x4, hx4, h⟩ := obi h
      refine v_iald (dq D_X10_led 19 rfl) hx4 ?_
      refine v_icmp_ge (dq D_X10_led 20 rfl) rfl (fun c5 => ?_) (fun c5 => ?_)
      · have h := itp h c5
        exact v_sub [0] rfl (w_X10_led_66 h)
      · have h := itn h c5
        refine v_aload_n (dq D_X10_led 21 rfl) 0 rfl ?_
        refine v_iload_n (dq D_X10_led 22 rfl) 3 rfl ?_
        refine v_iconst (dq D_X10_led 23 rfl) kc_1 ?_
        obtain ⟨q6, hq6, h⟩ := obi h
        refine v_cVi (bc := 0) (bs := 0) (As := [.int a3, .int 1]) (dq D_X10_led 24 rfl) cv_X10_has ml_RX10_322 (itg hq6).1 (m_X10_has hq6) rfl rfl (Nat.le_of_ble_eq_true rfl) ⟨Nat.le_of_ble_eq_true rfl, Nat.le_of_ble_eq_true rfl⟩ ⟨Nat.le_of_ble_eq_true rfl, Nat.le_of_ble_eq_true rfl⟩ ?_
        refine v_if_ne (dq D_X10_led 25 rfl) rfl (fun c7 => ?_) (fun c7 => ?_)
        · have h := itn h c7
          refine v_iload_n (dq D_X10_led 27 rfl) 2 rfl ?_
          refine v_iload_n (dq D_X10_led 28 rfl) 1 rfl ?_
          refine v_icmp_ne (dq D_X10_led 29 rfl) rfl (fun c8 => ?_) (fun c8 => ?_)
          · have h := itn h c8
            refine v_iinc (dq D_X10_led 32 rfl) 2 [(2, .int (a2 + 1)), (0, .ref a0), (1, .int a1), (3, .int a3)] rfl kc_1 (Nat.le_of_ble_eq_true rfl) rfl ?_
            exact v_sub [1, 2, 0, 3] rfl (w_X10_led_60 ih h)
          · have h := itp h c8
            refine v_iload_n (dq D_X10_led 30 rfl) 3 rfl ?_
            obtain rfl := Option.some.inj h
            exact v_iret (dq D_X10_led 31 rfl) rfl ⟨rfl, rfl⟩
        · have h := itp h c7
          refine v_goto (dq D_X10_led 26 rfl) rfl ?_
          exact w_X10_led_60 ih h
theorem w_X10_led_18 {sa : Env3} {a0 : Nat} {a1 : Int32} {a2 : Int32} {σ : St} {r : Int32 × St} (h : f_X10_led_18 a0 a1 a2 σ = some r) : VV sa cX10_led K_X10_led 18 [(0, .ref a0), (1, .int a1), (2, .int a2)] [] σ (pO r) 0 0 := by
  unfold f_X10_led_18 at h
  refine v_iconst (dq D_X10_led 10 rfl) kc_0 ?_
  refine v_istore_n (dq D_X10_led 11 rfl) [(3, .int 0), (0, .ref a0), (1, .int a1), (2, .int a2)] rfl (Nat.le_of_ble_eq_true rfl) rfl ?_
  exact v_sub [1, 2, 3, 0] rfl (w_X10_led_20 _ h)
theorem w_X10_led_0 {sa : Env3} {a0 : Nat} {a1 : Int32} {σ : St} {r : Int32 × St} (h : f_X10_led_0 a0 a1 σ = some r) : VV sa cX10_led K_X10_led 0 [(0, .ref a0), (1, .int a1)] [] σ (pO r) 0 0 := by
  unfold f_X10_led_0 at h
  refine v_aload_n (dq D_X10_led 0 rfl) 0 rfl ?_
  refine v_iconst (dq D_X10_led 1 rfl) kc_0 ?_
  obtain ⟨σ1, hσ1, h⟩ := obi h
  refine v_pI (dq D_X10_led 2 rfl) fp_RX10_36 hσ1 ?_
  refine v_iconst (dq D_X10_led 3 rfl) kc_0 ?_
  refine v_istore_n (dq D_X10_led 4 rfl) [(2, .int 0), (0, .ref a0), (1, .int a1)] rfl (Nat.le_of_ble_eq_true rfl) rfl ?_
  refine v_aload_n (dq D_X10_led 5 rfl) 1 rfl ?_
  obtain ⟨x2, hx2, h⟩ := obi h
  refine v_gQ (dq D_X10_led 6 rfl) fa_RX10_266 hx2 ?_
  rcases oc_inv h with ⟨rfl, h⟩ | ⟨b3, rfl, h⟩
  · refine v_ifnullN (dq D_X10_led 7 rfl) rfl ?_
    exact v_sub [1, 2, 0] rfl (w_X10_led_18 h)
  · refine v_ifnullR (dq D_X10_led 7 rfl) ?_
    refine v_aload_n (dq D_X10_led 8 rfl) 1 rfl ?_
    obtain ⟨σ4, hσ4, h⟩ := obi h
    refine v_cVv (bc := 0) (bs := 0) (As := []) (dq D_X10_led 9 rfl) cv_X10_works ml_RX10_366 (itg hσ4).1 (m_X10_works hσ4) rfl rfl (Nat.le_of_ble_eq_true rfl) ⟨Nat.le_of_ble_eq_true rfl, Nat.le_of_ble_eq_true rfl⟩ ⟨Nat.le_of_ble_eq_true rfl, Nat.le_of_ble_eq_true rfl⟩ ?_
    exact v_sub [1, 2, 0] rfl (w_X10_led_18 h)
theorem m_X10_led {sa : Env3} {a0 : Nat} {a1 : Int32} {σ : St} {r : Int32 × St} (h : f_X10_led a0 a1 σ = some r) : Ex sa yX10_led cX10_led K_X10_led [.ref a0, .int a1] σ (pO r) := Ex.of (by decide) rfl (fun q => nomatch q) (Nat.le_of_ble_eq_true rfl) (w_X10_led_0 (itg h).2)
theorem w_X10_letGo_0 {sa : Env3} {a0 : Nat} {σ : St} {r : Int32 × St} (h : f_X10_letGo_0 a0 σ = some r) : VV sa cX10_letGo K_X10_letGo 0 [(0, .ref a0)] [] σ (pO r) 0 0 := by
  unfold f_X10_letGo_0 at h
  refine v_aload_n (dq D_X10_letGo 0 rfl) 0 rfl ?_
  refine v_iconst (dq D_X10_letGo 1 rfl) kc_0 ?_
  obtain ⟨σ1, hσ1, h⟩ := obi h
  refine v_pI (dq D_X10_letGo 2 rfl) fp_RX10_36 hσ1 ?_
  refine v_aload_n (dq D_X10_letGo 3 rfl) 0 rfl ?_
  obtain ⟨x2, hx2, h⟩ := obi h
  refine v_gQ (dq D_X10_letGo 4 rfl) fa_RX10_266 hx2 ?_
  rcases oc_inv h with ⟨rfl, h⟩ | ⟨b3, rfl, h⟩
  · refine v_ifnonnullN (dq D_X10_letGo 5 rfl) ?_
    refine v_aload_n (dq D_X10_letGo 6 rfl) 0 rfl ?_
    refine v_iconst (dq D_X10_letGo 7 rfl) kc_1 ?_
    obtain ⟨q4, hq4, h⟩ := obi h
    refine v_cVi (bc := 0) (bs := 0) (As := [.int 1]) (dq D_X10_letGo 8 rfl) cv_X10_refused ml_RX10_42 (itg hq4).1 (m_X10_refused hq4) rfl rfl (Nat.le_of_ble_eq_true rfl) ⟨Nat.le_of_ble_eq_true rfl, Nat.le_of_ble_eq_true rfl⟩ ⟨Nat.le_of_ble_eq_true rfl, Nat.le_of_ble_eq_true rfl⟩ ?_
    obtain rfl := Option.some.inj h
    exact v_iret (dq D_X10_letGo 9 rfl) rfl ⟨rfl, rfl⟩
  · refine v_ifnonnullR (dq D_X10_letGo 5 rfl) rfl ?_
    refine v_aload_n (dq D_X10_letGo 10 rfl) 0 rfl ?_
    obtain ⟨σ5, hσ5, h⟩ := obi h
    refine v_cVv (bc := 0) (bs := 0) (As := []) (dq D_X10_letGo 11 rfl) cv_X10_works ml_RX10_366 (itg hσ5).1 (m_X10_works hσ5) rfl rfl (Nat.le_of_ble_eq_true rfl) ⟨Nat.le_of_ble_eq_true rfl, Nat.le_of_ble_eq_true rfl⟩ ⟨Nat.le_of_ble_eq_true rfl, Nat.le_of_ble_eq_true rfl⟩ ?_
    refine v_aload_n (dq D_X10_letGo 12 rfl) 0 rfl ?_
    refine v_aload_n (dq D_X10_letGo 13 rfl) 0 rfl ?_
    obtain ⟨q6, hq6, h⟩ := obi h
    refine v_cVi (bc := 0) (bs := 0) (As := []) (dq D_X10_letGo 14 rfl) cv_X10_letGoNow ml_RX10_336 (itg hq6).1 (m_X10_letGoNow hq6) rfl rfl (Nat.le_of_ble_eq_true rfl) ⟨Nat.le_of_ble_eq_true rfl, Nat.le_of_ble_eq_true rfl⟩ ⟨Nat.le_of_ble_eq_true rfl, Nat.le_of_ble_eq_true rfl⟩ ?_
    obtain ⟨q7, hq7, h⟩ := obi h
    refine v_cVi (bc := 0) (bs := 0) (As := [.int q6.1]) (dq D_X10_letGo 15 rfl) cv_X10_good ml_RX10_46 (itg hq7).1 (m_X10_good hq7) rfl rfl (Nat.le_of_ble_eq_true rfl) ⟨Nat.le_of_ble_eq_true rfl, Nat.le_of_ble_eq_true rfl⟩ ⟨Nat.le_of_ble_eq_true rfl, Nat.le_of_ble_eq_true rfl⟩ ?_
    obtain rfl := Option.some.inj h
    exact v_iret (dq D_X10_letGo 16 rfl) rfl ⟨rfl, rfl⟩
theorem m_X10_letGo {sa : Env3} {a0 : Nat} {σ : St} {r : Int32 × St} (h : f_X10_letGo a0 σ = some r) : Ex sa yX10_letGo cX10_letGo K_X10_letGo [.ref a0] σ (pO r) := Ex.of (by decide) rfl (fun q => nomatch q) (Nat.le_of_ble_eq_true rfl) (w_X10_letGo_0 (itg h).2)
theorem w_X10_mapped_0 {sa : Env3} {a0 : Nat} {a1 : Int32} {σ : St} {r : Int32 × St} (h : f_X10_mapped_0 a0 a1 σ = some r) : VV sa cX10_mapped K_X10_mapped 0 [(0, .ref a0), (1, .int a1)] [] σ (pO r) 0 0 := by
  unfold f_X10_mapped_0 at h
  refine v_aload_n (dq D_X10_mapped 0 rfl) 0 rfl ?_
  refine v_iconst (dq D_X10_mapped 1 rfl) kc_0 ?_
  obtain ⟨σ1, hσ1, h⟩ := obi h
  refine v_pI (dq D_X10_mapped 2 rfl) fp_RX10_36 hσ1 ?_
  refine v_aload_n (dq D_X10_mapped 3 rfl) 0 rfl ?_
  refine v_iload_n (dq D_X10_mapped 4 rfl) 1 rfl ?_
  obtain ⟨q2, hq2, h⟩ := obi h
  refine v_cVi (bc := 0) (bs := 0) (As := [.int a1]) (dq D_X10_mapped 5 rfl) cv_X10_isRegister ml_RX10_363 (itg hq2).1 (m_X10_isRegister hq2) rfl rfl (Nat.le_of_ble_eq_true rfl) ⟨Nat.le_of_ble_eq_true rfl, Nat.le_of_ble_eq_true rfl⟩ ⟨Nat.le_of_ble_eq_true rfl, Nat.le_of_ble_eq_true rfl⟩ ?_
  refine v_if_ne (dq D_X10_mapped 6 rfl) rfl (fun c3 => ?_) (fun c3 => ?_)
  · have h := itn h c3
    refine v_aload_n (dq D_X10_mapped 11 rfl) 0 rfl ?_
    obtain ⟨σ4, hσ4, h⟩ := obi h
    refine v_cVv (bc := 0) (bs := 0) (As := []) (dq D_X10_mapped 12 rfl) cv_X10_works ml_RX10_366 (itg hσ4).1 (m_X10_works hσ4) rfl rfl (Nat.le_of_ble_eq_true rfl) ⟨Nat.le_of_ble_eq_true rfl, Nat.le_of_ble_eq_true rfl⟩ ⟨Nat.le_of_ble_eq_true rfl, Nat.le_of_ble_eq_true rfl⟩ ?_
    refine v_aload_n (dq D_X10_mapped 13 rfl) 0 rfl ?_
    refine v_aload_n (dq D_X10_mapped 14 rfl) 0 rfl ?_
    refine v_iload_n (dq D_X10_mapped 15 rfl) 1 rfl ?_
    refine v_aload_n (dq D_X10_mapped 16 rfl) 0 rfl ?_
    obtain ⟨x5, hx5, h⟩ := obi h
    refine v_gR (dq D_X10_mapped 17 rfl) fa_RX10_24 hx5 ?_
    refine v_bipush (dq D_X10_mapped 18 rfl) kb_34 ?_
    obtain ⟨x6, hx6, h⟩ := obi h
    refine v_iald (dq D_X10_mapped 19 rfl) hx6 ?_
    refine v_iconst (dq D_X10_mapped 20 rfl) kc_1 ?_
    refine v_isub (dq D_X10_mapped 21 rfl) ?_
    obtain ⟨q7, hq7, h⟩ := obi h
    refine v_cVi (bc := 0) (bs := 0) (As := [.int a1, .int (x6 - 1)]) (dq D_X10_mapped 22 rfl) cv_X10_mapOf ml_RX10_345 (itg hq7).1 (m_X10_mapOf hq7) rfl rfl (Nat.le_of_ble_eq_true rfl) ⟨Nat.le_of_ble_eq_true rfl, Nat.le_of_ble_eq_true rfl⟩ ⟨Nat.le_of_ble_eq_true rfl, Nat.le_of_ble_eq_true rfl⟩ ?_
    obtain ⟨q8, hq8, h⟩ := obi h
    refine v_cVi (bc := 0) (bs := 0) (As := [.int q7.1]) (dq D_X10_mapped 23 rfl) cv_X10_good ml_RX10_46 (itg hq8).1 (m_X10_good hq8) rfl rfl (Nat.le_of_ble_eq_true rfl) ⟨Nat.le_of_ble_eq_true rfl, Nat.le_of_ble_eq_true rfl⟩ ⟨Nat.le_of_ble_eq_true rfl, Nat.le_of_ble_eq_true rfl⟩ ?_
    obtain rfl := Option.some.inj h
    exact v_iret (dq D_X10_mapped 24 rfl) rfl ⟨rfl, rfl⟩
  · have h := itp h c3
    refine v_aload_n (dq D_X10_mapped 7 rfl) 0 rfl ?_
    refine v_iconst (dq D_X10_mapped 8 rfl) kc_1 ?_
    obtain ⟨q9, hq9, h⟩ := obi h
    refine v_cVi (bc := 0) (bs := 0) (As := [.int 1]) (dq D_X10_mapped 9 rfl) cv_X10_refused ml_RX10_42 (itg hq9).1 (m_X10_refused hq9) rfl rfl (Nat.le_of_ble_eq_true rfl) ⟨Nat.le_of_ble_eq_true rfl, Nat.le_of_ble_eq_true rfl⟩ ⟨Nat.le_of_ble_eq_true rfl, Nat.le_of_ble_eq_true rfl⟩ ?_
    obtain rfl := Option.some.inj h
    exact v_iret (dq D_X10_mapped 10 rfl) rfl ⟨rfl, rfl⟩
theorem m_X10_mapped {sa : Env3} {a0 : Nat} {a1 : Int32} {σ : St} {r : Int32 × St} (h : f_X10_mapped a0 a1 σ = some r) : Ex sa yX10_mapped cX10_mapped K_X10_mapped [.ref a0, .int a1] σ (pO r) := Ex.of (by decide) rfl (fun q => nomatch q) (Nat.le_of_ble_eq_true rfl) (w_X10_mapped_0 (itg h).2)
theorem w_X10_misses_0 {sa : Env3} {a0 : Nat} {a1 : Int32} {σ : St} {r : Int32 × St} (h : f_X10_misses_0 a0 a1 σ = some r) : VV sa cX10_misses K_X10_misses 0 [(0, .ref a0), (1, .int a1)] [] σ (pO r) 0 0 := by
  unfold f_X10_misses_0 at h
  refine v_aload_n (dq D_X10_misses 0 rfl) 0 rfl ?_
  refine v_iconst (dq D_X10_misses 1 rfl) kc_0 ?_
  obtain ⟨σ1, hσ1, h⟩ := obi h
  refine v_pI (dq D_X10_misses 2 rfl) fp_RX10_36 hσ1 ?_
  refine v_aload_n (dq D_X10_misses 3 rfl) 0 rfl ?_
  refine v_iload_n (dq D_X10_misses 4 rfl) 1 rfl ?_
  obtain ⟨q2, hq2, h⟩ := obi h
  refine v_cVi (bc := 0) (bs := 0) (As := [.int a1]) (dq D_X10_misses 5 rfl) cv_X10_refusesCells ml_RX10_414 (itg hq2).1 (m_X10_refusesCells hq2) rfl rfl (Nat.le_of_ble_eq_true rfl) ⟨Nat.le_of_ble_eq_true rfl, Nat.le_of_ble_eq_true rfl⟩ ⟨Nat.le_of_ble_eq_true rfl, Nat.le_of_ble_eq_true rfl⟩ ?_
  refine v_istore_n (dq D_X10_misses 6 rfl) [(2, .int q2.1), (0, .ref a0), (1, .int a1)] rfl (Nat.le_of_ble_eq_true rfl) rfl ?_
  refine v_iload_n (dq D_X10_misses 7 rfl) 0 rfl ?_
  refine v_if_le (dq D_X10_misses 8 rfl) rfl (fun c3 => ?_) (fun c3 => ?_)
  · have h := itp h c3
    refine v_aload_n (dq D_X10_misses 13 rfl) 1 rfl ?_
    refine v_iload_n (dq D_X10_misses 14 rfl) 2 rfl ?_
    obtain ⟨σ4, hσ4, h⟩ := obi h
    refine v_cVv (bc := 0) (bs := 0) (As := [.int a1]) (dq D_X10_misses 15 rfl) cv_X10_goes ml_RX10_417 (itg hσ4).1 (m_X10_goes hσ4) rfl rfl (Nat.le_of_ble_eq_true rfl) ⟨Nat.le_of_ble_eq_true rfl, Nat.le_of_ble_eq_true rfl⟩ ⟨Nat.le_of_ble_eq_true rfl, Nat.le_of_ble_eq_true rfl⟩ ?_
    refine v_aload_n (dq D_X10_misses 16 rfl) 1 rfl ?_
    refine v_aload_n (dq D_X10_misses 17 rfl) 1 rfl ?_
    obtain ⟨x5, hx5, h⟩ := obi h
    refine v_gI (dq D_X10_misses 18 rfl) fa_RX10_399 hx5 ?_
    obtain ⟨q6, hq6, h⟩ := obi h
    refine v_cVi (bc := 0) (bs := 0) (As := [.int x5]) (dq D_X10_misses 19 rfl) cv_X10_good ml_RX10_46 (itg hq6).1 (m_X10_good hq6) rfl rfl (Nat.le_of_ble_eq_true rfl) ⟨Nat.le_of_ble_eq_true rfl, Nat.le_of_ble_eq_true rfl⟩ ⟨Nat.le_of_ble_eq_true rfl, Nat.le_of_ble_eq_true rfl⟩ ?_
    obtain rfl := Option.some.inj h
    exact v_iret (dq D_X10_misses 20 rfl) rfl ⟨rfl, rfl⟩
  · have h := itn h c3
    refine v_aload_n (dq D_X10_misses 9 rfl) 1 rfl ?_
    refine v_iload_n (dq D_X10_misses 10 rfl) 0 rfl ?_
    obtain ⟨q7, hq7, h⟩ := obi h
    refine v_cVi (bc := 0) (bs := 0) (As := [.int q2.1]) (dq D_X10_misses 11 rfl) cv_X10_refused ml_RX10_42 (itg hq7).1 (m_X10_refused hq7) rfl rfl (Nat.le_of_ble_eq_true rfl) ⟨Nat.le_of_ble_eq_true rfl, Nat.le_of_ble_eq_true rfl⟩ ⟨Nat.le_of_ble_eq_true rfl, Nat.le_of_ble_eq_true rfl⟩ ?_
    obtain rfl := Option.some.inj h
    exact v_iret (dq D_X10_misses 12 rfl) rfl ⟨rfl, rfl⟩
theorem m_X10_misses {sa : Env3} {a0 : Nat} {a1 : Int32} {σ : St} {r : Int32 × St} (h : f_X10_misses a0 a1 σ = some r) : Ex sa yX10_misses cX10_misses K_X10_misses [.ref a0, .int a1] σ (pO r) := Ex.of (by decide) rfl (fun q => nomatch q) (Nat.le_of_ble_eq_true rfl) (w_X10_misses_0 (itg h).2)
theorem w_X10_nextStep_31 {sa : Env3} {s0 : Int32} {σ : St} {r : Int32 × St} (h : f_X10_nextStep_31 s0 σ = some r) : VV sa cX10_nextStep K_X10_nextStep 31 [] [.int s0] σ (pO r) 0 0 := by
  unfold f_X10_nextStep_31 at h
  obtain rfl := Option.some.inj h
  exact v_iret (dq D_X10_nextStep 16 rfl) rfl ⟨rfl, rfl⟩
theorem w_X10_nextStep_0 {sa : Env3} {a0 : Nat} {σ : St} {r : Int32 × St} (h : f_X10_nextStep_0 a0 σ = some r) : VV sa cX10_nextStep K_X10_nextStep 0 [(0, .ref a0)] [] σ (pO r) 0 0 := by
  unfold f_X10_nextStep_0 at h
  refine v_aload_n (dq D_X10_nextStep 0 rfl) 0 rfl ?_
  refine v_iconst (dq D_X10_nextStep 1 rfl) kc_0 ?_
  obtain ⟨σ1, hσ1, h⟩ := obi h
  refine v_pI (dq D_X10_nextStep 2 rfl) fp_RX10_36 hσ1 ?_
  refine v_aload_n (dq D_X10_nextStep 3 rfl) 0 rfl ?_
  obtain ⟨x2, hx2, h⟩ := obi h
  refine v_gQ (dq D_X10_nextStep 4 rfl) fa_RX10_266 hx2 ?_
  rcases oc_inv h with ⟨rfl, h⟩ | ⟨b3, rfl, h⟩
  · refine v_ifnonnullN (dq D_X10_nextStep 5 rfl) ?_
    refine v_aload_n (dq D_X10_nextStep 6 rfl) 0 rfl ?_
    refine v_iconst (dq D_X10_nextStep 7 rfl) kc_1 ?_
    obtain ⟨q4, hq4, h⟩ := obi h
    refine v_cVi (bc := 0) (bs := 0) (As := [.int 1]) (dq D_X10_nextStep 8 rfl) cv_X10_refused ml_RX10_42 (itg hq4).1 (m_X10_refused hq4) rfl rfl (Nat.le_of_ble_eq_true rfl) ⟨Nat.le_of_ble_eq_true rfl, Nat.le_of_ble_eq_true rfl⟩ ⟨Nat.le_of_ble_eq_true rfl, Nat.le_of_ble_eq_true rfl⟩ ?_
    refine v_goto (dq D_X10_nextStep 9 rfl) rfl ?_
    exact v_sub [] rfl (w_X10_nextStep_31 h)
  · refine v_ifnonnullR (dq D_X10_nextStep 5 rfl) rfl ?_
    refine v_aload_n (dq D_X10_nextStep 10 rfl) 0 rfl ?_
    refine v_aload_n (dq D_X10_nextStep 11 rfl) 0 rfl ?_
    obtain ⟨x5, hx5, h⟩ := obi h
    refine v_gR (dq D_X10_nextStep 12 rfl) fa_RX10_21 hx5 ?_
    refine v_bipush (dq D_X10_nextStep 13 rfl) kb_35 ?_
    obtain ⟨x6, hx6, h⟩ := obi h
    refine v_iald (dq D_X10_nextStep 14 rfl) hx6 ?_
    obtain ⟨q7, hq7, h⟩ := obi h
    refine v_cVi (bc := 0) (bs := 0) (As := [.int x6]) (dq D_X10_nextStep 15 rfl) cv_X10_good ml_RX10_46 (itg hq7).1 (m_X10_good hq7) rfl rfl (Nat.le_of_ble_eq_true rfl) ⟨Nat.le_of_ble_eq_true rfl, Nat.le_of_ble_eq_true rfl⟩ ⟨Nat.le_of_ble_eq_true rfl, Nat.le_of_ble_eq_true rfl⟩ ?_
    exact v_sub [] rfl (w_X10_nextStep_31 h)
theorem m_X10_nextStep {sa : Env3} {a0 : Nat} {σ : St} {r : Int32 × St} (h : f_X10_nextStep a0 σ = some r) : Ex sa yX10_nextStep cX10_nextStep K_X10_nextStep [.ref a0] σ (pO r) := Ex.of (by decide) rfl (fun q => nomatch q) (Nat.le_of_ble_eq_true rfl) (w_X10_nextStep_0 (itg h).2)
theorem w_X10_plainAt_22 {sa : Env3} {a0 : Nat} {σ : St} {r : Int32 × St} (h : f_X10_plainAt_22 a0 σ = some r) : VV sa cX10_plainAt K_X10_plainAt 22 [(0, .ref a0)] [] σ (pO r) 0 0 := by
  unfold f_X10_plainAt_22 at h
  refine v_aload_n (dq D_X10_plainAt 11 rfl) 0 rfl ?_
  refine v_iconst (dq D_X10_plainAt 12 rfl) kc_1 ?_
  obtain ⟨q1, hq1, h⟩ := obi h
  refine v_cVi (bc := 0) (bs := 0) (As := [.int 1]) (dq D_X10_plainAt 13 rfl) cv_X10_refused ml_RX10_42 (itg hq1).1 (m_X10_refused hq1) rfl rfl (Nat.le_of_ble_eq_true rfl) ⟨Nat.le_of_ble_eq_true rfl, Nat.le_of_ble_eq_true rfl⟩ ⟨Nat.le_of_ble_eq_true rfl, Nat.le_of_ble_eq_true rfl⟩ ?_
  obtain rfl := Option.some.inj h
  exact v_iret (dq D_X10_plainAt 14 rfl) rfl ⟨rfl, rfl⟩
theorem w_X10_plainAt_54 {sa : Env3} {s0 : Int32} {σ : St} {r : Int32 × St} (h : f_X10_plainAt_54 s0 σ = some r) : VV sa cX10_plainAt K_X10_plainAt 54 [] [.int s0] σ (pO r) 0 0 := by
  unfold f_X10_plainAt_54 at h
  obtain rfl := Option.some.inj h
  exact v_iret (dq D_X10_plainAt 29 rfl) rfl ⟨rfl, rfl⟩
theorem w_X10_plainAt_0 {sa : Env3} {a0 : Nat} {a1 : Int32} {a2 : Int32} {σ : St} {r : Int32 × St} (h : f_X10_plainAt_0 a0 a1 a2 σ = some r) : VV sa cX10_plainAt K_X10_plainAt 0 [(0, .ref a0), (1, .int a1), (2, .int a2)] [] σ (pO r) 0 0 := by
  unfold f_X10_plainAt_0 at h
  refine v_aload_n (dq D_X10_plainAt 0 rfl) 0 rfl ?_
  refine v_iconst (dq D_X10_plainAt 1 rfl) kc_0 ?_
  obtain ⟨σ1, hσ1, h⟩ := obi h
  refine v_pI (dq D_X10_plainAt 2 rfl) fp_RX10_36 hσ1 ?_
  refine v_aload_n (dq D_X10_plainAt 3 rfl) 0 rfl ?_
  obtain ⟨x2, hx2, h⟩ := obi h
  refine v_gQ (dq D_X10_plainAt 4 rfl) fa_RX10_266 hx2 ?_
  rcases oc_inv h with ⟨rfl, h⟩ | ⟨b3, rfl, h⟩
  · refine v_ifnullN (dq D_X10_plainAt 5 rfl) rfl ?_
    exact v_sub [0] rfl (w_X10_plainAt_22 h)
  · refine v_ifnullR (dq D_X10_plainAt 5 rfl) ?_
    refine v_iload_n (dq D_X10_plainAt 6 rfl) 1 rfl ?_
    refine v_iconst (dq D_X10_plainAt 7 rfl) kc_0 ?_
    refine v_bipush (dq D_X10_plainAt 8 rfl) kb_7 ?_
    obtain ⟨q4, hq4, h⟩ := obi h
    refine v_cSi (bc := 0) (bs := 0) (As := [.int a1, .int 0, .int 7]) (dq D_X10_plainAt 9 rfl) cs_X10_in ml_RX10_115 (m_X10_in hq4) rfl rfl (Nat.le_of_ble_eq_true rfl) ⟨Nat.le_of_ble_eq_true rfl, Nat.le_of_ble_eq_true rfl⟩ ⟨Nat.le_of_ble_eq_true rfl, Nat.le_of_ble_eq_true rfl⟩ ?_
    refine v_if_ne (dq D_X10_plainAt 10 rfl) rfl (fun c5 => ?_) (fun c5 => ?_)
    · have h := itn h c5
      refine v_aload_n (dq D_X10_plainAt 15 rfl) 0 rfl ?_
      refine v_iload_n (dq D_X10_plainAt 16 rfl) 2 rfl ?_
      obtain ⟨q6, hq6, h⟩ := obi h
      refine v_cVi (bc := 0) (bs := 0) (As := [.int a2]) (dq D_X10_plainAt 17 rfl) cv_X10_plainlyDone ml_RX10_312 (itg hq6).1 (m_X10_plainlyDone hq6) rfl rfl (Nat.le_of_ble_eq_true rfl) ⟨Nat.le_of_ble_eq_true rfl, Nat.le_of_ble_eq_true rfl⟩ ⟨Nat.le_of_ble_eq_true rfl, Nat.le_of_ble_eq_true rfl⟩ ?_
      refine v_if_eq (dq D_X10_plainAt 18 rfl) rfl (fun c7 => ?_) (fun c7 => ?_)
      · have h := itp h c7
        refine v_aload_n (dq D_X10_plainAt 26 rfl) 0 rfl ?_
        refine v_iconst (dq D_X10_plainAt 27 rfl) kc_2 ?_
        obtain ⟨q8, hq8, h⟩ := obi h
        refine v_cVi (bc := 0) (bs := 0) (As := [.int 2]) (dq D_X10_plainAt 28 rfl) cv_X10_refused ml_RX10_42 (itg hq8).1 (m_X10_refused hq8) rfl rfl (Nat.le_of_ble_eq_true rfl) ⟨Nat.le_of_ble_eq_true rfl, Nat.le_of_ble_eq_true rfl⟩ ⟨Nat.le_of_ble_eq_true rfl, Nat.le_of_ble_eq_true rfl⟩ ?_
        exact v_sub [] rfl (w_X10_plainAt_54 h)
      · have h := itn h c7
        refine v_aload_n (dq D_X10_plainAt 19 rfl) 0 rfl ?_
        refine v_aload_n (dq D_X10_plainAt 20 rfl) 0 rfl ?_
        obtain ⟨x9, hx9, h⟩ := obi h
        refine v_gR (dq D_X10_plainAt 21 rfl) fa_RX10_17 hx9 ?_
        refine v_iload_n (dq D_X10_plainAt 22 rfl) 1 rfl ?_
        obtain ⟨x10, hx10, h⟩ := obi h
        refine v_iald (dq D_X10_plainAt 23 rfl) hx10 ?_
        obtain ⟨q11, hq11, h⟩ := obi h
        refine v_cVi (bc := 0) (bs := 0) (As := [.int x10]) (dq D_X10_plainAt 24 rfl) cv_X10_good ml_RX10_46 (itg hq11).1 (m_X10_good hq11) rfl rfl (Nat.le_of_ble_eq_true rfl) ⟨Nat.le_of_ble_eq_true rfl, Nat.le_of_ble_eq_true rfl⟩ ⟨Nat.le_of_ble_eq_true rfl, Nat.le_of_ble_eq_true rfl⟩ ?_
        refine v_goto (dq D_X10_plainAt 25 rfl) rfl ?_
        exact v_sub [] rfl (w_X10_plainAt_54 h)
    · have h := itp h c5
      exact v_sub [0] rfl (w_X10_plainAt_22 h)
theorem m_X10_plainAt {sa : Env3} {a0 : Nat} {a1 : Int32} {a2 : Int32} {σ : St} {r : Int32 × St} (h : f_X10_plainAt a0 a1 a2 σ = some r) : Ex sa yX10_plainAt cX10_plainAt K_X10_plainAt [.ref a0, .int a1, .int a2] σ (pO r) := Ex.of (by decide) rfl (fun q => nomatch q) (Nat.le_of_ble_eq_true rfl) (w_X10_plainAt_0 (itg h).2)
theorem w_X10_plainEnd_0 {sa : Env3} {a0 : Nat} {σ : St} {r : Int32 × St} (h : f_X10_plainEnd_0 a0 σ = some r) : VV sa cX10_plainEnd K_X10_plainEnd 0 [(0, .ref a0)] [] σ (pO r) 0 0 := by
  unfold f_X10_plainEnd_0 at h
  refine v_aload_n (dq D_X10_plainEnd 0 rfl) 0 rfl ?_
  refine v_iconst (dq D_X10_plainEnd 1 rfl) kc_0 ?_
  obtain ⟨σ1, hσ1, h⟩ := obi h
  refine v_pI (dq D_X10_plainEnd 2 rfl) fp_RX10_36 hσ1 ?_
  refine v_aload_n (dq D_X10_plainEnd 3 rfl) 0 rfl ?_
  obtain ⟨x2, hx2, h⟩ := obi h
  refine v_gQ (dq D_X10_plainEnd 4 rfl) fa_RX10_266 hx2 ?_
  rcases oc_inv h with ⟨rfl, h⟩ | ⟨b3, rfl, h⟩
  · refine v_ifnonnullN (dq D_X10_plainEnd 5 rfl) ?_
    refine v_aload_n (dq D_X10_plainEnd 6 rfl) 0 rfl ?_
    refine v_iconst (dq D_X10_plainEnd 7 rfl) kc_1 ?_
    obtain ⟨q4, hq4, h⟩ := obi h
    refine v_cVi (bc := 0) (bs := 0) (As := [.int 1]) (dq D_X10_plainEnd 8 rfl) cv_X10_refused ml_RX10_42 (itg hq4).1 (m_X10_refused hq4) rfl rfl (Nat.le_of_ble_eq_true rfl) ⟨Nat.le_of_ble_eq_true rfl, Nat.le_of_ble_eq_true rfl⟩ ⟨Nat.le_of_ble_eq_true rfl, Nat.le_of_ble_eq_true rfl⟩ ?_
    obtain rfl := Option.some.inj h
    exact v_iret (dq D_X10_plainEnd 9 rfl) rfl ⟨rfl, rfl⟩
  · refine v_ifnonnullR (dq D_X10_plainEnd 5 rfl) rfl ?_
    refine v_aload_n (dq D_X10_plainEnd 10 rfl) 0 rfl ?_
    refine v_iconst (dq D_X10_plainEnd 11 rfl) kc_0 ?_
    refine v_sipush (dq D_X10_plainEnd 12 rfl) ks_200 ?_
    obtain ⟨σ5, hσ5, h⟩ := obi h
    refine v_cVv (bc := 0) (bs := 0) (As := [.int 0, .int 200]) (dq D_X10_plainEnd 13 rfl) cv_X10_plainly ml_RX10_309 (itg hσ5).1 (m_X10_plainly hσ5) rfl rfl (Nat.le_of_ble_eq_true rfl) ⟨Nat.le_of_ble_eq_true rfl, Nat.le_of_ble_eq_true rfl⟩ ⟨Nat.le_of_ble_eq_true rfl, Nat.le_of_ble_eq_true rfl⟩ ?_
    refine v_aload_n (dq D_X10_plainEnd 14 rfl) 0 rfl ?_
    refine v_aload_n (dq D_X10_plainEnd 15 rfl) 0 rfl ?_
    obtain ⟨x6, hx6, h⟩ := obi h
    refine v_gI (dq D_X10_plainEnd 16 rfl) fa_RX10_293 hx6 ?_
    obtain ⟨q7, hq7, h⟩ := obi h
    refine v_cVi (bc := 0) (bs := 0) (As := [.int x6]) (dq D_X10_plainEnd 17 rfl) cv_X10_good ml_RX10_46 (itg hq7).1 (m_X10_good hq7) rfl rfl (Nat.le_of_ble_eq_true rfl) ⟨Nat.le_of_ble_eq_true rfl, Nat.le_of_ble_eq_true rfl⟩ ⟨Nat.le_of_ble_eq_true rfl, Nat.le_of_ble_eq_true rfl⟩ ?_
    obtain rfl := Option.some.inj h
    exact v_iret (dq D_X10_plainEnd 18 rfl) rfl ⟨rfl, rfl⟩
theorem m_X10_plainEnd {sa : Env3} {a0 : Nat} {σ : St} {r : Int32 × St} (h : f_X10_plainEnd a0 σ = some r) : Ex sa yX10_plainEnd cX10_plainEnd K_X10_plainEnd [.ref a0] σ (pO r) := Ex.of (by decide) rfl (fun q => nomatch q) (Nat.le_of_ble_eq_true rfl) (w_X10_plainEnd_0 (itg h).2)
theorem w_X10_plainMisses_0 {sa : Env3} {a0 : Nat} {σ : St} {r : Int32 × St} (h : f_X10_plainMisses_0 a0 σ = some r) : VV sa cX10_plainMisses K_X10_plainMisses 0 [(0, .ref a0)] [] σ (pO r) 0 0 := by
  unfold f_X10_plainMisses_0 at h
  refine v_aload_n (dq D_X10_plainMisses 0 rfl) 0 rfl ?_
  refine v_iconst (dq D_X10_plainMisses 1 rfl) kc_0 ?_
  obtain ⟨σ1, hσ1, h⟩ := obi h
  refine v_pI (dq D_X10_plainMisses 2 rfl) fp_RX10_36 hσ1 ?_
  refine v_aload_n (dq D_X10_plainMisses 3 rfl) 0 rfl ?_
  obtain ⟨x2, hx2, h⟩ := obi h
  refine v_gQ (dq D_X10_plainMisses 4 rfl) fa_RX10_266 hx2 ?_
  rcases oc_inv h with ⟨rfl, h⟩ | ⟨b3, rfl, h⟩
  · refine v_ifnonnullN (dq D_X10_plainMisses 5 rfl) ?_
    refine v_aload_n (dq D_X10_plainMisses 6 rfl) 0 rfl ?_
    refine v_iconst (dq D_X10_plainMisses 7 rfl) kc_1 ?_
    obtain ⟨q4, hq4, h⟩ := obi h
    refine v_cVi (bc := 0) (bs := 0) (As := [.int 1]) (dq D_X10_plainMisses 8 rfl) cv_X10_refused ml_RX10_42 (itg hq4).1 (m_X10_refused hq4) rfl rfl (Nat.le_of_ble_eq_true rfl) ⟨Nat.le_of_ble_eq_true rfl, Nat.le_of_ble_eq_true rfl⟩ ⟨Nat.le_of_ble_eq_true rfl, Nat.le_of_ble_eq_true rfl⟩ ?_
    obtain rfl := Option.some.inj h
    exact v_iret (dq D_X10_plainMisses 9 rfl) rfl ⟨rfl, rfl⟩
  · refine v_ifnonnullR (dq D_X10_plainMisses 5 rfl) rfl ?_
    refine v_aload_n (dq D_X10_plainMisses 10 rfl) 0 rfl ?_
    refine v_iconst (dq D_X10_plainMisses 11 rfl) kc_0 ?_
    refine v_sipush (dq D_X10_plainMisses 12 rfl) ks_200 ?_
    obtain ⟨σ5, hσ5, h⟩ := obi h
    refine v_cVv (bc := 0) (bs := 0) (As := [.int 0, .int 200]) (dq D_X10_plainMisses 13 rfl) cv_X10_plainly ml_RX10_309 (itg hσ5).1 (m_X10_plainly hσ5) rfl rfl (Nat.le_of_ble_eq_true rfl) ⟨Nat.le_of_ble_eq_true rfl, Nat.le_of_ble_eq_true rfl⟩ ⟨Nat.le_of_ble_eq_true rfl, Nat.le_of_ble_eq_true rfl⟩ ?_
    refine v_aload_n (dq D_X10_plainMisses 14 rfl) 0 rfl ?_
    refine v_aload_n (dq D_X10_plainMisses 15 rfl) 0 rfl ?_
    obtain ⟨x6, hx6, h⟩ := obi h
    refine v_gI (dq D_X10_plainMisses 16 rfl) fa_RX10_290 hx6 ?_
    obtain ⟨q7, hq7, h⟩ := obi h
    refine v_cVi (bc := 0) (bs := 0) (As := [.int x6]) (dq D_X10_plainMisses 17 rfl) cv_X10_good ml_RX10_46 (itg hq7).1 (m_X10_good hq7) rfl rfl (Nat.le_of_ble_eq_true rfl) ⟨Nat.le_of_ble_eq_true rfl, Nat.le_of_ble_eq_true rfl⟩ ⟨Nat.le_of_ble_eq_true rfl, Nat.le_of_ble_eq_true rfl⟩ ?_
    obtain rfl := Option.some.inj h
    exact v_iret (dq D_X10_plainMisses 18 rfl) rfl ⟨rfl, rfl⟩
theorem m_X10_plainMisses {sa : Env3} {a0 : Nat} {σ : St} {r : Int32 × St} (h : f_X10_plainMisses a0 σ = some r) : Ex sa yX10_plainMisses cX10_plainMisses K_X10_plainMisses [.ref a0] σ (pO r) := Ex.of (by decide) rfl (fun q => nomatch q) (Nat.le_of_ble_eq_true rfl) (w_X10_plainMisses_0 (itg h).2)
theorem w_X10_plainStep_42 {sa : Env3} {s0 : Int32} {σ : St} {r : Int32 × St} (h : f_X10_plainStep_42 s0 σ = some r) : VV sa cX10_plainStep K_X10_plainStep 42 [] [.int s0] σ (pO r) 0 0 := by
  unfold f_X10_plainStep_42 at h
  obtain rfl := Option.some.inj h
  exact v_iret (dq D_X10_plainStep 22 rfl) rfl ⟨rfl, rfl⟩
theorem w_X10_plainStep_0 {sa : Env3} {a0 : Nat} {a1 : Int32} {σ : St} {r : Int32 × St} (h : f_X10_plainStep_0 a0 a1 σ = some r) : VV sa cX10_plainStep K_X10_plainStep 0 [(0, .ref a0), (1, .int a1)] [] σ (pO r) 0 0 := by
  unfold f_X10_plainStep_0 at h
  refine v_aload_n (dq D_X10_plainStep 0 rfl) 0 rfl ?_
  refine v_iconst (dq D_X10_plainStep 1 rfl) kc_0 ?_
  obtain ⟨σ1, hσ1, h⟩ := obi h
  refine v_pI (dq D_X10_plainStep 2 rfl) fp_RX10_36 hσ1 ?_
  refine v_aload_n (dq D_X10_plainStep 3 rfl) 0 rfl ?_
  obtain ⟨x2, hx2, h⟩ := obi h
  refine v_gQ (dq D_X10_plainStep 4 rfl) fa_RX10_266 hx2 ?_
  rcases oc_inv h with ⟨rfl, h⟩ | ⟨b3, rfl, h⟩
  · refine v_ifnonnullN (dq D_X10_plainStep 5 rfl) ?_
    refine v_aload_n (dq D_X10_plainStep 6 rfl) 0 rfl ?_
    refine v_iconst (dq D_X10_plainStep 7 rfl) kc_1 ?_
    obtain ⟨q4, hq4, h⟩ := obi h
    refine v_cVi (bc := 0) (bs := 0) (As := [.int 1]) (dq D_X10_plainStep 8 rfl) cv_X10_refused ml_RX10_42 (itg hq4).1 (m_X10_refused hq4) rfl rfl (Nat.le_of_ble_eq_true rfl) ⟨Nat.le_of_ble_eq_true rfl, Nat.le_of_ble_eq_true rfl⟩ ⟨Nat.le_of_ble_eq_true rfl, Nat.le_of_ble_eq_true rfl⟩ ?_
    obtain rfl := Option.some.inj h
    exact v_iret (dq D_X10_plainStep 9 rfl) rfl ⟨rfl, rfl⟩
  · refine v_ifnonnullR (dq D_X10_plainStep 5 rfl) rfl ?_
    refine v_aload_n (dq D_X10_plainStep 10 rfl) 0 rfl ?_
    refine v_iload_n (dq D_X10_plainStep 11 rfl) 1 rfl ?_
    obtain ⟨q5, hq5, h⟩ := obi h
    refine v_cVi (bc := 0) (bs := 0) (As := [.int a1]) (dq D_X10_plainStep 12 rfl) cv_X10_plainlyDone ml_RX10_312 (itg hq5).1 (m_X10_plainlyDone hq5) rfl rfl (Nat.le_of_ble_eq_true rfl) ⟨Nat.le_of_ble_eq_true rfl, Nat.le_of_ble_eq_true rfl⟩ ⟨Nat.le_of_ble_eq_true rfl, Nat.le_of_ble_eq_true rfl⟩ ?_
    refine v_if_eq (dq D_X10_plainStep 13 rfl) rfl (fun c6 => ?_) (fun c6 => ?_)
    · have h := itp h c6
      refine v_aload_n (dq D_X10_plainStep 19 rfl) 0 rfl ?_
      refine v_iconst (dq D_X10_plainStep 20 rfl) kc_2 ?_
      obtain ⟨q7, hq7, h⟩ := obi h
      refine v_cVi (bc := 0) (bs := 0) (As := [.int 2]) (dq D_X10_plainStep 21 rfl) cv_X10_refused ml_RX10_42 (itg hq7).1 (m_X10_refused hq7) rfl rfl (Nat.le_of_ble_eq_true rfl) ⟨Nat.le_of_ble_eq_true rfl, Nat.le_of_ble_eq_true rfl⟩ ⟨Nat.le_of_ble_eq_true rfl, Nat.le_of_ble_eq_true rfl⟩ ?_
      exact v_sub [] rfl (w_X10_plainStep_42 h)
    · have h := itn h c6
      refine v_aload_n (dq D_X10_plainStep 14 rfl) 0 rfl ?_
      refine v_aload_n (dq D_X10_plainStep 15 rfl) 0 rfl ?_
      obtain ⟨x8, hx8, h⟩ := obi h
      refine v_gI (dq D_X10_plainStep 16 rfl) fa_RX10_284 hx8 ?_
      obtain ⟨q9, hq9, h⟩ := obi h
      refine v_cVi (bc := 0) (bs := 0) (As := [.int x8]) (dq D_X10_plainStep 17 rfl) cv_X10_good ml_RX10_46 (itg hq9).1 (m_X10_good hq9) rfl rfl (Nat.le_of_ble_eq_true rfl) ⟨Nat.le_of_ble_eq_true rfl, Nat.le_of_ble_eq_true rfl⟩ ⟨Nat.le_of_ble_eq_true rfl, Nat.le_of_ble_eq_true rfl⟩ ?_
      refine v_goto (dq D_X10_plainStep 18 rfl) rfl ?_
      exact v_sub [] rfl (w_X10_plainStep_42 h)
theorem m_X10_plainStep {sa : Env3} {a0 : Nat} {a1 : Int32} {σ : St} {r : Int32 × St} (h : f_X10_plainStep a0 a1 σ = some r) : Ex sa yX10_plainStep cX10_plainStep K_X10_plainStep [.ref a0, .int a1] σ (pO r) := Ex.of (by decide) rfl (fun q => nomatch q) (Nat.le_of_ble_eq_true rfl) (w_X10_plainStep_0 (itg h).2)
theorem w_X10_plainSteps_0 {sa : Env3} {a0 : Nat} {σ : St} {r : Int32 × St} (h : f_X10_plainSteps_0 a0 σ = some r) : VV sa cX10_plainSteps K_X10_plainSteps 0 [(0, .ref a0)] [] σ (pO r) 0 0 := by
  unfold f_X10_plainSteps_0 at h
  refine v_aload_n (dq D_X10_plainSteps 0 rfl) 0 rfl ?_
  refine v_iconst (dq D_X10_plainSteps 1 rfl) kc_0 ?_
  obtain ⟨σ1, hσ1, h⟩ := obi h
  refine v_pI (dq D_X10_plainSteps 2 rfl) fp_RX10_36 hσ1 ?_
  refine v_aload_n (dq D_X10_plainSteps 3 rfl) 0 rfl ?_
  obtain ⟨x2, hx2, h⟩ := obi h
  refine v_gQ (dq D_X10_plainSteps 4 rfl) fa_RX10_266 hx2 ?_
  rcases oc_inv h with ⟨rfl, h⟩ | ⟨b3, rfl, h⟩
  · refine v_ifnonnullN (dq D_X10_plainSteps 5 rfl) ?_
    refine v_aload_n (dq D_X10_plainSteps 6 rfl) 0 rfl ?_
    refine v_iconst (dq D_X10_plainSteps 7 rfl) kc_1 ?_
    obtain ⟨q4, hq4, h⟩ := obi h
    refine v_cVi (bc := 0) (bs := 0) (As := [.int 1]) (dq D_X10_plainSteps 8 rfl) cv_X10_refused ml_RX10_42 (itg hq4).1 (m_X10_refused hq4) rfl rfl (Nat.le_of_ble_eq_true rfl) ⟨Nat.le_of_ble_eq_true rfl, Nat.le_of_ble_eq_true rfl⟩ ⟨Nat.le_of_ble_eq_true rfl, Nat.le_of_ble_eq_true rfl⟩ ?_
    obtain rfl := Option.some.inj h
    exact v_iret (dq D_X10_plainSteps 9 rfl) rfl ⟨rfl, rfl⟩
  · refine v_ifnonnullR (dq D_X10_plainSteps 5 rfl) rfl ?_
    refine v_aload_n (dq D_X10_plainSteps 10 rfl) 0 rfl ?_
    refine v_iconst (dq D_X10_plainSteps 11 rfl) kc_0 ?_
    refine v_sipush (dq D_X10_plainSteps 12 rfl) ks_200 ?_
    obtain ⟨σ5, hσ5, h⟩ := obi h
    refine v_cVv (bc := 0) (bs := 0) (As := [.int 0, .int 200]) (dq D_X10_plainSteps 13 rfl) cv_X10_plainly ml_RX10_309 (itg hσ5).1 (m_X10_plainly hσ5) rfl rfl (Nat.le_of_ble_eq_true rfl) ⟨Nat.le_of_ble_eq_true rfl, Nat.le_of_ble_eq_true rfl⟩ ⟨Nat.le_of_ble_eq_true rfl, Nat.le_of_ble_eq_true rfl⟩ ?_
    refine v_aload_n (dq D_X10_plainSteps 14 rfl) 0 rfl ?_
    refine v_aload_n (dq D_X10_plainSteps 15 rfl) 0 rfl ?_
    obtain ⟨x6, hx6, h⟩ := obi h
    refine v_gI (dq D_X10_plainSteps 16 rfl) fa_RX10_287 hx6 ?_
    obtain ⟨q7, hq7, h⟩ := obi h
    refine v_cVi (bc := 0) (bs := 0) (As := [.int x6]) (dq D_X10_plainSteps 17 rfl) cv_X10_good ml_RX10_46 (itg hq7).1 (m_X10_good hq7) rfl rfl (Nat.le_of_ble_eq_true rfl) ⟨Nat.le_of_ble_eq_true rfl, Nat.le_of_ble_eq_true rfl⟩ ⟨Nat.le_of_ble_eq_true rfl, Nat.le_of_ble_eq_true rfl⟩ ?_
    obtain rfl := Option.some.inj h
    exact v_iret (dq D_X10_plainSteps 18 rfl) rfl ⟨rfl, rfl⟩
theorem m_X10_plainSteps {sa : Env3} {a0 : Nat} {σ : St} {r : Int32 × St} (h : f_X10_plainSteps a0 σ = some r) : Ex sa yX10_plainSteps cX10_plainSteps K_X10_plainSteps [.ref a0] σ (pO r) := Ex.of (by decide) rfl (fun q => nomatch q) (Nat.le_of_ble_eq_true rfl) (w_X10_plainSteps_0 (itg h).2)
theorem w_X10_rate_52 {sa : Env3} {a2 : Int32} {s0 : Nat} {s1 : Int64} {s2 : Int64} {σ : St} {r : Int64 × St} (h : f_X10_rate_52 a2 s0 s1 s2 σ = some r) : VV sa cX10_rate K_X10_rate 52 [(2, .int a2)] [.long s2, .long s1, .ref s0] σ (pJ r) 0 0 := by
  unfold f_X10_rate_52 at h
  refine v_iload_n (dq D_X10_rate 31 rfl) 0 rfl ?_
  obtain ⟨q1, hq1, h⟩ := obi h
  refine v_cVj (bc := 0) (bs := 0) (As := [.long s1, .long s2, .int a2]) (dq D_X10_rate 32 rfl) cv_X10_fraction ml_RX10_420 (itg hq1).1 (m_X10_fraction hq1) rfl rfl (Nat.le_of_ble_eq_true rfl) ⟨Nat.le_of_ble_eq_true rfl, Nat.le_of_ble_eq_true rfl⟩ ⟨Nat.le_of_ble_eq_true rfl, Nat.le_of_ble_eq_true rfl⟩ ?_
  obtain rfl := Option.some.inj h
  exact v_lret (dq D_X10_rate 33 rfl) rfl ⟨rfl, rfl⟩
theorem w_X10_rate_0 {sa : Env3} {a0 : Nat} {a1 : Int32} {a2 : Int32} {σ : St} {r : Int64 × St} (h : f_X10_rate_0 a0 a1 a2 σ = some r) : VV sa cX10_rate K_X10_rate 0 [(0, .ref a0), (1, .int a1), (2, .int a2)] [] σ (pJ r) 0 0 := by
  unfold f_X10_rate_0 at h
  refine v_aload_n (dq D_X10_rate 0 rfl) 0 rfl ?_
  refine v_iconst (dq D_X10_rate 1 rfl) kc_0 ?_
  obtain ⟨σ1, hσ1, h⟩ := obi h
  refine v_pI (dq D_X10_rate 2 rfl) fp_RX10_36 hσ1 ?_
  refine v_aload_n (dq D_X10_rate 3 rfl) 0 rfl ?_
  refine v_iload_n (dq D_X10_rate 4 rfl) 1 rfl ?_
  obtain ⟨q2, hq2, h⟩ := obi h
  refine v_cVi (bc := 0) (bs := 0) (As := [.int a1]) (dq D_X10_rate 5 rfl) cv_X10_refusesCells ml_RX10_414 (itg hq2).1 (m_X10_refusesCells hq2) rfl rfl (Nat.le_of_ble_eq_true rfl) ⟨Nat.le_of_ble_eq_true rfl, Nat.le_of_ble_eq_true rfl⟩ ⟨Nat.le_of_ble_eq_true rfl, Nat.le_of_ble_eq_true rfl⟩ ?_
  refine v_istore_n (dq D_X10_rate 6 rfl) [(3, .int q2.1), (0, .ref a0), (1, .int a1), (2, .int a2)] rfl (Nat.le_of_ble_eq_true rfl) rfl ?_
  refine v_iload_n (dq D_X10_rate 7 rfl) 0 rfl ?_
  refine v_if_le (dq D_X10_rate 8 rfl) rfl (fun c3 => ?_) (fun c3 => ?_)
  · have h := itp h c3
    refine v_aload_n (dq D_X10_rate 14 rfl) 1 rfl ?_
    refine v_iload_n (dq D_X10_rate 15 rfl) 2 rfl ?_
    obtain ⟨σ4, hσ4, h⟩ := obi h
    refine v_cVv (bc := 0) (bs := 0) (As := [.int a1]) (dq D_X10_rate 16 rfl) cv_X10_goes ml_RX10_417 (itg hσ4).1 (m_X10_goes hσ4) rfl rfl (Nat.le_of_ble_eq_true rfl) ⟨Nat.le_of_ble_eq_true rfl, Nat.le_of_ble_eq_true rfl⟩ ⟨Nat.le_of_ble_eq_true rfl, Nat.le_of_ble_eq_true rfl⟩ ?_
    refine v_aload_n (dq D_X10_rate 17 rfl) 1 rfl ?_
    refine v_aload_n (dq D_X10_rate 18 rfl) 1 rfl ?_
    obtain ⟨x5, hx5, h⟩ := obi h
    refine v_gR (dq D_X10_rate 19 rfl) fa_RX10_24 hx5 ?_
    refine v_bipush (dq D_X10_rate 20 rfl) kb_37 ?_
    obtain ⟨x6, hx6, h⟩ := obi h
    refine v_iald (dq D_X10_rate 21 rfl) hx6 ?_
    refine v_i2l (dq D_X10_rate 22 rfl) ?_
    refine v_aload_n (dq D_X10_rate 23 rfl) 1 rfl ?_
    obtain ⟨x7, hx7, h⟩ := obi h
    refine v_gI (dq D_X10_rate 24 rfl) fa_RX10_405 hx7 ?_
    refine v_if_ne (dq D_X10_rate 25 rfl) rfl (fun c8 => ?_) (fun c8 => ?_)
    · have h := itn h c8
      refine v_aload_n (dq D_X10_rate 28 rfl) 1 rfl ?_
      obtain ⟨x9, hx9, h⟩ := obi h
      refine v_gI (dq D_X10_rate 29 rfl) fa_RX10_405 hx9 ?_
      refine v_i2l (dq D_X10_rate 30 rfl) ?_
      exact v_sub [3] rfl (w_X10_rate_52 h)
    · have h := itp h c8
      refine v_lconst (dq D_X10_rate 26 rfl) lc_1 ?_
      refine v_goto (dq D_X10_rate 27 rfl) rfl ?_
      exact v_sub [3] rfl (w_X10_rate_52 h)
  · have h := itn h c3
    refine v_aload_n (dq D_X10_rate 9 rfl) 1 rfl ?_
    refine v_iload_n (dq D_X10_rate 10 rfl) 0 rfl ?_
    obtain ⟨q10, hq10, h⟩ := obi h
    refine v_cVi (bc := 0) (bs := 0) (As := [.int q2.1]) (dq D_X10_rate 11 rfl) cv_X10_refused ml_RX10_42 (itg hq10).1 (m_X10_refused hq10) rfl rfl (Nat.le_of_ble_eq_true rfl) ⟨Nat.le_of_ble_eq_true rfl, Nat.le_of_ble_eq_true rfl⟩ ⟨Nat.le_of_ble_eq_true rfl, Nat.le_of_ble_eq_true rfl⟩ ?_
    refine v_i2l (dq D_X10_rate 12 rfl) ?_
    obtain rfl := Option.some.inj h
    exact v_lret (dq D_X10_rate 13 rfl) rfl ⟨rfl, rfl⟩
theorem m_X10_rate {sa : Env3} {a0 : Nat} {a1 : Int32} {a2 : Int32} {σ : St} {r : Int64 × St} (h : f_X10_rate a0 a1 a2 σ = some r) : Ex sa yX10_rate cX10_rate K_X10_rate [.ref a0, .int a1, .int a2] σ (pJ r) := Ex.of (by decide) rfl (fun q => nomatch q) (Nat.le_of_ble_eq_true rfl) (w_X10_rate_0 (itg h).2)
theorem w_X10_ready_31 {sa : Env3} {s0 : Int32} {σ : St} {r : Int32 × St} (h : f_X10_ready_31 s0 σ = some r) : VV sa cX10_ready K_X10_ready 31 [] [.int s0] σ (pO r) 0 0 := by
  unfold f_X10_ready_31 at h
  obtain rfl := Option.some.inj h
  exact v_iret (dq D_X10_ready 16 rfl) rfl ⟨rfl, rfl⟩
theorem w_X10_ready_0 {sa : Env3} {a0 : Nat} {σ : St} {r : Int32 × St} (h : f_X10_ready_0 a0 σ = some r) : VV sa cX10_ready K_X10_ready 0 [(0, .ref a0)] [] σ (pO r) 0 0 := by
  unfold f_X10_ready_0 at h
  refine v_aload_n (dq D_X10_ready 0 rfl) 0 rfl ?_
  refine v_iconst (dq D_X10_ready 1 rfl) kc_0 ?_
  obtain ⟨σ1, hσ1, h⟩ := obi h
  refine v_pI (dq D_X10_ready 2 rfl) fp_RX10_36 hσ1 ?_
  refine v_aload_n (dq D_X10_ready 3 rfl) 0 rfl ?_
  obtain ⟨x2, hx2, h⟩ := obi h
  refine v_gQ (dq D_X10_ready 4 rfl) fa_RX10_266 hx2 ?_
  rcases oc_inv h with ⟨rfl, h⟩ | ⟨b3, rfl, h⟩
  · refine v_ifnonnullN (dq D_X10_ready 5 rfl) ?_
    refine v_aload_n (dq D_X10_ready 6 rfl) 0 rfl ?_
    refine v_iconst (dq D_X10_ready 7 rfl) kc_1 ?_
    obtain ⟨q4, hq4, h⟩ := obi h
    refine v_cVi (bc := 0) (bs := 0) (As := [.int 1]) (dq D_X10_ready 8 rfl) cv_X10_refused ml_RX10_42 (itg hq4).1 (m_X10_refused hq4) rfl rfl (Nat.le_of_ble_eq_true rfl) ⟨Nat.le_of_ble_eq_true rfl, Nat.le_of_ble_eq_true rfl⟩ ⟨Nat.le_of_ble_eq_true rfl, Nat.le_of_ble_eq_true rfl⟩ ?_
    refine v_goto (dq D_X10_ready 9 rfl) rfl ?_
    exact v_sub [] rfl (w_X10_ready_31 h)
  · refine v_ifnonnullR (dq D_X10_ready 5 rfl) rfl ?_
    refine v_aload_n (dq D_X10_ready 10 rfl) 0 rfl ?_
    refine v_aload_n (dq D_X10_ready 11 rfl) 0 rfl ?_
    obtain ⟨x5, hx5, h⟩ := obi h
    refine v_gR (dq D_X10_ready 12 rfl) fa_RX10_21 hx5 ?_
    refine v_bipush (dq D_X10_ready 13 rfl) kb_33 ?_
    obtain ⟨x6, hx6, h⟩ := obi h
    refine v_iald (dq D_X10_ready 14 rfl) hx6 ?_
    obtain ⟨q7, hq7, h⟩ := obi h
    refine v_cVi (bc := 0) (bs := 0) (As := [.int x6]) (dq D_X10_ready 15 rfl) cv_X10_good ml_RX10_46 (itg hq7).1 (m_X10_good hq7) rfl rfl (Nat.le_of_ble_eq_true rfl) ⟨Nat.le_of_ble_eq_true rfl, Nat.le_of_ble_eq_true rfl⟩ ⟨Nat.le_of_ble_eq_true rfl, Nat.le_of_ble_eq_true rfl⟩ ?_
    exact v_sub [] rfl (w_X10_ready_31 h)
theorem m_X10_ready {sa : Env3} {a0 : Nat} {σ : St} {r : Int32 × St} (h : f_X10_ready a0 σ = some r) : Ex sa yX10_ready cX10_ready K_X10_ready [.ref a0] σ (pO r) := Ex.of (by decide) rfl (fun q => nomatch q) (Nat.le_of_ble_eq_true rfl) (w_X10_ready_0 (itg h).2)
theorem w_X10_resume_0 {sa : Env3} {a0 : Nat} {a1 : Int32} {σ : St} {r : Int32 × St} (h : f_X10_resume_0 a0 a1 σ = some r) : VV sa cX10_resume K_X10_resume 0 [(0, .ref a0), (1, .int a1)] [] σ (pO r) 0 0 := by
  unfold f_X10_resume_0 at h
  refine v_aload_n (dq D_X10_resume 0 rfl) 0 rfl ?_
  refine v_iconst (dq D_X10_resume 1 rfl) kc_0 ?_
  obtain ⟨σ1, hσ1, h⟩ := obi h
  refine v_pI (dq D_X10_resume 2 rfl) fp_RX10_36 hσ1 ?_
  refine v_aload_n (dq D_X10_resume 3 rfl) 0 rfl ?_
  obtain ⟨x2, hx2, h⟩ := obi h
  refine v_gQ (dq D_X10_resume 4 rfl) fa_RX10_266 hx2 ?_
  rcases oc_inv h with ⟨rfl, h⟩ | ⟨b3, rfl, h⟩
  · refine v_ifnonnullN (dq D_X10_resume 5 rfl) ?_
    refine v_aload_n (dq D_X10_resume 6 rfl) 0 rfl ?_
    refine v_iconst (dq D_X10_resume 7 rfl) kc_1 ?_
    obtain ⟨q4, hq4, h⟩ := obi h
    refine v_cVi (bc := 0) (bs := 0) (As := [.int 1]) (dq D_X10_resume 8 rfl) cv_X10_denied ml_RX10_474 (itg hq4).1 (m_X10_denied hq4) rfl rfl (Nat.le_of_ble_eq_true rfl) ⟨Nat.le_of_ble_eq_true rfl, Nat.le_of_ble_eq_true rfl⟩ ⟨Nat.le_of_ble_eq_true rfl, Nat.le_of_ble_eq_true rfl⟩ ?_
    have hz := (itg h).1
    have h := (itg h).2
    obtain rfl := Option.some.inj h
    exact v_zret (dq D_X10_resume 9 rfl) rfl (z_nar hz) ⟨rfl, rfl⟩
  · refine v_ifnonnullR (dq D_X10_resume 5 rfl) rfl ?_
    refine v_iload_n (dq D_X10_resume 10 rfl) 1 rfl ?_
    refine v_iconst (dq D_X10_resume 11 rfl) kc_0 ?_
    refine v_bipush (dq D_X10_resume 12 rfl) kb_24 ?_
    obtain ⟨q5, hq5, h⟩ := obi h
    refine v_cSi (bc := 0) (bs := 0) (As := [.int a1, .int 0, .int 24]) (dq D_X10_resume 13 rfl) cs_X10_in ml_RX10_115 (m_X10_in hq5) rfl rfl (Nat.le_of_ble_eq_true rfl) ⟨Nat.le_of_ble_eq_true rfl, Nat.le_of_ble_eq_true rfl⟩ ⟨Nat.le_of_ble_eq_true rfl, Nat.le_of_ble_eq_true rfl⟩ ?_
    refine v_if_ne (dq D_X10_resume 14 rfl) rfl (fun c6 => ?_) (fun c6 => ?_)
    · have h := itn h c6
      refine v_aload_n (dq D_X10_resume 19 rfl) 0 rfl ?_
      obtain ⟨x7, hx7, h⟩ := obi h
      refine v_gR (dq D_X10_resume 20 rfl) fa_RX10_21 hx7 ?_
      refine v_bipush (dq D_X10_resume 21 rfl) kb_36 ?_
      obtain ⟨x8, hx8, h⟩ := obi h
      refine v_iald (dq D_X10_resume 22 rfl) hx8 ?_
      refine v_if_ne (dq D_X10_resume 23 rfl) rfl (fun c9 => ?_) (fun c9 => ?_)
      · have h := itn h c9
        refine v_aload_n (dq D_X10_resume 28 rfl) 0 rfl ?_
        obtain ⟨σ10, hσ10, h⟩ := obi h
        refine v_cVv (bc := 0) (bs := 0) (As := []) (dq D_X10_resume 29 rfl) cv_X10_remembers ml_RX10_468 (itg hσ10).1 (m_X10_remembers hσ10) rfl rfl (Nat.le_of_ble_eq_true rfl) ⟨Nat.le_of_ble_eq_true rfl, Nat.le_of_ble_eq_true rfl⟩ ⟨Nat.le_of_ble_eq_true rfl, Nat.le_of_ble_eq_true rfl⟩ ?_
        refine v_aload_n (dq D_X10_resume 30 rfl) 0 rfl ?_
        obtain ⟨x11, hx11, h⟩ := obi h
        refine v_gR (dq D_X10_resume 31 rfl) fa_RX10_21 hx11 ?_
        refine v_bipush (dq D_X10_resume 32 rfl) kb_36 ?_
        refine v_iconst (dq D_X10_resume 33 rfl) kc_0 ?_
        obtain ⟨σ12, hσ12, h⟩ := obi h
        refine v_iast (dq D_X10_resume 34 rfl) hσ12 ?_
        refine v_aload_n (dq D_X10_resume 35 rfl) 0 rfl ?_
        obtain ⟨x13, hx13, h⟩ := obi h
        refine v_gR (dq D_X10_resume 36 rfl) fa_RX10_21 hx13 ?_
        refine v_bipush (dq D_X10_resume 37 rfl) kb_38 ?_
        refine v_iconst (dq D_X10_resume 38 rfl) kc_1 ?_
        obtain ⟨σ14, hσ14, h⟩ := obi h
        refine v_iast (dq D_X10_resume 39 rfl) hσ14 ?_
        refine v_aload_n (dq D_X10_resume 40 rfl) 0 rfl ?_
        obtain ⟨x15, hx15, h⟩ := obi h
        refine v_gR (dq D_X10_resume 41 rfl) fa_RX10_21 hx15 ?_
        refine v_bipush (dq D_X10_resume 42 rfl) kb_35 ?_
        refine v_iload_n (dq D_X10_resume 43 rfl) 1 rfl ?_
        obtain ⟨σ16, hσ16, h⟩ := obi h
        refine v_iast (dq D_X10_resume 44 rfl) hσ16 ?_
        refine v_aload_n (dq D_X10_resume 45 rfl) 0 rfl ?_
        obtain ⟨q17, hq17, h⟩ := obi h
        refine v_cVi (bc := 0) (bs := 0) (As := []) (dq D_X10_resume 46 rfl) cv_X10_granted ml_RX10_477 (itg hq17).1 (m_X10_granted hq17) rfl rfl (Nat.le_of_ble_eq_true rfl) ⟨Nat.le_of_ble_eq_true rfl, Nat.le_of_ble_eq_true rfl⟩ ⟨Nat.le_of_ble_eq_true rfl, Nat.le_of_ble_eq_true rfl⟩ ?_
        have hz := (itg h).1
        have h := (itg h).2
        obtain rfl := Option.some.inj h
        exact v_zret (dq D_X10_resume 47 rfl) rfl (z_nar hz) ⟨rfl, rfl⟩
      · have h := itp h c9
        refine v_aload_n (dq D_X10_resume 24 rfl) 0 rfl ?_
        refine v_iconst (dq D_X10_resume 25 rfl) kc_5 ?_
        obtain ⟨q18, hq18, h⟩ := obi h
        refine v_cVi (bc := 0) (bs := 0) (As := [.int 5]) (dq D_X10_resume 26 rfl) cv_X10_denied ml_RX10_474 (itg hq18).1 (m_X10_denied hq18) rfl rfl (Nat.le_of_ble_eq_true rfl) ⟨Nat.le_of_ble_eq_true rfl, Nat.le_of_ble_eq_true rfl⟩ ⟨Nat.le_of_ble_eq_true rfl, Nat.le_of_ble_eq_true rfl⟩ ?_
        have hz := (itg h).1
        have h := (itg h).2
        obtain rfl := Option.some.inj h
        exact v_zret (dq D_X10_resume 27 rfl) rfl (z_nar hz) ⟨rfl, rfl⟩
    · have h := itp h c6
      refine v_aload_n (dq D_X10_resume 15 rfl) 0 rfl ?_
      refine v_iconst (dq D_X10_resume 16 rfl) kc_2 ?_
      obtain ⟨q19, hq19, h⟩ := obi h
      refine v_cVi (bc := 0) (bs := 0) (As := [.int 2]) (dq D_X10_resume 17 rfl) cv_X10_denied ml_RX10_474 (itg hq19).1 (m_X10_denied hq19) rfl rfl (Nat.le_of_ble_eq_true rfl) ⟨Nat.le_of_ble_eq_true rfl, Nat.le_of_ble_eq_true rfl⟩ ⟨Nat.le_of_ble_eq_true rfl, Nat.le_of_ble_eq_true rfl⟩ ?_
      have hz := (itg h).1
      have h := (itg h).2
      obtain rfl := Option.some.inj h
      exact v_zret (dq D_X10_resume 18 rfl) rfl (z_nar hz) ⟨rfl, rfl⟩
theorem m_X10_resume {sa : Env3} {a0 : Nat} {a1 : Int32} {σ : St} {r : Int32 × St} (h : f_X10_resume a0 a1 σ = some r) : Ex sa yX10_resume cX10_resume K_X10_resume [.ref a0, .int a1] σ (pO r) := Ex.of (by decide) rfl (fun q => nomatch q) (Nat.le_of_ble_eq_true rfl) (w_X10_resume_0 (itg h).2)
theorem w_X10_run_0 {sa : Env3} {a0 : Nat} {a1 : Int32} {σ : St} {r : Int32 × St} (h : f_X10_run_0 a0 a1 σ = some r) : VV sa cX10_run K_X10_run 0 [(0, .ref a0), (1, .int a1)] [] σ (pO r) 0 0 := by
  unfold f_X10_run_0 at h
  refine v_aload_n (dq D_X10_run 0 rfl) 0 rfl ?_
  refine v_iconst (dq D_X10_run 1 rfl) kc_0 ?_
  obtain ⟨σ1, hσ1, h⟩ := obi h
  refine v_pI (dq D_X10_run 2 rfl) fp_RX10_36 hσ1 ?_
  refine v_aload_n (dq D_X10_run 3 rfl) 0 rfl ?_
  refine v_iload_n (dq D_X10_run 4 rfl) 1 rfl ?_
  obtain ⟨q2, hq2, h⟩ := obi h
  refine v_cVi (bc := 0) (bs := 0) (As := [.int a1]) (dq D_X10_run 5 rfl) cv_X10_isEntry ml_RX10_378 (itg hq2).1 (m_X10_isEntry hq2) rfl rfl (Nat.le_of_ble_eq_true rfl) ⟨Nat.le_of_ble_eq_true rfl, Nat.le_of_ble_eq_true rfl⟩ ⟨Nat.le_of_ble_eq_true rfl, Nat.le_of_ble_eq_true rfl⟩ ?_
  refine v_if_ne (dq D_X10_run 6 rfl) rfl (fun c3 => ?_) (fun c3 => ?_)
  · have h := itn h c3
    refine v_aload_n (dq D_X10_run 11 rfl) 0 rfl ?_
    obtain ⟨σ4, hσ4, h⟩ := obi h
    refine v_cVv (bc := 0) (bs := 0) (As := []) (dq D_X10_run 12 rfl) cv_X10_works ml_RX10_366 (itg hσ4).1 (m_X10_works hσ4) rfl rfl (Nat.le_of_ble_eq_true rfl) ⟨Nat.le_of_ble_eq_true rfl, Nat.le_of_ble_eq_true rfl⟩ ⟨Nat.le_of_ble_eq_true rfl, Nat.le_of_ble_eq_true rfl⟩ ?_
    refine v_aload_n (dq D_X10_run 13 rfl) 0 rfl ?_
    refine v_iload_n (dq D_X10_run 14 rfl) 1 rfl ?_
    obtain ⟨q5, hq5, h⟩ := obi h
    refine v_cVi (bc := 0) (bs := 0) (As := [.int a1]) (dq D_X10_run 15 rfl) cv_X10_isRunnable ml_RX10_381 (itg hq5).1 (m_X10_isRunnable hq5) rfl rfl (Nat.le_of_ble_eq_true rfl) ⟨Nat.le_of_ble_eq_true rfl, Nat.le_of_ble_eq_true rfl⟩ ⟨Nat.le_of_ble_eq_true rfl, Nat.le_of_ble_eq_true rfl⟩ ?_
    refine v_if_ne (dq D_X10_run 16 rfl) rfl (fun c6 => ?_) (fun c6 => ?_)
    · have h := itn h c6
      refine v_aload_n (dq D_X10_run 21 rfl) 0 rfl ?_
      obtain ⟨σ7, hσ7, h⟩ := obi h
      refine v_cVv (bc := 0) (bs := 0) (As := []) (dq D_X10_run 22 rfl) cv_X10_remembers ml_RX10_468 (itg hσ7).1 (m_X10_remembers hσ7) rfl rfl (Nat.le_of_ble_eq_true rfl) ⟨Nat.le_of_ble_eq_true rfl, Nat.le_of_ble_eq_true rfl⟩ ⟨Nat.le_of_ble_eq_true rfl, Nat.le_of_ble_eq_true rfl⟩ ?_
      refine v_aload_n (dq D_X10_run 23 rfl) 0 rfl ?_
      refine v_aload_n (dq D_X10_run 24 rfl) 0 rfl ?_
      refine v_iload_n (dq D_X10_run 25 rfl) 1 rfl ?_
      obtain ⟨q8, hq8, h⟩ := obi h
      refine v_cVi (bc := 0) (bs := 0) (As := [.int a1]) (dq D_X10_run 26 rfl) cv_X10_runsOne ml_RX10_396 (itg hq8).1 (m_X10_runsOne hq8) rfl rfl (Nat.le_of_ble_eq_true rfl) ⟨Nat.le_of_ble_eq_true rfl, Nat.le_of_ble_eq_true rfl⟩ ⟨Nat.le_of_ble_eq_true rfl, Nat.le_of_ble_eq_true rfl⟩ ?_
      obtain ⟨q9, hq9, h⟩ := obi h
      refine v_cVi (bc := 0) (bs := 0) (As := [.int q8.1]) (dq D_X10_run 27 rfl) cv_X10_done ml_RX10_471 (itg hq9).1 (m_X10_done hq9) rfl rfl (Nat.le_of_ble_eq_true rfl) ⟨Nat.le_of_ble_eq_true rfl, Nat.le_of_ble_eq_true rfl⟩ ⟨Nat.le_of_ble_eq_true rfl, Nat.le_of_ble_eq_true rfl⟩ ?_
      obtain rfl := Option.some.inj h
      exact v_iret (dq D_X10_run 28 rfl) rfl ⟨rfl, rfl⟩
    · have h := itp h c6
      refine v_aload_n (dq D_X10_run 17 rfl) 0 rfl ?_
      refine v_iconst (dq D_X10_run 18 rfl) kc_5 ?_
      obtain ⟨q10, hq10, h⟩ := obi h
      refine v_cVi (bc := 0) (bs := 0) (As := [.int 5]) (dq D_X10_run 19 rfl) cv_X10_refused ml_RX10_42 (itg hq10).1 (m_X10_refused hq10) rfl rfl (Nat.le_of_ble_eq_true rfl) ⟨Nat.le_of_ble_eq_true rfl, Nat.le_of_ble_eq_true rfl⟩ ⟨Nat.le_of_ble_eq_true rfl, Nat.le_of_ble_eq_true rfl⟩ ?_
      obtain rfl := Option.some.inj h
      exact v_iret (dq D_X10_run 20 rfl) rfl ⟨rfl, rfl⟩
  · have h := itp h c3
    refine v_aload_n (dq D_X10_run 7 rfl) 0 rfl ?_
    refine v_iconst (dq D_X10_run 8 rfl) kc_1 ?_
    obtain ⟨q11, hq11, h⟩ := obi h
    refine v_cVi (bc := 0) (bs := 0) (As := [.int 1]) (dq D_X10_run 9 rfl) cv_X10_refused ml_RX10_42 (itg hq11).1 (m_X10_refused hq11) rfl rfl (Nat.le_of_ble_eq_true rfl) ⟨Nat.le_of_ble_eq_true rfl, Nat.le_of_ble_eq_true rfl⟩ ⟨Nat.le_of_ble_eq_true rfl, Nat.le_of_ble_eq_true rfl⟩ ?_
    obtain rfl := Option.some.inj h
    exact v_iret (dq D_X10_run 10 rfl) rfl ⟨rfl, rfl⟩
theorem m_X10_run {sa : Env3} {a0 : Nat} {a1 : Int32} {σ : St} {r : Int32 × St} (h : f_X10_run a0 a1 σ = some r) : Ex sa yX10_run cX10_run K_X10_run [.ref a0, .int a1] σ (pO r) := Ex.of (by decide) rfl (fun q => nomatch q) (Nat.le_of_ble_eq_true rfl) (w_X10_run_0 (itg h).2)
theorem w_X10_runnable_53 {sa : Env3} {k26 : Nat → Int32 → Int32 → St → Option (Int32 × St)} (hk26 : ∀ {a0 : Nat} {a1 : Int32} {a2 : Int32} {σ : St} {r : Int32 × St}, k26 a0 a1 a2 σ = some r → VV sa cX10_runnable K_X10_runnable 26 [(0, .ref a0), (1, .int a1), (2, .int a2)] [] σ (pO r) 0 0) {a0 : Nat} {a2 : Int32} {s0 : Int32} {s1 : Int32} {σ : St} {r : Int32 × St} (h : f_X10_runnable_53 k26 a0 a2 s0 s1 σ = some r) : VV sa cX10_runnable K_X10_runnable 53 [(0, .ref a0), (2, .int a2)] [.int s1, .int s0] σ (pO r) 0 0 := by
  unfold f_X10_runnable_53 at h
  refine v_ior (dq D_X10_runnable 32 rfl) ?_
  obtain ⟨x1, ex1, h⟩ := bnd_inv h
  refine v_top (congrArg Value.int ex1) ?_
  refine v_istore_n (dq D_X10_runnable 33 rfl) [(1, .int x1), (0, .ref a0), (2, .int a2)] rfl (Nat.le_of_ble_eq_true rfl) rfl ?_
  refine v_iinc (dq D_X10_runnable 34 rfl) 2 [(2, .int (a2 + 1)), (1, .int x1), (0, .ref a0)] rfl kc_1 (Nat.le_of_ble_eq_true rfl) rfl ?_
  refine v_goto (dq D_X10_runnable 35 rfl) rfl ?_
  exact v_sub [2, 1, 0] rfl (hk26 h)
theorem w_X10_runnable_26 {sa : Env3} : ∀ (n : Nat) {a0 : Nat} {a1 : Int32} {a2 : Int32} {σ : St} {r : Int32 × St}, f_X10_runnable_26 n a0 a1 a2 σ = some r → VV sa cX10_runnable K_X10_runnable 26 [(0, .ref a0), (1, .int a1), (2, .int a2)] [] σ (pO r) 0 0 := by
  intro n
  induction n with
  | zero => intro a0 a1 a2 σ r h; cases h
  | succ n ih =>
    intro a0 a1 a2 σ r h
    rw [e_X10_runnable_26] at h
    refine v_iload_n (dq D_X10_runnable 16 rfl) 2 rfl ?_
    refine v_aload_n (dq D_X10_runnable 17 rfl) 0 rfl ?_
    obtain ⟨x1, hx1, h⟩ := obi h
    refine v_gR (dq D_X10_runnable 18 rfl) fa_RX10_24 hx1 ?_
    refine v_bipush (dq D_X10_runnable 19 rfl) kb_34 ?_
    obtain ⟨x2, hx2, h⟩ := obi h
    refine v_iald (dq D_X10_runnable 20 rfl) hx2 ?_
    refine v_icmp_ge (dq D_X10_runnable 21 rfl) rfl (fun c3 => ?_) (fun c3 => ?_)
    · have h := itp h c3
      refine v_aload_n (dq D_X10_runnable 36 rfl) 0 rfl ?_
      refine v_iload_n (dq D_X10_runnable 37 rfl) 1 rfl ?_
      obtain ⟨q4, hq4, h⟩ := obi h
      refine v_cVi (bc := 0) (bs := 0) (As := [.int a1]) (dq D_X10_runnable 38 rfl) cv_X10_good ml_RX10_46 (itg hq4).1 (m_X10_good hq4) rfl rfl (Nat.le_of_ble_eq_true rfl) ⟨Nat.le_of_ble_eq_true rfl, Nat.le_of_ble_eq_true rfl⟩ ⟨Nat.le_of_ble_eq_true rfl, Nat.le_of_ble_eq_true rfl⟩ ?_
      obtain rfl := Option.some.inj h
      exact v_iret (dq D_X10_runnable 39 rfl) rfl ⟨rfl, rfl⟩
    · have h := itn h c3
      refine v_iload_n (dq D_X10_runnable 22 rfl) 1 rfl ?_
      refine v_aload_n (dq D_X10_runnable 23 rfl) 0 rfl ?_
      refine v_iload_n (dq D_X10_runnable 24 rfl) 2 rfl ?_
      obtain ⟨q5, hq5, h⟩ := obi h
      refine v_cVi (bc := 0) (bs := 0) (As := [.int a2]) (dq D_X10_runnable 25 rfl) cv_X10_isRunnable ml_RX10_381 (itg hq5).1 (m_X10_isRunnable hq5) rfl rfl (Nat.le_of_ble_eq_true rfl) ⟨Nat.le_of_ble_eq_true rfl, Nat.le_of_ble_eq_true rfl⟩ ⟨Nat.le_of_ble_eq_true rfl, Nat.le_of_ble_eq_true rfl⟩ ?_
      refine v_if_eq (dq D_X10_runnable 26 rfl) rfl (fun c6 => ?_) (fun c6 => ?_)
      · have h := itp h c6
        refine v_iconst (dq D_X10_runnable 31 rfl) kc_0 ?_
        exact v_sub [0, 2] rfl (w_X10_runnable_53 ih h)
      · have h := itn h c6
        refine v_iconst (dq D_X10_runnable 27 rfl) kc_1 ?_
        refine v_iload_n (dq D_X10_runnable 28 rfl) 2 rfl ?_
        refine v_ishl (dq D_X10_runnable 29 rfl) ?_
        refine v_goto (dq D_X10_runnable 30 rfl) rfl ?_
        exact v_sub [0, 2] rfl (w_X10_runnable_53 ih h)
theorem w_X10_runnable_0 {sa : Env3} {a0 : Nat} {σ : St} {r : Int32 × St} (h : f_X10_runnable_0 a0 σ = some r) : VV sa cX10_runnable K_X10_runnable 0 [(0, .ref a0)] [] σ (pO r) 0 0 := by
  unfold f_X10_runnable_0 at h
  refine v_aload_n (dq D_X10_runnable 0 rfl) 0 rfl ?_
  refine v_iconst (dq D_X10_runnable 1 rfl) kc_0 ?_
  obtain ⟨σ1, hσ1, h⟩ := obi h
  refine v_pI (dq D_X10_runnable 2 rfl) fp_RX10_36 hσ1 ?_
  refine v_aload_n (dq D_X10_runnable 3 rfl) 0 rfl ?_
  obtain ⟨x2, hx2, h⟩ := obi h
  refine v_gQ (dq D_X10_runnable 4 rfl) fa_RX10_266 hx2 ?_
  rcases oc_inv h with ⟨rfl, h⟩ | ⟨b3, rfl, h⟩
  · refine v_ifnonnullN (dq D_X10_runnable 5 rfl) ?_
    refine v_aload_n (dq D_X10_runnable 6 rfl) 0 rfl ?_
    refine v_iconst (dq D_X10_runnable 7 rfl) kc_1 ?_
    obtain ⟨q4, hq4, h⟩ := obi h
    refine v_cVi (bc := 0) (bs := 0) (As := [.int 1]) (dq D_X10_runnable 8 rfl) cv_X10_refused ml_RX10_42 (itg hq4).1 (m_X10_refused hq4) rfl rfl (Nat.le_of_ble_eq_true rfl) ⟨Nat.le_of_ble_eq_true rfl, Nat.le_of_ble_eq_true rfl⟩ ⟨Nat.le_of_ble_eq_true rfl, Nat.le_of_ble_eq_true rfl⟩ ?_
    obtain rfl := Option.some.inj h
    exact v_iret (dq D_X10_runnable 9 rfl) rfl ⟨rfl, rfl⟩
  · refine v_ifnonnullR (dq D_X10_runnable 5 rfl) rfl ?_
    refine v_aload_n (dq D_X10_runnable 10 rfl) 0 rfl ?_
    obtain ⟨σ5, hσ5, h⟩ := obi h
    refine v_cVv (bc := 0) (bs := 0) (As := []) (dq D_X10_runnable 11 rfl) cv_X10_works ml_RX10_366 (itg hσ5).1 (m_X10_works hσ5) rfl rfl (Nat.le_of_ble_eq_true rfl) ⟨Nat.le_of_ble_eq_true rfl, Nat.le_of_ble_eq_true rfl⟩ ⟨Nat.le_of_ble_eq_true rfl, Nat.le_of_ble_eq_true rfl⟩ ?_
    refine v_iconst (dq D_X10_runnable 12 rfl) kc_0 ?_
    refine v_istore_n (dq D_X10_runnable 13 rfl) [(1, .int 0), (0, .ref a0)] rfl (Nat.le_of_ble_eq_true rfl) rfl ?_
    refine v_iconst (dq D_X10_runnable 14 rfl) kc_0 ?_
    refine v_istore_n (dq D_X10_runnable 15 rfl) [(2, .int 0), (1, .int 0), (0, .ref a0)] rfl (Nat.le_of_ble_eq_true rfl) rfl ?_
    exact v_sub [2, 1, 0] rfl (w_X10_runnable_26 _ h)
theorem m_X10_runnable {sa : Env3} {a0 : Nat} {σ : St} {r : Int32 × St} (h : f_X10_runnable a0 σ = some r) : Ex sa yX10_runnable cX10_runnable K_X10_runnable [.ref a0] σ (pO r) := Ex.of (by decide) rfl (fun q => nomatch q) (Nat.le_of_ble_eq_true rfl) (w_X10_runnable_0 (itg h).2)
theorem w_X10_saved_21 {sa : Env3} {a0 : Nat} {σ : St} {r : Int32 × St} (h : f_X10_saved_21 a0 σ = some r) : VV sa cX10_saved K_X10_saved 21 [(0, .ref a0)] [] σ (pO r) 0 0 := by
  unfold f_X10_saved_21 at h
  refine v_aload_n (dq D_X10_saved 11 rfl) 0 rfl ?_
  refine v_iconst (dq D_X10_saved 12 rfl) kc_1 ?_
  obtain ⟨q1, hq1, h⟩ := obi h
  refine v_cVi (bc := 0) (bs := 0) (As := [.int 1]) (dq D_X10_saved 13 rfl) cv_X10_refused ml_RX10_42 (itg hq1).1 (m_X10_refused hq1) rfl rfl (Nat.le_of_ble_eq_true rfl) ⟨Nat.le_of_ble_eq_true rfl, Nat.le_of_ble_eq_true rfl⟩ ⟨Nat.le_of_ble_eq_true rfl, Nat.le_of_ble_eq_true rfl⟩ ?_
  obtain rfl := Option.some.inj h
  exact v_iret (dq D_X10_saved 14 rfl) rfl ⟨rfl, rfl⟩
theorem w_X10_saved_61 {sa : Env3} {s0 : Nat} {s1 : Int32} {σ : St} {r : Int32 × St} (h : f_X10_saved_61 s0 s1 σ = some r) : VV sa cX10_saved K_X10_saved 61 [] [.int s1, .ref s0] σ (pO r) 0 0 := by
  unfold f_X10_saved_61 at h
  obtain ⟨q1, hq1, h⟩ := obi h
  refine v_cVi (bc := 0) (bs := 0) (As := [.int s1]) (dq D_X10_saved 35 rfl) cv_X10_good ml_RX10_46 (itg hq1).1 (m_X10_good hq1) rfl rfl (Nat.le_of_ble_eq_true rfl) ⟨Nat.le_of_ble_eq_true rfl, Nat.le_of_ble_eq_true rfl⟩ ⟨Nat.le_of_ble_eq_true rfl, Nat.le_of_ble_eq_true rfl⟩ ?_
  obtain rfl := Option.some.inj h
  exact v_iret (dq D_X10_saved 36 rfl) rfl ⟨rfl, rfl⟩
theorem w_X10_saved_0 {sa : Env3} {a0 : Nat} {a1 : Int32} {a2 : Int32} {σ : St} {r : Int32 × St} (h : f_X10_saved_0 a0 a1 a2 σ = some r) : VV sa cX10_saved K_X10_saved 0 [(0, .ref a0), (1, .int a1), (2, .int a2)] [] σ (pO r) 0 0 := by
  unfold f_X10_saved_0 at h
  refine v_aload_n (dq D_X10_saved 0 rfl) 0 rfl ?_
  refine v_iconst (dq D_X10_saved 1 rfl) kc_0 ?_
  obtain ⟨σ1, hσ1, h⟩ := obi h
  refine v_pI (dq D_X10_saved 2 rfl) fp_RX10_36 hσ1 ?_
  refine v_aload_n (dq D_X10_saved 3 rfl) 0 rfl ?_
  refine v_iload_n (dq D_X10_saved 4 rfl) 1 rfl ?_
  obtain ⟨q2, hq2, h⟩ := obi h
  refine v_cVi (bc := 0) (bs := 0) (As := [.int a1]) (dq D_X10_saved 5 rfl) cv_X10_isEntry ml_RX10_378 (itg hq2).1 (m_X10_isEntry hq2) rfl rfl (Nat.le_of_ble_eq_true rfl) ⟨Nat.le_of_ble_eq_true rfl, Nat.le_of_ble_eq_true rfl⟩ ⟨Nat.le_of_ble_eq_true rfl, Nat.le_of_ble_eq_true rfl⟩ ?_
  refine v_if_eq (dq D_X10_saved 6 rfl) rfl (fun c3 => ?_) (fun c3 => ?_)
  · have h := itp h c3
    exact v_sub [0] rfl (w_X10_saved_21 h)
  · have h := itn h c3
    refine v_aload_n (dq D_X10_saved 7 rfl) 0 rfl ?_
    refine v_iload_n (dq D_X10_saved 8 rfl) 2 rfl ?_
    obtain ⟨q4, hq4, h⟩ := obi h
    refine v_cVi (bc := 0) (bs := 0) (As := [.int a2]) (dq D_X10_saved 9 rfl) cv_X10_isRegister ml_RX10_363 (itg hq4).1 (m_X10_isRegister hq4) rfl rfl (Nat.le_of_ble_eq_true rfl) ⟨Nat.le_of_ble_eq_true rfl, Nat.le_of_ble_eq_true rfl⟩ ⟨Nat.le_of_ble_eq_true rfl, Nat.le_of_ble_eq_true rfl⟩ ?_
    refine v_if_ne (dq D_X10_saved 10 rfl) rfl (fun c5 => ?_) (fun c5 => ?_)
    · have h := itn h c5
      refine v_aload_n (dq D_X10_saved 15 rfl) 0 rfl ?_
      obtain ⟨σ6, hσ6, h⟩ := obi h
      refine v_cVv (bc := 0) (bs := 0) (As := []) (dq D_X10_saved 16 rfl) cv_X10_works ml_RX10_366 (itg hσ6).1 (m_X10_works hσ6) rfl rfl (Nat.le_of_ble_eq_true rfl) ⟨Nat.le_of_ble_eq_true rfl, Nat.le_of_ble_eq_true rfl⟩ ⟨Nat.le_of_ble_eq_true rfl, Nat.le_of_ble_eq_true rfl⟩ ?_
      refine v_aload_n (dq D_X10_saved 17 rfl) 0 rfl ?_
      refine v_aload_n (dq D_X10_saved 18 rfl) 0 rfl ?_
      refine v_iload_n (dq D_X10_saved 19 rfl) 1 rfl ?_
      refine v_bipush (dq D_X10_saved 20 rfl) kb_8 ?_
      obtain ⟨q7, hq7, h⟩ := obi h
      refine v_cVi (bc := 0) (bs := 0) (As := [.int a1, .int 8]) (dq D_X10_saved 21 rfl) cv_X10_has ml_RX10_322 (itg hq7).1 (m_X10_has hq7) rfl rfl (Nat.le_of_ble_eq_true rfl) ⟨Nat.le_of_ble_eq_true rfl, Nat.le_of_ble_eq_true rfl⟩ ⟨Nat.le_of_ble_eq_true rfl, Nat.le_of_ble_eq_true rfl⟩ ?_
      refine v_if_eq (dq D_X10_saved 22 rfl) rfl (fun c8 => ?_) (fun c8 => ?_)
      · have h := itp h c8
        refine v_bipush (dq D_X10_saved 34 rfl) kb_m2 ?_
        exact v_sub [] rfl (w_X10_saved_61 h)
      · have h := itn h c8
        refine v_aload_n (dq D_X10_saved 23 rfl) 0 rfl ?_
        obtain ⟨x9, hx9, h⟩ := obi h
        refine v_gR (dq D_X10_saved 24 rfl) fa_RX10_24 hx9 ?_
        refine v_aload_n (dq D_X10_saved 25 rfl) 0 rfl ?_
        refine v_iload_n (dq D_X10_saved 26 rfl) 1 rfl ?_
        obtain ⟨q10, hq10, h⟩ := obi h
        refine v_cVi (bc := 0) (bs := 0) (As := [.int a1]) (dq D_X10_saved 27 rfl) cv_X10_at ml_RX10_316 (itg hq10).1 (m_X10_at hq10) rfl rfl (Nat.le_of_ble_eq_true rfl) ⟨Nat.le_of_ble_eq_true rfl, Nat.le_of_ble_eq_true rfl⟩ ⟨Nat.le_of_ble_eq_true rfl, Nat.le_of_ble_eq_true rfl⟩ ?_
        refine v_iconst (dq D_X10_saved 28 rfl) kc_5 ?_
        refine v_iadd (dq D_X10_saved 29 rfl) ?_
        refine v_iload_n (dq D_X10_saved 30 rfl) 2 rfl ?_
        refine v_iadd (dq D_X10_saved 31 rfl) ?_
        obtain ⟨x11, hx11, h⟩ := obi h
        refine v_iald (dq D_X10_saved 32 rfl) hx11 ?_
        refine v_goto (dq D_X10_saved 33 rfl) rfl ?_
        exact v_sub [] rfl (w_X10_saved_61 h)
    · have h := itp h c5
      exact v_sub [0] rfl (w_X10_saved_21 h)
theorem m_X10_saved {sa : Env3} {a0 : Nat} {a1 : Int32} {a2 : Int32} {σ : St} {r : Int32 × St} (h : f_X10_saved a0 a1 a2 σ = some r) : Ex sa yX10_saved cX10_saved K_X10_saved [.ref a0, .int a1, .int a2] σ (pO r) := Ex.of (by decide) rfl (fun q => nomatch q) (Nat.le_of_ble_eq_true rfl) (w_X10_saved_0 (itg h).2)
theorem w_X10_savesThere_0 {sa : Env3} {a0 : Nat} {σ : St} {r : Int32 × St} (h : f_X10_savesThere_0 a0 σ = some r) : VV sa cX10_savesThere K_X10_savesThere 0 [(0, .ref a0)] [] σ (pO r) 0 0 := by
  unfold f_X10_savesThere_0 at h
  refine v_aload_n (dq D_X10_savesThere 0 rfl) 0 rfl ?_
  obtain ⟨σ1, hσ1, h⟩ := obi h
  refine v_cVv (bc := 0) (bs := 0) (As := []) (dq D_X10_savesThere 1 rfl) cv_X10_works ml_RX10_366 (itg hσ1).1 (m_X10_works hσ1) rfl rfl (Nat.le_of_ble_eq_true rfl) ⟨Nat.le_of_ble_eq_true rfl, Nat.le_of_ble_eq_true rfl⟩ ⟨Nat.le_of_ble_eq_true rfl, Nat.le_of_ble_eq_true rfl⟩ ?_
  refine v_aload_n (dq D_X10_savesThere 2 rfl) 0 rfl ?_
  obtain ⟨q2, hq2, h⟩ := obi h
  refine v_cVi (bc := 0) (bs := 0) (As := []) (dq D_X10_savesThere 3 rfl) cv_X10_savesNow ml_RX10_354 (itg hq2).1 (m_X10_savesNow hq2) rfl rfl (Nat.le_of_ble_eq_true rfl) ⟨Nat.le_of_ble_eq_true rfl, Nat.le_of_ble_eq_true rfl⟩ ⟨Nat.le_of_ble_eq_true rfl, Nat.le_of_ble_eq_true rfl⟩ ?_
  obtain rfl := Option.some.inj h
  exact v_iret (dq D_X10_savesThere 4 rfl) rfl ⟨rfl, rfl⟩
theorem m_X10_savesThere {sa : Env3} {a0 : Nat} {σ : St} {r : Int32 × St} (h : f_X10_savesThere a0 σ = some r) : Ex sa yX10_savesThere cX10_savesThere K_X10_savesThere [.ref a0] σ (pO r) := Ex.of (by decide) rfl (fun q => nomatch q) (Nat.le_of_ble_eq_true rfl) (w_X10_savesThere_0 (itg h).2)
theorem w_X10_size_147 {sa : Env3} {s0 : Int32} {σ : St} {r : Int32 × St} (h : f_X10_size_147 s0 σ = some r) : VV sa cX10_size K_X10_size 147 [] [.int s0] σ (pO r) 0 0 := by
  unfold f_X10_size_147 at h
  obtain rfl := Option.some.inj h
  exact v_iret (dq D_X10_size 46 rfl) rfl ⟨rfl, rfl⟩
theorem w_X10_size_0 {sa : Env3} {a0 : Nat} {a1 : Int32} {σ : St} {r : Int32 × St} (h : f_X10_size_0 a0 a1 σ = some r) : VV sa cX10_size K_X10_size 0 [(0, .ref a0), (1, .int a1)] [] σ (pO r) 0 0 := by
  unfold f_X10_size_0 at h
  refine v_aload_n (dq D_X10_size 0 rfl) 0 rfl ?_
  refine v_iconst (dq D_X10_size 1 rfl) kc_0 ?_
  obtain ⟨σ1, hσ1, h⟩ := obi h
  refine v_pI (dq D_X10_size 2 rfl) fp_RX10_36 hσ1 ?_
  refine v_iload_n (dq D_X10_size 3 rfl) 1 rfl ?_
  refine v_bipush (dq D_X10_size 4 rfl) kb_13 ?_
  refine v_icmp_ne (dq D_X10_size 5 rfl) rfl (fun c2 => ?_) (fun c2 => ?_)
  · have h := itn h c2
    refine v_iload_n (dq D_X10_size 9 rfl) 1 rfl ?_
    refine v_iconst (dq D_X10_size 10 rfl) kc_0 ?_
    refine v_bipush (dq D_X10_size 11 rfl) kb_12 ?_
    obtain ⟨q3, hq3, h⟩ := obi h
    refine v_cSi (bc := 0) (bs := 0) (As := [.int a1, .int 0, .int 12]) (dq D_X10_size 12 rfl) cs_X10_in ml_RX10_115 (m_X10_in hq3) rfl rfl (Nat.le_of_ble_eq_true rfl) ⟨Nat.le_of_ble_eq_true rfl, Nat.le_of_ble_eq_true rfl⟩ ⟨Nat.le_of_ble_eq_true rfl, Nat.le_of_ble_eq_true rfl⟩ ?_
    refine v_if_ne (dq D_X10_size 13 rfl) rfl (fun c4 => ?_) (fun c4 => ?_)
    · have h := itn h c4
      refine v_aload_n (dq D_X10_size 16 rfl) 0 rfl ?_
      obtain ⟨x5, hx5, h⟩ := obi h
      refine v_gQ (dq D_X10_size 17 rfl) fa_RX10_266 hx5 ?_
      rcases oc_inv h with ⟨rfl, h⟩ | ⟨b6, rfl, h⟩
      · refine v_ifnonnullN (dq D_X10_size 18 rfl) ?_
        refine v_iconst (dq D_X10_size 19 rfl) kc_0 ?_
        obtain rfl := Option.some.inj h
        exact v_iret (dq D_X10_size 20 rfl) rfl ⟨rfl, rfl⟩
      · refine v_ifnonnullR (dq D_X10_size 18 rfl) rfl ?_
        refine v_iload_n (dq D_X10_size 21 rfl) 1 rfl ?_
        by_cases c7 : a1 = 0
        · have h := itp h c7
          refine v_tblAt (v := 0) (dq D_X10_size 22 rfl) c7 (by decide) (by decide) rfl rfl ?_
          refine v_aload_n (dq D_X10_size 23 rfl) 0 rfl ?_
          obtain ⟨x19, hx19, h⟩ := obi h
          refine v_gR (dq D_X10_size 24 rfl) fa_RX10_266 hx19 ?_
          obtain ⟨x20, hx20, h⟩ := obi h
          refine v_gI (dq D_X10_size 25 rfl) fa_RX10_134 hx20 ?_
          obtain rfl := Option.some.inj h
          exact v_iret (dq D_X10_size 26 rfl) rfl ⟨rfl, rfl⟩
        · have h := itn h c7
          by_cases c8 : a1 = 1
          · have h := itp h c8
            refine v_tblAt (v := 1) (dq D_X10_size 22 rfl) c8 (by decide) (by decide) rfl rfl ?_
            refine v_aload_n (dq D_X10_size 27 rfl) 0 rfl ?_
            obtain ⟨x21, hx21, h⟩ := obi h
            refine v_gR (dq D_X10_size 28 rfl) fa_RX10_266 hx21 ?_
            obtain ⟨x22, hx22, h⟩ := obi h
            refine v_gI (dq D_X10_size 29 rfl) fa_RX10_197 hx22 ?_
            obtain rfl := Option.some.inj h
            exact v_iret (dq D_X10_size 30 rfl) rfl ⟨rfl, rfl⟩
          · have h := itn h c8
            by_cases c9 : a1 = 2
            · have h := itp h c9
              refine v_tblAt (v := 2) (dq D_X10_size 22 rfl) c9 (by decide) (by decide) rfl rfl ?_
              refine v_aload_n (dq D_X10_size 31 rfl) 0 rfl ?_
              obtain ⟨x23, hx23, h⟩ := obi h
              refine v_gR (dq D_X10_size 32 rfl) fa_RX10_266 hx23 ?_
              obtain ⟨x24, hx24, h⟩ := obi h
              refine v_gI (dq D_X10_size 33 rfl) fa_RX10_199 hx24 ?_
              obtain rfl := Option.some.inj h
              exact v_iret (dq D_X10_size 34 rfl) rfl ⟨rfl, rfl⟩
            · have h := itn h c9
              by_cases c10 : a1 = 3
              · have h := itp h c10
                refine v_tblAt (v := 3) (dq D_X10_size 22 rfl) c10 (by decide) (by decide) rfl rfl ?_
                refine v_aload_n (dq D_X10_size 35 rfl) 0 rfl ?_
                obtain ⟨x25, hx25, h⟩ := obi h
                refine v_gR (dq D_X10_size 36 rfl) fa_RX10_266 hx25 ?_
                obtain ⟨x26, hx26, h⟩ := obi h
                refine v_gI (dq D_X10_size 37 rfl) fa_RX10_201 hx26 ?_
                obtain rfl := Option.some.inj h
                exact v_iret (dq D_X10_size 38 rfl) rfl ⟨rfl, rfl⟩
              · have h := itn h c10
                by_cases c11 : a1 = 4
                · have h := itp h c11
                  refine v_tblAt (v := 4) (dq D_X10_size 22 rfl) c11 (by decide) (by decide) rfl rfl ?_
                  refine v_aload_n (dq D_X10_size 39 rfl) 0 rfl ?_
                  obtain ⟨x27, hx27, h⟩ := obi h
                  refine v_gR (dq D_X10_size 40 rfl) fa_RX10_266 hx27 ?_
                  obtain ⟨x28, hx28, h⟩ := obi h
                  refine v_gI (dq D_X10_size 41 rfl) fa_RX10_203 hx28 ?_
                  refine v_if_eq (dq D_X10_size 42 rfl) rfl (fun c29 => ?_) (fun c29 => ?_)
                  · have h := itp h c29
                    refine v_iconst (dq D_X10_size 45 rfl) kc_0 ?_
                    exact v_sub [] rfl (w_X10_size_147 h)
                  · have h := itn h c29
                    refine v_iconst (dq D_X10_size 43 rfl) kc_1 ?_
                    refine v_goto (dq D_X10_size 44 rfl) rfl ?_
                    exact v_sub [] rfl (w_X10_size_147 h)
                · have h := itn h c11
                  by_cases c12 : a1 = 5
                  · have h := itp h c12
                    refine v_tblAt (v := 5) (dq D_X10_size 22 rfl) c12 (by decide) (by decide) rfl rfl ?_
                    refine v_aload_n (dq D_X10_size 47 rfl) 0 rfl ?_
                    obtain ⟨x30, hx30, h⟩ := obi h
                    refine v_gR (dq D_X10_size 48 rfl) fa_RX10_266 hx30 ?_
                    obtain ⟨x31, hx31, h⟩ := obi h
                    refine v_gI (dq D_X10_size 49 rfl) fa_RX10_146 hx31 ?_
                    obtain rfl := Option.some.inj h
                    exact v_iret (dq D_X10_size 50 rfl) rfl ⟨rfl, rfl⟩
                  · have h := itn h c12
                    by_cases c13 : a1 = 6
                    · have h := itp h c13
                      refine v_tblAt (v := 6) (dq D_X10_size 22 rfl) c13 (by decide) (by decide) rfl rfl ?_
                      refine v_aload_n (dq D_X10_size 51 rfl) 0 rfl ?_
                      obtain ⟨x32, hx32, h⟩ := obi h
                      refine v_gR (dq D_X10_size 52 rfl) fa_RX10_266 hx32 ?_
                      obtain ⟨x33, hx33, h⟩ := obi h
                      refine v_gI (dq D_X10_size 53 rfl) fa_RX10_234 hx33 ?_
                      obtain rfl := Option.some.inj h
                      exact v_iret (dq D_X10_size 54 rfl) rfl ⟨rfl, rfl⟩
                    · have h := itn h c13
                      by_cases c14 : a1 = 7
                      · have h := itp h c14
                        refine v_tblAt (v := 7) (dq D_X10_size 22 rfl) c14 (by decide) (by decide) rfl rfl ?_
                        refine v_aload_n (dq D_X10_size 55 rfl) 0 rfl ?_
                        obtain ⟨x34, hx34, h⟩ := obi h
                        refine v_gR (dq D_X10_size 56 rfl) fa_RX10_266 hx34 ?_
                        obtain ⟨x35, hx35, h⟩ := obi h
                        refine v_gI (dq D_X10_size 57 rfl) fa_RX10_248 hx35 ?_
                        obtain rfl := Option.some.inj h
                        exact v_iret (dq D_X10_size 58 rfl) rfl ⟨rfl, rfl⟩
                      · have h := itn h c14
                        by_cases c15 : a1 = 8
                        · have h := itp h c15
                          refine v_tblAt (v := 8) (dq D_X10_size 22 rfl) c15 (by decide) (by decide) rfl rfl ?_
                          refine v_aload_n (dq D_X10_size 59 rfl) 0 rfl ?_
                          obtain ⟨x36, hx36, h⟩ := obi h
                          refine v_gR (dq D_X10_size 60 rfl) fa_RX10_21 hx36 ?_
                          refine v_bipush (dq D_X10_size 61 rfl) kb_37 ?_
                          obtain ⟨x37, hx37, h⟩ := obi h
                          refine v_iald (dq D_X10_size 62 rfl) hx37 ?_
                          obtain rfl := Option.some.inj h
                          exact v_iret (dq D_X10_size 63 rfl) rfl ⟨rfl, rfl⟩
                        · have h := itn h c15
                          by_cases c16 : a1 = 9
                          · have h := itp h c16
                            refine v_tblAt (v := 9) (dq D_X10_size 22 rfl) c16 (by decide) (by decide) rfl rfl ?_
                            refine v_aload_n (dq D_X10_size 64 rfl) 0 rfl ?_
                            obtain ⟨q38, hq38, h⟩ := obi h
                            refine v_cVi (bc := 0) (bs := 0) (As := []) (dq D_X10_size 65 rfl) cv_X10_savesThere ml_RX10_480 (itg hq38).1 (m_X10_savesThere hq38) rfl rfl (Nat.le_of_ble_eq_true rfl) ⟨Nat.le_of_ble_eq_true rfl, Nat.le_of_ble_eq_true rfl⟩ ⟨Nat.le_of_ble_eq_true rfl, Nat.le_of_ble_eq_true rfl⟩ ?_
                            obtain rfl := Option.some.inj h
                            exact v_iret (dq D_X10_size 66 rfl) rfl ⟨rfl, rfl⟩
                          · have h := itn h c16
                            by_cases c17 : a1 = 10
                            · have h := itp h c17
                              refine v_tblAt (v := 10) (dq D_X10_size 22 rfl) c17 (by decide) (by decide) rfl rfl ?_
                              refine v_aload_n (dq D_X10_size 67 rfl) 0 rfl ?_
                              obtain ⟨x39, hx39, h⟩ := obi h
                              refine v_gR (dq D_X10_size 68 rfl) fa_RX10_21 hx39 ?_
                              refine v_bipush (dq D_X10_size 69 rfl) kb_36 ?_
                              obtain ⟨x40, hx40, h⟩ := obi h
                              refine v_iald (dq D_X10_size 70 rfl) hx40 ?_
                              obtain rfl := Option.some.inj h
                              exact v_iret (dq D_X10_size 71 rfl) rfl ⟨rfl, rfl⟩
                            · have h := itn h c17
                              by_cases c18 : a1 = 11
                              · have h := itp h c18
                                refine v_tblAt (v := 11) (dq D_X10_size 22 rfl) c18 (by decide) (by decide) rfl rfl ?_
                                refine v_aload_n (dq D_X10_size 72 rfl) 0 rfl ?_
                                obtain ⟨x41, hx41, h⟩ := obi h
                                refine v_gI (dq D_X10_size 73 rfl) fa_RX10_274 hx41 ?_
                                obtain rfl := Option.some.inj h
                                exact v_iret (dq D_X10_size 74 rfl) rfl ⟨rfl, rfl⟩
                              · have h := itn h c18
                                refine v_tblOut (dq D_X10_size 22 rfl) (by have g0 : (a1).toInt ≠ 0 := i32_ne c7; have g1 : (a1).toInt ≠ 1 := i32_ne c8; have g2 : (a1).toInt ≠ 2 := i32_ne c9; have g3 : (a1).toInt ≠ 3 := i32_ne c10; have g4 : (a1).toInt ≠ 4 := i32_ne c11; have g5 : (a1).toInt ≠ 5 := i32_ne c12; have g6 : (a1).toInt ≠ 6 := i32_ne c13; have g7 : (a1).toInt ≠ 7 := i32_ne c14; have g8 : (a1).toInt ≠ 8 := i32_ne c15; have g9 : (a1).toInt ≠ 9 := i32_ne c16; have g10 : (a1).toInt ≠ 10 := i32_ne c17; have g11 : (a1).toInt ≠ 11 := i32_ne c18; omega) rfl ?_
                                refine v_aload_n (dq D_X10_size 75 rfl) 0 rfl ?_
                                obtain ⟨x42, hx42, h⟩ := obi h
                                refine v_gI (dq D_X10_size 76 rfl) fa_RX10_277 hx42 ?_
                                obtain rfl := Option.some.inj h
                                exact v_iret (dq D_X10_size 77 rfl) rfl ⟨rfl, rfl⟩
    · have h := itp h c4
      refine v_iconst (dq D_X10_size 14 rfl) kc_m1 ?_
      obtain rfl := Option.some.inj h
      exact v_iret (dq D_X10_size 15 rfl) rfl ⟨rfl, rfl⟩
  · have h := itp h c2
    refine v_aload_n (dq D_X10_size 6 rfl) 0 rfl ?_
    obtain ⟨x43, hx43, h⟩ := obi h
    refine v_gI (dq D_X10_size 7 rfl) fa_RX10_259 hx43 ?_
    obtain rfl := Option.some.inj h
    exact v_iret (dq D_X10_size 8 rfl) rfl ⟨rfl, rfl⟩
theorem m_X10_size {sa : Env3} {a0 : Nat} {a1 : Int32} {σ : St} {r : Int32 × St} (h : f_X10_size a0 a1 σ = some r) : Ex sa yX10_size cX10_size K_X10_size [.ref a0, .int a1] σ (pO r) := Ex.of (by decide) rfl (fun q => nomatch q) (Nat.le_of_ble_eq_true rfl) (w_X10_size_0 (itg h).2)
theorem w_X10_surely_0 {sa : Env3} {a0 : Nat} {σ : St} {r : Int32 × St} (h : f_X10_surely_0 a0 σ = some r) : VV sa cX10_surely K_X10_surely 0 [(0, .ref a0)] [] σ (pO r) 0 0 := by
  unfold f_X10_surely_0 at h
  refine v_aload_n (dq D_X10_surely 0 rfl) 0 rfl ?_
  refine v_iconst (dq D_X10_surely 1 rfl) kc_0 ?_
  obtain ⟨σ1, hσ1, h⟩ := obi h
  refine v_pI (dq D_X10_surely 2 rfl) fp_RX10_36 hσ1 ?_
  refine v_aload_n (dq D_X10_surely 3 rfl) 0 rfl ?_
  obtain ⟨x2, hx2, h⟩ := obi h
  refine v_gQ (dq D_X10_surely 4 rfl) fa_RX10_266 hx2 ?_
  rcases oc_inv h with ⟨rfl, h⟩ | ⟨b3, rfl, h⟩
  · refine v_ifnonnullN (dq D_X10_surely 5 rfl) ?_
    refine v_aload_n (dq D_X10_surely 6 rfl) 0 rfl ?_
    refine v_iconst (dq D_X10_surely 7 rfl) kc_1 ?_
    obtain ⟨q4, hq4, h⟩ := obi h
    refine v_cVi (bc := 0) (bs := 0) (As := [.int 1]) (dq D_X10_surely 8 rfl) cv_X10_refused ml_RX10_42 (itg hq4).1 (m_X10_refused hq4) rfl rfl (Nat.le_of_ble_eq_true rfl) ⟨Nat.le_of_ble_eq_true rfl, Nat.le_of_ble_eq_true rfl⟩ ⟨Nat.le_of_ble_eq_true rfl, Nat.le_of_ble_eq_true rfl⟩ ?_
    obtain rfl := Option.some.inj h
    exact v_iret (dq D_X10_surely 9 rfl) rfl ⟨rfl, rfl⟩
  · refine v_ifnonnullR (dq D_X10_surely 5 rfl) rfl ?_
    refine v_aload_n (dq D_X10_surely 10 rfl) 0 rfl ?_
    refine v_iconst (dq D_X10_surely 11 rfl) kc_m1 ?_
    obtain ⟨q5, hq5, h⟩ := obi h
    refine v_cVi (bc := 0) (bs := 0) (As := [.int (-1)]) (dq D_X10_surely 12 rfl) cv_X10_fitting ml_RX10_436 (itg hq5).1 (m_X10_fitting hq5) rfl rfl (Nat.le_of_ble_eq_true rfl) ⟨Nat.le_of_ble_eq_true rfl, Nat.le_of_ble_eq_true rfl⟩ ⟨Nat.le_of_ble_eq_true rfl, Nat.le_of_ble_eq_true rfl⟩ ?_
    refine v_pop (dq D_X10_surely 13 rfl) rfl ?_
    refine v_aload_n (dq D_X10_surely 14 rfl) 0 rfl ?_
    refine v_aload_n (dq D_X10_surely 15 rfl) 0 rfl ?_
    obtain ⟨x6, hx6, h⟩ := obi h
    refine v_gI (dq D_X10_surely 16 rfl) fa_RX10_430 hx6 ?_
    obtain ⟨q7, hq7, h⟩ := obi h
    refine v_cVi (bc := 0) (bs := 0) (As := [.int x6]) (dq D_X10_surely 17 rfl) cv_X10_good ml_RX10_46 (itg hq7).1 (m_X10_good hq7) rfl rfl (Nat.le_of_ble_eq_true rfl) ⟨Nat.le_of_ble_eq_true rfl, Nat.le_of_ble_eq_true rfl⟩ ⟨Nat.le_of_ble_eq_true rfl, Nat.le_of_ble_eq_true rfl⟩ ?_
    obtain rfl := Option.some.inj h
    exact v_iret (dq D_X10_surely 18 rfl) rfl ⟨rfl, rfl⟩
theorem m_X10_surely {sa : Env3} {a0 : Nat} {σ : St} {r : Int32 × St} (h : f_X10_surely a0 σ = some r) : Ex sa yX10_surely cX10_surely K_X10_surely [.ref a0] σ (pO r) := Ex.of (by decide) rfl (fun q => nomatch q) (Nat.le_of_ble_eq_true rfl) (w_X10_surely_0 (itg h).2)
theorem w_X10_thrown_0 {sa : Env3} {a0 : Nat} {σ : St} {r : Int32 × St} (h : f_X10_thrown_0 a0 σ = some r) : VV sa cX10_thrown K_X10_thrown 0 [(0, .ref a0)] [] σ (pO r) 0 0 := by
  unfold f_X10_thrown_0 at h
  refine v_aload_n (dq D_X10_thrown 0 rfl) 0 rfl ?_
  obtain ⟨x1, hx1, h⟩ := obi h
  refine v_gI (dq D_X10_thrown 1 rfl) fa_RX10_36 hx1 ?_
  obtain rfl := Option.some.inj h
  exact v_iret (dq D_X10_thrown 2 rfl) rfl ⟨rfl, rfl⟩
theorem m_X10_thrown {sa : Env3} {a0 : Nat} {σ : St} {r : Int32 × St} (h : f_X10_thrown a0 σ = some r) : Ex sa yX10_thrown cX10_thrown K_X10_thrown [.ref a0] σ (pO r) := Ex.of (by decide) rfl (fun q => nomatch q) (Nat.le_of_ble_eq_true rfl) (w_X10_thrown_0 (itg h).2)
theorem w_X10_trouble_0 {sa : Env3} {a0 : Nat} {σ : St} {r : Int32 × St} (h : f_X10_trouble_0 a0 σ = some r) : VV sa cX10_trouble K_X10_trouble 0 [(0, .ref a0)] [] σ (pO r) 0 0 := by
  unfold f_X10_trouble_0 at h
  refine v_aload_n (dq D_X10_trouble 0 rfl) 0 rfl ?_
  refine v_iconst (dq D_X10_trouble 1 rfl) kc_0 ?_
  obtain ⟨σ1, hσ1, h⟩ := obi h
  refine v_pI (dq D_X10_trouble 2 rfl) fp_RX10_36 hσ1 ?_
  refine v_aload_n (dq D_X10_trouble 3 rfl) 0 rfl ?_
  obtain ⟨x2, hx2, h⟩ := obi h
  refine v_gI (dq D_X10_trouble 4 rfl) fa_RX10_39 hx2 ?_
  obtain rfl := Option.some.inj h
  exact v_iret (dq D_X10_trouble 5 rfl) rfl ⟨rfl, rfl⟩
theorem m_X10_trouble {sa : Env3} {a0 : Nat} {σ : St} {r : Int32 × St} (h : f_X10_trouble a0 σ = some r) : Ex sa yX10_trouble cX10_trouble K_X10_trouble [.ref a0] σ (pO r) := Ex.of (by decide) rfl (fun q => nomatch q) (Nat.le_of_ble_eq_true rfl) (w_X10_trouble_0 (itg h).2)
theorem w_X10_undo_19 {sa : Env3} {a0 : Nat} {σ : St} {r : Int32 × St} (h : f_X10_undo_19 a0 σ = some r) : VV sa cX10_undo K_X10_undo 19 [(0, .ref a0)] [] σ (pO r) 0 0 := by
  unfold f_X10_undo_19 at h
  refine v_aload_n (dq D_X10_undo 9 rfl) 0 rfl ?_
  refine v_bipush (dq D_X10_undo 10 rfl) kb_6 ?_
  obtain ⟨q1, hq1, h⟩ := obi h
  refine v_cVi (bc := 0) (bs := 0) (As := [.int 6]) (dq D_X10_undo 11 rfl) cv_X10_denied ml_RX10_474 (itg hq1).1 (m_X10_denied hq1) rfl rfl (Nat.le_of_ble_eq_true rfl) ⟨Nat.le_of_ble_eq_true rfl, Nat.le_of_ble_eq_true rfl⟩ ⟨Nat.le_of_ble_eq_true rfl, Nat.le_of_ble_eq_true rfl⟩ ?_
  have hz := (itg h).1
  have h := (itg h).2
  obtain rfl := Option.some.inj h
  exact v_zret (dq D_X10_undo 12 rfl) rfl (z_nar hz) ⟨rfl, rfl⟩
theorem w_X10_undo_38 {sa : Env3} : ∀ (n : Nat) {a0 : Nat} {a1 : Int32} {σ : St} {r : Int32 × St}, f_X10_undo_38 n a0 a1 σ = some r → VV sa cX10_undo K_X10_undo 38 [(0, .ref a0), (1, .int a1)] [] σ (pO r) 0 0 := by
  intro n
  induction n with
  | zero => intro a0 a1 σ r h; cases h
  | succ n ih =>
    intro a0 a1 σ r h
    rw [e_X10_undo_38] at h
    refine v_iload_n (dq D_X10_undo 21 rfl) 1 rfl ?_
    refine v_sipush (dq D_X10_undo 22 rfl) ks_195 ?_
    refine v_icmp_ge (dq D_X10_undo 23 rfl) rfl (fun c1 => ?_) (fun c1 => ?_)
    · have h := itp h c1
      refine v_aload_n (dq D_X10_undo 39 rfl) 0 rfl ?_
      obtain ⟨q2, hq2, h⟩ := obi h
      refine v_cVi (bc := 0) (bs := 0) (As := []) (dq D_X10_undo 40 rfl) cv_X10_granted ml_RX10_477 (itg hq2).1 (m_X10_granted hq2) rfl rfl (Nat.le_of_ble_eq_true rfl) ⟨Nat.le_of_ble_eq_true rfl, Nat.le_of_ble_eq_true rfl⟩ ⟨Nat.le_of_ble_eq_true rfl, Nat.le_of_ble_eq_true rfl⟩ ?_
      have hz := (itg h).1
      have h := (itg h).2
      obtain rfl := Option.some.inj h
      exact v_zret (dq D_X10_undo 41 rfl) rfl (z_nar hz) ⟨rfl, rfl⟩
    · have h := itn h c1
      refine v_aload_n (dq D_X10_undo 24 rfl) 0 rfl ?_
      obtain ⟨x3, hx3, h⟩ := obi h
      refine v_gR (dq D_X10_undo 25 rfl) fa_RX10_21 hx3 ?_
      refine v_iload_n (dq D_X10_undo 26 rfl) 1 rfl ?_
      refine v_aload_n (dq D_X10_undo 27 rfl) 0 rfl ?_
      obtain ⟨x4, hx4, h⟩ := obi h
      refine v_gR (dq D_X10_undo 28 rfl) fa_RX10_27 hx4 ?_
      refine v_sipush (dq D_X10_undo 29 rfl) ks_195 ?_
      refine v_aload_n (dq D_X10_undo 30 rfl) 0 rfl ?_
      obtain ⟨x5, hx5, h⟩ := obi h
      refine v_gI (dq D_X10_undo 31 rfl) fa_RX10_274 hx5 ?_
      refine v_imul (dq D_X10_undo 32 rfl) ?_
      refine v_iload_n (dq D_X10_undo 33 rfl) 1 rfl ?_
      refine v_iadd (dq D_X10_undo 34 rfl) ?_
      obtain ⟨x6, hx6, h⟩ := obi h
      refine v_iald (dq D_X10_undo 35 rfl) hx6 ?_
      obtain ⟨σ7, hσ7, h⟩ := obi h
      refine v_iast (dq D_X10_undo 36 rfl) hσ7 ?_
      refine v_iinc (dq D_X10_undo 37 rfl) 1 [(1, .int (a1 + 1)), (0, .ref a0)] rfl kc_1 (Nat.le_of_ble_eq_true rfl) rfl ?_
      refine v_goto (dq D_X10_undo 38 rfl) rfl ?_
      exact v_sub [1, 0] rfl (ih h)
theorem w_X10_undo_0 {sa : Env3} {a0 : Nat} {σ : St} {r : Int32 × St} (h : f_X10_undo_0 a0 σ = some r) : VV sa cX10_undo K_X10_undo 0 [(0, .ref a0)] [] σ (pO r) 0 0 := by
  unfold f_X10_undo_0 at h
  refine v_aload_n (dq D_X10_undo 0 rfl) 0 rfl ?_
  refine v_iconst (dq D_X10_undo 1 rfl) kc_0 ?_
  obtain ⟨σ1, hσ1, h⟩ := obi h
  refine v_pI (dq D_X10_undo 2 rfl) fp_RX10_36 hσ1 ?_
  refine v_aload_n (dq D_X10_undo 3 rfl) 0 rfl ?_
  obtain ⟨x2, hx2, h⟩ := obi h
  refine v_gQ (dq D_X10_undo 4 rfl) fa_RX10_266 hx2 ?_
  rcases oc_inv h with ⟨rfl, h⟩ | ⟨b3, rfl, h⟩
  · refine v_ifnullN (dq D_X10_undo 5 rfl) rfl ?_
    exact w_X10_undo_19 h
  · refine v_ifnullR (dq D_X10_undo 5 rfl) ?_
    refine v_aload_n (dq D_X10_undo 6 rfl) 0 rfl ?_
    obtain ⟨x4, hx4, h⟩ := obi h
    refine v_gI (dq D_X10_undo 7 rfl) fa_RX10_274 hx4 ?_
    refine v_if_ne (dq D_X10_undo 8 rfl) rfl (fun c5 => ?_) (fun c5 => ?_)
    · have h := itn h c5
      refine v_aload_n (dq D_X10_undo 13 rfl) 0 rfl ?_
      refine v_dup (dq D_X10_undo 14 rfl) rfl ?_
      obtain ⟨x6, hx6, h⟩ := obi h
      refine v_gI (dq D_X10_undo 15 rfl) fa_RX10_274 hx6 ?_
      refine v_iconst (dq D_X10_undo 16 rfl) kc_1 ?_
      refine v_isub (dq D_X10_undo 17 rfl) ?_
      obtain ⟨σ7, hσ7, h⟩ := obi h
      refine v_pI (dq D_X10_undo 18 rfl) fp_RX10_274 hσ7 ?_
      refine v_iconst (dq D_X10_undo 19 rfl) kc_0 ?_
      refine v_istore_n (dq D_X10_undo 20 rfl) [(1, .int 0), (0, .ref a0)] rfl (Nat.le_of_ble_eq_true rfl) rfl ?_
      exact v_sub [1, 0] rfl (w_X10_undo_38 _ h)
    · have h := itp h c5
      exact w_X10_undo_19 h
theorem m_X10_undo {sa : Env3} {a0 : Nat} {σ : St} {r : Int32 × St} (h : f_X10_undo a0 σ = some r) : Ex sa yX10_undo cX10_undo K_X10_undo [.ref a0] σ (pO r) := Ex.of (by decide) rfl (fun q => nomatch q) (Nat.le_of_ble_eq_true rfl) (w_X10_undo_0 (itg h).2)
theorem w_X10_value_0 {sa : Env3} {a0 : Nat} {a1 : Int32} {σ : St} {r : Int32 × St} (h : f_X10_value_0 a0 a1 σ = some r) : VV sa cX10_value K_X10_value 0 [(0, .ref a0), (1, .int a1)] [] σ (pO r) 0 0 := by
  unfold f_X10_value_0 at h
  refine v_aload_n (dq D_X10_value 0 rfl) 0 rfl ?_
  refine v_iconst (dq D_X10_value 1 rfl) kc_0 ?_
  obtain ⟨σ1, hσ1, h⟩ := obi h
  refine v_pI (dq D_X10_value 2 rfl) fp_RX10_36 hσ1 ?_
  refine v_aload_n (dq D_X10_value 3 rfl) 0 rfl ?_
  refine v_iload_n (dq D_X10_value 4 rfl) 1 rfl ?_
  obtain ⟨q2, hq2, h⟩ := obi h
  refine v_cVi (bc := 0) (bs := 0) (As := [.int a1]) (dq D_X10_value 5 rfl) cv_X10_isRegister ml_RX10_363 (itg hq2).1 (m_X10_isRegister hq2) rfl rfl (Nat.le_of_ble_eq_true rfl) ⟨Nat.le_of_ble_eq_true rfl, Nat.le_of_ble_eq_true rfl⟩ ⟨Nat.le_of_ble_eq_true rfl, Nat.le_of_ble_eq_true rfl⟩ ?_
  refine v_if_ne (dq D_X10_value 6 rfl) rfl (fun c3 => ?_) (fun c3 => ?_)
  · have h := itn h c3
    refine v_aload_n (dq D_X10_value 11 rfl) 0 rfl ?_
    obtain ⟨σ4, hσ4, h⟩ := obi h
    refine v_cVv (bc := 0) (bs := 0) (As := []) (dq D_X10_value 12 rfl) cv_X10_works ml_RX10_366 (itg hσ4).1 (m_X10_works hσ4) rfl rfl (Nat.le_of_ble_eq_true rfl) ⟨Nat.le_of_ble_eq_true rfl, Nat.le_of_ble_eq_true rfl⟩ ⟨Nat.le_of_ble_eq_true rfl, Nat.le_of_ble_eq_true rfl⟩ ?_
    refine v_aload_n (dq D_X10_value 13 rfl) 0 rfl ?_
    refine v_aload_n (dq D_X10_value 14 rfl) 0 rfl ?_
    refine v_iload_n (dq D_X10_value 15 rfl) 1 rfl ?_
    obtain ⟨q5, hq5, h⟩ := obi h
    refine v_cVi (bc := 0) (bs := 0) (As := [.int a1]) (dq D_X10_value 16 rfl) cv_X10_valueOf ml_RX10_369 (itg hq5).1 (m_X10_valueOf hq5) rfl rfl (Nat.le_of_ble_eq_true rfl) ⟨Nat.le_of_ble_eq_true rfl, Nat.le_of_ble_eq_true rfl⟩ ⟨Nat.le_of_ble_eq_true rfl, Nat.le_of_ble_eq_true rfl⟩ ?_
    obtain ⟨q6, hq6, h⟩ := obi h
    refine v_cVi (bc := 0) (bs := 0) (As := [.int q5.1]) (dq D_X10_value 17 rfl) cv_X10_good ml_RX10_46 (itg hq6).1 (m_X10_good hq6) rfl rfl (Nat.le_of_ble_eq_true rfl) ⟨Nat.le_of_ble_eq_true rfl, Nat.le_of_ble_eq_true rfl⟩ ⟨Nat.le_of_ble_eq_true rfl, Nat.le_of_ble_eq_true rfl⟩ ?_
    obtain rfl := Option.some.inj h
    exact v_iret (dq D_X10_value 18 rfl) rfl ⟨rfl, rfl⟩
  · have h := itp h c3
    refine v_aload_n (dq D_X10_value 7 rfl) 0 rfl ?_
    refine v_iconst (dq D_X10_value 8 rfl) kc_1 ?_
    obtain ⟨q7, hq7, h⟩ := obi h
    refine v_cVi (bc := 0) (bs := 0) (As := [.int 1]) (dq D_X10_value 9 rfl) cv_X10_refused ml_RX10_42 (itg hq7).1 (m_X10_refused hq7) rfl rfl (Nat.le_of_ble_eq_true rfl) ⟨Nat.le_of_ble_eq_true rfl, Nat.le_of_ble_eq_true rfl⟩ ⟨Nat.le_of_ble_eq_true rfl, Nat.le_of_ble_eq_true rfl⟩ ?_
    obtain rfl := Option.some.inj h
    exact v_iret (dq D_X10_value 10 rfl) rfl ⟨rfl, rfl⟩
theorem m_X10_value {sa : Env3} {a0 : Nat} {a1 : Int32} {σ : St} {r : Int32 × St} (h : f_X10_value a0 a1 σ = some r) : Ex sa yX10_value cX10_value K_X10_value [.ref a0, .int a1] σ (pO r) := Ex.of (by decide) rfl (fun q => nomatch q) (Nat.le_of_ble_eq_true rfl) (w_X10_value_0 (itg h).2)
theorem w_X10_walked_21 {sa : Env3} {a0 : Nat} {σ : St} {r : Int32 × St} (h : f_X10_walked_21 a0 σ = some r) : VV sa cX10_walked K_X10_walked 21 [(0, .ref a0)] [] σ (pO r) 0 0 := by
  unfold f_X10_walked_21 at h
  refine v_aload_n (dq D_X10_walked 11 rfl) 0 rfl ?_
  refine v_iconst (dq D_X10_walked 12 rfl) kc_1 ?_
  obtain ⟨q1, hq1, h⟩ := obi h
  refine v_cVi (bc := 0) (bs := 0) (As := [.int 1]) (dq D_X10_walked 13 rfl) cv_X10_refused ml_RX10_42 (itg hq1).1 (m_X10_refused hq1) rfl rfl (Nat.le_of_ble_eq_true rfl) ⟨Nat.le_of_ble_eq_true rfl, Nat.le_of_ble_eq_true rfl⟩ ⟨Nat.le_of_ble_eq_true rfl, Nat.le_of_ble_eq_true rfl⟩ ?_
  obtain rfl := Option.some.inj h
  exact v_iret (dq D_X10_walked 14 rfl) rfl ⟨rfl, rfl⟩
theorem w_X10_walked_0 {sa : Env3} {a0 : Nat} {a1 : Int32} {a2 : Int32} {σ : St} {r : Int32 × St} (h : f_X10_walked_0 a0 a1 a2 σ = some r) : VV sa cX10_walked K_X10_walked 0 [(0, .ref a0), (1, .int a1), (2, .int a2)] [] σ (pO r) 0 0 := by
  unfold f_X10_walked_0 at h
  refine v_aload_n (dq D_X10_walked 0 rfl) 0 rfl ?_
  refine v_iconst (dq D_X10_walked 1 rfl) kc_0 ?_
  obtain ⟨σ1, hσ1, h⟩ := obi h
  refine v_pI (dq D_X10_walked 2 rfl) fp_RX10_36 hσ1 ?_
  refine v_aload_n (dq D_X10_walked 3 rfl) 0 rfl ?_
  refine v_iload_n (dq D_X10_walked 4 rfl) 1 rfl ?_
  obtain ⟨q2, hq2, h⟩ := obi h
  refine v_cVi (bc := 0) (bs := 0) (As := [.int a1]) (dq D_X10_walked 5 rfl) cv_X10_isEntry ml_RX10_378 (itg hq2).1 (m_X10_isEntry hq2) rfl rfl (Nat.le_of_ble_eq_true rfl) ⟨Nat.le_of_ble_eq_true rfl, Nat.le_of_ble_eq_true rfl⟩ ⟨Nat.le_of_ble_eq_true rfl, Nat.le_of_ble_eq_true rfl⟩ ?_
  refine v_if_eq (dq D_X10_walked 6 rfl) rfl (fun c3 => ?_) (fun c3 => ?_)
  · have h := itp h c3
    exact v_sub [0] rfl (w_X10_walked_21 h)
  · have h := itn h c3
    refine v_aload_n (dq D_X10_walked 7 rfl) 0 rfl ?_
    refine v_iload_n (dq D_X10_walked 8 rfl) 2 rfl ?_
    obtain ⟨q4, hq4, h⟩ := obi h
    refine v_cVi (bc := 0) (bs := 0) (As := [.int a2]) (dq D_X10_walked 9 rfl) cv_X10_isRegister ml_RX10_363 (itg hq4).1 (m_X10_isRegister hq4) rfl rfl (Nat.le_of_ble_eq_true rfl) ⟨Nat.le_of_ble_eq_true rfl, Nat.le_of_ble_eq_true rfl⟩ ⟨Nat.le_of_ble_eq_true rfl, Nat.le_of_ble_eq_true rfl⟩ ?_
    refine v_if_ne (dq D_X10_walked 10 rfl) rfl (fun c5 => ?_) (fun c5 => ?_)
    · have h := itn h c5
      refine v_aload_n (dq D_X10_walked 15 rfl) 0 rfl ?_
      obtain ⟨σ6, hσ6, h⟩ := obi h
      refine v_cVv (bc := 0) (bs := 0) (As := []) (dq D_X10_walked 16 rfl) cv_X10_works ml_RX10_366 (itg hσ6).1 (m_X10_works hσ6) rfl rfl (Nat.le_of_ble_eq_true rfl) ⟨Nat.le_of_ble_eq_true rfl, Nat.le_of_ble_eq_true rfl⟩ ⟨Nat.le_of_ble_eq_true rfl, Nat.le_of_ble_eq_true rfl⟩ ?_
      refine v_aload_n (dq D_X10_walked 17 rfl) 0 rfl ?_
      refine v_aload_n (dq D_X10_walked 18 rfl) 0 rfl ?_
      refine v_iload_n (dq D_X10_walked 19 rfl) 2 rfl ?_
      refine v_iload_n (dq D_X10_walked 20 rfl) 1 rfl ?_
      obtain ⟨q7, hq7, h⟩ := obi h
      refine v_cVi (bc := 0) (bs := 0) (As := [.int a2, .int a1]) (dq D_X10_walked 21 rfl) cv_X10_mapOf ml_RX10_345 (itg hq7).1 (m_X10_mapOf hq7) rfl rfl (Nat.le_of_ble_eq_true rfl) ⟨Nat.le_of_ble_eq_true rfl, Nat.le_of_ble_eq_true rfl⟩ ⟨Nat.le_of_ble_eq_true rfl, Nat.le_of_ble_eq_true rfl⟩ ?_
      obtain ⟨q8, hq8, h⟩ := obi h
      refine v_cVi (bc := 0) (bs := 0) (As := [.int q7.1]) (dq D_X10_walked 22 rfl) cv_X10_good ml_RX10_46 (itg hq8).1 (m_X10_good hq8) rfl rfl (Nat.le_of_ble_eq_true rfl) ⟨Nat.le_of_ble_eq_true rfl, Nat.le_of_ble_eq_true rfl⟩ ⟨Nat.le_of_ble_eq_true rfl, Nat.le_of_ble_eq_true rfl⟩ ?_
      obtain rfl := Option.some.inj h
      exact v_iret (dq D_X10_walked 23 rfl) rfl ⟨rfl, rfl⟩
    · have h := itp h c5
      exact v_sub [0] rfl (w_X10_walked_21 h)
theorem m_X10_walked {sa : Env3} {a0 : Nat} {a1 : Int32} {a2 : Int32} {σ : St} {r : Int32 × St} (h : f_X10_walked a0 a1 a2 σ = some r) : Ex sa yX10_walked cX10_walked K_X10_walked [.ref a0, .int a1, .int a2] σ (pO r) := Ex.of (by decide) rfl (fun q => nomatch q) (Nat.le_of_ble_eq_true rfl) (w_X10_walked_0 (itg h).2)
theorem w_X10_where_0 {sa : Env3} {a0 : Nat} {σ : St} {r : Int32 × St} (h : f_X10_where_0 a0 σ = some r) : VV sa cX10_where K_X10_where 0 [(0, .ref a0)] [] σ (pO r) 0 0 := by
  unfold f_X10_where_0 at h
  refine v_aload_n (dq D_X10_where 0 rfl) 0 rfl ?_
  refine v_iconst (dq D_X10_where 1 rfl) kc_0 ?_
  obtain ⟨σ1, hσ1, h⟩ := obi h
  refine v_pI (dq D_X10_where 2 rfl) fp_RX10_36 hσ1 ?_
  refine v_aload_n (dq D_X10_where 3 rfl) 0 rfl ?_
  obtain ⟨x2, hx2, h⟩ := obi h
  refine v_gI (dq D_X10_where 4 rfl) fa_RX10_9 hx2 ?_
  obtain rfl := Option.some.inj h
  exact v_iret (dq D_X10_where 5 rfl) rfl ⟨rfl, rfl⟩
theorem m_X10_where {sa : Env3} {a0 : Nat} {σ : St} {r : Int32 × St} (h : f_X10_where a0 σ = some r) : Ex sa yX10_where cX10_where K_X10_where [.ref a0] σ (pO r) := Ex.of (by decide) rfl (fun q => nomatch q) (Nat.le_of_ble_eq_true rfl) (w_X10_where_0 (itg h).2)
theorem w_X1_fitsBy_17 {sa : Env3} {s0 : Int32} {σ : St} {r : Int32 × St} (h : f_X1_fitsBy_17 s0 σ = some r) : VV sa cX1_fitsBy K_X1_fitsBy 17 [] [.int s0] σ (pO r) 0 0 := by
  unfold f_X1_fitsBy_17 at h
  have hz := (itg h).1
  have h := (itg h).2
  obtain rfl := Option.some.inj h
  exact v_zret (dq D_X1_fitsBy 11 rfl) rfl (z_nar hz) ⟨rfl, rfl⟩
theorem w_X1_fitsBy_0 {sa : Env3} {a0 : Nat} {a1 : Int32} {σ : St} {r : Int32 × St} (h : f_X1_fitsBy_0 a0 a1 σ = some r) : VV sa cX1_fitsBy K_X1_fitsBy 0 [(0, .ref a0), (1, .int a1)] [] σ (pO r) 0 0 := by
  unfold f_X1_fitsBy_0 at h
  refine v_aload_n (dq D_X1_fitsBy 0 rfl) 0 rfl ?_
  obtain ⟨x1, hx1, h⟩ := obi h
  refine v_gI (dq D_X1_fitsBy 1 rfl) fa_RX1_9 hx1 ?_
  refine v_iload_n (dq D_X1_fitsBy 2 rfl) 1 rfl ?_
  refine v_ishr (dq D_X1_fitsBy 3 rfl) ?_
  refine v_iconst (dq D_X1_fitsBy 4 rfl) kc_1 ?_
  refine v_iand (dq D_X1_fitsBy 5 rfl) ?_
  refine v_iconst (dq D_X1_fitsBy 6 rfl) kc_1 ?_
  refine v_icmp_ne (dq D_X1_fitsBy 7 rfl) rfl (fun c2 => ?_) (fun c2 => ?_)
  · have h := itn h c2
    refine v_iconst (dq D_X1_fitsBy 10 rfl) kc_0 ?_
    exact v_sub [] rfl (w_X1_fitsBy_17 h)
  · have h := itp h c2
    refine v_iconst (dq D_X1_fitsBy 8 rfl) kc_1 ?_
    refine v_goto (dq D_X1_fitsBy 9 rfl) rfl ?_
    exact v_sub [] rfl (w_X1_fitsBy_17 h)
theorem m_X1_fitsBy {sa : Env3} {a0 : Nat} {a1 : Int32} {σ : St} {r : Int32 × St} (h : f_X1_fitsBy a0 a1 σ = some r) : Ex sa yX1_fitsBy cX1_fitsBy K_X1_fitsBy [.ref a0, .int a1] σ (pO r) := Ex.of (by decide) rfl (fun q => nomatch q) (Nat.le_of_ble_eq_true rfl) (w_X1_fitsBy_0 (itg h).2)
theorem w_X1_howMany_0 {sa : Env3} {a0 : Nat} {σ : St} {r : Int32 × St} (h : f_X1_howMany_0 a0 σ = some r) : VV sa cX1_howMany K_X1_howMany 0 [(0, .ref a0)] [] σ (pO r) 0 0 := by
  unfold f_X1_howMany_0 at h
  refine v_aload_n (dq D_X1_howMany 0 rfl) 0 rfl ?_
  obtain ⟨x1, hx1, h⟩ := obi h
  refine v_gI (dq D_X1_howMany 1 rfl) fa_RX1_9 hx1 ?_
  obtain ⟨q2, hq2, h⟩ := obi h
  refine v_cSi (bc := 0) (bs := 0) (As := [.int x1]) (dq D_X1_howMany 2 rfl) cs_J6_bitCount_0f7a4 ml_RX1_31 (m_J6_bitCount_0f7a4 hq2) rfl rfl (Nat.le_of_ble_eq_true rfl) ⟨Nat.le_of_ble_eq_true rfl, Nat.le_of_ble_eq_true rfl⟩ ⟨Nat.le_of_ble_eq_true rfl, Nat.le_of_ble_eq_true rfl⟩ ?_
  obtain rfl := Option.some.inj h
  exact v_iret (dq D_X1_howMany 3 rfl) rfl ⟨rfl, rfl⟩
theorem m_X1_howMany {sa : Env3} {a0 : Nat} {σ : St} {r : Int32 × St} (h : f_X1_howMany a0 σ = some r) : Ex sa yX1_howMany cX1_howMany K_X1_howMany [.ref a0] σ (pO r) := Ex.of (by decide) rfl (fun q => nomatch q) (Nat.le_of_ble_eq_true rfl) (w_X1_howMany_0 (itg h).2)
theorem w_X1_leftBy_34 {sa : Env3} {k4 : Nat → Int32 → Int32 → Int32 → St → Option (Int32 × St)} (hk4 : ∀ {a0 : Nat} {a1 : Int32} {a2 : Int32} {a3 : Int32} {σ : St} {r : Int32 × St}, k4 a0 a1 a2 a3 σ = some r → VV sa cX1_leftBy K_X1_leftBy 4 [(0, .ref a0), (1, .int a1), (2, .int a2), (3, .int a3)] [] σ (pO r) 0 0) {a0 : Nat} {a1 : Int32} {a2 : Int32} {a3 : Int32} {σ : St} {r : Int32 × St} (h : f_X1_leftBy_34 k4 a0 a1 a2 a3 σ = some r) : VV sa cX1_leftBy K_X1_leftBy 34 [(0, .ref a0), (1, .int a1), (2, .int a2), (3, .int a3)] [] σ (pO r) 0 0 := by
  unfold f_X1_leftBy_34 at h
  refine v_iinc (dq D_X1_leftBy 22 rfl) 3 [(3, .int (a3 + 1)), (0, .ref a0), (1, .int a1), (2, .int a2)] rfl kc_1 (Nat.le_of_ble_eq_true rfl) rfl ?_
  refine v_goto (dq D_X1_leftBy 23 rfl) rfl ?_
  exact v_sub [1, 2, 3, 0] rfl (hk4 h)
theorem w_X1_leftBy_4 {sa : Env3} : ∀ (n : Nat) {a0 : Nat} {a1 : Int32} {a2 : Int32} {a3 : Int32} {σ : St} {r : Int32 × St}, f_X1_leftBy_4 n a0 a1 a2 a3 σ = some r → VV sa cX1_leftBy K_X1_leftBy 4 [(0, .ref a0), (1, .int a1), (2, .int a2), (3, .int a3)] [] σ (pO r) 0 0 := by
  intro n
  induction n with
  | zero => intro a0 a1 a2 a3 σ r h; cases h
  | succ n ih =>
    intro a0 a1 a2 a3 σ r h
    rw [e_X1_leftBy_4] at h
    refine v_iload_n (dq D_X1_leftBy 4 rfl) 3 rfl ?_
    refine v_iconst (dq D_X1_leftBy 5 rfl) kc_1 ?_
    refine v_aload_n (dq D_X1_leftBy 6 rfl) 0 rfl ?_
    obtain ⟨x1, hx1, h⟩ := obi h
    refine v_gI (dq D_X1_leftBy 7 rfl) fa_RX1_20 hx1 ?_
    refine v_ishl (dq D_X1_leftBy 8 rfl) ?_
    refine v_icmp_ge (dq D_X1_leftBy 9 rfl) rfl (fun c2 => ?_) (fun c2 => ?_)
    · have h := itp h c2
      refine v_iload_n (dq D_X1_leftBy 24 rfl) 2 rfl ?_
      refine v_aload_n (dq D_X1_leftBy 25 rfl) 0 rfl ?_
      obtain ⟨q3, hq3, h⟩ := obi h
      refine v_cVi (bc := 0) (bs := 0) (As := []) (dq D_X1_leftBy 26 rfl) cv_X1_howMany ml_RX1_41 (itg hq3).1 (m_X1_howMany hq3) rfl rfl (Nat.le_of_ble_eq_true rfl) ⟨Nat.le_of_ble_eq_true rfl, Nat.le_of_ble_eq_true rfl⟩ ⟨Nat.le_of_ble_eq_true rfl, Nat.le_of_ble_eq_true rfl⟩ ?_
      refine v_iload_n (dq D_X1_leftBy 27 rfl) 2 rfl ?_
      refine v_isub (dq D_X1_leftBy 28 rfl) ?_
      refine v_mmax (dq D_X1_leftBy 29 rfl) tw_1009 tw_933 tw_11 tw_934 (Nat.le_of_ble_eq_true rfl) (Nat.le_of_ble_eq_true rfl) ?_
      obtain rfl := Option.some.inj h
      exact v_iret (dq D_X1_leftBy 30 rfl) rfl ⟨rfl, rfl⟩
    · have h := itn h c2
      refine v_aload_n (dq D_X1_leftBy 10 rfl) 0 rfl ?_
      refine v_iload_n (dq D_X1_leftBy 11 rfl) 3 rfl ?_
      obtain ⟨q4, hq4, h⟩ := obi h
      refine v_cVi (bc := 0) (bs := 0) (As := [.int a3]) (dq D_X1_leftBy 12 rfl) cv_X1_fitsBy ml_RX1_37 (itg hq4).1 (m_X1_fitsBy hq4) rfl rfl (Nat.le_of_ble_eq_true rfl) ⟨Nat.le_of_ble_eq_true rfl, Nat.le_of_ble_eq_true rfl⟩ ⟨Nat.le_of_ble_eq_true rfl, Nat.le_of_ble_eq_true rfl⟩ ?_
      refine v_if_eq (dq D_X1_leftBy 13 rfl) rfl (fun c5 => ?_) (fun c5 => ?_)
      · have h := itp h c5
        exact w_X1_leftBy_34 ih h
      · have h := itn h c5
        refine v_iload_n (dq D_X1_leftBy 14 rfl) 3 rfl ?_
        refine v_iload_n (dq D_X1_leftBy 15 rfl) 1 rfl ?_
        refine v_ishr (dq D_X1_leftBy 16 rfl) ?_
        refine v_iconst (dq D_X1_leftBy 17 rfl) kc_1 ?_
        refine v_iand (dq D_X1_leftBy 18 rfl) ?_
        refine v_iconst (dq D_X1_leftBy 19 rfl) kc_1 ?_
        refine v_icmp_ne (dq D_X1_leftBy 20 rfl) rfl (fun c6 => ?_) (fun c6 => ?_)
        · have h := itn h c6
          exact w_X1_leftBy_34 ih h
        · have h := itp h c6
          refine v_iinc (dq D_X1_leftBy 21 rfl) 2 [(2, .int (a2 + 1)), (0, .ref a0), (1, .int a1), (3, .int a3)] rfl kc_1 (Nat.le_of_ble_eq_true rfl) rfl ?_
          exact v_sub [1, 2, 0, 3] rfl (w_X1_leftBy_34 ih h)
theorem w_X1_leftBy_0 {sa : Env3} {a0 : Nat} {a1 : Int32} {σ : St} {r : Int32 × St} (h : f_X1_leftBy_0 a0 a1 σ = some r) : VV sa cX1_leftBy K_X1_leftBy 0 [(0, .ref a0), (1, .int a1)] [] σ (pO r) 0 0 := by
  unfold f_X1_leftBy_0 at h
  refine v_iconst (dq D_X1_leftBy 0 rfl) kc_0 ?_
  refine v_istore_n (dq D_X1_leftBy 1 rfl) [(2, .int 0), (0, .ref a0), (1, .int a1)] rfl (Nat.le_of_ble_eq_true rfl) rfl ?_
  refine v_iconst (dq D_X1_leftBy 2 rfl) kc_0 ?_
  refine v_istore_n (dq D_X1_leftBy 3 rfl) [(3, .int 0), (2, .int 0), (0, .ref a0), (1, .int a1)] rfl (Nat.le_of_ble_eq_true rfl) rfl ?_
  exact v_sub [2, 3, 1, 0] rfl (w_X1_leftBy_4 _ h)
theorem m_X1_leftBy {sa : Env3} {a0 : Nat} {a1 : Int32} {σ : St} {r : Int32 × St} (h : f_X1_leftBy a0 a1 σ = some r) : Ex sa yX1_leftBy cX1_leftBy K_X1_leftBy [.ref a0, .int a1] σ (pO r) := Ex.of (by decide) rfl (fun q => nomatch q) (Nat.le_of_ble_eq_true rfl) (w_X1_leftBy_0 (itg h).2)
theorem w_X1_bestQuestion_45 {sa : Env3} {a1 : Int32} {σ : St} {r : Int32 × St} (h : f_X1_bestQuestion_45 a1 σ = some r) : VV sa cX1_bestQuestion K_X1_bestQuestion 45 [(1, .int a1)] [] σ (pO r) 0 0 := by
  unfold f_X1_bestQuestion_45 at h
  refine v_iload_n (dq D_X1_bestQuestion 24 rfl) 0 rfl ?_
  obtain rfl := Option.some.inj h
  exact v_iret (dq D_X1_bestQuestion 25 rfl) rfl ⟨rfl, rfl⟩
theorem w_X1_bestQuestion_39 {sa : Env3} {k5 : Nat → Int32 → Int32 → St → Option (Int32 × St)} (hk5 : ∀ {a0 : Nat} {a1 : Int32} {a2 : Int32} {σ : St} {r : Int32 × St}, k5 a0 a1 a2 σ = some r → VV sa cX1_bestQuestion K_X1_bestQuestion 5 [(0, .ref a0), (1, .int a1), (2, .int a2)] [] σ (pO r) 0 0) {a0 : Nat} {a1 : Int32} {a2 : Int32} {σ : St} {r : Int32 × St} (h : f_X1_bestQuestion_39 k5 a0 a1 a2 σ = some r) : VV sa cX1_bestQuestion K_X1_bestQuestion 39 [(0, .ref a0), (1, .int a1), (2, .int a2)] [] σ (pO r) 0 0 := by
  unfold f_X1_bestQuestion_39 at h
  refine v_iinc (dq D_X1_bestQuestion 22 rfl) 2 [(2, .int (a2 + 1)), (0, .ref a0), (1, .int a1)] rfl kc_1 (Nat.le_of_ble_eq_true rfl) rfl ?_
  refine v_goto (dq D_X1_bestQuestion 23 rfl) rfl ?_
  exact v_sub [1, 2, 0] rfl (hk5 h)
theorem w_X1_bestQuestion_37 {sa : Env3} {k5 : Nat → Int32 → Int32 → St → Option (Int32 × St)} (hk5 : ∀ {a0 : Nat} {a1 : Int32} {a2 : Int32} {σ : St} {r : Int32 × St}, k5 a0 a1 a2 σ = some r → VV sa cX1_bestQuestion K_X1_bestQuestion 5 [(0, .ref a0), (1, .int a1), (2, .int a2)] [] σ (pO r) 0 0) {a0 : Nat} {a2 : Int32} {σ : St} {r : Int32 × St} (h : f_X1_bestQuestion_37 k5 a0 a2 σ = some r) : VV sa cX1_bestQuestion K_X1_bestQuestion 37 [(0, .ref a0), (2, .int a2)] [] σ (pO r) 0 0 := by
  unfold f_X1_bestQuestion_37 at h
  refine v_iload_n (dq D_X1_bestQuestion 20 rfl) 1 rfl ?_
  refine v_istore_n (dq D_X1_bestQuestion 21 rfl) [(1, .int a2), (0, .ref a0), (2, .int a2)] rfl (Nat.le_of_ble_eq_true rfl) rfl ?_
  exact v_sub [1, 0, 2] rfl (w_X1_bestQuestion_39 hk5 h)
theorem w_X1_bestQuestion_5 {sa : Env3} : ∀ (n : Nat) {a0 : Nat} {a1 : Int32} {a2 : Int32} {σ : St} {r : Int32 × St}, f_X1_bestQuestion_5 n a0 a1 a2 σ = some r → VV sa cX1_bestQuestion K_X1_bestQuestion 5 [(0, .ref a0), (1, .int a1), (2, .int a2)] [] σ (pO r) 0 0 := by
  intro n
  induction n with
  | zero => intro a0 a1 a2 σ r h; cases h
  | succ n ih =>
    intro a0 a1 a2 σ r h
    rw [e_X1_bestQuestion_5] at h
    refine v_iload_n (dq D_X1_bestQuestion 4 rfl) 2 rfl ?_
    refine v_aload_n (dq D_X1_bestQuestion 5 rfl) 0 rfl ?_
    obtain ⟨x1, hx1, h⟩ := obi h
    refine v_gI (dq D_X1_bestQuestion 6 rfl) fa_RX1_20 hx1 ?_
    refine v_icmp_ge (dq D_X1_bestQuestion 7 rfl) rfl (fun c2 => ?_) (fun c2 => ?_)
    · have h := itp h c2
      exact v_sub [1] rfl (w_X1_bestQuestion_45 h)
    · have h := itn h c2
      refine v_aload_n (dq D_X1_bestQuestion 8 rfl) 0 rfl ?_
      obtain ⟨x3, hx3, h⟩ := obi h
      refine v_gI (dq D_X1_bestQuestion 9 rfl) fa_RX1_9 hx3 ?_
      refine v_if_eq (dq D_X1_bestQuestion 10 rfl) rfl (fun c4 => ?_) (fun c4 => ?_)
      · have h := itp h c4
        exact v_sub [1] rfl (w_X1_bestQuestion_45 h)
      · have h := itn h c4
        refine v_iload_n (dq D_X1_bestQuestion 11 rfl) 1 rfl ?_
        refine v_if_lt (dq D_X1_bestQuestion 12 rfl) rfl (fun c5 => ?_) (fun c5 => ?_)
        · have h := itp h c5
          exact v_sub [0, 2] rfl (w_X1_bestQuestion_37 ih h)
        · have h := itn h c5
          refine v_aload_n (dq D_X1_bestQuestion 13 rfl) 0 rfl ?_
          refine v_iload_n (dq D_X1_bestQuestion 14 rfl) 2 rfl ?_
          obtain ⟨q6, hq6, h⟩ := obi h
          refine v_cVi (bc := 0) (bs := 0) (As := [.int a2]) (dq D_X1_bestQuestion 15 rfl) cv_X1_leftBy ml_RX1_51 (itg hq6).1 (m_X1_leftBy hq6) rfl rfl (Nat.le_of_ble_eq_true rfl) ⟨Nat.le_of_ble_eq_true rfl, Nat.le_of_ble_eq_true rfl⟩ ⟨Nat.le_of_ble_eq_true rfl, Nat.le_of_ble_eq_true rfl⟩ ?_
          refine v_aload_n (dq D_X1_bestQuestion 16 rfl) 0 rfl ?_
          refine v_iload_n (dq D_X1_bestQuestion 17 rfl) 1 rfl ?_
          obtain ⟨q7, hq7, h⟩ := obi h
          refine v_cVi (bc := 0) (bs := 0) (As := [.int a1]) (dq D_X1_bestQuestion 18 rfl) cv_X1_leftBy ml_RX1_51 (itg hq7).1 (m_X1_leftBy hq7) rfl rfl (Nat.le_of_ble_eq_true rfl) ⟨Nat.le_of_ble_eq_true rfl, Nat.le_of_ble_eq_true rfl⟩ ⟨Nat.le_of_ble_eq_true rfl, Nat.le_of_ble_eq_true rfl⟩ ?_
          refine v_icmp_ge (dq D_X1_bestQuestion 19 rfl) rfl (fun c8 => ?_) (fun c8 => ?_)
          · have h := itp h c8
            exact w_X1_bestQuestion_39 ih h
          · have h := itn h c8
            exact v_sub [0, 2] rfl (w_X1_bestQuestion_37 ih h)
theorem w_X1_bestQuestion_0 {sa : Env3} {a0 : Nat} {σ : St} {r : Int32 × St} (h : f_X1_bestQuestion_0 a0 σ = some r) : VV sa cX1_bestQuestion K_X1_bestQuestion 0 [(0, .ref a0)] [] σ (pO r) 0 0 := by
  unfold f_X1_bestQuestion_0 at h
  refine v_bipush (dq D_X1_bestQuestion 0 rfl) kb_m2 ?_
  refine v_istore_n (dq D_X1_bestQuestion 1 rfl) [(1, .int (-2)), (0, .ref a0)] rfl (Nat.le_of_ble_eq_true rfl) rfl ?_
  refine v_iconst (dq D_X1_bestQuestion 2 rfl) kc_0 ?_
  refine v_istore_n (dq D_X1_bestQuestion 3 rfl) [(2, .int 0), (1, .int (-2)), (0, .ref a0)] rfl (Nat.le_of_ble_eq_true rfl) rfl ?_
  exact v_sub [2, 1, 0] rfl (w_X1_bestQuestion_5 _ h)
theorem m_X1_bestQuestion {sa : Env3} {a0 : Nat} {σ : St} {r : Int32 × St} (h : f_X1_bestQuestion a0 σ = some r) : Ex sa yX1_bestQuestion cX1_bestQuestion K_X1_bestQuestion [.ref a0] σ (pO r) := Ex.of (by decide) rfl (fun q => nomatch q) (Nat.le_of_ble_eq_true rfl) (w_X1_bestQuestion_0 (itg h).2)
theorem w_X4_read_17 {sa : Env3} {s0 : Int32} {σ : St} {r : Int32 × St} (h : f_X4_read_17 s0 σ = some r) : VV sa cX4_read K_X4_read 17 [] [.int s0] σ (pO r) 0 0 := by
  unfold f_X4_read_17 at h
  obtain rfl := Option.some.inj h
  exact v_iret (dq D_X4_read 9 rfl) rfl ⟨rfl, rfl⟩
theorem w_X4_read_0 {sa : Env3} {a0 : Nat} {a1 : Int32} {σ : St} {r : Int32 × St} (h : f_X4_read_0 a0 a1 σ = some r) : VV sa cX4_read K_X4_read 0 [(0, .ref a0), (1, .int a1)] [] σ (pO r) 0 0 := by
  unfold f_X4_read_0 at h
  refine v_iload_n (dq D_X4_read 0 rfl) 1 rfl ?_
  obtain ⟨q1, hq1, h⟩ := obi h
  refine v_cSi (bc := 0) (bs := 0) (As := [.int a1]) (dq D_X4_read 1 rfl) cs_X8_isRegister ml_RX4_75 (m_X8_isRegister hq1) rfl rfl (Nat.le_of_ble_eq_true rfl) ⟨Nat.le_of_ble_eq_true rfl, Nat.le_of_ble_eq_true rfl⟩ ⟨Nat.le_of_ble_eq_true rfl, Nat.le_of_ble_eq_true rfl⟩ ?_
  refine v_if_eq (dq D_X4_read 2 rfl) rfl (fun c2 => ?_) (fun c2 => ?_)
  · have h := itp h c2
    refine v_iconst (dq D_X4_read 8 rfl) kc_0 ?_
    exact v_sub [] rfl (w_X4_read_17 h)
  · have h := itn h c2
    refine v_aload_n (dq D_X4_read 3 rfl) 0 rfl ?_
    obtain ⟨x3, hx3, h⟩ := obi h
    refine v_gR (dq D_X4_read 4 rfl) fa_RX4_9 hx3 ?_
    refine v_iload_n (dq D_X4_read 5 rfl) 1 rfl ?_
    obtain ⟨x4, hx4, h⟩ := obi h
    refine v_iald (dq D_X4_read 6 rfl) hx4 ?_
    refine v_goto (dq D_X4_read 7 rfl) rfl ?_
    exact v_sub [] rfl (w_X4_read_17 h)
theorem m_X4_read {sa : Env3} {a0 : Nat} {a1 : Int32} {σ : St} {r : Int32 × St} (h : f_X4_read a0 a1 σ = some r) : Ex sa yX4_read cX4_read K_X4_read [.ref a0, .int a1] σ (pO r) := Ex.of (by decide) rfl (fun q => nomatch q) (Nat.le_of_ble_eq_true rfl) (w_X4_read_0 (itg h).2)
theorem w_X5_numberBy_36 {sa : Env3} {k2 : Nat → Int32 → Int32 → Int32 → St → Option (Int32 × St)} (hk2 : ∀ {a0 : Nat} {a1 : Int32} {a2 : Int32} {a3 : Int32} {σ : St} {r : Int32 × St}, k2 a0 a1 a2 a3 σ = some r → VV sa cX5_numberBy K_X5_numberBy 2 [(0, .ref a0), (1, .int a1), (2, .int a2), (3, .int a3)] [] σ (pO r) 0 0) {a0 : Nat} {a1 : Int32} {a2 : Int32} {a3 : Int32} {σ : St} {r : Int32 × St} (h : f_X5_numberBy_36 k2 a0 a1 a2 a3 σ = some r) : VV sa cX5_numberBy K_X5_numberBy 36 [(0, .ref a0), (1, .int a1), (2, .int a2), (3, .int a3)] [] σ (pO r) 0 0 := by
  unfold f_X5_numberBy_36 at h
  refine v_iinc (dq D_X5_numberBy 24 rfl) 3 [(3, .int (a3 + 1)), (0, .ref a0), (1, .int a1), (2, .int a2)] rfl kc_1 (Nat.le_of_ble_eq_true rfl) rfl ?_
  refine v_goto (dq D_X5_numberBy 25 rfl) rfl ?_
  exact v_sub [1, 2, 3, 0] rfl (hk2 h)
theorem w_X5_numberBy_2 {sa : Env3} : ∀ (n : Nat) {a0 : Nat} {a1 : Int32} {a2 : Int32} {a3 : Int32} {σ : St} {r : Int32 × St}, f_X5_numberBy_2 n a0 a1 a2 a3 σ = some r → VV sa cX5_numberBy K_X5_numberBy 2 [(0, .ref a0), (1, .int a1), (2, .int a2), (3, .int a3)] [] σ (pO r) 0 0 := by
  intro n
  induction n with
  | zero => intro a0 a1 a2 a3 σ r h; cases h
  | succ n ih =>
    intro a0 a1 a2 a3 σ r h
    rw [e_X5_numberBy_2] at h
    refine v_iload_n (dq D_X5_numberBy 2 rfl) 3 rfl ?_
    refine v_aload_n (dq D_X5_numberBy 3 rfl) 0 rfl ?_
    obtain ⟨x1, hx1, h⟩ := obi h
    refine v_gI (dq D_X5_numberBy 4 rfl) fa_RX5_47 hx1 ?_
    refine v_icmp_ge (dq D_X5_numberBy 5 rfl) rfl (fun c2 => ?_) (fun c2 => ?_)
    · have h := itp h c2
      refine v_aload_n (dq D_X5_numberBy 26 rfl) 0 rfl ?_
      obtain ⟨x3, hx3, h⟩ := obi h
      refine v_gR (dq D_X5_numberBy 27 rfl) fa_RX5_24 hx3 ?_
      refine v_iload_n (dq D_X5_numberBy 28 rfl) 1 rfl ?_
      obtain ⟨x4, hx4, h⟩ := obi h
      refine v_iald (dq D_X5_numberBy 29 rfl) hx4 ?_
      obtain rfl := Option.some.inj h
      exact v_iret (dq D_X5_numberBy 30 rfl) rfl ⟨rfl, rfl⟩
    · have h := itn h c2
      refine v_aload_n (dq D_X5_numberBy 6 rfl) 0 rfl ?_
      obtain ⟨x5, hx5, h⟩ := obi h
      refine v_gR (dq D_X5_numberBy 7 rfl) fa_RX5_31 hx5 ?_
      refine v_iload_n (dq D_X5_numberBy 8 rfl) 3 rfl ?_
      obtain ⟨x6, hx6, h⟩ := obi h
      refine v_iald (dq D_X5_numberBy 9 rfl) hx6 ?_
      refine v_iload_n (dq D_X5_numberBy 10 rfl) 1 rfl ?_
      refine v_icmp_ne (dq D_X5_numberBy 11 rfl) rfl (fun c7 => ?_) (fun c7 => ?_)
      · have h := itn h c7
        exact w_X5_numberBy_36 ih h
      · have h := itp h c7
        refine v_iload_n (dq D_X5_numberBy 12 rfl) 2 rfl ?_
        refine v_iload_n (dq D_X5_numberBy 13 rfl) 3 rfl ?_
        refine v_ishr (dq D_X5_numberBy 14 rfl) ?_
        refine v_iconst (dq D_X5_numberBy 15 rfl) kc_1 ?_
        refine v_iand (dq D_X5_numberBy 16 rfl) ?_
        refine v_iconst (dq D_X5_numberBy 17 rfl) kc_1 ?_
        refine v_icmp_ne (dq D_X5_numberBy 18 rfl) rfl (fun c8 => ?_) (fun c8 => ?_)
        · have h := itn h c8
          exact w_X5_numberBy_36 ih h
        · have h := itp h c8
          refine v_aload_n (dq D_X5_numberBy 19 rfl) 0 rfl ?_
          obtain ⟨x9, hx9, h⟩ := obi h
          refine v_gR (dq D_X5_numberBy 20 rfl) fa_RX5_34 hx9 ?_
          refine v_iload_n (dq D_X5_numberBy 21 rfl) 3 rfl ?_
          obtain ⟨x10, hx10, h⟩ := obi h
          refine v_iald (dq D_X5_numberBy 22 rfl) hx10 ?_
          obtain rfl := Option.some.inj h
          exact v_iret (dq D_X5_numberBy 23 rfl) rfl ⟨rfl, rfl⟩
theorem w_X5_numberBy_0 {sa : Env3} {a0 : Nat} {a1 : Int32} {a2 : Int32} {σ : St} {r : Int32 × St} (h : f_X5_numberBy_0 a0 a1 a2 σ = some r) : VV sa cX5_numberBy K_X5_numberBy 0 [(0, .ref a0), (1, .int a1), (2, .int a2)] [] σ (pO r) 0 0 := by
  unfold f_X5_numberBy_0 at h
  refine v_iconst (dq D_X5_numberBy 0 rfl) kc_0 ?_
  refine v_istore_n (dq D_X5_numberBy 1 rfl) [(3, .int 0), (0, .ref a0), (1, .int a1), (2, .int a2)] rfl (Nat.le_of_ble_eq_true rfl) rfl ?_
  exact v_sub [1, 2, 3, 0] rfl (w_X5_numberBy_2 _ h)
theorem m_X5_numberBy {sa : Env3} {a0 : Nat} {a1 : Int32} {a2 : Int32} {σ : St} {r : Int32 × St} (h : f_X5_numberBy a0 a1 a2 σ = some r) : Ex sa yX5_numberBy cX5_numberBy K_X5_numberBy [.ref a0, .int a1, .int a2] σ (pO r) := Ex.of (by decide) rfl (fun q => nomatch q) (Nat.le_of_ble_eq_true rfl) (w_X5_numberBy_0 (itg h).2)
theorem w_X4_playStep_128 {sa : Env3} {a0 : Nat} {a1 : Nat} {a3 : Int32} {s0 : Int32} {σ : St} {r : St} (h : f_X4_playStep_128 a0 a1 a3 s0 σ = some r) : VV sa cX4_playStep K_X4_playStep 128 [(0, .ref a0), (1, .ref a1), (3, .int a3)] [.int s0] σ (pU r) 0 0 := by
  unfold f_X4_playStep_128 at h
  refine v_istore (dq D_X4_playStep 72 rfl) [(7, .int s0), (0, .ref a0), (1, .ref a1), (3, .int a3)] (Nat.le_of_ble_eq_true rfl) rfl ?_
  refine v_iload (dq D_X4_playStep 73 rfl) 0 rfl ?_
  refine v_iconst (dq D_X4_playStep 74 rfl) kc_m1 ?_
  refine v_icmp_ne (dq D_X4_playStep 75 rfl) rfl (fun c1 => ?_) (fun c1 => ?_)
  · have h := itn h c1
    refine v_aload_n (dq D_X4_playStep 80 rfl) 1 rfl ?_
    obtain ⟨x2, hx2, h⟩ := obi h
    refine v_gR (dq D_X4_playStep 81 rfl) fa_RX4_9 hx2 ?_
    refine v_aload_n (dq D_X4_playStep 82 rfl) 2 rfl ?_
    obtain ⟨x3, hx3, h⟩ := obi h
    refine v_gR (dq D_X4_playStep 83 rfl) fa_RX4_72 hx3 ?_
    refine v_iload_n (dq D_X4_playStep 84 rfl) 3 rfl ?_
    obtain ⟨x4, hx4, h⟩ := obi h
    refine v_iald (dq D_X4_playStep 85 rfl) hx4 ?_
    refine v_iload (dq D_X4_playStep 86 rfl) 0 rfl ?_
    obtain ⟨σ5, hσ5, h⟩ := obi h
    refine v_iast (dq D_X4_playStep 87 rfl) hσ5 ?_
    refine v_aload_n (dq D_X4_playStep 88 rfl) 1 rfl ?_
    refine v_iload_n (dq D_X4_playStep 89 rfl) 3 rfl ?_
    refine v_iconst (dq D_X4_playStep 90 rfl) kc_1 ?_
    refine v_iadd (dq D_X4_playStep 91 rfl) ?_
    obtain ⟨σ6, hσ6, h⟩ := obi h
    refine v_pI (dq D_X4_playStep 92 rfl) fp_RX4_25 hσ6 ?_
    refine v_aload_n (dq D_X4_playStep 93 rfl) 1 rfl ?_
    refine v_dup (dq D_X4_playStep 94 rfl) rfl ?_
    obtain ⟨x7, hx7, h⟩ := obi h
    refine v_gI (dq D_X4_playStep 95 rfl) fa_RX4_21 hx7 ?_
    refine v_iconst (dq D_X4_playStep 96 rfl) kc_1 ?_
    refine v_iadd (dq D_X4_playStep 97 rfl) ?_
    obtain ⟨σ8, hσ8, h⟩ := obi h
    refine v_pI (dq D_X4_playStep 98 rfl) fp_RX4_21 hσ8 ?_
    obtain rfl := Option.some.inj h
    exact v_vret (dq D_X4_playStep 99 rfl) rfl ⟨rfl, rfl⟩
  · have h := itp h c1
    refine v_aload_n (dq D_X4_playStep 76 rfl) 1 rfl ?_
    refine v_iconst (dq D_X4_playStep 77 rfl) kc_1 ?_
    obtain ⟨σ9, hσ9, h⟩ := obi h
    refine v_pZ (dq D_X4_playStep 78 rfl) fp_RX4_31 hσ9 ?_
    obtain rfl := Option.some.inj h
    exact v_vret (dq D_X4_playStep 79 rfl) rfl ⟨rfl, rfl⟩
theorem w_X4_playStep_103 {sa : Env3} {a0 : Nat} {a1 : Nat} {a2 : Int32} {a3 : Int32} {a4 : Int32} {a5 : Int32} {s0 : Int32} {σ : St} {r : St} (h : f_X4_playStep_103 a0 a1 a2 a3 a4 a5 s0 σ = some r) : VV sa cX4_playStep K_X4_playStep 103 [(0, .ref a0), (1, .ref a1), (2, .int a2), (3, .int a3), (4, .int a4), (5, .int a5)] [.int s0] σ (pU r) 0 0 := by
  unfold f_X4_playStep_103 at h
  refine v_istore (dq D_X4_playStep 59 rfl) [(6, .int s0), (0, .ref a0), (1, .ref a1), (2, .int a2), (3, .int a3), (4, .int a4), (5, .int a5)] (Nat.le_of_ble_eq_true rfl) rfl ?_
  refine v_iload (dq D_X4_playStep 60 rfl) 0 rfl ?_
  refine v_if_eq (dq D_X4_playStep 61 rfl) rfl (fun c1 => ?_) (fun c1 => ?_)
  · have h := itp h c1
    refine v_aload_n (dq D_X4_playStep 67 rfl) 2 rfl ?_
    refine v_iload_n (dq D_X4_playStep 68 rfl) 4 rfl ?_
    refine v_iload (dq D_X4_playStep 69 rfl) 5 rfl ?_
    refine v_iload (dq D_X4_playStep 70 rfl) 6 rfl ?_
    obtain ⟨q2, hq2, h⟩ := obi h
    refine v_cVi (bc := 0) (bs := 0) (As := [.int a3, .int a4, .int a5]) (dq D_X4_playStep 71 rfl) cv_X5_outcome ml_RX4_69 (itg hq2).1 (m_X5_outcome hq2) rfl rfl (Nat.le_of_ble_eq_true rfl) ⟨Nat.le_of_ble_eq_true rfl, Nat.le_of_ble_eq_true rfl⟩ ⟨Nat.le_of_ble_eq_true rfl, Nat.le_of_ble_eq_true rfl⟩ ?_
    exact v_sub [1, 2, 4] rfl (w_X4_playStep_128 h)
  · have h := itn h c1
    refine v_aload_n (dq D_X4_playStep 62 rfl) 2 rfl ?_
    refine v_iload_n (dq D_X4_playStep 63 rfl) 4 rfl ?_
    refine v_iload_n (dq D_X4_playStep 64 rfl) 3 rfl ?_
    obtain ⟨q3, hq3, h⟩ := obi h
    refine v_cVi (bc := 0) (bs := 0) (As := [.int a3, .int a2]) (dq D_X4_playStep 65 rfl) cv_X5_numberBy ml_RX4_65 (itg hq3).1 (m_X5_numberBy hq3) rfl rfl (Nat.le_of_ble_eq_true rfl) ⟨Nat.le_of_ble_eq_true rfl, Nat.le_of_ble_eq_true rfl⟩ ⟨Nat.le_of_ble_eq_true rfl, Nat.le_of_ble_eq_true rfl⟩ ?_
    refine v_goto (dq D_X4_playStep 66 rfl) rfl ?_
    exact v_sub [1, 2, 4] rfl (w_X4_playStep_128 h)
theorem w_X4_playStep_74 {sa : Env3} {a0 : Nat} {s0 : Nat} {s1 : Int32} {s2 : Int32} {σ : St} {r : St} (h : f_X4_playStep_74 a0 s0 s1 s2 σ = some r) : VV sa cX4_playStep K_X4_playStep 74 [(0, .ref a0)] [.int s2, .int s1, .ref s0] σ (pU r) 0 0 := by
  unfold f_X4_playStep_74 at h
  refine v_iadd (dq D_X4_playStep 42 rfl) ?_
  obtain ⟨σ1, hσ1, h⟩ := obi h
  refine v_pI (dq D_X4_playStep 43 rfl) fp_RX4_28 hσ1 ?_
  refine v_aload_n (dq D_X4_playStep 44 rfl) 0 rfl ?_
  refine v_dup (dq D_X4_playStep 45 rfl) rfl ?_
  obtain ⟨x2, hx2, h⟩ := obi h
  refine v_gI (dq D_X4_playStep 46 rfl) fa_RX4_21 hx2 ?_
  refine v_iconst (dq D_X4_playStep 47 rfl) kc_1 ?_
  refine v_iadd (dq D_X4_playStep 48 rfl) ?_
  obtain ⟨σ3, hσ3, h⟩ := obi h
  refine v_pI (dq D_X4_playStep 49 rfl) fp_RX4_21 hσ3 ?_
  obtain rfl := Option.some.inj h
  exact v_vret (dq D_X4_playStep 50 rfl) rfl ⟨rfl, rfl⟩
theorem w_X4_playStep_0 {sa : Env3} {a0 : Nat} {a1 : Nat} {a2 : Int32} {σ : St} {r : St} (h : f_X4_playStep_0 a0 a1 a2 σ = some r) : VV sa cX4_playStep K_X4_playStep 0 [(0, .ref a0), (1, .ref a1), (2, .int a2)] [] σ (pU r) 0 0 := by
  unfold f_X4_playStep_0 at h
  refine v_aload_n (dq D_X4_playStep 0 rfl) 0 rfl ?_
  obtain ⟨x1, hx1, h⟩ := obi h
  refine v_gI (dq D_X4_playStep 1 rfl) fa_RX4_25 hx1 ?_
  refine v_istore_n (dq D_X4_playStep 2 rfl) [(3, .int x1), (0, .ref a0), (1, .ref a1), (2, .int a2)] rfl (Nat.le_of_ble_eq_true rfl) rfl ?_
  refine v_aload_n (dq D_X4_playStep 3 rfl) 1 rfl ?_
  refine v_aload_n (dq D_X4_playStep 4 rfl) 2 rfl ?_
  obtain ⟨x2, hx2, h⟩ := obi h
  refine v_gR (dq D_X4_playStep 5 rfl) fa_RX4_45 hx2 ?_
  refine v_iload_n (dq D_X4_playStep 6 rfl) 0 rfl ?_
  obtain ⟨x3, hx3, h⟩ := obi h
  refine v_iald (dq D_X4_playStep 7 rfl) hx3 ?_
  obtain ⟨q4, hq4, h⟩ := obi h
  refine v_cVi (bc := 0) (bs := 0) (As := [.int x3]) (dq D_X4_playStep 8 rfl) cv_X4_read ml_RX4_48 (itg hq4).1 (m_X4_read hq4) rfl rfl (Nat.le_of_ble_eq_true rfl) ⟨Nat.le_of_ble_eq_true rfl, Nat.le_of_ble_eq_true rfl⟩ ⟨Nat.le_of_ble_eq_true rfl, Nat.le_of_ble_eq_true rfl⟩ ?_
  refine v_istore (dq D_X4_playStep 9 rfl) [(4, .int q4.1), (3, .int x1), (0, .ref a0), (1, .ref a1), (2, .int a2)] (Nat.le_of_ble_eq_true rfl) rfl ?_
  refine v_aload_n (dq D_X4_playStep 10 rfl) 2 rfl ?_
  refine v_aload_n (dq D_X4_playStep 11 rfl) 3 rfl ?_
  obtain ⟨x5, hx5, h⟩ := obi h
  refine v_gR (dq D_X4_playStep 12 rfl) fa_RX4_52 hx5 ?_
  refine v_iload_n (dq D_X4_playStep 13 rfl) 1 rfl ?_
  obtain ⟨x6, hx6, h⟩ := obi h
  refine v_iald (dq D_X4_playStep 14 rfl) hx6 ?_
  obtain ⟨q7, hq7, h⟩ := obi h
  refine v_cVi (bc := 0) (bs := 0) (As := [.int x6]) (dq D_X4_playStep 15 rfl) cv_X4_read ml_RX4_48 (itg hq7).1 (m_X4_read hq7) rfl rfl (Nat.le_of_ble_eq_true rfl) ⟨Nat.le_of_ble_eq_true rfl, Nat.le_of_ble_eq_true rfl⟩ ⟨Nat.le_of_ble_eq_true rfl, Nat.le_of_ble_eq_true rfl⟩ ?_
  refine v_istore (dq D_X4_playStep 16 rfl) [(5, .int q7.1), (4, .int q4.1), (3, .int x1), (0, .ref a0), (1, .ref a1), (2, .int a2)] (Nat.le_of_ble_eq_true rfl) rfl ?_
  refine v_aload_n (dq D_X4_playStep 17 rfl) 4 rfl ?_
  obtain ⟨x8, hx8, h⟩ := obi h
  refine v_gR (dq D_X4_playStep 18 rfl) fa_RX4_55 hx8 ?_
  refine v_iload_n (dq D_X4_playStep 19 rfl) 2 rfl ?_
  obtain ⟨x9, hx9, h⟩ := obi h
  refine v_iald (dq D_X4_playStep 20 rfl) hx9 ?_
  refine v_iconst (dq D_X4_playStep 21 rfl) kc_5 ?_
  refine v_icmp_ne (dq D_X4_playStep 22 rfl) rfl (fun c10 => ?_) (fun c10 => ?_)
  · have h := itn h c10
    refine v_aload_n (dq D_X4_playStep 51 rfl) 4 rfl ?_
    obtain ⟨x11, hx11, h⟩ := obi h
    refine v_gR (dq D_X4_playStep 52 rfl) fa_RX4_55 hx11 ?_
    refine v_iload_n (dq D_X4_playStep 53 rfl) 2 rfl ?_
    obtain ⟨x12, hx12, h⟩ := obi h
    refine v_iald (dq D_X4_playStep 54 rfl) hx12 ?_
    refine v_if_ne (dq D_X4_playStep 55 rfl) rfl (fun c13 => ?_) (fun c13 => ?_)
    · have h := itn h c13
      refine v_iconst (dq D_X4_playStep 58 rfl) kc_0 ?_
      exact v_sub [3, 4, 5, 2, 1, 0] rfl (w_X4_playStep_103 h)
    · have h := itp h c13
      refine v_iconst (dq D_X4_playStep 56 rfl) kc_1 ?_
      refine v_goto (dq D_X4_playStep 57 rfl) rfl ?_
      exact v_sub [3, 4, 5, 2, 1, 0] rfl (w_X4_playStep_103 h)
  · have h := itp h c10
    refine v_aload_n (dq D_X4_playStep 23 rfl) 3 rfl ?_
    refine v_aload_n (dq D_X4_playStep 24 rfl) 4 rfl ?_
    refine v_iload_n (dq D_X4_playStep 25 rfl) 2 rfl ?_
    refine v_iload (dq D_X4_playStep 26 rfl) 1 rfl ?_
    refine v_iload (dq D_X4_playStep 27 rfl) 0 rfl ?_
    obtain ⟨q14, hq14, h⟩ := obi h
    refine v_cVi (bc := 0) (bs := 0) (As := [.int x1, .int q4.1, .int q7.1]) (dq D_X4_playStep 28 rfl) cv_X5_nextBehind ml_RX4_58 (itg hq14).1 (m_X5_nextBehind hq14) rfl rfl (Nat.le_of_ble_eq_true rfl) ⟨Nat.le_of_ble_eq_true rfl, Nat.le_of_ble_eq_true rfl⟩ ⟨Nat.le_of_ble_eq_true rfl, Nat.le_of_ble_eq_true rfl⟩ ?_
    obtain ⟨σ15, hσ15, h⟩ := obi h
    refine v_pI (dq D_X4_playStep 29 rfl) fp_RX4_25 hσ15 ?_
    refine v_aload_n (dq D_X4_playStep 30 rfl) 3 rfl ?_
    refine v_dup (dq D_X4_playStep 31 rfl) rfl ?_
    obtain ⟨x16, hx16, h⟩ := obi h
    refine v_gI (dq D_X4_playStep 32 rfl) fa_RX4_28 hx16 ?_
    refine v_aload_n (dq D_X4_playStep 33 rfl) 3 rfl ?_
    obtain ⟨x17, hx17, h⟩ := obi h
    refine v_gI (dq D_X4_playStep 34 rfl) fa_RX4_25 hx17 ?_
    refine v_aload_n (dq D_X4_playStep 35 rfl) 4 rfl ?_
    refine v_iload_n (dq D_X4_playStep 36 rfl) 2 rfl ?_
    obtain ⟨q18, hq18, h⟩ := obi h
    refine v_cVi (bc := 0) (bs := 0) (As := [.int x1]) (dq D_X4_playStep 37 rfl) cv_X5_guessBehind ml_RX4_62 (itg hq18).1 (m_X5_guessBehind hq18) rfl rfl (Nat.le_of_ble_eq_true rfl) ⟨Nat.le_of_ble_eq_true rfl, Nat.le_of_ble_eq_true rfl⟩ ⟨Nat.le_of_ble_eq_true rfl, Nat.le_of_ble_eq_true rfl⟩ ?_
    refine v_icmp_ne (dq D_X4_playStep 38 rfl) rfl (fun c19 => ?_) (fun c19 => ?_)
    · have h := itn h c19
      refine v_iconst (dq D_X4_playStep 41 rfl) kc_1 ?_
      exact v_sub [3] rfl (w_X4_playStep_74 h)
    · have h := itp h c19
      refine v_iconst (dq D_X4_playStep 39 rfl) kc_0 ?_
      refine v_goto (dq D_X4_playStep 40 rfl) rfl ?_
      exact v_sub [3] rfl (w_X4_playStep_74 h)
theorem m_X4_playStep {sa : Env3} {a0 : Nat} {a1 : Nat} {a2 : Int32} {σ : St} {r : St} (h : f_X4_playStep a0 a1 a2 σ = some r) : Ex sa yX4_playStep cX4_playStep K_X4_playStep [.ref a0, .ref a1, .int a2] σ (pU r) := Ex.of (by decide) rfl (fun q => nomatch q) (Nat.le_of_ble_eq_true rfl) (w_X4_playStep_0 (itg h).2)
theorem w_X4_play_67 {sa : Env3}  {σ : St} {r : St} (h : f_X4_play_67  σ = some r) : VV sa cX4_play K_X4_play 67 [] [] σ (pU r) 0 0 := by
  unfold f_X4_play_67 at h
  obtain rfl := Option.some.inj h
  exact v_vret (dq D_X4_play 35 rfl) rfl ⟨rfl, rfl⟩
theorem w_X4_play_31 {sa : Env3} : ∀ (n : Nat) {a0 : Nat} {a1 : Nat} {a2 : Int32} {a3 : Int32} {a4 : Int32} {σ : St} {r : St}, f_X4_play_31 n a0 a1 a2 a3 a4 σ = some r → VV sa cX4_play K_X4_play 31 [(0, .ref a0), (1, .ref a1), (2, .int a2), (3, .int a3), (4, .int a4)] [] σ (pU r) 0 0 := by
  intro n
  induction n with
  | zero => intro a0 a1 a2 a3 a4 σ r h; cases h
  | succ n ih =>
    intro a0 a1 a2 a3 a4 σ r h
    rw [e_X4_play_31] at h
    refine v_iload (dq D_X4_play 18 rfl) 4 rfl ?_
    refine v_iload_n (dq D_X4_play 19 rfl) 3 rfl ?_
    refine v_icmp_ge (dq D_X4_play 20 rfl) rfl (fun c1 => ?_) (fun c1 => ?_)
    · have h := itp h c1
      exact v_sub [] rfl (w_X4_play_67 h)
    · have h := itn h c1
      refine v_aload_n (dq D_X4_play 21 rfl) 1 rfl ?_
      refine v_aload_n (dq D_X4_play 22 rfl) 0 rfl ?_
      obtain ⟨x2, hx2, h⟩ := obi h
      refine v_gI (dq D_X4_play 23 rfl) fa_RX4_25 hx2 ?_
      obtain ⟨q3, hq3, h⟩ := obi h
      refine v_cVi (bc := 0) (bs := 0) (As := [.int x2]) (dq D_X4_play 24 rfl) cv_X5_has ml_RX4_35 (itg hq3).1 (m_X5_has hq3) rfl rfl (Nat.le_of_ble_eq_true rfl) ⟨Nat.le_of_ble_eq_true rfl, Nat.le_of_ble_eq_true rfl⟩ ⟨Nat.le_of_ble_eq_true rfl, Nat.le_of_ble_eq_true rfl⟩ ?_
      refine v_if_eq (dq D_X4_play 25 rfl) rfl (fun c4 => ?_) (fun c4 => ?_)
      · have h := itp h c4
        exact v_sub [] rfl (w_X4_play_67 h)
      · have h := itn h c4
        refine v_aload_n (dq D_X4_play 26 rfl) 0 rfl ?_
        obtain ⟨x5, hx5, h⟩ := obi h
        refine v_gI (dq D_X4_play 27 rfl) fa_RX4_31 hx5 ?_
        refine v_if_ne (dq D_X4_play 28 rfl) rfl (fun c6 => ?_) (fun c6 => ?_)
        · have h := itn h c6
          exact v_sub [] rfl (w_X4_play_67 h)
        · have h := itp h c6
          refine v_aload_n (dq D_X4_play 29 rfl) 0 rfl ?_
          refine v_aload_n (dq D_X4_play 30 rfl) 1 rfl ?_
          refine v_iload_n (dq D_X4_play 31 rfl) 2 rfl ?_
          obtain ⟨σ7, hσ7, h⟩ := obi h
          refine v_cVv (bc := 0) (bs := 0) (As := [.ref a1, .int a2]) (dq D_X4_play 32 rfl) cv_X4_playStep ml_RX4_41 (itg hσ7).1 (m_X4_playStep hσ7) rfl rfl (Nat.le_of_ble_eq_true rfl) ⟨Nat.le_of_ble_eq_true rfl, Nat.le_of_ble_eq_true rfl⟩ ⟨Nat.le_of_ble_eq_true rfl, Nat.le_of_ble_eq_true rfl⟩ ?_
          refine v_iinc (dq D_X4_play 33 rfl) 4 [(4, .int (a4 + 1)), (0, .ref a0), (1, .ref a1), (2, .int a2), (3, .int a3)] rfl kc_1 (Nat.le_of_ble_eq_true rfl) rfl ?_
          refine v_goto (dq D_X4_play 34 rfl) rfl ?_
          exact v_sub [1, 2, 3, 4, 0] rfl (ih h)
theorem w_X4_play_0 {sa : Env3} {a0 : Nat} {a1 : Nat} {a2 : Int32} {a3 : Int32} {σ : St} {r : St} (h : f_X4_play_0 a0 a1 a2 a3 σ = some r) : VV sa cX4_play K_X4_play 0 [(0, .ref a0), (1, .ref a1), (2, .int a2), (3, .int a3)] [] σ (pU r) 0 0 := by
  unfold f_X4_play_0 at h
  refine v_aload_n (dq D_X4_play 0 rfl) 0 rfl ?_
  obtain ⟨x1, hx1, h⟩ := obi h
  refine v_gR (dq D_X4_play 1 rfl) fa_RX4_9 hx1 ?_
  refine v_iconst (dq D_X4_play 2 rfl) kc_0 ?_
  obtain ⟨σ2, hσ2, h⟩ := obi h
  refine v_cSv (bc := 0) (bs := 0) (As := [.ref x1, .int 0]) (dq D_X4_play 3 rfl) cs_J7_fill_53178 ml_RX4_15 (m_J7_fill_53178 hσ2) rfl rfl (Nat.le_of_ble_eq_true rfl) ⟨Nat.le_of_ble_eq_true rfl, Nat.le_of_ble_eq_true rfl⟩ ⟨Nat.le_of_ble_eq_true rfl, Nat.le_of_ble_eq_true rfl⟩ ?_
  refine v_aload_n (dq D_X4_play 4 rfl) 0 rfl ?_
  refine v_iconst (dq D_X4_play 5 rfl) kc_0 ?_
  obtain ⟨σ3, hσ3, h⟩ := obi h
  refine v_pI (dq D_X4_play 6 rfl) fp_RX4_21 hσ3 ?_
  refine v_aload_n (dq D_X4_play 7 rfl) 0 rfl ?_
  refine v_iconst (dq D_X4_play 8 rfl) kc_0 ?_
  obtain ⟨σ4, hσ4, h⟩ := obi h
  refine v_pI (dq D_X4_play 9 rfl) fp_RX4_25 hσ4 ?_
  refine v_aload_n (dq D_X4_play 10 rfl) 0 rfl ?_
  refine v_iconst (dq D_X4_play 11 rfl) kc_0 ?_
  obtain ⟨σ5, hσ5, h⟩ := obi h
  refine v_pI (dq D_X4_play 12 rfl) fp_RX4_28 hσ5 ?_
  refine v_aload_n (dq D_X4_play 13 rfl) 0 rfl ?_
  refine v_iconst (dq D_X4_play 14 rfl) kc_0 ?_
  obtain ⟨σ6, hσ6, h⟩ := obi h
  refine v_pZ (dq D_X4_play 15 rfl) fp_RX4_31 hσ6 ?_
  refine v_iconst (dq D_X4_play 16 rfl) kc_0 ?_
  refine v_istore (dq D_X4_play 17 rfl) [(4, .int 0), (0, .ref a0), (1, .ref a1), (2, .int a2), (3, .int a3)] (Nat.le_of_ble_eq_true rfl) rfl ?_
  exact v_sub [1, 2, 3, 4, 0] rfl (w_X4_play_31 _ h)
theorem m_X4_play {sa : Env3} {a0 : Nat} {a1 : Nat} {a2 : Int32} {a3 : Int32} {σ : St} {r : St} (h : f_X4_play a0 a1 a2 a3 σ = some r) : Ex sa yX4_play cX4_play K_X4_play [.ref a0, .ref a1, .int a2, .int a3] σ (pU r) := Ex.of (by decide) rfl (fun q => nomatch q) (Nat.le_of_ble_eq_true rfl) (w_X4_play_0 (itg h).2)
theorem w_X4_firstNotGot_2 {sa : Env3} : ∀ (n : Nat) {a0 : Nat} {a1 : Nat} {a2 : Int32} {σ : St} {r : Int32 × St}, f_X4_firstNotGot_2 n a0 a1 a2 σ = some r → VV sa cX4_firstNotGot K_X4_firstNotGot 2 [(0, .ref a0), (1, .ref a1), (2, .int a2)] [] σ (pO r) 0 0 := by
  intro n
  induction n with
  | zero => intro a0 a1 a2 σ r h; cases h
  | succ n ih =>
    intro a0 a1 a2 σ r h
    rw [e_X4_firstNotGot_2] at h
    refine v_iload_n (dq D_X4_firstNotGot 2 rfl) 2 rfl ?_
    refine v_aload_n (dq D_X4_firstNotGot 3 rfl) 1 rfl ?_
    obtain ⟨x1, hx1, h⟩ := obi h
    refine v_gI (dq D_X4_firstNotGot 4 rfl) fa_RX4_78 hx1 ?_
    refine v_icmp_ge (dq D_X4_firstNotGot 5 rfl) rfl (fun c2 => ?_) (fun c2 => ?_)
    · have h := itp h c2
      refine v_bipush (dq D_X4_firstNotGot 22 rfl) kb_m2 ?_
      obtain rfl := Option.some.inj h
      exact v_iret (dq D_X4_firstNotGot 23 rfl) rfl ⟨rfl, rfl⟩
    · have h := itn h c2
      refine v_aload_n (dq D_X4_firstNotGot 6 rfl) 0 rfl ?_
      obtain ⟨x3, hx3, h⟩ := obi h
      refine v_gR (dq D_X4_firstNotGot 7 rfl) fa_RX4_9 hx3 ?_
      refine v_aload_n (dq D_X4_firstNotGot 8 rfl) 1 rfl ?_
      obtain ⟨x4, hx4, h⟩ := obi h
      refine v_gR (dq D_X4_firstNotGot 9 rfl) fa_RX4_81 hx4 ?_
      refine v_iload_n (dq D_X4_firstNotGot 10 rfl) 2 rfl ?_
      obtain ⟨x5, hx5, h⟩ := obi h
      refine v_iald (dq D_X4_firstNotGot 11 rfl) hx5 ?_
      obtain ⟨x6, hx6, h⟩ := obi h
      refine v_iald (dq D_X4_firstNotGot 12 rfl) hx6 ?_
      refine v_aload_n (dq D_X4_firstNotGot 13 rfl) 1 rfl ?_
      obtain ⟨x7, hx7, h⟩ := obi h
      refine v_gR (dq D_X4_firstNotGot 14 rfl) fa_RX4_84 hx7 ?_
      refine v_iload_n (dq D_X4_firstNotGot 15 rfl) 2 rfl ?_
      obtain ⟨x8, hx8, h⟩ := obi h
      refine v_iald (dq D_X4_firstNotGot 16 rfl) hx8 ?_
      refine v_icmp_eq (dq D_X4_firstNotGot 17 rfl) rfl (fun c9 => ?_) (fun c9 => ?_)
      · have h := itp h c9
        refine v_iinc (dq D_X4_firstNotGot 20 rfl) 2 [(2, .int (a2 + 1)), (0, .ref a0), (1, .ref a1)] rfl kc_1 (Nat.le_of_ble_eq_true rfl) rfl ?_
        refine v_goto (dq D_X4_firstNotGot 21 rfl) rfl ?_
        exact v_sub [1, 2, 0] rfl (ih h)
      · have h := itn h c9
        refine v_iload_n (dq D_X4_firstNotGot 18 rfl) 2 rfl ?_
        obtain rfl := Option.some.inj h
        exact v_iret (dq D_X4_firstNotGot 19 rfl) rfl ⟨rfl, rfl⟩
theorem w_X4_firstNotGot_0 {sa : Env3} {a0 : Nat} {a1 : Nat} {σ : St} {r : Int32 × St} (h : f_X4_firstNotGot_0 a0 a1 σ = some r) : VV sa cX4_firstNotGot K_X4_firstNotGot 0 [(0, .ref a0), (1, .ref a1)] [] σ (pO r) 0 0 := by
  unfold f_X4_firstNotGot_0 at h
  refine v_iconst (dq D_X4_firstNotGot 0 rfl) kc_0 ?_
  refine v_istore_n (dq D_X4_firstNotGot 1 rfl) [(2, .int 0), (0, .ref a0), (1, .ref a1)] rfl (Nat.le_of_ble_eq_true rfl) rfl ?_
  exact v_sub [1, 2, 0] rfl (w_X4_firstNotGot_2 _ h)
theorem m_X4_firstNotGot {sa : Env3} {a0 : Nat} {a1 : Nat} {σ : St} {r : Int32 × St} (h : f_X4_firstNotGot a0 a1 σ = some r) : Ex sa yX4_firstNotGot cX4_firstNotGot K_X4_firstNotGot [.ref a0, .ref a1] σ (pO r) := Ex.of (by decide) rfl (fun q => nomatch q) (Nat.le_of_ble_eq_true rfl) (w_X4_firstNotGot_0 (itg h).2)
theorem w_X1_find_54 {sa : Env3} {k15 : Nat → Nat → Nat → Int32 → St → Option (St)} (hk15 : ∀ {a0 : Nat} {a1 : Nat} {a2 : Nat} {a3 : Int32} {σ : St} {r : St}, k15 a0 a1 a2 a3 σ = some r → VV sa cX1_find K_X1_find 15 [(0, .ref a0), (1, .ref a1), (2, .ref a2), (3, .int a3)] [] σ (pU r) 0 0) {a0 : Nat} {a1 : Nat} {a2 : Nat} {a3 : Int32} {σ : St} {r : St} (h : f_X1_find_54 k15 a0 a1 a2 a3 σ = some r) : VV sa cX1_find K_X1_find 54 [(0, .ref a0), (1, .ref a1), (2, .ref a2), (3, .int a3)] [] σ (pU r) 0 0 := by
  unfold f_X1_find_54 at h
  refine v_iinc (dq D_X1_find 32 rfl) 3 [(3, .int (a3 + 1)), (0, .ref a0), (1, .ref a1), (2, .ref a2)] rfl kc_1 (Nat.le_of_ble_eq_true rfl) rfl ?_
  refine v_goto (dq D_X1_find 33 rfl) rfl ?_
  exact v_sub [1, 2, 3, 0] rfl (hk15 h)
theorem w_X1_find_15 {sa : Env3} : ∀ (n : Nat) {a0 : Nat} {a1 : Nat} {a2 : Nat} {a3 : Int32} {σ : St} {r : St}, f_X1_find_15 n a0 a1 a2 a3 σ = some r → VV sa cX1_find K_X1_find 15 [(0, .ref a0), (1, .ref a1), (2, .ref a2), (3, .int a3)] [] σ (pU r) 0 0 := by
  intro n
  induction n with
  | zero => intro a0 a1 a2 a3 σ r h; cases h
  | succ n ih =>
    intro a0 a1 a2 a3 σ r h
    rw [e_X1_find_15] at h
    refine v_iload_n (dq D_X1_find 9 rfl) 3 rfl ?_
    refine v_iconst (dq D_X1_find 10 rfl) kc_1 ?_
    refine v_aload_n (dq D_X1_find 11 rfl) 0 rfl ?_
    obtain ⟨x1, hx1, h⟩ := obi h
    refine v_gI (dq D_X1_find 12 rfl) fa_RX1_20 hx1 ?_
    refine v_ishl (dq D_X1_find 13 rfl) ?_
    refine v_icmp_ge (dq D_X1_find 14 rfl) rfl (fun c2 => ?_) (fun c2 => ?_)
    · have h := itp h c2
      obtain rfl := Option.some.inj h
      exact v_vret (dq D_X1_find 34 rfl) rfl ⟨rfl, rfl⟩
    · have h := itn h c2
      refine v_aload_n (dq D_X1_find 15 rfl) 2 rfl ?_
      refine v_aload_n (dq D_X1_find 16 rfl) 1 rfl ?_
      refine v_iload_n (dq D_X1_find 17 rfl) 3 rfl ?_
      refine v_sipush (dq D_X1_find 18 rfl) ks_200 ?_
      obtain ⟨σ3, hσ3, h⟩ := obi h
      refine v_cVv (bc := 0) (bs := 0) (As := [.ref a1, .int a3, .int 200]) (dq D_X1_find 19 rfl) cv_X4_play ml_RX1_21 (itg hσ3).1 (m_X4_play hσ3) rfl rfl (Nat.le_of_ble_eq_true rfl) ⟨Nat.le_of_ble_eq_true rfl, Nat.le_of_ble_eq_true rfl⟩ ⟨Nat.le_of_ble_eq_true rfl, Nat.le_of_ble_eq_true rfl⟩ ?_
      refine v_aload_n (dq D_X1_find 20 rfl) 2 rfl ?_
      refine v_aload_n (dq D_X1_find 21 rfl) 1 rfl ?_
      obtain ⟨q4, hq4, h⟩ := obi h
      refine v_cVi (bc := 0) (bs := 0) (As := [.ref a1]) (dq D_X1_find 22 rfl) cv_X4_firstNotGot ml_RX1_27 (itg hq4).1 (m_X4_firstNotGot hq4) rfl rfl (Nat.le_of_ble_eq_true rfl) ⟨Nat.le_of_ble_eq_true rfl, Nat.le_of_ble_eq_true rfl⟩ ⟨Nat.le_of_ble_eq_true rfl, Nat.le_of_ble_eq_true rfl⟩ ?_
      refine v_if_ge (dq D_X1_find 23 rfl) rfl (fun c5 => ?_) (fun c5 => ?_)
      · have h := itp h c5
        exact w_X1_find_54 ih h
      · have h := itn h c5
        refine v_aload_n (dq D_X1_find 24 rfl) 0 rfl ?_
        refine v_dup (dq D_X1_find 25 rfl) rfl ?_
        obtain ⟨x6, hx6, h⟩ := obi h
        refine v_gI (dq D_X1_find 26 rfl) fa_RX1_9 hx6 ?_
        refine v_iconst (dq D_X1_find 27 rfl) kc_1 ?_
        refine v_iload_n (dq D_X1_find 28 rfl) 3 rfl ?_
        refine v_ishl (dq D_X1_find 29 rfl) ?_
        refine v_ior (dq D_X1_find 30 rfl) ?_
        obtain ⟨σ7, hσ7, h⟩ := obi h
        refine v_pI (dq D_X1_find 31 rfl) fp_RX1_9 hσ7 ?_
        exact w_X1_find_54 ih h
theorem w_X1_find_0 {sa : Env3} {a0 : Nat} {a1 : Nat} {a2 : Nat} {σ : St} {r : St} (h : f_X1_find_0 a0 a1 a2 σ = some r) : VV sa cX1_find K_X1_find 0 [(0, .ref a0), (1, .ref a1), (2, .ref a2)] [] σ (pU r) 0 0 := by
  unfold f_X1_find_0 at h
  refine v_aload_n (dq D_X1_find 0 rfl) 0 rfl ?_
  refine v_iconst (dq D_X1_find 1 rfl) kc_0 ?_
  obtain ⟨σ1, hσ1, h⟩ := obi h
  refine v_pI (dq D_X1_find 2 rfl) fp_RX1_9 hσ1 ?_
  refine v_aload_n (dq D_X1_find 3 rfl) 0 rfl ?_
  refine v_aload_n (dq D_X1_find 4 rfl) 1 rfl ?_
  obtain ⟨x2, hx2, h⟩ := obi h
  refine v_gI (dq D_X1_find 5 rfl) fa_RX1_15 hx2 ?_
  obtain ⟨σ3, hσ3, h⟩ := obi h
  refine v_pI (dq D_X1_find 6 rfl) fp_RX1_20 hσ3 ?_
  refine v_iconst (dq D_X1_find 7 rfl) kc_0 ?_
  refine v_istore_n (dq D_X1_find 8 rfl) [(3, .int 0), (0, .ref a0), (1, .ref a1), (2, .ref a2)] rfl (Nat.le_of_ble_eq_true rfl) rfl ?_
  exact v_sub [1, 2, 3, 0] rfl (w_X1_find_15 _ h)
theorem m_X1_find {sa : Env3} {a0 : Nat} {a1 : Nat} {a2 : Nat} {σ : St} {r : St} (h : f_X1_find a0 a1 a2 σ = some r) : Ex sa yX1_find cX1_find K_X1_find [.ref a0, .ref a1, .ref a2] σ (pU r) := Ex.of (by decide) rfl (fun q => nomatch q) (Nat.le_of_ble_eq_true rfl) (w_X1_find_0 (itg h).2)
theorem w_X1_inAll_46 {sa : Env3} {k22 : Nat → Int32 → Int32 → St → Option (Int32 × St)} (hk22 : ∀ {a0 : Nat} {a1 : Int32} {a2 : Int32} {σ : St} {r : Int32 × St}, k22 a0 a1 a2 σ = some r → VV sa cX1_inAll K_X1_inAll 22 [(0, .ref a0), (1, .int a1), (2, .int a2)] [] σ (pO r) 0 0) {a0 : Nat} {a2 : Int32} {s0 : Int32} {s1 : Int32} {σ : St} {r : Int32 × St} (h : f_X1_inAll_46 k22 a0 a2 s0 s1 σ = some r) : VV sa cX1_inAll K_X1_inAll 46 [(0, .ref a0), (2, .int a2)] [.int s1, .int s0] σ (pO r) 0 0 := by
  unfold f_X1_inAll_46 at h
  refine v_iand (dq D_X1_inAll 28 rfl) ?_
  obtain ⟨x1, ex1, h⟩ := bnd_inv h
  refine v_top (congrArg Value.int ex1) ?_
  refine v_istore_n (dq D_X1_inAll 29 rfl) [(1, .int x1), (0, .ref a0), (2, .int a2)] rfl (Nat.le_of_ble_eq_true rfl) rfl ?_
  refine v_iinc (dq D_X1_inAll 30 rfl) 2 [(2, .int (a2 + 1)), (1, .int x1), (0, .ref a0)] rfl kc_1 (Nat.le_of_ble_eq_true rfl) rfl ?_
  refine v_goto (dq D_X1_inAll 31 rfl) rfl ?_
  exact v_sub [2, 1, 0] rfl (hk22 h)
theorem w_X1_inAll_22 {sa : Env3} : ∀ (n : Nat) {a0 : Nat} {a1 : Int32} {a2 : Int32} {σ : St} {r : Int32 × St}, f_X1_inAll_22 n a0 a1 a2 σ = some r → VV sa cX1_inAll K_X1_inAll 22 [(0, .ref a0), (1, .int a1), (2, .int a2)] [] σ (pO r) 0 0 := by
  intro n
  induction n with
  | zero => intro a0 a1 a2 σ r h; cases h
  | succ n ih =>
    intro a0 a1 a2 σ r h
    rw [e_X1_inAll_22] at h
    refine v_iload_n (dq D_X1_inAll 14 rfl) 2 rfl ?_
    refine v_iconst (dq D_X1_inAll 15 rfl) kc_1 ?_
    refine v_aload_n (dq D_X1_inAll 16 rfl) 0 rfl ?_
    obtain ⟨x1, hx1, h⟩ := obi h
    refine v_gI (dq D_X1_inAll 17 rfl) fa_RX1_20 hx1 ?_
    refine v_ishl (dq D_X1_inAll 18 rfl) ?_
    refine v_icmp_ge (dq D_X1_inAll 19 rfl) rfl (fun c2 => ?_) (fun c2 => ?_)
    · have h := itp h c2
      refine v_iload_n (dq D_X1_inAll 32 rfl) 1 rfl ?_
      obtain rfl := Option.some.inj h
      exact v_iret (dq D_X1_inAll 33 rfl) rfl ⟨rfl, rfl⟩
    · have h := itn h c2
      refine v_iload_n (dq D_X1_inAll 20 rfl) 1 rfl ?_
      refine v_aload_n (dq D_X1_inAll 21 rfl) 0 rfl ?_
      refine v_iload_n (dq D_X1_inAll 22 rfl) 2 rfl ?_
      obtain ⟨q3, hq3, h⟩ := obi h
      refine v_cVi (bc := 0) (bs := 0) (As := [.int a2]) (dq D_X1_inAll 23 rfl) cv_X1_fitsBy ml_RX1_37 (itg hq3).1 (m_X1_fitsBy hq3) rfl rfl (Nat.le_of_ble_eq_true rfl) ⟨Nat.le_of_ble_eq_true rfl, Nat.le_of_ble_eq_true rfl⟩ ⟨Nat.le_of_ble_eq_true rfl, Nat.le_of_ble_eq_true rfl⟩ ?_
      refine v_if_eq (dq D_X1_inAll 24 rfl) rfl (fun c4 => ?_) (fun c4 => ?_)
      · have h := itp h c4
        refine v_iload_n (dq D_X1_inAll 27 rfl) 1 rfl ?_
        exact v_sub [0, 2] rfl (w_X1_inAll_46 ih h)
      · have h := itn h c4
        refine v_iload_n (dq D_X1_inAll 25 rfl) 2 rfl ?_
        refine v_goto (dq D_X1_inAll 26 rfl) rfl ?_
        exact v_sub [0, 2] rfl (w_X1_inAll_46 ih h)
theorem w_X1_inAll_19 {sa : Env3} {a0 : Nat} {s0 : Int32} {σ : St} {r : Int32 × St} (h : f_X1_inAll_19 a0 s0 σ = some r) : VV sa cX1_inAll K_X1_inAll 19 [(0, .ref a0)] [.int s0] σ (pO r) 0 0 := by
  unfold f_X1_inAll_19 at h
  refine v_istore_n (dq D_X1_inAll 11 rfl) [(1, .int s0), (0, .ref a0)] rfl (Nat.le_of_ble_eq_true rfl) rfl ?_
  refine v_iconst (dq D_X1_inAll 12 rfl) kc_0 ?_
  refine v_istore_n (dq D_X1_inAll 13 rfl) [(2, .int 0), (1, .int s0), (0, .ref a0)] rfl (Nat.le_of_ble_eq_true rfl) rfl ?_
  exact v_sub [2, 1, 0] rfl (w_X1_inAll_22 _ h)
theorem w_X1_inAll_0 {sa : Env3} {a0 : Nat} {σ : St} {r : Int32 × St} (h : f_X1_inAll_0 a0 σ = some r) : VV sa cX1_inAll K_X1_inAll 0 [(0, .ref a0)] [] σ (pO r) 0 0 := by
  unfold f_X1_inAll_0 at h
  refine v_aload_n (dq D_X1_inAll 0 rfl) 0 rfl ?_
  obtain ⟨x1, hx1, h⟩ := obi h
  refine v_gI (dq D_X1_inAll 1 rfl) fa_RX1_9 hx1 ?_
  refine v_if_ne (dq D_X1_inAll 2 rfl) rfl (fun c2 => ?_) (fun c2 => ?_)
  · have h := itn h c2
    refine v_iconst (dq D_X1_inAll 5 rfl) kc_1 ?_
    refine v_aload_n (dq D_X1_inAll 6 rfl) 0 rfl ?_
    obtain ⟨x3, hx3, h⟩ := obi h
    refine v_gI (dq D_X1_inAll 7 rfl) fa_RX1_20 hx3 ?_
    refine v_ishl (dq D_X1_inAll 8 rfl) ?_
    refine v_iconst (dq D_X1_inAll 9 rfl) kc_1 ?_
    refine v_isub (dq D_X1_inAll 10 rfl) ?_
    exact w_X1_inAll_19 h
  · have h := itp h c2
    refine v_iconst (dq D_X1_inAll 3 rfl) kc_0 ?_
    refine v_goto (dq D_X1_inAll 4 rfl) rfl ?_
    exact w_X1_inAll_19 h
theorem m_X1_inAll {sa : Env3} {a0 : Nat} {σ : St} {r : Int32 × St} (h : f_X1_inAll a0 σ = some r) : Ex sa yX1_inAll cX1_inAll K_X1_inAll [.ref a0] σ (pO r) := Ex.of (by decide) rfl (fun q => nomatch q) (Nat.le_of_ble_eq_true rfl) (w_X1_inAll_0 (itg h).2)
theorem w_X1_inSome_28 {sa : Env3} {k4 : Nat → Int32 → Int32 → St → Option (Int32 × St)} (hk4 : ∀ {a0 : Nat} {a1 : Int32} {a2 : Int32} {σ : St} {r : Int32 × St}, k4 a0 a1 a2 σ = some r → VV sa cX1_inSome K_X1_inSome 4 [(0, .ref a0), (1, .int a1), (2, .int a2)] [] σ (pO r) 0 0) {a0 : Nat} {a2 : Int32} {s0 : Int32} {s1 : Int32} {σ : St} {r : Int32 × St} (h : f_X1_inSome_28 k4 a0 a2 s0 s1 σ = some r) : VV sa cX1_inSome K_X1_inSome 28 [(0, .ref a0), (2, .int a2)] [.int s1, .int s0] σ (pO r) 0 0 := by
  unfold f_X1_inSome_28 at h
  refine v_ior (dq D_X1_inSome 18 rfl) ?_
  obtain ⟨x1, ex1, h⟩ := bnd_inv h
  refine v_top (congrArg Value.int ex1) ?_
  refine v_istore_n (dq D_X1_inSome 19 rfl) [(1, .int x1), (0, .ref a0), (2, .int a2)] rfl (Nat.le_of_ble_eq_true rfl) rfl ?_
  refine v_iinc (dq D_X1_inSome 20 rfl) 2 [(2, .int (a2 + 1)), (1, .int x1), (0, .ref a0)] rfl kc_1 (Nat.le_of_ble_eq_true rfl) rfl ?_
  refine v_goto (dq D_X1_inSome 21 rfl) rfl ?_
  exact v_sub [2, 1, 0] rfl (hk4 h)
theorem w_X1_inSome_4 {sa : Env3} : ∀ (n : Nat) {a0 : Nat} {a1 : Int32} {a2 : Int32} {σ : St} {r : Int32 × St}, f_X1_inSome_4 n a0 a1 a2 σ = some r → VV sa cX1_inSome K_X1_inSome 4 [(0, .ref a0), (1, .int a1), (2, .int a2)] [] σ (pO r) 0 0 := by
  intro n
  induction n with
  | zero => intro a0 a1 a2 σ r h; cases h
  | succ n ih =>
    intro a0 a1 a2 σ r h
    rw [e_X1_inSome_4] at h
    refine v_iload_n (dq D_X1_inSome 4 rfl) 2 rfl ?_
    refine v_iconst (dq D_X1_inSome 5 rfl) kc_1 ?_
    refine v_aload_n (dq D_X1_inSome 6 rfl) 0 rfl ?_
    obtain ⟨x1, hx1, h⟩ := obi h
    refine v_gI (dq D_X1_inSome 7 rfl) fa_RX1_20 hx1 ?_
    refine v_ishl (dq D_X1_inSome 8 rfl) ?_
    refine v_icmp_ge (dq D_X1_inSome 9 rfl) rfl (fun c2 => ?_) (fun c2 => ?_)
    · have h := itp h c2
      refine v_iload_n (dq D_X1_inSome 22 rfl) 1 rfl ?_
      obtain rfl := Option.some.inj h
      exact v_iret (dq D_X1_inSome 23 rfl) rfl ⟨rfl, rfl⟩
    · have h := itn h c2
      refine v_iload_n (dq D_X1_inSome 10 rfl) 1 rfl ?_
      refine v_aload_n (dq D_X1_inSome 11 rfl) 0 rfl ?_
      refine v_iload_n (dq D_X1_inSome 12 rfl) 2 rfl ?_
      obtain ⟨q3, hq3, h⟩ := obi h
      refine v_cVi (bc := 0) (bs := 0) (As := [.int a2]) (dq D_X1_inSome 13 rfl) cv_X1_fitsBy ml_RX1_37 (itg hq3).1 (m_X1_fitsBy hq3) rfl rfl (Nat.le_of_ble_eq_true rfl) ⟨Nat.le_of_ble_eq_true rfl, Nat.le_of_ble_eq_true rfl⟩ ⟨Nat.le_of_ble_eq_true rfl, Nat.le_of_ble_eq_true rfl⟩ ?_
      refine v_if_eq (dq D_X1_inSome 14 rfl) rfl (fun c4 => ?_) (fun c4 => ?_)
      · have h := itp h c4
        refine v_iconst (dq D_X1_inSome 17 rfl) kc_0 ?_
        exact v_sub [0, 2] rfl (w_X1_inSome_28 ih h)
      · have h := itn h c4
        refine v_iload_n (dq D_X1_inSome 15 rfl) 2 rfl ?_
        refine v_goto (dq D_X1_inSome 16 rfl) rfl ?_
        exact v_sub [0, 2] rfl (w_X1_inSome_28 ih h)
theorem w_X1_inSome_0 {sa : Env3} {a0 : Nat} {σ : St} {r : Int32 × St} (h : f_X1_inSome_0 a0 σ = some r) : VV sa cX1_inSome K_X1_inSome 0 [(0, .ref a0)] [] σ (pO r) 0 0 := by
  unfold f_X1_inSome_0 at h
  refine v_iconst (dq D_X1_inSome 0 rfl) kc_0 ?_
  refine v_istore_n (dq D_X1_inSome 1 rfl) [(1, .int 0), (0, .ref a0)] rfl (Nat.le_of_ble_eq_true rfl) rfl ?_
  refine v_iconst (dq D_X1_inSome 2 rfl) kc_0 ?_
  refine v_istore_n (dq D_X1_inSome 3 rfl) [(2, .int 0), (1, .int 0), (0, .ref a0)] rfl (Nat.le_of_ble_eq_true rfl) rfl ?_
  exact v_sub [2, 1, 0] rfl (w_X1_inSome_4 _ h)
theorem m_X1_inSome {sa : Env3} {a0 : Nat} {σ : St} {r : Int32 × St} (h : f_X1_inSome a0 σ = some r) : Ex sa yX1_inSome cX1_inSome K_X1_inSome [.ref a0] σ (pO r) := Ex.of (by decide) rfl (fun q => nomatch q) (Nat.le_of_ble_eq_true rfl) (w_X1_inSome_0 (itg h).2)
theorem w_X1_init_0 {sa : Env3} {a0 : Nat} {σ : St} {r : St} (h : f_X1_init_0 a0 σ = some r) : VV sa cX1_init K_X1_init 0 [(0, .ref a0)] [] σ (pU r) 0 0 := by
  unfold f_X1_init_0 at h
  refine v_aload_n (dq D_X1_init 0 rfl) 0 rfl ?_
  refine v_objI (dq D_X1_init 1 rfl) tw_361 tw_30 tw_31 (Nat.le_of_ble_eq_true rfl) (Nat.le_of_ble_eq_true rfl) ?_
  obtain rfl := Option.some.inj h
  exact v_vret (dq D_X1_init 2 rfl) rfl ⟨rfl, rfl⟩
theorem m_X1_init {sa : Env3} {a0 : Nat} {σ : St} {r : St} (h : f_X1_init a0 σ = some r) : Ex sa yX1_init cX1_init K_X1_init [.ref a0] σ (pU r) := Ex.of (by decide) rfl (fun _ => rfl) (Nat.le_of_ble_eq_true rfl) (w_X1_init_0 (itg h).2)
theorem w_X1_nth_31 {sa : Env3} {k4 : Nat → Int32 → Int32 → St → Option (Int32 × St)} (hk4 : ∀ {a0 : Nat} {a2 : Int32} {a3 : Int32} {σ : St} {r : Int32 × St}, k4 a0 a2 a3 σ = some r → VV sa cX1_nth K_X1_nth 4 [(0, .ref a0), (2, .int a2), (3, .int a3)] [] σ (pO r) 0 0) {a0 : Nat} {a2 : Int32} {a3 : Int32} {σ : St} {r : Int32 × St} (h : f_X1_nth_31 k4 a0 a2 a3 σ = some r) : VV sa cX1_nth K_X1_nth 31 [(0, .ref a0), (2, .int a2), (3, .int a3)] [] σ (pO r) 0 0 := by
  unfold f_X1_nth_31 at h
  refine v_iinc (dq D_X1_nth 19 rfl) 2 [(3, .int (a3 + 1)), (0, .ref a0), (2, .int a2)] rfl kc_1 (Nat.le_of_ble_eq_true rfl) rfl ?_
  refine v_goto (dq D_X1_nth 20 rfl) rfl ?_
  exact v_sub [1, 2, 0] rfl (hk4 h)
theorem w_X1_nth_4 {sa : Env3} : ∀ (n : Nat) {a0 : Nat} {a2 : Int32} {a3 : Int32} {σ : St} {r : Int32 × St}, f_X1_nth_4 n a0 a2 a3 σ = some r → VV sa cX1_nth K_X1_nth 4 [(0, .ref a0), (2, .int a2), (3, .int a3)] [] σ (pO r) 0 0 := by
  intro n
  induction n with
  | zero => intro a0 a2 a3 σ r h; cases h
  | succ n ih =>
    intro a0 a2 a3 σ r h
    rw [e_X1_nth_4] at h
    refine v_iload_n (dq D_X1_nth 4 rfl) 2 rfl ?_
    refine v_iconst (dq D_X1_nth 5 rfl) kc_1 ?_
    refine v_aload_n (dq D_X1_nth 6 rfl) 0 rfl ?_
    obtain ⟨x1, hx1, h⟩ := obi h
    refine v_gI (dq D_X1_nth 7 rfl) fa_RX1_20 hx1 ?_
    refine v_ishl (dq D_X1_nth 8 rfl) ?_
    refine v_icmp_ge (dq D_X1_nth 9 rfl) rfl (fun c2 => ?_) (fun c2 => ?_)
    · have h := itp h c2
      refine v_iconst (dq D_X1_nth 21 rfl) kc_m1 ?_
      obtain rfl := Option.some.inj h
      exact v_iret (dq D_X1_nth 22 rfl) rfl ⟨rfl, rfl⟩
    · have h := itn h c2
      refine v_aload_n (dq D_X1_nth 10 rfl) 0 rfl ?_
      refine v_iload_n (dq D_X1_nth 11 rfl) 2 rfl ?_
      obtain ⟨q3, hq3, h⟩ := obi h
      refine v_cVi (bc := 0) (bs := 0) (As := [.int a3]) (dq D_X1_nth 12 rfl) cv_X1_fitsBy ml_RX1_37 (itg hq3).1 (m_X1_fitsBy hq3) rfl rfl (Nat.le_of_ble_eq_true rfl) ⟨Nat.le_of_ble_eq_true rfl, Nat.le_of_ble_eq_true rfl⟩ ⟨Nat.le_of_ble_eq_true rfl, Nat.le_of_ble_eq_true rfl⟩ ?_
      refine v_if_eq (dq D_X1_nth 13 rfl) rfl (fun c4 => ?_) (fun c4 => ?_)
      · have h := itp h c4
        exact w_X1_nth_31 ih h
      · have h := itn h c4
        refine v_iload_n (dq D_X1_nth 14 rfl) 1 rfl ?_
        refine v_if_ne (dq D_X1_nth 15 rfl) rfl (fun c5 => ?_) (fun c5 => ?_)
        · have h := itn h c5
          refine v_iinc (dq D_X1_nth 18 rfl) 1 [(2, .int (a2 + (-1))), (0, .ref a0), (3, .int a3)] rfl kc_m1 (Nat.le_of_ble_eq_true rfl) rfl ?_
          exact v_sub [1, 0, 2] rfl (w_X1_nth_31 ih h)
        · have h := itp h c5
          refine v_iload_n (dq D_X1_nth 16 rfl) 2 rfl ?_
          obtain rfl := Option.some.inj h
          exact v_iret (dq D_X1_nth 17 rfl) rfl ⟨rfl, rfl⟩
theorem w_X1_nth_0 {sa : Env3} {a0 : Nat} {a1 : Int32} {σ : St} {r : Int32 × St} (h : f_X1_nth_0 a0 a1 σ = some r) : VV sa cX1_nth K_X1_nth 0 [(0, .ref a0), (1, .int a1)] [] σ (pO r) 0 0 := by
  unfold f_X1_nth_0 at h
  refine v_iload_n (dq D_X1_nth 0 rfl) 1 rfl ?_
  refine v_istore_n (dq D_X1_nth 1 rfl) [(2, .int a1), (0, .ref a0), (1, .int a1)] rfl (Nat.le_of_ble_eq_true rfl) rfl ?_
  refine v_iconst (dq D_X1_nth 2 rfl) kc_0 ?_
  refine v_istore_n (dq D_X1_nth 3 rfl) [(3, .int 0), (2, .int a1), (0, .ref a0), (1, .int a1)] rfl (Nat.le_of_ble_eq_true rfl) rfl ?_
  exact v_sub [2, 1, 0] rfl (w_X1_nth_4 _ h)
theorem m_X1_nth {sa : Env3} {a0 : Nat} {a1 : Int32} {σ : St} {r : Int32 × St} (h : f_X1_nth a0 a1 σ = some r) : Ex sa yX1_nth cX1_nth K_X1_nth [.ref a0, .int a1] σ (pO r) := Ex.of (by decide) rfl (fun q => nomatch q) (Nat.le_of_ble_eq_true rfl) (w_X1_nth_0 (itg h).2)
theorem w_X2_forget_0 {sa : Env3} {a0 : Nat} {σ : St} {r : St} (h : f_X2_forget_0 a0 σ = some r) : VV sa cX2_forget K_X2_forget 0 [(0, .ref a0)] [] σ (pU r) 0 0 := by
  unfold f_X2_forget_0 at h
  refine v_aload_n (dq D_X2_forget 0 rfl) 0 rfl ?_
  refine v_iconst (dq D_X2_forget 1 rfl) kc_0 ?_
  obtain ⟨σ1, hσ1, h⟩ := obi h
  refine v_pI (dq D_X2_forget 2 rfl) fp_RX2_23 hσ1 ?_
  refine v_aload_n (dq D_X2_forget 3 rfl) 0 rfl ?_
  refine v_iconst (dq D_X2_forget 4 rfl) kc_0 ?_
  obtain ⟨σ2, hσ2, h⟩ := obi h
  refine v_pI (dq D_X2_forget 5 rfl) fp_RX2_27 hσ2 ?_
  obtain rfl := Option.some.inj h
  exact v_vret (dq D_X2_forget 6 rfl) rfl ⟨rfl, rfl⟩
theorem m_X2_forget {sa : Env3} {a0 : Nat} {σ : St} {r : St} (h : f_X2_forget a0 σ = some r) : Ex sa yX2_forget cX2_forget K_X2_forget [.ref a0] σ (pU r) := Ex.of (by decide) rfl (fun q => nomatch q) (Nat.le_of_ble_eq_true rfl) (w_X2_forget_0 (itg h).2)
theorem w_X2_init_51 {sa : Env3} : ∀ (n : Nat) {a0 : Nat} {a1 : Nat} {a2 : Int32} {σ : St} {r : St} (j : Nat), j ≤ 3 → a2 = nI j → f_X2_init_51 n a0 a1 a2 σ = some r → VV sa cX2_init K_X2_init 51 [(0, .ref a0), (1, .ref a1), (2, .int a2)] [] σ (pU r) (7 * (3 - j) + 0) (100 * (3 - j) + 0) := by
  intro n
  induction n with
  | zero => intro a0 a1 a2 σ r j hjN hj h; cases h
  | succ n ih =>
    intro a0 a1 a2 σ r j hjN hj h
    rw [e_X2_init_51] at h
    refine v_iload_n (dq D_X2_init 27 rfl) 2 rfl ?_
    refine v_iconst (dq D_X2_init 28 rfl) kc_3 ?_
    refine v_icmp_ge (dq D_X2_init 29 rfl) rfl (fun c1 => ?_) (fun c1 => ?_)
    · have h := itp h c1
      obtain rfl := Option.some.inj h
      exact v_vret (dq D_X2_init 40 rfl) rfl ⟨rfl, rfl⟩
    · have h := itn h c1
      have hlt : j < 3 := by
        rcases Nat.lt_or_ge j 3 with q | q
        · exact q
        · exact absurd (show (3 : Int32) ≤ a2 by
            rw [hj]; exact nI_le (a := 3) q (by omega)) c1
      refine v_aload_n (dq D_X2_init 30 rfl) 0 rfl ?_
      obtain ⟨x2, hx2, h⟩ := obi h
      refine v_gR (dq D_X2_init 31 rfl) fa_RX2_17 hx2 ?_
      refine v_iload_n (dq D_X2_init 32 rfl) 2 rfl ?_
      obtain ⟨σ3, hσ3, h⟩ := bnd_inv h
      refine v_new (bc := 7 * (3 - (j + 1)) + 0 + 6) (bs := 100 * (3 - (j + 1)) + 0 + 80) (dq D_X2_init 33 rfl) cc3 tw_280 ⟨by omega, by omega⟩ hσ3 ?_
      refine v_dup (dq D_X2_init 34 rfl) rfl ?_
      refine v_aload_n (dq D_X2_init 35 rfl) 1 rfl ?_
      obtain ⟨σ4, hσ4, h⟩ := obi h
      refine v_cIv (bc := 7 * (3 - (j + 1)) + 0) (bs := 100 * (3 - (j + 1)) + 0) (As := [.ref a1]) (dq D_X2_init 36 rfl) ci_X3_init ml_RX2_20 (m_X3_init hσ4) rfl rfl (Nat.le_of_ble_eq_true rfl) ⟨Nat.le_of_ble_eq_true rfl, Nat.le_of_ble_eq_true rfl⟩ ⟨Nat.le_refl _, Nat.le_refl _⟩ ?_
      obtain ⟨σ5, hσ5, h⟩ := obi h
      refine v_aast (dq D_X2_init 37 rfl) hσ5 ?_
      refine v_iinc (dq D_X2_init 38 rfl) 2 [(2, .int (a2 + 1)), (0, .ref a0), (1, .ref a1)] rfl kc_1 (Nat.le_of_ble_eq_true rfl) rfl ?_
      refine v_goto (dq D_X2_init 39 rfl) rfl ?_
      exact v_sub [1, 2, 0] rfl (ih (j + 1) (by omega) (by rw [hj]; exact nI_1 j) h)
theorem w_X2_init_23 {sa : Env3} : ∀ (n : Nat) {a0 : Nat} {a1 : Nat} {a2 : Int32} {σ : St} {r : St} (j : Nat), j ≤ 16 → a2 = nI j → f_X2_init_23 n a0 a1 a2 σ = some r → VV sa cX2_init K_X2_init 23 [(0, .ref a0), (1, .ref a1), (2, .int a2)] [] σ (pU r) (7 * (16 - j) + 21) (100 * (16 - j) + 300) := by
  intro n
  induction n with
  | zero => intro a0 a1 a2 σ r j hjN hj h; cases h
  | succ n ih =>
    intro a0 a1 a2 σ r j hjN hj h
    rw [e_X2_init_23] at h
    refine v_iload_n (dq D_X2_init 12 rfl) 2 rfl ?_
    refine v_bipush (dq D_X2_init 13 rfl) kb_16 ?_
    refine v_icmp_ge (dq D_X2_init 14 rfl) rfl (fun c1 => ?_) (fun c1 => ?_)
    · have h := itp h c1
      refine v_iconst (dq D_X2_init 25 rfl) kc_0 ?_
      refine v_istore_n (dq D_X2_init 26 rfl) [(2, .int 0), (0, .ref a0), (1, .ref a1)] rfl (Nat.le_of_ble_eq_true rfl) rfl ?_
      exact v_bud (by omega) (by omega) (v_sub [1, 2, 0] rfl (w_X2_init_51 _ 0 (Nat.zero_le _) nI_0.symm h))
    · have h := itn h c1
      have hlt : j < 16 := by
        rcases Nat.lt_or_ge j 16 with q | q
        · exact q
        · exact absurd (show (16 : Int32) ≤ a2 by
            rw [hj]; exact nI_le (a := 16) q (by omega)) c1
      refine v_aload_n (dq D_X2_init 15 rfl) 0 rfl ?_
      obtain ⟨x2, hx2, h⟩ := obi h
      refine v_gR (dq D_X2_init 16 rfl) fa_RX2_11 hx2 ?_
      refine v_iload_n (dq D_X2_init 17 rfl) 2 rfl ?_
      obtain ⟨σ3, hσ3, h⟩ := bnd_inv h
      refine v_new (bc := 7 * (16 - (j + 1)) + 21 + 6) (bs := 100 * (16 - (j + 1)) + 300 + 80) (dq D_X2_init 18 rfl) cc3 tw_280 ⟨by omega, by omega⟩ hσ3 ?_
      refine v_dup (dq D_X2_init 19 rfl) rfl ?_
      refine v_aload_n (dq D_X2_init 20 rfl) 1 rfl ?_
      obtain ⟨σ4, hσ4, h⟩ := obi h
      refine v_cIv (bc := 7 * (16 - (j + 1)) + 21) (bs := 100 * (16 - (j + 1)) + 300) (As := [.ref a1]) (dq D_X2_init 21 rfl) ci_X3_init ml_RX2_20 (m_X3_init hσ4) rfl rfl (Nat.le_of_ble_eq_true rfl) ⟨Nat.le_of_ble_eq_true rfl, Nat.le_of_ble_eq_true rfl⟩ ⟨Nat.le_refl _, Nat.le_refl _⟩ ?_
      obtain ⟨σ5, hσ5, h⟩ := obi h
      refine v_aast (dq D_X2_init 22 rfl) hσ5 ?_
      refine v_iinc (dq D_X2_init 23 rfl) 2 [(2, .int (a2 + 1)), (0, .ref a0), (1, .ref a1)] rfl kc_1 (Nat.le_of_ble_eq_true rfl) rfl ?_
      refine v_goto (dq D_X2_init 24 rfl) rfl ?_
      exact v_sub [1, 2, 0] rfl (ih (j + 1) (by omega) (by rw [hj]; exact nI_1 j) h)
theorem w_X2_init_0 {sa : Env3} {a0 : Nat} {a1 : Nat} {σ : St} {r : St} (h : f_X2_init_0 a0 a1 σ = some r) : VV sa cX2_init K_X2_init 0 [(0, .ref a0), (1, .ref a1)] [] σ (pU r) 135 1919 := by
  unfold f_X2_init_0 at h
  refine v_aload_n (dq D_X2_init 0 rfl) 0 rfl ?_
  refine v_objI (dq D_X2_init 1 rfl) tw_279 tw_30 tw_31 (Nat.le_of_ble_eq_true rfl) (Nat.le_of_ble_eq_true rfl) ?_
  refine v_aload_n (dq D_X2_init 2 rfl) 0 rfl ?_
  refine v_bipush (dq D_X2_init 3 rfl) kb_16 ?_
  obtain ⟨σ1, hσ1, h⟩ := bnd_inv h
  refine v_newq (N := 16) (bc := 134) (bs := 1903) (dq D_X2_init 4 rfl) tw_280 (by decide) (by decide) (Nat.le_of_ble_eq_true rfl) ⟨Nat.le_of_ble_eq_true rfl, Nat.le_of_ble_eq_true rfl⟩ hσ1 ?_
  obtain ⟨σ2, hσ2, h⟩ := obi h
  refine v_pP (dq D_X2_init 5 rfl) fp_RX2_11 (fun _ => rfl) hσ2 ?_
  refine v_aload_n (dq D_X2_init 6 rfl) 0 rfl ?_
  refine v_iconst (dq D_X2_init 7 rfl) kc_3 ?_
  obtain ⟨σ3, hσ3, h⟩ := bnd_inv h
  refine v_newq (N := 3) (bc := 133) (bs := 1900) (dq D_X2_init 8 rfl) tw_280 (by decide) (by decide) (Nat.le_of_ble_eq_true rfl) ⟨Nat.le_of_ble_eq_true rfl, Nat.le_of_ble_eq_true rfl⟩ hσ3 ?_
  obtain ⟨σ4, hσ4, h⟩ := obi h
  refine v_pP (dq D_X2_init 9 rfl) fp_RX2_17 (fun _ => rfl) hσ4 ?_
  refine v_iconst (dq D_X2_init 10 rfl) kc_0 ?_
  refine v_istore_n (dq D_X2_init 11 rfl) [(2, .int 0), (0, .ref a0), (1, .ref a1)] rfl (Nat.le_of_ble_eq_true rfl) rfl ?_
  exact v_sub [1, 2, 0] rfl (w_X2_init_23 _ 0 (Nat.zero_le _) nI_0.symm h)
theorem m_X2_init {sa : Env3} {a0 : Nat} {a1 : Nat} {σ : St} {r : St} (h : f_X2_init a0 a1 σ = some r) : Ex sa yX2_init cX2_init K_X2_init [.ref a0, .ref a1] σ (pU r) := Ex.of (by decide) rfl (fun _ => rfl) (Nat.le_of_ble_eq_true rfl) (w_X2_init_0 (itg h).2)
theorem w_X3_copyFrom_0 {sa : Env3} {a0 : Nat} {a1 : Nat} {σ : St} {r : St} (h : f_X3_copyFrom_0 a0 a1 σ = some r) : VV sa cX3_copyFrom K_X3_copyFrom 0 [(0, .ref a0), (1, .ref a1)] [] σ (pU r) 0 0 := by
  unfold f_X3_copyFrom_0 at h
  refine v_aload_n (dq D_X3_copyFrom 0 rfl) 0 rfl ?_
  refine v_aload_n (dq D_X3_copyFrom 1 rfl) 1 rfl ?_
  obtain ⟨x1, hx1, h⟩ := obi h
  refine v_gR (dq D_X3_copyFrom 2 rfl) fa_RX3_30 hx1 ?_
  obtain ⟨σ2, hσ2, h⟩ := obi h
  refine v_pP (dq D_X3_copyFrom 3 rfl) fp_RX3_30 (fun q => nomatch q) hσ2 ?_
  refine v_aload_n (dq D_X3_copyFrom 4 rfl) 0 rfl ?_
  refine v_aload_n (dq D_X3_copyFrom 5 rfl) 1 rfl ?_
  obtain ⟨x3, hx3, h⟩ := obi h
  refine v_gI (dq D_X3_copyFrom 6 rfl) fa_RX3_34 hx3 ?_
  obtain ⟨σ4, hσ4, h⟩ := obi h
  refine v_pI (dq D_X3_copyFrom 7 rfl) fp_RX3_34 hσ4 ?_
  refine v_aload_n (dq D_X3_copyFrom 8 rfl) 1 rfl ?_
  obtain ⟨x5, hx5, h⟩ := obi h
  refine v_gR (dq D_X3_copyFrom 9 rfl) fa_RX3_9 hx5 ?_
  refine v_iconst (dq D_X3_copyFrom 10 rfl) kc_0 ?_
  refine v_aload_n (dq D_X3_copyFrom 11 rfl) 0 rfl ?_
  obtain ⟨x6, hx6, h⟩ := obi h
  refine v_gR (dq D_X3_copyFrom 12 rfl) fa_RX3_9 hx6 ?_
  refine v_iconst (dq D_X3_copyFrom 13 rfl) kc_0 ?_
  refine v_bipush (dq D_X3_copyFrom 14 rfl) kb_24 ?_
  obtain ⟨σ7, hσ7, h⟩ := obi h
  refine v_copy (dq D_X3_copyFrom 15 rfl) tw_877 tw_879 tw_878 tw_19 (Nat.le_of_ble_eq_true rfl) (Nat.le_of_ble_eq_true rfl) hσ7 ?_
  refine v_aload_n (dq D_X3_copyFrom 16 rfl) 0 rfl ?_
  refine v_aload_n (dq D_X3_copyFrom 17 rfl) 1 rfl ?_
  obtain ⟨x8, hx8, h⟩ := obi h
  refine v_gI (dq D_X3_copyFrom 18 rfl) fa_RX3_44 hx8 ?_
  obtain ⟨σ9, hσ9, h⟩ := obi h
  refine v_pI (dq D_X3_copyFrom 19 rfl) fp_RX3_44 hσ9 ?_
  refine v_aload_n (dq D_X3_copyFrom 20 rfl) 1 rfl ?_
  obtain ⟨x10, hx10, h⟩ := obi h
  refine v_gR (dq D_X3_copyFrom 21 rfl) fa_RX3_15 hx10 ?_
  refine v_iconst (dq D_X3_copyFrom 22 rfl) kc_0 ?_
  refine v_aload_n (dq D_X3_copyFrom 23 rfl) 0 rfl ?_
  obtain ⟨x11, hx11, h⟩ := obi h
  refine v_gR (dq D_X3_copyFrom 24 rfl) fa_RX3_15 hx11 ?_
  refine v_iconst (dq D_X3_copyFrom 25 rfl) kc_0 ?_
  refine v_bipush (dq D_X3_copyFrom 26 rfl) kb_8 ?_
  obtain ⟨σ12, hσ12, h⟩ := obi h
  refine v_copy (dq D_X3_copyFrom 27 rfl) tw_877 tw_879 tw_878 tw_19 (Nat.le_of_ble_eq_true rfl) (Nat.le_of_ble_eq_true rfl) hσ12 ?_
  refine v_aload_n (dq D_X3_copyFrom 28 rfl) 0 rfl ?_
  refine v_aload_n (dq D_X3_copyFrom 29 rfl) 1 rfl ?_
  obtain ⟨x13, hx13, h⟩ := obi h
  refine v_gI (dq D_X3_copyFrom 30 rfl) fa_RX3_47 hx13 ?_
  obtain ⟨σ14, hσ14, h⟩ := obi h
  refine v_pI (dq D_X3_copyFrom 31 rfl) fp_RX3_47 hσ14 ?_
  refine v_aload_n (dq D_X3_copyFrom 32 rfl) 0 rfl ?_
  refine v_aload_n (dq D_X3_copyFrom 33 rfl) 1 rfl ?_
  obtain ⟨x15, hx15, h⟩ := obi h
  refine v_gI (dq D_X3_copyFrom 34 rfl) fa_RX3_73 hx15 ?_
  obtain ⟨σ16, hσ16, h⟩ := obi h
  refine v_pI (dq D_X3_copyFrom 35 rfl) fp_RX3_73 hσ16 ?_
  refine v_aload_n (dq D_X3_copyFrom 36 rfl) 1 rfl ?_
  obtain ⟨x17, hx17, h⟩ := obi h
  refine v_gR (dq D_X3_copyFrom 37 rfl) fa_RX3_18 hx17 ?_
  refine v_iconst (dq D_X3_copyFrom 38 rfl) kc_0 ?_
  refine v_aload_n (dq D_X3_copyFrom 39 rfl) 0 rfl ?_
  obtain ⟨x18, hx18, h⟩ := obi h
  refine v_gR (dq D_X3_copyFrom 40 rfl) fa_RX3_18 hx18 ?_
  refine v_iconst (dq D_X3_copyFrom 41 rfl) kc_0 ?_
  refine v_bipush (dq D_X3_copyFrom 42 rfl) kb_12 ?_
  obtain ⟨σ19, hσ19, h⟩ := obi h
  refine v_copy (dq D_X3_copyFrom 43 rfl) tw_877 tw_879 tw_878 tw_19 (Nat.le_of_ble_eq_true rfl) (Nat.le_of_ble_eq_true rfl) hσ19 ?_
  refine v_aload_n (dq D_X3_copyFrom 44 rfl) 1 rfl ?_
  obtain ⟨x20, hx20, h⟩ := obi h
  refine v_gR (dq D_X3_copyFrom 45 rfl) fa_RX3_21 hx20 ?_
  refine v_iconst (dq D_X3_copyFrom 46 rfl) kc_0 ?_
  refine v_aload_n (dq D_X3_copyFrom 47 rfl) 0 rfl ?_
  obtain ⟨x21, hx21, h⟩ := obi h
  refine v_gR (dq D_X3_copyFrom 48 rfl) fa_RX3_21 hx21 ?_
  refine v_iconst (dq D_X3_copyFrom 49 rfl) kc_0 ?_
  refine v_bipush (dq D_X3_copyFrom 50 rfl) kb_12 ?_
  obtain ⟨σ22, hσ22, h⟩ := obi h
  refine v_copy (dq D_X3_copyFrom 51 rfl) tw_877 tw_879 tw_878 tw_19 (Nat.le_of_ble_eq_true rfl) (Nat.le_of_ble_eq_true rfl) hσ22 ?_
  refine v_aload_n (dq D_X3_copyFrom 52 rfl) 1 rfl ?_
  obtain ⟨x23, hx23, h⟩ := obi h
  refine v_gR (dq D_X3_copyFrom 53 rfl) fa_RX3_24 hx23 ?_
  refine v_iconst (dq D_X3_copyFrom 54 rfl) kc_0 ?_
  refine v_aload_n (dq D_X3_copyFrom 55 rfl) 0 rfl ?_
  obtain ⟨x24, hx24, h⟩ := obi h
  refine v_gR (dq D_X3_copyFrom 56 rfl) fa_RX3_24 hx24 ?_
  refine v_iconst (dq D_X3_copyFrom 57 rfl) kc_0 ?_
  refine v_bipush (dq D_X3_copyFrom 58 rfl) kb_12 ?_
  obtain ⟨σ25, hσ25, h⟩ := obi h
  refine v_copy (dq D_X3_copyFrom 59 rfl) tw_877 tw_879 tw_878 tw_19 (Nat.le_of_ble_eq_true rfl) (Nat.le_of_ble_eq_true rfl) hσ25 ?_
  refine v_aload_n (dq D_X3_copyFrom 60 rfl) 1 rfl ?_
  obtain ⟨x26, hx26, h⟩ := obi h
  refine v_gR (dq D_X3_copyFrom 61 rfl) fa_RX3_27 hx26 ?_
  refine v_iconst (dq D_X3_copyFrom 62 rfl) kc_0 ?_
  refine v_aload_n (dq D_X3_copyFrom 63 rfl) 0 rfl ?_
  obtain ⟨x27, hx27, h⟩ := obi h
  refine v_gR (dq D_X3_copyFrom 64 rfl) fa_RX3_27 hx27 ?_
  refine v_iconst (dq D_X3_copyFrom 65 rfl) kc_0 ?_
  refine v_bipush (dq D_X3_copyFrom 66 rfl) kb_12 ?_
  obtain ⟨σ28, hσ28, h⟩ := obi h
  refine v_copy (dq D_X3_copyFrom 67 rfl) tw_877 tw_879 tw_878 tw_19 (Nat.le_of_ble_eq_true rfl) (Nat.le_of_ble_eq_true rfl) hσ28 ?_
  refine v_aload_n (dq D_X3_copyFrom 68 rfl) 0 rfl ?_
  refine v_aload_n (dq D_X3_copyFrom 69 rfl) 1 rfl ?_
  obtain ⟨x29, hx29, h⟩ := obi h
  refine v_gI (dq D_X3_copyFrom 70 rfl) fa_RX3_76 hx29 ?_
  obtain ⟨σ30, hσ30, h⟩ := obi h
  refine v_pI (dq D_X3_copyFrom 71 rfl) fp_RX3_76 hσ30 ?_
  refine v_aload_n (dq D_X3_copyFrom 72 rfl) 0 rfl ?_
  refine v_aload_n (dq D_X3_copyFrom 73 rfl) 1 rfl ?_
  obtain ⟨x31, hx31, h⟩ := obi h
  refine v_gI (dq D_X3_copyFrom 74 rfl) fa_RX3_79 hx31 ?_
  obtain ⟨σ32, hσ32, h⟩ := obi h
  refine v_pI (dq D_X3_copyFrom 75 rfl) fp_RX3_79 hσ32 ?_
  refine v_aload_n (dq D_X3_copyFrom 76 rfl) 0 rfl ?_
  refine v_aload_n (dq D_X3_copyFrom 77 rfl) 1 rfl ?_
  obtain ⟨x33, hx33, h⟩ := obi h
  refine v_gI (dq D_X3_copyFrom 78 rfl) fa_RX3_82 hx33 ?_
  obtain ⟨σ34, hσ34, h⟩ := obi h
  refine v_pI (dq D_X3_copyFrom 79 rfl) fp_RX3_82 hσ34 ?_
  refine v_aload_n (dq D_X3_copyFrom 80 rfl) 0 rfl ?_
  refine v_aload_n (dq D_X3_copyFrom 81 rfl) 1 rfl ?_
  obtain ⟨x35, hx35, h⟩ := obi h
  refine v_gI (dq D_X3_copyFrom 82 rfl) fa_RX3_85 hx35 ?_
  obtain ⟨σ36, hσ36, h⟩ := obi h
  refine v_pI (dq D_X3_copyFrom 83 rfl) fp_RX3_85 hσ36 ?_
  refine v_aload_n (dq D_X3_copyFrom 84 rfl) 0 rfl ?_
  refine v_aload_n (dq D_X3_copyFrom 85 rfl) 1 rfl ?_
  obtain ⟨x37, hx37, h⟩ := obi h
  refine v_gI (dq D_X3_copyFrom 86 rfl) fa_RX3_88 hx37 ?_
  obtain ⟨σ38, hσ38, h⟩ := obi h
  refine v_pI (dq D_X3_copyFrom 87 rfl) fp_RX3_88 hσ38 ?_
  refine v_aload_n (dq D_X3_copyFrom 88 rfl) 0 rfl ?_
  refine v_aload_n (dq D_X3_copyFrom 89 rfl) 1 rfl ?_
  obtain ⟨x39, hx39, h⟩ := obi h
  refine v_gI (dq D_X3_copyFrom 90 rfl) fa_RX3_54 hx39 ?_
  obtain ⟨σ40, hσ40, h⟩ := obi h
  refine v_pI (dq D_X3_copyFrom 91 rfl) fp_RX3_54 hσ40 ?_
  refine v_aload_n (dq D_X3_copyFrom 92 rfl) 0 rfl ?_
  refine v_aload_n (dq D_X3_copyFrom 93 rfl) 1 rfl ?_
  obtain ⟨x41, hx41, h⟩ := obi h
  refine v_gI (dq D_X3_copyFrom 94 rfl) fa_RX3_57 hx41 ?_
  obtain ⟨σ42, hσ42, h⟩ := obi h
  refine v_pZ (dq D_X3_copyFrom 95 rfl) fp_RX3_57 hσ42 ?_
  refine v_aload_n (dq D_X3_copyFrom 96 rfl) 0 rfl ?_
  refine v_aload_n (dq D_X3_copyFrom 97 rfl) 1 rfl ?_
  obtain ⟨x43, hx43, h⟩ := obi h
  refine v_gI (dq D_X3_copyFrom 98 rfl) fa_RX3_61 hx43 ?_
  obtain ⟨σ44, hσ44, h⟩ := obi h
  refine v_pZ (dq D_X3_copyFrom 99 rfl) fp_RX3_61 hσ44 ?_
  refine v_aload_n (dq D_X3_copyFrom 100 rfl) 0 rfl ?_
  refine v_aload_n (dq D_X3_copyFrom 101 rfl) 1 rfl ?_
  obtain ⟨x45, hx45, h⟩ := obi h
  refine v_gI (dq D_X3_copyFrom 102 rfl) fa_RX3_64 hx45 ?_
  obtain ⟨σ46, hσ46, h⟩ := obi h
  refine v_pI (dq D_X3_copyFrom 103 rfl) fp_RX3_64 hσ46 ?_
  obtain rfl := Option.some.inj h
  exact v_vret (dq D_X3_copyFrom 104 rfl) rfl ⟨rfl, rfl⟩
theorem m_X3_copyFrom {sa : Env3} {a0 : Nat} {a1 : Nat} {σ : St} {r : St} (h : f_X3_copyFrom a0 a1 σ = some r) : Ex sa yX3_copyFrom cX3_copyFrom K_X3_copyFrom [.ref a0, .ref a1] σ (pU r) := Ex.of (by decide) rfl (fun q => nomatch q) (Nat.le_of_ble_eq_true rfl) (w_X3_copyFrom_0 (itg h).2)
theorem w_X2_keep_0 {sa : Env3} {a0 : Nat} {a1 : Nat} {σ : St} {r : St} (h : f_X2_keep_0 a0 a1 σ = some r) : VV sa cX2_keep K_X2_keep 0 [(0, .ref a0), (1, .ref a1)] [] σ (pU r) 0 0 := by
  unfold f_X2_keep_0 at h
  refine v_aload_n (dq D_X2_keep 0 rfl) 0 rfl ?_
  obtain ⟨x1, hx1, h⟩ := obi h
  refine v_gR (dq D_X2_keep 1 rfl) fa_RX2_11 hx1 ?_
  refine v_aload_n (dq D_X2_keep 2 rfl) 0 rfl ?_
  obtain ⟨x2, hx2, h⟩ := obi h
  refine v_gI (dq D_X2_keep 3 rfl) fa_RX2_30 hx2 ?_
  obtain ⟨x3, hx3, h⟩ := obi h
  refine v_aald (dq D_X2_keep 4 rfl) hx3 ?_
  refine v_aload_n (dq D_X2_keep 5 rfl) 1 rfl ?_
  obtain ⟨σ4, hσ4, h⟩ := obi h
  refine v_cVv (bc := 0) (bs := 0) (As := [.ref a1]) (dq D_X2_keep 6 rfl) cv_X3_copyFrom ml_RX2_33 (itg hσ4).1 (m_X3_copyFrom hσ4) rfl rfl (Nat.le_of_ble_eq_true rfl) ⟨Nat.le_of_ble_eq_true rfl, Nat.le_of_ble_eq_true rfl⟩ ⟨Nat.le_of_ble_eq_true rfl, Nat.le_of_ble_eq_true rfl⟩ ?_
  refine v_aload_n (dq D_X2_keep 7 rfl) 0 rfl ?_
  refine v_aload_n (dq D_X2_keep 8 rfl) 0 rfl ?_
  obtain ⟨x5, hx5, h⟩ := obi h
  refine v_gI (dq D_X2_keep 9 rfl) fa_RX2_30 hx5 ?_
  refine v_iconst (dq D_X2_keep 10 rfl) kc_1 ?_
  refine v_iadd (dq D_X2_keep 11 rfl) ?_
  refine v_bipush (dq D_X2_keep 12 rfl) kb_16 ?_
  refine v_irem (dq D_X2_keep 13 rfl) (by decide) ?_
  obtain ⟨σ6, hσ6, h⟩ := obi h
  refine v_pI (dq D_X2_keep 14 rfl) fp_RX2_30 hσ6 ?_
  refine v_aload_n (dq D_X2_keep 15 rfl) 0 rfl ?_
  refine v_aload_n (dq D_X2_keep 16 rfl) 0 rfl ?_
  obtain ⟨x7, hx7, h⟩ := obi h
  refine v_gI (dq D_X2_keep 17 rfl) fa_RX2_23 hx7 ?_
  refine v_iconst (dq D_X2_keep 18 rfl) kc_1 ?_
  refine v_iadd (dq D_X2_keep 19 rfl) ?_
  refine v_bipush (dq D_X2_keep 20 rfl) kb_16 ?_
  refine v_mmin (dq D_X2_keep 21 rfl) tw_1059 tw_430 tw_11 tw_431 (Nat.le_of_ble_eq_true rfl) (Nat.le_of_ble_eq_true rfl) ?_
  obtain ⟨σ8, hσ8, h⟩ := obi h
  refine v_pI (dq D_X2_keep 22 rfl) fp_RX2_23 hσ8 ?_
  obtain rfl := Option.some.inj h
  exact v_vret (dq D_X2_keep 23 rfl) rfl ⟨rfl, rfl⟩
theorem m_X2_keep {sa : Env3} {a0 : Nat} {a1 : Nat} {σ : St} {r : St} (h : f_X2_keep a0 a1 σ = some r) : Ex sa yX2_keep cX2_keep K_X2_keep [.ref a0, .ref a1] σ (pU r) := Ex.of (by decide) rfl (fun q => nomatch q) (Nat.le_of_ble_eq_true rfl) (w_X2_keep_0 (itg h).2)
theorem w_X2_picture_0 {sa : Env3} {a0 : Nat} {a1 : Nat} {σ : St} {r : Int32 × St} (h : f_X2_picture_0 a0 a1 σ = some r) : VV sa cX2_picture K_X2_picture 0 [(0, .ref a0), (1, .ref a1)] [] σ (pO r) 0 0 := by
  unfold f_X2_picture_0 at h
  refine v_aload_n (dq D_X2_picture 0 rfl) 0 rfl ?_
  obtain ⟨x1, hx1, h⟩ := obi h
  refine v_gR (dq D_X2_picture 1 rfl) fa_RX2_17 hx1 ?_
  refine v_aload_n (dq D_X2_picture 2 rfl) 0 rfl ?_
  obtain ⟨x2, hx2, h⟩ := obi h
  refine v_gI (dq D_X2_picture 3 rfl) fa_RX2_27 hx2 ?_
  obtain ⟨x3, hx3, h⟩ := obi h
  refine v_aald (dq D_X2_picture 4 rfl) hx3 ?_
  refine v_aload_n (dq D_X2_picture 5 rfl) 1 rfl ?_
  obtain ⟨σ4, hσ4, h⟩ := obi h
  refine v_cVv (bc := 0) (bs := 0) (As := [.ref a1]) (dq D_X2_picture 6 rfl) cv_X3_copyFrom ml_RX2_33 (itg hσ4).1 (m_X3_copyFrom hσ4) rfl rfl (Nat.le_of_ble_eq_true rfl) ⟨Nat.le_of_ble_eq_true rfl, Nat.le_of_ble_eq_true rfl⟩ ⟨Nat.le_of_ble_eq_true rfl, Nat.le_of_ble_eq_true rfl⟩ ?_
  refine v_aload_n (dq D_X2_picture 7 rfl) 0 rfl ?_
  refine v_dup (dq D_X2_picture 8 rfl) rfl ?_
  obtain ⟨x5, hx5, h⟩ := obi h
  refine v_gI (dq D_X2_picture 9 rfl) fa_RX2_27 hx5 ?_
  refine v_iconst (dq D_X2_picture 10 rfl) kc_1 ?_
  refine v_iadd (dq D_X2_picture 11 rfl) ?_
  obtain ⟨σ6, hσ6, h⟩ := obi h
  refine v_pI (dq D_X2_picture 12 rfl) fp_RX2_27 hσ6 ?_
  refine v_aload_n (dq D_X2_picture 13 rfl) 0 rfl ?_
  obtain ⟨x7, hx7, h⟩ := obi h
  refine v_gI (dq D_X2_picture 14 rfl) fa_RX2_27 hx7 ?_
  refine v_iconst (dq D_X2_picture 15 rfl) kc_1 ?_
  refine v_isub (dq D_X2_picture 16 rfl) ?_
  obtain rfl := Option.some.inj h
  exact v_iret (dq D_X2_picture 17 rfl) rfl ⟨rfl, rfl⟩
theorem m_X2_picture {sa : Env3} {a0 : Nat} {a1 : Nat} {σ : St} {r : Int32 × St} (h : f_X2_picture a0 a1 σ = some r) : Ex sa yX2_picture cX2_picture K_X2_picture [.ref a0, .ref a1] σ (pO r) := Ex.of (by decide) rfl (fun q => nomatch q) (Nat.le_of_ble_eq_true rfl) (w_X2_picture_0 (itg h).2)
theorem w_X2_returnTo_0 {sa : Env3} {a0 : Nat} {a1 : Int32} {a2 : Nat} {σ : St} {r : St} (h : f_X2_returnTo_0 a0 a1 a2 σ = some r) : VV sa cX2_returnTo K_X2_returnTo 0 [(0, .ref a0), (1, .int a1), (2, .ref a2)] [] σ (pU r) 0 0 := by
  unfold f_X2_returnTo_0 at h
  refine v_aload_n (dq D_X2_returnTo 0 rfl) 2 rfl ?_
  refine v_aload_n (dq D_X2_returnTo 1 rfl) 0 rfl ?_
  obtain ⟨x1, hx1, h⟩ := obi h
  refine v_gR (dq D_X2_returnTo 2 rfl) fa_RX2_17 hx1 ?_
  refine v_iload_n (dq D_X2_returnTo 3 rfl) 1 rfl ?_
  obtain ⟨x2, hx2, h⟩ := obi h
  refine v_aald (dq D_X2_returnTo 4 rfl) hx2 ?_
  obtain ⟨σ3, hσ3, h⟩ := obi h
  refine v_cVv (bc := 0) (bs := 0) (As := [.ref x2]) (dq D_X2_returnTo 5 rfl) cv_X3_copyFrom ml_RX2_33 (itg hσ3).1 (m_X3_copyFrom hσ3) rfl rfl (Nat.le_of_ble_eq_true rfl) ⟨Nat.le_of_ble_eq_true rfl, Nat.le_of_ble_eq_true rfl⟩ ⟨Nat.le_of_ble_eq_true rfl, Nat.le_of_ble_eq_true rfl⟩ ?_
  refine v_aload_n (dq D_X2_returnTo 6 rfl) 0 rfl ?_
  refine v_iconst (dq D_X2_returnTo 7 rfl) kc_0 ?_
  obtain ⟨σ4, hσ4, h⟩ := obi h
  refine v_pI (dq D_X2_returnTo 8 rfl) fp_RX2_23 hσ4 ?_
  obtain rfl := Option.some.inj h
  exact v_vret (dq D_X2_returnTo 9 rfl) rfl ⟨rfl, rfl⟩
theorem m_X2_returnTo {sa : Env3} {a0 : Nat} {a1 : Int32} {a2 : Nat} {σ : St} {r : St} (h : f_X2_returnTo a0 a1 a2 σ = some r) : Ex sa yX2_returnTo cX2_returnTo K_X2_returnTo [.ref a0, .int a1, .ref a2] σ (pU r) := Ex.of (by decide) rfl (fun q => nomatch q) (Nat.le_of_ble_eq_true rfl) (w_X2_returnTo_0 (itg h).2)
theorem w_X2_takeBack_0 {sa : Env3} {a0 : Nat} {a1 : Nat} {σ : St} {r : St} (h : f_X2_takeBack_0 a0 a1 σ = some r) : VV sa cX2_takeBack K_X2_takeBack 0 [(0, .ref a0), (1, .ref a1)] [] σ (pU r) 0 0 := by
  unfold f_X2_takeBack_0 at h
  refine v_aload_n (dq D_X2_takeBack 0 rfl) 0 rfl ?_
  refine v_aload_n (dq D_X2_takeBack 1 rfl) 0 rfl ?_
  obtain ⟨x1, hx1, h⟩ := obi h
  refine v_gI (dq D_X2_takeBack 2 rfl) fa_RX2_30 hx1 ?_
  refine v_bipush (dq D_X2_takeBack 3 rfl) kb_16 ?_
  refine v_iadd (dq D_X2_takeBack 4 rfl) ?_
  refine v_iconst (dq D_X2_takeBack 5 rfl) kc_1 ?_
  refine v_isub (dq D_X2_takeBack 6 rfl) ?_
  refine v_bipush (dq D_X2_takeBack 7 rfl) kb_16 ?_
  refine v_irem (dq D_X2_takeBack 8 rfl) (by decide) ?_
  obtain ⟨σ2, hσ2, h⟩ := obi h
  refine v_pI (dq D_X2_takeBack 9 rfl) fp_RX2_30 hσ2 ?_
  refine v_aload_n (dq D_X2_takeBack 10 rfl) 0 rfl ?_
  refine v_dup (dq D_X2_takeBack 11 rfl) rfl ?_
  obtain ⟨x3, hx3, h⟩ := obi h
  refine v_gI (dq D_X2_takeBack 12 rfl) fa_RX2_23 hx3 ?_
  refine v_iconst (dq D_X2_takeBack 13 rfl) kc_1 ?_
  refine v_isub (dq D_X2_takeBack 14 rfl) ?_
  obtain ⟨σ4, hσ4, h⟩ := obi h
  refine v_pI (dq D_X2_takeBack 15 rfl) fp_RX2_23 hσ4 ?_
  refine v_aload_n (dq D_X2_takeBack 16 rfl) 1 rfl ?_
  refine v_aload_n (dq D_X2_takeBack 17 rfl) 0 rfl ?_
  obtain ⟨x5, hx5, h⟩ := obi h
  refine v_gR (dq D_X2_takeBack 18 rfl) fa_RX2_11 hx5 ?_
  refine v_aload_n (dq D_X2_takeBack 19 rfl) 0 rfl ?_
  obtain ⟨x6, hx6, h⟩ := obi h
  refine v_gI (dq D_X2_takeBack 20 rfl) fa_RX2_30 hx6 ?_
  obtain ⟨x7, hx7, h⟩ := obi h
  refine v_aald (dq D_X2_takeBack 21 rfl) hx7 ?_
  obtain ⟨σ8, hσ8, h⟩ := obi h
  refine v_cVv (bc := 0) (bs := 0) (As := [.ref x7]) (dq D_X2_takeBack 22 rfl) cv_X3_copyFrom ml_RX2_33 (itg hσ8).1 (m_X3_copyFrom hσ8) rfl rfl (Nat.le_of_ble_eq_true rfl) ⟨Nat.le_of_ble_eq_true rfl, Nat.le_of_ble_eq_true rfl⟩ ⟨Nat.le_of_ble_eq_true rfl, Nat.le_of_ble_eq_true rfl⟩ ?_
  obtain rfl := Option.some.inj h
  exact v_vret (dq D_X2_takeBack 23 rfl) rfl ⟨rfl, rfl⟩
theorem m_X2_takeBack {sa : Env3} {a0 : Nat} {a1 : Nat} {σ : St} {r : St} (h : f_X2_takeBack a0 a1 σ = some r) : Ex sa yX2_takeBack cX2_takeBack K_X2_takeBack [.ref a0, .ref a1] σ (pU r) := Ex.of (by decide) rfl (fun q => nomatch q) (Nat.le_of_ble_eq_true rfl) (w_X2_takeBack_0 (itg h).2)
theorem w_X3_goOnAt_0 {sa : Env3} {a0 : Nat} {a1 : Int32} {σ : St} {r : St} (h : f_X3_goOnAt_0 a0 a1 σ = some r) : VV sa cX3_goOnAt K_X3_goOnAt 0 [(0, .ref a0), (1, .int a1)] [] σ (pU r) 0 0 := by
  unfold f_X3_goOnAt_0 at h
  refine v_aload_n (dq D_X3_goOnAt 0 rfl) 0 rfl ?_
  refine v_iload_n (dq D_X3_goOnAt 1 rfl) 1 rfl ?_
  obtain ⟨σ1, hσ1, h⟩ := obi h
  refine v_pI (dq D_X3_goOnAt 2 rfl) fp_RX3_54 hσ1 ?_
  refine v_aload_n (dq D_X3_goOnAt 3 rfl) 0 rfl ?_
  refine v_iconst (dq D_X3_goOnAt 4 rfl) kc_0 ?_
  obtain ⟨σ2, hσ2, h⟩ := obi h
  refine v_pZ (dq D_X3_goOnAt 5 rfl) fp_RX3_57 hσ2 ?_
  refine v_aload_n (dq D_X3_goOnAt 6 rfl) 0 rfl ?_
  refine v_iconst (dq D_X3_goOnAt 7 rfl) kc_1 ?_
  obtain ⟨σ3, hσ3, h⟩ := obi h
  refine v_pZ (dq D_X3_goOnAt 8 rfl) fp_RX3_61 hσ3 ?_
  obtain rfl := Option.some.inj h
  exact v_vret (dq D_X3_goOnAt 9 rfl) rfl ⟨rfl, rfl⟩
theorem m_X3_goOnAt {sa : Env3} {a0 : Nat} {a1 : Int32} {σ : St} {r : St} (h : f_X3_goOnAt a0 a1 σ = some r) : Ex sa yX3_goOnAt cX3_goOnAt K_X3_goOnAt [.ref a0, .int a1] σ (pU r) := Ex.of (by decide) rfl (fun q => nomatch q) (Nat.le_of_ble_eq_true rfl) (w_X3_goOnAt_0 (itg h).2)
theorem w_X3_isSure_13 {sa : Env3} {s0 : Int32} {σ : St} {r : Int32 × St} (h : f_X3_isSure_13 s0 σ = some r) : VV sa cX3_isSure K_X3_isSure 13 [] [.int s0] σ (pO r) 0 0 := by
  unfold f_X3_isSure_13 at h
  have hz := (itg h).1
  have h := (itg h).2
  obtain rfl := Option.some.inj h
  exact v_zret (dq D_X3_isSure 7 rfl) rfl (z_nar hz) ⟨rfl, rfl⟩
theorem w_X3_isSure_0 {sa : Env3} {a0 : Nat} {a1 : Int32} {σ : St} {r : Int32 × St} (h : f_X3_isSure_0 a0 a1 σ = some r) : VV sa cX3_isSure K_X3_isSure 0 [(0, .ref a0), (1, .int a1)] [] σ (pO r) 0 0 := by
  unfold f_X3_isSure_0 at h
  refine v_iload_n (dq D_X3_isSure 0 rfl) 1 rfl ?_
  refine v_aload_n (dq D_X3_isSure 1 rfl) 0 rfl ?_
  obtain ⟨q1, hq1, h⟩ := obi h
  refine v_cVi (bc := 0) (bs := 0) (As := []) (dq D_X3_isSure 2 rfl) cv_X3_sureOnes ml_RX3_102 (itg hq1).1 (m_X3_sureOnes hq1) rfl rfl (Nat.le_of_ble_eq_true rfl) ⟨Nat.le_of_ble_eq_true rfl, Nat.le_of_ble_eq_true rfl⟩ ⟨Nat.le_of_ble_eq_true rfl, Nat.le_of_ble_eq_true rfl⟩ ?_
  refine v_icmp_ge (dq D_X3_isSure 3 rfl) rfl (fun c2 => ?_) (fun c2 => ?_)
  · have h := itp h c2
    refine v_iconst (dq D_X3_isSure 6 rfl) kc_0 ?_
    exact v_sub [] rfl (w_X3_isSure_13 h)
  · have h := itn h c2
    refine v_iconst (dq D_X3_isSure 4 rfl) kc_1 ?_
    refine v_goto (dq D_X3_isSure 5 rfl) rfl ?_
    exact v_sub [] rfl (w_X3_isSure_13 h)
theorem m_X3_isSure {sa : Env3} {a0 : Nat} {a1 : Int32} {σ : St} {r : Int32 × St} (h : f_X3_isSure a0 a1 σ = some r) : Ex sa yX3_isSure cX3_isSure K_X3_isSure [.ref a0, .int a1] σ (pO r) := Ex.of (by decide) rfl (fun q => nomatch q) (Nat.le_of_ble_eq_true rfl) (w_X3_isSure_0 (itg h).2)
theorem w_X3_keptValue_42 {sa : Env3} {s0 : Int32} {σ : St} {r : Int32 × St} (h : f_X3_keptValue_42 s0 σ = some r) : VV sa cX3_keptValue K_X3_keptValue 42 [] [.int s0] σ (pO r) 0 0 := by
  unfold f_X3_keptValue_42 at h
  obtain rfl := Option.some.inj h
  exact v_iret (dq D_X3_keptValue 23 rfl) rfl ⟨rfl, rfl⟩
theorem w_X3_keptValue_21 {sa : Env3} {a0 : Nat} {a1 : Int32} {s0 : Int32} {σ : St} {r : Int32 × St} (h : f_X3_keptValue_21 a0 a1 s0 σ = some r) : VV sa cX3_keptValue K_X3_keptValue 21 [(0, .ref a0), (1, .int a1)] [.int s0] σ (pO r) 0 0 := by
  unfold f_X3_keptValue_21 at h
  refine v_istore_n (dq D_X3_keptValue 11 rfl) [(2, .int s0), (0, .ref a0), (1, .int a1)] rfl (Nat.le_of_ble_eq_true rfl) rfl ?_
  refine v_iload_n (dq D_X3_keptValue 12 rfl) 0 rfl ?_
  refine v_if_eq (dq D_X3_keptValue 13 rfl) rfl (fun c1 => ?_) (fun c1 => ?_)
  · have h := itp h c1
    refine v_aload_n (dq D_X3_keptValue 16 rfl) 1 rfl ?_
    obtain ⟨x2, hx2, h⟩ := obi h
    refine v_gR (dq D_X3_keptValue 17 rfl) fa_RX3_9 hx2 ?_
    refine v_aload_n (dq D_X3_keptValue 18 rfl) 1 rfl ?_
    obtain ⟨x3, hx3, h⟩ := obi h
    refine v_gR (dq D_X3_keptValue 19 rfl) fa_RX3_15 hx3 ?_
    refine v_iload_n (dq D_X3_keptValue 20 rfl) 2 rfl ?_
    obtain ⟨x4, hx4, h⟩ := obi h
    refine v_iald (dq D_X3_keptValue 21 rfl) hx4 ?_
    obtain ⟨x5, hx5, h⟩ := obi h
    refine v_iald (dq D_X3_keptValue 22 rfl) hx5 ?_
    exact v_sub [] rfl (w_X3_keptValue_42 h)
  · have h := itn h c1
    refine v_bipush (dq D_X3_keptValue 14 rfl) kb_m2 ?_
    refine v_goto (dq D_X3_keptValue 15 rfl) rfl ?_
    exact v_sub [] rfl (w_X3_keptValue_42 h)
theorem w_X3_keptValue_0 {sa : Env3} {a0 : Nat} {a1 : Int32} {σ : St} {r : Int32 × St} (h : f_X3_keptValue_0 a0 a1 σ = some r) : VV sa cX3_keptValue K_X3_keptValue 0 [(0, .ref a0), (1, .int a1)] [] σ (pO r) 0 0 := by
  unfold f_X3_keptValue_0 at h
  refine v_aload_n (dq D_X3_keptValue 0 rfl) 0 rfl ?_
  refine v_aload_n (dq D_X3_keptValue 1 rfl) 0 rfl ?_
  obtain ⟨x1, hx1, h⟩ := obi h
  refine v_gI (dq D_X3_keptValue 2 rfl) fa_RX3_73 hx1 ?_
  obtain ⟨q2, hq2, h⟩ := obi h
  refine v_cVi (bc := 0) (bs := 0) (As := [.int x1]) (dq D_X3_keptValue 3 rfl) cv_X3_letGoBits ml_RX3_116 (itg hq2).1 (m_X3_letGoBits hq2) rfl rfl (Nat.le_of_ble_eq_true rfl) ⟨Nat.le_of_ble_eq_true rfl, Nat.le_of_ble_eq_true rfl⟩ ⟨Nat.le_of_ble_eq_true rfl, Nat.le_of_ble_eq_true rfl⟩ ?_
  refine v_iload_n (dq D_X3_keptValue 4 rfl) 1 rfl ?_
  obtain ⟨q3, hq3, h⟩ := obi h
  refine v_cSi (bc := 0) (bs := 0) (As := [.int a1]) (dq D_X3_keptValue 5 rfl) cs_X3_bitOf ml_RX3_109 (m_X3_bitOf hq3) rfl rfl (Nat.le_of_ble_eq_true rfl) ⟨Nat.le_of_ble_eq_true rfl, Nat.le_of_ble_eq_true rfl⟩ ⟨Nat.le_of_ble_eq_true rfl, Nat.le_of_ble_eq_true rfl⟩ ?_
  refine v_iand (dq D_X3_keptValue 6 rfl) ?_
  refine v_if_eq (dq D_X3_keptValue 7 rfl) rfl (fun c4 => ?_) (fun c4 => ?_)
  · have h := itp h c4
    refine v_iconst (dq D_X3_keptValue 10 rfl) kc_0 ?_
    exact w_X3_keptValue_21 h
  · have h := itn h c4
    refine v_iconst (dq D_X3_keptValue 8 rfl) kc_1 ?_
    refine v_goto (dq D_X3_keptValue 9 rfl) rfl ?_
    exact w_X3_keptValue_21 h
theorem m_X3_keptValue {sa : Env3} {a0 : Nat} {a1 : Int32} {σ : St} {r : Int32 × St} (h : f_X3_keptValue a0 a1 σ = some r) : Ex sa yX3_keptValue cX3_keptValue K_X3_keptValue [.ref a0, .int a1] σ (pO r) := Ex.of (by decide) rfl (fun q => nomatch q) (Nat.le_of_ble_eq_true rfl) (w_X3_keptValue_0 (itg h).2)
theorem w_X3_nthDone_29 {sa : Env3} {k4 : Nat → Int32 → Int32 → St → Option (Int32 × St)} (hk4 : ∀ {a0 : Nat} {a2 : Int32} {a3 : Int32} {σ : St} {r : Int32 × St}, k4 a0 a2 a3 σ = some r → VV sa cX3_nthDone K_X3_nthDone 4 [(0, .ref a0), (2, .int a2), (3, .int a3)] [] σ (pO r) 0 0) {a0 : Nat} {a2 : Int32} {a3 : Int32} {σ : St} {r : Int32 × St} (h : f_X3_nthDone_29 k4 a0 a2 a3 σ = some r) : VV sa cX3_nthDone K_X3_nthDone 29 [(0, .ref a0), (2, .int a2), (3, .int a3)] [] σ (pO r) 0 0 := by
  unfold f_X3_nthDone_29 at h
  refine v_iinc (dq D_X3_nthDone 17 rfl) 2 [(3, .int (a3 + 1)), (0, .ref a0), (2, .int a2)] rfl kc_1 (Nat.le_of_ble_eq_true rfl) rfl ?_
  refine v_goto (dq D_X3_nthDone 18 rfl) rfl ?_
  exact v_sub [1, 2, 0] rfl (hk4 h)
theorem w_X3_nthDone_4 {sa : Env3} : ∀ (n : Nat) {a0 : Nat} {a2 : Int32} {a3 : Int32} {σ : St} {r : Int32 × St}, f_X3_nthDone_4 n a0 a2 a3 σ = some r → VV sa cX3_nthDone K_X3_nthDone 4 [(0, .ref a0), (2, .int a2), (3, .int a3)] [] σ (pO r) 0 0 := by
  intro n
  induction n with
  | zero => intro a0 a2 a3 σ r h; cases h
  | succ n ih =>
    intro a0 a2 a3 σ r h
    rw [e_X3_nthDone_4] at h
    refine v_iload_n (dq D_X3_nthDone 4 rfl) 2 rfl ?_
    refine v_aload_n (dq D_X3_nthDone 5 rfl) 0 rfl ?_
    obtain ⟨x1, hx1, h⟩ := obi h
    refine v_gI (dq D_X3_nthDone 6 rfl) fa_RX3_73 hx1 ?_
    refine v_icmp_ge (dq D_X3_nthDone 7 rfl) rfl (fun c2 => ?_) (fun c2 => ?_)
    · have h := itp h c2
      refine v_iconst (dq D_X3_nthDone 19 rfl) kc_m1 ?_
      obtain rfl := Option.some.inj h
      exact v_iret (dq D_X3_nthDone 20 rfl) rfl ⟨rfl, rfl⟩
    · have h := itn h c2
      refine v_aload_n (dq D_X3_nthDone 8 rfl) 0 rfl ?_
      refine v_iload_n (dq D_X3_nthDone 9 rfl) 2 rfl ?_
      obtain ⟨q3, hq3, h⟩ := obi h
      refine v_cVi (bc := 0) (bs := 0) (As := [.int a3]) (dq D_X3_nthDone 10 rfl) cv_X3_isDone ml_RX3_112 (itg hq3).1 (m_X3_isDone hq3) rfl rfl (Nat.le_of_ble_eq_true rfl) ⟨Nat.le_of_ble_eq_true rfl, Nat.le_of_ble_eq_true rfl⟩ ⟨Nat.le_of_ble_eq_true rfl, Nat.le_of_ble_eq_true rfl⟩ ?_
      refine v_if_eq (dq D_X3_nthDone 11 rfl) rfl (fun c4 => ?_) (fun c4 => ?_)
      · have h := itp h c4
        exact w_X3_nthDone_29 ih h
      · have h := itn h c4
        refine v_iload_n (dq D_X3_nthDone 12 rfl) 1 rfl ?_
        refine v_if_ne (dq D_X3_nthDone 13 rfl) rfl (fun c5 => ?_) (fun c5 => ?_)
        · have h := itn h c5
          refine v_iinc (dq D_X3_nthDone 16 rfl) 1 [(2, .int (a2 + (-1))), (0, .ref a0), (3, .int a3)] rfl kc_m1 (Nat.le_of_ble_eq_true rfl) rfl ?_
          exact v_sub [1, 0, 2] rfl (w_X3_nthDone_29 ih h)
        · have h := itp h c5
          refine v_iload_n (dq D_X3_nthDone 14 rfl) 2 rfl ?_
          obtain rfl := Option.some.inj h
          exact v_iret (dq D_X3_nthDone 15 rfl) rfl ⟨rfl, rfl⟩
theorem w_X3_nthDone_0 {sa : Env3} {a0 : Nat} {a1 : Int32} {σ : St} {r : Int32 × St} (h : f_X3_nthDone_0 a0 a1 σ = some r) : VV sa cX3_nthDone K_X3_nthDone 0 [(0, .ref a0), (1, .int a1)] [] σ (pO r) 0 0 := by
  unfold f_X3_nthDone_0 at h
  refine v_iload_n (dq D_X3_nthDone 0 rfl) 1 rfl ?_
  refine v_istore_n (dq D_X3_nthDone 1 rfl) [(2, .int a1), (0, .ref a0), (1, .int a1)] rfl (Nat.le_of_ble_eq_true rfl) rfl ?_
  refine v_iconst (dq D_X3_nthDone 2 rfl) kc_0 ?_
  refine v_istore_n (dq D_X3_nthDone 3 rfl) [(3, .int 0), (2, .int a1), (0, .ref a0), (1, .int a1)] rfl (Nat.le_of_ble_eq_true rfl) rfl ?_
  exact v_sub [2, 1, 0] rfl (w_X3_nthDone_4 _ h)
theorem m_X3_nthDone {sa : Env3} {a0 : Nat} {a1 : Int32} {σ : St} {r : Int32 × St} (h : f_X3_nthDone a0 a1 σ = some r) : Ex sa yX3_nthDone cX3_nthDone K_X3_nthDone [.ref a0, .int a1] σ (pO r) := Ex.of (by decide) rfl (fun q => nomatch q) (Nat.le_of_ble_eq_true rfl) (w_X3_nthDone_0 (itg h).2)
theorem w_X3_waitersFor_43 {sa : Env3} {k4 : Nat → Int32 → Int32 → Int32 → St → Option (Int32 × St)} (hk4 : ∀ {a0 : Nat} {a1 : Int32} {a2 : Int32} {a3 : Int32} {σ : St} {r : Int32 × St}, k4 a0 a1 a2 a3 σ = some r → VV sa cX3_waitersFor K_X3_waitersFor 4 [(0, .ref a0), (1, .int a1), (2, .int a2), (3, .int a3)] [] σ (pO r) 0 0) {a0 : Nat} {a1 : Int32} {a2 : Int32} {a3 : Int32} {σ : St} {r : Int32 × St} (h : f_X3_waitersFor_43 k4 a0 a1 a2 a3 σ = some r) : VV sa cX3_waitersFor K_X3_waitersFor 43 [(0, .ref a0), (1, .int a1), (2, .int a2), (3, .int a3)] [] σ (pO r) 0 0 := by
  unfold f_X3_waitersFor_43 at h
  refine v_iinc (dq D_X3_waitersFor 25 rfl) 3 [(3, .int (a3 + 1)), (0, .ref a0), (1, .int a1), (2, .int a2)] rfl kc_1 (Nat.le_of_ble_eq_true rfl) rfl ?_
  refine v_goto (dq D_X3_waitersFor 26 rfl) rfl ?_
  exact v_sub [1, 2, 3, 0] rfl (hk4 h)
theorem w_X3_waitersFor_40 {sa : Env3} {k4 : Nat → Int32 → Int32 → Int32 → St → Option (Int32 × St)} (hk4 : ∀ {a0 : Nat} {a1 : Int32} {a2 : Int32} {a3 : Int32} {σ : St} {r : Int32 × St}, k4 a0 a1 a2 a3 σ = some r → VV sa cX3_waitersFor K_X3_waitersFor 4 [(0, .ref a0), (1, .int a1), (2, .int a2), (3, .int a3)] [] σ (pO r) 0 0) {a0 : Nat} {a1 : Int32} {a2 : Int32} {a3 : Int32} {σ : St} {r : Int32 × St} (h : f_X3_waitersFor_40 k4 a0 a1 a2 a3 σ = some r) : VV sa cX3_waitersFor K_X3_waitersFor 40 [(0, .ref a0), (1, .int a1), (2, .int a2), (3, .int a3)] [] σ (pO r) 0 0 := by
  unfold f_X3_waitersFor_40 at h
  refine v_iinc (dq D_X3_waitersFor 24 rfl) 2 [(2, .int (a2 + 1)), (0, .ref a0), (1, .int a1), (3, .int a3)] rfl kc_1 (Nat.le_of_ble_eq_true rfl) rfl ?_
  exact v_sub [1, 2, 0, 3] rfl (w_X3_waitersFor_43 hk4 h)
theorem w_X3_waitersFor_4 {sa : Env3} : ∀ (n : Nat) {a0 : Nat} {a1 : Int32} {a2 : Int32} {a3 : Int32} {σ : St} {r : Int32 × St}, f_X3_waitersFor_4 n a0 a1 a2 a3 σ = some r → VV sa cX3_waitersFor K_X3_waitersFor 4 [(0, .ref a0), (1, .int a1), (2, .int a2), (3, .int a3)] [] σ (pO r) 0 0 := by
  intro n
  induction n with
  | zero => intro a0 a1 a2 a3 σ r h; cases h
  | succ n ih =>
    intro a0 a1 a2 a3 σ r h
    rw [e_X3_waitersFor_4] at h
    refine v_iload_n (dq D_X3_waitersFor 4 rfl) 3 rfl ?_
    refine v_aload_n (dq D_X3_waitersFor 5 rfl) 0 rfl ?_
    obtain ⟨x1, hx1, h⟩ := obi h
    refine v_gI (dq D_X3_waitersFor 6 rfl) fa_RX3_73 hx1 ?_
    refine v_icmp_ge (dq D_X3_waitersFor 7 rfl) rfl (fun c2 => ?_) (fun c2 => ?_)
    · have h := itp h c2
      refine v_iload_n (dq D_X3_waitersFor 27 rfl) 2 rfl ?_
      obtain rfl := Option.some.inj h
      exact v_iret (dq D_X3_waitersFor 28 rfl) rfl ⟨rfl, rfl⟩
    · have h := itn h c2
      refine v_aload_n (dq D_X3_waitersFor 8 rfl) 0 rfl ?_
      refine v_iload_n (dq D_X3_waitersFor 9 rfl) 3 rfl ?_
      obtain ⟨q3, hq3, h⟩ := obi h
      refine v_cVi (bc := 0) (bs := 0) (As := [.int a3]) (dq D_X3_waitersFor 10 rfl) cv_X3_isDone ml_RX3_112 (itg hq3).1 (m_X3_isDone hq3) rfl rfl (Nat.le_of_ble_eq_true rfl) ⟨Nat.le_of_ble_eq_true rfl, Nat.le_of_ble_eq_true rfl⟩ ⟨Nat.le_of_ble_eq_true rfl, Nat.le_of_ble_eq_true rfl⟩ ?_
      refine v_if_ne (dq D_X3_waitersFor 11 rfl) rfl (fun c4 => ?_) (fun c4 => ?_)
      · have h := itn h c4
        exact w_X3_waitersFor_43 ih h
      · have h := itp h c4
        refine v_aload_n (dq D_X3_waitersFor 12 rfl) 0 rfl ?_
        obtain ⟨x5, hx5, h⟩ := obi h
        refine v_gR (dq D_X3_waitersFor 13 rfl) fa_RX3_24 hx5 ?_
        refine v_iload_n (dq D_X3_waitersFor 14 rfl) 3 rfl ?_
        obtain ⟨x6, hx6, h⟩ := obi h
        refine v_iald (dq D_X3_waitersFor 15 rfl) hx6 ?_
        refine v_iload_n (dq D_X3_waitersFor 16 rfl) 1 rfl ?_
        refine v_icmp_eq (dq D_X3_waitersFor 17 rfl) rfl (fun c7 => ?_) (fun c7 => ?_)
        · have h := itp h c7
          exact w_X3_waitersFor_40 ih h
        · have h := itn h c7
          refine v_aload_n (dq D_X3_waitersFor 18 rfl) 0 rfl ?_
          obtain ⟨x8, hx8, h⟩ := obi h
          refine v_gR (dq D_X3_waitersFor 19 rfl) fa_RX3_27 hx8 ?_
          refine v_iload_n (dq D_X3_waitersFor 20 rfl) 3 rfl ?_
          obtain ⟨x9, hx9, h⟩ := obi h
          refine v_iald (dq D_X3_waitersFor 21 rfl) hx9 ?_
          refine v_iload_n (dq D_X3_waitersFor 22 rfl) 1 rfl ?_
          refine v_icmp_ne (dq D_X3_waitersFor 23 rfl) rfl (fun c10 => ?_) (fun c10 => ?_)
          · have h := itn h c10
            exact w_X3_waitersFor_43 ih h
          · have h := itp h c10
            exact w_X3_waitersFor_40 ih h
theorem w_X3_waitersFor_0 {sa : Env3} {a0 : Nat} {a1 : Int32} {σ : St} {r : Int32 × St} (h : f_X3_waitersFor_0 a0 a1 σ = some r) : VV sa cX3_waitersFor K_X3_waitersFor 0 [(0, .ref a0), (1, .int a1)] [] σ (pO r) 0 0 := by
  unfold f_X3_waitersFor_0 at h
  refine v_iconst (dq D_X3_waitersFor 0 rfl) kc_0 ?_
  refine v_istore_n (dq D_X3_waitersFor 1 rfl) [(2, .int 0), (0, .ref a0), (1, .int a1)] rfl (Nat.le_of_ble_eq_true rfl) rfl ?_
  refine v_iconst (dq D_X3_waitersFor 2 rfl) kc_0 ?_
  refine v_istore_n (dq D_X3_waitersFor 3 rfl) [(3, .int 0), (2, .int 0), (0, .ref a0), (1, .int a1)] rfl (Nat.le_of_ble_eq_true rfl) rfl ?_
  exact v_sub [2, 3, 1, 0] rfl (w_X3_waitersFor_4 _ h)
theorem m_X3_waitersFor {sa : Env3} {a0 : Nat} {a1 : Int32} {σ : St} {r : Int32 × St} (h : f_X3_waitersFor a0 a1 σ = some r) : Ex sa yX3_waitersFor cX3_waitersFor K_X3_waitersFor [.ref a0, .int a1] σ (pO r) := Ex.of (by decide) rfl (fun q => nomatch q) (Nat.le_of_ble_eq_true rfl) (w_X3_waitersFor_0 (itg h).2)
