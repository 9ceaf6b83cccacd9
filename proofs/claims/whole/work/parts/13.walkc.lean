theorem w_X10_goes_107 {sa : Env3}  {σ : St} {r : St} (h : f_X10_goes_107  σ = some r) : VV sa cX10_goes K_X10_goes 107 [] [] σ (pU r) 0 0 := by
  unfold f_X10_goes_107 at h
  obtain rfl := Option.some.inj h
  exact v_vret (dq D_X10_goes 56 rfl) rfl ⟨rfl, rfl⟩
theorem w_X10_goes_104 {sa : Env3} {k20 : Nat → Int32 → St → Option (St)} (hk20 : ∀ {a0 : Nat} {a1 : Int32} {σ : St} {r : St}, k20 a0 a1 σ = some r → VV sa cX10_goes K_X10_goes 20 [(0, .ref a0), (1, .int a1)] [] σ (pU r) 0 0) {a0 : Nat} {a1 : Int32} {σ : St} {r : St} (h : f_X10_goes_104 k20 a0 a1 σ = some r) : VV sa cX10_goes K_X10_goes 104 [(0, .ref a0), (1, .int a1)] [] σ (pU r) 0 0 := by
  unfold f_X10_goes_104 at h
  refine v_goto (dq D_X10_goes 55 rfl) rfl ?_
  exact hk20 h
theorem w_X10_goes_67 {sa : Env3} {k20 : Nat → Int32 → St → Option (St)} (hk20 : ∀ {a0 : Nat} {a1 : Int32} {σ : St} {r : St}, k20 a0 a1 σ = some r → VV sa cX10_goes K_X10_goes 20 [(0, .ref a0), (1, .int a1)] [] σ (pU r) 0 0) {a0 : Nat} {a1 : Int32} {σ : St} {r : St} (h : f_X10_goes_67 k20 a0 a1 σ = some r) : VV sa cX10_goes K_X10_goes 67 [(0, .ref a0), (1, .int a1)] [] σ (pU r) 0 0 := by
  unfold f_X10_goes_67 at h
  refine v_aload_n (dq D_X10_goes 34 rfl) 0 rfl ?_
  obtain ⟨σ1, hσ1, h⟩ := obi h
  refine v_cVv (bc := 0) (bs := 0) (As := []) (dq D_X10_goes 35 rfl) cv_X10_cycle ml_RX10_411 (itg hσ1).1 (m_X10_cycle hσ1) rfl rfl (Nat.le_of_ble_eq_true rfl) ⟨Nat.le_of_ble_eq_true rfl, Nat.le_of_ble_eq_true rfl⟩ ⟨Nat.le_of_ble_eq_true rfl, Nat.le_of_ble_eq_true rfl⟩ ?_
  refine v_aload_n (dq D_X10_goes 36 rfl) 0 rfl ?_
  refine v_dup (dq D_X10_goes 37 rfl) rfl ?_
  obtain ⟨x2, hx2, h⟩ := obi h
  refine v_gI (dq D_X10_goes 38 rfl) fa_RX10_405 hx2 ?_
  refine v_iconst (dq D_X10_goes 39 rfl) kc_1 ?_
  refine v_iadd (dq D_X10_goes 40 rfl) ?_
  obtain ⟨σ3, hσ3, h⟩ := obi h
  refine v_pI (dq D_X10_goes 41 rfl) fp_RX10_405 hσ3 ?_
  refine v_iload_n (dq D_X10_goes 42 rfl) 1 rfl ?_
  refine v_aload_n (dq D_X10_goes 43 rfl) 0 rfl ?_
  obtain ⟨q4, hq4, h⟩ := obi h
  refine v_cVi (bc := 0) (bs := 0) (As := []) (dq D_X10_goes 44 rfl) cv_X10_freeNow ml_RX10_342 (itg hq4).1 (m_X10_freeNow hq4) rfl rfl (Nat.le_of_ble_eq_true rfl) ⟨Nat.le_of_ble_eq_true rfl, Nat.le_of_ble_eq_true rfl⟩ ⟨Nat.le_of_ble_eq_true rfl, Nat.le_of_ble_eq_true rfl⟩ ?_
  obtain ⟨q5, hq5, h⟩ := obi h
  refine v_cSi (bc := 0) (bs := 0) (As := [.int q4.1]) (dq D_X10_goes 45 rfl) cs_X10_bits ml_RX10_390 (m_X10_bits hq5) rfl rfl (Nat.le_of_ble_eq_true rfl) ⟨Nat.le_of_ble_eq_true rfl, Nat.le_of_ble_eq_true rfl⟩ ⟨Nat.le_of_ble_eq_true rfl, Nat.le_of_ble_eq_true rfl⟩ ?_
  refine v_isub (dq D_X10_goes 46 rfl) ?_
  obtain ⟨x6, ex6, h⟩ := bnd_inv h
  refine v_top (congrArg Value.int ex6) ?_
  refine v_istore_n (dq D_X10_goes 47 rfl) [(2, .int x6), (0, .ref a0), (1, .int a1)] rfl (Nat.le_of_ble_eq_true rfl) rfl ?_
  refine v_iload_n (dq D_X10_goes 48 rfl) 0 rfl ?_
  refine v_aload_n (dq D_X10_goes 49 rfl) 1 rfl ?_
  obtain ⟨x7, hx7, h⟩ := obi h
  refine v_gI (dq D_X10_goes 50 rfl) fa_RX10_408 hx7 ?_
  refine v_icmp_le (dq D_X10_goes 51 rfl) rfl (fun c8 => ?_) (fun c8 => ?_)
  · have h := itp h c8
    exact v_sub [1, 2] rfl (w_X10_goes_104 hk20 h)
  · have h := itn h c8
    refine v_aload_n (dq D_X10_goes 52 rfl) 1 rfl ?_
    refine v_iload_n (dq D_X10_goes 53 rfl) 0 rfl ?_
    obtain ⟨σ9, hσ9, h⟩ := obi h
    refine v_pI (dq D_X10_goes 54 rfl) fp_RX10_408 hσ9 ?_
    exact v_sub [1, 2] rfl (w_X10_goes_104 hk20 h)
theorem w_X10_goes_20 {sa : Env3} : ∀ (n : Nat) {a0 : Nat} {a1 : Int32} {σ : St} {r : St}, f_X10_goes_20 n a0 a1 σ = some r → VV sa cX10_goes K_X10_goes 20 [(0, .ref a0), (1, .int a1)] [] σ (pU r) 0 0 := by
  intro n
  induction n with
  | zero => intro a0 a1 σ r h; cases h
  | succ n ih =>
    intro a0 a1 σ r h
    rw [e_X10_goes_20] at h
    refine v_aload_n (dq D_X10_goes 12 rfl) 0 rfl ?_
    obtain ⟨x1, hx1, h⟩ := obi h
    refine v_gI (dq D_X10_goes 13 rfl) fa_RX10_405 hx1 ?_
    refine v_sipush (dq D_X10_goes 14 rfl) ks_300 ?_
    refine v_icmp_ge (dq D_X10_goes 15 rfl) rfl (fun c2 => ?_) (fun c2 => ?_)
    · have h := itp h c2
      exact v_sub [] rfl (w_X10_goes_107 h)
    · have h := itn h c2
      refine v_aload_n (dq D_X10_goes 16 rfl) 0 rfl ?_
      obtain ⟨x3, hx3, h⟩ := obi h
      refine v_gR (dq D_X10_goes 17 rfl) fa_RX10_24 hx3 ?_
      refine v_bipush (dq D_X10_goes 18 rfl) kb_36 ?_
      obtain ⟨x4, hx4, h⟩ := obi h
      refine v_iald (dq D_X10_goes 19 rfl) hx4 ?_
      refine v_if_ne (dq D_X10_goes 20 rfl) rfl (fun c5 => ?_) (fun c5 => ?_)
      · have h := itn h c5
        exact v_sub [] rfl (w_X10_goes_107 h)
      · have h := itp h c5
        refine v_aload_n (dq D_X10_goes 21 rfl) 0 rfl ?_
        obtain ⟨x6, hx6, h⟩ := obi h
        refine v_gR (dq D_X10_goes 22 rfl) fa_RX10_24 hx6 ?_
        refine v_bipush (dq D_X10_goes 23 rfl) kb_34 ?_
        obtain ⟨x7, hx7, h⟩ := obi h
        refine v_iald (dq D_X10_goes 24 rfl) hx7 ?_
        refine v_if_gt (dq D_X10_goes 25 rfl) rfl (fun c8 => ?_) (fun c8 => ?_)
        · have h := itp h c8
          exact w_X10_goes_67 ih h
        · have h := itn h c8
          refine v_aload_n (dq D_X10_goes 26 rfl) 0 rfl ?_
          obtain ⟨x9, hx9, h⟩ := obi h
          refine v_gR (dq D_X10_goes 27 rfl) fa_RX10_266 hx9 ?_
          refine v_aload_n (dq D_X10_goes 28 rfl) 0 rfl ?_
          obtain ⟨x10, hx10, h⟩ := obi h
          refine v_gR (dq D_X10_goes 29 rfl) fa_RX10_24 hx10 ?_
          refine v_bipush (dq D_X10_goes 30 rfl) kb_35 ?_
          obtain ⟨x11, hx11, h⟩ := obi h
          refine v_iald (dq D_X10_goes 31 rfl) hx11 ?_
          obtain ⟨q12, hq12, h⟩ := obi h
          refine v_cVi (bc := 0) (bs := 0) (As := [.int x11]) (dq D_X10_goes 32 rfl) cv_X9_isStep ml_RX10_237 (itg hq12).1 (m_X9_isStep hq12) rfl rfl (Nat.le_of_ble_eq_true rfl) ⟨Nat.le_of_ble_eq_true rfl, Nat.le_of_ble_eq_true rfl⟩ ⟨Nat.le_of_ble_eq_true rfl, Nat.le_of_ble_eq_true rfl⟩ ?_
          refine v_if_eq (dq D_X10_goes 33 rfl) rfl (fun c13 => ?_) (fun c13 => ?_)
          · have h := itp h c13
            exact v_sub [] rfl (w_X10_goes_107 h)
          · have h := itn h c13
            exact w_X10_goes_67 ih h
theorem w_X10_goes_0 {sa : Env3} {a0 : Nat} {a1 : Int32} {σ : St} {r : St} (h : f_X10_goes_0 a0 a1 σ = some r) : VV sa cX10_goes K_X10_goes 0 [(0, .ref a0), (1, .int a1)] [] σ (pU r) 0 0 := by
  unfold f_X10_goes_0 at h
  refine v_aload_n (dq D_X10_goes 0 rfl) 0 rfl ?_
  refine v_iload_n (dq D_X10_goes 1 rfl) 1 rfl ?_
  obtain ⟨σ1, hσ1, h⟩ := obi h
  refine v_cVv (bc := 0) (bs := 0) (As := [.int a1]) (dq D_X10_goes 2 rfl) cv_X10_asTold ml_RX10_268 (itg hσ1).1 (m_X10_asTold hσ1) rfl rfl (Nat.le_of_ble_eq_true rfl) ⟨Nat.le_of_ble_eq_true rfl, Nat.le_of_ble_eq_true rfl⟩ ⟨Nat.le_of_ble_eq_true rfl, Nat.le_of_ble_eq_true rfl⟩ ?_
  refine v_aload_n (dq D_X10_goes 3 rfl) 0 rfl ?_
  refine v_iconst (dq D_X10_goes 4 rfl) kc_0 ?_
  obtain ⟨σ2, hσ2, h⟩ := obi h
  refine v_pI (dq D_X10_goes 5 rfl) fp_RX10_405 hσ2 ?_
  refine v_aload_n (dq D_X10_goes 6 rfl) 0 rfl ?_
  refine v_iconst (dq D_X10_goes 7 rfl) kc_0 ?_
  obtain ⟨σ3, hσ3, h⟩ := obi h
  refine v_pI (dq D_X10_goes 8 rfl) fp_RX10_399 hσ3 ?_
  refine v_aload_n (dq D_X10_goes 9 rfl) 0 rfl ?_
  refine v_iconst (dq D_X10_goes 10 rfl) kc_0 ?_
  obtain ⟨σ4, hσ4, h⟩ := obi h
  refine v_pI (dq D_X10_goes 11 rfl) fp_RX10_408 hσ4 ?_
  exact w_X10_goes_20 _ h
theorem m_X10_goes {sa : Env3} {a0 : Nat} {a1 : Int32} {σ : St} {r : St} (h : f_X10_goes a0 a1 σ = some r) : Ex sa yX10_goes cX10_goes K_X10_goes [.ref a0, .int a1] σ (pU r) := Ex.of (by decide) rfl (fun q => nomatch q) (Nat.le_of_ble_eq_true rfl) (w_X10_goes_0 (itg h).2)
theorem w_X10_cellsFor_38 {sa : Env3} : ∀ (n : Nat) {a0 : Nat} {a1 : Int32} {a2 : Int32} {σ : St} {r : Int32 × St}, f_X10_cellsFor_38 n a0 a1 a2 σ = some r → VV sa cX10_cellsFor K_X10_cellsFor 38 [(0, .ref a0), (1, .int a1), (2, .int a2)] [] σ (pO r) 0 0 := by
  intro n
  induction n with
  | zero => intro a0 a1 a2 σ r h; cases h
  | succ n ih =>
    intro a0 a1 a2 σ r h
    rw [e_X10_cellsFor_38] at h
    refine v_iload_n (dq D_X10_cellsFor 21 rfl) 2 rfl ?_
    refine v_bipush (dq D_X10_cellsFor 22 rfl) kb_24 ?_
    refine v_icmp_gt (dq D_X10_cellsFor 23 rfl) rfl (fun c1 => ?_) (fun c1 => ?_)
    · have h := itp h c1
      refine v_aload_n (dq D_X10_cellsFor 37 rfl) 0 rfl ?_
      refine v_bipush (dq D_X10_cellsFor 38 rfl) kb_m2 ?_
      obtain ⟨q2, hq2, h⟩ := obi h
      refine v_cVi (bc := 0) (bs := 0) (As := [.int (-2)]) (dq D_X10_cellsFor 39 rfl) cv_X10_good ml_RX10_46 (itg hq2).1 (m_X10_good hq2) rfl rfl (Nat.le_of_ble_eq_true rfl) ⟨Nat.le_of_ble_eq_true rfl, Nat.le_of_ble_eq_true rfl⟩ ⟨Nat.le_of_ble_eq_true rfl, Nat.le_of_ble_eq_true rfl⟩ ?_
      obtain rfl := Option.some.inj h
      exact v_iret (dq D_X10_cellsFor 40 rfl) rfl ⟨rfl, rfl⟩
    · have h := itn h c1
      refine v_aload_n (dq D_X10_cellsFor 24 rfl) 0 rfl ?_
      refine v_iload_n (dq D_X10_cellsFor 25 rfl) 2 rfl ?_
      obtain ⟨σ3, hσ3, h⟩ := obi h
      refine v_cVv (bc := 0) (bs := 0) (As := [.int a2]) (dq D_X10_cellsFor 26 rfl) cv_X10_goes ml_RX10_417 (itg hσ3).1 (m_X10_goes hσ3) rfl rfl (Nat.le_of_ble_eq_true rfl) ⟨Nat.le_of_ble_eq_true rfl, Nat.le_of_ble_eq_true rfl⟩ ⟨Nat.le_of_ble_eq_true rfl, Nat.le_of_ble_eq_true rfl⟩ ?_
      refine v_aload_n (dq D_X10_cellsFor 27 rfl) 0 rfl ?_
      obtain ⟨x4, hx4, h⟩ := obi h
      refine v_gI (dq D_X10_cellsFor 28 rfl) fa_RX10_405 hx4 ?_
      refine v_iload_n (dq D_X10_cellsFor 29 rfl) 1 rfl ?_
      refine v_icmp_gt (dq D_X10_cellsFor 30 rfl) rfl (fun c5 => ?_) (fun c5 => ?_)
      · have h := itp h c5
        refine v_iinc (dq D_X10_cellsFor 35 rfl) 2 [(2, .int (a2 + 1)), (0, .ref a0), (1, .int a1)] rfl kc_1 (Nat.le_of_ble_eq_true rfl) rfl ?_
        refine v_goto (dq D_X10_cellsFor 36 rfl) rfl ?_
        exact v_sub [1, 2, 0] rfl (ih h)
      · have h := itn h c5
        refine v_aload_n (dq D_X10_cellsFor 31 rfl) 0 rfl ?_
        refine v_iload_n (dq D_X10_cellsFor 32 rfl) 2 rfl ?_
        obtain ⟨q6, hq6, h⟩ := obi h
        refine v_cVi (bc := 0) (bs := 0) (As := [.int a2]) (dq D_X10_cellsFor 33 rfl) cv_X10_good ml_RX10_46 (itg hq6).1 (m_X10_good hq6) rfl rfl (Nat.le_of_ble_eq_true rfl) ⟨Nat.le_of_ble_eq_true rfl, Nat.le_of_ble_eq_true rfl⟩ ⟨Nat.le_of_ble_eq_true rfl, Nat.le_of_ble_eq_true rfl⟩ ?_
        obtain rfl := Option.some.inj h
        exact v_iret (dq D_X10_cellsFor 34 rfl) rfl ⟨rfl, rfl⟩
theorem w_X10_cellsFor_0 {sa : Env3} {a0 : Nat} {a1 : Int32} {σ : St} {r : Int32 × St} (h : f_X10_cellsFor_0 a0 a1 σ = some r) : VV sa cX10_cellsFor K_X10_cellsFor 0 [(0, .ref a0), (1, .int a1)] [] σ (pO r) 0 0 := by
  unfold f_X10_cellsFor_0 at h
  refine v_aload_n (dq D_X10_cellsFor 0 rfl) 0 rfl ?_
  refine v_iconst (dq D_X10_cellsFor 1 rfl) kc_0 ?_
  obtain ⟨σ1, hσ1, h⟩ := obi h
  refine v_pI (dq D_X10_cellsFor 2 rfl) fp_RX10_36 hσ1 ?_
  refine v_aload_n (dq D_X10_cellsFor 3 rfl) 0 rfl ?_
  obtain ⟨x2, hx2, h⟩ := obi h
  refine v_gQ (dq D_X10_cellsFor 4 rfl) fa_RX10_266 hx2 ?_
  rcases oc_inv h with ⟨rfl, h⟩ | ⟨b3, rfl, h⟩
  · refine v_ifnonnullN (dq D_X10_cellsFor 5 rfl) ?_
    refine v_aload_n (dq D_X10_cellsFor 6 rfl) 0 rfl ?_
    refine v_iconst (dq D_X10_cellsFor 7 rfl) kc_1 ?_
    obtain ⟨q4, hq4, h⟩ := obi h
    refine v_cVi (bc := 0) (bs := 0) (As := [.int 1]) (dq D_X10_cellsFor 8 rfl) cv_X10_refused ml_RX10_42 (itg hq4).1 (m_X10_refused hq4) rfl rfl (Nat.le_of_ble_eq_true rfl) ⟨Nat.le_of_ble_eq_true rfl, Nat.le_of_ble_eq_true rfl⟩ ⟨Nat.le_of_ble_eq_true rfl, Nat.le_of_ble_eq_true rfl⟩ ?_
    obtain rfl := Option.some.inj h
    exact v_iret (dq D_X10_cellsFor 9 rfl) rfl ⟨rfl, rfl⟩
  · refine v_ifnonnullR (dq D_X10_cellsFor 5 rfl) rfl ?_
    refine v_iload_n (dq D_X10_cellsFor 10 rfl) 1 rfl ?_
    refine v_iconst (dq D_X10_cellsFor 11 rfl) kc_0 ?_
    refine v_sipush (dq D_X10_cellsFor 12 rfl) ks_300 ?_
    obtain ⟨q5, hq5, h⟩ := obi h
    refine v_cSi (bc := 0) (bs := 0) (As := [.int a1, .int 0, .int 300]) (dq D_X10_cellsFor 13 rfl) cs_X10_in ml_RX10_115 (m_X10_in hq5) rfl rfl (Nat.le_of_ble_eq_true rfl) ⟨Nat.le_of_ble_eq_true rfl, Nat.le_of_ble_eq_true rfl⟩ ⟨Nat.le_of_ble_eq_true rfl, Nat.le_of_ble_eq_true rfl⟩ ?_
    refine v_if_ne (dq D_X10_cellsFor 14 rfl) rfl (fun c6 => ?_) (fun c6 => ?_)
    · have h := itn h c6
      refine v_bipush (dq D_X10_cellsFor 19 rfl) kb_9 ?_
      refine v_istore_n (dq D_X10_cellsFor 20 rfl) [(2, .int 9), (0, .ref a0), (1, .int a1)] rfl (Nat.le_of_ble_eq_true rfl) rfl ?_
      exact v_sub [1, 2, 0] rfl (w_X10_cellsFor_38 _ h)
    · have h := itp h c6
      refine v_aload_n (dq D_X10_cellsFor 15 rfl) 0 rfl ?_
      refine v_iconst (dq D_X10_cellsFor 16 rfl) kc_2 ?_
      obtain ⟨q7, hq7, h⟩ := obi h
      refine v_cVi (bc := 0) (bs := 0) (As := [.int 2]) (dq D_X10_cellsFor 17 rfl) cv_X10_refused ml_RX10_42 (itg hq7).1 (m_X10_refused hq7) rfl rfl (Nat.le_of_ble_eq_true rfl) ⟨Nat.le_of_ble_eq_true rfl, Nat.le_of_ble_eq_true rfl⟩ ⟨Nat.le_of_ble_eq_true rfl, Nat.le_of_ble_eq_true rfl⟩ ?_
      obtain rfl := Option.some.inj h
      exact v_iret (dq D_X10_cellsFor 18 rfl) rfl ⟨rfl, rfl⟩
theorem m_X10_cellsFor {sa : Env3} {a0 : Nat} {a1 : Int32} {σ : St} {r : Int32 × St} (h : f_X10_cellsFor a0 a1 σ = some r) : Ex sa yX10_cellsFor cX10_cellsFor K_X10_cellsFor [.ref a0, .int a1] σ (pO r) := Ex.of (by decide) rfl (fun q => nomatch q) (Nat.le_of_ble_eq_true rfl) (w_X10_cellsFor_0 (itg h).2)
theorem w_X10_remembers_52 {sa : Env3} : ∀ (n : Nat) {a0 : Nat} {a1 : Int32} {σ : St} {r : St}, f_X10_remembers_52 n a0 a1 σ = some r → VV sa cX10_remembers K_X10_remembers 52 [(0, .ref a0), (1, .int a1)] [] σ (pU r) 0 0 := by
  intro n
  induction n with
  | zero => intro a0 a1 σ r h; cases h
  | succ n ih =>
    intro a0 a1 σ r h
    rw [e_X10_remembers_52] at h
    refine v_iload_n (dq D_X10_remembers 29 rfl) 1 rfl ?_
    refine v_sipush (dq D_X10_remembers 30 rfl) ks_195 ?_
    refine v_icmp_ge (dq D_X10_remembers 31 rfl) rfl (fun c1 => ?_) (fun c1 => ?_)
    · have h := itp h c1
      refine v_aload_n (dq D_X10_remembers 47 rfl) 0 rfl ?_
      refine v_dup (dq D_X10_remembers 48 rfl) rfl ?_
      obtain ⟨x2, hx2, h⟩ := obi h
      refine v_gI (dq D_X10_remembers 49 rfl) fa_RX10_274 hx2 ?_
      refine v_iconst (dq D_X10_remembers 50 rfl) kc_1 ?_
      refine v_iadd (dq D_X10_remembers 51 rfl) ?_
      obtain ⟨σ3, hσ3, h⟩ := obi h
      refine v_pI (dq D_X10_remembers 52 rfl) fp_RX10_274 hσ3 ?_
      obtain rfl := Option.some.inj h
      exact v_vret (dq D_X10_remembers 53 rfl) rfl ⟨rfl, rfl⟩
    · have h := itn h c1
      refine v_aload_n (dq D_X10_remembers 32 rfl) 0 rfl ?_
      obtain ⟨x4, hx4, h⟩ := obi h
      refine v_gR (dq D_X10_remembers 33 rfl) fa_RX10_27 hx4 ?_
      refine v_sipush (dq D_X10_remembers 34 rfl) ks_195 ?_
      refine v_aload_n (dq D_X10_remembers 35 rfl) 0 rfl ?_
      obtain ⟨x5, hx5, h⟩ := obi h
      refine v_gI (dq D_X10_remembers 36 rfl) fa_RX10_274 hx5 ?_
      refine v_imul (dq D_X10_remembers 37 rfl) ?_
      refine v_iload_n (dq D_X10_remembers 38 rfl) 1 rfl ?_
      refine v_iadd (dq D_X10_remembers 39 rfl) ?_
      refine v_aload_n (dq D_X10_remembers 40 rfl) 0 rfl ?_
      obtain ⟨x6, hx6, h⟩ := obi h
      refine v_gR (dq D_X10_remembers 41 rfl) fa_RX10_21 hx6 ?_
      refine v_iload_n (dq D_X10_remembers 42 rfl) 1 rfl ?_
      obtain ⟨x7, hx7, h⟩ := obi h
      refine v_iald (dq D_X10_remembers 43 rfl) hx7 ?_
      obtain ⟨σ8, hσ8, h⟩ := obi h
      refine v_iast (dq D_X10_remembers 44 rfl) hσ8 ?_
      refine v_iinc (dq D_X10_remembers 45 rfl) 1 [(1, .int (a1 + 1)), (0, .ref a0)] rfl kc_1 (Nat.le_of_ble_eq_true rfl) rfl ?_
      refine v_goto (dq D_X10_remembers 46 rfl) rfl ?_
      exact v_sub [1, 0] rfl (ih h)
theorem w_X10_remembers_50 {sa : Env3} {a0 : Nat} {σ : St} {r : St} (h : f_X10_remembers_50 a0 σ = some r) : VV sa cX10_remembers K_X10_remembers 50 [(0, .ref a0)] [] σ (pU r) 0 0 := by
  unfold f_X10_remembers_50 at h
  refine v_iconst (dq D_X10_remembers 27 rfl) kc_0 ?_
  refine v_istore_n (dq D_X10_remembers 28 rfl) [(1, .int 0), (0, .ref a0)] rfl (Nat.le_of_ble_eq_true rfl) rfl ?_
  exact v_sub [1, 0] rfl (w_X10_remembers_52 _ h)
theorem w_X10_remembers_11 {sa : Env3} : ∀ (n : Nat) {a0 : Nat} {a1 : Int32} {σ : St} {r : St}, f_X10_remembers_11 n a0 a1 σ = some r → VV sa cX10_remembers K_X10_remembers 11 [(0, .ref a0), (1, .int a1)] [] σ (pU r) 0 0 := by
  intro n
  induction n with
  | zero => intro a0 a1 σ r h; cases h
  | succ n ih =>
    intro a0 a1 σ r h
    rw [e_X10_remembers_11] at h
    refine v_iload_n (dq D_X10_remembers 6 rfl) 1 rfl ?_
    refine v_sipush (dq D_X10_remembers 7 rfl) ks_2925 ?_
    refine v_icmp_ge (dq D_X10_remembers 8 rfl) rfl (fun c1 => ?_) (fun c1 => ?_)
    · have h := itp h c1
      refine v_aload_n (dq D_X10_remembers 21 rfl) 0 rfl ?_
      refine v_dup (dq D_X10_remembers 22 rfl) rfl ?_
      obtain ⟨x2, hx2, h⟩ := obi h
      refine v_gI (dq D_X10_remembers 23 rfl) fa_RX10_274 hx2 ?_
      refine v_iconst (dq D_X10_remembers 24 rfl) kc_1 ?_
      refine v_isub (dq D_X10_remembers 25 rfl) ?_
      obtain ⟨σ3, hσ3, h⟩ := obi h
      refine v_pI (dq D_X10_remembers 26 rfl) fp_RX10_274 hσ3 ?_
      exact v_sub [0] rfl (w_X10_remembers_50 h)
    · have h := itn h c1
      refine v_aload_n (dq D_X10_remembers 9 rfl) 0 rfl ?_
      obtain ⟨x4, hx4, h⟩ := obi h
      refine v_gR (dq D_X10_remembers 10 rfl) fa_RX10_27 hx4 ?_
      refine v_iload_n (dq D_X10_remembers 11 rfl) 1 rfl ?_
      refine v_aload_n (dq D_X10_remembers 12 rfl) 0 rfl ?_
      obtain ⟨x5, hx5, h⟩ := obi h
      refine v_gR (dq D_X10_remembers 13 rfl) fa_RX10_27 hx5 ?_
      refine v_iload_n (dq D_X10_remembers 14 rfl) 1 rfl ?_
      refine v_sipush (dq D_X10_remembers 15 rfl) ks_195 ?_
      refine v_iadd (dq D_X10_remembers 16 rfl) ?_
      obtain ⟨x6, hx6, h⟩ := obi h
      refine v_iald (dq D_X10_remembers 17 rfl) hx6 ?_
      obtain ⟨σ7, hσ7, h⟩ := obi h
      refine v_iast (dq D_X10_remembers 18 rfl) hσ7 ?_
      refine v_iinc (dq D_X10_remembers 19 rfl) 1 [(1, .int (a1 + 1)), (0, .ref a0)] rfl kc_1 (Nat.le_of_ble_eq_true rfl) rfl ?_
      refine v_goto (dq D_X10_remembers 20 rfl) rfl ?_
      exact v_sub [1, 0] rfl (ih h)
theorem w_X10_remembers_0 {sa : Env3} {a0 : Nat} {σ : St} {r : St} (h : f_X10_remembers_0 a0 σ = some r) : VV sa cX10_remembers K_X10_remembers 0 [(0, .ref a0)] [] σ (pU r) 0 0 := by
  unfold f_X10_remembers_0 at h
  refine v_aload_n (dq D_X10_remembers 0 rfl) 0 rfl ?_
  obtain ⟨x1, hx1, h⟩ := obi h
  refine v_gI (dq D_X10_remembers 1 rfl) fa_RX10_274 hx1 ?_
  refine v_bipush (dq D_X10_remembers 2 rfl) kb_16 ?_
  refine v_icmp_ne (dq D_X10_remembers 3 rfl) rfl (fun c2 => ?_) (fun c2 => ?_)
  · have h := itn h c2
    exact w_X10_remembers_50 h
  · have h := itp h c2
    refine v_iconst (dq D_X10_remembers 4 rfl) kc_0 ?_
    refine v_istore_n (dq D_X10_remembers 5 rfl) [(1, .int 0), (0, .ref a0)] rfl (Nat.le_of_ble_eq_true rfl) rfl ?_
    exact v_sub [1, 0] rfl (w_X10_remembers_11 _ h)
theorem m_X10_remembers {sa : Env3} {a0 : Nat} {σ : St} {r : St} (h : f_X10_remembers a0 σ = some r) : Ex sa yX10_remembers cX10_remembers K_X10_remembers [.ref a0] σ (pU r) := Ex.of (by decide) rfl (fun q => nomatch q) (Nat.le_of_ble_eq_true rfl) (w_X10_remembers_0 (itg h).2)
theorem w_X10_remains_2 {sa : Env3} : ∀ (n : Nat) {a0 : Nat} {a1 : Int32} {σ : St} {r : St}, f_X10_remains_2 n a0 a1 σ = some r → VV sa cX10_remains K_X10_remains 2 [(0, .ref a0), (1, .int a1)] [] σ (pU r) 0 0 := by
  intro n
  induction n with
  | zero => intro a0 a1 σ r h; cases h
  | succ n ih =>
    intro a0 a1 σ r h
    rw [e_X10_remains_2] at h
    refine v_iload_n (dq D_X10_remains 2 rfl) 1 rfl ?_
    refine v_sipush (dq D_X10_remains 3 rfl) ks_195 ?_
    refine v_icmp_ge (dq D_X10_remains 4 rfl) rfl (fun c1 => ?_) (fun c1 => ?_)
    · have h := itp h c1
      obtain rfl := Option.some.inj h
      exact v_vret (dq D_X10_remains 15 rfl) rfl ⟨rfl, rfl⟩
    · have h := itn h c1
      refine v_aload_n (dq D_X10_remains 5 rfl) 0 rfl ?_
      obtain ⟨x2, hx2, h⟩ := obi h
      refine v_gR (dq D_X10_remains 6 rfl) fa_RX10_21 hx2 ?_
      refine v_iload_n (dq D_X10_remains 7 rfl) 1 rfl ?_
      refine v_aload_n (dq D_X10_remains 8 rfl) 0 rfl ?_
      obtain ⟨x3, hx3, h⟩ := obi h
      refine v_gR (dq D_X10_remains 9 rfl) fa_RX10_24 hx3 ?_
      refine v_iload_n (dq D_X10_remains 10 rfl) 1 rfl ?_
      obtain ⟨x4, hx4, h⟩ := obi h
      refine v_iald (dq D_X10_remains 11 rfl) hx4 ?_
      obtain ⟨σ5, hσ5, h⟩ := obi h
      refine v_iast (dq D_X10_remains 12 rfl) hσ5 ?_
      refine v_iinc (dq D_X10_remains 13 rfl) 1 [(1, .int (a1 + 1)), (0, .ref a0)] rfl kc_1 (Nat.le_of_ble_eq_true rfl) rfl ?_
      refine v_goto (dq D_X10_remains 14 rfl) rfl ?_
      exact v_sub [1, 0] rfl (ih h)
theorem w_X10_remains_0 {sa : Env3} {a0 : Nat} {σ : St} {r : St} (h : f_X10_remains_0 a0 σ = some r) : VV sa cX10_remains K_X10_remains 0 [(0, .ref a0)] [] σ (pU r) 0 0 := by
  unfold f_X10_remains_0 at h
  refine v_iconst (dq D_X10_remains 0 rfl) kc_0 ?_
  refine v_istore_n (dq D_X10_remains 1 rfl) [(1, .int 0), (0, .ref a0)] rfl (Nat.le_of_ble_eq_true rfl) rfl ?_
  exact v_sub [1, 0] rfl (w_X10_remains_2 _ h)
theorem m_X10_remains {sa : Env3} {a0 : Nat} {σ : St} {r : St} (h : f_X10_remains a0 σ = some r) : Ex sa yX10_remains cX10_remains K_X10_remains [.ref a0] σ (pU r) := Ex.of (by decide) rfl (fun q => nomatch q) (Nat.le_of_ble_eq_true rfl) (w_X10_remains_0 (itg h).2)
theorem w_X10_done_0 {sa : Env3} {a0 : Nat} {a1 : Int32} {σ : St} {r : Int32 × St} (h : f_X10_done_0 a0 a1 σ = some r) : VV sa cX10_done K_X10_done 0 [(0, .ref a0), (1, .int a1)] [] σ (pO r) 0 0 := by
  unfold f_X10_done_0 at h
  refine v_aload_n (dq D_X10_done 0 rfl) 0 rfl ?_
  obtain ⟨σ1, hσ1, h⟩ := obi h
  refine v_cVv (bc := 0) (bs := 0) (As := []) (dq D_X10_done 1 rfl) cv_X10_remains ml_RX10_271 (itg hσ1).1 (m_X10_remains hσ1) rfl rfl (Nat.le_of_ble_eq_true rfl) ⟨Nat.le_of_ble_eq_true rfl, Nat.le_of_ble_eq_true rfl⟩ ⟨Nat.le_of_ble_eq_true rfl, Nat.le_of_ble_eq_true rfl⟩ ?_
  refine v_aload_n (dq D_X10_done 2 rfl) 0 rfl ?_
  refine v_iload_n (dq D_X10_done 3 rfl) 1 rfl ?_
  obtain ⟨q2, hq2, h⟩ := obi h
  refine v_cVi (bc := 0) (bs := 0) (As := [.int a1]) (dq D_X10_done 4 rfl) cv_X10_good ml_RX10_46 (itg hq2).1 (m_X10_good hq2) rfl rfl (Nat.le_of_ble_eq_true rfl) ⟨Nat.le_of_ble_eq_true rfl, Nat.le_of_ble_eq_true rfl⟩ ⟨Nat.le_of_ble_eq_true rfl, Nat.le_of_ble_eq_true rfl⟩ ?_
  obtain rfl := Option.some.inj h
  exact v_iret (dq D_X10_done 5 rfl) rfl ⟨rfl, rfl⟩
theorem m_X10_done {sa : Env3} {a0 : Nat} {a1 : Int32} {σ : St} {r : Int32 × St} (h : f_X10_done a0 a1 σ = some r) : Ex sa yX10_done cX10_done K_X10_done [.ref a0, .int a1] σ (pO r) := Ex.of (by decide) rfl (fun q => nomatch q) (Nat.le_of_ble_eq_true rfl) (w_X10_done_0 (itg h).2)
theorem w_X10_commit_43 {sa : Env3} {s0 : Nat} {s1 : Int32} {σ : St} {r : Int32 × St} (h : f_X10_commit_43 s0 s1 σ = some r) : VV sa cX10_commit K_X10_commit 43 [] [.int s1, .ref s0] σ (pO r) 0 0 := by
  unfold f_X10_commit_43 at h
  obtain ⟨q1, hq1, h⟩ := obi h
  refine v_cVi (bc := 0) (bs := 0) (As := [.int s1]) (dq D_X10_commit 24 rfl) cv_X10_refused ml_RX10_42 (itg hq1).1 (m_X10_refused hq1) rfl rfl (Nat.le_of_ble_eq_true rfl) ⟨Nat.le_of_ble_eq_true rfl, Nat.le_of_ble_eq_true rfl⟩ ⟨Nat.le_of_ble_eq_true rfl, Nat.le_of_ble_eq_true rfl⟩ ?_
  obtain rfl := Option.some.inj h
  exact v_iret (dq D_X10_commit 25 rfl) rfl ⟨rfl, rfl⟩
theorem w_X10_commit_0 {sa : Env3} {a0 : Nat} {σ : St} {r : Int32 × St} (h : f_X10_commit_0 a0 σ = some r) : VV sa cX10_commit K_X10_commit 0 [(0, .ref a0)] [] σ (pO r) 0 0 := by
  unfold f_X10_commit_0 at h
  refine v_aload_n (dq D_X10_commit 0 rfl) 0 rfl ?_
  refine v_iconst (dq D_X10_commit 1 rfl) kc_0 ?_
  obtain ⟨σ1, hσ1, h⟩ := obi h
  refine v_pI (dq D_X10_commit 2 rfl) fp_RX10_36 hσ1 ?_
  refine v_aload_n (dq D_X10_commit 3 rfl) 0 rfl ?_
  obtain ⟨x2, hx2, h⟩ := obi h
  refine v_gQ (dq D_X10_commit 4 rfl) fa_RX10_266 hx2 ?_
  rcases oc_inv h with ⟨rfl, h⟩ | ⟨b3, rfl, h⟩
  · refine v_ifnonnullN (dq D_X10_commit 5 rfl) ?_
    refine v_aload_n (dq D_X10_commit 6 rfl) 0 rfl ?_
    refine v_iconst (dq D_X10_commit 7 rfl) kc_1 ?_
    obtain ⟨q4, hq4, h⟩ := obi h
    refine v_cVi (bc := 0) (bs := 0) (As := [.int 1]) (dq D_X10_commit 8 rfl) cv_X10_refused ml_RX10_42 (itg hq4).1 (m_X10_refused hq4) rfl rfl (Nat.le_of_ble_eq_true rfl) ⟨Nat.le_of_ble_eq_true rfl, Nat.le_of_ble_eq_true rfl⟩ ⟨Nat.le_of_ble_eq_true rfl, Nat.le_of_ble_eq_true rfl⟩ ?_
    obtain rfl := Option.some.inj h
    exact v_iret (dq D_X10_commit 9 rfl) rfl ⟨rfl, rfl⟩
  · refine v_ifnonnullR (dq D_X10_commit 5 rfl) rfl ?_
    refine v_aload_n (dq D_X10_commit 10 rfl) 0 rfl ?_
    obtain ⟨σ5, hσ5, h⟩ := obi h
    refine v_cVv (bc := 0) (bs := 0) (As := []) (dq D_X10_commit 11 rfl) cv_X10_works ml_RX10_366 (itg hσ5).1 (m_X10_works hσ5) rfl rfl (Nat.le_of_ble_eq_true rfl) ⟨Nat.le_of_ble_eq_true rfl, Nat.le_of_ble_eq_true rfl⟩ ⟨Nat.le_of_ble_eq_true rfl, Nat.le_of_ble_eq_true rfl⟩ ?_
    refine v_aload_n (dq D_X10_commit 12 rfl) 0 rfl ?_
    obtain ⟨q6, hq6, h⟩ := obi h
    refine v_cVi (bc := 0) (bs := 0) (As := []) (dq D_X10_commit 13 rfl) cv_X10_whyNoCommit ml_RX10_387 (itg hq6).1 (m_X10_whyNoCommit hq6) rfl rfl (Nat.le_of_ble_eq_true rfl) ⟨Nat.le_of_ble_eq_true rfl, Nat.le_of_ble_eq_true rfl⟩ ⟨Nat.le_of_ble_eq_true rfl, Nat.le_of_ble_eq_true rfl⟩ ?_
    refine v_istore_n (dq D_X10_commit 14 rfl) [(1, .int q6.1), (0, .ref a0)] rfl (Nat.le_of_ble_eq_true rfl) rfl ?_
    refine v_iload_n (dq D_X10_commit 15 rfl) 0 rfl ?_
    refine v_if_le (dq D_X10_commit 16 rfl) rfl (fun c7 => ?_) (fun c7 => ?_)
    · have h := itp h c7
      refine v_aload_n (dq D_X10_commit 26 rfl) 1 rfl ?_
      obtain ⟨σ8, hσ8, h⟩ := obi h
      refine v_cVv (bc := 0) (bs := 0) (As := []) (dq D_X10_commit 27 rfl) cv_X10_remembers ml_RX10_468 (itg hσ8).1 (m_X10_remembers hσ8) rfl rfl (Nat.le_of_ble_eq_true rfl) ⟨Nat.le_of_ble_eq_true rfl, Nat.le_of_ble_eq_true rfl⟩ ⟨Nat.le_of_ble_eq_true rfl, Nat.le_of_ble_eq_true rfl⟩ ?_
      refine v_aload_n (dq D_X10_commit 28 rfl) 1 rfl ?_
      refine v_aload_n (dq D_X10_commit 29 rfl) 1 rfl ?_
      obtain ⟨q9, hq9, h⟩ := obi h
      refine v_cVi (bc := 0) (bs := 0) (As := []) (dq D_X10_commit 30 rfl) cv_X10_commitsOne ml_RX10_393 (itg hq9).1 (m_X10_commitsOne hq9) rfl rfl (Nat.le_of_ble_eq_true rfl) ⟨Nat.le_of_ble_eq_true rfl, Nat.le_of_ble_eq_true rfl⟩ ⟨Nat.le_of_ble_eq_true rfl, Nat.le_of_ble_eq_true rfl⟩ ?_
      obtain ⟨q10, hq10, h⟩ := obi h
      refine v_cVi (bc := 0) (bs := 0) (As := [.int q9.1]) (dq D_X10_commit 31 rfl) cv_X10_done ml_RX10_471 (itg hq10).1 (m_X10_done hq10) rfl rfl (Nat.le_of_ble_eq_true rfl) ⟨Nat.le_of_ble_eq_true rfl, Nat.le_of_ble_eq_true rfl⟩ ⟨Nat.le_of_ble_eq_true rfl, Nat.le_of_ble_eq_true rfl⟩ ?_
      obtain rfl := Option.some.inj h
      exact v_iret (dq D_X10_commit 32 rfl) rfl ⟨rfl, rfl⟩
    · have h := itn h c7
      refine v_aload_n (dq D_X10_commit 17 rfl) 1 rfl ?_
      refine v_iload_n (dq D_X10_commit 18 rfl) 0 rfl ?_
      refine v_iconst (dq D_X10_commit 19 rfl) kc_1 ?_
      refine v_icmp_ne (dq D_X10_commit 20 rfl) rfl (fun c11 => ?_) (fun c11 => ?_)
      · have h := itn h c11
        refine v_iconst (dq D_X10_commit 23 rfl) kc_5 ?_
        exact v_sub [] rfl (w_X10_commit_43 h)
      · have h := itp h c11
        refine v_bipush (dq D_X10_commit 21 rfl) kb_6 ?_
        refine v_goto (dq D_X10_commit 22 rfl) rfl ?_
        exact v_sub [] rfl (w_X10_commit_43 h)
theorem m_X10_commit {sa : Env3} {a0 : Nat} {σ : St} {r : Int32 × St} (h : f_X10_commit a0 σ = some r) : Ex sa yX10_commit cX10_commit K_X10_commit [.ref a0] σ (pO r) := Ex.of (by decide) rfl (fun q => nomatch q) (Nat.le_of_ble_eq_true rfl) (w_X10_commit_0 (itg h).2)
theorem w_X10_commitable_0 {sa : Env3} {a0 : Nat} {σ : St} {r : Int32 × St} (h : f_X10_commitable_0 a0 σ = some r) : VV sa cX10_commitable K_X10_commitable 0 [(0, .ref a0)] [] σ (pO r) 0 0 := by
  unfold f_X10_commitable_0 at h
  refine v_aload_n (dq D_X10_commitable 0 rfl) 0 rfl ?_
  refine v_iconst (dq D_X10_commitable 1 rfl) kc_0 ?_
  obtain ⟨σ1, hσ1, h⟩ := obi h
  refine v_pI (dq D_X10_commitable 2 rfl) fp_RX10_36 hσ1 ?_
  refine v_aload_n (dq D_X10_commitable 3 rfl) 0 rfl ?_
  obtain ⟨x2, hx2, h⟩ := obi h
  refine v_gQ (dq D_X10_commitable 4 rfl) fa_RX10_266 hx2 ?_
  rcases oc_inv h with ⟨rfl, h⟩ | ⟨b3, rfl, h⟩
  · refine v_ifnonnullN (dq D_X10_commitable 5 rfl) ?_
    refine v_aload_n (dq D_X10_commitable 6 rfl) 0 rfl ?_
    refine v_iconst (dq D_X10_commitable 7 rfl) kc_1 ?_
    obtain ⟨q4, hq4, h⟩ := obi h
    refine v_cVi (bc := 0) (bs := 0) (As := [.int 1]) (dq D_X10_commitable 8 rfl) cv_X10_refused ml_RX10_42 (itg hq4).1 (m_X10_refused hq4) rfl rfl (Nat.le_of_ble_eq_true rfl) ⟨Nat.le_of_ble_eq_true rfl, Nat.le_of_ble_eq_true rfl⟩ ⟨Nat.le_of_ble_eq_true rfl, Nat.le_of_ble_eq_true rfl⟩ ?_
    obtain rfl := Option.some.inj h
    exact v_iret (dq D_X10_commitable 9 rfl) rfl ⟨rfl, rfl⟩
  · refine v_ifnonnullR (dq D_X10_commitable 5 rfl) rfl ?_
    refine v_aload_n (dq D_X10_commitable 10 rfl) 0 rfl ?_
    obtain ⟨σ5, hσ5, h⟩ := obi h
    refine v_cVv (bc := 0) (bs := 0) (As := []) (dq D_X10_commitable 11 rfl) cv_X10_works ml_RX10_366 (itg hσ5).1 (m_X10_works hσ5) rfl rfl (Nat.le_of_ble_eq_true rfl) ⟨Nat.le_of_ble_eq_true rfl, Nat.le_of_ble_eq_true rfl⟩ ⟨Nat.le_of_ble_eq_true rfl, Nat.le_of_ble_eq_true rfl⟩ ?_
    refine v_aload_n (dq D_X10_commitable 12 rfl) 0 rfl ?_
    refine v_aload_n (dq D_X10_commitable 13 rfl) 0 rfl ?_
    obtain ⟨q6, hq6, h⟩ := obi h
    refine v_cVi (bc := 0) (bs := 0) (As := []) (dq D_X10_commitable 14 rfl) cv_X10_whyNoCommit ml_RX10_387 (itg hq6).1 (m_X10_whyNoCommit hq6) rfl rfl (Nat.le_of_ble_eq_true rfl) ⟨Nat.le_of_ble_eq_true rfl, Nat.le_of_ble_eq_true rfl⟩ ⟨Nat.le_of_ble_eq_true rfl, Nat.le_of_ble_eq_true rfl⟩ ?_
    obtain ⟨q7, hq7, h⟩ := obi h
    refine v_cVi (bc := 0) (bs := 0) (As := [.int q6.1]) (dq D_X10_commitable 15 rfl) cv_X10_good ml_RX10_46 (itg hq7).1 (m_X10_good hq7) rfl rfl (Nat.le_of_ble_eq_true rfl) ⟨Nat.le_of_ble_eq_true rfl, Nat.le_of_ble_eq_true rfl⟩ ⟨Nat.le_of_ble_eq_true rfl, Nat.le_of_ble_eq_true rfl⟩ ?_
    obtain rfl := Option.some.inj h
    exact v_iret (dq D_X10_commitable 16 rfl) rfl ⟨rfl, rfl⟩
theorem m_X10_commitable {sa : Env3} {a0 : Nat} {σ : St} {r : Int32 × St} (h : f_X10_commitable a0 σ = some r) : Ex sa yX10_commitable cX10_commitable K_X10_commitable [.ref a0] σ (pO r) := Ex.of (by decide) rfl (fun q => nomatch q) (Nat.le_of_ble_eq_true rfl) (w_X10_commitable_0 (itg h).2)
theorem w_X10_refusesCells_27 {sa : Env3} {s0 : Int32} {σ : St} {r : Int32 × St} (h : f_X10_refusesCells_27 s0 σ = some r) : VV sa cX10_refusesCells K_X10_refusesCells 27 [] [.int s0] σ (pO r) 0 0 := by
  unfold f_X10_refusesCells_27 at h
  obtain rfl := Option.some.inj h
  exact v_iret (dq D_X10_refusesCells 13 rfl) rfl ⟨rfl, rfl⟩
theorem w_X10_refusesCells_0 {sa : Env3} {a0 : Nat} {a1 : Int32} {σ : St} {r : Int32 × St} (h : f_X10_refusesCells_0 a0 a1 σ = some r) : VV sa cX10_refusesCells K_X10_refusesCells 0 [(0, .ref a0), (1, .int a1)] [] σ (pO r) 0 0 := by
  unfold f_X10_refusesCells_0 at h
  refine v_aload_n (dq D_X10_refusesCells 0 rfl) 0 rfl ?_
  obtain ⟨x1, hx1, h⟩ := obi h
  refine v_gQ (dq D_X10_refusesCells 1 rfl) fa_RX10_266 hx1 ?_
  rcases oc_inv h with ⟨rfl, h⟩ | ⟨b2, rfl, h⟩
  · refine v_ifnonnullN (dq D_X10_refusesCells 2 rfl) ?_
    refine v_iconst (dq D_X10_refusesCells 3 rfl) kc_1 ?_
    refine v_goto (dq D_X10_refusesCells 4 rfl) rfl ?_
    exact v_sub [] rfl (w_X10_refusesCells_27 h)
  · refine v_ifnonnullR (dq D_X10_refusesCells 2 rfl) rfl ?_
    refine v_iload_n (dq D_X10_refusesCells 5 rfl) 1 rfl ?_
    refine v_bipush (dq D_X10_refusesCells 6 rfl) kb_9 ?_
    refine v_bipush (dq D_X10_refusesCells 7 rfl) kb_24 ?_
    obtain ⟨q3, hq3, h⟩ := obi h
    refine v_cSi (bc := 0) (bs := 0) (As := [.int a1, .int 9, .int 24]) (dq D_X10_refusesCells 8 rfl) cs_X10_in ml_RX10_115 (m_X10_in hq3) rfl rfl (Nat.le_of_ble_eq_true rfl) ⟨Nat.le_of_ble_eq_true rfl, Nat.le_of_ble_eq_true rfl⟩ ⟨Nat.le_of_ble_eq_true rfl, Nat.le_of_ble_eq_true rfl⟩ ?_
    refine v_if_eq (dq D_X10_refusesCells 9 rfl) rfl (fun c4 => ?_) (fun c4 => ?_)
    · have h := itp h c4
      refine v_iconst (dq D_X10_refusesCells 12 rfl) kc_2 ?_
      exact v_sub [] rfl (w_X10_refusesCells_27 h)
    · have h := itn h c4
      refine v_iconst (dq D_X10_refusesCells 10 rfl) kc_0 ?_
      refine v_goto (dq D_X10_refusesCells 11 rfl) rfl ?_
      exact v_sub [] rfl (w_X10_refusesCells_27 h)
theorem m_X10_refusesCells {sa : Env3} {a0 : Nat} {a1 : Int32} {σ : St} {r : Int32 × St} (h : f_X10_refusesCells a0 a1 σ = some r) : Ex sa yX10_refusesCells cX10_refusesCells K_X10_refusesCells [.ref a0, .int a1] σ (pO r) := Ex.of (by decide) rfl (fun q => nomatch q) (Nat.le_of_ble_eq_true rfl) (w_X10_refusesCells_0 (itg h).2)
theorem w_X10_commits_0 {sa : Env3} {a0 : Nat} {a1 : Int32} {σ : St} {r : Int32 × St} (h : f_X10_commits_0 a0 a1 σ = some r) : VV sa cX10_commits K_X10_commits 0 [(0, .ref a0), (1, .int a1)] [] σ (pO r) 0 0 := by
  unfold f_X10_commits_0 at h
  refine v_aload_n (dq D_X10_commits 0 rfl) 0 rfl ?_
  refine v_iconst (dq D_X10_commits 1 rfl) kc_0 ?_
  obtain ⟨σ1, hσ1, h⟩ := obi h
  refine v_pI (dq D_X10_commits 2 rfl) fp_RX10_36 hσ1 ?_
  refine v_aload_n (dq D_X10_commits 3 rfl) 0 rfl ?_
  refine v_iload_n (dq D_X10_commits 4 rfl) 1 rfl ?_
  obtain ⟨q2, hq2, h⟩ := obi h
  refine v_cVi (bc := 0) (bs := 0) (As := [.int a1]) (dq D_X10_commits 5 rfl) cv_X10_refusesCells ml_RX10_414 (itg hq2).1 (m_X10_refusesCells hq2) rfl rfl (Nat.le_of_ble_eq_true rfl) ⟨Nat.le_of_ble_eq_true rfl, Nat.le_of_ble_eq_true rfl⟩ ⟨Nat.le_of_ble_eq_true rfl, Nat.le_of_ble_eq_true rfl⟩ ?_
  refine v_istore_n (dq D_X10_commits 6 rfl) [(2, .int q2.1), (0, .ref a0), (1, .int a1)] rfl (Nat.le_of_ble_eq_true rfl) rfl ?_
  refine v_iload_n (dq D_X10_commits 7 rfl) 0 rfl ?_
  refine v_if_le (dq D_X10_commits 8 rfl) rfl (fun c3 => ?_) (fun c3 => ?_)
  · have h := itp h c3
    refine v_aload_n (dq D_X10_commits 13 rfl) 1 rfl ?_
    refine v_iload_n (dq D_X10_commits 14 rfl) 2 rfl ?_
    obtain ⟨σ4, hσ4, h⟩ := obi h
    refine v_cVv (bc := 0) (bs := 0) (As := [.int a1]) (dq D_X10_commits 15 rfl) cv_X10_goes ml_RX10_417 (itg hσ4).1 (m_X10_goes hσ4) rfl rfl (Nat.le_of_ble_eq_true rfl) ⟨Nat.le_of_ble_eq_true rfl, Nat.le_of_ble_eq_true rfl⟩ ⟨Nat.le_of_ble_eq_true rfl, Nat.le_of_ble_eq_true rfl⟩ ?_
    refine v_aload_n (dq D_X10_commits 16 rfl) 1 rfl ?_
    refine v_aload_n (dq D_X10_commits 17 rfl) 1 rfl ?_
    obtain ⟨x5, hx5, h⟩ := obi h
    refine v_gR (dq D_X10_commits 18 rfl) fa_RX10_24 hx5 ?_
    refine v_bipush (dq D_X10_commits 19 rfl) kb_37 ?_
    obtain ⟨x6, hx6, h⟩ := obi h
    refine v_iald (dq D_X10_commits 20 rfl) hx6 ?_
    obtain ⟨q7, hq7, h⟩ := obi h
    refine v_cVi (bc := 0) (bs := 0) (As := [.int x6]) (dq D_X10_commits 21 rfl) cv_X10_good ml_RX10_46 (itg hq7).1 (m_X10_good hq7) rfl rfl (Nat.le_of_ble_eq_true rfl) ⟨Nat.le_of_ble_eq_true rfl, Nat.le_of_ble_eq_true rfl⟩ ⟨Nat.le_of_ble_eq_true rfl, Nat.le_of_ble_eq_true rfl⟩ ?_
    obtain rfl := Option.some.inj h
    exact v_iret (dq D_X10_commits 22 rfl) rfl ⟨rfl, rfl⟩
  · have h := itn h c3
    refine v_aload_n (dq D_X10_commits 9 rfl) 1 rfl ?_
    refine v_iload_n (dq D_X10_commits 10 rfl) 0 rfl ?_
    obtain ⟨q8, hq8, h⟩ := obi h
    refine v_cVi (bc := 0) (bs := 0) (As := [.int q2.1]) (dq D_X10_commits 11 rfl) cv_X10_refused ml_RX10_42 (itg hq8).1 (m_X10_refused hq8) rfl rfl (Nat.le_of_ble_eq_true rfl) ⟨Nat.le_of_ble_eq_true rfl, Nat.le_of_ble_eq_true rfl⟩ ⟨Nat.le_of_ble_eq_true rfl, Nat.le_of_ble_eq_true rfl⟩ ?_
    obtain rfl := Option.some.inj h
    exact v_iret (dq D_X10_commits 12 rfl) rfl ⟨rfl, rfl⟩
theorem m_X10_commits {sa : Env3} {a0 : Nat} {a1 : Int32} {σ : St} {r : Int32 × St} (h : f_X10_commits a0 a1 σ = some r) : Ex sa yX10_commits cX10_commits K_X10_commits [.ref a0, .int a1] σ (pO r) := Ex.of (by decide) rfl (fun q => nomatch q) (Nat.le_of_ble_eq_true rfl) (w_X10_commits_0 (itg h).2)
theorem w_X10_common_6 {sa : Env3} : ∀ (n : Nat) {a4 : Int64} {a6 : Int64} {σ : St} {r : Int64 × St}, f_X10_common_6 n a4 a6 σ = some r → VV sa cX10_common K_X10_common 6 [(4, .long a4), (6, .long a6)] [] σ (pJ r) 0 0 := by
  intro n
  induction n with
  | zero => intro a4 a6 σ r h; cases h
  | succ n ih =>
    intro a4 a6 σ r h
    rw [e_X10_common_6] at h
    refine v_lload (dq D_X10_common 4 rfl) 1 rfl ?_
    refine v_lconst (dq D_X10_common 5 rfl) lc_0 ?_
    refine v_lcmp (dq D_X10_common 6 rfl) ?_
    refine v_if_eq (dq D_X10_common 7 rfl) rfl (fun c1 => ?_) (fun c1 => ?_)
    · have h := itp h c1
      refine v_lload (dq D_X10_common 17 rfl) 0 rfl ?_
      obtain rfl := Option.some.inj h
      exact v_lret (dq D_X10_common 18 rfl) rfl ⟨rfl, rfl⟩
    · have h := itn h c1
      refine v_lload (dq D_X10_common 8 rfl) 0 rfl ?_
      refine v_lload (dq D_X10_common 9 rfl) 1 rfl ?_
      have c2 := (itx h).1
      have h := (itx h).2
      refine v_lrem (dq D_X10_common 10 rfl) c2 ?_
      obtain ⟨x3, ex3, h⟩ := bnd_inv h
      refine v_top (congrArg Value.long ex3) ?_
      refine v_lstore (dq D_X10_common 11 rfl) [(8, .long x3), (4, .long a4), (6, .long a6)] (Nat.le_of_ble_eq_true rfl) rfl ?_
      refine v_lload (dq D_X10_common 12 rfl) 2 rfl ?_
      refine v_lstore (dq D_X10_common 13 rfl) [(4, .long a6), (8, .long x3), (6, .long a6)] (Nat.le_of_ble_eq_true rfl) rfl ?_
      refine v_lload (dq D_X10_common 14 rfl) 1 rfl ?_
      refine v_lstore (dq D_X10_common 15 rfl) [(6, .long x3), (4, .long a6), (8, .long x3)] (Nat.le_of_ble_eq_true rfl) rfl ?_
      refine v_goto (dq D_X10_common 16 rfl) rfl ?_
      exact v_sub [1, 0] rfl (ih h)
theorem w_X10_common_0 {sa : Env3} {a0 : Int64} {a2 : Int64} {σ : St} {r : Int64 × St} (h : f_X10_common_0 a0 a2 σ = some r) : VV sa cX10_common K_X10_common 0 [(0, .long a0), (2, .long a2)] [] σ (pJ r) 0 0 := by
  unfold f_X10_common_0 at h
  refine v_lload_n (dq D_X10_common 0 rfl) 0 rfl ?_
  refine v_lstore (dq D_X10_common 1 rfl) [(4, .long a0), (0, .long a0), (2, .long a2)] (Nat.le_of_ble_eq_true rfl) rfl ?_
  refine v_lload_n (dq D_X10_common 2 rfl) 2 rfl ?_
  refine v_lstore (dq D_X10_common 3 rfl) [(6, .long a2), (4, .long a0), (0, .long a0), (2, .long a2)] (Nat.le_of_ble_eq_true rfl) rfl ?_
  exact v_sub [1, 0] rfl (w_X10_common_6 _ h)
theorem m_X10_common {sa : Env3} {a0 : Int64} {a2 : Int64} {σ : St} {r : Int64 × St} (h : f_X10_common a0 a2 σ = some r) : Ex sa yX10_common cX10_common K_X10_common [.long a0, .long a2] σ (pJ r) := Ex.of (by decide) rfl (fun q => nomatch q) (Nat.le_of_ble_eq_true rfl) (w_X10_common_0 h)
theorem w_X9_init_0 {sa : Env3} {a0 : Nat} {σ : St} {r : St} (h : f_X9_init_0 a0 σ = some r) : VV sa cX9_init K_X9_init 0 [(0, .ref a0)] [] σ (pU r) 10 164 := by
  unfold f_X9_init_0 at h
  refine v_aload_n (dq D_X9_init 0 rfl) 0 rfl ?_
  refine v_objI (dq D_X9_init 1 rfl) tw_1331 tw_30 tw_31 (Nat.le_of_ble_eq_true rfl) (Nat.le_of_ble_eq_true rfl) ?_
  refine v_aload_n (dq D_X9_init 2 rfl) 0 rfl ?_
  refine v_bipush (dq D_X9_init 3 rfl) kb_24 ?_
  obtain ⟨σ1, hσ1, h⟩ := bnd_inv h
  refine v_newa (t := 22) (N := 24) (bc := 9) (bs := 140) (dq D_X9_init 4 rfl) rfl (Or.inr (Or.inl ⟨rfl, rfl, rfl⟩)) tw_131 (by decide) (by decide) (Nat.le_of_ble_eq_true rfl) ⟨Nat.le_of_ble_eq_true rfl, Nat.le_of_ble_eq_true rfl⟩ hσ1 ?_
  obtain ⟨σ2, hσ2, h⟩ := obi h
  refine v_pP (dq D_X9_init 5 rfl) fp_RX9_9 (fun _ => rfl) hσ2 ?_
  refine v_aload_n (dq D_X9_init 6 rfl) 0 rfl ?_
  refine v_bipush (dq D_X9_init 7 rfl) kb_24 ?_
  obtain ⟨σ3, hσ3, h⟩ := bnd_inv h
  refine v_newa (t := 22) (N := 24) (bc := 8) (bs := 116) (dq D_X9_init 8 rfl) rfl (Or.inr (Or.inl ⟨rfl, rfl, rfl⟩)) tw_131 (by decide) (by decide) (Nat.le_of_ble_eq_true rfl) ⟨Nat.le_of_ble_eq_true rfl, Nat.le_of_ble_eq_true rfl⟩ hσ3 ?_
  obtain ⟨σ4, hσ4, h⟩ := obi h
  refine v_pP (dq D_X9_init 9 rfl) fp_RX9_15 (fun _ => rfl) hσ4 ?_
  refine v_aload_n (dq D_X9_init 10 rfl) 0 rfl ?_
  refine v_bipush (dq D_X9_init 11 rfl) kb_24 ?_
  obtain ⟨σ5, hσ5, h⟩ := bnd_inv h
  refine v_newa (t := 22) (N := 24) (bc := 7) (bs := 92) (dq D_X9_init 12 rfl) rfl (Or.inr (Or.inl ⟨rfl, rfl, rfl⟩)) tw_131 (by decide) (by decide) (Nat.le_of_ble_eq_true rfl) ⟨Nat.le_of_ble_eq_true rfl, Nat.le_of_ble_eq_true rfl⟩ hσ5 ?_
  obtain ⟨σ6, hσ6, h⟩ := obi h
  refine v_pP (dq D_X9_init 13 rfl) fp_RX9_18 (fun _ => rfl) hσ6 ?_
  refine v_aload_n (dq D_X9_init 14 rfl) 0 rfl ?_
  refine v_bipush (dq D_X9_init 15 rfl) kb_24 ?_
  obtain ⟨σ7, hσ7, h⟩ := bnd_inv h
  refine v_newa (t := 22) (N := 24) (bc := 6) (bs := 68) (dq D_X9_init 16 rfl) rfl (Or.inr (Or.inl ⟨rfl, rfl, rfl⟩)) tw_131 (by decide) (by decide) (Nat.le_of_ble_eq_true rfl) ⟨Nat.le_of_ble_eq_true rfl, Nat.le_of_ble_eq_true rfl⟩ hσ7 ?_
  obtain ⟨σ8, hσ8, h⟩ := obi h
  refine v_pP (dq D_X9_init 17 rfl) fp_RX9_21 (fun _ => rfl) hσ8 ?_
  refine v_aload_n (dq D_X9_init 18 rfl) 0 rfl ?_
  refine v_bipush (dq D_X9_init 19 rfl) kb_24 ?_
  obtain ⟨σ9, hσ9, h⟩ := bnd_inv h
  refine v_newa (t := 22) (N := 24) (bc := 5) (bs := 44) (dq D_X9_init 20 rfl) rfl (Or.inr (Or.inl ⟨rfl, rfl, rfl⟩)) tw_131 (by decide) (by decide) (Nat.le_of_ble_eq_true rfl) ⟨Nat.le_of_ble_eq_true rfl, Nat.le_of_ble_eq_true rfl⟩ hσ9 ?_
  obtain ⟨σ10, hσ10, h⟩ := obi h
  refine v_pP (dq D_X9_init 21 rfl) fp_RX9_24 (fun _ => rfl) hσ10 ?_
  refine v_aload_n (dq D_X9_init 22 rfl) 0 rfl ?_
  refine v_bipush (dq D_X9_init 23 rfl) kb_24 ?_
  obtain ⟨σ11, hσ11, h⟩ := bnd_inv h
  refine v_newa (t := 23) (N := 24) (bc := 4) (bs := 20) (dq D_X9_init 24 rfl) rfl (Or.inr (Or.inr ⟨rfl, rfl, rfl⟩)) tw_132 (by decide) (by decide) (Nat.le_of_ble_eq_true rfl) ⟨Nat.le_of_ble_eq_true rfl, Nat.le_of_ble_eq_true rfl⟩ hσ11 ?_
  obtain ⟨σ12, hσ12, h⟩ := obi h
  refine v_pP (dq D_X9_init 25 rfl) fp_RX9_27 (fun _ => rfl) hσ12 ?_
  refine v_aload_n (dq D_X9_init 26 rfl) 0 rfl ?_
  refine v_iconst (dq D_X9_init 27 rfl) kc_4 ?_
  obtain ⟨σ13, hσ13, h⟩ := bnd_inv h
  refine v_newa (t := 22) (N := 4) (bc := 3) (bs := 16) (dq D_X9_init 28 rfl) rfl (Or.inr (Or.inl ⟨rfl, rfl, rfl⟩)) tw_131 (by decide) (by decide) (Nat.le_of_ble_eq_true rfl) ⟨Nat.le_of_ble_eq_true rfl, Nat.le_of_ble_eq_true rfl⟩ hσ13 ?_
  obtain ⟨σ14, hσ14, h⟩ := obi h
  refine v_pP (dq D_X9_init 29 rfl) fp_RX9_31 (fun _ => rfl) hσ14 ?_
  refine v_aload_n (dq D_X9_init 30 rfl) 0 rfl ?_
  refine v_iconst (dq D_X9_init 31 rfl) kc_4 ?_
  obtain ⟨σ15, hσ15, h⟩ := bnd_inv h
  refine v_newa (t := 22) (N := 4) (bc := 2) (bs := 12) (dq D_X9_init 32 rfl) rfl (Or.inr (Or.inl ⟨rfl, rfl, rfl⟩)) tw_131 (by decide) (by decide) (Nat.le_of_ble_eq_true rfl) ⟨Nat.le_of_ble_eq_true rfl, Nat.le_of_ble_eq_true rfl⟩ hσ15 ?_
  obtain ⟨σ16, hσ16, h⟩ := obi h
  refine v_pP (dq D_X9_init 33 rfl) fp_RX9_34 (fun _ => rfl) hσ16 ?_
  refine v_aload_n (dq D_X9_init 34 rfl) 0 rfl ?_
  refine v_bipush (dq D_X9_init 35 rfl) kb_6 ?_
  obtain ⟨σ17, hσ17, h⟩ := bnd_inv h
  refine v_newa (t := 22) (N := 6) (bc := 1) (bs := 6) (dq D_X9_init 36 rfl) rfl (Or.inr (Or.inl ⟨rfl, rfl, rfl⟩)) tw_131 (by decide) (by decide) (Nat.le_of_ble_eq_true rfl) ⟨Nat.le_of_ble_eq_true rfl, Nat.le_of_ble_eq_true rfl⟩ hσ17 ?_
  obtain ⟨σ18, hσ18, h⟩ := obi h
  refine v_pP (dq D_X9_init 37 rfl) fp_RX9_37 (fun _ => rfl) hσ18 ?_
  refine v_aload_n (dq D_X9_init 38 rfl) 0 rfl ?_
  refine v_bipush (dq D_X9_init 39 rfl) kb_6 ?_
  obtain ⟨σ19, hσ19, h⟩ := bnd_inv h
  refine v_newa (t := 22) (N := 6) (bc := 0) (bs := 0) (dq D_X9_init 40 rfl) rfl (Or.inr (Or.inl ⟨rfl, rfl, rfl⟩)) tw_131 (by decide) (by decide) (Nat.le_of_ble_eq_true rfl) ⟨Nat.le_of_ble_eq_true rfl, Nat.le_of_ble_eq_true rfl⟩ hσ19 ?_
  obtain ⟨σ20, hσ20, h⟩ := obi h
  refine v_pP (dq D_X9_init 41 rfl) fp_RX9_40 (fun _ => rfl) hσ20 ?_
  obtain rfl := Option.some.inj h
  exact v_vret (dq D_X9_init 42 rfl) rfl ⟨rfl, rfl⟩
theorem m_X9_init {sa : Env3} {a0 : Nat} {σ : St} {r : St} (h : f_X9_init a0 σ = some r) : Ex sa yX9_init cX9_init K_X9_init [.ref a0] σ (pU r) := Ex.of (by decide) rfl (fun _ => rfl) (Nat.le_of_ble_eq_true rfl) (w_X9_init_0 (itg h).2)
theorem w_X10_isLetter_17 {sa : Env3} {s0 : Int32} {σ : St} {r : Int32 × St} (h : f_X10_isLetter_17 s0 σ = some r) : VV sa cX10_isLetter K_X10_isLetter 17 [] [.int s0] σ (pO r) 0 0 := by
  unfold f_X10_isLetter_17 at h
  have hz := (itg h).1
  have h := (itg h).2
  obtain rfl := Option.some.inj h
  exact v_zret (dq D_X10_isLetter 9 rfl) rfl (z_nar hz) ⟨rfl, rfl⟩
theorem w_X10_isLetter_16 {sa : Env3}  {σ : St} {r : Int32 × St} (h : f_X10_isLetter_16  σ = some r) : VV sa cX10_isLetter K_X10_isLetter 16 [] [] σ (pO r) 0 0 := by
  unfold f_X10_isLetter_16 at h
  refine v_iconst (dq D_X10_isLetter 8 rfl) kc_0 ?_
  exact w_X10_isLetter_17 h
theorem w_X10_isLetter_0 {sa : Env3} {a0 : Int32} {σ : St} {r : Int32 × St} (h : f_X10_isLetter_0 a0 σ = some r) : VV sa cX10_isLetter K_X10_isLetter 0 [(0, .int a0)] [] σ (pO r) 0 0 := by
  unfold f_X10_isLetter_0 at h
  refine v_iload_n (dq D_X10_isLetter 0 rfl) 0 rfl ?_
  refine v_bipush (dq D_X10_isLetter 1 rfl) kb_97 ?_
  refine v_icmp_lt (dq D_X10_isLetter 2 rfl) rfl (fun c1 => ?_) (fun c1 => ?_)
  · have h := itp h c1
    exact v_sub [] rfl (w_X10_isLetter_16 h)
  · have h := itn h c1
    refine v_iload_n (dq D_X10_isLetter 3 rfl) 0 rfl ?_
    refine v_bipush (dq D_X10_isLetter 4 rfl) kb_122 ?_
    refine v_icmp_gt (dq D_X10_isLetter 5 rfl) rfl (fun c2 => ?_) (fun c2 => ?_)
    · have h := itp h c2
      exact v_sub [] rfl (w_X10_isLetter_16 h)
    · have h := itn h c2
      refine v_iconst (dq D_X10_isLetter 6 rfl) kc_1 ?_
      refine v_goto (dq D_X10_isLetter 7 rfl) rfl ?_
      exact v_sub [] rfl (w_X10_isLetter_17 h)
theorem m_X10_isLetter {sa : Env3} {a0 : Int32} {σ : St} {r : Int32 × St} (h : f_X10_isLetter a0 σ = some r) : Ex sa yX10_isLetter cX10_isLetter K_X10_isLetter [.int a0] σ (pO r) := Ex.of (by decide) rfl (fun q => nomatch q) (Nat.le_of_ble_eq_true rfl) (w_X10_isLetter_0 h)
theorem w_X10_isDigit_17 {sa : Env3} {s0 : Int32} {σ : St} {r : Int32 × St} (h : f_X10_isDigit_17 s0 σ = some r) : VV sa cX10_isDigit K_X10_isDigit 17 [] [.int s0] σ (pO r) 0 0 := by
  unfold f_X10_isDigit_17 at h
  have hz := (itg h).1
  have h := (itg h).2
  obtain rfl := Option.some.inj h
  exact v_zret (dq D_X10_isDigit 9 rfl) rfl (z_nar hz) ⟨rfl, rfl⟩
theorem w_X10_isDigit_16 {sa : Env3}  {σ : St} {r : Int32 × St} (h : f_X10_isDigit_16  σ = some r) : VV sa cX10_isDigit K_X10_isDigit 16 [] [] σ (pO r) 0 0 := by
  unfold f_X10_isDigit_16 at h
  refine v_iconst (dq D_X10_isDigit 8 rfl) kc_0 ?_
  exact w_X10_isDigit_17 h
theorem w_X10_isDigit_0 {sa : Env3} {a0 : Int32} {σ : St} {r : Int32 × St} (h : f_X10_isDigit_0 a0 σ = some r) : VV sa cX10_isDigit K_X10_isDigit 0 [(0, .int a0)] [] σ (pO r) 0 0 := by
  unfold f_X10_isDigit_0 at h
  refine v_iload_n (dq D_X10_isDigit 0 rfl) 0 rfl ?_
  refine v_bipush (dq D_X10_isDigit 1 rfl) kb_48 ?_
  refine v_icmp_lt (dq D_X10_isDigit 2 rfl) rfl (fun c1 => ?_) (fun c1 => ?_)
  · have h := itp h c1
    exact v_sub [] rfl (w_X10_isDigit_16 h)
  · have h := itn h c1
    refine v_iload_n (dq D_X10_isDigit 3 rfl) 0 rfl ?_
    refine v_bipush (dq D_X10_isDigit 4 rfl) kb_57 ?_
    refine v_icmp_gt (dq D_X10_isDigit 5 rfl) rfl (fun c2 => ?_) (fun c2 => ?_)
    · have h := itp h c2
      exact v_sub [] rfl (w_X10_isDigit_16 h)
    · have h := itn h c2
      refine v_iconst (dq D_X10_isDigit 6 rfl) kc_1 ?_
      refine v_goto (dq D_X10_isDigit 7 rfl) rfl ?_
      exact v_sub [] rfl (w_X10_isDigit_17 h)
theorem m_X10_isDigit {sa : Env3} {a0 : Int32} {σ : St} {r : Int32 × St} (h : f_X10_isDigit a0 σ = some r) : Ex sa yX10_isDigit cX10_isDigit K_X10_isDigit [.int a0] σ (pO r) := Ex.of (by decide) rfl (fun q => nomatch q) (Nat.le_of_ble_eq_true rfl) (w_X10_isDigit_0 h)
theorem w_X10_goesOn_265 {sa : Env3}  {σ : St} {r : St} (h : f_X10_goesOn_265  σ = some r) : VV sa cX10_goesOn K_X10_goesOn 265 [] [] σ (pU r) 0 0 := by
  unfold f_X10_goesOn_265 at h
  obtain rfl := Option.some.inj h
  exact v_vret (dq D_X10_goesOn 140 rfl) rfl ⟨rfl, rfl⟩
theorem w_X10_goesOn_215 {sa : Env3} {k173 : Nat → Int32 → St → Option (St)} (hk173 : ∀ {a0 : Nat} {a2 : Int32} {σ : St} {r : St}, k173 a0 a2 σ = some r → VV sa cX10_goesOn K_X10_goesOn 173 [(0, .ref a0), (2, .int a2)] [] σ (pU r) 0 0) {a0 : Nat} {a2 : Int32} {σ : St} {r : St} (h : f_X10_goesOn_215 k173 a0 a2 σ = some r) : VV sa cX10_goesOn K_X10_goesOn 215 [(0, .ref a0), (2, .int a2)] [] σ (pU r) 0 0 := by
  unfold f_X10_goesOn_215 at h
  refine v_iinc (dq D_X10_goesOn 113 rfl) 1 [(2, .int (a2 + 1)), (0, .ref a0)] rfl kc_1 (Nat.le_of_ble_eq_true rfl) rfl ?_
  refine v_aload_n (dq D_X10_goesOn 114 rfl) 1 rfl ?_
  refine v_dup (dq D_X10_goesOn 115 rfl) rfl ?_
  obtain ⟨x1, hx1, h⟩ := obi h
  refine v_gI (dq D_X10_goesOn 116 rfl) fa_RX10_71 hx1 ?_
  refine v_iconst (dq D_X10_goesOn 117 rfl) kc_1 ?_
  refine v_iadd (dq D_X10_goesOn 118 rfl) ?_
  obtain ⟨σ2, hσ2, h⟩ := obi h
  refine v_pI (dq D_X10_goesOn 119 rfl) fp_RX10_71 hσ2 ?_
  refine v_goto (dq D_X10_goesOn 120 rfl) rfl ?_
  exact v_sub [1, 0] rfl (hk173 h)
theorem w_X10_goesOn_173 {sa : Env3} : ∀ (n : Nat) {a0 : Nat} {a2 : Int32} {σ : St} {r : St}, f_X10_goesOn_173 n a0 a2 σ = some r → VV sa cX10_goesOn K_X10_goesOn 173 [(0, .ref a0), (2, .int a2)] [] σ (pU r) 0 0 := by
  intro n
  induction n with
  | zero => intro a0 a2 σ r h; cases h
  | succ n ih =>
    intro a0 a2 σ r h
    rw [e_X10_goesOn_173] at h
    refine v_aload_n (dq D_X10_goesOn 91 rfl) 0 rfl ?_
    refine v_aload_n (dq D_X10_goesOn 92 rfl) 0 rfl ?_
    obtain ⟨x1, hx1, h⟩ := obi h
    refine v_gI (dq D_X10_goesOn 93 rfl) fa_RX10_71 hx1 ?_
    obtain ⟨q2, hq2, h⟩ := obi h
    refine v_cVi (bc := 0) (bs := 0) (As := [.int x1]) (dq D_X10_goesOn 94 rfl) cv_X10_byteAt ml_RX10_74 (itg hq2).1 (m_X10_byteAt hq2) rfl rfl (Nat.le_of_ble_eq_true rfl) ⟨Nat.le_of_ble_eq_true rfl, Nat.le_of_ble_eq_true rfl⟩ ⟨Nat.le_of_ble_eq_true rfl, Nat.le_of_ble_eq_true rfl⟩ ?_
    obtain ⟨q3, hq3, h⟩ := obi h
    refine v_cSi (bc := 0) (bs := 0) (As := [.int q2.1]) (dq D_X10_goesOn 95 rfl) cs_X10_isDigit ml_RX10_88 (m_X10_isDigit hq3) rfl rfl (Nat.le_of_ble_eq_true rfl) ⟨Nat.le_of_ble_eq_true rfl, Nat.le_of_ble_eq_true rfl⟩ ⟨Nat.le_of_ble_eq_true rfl, Nat.le_of_ble_eq_true rfl⟩ ?_
    refine v_if_eq (dq D_X10_goesOn 96 rfl) rfl (fun c4 => ?_) (fun c4 => ?_)
    · have h := itp h c4
      refine v_iload_n (dq D_X10_goesOn 121 rfl) 1 rfl ?_
      refine v_iconst (dq D_X10_goesOn 122 rfl) kc_4 ?_
      refine v_icmp_gt (dq D_X10_goesOn 123 rfl) rfl (fun c5 => ?_) (fun c5 => ?_)
      · have h := itp h c5
        exact v_sub [] rfl (w_X10_goesOn_265 h)
      · have h := itn h c5
        refine v_aload_n (dq D_X10_goesOn 124 rfl) 0 rfl ?_
        refine v_iconst (dq D_X10_goesOn 125 rfl) kc_3 ?_
        obtain ⟨σ6, hσ6, h⟩ := obi h
        refine v_pI (dq D_X10_goesOn 126 rfl) fp_RX10_68 hσ6 ?_
        refine v_goto (dq D_X10_goesOn 127 rfl) rfl ?_
        exact v_sub [] rfl (w_X10_goesOn_265 h)
    · have h := itn h c4
      refine v_iload_n (dq D_X10_goesOn 97 rfl) 1 rfl ?_
      refine v_iconst (dq D_X10_goesOn 98 rfl) kc_4 ?_
      refine v_icmp_ge (dq D_X10_goesOn 99 rfl) rfl (fun c7 => ?_) (fun c7 => ?_)
      · have h := itp h c7
        exact w_X10_goesOn_215 ih h
      · have h := itn h c7
        refine v_aload_n (dq D_X10_goesOn 100 rfl) 0 rfl ?_
        refine v_bipush (dq D_X10_goesOn 101 rfl) kb_10 ?_
        refine v_aload_n (dq D_X10_goesOn 102 rfl) 0 rfl ?_
        obtain ⟨x8, hx8, h⟩ := obi h
        refine v_gI (dq D_X10_goesOn 103 rfl) fa_RX10_91 hx8 ?_
        refine v_imul (dq D_X10_goesOn 104 rfl) ?_
        refine v_aload_n (dq D_X10_goesOn 105 rfl) 0 rfl ?_
        refine v_aload_n (dq D_X10_goesOn 106 rfl) 0 rfl ?_
        obtain ⟨x9, hx9, h⟩ := obi h
        refine v_gI (dq D_X10_goesOn 107 rfl) fa_RX10_71 hx9 ?_
        obtain ⟨q10, hq10, h⟩ := obi h
        refine v_cVi (bc := 0) (bs := 0) (As := [.int x9]) (dq D_X10_goesOn 108 rfl) cv_X10_byteAt ml_RX10_74 (itg hq10).1 (m_X10_byteAt hq10) rfl rfl (Nat.le_of_ble_eq_true rfl) ⟨Nat.le_of_ble_eq_true rfl, Nat.le_of_ble_eq_true rfl⟩ ⟨Nat.le_of_ble_eq_true rfl, Nat.le_of_ble_eq_true rfl⟩ ?_
        refine v_iadd (dq D_X10_goesOn 109 rfl) ?_
        refine v_bipush (dq D_X10_goesOn 110 rfl) kb_48 ?_
        refine v_isub (dq D_X10_goesOn 111 rfl) ?_
        obtain ⟨σ11, hσ11, h⟩ := obi h
        refine v_pI (dq D_X10_goesOn 112 rfl) fp_RX10_91 hσ11 ?_
        exact w_X10_goesOn_215 ih h
theorem w_X10_goesOn_131 {sa : Env3} {k84 : Nat → Int32 → St → Option (St)} (hk84 : ∀ {a0 : Nat} {a2 : Int32} {σ : St} {r : St}, k84 a0 a2 σ = some r → VV sa cX10_goesOn K_X10_goesOn 84 [(0, .ref a0), (2, .int a2)] [] σ (pU r) 0 0) {a0 : Nat} {a2 : Int32} {σ : St} {r : St} (h : f_X10_goesOn_131 k84 a0 a2 σ = some r) : VV sa cX10_goesOn K_X10_goesOn 131 [(0, .ref a0), (2, .int a2)] [] σ (pU r) 0 0 := by
  unfold f_X10_goesOn_131 at h
  refine v_iinc (dq D_X10_goesOn 70 rfl) 1 [(2, .int (a2 + 1)), (0, .ref a0)] rfl kc_1 (Nat.le_of_ble_eq_true rfl) rfl ?_
  refine v_aload_n (dq D_X10_goesOn 71 rfl) 1 rfl ?_
  refine v_dup (dq D_X10_goesOn 72 rfl) rfl ?_
  obtain ⟨x1, hx1, h⟩ := obi h
  refine v_gI (dq D_X10_goesOn 73 rfl) fa_RX10_71 hx1 ?_
  refine v_iconst (dq D_X10_goesOn 74 rfl) kc_1 ?_
  refine v_iadd (dq D_X10_goesOn 75 rfl) ?_
  obtain ⟨σ2, hσ2, h⟩ := obi h
  refine v_pI (dq D_X10_goesOn 76 rfl) fp_RX10_71 hσ2 ?_
  refine v_goto (dq D_X10_goesOn 77 rfl) rfl ?_
  exact v_sub [1, 0] rfl (hk84 h)
theorem w_X10_goesOn_84 {sa : Env3} : ∀ (n : Nat) {a0 : Nat} {a2 : Int32} {σ : St} {r : St}, f_X10_goesOn_84 n a0 a2 σ = some r → VV sa cX10_goesOn K_X10_goesOn 84 [(0, .ref a0), (2, .int a2)] [] σ (pU r) 0 0 := by
  intro n
  induction n with
  | zero => intro a0 a2 σ r h; cases h
  | succ n ih =>
    intro a0 a2 σ r h
    rw [e_X10_goesOn_84] at h
    refine v_aload_n (dq D_X10_goesOn 45 rfl) 0 rfl ?_
    refine v_aload_n (dq D_X10_goesOn 46 rfl) 0 rfl ?_
    obtain ⟨x1, hx1, h⟩ := obi h
    refine v_gI (dq D_X10_goesOn 47 rfl) fa_RX10_71 hx1 ?_
    obtain ⟨q2, hq2, h⟩ := obi h
    refine v_cVi (bc := 0) (bs := 0) (As := [.int x1]) (dq D_X10_goesOn 48 rfl) cv_X10_byteAt ml_RX10_74 (itg hq2).1 (m_X10_byteAt hq2) rfl rfl (Nat.le_of_ble_eq_true rfl) ⟨Nat.le_of_ble_eq_true rfl, Nat.le_of_ble_eq_true rfl⟩ ⟨Nat.le_of_ble_eq_true rfl, Nat.le_of_ble_eq_true rfl⟩ ?_
    obtain ⟨q3, hq3, h⟩ := obi h
    refine v_cSi (bc := 0) (bs := 0) (As := [.int q2.1]) (dq D_X10_goesOn 49 rfl) cs_X10_isLetter ml_RX10_80 (m_X10_isLetter hq3) rfl rfl (Nat.le_of_ble_eq_true rfl) ⟨Nat.le_of_ble_eq_true rfl, Nat.le_of_ble_eq_true rfl⟩ ⟨Nat.le_of_ble_eq_true rfl, Nat.le_of_ble_eq_true rfl⟩ ?_
    refine v_if_eq (dq D_X10_goesOn 50 rfl) rfl (fun c4 => ?_) (fun c4 => ?_)
    · have h := itp h c4
      refine v_iload_n (dq D_X10_goesOn 78 rfl) 1 rfl ?_
      refine v_bipush (dq D_X10_goesOn 79 rfl) kb_8 ?_
      refine v_icmp_gt (dq D_X10_goesOn 80 rfl) rfl (fun c5 => ?_) (fun c5 => ?_)
      · have h := itp h c5
        exact v_sub [] rfl (w_X10_goesOn_265 h)
      · have h := itn h c5
        refine v_aload_n (dq D_X10_goesOn 81 rfl) 0 rfl ?_
        refine v_iconst (dq D_X10_goesOn 82 rfl) kc_2 ?_
        obtain ⟨σ6, hσ6, h⟩ := obi h
        refine v_pI (dq D_X10_goesOn 83 rfl) fp_RX10_68 hσ6 ?_
        refine v_goto (dq D_X10_goesOn 84 rfl) rfl ?_
        exact v_sub [] rfl (w_X10_goesOn_265 h)
    · have h := itn h c4
      refine v_iload_n (dq D_X10_goesOn 51 rfl) 1 rfl ?_
      refine v_bipush (dq D_X10_goesOn 52 rfl) kb_8 ?_
      refine v_icmp_ge (dq D_X10_goesOn 53 rfl) rfl (fun c7 => ?_) (fun c7 => ?_)
      · have h := itp h c7
        exact w_X10_goesOn_131 ih h
      · have h := itn h c7
        refine v_aload_n (dq D_X10_goesOn 54 rfl) 0 rfl ?_
        refine v_ldc2 (dq D_X10_goesOn 55 rfl) tw_1411 ?_
        refine v_aload_n (dq D_X10_goesOn 56 rfl) 0 rfl ?_
        obtain ⟨x8, hx8, h⟩ := obi h
        refine v_gL (dq D_X10_goesOn 57 rfl) fa_RX10_84 hx8 ?_
        refine v_lmul (dq D_X10_goesOn 58 rfl) ?_
        refine v_aload_n (dq D_X10_goesOn 59 rfl) 0 rfl ?_
        refine v_aload_n (dq D_X10_goesOn 60 rfl) 0 rfl ?_
        obtain ⟨x9, hx9, h⟩ := obi h
        refine v_gI (dq D_X10_goesOn 61 rfl) fa_RX10_71 hx9 ?_
        obtain ⟨q10, hq10, h⟩ := obi h
        refine v_cVi (bc := 0) (bs := 0) (As := [.int x9]) (dq D_X10_goesOn 62 rfl) cv_X10_byteAt ml_RX10_74 (itg hq10).1 (m_X10_byteAt hq10) rfl rfl (Nat.le_of_ble_eq_true rfl) ⟨Nat.le_of_ble_eq_true rfl, Nat.le_of_ble_eq_true rfl⟩ ⟨Nat.le_of_ble_eq_true rfl, Nat.le_of_ble_eq_true rfl⟩ ?_
        refine v_bipush (dq D_X10_goesOn 63 rfl) kb_97 ?_
        refine v_isub (dq D_X10_goesOn 64 rfl) ?_
        refine v_iconst (dq D_X10_goesOn 65 rfl) kc_1 ?_
        refine v_iadd (dq D_X10_goesOn 66 rfl) ?_
        refine v_i2l (dq D_X10_goesOn 67 rfl) ?_
        refine v_ladd (dq D_X10_goesOn 68 rfl) ?_
        obtain ⟨σ11, hσ11, h⟩ := obi h
        refine v_pL (dq D_X10_goesOn 69 rfl) fp_RX10_84 hσ11 ?_
        exact w_X10_goesOn_131 ih h
theorem w_X10_goesOn_9 {sa : Env3} : ∀ (n : Nat) {a0 : Nat} {σ : St} {r : St}, f_X10_goesOn_9 n a0 σ = some r → VV sa cX10_goesOn K_X10_goesOn 9 [(0, .ref a0)] [] σ (pU r) 0 0 := by
  intro n
  induction n with
  | zero => intro a0 σ r h; cases h
  | succ n ih =>
    intro a0 σ r h
    rw [e_X10_goesOn_9] at h
    refine v_aload_n (dq D_X10_goesOn 5 rfl) 0 rfl ?_
    refine v_aload_n (dq D_X10_goesOn 6 rfl) 0 rfl ?_
    obtain ⟨x1, hx1, h⟩ := obi h
    refine v_gI (dq D_X10_goesOn 7 rfl) fa_RX10_71 hx1 ?_
    obtain ⟨q2, hq2, h⟩ := obi h
    refine v_cVi (bc := 0) (bs := 0) (As := [.int x1]) (dq D_X10_goesOn 8 rfl) cv_X10_byteAt ml_RX10_74 (itg hq2).1 (m_X10_byteAt hq2) rfl rfl (Nat.le_of_ble_eq_true rfl) ⟨Nat.le_of_ble_eq_true rfl, Nat.le_of_ble_eq_true rfl⟩ ⟨Nat.le_of_ble_eq_true rfl, Nat.le_of_ble_eq_true rfl⟩ ?_
    refine v_bipush (dq D_X10_goesOn 9 rfl) kb_32 ?_
    refine v_icmp_ne (dq D_X10_goesOn 10 rfl) rfl (fun c3 => ?_) (fun c3 => ?_)
    · have h := itn h c3
      refine v_aload_n (dq D_X10_goesOn 18 rfl) 0 rfl ?_
      refine v_aload_n (dq D_X10_goesOn 19 rfl) 0 rfl ?_
      obtain ⟨x4, hx4, h⟩ := obi h
      refine v_gI (dq D_X10_goesOn 20 rfl) fa_RX10_71 hx4 ?_
      obtain ⟨σ5, hσ5, h⟩ := obi h
      refine v_pI (dq D_X10_goesOn 21 rfl) fp_RX10_77 hσ5 ?_
      refine v_aload_n (dq D_X10_goesOn 22 rfl) 0 rfl ?_
      refine v_iconst (dq D_X10_goesOn 23 rfl) kc_0 ?_
      obtain ⟨σ6, hσ6, h⟩ := obi h
      refine v_pI (dq D_X10_goesOn 24 rfl) fp_RX10_68 hσ6 ?_
      refine v_aload_n (dq D_X10_goesOn 25 rfl) 0 rfl ?_
      refine v_aload_n (dq D_X10_goesOn 26 rfl) 0 rfl ?_
      obtain ⟨x7, hx7, h⟩ := obi h
      refine v_gI (dq D_X10_goesOn 27 rfl) fa_RX10_71 hx7 ?_
      obtain ⟨q8, hq8, h⟩ := obi h
      refine v_cVi (bc := 0) (bs := 0) (As := [.int x7]) (dq D_X10_goesOn 28 rfl) cv_X10_byteAt ml_RX10_74 (itg hq8).1 (m_X10_byteAt hq8) rfl rfl (Nat.le_of_ble_eq_true rfl) ⟨Nat.le_of_ble_eq_true rfl, Nat.le_of_ble_eq_true rfl⟩ ⟨Nat.le_of_ble_eq_true rfl, Nat.le_of_ble_eq_true rfl⟩ ?_
      refine v_istore_n (dq D_X10_goesOn 29 rfl) [(1, .int q8.1), (0, .ref a0)] rfl (Nat.le_of_ble_eq_true rfl) rfl ?_
      refine v_iconst (dq D_X10_goesOn 30 rfl) kc_0 ?_
      refine v_istore_n (dq D_X10_goesOn 31 rfl) [(2, .int 0), (1, .int q8.1), (0, .ref a0)] rfl (Nat.le_of_ble_eq_true rfl) rfl ?_
      refine v_iload_n (dq D_X10_goesOn 32 rfl) 1 rfl ?_
      refine v_iconst (dq D_X10_goesOn 33 rfl) kc_m1 ?_
      refine v_icmp_ne (dq D_X10_goesOn 34 rfl) rfl (fun c9 => ?_) (fun c9 => ?_)
      · have h := itn h c9
        refine v_iload_n (dq D_X10_goesOn 39 rfl) 1 rfl ?_
        obtain ⟨q10, hq10, h⟩ := obi h
        refine v_cSi (bc := 0) (bs := 0) (As := [.int q8.1]) (dq D_X10_goesOn 40 rfl) cs_X10_isLetter ml_RX10_80 (m_X10_isLetter hq10) rfl rfl (Nat.le_of_ble_eq_true rfl) ⟨Nat.le_of_ble_eq_true rfl, Nat.le_of_ble_eq_true rfl⟩ ⟨Nat.le_of_ble_eq_true rfl, Nat.le_of_ble_eq_true rfl⟩ ?_
        refine v_if_eq (dq D_X10_goesOn 41 rfl) rfl (fun c11 => ?_) (fun c11 => ?_)
        · have h := itp h c11
          refine v_iload_n (dq D_X10_goesOn 85 rfl) 1 rfl ?_
          obtain ⟨q12, hq12, h⟩ := obi h
          refine v_cSi (bc := 0) (bs := 0) (As := [.int q8.1]) (dq D_X10_goesOn 86 rfl) cs_X10_isDigit ml_RX10_88 (m_X10_isDigit hq12) rfl rfl (Nat.le_of_ble_eq_true rfl) ⟨Nat.le_of_ble_eq_true rfl, Nat.le_of_ble_eq_true rfl⟩ ⟨Nat.le_of_ble_eq_true rfl, Nat.le_of_ble_eq_true rfl⟩ ?_
          refine v_if_eq (dq D_X10_goesOn 87 rfl) rfl (fun c13 => ?_) (fun c13 => ?_)
          · have h := itp h c13
            refine v_iload_n (dq D_X10_goesOn 128 rfl) 1 rfl ?_
            refine v_bipush (dq D_X10_goesOn 129 rfl) kb_59 ?_
            refine v_icmp_ne (dq D_X10_goesOn 130 rfl) rfl (fun c14 => ?_) (fun c14 => ?_)
            · have h := itn h c14
              exact v_sub [] rfl (w_X10_goesOn_265 h)
            · have h := itp h c14
              refine v_aload_n (dq D_X10_goesOn 131 rfl) 2 rfl ?_
              refine v_iconst (dq D_X10_goesOn 132 rfl) kc_4 ?_
              obtain ⟨σ15, hσ15, h⟩ := obi h
              refine v_pI (dq D_X10_goesOn 133 rfl) fp_RX10_68 hσ15 ?_
              refine v_aload_n (dq D_X10_goesOn 134 rfl) 2 rfl ?_
              refine v_dup (dq D_X10_goesOn 135 rfl) rfl ?_
              obtain ⟨x16, hx16, h⟩ := obi h
              refine v_gI (dq D_X10_goesOn 136 rfl) fa_RX10_71 hx16 ?_
              refine v_iconst (dq D_X10_goesOn 137 rfl) kc_1 ?_
              refine v_iadd (dq D_X10_goesOn 138 rfl) ?_
              obtain ⟨σ17, hσ17, h⟩ := obi h
              refine v_pI (dq D_X10_goesOn 139 rfl) fp_RX10_71 hσ17 ?_
              exact v_sub [] rfl (w_X10_goesOn_265 h)
          · have h := itn h c13
            refine v_aload_n (dq D_X10_goesOn 88 rfl) 2 rfl ?_
            refine v_iconst (dq D_X10_goesOn 89 rfl) kc_0 ?_
            obtain ⟨σ18, hσ18, h⟩ := obi h
            refine v_pI (dq D_X10_goesOn 90 rfl) fp_RX10_91 hσ18 ?_
            exact v_sub [2, 0] rfl (w_X10_goesOn_173 _ h)
        · have h := itn h c11
          refine v_aload_n (dq D_X10_goesOn 42 rfl) 2 rfl ?_
          refine v_lconst (dq D_X10_goesOn 43 rfl) lc_0 ?_
          obtain ⟨σ19, hσ19, h⟩ := obi h
          refine v_pL (dq D_X10_goesOn 44 rfl) fp_RX10_84 hσ19 ?_
          exact v_sub [2, 0] rfl (w_X10_goesOn_84 _ h)
      · have h := itp h c9
        refine v_aload_n (dq D_X10_goesOn 35 rfl) 2 rfl ?_
        refine v_iconst (dq D_X10_goesOn 36 rfl) kc_1 ?_
        obtain ⟨σ20, hσ20, h⟩ := obi h
        refine v_pI (dq D_X10_goesOn 37 rfl) fp_RX10_68 hσ20 ?_
        refine v_goto (dq D_X10_goesOn 38 rfl) rfl ?_
        exact v_sub [] rfl (w_X10_goesOn_265 h)
    · have h := itp h c3
      refine v_aload_n (dq D_X10_goesOn 11 rfl) 0 rfl ?_
      refine v_dup (dq D_X10_goesOn 12 rfl) rfl ?_
      obtain ⟨x21, hx21, h⟩ := obi h
      refine v_gI (dq D_X10_goesOn 13 rfl) fa_RX10_71 hx21 ?_
      refine v_iconst (dq D_X10_goesOn 14 rfl) kc_1 ?_
      refine v_iadd (dq D_X10_goesOn 15 rfl) ?_
      obtain ⟨σ22, hσ22, h⟩ := obi h
      refine v_pI (dq D_X10_goesOn 16 rfl) fp_RX10_71 hσ22 ?_
      refine v_goto (dq D_X10_goesOn 17 rfl) rfl ?_
      exact ih h
theorem w_X10_goesOn_0 {sa : Env3} {a0 : Nat} {σ : St} {r : St} (h : f_X10_goesOn_0 a0 σ = some r) : VV sa cX10_goesOn K_X10_goesOn 0 [(0, .ref a0)] [] σ (pU r) 0 0 := by
  unfold f_X10_goesOn_0 at h
  refine v_aload_n (dq D_X10_goesOn 0 rfl) 0 rfl ?_
  obtain ⟨x1, hx1, h⟩ := obi h
  refine v_gI (dq D_X10_goesOn 1 rfl) fa_RX10_68 hx1 ?_
  refine v_iconst (dq D_X10_goesOn 2 rfl) kc_5 ?_
  refine v_icmp_ne (dq D_X10_goesOn 3 rfl) rfl (fun c2 => ?_) (fun c2 => ?_)
  · have h := itn h c2
    exact w_X10_goesOn_9 _ h
  · have h := itp h c2
    obtain rfl := Option.some.inj h
    exact v_vret (dq D_X10_goesOn 4 rfl) rfl ⟨rfl, rfl⟩
theorem m_X10_goesOn {sa : Env3} {a0 : Nat} {σ : St} {r : St} (h : f_X10_goesOn a0 σ = some r) : Ex sa yX10_goesOn cX10_goesOn K_X10_goesOn [.ref a0] σ (pU r) := Ex.of (by decide) rfl (fun q => nomatch q) (Nat.le_of_ble_eq_true rfl) (w_X10_goesOn_0 (itg h).2)
theorem w_X10_packed_4 {sa : Env3} : ∀ (n : Nat) {a0 : Nat} {a1 : Int64} {a3 : Int32} {σ : St} {r : Int64 × St}, f_X10_packed_4 n a0 a1 a3 σ = some r → VV sa cX10_packed K_X10_packed 4 [(0, .ref (sa.1 a0)), (1, .long a1), (3, .int a3)] [] σ (pJ r) 0 0 := by
  intro n
  induction n with
  | zero => intro a0 a1 a3 σ r h; cases h
  | succ n ih =>
    intro a0 a1 a3 σ r h
    rw [e_X10_packed_4] at h
    refine v_iload_n (dq D_X10_packed 4 rfl) 2 rfl ?_
    refine v_aload_n (dq D_X10_packed 5 rfl) 0 rfl ?_
    obtain ⟨q1, hq1, h⟩ := obi h
    refine v_cTi (bc := 0) (bs := 0) (As := []) (dq D_X10_packed 6 rfl) ct_J0_length_8abf5 ml_RX10_56 (itg hq1).1 (m_J0_length_8abf5 hq1) rfl rfl (Nat.le_of_ble_eq_true rfl) ⟨Nat.le_of_ble_eq_true rfl, Nat.le_of_ble_eq_true rfl⟩ ⟨Nat.le_of_ble_eq_true rfl, Nat.le_of_ble_eq_true rfl⟩ ?_
    refine v_icmp_ge (dq D_X10_packed 7 rfl) rfl (fun c2 => ?_) (fun c2 => ?_)
    · have h := itp h c2
      refine v_lload_n (dq D_X10_packed 23 rfl) 1 rfl ?_
      obtain rfl := Option.some.inj h
      exact v_lret (dq D_X10_packed 24 rfl) rfl ⟨rfl, rfl⟩
    · have h := itn h c2
      refine v_ldc2 (dq D_X10_packed 8 rfl) tw_1411 ?_
      refine v_lload_n (dq D_X10_packed 9 rfl) 1 rfl ?_
      refine v_lmul (dq D_X10_packed 10 rfl) ?_
      refine v_aload_n (dq D_X10_packed 11 rfl) 0 rfl ?_
      refine v_iload_n (dq D_X10_packed 12 rfl) 2 rfl ?_
      obtain ⟨q3, hq3, h⟩ := obi h
      refine v_cTi (bc := 0) (bs := 0) (As := [.int a3]) (dq D_X10_packed 13 rfl) ct_J0_charAt_5068e ml_RX10_64 (itg hq3).1 (m_J0_charAt_5068e hq3) rfl rfl (Nat.le_of_ble_eq_true rfl) ⟨Nat.le_of_ble_eq_true rfl, Nat.le_of_ble_eq_true rfl⟩ ⟨Nat.le_of_ble_eq_true rfl, Nat.le_of_ble_eq_true rfl⟩ ?_
      refine v_bipush (dq D_X10_packed 14 rfl) kb_97 ?_
      refine v_isub (dq D_X10_packed 15 rfl) ?_
      refine v_iconst (dq D_X10_packed 16 rfl) kc_1 ?_
      refine v_iadd (dq D_X10_packed 17 rfl) ?_
      refine v_i2l (dq D_X10_packed 18 rfl) ?_
      refine v_ladd (dq D_X10_packed 19 rfl) ?_
      obtain ⟨x4, ex4, h⟩ := bnd_inv h
      refine v_top (congrArg Value.long ex4) ?_
      refine v_lstore_n (dq D_X10_packed 20 rfl) [(1, .long x4), (0, .ref (sa.1 a0)), (3, .int a3)] rfl (Nat.le_of_ble_eq_true rfl) rfl ?_
      refine v_iinc (dq D_X10_packed 21 rfl) 2 [(3, .int (a3 + 1)), (1, .long x4), (0, .ref (sa.1 a0))] rfl kc_1 (Nat.le_of_ble_eq_true rfl) rfl ?_
      refine v_goto (dq D_X10_packed 22 rfl) rfl ?_
      exact v_sub [2, 1, 0] rfl (ih h)
theorem w_X10_packed_0 {sa : Env3} {a0 : Nat} {σ : St} {r : Int64 × St} (h : f_X10_packed_0 a0 σ = some r) : VV sa cX10_packed K_X10_packed 0 [(0, .ref (sa.1 a0))] [] σ (pJ r) 0 0 := by
  unfold f_X10_packed_0 at h
  refine v_lconst (dq D_X10_packed 0 rfl) lc_0 ?_
  refine v_lstore_n (dq D_X10_packed 1 rfl) [(1, .long 0), (0, .ref (sa.1 a0))] rfl (Nat.le_of_ble_eq_true rfl) rfl ?_
  refine v_iconst (dq D_X10_packed 2 rfl) kc_0 ?_
  refine v_istore_n (dq D_X10_packed 3 rfl) [(3, .int 0), (1, .long 0), (0, .ref (sa.1 a0))] rfl (Nat.le_of_ble_eq_true rfl) rfl ?_
  exact v_sub [2, 1, 0] rfl (w_X10_packed_4 _ h)
theorem m_X10_packed {sa : Env3} {a0 : Nat} {σ : St} {r : Int64 × St} (h : f_X10_packed a0 σ = some r) : Ex sa yX10_packed cX10_packed K_X10_packed [.ref (sa.1 a0)] σ (pJ r) := Ex.of (by decide) rfl (fun q => nomatch q) (Nat.le_of_ble_eq_true rfl) (w_X10_packed_0 h)
theorem w_X10_isWord_25 {sa : Env3} {s0 : Int32} {σ : St} {r : Int32 × St} (h : f_X10_isWord_25 s0 σ = some r) : VV sa cX10_isWord K_X10_isWord 25 [] [.int s0] σ (pO r) 0 0 := by
  unfold f_X10_isWord_25 at h
  have hz := (itg h).1
  have h := (itg h).2
  obtain rfl := Option.some.inj h
  exact v_zret (dq D_X10_isWord 13 rfl) rfl (z_nar hz) ⟨rfl, rfl⟩
theorem w_X10_isWord_24 {sa : Env3}  {σ : St} {r : Int32 × St} (h : f_X10_isWord_24  σ = some r) : VV sa cX10_isWord K_X10_isWord 24 [] [] σ (pO r) 0 0 := by
  unfold f_X10_isWord_24 at h
  refine v_iconst (dq D_X10_isWord 12 rfl) kc_0 ?_
  exact w_X10_isWord_25 h
theorem w_X10_isWord_0 {sa : Env3} {a0 : Nat} {a1 : Nat} {σ : St} {r : Int32 × St} (h : f_X10_isWord_0 a0 a1 σ = some r) : VV sa cX10_isWord K_X10_isWord 0 [(0, .ref a0), (1, .ref (sa.1 a1))] [] σ (pO r) 0 0 := by
  unfold f_X10_isWord_0 at h
  refine v_aload_n (dq D_X10_isWord 0 rfl) 0 rfl ?_
  obtain ⟨x1, hx1, h⟩ := obi h
  refine v_gI (dq D_X10_isWord 1 rfl) fa_RX10_68 hx1 ?_
  refine v_iconst (dq D_X10_isWord 2 rfl) kc_2 ?_
  refine v_icmp_ne (dq D_X10_isWord 3 rfl) rfl (fun c2 => ?_) (fun c2 => ?_)
  · have h := itn h c2
    exact v_sub [] rfl (w_X10_isWord_24 h)
  · have h := itp h c2
    refine v_aload_n (dq D_X10_isWord 4 rfl) 0 rfl ?_
    obtain ⟨x3, hx3, h⟩ := obi h
    refine v_gL (dq D_X10_isWord 5 rfl) fa_RX10_84 hx3 ?_
    refine v_aload_n (dq D_X10_isWord 6 rfl) 1 rfl ?_
    obtain ⟨q4, hq4, h⟩ := obi h
    refine v_cSj (bc := 0) (bs := 0) (As := [.ref (sa.1 a1)]) (dq D_X10_isWord 7 rfl) cs_X10_packed ml_RX10_100 (m_X10_packed hq4) rfl rfl (Nat.le_of_ble_eq_true rfl) ⟨Nat.le_of_ble_eq_true rfl, Nat.le_of_ble_eq_true rfl⟩ ⟨Nat.le_of_ble_eq_true rfl, Nat.le_of_ble_eq_true rfl⟩ ?_
    refine v_lcmp (dq D_X10_isWord 8 rfl) ?_
    refine v_if_ne (dq D_X10_isWord 9 rfl) rfl (fun c5 => ?_) (fun c5 => ?_)
    · have h := itn h c5
      exact v_sub [] rfl (w_X10_isWord_24 h)
    · have h := itp h c5
      refine v_iconst (dq D_X10_isWord 10 rfl) kc_1 ?_
      refine v_goto (dq D_X10_isWord 11 rfl) rfl ?_
      exact v_sub [] rfl (w_X10_isWord_25 h)
theorem m_X10_isWord {sa : Env3} {a0 : Nat} {a1 : Nat} {σ : St} {r : Int32 × St} (h : f_X10_isWord a0 a1 σ = some r) : Ex sa yX10_isWord cX10_isWord K_X10_isWord [.ref a0, .ref (sa.1 a1)] σ (pO r) := Ex.of (by decide) rfl (fun q => nomatch q) (Nat.le_of_ble_eq_true rfl) (w_X10_isWord_0 (itg h).2)
theorem w_X10_flaw_0 {sa : Env3} {a0 : Nat} {a1 : Int32} {σ : St} {r : St} (h : f_X10_flaw_0 a0 a1 σ = some r) : VV sa cX10_flaw K_X10_flaw 0 [(0, .ref a0), (1, .int a1)] [] σ (pU r) 0 0 := by
  unfold f_X10_flaw_0 at h
  refine v_aload_n (dq D_X10_flaw 0 rfl) 0 rfl ?_
  obtain ⟨x1, hx1, h⟩ := obi h
  refine v_gI (dq D_X10_flaw 1 rfl) fa_RX10_68 hx1 ?_
  refine v_iconst (dq D_X10_flaw 2 rfl) kc_5 ?_
  refine v_icmp_ne (dq D_X10_flaw 3 rfl) rfl (fun c2 => ?_) (fun c2 => ?_)
  · have h := itn h c2
    refine v_aload_n (dq D_X10_flaw 5 rfl) 0 rfl ?_
    refine v_iload_n (dq D_X10_flaw 6 rfl) 1 rfl ?_
    obtain ⟨σ3, hσ3, h⟩ := obi h
    refine v_pI (dq D_X10_flaw 7 rfl) fp_RX10_94 hσ3 ?_
    refine v_aload_n (dq D_X10_flaw 8 rfl) 0 rfl ?_
    refine v_aload_n (dq D_X10_flaw 9 rfl) 0 rfl ?_
    obtain ⟨x4, hx4, h⟩ := obi h
    refine v_gI (dq D_X10_flaw 10 rfl) fa_RX10_77 hx4 ?_
    obtain ⟨σ5, hσ5, h⟩ := obi h
    refine v_pI (dq D_X10_flaw 11 rfl) fp_RX10_97 hσ5 ?_
    refine v_aload_n (dq D_X10_flaw 12 rfl) 0 rfl ?_
    refine v_iconst (dq D_X10_flaw 13 rfl) kc_5 ?_
    obtain ⟨σ6, hσ6, h⟩ := obi h
    refine v_pI (dq D_X10_flaw 14 rfl) fp_RX10_68 hσ6 ?_
    obtain rfl := Option.some.inj h
    exact v_vret (dq D_X10_flaw 15 rfl) rfl ⟨rfl, rfl⟩
  · have h := itp h c2
    obtain rfl := Option.some.inj h
    exact v_vret (dq D_X10_flaw 4 rfl) rfl ⟨rfl, rfl⟩
theorem m_X10_flaw {sa : Env3} {a0 : Nat} {a1 : Int32} {σ : St} {r : St} (h : f_X10_flaw a0 a1 σ = some r) : Ex sa yX10_flaw cX10_flaw K_X10_flaw [.ref a0, .int a1] σ (pU r) := Ex.of (by decide) rfl (fun q => nomatch q) (Nat.le_of_ble_eq_true rfl) (w_X10_flaw_0 (itg h).2)
theorem w_X10_needs_13 {sa : Env3} {a0 : Nat} {σ : St} {r : St} (h : f_X10_needs_13 a0 σ = some r) : VV sa cX10_needs K_X10_needs 13 [(0, .ref a0)] [] σ (pU r) 0 0 := by
  unfold f_X10_needs_13 at h
  refine v_aload_n (dq D_X10_needs 7 rfl) 0 rfl ?_
  obtain ⟨σ1, hσ1, h⟩ := obi h
  refine v_cVv (bc := 0) (bs := 0) (As := []) (dq D_X10_needs 8 rfl) cv_X10_goesOn ml_RX10_104 (itg hσ1).1 (m_X10_goesOn hσ1) rfl rfl (Nat.le_of_ble_eq_true rfl) ⟨Nat.le_of_ble_eq_true rfl, Nat.le_of_ble_eq_true rfl⟩ ⟨Nat.le_of_ble_eq_true rfl, Nat.le_of_ble_eq_true rfl⟩ ?_
  obtain rfl := Option.some.inj h
  exact v_vret (dq D_X10_needs 9 rfl) rfl ⟨rfl, rfl⟩
theorem w_X10_needs_0 {sa : Env3} {a0 : Nat} {a1 : Nat} {σ : St} {r : St} (h : f_X10_needs_0 a0 a1 σ = some r) : VV sa cX10_needs K_X10_needs 0 [(0, .ref a0), (1, .ref (sa.1 a1))] [] σ (pU r) 0 0 := by
  unfold f_X10_needs_0 at h
  refine v_aload_n (dq D_X10_needs 0 rfl) 0 rfl ?_
  refine v_aload_n (dq D_X10_needs 1 rfl) 1 rfl ?_
  obtain ⟨q1, hq1, h⟩ := obi h
  refine v_cVi (bc := 0) (bs := 0) (As := [.ref (sa.1 a1)]) (dq D_X10_needs 2 rfl) cv_X10_isWord ml_RX10_107 (itg hq1).1 (m_X10_isWord hq1) rfl rfl (Nat.le_of_ble_eq_true rfl) ⟨Nat.le_of_ble_eq_true rfl, Nat.le_of_ble_eq_true rfl⟩ ⟨Nat.le_of_ble_eq_true rfl, Nat.le_of_ble_eq_true rfl⟩ ?_
  refine v_if_ne (dq D_X10_needs 3 rfl) rfl (fun c2 => ?_) (fun c2 => ?_)
  · have h := itn h c2
    exact v_sub [0] rfl (w_X10_needs_13 h)
  · have h := itp h c2
    refine v_aload_n (dq D_X10_needs 4 rfl) 0 rfl ?_
    refine v_iconst (dq D_X10_needs 5 rfl) kc_1 ?_
    obtain ⟨σ3, hσ3, h⟩ := obi h
    refine v_cVv (bc := 0) (bs := 0) (As := [.int 1]) (dq D_X10_needs 6 rfl) cv_X10_flaw ml_RX10_111 (itg hσ3).1 (m_X10_flaw hσ3) rfl rfl (Nat.le_of_ble_eq_true rfl) ⟨Nat.le_of_ble_eq_true rfl, Nat.le_of_ble_eq_true rfl⟩ ⟨Nat.le_of_ble_eq_true rfl, Nat.le_of_ble_eq_true rfl⟩ ?_
    exact v_sub [0] rfl (w_X10_needs_13 h)
theorem m_X10_needs {sa : Env3} {a0 : Nat} {a1 : Nat} {σ : St} {r : St} (h : f_X10_needs a0 a1 σ = some r) : Ex sa yX10_needs cX10_needs K_X10_needs [.ref a0, .ref (sa.1 a1)] σ (pU r) := Ex.of (by decide) rfl (fun q => nomatch q) (Nat.le_of_ble_eq_true rfl) (w_X10_needs_0 (itg h).2)
theorem w_X10_wholeAt_49 {sa : Env3} {s0 : Int32} {σ : St} {r : Int32 × St} (h : f_X10_wholeAt_49 s0 σ = some r) : VV sa cX10_wholeAt K_X10_wholeAt 49 [] [.int s0] σ (pO r) 0 0 := by
  unfold f_X10_wholeAt_49 at h
  obtain rfl := Option.some.inj h
  exact v_iret (dq D_X10_wholeAt 25 rfl) rfl ⟨rfl, rfl⟩
theorem w_X10_wholeAt_33 {sa : Env3} {a0 : Nat} {a1 : Int32} {σ : St} {r : Int32 × St} (h : f_X10_wholeAt_33 a0 a1 σ = some r) : VV sa cX10_wholeAt K_X10_wholeAt 33 [(0, .ref a0), (1, .int a1)] [] σ (pO r) 0 0 := by
  unfold f_X10_wholeAt_33 at h
  refine v_aload_n (dq D_X10_wholeAt 17 rfl) 0 rfl ?_
  obtain ⟨x1, hx1, h⟩ := obi h
  refine v_gI (dq D_X10_wholeAt 18 rfl) fa_RX10_68 hx1 ?_
  refine v_iconst (dq D_X10_wholeAt 19 rfl) kc_5 ?_
  refine v_icmp_ne (dq D_X10_wholeAt 20 rfl) rfl (fun c2 => ?_) (fun c2 => ?_)
  · have h := itn h c2
    refine v_aload_n (dq D_X10_wholeAt 23 rfl) 0 rfl ?_
    obtain ⟨x3, hx3, h⟩ := obi h
    refine v_gI (dq D_X10_wholeAt 24 rfl) fa_RX10_91 hx3 ?_
    exact v_sub [] rfl (w_X10_wholeAt_49 h)
  · have h := itp h c2
    refine v_iload_n (dq D_X10_wholeAt 21 rfl) 1 rfl ?_
    refine v_goto (dq D_X10_wholeAt 22 rfl) rfl ?_
    exact v_sub [] rfl (w_X10_wholeAt_49 h)
theorem w_X10_wholeAt_0 {sa : Env3} {a0 : Nat} {a1 : Int32} {a2 : Int32} {σ : St} {r : Int32 × St} (h : f_X10_wholeAt_0 a0 a1 a2 σ = some r) : VV sa cX10_wholeAt K_X10_wholeAt 0 [(0, .ref a0), (1, .int a1), (2, .int a2)] [] σ (pO r) 0 0 := by
  unfold f_X10_wholeAt_0 at h
  refine v_aload_n (dq D_X10_wholeAt 0 rfl) 0 rfl ?_
  obtain ⟨x1, hx1, h⟩ := obi h
  refine v_gI (dq D_X10_wholeAt 1 rfl) fa_RX10_68 hx1 ?_
  refine v_iconst (dq D_X10_wholeAt 2 rfl) kc_3 ?_
  refine v_icmp_eq (dq D_X10_wholeAt 3 rfl) rfl (fun c2 => ?_) (fun c2 => ?_)
  · have h := itp h c2
    refine v_aload_n (dq D_X10_wholeAt 8 rfl) 0 rfl ?_
    obtain ⟨x3, hx3, h⟩ := obi h
    refine v_gI (dq D_X10_wholeAt 9 rfl) fa_RX10_91 hx3 ?_
    refine v_iload_n (dq D_X10_wholeAt 10 rfl) 1 rfl ?_
    refine v_iload_n (dq D_X10_wholeAt 11 rfl) 2 rfl ?_
    obtain ⟨q4, hq4, h⟩ := obi h
    refine v_cSi (bc := 0) (bs := 0) (As := [.int x3, .int a1, .int a2]) (dq D_X10_wholeAt 12 rfl) cs_X10_in ml_RX10_115 (m_X10_in hq4) rfl rfl (Nat.le_of_ble_eq_true rfl) ⟨Nat.le_of_ble_eq_true rfl, Nat.le_of_ble_eq_true rfl⟩ ⟨Nat.le_of_ble_eq_true rfl, Nat.le_of_ble_eq_true rfl⟩ ?_
    refine v_if_ne (dq D_X10_wholeAt 13 rfl) rfl (fun c5 => ?_) (fun c5 => ?_)
    · have h := itn h c5
      exact v_sub [0, 1] rfl (w_X10_wholeAt_33 h)
    · have h := itp h c5
      refine v_aload_n (dq D_X10_wholeAt 14 rfl) 0 rfl ?_
      refine v_iconst (dq D_X10_wholeAt 15 rfl) kc_4 ?_
      obtain ⟨σ6, hσ6, h⟩ := obi h
      refine v_cVv (bc := 0) (bs := 0) (As := [.int 4]) (dq D_X10_wholeAt 16 rfl) cv_X10_flaw ml_RX10_111 (itg hσ6).1 (m_X10_flaw hσ6) rfl rfl (Nat.le_of_ble_eq_true rfl) ⟨Nat.le_of_ble_eq_true rfl, Nat.le_of_ble_eq_true rfl⟩ ⟨Nat.le_of_ble_eq_true rfl, Nat.le_of_ble_eq_true rfl⟩ ?_
      exact v_sub [0, 1] rfl (w_X10_wholeAt_33 h)
  · have h := itn h c2
    refine v_aload_n (dq D_X10_wholeAt 4 rfl) 0 rfl ?_
    refine v_iconst (dq D_X10_wholeAt 5 rfl) kc_1 ?_
    obtain ⟨σ7, hσ7, h⟩ := obi h
    refine v_cVv (bc := 0) (bs := 0) (As := [.int 1]) (dq D_X10_wholeAt 6 rfl) cv_X10_flaw ml_RX10_111 (itg hσ7).1 (m_X10_flaw hσ7) rfl rfl (Nat.le_of_ble_eq_true rfl) ⟨Nat.le_of_ble_eq_true rfl, Nat.le_of_ble_eq_true rfl⟩ ⟨Nat.le_of_ble_eq_true rfl, Nat.le_of_ble_eq_true rfl⟩ ?_
    refine v_goto (dq D_X10_wholeAt 7 rfl) rfl ?_
    exact v_sub [0, 1] rfl (w_X10_wholeAt_33 h)
theorem m_X10_wholeAt {sa : Env3} {a0 : Nat} {a1 : Int32} {a2 : Int32} {σ : St} {r : Int32 × St} (h : f_X10_wholeAt a0 a1 a2 σ = some r) : Ex sa yX10_wholeAt cX10_wholeAt K_X10_wholeAt [.ref a0, .int a1, .int a2] σ (pO r) := Ex.of (by decide) rfl (fun q => nomatch q) (Nat.le_of_ble_eq_true rfl) (w_X10_wholeAt_0 (itg h).2)
theorem w_X10_readWhole_0 {sa : Env3} {a0 : Nat} {a1 : Int32} {a2 : Int32} {σ : St} {r : Int32 × St} (h : f_X10_readWhole_0 a0 a1 a2 σ = some r) : VV sa cX10_readWhole K_X10_readWhole 0 [(0, .ref a0), (1, .int a1), (2, .int a2)] [] σ (pO r) 0 0 := by
  unfold f_X10_readWhole_0 at h
  refine v_aload_n (dq D_X10_readWhole 0 rfl) 0 rfl ?_
  refine v_iload_n (dq D_X10_readWhole 1 rfl) 1 rfl ?_
  refine v_iload_n (dq D_X10_readWhole 2 rfl) 2 rfl ?_
  obtain ⟨q1, hq1, h⟩ := obi h
  refine v_cVi (bc := 0) (bs := 0) (As := [.int a1, .int a2]) (dq D_X10_readWhole 3 rfl) cv_X10_wholeAt ml_RX10_119 (itg hq1).1 (m_X10_wholeAt hq1) rfl rfl (Nat.le_of_ble_eq_true rfl) ⟨Nat.le_of_ble_eq_true rfl, Nat.le_of_ble_eq_true rfl⟩ ⟨Nat.le_of_ble_eq_true rfl, Nat.le_of_ble_eq_true rfl⟩ ?_
  refine v_istore_n (dq D_X10_readWhole 4 rfl) [(3, .int q1.1), (0, .ref a0), (1, .int a1), (2, .int a2)] rfl (Nat.le_of_ble_eq_true rfl) rfl ?_
  refine v_aload_n (dq D_X10_readWhole 5 rfl) 1 rfl ?_
  obtain ⟨σ2, hσ2, h⟩ := obi h
  refine v_cVv (bc := 0) (bs := 0) (As := []) (dq D_X10_readWhole 6 rfl) cv_X10_goesOn ml_RX10_104 (itg hσ2).1 (m_X10_goesOn hσ2) rfl rfl (Nat.le_of_ble_eq_true rfl) ⟨Nat.le_of_ble_eq_true rfl, Nat.le_of_ble_eq_true rfl⟩ ⟨Nat.le_of_ble_eq_true rfl, Nat.le_of_ble_eq_true rfl⟩ ?_
  refine v_iload_n (dq D_X10_readWhole 7 rfl) 0 rfl ?_
  obtain rfl := Option.some.inj h
  exact v_iret (dq D_X10_readWhole 8 rfl) rfl ⟨rfl, rfl⟩
theorem m_X10_readWhole {sa : Env3} {a0 : Nat} {a1 : Int32} {a2 : Int32} {σ : St} {r : Int32 × St} (h : f_X10_readWhole a0 a1 a2 σ = some r) : Ex sa yX10_readWhole cX10_readWhole K_X10_readWhole [.ref a0, .int a1, .int a2] σ (pO r) := Ex.of (by decide) rfl (fun q => nomatch q) (Nat.le_of_ble_eq_true rfl) (w_X10_readWhole_0 (itg h).2)
theorem w_X10_readPart_0 {sa : Env3} {a0 : Nat} {a1 : Nat} {a2 : Int32} {a3 : Int32} {σ : St} {r : Int32 × St} (h : f_X10_readPart_0 a0 a1 a2 a3 σ = some r) : VV sa cX10_readPart K_X10_readPart 0 [(0, .ref a0), (1, .ref (sa.1 a1)), (2, .int a2), (3, .int a3)] [] σ (pO r) 0 0 := by
  unfold f_X10_readPart_0 at h
  refine v_aload_n (dq D_X10_readPart 0 rfl) 0 rfl ?_
  refine v_aload_n (dq D_X10_readPart 1 rfl) 1 rfl ?_
  obtain ⟨σ1, hσ1, h⟩ := obi h
  refine v_cVv (bc := 0) (bs := 0) (As := [.ref (sa.1 a1)]) (dq D_X10_readPart 2 rfl) cv_X10_needs ml_RX10_123 (itg hσ1).1 (m_X10_needs hσ1) rfl rfl (Nat.le_of_ble_eq_true rfl) ⟨Nat.le_of_ble_eq_true rfl, Nat.le_of_ble_eq_true rfl⟩ ⟨Nat.le_of_ble_eq_true rfl, Nat.le_of_ble_eq_true rfl⟩ ?_
  refine v_aload_n (dq D_X10_readPart 3 rfl) 0 rfl ?_
  refine v_iload_n (dq D_X10_readPart 4 rfl) 2 rfl ?_
  refine v_iload_n (dq D_X10_readPart 5 rfl) 3 rfl ?_
  obtain ⟨q2, hq2, h⟩ := obi h
  refine v_cVi (bc := 0) (bs := 0) (As := [.int a2, .int a3]) (dq D_X10_readPart 6 rfl) cv_X10_readWhole ml_RX10_127 (itg hq2).1 (m_X10_readWhole hq2) rfl rfl (Nat.le_of_ble_eq_true rfl) ⟨Nat.le_of_ble_eq_true rfl, Nat.le_of_ble_eq_true rfl⟩ ⟨Nat.le_of_ble_eq_true rfl, Nat.le_of_ble_eq_true rfl⟩ ?_
  obtain rfl := Option.some.inj h
  exact v_iret (dq D_X10_readPart 7 rfl) rfl ⟨rfl, rfl⟩
theorem m_X10_readPart {sa : Env3} {a0 : Nat} {a1 : Nat} {a2 : Int32} {a3 : Int32} {σ : St} {r : Int32 × St} (h : f_X10_readPart a0 a1 a2 a3 σ = some r) : Ex sa yX10_readPart cX10_readPart K_X10_readPart [.ref a0, .ref (sa.1 a1), .int a2, .int a3] σ (pO r) := Ex.of (by decide) rfl (fun q => nomatch q) (Nat.le_of_ble_eq_true rfl) (w_X10_readPart_0 (itg h).2)
theorem w_X10_readCore_86 {sa : Env3} {a0 : Nat} {a1 : Int32} {a2 : Int32} {a3 : Int32} {a4 : Int32} {a5 : Int32} {σ : St} {r : St} (h : f_X10_readCore_86 a0 a1 a2 a3 a4 a5 σ = some r) : VV sa cX10_readCore K_X10_readCore 86 [(0, .ref a0), (1, .int a1), (2, .int a2), (3, .int a3), (4, .int a4), (5, .int a5)] [] σ (pU r) 0 0 := by
  unfold f_X10_readCore_86 at h
  refine v_aload_n (dq D_X10_readCore 46 rfl) 0 rfl ?_
  obtain ⟨σ1, hσ1, h⟩ := obi h
  refine v_cVv (bc := 0) (bs := 0) (As := []) (dq D_X10_readCore 47 rfl) cv_X10_goesOn ml_RX10_104 (itg hσ1).1 (m_X10_goesOn hσ1) rfl rfl (Nat.le_of_ble_eq_true rfl) ⟨Nat.le_of_ble_eq_true rfl, Nat.le_of_ble_eq_true rfl⟩ ⟨Nat.le_of_ble_eq_true rfl, Nat.le_of_ble_eq_true rfl⟩ ?_
  refine v_aload_n (dq D_X10_readCore 48 rfl) 0 rfl ?_
  obtain ⟨x2, hx2, h⟩ := obi h
  refine v_gI (dq D_X10_readCore 49 rfl) fa_RX10_68 hx2 ?_
  refine v_iconst (dq D_X10_readCore 50 rfl) kc_5 ?_
  refine v_icmp_ne (dq D_X10_readCore 51 rfl) rfl (fun c3 => ?_) (fun c3 => ?_)
  · have h := itn h c3
    refine v_aload_n (dq D_X10_readCore 53 rfl) 0 rfl ?_
    obtain ⟨x4, hx4, h⟩ := obi h
    refine v_gR (dq D_X10_readCore 54 rfl) fa_RX10_130 hx4 ?_
    refine v_iload_n (dq D_X10_readCore 55 rfl) 1 rfl ?_
    obtain ⟨σ5, hσ5, h⟩ := obi h
    refine v_pI (dq D_X10_readCore 56 rfl) fp_RX10_134 hσ5 ?_
    refine v_aload_n (dq D_X10_readCore 57 rfl) 0 rfl ?_
    obtain ⟨x6, hx6, h⟩ := obi h
    refine v_gR (dq D_X10_readCore 58 rfl) fa_RX10_130 hx6 ?_
    refine v_iload_n (dq D_X10_readCore 59 rfl) 2 rfl ?_
    obtain ⟨σ7, hσ7, h⟩ := obi h
    refine v_pI (dq D_X10_readCore 60 rfl) fp_RX10_197 hσ7 ?_
    refine v_aload_n (dq D_X10_readCore 61 rfl) 0 rfl ?_
    obtain ⟨x8, hx8, h⟩ := obi h
    refine v_gR (dq D_X10_readCore 62 rfl) fa_RX10_130 hx8 ?_
    refine v_iload_n (dq D_X10_readCore 63 rfl) 3 rfl ?_
    obtain ⟨σ9, hσ9, h⟩ := obi h
    refine v_pI (dq D_X10_readCore 64 rfl) fp_RX10_199 hσ9 ?_
    refine v_aload_n (dq D_X10_readCore 65 rfl) 0 rfl ?_
    obtain ⟨x10, hx10, h⟩ := obi h
    refine v_gR (dq D_X10_readCore 66 rfl) fa_RX10_130 hx10 ?_
    refine v_iload (dq D_X10_readCore 67 rfl) 4 rfl ?_
    obtain ⟨σ11, hσ11, h⟩ := obi h
    refine v_pI (dq D_X10_readCore 68 rfl) fp_RX10_201 hσ11 ?_
    refine v_aload_n (dq D_X10_readCore 69 rfl) 0 rfl ?_
    obtain ⟨x12, hx12, h⟩ := obi h
    refine v_gR (dq D_X10_readCore 70 rfl) fa_RX10_130 hx12 ?_
    refine v_iload (dq D_X10_readCore 71 rfl) 5 rfl ?_
    obtain ⟨σ13, hσ13, h⟩ := obi h
    refine v_pZ (dq D_X10_readCore 72 rfl) fp_RX10_203 hσ13 ?_
    obtain rfl := Option.some.inj h
    exact v_vret (dq D_X10_readCore 73 rfl) rfl ⟨rfl, rfl⟩
  · have h := itp h c3
    obtain rfl := Option.some.inj h
    exact v_vret (dq D_X10_readCore 52 rfl) rfl ⟨rfl, rfl⟩
theorem w_X10_readCore_15 {sa : Env3} {a0 : Nat} {σ : St} {r : St} (h : f_X10_readCore_15 a0 σ = some r) : VV sa cX10_readCore K_X10_readCore 15 [(0, .ref a0)] [] σ (pU r) 0 0 := by
  unfold f_X10_readCore_15 at h
  refine v_aload_n (dq D_X10_readCore 7 rfl) 0 rfl ?_
  obtain ⟨σ1, hσ1, h⟩ := obi h
  refine v_cVv (bc := 0) (bs := 0) (As := []) (dq D_X10_readCore 8 rfl) cv_X10_goesOn ml_RX10_104 (itg hσ1).1 (m_X10_goesOn hσ1) rfl rfl (Nat.le_of_ble_eq_true rfl) ⟨Nat.le_of_ble_eq_true rfl, Nat.le_of_ble_eq_true rfl⟩ ⟨Nat.le_of_ble_eq_true rfl, Nat.le_of_ble_eq_true rfl⟩ ?_
  refine v_aload_n (dq D_X10_readCore 9 rfl) 0 rfl ?_
  refine v_ldcS (dq D_X10_readCore 10 rfl) (str_in 18 rfl) ?_
  refine v_bipush (dq D_X10_readCore 11 rfl) kb_9 ?_
  refine v_bipush (dq D_X10_readCore 12 rfl) kb_24 ?_
  obtain ⟨q2, hq2, h⟩ := obi h
  refine v_cVi (bc := 0) (bs := 0) (As := [.ref (sa.1 18), .int 9, .int 24]) (dq D_X10_readCore 13 rfl) cv_X10_readPart ml_RX10_183 (itg hq2).1 (m_X10_readPart hq2) rfl rfl (Nat.le_of_ble_eq_true rfl) ⟨Nat.le_of_ble_eq_true rfl, Nat.le_of_ble_eq_true rfl⟩ ⟨Nat.le_of_ble_eq_true rfl, Nat.le_of_ble_eq_true rfl⟩ ?_
  refine v_istore_n (dq D_X10_readCore 14 rfl) [(1, .int q2.1), (0, .ref a0)] rfl (Nat.le_of_ble_eq_true rfl) rfl ?_
  refine v_aload_n (dq D_X10_readCore 15 rfl) 1 rfl ?_
  refine v_ldcS (dq D_X10_readCore 16 rfl) (str_in 19 rfl) ?_
  refine v_iconst (dq D_X10_readCore 17 rfl) kc_2 ?_
  refine v_bipush (dq D_X10_readCore 18 rfl) kb_12 ?_
  obtain ⟨q3, hq3, h⟩ := obi h
  refine v_cVi (bc := 0) (bs := 0) (As := [.ref (sa.1 19), .int 2, .int 12]) (dq D_X10_readCore 19 rfl) cv_X10_readPart ml_RX10_183 (itg hq3).1 (m_X10_readPart hq3) rfl rfl (Nat.le_of_ble_eq_true rfl) ⟨Nat.le_of_ble_eq_true rfl, Nat.le_of_ble_eq_true rfl⟩ ⟨Nat.le_of_ble_eq_true rfl, Nat.le_of_ble_eq_true rfl⟩ ?_
  refine v_istore_n (dq D_X10_readCore 20 rfl) [(2, .int q3.1), (1, .int q2.1), (0, .ref a0)] rfl (Nat.le_of_ble_eq_true rfl) rfl ?_
  refine v_aload_n (dq D_X10_readCore 21 rfl) 2 rfl ?_
  refine v_ldcS (dq D_X10_readCore 22 rfl) (str_in 20 rfl) ?_
  refine v_iconst (dq D_X10_readCore 23 rfl) kc_0 ?_
  refine v_iconst (dq D_X10_readCore 24 rfl) kc_4 ?_
  obtain ⟨q4, hq4, h⟩ := obi h
  refine v_cVi (bc := 0) (bs := 0) (As := [.ref (sa.1 20), .int 0, .int 4]) (dq D_X10_readCore 25 rfl) cv_X10_readPart ml_RX10_183 (itg hq4).1 (m_X10_readPart hq4) rfl rfl (Nat.le_of_ble_eq_true rfl) ⟨Nat.le_of_ble_eq_true rfl, Nat.le_of_ble_eq_true rfl⟩ ⟨Nat.le_of_ble_eq_true rfl, Nat.le_of_ble_eq_true rfl⟩ ?_
  refine v_istore_n (dq D_X10_readCore 26 rfl) [(3, .int q4.1), (2, .int q3.1), (1, .int q2.1), (0, .ref a0)] rfl (Nat.le_of_ble_eq_true rfl) rfl ?_
  refine v_aload_n (dq D_X10_readCore 27 rfl) 3 rfl ?_
  refine v_ldcS (dq D_X10_readCore 28 rfl) (str_in 21 rfl) ?_
  refine v_iconst (dq D_X10_readCore 29 rfl) kc_1 ?_
  refine v_iconst (dq D_X10_readCore 30 rfl) kc_4 ?_
  obtain ⟨q5, hq5, h⟩ := obi h
  refine v_cVi (bc := 0) (bs := 0) (As := [.ref (sa.1 21), .int 1, .int 4]) (dq D_X10_readCore 31 rfl) cv_X10_readPart ml_RX10_183 (itg hq5).1 (m_X10_readPart hq5) rfl rfl (Nat.le_of_ble_eq_true rfl) ⟨Nat.le_of_ble_eq_true rfl, Nat.le_of_ble_eq_true rfl⟩ ⟨Nat.le_of_ble_eq_true rfl, Nat.le_of_ble_eq_true rfl⟩ ?_
  refine v_istore (dq D_X10_readCore 32 rfl) [(4, .int q5.1), (3, .int q4.1), (2, .int q3.1), (1, .int q2.1), (0, .ref a0)] (Nat.le_of_ble_eq_true rfl) rfl ?_
  refine v_aload_n (dq D_X10_readCore 33 rfl) 4 rfl ?_
  refine v_ldcS (dq D_X10_readCore 34 rfl) (str_in 22 rfl) ?_
  obtain ⟨q6, hq6, h⟩ := obi h
  refine v_cVi (bc := 0) (bs := 0) (As := [.ref (sa.1 22)]) (dq D_X10_readCore 35 rfl) cv_X10_isWord ml_RX10_107 (itg hq6).1 (m_X10_isWord hq6) rfl rfl (Nat.le_of_ble_eq_true rfl) ⟨Nat.le_of_ble_eq_true rfl, Nat.le_of_ble_eq_true rfl⟩ ⟨Nat.le_of_ble_eq_true rfl, Nat.le_of_ble_eq_true rfl⟩ ?_
  refine v_istore (dq D_X10_readCore 36 rfl) [(5, .int q6.1), (4, .int q5.1), (3, .int q4.1), (2, .int q3.1), (1, .int q2.1), (0, .ref a0)] (Nat.le_of_ble_eq_true rfl) rfl ?_
  refine v_iload (dq D_X10_readCore 37 rfl) 0 rfl ?_
  refine v_if_ne (dq D_X10_readCore 38 rfl) rfl (fun c7 => ?_) (fun c7 => ?_)
  · have h := itn h c7
    exact v_sub [5, 4, 3, 2, 1, 0] rfl (w_X10_readCore_86 h)
  · have h := itp h c7
    refine v_aload_n (dq D_X10_readCore 39 rfl) 5 rfl ?_
    refine v_ldcS (dq D_X10_readCore 40 rfl) (str_in 23 rfl) ?_
    obtain ⟨q8, hq8, h⟩ := obi h
    refine v_cVi (bc := 0) (bs := 0) (As := [.ref (sa.1 23)]) (dq D_X10_readCore 41 rfl) cv_X10_isWord ml_RX10_107 (itg hq8).1 (m_X10_isWord hq8) rfl rfl (Nat.le_of_ble_eq_true rfl) ⟨Nat.le_of_ble_eq_true rfl, Nat.le_of_ble_eq_true rfl⟩ ⟨Nat.le_of_ble_eq_true rfl, Nat.le_of_ble_eq_true rfl⟩ ?_
    refine v_if_ne (dq D_X10_readCore 42 rfl) rfl (fun c9 => ?_) (fun c9 => ?_)
    · have h := itn h c9
      exact v_sub [5, 4, 3, 2, 1, 0] rfl (w_X10_readCore_86 h)
    · have h := itp h c9
      refine v_aload_n (dq D_X10_readCore 43 rfl) 5 rfl ?_
      refine v_iconst (dq D_X10_readCore 44 rfl) kc_1 ?_
      obtain ⟨σ10, hσ10, h⟩ := obi h
      refine v_cVv (bc := 0) (bs := 0) (As := [.int 1]) (dq D_X10_readCore 45 rfl) cv_X10_flaw ml_RX10_111 (itg hσ10).1 (m_X10_flaw hσ10) rfl rfl (Nat.le_of_ble_eq_true rfl) ⟨Nat.le_of_ble_eq_true rfl, Nat.le_of_ble_eq_true rfl⟩ ⟨Nat.le_of_ble_eq_true rfl, Nat.le_of_ble_eq_true rfl⟩ ?_
      exact v_sub [5, 4, 3, 2, 1, 0] rfl (w_X10_readCore_86 h)
theorem w_X10_readCore_0 {sa : Env3} {a0 : Nat} {σ : St} {r : St} (h : f_X10_readCore_0 a0 σ = some r) : VV sa cX10_readCore K_X10_readCore 0 [(0, .ref a0)] [] σ (pU r) 0 0 := by
  unfold f_X10_readCore_0 at h
  refine v_aload_n (dq D_X10_readCore 0 rfl) 0 rfl ?_
  obtain ⟨x1, hx1, h⟩ := obi h
  refine v_gR (dq D_X10_readCore 1 rfl) fa_RX10_130 hx1 ?_
  obtain ⟨x2, hx2, h⟩ := obi h
  refine v_gI (dq D_X10_readCore 2 rfl) fa_RX10_134 hx2 ?_
  refine v_if_le (dq D_X10_readCore 3 rfl) rfl (fun c3 => ?_) (fun c3 => ?_)
  · have h := itp h c3
    exact w_X10_readCore_15 h
  · have h := itn h c3
    refine v_aload_n (dq D_X10_readCore 4 rfl) 0 rfl ?_
    refine v_iconst (dq D_X10_readCore 5 rfl) kc_3 ?_
    obtain ⟨σ4, hσ4, h⟩ := obi h
    refine v_cVv (bc := 0) (bs := 0) (As := [.int 3]) (dq D_X10_readCore 6 rfl) cv_X10_flaw ml_RX10_111 (itg hσ4).1 (m_X10_flaw hσ4) rfl rfl (Nat.le_of_ble_eq_true rfl) ⟨Nat.le_of_ble_eq_true rfl, Nat.le_of_ble_eq_true rfl⟩ ⟨Nat.le_of_ble_eq_true rfl, Nat.le_of_ble_eq_true rfl⟩ ?_
    exact w_X10_readCore_15 h
theorem m_X10_readCore {sa : Env3} {a0 : Nat} {σ : St} {r : St} (h : f_X10_readCore a0 σ = some r) : Ex sa yX10_readCore cX10_readCore K_X10_readCore [.ref a0] σ (pU r) := Ex.of (by decide) rfl (fun q => nomatch q) (Nat.le_of_ble_eq_true rfl) (w_X10_readCore_0 (itg h).2)
theorem w_X10_kindAtHand_71 {sa : Env3} {s0 : Int32} {σ : St} {r : Int32 × St} (h : f_X10_kindAtHand_71 s0 σ = some r) : VV sa cX10_kindAtHand K_X10_kindAtHand 71 [] [.int s0] σ (pO r) 0 0 := by
  unfold f_X10_kindAtHand_71 at h
  obtain rfl := Option.some.inj h
  exact v_iret (dq D_X10_kindAtHand 37 rfl) rfl ⟨rfl, rfl⟩
theorem w_X10_kindAtHand_0 {sa : Env3} {a0 : Nat} {σ : St} {r : Int32 × St} (h : f_X10_kindAtHand_0 a0 σ = some r) : VV sa cX10_kindAtHand K_X10_kindAtHand 0 [(0, .ref a0)] [] σ (pO r) 0 0 := by
  unfold f_X10_kindAtHand_0 at h
  refine v_aload_n (dq D_X10_kindAtHand 0 rfl) 0 rfl ?_
  refine v_ldcS (dq D_X10_kindAtHand 1 rfl) (str_in 24 rfl) ?_
  obtain ⟨q1, hq1, h⟩ := obi h
  refine v_cVi (bc := 0) (bs := 0) (As := [.ref (sa.1 24)]) (dq D_X10_kindAtHand 2 rfl) cv_X10_isWord ml_RX10_107 (itg hq1).1 (m_X10_isWord hq1) rfl rfl (Nat.le_of_ble_eq_true rfl) ⟨Nat.le_of_ble_eq_true rfl, Nat.le_of_ble_eq_true rfl⟩ ⟨Nat.le_of_ble_eq_true rfl, Nat.le_of_ble_eq_true rfl⟩ ?_
  refine v_if_eq (dq D_X10_kindAtHand 3 rfl) rfl (fun c2 => ?_) (fun c2 => ?_)
  · have h := itp h c2
    refine v_aload_n (dq D_X10_kindAtHand 6 rfl) 0 rfl ?_
    refine v_ldcS (dq D_X10_kindAtHand 7 rfl) (str_in 25 rfl) ?_
    obtain ⟨q3, hq3, h⟩ := obi h
    refine v_cVi (bc := 0) (bs := 0) (As := [.ref (sa.1 25)]) (dq D_X10_kindAtHand 8 rfl) cv_X10_isWord ml_RX10_107 (itg hq3).1 (m_X10_isWord hq3) rfl rfl (Nat.le_of_ble_eq_true rfl) ⟨Nat.le_of_ble_eq_true rfl, Nat.le_of_ble_eq_true rfl⟩ ⟨Nat.le_of_ble_eq_true rfl, Nat.le_of_ble_eq_true rfl⟩ ?_
    refine v_if_eq (dq D_X10_kindAtHand 9 rfl) rfl (fun c4 => ?_) (fun c4 => ?_)
    · have h := itp h c4
      refine v_aload_n (dq D_X10_kindAtHand 12 rfl) 0 rfl ?_
      refine v_ldcS (dq D_X10_kindAtHand 13 rfl) (str_in 26 rfl) ?_
      obtain ⟨q5, hq5, h⟩ := obi h
      refine v_cVi (bc := 0) (bs := 0) (As := [.ref (sa.1 26)]) (dq D_X10_kindAtHand 14 rfl) cv_X10_isWord ml_RX10_107 (itg hq5).1 (m_X10_isWord hq5) rfl rfl (Nat.le_of_ble_eq_true rfl) ⟨Nat.le_of_ble_eq_true rfl, Nat.le_of_ble_eq_true rfl⟩ ⟨Nat.le_of_ble_eq_true rfl, Nat.le_of_ble_eq_true rfl⟩ ?_
      refine v_if_eq (dq D_X10_kindAtHand 15 rfl) rfl (fun c6 => ?_) (fun c6 => ?_)
      · have h := itp h c6
        refine v_aload_n (dq D_X10_kindAtHand 18 rfl) 0 rfl ?_
        refine v_ldcS (dq D_X10_kindAtHand 19 rfl) (str_in 27 rfl) ?_
        obtain ⟨q7, hq7, h⟩ := obi h
        refine v_cVi (bc := 0) (bs := 0) (As := [.ref (sa.1 27)]) (dq D_X10_kindAtHand 20 rfl) cv_X10_isWord ml_RX10_107 (itg hq7).1 (m_X10_isWord hq7) rfl rfl (Nat.le_of_ble_eq_true rfl) ⟨Nat.le_of_ble_eq_true rfl, Nat.le_of_ble_eq_true rfl⟩ ⟨Nat.le_of_ble_eq_true rfl, Nat.le_of_ble_eq_true rfl⟩ ?_
        refine v_if_eq (dq D_X10_kindAtHand 21 rfl) rfl (fun c8 => ?_) (fun c8 => ?_)
        · have h := itp h c8
          refine v_aload_n (dq D_X10_kindAtHand 24 rfl) 0 rfl ?_
          refine v_ldcS (dq D_X10_kindAtHand 25 rfl) (str_in 28 rfl) ?_
          obtain ⟨q9, hq9, h⟩ := obi h
          refine v_cVi (bc := 0) (bs := 0) (As := [.ref (sa.1 28)]) (dq D_X10_kindAtHand 26 rfl) cv_X10_isWord ml_RX10_107 (itg hq9).1 (m_X10_isWord hq9) rfl rfl (Nat.le_of_ble_eq_true rfl) ⟨Nat.le_of_ble_eq_true rfl, Nat.le_of_ble_eq_true rfl⟩ ⟨Nat.le_of_ble_eq_true rfl, Nat.le_of_ble_eq_true rfl⟩ ?_
          refine v_if_eq (dq D_X10_kindAtHand 27 rfl) rfl (fun c10 => ?_) (fun c10 => ?_)
          · have h := itp h c10
            refine v_aload_n (dq D_X10_kindAtHand 30 rfl) 0 rfl ?_
            refine v_ldcS (dq D_X10_kindAtHand 31 rfl) (str_in 29 rfl) ?_
            obtain ⟨q11, hq11, h⟩ := obi h
            refine v_cVi (bc := 0) (bs := 0) (As := [.ref (sa.1 29)]) (dq D_X10_kindAtHand 32 rfl) cv_X10_isWord ml_RX10_107 (itg hq11).1 (m_X10_isWord hq11) rfl rfl (Nat.le_of_ble_eq_true rfl) ⟨Nat.le_of_ble_eq_true rfl, Nat.le_of_ble_eq_true rfl⟩ ⟨Nat.le_of_ble_eq_true rfl, Nat.le_of_ble_eq_true rfl⟩ ?_
            refine v_if_eq (dq D_X10_kindAtHand 33 rfl) rfl (fun c12 => ?_) (fun c12 => ?_)
            · have h := itp h c12
              refine v_iconst (dq D_X10_kindAtHand 36 rfl) kc_m1 ?_
              exact v_sub [] rfl (w_X10_kindAtHand_71 h)
            · have h := itn h c12
              refine v_iconst (dq D_X10_kindAtHand 34 rfl) kc_5 ?_
              refine v_goto (dq D_X10_kindAtHand 35 rfl) rfl ?_
              exact v_sub [] rfl (w_X10_kindAtHand_71 h)
          · have h := itn h c10
            refine v_iconst (dq D_X10_kindAtHand 28 rfl) kc_4 ?_
            refine v_goto (dq D_X10_kindAtHand 29 rfl) rfl ?_
            exact v_sub [] rfl (w_X10_kindAtHand_71 h)
        · have h := itn h c8
          refine v_iconst (dq D_X10_kindAtHand 22 rfl) kc_3 ?_
          obtain rfl := Option.some.inj h
          exact v_iret (dq D_X10_kindAtHand 23 rfl) rfl ⟨rfl, rfl⟩
      · have h := itn h c6
        refine v_iconst (dq D_X10_kindAtHand 16 rfl) kc_2 ?_
        obtain rfl := Option.some.inj h
        exact v_iret (dq D_X10_kindAtHand 17 rfl) rfl ⟨rfl, rfl⟩
    · have h := itn h c4
      refine v_iconst (dq D_X10_kindAtHand 10 rfl) kc_1 ?_
      obtain rfl := Option.some.inj h
      exact v_iret (dq D_X10_kindAtHand 11 rfl) rfl ⟨rfl, rfl⟩
  · have h := itn h c2
    refine v_iconst (dq D_X10_kindAtHand 4 rfl) kc_0 ?_
    obtain rfl := Option.some.inj h
    exact v_iret (dq D_X10_kindAtHand 5 rfl) rfl ⟨rfl, rfl⟩
theorem m_X10_kindAtHand {sa : Env3} {a0 : Nat} {σ : St} {r : Int32 × St} (h : f_X10_kindAtHand a0 σ = some r) : Ex sa yX10_kindAtHand cX10_kindAtHand K_X10_kindAtHand [.ref a0] σ (pO r) := Ex.of (by decide) rfl (fun q => nomatch q) (Nat.le_of_ble_eq_true rfl) (w_X10_kindAtHand_0 (itg h).2)
theorem w_X10_lineBegins_26 {sa : Env3} {a0 : Nat} {σ : St} {r : St} (h : f_X10_lineBegins_26 a0 σ = some r) : VV sa cX10_lineBegins K_X10_lineBegins 26 [(0, .ref a0)] [] σ (pU r) 0 0 := by
  unfold f_X10_lineBegins_26 at h
  refine v_aload_n (dq D_X10_lineBegins 13 rfl) 0 rfl ?_
  obtain ⟨σ1, hσ1, h⟩ := obi h
  refine v_cVv (bc := 0) (bs := 0) (As := []) (dq D_X10_lineBegins 14 rfl) cv_X10_goesOn ml_RX10_104 (itg hσ1).1 (m_X10_goesOn hσ1) rfl rfl (Nat.le_of_ble_eq_true rfl) ⟨Nat.le_of_ble_eq_true rfl, Nat.le_of_ble_eq_true rfl⟩ ⟨Nat.le_of_ble_eq_true rfl, Nat.le_of_ble_eq_true rfl⟩ ?_
  obtain rfl := Option.some.inj h
  exact v_vret (dq D_X10_lineBegins 15 rfl) rfl ⟨rfl, rfl⟩
theorem w_X10_lineBegins_10 {sa : Env3} {a0 : Nat} {σ : St} {r : St} (h : f_X10_lineBegins_10 a0 σ = some r) : VV sa cX10_lineBegins K_X10_lineBegins 10 [(0, .ref a0)] [] σ (pU r) 0 0 := by
  unfold f_X10_lineBegins_10 at h
  refine v_aload_n (dq D_X10_lineBegins 6 rfl) 0 rfl ?_
  obtain ⟨x1, hx1, h⟩ := obi h
  refine v_gR (dq D_X10_lineBegins 7 rfl) fa_RX10_130 hx1 ?_
  obtain ⟨x2, hx2, h⟩ := obi h
  refine v_gI (dq D_X10_lineBegins 8 rfl) fa_RX10_134 hx2 ?_
  refine v_if_ne (dq D_X10_lineBegins 9 rfl) rfl (fun c3 => ?_) (fun c3 => ?_)
  · have h := itn h c3
    exact w_X10_lineBegins_26 h
  · have h := itp h c3
    refine v_aload_n (dq D_X10_lineBegins 10 rfl) 0 rfl ?_
    refine v_bipush (dq D_X10_lineBegins 11 rfl) kb_6 ?_
    obtain ⟨σ4, hσ4, h⟩ := obi h
    refine v_cVv (bc := 0) (bs := 0) (As := [.int 6]) (dq D_X10_lineBegins 12 rfl) cv_X10_flaw ml_RX10_111 (itg hσ4).1 (m_X10_flaw hσ4) rfl rfl (Nat.le_of_ble_eq_true rfl) ⟨Nat.le_of_ble_eq_true rfl, Nat.le_of_ble_eq_true rfl⟩ ⟨Nat.le_of_ble_eq_true rfl, Nat.le_of_ble_eq_true rfl⟩ ?_
    exact w_X10_lineBegins_26 h
theorem w_X10_lineBegins_0 {sa : Env3} {a0 : Nat} {a1 : Int32} {a2 : Int32} {σ : St} {r : St} (h : f_X10_lineBegins_0 a0 a1 a2 σ = some r) : VV sa cX10_lineBegins K_X10_lineBegins 0 [(0, .ref a0), (1, .int a1), (2, .int a2)] [] σ (pU r) 0 0 := by
  unfold f_X10_lineBegins_0 at h
  refine v_iload_n (dq D_X10_lineBegins 0 rfl) 1 rfl ?_
  refine v_iload_n (dq D_X10_lineBegins 1 rfl) 2 rfl ?_
  refine v_icmp_ne (dq D_X10_lineBegins 2 rfl) rfl (fun c1 => ?_) (fun c1 => ?_)
  · have h := itn h c1
    exact v_sub [0] rfl (w_X10_lineBegins_10 h)
  · have h := itp h c1
    refine v_aload_n (dq D_X10_lineBegins 3 rfl) 0 rfl ?_
    refine v_iconst (dq D_X10_lineBegins 4 rfl) kc_5 ?_
    obtain ⟨σ2, hσ2, h⟩ := obi h
    refine v_cVv (bc := 0) (bs := 0) (As := [.int 5]) (dq D_X10_lineBegins 5 rfl) cv_X10_flaw ml_RX10_111 (itg hσ2).1 (m_X10_flaw hσ2) rfl rfl (Nat.le_of_ble_eq_true rfl) ⟨Nat.le_of_ble_eq_true rfl, Nat.le_of_ble_eq_true rfl⟩ ⟨Nat.le_of_ble_eq_true rfl, Nat.le_of_ble_eq_true rfl⟩ ?_
    exact v_sub [0] rfl (w_X10_lineBegins_10 h)
theorem m_X10_lineBegins {sa : Env3} {a0 : Nat} {a1 : Int32} {a2 : Int32} {σ : St} {r : St} (h : f_X10_lineBegins a0 a1 a2 σ = some r) : Ex sa yX10_lineBegins cX10_lineBegins K_X10_lineBegins [.ref a0, .int a1, .int a2] σ (pU r) := Ex.of (by decide) rfl (fun q => nomatch q) (Nat.le_of_ble_eq_true rfl) (w_X10_lineBegins_0 (itg h).2)
theorem w_X10_readRegister_0 {sa : Env3} {a0 : Nat} {σ : St} {r : Int32 × St} (h : f_X10_readRegister_0 a0 σ = some r) : VV sa cX10_readRegister K_X10_readRegister 0 [(0, .ref a0)] [] σ (pO r) 0 0 := by
  unfold f_X10_readRegister_0 at h
  refine v_aload_n (dq D_X10_readRegister 0 rfl) 0 rfl ?_
  refine v_iconst (dq D_X10_readRegister 1 rfl) kc_0 ?_
  refine v_bipush (dq D_X10_readRegister 2 rfl) kb_7 ?_
  obtain ⟨q1, hq1, h⟩ := obi h
  refine v_cVi (bc := 0) (bs := 0) (As := [.int 0, .int 7]) (dq D_X10_readRegister 3 rfl) cv_X10_readWhole ml_RX10_127 (itg hq1).1 (m_X10_readWhole hq1) rfl rfl (Nat.le_of_ble_eq_true rfl) ⟨Nat.le_of_ble_eq_true rfl, Nat.le_of_ble_eq_true rfl⟩ ⟨Nat.le_of_ble_eq_true rfl, Nat.le_of_ble_eq_true rfl⟩ ?_
  obtain rfl := Option.some.inj h
  exact v_iret (dq D_X10_readRegister 4 rfl) rfl ⟨rfl, rfl⟩
theorem m_X10_readRegister {sa : Env3} {a0 : Nat} {σ : St} {r : Int32 × St} (h : f_X10_readRegister a0 σ = some r) : Ex sa yX10_readRegister cX10_readRegister K_X10_readRegister [.ref a0] σ (pO r) := Ex.of (by decide) rfl (fun q => nomatch q) (Nat.le_of_ble_eq_true rfl) (w_X10_readRegister_0 (itg h).2)
theorem w_X10_readStep_119 {sa : Env3} {a0 : Nat} {a1 : Int32} {a2 : Int32} {a3 : Int32} {a4 : Int32} {a5 : Int32} {a6 : Int32} {σ : St} {r : St} (h : f_X10_readStep_119 a0 a1 a2 a3 a4 a5 a6 σ = some r) : VV sa cX10_readStep K_X10_readStep 119 [(0, .ref a0), (1, .int a1), (2, .int a2), (3, .int a3), (4, .int a4), (5, .int a5), (6, .int a6)] [] σ (pU r) 0 0 := by
  unfold f_X10_readStep_119 at h
  refine v_aload_n (dq D_X10_readStep 65 rfl) 0 rfl ?_
  obtain ⟨x1, hx1, h⟩ := obi h
  refine v_gI (dq D_X10_readStep 66 rfl) fa_RX10_68 hx1 ?_
  refine v_iconst (dq D_X10_readStep 67 rfl) kc_5 ?_
  refine v_icmp_ne (dq D_X10_readStep 68 rfl) rfl (fun c2 => ?_) (fun c2 => ?_)
  · have h := itn h c2
    refine v_aload_n (dq D_X10_readStep 70 rfl) 0 rfl ?_
    obtain ⟨x3, hx3, h⟩ := obi h
    refine v_gR (dq D_X10_readStep 71 rfl) fa_RX10_130 hx3 ?_
    obtain ⟨x4, hx4, h⟩ := obi h
    refine v_gI (dq D_X10_readStep 72 rfl) fa_RX10_146 hx4 ?_
    refine v_istore (dq D_X10_readStep 73 rfl) [(7, .int x4), (0, .ref a0), (1, .int a1), (2, .int a2), (3, .int a3), (4, .int a4), (5, .int a5), (6, .int a6)] (Nat.le_of_ble_eq_true rfl) rfl ?_
    refine v_aload_n (dq D_X10_readStep 74 rfl) 1 rfl ?_
    obtain ⟨x5, hx5, h⟩ := obi h
    refine v_gR (dq D_X10_readStep 75 rfl) fa_RX10_130 hx5 ?_
    obtain ⟨x6, hx6, h⟩ := obi h
    refine v_gR (dq D_X10_readStep 76 rfl) fa_RX10_217 hx6 ?_
    refine v_iload (dq D_X10_readStep 77 rfl) 0 rfl ?_
    refine v_iload_n (dq D_X10_readStep 78 rfl) 2 rfl ?_
    obtain ⟨σ7, hσ7, h⟩ := obi h
    refine v_iast (dq D_X10_readStep 79 rfl) hσ7 ?_
    refine v_aload_n (dq D_X10_readStep 80 rfl) 1 rfl ?_
    obtain ⟨x8, hx8, h⟩ := obi h
    refine v_gR (dq D_X10_readStep 81 rfl) fa_RX10_130 hx8 ?_
    obtain ⟨x9, hx9, h⟩ := obi h
    refine v_gR (dq D_X10_readStep 82 rfl) fa_RX10_220 hx9 ?_
    refine v_iload (dq D_X10_readStep 83 rfl) 0 rfl ?_
    refine v_iload_n (dq D_X10_readStep 84 rfl) 3 rfl ?_
    obtain ⟨σ10, hσ10, h⟩ := obi h
    refine v_iast (dq D_X10_readStep 85 rfl) hσ10 ?_
    refine v_aload_n (dq D_X10_readStep 86 rfl) 1 rfl ?_
    obtain ⟨x11, hx11, h⟩ := obi h
    refine v_gR (dq D_X10_readStep 87 rfl) fa_RX10_130 hx11 ?_
    obtain ⟨x12, hx12, h⟩ := obi h
    refine v_gR (dq D_X10_readStep 88 rfl) fa_RX10_223 hx12 ?_
    refine v_iload (dq D_X10_readStep 89 rfl) 0 rfl ?_
    refine v_iload_n (dq D_X10_readStep 90 rfl) 4 rfl ?_
    obtain ⟨σ13, hσ13, h⟩ := obi h
    refine v_iast (dq D_X10_readStep 91 rfl) hσ13 ?_
    refine v_aload_n (dq D_X10_readStep 92 rfl) 1 rfl ?_
    obtain ⟨x14, hx14, h⟩ := obi h
    refine v_gR (dq D_X10_readStep 93 rfl) fa_RX10_130 hx14 ?_
    obtain ⟨x15, hx15, h⟩ := obi h
    refine v_gR (dq D_X10_readStep 94 rfl) fa_RX10_226 hx15 ?_
    refine v_iload (dq D_X10_readStep 95 rfl) 0 rfl ?_
    refine v_iload (dq D_X10_readStep 96 rfl) 5 rfl ?_
    obtain ⟨σ16, hσ16, h⟩ := obi h
    refine v_iast (dq D_X10_readStep 97 rfl) hσ16 ?_
    refine v_aload_n (dq D_X10_readStep 98 rfl) 1 rfl ?_
    obtain ⟨x17, hx17, h⟩ := obi h
    refine v_gR (dq D_X10_readStep 99 rfl) fa_RX10_130 hx17 ?_
    obtain ⟨x18, hx18, h⟩ := obi h
    refine v_gR (dq D_X10_readStep 100 rfl) fa_RX10_229 hx18 ?_
    refine v_iload (dq D_X10_readStep 101 rfl) 0 rfl ?_
    refine v_iload (dq D_X10_readStep 102 rfl) 6 rfl ?_
    obtain ⟨σ19, hσ19, h⟩ := obi h
    refine v_iast (dq D_X10_readStep 103 rfl) hσ19 ?_
    refine v_aload_n (dq D_X10_readStep 104 rfl) 1 rfl ?_
    obtain ⟨x20, hx20, h⟩ := obi h
    refine v_gR (dq D_X10_readStep 105 rfl) fa_RX10_130 hx20 ?_
    obtain ⟨x21, hx21, h⟩ := obi h
    refine v_gR (dq D_X10_readStep 106 rfl) fa_RX10_231 hx21 ?_
    refine v_iload (dq D_X10_readStep 107 rfl) 0 rfl ?_
    refine v_iload (dq D_X10_readStep 108 rfl) 7 rfl ?_
    obtain ⟨σ22, hσ22, h⟩ := obi h
    refine v_zast (dq D_X10_readStep 109 rfl) hσ22 ?_
    refine v_aload_n (dq D_X10_readStep 110 rfl) 1 rfl ?_
    obtain ⟨x23, hx23, h⟩ := obi h
    refine v_gR (dq D_X10_readStep 111 rfl) fa_RX10_130 hx23 ?_
    refine v_dup (dq D_X10_readStep 112 rfl) rfl ?_
    obtain ⟨x24, hx24, h⟩ := obi h
    refine v_gI (dq D_X10_readStep 113 rfl) fa_RX10_146 hx24 ?_
    refine v_iconst (dq D_X10_readStep 114 rfl) kc_1 ?_
    refine v_iadd (dq D_X10_readStep 115 rfl) ?_
    obtain ⟨σ25, hσ25, h⟩ := obi h
    refine v_pI (dq D_X10_readStep 116 rfl) fp_RX10_146 hσ25 ?_
    obtain rfl := Option.some.inj h
    exact v_vret (dq D_X10_readStep 117 rfl) rfl ⟨rfl, rfl⟩
  · have h := itp h c2
    obtain rfl := Option.some.inj h
    exact v_vret (dq D_X10_readStep 69 rfl) rfl ⟨rfl, rfl⟩
theorem w_X10_readStep_115 {sa : Env3} {a0 : Nat} {a1 : Int32} {a2 : Int32} {a3 : Int32} {a4 : Int32} {a5 : Int32} {a6 : Int32} {σ : St} {r : St} (h : f_X10_readStep_115 a0 a1 a2 a3 a4 a5 a6 σ = some r) : VV sa cX10_readStep K_X10_readStep 115 [(0, .ref a0), (1, .int a1), (2, .int a2), (3, .int a3), (4, .int a4), (5, .int a5), (6, .int a6)] [] σ (pU r) 0 0 := by
  unfold f_X10_readStep_115 at h
  refine v_aload_n (dq D_X10_readStep 63 rfl) 0 rfl ?_
  obtain ⟨σ1, hσ1, h⟩ := obi h
  refine v_cVv (bc := 0) (bs := 0) (As := []) (dq D_X10_readStep 64 rfl) cv_X10_goesOn ml_RX10_104 (itg hσ1).1 (m_X10_goesOn hσ1) rfl rfl (Nat.le_of_ble_eq_true rfl) ⟨Nat.le_of_ble_eq_true rfl, Nat.le_of_ble_eq_true rfl⟩ ⟨Nat.le_of_ble_eq_true rfl, Nat.le_of_ble_eq_true rfl⟩ ?_
  exact w_X10_readStep_119 h
theorem w_X10_readStep_74 {sa : Env3} {a0 : Nat} {a1 : Int32} {a2 : Int32} {a3 : Int32} {a4 : Int32} {a5 : Int32} {a6 : Int32} {σ : St} {r : St} (h : f_X10_readStep_74 a0 a1 a2 a3 a4 a5 a6 σ = some r) : VV sa cX10_readStep K_X10_readStep 74 [(0, .ref a0), (1, .int a1), (2, .int a2), (3, .int a3), (4, .int a4), (5, .int a5), (6, .int a6)] [] σ (pU r) 0 0 := by
  unfold f_X10_readStep_74 at h
  refine v_iload_n (dq D_X10_readStep 42 rfl) 1 rfl ?_
  refine v_iconst (dq D_X10_readStep 43 rfl) kc_5 ?_
  refine v_icmp_ne (dq D_X10_readStep 44 rfl) rfl (fun c1 => ?_) (fun c1 => ?_)
  · have h := itn h c1
    exact w_X10_readStep_119 h
  · have h := itp h c1
    refine v_aload_n (dq D_X10_readStep 45 rfl) 0 rfl ?_
    refine v_iconst (dq D_X10_readStep 46 rfl) kc_0 ?_
    refine v_bipush (dq D_X10_readStep 47 rfl) kb_24 ?_
    obtain ⟨q2, hq2, h⟩ := obi h
    refine v_cVi (bc := 0) (bs := 0) (As := [.int 0, .int 24]) (dq D_X10_readStep 48 rfl) cv_X10_readWhole ml_RX10_127 (itg hq2).1 (m_X10_readWhole hq2) rfl rfl (Nat.le_of_ble_eq_true rfl) ⟨Nat.le_of_ble_eq_true rfl, Nat.le_of_ble_eq_true rfl⟩ ⟨Nat.le_of_ble_eq_true rfl, Nat.le_of_ble_eq_true rfl⟩ ?_
    refine v_istore (dq D_X10_readStep 49 rfl) [(5, .int q2.1), (0, .ref a0), (1, .int a1), (2, .int a2), (3, .int a3), (4, .int a4), (6, .int a6)] (Nat.le_of_ble_eq_true rfl) rfl ?_
    refine v_aload_n (dq D_X10_readStep 50 rfl) 1 rfl ?_
    refine v_ldcS (dq D_X10_readStep 51 rfl) (str_in 30 rfl) ?_
    obtain ⟨q3, hq3, h⟩ := obi h
    refine v_cVi (bc := 0) (bs := 0) (As := [.ref (sa.1 30)]) (dq D_X10_readStep 52 rfl) cv_X10_isWord ml_RX10_107 (itg hq3).1 (m_X10_isWord hq3) rfl rfl (Nat.le_of_ble_eq_true rfl) ⟨Nat.le_of_ble_eq_true rfl, Nat.le_of_ble_eq_true rfl⟩ ⟨Nat.le_of_ble_eq_true rfl, Nat.le_of_ble_eq_true rfl⟩ ?_
    refine v_istore (dq D_X10_readStep 53 rfl) [(6, .int q3.1), (5, .int q2.1), (0, .ref a0), (1, .int a1), (2, .int a2), (3, .int a3), (4, .int a4)] (Nat.le_of_ble_eq_true rfl) rfl ?_
    refine v_iload (dq D_X10_readStep 54 rfl) 0 rfl ?_
    refine v_if_ne (dq D_X10_readStep 55 rfl) rfl (fun c4 => ?_) (fun c4 => ?_)
    · have h := itn h c4
      exact v_sub [2, 3, 4, 5, 6, 1, 0] rfl (w_X10_readStep_115 h)
    · have h := itp h c4
      refine v_aload_n (dq D_X10_readStep 56 rfl) 2 rfl ?_
      refine v_ldcS (dq D_X10_readStep 57 rfl) (str_in 31 rfl) ?_
      obtain ⟨q5, hq5, h⟩ := obi h
      refine v_cVi (bc := 0) (bs := 0) (As := [.ref (sa.1 31)]) (dq D_X10_readStep 58 rfl) cv_X10_isWord ml_RX10_107 (itg hq5).1 (m_X10_isWord hq5) rfl rfl (Nat.le_of_ble_eq_true rfl) ⟨Nat.le_of_ble_eq_true rfl, Nat.le_of_ble_eq_true rfl⟩ ⟨Nat.le_of_ble_eq_true rfl, Nat.le_of_ble_eq_true rfl⟩ ?_
      refine v_if_ne (dq D_X10_readStep 59 rfl) rfl (fun c6 => ?_) (fun c6 => ?_)
      · have h := itn h c6
        exact v_sub [2, 3, 4, 5, 6, 1, 0] rfl (w_X10_readStep_115 h)
      · have h := itp h c6
        refine v_aload_n (dq D_X10_readStep 60 rfl) 2 rfl ?_
        refine v_iconst (dq D_X10_readStep 61 rfl) kc_1 ?_
        obtain ⟨σ7, hσ7, h⟩ := obi h
        refine v_cVv (bc := 0) (bs := 0) (As := [.int 1]) (dq D_X10_readStep 62 rfl) cv_X10_flaw ml_RX10_111 (itg hσ7).1 (m_X10_flaw hσ7) rfl rfl (Nat.le_of_ble_eq_true rfl) ⟨Nat.le_of_ble_eq_true rfl, Nat.le_of_ble_eq_true rfl⟩ ⟨Nat.le_of_ble_eq_true rfl, Nat.le_of_ble_eq_true rfl⟩ ?_
        exact v_sub [2, 3, 4, 5, 6, 1, 0] rfl (w_X10_readStep_115 h)
theorem w_X10_readStep_60 {sa : Env3} {a0 : Nat} {a1 : Int32} {a2 : Int32} {a3 : Int32} {a4 : Int32} {a5 : Int32} {a6 : Int32} {σ : St} {r : St} (h : f_X10_readStep_60 a0 a1 a2 a3 a4 a5 a6 σ = some r) : VV sa cX10_readStep K_X10_readStep 60 [(0, .ref a0), (1, .int a1), (2, .int a2), (3, .int a3), (4, .int a4), (5, .int a5), (6, .int a6)] [] σ (pU r) 0 0 := by
  unfold f_X10_readStep_60 at h
  refine v_iload_n (dq D_X10_readStep 35 rfl) 1 rfl ?_
  refine v_if_ne (dq D_X10_readStep 36 rfl) rfl (fun c1 => ?_) (fun c1 => ?_)
  · have h := itn h c1
    exact w_X10_readStep_74 h
  · have h := itp h c1
    refine v_aload_n (dq D_X10_readStep 37 rfl) 0 rfl ?_
    refine v_iconst (dq D_X10_readStep 38 rfl) kc_0 ?_
    refine v_sipush (dq D_X10_readStep 39 rfl) ks_9999 ?_
    obtain ⟨q2, hq2, h⟩ := obi h
    refine v_cVi (bc := 0) (bs := 0) (As := [.int 0, .int 9999]) (dq D_X10_readStep 40 rfl) cv_X10_readWhole ml_RX10_127 (itg hq2).1 (m_X10_readWhole hq2) rfl rfl (Nat.le_of_ble_eq_true rfl) ⟨Nat.le_of_ble_eq_true rfl, Nat.le_of_ble_eq_true rfl⟩ ⟨Nat.le_of_ble_eq_true rfl, Nat.le_of_ble_eq_true rfl⟩ ?_
    refine v_istore (dq D_X10_readStep 41 rfl) [(5, .int q2.1), (0, .ref a0), (1, .int a1), (2, .int a2), (3, .int a3), (4, .int a4), (6, .int a6)] (Nat.le_of_ble_eq_true rfl) rfl ?_
    exact v_sub [1, 2, 3, 4, 5, 0, 6] rfl (w_X10_readStep_74 h)
theorem w_X10_readStep_45 {sa : Env3} {a0 : Nat} {a1 : Int32} {a2 : Int32} {a3 : Int32} {a4 : Int32} {a5 : Int32} {a6 : Int32} {σ : St} {r : St} (h : f_X10_readStep_45 a0 a1 a2 a3 a4 a5 a6 σ = some r) : VV sa cX10_readStep K_X10_readStep 45 [(0, .ref a0), (1, .int a1), (2, .int a2), (3, .int a3), (4, .int a4), (5, .int a5), (6, .int a6)] [] σ (pU r) 0 0 := by
  unfold f_X10_readStep_45 at h
  refine v_iload_n (dq D_X10_readStep 27 rfl) 1 rfl ?_
  refine v_if_eq (dq D_X10_readStep 28 rfl) rfl (fun c1 => ?_) (fun c1 => ?_)
  · have h := itp h c1
    exact w_X10_readStep_60 h
  · have h := itn h c1
    refine v_iload_n (dq D_X10_readStep 29 rfl) 1 rfl ?_
    refine v_iconst (dq D_X10_readStep 30 rfl) kc_4 ?_
    refine v_icmp_eq (dq D_X10_readStep 31 rfl) rfl (fun c2 => ?_) (fun c2 => ?_)
    · have h := itp h c2
      exact w_X10_readStep_60 h
    · have h := itn h c2
      refine v_aload_n (dq D_X10_readStep 32 rfl) 0 rfl ?_
      obtain ⟨q3, hq3, h⟩ := obi h
      refine v_cVi (bc := 0) (bs := 0) (As := []) (dq D_X10_readStep 33 rfl) cv_X10_readRegister ml_RX10_210 (itg hq3).1 (m_X10_readRegister hq3) rfl rfl (Nat.le_of_ble_eq_true rfl) ⟨Nat.le_of_ble_eq_true rfl, Nat.le_of_ble_eq_true rfl⟩ ⟨Nat.le_of_ble_eq_true rfl, Nat.le_of_ble_eq_true rfl⟩ ?_
      refine v_istore (dq D_X10_readStep 34 rfl) [(4, .int q3.1), (0, .ref a0), (1, .int a1), (2, .int a2), (3, .int a3), (5, .int a5), (6, .int a6)] (Nat.le_of_ble_eq_true rfl) rfl ?_
      exact v_sub [1, 2, 3, 4, 0, 5, 6] rfl (w_X10_readStep_60 h)
theorem w_X10_readStep_36 {sa : Env3} {a0 : Nat} {a1 : Int32} {a2 : Int32} {a3 : Int32} {a4 : Int32} {a5 : Int32} {a6 : Int32} {σ : St} {r : St} (h : f_X10_readStep_36 a0 a1 a2 a3 a4 a5 a6 σ = some r) : VV sa cX10_readStep K_X10_readStep 36 [(0, .ref a0), (1, .int a1), (2, .int a2), (3, .int a3), (4, .int a4), (5, .int a5), (6, .int a6)] [] σ (pU r) 0 0 := by
  unfold f_X10_readStep_36 at h
  refine v_iload_n (dq D_X10_readStep 22 rfl) 1 rfl ?_
  refine v_if_eq (dq D_X10_readStep 23 rfl) rfl (fun c1 => ?_) (fun c1 => ?_)
  · have h := itp h c1
    exact w_X10_readStep_45 h
  · have h := itn h c1
    refine v_aload_n (dq D_X10_readStep 24 rfl) 0 rfl ?_
    obtain ⟨q2, hq2, h⟩ := obi h
    refine v_cVi (bc := 0) (bs := 0) (As := []) (dq D_X10_readStep 25 rfl) cv_X10_readRegister ml_RX10_210 (itg hq2).1 (m_X10_readRegister hq2) rfl rfl (Nat.le_of_ble_eq_true rfl) ⟨Nat.le_of_ble_eq_true rfl, Nat.le_of_ble_eq_true rfl⟩ ⟨Nat.le_of_ble_eq_true rfl, Nat.le_of_ble_eq_true rfl⟩ ?_
    refine v_istore_n (dq D_X10_readStep 26 rfl) [(3, .int q2.1), (0, .ref a0), (1, .int a1), (2, .int a2), (4, .int a4), (5, .int a5), (6, .int a6)] rfl (Nat.le_of_ble_eq_true rfl) rfl ?_
    exact v_sub [1, 2, 3, 0, 4, 5, 6] rfl (w_X10_readStep_45 h)
theorem w_X10_readStep_0 {sa : Env3} {a0 : Nat} {a1 : Int32} {σ : St} {r : St} (h : f_X10_readStep_0 a0 a1 σ = some r) : VV sa cX10_readStep K_X10_readStep 0 [(0, .ref a0), (1, .int a1)] [] σ (pU r) 0 0 := by
  unfold f_X10_readStep_0 at h
  refine v_aload_n (dq D_X10_readStep 0 rfl) 0 rfl ?_
  refine v_aload_n (dq D_X10_readStep 1 rfl) 0 rfl ?_
  obtain ⟨x1, hx1, h⟩ := obi h
  refine v_gR (dq D_X10_readStep 2 rfl) fa_RX10_130 hx1 ?_
  obtain ⟨x2, hx2, h⟩ := obi h
  refine v_gI (dq D_X10_readStep 3 rfl) fa_RX10_146 hx2 ?_
  refine v_bipush (dq D_X10_readStep 4 rfl) kb_24 ?_
  obtain ⟨σ3, hσ3, h⟩ := obi h
  refine v_cVv (bc := 0) (bs := 0) (As := [.int x2, .int 24]) (dq D_X10_readStep 5 rfl) cv_X10_lineBegins ml_RX10_206 (itg hσ3).1 (m_X10_lineBegins hσ3) rfl rfl (Nat.le_of_ble_eq_true rfl) ⟨Nat.le_of_ble_eq_true rfl, Nat.le_of_ble_eq_true rfl⟩ ⟨Nat.le_of_ble_eq_true rfl, Nat.le_of_ble_eq_true rfl⟩ ?_
  refine v_iconst (dq D_X10_readStep 6 rfl) kc_m1 ?_
  refine v_istore_n (dq D_X10_readStep 7 rfl) [(2, .int (-1)), (0, .ref a0), (1, .int a1)] rfl (Nat.le_of_ble_eq_true rfl) rfl ?_
  refine v_iconst (dq D_X10_readStep 8 rfl) kc_m1 ?_
  refine v_istore_n (dq D_X10_readStep 9 rfl) [(3, .int (-1)), (2, .int (-1)), (0, .ref a0), (1, .int a1)] rfl (Nat.le_of_ble_eq_true rfl) rfl ?_
  refine v_iconst (dq D_X10_readStep 10 rfl) kc_m1 ?_
  refine v_istore (dq D_X10_readStep 11 rfl) [(4, .int (-1)), (3, .int (-1)), (2, .int (-1)), (0, .ref a0), (1, .int a1)] (Nat.le_of_ble_eq_true rfl) rfl ?_
  refine v_iconst (dq D_X10_readStep 12 rfl) kc_0 ?_
  refine v_istore (dq D_X10_readStep 13 rfl) [(5, .int 0), (4, .int (-1)), (3, .int (-1)), (2, .int (-1)), (0, .ref a0), (1, .int a1)] (Nat.le_of_ble_eq_true rfl) rfl ?_
  refine v_iconst (dq D_X10_readStep 14 rfl) kc_0 ?_
  refine v_istore (dq D_X10_readStep 15 rfl) [(6, .int 0), (5, .int 0), (4, .int (-1)), (3, .int (-1)), (2, .int (-1)), (0, .ref a0), (1, .int a1)] (Nat.le_of_ble_eq_true rfl) rfl ?_
  refine v_iload_n (dq D_X10_readStep 16 rfl) 6 rfl ?_
  refine v_iconst (dq D_X10_readStep 17 rfl) kc_5 ?_
  refine v_icmp_eq (dq D_X10_readStep 18 rfl) rfl (fun c4 => ?_) (fun c4 => ?_)
  · have h := itp h c4
    exact v_sub [5, 6, 4, 3, 2, 1, 0] rfl (w_X10_readStep_36 h)
  · have h := itn h c4
    refine v_aload_n (dq D_X10_readStep 19 rfl) 5 rfl ?_
    obtain ⟨q5, hq5, h⟩ := obi h
    refine v_cVi (bc := 0) (bs := 0) (As := []) (dq D_X10_readStep 20 rfl) cv_X10_readRegister ml_RX10_210 (itg hq5).1 (m_X10_readRegister hq5) rfl rfl (Nat.le_of_ble_eq_true rfl) ⟨Nat.le_of_ble_eq_true rfl, Nat.le_of_ble_eq_true rfl⟩ ⟨Nat.le_of_ble_eq_true rfl, Nat.le_of_ble_eq_true rfl⟩ ?_
    refine v_istore_n (dq D_X10_readStep 21 rfl) [(2, .int q5.1), (6, .int 0), (5, .int 0), (4, .int (-1)), (3, .int (-1)), (0, .ref a0), (1, .int a1)] rfl (Nat.le_of_ble_eq_true rfl) rfl ?_
    exact v_sub [5, 6, 0, 4, 3, 2, 1] rfl (w_X10_readStep_36 h)
theorem m_X10_readStep {sa : Env3} {a0 : Nat} {a1 : Int32} {σ : St} {r : St} (h : f_X10_readStep a0 a1 σ = some r) : Ex sa yX10_readStep cX10_readStep K_X10_readStep [.ref a0, .int a1] σ (pU r) := Ex.of (by decide) rfl (fun q => nomatch q) (Nat.le_of_ble_eq_true rfl) (w_X10_readStep_0 (itg h).2)
theorem w_X10_readUnsure_85 {sa : Env3} {a0 : Nat} {σ : St} {r : St} (h : f_X10_readUnsure_85 a0 σ = some r) : VV sa cX10_readUnsure K_X10_readUnsure 85 [(0, .ref a0)] [] σ (pU r) 0 0 := by
  unfold f_X10_readUnsure_85 at h
  refine v_aload_n (dq D_X10_readUnsure 41 rfl) 0 rfl ?_
  obtain ⟨x1, hx1, h⟩ := obi h
  refine v_gI (dq D_X10_readUnsure 42 rfl) fa_RX10_91 hx1 ?_
  refine v_istore_n (dq D_X10_readUnsure 43 rfl) [(1, .int x1), (0, .ref a0)] rfl (Nat.le_of_ble_eq_true rfl) rfl ?_
  refine v_aload_n (dq D_X10_readUnsure 44 rfl) 1 rfl ?_
  obtain ⟨σ2, hσ2, h⟩ := obi h
  refine v_cVv (bc := 0) (bs := 0) (As := []) (dq D_X10_readUnsure 45 rfl) cv_X10_goesOn ml_RX10_104 (itg hσ2).1 (m_X10_goesOn hσ2) rfl rfl (Nat.le_of_ble_eq_true rfl) ⟨Nat.le_of_ble_eq_true rfl, Nat.le_of_ble_eq_true rfl⟩ ⟨Nat.le_of_ble_eq_true rfl, Nat.le_of_ble_eq_true rfl⟩ ?_
  refine v_aload_n (dq D_X10_readUnsure 46 rfl) 1 rfl ?_
  refine v_iconst (dq D_X10_readUnsure 47 rfl) kc_0 ?_
  refine v_sipush (dq D_X10_readUnsure 48 rfl) ks_9999 ?_
  obtain ⟨q3, hq3, h⟩ := obi h
  refine v_cVi (bc := 0) (bs := 0) (As := [.int 0, .int 9999]) (dq D_X10_readUnsure 49 rfl) cv_X10_readWhole ml_RX10_127 (itg hq3).1 (m_X10_readWhole hq3) rfl rfl (Nat.le_of_ble_eq_true rfl) ⟨Nat.le_of_ble_eq_true rfl, Nat.le_of_ble_eq_true rfl⟩ ⟨Nat.le_of_ble_eq_true rfl, Nat.le_of_ble_eq_true rfl⟩ ?_
  refine v_istore_n (dq D_X10_readUnsure 50 rfl) [(2, .int q3.1), (1, .int x1), (0, .ref a0)] rfl (Nat.le_of_ble_eq_true rfl) rfl ?_
  refine v_aload_n (dq D_X10_readUnsure 51 rfl) 2 rfl ?_
  obtain ⟨x4, hx4, h⟩ := obi h
  refine v_gI (dq D_X10_readUnsure 52 rfl) fa_RX10_68 hx4 ?_
  refine v_iconst (dq D_X10_readUnsure 53 rfl) kc_5 ?_
  refine v_icmp_ne (dq D_X10_readUnsure 54 rfl) rfl (fun c5 => ?_) (fun c5 => ?_)
  · have h := itn h c5
    refine v_aload_n (dq D_X10_readUnsure 56 rfl) 2 rfl ?_
    obtain ⟨x6, hx6, h⟩ := obi h
    refine v_gR (dq D_X10_readUnsure 57 rfl) fa_RX10_130 hx6 ?_
    obtain ⟨x7, hx7, h⟩ := obi h
    refine v_gR (dq D_X10_readUnsure 58 rfl) fa_RX10_243 hx7 ?_
    refine v_aload_n (dq D_X10_readUnsure 59 rfl) 2 rfl ?_
    obtain ⟨x8, hx8, h⟩ := obi h
    refine v_gR (dq D_X10_readUnsure 60 rfl) fa_RX10_130 hx8 ?_
    obtain ⟨x9, hx9, h⟩ := obi h
    refine v_gI (dq D_X10_readUnsure 61 rfl) fa_RX10_234 hx9 ?_
    refine v_iload_n (dq D_X10_readUnsure 62 rfl) 1 rfl ?_
    obtain ⟨σ10, hσ10, h⟩ := obi h
    refine v_iast (dq D_X10_readUnsure 63 rfl) hσ10 ?_
    refine v_aload_n (dq D_X10_readUnsure 64 rfl) 2 rfl ?_
    obtain ⟨x11, hx11, h⟩ := obi h
    refine v_gR (dq D_X10_readUnsure 65 rfl) fa_RX10_130 hx11 ?_
    obtain ⟨x12, hx12, h⟩ := obi h
    refine v_gR (dq D_X10_readUnsure 66 rfl) fa_RX10_245 hx12 ?_
    refine v_aload_n (dq D_X10_readUnsure 67 rfl) 2 rfl ?_
    obtain ⟨x13, hx13, h⟩ := obi h
    refine v_gR (dq D_X10_readUnsure 68 rfl) fa_RX10_130 hx13 ?_
    obtain ⟨x14, hx14, h⟩ := obi h
    refine v_gI (dq D_X10_readUnsure 69 rfl) fa_RX10_234 hx14 ?_
    refine v_iload_n (dq D_X10_readUnsure 70 rfl) 0 rfl ?_
    obtain ⟨σ15, hσ15, h⟩ := obi h
    refine v_iast (dq D_X10_readUnsure 71 rfl) hσ15 ?_
    refine v_aload_n (dq D_X10_readUnsure 72 rfl) 2 rfl ?_
    obtain ⟨x16, hx16, h⟩ := obi h
    refine v_gR (dq D_X10_readUnsure 73 rfl) fa_RX10_130 hx16 ?_
    refine v_dup (dq D_X10_readUnsure 74 rfl) rfl ?_
    obtain ⟨x17, hx17, h⟩ := obi h
    refine v_gI (dq D_X10_readUnsure 75 rfl) fa_RX10_234 hx17 ?_
    refine v_iconst (dq D_X10_readUnsure 76 rfl) kc_1 ?_
    refine v_iadd (dq D_X10_readUnsure 77 rfl) ?_
    obtain ⟨σ18, hσ18, h⟩ := obi h
    refine v_pI (dq D_X10_readUnsure 78 rfl) fp_RX10_234 hσ18 ?_
    obtain rfl := Option.some.inj h
    exact v_vret (dq D_X10_readUnsure 79 rfl) rfl ⟨rfl, rfl⟩
  · have h := itp h c5
    obtain rfl := Option.some.inj h
    exact v_vret (dq D_X10_readUnsure 55 rfl) rfl ⟨rfl, rfl⟩
theorem w_X10_readUnsure_57 {sa : Env3} {a0 : Nat} {σ : St} {r : St} (h : f_X10_readUnsure_57 a0 σ = some r) : VV sa cX10_readUnsure K_X10_readUnsure 57 [(0, .ref a0)] [] σ (pU r) 0 0 := by
  unfold f_X10_readUnsure_57 at h
  refine v_aload_n (dq D_X10_readUnsure 27 rfl) 0 rfl ?_
  refine v_iconst (dq D_X10_readUnsure 28 rfl) kc_2 ?_
  obtain ⟨σ1, hσ1, h⟩ := obi h
  refine v_cVv (bc := 0) (bs := 0) (As := [.int 2]) (dq D_X10_readUnsure 29 rfl) cv_X10_flaw ml_RX10_111 (itg hσ1).1 (m_X10_flaw hσ1) rfl rfl (Nat.le_of_ble_eq_true rfl) ⟨Nat.le_of_ble_eq_true rfl, Nat.le_of_ble_eq_true rfl⟩ ⟨Nat.le_of_ble_eq_true rfl, Nat.le_of_ble_eq_true rfl⟩ ?_
  refine v_goto (dq D_X10_readUnsure 30 rfl) rfl ?_
  exact w_X10_readUnsure_85 h
theorem w_X10_readUnsure_0 {sa : Env3} {a0 : Nat} {σ : St} {r : St} (h : f_X10_readUnsure_0 a0 σ = some r) : VV sa cX10_readUnsure K_X10_readUnsure 0 [(0, .ref a0)] [] σ (pU r) 0 0 := by
  unfold f_X10_readUnsure_0 at h
  refine v_aload_n (dq D_X10_readUnsure 0 rfl) 0 rfl ?_
  refine v_aload_n (dq D_X10_readUnsure 1 rfl) 0 rfl ?_
  obtain ⟨x1, hx1, h⟩ := obi h
  refine v_gR (dq D_X10_readUnsure 2 rfl) fa_RX10_130 hx1 ?_
  obtain ⟨x2, hx2, h⟩ := obi h
  refine v_gI (dq D_X10_readUnsure 3 rfl) fa_RX10_234 hx2 ?_
  refine v_iconst (dq D_X10_readUnsure 4 rfl) kc_4 ?_
  obtain ⟨σ3, hσ3, h⟩ := obi h
  refine v_cVv (bc := 0) (bs := 0) (As := [.int x2, .int 4]) (dq D_X10_readUnsure 5 rfl) cv_X10_lineBegins ml_RX10_206 (itg hσ3).1 (m_X10_lineBegins hσ3) rfl rfl (Nat.le_of_ble_eq_true rfl) ⟨Nat.le_of_ble_eq_true rfl, Nat.le_of_ble_eq_true rfl⟩ ⟨Nat.le_of_ble_eq_true rfl, Nat.le_of_ble_eq_true rfl⟩ ?_
  refine v_aload_n (dq D_X10_readUnsure 6 rfl) 0 rfl ?_
  obtain ⟨x4, hx4, h⟩ := obi h
  refine v_gI (dq D_X10_readUnsure 7 rfl) fa_RX10_68 hx4 ?_
  refine v_iconst (dq D_X10_readUnsure 8 rfl) kc_3 ?_
  refine v_icmp_eq (dq D_X10_readUnsure 9 rfl) rfl (fun c5 => ?_) (fun c5 => ?_)
  · have h := itp h c5
    refine v_aload_n (dq D_X10_readUnsure 14 rfl) 0 rfl ?_
    obtain ⟨x6, hx6, h⟩ := obi h
    refine v_gR (dq D_X10_readUnsure 15 rfl) fa_RX10_130 hx6 ?_
    refine v_aload_n (dq D_X10_readUnsure 16 rfl) 0 rfl ?_
    obtain ⟨x7, hx7, h⟩ := obi h
    refine v_gI (dq D_X10_readUnsure 17 rfl) fa_RX10_91 hx7 ?_
    obtain ⟨q8, hq8, h⟩ := obi h
    refine v_cVi (bc := 0) (bs := 0) (As := [.int x7]) (dq D_X10_readUnsure 18 rfl) cv_X9_isStep ml_RX10_237 (itg hq8).1 (m_X9_isStep hq8) rfl rfl (Nat.le_of_ble_eq_true rfl) ⟨Nat.le_of_ble_eq_true rfl, Nat.le_of_ble_eq_true rfl⟩ ⟨Nat.le_of_ble_eq_true rfl, Nat.le_of_ble_eq_true rfl⟩ ?_
    refine v_if_eq (dq D_X10_readUnsure 19 rfl) rfl (fun c9 => ?_) (fun c9 => ?_)
    · have h := itp h c9
      exact w_X10_readUnsure_57 h
    · have h := itn h c9
      refine v_aload_n (dq D_X10_readUnsure 20 rfl) 0 rfl ?_
      obtain ⟨x10, hx10, h⟩ := obi h
      refine v_gR (dq D_X10_readUnsure 21 rfl) fa_RX10_130 hx10 ?_
      obtain ⟨x11, hx11, h⟩ := obi h
      refine v_gR (dq D_X10_readUnsure 22 rfl) fa_RX10_217 hx11 ?_
      refine v_aload_n (dq D_X10_readUnsure 23 rfl) 0 rfl ?_
      obtain ⟨x12, hx12, h⟩ := obi h
      refine v_gI (dq D_X10_readUnsure 24 rfl) fa_RX10_91 hx12 ?_
      obtain ⟨x13, hx13, h⟩ := obi h
      refine v_iald (dq D_X10_readUnsure 25 rfl) hx13 ?_
      refine v_if_eq (dq D_X10_readUnsure 26 rfl) rfl (fun c14 => ?_) (fun c14 => ?_)
      · have h := itp h c14
        refine v_aload_n (dq D_X10_readUnsure 31 rfl) 0 rfl ?_
        obtain ⟨x15, hx15, h⟩ := obi h
        refine v_gR (dq D_X10_readUnsure 32 rfl) fa_RX10_130 hx15 ?_
        refine v_aload_n (dq D_X10_readUnsure 33 rfl) 0 rfl ?_
        obtain ⟨x16, hx16, h⟩ := obi h
        refine v_gI (dq D_X10_readUnsure 34 rfl) fa_RX10_91 hx16 ?_
        obtain ⟨q17, hq17, h⟩ := obi h
        refine v_cVi (bc := 0) (bs := 0) (As := [.int x16]) (dq D_X10_readUnsure 35 rfl) cv_X9_unsureOf ml_RX10_240 (itg hq17).1 (m_X9_unsureOf hq17) rfl rfl (Nat.le_of_ble_eq_true rfl) ⟨Nat.le_of_ble_eq_true rfl, Nat.le_of_ble_eq_true rfl⟩ ⟨Nat.le_of_ble_eq_true rfl, Nat.le_of_ble_eq_true rfl⟩ ?_
        refine v_iconst (dq D_X10_readUnsure 36 rfl) kc_m1 ?_
        refine v_icmp_eq (dq D_X10_readUnsure 37 rfl) rfl (fun c18 => ?_) (fun c18 => ?_)
        · have h := itp h c18
          exact w_X10_readUnsure_85 h
        · have h := itn h c18
          refine v_aload_n (dq D_X10_readUnsure 38 rfl) 0 rfl ?_
          refine v_iconst (dq D_X10_readUnsure 39 rfl) kc_3 ?_
          obtain ⟨σ19, hσ19, h⟩ := obi h
          refine v_cVv (bc := 0) (bs := 0) (As := [.int 3]) (dq D_X10_readUnsure 40 rfl) cv_X10_flaw ml_RX10_111 (itg hσ19).1 (m_X10_flaw hσ19) rfl rfl (Nat.le_of_ble_eq_true rfl) ⟨Nat.le_of_ble_eq_true rfl, Nat.le_of_ble_eq_true rfl⟩ ⟨Nat.le_of_ble_eq_true rfl, Nat.le_of_ble_eq_true rfl⟩ ?_
          exact w_X10_readUnsure_85 h
      · have h := itn h c14
        exact w_X10_readUnsure_57 h
  · have h := itn h c5
    refine v_aload_n (dq D_X10_readUnsure 10 rfl) 0 rfl ?_
    refine v_iconst (dq D_X10_readUnsure 11 rfl) kc_1 ?_
    obtain ⟨σ20, hσ20, h⟩ := obi h
    refine v_cVv (bc := 0) (bs := 0) (As := [.int 1]) (dq D_X10_readUnsure 12 rfl) cv_X10_flaw ml_RX10_111 (itg hσ20).1 (m_X10_flaw hσ20) rfl rfl (Nat.le_of_ble_eq_true rfl) ⟨Nat.le_of_ble_eq_true rfl, Nat.le_of_ble_eq_true rfl⟩ ⟨Nat.le_of_ble_eq_true rfl, Nat.le_of_ble_eq_true rfl⟩ ?_
    refine v_goto (dq D_X10_readUnsure 13 rfl) rfl ?_
    exact w_X10_readUnsure_85 h
theorem m_X10_readUnsure {sa : Env3} {a0 : Nat} {σ : St} {r : St} (h : f_X10_readUnsure a0 σ = some r) : Ex sa yX10_readUnsure cX10_readUnsure K_X10_readUnsure [.ref a0] σ (pU r) := Ex.of (by decide) rfl (fun q => nomatch q) (Nat.le_of_ble_eq_true rfl) (w_X10_readUnsure_0 (itg h).2)
theorem w_X9_isGot_2 {sa : Env3} : ∀ (n : Nat) {a0 : Nat} {a1 : Int32} {a2 : Int32} {σ : St} {r : Int32 × St}, f_X9_isGot_2 n a0 a1 a2 σ = some r → VV sa cX9_isGot K_X9_isGot 2 [(0, .ref a0), (1, .int a1), (2, .int a2)] [] σ (pO r) 0 0 := by
  intro n
  induction n with
  | zero => intro a0 a1 a2 σ r h; cases h
  | succ n ih =>
    intro a0 a1 a2 σ r h
    rw [e_X9_isGot_2] at h
    refine v_iload_n (dq D_X9_isGot 2 rfl) 2 rfl ?_
    refine v_aload_n (dq D_X9_isGot 3 rfl) 0 rfl ?_
    obtain ⟨x1, hx1, h⟩ := obi h
    refine v_gI (dq D_X9_isGot 4 rfl) fa_RX9_50 hx1 ?_
    refine v_icmp_ge (dq D_X9_isGot 5 rfl) rfl (fun c2 => ?_) (fun c2 => ?_)
    · have h := itp h c2
      refine v_iconst (dq D_X9_isGot 16 rfl) kc_0 ?_
      obtain rfl := Option.some.inj h
      exact v_zret (dq D_X9_isGot 17 rfl) rfl rfl ⟨rfl, rfl⟩
    · have h := itn h c2
      refine v_aload_n (dq D_X9_isGot 6 rfl) 0 rfl ?_
      obtain ⟨x3, hx3, h⟩ := obi h
      refine v_gR (dq D_X9_isGot 7 rfl) fa_RX9_37 hx3 ?_
      refine v_iload_n (dq D_X9_isGot 8 rfl) 2 rfl ?_
      obtain ⟨x4, hx4, h⟩ := obi h
      refine v_iald (dq D_X9_isGot 9 rfl) hx4 ?_
      refine v_iload_n (dq D_X9_isGot 10 rfl) 1 rfl ?_
      refine v_icmp_ne (dq D_X9_isGot 11 rfl) rfl (fun c5 => ?_) (fun c5 => ?_)
      · have h := itn h c5
        refine v_iinc (dq D_X9_isGot 14 rfl) 2 [(2, .int (a2 + 1)), (0, .ref a0), (1, .int a1)] rfl kc_1 (Nat.le_of_ble_eq_true rfl) rfl ?_
        refine v_goto (dq D_X9_isGot 15 rfl) rfl ?_
        exact v_sub [1, 2, 0] rfl (ih h)
      · have h := itp h c5
        refine v_iconst (dq D_X9_isGot 12 rfl) kc_1 ?_
        obtain rfl := Option.some.inj h
        exact v_zret (dq D_X9_isGot 13 rfl) rfl rfl ⟨rfl, rfl⟩
theorem w_X9_isGot_0 {sa : Env3} {a0 : Nat} {a1 : Int32} {σ : St} {r : Int32 × St} (h : f_X9_isGot_0 a0 a1 σ = some r) : VV sa cX9_isGot K_X9_isGot 0 [(0, .ref a0), (1, .int a1)] [] σ (pO r) 0 0 := by
  unfold f_X9_isGot_0 at h
  refine v_iconst (dq D_X9_isGot 0 rfl) kc_0 ?_
  refine v_istore_n (dq D_X9_isGot 1 rfl) [(2, .int 0), (0, .ref a0), (1, .int a1)] rfl (Nat.le_of_ble_eq_true rfl) rfl ?_
  exact v_sub [1, 2, 0] rfl (w_X9_isGot_2 _ h)
theorem m_X9_isGot {sa : Env3} {a0 : Nat} {a1 : Int32} {σ : St} {r : Int32 × St} (h : f_X9_isGot a0 a1 σ = some r) : Ex sa yX9_isGot cX9_isGot K_X9_isGot [.ref a0, .int a1] σ (pO r) := Ex.of (by decide) rfl (fun q => nomatch q) (Nat.le_of_ble_eq_true rfl) (w_X9_isGot_0 (itg h).2)
theorem w_X10_readGot_45 {sa : Env3} {a0 : Nat} {a1 : Int32} {σ : St} {r : St} (h : f_X10_readGot_45 a0 a1 σ = some r) : VV sa cX10_readGot K_X10_readGot 45 [(0, .ref a0), (1, .int a1)] [] σ (pU r) 0 0 := by
  unfold f_X10_readGot_45 at h
  refine v_aload_n (dq D_X10_readGot 23 rfl) 0 rfl ?_
  obtain ⟨σ1, hσ1, h⟩ := obi h
  refine v_cVv (bc := 0) (bs := 0) (As := []) (dq D_X10_readGot 24 rfl) cv_X10_goesOn ml_RX10_104 (itg hσ1).1 (m_X10_goesOn hσ1) rfl rfl (Nat.le_of_ble_eq_true rfl) ⟨Nat.le_of_ble_eq_true rfl, Nat.le_of_ble_eq_true rfl⟩ ⟨Nat.le_of_ble_eq_true rfl, Nat.le_of_ble_eq_true rfl⟩ ?_
  refine v_aload_n (dq D_X10_readGot 25 rfl) 0 rfl ?_
  refine v_iconst (dq D_X10_readGot 26 rfl) kc_0 ?_
  refine v_sipush (dq D_X10_readGot 27 rfl) ks_9999 ?_
  obtain ⟨q2, hq2, h⟩ := obi h
  refine v_cVi (bc := 0) (bs := 0) (As := [.int 0, .int 9999]) (dq D_X10_readGot 28 rfl) cv_X10_readWhole ml_RX10_127 (itg hq2).1 (m_X10_readWhole hq2) rfl rfl (Nat.le_of_ble_eq_true rfl) ⟨Nat.le_of_ble_eq_true rfl, Nat.le_of_ble_eq_true rfl⟩ ⟨Nat.le_of_ble_eq_true rfl, Nat.le_of_ble_eq_true rfl⟩ ?_
  refine v_istore_n (dq D_X10_readGot 29 rfl) [(2, .int q2.1), (0, .ref a0), (1, .int a1)] rfl (Nat.le_of_ble_eq_true rfl) rfl ?_
  refine v_aload_n (dq D_X10_readGot 30 rfl) 1 rfl ?_
  obtain ⟨x3, hx3, h⟩ := obi h
  refine v_gI (dq D_X10_readGot 31 rfl) fa_RX10_68 hx3 ?_
  refine v_iconst (dq D_X10_readGot 32 rfl) kc_5 ?_
  refine v_icmp_ne (dq D_X10_readGot 33 rfl) rfl (fun c4 => ?_) (fun c4 => ?_)
  · have h := itn h c4
    refine v_aload_n (dq D_X10_readGot 35 rfl) 1 rfl ?_
    obtain ⟨x5, hx5, h⟩ := obi h
    refine v_gR (dq D_X10_readGot 36 rfl) fa_RX10_130 hx5 ?_
    obtain ⟨x6, hx6, h⟩ := obi h
    refine v_gR (dq D_X10_readGot 37 rfl) fa_RX10_254 hx6 ?_
    refine v_aload_n (dq D_X10_readGot 38 rfl) 1 rfl ?_
    obtain ⟨x7, hx7, h⟩ := obi h
    refine v_gR (dq D_X10_readGot 39 rfl) fa_RX10_130 hx7 ?_
    obtain ⟨x8, hx8, h⟩ := obi h
    refine v_gI (dq D_X10_readGot 40 rfl) fa_RX10_248 hx8 ?_
    refine v_iload_n (dq D_X10_readGot 41 rfl) 2 rfl ?_
    obtain ⟨σ9, hσ9, h⟩ := obi h
    refine v_iast (dq D_X10_readGot 42 rfl) hσ9 ?_
    refine v_aload_n (dq D_X10_readGot 43 rfl) 1 rfl ?_
    obtain ⟨x10, hx10, h⟩ := obi h
    refine v_gR (dq D_X10_readGot 44 rfl) fa_RX10_130 hx10 ?_
    obtain ⟨x11, hx11, h⟩ := obi h
    refine v_gR (dq D_X10_readGot 45 rfl) fa_RX10_256 hx11 ?_
    refine v_aload_n (dq D_X10_readGot 46 rfl) 1 rfl ?_
    obtain ⟨x12, hx12, h⟩ := obi h
    refine v_gR (dq D_X10_readGot 47 rfl) fa_RX10_130 hx12 ?_
    obtain ⟨x13, hx13, h⟩ := obi h
    refine v_gI (dq D_X10_readGot 48 rfl) fa_RX10_248 hx13 ?_
    refine v_iload_n (dq D_X10_readGot 49 rfl) 0 rfl ?_
    obtain ⟨σ14, hσ14, h⟩ := obi h
    refine v_iast (dq D_X10_readGot 50 rfl) hσ14 ?_
    refine v_aload_n (dq D_X10_readGot 51 rfl) 1 rfl ?_
    obtain ⟨x15, hx15, h⟩ := obi h
    refine v_gR (dq D_X10_readGot 52 rfl) fa_RX10_130 hx15 ?_
    refine v_dup (dq D_X10_readGot 53 rfl) rfl ?_
    obtain ⟨x16, hx16, h⟩ := obi h
    refine v_gI (dq D_X10_readGot 54 rfl) fa_RX10_248 hx16 ?_
    refine v_iconst (dq D_X10_readGot 55 rfl) kc_1 ?_
    refine v_iadd (dq D_X10_readGot 56 rfl) ?_
    obtain ⟨σ17, hσ17, h⟩ := obi h
    refine v_pI (dq D_X10_readGot 57 rfl) fp_RX10_248 hσ17 ?_
    obtain rfl := Option.some.inj h
    exact v_vret (dq D_X10_readGot 58 rfl) rfl ⟨rfl, rfl⟩
  · have h := itp h c4
    obtain rfl := Option.some.inj h
    exact v_vret (dq D_X10_readGot 34 rfl) rfl ⟨rfl, rfl⟩
theorem w_X10_readGot_0 {sa : Env3} {a0 : Nat} {σ : St} {r : St} (h : f_X10_readGot_0 a0 σ = some r) : VV sa cX10_readGot K_X10_readGot 0 [(0, .ref a0)] [] σ (pU r) 0 0 := by
  unfold f_X10_readGot_0 at h
  refine v_aload_n (dq D_X10_readGot 0 rfl) 0 rfl ?_
  refine v_aload_n (dq D_X10_readGot 1 rfl) 0 rfl ?_
  obtain ⟨x1, hx1, h⟩ := obi h
  refine v_gR (dq D_X10_readGot 2 rfl) fa_RX10_130 hx1 ?_
  obtain ⟨x2, hx2, h⟩ := obi h
  refine v_gI (dq D_X10_readGot 3 rfl) fa_RX10_248 hx2 ?_
  refine v_bipush (dq D_X10_readGot 4 rfl) kb_6 ?_
  obtain ⟨σ3, hσ3, h⟩ := obi h
  refine v_cVv (bc := 0) (bs := 0) (As := [.int x2, .int 6]) (dq D_X10_readGot 5 rfl) cv_X10_lineBegins ml_RX10_206 (itg hσ3).1 (m_X10_lineBegins hσ3) rfl rfl (Nat.le_of_ble_eq_true rfl) ⟨Nat.le_of_ble_eq_true rfl, Nat.le_of_ble_eq_true rfl⟩ ⟨Nat.le_of_ble_eq_true rfl, Nat.le_of_ble_eq_true rfl⟩ ?_
  refine v_aload_n (dq D_X10_readGot 6 rfl) 0 rfl ?_
  refine v_iconst (dq D_X10_readGot 7 rfl) kc_0 ?_
  refine v_bipush (dq D_X10_readGot 8 rfl) kb_7 ?_
  obtain ⟨q4, hq4, h⟩ := obi h
  refine v_cVi (bc := 0) (bs := 0) (As := [.int 0, .int 7]) (dq D_X10_readGot 9 rfl) cv_X10_wholeAt ml_RX10_119 (itg hq4).1 (m_X10_wholeAt hq4) rfl rfl (Nat.le_of_ble_eq_true rfl) ⟨Nat.le_of_ble_eq_true rfl, Nat.le_of_ble_eq_true rfl⟩ ⟨Nat.le_of_ble_eq_true rfl, Nat.le_of_ble_eq_true rfl⟩ ?_
  refine v_istore_n (dq D_X10_readGot 10 rfl) [(1, .int q4.1), (0, .ref a0)] rfl (Nat.le_of_ble_eq_true rfl) rfl ?_
  refine v_aload_n (dq D_X10_readGot 11 rfl) 1 rfl ?_
  obtain ⟨x5, hx5, h⟩ := obi h
  refine v_gI (dq D_X10_readGot 12 rfl) fa_RX10_68 hx5 ?_
  refine v_iconst (dq D_X10_readGot 13 rfl) kc_5 ?_
  refine v_icmp_eq (dq D_X10_readGot 14 rfl) rfl (fun c6 => ?_) (fun c6 => ?_)
  · have h := itp h c6
    exact v_sub [1, 0] rfl (w_X10_readGot_45 h)
  · have h := itn h c6
    refine v_aload_n (dq D_X10_readGot 15 rfl) 1 rfl ?_
    obtain ⟨x7, hx7, h⟩ := obi h
    refine v_gR (dq D_X10_readGot 16 rfl) fa_RX10_130 hx7 ?_
    refine v_iload_n (dq D_X10_readGot 17 rfl) 0 rfl ?_
    obtain ⟨q8, hq8, h⟩ := obi h
    refine v_cVi (bc := 0) (bs := 0) (As := [.int q4.1]) (dq D_X10_readGot 18 rfl) cv_X9_isGot ml_RX10_251 (itg hq8).1 (m_X9_isGot hq8) rfl rfl (Nat.le_of_ble_eq_true rfl) ⟨Nat.le_of_ble_eq_true rfl, Nat.le_of_ble_eq_true rfl⟩ ⟨Nat.le_of_ble_eq_true rfl, Nat.le_of_ble_eq_true rfl⟩ ?_
    refine v_if_eq (dq D_X10_readGot 19 rfl) rfl (fun c9 => ?_) (fun c9 => ?_)
    · have h := itp h c9
      exact v_sub [1, 0] rfl (w_X10_readGot_45 h)
    · have h := itn h c9
      refine v_aload_n (dq D_X10_readGot 20 rfl) 1 rfl ?_
      refine v_iconst (dq D_X10_readGot 21 rfl) kc_3 ?_
      obtain ⟨σ10, hσ10, h⟩ := obi h
      refine v_cVv (bc := 0) (bs := 0) (As := [.int 3]) (dq D_X10_readGot 22 rfl) cv_X10_flaw ml_RX10_111 (itg hσ10).1 (m_X10_flaw hσ10) rfl rfl (Nat.le_of_ble_eq_true rfl) ⟨Nat.le_of_ble_eq_true rfl, Nat.le_of_ble_eq_true rfl⟩ ⟨Nat.le_of_ble_eq_true rfl, Nat.le_of_ble_eq_true rfl⟩ ?_
      exact v_sub [1, 0] rfl (w_X10_readGot_45 h)
theorem m_X10_readGot {sa : Env3} {a0 : Nat} {σ : St} {r : St} (h : f_X10_readGot a0 σ = some r) : Ex sa yX10_readGot cX10_readGot K_X10_readGot [.ref a0] σ (pU r) := Ex.of (by decide) rfl (fun q => nomatch q) (Nat.le_of_ble_eq_true rfl) (w_X10_readGot_0 (itg h).2)
theorem w_X10_readLine_72 {sa : Env3}  {σ : St} {r : St} (h : f_X10_readLine_72  σ = some r) : VV sa cX10_readLine K_X10_readLine 72 [] [] σ (pU r) 0 0 := by
  unfold f_X10_readLine_72 at h
  obtain rfl := Option.some.inj h
  exact v_vret (dq D_X10_readLine 33 rfl) rfl ⟨rfl, rfl⟩
theorem w_X10_readLine_0 {sa : Env3} {a0 : Nat} {σ : St} {r : St} (h : f_X10_readLine_0 a0 σ = some r) : VV sa cX10_readLine K_X10_readLine 0 [(0, .ref a0)] [] σ (pU r) 0 0 := by
  unfold f_X10_readLine_0 at h
  refine v_aload_n (dq D_X10_readLine 0 rfl) 0 rfl ?_
  refine v_ldcS (dq D_X10_readLine 1 rfl) (str_in 17 rfl) ?_
  obtain ⟨q1, hq1, h⟩ := obi h
  refine v_cVi (bc := 0) (bs := 0) (As := [.ref (sa.1 17)]) (dq D_X10_readLine 2 rfl) cv_X10_isWord ml_RX10_107 (itg hq1).1 (m_X10_isWord hq1) rfl rfl (Nat.le_of_ble_eq_true rfl) ⟨Nat.le_of_ble_eq_true rfl, Nat.le_of_ble_eq_true rfl⟩ ⟨Nat.le_of_ble_eq_true rfl, Nat.le_of_ble_eq_true rfl⟩ ?_
  refine v_if_eq (dq D_X10_readLine 3 rfl) rfl (fun c2 => ?_) (fun c2 => ?_)
  · have h := itp h c2
    refine v_aload_n (dq D_X10_readLine 7 rfl) 0 rfl ?_
    obtain ⟨q3, hq3, h⟩ := obi h
    refine v_cVi (bc := 0) (bs := 0) (As := []) (dq D_X10_readLine 8 rfl) cv_X10_kindAtHand ml_RX10_166 (itg hq3).1 (m_X10_kindAtHand hq3) rfl rfl (Nat.le_of_ble_eq_true rfl) ⟨Nat.le_of_ble_eq_true rfl, Nat.le_of_ble_eq_true rfl⟩ ⟨Nat.le_of_ble_eq_true rfl, Nat.le_of_ble_eq_true rfl⟩ ?_
    refine v_iconst (dq D_X10_readLine 9 rfl) kc_m1 ?_
    refine v_icmp_eq (dq D_X10_readLine 10 rfl) rfl (fun c4 => ?_) (fun c4 => ?_)
    · have h := itp h c4
      refine v_aload_n (dq D_X10_readLine 16 rfl) 0 rfl ?_
      refine v_ldcS (dq D_X10_readLine 17 rfl) (str_in 32 rfl) ?_
      obtain ⟨q5, hq5, h⟩ := obi h
      refine v_cVi (bc := 0) (bs := 0) (As := [.ref (sa.1 32)]) (dq D_X10_readLine 18 rfl) cv_X10_isWord ml_RX10_107 (itg hq5).1 (m_X10_isWord hq5) rfl rfl (Nat.le_of_ble_eq_true rfl) ⟨Nat.le_of_ble_eq_true rfl, Nat.le_of_ble_eq_true rfl⟩ ⟨Nat.le_of_ble_eq_true rfl, Nat.le_of_ble_eq_true rfl⟩ ?_
      refine v_if_eq (dq D_X10_readLine 19 rfl) rfl (fun c6 => ?_) (fun c6 => ?_)
      · have h := itp h c6
        refine v_aload_n (dq D_X10_readLine 23 rfl) 0 rfl ?_
        refine v_ldcS (dq D_X10_readLine 24 rfl) (str_in 33 rfl) ?_
        obtain ⟨q7, hq7, h⟩ := obi h
        refine v_cVi (bc := 0) (bs := 0) (As := [.ref (sa.1 33)]) (dq D_X10_readLine 25 rfl) cv_X10_isWord ml_RX10_107 (itg hq7).1 (m_X10_isWord hq7) rfl rfl (Nat.le_of_ble_eq_true rfl) ⟨Nat.le_of_ble_eq_true rfl, Nat.le_of_ble_eq_true rfl⟩ ⟨Nat.le_of_ble_eq_true rfl, Nat.le_of_ble_eq_true rfl⟩ ?_
        refine v_if_eq (dq D_X10_readLine 26 rfl) rfl (fun c8 => ?_) (fun c8 => ?_)
        · have h := itp h c8
          refine v_aload_n (dq D_X10_readLine 30 rfl) 0 rfl ?_
          refine v_iconst (dq D_X10_readLine 31 rfl) kc_1 ?_
          obtain ⟨σ9, hσ9, h⟩ := obi h
          refine v_cVv (bc := 0) (bs := 0) (As := [.int 1]) (dq D_X10_readLine 32 rfl) cv_X10_flaw ml_RX10_111 (itg hσ9).1 (m_X10_flaw hσ9) rfl rfl (Nat.le_of_ble_eq_true rfl) ⟨Nat.le_of_ble_eq_true rfl, Nat.le_of_ble_eq_true rfl⟩ ⟨Nat.le_of_ble_eq_true rfl, Nat.le_of_ble_eq_true rfl⟩ ?_
          exact v_sub [] rfl (w_X10_readLine_72 h)
        · have h := itn h c8
          refine v_aload_n (dq D_X10_readLine 27 rfl) 0 rfl ?_
          obtain ⟨σ10, hσ10, h⟩ := obi h
          refine v_cVv (bc := 0) (bs := 0) (As := []) (dq D_X10_readLine 28 rfl) cv_X10_readGot ml_RX10_179 (itg hσ10).1 (m_X10_readGot hσ10) rfl rfl (Nat.le_of_ble_eq_true rfl) ⟨Nat.le_of_ble_eq_true rfl, Nat.le_of_ble_eq_true rfl⟩ ⟨Nat.le_of_ble_eq_true rfl, Nat.le_of_ble_eq_true rfl⟩ ?_
          refine v_goto (dq D_X10_readLine 29 rfl) rfl ?_
          exact v_sub [] rfl (w_X10_readLine_72 h)
      · have h := itn h c6
        refine v_aload_n (dq D_X10_readLine 20 rfl) 0 rfl ?_
        obtain ⟨σ11, hσ11, h⟩ := obi h
        refine v_cVv (bc := 0) (bs := 0) (As := []) (dq D_X10_readLine 21 rfl) cv_X10_readUnsure ml_RX10_174 (itg hσ11).1 (m_X10_readUnsure hσ11) rfl rfl (Nat.le_of_ble_eq_true rfl) ⟨Nat.le_of_ble_eq_true rfl, Nat.le_of_ble_eq_true rfl⟩ ⟨Nat.le_of_ble_eq_true rfl, Nat.le_of_ble_eq_true rfl⟩ ?_
        refine v_goto (dq D_X10_readLine 22 rfl) rfl ?_
        exact v_sub [] rfl (w_X10_readLine_72 h)
    · have h := itn h c4
      refine v_aload_n (dq D_X10_readLine 11 rfl) 0 rfl ?_
      refine v_aload_n (dq D_X10_readLine 12 rfl) 0 rfl ?_
      obtain ⟨q12, hq12, h⟩ := obi h
      refine v_cVi (bc := 0) (bs := 0) (As := []) (dq D_X10_readLine 13 rfl) cv_X10_kindAtHand ml_RX10_166 (itg hq12).1 (m_X10_kindAtHand hq12) rfl rfl (Nat.le_of_ble_eq_true rfl) ⟨Nat.le_of_ble_eq_true rfl, Nat.le_of_ble_eq_true rfl⟩ ⟨Nat.le_of_ble_eq_true rfl, Nat.le_of_ble_eq_true rfl⟩ ?_
      obtain ⟨σ13, hσ13, h⟩ := obi h
      refine v_cVv (bc := 0) (bs := 0) (As := [.int q12.1]) (dq D_X10_readLine 14 rfl) cv_X10_readStep ml_RX10_169 (itg hσ13).1 (m_X10_readStep hσ13) rfl rfl (Nat.le_of_ble_eq_true rfl) ⟨Nat.le_of_ble_eq_true rfl, Nat.le_of_ble_eq_true rfl⟩ ⟨Nat.le_of_ble_eq_true rfl, Nat.le_of_ble_eq_true rfl⟩ ?_
      refine v_goto (dq D_X10_readLine 15 rfl) rfl ?_
      exact v_sub [] rfl (w_X10_readLine_72 h)
  · have h := itn h c2
    refine v_aload_n (dq D_X10_readLine 4 rfl) 0 rfl ?_
    obtain ⟨σ14, hσ14, h⟩ := obi h
    refine v_cVv (bc := 0) (bs := 0) (As := []) (dq D_X10_readLine 5 rfl) cv_X10_readCore ml_RX10_163 (itg hσ14).1 (m_X10_readCore hσ14) rfl rfl (Nat.le_of_ble_eq_true rfl) ⟨Nat.le_of_ble_eq_true rfl, Nat.le_of_ble_eq_true rfl⟩ ⟨Nat.le_of_ble_eq_true rfl, Nat.le_of_ble_eq_true rfl⟩ ?_
    refine v_goto (dq D_X10_readLine 6 rfl) rfl ?_
    exact v_sub [] rfl (w_X10_readLine_72 h)
theorem m_X10_readLine {sa : Env3} {a0 : Nat} {σ : St} {r : St} (h : f_X10_readLine a0 σ = some r) : Ex sa yX10_readLine cX10_readLine K_X10_readLine [.ref a0] σ (pU r) := Ex.of (by decide) rfl (fun q => nomatch q) (Nat.le_of_ble_eq_true rfl) (w_X10_readLine_0 (itg h).2)
theorem w_X10_eatsSemicolon_22 {sa : Env3} {a1 : Int32} {σ : St} {r : Int32 × St} (h : f_X10_eatsSemicolon_22 a1 σ = some r) : VV sa cX10_eatsSemicolon K_X10_eatsSemicolon 22 [(1, .int a1)] [] σ (pO r) 0 0 := by
  unfold f_X10_eatsSemicolon_22 at h
  refine v_iload_n (dq D_X10_eatsSemicolon 12 rfl) 0 rfl ?_
  have hz := (itg h).1
  have h := (itg h).2
  obtain rfl := Option.some.inj h
  exact v_zret (dq D_X10_eatsSemicolon 13 rfl) rfl (z_nar hz) ⟨rfl, rfl⟩
theorem w_X10_eatsSemicolon_13 {sa : Env3} {a0 : Nat} {s0 : Int32} {σ : St} {r : Int32 × St} (h : f_X10_eatsSemicolon_13 a0 s0 σ = some r) : VV sa cX10_eatsSemicolon K_X10_eatsSemicolon 13 [(0, .ref a0)] [.int s0] σ (pO r) 0 0 := by
  unfold f_X10_eatsSemicolon_13 at h
  refine v_istore_n (dq D_X10_eatsSemicolon 7 rfl) [(1, .int s0), (0, .ref a0)] rfl (Nat.le_of_ble_eq_true rfl) rfl ?_
  refine v_iload_n (dq D_X10_eatsSemicolon 8 rfl) 0 rfl ?_
  refine v_if_eq (dq D_X10_eatsSemicolon 9 rfl) rfl (fun c1 => ?_) (fun c1 => ?_)
  · have h := itp h c1
    exact v_sub [0] rfl (w_X10_eatsSemicolon_22 h)
  · have h := itn h c1
    refine v_aload_n (dq D_X10_eatsSemicolon 10 rfl) 1 rfl ?_
    obtain ⟨σ2, hσ2, h⟩ := obi h
    refine v_cVv (bc := 0) (bs := 0) (As := []) (dq D_X10_eatsSemicolon 11 rfl) cv_X10_goesOn ml_RX10_104 (itg hσ2).1 (m_X10_goesOn hσ2) rfl rfl (Nat.le_of_ble_eq_true rfl) ⟨Nat.le_of_ble_eq_true rfl, Nat.le_of_ble_eq_true rfl⟩ ⟨Nat.le_of_ble_eq_true rfl, Nat.le_of_ble_eq_true rfl⟩ ?_
    exact v_sub [0] rfl (w_X10_eatsSemicolon_22 h)
theorem w_X10_eatsSemicolon_0 {sa : Env3} {a0 : Nat} {σ : St} {r : Int32 × St} (h : f_X10_eatsSemicolon_0 a0 σ = some r) : VV sa cX10_eatsSemicolon K_X10_eatsSemicolon 0 [(0, .ref a0)] [] σ (pO r) 0 0 := by
  unfold f_X10_eatsSemicolon_0 at h
  refine v_aload_n (dq D_X10_eatsSemicolon 0 rfl) 0 rfl ?_
  obtain ⟨x1, hx1, h⟩ := obi h
  refine v_gI (dq D_X10_eatsSemicolon 1 rfl) fa_RX10_68 hx1 ?_
  refine v_iconst (dq D_X10_eatsSemicolon 2 rfl) kc_4 ?_
  refine v_icmp_ne (dq D_X10_eatsSemicolon 3 rfl) rfl (fun c2 => ?_) (fun c2 => ?_)
  · have h := itn h c2
    refine v_iconst (dq D_X10_eatsSemicolon 6 rfl) kc_0 ?_
    exact w_X10_eatsSemicolon_13 h
  · have h := itp h c2
    refine v_iconst (dq D_X10_eatsSemicolon 4 rfl) kc_1 ?_
    refine v_goto (dq D_X10_eatsSemicolon 5 rfl) rfl ?_
    exact w_X10_eatsSemicolon_13 h
theorem m_X10_eatsSemicolon {sa : Env3} {a0 : Nat} {σ : St} {r : Int32 × St} (h : f_X10_eatsSemicolon a0 σ = some r) : Ex sa yX10_eatsSemicolon cX10_eatsSemicolon K_X10_eatsSemicolon [.ref a0] σ (pO r) := Ex.of (by decide) rfl (fun q => nomatch q) (Nat.le_of_ble_eq_true rfl) (w_X10_eatsSemicolon_0 (itg h).2)
theorem w_X10_readAll_47 {sa : Env3}  {σ : St} {r : St} (h : f_X10_readAll_47  σ = some r) : VV sa cX10_readAll K_X10_readAll 47 [] [] σ (pU r) 0 0 := by
  unfold f_X10_readAll_47 at h
  obtain rfl := Option.some.inj h
  exact v_vret (dq D_X10_readAll 24 rfl) rfl ⟨rfl, rfl⟩
theorem w_X10_readAll_31 {sa : Env3} {a0 : Nat} {σ : St} {r : St} (h : f_X10_readAll_31 a0 σ = some r) : VV sa cX10_readAll K_X10_readAll 31 [(0, .ref a0)] [] σ (pU r) 0 0 := by
  unfold f_X10_readAll_31 at h
  refine v_aload_n (dq D_X10_readAll 17 rfl) 0 rfl ?_
  obtain ⟨x1, hx1, h⟩ := obi h
  refine v_gR (dq D_X10_readAll 18 rfl) fa_RX10_130 hx1 ?_
  obtain ⟨x2, hx2, h⟩ := obi h
  refine v_gI (dq D_X10_readAll 19 rfl) fa_RX10_146 hx2 ?_
  refine v_if_ne (dq D_X10_readAll 20 rfl) rfl (fun c3 => ?_) (fun c3 => ?_)
  · have h := itn h c3
    exact v_sub [] rfl (w_X10_readAll_47 h)
  · have h := itp h c3
    refine v_aload_n (dq D_X10_readAll 21 rfl) 0 rfl ?_
    refine v_bipush (dq D_X10_readAll 22 rfl) kb_6 ?_
    obtain ⟨σ4, hσ4, h⟩ := obi h
    refine v_cVv (bc := 0) (bs := 0) (As := [.int 6]) (dq D_X10_readAll 23 rfl) cv_X10_flaw ml_RX10_111 (itg hσ4).1 (m_X10_flaw hσ4) rfl rfl (Nat.le_of_ble_eq_true rfl) ⟨Nat.le_of_ble_eq_true rfl, Nat.le_of_ble_eq_true rfl⟩ ⟨Nat.le_of_ble_eq_true rfl, Nat.le_of_ble_eq_true rfl⟩ ?_
    exact v_sub [] rfl (w_X10_readAll_47 h)
theorem w_X10_readAll_2 {sa : Env3} : ∀ (n : Nat) {a0 : Nat} {a1 : Int32} {σ : St} {r : St}, f_X10_readAll_2 n a0 a1 σ = some r → VV sa cX10_readAll K_X10_readAll 2 [(0, .ref a0), (1, .int a1)] [] σ (pU r) 0 0 := by
  intro n
  induction n with
  | zero => intro a0 a1 σ r h; cases h
  | succ n ih =>
    intro a0 a1 σ r h
    rw [e_X10_readAll_2] at h
    refine v_iload_n (dq D_X10_readAll 2 rfl) 1 rfl ?_
    refine v_if_eq (dq D_X10_readAll 3 rfl) rfl (fun c1 => ?_) (fun c1 => ?_)
    · have h := itp h c1
      refine v_aload_n (dq D_X10_readAll 10 rfl) 0 rfl ?_
      obtain ⟨x2, hx2, h⟩ := obi h
      refine v_gI (dq D_X10_readAll 11 rfl) fa_RX10_68 hx2 ?_
      refine v_iconst (dq D_X10_readAll 12 rfl) kc_1 ?_
      refine v_icmp_eq (dq D_X10_readAll 13 rfl) rfl (fun c3 => ?_) (fun c3 => ?_)
      · have h := itp h c3
        exact v_sub [0] rfl (w_X10_readAll_31 h)
      · have h := itn h c3
        refine v_aload_n (dq D_X10_readAll 14 rfl) 0 rfl ?_
        refine v_iconst (dq D_X10_readAll 15 rfl) kc_1 ?_
        obtain ⟨σ4, hσ4, h⟩ := obi h
        refine v_cVv (bc := 0) (bs := 0) (As := [.int 1]) (dq D_X10_readAll 16 rfl) cv_X10_flaw ml_RX10_111 (itg hσ4).1 (m_X10_flaw hσ4) rfl rfl (Nat.le_of_ble_eq_true rfl) ⟨Nat.le_of_ble_eq_true rfl, Nat.le_of_ble_eq_true rfl⟩ ⟨Nat.le_of_ble_eq_true rfl, Nat.le_of_ble_eq_true rfl⟩ ?_
        exact v_sub [0] rfl (w_X10_readAll_31 h)
    · have h := itn h c1
      refine v_aload_n (dq D_X10_readAll 4 rfl) 0 rfl ?_
      obtain ⟨σ5, hσ5, h⟩ := obi h
      refine v_cVv (bc := 0) (bs := 0) (As := []) (dq D_X10_readAll 5 rfl) cv_X10_readLine ml_RX10_139 (itg hσ5).1 (m_X10_readLine hσ5) rfl rfl (Nat.le_of_ble_eq_true rfl) ⟨Nat.le_of_ble_eq_true rfl, Nat.le_of_ble_eq_true rfl⟩ ⟨Nat.le_of_ble_eq_true rfl, Nat.le_of_ble_eq_true rfl⟩ ?_
      refine v_aload_n (dq D_X10_readAll 6 rfl) 0 rfl ?_
      obtain ⟨q6, hq6, h⟩ := obi h
      refine v_cVi (bc := 0) (bs := 0) (As := []) (dq D_X10_readAll 7 rfl) cv_X10_eatsSemicolon ml_RX10_142 (itg hq6).1 (m_X10_eatsSemicolon hq6) rfl rfl (Nat.le_of_ble_eq_true rfl) ⟨Nat.le_of_ble_eq_true rfl, Nat.le_of_ble_eq_true rfl⟩ ⟨Nat.le_of_ble_eq_true rfl, Nat.le_of_ble_eq_true rfl⟩ ?_
      refine v_istore_n (dq D_X10_readAll 8 rfl) [(1, .int q6.1), (0, .ref a0)] rfl (Nat.le_of_ble_eq_true rfl) rfl ?_
      refine v_goto (dq D_X10_readAll 9 rfl) rfl ?_
      exact v_sub [1, 0] rfl (ih h)
theorem w_X10_readAll_0 {sa : Env3} {a0 : Nat} {σ : St} {r : St} (h : f_X10_readAll_0 a0 σ = some r) : VV sa cX10_readAll K_X10_readAll 0 [(0, .ref a0)] [] σ (pU r) 0 0 := by
  unfold f_X10_readAll_0 at h
  refine v_iconst (dq D_X10_readAll 0 rfl) kc_1 ?_
  refine v_istore_n (dq D_X10_readAll 1 rfl) [(1, .int 1), (0, .ref a0)] rfl (Nat.le_of_ble_eq_true rfl) rfl ?_
  exact v_sub [1, 0] rfl (w_X10_readAll_2 _ h)
theorem m_X10_readAll {sa : Env3} {a0 : Nat} {σ : St} {r : St} (h : f_X10_readAll a0 σ = some r) : Ex sa yX10_readAll cX10_readAll K_X10_readAll [.ref a0] σ (pU r) := Ex.of (by decide) rfl (fun q => nomatch q) (Nat.le_of_ble_eq_true rfl) (w_X10_readAll_0 (itg h).2)
theorem w_X10_core_17 {sa : Env3} {a0 : Nat} {σ : St} {r : Int32 × St} (h : f_X10_core_17 a0 σ = some r) : VV sa cX10_core K_X10_core 17 [(0, .ref a0)] [] σ (pO r) 0 0 := by
  unfold f_X10_core_17 at h
  refine v_aload_n (dq D_X10_core 9 rfl) 0 rfl ?_
  refine v_iconst (dq D_X10_core 10 rfl) kc_2 ?_
  obtain ⟨q1, hq1, h⟩ := obi h
  refine v_cVi (bc := 0) (bs := 0) (As := [.int 2]) (dq D_X10_core 11 rfl) cv_X10_refused ml_RX10_42 (itg hq1).1 (m_X10_refused hq1) rfl rfl (Nat.le_of_ble_eq_true rfl) ⟨Nat.le_of_ble_eq_true rfl, Nat.le_of_ble_eq_true rfl⟩ ⟨Nat.le_of_ble_eq_true rfl, Nat.le_of_ble_eq_true rfl⟩ ?_
  obtain rfl := Option.some.inj h
  exact v_iret (dq D_X10_core 12 rfl) rfl ⟨rfl, rfl⟩
theorem w_X10_core_0 {sa : Env3} {a0 : Nat} {a1 : Int32} {σ : St} {r : Int32 × St} (h : f_X10_core_0 a0 a1 σ = some r) : VV sa cX10_core K_X10_core 0 [(0, .ref a0), (1, .int a1)] [] σ (pO r) 11 182 := by
  unfold f_X10_core_0 at h
  refine v_aload_n (dq D_X10_core 0 rfl) 0 rfl ?_
  refine v_iconst (dq D_X10_core 1 rfl) kc_0 ?_
  obtain ⟨σ1, hσ1, h⟩ := obi h
  refine v_pI (dq D_X10_core 2 rfl) fp_RX10_36 hσ1 ?_
  refine v_iload_n (dq D_X10_core 3 rfl) 1 rfl ?_
  refine v_if_lt (dq D_X10_core 4 rfl) rfl (fun c2 => ?_) (fun c2 => ?_)
  · have h := itp h c2
    exact v_bud (Nat.le_of_ble_eq_true rfl) (Nat.le_of_ble_eq_true rfl) (v_sub [0] rfl (w_X10_core_17 h))
  · have h := itn h c2
    refine v_iload_n (dq D_X10_core 5 rfl) 1 rfl ?_
    refine v_aload_n (dq D_X10_core 6 rfl) 0 rfl ?_
    obtain ⟨x3, hx3, h⟩ := obi h
    refine v_gI (dq D_X10_core 7 rfl) fa_RX10_259 hx3 ?_
    refine v_icmp_le (dq D_X10_core 8 rfl) rfl (fun c4 => ?_) (fun c4 => ?_)
    · have h := itp h c4
      refine v_aload_n (dq D_X10_core 13 rfl) 0 rfl ?_
      refine v_iload_n (dq D_X10_core 14 rfl) 1 rfl ?_
      obtain ⟨σ5, hσ5, h⟩ := obi h
      refine v_pI (dq D_X10_core 15 rfl) fp_RX10_53 hσ5 ?_
      refine v_aload_n (dq D_X10_core 16 rfl) 0 rfl ?_
      refine v_iconst (dq D_X10_core 17 rfl) kc_0 ?_
      obtain ⟨σ6, hσ6, h⟩ := obi h
      refine v_pI (dq D_X10_core 18 rfl) fp_RX10_259 hσ6 ?_
      refine v_aload_n (dq D_X10_core 19 rfl) 0 rfl ?_
      refine v_iconst (dq D_X10_core 20 rfl) kc_0 ?_
      obtain ⟨σ7, hσ7, h⟩ := obi h
      refine v_pI (dq D_X10_core 21 rfl) fp_RX10_71 hσ7 ?_
      refine v_aload_n (dq D_X10_core 22 rfl) 0 rfl ?_
      refine v_iconst (dq D_X10_core 23 rfl) kc_0 ?_
      obtain ⟨σ8, hσ8, h⟩ := obi h
      refine v_pI (dq D_X10_core 24 rfl) fp_RX10_94 hσ8 ?_
      refine v_aload_n (dq D_X10_core 25 rfl) 0 rfl ?_
      obtain ⟨σ9, hσ9, h⟩ := bnd_inv h
      refine v_new (bc := 10) (bs := 164) (dq D_X10_core 26 rfl) cc9 tw_1326 ⟨Nat.le_of_ble_eq_true rfl, Nat.le_of_ble_eq_true rfl⟩ hσ9 ?_
      refine v_dup (dq D_X10_core 27 rfl) rfl ?_
      obtain ⟨σ10, hσ10, h⟩ := obi h
      refine v_cIv (bc := 0) (bs := 0) (As := []) (dq D_X10_core 28 rfl) ci_X9_init ml_RX10_262 (m_X9_init hσ10) rfl rfl (Nat.le_of_ble_eq_true rfl) ⟨Nat.le_of_ble_eq_true rfl, Nat.le_of_ble_eq_true rfl⟩ ⟨Nat.le_of_ble_eq_true rfl, Nat.le_of_ble_eq_true rfl⟩ ?_
      obtain ⟨σ11, hσ11, h⟩ := obi h
      refine v_pP (dq D_X10_core 29 rfl) fp_RX10_130 (fun q => nomatch q) hσ11 ?_
      refine v_aload_n (dq D_X10_core 30 rfl) 0 rfl ?_
      refine v_iconst (dq D_X10_core 31 rfl) kc_0 ?_
      obtain ⟨σ12, hσ12, h⟩ := obi h
      refine v_pI (dq D_X10_core 32 rfl) fp_RX10_68 hσ12 ?_
      refine v_aload_n (dq D_X10_core 33 rfl) 0 rfl ?_
      obtain ⟨σ13, hσ13, h⟩ := obi h
      refine v_cVv (bc := 0) (bs := 0) (As := []) (dq D_X10_core 34 rfl) cv_X10_goesOn ml_RX10_104 (itg hσ13).1 (m_X10_goesOn hσ13) rfl rfl (Nat.le_of_ble_eq_true rfl) ⟨Nat.le_of_ble_eq_true rfl, Nat.le_of_ble_eq_true rfl⟩ ⟨Nat.le_of_ble_eq_true rfl, Nat.le_of_ble_eq_true rfl⟩ ?_
      refine v_aload_n (dq D_X10_core 35 rfl) 0 rfl ?_
      obtain ⟨σ14, hσ14, h⟩ := obi h
      refine v_cVv (bc := 0) (bs := 0) (As := []) (dq D_X10_core 36 rfl) cv_X10_readAll ml_RX10_263 (itg hσ14).1 (m_X10_readAll hσ14) rfl rfl (Nat.le_of_ble_eq_true rfl) ⟨Nat.le_of_ble_eq_true rfl, Nat.le_of_ble_eq_true rfl⟩ ⟨Nat.le_of_ble_eq_true rfl, Nat.le_of_ble_eq_true rfl⟩ ?_
      refine v_aload_n (dq D_X10_core 37 rfl) 0 rfl ?_
      obtain ⟨x15, hx15, h⟩ := obi h
      refine v_gI (dq D_X10_core 38 rfl) fa_RX10_94 hx15 ?_
      refine v_if_le (dq D_X10_core 39 rfl) rfl (fun c16 => ?_) (fun c16 => ?_)
      · have h := itp h c16
        refine v_aload_n (dq D_X10_core 49 rfl) 0 rfl ?_
        refine v_aload_n (dq D_X10_core 50 rfl) 0 rfl ?_
        obtain ⟨x17, hx17, h⟩ := obi h
        refine v_gR (dq D_X10_core 51 rfl) fa_RX10_130 hx17 ?_
        obtain ⟨σ18, hσ18, h⟩ := obi h
        refine v_pP (dq D_X10_core 52 rfl) fp_RX10_266 (fun q => nomatch q) hσ18 ?_
        refine v_aload_n (dq D_X10_core 53 rfl) 0 rfl ?_
        refine v_aload_n (dq D_X10_core 54 rfl) 0 rfl ?_
        obtain ⟨x19, hx19, h⟩ := obi h
        refine v_gR (dq D_X10_core 55 rfl) fa_RX10_266 hx19 ?_
        obtain ⟨x20, hx20, h⟩ := obi h
        refine v_gI (dq D_X10_core 56 rfl) fa_RX10_134 hx20 ?_
        obtain ⟨σ21, hσ21, h⟩ := obi h
        refine v_cVv (bc := 0) (bs := 0) (As := [.int x20]) (dq D_X10_core 57 rfl) cv_X10_asTold ml_RX10_268 (itg hσ21).1 (m_X10_asTold hσ21) rfl rfl (Nat.le_of_ble_eq_true rfl) ⟨Nat.le_of_ble_eq_true rfl, Nat.le_of_ble_eq_true rfl⟩ ⟨Nat.le_of_ble_eq_true rfl, Nat.le_of_ble_eq_true rfl⟩ ?_
        refine v_aload_n (dq D_X10_core 58 rfl) 0 rfl ?_
        obtain ⟨σ22, hσ22, h⟩ := obi h
        refine v_cVv (bc := 0) (bs := 0) (As := []) (dq D_X10_core 59 rfl) cv_X10_remains ml_RX10_271 (itg hσ22).1 (m_X10_remains hσ22) rfl rfl (Nat.le_of_ble_eq_true rfl) ⟨Nat.le_of_ble_eq_true rfl, Nat.le_of_ble_eq_true rfl⟩ ⟨Nat.le_of_ble_eq_true rfl, Nat.le_of_ble_eq_true rfl⟩ ?_
        refine v_aload_n (dq D_X10_core 60 rfl) 0 rfl ?_
        refine v_iconst (dq D_X10_core 61 rfl) kc_0 ?_
        obtain ⟨σ23, hσ23, h⟩ := obi h
        refine v_pI (dq D_X10_core 62 rfl) fp_RX10_274 hσ23 ?_
        refine v_aload_n (dq D_X10_core 63 rfl) 0 rfl ?_
        refine v_iconst (dq D_X10_core 64 rfl) kc_0 ?_
        obtain ⟨σ24, hσ24, h⟩ := obi h
        refine v_pI (dq D_X10_core 65 rfl) fp_RX10_277 hσ24 ?_
        refine v_aload_n (dq D_X10_core 66 rfl) 0 rfl ?_
        refine v_aload_n (dq D_X10_core 67 rfl) 0 rfl ?_
        obtain ⟨x25, hx25, h⟩ := obi h
        refine v_gR (dq D_X10_core 68 rfl) fa_RX10_266 hx25 ?_
        obtain ⟨x26, hx26, h⟩ := obi h
        refine v_gI (dq D_X10_core 69 rfl) fa_RX10_146 hx26 ?_
        obtain ⟨q27, hq27, h⟩ := obi h
        refine v_cVi (bc := 0) (bs := 0) (As := [.int x26]) (dq D_X10_core 70 rfl) cv_X10_good ml_RX10_46 (itg hq27).1 (m_X10_good hq27) rfl rfl (Nat.le_of_ble_eq_true rfl) ⟨Nat.le_of_ble_eq_true rfl, Nat.le_of_ble_eq_true rfl⟩ ⟨Nat.le_of_ble_eq_true rfl, Nat.le_of_ble_eq_true rfl⟩ ?_
        obtain rfl := Option.some.inj h
        exact v_iret (dq D_X10_core 71 rfl) rfl ⟨rfl, rfl⟩
      · have h := itn h c16
        refine v_aload_n (dq D_X10_core 40 rfl) 0 rfl ?_
        refine v_iconst (dq D_X10_core 41 rfl) kc_4 ?_
        obtain ⟨σ28, hσ28, h⟩ := obi h
        refine v_pI (dq D_X10_core 42 rfl) fp_RX10_39 hσ28 ?_
        refine v_aload_n (dq D_X10_core 43 rfl) 0 rfl ?_
        refine v_aload_n (dq D_X10_core 44 rfl) 0 rfl ?_
        obtain ⟨x29, hx29, h⟩ := obi h
        refine v_gI (dq D_X10_core 45 rfl) fa_RX10_97 hx29 ?_
        obtain ⟨σ30, hσ30, h⟩ := obi h
        refine v_pI (dq D_X10_core 46 rfl) fp_RX10_9 hσ30 ?_
        refine v_iconst (dq D_X10_core 47 rfl) kc_m1 ?_
        obtain rfl := Option.some.inj h
        exact v_iret (dq D_X10_core 48 rfl) rfl ⟨rfl, rfl⟩
    · have h := itn h c4
      exact v_bud (Nat.le_of_ble_eq_true rfl) (Nat.le_of_ble_eq_true rfl) (v_sub [0] rfl (w_X10_core_17 h))
theorem m_X10_core {sa : Env3} {a0 : Nat} {a1 : Int32} {σ : St} {r : Int32 × St} (h : f_X10_core a0 a1 σ = some r) : Ex sa yX10_core cX10_core K_X10_core [.ref a0, .int a1] σ (pO r) := Ex.of (by decide) rfl (fun q => nomatch q) (Nat.le_of_ble_eq_true rfl) (w_X10_core_0 (itg h).2)
theorem w_X10_could_0 {sa : Env3} {a0 : Nat} {σ : St} {r : Int32 × St} (h : f_X10_could_0 a0 σ = some r) : VV sa cX10_could K_X10_could 0 [(0, .ref a0)] [] σ (pO r) 0 0 := by
  unfold f_X10_could_0 at h
  refine v_aload_n (dq D_X10_could 0 rfl) 0 rfl ?_
  refine v_iconst (dq D_X10_could 1 rfl) kc_0 ?_
  obtain ⟨σ1, hσ1, h⟩ := obi h
  refine v_pI (dq D_X10_could 2 rfl) fp_RX10_36 hσ1 ?_
  refine v_aload_n (dq D_X10_could 3 rfl) 0 rfl ?_
  obtain ⟨x2, hx2, h⟩ := obi h
  refine v_gQ (dq D_X10_could 4 rfl) fa_RX10_266 hx2 ?_
  rcases oc_inv h with ⟨rfl, h⟩ | ⟨b3, rfl, h⟩
  · refine v_ifnonnullN (dq D_X10_could 5 rfl) ?_
    refine v_aload_n (dq D_X10_could 6 rfl) 0 rfl ?_
    refine v_iconst (dq D_X10_could 7 rfl) kc_1 ?_
    obtain ⟨q4, hq4, h⟩ := obi h
    refine v_cVi (bc := 0) (bs := 0) (As := [.int 1]) (dq D_X10_could 8 rfl) cv_X10_refused ml_RX10_42 (itg hq4).1 (m_X10_refused hq4) rfl rfl (Nat.le_of_ble_eq_true rfl) ⟨Nat.le_of_ble_eq_true rfl, Nat.le_of_ble_eq_true rfl⟩ ⟨Nat.le_of_ble_eq_true rfl, Nat.le_of_ble_eq_true rfl⟩ ?_
    obtain rfl := Option.some.inj h
    exact v_iret (dq D_X10_could 9 rfl) rfl ⟨rfl, rfl⟩
  · refine v_ifnonnullR (dq D_X10_could 5 rfl) rfl ?_
    refine v_aload_n (dq D_X10_could 10 rfl) 0 rfl ?_
    refine v_iconst (dq D_X10_could 11 rfl) kc_m1 ?_
    obtain ⟨q5, hq5, h⟩ := obi h
    refine v_cVi (bc := 0) (bs := 0) (As := [.int (-1)]) (dq D_X10_could 12 rfl) cv_X10_fitting ml_RX10_436 (itg hq5).1 (m_X10_fitting hq5) rfl rfl (Nat.le_of_ble_eq_true rfl) ⟨Nat.le_of_ble_eq_true rfl, Nat.le_of_ble_eq_true rfl⟩ ⟨Nat.le_of_ble_eq_true rfl, Nat.le_of_ble_eq_true rfl⟩ ?_
    refine v_pop (dq D_X10_could 13 rfl) rfl ?_
    refine v_aload_n (dq D_X10_could 14 rfl) 0 rfl ?_
    refine v_aload_n (dq D_X10_could 15 rfl) 0 rfl ?_
    obtain ⟨x6, hx6, h⟩ := obi h
    refine v_gI (dq D_X10_could 16 rfl) fa_RX10_427 hx6 ?_
    obtain ⟨q7, hq7, h⟩ := obi h
    refine v_cVi (bc := 0) (bs := 0) (As := [.int x6]) (dq D_X10_could 17 rfl) cv_X10_good ml_RX10_46 (itg hq7).1 (m_X10_good hq7) rfl rfl (Nat.le_of_ble_eq_true rfl) ⟨Nat.le_of_ble_eq_true rfl, Nat.le_of_ble_eq_true rfl⟩ ⟨Nat.le_of_ble_eq_true rfl, Nat.le_of_ble_eq_true rfl⟩ ?_
    obtain rfl := Option.some.inj h
    exact v_iret (dq D_X10_could 18 rfl) rfl ⟨rfl, rfl⟩
theorem m_X10_could {sa : Env3} {a0 : Nat} {σ : St} {r : Int32 × St} (h : f_X10_could a0 σ = some r) : Ex sa yX10_could cX10_could K_X10_could [.ref a0] σ (pO r) := Ex.of (by decide) rfl (fun q => nomatch q) (Nat.le_of_ble_eq_true rfl) (w_X10_could_0 (itg h).2)
theorem w_X10_crowd_0 {sa : Env3} {a0 : Nat} {a1 : Int32} {σ : St} {r : Int32 × St} (h : f_X10_crowd_0 a0 a1 σ = some r) : VV sa cX10_crowd K_X10_crowd 0 [(0, .ref a0), (1, .int a1)] [] σ (pO r) 0 0 := by
  unfold f_X10_crowd_0 at h
  refine v_aload_n (dq D_X10_crowd 0 rfl) 0 rfl ?_
  refine v_iconst (dq D_X10_crowd 1 rfl) kc_0 ?_
  obtain ⟨σ1, hσ1, h⟩ := obi h
  refine v_pI (dq D_X10_crowd 2 rfl) fp_RX10_36 hσ1 ?_
  refine v_aload_n (dq D_X10_crowd 3 rfl) 0 rfl ?_
  refine v_iload_n (dq D_X10_crowd 4 rfl) 1 rfl ?_
  obtain ⟨q2, hq2, h⟩ := obi h
  refine v_cVi (bc := 0) (bs := 0) (As := [.int a1]) (dq D_X10_crowd 5 rfl) cv_X10_refusesCells ml_RX10_414 (itg hq2).1 (m_X10_refusesCells hq2) rfl rfl (Nat.le_of_ble_eq_true rfl) ⟨Nat.le_of_ble_eq_true rfl, Nat.le_of_ble_eq_true rfl⟩ ⟨Nat.le_of_ble_eq_true rfl, Nat.le_of_ble_eq_true rfl⟩ ?_
  refine v_istore_n (dq D_X10_crowd 6 rfl) [(2, .int q2.1), (0, .ref a0), (1, .int a1)] rfl (Nat.le_of_ble_eq_true rfl) rfl ?_
  refine v_iload_n (dq D_X10_crowd 7 rfl) 0 rfl ?_
  refine v_if_le (dq D_X10_crowd 8 rfl) rfl (fun c3 => ?_) (fun c3 => ?_)
  · have h := itp h c3
    refine v_aload_n (dq D_X10_crowd 13 rfl) 1 rfl ?_
    refine v_iload_n (dq D_X10_crowd 14 rfl) 2 rfl ?_
    obtain ⟨σ4, hσ4, h⟩ := obi h
    refine v_cVv (bc := 0) (bs := 0) (As := [.int a1]) (dq D_X10_crowd 15 rfl) cv_X10_goes ml_RX10_417 (itg hσ4).1 (m_X10_goes hσ4) rfl rfl (Nat.le_of_ble_eq_true rfl) ⟨Nat.le_of_ble_eq_true rfl, Nat.le_of_ble_eq_true rfl⟩ ⟨Nat.le_of_ble_eq_true rfl, Nat.le_of_ble_eq_true rfl⟩ ?_
    refine v_aload_n (dq D_X10_crowd 16 rfl) 1 rfl ?_
    refine v_aload_n (dq D_X10_crowd 17 rfl) 1 rfl ?_
    obtain ⟨x5, hx5, h⟩ := obi h
    refine v_gI (dq D_X10_crowd 18 rfl) fa_RX10_408 hx5 ?_
    obtain ⟨q6, hq6, h⟩ := obi h
    refine v_cVi (bc := 0) (bs := 0) (As := [.int x5]) (dq D_X10_crowd 19 rfl) cv_X10_good ml_RX10_46 (itg hq6).1 (m_X10_good hq6) rfl rfl (Nat.le_of_ble_eq_true rfl) ⟨Nat.le_of_ble_eq_true rfl, Nat.le_of_ble_eq_true rfl⟩ ⟨Nat.le_of_ble_eq_true rfl, Nat.le_of_ble_eq_true rfl⟩ ?_
    obtain rfl := Option.some.inj h
    exact v_iret (dq D_X10_crowd 20 rfl) rfl ⟨rfl, rfl⟩
  · have h := itn h c3
    refine v_aload_n (dq D_X10_crowd 9 rfl) 1 rfl ?_
    refine v_iload_n (dq D_X10_crowd 10 rfl) 0 rfl ?_
    obtain ⟨q7, hq7, h⟩ := obi h
    refine v_cVi (bc := 0) (bs := 0) (As := [.int q2.1]) (dq D_X10_crowd 11 rfl) cv_X10_refused ml_RX10_42 (itg hq7).1 (m_X10_refused hq7) rfl rfl (Nat.le_of_ble_eq_true rfl) ⟨Nat.le_of_ble_eq_true rfl, Nat.le_of_ble_eq_true rfl⟩ ⟨Nat.le_of_ble_eq_true rfl, Nat.le_of_ble_eq_true rfl⟩ ?_
    obtain rfl := Option.some.inj h
    exact v_iret (dq D_X10_crowd 12 rfl) rfl ⟨rfl, rfl⟩
theorem m_X10_crowd {sa : Env3} {a0 : Nat} {a1 : Int32} {σ : St} {r : Int32 × St} (h : f_X10_crowd a0 a1 σ = some r) : Ex sa yX10_crowd cX10_crowd K_X10_crowd [.ref a0, .int a1] σ (pO r) := Ex.of (by decide) rfl (fun q => nomatch q) (Nat.le_of_ble_eq_true rfl) (w_X10_crowd_0 (itg h).2)
theorem w_X10_cycles_0 {sa : Env3} {a0 : Nat} {a1 : Int32} {σ : St} {r : Int32 × St} (h : f_X10_cycles_0 a0 a1 σ = some r) : VV sa cX10_cycles K_X10_cycles 0 [(0, .ref a0), (1, .int a1)] [] σ (pO r) 0 0 := by
  unfold f_X10_cycles_0 at h
  refine v_aload_n (dq D_X10_cycles 0 rfl) 0 rfl ?_
  refine v_iconst (dq D_X10_cycles 1 rfl) kc_0 ?_
  obtain ⟨σ1, hσ1, h⟩ := obi h
  refine v_pI (dq D_X10_cycles 2 rfl) fp_RX10_36 hσ1 ?_
  refine v_aload_n (dq D_X10_cycles 3 rfl) 0 rfl ?_
  refine v_iload_n (dq D_X10_cycles 4 rfl) 1 rfl ?_
  obtain ⟨q2, hq2, h⟩ := obi h
  refine v_cVi (bc := 0) (bs := 0) (As := [.int a1]) (dq D_X10_cycles 5 rfl) cv_X10_refusesCells ml_RX10_414 (itg hq2).1 (m_X10_refusesCells hq2) rfl rfl (Nat.le_of_ble_eq_true rfl) ⟨Nat.le_of_ble_eq_true rfl, Nat.le_of_ble_eq_true rfl⟩ ⟨Nat.le_of_ble_eq_true rfl, Nat.le_of_ble_eq_true rfl⟩ ?_
  refine v_istore_n (dq D_X10_cycles 6 rfl) [(2, .int q2.1), (0, .ref a0), (1, .int a1)] rfl (Nat.le_of_ble_eq_true rfl) rfl ?_
  refine v_iload_n (dq D_X10_cycles 7 rfl) 0 rfl ?_
  refine v_if_le (dq D_X10_cycles 8 rfl) rfl (fun c3 => ?_) (fun c3 => ?_)
  · have h := itp h c3
    refine v_aload_n (dq D_X10_cycles 13 rfl) 1 rfl ?_
    refine v_iload_n (dq D_X10_cycles 14 rfl) 2 rfl ?_
    obtain ⟨σ4, hσ4, h⟩ := obi h
    refine v_cVv (bc := 0) (bs := 0) (As := [.int a1]) (dq D_X10_cycles 15 rfl) cv_X10_goes ml_RX10_417 (itg hσ4).1 (m_X10_goes hσ4) rfl rfl (Nat.le_of_ble_eq_true rfl) ⟨Nat.le_of_ble_eq_true rfl, Nat.le_of_ble_eq_true rfl⟩ ⟨Nat.le_of_ble_eq_true rfl, Nat.le_of_ble_eq_true rfl⟩ ?_
    refine v_aload_n (dq D_X10_cycles 16 rfl) 1 rfl ?_
    refine v_aload_n (dq D_X10_cycles 17 rfl) 1 rfl ?_
    obtain ⟨x5, hx5, h⟩ := obi h
    refine v_gI (dq D_X10_cycles 18 rfl) fa_RX10_405 hx5 ?_
    obtain ⟨q6, hq6, h⟩ := obi h
    refine v_cVi (bc := 0) (bs := 0) (As := [.int x5]) (dq D_X10_cycles 19 rfl) cv_X10_good ml_RX10_46 (itg hq6).1 (m_X10_good hq6) rfl rfl (Nat.le_of_ble_eq_true rfl) ⟨Nat.le_of_ble_eq_true rfl, Nat.le_of_ble_eq_true rfl⟩ ⟨Nat.le_of_ble_eq_true rfl, Nat.le_of_ble_eq_true rfl⟩ ?_
    obtain rfl := Option.some.inj h
    exact v_iret (dq D_X10_cycles 20 rfl) rfl ⟨rfl, rfl⟩
  · have h := itn h c3
    refine v_aload_n (dq D_X10_cycles 9 rfl) 1 rfl ?_
    refine v_iload_n (dq D_X10_cycles 10 rfl) 0 rfl ?_
    obtain ⟨q7, hq7, h⟩ := obi h
    refine v_cVi (bc := 0) (bs := 0) (As := [.int q2.1]) (dq D_X10_cycles 11 rfl) cv_X10_refused ml_RX10_42 (itg hq7).1 (m_X10_refused hq7) rfl rfl (Nat.le_of_ble_eq_true rfl) ⟨Nat.le_of_ble_eq_true rfl, Nat.le_of_ble_eq_true rfl⟩ ⟨Nat.le_of_ble_eq_true rfl, Nat.le_of_ble_eq_true rfl⟩ ?_
    obtain rfl := Option.some.inj h
    exact v_iret (dq D_X10_cycles 12 rfl) rfl ⟨rfl, rfl⟩
theorem m_X10_cycles {sa : Env3} {a0 : Nat} {a1 : Int32} {σ : St} {r : Int32 × St} (h : f_X10_cycles a0 a1 σ = some r) : Ex sa yX10_cycles cX10_cycles K_X10_cycles [.ref a0, .int a1] σ (pO r) := Ex.of (by decide) rfl (fun q => nomatch q) (Nat.le_of_ble_eq_true rfl) (w_X10_cycles_0 (itg h).2)
theorem w_X10_refusesDraw_35 {sa : Env3} {s0 : Int32} {σ : St} {r : Int32 × St} (h : f_X10_refusesDraw_35 s0 σ = some r) : VV sa cX10_refusesDraw K_X10_refusesDraw 35 [] [.int s0] σ (pO r) 0 0 := by
  unfold f_X10_refusesDraw_35 at h
  obtain rfl := Option.some.inj h
  exact v_iret (dq D_X10_refusesDraw 17 rfl) rfl ⟨rfl, rfl⟩
theorem w_X10_refusesDraw_34 {sa : Env3}  {σ : St} {r : Int32 × St} (h : f_X10_refusesDraw_34  σ = some r) : VV sa cX10_refusesDraw K_X10_refusesDraw 34 [] [] σ (pO r) 0 0 := by
  unfold f_X10_refusesDraw_34 at h
  refine v_iconst (dq D_X10_refusesDraw 16 rfl) kc_2 ?_
  exact w_X10_refusesDraw_35 h
theorem w_X10_refusesDraw_0 {sa : Env3} {a0 : Nat} {a1 : Int32} {a2 : Int32} {a3 : Int32} {σ : St} {r : Int32 × St} (h : f_X10_refusesDraw_0 a0 a1 a2 a3 σ = some r) : VV sa cX10_refusesDraw K_X10_refusesDraw 0 [(0, .ref a0), (1, .int a1), (2, .int a2), (3, .int a3)] [] σ (pO r) 0 0 := by
  unfold f_X10_refusesDraw_0 at h
  refine v_iload_n (dq D_X10_refusesDraw 0 rfl) 1 rfl ?_
  refine v_if_ne (dq D_X10_refusesDraw 1 rfl) rfl (fun c1 => ?_) (fun c1 => ?_)
  · have h := itn h c1
    refine v_iload_n (dq D_X10_refusesDraw 4 rfl) 2 rfl ?_
    refine v_iconst (dq D_X10_refusesDraw 5 rfl) kc_0 ?_
    refine v_ldcw (dq D_X10_refusesDraw 6 rfl) tw_1852 ?_
    obtain ⟨q2, hq2, h⟩ := obi h
    refine v_cSi (bc := 0) (bs := 0) (As := [.int a2, .int 0, .int 65536]) (dq D_X10_refusesDraw 7 rfl) cs_X10_in ml_RX10_115 (m_X10_in hq2) rfl rfl (Nat.le_of_ble_eq_true rfl) ⟨Nat.le_of_ble_eq_true rfl, Nat.le_of_ble_eq_true rfl⟩ ⟨Nat.le_of_ble_eq_true rfl, Nat.le_of_ble_eq_true rfl⟩ ?_
    refine v_if_eq (dq D_X10_refusesDraw 8 rfl) rfl (fun c3 => ?_) (fun c3 => ?_)
    · have h := itp h c3
      exact v_sub [] rfl (w_X10_refusesDraw_34 h)
    · have h := itn h c3
      refine v_iload_n (dq D_X10_refusesDraw 9 rfl) 3 rfl ?_
      refine v_iconst (dq D_X10_refusesDraw 10 rfl) kc_0 ?_
      refine v_sipush (dq D_X10_refusesDraw 11 rfl) ks_300 ?_
      obtain ⟨q4, hq4, h⟩ := obi h
      refine v_cSi (bc := 0) (bs := 0) (As := [.int a3, .int 0, .int 300]) (dq D_X10_refusesDraw 12 rfl) cs_X10_in ml_RX10_115 (m_X10_in hq4) rfl rfl (Nat.le_of_ble_eq_true rfl) ⟨Nat.le_of_ble_eq_true rfl, Nat.le_of_ble_eq_true rfl⟩ ⟨Nat.le_of_ble_eq_true rfl, Nat.le_of_ble_eq_true rfl⟩ ?_
      refine v_if_eq (dq D_X10_refusesDraw 13 rfl) rfl (fun c5 => ?_) (fun c5 => ?_)
      · have h := itp h c5
        exact v_sub [] rfl (w_X10_refusesDraw_34 h)
      · have h := itn h c5
        refine v_iconst (dq D_X10_refusesDraw 14 rfl) kc_0 ?_
        refine v_goto (dq D_X10_refusesDraw 15 rfl) rfl ?_
        exact v_sub [] rfl (w_X10_refusesDraw_35 h)
  · have h := itp h c1
    refine v_iconst (dq D_X10_refusesDraw 2 rfl) kc_1 ?_
    refine v_goto (dq D_X10_refusesDraw 3 rfl) rfl ?_
    exact v_sub [] rfl (w_X10_refusesDraw_35 h)
theorem m_X10_refusesDraw {sa : Env3} {a0 : Nat} {a1 : Int32} {a2 : Int32} {a3 : Int32} {σ : St} {r : Int32 × St} (h : f_X10_refusesDraw a0 a1 a2 a3 σ = some r) : Ex sa yX10_refusesDraw cX10_refusesDraw K_X10_refusesDraw [.ref a0, .int a1, .int a2, .int a3] σ (pO r) := Ex.of (by decide) rfl (fun q => nomatch q) (Nat.le_of_ble_eq_true rfl) (w_X10_refusesDraw_0 (itg h).2)
theorem w_X10_draws_0 {sa : Env3} {a0 : Nat} {a1 : Int32} {σ : St} {r : Int32 × St} (h : f_X10_draws_0 a0 a1 σ = some r) : VV sa cX10_draws K_X10_draws 0 [(0, .ref a0), (1, .int a1)] [] σ (pO r) 0 0 := by
  unfold f_X10_draws_0 at h
  refine v_aload_n (dq D_X10_draws 0 rfl) 0 rfl ?_
  refine v_ldc2 (dq D_X10_draws 1 rfl) tw_1861 ?_
  refine v_aload_n (dq D_X10_draws 2 rfl) 0 rfl ?_
  obtain ⟨x1, hx1, h⟩ := obi h
  refine v_gI (dq D_X10_draws 3 rfl) fa_RX10_447 hx1 ?_
  refine v_i2l (dq D_X10_draws 4 rfl) ?_
  refine v_lmul (dq D_X10_draws 5 rfl) ?_
  refine v_ldc2 (dq D_X10_draws 6 rfl) tw_1862 ?_
  refine v_ladd (dq D_X10_draws 7 rfl) ?_
  refine v_ldc2 (dq D_X10_draws 8 rfl) tw_1863 ?_
  refine v_lrem (dq D_X10_draws 9 rfl) (by decide) ?_
  refine v_l2i (dq D_X10_draws 10 rfl) ?_
  obtain ⟨σ2, hσ2, h⟩ := obi h
  refine v_pI (dq D_X10_draws 11 rfl) fp_RX10_447 hσ2 ?_
  refine v_aload_n (dq D_X10_draws 12 rfl) 0 rfl ?_
  obtain ⟨x3, hx3, h⟩ := obi h
  refine v_gI (dq D_X10_draws 13 rfl) fa_RX10_447 hx3 ?_
  refine v_iload_n (dq D_X10_draws 14 rfl) 1 rfl ?_
  have c4 := (itx h).1
  have h := (itx h).2
  refine v_irem (dq D_X10_draws 15 rfl) c4 ?_
  obtain rfl := Option.some.inj h
  exact v_iret (dq D_X10_draws 16 rfl) rfl ⟨rfl, rfl⟩
theorem m_X10_draws {sa : Env3} {a0 : Nat} {a1 : Int32} {σ : St} {r : Int32 × St} (h : f_X10_draws a0 a1 σ = some r) : Ex sa yX10_draws cX10_draws K_X10_draws [.ref a0, .int a1] σ (pO r) := Ex.of (by decide) rfl (fun q => nomatch q) (Nat.le_of_ble_eq_true rfl) (w_X10_draws_0 (itg h).2)
theorem w_X10_tries_122 {sa : Env3} {k16 : Nat → Int32 → Int32 → St → Option (St)} (hk16 : ∀ {a0 : Nat} {a2 : Int32} {a3 : Int32} {σ : St} {r : St}, k16 a0 a2 a3 σ = some r → VV sa cX10_tries K_X10_tries 16 [(0, .ref a0), (2, .int a2), (3, .int a3)] [] σ (pU r) 0 0) {a0 : Nat} {a2 : Int32} {a3 : Int32} {σ : St} {r : St} (h : f_X10_tries_122 k16 a0 a2 a3 σ = some r) : VV sa cX10_tries K_X10_tries 122 [(0, .ref a0), (2, .int a2), (3, .int a3)] [] σ (pU r) 0 0 := by
  unfold f_X10_tries_122 at h
  refine v_iinc (dq D_X10_tries 64 rfl) 2 [(3, .int (a3 + 1)), (0, .ref a0), (2, .int a2)] rfl kc_1 (Nat.le_of_ble_eq_true rfl) rfl ?_
  refine v_goto (dq D_X10_tries 65 rfl) rfl ?_
  exact v_sub [1, 2, 0] rfl (hk16 h)
theorem w_X10_tries_90 {sa : Env3} {k16 : Nat → Int32 → Int32 → St → Option (St)} (hk16 : ∀ {a0 : Nat} {a2 : Int32} {a3 : Int32} {σ : St} {r : St}, k16 a0 a2 a3 σ = some r → VV sa cX10_tries K_X10_tries 16 [(0, .ref a0), (2, .int a2), (3, .int a3)] [] σ (pU r) 0 0) {a0 : Nat} {a2 : Int32} {a3 : Int32} {a4 : Int32} {σ : St} {r : St} (h : f_X10_tries_90 k16 a0 a2 a3 a4 σ = some r) : VV sa cX10_tries K_X10_tries 90 [(0, .ref a0), (2, .int a2), (3, .int a3), (4, .int a4)] [] σ (pU r) 0 0 := by
  unfold f_X10_tries_90 at h
  refine v_iload (dq D_X10_tries 48 rfl) 3 rfl ?_
  refine v_iconst (dq D_X10_tries 49 rfl) kc_2 ?_
  refine v_icmp_ne (dq D_X10_tries 50 rfl) rfl (fun c1 => ?_) (fun c1 => ?_)
  · have h := itn h c1
    exact v_sub [0, 1, 2] rfl (w_X10_tries_122 hk16 h)
  · have h := itp h c1
    refine v_aload_n (dq D_X10_tries 51 rfl) 0 rfl ?_
    obtain ⟨q2, hq2, h⟩ := obi h
    refine v_cVi (bc := 0) (bs := 0) (As := []) (dq D_X10_tries 52 rfl) cv_X10_whyNoCommit ml_RX10_387 (itg hq2).1 (m_X10_whyNoCommit hq2) rfl rfl (Nat.le_of_ble_eq_true rfl) ⟨Nat.le_of_ble_eq_true rfl, Nat.le_of_ble_eq_true rfl⟩ ⟨Nat.le_of_ble_eq_true rfl, Nat.le_of_ble_eq_true rfl⟩ ?_
    refine v_if_ne (dq D_X10_tries 53 rfl) rfl (fun c3 => ?_) (fun c3 => ?_)
    · have h := itn h c3
      exact v_sub [0, 1, 2] rfl (w_X10_tries_122 hk16 h)
    · have h := itp h c3
      refine v_aload_n (dq D_X10_tries 54 rfl) 0 rfl ?_
      obtain ⟨q4, hq4, h⟩ := obi h
      refine v_cVi (bc := 0) (bs := 0) (As := []) (dq D_X10_tries 55 rfl) cv_X10_commitsOne ml_RX10_393 (itg hq4).1 (m_X10_commitsOne hq4) rfl rfl (Nat.le_of_ble_eq_true rfl) ⟨Nat.le_of_ble_eq_true rfl, Nat.le_of_ble_eq_true rfl⟩ ⟨Nat.le_of_ble_eq_true rfl, Nat.le_of_ble_eq_true rfl⟩ ?_
      refine v_bipush (dq D_X10_tries 56 rfl) kb_m2 ?_
      refine v_icmp_eq (dq D_X10_tries 57 rfl) rfl (fun c5 => ?_) (fun c5 => ?_)
      · have h := itp h c5
        exact v_sub [0, 1, 2] rfl (w_X10_tries_122 hk16 h)
      · have h := itn h c5
        refine v_aload_n (dq D_X10_tries 58 rfl) 0 rfl ?_
        refine v_dup (dq D_X10_tries 59 rfl) rfl ?_
        obtain ⟨x6, hx6, h⟩ := obi h
        refine v_gI (dq D_X10_tries 60 rfl) fa_RX10_454 hx6 ?_
        refine v_iconst (dq D_X10_tries 61 rfl) kc_1 ?_
        refine v_iadd (dq D_X10_tries 62 rfl) ?_
        obtain ⟨σ7, hσ7, h⟩ := obi h
        refine v_pI (dq D_X10_tries 63 rfl) fp_RX10_454 hσ7 ?_
        exact v_sub [0, 1, 2] rfl (w_X10_tries_122 hk16 h)
theorem w_X10_tries_45 {sa : Env3} {k16 : Nat → Int32 → Int32 → St → Option (St)} (hk16 : ∀ {a0 : Nat} {a2 : Int32} {a3 : Int32} {σ : St} {r : St}, k16 a0 a2 a3 σ = some r → VV sa cX10_tries K_X10_tries 16 [(0, .ref a0), (2, .int a2), (3, .int a3)] [] σ (pU r) 0 0) {a0 : Nat} {a2 : Int32} {a3 : Int32} {a4 : Int32} {σ : St} {r : St} (h : f_X10_tries_45 k16 a0 a2 a3 a4 σ = some r) : VV sa cX10_tries K_X10_tries 45 [(0, .ref a0), (2, .int a2), (3, .int a3), (4, .int a4)] [] σ (pU r) 0 0 := by
  unfold f_X10_tries_45 at h
  refine v_iload (dq D_X10_tries 25 rfl) 3 rfl ?_
  refine v_iconst (dq D_X10_tries 26 rfl) kc_1 ?_
  refine v_icmp_ne (dq D_X10_tries 27 rfl) rfl (fun c1 => ?_) (fun c1 => ?_)
  · have h := itn h c1
    exact w_X10_tries_90 hk16 h
  · have h := itp h c1
    refine v_aload_n (dq D_X10_tries 28 rfl) 0 rfl ?_
    obtain ⟨x2, hx2, h⟩ := obi h
    refine v_gR (dq D_X10_tries 29 rfl) fa_RX10_24 hx2 ?_
    refine v_bipush (dq D_X10_tries 30 rfl) kb_34 ?_
    obtain ⟨x3, hx3, h⟩ := obi h
    refine v_iald (dq D_X10_tries 31 rfl) hx3 ?_
    refine v_if_le (dq D_X10_tries 32 rfl) rfl (fun c4 => ?_) (fun c4 => ?_)
    · have h := itp h c4
      exact w_X10_tries_90 hk16 h
    · have h := itn h c4
      refine v_aload_n (dq D_X10_tries 33 rfl) 0 rfl ?_
      refine v_aload_n (dq D_X10_tries 34 rfl) 0 rfl ?_
      obtain ⟨x5, hx5, h⟩ := obi h
      refine v_gR (dq D_X10_tries 35 rfl) fa_RX10_24 hx5 ?_
      refine v_bipush (dq D_X10_tries 36 rfl) kb_34 ?_
      obtain ⟨x6, hx6, h⟩ := obi h
      refine v_iald (dq D_X10_tries 37 rfl) hx6 ?_
      obtain ⟨q7, hq7, h⟩ := obi h
      refine v_cVi (bc := 0) (bs := 0) (As := [.int x6]) (dq D_X10_tries 38 rfl) cv_X10_draws ml_RX10_457 (itg hq7).1 (m_X10_draws hq7) rfl rfl (Nat.le_of_ble_eq_true rfl) ⟨Nat.le_of_ble_eq_true rfl, Nat.le_of_ble_eq_true rfl⟩ ⟨Nat.le_of_ble_eq_true rfl, Nat.le_of_ble_eq_true rfl⟩ ?_
      refine v_istore (dq D_X10_tries 39 rfl) [(5, .int q7.1), (0, .ref a0), (2, .int a2), (3, .int a3), (4, .int a4)] (Nat.le_of_ble_eq_true rfl) rfl ?_
      refine v_aload_n (dq D_X10_tries 40 rfl) 1 rfl ?_
      refine v_iload (dq D_X10_tries 41 rfl) 0 rfl ?_
      obtain ⟨q8, hq8, h⟩ := obi h
      refine v_cVi (bc := 0) (bs := 0) (As := [.int q7.1]) (dq D_X10_tries 42 rfl) cv_X10_isRunnable ml_RX10_381 (itg hq8).1 (m_X10_isRunnable hq8) rfl rfl (Nat.le_of_ble_eq_true rfl) ⟨Nat.le_of_ble_eq_true rfl, Nat.le_of_ble_eq_true rfl⟩ ⟨Nat.le_of_ble_eq_true rfl, Nat.le_of_ble_eq_true rfl⟩ ?_
      refine v_if_eq (dq D_X10_tries 43 rfl) rfl (fun c9 => ?_) (fun c9 => ?_)
      · have h := itp h c9
        exact v_sub [1, 2, 3, 4] rfl (w_X10_tries_90 hk16 h)
      · have h := itn h c9
        refine v_aload_n (dq D_X10_tries 44 rfl) 1 rfl ?_
        refine v_iload (dq D_X10_tries 45 rfl) 0 rfl ?_
        obtain ⟨q10, hq10, h⟩ := obi h
        refine v_cVi (bc := 0) (bs := 0) (As := [.int q7.1]) (dq D_X10_tries 46 rfl) cv_X10_runsOne ml_RX10_396 (itg hq10).1 (m_X10_runsOne hq10) rfl rfl (Nat.le_of_ble_eq_true rfl) ⟨Nat.le_of_ble_eq_true rfl, Nat.le_of_ble_eq_true rfl⟩ ⟨Nat.le_of_ble_eq_true rfl, Nat.le_of_ble_eq_true rfl⟩ ?_
        refine v_pop (dq D_X10_tries 47 rfl) rfl ?_
        exact v_sub [1, 2, 3, 4] rfl (w_X10_tries_90 hk16 h)
theorem w_X10_tries_16 {sa : Env3} : ∀ (n : Nat) {a0 : Nat} {a2 : Int32} {a3 : Int32} {σ : St} {r : St}, f_X10_tries_16 n a0 a2 a3 σ = some r → VV sa cX10_tries K_X10_tries 16 [(0, .ref a0), (2, .int a2), (3, .int a3)] [] σ (pU r) 0 0 := by
  intro n
  induction n with
  | zero => intro a0 a2 a3 σ r h; cases h
  | succ n ih =>
    intro a0 a2 a3 σ r h
    rw [e_X10_tries_16] at h
    refine v_iload_n (dq D_X10_tries 10 rfl) 2 rfl ?_
    refine v_iload_n (dq D_X10_tries 11 rfl) 1 rfl ?_
    refine v_icmp_ge (dq D_X10_tries 12 rfl) rfl (fun c1 => ?_) (fun c1 => ?_)
    · have h := itp h c1
      obtain rfl := Option.some.inj h
      exact v_vret (dq D_X10_tries 66 rfl) rfl ⟨rfl, rfl⟩
    · have h := itn h c1
      refine v_aload_n (dq D_X10_tries 13 rfl) 0 rfl ?_
      refine v_iconst (dq D_X10_tries 14 rfl) kc_3 ?_
      obtain ⟨q2, hq2, h⟩ := obi h
      refine v_cVi (bc := 0) (bs := 0) (As := [.int 3]) (dq D_X10_tries 15 rfl) cv_X10_draws ml_RX10_457 (itg hq2).1 (m_X10_draws hq2) rfl rfl (Nat.le_of_ble_eq_true rfl) ⟨Nat.le_of_ble_eq_true rfl, Nat.le_of_ble_eq_true rfl⟩ ⟨Nat.le_of_ble_eq_true rfl, Nat.le_of_ble_eq_true rfl⟩ ?_
      refine v_istore (dq D_X10_tries 16 rfl) [(4, .int q2.1), (0, .ref a0), (2, .int a2), (3, .int a3)] (Nat.le_of_ble_eq_true rfl) rfl ?_
      refine v_iload (dq D_X10_tries 17 rfl) 0 rfl ?_
      refine v_if_ne (dq D_X10_tries 18 rfl) rfl (fun c3 => ?_) (fun c3 => ?_)
      · have h := itn h c3
        exact v_sub [1, 2, 3, 0] rfl (w_X10_tries_45 ih h)
      · have h := itp h c3
        refine v_aload_n (dq D_X10_tries 19 rfl) 1 rfl ?_
        obtain ⟨q4, hq4, h⟩ := obi h
        refine v_cVi (bc := 0) (bs := 0) (As := []) (dq D_X10_tries 20 rfl) cv_X10_whyNoFetch ml_RX10_384 (itg hq4).1 (m_X10_whyNoFetch hq4) rfl rfl (Nat.le_of_ble_eq_true rfl) ⟨Nat.le_of_ble_eq_true rfl, Nat.le_of_ble_eq_true rfl⟩ ⟨Nat.le_of_ble_eq_true rfl, Nat.le_of_ble_eq_true rfl⟩ ?_
        refine v_if_ne (dq D_X10_tries 21 rfl) rfl (fun c5 => ?_) (fun c5 => ?_)
        · have h := itn h c5
          exact v_sub [1, 2, 3, 0] rfl (w_X10_tries_45 ih h)
        · have h := itp h c5
          refine v_aload_n (dq D_X10_tries 22 rfl) 1 rfl ?_
          obtain ⟨q6, hq6, h⟩ := obi h
          refine v_cVi (bc := 0) (bs := 0) (As := []) (dq D_X10_tries 23 rfl) cv_X10_fetches ml_RX10_402 (itg hq6).1 (m_X10_fetches hq6) rfl rfl (Nat.le_of_ble_eq_true rfl) ⟨Nat.le_of_ble_eq_true rfl, Nat.le_of_ble_eq_true rfl⟩ ⟨Nat.le_of_ble_eq_true rfl, Nat.le_of_ble_eq_true rfl⟩ ?_
          refine v_pop (dq D_X10_tries 24 rfl) rfl ?_
          exact v_sub [1, 2, 3, 0] rfl (w_X10_tries_45 ih h)
theorem w_X10_tries_0 {sa : Env3} {a0 : Nat} {a1 : Int32} {a2 : Int32} {σ : St} {r : St} (h : f_X10_tries_0 a0 a1 a2 σ = some r) : VV sa cX10_tries K_X10_tries 0 [(0, .ref a0), (1, .int a1), (2, .int a2)] [] σ (pU r) 0 0 := by
  unfold f_X10_tries_0 at h
  refine v_aload_n (dq D_X10_tries 0 rfl) 0 rfl ?_
  obtain ⟨σ1, hσ1, h⟩ := obi h
  refine v_cVv (bc := 0) (bs := 0) (As := []) (dq D_X10_tries 1 rfl) cv_X10_works ml_RX10_366 (itg hσ1).1 (m_X10_works hσ1) rfl rfl (Nat.le_of_ble_eq_true rfl) ⟨Nat.le_of_ble_eq_true rfl, Nat.le_of_ble_eq_true rfl⟩ ⟨Nat.le_of_ble_eq_true rfl, Nat.le_of_ble_eq_true rfl⟩ ?_
  refine v_aload_n (dq D_X10_tries 2 rfl) 0 rfl ?_
  refine v_iload_n (dq D_X10_tries 3 rfl) 1 rfl ?_
  obtain ⟨σ2, hσ2, h⟩ := obi h
  refine v_pI (dq D_X10_tries 4 rfl) fp_RX10_447 hσ2 ?_
  refine v_aload_n (dq D_X10_tries 5 rfl) 0 rfl ?_
  refine v_iconst (dq D_X10_tries 6 rfl) kc_0 ?_
  obtain ⟨σ3, hσ3, h⟩ := obi h
  refine v_pI (dq D_X10_tries 7 rfl) fp_RX10_454 hσ3 ?_
  refine v_iconst (dq D_X10_tries 8 rfl) kc_0 ?_
  refine v_istore_n (dq D_X10_tries 9 rfl) [(3, .int 0), (0, .ref a0), (1, .int a1), (2, .int a2)] rfl (Nat.le_of_ble_eq_true rfl) rfl ?_
  exact v_sub [1, 3, 0] rfl (w_X10_tries_16 _ h)
theorem m_X10_tries {sa : Env3} {a0 : Nat} {a1 : Int32} {a2 : Int32} {σ : St} {r : St} (h : f_X10_tries a0 a1 a2 σ = some r) : Ex sa yX10_tries cX10_tries K_X10_tries [.ref a0, .int a1, .int a2] σ (pU r) := Ex.of (by decide) rfl (fun q => nomatch q) (Nat.le_of_ble_eq_true rfl) (w_X10_tries_0 (itg h).2)
theorem w_X10_drawnCommits_18 {sa : Env3} {a0 : Nat} {a1 : Int32} {a2 : Int32} {s0 : Nat} {s1 : Int32} {σ : St} {r : Int32 × St} (h : f_X10_drawnCommits_18 a0 a1 a2 s0 s1 σ = some r) : VV sa cX10_drawnCommits K_X10_drawnCommits 18 [(0, .ref a0), (1, .int a1), (2, .int a2)] [.int s1, .ref s0] σ (pO r) 0 0 := by
  unfold f_X10_drawnCommits_18 at h
  refine v_iload_n (dq D_X10_drawnCommits 10 rfl) 1 rfl ?_
  refine v_iload_n (dq D_X10_drawnCommits 11 rfl) 2 rfl ?_
  obtain ⟨q1, hq1, h⟩ := obi h
  refine v_cVi (bc := 0) (bs := 0) (As := [.int s1, .int a1, .int a2]) (dq D_X10_drawnCommits 12 rfl) cv_X10_refusesDraw ml_RX10_461 (itg hq1).1 (m_X10_refusesDraw hq1) rfl rfl (Nat.le_of_ble_eq_true rfl) ⟨Nat.le_of_ble_eq_true rfl, Nat.le_of_ble_eq_true rfl⟩ ⟨Nat.le_of_ble_eq_true rfl, Nat.le_of_ble_eq_true rfl⟩ ?_
  refine v_istore_n (dq D_X10_drawnCommits 13 rfl) [(3, .int q1.1), (0, .ref a0), (1, .int a1), (2, .int a2)] rfl (Nat.le_of_ble_eq_true rfl) rfl ?_
  refine v_iload_n (dq D_X10_drawnCommits 14 rfl) 0 rfl ?_
  refine v_if_le (dq D_X10_drawnCommits 15 rfl) rfl (fun c2 => ?_) (fun c2 => ?_)
  · have h := itp h c2
    refine v_aload_n (dq D_X10_drawnCommits 20 rfl) 1 rfl ?_
    refine v_iload_n (dq D_X10_drawnCommits 21 rfl) 2 rfl ?_
    refine v_iload_n (dq D_X10_drawnCommits 22 rfl) 3 rfl ?_
    obtain ⟨σ3, hσ3, h⟩ := obi h
    refine v_cVv (bc := 0) (bs := 0) (As := [.int a1, .int a2]) (dq D_X10_drawnCommits 23 rfl) cv_X10_tries ml_RX10_465 (itg hσ3).1 (m_X10_tries hσ3) rfl rfl (Nat.le_of_ble_eq_true rfl) ⟨Nat.le_of_ble_eq_true rfl, Nat.le_of_ble_eq_true rfl⟩ ⟨Nat.le_of_ble_eq_true rfl, Nat.le_of_ble_eq_true rfl⟩ ?_
    refine v_aload_n (dq D_X10_drawnCommits 24 rfl) 1 rfl ?_
    refine v_aload_n (dq D_X10_drawnCommits 25 rfl) 1 rfl ?_
    obtain ⟨x4, hx4, h⟩ := obi h
    refine v_gI (dq D_X10_drawnCommits 26 rfl) fa_RX10_454 hx4 ?_
    obtain ⟨q5, hq5, h⟩ := obi h
    refine v_cVi (bc := 0) (bs := 0) (As := [.int x4]) (dq D_X10_drawnCommits 27 rfl) cv_X10_good ml_RX10_46 (itg hq5).1 (m_X10_good hq5) rfl rfl (Nat.le_of_ble_eq_true rfl) ⟨Nat.le_of_ble_eq_true rfl, Nat.le_of_ble_eq_true rfl⟩ ⟨Nat.le_of_ble_eq_true rfl, Nat.le_of_ble_eq_true rfl⟩ ?_
    obtain rfl := Option.some.inj h
    exact v_iret (dq D_X10_drawnCommits 28 rfl) rfl ⟨rfl, rfl⟩
  · have h := itn h c2
    refine v_aload_n (dq D_X10_drawnCommits 16 rfl) 1 rfl ?_
    refine v_iload_n (dq D_X10_drawnCommits 17 rfl) 0 rfl ?_
    obtain ⟨q6, hq6, h⟩ := obi h
    refine v_cVi (bc := 0) (bs := 0) (As := [.int q1.1]) (dq D_X10_drawnCommits 18 rfl) cv_X10_refused ml_RX10_42 (itg hq6).1 (m_X10_refused hq6) rfl rfl (Nat.le_of_ble_eq_true rfl) ⟨Nat.le_of_ble_eq_true rfl, Nat.le_of_ble_eq_true rfl⟩ ⟨Nat.le_of_ble_eq_true rfl, Nat.le_of_ble_eq_true rfl⟩ ?_
    obtain rfl := Option.some.inj h
    exact v_iret (dq D_X10_drawnCommits 19 rfl) rfl ⟨rfl, rfl⟩
theorem w_X10_drawnCommits_0 {sa : Env3} {a0 : Nat} {a1 : Int32} {a2 : Int32} {σ : St} {r : Int32 × St} (h : f_X10_drawnCommits_0 a0 a1 a2 σ = some r) : VV sa cX10_drawnCommits K_X10_drawnCommits 0 [(0, .ref a0), (1, .int a1), (2, .int a2)] [] σ (pO r) 0 0 := by
  unfold f_X10_drawnCommits_0 at h
  refine v_aload_n (dq D_X10_drawnCommits 0 rfl) 0 rfl ?_
  refine v_iconst (dq D_X10_drawnCommits 1 rfl) kc_0 ?_
  obtain ⟨σ1, hσ1, h⟩ := obi h
  refine v_pI (dq D_X10_drawnCommits 2 rfl) fp_RX10_36 hσ1 ?_
  refine v_aload_n (dq D_X10_drawnCommits 3 rfl) 0 rfl ?_
  refine v_aload_n (dq D_X10_drawnCommits 4 rfl) 0 rfl ?_
  obtain ⟨x2, hx2, h⟩ := obi h
  refine v_gQ (dq D_X10_drawnCommits 5 rfl) fa_RX10_266 hx2 ?_
  rcases oc_inv h with ⟨rfl, h⟩ | ⟨b3, rfl, h⟩
  · refine v_ifnullN (dq D_X10_drawnCommits 6 rfl) rfl ?_
    refine v_iconst (dq D_X10_drawnCommits 9 rfl) kc_0 ?_
    exact w_X10_drawnCommits_18 h
  · refine v_ifnullR (dq D_X10_drawnCommits 6 rfl) ?_
    refine v_iconst (dq D_X10_drawnCommits 7 rfl) kc_1 ?_
    refine v_goto (dq D_X10_drawnCommits 8 rfl) rfl ?_
    exact w_X10_drawnCommits_18 h
theorem m_X10_drawnCommits {sa : Env3} {a0 : Nat} {a1 : Int32} {a2 : Int32} {σ : St} {r : Int32 × St} (h : f_X10_drawnCommits a0 a1 a2 σ = some r) : Ex sa yX10_drawnCommits cX10_drawnCommits K_X10_drawnCommits [.ref a0, .int a1, .int a2] σ (pO r) := Ex.of (by decide) rfl (fun q => nomatch q) (Nat.le_of_ble_eq_true rfl) (w_X10_drawnCommits_0 (itg h).2)
theorem w_X10_isRegister_22 {sa : Env3} {s0 : Int32} {σ : St} {r : Int32 × St} (h : f_X10_isRegister_22 s0 σ = some r) : VV sa cX10_isRegister K_X10_isRegister 22 [] [.int s0] σ (pO r) 0 0 := by
  unfold f_X10_isRegister_22 at h
  have hz := (itg h).1
  have h := (itg h).2
  obtain rfl := Option.some.inj h
  exact v_zret (dq D_X10_isRegister 11 rfl) rfl (z_nar hz) ⟨rfl, rfl⟩
theorem w_X10_isRegister_21 {sa : Env3}  {σ : St} {r : Int32 × St} (h : f_X10_isRegister_21  σ = some r) : VV sa cX10_isRegister K_X10_isRegister 21 [] [] σ (pO r) 0 0 := by
  unfold f_X10_isRegister_21 at h
  refine v_iconst (dq D_X10_isRegister 10 rfl) kc_0 ?_
  exact w_X10_isRegister_22 h
theorem w_X10_isRegister_0 {sa : Env3} {a0 : Nat} {a1 : Int32} {σ : St} {r : Int32 × St} (h : f_X10_isRegister_0 a0 a1 σ = some r) : VV sa cX10_isRegister K_X10_isRegister 0 [(0, .ref a0), (1, .int a1)] [] σ (pO r) 0 0 := by
  unfold f_X10_isRegister_0 at h
  refine v_aload_n (dq D_X10_isRegister 0 rfl) 0 rfl ?_
  obtain ⟨x1, hx1, h⟩ := obi h
  refine v_gQ (dq D_X10_isRegister 1 rfl) fa_RX10_266 hx1 ?_
  rcases oc_inv h with ⟨rfl, h⟩ | ⟨b2, rfl, h⟩
  · refine v_ifnullN (dq D_X10_isRegister 2 rfl) rfl ?_
    exact v_sub [] rfl (w_X10_isRegister_21 h)
  · refine v_ifnullR (dq D_X10_isRegister 2 rfl) ?_
    refine v_iload_n (dq D_X10_isRegister 3 rfl) 1 rfl ?_
    refine v_if_lt (dq D_X10_isRegister 4 rfl) rfl (fun c3 => ?_) (fun c3 => ?_)
    · have h := itp h c3
      exact v_sub [] rfl (w_X10_isRegister_21 h)
    · have h := itn h c3
      refine v_iload_n (dq D_X10_isRegister 5 rfl) 1 rfl ?_
      refine v_bipush (dq D_X10_isRegister 6 rfl) kb_8 ?_
      refine v_icmp_ge (dq D_X10_isRegister 7 rfl) rfl (fun c4 => ?_) (fun c4 => ?_)
      · have h := itp h c4
        exact v_sub [] rfl (w_X10_isRegister_21 h)
      · have h := itn h c4
        refine v_iconst (dq D_X10_isRegister 8 rfl) kc_1 ?_
        refine v_goto (dq D_X10_isRegister 9 rfl) rfl ?_
        exact v_sub [] rfl (w_X10_isRegister_22 h)
theorem m_X10_isRegister {sa : Env3} {a0 : Nat} {a1 : Int32} {σ : St} {r : Int32 × St} (h : f_X10_isRegister a0 a1 σ = some r) : Ex sa yX10_isRegister cX10_isRegister K_X10_isRegister [.ref a0, .int a1] σ (pO r) := Ex.of (by decide) rfl (fun q => nomatch q) (Nat.le_of_ble_eq_true rfl) (w_X10_isRegister_0 (itg h).2)
theorem w_X10_valueOf_27 {sa : Env3} {s0 : Int32} {σ : St} {r : Int32 × St} (h : f_X10_valueOf_27 s0 σ = some r) : VV sa cX10_valueOf K_X10_valueOf 27 [] [.int s0] σ (pO r) 0 0 := by
  unfold f_X10_valueOf_27 at h
  obtain rfl := Option.some.inj h
  exact v_iret (dq D_X10_valueOf 15 rfl) rfl ⟨rfl, rfl⟩
theorem w_X10_valueOf_0 {sa : Env3} {a0 : Nat} {a1 : Int32} {σ : St} {r : Int32 × St} (h : f_X10_valueOf_0 a0 a1 σ = some r) : VV sa cX10_valueOf K_X10_valueOf 0 [(0, .ref a0), (1, .int a1)] [] σ (pO r) 0 0 := by
  unfold f_X10_valueOf_0 at h
  refine v_aload_n (dq D_X10_valueOf 0 rfl) 0 rfl ?_
  refine v_iload_n (dq D_X10_valueOf 1 rfl) 1 rfl ?_
  obtain ⟨q1, hq1, h⟩ := obi h
  refine v_cVi (bc := 0) (bs := 0) (As := [.int a1]) (dq D_X10_valueOf 2 rfl) cv_X10_isLetGo ml_RX10_333 (itg hq1).1 (m_X10_isLetGo hq1) rfl rfl (Nat.le_of_ble_eq_true rfl) ⟨Nat.le_of_ble_eq_true rfl, Nat.le_of_ble_eq_true rfl⟩ ⟨Nat.le_of_ble_eq_true rfl, Nat.le_of_ble_eq_true rfl⟩ ?_
  refine v_if_eq (dq D_X10_valueOf 3 rfl) rfl (fun c2 => ?_) (fun c2 => ?_)
  · have h := itp h c2
    refine v_aload_n (dq D_X10_valueOf 6 rfl) 0 rfl ?_
    obtain ⟨x3, hx3, h⟩ := obi h
    refine v_gR (dq D_X10_valueOf 7 rfl) fa_RX10_24 hx3 ?_
    refine v_bipush (dq D_X10_valueOf 8 rfl) kb_9 ?_
    refine v_aload_n (dq D_X10_valueOf 9 rfl) 0 rfl ?_
    obtain ⟨x4, hx4, h⟩ := obi h
    refine v_gR (dq D_X10_valueOf 10 rfl) fa_RX10_24 hx4 ?_
    refine v_iload_n (dq D_X10_valueOf 11 rfl) 1 rfl ?_
    obtain ⟨x5, hx5, h⟩ := obi h
    refine v_iald (dq D_X10_valueOf 12 rfl) hx5 ?_
    refine v_iadd (dq D_X10_valueOf 13 rfl) ?_
    obtain ⟨x6, hx6, h⟩ := obi h
    refine v_iald (dq D_X10_valueOf 14 rfl) hx6 ?_
    exact v_sub [] rfl (w_X10_valueOf_27 h)
  · have h := itn h c2
    refine v_bipush (dq D_X10_valueOf 4 rfl) kb_m2 ?_
    refine v_goto (dq D_X10_valueOf 5 rfl) rfl ?_
    exact v_sub [] rfl (w_X10_valueOf_27 h)
theorem m_X10_valueOf {sa : Env3} {a0 : Nat} {a1 : Int32} {σ : St} {r : Int32 × St} (h : f_X10_valueOf a0 a1 σ = some r) : Ex sa yX10_valueOf cX10_valueOf K_X10_valueOf [.ref a0, .int a1] σ (pO r) := Ex.of (by decide) rfl (fun q => nomatch q) (Nat.le_of_ble_eq_true rfl) (w_X10_valueOf_0 (itg h).2)
theorem w_X10_drawnValue_0 {sa : Env3} {a0 : Nat} {a1 : Int32} {a2 : Int32} {a3 : Int32} {σ : St} {r : Int32 × St} (h : f_X10_drawnValue_0 a0 a1 a2 a3 σ = some r) : VV sa cX10_drawnValue K_X10_drawnValue 0 [(0, .ref a0), (1, .int a1), (2, .int a2), (3, .int a3)] [] σ (pO r) 0 0 := by
  unfold f_X10_drawnValue_0 at h
  refine v_aload_n (dq D_X10_drawnValue 0 rfl) 0 rfl ?_
  refine v_iconst (dq D_X10_drawnValue 1 rfl) kc_0 ?_
  obtain ⟨σ1, hσ1, h⟩ := obi h
  refine v_pI (dq D_X10_drawnValue 2 rfl) fp_RX10_36 hσ1 ?_
  refine v_aload_n (dq D_X10_drawnValue 3 rfl) 0 rfl ?_
  refine v_aload_n (dq D_X10_drawnValue 4 rfl) 0 rfl ?_
  refine v_iload_n (dq D_X10_drawnValue 5 rfl) 1 rfl ?_
  obtain ⟨q2, hq2, h⟩ := obi h
  refine v_cVi (bc := 0) (bs := 0) (As := [.int a1]) (dq D_X10_drawnValue 6 rfl) cv_X10_isRegister ml_RX10_363 (itg hq2).1 (m_X10_isRegister hq2) rfl rfl (Nat.le_of_ble_eq_true rfl) ⟨Nat.le_of_ble_eq_true rfl, Nat.le_of_ble_eq_true rfl⟩ ⟨Nat.le_of_ble_eq_true rfl, Nat.le_of_ble_eq_true rfl⟩ ?_
  refine v_iload_n (dq D_X10_drawnValue 7 rfl) 2 rfl ?_
  refine v_iload_n (dq D_X10_drawnValue 8 rfl) 3 rfl ?_
  obtain ⟨q3, hq3, h⟩ := obi h
  refine v_cVi (bc := 0) (bs := 0) (As := [.int q2.1, .int a2, .int a3]) (dq D_X10_drawnValue 9 rfl) cv_X10_refusesDraw ml_RX10_461 (itg hq3).1 (m_X10_refusesDraw hq3) rfl rfl (Nat.le_of_ble_eq_true rfl) ⟨Nat.le_of_ble_eq_true rfl, Nat.le_of_ble_eq_true rfl⟩ ⟨Nat.le_of_ble_eq_true rfl, Nat.le_of_ble_eq_true rfl⟩ ?_
  refine v_istore (dq D_X10_drawnValue 10 rfl) [(4, .int q3.1), (0, .ref a0), (1, .int a1), (2, .int a2), (3, .int a3)] (Nat.le_of_ble_eq_true rfl) rfl ?_
  refine v_iload (dq D_X10_drawnValue 11 rfl) 0 rfl ?_
  refine v_if_le (dq D_X10_drawnValue 12 rfl) rfl (fun c4 => ?_) (fun c4 => ?_)
  · have h := itp h c4
    refine v_aload_n (dq D_X10_drawnValue 17 rfl) 1 rfl ?_
    refine v_iload_n (dq D_X10_drawnValue 18 rfl) 3 rfl ?_
    refine v_iload_n (dq D_X10_drawnValue 19 rfl) 4 rfl ?_
    obtain ⟨σ5, hσ5, h⟩ := obi h
    refine v_cVv (bc := 0) (bs := 0) (As := [.int a2, .int a3]) (dq D_X10_drawnValue 20 rfl) cv_X10_tries ml_RX10_465 (itg hσ5).1 (m_X10_tries hσ5) rfl rfl (Nat.le_of_ble_eq_true rfl) ⟨Nat.le_of_ble_eq_true rfl, Nat.le_of_ble_eq_true rfl⟩ ⟨Nat.le_of_ble_eq_true rfl, Nat.le_of_ble_eq_true rfl⟩ ?_
    refine v_aload_n (dq D_X10_drawnValue 21 rfl) 1 rfl ?_
    refine v_aload_n (dq D_X10_drawnValue 22 rfl) 1 rfl ?_
    refine v_iload_n (dq D_X10_drawnValue 23 rfl) 2 rfl ?_
    obtain ⟨q6, hq6, h⟩ := obi h
    refine v_cVi (bc := 0) (bs := 0) (As := [.int a1]) (dq D_X10_drawnValue 24 rfl) cv_X10_valueOf ml_RX10_369 (itg hq6).1 (m_X10_valueOf hq6) rfl rfl (Nat.le_of_ble_eq_true rfl) ⟨Nat.le_of_ble_eq_true rfl, Nat.le_of_ble_eq_true rfl⟩ ⟨Nat.le_of_ble_eq_true rfl, Nat.le_of_ble_eq_true rfl⟩ ?_
    obtain ⟨q7, hq7, h⟩ := obi h
    refine v_cVi (bc := 0) (bs := 0) (As := [.int q6.1]) (dq D_X10_drawnValue 25 rfl) cv_X10_good ml_RX10_46 (itg hq7).1 (m_X10_good hq7) rfl rfl (Nat.le_of_ble_eq_true rfl) ⟨Nat.le_of_ble_eq_true rfl, Nat.le_of_ble_eq_true rfl⟩ ⟨Nat.le_of_ble_eq_true rfl, Nat.le_of_ble_eq_true rfl⟩ ?_
    obtain rfl := Option.some.inj h
    exact v_iret (dq D_X10_drawnValue 26 rfl) rfl ⟨rfl, rfl⟩
  · have h := itn h c4
    refine v_aload_n (dq D_X10_drawnValue 13 rfl) 1 rfl ?_
    refine v_iload (dq D_X10_drawnValue 14 rfl) 0 rfl ?_
    obtain ⟨q8, hq8, h⟩ := obi h
    refine v_cVi (bc := 0) (bs := 0) (As := [.int q3.1]) (dq D_X10_drawnValue 15 rfl) cv_X10_refused ml_RX10_42 (itg hq8).1 (m_X10_refused hq8) rfl rfl (Nat.le_of_ble_eq_true rfl) ⟨Nat.le_of_ble_eq_true rfl, Nat.le_of_ble_eq_true rfl⟩ ⟨Nat.le_of_ble_eq_true rfl, Nat.le_of_ble_eq_true rfl⟩ ?_
    obtain rfl := Option.some.inj h
    exact v_iret (dq D_X10_drawnValue 16 rfl) rfl ⟨rfl, rfl⟩
theorem m_X10_drawnValue {sa : Env3} {a0 : Nat} {a1 : Int32} {a2 : Int32} {a3 : Int32} {σ : St} {r : Int32 × St} (h : f_X10_drawnValue a0 a1 a2 a3 σ = some r) : Ex sa yX10_drawnValue cX10_drawnValue K_X10_drawnValue [.ref a0, .int a1, .int a2, .int a3] σ (pO r) := Ex.of (by decide) rfl (fun q => nomatch q) (Nat.le_of_ble_eq_true rfl) (w_X10_drawnValue_0 (itg h).2)
theorem w_X10_entries_31 {sa : Env3} {s0 : Int32} {σ : St} {r : Int32 × St} (h : f_X10_entries_31 s0 σ = some r) : VV sa cX10_entries K_X10_entries 31 [] [.int s0] σ (pO r) 0 0 := by
  unfold f_X10_entries_31 at h
  obtain rfl := Option.some.inj h
  exact v_iret (dq D_X10_entries 16 rfl) rfl ⟨rfl, rfl⟩
theorem w_X10_entries_0 {sa : Env3} {a0 : Nat} {σ : St} {r : Int32 × St} (h : f_X10_entries_0 a0 σ = some r) : VV sa cX10_entries K_X10_entries 0 [(0, .ref a0)] [] σ (pO r) 0 0 := by
  unfold f_X10_entries_0 at h
  refine v_aload_n (dq D_X10_entries 0 rfl) 0 rfl ?_
  refine v_iconst (dq D_X10_entries 1 rfl) kc_0 ?_
  obtain ⟨σ1, hσ1, h⟩ := obi h
  refine v_pI (dq D_X10_entries 2 rfl) fp_RX10_36 hσ1 ?_
  refine v_aload_n (dq D_X10_entries 3 rfl) 0 rfl ?_
  obtain ⟨x2, hx2, h⟩ := obi h
  refine v_gQ (dq D_X10_entries 4 rfl) fa_RX10_266 hx2 ?_
  rcases oc_inv h with ⟨rfl, h⟩ | ⟨b3, rfl, h⟩
  · refine v_ifnonnullN (dq D_X10_entries 5 rfl) ?_
    refine v_aload_n (dq D_X10_entries 6 rfl) 0 rfl ?_
    refine v_iconst (dq D_X10_entries 7 rfl) kc_1 ?_
    obtain ⟨q4, hq4, h⟩ := obi h
    refine v_cVi (bc := 0) (bs := 0) (As := [.int 1]) (dq D_X10_entries 8 rfl) cv_X10_refused ml_RX10_42 (itg hq4).1 (m_X10_refused hq4) rfl rfl (Nat.le_of_ble_eq_true rfl) ⟨Nat.le_of_ble_eq_true rfl, Nat.le_of_ble_eq_true rfl⟩ ⟨Nat.le_of_ble_eq_true rfl, Nat.le_of_ble_eq_true rfl⟩ ?_
    refine v_goto (dq D_X10_entries 9 rfl) rfl ?_
    exact v_sub [] rfl (w_X10_entries_31 h)
  · refine v_ifnonnullR (dq D_X10_entries 5 rfl) rfl ?_
    refine v_aload_n (dq D_X10_entries 10 rfl) 0 rfl ?_
    refine v_aload_n (dq D_X10_entries 11 rfl) 0 rfl ?_
    obtain ⟨x5, hx5, h⟩ := obi h
    refine v_gR (dq D_X10_entries 12 rfl) fa_RX10_21 hx5 ?_
    refine v_bipush (dq D_X10_entries 13 rfl) kb_34 ?_
    obtain ⟨x6, hx6, h⟩ := obi h
    refine v_iald (dq D_X10_entries 14 rfl) hx6 ?_
    obtain ⟨q7, hq7, h⟩ := obi h
    refine v_cVi (bc := 0) (bs := 0) (As := [.int x6]) (dq D_X10_entries 15 rfl) cv_X10_good ml_RX10_46 (itg hq7).1 (m_X10_good hq7) rfl rfl (Nat.le_of_ble_eq_true rfl) ⟨Nat.le_of_ble_eq_true rfl, Nat.le_of_ble_eq_true rfl⟩ ⟨Nat.le_of_ble_eq_true rfl, Nat.le_of_ble_eq_true rfl⟩ ?_
    exact v_sub [] rfl (w_X10_entries_31 h)
theorem m_X10_entries {sa : Env3} {a0 : Nat} {σ : St} {r : Int32 × St} (h : f_X10_entries a0 σ = some r) : Ex sa yX10_entries cX10_entries K_X10_entries [.ref a0] σ (pO r) := Ex.of (by decide) rfl (fun q => nomatch q) (Nat.le_of_ble_eq_true rfl) (w_X10_entries_0 (itg h).2)
theorem w_X10_isEntry_27 {sa : Env3} {s0 : Int32} {σ : St} {r : Int32 × St} (h : f_X10_isEntry_27 s0 σ = some r) : VV sa cX10_isEntry K_X10_isEntry 27 [] [.int s0] σ (pO r) 0 0 := by
  unfold f_X10_isEntry_27 at h
  have hz := (itg h).1
  have h := (itg h).2
  obtain rfl := Option.some.inj h
  exact v_zret (dq D_X10_isEntry 14 rfl) rfl (z_nar hz) ⟨rfl, rfl⟩
theorem w_X10_isEntry_26 {sa : Env3}  {σ : St} {r : Int32 × St} (h : f_X10_isEntry_26  σ = some r) : VV sa cX10_isEntry K_X10_isEntry 26 [] [] σ (pO r) 0 0 := by
  unfold f_X10_isEntry_26 at h
  refine v_iconst (dq D_X10_isEntry 13 rfl) kc_0 ?_
  exact w_X10_isEntry_27 h
theorem w_X10_isEntry_0 {sa : Env3} {a0 : Nat} {a1 : Int32} {σ : St} {r : Int32 × St} (h : f_X10_isEntry_0 a0 a1 σ = some r) : VV sa cX10_isEntry K_X10_isEntry 0 [(0, .ref a0), (1, .int a1)] [] σ (pO r) 0 0 := by
  unfold f_X10_isEntry_0 at h
  refine v_aload_n (dq D_X10_isEntry 0 rfl) 0 rfl ?_
  obtain ⟨x1, hx1, h⟩ := obi h
  refine v_gQ (dq D_X10_isEntry 1 rfl) fa_RX10_266 hx1 ?_
  rcases oc_inv h with ⟨rfl, h⟩ | ⟨b2, rfl, h⟩
  · refine v_ifnullN (dq D_X10_isEntry 2 rfl) rfl ?_
    exact v_sub [] rfl (w_X10_isEntry_26 h)
  · refine v_ifnullR (dq D_X10_isEntry 2 rfl) ?_
    refine v_iload_n (dq D_X10_isEntry 3 rfl) 1 rfl ?_
    refine v_if_lt (dq D_X10_isEntry 4 rfl) rfl (fun c3 => ?_) (fun c3 => ?_)
    · have h := itp h c3
      exact v_sub [] rfl (w_X10_isEntry_26 h)
    · have h := itn h c3
      refine v_iload_n (dq D_X10_isEntry 5 rfl) 1 rfl ?_
      refine v_aload_n (dq D_X10_isEntry 6 rfl) 0 rfl ?_
      obtain ⟨x4, hx4, h⟩ := obi h
      refine v_gR (dq D_X10_isEntry 7 rfl) fa_RX10_21 hx4 ?_
      refine v_bipush (dq D_X10_isEntry 8 rfl) kb_34 ?_
      obtain ⟨x5, hx5, h⟩ := obi h
      refine v_iald (dq D_X10_isEntry 9 rfl) hx5 ?_
      refine v_icmp_ge (dq D_X10_isEntry 10 rfl) rfl (fun c6 => ?_) (fun c6 => ?_)
      · have h := itp h c6
        exact v_sub [] rfl (w_X10_isEntry_26 h)
      · have h := itn h c6
        refine v_iconst (dq D_X10_isEntry 11 rfl) kc_1 ?_
        refine v_goto (dq D_X10_isEntry 12 rfl) rfl ?_
        exact v_sub [] rfl (w_X10_isEntry_27 h)
theorem m_X10_isEntry {sa : Env3} {a0 : Nat} {a1 : Int32} {σ : St} {r : Int32 × St} (h : f_X10_isEntry a0 a1 σ = some r) : Ex sa yX10_isEntry cX10_isEntry K_X10_isEntry [.ref a0, .int a1] σ (pO r) := Ex.of (by decide) rfl (fun q => nomatch q) (Nat.le_of_ble_eq_true rfl) (w_X10_isEntry_0 (itg h).2)
theorem w_X10_entry_23 {sa : Env3} {a0 : Nat} {σ : St} {r : Int32 × St} (h : f_X10_entry_23 a0 σ = some r) : VV sa cX10_entry K_X10_entry 23 [(0, .ref a0)] [] σ (pO r) 0 0 := by
  unfold f_X10_entry_23 at h
  refine v_aload_n (dq D_X10_entry 12 rfl) 0 rfl ?_
  refine v_iconst (dq D_X10_entry 13 rfl) kc_1 ?_
  obtain ⟨q1, hq1, h⟩ := obi h
  refine v_cVi (bc := 0) (bs := 0) (As := [.int 1]) (dq D_X10_entry 14 rfl) cv_X10_refused ml_RX10_42 (itg hq1).1 (m_X10_refused hq1) rfl rfl (Nat.le_of_ble_eq_true rfl) ⟨Nat.le_of_ble_eq_true rfl, Nat.le_of_ble_eq_true rfl⟩ ⟨Nat.le_of_ble_eq_true rfl, Nat.le_of_ble_eq_true rfl⟩ ?_
  obtain rfl := Option.some.inj h
  exact v_iret (dq D_X10_entry 15 rfl) rfl ⟨rfl, rfl⟩
theorem w_X10_entry_80 {sa : Env3} {a0 : Nat} {a1 : Int32} {a2 : Int32} {σ : St} {r : Int32 × St} (h : f_X10_entry_80 a0 a1 a2 σ = some r) : VV sa cX10_entry K_X10_entry 80 [(0, .ref a0), (1, .int a1), (2, .int a2)] [] σ (pO r) 0 0 := by
  unfold f_X10_entry_80 at h
  refine v_aload_n (dq D_X10_entry 20 rfl) 0 rfl ?_
  refine v_aload_n (dq D_X10_entry 21 rfl) 0 rfl ?_
  obtain ⟨x1, hx1, h⟩ := obi h
  refine v_gR (dq D_X10_entry 22 rfl) fa_RX10_24 hx1 ?_
  refine v_aload_n (dq D_X10_entry 23 rfl) 0 rfl ?_
  refine v_iload_n (dq D_X10_entry 24 rfl) 1 rfl ?_
  obtain ⟨q2, hq2, h⟩ := obi h
  refine v_cVi (bc := 0) (bs := 0) (As := [.int a1]) (dq D_X10_entry 25 rfl) cv_X10_at ml_RX10_316 (itg hq2).1 (m_X10_at hq2) rfl rfl (Nat.le_of_ble_eq_true rfl) ⟨Nat.le_of_ble_eq_true rfl, Nat.le_of_ble_eq_true rfl⟩ ⟨Nat.le_of_ble_eq_true rfl, Nat.le_of_ble_eq_true rfl⟩ ?_
  refine v_iload_n (dq D_X10_entry 26 rfl) 2 rfl ?_
  refine v_iadd (dq D_X10_entry 27 rfl) ?_
  obtain ⟨x3, hx3, h⟩ := obi h
  refine v_iald (dq D_X10_entry 28 rfl) hx3 ?_
  obtain ⟨q4, hq4, h⟩ := obi h
  refine v_cVi (bc := 0) (bs := 0) (As := [.int x3]) (dq D_X10_entry 29 rfl) cv_X10_good ml_RX10_46 (itg hq4).1 (m_X10_good hq4) rfl rfl (Nat.le_of_ble_eq_true rfl) ⟨Nat.le_of_ble_eq_true rfl, Nat.le_of_ble_eq_true rfl⟩ ⟨Nat.le_of_ble_eq_true rfl, Nat.le_of_ble_eq_true rfl⟩ ?_
  obtain rfl := Option.some.inj h
  exact v_iret (dq D_X10_entry 30 rfl) rfl ⟨rfl, rfl⟩
theorem w_X10_entry_112 {sa : Env3} {s0 : Nat} {s1 : Int32} {σ : St} {r : Int32 × St} (h : f_X10_entry_112 s0 s1 σ = some r) : VV sa cX10_entry K_X10_entry 112 [] [.int s1, .ref s0] σ (pO r) 0 0 := by
  unfold f_X10_entry_112 at h
  obtain ⟨q1, hq1, h⟩ := obi h
  refine v_cVi (bc := 0) (bs := 0) (As := [.int s1]) (dq D_X10_entry 40 rfl) cv_X10_good ml_RX10_46 (itg hq1).1 (m_X10_good hq1) rfl rfl (Nat.le_of_ble_eq_true rfl) ⟨Nat.le_of_ble_eq_true rfl, Nat.le_of_ble_eq_true rfl⟩ ⟨Nat.le_of_ble_eq_true rfl, Nat.le_of_ble_eq_true rfl⟩ ?_
  obtain rfl := Option.some.inj h
  exact v_iret (dq D_X10_entry 41 rfl) rfl ⟨rfl, rfl⟩
theorem w_X10_entry_131 {sa : Env3} {s0 : Nat} {s1 : Int32} {σ : St} {r : Int32 × St} (h : f_X10_entry_131 s0 s1 σ = some r) : VV sa cX10_entry K_X10_entry 131 [] [.int s1, .ref s0] σ (pO r) 0 0 := by
  unfold f_X10_entry_131 at h
  obtain ⟨q1, hq1, h⟩ := obi h
  refine v_cVi (bc := 0) (bs := 0) (As := [.int s1]) (dq D_X10_entry 51 rfl) cv_X10_good ml_RX10_46 (itg hq1).1 (m_X10_good hq1) rfl rfl (Nat.le_of_ble_eq_true rfl) ⟨Nat.le_of_ble_eq_true rfl, Nat.le_of_ble_eq_true rfl⟩ ⟨Nat.le_of_ble_eq_true rfl, Nat.le_of_ble_eq_true rfl⟩ ?_
  obtain rfl := Option.some.inj h
  exact v_iret (dq D_X10_entry 52 rfl) rfl ⟨rfl, rfl⟩
theorem w_X10_entry_150 {sa : Env3} {s0 : Nat} {s1 : Int32} {σ : St} {r : Int32 × St} (h : f_X10_entry_150 s0 s1 σ = some r) : VV sa cX10_entry K_X10_entry 150 [] [.int s1, .ref s0] σ (pO r) 0 0 := by
  unfold f_X10_entry_150 at h
  obtain ⟨q1, hq1, h⟩ := obi h
  refine v_cVi (bc := 0) (bs := 0) (As := [.int s1]) (dq D_X10_entry 62 rfl) cv_X10_good ml_RX10_46 (itg hq1).1 (m_X10_good hq1) rfl rfl (Nat.le_of_ble_eq_true rfl) ⟨Nat.le_of_ble_eq_true rfl, Nat.le_of_ble_eq_true rfl⟩ ⟨Nat.le_of_ble_eq_true rfl, Nat.le_of_ble_eq_true rfl⟩ ?_
  obtain rfl := Option.some.inj h
  exact v_iret (dq D_X10_entry 63 rfl) rfl ⟨rfl, rfl⟩
theorem w_X10_entry_170 {sa : Env3} {s0 : Nat} {s1 : Int32} {σ : St} {r : Int32 × St} (h : f_X10_entry_170 s0 s1 σ = some r) : VV sa cX10_entry K_X10_entry 170 [] [.int s1, .ref s0] σ (pO r) 0 0 := by
  unfold f_X10_entry_170 at h
  obtain ⟨q1, hq1, h⟩ := obi h
  refine v_cVi (bc := 0) (bs := 0) (As := [.int s1]) (dq D_X10_entry 73 rfl) cv_X10_good ml_RX10_46 (itg hq1).1 (m_X10_good hq1) rfl rfl (Nat.le_of_ble_eq_true rfl) ⟨Nat.le_of_ble_eq_true rfl, Nat.le_of_ble_eq_true rfl⟩ ⟨Nat.le_of_ble_eq_true rfl, Nat.le_of_ble_eq_true rfl⟩ ?_
  obtain rfl := Option.some.inj h
  exact v_iret (dq D_X10_entry 74 rfl) rfl ⟨rfl, rfl⟩
theorem w_X10_entry_188 {sa : Env3} {s0 : Nat} {s1 : Int32} {σ : St} {r : Int32 × St} (h : f_X10_entry_188 s0 s1 σ = some r) : VV sa cX10_entry K_X10_entry 188 [] [.int s1, .ref s0] σ (pO r) 0 0 := by
  unfold f_X10_entry_188 at h
  obtain ⟨q1, hq1, h⟩ := obi h
  refine v_cVi (bc := 0) (bs := 0) (As := [.int s1]) (dq D_X10_entry 83 rfl) cv_X10_good ml_RX10_46 (itg hq1).1 (m_X10_good hq1) rfl rfl (Nat.le_of_ble_eq_true rfl) ⟨Nat.le_of_ble_eq_true rfl, Nat.le_of_ble_eq_true rfl⟩ ⟨Nat.le_of_ble_eq_true rfl, Nat.le_of_ble_eq_true rfl⟩ ?_
  obtain rfl := Option.some.inj h
  exact v_iret (dq D_X10_entry 84 rfl) rfl ⟨rfl, rfl⟩
theorem w_X10_entry_0 {sa : Env3} {a0 : Nat} {a1 : Int32} {a2 : Int32} {σ : St} {r : Int32 × St} (h : f_X10_entry_0 a0 a1 a2 σ = some r) : VV sa cX10_entry K_X10_entry 0 [(0, .ref a0), (1, .int a1), (2, .int a2)] [] σ (pO r) 0 0 := by
  unfold f_X10_entry_0 at h
  refine v_aload_n (dq D_X10_entry 0 rfl) 0 rfl ?_
  refine v_iconst (dq D_X10_entry 1 rfl) kc_0 ?_
  obtain ⟨σ1, hσ1, h⟩ := obi h
  refine v_pI (dq D_X10_entry 2 rfl) fp_RX10_36 hσ1 ?_
  refine v_aload_n (dq D_X10_entry 3 rfl) 0 rfl ?_
  refine v_iload_n (dq D_X10_entry 4 rfl) 1 rfl ?_
  obtain ⟨q2, hq2, h⟩ := obi h
  refine v_cVi (bc := 0) (bs := 0) (As := [.int a1]) (dq D_X10_entry 5 rfl) cv_X10_isEntry ml_RX10_378 (itg hq2).1 (m_X10_isEntry hq2) rfl rfl (Nat.le_of_ble_eq_true rfl) ⟨Nat.le_of_ble_eq_true rfl, Nat.le_of_ble_eq_true rfl⟩ ⟨Nat.le_of_ble_eq_true rfl, Nat.le_of_ble_eq_true rfl⟩ ?_
  refine v_if_eq (dq D_X10_entry 6 rfl) rfl (fun c3 => ?_) (fun c3 => ?_)
  · have h := itp h c3
    exact v_sub [0] rfl (w_X10_entry_23 h)
  · have h := itn h c3
    refine v_iload_n (dq D_X10_entry 7 rfl) 2 rfl ?_
    refine v_iconst (dq D_X10_entry 8 rfl) kc_0 ?_
    refine v_bipush (dq D_X10_entry 9 rfl) kb_8 ?_
    obtain ⟨q4, hq4, h⟩ := obi h
    refine v_cSi (bc := 0) (bs := 0) (As := [.int a2, .int 0, .int 8]) (dq D_X10_entry 10 rfl) cs_X10_in ml_RX10_115 (m_X10_in hq4) rfl rfl (Nat.le_of_ble_eq_true rfl) ⟨Nat.le_of_ble_eq_true rfl, Nat.le_of_ble_eq_true rfl⟩ ⟨Nat.le_of_ble_eq_true rfl, Nat.le_of_ble_eq_true rfl⟩ ?_
    refine v_if_ne (dq D_X10_entry 11 rfl) rfl (fun c5 => ?_) (fun c5 => ?_)
    · have h := itn h c5
      refine v_aload_n (dq D_X10_entry 16 rfl) 0 rfl ?_
      obtain ⟨σ6, hσ6, h⟩ := obi h
      refine v_cVv (bc := 0) (bs := 0) (As := []) (dq D_X10_entry 17 rfl) cv_X10_works ml_RX10_366 (itg hσ6).1 (m_X10_works hσ6) rfl rfl (Nat.le_of_ble_eq_true rfl) ⟨Nat.le_of_ble_eq_true rfl, Nat.le_of_ble_eq_true rfl⟩ ⟨Nat.le_of_ble_eq_true rfl, Nat.le_of_ble_eq_true rfl⟩ ?_
      refine v_iload_n (dq D_X10_entry 18 rfl) 2 rfl ?_
      by_cases c7 : a2 = 0
      · have h := itp h c7
        refine v_tblAt (v := 0) (dq D_X10_entry 19 rfl) c7 (by decide) (by decide) rfl rfl ?_
        exact w_X10_entry_80 h
      · have h := itn h c7
        by_cases c8 : a2 = 1
        · have h := itp h c8
          refine v_tblAt (v := 1) (dq D_X10_entry 19 rfl) c8 (by decide) (by decide) rfl rfl ?_
          exact w_X10_entry_80 h
        · have h := itn h c8
          by_cases c9 : a2 = 2
          · have h := itp h c9
            refine v_tblAt (v := 2) (dq D_X10_entry 19 rfl) c9 (by decide) (by decide) rfl rfl ?_
            exact w_X10_entry_80 h
          · have h := itn h c9
            by_cases c10 : a2 = 3
            · have h := itp h c10
              refine v_tblAt (v := 3) (dq D_X10_entry 19 rfl) c10 (by decide) (by decide) rfl rfl ?_
              exact w_X10_entry_80 h
            · have h := itn h c10
              by_cases c11 : a2 = 4
              · have h := itp h c11
                refine v_tblAt (v := 4) (dq D_X10_entry 19 rfl) c11 (by decide) (by decide) rfl rfl ?_
                refine v_aload_n (dq D_X10_entry 31 rfl) 0 rfl ?_
                refine v_aload_n (dq D_X10_entry 32 rfl) 0 rfl ?_
                refine v_iload_n (dq D_X10_entry 33 rfl) 1 rfl ?_
                refine v_iconst (dq D_X10_entry 34 rfl) kc_1 ?_
                obtain ⟨q15, hq15, h⟩ := obi h
                refine v_cVi (bc := 0) (bs := 0) (As := [.int a1, .int 1]) (dq D_X10_entry 35 rfl) cv_X10_has ml_RX10_322 (itg hq15).1 (m_X10_has hq15) rfl rfl (Nat.le_of_ble_eq_true rfl) ⟨Nat.le_of_ble_eq_true rfl, Nat.le_of_ble_eq_true rfl⟩ ⟨Nat.le_of_ble_eq_true rfl, Nat.le_of_ble_eq_true rfl⟩ ?_
                refine v_if_eq (dq D_X10_entry 36 rfl) rfl (fun c16 => ?_) (fun c16 => ?_)
                · have h := itp h c16
                  refine v_iconst (dq D_X10_entry 39 rfl) kc_0 ?_
                  exact v_sub [] rfl (w_X10_entry_112 h)
                · have h := itn h c16
                  refine v_iconst (dq D_X10_entry 37 rfl) kc_1 ?_
                  refine v_goto (dq D_X10_entry 38 rfl) rfl ?_
                  exact v_sub [] rfl (w_X10_entry_112 h)
              · have h := itn h c11
                by_cases c12 : a2 = 5
                · have h := itp h c12
                  refine v_tblAt (v := 5) (dq D_X10_entry 19 rfl) c12 (by decide) (by decide) rfl rfl ?_
                  refine v_aload_n (dq D_X10_entry 42 rfl) 0 rfl ?_
                  refine v_aload_n (dq D_X10_entry 43 rfl) 0 rfl ?_
                  refine v_iload_n (dq D_X10_entry 44 rfl) 1 rfl ?_
                  refine v_iconst (dq D_X10_entry 45 rfl) kc_2 ?_
                  obtain ⟨q17, hq17, h⟩ := obi h
                  refine v_cVi (bc := 0) (bs := 0) (As := [.int a1, .int 2]) (dq D_X10_entry 46 rfl) cv_X10_has ml_RX10_322 (itg hq17).1 (m_X10_has hq17) rfl rfl (Nat.le_of_ble_eq_true rfl) ⟨Nat.le_of_ble_eq_true rfl, Nat.le_of_ble_eq_true rfl⟩ ⟨Nat.le_of_ble_eq_true rfl, Nat.le_of_ble_eq_true rfl⟩ ?_
                  refine v_if_eq (dq D_X10_entry 47 rfl) rfl (fun c18 => ?_) (fun c18 => ?_)
                  · have h := itp h c18
                    refine v_iconst (dq D_X10_entry 50 rfl) kc_0 ?_
                    exact v_sub [] rfl (w_X10_entry_131 h)
                  · have h := itn h c18
                    refine v_iconst (dq D_X10_entry 48 rfl) kc_1 ?_
                    refine v_goto (dq D_X10_entry 49 rfl) rfl ?_
                    exact v_sub [] rfl (w_X10_entry_131 h)
                · have h := itn h c12
                  by_cases c13 : a2 = 6
                  · have h := itp h c13
                    refine v_tblAt (v := 6) (dq D_X10_entry 19 rfl) c13 (by decide) (by decide) rfl rfl ?_
                    refine v_aload_n (dq D_X10_entry 53 rfl) 0 rfl ?_
                    refine v_aload_n (dq D_X10_entry 54 rfl) 0 rfl ?_
                    refine v_iload_n (dq D_X10_entry 55 rfl) 1 rfl ?_
                    refine v_iconst (dq D_X10_entry 56 rfl) kc_4 ?_
                    obtain ⟨q19, hq19, h⟩ := obi h
                    refine v_cVi (bc := 0) (bs := 0) (As := [.int a1, .int 4]) (dq D_X10_entry 57 rfl) cv_X10_has ml_RX10_322 (itg hq19).1 (m_X10_has hq19) rfl rfl (Nat.le_of_ble_eq_true rfl) ⟨Nat.le_of_ble_eq_true rfl, Nat.le_of_ble_eq_true rfl⟩ ⟨Nat.le_of_ble_eq_true rfl, Nat.le_of_ble_eq_true rfl⟩ ?_
                    refine v_if_eq (dq D_X10_entry 58 rfl) rfl (fun c20 => ?_) (fun c20 => ?_)
                    · have h := itp h c20
                      refine v_iconst (dq D_X10_entry 61 rfl) kc_0 ?_
                      exact v_sub [] rfl (w_X10_entry_150 h)
                    · have h := itn h c20
                      refine v_iconst (dq D_X10_entry 59 rfl) kc_1 ?_
                      refine v_goto (dq D_X10_entry 60 rfl) rfl ?_
                      exact v_sub [] rfl (w_X10_entry_150 h)
                  · have h := itn h c13
                    by_cases c14 : a2 = 7
                    · have h := itp h c14
                      refine v_tblAt (v := 7) (dq D_X10_entry 19 rfl) c14 (by decide) (by decide) rfl rfl ?_
                      refine v_aload_n (dq D_X10_entry 64 rfl) 0 rfl ?_
                      refine v_aload_n (dq D_X10_entry 65 rfl) 0 rfl ?_
                      refine v_iload_n (dq D_X10_entry 66 rfl) 1 rfl ?_
                      refine v_bipush (dq D_X10_entry 67 rfl) kb_8 ?_
                      obtain ⟨q21, hq21, h⟩ := obi h
                      refine v_cVi (bc := 0) (bs := 0) (As := [.int a1, .int 8]) (dq D_X10_entry 68 rfl) cv_X10_has ml_RX10_322 (itg hq21).1 (m_X10_has hq21) rfl rfl (Nat.le_of_ble_eq_true rfl) ⟨Nat.le_of_ble_eq_true rfl, Nat.le_of_ble_eq_true rfl⟩ ⟨Nat.le_of_ble_eq_true rfl, Nat.le_of_ble_eq_true rfl⟩ ?_
                      refine v_if_eq (dq D_X10_entry 69 rfl) rfl (fun c22 => ?_) (fun c22 => ?_)
                      · have h := itp h c22
                        refine v_iconst (dq D_X10_entry 72 rfl) kc_0 ?_
                        exact v_sub [] rfl (w_X10_entry_170 h)
                      · have h := itn h c22
                        refine v_iconst (dq D_X10_entry 70 rfl) kc_1 ?_
                        refine v_goto (dq D_X10_entry 71 rfl) rfl ?_
                        exact v_sub [] rfl (w_X10_entry_170 h)
                    · have h := itn h c14
                      refine v_tblOut (dq D_X10_entry 19 rfl) (by have g0 : (a2).toInt ≠ 0 := i32_ne c7; have g1 : (a2).toInt ≠ 1 := i32_ne c8; have g2 : (a2).toInt ≠ 2 := i32_ne c9; have g3 : (a2).toInt ≠ 3 := i32_ne c10; have g4 : (a2).toInt ≠ 4 := i32_ne c11; have g5 : (a2).toInt ≠ 5 := i32_ne c12; have g6 : (a2).toInt ≠ 6 := i32_ne c13; have g7 : (a2).toInt ≠ 7 := i32_ne c14; omega) rfl ?_
                      refine v_aload_n (dq D_X10_entry 75 rfl) 0 rfl ?_
                      refine v_aload_n (dq D_X10_entry 76 rfl) 0 rfl ?_
                      refine v_iload_n (dq D_X10_entry 77 rfl) 1 rfl ?_
                      obtain ⟨q23, hq23, h⟩ := obi h
                      refine v_cVi (bc := 0) (bs := 0) (As := [.int a1]) (dq D_X10_entry 78 rfl) cv_X10_isSure ml_RX10_330 (itg hq23).1 (m_X10_isSure hq23) rfl rfl (Nat.le_of_ble_eq_true rfl) ⟨Nat.le_of_ble_eq_true rfl, Nat.le_of_ble_eq_true rfl⟩ ⟨Nat.le_of_ble_eq_true rfl, Nat.le_of_ble_eq_true rfl⟩ ?_
                      refine v_if_eq (dq D_X10_entry 79 rfl) rfl (fun c24 => ?_) (fun c24 => ?_)
                      · have h := itp h c24
                        refine v_iconst (dq D_X10_entry 82 rfl) kc_0 ?_
                        exact v_sub [] rfl (w_X10_entry_188 h)
                      · have h := itn h c24
                        refine v_iconst (dq D_X10_entry 80 rfl) kc_1 ?_
                        refine v_goto (dq D_X10_entry 81 rfl) rfl ?_
                        exact v_sub [] rfl (w_X10_entry_188 h)
    · have h := itp h c5
      exact v_sub [0] rfl (w_X10_entry_23 h)
theorem m_X10_entry {sa : Env3} {a0 : Nat} {a1 : Int32} {a2 : Int32} {σ : St} {r : Int32 × St} (h : f_X10_entry a0 a1 a2 σ = some r) : Ex sa yX10_entry cX10_entry K_X10_entry [.ref a0, .int a1, .int a2] σ (pO r) := Ex.of (by decide) rfl (fun q => nomatch q) (Nat.le_of_ble_eq_true rfl) (w_X10_entry_0 (itg h).2)
theorem w_X10_fault_0 {sa : Env3} {a0 : Nat} {σ : St} {r : Int32 × St} (h : f_X10_fault_0 a0 σ = some r) : VV sa cX10_fault K_X10_fault 0 [(0, .ref a0)] [] σ (pO r) 0 0 := by
  unfold f_X10_fault_0 at h
  refine v_aload_n (dq D_X10_fault 0 rfl) 0 rfl ?_
  refine v_iconst (dq D_X10_fault 1 rfl) kc_0 ?_
  obtain ⟨σ1, hσ1, h⟩ := obi h
  refine v_pI (dq D_X10_fault 2 rfl) fp_RX10_36 hσ1 ?_
  refine v_aload_n (dq D_X10_fault 3 rfl) 0 rfl ?_
  obtain ⟨x2, hx2, h⟩ := obi h
  refine v_gI (dq D_X10_fault 4 rfl) fa_RX10_94 hx2 ?_
  obtain rfl := Option.some.inj h
  exact v_iret (dq D_X10_fault 5 rfl) rfl ⟨rfl, rfl⟩
theorem m_X10_fault {sa : Env3} {a0 : Nat} {σ : St} {r : Int32 × St} (h : f_X10_fault a0 σ = some r) : Ex sa yX10_fault cX10_fault K_X10_fault [.ref a0] σ (pO r) := Ex.of (by decide) rfl (fun q => nomatch q) (Nat.le_of_ble_eq_true rfl) (w_X10_fault_0 (itg h).2)
theorem w_X10_feed_76 {sa : Env3} {k23 : Nat → Int32 → Int32 → Int32 → Int32 → Int32 → Int32 → St → Option (Int32 × St)} (hk23 : ∀ {a0 : Nat} {a1 : Int32} {a2 : Int32} {a3 : Int32} {a4 : Int32} {a5 : Int32} {a6 : Int32} {σ : St} {r : Int32 × St}, k23 a0 a1 a2 a3 a4 a5 a6 σ = some r → VV sa cX10_feed K_X10_feed 23 [(0, .ref a0), (1, .int a1), (2, .int a2), (3, .int a3), (4, .int a4), (5, .int a5), (6, .int a6)] [] σ (pO r) 0 0) {a0 : Nat} {a1 : Int32} {a2 : Int32} {a3 : Int32} {a4 : Int32} {a5 : Int32} {a6 : Int32} {s0 : Int32} {σ : St} {r : Int32 × St} (h : f_X10_feed_76 k23 a0 a1 a2 a3 a4 a5 a6 s0 σ = some r) : VV sa cX10_feed K_X10_feed 76 [(0, .ref a0), (1, .int a1), (2, .int a2), (3, .int a3), (4, .int a4), (5, .int a5), (6, .int a6)] [.int s0] σ (pO r) 0 0 := by
  unfold f_X10_feed_76 at h
  refine v_istore (dq D_X10_feed 37 rfl) [(7, .int s0), (0, .ref a0), (1, .int a1), (2, .int a2), (3, .int a3), (4, .int a4), (5, .int a5), (6, .int a6)] (Nat.le_of_ble_eq_true rfl) rfl ?_
  refine v_aload_n (dq D_X10_feed 38 rfl) 1 rfl ?_
  obtain ⟨x1, hx1, h⟩ := obi h
  refine v_gR (dq D_X10_feed 39 rfl) fa_RX10_13 hx1 ?_
  refine v_aload_n (dq D_X10_feed 40 rfl) 1 rfl ?_
  obtain ⟨x2, hx2, h⟩ := obi h
  refine v_gI (dq D_X10_feed 41 rfl) fa_RX10_259 hx2 ?_
  refine v_iload (dq D_X10_feed 42 rfl) 0 rfl ?_
  refine v_bipush (dq D_X10_feed 43 rfl) kb_24 ?_
  refine v_bipush (dq D_X10_feed 44 rfl) kb_8 ?_
  refine v_iload (dq D_X10_feed 45 rfl) 7 rfl ?_
  refine v_iconst (dq D_X10_feed 46 rfl) kc_4 ?_
  refine v_irem (dq D_X10_feed 47 rfl) (by decide) ?_
  refine v_imul (dq D_X10_feed 48 rfl) ?_
  refine v_isub (dq D_X10_feed 49 rfl) ?_
  refine v_ishr (dq D_X10_feed 50 rfl) ?_
  refine v_i2b (dq D_X10_feed 51 rfl) ?_
  obtain ⟨σ3, hσ3, h⟩ := obi h
  refine v_bast (dq D_X10_feed 52 rfl) hσ3 ?_
  refine v_aload_n (dq D_X10_feed 53 rfl) 1 rfl ?_
  refine v_dup (dq D_X10_feed 54 rfl) rfl ?_
  obtain ⟨x4, hx4, h⟩ := obi h
  refine v_gI (dq D_X10_feed 55 rfl) fa_RX10_259 hx4 ?_
  refine v_iconst (dq D_X10_feed 56 rfl) kc_1 ?_
  refine v_iadd (dq D_X10_feed 57 rfl) ?_
  obtain ⟨σ5, hσ5, h⟩ := obi h
  refine v_pI (dq D_X10_feed 58 rfl) fp_RX10_259 hσ5 ?_
  refine v_iinc (dq D_X10_feed 59 rfl) 7 [(6, .int (a6 + 1)), (7, .int s0), (0, .ref a0), (1, .int a1), (2, .int a2), (3, .int a3), (4, .int a4), (5, .int a5)] rfl kc_1 (Nat.le_of_ble_eq_true rfl) rfl ?_
  refine v_goto (dq D_X10_feed 60 rfl) rfl ?_
  exact v_sub [2, 3, 4, 5, 6, 7, 0] rfl (hk23 h)
theorem w_X10_feed_23 {sa : Env3} : ∀ (n : Nat) {a0 : Nat} {a1 : Int32} {a2 : Int32} {a3 : Int32} {a4 : Int32} {a5 : Int32} {a6 : Int32} {σ : St} {r : Int32 × St}, f_X10_feed_23 n a0 a1 a2 a3 a4 a5 a6 σ = some r → VV sa cX10_feed K_X10_feed 23 [(0, .ref a0), (1, .int a1), (2, .int a2), (3, .int a3), (4, .int a4), (5, .int a5), (6, .int a6)] [] σ (pO r) 0 0 := by
  intro n
  induction n with
  | zero => intro a0 a1 a2 a3 a4 a5 a6 σ r h; cases h
  | succ n ih =>
    intro a0 a1 a2 a3 a4 a5 a6 σ r h
    rw [e_X10_feed_23] at h
    refine v_iload (dq D_X10_feed 13 rfl) 6 rfl ?_
    refine v_bipush (dq D_X10_feed 14 rfl) kb_20 ?_
    refine v_icmp_ge (dq D_X10_feed 15 rfl) rfl (fun c1 => ?_) (fun c1 => ?_)
    · have h := itp h c1
      refine v_aload_n (dq D_X10_feed 61 rfl) 0 rfl ?_
      obtain ⟨x2, hx2, h⟩ := obi h
      refine v_gI (dq D_X10_feed 62 rfl) fa_RX10_259 hx2 ?_
      obtain rfl := Option.some.inj h
      exact v_iret (dq D_X10_feed 63 rfl) rfl ⟨rfl, rfl⟩
    · have h := itn h c1
      refine v_iload (dq D_X10_feed 16 rfl) 6 rfl ?_
      refine v_iconst (dq D_X10_feed 17 rfl) kc_4 ?_
      refine v_icmp_ge (dq D_X10_feed 18 rfl) rfl (fun c3 => ?_) (fun c3 => ?_)
      · have h := itp h c3
        refine v_iload (dq D_X10_feed 21 rfl) 6 rfl ?_
        refine v_bipush (dq D_X10_feed 22 rfl) kb_8 ?_
        refine v_icmp_ge (dq D_X10_feed 23 rfl) rfl (fun c4 => ?_) (fun c4 => ?_)
        · have h := itp h c4
          refine v_iload (dq D_X10_feed 26 rfl) 6 rfl ?_
          refine v_bipush (dq D_X10_feed 27 rfl) kb_12 ?_
          refine v_icmp_ge (dq D_X10_feed 28 rfl) rfl (fun c5 => ?_) (fun c5 => ?_)
          · have h := itp h c5
            refine v_iload (dq D_X10_feed 31 rfl) 6 rfl ?_
            refine v_bipush (dq D_X10_feed 32 rfl) kb_16 ?_
            refine v_icmp_ge (dq D_X10_feed 33 rfl) rfl (fun c6 => ?_) (fun c6 => ?_)
            · have h := itp h c6
              refine v_iload (dq D_X10_feed 36 rfl) 5 rfl ?_
              exact w_X10_feed_76 ih h
            · have h := itn h c6
              refine v_iload (dq D_X10_feed 34 rfl) 4 rfl ?_
              refine v_goto (dq D_X10_feed 35 rfl) rfl ?_
              exact w_X10_feed_76 ih h
          · have h := itn h c5
            refine v_iload_n (dq D_X10_feed 29 rfl) 3 rfl ?_
            refine v_goto (dq D_X10_feed 30 rfl) rfl ?_
            exact w_X10_feed_76 ih h
        · have h := itn h c4
          refine v_iload_n (dq D_X10_feed 24 rfl) 2 rfl ?_
          refine v_goto (dq D_X10_feed 25 rfl) rfl ?_
          exact w_X10_feed_76 ih h
      · have h := itn h c3
        refine v_iload_n (dq D_X10_feed 19 rfl) 1 rfl ?_
        refine v_goto (dq D_X10_feed 20 rfl) rfl ?_
        exact w_X10_feed_76 ih h
theorem w_X10_feed_0 {sa : Env3} {a0 : Nat} {a1 : Int32} {a2 : Int32} {a3 : Int32} {a4 : Int32} {a5 : Int32} {σ : St} {r : Int32 × St} (h : f_X10_feed_0 a0 a1 a2 a3 a4 a5 σ = some r) : VV sa cX10_feed K_X10_feed 0 [(0, .ref a0), (1, .int a1), (2, .int a2), (3, .int a3), (4, .int a4), (5, .int a5)] [] σ (pO r) 0 0 := by
  unfold f_X10_feed_0 at h
  refine v_aload_n (dq D_X10_feed 0 rfl) 0 rfl ?_
  refine v_iconst (dq D_X10_feed 1 rfl) kc_0 ?_
  obtain ⟨σ1, hσ1, h⟩ := obi h
  refine v_pI (dq D_X10_feed 2 rfl) fp_RX10_36 hσ1 ?_
  refine v_aload_n (dq D_X10_feed 3 rfl) 0 rfl ?_
  obtain ⟨x2, hx2, h⟩ := obi h
  refine v_gI (dq D_X10_feed 4 rfl) fa_RX10_259 hx2 ?_
  refine v_bipush (dq D_X10_feed 5 rfl) kb_20 ?_
  refine v_iadd (dq D_X10_feed 6 rfl) ?_
  refine v_sipush (dq D_X10_feed 7 rfl) ks_900 ?_
  refine v_icmp_le (dq D_X10_feed 8 rfl) rfl (fun c3 => ?_) (fun c3 => ?_)
  · have h := itp h c3
    refine v_iconst (dq D_X10_feed 11 rfl) kc_0 ?_
    refine v_istore (dq D_X10_feed 12 rfl) [(6, .int 0), (0, .ref a0), (1, .int a1), (2, .int a2), (3, .int a3), (4, .int a4), (5, .int a5)] (Nat.le_of_ble_eq_true rfl) rfl ?_
    exact v_sub [1, 2, 3, 4, 5, 6, 0] rfl (w_X10_feed_23 _ h)
  · have h := itn h c3
    refine v_iconst (dq D_X10_feed 9 rfl) kc_m1 ?_
    obtain rfl := Option.some.inj h
    exact v_iret (dq D_X10_feed 10 rfl) rfl ⟨rfl, rfl⟩
theorem m_X10_feed {sa : Env3} {a0 : Nat} {a1 : Int32} {a2 : Int32} {a3 : Int32} {a4 : Int32} {a5 : Int32} {σ : St} {r : Int32 × St} (h : f_X10_feed a0 a1 a2 a3 a4 a5 σ = some r) : Ex sa yX10_feed cX10_feed K_X10_feed [.ref a0, .int a1, .int a2, .int a3, .int a4, .int a5] σ (pO r) := Ex.of (by decide) rfl (fun q => nomatch q) (Nat.le_of_ble_eq_true rfl) (w_X10_feed_0 (itg h).2)
