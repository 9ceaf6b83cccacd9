theorem w_X4_init_0 {sa : Env3} {a0 : Nat} {σ : St} {r : St} (h : f_X4_init_0 a0 σ = some r) : VV sa cX4_init K_X4_init 0 [(0, .ref a0)] [] σ (pU r) 1 8 := by
  unfold f_X4_init_0 at h
  refine v_aload_n (dq D_X4_init 0 rfl) 0 rfl ?_
  refine v_objI (dq D_X4_init 1 rfl) tw_306 tw_30 tw_31 (Nat.le_of_ble_eq_true rfl) (Nat.le_of_ble_eq_true rfl) ?_
  refine v_aload_n (dq D_X4_init 2 rfl) 0 rfl ?_
  refine v_bipush (dq D_X4_init 3 rfl) kb_8 ?_
  obtain ⟨σ1, hσ1, h⟩ := bnd_inv h
  refine v_newa (t := 22) (N := 8) (bc := 0) (bs := 0) (dq D_X4_init 4 rfl) rfl (Or.inr (Or.inl ⟨rfl, rfl, rfl⟩)) tw_131 (by decide) (by decide) (Nat.le_of_ble_eq_true rfl) ⟨Nat.le_of_ble_eq_true rfl, Nat.le_of_ble_eq_true rfl⟩ hσ1 ?_
  obtain ⟨σ2, hσ2, h⟩ := obi h
  refine v_pP (dq D_X4_init 5 rfl) fp_RX4_9 (fun _ => rfl) hσ2 ?_
  obtain rfl := Option.some.inj h
  exact v_vret (dq D_X4_init 6 rfl) rfl ⟨rfl, rfl⟩
theorem m_X4_init {sa : Env3} {a0 : Nat} {σ : St} {r : St} (h : f_X4_init a0 σ = some r) : Ex sa yX4_init cX4_init K_X4_init [.ref a0] σ (pU r) := Ex.of (by decide) rfl (fun _ => rfl) (Nat.le_of_ble_eq_true rfl) (w_X4_init_0 (itg h).2)
theorem w_X5_clear_0 {sa : Env3} {a0 : Nat} {σ : St} {r : St} (h : f_X5_clear_0 a0 σ = some r) : VV sa cX5_clear K_X5_clear 0 [(0, .ref a0)] [] σ (pU r) 0 0 := by
  unfold f_X5_clear_0 at h
  refine v_aload_n (dq D_X5_clear 0 rfl) 0 rfl ?_
  refine v_iconst (dq D_X5_clear 1 rfl) kc_0 ?_
  obtain ⟨σ1, hσ1, h⟩ := obi h
  refine v_pI (dq D_X5_clear 2 rfl) fp_RX5_43 hσ1 ?_
  refine v_aload_n (dq D_X5_clear 3 rfl) 0 rfl ?_
  refine v_iconst (dq D_X5_clear 4 rfl) kc_0 ?_
  obtain ⟨σ2, hσ2, h⟩ := obi h
  refine v_pI (dq D_X5_clear 5 rfl) fp_RX5_47 hσ2 ?_
  refine v_aload_n (dq D_X5_clear 6 rfl) 0 rfl ?_
  refine v_iconst (dq D_X5_clear 7 rfl) kc_0 ?_
  obtain ⟨σ3, hσ3, h⟩ := obi h
  refine v_pI (dq D_X5_clear 8 rfl) fp_RX5_50 hσ3 ?_
  obtain rfl := Option.some.inj h
  exact v_vret (dq D_X5_clear 9 rfl) rfl ⟨rfl, rfl⟩
theorem m_X5_clear {sa : Env3} {a0 : Nat} {σ : St} {r : St} (h : f_X5_clear a0 σ = some r) : Ex sa yX5_clear cX5_clear K_X5_clear [.ref a0] σ (pU r) := Ex.of (by decide) rfl (fun q => nomatch q) (Nat.le_of_ble_eq_true rfl) (w_X5_clear_0 (itg h).2)
theorem w_X5_emptyStep_18 {sa : Env3} {a0 : Nat} {a1 : Int32} {s0 : Int32} {σ : St} {r : Int32 × St} (h : f_X5_emptyStep_18 a0 a1 s0 σ = some r) : VV sa cX5_emptyStep K_X5_emptyStep 18 [(0, .ref a0), (1, .int a1)] [.int s0] σ (pO r) 0 0 := by
  unfold f_X5_emptyStep_18 at h
  refine v_istore_n (dq D_X5_emptyStep 8 rfl) [(2, .int s0), (0, .ref a0), (1, .int a1)] rfl (Nat.le_of_ble_eq_true rfl) rfl ?_
  refine v_aload_n (dq D_X5_emptyStep 9 rfl) 1 rfl ?_
  obtain ⟨x1, hx1, h⟩ := obi h
  refine v_gR (dq D_X5_emptyStep 10 rfl) fa_RX5_9 hx1 ?_
  refine v_iload_n (dq D_X5_emptyStep 11 rfl) 0 rfl ?_
  refine v_iload_n (dq D_X5_emptyStep 12 rfl) 2 rfl ?_
  obtain ⟨σ2, hσ2, h⟩ := obi h
  refine v_iast (dq D_X5_emptyStep 13 rfl) hσ2 ?_
  refine v_aload_n (dq D_X5_emptyStep 14 rfl) 1 rfl ?_
  obtain ⟨x3, hx3, h⟩ := obi h
  refine v_gR (dq D_X5_emptyStep 15 rfl) fa_RX5_15 hx3 ?_
  refine v_iload_n (dq D_X5_emptyStep 16 rfl) 0 rfl ?_
  refine v_iconst (dq D_X5_emptyStep 17 rfl) kc_m1 ?_
  obtain ⟨σ4, hσ4, h⟩ := obi h
  refine v_iast (dq D_X5_emptyStep 18 rfl) hσ4 ?_
  refine v_aload_n (dq D_X5_emptyStep 19 rfl) 1 rfl ?_
  obtain ⟨x5, hx5, h⟩ := obi h
  refine v_gR (dq D_X5_emptyStep 20 rfl) fa_RX5_18 hx5 ?_
  refine v_iload_n (dq D_X5_emptyStep 21 rfl) 0 rfl ?_
  refine v_iconst (dq D_X5_emptyStep 22 rfl) kc_m1 ?_
  obtain ⟨σ6, hσ6, h⟩ := obi h
  refine v_iast (dq D_X5_emptyStep 23 rfl) hσ6 ?_
  refine v_aload_n (dq D_X5_emptyStep 24 rfl) 1 rfl ?_
  obtain ⟨x7, hx7, h⟩ := obi h
  refine v_gR (dq D_X5_emptyStep 25 rfl) fa_RX5_21 hx7 ?_
  refine v_iload_n (dq D_X5_emptyStep 26 rfl) 0 rfl ?_
  refine v_iconst (dq D_X5_emptyStep 27 rfl) kc_m1 ?_
  obtain ⟨σ8, hσ8, h⟩ := obi h
  refine v_iast (dq D_X5_emptyStep 28 rfl) hσ8 ?_
  refine v_aload_n (dq D_X5_emptyStep 29 rfl) 1 rfl ?_
  obtain ⟨x9, hx9, h⟩ := obi h
  refine v_gR (dq D_X5_emptyStep 30 rfl) fa_RX5_24 hx9 ?_
  refine v_iload_n (dq D_X5_emptyStep 31 rfl) 0 rfl ?_
  refine v_iconst (dq D_X5_emptyStep 32 rfl) kc_0 ?_
  obtain ⟨σ10, hσ10, h⟩ := obi h
  refine v_iast (dq D_X5_emptyStep 33 rfl) hσ10 ?_
  refine v_aload_n (dq D_X5_emptyStep 34 rfl) 1 rfl ?_
  obtain ⟨x11, hx11, h⟩ := obi h
  refine v_gR (dq D_X5_emptyStep 35 rfl) fa_RX5_27 hx11 ?_
  refine v_iload_n (dq D_X5_emptyStep 36 rfl) 0 rfl ?_
  refine v_iconst (dq D_X5_emptyStep 37 rfl) kc_0 ?_
  obtain ⟨σ12, hσ12, h⟩ := obi h
  refine v_zast (dq D_X5_emptyStep 38 rfl) hσ12 ?_
  refine v_iload_n (dq D_X5_emptyStep 39 rfl) 0 rfl ?_
  obtain rfl := Option.some.inj h
  exact v_iret (dq D_X5_emptyStep 40 rfl) rfl ⟨rfl, rfl⟩
theorem w_X5_emptyStep_0 {sa : Env3} {a0 : Nat} {a1 : Int32} {σ : St} {r : Int32 × St} (h : f_X5_emptyStep_0 a0 a1 σ = some r) : VV sa cX5_emptyStep K_X5_emptyStep 0 [(0, .ref a0), (1, .int a1)] [] σ (pO r) 0 0 := by
  unfold f_X5_emptyStep_0 at h
  refine v_aload_n (dq D_X5_emptyStep 0 rfl) 0 rfl ?_
  obtain ⟨x1, hx1, h⟩ := obi h
  refine v_gI (dq D_X5_emptyStep 1 rfl) fa_RX5_43 hx1 ?_
  refine v_bipush (dq D_X5_emptyStep 2 rfl) kb_24 ?_
  refine v_icmp_ge (dq D_X5_emptyStep 3 rfl) rfl (fun c2 => ?_) (fun c2 => ?_)
  · have h := itp h c2
    refine v_bipush (dq D_X5_emptyStep 7 rfl) kb_23 ?_
    exact w_X5_emptyStep_18 h
  · have h := itn h c2
    refine v_aload_n (dq D_X5_emptyStep 4 rfl) 0 rfl ?_
    obtain ⟨x3, hx3, h⟩ := obi h
    refine v_gI (dq D_X5_emptyStep 5 rfl) fa_RX5_43 hx3 ?_
    refine v_goto (dq D_X5_emptyStep 6 rfl) rfl ?_
    exact w_X5_emptyStep_18 h
theorem m_X5_emptyStep {sa : Env3} {a0 : Nat} {a1 : Int32} {σ : St} {r : Int32 × St} (h : f_X5_emptyStep a0 a1 σ = some r) : Ex sa yX5_emptyStep cX5_emptyStep K_X5_emptyStep [.ref a0, .int a1] σ (pO r) := Ex.of (by decide) rfl (fun q => nomatch q) (Nat.le_of_ble_eq_true rfl) (w_X5_emptyStep_0 (itg h).2)
theorem w_X5_init_0 {sa : Env3} {a0 : Nat} {σ : St} {r : St} (h : f_X5_init_0 a0 σ = some r) : VV sa cX5_init K_X5_init 0 [(0, .ref a0)] [] σ (pU r) 10 164 := by
  unfold f_X5_init_0 at h
  refine v_aload_n (dq D_X5_init 0 rfl) 0 rfl ?_
  refine v_objI (dq D_X5_init 1 rfl) tw_37 tw_30 tw_31 (Nat.le_of_ble_eq_true rfl) (Nat.le_of_ble_eq_true rfl) ?_
  refine v_aload_n (dq D_X5_init 2 rfl) 0 rfl ?_
  refine v_bipush (dq D_X5_init 3 rfl) kb_24 ?_
  obtain ⟨σ1, hσ1, h⟩ := bnd_inv h
  refine v_newa (t := 22) (N := 24) (bc := 9) (bs := 140) (dq D_X5_init 4 rfl) rfl (Or.inr (Or.inl ⟨rfl, rfl, rfl⟩)) tw_131 (by decide) (by decide) (Nat.le_of_ble_eq_true rfl) ⟨Nat.le_of_ble_eq_true rfl, Nat.le_of_ble_eq_true rfl⟩ hσ1 ?_
  obtain ⟨σ2, hσ2, h⟩ := obi h
  refine v_pP (dq D_X5_init 5 rfl) fp_RX5_9 (fun _ => rfl) hσ2 ?_
  refine v_aload_n (dq D_X5_init 6 rfl) 0 rfl ?_
  refine v_bipush (dq D_X5_init 7 rfl) kb_24 ?_
  obtain ⟨σ3, hσ3, h⟩ := bnd_inv h
  refine v_newa (t := 22) (N := 24) (bc := 8) (bs := 116) (dq D_X5_init 8 rfl) rfl (Or.inr (Or.inl ⟨rfl, rfl, rfl⟩)) tw_131 (by decide) (by decide) (Nat.le_of_ble_eq_true rfl) ⟨Nat.le_of_ble_eq_true rfl, Nat.le_of_ble_eq_true rfl⟩ hσ3 ?_
  obtain ⟨σ4, hσ4, h⟩ := obi h
  refine v_pP (dq D_X5_init 9 rfl) fp_RX5_15 (fun _ => rfl) hσ4 ?_
  refine v_aload_n (dq D_X5_init 10 rfl) 0 rfl ?_
  refine v_bipush (dq D_X5_init 11 rfl) kb_24 ?_
  obtain ⟨σ5, hσ5, h⟩ := bnd_inv h
  refine v_newa (t := 22) (N := 24) (bc := 7) (bs := 92) (dq D_X5_init 12 rfl) rfl (Or.inr (Or.inl ⟨rfl, rfl, rfl⟩)) tw_131 (by decide) (by decide) (Nat.le_of_ble_eq_true rfl) ⟨Nat.le_of_ble_eq_true rfl, Nat.le_of_ble_eq_true rfl⟩ hσ5 ?_
  obtain ⟨σ6, hσ6, h⟩ := obi h
  refine v_pP (dq D_X5_init 13 rfl) fp_RX5_18 (fun _ => rfl) hσ6 ?_
  refine v_aload_n (dq D_X5_init 14 rfl) 0 rfl ?_
  refine v_bipush (dq D_X5_init 15 rfl) kb_24 ?_
  obtain ⟨σ7, hσ7, h⟩ := bnd_inv h
  refine v_newa (t := 22) (N := 24) (bc := 6) (bs := 68) (dq D_X5_init 16 rfl) rfl (Or.inr (Or.inl ⟨rfl, rfl, rfl⟩)) tw_131 (by decide) (by decide) (Nat.le_of_ble_eq_true rfl) ⟨Nat.le_of_ble_eq_true rfl, Nat.le_of_ble_eq_true rfl⟩ hσ7 ?_
  obtain ⟨σ8, hσ8, h⟩ := obi h
  refine v_pP (dq D_X5_init 17 rfl) fp_RX5_21 (fun _ => rfl) hσ8 ?_
  refine v_aload_n (dq D_X5_init 18 rfl) 0 rfl ?_
  refine v_bipush (dq D_X5_init 19 rfl) kb_24 ?_
  obtain ⟨σ9, hσ9, h⟩ := bnd_inv h
  refine v_newa (t := 22) (N := 24) (bc := 5) (bs := 44) (dq D_X5_init 20 rfl) rfl (Or.inr (Or.inl ⟨rfl, rfl, rfl⟩)) tw_131 (by decide) (by decide) (Nat.le_of_ble_eq_true rfl) ⟨Nat.le_of_ble_eq_true rfl, Nat.le_of_ble_eq_true rfl⟩ hσ9 ?_
  obtain ⟨σ10, hσ10, h⟩ := obi h
  refine v_pP (dq D_X5_init 21 rfl) fp_RX5_24 (fun _ => rfl) hσ10 ?_
  refine v_aload_n (dq D_X5_init 22 rfl) 0 rfl ?_
  refine v_bipush (dq D_X5_init 23 rfl) kb_24 ?_
  obtain ⟨σ11, hσ11, h⟩ := bnd_inv h
  refine v_newa (t := 23) (N := 24) (bc := 4) (bs := 20) (dq D_X5_init 24 rfl) rfl (Or.inr (Or.inr ⟨rfl, rfl, rfl⟩)) tw_132 (by decide) (by decide) (Nat.le_of_ble_eq_true rfl) ⟨Nat.le_of_ble_eq_true rfl, Nat.le_of_ble_eq_true rfl⟩ hσ11 ?_
  obtain ⟨σ12, hσ12, h⟩ := obi h
  refine v_pP (dq D_X5_init 25 rfl) fp_RX5_27 (fun _ => rfl) hσ12 ?_
  refine v_aload_n (dq D_X5_init 26 rfl) 0 rfl ?_
  refine v_iconst (dq D_X5_init 27 rfl) kc_4 ?_
  obtain ⟨σ13, hσ13, h⟩ := bnd_inv h
  refine v_newa (t := 22) (N := 4) (bc := 3) (bs := 16) (dq D_X5_init 28 rfl) rfl (Or.inr (Or.inl ⟨rfl, rfl, rfl⟩)) tw_131 (by decide) (by decide) (Nat.le_of_ble_eq_true rfl) ⟨Nat.le_of_ble_eq_true rfl, Nat.le_of_ble_eq_true rfl⟩ hσ13 ?_
  obtain ⟨σ14, hσ14, h⟩ := obi h
  refine v_pP (dq D_X5_init 29 rfl) fp_RX5_31 (fun _ => rfl) hσ14 ?_
  refine v_aload_n (dq D_X5_init 30 rfl) 0 rfl ?_
  refine v_iconst (dq D_X5_init 31 rfl) kc_4 ?_
  obtain ⟨σ15, hσ15, h⟩ := bnd_inv h
  refine v_newa (t := 22) (N := 4) (bc := 2) (bs := 12) (dq D_X5_init 32 rfl) rfl (Or.inr (Or.inl ⟨rfl, rfl, rfl⟩)) tw_131 (by decide) (by decide) (Nat.le_of_ble_eq_true rfl) ⟨Nat.le_of_ble_eq_true rfl, Nat.le_of_ble_eq_true rfl⟩ hσ15 ?_
  obtain ⟨σ16, hσ16, h⟩ := obi h
  refine v_pP (dq D_X5_init 33 rfl) fp_RX5_34 (fun _ => rfl) hσ16 ?_
  refine v_aload_n (dq D_X5_init 34 rfl) 0 rfl ?_
  refine v_bipush (dq D_X5_init 35 rfl) kb_6 ?_
  obtain ⟨σ17, hσ17, h⟩ := bnd_inv h
  refine v_newa (t := 22) (N := 6) (bc := 1) (bs := 6) (dq D_X5_init 36 rfl) rfl (Or.inr (Or.inl ⟨rfl, rfl, rfl⟩)) tw_131 (by decide) (by decide) (Nat.le_of_ble_eq_true rfl) ⟨Nat.le_of_ble_eq_true rfl, Nat.le_of_ble_eq_true rfl⟩ hσ17 ?_
  obtain ⟨σ18, hσ18, h⟩ := obi h
  refine v_pP (dq D_X5_init 37 rfl) fp_RX5_37 (fun _ => rfl) hσ18 ?_
  refine v_aload_n (dq D_X5_init 38 rfl) 0 rfl ?_
  refine v_bipush (dq D_X5_init 39 rfl) kb_6 ?_
  obtain ⟨σ19, hσ19, h⟩ := bnd_inv h
  refine v_newa (t := 22) (N := 6) (bc := 0) (bs := 0) (dq D_X5_init 40 rfl) rfl (Or.inr (Or.inl ⟨rfl, rfl, rfl⟩)) tw_131 (by decide) (by decide) (Nat.le_of_ble_eq_true rfl) ⟨Nat.le_of_ble_eq_true rfl, Nat.le_of_ble_eq_true rfl⟩ hσ19 ?_
  obtain ⟨σ20, hσ20, h⟩ := obi h
  refine v_pP (dq D_X5_init 41 rfl) fp_RX5_40 (fun _ => rfl) hσ20 ?_
  obtain rfl := Option.some.inj h
  exact v_vret (dq D_X5_init 42 rfl) rfl ⟨rfl, rfl⟩
theorem m_X5_init {sa : Env3} {a0 : Nat} {σ : St} {r : St} (h : f_X5_init a0 σ = some r) : Ex sa yX5_init cX5_init K_X5_init [.ref a0] σ (pU r) := Ex.of (by decide) rfl (fun _ => rfl) (Nat.le_of_ble_eq_true rfl) (w_X5_init_0 (itg h).2)
theorem w_X5_isGot_2 {sa : Env3} : ∀ (n : Nat) {a0 : Nat} {a1 : Int32} {a2 : Int32} {σ : St} {r : Int32 × St}, f_X5_isGot_2 n a0 a1 a2 σ = some r → VV sa cX5_isGot K_X5_isGot 2 [(0, .ref a0), (1, .int a1), (2, .int a2)] [] σ (pO r) 0 0 := by
  intro n
  induction n with
  | zero => intro a0 a1 a2 σ r h; cases h
  | succ n ih =>
    intro a0 a1 a2 σ r h
    rw [e_X5_isGot_2] at h
    refine v_iload_n (dq D_X5_isGot 2 rfl) 2 rfl ?_
    refine v_aload_n (dq D_X5_isGot 3 rfl) 0 rfl ?_
    obtain ⟨x1, hx1, h⟩ := obi h
    refine v_gI (dq D_X5_isGot 4 rfl) fa_RX5_50 hx1 ?_
    refine v_icmp_ge (dq D_X5_isGot 5 rfl) rfl (fun c2 => ?_) (fun c2 => ?_)
    · have h := itp h c2
      refine v_iconst (dq D_X5_isGot 16 rfl) kc_0 ?_
      obtain rfl := Option.some.inj h
      exact v_zret (dq D_X5_isGot 17 rfl) rfl rfl ⟨rfl, rfl⟩
    · have h := itn h c2
      refine v_aload_n (dq D_X5_isGot 6 rfl) 0 rfl ?_
      obtain ⟨x3, hx3, h⟩ := obi h
      refine v_gR (dq D_X5_isGot 7 rfl) fa_RX5_37 hx3 ?_
      refine v_iload_n (dq D_X5_isGot 8 rfl) 2 rfl ?_
      obtain ⟨x4, hx4, h⟩ := obi h
      refine v_iald (dq D_X5_isGot 9 rfl) hx4 ?_
      refine v_iload_n (dq D_X5_isGot 10 rfl) 1 rfl ?_
      refine v_icmp_ne (dq D_X5_isGot 11 rfl) rfl (fun c5 => ?_) (fun c5 => ?_)
      · have h := itn h c5
        refine v_iinc (dq D_X5_isGot 14 rfl) 2 [(2, .int (a2 + 1)), (0, .ref a0), (1, .int a1)] rfl kc_1 (Nat.le_of_ble_eq_true rfl) rfl ?_
        refine v_goto (dq D_X5_isGot 15 rfl) rfl ?_
        exact v_sub [1, 2, 0] rfl (ih h)
      · have h := itp h c5
        refine v_iconst (dq D_X5_isGot 12 rfl) kc_1 ?_
        obtain rfl := Option.some.inj h
        exact v_zret (dq D_X5_isGot 13 rfl) rfl rfl ⟨rfl, rfl⟩
theorem w_X5_isGot_0 {sa : Env3} {a0 : Nat} {a1 : Int32} {σ : St} {r : Int32 × St} (h : f_X5_isGot_0 a0 a1 σ = some r) : VV sa cX5_isGot K_X5_isGot 0 [(0, .ref a0), (1, .int a1)] [] σ (pO r) 0 0 := by
  unfold f_X5_isGot_0 at h
  refine v_iconst (dq D_X5_isGot 0 rfl) kc_0 ?_
  refine v_istore_n (dq D_X5_isGot 1 rfl) [(2, .int 0), (0, .ref a0), (1, .int a1)] rfl (Nat.le_of_ble_eq_true rfl) rfl ?_
  exact v_sub [1, 2, 0] rfl (w_X5_isGot_2 _ h)
theorem m_X5_isGot {sa : Env3} {a0 : Nat} {a1 : Int32} {σ : St} {r : Int32 × St} (h : f_X5_isGot a0 a1 σ = some r) : Ex sa yX5_isGot cX5_isGot K_X5_isGot [.ref a0, .int a1] σ (pO r) := Ex.of (by decide) rfl (fun q => nomatch q) (Nat.le_of_ble_eq_true rfl) (w_X5_isGot_0 (itg h).2)
theorem w_X5_isUnsure_2 {sa : Env3} : ∀ (n : Nat) {a0 : Nat} {a1 : Int32} {a2 : Int32} {σ : St} {r : Int32 × St}, f_X5_isUnsure_2 n a0 a1 a2 σ = some r → VV sa cX5_isUnsure K_X5_isUnsure 2 [(0, .ref a0), (1, .int a1), (2, .int a2)] [] σ (pO r) 0 0 := by
  intro n
  induction n with
  | zero => intro a0 a1 a2 σ r h; cases h
  | succ n ih =>
    intro a0 a1 a2 σ r h
    rw [e_X5_isUnsure_2] at h
    refine v_iload_n (dq D_X5_isUnsure 2 rfl) 2 rfl ?_
    refine v_aload_n (dq D_X5_isUnsure 3 rfl) 0 rfl ?_
    obtain ⟨x1, hx1, h⟩ := obi h
    refine v_gI (dq D_X5_isUnsure 4 rfl) fa_RX5_47 hx1 ?_
    refine v_icmp_ge (dq D_X5_isUnsure 5 rfl) rfl (fun c2 => ?_) (fun c2 => ?_)
    · have h := itp h c2
      refine v_iconst (dq D_X5_isUnsure 16 rfl) kc_0 ?_
      obtain rfl := Option.some.inj h
      exact v_zret (dq D_X5_isUnsure 17 rfl) rfl rfl ⟨rfl, rfl⟩
    · have h := itn h c2
      refine v_aload_n (dq D_X5_isUnsure 6 rfl) 0 rfl ?_
      obtain ⟨x3, hx3, h⟩ := obi h
      refine v_gR (dq D_X5_isUnsure 7 rfl) fa_RX5_31 hx3 ?_
      refine v_iload_n (dq D_X5_isUnsure 8 rfl) 2 rfl ?_
      obtain ⟨x4, hx4, h⟩ := obi h
      refine v_iald (dq D_X5_isUnsure 9 rfl) hx4 ?_
      refine v_iload_n (dq D_X5_isUnsure 10 rfl) 1 rfl ?_
      refine v_icmp_ne (dq D_X5_isUnsure 11 rfl) rfl (fun c5 => ?_) (fun c5 => ?_)
      · have h := itn h c5
        refine v_iinc (dq D_X5_isUnsure 14 rfl) 2 [(2, .int (a2 + 1)), (0, .ref a0), (1, .int a1)] rfl kc_1 (Nat.le_of_ble_eq_true rfl) rfl ?_
        refine v_goto (dq D_X5_isUnsure 15 rfl) rfl ?_
        exact v_sub [1, 2, 0] rfl (ih h)
      · have h := itp h c5
        refine v_iconst (dq D_X5_isUnsure 12 rfl) kc_1 ?_
        obtain rfl := Option.some.inj h
        exact v_zret (dq D_X5_isUnsure 13 rfl) rfl rfl ⟨rfl, rfl⟩
theorem w_X5_isUnsure_0 {sa : Env3} {a0 : Nat} {a1 : Int32} {σ : St} {r : Int32 × St} (h : f_X5_isUnsure_0 a0 a1 σ = some r) : VV sa cX5_isUnsure K_X5_isUnsure 0 [(0, .ref a0), (1, .int a1)] [] σ (pO r) 0 0 := by
  unfold f_X5_isUnsure_0 at h
  refine v_iconst (dq D_X5_isUnsure 0 rfl) kc_0 ?_
  refine v_istore_n (dq D_X5_isUnsure 1 rfl) [(2, .int 0), (0, .ref a0), (1, .int a1)] rfl (Nat.le_of_ble_eq_true rfl) rfl ?_
  exact v_sub [1, 2, 0] rfl (w_X5_isUnsure_2 _ h)
theorem m_X5_isUnsure {sa : Env3} {a0 : Nat} {a1 : Int32} {σ : St} {r : Int32 × St} (h : f_X5_isUnsure a0 a1 σ = some r) : Ex sa yX5_isUnsure cX5_isUnsure K_X5_isUnsure [.ref a0, .int a1] σ (pO r) := Ex.of (by decide) rfl (fun q => nomatch q) (Nat.le_of_ble_eq_true rfl) (w_X5_isUnsure_0 (itg h).2)
theorem w_X6_advance_24 {sa : Env3}  {σ : St} {r : St} (h : f_X6_advance_24  σ = some r) : VV sa cX6_advance K_X6_advance 24 [] [] σ (pU r) 0 0 := by
  unfold f_X6_advance_24 at h
  obtain rfl := Option.some.inj h
  exact v_vret (dq D_X6_advance 12 rfl) rfl ⟨rfl, rfl⟩
theorem w_X6_advance_0 {sa : Env3} {a0 : Nat} {σ : St} {r : St} (h : f_X6_advance_0 a0 σ = some r) : VV sa cX6_advance K_X6_advance 0 [(0, .ref a0)] [] σ (pU r) 0 0 := by
  unfold f_X6_advance_0 at h
  refine v_aload_n (dq D_X6_advance 0 rfl) 0 rfl ?_
  obtain ⟨x1, hx1, h⟩ := obi h
  refine v_gI (dq D_X6_advance 1 rfl) fa_RX6_36 hx1 ?_
  refine v_aload_n (dq D_X6_advance 2 rfl) 0 rfl ?_
  obtain ⟨x2, hx2, h⟩ := obi h
  refine v_gR (dq D_X6_advance 3 rfl) fa_RX6_18 hx2 ?_
  obtain ⟨x3, hx3, h⟩ := obi h
  refine v_gI (dq D_X6_advance 4 rfl) fa_RX6_68 hx3 ?_
  refine v_icmp_ge (dq D_X6_advance 5 rfl) rfl (fun c4 => ?_) (fun c4 => ?_)
  · have h := itp h c4
    exact v_sub [] rfl (w_X6_advance_24 h)
  · have h := itn h c4
    refine v_aload_n (dq D_X6_advance 6 rfl) 0 rfl ?_
    refine v_dup (dq D_X6_advance 7 rfl) rfl ?_
    obtain ⟨x5, hx5, h⟩ := obi h
    refine v_gI (dq D_X6_advance 8 rfl) fa_RX6_36 hx5 ?_
    refine v_iconst (dq D_X6_advance 9 rfl) kc_1 ?_
    refine v_iadd (dq D_X6_advance 10 rfl) ?_
    obtain ⟨σ6, hσ6, h⟩ := obi h
    refine v_pI (dq D_X6_advance 11 rfl) fp_RX6_36 hσ6 ?_
    exact v_sub [] rfl (w_X6_advance_24 h)
theorem m_X6_advance {sa : Env3} {a0 : Nat} {σ : St} {r : St} (h : f_X6_advance a0 σ = some r) : Ex sa yX6_advance cX6_advance K_X6_advance [.ref a0] σ (pU r) := Ex.of (by decide) rfl (fun q => nomatch q) (Nat.le_of_ble_eq_true rfl) (w_X6_advance_0 (itg h).2)
theorem w_X6_fails_0 {sa : Env3} {a0 : Nat} {a1 : Int32} {σ : St} {r : Int32 × St} (h : f_X6_fails_0 a0 a1 σ = some r) : VV sa cX6_fails K_X6_fails 0 [(0, .ref a0), (1, .int a1)] [] σ (pO r) 0 0 := by
  unfold f_X6_fails_0 at h
  refine v_aload_n (dq D_X6_fails 0 rfl) 0 rfl ?_
  refine v_iload_n (dq D_X6_fails 1 rfl) 1 rfl ?_
  obtain ⟨σ1, hσ1, h⟩ := obi h
  refine v_pI (dq D_X6_fails 2 rfl) fp_RX6_40 hσ1 ?_
  refine v_aload_n (dq D_X6_fails 3 rfl) 0 rfl ?_
  refine v_aload_n (dq D_X6_fails 4 rfl) 0 rfl ?_
  obtain ⟨x2, hx2, h⟩ := obi h
  refine v_gR (dq D_X6_fails 5 rfl) fa_RX6_18 hx2 ?_
  obtain ⟨x3, hx3, h⟩ := obi h
  refine v_gR (dq D_X6_fails 6 rfl) fa_RX6_71 hx3 ?_
  refine v_aload_n (dq D_X6_fails 7 rfl) 0 rfl ?_
  obtain ⟨x4, hx4, h⟩ := obi h
  refine v_gI (dq D_X6_fails 8 rfl) fa_RX6_36 hx4 ?_
  obtain ⟨x5, hx5, h⟩ := obi h
  refine v_iald (dq D_X6_fails 9 rfl) hx5 ?_
  obtain ⟨σ6, hσ6, h⟩ := obi h
  refine v_pI (dq D_X6_fails 10 rfl) fp_RX6_43 hσ6 ?_
  refine v_iconst (dq D_X6_fails 11 rfl) kc_0 ?_
  obtain rfl := Option.some.inj h
  exact v_zret (dq D_X6_fails 12 rfl) rfl rfl ⟨rfl, rfl⟩
theorem m_X6_fails {sa : Env3} {a0 : Nat} {a1 : Int32} {σ : St} {r : Int32 × St} (h : f_X6_fails a0 a1 σ = some r) : Ex sa yX6_fails cX6_fails K_X6_fails [.ref a0, .int a1] σ (pO r) := Ex.of (by decide) rfl (fun q => nomatch q) (Nat.le_of_ble_eq_true rfl) (w_X6_fails_0 (itg h).2)
theorem w_X6_failsAt_0 {sa : Env3} {a0 : Nat} {a1 : Int32} {a2 : Int32} {σ : St} {r : Int32 × St} (h : f_X6_failsAt_0 a0 a1 a2 σ = some r) : VV sa cX6_failsAt K_X6_failsAt 0 [(0, .ref a0), (1, .int a1), (2, .int a2)] [] σ (pO r) 0 0 := by
  unfold f_X6_failsAt_0 at h
  refine v_aload_n (dq D_X6_failsAt 0 rfl) 0 rfl ?_
  refine v_iload_n (dq D_X6_failsAt 1 rfl) 1 rfl ?_
  obtain ⟨σ1, hσ1, h⟩ := obi h
  refine v_pI (dq D_X6_failsAt 2 rfl) fp_RX6_40 hσ1 ?_
  refine v_aload_n (dq D_X6_failsAt 3 rfl) 0 rfl ?_
  refine v_iload_n (dq D_X6_failsAt 4 rfl) 2 rfl ?_
  obtain ⟨σ2, hσ2, h⟩ := obi h
  refine v_pI (dq D_X6_failsAt 5 rfl) fp_RX6_43 hσ2 ?_
  refine v_iconst (dq D_X6_failsAt 6 rfl) kc_0 ?_
  obtain rfl := Option.some.inj h
  exact v_zret (dq D_X6_failsAt 7 rfl) rfl rfl ⟨rfl, rfl⟩
theorem m_X6_failsAt {sa : Env3} {a0 : Nat} {a1 : Int32} {a2 : Int32} {σ : St} {r : Int32 × St} (h : f_X6_failsAt a0 a1 a2 σ = some r) : Ex sa yX6_failsAt cX6_failsAt K_X6_failsAt [.ref a0, .int a1, .int a2] σ (pO r) := Ex.of (by decide) rfl (fun q => nomatch q) (Nat.le_of_ble_eq_true rfl) (w_X6_failsAt_0 (itg h).2)
theorem w_X7_init_0 {sa : Env3} {a0 : Nat} {σ : St} {r : St} (h : f_X7_init_0 a0 σ = some r) : VV sa cX7_init K_X7_init 0 [(0, .ref a0)] [] σ (pU r) 3 2703 := by
  unfold f_X7_init_0 at h
  refine v_aload_n (dq D_X7_init 0 rfl) 0 rfl ?_
  refine v_objI (dq D_X7_init 1 rfl) tw_144 tw_30 tw_31 (Nat.le_of_ble_eq_true rfl) (Nat.le_of_ble_eq_true rfl) ?_
  refine v_aload_n (dq D_X7_init 2 rfl) 0 rfl ?_
  refine v_sipush (dq D_X7_init 3 rfl) ks_901 ?_
  obtain ⟨σ1, hσ1, h⟩ := bnd_inv h
  refine v_newa (t := 22) (N := 901) (bc := 2) (bs := 1802) (dq D_X7_init 4 rfl) rfl (Or.inr (Or.inl ⟨rfl, rfl, rfl⟩)) tw_131 (by decide) (by decide) (Nat.le_of_ble_eq_true rfl) ⟨Nat.le_of_ble_eq_true rfl, Nat.le_of_ble_eq_true rfl⟩ hσ1 ?_
  obtain ⟨σ2, hσ2, h⟩ := obi h
  refine v_pP (dq D_X7_init 5 rfl) fp_RX7_9 (fun _ => rfl) hσ2 ?_
  refine v_aload_n (dq D_X7_init 6 rfl) 0 rfl ?_
  refine v_sipush (dq D_X7_init 7 rfl) ks_901 ?_
  obtain ⟨σ3, hσ3, h⟩ := bnd_inv h
  refine v_newa (t := 22) (N := 901) (bc := 1) (bs := 901) (dq D_X7_init 8 rfl) rfl (Or.inr (Or.inl ⟨rfl, rfl, rfl⟩)) tw_131 (by decide) (by decide) (Nat.le_of_ble_eq_true rfl) ⟨Nat.le_of_ble_eq_true rfl, Nat.le_of_ble_eq_true rfl⟩ hσ3 ?_
  obtain ⟨σ4, hσ4, h⟩ := obi h
  refine v_pP (dq D_X7_init 9 rfl) fp_RX7_15 (fun _ => rfl) hσ4 ?_
  refine v_aload_n (dq D_X7_init 10 rfl) 0 rfl ?_
  refine v_sipush (dq D_X7_init 11 rfl) ks_901 ?_
  obtain ⟨σ5, hσ5, h⟩ := bnd_inv h
  refine v_newa (t := 22) (N := 901) (bc := 0) (bs := 0) (dq D_X7_init 12 rfl) rfl (Or.inr (Or.inl ⟨rfl, rfl, rfl⟩)) tw_131 (by decide) (by decide) (Nat.le_of_ble_eq_true rfl) ⟨Nat.le_of_ble_eq_true rfl, Nat.le_of_ble_eq_true rfl⟩ hσ5 ?_
  obtain ⟨σ6, hσ6, h⟩ := obi h
  refine v_pP (dq D_X7_init 13 rfl) fp_RX7_18 (fun _ => rfl) hσ6 ?_
  obtain rfl := Option.some.inj h
  exact v_vret (dq D_X7_init 14 rfl) rfl ⟨rfl, rfl⟩
theorem m_X7_init {sa : Env3} {a0 : Nat} {σ : St} {r : St} (h : f_X7_init a0 σ = some r) : Ex sa yX7_init cX7_init K_X7_init [.ref a0] σ (pU r) := Ex.of (by decide) rfl (fun _ => rfl) (Nat.le_of_ble_eq_true rfl) (w_X7_init_0 (itg h).2)
theorem w_X6_init_0 {sa : Env3} {a0 : Nat} {a1 : Nat} {σ : St} {r : St} (h : f_X6_init_0 a0 a1 σ = some r) : VV sa cX6_init K_X6_init 0 [(0, .ref a0), (1, .ref a1)] [] σ (pU r) 5 2707 := by
  unfold f_X6_init_0 at h
  refine v_aload_n (dq D_X6_init 0 rfl) 0 rfl ?_
  refine v_objI (dq D_X6_init 1 rfl) tw_138 tw_30 tw_31 (Nat.le_of_ble_eq_true rfl) (Nat.le_of_ble_eq_true rfl) ?_
  refine v_aload_n (dq D_X6_init 2 rfl) 0 rfl ?_
  refine v_iconst (dq D_X6_init 3 rfl) kc_0 ?_
  obtain ⟨σ1, hσ1, h⟩ := bnd_inv h
  refine v_newa (t := 21) (N := 0) (bc := 4) (bs := 2707) (dq D_X6_init 4 rfl) rfl (Or.inl ⟨rfl, rfl, rfl⟩) tw_130 (by decide) (by decide) (Nat.le_of_ble_eq_true rfl) ⟨Nat.le_of_ble_eq_true rfl, Nat.le_of_ble_eq_true rfl⟩ hσ1 ?_
  obtain ⟨σ2, hσ2, h⟩ := obi h
  refine v_pP (dq D_X6_init 5 rfl) fp_RX6_9 (fun q => nomatch q) hσ2 ?_
  refine v_aload_n (dq D_X6_init 6 rfl) 0 rfl ?_
  obtain ⟨σ3, hσ3, h⟩ := bnd_inv h
  refine v_new (bc := 3) (bs := 2703) (dq D_X6_init 7 rfl) cc7 tw_139 ⟨Nat.le_of_ble_eq_true rfl, Nat.le_of_ble_eq_true rfl⟩ hσ3 ?_
  refine v_dup (dq D_X6_init 8 rfl) rfl ?_
  obtain ⟨σ4, hσ4, h⟩ := obi h
  refine v_cIv (bc := 0) (bs := 0) (As := []) (dq D_X6_init 9 rfl) ci_X7_init ml_RX6_17 (m_X7_init hσ4) rfl rfl (Nat.le_of_ble_eq_true rfl) ⟨Nat.le_of_ble_eq_true rfl, Nat.le_of_ble_eq_true rfl⟩ ⟨Nat.le_of_ble_eq_true rfl, Nat.le_of_ble_eq_true rfl⟩ ?_
  obtain ⟨σ5, hσ5, h⟩ := obi h
  refine v_pP (dq D_X6_init 10 rfl) fp_RX6_18 (fun _ => rfl) hσ5 ?_
  refine v_aload_n (dq D_X6_init 11 rfl) 0 rfl ?_
  refine v_aload_n (dq D_X6_init 12 rfl) 1 rfl ?_
  obtain ⟨σ6, hσ6, h⟩ := obi h
  refine v_pP (dq D_X6_init 13 rfl) fp_RX6_22 (fun q => nomatch q) hσ6 ?_
  obtain rfl := Option.some.inj h
  exact v_vret (dq D_X6_init 14 rfl) rfl ⟨rfl, rfl⟩
theorem m_X6_init {sa : Env3} {a0 : Nat} {a1 : Nat} {σ : St} {r : St} (h : f_X6_init a0 a1 σ = some r) : Ex sa yX6_init cX6_init K_X6_init [.ref a0, .ref a1] σ (pU r) := Ex.of (by decide) rfl (fun _ => rfl) (Nat.le_of_ble_eq_true rfl) (w_X6_init_0 (itg h).2)
theorem w_X6_isWord_50 {sa : Env3}  {σ : St} {r : Int32 × St} (h : f_X6_isWord_50  σ = some r) : VV sa cX6_isWord K_X6_isWord 50 [] [] σ (pO r) 0 0 := by
  unfold f_X6_isWord_50 at h
  refine v_iconst (dq D_X6_isWord 26 rfl) kc_0 ?_
  obtain rfl := Option.some.inj h
  exact v_zret (dq D_X6_isWord 27 rfl) rfl rfl ⟨rfl, rfl⟩
theorem w_X6_isWord_54 {sa : Env3} : ∀ (n : Nat) {a0 : Nat} {a1 : Nat} {a2 : Int32} {a3 : Int32} {σ : St} {r : Int32 × St}, f_X6_isWord_54 n a0 a1 a2 a3 σ = some r → VV sa cX6_isWord K_X6_isWord 54 [(0, .ref a0), (1, .ref (sa.1 a1)), (2, .int a2), (3, .int a3)] [] σ (pO r) 0 0 := by
  intro n
  induction n with
  | zero => intro a0 a1 a2 a3 σ r h; cases h
  | succ n ih =>
    intro a0 a1 a2 a3 σ r h
    rw [e_X6_isWord_54] at h
    refine v_iload_n (dq D_X6_isWord 30 rfl) 3 rfl ?_
    refine v_aload_n (dq D_X6_isWord 31 rfl) 1 rfl ?_
    obtain ⟨q1, hq1, h⟩ := obi h
    refine v_cTi (bc := 0) (bs := 0) (As := []) (dq D_X6_isWord 32 rfl) ct_J0_length_8abf5 ml_RX6_218 (itg hq1).1 (m_J0_length_8abf5 hq1) rfl rfl (Nat.le_of_ble_eq_true rfl) ⟨Nat.le_of_ble_eq_true rfl, Nat.le_of_ble_eq_true rfl⟩ ⟨Nat.le_of_ble_eq_true rfl, Nat.le_of_ble_eq_true rfl⟩ ?_
    refine v_icmp_ge (dq D_X6_isWord 33 rfl) rfl (fun c2 => ?_) (fun c2 => ?_)
    · have h := itp h c2
      refine v_iconst (dq D_X6_isWord 48 rfl) kc_1 ?_
      obtain rfl := Option.some.inj h
      exact v_zret (dq D_X6_isWord 49 rfl) rfl rfl ⟨rfl, rfl⟩
    · have h := itn h c2
      refine v_aload_n (dq D_X6_isWord 34 rfl) 0 rfl ?_
      obtain ⟨x3, hx3, h⟩ := obi h
      refine v_gR (dq D_X6_isWord 35 rfl) fa_RX6_9 hx3 ?_
      refine v_iload_n (dq D_X6_isWord 36 rfl) 2 rfl ?_
      refine v_iload_n (dq D_X6_isWord 37 rfl) 3 rfl ?_
      refine v_iadd (dq D_X6_isWord 38 rfl) ?_
      obtain ⟨x4, hx4, h⟩ := obi h
      refine v_bald (dq D_X6_isWord 39 rfl) hx4 ?_
      refine v_aload_n (dq D_X6_isWord 40 rfl) 1 rfl ?_
      refine v_iload_n (dq D_X6_isWord 41 rfl) 3 rfl ?_
      obtain ⟨q5, hq5, h⟩ := obi h
      refine v_cTi (bc := 0) (bs := 0) (As := [.int a3]) (dq D_X6_isWord 42 rfl) ct_J0_charAt_5068e ml_RX6_223 (itg hq5).1 (m_J0_charAt_5068e hq5) rfl rfl (Nat.le_of_ble_eq_true rfl) ⟨Nat.le_of_ble_eq_true rfl, Nat.le_of_ble_eq_true rfl⟩ ⟨Nat.le_of_ble_eq_true rfl, Nat.le_of_ble_eq_true rfl⟩ ?_
      refine v_icmp_eq (dq D_X6_isWord 43 rfl) rfl (fun c6 => ?_) (fun c6 => ?_)
      · have h := itp h c6
        refine v_iinc (dq D_X6_isWord 46 rfl) 3 [(3, .int (a3 + 1)), (0, .ref a0), (1, .ref (sa.1 a1)), (2, .int a2)] rfl kc_1 (Nat.le_of_ble_eq_true rfl) rfl ?_
        refine v_goto (dq D_X6_isWord 47 rfl) rfl ?_
        exact v_sub [1, 2, 3, 0] rfl (ih h)
      · have h := itn h c6
        refine v_iconst (dq D_X6_isWord 44 rfl) kc_0 ?_
        obtain rfl := Option.some.inj h
        exact v_zret (dq D_X6_isWord 45 rfl) rfl rfl ⟨rfl, rfl⟩
theorem w_X6_isWord_0 {sa : Env3} {a0 : Nat} {a1 : Nat} {σ : St} {r : Int32 × St} (h : f_X6_isWord_0 a0 a1 σ = some r) : VV sa cX6_isWord K_X6_isWord 0 [(0, .ref a0), (1, .ref (sa.1 a1))] [] σ (pO r) 0 0 := by
  unfold f_X6_isWord_0 at h
  refine v_aload_n (dq D_X6_isWord 0 rfl) 0 rfl ?_
  obtain ⟨x1, hx1, h⟩ := obi h
  refine v_gR (dq D_X6_isWord 1 rfl) fa_RX6_18 hx1 ?_
  obtain ⟨x2, hx2, h⟩ := obi h
  refine v_gR (dq D_X6_isWord 2 rfl) fa_RX6_71 hx2 ?_
  refine v_aload_n (dq D_X6_isWord 3 rfl) 0 rfl ?_
  obtain ⟨x3, hx3, h⟩ := obi h
  refine v_gI (dq D_X6_isWord 4 rfl) fa_RX6_36 hx3 ?_
  obtain ⟨x4, hx4, h⟩ := obi h
  refine v_iald (dq D_X6_isWord 5 rfl) hx4 ?_
  refine v_istore_n (dq D_X6_isWord 6 rfl) [(2, .int x4), (0, .ref a0), (1, .ref (sa.1 a1))] rfl (Nat.le_of_ble_eq_true rfl) rfl ?_
  refine v_aload_n (dq D_X6_isWord 7 rfl) 1 rfl ?_
  obtain ⟨x5, hx5, h⟩ := obi h
  refine v_gR (dq D_X6_isWord 8 rfl) fa_RX6_18 hx5 ?_
  obtain ⟨x6, hx6, h⟩ := obi h
  refine v_gR (dq D_X6_isWord 9 rfl) fa_RX6_55 hx6 ?_
  refine v_aload_n (dq D_X6_isWord 10 rfl) 1 rfl ?_
  obtain ⟨x7, hx7, h⟩ := obi h
  refine v_gI (dq D_X6_isWord 11 rfl) fa_RX6_36 hx7 ?_
  obtain ⟨x8, hx8, h⟩ := obi h
  refine v_iald (dq D_X6_isWord 12 rfl) hx8 ?_
  refine v_iconst (dq D_X6_isWord 13 rfl) kc_1 ?_
  refine v_icmp_ne (dq D_X6_isWord 14 rfl) rfl (fun c9 => ?_) (fun c9 => ?_)
  · have h := itn h c9
    exact v_sub [] rfl (w_X6_isWord_50 h)
  · have h := itp h c9
    refine v_aload_n (dq D_X6_isWord 15 rfl) 1 rfl ?_
    obtain ⟨x10, hx10, h⟩ := obi h
    refine v_gR (dq D_X6_isWord 16 rfl) fa_RX6_18 hx10 ?_
    obtain ⟨x11, hx11, h⟩ := obi h
    refine v_gR (dq D_X6_isWord 17 rfl) fa_RX6_215 hx11 ?_
    refine v_aload_n (dq D_X6_isWord 18 rfl) 1 rfl ?_
    obtain ⟨x12, hx12, h⟩ := obi h
    refine v_gI (dq D_X6_isWord 19 rfl) fa_RX6_36 hx12 ?_
    obtain ⟨x13, hx13, h⟩ := obi h
    refine v_iald (dq D_X6_isWord 20 rfl) hx13 ?_
    refine v_iload_n (dq D_X6_isWord 21 rfl) 0 rfl ?_
    refine v_isub (dq D_X6_isWord 22 rfl) ?_
    refine v_aload_n (dq D_X6_isWord 23 rfl) 2 rfl ?_
    obtain ⟨q14, hq14, h⟩ := obi h
    refine v_cTi (bc := 0) (bs := 0) (As := []) (dq D_X6_isWord 24 rfl) ct_J0_length_8abf5 ml_RX6_218 (itg hq14).1 (m_J0_length_8abf5 hq14) rfl rfl (Nat.le_of_ble_eq_true rfl) ⟨Nat.le_of_ble_eq_true rfl, Nat.le_of_ble_eq_true rfl⟩ ⟨Nat.le_of_ble_eq_true rfl, Nat.le_of_ble_eq_true rfl⟩ ?_
    refine v_icmp_eq (dq D_X6_isWord 25 rfl) rfl (fun c15 => ?_) (fun c15 => ?_)
    · have h := itp h c15
      refine v_iconst (dq D_X6_isWord 28 rfl) kc_0 ?_
      refine v_istore_n (dq D_X6_isWord 29 rfl) [(3, .int 0), (2, .int x4), (0, .ref a0), (1, .ref (sa.1 a1))] rfl (Nat.le_of_ble_eq_true rfl) rfl ?_
      exact v_sub [2, 3, 1, 0] rfl (w_X6_isWord_54 _ h)
    · have h := itn h c15
      exact v_sub [] rfl (w_X6_isWord_50 h)
theorem m_X6_isWord {sa : Env3} {a0 : Nat} {a1 : Nat} {σ : St} {r : Int32 × St} (h : f_X6_isWord a0 a1 σ = some r) : Ex sa yX6_isWord cX6_isWord K_X6_isWord [.ref a0, .ref (sa.1 a1)] σ (pO r) := Ex.of (by decide) rfl (fun q => nomatch q) (Nat.le_of_ble_eq_true rfl) (w_X6_isWord_0 (itg h).2)
theorem w_X6_wholeHere_15 {sa : Env3} : ∀ (n : Nat) {a0 : Nat} {a1 : Int32} {a2 : Int32} {σ : St} {r : Int32 × St}, f_X6_wholeHere_15 n a0 a1 a2 σ = some r → VV sa cX6_wholeHere K_X6_wholeHere 15 [(0, .ref a0), (1, .int a1), (2, .int a2)] [] σ (pO r) 0 0 := by
  intro n
  induction n with
  | zero => intro a0 a1 a2 σ r h; cases h
  | succ n ih =>
    intro a0 a1 a2 σ r h
    rw [e_X6_wholeHere_15] at h
    refine v_iload_n (dq D_X6_wholeHere 9 rfl) 2 rfl ?_
    refine v_aload_n (dq D_X6_wholeHere 10 rfl) 0 rfl ?_
    obtain ⟨x1, hx1, h⟩ := obi h
    refine v_gR (dq D_X6_wholeHere 11 rfl) fa_RX6_18 hx1 ?_
    obtain ⟨x2, hx2, h⟩ := obi h
    refine v_gR (dq D_X6_wholeHere 12 rfl) fa_RX6_215 hx2 ?_
    refine v_aload_n (dq D_X6_wholeHere 13 rfl) 0 rfl ?_
    obtain ⟨x3, hx3, h⟩ := obi h
    refine v_gI (dq D_X6_wholeHere 14 rfl) fa_RX6_36 hx3 ?_
    obtain ⟨x4, hx4, h⟩ := obi h
    refine v_iald (dq D_X6_wholeHere 15 rfl) hx4 ?_
    refine v_icmp_ge (dq D_X6_wholeHere 16 rfl) rfl (fun c5 => ?_) (fun c5 => ?_)
    · have h := itp h c5
      refine v_iload_n (dq D_X6_wholeHere 30 rfl) 1 rfl ?_
      obtain rfl := Option.some.inj h
      exact v_iret (dq D_X6_wholeHere 31 rfl) rfl ⟨rfl, rfl⟩
    · have h := itn h c5
      refine v_iload_n (dq D_X6_wholeHere 17 rfl) 1 rfl ?_
      refine v_bipush (dq D_X6_wholeHere 18 rfl) kb_10 ?_
      refine v_imul (dq D_X6_wholeHere 19 rfl) ?_
      refine v_aload_n (dq D_X6_wholeHere 20 rfl) 0 rfl ?_
      obtain ⟨x6, hx6, h⟩ := obi h
      refine v_gR (dq D_X6_wholeHere 21 rfl) fa_RX6_9 hx6 ?_
      refine v_iload_n (dq D_X6_wholeHere 22 rfl) 2 rfl ?_
      obtain ⟨x7, hx7, h⟩ := obi h
      refine v_bald (dq D_X6_wholeHere 23 rfl) hx7 ?_
      refine v_bipush (dq D_X6_wholeHere 24 rfl) kb_48 ?_
      refine v_isub (dq D_X6_wholeHere 25 rfl) ?_
      refine v_iadd (dq D_X6_wholeHere 26 rfl) ?_
      obtain ⟨x8, ex8, h⟩ := bnd_inv h
      refine v_top (congrArg Value.int ex8) ?_
      refine v_istore_n (dq D_X6_wholeHere 27 rfl) [(1, .int x8), (0, .ref a0), (2, .int a2)] rfl (Nat.le_of_ble_eq_true rfl) rfl ?_
      refine v_iinc (dq D_X6_wholeHere 28 rfl) 2 [(2, .int (a2 + 1)), (1, .int x8), (0, .ref a0)] rfl kc_1 (Nat.le_of_ble_eq_true rfl) rfl ?_
      refine v_goto (dq D_X6_wholeHere 29 rfl) rfl ?_
      exact v_sub [2, 1, 0] rfl (ih h)
theorem w_X6_wholeHere_0 {sa : Env3} {a0 : Nat} {σ : St} {r : Int32 × St} (h : f_X6_wholeHere_0 a0 σ = some r) : VV sa cX6_wholeHere K_X6_wholeHere 0 [(0, .ref a0)] [] σ (pO r) 0 0 := by
  unfold f_X6_wholeHere_0 at h
  refine v_iconst (dq D_X6_wholeHere 0 rfl) kc_0 ?_
  refine v_istore_n (dq D_X6_wholeHere 1 rfl) [(1, .int 0), (0, .ref a0)] rfl (Nat.le_of_ble_eq_true rfl) rfl ?_
  refine v_aload_n (dq D_X6_wholeHere 2 rfl) 1 rfl ?_
  obtain ⟨x1, hx1, h⟩ := obi h
  refine v_gR (dq D_X6_wholeHere 3 rfl) fa_RX6_18 hx1 ?_
  obtain ⟨x2, hx2, h⟩ := obi h
  refine v_gR (dq D_X6_wholeHere 4 rfl) fa_RX6_71 hx2 ?_
  refine v_aload_n (dq D_X6_wholeHere 5 rfl) 1 rfl ?_
  obtain ⟨x3, hx3, h⟩ := obi h
  refine v_gI (dq D_X6_wholeHere 6 rfl) fa_RX6_36 hx3 ?_
  obtain ⟨x4, hx4, h⟩ := obi h
  refine v_iald (dq D_X6_wholeHere 7 rfl) hx4 ?_
  refine v_istore_n (dq D_X6_wholeHere 8 rfl) [(2, .int x4), (1, .int 0), (0, .ref a0)] rfl (Nat.le_of_ble_eq_true rfl) rfl ?_
  exact v_sub [2, 1, 0] rfl (w_X6_wholeHere_15 _ h)
theorem m_X6_wholeHere {sa : Env3} {a0 : Nat} {σ : St} {r : Int32 × St} (h : f_X6_wholeHere a0 σ = some r) : Ex sa yX6_wholeHere cX6_wholeHere K_X6_wholeHere [.ref a0] σ (pO r) := Ex.of (by decide) rfl (fun q => nomatch q) (Nat.le_of_ble_eq_true rfl) (w_X6_wholeHere_0 (itg h).2)
theorem w_X6_takesWhole_62 {sa : Env3} {a0 : Nat} {σ : St} {r : Int32 × St} (h : f_X6_takesWhole_62 a0 σ = some r) : VV sa cX6_takesWhole K_X6_takesWhole 62 [(0, .ref a0)] [] σ (pO r) 0 0 := by
  unfold f_X6_takesWhole_62 at h
  refine v_aload_n (dq D_X6_takesWhole 32 rfl) 0 rfl ?_
  refine v_iconst (dq D_X6_takesWhole 33 rfl) kc_4 ?_
  obtain ⟨q1, hq1, h⟩ := obi h
  refine v_cVi (bc := 0) (bs := 0) (As := [.int 4]) (dq D_X6_takesWhole 34 rfl) cv_X6_fails ml_RX6_62 (itg hq1).1 (m_X6_fails hq1) rfl rfl (Nat.le_of_ble_eq_true rfl) ⟨Nat.le_of_ble_eq_true rfl, Nat.le_of_ble_eq_true rfl⟩ ⟨Nat.le_of_ble_eq_true rfl, Nat.le_of_ble_eq_true rfl⟩ ?_
  have hz := (itg h).1
  have h := (itg h).2
  obtain rfl := Option.some.inj h
  exact v_zret (dq D_X6_takesWhole 35 rfl) rfl (z_nar hz) ⟨rfl, rfl⟩
theorem w_X6_takesWhole_0 {sa : Env3} {a0 : Nat} {a1 : Int32} {a2 : Int32} {σ : St} {r : Int32 × St} (h : f_X6_takesWhole_0 a0 a1 a2 σ = some r) : VV sa cX6_takesWhole K_X6_takesWhole 0 [(0, .ref a0), (1, .int a1), (2, .int a2)] [] σ (pO r) 0 0 := by
  unfold f_X6_takesWhole_0 at h
  refine v_aload_n (dq D_X6_takesWhole 0 rfl) 0 rfl ?_
  obtain ⟨x1, hx1, h⟩ := obi h
  refine v_gR (dq D_X6_takesWhole 1 rfl) fa_RX6_18 hx1 ?_
  obtain ⟨x2, hx2, h⟩ := obi h
  refine v_gR (dq D_X6_takesWhole 2 rfl) fa_RX6_55 hx2 ?_
  refine v_aload_n (dq D_X6_takesWhole 3 rfl) 0 rfl ?_
  obtain ⟨x3, hx3, h⟩ := obi h
  refine v_gI (dq D_X6_takesWhole 4 rfl) fa_RX6_36 hx3 ?_
  obtain ⟨x4, hx4, h⟩ := obi h
  refine v_iald (dq D_X6_takesWhole 5 rfl) hx4 ?_
  refine v_iconst (dq D_X6_takesWhole 6 rfl) kc_2 ?_
  refine v_icmp_eq (dq D_X6_takesWhole 7 rfl) rfl (fun c5 => ?_) (fun c5 => ?_)
  · have h := itp h c5
    refine v_aload_n (dq D_X6_takesWhole 12 rfl) 0 rfl ?_
    refine v_aload_n (dq D_X6_takesWhole 13 rfl) 0 rfl ?_
    obtain ⟨q6, hq6, h⟩ := obi h
    refine v_cVi (bc := 0) (bs := 0) (As := []) (dq D_X6_takesWhole 14 rfl) cv_X6_wholeHere ml_RX6_212 (itg hq6).1 (m_X6_wholeHere hq6) rfl rfl (Nat.le_of_ble_eq_true rfl) ⟨Nat.le_of_ble_eq_true rfl, Nat.le_of_ble_eq_true rfl⟩ ⟨Nat.le_of_ble_eq_true rfl, Nat.le_of_ble_eq_true rfl⟩ ?_
    obtain ⟨σ7, hσ7, h⟩ := obi h
    refine v_pI (dq D_X6_takesWhole 15 rfl) fp_RX6_131 hσ7 ?_
    refine v_aload_n (dq D_X6_takesWhole 16 rfl) 0 rfl ?_
    refine v_aload_n (dq D_X6_takesWhole 17 rfl) 0 rfl ?_
    obtain ⟨x8, hx8, h⟩ := obi h
    refine v_gR (dq D_X6_takesWhole 18 rfl) fa_RX6_18 hx8 ?_
    obtain ⟨x9, hx9, h⟩ := obi h
    refine v_gR (dq D_X6_takesWhole 19 rfl) fa_RX6_71 hx9 ?_
    refine v_aload_n (dq D_X6_takesWhole 20 rfl) 0 rfl ?_
    obtain ⟨x10, hx10, h⟩ := obi h
    refine v_gI (dq D_X6_takesWhole 21 rfl) fa_RX6_36 hx10 ?_
    obtain ⟨x11, hx11, h⟩ := obi h
    refine v_iald (dq D_X6_takesWhole 22 rfl) hx11 ?_
    obtain ⟨σ12, hσ12, h⟩ := obi h
    refine v_pI (dq D_X6_takesWhole 23 rfl) fp_RX6_188 hσ12 ?_
    refine v_aload_n (dq D_X6_takesWhole 24 rfl) 0 rfl ?_
    obtain ⟨x13, hx13, h⟩ := obi h
    refine v_gI (dq D_X6_takesWhole 25 rfl) fa_RX6_131 hx13 ?_
    refine v_iload_n (dq D_X6_takesWhole 26 rfl) 1 rfl ?_
    refine v_icmp_lt (dq D_X6_takesWhole 27 rfl) rfl (fun c14 => ?_) (fun c14 => ?_)
    · have h := itp h c14
      exact v_sub [0] rfl (w_X6_takesWhole_62 h)
    · have h := itn h c14
      refine v_aload_n (dq D_X6_takesWhole 28 rfl) 0 rfl ?_
      obtain ⟨x15, hx15, h⟩ := obi h
      refine v_gI (dq D_X6_takesWhole 29 rfl) fa_RX6_131 hx15 ?_
      refine v_iload_n (dq D_X6_takesWhole 30 rfl) 2 rfl ?_
      refine v_icmp_le (dq D_X6_takesWhole 31 rfl) rfl (fun c16 => ?_) (fun c16 => ?_)
      · have h := itp h c16
        refine v_aload_n (dq D_X6_takesWhole 36 rfl) 0 rfl ?_
        obtain ⟨σ17, hσ17, h⟩ := obi h
        refine v_cVv (bc := 0) (bs := 0) (As := []) (dq D_X6_takesWhole 37 rfl) cv_X6_advance ml_RX6_65 (itg hσ17).1 (m_X6_advance hσ17) rfl rfl (Nat.le_of_ble_eq_true rfl) ⟨Nat.le_of_ble_eq_true rfl, Nat.le_of_ble_eq_true rfl⟩ ⟨Nat.le_of_ble_eq_true rfl, Nat.le_of_ble_eq_true rfl⟩ ?_
        refine v_iconst (dq D_X6_takesWhole 38 rfl) kc_1 ?_
        obtain rfl := Option.some.inj h
        exact v_zret (dq D_X6_takesWhole 39 rfl) rfl rfl ⟨rfl, rfl⟩
      · have h := itn h c16
        exact v_sub [0] rfl (w_X6_takesWhole_62 h)
  · have h := itn h c5
    refine v_aload_n (dq D_X6_takesWhole 8 rfl) 0 rfl ?_
    refine v_iconst (dq D_X6_takesWhole 9 rfl) kc_1 ?_
    obtain ⟨q18, hq18, h⟩ := obi h
    refine v_cVi (bc := 0) (bs := 0) (As := [.int 1]) (dq D_X6_takesWhole 10 rfl) cv_X6_fails ml_RX6_62 (itg hq18).1 (m_X6_fails hq18) rfl rfl (Nat.le_of_ble_eq_true rfl) ⟨Nat.le_of_ble_eq_true rfl, Nat.le_of_ble_eq_true rfl⟩ ⟨Nat.le_of_ble_eq_true rfl, Nat.le_of_ble_eq_true rfl⟩ ?_
    have hz := (itg h).1
    have h := (itg h).2
    obtain rfl := Option.some.inj h
    exact v_zret (dq D_X6_takesWhole 11 rfl) rfl (z_nar hz) ⟨rfl, rfl⟩
theorem m_X6_takesWhole {sa : Env3} {a0 : Nat} {a1 : Int32} {a2 : Int32} {σ : St} {r : Int32 × St} (h : f_X6_takesWhole a0 a1 a2 σ = some r) : Ex sa yX6_takesWhole cX6_takesWhole K_X6_takesWhole [.ref a0, .int a1, .int a2] σ (pO r) := Ex.of (by decide) rfl (fun q => nomatch q) (Nat.le_of_ble_eq_true rfl) (w_X6_takesWhole_0 (itg h).2)
theorem w_X6_takesPair_0 {sa : Env3} {a0 : Nat} {a1 : Int32} {σ : St} {r : Int32 × St} (h : f_X6_takesPair_0 a0 a1 σ = some r) : VV sa cX6_takesPair K_X6_takesPair 0 [(0, .ref a0), (1, .int a1)] [] σ (pO r) 0 0 := by
  unfold f_X6_takesPair_0 at h
  refine v_aload_n (dq D_X6_takesPair 0 rfl) 0 rfl ?_
  refine v_iconst (dq D_X6_takesPair 1 rfl) kc_0 ?_
  refine v_bipush (dq D_X6_takesPair 2 rfl) kb_7 ?_
  obtain ⟨q1, hq1, h⟩ := obi h
  refine v_cVi (bc := 0) (bs := 0) (As := [.int 0, .int 7]) (dq D_X6_takesPair 3 rfl) cv_X6_takesWhole ml_RX6_127 (itg hq1).1 (m_X6_takesWhole hq1) rfl rfl (Nat.le_of_ble_eq_true rfl) ⟨Nat.le_of_ble_eq_true rfl, Nat.le_of_ble_eq_true rfl⟩ ⟨Nat.le_of_ble_eq_true rfl, Nat.le_of_ble_eq_true rfl⟩ ?_
  refine v_if_ne (dq D_X6_takesPair 4 rfl) rfl (fun c2 => ?_) (fun c2 => ?_)
  · have h := itn h c2
    refine v_aload_n (dq D_X6_takesPair 7 rfl) 0 rfl ?_
    obtain ⟨x3, hx3, h⟩ := obi h
    refine v_gR (dq D_X6_takesPair 8 rfl) fa_RX6_22 hx3 ?_
    obtain ⟨x4, hx4, h⟩ := obi h
    refine v_gR (dq D_X6_takesPair 9 rfl) fa_RX6_176 hx4 ?_
    refine v_iload_n (dq D_X6_takesPair 10 rfl) 1 rfl ?_
    refine v_aload_n (dq D_X6_takesPair 11 rfl) 0 rfl ?_
    obtain ⟨x5, hx5, h⟩ := obi h
    refine v_gI (dq D_X6_takesPair 12 rfl) fa_RX6_131 hx5 ?_
    obtain ⟨σ6, hσ6, h⟩ := obi h
    refine v_iast (dq D_X6_takesPair 13 rfl) hσ6 ?_
    refine v_aload_n (dq D_X6_takesPair 14 rfl) 0 rfl ?_
    refine v_iconst (dq D_X6_takesPair 15 rfl) kc_0 ?_
    refine v_bipush (dq D_X6_takesPair 16 rfl) kb_7 ?_
    obtain ⟨q7, hq7, h⟩ := obi h
    refine v_cVi (bc := 0) (bs := 0) (As := [.int 0, .int 7]) (dq D_X6_takesPair 17 rfl) cv_X6_takesWhole ml_RX6_127 (itg hq7).1 (m_X6_takesWhole hq7) rfl rfl (Nat.le_of_ble_eq_true rfl) ⟨Nat.le_of_ble_eq_true rfl, Nat.le_of_ble_eq_true rfl⟩ ⟨Nat.le_of_ble_eq_true rfl, Nat.le_of_ble_eq_true rfl⟩ ?_
    refine v_istore_n (dq D_X6_takesPair 18 rfl) [(2, .int q7.1), (0, .ref a0), (1, .int a1)] rfl (Nat.le_of_ble_eq_true rfl) rfl ?_
    refine v_aload_n (dq D_X6_takesPair 19 rfl) 1 rfl ?_
    obtain ⟨x8, hx8, h⟩ := obi h
    refine v_gR (dq D_X6_takesPair 20 rfl) fa_RX6_22 hx8 ?_
    obtain ⟨x9, hx9, h⟩ := obi h
    refine v_gR (dq D_X6_takesPair 21 rfl) fa_RX6_179 hx9 ?_
    refine v_iload_n (dq D_X6_takesPair 22 rfl) 2 rfl ?_
    refine v_aload_n (dq D_X6_takesPair 23 rfl) 1 rfl ?_
    obtain ⟨x10, hx10, h⟩ := obi h
    refine v_gI (dq D_X6_takesPair 24 rfl) fa_RX6_131 hx10 ?_
    obtain ⟨σ11, hσ11, h⟩ := obi h
    refine v_iast (dq D_X6_takesPair 25 rfl) hσ11 ?_
    refine v_iload_n (dq D_X6_takesPair 26 rfl) 0 rfl ?_
    have hz := (itg h).1
    have h := (itg h).2
    obtain rfl := Option.some.inj h
    exact v_zret (dq D_X6_takesPair 27 rfl) rfl (z_nar hz) ⟨rfl, rfl⟩
  · have h := itp h c2
    refine v_iconst (dq D_X6_takesPair 5 rfl) kc_0 ?_
    obtain rfl := Option.some.inj h
    exact v_zret (dq D_X6_takesPair 6 rfl) rfl rfl ⟨rfl, rfl⟩
theorem m_X6_takesPair {sa : Env3} {a0 : Nat} {a1 : Int32} {σ : St} {r : Int32 × St} (h : f_X6_takesPair a0 a1 σ = some r) : Ex sa yX6_takesPair cX6_takesPair K_X6_takesPair [.ref a0, .int a1] σ (pO r) := Ex.of (by decide) rfl (fun q => nomatch q) (Nat.le_of_ble_eq_true rfl) (w_X6_takesPair_0 (itg h).2)
theorem w_X6_readChange_0 {sa : Env3} {a0 : Nat} {a1 : Int32} {σ : St} {r : Int32 × St} (h : f_X6_readChange_0 a0 a1 σ = some r) : VV sa cX6_readChange K_X6_readChange 0 [(0, .ref a0), (1, .int a1)] [] σ (pO r) 0 0 := by
  unfold f_X6_readChange_0 at h
  refine v_aload_n (dq D_X6_readChange 0 rfl) 0 rfl ?_
  obtain ⟨σ1, hσ1, h⟩ := obi h
  refine v_cVv (bc := 0) (bs := 0) (As := []) (dq D_X6_readChange 1 rfl) cv_X6_advance ml_RX6_65 (itg hσ1).1 (m_X6_advance hσ1) rfl rfl (Nat.le_of_ble_eq_true rfl) ⟨Nat.le_of_ble_eq_true rfl, Nat.le_of_ble_eq_true rfl⟩ ⟨Nat.le_of_ble_eq_true rfl, Nat.le_of_ble_eq_true rfl⟩ ?_
  refine v_aload_n (dq D_X6_readChange 2 rfl) 0 rfl ?_
  obtain ⟨x2, hx2, h⟩ := obi h
  refine v_gR (dq D_X6_readChange 3 rfl) fa_RX6_22 hx2 ?_
  refine v_iload_n (dq D_X6_readChange 4 rfl) 1 rfl ?_
  obtain ⟨q3, hq3, h⟩ := obi h
  refine v_cVi (bc := 0) (bs := 0) (As := [.int a1]) (dq D_X6_readChange 5 rfl) cv_X5_emptyStep ml_RX6_155 (itg hq3).1 (m_X5_emptyStep hq3) rfl rfl (Nat.le_of_ble_eq_true rfl) ⟨Nat.le_of_ble_eq_true rfl, Nat.le_of_ble_eq_true rfl⟩ ⟨Nat.le_of_ble_eq_true rfl, Nat.le_of_ble_eq_true rfl⟩ ?_
  refine v_istore_n (dq D_X6_readChange 6 rfl) [(2, .int q3.1), (0, .ref a0), (1, .int a1)] rfl (Nat.le_of_ble_eq_true rfl) rfl ?_
  refine v_aload_n (dq D_X6_readChange 7 rfl) 1 rfl ?_
  refine v_iconst (dq D_X6_readChange 8 rfl) kc_0 ?_
  refine v_bipush (dq D_X6_readChange 9 rfl) kb_7 ?_
  obtain ⟨q4, hq4, h⟩ := obi h
  refine v_cVi (bc := 0) (bs := 0) (As := [.int 0, .int 7]) (dq D_X6_readChange 10 rfl) cv_X6_takesWhole ml_RX6_127 (itg hq4).1 (m_X6_takesWhole hq4) rfl rfl (Nat.le_of_ble_eq_true rfl) ⟨Nat.le_of_ble_eq_true rfl, Nat.le_of_ble_eq_true rfl⟩ ⟨Nat.le_of_ble_eq_true rfl, Nat.le_of_ble_eq_true rfl⟩ ?_
  refine v_if_ne (dq D_X6_readChange 11 rfl) rfl (fun c5 => ?_) (fun c5 => ?_)
  · have h := itn h c5
    refine v_aload_n (dq D_X6_readChange 14 rfl) 1 rfl ?_
    obtain ⟨x6, hx6, h⟩ := obi h
    refine v_gR (dq D_X6_readChange 15 rfl) fa_RX6_22 hx6 ?_
    obtain ⟨x7, hx7, h⟩ := obi h
    refine v_gR (dq D_X6_readChange 16 rfl) fa_RX6_173 hx7 ?_
    refine v_iload_n (dq D_X6_readChange 17 rfl) 0 rfl ?_
    refine v_aload_n (dq D_X6_readChange 18 rfl) 1 rfl ?_
    obtain ⟨x8, hx8, h⟩ := obi h
    refine v_gI (dq D_X6_readChange 19 rfl) fa_RX6_131 hx8 ?_
    obtain ⟨σ9, hσ9, h⟩ := obi h
    refine v_iast (dq D_X6_readChange 20 rfl) hσ9 ?_
    refine v_iload_n (dq D_X6_readChange 21 rfl) 2 rfl ?_
    refine v_if_ne (dq D_X6_readChange 22 rfl) rfl (fun c10 => ?_) (fun c10 => ?_)
    · have h := itn h c10
      refine v_iload_n (dq D_X6_readChange 37 rfl) 2 rfl ?_
      refine v_iconst (dq D_X6_readChange 38 rfl) kc_4 ?_
      refine v_icmp_ne (dq D_X6_readChange 39 rfl) rfl (fun c11 => ?_) (fun c11 => ?_)
      · have h := itn h c11
        refine v_aload_n (dq D_X6_readChange 54 rfl) 1 rfl ?_
        refine v_iload_n (dq D_X6_readChange 55 rfl) 0 rfl ?_
        obtain ⟨q12, hq12, h⟩ := obi h
        refine v_cVi (bc := 0) (bs := 0) (As := [.int q3.1]) (dq D_X6_readChange 56 rfl) cv_X6_takesPair ml_RX6_159 (itg hq12).1 (m_X6_takesPair hq12) rfl rfl (Nat.le_of_ble_eq_true rfl) ⟨Nat.le_of_ble_eq_true rfl, Nat.le_of_ble_eq_true rfl⟩ ⟨Nat.le_of_ble_eq_true rfl, Nat.le_of_ble_eq_true rfl⟩ ?_
        have hz := (itg h).1
        have h := (itg h).2
        obtain rfl := Option.some.inj h
        exact v_zret (dq D_X6_readChange 57 rfl) rfl (z_nar hz) ⟨rfl, rfl⟩
      · have h := itp h c11
        refine v_aload_n (dq D_X6_readChange 40 rfl) 1 rfl ?_
        refine v_iconst (dq D_X6_readChange 41 rfl) kc_0 ?_
        refine v_bipush (dq D_X6_readChange 42 rfl) kb_7 ?_
        obtain ⟨q13, hq13, h⟩ := obi h
        refine v_cVi (bc := 0) (bs := 0) (As := [.int 0, .int 7]) (dq D_X6_readChange 43 rfl) cv_X6_takesWhole ml_RX6_127 (itg hq13).1 (m_X6_takesWhole hq13) rfl rfl (Nat.le_of_ble_eq_true rfl) ⟨Nat.le_of_ble_eq_true rfl, Nat.le_of_ble_eq_true rfl⟩ ⟨Nat.le_of_ble_eq_true rfl, Nat.le_of_ble_eq_true rfl⟩ ?_
        refine v_istore_n (dq D_X6_readChange 44 rfl) [(3, .int q13.1), (2, .int q3.1), (0, .ref a0), (1, .int a1)] rfl (Nat.le_of_ble_eq_true rfl) rfl ?_
        refine v_aload_n (dq D_X6_readChange 45 rfl) 2 rfl ?_
        obtain ⟨x14, hx14, h⟩ := obi h
        refine v_gR (dq D_X6_readChange 46 rfl) fa_RX6_22 hx14 ?_
        obtain ⟨x15, hx15, h⟩ := obi h
        refine v_gR (dq D_X6_readChange 47 rfl) fa_RX6_176 hx15 ?_
        refine v_iload_n (dq D_X6_readChange 48 rfl) 1 rfl ?_
        refine v_aload_n (dq D_X6_readChange 49 rfl) 2 rfl ?_
        obtain ⟨x16, hx16, h⟩ := obi h
        refine v_gI (dq D_X6_readChange 50 rfl) fa_RX6_131 hx16 ?_
        obtain ⟨σ17, hσ17, h⟩ := obi h
        refine v_iast (dq D_X6_readChange 51 rfl) hσ17 ?_
        refine v_iload_n (dq D_X6_readChange 52 rfl) 0 rfl ?_
        have hz := (itg h).1
        have h := (itg h).2
        obtain rfl := Option.some.inj h
        exact v_zret (dq D_X6_readChange 53 rfl) rfl (z_nar hz) ⟨rfl, rfl⟩
    · have h := itp h c10
      refine v_aload_n (dq D_X6_readChange 23 rfl) 1 rfl ?_
      refine v_iconst (dq D_X6_readChange 24 rfl) kc_0 ?_
      refine v_sipush (dq D_X6_readChange 25 rfl) ks_9999 ?_
      obtain ⟨q18, hq18, h⟩ := obi h
      refine v_cVi (bc := 0) (bs := 0) (As := [.int 0, .int 9999]) (dq D_X6_readChange 26 rfl) cv_X6_takesWhole ml_RX6_127 (itg hq18).1 (m_X6_takesWhole hq18) rfl rfl (Nat.le_of_ble_eq_true rfl) ⟨Nat.le_of_ble_eq_true rfl, Nat.le_of_ble_eq_true rfl⟩ ⟨Nat.le_of_ble_eq_true rfl, Nat.le_of_ble_eq_true rfl⟩ ?_
      refine v_istore_n (dq D_X6_readChange 27 rfl) [(3, .int q18.1), (2, .int q3.1), (0, .ref a0), (1, .int a1)] rfl (Nat.le_of_ble_eq_true rfl) rfl ?_
      refine v_aload_n (dq D_X6_readChange 28 rfl) 2 rfl ?_
      obtain ⟨x19, hx19, h⟩ := obi h
      refine v_gR (dq D_X6_readChange 29 rfl) fa_RX6_22 hx19 ?_
      obtain ⟨x20, hx20, h⟩ := obi h
      refine v_gR (dq D_X6_readChange 30 rfl) fa_RX6_162 hx20 ?_
      refine v_iload_n (dq D_X6_readChange 31 rfl) 1 rfl ?_
      refine v_aload_n (dq D_X6_readChange 32 rfl) 2 rfl ?_
      obtain ⟨x21, hx21, h⟩ := obi h
      refine v_gI (dq D_X6_readChange 33 rfl) fa_RX6_131 hx21 ?_
      obtain ⟨σ22, hσ22, h⟩ := obi h
      refine v_iast (dq D_X6_readChange 34 rfl) hσ22 ?_
      refine v_iload_n (dq D_X6_readChange 35 rfl) 0 rfl ?_
      have hz := (itg h).1
      have h := (itg h).2
      obtain rfl := Option.some.inj h
      exact v_zret (dq D_X6_readChange 36 rfl) rfl (z_nar hz) ⟨rfl, rfl⟩
  · have h := itp h c5
    refine v_iconst (dq D_X6_readChange 12 rfl) kc_0 ?_
    obtain rfl := Option.some.inj h
    exact v_zret (dq D_X6_readChange 13 rfl) rfl rfl ⟨rfl, rfl⟩
theorem m_X6_readChange {sa : Env3} {a0 : Nat} {a1 : Int32} {σ : St} {r : Int32 × St} (h : f_X6_readChange a0 a1 σ = some r) : Ex sa yX6_readChange cX6_readChange K_X6_readChange [.ref a0, .int a1] σ (pO r) := Ex.of (by decide) rfl (fun q => nomatch q) (Nat.le_of_ble_eq_true rfl) (w_X6_readChange_0 (itg h).2)
theorem w_X6_takesWord_0 {sa : Env3} {a0 : Nat} {a1 : Nat} {σ : St} {r : Int32 × St} (h : f_X6_takesWord_0 a0 a1 σ = some r) : VV sa cX6_takesWord K_X6_takesWord 0 [(0, .ref a0), (1, .ref (sa.1 a1))] [] σ (pO r) 0 0 := by
  unfold f_X6_takesWord_0 at h
  refine v_aload_n (dq D_X6_takesWord 0 rfl) 0 rfl ?_
  refine v_aload_n (dq D_X6_takesWord 1 rfl) 1 rfl ?_
  obtain ⟨q1, hq1, h⟩ := obi h
  refine v_cVi (bc := 0) (bs := 0) (As := [.ref (sa.1 a1)]) (dq D_X6_takesWord 2 rfl) cv_X6_isWord ml_RX6_102 (itg hq1).1 (m_X6_isWord hq1) rfl rfl (Nat.le_of_ble_eq_true rfl) ⟨Nat.le_of_ble_eq_true rfl, Nat.le_of_ble_eq_true rfl⟩ ⟨Nat.le_of_ble_eq_true rfl, Nat.le_of_ble_eq_true rfl⟩ ?_
  refine v_if_ne (dq D_X6_takesWord 3 rfl) rfl (fun c2 => ?_) (fun c2 => ?_)
  · have h := itn h c2
    refine v_aload_n (dq D_X6_takesWord 8 rfl) 0 rfl ?_
    obtain ⟨σ3, hσ3, h⟩ := obi h
    refine v_cVv (bc := 0) (bs := 0) (As := []) (dq D_X6_takesWord 9 rfl) cv_X6_advance ml_RX6_65 (itg hσ3).1 (m_X6_advance hσ3) rfl rfl (Nat.le_of_ble_eq_true rfl) ⟨Nat.le_of_ble_eq_true rfl, Nat.le_of_ble_eq_true rfl⟩ ⟨Nat.le_of_ble_eq_true rfl, Nat.le_of_ble_eq_true rfl⟩ ?_
    refine v_iconst (dq D_X6_takesWord 10 rfl) kc_1 ?_
    obtain rfl := Option.some.inj h
    exact v_zret (dq D_X6_takesWord 11 rfl) rfl rfl ⟨rfl, rfl⟩
  · have h := itp h c2
    refine v_aload_n (dq D_X6_takesWord 4 rfl) 0 rfl ?_
    refine v_iconst (dq D_X6_takesWord 5 rfl) kc_1 ?_
    obtain ⟨q4, hq4, h⟩ := obi h
    refine v_cVi (bc := 0) (bs := 0) (As := [.int 1]) (dq D_X6_takesWord 6 rfl) cv_X6_fails ml_RX6_62 (itg hq4).1 (m_X6_fails hq4) rfl rfl (Nat.le_of_ble_eq_true rfl) ⟨Nat.le_of_ble_eq_true rfl, Nat.le_of_ble_eq_true rfl⟩ ⟨Nat.le_of_ble_eq_true rfl, Nat.le_of_ble_eq_true rfl⟩ ?_
    have hz := (itg h).1
    have h := (itg h).2
    obtain rfl := Option.some.inj h
    exact v_zret (dq D_X6_takesWord 7 rfl) rfl (z_nar hz) ⟨rfl, rfl⟩
theorem m_X6_takesWord {sa : Env3} {a0 : Nat} {a1 : Nat} {σ : St} {r : Int32 × St} (h : f_X6_takesWord a0 a1 σ = some r) : Ex sa yX6_takesWord cX6_takesWord K_X6_takesWord [.ref a0, .ref (sa.1 a1)] σ (pO r) := Ex.of (by decide) rfl (fun q => nomatch q) (Nat.le_of_ble_eq_true rfl) (w_X6_takesWord_0 (itg h).2)
theorem w_X6_readCore_24 {sa : Env3}  {σ : St} {r : Int32 × St} (h : f_X6_readCore_24  σ = some r) : VV sa cX6_readCore K_X6_readCore 24 [] [] σ (pO r) 0 0 := by
  unfold f_X6_readCore_24 at h
  refine v_iconst (dq D_X6_readCore 11 rfl) kc_0 ?_
  obtain rfl := Option.some.inj h
  exact v_zret (dq D_X6_readCore 12 rfl) rfl rfl ⟨rfl, rfl⟩
theorem w_X6_readCore_56 {sa : Env3}  {σ : St} {r : Int32 × St} (h : f_X6_readCore_56  σ = some r) : VV sa cX6_readCore K_X6_readCore 56 [] [] σ (pO r) 0 0 := by
  unfold f_X6_readCore_56 at h
  refine v_iconst (dq D_X6_readCore 27 rfl) kc_0 ?_
  obtain rfl := Option.some.inj h
  exact v_zret (dq D_X6_readCore 28 rfl) rfl rfl ⟨rfl, rfl⟩
theorem w_X6_readCore_87 {sa : Env3}  {σ : St} {r : Int32 × St} (h : f_X6_readCore_87  σ = some r) : VV sa cX6_readCore K_X6_readCore 87 [] [] σ (pO r) 0 0 := by
  unfold f_X6_readCore_87 at h
  refine v_iconst (dq D_X6_readCore 43 rfl) kc_0 ?_
  obtain rfl := Option.some.inj h
  exact v_zret (dq D_X6_readCore 44 rfl) rfl rfl ⟨rfl, rfl⟩
theorem w_X6_readCore_118 {sa : Env3}  {σ : St} {r : Int32 × St} (h : f_X6_readCore_118  σ = some r) : VV sa cX6_readCore K_X6_readCore 118 [] [] σ (pO r) 0 0 := by
  unfold f_X6_readCore_118 at h
  refine v_iconst (dq D_X6_readCore 59 rfl) kc_0 ?_
  obtain rfl := Option.some.inj h
  exact v_zret (dq D_X6_readCore 60 rfl) rfl rfl ⟨rfl, rfl⟩
theorem w_X6_readCore_169 {sa : Env3} {s0 : Int32} {σ : St} {r : Int32 × St} (h : f_X6_readCore_169 s0 σ = some r) : VV sa cX6_readCore K_X6_readCore 169 [] [.int s0] σ (pO r) 0 0 := by
  unfold f_X6_readCore_169 at h
  have hz := (itg h).1
  have h := (itg h).2
  obtain rfl := Option.some.inj h
  exact v_zret (dq D_X6_readCore 83 rfl) rfl (z_nar hz) ⟨rfl, rfl⟩
theorem w_X6_readCore_0 {sa : Env3} {a0 : Nat} {σ : St} {r : Int32 × St} (h : f_X6_readCore_0 a0 σ = some r) : VV sa cX6_readCore K_X6_readCore 0 [(0, .ref a0)] [] σ (pO r) 0 0 := by
  unfold f_X6_readCore_0 at h
  refine v_aload_n (dq D_X6_readCore 0 rfl) 0 rfl ?_
  obtain ⟨σ1, hσ1, h⟩ := obi h
  refine v_cVv (bc := 0) (bs := 0) (As := []) (dq D_X6_readCore 1 rfl) cv_X6_advance ml_RX6_65 (itg hσ1).1 (m_X6_advance hσ1) rfl rfl (Nat.le_of_ble_eq_true rfl) ⟨Nat.le_of_ble_eq_true rfl, Nat.le_of_ble_eq_true rfl⟩ ⟨Nat.le_of_ble_eq_true rfl, Nat.le_of_ble_eq_true rfl⟩ ?_
  refine v_aload_n (dq D_X6_readCore 2 rfl) 0 rfl ?_
  refine v_ldcS (dq D_X6_readCore 3 rfl) (str_in 9 rfl) ?_
  obtain ⟨q2, hq2, h⟩ := obi h
  refine v_cVi (bc := 0) (bs := 0) (As := [.ref (sa.1 9)]) (dq D_X6_readCore 4 rfl) cv_X6_takesWord ml_RX6_124 (itg hq2).1 (m_X6_takesWord hq2) rfl rfl (Nat.le_of_ble_eq_true rfl) ⟨Nat.le_of_ble_eq_true rfl, Nat.le_of_ble_eq_true rfl⟩ ⟨Nat.le_of_ble_eq_true rfl, Nat.le_of_ble_eq_true rfl⟩ ?_
  refine v_if_eq (dq D_X6_readCore 5 rfl) rfl (fun c3 => ?_) (fun c3 => ?_)
  · have h := itp h c3
    exact v_sub [] rfl (w_X6_readCore_24 h)
  · have h := itn h c3
    refine v_aload_n (dq D_X6_readCore 6 rfl) 0 rfl ?_
    refine v_bipush (dq D_X6_readCore 7 rfl) kb_9 ?_
    refine v_bipush (dq D_X6_readCore 8 rfl) kb_24 ?_
    obtain ⟨q4, hq4, h⟩ := obi h
    refine v_cVi (bc := 0) (bs := 0) (As := [.int 9, .int 24]) (dq D_X6_readCore 9 rfl) cv_X6_takesWhole ml_RX6_127 (itg hq4).1 (m_X6_takesWhole hq4) rfl rfl (Nat.le_of_ble_eq_true rfl) ⟨Nat.le_of_ble_eq_true rfl, Nat.le_of_ble_eq_true rfl⟩ ⟨Nat.le_of_ble_eq_true rfl, Nat.le_of_ble_eq_true rfl⟩ ?_
    refine v_if_ne (dq D_X6_readCore 10 rfl) rfl (fun c5 => ?_) (fun c5 => ?_)
    · have h := itn h c5
      refine v_aload_n (dq D_X6_readCore 13 rfl) 0 rfl ?_
      obtain ⟨x6, hx6, h⟩ := obi h
      refine v_gR (dq D_X6_readCore 14 rfl) fa_RX6_22 hx6 ?_
      refine v_aload_n (dq D_X6_readCore 15 rfl) 0 rfl ?_
      obtain ⟨x7, hx7, h⟩ := obi h
      refine v_gI (dq D_X6_readCore 16 rfl) fa_RX6_131 hx7 ?_
      obtain ⟨σ8, hσ8, h⟩ := obi h
      refine v_pI (dq D_X6_readCore 17 rfl) fp_RX6_134 hσ8 ?_
      refine v_aload_n (dq D_X6_readCore 18 rfl) 0 rfl ?_
      refine v_ldcS (dq D_X6_readCore 19 rfl) (str_in 10 rfl) ?_
      obtain ⟨q9, hq9, h⟩ := obi h
      refine v_cVi (bc := 0) (bs := 0) (As := [.ref (sa.1 10)]) (dq D_X6_readCore 20 rfl) cv_X6_takesWord ml_RX6_124 (itg hq9).1 (m_X6_takesWord hq9) rfl rfl (Nat.le_of_ble_eq_true rfl) ⟨Nat.le_of_ble_eq_true rfl, Nat.le_of_ble_eq_true rfl⟩ ⟨Nat.le_of_ble_eq_true rfl, Nat.le_of_ble_eq_true rfl⟩ ?_
      refine v_if_eq (dq D_X6_readCore 21 rfl) rfl (fun c10 => ?_) (fun c10 => ?_)
      · have h := itp h c10
        exact v_sub [] rfl (w_X6_readCore_56 h)
      · have h := itn h c10
        refine v_aload_n (dq D_X6_readCore 22 rfl) 0 rfl ?_
        refine v_iconst (dq D_X6_readCore 23 rfl) kc_2 ?_
        refine v_bipush (dq D_X6_readCore 24 rfl) kb_12 ?_
        obtain ⟨q11, hq11, h⟩ := obi h
        refine v_cVi (bc := 0) (bs := 0) (As := [.int 2, .int 12]) (dq D_X6_readCore 25 rfl) cv_X6_takesWhole ml_RX6_127 (itg hq11).1 (m_X6_takesWhole hq11) rfl rfl (Nat.le_of_ble_eq_true rfl) ⟨Nat.le_of_ble_eq_true rfl, Nat.le_of_ble_eq_true rfl⟩ ⟨Nat.le_of_ble_eq_true rfl, Nat.le_of_ble_eq_true rfl⟩ ?_
        refine v_if_ne (dq D_X6_readCore 26 rfl) rfl (fun c12 => ?_) (fun c12 => ?_)
        · have h := itn h c12
          refine v_aload_n (dq D_X6_readCore 29 rfl) 0 rfl ?_
          obtain ⟨x13, hx13, h⟩ := obi h
          refine v_gR (dq D_X6_readCore 30 rfl) fa_RX6_22 hx13 ?_
          refine v_aload_n (dq D_X6_readCore 31 rfl) 0 rfl ?_
          obtain ⟨x14, hx14, h⟩ := obi h
          refine v_gI (dq D_X6_readCore 32 rfl) fa_RX6_131 hx14 ?_
          obtain ⟨σ15, hσ15, h⟩ := obi h
          refine v_pI (dq D_X6_readCore 33 rfl) fp_RX6_138 hσ15 ?_
          refine v_aload_n (dq D_X6_readCore 34 rfl) 0 rfl ?_
          refine v_ldcS (dq D_X6_readCore 35 rfl) (str_in 11 rfl) ?_
          obtain ⟨q16, hq16, h⟩ := obi h
          refine v_cVi (bc := 0) (bs := 0) (As := [.ref (sa.1 11)]) (dq D_X6_readCore 36 rfl) cv_X6_takesWord ml_RX6_124 (itg hq16).1 (m_X6_takesWord hq16) rfl rfl (Nat.le_of_ble_eq_true rfl) ⟨Nat.le_of_ble_eq_true rfl, Nat.le_of_ble_eq_true rfl⟩ ⟨Nat.le_of_ble_eq_true rfl, Nat.le_of_ble_eq_true rfl⟩ ?_
          refine v_if_eq (dq D_X6_readCore 37 rfl) rfl (fun c17 => ?_) (fun c17 => ?_)
          · have h := itp h c17
            exact v_sub [] rfl (w_X6_readCore_87 h)
          · have h := itn h c17
            refine v_aload_n (dq D_X6_readCore 38 rfl) 0 rfl ?_
            refine v_iconst (dq D_X6_readCore 39 rfl) kc_0 ?_
            refine v_iconst (dq D_X6_readCore 40 rfl) kc_4 ?_
            obtain ⟨q18, hq18, h⟩ := obi h
            refine v_cVi (bc := 0) (bs := 0) (As := [.int 0, .int 4]) (dq D_X6_readCore 41 rfl) cv_X6_takesWhole ml_RX6_127 (itg hq18).1 (m_X6_takesWhole hq18) rfl rfl (Nat.le_of_ble_eq_true rfl) ⟨Nat.le_of_ble_eq_true rfl, Nat.le_of_ble_eq_true rfl⟩ ⟨Nat.le_of_ble_eq_true rfl, Nat.le_of_ble_eq_true rfl⟩ ?_
            refine v_if_ne (dq D_X6_readCore 42 rfl) rfl (fun c19 => ?_) (fun c19 => ?_)
            · have h := itn h c19
              refine v_aload_n (dq D_X6_readCore 45 rfl) 0 rfl ?_
              obtain ⟨x20, hx20, h⟩ := obi h
              refine v_gR (dq D_X6_readCore 46 rfl) fa_RX6_22 hx20 ?_
              refine v_aload_n (dq D_X6_readCore 47 rfl) 0 rfl ?_
              obtain ⟨x21, hx21, h⟩ := obi h
              refine v_gI (dq D_X6_readCore 48 rfl) fa_RX6_131 hx21 ?_
              obtain ⟨σ22, hσ22, h⟩ := obi h
              refine v_pI (dq D_X6_readCore 49 rfl) fp_RX6_142 hσ22 ?_
              refine v_aload_n (dq D_X6_readCore 50 rfl) 0 rfl ?_
              refine v_ldcS (dq D_X6_readCore 51 rfl) (str_in 12 rfl) ?_
              obtain ⟨q23, hq23, h⟩ := obi h
              refine v_cVi (bc := 0) (bs := 0) (As := [.ref (sa.1 12)]) (dq D_X6_readCore 52 rfl) cv_X6_takesWord ml_RX6_124 (itg hq23).1 (m_X6_takesWord hq23) rfl rfl (Nat.le_of_ble_eq_true rfl) ⟨Nat.le_of_ble_eq_true rfl, Nat.le_of_ble_eq_true rfl⟩ ⟨Nat.le_of_ble_eq_true rfl, Nat.le_of_ble_eq_true rfl⟩ ?_
              refine v_if_eq (dq D_X6_readCore 53 rfl) rfl (fun c24 => ?_) (fun c24 => ?_)
              · have h := itp h c24
                exact v_sub [] rfl (w_X6_readCore_118 h)
              · have h := itn h c24
                refine v_aload_n (dq D_X6_readCore 54 rfl) 0 rfl ?_
                refine v_iconst (dq D_X6_readCore 55 rfl) kc_1 ?_
                refine v_iconst (dq D_X6_readCore 56 rfl) kc_4 ?_
                obtain ⟨q25, hq25, h⟩ := obi h
                refine v_cVi (bc := 0) (bs := 0) (As := [.int 1, .int 4]) (dq D_X6_readCore 57 rfl) cv_X6_takesWhole ml_RX6_127 (itg hq25).1 (m_X6_takesWhole hq25) rfl rfl (Nat.le_of_ble_eq_true rfl) ⟨Nat.le_of_ble_eq_true rfl, Nat.le_of_ble_eq_true rfl⟩ ⟨Nat.le_of_ble_eq_true rfl, Nat.le_of_ble_eq_true rfl⟩ ?_
                refine v_if_ne (dq D_X6_readCore 58 rfl) rfl (fun c26 => ?_) (fun c26 => ?_)
                · have h := itn h c26
                  refine v_aload_n (dq D_X6_readCore 61 rfl) 0 rfl ?_
                  obtain ⟨x27, hx27, h⟩ := obi h
                  refine v_gR (dq D_X6_readCore 62 rfl) fa_RX6_22 hx27 ?_
                  refine v_aload_n (dq D_X6_readCore 63 rfl) 0 rfl ?_
                  obtain ⟨x28, hx28, h⟩ := obi h
                  refine v_gI (dq D_X6_readCore 64 rfl) fa_RX6_131 hx28 ?_
                  obtain ⟨σ29, hσ29, h⟩ := obi h
                  refine v_pI (dq D_X6_readCore 65 rfl) fp_RX6_146 hσ29 ?_
                  refine v_aload_n (dq D_X6_readCore 66 rfl) 0 rfl ?_
                  obtain ⟨x30, hx30, h⟩ := obi h
                  refine v_gR (dq D_X6_readCore 67 rfl) fa_RX6_22 hx30 ?_
                  refine v_aload_n (dq D_X6_readCore 68 rfl) 0 rfl ?_
                  refine v_ldcS (dq D_X6_readCore 69 rfl) (str_in 13 rfl) ?_
                  obtain ⟨q31, hq31, h⟩ := obi h
                  refine v_cVi (bc := 0) (bs := 0) (As := [.ref (sa.1 13)]) (dq D_X6_readCore 70 rfl) cv_X6_isWord ml_RX6_102 (itg hq31).1 (m_X6_isWord hq31) rfl rfl (Nat.le_of_ble_eq_true rfl) ⟨Nat.le_of_ble_eq_true rfl, Nat.le_of_ble_eq_true rfl⟩ ⟨Nat.le_of_ble_eq_true rfl, Nat.le_of_ble_eq_true rfl⟩ ?_
                  obtain ⟨σ32, hσ32, h⟩ := obi h
                  refine v_pZ (dq D_X6_readCore 71 rfl) fp_RX6_150 hσ32 ?_
                  refine v_aload_n (dq D_X6_readCore 72 rfl) 0 rfl ?_
                  obtain ⟨x33, hx33, h⟩ := obi h
                  refine v_gR (dq D_X6_readCore 73 rfl) fa_RX6_22 hx33 ?_
                  obtain ⟨x34, hx34, h⟩ := obi h
                  refine v_gI (dq D_X6_readCore 74 rfl) fa_RX6_150 hx34 ?_
                  refine v_if_eq (dq D_X6_readCore 75 rfl) rfl (fun c35 => ?_) (fun c35 => ?_)
                  · have h := itp h c35
                    refine v_aload_n (dq D_X6_readCore 80 rfl) 0 rfl ?_
                    refine v_ldcS (dq D_X6_readCore 81 rfl) (str_in 14 rfl) ?_
                    obtain ⟨q36, hq36, h⟩ := obi h
                    refine v_cVi (bc := 0) (bs := 0) (As := [.ref (sa.1 14)]) (dq D_X6_readCore 82 rfl) cv_X6_takesWord ml_RX6_124 (itg hq36).1 (m_X6_takesWord hq36) rfl rfl (Nat.le_of_ble_eq_true rfl) ⟨Nat.le_of_ble_eq_true rfl, Nat.le_of_ble_eq_true rfl⟩ ⟨Nat.le_of_ble_eq_true rfl, Nat.le_of_ble_eq_true rfl⟩ ?_
                    exact v_sub [] rfl (w_X6_readCore_169 h)
                  · have h := itn h c35
                    refine v_aload_n (dq D_X6_readCore 76 rfl) 0 rfl ?_
                    refine v_ldcS (dq D_X6_readCore 77 rfl) (str_in 13 rfl) ?_
                    obtain ⟨q37, hq37, h⟩ := obi h
                    refine v_cVi (bc := 0) (bs := 0) (As := [.ref (sa.1 13)]) (dq D_X6_readCore 78 rfl) cv_X6_takesWord ml_RX6_124 (itg hq37).1 (m_X6_takesWord hq37) rfl rfl (Nat.le_of_ble_eq_true rfl) ⟨Nat.le_of_ble_eq_true rfl, Nat.le_of_ble_eq_true rfl⟩ ⟨Nat.le_of_ble_eq_true rfl, Nat.le_of_ble_eq_true rfl⟩ ?_
                    refine v_goto (dq D_X6_readCore 79 rfl) rfl ?_
                    exact v_sub [] rfl (w_X6_readCore_169 h)
                · have h := itp h c26
                  exact v_sub [] rfl (w_X6_readCore_118 h)
            · have h := itp h c19
              exact v_sub [] rfl (w_X6_readCore_87 h)
        · have h := itp h c12
          exact v_sub [] rfl (w_X6_readCore_56 h)
    · have h := itp h c5
      exact v_sub [] rfl (w_X6_readCore_24 h)
theorem m_X6_readCore {sa : Env3} {a0 : Nat} {σ : St} {r : Int32 × St} (h : f_X6_readCore a0 σ = some r) : Ex sa yX6_readCore cX6_readCore K_X6_readCore [.ref a0] σ (pO r) := Ex.of (by decide) rfl (fun q => nomatch q) (Nat.le_of_ble_eq_true rfl) (w_X6_readCore_0 (itg h).2)
theorem w_X6_readGot_0 {sa : Env3} {a0 : Nat} {σ : St} {r : Int32 × St} (h : f_X6_readGot_0 a0 σ = some r) : VV sa cX6_readGot K_X6_readGot 0 [(0, .ref a0)] [] σ (pO r) 0 0 := by
  unfold f_X6_readGot_0 at h
  refine v_aload_n (dq D_X6_readGot 0 rfl) 0 rfl ?_
  obtain ⟨σ1, hσ1, h⟩ := obi h
  refine v_cVv (bc := 0) (bs := 0) (As := []) (dq D_X6_readGot 1 rfl) cv_X6_advance ml_RX6_65 (itg hσ1).1 (m_X6_advance hσ1) rfl rfl (Nat.le_of_ble_eq_true rfl) ⟨Nat.le_of_ble_eq_true rfl, Nat.le_of_ble_eq_true rfl⟩ ⟨Nat.le_of_ble_eq_true rfl, Nat.le_of_ble_eq_true rfl⟩ ?_
  refine v_aload_n (dq D_X6_readGot 2 rfl) 0 rfl ?_
  refine v_iconst (dq D_X6_readGot 3 rfl) kc_0 ?_
  refine v_bipush (dq D_X6_readGot 4 rfl) kb_7 ?_
  obtain ⟨q2, hq2, h⟩ := obi h
  refine v_cVi (bc := 0) (bs := 0) (As := [.int 0, .int 7]) (dq D_X6_readGot 5 rfl) cv_X6_takesWhole ml_RX6_127 (itg hq2).1 (m_X6_takesWhole hq2) rfl rfl (Nat.le_of_ble_eq_true rfl) ⟨Nat.le_of_ble_eq_true rfl, Nat.le_of_ble_eq_true rfl⟩ ⟨Nat.le_of_ble_eq_true rfl, Nat.le_of_ble_eq_true rfl⟩ ?_
  refine v_if_ne (dq D_X6_readGot 6 rfl) rfl (fun c3 => ?_) (fun c3 => ?_)
  · have h := itn h c3
    refine v_aload_n (dq D_X6_readGot 9 rfl) 0 rfl ?_
    obtain ⟨x4, hx4, h⟩ := obi h
    refine v_gI (dq D_X6_readGot 10 rfl) fa_RX6_131 hx4 ?_
    refine v_istore_n (dq D_X6_readGot 11 rfl) [(1, .int x4), (0, .ref a0)] rfl (Nat.le_of_ble_eq_true rfl) rfl ?_
    refine v_aload_n (dq D_X6_readGot 12 rfl) 1 rfl ?_
    obtain ⟨x5, hx5, h⟩ := obi h
    refine v_gR (dq D_X6_readGot 13 rfl) fa_RX6_22 hx5 ?_
    refine v_iload_n (dq D_X6_readGot 14 rfl) 0 rfl ?_
    obtain ⟨q6, hq6, h⟩ := obi h
    refine v_cVi (bc := 0) (bs := 0) (As := [.int x4]) (dq D_X6_readGot 15 rfl) cv_X5_isGot ml_RX6_203 (itg hq6).1 (m_X5_isGot hq6) rfl rfl (Nat.le_of_ble_eq_true rfl) ⟨Nat.le_of_ble_eq_true rfl, Nat.le_of_ble_eq_true rfl⟩ ⟨Nat.le_of_ble_eq_true rfl, Nat.le_of_ble_eq_true rfl⟩ ?_
    refine v_if_eq (dq D_X6_readGot 16 rfl) rfl (fun c7 => ?_) (fun c7 => ?_)
    · have h := itp h c7
      refine v_aload_n (dq D_X6_readGot 23 rfl) 1 rfl ?_
      refine v_iconst (dq D_X6_readGot 24 rfl) kc_0 ?_
      refine v_sipush (dq D_X6_readGot 25 rfl) ks_9999 ?_
      obtain ⟨q8, hq8, h⟩ := obi h
      refine v_cVi (bc := 0) (bs := 0) (As := [.int 0, .int 9999]) (dq D_X6_readGot 26 rfl) cv_X6_takesWhole ml_RX6_127 (itg hq8).1 (m_X6_takesWhole hq8) rfl rfl (Nat.le_of_ble_eq_true rfl) ⟨Nat.le_of_ble_eq_true rfl, Nat.le_of_ble_eq_true rfl⟩ ⟨Nat.le_of_ble_eq_true rfl, Nat.le_of_ble_eq_true rfl⟩ ?_
      refine v_if_ne (dq D_X6_readGot 27 rfl) rfl (fun c9 => ?_) (fun c9 => ?_)
      · have h := itn h c9
        refine v_aload_n (dq D_X6_readGot 30 rfl) 1 rfl ?_
        obtain ⟨x10, hx10, h⟩ := obi h
        refine v_gR (dq D_X6_readGot 31 rfl) fa_RX6_22 hx10 ?_
        obtain ⟨x11, hx11, h⟩ := obi h
        refine v_gR (dq D_X6_readGot 32 rfl) fa_RX6_206 hx11 ?_
        refine v_aload_n (dq D_X6_readGot 33 rfl) 1 rfl ?_
        obtain ⟨x12, hx12, h⟩ := obi h
        refine v_gR (dq D_X6_readGot 34 rfl) fa_RX6_22 hx12 ?_
        obtain ⟨x13, hx13, h⟩ := obi h
        refine v_gI (dq D_X6_readGot 35 rfl) fa_RX6_88 hx13 ?_
        refine v_iload_n (dq D_X6_readGot 36 rfl) 0 rfl ?_
        obtain ⟨σ14, hσ14, h⟩ := obi h
        refine v_iast (dq D_X6_readGot 37 rfl) hσ14 ?_
        refine v_aload_n (dq D_X6_readGot 38 rfl) 1 rfl ?_
        obtain ⟨x15, hx15, h⟩ := obi h
        refine v_gR (dq D_X6_readGot 39 rfl) fa_RX6_22 hx15 ?_
        obtain ⟨x16, hx16, h⟩ := obi h
        refine v_gR (dq D_X6_readGot 40 rfl) fa_RX6_209 hx16 ?_
        refine v_aload_n (dq D_X6_readGot 41 rfl) 1 rfl ?_
        obtain ⟨x17, hx17, h⟩ := obi h
        refine v_gR (dq D_X6_readGot 42 rfl) fa_RX6_22 hx17 ?_
        obtain ⟨x18, hx18, h⟩ := obi h
        refine v_gI (dq D_X6_readGot 43 rfl) fa_RX6_88 hx18 ?_
        refine v_aload_n (dq D_X6_readGot 44 rfl) 1 rfl ?_
        obtain ⟨x19, hx19, h⟩ := obi h
        refine v_gI (dq D_X6_readGot 45 rfl) fa_RX6_131 hx19 ?_
        obtain ⟨σ20, hσ20, h⟩ := obi h
        refine v_iast (dq D_X6_readGot 46 rfl) hσ20 ?_
        refine v_aload_n (dq D_X6_readGot 47 rfl) 1 rfl ?_
        obtain ⟨x21, hx21, h⟩ := obi h
        refine v_gR (dq D_X6_readGot 48 rfl) fa_RX6_22 hx21 ?_
        refine v_dup (dq D_X6_readGot 49 rfl) rfl ?_
        obtain ⟨x22, hx22, h⟩ := obi h
        refine v_gI (dq D_X6_readGot 50 rfl) fa_RX6_88 hx22 ?_
        refine v_iconst (dq D_X6_readGot 51 rfl) kc_1 ?_
        refine v_iadd (dq D_X6_readGot 52 rfl) ?_
        obtain ⟨σ23, hσ23, h⟩ := obi h
        refine v_pI (dq D_X6_readGot 53 rfl) fp_RX6_88 hσ23 ?_
        refine v_iconst (dq D_X6_readGot 54 rfl) kc_1 ?_
        obtain rfl := Option.some.inj h
        exact v_zret (dq D_X6_readGot 55 rfl) rfl rfl ⟨rfl, rfl⟩
      · have h := itp h c9
        refine v_iconst (dq D_X6_readGot 28 rfl) kc_0 ?_
        obtain rfl := Option.some.inj h
        exact v_zret (dq D_X6_readGot 29 rfl) rfl rfl ⟨rfl, rfl⟩
    · have h := itn h c7
      refine v_aload_n (dq D_X6_readGot 17 rfl) 1 rfl ?_
      refine v_iconst (dq D_X6_readGot 18 rfl) kc_3 ?_
      refine v_aload_n (dq D_X6_readGot 19 rfl) 1 rfl ?_
      obtain ⟨x24, hx24, h⟩ := obi h
      refine v_gI (dq D_X6_readGot 20 rfl) fa_RX6_188 hx24 ?_
      obtain ⟨q25, hq25, h⟩ := obi h
      refine v_cVi (bc := 0) (bs := 0) (As := [.int 3, .int x24]) (dq D_X6_readGot 21 rfl) cv_X6_failsAt ml_RX6_191 (itg hq25).1 (m_X6_failsAt hq25) rfl rfl (Nat.le_of_ble_eq_true rfl) ⟨Nat.le_of_ble_eq_true rfl, Nat.le_of_ble_eq_true rfl⟩ ⟨Nat.le_of_ble_eq_true rfl, Nat.le_of_ble_eq_true rfl⟩ ?_
      have hz := (itg h).1
      have h := (itg h).2
      obtain rfl := Option.some.inj h
      exact v_zret (dq D_X6_readGot 22 rfl) rfl (z_nar hz) ⟨rfl, rfl⟩
  · have h := itp h c3
    refine v_iconst (dq D_X6_readGot 7 rfl) kc_0 ?_
    obtain rfl := Option.some.inj h
    exact v_zret (dq D_X6_readGot 8 rfl) rfl rfl ⟨rfl, rfl⟩
theorem m_X6_readGot {sa : Env3} {a0 : Nat} {σ : St} {r : Int32 × St} (h : f_X6_readGot a0 σ = some r) : Ex sa yX6_readGot cX6_readGot K_X6_readGot [.ref a0] σ (pO r) := Ex.of (by decide) rfl (fun q => nomatch q) (Nat.le_of_ble_eq_true rfl) (w_X6_readGot_0 (itg h).2)
theorem w_X6_sortOfLine_105 {sa : Env3} {s0 : Int32} {σ : St} {r : Int32 × St} (h : f_X6_sortOfLine_105 s0 σ = some r) : VV sa cX6_sortOfLine K_X6_sortOfLine 105 [] [.int s0] σ (pO r) 0 0 := by
  unfold f_X6_sortOfLine_105 at h
  obtain rfl := Option.some.inj h
  exact v_iret (dq D_X6_sortOfLine 55 rfl) rfl ⟨rfl, rfl⟩
theorem w_X6_sortOfLine_0 {sa : Env3} {a0 : Nat} {σ : St} {r : Int32 × St} (h : f_X6_sortOfLine_0 a0 σ = some r) : VV sa cX6_sortOfLine K_X6_sortOfLine 0 [(0, .ref a0)] [] σ (pO r) 0 0 := by
  unfold f_X6_sortOfLine_0 at h
  refine v_aload_n (dq D_X6_sortOfLine 0 rfl) 0 rfl ?_
  refine v_ldcS (dq D_X6_sortOfLine 1 rfl) (str_in 0 rfl) ?_
  obtain ⟨q1, hq1, h⟩ := obi h
  refine v_cVi (bc := 0) (bs := 0) (As := [.ref (sa.1 0)]) (dq D_X6_sortOfLine 2 rfl) cv_X6_isWord ml_RX6_102 (itg hq1).1 (m_X6_isWord hq1) rfl rfl (Nat.le_of_ble_eq_true rfl) ⟨Nat.le_of_ble_eq_true rfl, Nat.le_of_ble_eq_true rfl⟩ ⟨Nat.le_of_ble_eq_true rfl, Nat.le_of_ble_eq_true rfl⟩ ?_
  refine v_if_eq (dq D_X6_sortOfLine 3 rfl) rfl (fun c2 => ?_) (fun c2 => ?_)
  · have h := itp h c2
    refine v_aload_n (dq D_X6_sortOfLine 6 rfl) 0 rfl ?_
    refine v_ldcS (dq D_X6_sortOfLine 7 rfl) (str_in 1 rfl) ?_
    obtain ⟨q3, hq3, h⟩ := obi h
    refine v_cVi (bc := 0) (bs := 0) (As := [.ref (sa.1 1)]) (dq D_X6_sortOfLine 8 rfl) cv_X6_isWord ml_RX6_102 (itg hq3).1 (m_X6_isWord hq3) rfl rfl (Nat.le_of_ble_eq_true rfl) ⟨Nat.le_of_ble_eq_true rfl, Nat.le_of_ble_eq_true rfl⟩ ⟨Nat.le_of_ble_eq_true rfl, Nat.le_of_ble_eq_true rfl⟩ ?_
    refine v_if_eq (dq D_X6_sortOfLine 9 rfl) rfl (fun c4 => ?_) (fun c4 => ?_)
    · have h := itp h c4
      refine v_aload_n (dq D_X6_sortOfLine 12 rfl) 0 rfl ?_
      refine v_ldcS (dq D_X6_sortOfLine 13 rfl) (str_in 2 rfl) ?_
      obtain ⟨q5, hq5, h⟩ := obi h
      refine v_cVi (bc := 0) (bs := 0) (As := [.ref (sa.1 2)]) (dq D_X6_sortOfLine 14 rfl) cv_X6_isWord ml_RX6_102 (itg hq5).1 (m_X6_isWord hq5) rfl rfl (Nat.le_of_ble_eq_true rfl) ⟨Nat.le_of_ble_eq_true rfl, Nat.le_of_ble_eq_true rfl⟩ ⟨Nat.le_of_ble_eq_true rfl, Nat.le_of_ble_eq_true rfl⟩ ?_
      refine v_if_eq (dq D_X6_sortOfLine 15 rfl) rfl (fun c6 => ?_) (fun c6 => ?_)
      · have h := itp h c6
        refine v_aload_n (dq D_X6_sortOfLine 18 rfl) 0 rfl ?_
        refine v_ldcS (dq D_X6_sortOfLine 19 rfl) (str_in 3 rfl) ?_
        obtain ⟨q7, hq7, h⟩ := obi h
        refine v_cVi (bc := 0) (bs := 0) (As := [.ref (sa.1 3)]) (dq D_X6_sortOfLine 20 rfl) cv_X6_isWord ml_RX6_102 (itg hq7).1 (m_X6_isWord hq7) rfl rfl (Nat.le_of_ble_eq_true rfl) ⟨Nat.le_of_ble_eq_true rfl, Nat.le_of_ble_eq_true rfl⟩ ⟨Nat.le_of_ble_eq_true rfl, Nat.le_of_ble_eq_true rfl⟩ ?_
        refine v_if_eq (dq D_X6_sortOfLine 21 rfl) rfl (fun c8 => ?_) (fun c8 => ?_)
        · have h := itp h c8
          refine v_aload_n (dq D_X6_sortOfLine 24 rfl) 0 rfl ?_
          refine v_ldcS (dq D_X6_sortOfLine 25 rfl) (str_in 4 rfl) ?_
          obtain ⟨q9, hq9, h⟩ := obi h
          refine v_cVi (bc := 0) (bs := 0) (As := [.ref (sa.1 4)]) (dq D_X6_sortOfLine 26 rfl) cv_X6_isWord ml_RX6_102 (itg hq9).1 (m_X6_isWord hq9) rfl rfl (Nat.le_of_ble_eq_true rfl) ⟨Nat.le_of_ble_eq_true rfl, Nat.le_of_ble_eq_true rfl⟩ ⟨Nat.le_of_ble_eq_true rfl, Nat.le_of_ble_eq_true rfl⟩ ?_
          refine v_if_eq (dq D_X6_sortOfLine 27 rfl) rfl (fun c10 => ?_) (fun c10 => ?_)
          · have h := itp h c10
            refine v_aload_n (dq D_X6_sortOfLine 30 rfl) 0 rfl ?_
            refine v_ldcS (dq D_X6_sortOfLine 31 rfl) (str_in 5 rfl) ?_
            obtain ⟨q11, hq11, h⟩ := obi h
            refine v_cVi (bc := 0) (bs := 0) (As := [.ref (sa.1 5)]) (dq D_X6_sortOfLine 32 rfl) cv_X6_isWord ml_RX6_102 (itg hq11).1 (m_X6_isWord hq11) rfl rfl (Nat.le_of_ble_eq_true rfl) ⟨Nat.le_of_ble_eq_true rfl, Nat.le_of_ble_eq_true rfl⟩ ⟨Nat.le_of_ble_eq_true rfl, Nat.le_of_ble_eq_true rfl⟩ ?_
            refine v_if_eq (dq D_X6_sortOfLine 33 rfl) rfl (fun c12 => ?_) (fun c12 => ?_)
            · have h := itp h c12
              refine v_aload_n (dq D_X6_sortOfLine 36 rfl) 0 rfl ?_
              refine v_ldcS (dq D_X6_sortOfLine 37 rfl) (str_in 6 rfl) ?_
              obtain ⟨q13, hq13, h⟩ := obi h
              refine v_cVi (bc := 0) (bs := 0) (As := [.ref (sa.1 6)]) (dq D_X6_sortOfLine 38 rfl) cv_X6_isWord ml_RX6_102 (itg hq13).1 (m_X6_isWord hq13) rfl rfl (Nat.le_of_ble_eq_true rfl) ⟨Nat.le_of_ble_eq_true rfl, Nat.le_of_ble_eq_true rfl⟩ ⟨Nat.le_of_ble_eq_true rfl, Nat.le_of_ble_eq_true rfl⟩ ?_
              refine v_if_eq (dq D_X6_sortOfLine 39 rfl) rfl (fun c14 => ?_) (fun c14 => ?_)
              · have h := itp h c14
                refine v_aload_n (dq D_X6_sortOfLine 42 rfl) 0 rfl ?_
                refine v_ldcS (dq D_X6_sortOfLine 43 rfl) (str_in 7 rfl) ?_
                obtain ⟨q15, hq15, h⟩ := obi h
                refine v_cVi (bc := 0) (bs := 0) (As := [.ref (sa.1 7)]) (dq D_X6_sortOfLine 44 rfl) cv_X6_isWord ml_RX6_102 (itg hq15).1 (m_X6_isWord hq15) rfl rfl (Nat.le_of_ble_eq_true rfl) ⟨Nat.le_of_ble_eq_true rfl, Nat.le_of_ble_eq_true rfl⟩ ⟨Nat.le_of_ble_eq_true rfl, Nat.le_of_ble_eq_true rfl⟩ ?_
                refine v_if_eq (dq D_X6_sortOfLine 45 rfl) rfl (fun c16 => ?_) (fun c16 => ?_)
                · have h := itp h c16
                  refine v_aload_n (dq D_X6_sortOfLine 48 rfl) 0 rfl ?_
                  refine v_ldcS (dq D_X6_sortOfLine 49 rfl) (str_in 8 rfl) ?_
                  obtain ⟨q17, hq17, h⟩ := obi h
                  refine v_cVi (bc := 0) (bs := 0) (As := [.ref (sa.1 8)]) (dq D_X6_sortOfLine 50 rfl) cv_X6_isWord ml_RX6_102 (itg hq17).1 (m_X6_isWord hq17) rfl rfl (Nat.le_of_ble_eq_true rfl) ⟨Nat.le_of_ble_eq_true rfl, Nat.le_of_ble_eq_true rfl⟩ ⟨Nat.le_of_ble_eq_true rfl, Nat.le_of_ble_eq_true rfl⟩ ?_
                  refine v_if_eq (dq D_X6_sortOfLine 51 rfl) rfl (fun c18 => ?_) (fun c18 => ?_)
                  · have h := itp h c18
                    refine v_iconst (dq D_X6_sortOfLine 54 rfl) kc_m1 ?_
                    exact v_sub [] rfl (w_X6_sortOfLine_105 h)
                  · have h := itn h c18
                    refine v_bipush (dq D_X6_sortOfLine 52 rfl) kb_8 ?_
                    refine v_goto (dq D_X6_sortOfLine 53 rfl) rfl ?_
                    exact v_sub [] rfl (w_X6_sortOfLine_105 h)
                · have h := itn h c16
                  refine v_bipush (dq D_X6_sortOfLine 46 rfl) kb_7 ?_
                  obtain rfl := Option.some.inj h
                  exact v_iret (dq D_X6_sortOfLine 47 rfl) rfl ⟨rfl, rfl⟩
              · have h := itn h c14
                refine v_bipush (dq D_X6_sortOfLine 40 rfl) kb_6 ?_
                obtain rfl := Option.some.inj h
                exact v_iret (dq D_X6_sortOfLine 41 rfl) rfl ⟨rfl, rfl⟩
            · have h := itn h c12
              refine v_iconst (dq D_X6_sortOfLine 34 rfl) kc_5 ?_
              obtain rfl := Option.some.inj h
              exact v_iret (dq D_X6_sortOfLine 35 rfl) rfl ⟨rfl, rfl⟩
          · have h := itn h c10
            refine v_iconst (dq D_X6_sortOfLine 28 rfl) kc_4 ?_
            obtain rfl := Option.some.inj h
            exact v_iret (dq D_X6_sortOfLine 29 rfl) rfl ⟨rfl, rfl⟩
        · have h := itn h c8
          refine v_iconst (dq D_X6_sortOfLine 22 rfl) kc_3 ?_
          obtain rfl := Option.some.inj h
          exact v_iret (dq D_X6_sortOfLine 23 rfl) rfl ⟨rfl, rfl⟩
      · have h := itn h c6
        refine v_iconst (dq D_X6_sortOfLine 16 rfl) kc_2 ?_
        obtain rfl := Option.some.inj h
        exact v_iret (dq D_X6_sortOfLine 17 rfl) rfl ⟨rfl, rfl⟩
    · have h := itn h c4
      refine v_iconst (dq D_X6_sortOfLine 10 rfl) kc_1 ?_
      obtain rfl := Option.some.inj h
      exact v_iret (dq D_X6_sortOfLine 11 rfl) rfl ⟨rfl, rfl⟩
  · have h := itn h c2
    refine v_iconst (dq D_X6_sortOfLine 4 rfl) kc_0 ?_
    obtain rfl := Option.some.inj h
    exact v_iret (dq D_X6_sortOfLine 5 rfl) rfl ⟨rfl, rfl⟩
theorem m_X6_sortOfLine {sa : Env3} {a0 : Nat} {σ : St} {r : Int32 × St} (h : f_X6_sortOfLine a0 σ = some r) : Ex sa yX6_sortOfLine cX6_sortOfLine K_X6_sortOfLine [.ref a0] σ (pO r) := Ex.of (by decide) rfl (fun q => nomatch q) (Nat.le_of_ble_eq_true rfl) (w_X6_sortOfLine_0 (itg h).2)
theorem w_X6_readUnsure_45 {sa : Env3} {a0 : Nat} {σ : St} {r : Int32 × St} (h : f_X6_readUnsure_45 a0 σ = some r) : VV sa cX6_readUnsure K_X6_readUnsure 45 [(0, .ref a0)] [] σ (pO r) 0 0 := by
  unfold f_X6_readUnsure_45 at h
  refine v_aload_n (dq D_X6_readUnsure 23 rfl) 0 rfl ?_
  refine v_iconst (dq D_X6_readUnsure 24 rfl) kc_2 ?_
  refine v_aload_n (dq D_X6_readUnsure 25 rfl) 0 rfl ?_
  obtain ⟨x1, hx1, h⟩ := obi h
  refine v_gI (dq D_X6_readUnsure 26 rfl) fa_RX6_188 hx1 ?_
  obtain ⟨q2, hq2, h⟩ := obi h
  refine v_cVi (bc := 0) (bs := 0) (As := [.int 2, .int x1]) (dq D_X6_readUnsure 27 rfl) cv_X6_failsAt ml_RX6_191 (itg hq2).1 (m_X6_failsAt hq2) rfl rfl (Nat.le_of_ble_eq_true rfl) ⟨Nat.le_of_ble_eq_true rfl, Nat.le_of_ble_eq_true rfl⟩ ⟨Nat.le_of_ble_eq_true rfl, Nat.le_of_ble_eq_true rfl⟩ ?_
  have hz := (itg h).1
  have h := (itg h).2
  obtain rfl := Option.some.inj h
  exact v_zret (dq D_X6_readUnsure 28 rfl) rfl (z_nar hz) ⟨rfl, rfl⟩
theorem w_X6_readUnsure_0 {sa : Env3} {a0 : Nat} {σ : St} {r : Int32 × St} (h : f_X6_readUnsure_0 a0 σ = some r) : VV sa cX6_readUnsure K_X6_readUnsure 0 [(0, .ref a0)] [] σ (pO r) 0 0 := by
  unfold f_X6_readUnsure_0 at h
  refine v_aload_n (dq D_X6_readUnsure 0 rfl) 0 rfl ?_
  obtain ⟨σ1, hσ1, h⟩ := obi h
  refine v_cVv (bc := 0) (bs := 0) (As := []) (dq D_X6_readUnsure 1 rfl) cv_X6_advance ml_RX6_65 (itg hσ1).1 (m_X6_advance hσ1) rfl rfl (Nat.le_of_ble_eq_true rfl) ⟨Nat.le_of_ble_eq_true rfl, Nat.le_of_ble_eq_true rfl⟩ ⟨Nat.le_of_ble_eq_true rfl, Nat.le_of_ble_eq_true rfl⟩ ?_
  refine v_aload_n (dq D_X6_readUnsure 2 rfl) 0 rfl ?_
  refine v_iconst (dq D_X6_readUnsure 3 rfl) kc_0 ?_
  refine v_sipush (dq D_X6_readUnsure 4 rfl) ks_9999 ?_
  obtain ⟨q2, hq2, h⟩ := obi h
  refine v_cVi (bc := 0) (bs := 0) (As := [.int 0, .int 9999]) (dq D_X6_readUnsure 5 rfl) cv_X6_takesWhole ml_RX6_127 (itg hq2).1 (m_X6_takesWhole hq2) rfl rfl (Nat.le_of_ble_eq_true rfl) ⟨Nat.le_of_ble_eq_true rfl, Nat.le_of_ble_eq_true rfl⟩ ⟨Nat.le_of_ble_eq_true rfl, Nat.le_of_ble_eq_true rfl⟩ ?_
  refine v_if_ne (dq D_X6_readUnsure 6 rfl) rfl (fun c3 => ?_) (fun c3 => ?_)
  · have h := itn h c3
    refine v_aload_n (dq D_X6_readUnsure 9 rfl) 0 rfl ?_
    obtain ⟨x4, hx4, h⟩ := obi h
    refine v_gI (dq D_X6_readUnsure 10 rfl) fa_RX6_131 hx4 ?_
    refine v_istore_n (dq D_X6_readUnsure 11 rfl) [(1, .int x4), (0, .ref a0)] rfl (Nat.le_of_ble_eq_true rfl) rfl ?_
    refine v_aload_n (dq D_X6_readUnsure 12 rfl) 1 rfl ?_
    obtain ⟨x5, hx5, h⟩ := obi h
    refine v_gR (dq D_X6_readUnsure 13 rfl) fa_RX6_22 hx5 ?_
    refine v_iload_n (dq D_X6_readUnsure 14 rfl) 0 rfl ?_
    obtain ⟨q6, hq6, h⟩ := obi h
    refine v_cVi (bc := 0) (bs := 0) (As := [.int x4]) (dq D_X6_readUnsure 15 rfl) cv_X5_has ml_RX6_182 (itg hq6).1 (m_X5_has hq6) rfl rfl (Nat.le_of_ble_eq_true rfl) ⟨Nat.le_of_ble_eq_true rfl, Nat.le_of_ble_eq_true rfl⟩ ⟨Nat.le_of_ble_eq_true rfl, Nat.le_of_ble_eq_true rfl⟩ ?_
    refine v_if_eq (dq D_X6_readUnsure 16 rfl) rfl (fun c7 => ?_) (fun c7 => ?_)
    · have h := itp h c7
      exact v_sub [1] rfl (w_X6_readUnsure_45 h)
    · have h := itn h c7
      refine v_aload_n (dq D_X6_readUnsure 17 rfl) 1 rfl ?_
      obtain ⟨x8, hx8, h⟩ := obi h
      refine v_gR (dq D_X6_readUnsure 18 rfl) fa_RX6_22 hx8 ?_
      obtain ⟨x9, hx9, h⟩ := obi h
      refine v_gR (dq D_X6_readUnsure 19 rfl) fa_RX6_185 hx9 ?_
      refine v_iload_n (dq D_X6_readUnsure 20 rfl) 0 rfl ?_
      obtain ⟨x10, hx10, h⟩ := obi h
      refine v_iald (dq D_X6_readUnsure 21 rfl) hx10 ?_
      refine v_if_eq (dq D_X6_readUnsure 22 rfl) rfl (fun c11 => ?_) (fun c11 => ?_)
      · have h := itp h c11
        refine v_aload_n (dq D_X6_readUnsure 29 rfl) 1 rfl ?_
        obtain ⟨x12, hx12, h⟩ := obi h
        refine v_gR (dq D_X6_readUnsure 30 rfl) fa_RX6_22 hx12 ?_
        refine v_iload_n (dq D_X6_readUnsure 31 rfl) 0 rfl ?_
        obtain ⟨q13, hq13, h⟩ := obi h
        refine v_cVi (bc := 0) (bs := 0) (As := [.int x4]) (dq D_X6_readUnsure 32 rfl) cv_X5_isUnsure ml_RX6_194 (itg hq13).1 (m_X5_isUnsure hq13) rfl rfl (Nat.le_of_ble_eq_true rfl) ⟨Nat.le_of_ble_eq_true rfl, Nat.le_of_ble_eq_true rfl⟩ ⟨Nat.le_of_ble_eq_true rfl, Nat.le_of_ble_eq_true rfl⟩ ?_
        refine v_if_eq (dq D_X6_readUnsure 33 rfl) rfl (fun c14 => ?_) (fun c14 => ?_)
        · have h := itp h c14
          refine v_aload_n (dq D_X6_readUnsure 40 rfl) 1 rfl ?_
          refine v_iconst (dq D_X6_readUnsure 41 rfl) kc_0 ?_
          refine v_sipush (dq D_X6_readUnsure 42 rfl) ks_9999 ?_
          obtain ⟨q15, hq15, h⟩ := obi h
          refine v_cVi (bc := 0) (bs := 0) (As := [.int 0, .int 9999]) (dq D_X6_readUnsure 43 rfl) cv_X6_takesWhole ml_RX6_127 (itg hq15).1 (m_X6_takesWhole hq15) rfl rfl (Nat.le_of_ble_eq_true rfl) ⟨Nat.le_of_ble_eq_true rfl, Nat.le_of_ble_eq_true rfl⟩ ⟨Nat.le_of_ble_eq_true rfl, Nat.le_of_ble_eq_true rfl⟩ ?_
          refine v_if_ne (dq D_X6_readUnsure 44 rfl) rfl (fun c16 => ?_) (fun c16 => ?_)
          · have h := itn h c16
            refine v_aload_n (dq D_X6_readUnsure 47 rfl) 1 rfl ?_
            obtain ⟨x17, hx17, h⟩ := obi h
            refine v_gR (dq D_X6_readUnsure 48 rfl) fa_RX6_22 hx17 ?_
            obtain ⟨x18, hx18, h⟩ := obi h
            refine v_gR (dq D_X6_readUnsure 49 rfl) fa_RX6_197 hx18 ?_
            refine v_aload_n (dq D_X6_readUnsure 50 rfl) 1 rfl ?_
            obtain ⟨x19, hx19, h⟩ := obi h
            refine v_gR (dq D_X6_readUnsure 51 rfl) fa_RX6_22 hx19 ?_
            obtain ⟨x20, hx20, h⟩ := obi h
            refine v_gI (dq D_X6_readUnsure 52 rfl) fa_RX6_82 hx20 ?_
            refine v_iload_n (dq D_X6_readUnsure 53 rfl) 0 rfl ?_
            obtain ⟨σ21, hσ21, h⟩ := obi h
            refine v_iast (dq D_X6_readUnsure 54 rfl) hσ21 ?_
            refine v_aload_n (dq D_X6_readUnsure 55 rfl) 1 rfl ?_
            obtain ⟨x22, hx22, h⟩ := obi h
            refine v_gR (dq D_X6_readUnsure 56 rfl) fa_RX6_22 hx22 ?_
            obtain ⟨x23, hx23, h⟩ := obi h
            refine v_gR (dq D_X6_readUnsure 57 rfl) fa_RX6_200 hx23 ?_
            refine v_aload_n (dq D_X6_readUnsure 58 rfl) 1 rfl ?_
            obtain ⟨x24, hx24, h⟩ := obi h
            refine v_gR (dq D_X6_readUnsure 59 rfl) fa_RX6_22 hx24 ?_
            obtain ⟨x25, hx25, h⟩ := obi h
            refine v_gI (dq D_X6_readUnsure 60 rfl) fa_RX6_82 hx25 ?_
            refine v_aload_n (dq D_X6_readUnsure 61 rfl) 1 rfl ?_
            obtain ⟨x26, hx26, h⟩ := obi h
            refine v_gI (dq D_X6_readUnsure 62 rfl) fa_RX6_131 hx26 ?_
            obtain ⟨σ27, hσ27, h⟩ := obi h
            refine v_iast (dq D_X6_readUnsure 63 rfl) hσ27 ?_
            refine v_aload_n (dq D_X6_readUnsure 64 rfl) 1 rfl ?_
            obtain ⟨x28, hx28, h⟩ := obi h
            refine v_gR (dq D_X6_readUnsure 65 rfl) fa_RX6_22 hx28 ?_
            refine v_dup (dq D_X6_readUnsure 66 rfl) rfl ?_
            obtain ⟨x29, hx29, h⟩ := obi h
            refine v_gI (dq D_X6_readUnsure 67 rfl) fa_RX6_82 hx29 ?_
            refine v_iconst (dq D_X6_readUnsure 68 rfl) kc_1 ?_
            refine v_iadd (dq D_X6_readUnsure 69 rfl) ?_
            obtain ⟨σ30, hσ30, h⟩ := obi h
            refine v_pI (dq D_X6_readUnsure 70 rfl) fp_RX6_82 hσ30 ?_
            refine v_iconst (dq D_X6_readUnsure 71 rfl) kc_1 ?_
            obtain rfl := Option.some.inj h
            exact v_zret (dq D_X6_readUnsure 72 rfl) rfl rfl ⟨rfl, rfl⟩
          · have h := itp h c16
            refine v_iconst (dq D_X6_readUnsure 45 rfl) kc_0 ?_
            obtain rfl := Option.some.inj h
            exact v_zret (dq D_X6_readUnsure 46 rfl) rfl rfl ⟨rfl, rfl⟩
        · have h := itn h c14
          refine v_aload_n (dq D_X6_readUnsure 34 rfl) 1 rfl ?_
          refine v_iconst (dq D_X6_readUnsure 35 rfl) kc_3 ?_
          refine v_aload_n (dq D_X6_readUnsure 36 rfl) 1 rfl ?_
          obtain ⟨x31, hx31, h⟩ := obi h
          refine v_gI (dq D_X6_readUnsure 37 rfl) fa_RX6_188 hx31 ?_
          obtain ⟨q32, hq32, h⟩ := obi h
          refine v_cVi (bc := 0) (bs := 0) (As := [.int 3, .int x31]) (dq D_X6_readUnsure 38 rfl) cv_X6_failsAt ml_RX6_191 (itg hq32).1 (m_X6_failsAt hq32) rfl rfl (Nat.le_of_ble_eq_true rfl) ⟨Nat.le_of_ble_eq_true rfl, Nat.le_of_ble_eq_true rfl⟩ ⟨Nat.le_of_ble_eq_true rfl, Nat.le_of_ble_eq_true rfl⟩ ?_
          have hz := (itg h).1
          have h := (itg h).2
          obtain rfl := Option.some.inj h
          exact v_zret (dq D_X6_readUnsure 39 rfl) rfl (z_nar hz) ⟨rfl, rfl⟩
      · have h := itn h c11
        exact v_sub [1] rfl (w_X6_readUnsure_45 h)
  · have h := itp h c3
    refine v_iconst (dq D_X6_readUnsure 7 rfl) kc_0 ?_
    obtain rfl := Option.some.inj h
    exact v_zret (dq D_X6_readUnsure 8 rfl) rfl rfl ⟨rfl, rfl⟩
theorem m_X6_readUnsure {sa : Env3} {a0 : Nat} {σ : St} {r : Int32 × St} (h : f_X6_readUnsure a0 σ = some r) : Ex sa yX6_readUnsure cX6_readUnsure K_X6_readUnsure [.ref a0] σ (pO r) := Ex.of (by decide) rfl (fun q => nomatch q) (Nat.le_of_ble_eq_true rfl) (w_X6_readUnsure_0 (itg h).2)
theorem w_X6_readSkip_31 {sa : Env3}  {σ : St} {r : Int32 × St} (h : f_X6_readSkip_31  σ = some r) : VV sa cX6_readSkip K_X6_readSkip 31 [] [] σ (pO r) 0 0 := by
  unfold f_X6_readSkip_31 at h
  refine v_iconst (dq D_X6_readSkip 16 rfl) kc_0 ?_
  obtain rfl := Option.some.inj h
  exact v_zret (dq D_X6_readSkip 17 rfl) rfl rfl ⟨rfl, rfl⟩
theorem w_X6_readSkip_88 {sa : Env3} {s0 : Int32} {σ : St} {r : Int32 × St} (h : f_X6_readSkip_88 s0 σ = some r) : VV sa cX6_readSkip K_X6_readSkip 88 [] [.int s0] σ (pO r) 0 0 := by
  unfold f_X6_readSkip_88 at h
  have hz := (itg h).1
  have h := (itg h).2
  obtain rfl := Option.some.inj h
  exact v_zret (dq D_X6_readSkip 46 rfl) rfl (z_nar hz) ⟨rfl, rfl⟩
theorem w_X6_readSkip_0 {sa : Env3} {a0 : Nat} {σ : St} {r : Int32 × St} (h : f_X6_readSkip_0 a0 σ = some r) : VV sa cX6_readSkip K_X6_readSkip 0 [(0, .ref a0)] [] σ (pO r) 0 0 := by
  unfold f_X6_readSkip_0 at h
  refine v_aload_n (dq D_X6_readSkip 0 rfl) 0 rfl ?_
  obtain ⟨σ1, hσ1, h⟩ := obi h
  refine v_cVv (bc := 0) (bs := 0) (As := []) (dq D_X6_readSkip 1 rfl) cv_X6_advance ml_RX6_65 (itg hσ1).1 (m_X6_advance hσ1) rfl rfl (Nat.le_of_ble_eq_true rfl) ⟨Nat.le_of_ble_eq_true rfl, Nat.le_of_ble_eq_true rfl⟩ ⟨Nat.le_of_ble_eq_true rfl, Nat.le_of_ble_eq_true rfl⟩ ?_
  refine v_aload_n (dq D_X6_readSkip 2 rfl) 0 rfl ?_
  obtain ⟨x2, hx2, h⟩ := obi h
  refine v_gR (dq D_X6_readSkip 3 rfl) fa_RX6_22 hx2 ?_
  refine v_iconst (dq D_X6_readSkip 4 rfl) kc_5 ?_
  obtain ⟨q3, hq3, h⟩ := obi h
  refine v_cVi (bc := 0) (bs := 0) (As := [.int 5]) (dq D_X6_readSkip 5 rfl) cv_X5_emptyStep ml_RX6_155 (itg hq3).1 (m_X5_emptyStep hq3) rfl rfl (Nat.le_of_ble_eq_true rfl) ⟨Nat.le_of_ble_eq_true rfl, Nat.le_of_ble_eq_true rfl⟩ ⟨Nat.le_of_ble_eq_true rfl, Nat.le_of_ble_eq_true rfl⟩ ?_
  refine v_istore_n (dq D_X6_readSkip 6 rfl) [(1, .int q3.1), (0, .ref a0)] rfl (Nat.le_of_ble_eq_true rfl) rfl ?_
  refine v_aload_n (dq D_X6_readSkip 7 rfl) 1 rfl ?_
  refine v_iload_n (dq D_X6_readSkip 8 rfl) 0 rfl ?_
  obtain ⟨q4, hq4, h⟩ := obi h
  refine v_cVi (bc := 0) (bs := 0) (As := [.int q3.1]) (dq D_X6_readSkip 9 rfl) cv_X6_takesPair ml_RX6_159 (itg hq4).1 (m_X6_takesPair hq4) rfl rfl (Nat.le_of_ble_eq_true rfl) ⟨Nat.le_of_ble_eq_true rfl, Nat.le_of_ble_eq_true rfl⟩ ⟨Nat.le_of_ble_eq_true rfl, Nat.le_of_ble_eq_true rfl⟩ ?_
  refine v_if_eq (dq D_X6_readSkip 10 rfl) rfl (fun c5 => ?_) (fun c5 => ?_)
  · have h := itp h c5
    exact v_sub [] rfl (w_X6_readSkip_31 h)
  · have h := itn h c5
    refine v_aload_n (dq D_X6_readSkip 11 rfl) 1 rfl ?_
    refine v_iconst (dq D_X6_readSkip 12 rfl) kc_0 ?_
    refine v_bipush (dq D_X6_readSkip 13 rfl) kb_24 ?_
    obtain ⟨q6, hq6, h⟩ := obi h
    refine v_cVi (bc := 0) (bs := 0) (As := [.int 0, .int 24]) (dq D_X6_readSkip 14 rfl) cv_X6_takesWhole ml_RX6_127 (itg hq6).1 (m_X6_takesWhole hq6) rfl rfl (Nat.le_of_ble_eq_true rfl) ⟨Nat.le_of_ble_eq_true rfl, Nat.le_of_ble_eq_true rfl⟩ ⟨Nat.le_of_ble_eq_true rfl, Nat.le_of_ble_eq_true rfl⟩ ?_
    refine v_if_ne (dq D_X6_readSkip 15 rfl) rfl (fun c7 => ?_) (fun c7 => ?_)
    · have h := itn h c7
      refine v_aload_n (dq D_X6_readSkip 18 rfl) 1 rfl ?_
      obtain ⟨x8, hx8, h⟩ := obi h
      refine v_gR (dq D_X6_readSkip 19 rfl) fa_RX6_22 hx8 ?_
      obtain ⟨x9, hx9, h⟩ := obi h
      refine v_gR (dq D_X6_readSkip 20 rfl) fa_RX6_162 hx9 ?_
      refine v_iload_n (dq D_X6_readSkip 21 rfl) 0 rfl ?_
      refine v_aload_n (dq D_X6_readSkip 22 rfl) 1 rfl ?_
      obtain ⟨x10, hx10, h⟩ := obi h
      refine v_gI (dq D_X6_readSkip 23 rfl) fa_RX6_131 hx10 ?_
      obtain ⟨σ11, hσ11, h⟩ := obi h
      refine v_iast (dq D_X6_readSkip 24 rfl) hσ11 ?_
      refine v_aload_n (dq D_X6_readSkip 25 rfl) 1 rfl ?_
      obtain ⟨x12, hx12, h⟩ := obi h
      refine v_gR (dq D_X6_readSkip 26 rfl) fa_RX6_22 hx12 ?_
      obtain ⟨x13, hx13, h⟩ := obi h
      refine v_gR (dq D_X6_readSkip 27 rfl) fa_RX6_165 hx13 ?_
      refine v_iload_n (dq D_X6_readSkip 28 rfl) 0 rfl ?_
      refine v_aload_n (dq D_X6_readSkip 29 rfl) 1 rfl ?_
      refine v_ldcS (dq D_X6_readSkip 30 rfl) (str_in 15 rfl) ?_
      obtain ⟨q14, hq14, h⟩ := obi h
      refine v_cVi (bc := 0) (bs := 0) (As := [.ref (sa.1 15)]) (dq D_X6_readSkip 31 rfl) cv_X6_isWord ml_RX6_102 (itg hq14).1 (m_X6_isWord hq14) rfl rfl (Nat.le_of_ble_eq_true rfl) ⟨Nat.le_of_ble_eq_true rfl, Nat.le_of_ble_eq_true rfl⟩ ⟨Nat.le_of_ble_eq_true rfl, Nat.le_of_ble_eq_true rfl⟩ ?_
      obtain ⟨σ15, hσ15, h⟩ := obi h
      refine v_zast (dq D_X6_readSkip 32 rfl) hσ15 ?_
      refine v_aload_n (dq D_X6_readSkip 33 rfl) 1 rfl ?_
      obtain ⟨x16, hx16, h⟩ := obi h
      refine v_gR (dq D_X6_readSkip 34 rfl) fa_RX6_22 hx16 ?_
      obtain ⟨x17, hx17, h⟩ := obi h
      refine v_gR (dq D_X6_readSkip 35 rfl) fa_RX6_165 hx17 ?_
      refine v_iload_n (dq D_X6_readSkip 36 rfl) 0 rfl ?_
      obtain ⟨x18, hx18, h⟩ := obi h
      refine v_zald (dq D_X6_readSkip 37 rfl) hx18 ?_
      refine v_if_eq (dq D_X6_readSkip 38 rfl) rfl (fun c19 => ?_) (fun c19 => ?_)
      · have h := itp h c19
        refine v_aload_n (dq D_X6_readSkip 43 rfl) 1 rfl ?_
        refine v_ldcS (dq D_X6_readSkip 44 rfl) (str_in 16 rfl) ?_
        obtain ⟨q20, hq20, h⟩ := obi h
        refine v_cVi (bc := 0) (bs := 0) (As := [.ref (sa.1 16)]) (dq D_X6_readSkip 45 rfl) cv_X6_takesWord ml_RX6_124 (itg hq20).1 (m_X6_takesWord hq20) rfl rfl (Nat.le_of_ble_eq_true rfl) ⟨Nat.le_of_ble_eq_true rfl, Nat.le_of_ble_eq_true rfl⟩ ⟨Nat.le_of_ble_eq_true rfl, Nat.le_of_ble_eq_true rfl⟩ ?_
        exact v_sub [] rfl (w_X6_readSkip_88 h)
      · have h := itn h c19
        refine v_aload_n (dq D_X6_readSkip 39 rfl) 1 rfl ?_
        refine v_ldcS (dq D_X6_readSkip 40 rfl) (str_in 15 rfl) ?_
        obtain ⟨q21, hq21, h⟩ := obi h
        refine v_cVi (bc := 0) (bs := 0) (As := [.ref (sa.1 15)]) (dq D_X6_readSkip 41 rfl) cv_X6_takesWord ml_RX6_124 (itg hq21).1 (m_X6_takesWord hq21) rfl rfl (Nat.le_of_ble_eq_true rfl) ⟨Nat.le_of_ble_eq_true rfl, Nat.le_of_ble_eq_true rfl⟩ ⟨Nat.le_of_ble_eq_true rfl, Nat.le_of_ble_eq_true rfl⟩ ?_
        refine v_goto (dq D_X6_readSkip 42 rfl) rfl ?_
        exact v_sub [] rfl (w_X6_readSkip_88 h)
    · have h := itp h c7
      exact v_sub [] rfl (w_X6_readSkip_31 h)
theorem m_X6_readSkip {sa : Env3} {a0 : Nat} {σ : St} {r : Int32 × St} (h : f_X6_readSkip a0 σ = some r) : Ex sa yX6_readSkip cX6_readSkip K_X6_readSkip [.ref a0] σ (pO r) := Ex.of (by decide) rfl (fun q => nomatch q) (Nat.le_of_ble_eq_true rfl) (w_X6_readSkip_0 (itg h).2)
theorem w_X6_readLine_163 {sa : Env3} {a3 : Int32} {s0 : Nat} {s1 : Int32} {s2 : Int32} {σ : St} {r : Int32 × St} (h : f_X6_readLine_163 a3 s0 s1 s2 σ = some r) : VV sa cX6_readLine K_X6_readLine 163 [(3, .int a3)] [.int s2, .int s1, .ref s0] σ (pO r) 0 0 := by
  unfold f_X6_readLine_163 at h
  refine v_iadd (dq D_X6_readLine 85 rfl) ?_
  obtain ⟨σ1, hσ1, h⟩ := obi h
  refine v_pI (dq D_X6_readLine 86 rfl) fp_RX6_59 hσ1 ?_
  refine v_iload_n (dq D_X6_readLine 87 rfl) 0 rfl ?_
  have hz := (itg h).1
  have h := (itg h).2
  obtain rfl := Option.some.inj h
  exact v_zret (dq D_X6_readLine 88 rfl) rfl (z_nar hz) ⟨rfl, rfl⟩
theorem w_X6_readLine_145 {sa : Env3} {a0 : Nat} {s0 : Int32} {σ : St} {r : Int32 × St} (h : f_X6_readLine_145 a0 s0 σ = some r) : VV sa cX6_readLine K_X6_readLine 145 [(0, .ref a0)] [.int s0] σ (pO r) 0 0 := by
  unfold f_X6_readLine_145 at h
  refine v_istore_n (dq D_X6_readLine 75 rfl) [(3, .int s0), (0, .ref a0)] rfl (Nat.le_of_ble_eq_true rfl) rfl ?_
  refine v_aload_n (dq D_X6_readLine 76 rfl) 1 rfl ?_
  obtain ⟨x1, hx1, h⟩ := obi h
  refine v_gR (dq D_X6_readLine 77 rfl) fa_RX6_22 hx1 ?_
  refine v_dup (dq D_X6_readLine 78 rfl) rfl ?_
  obtain ⟨x2, hx2, h⟩ := obi h
  refine v_gI (dq D_X6_readLine 79 rfl) fa_RX6_59 hx2 ?_
  refine v_iload_n (dq D_X6_readLine 80 rfl) 0 rfl ?_
  refine v_if_eq (dq D_X6_readLine 81 rfl) rfl (fun c3 => ?_) (fun c3 => ?_)
  · have h := itp h c3
    refine v_iconst (dq D_X6_readLine 84 rfl) kc_0 ?_
    exact v_sub [0] rfl (w_X6_readLine_163 h)
  · have h := itn h c3
    refine v_iconst (dq D_X6_readLine 82 rfl) kc_1 ?_
    refine v_goto (dq D_X6_readLine 83 rfl) rfl ?_
    exact v_sub [0] rfl (w_X6_readLine_163 h)
theorem w_X6_readLine_109 {sa : Env3} {s0 : Int32} {σ : St} {r : Int32 × St} (h : f_X6_readLine_109 s0 σ = some r) : VV sa cX6_readLine K_X6_readLine 109 [] [.int s0] σ (pO r) 0 0 := by
  unfold f_X6_readLine_109 at h
  have hz := (itg h).1
  have h := (itg h).2
  obtain rfl := Option.some.inj h
  exact v_zret (dq D_X6_readLine 56 rfl) rfl (z_nar hz) ⟨rfl, rfl⟩
theorem w_X6_readLine_78 {sa : Env3} {s0 : Int32} {σ : St} {r : Int32 × St} (h : f_X6_readLine_78 s0 σ = some r) : VV sa cX6_readLine K_X6_readLine 78 [] [.int s0] σ (pO r) 0 0 := by
  unfold f_X6_readLine_78 at h
  have hz := (itg h).1
  have h := (itg h).2
  obtain rfl := Option.some.inj h
  exact v_zret (dq D_X6_readLine 41 rfl) rfl (z_nar hz) ⟨rfl, rfl⟩
theorem w_X6_readLine_37 {sa : Env3} {s0 : Int32} {σ : St} {r : Int32 × St} (h : f_X6_readLine_37 s0 σ = some r) : VV sa cX6_readLine K_X6_readLine 37 [] [.int s0] σ (pO r) 0 0 := by
  unfold f_X6_readLine_37 at h
  have hz := (itg h).1
  have h := (itg h).2
  obtain rfl := Option.some.inj h
  exact v_zret (dq D_X6_readLine 20 rfl) rfl (z_nar hz) ⟨rfl, rfl⟩
theorem w_X6_readLine_0 {sa : Env3} {a0 : Nat} {a1 : Int32} {σ : St} {r : Int32 × St} (h : f_X6_readLine_0 a0 a1 σ = some r) : VV sa cX6_readLine K_X6_readLine 0 [(0, .ref a0), (1, .int a1)] [] σ (pO r) 0 0 := by
  unfold f_X6_readLine_0 at h
  refine v_aload_n (dq D_X6_readLine 0 rfl) 0 rfl ?_
  obtain ⟨q1, hq1, h⟩ := obi h
  refine v_cVi (bc := 0) (bs := 0) (As := []) (dq D_X6_readLine 1 rfl) cv_X6_sortOfLine ml_RX6_74 (itg hq1).1 (m_X6_sortOfLine hq1) rfl rfl (Nat.le_of_ble_eq_true rfl) ⟨Nat.le_of_ble_eq_true rfl, Nat.le_of_ble_eq_true rfl⟩ ⟨Nat.le_of_ble_eq_true rfl, Nat.le_of_ble_eq_true rfl⟩ ?_
  refine v_istore_n (dq D_X6_readLine 2 rfl) [(2, .int q1.1), (0, .ref a0), (1, .int a1)] rfl (Nat.le_of_ble_eq_true rfl) rfl ?_
  refine v_iload_n (dq D_X6_readLine 3 rfl) 0 rfl ?_
  refine v_if_ge (dq D_X6_readLine 4 rfl) rfl (fun c2 => ?_) (fun c2 => ?_)
  · have h := itp h c2
    refine v_iload_n (dq D_X6_readLine 9 rfl) 0 rfl ?_
    refine v_bipush (dq D_X6_readLine 10 rfl) kb_6 ?_
    refine v_icmp_ne (dq D_X6_readLine 11 rfl) rfl (fun c3 => ?_) (fun c3 => ?_)
    · have h := itn h c3
      refine v_iload_n (dq D_X6_readLine 21 rfl) 2 rfl ?_
      refine v_if_ne (dq D_X6_readLine 22 rfl) rfl (fun c4 => ?_) (fun c4 => ?_)
      · have h := itn h c4
        refine v_iload_n (dq D_X6_readLine 27 rfl) 0 rfl ?_
        refine v_bipush (dq D_X6_readLine 28 rfl) kb_7 ?_
        refine v_icmp_ne (dq D_X6_readLine 29 rfl) rfl (fun c5 => ?_) (fun c5 => ?_)
        · have h := itn h c5
          refine v_iload_n (dq D_X6_readLine 42 rfl) 0 rfl ?_
          refine v_bipush (dq D_X6_readLine 43 rfl) kb_8 ?_
          refine v_icmp_ne (dq D_X6_readLine 44 rfl) rfl (fun c6 => ?_) (fun c6 => ?_)
          · have h := itn h c6
            refine v_aload_n (dq D_X6_readLine 57 rfl) 1 rfl ?_
            obtain ⟨x7, hx7, h⟩ := obi h
            refine v_gR (dq D_X6_readLine 58 rfl) fa_RX6_22 hx7 ?_
            obtain ⟨x8, hx8, h⟩ := obi h
            refine v_gI (dq D_X6_readLine 59 rfl) fa_RX6_59 hx8 ?_
            refine v_bipush (dq D_X6_readLine 60 rfl) kb_24 ?_
            refine v_icmp_lt (dq D_X6_readLine 61 rfl) rfl (fun c9 => ?_) (fun c9 => ?_)
            · have h := itp h c9
              refine v_iload_n (dq D_X6_readLine 66 rfl) 0 rfl ?_
              refine v_iconst (dq D_X6_readLine 67 rfl) kc_5 ?_
              refine v_icmp_ne (dq D_X6_readLine 68 rfl) rfl (fun c10 => ?_) (fun c10 => ?_)
              · have h := itn h c10
                refine v_aload_n (dq D_X6_readLine 72 rfl) 1 rfl ?_
                refine v_iload_n (dq D_X6_readLine 73 rfl) 0 rfl ?_
                obtain ⟨q11, hq11, h⟩ := obi h
                refine v_cVi (bc := 0) (bs := 0) (As := [.int q1.1]) (dq D_X6_readLine 74 rfl) cv_X6_readChange ml_RX6_97 (itg hq11).1 (m_X6_readChange hq11) rfl rfl (Nat.le_of_ble_eq_true rfl) ⟨Nat.le_of_ble_eq_true rfl, Nat.le_of_ble_eq_true rfl⟩ ⟨Nat.le_of_ble_eq_true rfl, Nat.le_of_ble_eq_true rfl⟩ ?_
                exact v_sub [1] rfl (w_X6_readLine_145 h)
              · have h := itp h c10
                refine v_aload_n (dq D_X6_readLine 69 rfl) 1 rfl ?_
                obtain ⟨q12, hq12, h⟩ := obi h
                refine v_cVi (bc := 0) (bs := 0) (As := []) (dq D_X6_readLine 70 rfl) cv_X6_readSkip ml_RX6_94 (itg hq12).1 (m_X6_readSkip hq12) rfl rfl (Nat.le_of_ble_eq_true rfl) ⟨Nat.le_of_ble_eq_true rfl, Nat.le_of_ble_eq_true rfl⟩ ⟨Nat.le_of_ble_eq_true rfl, Nat.le_of_ble_eq_true rfl⟩ ?_
                refine v_goto (dq D_X6_readLine 71 rfl) rfl ?_
                exact v_sub [1] rfl (w_X6_readLine_145 h)
            · have h := itn h c9
              refine v_aload_n (dq D_X6_readLine 62 rfl) 1 rfl ?_
              refine v_iconst (dq D_X6_readLine 63 rfl) kc_5 ?_
              obtain ⟨q13, hq13, h⟩ := obi h
              refine v_cVi (bc := 0) (bs := 0) (As := [.int 5]) (dq D_X6_readLine 64 rfl) cv_X6_fails ml_RX6_62 (itg hq13).1 (m_X6_fails hq13) rfl rfl (Nat.le_of_ble_eq_true rfl) ⟨Nat.le_of_ble_eq_true rfl, Nat.le_of_ble_eq_true rfl⟩ ⟨Nat.le_of_ble_eq_true rfl, Nat.le_of_ble_eq_true rfl⟩ ?_
              have hz := (itg h).1
              have h := (itg h).2
              obtain rfl := Option.some.inj h
              exact v_zret (dq D_X6_readLine 65 rfl) rfl (z_nar hz) ⟨rfl, rfl⟩
          · have h := itp h c6
            refine v_aload_n (dq D_X6_readLine 45 rfl) 1 rfl ?_
            obtain ⟨x14, hx14, h⟩ := obi h
            refine v_gR (dq D_X6_readLine 46 rfl) fa_RX6_22 hx14 ?_
            obtain ⟨x15, hx15, h⟩ := obi h
            refine v_gI (dq D_X6_readLine 47 rfl) fa_RX6_88 hx15 ?_
            refine v_bipush (dq D_X6_readLine 48 rfl) kb_6 ?_
            refine v_icmp_ge (dq D_X6_readLine 49 rfl) rfl (fun c16 => ?_) (fun c16 => ?_)
            · have h := itp h c16
              refine v_aload_n (dq D_X6_readLine 53 rfl) 1 rfl ?_
              refine v_iconst (dq D_X6_readLine 54 rfl) kc_5 ?_
              obtain ⟨q17, hq17, h⟩ := obi h
              refine v_cVi (bc := 0) (bs := 0) (As := [.int 5]) (dq D_X6_readLine 55 rfl) cv_X6_fails ml_RX6_62 (itg hq17).1 (m_X6_fails hq17) rfl rfl (Nat.le_of_ble_eq_true rfl) ⟨Nat.le_of_ble_eq_true rfl, Nat.le_of_ble_eq_true rfl⟩ ⟨Nat.le_of_ble_eq_true rfl, Nat.le_of_ble_eq_true rfl⟩ ?_
              exact v_sub [] rfl (w_X6_readLine_109 h)
            · have h := itn h c16
              refine v_aload_n (dq D_X6_readLine 50 rfl) 1 rfl ?_
              obtain ⟨q18, hq18, h⟩ := obi h
              refine v_cVi (bc := 0) (bs := 0) (As := []) (dq D_X6_readLine 51 rfl) cv_X6_readGot ml_RX6_91 (itg hq18).1 (m_X6_readGot hq18) rfl rfl (Nat.le_of_ble_eq_true rfl) ⟨Nat.le_of_ble_eq_true rfl, Nat.le_of_ble_eq_true rfl⟩ ⟨Nat.le_of_ble_eq_true rfl, Nat.le_of_ble_eq_true rfl⟩ ?_
              refine v_goto (dq D_X6_readLine 52 rfl) rfl ?_
              exact v_sub [] rfl (w_X6_readLine_109 h)
        · have h := itp h c5
          refine v_aload_n (dq D_X6_readLine 30 rfl) 1 rfl ?_
          obtain ⟨x19, hx19, h⟩ := obi h
          refine v_gR (dq D_X6_readLine 31 rfl) fa_RX6_22 hx19 ?_
          obtain ⟨x20, hx20, h⟩ := obi h
          refine v_gI (dq D_X6_readLine 32 rfl) fa_RX6_82 hx20 ?_
          refine v_iconst (dq D_X6_readLine 33 rfl) kc_4 ?_
          refine v_icmp_ge (dq D_X6_readLine 34 rfl) rfl (fun c21 => ?_) (fun c21 => ?_)
          · have h := itp h c21
            refine v_aload_n (dq D_X6_readLine 38 rfl) 1 rfl ?_
            refine v_iconst (dq D_X6_readLine 39 rfl) kc_5 ?_
            obtain ⟨q22, hq22, h⟩ := obi h
            refine v_cVi (bc := 0) (bs := 0) (As := [.int 5]) (dq D_X6_readLine 40 rfl) cv_X6_fails ml_RX6_62 (itg hq22).1 (m_X6_fails hq22) rfl rfl (Nat.le_of_ble_eq_true rfl) ⟨Nat.le_of_ble_eq_true rfl, Nat.le_of_ble_eq_true rfl⟩ ⟨Nat.le_of_ble_eq_true rfl, Nat.le_of_ble_eq_true rfl⟩ ?_
            exact v_sub [] rfl (w_X6_readLine_78 h)
          · have h := itn h c21
            refine v_aload_n (dq D_X6_readLine 35 rfl) 1 rfl ?_
            obtain ⟨q23, hq23, h⟩ := obi h
            refine v_cVi (bc := 0) (bs := 0) (As := []) (dq D_X6_readLine 36 rfl) cv_X6_readUnsure ml_RX6_85 (itg hq23).1 (m_X6_readUnsure hq23) rfl rfl (Nat.le_of_ble_eq_true rfl) ⟨Nat.le_of_ble_eq_true rfl, Nat.le_of_ble_eq_true rfl⟩ ⟨Nat.le_of_ble_eq_true rfl, Nat.le_of_ble_eq_true rfl⟩ ?_
            refine v_goto (dq D_X6_readLine 37 rfl) rfl ?_
            exact v_sub [] rfl (w_X6_readLine_78 h)
      · have h := itp h c4
        refine v_aload_n (dq D_X6_readLine 23 rfl) 1 rfl ?_
        refine v_bipush (dq D_X6_readLine 24 rfl) kb_6 ?_
        obtain ⟨q24, hq24, h⟩ := obi h
        refine v_cVi (bc := 0) (bs := 0) (As := [.int 6]) (dq D_X6_readLine 25 rfl) cv_X6_fails ml_RX6_62 (itg hq24).1 (m_X6_fails hq24) rfl rfl (Nat.le_of_ble_eq_true rfl) ⟨Nat.le_of_ble_eq_true rfl, Nat.le_of_ble_eq_true rfl⟩ ⟨Nat.le_of_ble_eq_true rfl, Nat.le_of_ble_eq_true rfl⟩ ?_
        have hz := (itg h).1
        have h := (itg h).2
        obtain rfl := Option.some.inj h
        exact v_zret (dq D_X6_readLine 26 rfl) rfl (z_nar hz) ⟨rfl, rfl⟩
    · have h := itp h c3
      refine v_iload_n (dq D_X6_readLine 12 rfl) 2 rfl ?_
      refine v_if_ne (dq D_X6_readLine 13 rfl) rfl (fun c25 => ?_) (fun c25 => ?_)
      · have h := itn h c25
        refine v_aload_n (dq D_X6_readLine 17 rfl) 1 rfl ?_
        refine v_iconst (dq D_X6_readLine 18 rfl) kc_3 ?_
        obtain ⟨q26, hq26, h⟩ := obi h
        refine v_cVi (bc := 0) (bs := 0) (As := [.int 3]) (dq D_X6_readLine 19 rfl) cv_X6_fails ml_RX6_62 (itg hq26).1 (m_X6_fails hq26) rfl rfl (Nat.le_of_ble_eq_true rfl) ⟨Nat.le_of_ble_eq_true rfl, Nat.le_of_ble_eq_true rfl⟩ ⟨Nat.le_of_ble_eq_true rfl, Nat.le_of_ble_eq_true rfl⟩ ?_
        exact v_sub [] rfl (w_X6_readLine_37 h)
      · have h := itp h c25
        refine v_aload_n (dq D_X6_readLine 14 rfl) 1 rfl ?_
        obtain ⟨q27, hq27, h⟩ := obi h
        refine v_cVi (bc := 0) (bs := 0) (As := []) (dq D_X6_readLine 15 rfl) cv_X6_readCore ml_RX6_78 (itg hq27).1 (m_X6_readCore hq27) rfl rfl (Nat.le_of_ble_eq_true rfl) ⟨Nat.le_of_ble_eq_true rfl, Nat.le_of_ble_eq_true rfl⟩ ⟨Nat.le_of_ble_eq_true rfl, Nat.le_of_ble_eq_true rfl⟩ ?_
        refine v_goto (dq D_X6_readLine 16 rfl) rfl ?_
        exact v_sub [] rfl (w_X6_readLine_37 h)
  · have h := itn h c2
    refine v_aload_n (dq D_X6_readLine 5 rfl) 1 rfl ?_
    refine v_iconst (dq D_X6_readLine 6 rfl) kc_1 ?_
    obtain ⟨q28, hq28, h⟩ := obi h
    refine v_cVi (bc := 0) (bs := 0) (As := [.int 1]) (dq D_X6_readLine 7 rfl) cv_X6_fails ml_RX6_62 (itg hq28).1 (m_X6_fails hq28) rfl rfl (Nat.le_of_ble_eq_true rfl) ⟨Nat.le_of_ble_eq_true rfl, Nat.le_of_ble_eq_true rfl⟩ ⟨Nat.le_of_ble_eq_true rfl, Nat.le_of_ble_eq_true rfl⟩ ?_
    have hz := (itg h).1
    have h := (itg h).2
    obtain rfl := Option.some.inj h
    exact v_zret (dq D_X6_readLine 8 rfl) rfl (z_nar hz) ⟨rfl, rfl⟩
theorem m_X6_readLine {sa : Env3} {a0 : Nat} {a1 : Int32} {σ : St} {r : Int32 × St} (h : f_X6_readLine a0 a1 σ = some r) : Ex sa yX6_readLine cX6_readLine K_X6_readLine [.ref a0, .int a1] σ (pO r) := Ex.of (by decide) rfl (fun q => nomatch q) (Nat.le_of_ble_eq_true rfl) (w_X6_readLine_0 (itg h).2)
theorem w_X7_pastBlanks_21 {sa : Env3} {a3 : Int32} {σ : St} {r : Int32 × St} (h : f_X7_pastBlanks_21 a3 σ = some r) : VV sa cX7_pastBlanks K_X7_pastBlanks 21 [(3, .int a3)] [] σ (pO r) 0 0 := by
  unfold f_X7_pastBlanks_21 at h
  refine v_iload_n (dq D_X7_pastBlanks 12 rfl) 0 rfl ?_
  obtain rfl := Option.some.inj h
  exact v_iret (dq D_X7_pastBlanks 13 rfl) rfl ⟨rfl, rfl⟩
theorem w_X7_pastBlanks_2 {sa : Env3} : ∀ (n : Nat) {a0 : Nat} {a2 : Int32} {a3 : Int32} {σ : St} {r : Int32 × St}, f_X7_pastBlanks_2 n a0 a2 a3 σ = some r → VV sa cX7_pastBlanks K_X7_pastBlanks 2 [(0, .ref a0), (2, .int a2), (3, .int a3)] [] σ (pO r) 0 0 := by
  intro n
  induction n with
  | zero => intro a0 a2 a3 σ r h; cases h
  | succ n ih =>
    intro a0 a2 a3 σ r h
    rw [e_X7_pastBlanks_2] at h
    refine v_iload_n (dq D_X7_pastBlanks 2 rfl) 2 rfl ?_
    refine v_iload_n (dq D_X7_pastBlanks 3 rfl) 1 rfl ?_
    refine v_icmp_ge (dq D_X7_pastBlanks 4 rfl) rfl (fun c1 => ?_) (fun c1 => ?_)
    · have h := itp h c1
      exact v_sub [2] rfl (w_X7_pastBlanks_21 h)
    · have h := itn h c1
      refine v_aload_n (dq D_X7_pastBlanks 5 rfl) 0 rfl ?_
      refine v_iload_n (dq D_X7_pastBlanks 6 rfl) 2 rfl ?_
      obtain ⟨x2, hx2, h⟩ := obi h
      refine v_bald (dq D_X7_pastBlanks 7 rfl) hx2 ?_
      refine v_bipush (dq D_X7_pastBlanks 8 rfl) kb_32 ?_
      refine v_icmp_ne (dq D_X7_pastBlanks 9 rfl) rfl (fun c3 => ?_) (fun c3 => ?_)
      · have h := itn h c3
        exact v_sub [2] rfl (w_X7_pastBlanks_21 h)
      · have h := itp h c3
        refine v_iinc (dq D_X7_pastBlanks 10 rfl) 2 [(3, .int (a3 + 1)), (0, .ref a0), (2, .int a2)] rfl kc_1 (Nat.le_of_ble_eq_true rfl) rfl ?_
        refine v_goto (dq D_X7_pastBlanks 11 rfl) rfl ?_
        exact v_sub [1, 2, 0] rfl (ih h)
theorem w_X7_pastBlanks_0 {sa : Env3} {a0 : Nat} {a1 : Int32} {a2 : Int32} {σ : St} {r : Int32 × St} (h : f_X7_pastBlanks_0 a0 a1 a2 σ = some r) : VV sa cX7_pastBlanks K_X7_pastBlanks 0 [(0, .ref a0), (1, .int a1), (2, .int a2)] [] σ (pO r) 0 0 := by
  unfold f_X7_pastBlanks_0 at h
  refine v_iload_n (dq D_X7_pastBlanks 0 rfl) 1 rfl ?_
  refine v_istore_n (dq D_X7_pastBlanks 1 rfl) [(3, .int a1), (0, .ref a0), (1, .int a1), (2, .int a2)] rfl (Nat.le_of_ble_eq_true rfl) rfl ?_
  exact v_sub [1, 3, 0] rfl (w_X7_pastBlanks_2 _ h)
theorem m_X7_pastBlanks {sa : Env3} {a0 : Nat} {a1 : Int32} {a2 : Int32} {σ : St} {r : Int32 × St} (h : f_X7_pastBlanks a0 a1 a2 σ = some r) : Ex sa yX7_pastBlanks cX7_pastBlanks K_X7_pastBlanks [.ref a0, .int a1, .int a2] σ (pO r) := Ex.of (by decide) rfl (fun q => nomatch q) (Nat.le_of_ble_eq_true rfl) (w_X7_pastBlanks_0 h)
theorem w_X7_isLetter_17 {sa : Env3} {s0 : Int32} {σ : St} {r : Int32 × St} (h : f_X7_isLetter_17 s0 σ = some r) : VV sa cX7_isLetter K_X7_isLetter 17 [] [.int s0] σ (pO r) 0 0 := by
  unfold f_X7_isLetter_17 at h
  have hz := (itg h).1
  have h := (itg h).2
  obtain rfl := Option.some.inj h
  exact v_zret (dq D_X7_isLetter 9 rfl) rfl (z_nar hz) ⟨rfl, rfl⟩
theorem w_X7_isLetter_16 {sa : Env3}  {σ : St} {r : Int32 × St} (h : f_X7_isLetter_16  σ = some r) : VV sa cX7_isLetter K_X7_isLetter 16 [] [] σ (pO r) 0 0 := by
  unfold f_X7_isLetter_16 at h
  refine v_iconst (dq D_X7_isLetter 8 rfl) kc_0 ?_
  exact w_X7_isLetter_17 h
theorem w_X7_isLetter_0 {sa : Env3} {a0 : Int32} {σ : St} {r : Int32 × St} (h : f_X7_isLetter_0 a0 σ = some r) : VV sa cX7_isLetter K_X7_isLetter 0 [(0, .int a0)] [] σ (pO r) 0 0 := by
  unfold f_X7_isLetter_0 at h
  refine v_iload_n (dq D_X7_isLetter 0 rfl) 0 rfl ?_
  refine v_bipush (dq D_X7_isLetter 1 rfl) kb_97 ?_
  refine v_icmp_lt (dq D_X7_isLetter 2 rfl) rfl (fun c1 => ?_) (fun c1 => ?_)
  · have h := itp h c1
    exact v_sub [] rfl (w_X7_isLetter_16 h)
  · have h := itn h c1
    refine v_iload_n (dq D_X7_isLetter 3 rfl) 0 rfl ?_
    refine v_bipush (dq D_X7_isLetter 4 rfl) kb_122 ?_
    refine v_icmp_gt (dq D_X7_isLetter 5 rfl) rfl (fun c2 => ?_) (fun c2 => ?_)
    · have h := itp h c2
      exact v_sub [] rfl (w_X7_isLetter_16 h)
    · have h := itn h c2
      refine v_iconst (dq D_X7_isLetter 6 rfl) kc_1 ?_
      refine v_goto (dq D_X7_isLetter 7 rfl) rfl ?_
      exact v_sub [] rfl (w_X7_isLetter_17 h)
theorem m_X7_isLetter {sa : Env3} {a0 : Int32} {σ : St} {r : Int32 × St} (h : f_X7_isLetter a0 σ = some r) : Ex sa yX7_isLetter cX7_isLetter K_X7_isLetter [.int a0] σ (pO r) := Ex.of (by decide) rfl (fun q => nomatch q) (Nat.le_of_ble_eq_true rfl) (w_X7_isLetter_0 h)
theorem w_X7_isDigit_17 {sa : Env3} {s0 : Int32} {σ : St} {r : Int32 × St} (h : f_X7_isDigit_17 s0 σ = some r) : VV sa cX7_isDigit K_X7_isDigit 17 [] [.int s0] σ (pO r) 0 0 := by
  unfold f_X7_isDigit_17 at h
  have hz := (itg h).1
  have h := (itg h).2
  obtain rfl := Option.some.inj h
  exact v_zret (dq D_X7_isDigit 9 rfl) rfl (z_nar hz) ⟨rfl, rfl⟩
theorem w_X7_isDigit_16 {sa : Env3}  {σ : St} {r : Int32 × St} (h : f_X7_isDigit_16  σ = some r) : VV sa cX7_isDigit K_X7_isDigit 16 [] [] σ (pO r) 0 0 := by
  unfold f_X7_isDigit_16 at h
  refine v_iconst (dq D_X7_isDigit 8 rfl) kc_0 ?_
  exact w_X7_isDigit_17 h
theorem w_X7_isDigit_0 {sa : Env3} {a0 : Int32} {σ : St} {r : Int32 × St} (h : f_X7_isDigit_0 a0 σ = some r) : VV sa cX7_isDigit K_X7_isDigit 0 [(0, .int a0)] [] σ (pO r) 0 0 := by
  unfold f_X7_isDigit_0 at h
  refine v_iload_n (dq D_X7_isDigit 0 rfl) 0 rfl ?_
  refine v_bipush (dq D_X7_isDigit 1 rfl) kb_48 ?_
  refine v_icmp_lt (dq D_X7_isDigit 2 rfl) rfl (fun c1 => ?_) (fun c1 => ?_)
  · have h := itp h c1
    exact v_sub [] rfl (w_X7_isDigit_16 h)
  · have h := itn h c1
    refine v_iload_n (dq D_X7_isDigit 3 rfl) 0 rfl ?_
    refine v_bipush (dq D_X7_isDigit 4 rfl) kb_57 ?_
    refine v_icmp_gt (dq D_X7_isDigit 5 rfl) rfl (fun c2 => ?_) (fun c2 => ?_)
    · have h := itp h c2
      exact v_sub [] rfl (w_X7_isDigit_16 h)
    · have h := itn h c2
      refine v_iconst (dq D_X7_isDigit 6 rfl) kc_1 ?_
      refine v_goto (dq D_X7_isDigit 7 rfl) rfl ?_
      exact v_sub [] rfl (w_X7_isDigit_17 h)
theorem m_X7_isDigit {sa : Env3} {a0 : Int32} {σ : St} {r : Int32 × St} (h : f_X7_isDigit a0 σ = some r) : Ex sa yX7_isDigit cX7_isDigit K_X7_isDigit [.int a0] σ (pO r) := Ex.of (by decide) rfl (fun q => nomatch q) (Nat.le_of_ble_eq_true rfl) (w_X7_isDigit_0 h)
theorem w_X7_runEnd_61 {sa : Env3} {a5 : Int32} {σ : St} {r : Int32 × St} (h : f_X7_runEnd_61 a5 σ = some r) : VV sa cX7_runEnd K_X7_runEnd 61 [(5, .int a5)] [] σ (pO r) 0 0 := by
  unfold f_X7_runEnd_61 at h
  refine v_iload (dq D_X7_runEnd 33 rfl) 0 rfl ?_
  obtain rfl := Option.some.inj h
  exact v_iret (dq D_X7_runEnd 34 rfl) rfl ⟨rfl, rfl⟩
theorem w_X7_runEnd_55 {sa : Env3} {k20 : Nat → Int32 → Int32 → Int32 → Int32 → St → Option (Int32 × St)} (hk20 : ∀ {a0 : Nat} {a2 : Int32} {a3 : Int32} {a4 : Int32} {a5 : Int32} {σ : St} {r : Int32 × St}, k20 a0 a2 a3 a4 a5 σ = some r → VV sa cX7_runEnd K_X7_runEnd 20 [(0, .ref a0), (2, .int a2), (3, .int a3), (4, .int a4), (5, .int a5)] [] σ (pO r) 0 0) {a0 : Nat} {a2 : Int32} {a3 : Int32} {a4 : Int32} {a5 : Int32} {σ : St} {r : Int32 × St} (h : f_X7_runEnd_55 k20 a0 a2 a3 a4 a5 σ = some r) : VV sa cX7_runEnd K_X7_runEnd 55 [(0, .ref a0), (2, .int a2), (3, .int a3), (4, .int a4), (5, .int a5)] [] σ (pO r) 0 0 := by
  unfold f_X7_runEnd_55 at h
  refine v_iinc (dq D_X7_runEnd 31 rfl) 4 [(5, .int (a5 + 1)), (0, .ref a0), (2, .int a2), (3, .int a3), (4, .int a4)] rfl kc_1 (Nat.le_of_ble_eq_true rfl) rfl ?_
  refine v_goto (dq D_X7_runEnd 32 rfl) rfl ?_
  exact v_sub [1, 2, 3, 4, 0] rfl (hk20 h)
theorem w_X7_runEnd_40 {sa : Env3} {k20 : Nat → Int32 → Int32 → Int32 → Int32 → St → Option (Int32 × St)} (hk20 : ∀ {a0 : Nat} {a2 : Int32} {a3 : Int32} {a4 : Int32} {a5 : Int32} {σ : St} {r : Int32 × St}, k20 a0 a2 a3 a4 a5 σ = some r → VV sa cX7_runEnd K_X7_runEnd 20 [(0, .ref a0), (2, .int a2), (3, .int a3), (4, .int a4), (5, .int a5)] [] σ (pO r) 0 0) {a0 : Nat} {a2 : Int32} {a3 : Int32} {a4 : Int32} {a5 : Int32} {σ : St} {r : Int32 × St} (h : f_X7_runEnd_40 k20 a0 a2 a3 a4 a5 σ = some r) : VV sa cX7_runEnd K_X7_runEnd 40 [(0, .ref a0), (2, .int a2), (3, .int a3), (4, .int a4), (5, .int a5)] [] σ (pO r) 0 0 := by
  unfold f_X7_runEnd_40 at h
  refine v_iload (dq D_X7_runEnd 24 rfl) 3 rfl ?_
  refine v_if_eq (dq D_X7_runEnd 25 rfl) rfl (fun c1 => ?_) (fun c1 => ?_)
  · have h := itp h c1
    exact v_sub [4] rfl (w_X7_runEnd_61 h)
  · have h := itn h c1
    refine v_aload_n (dq D_X7_runEnd 26 rfl) 0 rfl ?_
    refine v_iload (dq D_X7_runEnd 27 rfl) 4 rfl ?_
    obtain ⟨x2, hx2, h⟩ := obi h
    refine v_bald (dq D_X7_runEnd 28 rfl) hx2 ?_
    obtain ⟨q3, hq3, h⟩ := obi h
    refine v_cSi (bc := 0) (bs := 0) (As := [.int x2]) (dq D_X7_runEnd 29 rfl) cs_X7_isDigit ml_RX7_40 (m_X7_isDigit hq3) rfl rfl (Nat.le_of_ble_eq_true rfl) ⟨Nat.le_of_ble_eq_true rfl, Nat.le_of_ble_eq_true rfl⟩ ⟨Nat.le_of_ble_eq_true rfl, Nat.le_of_ble_eq_true rfl⟩ ?_
    refine v_if_eq (dq D_X7_runEnd 30 rfl) rfl (fun c4 => ?_) (fun c4 => ?_)
    · have h := itp h c4
      exact v_sub [4] rfl (w_X7_runEnd_61 h)
    · have h := itn h c4
      exact w_X7_runEnd_55 hk20 h
theorem w_X7_runEnd_20 {sa : Env3} : ∀ (n : Nat) {a0 : Nat} {a2 : Int32} {a3 : Int32} {a4 : Int32} {a5 : Int32} {σ : St} {r : Int32 × St}, f_X7_runEnd_20 n a0 a2 a3 a4 a5 σ = some r → VV sa cX7_runEnd K_X7_runEnd 20 [(0, .ref a0), (2, .int a2), (3, .int a3), (4, .int a4), (5, .int a5)] [] σ (pO r) 0 0 := by
  intro n
  induction n with
  | zero => intro a0 a2 a3 a4 a5 σ r h; cases h
  | succ n ih =>
    intro a0 a2 a3 a4 a5 σ r h
    rw [e_X7_runEnd_20] at h
    refine v_iload (dq D_X7_runEnd 14 rfl) 4 rfl ?_
    refine v_iload_n (dq D_X7_runEnd 15 rfl) 1 rfl ?_
    refine v_icmp_ge (dq D_X7_runEnd 16 rfl) rfl (fun c1 => ?_) (fun c1 => ?_)
    · have h := itp h c1
      exact v_sub [4] rfl (w_X7_runEnd_61 h)
    · have h := itn h c1
      refine v_iload_n (dq D_X7_runEnd 17 rfl) 2 rfl ?_
      refine v_if_eq (dq D_X7_runEnd 18 rfl) rfl (fun c2 => ?_) (fun c2 => ?_)
      · have h := itp h c2
        exact w_X7_runEnd_40 ih h
      · have h := itn h c2
        refine v_aload_n (dq D_X7_runEnd 19 rfl) 0 rfl ?_
        refine v_iload (dq D_X7_runEnd 20 rfl) 4 rfl ?_
        obtain ⟨x3, hx3, h⟩ := obi h
        refine v_bald (dq D_X7_runEnd 21 rfl) hx3 ?_
        obtain ⟨q4, hq4, h⟩ := obi h
        refine v_cSi (bc := 0) (bs := 0) (As := [.int x3]) (dq D_X7_runEnd 22 rfl) cs_X7_isLetter ml_RX7_36 (m_X7_isLetter hq4) rfl rfl (Nat.le_of_ble_eq_true rfl) ⟨Nat.le_of_ble_eq_true rfl, Nat.le_of_ble_eq_true rfl⟩ ⟨Nat.le_of_ble_eq_true rfl, Nat.le_of_ble_eq_true rfl⟩ ?_
        refine v_if_ne (dq D_X7_runEnd 23 rfl) rfl (fun c5 => ?_) (fun c5 => ?_)
        · have h := itn h c5
          exact w_X7_runEnd_55 ih h
        · have h := itp h c5
          exact w_X7_runEnd_40 ih h
theorem w_X7_runEnd_0 {sa : Env3} {a0 : Nat} {a1 : Int32} {a2 : Int32} {σ : St} {r : Int32 × St} (h : f_X7_runEnd_0 a0 a1 a2 σ = some r) : VV sa cX7_runEnd K_X7_runEnd 0 [(0, .ref a0), (1, .int a1), (2, .int a2)] [] σ (pO r) 0 0 := by
  unfold f_X7_runEnd_0 at h
  refine v_aload_n (dq D_X7_runEnd 0 rfl) 0 rfl ?_
  refine v_iload_n (dq D_X7_runEnd 1 rfl) 1 rfl ?_
  obtain ⟨x1, hx1, h⟩ := obi h
  refine v_bald (dq D_X7_runEnd 2 rfl) hx1 ?_
  obtain ⟨q2, hq2, h⟩ := obi h
  refine v_cSi (bc := 0) (bs := 0) (As := [.int x1]) (dq D_X7_runEnd 3 rfl) cs_X7_isLetter ml_RX7_36 (m_X7_isLetter hq2) rfl rfl (Nat.le_of_ble_eq_true rfl) ⟨Nat.le_of_ble_eq_true rfl, Nat.le_of_ble_eq_true rfl⟩ ⟨Nat.le_of_ble_eq_true rfl, Nat.le_of_ble_eq_true rfl⟩ ?_
  refine v_istore_n (dq D_X7_runEnd 4 rfl) [(3, .int q2.1), (0, .ref a0), (1, .int a1), (2, .int a2)] rfl (Nat.le_of_ble_eq_true rfl) rfl ?_
  refine v_aload_n (dq D_X7_runEnd 5 rfl) 1 rfl ?_
  refine v_iload_n (dq D_X7_runEnd 6 rfl) 2 rfl ?_
  obtain ⟨x3, hx3, h⟩ := obi h
  refine v_bald (dq D_X7_runEnd 7 rfl) hx3 ?_
  obtain ⟨q4, hq4, h⟩ := obi h
  refine v_cSi (bc := 0) (bs := 0) (As := [.int x3]) (dq D_X7_runEnd 8 rfl) cs_X7_isDigit ml_RX7_40 (m_X7_isDigit hq4) rfl rfl (Nat.le_of_ble_eq_true rfl) ⟨Nat.le_of_ble_eq_true rfl, Nat.le_of_ble_eq_true rfl⟩ ⟨Nat.le_of_ble_eq_true rfl, Nat.le_of_ble_eq_true rfl⟩ ?_
  refine v_istore (dq D_X7_runEnd 9 rfl) [(4, .int q4.1), (3, .int q2.1), (0, .ref a0), (1, .int a1), (2, .int a2)] (Nat.le_of_ble_eq_true rfl) rfl ?_
  refine v_iload_n (dq D_X7_runEnd 10 rfl) 3 rfl ?_
  refine v_iconst (dq D_X7_runEnd 11 rfl) kc_1 ?_
  refine v_iadd (dq D_X7_runEnd 12 rfl) ?_
  obtain ⟨x5, ex5, h⟩ := bnd_inv h
  refine v_top (congrArg Value.int ex5) ?_
  refine v_istore (dq D_X7_runEnd 13 rfl) [(5, .int x5), (4, .int q4.1), (3, .int q2.1), (0, .ref a0), (1, .int a1), (2, .int a2)] (Nat.le_of_ble_eq_true rfl) rfl ?_
  exact v_sub [3, 5, 2, 1, 0] rfl (w_X7_runEnd_20 _ h)
theorem m_X7_runEnd {sa : Env3} {a0 : Nat} {a1 : Int32} {a2 : Int32} {σ : St} {r : Int32 × St} (h : f_X7_runEnd a0 a1 a2 σ = some r) : Ex sa yX7_runEnd cX7_runEnd K_X7_runEnd [.ref a0, .int a1, .int a2] σ (pO r) := Ex.of (by decide) rfl (fun q => nomatch q) (Nat.le_of_ble_eq_true rfl) (w_X7_runEnd_0 h)
theorem w_X7_sortOf_48 {sa : Env3} {s0 : Int32} {σ : St} {r : Int32 × St} (h : f_X7_sortOf_48 s0 σ = some r) : VV sa cX7_sortOf K_X7_sortOf 48 [] [.int s0] σ (pO r) 0 0 := by
  unfold f_X7_sortOf_48 at h
  obtain rfl := Option.some.inj h
  exact v_iret (dq D_X7_sortOf 26 rfl) rfl ⟨rfl, rfl⟩
theorem w_X7_sortOf_36 {sa : Env3} {s0 : Int32} {σ : St} {r : Int32 × St} (h : f_X7_sortOf_36 s0 σ = some r) : VV sa cX7_sortOf K_X7_sortOf 36 [] [.int s0] σ (pO r) 0 0 := by
  unfold f_X7_sortOf_36 at h
  obtain rfl := Option.some.inj h
  exact v_iret (dq D_X7_sortOf 19 rfl) rfl ⟨rfl, rfl⟩
theorem w_X7_sortOf_18 {sa : Env3} {s0 : Int32} {σ : St} {r : Int32 × St} (h : f_X7_sortOf_18 s0 σ = some r) : VV sa cX7_sortOf K_X7_sortOf 18 [] [.int s0] σ (pO r) 0 0 := by
  unfold f_X7_sortOf_18 at h
  obtain rfl := Option.some.inj h
  exact v_iret (dq D_X7_sortOf 9 rfl) rfl ⟨rfl, rfl⟩
theorem w_X7_sortOf_0 {sa : Env3} {a0 : Int32} {a1 : Int32} {σ : St} {r : Int32 × St} (h : f_X7_sortOf_0 a0 a1 σ = some r) : VV sa cX7_sortOf K_X7_sortOf 0 [(0, .int a0), (1, .int a1)] [] σ (pO r) 0 0 := by
  unfold f_X7_sortOf_0 at h
  refine v_iload_n (dq D_X7_sortOf 0 rfl) 0 rfl ?_
  obtain ⟨q1, hq1, h⟩ := obi h
  refine v_cSi (bc := 0) (bs := 0) (As := [.int a0]) (dq D_X7_sortOf 1 rfl) cs_X7_isLetter ml_RX7_36 (m_X7_isLetter hq1) rfl rfl (Nat.le_of_ble_eq_true rfl) ⟨Nat.le_of_ble_eq_true rfl, Nat.le_of_ble_eq_true rfl⟩ ⟨Nat.le_of_ble_eq_true rfl, Nat.le_of_ble_eq_true rfl⟩ ?_
  refine v_if_eq (dq D_X7_sortOf 2 rfl) rfl (fun c2 => ?_) (fun c2 => ?_)
  · have h := itp h c2
    refine v_iload_n (dq D_X7_sortOf 10 rfl) 0 rfl ?_
    obtain ⟨q3, hq3, h⟩ := obi h
    refine v_cSi (bc := 0) (bs := 0) (As := [.int a0]) (dq D_X7_sortOf 11 rfl) cs_X7_isDigit ml_RX7_40 (m_X7_isDigit hq3) rfl rfl (Nat.le_of_ble_eq_true rfl) ⟨Nat.le_of_ble_eq_true rfl, Nat.le_of_ble_eq_true rfl⟩ ⟨Nat.le_of_ble_eq_true rfl, Nat.le_of_ble_eq_true rfl⟩ ?_
    refine v_if_eq (dq D_X7_sortOf 12 rfl) rfl (fun c4 => ?_) (fun c4 => ?_)
    · have h := itp h c4
      refine v_iload_n (dq D_X7_sortOf 20 rfl) 0 rfl ?_
      refine v_bipush (dq D_X7_sortOf 21 rfl) kb_59 ?_
      refine v_icmp_ne (dq D_X7_sortOf 22 rfl) rfl (fun c5 => ?_) (fun c5 => ?_)
      · have h := itn h c5
        refine v_iconst (dq D_X7_sortOf 25 rfl) kc_4 ?_
        exact v_sub [] rfl (w_X7_sortOf_48 h)
      · have h := itp h c5
        refine v_iconst (dq D_X7_sortOf 23 rfl) kc_3 ?_
        refine v_goto (dq D_X7_sortOf 24 rfl) rfl ?_
        exact v_sub [] rfl (w_X7_sortOf_48 h)
    · have h := itn h c4
      refine v_iload_n (dq D_X7_sortOf 13 rfl) 1 rfl ?_
      refine v_iconst (dq D_X7_sortOf 14 rfl) kc_4 ?_
      refine v_icmp_gt (dq D_X7_sortOf 15 rfl) rfl (fun c6 => ?_) (fun c6 => ?_)
      · have h := itp h c6
        refine v_iconst (dq D_X7_sortOf 18 rfl) kc_4 ?_
        exact v_sub [] rfl (w_X7_sortOf_36 h)
      · have h := itn h c6
        refine v_iconst (dq D_X7_sortOf 16 rfl) kc_2 ?_
        refine v_goto (dq D_X7_sortOf 17 rfl) rfl ?_
        exact v_sub [] rfl (w_X7_sortOf_36 h)
  · have h := itn h c2
    refine v_iload_n (dq D_X7_sortOf 3 rfl) 1 rfl ?_
    refine v_bipush (dq D_X7_sortOf 4 rfl) kb_8 ?_
    refine v_icmp_gt (dq D_X7_sortOf 5 rfl) rfl (fun c7 => ?_) (fun c7 => ?_)
    · have h := itp h c7
      refine v_iconst (dq D_X7_sortOf 8 rfl) kc_4 ?_
      exact v_sub [] rfl (w_X7_sortOf_18 h)
    · have h := itn h c7
      refine v_iconst (dq D_X7_sortOf 6 rfl) kc_1 ?_
      refine v_goto (dq D_X7_sortOf 7 rfl) rfl ?_
      exact v_sub [] rfl (w_X7_sortOf_18 h)
theorem m_X7_sortOf {sa : Env3} {a0 : Int32} {a1 : Int32} {σ : St} {r : Int32 × St} (h : f_X7_sortOf a0 a1 σ = some r) : Ex sa yX7_sortOf cX7_sortOf K_X7_sortOf [.int a0, .int a1] σ (pO r) := Ex.of (by decide) rfl (fun q => nomatch q) (Nat.le_of_ble_eq_true rfl) (w_X7_sortOf_0 h)
theorem w_X7_part_103 {sa : Env3} {a0 : Nat} {a2 : Int32} {a4 : Int32} {σ : St} {r : St} (h : f_X7_part_103 a0 a2 a4 σ = some r) : VV sa cX7_part K_X7_part 103 [(0, .ref a0), (2, .int a2), (4, .int a4)] [] σ (pU r) 0 0 := by
  unfold f_X7_part_103 at h
  refine v_aload_n (dq D_X7_part 60 rfl) 0 rfl ?_
  obtain ⟨x1, hx1, h⟩ := obi h
  refine v_gR (dq D_X7_part 61 rfl) fa_RX7_15 hx1 ?_
  refine v_iload (dq D_X7_part 62 rfl) 2 rfl ?_
  refine v_iload_n (dq D_X7_part 63 rfl) 1 rfl ?_
  obtain ⟨σ2, hσ2, h⟩ := obi h
  refine v_iast (dq D_X7_part 64 rfl) hσ2 ?_
  refine v_aload_n (dq D_X7_part 65 rfl) 0 rfl ?_
  obtain ⟨x3, hx3, h⟩ := obi h
  refine v_gR (dq D_X7_part 66 rfl) fa_RX7_18 hx3 ?_
  refine v_iload (dq D_X7_part 67 rfl) 2 rfl ?_
  refine v_iload_n (dq D_X7_part 68 rfl) 1 rfl ?_
  obtain ⟨σ4, hσ4, h⟩ := obi h
  refine v_iast (dq D_X7_part 69 rfl) hσ4 ?_
  refine v_aload_n (dq D_X7_part 70 rfl) 0 rfl ?_
  obtain ⟨x5, hx5, h⟩ := obi h
  refine v_gR (dq D_X7_part 71 rfl) fa_RX7_9 hx5 ?_
  refine v_iload (dq D_X7_part 72 rfl) 2 rfl ?_
  refine v_iconst (dq D_X7_part 73 rfl) kc_0 ?_
  obtain ⟨σ6, hσ6, h⟩ := obi h
  refine v_iast (dq D_X7_part 74 rfl) hσ6 ?_
  refine v_aload_n (dq D_X7_part 75 rfl) 0 rfl ?_
  refine v_iload (dq D_X7_part 76 rfl) 2 rfl ?_
  obtain ⟨σ7, hσ7, h⟩ := obi h
  refine v_pI (dq D_X7_part 77 rfl) fp_RX7_32 hσ7 ?_
  obtain rfl := Option.some.inj h
  exact v_vret (dq D_X7_part 78 rfl) rfl ⟨rfl, rfl⟩
theorem w_X7_part_10 {sa : Env3} : ∀ (n : Nat) {a0 : Nat} {a1 : Nat} {a2 : Int32} {a3 : Int32} {a4 : Int32} {σ : St} {r : St}, f_X7_part_10 n a0 a1 a2 a3 a4 σ = some r → VV sa cX7_part K_X7_part 10 [(0, .ref a0), (1, .ref a1), (2, .int a2), (3, .int a3), (4, .int a4)] [] σ (pU r) 0 0 := by
  intro n
  induction n with
  | zero => intro a0 a1 a2 a3 a4 σ r h; cases h
  | succ n ih =>
    intro a0 a1 a2 a3 a4 σ r h
    rw [e_X7_part_10] at h
    refine v_iload_n (dq D_X7_part 7 rfl) 3 rfl ?_
    refine v_iload_n (dq D_X7_part 8 rfl) 2 rfl ?_
    refine v_icmp_ge (dq D_X7_part 9 rfl) rfl (fun c1 => ?_) (fun c1 => ?_)
    · have h := itp h c1
      exact v_sub [0, 2, 4] rfl (w_X7_part_103 h)
    · have h := itn h c1
      refine v_iload (dq D_X7_part 10 rfl) 4 rfl ?_
      refine v_sipush (dq D_X7_part 11 rfl) ks_900 ?_
      refine v_icmp_ge (dq D_X7_part 12 rfl) rfl (fun c2 => ?_) (fun c2 => ?_)
      · have h := itp h c2
        exact v_sub [0, 2, 4] rfl (w_X7_part_103 h)
      · have h := itn h c2
        refine v_aload_n (dq D_X7_part 13 rfl) 0 rfl ?_
        obtain ⟨x3, hx3, h⟩ := obi h
        refine v_gR (dq D_X7_part 14 rfl) fa_RX7_15 hx3 ?_
        refine v_iload (dq D_X7_part 15 rfl) 4 rfl ?_
        refine v_iload_n (dq D_X7_part 16 rfl) 3 rfl ?_
        obtain ⟨σ4, hσ4, h⟩ := obi h
        refine v_iast (dq D_X7_part 17 rfl) hσ4 ?_
        refine v_aload_n (dq D_X7_part 18 rfl) 0 rfl ?_
        obtain ⟨x5, hx5, h⟩ := obi h
        refine v_gR (dq D_X7_part 19 rfl) fa_RX7_18 hx5 ?_
        refine v_iload (dq D_X7_part 20 rfl) 4 rfl ?_
        refine v_aload_n (dq D_X7_part 21 rfl) 1 rfl ?_
        refine v_iload_n (dq D_X7_part 22 rfl) 3 rfl ?_
        refine v_iload_n (dq D_X7_part 23 rfl) 2 rfl ?_
        obtain ⟨q6, hq6, h⟩ := obi h
        refine v_cSi (bc := 0) (bs := 0) (As := [.ref a1, .int a3, .int a2]) (dq D_X7_part 24 rfl) cs_X7_runEnd ml_RX7_25 (m_X7_runEnd hq6) rfl rfl (Nat.le_of_ble_eq_true rfl) ⟨Nat.le_of_ble_eq_true rfl, Nat.le_of_ble_eq_true rfl⟩ ⟨Nat.le_of_ble_eq_true rfl, Nat.le_of_ble_eq_true rfl⟩ ?_
        obtain ⟨σ7, hσ7, h⟩ := obi h
        refine v_iast (dq D_X7_part 25 rfl) hσ7 ?_
        refine v_aload_n (dq D_X7_part 26 rfl) 0 rfl ?_
        obtain ⟨x8, hx8, h⟩ := obi h
        refine v_gR (dq D_X7_part 27 rfl) fa_RX7_9 hx8 ?_
        refine v_iload (dq D_X7_part 28 rfl) 4 rfl ?_
        refine v_aload_n (dq D_X7_part 29 rfl) 1 rfl ?_
        refine v_iload_n (dq D_X7_part 30 rfl) 3 rfl ?_
        obtain ⟨x9, hx9, h⟩ := obi h
        refine v_bald (dq D_X7_part 31 rfl) hx9 ?_
        refine v_aload_n (dq D_X7_part 32 rfl) 0 rfl ?_
        obtain ⟨x10, hx10, h⟩ := obi h
        refine v_gR (dq D_X7_part 33 rfl) fa_RX7_18 hx10 ?_
        refine v_iload (dq D_X7_part 34 rfl) 4 rfl ?_
        obtain ⟨x11, hx11, h⟩ := obi h
        refine v_iald (dq D_X7_part 35 rfl) hx11 ?_
        refine v_iload_n (dq D_X7_part 36 rfl) 3 rfl ?_
        refine v_isub (dq D_X7_part 37 rfl) ?_
        obtain ⟨q12, hq12, h⟩ := obi h
        refine v_cSi (bc := 0) (bs := 0) (As := [.int x9, .int (x11 - a3)]) (dq D_X7_part 38 rfl) cs_X7_sortOf ml_RX7_28 (m_X7_sortOf hq12) rfl rfl (Nat.le_of_ble_eq_true rfl) ⟨Nat.le_of_ble_eq_true rfl, Nat.le_of_ble_eq_true rfl⟩ ⟨Nat.le_of_ble_eq_true rfl, Nat.le_of_ble_eq_true rfl⟩ ?_
        obtain ⟨σ13, hσ13, h⟩ := obi h
        refine v_iast (dq D_X7_part 39 rfl) hσ13 ?_
        refine v_aload_n (dq D_X7_part 40 rfl) 0 rfl ?_
        obtain ⟨x14, hx14, h⟩ := obi h
        refine v_gR (dq D_X7_part 41 rfl) fa_RX7_9 hx14 ?_
        refine v_iload (dq D_X7_part 42 rfl) 4 rfl ?_
        obtain ⟨x15, hx15, h⟩ := obi h
        refine v_iald (dq D_X7_part 43 rfl) hx15 ?_
        refine v_iconst (dq D_X7_part 44 rfl) kc_4 ?_
        refine v_icmp_ne (dq D_X7_part 45 rfl) rfl (fun c16 => ?_) (fun c16 => ?_)
        · have h := itn h c16
          refine v_aload_n (dq D_X7_part 50 rfl) 1 rfl ?_
          refine v_aload_n (dq D_X7_part 51 rfl) 0 rfl ?_
          obtain ⟨x17, hx17, h⟩ := obi h
          refine v_gR (dq D_X7_part 52 rfl) fa_RX7_18 hx17 ?_
          refine v_iload (dq D_X7_part 53 rfl) 4 rfl ?_
          obtain ⟨x18, hx18, h⟩ := obi h
          refine v_iald (dq D_X7_part 54 rfl) hx18 ?_
          refine v_iload_n (dq D_X7_part 55 rfl) 2 rfl ?_
          obtain ⟨q19, hq19, h⟩ := obi h
          refine v_cSi (bc := 0) (bs := 0) (As := [.ref a1, .int x18, .int a2]) (dq D_X7_part 56 rfl) cs_X7_pastBlanks ml_RX7_21 (m_X7_pastBlanks hq19) rfl rfl (Nat.le_of_ble_eq_true rfl) ⟨Nat.le_of_ble_eq_true rfl, Nat.le_of_ble_eq_true rfl⟩ ⟨Nat.le_of_ble_eq_true rfl, Nat.le_of_ble_eq_true rfl⟩ ?_
          refine v_istore_n (dq D_X7_part 57 rfl) [(3, .int q19.1), (0, .ref a0), (1, .ref a1), (2, .int a2), (4, .int a4)] rfl (Nat.le_of_ble_eq_true rfl) rfl ?_
          refine v_iinc (dq D_X7_part 58 rfl) 4 [(4, .int (a4 + 1)), (3, .int q19.1), (0, .ref a0), (1, .ref a1), (2, .int a2)] rfl kc_1 (Nat.le_of_ble_eq_true rfl) rfl ?_
          refine v_goto (dq D_X7_part 59 rfl) rfl ?_
          exact v_sub [2, 3, 4, 1, 0] rfl (ih h)
        · have h := itp h c16
          refine v_aload_n (dq D_X7_part 46 rfl) 0 rfl ?_
          refine v_iload (dq D_X7_part 47 rfl) 4 rfl ?_
          obtain ⟨σ20, hσ20, h⟩ := obi h
          refine v_pI (dq D_X7_part 48 rfl) fp_RX7_32 hσ20 ?_
          obtain rfl := Option.some.inj h
          exact v_vret (dq D_X7_part 49 rfl) rfl ⟨rfl, rfl⟩
theorem w_X7_part_0 {sa : Env3} {a0 : Nat} {a1 : Nat} {a2 : Int32} {σ : St} {r : St} (h : f_X7_part_0 a0 a1 a2 σ = some r) : VV sa cX7_part K_X7_part 0 [(0, .ref a0), (1, .ref a1), (2, .int a2)] [] σ (pU r) 0 0 := by
  unfold f_X7_part_0 at h
  refine v_aload_n (dq D_X7_part 0 rfl) 1 rfl ?_
  refine v_iconst (dq D_X7_part 1 rfl) kc_0 ?_
  refine v_iload_n (dq D_X7_part 2 rfl) 2 rfl ?_
  obtain ⟨q1, hq1, h⟩ := obi h
  refine v_cSi (bc := 0) (bs := 0) (As := [.ref a1, .int 0, .int a2]) (dq D_X7_part 3 rfl) cs_X7_pastBlanks ml_RX7_21 (m_X7_pastBlanks hq1) rfl rfl (Nat.le_of_ble_eq_true rfl) ⟨Nat.le_of_ble_eq_true rfl, Nat.le_of_ble_eq_true rfl⟩ ⟨Nat.le_of_ble_eq_true rfl, Nat.le_of_ble_eq_true rfl⟩ ?_
  refine v_istore_n (dq D_X7_part 4 rfl) [(3, .int q1.1), (0, .ref a0), (1, .ref a1), (2, .int a2)] rfl (Nat.le_of_ble_eq_true rfl) rfl ?_
  refine v_iconst (dq D_X7_part 5 rfl) kc_0 ?_
  refine v_istore (dq D_X7_part 6 rfl) [(4, .int 0), (3, .int q1.1), (0, .ref a0), (1, .ref a1), (2, .int a2)] (Nat.le_of_ble_eq_true rfl) rfl ?_
  exact v_sub [2, 3, 4, 1, 0] rfl (w_X7_part_10 _ h)
theorem m_X7_part {sa : Env3} {a0 : Nat} {a1 : Nat} {a2 : Int32} {σ : St} {r : St} (h : f_X7_part a0 a1 a2 σ = some r) : Ex sa yX7_part cX7_part K_X7_part [.ref a0, .ref a1, .int a2] σ (pU r) := Ex.of (by decide) rfl (fun q => nomatch q) (Nat.le_of_ble_eq_true rfl) (w_X7_part_0 (itg h).2)
theorem w_X6_reads_118 {sa : Env3} {s0 : Int32} {σ : St} {r : Int32 × St} (h : f_X6_reads_118 s0 σ = some r) : VV sa cX6_reads K_X6_reads 118 [] [.int s0] σ (pO r) 0 0 := by
  unfold f_X6_reads_118 at h
  have hz := (itg h).1
  have h := (itg h).2
  obtain rfl := Option.some.inj h
  exact v_zret (dq D_X6_reads 61 rfl) rfl (z_nar hz) ⟨rfl, rfl⟩
theorem w_X6_reads_113 {sa : Env3}  {σ : St} {r : Int32 × St} (h : f_X6_reads_113  σ = some r) : VV sa cX6_reads K_X6_reads 113 [] [] σ (pO r) 0 0 := by
  unfold f_X6_reads_113 at h
  refine v_iconst (dq D_X6_reads 58 rfl) kc_1 ?_
  refine v_goto (dq D_X6_reads 59 rfl) rfl ?_
  exact w_X6_reads_118 h
theorem w_X6_reads_61 {sa : Env3} : ∀ (n : Nat) {a0 : Nat} {a4 : Int32} {a5 : Int32} {σ : St} {r : Int32 × St}, f_X6_reads_61 n a0 a4 a5 σ = some r → VV sa cX6_reads K_X6_reads 61 [(0, .ref a0), (4, .int a4), (5, .int a5)] [] σ (pO r) 0 0 := by
  intro n
  induction n with
  | zero => intro a0 a4 a5 σ r h; cases h
  | succ n ih =>
    intro a0 a4 a5 σ r h
    rw [e_X6_reads_61] at h
    refine v_iload (dq D_X6_reads 34 rfl) 2 rfl ?_
    refine v_iload (dq D_X6_reads 35 rfl) 1 rfl ?_
    refine v_icmp_gt (dq D_X6_reads 36 rfl) rfl (fun c1 => ?_) (fun c1 => ?_)
    · have h := itp h c1
      refine v_aload_n (dq D_X6_reads 78 rfl) 0 rfl ?_
      refine v_iconst (dq D_X6_reads 79 rfl) kc_1 ?_
      obtain ⟨q2, hq2, h⟩ := obi h
      refine v_cVi (bc := 0) (bs := 0) (As := [.int 1]) (dq D_X6_reads 80 rfl) cv_X6_fails ml_RX6_62 (itg hq2).1 (m_X6_fails hq2) rfl rfl (Nat.le_of_ble_eq_true rfl) ⟨Nat.le_of_ble_eq_true rfl, Nat.le_of_ble_eq_true rfl⟩ ⟨Nat.le_of_ble_eq_true rfl, Nat.le_of_ble_eq_true rfl⟩ ?_
      have hz := (itg h).1
      have h := (itg h).2
      obtain rfl := Option.some.inj h
      exact v_zret (dq D_X6_reads 81 rfl) rfl (z_nar hz) ⟨rfl, rfl⟩
    · have h := itn h c1
      refine v_aload_n (dq D_X6_reads 37 rfl) 0 rfl ?_
      refine v_iload (dq D_X6_reads 38 rfl) 2 rfl ?_
      obtain ⟨q3, hq3, h⟩ := obi h
      refine v_cVi (bc := 0) (bs := 0) (As := [.int a5]) (dq D_X6_reads 39 rfl) cv_X6_readLine ml_RX6_51 (itg hq3).1 (m_X6_readLine hq3) rfl rfl (Nat.le_of_ble_eq_true rfl) ⟨Nat.le_of_ble_eq_true rfl, Nat.le_of_ble_eq_true rfl⟩ ⟨Nat.le_of_ble_eq_true rfl, Nat.le_of_ble_eq_true rfl⟩ ?_
      refine v_if_ne (dq D_X6_reads 40 rfl) rfl (fun c4 => ?_) (fun c4 => ?_)
      · have h := itn h c4
        refine v_aload_n (dq D_X6_reads 43 rfl) 0 rfl ?_
        obtain ⟨x5, hx5, h⟩ := obi h
        refine v_gR (dq D_X6_reads 44 rfl) fa_RX6_18 hx5 ?_
        obtain ⟨x6, hx6, h⟩ := obi h
        refine v_gR (dq D_X6_reads 45 rfl) fa_RX6_55 hx6 ?_
        refine v_aload_n (dq D_X6_reads 46 rfl) 0 rfl ?_
        obtain ⟨x7, hx7, h⟩ := obi h
        refine v_gI (dq D_X6_reads 47 rfl) fa_RX6_36 hx7 ?_
        obtain ⟨x8, hx8, h⟩ := obi h
        refine v_iald (dq D_X6_reads 48 rfl) hx8 ?_
        refine v_if_ne (dq D_X6_reads 49 rfl) rfl (fun c9 => ?_) (fun c9 => ?_)
        · have h := itn h c9
          refine v_aload_n (dq D_X6_reads 62 rfl) 0 rfl ?_
          obtain ⟨x10, hx10, h⟩ := obi h
          refine v_gR (dq D_X6_reads 63 rfl) fa_RX6_18 hx10 ?_
          obtain ⟨x11, hx11, h⟩ := obi h
          refine v_gR (dq D_X6_reads 64 rfl) fa_RX6_55 hx11 ?_
          refine v_aload_n (dq D_X6_reads 65 rfl) 0 rfl ?_
          obtain ⟨x12, hx12, h⟩ := obi h
          refine v_gI (dq D_X6_reads 66 rfl) fa_RX6_36 hx12 ?_
          obtain ⟨x13, hx13, h⟩ := obi h
          refine v_iald (dq D_X6_reads 67 rfl) hx13 ?_
          refine v_iconst (dq D_X6_reads 68 rfl) kc_3 ?_
          refine v_icmp_eq (dq D_X6_reads 69 rfl) rfl (fun c14 => ?_) (fun c14 => ?_)
          · have h := itp h c14
            refine v_aload_n (dq D_X6_reads 74 rfl) 0 rfl ?_
            obtain ⟨σ15, hσ15, h⟩ := obi h
            refine v_cVv (bc := 0) (bs := 0) (As := []) (dq D_X6_reads 75 rfl) cv_X6_advance ml_RX6_65 (itg hσ15).1 (m_X6_advance hσ15) rfl rfl (Nat.le_of_ble_eq_true rfl) ⟨Nat.le_of_ble_eq_true rfl, Nat.le_of_ble_eq_true rfl⟩ ⟨Nat.le_of_ble_eq_true rfl, Nat.le_of_ble_eq_true rfl⟩ ?_
            refine v_iinc (dq D_X6_reads 76 rfl) 2 [(5, .int (a5 + 1)), (0, .ref a0), (4, .int a4)] rfl kc_1 (Nat.le_of_ble_eq_true rfl) rfl ?_
            refine v_goto (dq D_X6_reads 77 rfl) rfl ?_
            exact v_sub [1, 2, 0] rfl (ih h)
          · have h := itn h c14
            refine v_aload_n (dq D_X6_reads 70 rfl) 0 rfl ?_
            refine v_iconst (dq D_X6_reads 71 rfl) kc_1 ?_
            obtain ⟨q16, hq16, h⟩ := obi h
            refine v_cVi (bc := 0) (bs := 0) (As := [.int 1]) (dq D_X6_reads 72 rfl) cv_X6_fails ml_RX6_62 (itg hq16).1 (m_X6_fails hq16) rfl rfl (Nat.le_of_ble_eq_true rfl) ⟨Nat.le_of_ble_eq_true rfl, Nat.le_of_ble_eq_true rfl⟩ ⟨Nat.le_of_ble_eq_true rfl, Nat.le_of_ble_eq_true rfl⟩ ?_
            have hz := (itg h).1
            have h := (itg h).2
            obtain rfl := Option.some.inj h
            exact v_zret (dq D_X6_reads 73 rfl) rfl (z_nar hz) ⟨rfl, rfl⟩
        · have h := itp h c9
          refine v_aload_n (dq D_X6_reads 50 rfl) 0 rfl ?_
          obtain ⟨x17, hx17, h⟩ := obi h
          refine v_gR (dq D_X6_reads 51 rfl) fa_RX6_22 hx17 ?_
          obtain ⟨x18, hx18, h⟩ := obi h
          refine v_gI (dq D_X6_reads 52 rfl) fa_RX6_59 hx18 ?_
          refine v_if_gt (dq D_X6_reads 53 rfl) rfl (fun c19 => ?_) (fun c19 => ?_)
          · have h := itp h c19
            exact v_sub [] rfl (w_X6_reads_113 h)
          · have h := itn h c19
            refine v_aload_n (dq D_X6_reads 54 rfl) 0 rfl ?_
            refine v_bipush (dq D_X6_reads 55 rfl) kb_6 ?_
            obtain ⟨q20, hq20, h⟩ := obi h
            refine v_cVi (bc := 0) (bs := 0) (As := [.int 6]) (dq D_X6_reads 56 rfl) cv_X6_fails ml_RX6_62 (itg hq20).1 (m_X6_fails hq20) rfl rfl (Nat.le_of_ble_eq_true rfl) ⟨Nat.le_of_ble_eq_true rfl, Nat.le_of_ble_eq_true rfl⟩ ⟨Nat.le_of_ble_eq_true rfl, Nat.le_of_ble_eq_true rfl⟩ ?_
            refine v_if_eq (dq D_X6_reads 57 rfl) rfl (fun c21 => ?_) (fun c21 => ?_)
            · have h := itp h c21
              refine v_iconst (dq D_X6_reads 60 rfl) kc_0 ?_
              exact v_sub [] rfl (w_X6_reads_118 h)
            · have h := itn h c21
              exact v_sub [] rfl (w_X6_reads_113 h)
      · have h := itp h c4
        refine v_iconst (dq D_X6_reads 41 rfl) kc_0 ?_
        obtain rfl := Option.some.inj h
        exact v_zret (dq D_X6_reads 42 rfl) rfl rfl ⟨rfl, rfl⟩
theorem w_X6_reads_14 {sa : Env3} {a0 : Nat} {a1 : Nat} {a3 : Nat} {s0 : Int32} {σ : St} {r : Int32 × St} (h : f_X6_reads_14 a0 a1 a3 s0 σ = some r) : VV sa cX6_reads K_X6_reads 14 [(0, .ref a0), (1, .ref a1), (3, .ref a3)] [.int s0] σ (pO r) 0 0 := by
  unfold f_X6_reads_14 at h
  refine v_istore (dq D_X6_reads 8 rfl) [(4, .int s0), (0, .ref a0), (1, .ref a1), (3, .ref a3)] (Nat.le_of_ble_eq_true rfl) rfl ?_
  refine v_aload_n (dq D_X6_reads 9 rfl) 1 rfl ?_
  refine v_aload_n (dq D_X6_reads 10 rfl) 2 rfl ?_
  obtain ⟨σ1, hσ1, h⟩ := obi h
  refine v_pP (dq D_X6_reads 11 rfl) fp_RX6_9 (fun q => nomatch q) hσ1 ?_
  refine v_aload_n (dq D_X6_reads 12 rfl) 1 rfl ?_
  obtain ⟨x2, hx2, h⟩ := obi h
  refine v_gR (dq D_X6_reads 13 rfl) fa_RX6_18 hx2 ?_
  refine v_aload_n (dq D_X6_reads 14 rfl) 2 rfl ?_
  refine v_iload (dq D_X6_reads 15 rfl) 0 rfl ?_
  obtain ⟨σ3, hσ3, h⟩ := obi h
  refine v_cVv (bc := 0) (bs := 0) (As := [.ref a1, .int s0]) (dq D_X6_reads 16 rfl) cv_X7_part ml_RX6_32 (itg hσ3).1 (m_X7_part hσ3) rfl rfl (Nat.le_of_ble_eq_true rfl) ⟨Nat.le_of_ble_eq_true rfl, Nat.le_of_ble_eq_true rfl⟩ ⟨Nat.le_of_ble_eq_true rfl, Nat.le_of_ble_eq_true rfl⟩ ?_
  refine v_aload_n (dq D_X6_reads 17 rfl) 1 rfl ?_
  refine v_iconst (dq D_X6_reads 18 rfl) kc_0 ?_
  obtain ⟨σ4, hσ4, h⟩ := obi h
  refine v_pI (dq D_X6_reads 19 rfl) fp_RX6_36 hσ4 ?_
  refine v_aload_n (dq D_X6_reads 20 rfl) 1 rfl ?_
  refine v_iconst (dq D_X6_reads 21 rfl) kc_0 ?_
  obtain ⟨σ5, hσ5, h⟩ := obi h
  refine v_pI (dq D_X6_reads 22 rfl) fp_RX6_40 hσ5 ?_
  refine v_aload_n (dq D_X6_reads 23 rfl) 1 rfl ?_
  refine v_iconst (dq D_X6_reads 24 rfl) kc_0 ?_
  obtain ⟨σ6, hσ6, h⟩ := obi h
  refine v_pI (dq D_X6_reads 25 rfl) fp_RX6_43 hσ6 ?_
  refine v_aload_n (dq D_X6_reads 26 rfl) 1 rfl ?_
  refine v_aload_n (dq D_X6_reads 27 rfl) 3 rfl ?_
  obtain ⟨σ7, hσ7, h⟩ := obi h
  refine v_pP (dq D_X6_reads 28 rfl) fp_RX6_22 (fun q => nomatch q) hσ7 ?_
  refine v_aload_n (dq D_X6_reads 29 rfl) 1 rfl ?_
  obtain ⟨x8, hx8, h⟩ := obi h
  refine v_gR (dq D_X6_reads 30 rfl) fa_RX6_22 hx8 ?_
  obtain ⟨σ9, hσ9, h⟩ := obi h
  refine v_cVv (bc := 0) (bs := 0) (As := []) (dq D_X6_reads 31 rfl) cv_X5_clear ml_RX6_46 (itg hσ9).1 (m_X5_clear hσ9) rfl rfl (Nat.le_of_ble_eq_true rfl) ⟨Nat.le_of_ble_eq_true rfl, Nat.le_of_ble_eq_true rfl⟩ ⟨Nat.le_of_ble_eq_true rfl, Nat.le_of_ble_eq_true rfl⟩ ?_
  refine v_iconst (dq D_X6_reads 32 rfl) kc_0 ?_
  refine v_istore (dq D_X6_reads 33 rfl) [(5, .int 0), (4, .int s0), (0, .ref a0), (1, .ref a1), (3, .ref a3)] (Nat.le_of_ble_eq_true rfl) rfl ?_
  exact v_sub [2, 1, 0] rfl (w_X6_reads_61 _ h)
theorem w_X6_reads_0 {sa : Env3} {a0 : Nat} {a1 : Nat} {a2 : Int32} {a3 : Nat} {σ : St} {r : Int32 × St} (h : f_X6_reads_0 a0 a1 a2 a3 σ = some r) : VV sa cX6_reads K_X6_reads 0 [(0, .ref a0), (1, .ref a1), (2, .int a2), (3, .ref a3)] [] σ (pO r) 0 0 := by
  unfold f_X6_reads_0 at h
  refine v_iload_n (dq D_X6_reads 0 rfl) 2 rfl ?_
  refine v_if_ge (dq D_X6_reads 1 rfl) rfl (fun c1 => ?_) (fun c1 => ?_)
  · have h := itp h c1
    refine v_iload_n (dq D_X6_reads 4 rfl) 2 rfl ?_
    refine v_aload_n (dq D_X6_reads 5 rfl) 1 rfl ?_
    obtain ⟨x2, hx2, h⟩ := obi h
    refine v_alen (dq D_X6_reads 6 rfl) hx2 ?_
    refine v_mmin (dq D_X6_reads 7 rfl) tw_429 tw_430 tw_11 tw_431 (Nat.le_of_ble_eq_true rfl) (Nat.le_of_ble_eq_true rfl) ?_
    exact v_sub [0, 1, 3] rfl (w_X6_reads_14 h)
  · have h := itn h c1
    refine v_iconst (dq D_X6_reads 2 rfl) kc_0 ?_
    refine v_goto (dq D_X6_reads 3 rfl) rfl ?_
    exact v_sub [0, 1, 3] rfl (w_X6_reads_14 h)
theorem m_X6_reads {sa : Env3} {a0 : Nat} {a1 : Nat} {a2 : Int32} {a3 : Nat} {σ : St} {r : Int32 × St} (h : f_X6_reads a0 a1 a2 a3 σ = some r) : Ex sa yX6_reads cX6_reads K_X6_reads [.ref a0, .ref a1, .int a2, .ref a3] σ (pO r) := Ex.of (by decide) rfl (fun q => nomatch q) (Nat.le_of_ble_eq_true rfl) (w_X6_reads_0 (itg h).2)
theorem w_X8_refused_10 {sa : Env3} {a1 : Int32} {s0 : Nat} {s1 : Int32} {σ : St} {r : Int32 × St} (h : f_X8_refused_10 a1 s0 s1 σ = some r) : VV sa cX8_refused K_X8_refused 10 [(1, .int a1)] [.int s1, .ref s0] σ (pO r) 0 0 := by
  unfold f_X8_refused_10 at h
  obtain ⟨σ1, hσ1, h⟩ := obi h
  refine v_pI (dq D_X8_refused 6 rfl) fp_RX8_78 hσ1 ?_
  refine v_iload_n (dq D_X8_refused 7 rfl) 0 rfl ?_
  have hz := (itg h).1
  have h := (itg h).2
  obtain rfl := Option.some.inj h
  exact v_zret (dq D_X8_refused 8 rfl) rfl (z_nar hz) ⟨rfl, rfl⟩
theorem w_X8_refused_0 {sa : Env3} {a0 : Nat} {a1 : Int32} {a2 : Int32} {σ : St} {r : Int32 × St} (h : f_X8_refused_0 a0 a1 a2 σ = some r) : VV sa cX8_refused K_X8_refused 0 [(0, .ref a0), (1, .int a1), (2, .int a2)] [] σ (pO r) 0 0 := by
  unfold f_X8_refused_0 at h
  refine v_aload_n (dq D_X8_refused 0 rfl) 0 rfl ?_
  refine v_iload_n (dq D_X8_refused 1 rfl) 1 rfl ?_
  refine v_if_eq (dq D_X8_refused 2 rfl) rfl (fun c1 => ?_) (fun c1 => ?_)
  · have h := itp h c1
    refine v_iconst (dq D_X8_refused 5 rfl) kc_0 ?_
    exact v_sub [1] rfl (w_X8_refused_10 h)
  · have h := itn h c1
    refine v_iload_n (dq D_X8_refused 3 rfl) 2 rfl ?_
    refine v_goto (dq D_X8_refused 4 rfl) rfl ?_
    exact v_sub [1] rfl (w_X8_refused_10 h)
theorem m_X8_refused {sa : Env3} {a0 : Nat} {a1 : Int32} {a2 : Int32} {σ : St} {r : Int32 × St} (h : f_X8_refused a0 a1 a2 σ = some r) : Ex sa yX8_refused cX8_refused K_X8_refused [.ref a0, .int a1, .int a2] σ (pO r) := Ex.of (by decide) rfl (fun q => nomatch q) (Nat.le_of_ble_eq_true rfl) (w_X8_refused_0 (itg h).2)
theorem w_X8_plainTotal_0 {sa : Env3} {a0 : Nat} {σ : St} {r : Int32 × St} (h : f_X8_plainTotal_0 a0 σ = some r) : VV sa cX8_plainTotal K_X8_plainTotal 0 [(0, .ref a0)] [] σ (pO r) 0 0 := by
  unfold f_X8_plainTotal_0 at h
  refine v_aload_n (dq D_X8_plainTotal 0 rfl) 0 rfl ?_
  obtain ⟨x1, hx1, h⟩ := obi h
  refine v_gR (dq D_X8_plainTotal 1 rfl) fa_RX8_52 hx1 ?_
  refine v_aload_n (dq D_X8_plainTotal 2 rfl) 0 rfl ?_
  obtain ⟨x2, hx2, h⟩ := obi h
  refine v_gR (dq D_X8_plainTotal 3 rfl) fa_RX8_16 hx2 ?_
  refine v_iconst (dq D_X8_plainTotal 4 rfl) kc_0 ?_
  refine v_sipush (dq D_X8_plainTotal 5 rfl) ks_200 ?_
  obtain ⟨σ3, hσ3, h⟩ := obi h
  refine v_cVv (bc := 0) (bs := 0) (As := [.ref x2, .int 0, .int 200]) (dq D_X8_plainTotal 6 rfl) cv_X4_play ml_RX8_124 (itg hσ3).1 (m_X4_play hσ3) rfl rfl (Nat.le_of_ble_eq_true rfl) ⟨Nat.le_of_ble_eq_true rfl, Nat.le_of_ble_eq_true rfl⟩ ⟨Nat.le_of_ble_eq_true rfl, Nat.le_of_ble_eq_true rfl⟩ ?_
  refine v_aload_n (dq D_X8_plainTotal 7 rfl) 0 rfl ?_
  obtain ⟨x4, hx4, h⟩ := obi h
  refine v_gR (dq D_X8_plainTotal 8 rfl) fa_RX8_52 hx4 ?_
  obtain ⟨x5, hx5, h⟩ := obi h
  refine v_gI (dq D_X8_plainTotal 9 rfl) fa_RX8_128 hx5 ?_
  obtain rfl := Option.some.inj h
  exact v_iret (dq D_X8_plainTotal 10 rfl) rfl ⟨rfl, rfl⟩
theorem m_X8_plainTotal {sa : Env3} {a0 : Nat} {σ : St} {r : Int32 × St} (h : f_X8_plainTotal a0 σ = some r) : Ex sa yX8_plainTotal cX8_plainTotal K_X8_plainTotal [.ref a0] σ (pO r) := Ex.of (by decide) rfl (fun q => nomatch q) (Nat.le_of_ble_eq_true rfl) (w_X8_plainTotal_0 (itg h).2)
theorem w_X8_agrees_46 {sa : Env3}  {σ : St} {r : Int32 × St} (h : f_X8_agrees_46  σ = some r) : VV sa cX8_agrees K_X8_agrees 46 [] [] σ (pO r) 0 0 := by
  unfold f_X8_agrees_46 at h
  refine v_iconst (dq D_X8_agrees 22 rfl) kc_0 ?_
  obtain rfl := Option.some.inj h
  exact v_iret (dq D_X8_agrees 23 rfl) rfl ⟨rfl, rfl⟩
theorem w_X8_agrees_130 {sa : Env3} {k84 : Nat → Int32 → Int32 → St → Option (Int32 × St)} (hk84 : ∀ {a0 : Nat} {a1 : Int32} {a2 : Int32} {σ : St} {r : Int32 × St}, k84 a0 a1 a2 σ = some r → VV sa cX8_agrees K_X8_agrees 84 [(0, .ref a0), (1, .int a1), (2, .int a2)] [] σ (pO r) 0 0) {a0 : Nat} {a1 : Int32} {a2 : Int32} {σ : St} {r : Int32 × St} (h : f_X8_agrees_130 k84 a0 a1 a2 σ = some r) : VV sa cX8_agrees K_X8_agrees 130 [(0, .ref a0), (1, .int a1), (2, .int a2)] [] σ (pO r) 0 0 := by
  unfold f_X8_agrees_130 at h
  refine v_iinc (dq D_X8_agrees 69 rfl) 2 [(2, .int (a2 + 1)), (0, .ref a0), (1, .int a1)] rfl kc_1 (Nat.le_of_ble_eq_true rfl) rfl ?_
  refine v_goto (dq D_X8_agrees 70 rfl) rfl ?_
  exact v_sub [1, 2, 0] rfl (hk84 h)
theorem w_X8_agrees_103 {sa : Env3} {k84 : Nat → Int32 → Int32 → St → Option (Int32 × St)} (hk84 : ∀ {a0 : Nat} {a1 : Int32} {a2 : Int32} {σ : St} {r : Int32 × St}, k84 a0 a1 a2 σ = some r → VV sa cX8_agrees K_X8_agrees 84 [(0, .ref a0), (1, .int a1), (2, .int a2)] [] σ (pO r) 0 0) {a0 : Nat} {a1 : Int32} {a2 : Int32} {s0 : Int32} {σ : St} {r : Int32 × St} (h : f_X8_agrees_103 k84 a0 a1 a2 s0 σ = some r) : VV sa cX8_agrees K_X8_agrees 103 [(0, .ref a0), (1, .int a1), (2, .int a2)] [.int s0] σ (pO r) 0 0 := by
  unfold f_X8_agrees_103 at h
  refine v_istore_n (dq D_X8_agrees 54 rfl) [(3, .int s0), (0, .ref a0), (1, .int a1), (2, .int a2)] rfl (Nat.le_of_ble_eq_true rfl) rfl ?_
  refine v_iload_n (dq D_X8_agrees 55 rfl) 0 rfl ?_
  refine v_if_eq (dq D_X8_agrees 56 rfl) rfl (fun c1 => ?_) (fun c1 => ?_)
  · have h := itp h c1
    exact v_sub [1, 2, 3] rfl (w_X8_agrees_130 hk84 h)
  · have h := itn h c1
    refine v_aload_n (dq D_X8_agrees 57 rfl) 1 rfl ?_
    obtain ⟨x2, hx2, h⟩ := obi h
    refine v_gR (dq D_X8_agrees 58 rfl) fa_RX8_35 hx2 ?_
    refine v_iload_n (dq D_X8_agrees 59 rfl) 3 rfl ?_
    obtain ⟨q3, hq3, h⟩ := obi h
    refine v_cVi (bc := 0) (bs := 0) (As := [.int a2]) (dq D_X8_agrees 60 rfl) cv_X3_keptValue ml_RX8_151 (itg hq3).1 (m_X3_keptValue hq3) rfl rfl (Nat.le_of_ble_eq_true rfl) ⟨Nat.le_of_ble_eq_true rfl, Nat.le_of_ble_eq_true rfl⟩ ⟨Nat.le_of_ble_eq_true rfl, Nat.le_of_ble_eq_true rfl⟩ ?_
    refine v_aload_n (dq D_X8_agrees 61 rfl) 1 rfl ?_
    obtain ⟨x4, hx4, h⟩ := obi h
    refine v_gR (dq D_X8_agrees 62 rfl) fa_RX8_52 hx4 ?_
    obtain ⟨x5, hx5, h⟩ := obi h
    refine v_gR (dq D_X8_agrees 63 rfl) fa_RX8_144 hx5 ?_
    refine v_iload_n (dq D_X8_agrees 64 rfl) 3 rfl ?_
    obtain ⟨x6, hx6, h⟩ := obi h
    refine v_iald (dq D_X8_agrees 65 rfl) hx6 ?_
    refine v_icmp_eq (dq D_X8_agrees 66 rfl) rfl (fun c7 => ?_) (fun c7 => ?_)
    · have h := itp h c7
      exact v_sub [1, 2, 3] rfl (w_X8_agrees_130 hk84 h)
    · have h := itn h c7
      refine v_iconst (dq D_X8_agrees 67 rfl) kc_0 ?_
      obtain rfl := Option.some.inj h
      exact v_iret (dq D_X8_agrees 68 rfl) rfl ⟨rfl, rfl⟩
theorem w_X8_agrees_84 {sa : Env3} : ∀ (n : Nat) {a0 : Nat} {a1 : Int32} {a2 : Int32} {σ : St} {r : Int32 × St}, f_X8_agrees_84 n a0 a1 a2 σ = some r → VV sa cX8_agrees K_X8_agrees 84 [(0, .ref a0), (1, .int a1), (2, .int a2)] [] σ (pO r) 0 0 := by
  intro n
  induction n with
  | zero => intro a0 a1 a2 σ r h; cases h
  | succ n ih =>
    intro a0 a1 a2 σ r h
    rw [e_X8_agrees_84] at h
    refine v_iload_n (dq D_X8_agrees 42 rfl) 2 rfl ?_
    refine v_bipush (dq D_X8_agrees 43 rfl) kb_8 ?_
    refine v_icmp_ge (dq D_X8_agrees 44 rfl) rfl (fun c1 => ?_) (fun c1 => ?_)
    · have h := itp h c1
      refine v_iconst (dq D_X8_agrees 71 rfl) kc_1 ?_
      obtain rfl := Option.some.inj h
      exact v_iret (dq D_X8_agrees 72 rfl) rfl ⟨rfl, rfl⟩
    · have h := itn h c1
      refine v_iload_n (dq D_X8_agrees 45 rfl) 1 rfl ?_
      refine v_iload_n (dq D_X8_agrees 46 rfl) 2 rfl ?_
      refine v_ishr (dq D_X8_agrees 47 rfl) ?_
      refine v_iconst (dq D_X8_agrees 48 rfl) kc_1 ?_
      refine v_iand (dq D_X8_agrees 49 rfl) ?_
      refine v_if_ne (dq D_X8_agrees 50 rfl) rfl (fun c2 => ?_) (fun c2 => ?_)
      · have h := itn h c2
        refine v_iconst (dq D_X8_agrees 53 rfl) kc_0 ?_
        exact w_X8_agrees_103 ih h
      · have h := itp h c2
        refine v_iconst (dq D_X8_agrees 51 rfl) kc_1 ?_
        refine v_goto (dq D_X8_agrees 52 rfl) rfl ?_
        exact w_X8_agrees_103 ih h
theorem w_X8_agrees_13 {sa : Env3} {a0 : Nat} {s0 : Nat} {s1 : Int32} {σ : St} {r : Int32 × St} (h : f_X8_agrees_13 a0 s0 s1 σ = some r) : VV sa cX8_agrees K_X8_agrees 13 [(0, .ref a0)] [.int s1, .ref s0] σ (pO r) 0 0 := by
  unfold f_X8_agrees_13 at h
  refine v_iconst (dq D_X8_agrees 7 rfl) kc_1 ?_
  obtain ⟨q1, hq1, h⟩ := obi h
  refine v_cVi (bc := 0) (bs := 0) (As := [.int s1, .int 1]) (dq D_X8_agrees 8 rfl) cv_X8_refused ml_RX8_85 (itg hq1).1 (m_X8_refused hq1) rfl rfl (Nat.le_of_ble_eq_true rfl) ⟨Nat.le_of_ble_eq_true rfl, Nat.le_of_ble_eq_true rfl⟩ ⟨Nat.le_of_ble_eq_true rfl, Nat.le_of_ble_eq_true rfl⟩ ?_
  refine v_if_eq (dq D_X8_agrees 9 rfl) rfl (fun c2 => ?_) (fun c2 => ?_)
  · have h := itp h c2
    refine v_aload_n (dq D_X8_agrees 12 rfl) 0 rfl ?_
    obtain ⟨x3, hx3, h⟩ := obi h
    refine v_gR (dq D_X8_agrees 13 rfl) fa_RX8_35 hx3 ?_
    obtain ⟨x4, hx4, h⟩ := obi h
    refine v_gI (dq D_X8_agrees 14 rfl) fa_RX8_231 hx4 ?_
    refine v_if_ne (dq D_X8_agrees 15 rfl) rfl (fun c5 => ?_) (fun c5 => ?_)
    · have h := itn h c5
      exact v_sub [] rfl (w_X8_agrees_46 h)
    · have h := itp h c5
      refine v_aload_n (dq D_X8_agrees 16 rfl) 0 rfl ?_
      obtain ⟨x6, hx6, h⟩ := obi h
      refine v_gR (dq D_X8_agrees 17 rfl) fa_RX8_35 hx6 ?_
      obtain ⟨x7, hx7, h⟩ := obi h
      refine v_gI (dq D_X8_agrees 18 rfl) fa_RX8_234 hx7 ?_
      refine v_aload_n (dq D_X8_agrees 19 rfl) 0 rfl ?_
      obtain ⟨q8, hq8, h⟩ := obi h
      refine v_cVi (bc := 0) (bs := 0) (As := []) (dq D_X8_agrees 20 rfl) cv_X8_plainTotal ml_RX8_120 (itg hq8).1 (m_X8_plainTotal hq8) rfl rfl (Nat.le_of_ble_eq_true rfl) ⟨Nat.le_of_ble_eq_true rfl, Nat.le_of_ble_eq_true rfl⟩ ⟨Nat.le_of_ble_eq_true rfl, Nat.le_of_ble_eq_true rfl⟩ ?_
      refine v_icmp_le (dq D_X8_agrees 21 rfl) rfl (fun c9 => ?_) (fun c9 => ?_)
      · have h := itp h c9
        refine v_aload_n (dq D_X8_agrees 24 rfl) 0 rfl ?_
        obtain ⟨x10, hx10, h⟩ := obi h
        refine v_gR (dq D_X8_agrees 25 rfl) fa_RX8_52 hx10 ?_
        refine v_aload_n (dq D_X8_agrees 26 rfl) 0 rfl ?_
        obtain ⟨x11, hx11, h⟩ := obi h
        refine v_gR (dq D_X8_agrees 27 rfl) fa_RX8_16 hx11 ?_
        refine v_iconst (dq D_X8_agrees 28 rfl) kc_0 ?_
        refine v_aload_n (dq D_X8_agrees 29 rfl) 0 rfl ?_
        obtain ⟨x12, hx12, h⟩ := obi h
        refine v_gR (dq D_X8_agrees 30 rfl) fa_RX8_35 hx12 ?_
        obtain ⟨x13, hx13, h⟩ := obi h
        refine v_gI (dq D_X8_agrees 31 rfl) fa_RX8_234 hx13 ?_
        obtain ⟨σ14, hσ14, h⟩ := obi h
        refine v_cVv (bc := 0) (bs := 0) (As := [.ref x11, .int 0, .int x13]) (dq D_X8_agrees 32 rfl) cv_X4_play ml_RX8_124 (itg hσ14).1 (m_X4_play hσ14) rfl rfl (Nat.le_of_ble_eq_true rfl) ⟨Nat.le_of_ble_eq_true rfl, Nat.le_of_ble_eq_true rfl⟩ ⟨Nat.le_of_ble_eq_true rfl, Nat.le_of_ble_eq_true rfl⟩ ?_
        refine v_aload_n (dq D_X8_agrees 33 rfl) 0 rfl ?_
        obtain ⟨x15, hx15, h⟩ := obi h
        refine v_gR (dq D_X8_agrees 34 rfl) fa_RX8_35 hx15 ?_
        refine v_aload_n (dq D_X8_agrees 35 rfl) 0 rfl ?_
        obtain ⟨x16, hx16, h⟩ := obi h
        refine v_gR (dq D_X8_agrees 36 rfl) fa_RX8_35 hx16 ?_
        obtain ⟨x17, hx17, h⟩ := obi h
        refine v_gI (dq D_X8_agrees 37 rfl) fa_RX8_158 hx17 ?_
        obtain ⟨q18, hq18, h⟩ := obi h
        refine v_cVi (bc := 0) (bs := 0) (As := [.int x17]) (dq D_X8_agrees 38 rfl) cv_X3_letGoBits ml_RX8_165 (itg hq18).1 (m_X3_letGoBits hq18) rfl rfl (Nat.le_of_ble_eq_true rfl) ⟨Nat.le_of_ble_eq_true rfl, Nat.le_of_ble_eq_true rfl⟩ ⟨Nat.le_of_ble_eq_true rfl, Nat.le_of_ble_eq_true rfl⟩ ?_
        refine v_istore_n (dq D_X8_agrees 39 rfl) [(1, .int q18.1), (0, .ref a0)] rfl (Nat.le_of_ble_eq_true rfl) rfl ?_
        refine v_iconst (dq D_X8_agrees 40 rfl) kc_0 ?_
        refine v_istore_n (dq D_X8_agrees 41 rfl) [(2, .int 0), (1, .int q18.1), (0, .ref a0)] rfl (Nat.le_of_ble_eq_true rfl) rfl ?_
        exact v_sub [2, 1, 0] rfl (w_X8_agrees_84 _ h)
      · have h := itn h c9
        exact v_sub [] rfl (w_X8_agrees_46 h)
  · have h := itn h c2
    refine v_iconst (dq D_X8_agrees 10 rfl) kc_m1 ?_
    obtain rfl := Option.some.inj h
    exact v_iret (dq D_X8_agrees 11 rfl) rfl ⟨rfl, rfl⟩
theorem w_X8_agrees_0 {sa : Env3} {a0 : Nat} {σ : St} {r : Int32 × St} (h : f_X8_agrees_0 a0 σ = some r) : VV sa cX8_agrees K_X8_agrees 0 [(0, .ref a0)] [] σ (pO r) 0 0 := by
  unfold f_X8_agrees_0 at h
  refine v_aload_n (dq D_X8_agrees 0 rfl) 0 rfl ?_
  refine v_aload_n (dq D_X8_agrees 1 rfl) 0 rfl ?_
  obtain ⟨x1, hx1, h⟩ := obi h
  refine v_gI (dq D_X8_agrees 2 rfl) fa_RX8_70 hx1 ?_
  refine v_if_ne (dq D_X8_agrees 3 rfl) rfl (fun c2 => ?_) (fun c2 => ?_)
  · have h := itn h c2
    refine v_iconst (dq D_X8_agrees 6 rfl) kc_0 ?_
    exact w_X8_agrees_13 h
  · have h := itp h c2
    refine v_iconst (dq D_X8_agrees 4 rfl) kc_1 ?_
    refine v_goto (dq D_X8_agrees 5 rfl) rfl ?_
    exact w_X8_agrees_13 h
theorem m_X8_agrees {sa : Env3} {a0 : Nat} {σ : St} {r : Int32 × St} (h : f_X8_agrees a0 σ = some r) : Ex sa yX8_agrees cX8_agrees K_X8_agrees [.ref a0] σ (pO r) := Ex.of (by decide) rfl (fun q => nomatch q) (Nat.le_of_ble_eq_true rfl) (w_X8_agrees_0 (itg h).2)
theorem w_X8_ask_13 {sa : Env3} {a0 : Nat} {s0 : Nat} {s1 : Int32} {σ : St} {r : Int32 × St} (h : f_X8_ask_13 a0 s0 s1 σ = some r) : VV sa cX8_ask K_X8_ask 13 [(0, .ref a0)] [.int s1, .ref s0] σ (pO r) 0 0 := by
  unfold f_X8_ask_13 at h
  refine v_iconst (dq D_X8_ask 7 rfl) kc_1 ?_
  obtain ⟨q1, hq1, h⟩ := obi h
  refine v_cVi (bc := 0) (bs := 0) (As := [.int s1, .int 1]) (dq D_X8_ask 8 rfl) cv_X8_refused ml_RX8_85 (itg hq1).1 (m_X8_refused hq1) rfl rfl (Nat.le_of_ble_eq_true rfl) ⟨Nat.le_of_ble_eq_true rfl, Nat.le_of_ble_eq_true rfl⟩ ⟨Nat.le_of_ble_eq_true rfl, Nat.le_of_ble_eq_true rfl⟩ ?_
  refine v_if_eq (dq D_X8_ask 9 rfl) rfl (fun c2 => ?_) (fun c2 => ?_)
  · have h := itp h c2
    refine v_aload_n (dq D_X8_ask 12 rfl) 0 rfl ?_
    obtain ⟨x3, hx3, h⟩ := obi h
    refine v_gR (dq D_X8_ask 13 rfl) fa_RX8_66 hx3 ?_
    obtain ⟨q4, hq4, h⟩ := obi h
    refine v_cVi (bc := 0) (bs := 0) (As := []) (dq D_X8_ask 14 rfl) cv_X1_bestQuestion ml_RX8_271 (itg hq4).1 (m_X1_bestQuestion hq4) rfl rfl (Nat.le_of_ble_eq_true rfl) ⟨Nat.le_of_ble_eq_true rfl, Nat.le_of_ble_eq_true rfl⟩ ⟨Nat.le_of_ble_eq_true rfl, Nat.le_of_ble_eq_true rfl⟩ ?_
    obtain rfl := Option.some.inj h
    exact v_iret (dq D_X8_ask 15 rfl) rfl ⟨rfl, rfl⟩
  · have h := itn h c2
    refine v_iconst (dq D_X8_ask 10 rfl) kc_m1 ?_
    obtain rfl := Option.some.inj h
    exact v_iret (dq D_X8_ask 11 rfl) rfl ⟨rfl, rfl⟩
theorem w_X8_ask_0 {sa : Env3} {a0 : Nat} {σ : St} {r : Int32 × St} (h : f_X8_ask_0 a0 σ = some r) : VV sa cX8_ask K_X8_ask 0 [(0, .ref a0)] [] σ (pO r) 0 0 := by
  unfold f_X8_ask_0 at h
  refine v_aload_n (dq D_X8_ask 0 rfl) 0 rfl ?_
  refine v_aload_n (dq D_X8_ask 1 rfl) 0 rfl ?_
  obtain ⟨x1, hx1, h⟩ := obi h
  refine v_gI (dq D_X8_ask 2 rfl) fa_RX8_70 hx1 ?_
  refine v_if_ne (dq D_X8_ask 3 rfl) rfl (fun c2 => ?_) (fun c2 => ?_)
  · have h := itn h c2
    refine v_iconst (dq D_X8_ask 6 rfl) kc_0 ?_
    exact w_X8_ask_13 h
  · have h := itp h c2
    refine v_iconst (dq D_X8_ask 4 rfl) kc_1 ?_
    refine v_goto (dq D_X8_ask 5 rfl) rfl ?_
    exact w_X8_ask_13 h
theorem m_X8_ask {sa : Env3} {a0 : Nat} {σ : St} {r : Int32 × St} (h : f_X8_ask a0 σ = some r) : Ex sa yX8_ask cX8_ask K_X8_ask [.ref a0] σ (pO r) := Ex.of (by decide) rfl (fun q => nomatch q) (Nat.le_of_ble_eq_true rfl) (w_X8_ask_0 (itg h).2)
theorem w_X8_askLeaves_47 {sa : Env3} {s0 : Int32} {σ : St} {r : Int32 × St} (h : f_X8_askLeaves_47 s0 σ = some r) : VV sa cX8_askLeaves K_X8_askLeaves 47 [] [.int s0] σ (pO r) 0 0 := by
  unfold f_X8_askLeaves_47 at h
  obtain rfl := Option.some.inj h
  exact v_iret (dq D_X8_askLeaves 24 rfl) rfl ⟨rfl, rfl⟩
theorem w_X8_askLeaves_13 {sa : Env3} {a0 : Nat} {s0 : Nat} {s1 : Int32} {σ : St} {r : Int32 × St} (h : f_X8_askLeaves_13 a0 s0 s1 σ = some r) : VV sa cX8_askLeaves K_X8_askLeaves 13 [(0, .ref a0)] [.int s1, .ref s0] σ (pO r) 0 0 := by
  unfold f_X8_askLeaves_13 at h
  refine v_iconst (dq D_X8_askLeaves 7 rfl) kc_1 ?_
  obtain ⟨q1, hq1, h⟩ := obi h
  refine v_cVi (bc := 0) (bs := 0) (As := [.int s1, .int 1]) (dq D_X8_askLeaves 8 rfl) cv_X8_refused ml_RX8_85 (itg hq1).1 (m_X8_refused hq1) rfl rfl (Nat.le_of_ble_eq_true rfl) ⟨Nat.le_of_ble_eq_true rfl, Nat.le_of_ble_eq_true rfl⟩ ⟨Nat.le_of_ble_eq_true rfl, Nat.le_of_ble_eq_true rfl⟩ ?_
  refine v_if_eq (dq D_X8_askLeaves 9 rfl) rfl (fun c2 => ?_) (fun c2 => ?_)
  · have h := itp h c2
    refine v_aload_n (dq D_X8_askLeaves 12 rfl) 0 rfl ?_
    obtain ⟨x3, hx3, h⟩ := obi h
    refine v_gR (dq D_X8_askLeaves 13 rfl) fa_RX8_66 hx3 ?_
    obtain ⟨q4, hq4, h⟩ := obi h
    refine v_cVi (bc := 0) (bs := 0) (As := []) (dq D_X8_askLeaves 14 rfl) cv_X1_bestQuestion ml_RX8_271 (itg hq4).1 (m_X1_bestQuestion hq4) rfl rfl (Nat.le_of_ble_eq_true rfl) ⟨Nat.le_of_ble_eq_true rfl, Nat.le_of_ble_eq_true rfl⟩ ⟨Nat.le_of_ble_eq_true rfl, Nat.le_of_ble_eq_true rfl⟩ ?_
    refine v_istore_n (dq D_X8_askLeaves 15 rfl) [(1, .int q4.1), (0, .ref a0)] rfl (Nat.le_of_ble_eq_true rfl) rfl ?_
    refine v_iload_n (dq D_X8_askLeaves 16 rfl) 0 rfl ?_
    refine v_if_ge (dq D_X8_askLeaves 17 rfl) rfl (fun c5 => ?_) (fun c5 => ?_)
    · have h := itp h c5
      refine v_aload_n (dq D_X8_askLeaves 20 rfl) 1 rfl ?_
      obtain ⟨x6, hx6, h⟩ := obi h
      refine v_gR (dq D_X8_askLeaves 21 rfl) fa_RX8_66 hx6 ?_
      refine v_iload_n (dq D_X8_askLeaves 22 rfl) 0 rfl ?_
      obtain ⟨q7, hq7, h⟩ := obi h
      refine v_cVi (bc := 0) (bs := 0) (As := [.int q4.1]) (dq D_X8_askLeaves 23 rfl) cv_X1_leftBy ml_RX8_274 (itg hq7).1 (m_X1_leftBy hq7) rfl rfl (Nat.le_of_ble_eq_true rfl) ⟨Nat.le_of_ble_eq_true rfl, Nat.le_of_ble_eq_true rfl⟩ ⟨Nat.le_of_ble_eq_true rfl, Nat.le_of_ble_eq_true rfl⟩ ?_
      exact v_sub [] rfl (w_X8_askLeaves_47 h)
    · have h := itn h c5
      refine v_bipush (dq D_X8_askLeaves 18 rfl) kb_m2 ?_
      refine v_goto (dq D_X8_askLeaves 19 rfl) rfl ?_
      exact v_sub [] rfl (w_X8_askLeaves_47 h)
  · have h := itn h c2
    refine v_iconst (dq D_X8_askLeaves 10 rfl) kc_m1 ?_
    obtain rfl := Option.some.inj h
    exact v_iret (dq D_X8_askLeaves 11 rfl) rfl ⟨rfl, rfl⟩
theorem w_X8_askLeaves_0 {sa : Env3} {a0 : Nat} {σ : St} {r : Int32 × St} (h : f_X8_askLeaves_0 a0 σ = some r) : VV sa cX8_askLeaves K_X8_askLeaves 0 [(0, .ref a0)] [] σ (pO r) 0 0 := by
  unfold f_X8_askLeaves_0 at h
  refine v_aload_n (dq D_X8_askLeaves 0 rfl) 0 rfl ?_
  refine v_aload_n (dq D_X8_askLeaves 1 rfl) 0 rfl ?_
  obtain ⟨x1, hx1, h⟩ := obi h
  refine v_gI (dq D_X8_askLeaves 2 rfl) fa_RX8_70 hx1 ?_
  refine v_if_ne (dq D_X8_askLeaves 3 rfl) rfl (fun c2 => ?_) (fun c2 => ?_)
  · have h := itn h c2
    refine v_iconst (dq D_X8_askLeaves 6 rfl) kc_0 ?_
    exact w_X8_askLeaves_13 h
  · have h := itp h c2
    refine v_iconst (dq D_X8_askLeaves 4 rfl) kc_1 ?_
    refine v_goto (dq D_X8_askLeaves 5 rfl) rfl ?_
    exact w_X8_askLeaves_13 h
theorem m_X8_askLeaves {sa : Env3} {a0 : Nat} {σ : St} {r : Int32 × St} (h : f_X8_askLeaves a0 σ = some r) : Ex sa yX8_askLeaves cX8_askLeaves K_X8_askLeaves [.ref a0] σ (pO r) := Ex.of (by decide) rfl (fun q => nomatch q) (Nat.le_of_ble_eq_true rfl) (w_X8_askLeaves_0 (itg h).2)
theorem w_X8_back_21 {sa : Env3} {a0 : Nat} {a1 : Int32} {s0 : Nat} {s1 : Int32} {σ : St} {r : Int32 × St} (h : f_X8_back_21 a0 a1 s0 s1 σ = some r) : VV sa cX8_back K_X8_back 21 [(0, .ref a0), (1, .int a1)] [.int s1, .ref s0] σ (pO r) 0 0 := by
  unfold f_X8_back_21 at h
  refine v_iconst (dq D_X8_back 11 rfl) kc_1 ?_
  obtain ⟨q1, hq1, h⟩ := obi h
  refine v_cVi (bc := 0) (bs := 0) (As := [.int s1, .int 1]) (dq D_X8_back 12 rfl) cv_X8_refused ml_RX8_85 (itg hq1).1 (m_X8_refused hq1) rfl rfl (Nat.le_of_ble_eq_true rfl) ⟨Nat.le_of_ble_eq_true rfl, Nat.le_of_ble_eq_true rfl⟩ ⟨Nat.le_of_ble_eq_true rfl, Nat.le_of_ble_eq_true rfl⟩ ?_
  refine v_if_eq (dq D_X8_back 13 rfl) rfl (fun c2 => ?_) (fun c2 => ?_)
  · have h := itp h c2
    refine v_aload_n (dq D_X8_back 16 rfl) 0 rfl ?_
    obtain ⟨x3, hx3, h⟩ := obi h
    refine v_gR (dq D_X8_back 17 rfl) fa_RX8_45 hx3 ?_
    refine v_iload_n (dq D_X8_back 18 rfl) 1 rfl ?_
    refine v_aload_n (dq D_X8_back 19 rfl) 0 rfl ?_
    obtain ⟨x4, hx4, h⟩ := obi h
    refine v_gR (dq D_X8_back 20 rfl) fa_RX8_35 hx4 ?_
    obtain ⟨σ5, hσ5, h⟩ := obi h
    refine v_cVv (bc := 0) (bs := 0) (As := [.int a1, .ref x4]) (dq D_X8_back 21 rfl) cv_X2_returnTo ml_RX8_331 (itg hσ5).1 (m_X2_returnTo hσ5) rfl rfl (Nat.le_of_ble_eq_true rfl) ⟨Nat.le_of_ble_eq_true rfl, Nat.le_of_ble_eq_true rfl⟩ ⟨Nat.le_of_ble_eq_true rfl, Nat.le_of_ble_eq_true rfl⟩ ?_
    refine v_iconst (dq D_X8_back 22 rfl) kc_1 ?_
    obtain rfl := Option.some.inj h
    exact v_zret (dq D_X8_back 23 rfl) rfl rfl ⟨rfl, rfl⟩
  · have h := itn h c2
    refine v_iconst (dq D_X8_back 14 rfl) kc_0 ?_
    obtain rfl := Option.some.inj h
    exact v_zret (dq D_X8_back 15 rfl) rfl rfl ⟨rfl, rfl⟩
theorem w_X8_back_16 {sa : Env3} {a0 : Nat} {a1 : Int32} {s0 : Nat} {σ : St} {r : Int32 × St} (h : f_X8_back_16 a0 a1 s0 σ = some r) : VV sa cX8_back K_X8_back 16 [(0, .ref a0), (1, .int a1)] [.ref s0] σ (pO r) 0 0 := by
  unfold f_X8_back_16 at h
  refine v_iconst (dq D_X8_back 8 rfl) kc_1 ?_
  refine v_goto (dq D_X8_back 9 rfl) rfl ?_
  exact w_X8_back_21 h
theorem w_X8_back_0 {sa : Env3} {a0 : Nat} {a1 : Int32} {σ : St} {r : Int32 × St} (h : f_X8_back_0 a0 a1 σ = some r) : VV sa cX8_back K_X8_back 0 [(0, .ref a0), (1, .int a1)] [] σ (pO r) 0 0 := by
  unfold f_X8_back_0 at h
  refine v_aload_n (dq D_X8_back 0 rfl) 0 rfl ?_
  refine v_iload_n (dq D_X8_back 1 rfl) 1 rfl ?_
  refine v_if_lt (dq D_X8_back 2 rfl) rfl (fun c1 => ?_) (fun c1 => ?_)
  · have h := itp h c1
    exact w_X8_back_16 h
  · have h := itn h c1
    refine v_iload_n (dq D_X8_back 3 rfl) 1 rfl ?_
    refine v_aload_n (dq D_X8_back 4 rfl) 0 rfl ?_
    obtain ⟨x2, hx2, h⟩ := obi h
    refine v_gR (dq D_X8_back 5 rfl) fa_RX8_45 hx2 ?_
    obtain ⟨x3, hx3, h⟩ := obi h
    refine v_gI (dq D_X8_back 6 rfl) fa_RX8_324 hx3 ?_
    refine v_icmp_lt (dq D_X8_back 7 rfl) rfl (fun c4 => ?_) (fun c4 => ?_)
    · have h := itp h c4
      refine v_iconst (dq D_X8_back 10 rfl) kc_0 ?_
      exact w_X8_back_21 h
    · have h := itn h c4
      exact w_X8_back_16 h
theorem m_X8_back {sa : Env3} {a0 : Nat} {a1 : Int32} {σ : St} {r : Int32 × St} (h : f_X8_back a0 a1 σ = some r) : Ex sa yX8_back cX8_back K_X8_back [.ref a0, .int a1] σ (pO r) := Ex.of (by decide) rfl (fun q => nomatch q) (Nat.le_of_ble_eq_true rfl) (w_X8_back_0 (itg h).2)
theorem w_X8_beginWithDraft_0 {sa : Env3} {a0 : Nat} {σ : St} {r : St} (h : f_X8_beginWithDraft_0 a0 σ = some r) : VV sa cX8_beginWithDraft K_X8_beginWithDraft 0 [(0, .ref a0)] [] σ (pU r) 0 0 := by
  unfold f_X8_beginWithDraft_0 at h
  refine v_aload_n (dq D_X8_beginWithDraft 0 rfl) 0 rfl ?_
  obtain ⟨x1, hx1, h⟩ := obi h
  refine v_gR (dq D_X8_beginWithDraft 1 rfl) fa_RX8_16 hx1 ?_
  refine v_astore_n (dq D_X8_beginWithDraft 2 rfl) [(1, .ref x1), (0, .ref a0)] rfl (Nat.le_of_ble_eq_true rfl) rfl ?_
  refine v_aload_n (dq D_X8_beginWithDraft 3 rfl) 1 rfl ?_
  refine v_aload_n (dq D_X8_beginWithDraft 4 rfl) 1 rfl ?_
  obtain ⟨x2, hx2, h⟩ := obi h
  refine v_gR (dq D_X8_beginWithDraft 5 rfl) fa_RX8_20 hx2 ?_
  obtain ⟨σ3, hσ3, h⟩ := obi h
  refine v_pP (dq D_X8_beginWithDraft 6 rfl) fp_RX8_16 (fun q => nomatch q) hσ3 ?_
  refine v_aload_n (dq D_X8_beginWithDraft 7 rfl) 1 rfl ?_
  refine v_aload_n (dq D_X8_beginWithDraft 8 rfl) 0 rfl ?_
  obtain ⟨σ4, hσ4, h⟩ := obi h
  refine v_pP (dq D_X8_beginWithDraft 9 rfl) fp_RX8_20 (fun q => nomatch q) hσ4 ?_
  refine v_aload_n (dq D_X8_beginWithDraft 10 rfl) 1 rfl ?_
  refine v_iconst (dq D_X8_beginWithDraft 11 rfl) kc_1 ?_
  obtain ⟨σ5, hσ5, h⟩ := obi h
  refine v_pZ (dq D_X8_beginWithDraft 12 rfl) fp_RX8_70 hσ5 ?_
  refine v_aload_n (dq D_X8_beginWithDraft 13 rfl) 1 rfl ?_
  obtain ⟨x6, hx6, h⟩ := obi h
  refine v_gR (dq D_X8_beginWithDraft 14 rfl) fa_RX8_35 hx6 ?_
  refine v_aload_n (dq D_X8_beginWithDraft 15 rfl) 1 rfl ?_
  obtain ⟨x7, hx7, h⟩ := obi h
  refine v_gR (dq D_X8_beginWithDraft 16 rfl) fa_RX8_16 hx7 ?_
  refine v_aload_n (dq D_X8_beginWithDraft 17 rfl) 1 rfl ?_
  obtain ⟨x8, hx8, h⟩ := obi h
  refine v_gR (dq D_X8_beginWithDraft 18 rfl) fa_RX8_16 hx8 ?_
  obtain ⟨x9, hx9, h⟩ := obi h
  refine v_gI (dq D_X8_beginWithDraft 19 rfl) fa_RX8_99 hx9 ?_
  obtain ⟨σ10, hσ10, h⟩ := obi h
  refine v_cVv (bc := 0) (bs := 0) (As := [.ref x7, .int x9]) (dq D_X8_beginWithDraft 20 rfl) cv_X3_begin ml_RX8_102 (itg hσ10).1 (m_X3_begin hσ10) rfl rfl (Nat.le_of_ble_eq_true rfl) ⟨Nat.le_of_ble_eq_true rfl, Nat.le_of_ble_eq_true rfl⟩ ⟨Nat.le_of_ble_eq_true rfl, Nat.le_of_ble_eq_true rfl⟩ ?_
  refine v_aload_n (dq D_X8_beginWithDraft 21 rfl) 1 rfl ?_
  obtain ⟨x11, hx11, h⟩ := obi h
  refine v_gR (dq D_X8_beginWithDraft 22 rfl) fa_RX8_45 hx11 ?_
  obtain ⟨σ12, hσ12, h⟩ := obi h
  refine v_cVv (bc := 0) (bs := 0) (As := []) (dq D_X8_beginWithDraft 23 rfl) cv_X2_forget ml_RX8_106 (itg hσ12).1 (m_X2_forget hσ12) rfl rfl (Nat.le_of_ble_eq_true rfl) ⟨Nat.le_of_ble_eq_true rfl, Nat.le_of_ble_eq_true rfl⟩ ⟨Nat.le_of_ble_eq_true rfl, Nat.le_of_ble_eq_true rfl⟩ ?_
  refine v_aload_n (dq D_X8_beginWithDraft 24 rfl) 1 rfl ?_
  obtain ⟨x13, hx13, h⟩ := obi h
  refine v_gR (dq D_X8_beginWithDraft 25 rfl) fa_RX8_59 hx13 ?_
  obtain ⟨σ14, hσ14, h⟩ := obi h
  refine v_cVv (bc := 0) (bs := 0) (As := []) (dq D_X8_beginWithDraft 26 rfl) cv_X0_forget ml_RX8_109 (itg hσ14).1 (m_X0_forget hσ14) rfl rfl (Nat.le_of_ble_eq_true rfl) ⟨Nat.le_of_ble_eq_true rfl, Nat.le_of_ble_eq_true rfl⟩ ⟨Nat.le_of_ble_eq_true rfl, Nat.le_of_ble_eq_true rfl⟩ ?_
  refine v_aload_n (dq D_X8_beginWithDraft 27 rfl) 1 rfl ?_
  obtain ⟨x15, hx15, h⟩ := obi h
  refine v_gR (dq D_X8_beginWithDraft 28 rfl) fa_RX8_66 hx15 ?_
  refine v_aload_n (dq D_X8_beginWithDraft 29 rfl) 1 rfl ?_
  obtain ⟨x16, hx16, h⟩ := obi h
  refine v_gR (dq D_X8_beginWithDraft 30 rfl) fa_RX8_16 hx16 ?_
  refine v_aload_n (dq D_X8_beginWithDraft 31 rfl) 1 rfl ?_
  obtain ⟨x17, hx17, h⟩ := obi h
  refine v_gR (dq D_X8_beginWithDraft 32 rfl) fa_RX8_52 hx17 ?_
  obtain ⟨σ18, hσ18, h⟩ := obi h
  refine v_cVv (bc := 0) (bs := 0) (As := [.ref x16, .ref x17]) (dq D_X8_beginWithDraft 33 rfl) cv_X1_find ml_RX8_110 (itg hσ18).1 (m_X1_find hσ18) rfl rfl (Nat.le_of_ble_eq_true rfl) ⟨Nat.le_of_ble_eq_true rfl, Nat.le_of_ble_eq_true rfl⟩ ⟨Nat.le_of_ble_eq_true rfl, Nat.le_of_ble_eq_true rfl⟩ ?_
  obtain rfl := Option.some.inj h
  exact v_vret (dq D_X8_beginWithDraft 34 rfl) rfl ⟨rfl, rfl⟩
theorem m_X8_beginWithDraft {sa : Env3} {a0 : Nat} {σ : St} {r : St} (h : f_X8_beginWithDraft a0 σ = some r) : Ex sa yX8_beginWithDraft cX8_beginWithDraft K_X8_beginWithDraft [.ref a0] σ (pU r) := Ex.of (by decide) rfl (fun q => nomatch q) (Nat.le_of_ble_eq_true rfl) (w_X8_beginWithDraft_0 (itg h).2)
theorem w_X8_cell_75 {sa : Env3} {s0 : Int32} {σ : St} {r : Int32 × St} (h : f_X8_cell_75 s0 σ = some r) : VV sa cX8_cell K_X8_cell 75 [] [.int s0] σ (pO r) 0 0 := by
  unfold f_X8_cell_75 at h
  obtain rfl := Option.some.inj h
  exact v_iret (dq D_X8_cell 38 rfl) rfl ⟨rfl, rfl⟩
theorem w_X8_cell_37 {sa : Env3} {a0 : Nat} {a1 : Int32} {a2 : Int32} {s0 : Nat} {s1 : Int32} {σ : St} {r : Int32 × St} (h : f_X8_cell_37 a0 a1 a2 s0 s1 σ = some r) : VV sa cX8_cell K_X8_cell 37 [(0, .ref a0), (1, .int a1), (2, .int a2)] [.int s1, .ref s0] σ (pO r) 0 0 := by
  unfold f_X8_cell_37 at h
  refine v_iconst (dq D_X8_cell 19 rfl) kc_1 ?_
  obtain ⟨q1, hq1, h⟩ := obi h
  refine v_cVi (bc := 0) (bs := 0) (As := [.int s1, .int 1]) (dq D_X8_cell 20 rfl) cv_X8_refused ml_RX8_85 (itg hq1).1 (m_X8_refused hq1) rfl rfl (Nat.le_of_ble_eq_true rfl) ⟨Nat.le_of_ble_eq_true rfl, Nat.le_of_ble_eq_true rfl⟩ ⟨Nat.le_of_ble_eq_true rfl, Nat.le_of_ble_eq_true rfl⟩ ?_
  refine v_if_eq (dq D_X8_cell 21 rfl) rfl (fun c2 => ?_) (fun c2 => ?_)
  · have h := itp h c2
    refine v_iload_n (dq D_X8_cell 24 rfl) 2 rfl ?_
    refine v_if_ne (dq D_X8_cell 25 rfl) rfl (fun c3 => ?_) (fun c3 => ?_)
    · have h := itn h c3
      refine v_iload_n (dq D_X8_cell 39 rfl) 2 rfl ?_
      refine v_iconst (dq D_X8_cell 40 rfl) kc_1 ?_
      refine v_icmp_ne (dq D_X8_cell 41 rfl) rfl (fun c4 => ?_) (fun c4 => ?_)
      · have h := itn h c4
        refine v_aload_n (dq D_X8_cell 53 rfl) 0 rfl ?_
        obtain ⟨x5, hx5, h⟩ := obi h
        refine v_gR (dq D_X8_cell 54 rfl) fa_RX8_35 hx5 ?_
        refine v_iload_n (dq D_X8_cell 55 rfl) 1 rfl ?_
        obtain ⟨q6, hq6, h⟩ := obi h
        refine v_cVi (bc := 0) (bs := 0) (As := [.int a1]) (dq D_X8_cell 56 rfl) cv_X3_waitersFor ml_RX8_177 (itg hq6).1 (m_X3_waitersFor hq6) rfl rfl (Nat.le_of_ble_eq_true rfl) ⟨Nat.le_of_ble_eq_true rfl, Nat.le_of_ble_eq_true rfl⟩ ⟨Nat.le_of_ble_eq_true rfl, Nat.le_of_ble_eq_true rfl⟩ ?_
        obtain rfl := Option.some.inj h
        exact v_iret (dq D_X8_cell 57 rfl) rfl ⟨rfl, rfl⟩
      · have h := itp h c4
        refine v_aload_n (dq D_X8_cell 42 rfl) 0 rfl ?_
        obtain ⟨x7, hx7, h⟩ := obi h
        refine v_gR (dq D_X8_cell 43 rfl) fa_RX8_35 hx7 ?_
        refine v_aload_n (dq D_X8_cell 44 rfl) 0 rfl ?_
        obtain ⟨x8, hx8, h⟩ := obi h
        refine v_gR (dq D_X8_cell 45 rfl) fa_RX8_35 hx8 ?_
        refine v_aload_n (dq D_X8_cell 46 rfl) 0 rfl ?_
        obtain ⟨x9, hx9, h⟩ := obi h
        refine v_gR (dq D_X8_cell 47 rfl) fa_RX8_35 hx9 ?_
        obtain ⟨x10, hx10, h⟩ := obi h
        refine v_gI (dq D_X8_cell 48 rfl) fa_RX8_158 hx10 ?_
        obtain ⟨q11, hq11, h⟩ := obi h
        refine v_cVi (bc := 0) (bs := 0) (As := [.int x10]) (dq D_X8_cell 49 rfl) cv_X3_letGoBits ml_RX8_165 (itg hq11).1 (m_X3_letGoBits hq11) rfl rfl (Nat.le_of_ble_eq_true rfl) ⟨Nat.le_of_ble_eq_true rfl, Nat.le_of_ble_eq_true rfl⟩ ⟨Nat.le_of_ble_eq_true rfl, Nat.le_of_ble_eq_true rfl⟩ ?_
        refine v_iload_n (dq D_X8_cell 50 rfl) 1 rfl ?_
        obtain ⟨q12, hq12, h⟩ := obi h
        refine v_cVi (bc := 0) (bs := 0) (As := [.int q11.1, .int a1]) (dq D_X8_cell 51 rfl) cv_X3_holdersBut ml_RX8_174 (itg hq12).1 (m_X3_holdersBut hq12) rfl rfl (Nat.le_of_ble_eq_true rfl) ⟨Nat.le_of_ble_eq_true rfl, Nat.le_of_ble_eq_true rfl⟩ ⟨Nat.le_of_ble_eq_true rfl, Nat.le_of_ble_eq_true rfl⟩ ?_
        obtain rfl := Option.some.inj h
        exact v_iret (dq D_X8_cell 52 rfl) rfl ⟨rfl, rfl⟩
    · have h := itp h c3
      refine v_aload_n (dq D_X8_cell 26 rfl) 0 rfl ?_
      obtain ⟨x13, hx13, h⟩ := obi h
      refine v_gR (dq D_X8_cell 27 rfl) fa_RX8_35 hx13 ?_
      refine v_iload_n (dq D_X8_cell 28 rfl) 1 rfl ?_
      obtain ⟨q14, hq14, h⟩ := obi h
      refine v_cVi (bc := 0) (bs := 0) (As := [.int a1]) (dq D_X8_cell 29 rfl) cv_X3_isReady ml_RX8_168 (itg hq14).1 (m_X3_isReady hq14) rfl rfl (Nat.le_of_ble_eq_true rfl) ⟨Nat.le_of_ble_eq_true rfl, Nat.le_of_ble_eq_true rfl⟩ ⟨Nat.le_of_ble_eq_true rfl, Nat.le_of_ble_eq_true rfl⟩ ?_
      refine v_if_eq (dq D_X8_cell 30 rfl) rfl (fun c15 => ?_) (fun c15 => ?_)
      · have h := itp h c15
        refine v_bipush (dq D_X8_cell 37 rfl) kb_m2 ?_
        exact v_sub [] rfl (w_X8_cell_75 h)
      · have h := itn h c15
        refine v_aload_n (dq D_X8_cell 31 rfl) 0 rfl ?_
        obtain ⟨x16, hx16, h⟩ := obi h
        refine v_gR (dq D_X8_cell 32 rfl) fa_RX8_35 hx16 ?_
        obtain ⟨x17, hx17, h⟩ := obi h
        refine v_gR (dq D_X8_cell 33 rfl) fa_RX8_171 hx17 ?_
        refine v_iload_n (dq D_X8_cell 34 rfl) 1 rfl ?_
        obtain ⟨x18, hx18, h⟩ := obi h
        refine v_iald (dq D_X8_cell 35 rfl) hx18 ?_
        refine v_goto (dq D_X8_cell 36 rfl) rfl ?_
        exact v_sub [] rfl (w_X8_cell_75 h)
  · have h := itn h c2
    refine v_iconst (dq D_X8_cell 22 rfl) kc_m1 ?_
    obtain rfl := Option.some.inj h
    exact v_iret (dq D_X8_cell 23 rfl) rfl ⟨rfl, rfl⟩
theorem w_X8_cell_32 {sa : Env3} {a0 : Nat} {a1 : Int32} {a2 : Int32} {s0 : Nat} {σ : St} {r : Int32 × St} (h : f_X8_cell_32 a0 a1 a2 s0 σ = some r) : VV sa cX8_cell K_X8_cell 32 [(0, .ref a0), (1, .int a1), (2, .int a2)] [.ref s0] σ (pO r) 0 0 := by
  unfold f_X8_cell_32 at h
  refine v_iconst (dq D_X8_cell 16 rfl) kc_1 ?_
  refine v_goto (dq D_X8_cell 17 rfl) rfl ?_
  exact w_X8_cell_37 h
theorem w_X8_cell_0 {sa : Env3} {a0 : Nat} {a1 : Int32} {a2 : Int32} {σ : St} {r : Int32 × St} (h : f_X8_cell_0 a0 a1 a2 σ = some r) : VV sa cX8_cell K_X8_cell 0 [(0, .ref a0), (1, .int a1), (2, .int a2)] [] σ (pO r) 0 0 := by
  unfold f_X8_cell_0 at h
  refine v_aload_n (dq D_X8_cell 0 rfl) 0 rfl ?_
  refine v_aload_n (dq D_X8_cell 1 rfl) 0 rfl ?_
  obtain ⟨x1, hx1, h⟩ := obi h
  refine v_gI (dq D_X8_cell 2 rfl) fa_RX8_70 hx1 ?_
  refine v_if_eq (dq D_X8_cell 3 rfl) rfl (fun c2 => ?_) (fun c2 => ?_)
  · have h := itp h c2
    exact w_X8_cell_32 h
  · have h := itn h c2
    refine v_iload_n (dq D_X8_cell 4 rfl) 1 rfl ?_
    refine v_if_lt (dq D_X8_cell 5 rfl) rfl (fun c3 => ?_) (fun c3 => ?_)
    · have h := itp h c3
      exact w_X8_cell_32 h
    · have h := itn h c3
      refine v_iload_n (dq D_X8_cell 6 rfl) 1 rfl ?_
      refine v_aload_n (dq D_X8_cell 7 rfl) 0 rfl ?_
      obtain ⟨x4, hx4, h⟩ := obi h
      refine v_gR (dq D_X8_cell 8 rfl) fa_RX8_16 hx4 ?_
      obtain ⟨x5, hx5, h⟩ := obi h
      refine v_gI (dq D_X8_cell 9 rfl) fa_RX8_99 hx5 ?_
      refine v_icmp_ge (dq D_X8_cell 10 rfl) rfl (fun c6 => ?_) (fun c6 => ?_)
      · have h := itp h c6
        exact w_X8_cell_32 h
      · have h := itn h c6
        refine v_iload_n (dq D_X8_cell 11 rfl) 2 rfl ?_
        refine v_if_lt (dq D_X8_cell 12 rfl) rfl (fun c7 => ?_) (fun c7 => ?_)
        · have h := itp h c7
          exact w_X8_cell_32 h
        · have h := itn h c7
          refine v_iload_n (dq D_X8_cell 13 rfl) 2 rfl ?_
          refine v_iconst (dq D_X8_cell 14 rfl) kc_2 ?_
          refine v_icmp_le (dq D_X8_cell 15 rfl) rfl (fun c8 => ?_) (fun c8 => ?_)
          · have h := itp h c8
            refine v_iconst (dq D_X8_cell 18 rfl) kc_0 ?_
            exact w_X8_cell_37 h
          · have h := itn h c8
            exact w_X8_cell_32 h
theorem m_X8_cell {sa : Env3} {a0 : Nat} {a1 : Int32} {a2 : Int32} {σ : St} {r : Int32 × St} (h : f_X8_cell a0 a1 a2 σ = some r) : Ex sa yX8_cell cX8_cell K_X8_cell [.ref a0, .int a1, .int a2] σ (pO r) := Ex.of (by decide) rfl (fun q => nomatch q) (Nat.le_of_ble_eq_true rfl) (w_X8_cell_0 (itg h).2)
theorem w_X8_cellsFor_44 {sa : Env3}  {σ : St} {r : Int32 × St} (h : f_X8_cellsFor_44  σ = some r) : VV sa cX8_cellsFor K_X8_cellsFor 44 [] [] σ (pO r) 0 0 := by
  unfold f_X8_cellsFor_44 at h
  refine v_iconst (dq D_X8_cellsFor 22 rfl) kc_m1 ?_
  obtain rfl := Option.some.inj h
  exact v_iret (dq D_X8_cellsFor 23 rfl) rfl ⟨rfl, rfl⟩
theorem w_X8_cellsFor_49 {sa : Env3} : ∀ (n : Nat) {a0 : Nat} {a1 : Int32} {a2 : Int32} {σ : St} {r : Int32 × St}, f_X8_cellsFor_49 n a0 a1 a2 σ = some r → VV sa cX8_cellsFor K_X8_cellsFor 49 [(0, .ref a0), (1, .int a1), (2, .int a2)] [] σ (pO r) 0 0 := by
  intro n
  induction n with
  | zero => intro a0 a1 a2 σ r h; cases h
  | succ n ih =>
    intro a0 a1 a2 σ r h
    rw [e_X8_cellsFor_49] at h
    refine v_iload_n (dq D_X8_cellsFor 26 rfl) 2 rfl ?_
    refine v_bipush (dq D_X8_cellsFor 27 rfl) kb_24 ?_
    refine v_icmp_gt (dq D_X8_cellsFor 28 rfl) rfl (fun c1 => ?_) (fun c1 => ?_)
    · have h := itp h c1
      refine v_bipush (dq D_X8_cellsFor 45 rfl) kb_m2 ?_
      obtain rfl := Option.some.inj h
      exact v_iret (dq D_X8_cellsFor 46 rfl) rfl ⟨rfl, rfl⟩
    · have h := itn h c1
      refine v_aload_n (dq D_X8_cellsFor 29 rfl) 0 rfl ?_
      obtain ⟨x2, hx2, h⟩ := obi h
      refine v_gR (dq D_X8_cellsFor 30 rfl) fa_RX8_59 hx2 ?_
      obtain ⟨x3, hx3, h⟩ := obi h
      refine v_gR (dq D_X8_cellsFor 31 rfl) fa_RX8_240 hx3 ?_
      refine v_aload_n (dq D_X8_cellsFor 32 rfl) 0 rfl ?_
      obtain ⟨x4, hx4, h⟩ := obi h
      refine v_gR (dq D_X8_cellsFor 33 rfl) fa_RX8_59 hx4 ?_
      refine v_aload_n (dq D_X8_cellsFor 34 rfl) 0 rfl ?_
      obtain ⟨x5, hx5, h⟩ := obi h
      refine v_gR (dq D_X8_cellsFor 35 rfl) fa_RX8_16 hx5 ?_
      refine v_iload_n (dq D_X8_cellsFor 36 rfl) 2 rfl ?_
      obtain ⟨q6, hq6, h⟩ := obi h
      refine v_cVi (bc := 0) (bs := 0) (As := [.ref x5, .int a2]) (dq D_X8_cellsFor 37 rfl) cv_X0_slotOf ml_RX8_243 (itg hq6).1 (m_X0_slotOf hq6) rfl rfl (Nat.le_of_ble_eq_true rfl) ⟨Nat.le_of_ble_eq_true rfl, Nat.le_of_ble_eq_true rfl⟩ ⟨Nat.le_of_ble_eq_true rfl, Nat.le_of_ble_eq_true rfl⟩ ?_
      obtain ⟨x7, hx7, h⟩ := obi h
      refine v_iald (dq D_X8_cellsFor 38 rfl) hx7 ?_
      refine v_iload_n (dq D_X8_cellsFor 39 rfl) 1 rfl ?_
      refine v_icmp_gt (dq D_X8_cellsFor 40 rfl) rfl (fun c8 => ?_) (fun c8 => ?_)
      · have h := itp h c8
        refine v_iinc (dq D_X8_cellsFor 43 rfl) 2 [(2, .int (a2 + 1)), (0, .ref a0), (1, .int a1)] rfl kc_1 (Nat.le_of_ble_eq_true rfl) rfl ?_
        refine v_goto (dq D_X8_cellsFor 44 rfl) rfl ?_
        exact v_sub [1, 2, 0] rfl (ih h)
      · have h := itn h c8
        refine v_iload_n (dq D_X8_cellsFor 41 rfl) 2 rfl ?_
        obtain rfl := Option.some.inj h
        exact v_iret (dq D_X8_cellsFor 42 rfl) rfl ⟨rfl, rfl⟩
theorem w_X8_cellsFor_37 {sa : Env3} {a0 : Nat} {a1 : Int32} {s0 : Nat} {s1 : Int32} {σ : St} {r : Int32 × St} (h : f_X8_cellsFor_37 a0 a1 s0 s1 σ = some r) : VV sa cX8_cellsFor K_X8_cellsFor 37 [(0, .ref a0), (1, .int a1)] [.int s1, .ref s0] σ (pO r) 0 0 := by
  unfold f_X8_cellsFor_37 at h
  refine v_iconst (dq D_X8_cellsFor 19 rfl) kc_2 ?_
  obtain ⟨q1, hq1, h⟩ := obi h
  refine v_cVi (bc := 0) (bs := 0) (As := [.int s1, .int 2]) (dq D_X8_cellsFor 20 rfl) cv_X8_refused ml_RX8_85 (itg hq1).1 (m_X8_refused hq1) rfl rfl (Nat.le_of_ble_eq_true rfl) ⟨Nat.le_of_ble_eq_true rfl, Nat.le_of_ble_eq_true rfl⟩ ⟨Nat.le_of_ble_eq_true rfl, Nat.le_of_ble_eq_true rfl⟩ ?_
  refine v_if_eq (dq D_X8_cellsFor 21 rfl) rfl (fun c2 => ?_) (fun c2 => ?_)
  · have h := itp h c2
    refine v_bipush (dq D_X8_cellsFor 24 rfl) kb_9 ?_
    refine v_istore_n (dq D_X8_cellsFor 25 rfl) [(2, .int 9), (0, .ref a0), (1, .int a1)] rfl (Nat.le_of_ble_eq_true rfl) rfl ?_
    exact v_sub [1, 2, 0] rfl (w_X8_cellsFor_49 _ h)
  · have h := itn h c2
    exact v_sub [] rfl (w_X8_cellsFor_44 h)
theorem w_X8_cellsFor_32 {sa : Env3} {a0 : Nat} {a1 : Int32} {s0 : Nat} {σ : St} {r : Int32 × St} (h : f_X8_cellsFor_32 a0 a1 s0 σ = some r) : VV sa cX8_cellsFor K_X8_cellsFor 32 [(0, .ref a0), (1, .int a1)] [.ref s0] σ (pO r) 0 0 := by
  unfold f_X8_cellsFor_32 at h
  refine v_iconst (dq D_X8_cellsFor 16 rfl) kc_1 ?_
  refine v_goto (dq D_X8_cellsFor 17 rfl) rfl ?_
  exact w_X8_cellsFor_37 h
theorem w_X8_cellsFor_13 {sa : Env3} {a0 : Nat} {a1 : Int32} {s0 : Nat} {s1 : Int32} {σ : St} {r : Int32 × St} (h : f_X8_cellsFor_13 a0 a1 s0 s1 σ = some r) : VV sa cX8_cellsFor K_X8_cellsFor 13 [(0, .ref a0), (1, .int a1)] [.int s1, .ref s0] σ (pO r) 0 0 := by
  unfold f_X8_cellsFor_13 at h
  refine v_iconst (dq D_X8_cellsFor 7 rfl) kc_1 ?_
  obtain ⟨q1, hq1, h⟩ := obi h
  refine v_cVi (bc := 0) (bs := 0) (As := [.int s1, .int 1]) (dq D_X8_cellsFor 8 rfl) cv_X8_refused ml_RX8_85 (itg hq1).1 (m_X8_refused hq1) rfl rfl (Nat.le_of_ble_eq_true rfl) ⟨Nat.le_of_ble_eq_true rfl, Nat.le_of_ble_eq_true rfl⟩ ⟨Nat.le_of_ble_eq_true rfl, Nat.le_of_ble_eq_true rfl⟩ ?_
  refine v_if_ne (dq D_X8_cellsFor 9 rfl) rfl (fun c2 => ?_) (fun c2 => ?_)
  · have h := itn h c2
    exact v_sub [] rfl (w_X8_cellsFor_44 h)
  · have h := itp h c2
    refine v_aload_n (dq D_X8_cellsFor 10 rfl) 0 rfl ?_
    refine v_iload_n (dq D_X8_cellsFor 11 rfl) 1 rfl ?_
    refine v_if_lt (dq D_X8_cellsFor 12 rfl) rfl (fun c3 => ?_) (fun c3 => ?_)
    · have h := itp h c3
      exact w_X8_cellsFor_32 h
    · have h := itn h c3
      refine v_iload_n (dq D_X8_cellsFor 13 rfl) 1 rfl ?_
      refine v_sipush (dq D_X8_cellsFor 14 rfl) ks_300 ?_
      refine v_icmp_le (dq D_X8_cellsFor 15 rfl) rfl (fun c4 => ?_) (fun c4 => ?_)
      · have h := itp h c4
        refine v_iconst (dq D_X8_cellsFor 18 rfl) kc_0 ?_
        exact w_X8_cellsFor_37 h
      · have h := itn h c4
        exact w_X8_cellsFor_32 h
theorem w_X8_cellsFor_0 {sa : Env3} {a0 : Nat} {a1 : Int32} {σ : St} {r : Int32 × St} (h : f_X8_cellsFor_0 a0 a1 σ = some r) : VV sa cX8_cellsFor K_X8_cellsFor 0 [(0, .ref a0), (1, .int a1)] [] σ (pO r) 0 0 := by
  unfold f_X8_cellsFor_0 at h
  refine v_aload_n (dq D_X8_cellsFor 0 rfl) 0 rfl ?_
  refine v_aload_n (dq D_X8_cellsFor 1 rfl) 0 rfl ?_
  obtain ⟨x1, hx1, h⟩ := obi h
  refine v_gI (dq D_X8_cellsFor 2 rfl) fa_RX8_70 hx1 ?_
  refine v_if_ne (dq D_X8_cellsFor 3 rfl) rfl (fun c2 => ?_) (fun c2 => ?_)
  · have h := itn h c2
    refine v_iconst (dq D_X8_cellsFor 6 rfl) kc_0 ?_
    exact w_X8_cellsFor_13 h
  · have h := itp h c2
    refine v_iconst (dq D_X8_cellsFor 4 rfl) kc_1 ?_
    refine v_goto (dq D_X8_cellsFor 5 rfl) rfl ?_
    exact w_X8_cellsFor_13 h
theorem m_X8_cellsFor {sa : Env3} {a0 : Nat} {a1 : Int32} {σ : St} {r : Int32 × St} (h : f_X8_cellsFor a0 a1 σ = some r) : Ex sa yX8_cellsFor cX8_cellsFor K_X8_cellsFor [.ref a0, .int a1] σ (pO r) := Ex.of (by decide) rfl (fun q => nomatch q) (Nat.le_of_ble_eq_true rfl) (w_X8_cellsFor_0 (itg h).2)
theorem w_X8_commit_44 {sa : Env3}  {σ : St} {r : Int32 × St} (h : f_X8_commit_44  σ = some r) : VV sa cX8_commit K_X8_commit 44 [] [] σ (pO r) 0 0 := by
  unfold f_X8_commit_44 at h
  refine v_iconst (dq D_X8_commit 21 rfl) kc_m1 ?_
  obtain rfl := Option.some.inj h
  exact v_iret (dq D_X8_commit 22 rfl) rfl ⟨rfl, rfl⟩
theorem w_X8_commit_62 {sa : Env3} {a0 : Nat} {s0 : Nat} {s1 : Int32} {σ : St} {r : Int32 × St} (h : f_X8_commit_62 a0 s0 s1 σ = some r) : VV sa cX8_commit K_X8_commit 62 [(0, .ref a0)] [.int s1, .ref s0] σ (pO r) 0 0 := by
  unfold f_X8_commit_62 at h
  refine v_iconst (dq D_X8_commit 31 rfl) kc_5 ?_
  obtain ⟨q1, hq1, h⟩ := obi h
  refine v_cVi (bc := 0) (bs := 0) (As := [.int s1, .int 5]) (dq D_X8_commit 32 rfl) cv_X8_refused ml_RX8_85 (itg hq1).1 (m_X8_refused hq1) rfl rfl (Nat.le_of_ble_eq_true rfl) ⟨Nat.le_of_ble_eq_true rfl, Nat.le_of_ble_eq_true rfl⟩ ⟨Nat.le_of_ble_eq_true rfl, Nat.le_of_ble_eq_true rfl⟩ ?_
  refine v_if_eq (dq D_X8_commit 33 rfl) rfl (fun c2 => ?_) (fun c2 => ?_)
  · have h := itp h c2
    refine v_aload_n (dq D_X8_commit 36 rfl) 0 rfl ?_
    obtain ⟨x3, hx3, h⟩ := obi h
    refine v_gR (dq D_X8_commit 37 rfl) fa_RX8_45 hx3 ?_
    refine v_aload_n (dq D_X8_commit 38 rfl) 0 rfl ?_
    obtain ⟨x4, hx4, h⟩ := obi h
    refine v_gR (dq D_X8_commit 39 rfl) fa_RX8_35 hx4 ?_
    obtain ⟨σ5, hσ5, h⟩ := obi h
    refine v_cVv (bc := 0) (bs := 0) (As := [.ref x4]) (dq D_X8_commit 40 rfl) cv_X2_keep ml_RX8_309 (itg hσ5).1 (m_X2_keep hσ5) rfl rfl (Nat.le_of_ble_eq_true rfl) ⟨Nat.le_of_ble_eq_true rfl, Nat.le_of_ble_eq_true rfl⟩ ⟨Nat.le_of_ble_eq_true rfl, Nat.le_of_ble_eq_true rfl⟩ ?_
    refine v_aload_n (dq D_X8_commit 41 rfl) 0 rfl ?_
    obtain ⟨x6, hx6, h⟩ := obi h
    refine v_gR (dq D_X8_commit 42 rfl) fa_RX8_35 hx6 ?_
    obtain ⟨q7, hq7, h⟩ := obi h
    refine v_cVi (bc := 0) (bs := 0) (As := []) (dq D_X8_commit 43 rfl) cv_X3_retire ml_RX8_303 (itg hq7).1 (m_X3_retire hq7) rfl rfl (Nat.le_of_ble_eq_true rfl) ⟨Nat.le_of_ble_eq_true rfl, Nat.le_of_ble_eq_true rfl⟩ ⟨Nat.le_of_ble_eq_true rfl, Nat.le_of_ble_eq_true rfl⟩ ?_
    obtain rfl := Option.some.inj h
    exact v_iret (dq D_X8_commit 44 rfl) rfl ⟨rfl, rfl⟩
  · have h := itn h c2
    refine v_iconst (dq D_X8_commit 34 rfl) kc_m1 ?_
    obtain rfl := Option.some.inj h
    exact v_iret (dq D_X8_commit 35 rfl) rfl ⟨rfl, rfl⟩
theorem w_X8_commit_36 {sa : Env3} {a0 : Nat} {s0 : Nat} {s1 : Int32} {σ : St} {r : Int32 × St} (h : f_X8_commit_36 a0 s0 s1 σ = some r) : VV sa cX8_commit K_X8_commit 36 [(0, .ref a0)] [.int s1, .ref s0] σ (pO r) 0 0 := by
  unfold f_X8_commit_36 at h
  refine v_bipush (dq D_X8_commit 18 rfl) kb_6 ?_
  obtain ⟨q1, hq1, h⟩ := obi h
  refine v_cVi (bc := 0) (bs := 0) (As := [.int s1, .int 6]) (dq D_X8_commit 19 rfl) cv_X8_refused ml_RX8_85 (itg hq1).1 (m_X8_refused hq1) rfl rfl (Nat.le_of_ble_eq_true rfl) ⟨Nat.le_of_ble_eq_true rfl, Nat.le_of_ble_eq_true rfl⟩ ⟨Nat.le_of_ble_eq_true rfl, Nat.le_of_ble_eq_true rfl⟩ ?_
  refine v_if_eq (dq D_X8_commit 20 rfl) rfl (fun c2 => ?_) (fun c2 => ?_)
  · have h := itp h c2
    refine v_aload_n (dq D_X8_commit 23 rfl) 0 rfl ?_
    refine v_aload_n (dq D_X8_commit 24 rfl) 0 rfl ?_
    obtain ⟨x3, hx3, h⟩ := obi h
    refine v_gR (dq D_X8_commit 25 rfl) fa_RX8_35 hx3 ?_
    obtain ⟨q4, hq4, h⟩ := obi h
    refine v_cVi (bc := 0) (bs := 0) (As := []) (dq D_X8_commit 26 rfl) cv_X3_whyNotRetire ml_RX8_223 (itg hq4).1 (m_X3_whyNotRetire hq4) rfl rfl (Nat.le_of_ble_eq_true rfl) ⟨Nat.le_of_ble_eq_true rfl, Nat.le_of_ble_eq_true rfl⟩ ⟨Nat.le_of_ble_eq_true rfl, Nat.le_of_ble_eq_true rfl⟩ ?_
    refine v_if_eq (dq D_X8_commit 27 rfl) rfl (fun c5 => ?_) (fun c5 => ?_)
    · have h := itp h c5
      refine v_iconst (dq D_X8_commit 30 rfl) kc_0 ?_
      exact w_X8_commit_62 h
    · have h := itn h c5
      refine v_iconst (dq D_X8_commit 28 rfl) kc_1 ?_
      refine v_goto (dq D_X8_commit 29 rfl) rfl ?_
      exact w_X8_commit_62 h
  · have h := itn h c2
    exact v_sub [] rfl (w_X8_commit_44 h)
theorem w_X8_commit_13 {sa : Env3} {a0 : Nat} {s0 : Nat} {s1 : Int32} {σ : St} {r : Int32 × St} (h : f_X8_commit_13 a0 s0 s1 σ = some r) : VV sa cX8_commit K_X8_commit 13 [(0, .ref a0)] [.int s1, .ref s0] σ (pO r) 0 0 := by
  unfold f_X8_commit_13 at h
  refine v_iconst (dq D_X8_commit 7 rfl) kc_1 ?_
  obtain ⟨q1, hq1, h⟩ := obi h
  refine v_cVi (bc := 0) (bs := 0) (As := [.int s1, .int 1]) (dq D_X8_commit 8 rfl) cv_X8_refused ml_RX8_85 (itg hq1).1 (m_X8_refused hq1) rfl rfl (Nat.le_of_ble_eq_true rfl) ⟨Nat.le_of_ble_eq_true rfl, Nat.le_of_ble_eq_true rfl⟩ ⟨Nat.le_of_ble_eq_true rfl, Nat.le_of_ble_eq_true rfl⟩ ?_
  refine v_if_ne (dq D_X8_commit 9 rfl) rfl (fun c2 => ?_) (fun c2 => ?_)
  · have h := itn h c2
    exact v_sub [] rfl (w_X8_commit_44 h)
  · have h := itp h c2
    refine v_aload_n (dq D_X8_commit 10 rfl) 0 rfl ?_
    refine v_aload_n (dq D_X8_commit 11 rfl) 0 rfl ?_
    obtain ⟨x3, hx3, h⟩ := obi h
    refine v_gR (dq D_X8_commit 12 rfl) fa_RX8_35 hx3 ?_
    obtain ⟨x4, hx4, h⟩ := obi h
    refine v_gI (dq D_X8_commit 13 rfl) fa_RX8_158 hx4 ?_
    refine v_if_ne (dq D_X8_commit 14 rfl) rfl (fun c5 => ?_) (fun c5 => ?_)
    · have h := itn h c5
      refine v_iconst (dq D_X8_commit 17 rfl) kc_0 ?_
      exact w_X8_commit_36 h
    · have h := itp h c5
      refine v_iconst (dq D_X8_commit 15 rfl) kc_1 ?_
      refine v_goto (dq D_X8_commit 16 rfl) rfl ?_
      exact w_X8_commit_36 h
theorem w_X8_commit_0 {sa : Env3} {a0 : Nat} {σ : St} {r : Int32 × St} (h : f_X8_commit_0 a0 σ = some r) : VV sa cX8_commit K_X8_commit 0 [(0, .ref a0)] [] σ (pO r) 0 0 := by
  unfold f_X8_commit_0 at h
  refine v_aload_n (dq D_X8_commit 0 rfl) 0 rfl ?_
  refine v_aload_n (dq D_X8_commit 1 rfl) 0 rfl ?_
  obtain ⟨x1, hx1, h⟩ := obi h
  refine v_gI (dq D_X8_commit 2 rfl) fa_RX8_70 hx1 ?_
  refine v_if_ne (dq D_X8_commit 3 rfl) rfl (fun c2 => ?_) (fun c2 => ?_)
  · have h := itn h c2
    refine v_iconst (dq D_X8_commit 6 rfl) kc_0 ?_
    exact w_X8_commit_13 h
  · have h := itp h c2
    refine v_iconst (dq D_X8_commit 4 rfl) kc_1 ?_
    refine v_goto (dq D_X8_commit 5 rfl) rfl ?_
    exact w_X8_commit_13 h
theorem m_X8_commit {sa : Env3} {a0 : Nat} {σ : St} {r : Int32 × St} (h : f_X8_commit a0 σ = some r) : Ex sa yX8_commit cX8_commit K_X8_commit [.ref a0] σ (pO r) := Ex.of (by decide) rfl (fun q => nomatch q) (Nat.le_of_ble_eq_true rfl) (w_X8_commit_0 (itg h).2)
theorem w_X8_commitable_13 {sa : Env3} {a0 : Nat} {s0 : Nat} {s1 : Int32} {σ : St} {r : Int32 × St} (h : f_X8_commitable_13 a0 s0 s1 σ = some r) : VV sa cX8_commitable K_X8_commitable 13 [(0, .ref a0)] [.int s1, .ref s0] σ (pO r) 0 0 := by
  unfold f_X8_commitable_13 at h
  refine v_iconst (dq D_X8_commitable 7 rfl) kc_1 ?_
  obtain ⟨q1, hq1, h⟩ := obi h
  refine v_cVi (bc := 0) (bs := 0) (As := [.int s1, .int 1]) (dq D_X8_commitable 8 rfl) cv_X8_refused ml_RX8_85 (itg hq1).1 (m_X8_refused hq1) rfl rfl (Nat.le_of_ble_eq_true rfl) ⟨Nat.le_of_ble_eq_true rfl, Nat.le_of_ble_eq_true rfl⟩ ⟨Nat.le_of_ble_eq_true rfl, Nat.le_of_ble_eq_true rfl⟩ ?_
  refine v_if_eq (dq D_X8_commitable 9 rfl) rfl (fun c2 => ?_) (fun c2 => ?_)
  · have h := itp h c2
    refine v_aload_n (dq D_X8_commitable 12 rfl) 0 rfl ?_
    obtain ⟨x3, hx3, h⟩ := obi h
    refine v_gR (dq D_X8_commitable 13 rfl) fa_RX8_35 hx3 ?_
    obtain ⟨q4, hq4, h⟩ := obi h
    refine v_cVi (bc := 0) (bs := 0) (As := []) (dq D_X8_commitable 14 rfl) cv_X3_whyNotRetire ml_RX8_223 (itg hq4).1 (m_X3_whyNotRetire hq4) rfl rfl (Nat.le_of_ble_eq_true rfl) ⟨Nat.le_of_ble_eq_true rfl, Nat.le_of_ble_eq_true rfl⟩ ⟨Nat.le_of_ble_eq_true rfl, Nat.le_of_ble_eq_true rfl⟩ ?_
    obtain rfl := Option.some.inj h
    exact v_iret (dq D_X8_commitable 15 rfl) rfl ⟨rfl, rfl⟩
  · have h := itn h c2
    refine v_iconst (dq D_X8_commitable 10 rfl) kc_m1 ?_
    obtain rfl := Option.some.inj h
    exact v_iret (dq D_X8_commitable 11 rfl) rfl ⟨rfl, rfl⟩
theorem w_X8_commitable_0 {sa : Env3} {a0 : Nat} {σ : St} {r : Int32 × St} (h : f_X8_commitable_0 a0 σ = some r) : VV sa cX8_commitable K_X8_commitable 0 [(0, .ref a0)] [] σ (pO r) 0 0 := by
  unfold f_X8_commitable_0 at h
  refine v_aload_n (dq D_X8_commitable 0 rfl) 0 rfl ?_
  refine v_aload_n (dq D_X8_commitable 1 rfl) 0 rfl ?_
  obtain ⟨x1, hx1, h⟩ := obi h
  refine v_gI (dq D_X8_commitable 2 rfl) fa_RX8_70 hx1 ?_
  refine v_if_ne (dq D_X8_commitable 3 rfl) rfl (fun c2 => ?_) (fun c2 => ?_)
  · have h := itn h c2
    refine v_iconst (dq D_X8_commitable 6 rfl) kc_0 ?_
    exact w_X8_commitable_13 h
  · have h := itp h c2
    refine v_iconst (dq D_X8_commitable 4 rfl) kc_1 ?_
    refine v_goto (dq D_X8_commitable 5 rfl) rfl ?_
    exact w_X8_commitable_13 h
theorem m_X8_commitable {sa : Env3} {a0 : Nat} {σ : St} {r : Int32 × St} (h : f_X8_commitable a0 σ = some r) : Ex sa yX8_commitable cX8_commitable K_X8_commitable [.ref a0] σ (pO r) := Ex.of (by decide) rfl (fun q => nomatch q) (Nat.le_of_ble_eq_true rfl) (w_X8_commitable_0 (itg h).2)
theorem w_X8_isCells_17 {sa : Env3} {s0 : Int32} {σ : St} {r : Int32 × St} (h : f_X8_isCells_17 s0 σ = some r) : VV sa cX8_isCells K_X8_isCells 17 [] [.int s0] σ (pO r) 0 0 := by
  unfold f_X8_isCells_17 at h
  have hz := (itg h).1
  have h := (itg h).2
  obtain rfl := Option.some.inj h
  exact v_zret (dq D_X8_isCells 9 rfl) rfl (z_nar hz) ⟨rfl, rfl⟩
theorem w_X8_isCells_16 {sa : Env3}  {σ : St} {r : Int32 × St} (h : f_X8_isCells_16  σ = some r) : VV sa cX8_isCells K_X8_isCells 16 [] [] σ (pO r) 0 0 := by
  unfold f_X8_isCells_16 at h
  refine v_iconst (dq D_X8_isCells 8 rfl) kc_0 ?_
  exact w_X8_isCells_17 h
theorem w_X8_isCells_0 {sa : Env3} {a0 : Int32} {σ : St} {r : Int32 × St} (h : f_X8_isCells_0 a0 σ = some r) : VV sa cX8_isCells K_X8_isCells 0 [(0, .int a0)] [] σ (pO r) 0 0 := by
  unfold f_X8_isCells_0 at h
  refine v_iload_n (dq D_X8_isCells 0 rfl) 0 rfl ?_
  refine v_bipush (dq D_X8_isCells 1 rfl) kb_9 ?_
  refine v_icmp_lt (dq D_X8_isCells 2 rfl) rfl (fun c1 => ?_) (fun c1 => ?_)
  · have h := itp h c1
    exact v_sub [] rfl (w_X8_isCells_16 h)
  · have h := itn h c1
    refine v_iload_n (dq D_X8_isCells 3 rfl) 0 rfl ?_
    refine v_bipush (dq D_X8_isCells 4 rfl) kb_24 ?_
    refine v_icmp_gt (dq D_X8_isCells 5 rfl) rfl (fun c2 => ?_) (fun c2 => ?_)
    · have h := itp h c2
      exact v_sub [] rfl (w_X8_isCells_16 h)
    · have h := itn h c2
      refine v_iconst (dq D_X8_isCells 6 rfl) kc_1 ?_
      refine v_goto (dq D_X8_isCells 7 rfl) rfl ?_
      exact v_sub [] rfl (w_X8_isCells_17 h)
theorem m_X8_isCells {sa : Env3} {a0 : Int32} {σ : St} {r : Int32 × St} (h : f_X8_isCells a0 σ = some r) : Ex sa yX8_isCells cX8_isCells K_X8_isCells [.int a0] σ (pO r) := Ex.of (by decide) rfl (fun q => nomatch q) (Nat.le_of_ble_eq_true rfl) (w_X8_isCells_0 h)
theorem w_X8_commits_40 {sa : Env3}  {σ : St} {r : Int32 × St} (h : f_X8_commits_40  σ = some r) : VV sa cX8_commits K_X8_commits 40 [] [] σ (pO r) 0 0 := by
  unfold f_X8_commits_40 at h
  refine v_iconst (dq D_X8_commits 20 rfl) kc_m1 ?_
  obtain rfl := Option.some.inj h
  exact v_iret (dq D_X8_commits 21 rfl) rfl ⟨rfl, rfl⟩
theorem w_X8_commits_33 {sa : Env3} {a0 : Nat} {a1 : Int32} {s0 : Nat} {s1 : Int32} {σ : St} {r : Int32 × St} (h : f_X8_commits_33 a0 a1 s0 s1 σ = some r) : VV sa cX8_commits K_X8_commits 33 [(0, .ref a0), (1, .int a1)] [.int s1, .ref s0] σ (pO r) 0 0 := by
  unfold f_X8_commits_33 at h
  refine v_iconst (dq D_X8_commits 17 rfl) kc_2 ?_
  obtain ⟨q1, hq1, h⟩ := obi h
  refine v_cVi (bc := 0) (bs := 0) (As := [.int s1, .int 2]) (dq D_X8_commits 18 rfl) cv_X8_refused ml_RX8_85 (itg hq1).1 (m_X8_refused hq1) rfl rfl (Nat.le_of_ble_eq_true rfl) ⟨Nat.le_of_ble_eq_true rfl, Nat.le_of_ble_eq_true rfl⟩ ⟨Nat.le_of_ble_eq_true rfl, Nat.le_of_ble_eq_true rfl⟩ ?_
  refine v_if_eq (dq D_X8_commits 19 rfl) rfl (fun c2 => ?_) (fun c2 => ?_)
  · have h := itp h c2
    refine v_aload_n (dq D_X8_commits 22 rfl) 0 rfl ?_
    obtain ⟨x3, hx3, h⟩ := obi h
    refine v_gR (dq D_X8_commits 23 rfl) fa_RX8_59 hx3 ?_
    obtain ⟨x4, hx4, h⟩ := obi h
    refine v_gR (dq D_X8_commits 24 rfl) fa_RX8_247 hx4 ?_
    refine v_aload_n (dq D_X8_commits 25 rfl) 0 rfl ?_
    obtain ⟨x5, hx5, h⟩ := obi h
    refine v_gR (dq D_X8_commits 26 rfl) fa_RX8_59 hx5 ?_
    refine v_aload_n (dq D_X8_commits 27 rfl) 0 rfl ?_
    obtain ⟨x6, hx6, h⟩ := obi h
    refine v_gR (dq D_X8_commits 28 rfl) fa_RX8_16 hx6 ?_
    refine v_iload_n (dq D_X8_commits 29 rfl) 1 rfl ?_
    obtain ⟨q7, hq7, h⟩ := obi h
    refine v_cVi (bc := 0) (bs := 0) (As := [.ref x6, .int a1]) (dq D_X8_commits 30 rfl) cv_X0_slotOf ml_RX8_243 (itg hq7).1 (m_X0_slotOf hq7) rfl rfl (Nat.le_of_ble_eq_true rfl) ⟨Nat.le_of_ble_eq_true rfl, Nat.le_of_ble_eq_true rfl⟩ ⟨Nat.le_of_ble_eq_true rfl, Nat.le_of_ble_eq_true rfl⟩ ?_
    obtain ⟨x8, hx8, h⟩ := obi h
    refine v_iald (dq D_X8_commits 31 rfl) hx8 ?_
    obtain rfl := Option.some.inj h
    exact v_iret (dq D_X8_commits 32 rfl) rfl ⟨rfl, rfl⟩
  · have h := itn h c2
    exact v_sub [] rfl (w_X8_commits_40 h)
theorem w_X8_commits_13 {sa : Env3} {a0 : Nat} {a1 : Int32} {s0 : Nat} {s1 : Int32} {σ : St} {r : Int32 × St} (h : f_X8_commits_13 a0 a1 s0 s1 σ = some r) : VV sa cX8_commits K_X8_commits 13 [(0, .ref a0), (1, .int a1)] [.int s1, .ref s0] σ (pO r) 0 0 := by
  unfold f_X8_commits_13 at h
  refine v_iconst (dq D_X8_commits 7 rfl) kc_1 ?_
  obtain ⟨q1, hq1, h⟩ := obi h
  refine v_cVi (bc := 0) (bs := 0) (As := [.int s1, .int 1]) (dq D_X8_commits 8 rfl) cv_X8_refused ml_RX8_85 (itg hq1).1 (m_X8_refused hq1) rfl rfl (Nat.le_of_ble_eq_true rfl) ⟨Nat.le_of_ble_eq_true rfl, Nat.le_of_ble_eq_true rfl⟩ ⟨Nat.le_of_ble_eq_true rfl, Nat.le_of_ble_eq_true rfl⟩ ?_
  refine v_if_ne (dq D_X8_commits 9 rfl) rfl (fun c2 => ?_) (fun c2 => ?_)
  · have h := itn h c2
    exact v_sub [] rfl (w_X8_commits_40 h)
  · have h := itp h c2
    refine v_aload_n (dq D_X8_commits 10 rfl) 0 rfl ?_
    refine v_iload_n (dq D_X8_commits 11 rfl) 1 rfl ?_
    obtain ⟨q3, hq3, h⟩ := obi h
    refine v_cSi (bc := 0) (bs := 0) (As := [.int a1]) (dq D_X8_commits 12 rfl) cs_X8_isCells ml_RX8_237 (m_X8_isCells hq3) rfl rfl (Nat.le_of_ble_eq_true rfl) ⟨Nat.le_of_ble_eq_true rfl, Nat.le_of_ble_eq_true rfl⟩ ⟨Nat.le_of_ble_eq_true rfl, Nat.le_of_ble_eq_true rfl⟩ ?_
    refine v_if_ne (dq D_X8_commits 13 rfl) rfl (fun c4 => ?_) (fun c4 => ?_)
    · have h := itn h c4
      refine v_iconst (dq D_X8_commits 16 rfl) kc_0 ?_
      exact w_X8_commits_33 h
    · have h := itp h c4
      refine v_iconst (dq D_X8_commits 14 rfl) kc_1 ?_
      refine v_goto (dq D_X8_commits 15 rfl) rfl ?_
      exact w_X8_commits_33 h
theorem w_X8_commits_0 {sa : Env3} {a0 : Nat} {a1 : Int32} {σ : St} {r : Int32 × St} (h : f_X8_commits_0 a0 a1 σ = some r) : VV sa cX8_commits K_X8_commits 0 [(0, .ref a0), (1, .int a1)] [] σ (pO r) 0 0 := by
  unfold f_X8_commits_0 at h
  refine v_aload_n (dq D_X8_commits 0 rfl) 0 rfl ?_
  refine v_aload_n (dq D_X8_commits 1 rfl) 0 rfl ?_
  obtain ⟨x1, hx1, h⟩ := obi h
  refine v_gI (dq D_X8_commits 2 rfl) fa_RX8_70 hx1 ?_
  refine v_if_ne (dq D_X8_commits 3 rfl) rfl (fun c2 => ?_) (fun c2 => ?_)
  · have h := itn h c2
    refine v_iconst (dq D_X8_commits 6 rfl) kc_0 ?_
    exact w_X8_commits_13 h
  · have h := itp h c2
    refine v_iconst (dq D_X8_commits 4 rfl) kc_1 ?_
    refine v_goto (dq D_X8_commits 5 rfl) rfl ?_
    exact w_X8_commits_13 h
theorem m_X8_commits {sa : Env3} {a0 : Nat} {a1 : Int32} {σ : St} {r : Int32 × St} (h : f_X8_commits a0 a1 σ = some r) : Ex sa yX8_commits cX8_commits K_X8_commits [.ref a0, .int a1] σ (pO r) := Ex.of (by decide) rfl (fun q => nomatch q) (Nat.le_of_ble_eq_true rfl) (w_X8_commits_0 (itg h).2)
theorem w_X8_commonDivisor_21 {sa : Env3} {k2 : Int32 → Int32 → Int32 → St → Option (Int32 × St)} (hk2 : ∀ {a0 : Int32} {a1 : Int32} {a2 : Int32} {σ : St} {r : Int32 × St}, k2 a0 a1 a2 σ = some r → VV sa cX8_commonDivisor K_X8_commonDivisor 2 [(0, .int a0), (1, .int a1), (2, .int a2)] [] σ (pO r) 0 0) {a0 : Int32} {a1 : Int32} {a2 : Int32} {σ : St} {r : Int32 × St} (h : f_X8_commonDivisor_21 k2 a0 a1 a2 σ = some r) : VV sa cX8_commonDivisor K_X8_commonDivisor 21 [(0, .int a0), (1, .int a1), (2, .int a2)] [] σ (pO r) 0 0 := by
  unfold f_X8_commonDivisor_21 at h
  refine v_iinc (dq D_X8_commonDivisor 15 rfl) 2 [(2, .int (a2 + (-1))), (0, .int a0), (1, .int a1)] rfl kc_m1 (Nat.le_of_ble_eq_true rfl) rfl ?_
  refine v_goto (dq D_X8_commonDivisor 16 rfl) rfl ?_
  exact v_sub [1, 2, 0] rfl (hk2 h)
theorem w_X8_commonDivisor_2 {sa : Env3} : ∀ (n : Nat) {a0 : Int32} {a1 : Int32} {a2 : Int32} {σ : St} {r : Int32 × St}, f_X8_commonDivisor_2 n a0 a1 a2 σ = some r → VV sa cX8_commonDivisor K_X8_commonDivisor 2 [(0, .int a0), (1, .int a1), (2, .int a2)] [] σ (pO r) 0 0 := by
  intro n
  induction n with
  | zero => intro a0 a1 a2 σ r h; cases h
  | succ n ih =>
    intro a0 a1 a2 σ r h
    rw [e_X8_commonDivisor_2] at h
    refine v_iload_n (dq D_X8_commonDivisor 2 rfl) 2 rfl ?_
    refine v_iconst (dq D_X8_commonDivisor 3 rfl) kc_1 ?_
    refine v_icmp_le (dq D_X8_commonDivisor 4 rfl) rfl (fun c1 => ?_) (fun c1 => ?_)
    · have h := itp h c1
      refine v_iconst (dq D_X8_commonDivisor 17 rfl) kc_1 ?_
      obtain rfl := Option.some.inj h
      exact v_iret (dq D_X8_commonDivisor 18 rfl) rfl ⟨rfl, rfl⟩
    · have h := itn h c1
      refine v_iload_n (dq D_X8_commonDivisor 5 rfl) 0 rfl ?_
      refine v_iload_n (dq D_X8_commonDivisor 6 rfl) 2 rfl ?_
      have c2 := (itx h).1
      have h := (itx h).2
      refine v_irem (dq D_X8_commonDivisor 7 rfl) c2 ?_
      refine v_if_ne (dq D_X8_commonDivisor 8 rfl) rfl (fun c3 => ?_) (fun c3 => ?_)
      · have h := itn h c3
        exact w_X8_commonDivisor_21 ih h
      · have h := itp h c3
        refine v_iload_n (dq D_X8_commonDivisor 9 rfl) 1 rfl ?_
        refine v_iload_n (dq D_X8_commonDivisor 10 rfl) 2 rfl ?_
        have c4 := (itx h).1
        have h := (itx h).2
        refine v_irem (dq D_X8_commonDivisor 11 rfl) c4 ?_
        refine v_if_ne (dq D_X8_commonDivisor 12 rfl) rfl (fun c5 => ?_) (fun c5 => ?_)
        · have h := itn h c5
          exact w_X8_commonDivisor_21 ih h
        · have h := itp h c5
          refine v_iload_n (dq D_X8_commonDivisor 13 rfl) 2 rfl ?_
          obtain rfl := Option.some.inj h
          exact v_iret (dq D_X8_commonDivisor 14 rfl) rfl ⟨rfl, rfl⟩
theorem w_X8_commonDivisor_0 {sa : Env3} {a0 : Int32} {a1 : Int32} {σ : St} {r : Int32 × St} (h : f_X8_commonDivisor_0 a0 a1 σ = some r) : VV sa cX8_commonDivisor K_X8_commonDivisor 0 [(0, .int a0), (1, .int a1)] [] σ (pO r) 0 0 := by
  unfold f_X8_commonDivisor_0 at h
  refine v_iload_n (dq D_X8_commonDivisor 0 rfl) 1 rfl ?_
  refine v_istore_n (dq D_X8_commonDivisor 1 rfl) [(2, .int a1), (0, .int a0), (1, .int a1)] rfl (Nat.le_of_ble_eq_true rfl) rfl ?_
  exact v_sub [1, 2, 0] rfl (w_X8_commonDivisor_2 _ h)
theorem m_X8_commonDivisor {sa : Env3} {a0 : Int32} {a1 : Int32} {σ : St} {r : Int32 × St} (h : f_X8_commonDivisor a0 a1 σ = some r) : Ex sa yX8_commonDivisor cX8_commonDivisor K_X8_commonDivisor [.int a0, .int a1] σ (pO r) := Ex.of (by decide) rfl (fun q => nomatch q) (Nat.le_of_ble_eq_true rfl) (w_X8_commonDivisor_0 h)
theorem w_X8_core_59 {sa : Env3} {a0 : Nat} {s0 : Nat} {s1 : Int32} {σ : St} {r : Int32 × St} (h : f_X8_core_59 a0 s0 s1 σ = some r) : VV sa cX8_core K_X8_core 59 [(0, .ref a0)] [.int s1, .ref s0] σ (pO r) 0 0 := by
  unfold f_X8_core_59 at h
  refine v_iconst (dq D_X8_core 33 rfl) kc_4 ?_
  obtain ⟨q1, hq1, h⟩ := obi h
  refine v_cVi (bc := 0) (bs := 0) (As := [.int s1, .int 4]) (dq D_X8_core 34 rfl) cv_X8_refused ml_RX8_85 (itg hq1).1 (m_X8_refused hq1) rfl rfl (Nat.le_of_ble_eq_true rfl) ⟨Nat.le_of_ble_eq_true rfl, Nat.le_of_ble_eq_true rfl⟩ ⟨Nat.le_of_ble_eq_true rfl, Nat.le_of_ble_eq_true rfl⟩ ?_
  refine v_if_eq (dq D_X8_core 35 rfl) rfl (fun c2 => ?_) (fun c2 => ?_)
  · have h := itp h c2
    refine v_aload_n (dq D_X8_core 38 rfl) 0 rfl ?_
    obtain ⟨σ3, hσ3, h⟩ := obi h
    refine v_cVv (bc := 0) (bs := 0) (As := []) (dq D_X8_core 39 rfl) cv_X8_beginWithDraft ml_RX8_93 (itg hσ3).1 (m_X8_beginWithDraft hσ3) rfl rfl (Nat.le_of_ble_eq_true rfl) ⟨Nat.le_of_ble_eq_true rfl, Nat.le_of_ble_eq_true rfl⟩ ⟨Nat.le_of_ble_eq_true rfl, Nat.le_of_ble_eq_true rfl⟩ ?_
    refine v_aload_n (dq D_X8_core 40 rfl) 0 rfl ?_
    obtain ⟨x4, hx4, h⟩ := obi h
    refine v_gR (dq D_X8_core 41 rfl) fa_RX8_16 hx4 ?_
    obtain ⟨x5, hx5, h⟩ := obi h
    refine v_gI (dq D_X8_core 42 rfl) fa_RX8_96 hx5 ?_
    obtain rfl := Option.some.inj h
    exact v_iret (dq D_X8_core 43 rfl) rfl ⟨rfl, rfl⟩
  · have h := itn h c2
    refine v_iconst (dq D_X8_core 36 rfl) kc_m1 ?_
    obtain rfl := Option.some.inj h
    exact v_iret (dq D_X8_core 37 rfl) rfl ⟨rfl, rfl⟩
theorem w_X8_core_18 {sa : Env3} {a0 : Nat} {a1 : Int32} {s0 : Nat} {s1 : Int32} {σ : St} {r : Int32 × St} (h : f_X8_core_18 a0 a1 s0 s1 σ = some r) : VV sa cX8_core K_X8_core 18 [(0, .ref a0), (1, .int a1)] [.int s1, .ref s0] σ (pO r) 0 0 := by
  unfold f_X8_core_18 at h
  refine v_iconst (dq D_X8_core 10 rfl) kc_2 ?_
  obtain ⟨q1, hq1, h⟩ := obi h
  refine v_cVi (bc := 0) (bs := 0) (As := [.int s1, .int 2]) (dq D_X8_core 11 rfl) cv_X8_refused ml_RX8_85 (itg hq1).1 (m_X8_refused hq1) rfl rfl (Nat.le_of_ble_eq_true rfl) ⟨Nat.le_of_ble_eq_true rfl, Nat.le_of_ble_eq_true rfl⟩ ⟨Nat.le_of_ble_eq_true rfl, Nat.le_of_ble_eq_true rfl⟩ ?_
  refine v_if_eq (dq D_X8_core 12 rfl) rfl (fun c2 => ?_) (fun c2 => ?_)
  · have h := itp h c2
    refine v_aload_n (dq D_X8_core 15 rfl) 0 rfl ?_
    obtain ⟨x3, hx3, h⟩ := obi h
    refine v_gR (dq D_X8_core 16 rfl) fa_RX8_28 hx3 ?_
    refine v_aload_n (dq D_X8_core 17 rfl) 0 rfl ?_
    obtain ⟨x4, hx4, h⟩ := obi h
    refine v_gR (dq D_X8_core 18 rfl) fa_RX8_9 hx4 ?_
    refine v_iload_n (dq D_X8_core 19 rfl) 1 rfl ?_
    refine v_aload_n (dq D_X8_core 20 rfl) 0 rfl ?_
    obtain ⟨x5, hx5, h⟩ := obi h
    refine v_gR (dq D_X8_core 21 rfl) fa_RX8_20 hx5 ?_
    obtain ⟨q6, hq6, h⟩ := obi h
    refine v_cVi (bc := 0) (bs := 0) (As := [.ref x4, .int a1, .ref x5]) (dq D_X8_core 22 rfl) cv_X6_reads ml_RX8_89 (itg hq6).1 (m_X6_reads hq6) rfl rfl (Nat.le_of_ble_eq_true rfl) ⟨Nat.le_of_ble_eq_true rfl, Nat.le_of_ble_eq_true rfl⟩ ⟨Nat.le_of_ble_eq_true rfl, Nat.le_of_ble_eq_true rfl⟩ ?_
    refine v_istore_n (dq D_X8_core 23 rfl) [(2, .int q6.1), (0, .ref a0), (1, .int a1)] rfl (Nat.le_of_ble_eq_true rfl) rfl ?_
    refine v_aload_n (dq D_X8_core 24 rfl) 1 rfl ?_
    refine v_iconst (dq D_X8_core 25 rfl) kc_0 ?_
    obtain ⟨σ7, hσ7, h⟩ := obi h
    refine v_pI (dq D_X8_core 26 rfl) fp_RX8_74 hσ7 ?_
    refine v_aload_n (dq D_X8_core 27 rfl) 1 rfl ?_
    refine v_iload_n (dq D_X8_core 28 rfl) 0 rfl ?_
    refine v_if_ne (dq D_X8_core 29 rfl) rfl (fun c8 => ?_) (fun c8 => ?_)
    · have h := itn h c8
      refine v_iconst (dq D_X8_core 32 rfl) kc_0 ?_
      exact v_sub [1] rfl (w_X8_core_59 h)
    · have h := itp h c8
      refine v_iconst (dq D_X8_core 30 rfl) kc_1 ?_
      refine v_goto (dq D_X8_core 31 rfl) rfl ?_
      exact v_sub [1] rfl (w_X8_core_59 h)
  · have h := itn h c2
    refine v_iconst (dq D_X8_core 13 rfl) kc_m1 ?_
    obtain rfl := Option.some.inj h
    exact v_iret (dq D_X8_core 14 rfl) rfl ⟨rfl, rfl⟩
theorem w_X8_core_13 {sa : Env3} {a0 : Nat} {a1 : Int32} {s0 : Nat} {σ : St} {r : Int32 × St} (h : f_X8_core_13 a0 a1 s0 σ = some r) : VV sa cX8_core K_X8_core 13 [(0, .ref a0), (1, .int a1)] [.ref s0] σ (pO r) 0 0 := by
  unfold f_X8_core_13 at h
  refine v_iconst (dq D_X8_core 7 rfl) kc_1 ?_
  refine v_goto (dq D_X8_core 8 rfl) rfl ?_
  exact w_X8_core_18 h
theorem w_X8_core_0 {sa : Env3} {a0 : Nat} {a1 : Int32} {σ : St} {r : Int32 × St} (h : f_X8_core_0 a0 a1 σ = some r) : VV sa cX8_core K_X8_core 0 [(0, .ref a0), (1, .int a1)] [] σ (pO r) 0 0 := by
  unfold f_X8_core_0 at h
  refine v_aload_n (dq D_X8_core 0 rfl) 0 rfl ?_
  refine v_iload_n (dq D_X8_core 1 rfl) 1 rfl ?_
  refine v_if_lt (dq D_X8_core 2 rfl) rfl (fun c1 => ?_) (fun c1 => ?_)
  · have h := itp h c1
    exact w_X8_core_13 h
  · have h := itn h c1
    refine v_iload_n (dq D_X8_core 3 rfl) 1 rfl ?_
    refine v_aload_n (dq D_X8_core 4 rfl) 0 rfl ?_
    obtain ⟨x2, hx2, h⟩ := obi h
    refine v_gI (dq D_X8_core 5 rfl) fa_RX8_74 hx2 ?_
    refine v_icmp_le (dq D_X8_core 6 rfl) rfl (fun c3 => ?_) (fun c3 => ?_)
    · have h := itp h c3
      refine v_iconst (dq D_X8_core 9 rfl) kc_0 ?_
      exact w_X8_core_18 h
    · have h := itn h c3
      exact w_X8_core_13 h
theorem m_X8_core {sa : Env3} {a0 : Nat} {a1 : Int32} {σ : St} {r : Int32 × St} (h : f_X8_core a0 a1 σ = some r) : Ex sa yX8_core cX8_core K_X8_core [.ref a0, .int a1] σ (pO r) := Ex.of (by decide) rfl (fun q => nomatch q) (Nat.le_of_ble_eq_true rfl) (w_X8_core_0 (itg h).2)
theorem w_X8_could_13 {sa : Env3} {a0 : Nat} {s0 : Nat} {s1 : Int32} {σ : St} {r : Int32 × St} (h : f_X8_could_13 a0 s0 s1 σ = some r) : VV sa cX8_could K_X8_could 13 [(0, .ref a0)] [.int s1, .ref s0] σ (pO r) 0 0 := by
  unfold f_X8_could_13 at h
  refine v_iconst (dq D_X8_could 7 rfl) kc_1 ?_
  obtain ⟨q1, hq1, h⟩ := obi h
  refine v_cVi (bc := 0) (bs := 0) (As := [.int s1, .int 1]) (dq D_X8_could 8 rfl) cv_X8_refused ml_RX8_85 (itg hq1).1 (m_X8_refused hq1) rfl rfl (Nat.le_of_ble_eq_true rfl) ⟨Nat.le_of_ble_eq_true rfl, Nat.le_of_ble_eq_true rfl⟩ ⟨Nat.le_of_ble_eq_true rfl, Nat.le_of_ble_eq_true rfl⟩ ?_
  refine v_if_eq (dq D_X8_could 9 rfl) rfl (fun c2 => ?_) (fun c2 => ?_)
  · have h := itp h c2
    refine v_aload_n (dq D_X8_could 12 rfl) 0 rfl ?_
    obtain ⟨x3, hx3, h⟩ := obi h
    refine v_gR (dq D_X8_could 13 rfl) fa_RX8_66 hx3 ?_
    obtain ⟨q4, hq4, h⟩ := obi h
    refine v_cVi (bc := 0) (bs := 0) (As := []) (dq D_X8_could 14 rfl) cv_X1_inSome ml_RX8_265 (itg hq4).1 (m_X1_inSome hq4) rfl rfl (Nat.le_of_ble_eq_true rfl) ⟨Nat.le_of_ble_eq_true rfl, Nat.le_of_ble_eq_true rfl⟩ ⟨Nat.le_of_ble_eq_true rfl, Nat.le_of_ble_eq_true rfl⟩ ?_
    obtain rfl := Option.some.inj h
    exact v_iret (dq D_X8_could 15 rfl) rfl ⟨rfl, rfl⟩
  · have h := itn h c2
    refine v_iconst (dq D_X8_could 10 rfl) kc_m1 ?_
    obtain rfl := Option.some.inj h
    exact v_iret (dq D_X8_could 11 rfl) rfl ⟨rfl, rfl⟩
theorem w_X8_could_0 {sa : Env3} {a0 : Nat} {σ : St} {r : Int32 × St} (h : f_X8_could_0 a0 σ = some r) : VV sa cX8_could K_X8_could 0 [(0, .ref a0)] [] σ (pO r) 0 0 := by
  unfold f_X8_could_0 at h
  refine v_aload_n (dq D_X8_could 0 rfl) 0 rfl ?_
  refine v_aload_n (dq D_X8_could 1 rfl) 0 rfl ?_
  obtain ⟨x1, hx1, h⟩ := obi h
  refine v_gI (dq D_X8_could 2 rfl) fa_RX8_70 hx1 ?_
  refine v_if_ne (dq D_X8_could 3 rfl) rfl (fun c2 => ?_) (fun c2 => ?_)
  · have h := itn h c2
    refine v_iconst (dq D_X8_could 6 rfl) kc_0 ?_
    exact w_X8_could_13 h
  · have h := itp h c2
    refine v_iconst (dq D_X8_could 4 rfl) kc_1 ?_
    refine v_goto (dq D_X8_could 5 rfl) rfl ?_
    exact w_X8_could_13 h
theorem m_X8_could {sa : Env3} {a0 : Nat} {σ : St} {r : Int32 × St} (h : f_X8_could a0 σ = some r) : Ex sa yX8_could cX8_could K_X8_could [.ref a0] σ (pO r) := Ex.of (by decide) rfl (fun q => nomatch q) (Nat.le_of_ble_eq_true rfl) (w_X8_could_0 (itg h).2)
theorem w_X8_crowd_40 {sa : Env3}  {σ : St} {r : Int32 × St} (h : f_X8_crowd_40  σ = some r) : VV sa cX8_crowd K_X8_crowd 40 [] [] σ (pO r) 0 0 := by
  unfold f_X8_crowd_40 at h
  refine v_iconst (dq D_X8_crowd 20 rfl) kc_m1 ?_
  obtain rfl := Option.some.inj h
  exact v_iret (dq D_X8_crowd 21 rfl) rfl ⟨rfl, rfl⟩
theorem w_X8_crowd_33 {sa : Env3} {a0 : Nat} {a1 : Int32} {s0 : Nat} {s1 : Int32} {σ : St} {r : Int32 × St} (h : f_X8_crowd_33 a0 a1 s0 s1 σ = some r) : VV sa cX8_crowd K_X8_crowd 33 [(0, .ref a0), (1, .int a1)] [.int s1, .ref s0] σ (pO r) 0 0 := by
  unfold f_X8_crowd_33 at h
  refine v_iconst (dq D_X8_crowd 17 rfl) kc_2 ?_
  obtain ⟨q1, hq1, h⟩ := obi h
  refine v_cVi (bc := 0) (bs := 0) (As := [.int s1, .int 2]) (dq D_X8_crowd 18 rfl) cv_X8_refused ml_RX8_85 (itg hq1).1 (m_X8_refused hq1) rfl rfl (Nat.le_of_ble_eq_true rfl) ⟨Nat.le_of_ble_eq_true rfl, Nat.le_of_ble_eq_true rfl⟩ ⟨Nat.le_of_ble_eq_true rfl, Nat.le_of_ble_eq_true rfl⟩ ?_
  refine v_if_eq (dq D_X8_crowd 19 rfl) rfl (fun c2 => ?_) (fun c2 => ?_)
  · have h := itp h c2
    refine v_aload_n (dq D_X8_crowd 22 rfl) 0 rfl ?_
    obtain ⟨x3, hx3, h⟩ := obi h
    refine v_gR (dq D_X8_crowd 23 rfl) fa_RX8_59 hx3 ?_
    obtain ⟨x4, hx4, h⟩ := obi h
    refine v_gR (dq D_X8_crowd 24 rfl) fa_RX8_251 hx4 ?_
    refine v_aload_n (dq D_X8_crowd 25 rfl) 0 rfl ?_
    obtain ⟨x5, hx5, h⟩ := obi h
    refine v_gR (dq D_X8_crowd 26 rfl) fa_RX8_59 hx5 ?_
    refine v_aload_n (dq D_X8_crowd 27 rfl) 0 rfl ?_
    obtain ⟨x6, hx6, h⟩ := obi h
    refine v_gR (dq D_X8_crowd 28 rfl) fa_RX8_16 hx6 ?_
    refine v_iload_n (dq D_X8_crowd 29 rfl) 1 rfl ?_
    obtain ⟨q7, hq7, h⟩ := obi h
    refine v_cVi (bc := 0) (bs := 0) (As := [.ref x6, .int a1]) (dq D_X8_crowd 30 rfl) cv_X0_slotOf ml_RX8_243 (itg hq7).1 (m_X0_slotOf hq7) rfl rfl (Nat.le_of_ble_eq_true rfl) ⟨Nat.le_of_ble_eq_true rfl, Nat.le_of_ble_eq_true rfl⟩ ⟨Nat.le_of_ble_eq_true rfl, Nat.le_of_ble_eq_true rfl⟩ ?_
    obtain ⟨x8, hx8, h⟩ := obi h
    refine v_iald (dq D_X8_crowd 31 rfl) hx8 ?_
    obtain rfl := Option.some.inj h
    exact v_iret (dq D_X8_crowd 32 rfl) rfl ⟨rfl, rfl⟩
  · have h := itn h c2
    exact v_sub [] rfl (w_X8_crowd_40 h)
theorem w_X8_crowd_13 {sa : Env3} {a0 : Nat} {a1 : Int32} {s0 : Nat} {s1 : Int32} {σ : St} {r : Int32 × St} (h : f_X8_crowd_13 a0 a1 s0 s1 σ = some r) : VV sa cX8_crowd K_X8_crowd 13 [(0, .ref a0), (1, .int a1)] [.int s1, .ref s0] σ (pO r) 0 0 := by
  unfold f_X8_crowd_13 at h
  refine v_iconst (dq D_X8_crowd 7 rfl) kc_1 ?_
  obtain ⟨q1, hq1, h⟩ := obi h
  refine v_cVi (bc := 0) (bs := 0) (As := [.int s1, .int 1]) (dq D_X8_crowd 8 rfl) cv_X8_refused ml_RX8_85 (itg hq1).1 (m_X8_refused hq1) rfl rfl (Nat.le_of_ble_eq_true rfl) ⟨Nat.le_of_ble_eq_true rfl, Nat.le_of_ble_eq_true rfl⟩ ⟨Nat.le_of_ble_eq_true rfl, Nat.le_of_ble_eq_true rfl⟩ ?_
  refine v_if_ne (dq D_X8_crowd 9 rfl) rfl (fun c2 => ?_) (fun c2 => ?_)
  · have h := itn h c2
    exact v_sub [] rfl (w_X8_crowd_40 h)
  · have h := itp h c2
    refine v_aload_n (dq D_X8_crowd 10 rfl) 0 rfl ?_
    refine v_iload_n (dq D_X8_crowd 11 rfl) 1 rfl ?_
    obtain ⟨q3, hq3, h⟩ := obi h
    refine v_cSi (bc := 0) (bs := 0) (As := [.int a1]) (dq D_X8_crowd 12 rfl) cs_X8_isCells ml_RX8_237 (m_X8_isCells hq3) rfl rfl (Nat.le_of_ble_eq_true rfl) ⟨Nat.le_of_ble_eq_true rfl, Nat.le_of_ble_eq_true rfl⟩ ⟨Nat.le_of_ble_eq_true rfl, Nat.le_of_ble_eq_true rfl⟩ ?_
    refine v_if_ne (dq D_X8_crowd 13 rfl) rfl (fun c4 => ?_) (fun c4 => ?_)
    · have h := itn h c4
      refine v_iconst (dq D_X8_crowd 16 rfl) kc_0 ?_
      exact w_X8_crowd_33 h
    · have h := itp h c4
      refine v_iconst (dq D_X8_crowd 14 rfl) kc_1 ?_
      refine v_goto (dq D_X8_crowd 15 rfl) rfl ?_
      exact w_X8_crowd_33 h
theorem w_X8_crowd_0 {sa : Env3} {a0 : Nat} {a1 : Int32} {σ : St} {r : Int32 × St} (h : f_X8_crowd_0 a0 a1 σ = some r) : VV sa cX8_crowd K_X8_crowd 0 [(0, .ref a0), (1, .int a1)] [] σ (pO r) 0 0 := by
  unfold f_X8_crowd_0 at h
  refine v_aload_n (dq D_X8_crowd 0 rfl) 0 rfl ?_
  refine v_aload_n (dq D_X8_crowd 1 rfl) 0 rfl ?_
  obtain ⟨x1, hx1, h⟩ := obi h
  refine v_gI (dq D_X8_crowd 2 rfl) fa_RX8_70 hx1 ?_
  refine v_if_ne (dq D_X8_crowd 3 rfl) rfl (fun c2 => ?_) (fun c2 => ?_)
  · have h := itn h c2
    refine v_iconst (dq D_X8_crowd 6 rfl) kc_0 ?_
    exact w_X8_crowd_13 h
  · have h := itp h c2
    refine v_iconst (dq D_X8_crowd 4 rfl) kc_1 ?_
    refine v_goto (dq D_X8_crowd 5 rfl) rfl ?_
    exact w_X8_crowd_13 h
theorem m_X8_crowd {sa : Env3} {a0 : Nat} {a1 : Int32} {σ : St} {r : Int32 × St} (h : f_X8_crowd a0 a1 σ = some r) : Ex sa yX8_crowd cX8_crowd K_X8_crowd [.ref a0, .int a1] σ (pO r) := Ex.of (by decide) rfl (fun q => nomatch q) (Nat.le_of_ble_eq_true rfl) (w_X8_crowd_0 (itg h).2)
theorem w_X8_cycles_40 {sa : Env3}  {σ : St} {r : Int32 × St} (h : f_X8_cycles_40  σ = some r) : VV sa cX8_cycles K_X8_cycles 40 [] [] σ (pO r) 0 0 := by
  unfold f_X8_cycles_40 at h
  refine v_iconst (dq D_X8_cycles 20 rfl) kc_m1 ?_
  obtain rfl := Option.some.inj h
  exact v_iret (dq D_X8_cycles 21 rfl) rfl ⟨rfl, rfl⟩
theorem w_X8_cycles_33 {sa : Env3} {a0 : Nat} {a1 : Int32} {s0 : Nat} {s1 : Int32} {σ : St} {r : Int32 × St} (h : f_X8_cycles_33 a0 a1 s0 s1 σ = some r) : VV sa cX8_cycles K_X8_cycles 33 [(0, .ref a0), (1, .int a1)] [.int s1, .ref s0] σ (pO r) 0 0 := by
  unfold f_X8_cycles_33 at h
  refine v_iconst (dq D_X8_cycles 17 rfl) kc_2 ?_
  obtain ⟨q1, hq1, h⟩ := obi h
  refine v_cVi (bc := 0) (bs := 0) (As := [.int s1, .int 2]) (dq D_X8_cycles 18 rfl) cv_X8_refused ml_RX8_85 (itg hq1).1 (m_X8_refused hq1) rfl rfl (Nat.le_of_ble_eq_true rfl) ⟨Nat.le_of_ble_eq_true rfl, Nat.le_of_ble_eq_true rfl⟩ ⟨Nat.le_of_ble_eq_true rfl, Nat.le_of_ble_eq_true rfl⟩ ?_
  refine v_if_eq (dq D_X8_cycles 19 rfl) rfl (fun c2 => ?_) (fun c2 => ?_)
  · have h := itp h c2
    refine v_aload_n (dq D_X8_cycles 22 rfl) 0 rfl ?_
    obtain ⟨x3, hx3, h⟩ := obi h
    refine v_gR (dq D_X8_cycles 23 rfl) fa_RX8_59 hx3 ?_
    obtain ⟨x4, hx4, h⟩ := obi h
    refine v_gR (dq D_X8_cycles 24 rfl) fa_RX8_240 hx4 ?_
    refine v_aload_n (dq D_X8_cycles 25 rfl) 0 rfl ?_
    obtain ⟨x5, hx5, h⟩ := obi h
    refine v_gR (dq D_X8_cycles 26 rfl) fa_RX8_59 hx5 ?_
    refine v_aload_n (dq D_X8_cycles 27 rfl) 0 rfl ?_
    obtain ⟨x6, hx6, h⟩ := obi h
    refine v_gR (dq D_X8_cycles 28 rfl) fa_RX8_16 hx6 ?_
    refine v_iload_n (dq D_X8_cycles 29 rfl) 1 rfl ?_
    obtain ⟨q7, hq7, h⟩ := obi h
    refine v_cVi (bc := 0) (bs := 0) (As := [.ref x6, .int a1]) (dq D_X8_cycles 30 rfl) cv_X0_slotOf ml_RX8_243 (itg hq7).1 (m_X0_slotOf hq7) rfl rfl (Nat.le_of_ble_eq_true rfl) ⟨Nat.le_of_ble_eq_true rfl, Nat.le_of_ble_eq_true rfl⟩ ⟨Nat.le_of_ble_eq_true rfl, Nat.le_of_ble_eq_true rfl⟩ ?_
    obtain ⟨x8, hx8, h⟩ := obi h
    refine v_iald (dq D_X8_cycles 31 rfl) hx8 ?_
    obtain rfl := Option.some.inj h
    exact v_iret (dq D_X8_cycles 32 rfl) rfl ⟨rfl, rfl⟩
  · have h := itn h c2
    exact v_sub [] rfl (w_X8_cycles_40 h)
theorem w_X8_cycles_13 {sa : Env3} {a0 : Nat} {a1 : Int32} {s0 : Nat} {s1 : Int32} {σ : St} {r : Int32 × St} (h : f_X8_cycles_13 a0 a1 s0 s1 σ = some r) : VV sa cX8_cycles K_X8_cycles 13 [(0, .ref a0), (1, .int a1)] [.int s1, .ref s0] σ (pO r) 0 0 := by
  unfold f_X8_cycles_13 at h
  refine v_iconst (dq D_X8_cycles 7 rfl) kc_1 ?_
  obtain ⟨q1, hq1, h⟩ := obi h
  refine v_cVi (bc := 0) (bs := 0) (As := [.int s1, .int 1]) (dq D_X8_cycles 8 rfl) cv_X8_refused ml_RX8_85 (itg hq1).1 (m_X8_refused hq1) rfl rfl (Nat.le_of_ble_eq_true rfl) ⟨Nat.le_of_ble_eq_true rfl, Nat.le_of_ble_eq_true rfl⟩ ⟨Nat.le_of_ble_eq_true rfl, Nat.le_of_ble_eq_true rfl⟩ ?_
  refine v_if_ne (dq D_X8_cycles 9 rfl) rfl (fun c2 => ?_) (fun c2 => ?_)
  · have h := itn h c2
    exact v_sub [] rfl (w_X8_cycles_40 h)
  · have h := itp h c2
    refine v_aload_n (dq D_X8_cycles 10 rfl) 0 rfl ?_
    refine v_iload_n (dq D_X8_cycles 11 rfl) 1 rfl ?_
    obtain ⟨q3, hq3, h⟩ := obi h
    refine v_cSi (bc := 0) (bs := 0) (As := [.int a1]) (dq D_X8_cycles 12 rfl) cs_X8_isCells ml_RX8_237 (m_X8_isCells hq3) rfl rfl (Nat.le_of_ble_eq_true rfl) ⟨Nat.le_of_ble_eq_true rfl, Nat.le_of_ble_eq_true rfl⟩ ⟨Nat.le_of_ble_eq_true rfl, Nat.le_of_ble_eq_true rfl⟩ ?_
    refine v_if_ne (dq D_X8_cycles 13 rfl) rfl (fun c4 => ?_) (fun c4 => ?_)
    · have h := itn h c4
      refine v_iconst (dq D_X8_cycles 16 rfl) kc_0 ?_
      exact w_X8_cycles_33 h
    · have h := itp h c4
      refine v_iconst (dq D_X8_cycles 14 rfl) kc_1 ?_
      refine v_goto (dq D_X8_cycles 15 rfl) rfl ?_
      exact w_X8_cycles_33 h
theorem w_X8_cycles_0 {sa : Env3} {a0 : Nat} {a1 : Int32} {σ : St} {r : Int32 × St} (h : f_X8_cycles_0 a0 a1 σ = some r) : VV sa cX8_cycles K_X8_cycles 0 [(0, .ref a0), (1, .int a1)] [] σ (pO r) 0 0 := by
  unfold f_X8_cycles_0 at h
  refine v_aload_n (dq D_X8_cycles 0 rfl) 0 rfl ?_
  refine v_aload_n (dq D_X8_cycles 1 rfl) 0 rfl ?_
  obtain ⟨x1, hx1, h⟩ := obi h
  refine v_gI (dq D_X8_cycles 2 rfl) fa_RX8_70 hx1 ?_
  refine v_if_ne (dq D_X8_cycles 3 rfl) rfl (fun c2 => ?_) (fun c2 => ?_)
  · have h := itn h c2
    refine v_iconst (dq D_X8_cycles 6 rfl) kc_0 ?_
    exact w_X8_cycles_13 h
  · have h := itp h c2
    refine v_iconst (dq D_X8_cycles 4 rfl) kc_1 ?_
    refine v_goto (dq D_X8_cycles 5 rfl) rfl ?_
    exact w_X8_cycles_13 h
theorem m_X8_cycles {sa : Env3} {a0 : Nat} {a1 : Int32} {σ : St} {r : Int32 × St} (h : f_X8_cycles a0 a1 σ = some r) : Ex sa yX8_cycles cX8_cycles K_X8_cycles [.ref a0, .int a1] σ (pO r) := Ex.of (by decide) rfl (fun q => nomatch q) (Nat.le_of_ble_eq_true rfl) (w_X8_cycles_0 (itg h).2)
theorem w_X8_nextSeed_0 {sa : Env3} {a0 : Int32} {σ : St} {r : Int32 × St} (h : f_X8_nextSeed_0 a0 σ = some r) : VV sa cX8_nextSeed K_X8_nextSeed 0 [(0, .int a0)] [] σ (pO r) 0 0 := by
  unfold f_X8_nextSeed_0 at h
  refine v_bipush (dq D_X8_nextSeed 0 rfl) kb_75 ?_
  refine v_iload_n (dq D_X8_nextSeed 1 rfl) 0 rfl ?_
  refine v_imul (dq D_X8_nextSeed 2 rfl) ?_
  refine v_bipush (dq D_X8_nextSeed 3 rfl) kb_74 ?_
  refine v_iadd (dq D_X8_nextSeed 4 rfl) ?_
  refine v_ldcw (dq D_X8_nextSeed 5 rfl) tw_1027 ?_
  refine v_irem (dq D_X8_nextSeed 6 rfl) (by decide) ?_
  obtain rfl := Option.some.inj h
  exact v_iret (dq D_X8_nextSeed 7 rfl) rfl ⟨rfl, rfl⟩
theorem m_X8_nextSeed {sa : Env3} {a0 : Int32} {σ : St} {r : Int32 × St} (h : f_X8_nextSeed a0 σ = some r) : Ex sa yX8_nextSeed cX8_nextSeed K_X8_nextSeed [.int a0] σ (pO r) := Ex.of (by decide) rfl (fun q => nomatch q) (Nat.le_of_ble_eq_true rfl) (w_X8_nextSeed_0 h)
