theorem w_X8_workIfPossible_20 {sa : Env3}  {σ : St} {r : St} (h : f_X8_workIfPossible_20  σ = some r) : VV sa cX8_workIfPossible K_X8_workIfPossible 20 [] [] σ (pU r) 0 0 := by
  unfold f_X8_workIfPossible_20 at h
  obtain rfl := Option.some.inj h
  exact v_vret (dq D_X8_workIfPossible 10 rfl) rfl ⟨rfl, rfl⟩
theorem w_X8_workIfPossible_0 {sa : Env3} {a0 : Nat} {a1 : Int32} {σ : St} {r : St} (h : f_X8_workIfPossible_0 a0 a1 σ = some r) : VV sa cX8_workIfPossible K_X8_workIfPossible 0 [(0, .ref a0), (1, .int a1)] [] σ (pU r) 0 0 := by
  unfold f_X8_workIfPossible_0 at h
  refine v_aload_n (dq D_X8_workIfPossible 0 rfl) 0 rfl ?_
  obtain ⟨x1, hx1, h⟩ := obi h
  refine v_gR (dq D_X8_workIfPossible 1 rfl) fa_RX8_39 hx1 ?_
  refine v_iload_n (dq D_X8_workIfPossible 2 rfl) 1 rfl ?_
  obtain ⟨q2, hq2, h⟩ := obi h
  refine v_cVi (bc := 0) (bs := 0) (As := [.int a1]) (dq D_X8_workIfPossible 3 rfl) cv_X3_canWork ml_RX8_216 (itg hq2).1 (m_X3_canWork hq2) rfl rfl (Nat.le_of_ble_eq_true rfl) ⟨Nat.le_of_ble_eq_true rfl, Nat.le_of_ble_eq_true rfl⟩ ⟨Nat.le_of_ble_eq_true rfl, Nat.le_of_ble_eq_true rfl⟩ ?_
  refine v_if_eq (dq D_X8_workIfPossible 4 rfl) rfl (fun c3 => ?_) (fun c3 => ?_)
  · have h := itp h c3
    exact v_sub [] rfl (w_X8_workIfPossible_20 h)
  · have h := itn h c3
    refine v_aload_n (dq D_X8_workIfPossible 5 rfl) 0 rfl ?_
    obtain ⟨x4, hx4, h⟩ := obi h
    refine v_gR (dq D_X8_workIfPossible 6 rfl) fa_RX8_39 hx4 ?_
    refine v_iload_n (dq D_X8_workIfPossible 7 rfl) 1 rfl ?_
    obtain ⟨q5, hq5, h⟩ := obi h
    refine v_cVi (bc := 0) (bs := 0) (As := [.int a1]) (dq D_X8_workIfPossible 8 rfl) cv_X3_work ml_RX8_306 (itg hq5).1 (m_X3_work hq5) rfl rfl (Nat.le_of_ble_eq_true rfl) ⟨Nat.le_of_ble_eq_true rfl, Nat.le_of_ble_eq_true rfl⟩ ⟨Nat.le_of_ble_eq_true rfl, Nat.le_of_ble_eq_true rfl⟩ ?_
    refine v_pop (dq D_X8_workIfPossible 9 rfl) rfl ?_
    exact v_sub [] rfl (w_X8_workIfPossible_20 h)
theorem m_X8_workIfPossible {sa : Env3} {a0 : Nat} {a1 : Int32} {σ : St} {r : St} (h : f_X8_workIfPossible a0 a1 σ = some r) : Ex sa yX8_workIfPossible cX8_workIfPossible K_X8_workIfPossible [.ref a0, .int a1] σ (pU r) := Ex.of (by decide) rfl (fun q => nomatch q) (Nat.le_of_ble_eq_true rfl) (w_X8_workIfPossible_0 (itg h).2)
theorem w_X8_drawTries_119 {sa : Env3} {k16 : Nat → Int32 → Int32 → Int32 → St → Option (St)} (hk16 : ∀ {a0 : Nat} {a2 : Int32} {a3 : Int32} {a4 : Int32} {σ : St} {r : St}, k16 a0 a2 a3 a4 σ = some r → VV sa cX8_drawTries K_X8_drawTries 16 [(0, .ref a0), (2, .int a2), (3, .int a3), (4, .int a4)] [] σ (pU r) 0 0) {a0 : Nat} {a2 : Int32} {a3 : Int32} {a4 : Int32} {σ : St} {r : St} (h : f_X8_drawTries_119 k16 a0 a2 a3 a4 σ = some r) : VV sa cX8_drawTries K_X8_drawTries 119 [(0, .ref a0), (2, .int a2), (3, .int a3), (4, .int a4)] [] σ (pU r) 0 0 := by
  unfold f_X8_drawTries_119 at h
  refine v_iinc (dq D_X8_drawTries 59 rfl) 3 [(4, .int (a4 + 1)), (0, .ref a0), (2, .int a2), (3, .int a3)] rfl kc_1 (Nat.le_of_ble_eq_true rfl) rfl ?_
  refine v_goto (dq D_X8_drawTries 60 rfl) rfl ?_
  exact v_sub [1, 2, 3, 0] rfl (hk16 h)
theorem w_X8_drawTries_95 {sa : Env3} {k16 : Nat → Int32 → Int32 → Int32 → St → Option (St)} (hk16 : ∀ {a0 : Nat} {a2 : Int32} {a3 : Int32} {a4 : Int32} {σ : St} {r : St}, k16 a0 a2 a3 a4 σ = some r → VV sa cX8_drawTries K_X8_drawTries 16 [(0, .ref a0), (2, .int a2), (3, .int a3), (4, .int a4)] [] σ (pU r) 0 0) {a0 : Nat} {a2 : Int32} {a3 : Int32} {a4 : Int32} {a5 : Int32} {σ : St} {r : St} (h : f_X8_drawTries_95 k16 a0 a2 a3 a4 a5 σ = some r) : VV sa cX8_drawTries K_X8_drawTries 95 [(0, .ref a0), (2, .int a2), (3, .int a3), (4, .int a4), (5, .int a5)] [] σ (pU r) 0 0 := by
  unfold f_X8_drawTries_95 at h
  refine v_iload (dq D_X8_drawTries 48 rfl) 4 rfl ?_
  refine v_iconst (dq D_X8_drawTries 49 rfl) kc_2 ?_
  refine v_icmp_ne (dq D_X8_drawTries 50 rfl) rfl (fun c1 => ?_) (fun c1 => ?_)
  · have h := itn h c1
    exact v_sub [0, 1, 2, 3] rfl (w_X8_drawTries_119 hk16 h)
  · have h := itp h c1
    refine v_aload_n (dq D_X8_drawTries 51 rfl) 0 rfl ?_
    obtain ⟨x2, hx2, h⟩ := obi h
    refine v_gR (dq D_X8_drawTries 52 rfl) fa_RX8_39 hx2 ?_
    obtain ⟨q3, hq3, h⟩ := obi h
    refine v_cVi (bc := 0) (bs := 0) (As := []) (dq D_X8_drawTries 53 rfl) cv_X3_whyNotRetire ml_RX8_223 (itg hq3).1 (m_X3_whyNotRetire hq3) rfl rfl (Nat.le_of_ble_eq_true rfl) ⟨Nat.le_of_ble_eq_true rfl, Nat.le_of_ble_eq_true rfl⟩ ⟨Nat.le_of_ble_eq_true rfl, Nat.le_of_ble_eq_true rfl⟩ ?_
    refine v_if_ne (dq D_X8_drawTries 54 rfl) rfl (fun c4 => ?_) (fun c4 => ?_)
    · have h := itn h c4
      exact v_sub [0, 1, 2, 3] rfl (w_X8_drawTries_119 hk16 h)
    · have h := itp h c4
      refine v_aload_n (dq D_X8_drawTries 55 rfl) 0 rfl ?_
      obtain ⟨x5, hx5, h⟩ := obi h
      refine v_gR (dq D_X8_drawTries 56 rfl) fa_RX8_39 hx5 ?_
      obtain ⟨q6, hq6, h⟩ := obi h
      refine v_cVi (bc := 0) (bs := 0) (As := []) (dq D_X8_drawTries 57 rfl) cv_X3_retire ml_RX8_303 (itg hq6).1 (m_X3_retire hq6) rfl rfl (Nat.le_of_ble_eq_true rfl) ⟨Nat.le_of_ble_eq_true rfl, Nat.le_of_ble_eq_true rfl⟩ ⟨Nat.le_of_ble_eq_true rfl, Nat.le_of_ble_eq_true rfl⟩ ?_
      refine v_pop (dq D_X8_drawTries 58 rfl) rfl ?_
      exact v_sub [0, 1, 2, 3] rfl (w_X8_drawTries_119 hk16 h)
theorem w_X8_drawTries_58 {sa : Env3} {k16 : Nat → Int32 → Int32 → Int32 → St → Option (St)} (hk16 : ∀ {a0 : Nat} {a2 : Int32} {a3 : Int32} {a4 : Int32} {σ : St} {r : St}, k16 a0 a2 a3 a4 σ = some r → VV sa cX8_drawTries K_X8_drawTries 16 [(0, .ref a0), (2, .int a2), (3, .int a3), (4, .int a4)] [] σ (pU r) 0 0) {a0 : Nat} {a2 : Int32} {a3 : Int32} {a4 : Int32} {a5 : Int32} {σ : St} {r : St} (h : f_X8_drawTries_58 k16 a0 a2 a3 a4 a5 σ = some r) : VV sa cX8_drawTries K_X8_drawTries 58 [(0, .ref a0), (2, .int a2), (3, .int a3), (4, .int a4), (5, .int a5)] [] σ (pU r) 0 0 := by
  unfold f_X8_drawTries_58 at h
  refine v_iload (dq D_X8_drawTries 30 rfl) 4 rfl ?_
  refine v_iconst (dq D_X8_drawTries 31 rfl) kc_1 ?_
  refine v_icmp_ne (dq D_X8_drawTries 32 rfl) rfl (fun c1 => ?_) (fun c1 => ?_)
  · have h := itn h c1
    exact w_X8_drawTries_95 hk16 h
  · have h := itp h c1
    refine v_aload_n (dq D_X8_drawTries 33 rfl) 0 rfl ?_
    obtain ⟨x2, hx2, h⟩ := obi h
    refine v_gR (dq D_X8_drawTries 34 rfl) fa_RX8_39 hx2 ?_
    obtain ⟨x3, hx3, h⟩ := obi h
    refine v_gI (dq D_X8_drawTries 35 rfl) fa_RX8_158 hx3 ?_
    refine v_if_le (dq D_X8_drawTries 36 rfl) rfl (fun c4 => ?_) (fun c4 => ?_)
    · have h := itp h c4
      exact w_X8_drawTries_95 hk16 h
    · have h := itn h c4
      refine v_iload_n (dq D_X8_drawTries 37 rfl) 2 rfl ?_
      obtain ⟨q5, hq5, h⟩ := obi h
      refine v_cSi (bc := 0) (bs := 0) (As := [.int a3]) (dq D_X8_drawTries 38 rfl) cs_X8_nextSeed ml_RX8_294 (m_X8_nextSeed hq5) rfl rfl (Nat.le_of_ble_eq_true rfl) ⟨Nat.le_of_ble_eq_true rfl, Nat.le_of_ble_eq_true rfl⟩ ⟨Nat.le_of_ble_eq_true rfl, Nat.le_of_ble_eq_true rfl⟩ ?_
      refine v_istore_n (dq D_X8_drawTries 39 rfl) [(3, .int q5.1), (0, .ref a0), (2, .int a2), (4, .int a4), (5, .int a5)] rfl (Nat.le_of_ble_eq_true rfl) rfl ?_
      refine v_aload_n (dq D_X8_drawTries 40 rfl) 1 rfl ?_
      refine v_iload_n (dq D_X8_drawTries 41 rfl) 0 rfl ?_
      refine v_aload_n (dq D_X8_drawTries 42 rfl) 1 rfl ?_
      obtain ⟨x6, hx6, h⟩ := obi h
      refine v_gR (dq D_X8_drawTries 43 rfl) fa_RX8_39 hx6 ?_
      obtain ⟨x7, hx7, h⟩ := obi h
      refine v_gI (dq D_X8_drawTries 44 rfl) fa_RX8_158 hx7 ?_
      have c8 := (itx h).1
      have h := (itx h).2
      refine v_irem (dq D_X8_drawTries 45 rfl) c8 ?_
      obtain ⟨σ9, hσ9, h⟩ := obi h
      refine v_cVv (bc := 0) (bs := 0) (As := [.int (jrem q5.1 x7)]) (dq D_X8_drawTries 46 rfl) cv_X8_workIfPossible ml_RX8_300 (itg hσ9).1 (m_X8_workIfPossible hσ9) rfl rfl (Nat.le_of_ble_eq_true rfl) ⟨Nat.le_of_ble_eq_true rfl, Nat.le_of_ble_eq_true rfl⟩ ⟨Nat.le_of_ble_eq_true rfl, Nat.le_of_ble_eq_true rfl⟩ ?_
      refine v_goto (dq D_X8_drawTries 47 rfl) rfl ?_
      exact v_sub [1, 2, 0, 3] rfl (w_X8_drawTries_119 hk16 h)
theorem w_X8_drawTries_16 {sa : Env3} : ∀ (n : Nat) {a0 : Nat} {a2 : Int32} {a3 : Int32} {a4 : Int32} {σ : St} {r : St}, f_X8_drawTries_16 n a0 a2 a3 a4 σ = some r → VV sa cX8_drawTries K_X8_drawTries 16 [(0, .ref a0), (2, .int a2), (3, .int a3), (4, .int a4)] [] σ (pU r) 0 0 := by
  intro n
  induction n with
  | zero => intro a0 a2 a3 a4 σ r h; cases h
  | succ n ih =>
    intro a0 a2 a3 a4 σ r h
    rw [e_X8_drawTries_16] at h
    refine v_iload (dq D_X8_drawTries 9 rfl) 3 rfl ?_
    refine v_iload_n (dq D_X8_drawTries 10 rfl) 1 rfl ?_
    refine v_icmp_ge (dq D_X8_drawTries 11 rfl) rfl (fun c1 => ?_) (fun c1 => ?_)
    · have h := itp h c1
      obtain rfl := Option.some.inj h
      exact v_vret (dq D_X8_drawTries 61 rfl) rfl ⟨rfl, rfl⟩
    · have h := itn h c1
      refine v_iload_n (dq D_X8_drawTries 12 rfl) 2 rfl ?_
      obtain ⟨q2, hq2, h⟩ := obi h
      refine v_cSi (bc := 0) (bs := 0) (As := [.int a3]) (dq D_X8_drawTries 13 rfl) cs_X8_nextSeed ml_RX8_294 (m_X8_nextSeed hq2) rfl rfl (Nat.le_of_ble_eq_true rfl) ⟨Nat.le_of_ble_eq_true rfl, Nat.le_of_ble_eq_true rfl⟩ ⟨Nat.le_of_ble_eq_true rfl, Nat.le_of_ble_eq_true rfl⟩ ?_
      refine v_istore_n (dq D_X8_drawTries 14 rfl) [(3, .int q2.1), (0, .ref a0), (2, .int a2), (4, .int a4)] rfl (Nat.le_of_ble_eq_true rfl) rfl ?_
      refine v_iload_n (dq D_X8_drawTries 15 rfl) 0 rfl ?_
      refine v_iconst (dq D_X8_drawTries 16 rfl) kc_3 ?_
      refine v_irem (dq D_X8_drawTries 17 rfl) (by decide) ?_
      obtain ⟨x3, ex3, h⟩ := bnd_inv h
      refine v_top (congrArg Value.int ex3) ?_
      refine v_istore (dq D_X8_drawTries 18 rfl) [(5, .int x3), (3, .int q2.1), (0, .ref a0), (2, .int a2), (4, .int a4)] (Nat.le_of_ble_eq_true rfl) rfl ?_
      refine v_iload (dq D_X8_drawTries 19 rfl) 0 rfl ?_
      refine v_if_ne (dq D_X8_drawTries 20 rfl) rfl (fun c4 => ?_) (fun c4 => ?_)
      · have h := itn h c4
        exact v_sub [2, 3, 1, 4, 0] rfl (w_X8_drawTries_58 ih h)
      · have h := itp h c4
        refine v_aload_n (dq D_X8_drawTries 21 rfl) 2 rfl ?_
        obtain ⟨x5, hx5, h⟩ := obi h
        refine v_gR (dq D_X8_drawTries 22 rfl) fa_RX8_39 hx5 ?_
        obtain ⟨q6, hq6, h⟩ := obi h
        refine v_cVi (bc := 0) (bs := 0) (As := []) (dq D_X8_drawTries 23 rfl) cv_X3_whyNotTake ml_RX8_220 (itg hq6).1 (m_X3_whyNotTake hq6) rfl rfl (Nat.le_of_ble_eq_true rfl) ⟨Nat.le_of_ble_eq_true rfl, Nat.le_of_ble_eq_true rfl⟩ ⟨Nat.le_of_ble_eq_true rfl, Nat.le_of_ble_eq_true rfl⟩ ?_
        refine v_if_ne (dq D_X8_drawTries 24 rfl) rfl (fun c7 => ?_) (fun c7 => ?_)
        · have h := itn h c7
          exact v_sub [2, 3, 1, 4, 0] rfl (w_X8_drawTries_58 ih h)
        · have h := itp h c7
          refine v_aload_n (dq D_X8_drawTries 25 rfl) 2 rfl ?_
          obtain ⟨x8, hx8, h⟩ := obi h
          refine v_gR (dq D_X8_drawTries 26 rfl) fa_RX8_39 hx8 ?_
          obtain ⟨q9, hq9, h⟩ := obi h
          refine v_cVi (bc := 0) (bs := 0) (As := []) (dq D_X8_drawTries 27 rfl) cv_X3_take ml_RX8_297 (itg hq9).1 (m_X3_take hq9) rfl rfl (Nat.le_of_ble_eq_true rfl) ⟨Nat.le_of_ble_eq_true rfl, Nat.le_of_ble_eq_true rfl⟩ ⟨Nat.le_of_ble_eq_true rfl, Nat.le_of_ble_eq_true rfl⟩ ?_
          refine v_pop (dq D_X8_drawTries 28 rfl) rfl ?_
          refine v_goto (dq D_X8_drawTries 29 rfl) rfl ?_
          exact v_sub [2, 3, 1, 4] rfl (w_X8_drawTries_119 ih h)
theorem w_X8_drawTries_0 {sa : Env3} {a0 : Nat} {a1 : Int32} {a2 : Int32} {σ : St} {r : St} (h : f_X8_drawTries_0 a0 a1 a2 σ = some r) : VV sa cX8_drawTries K_X8_drawTries 0 [(0, .ref a0), (1, .int a1), (2, .int a2)] [] σ (pU r) 0 0 := by
  unfold f_X8_drawTries_0 at h
  refine v_aload_n (dq D_X8_drawTries 0 rfl) 0 rfl ?_
  obtain ⟨x1, hx1, h⟩ := obi h
  refine v_gR (dq D_X8_drawTries 1 rfl) fa_RX8_39 hx1 ?_
  refine v_aload_n (dq D_X8_drawTries 2 rfl) 0 rfl ?_
  obtain ⟨x2, hx2, h⟩ := obi h
  refine v_gR (dq D_X8_drawTries 3 rfl) fa_RX8_35 hx2 ?_
  obtain ⟨σ3, hσ3, h⟩ := obi h
  refine v_cVv (bc := 0) (bs := 0) (As := [.ref x2]) (dq D_X8_drawTries 4 rfl) cv_X3_copyFrom ml_RX8_290 (itg hσ3).1 (m_X3_copyFrom hσ3) rfl rfl (Nat.le_of_ble_eq_true rfl) ⟨Nat.le_of_ble_eq_true rfl, Nat.le_of_ble_eq_true rfl⟩ ⟨Nat.le_of_ble_eq_true rfl, Nat.le_of_ble_eq_true rfl⟩ ?_
  refine v_iload_n (dq D_X8_drawTries 5 rfl) 1 rfl ?_
  refine v_istore_n (dq D_X8_drawTries 6 rfl) [(3, .int a1), (0, .ref a0), (1, .int a1), (2, .int a2)] rfl (Nat.le_of_ble_eq_true rfl) rfl ?_
  refine v_iconst (dq D_X8_drawTries 7 rfl) kc_0 ?_
  refine v_istore (dq D_X8_drawTries 8 rfl) [(4, .int 0), (3, .int a1), (0, .ref a0), (1, .int a1), (2, .int a2)] (Nat.le_of_ble_eq_true rfl) rfl ?_
  exact v_sub [2, 4, 1, 0] rfl (w_X8_drawTries_16 _ h)
theorem m_X8_drawTries {sa : Env3} {a0 : Nat} {a1 : Int32} {a2 : Int32} {σ : St} {r : St} (h : f_X8_drawTries a0 a1 a2 σ = some r) : Ex sa yX8_drawTries cX8_drawTries K_X8_drawTries [.ref a0, .int a1, .int a2] σ (pU r) := Ex.of (by decide) rfl (fun q => nomatch q) (Nat.le_of_ble_eq_true rfl) (w_X8_drawTries_0 (itg h).2)
theorem w_X8_isDraw_27 {sa : Env3} {s0 : Int32} {σ : St} {r : Int32 × St} (h : f_X8_isDraw_27 s0 σ = some r) : VV sa cX8_isDraw K_X8_isDraw 27 [] [.int s0] σ (pO r) 0 0 := by
  unfold f_X8_isDraw_27 at h
  have hz := (itg h).1
  have h := (itg h).2
  obtain rfl := Option.some.inj h
  exact v_zret (dq D_X8_isDraw 13 rfl) rfl (z_nar hz) ⟨rfl, rfl⟩
theorem w_X8_isDraw_26 {sa : Env3}  {σ : St} {r : Int32 × St} (h : f_X8_isDraw_26  σ = some r) : VV sa cX8_isDraw K_X8_isDraw 26 [] [] σ (pO r) 0 0 := by
  unfold f_X8_isDraw_26 at h
  refine v_iconst (dq D_X8_isDraw 12 rfl) kc_0 ?_
  exact w_X8_isDraw_27 h
theorem w_X8_isDraw_0 {sa : Env3} {a0 : Int32} {a1 : Int32} {σ : St} {r : Int32 × St} (h : f_X8_isDraw_0 a0 a1 σ = some r) : VV sa cX8_isDraw K_X8_isDraw 0 [(0, .int a0), (1, .int a1)] [] σ (pO r) 0 0 := by
  unfold f_X8_isDraw_0 at h
  refine v_iload_n (dq D_X8_isDraw 0 rfl) 0 rfl ?_
  refine v_if_lt (dq D_X8_isDraw 1 rfl) rfl (fun c1 => ?_) (fun c1 => ?_)
  · have h := itp h c1
    exact v_sub [] rfl (w_X8_isDraw_26 h)
  · have h := itn h c1
    refine v_iload_n (dq D_X8_isDraw 2 rfl) 0 rfl ?_
    refine v_ldcw (dq D_X8_isDraw 3 rfl) tw_1027 ?_
    refine v_icmp_ge (dq D_X8_isDraw 4 rfl) rfl (fun c2 => ?_) (fun c2 => ?_)
    · have h := itp h c2
      exact v_sub [] rfl (w_X8_isDraw_26 h)
    · have h := itn h c2
      refine v_iload_n (dq D_X8_isDraw 5 rfl) 1 rfl ?_
      refine v_if_lt (dq D_X8_isDraw 6 rfl) rfl (fun c3 => ?_) (fun c3 => ?_)
      · have h := itp h c3
        exact v_sub [] rfl (w_X8_isDraw_26 h)
      · have h := itn h c3
        refine v_iload_n (dq D_X8_isDraw 7 rfl) 1 rfl ?_
        refine v_sipush (dq D_X8_isDraw 8 rfl) ks_300 ?_
        refine v_icmp_gt (dq D_X8_isDraw 9 rfl) rfl (fun c4 => ?_) (fun c4 => ?_)
        · have h := itp h c4
          exact v_sub [] rfl (w_X8_isDraw_26 h)
        · have h := itn h c4
          refine v_iconst (dq D_X8_isDraw 10 rfl) kc_1 ?_
          refine v_goto (dq D_X8_isDraw 11 rfl) rfl ?_
          exact v_sub [] rfl (w_X8_isDraw_27 h)
theorem m_X8_isDraw {sa : Env3} {a0 : Int32} {a1 : Int32} {σ : St} {r : Int32 × St} (h : f_X8_isDraw a0 a1 σ = some r) : Ex sa yX8_isDraw cX8_isDraw K_X8_isDraw [.int a0, .int a1] σ (pO r) := Ex.of (by decide) rfl (fun q => nomatch q) (Nat.le_of_ble_eq_true rfl) (w_X8_isDraw_0 h)
theorem w_X8_drawnCommits_41 {sa : Env3}  {σ : St} {r : Int32 × St} (h : f_X8_drawnCommits_41  σ = some r) : VV sa cX8_drawnCommits K_X8_drawnCommits 41 [] [] σ (pO r) 0 0 := by
  unfold f_X8_drawnCommits_41 at h
  refine v_iconst (dq D_X8_drawnCommits 21 rfl) kc_m1 ?_
  obtain rfl := Option.some.inj h
  exact v_iret (dq D_X8_drawnCommits 22 rfl) rfl ⟨rfl, rfl⟩
theorem w_X8_drawnCommits_34 {sa : Env3} {a0 : Nat} {a1 : Int32} {a2 : Int32} {s0 : Nat} {s1 : Int32} {σ : St} {r : Int32 × St} (h : f_X8_drawnCommits_34 a0 a1 a2 s0 s1 σ = some r) : VV sa cX8_drawnCommits K_X8_drawnCommits 34 [(0, .ref a0), (1, .int a1), (2, .int a2)] [.int s1, .ref s0] σ (pO r) 0 0 := by
  unfold f_X8_drawnCommits_34 at h
  refine v_iconst (dq D_X8_drawnCommits 18 rfl) kc_2 ?_
  obtain ⟨q1, hq1, h⟩ := obi h
  refine v_cVi (bc := 0) (bs := 0) (As := [.int s1, .int 2]) (dq D_X8_drawnCommits 19 rfl) cv_X8_refused ml_RX8_85 (itg hq1).1 (m_X8_refused hq1) rfl rfl (Nat.le_of_ble_eq_true rfl) ⟨Nat.le_of_ble_eq_true rfl, Nat.le_of_ble_eq_true rfl⟩ ⟨Nat.le_of_ble_eq_true rfl, Nat.le_of_ble_eq_true rfl⟩ ?_
  refine v_if_eq (dq D_X8_drawnCommits 20 rfl) rfl (fun c2 => ?_) (fun c2 => ?_)
  · have h := itp h c2
    refine v_aload_n (dq D_X8_drawnCommits 23 rfl) 0 rfl ?_
    refine v_iload_n (dq D_X8_drawnCommits 24 rfl) 1 rfl ?_
    refine v_iload_n (dq D_X8_drawnCommits 25 rfl) 2 rfl ?_
    obtain ⟨σ3, hσ3, h⟩ := obi h
    refine v_cVv (bc := 0) (bs := 0) (As := [.int a1, .int a2]) (dq D_X8_drawnCommits 26 rfl) cv_X8_drawTries ml_RX8_285 (itg hσ3).1 (m_X8_drawTries hσ3) rfl rfl (Nat.le_of_ble_eq_true rfl) ⟨Nat.le_of_ble_eq_true rfl, Nat.le_of_ble_eq_true rfl⟩ ⟨Nat.le_of_ble_eq_true rfl, Nat.le_of_ble_eq_true rfl⟩ ?_
    refine v_aload_n (dq D_X8_drawnCommits 27 rfl) 0 rfl ?_
    obtain ⟨x4, hx4, h⟩ := obi h
    refine v_gR (dq D_X8_drawnCommits 28 rfl) fa_RX8_39 hx4 ?_
    obtain ⟨x5, hx5, h⟩ := obi h
    refine v_gI (dq D_X8_drawnCommits 29 rfl) fa_RX8_234 hx5 ?_
    refine v_aload_n (dq D_X8_drawnCommits 30 rfl) 0 rfl ?_
    obtain ⟨x6, hx6, h⟩ := obi h
    refine v_gR (dq D_X8_drawnCommits 31 rfl) fa_RX8_35 hx6 ?_
    obtain ⟨x7, hx7, h⟩ := obi h
    refine v_gI (dq D_X8_drawnCommits 32 rfl) fa_RX8_234 hx7 ?_
    refine v_isub (dq D_X8_drawnCommits 33 rfl) ?_
    obtain rfl := Option.some.inj h
    exact v_iret (dq D_X8_drawnCommits 34 rfl) rfl ⟨rfl, rfl⟩
  · have h := itn h c2
    exact v_sub [] rfl (w_X8_drawnCommits_41 h)
theorem w_X8_drawnCommits_13 {sa : Env3} {a0 : Nat} {a1 : Int32} {a2 : Int32} {s0 : Nat} {s1 : Int32} {σ : St} {r : Int32 × St} (h : f_X8_drawnCommits_13 a0 a1 a2 s0 s1 σ = some r) : VV sa cX8_drawnCommits K_X8_drawnCommits 13 [(0, .ref a0), (1, .int a1), (2, .int a2)] [.int s1, .ref s0] σ (pO r) 0 0 := by
  unfold f_X8_drawnCommits_13 at h
  refine v_iconst (dq D_X8_drawnCommits 7 rfl) kc_1 ?_
  obtain ⟨q1, hq1, h⟩ := obi h
  refine v_cVi (bc := 0) (bs := 0) (As := [.int s1, .int 1]) (dq D_X8_drawnCommits 8 rfl) cv_X8_refused ml_RX8_85 (itg hq1).1 (m_X8_refused hq1) rfl rfl (Nat.le_of_ble_eq_true rfl) ⟨Nat.le_of_ble_eq_true rfl, Nat.le_of_ble_eq_true rfl⟩ ⟨Nat.le_of_ble_eq_true rfl, Nat.le_of_ble_eq_true rfl⟩ ?_
  refine v_if_ne (dq D_X8_drawnCommits 9 rfl) rfl (fun c2 => ?_) (fun c2 => ?_)
  · have h := itn h c2
    exact v_sub [] rfl (w_X8_drawnCommits_41 h)
  · have h := itp h c2
    refine v_aload_n (dq D_X8_drawnCommits 10 rfl) 0 rfl ?_
    refine v_iload_n (dq D_X8_drawnCommits 11 rfl) 1 rfl ?_
    refine v_iload_n (dq D_X8_drawnCommits 12 rfl) 2 rfl ?_
    obtain ⟨q3, hq3, h⟩ := obi h
    refine v_cSi (bc := 0) (bs := 0) (As := [.int a1, .int a2]) (dq D_X8_drawnCommits 13 rfl) cs_X8_isDraw ml_RX8_281 (m_X8_isDraw hq3) rfl rfl (Nat.le_of_ble_eq_true rfl) ⟨Nat.le_of_ble_eq_true rfl, Nat.le_of_ble_eq_true rfl⟩ ⟨Nat.le_of_ble_eq_true rfl, Nat.le_of_ble_eq_true rfl⟩ ?_
    refine v_if_ne (dq D_X8_drawnCommits 14 rfl) rfl (fun c4 => ?_) (fun c4 => ?_)
    · have h := itn h c4
      refine v_iconst (dq D_X8_drawnCommits 17 rfl) kc_0 ?_
      exact w_X8_drawnCommits_34 h
    · have h := itp h c4
      refine v_iconst (dq D_X8_drawnCommits 15 rfl) kc_1 ?_
      refine v_goto (dq D_X8_drawnCommits 16 rfl) rfl ?_
      exact w_X8_drawnCommits_34 h
theorem w_X8_drawnCommits_0 {sa : Env3} {a0 : Nat} {a1 : Int32} {a2 : Int32} {σ : St} {r : Int32 × St} (h : f_X8_drawnCommits_0 a0 a1 a2 σ = some r) : VV sa cX8_drawnCommits K_X8_drawnCommits 0 [(0, .ref a0), (1, .int a1), (2, .int a2)] [] σ (pO r) 0 0 := by
  unfold f_X8_drawnCommits_0 at h
  refine v_aload_n (dq D_X8_drawnCommits 0 rfl) 0 rfl ?_
  refine v_aload_n (dq D_X8_drawnCommits 1 rfl) 0 rfl ?_
  obtain ⟨x1, hx1, h⟩ := obi h
  refine v_gI (dq D_X8_drawnCommits 2 rfl) fa_RX8_70 hx1 ?_
  refine v_if_ne (dq D_X8_drawnCommits 3 rfl) rfl (fun c2 => ?_) (fun c2 => ?_)
  · have h := itn h c2
    refine v_iconst (dq D_X8_drawnCommits 6 rfl) kc_0 ?_
    exact w_X8_drawnCommits_13 h
  · have h := itp h c2
    refine v_iconst (dq D_X8_drawnCommits 4 rfl) kc_1 ?_
    refine v_goto (dq D_X8_drawnCommits 5 rfl) rfl ?_
    exact w_X8_drawnCommits_13 h
theorem m_X8_drawnCommits {sa : Env3} {a0 : Nat} {a1 : Int32} {a2 : Int32} {σ : St} {r : Int32 × St} (h : f_X8_drawnCommits a0 a1 a2 σ = some r) : Ex sa yX8_drawnCommits cX8_drawnCommits K_X8_drawnCommits [.ref a0, .int a1, .int a2] σ (pO r) := Ex.of (by decide) rfl (fun q => nomatch q) (Nat.le_of_ble_eq_true rfl) (w_X8_drawnCommits_0 (itg h).2)
theorem w_X8_drawnValue_48 {sa : Env3}  {σ : St} {r : Int32 × St} (h : f_X8_drawnValue_48  σ = some r) : VV sa cX8_drawnValue K_X8_drawnValue 48 [] [] σ (pO r) 0 0 := by
  unfold f_X8_drawnValue_48 at h
  refine v_iconst (dq D_X8_drawnValue 24 rfl) kc_m1 ?_
  obtain rfl := Option.some.inj h
  exact v_iret (dq D_X8_drawnValue 25 rfl) rfl ⟨rfl, rfl⟩
theorem w_X8_drawnValue_41 {sa : Env3} {a0 : Nat} {a1 : Int32} {a2 : Int32} {a3 : Int32} {s0 : Nat} {s1 : Int32} {σ : St} {r : Int32 × St} (h : f_X8_drawnValue_41 a0 a1 a2 a3 s0 s1 σ = some r) : VV sa cX8_drawnValue K_X8_drawnValue 41 [(0, .ref a0), (1, .int a1), (2, .int a2), (3, .int a3)] [.int s1, .ref s0] σ (pO r) 0 0 := by
  unfold f_X8_drawnValue_41 at h
  refine v_iconst (dq D_X8_drawnValue 21 rfl) kc_2 ?_
  obtain ⟨q1, hq1, h⟩ := obi h
  refine v_cVi (bc := 0) (bs := 0) (As := [.int s1, .int 2]) (dq D_X8_drawnValue 22 rfl) cv_X8_refused ml_RX8_85 (itg hq1).1 (m_X8_refused hq1) rfl rfl (Nat.le_of_ble_eq_true rfl) ⟨Nat.le_of_ble_eq_true rfl, Nat.le_of_ble_eq_true rfl⟩ ⟨Nat.le_of_ble_eq_true rfl, Nat.le_of_ble_eq_true rfl⟩ ?_
  refine v_if_eq (dq D_X8_drawnValue 23 rfl) rfl (fun c2 => ?_) (fun c2 => ?_)
  · have h := itp h c2
    refine v_aload_n (dq D_X8_drawnValue 26 rfl) 0 rfl ?_
    refine v_iload_n (dq D_X8_drawnValue 27 rfl) 2 rfl ?_
    refine v_iload_n (dq D_X8_drawnValue 28 rfl) 3 rfl ?_
    obtain ⟨σ3, hσ3, h⟩ := obi h
    refine v_cVv (bc := 0) (bs := 0) (As := [.int a2, .int a3]) (dq D_X8_drawnValue 29 rfl) cv_X8_drawTries ml_RX8_285 (itg hσ3).1 (m_X8_drawTries hσ3) rfl rfl (Nat.le_of_ble_eq_true rfl) ⟨Nat.le_of_ble_eq_true rfl, Nat.le_of_ble_eq_true rfl⟩ ⟨Nat.le_of_ble_eq_true rfl, Nat.le_of_ble_eq_true rfl⟩ ?_
    refine v_aload_n (dq D_X8_drawnValue 30 rfl) 0 rfl ?_
    obtain ⟨x4, hx4, h⟩ := obi h
    refine v_gR (dq D_X8_drawnValue 31 rfl) fa_RX8_39 hx4 ?_
    refine v_iload_n (dq D_X8_drawnValue 32 rfl) 1 rfl ?_
    obtain ⟨q5, hq5, h⟩ := obi h
    refine v_cVi (bc := 0) (bs := 0) (As := [.int a1]) (dq D_X8_drawnValue 33 rfl) cv_X3_keptValue ml_RX8_151 (itg hq5).1 (m_X3_keptValue hq5) rfl rfl (Nat.le_of_ble_eq_true rfl) ⟨Nat.le_of_ble_eq_true rfl, Nat.le_of_ble_eq_true rfl⟩ ⟨Nat.le_of_ble_eq_true rfl, Nat.le_of_ble_eq_true rfl⟩ ?_
    obtain rfl := Option.some.inj h
    exact v_iret (dq D_X8_drawnValue 34 rfl) rfl ⟨rfl, rfl⟩
  · have h := itn h c2
    exact v_sub [] rfl (w_X8_drawnValue_48 h)
theorem w_X8_drawnValue_20 {sa : Env3} {a0 : Nat} {a1 : Int32} {a2 : Int32} {a3 : Int32} {s0 : Nat} {s1 : Int32} {σ : St} {r : Int32 × St} (h : f_X8_drawnValue_20 a0 a1 a2 a3 s0 s1 σ = some r) : VV sa cX8_drawnValue K_X8_drawnValue 20 [(0, .ref a0), (1, .int a1), (2, .int a2), (3, .int a3)] [.int s1, .ref s0] σ (pO r) 0 0 := by
  unfold f_X8_drawnValue_20 at h
  refine v_iconst (dq D_X8_drawnValue 10 rfl) kc_1 ?_
  obtain ⟨q1, hq1, h⟩ := obi h
  refine v_cVi (bc := 0) (bs := 0) (As := [.int s1, .int 1]) (dq D_X8_drawnValue 11 rfl) cv_X8_refused ml_RX8_85 (itg hq1).1 (m_X8_refused hq1) rfl rfl (Nat.le_of_ble_eq_true rfl) ⟨Nat.le_of_ble_eq_true rfl, Nat.le_of_ble_eq_true rfl⟩ ⟨Nat.le_of_ble_eq_true rfl, Nat.le_of_ble_eq_true rfl⟩ ?_
  refine v_if_ne (dq D_X8_drawnValue 12 rfl) rfl (fun c2 => ?_) (fun c2 => ?_)
  · have h := itn h c2
    exact v_sub [] rfl (w_X8_drawnValue_48 h)
  · have h := itp h c2
    refine v_aload_n (dq D_X8_drawnValue 13 rfl) 0 rfl ?_
    refine v_iload_n (dq D_X8_drawnValue 14 rfl) 2 rfl ?_
    refine v_iload_n (dq D_X8_drawnValue 15 rfl) 3 rfl ?_
    obtain ⟨q3, hq3, h⟩ := obi h
    refine v_cSi (bc := 0) (bs := 0) (As := [.int a2, .int a3]) (dq D_X8_drawnValue 16 rfl) cs_X8_isDraw ml_RX8_281 (m_X8_isDraw hq3) rfl rfl (Nat.le_of_ble_eq_true rfl) ⟨Nat.le_of_ble_eq_true rfl, Nat.le_of_ble_eq_true rfl⟩ ⟨Nat.le_of_ble_eq_true rfl, Nat.le_of_ble_eq_true rfl⟩ ?_
    refine v_if_ne (dq D_X8_drawnValue 17 rfl) rfl (fun c4 => ?_) (fun c4 => ?_)
    · have h := itn h c4
      refine v_iconst (dq D_X8_drawnValue 20 rfl) kc_0 ?_
      exact w_X8_drawnValue_41 h
    · have h := itp h c4
      refine v_iconst (dq D_X8_drawnValue 18 rfl) kc_1 ?_
      refine v_goto (dq D_X8_drawnValue 19 rfl) rfl ?_
      exact w_X8_drawnValue_41 h
theorem w_X8_drawnValue_15 {sa : Env3} {a0 : Nat} {a1 : Int32} {a2 : Int32} {a3 : Int32} {s0 : Nat} {σ : St} {r : Int32 × St} (h : f_X8_drawnValue_15 a0 a1 a2 a3 s0 σ = some r) : VV sa cX8_drawnValue K_X8_drawnValue 15 [(0, .ref a0), (1, .int a1), (2, .int a2), (3, .int a3)] [.ref s0] σ (pO r) 0 0 := by
  unfold f_X8_drawnValue_15 at h
  refine v_iconst (dq D_X8_drawnValue 7 rfl) kc_1 ?_
  refine v_goto (dq D_X8_drawnValue 8 rfl) rfl ?_
  exact w_X8_drawnValue_20 h
theorem w_X8_drawnValue_0 {sa : Env3} {a0 : Nat} {a1 : Int32} {a2 : Int32} {a3 : Int32} {σ : St} {r : Int32 × St} (h : f_X8_drawnValue_0 a0 a1 a2 a3 σ = some r) : VV sa cX8_drawnValue K_X8_drawnValue 0 [(0, .ref a0), (1, .int a1), (2, .int a2), (3, .int a3)] [] σ (pO r) 0 0 := by
  unfold f_X8_drawnValue_0 at h
  refine v_aload_n (dq D_X8_drawnValue 0 rfl) 0 rfl ?_
  refine v_aload_n (dq D_X8_drawnValue 1 rfl) 0 rfl ?_
  obtain ⟨x1, hx1, h⟩ := obi h
  refine v_gI (dq D_X8_drawnValue 2 rfl) fa_RX8_70 hx1 ?_
  refine v_if_eq (dq D_X8_drawnValue 3 rfl) rfl (fun c2 => ?_) (fun c2 => ?_)
  · have h := itp h c2
    exact w_X8_drawnValue_15 h
  · have h := itn h c2
    refine v_iload_n (dq D_X8_drawnValue 4 rfl) 1 rfl ?_
    obtain ⟨q3, hq3, h⟩ := obi h
    refine v_cSi (bc := 0) (bs := 0) (As := [.int a1]) (dq D_X8_drawnValue 5 rfl) cs_X8_isRegister ml_RX8_141 (m_X8_isRegister hq3) rfl rfl (Nat.le_of_ble_eq_true rfl) ⟨Nat.le_of_ble_eq_true rfl, Nat.le_of_ble_eq_true rfl⟩ ⟨Nat.le_of_ble_eq_true rfl, Nat.le_of_ble_eq_true rfl⟩ ?_
    refine v_if_ne (dq D_X8_drawnValue 6 rfl) rfl (fun c4 => ?_) (fun c4 => ?_)
    · have h := itn h c4
      refine v_iconst (dq D_X8_drawnValue 9 rfl) kc_0 ?_
      exact w_X8_drawnValue_20 h
    · have h := itp h c4
      exact w_X8_drawnValue_15 h
theorem m_X8_drawnValue {sa : Env3} {a0 : Nat} {a1 : Int32} {a2 : Int32} {a3 : Int32} {σ : St} {r : Int32 × St} (h : f_X8_drawnValue a0 a1 a2 a3 σ = some r) : Ex sa yX8_drawnValue cX8_drawnValue K_X8_drawnValue [.ref a0, .int a1, .int a2, .int a3] σ (pO r) := Ex.of (by decide) rfl (fun q => nomatch q) (Nat.le_of_ble_eq_true rfl) (w_X8_drawnValue_0 (itg h).2)
theorem w_X8_entries_13 {sa : Env3} {a0 : Nat} {s0 : Nat} {s1 : Int32} {σ : St} {r : Int32 × St} (h : f_X8_entries_13 a0 s0 s1 σ = some r) : VV sa cX8_entries K_X8_entries 13 [(0, .ref a0)] [.int s1, .ref s0] σ (pO r) 0 0 := by
  unfold f_X8_entries_13 at h
  refine v_iconst (dq D_X8_entries 7 rfl) kc_1 ?_
  obtain ⟨q1, hq1, h⟩ := obi h
  refine v_cVi (bc := 0) (bs := 0) (As := [.int s1, .int 1]) (dq D_X8_entries 8 rfl) cv_X8_refused ml_RX8_85 (itg hq1).1 (m_X8_refused hq1) rfl rfl (Nat.le_of_ble_eq_true rfl) ⟨Nat.le_of_ble_eq_true rfl, Nat.le_of_ble_eq_true rfl⟩ ⟨Nat.le_of_ble_eq_true rfl, Nat.le_of_ble_eq_true rfl⟩ ?_
  refine v_if_eq (dq D_X8_entries 9 rfl) rfl (fun c2 => ?_) (fun c2 => ?_)
  · have h := itp h c2
    refine v_aload_n (dq D_X8_entries 12 rfl) 0 rfl ?_
    obtain ⟨x3, hx3, h⟩ := obi h
    refine v_gR (dq D_X8_entries 13 rfl) fa_RX8_35 hx3 ?_
    obtain ⟨x4, hx4, h⟩ := obi h
    refine v_gI (dq D_X8_entries 14 rfl) fa_RX8_158 hx4 ?_
    obtain rfl := Option.some.inj h
    exact v_iret (dq D_X8_entries 15 rfl) rfl ⟨rfl, rfl⟩
  · have h := itn h c2
    refine v_iconst (dq D_X8_entries 10 rfl) kc_m1 ?_
    obtain rfl := Option.some.inj h
    exact v_iret (dq D_X8_entries 11 rfl) rfl ⟨rfl, rfl⟩
theorem w_X8_entries_0 {sa : Env3} {a0 : Nat} {σ : St} {r : Int32 × St} (h : f_X8_entries_0 a0 σ = some r) : VV sa cX8_entries K_X8_entries 0 [(0, .ref a0)] [] σ (pO r) 0 0 := by
  unfold f_X8_entries_0 at h
  refine v_aload_n (dq D_X8_entries 0 rfl) 0 rfl ?_
  refine v_aload_n (dq D_X8_entries 1 rfl) 0 rfl ?_
  obtain ⟨x1, hx1, h⟩ := obi h
  refine v_gI (dq D_X8_entries 2 rfl) fa_RX8_70 hx1 ?_
  refine v_if_ne (dq D_X8_entries 3 rfl) rfl (fun c2 => ?_) (fun c2 => ?_)
  · have h := itn h c2
    refine v_iconst (dq D_X8_entries 6 rfl) kc_0 ?_
    exact w_X8_entries_13 h
  · have h := itp h c2
    refine v_iconst (dq D_X8_entries 4 rfl) kc_1 ?_
    refine v_goto (dq D_X8_entries 5 rfl) rfl ?_
    exact w_X8_entries_13 h
theorem m_X8_entries {sa : Env3} {a0 : Nat} {σ : St} {r : Int32 × St} (h : f_X8_entries a0 σ = some r) : Ex sa yX8_entries cX8_entries K_X8_entries [.ref a0] σ (pO r) := Ex.of (by decide) rfl (fun q => nomatch q) (Nat.le_of_ble_eq_true rfl) (w_X8_entries_0 (itg h).2)
theorem w_X8_isEntry_27 {sa : Env3} {s0 : Int32} {σ : St} {r : Int32 × St} (h : f_X8_isEntry_27 s0 σ = some r) : VV sa cX8_isEntry K_X8_isEntry 27 [] [.int s0] σ (pO r) 0 0 := by
  unfold f_X8_isEntry_27 at h
  have hz := (itg h).1
  have h := (itg h).2
  obtain rfl := Option.some.inj h
  exact v_zret (dq D_X8_isEntry 13 rfl) rfl (z_nar hz) ⟨rfl, rfl⟩
theorem w_X8_isEntry_26 {sa : Env3}  {σ : St} {r : Int32 × St} (h : f_X8_isEntry_26  σ = some r) : VV sa cX8_isEntry K_X8_isEntry 26 [] [] σ (pO r) 0 0 := by
  unfold f_X8_isEntry_26 at h
  refine v_iconst (dq D_X8_isEntry 12 rfl) kc_0 ?_
  exact w_X8_isEntry_27 h
theorem w_X8_isEntry_0 {sa : Env3} {a0 : Nat} {a1 : Int32} {σ : St} {r : Int32 × St} (h : f_X8_isEntry_0 a0 a1 σ = some r) : VV sa cX8_isEntry K_X8_isEntry 0 [(0, .ref a0), (1, .int a1)] [] σ (pO r) 0 0 := by
  unfold f_X8_isEntry_0 at h
  refine v_aload_n (dq D_X8_isEntry 0 rfl) 0 rfl ?_
  obtain ⟨x1, hx1, h⟩ := obi h
  refine v_gI (dq D_X8_isEntry 1 rfl) fa_RX8_70 hx1 ?_
  refine v_if_eq (dq D_X8_isEntry 2 rfl) rfl (fun c2 => ?_) (fun c2 => ?_)
  · have h := itp h c2
    exact v_sub [] rfl (w_X8_isEntry_26 h)
  · have h := itn h c2
    refine v_iload_n (dq D_X8_isEntry 3 rfl) 1 rfl ?_
    refine v_if_lt (dq D_X8_isEntry 4 rfl) rfl (fun c3 => ?_) (fun c3 => ?_)
    · have h := itp h c3
      exact v_sub [] rfl (w_X8_isEntry_26 h)
    · have h := itn h c3
      refine v_iload_n (dq D_X8_isEntry 5 rfl) 1 rfl ?_
      refine v_aload_n (dq D_X8_isEntry 6 rfl) 0 rfl ?_
      obtain ⟨x4, hx4, h⟩ := obi h
      refine v_gR (dq D_X8_isEntry 7 rfl) fa_RX8_35 hx4 ?_
      obtain ⟨x5, hx5, h⟩ := obi h
      refine v_gI (dq D_X8_isEntry 8 rfl) fa_RX8_158 hx5 ?_
      refine v_icmp_ge (dq D_X8_isEntry 9 rfl) rfl (fun c6 => ?_) (fun c6 => ?_)
      · have h := itp h c6
        exact v_sub [] rfl (w_X8_isEntry_26 h)
      · have h := itn h c6
        refine v_iconst (dq D_X8_isEntry 10 rfl) kc_1 ?_
        refine v_goto (dq D_X8_isEntry 11 rfl) rfl ?_
        exact v_sub [] rfl (w_X8_isEntry_27 h)
theorem m_X8_isEntry {sa : Env3} {a0 : Nat} {a1 : Int32} {σ : St} {r : Int32 × St} (h : f_X8_isEntry a0 a1 σ = some r) : Ex sa yX8_isEntry cX8_isEntry K_X8_isEntry [.ref a0, .int a1] σ (pO r) := Ex.of (by decide) rfl (fun q => nomatch q) (Nat.le_of_ble_eq_true rfl) (w_X8_isEntry_0 (itg h).2)
theorem w_X8_entry_184 {sa : Env3} {s0 : Int32} {σ : St} {r : Int32 × St} (h : f_X8_entry_184 s0 σ = some r) : VV sa cX8_entry K_X8_entry 184 [] [.int s0] σ (pO r) 0 0 := by
  unfold f_X8_entry_184 at h
  obtain rfl := Option.some.inj h
  exact v_iret (dq D_X8_entry 84 rfl) rfl ⟨rfl, rfl⟩
theorem w_X8_entry_24 {sa : Env3} {a0 : Nat} {a1 : Int32} {a2 : Int32} {s0 : Nat} {s1 : Int32} {σ : St} {r : Int32 × St} (h : f_X8_entry_24 a0 a1 a2 s0 s1 σ = some r) : VV sa cX8_entry K_X8_entry 24 [(0, .ref a0), (1, .int a1), (2, .int a2)] [.int s1, .ref s0] σ (pO r) 0 0 := by
  unfold f_X8_entry_24 at h
  refine v_iconst (dq D_X8_entry 13 rfl) kc_1 ?_
  obtain ⟨q1, hq1, h⟩ := obi h
  refine v_cVi (bc := 0) (bs := 0) (As := [.int s1, .int 1]) (dq D_X8_entry 14 rfl) cv_X8_refused ml_RX8_85 (itg hq1).1 (m_X8_refused hq1) rfl rfl (Nat.le_of_ble_eq_true rfl) ⟨Nat.le_of_ble_eq_true rfl, Nat.le_of_ble_eq_true rfl⟩ ⟨Nat.le_of_ble_eq_true rfl, Nat.le_of_ble_eq_true rfl⟩ ?_
  refine v_if_eq (dq D_X8_entry 15 rfl) rfl (fun c2 => ?_) (fun c2 => ?_)
  · have h := itp h c2
    refine v_iload_n (dq D_X8_entry 18 rfl) 2 rfl ?_
    by_cases c3 : a2 = 0
    · have h := itp h c3
      refine v_tblAt (v := 0) (dq D_X8_entry 19 rfl) c3 (by decide) (by decide) rfl rfl ?_
      refine v_aload_n (dq D_X8_entry 20 rfl) 0 rfl ?_
      obtain ⟨x11, hx11, h⟩ := obi h
      refine v_gR (dq D_X8_entry 21 rfl) fa_RX8_35 hx11 ?_
      obtain ⟨x12, hx12, h⟩ := obi h
      refine v_gR (dq D_X8_entry 22 rfl) fa_RX8_189 hx12 ?_
      refine v_iload_n (dq D_X8_entry 23 rfl) 1 rfl ?_
      obtain ⟨x13, hx13, h⟩ := obi h
      refine v_iald (dq D_X8_entry 24 rfl) hx13 ?_
      obtain rfl := Option.some.inj h
      exact v_iret (dq D_X8_entry 25 rfl) rfl ⟨rfl, rfl⟩
    · have h := itn h c3
      by_cases c4 : a2 = 1
      · have h := itp h c4
        refine v_tblAt (v := 1) (dq D_X8_entry 19 rfl) c4 (by decide) (by decide) rfl rfl ?_
        refine v_aload_n (dq D_X8_entry 26 rfl) 0 rfl ?_
        obtain ⟨x14, hx14, h⟩ := obi h
        refine v_gR (dq D_X8_entry 27 rfl) fa_RX8_35 hx14 ?_
        obtain ⟨x15, hx15, h⟩ := obi h
        refine v_gR (dq D_X8_entry 28 rfl) fa_RX8_192 hx15 ?_
        refine v_iload_n (dq D_X8_entry 29 rfl) 1 rfl ?_
        obtain ⟨x16, hx16, h⟩ := obi h
        refine v_iald (dq D_X8_entry 30 rfl) hx16 ?_
        obtain rfl := Option.some.inj h
        exact v_iret (dq D_X8_entry 31 rfl) rfl ⟨rfl, rfl⟩
      · have h := itn h c4
        by_cases c5 : a2 = 2
        · have h := itp h c5
          refine v_tblAt (v := 2) (dq D_X8_entry 19 rfl) c5 (by decide) (by decide) rfl rfl ?_
          refine v_aload_n (dq D_X8_entry 32 rfl) 0 rfl ?_
          obtain ⟨x17, hx17, h⟩ := obi h
          refine v_gR (dq D_X8_entry 33 rfl) fa_RX8_35 hx17 ?_
          obtain ⟨x18, hx18, h⟩ := obi h
          refine v_gR (dq D_X8_entry 34 rfl) fa_RX8_195 hx18 ?_
          refine v_iload_n (dq D_X8_entry 35 rfl) 1 rfl ?_
          obtain ⟨x19, hx19, h⟩ := obi h
          refine v_iald (dq D_X8_entry 36 rfl) hx19 ?_
          obtain rfl := Option.some.inj h
          exact v_iret (dq D_X8_entry 37 rfl) rfl ⟨rfl, rfl⟩
        · have h := itn h c5
          by_cases c6 : a2 = 3
          · have h := itp h c6
            refine v_tblAt (v := 3) (dq D_X8_entry 19 rfl) c6 (by decide) (by decide) rfl rfl ?_
            refine v_aload_n (dq D_X8_entry 38 rfl) 0 rfl ?_
            obtain ⟨x20, hx20, h⟩ := obi h
            refine v_gR (dq D_X8_entry 39 rfl) fa_RX8_35 hx20 ?_
            obtain ⟨x21, hx21, h⟩ := obi h
            refine v_gR (dq D_X8_entry 40 rfl) fa_RX8_198 hx21 ?_
            refine v_iload_n (dq D_X8_entry 41 rfl) 1 rfl ?_
            obtain ⟨x22, hx22, h⟩ := obi h
            refine v_iald (dq D_X8_entry 42 rfl) hx22 ?_
            obtain rfl := Option.some.inj h
            exact v_iret (dq D_X8_entry 43 rfl) rfl ⟨rfl, rfl⟩
          · have h := itn h c6
            by_cases c7 : a2 = 4
            · have h := itp h c7
              refine v_tblAt (v := 4) (dq D_X8_entry 19 rfl) c7 (by decide) (by decide) rfl rfl ?_
              refine v_aload_n (dq D_X8_entry 44 rfl) 0 rfl ?_
              obtain ⟨x23, hx23, h⟩ := obi h
              refine v_gR (dq D_X8_entry 45 rfl) fa_RX8_35 hx23 ?_
              obtain ⟨x24, hx24, h⟩ := obi h
              refine v_gI (dq D_X8_entry 46 rfl) fa_RX8_201 hx24 ?_
              refine v_iload_n (dq D_X8_entry 47 rfl) 1 rfl ?_
              refine v_ishr (dq D_X8_entry 48 rfl) ?_
              refine v_iconst (dq D_X8_entry 49 rfl) kc_1 ?_
              refine v_iand (dq D_X8_entry 50 rfl) ?_
              obtain rfl := Option.some.inj h
              exact v_iret (dq D_X8_entry 51 rfl) rfl ⟨rfl, rfl⟩
            · have h := itn h c7
              by_cases c8 : a2 = 5
              · have h := itp h c8
                refine v_tblAt (v := 5) (dq D_X8_entry 19 rfl) c8 (by decide) (by decide) rfl rfl ?_
                refine v_aload_n (dq D_X8_entry 52 rfl) 0 rfl ?_
                obtain ⟨x25, hx25, h⟩ := obi h
                refine v_gR (dq D_X8_entry 53 rfl) fa_RX8_35 hx25 ?_
                obtain ⟨x26, hx26, h⟩ := obi h
                refine v_gI (dq D_X8_entry 54 rfl) fa_RX8_204 hx26 ?_
                refine v_iload_n (dq D_X8_entry 55 rfl) 1 rfl ?_
                refine v_ishr (dq D_X8_entry 56 rfl) ?_
                refine v_iconst (dq D_X8_entry 57 rfl) kc_1 ?_
                refine v_iand (dq D_X8_entry 58 rfl) ?_
                obtain rfl := Option.some.inj h
                exact v_iret (dq D_X8_entry 59 rfl) rfl ⟨rfl, rfl⟩
              · have h := itn h c8
                by_cases c9 : a2 = 6
                · have h := itp h c9
                  refine v_tblAt (v := 6) (dq D_X8_entry 19 rfl) c9 (by decide) (by decide) rfl rfl ?_
                  refine v_aload_n (dq D_X8_entry 60 rfl) 0 rfl ?_
                  obtain ⟨x27, hx27, h⟩ := obi h
                  refine v_gR (dq D_X8_entry 61 rfl) fa_RX8_35 hx27 ?_
                  obtain ⟨x28, hx28, h⟩ := obi h
                  refine v_gI (dq D_X8_entry 62 rfl) fa_RX8_207 hx28 ?_
                  refine v_iload_n (dq D_X8_entry 63 rfl) 1 rfl ?_
                  refine v_ishr (dq D_X8_entry 64 rfl) ?_
                  refine v_iconst (dq D_X8_entry 65 rfl) kc_1 ?_
                  refine v_iand (dq D_X8_entry 66 rfl) ?_
                  obtain rfl := Option.some.inj h
                  exact v_iret (dq D_X8_entry 67 rfl) rfl ⟨rfl, rfl⟩
                · have h := itn h c9
                  by_cases c10 : a2 = 7
                  · have h := itp h c10
                    refine v_tblAt (v := 7) (dq D_X8_entry 19 rfl) c10 (by decide) (by decide) rfl rfl ?_
                    refine v_aload_n (dq D_X8_entry 68 rfl) 0 rfl ?_
                    obtain ⟨x29, hx29, h⟩ := obi h
                    refine v_gR (dq D_X8_entry 69 rfl) fa_RX8_35 hx29 ?_
                    obtain ⟨x30, hx30, h⟩ := obi h
                    refine v_gI (dq D_X8_entry 70 rfl) fa_RX8_210 hx30 ?_
                    refine v_iload_n (dq D_X8_entry 71 rfl) 1 rfl ?_
                    refine v_ishr (dq D_X8_entry 72 rfl) ?_
                    refine v_iconst (dq D_X8_entry 73 rfl) kc_1 ?_
                    refine v_iand (dq D_X8_entry 74 rfl) ?_
                    obtain rfl := Option.some.inj h
                    exact v_iret (dq D_X8_entry 75 rfl) rfl ⟨rfl, rfl⟩
                  · have h := itn h c10
                    refine v_tblOut (dq D_X8_entry 19 rfl) (by have g0 : (a2).toInt ≠ 0 := i32_ne c3; have g1 : (a2).toInt ≠ 1 := i32_ne c4; have g2 : (a2).toInt ≠ 2 := i32_ne c5; have g3 : (a2).toInt ≠ 3 := i32_ne c6; have g4 : (a2).toInt ≠ 4 := i32_ne c7; have g5 : (a2).toInt ≠ 5 := i32_ne c8; have g6 : (a2).toInt ≠ 6 := i32_ne c9; have g7 : (a2).toInt ≠ 7 := i32_ne c10; omega) rfl ?_
                    refine v_aload_n (dq D_X8_entry 76 rfl) 0 rfl ?_
                    obtain ⟨x31, hx31, h⟩ := obi h
                    refine v_gR (dq D_X8_entry 77 rfl) fa_RX8_35 hx31 ?_
                    refine v_iload_n (dq D_X8_entry 78 rfl) 1 rfl ?_
                    obtain ⟨q32, hq32, h⟩ := obi h
                    refine v_cVi (bc := 0) (bs := 0) (As := [.int a1]) (dq D_X8_entry 79 rfl) cv_X3_isSure ml_RX8_213 (itg hq32).1 (m_X3_isSure hq32) rfl rfl (Nat.le_of_ble_eq_true rfl) ⟨Nat.le_of_ble_eq_true rfl, Nat.le_of_ble_eq_true rfl⟩ ⟨Nat.le_of_ble_eq_true rfl, Nat.le_of_ble_eq_true rfl⟩ ?_
                    refine v_if_eq (dq D_X8_entry 80 rfl) rfl (fun c33 => ?_) (fun c33 => ?_)
                    · have h := itp h c33
                      refine v_iconst (dq D_X8_entry 83 rfl) kc_0 ?_
                      exact v_sub [] rfl (w_X8_entry_184 h)
                    · have h := itn h c33
                      refine v_iconst (dq D_X8_entry 81 rfl) kc_1 ?_
                      refine v_goto (dq D_X8_entry 82 rfl) rfl ?_
                      exact v_sub [] rfl (w_X8_entry_184 h)
  · have h := itn h c2
    refine v_iconst (dq D_X8_entry 16 rfl) kc_m1 ?_
    obtain rfl := Option.some.inj h
    exact v_iret (dq D_X8_entry 17 rfl) rfl ⟨rfl, rfl⟩
theorem w_X8_entry_19 {sa : Env3} {a0 : Nat} {a1 : Int32} {a2 : Int32} {s0 : Nat} {σ : St} {r : Int32 × St} (h : f_X8_entry_19 a0 a1 a2 s0 σ = some r) : VV sa cX8_entry K_X8_entry 19 [(0, .ref a0), (1, .int a1), (2, .int a2)] [.ref s0] σ (pO r) 0 0 := by
  unfold f_X8_entry_19 at h
  refine v_iconst (dq D_X8_entry 10 rfl) kc_1 ?_
  refine v_goto (dq D_X8_entry 11 rfl) rfl ?_
  exact w_X8_entry_24 h
theorem w_X8_entry_0 {sa : Env3} {a0 : Nat} {a1 : Int32} {a2 : Int32} {σ : St} {r : Int32 × St} (h : f_X8_entry_0 a0 a1 a2 σ = some r) : VV sa cX8_entry K_X8_entry 0 [(0, .ref a0), (1, .int a1), (2, .int a2)] [] σ (pO r) 0 0 := by
  unfold f_X8_entry_0 at h
  refine v_aload_n (dq D_X8_entry 0 rfl) 0 rfl ?_
  refine v_aload_n (dq D_X8_entry 1 rfl) 0 rfl ?_
  refine v_iload_n (dq D_X8_entry 2 rfl) 1 rfl ?_
  obtain ⟨q1, hq1, h⟩ := obi h
  refine v_cVi (bc := 0) (bs := 0) (As := [.int a1]) (dq D_X8_entry 3 rfl) cv_X8_isEntry ml_RX8_186 (itg hq1).1 (m_X8_isEntry hq1) rfl rfl (Nat.le_of_ble_eq_true rfl) ⟨Nat.le_of_ble_eq_true rfl, Nat.le_of_ble_eq_true rfl⟩ ⟨Nat.le_of_ble_eq_true rfl, Nat.le_of_ble_eq_true rfl⟩ ?_
  refine v_if_eq (dq D_X8_entry 4 rfl) rfl (fun c2 => ?_) (fun c2 => ?_)
  · have h := itp h c2
    exact w_X8_entry_19 h
  · have h := itn h c2
    refine v_iload_n (dq D_X8_entry 5 rfl) 2 rfl ?_
    refine v_if_lt (dq D_X8_entry 6 rfl) rfl (fun c3 => ?_) (fun c3 => ?_)
    · have h := itp h c3
      exact w_X8_entry_19 h
    · have h := itn h c3
      refine v_iload_n (dq D_X8_entry 7 rfl) 2 rfl ?_
      refine v_bipush (dq D_X8_entry 8 rfl) kb_8 ?_
      refine v_icmp_le (dq D_X8_entry 9 rfl) rfl (fun c4 => ?_) (fun c4 => ?_)
      · have h := itp h c4
        refine v_iconst (dq D_X8_entry 12 rfl) kc_0 ?_
        exact w_X8_entry_24 h
      · have h := itn h c4
        exact w_X8_entry_19 h
theorem m_X8_entry {sa : Env3} {a0 : Nat} {a1 : Int32} {a2 : Int32} {σ : St} {r : Int32 × St} (h : f_X8_entry a0 a1 a2 σ = some r) : Ex sa yX8_entry cX8_entry K_X8_entry [.ref a0, .int a1, .int a2] σ (pO r) := Ex.of (by decide) rfl (fun q => nomatch q) (Nat.le_of_ble_eq_true rfl) (w_X8_entry_0 (itg h).2)
theorem w_X8_fault_0 {sa : Env3} {a0 : Nat} {σ : St} {r : Int32 × St} (h : f_X8_fault_0 a0 σ = some r) : VV sa cX8_fault K_X8_fault 0 [(0, .ref a0)] [] σ (pO r) 0 0 := by
  unfold f_X8_fault_0 at h
  refine v_aload_n (dq D_X8_fault 0 rfl) 0 rfl ?_
  obtain ⟨x1, hx1, h⟩ := obi h
  refine v_gR (dq D_X8_fault 1 rfl) fa_RX8_28 hx1 ?_
  obtain ⟨x2, hx2, h⟩ := obi h
  refine v_gI (dq D_X8_fault 2 rfl) fa_RX8_114 hx2 ?_
  obtain rfl := Option.some.inj h
  exact v_iret (dq D_X8_fault 3 rfl) rfl ⟨rfl, rfl⟩
theorem m_X8_fault {sa : Env3} {a0 : Nat} {σ : St} {r : Int32 × St} (h : f_X8_fault a0 σ = some r) : Ex sa yX8_fault cX8_fault K_X8_fault [.ref a0] σ (pO r) := Ex.of (by decide) rfl (fun q => nomatch q) (Nat.le_of_ble_eq_true rfl) (w_X8_fault_0 (itg h).2)
theorem w_X8_putBytes_46 {sa : Env3}  {σ : St} {r : St} (h : f_X8_putBytes_46  σ = some r) : VV sa cX8_putBytes K_X8_putBytes 46 [] [] σ (pU r) 0 0 := by
  unfold f_X8_putBytes_46 at h
  obtain rfl := Option.some.inj h
  exact v_vret (dq D_X8_putBytes 25 rfl) rfl ⟨rfl, rfl⟩
theorem w_X8_putBytes_3 {sa : Env3} : ∀ (n : Nat) {a0 : Nat} {a1 : Int32} {a2 : Int32} {σ : St} {r : St}, f_X8_putBytes_3 n a0 a1 a2 σ = some r → VV sa cX8_putBytes K_X8_putBytes 3 [(0, .ref a0), (1, .int a1), (2, .int a2)] [] σ (pU r) 0 0 := by
  intro n
  induction n with
  | zero => intro a0 a1 a2 σ r h; cases h
  | succ n ih =>
    intro a0 a1 a2 σ r h
    rw [e_X8_putBytes_3] at h
    refine v_iload_n (dq D_X8_putBytes 2 rfl) 2 rfl ?_
    refine v_if_lt (dq D_X8_putBytes 3 rfl) rfl (fun c1 => ?_) (fun c1 => ?_)
    · have h := itp h c1
      exact v_sub [] rfl (w_X8_putBytes_46 h)
    · have h := itn h c1
      refine v_aload_n (dq D_X8_putBytes 4 rfl) 0 rfl ?_
      obtain ⟨x2, hx2, h⟩ := obi h
      refine v_gI (dq D_X8_putBytes 5 rfl) fa_RX8_74 hx2 ?_
      refine v_sipush (dq D_X8_putBytes 6 rfl) ks_900 ?_
      refine v_icmp_ge (dq D_X8_putBytes 7 rfl) rfl (fun c3 => ?_) (fun c3 => ?_)
      · have h := itp h c3
        exact v_sub [] rfl (w_X8_putBytes_46 h)
      · have h := itn h c3
        refine v_aload_n (dq D_X8_putBytes 8 rfl) 0 rfl ?_
        obtain ⟨x4, hx4, h⟩ := obi h
        refine v_gR (dq D_X8_putBytes 9 rfl) fa_RX8_9 hx4 ?_
        refine v_aload_n (dq D_X8_putBytes 10 rfl) 0 rfl ?_
        obtain ⟨x5, hx5, h⟩ := obi h
        refine v_gI (dq D_X8_putBytes 11 rfl) fa_RX8_74 hx5 ?_
        refine v_iload_n (dq D_X8_putBytes 12 rfl) 1 rfl ?_
        refine v_iload_n (dq D_X8_putBytes 13 rfl) 2 rfl ?_
        refine v_iushr (dq D_X8_putBytes 14 rfl) ?_
        refine v_i2b (dq D_X8_putBytes 15 rfl) ?_
        obtain ⟨σ6, hσ6, h⟩ := obi h
        refine v_bast (dq D_X8_putBytes 16 rfl) hσ6 ?_
        refine v_aload_n (dq D_X8_putBytes 17 rfl) 0 rfl ?_
        refine v_dup (dq D_X8_putBytes 18 rfl) rfl ?_
        obtain ⟨x7, hx7, h⟩ := obi h
        refine v_gI (dq D_X8_putBytes 19 rfl) fa_RX8_74 hx7 ?_
        refine v_iconst (dq D_X8_putBytes 20 rfl) kc_1 ?_
        refine v_iadd (dq D_X8_putBytes 21 rfl) ?_
        obtain ⟨σ8, hσ8, h⟩ := obi h
        refine v_pI (dq D_X8_putBytes 22 rfl) fp_RX8_74 hσ8 ?_
        refine v_iinc (dq D_X8_putBytes 23 rfl) 2 [(2, .int (a2 + (-8))), (0, .ref a0), (1, .int a1)] rfl kc_m8 (Nat.le_of_ble_eq_true rfl) rfl ?_
        refine v_goto (dq D_X8_putBytes 24 rfl) rfl ?_
        exact v_sub [1, 2, 0] rfl (ih h)
theorem w_X8_putBytes_0 {sa : Env3} {a0 : Nat} {a1 : Int32} {σ : St} {r : St} (h : f_X8_putBytes_0 a0 a1 σ = some r) : VV sa cX8_putBytes K_X8_putBytes 0 [(0, .ref a0), (1, .int a1)] [] σ (pU r) 0 0 := by
  unfold f_X8_putBytes_0 at h
  refine v_bipush (dq D_X8_putBytes 0 rfl) kb_24 ?_
  refine v_istore_n (dq D_X8_putBytes 1 rfl) [(2, .int 24), (0, .ref a0), (1, .int a1)] rfl (Nat.le_of_ble_eq_true rfl) rfl ?_
  exact v_sub [1, 2, 0] rfl (w_X8_putBytes_3 _ h)
theorem m_X8_putBytes {sa : Env3} {a0 : Nat} {a1 : Int32} {σ : St} {r : St} (h : f_X8_putBytes a0 a1 σ = some r) : Ex sa yX8_putBytes cX8_putBytes K_X8_putBytes [.ref a0, .int a1] σ (pU r) := Ex.of (by decide) rfl (fun q => nomatch q) (Nat.le_of_ble_eq_true rfl) (w_X8_putBytes_0 (itg h).2)
theorem w_X8_feed_0 {sa : Env3} {a0 : Nat} {a1 : Int32} {a2 : Int32} {a3 : Int32} {a4 : Int32} {a5 : Int32} {σ : St} {r : Int32 × St} (h : f_X8_feed_0 a0 a1 a2 a3 a4 a5 σ = some r) : VV sa cX8_feed K_X8_feed 0 [(0, .ref a0), (1, .int a1), (2, .int a2), (3, .int a3), (4, .int a4), (5, .int a5)] [] σ (pO r) 0 0 := by
  unfold f_X8_feed_0 at h
  refine v_aload_n (dq D_X8_feed 0 rfl) 0 rfl ?_
  obtain ⟨x1, hx1, h⟩ := obi h
  refine v_gI (dq D_X8_feed 1 rfl) fa_RX8_74 hx1 ?_
  refine v_bipush (dq D_X8_feed 2 rfl) kb_20 ?_
  refine v_iadd (dq D_X8_feed 3 rfl) ?_
  refine v_sipush (dq D_X8_feed 4 rfl) ks_900 ?_
  refine v_icmp_le (dq D_X8_feed 5 rfl) rfl (fun c2 => ?_) (fun c2 => ?_)
  · have h := itp h c2
    refine v_aload_n (dq D_X8_feed 8 rfl) 0 rfl ?_
    refine v_iload_n (dq D_X8_feed 9 rfl) 1 rfl ?_
    obtain ⟨σ3, hσ3, h⟩ := obi h
    refine v_cVv (bc := 0) (bs := 0) (As := [.int a1]) (dq D_X8_feed 10 rfl) cv_X8_putBytes ml_RX8_81 (itg hσ3).1 (m_X8_putBytes hσ3) rfl rfl (Nat.le_of_ble_eq_true rfl) ⟨Nat.le_of_ble_eq_true rfl, Nat.le_of_ble_eq_true rfl⟩ ⟨Nat.le_of_ble_eq_true rfl, Nat.le_of_ble_eq_true rfl⟩ ?_
    refine v_aload_n (dq D_X8_feed 11 rfl) 0 rfl ?_
    refine v_iload_n (dq D_X8_feed 12 rfl) 2 rfl ?_
    obtain ⟨σ4, hσ4, h⟩ := obi h
    refine v_cVv (bc := 0) (bs := 0) (As := [.int a2]) (dq D_X8_feed 13 rfl) cv_X8_putBytes ml_RX8_81 (itg hσ4).1 (m_X8_putBytes hσ4) rfl rfl (Nat.le_of_ble_eq_true rfl) ⟨Nat.le_of_ble_eq_true rfl, Nat.le_of_ble_eq_true rfl⟩ ⟨Nat.le_of_ble_eq_true rfl, Nat.le_of_ble_eq_true rfl⟩ ?_
    refine v_aload_n (dq D_X8_feed 14 rfl) 0 rfl ?_
    refine v_iload_n (dq D_X8_feed 15 rfl) 3 rfl ?_
    obtain ⟨σ5, hσ5, h⟩ := obi h
    refine v_cVv (bc := 0) (bs := 0) (As := [.int a3]) (dq D_X8_feed 16 rfl) cv_X8_putBytes ml_RX8_81 (itg hσ5).1 (m_X8_putBytes hσ5) rfl rfl (Nat.le_of_ble_eq_true rfl) ⟨Nat.le_of_ble_eq_true rfl, Nat.le_of_ble_eq_true rfl⟩ ⟨Nat.le_of_ble_eq_true rfl, Nat.le_of_ble_eq_true rfl⟩ ?_
    refine v_aload_n (dq D_X8_feed 17 rfl) 0 rfl ?_
    refine v_iload (dq D_X8_feed 18 rfl) 4 rfl ?_
    obtain ⟨σ6, hσ6, h⟩ := obi h
    refine v_cVv (bc := 0) (bs := 0) (As := [.int a4]) (dq D_X8_feed 19 rfl) cv_X8_putBytes ml_RX8_81 (itg hσ6).1 (m_X8_putBytes hσ6) rfl rfl (Nat.le_of_ble_eq_true rfl) ⟨Nat.le_of_ble_eq_true rfl, Nat.le_of_ble_eq_true rfl⟩ ⟨Nat.le_of_ble_eq_true rfl, Nat.le_of_ble_eq_true rfl⟩ ?_
    refine v_aload_n (dq D_X8_feed 20 rfl) 0 rfl ?_
    refine v_iload (dq D_X8_feed 21 rfl) 5 rfl ?_
    obtain ⟨σ7, hσ7, h⟩ := obi h
    refine v_cVv (bc := 0) (bs := 0) (As := [.int a5]) (dq D_X8_feed 22 rfl) cv_X8_putBytes ml_RX8_81 (itg hσ7).1 (m_X8_putBytes hσ7) rfl rfl (Nat.le_of_ble_eq_true rfl) ⟨Nat.le_of_ble_eq_true rfl, Nat.le_of_ble_eq_true rfl⟩ ⟨Nat.le_of_ble_eq_true rfl, Nat.le_of_ble_eq_true rfl⟩ ?_
    refine v_aload_n (dq D_X8_feed 23 rfl) 0 rfl ?_
    obtain ⟨x8, hx8, h⟩ := obi h
    refine v_gI (dq D_X8_feed 24 rfl) fa_RX8_74 hx8 ?_
    obtain rfl := Option.some.inj h
    exact v_iret (dq D_X8_feed 25 rfl) rfl ⟨rfl, rfl⟩
  · have h := itn h c2
    refine v_iconst (dq D_X8_feed 6 rfl) kc_m1 ?_
    obtain rfl := Option.some.inj h
    exact v_iret (dq D_X8_feed 7 rfl) rfl ⟨rfl, rfl⟩
theorem m_X8_feed {sa : Env3} {a0 : Nat} {a1 : Int32} {a2 : Int32} {a3 : Int32} {a4 : Int32} {a5 : Int32} {σ : St} {r : Int32 × St} (h : f_X8_feed a0 a1 a2 a3 a4 a5 σ = some r) : Ex sa yX8_feed cX8_feed K_X8_feed [.ref a0, .int a1, .int a2, .int a3, .int a4, .int a5] σ (pO r) := Ex.of (by decide) rfl (fun q => nomatch q) (Nat.le_of_ble_eq_true rfl) (w_X8_feed_0 (itg h).2)
theorem w_X8_fetch_67 {sa : Env3}  {σ : St} {r : Int32 × St} (h : f_X8_fetch_67  σ = some r) : VV sa cX8_fetch K_X8_fetch 67 [] [] σ (pO r) 0 0 := by
  unfold f_X8_fetch_67 at h
  refine v_iconst (dq D_X8_fetch 36 rfl) kc_m1 ?_
  obtain rfl := Option.some.inj h
  exact v_iret (dq D_X8_fetch 37 rfl) rfl ⟨rfl, rfl⟩
theorem w_X8_fetch_79 {sa : Env3} {a0 : Nat} {s0 : Nat} {s1 : Int32} {σ : St} {r : Int32 × St} (h : f_X8_fetch_79 a0 s0 s1 σ = some r) : VV sa cX8_fetch K_X8_fetch 79 [(0, .ref a0)] [.int s1, .ref s0] σ (pO r) 0 0 := by
  unfold f_X8_fetch_79 at h
  refine v_iconst (dq D_X8_fetch 44 rfl) kc_3 ?_
  obtain ⟨q1, hq1, h⟩ := obi h
  refine v_cVi (bc := 0) (bs := 0) (As := [.int s1, .int 3]) (dq D_X8_fetch 45 rfl) cv_X8_refused ml_RX8_85 (itg hq1).1 (m_X8_refused hq1) rfl rfl (Nat.le_of_ble_eq_true rfl) ⟨Nat.le_of_ble_eq_true rfl, Nat.le_of_ble_eq_true rfl⟩ ⟨Nat.le_of_ble_eq_true rfl, Nat.le_of_ble_eq_true rfl⟩ ?_
  refine v_if_eq (dq D_X8_fetch 46 rfl) rfl (fun c2 => ?_) (fun c2 => ?_)
  · have h := itp h c2
    refine v_aload_n (dq D_X8_fetch 49 rfl) 0 rfl ?_
    obtain ⟨x3, hx3, h⟩ := obi h
    refine v_gR (dq D_X8_fetch 50 rfl) fa_RX8_45 hx3 ?_
    refine v_aload_n (dq D_X8_fetch 51 rfl) 0 rfl ?_
    obtain ⟨x4, hx4, h⟩ := obi h
    refine v_gR (dq D_X8_fetch 52 rfl) fa_RX8_35 hx4 ?_
    obtain ⟨σ5, hσ5, h⟩ := obi h
    refine v_cVv (bc := 0) (bs := 0) (As := [.ref x4]) (dq D_X8_fetch 53 rfl) cv_X2_keep ml_RX8_309 (itg hσ5).1 (m_X2_keep hσ5) rfl rfl (Nat.le_of_ble_eq_true rfl) ⟨Nat.le_of_ble_eq_true rfl, Nat.le_of_ble_eq_true rfl⟩ ⟨Nat.le_of_ble_eq_true rfl, Nat.le_of_ble_eq_true rfl⟩ ?_
    refine v_aload_n (dq D_X8_fetch 54 rfl) 0 rfl ?_
    obtain ⟨x6, hx6, h⟩ := obi h
    refine v_gR (dq D_X8_fetch 55 rfl) fa_RX8_35 hx6 ?_
    obtain ⟨q7, hq7, h⟩ := obi h
    refine v_cVi (bc := 0) (bs := 0) (As := []) (dq D_X8_fetch 56 rfl) cv_X3_take ml_RX8_297 (itg hq7).1 (m_X3_take hq7) rfl rfl (Nat.le_of_ble_eq_true rfl) ⟨Nat.le_of_ble_eq_true rfl, Nat.le_of_ble_eq_true rfl⟩ ⟨Nat.le_of_ble_eq_true rfl, Nat.le_of_ble_eq_true rfl⟩ ?_
    obtain rfl := Option.some.inj h
    exact v_iret (dq D_X8_fetch 57 rfl) rfl ⟨rfl, rfl⟩
  · have h := itn h c2
    refine v_iconst (dq D_X8_fetch 47 rfl) kc_m1 ?_
    obtain rfl := Option.some.inj h
    exact v_iret (dq D_X8_fetch 48 rfl) rfl ⟨rfl, rfl⟩
theorem w_X8_fetch_59 {sa : Env3} {a0 : Nat} {a1 : Int32} {s0 : Nat} {s1 : Int32} {σ : St} {r : Int32 × St} (h : f_X8_fetch_59 a0 a1 s0 s1 σ = some r) : VV sa cX8_fetch K_X8_fetch 59 [(0, .ref a0), (1, .int a1)] [.int s1, .ref s0] σ (pO r) 0 0 := by
  unfold f_X8_fetch_59 at h
  refine v_bipush (dq D_X8_fetch 33 rfl) kb_6 ?_
  obtain ⟨q1, hq1, h⟩ := obi h
  refine v_cVi (bc := 0) (bs := 0) (As := [.int s1, .int 6]) (dq D_X8_fetch 34 rfl) cv_X8_refused ml_RX8_85 (itg hq1).1 (m_X8_refused hq1) rfl rfl (Nat.le_of_ble_eq_true rfl) ⟨Nat.le_of_ble_eq_true rfl, Nat.le_of_ble_eq_true rfl⟩ ⟨Nat.le_of_ble_eq_true rfl, Nat.le_of_ble_eq_true rfl⟩ ?_
  refine v_if_eq (dq D_X8_fetch 35 rfl) rfl (fun c2 => ?_) (fun c2 => ?_)
  · have h := itp h c2
    refine v_aload_n (dq D_X8_fetch 38 rfl) 0 rfl ?_
    refine v_iload_n (dq D_X8_fetch 39 rfl) 1 rfl ?_
    refine v_if_eq (dq D_X8_fetch 40 rfl) rfl (fun c3 => ?_) (fun c3 => ?_)
    · have h := itp h c3
      refine v_iconst (dq D_X8_fetch 43 rfl) kc_0 ?_
      exact v_sub [0] rfl (w_X8_fetch_79 h)
    · have h := itn h c3
      refine v_iconst (dq D_X8_fetch 41 rfl) kc_1 ?_
      refine v_goto (dq D_X8_fetch 42 rfl) rfl ?_
      exact v_sub [0] rfl (w_X8_fetch_79 h)
  · have h := itn h c2
    exact v_sub [] rfl (w_X8_fetch_67 h)
theorem w_X8_fetch_41 {sa : Env3} {a0 : Nat} {a1 : Int32} {s0 : Nat} {s1 : Int32} {σ : St} {r : Int32 × St} (h : f_X8_fetch_41 a0 a1 s0 s1 σ = some r) : VV sa cX8_fetch K_X8_fetch 41 [(0, .ref a0), (1, .int a1)] [.int s1, .ref s0] σ (pO r) 0 0 := by
  unfold f_X8_fetch_41 at h
  refine v_iconst (dq D_X8_fetch 23 rfl) kc_5 ?_
  obtain ⟨q1, hq1, h⟩ := obi h
  refine v_cVi (bc := 0) (bs := 0) (As := [.int s1, .int 5]) (dq D_X8_fetch 24 rfl) cv_X8_refused ml_RX8_85 (itg hq1).1 (m_X8_refused hq1) rfl rfl (Nat.le_of_ble_eq_true rfl) ⟨Nat.le_of_ble_eq_true rfl, Nat.le_of_ble_eq_true rfl⟩ ⟨Nat.le_of_ble_eq_true rfl, Nat.le_of_ble_eq_true rfl⟩ ?_
  refine v_if_ne (dq D_X8_fetch 25 rfl) rfl (fun c2 => ?_) (fun c2 => ?_)
  · have h := itn h c2
    exact v_sub [] rfl (w_X8_fetch_67 h)
  · have h := itp h c2
    refine v_aload_n (dq D_X8_fetch 26 rfl) 0 rfl ?_
    refine v_iload_n (dq D_X8_fetch 27 rfl) 1 rfl ?_
    refine v_iconst (dq D_X8_fetch 28 rfl) kc_2 ?_
    refine v_icmp_ne (dq D_X8_fetch 29 rfl) rfl (fun c3 => ?_) (fun c3 => ?_)
    · have h := itn h c3
      refine v_iconst (dq D_X8_fetch 32 rfl) kc_0 ?_
      exact w_X8_fetch_59 h
    · have h := itp h c3
      refine v_iconst (dq D_X8_fetch 30 rfl) kc_1 ?_
      refine v_goto (dq D_X8_fetch 31 rfl) rfl ?_
      exact w_X8_fetch_59 h
theorem w_X8_fetch_13 {sa : Env3} {a0 : Nat} {s0 : Nat} {s1 : Int32} {σ : St} {r : Int32 × St} (h : f_X8_fetch_13 a0 s0 s1 σ = some r) : VV sa cX8_fetch K_X8_fetch 13 [(0, .ref a0)] [.int s1, .ref s0] σ (pO r) 0 0 := by
  unfold f_X8_fetch_13 at h
  refine v_iconst (dq D_X8_fetch 7 rfl) kc_1 ?_
  obtain ⟨q1, hq1, h⟩ := obi h
  refine v_cVi (bc := 0) (bs := 0) (As := [.int s1, .int 1]) (dq D_X8_fetch 8 rfl) cv_X8_refused ml_RX8_85 (itg hq1).1 (m_X8_refused hq1) rfl rfl (Nat.le_of_ble_eq_true rfl) ⟨Nat.le_of_ble_eq_true rfl, Nat.le_of_ble_eq_true rfl⟩ ⟨Nat.le_of_ble_eq_true rfl, Nat.le_of_ble_eq_true rfl⟩ ?_
  refine v_if_eq (dq D_X8_fetch 9 rfl) rfl (fun c2 => ?_) (fun c2 => ?_)
  · have h := itp h c2
    refine v_aload_n (dq D_X8_fetch 12 rfl) 0 rfl ?_
    obtain ⟨x3, hx3, h⟩ := obi h
    refine v_gR (dq D_X8_fetch 13 rfl) fa_RX8_35 hx3 ?_
    obtain ⟨q4, hq4, h⟩ := obi h
    refine v_cVi (bc := 0) (bs := 0) (As := []) (dq D_X8_fetch 14 rfl) cv_X3_whyNotTake ml_RX8_220 (itg hq4).1 (m_X3_whyNotTake hq4) rfl rfl (Nat.le_of_ble_eq_true rfl) ⟨Nat.le_of_ble_eq_true rfl, Nat.le_of_ble_eq_true rfl⟩ ⟨Nat.le_of_ble_eq_true rfl, Nat.le_of_ble_eq_true rfl⟩ ?_
    refine v_istore_n (dq D_X8_fetch 15 rfl) [(1, .int q4.1), (0, .ref a0)] rfl (Nat.le_of_ble_eq_true rfl) rfl ?_
    refine v_aload_n (dq D_X8_fetch 16 rfl) 1 rfl ?_
    refine v_iload_n (dq D_X8_fetch 17 rfl) 0 rfl ?_
    refine v_iconst (dq D_X8_fetch 18 rfl) kc_1 ?_
    refine v_icmp_ne (dq D_X8_fetch 19 rfl) rfl (fun c5 => ?_) (fun c5 => ?_)
    · have h := itn h c5
      refine v_iconst (dq D_X8_fetch 22 rfl) kc_0 ?_
      exact v_sub [1, 0] rfl (w_X8_fetch_41 h)
    · have h := itp h c5
      refine v_iconst (dq D_X8_fetch 20 rfl) kc_1 ?_
      refine v_goto (dq D_X8_fetch 21 rfl) rfl ?_
      exact v_sub [1, 0] rfl (w_X8_fetch_41 h)
  · have h := itn h c2
    refine v_iconst (dq D_X8_fetch 10 rfl) kc_m1 ?_
    obtain rfl := Option.some.inj h
    exact v_iret (dq D_X8_fetch 11 rfl) rfl ⟨rfl, rfl⟩
theorem w_X8_fetch_0 {sa : Env3} {a0 : Nat} {σ : St} {r : Int32 × St} (h : f_X8_fetch_0 a0 σ = some r) : VV sa cX8_fetch K_X8_fetch 0 [(0, .ref a0)] [] σ (pO r) 0 0 := by
  unfold f_X8_fetch_0 at h
  refine v_aload_n (dq D_X8_fetch 0 rfl) 0 rfl ?_
  refine v_aload_n (dq D_X8_fetch 1 rfl) 0 rfl ?_
  obtain ⟨x1, hx1, h⟩ := obi h
  refine v_gI (dq D_X8_fetch 2 rfl) fa_RX8_70 hx1 ?_
  refine v_if_ne (dq D_X8_fetch 3 rfl) rfl (fun c2 => ?_) (fun c2 => ?_)
  · have h := itn h c2
    refine v_iconst (dq D_X8_fetch 6 rfl) kc_0 ?_
    exact w_X8_fetch_13 h
  · have h := itp h c2
    refine v_iconst (dq D_X8_fetch 4 rfl) kc_1 ?_
    refine v_goto (dq D_X8_fetch 5 rfl) rfl ?_
    exact w_X8_fetch_13 h
theorem m_X8_fetch {sa : Env3} {a0 : Nat} {σ : St} {r : Int32 × St} (h : f_X8_fetch a0 σ = some r) : Ex sa yX8_fetch cX8_fetch K_X8_fetch [.ref a0] σ (pO r) := Ex.of (by decide) rfl (fun q => nomatch q) (Nat.le_of_ble_eq_true rfl) (w_X8_fetch_0 (itg h).2)
theorem w_X8_fetchable_13 {sa : Env3} {a0 : Nat} {s0 : Nat} {s1 : Int32} {σ : St} {r : Int32 × St} (h : f_X8_fetchable_13 a0 s0 s1 σ = some r) : VV sa cX8_fetchable K_X8_fetchable 13 [(0, .ref a0)] [.int s1, .ref s0] σ (pO r) 0 0 := by
  unfold f_X8_fetchable_13 at h
  refine v_iconst (dq D_X8_fetchable 7 rfl) kc_1 ?_
  obtain ⟨q1, hq1, h⟩ := obi h
  refine v_cVi (bc := 0) (bs := 0) (As := [.int s1, .int 1]) (dq D_X8_fetchable 8 rfl) cv_X8_refused ml_RX8_85 (itg hq1).1 (m_X8_refused hq1) rfl rfl (Nat.le_of_ble_eq_true rfl) ⟨Nat.le_of_ble_eq_true rfl, Nat.le_of_ble_eq_true rfl⟩ ⟨Nat.le_of_ble_eq_true rfl, Nat.le_of_ble_eq_true rfl⟩ ?_
  refine v_if_eq (dq D_X8_fetchable 9 rfl) rfl (fun c2 => ?_) (fun c2 => ?_)
  · have h := itp h c2
    refine v_aload_n (dq D_X8_fetchable 12 rfl) 0 rfl ?_
    obtain ⟨x3, hx3, h⟩ := obi h
    refine v_gR (dq D_X8_fetchable 13 rfl) fa_RX8_35 hx3 ?_
    obtain ⟨q4, hq4, h⟩ := obi h
    refine v_cVi (bc := 0) (bs := 0) (As := []) (dq D_X8_fetchable 14 rfl) cv_X3_whyNotTake ml_RX8_220 (itg hq4).1 (m_X3_whyNotTake hq4) rfl rfl (Nat.le_of_ble_eq_true rfl) ⟨Nat.le_of_ble_eq_true rfl, Nat.le_of_ble_eq_true rfl⟩ ⟨Nat.le_of_ble_eq_true rfl, Nat.le_of_ble_eq_true rfl⟩ ?_
    obtain rfl := Option.some.inj h
    exact v_iret (dq D_X8_fetchable 15 rfl) rfl ⟨rfl, rfl⟩
  · have h := itn h c2
    refine v_iconst (dq D_X8_fetchable 10 rfl) kc_m1 ?_
    obtain rfl := Option.some.inj h
    exact v_iret (dq D_X8_fetchable 11 rfl) rfl ⟨rfl, rfl⟩
theorem w_X8_fetchable_0 {sa : Env3} {a0 : Nat} {σ : St} {r : Int32 × St} (h : f_X8_fetchable_0 a0 σ = some r) : VV sa cX8_fetchable K_X8_fetchable 0 [(0, .ref a0)] [] σ (pO r) 0 0 := by
  unfold f_X8_fetchable_0 at h
  refine v_aload_n (dq D_X8_fetchable 0 rfl) 0 rfl ?_
  refine v_aload_n (dq D_X8_fetchable 1 rfl) 0 rfl ?_
  obtain ⟨x1, hx1, h⟩ := obi h
  refine v_gI (dq D_X8_fetchable 2 rfl) fa_RX8_70 hx1 ?_
  refine v_if_ne (dq D_X8_fetchable 3 rfl) rfl (fun c2 => ?_) (fun c2 => ?_)
  · have h := itn h c2
    refine v_iconst (dq D_X8_fetchable 6 rfl) kc_0 ?_
    exact w_X8_fetchable_13 h
  · have h := itp h c2
    refine v_iconst (dq D_X8_fetchable 4 rfl) kc_1 ?_
    refine v_goto (dq D_X8_fetchable 5 rfl) rfl ?_
    exact w_X8_fetchable_13 h
theorem m_X8_fetchable {sa : Env3} {a0 : Nat} {σ : St} {r : Int32 × St} (h : f_X8_fetchable a0 σ = some r) : Ex sa yX8_fetchable cX8_fetchable K_X8_fetchable [.ref a0] σ (pO r) := Ex.of (by decide) rfl (fun q => nomatch q) (Nat.le_of_ble_eq_true rfl) (w_X8_fetchable_0 (itg h).2)
theorem w_X8_fitAt_28 {sa : Env3} {a0 : Nat} {a1 : Int32} {s0 : Nat} {s1 : Int32} {σ : St} {r : Int32 × St} (h : f_X8_fitAt_28 a0 a1 s0 s1 σ = some r) : VV sa cX8_fitAt K_X8_fitAt 28 [(0, .ref a0), (1, .int a1)] [.int s1, .ref s0] σ (pO r) 0 0 := by
  unfold f_X8_fitAt_28 at h
  refine v_iconst (dq D_X8_fitAt 14 rfl) kc_1 ?_
  obtain ⟨q1, hq1, h⟩ := obi h
  refine v_cVi (bc := 0) (bs := 0) (As := [.int s1, .int 1]) (dq D_X8_fitAt 15 rfl) cv_X8_refused ml_RX8_85 (itg hq1).1 (m_X8_refused hq1) rfl rfl (Nat.le_of_ble_eq_true rfl) ⟨Nat.le_of_ble_eq_true rfl, Nat.le_of_ble_eq_true rfl⟩ ⟨Nat.le_of_ble_eq_true rfl, Nat.le_of_ble_eq_true rfl⟩ ?_
  refine v_if_eq (dq D_X8_fitAt 16 rfl) rfl (fun c2 => ?_) (fun c2 => ?_)
  · have h := itp h c2
    refine v_aload_n (dq D_X8_fitAt 19 rfl) 0 rfl ?_
    obtain ⟨x3, hx3, h⟩ := obi h
    refine v_gR (dq D_X8_fitAt 20 rfl) fa_RX8_66 hx3 ?_
    refine v_iload_n (dq D_X8_fitAt 21 rfl) 1 rfl ?_
    obtain ⟨q4, hq4, h⟩ := obi h
    refine v_cVi (bc := 0) (bs := 0) (As := [.int a1]) (dq D_X8_fitAt 22 rfl) cv_X1_nth ml_RX8_262 (itg hq4).1 (m_X1_nth hq4) rfl rfl (Nat.le_of_ble_eq_true rfl) ⟨Nat.le_of_ble_eq_true rfl, Nat.le_of_ble_eq_true rfl⟩ ⟨Nat.le_of_ble_eq_true rfl, Nat.le_of_ble_eq_true rfl⟩ ?_
    obtain rfl := Option.some.inj h
    exact v_iret (dq D_X8_fitAt 23 rfl) rfl ⟨rfl, rfl⟩
  · have h := itn h c2
    refine v_iconst (dq D_X8_fitAt 17 rfl) kc_m1 ?_
    obtain rfl := Option.some.inj h
    exact v_iret (dq D_X8_fitAt 18 rfl) rfl ⟨rfl, rfl⟩
theorem w_X8_fitAt_23 {sa : Env3} {a0 : Nat} {a1 : Int32} {s0 : Nat} {σ : St} {r : Int32 × St} (h : f_X8_fitAt_23 a0 a1 s0 σ = some r) : VV sa cX8_fitAt K_X8_fitAt 23 [(0, .ref a0), (1, .int a1)] [.ref s0] σ (pO r) 0 0 := by
  unfold f_X8_fitAt_23 at h
  refine v_iconst (dq D_X8_fitAt 11 rfl) kc_1 ?_
  refine v_goto (dq D_X8_fitAt 12 rfl) rfl ?_
  exact w_X8_fitAt_28 h
theorem w_X8_fitAt_0 {sa : Env3} {a0 : Nat} {a1 : Int32} {σ : St} {r : Int32 × St} (h : f_X8_fitAt_0 a0 a1 σ = some r) : VV sa cX8_fitAt K_X8_fitAt 0 [(0, .ref a0), (1, .int a1)] [] σ (pO r) 0 0 := by
  unfold f_X8_fitAt_0 at h
  refine v_aload_n (dq D_X8_fitAt 0 rfl) 0 rfl ?_
  refine v_aload_n (dq D_X8_fitAt 1 rfl) 0 rfl ?_
  obtain ⟨x1, hx1, h⟩ := obi h
  refine v_gI (dq D_X8_fitAt 2 rfl) fa_RX8_70 hx1 ?_
  refine v_if_eq (dq D_X8_fitAt 3 rfl) rfl (fun c2 => ?_) (fun c2 => ?_)
  · have h := itp h c2
    exact w_X8_fitAt_23 h
  · have h := itn h c2
    refine v_iload_n (dq D_X8_fitAt 4 rfl) 1 rfl ?_
    refine v_if_lt (dq D_X8_fitAt 5 rfl) rfl (fun c3 => ?_) (fun c3 => ?_)
    · have h := itp h c3
      exact w_X8_fitAt_23 h
    · have h := itn h c3
      refine v_iload_n (dq D_X8_fitAt 6 rfl) 1 rfl ?_
      refine v_aload_n (dq D_X8_fitAt 7 rfl) 0 rfl ?_
      obtain ⟨x4, hx4, h⟩ := obi h
      refine v_gR (dq D_X8_fitAt 8 rfl) fa_RX8_66 hx4 ?_
      obtain ⟨q5, hq5, h⟩ := obi h
      refine v_cVi (bc := 0) (bs := 0) (As := []) (dq D_X8_fitAt 9 rfl) cv_X1_howMany ml_RX8_259 (itg hq5).1 (m_X1_howMany hq5) rfl rfl (Nat.le_of_ble_eq_true rfl) ⟨Nat.le_of_ble_eq_true rfl, Nat.le_of_ble_eq_true rfl⟩ ⟨Nat.le_of_ble_eq_true rfl, Nat.le_of_ble_eq_true rfl⟩ ?_
      refine v_icmp_lt (dq D_X8_fitAt 10 rfl) rfl (fun c6 => ?_) (fun c6 => ?_)
      · have h := itp h c6
        refine v_iconst (dq D_X8_fitAt 13 rfl) kc_0 ?_
        exact w_X8_fitAt_28 h
      · have h := itn h c6
        exact w_X8_fitAt_23 h
theorem m_X8_fitAt {sa : Env3} {a0 : Nat} {a1 : Int32} {σ : St} {r : Int32 × St} (h : f_X8_fitAt a0 a1 σ = some r) : Ex sa yX8_fitAt cX8_fitAt K_X8_fitAt [.ref a0, .int a1] σ (pO r) := Ex.of (by decide) rfl (fun q => nomatch q) (Nat.le_of_ble_eq_true rfl) (w_X8_fitAt_0 (itg h).2)
theorem w_X8_fits_13 {sa : Env3} {a0 : Nat} {s0 : Nat} {s1 : Int32} {σ : St} {r : Int32 × St} (h : f_X8_fits_13 a0 s0 s1 σ = some r) : VV sa cX8_fits K_X8_fits 13 [(0, .ref a0)] [.int s1, .ref s0] σ (pO r) 0 0 := by
  unfold f_X8_fits_13 at h
  refine v_iconst (dq D_X8_fits 7 rfl) kc_1 ?_
  obtain ⟨q1, hq1, h⟩ := obi h
  refine v_cVi (bc := 0) (bs := 0) (As := [.int s1, .int 1]) (dq D_X8_fits 8 rfl) cv_X8_refused ml_RX8_85 (itg hq1).1 (m_X8_refused hq1) rfl rfl (Nat.le_of_ble_eq_true rfl) ⟨Nat.le_of_ble_eq_true rfl, Nat.le_of_ble_eq_true rfl⟩ ⟨Nat.le_of_ble_eq_true rfl, Nat.le_of_ble_eq_true rfl⟩ ?_
  refine v_if_eq (dq D_X8_fits 9 rfl) rfl (fun c2 => ?_) (fun c2 => ?_)
  · have h := itp h c2
    refine v_aload_n (dq D_X8_fits 12 rfl) 0 rfl ?_
    obtain ⟨x3, hx3, h⟩ := obi h
    refine v_gR (dq D_X8_fits 13 rfl) fa_RX8_66 hx3 ?_
    obtain ⟨q4, hq4, h⟩ := obi h
    refine v_cVi (bc := 0) (bs := 0) (As := []) (dq D_X8_fits 14 rfl) cv_X1_howMany ml_RX8_259 (itg hq4).1 (m_X1_howMany hq4) rfl rfl (Nat.le_of_ble_eq_true rfl) ⟨Nat.le_of_ble_eq_true rfl, Nat.le_of_ble_eq_true rfl⟩ ⟨Nat.le_of_ble_eq_true rfl, Nat.le_of_ble_eq_true rfl⟩ ?_
    obtain rfl := Option.some.inj h
    exact v_iret (dq D_X8_fits 15 rfl) rfl ⟨rfl, rfl⟩
  · have h := itn h c2
    refine v_iconst (dq D_X8_fits 10 rfl) kc_m1 ?_
    obtain rfl := Option.some.inj h
    exact v_iret (dq D_X8_fits 11 rfl) rfl ⟨rfl, rfl⟩
theorem w_X8_fits_0 {sa : Env3} {a0 : Nat} {σ : St} {r : Int32 × St} (h : f_X8_fits_0 a0 σ = some r) : VV sa cX8_fits K_X8_fits 0 [(0, .ref a0)] [] σ (pO r) 0 0 := by
  unfold f_X8_fits_0 at h
  refine v_aload_n (dq D_X8_fits 0 rfl) 0 rfl ?_
  refine v_aload_n (dq D_X8_fits 1 rfl) 0 rfl ?_
  obtain ⟨x1, hx1, h⟩ := obi h
  refine v_gI (dq D_X8_fits 2 rfl) fa_RX8_70 hx1 ?_
  refine v_if_ne (dq D_X8_fits 3 rfl) rfl (fun c2 => ?_) (fun c2 => ?_)
  · have h := itn h c2
    refine v_iconst (dq D_X8_fits 6 rfl) kc_0 ?_
    exact w_X8_fits_13 h
  · have h := itp h c2
    refine v_iconst (dq D_X8_fits 4 rfl) kc_1 ?_
    refine v_goto (dq D_X8_fits 5 rfl) rfl ?_
    exact w_X8_fits_13 h
theorem m_X8_fits {sa : Env3} {a0 : Nat} {σ : St} {r : Int32 × St} (h : f_X8_fits a0 σ = some r) : Ex sa yX8_fits cX8_fits K_X8_fits [.ref a0] σ (pO r) := Ex.of (by decide) rfl (fun q => nomatch q) (Nat.le_of_ble_eq_true rfl) (w_X8_fits_0 (itg h).2)
theorem w_X8_free_13 {sa : Env3} {a0 : Nat} {s0 : Nat} {s1 : Int32} {σ : St} {r : Int32 × St} (h : f_X8_free_13 a0 s0 s1 σ = some r) : VV sa cX8_free K_X8_free 13 [(0, .ref a0)] [.int s1, .ref s0] σ (pO r) 0 0 := by
  unfold f_X8_free_13 at h
  refine v_iconst (dq D_X8_free 7 rfl) kc_1 ?_
  obtain ⟨q1, hq1, h⟩ := obi h
  refine v_cVi (bc := 0) (bs := 0) (As := [.int s1, .int 1]) (dq D_X8_free 8 rfl) cv_X8_refused ml_RX8_85 (itg hq1).1 (m_X8_refused hq1) rfl rfl (Nat.le_of_ble_eq_true rfl) ⟨Nat.le_of_ble_eq_true rfl, Nat.le_of_ble_eq_true rfl⟩ ⟨Nat.le_of_ble_eq_true rfl, Nat.le_of_ble_eq_true rfl⟩ ?_
  refine v_if_eq (dq D_X8_free 9 rfl) rfl (fun c2 => ?_) (fun c2 => ?_)
  · have h := itp h c2
    refine v_aload_n (dq D_X8_free 12 rfl) 0 rfl ?_
    obtain ⟨x3, hx3, h⟩ := obi h
    refine v_gR (dq D_X8_free 13 rfl) fa_RX8_35 hx3 ?_
    refine v_aload_n (dq D_X8_free 14 rfl) 0 rfl ?_
    obtain ⟨x4, hx4, h⟩ := obi h
    refine v_gR (dq D_X8_free 15 rfl) fa_RX8_35 hx4 ?_
    obtain ⟨x5, hx5, h⟩ := obi h
    refine v_gI (dq D_X8_free 16 rfl) fa_RX8_158 hx5 ?_
    obtain ⟨q6, hq6, h⟩ := obi h
    refine v_cVi (bc := 0) (bs := 0) (As := [.int x5]) (dq D_X8_free 17 rfl) cv_X3_freeBits ml_RX8_180 (itg hq6).1 (m_X3_freeBits hq6) rfl rfl (Nat.le_of_ble_eq_true rfl) ⟨Nat.le_of_ble_eq_true rfl, Nat.le_of_ble_eq_true rfl⟩ ⟨Nat.le_of_ble_eq_true rfl, Nat.le_of_ble_eq_true rfl⟩ ?_
    obtain rfl := Option.some.inj h
    exact v_iret (dq D_X8_free 18 rfl) rfl ⟨rfl, rfl⟩
  · have h := itn h c2
    refine v_iconst (dq D_X8_free 10 rfl) kc_m1 ?_
    obtain rfl := Option.some.inj h
    exact v_iret (dq D_X8_free 11 rfl) rfl ⟨rfl, rfl⟩
theorem w_X8_free_0 {sa : Env3} {a0 : Nat} {σ : St} {r : Int32 × St} (h : f_X8_free_0 a0 σ = some r) : VV sa cX8_free K_X8_free 0 [(0, .ref a0)] [] σ (pO r) 0 0 := by
  unfold f_X8_free_0 at h
  refine v_aload_n (dq D_X8_free 0 rfl) 0 rfl ?_
  refine v_aload_n (dq D_X8_free 1 rfl) 0 rfl ?_
  obtain ⟨x1, hx1, h⟩ := obi h
  refine v_gI (dq D_X8_free 2 rfl) fa_RX8_70 hx1 ?_
  refine v_if_ne (dq D_X8_free 3 rfl) rfl (fun c2 => ?_) (fun c2 => ?_)
  · have h := itn h c2
    refine v_iconst (dq D_X8_free 6 rfl) kc_0 ?_
    exact w_X8_free_13 h
  · have h := itp h c2
    refine v_iconst (dq D_X8_free 4 rfl) kc_1 ?_
    refine v_goto (dq D_X8_free 5 rfl) rfl ?_
    exact w_X8_free_13 h
theorem m_X8_free {sa : Env3} {a0 : Nat} {σ : St} {r : Int32 × St} (h : f_X8_free a0 σ = some r) : Ex sa yX8_free cX8_free K_X8_free [.ref a0] σ (pO r) := Ex.of (by decide) rfl (fun q => nomatch q) (Nat.le_of_ble_eq_true rfl) (w_X8_free_0 (itg h).2)
theorem w_X8_gives_14 {sa : Env3} {a0 : Nat} {a1 : Int32} {s0 : Nat} {s1 : Int32} {σ : St} {r : Int32 × St} (h : f_X8_gives_14 a0 a1 s0 s1 σ = some r) : VV sa cX8_gives K_X8_gives 14 [(0, .ref a0), (1, .int a1)] [.int s1, .ref s0] σ (pO r) 0 0 := by
  unfold f_X8_gives_14 at h
  refine v_iconst (dq D_X8_gives 8 rfl) kc_1 ?_
  obtain ⟨q1, hq1, h⟩ := obi h
  refine v_cVi (bc := 0) (bs := 0) (As := [.int s1, .int 1]) (dq D_X8_gives 9 rfl) cv_X8_refused ml_RX8_85 (itg hq1).1 (m_X8_refused hq1) rfl rfl (Nat.le_of_ble_eq_true rfl) ⟨Nat.le_of_ble_eq_true rfl, Nat.le_of_ble_eq_true rfl⟩ ⟨Nat.le_of_ble_eq_true rfl, Nat.le_of_ble_eq_true rfl⟩ ?_
  refine v_if_eq (dq D_X8_gives 10 rfl) rfl (fun c2 => ?_) (fun c2 => ?_)
  · have h := itp h c2
    refine v_aload_n (dq D_X8_gives 13 rfl) 0 rfl ?_
    obtain ⟨x3, hx3, h⟩ := obi h
    refine v_gR (dq D_X8_gives 14 rfl) fa_RX8_35 hx3 ?_
    refine v_iload_n (dq D_X8_gives 15 rfl) 1 rfl ?_
    refine v_iconst (dq D_X8_gives 16 rfl) kc_1 ?_
    refine v_iadd (dq D_X8_gives 17 rfl) ?_
    obtain ⟨q4, hq4, h⟩ := obi h
    refine v_cVi (bc := 0) (bs := 0) (As := [.int (a1 + 1)]) (dq D_X8_gives 18 rfl) cv_X3_freeBits ml_RX8_180 (itg hq4).1 (m_X3_freeBits hq4) rfl rfl (Nat.le_of_ble_eq_true rfl) ⟨Nat.le_of_ble_eq_true rfl, Nat.le_of_ble_eq_true rfl⟩ ⟨Nat.le_of_ble_eq_true rfl, Nat.le_of_ble_eq_true rfl⟩ ?_
    obtain ⟨q5, hq5, h⟩ := obi h
    refine v_cSi (bc := 0) (bs := 0) (As := [.int q4.1]) (dq D_X8_gives 19 rfl) cs_J6_bitCount_0f7a4 ml_RX8_226 (m_J6_bitCount_0f7a4 hq5) rfl rfl (Nat.le_of_ble_eq_true rfl) ⟨Nat.le_of_ble_eq_true rfl, Nat.le_of_ble_eq_true rfl⟩ ⟨Nat.le_of_ble_eq_true rfl, Nat.le_of_ble_eq_true rfl⟩ ?_
    refine v_istore_n (dq D_X8_gives 20 rfl) [(2, .int q5.1), (0, .ref a0), (1, .int a1)] rfl (Nat.le_of_ble_eq_true rfl) rfl ?_
    refine v_iload_n (dq D_X8_gives 21 rfl) 0 rfl ?_
    refine v_aload_n (dq D_X8_gives 22 rfl) 1 rfl ?_
    obtain ⟨x6, hx6, h⟩ := obi h
    refine v_gR (dq D_X8_gives 23 rfl) fa_RX8_35 hx6 ?_
    refine v_aload_n (dq D_X8_gives 24 rfl) 1 rfl ?_
    obtain ⟨x7, hx7, h⟩ := obi h
    refine v_gR (dq D_X8_gives 25 rfl) fa_RX8_35 hx7 ?_
    obtain ⟨x8, hx8, h⟩ := obi h
    refine v_gI (dq D_X8_gives 26 rfl) fa_RX8_158 hx8 ?_
    obtain ⟨q9, hq9, h⟩ := obi h
    refine v_cVi (bc := 0) (bs := 0) (As := [.int x8]) (dq D_X8_gives 27 rfl) cv_X3_freeBits ml_RX8_180 (itg hq9).1 (m_X3_freeBits hq9) rfl rfl (Nat.le_of_ble_eq_true rfl) ⟨Nat.le_of_ble_eq_true rfl, Nat.le_of_ble_eq_true rfl⟩ ⟨Nat.le_of_ble_eq_true rfl, Nat.le_of_ble_eq_true rfl⟩ ?_
    obtain ⟨q10, hq10, h⟩ := obi h
    refine v_cSi (bc := 0) (bs := 0) (As := [.int q9.1]) (dq D_X8_gives 28 rfl) cs_J6_bitCount_0f7a4 ml_RX8_226 (m_J6_bitCount_0f7a4 hq10) rfl rfl (Nat.le_of_ble_eq_true rfl) ⟨Nat.le_of_ble_eq_true rfl, Nat.le_of_ble_eq_true rfl⟩ ⟨Nat.le_of_ble_eq_true rfl, Nat.le_of_ble_eq_true rfl⟩ ?_
    refine v_isub (dq D_X8_gives 29 rfl) ?_
    obtain rfl := Option.some.inj h
    exact v_iret (dq D_X8_gives 30 rfl) rfl ⟨rfl, rfl⟩
  · have h := itn h c2
    refine v_iconst (dq D_X8_gives 11 rfl) kc_m1 ?_
    obtain rfl := Option.some.inj h
    exact v_iret (dq D_X8_gives 12 rfl) rfl ⟨rfl, rfl⟩
theorem w_X8_gives_0 {sa : Env3} {a0 : Nat} {a1 : Int32} {σ : St} {r : Int32 × St} (h : f_X8_gives_0 a0 a1 σ = some r) : VV sa cX8_gives K_X8_gives 0 [(0, .ref a0), (1, .int a1)] [] σ (pO r) 0 0 := by
  unfold f_X8_gives_0 at h
  refine v_aload_n (dq D_X8_gives 0 rfl) 0 rfl ?_
  refine v_aload_n (dq D_X8_gives 1 rfl) 0 rfl ?_
  refine v_iload_n (dq D_X8_gives 2 rfl) 1 rfl ?_
  obtain ⟨q1, hq1, h⟩ := obi h
  refine v_cVi (bc := 0) (bs := 0) (As := [.int a1]) (dq D_X8_gives 3 rfl) cv_X8_isEntry ml_RX8_186 (itg hq1).1 (m_X8_isEntry hq1) rfl rfl (Nat.le_of_ble_eq_true rfl) ⟨Nat.le_of_ble_eq_true rfl, Nat.le_of_ble_eq_true rfl⟩ ⟨Nat.le_of_ble_eq_true rfl, Nat.le_of_ble_eq_true rfl⟩ ?_
  refine v_if_ne (dq D_X8_gives 4 rfl) rfl (fun c2 => ?_) (fun c2 => ?_)
  · have h := itn h c2
    refine v_iconst (dq D_X8_gives 7 rfl) kc_0 ?_
    exact w_X8_gives_14 h
  · have h := itp h c2
    refine v_iconst (dq D_X8_gives 5 rfl) kc_1 ?_
    refine v_goto (dq D_X8_gives 6 rfl) rfl ?_
    exact w_X8_gives_14 h
theorem m_X8_gives {sa : Env3} {a0 : Nat} {a1 : Int32} {σ : St} {r : Int32 × St} (h : f_X8_gives a0 a1 σ = some r) : Ex sa yX8_gives cX8_gives K_X8_gives [.ref a0, .int a1] σ (pO r) := Ex.of (by decide) rfl (fun q => nomatch q) (Nat.le_of_ble_eq_true rfl) (w_X8_gives_0 (itg h).2)
theorem w_X8_image_44 {sa : Env3}  {σ : St} {r : Int32 × St} (h : f_X8_image_44  σ = some r) : VV sa cX8_image K_X8_image 44 [] [] σ (pO r) 0 0 := by
  unfold f_X8_image_44 at h
  refine v_iconst (dq D_X8_image 22 rfl) kc_m1 ?_
  obtain rfl := Option.some.inj h
  exact v_iret (dq D_X8_image 23 rfl) rfl ⟨rfl, rfl⟩
theorem w_X8_image_37 {sa : Env3} {a0 : Nat} {s0 : Nat} {s1 : Int32} {σ : St} {r : Int32 × St} (h : f_X8_image_37 a0 s0 s1 σ = some r) : VV sa cX8_image K_X8_image 37 [(0, .ref a0)] [.int s1, .ref s0] σ (pO r) 0 0 := by
  unfold f_X8_image_37 at h
  refine v_iconst (dq D_X8_image 19 rfl) kc_3 ?_
  obtain ⟨q1, hq1, h⟩ := obi h
  refine v_cVi (bc := 0) (bs := 0) (As := [.int s1, .int 3]) (dq D_X8_image 20 rfl) cv_X8_refused ml_RX8_85 (itg hq1).1 (m_X8_refused hq1) rfl rfl (Nat.le_of_ble_eq_true rfl) ⟨Nat.le_of_ble_eq_true rfl, Nat.le_of_ble_eq_true rfl⟩ ⟨Nat.le_of_ble_eq_true rfl, Nat.le_of_ble_eq_true rfl⟩ ?_
  refine v_if_eq (dq D_X8_image 21 rfl) rfl (fun c2 => ?_) (fun c2 => ?_)
  · have h := itp h c2
    refine v_aload_n (dq D_X8_image 24 rfl) 0 rfl ?_
    obtain ⟨x3, hx3, h⟩ := obi h
    refine v_gR (dq D_X8_image 25 rfl) fa_RX8_45 hx3 ?_
    refine v_aload_n (dq D_X8_image 26 rfl) 0 rfl ?_
    obtain ⟨x4, hx4, h⟩ := obi h
    refine v_gR (dq D_X8_image 27 rfl) fa_RX8_35 hx4 ?_
    obtain ⟨q5, hq5, h⟩ := obi h
    refine v_cVi (bc := 0) (bs := 0) (As := [.ref x4]) (dq D_X8_image 28 rfl) cv_X2_picture ml_RX8_327 (itg hq5).1 (m_X2_picture hq5) rfl rfl (Nat.le_of_ble_eq_true rfl) ⟨Nat.le_of_ble_eq_true rfl, Nat.le_of_ble_eq_true rfl⟩ ⟨Nat.le_of_ble_eq_true rfl, Nat.le_of_ble_eq_true rfl⟩ ?_
    obtain rfl := Option.some.inj h
    exact v_iret (dq D_X8_image 29 rfl) rfl ⟨rfl, rfl⟩
  · have h := itn h c2
    exact v_sub [] rfl (w_X8_image_44 h)
theorem w_X8_image_13 {sa : Env3} {a0 : Nat} {s0 : Nat} {s1 : Int32} {σ : St} {r : Int32 × St} (h : f_X8_image_13 a0 s0 s1 σ = some r) : VV sa cX8_image K_X8_image 13 [(0, .ref a0)] [.int s1, .ref s0] σ (pO r) 0 0 := by
  unfold f_X8_image_13 at h
  refine v_iconst (dq D_X8_image 7 rfl) kc_1 ?_
  obtain ⟨q1, hq1, h⟩ := obi h
  refine v_cVi (bc := 0) (bs := 0) (As := [.int s1, .int 1]) (dq D_X8_image 8 rfl) cv_X8_refused ml_RX8_85 (itg hq1).1 (m_X8_refused hq1) rfl rfl (Nat.le_of_ble_eq_true rfl) ⟨Nat.le_of_ble_eq_true rfl, Nat.le_of_ble_eq_true rfl⟩ ⟨Nat.le_of_ble_eq_true rfl, Nat.le_of_ble_eq_true rfl⟩ ?_
  refine v_if_ne (dq D_X8_image 9 rfl) rfl (fun c2 => ?_) (fun c2 => ?_)
  · have h := itn h c2
    exact v_sub [] rfl (w_X8_image_44 h)
  · have h := itp h c2
    refine v_aload_n (dq D_X8_image 10 rfl) 0 rfl ?_
    refine v_aload_n (dq D_X8_image 11 rfl) 0 rfl ?_
    obtain ⟨x3, hx3, h⟩ := obi h
    refine v_gR (dq D_X8_image 12 rfl) fa_RX8_45 hx3 ?_
    obtain ⟨x4, hx4, h⟩ := obi h
    refine v_gI (dq D_X8_image 13 rfl) fa_RX8_324 hx4 ?_
    refine v_iconst (dq D_X8_image 14 rfl) kc_3 ?_
    refine v_icmp_lt (dq D_X8_image 15 rfl) rfl (fun c5 => ?_) (fun c5 => ?_)
    · have h := itp h c5
      refine v_iconst (dq D_X8_image 18 rfl) kc_0 ?_
      exact w_X8_image_37 h
    · have h := itn h c5
      refine v_iconst (dq D_X8_image 16 rfl) kc_1 ?_
      refine v_goto (dq D_X8_image 17 rfl) rfl ?_
      exact w_X8_image_37 h
theorem w_X8_image_0 {sa : Env3} {a0 : Nat} {σ : St} {r : Int32 × St} (h : f_X8_image_0 a0 σ = some r) : VV sa cX8_image K_X8_image 0 [(0, .ref a0)] [] σ (pO r) 0 0 := by
  unfold f_X8_image_0 at h
  refine v_aload_n (dq D_X8_image 0 rfl) 0 rfl ?_
  refine v_aload_n (dq D_X8_image 1 rfl) 0 rfl ?_
  obtain ⟨x1, hx1, h⟩ := obi h
  refine v_gI (dq D_X8_image 2 rfl) fa_RX8_70 hx1 ?_
  refine v_if_ne (dq D_X8_image 3 rfl) rfl (fun c2 => ?_) (fun c2 => ?_)
  · have h := itn h c2
    refine v_iconst (dq D_X8_image 6 rfl) kc_0 ?_
    exact w_X8_image_13 h
  · have h := itp h c2
    refine v_iconst (dq D_X8_image 4 rfl) kc_1 ?_
    refine v_goto (dq D_X8_image 5 rfl) rfl ?_
    exact w_X8_image_13 h
theorem m_X8_image {sa : Env3} {a0 : Nat} {σ : St} {r : Int32 × St} (h : f_X8_image a0 σ = some r) : Ex sa yX8_image cX8_image K_X8_image [.ref a0] σ (pO r) := Ex.of (by decide) rfl (fun q => nomatch q) (Nat.le_of_ble_eq_true rfl) (w_X8_image_0 (itg h).2)
theorem w_X8_init_0 {sa : Env3} {a0 : Nat} {σ : St} {r : St} (h : f_X8_init_0 a0 σ = some r) : VV sa cX8_init K_X8_init 0 [(0, .ref a0)] [] σ (pU r) 194 6287 := by
  unfold f_X8_init_0 at h
  refine v_aload_n (dq D_X8_init 0 rfl) 0 rfl ?_
  refine v_objI (dq D_X8_init 1 rfl) tw_29 tw_30 tw_31 (Nat.le_of_ble_eq_true rfl) (Nat.le_of_ble_eq_true rfl) ?_
  refine v_aload_n (dq D_X8_init 2 rfl) 0 rfl ?_
  refine v_sipush (dq D_X8_init 3 rfl) ks_900 ?_
  obtain ⟨σ1, hσ1, h⟩ := bnd_inv h
  refine v_newa (t := 21) (N := 900) (bc := 193) (bs := 5387) (dq D_X8_init 4 rfl) rfl (Or.inl ⟨rfl, rfl, rfl⟩) tw_130 (by decide) (by decide) (Nat.le_of_ble_eq_true rfl) ⟨Nat.le_of_ble_eq_true rfl, Nat.le_of_ble_eq_true rfl⟩ hσ1 ?_
  obtain ⟨σ2, hσ2, h⟩ := obi h
  refine v_pP (dq D_X8_init 5 rfl) fp_RX8_9 (fun _ => rfl) hσ2 ?_
  refine v_aload_n (dq D_X8_init 6 rfl) 0 rfl ?_
  obtain ⟨σ3, hσ3, h⟩ := bnd_inv h
  refine v_new (bc := 192) (bs := 5369) (dq D_X8_init 7 rfl) cc5 tw_32 ⟨Nat.le_of_ble_eq_true rfl, Nat.le_of_ble_eq_true rfl⟩ hσ3 ?_
  refine v_dup (dq D_X8_init 8 rfl) rfl ?_
  obtain ⟨σ4, hσ4, h⟩ := obi h
  refine v_cIv (bc := 182) (bs := 5205) (As := []) (dq D_X8_init 9 rfl) ci_X5_init ml_RX8_15 (m_X5_init hσ4) rfl rfl (Nat.le_of_ble_eq_true rfl) ⟨Nat.le_of_ble_eq_true rfl, Nat.le_of_ble_eq_true rfl⟩ ⟨Nat.le_of_ble_eq_true rfl, Nat.le_of_ble_eq_true rfl⟩ ?_
  obtain ⟨σ5, hσ5, h⟩ := obi h
  refine v_pP (dq D_X8_init 10 rfl) fp_RX8_16 (fun q => nomatch q) hσ5 ?_
  refine v_aload_n (dq D_X8_init 11 rfl) 0 rfl ?_
  obtain ⟨σ6, hσ6, h⟩ := bnd_inv h
  refine v_new (bc := 181) (bs := 5187) (dq D_X8_init 12 rfl) cc5 tw_32 ⟨Nat.le_of_ble_eq_true rfl, Nat.le_of_ble_eq_true rfl⟩ hσ6 ?_
  refine v_dup (dq D_X8_init 13 rfl) rfl ?_
  obtain ⟨σ7, hσ7, h⟩ := obi h
  refine v_cIv (bc := 171) (bs := 5023) (As := []) (dq D_X8_init 14 rfl) ci_X5_init ml_RX8_15 (m_X5_init hσ7) rfl rfl (Nat.le_of_ble_eq_true rfl) ⟨Nat.le_of_ble_eq_true rfl, Nat.le_of_ble_eq_true rfl⟩ ⟨Nat.le_of_ble_eq_true rfl, Nat.le_of_ble_eq_true rfl⟩ ?_
  obtain ⟨σ8, hσ8, h⟩ := obi h
  refine v_pP (dq D_X8_init 15 rfl) fp_RX8_20 (fun q => nomatch q) hσ8 ?_
  refine v_aload_n (dq D_X8_init 16 rfl) 0 rfl ?_
  obtain ⟨σ9, hσ9, h⟩ := bnd_inv h
  refine v_new (bc := 170) (bs := 5015) (dq D_X8_init 17 rfl) cc6 tw_133 ⟨Nat.le_of_ble_eq_true rfl, Nat.le_of_ble_eq_true rfl⟩ hσ9 ?_
  refine v_dup (dq D_X8_init 18 rfl) rfl ?_
  refine v_aload_n (dq D_X8_init 19 rfl) 0 rfl ?_
  obtain ⟨x10, hx10, h⟩ := obi h
  refine v_gR (dq D_X8_init 20 rfl) fa_RX8_20 hx10 ?_
  obtain ⟨σ11, hσ11, h⟩ := obi h
  refine v_cIv (bc := 165) (bs := 2308) (As := [.ref x10]) (dq D_X8_init 21 rfl) ci_X6_init ml_RX8_25 (m_X6_init hσ11) rfl rfl (Nat.le_of_ble_eq_true rfl) ⟨Nat.le_of_ble_eq_true rfl, Nat.le_of_ble_eq_true rfl⟩ ⟨Nat.le_of_ble_eq_true rfl, Nat.le_of_ble_eq_true rfl⟩ ?_
  obtain ⟨σ12, hσ12, h⟩ := obi h
  refine v_pP (dq D_X8_init 22 rfl) fp_RX8_28 (fun _ => rfl) hσ12 ?_
  refine v_aload_n (dq D_X8_init 23 rfl) 0 rfl ?_
  obtain ⟨σ13, hσ13, h⟩ := bnd_inv h
  refine v_new (bc := 164) (bs := 2288) (dq D_X8_init 24 rfl) cc3 tw_189 ⟨Nat.le_of_ble_eq_true rfl, Nat.le_of_ble_eq_true rfl⟩ hσ13 ?_
  refine v_dup (dq D_X8_init 25 rfl) rfl ?_
  refine v_aload_n (dq D_X8_init 26 rfl) 0 rfl ?_
  obtain ⟨x14, hx14, h⟩ := obi h
  refine v_gR (dq D_X8_init 27 rfl) fa_RX8_16 hx14 ?_
  obtain ⟨σ15, hσ15, h⟩ := obi h
  refine v_cIv (bc := 158) (bs := 2208) (As := [.ref x14]) (dq D_X8_init 28 rfl) ci_X3_init ml_RX8_34 (m_X3_init hσ15) rfl rfl (Nat.le_of_ble_eq_true rfl) ⟨Nat.le_of_ble_eq_true rfl, Nat.le_of_ble_eq_true rfl⟩ ⟨Nat.le_of_ble_eq_true rfl, Nat.le_of_ble_eq_true rfl⟩ ?_
  obtain ⟨σ16, hσ16, h⟩ := obi h
  refine v_pP (dq D_X8_init 29 rfl) fp_RX8_35 (fun _ => rfl) hσ16 ?_
  refine v_aload_n (dq D_X8_init 30 rfl) 0 rfl ?_
  obtain ⟨σ17, hσ17, h⟩ := bnd_inv h
  refine v_new (bc := 157) (bs := 2188) (dq D_X8_init 31 rfl) cc3 tw_189 ⟨Nat.le_of_ble_eq_true rfl, Nat.le_of_ble_eq_true rfl⟩ hσ17 ?_
  refine v_dup (dq D_X8_init 32 rfl) rfl ?_
  refine v_aload_n (dq D_X8_init 33 rfl) 0 rfl ?_
  obtain ⟨x18, hx18, h⟩ := obi h
  refine v_gR (dq D_X8_init 34 rfl) fa_RX8_16 hx18 ?_
  obtain ⟨σ19, hσ19, h⟩ := obi h
  refine v_cIv (bc := 151) (bs := 2108) (As := [.ref x18]) (dq D_X8_init 35 rfl) ci_X3_init ml_RX8_34 (m_X3_init hσ19) rfl rfl (Nat.le_of_ble_eq_true rfl) ⟨Nat.le_of_ble_eq_true rfl, Nat.le_of_ble_eq_true rfl⟩ ⟨Nat.le_of_ble_eq_true rfl, Nat.le_of_ble_eq_true rfl⟩ ?_
  obtain ⟨σ20, hσ20, h⟩ := obi h
  refine v_pP (dq D_X8_init 36 rfl) fp_RX8_39 (fun _ => rfl) hσ20 ?_
  refine v_aload_n (dq D_X8_init 37 rfl) 0 rfl ?_
  obtain ⟨σ21, hσ21, h⟩ := bnd_inv h
  refine v_new (bc := 150) (bs := 2103) (dq D_X8_init 38 rfl) cc2 tw_274 ⟨Nat.le_of_ble_eq_true rfl, Nat.le_of_ble_eq_true rfl⟩ hσ21 ?_
  refine v_dup (dq D_X8_init 39 rfl) rfl ?_
  refine v_aload_n (dq D_X8_init 40 rfl) 0 rfl ?_
  obtain ⟨x22, hx22, h⟩ := obi h
  refine v_gR (dq D_X8_init 41 rfl) fa_RX8_16 hx22 ?_
  obtain ⟨σ23, hσ23, h⟩ := obi h
  refine v_cIv (bc := 15) (bs := 184) (As := [.ref x22]) (dq D_X8_init 42 rfl) ci_X2_init ml_RX8_44 (m_X2_init hσ23) rfl rfl (Nat.le_of_ble_eq_true rfl) ⟨Nat.le_of_ble_eq_true rfl, Nat.le_of_ble_eq_true rfl⟩ ⟨Nat.le_of_ble_eq_true rfl, Nat.le_of_ble_eq_true rfl⟩ ?_
  obtain ⟨σ24, hσ24, h⟩ := obi h
  refine v_pP (dq D_X8_init 43 rfl) fp_RX8_45 (fun _ => rfl) hσ24 ?_
  refine v_aload_n (dq D_X8_init 44 rfl) 0 rfl ?_
  obtain ⟨σ25, hσ25, h⟩ := bnd_inv h
  refine v_new (bc := 14) (bs := 179) (dq D_X8_init 45 rfl) cc4 tw_301 ⟨Nat.le_of_ble_eq_true rfl, Nat.le_of_ble_eq_true rfl⟩ hσ25 ?_
  refine v_dup (dq D_X8_init 46 rfl) rfl ?_
  obtain ⟨σ26, hσ26, h⟩ := obi h
  refine v_cIv (bc := 13) (bs := 171) (As := []) (dq D_X8_init 47 rfl) ci_X4_init ml_RX8_51 (m_X4_init hσ26) rfl rfl (Nat.le_of_ble_eq_true rfl) ⟨Nat.le_of_ble_eq_true rfl, Nat.le_of_ble_eq_true rfl⟩ ⟨Nat.le_of_ble_eq_true rfl, Nat.le_of_ble_eq_true rfl⟩ ?_
  obtain ⟨σ27, hσ27, h⟩ := obi h
  refine v_pP (dq D_X8_init 48 rfl) fp_RX8_52 (fun _ => rfl) hσ27 ?_
  refine v_aload_n (dq D_X8_init 49 rfl) 0 rfl ?_
  obtain ⟨σ28, hσ28, h⟩ := bnd_inv h
  refine v_new (bc := 12) (bs := 166) (dq D_X8_init 50 rfl) cc0 tw_328 ⟨Nat.le_of_ble_eq_true rfl, Nat.le_of_ble_eq_true rfl⟩ hσ28 ?_
  refine v_dup (dq D_X8_init 51 rfl) rfl ?_
  refine v_aload_n (dq D_X8_init 52 rfl) 0 rfl ?_
  obtain ⟨x29, hx29, h⟩ := obi h
  refine v_gR (dq D_X8_init 53 rfl) fa_RX8_16 hx29 ?_
  obtain ⟨σ30, hσ30, h⟩ := obi h
  refine v_cIv (bc := 1) (bs := 2) (As := [.ref x29]) (dq D_X8_init 54 rfl) ci_X0_init ml_RX8_58 (m_X0_init hσ30) rfl rfl (Nat.le_of_ble_eq_true rfl) ⟨Nat.le_of_ble_eq_true rfl, Nat.le_of_ble_eq_true rfl⟩ ⟨Nat.le_of_ble_eq_true rfl, Nat.le_of_ble_eq_true rfl⟩ ?_
  obtain ⟨σ31, hσ31, h⟩ := obi h
  refine v_pP (dq D_X8_init 55 rfl) fp_RX8_59 (fun _ => rfl) hσ31 ?_
  refine v_aload_n (dq D_X8_init 56 rfl) 0 rfl ?_
  obtain ⟨σ32, hσ32, h⟩ := bnd_inv h
  refine v_new (bc := 0) (bs := 0) (dq D_X8_init 57 rfl) cc1 tw_356 ⟨Nat.le_of_ble_eq_true rfl, Nat.le_of_ble_eq_true rfl⟩ hσ32 ?_
  refine v_dup (dq D_X8_init 58 rfl) rfl ?_
  obtain ⟨σ33, hσ33, h⟩ := obi h
  refine v_cIv (bc := 0) (bs := 0) (As := []) (dq D_X8_init 59 rfl) ci_X1_init ml_RX8_65 (m_X1_init hσ33) rfl rfl (Nat.le_of_ble_eq_true rfl) ⟨Nat.le_of_ble_eq_true rfl, Nat.le_of_ble_eq_true rfl⟩ ⟨Nat.le_of_ble_eq_true rfl, Nat.le_of_ble_eq_true rfl⟩ ?_
  obtain ⟨σ34, hσ34, h⟩ := obi h
  refine v_pP (dq D_X8_init 60 rfl) fp_RX8_66 (fun _ => rfl) hσ34 ?_
  refine v_aload_n (dq D_X8_init 61 rfl) 0 rfl ?_
  refine v_iconst (dq D_X8_init 62 rfl) kc_0 ?_
  obtain ⟨σ35, hσ35, h⟩ := obi h
  refine v_pZ (dq D_X8_init 63 rfl) fp_RX8_70 hσ35 ?_
  refine v_aload_n (dq D_X8_init 64 rfl) 0 rfl ?_
  refine v_iconst (dq D_X8_init 65 rfl) kc_0 ?_
  obtain ⟨σ36, hσ36, h⟩ := obi h
  refine v_pI (dq D_X8_init 66 rfl) fp_RX8_74 hσ36 ?_
  refine v_aload_n (dq D_X8_init 67 rfl) 0 rfl ?_
  refine v_iconst (dq D_X8_init 68 rfl) kc_0 ?_
  obtain ⟨σ37, hσ37, h⟩ := obi h
  refine v_pI (dq D_X8_init 69 rfl) fp_RX8_78 hσ37 ?_
  obtain rfl := Option.some.inj h
  exact v_vret (dq D_X8_init 70 rfl) rfl ⟨rfl, rfl⟩
theorem m_X8_init {sa : Env3} {a0 : Nat} {σ : St} {r : St} (h : f_X8_init a0 σ = some r) : Ex sa yX8_init cX8_init K_X8_init [.ref a0] σ (pU r) := Ex.of (by decide) rfl (fun _ => rfl) (Nat.le_of_ble_eq_true rfl) (w_X8_init_0 (itg h).2)
theorem w_X8_judge_13 {sa : Env3} {a0 : Nat} {s0 : Nat} {s1 : Int32} {σ : St} {r : Int32 × St} (h : f_X8_judge_13 a0 s0 s1 σ = some r) : VV sa cX8_judge K_X8_judge 13 [(0, .ref a0)] [.int s1, .ref s0] σ (pO r) 0 0 := by
  unfold f_X8_judge_13 at h
  refine v_iconst (dq D_X8_judge 7 rfl) kc_1 ?_
  obtain ⟨q1, hq1, h⟩ := obi h
  refine v_cVi (bc := 0) (bs := 0) (As := [.int s1, .int 1]) (dq D_X8_judge 8 rfl) cv_X8_refused ml_RX8_85 (itg hq1).1 (m_X8_refused hq1) rfl rfl (Nat.le_of_ble_eq_true rfl) ⟨Nat.le_of_ble_eq_true rfl, Nat.le_of_ble_eq_true rfl⟩ ⟨Nat.le_of_ble_eq_true rfl, Nat.le_of_ble_eq_true rfl⟩ ?_
  refine v_if_eq (dq D_X8_judge 9 rfl) rfl (fun c2 => ?_) (fun c2 => ?_)
  · have h := itp h c2
    refine v_aload_n (dq D_X8_judge 12 rfl) 0 rfl ?_
    obtain ⟨x3, hx3, h⟩ := obi h
    refine v_gR (dq D_X8_judge 13 rfl) fa_RX8_52 hx3 ?_
    refine v_aload_n (dq D_X8_judge 14 rfl) 0 rfl ?_
    obtain ⟨x4, hx4, h⟩ := obi h
    refine v_gR (dq D_X8_judge 15 rfl) fa_RX8_16 hx4 ?_
    refine v_iconst (dq D_X8_judge 16 rfl) kc_0 ?_
    refine v_sipush (dq D_X8_judge 17 rfl) ks_200 ?_
    obtain ⟨σ5, hσ5, h⟩ := obi h
    refine v_cVv (bc := 0) (bs := 0) (As := [.ref x4, .int 0, .int 200]) (dq D_X8_judge 18 rfl) cv_X4_play ml_RX8_124 (itg hσ5).1 (m_X4_play hσ5) rfl rfl (Nat.le_of_ble_eq_true rfl) ⟨Nat.le_of_ble_eq_true rfl, Nat.le_of_ble_eq_true rfl⟩ ⟨Nat.le_of_ble_eq_true rfl, Nat.le_of_ble_eq_true rfl⟩ ?_
    refine v_aload_n (dq D_X8_judge 19 rfl) 0 rfl ?_
    obtain ⟨x6, hx6, h⟩ := obi h
    refine v_gR (dq D_X8_judge 20 rfl) fa_RX8_52 hx6 ?_
    refine v_aload_n (dq D_X8_judge 21 rfl) 0 rfl ?_
    obtain ⟨x7, hx7, h⟩ := obi h
    refine v_gR (dq D_X8_judge 22 rfl) fa_RX8_16 hx7 ?_
    obtain ⟨q8, hq8, h⟩ := obi h
    refine v_cVi (bc := 0) (bs := 0) (As := [.ref x7]) (dq D_X8_judge 23 rfl) cv_X4_firstNotGot ml_RX8_277 (itg hq8).1 (m_X4_firstNotGot hq8) rfl rfl (Nat.le_of_ble_eq_true rfl) ⟨Nat.le_of_ble_eq_true rfl, Nat.le_of_ble_eq_true rfl⟩ ⟨Nat.le_of_ble_eq_true rfl, Nat.le_of_ble_eq_true rfl⟩ ?_
    obtain rfl := Option.some.inj h
    exact v_iret (dq D_X8_judge 24 rfl) rfl ⟨rfl, rfl⟩
  · have h := itn h c2
    refine v_iconst (dq D_X8_judge 10 rfl) kc_m1 ?_
    obtain rfl := Option.some.inj h
    exact v_iret (dq D_X8_judge 11 rfl) rfl ⟨rfl, rfl⟩
theorem w_X8_judge_0 {sa : Env3} {a0 : Nat} {σ : St} {r : Int32 × St} (h : f_X8_judge_0 a0 σ = some r) : VV sa cX8_judge K_X8_judge 0 [(0, .ref a0)] [] σ (pO r) 0 0 := by
  unfold f_X8_judge_0 at h
  refine v_aload_n (dq D_X8_judge 0 rfl) 0 rfl ?_
  refine v_aload_n (dq D_X8_judge 1 rfl) 0 rfl ?_
  obtain ⟨x1, hx1, h⟩ := obi h
  refine v_gI (dq D_X8_judge 2 rfl) fa_RX8_70 hx1 ?_
  refine v_if_ne (dq D_X8_judge 3 rfl) rfl (fun c2 => ?_) (fun c2 => ?_)
  · have h := itn h c2
    refine v_iconst (dq D_X8_judge 6 rfl) kc_0 ?_
    exact w_X8_judge_13 h
  · have h := itp h c2
    refine v_iconst (dq D_X8_judge 4 rfl) kc_1 ?_
    refine v_goto (dq D_X8_judge 5 rfl) rfl ?_
    exact w_X8_judge_13 h
theorem m_X8_judge {sa : Env3} {a0 : Nat} {σ : St} {r : Int32 × St} (h : f_X8_judge a0 σ = some r) : Ex sa yX8_judge cX8_judge K_X8_judge [.ref a0] σ (pO r) := Ex.of (by decide) rfl (fun q => nomatch q) (Nat.le_of_ble_eq_true rfl) (w_X8_judge_0 (itg h).2)
theorem w_X8_kept_20 {sa : Env3} {a0 : Nat} {a1 : Int32} {s0 : Nat} {s1 : Int32} {σ : St} {r : Int32 × St} (h : f_X8_kept_20 a0 a1 s0 s1 σ = some r) : VV sa cX8_kept K_X8_kept 20 [(0, .ref a0), (1, .int a1)] [.int s1, .ref s0] σ (pO r) 0 0 := by
  unfold f_X8_kept_20 at h
  refine v_iconst (dq D_X8_kept 10 rfl) kc_1 ?_
  obtain ⟨q1, hq1, h⟩ := obi h
  refine v_cVi (bc := 0) (bs := 0) (As := [.int s1, .int 1]) (dq D_X8_kept 11 rfl) cv_X8_refused ml_RX8_85 (itg hq1).1 (m_X8_refused hq1) rfl rfl (Nat.le_of_ble_eq_true rfl) ⟨Nat.le_of_ble_eq_true rfl, Nat.le_of_ble_eq_true rfl⟩ ⟨Nat.le_of_ble_eq_true rfl, Nat.le_of_ble_eq_true rfl⟩ ?_
  refine v_if_eq (dq D_X8_kept 12 rfl) rfl (fun c2 => ?_) (fun c2 => ?_)
  · have h := itp h c2
    refine v_aload_n (dq D_X8_kept 15 rfl) 0 rfl ?_
    obtain ⟨x3, hx3, h⟩ := obi h
    refine v_gR (dq D_X8_kept 16 rfl) fa_RX8_35 hx3 ?_
    obtain ⟨x4, hx4, h⟩ := obi h
    refine v_gR (dq D_X8_kept 17 rfl) fa_RX8_155 hx4 ?_
    refine v_iload_n (dq D_X8_kept 18 rfl) 1 rfl ?_
    obtain ⟨x5, hx5, h⟩ := obi h
    refine v_iald (dq D_X8_kept 19 rfl) hx5 ?_
    obtain rfl := Option.some.inj h
    exact v_iret (dq D_X8_kept 20 rfl) rfl ⟨rfl, rfl⟩
  · have h := itn h c2
    refine v_iconst (dq D_X8_kept 13 rfl) kc_m1 ?_
    obtain rfl := Option.some.inj h
    exact v_iret (dq D_X8_kept 14 rfl) rfl ⟨rfl, rfl⟩
theorem w_X8_kept_15 {sa : Env3} {a0 : Nat} {a1 : Int32} {s0 : Nat} {σ : St} {r : Int32 × St} (h : f_X8_kept_15 a0 a1 s0 σ = some r) : VV sa cX8_kept K_X8_kept 15 [(0, .ref a0), (1, .int a1)] [.ref s0] σ (pO r) 0 0 := by
  unfold f_X8_kept_15 at h
  refine v_iconst (dq D_X8_kept 7 rfl) kc_1 ?_
  refine v_goto (dq D_X8_kept 8 rfl) rfl ?_
  exact w_X8_kept_20 h
theorem w_X8_kept_0 {sa : Env3} {a0 : Nat} {a1 : Int32} {σ : St} {r : Int32 × St} (h : f_X8_kept_0 a0 a1 σ = some r) : VV sa cX8_kept K_X8_kept 0 [(0, .ref a0), (1, .int a1)] [] σ (pO r) 0 0 := by
  unfold f_X8_kept_0 at h
  refine v_aload_n (dq D_X8_kept 0 rfl) 0 rfl ?_
  refine v_aload_n (dq D_X8_kept 1 rfl) 0 rfl ?_
  obtain ⟨x1, hx1, h⟩ := obi h
  refine v_gI (dq D_X8_kept 2 rfl) fa_RX8_70 hx1 ?_
  refine v_if_eq (dq D_X8_kept 3 rfl) rfl (fun c2 => ?_) (fun c2 => ?_)
  · have h := itp h c2
    exact w_X8_kept_15 h
  · have h := itn h c2
    refine v_iload_n (dq D_X8_kept 4 rfl) 1 rfl ?_
    obtain ⟨q3, hq3, h⟩ := obi h
    refine v_cSi (bc := 0) (bs := 0) (As := [.int a1]) (dq D_X8_kept 5 rfl) cs_X8_isRegister ml_RX8_141 (m_X8_isRegister hq3) rfl rfl (Nat.le_of_ble_eq_true rfl) ⟨Nat.le_of_ble_eq_true rfl, Nat.le_of_ble_eq_true rfl⟩ ⟨Nat.le_of_ble_eq_true rfl, Nat.le_of_ble_eq_true rfl⟩ ?_
    refine v_if_ne (dq D_X8_kept 6 rfl) rfl (fun c4 => ?_) (fun c4 => ?_)
    · have h := itn h c4
      refine v_iconst (dq D_X8_kept 9 rfl) kc_0 ?_
      exact w_X8_kept_20 h
    · have h := itp h c4
      exact w_X8_kept_15 h
theorem m_X8_kept {sa : Env3} {a0 : Nat} {a1 : Int32} {σ : St} {r : Int32 × St} (h : f_X8_kept a0 a1 σ = some r) : Ex sa yX8_kept cX8_kept K_X8_kept [.ref a0, .int a1] σ (pO r) := Ex.of (by decide) rfl (fun q => nomatch q) (Nat.le_of_ble_eq_true rfl) (w_X8_kept_0 (itg h).2)
theorem w_X8_letGo_13 {sa : Env3} {a0 : Nat} {s0 : Nat} {s1 : Int32} {σ : St} {r : Int32 × St} (h : f_X8_letGo_13 a0 s0 s1 σ = some r) : VV sa cX8_letGo K_X8_letGo 13 [(0, .ref a0)] [.int s1, .ref s0] σ (pO r) 0 0 := by
  unfold f_X8_letGo_13 at h
  refine v_iconst (dq D_X8_letGo 7 rfl) kc_1 ?_
  obtain ⟨q1, hq1, h⟩ := obi h
  refine v_cVi (bc := 0) (bs := 0) (As := [.int s1, .int 1]) (dq D_X8_letGo 8 rfl) cv_X8_refused ml_RX8_85 (itg hq1).1 (m_X8_refused hq1) rfl rfl (Nat.le_of_ble_eq_true rfl) ⟨Nat.le_of_ble_eq_true rfl, Nat.le_of_ble_eq_true rfl⟩ ⟨Nat.le_of_ble_eq_true rfl, Nat.le_of_ble_eq_true rfl⟩ ?_
  refine v_if_eq (dq D_X8_letGo 9 rfl) rfl (fun c2 => ?_) (fun c2 => ?_)
  · have h := itp h c2
    refine v_aload_n (dq D_X8_letGo 12 rfl) 0 rfl ?_
    obtain ⟨x3, hx3, h⟩ := obi h
    refine v_gR (dq D_X8_letGo 13 rfl) fa_RX8_35 hx3 ?_
    refine v_aload_n (dq D_X8_letGo 14 rfl) 0 rfl ?_
    obtain ⟨x4, hx4, h⟩ := obi h
    refine v_gR (dq D_X8_letGo 15 rfl) fa_RX8_35 hx4 ?_
    obtain ⟨x5, hx5, h⟩ := obi h
    refine v_gI (dq D_X8_letGo 16 rfl) fa_RX8_158 hx5 ?_
    obtain ⟨q6, hq6, h⟩ := obi h
    refine v_cVi (bc := 0) (bs := 0) (As := [.int x5]) (dq D_X8_letGo 17 rfl) cv_X3_letGoBits ml_RX8_165 (itg hq6).1 (m_X3_letGoBits hq6) rfl rfl (Nat.le_of_ble_eq_true rfl) ⟨Nat.le_of_ble_eq_true rfl, Nat.le_of_ble_eq_true rfl⟩ ⟨Nat.le_of_ble_eq_true rfl, Nat.le_of_ble_eq_true rfl⟩ ?_
    obtain rfl := Option.some.inj h
    exact v_iret (dq D_X8_letGo 18 rfl) rfl ⟨rfl, rfl⟩
  · have h := itn h c2
    refine v_iconst (dq D_X8_letGo 10 rfl) kc_m1 ?_
    obtain rfl := Option.some.inj h
    exact v_iret (dq D_X8_letGo 11 rfl) rfl ⟨rfl, rfl⟩
theorem w_X8_letGo_0 {sa : Env3} {a0 : Nat} {σ : St} {r : Int32 × St} (h : f_X8_letGo_0 a0 σ = some r) : VV sa cX8_letGo K_X8_letGo 0 [(0, .ref a0)] [] σ (pO r) 0 0 := by
  unfold f_X8_letGo_0 at h
  refine v_aload_n (dq D_X8_letGo 0 rfl) 0 rfl ?_
  refine v_aload_n (dq D_X8_letGo 1 rfl) 0 rfl ?_
  obtain ⟨x1, hx1, h⟩ := obi h
  refine v_gI (dq D_X8_letGo 2 rfl) fa_RX8_70 hx1 ?_
  refine v_if_ne (dq D_X8_letGo 3 rfl) rfl (fun c2 => ?_) (fun c2 => ?_)
  · have h := itn h c2
    refine v_iconst (dq D_X8_letGo 6 rfl) kc_0 ?_
    exact w_X8_letGo_13 h
  · have h := itp h c2
    refine v_iconst (dq D_X8_letGo 4 rfl) kc_1 ?_
    refine v_goto (dq D_X8_letGo 5 rfl) rfl ?_
    exact w_X8_letGo_13 h
theorem m_X8_letGo {sa : Env3} {a0 : Nat} {σ : St} {r : Int32 × St} (h : f_X8_letGo a0 σ = some r) : Ex sa yX8_letGo cX8_letGo K_X8_letGo [.ref a0] σ (pO r) := Ex.of (by decide) rfl (fun q => nomatch q) (Nat.le_of_ble_eq_true rfl) (w_X8_letGo_0 (itg h).2)
theorem w_X8_mapped_20 {sa : Env3} {a0 : Nat} {a1 : Int32} {s0 : Nat} {s1 : Int32} {σ : St} {r : Int32 × St} (h : f_X8_mapped_20 a0 a1 s0 s1 σ = some r) : VV sa cX8_mapped K_X8_mapped 20 [(0, .ref a0), (1, .int a1)] [.int s1, .ref s0] σ (pO r) 0 0 := by
  unfold f_X8_mapped_20 at h
  refine v_iconst (dq D_X8_mapped 10 rfl) kc_1 ?_
  obtain ⟨q1, hq1, h⟩ := obi h
  refine v_cVi (bc := 0) (bs := 0) (As := [.int s1, .int 1]) (dq D_X8_mapped 11 rfl) cv_X8_refused ml_RX8_85 (itg hq1).1 (m_X8_refused hq1) rfl rfl (Nat.le_of_ble_eq_true rfl) ⟨Nat.le_of_ble_eq_true rfl, Nat.le_of_ble_eq_true rfl⟩ ⟨Nat.le_of_ble_eq_true rfl, Nat.le_of_ble_eq_true rfl⟩ ?_
  refine v_if_eq (dq D_X8_mapped 12 rfl) rfl (fun c2 => ?_) (fun c2 => ?_)
  · have h := itp h c2
    refine v_aload_n (dq D_X8_mapped 15 rfl) 0 rfl ?_
    obtain ⟨x3, hx3, h⟩ := obi h
    refine v_gR (dq D_X8_mapped 16 rfl) fa_RX8_35 hx3 ?_
    refine v_aload_n (dq D_X8_mapped 17 rfl) 0 rfl ?_
    obtain ⟨x4, hx4, h⟩ := obi h
    refine v_gR (dq D_X8_mapped 18 rfl) fa_RX8_35 hx4 ?_
    obtain ⟨x5, hx5, h⟩ := obi h
    refine v_gI (dq D_X8_mapped 19 rfl) fa_RX8_158 hx5 ?_
    refine v_iload_n (dq D_X8_mapped 20 rfl) 1 rfl ?_
    obtain ⟨q6, hq6, h⟩ := obi h
    refine v_cVi (bc := 0) (bs := 0) (As := [.int x5, .int a1]) (dq D_X8_mapped 21 rfl) cv_X3_mapBy ml_RX8_161 (itg hq6).1 (m_X3_mapBy hq6) rfl rfl (Nat.le_of_ble_eq_true rfl) ⟨Nat.le_of_ble_eq_true rfl, Nat.le_of_ble_eq_true rfl⟩ ⟨Nat.le_of_ble_eq_true rfl, Nat.le_of_ble_eq_true rfl⟩ ?_
    obtain rfl := Option.some.inj h
    exact v_iret (dq D_X8_mapped 22 rfl) rfl ⟨rfl, rfl⟩
  · have h := itn h c2
    refine v_iconst (dq D_X8_mapped 13 rfl) kc_m1 ?_
    obtain rfl := Option.some.inj h
    exact v_iret (dq D_X8_mapped 14 rfl) rfl ⟨rfl, rfl⟩
theorem w_X8_mapped_15 {sa : Env3} {a0 : Nat} {a1 : Int32} {s0 : Nat} {σ : St} {r : Int32 × St} (h : f_X8_mapped_15 a0 a1 s0 σ = some r) : VV sa cX8_mapped K_X8_mapped 15 [(0, .ref a0), (1, .int a1)] [.ref s0] σ (pO r) 0 0 := by
  unfold f_X8_mapped_15 at h
  refine v_iconst (dq D_X8_mapped 7 rfl) kc_1 ?_
  refine v_goto (dq D_X8_mapped 8 rfl) rfl ?_
  exact w_X8_mapped_20 h
theorem w_X8_mapped_0 {sa : Env3} {a0 : Nat} {a1 : Int32} {σ : St} {r : Int32 × St} (h : f_X8_mapped_0 a0 a1 σ = some r) : VV sa cX8_mapped K_X8_mapped 0 [(0, .ref a0), (1, .int a1)] [] σ (pO r) 0 0 := by
  unfold f_X8_mapped_0 at h
  refine v_aload_n (dq D_X8_mapped 0 rfl) 0 rfl ?_
  refine v_aload_n (dq D_X8_mapped 1 rfl) 0 rfl ?_
  obtain ⟨x1, hx1, h⟩ := obi h
  refine v_gI (dq D_X8_mapped 2 rfl) fa_RX8_70 hx1 ?_
  refine v_if_eq (dq D_X8_mapped 3 rfl) rfl (fun c2 => ?_) (fun c2 => ?_)
  · have h := itp h c2
    exact w_X8_mapped_15 h
  · have h := itn h c2
    refine v_iload_n (dq D_X8_mapped 4 rfl) 1 rfl ?_
    obtain ⟨q3, hq3, h⟩ := obi h
    refine v_cSi (bc := 0) (bs := 0) (As := [.int a1]) (dq D_X8_mapped 5 rfl) cs_X8_isRegister ml_RX8_141 (m_X8_isRegister hq3) rfl rfl (Nat.le_of_ble_eq_true rfl) ⟨Nat.le_of_ble_eq_true rfl, Nat.le_of_ble_eq_true rfl⟩ ⟨Nat.le_of_ble_eq_true rfl, Nat.le_of_ble_eq_true rfl⟩ ?_
    refine v_if_ne (dq D_X8_mapped 6 rfl) rfl (fun c4 => ?_) (fun c4 => ?_)
    · have h := itn h c4
      refine v_iconst (dq D_X8_mapped 9 rfl) kc_0 ?_
      exact w_X8_mapped_20 h
    · have h := itp h c4
      exact w_X8_mapped_15 h
theorem m_X8_mapped {sa : Env3} {a0 : Nat} {a1 : Int32} {σ : St} {r : Int32 × St} (h : f_X8_mapped a0 a1 σ = some r) : Ex sa yX8_mapped cX8_mapped K_X8_mapped [.ref a0, .int a1] σ (pO r) := Ex.of (by decide) rfl (fun q => nomatch q) (Nat.le_of_ble_eq_true rfl) (w_X8_mapped_0 (itg h).2)
theorem w_X8_misses_40 {sa : Env3}  {σ : St} {r : Int32 × St} (h : f_X8_misses_40  σ = some r) : VV sa cX8_misses K_X8_misses 40 [] [] σ (pO r) 0 0 := by
  unfold f_X8_misses_40 at h
  refine v_iconst (dq D_X8_misses 20 rfl) kc_m1 ?_
  obtain rfl := Option.some.inj h
  exact v_iret (dq D_X8_misses 21 rfl) rfl ⟨rfl, rfl⟩
theorem w_X8_misses_33 {sa : Env3} {a0 : Nat} {a1 : Int32} {s0 : Nat} {s1 : Int32} {σ : St} {r : Int32 × St} (h : f_X8_misses_33 a0 a1 s0 s1 σ = some r) : VV sa cX8_misses K_X8_misses 33 [(0, .ref a0), (1, .int a1)] [.int s1, .ref s0] σ (pO r) 0 0 := by
  unfold f_X8_misses_33 at h
  refine v_iconst (dq D_X8_misses 17 rfl) kc_2 ?_
  obtain ⟨q1, hq1, h⟩ := obi h
  refine v_cVi (bc := 0) (bs := 0) (As := [.int s1, .int 2]) (dq D_X8_misses 18 rfl) cv_X8_refused ml_RX8_85 (itg hq1).1 (m_X8_refused hq1) rfl rfl (Nat.le_of_ble_eq_true rfl) ⟨Nat.le_of_ble_eq_true rfl, Nat.le_of_ble_eq_true rfl⟩ ⟨Nat.le_of_ble_eq_true rfl, Nat.le_of_ble_eq_true rfl⟩ ?_
  refine v_if_eq (dq D_X8_misses 19 rfl) rfl (fun c2 => ?_) (fun c2 => ?_)
  · have h := itp h c2
    refine v_aload_n (dq D_X8_misses 22 rfl) 0 rfl ?_
    obtain ⟨x3, hx3, h⟩ := obi h
    refine v_gR (dq D_X8_misses 23 rfl) fa_RX8_59 hx3 ?_
    obtain ⟨x4, hx4, h⟩ := obi h
    refine v_gR (dq D_X8_misses 24 rfl) fa_RX8_249 hx4 ?_
    refine v_aload_n (dq D_X8_misses 25 rfl) 0 rfl ?_
    obtain ⟨x5, hx5, h⟩ := obi h
    refine v_gR (dq D_X8_misses 26 rfl) fa_RX8_59 hx5 ?_
    refine v_aload_n (dq D_X8_misses 27 rfl) 0 rfl ?_
    obtain ⟨x6, hx6, h⟩ := obi h
    refine v_gR (dq D_X8_misses 28 rfl) fa_RX8_16 hx6 ?_
    refine v_iload_n (dq D_X8_misses 29 rfl) 1 rfl ?_
    obtain ⟨q7, hq7, h⟩ := obi h
    refine v_cVi (bc := 0) (bs := 0) (As := [.ref x6, .int a1]) (dq D_X8_misses 30 rfl) cv_X0_slotOf ml_RX8_243 (itg hq7).1 (m_X0_slotOf hq7) rfl rfl (Nat.le_of_ble_eq_true rfl) ⟨Nat.le_of_ble_eq_true rfl, Nat.le_of_ble_eq_true rfl⟩ ⟨Nat.le_of_ble_eq_true rfl, Nat.le_of_ble_eq_true rfl⟩ ?_
    obtain ⟨x8, hx8, h⟩ := obi h
    refine v_iald (dq D_X8_misses 31 rfl) hx8 ?_
    obtain rfl := Option.some.inj h
    exact v_iret (dq D_X8_misses 32 rfl) rfl ⟨rfl, rfl⟩
  · have h := itn h c2
    exact v_sub [] rfl (w_X8_misses_40 h)
theorem w_X8_misses_13 {sa : Env3} {a0 : Nat} {a1 : Int32} {s0 : Nat} {s1 : Int32} {σ : St} {r : Int32 × St} (h : f_X8_misses_13 a0 a1 s0 s1 σ = some r) : VV sa cX8_misses K_X8_misses 13 [(0, .ref a0), (1, .int a1)] [.int s1, .ref s0] σ (pO r) 0 0 := by
  unfold f_X8_misses_13 at h
  refine v_iconst (dq D_X8_misses 7 rfl) kc_1 ?_
  obtain ⟨q1, hq1, h⟩ := obi h
  refine v_cVi (bc := 0) (bs := 0) (As := [.int s1, .int 1]) (dq D_X8_misses 8 rfl) cv_X8_refused ml_RX8_85 (itg hq1).1 (m_X8_refused hq1) rfl rfl (Nat.le_of_ble_eq_true rfl) ⟨Nat.le_of_ble_eq_true rfl, Nat.le_of_ble_eq_true rfl⟩ ⟨Nat.le_of_ble_eq_true rfl, Nat.le_of_ble_eq_true rfl⟩ ?_
  refine v_if_ne (dq D_X8_misses 9 rfl) rfl (fun c2 => ?_) (fun c2 => ?_)
  · have h := itn h c2
    exact v_sub [] rfl (w_X8_misses_40 h)
  · have h := itp h c2
    refine v_aload_n (dq D_X8_misses 10 rfl) 0 rfl ?_
    refine v_iload_n (dq D_X8_misses 11 rfl) 1 rfl ?_
    obtain ⟨q3, hq3, h⟩ := obi h
    refine v_cSi (bc := 0) (bs := 0) (As := [.int a1]) (dq D_X8_misses 12 rfl) cs_X8_isCells ml_RX8_237 (m_X8_isCells hq3) rfl rfl (Nat.le_of_ble_eq_true rfl) ⟨Nat.le_of_ble_eq_true rfl, Nat.le_of_ble_eq_true rfl⟩ ⟨Nat.le_of_ble_eq_true rfl, Nat.le_of_ble_eq_true rfl⟩ ?_
    refine v_if_ne (dq D_X8_misses 13 rfl) rfl (fun c4 => ?_) (fun c4 => ?_)
    · have h := itn h c4
      refine v_iconst (dq D_X8_misses 16 rfl) kc_0 ?_
      exact w_X8_misses_33 h
    · have h := itp h c4
      refine v_iconst (dq D_X8_misses 14 rfl) kc_1 ?_
      refine v_goto (dq D_X8_misses 15 rfl) rfl ?_
      exact w_X8_misses_33 h
theorem w_X8_misses_0 {sa : Env3} {a0 : Nat} {a1 : Int32} {σ : St} {r : Int32 × St} (h : f_X8_misses_0 a0 a1 σ = some r) : VV sa cX8_misses K_X8_misses 0 [(0, .ref a0), (1, .int a1)] [] σ (pO r) 0 0 := by
  unfold f_X8_misses_0 at h
  refine v_aload_n (dq D_X8_misses 0 rfl) 0 rfl ?_
  refine v_aload_n (dq D_X8_misses 1 rfl) 0 rfl ?_
  obtain ⟨x1, hx1, h⟩ := obi h
  refine v_gI (dq D_X8_misses 2 rfl) fa_RX8_70 hx1 ?_
  refine v_if_ne (dq D_X8_misses 3 rfl) rfl (fun c2 => ?_) (fun c2 => ?_)
  · have h := itn h c2
    refine v_iconst (dq D_X8_misses 6 rfl) kc_0 ?_
    exact w_X8_misses_13 h
  · have h := itp h c2
    refine v_iconst (dq D_X8_misses 4 rfl) kc_1 ?_
    refine v_goto (dq D_X8_misses 5 rfl) rfl ?_
    exact w_X8_misses_13 h
theorem m_X8_misses {sa : Env3} {a0 : Nat} {a1 : Int32} {σ : St} {r : Int32 × St} (h : f_X8_misses a0 a1 σ = some r) : Ex sa yX8_misses cX8_misses K_X8_misses [.ref a0, .int a1] σ (pO r) := Ex.of (by decide) rfl (fun q => nomatch q) (Nat.le_of_ble_eq_true rfl) (w_X8_misses_0 (itg h).2)
theorem w_X8_nextStep_13 {sa : Env3} {a0 : Nat} {s0 : Nat} {s1 : Int32} {σ : St} {r : Int32 × St} (h : f_X8_nextStep_13 a0 s0 s1 σ = some r) : VV sa cX8_nextStep K_X8_nextStep 13 [(0, .ref a0)] [.int s1, .ref s0] σ (pO r) 0 0 := by
  unfold f_X8_nextStep_13 at h
  refine v_iconst (dq D_X8_nextStep 7 rfl) kc_1 ?_
  obtain ⟨q1, hq1, h⟩ := obi h
  refine v_cVi (bc := 0) (bs := 0) (As := [.int s1, .int 1]) (dq D_X8_nextStep 8 rfl) cv_X8_refused ml_RX8_85 (itg hq1).1 (m_X8_refused hq1) rfl rfl (Nat.le_of_ble_eq_true rfl) ⟨Nat.le_of_ble_eq_true rfl, Nat.le_of_ble_eq_true rfl⟩ ⟨Nat.le_of_ble_eq_true rfl, Nat.le_of_ble_eq_true rfl⟩ ?_
  refine v_if_eq (dq D_X8_nextStep 9 rfl) rfl (fun c2 => ?_) (fun c2 => ?_)
  · have h := itp h c2
    refine v_aload_n (dq D_X8_nextStep 12 rfl) 0 rfl ?_
    obtain ⟨x3, hx3, h⟩ := obi h
    refine v_gR (dq D_X8_nextStep 13 rfl) fa_RX8_35 hx3 ?_
    obtain ⟨x4, hx4, h⟩ := obi h
    refine v_gI (dq D_X8_nextStep 14 rfl) fa_RX8_219 hx4 ?_
    obtain rfl := Option.some.inj h
    exact v_iret (dq D_X8_nextStep 15 rfl) rfl ⟨rfl, rfl⟩
  · have h := itn h c2
    refine v_iconst (dq D_X8_nextStep 10 rfl) kc_m1 ?_
    obtain rfl := Option.some.inj h
    exact v_iret (dq D_X8_nextStep 11 rfl) rfl ⟨rfl, rfl⟩
theorem w_X8_nextStep_0 {sa : Env3} {a0 : Nat} {σ : St} {r : Int32 × St} (h : f_X8_nextStep_0 a0 σ = some r) : VV sa cX8_nextStep K_X8_nextStep 0 [(0, .ref a0)] [] σ (pO r) 0 0 := by
  unfold f_X8_nextStep_0 at h
  refine v_aload_n (dq D_X8_nextStep 0 rfl) 0 rfl ?_
  refine v_aload_n (dq D_X8_nextStep 1 rfl) 0 rfl ?_
  obtain ⟨x1, hx1, h⟩ := obi h
  refine v_gI (dq D_X8_nextStep 2 rfl) fa_RX8_70 hx1 ?_
  refine v_if_ne (dq D_X8_nextStep 3 rfl) rfl (fun c2 => ?_) (fun c2 => ?_)
  · have h := itn h c2
    refine v_iconst (dq D_X8_nextStep 6 rfl) kc_0 ?_
    exact w_X8_nextStep_13 h
  · have h := itp h c2
    refine v_iconst (dq D_X8_nextStep 4 rfl) kc_1 ?_
    refine v_goto (dq D_X8_nextStep 5 rfl) rfl ?_
    exact w_X8_nextStep_13 h
theorem m_X8_nextStep {sa : Env3} {a0 : Nat} {σ : St} {r : Int32 × St} (h : f_X8_nextStep a0 σ = some r) : Ex sa yX8_nextStep cX8_nextStep K_X8_nextStep [.ref a0] σ (pO r) := Ex.of (by decide) rfl (fun q => nomatch q) (Nat.le_of_ble_eq_true rfl) (w_X8_nextStep_0 (itg h).2)
theorem w_X8_plainAt_47 {sa : Env3} {a0 : Nat} {a1 : Int32} {a2 : Int32} {s0 : Nat} {s1 : Int32} {σ : St} {r : Int32 × St} (h : f_X8_plainAt_47 a0 a1 a2 s0 s1 σ = some r) : VV sa cX8_plainAt K_X8_plainAt 47 [(0, .ref a0), (1, .int a1), (2, .int a2)] [.int s1, .ref s0] σ (pO r) 0 0 := by
  unfold f_X8_plainAt_47 at h
  refine v_iconst (dq D_X8_plainAt 25 rfl) kc_2 ?_
  obtain ⟨q1, hq1, h⟩ := obi h
  refine v_cVi (bc := 0) (bs := 0) (As := [.int s1, .int 2]) (dq D_X8_plainAt 26 rfl) cv_X8_refused ml_RX8_85 (itg hq1).1 (m_X8_refused hq1) rfl rfl (Nat.le_of_ble_eq_true rfl) ⟨Nat.le_of_ble_eq_true rfl, Nat.le_of_ble_eq_true rfl⟩ ⟨Nat.le_of_ble_eq_true rfl, Nat.le_of_ble_eq_true rfl⟩ ?_
  refine v_if_eq (dq D_X8_plainAt 27 rfl) rfl (fun c2 => ?_) (fun c2 => ?_)
  · have h := itp h c2
    refine v_aload_n (dq D_X8_plainAt 30 rfl) 0 rfl ?_
    obtain ⟨x3, hx3, h⟩ := obi h
    refine v_gR (dq D_X8_plainAt 31 rfl) fa_RX8_52 hx3 ?_
    refine v_aload_n (dq D_X8_plainAt 32 rfl) 0 rfl ?_
    obtain ⟨x4, hx4, h⟩ := obi h
    refine v_gR (dq D_X8_plainAt 33 rfl) fa_RX8_16 hx4 ?_
    refine v_iconst (dq D_X8_plainAt 34 rfl) kc_0 ?_
    refine v_iload_n (dq D_X8_plainAt 35 rfl) 2 rfl ?_
    obtain ⟨σ5, hσ5, h⟩ := obi h
    refine v_cVv (bc := 0) (bs := 0) (As := [.ref x4, .int 0, .int a2]) (dq D_X8_plainAt 36 rfl) cv_X4_play ml_RX8_124 (itg hσ5).1 (m_X4_play hσ5) rfl rfl (Nat.le_of_ble_eq_true rfl) ⟨Nat.le_of_ble_eq_true rfl, Nat.le_of_ble_eq_true rfl⟩ ⟨Nat.le_of_ble_eq_true rfl, Nat.le_of_ble_eq_true rfl⟩ ?_
    refine v_aload_n (dq D_X8_plainAt 37 rfl) 0 rfl ?_
    obtain ⟨x6, hx6, h⟩ := obi h
    refine v_gR (dq D_X8_plainAt 38 rfl) fa_RX8_52 hx6 ?_
    obtain ⟨x7, hx7, h⟩ := obi h
    refine v_gR (dq D_X8_plainAt 39 rfl) fa_RX8_144 hx7 ?_
    refine v_iload_n (dq D_X8_plainAt 40 rfl) 1 rfl ?_
    obtain ⟨x8, hx8, h⟩ := obi h
    refine v_iald (dq D_X8_plainAt 41 rfl) hx8 ?_
    obtain rfl := Option.some.inj h
    exact v_iret (dq D_X8_plainAt 42 rfl) rfl ⟨rfl, rfl⟩
  · have h := itn h c2
    refine v_iconst (dq D_X8_plainAt 28 rfl) kc_m1 ?_
    obtain rfl := Option.some.inj h
    exact v_iret (dq D_X8_plainAt 29 rfl) rfl ⟨rfl, rfl⟩
theorem w_X8_plainAt_42 {sa : Env3} {a0 : Nat} {a1 : Int32} {a2 : Int32} {s0 : Nat} {σ : St} {r : Int32 × St} (h : f_X8_plainAt_42 a0 a1 a2 s0 σ = some r) : VV sa cX8_plainAt K_X8_plainAt 42 [(0, .ref a0), (1, .int a1), (2, .int a2)] [.ref s0] σ (pO r) 0 0 := by
  unfold f_X8_plainAt_42 at h
  refine v_iconst (dq D_X8_plainAt 22 rfl) kc_1 ?_
  refine v_goto (dq D_X8_plainAt 23 rfl) rfl ?_
  exact w_X8_plainAt_47 h
theorem w_X8_plainAt_20 {sa : Env3} {a0 : Nat} {a1 : Int32} {a2 : Int32} {s0 : Nat} {s1 : Int32} {σ : St} {r : Int32 × St} (h : f_X8_plainAt_20 a0 a1 a2 s0 s1 σ = some r) : VV sa cX8_plainAt K_X8_plainAt 20 [(0, .ref a0), (1, .int a1), (2, .int a2)] [.int s1, .ref s0] σ (pO r) 0 0 := by
  unfold f_X8_plainAt_20 at h
  refine v_iconst (dq D_X8_plainAt 10 rfl) kc_1 ?_
  obtain ⟨q1, hq1, h⟩ := obi h
  refine v_cVi (bc := 0) (bs := 0) (As := [.int s1, .int 1]) (dq D_X8_plainAt 11 rfl) cv_X8_refused ml_RX8_85 (itg hq1).1 (m_X8_refused hq1) rfl rfl (Nat.le_of_ble_eq_true rfl) ⟨Nat.le_of_ble_eq_true rfl, Nat.le_of_ble_eq_true rfl⟩ ⟨Nat.le_of_ble_eq_true rfl, Nat.le_of_ble_eq_true rfl⟩ ?_
  refine v_if_eq (dq D_X8_plainAt 12 rfl) rfl (fun c2 => ?_) (fun c2 => ?_)
  · have h := itp h c2
    refine v_aload_n (dq D_X8_plainAt 15 rfl) 0 rfl ?_
    refine v_iload_n (dq D_X8_plainAt 16 rfl) 2 rfl ?_
    refine v_if_lt (dq D_X8_plainAt 17 rfl) rfl (fun c3 => ?_) (fun c3 => ?_)
    · have h := itp h c3
      exact w_X8_plainAt_42 h
    · have h := itn h c3
      refine v_iload_n (dq D_X8_plainAt 18 rfl) 2 rfl ?_
      refine v_aload_n (dq D_X8_plainAt 19 rfl) 0 rfl ?_
      obtain ⟨q4, hq4, h⟩ := obi h
      refine v_cVi (bc := 0) (bs := 0) (As := []) (dq D_X8_plainAt 20 rfl) cv_X8_plainTotal ml_RX8_120 (itg hq4).1 (m_X8_plainTotal hq4) rfl rfl (Nat.le_of_ble_eq_true rfl) ⟨Nat.le_of_ble_eq_true rfl, Nat.le_of_ble_eq_true rfl⟩ ⟨Nat.le_of_ble_eq_true rfl, Nat.le_of_ble_eq_true rfl⟩ ?_
      refine v_icmp_le (dq D_X8_plainAt 21 rfl) rfl (fun c5 => ?_) (fun c5 => ?_)
      · have h := itp h c5
        refine v_iconst (dq D_X8_plainAt 24 rfl) kc_0 ?_
        exact w_X8_plainAt_47 h
      · have h := itn h c5
        exact w_X8_plainAt_42 h
  · have h := itn h c2
    refine v_iconst (dq D_X8_plainAt 13 rfl) kc_m1 ?_
    obtain rfl := Option.some.inj h
    exact v_iret (dq D_X8_plainAt 14 rfl) rfl ⟨rfl, rfl⟩
theorem w_X8_plainAt_15 {sa : Env3} {a0 : Nat} {a1 : Int32} {a2 : Int32} {s0 : Nat} {σ : St} {r : Int32 × St} (h : f_X8_plainAt_15 a0 a1 a2 s0 σ = some r) : VV sa cX8_plainAt K_X8_plainAt 15 [(0, .ref a0), (1, .int a1), (2, .int a2)] [.ref s0] σ (pO r) 0 0 := by
  unfold f_X8_plainAt_15 at h
  refine v_iconst (dq D_X8_plainAt 7 rfl) kc_1 ?_
  refine v_goto (dq D_X8_plainAt 8 rfl) rfl ?_
  exact w_X8_plainAt_20 h
theorem w_X8_plainAt_0 {sa : Env3} {a0 : Nat} {a1 : Int32} {a2 : Int32} {σ : St} {r : Int32 × St} (h : f_X8_plainAt_0 a0 a1 a2 σ = some r) : VV sa cX8_plainAt K_X8_plainAt 0 [(0, .ref a0), (1, .int a1), (2, .int a2)] [] σ (pO r) 0 0 := by
  unfold f_X8_plainAt_0 at h
  refine v_aload_n (dq D_X8_plainAt 0 rfl) 0 rfl ?_
  refine v_aload_n (dq D_X8_plainAt 1 rfl) 0 rfl ?_
  obtain ⟨x1, hx1, h⟩ := obi h
  refine v_gI (dq D_X8_plainAt 2 rfl) fa_RX8_70 hx1 ?_
  refine v_if_eq (dq D_X8_plainAt 3 rfl) rfl (fun c2 => ?_) (fun c2 => ?_)
  · have h := itp h c2
    exact w_X8_plainAt_15 h
  · have h := itn h c2
    refine v_iload_n (dq D_X8_plainAt 4 rfl) 1 rfl ?_
    obtain ⟨q3, hq3, h⟩ := obi h
    refine v_cSi (bc := 0) (bs := 0) (As := [.int a1]) (dq D_X8_plainAt 5 rfl) cs_X8_isRegister ml_RX8_141 (m_X8_isRegister hq3) rfl rfl (Nat.le_of_ble_eq_true rfl) ⟨Nat.le_of_ble_eq_true rfl, Nat.le_of_ble_eq_true rfl⟩ ⟨Nat.le_of_ble_eq_true rfl, Nat.le_of_ble_eq_true rfl⟩ ?_
    refine v_if_ne (dq D_X8_plainAt 6 rfl) rfl (fun c4 => ?_) (fun c4 => ?_)
    · have h := itn h c4
      refine v_iconst (dq D_X8_plainAt 9 rfl) kc_0 ?_
      exact w_X8_plainAt_20 h
    · have h := itp h c4
      exact w_X8_plainAt_15 h
theorem m_X8_plainAt {sa : Env3} {a0 : Nat} {a1 : Int32} {a2 : Int32} {σ : St} {r : Int32 × St} (h : f_X8_plainAt a0 a1 a2 σ = some r) : Ex sa yX8_plainAt cX8_plainAt K_X8_plainAt [.ref a0, .int a1, .int a2] σ (pO r) := Ex.of (by decide) rfl (fun q => nomatch q) (Nat.le_of_ble_eq_true rfl) (w_X8_plainAt_0 (itg h).2)
theorem w_X8_plainEnd_71 {sa : Env3} {s0 : Int32} {σ : St} {r : Int32 × St} (h : f_X8_plainEnd_71 s0 σ = some r) : VV sa cX8_plainEnd K_X8_plainEnd 71 [] [.int s0] σ (pO r) 0 0 := by
  unfold f_X8_plainEnd_71 at h
  obtain rfl := Option.some.inj h
  exact v_iret (dq D_X8_plainEnd 35 rfl) rfl ⟨rfl, rfl⟩
theorem w_X8_plainEnd_13 {sa : Env3} {a0 : Nat} {s0 : Nat} {s1 : Int32} {σ : St} {r : Int32 × St} (h : f_X8_plainEnd_13 a0 s0 s1 σ = some r) : VV sa cX8_plainEnd K_X8_plainEnd 13 [(0, .ref a0)] [.int s1, .ref s0] σ (pO r) 0 0 := by
  unfold f_X8_plainEnd_13 at h
  refine v_iconst (dq D_X8_plainEnd 7 rfl) kc_1 ?_
  obtain ⟨q1, hq1, h⟩ := obi h
  refine v_cVi (bc := 0) (bs := 0) (As := [.int s1, .int 1]) (dq D_X8_plainEnd 8 rfl) cv_X8_refused ml_RX8_85 (itg hq1).1 (m_X8_refused hq1) rfl rfl (Nat.le_of_ble_eq_true rfl) ⟨Nat.le_of_ble_eq_true rfl, Nat.le_of_ble_eq_true rfl⟩ ⟨Nat.le_of_ble_eq_true rfl, Nat.le_of_ble_eq_true rfl⟩ ?_
  refine v_if_eq (dq D_X8_plainEnd 9 rfl) rfl (fun c2 => ?_) (fun c2 => ?_)
  · have h := itp h c2
    refine v_aload_n (dq D_X8_plainEnd 12 rfl) 0 rfl ?_
    obtain ⟨x3, hx3, h⟩ := obi h
    refine v_gR (dq D_X8_plainEnd 13 rfl) fa_RX8_52 hx3 ?_
    refine v_aload_n (dq D_X8_plainEnd 14 rfl) 0 rfl ?_
    obtain ⟨x4, hx4, h⟩ := obi h
    refine v_gR (dq D_X8_plainEnd 15 rfl) fa_RX8_16 hx4 ?_
    refine v_iconst (dq D_X8_plainEnd 16 rfl) kc_0 ?_
    refine v_sipush (dq D_X8_plainEnd 17 rfl) ks_200 ?_
    obtain ⟨σ5, hσ5, h⟩ := obi h
    refine v_cVv (bc := 0) (bs := 0) (As := [.ref x4, .int 0, .int 200]) (dq D_X8_plainEnd 18 rfl) cv_X4_play ml_RX8_124 (itg hσ5).1 (m_X4_play hσ5) rfl rfl (Nat.le_of_ble_eq_true rfl) ⟨Nat.le_of_ble_eq_true rfl, Nat.le_of_ble_eq_true rfl⟩ ⟨Nat.le_of_ble_eq_true rfl, Nat.le_of_ble_eq_true rfl⟩ ?_
    refine v_aload_n (dq D_X8_plainEnd 19 rfl) 0 rfl ?_
    obtain ⟨x6, hx6, h⟩ := obi h
    refine v_gR (dq D_X8_plainEnd 20 rfl) fa_RX8_52 hx6 ?_
    obtain ⟨x7, hx7, h⟩ := obi h
    refine v_gI (dq D_X8_plainEnd 21 rfl) fa_RX8_131 hx7 ?_
    refine v_if_eq (dq D_X8_plainEnd 22 rfl) rfl (fun c8 => ?_) (fun c8 => ?_)
    · have h := itp h c8
      refine v_aload_n (dq D_X8_plainEnd 25 rfl) 0 rfl ?_
      obtain ⟨x9, hx9, h⟩ := obi h
      refine v_gR (dq D_X8_plainEnd 26 rfl) fa_RX8_16 hx9 ?_
      refine v_aload_n (dq D_X8_plainEnd 27 rfl) 0 rfl ?_
      obtain ⟨x10, hx10, h⟩ := obi h
      refine v_gR (dq D_X8_plainEnd 28 rfl) fa_RX8_52 hx10 ?_
      obtain ⟨x11, hx11, h⟩ := obi h
      refine v_gI (dq D_X8_plainEnd 29 rfl) fa_RX8_134 hx11 ?_
      obtain ⟨q12, hq12, h⟩ := obi h
      refine v_cVi (bc := 0) (bs := 0) (As := [.int x11]) (dq D_X8_plainEnd 30 rfl) cv_X5_has ml_RX8_137 (itg hq12).1 (m_X5_has hq12) rfl rfl (Nat.le_of_ble_eq_true rfl) ⟨Nat.le_of_ble_eq_true rfl, Nat.le_of_ble_eq_true rfl⟩ ⟨Nat.le_of_ble_eq_true rfl, Nat.le_of_ble_eq_true rfl⟩ ?_
      refine v_if_eq (dq D_X8_plainEnd 31 rfl) rfl (fun c13 => ?_) (fun c13 => ?_)
      · have h := itp h c13
        refine v_iconst (dq D_X8_plainEnd 34 rfl) kc_0 ?_
        exact v_sub [] rfl (w_X8_plainEnd_71 h)
      · have h := itn h c13
        refine v_iconst (dq D_X8_plainEnd 32 rfl) kc_2 ?_
        refine v_goto (dq D_X8_plainEnd 33 rfl) rfl ?_
        exact v_sub [] rfl (w_X8_plainEnd_71 h)
    · have h := itn h c8
      refine v_iconst (dq D_X8_plainEnd 23 rfl) kc_1 ?_
      obtain rfl := Option.some.inj h
      exact v_iret (dq D_X8_plainEnd 24 rfl) rfl ⟨rfl, rfl⟩
  · have h := itn h c2
    refine v_iconst (dq D_X8_plainEnd 10 rfl) kc_m1 ?_
    obtain rfl := Option.some.inj h
    exact v_iret (dq D_X8_plainEnd 11 rfl) rfl ⟨rfl, rfl⟩
theorem w_X8_plainEnd_0 {sa : Env3} {a0 : Nat} {σ : St} {r : Int32 × St} (h : f_X8_plainEnd_0 a0 σ = some r) : VV sa cX8_plainEnd K_X8_plainEnd 0 [(0, .ref a0)] [] σ (pO r) 0 0 := by
  unfold f_X8_plainEnd_0 at h
  refine v_aload_n (dq D_X8_plainEnd 0 rfl) 0 rfl ?_
  refine v_aload_n (dq D_X8_plainEnd 1 rfl) 0 rfl ?_
  obtain ⟨x1, hx1, h⟩ := obi h
  refine v_gI (dq D_X8_plainEnd 2 rfl) fa_RX8_70 hx1 ?_
  refine v_if_ne (dq D_X8_plainEnd 3 rfl) rfl (fun c2 => ?_) (fun c2 => ?_)
  · have h := itn h c2
    refine v_iconst (dq D_X8_plainEnd 6 rfl) kc_0 ?_
    exact w_X8_plainEnd_13 h
  · have h := itp h c2
    refine v_iconst (dq D_X8_plainEnd 4 rfl) kc_1 ?_
    refine v_goto (dq D_X8_plainEnd 5 rfl) rfl ?_
    exact w_X8_plainEnd_13 h
theorem m_X8_plainEnd {sa : Env3} {a0 : Nat} {σ : St} {r : Int32 × St} (h : f_X8_plainEnd a0 σ = some r) : Ex sa yX8_plainEnd cX8_plainEnd K_X8_plainEnd [.ref a0] σ (pO r) := Ex.of (by decide) rfl (fun q => nomatch q) (Nat.le_of_ble_eq_true rfl) (w_X8_plainEnd_0 (itg h).2)
theorem w_X8_plainMisses_13 {sa : Env3} {a0 : Nat} {s0 : Nat} {s1 : Int32} {σ : St} {r : Int32 × St} (h : f_X8_plainMisses_13 a0 s0 s1 σ = some r) : VV sa cX8_plainMisses K_X8_plainMisses 13 [(0, .ref a0)] [.int s1, .ref s0] σ (pO r) 0 0 := by
  unfold f_X8_plainMisses_13 at h
  refine v_iconst (dq D_X8_plainMisses 7 rfl) kc_1 ?_
  obtain ⟨q1, hq1, h⟩ := obi h
  refine v_cVi (bc := 0) (bs := 0) (As := [.int s1, .int 1]) (dq D_X8_plainMisses 8 rfl) cv_X8_refused ml_RX8_85 (itg hq1).1 (m_X8_refused hq1) rfl rfl (Nat.le_of_ble_eq_true rfl) ⟨Nat.le_of_ble_eq_true rfl, Nat.le_of_ble_eq_true rfl⟩ ⟨Nat.le_of_ble_eq_true rfl, Nat.le_of_ble_eq_true rfl⟩ ?_
  refine v_if_eq (dq D_X8_plainMisses 9 rfl) rfl (fun c2 => ?_) (fun c2 => ?_)
  · have h := itp h c2
    refine v_aload_n (dq D_X8_plainMisses 12 rfl) 0 rfl ?_
    obtain ⟨x3, hx3, h⟩ := obi h
    refine v_gR (dq D_X8_plainMisses 13 rfl) fa_RX8_52 hx3 ?_
    refine v_aload_n (dq D_X8_plainMisses 14 rfl) 0 rfl ?_
    obtain ⟨x4, hx4, h⟩ := obi h
    refine v_gR (dq D_X8_plainMisses 15 rfl) fa_RX8_16 hx4 ?_
    refine v_iconst (dq D_X8_plainMisses 16 rfl) kc_0 ?_
    refine v_sipush (dq D_X8_plainMisses 17 rfl) ks_200 ?_
    obtain ⟨σ5, hσ5, h⟩ := obi h
    refine v_cVv (bc := 0) (bs := 0) (As := [.ref x4, .int 0, .int 200]) (dq D_X8_plainMisses 18 rfl) cv_X4_play ml_RX8_124 (itg hσ5).1 (m_X4_play hσ5) rfl rfl (Nat.le_of_ble_eq_true rfl) ⟨Nat.le_of_ble_eq_true rfl, Nat.le_of_ble_eq_true rfl⟩ ⟨Nat.le_of_ble_eq_true rfl, Nat.le_of_ble_eq_true rfl⟩ ?_
    refine v_aload_n (dq D_X8_plainMisses 19 rfl) 0 rfl ?_
    obtain ⟨x6, hx6, h⟩ := obi h
    refine v_gR (dq D_X8_plainMisses 20 rfl) fa_RX8_52 hx6 ?_
    obtain ⟨x7, hx7, h⟩ := obi h
    refine v_gI (dq D_X8_plainMisses 21 rfl) fa_RX8_148 hx7 ?_
    obtain rfl := Option.some.inj h
    exact v_iret (dq D_X8_plainMisses 22 rfl) rfl ⟨rfl, rfl⟩
  · have h := itn h c2
    refine v_iconst (dq D_X8_plainMisses 10 rfl) kc_m1 ?_
    obtain rfl := Option.some.inj h
    exact v_iret (dq D_X8_plainMisses 11 rfl) rfl ⟨rfl, rfl⟩
theorem w_X8_plainMisses_0 {sa : Env3} {a0 : Nat} {σ : St} {r : Int32 × St} (h : f_X8_plainMisses_0 a0 σ = some r) : VV sa cX8_plainMisses K_X8_plainMisses 0 [(0, .ref a0)] [] σ (pO r) 0 0 := by
  unfold f_X8_plainMisses_0 at h
  refine v_aload_n (dq D_X8_plainMisses 0 rfl) 0 rfl ?_
  refine v_aload_n (dq D_X8_plainMisses 1 rfl) 0 rfl ?_
  obtain ⟨x1, hx1, h⟩ := obi h
  refine v_gI (dq D_X8_plainMisses 2 rfl) fa_RX8_70 hx1 ?_
  refine v_if_ne (dq D_X8_plainMisses 3 rfl) rfl (fun c2 => ?_) (fun c2 => ?_)
  · have h := itn h c2
    refine v_iconst (dq D_X8_plainMisses 6 rfl) kc_0 ?_
    exact w_X8_plainMisses_13 h
  · have h := itp h c2
    refine v_iconst (dq D_X8_plainMisses 4 rfl) kc_1 ?_
    refine v_goto (dq D_X8_plainMisses 5 rfl) rfl ?_
    exact w_X8_plainMisses_13 h
theorem m_X8_plainMisses {sa : Env3} {a0 : Nat} {σ : St} {r : Int32 × St} (h : f_X8_plainMisses a0 σ = some r) : Ex sa yX8_plainMisses cX8_plainMisses K_X8_plainMisses [.ref a0] σ (pO r) := Ex.of (by decide) rfl (fun q => nomatch q) (Nat.le_of_ble_eq_true rfl) (w_X8_plainMisses_0 (itg h).2)
theorem w_X8_plainStep_45 {sa : Env3}  {σ : St} {r : Int32 × St} (h : f_X8_plainStep_45  σ = some r) : VV sa cX8_plainStep K_X8_plainStep 45 [] [] σ (pO r) 0 0 := by
  unfold f_X8_plainStep_45 at h
  refine v_iconst (dq D_X8_plainStep 23 rfl) kc_m1 ?_
  obtain rfl := Option.some.inj h
  exact v_iret (dq D_X8_plainStep 24 rfl) rfl ⟨rfl, rfl⟩
theorem w_X8_plainStep_38 {sa : Env3} {a0 : Nat} {a1 : Int32} {s0 : Nat} {s1 : Int32} {σ : St} {r : Int32 × St} (h : f_X8_plainStep_38 a0 a1 s0 s1 σ = some r) : VV sa cX8_plainStep K_X8_plainStep 38 [(0, .ref a0), (1, .int a1)] [.int s1, .ref s0] σ (pO r) 0 0 := by
  unfold f_X8_plainStep_38 at h
  refine v_iconst (dq D_X8_plainStep 20 rfl) kc_2 ?_
  obtain ⟨q1, hq1, h⟩ := obi h
  refine v_cVi (bc := 0) (bs := 0) (As := [.int s1, .int 2]) (dq D_X8_plainStep 21 rfl) cv_X8_refused ml_RX8_85 (itg hq1).1 (m_X8_refused hq1) rfl rfl (Nat.le_of_ble_eq_true rfl) ⟨Nat.le_of_ble_eq_true rfl, Nat.le_of_ble_eq_true rfl⟩ ⟨Nat.le_of_ble_eq_true rfl, Nat.le_of_ble_eq_true rfl⟩ ?_
  refine v_if_eq (dq D_X8_plainStep 22 rfl) rfl (fun c2 => ?_) (fun c2 => ?_)
  · have h := itp h c2
    refine v_aload_n (dq D_X8_plainStep 25 rfl) 0 rfl ?_
    obtain ⟨x3, hx3, h⟩ := obi h
    refine v_gR (dq D_X8_plainStep 26 rfl) fa_RX8_52 hx3 ?_
    refine v_aload_n (dq D_X8_plainStep 27 rfl) 0 rfl ?_
    obtain ⟨x4, hx4, h⟩ := obi h
    refine v_gR (dq D_X8_plainStep 28 rfl) fa_RX8_16 hx4 ?_
    refine v_iconst (dq D_X8_plainStep 29 rfl) kc_0 ?_
    refine v_iload_n (dq D_X8_plainStep 30 rfl) 1 rfl ?_
    obtain ⟨σ5, hσ5, h⟩ := obi h
    refine v_cVv (bc := 0) (bs := 0) (As := [.ref x4, .int 0, .int a1]) (dq D_X8_plainStep 31 rfl) cv_X4_play ml_RX8_124 (itg hσ5).1 (m_X4_play hσ5) rfl rfl (Nat.le_of_ble_eq_true rfl) ⟨Nat.le_of_ble_eq_true rfl, Nat.le_of_ble_eq_true rfl⟩ ⟨Nat.le_of_ble_eq_true rfl, Nat.le_of_ble_eq_true rfl⟩ ?_
    refine v_aload_n (dq D_X8_plainStep 32 rfl) 0 rfl ?_
    obtain ⟨x6, hx6, h⟩ := obi h
    refine v_gR (dq D_X8_plainStep 33 rfl) fa_RX8_52 hx6 ?_
    obtain ⟨x7, hx7, h⟩ := obi h
    refine v_gI (dq D_X8_plainStep 34 rfl) fa_RX8_134 hx7 ?_
    obtain rfl := Option.some.inj h
    exact v_iret (dq D_X8_plainStep 35 rfl) rfl ⟨rfl, rfl⟩
  · have h := itn h c2
    exact v_sub [] rfl (w_X8_plainStep_45 h)
theorem w_X8_plainStep_33 {sa : Env3} {a0 : Nat} {a1 : Int32} {s0 : Nat} {σ : St} {r : Int32 × St} (h : f_X8_plainStep_33 a0 a1 s0 σ = some r) : VV sa cX8_plainStep K_X8_plainStep 33 [(0, .ref a0), (1, .int a1)] [.ref s0] σ (pO r) 0 0 := by
  unfold f_X8_plainStep_33 at h
  refine v_iconst (dq D_X8_plainStep 17 rfl) kc_1 ?_
  refine v_goto (dq D_X8_plainStep 18 rfl) rfl ?_
  exact w_X8_plainStep_38 h
theorem w_X8_plainStep_13 {sa : Env3} {a0 : Nat} {a1 : Int32} {s0 : Nat} {s1 : Int32} {σ : St} {r : Int32 × St} (h : f_X8_plainStep_13 a0 a1 s0 s1 σ = some r) : VV sa cX8_plainStep K_X8_plainStep 13 [(0, .ref a0), (1, .int a1)] [.int s1, .ref s0] σ (pO r) 0 0 := by
  unfold f_X8_plainStep_13 at h
  refine v_iconst (dq D_X8_plainStep 7 rfl) kc_1 ?_
  obtain ⟨q1, hq1, h⟩ := obi h
  refine v_cVi (bc := 0) (bs := 0) (As := [.int s1, .int 1]) (dq D_X8_plainStep 8 rfl) cv_X8_refused ml_RX8_85 (itg hq1).1 (m_X8_refused hq1) rfl rfl (Nat.le_of_ble_eq_true rfl) ⟨Nat.le_of_ble_eq_true rfl, Nat.le_of_ble_eq_true rfl⟩ ⟨Nat.le_of_ble_eq_true rfl, Nat.le_of_ble_eq_true rfl⟩ ?_
  refine v_if_ne (dq D_X8_plainStep 9 rfl) rfl (fun c2 => ?_) (fun c2 => ?_)
  · have h := itn h c2
    exact v_sub [] rfl (w_X8_plainStep_45 h)
  · have h := itp h c2
    refine v_aload_n (dq D_X8_plainStep 10 rfl) 0 rfl ?_
    refine v_iload_n (dq D_X8_plainStep 11 rfl) 1 rfl ?_
    refine v_if_lt (dq D_X8_plainStep 12 rfl) rfl (fun c3 => ?_) (fun c3 => ?_)
    · have h := itp h c3
      exact w_X8_plainStep_33 h
    · have h := itn h c3
      refine v_iload_n (dq D_X8_plainStep 13 rfl) 1 rfl ?_
      refine v_aload_n (dq D_X8_plainStep 14 rfl) 0 rfl ?_
      obtain ⟨q4, hq4, h⟩ := obi h
      refine v_cVi (bc := 0) (bs := 0) (As := []) (dq D_X8_plainStep 15 rfl) cv_X8_plainTotal ml_RX8_120 (itg hq4).1 (m_X8_plainTotal hq4) rfl rfl (Nat.le_of_ble_eq_true rfl) ⟨Nat.le_of_ble_eq_true rfl, Nat.le_of_ble_eq_true rfl⟩ ⟨Nat.le_of_ble_eq_true rfl, Nat.le_of_ble_eq_true rfl⟩ ?_
      refine v_icmp_le (dq D_X8_plainStep 16 rfl) rfl (fun c5 => ?_) (fun c5 => ?_)
      · have h := itp h c5
        refine v_iconst (dq D_X8_plainStep 19 rfl) kc_0 ?_
        exact w_X8_plainStep_38 h
      · have h := itn h c5
        exact w_X8_plainStep_33 h
theorem w_X8_plainStep_0 {sa : Env3} {a0 : Nat} {a1 : Int32} {σ : St} {r : Int32 × St} (h : f_X8_plainStep_0 a0 a1 σ = some r) : VV sa cX8_plainStep K_X8_plainStep 0 [(0, .ref a0), (1, .int a1)] [] σ (pO r) 0 0 := by
  unfold f_X8_plainStep_0 at h
  refine v_aload_n (dq D_X8_plainStep 0 rfl) 0 rfl ?_
  refine v_aload_n (dq D_X8_plainStep 1 rfl) 0 rfl ?_
  obtain ⟨x1, hx1, h⟩ := obi h
  refine v_gI (dq D_X8_plainStep 2 rfl) fa_RX8_70 hx1 ?_
  refine v_if_ne (dq D_X8_plainStep 3 rfl) rfl (fun c2 => ?_) (fun c2 => ?_)
  · have h := itn h c2
    refine v_iconst (dq D_X8_plainStep 6 rfl) kc_0 ?_
    exact w_X8_plainStep_13 h
  · have h := itp h c2
    refine v_iconst (dq D_X8_plainStep 4 rfl) kc_1 ?_
    refine v_goto (dq D_X8_plainStep 5 rfl) rfl ?_
    exact w_X8_plainStep_13 h
theorem m_X8_plainStep {sa : Env3} {a0 : Nat} {a1 : Int32} {σ : St} {r : Int32 × St} (h : f_X8_plainStep a0 a1 σ = some r) : Ex sa yX8_plainStep cX8_plainStep K_X8_plainStep [.ref a0, .int a1] σ (pO r) := Ex.of (by decide) rfl (fun q => nomatch q) (Nat.le_of_ble_eq_true rfl) (w_X8_plainStep_0 (itg h).2)
theorem w_X8_plainSteps_13 {sa : Env3} {a0 : Nat} {s0 : Nat} {s1 : Int32} {σ : St} {r : Int32 × St} (h : f_X8_plainSteps_13 a0 s0 s1 σ = some r) : VV sa cX8_plainSteps K_X8_plainSteps 13 [(0, .ref a0)] [.int s1, .ref s0] σ (pO r) 0 0 := by
  unfold f_X8_plainSteps_13 at h
  refine v_iconst (dq D_X8_plainSteps 7 rfl) kc_1 ?_
  obtain ⟨q1, hq1, h⟩ := obi h
  refine v_cVi (bc := 0) (bs := 0) (As := [.int s1, .int 1]) (dq D_X8_plainSteps 8 rfl) cv_X8_refused ml_RX8_85 (itg hq1).1 (m_X8_refused hq1) rfl rfl (Nat.le_of_ble_eq_true rfl) ⟨Nat.le_of_ble_eq_true rfl, Nat.le_of_ble_eq_true rfl⟩ ⟨Nat.le_of_ble_eq_true rfl, Nat.le_of_ble_eq_true rfl⟩ ?_
  refine v_if_eq (dq D_X8_plainSteps 9 rfl) rfl (fun c2 => ?_) (fun c2 => ?_)
  · have h := itp h c2
    refine v_aload_n (dq D_X8_plainSteps 12 rfl) 0 rfl ?_
    obtain ⟨q3, hq3, h⟩ := obi h
    refine v_cVi (bc := 0) (bs := 0) (As := []) (dq D_X8_plainSteps 13 rfl) cv_X8_plainTotal ml_RX8_120 (itg hq3).1 (m_X8_plainTotal hq3) rfl rfl (Nat.le_of_ble_eq_true rfl) ⟨Nat.le_of_ble_eq_true rfl, Nat.le_of_ble_eq_true rfl⟩ ⟨Nat.le_of_ble_eq_true rfl, Nat.le_of_ble_eq_true rfl⟩ ?_
    obtain rfl := Option.some.inj h
    exact v_iret (dq D_X8_plainSteps 14 rfl) rfl ⟨rfl, rfl⟩
  · have h := itn h c2
    refine v_iconst (dq D_X8_plainSteps 10 rfl) kc_m1 ?_
    obtain rfl := Option.some.inj h
    exact v_iret (dq D_X8_plainSteps 11 rfl) rfl ⟨rfl, rfl⟩
theorem w_X8_plainSteps_0 {sa : Env3} {a0 : Nat} {σ : St} {r : Int32 × St} (h : f_X8_plainSteps_0 a0 σ = some r) : VV sa cX8_plainSteps K_X8_plainSteps 0 [(0, .ref a0)] [] σ (pO r) 0 0 := by
  unfold f_X8_plainSteps_0 at h
  refine v_aload_n (dq D_X8_plainSteps 0 rfl) 0 rfl ?_
  refine v_aload_n (dq D_X8_plainSteps 1 rfl) 0 rfl ?_
  obtain ⟨x1, hx1, h⟩ := obi h
  refine v_gI (dq D_X8_plainSteps 2 rfl) fa_RX8_70 hx1 ?_
  refine v_if_ne (dq D_X8_plainSteps 3 rfl) rfl (fun c2 => ?_) (fun c2 => ?_)
  · have h := itn h c2
    refine v_iconst (dq D_X8_plainSteps 6 rfl) kc_0 ?_
    exact w_X8_plainSteps_13 h
  · have h := itp h c2
    refine v_iconst (dq D_X8_plainSteps 4 rfl) kc_1 ?_
    refine v_goto (dq D_X8_plainSteps 5 rfl) rfl ?_
    exact w_X8_plainSteps_13 h
theorem m_X8_plainSteps {sa : Env3} {a0 : Nat} {σ : St} {r : Int32 × St} (h : f_X8_plainSteps a0 σ = some r) : Ex sa yX8_plainSteps cX8_plainSteps K_X8_plainSteps [.ref a0] σ (pO r) := Ex.of (by decide) rfl (fun q => nomatch q) (Nat.le_of_ble_eq_true rfl) (w_X8_plainSteps_0 (itg h).2)
theorem w_X8_rate_40 {sa : Env3}  {σ : St} {r : Int64 × St} (h : f_X8_rate_40  σ = some r) : VV sa cX8_rate K_X8_rate 40 [] [] σ (pJ r) 0 0 := by
  unfold f_X8_rate_40 at h
  refine v_ldc2 (dq D_X8_rate 20 rfl) tw_955 ?_
  obtain rfl := Option.some.inj h
  exact v_lret (dq D_X8_rate 21 rfl) rfl ⟨rfl, rfl⟩
theorem w_X8_rate_107 {sa : Env3} {s0 : Int64} {σ : St} {r : Int64 × St} (h : f_X8_rate_107 s0 σ = some r) : VV sa cX8_rate K_X8_rate 107 [] [.long s0] σ (pJ r) 0 0 := by
  unfold f_X8_rate_107 at h
  obtain rfl := Option.some.inj h
  exact v_lret (dq D_X8_rate 56 rfl) rfl ⟨rfl, rfl⟩
theorem w_X8_rate_33 {sa : Env3} {a0 : Nat} {a1 : Int32} {a2 : Int32} {s0 : Nat} {s1 : Int32} {σ : St} {r : Int64 × St} (h : f_X8_rate_33 a0 a1 a2 s0 s1 σ = some r) : VV sa cX8_rate K_X8_rate 33 [(0, .ref a0), (1, .int a1), (2, .int a2)] [.int s1, .ref s0] σ (pJ r) 0 0 := by
  unfold f_X8_rate_33 at h
  refine v_iconst (dq D_X8_rate 17 rfl) kc_2 ?_
  obtain ⟨q1, hq1, h⟩ := obi h
  refine v_cVi (bc := 0) (bs := 0) (As := [.int s1, .int 2]) (dq D_X8_rate 18 rfl) cv_X8_refused ml_RX8_85 (itg hq1).1 (m_X8_refused hq1) rfl rfl (Nat.le_of_ble_eq_true rfl) ⟨Nat.le_of_ble_eq_true rfl, Nat.le_of_ble_eq_true rfl⟩ ⟨Nat.le_of_ble_eq_true rfl, Nat.le_of_ble_eq_true rfl⟩ ?_
  refine v_if_eq (dq D_X8_rate 19 rfl) rfl (fun c2 => ?_) (fun c2 => ?_)
  · have h := itp h c2
    refine v_aload_n (dq D_X8_rate 22 rfl) 0 rfl ?_
    obtain ⟨x3, hx3, h⟩ := obi h
    refine v_gR (dq D_X8_rate 23 rfl) fa_RX8_59 hx3 ?_
    refine v_aload_n (dq D_X8_rate 24 rfl) 0 rfl ?_
    obtain ⟨x4, hx4, h⟩ := obi h
    refine v_gR (dq D_X8_rate 25 rfl) fa_RX8_16 hx4 ?_
    refine v_iload_n (dq D_X8_rate 26 rfl) 1 rfl ?_
    obtain ⟨q5, hq5, h⟩ := obi h
    refine v_cVi (bc := 0) (bs := 0) (As := [.ref x4, .int a1]) (dq D_X8_rate 27 rfl) cv_X0_slotOf ml_RX8_243 (itg hq5).1 (m_X0_slotOf hq5) rfl rfl (Nat.le_of_ble_eq_true rfl) ⟨Nat.le_of_ble_eq_true rfl, Nat.le_of_ble_eq_true rfl⟩ ⟨Nat.le_of_ble_eq_true rfl, Nat.le_of_ble_eq_true rfl⟩ ?_
    refine v_istore_n (dq D_X8_rate 28 rfl) [(3, .int q5.1), (0, .ref a0), (1, .int a1), (2, .int a2)] rfl (Nat.le_of_ble_eq_true rfl) rfl ?_
    refine v_aload_n (dq D_X8_rate 29 rfl) 1 rfl ?_
    obtain ⟨x6, hx6, h⟩ := obi h
    refine v_gR (dq D_X8_rate 30 rfl) fa_RX8_59 hx6 ?_
    obtain ⟨x7, hx7, h⟩ := obi h
    refine v_gR (dq D_X8_rate 31 rfl) fa_RX8_247 hx7 ?_
    refine v_iload_n (dq D_X8_rate 32 rfl) 0 rfl ?_
    obtain ⟨x8, hx8, h⟩ := obi h
    refine v_iald (dq D_X8_rate 33 rfl) hx8 ?_
    refine v_istore (dq D_X8_rate 34 rfl) [(4, .int x8), (3, .int q5.1), (0, .ref a0), (1, .int a1), (2, .int a2)] (Nat.le_of_ble_eq_true rfl) rfl ?_
    refine v_aload_n (dq D_X8_rate 35 rfl) 2 rfl ?_
    obtain ⟨x9, hx9, h⟩ := obi h
    refine v_gR (dq D_X8_rate 36 rfl) fa_RX8_59 hx9 ?_
    obtain ⟨x10, hx10, h⟩ := obi h
    refine v_gR (dq D_X8_rate 37 rfl) fa_RX8_240 hx10 ?_
    refine v_iload_n (dq D_X8_rate 38 rfl) 1 rfl ?_
    obtain ⟨x11, hx11, h⟩ := obi h
    refine v_iald (dq D_X8_rate 39 rfl) hx11 ?_
    refine v_istore (dq D_X8_rate 40 rfl) [(5, .int x11), (4, .int x8), (3, .int q5.1), (0, .ref a0), (1, .int a1), (2, .int a2)] (Nat.le_of_ble_eq_true rfl) rfl ?_
    refine v_iload (dq D_X8_rate 41 rfl) 1 rfl ?_
    refine v_iload (dq D_X8_rate 42 rfl) 0 rfl ?_
    obtain ⟨q12, hq12, h⟩ := obi h
    refine v_cSi (bc := 0) (bs := 0) (As := [.int x8, .int x11]) (dq D_X8_rate 43 rfl) cs_X8_commonDivisor ml_RX8_256 (m_X8_commonDivisor hq12) rfl rfl (Nat.le_of_ble_eq_true rfl) ⟨Nat.le_of_ble_eq_true rfl, Nat.le_of_ble_eq_true rfl⟩ ⟨Nat.le_of_ble_eq_true rfl, Nat.le_of_ble_eq_true rfl⟩ ?_
    refine v_istore (dq D_X8_rate 44 rfl) [(6, .int q12.1), (5, .int x11), (4, .int x8), (3, .int q5.1), (0, .ref a0), (1, .int a1), (2, .int a2)] (Nat.le_of_ble_eq_true rfl) rfl ?_
    refine v_iload_n (dq D_X8_rate 45 rfl) 6 rfl ?_
    refine v_if_eq (dq D_X8_rate 46 rfl) rfl (fun c13 => ?_) (fun c13 => ?_)
    · have h := itp h c13
      refine v_iload (dq D_X8_rate 52 rfl) 2 rfl ?_
      refine v_iload (dq D_X8_rate 53 rfl) 0 rfl ?_
      have c14 := (itx h).1
      have h := (itx h).2
      refine v_idiv (dq D_X8_rate 54 rfl) c14 ?_
      refine v_i2l (dq D_X8_rate 55 rfl) ?_
      exact v_sub [] rfl (w_X8_rate_107 h)
    · have h := itn h c13
      refine v_iload (dq D_X8_rate 47 rfl) 1 rfl ?_
      refine v_iload (dq D_X8_rate 48 rfl) 0 rfl ?_
      have c15 := (itx h).1
      have h := (itx h).2
      refine v_idiv (dq D_X8_rate 49 rfl) c15 ?_
      refine v_i2l (dq D_X8_rate 50 rfl) ?_
      refine v_goto (dq D_X8_rate 51 rfl) rfl ?_
      exact v_sub [] rfl (w_X8_rate_107 h)
  · have h := itn h c2
    exact v_sub [] rfl (w_X8_rate_40 h)
theorem w_X8_rate_13 {sa : Env3} {a0 : Nat} {a1 : Int32} {a2 : Int32} {s0 : Nat} {s1 : Int32} {σ : St} {r : Int64 × St} (h : f_X8_rate_13 a0 a1 a2 s0 s1 σ = some r) : VV sa cX8_rate K_X8_rate 13 [(0, .ref a0), (1, .int a1), (2, .int a2)] [.int s1, .ref s0] σ (pJ r) 0 0 := by
  unfold f_X8_rate_13 at h
  refine v_iconst (dq D_X8_rate 7 rfl) kc_1 ?_
  obtain ⟨q1, hq1, h⟩ := obi h
  refine v_cVi (bc := 0) (bs := 0) (As := [.int s1, .int 1]) (dq D_X8_rate 8 rfl) cv_X8_refused ml_RX8_85 (itg hq1).1 (m_X8_refused hq1) rfl rfl (Nat.le_of_ble_eq_true rfl) ⟨Nat.le_of_ble_eq_true rfl, Nat.le_of_ble_eq_true rfl⟩ ⟨Nat.le_of_ble_eq_true rfl, Nat.le_of_ble_eq_true rfl⟩ ?_
  refine v_if_ne (dq D_X8_rate 9 rfl) rfl (fun c2 => ?_) (fun c2 => ?_)
  · have h := itn h c2
    exact v_sub [] rfl (w_X8_rate_40 h)
  · have h := itp h c2
    refine v_aload_n (dq D_X8_rate 10 rfl) 0 rfl ?_
    refine v_iload_n (dq D_X8_rate 11 rfl) 1 rfl ?_
    obtain ⟨q3, hq3, h⟩ := obi h
    refine v_cSi (bc := 0) (bs := 0) (As := [.int a1]) (dq D_X8_rate 12 rfl) cs_X8_isCells ml_RX8_237 (m_X8_isCells hq3) rfl rfl (Nat.le_of_ble_eq_true rfl) ⟨Nat.le_of_ble_eq_true rfl, Nat.le_of_ble_eq_true rfl⟩ ⟨Nat.le_of_ble_eq_true rfl, Nat.le_of_ble_eq_true rfl⟩ ?_
    refine v_if_ne (dq D_X8_rate 13 rfl) rfl (fun c4 => ?_) (fun c4 => ?_)
    · have h := itn h c4
      refine v_iconst (dq D_X8_rate 16 rfl) kc_0 ?_
      exact w_X8_rate_33 h
    · have h := itp h c4
      refine v_iconst (dq D_X8_rate 14 rfl) kc_1 ?_
      refine v_goto (dq D_X8_rate 15 rfl) rfl ?_
      exact w_X8_rate_33 h
theorem w_X8_rate_0 {sa : Env3} {a0 : Nat} {a1 : Int32} {a2 : Int32} {σ : St} {r : Int64 × St} (h : f_X8_rate_0 a0 a1 a2 σ = some r) : VV sa cX8_rate K_X8_rate 0 [(0, .ref a0), (1, .int a1), (2, .int a2)] [] σ (pJ r) 0 0 := by
  unfold f_X8_rate_0 at h
  refine v_aload_n (dq D_X8_rate 0 rfl) 0 rfl ?_
  refine v_aload_n (dq D_X8_rate 1 rfl) 0 rfl ?_
  obtain ⟨x1, hx1, h⟩ := obi h
  refine v_gI (dq D_X8_rate 2 rfl) fa_RX8_70 hx1 ?_
  refine v_if_ne (dq D_X8_rate 3 rfl) rfl (fun c2 => ?_) (fun c2 => ?_)
  · have h := itn h c2
    refine v_iconst (dq D_X8_rate 6 rfl) kc_0 ?_
    exact w_X8_rate_13 h
  · have h := itp h c2
    refine v_iconst (dq D_X8_rate 4 rfl) kc_1 ?_
    refine v_goto (dq D_X8_rate 5 rfl) rfl ?_
    exact w_X8_rate_13 h
theorem m_X8_rate {sa : Env3} {a0 : Nat} {a1 : Int32} {a2 : Int32} {σ : St} {r : Int64 × St} (h : f_X8_rate a0 a1 a2 σ = some r) : Ex sa yX8_rate cX8_rate K_X8_rate [.ref a0, .int a1, .int a2] σ (pJ r) := Ex.of (by decide) rfl (fun q => nomatch q) (Nat.le_of_ble_eq_true rfl) (w_X8_rate_0 (itg h).2)
theorem w_X8_ready_13 {sa : Env3} {a0 : Nat} {s0 : Nat} {s1 : Int32} {σ : St} {r : Int32 × St} (h : f_X8_ready_13 a0 s0 s1 σ = some r) : VV sa cX8_ready K_X8_ready 13 [(0, .ref a0)] [.int s1, .ref s0] σ (pO r) 0 0 := by
  unfold f_X8_ready_13 at h
  refine v_iconst (dq D_X8_ready 7 rfl) kc_1 ?_
  obtain ⟨q1, hq1, h⟩ := obi h
  refine v_cVi (bc := 0) (bs := 0) (As := [.int s1, .int 1]) (dq D_X8_ready 8 rfl) cv_X8_refused ml_RX8_85 (itg hq1).1 (m_X8_refused hq1) rfl rfl (Nat.le_of_ble_eq_true rfl) ⟨Nat.le_of_ble_eq_true rfl, Nat.le_of_ble_eq_true rfl⟩ ⟨Nat.le_of_ble_eq_true rfl, Nat.le_of_ble_eq_true rfl⟩ ?_
  refine v_if_eq (dq D_X8_ready 9 rfl) rfl (fun c2 => ?_) (fun c2 => ?_)
  · have h := itp h c2
    refine v_aload_n (dq D_X8_ready 12 rfl) 0 rfl ?_
    obtain ⟨x3, hx3, h⟩ := obi h
    refine v_gR (dq D_X8_ready 13 rfl) fa_RX8_35 hx3 ?_
    obtain ⟨x4, hx4, h⟩ := obi h
    refine v_gI (dq D_X8_ready 14 rfl) fa_RX8_183 hx4 ?_
    obtain rfl := Option.some.inj h
    exact v_iret (dq D_X8_ready 15 rfl) rfl ⟨rfl, rfl⟩
  · have h := itn h c2
    refine v_iconst (dq D_X8_ready 10 rfl) kc_m1 ?_
    obtain rfl := Option.some.inj h
    exact v_iret (dq D_X8_ready 11 rfl) rfl ⟨rfl, rfl⟩
theorem w_X8_ready_0 {sa : Env3} {a0 : Nat} {σ : St} {r : Int32 × St} (h : f_X8_ready_0 a0 σ = some r) : VV sa cX8_ready K_X8_ready 0 [(0, .ref a0)] [] σ (pO r) 0 0 := by
  unfold f_X8_ready_0 at h
  refine v_aload_n (dq D_X8_ready 0 rfl) 0 rfl ?_
  refine v_aload_n (dq D_X8_ready 1 rfl) 0 rfl ?_
  obtain ⟨x1, hx1, h⟩ := obi h
  refine v_gI (dq D_X8_ready 2 rfl) fa_RX8_70 hx1 ?_
  refine v_if_ne (dq D_X8_ready 3 rfl) rfl (fun c2 => ?_) (fun c2 => ?_)
  · have h := itn h c2
    refine v_iconst (dq D_X8_ready 6 rfl) kc_0 ?_
    exact w_X8_ready_13 h
  · have h := itp h c2
    refine v_iconst (dq D_X8_ready 4 rfl) kc_1 ?_
    refine v_goto (dq D_X8_ready 5 rfl) rfl ?_
    exact w_X8_ready_13 h
theorem m_X8_ready {sa : Env3} {a0 : Nat} {σ : St} {r : Int32 × St} (h : f_X8_ready a0 σ = some r) : Ex sa yX8_ready cX8_ready K_X8_ready [.ref a0] σ (pO r) := Ex.of (by decide) rfl (fun q => nomatch q) (Nat.le_of_ble_eq_true rfl) (w_X8_ready_0 (itg h).2)
theorem w_X8_resume_43 {sa : Env3}  {σ : St} {r : Int32 × St} (h : f_X8_resume_43  σ = some r) : VV sa cX8_resume K_X8_resume 43 [] [] σ (pO r) 0 0 := by
  unfold f_X8_resume_43 at h
  refine v_iconst (dq D_X8_resume 22 rfl) kc_0 ?_
  obtain rfl := Option.some.inj h
  exact v_zret (dq D_X8_resume 23 rfl) rfl rfl ⟨rfl, rfl⟩
theorem w_X8_resume_61 {sa : Env3} {a0 : Nat} {a1 : Int32} {s0 : Nat} {s1 : Int32} {σ : St} {r : Int32 × St} (h : f_X8_resume_61 a0 a1 s0 s1 σ = some r) : VV sa cX8_resume K_X8_resume 61 [(0, .ref a0), (1, .int a1)] [.int s1, .ref s0] σ (pO r) 0 0 := by
  unfold f_X8_resume_61 at h
  refine v_iconst (dq D_X8_resume 32 rfl) kc_5 ?_
  obtain ⟨q1, hq1, h⟩ := obi h
  refine v_cVi (bc := 0) (bs := 0) (As := [.int s1, .int 5]) (dq D_X8_resume 33 rfl) cv_X8_refused ml_RX8_85 (itg hq1).1 (m_X8_refused hq1) rfl rfl (Nat.le_of_ble_eq_true rfl) ⟨Nat.le_of_ble_eq_true rfl, Nat.le_of_ble_eq_true rfl⟩ ⟨Nat.le_of_ble_eq_true rfl, Nat.le_of_ble_eq_true rfl⟩ ?_
  refine v_if_eq (dq D_X8_resume 34 rfl) rfl (fun c2 => ?_) (fun c2 => ?_)
  · have h := itp h c2
    refine v_aload_n (dq D_X8_resume 37 rfl) 0 rfl ?_
    obtain ⟨x3, hx3, h⟩ := obi h
    refine v_gR (dq D_X8_resume 38 rfl) fa_RX8_45 hx3 ?_
    refine v_aload_n (dq D_X8_resume 39 rfl) 0 rfl ?_
    obtain ⟨x4, hx4, h⟩ := obi h
    refine v_gR (dq D_X8_resume 40 rfl) fa_RX8_35 hx4 ?_
    obtain ⟨σ5, hσ5, h⟩ := obi h
    refine v_cVv (bc := 0) (bs := 0) (As := [.ref x4]) (dq D_X8_resume 41 rfl) cv_X2_keep ml_RX8_309 (itg hσ5).1 (m_X2_keep hσ5) rfl rfl (Nat.le_of_ble_eq_true rfl) ⟨Nat.le_of_ble_eq_true rfl, Nat.le_of_ble_eq_true rfl⟩ ⟨Nat.le_of_ble_eq_true rfl, Nat.le_of_ble_eq_true rfl⟩ ?_
    refine v_aload_n (dq D_X8_resume 42 rfl) 0 rfl ?_
    obtain ⟨x6, hx6, h⟩ := obi h
    refine v_gR (dq D_X8_resume 43 rfl) fa_RX8_35 hx6 ?_
    refine v_iload_n (dq D_X8_resume 44 rfl) 1 rfl ?_
    obtain ⟨σ7, hσ7, h⟩ := obi h
    refine v_cVv (bc := 0) (bs := 0) (As := [.int a1]) (dq D_X8_resume 45 rfl) cv_X3_goOnAt ml_RX8_315 (itg hσ7).1 (m_X3_goOnAt hσ7) rfl rfl (Nat.le_of_ble_eq_true rfl) ⟨Nat.le_of_ble_eq_true rfl, Nat.le_of_ble_eq_true rfl⟩ ⟨Nat.le_of_ble_eq_true rfl, Nat.le_of_ble_eq_true rfl⟩ ?_
    refine v_iconst (dq D_X8_resume 46 rfl) kc_1 ?_
    obtain rfl := Option.some.inj h
    exact v_zret (dq D_X8_resume 47 rfl) rfl rfl ⟨rfl, rfl⟩
  · have h := itn h c2
    refine v_iconst (dq D_X8_resume 35 rfl) kc_0 ?_
    obtain rfl := Option.some.inj h
    exact v_zret (dq D_X8_resume 36 rfl) rfl rfl ⟨rfl, rfl⟩
theorem w_X8_resume_36 {sa : Env3} {a0 : Nat} {a1 : Int32} {s0 : Nat} {s1 : Int32} {σ : St} {r : Int32 × St} (h : f_X8_resume_36 a0 a1 s0 s1 σ = some r) : VV sa cX8_resume K_X8_resume 36 [(0, .ref a0), (1, .int a1)] [.int s1, .ref s0] σ (pO r) 0 0 := by
  unfold f_X8_resume_36 at h
  refine v_iconst (dq D_X8_resume 19 rfl) kc_2 ?_
  obtain ⟨q1, hq1, h⟩ := obi h
  refine v_cVi (bc := 0) (bs := 0) (As := [.int s1, .int 2]) (dq D_X8_resume 20 rfl) cv_X8_refused ml_RX8_85 (itg hq1).1 (m_X8_refused hq1) rfl rfl (Nat.le_of_ble_eq_true rfl) ⟨Nat.le_of_ble_eq_true rfl, Nat.le_of_ble_eq_true rfl⟩ ⟨Nat.le_of_ble_eq_true rfl, Nat.le_of_ble_eq_true rfl⟩ ?_
  refine v_if_eq (dq D_X8_resume 21 rfl) rfl (fun c2 => ?_) (fun c2 => ?_)
  · have h := itp h c2
    refine v_aload_n (dq D_X8_resume 24 rfl) 0 rfl ?_
    refine v_aload_n (dq D_X8_resume 25 rfl) 0 rfl ?_
    obtain ⟨x3, hx3, h⟩ := obi h
    refine v_gR (dq D_X8_resume 26 rfl) fa_RX8_35 hx3 ?_
    obtain ⟨x4, hx4, h⟩ := obi h
    refine v_gI (dq D_X8_resume 27 rfl) fa_RX8_312 hx4 ?_
    refine v_if_ne (dq D_X8_resume 28 rfl) rfl (fun c5 => ?_) (fun c5 => ?_)
    · have h := itn h c5
      refine v_iconst (dq D_X8_resume 31 rfl) kc_0 ?_
      exact w_X8_resume_61 h
    · have h := itp h c5
      refine v_iconst (dq D_X8_resume 29 rfl) kc_1 ?_
      refine v_goto (dq D_X8_resume 30 rfl) rfl ?_
      exact w_X8_resume_61 h
  · have h := itn h c2
    exact v_sub [] rfl (w_X8_resume_43 h)
theorem w_X8_resume_31 {sa : Env3} {a0 : Nat} {a1 : Int32} {s0 : Nat} {σ : St} {r : Int32 × St} (h : f_X8_resume_31 a0 a1 s0 σ = some r) : VV sa cX8_resume K_X8_resume 31 [(0, .ref a0), (1, .int a1)] [.ref s0] σ (pO r) 0 0 := by
  unfold f_X8_resume_31 at h
  refine v_iconst (dq D_X8_resume 16 rfl) kc_1 ?_
  refine v_goto (dq D_X8_resume 17 rfl) rfl ?_
  exact w_X8_resume_36 h
theorem w_X8_resume_13 {sa : Env3} {a0 : Nat} {a1 : Int32} {s0 : Nat} {s1 : Int32} {σ : St} {r : Int32 × St} (h : f_X8_resume_13 a0 a1 s0 s1 σ = some r) : VV sa cX8_resume K_X8_resume 13 [(0, .ref a0), (1, .int a1)] [.int s1, .ref s0] σ (pO r) 0 0 := by
  unfold f_X8_resume_13 at h
  refine v_iconst (dq D_X8_resume 7 rfl) kc_1 ?_
  obtain ⟨q1, hq1, h⟩ := obi h
  refine v_cVi (bc := 0) (bs := 0) (As := [.int s1, .int 1]) (dq D_X8_resume 8 rfl) cv_X8_refused ml_RX8_85 (itg hq1).1 (m_X8_refused hq1) rfl rfl (Nat.le_of_ble_eq_true rfl) ⟨Nat.le_of_ble_eq_true rfl, Nat.le_of_ble_eq_true rfl⟩ ⟨Nat.le_of_ble_eq_true rfl, Nat.le_of_ble_eq_true rfl⟩ ?_
  refine v_if_ne (dq D_X8_resume 9 rfl) rfl (fun c2 => ?_) (fun c2 => ?_)
  · have h := itn h c2
    exact v_sub [] rfl (w_X8_resume_43 h)
  · have h := itp h c2
    refine v_aload_n (dq D_X8_resume 10 rfl) 0 rfl ?_
    refine v_iload_n (dq D_X8_resume 11 rfl) 1 rfl ?_
    refine v_if_lt (dq D_X8_resume 12 rfl) rfl (fun c3 => ?_) (fun c3 => ?_)
    · have h := itp h c3
      exact w_X8_resume_31 h
    · have h := itn h c3
      refine v_iload_n (dq D_X8_resume 13 rfl) 1 rfl ?_
      refine v_bipush (dq D_X8_resume 14 rfl) kb_24 ?_
      refine v_icmp_le (dq D_X8_resume 15 rfl) rfl (fun c4 => ?_) (fun c4 => ?_)
      · have h := itp h c4
        refine v_iconst (dq D_X8_resume 18 rfl) kc_0 ?_
        exact w_X8_resume_36 h
      · have h := itn h c4
        exact w_X8_resume_31 h
theorem w_X8_resume_0 {sa : Env3} {a0 : Nat} {a1 : Int32} {σ : St} {r : Int32 × St} (h : f_X8_resume_0 a0 a1 σ = some r) : VV sa cX8_resume K_X8_resume 0 [(0, .ref a0), (1, .int a1)] [] σ (pO r) 0 0 := by
  unfold f_X8_resume_0 at h
  refine v_aload_n (dq D_X8_resume 0 rfl) 0 rfl ?_
  refine v_aload_n (dq D_X8_resume 1 rfl) 0 rfl ?_
  obtain ⟨x1, hx1, h⟩ := obi h
  refine v_gI (dq D_X8_resume 2 rfl) fa_RX8_70 hx1 ?_
  refine v_if_ne (dq D_X8_resume 3 rfl) rfl (fun c2 => ?_) (fun c2 => ?_)
  · have h := itn h c2
    refine v_iconst (dq D_X8_resume 6 rfl) kc_0 ?_
    exact w_X8_resume_13 h
  · have h := itp h c2
    refine v_iconst (dq D_X8_resume 4 rfl) kc_1 ?_
    refine v_goto (dq D_X8_resume 5 rfl) rfl ?_
    exact w_X8_resume_13 h
theorem m_X8_resume {sa : Env3} {a0 : Nat} {a1 : Int32} {σ : St} {r : Int32 × St} (h : f_X8_resume a0 a1 σ = some r) : Ex sa yX8_resume cX8_resume K_X8_resume [.ref a0, .int a1] σ (pO r) := Ex.of (by decide) rfl (fun q => nomatch q) (Nat.le_of_ble_eq_true rfl) (w_X8_resume_0 (itg h).2)
theorem w_X8_run_45 {sa : Env3}  {σ : St} {r : Int32 × St} (h : f_X8_run_45  σ = some r) : VV sa cX8_run K_X8_run 45 [] [] σ (pO r) 0 0 := by
  unfold f_X8_run_45 at h
  refine v_iconst (dq D_X8_run 23 rfl) kc_m1 ?_
  obtain rfl := Option.some.inj h
  exact v_iret (dq D_X8_run 24 rfl) rfl ⟨rfl, rfl⟩
theorem w_X8_run_38 {sa : Env3} {a0 : Nat} {a1 : Int32} {s0 : Nat} {s1 : Int32} {σ : St} {r : Int32 × St} (h : f_X8_run_38 a0 a1 s0 s1 σ = some r) : VV sa cX8_run K_X8_run 38 [(0, .ref a0), (1, .int a1)] [.int s1, .ref s0] σ (pO r) 0 0 := by
  unfold f_X8_run_38 at h
  refine v_iconst (dq D_X8_run 20 rfl) kc_5 ?_
  obtain ⟨q1, hq1, h⟩ := obi h
  refine v_cVi (bc := 0) (bs := 0) (As := [.int s1, .int 5]) (dq D_X8_run 21 rfl) cv_X8_refused ml_RX8_85 (itg hq1).1 (m_X8_refused hq1) rfl rfl (Nat.le_of_ble_eq_true rfl) ⟨Nat.le_of_ble_eq_true rfl, Nat.le_of_ble_eq_true rfl⟩ ⟨Nat.le_of_ble_eq_true rfl, Nat.le_of_ble_eq_true rfl⟩ ?_
  refine v_if_eq (dq D_X8_run 22 rfl) rfl (fun c2 => ?_) (fun c2 => ?_)
  · have h := itp h c2
    refine v_aload_n (dq D_X8_run 25 rfl) 0 rfl ?_
    obtain ⟨x3, hx3, h⟩ := obi h
    refine v_gR (dq D_X8_run 26 rfl) fa_RX8_45 hx3 ?_
    refine v_aload_n (dq D_X8_run 27 rfl) 0 rfl ?_
    obtain ⟨x4, hx4, h⟩ := obi h
    refine v_gR (dq D_X8_run 28 rfl) fa_RX8_35 hx4 ?_
    obtain ⟨σ5, hσ5, h⟩ := obi h
    refine v_cVv (bc := 0) (bs := 0) (As := [.ref x4]) (dq D_X8_run 29 rfl) cv_X2_keep ml_RX8_309 (itg hσ5).1 (m_X2_keep hσ5) rfl rfl (Nat.le_of_ble_eq_true rfl) ⟨Nat.le_of_ble_eq_true rfl, Nat.le_of_ble_eq_true rfl⟩ ⟨Nat.le_of_ble_eq_true rfl, Nat.le_of_ble_eq_true rfl⟩ ?_
    refine v_aload_n (dq D_X8_run 30 rfl) 0 rfl ?_
    obtain ⟨x6, hx6, h⟩ := obi h
    refine v_gR (dq D_X8_run 31 rfl) fa_RX8_35 hx6 ?_
    refine v_iload_n (dq D_X8_run 32 rfl) 1 rfl ?_
    obtain ⟨q7, hq7, h⟩ := obi h
    refine v_cVi (bc := 0) (bs := 0) (As := [.int a1]) (dq D_X8_run 33 rfl) cv_X3_work ml_RX8_306 (itg hq7).1 (m_X3_work hq7) rfl rfl (Nat.le_of_ble_eq_true rfl) ⟨Nat.le_of_ble_eq_true rfl, Nat.le_of_ble_eq_true rfl⟩ ⟨Nat.le_of_ble_eq_true rfl, Nat.le_of_ble_eq_true rfl⟩ ?_
    obtain rfl := Option.some.inj h
    exact v_iret (dq D_X8_run 34 rfl) rfl ⟨rfl, rfl⟩
  · have h := itn h c2
    exact v_sub [] rfl (w_X8_run_45 h)
theorem w_X8_run_14 {sa : Env3} {a0 : Nat} {a1 : Int32} {s0 : Nat} {s1 : Int32} {σ : St} {r : Int32 × St} (h : f_X8_run_14 a0 a1 s0 s1 σ = some r) : VV sa cX8_run K_X8_run 14 [(0, .ref a0), (1, .int a1)] [.int s1, .ref s0] σ (pO r) 0 0 := by
  unfold f_X8_run_14 at h
  refine v_iconst (dq D_X8_run 8 rfl) kc_1 ?_
  obtain ⟨q1, hq1, h⟩ := obi h
  refine v_cVi (bc := 0) (bs := 0) (As := [.int s1, .int 1]) (dq D_X8_run 9 rfl) cv_X8_refused ml_RX8_85 (itg hq1).1 (m_X8_refused hq1) rfl rfl (Nat.le_of_ble_eq_true rfl) ⟨Nat.le_of_ble_eq_true rfl, Nat.le_of_ble_eq_true rfl⟩ ⟨Nat.le_of_ble_eq_true rfl, Nat.le_of_ble_eq_true rfl⟩ ?_
  refine v_if_ne (dq D_X8_run 10 rfl) rfl (fun c2 => ?_) (fun c2 => ?_)
  · have h := itn h c2
    exact v_sub [] rfl (w_X8_run_45 h)
  · have h := itp h c2
    refine v_aload_n (dq D_X8_run 11 rfl) 0 rfl ?_
    refine v_aload_n (dq D_X8_run 12 rfl) 0 rfl ?_
    obtain ⟨x3, hx3, h⟩ := obi h
    refine v_gR (dq D_X8_run 13 rfl) fa_RX8_35 hx3 ?_
    refine v_iload_n (dq D_X8_run 14 rfl) 1 rfl ?_
    obtain ⟨q4, hq4, h⟩ := obi h
    refine v_cVi (bc := 0) (bs := 0) (As := [.int a1]) (dq D_X8_run 15 rfl) cv_X3_canWork ml_RX8_216 (itg hq4).1 (m_X3_canWork hq4) rfl rfl (Nat.le_of_ble_eq_true rfl) ⟨Nat.le_of_ble_eq_true rfl, Nat.le_of_ble_eq_true rfl⟩ ⟨Nat.le_of_ble_eq_true rfl, Nat.le_of_ble_eq_true rfl⟩ ?_
    refine v_if_ne (dq D_X8_run 16 rfl) rfl (fun c5 => ?_) (fun c5 => ?_)
    · have h := itn h c5
      refine v_iconst (dq D_X8_run 19 rfl) kc_0 ?_
      exact w_X8_run_38 h
    · have h := itp h c5
      refine v_iconst (dq D_X8_run 17 rfl) kc_1 ?_
      refine v_goto (dq D_X8_run 18 rfl) rfl ?_
      exact w_X8_run_38 h
theorem w_X8_run_0 {sa : Env3} {a0 : Nat} {a1 : Int32} {σ : St} {r : Int32 × St} (h : f_X8_run_0 a0 a1 σ = some r) : VV sa cX8_run K_X8_run 0 [(0, .ref a0), (1, .int a1)] [] σ (pO r) 0 0 := by
  unfold f_X8_run_0 at h
  refine v_aload_n (dq D_X8_run 0 rfl) 0 rfl ?_
  refine v_aload_n (dq D_X8_run 1 rfl) 0 rfl ?_
  refine v_iload_n (dq D_X8_run 2 rfl) 1 rfl ?_
  obtain ⟨q1, hq1, h⟩ := obi h
  refine v_cVi (bc := 0) (bs := 0) (As := [.int a1]) (dq D_X8_run 3 rfl) cv_X8_isEntry ml_RX8_186 (itg hq1).1 (m_X8_isEntry hq1) rfl rfl (Nat.le_of_ble_eq_true rfl) ⟨Nat.le_of_ble_eq_true rfl, Nat.le_of_ble_eq_true rfl⟩ ⟨Nat.le_of_ble_eq_true rfl, Nat.le_of_ble_eq_true rfl⟩ ?_
  refine v_if_ne (dq D_X8_run 4 rfl) rfl (fun c2 => ?_) (fun c2 => ?_)
  · have h := itn h c2
    refine v_iconst (dq D_X8_run 7 rfl) kc_0 ?_
    exact w_X8_run_14 h
  · have h := itp h c2
    refine v_iconst (dq D_X8_run 5 rfl) kc_1 ?_
    refine v_goto (dq D_X8_run 6 rfl) rfl ?_
    exact w_X8_run_14 h
theorem m_X8_run {sa : Env3} {a0 : Nat} {a1 : Int32} {σ : St} {r : Int32 × St} (h : f_X8_run a0 a1 σ = some r) : Ex sa yX8_run cX8_run K_X8_run [.ref a0, .int a1] σ (pO r) := Ex.of (by decide) rfl (fun q => nomatch q) (Nat.le_of_ble_eq_true rfl) (w_X8_run_0 (itg h).2)
theorem w_X8_runnable_54 {sa : Env3} {k26 : Nat → Int32 → Int32 → St → Option (Int32 × St)} (hk26 : ∀ {a0 : Nat} {a1 : Int32} {a2 : Int32} {σ : St} {r : Int32 × St}, k26 a0 a1 a2 σ = some r → VV sa cX8_runnable K_X8_runnable 26 [(0, .ref a0), (1, .int a1), (2, .int a2)] [] σ (pO r) 0 0) {a0 : Nat} {a1 : Int32} {a2 : Int32} {σ : St} {r : Int32 × St} (h : f_X8_runnable_54 k26 a0 a1 a2 σ = some r) : VV sa cX8_runnable K_X8_runnable 54 [(0, .ref a0), (1, .int a1), (2, .int a2)] [] σ (pO r) 0 0 := by
  unfold f_X8_runnable_54 at h
  refine v_iinc (dq D_X8_runnable 32 rfl) 2 [(2, .int (a2 + 1)), (0, .ref a0), (1, .int a1)] rfl kc_1 (Nat.le_of_ble_eq_true rfl) rfl ?_
  refine v_goto (dq D_X8_runnable 33 rfl) rfl ?_
  exact v_sub [1, 2, 0] rfl (hk26 h)
theorem w_X8_runnable_26 {sa : Env3} : ∀ (n : Nat) {a0 : Nat} {a1 : Int32} {a2 : Int32} {σ : St} {r : Int32 × St}, f_X8_runnable_26 n a0 a1 a2 σ = some r → VV sa cX8_runnable K_X8_runnable 26 [(0, .ref a0), (1, .int a1), (2, .int a2)] [] σ (pO r) 0 0 := by
  intro n
  induction n with
  | zero => intro a0 a1 a2 σ r h; cases h
  | succ n ih =>
    intro a0 a1 a2 σ r h
    rw [e_X8_runnable_26] at h
    refine v_iload_n (dq D_X8_runnable 16 rfl) 2 rfl ?_
    refine v_aload_n (dq D_X8_runnable 17 rfl) 0 rfl ?_
    obtain ⟨x1, hx1, h⟩ := obi h
    refine v_gR (dq D_X8_runnable 18 rfl) fa_RX8_35 hx1 ?_
    obtain ⟨x2, hx2, h⟩ := obi h
    refine v_gI (dq D_X8_runnable 19 rfl) fa_RX8_158 hx2 ?_
    refine v_icmp_ge (dq D_X8_runnable 20 rfl) rfl (fun c3 => ?_) (fun c3 => ?_)
    · have h := itp h c3
      refine v_iload_n (dq D_X8_runnable 34 rfl) 1 rfl ?_
      obtain rfl := Option.some.inj h
      exact v_iret (dq D_X8_runnable 35 rfl) rfl ⟨rfl, rfl⟩
    · have h := itn h c3
      refine v_aload_n (dq D_X8_runnable 21 rfl) 0 rfl ?_
      obtain ⟨x4, hx4, h⟩ := obi h
      refine v_gR (dq D_X8_runnable 22 rfl) fa_RX8_35 hx4 ?_
      refine v_iload_n (dq D_X8_runnable 23 rfl) 2 rfl ?_
      obtain ⟨q5, hq5, h⟩ := obi h
      refine v_cVi (bc := 0) (bs := 0) (As := [.int a2]) (dq D_X8_runnable 24 rfl) cv_X3_canWork ml_RX8_216 (itg hq5).1 (m_X3_canWork hq5) rfl rfl (Nat.le_of_ble_eq_true rfl) ⟨Nat.le_of_ble_eq_true rfl, Nat.le_of_ble_eq_true rfl⟩ ⟨Nat.le_of_ble_eq_true rfl, Nat.le_of_ble_eq_true rfl⟩ ?_
      refine v_if_eq (dq D_X8_runnable 25 rfl) rfl (fun c6 => ?_) (fun c6 => ?_)
      · have h := itp h c6
        exact w_X8_runnable_54 ih h
      · have h := itn h c6
        refine v_iload_n (dq D_X8_runnable 26 rfl) 1 rfl ?_
        refine v_iconst (dq D_X8_runnable 27 rfl) kc_1 ?_
        refine v_iload_n (dq D_X8_runnable 28 rfl) 2 rfl ?_
        refine v_ishl (dq D_X8_runnable 29 rfl) ?_
        refine v_ior (dq D_X8_runnable 30 rfl) ?_
        obtain ⟨x7, ex7, h⟩ := bnd_inv h
        refine v_top (congrArg Value.int ex7) ?_
        refine v_istore_n (dq D_X8_runnable 31 rfl) [(1, .int x7), (0, .ref a0), (2, .int a2)] rfl (Nat.le_of_ble_eq_true rfl) rfl ?_
        exact v_sub [1, 0, 2] rfl (w_X8_runnable_54 ih h)
theorem w_X8_runnable_13 {sa : Env3} {a0 : Nat} {s0 : Nat} {s1 : Int32} {σ : St} {r : Int32 × St} (h : f_X8_runnable_13 a0 s0 s1 σ = some r) : VV sa cX8_runnable K_X8_runnable 13 [(0, .ref a0)] [.int s1, .ref s0] σ (pO r) 0 0 := by
  unfold f_X8_runnable_13 at h
  refine v_iconst (dq D_X8_runnable 7 rfl) kc_1 ?_
  obtain ⟨q1, hq1, h⟩ := obi h
  refine v_cVi (bc := 0) (bs := 0) (As := [.int s1, .int 1]) (dq D_X8_runnable 8 rfl) cv_X8_refused ml_RX8_85 (itg hq1).1 (m_X8_refused hq1) rfl rfl (Nat.le_of_ble_eq_true rfl) ⟨Nat.le_of_ble_eq_true rfl, Nat.le_of_ble_eq_true rfl⟩ ⟨Nat.le_of_ble_eq_true rfl, Nat.le_of_ble_eq_true rfl⟩ ?_
  refine v_if_eq (dq D_X8_runnable 9 rfl) rfl (fun c2 => ?_) (fun c2 => ?_)
  · have h := itp h c2
    refine v_iconst (dq D_X8_runnable 12 rfl) kc_0 ?_
    refine v_istore_n (dq D_X8_runnable 13 rfl) [(1, .int 0), (0, .ref a0)] rfl (Nat.le_of_ble_eq_true rfl) rfl ?_
    refine v_iconst (dq D_X8_runnable 14 rfl) kc_0 ?_
    refine v_istore_n (dq D_X8_runnable 15 rfl) [(2, .int 0), (1, .int 0), (0, .ref a0)] rfl (Nat.le_of_ble_eq_true rfl) rfl ?_
    exact v_sub [2, 1, 0] rfl (w_X8_runnable_26 _ h)
  · have h := itn h c2
    refine v_iconst (dq D_X8_runnable 10 rfl) kc_m1 ?_
    obtain rfl := Option.some.inj h
    exact v_iret (dq D_X8_runnable 11 rfl) rfl ⟨rfl, rfl⟩
theorem w_X8_runnable_0 {sa : Env3} {a0 : Nat} {σ : St} {r : Int32 × St} (h : f_X8_runnable_0 a0 σ = some r) : VV sa cX8_runnable K_X8_runnable 0 [(0, .ref a0)] [] σ (pO r) 0 0 := by
  unfold f_X8_runnable_0 at h
  refine v_aload_n (dq D_X8_runnable 0 rfl) 0 rfl ?_
  refine v_aload_n (dq D_X8_runnable 1 rfl) 0 rfl ?_
  obtain ⟨x1, hx1, h⟩ := obi h
  refine v_gI (dq D_X8_runnable 2 rfl) fa_RX8_70 hx1 ?_
  refine v_if_ne (dq D_X8_runnable 3 rfl) rfl (fun c2 => ?_) (fun c2 => ?_)
  · have h := itn h c2
    refine v_iconst (dq D_X8_runnable 6 rfl) kc_0 ?_
    exact w_X8_runnable_13 h
  · have h := itp h c2
    refine v_iconst (dq D_X8_runnable 4 rfl) kc_1 ?_
    refine v_goto (dq D_X8_runnable 5 rfl) rfl ?_
    exact w_X8_runnable_13 h
theorem m_X8_runnable {sa : Env3} {a0 : Nat} {σ : St} {r : Int32 × St} (h : f_X8_runnable a0 σ = some r) : Ex sa yX8_runnable cX8_runnable K_X8_runnable [.ref a0] σ (pO r) := Ex.of (by decide) rfl (fun q => nomatch q) (Nat.le_of_ble_eq_true rfl) (w_X8_runnable_0 (itg h).2)
theorem w_X8_saved_61 {sa : Env3} {s0 : Int32} {σ : St} {r : Int32 × St} (h : f_X8_saved_61 s0 σ = some r) : VV sa cX8_saved K_X8_saved 61 [] [.int s0] σ (pO r) 0 0 := by
  unfold f_X8_saved_61 at h
  obtain rfl := Option.some.inj h
  exact v_iret (dq D_X8_saved 34 rfl) rfl ⟨rfl, rfl⟩
theorem w_X8_saved_21 {sa : Env3} {a0 : Nat} {a1 : Int32} {a2 : Int32} {s0 : Nat} {s1 : Int32} {σ : St} {r : Int32 × St} (h : f_X8_saved_21 a0 a1 a2 s0 s1 σ = some r) : VV sa cX8_saved K_X8_saved 21 [(0, .ref a0), (1, .int a1), (2, .int a2)] [.int s1, .ref s0] σ (pO r) 0 0 := by
  unfold f_X8_saved_21 at h
  refine v_iconst (dq D_X8_saved 11 rfl) kc_1 ?_
  obtain ⟨q1, hq1, h⟩ := obi h
  refine v_cVi (bc := 0) (bs := 0) (As := [.int s1, .int 1]) (dq D_X8_saved 12 rfl) cv_X8_refused ml_RX8_85 (itg hq1).1 (m_X8_refused hq1) rfl rfl (Nat.le_of_ble_eq_true rfl) ⟨Nat.le_of_ble_eq_true rfl, Nat.le_of_ble_eq_true rfl⟩ ⟨Nat.le_of_ble_eq_true rfl, Nat.le_of_ble_eq_true rfl⟩ ?_
  refine v_if_eq (dq D_X8_saved 13 rfl) rfl (fun c2 => ?_) (fun c2 => ?_)
  · have h := itp h c2
    refine v_aload_n (dq D_X8_saved 16 rfl) 0 rfl ?_
    obtain ⟨x3, hx3, h⟩ := obi h
    refine v_gR (dq D_X8_saved 17 rfl) fa_RX8_35 hx3 ?_
    obtain ⟨x4, hx4, h⟩ := obi h
    refine v_gI (dq D_X8_saved 18 rfl) fa_RX8_210 hx4 ?_
    refine v_iload_n (dq D_X8_saved 19 rfl) 1 rfl ?_
    refine v_ishr (dq D_X8_saved 20 rfl) ?_
    refine v_iconst (dq D_X8_saved 21 rfl) kc_1 ?_
    refine v_iand (dq D_X8_saved 22 rfl) ?_
    refine v_iconst (dq D_X8_saved 23 rfl) kc_1 ?_
    refine v_icmp_ne (dq D_X8_saved 24 rfl) rfl (fun c5 => ?_) (fun c5 => ?_)
    · have h := itn h c5
      refine v_bipush (dq D_X8_saved 33 rfl) kb_m2 ?_
      exact v_sub [] rfl (w_X8_saved_61 h)
    · have h := itp h c5
      refine v_aload_n (dq D_X8_saved 25 rfl) 0 rfl ?_
      obtain ⟨x6, hx6, h⟩ := obi h
      refine v_gR (dq D_X8_saved 26 rfl) fa_RX8_35 hx6 ?_
      refine v_iload_n (dq D_X8_saved 27 rfl) 1 rfl ?_
      refine v_iconst (dq D_X8_saved 28 rfl) kc_1 ?_
      refine v_iadd (dq D_X8_saved 29 rfl) ?_
      refine v_iload_n (dq D_X8_saved 30 rfl) 2 rfl ?_
      obtain ⟨q7, hq7, h⟩ := obi h
      refine v_cVi (bc := 0) (bs := 0) (As := [.int (a1 + 1), .int a2]) (dq D_X8_saved 31 rfl) cv_X3_mapBy ml_RX8_161 (itg hq7).1 (m_X3_mapBy hq7) rfl rfl (Nat.le_of_ble_eq_true rfl) ⟨Nat.le_of_ble_eq_true rfl, Nat.le_of_ble_eq_true rfl⟩ ⟨Nat.le_of_ble_eq_true rfl, Nat.le_of_ble_eq_true rfl⟩ ?_
      refine v_goto (dq D_X8_saved 32 rfl) rfl ?_
      exact v_sub [] rfl (w_X8_saved_61 h)
  · have h := itn h c2
    refine v_iconst (dq D_X8_saved 14 rfl) kc_m1 ?_
    obtain rfl := Option.some.inj h
    exact v_iret (dq D_X8_saved 15 rfl) rfl ⟨rfl, rfl⟩
theorem w_X8_saved_16 {sa : Env3} {a0 : Nat} {a1 : Int32} {a2 : Int32} {s0 : Nat} {σ : St} {r : Int32 × St} (h : f_X8_saved_16 a0 a1 a2 s0 σ = some r) : VV sa cX8_saved K_X8_saved 16 [(0, .ref a0), (1, .int a1), (2, .int a2)] [.ref s0] σ (pO r) 0 0 := by
  unfold f_X8_saved_16 at h
  refine v_iconst (dq D_X8_saved 8 rfl) kc_1 ?_
  refine v_goto (dq D_X8_saved 9 rfl) rfl ?_
  exact w_X8_saved_21 h
theorem w_X8_saved_0 {sa : Env3} {a0 : Nat} {a1 : Int32} {a2 : Int32} {σ : St} {r : Int32 × St} (h : f_X8_saved_0 a0 a1 a2 σ = some r) : VV sa cX8_saved K_X8_saved 0 [(0, .ref a0), (1, .int a1), (2, .int a2)] [] σ (pO r) 0 0 := by
  unfold f_X8_saved_0 at h
  refine v_aload_n (dq D_X8_saved 0 rfl) 0 rfl ?_
  refine v_aload_n (dq D_X8_saved 1 rfl) 0 rfl ?_
  refine v_iload_n (dq D_X8_saved 2 rfl) 1 rfl ?_
  obtain ⟨q1, hq1, h⟩ := obi h
  refine v_cVi (bc := 0) (bs := 0) (As := [.int a1]) (dq D_X8_saved 3 rfl) cv_X8_isEntry ml_RX8_186 (itg hq1).1 (m_X8_isEntry hq1) rfl rfl (Nat.le_of_ble_eq_true rfl) ⟨Nat.le_of_ble_eq_true rfl, Nat.le_of_ble_eq_true rfl⟩ ⟨Nat.le_of_ble_eq_true rfl, Nat.le_of_ble_eq_true rfl⟩ ?_
  refine v_if_eq (dq D_X8_saved 4 rfl) rfl (fun c2 => ?_) (fun c2 => ?_)
  · have h := itp h c2
    exact w_X8_saved_16 h
  · have h := itn h c2
    refine v_iload_n (dq D_X8_saved 5 rfl) 2 rfl ?_
    obtain ⟨q3, hq3, h⟩ := obi h
    refine v_cSi (bc := 0) (bs := 0) (As := [.int a2]) (dq D_X8_saved 6 rfl) cs_X8_isRegister ml_RX8_141 (m_X8_isRegister hq3) rfl rfl (Nat.le_of_ble_eq_true rfl) ⟨Nat.le_of_ble_eq_true rfl, Nat.le_of_ble_eq_true rfl⟩ ⟨Nat.le_of_ble_eq_true rfl, Nat.le_of_ble_eq_true rfl⟩ ?_
    refine v_if_ne (dq D_X8_saved 7 rfl) rfl (fun c4 => ?_) (fun c4 => ?_)
    · have h := itn h c4
      refine v_iconst (dq D_X8_saved 10 rfl) kc_0 ?_
      exact w_X8_saved_21 h
    · have h := itp h c4
      exact w_X8_saved_16 h
theorem m_X8_saved {sa : Env3} {a0 : Nat} {a1 : Int32} {a2 : Int32} {σ : St} {r : Int32 × St} (h : f_X8_saved a0 a1 a2 σ = some r) : Ex sa yX8_saved cX8_saved K_X8_saved [.ref a0, .int a1, .int a2] σ (pO r) := Ex.of (by decide) rfl (fun q => nomatch q) (Nat.le_of_ble_eq_true rfl) (w_X8_saved_0 (itg h).2)
theorem w_X8_sizeOfText_91 {sa : Env3} {s0 : Int32} {σ : St} {r : Int32 × St} (h : f_X8_sizeOfText_91 s0 σ = some r) : VV sa cX8_sizeOfText K_X8_sizeOfText 91 [] [.int s0] σ (pO r) 0 0 := by
  unfold f_X8_sizeOfText_91 at h
  obtain rfl := Option.some.inj h
  exact v_iret (dq D_X8_sizeOfText 25 rfl) rfl ⟨rfl, rfl⟩
theorem w_X8_sizeOfText_0 {sa : Env3} {a0 : Nat} {a1 : Int32} {σ : St} {r : Int32 × St} (h : f_X8_sizeOfText_0 a0 a1 σ = some r) : VV sa cX8_sizeOfText K_X8_sizeOfText 0 [(0, .ref a0), (1, .int a1)] [] σ (pO r) 0 0 := by
  unfold f_X8_sizeOfText_0 at h
  refine v_iload_n (dq D_X8_sizeOfText 0 rfl) 1 rfl ?_
  by_cases c1 : a1 = 0
  · have h := itp h c1
    refine v_tblAt (v := 0) (dq D_X8_sizeOfText 1 rfl) c1 (by decide) (by decide) rfl rfl ?_
    refine v_aload_n (dq D_X8_sizeOfText 2 rfl) 0 rfl ?_
    obtain ⟨x8, hx8, h⟩ := obi h
    refine v_gR (dq D_X8_sizeOfText 3 rfl) fa_RX8_16 hx8 ?_
    obtain ⟨x9, hx9, h⟩ := obi h
    refine v_gI (dq D_X8_sizeOfText 4 rfl) fa_RX8_99 hx9 ?_
    obtain rfl := Option.some.inj h
    exact v_iret (dq D_X8_sizeOfText 5 rfl) rfl ⟨rfl, rfl⟩
  · have h := itn h c1
    by_cases c2 : a1 = 1
    · have h := itp h c2
      refine v_tblAt (v := 1) (dq D_X8_sizeOfText 1 rfl) c2 (by decide) (by decide) rfl rfl ?_
      refine v_aload_n (dq D_X8_sizeOfText 6 rfl) 0 rfl ?_
      obtain ⟨x10, hx10, h⟩ := obi h
      refine v_gR (dq D_X8_sizeOfText 7 rfl) fa_RX8_16 hx10 ?_
      obtain ⟨x11, hx11, h⟩ := obi h
      refine v_gI (dq D_X8_sizeOfText 8 rfl) fa_RX8_347 hx11 ?_
      obtain rfl := Option.some.inj h
      exact v_iret (dq D_X8_sizeOfText 9 rfl) rfl ⟨rfl, rfl⟩
    · have h := itn h c2
      by_cases c3 : a1 = 2
      · have h := itp h c3
        refine v_tblAt (v := 2) (dq D_X8_sizeOfText 1 rfl) c3 (by decide) (by decide) rfl rfl ?_
        refine v_aload_n (dq D_X8_sizeOfText 10 rfl) 0 rfl ?_
        obtain ⟨x12, hx12, h⟩ := obi h
        refine v_gR (dq D_X8_sizeOfText 11 rfl) fa_RX8_16 hx12 ?_
        obtain ⟨x13, hx13, h⟩ := obi h
        refine v_gI (dq D_X8_sizeOfText 12 rfl) fa_RX8_350 hx13 ?_
        obtain rfl := Option.some.inj h
        exact v_iret (dq D_X8_sizeOfText 13 rfl) rfl ⟨rfl, rfl⟩
      · have h := itn h c3
        by_cases c4 : a1 = 3
        · have h := itp h c4
          refine v_tblAt (v := 3) (dq D_X8_sizeOfText 1 rfl) c4 (by decide) (by decide) rfl rfl ?_
          refine v_aload_n (dq D_X8_sizeOfText 14 rfl) 0 rfl ?_
          obtain ⟨x14, hx14, h⟩ := obi h
          refine v_gR (dq D_X8_sizeOfText 15 rfl) fa_RX8_16 hx14 ?_
          obtain ⟨x15, hx15, h⟩ := obi h
          refine v_gI (dq D_X8_sizeOfText 16 rfl) fa_RX8_353 hx15 ?_
          obtain rfl := Option.some.inj h
          exact v_iret (dq D_X8_sizeOfText 17 rfl) rfl ⟨rfl, rfl⟩
        · have h := itn h c4
          by_cases c5 : a1 = 4
          · have h := itp h c5
            refine v_tblAt (v := 4) (dq D_X8_sizeOfText 1 rfl) c5 (by decide) (by decide) rfl rfl ?_
            refine v_aload_n (dq D_X8_sizeOfText 18 rfl) 0 rfl ?_
            obtain ⟨x16, hx16, h⟩ := obi h
            refine v_gR (dq D_X8_sizeOfText 19 rfl) fa_RX8_16 hx16 ?_
            obtain ⟨x17, hx17, h⟩ := obi h
            refine v_gI (dq D_X8_sizeOfText 20 rfl) fa_RX8_356 hx17 ?_
            refine v_if_eq (dq D_X8_sizeOfText 21 rfl) rfl (fun c18 => ?_) (fun c18 => ?_)
            · have h := itp h c18
              refine v_iconst (dq D_X8_sizeOfText 24 rfl) kc_0 ?_
              exact v_sub [] rfl (w_X8_sizeOfText_91 h)
            · have h := itn h c18
              refine v_iconst (dq D_X8_sizeOfText 22 rfl) kc_1 ?_
              refine v_goto (dq D_X8_sizeOfText 23 rfl) rfl ?_
              exact v_sub [] rfl (w_X8_sizeOfText_91 h)
          · have h := itn h c5
            by_cases c6 : a1 = 5
            · have h := itp h c6
              refine v_tblAt (v := 5) (dq D_X8_sizeOfText 1 rfl) c6 (by decide) (by decide) rfl rfl ?_
              refine v_aload_n (dq D_X8_sizeOfText 26 rfl) 0 rfl ?_
              obtain ⟨x19, hx19, h⟩ := obi h
              refine v_gR (dq D_X8_sizeOfText 27 rfl) fa_RX8_16 hx19 ?_
              obtain ⟨x20, hx20, h⟩ := obi h
              refine v_gI (dq D_X8_sizeOfText 28 rfl) fa_RX8_96 hx20 ?_
              obtain rfl := Option.some.inj h
              exact v_iret (dq D_X8_sizeOfText 29 rfl) rfl ⟨rfl, rfl⟩
            · have h := itn h c6
              by_cases c7 : a1 = 6
              · have h := itp h c7
                refine v_tblAt (v := 6) (dq D_X8_sizeOfText 1 rfl) c7 (by decide) (by decide) rfl rfl ?_
                refine v_aload_n (dq D_X8_sizeOfText 30 rfl) 0 rfl ?_
                obtain ⟨x21, hx21, h⟩ := obi h
                refine v_gR (dq D_X8_sizeOfText 31 rfl) fa_RX8_16 hx21 ?_
                obtain ⟨x22, hx22, h⟩ := obi h
                refine v_gI (dq D_X8_sizeOfText 32 rfl) fa_RX8_359 hx22 ?_
                obtain rfl := Option.some.inj h
                exact v_iret (dq D_X8_sizeOfText 33 rfl) rfl ⟨rfl, rfl⟩
              · have h := itn h c7
                refine v_tblOut (dq D_X8_sizeOfText 1 rfl) (by have g0 : (a1).toInt ≠ 0 := i32_ne c1; have g1 : (a1).toInt ≠ 1 := i32_ne c2; have g2 : (a1).toInt ≠ 2 := i32_ne c3; have g3 : (a1).toInt ≠ 3 := i32_ne c4; have g4 : (a1).toInt ≠ 4 := i32_ne c5; have g5 : (a1).toInt ≠ 5 := i32_ne c6; have g6 : (a1).toInt ≠ 6 := i32_ne c7; omega) rfl ?_
                refine v_aload_n (dq D_X8_sizeOfText 34 rfl) 0 rfl ?_
                obtain ⟨x23, hx23, h⟩ := obi h
                refine v_gR (dq D_X8_sizeOfText 35 rfl) fa_RX8_16 hx23 ?_
                obtain ⟨x24, hx24, h⟩ := obi h
                refine v_gI (dq D_X8_sizeOfText 36 rfl) fa_RX8_362 hx24 ?_
                obtain rfl := Option.some.inj h
                exact v_iret (dq D_X8_sizeOfText 37 rfl) rfl ⟨rfl, rfl⟩
theorem m_X8_sizeOfText {sa : Env3} {a0 : Nat} {a1 : Int32} {σ : St} {r : Int32 × St} (h : f_X8_sizeOfText a0 a1 σ = some r) : Ex sa yX8_sizeOfText cX8_sizeOfText K_X8_sizeOfText [.ref a0, .int a1] σ (pO r) := Ex.of (by decide) rfl (fun q => nomatch q) (Nat.le_of_ble_eq_true rfl) (w_X8_sizeOfText_0 (itg h).2)
theorem w_X8_sizeOfState_66 {sa : Env3} {s0 : Int32} {σ : St} {r : Int32 × St} (h : f_X8_sizeOfState_66 s0 σ = some r) : VV sa cX8_sizeOfState K_X8_sizeOfState 66 [] [.int s0] σ (pO r) 0 0 := by
  unfold f_X8_sizeOfState_66 at h
  obtain rfl := Option.some.inj h
  exact v_iret (dq D_X8_sizeOfState 18 rfl) rfl ⟨rfl, rfl⟩
theorem w_X8_sizeOfState_0 {sa : Env3} {a0 : Nat} {a1 : Int32} {σ : St} {r : Int32 × St} (h : f_X8_sizeOfState_0 a0 a1 σ = some r) : VV sa cX8_sizeOfState K_X8_sizeOfState 0 [(0, .ref a0), (1, .int a1)] [] σ (pO r) 0 0 := by
  unfold f_X8_sizeOfState_0 at h
  refine v_iload_n (dq D_X8_sizeOfState 0 rfl) 1 rfl ?_
  by_cases c1 : a1 = 8
  · have h := itp h c1
    refine v_tblAt (v := 8) (dq D_X8_sizeOfState 1 rfl) c1 (by decide) (by decide) rfl rfl ?_
    refine v_aload_n (dq D_X8_sizeOfState 2 rfl) 0 rfl ?_
    obtain ⟨x5, hx5, h⟩ := obi h
    refine v_gR (dq D_X8_sizeOfState 3 rfl) fa_RX8_35 hx5 ?_
    obtain ⟨x6, hx6, h⟩ := obi h
    refine v_gI (dq D_X8_sizeOfState 4 rfl) fa_RX8_234 hx6 ?_
    obtain rfl := Option.some.inj h
    exact v_iret (dq D_X8_sizeOfState 5 rfl) rfl ⟨rfl, rfl⟩
  · have h := itn h c1
    by_cases c2 : a1 = 9
    · have h := itp h c2
      refine v_tblAt (v := 9) (dq D_X8_sizeOfState 1 rfl) c2 (by decide) (by decide) rfl rfl ?_
      refine v_aload_n (dq D_X8_sizeOfState 6 rfl) 0 rfl ?_
      obtain ⟨x7, hx7, h⟩ := obi h
      refine v_gR (dq D_X8_sizeOfState 7 rfl) fa_RX8_35 hx7 ?_
      obtain ⟨x8, hx8, h⟩ := obi h
      refine v_gI (dq D_X8_sizeOfState 8 rfl) fa_RX8_210 hx8 ?_
      obtain ⟨q9, hq9, h⟩ := obi h
      refine v_cSi (bc := 0) (bs := 0) (As := [.int x8]) (dq D_X8_sizeOfState 9 rfl) cs_J6_bitCount_0f7a4 ml_RX8_226 (m_J6_bitCount_0f7a4 hq9) rfl rfl (Nat.le_of_ble_eq_true rfl) ⟨Nat.le_of_ble_eq_true rfl, Nat.le_of_ble_eq_true rfl⟩ ⟨Nat.le_of_ble_eq_true rfl, Nat.le_of_ble_eq_true rfl⟩ ?_
      obtain rfl := Option.some.inj h
      exact v_iret (dq D_X8_sizeOfState 10 rfl) rfl ⟨rfl, rfl⟩
    · have h := itn h c2
      by_cases c3 : a1 = 10
      · have h := itp h c3
        refine v_tblAt (v := 10) (dq D_X8_sizeOfState 1 rfl) c3 (by decide) (by decide) rfl rfl ?_
        refine v_aload_n (dq D_X8_sizeOfState 11 rfl) 0 rfl ?_
        obtain ⟨x10, hx10, h⟩ := obi h
        refine v_gR (dq D_X8_sizeOfState 12 rfl) fa_RX8_35 hx10 ?_
        obtain ⟨x11, hx11, h⟩ := obi h
        refine v_gI (dq D_X8_sizeOfState 13 rfl) fa_RX8_312 hx11 ?_
        refine v_if_eq (dq D_X8_sizeOfState 14 rfl) rfl (fun c12 => ?_) (fun c12 => ?_)
        · have h := itp h c12
          refine v_iconst (dq D_X8_sizeOfState 17 rfl) kc_0 ?_
          exact v_sub [] rfl (w_X8_sizeOfState_66 h)
        · have h := itn h c12
          refine v_iconst (dq D_X8_sizeOfState 15 rfl) kc_1 ?_
          refine v_goto (dq D_X8_sizeOfState 16 rfl) rfl ?_
          exact v_sub [] rfl (w_X8_sizeOfState_66 h)
      · have h := itn h c3
        by_cases c4 : a1 = 11
        · have h := itp h c4
          refine v_tblAt (v := 11) (dq D_X8_sizeOfState 1 rfl) c4 (by decide) (by decide) rfl rfl ?_
          refine v_aload_n (dq D_X8_sizeOfState 19 rfl) 0 rfl ?_
          obtain ⟨x13, hx13, h⟩ := obi h
          refine v_gR (dq D_X8_sizeOfState 20 rfl) fa_RX8_45 hx13 ?_
          obtain ⟨x14, hx14, h⟩ := obi h
          refine v_gI (dq D_X8_sizeOfState 21 rfl) fa_RX8_318 hx14 ?_
          obtain rfl := Option.some.inj h
          exact v_iret (dq D_X8_sizeOfState 22 rfl) rfl ⟨rfl, rfl⟩
        · have h := itn h c4
          refine v_tblOut (dq D_X8_sizeOfState 1 rfl) (by have g0 : (a1).toInt ≠ 8 := i32_ne c1; have g1 : (a1).toInt ≠ 9 := i32_ne c2; have g2 : (a1).toInt ≠ 10 := i32_ne c3; have g3 : (a1).toInt ≠ 11 := i32_ne c4; omega) rfl ?_
          refine v_aload_n (dq D_X8_sizeOfState 23 rfl) 0 rfl ?_
          obtain ⟨x15, hx15, h⟩ := obi h
          refine v_gR (dq D_X8_sizeOfState 24 rfl) fa_RX8_45 hx15 ?_
          obtain ⟨x16, hx16, h⟩ := obi h
          refine v_gI (dq D_X8_sizeOfState 25 rfl) fa_RX8_324 hx16 ?_
          obtain rfl := Option.some.inj h
          exact v_iret (dq D_X8_sizeOfState 26 rfl) rfl ⟨rfl, rfl⟩
theorem m_X8_sizeOfState {sa : Env3} {a0 : Nat} {a1 : Int32} {σ : St} {r : Int32 × St} (h : f_X8_sizeOfState a0 a1 σ = some r) : Ex sa yX8_sizeOfState cX8_sizeOfState K_X8_sizeOfState [.ref a0, .int a1] σ (pO r) := Ex.of (by decide) rfl (fun q => nomatch q) (Nat.le_of_ble_eq_true rfl) (w_X8_sizeOfState_0 (itg h).2)
theorem w_X8_size_10 {sa : Env3}  {σ : St} {r : Int32 × St} (h : f_X8_size_10  σ = some r) : VV sa cX8_size K_X8_size 10 [] [] σ (pO r) 0 0 := by
  unfold f_X8_size_10 at h
  refine v_iconst (dq D_X8_size 5 rfl) kc_m1 ?_
  obtain rfl := Option.some.inj h
  exact v_iret (dq D_X8_size 6 rfl) rfl ⟨rfl, rfl⟩
theorem w_X8_size_51 {sa : Env3} {s0 : Int32} {σ : St} {r : Int32 × St} (h : f_X8_size_51 s0 σ = some r) : VV sa cX8_size K_X8_size 51 [] [.int s0] σ (pO r) 0 0 := by
  unfold f_X8_size_51 at h
  obtain rfl := Option.some.inj h
  exact v_iret (dq D_X8_size 28 rfl) rfl ⟨rfl, rfl⟩
theorem w_X8_size_0 {sa : Env3} {a0 : Nat} {a1 : Int32} {σ : St} {r : Int32 × St} (h : f_X8_size_0 a0 a1 σ = some r) : VV sa cX8_size K_X8_size 0 [(0, .ref a0), (1, .int a1)] [] σ (pO r) 0 0 := by
  unfold f_X8_size_0 at h
  refine v_iload_n (dq D_X8_size 0 rfl) 1 rfl ?_
  refine v_if_lt (dq D_X8_size 1 rfl) rfl (fun c1 => ?_) (fun c1 => ?_)
  · have h := itp h c1
    exact v_sub [] rfl (w_X8_size_10 h)
  · have h := itn h c1
    refine v_iload_n (dq D_X8_size 2 rfl) 1 rfl ?_
    refine v_bipush (dq D_X8_size 3 rfl) kb_13 ?_
    refine v_icmp_le (dq D_X8_size 4 rfl) rfl (fun c2 => ?_) (fun c2 => ?_)
    · have h := itp h c2
      refine v_iload_n (dq D_X8_size 7 rfl) 1 rfl ?_
      refine v_bipush (dq D_X8_size 8 rfl) kb_13 ?_
      refine v_icmp_ne (dq D_X8_size 9 rfl) rfl (fun c3 => ?_) (fun c3 => ?_)
      · have h := itn h c3
        refine v_aload_n (dq D_X8_size 13 rfl) 0 rfl ?_
        obtain ⟨x4, hx4, h⟩ := obi h
        refine v_gI (dq D_X8_size 14 rfl) fa_RX8_70 hx4 ?_
        refine v_if_ne (dq D_X8_size 15 rfl) rfl (fun c5 => ?_) (fun c5 => ?_)
        · have h := itn h c5
          refine v_iload_n (dq D_X8_size 18 rfl) 1 rfl ?_
          refine v_bipush (dq D_X8_size 19 rfl) kb_8 ?_
          refine v_icmp_ge (dq D_X8_size 20 rfl) rfl (fun c6 => ?_) (fun c6 => ?_)
          · have h := itp h c6
            refine v_aload_n (dq D_X8_size 25 rfl) 0 rfl ?_
            refine v_iload_n (dq D_X8_size 26 rfl) 1 rfl ?_
            obtain ⟨q7, hq7, h⟩ := obi h
            refine v_cVi (bc := 0) (bs := 0) (As := [.int a1]) (dq D_X8_size 27 rfl) cv_X8_sizeOfState ml_RX8_344 (itg hq7).1 (m_X8_sizeOfState hq7) rfl rfl (Nat.le_of_ble_eq_true rfl) ⟨Nat.le_of_ble_eq_true rfl, Nat.le_of_ble_eq_true rfl⟩ ⟨Nat.le_of_ble_eq_true rfl, Nat.le_of_ble_eq_true rfl⟩ ?_
            exact v_sub [] rfl (w_X8_size_51 h)
          · have h := itn h c6
            refine v_aload_n (dq D_X8_size 21 rfl) 0 rfl ?_
            refine v_iload_n (dq D_X8_size 22 rfl) 1 rfl ?_
            obtain ⟨q8, hq8, h⟩ := obi h
            refine v_cVi (bc := 0) (bs := 0) (As := [.int a1]) (dq D_X8_size 23 rfl) cv_X8_sizeOfText ml_RX8_341 (itg hq8).1 (m_X8_sizeOfText hq8) rfl rfl (Nat.le_of_ble_eq_true rfl) ⟨Nat.le_of_ble_eq_true rfl, Nat.le_of_ble_eq_true rfl⟩ ⟨Nat.le_of_ble_eq_true rfl, Nat.le_of_ble_eq_true rfl⟩ ?_
            refine v_goto (dq D_X8_size 24 rfl) rfl ?_
            exact v_sub [] rfl (w_X8_size_51 h)
        · have h := itp h c5
          refine v_iconst (dq D_X8_size 16 rfl) kc_0 ?_
          obtain rfl := Option.some.inj h
          exact v_iret (dq D_X8_size 17 rfl) rfl ⟨rfl, rfl⟩
      · have h := itp h c3
        refine v_aload_n (dq D_X8_size 10 rfl) 0 rfl ?_
        obtain ⟨x9, hx9, h⟩ := obi h
        refine v_gI (dq D_X8_size 11 rfl) fa_RX8_74 hx9 ?_
        obtain rfl := Option.some.inj h
        exact v_iret (dq D_X8_size 12 rfl) rfl ⟨rfl, rfl⟩
    · have h := itn h c2
      exact v_sub [] rfl (w_X8_size_10 h)
theorem m_X8_size {sa : Env3} {a0 : Nat} {a1 : Int32} {σ : St} {r : Int32 × St} (h : f_X8_size a0 a1 σ = some r) : Ex sa yX8_size cX8_size K_X8_size [.ref a0, .int a1] σ (pO r) := Ex.of (by decide) rfl (fun q => nomatch q) (Nat.le_of_ble_eq_true rfl) (w_X8_size_0 (itg h).2)
theorem w_X8_surely_13 {sa : Env3} {a0 : Nat} {s0 : Nat} {s1 : Int32} {σ : St} {r : Int32 × St} (h : f_X8_surely_13 a0 s0 s1 σ = some r) : VV sa cX8_surely K_X8_surely 13 [(0, .ref a0)] [.int s1, .ref s0] σ (pO r) 0 0 := by
  unfold f_X8_surely_13 at h
  refine v_iconst (dq D_X8_surely 7 rfl) kc_1 ?_
  obtain ⟨q1, hq1, h⟩ := obi h
  refine v_cVi (bc := 0) (bs := 0) (As := [.int s1, .int 1]) (dq D_X8_surely 8 rfl) cv_X8_refused ml_RX8_85 (itg hq1).1 (m_X8_refused hq1) rfl rfl (Nat.le_of_ble_eq_true rfl) ⟨Nat.le_of_ble_eq_true rfl, Nat.le_of_ble_eq_true rfl⟩ ⟨Nat.le_of_ble_eq_true rfl, Nat.le_of_ble_eq_true rfl⟩ ?_
  refine v_if_eq (dq D_X8_surely 9 rfl) rfl (fun c2 => ?_) (fun c2 => ?_)
  · have h := itp h c2
    refine v_aload_n (dq D_X8_surely 12 rfl) 0 rfl ?_
    obtain ⟨x3, hx3, h⟩ := obi h
    refine v_gR (dq D_X8_surely 13 rfl) fa_RX8_66 hx3 ?_
    obtain ⟨q4, hq4, h⟩ := obi h
    refine v_cVi (bc := 0) (bs := 0) (As := []) (dq D_X8_surely 14 rfl) cv_X1_inAll ml_RX8_268 (itg hq4).1 (m_X1_inAll hq4) rfl rfl (Nat.le_of_ble_eq_true rfl) ⟨Nat.le_of_ble_eq_true rfl, Nat.le_of_ble_eq_true rfl⟩ ⟨Nat.le_of_ble_eq_true rfl, Nat.le_of_ble_eq_true rfl⟩ ?_
    obtain rfl := Option.some.inj h
    exact v_iret (dq D_X8_surely 15 rfl) rfl ⟨rfl, rfl⟩
  · have h := itn h c2
    refine v_iconst (dq D_X8_surely 10 rfl) kc_m1 ?_
    obtain rfl := Option.some.inj h
    exact v_iret (dq D_X8_surely 11 rfl) rfl ⟨rfl, rfl⟩
theorem w_X8_surely_0 {sa : Env3} {a0 : Nat} {σ : St} {r : Int32 × St} (h : f_X8_surely_0 a0 σ = some r) : VV sa cX8_surely K_X8_surely 0 [(0, .ref a0)] [] σ (pO r) 0 0 := by
  unfold f_X8_surely_0 at h
  refine v_aload_n (dq D_X8_surely 0 rfl) 0 rfl ?_
  refine v_aload_n (dq D_X8_surely 1 rfl) 0 rfl ?_
  obtain ⟨x1, hx1, h⟩ := obi h
  refine v_gI (dq D_X8_surely 2 rfl) fa_RX8_70 hx1 ?_
  refine v_if_ne (dq D_X8_surely 3 rfl) rfl (fun c2 => ?_) (fun c2 => ?_)
  · have h := itn h c2
    refine v_iconst (dq D_X8_surely 6 rfl) kc_0 ?_
    exact w_X8_surely_13 h
  · have h := itp h c2
    refine v_iconst (dq D_X8_surely 4 rfl) kc_1 ?_
    refine v_goto (dq D_X8_surely 5 rfl) rfl ?_
    exact w_X8_surely_13 h
theorem m_X8_surely {sa : Env3} {a0 : Nat} {σ : St} {r : Int32 × St} (h : f_X8_surely a0 σ = some r) : Ex sa yX8_surely cX8_surely K_X8_surely [.ref a0] σ (pO r) := Ex.of (by decide) rfl (fun q => nomatch q) (Nat.le_of_ble_eq_true rfl) (w_X8_surely_0 (itg h).2)
theorem w_X8_trouble_0 {sa : Env3} {a0 : Nat} {σ : St} {r : Int32 × St} (h : f_X8_trouble_0 a0 σ = some r) : VV sa cX8_trouble K_X8_trouble 0 [(0, .ref a0)] [] σ (pO r) 0 0 := by
  unfold f_X8_trouble_0 at h
  refine v_aload_n (dq D_X8_trouble 0 rfl) 0 rfl ?_
  obtain ⟨x1, hx1, h⟩ := obi h
  refine v_gI (dq D_X8_trouble 1 rfl) fa_RX8_78 hx1 ?_
  obtain rfl := Option.some.inj h
  exact v_iret (dq D_X8_trouble 2 rfl) rfl ⟨rfl, rfl⟩
theorem m_X8_trouble {sa : Env3} {a0 : Nat} {σ : St} {r : Int32 × St} (h : f_X8_trouble a0 σ = some r) : Ex sa yX8_trouble cX8_trouble K_X8_trouble [.ref a0] σ (pO r) := Ex.of (by decide) rfl (fun q => nomatch q) (Nat.le_of_ble_eq_true rfl) (w_X8_trouble_0 (itg h).2)
theorem w_X8_undo_16 {sa : Env3} {a0 : Nat} {s0 : Nat} {s1 : Int32} {σ : St} {r : Int32 × St} (h : f_X8_undo_16 a0 s0 s1 σ = some r) : VV sa cX8_undo K_X8_undo 16 [(0, .ref a0)] [.int s1, .ref s0] σ (pO r) 0 0 := by
  unfold f_X8_undo_16 at h
  refine v_bipush (dq D_X8_undo 8 rfl) kb_6 ?_
  obtain ⟨q1, hq1, h⟩ := obi h
  refine v_cVi (bc := 0) (bs := 0) (As := [.int s1, .int 6]) (dq D_X8_undo 9 rfl) cv_X8_refused ml_RX8_85 (itg hq1).1 (m_X8_refused hq1) rfl rfl (Nat.le_of_ble_eq_true rfl) ⟨Nat.le_of_ble_eq_true rfl, Nat.le_of_ble_eq_true rfl⟩ ⟨Nat.le_of_ble_eq_true rfl, Nat.le_of_ble_eq_true rfl⟩ ?_
  refine v_if_eq (dq D_X8_undo 10 rfl) rfl (fun c2 => ?_) (fun c2 => ?_)
  · have h := itp h c2
    refine v_aload_n (dq D_X8_undo 13 rfl) 0 rfl ?_
    obtain ⟨x3, hx3, h⟩ := obi h
    refine v_gR (dq D_X8_undo 14 rfl) fa_RX8_45 hx3 ?_
    refine v_aload_n (dq D_X8_undo 15 rfl) 0 rfl ?_
    obtain ⟨x4, hx4, h⟩ := obi h
    refine v_gR (dq D_X8_undo 16 rfl) fa_RX8_35 hx4 ?_
    obtain ⟨σ5, hσ5, h⟩ := obi h
    refine v_cVv (bc := 0) (bs := 0) (As := [.ref x4]) (dq D_X8_undo 17 rfl) cv_X2_takeBack ml_RX8_321 (itg hσ5).1 (m_X2_takeBack hσ5) rfl rfl (Nat.le_of_ble_eq_true rfl) ⟨Nat.le_of_ble_eq_true rfl, Nat.le_of_ble_eq_true rfl⟩ ⟨Nat.le_of_ble_eq_true rfl, Nat.le_of_ble_eq_true rfl⟩ ?_
    refine v_iconst (dq D_X8_undo 18 rfl) kc_1 ?_
    obtain rfl := Option.some.inj h
    exact v_zret (dq D_X8_undo 19 rfl) rfl rfl ⟨rfl, rfl⟩
  · have h := itn h c2
    refine v_iconst (dq D_X8_undo 11 rfl) kc_0 ?_
    obtain rfl := Option.some.inj h
    exact v_zret (dq D_X8_undo 12 rfl) rfl rfl ⟨rfl, rfl⟩
theorem w_X8_undo_0 {sa : Env3} {a0 : Nat} {σ : St} {r : Int32 × St} (h : f_X8_undo_0 a0 σ = some r) : VV sa cX8_undo K_X8_undo 0 [(0, .ref a0)] [] σ (pO r) 0 0 := by
  unfold f_X8_undo_0 at h
  refine v_aload_n (dq D_X8_undo 0 rfl) 0 rfl ?_
  refine v_aload_n (dq D_X8_undo 1 rfl) 0 rfl ?_
  obtain ⟨x1, hx1, h⟩ := obi h
  refine v_gR (dq D_X8_undo 2 rfl) fa_RX8_45 hx1 ?_
  obtain ⟨x2, hx2, h⟩ := obi h
  refine v_gI (dq D_X8_undo 3 rfl) fa_RX8_318 hx2 ?_
  refine v_if_ne (dq D_X8_undo 4 rfl) rfl (fun c3 => ?_) (fun c3 => ?_)
  · have h := itn h c3
    refine v_iconst (dq D_X8_undo 7 rfl) kc_0 ?_
    exact w_X8_undo_16 h
  · have h := itp h c3
    refine v_iconst (dq D_X8_undo 5 rfl) kc_1 ?_
    refine v_goto (dq D_X8_undo 6 rfl) rfl ?_
    exact w_X8_undo_16 h
theorem m_X8_undo {sa : Env3} {a0 : Nat} {σ : St} {r : Int32 × St} (h : f_X8_undo a0 σ = some r) : Ex sa yX8_undo cX8_undo K_X8_undo [.ref a0] σ (pO r) := Ex.of (by decide) rfl (fun q => nomatch q) (Nat.le_of_ble_eq_true rfl) (w_X8_undo_0 (itg h).2)
theorem w_X8_value_20 {sa : Env3} {a0 : Nat} {a1 : Int32} {s0 : Nat} {s1 : Int32} {σ : St} {r : Int32 × St} (h : f_X8_value_20 a0 a1 s0 s1 σ = some r) : VV sa cX8_value K_X8_value 20 [(0, .ref a0), (1, .int a1)] [.int s1, .ref s0] σ (pO r) 0 0 := by
  unfold f_X8_value_20 at h
  refine v_iconst (dq D_X8_value 10 rfl) kc_1 ?_
  obtain ⟨q1, hq1, h⟩ := obi h
  refine v_cVi (bc := 0) (bs := 0) (As := [.int s1, .int 1]) (dq D_X8_value 11 rfl) cv_X8_refused ml_RX8_85 (itg hq1).1 (m_X8_refused hq1) rfl rfl (Nat.le_of_ble_eq_true rfl) ⟨Nat.le_of_ble_eq_true rfl, Nat.le_of_ble_eq_true rfl⟩ ⟨Nat.le_of_ble_eq_true rfl, Nat.le_of_ble_eq_true rfl⟩ ?_
  refine v_if_eq (dq D_X8_value 12 rfl) rfl (fun c2 => ?_) (fun c2 => ?_)
  · have h := itp h c2
    refine v_aload_n (dq D_X8_value 15 rfl) 0 rfl ?_
    obtain ⟨x3, hx3, h⟩ := obi h
    refine v_gR (dq D_X8_value 16 rfl) fa_RX8_35 hx3 ?_
    refine v_iload_n (dq D_X8_value 17 rfl) 1 rfl ?_
    obtain ⟨q4, hq4, h⟩ := obi h
    refine v_cVi (bc := 0) (bs := 0) (As := [.int a1]) (dq D_X8_value 18 rfl) cv_X3_keptValue ml_RX8_151 (itg hq4).1 (m_X3_keptValue hq4) rfl rfl (Nat.le_of_ble_eq_true rfl) ⟨Nat.le_of_ble_eq_true rfl, Nat.le_of_ble_eq_true rfl⟩ ⟨Nat.le_of_ble_eq_true rfl, Nat.le_of_ble_eq_true rfl⟩ ?_
    obtain rfl := Option.some.inj h
    exact v_iret (dq D_X8_value 19 rfl) rfl ⟨rfl, rfl⟩
  · have h := itn h c2
    refine v_iconst (dq D_X8_value 13 rfl) kc_m1 ?_
    obtain rfl := Option.some.inj h
    exact v_iret (dq D_X8_value 14 rfl) rfl ⟨rfl, rfl⟩
theorem w_X8_value_15 {sa : Env3} {a0 : Nat} {a1 : Int32} {s0 : Nat} {σ : St} {r : Int32 × St} (h : f_X8_value_15 a0 a1 s0 σ = some r) : VV sa cX8_value K_X8_value 15 [(0, .ref a0), (1, .int a1)] [.ref s0] σ (pO r) 0 0 := by
  unfold f_X8_value_15 at h
  refine v_iconst (dq D_X8_value 7 rfl) kc_1 ?_
  refine v_goto (dq D_X8_value 8 rfl) rfl ?_
  exact w_X8_value_20 h
theorem w_X8_value_0 {sa : Env3} {a0 : Nat} {a1 : Int32} {σ : St} {r : Int32 × St} (h : f_X8_value_0 a0 a1 σ = some r) : VV sa cX8_value K_X8_value 0 [(0, .ref a0), (1, .int a1)] [] σ (pO r) 0 0 := by
  unfold f_X8_value_0 at h
  refine v_aload_n (dq D_X8_value 0 rfl) 0 rfl ?_
  refine v_aload_n (dq D_X8_value 1 rfl) 0 rfl ?_
  obtain ⟨x1, hx1, h⟩ := obi h
  refine v_gI (dq D_X8_value 2 rfl) fa_RX8_70 hx1 ?_
  refine v_if_eq (dq D_X8_value 3 rfl) rfl (fun c2 => ?_) (fun c2 => ?_)
  · have h := itp h c2
    exact w_X8_value_15 h
  · have h := itn h c2
    refine v_iload_n (dq D_X8_value 4 rfl) 1 rfl ?_
    obtain ⟨q3, hq3, h⟩ := obi h
    refine v_cSi (bc := 0) (bs := 0) (As := [.int a1]) (dq D_X8_value 5 rfl) cs_X8_isRegister ml_RX8_141 (m_X8_isRegister hq3) rfl rfl (Nat.le_of_ble_eq_true rfl) ⟨Nat.le_of_ble_eq_true rfl, Nat.le_of_ble_eq_true rfl⟩ ⟨Nat.le_of_ble_eq_true rfl, Nat.le_of_ble_eq_true rfl⟩ ?_
    refine v_if_ne (dq D_X8_value 6 rfl) rfl (fun c4 => ?_) (fun c4 => ?_)
    · have h := itn h c4
      refine v_iconst (dq D_X8_value 9 rfl) kc_0 ?_
      exact w_X8_value_20 h
    · have h := itp h c4
      exact w_X8_value_15 h
theorem m_X8_value {sa : Env3} {a0 : Nat} {a1 : Int32} {σ : St} {r : Int32 × St} (h : f_X8_value a0 a1 σ = some r) : Ex sa yX8_value cX8_value K_X8_value [.ref a0, .int a1] σ (pO r) := Ex.of (by decide) rfl (fun q => nomatch q) (Nat.le_of_ble_eq_true rfl) (w_X8_value_0 (itg h).2)
theorem w_X8_walked_21 {sa : Env3} {a0 : Nat} {a1 : Int32} {a2 : Int32} {s0 : Nat} {s1 : Int32} {σ : St} {r : Int32 × St} (h : f_X8_walked_21 a0 a1 a2 s0 s1 σ = some r) : VV sa cX8_walked K_X8_walked 21 [(0, .ref a0), (1, .int a1), (2, .int a2)] [.int s1, .ref s0] σ (pO r) 0 0 := by
  unfold f_X8_walked_21 at h
  refine v_iconst (dq D_X8_walked 11 rfl) kc_1 ?_
  obtain ⟨q1, hq1, h⟩ := obi h
  refine v_cVi (bc := 0) (bs := 0) (As := [.int s1, .int 1]) (dq D_X8_walked 12 rfl) cv_X8_refused ml_RX8_85 (itg hq1).1 (m_X8_refused hq1) rfl rfl (Nat.le_of_ble_eq_true rfl) ⟨Nat.le_of_ble_eq_true rfl, Nat.le_of_ble_eq_true rfl⟩ ⟨Nat.le_of_ble_eq_true rfl, Nat.le_of_ble_eq_true rfl⟩ ?_
  refine v_if_eq (dq D_X8_walked 13 rfl) rfl (fun c2 => ?_) (fun c2 => ?_)
  · have h := itp h c2
    refine v_aload_n (dq D_X8_walked 16 rfl) 0 rfl ?_
    obtain ⟨x3, hx3, h⟩ := obi h
    refine v_gR (dq D_X8_walked 17 rfl) fa_RX8_35 hx3 ?_
    refine v_iload_n (dq D_X8_walked 18 rfl) 1 rfl ?_
    refine v_iconst (dq D_X8_walked 19 rfl) kc_1 ?_
    refine v_iadd (dq D_X8_walked 20 rfl) ?_
    refine v_iload_n (dq D_X8_walked 21 rfl) 2 rfl ?_
    obtain ⟨q4, hq4, h⟩ := obi h
    refine v_cVi (bc := 0) (bs := 0) (As := [.int (a1 + 1), .int a2]) (dq D_X8_walked 22 rfl) cv_X3_mapBy ml_RX8_161 (itg hq4).1 (m_X3_mapBy hq4) rfl rfl (Nat.le_of_ble_eq_true rfl) ⟨Nat.le_of_ble_eq_true rfl, Nat.le_of_ble_eq_true rfl⟩ ⟨Nat.le_of_ble_eq_true rfl, Nat.le_of_ble_eq_true rfl⟩ ?_
    obtain rfl := Option.some.inj h
    exact v_iret (dq D_X8_walked 23 rfl) rfl ⟨rfl, rfl⟩
  · have h := itn h c2
    refine v_iconst (dq D_X8_walked 14 rfl) kc_m1 ?_
    obtain rfl := Option.some.inj h
    exact v_iret (dq D_X8_walked 15 rfl) rfl ⟨rfl, rfl⟩
theorem w_X8_walked_16 {sa : Env3} {a0 : Nat} {a1 : Int32} {a2 : Int32} {s0 : Nat} {σ : St} {r : Int32 × St} (h : f_X8_walked_16 a0 a1 a2 s0 σ = some r) : VV sa cX8_walked K_X8_walked 16 [(0, .ref a0), (1, .int a1), (2, .int a2)] [.ref s0] σ (pO r) 0 0 := by
  unfold f_X8_walked_16 at h
  refine v_iconst (dq D_X8_walked 8 rfl) kc_1 ?_
  refine v_goto (dq D_X8_walked 9 rfl) rfl ?_
  exact w_X8_walked_21 h
theorem w_X8_walked_0 {sa : Env3} {a0 : Nat} {a1 : Int32} {a2 : Int32} {σ : St} {r : Int32 × St} (h : f_X8_walked_0 a0 a1 a2 σ = some r) : VV sa cX8_walked K_X8_walked 0 [(0, .ref a0), (1, .int a1), (2, .int a2)] [] σ (pO r) 0 0 := by
  unfold f_X8_walked_0 at h
  refine v_aload_n (dq D_X8_walked 0 rfl) 0 rfl ?_
  refine v_aload_n (dq D_X8_walked 1 rfl) 0 rfl ?_
  refine v_iload_n (dq D_X8_walked 2 rfl) 1 rfl ?_
  obtain ⟨q1, hq1, h⟩ := obi h
  refine v_cVi (bc := 0) (bs := 0) (As := [.int a1]) (dq D_X8_walked 3 rfl) cv_X8_isEntry ml_RX8_186 (itg hq1).1 (m_X8_isEntry hq1) rfl rfl (Nat.le_of_ble_eq_true rfl) ⟨Nat.le_of_ble_eq_true rfl, Nat.le_of_ble_eq_true rfl⟩ ⟨Nat.le_of_ble_eq_true rfl, Nat.le_of_ble_eq_true rfl⟩ ?_
  refine v_if_eq (dq D_X8_walked 4 rfl) rfl (fun c2 => ?_) (fun c2 => ?_)
  · have h := itp h c2
    exact w_X8_walked_16 h
  · have h := itn h c2
    refine v_iload_n (dq D_X8_walked 5 rfl) 2 rfl ?_
    obtain ⟨q3, hq3, h⟩ := obi h
    refine v_cSi (bc := 0) (bs := 0) (As := [.int a2]) (dq D_X8_walked 6 rfl) cs_X8_isRegister ml_RX8_141 (m_X8_isRegister hq3) rfl rfl (Nat.le_of_ble_eq_true rfl) ⟨Nat.le_of_ble_eq_true rfl, Nat.le_of_ble_eq_true rfl⟩ ⟨Nat.le_of_ble_eq_true rfl, Nat.le_of_ble_eq_true rfl⟩ ?_
    refine v_if_ne (dq D_X8_walked 7 rfl) rfl (fun c4 => ?_) (fun c4 => ?_)
    · have h := itn h c4
      refine v_iconst (dq D_X8_walked 10 rfl) kc_0 ?_
      exact w_X8_walked_21 h
    · have h := itp h c4
      exact w_X8_walked_16 h
theorem m_X8_walked {sa : Env3} {a0 : Nat} {a1 : Int32} {a2 : Int32} {σ : St} {r : Int32 × St} (h : f_X8_walked a0 a1 a2 σ = some r) : Ex sa yX8_walked cX8_walked K_X8_walked [.ref a0, .int a1, .int a2] σ (pO r) := Ex.of (by decide) rfl (fun q => nomatch q) (Nat.le_of_ble_eq_true rfl) (w_X8_walked_0 (itg h).2)
theorem w_X8_where_19 {sa : Env3} {s0 : Int32} {σ : St} {r : Int32 × St} (h : f_X8_where_19 s0 σ = some r) : VV sa cX8_where K_X8_where 19 [] [.int s0] σ (pO r) 0 0 := by
  unfold f_X8_where_19 at h
  obtain rfl := Option.some.inj h
  exact v_iret (dq D_X8_where 9 rfl) rfl ⟨rfl, rfl⟩
theorem w_X8_where_0 {sa : Env3} {a0 : Nat} {σ : St} {r : Int32 × St} (h : f_X8_where_0 a0 σ = some r) : VV sa cX8_where K_X8_where 0 [(0, .ref a0)] [] σ (pO r) 0 0 := by
  unfold f_X8_where_0 at h
  refine v_aload_n (dq D_X8_where 0 rfl) 0 rfl ?_
  obtain ⟨x1, hx1, h⟩ := obi h
  refine v_gI (dq D_X8_where 1 rfl) fa_RX8_78 hx1 ?_
  refine v_iconst (dq D_X8_where 2 rfl) kc_4 ?_
  refine v_icmp_ne (dq D_X8_where 3 rfl) rfl (fun c2 => ?_) (fun c2 => ?_)
  · have h := itn h c2
    refine v_iconst (dq D_X8_where 8 rfl) kc_m1 ?_
    exact v_sub [] rfl (w_X8_where_19 h)
  · have h := itp h c2
    refine v_aload_n (dq D_X8_where 4 rfl) 0 rfl ?_
    obtain ⟨x3, hx3, h⟩ := obi h
    refine v_gR (dq D_X8_where 5 rfl) fa_RX8_28 hx3 ?_
    obtain ⟨x4, hx4, h⟩ := obi h
    refine v_gI (dq D_X8_where 6 rfl) fa_RX8_117 hx4 ?_
    refine v_goto (dq D_X8_where 7 rfl) rfl ?_
    exact v_sub [] rfl (w_X8_where_19 h)
theorem m_X8_where {sa : Env3} {a0 : Nat} {σ : St} {r : Int32 × St} (h : f_X8_where a0 σ = some r) : Ex sa yX8_where cX8_where K_X8_where [.ref a0] σ (pO r) := Ex.of (by decide) rfl (fun q => nomatch q) (Nat.le_of_ble_eq_true rfl) (w_X8_where_0 (itg h).2)
