/-! THE LAW's cases: both answer, and the answers are one -/
section LawCases
variable {sa : Env3} {σ : St} {post : Option Value → St → Prop} {bc bs z i B : Nat}
/-- the law's locals at its loop -/
abbrev lvL (sa : Env3) (z i : Nat) : List (Nat × Value) := [(0, .ref (sa.1 1000)), (1, .ref z), (2, .ref (z + 195)), (3, .ref (z + 203)), (4, .int (nI i))]
theorem ix_ok {L k : Nat} (h : i + k < L) (hL : L ≤ 3072) : ixo (nI i + nI k) L = true := by
  unfold ixo
  rw [nI_add, nI_clamp (by omega), decide_eq_true (nI_pos' (by omega)), decide_eq_true h]
  rfl
theorem lg_self (x : Int64) : lg_cmp x x = 0 := by
  unfold lg_cmp
  simp
/-- the case goes on to the end of the switch, with one call more behind it -/
def Lc (sa : Env3) (pc : Nat) : Prop := ∀ (post : Option Value → St → Prop) (z i B bc bs : Nat) (σ : St), J z B σ → B ≤ 100000 → i + 6 ≤ sa.2.1 → sa.2.1 ≤ 3072 → (∀ υ, J z (B + 1) υ → VV sa cL_law K_law 1439 (lvL sa z i) [] υ post bc bs) → VV sa cL_law K_law pc (lvL sa z i) [] σ post (bc + 11) (bs + 182)
theorem lk_0 : Lc sa 260 := by
  intro post z i B bc bs σ hJ hB hi hL kk
  obtain ⟨p, d, P, S, I, tr, wh, A, C, R, o1, o2⟩ := hJ
  obtain ⟨v, τ, υ, e1, e2, j1, -⟩ := feed_a A C R o1 o2 (sa.2.2 (nI i + 1).toNatClampNeg) (sa.2.2 (nI i + 2).toNatClampNeg) (sa.2.2 (nI i + 3).toNatClampNeg) (sa.2.2 (nI i + 4).toNatClampNeg) (sa.2.2 (nI i + 5).toNatClampNeg)
  replace e1 : f_X8_feed z (sa.2.2 (nI i + 1).toNatClampNeg) (sa.2.2 (nI i + 2).toNatClampNeg) (sa.2.2 (nI i + 3).toNatClampNeg) (sa.2.2 (nI i + 4).toNatClampNeg) (sa.2.2 (nI i + 5).toNatClampNeg) σ = some (v, τ) := e1
  replace e2 : f_X10_feed (z + 195) (sa.2.2 (nI i + 1).toNatClampNeg) (sa.2.2 (nI i + 2).toNatClampNeg) (sa.2.2 (nI i + 3).toNatClampNeg) (sa.2.2 (nI i + 4).toNatClampNeg) (sa.2.2 (nI i + 5).toNatClampNeg) τ = some (v, υ) := e2
  refine v_aload_n (dq D_Lc0 0 rfl) 1 rfl ?_
  refine v_aload_n (dq D_Lc0 1 rfl) 0 rfl ?_
  refine v_iload (dq D_Lc0 2 rfl) 4 rfl ?_
  refine v_iconst (dq D_Lc0 3 rfl) kc_1 ?_
  refine v_iadd (dq D_Lc0 4 rfl) ?_
  refine v_sld (dq D_Lc0 5 rfl) (ix_ok (k := 1) (by omega) hL) ?_
  refine v_aload_n (dq D_Lc0 6 rfl) 0 rfl ?_
  refine v_iload (dq D_Lc0 7 rfl) 4 rfl ?_
  refine v_iconst (dq D_Lc0 8 rfl) kc_2 ?_
  refine v_iadd (dq D_Lc0 9 rfl) ?_
  refine v_sld (dq D_Lc0 10 rfl) (ix_ok (k := 2) (by omega) hL) ?_
  refine v_aload_n (dq D_Lc0 11 rfl) 0 rfl ?_
  refine v_iload (dq D_Lc0 12 rfl) 4 rfl ?_
  refine v_iconst (dq D_Lc0 13 rfl) kc_3 ?_
  refine v_iadd (dq D_Lc0 14 rfl) ?_
  refine v_sld (dq D_Lc0 15 rfl) (ix_ok (k := 3) (by omega) hL) ?_
  refine v_aload_n (dq D_Lc0 16 rfl) 0 rfl ?_
  refine v_iload (dq D_Lc0 17 rfl) 4 rfl ?_
  refine v_iconst (dq D_Lc0 18 rfl) kc_4 ?_
  refine v_iadd (dq D_Lc0 19 rfl) ?_
  refine v_sld (dq D_Lc0 20 rfl) (ix_ok (k := 4) (by omega) hL) ?_
  refine v_aload_n (dq D_Lc0 21 rfl) 0 rfl ?_
  refine v_iload (dq D_Lc0 22 rfl) 4 rfl ?_
  refine v_iconst (dq D_Lc0 23 rfl) kc_5 ?_
  refine v_iadd (dq D_Lc0 24 rfl) ?_
  refine v_sld (dq D_Lc0 25 rfl) (ix_ok (k := 5) (by omega) hL) ?_
  refine v_cVi (bc := bc + 11) (bs := bs + 182) (As := [.int (sa.2.2 (nI i + 1).toNatClampNeg), .int (sa.2.2 (nI i + 2).toNatClampNeg), .int (sa.2.2 (nI i + 3).toNatClampNeg), .int (sa.2.2 (nI i + 4).toNatClampNeg), .int (sa.2.2 (nI i + 5).toNatClampNeg)]) (dq D_Lc0 26 rfl) cv_X8_feed (Or.inl tw_409) (itg e1).1 (m_X8_feed e1) rfl rfl (Nat.le_of_ble_eq_true rfl) ⟨Nat.le_of_ble_eq_true rfl, Nat.le_of_ble_eq_true rfl⟩ ⟨Nat.le_refl _, Nat.le_refl _⟩ ?_
  refine v_aload_n (dq D_Lc0 27 rfl) 2 rfl ?_
  refine v_aload_n (dq D_Lc0 28 rfl) 0 rfl ?_
  refine v_iload (dq D_Lc0 29 rfl) 4 rfl ?_
  refine v_iconst (dq D_Lc0 30 rfl) kc_1 ?_
  refine v_iadd (dq D_Lc0 31 rfl) ?_
  refine v_sld (dq D_Lc0 32 rfl) (ix_ok (k := 1) (by omega) hL) ?_
  refine v_aload_n (dq D_Lc0 33 rfl) 0 rfl ?_
  refine v_iload (dq D_Lc0 34 rfl) 4 rfl ?_
  refine v_iconst (dq D_Lc0 35 rfl) kc_2 ?_
  refine v_iadd (dq D_Lc0 36 rfl) ?_
  refine v_sld (dq D_Lc0 37 rfl) (ix_ok (k := 2) (by omega) hL) ?_
  refine v_aload_n (dq D_Lc0 38 rfl) 0 rfl ?_
  refine v_iload (dq D_Lc0 39 rfl) 4 rfl ?_
  refine v_iconst (dq D_Lc0 40 rfl) kc_3 ?_
  refine v_iadd (dq D_Lc0 41 rfl) ?_
  refine v_sld (dq D_Lc0 42 rfl) (ix_ok (k := 3) (by omega) hL) ?_
  refine v_aload_n (dq D_Lc0 43 rfl) 0 rfl ?_
  refine v_iload (dq D_Lc0 44 rfl) 4 rfl ?_
  refine v_iconst (dq D_Lc0 45 rfl) kc_4 ?_
  refine v_iadd (dq D_Lc0 46 rfl) ?_
  refine v_sld (dq D_Lc0 47 rfl) (ix_ok (k := 4) (by omega) hL) ?_
  refine v_aload_n (dq D_Lc0 48 rfl) 0 rfl ?_
  refine v_iload (dq D_Lc0 49 rfl) 4 rfl ?_
  refine v_iconst (dq D_Lc0 50 rfl) kc_5 ?_
  refine v_iadd (dq D_Lc0 51 rfl) ?_
  refine v_sld (dq D_Lc0 52 rfl) (ix_ok (k := 5) (by omega) hL) ?_
  refine v_cVi (bc := bc) (bs := bs) (As := [.int (sa.2.2 (nI i + 1).toNatClampNeg), .int (sa.2.2 (nI i + 2).toNatClampNeg), .int (sa.2.2 (nI i + 3).toNatClampNeg), .int (sa.2.2 (nI i + 4).toNatClampNeg), .int (sa.2.2 (nI i + 5).toNatClampNeg)]) (dq D_Lc0 53 rfl) cv_X10_feed (Or.inl tw_1314) (itg e2).1 (m_X10_feed e2) rfl rfl (Nat.le_of_ble_eq_true rfl) ⟨Nat.le_of_ble_eq_true rfl, Nat.le_of_ble_eq_true rfl⟩ ⟨Nat.le_add_right _ _, Nat.le_add_right _ _⟩ ?_
  exact v_icmp_eq (dq D_Lc0 54 rfl) rfl (fun _ => kk υ j1) (fun h => absurd rfl h)
theorem lk_1 : Lc sa 333 := by
  intro post z i B bc bs σ hJ hB hi hL kk
  obtain ⟨p, d, P, S, I, tr, wh, A, C, R, o1, o2⟩ := hJ
  obtain ⟨v, τ, υ, e1, e2, j1, -⟩ := core_a A C R o1 o2 (sa.2.2 (nI i + 1).toNatClampNeg)
  replace e1 : f_X8_core z (sa.2.2 (nI i + 1).toNatClampNeg) σ = some (v, τ) := e1
  replace e2 : f_X10_core (z + 195) (sa.2.2 (nI i + 1).toNatClampNeg) τ = some (v, υ) := e2
  refine v_aload_n (dq D_Lc1 0 rfl) 1 rfl ?_
  refine v_aload_n (dq D_Lc1 1 rfl) 0 rfl ?_
  refine v_iload (dq D_Lc1 2 rfl) 4 rfl ?_
  refine v_iconst (dq D_Lc1 3 rfl) kc_1 ?_
  refine v_iadd (dq D_Lc1 4 rfl) ?_
  refine v_sld (dq D_Lc1 5 rfl) (ix_ok (k := 1) (by omega) hL) ?_
  refine v_cVi (bc := bc + 11) (bs := bs + 182) (As := [.int (sa.2.2 (nI i + 1).toNatClampNeg)]) (dq D_Lc1 6 rfl) cv_X8_core (Or.inl tw_417) (itg e1).1 (m_X8_core e1) rfl rfl (Nat.le_of_ble_eq_true rfl) ⟨Nat.le_of_ble_eq_true rfl, Nat.le_of_ble_eq_true rfl⟩ ⟨Nat.le_refl _, Nat.le_refl _⟩ ?_
  refine v_aload_n (dq D_Lc1 7 rfl) 2 rfl ?_
  refine v_aload_n (dq D_Lc1 8 rfl) 0 rfl ?_
  refine v_iload (dq D_Lc1 9 rfl) 4 rfl ?_
  refine v_iconst (dq D_Lc1 10 rfl) kc_1 ?_
  refine v_iadd (dq D_Lc1 11 rfl) ?_
  refine v_sld (dq D_Lc1 12 rfl) (ix_ok (k := 1) (by omega) hL) ?_
  refine v_cVi (bc := bc) (bs := bs) (As := [.int (sa.2.2 (nI i + 1).toNatClampNeg)]) (dq D_Lc1 13 rfl) cv_X10_core (Or.inl tw_1318) (itg e2).1 (m_X10_core e2) rfl rfl (Nat.le_of_ble_eq_true rfl) ⟨Nat.le_of_ble_eq_true rfl, Nat.le_of_ble_eq_true rfl⟩ ⟨Nat.le_refl _, Nat.le_refl _⟩ ?_
  exact v_icmp_eq (dq D_Lc1 14 rfl) rfl (fun _ => kk υ j1) (fun h => absurd rfl h)
theorem lk_2 : Lc sa 358 := by
  intro post z i B bc bs σ hJ hB hi hL kk
  obtain ⟨p, d, P, S, I, tr, wh, A, C, R, o1, o2⟩ := hJ
  obtain ⟨v, τ, υ, e1, e2, j1, -⟩ := fault_a A C R o1 o2 
  replace e1 : f_X8_fault z  σ = some (v, τ) := e1
  replace e2 : f_X10_fault (z + 195)  τ = some (v, υ) := e2
  refine v_aload_n (dq D_Lc2 0 rfl) 1 rfl ?_
  refine v_cVi (bc := bc + 11) (bs := bs + 182) (As := []) (dq D_Lc2 1 rfl) cv_X8_fault (Or.inl tw_661) (itg e1).1 (m_X8_fault e1) rfl rfl (Nat.le_of_ble_eq_true rfl) ⟨Nat.le_of_ble_eq_true rfl, Nat.le_of_ble_eq_true rfl⟩ ⟨Nat.le_refl _, Nat.le_refl _⟩ ?_
  refine v_aload_n (dq D_Lc2 2 rfl) 2 rfl ?_
  refine v_cVi (bc := bc) (bs := bs) (As := []) (dq D_Lc2 3 rfl) cv_X10_fault (Or.inl tw_1528) (itg e2).1 (m_X10_fault e2) rfl rfl (Nat.le_of_ble_eq_true rfl) ⟨Nat.le_of_ble_eq_true rfl, Nat.le_of_ble_eq_true rfl⟩ ⟨Nat.le_add_right _ _, Nat.le_add_right _ _⟩ ?_
  exact v_icmp_eq (dq D_Lc2 4 rfl) rfl (fun _ => kk υ j1) (fun h => absurd rfl h)
theorem lk_3 : Lc sa 371 := by
  intro post z i B bc bs σ hJ hB hi hL kk
  obtain ⟨p, d, P, S, I, tr, wh, A, C, R, o1, o2⟩ := hJ
  obtain ⟨v, τ, υ, e1, e2, j1, -⟩ := where_a A C R o1 o2 
  replace e1 : f_X8_where z  σ = some (v, τ) := e1
  replace e2 : f_X10_where (z + 195)  τ = some (v, υ) := e2
  refine v_aload_n (dq D_Lc3 0 rfl) 1 rfl ?_
  refine v_cVi (bc := bc + 11) (bs := bs + 182) (As := []) (dq D_Lc3 1 rfl) cv_X8_where (Or.inl tw_665) (itg e1).1 (m_X8_where e1) rfl rfl (Nat.le_of_ble_eq_true rfl) ⟨Nat.le_of_ble_eq_true rfl, Nat.le_of_ble_eq_true rfl⟩ ⟨Nat.le_refl _, Nat.le_refl _⟩ ?_
  refine v_aload_n (dq D_Lc3 2 rfl) 2 rfl ?_
  refine v_cVi (bc := bc) (bs := bs) (As := []) (dq D_Lc3 3 rfl) cv_X10_where (Or.inl tw_1532) (itg e2).1 (m_X10_where e2) rfl rfl (Nat.le_of_ble_eq_true rfl) ⟨Nat.le_of_ble_eq_true rfl, Nat.le_of_ble_eq_true rfl⟩ ⟨Nat.le_add_right _ _, Nat.le_add_right _ _⟩ ?_
  exact v_icmp_eq (dq D_Lc3 4 rfl) rfl (fun _ => kk υ j1) (fun h => absurd rfl h)
theorem lk_4 : Lc sa 384 := by
  intro post z i B bc bs σ hJ hB hi hL kk
  obtain ⟨p, d, P, S, I, tr, wh, A, C, R, o1, o2⟩ := hJ
  obtain ⟨v, τ, υ, e1, e2, j1, -⟩ := plainSteps_a A C R o1 o2 
  replace e1 : f_X8_plainSteps z  σ = some (v, τ) := e1
  replace e2 : f_X10_plainSteps (z + 195)  τ = some (v, υ) := e2
  refine v_aload_n (dq D_Lc4 0 rfl) 1 rfl ?_
  refine v_cVi (bc := bc + 11) (bs := bs + 182) (As := []) (dq D_Lc4 1 rfl) cv_X8_plainSteps (Or.inl tw_669) (itg e1).1 (m_X8_plainSteps e1) rfl rfl (Nat.le_of_ble_eq_true rfl) ⟨Nat.le_of_ble_eq_true rfl, Nat.le_of_ble_eq_true rfl⟩ ⟨Nat.le_refl _, Nat.le_refl _⟩ ?_
  refine v_aload_n (dq D_Lc4 2 rfl) 2 rfl ?_
  refine v_cVi (bc := bc) (bs := bs) (As := []) (dq D_Lc4 3 rfl) cv_X10_plainSteps (Or.inl tw_1536) (itg e2).1 (m_X10_plainSteps e2) rfl rfl (Nat.le_of_ble_eq_true rfl) ⟨Nat.le_of_ble_eq_true rfl, Nat.le_of_ble_eq_true rfl⟩ ⟨Nat.le_add_right _ _, Nat.le_add_right _ _⟩ ?_
  exact v_icmp_eq (dq D_Lc4 4 rfl) rfl (fun _ => kk υ j1) (fun h => absurd rfl h)
theorem lk_5 : Lc sa 397 := by
  intro post z i B bc bs σ hJ hB hi hL kk
  obtain ⟨p, d, P, S, I, tr, wh, A, C, R, o1, o2⟩ := hJ
  obtain ⟨v, τ, υ, e1, e2, j1, -⟩ := plainEnd_a A C R o1 o2 
  replace e1 : f_X8_plainEnd z  σ = some (v, τ) := e1
  replace e2 : f_X10_plainEnd (z + 195)  τ = some (v, υ) := e2
  refine v_aload_n (dq D_Lc5 0 rfl) 1 rfl ?_
  refine v_cVi (bc := bc + 11) (bs := bs + 182) (As := []) (dq D_Lc5 1 rfl) cv_X8_plainEnd (Or.inl tw_678) (itg e1).1 (m_X8_plainEnd e1) rfl rfl (Nat.le_of_ble_eq_true rfl) ⟨Nat.le_of_ble_eq_true rfl, Nat.le_of_ble_eq_true rfl⟩ ⟨Nat.le_refl _, Nat.le_refl _⟩ ?_
  refine v_aload_n (dq D_Lc5 2 rfl) 2 rfl ?_
  refine v_cVi (bc := bc) (bs := bs) (As := []) (dq D_Lc5 3 rfl) cv_X10_plainEnd (Or.inl tw_1562) (itg e2).1 (m_X10_plainEnd e2) rfl rfl (Nat.le_of_ble_eq_true rfl) ⟨Nat.le_of_ble_eq_true rfl, Nat.le_of_ble_eq_true rfl⟩ ⟨Nat.le_add_right _ _, Nat.le_add_right _ _⟩ ?_
  exact v_icmp_eq (dq D_Lc5 4 rfl) rfl (fun _ => kk υ j1) (fun h => absurd rfl h)
theorem lk_6 : Lc sa 410 := by
  intro post z i B bc bs σ hJ hB hi hL kk
  obtain ⟨p, d, P, S, I, tr, wh, A, C, R, o1, o2⟩ := hJ
  obtain ⟨v, τ, υ, e1, e2, j1, -⟩ := plainAt_a A C R o1 o2 (sa.2.2 (nI i + 1).toNatClampNeg) (sa.2.2 (nI i + 2).toNatClampNeg)
  replace e1 : f_X8_plainAt z (sa.2.2 (nI i + 1).toNatClampNeg) (sa.2.2 (nI i + 2).toNatClampNeg) σ = some (v, τ) := e1
  replace e2 : f_X10_plainAt (z + 195) (sa.2.2 (nI i + 1).toNatClampNeg) (sa.2.2 (nI i + 2).toNatClampNeg) τ = some (v, υ) := e2
  refine v_aload_n (dq D_Lc6 0 rfl) 1 rfl ?_
  refine v_aload_n (dq D_Lc6 1 rfl) 0 rfl ?_
  refine v_iload (dq D_Lc6 2 rfl) 4 rfl ?_
  refine v_iconst (dq D_Lc6 3 rfl) kc_1 ?_
  refine v_iadd (dq D_Lc6 4 rfl) ?_
  refine v_sld (dq D_Lc6 5 rfl) (ix_ok (k := 1) (by omega) hL) ?_
  refine v_aload_n (dq D_Lc6 6 rfl) 0 rfl ?_
  refine v_iload (dq D_Lc6 7 rfl) 4 rfl ?_
  refine v_iconst (dq D_Lc6 8 rfl) kc_2 ?_
  refine v_iadd (dq D_Lc6 9 rfl) ?_
  refine v_sld (dq D_Lc6 10 rfl) (ix_ok (k := 2) (by omega) hL) ?_
  refine v_cVi (bc := bc + 11) (bs := bs + 182) (As := [.int (sa.2.2 (nI i + 1).toNatClampNeg), .int (sa.2.2 (nI i + 2).toNatClampNeg)]) (dq D_Lc6 11 rfl) cv_X8_plainAt (Or.inl tw_683) (itg e1).1 (m_X8_plainAt e1) rfl rfl (Nat.le_of_ble_eq_true rfl) ⟨Nat.le_of_ble_eq_true rfl, Nat.le_of_ble_eq_true rfl⟩ ⟨Nat.le_refl _, Nat.le_refl _⟩ ?_
  refine v_aload_n (dq D_Lc6 12 rfl) 2 rfl ?_
  refine v_aload_n (dq D_Lc6 13 rfl) 0 rfl ?_
  refine v_iload (dq D_Lc6 14 rfl) 4 rfl ?_
  refine v_iconst (dq D_Lc6 15 rfl) kc_1 ?_
  refine v_iadd (dq D_Lc6 16 rfl) ?_
  refine v_sld (dq D_Lc6 17 rfl) (ix_ok (k := 1) (by omega) hL) ?_
  refine v_aload_n (dq D_Lc6 18 rfl) 0 rfl ?_
  refine v_iload (dq D_Lc6 19 rfl) 4 rfl ?_
  refine v_iconst (dq D_Lc6 20 rfl) kc_2 ?_
  refine v_iadd (dq D_Lc6 21 rfl) ?_
  refine v_sld (dq D_Lc6 22 rfl) (ix_ok (k := 2) (by omega) hL) ?_
  refine v_cVi (bc := bc) (bs := bs) (As := [.int (sa.2.2 (nI i + 1).toNatClampNeg), .int (sa.2.2 (nI i + 2).toNatClampNeg)]) (dq D_Lc6 23 rfl) cv_X10_plainAt (Or.inl tw_1566) (itg e2).1 (m_X10_plainAt e2) rfl rfl (Nat.le_of_ble_eq_true rfl) ⟨Nat.le_of_ble_eq_true rfl, Nat.le_of_ble_eq_true rfl⟩ ⟨Nat.le_add_right _ _, Nat.le_add_right _ _⟩ ?_
  exact v_icmp_eq (dq D_Lc6 24 rfl) rfl (fun _ => kk υ j1) (fun h => absurd rfl h)
theorem lk_7 : Lc sa 447 := by
  intro post z i B bc bs σ hJ hB hi hL kk
  obtain ⟨p, d, P, S, I, tr, wh, A, C, R, o1, o2⟩ := hJ
  obtain ⟨v, τ, υ, e1, e2, j1, -⟩ := plainStep_a A C R o1 o2 (sa.2.2 (nI i + 1).toNatClampNeg)
  replace e1 : f_X8_plainStep z (sa.2.2 (nI i + 1).toNatClampNeg) σ = some (v, τ) := e1
  replace e2 : f_X10_plainStep (z + 195) (sa.2.2 (nI i + 1).toNatClampNeg) τ = some (v, υ) := e2
  refine v_aload_n (dq D_Lc7 0 rfl) 1 rfl ?_
  refine v_aload_n (dq D_Lc7 1 rfl) 0 rfl ?_
  refine v_iload (dq D_Lc7 2 rfl) 4 rfl ?_
  refine v_iconst (dq D_Lc7 3 rfl) kc_1 ?_
  refine v_iadd (dq D_Lc7 4 rfl) ?_
  refine v_sld (dq D_Lc7 5 rfl) (ix_ok (k := 1) (by omega) hL) ?_
  refine v_cVi (bc := bc + 11) (bs := bs + 182) (As := [.int (sa.2.2 (nI i + 1).toNatClampNeg)]) (dq D_Lc7 6 rfl) cv_X8_plainStep (Or.inl tw_688) (itg e1).1 (m_X8_plainStep e1) rfl rfl (Nat.le_of_ble_eq_true rfl) ⟨Nat.le_of_ble_eq_true rfl, Nat.le_of_ble_eq_true rfl⟩ ⟨Nat.le_refl _, Nat.le_refl _⟩ ?_
  refine v_aload_n (dq D_Lc7 7 rfl) 2 rfl ?_
  refine v_aload_n (dq D_Lc7 8 rfl) 0 rfl ?_
  refine v_iload (dq D_Lc7 9 rfl) 4 rfl ?_
  refine v_iconst (dq D_Lc7 10 rfl) kc_1 ?_
  refine v_iadd (dq D_Lc7 11 rfl) ?_
  refine v_sld (dq D_Lc7 12 rfl) (ix_ok (k := 1) (by omega) hL) ?_
  refine v_cVi (bc := bc) (bs := bs) (As := [.int (sa.2.2 (nI i + 1).toNatClampNeg)]) (dq D_Lc7 13 rfl) cv_X10_plainStep (Or.inl tw_1574) (itg e2).1 (m_X10_plainStep e2) rfl rfl (Nat.le_of_ble_eq_true rfl) ⟨Nat.le_of_ble_eq_true rfl, Nat.le_of_ble_eq_true rfl⟩ ⟨Nat.le_add_right _ _, Nat.le_add_right _ _⟩ ?_
  exact v_icmp_eq (dq D_Lc7 14 rfl) rfl (fun _ => kk υ j1) (fun h => absurd rfl h)
theorem lk_8 : Lc sa 472 := by
  intro post z i B bc bs σ hJ hB hi hL kk
  obtain ⟨p, d, P, S, I, tr, wh, A, C, R, o1, o2⟩ := hJ
  obtain ⟨v, τ, υ, e1, e2, j1, -⟩ := plainMisses_a A C R o1 o2 
  replace e1 : f_X8_plainMisses z  σ = some (v, τ) := e1
  replace e2 : f_X10_plainMisses (z + 195)  τ = some (v, υ) := e2
  refine v_aload_n (dq D_Lc8 0 rfl) 1 rfl ?_
  refine v_cVi (bc := bc + 11) (bs := bs + 182) (As := []) (dq D_Lc8 1 rfl) cv_X8_plainMisses (Or.inl tw_692) (itg e1).1 (m_X8_plainMisses e1) rfl rfl (Nat.le_of_ble_eq_true rfl) ⟨Nat.le_of_ble_eq_true rfl, Nat.le_of_ble_eq_true rfl⟩ ⟨Nat.le_refl _, Nat.le_refl _⟩ ?_
  refine v_aload_n (dq D_Lc8 2 rfl) 2 rfl ?_
  refine v_cVi (bc := bc) (bs := bs) (As := []) (dq D_Lc8 3 rfl) cv_X10_plainMisses (Or.inl tw_1578) (itg e2).1 (m_X10_plainMisses e2) rfl rfl (Nat.le_of_ble_eq_true rfl) ⟨Nat.le_of_ble_eq_true rfl, Nat.le_of_ble_eq_true rfl⟩ ⟨Nat.le_add_right _ _, Nat.le_add_right _ _⟩ ?_
  exact v_icmp_eq (dq D_Lc8 4 rfl) rfl (fun _ => kk υ j1) (fun h => absurd rfl h)
theorem lk_9 : Lc sa 485 := by
  intro post z i B bc bs σ hJ hB hi hL kk
  obtain ⟨p, d, P, S, I, tr, wh, A, C, R, o1, o2⟩ := hJ
  obtain ⟨v, τ, υ, e1, e2, j1, -⟩ := value_a A C R o1 o2 (sa.2.2 (nI i + 1).toNatClampNeg)
  replace e1 : f_X8_value z (sa.2.2 (nI i + 1).toNatClampNeg) σ = some (v, τ) := e1
  replace e2 : f_X10_value (z + 195) (sa.2.2 (nI i + 1).toNatClampNeg) τ = some (v, υ) := e2
  refine v_aload_n (dq D_Lc9 0 rfl) 1 rfl ?_
  refine v_aload_n (dq D_Lc9 1 rfl) 0 rfl ?_
  refine v_iload (dq D_Lc9 2 rfl) 4 rfl ?_
  refine v_iconst (dq D_Lc9 3 rfl) kc_1 ?_
  refine v_iadd (dq D_Lc9 4 rfl) ?_
  refine v_sld (dq D_Lc9 5 rfl) (ix_ok (k := 1) (by omega) hL) ?_
  refine v_cVi (bc := bc + 11) (bs := bs + 182) (As := [.int (sa.2.2 (nI i + 1).toNatClampNeg)]) (dq D_Lc9 6 rfl) cv_X8_value (Or.inl tw_696) (itg e1).1 (m_X8_value e1) rfl rfl (Nat.le_of_ble_eq_true rfl) ⟨Nat.le_of_ble_eq_true rfl, Nat.le_of_ble_eq_true rfl⟩ ⟨Nat.le_refl _, Nat.le_refl _⟩ ?_
  refine v_aload_n (dq D_Lc9 7 rfl) 2 rfl ?_
  refine v_aload_n (dq D_Lc9 8 rfl) 0 rfl ?_
  refine v_iload (dq D_Lc9 9 rfl) 4 rfl ?_
  refine v_iconst (dq D_Lc9 10 rfl) kc_1 ?_
  refine v_iadd (dq D_Lc9 11 rfl) ?_
  refine v_sld (dq D_Lc9 12 rfl) (ix_ok (k := 1) (by omega) hL) ?_
  refine v_cVi (bc := bc) (bs := bs) (As := [.int (sa.2.2 (nI i + 1).toNatClampNeg)]) (dq D_Lc9 13 rfl) cv_X10_value (Or.inl tw_1582) (itg e2).1 (m_X10_value e2) rfl rfl (Nat.le_of_ble_eq_true rfl) ⟨Nat.le_of_ble_eq_true rfl, Nat.le_of_ble_eq_true rfl⟩ ⟨Nat.le_add_right _ _, Nat.le_add_right _ _⟩ ?_
  exact v_icmp_eq (dq D_Lc9 14 rfl) rfl (fun _ => kk υ j1) (fun h => absurd rfl h)
theorem lk_10 : Lc sa 510 := by
  intro post z i B bc bs σ hJ hB hi hL kk
  obtain ⟨p, d, P, S, I, tr, wh, A, C, R, o1, o2⟩ := hJ
  obtain ⟨v, τ, υ, e1, e2, j1, -⟩ := kept_a A C R o1 o2 (sa.2.2 (nI i + 1).toNatClampNeg)
  replace e1 : f_X8_kept z (sa.2.2 (nI i + 1).toNatClampNeg) σ = some (v, τ) := e1
  replace e2 : f_X10_kept (z + 195) (sa.2.2 (nI i + 1).toNatClampNeg) τ = some (v, υ) := e2
  refine v_aload_n (dq D_Lc10 0 rfl) 1 rfl ?_
  refine v_aload_n (dq D_Lc10 1 rfl) 0 rfl ?_
  refine v_iload (dq D_Lc10 2 rfl) 4 rfl ?_
  refine v_iconst (dq D_Lc10 3 rfl) kc_1 ?_
  refine v_iadd (dq D_Lc10 4 rfl) ?_
  refine v_sld (dq D_Lc10 5 rfl) (ix_ok (k := 1) (by omega) hL) ?_
  refine v_cVi (bc := bc + 11) (bs := bs + 182) (As := [.int (sa.2.2 (nI i + 1).toNatClampNeg)]) (dq D_Lc10 6 rfl) cv_X8_kept (Or.inl tw_723) (itg e1).1 (m_X8_kept e1) rfl rfl (Nat.le_of_ble_eq_true rfl) ⟨Nat.le_of_ble_eq_true rfl, Nat.le_of_ble_eq_true rfl⟩ ⟨Nat.le_refl _, Nat.le_refl _⟩ ?_
  refine v_aload_n (dq D_Lc10 7 rfl) 2 rfl ?_
  refine v_aload_n (dq D_Lc10 8 rfl) 0 rfl ?_
  refine v_iload (dq D_Lc10 9 rfl) 4 rfl ?_
  refine v_iconst (dq D_Lc10 10 rfl) kc_1 ?_
  refine v_iadd (dq D_Lc10 11 rfl) ?_
  refine v_sld (dq D_Lc10 12 rfl) (ix_ok (k := 1) (by omega) hL) ?_
  refine v_cVi (bc := bc) (bs := bs) (As := [.int (sa.2.2 (nI i + 1).toNatClampNeg)]) (dq D_Lc10 13 rfl) cv_X10_kept (Or.inl tw_1626) (itg e2).1 (m_X10_kept e2) rfl rfl (Nat.le_of_ble_eq_true rfl) ⟨Nat.le_of_ble_eq_true rfl, Nat.le_of_ble_eq_true rfl⟩ ⟨Nat.le_add_right _ _, Nat.le_add_right _ _⟩ ?_
  exact v_icmp_eq (dq D_Lc10 14 rfl) rfl (fun _ => kk υ j1) (fun h => absurd rfl h)
theorem lk_11 : Lc sa 535 := by
  intro post z i B bc bs σ hJ hB hi hL kk
  obtain ⟨p, d, P, S, I, tr, wh, A, C, R, o1, o2⟩ := hJ
  obtain ⟨v, τ, υ, e1, e2, j1, -⟩ := mapped_a A C R o1 o2 (sa.2.2 (nI i + 1).toNatClampNeg)
  replace e1 : f_X8_mapped z (sa.2.2 (nI i + 1).toNatClampNeg) σ = some (v, τ) := e1
  replace e2 : f_X10_mapped (z + 195) (sa.2.2 (nI i + 1).toNatClampNeg) τ = some (v, υ) := e2
  refine v_aload_n (dq D_Lc11 0 rfl) 1 rfl ?_
  refine v_aload_n (dq D_Lc11 1 rfl) 0 rfl ?_
  refine v_iload (dq D_Lc11 2 rfl) 4 rfl ?_
  refine v_iconst (dq D_Lc11 3 rfl) kc_1 ?_
  refine v_iadd (dq D_Lc11 4 rfl) ?_
  refine v_sld (dq D_Lc11 5 rfl) (ix_ok (k := 1) (by omega) hL) ?_
  refine v_cVi (bc := bc + 11) (bs := bs + 182) (As := [.int (sa.2.2 (nI i + 1).toNatClampNeg)]) (dq D_Lc11 6 rfl) cv_X8_mapped (Or.inl tw_727) (itg e1).1 (m_X8_mapped e1) rfl rfl (Nat.le_of_ble_eq_true rfl) ⟨Nat.le_of_ble_eq_true rfl, Nat.le_of_ble_eq_true rfl⟩ ⟨Nat.le_refl _, Nat.le_refl _⟩ ?_
  refine v_aload_n (dq D_Lc11 7 rfl) 2 rfl ?_
  refine v_aload_n (dq D_Lc11 8 rfl) 0 rfl ?_
  refine v_iload (dq D_Lc11 9 rfl) 4 rfl ?_
  refine v_iconst (dq D_Lc11 10 rfl) kc_1 ?_
  refine v_iadd (dq D_Lc11 11 rfl) ?_
  refine v_sld (dq D_Lc11 12 rfl) (ix_ok (k := 1) (by omega) hL) ?_
  refine v_cVi (bc := bc) (bs := bs) (As := [.int (sa.2.2 (nI i + 1).toNatClampNeg)]) (dq D_Lc11 13 rfl) cv_X10_mapped (Or.inl tw_1630) (itg e2).1 (m_X10_mapped e2) rfl rfl (Nat.le_of_ble_eq_true rfl) ⟨Nat.le_of_ble_eq_true rfl, Nat.le_of_ble_eq_true rfl⟩ ⟨Nat.le_add_right _ _, Nat.le_add_right _ _⟩ ?_
  exact v_icmp_eq (dq D_Lc11 14 rfl) rfl (fun _ => kk υ j1) (fun h => absurd rfl h)
theorem lk_12 : Lc sa 560 := by
  intro post z i B bc bs σ hJ hB hi hL kk
  obtain ⟨p, d, P, S, I, tr, wh, A, C, R, o1, o2⟩ := hJ
  obtain ⟨v, τ, υ, e1, e2, j1, -⟩ := letGo_a A C R o1 o2 
  replace e1 : f_X8_letGo z  σ = some (v, τ) := e1
  replace e2 : f_X10_letGo (z + 195)  τ = some (v, υ) := e2
  refine v_aload_n (dq D_Lc12 0 rfl) 1 rfl ?_
  refine v_cVi (bc := bc + 11) (bs := bs + 182) (As := []) (dq D_Lc12 1 rfl) cv_X8_letGo (Or.inl tw_735) (itg e1).1 (m_X8_letGo e1) rfl rfl (Nat.le_of_ble_eq_true rfl) ⟨Nat.le_of_ble_eq_true rfl, Nat.le_of_ble_eq_true rfl⟩ ⟨Nat.le_refl _, Nat.le_refl _⟩ ?_
  refine v_aload_n (dq D_Lc12 2 rfl) 2 rfl ?_
  refine v_cVi (bc := bc) (bs := bs) (As := []) (dq D_Lc12 3 rfl) cv_X10_letGo (Or.inl tw_1638) (itg e2).1 (m_X10_letGo e2) rfl rfl (Nat.le_of_ble_eq_true rfl) ⟨Nat.le_of_ble_eq_true rfl, Nat.le_of_ble_eq_true rfl⟩ ⟨Nat.le_add_right _ _, Nat.le_add_right _ _⟩ ?_
  exact v_icmp_eq (dq D_Lc12 4 rfl) rfl (fun _ => kk υ j1) (fun h => absurd rfl h)
theorem lk_13 : Lc sa 573 := by
  intro post z i B bc bs σ hJ hB hi hL kk
  obtain ⟨p, d, P, S, I, tr, wh, A, C, R, o1, o2⟩ := hJ
  obtain ⟨v, τ, υ, e1, e2, j1, -⟩ := cell_a A C R o1 o2 (sa.2.2 (nI i + 1).toNatClampNeg) (sa.2.2 (nI i + 2).toNatClampNeg)
  replace e1 : f_X8_cell z (sa.2.2 (nI i + 1).toNatClampNeg) (sa.2.2 (nI i + 2).toNatClampNeg) σ = some (v, τ) := e1
  replace e2 : f_X10_cell (z + 195) (sa.2.2 (nI i + 1).toNatClampNeg) (sa.2.2 (nI i + 2).toNatClampNeg) τ = some (v, υ) := e2
  refine v_aload_n (dq D_Lc13 0 rfl) 1 rfl ?_
  refine v_aload_n (dq D_Lc13 1 rfl) 0 rfl ?_
  refine v_iload (dq D_Lc13 2 rfl) 4 rfl ?_
  refine v_iconst (dq D_Lc13 3 rfl) kc_1 ?_
  refine v_iadd (dq D_Lc13 4 rfl) ?_
  refine v_sld (dq D_Lc13 5 rfl) (ix_ok (k := 1) (by omega) hL) ?_
  refine v_aload_n (dq D_Lc13 6 rfl) 0 rfl ?_
  refine v_iload (dq D_Lc13 7 rfl) 4 rfl ?_
  refine v_iconst (dq D_Lc13 8 rfl) kc_2 ?_
  refine v_iadd (dq D_Lc13 9 rfl) ?_
  refine v_sld (dq D_Lc13 10 rfl) (ix_ok (k := 2) (by omega) hL) ?_
  refine v_cVi (bc := bc + 11) (bs := bs + 182) (As := [.int (sa.2.2 (nI i + 1).toNatClampNeg), .int (sa.2.2 (nI i + 2).toNatClampNeg)]) (dq D_Lc13 11 rfl) cv_X8_cell (Or.inl tw_740) (itg e1).1 (m_X8_cell e1) rfl rfl (Nat.le_of_ble_eq_true rfl) ⟨Nat.le_of_ble_eq_true rfl, Nat.le_of_ble_eq_true rfl⟩ ⟨Nat.le_refl _, Nat.le_refl _⟩ ?_
  refine v_aload_n (dq D_Lc13 12 rfl) 2 rfl ?_
  refine v_aload_n (dq D_Lc13 13 rfl) 0 rfl ?_
  refine v_iload (dq D_Lc13 14 rfl) 4 rfl ?_
  refine v_iconst (dq D_Lc13 15 rfl) kc_1 ?_
  refine v_iadd (dq D_Lc13 16 rfl) ?_
  refine v_sld (dq D_Lc13 17 rfl) (ix_ok (k := 1) (by omega) hL) ?_
  refine v_aload_n (dq D_Lc13 18 rfl) 0 rfl ?_
  refine v_iload (dq D_Lc13 19 rfl) 4 rfl ?_
  refine v_iconst (dq D_Lc13 20 rfl) kc_2 ?_
  refine v_iadd (dq D_Lc13 21 rfl) ?_
  refine v_sld (dq D_Lc13 22 rfl) (ix_ok (k := 2) (by omega) hL) ?_
  refine v_cVi (bc := bc) (bs := bs) (As := [.int (sa.2.2 (nI i + 1).toNatClampNeg), .int (sa.2.2 (nI i + 2).toNatClampNeg)]) (dq D_Lc13 23 rfl) cv_X10_cell (Or.inl tw_1646) (itg e2).1 (m_X10_cell e2) rfl rfl (Nat.le_of_ble_eq_true rfl) ⟨Nat.le_of_ble_eq_true rfl, Nat.le_of_ble_eq_true rfl⟩ ⟨Nat.le_add_right _ _, Nat.le_add_right _ _⟩ ?_
  exact v_icmp_eq (dq D_Lc13 24 rfl) rfl (fun _ => kk υ j1) (fun h => absurd rfl h)
theorem lk_14 : Lc sa 610 := by
  intro post z i B bc bs σ hJ hB hi hL kk
  obtain ⟨p, d, P, S, I, tr, wh, A, C, R, o1, o2⟩ := hJ
  obtain ⟨v, τ, υ, e1, e2, j1, -⟩ := free_a A C R o1 o2 
  replace e1 : f_X8_free z  σ = some (v, τ) := e1
  replace e2 : f_X10_free (z + 195)  τ = some (v, υ) := e2
  refine v_aload_n (dq D_Lc14 0 rfl) 1 rfl ?_
  refine v_cVi (bc := bc + 11) (bs := bs + 182) (As := []) (dq D_Lc14 1 rfl) cv_X8_free (Or.inl tw_756) (itg e1).1 (m_X8_free e1) rfl rfl (Nat.le_of_ble_eq_true rfl) ⟨Nat.le_of_ble_eq_true rfl, Nat.le_of_ble_eq_true rfl⟩ ⟨Nat.le_refl _, Nat.le_refl _⟩ ?_
  refine v_aload_n (dq D_Lc14 2 rfl) 2 rfl ?_
  refine v_cVi (bc := bc) (bs := bs) (As := []) (dq D_Lc14 3 rfl) cv_X10_free (Or.inl tw_1666) (itg e2).1 (m_X10_free e2) rfl rfl (Nat.le_of_ble_eq_true rfl) ⟨Nat.le_of_ble_eq_true rfl, Nat.le_of_ble_eq_true rfl⟩ ⟨Nat.le_add_right _ _, Nat.le_add_right _ _⟩ ?_
  exact v_icmp_eq (dq D_Lc14 4 rfl) rfl (fun _ => kk υ j1) (fun h => absurd rfl h)
theorem lk_15 : Lc sa 623 := by
  intro post z i B bc bs σ hJ hB hi hL kk
  obtain ⟨p, d, P, S, I, tr, wh, A, C, R, o1, o2⟩ := hJ
  obtain ⟨v, τ, υ, e1, e2, j1, -⟩ := ready_a A C R o1 o2 
  replace e1 : f_X8_ready z  σ = some (v, τ) := e1
  replace e2 : f_X10_ready (z + 195)  τ = some (v, υ) := e2
  refine v_aload_n (dq D_Lc15 0 rfl) 1 rfl ?_
  refine v_cVi (bc := bc + 11) (bs := bs + 182) (As := []) (dq D_Lc15 1 rfl) cv_X8_ready (Or.inl tw_764) (itg e1).1 (m_X8_ready e1) rfl rfl (Nat.le_of_ble_eq_true rfl) ⟨Nat.le_of_ble_eq_true rfl, Nat.le_of_ble_eq_true rfl⟩ ⟨Nat.le_refl _, Nat.le_refl _⟩ ?_
  refine v_aload_n (dq D_Lc15 2 rfl) 2 rfl ?_
  refine v_cVi (bc := bc) (bs := bs) (As := []) (dq D_Lc15 3 rfl) cv_X10_ready (Or.inl tw_1674) (itg e2).1 (m_X10_ready e2) rfl rfl (Nat.le_of_ble_eq_true rfl) ⟨Nat.le_of_ble_eq_true rfl, Nat.le_of_ble_eq_true rfl⟩ ⟨Nat.le_add_right _ _, Nat.le_add_right _ _⟩ ?_
  exact v_icmp_eq (dq D_Lc15 4 rfl) rfl (fun _ => kk υ j1) (fun h => absurd rfl h)
theorem lk_16 : Lc sa 636 := by
  intro post z i B bc bs σ hJ hB hi hL kk
  obtain ⟨p, d, P, S, I, tr, wh, A, C, R, o1, o2⟩ := hJ
  obtain ⟨v, τ, υ, e1, e2, j1, -⟩ := entries_a A C R o1 o2 
  replace e1 : f_X8_entries z  σ = some (v, τ) := e1
  replace e2 : f_X10_entries (z + 195)  τ = some (v, υ) := e2
  refine v_aload_n (dq D_Lc16 0 rfl) 1 rfl ?_
  refine v_cVi (bc := bc + 11) (bs := bs + 182) (As := []) (dq D_Lc16 1 rfl) cv_X8_entries (Or.inl tw_768) (itg e1).1 (m_X8_entries e1) rfl rfl (Nat.le_of_ble_eq_true rfl) ⟨Nat.le_of_ble_eq_true rfl, Nat.le_of_ble_eq_true rfl⟩ ⟨Nat.le_refl _, Nat.le_refl _⟩ ?_
  refine v_aload_n (dq D_Lc16 2 rfl) 2 rfl ?_
  refine v_cVi (bc := bc) (bs := bs) (As := []) (dq D_Lc16 3 rfl) cv_X10_entries (Or.inl tw_1678) (itg e2).1 (m_X10_entries e2) rfl rfl (Nat.le_of_ble_eq_true rfl) ⟨Nat.le_of_ble_eq_true rfl, Nat.le_of_ble_eq_true rfl⟩ ⟨Nat.le_add_right _ _, Nat.le_add_right _ _⟩ ?_
  exact v_icmp_eq (dq D_Lc16 4 rfl) rfl (fun _ => kk υ j1) (fun h => absurd rfl h)
theorem lk_17 : Lc sa 649 := by
  intro post z i B bc bs σ hJ hB hi hL kk
  obtain ⟨p, d, P, S, I, tr, wh, A, C, R, o1, o2⟩ := hJ
  obtain ⟨v, τ, υ, e1, e2, j1, -⟩ := entry_a A C R o1 o2 (sa.2.2 (nI i + 1).toNatClampNeg) (sa.2.2 (nI i + 2).toNatClampNeg)
  replace e1 : f_X8_entry z (sa.2.2 (nI i + 1).toNatClampNeg) (sa.2.2 (nI i + 2).toNatClampNeg) σ = some (v, τ) := e1
  replace e2 : f_X10_entry (z + 195) (sa.2.2 (nI i + 1).toNatClampNeg) (sa.2.2 (nI i + 2).toNatClampNeg) τ = some (v, υ) := e2
  refine v_aload_n (dq D_Lc17 0 rfl) 1 rfl ?_
  refine v_aload_n (dq D_Lc17 1 rfl) 0 rfl ?_
  refine v_iload (dq D_Lc17 2 rfl) 4 rfl ?_
  refine v_iconst (dq D_Lc17 3 rfl) kc_1 ?_
  refine v_iadd (dq D_Lc17 4 rfl) ?_
  refine v_sld (dq D_Lc17 5 rfl) (ix_ok (k := 1) (by omega) hL) ?_
  refine v_aload_n (dq D_Lc17 6 rfl) 0 rfl ?_
  refine v_iload (dq D_Lc17 7 rfl) 4 rfl ?_
  refine v_iconst (dq D_Lc17 8 rfl) kc_2 ?_
  refine v_iadd (dq D_Lc17 9 rfl) ?_
  refine v_sld (dq D_Lc17 10 rfl) (ix_ok (k := 2) (by omega) hL) ?_
  refine v_cVi (bc := bc + 11) (bs := bs + 182) (As := [.int (sa.2.2 (nI i + 1).toNatClampNeg), .int (sa.2.2 (nI i + 2).toNatClampNeg)]) (dq D_Lc17 11 rfl) cv_X8_entry (Or.inl tw_772) (itg e1).1 (m_X8_entry e1) rfl rfl (Nat.le_of_ble_eq_true rfl) ⟨Nat.le_of_ble_eq_true rfl, Nat.le_of_ble_eq_true rfl⟩ ⟨Nat.le_refl _, Nat.le_refl _⟩ ?_
  refine v_aload_n (dq D_Lc17 12 rfl) 2 rfl ?_
  refine v_aload_n (dq D_Lc17 13 rfl) 0 rfl ?_
  refine v_iload (dq D_Lc17 14 rfl) 4 rfl ?_
  refine v_iconst (dq D_Lc17 15 rfl) kc_1 ?_
  refine v_iadd (dq D_Lc17 16 rfl) ?_
  refine v_sld (dq D_Lc17 17 rfl) (ix_ok (k := 1) (by omega) hL) ?_
  refine v_aload_n (dq D_Lc17 18 rfl) 0 rfl ?_
  refine v_iload (dq D_Lc17 19 rfl) 4 rfl ?_
  refine v_iconst (dq D_Lc17 20 rfl) kc_2 ?_
  refine v_iadd (dq D_Lc17 21 rfl) ?_
  refine v_sld (dq D_Lc17 22 rfl) (ix_ok (k := 2) (by omega) hL) ?_
  refine v_cVi (bc := bc) (bs := bs) (As := [.int (sa.2.2 (nI i + 1).toNatClampNeg), .int (sa.2.2 (nI i + 2).toNatClampNeg)]) (dq D_Lc17 23 rfl) cv_X10_entry (Or.inl tw_1682) (itg e2).1 (m_X10_entry e2) rfl rfl (Nat.le_of_ble_eq_true rfl) ⟨Nat.le_of_ble_eq_true rfl, Nat.le_of_ble_eq_true rfl⟩ ⟨Nat.le_add_right _ _, Nat.le_add_right _ _⟩ ?_
  exact v_icmp_eq (dq D_Lc17 24 rfl) rfl (fun _ => kk υ j1) (fun h => absurd rfl h)
theorem lk_18 : Lc sa 686 := by
  intro post z i B bc bs σ hJ hB hi hL kk
  obtain ⟨p, d, P, S, I, tr, wh, A, C, R, o1, o2⟩ := hJ
  obtain ⟨v, τ, υ, e1, e2, j1, -⟩ := runnable_a A C R o1 o2 
  replace e1 : f_X8_runnable z  σ = some (v, τ) := e1
  replace e2 : f_X10_runnable (z + 195)  τ = some (v, υ) := e2
  refine v_aload_n (dq D_Lc18 0 rfl) 1 rfl ?_
  refine v_cVi (bc := bc + 11) (bs := bs + 182) (As := []) (dq D_Lc18 1 rfl) cv_X8_runnable (Or.inl tw_784) (itg e1).1 (m_X8_runnable e1) rfl rfl (Nat.le_of_ble_eq_true rfl) ⟨Nat.le_of_ble_eq_true rfl, Nat.le_of_ble_eq_true rfl⟩ ⟨Nat.le_refl _, Nat.le_refl _⟩ ?_
  refine v_aload_n (dq D_Lc18 2 rfl) 2 rfl ?_
  refine v_cVi (bc := bc) (bs := bs) (As := []) (dq D_Lc18 3 rfl) cv_X10_runnable (Or.inl tw_1690) (itg e2).1 (m_X10_runnable e2) rfl rfl (Nat.le_of_ble_eq_true rfl) ⟨Nat.le_of_ble_eq_true rfl, Nat.le_of_ble_eq_true rfl⟩ ⟨Nat.le_add_right _ _, Nat.le_add_right _ _⟩ ?_
  exact v_icmp_eq (dq D_Lc18 4 rfl) rfl (fun _ => kk υ j1) (fun h => absurd rfl h)
theorem lk_19 : Lc sa 699 := by
  intro post z i B bc bs σ hJ hB hi hL kk
  obtain ⟨p, d, P, S, I, tr, wh, A, C, R, o1, o2⟩ := hJ
  obtain ⟨v, τ, υ, e1, e2, j1, -⟩ := nextStep_a A C R o1 o2 
  replace e1 : f_X8_nextStep z  σ = some (v, τ) := e1
  replace e2 : f_X10_nextStep (z + 195)  τ = some (v, υ) := e2
  refine v_aload_n (dq D_Lc19 0 rfl) 1 rfl ?_
  refine v_cVi (bc := bc + 11) (bs := bs + 182) (As := []) (dq D_Lc19 1 rfl) cv_X8_nextStep (Or.inl tw_797) (itg e1).1 (m_X8_nextStep e1) rfl rfl (Nat.le_of_ble_eq_true rfl) ⟨Nat.le_of_ble_eq_true rfl, Nat.le_of_ble_eq_true rfl⟩ ⟨Nat.le_refl _, Nat.le_refl _⟩ ?_
  refine v_aload_n (dq D_Lc19 2 rfl) 2 rfl ?_
  refine v_cVi (bc := bc) (bs := bs) (As := []) (dq D_Lc19 3 rfl) cv_X10_nextStep (Or.inl tw_1698) (itg e2).1 (m_X10_nextStep e2) rfl rfl (Nat.le_of_ble_eq_true rfl) ⟨Nat.le_of_ble_eq_true rfl, Nat.le_of_ble_eq_true rfl⟩ ⟨Nat.le_add_right _ _, Nat.le_add_right _ _⟩ ?_
  exact v_icmp_eq (dq D_Lc19 4 rfl) rfl (fun _ => kk υ j1) (fun h => absurd rfl h)
theorem lk_20 : Lc sa 712 := by
  intro post z i B bc bs σ hJ hB hi hL kk
  obtain ⟨p, d, P, S, I, tr, wh, A, C, R, o1, o2⟩ := hJ
  obtain ⟨v, τ, υ, e1, e2, j1, -⟩ := fetchable_a A C R o1 o2 
  replace e1 : f_X8_fetchable z  σ = some (v, τ) := e1
  replace e2 : f_X10_fetchable (z + 195)  τ = some (v, υ) := e2
  refine v_aload_n (dq D_Lc20 0 rfl) 1 rfl ?_
  refine v_cVi (bc := bc + 11) (bs := bs + 182) (As := []) (dq D_Lc20 1 rfl) cv_X8_fetchable (Or.inl tw_801) (itg e1).1 (m_X8_fetchable e1) rfl rfl (Nat.le_of_ble_eq_true rfl) ⟨Nat.le_of_ble_eq_true rfl, Nat.le_of_ble_eq_true rfl⟩ ⟨Nat.le_refl _, Nat.le_refl _⟩ ?_
  refine v_aload_n (dq D_Lc20 2 rfl) 2 rfl ?_
  refine v_cVi (bc := bc) (bs := bs) (As := []) (dq D_Lc20 3 rfl) cv_X10_fetchable (Or.inl tw_1702) (itg e2).1 (m_X10_fetchable e2) rfl rfl (Nat.le_of_ble_eq_true rfl) ⟨Nat.le_of_ble_eq_true rfl, Nat.le_of_ble_eq_true rfl⟩ ⟨Nat.le_add_right _ _, Nat.le_add_right _ _⟩ ?_
  exact v_icmp_eq (dq D_Lc20 4 rfl) rfl (fun _ => kk υ j1) (fun h => absurd rfl h)
theorem lk_21 : Lc sa 725 := by
  intro post z i B bc bs σ hJ hB hi hL kk
  obtain ⟨p, d, P, S, I, tr, wh, A, C, R, o1, o2⟩ := hJ
  obtain ⟨v, τ, υ, e1, e2, j1, -⟩ := commitable_a A C R o1 o2 
  replace e1 : f_X8_commitable z  σ = some (v, τ) := e1
  replace e2 : f_X10_commitable (z + 195)  τ = some (v, υ) := e2
  refine v_aload_n (dq D_Lc21 0 rfl) 1 rfl ?_
  refine v_cVi (bc := bc + 11) (bs := bs + 182) (As := []) (dq D_Lc21 1 rfl) cv_X8_commitable (Or.inl tw_817) (itg e1).1 (m_X8_commitable e1) rfl rfl (Nat.le_of_ble_eq_true rfl) ⟨Nat.le_of_ble_eq_true rfl, Nat.le_of_ble_eq_true rfl⟩ ⟨Nat.le_refl _, Nat.le_refl _⟩ ?_
  refine v_aload_n (dq D_Lc21 2 rfl) 2 rfl ?_
  refine v_cVi (bc := bc) (bs := bs) (As := []) (dq D_Lc21 3 rfl) cv_X10_commitable (Or.inl tw_1718) (itg e2).1 (m_X10_commitable e2) rfl rfl (Nat.le_of_ble_eq_true rfl) ⟨Nat.le_of_ble_eq_true rfl, Nat.le_of_ble_eq_true rfl⟩ ⟨Nat.le_add_right _ _, Nat.le_add_right _ _⟩ ?_
  exact v_icmp_eq (dq D_Lc21 4 rfl) rfl (fun _ => kk υ j1) (fun h => absurd rfl h)
theorem lk_22 : Lc sa 738 := by
  intro post z i B bc bs σ hJ hB hi hL kk
  obtain ⟨p, d, P, S, I, tr, wh, A, C, R, o1, o2⟩ := hJ
  obtain ⟨v, τ, υ, e1, e2, j1, -⟩ := walked_a A C R o1 o2 (sa.2.2 (nI i + 1).toNatClampNeg) (sa.2.2 (nI i + 2).toNatClampNeg)
  replace e1 : f_X8_walked z (sa.2.2 (nI i + 1).toNatClampNeg) (sa.2.2 (nI i + 2).toNatClampNeg) σ = some (v, τ) := e1
  replace e2 : f_X10_walked (z + 195) (sa.2.2 (nI i + 1).toNatClampNeg) (sa.2.2 (nI i + 2).toNatClampNeg) τ = some (v, υ) := e2
  refine v_aload_n (dq D_Lc22 0 rfl) 1 rfl ?_
  refine v_aload_n (dq D_Lc22 1 rfl) 0 rfl ?_
  refine v_iload (dq D_Lc22 2 rfl) 4 rfl ?_
  refine v_iconst (dq D_Lc22 3 rfl) kc_1 ?_
  refine v_iadd (dq D_Lc22 4 rfl) ?_
  refine v_sld (dq D_Lc22 5 rfl) (ix_ok (k := 1) (by omega) hL) ?_
  refine v_aload_n (dq D_Lc22 6 rfl) 0 rfl ?_
  refine v_iload (dq D_Lc22 7 rfl) 4 rfl ?_
  refine v_iconst (dq D_Lc22 8 rfl) kc_2 ?_
  refine v_iadd (dq D_Lc22 9 rfl) ?_
  refine v_sld (dq D_Lc22 10 rfl) (ix_ok (k := 2) (by omega) hL) ?_
  refine v_cVi (bc := bc + 11) (bs := bs + 182) (As := [.int (sa.2.2 (nI i + 1).toNatClampNeg), .int (sa.2.2 (nI i + 2).toNatClampNeg)]) (dq D_Lc22 11 rfl) cv_X8_walked (Or.inl tw_825) (itg e1).1 (m_X8_walked e1) rfl rfl (Nat.le_of_ble_eq_true rfl) ⟨Nat.le_of_ble_eq_true rfl, Nat.le_of_ble_eq_true rfl⟩ ⟨Nat.le_refl _, Nat.le_refl _⟩ ?_
  refine v_aload_n (dq D_Lc22 12 rfl) 2 rfl ?_
  refine v_aload_n (dq D_Lc22 13 rfl) 0 rfl ?_
  refine v_iload (dq D_Lc22 14 rfl) 4 rfl ?_
  refine v_iconst (dq D_Lc22 15 rfl) kc_1 ?_
  refine v_iadd (dq D_Lc22 16 rfl) ?_
  refine v_sld (dq D_Lc22 17 rfl) (ix_ok (k := 1) (by omega) hL) ?_
  refine v_aload_n (dq D_Lc22 18 rfl) 0 rfl ?_
  refine v_iload (dq D_Lc22 19 rfl) 4 rfl ?_
  refine v_iconst (dq D_Lc22 20 rfl) kc_2 ?_
  refine v_iadd (dq D_Lc22 21 rfl) ?_
  refine v_sld (dq D_Lc22 22 rfl) (ix_ok (k := 2) (by omega) hL) ?_
  refine v_cVi (bc := bc) (bs := bs) (As := [.int (sa.2.2 (nI i + 1).toNatClampNeg), .int (sa.2.2 (nI i + 2).toNatClampNeg)]) (dq D_Lc22 23 rfl) cv_X10_walked (Or.inl tw_1726) (itg e2).1 (m_X10_walked e2) rfl rfl (Nat.le_of_ble_eq_true rfl) ⟨Nat.le_of_ble_eq_true rfl, Nat.le_of_ble_eq_true rfl⟩ ⟨Nat.le_add_right _ _, Nat.le_add_right _ _⟩ ?_
  exact v_icmp_eq (dq D_Lc22 24 rfl) rfl (fun _ => kk υ j1) (fun h => absurd rfl h)
theorem lk_23 : Lc sa 775 := by
  intro post z i B bc bs σ hJ hB hi hL kk
  obtain ⟨p, d, P, S, I, tr, wh, A, C, R, o1, o2⟩ := hJ
  obtain ⟨v, τ, υ, e1, e2, j1, -⟩ := saved_a A C R o1 o2 (sa.2.2 (nI i + 1).toNatClampNeg) (sa.2.2 (nI i + 2).toNatClampNeg)
  replace e1 : f_X8_saved z (sa.2.2 (nI i + 1).toNatClampNeg) (sa.2.2 (nI i + 2).toNatClampNeg) σ = some (v, τ) := e1
  replace e2 : f_X10_saved (z + 195) (sa.2.2 (nI i + 1).toNatClampNeg) (sa.2.2 (nI i + 2).toNatClampNeg) τ = some (v, υ) := e2
  refine v_aload_n (dq D_Lc23 0 rfl) 1 rfl ?_
  refine v_aload_n (dq D_Lc23 1 rfl) 0 rfl ?_
  refine v_iload (dq D_Lc23 2 rfl) 4 rfl ?_
  refine v_iconst (dq D_Lc23 3 rfl) kc_1 ?_
  refine v_iadd (dq D_Lc23 4 rfl) ?_
  refine v_sld (dq D_Lc23 5 rfl) (ix_ok (k := 1) (by omega) hL) ?_
  refine v_aload_n (dq D_Lc23 6 rfl) 0 rfl ?_
  refine v_iload (dq D_Lc23 7 rfl) 4 rfl ?_
  refine v_iconst (dq D_Lc23 8 rfl) kc_2 ?_
  refine v_iadd (dq D_Lc23 9 rfl) ?_
  refine v_sld (dq D_Lc23 10 rfl) (ix_ok (k := 2) (by omega) hL) ?_
  refine v_cVi (bc := bc + 11) (bs := bs + 182) (As := [.int (sa.2.2 (nI i + 1).toNatClampNeg), .int (sa.2.2 (nI i + 2).toNatClampNeg)]) (dq D_Lc23 11 rfl) cv_X8_saved (Or.inl tw_829) (itg e1).1 (m_X8_saved e1) rfl rfl (Nat.le_of_ble_eq_true rfl) ⟨Nat.le_of_ble_eq_true rfl, Nat.le_of_ble_eq_true rfl⟩ ⟨Nat.le_refl _, Nat.le_refl _⟩ ?_
  refine v_aload_n (dq D_Lc23 12 rfl) 2 rfl ?_
  refine v_aload_n (dq D_Lc23 13 rfl) 0 rfl ?_
  refine v_iload (dq D_Lc23 14 rfl) 4 rfl ?_
  refine v_iconst (dq D_Lc23 15 rfl) kc_1 ?_
  refine v_iadd (dq D_Lc23 16 rfl) ?_
  refine v_sld (dq D_Lc23 17 rfl) (ix_ok (k := 1) (by omega) hL) ?_
  refine v_aload_n (dq D_Lc23 18 rfl) 0 rfl ?_
  refine v_iload (dq D_Lc23 19 rfl) 4 rfl ?_
  refine v_iconst (dq D_Lc23 20 rfl) kc_2 ?_
  refine v_iadd (dq D_Lc23 21 rfl) ?_
  refine v_sld (dq D_Lc23 22 rfl) (ix_ok (k := 2) (by omega) hL) ?_
  refine v_cVi (bc := bc) (bs := bs) (As := [.int (sa.2.2 (nI i + 1).toNatClampNeg), .int (sa.2.2 (nI i + 2).toNatClampNeg)]) (dq D_Lc23 23 rfl) cv_X10_saved (Or.inl tw_1730) (itg e2).1 (m_X10_saved e2) rfl rfl (Nat.le_of_ble_eq_true rfl) ⟨Nat.le_of_ble_eq_true rfl, Nat.le_of_ble_eq_true rfl⟩ ⟨Nat.le_add_right _ _, Nat.le_add_right _ _⟩ ?_
  exact v_icmp_eq (dq D_Lc23 24 rfl) rfl (fun _ => kk υ j1) (fun h => absurd rfl h)
theorem lk_24 : Lc sa 812 := by
  intro post z i B bc bs σ hJ hB hi hL kk
  obtain ⟨p, d, P, S, I, tr, wh, A, C, R, o1, o2⟩ := hJ
  obtain ⟨v, τ, υ, e1, e2, j1, -⟩ := gives_a A C R o1 o2 (sa.2.2 (nI i + 1).toNatClampNeg)
  replace e1 : f_X8_gives z (sa.2.2 (nI i + 1).toNatClampNeg) σ = some (v, τ) := e1
  replace e2 : f_X10_gives (z + 195) (sa.2.2 (nI i + 1).toNatClampNeg) τ = some (v, υ) := e2
  refine v_aload_n (dq D_Lc24 0 rfl) 1 rfl ?_
  refine v_aload_n (dq D_Lc24 1 rfl) 0 rfl ?_
  refine v_iload (dq D_Lc24 2 rfl) 4 rfl ?_
  refine v_iconst (dq D_Lc24 3 rfl) kc_1 ?_
  refine v_iadd (dq D_Lc24 4 rfl) ?_
  refine v_sld (dq D_Lc24 5 rfl) (ix_ok (k := 1) (by omega) hL) ?_
  refine v_cVi (bc := bc + 11) (bs := bs + 182) (As := [.int (sa.2.2 (nI i + 1).toNatClampNeg)]) (dq D_Lc24 6 rfl) cv_X8_gives (Or.inl tw_833) (itg e1).1 (m_X8_gives e1) rfl rfl (Nat.le_of_ble_eq_true rfl) ⟨Nat.le_of_ble_eq_true rfl, Nat.le_of_ble_eq_true rfl⟩ ⟨Nat.le_refl _, Nat.le_refl _⟩ ?_
  refine v_aload_n (dq D_Lc24 7 rfl) 2 rfl ?_
  refine v_aload_n (dq D_Lc24 8 rfl) 0 rfl ?_
  refine v_iload (dq D_Lc24 9 rfl) 4 rfl ?_
  refine v_iconst (dq D_Lc24 10 rfl) kc_1 ?_
  refine v_iadd (dq D_Lc24 11 rfl) ?_
  refine v_sld (dq D_Lc24 12 rfl) (ix_ok (k := 1) (by omega) hL) ?_
  refine v_cVi (bc := bc) (bs := bs) (As := [.int (sa.2.2 (nI i + 1).toNatClampNeg)]) (dq D_Lc24 13 rfl) cv_X10_gives (Or.inl tw_1734) (itg e2).1 (m_X10_gives e2) rfl rfl (Nat.le_of_ble_eq_true rfl) ⟨Nat.le_of_ble_eq_true rfl, Nat.le_of_ble_eq_true rfl⟩ ⟨Nat.le_add_right _ _, Nat.le_add_right _ _⟩ ?_
  exact v_icmp_eq (dq D_Lc24 14 rfl) rfl (fun _ => kk υ j1) (fun h => absurd rfl h)
theorem lk_25 : Lc sa 837 := by
  intro post z i B bc bs σ hJ hB hi hL kk
  obtain ⟨p, d, P, S, I, tr, wh, A, C, R, o1, o2⟩ := hJ
  obtain ⟨v, τ, υ, e1, e2, j1, -⟩ := agrees_a A hB C R o1 o2
  replace e1 : f_X8_agrees z  σ = some (v, τ) := e1
  replace e2 : f_X10_agrees (z + 195)  τ = some (v, υ) := e2
  refine v_aload_n (dq D_Lc25 0 rfl) 1 rfl ?_
  refine v_cVi (bc := bc + 11) (bs := bs + 182) (As := []) (dq D_Lc25 1 rfl) cv_X8_agrees (Or.inl tw_843) (itg e1).1 (m_X8_agrees e1) rfl rfl (Nat.le_of_ble_eq_true rfl) ⟨Nat.le_of_ble_eq_true rfl, Nat.le_of_ble_eq_true rfl⟩ ⟨Nat.le_refl _, Nat.le_refl _⟩ ?_
  refine v_aload_n (dq D_Lc25 2 rfl) 2 rfl ?_
  refine v_cVi (bc := bc) (bs := bs) (As := []) (dq D_Lc25 3 rfl) cv_X10_agrees (Or.inl tw_1741) (itg e2).1 (m_X10_agrees e2) rfl rfl (Nat.le_of_ble_eq_true rfl) ⟨Nat.le_of_ble_eq_true rfl, Nat.le_of_ble_eq_true rfl⟩ ⟨Nat.le_add_right _ _, Nat.le_add_right _ _⟩ ?_
  exact v_icmp_eq (dq D_Lc25 4 rfl) rfl (fun _ => kk υ j1) (fun h => absurd rfl h)
theorem lk_26 : Lc sa 850 := by
  intro post z i B bc bs σ hJ hB hi hL kk
  obtain ⟨p, d, P, S, I, tr, wh, A, C, R, o1, o2⟩ := hJ
  obtain ⟨v, τ, υ, e1, e2, j1, -⟩ := cycles_a A C R o1 o2 (sa.2.2 (nI i + 1).toNatClampNeg)
  replace e1 : f_X8_cycles z (sa.2.2 (nI i + 1).toNatClampNeg) σ = some (v, τ) := e1
  replace e2 : f_X10_cycles (z + 195) (sa.2.2 (nI i + 1).toNatClampNeg) τ = some (v, υ) := e2
  refine v_aload_n (dq D_Lc26 0 rfl) 1 rfl ?_
  refine v_aload_n (dq D_Lc26 1 rfl) 0 rfl ?_
  refine v_iload (dq D_Lc26 2 rfl) 4 rfl ?_
  refine v_iconst (dq D_Lc26 3 rfl) kc_1 ?_
  refine v_iadd (dq D_Lc26 4 rfl) ?_
  refine v_sld (dq D_Lc26 5 rfl) (ix_ok (k := 1) (by omega) hL) ?_
  refine v_cVi (bc := bc + 11) (bs := bs + 182) (As := [.int (sa.2.2 (nI i + 1).toNatClampNeg)]) (dq D_Lc26 6 rfl) cv_X8_cycles (Or.inl tw_847) (itg e1).1 (m_X8_cycles e1) rfl rfl (Nat.le_of_ble_eq_true rfl) ⟨Nat.le_of_ble_eq_true rfl, Nat.le_of_ble_eq_true rfl⟩ ⟨Nat.le_refl _, Nat.le_refl _⟩ ?_
  refine v_aload_n (dq D_Lc26 7 rfl) 2 rfl ?_
  refine v_aload_n (dq D_Lc26 8 rfl) 0 rfl ?_
  refine v_iload (dq D_Lc26 9 rfl) 4 rfl ?_
  refine v_iconst (dq D_Lc26 10 rfl) kc_1 ?_
  refine v_iadd (dq D_Lc26 11 rfl) ?_
  refine v_sld (dq D_Lc26 12 rfl) (ix_ok (k := 1) (by omega) hL) ?_
  refine v_cVi (bc := bc) (bs := bs) (As := [.int (sa.2.2 (nI i + 1).toNatClampNeg)]) (dq D_Lc26 13 rfl) cv_X10_cycles (Or.inl tw_1745) (itg e2).1 (m_X10_cycles e2) rfl rfl (Nat.le_of_ble_eq_true rfl) ⟨Nat.le_of_ble_eq_true rfl, Nat.le_of_ble_eq_true rfl⟩ ⟨Nat.le_add_right _ _, Nat.le_add_right _ _⟩ ?_
  exact v_icmp_eq (dq D_Lc26 14 rfl) rfl (fun _ => kk υ j1) (fun h => absurd rfl h)
theorem lk_27 : Lc sa 875 := by
  intro post z i B bc bs σ hJ hB hi hL kk
  obtain ⟨p, d, P, S, I, tr, wh, A, C, R, o1, o2⟩ := hJ
  obtain ⟨v, τ, υ, e1, e2, j1, -⟩ := commits_a A C R o1 o2 (sa.2.2 (nI i + 1).toNatClampNeg)
  replace e1 : f_X8_commits z (sa.2.2 (nI i + 1).toNatClampNeg) σ = some (v, τ) := e1
  replace e2 : f_X10_commits (z + 195) (sa.2.2 (nI i + 1).toNatClampNeg) τ = some (v, υ) := e2
  refine v_aload_n (dq D_Lc27 0 rfl) 1 rfl ?_
  refine v_aload_n (dq D_Lc27 1 rfl) 0 rfl ?_
  refine v_iload (dq D_Lc27 2 rfl) 4 rfl ?_
  refine v_iconst (dq D_Lc27 3 rfl) kc_1 ?_
  refine v_iadd (dq D_Lc27 4 rfl) ?_
  refine v_sld (dq D_Lc27 5 rfl) (ix_ok (k := 1) (by omega) hL) ?_
  refine v_cVi (bc := bc + 11) (bs := bs + 182) (As := [.int (sa.2.2 (nI i + 1).toNatClampNeg)]) (dq D_Lc27 6 rfl) cv_X8_commits (Or.inl tw_935) (itg e1).1 (m_X8_commits e1) rfl rfl (Nat.le_of_ble_eq_true rfl) ⟨Nat.le_of_ble_eq_true rfl, Nat.le_of_ble_eq_true rfl⟩ ⟨Nat.le_refl _, Nat.le_refl _⟩ ?_
  refine v_aload_n (dq D_Lc27 7 rfl) 2 rfl ?_
  refine v_aload_n (dq D_Lc27 8 rfl) 0 rfl ?_
  refine v_iload (dq D_Lc27 9 rfl) 4 rfl ?_
  refine v_iconst (dq D_Lc27 10 rfl) kc_1 ?_
  refine v_iadd (dq D_Lc27 11 rfl) ?_
  refine v_sld (dq D_Lc27 12 rfl) (ix_ok (k := 1) (by omega) hL) ?_
  refine v_cVi (bc := bc) (bs := bs) (As := [.int (sa.2.2 (nI i + 1).toNatClampNeg)]) (dq D_Lc27 13 rfl) cv_X10_commits (Or.inl tw_1777) (itg e2).1 (m_X10_commits e2) rfl rfl (Nat.le_of_ble_eq_true rfl) ⟨Nat.le_of_ble_eq_true rfl, Nat.le_of_ble_eq_true rfl⟩ ⟨Nat.le_add_right _ _, Nat.le_add_right _ _⟩ ?_
  exact v_icmp_eq (dq D_Lc27 14 rfl) rfl (fun _ => kk υ j1) (fun h => absurd rfl h)
theorem lk_28 : Lc sa 900 := by
  intro post z i B bc bs σ hJ hB hi hL kk
  obtain ⟨p, d, P, S, I, tr, wh, A, C, R, o1, o2⟩ := hJ
  obtain ⟨v, τ, υ, e1, e2, j1, -⟩ := misses_a A C R o1 o2 (sa.2.2 (nI i + 1).toNatClampNeg)
  replace e1 : f_X8_misses z (sa.2.2 (nI i + 1).toNatClampNeg) σ = some (v, τ) := e1
  replace e2 : f_X10_misses (z + 195) (sa.2.2 (nI i + 1).toNatClampNeg) τ = some (v, υ) := e2
  refine v_aload_n (dq D_Lc28 0 rfl) 1 rfl ?_
  refine v_aload_n (dq D_Lc28 1 rfl) 0 rfl ?_
  refine v_iload (dq D_Lc28 2 rfl) 4 rfl ?_
  refine v_iconst (dq D_Lc28 3 rfl) kc_1 ?_
  refine v_iadd (dq D_Lc28 4 rfl) ?_
  refine v_sld (dq D_Lc28 5 rfl) (ix_ok (k := 1) (by omega) hL) ?_
  refine v_cVi (bc := bc + 11) (bs := bs + 182) (As := [.int (sa.2.2 (nI i + 1).toNatClampNeg)]) (dq D_Lc28 6 rfl) cv_X8_misses (Or.inl tw_939) (itg e1).1 (m_X8_misses e1) rfl rfl (Nat.le_of_ble_eq_true rfl) ⟨Nat.le_of_ble_eq_true rfl, Nat.le_of_ble_eq_true rfl⟩ ⟨Nat.le_refl _, Nat.le_refl _⟩ ?_
  refine v_aload_n (dq D_Lc28 7 rfl) 2 rfl ?_
  refine v_aload_n (dq D_Lc28 8 rfl) 0 rfl ?_
  refine v_iload (dq D_Lc28 9 rfl) 4 rfl ?_
  refine v_iconst (dq D_Lc28 10 rfl) kc_1 ?_
  refine v_iadd (dq D_Lc28 11 rfl) ?_
  refine v_sld (dq D_Lc28 12 rfl) (ix_ok (k := 1) (by omega) hL) ?_
  refine v_cVi (bc := bc) (bs := bs) (As := [.int (sa.2.2 (nI i + 1).toNatClampNeg)]) (dq D_Lc28 13 rfl) cv_X10_misses (Or.inl tw_1781) (itg e2).1 (m_X10_misses e2) rfl rfl (Nat.le_of_ble_eq_true rfl) ⟨Nat.le_of_ble_eq_true rfl, Nat.le_of_ble_eq_true rfl⟩ ⟨Nat.le_add_right _ _, Nat.le_add_right _ _⟩ ?_
  exact v_icmp_eq (dq D_Lc28 14 rfl) rfl (fun _ => kk υ j1) (fun h => absurd rfl h)
theorem lk_29 : Lc sa 925 := by
  intro post z i B bc bs σ hJ hB hi hL kk
  obtain ⟨p, d, P, S, I, tr, wh, A, C, R, o1, o2⟩ := hJ
  obtain ⟨v, τ, υ, e1, e2, j1, -⟩ := crowd_a A C R o1 o2 (sa.2.2 (nI i + 1).toNatClampNeg)
  replace e1 : f_X8_crowd z (sa.2.2 (nI i + 1).toNatClampNeg) σ = some (v, τ) := e1
  replace e2 : f_X10_crowd (z + 195) (sa.2.2 (nI i + 1).toNatClampNeg) τ = some (v, υ) := e2
  refine v_aload_n (dq D_Lc29 0 rfl) 1 rfl ?_
  refine v_aload_n (dq D_Lc29 1 rfl) 0 rfl ?_
  refine v_iload (dq D_Lc29 2 rfl) 4 rfl ?_
  refine v_iconst (dq D_Lc29 3 rfl) kc_1 ?_
  refine v_iadd (dq D_Lc29 4 rfl) ?_
  refine v_sld (dq D_Lc29 5 rfl) (ix_ok (k := 1) (by omega) hL) ?_
  refine v_cVi (bc := bc + 11) (bs := bs + 182) (As := [.int (sa.2.2 (nI i + 1).toNatClampNeg)]) (dq D_Lc29 6 rfl) cv_X8_crowd (Or.inl tw_943) (itg e1).1 (m_X8_crowd e1) rfl rfl (Nat.le_of_ble_eq_true rfl) ⟨Nat.le_of_ble_eq_true rfl, Nat.le_of_ble_eq_true rfl⟩ ⟨Nat.le_refl _, Nat.le_refl _⟩ ?_
  refine v_aload_n (dq D_Lc29 7 rfl) 2 rfl ?_
  refine v_aload_n (dq D_Lc29 8 rfl) 0 rfl ?_
  refine v_iload (dq D_Lc29 9 rfl) 4 rfl ?_
  refine v_iconst (dq D_Lc29 10 rfl) kc_1 ?_
  refine v_iadd (dq D_Lc29 11 rfl) ?_
  refine v_sld (dq D_Lc29 12 rfl) (ix_ok (k := 1) (by omega) hL) ?_
  refine v_cVi (bc := bc) (bs := bs) (As := [.int (sa.2.2 (nI i + 1).toNatClampNeg)]) (dq D_Lc29 13 rfl) cv_X10_crowd (Or.inl tw_1785) (itg e2).1 (m_X10_crowd e2) rfl rfl (Nat.le_of_ble_eq_true rfl) ⟨Nat.le_of_ble_eq_true rfl, Nat.le_of_ble_eq_true rfl⟩ ⟨Nat.le_add_right _ _, Nat.le_add_right _ _⟩ ?_
  exact v_icmp_eq (dq D_Lc29 14 rfl) rfl (fun _ => kk υ j1) (fun h => absurd rfl h)
theorem lk_30 : Lc sa 950 := by
  intro post z i B bc bs σ hJ hB hi hL kk
  obtain ⟨p, d, P, S, I, tr, wh, A, C, R, o1, o2⟩ := hJ
  obtain ⟨v, τ, υ, e1, e2, j1, -⟩ := cellsFor_a A C R o1 o2 (sa.2.2 (nI i + 1).toNatClampNeg)
  replace e1 : f_X8_cellsFor z (sa.2.2 (nI i + 1).toNatClampNeg) σ = some (v, τ) := e1
  replace e2 : f_X10_cellsFor (z + 195) (sa.2.2 (nI i + 1).toNatClampNeg) τ = some (v, υ) := e2
  refine v_aload_n (dq D_Lc30 0 rfl) 1 rfl ?_
  refine v_aload_n (dq D_Lc30 1 rfl) 0 rfl ?_
  refine v_iload (dq D_Lc30 2 rfl) 4 rfl ?_
  refine v_iconst (dq D_Lc30 3 rfl) kc_1 ?_
  refine v_iadd (dq D_Lc30 4 rfl) ?_
  refine v_sld (dq D_Lc30 5 rfl) (ix_ok (k := 1) (by omega) hL) ?_
  refine v_cVi (bc := bc + 11) (bs := bs + 182) (As := [.int (sa.2.2 (nI i + 1).toNatClampNeg)]) (dq D_Lc30 6 rfl) cv_X8_cellsFor (Or.inl tw_947) (itg e1).1 (m_X8_cellsFor e1) rfl rfl (Nat.le_of_ble_eq_true rfl) ⟨Nat.le_of_ble_eq_true rfl, Nat.le_of_ble_eq_true rfl⟩ ⟨Nat.le_refl _, Nat.le_refl _⟩ ?_
  refine v_aload_n (dq D_Lc30 7 rfl) 2 rfl ?_
  refine v_aload_n (dq D_Lc30 8 rfl) 0 rfl ?_
  refine v_iload (dq D_Lc30 9 rfl) 4 rfl ?_
  refine v_iconst (dq D_Lc30 10 rfl) kc_1 ?_
  refine v_iadd (dq D_Lc30 11 rfl) ?_
  refine v_sld (dq D_Lc30 12 rfl) (ix_ok (k := 1) (by omega) hL) ?_
  refine v_cVi (bc := bc) (bs := bs) (As := [.int (sa.2.2 (nI i + 1).toNatClampNeg)]) (dq D_Lc30 13 rfl) cv_X10_cellsFor (Or.inl tw_1789) (itg e2).1 (m_X10_cellsFor e2) rfl rfl (Nat.le_of_ble_eq_true rfl) ⟨Nat.le_of_ble_eq_true rfl, Nat.le_of_ble_eq_true rfl⟩ ⟨Nat.le_add_right _ _, Nat.le_add_right _ _⟩ ?_
  exact v_icmp_eq (dq D_Lc30 14 rfl) rfl (fun _ => kk υ j1) (fun h => absurd rfl h)
theorem lk_32 : Lc sa 1029 := by
  intro post z i B bc bs σ hJ hB hi hL kk
  obtain ⟨p, d, P, S, I, tr, wh, A, C, R, o1, o2⟩ := hJ
  obtain ⟨v, τ, υ, e1, e2, j1, -⟩ := fits_a A C R o1 o2 
  replace e1 : f_X8_fits z  σ = some (v, τ) := e1
  replace e2 : f_X10_fits (z + 195)  τ = some (v, υ) := e2
  refine v_aload_n (dq D_Lc32 0 rfl) 1 rfl ?_
  refine v_cVi (bc := bc + 11) (bs := bs + 182) (As := []) (dq D_Lc32 1 rfl) cv_X8_fits (Or.inl tw_959) (itg e1).1 (m_X8_fits e1) rfl rfl (Nat.le_of_ble_eq_true rfl) ⟨Nat.le_of_ble_eq_true rfl, Nat.le_of_ble_eq_true rfl⟩ ⟨Nat.le_refl _, Nat.le_refl _⟩ ?_
  refine v_aload_n (dq D_Lc32 2 rfl) 2 rfl ?_
  refine v_cVi (bc := bc) (bs := bs) (As := []) (dq D_Lc32 3 rfl) cv_X10_fits (Or.inl tw_1804) (itg e2).1 (m_X10_fits e2) rfl rfl (Nat.le_of_ble_eq_true rfl) ⟨Nat.le_of_ble_eq_true rfl, Nat.le_of_ble_eq_true rfl⟩ ⟨Nat.le_add_right _ _, Nat.le_add_right _ _⟩ ?_
  exact v_icmp_eq (dq D_Lc32 4 rfl) rfl (fun _ => kk υ j1) (fun h => absurd rfl h)
theorem lk_33 : Lc sa 1042 := by
  intro post z i B bc bs σ hJ hB hi hL kk
  obtain ⟨p, d, P, S, I, tr, wh, A, C, R, o1, o2⟩ := hJ
  obtain ⟨v, τ, υ, e1, e2, j1, -⟩ := fitAt_a A C R o1 o2 (sa.2.2 (nI i + 1).toNatClampNeg)
  replace e1 : f_X8_fitAt z (sa.2.2 (nI i + 1).toNatClampNeg) σ = some (v, τ) := e1
  replace e2 : f_X10_fitAt (z + 195) (sa.2.2 (nI i + 1).toNatClampNeg) τ = some (v, υ) := e2
  refine v_aload_n (dq D_Lc33 0 rfl) 1 rfl ?_
  refine v_aload_n (dq D_Lc33 1 rfl) 0 rfl ?_
  refine v_iload (dq D_Lc33 2 rfl) 4 rfl ?_
  refine v_iconst (dq D_Lc33 3 rfl) kc_1 ?_
  refine v_iadd (dq D_Lc33 4 rfl) ?_
  refine v_sld (dq D_Lc33 5 rfl) (ix_ok (k := 1) (by omega) hL) ?_
  refine v_cVi (bc := bc + 11) (bs := bs + 182) (As := [.int (sa.2.2 (nI i + 1).toNatClampNeg)]) (dq D_Lc33 6 rfl) cv_X8_fitAt (Or.inl tw_968) (itg e1).1 (m_X8_fitAt e1) rfl rfl (Nat.le_of_ble_eq_true rfl) ⟨Nat.le_of_ble_eq_true rfl, Nat.le_of_ble_eq_true rfl⟩ ⟨Nat.le_refl _, Nat.le_refl _⟩ ?_
  refine v_aload_n (dq D_Lc33 7 rfl) 2 rfl ?_
  refine v_aload_n (dq D_Lc33 8 rfl) 0 rfl ?_
  refine v_iload (dq D_Lc33 9 rfl) 4 rfl ?_
  refine v_iconst (dq D_Lc33 10 rfl) kc_1 ?_
  refine v_iadd (dq D_Lc33 11 rfl) ?_
  refine v_sld (dq D_Lc33 12 rfl) (ix_ok (k := 1) (by omega) hL) ?_
  refine v_cVi (bc := bc) (bs := bs) (As := [.int (sa.2.2 (nI i + 1).toNatClampNeg)]) (dq D_Lc33 13 rfl) cv_X10_fitAt (Or.inl tw_1816) (itg e2).1 (m_X10_fitAt e2) rfl rfl (Nat.le_of_ble_eq_true rfl) ⟨Nat.le_of_ble_eq_true rfl, Nat.le_of_ble_eq_true rfl⟩ ⟨Nat.le_add_right _ _, Nat.le_add_right _ _⟩ ?_
  exact v_icmp_eq (dq D_Lc33 14 rfl) rfl (fun _ => kk υ j1) (fun h => absurd rfl h)
theorem lk_34 : Lc sa 1067 := by
  intro post z i B bc bs σ hJ hB hi hL kk
  obtain ⟨p, d, P, S, I, tr, wh, A, C, R, o1, o2⟩ := hJ
  obtain ⟨v, τ, υ, e1, e2, j1, -⟩ := could_a A C R o1 o2 
  replace e1 : f_X8_could z  σ = some (v, τ) := e1
  replace e2 : f_X10_could (z + 195)  τ = some (v, υ) := e2
  refine v_aload_n (dq D_Lc34 0 rfl) 1 rfl ?_
  refine v_cVi (bc := bc + 11) (bs := bs + 182) (As := []) (dq D_Lc34 1 rfl) cv_X8_could (Or.inl tw_980) (itg e1).1 (m_X8_could e1) rfl rfl (Nat.le_of_ble_eq_true rfl) ⟨Nat.le_of_ble_eq_true rfl, Nat.le_of_ble_eq_true rfl⟩ ⟨Nat.le_refl _, Nat.le_refl _⟩ ?_
  refine v_aload_n (dq D_Lc34 2 rfl) 2 rfl ?_
  refine v_cVi (bc := bc) (bs := bs) (As := []) (dq D_Lc34 3 rfl) cv_X10_could (Or.inl tw_1820) (itg e2).1 (m_X10_could e2) rfl rfl (Nat.le_of_ble_eq_true rfl) ⟨Nat.le_of_ble_eq_true rfl, Nat.le_of_ble_eq_true rfl⟩ ⟨Nat.le_add_right _ _, Nat.le_add_right _ _⟩ ?_
  exact v_icmp_eq (dq D_Lc34 4 rfl) rfl (fun _ => kk υ j1) (fun h => absurd rfl h)
theorem lk_35 : Lc sa 1080 := by
  intro post z i B bc bs σ hJ hB hi hL kk
  obtain ⟨p, d, P, S, I, tr, wh, A, C, R, o1, o2⟩ := hJ
  obtain ⟨v, τ, υ, e1, e2, j1, -⟩ := surely_a A C R o1 o2 
  replace e1 : f_X8_surely z  σ = some (v, τ) := e1
  replace e2 : f_X10_surely (z + 195)  τ = some (v, υ) := e2
  refine v_aload_n (dq D_Lc35 0 rfl) 1 rfl ?_
  refine v_cVi (bc := bc + 11) (bs := bs + 182) (As := []) (dq D_Lc35 1 rfl) cv_X8_surely (Or.inl tw_988) (itg e1).1 (m_X8_surely e1) rfl rfl (Nat.le_of_ble_eq_true rfl) ⟨Nat.le_of_ble_eq_true rfl, Nat.le_of_ble_eq_true rfl⟩ ⟨Nat.le_refl _, Nat.le_refl _⟩ ?_
  refine v_aload_n (dq D_Lc35 2 rfl) 2 rfl ?_
  refine v_cVi (bc := bc) (bs := bs) (As := []) (dq D_Lc35 3 rfl) cv_X10_surely (Or.inl tw_1824) (itg e2).1 (m_X10_surely e2) rfl rfl (Nat.le_of_ble_eq_true rfl) ⟨Nat.le_of_ble_eq_true rfl, Nat.le_of_ble_eq_true rfl⟩ ⟨Nat.le_add_right _ _, Nat.le_add_right _ _⟩ ?_
  exact v_icmp_eq (dq D_Lc35 4 rfl) rfl (fun _ => kk υ j1) (fun h => absurd rfl h)
theorem lk_36 : Lc sa 1093 := by
  intro post z i B bc bs σ hJ hB hi hL kk
  obtain ⟨p, d, P, S, I, tr, wh, A, C, R, o1, o2⟩ := hJ
  obtain ⟨v, τ, υ, e1, e2, j1, -⟩ := ask_a A C R o1 o2 
  replace e1 : f_X8_ask z  σ = some (v, τ) := e1
  replace e2 : f_X10_ask (z + 195)  τ = some (v, υ) := e2
  refine v_aload_n (dq D_Lc36 0 rfl) 1 rfl ?_
  refine v_cVi (bc := bc + 11) (bs := bs + 182) (As := []) (dq D_Lc36 1 rfl) cv_X8_ask (Or.inl tw_996) (itg e1).1 (m_X8_ask e1) rfl rfl (Nat.le_of_ble_eq_true rfl) ⟨Nat.le_of_ble_eq_true rfl, Nat.le_of_ble_eq_true rfl⟩ ⟨Nat.le_refl _, Nat.le_refl _⟩ ?_
  refine v_aload_n (dq D_Lc36 2 rfl) 2 rfl ?_
  refine v_cVi (bc := bc) (bs := bs) (As := []) (dq D_Lc36 3 rfl) cv_X10_ask (Or.inl tw_1828) (itg e2).1 (m_X10_ask e2) rfl rfl (Nat.le_of_ble_eq_true rfl) ⟨Nat.le_of_ble_eq_true rfl, Nat.le_of_ble_eq_true rfl⟩ ⟨Nat.le_add_right _ _, Nat.le_add_right _ _⟩ ?_
  exact v_icmp_eq (dq D_Lc36 4 rfl) rfl (fun _ => kk υ j1) (fun h => absurd rfl h)
theorem lk_37 : Lc sa 1106 := by
  intro post z i B bc bs σ hJ hB hi hL kk
  obtain ⟨p, d, P, S, I, tr, wh, A, C, R, o1, o2⟩ := hJ
  obtain ⟨v, τ, υ, e1, e2, j1, -⟩ := askLeaves_a A C R o1 o2 
  replace e1 : f_X8_askLeaves z  σ = some (v, τ) := e1
  replace e2 : f_X10_askLeaves (z + 195)  τ = some (v, υ) := e2
  refine v_aload_n (dq D_Lc37 0 rfl) 1 rfl ?_
  refine v_cVi (bc := bc + 11) (bs := bs + 182) (As := []) (dq D_Lc37 1 rfl) cv_X8_askLeaves (Or.inl tw_1010) (itg e1).1 (m_X8_askLeaves e1) rfl rfl (Nat.le_of_ble_eq_true rfl) ⟨Nat.le_of_ble_eq_true rfl, Nat.le_of_ble_eq_true rfl⟩ ⟨Nat.le_refl _, Nat.le_refl _⟩ ?_
  refine v_aload_n (dq D_Lc37 2 rfl) 2 rfl ?_
  refine v_cVi (bc := bc) (bs := bs) (As := []) (dq D_Lc37 3 rfl) cv_X10_askLeaves (Or.inl tw_1836) (itg e2).1 (m_X10_askLeaves e2) rfl rfl (Nat.le_of_ble_eq_true rfl) ⟨Nat.le_of_ble_eq_true rfl, Nat.le_of_ble_eq_true rfl⟩ ⟨Nat.le_add_right _ _, Nat.le_add_right _ _⟩ ?_
  exact v_icmp_eq (dq D_Lc37 4 rfl) rfl (fun _ => kk υ j1) (fun h => absurd rfl h)
theorem lk_38 : Lc sa 1119 := by
  intro post z i B bc bs σ hJ hB hi hL kk
  obtain ⟨p, d, P, S, I, tr, wh, A, C, R, o1, o2⟩ := hJ
  obtain ⟨v, τ, υ, e1, e2, j1, -⟩ := judge_a A C R o1 o2 
  replace e1 : f_X8_judge z  σ = some (v, τ) := e1
  replace e2 : f_X10_judge (z + 195)  τ = some (v, υ) := e2
  refine v_aload_n (dq D_Lc38 0 rfl) 1 rfl ?_
  refine v_cVi (bc := bc + 11) (bs := bs + 182) (As := []) (dq D_Lc38 1 rfl) cv_X8_judge (Or.inl tw_1015) (itg e1).1 (m_X8_judge e1) rfl rfl (Nat.le_of_ble_eq_true rfl) ⟨Nat.le_of_ble_eq_true rfl, Nat.le_of_ble_eq_true rfl⟩ ⟨Nat.le_refl _, Nat.le_refl _⟩ ?_
  refine v_aload_n (dq D_Lc38 2 rfl) 2 rfl ?_
  refine v_cVi (bc := bc) (bs := bs) (As := []) (dq D_Lc38 3 rfl) cv_X10_judge (Or.inl tw_1840) (itg e2).1 (m_X10_judge e2) rfl rfl (Nat.le_of_ble_eq_true rfl) ⟨Nat.le_of_ble_eq_true rfl, Nat.le_of_ble_eq_true rfl⟩ ⟨Nat.le_add_right _ _, Nat.le_add_right _ _⟩ ?_
  exact v_icmp_eq (dq D_Lc38 4 rfl) rfl (fun _ => kk υ j1) (fun h => absurd rfl h)
theorem lk_39 : Lc sa 1132 := by
  intro post z i B bc bs σ hJ hB hi hL kk
  obtain ⟨p, d, P, S, I, tr, wh, A, C, R, o1, o2⟩ := hJ
  obtain ⟨v, τ, υ, e1, e2, j1, -⟩ := drawnCommits_a A C R o1 o2 (sa.2.2 (nI i + 1).toNatClampNeg) (sa.2.2 (nI i + 2).toNatClampNeg)
  replace e1 : f_X8_drawnCommits z (sa.2.2 (nI i + 1).toNatClampNeg) (sa.2.2 (nI i + 2).toNatClampNeg) σ = some (v, τ) := e1
  replace e2 : f_X10_drawnCommits (z + 195) (sa.2.2 (nI i + 1).toNatClampNeg) (sa.2.2 (nI i + 2).toNatClampNeg) τ = some (v, υ) := e2
  refine v_aload_n (dq D_Lc39 0 rfl) 1 rfl ?_
  refine v_aload_n (dq D_Lc39 1 rfl) 0 rfl ?_
  refine v_iload (dq D_Lc39 2 rfl) 4 rfl ?_
  refine v_iconst (dq D_Lc39 3 rfl) kc_1 ?_
  refine v_iadd (dq D_Lc39 4 rfl) ?_
  refine v_sld (dq D_Lc39 5 rfl) (ix_ok (k := 1) (by omega) hL) ?_
  refine v_aload_n (dq D_Lc39 6 rfl) 0 rfl ?_
  refine v_iload (dq D_Lc39 7 rfl) 4 rfl ?_
  refine v_iconst (dq D_Lc39 8 rfl) kc_2 ?_
  refine v_iadd (dq D_Lc39 9 rfl) ?_
  refine v_sld (dq D_Lc39 10 rfl) (ix_ok (k := 2) (by omega) hL) ?_
  refine v_cVi (bc := bc + 11) (bs := bs + 182) (As := [.int (sa.2.2 (nI i + 1).toNatClampNeg), .int (sa.2.2 (nI i + 2).toNatClampNeg)]) (dq D_Lc39 11 rfl) cv_X8_drawnCommits (Or.inl tw_1020) (itg e1).1 (m_X8_drawnCommits e1) rfl rfl (Nat.le_of_ble_eq_true rfl) ⟨Nat.le_of_ble_eq_true rfl, Nat.le_of_ble_eq_true rfl⟩ ⟨Nat.le_refl _, Nat.le_refl _⟩ ?_
  refine v_aload_n (dq D_Lc39 12 rfl) 2 rfl ?_
  refine v_aload_n (dq D_Lc39 13 rfl) 0 rfl ?_
  refine v_iload (dq D_Lc39 14 rfl) 4 rfl ?_
  refine v_iconst (dq D_Lc39 15 rfl) kc_1 ?_
  refine v_iadd (dq D_Lc39 16 rfl) ?_
  refine v_sld (dq D_Lc39 17 rfl) (ix_ok (k := 1) (by omega) hL) ?_
  refine v_aload_n (dq D_Lc39 18 rfl) 0 rfl ?_
  refine v_iload (dq D_Lc39 19 rfl) 4 rfl ?_
  refine v_iconst (dq D_Lc39 20 rfl) kc_2 ?_
  refine v_iadd (dq D_Lc39 21 rfl) ?_
  refine v_sld (dq D_Lc39 22 rfl) (ix_ok (k := 2) (by omega) hL) ?_
  refine v_cVi (bc := bc) (bs := bs) (As := [.int (sa.2.2 (nI i + 1).toNatClampNeg), .int (sa.2.2 (nI i + 2).toNatClampNeg)]) (dq D_Lc39 23 rfl) cv_X10_drawnCommits (Or.inl tw_1844) (itg e2).1 (m_X10_drawnCommits e2) rfl rfl (Nat.le_of_ble_eq_true rfl) ⟨Nat.le_of_ble_eq_true rfl, Nat.le_of_ble_eq_true rfl⟩ ⟨Nat.le_add_right _ _, Nat.le_add_right _ _⟩ ?_
  exact v_icmp_eq (dq D_Lc39 24 rfl) rfl (fun _ => kk υ j1) (fun h => absurd rfl h)
theorem lk_40 : Lc sa 1169 := by
  intro post z i B bc bs σ hJ hB hi hL kk
  obtain ⟨p, d, P, S, I, tr, wh, A, C, R, o1, o2⟩ := hJ
  obtain ⟨v, τ, υ, e1, e2, j1, -⟩ := drawnValue_a A C R o1 o2 (sa.2.2 (nI i + 1).toNatClampNeg) (sa.2.2 (nI i + 2).toNatClampNeg) (sa.2.2 (nI i + 3).toNatClampNeg)
  replace e1 : f_X8_drawnValue z (sa.2.2 (nI i + 1).toNatClampNeg) (sa.2.2 (nI i + 2).toNatClampNeg) (sa.2.2 (nI i + 3).toNatClampNeg) σ = some (v, τ) := e1
  replace e2 : f_X10_drawnValue (z + 195) (sa.2.2 (nI i + 1).toNatClampNeg) (sa.2.2 (nI i + 2).toNatClampNeg) (sa.2.2 (nI i + 3).toNatClampNeg) τ = some (v, υ) := e2
  refine v_aload_n (dq D_Lc40 0 rfl) 1 rfl ?_
  refine v_aload_n (dq D_Lc40 1 rfl) 0 rfl ?_
  refine v_iload (dq D_Lc40 2 rfl) 4 rfl ?_
  refine v_iconst (dq D_Lc40 3 rfl) kc_1 ?_
  refine v_iadd (dq D_Lc40 4 rfl) ?_
  refine v_sld (dq D_Lc40 5 rfl) (ix_ok (k := 1) (by omega) hL) ?_
  refine v_aload_n (dq D_Lc40 6 rfl) 0 rfl ?_
  refine v_iload (dq D_Lc40 7 rfl) 4 rfl ?_
  refine v_iconst (dq D_Lc40 8 rfl) kc_2 ?_
  refine v_iadd (dq D_Lc40 9 rfl) ?_
  refine v_sld (dq D_Lc40 10 rfl) (ix_ok (k := 2) (by omega) hL) ?_
  refine v_aload_n (dq D_Lc40 11 rfl) 0 rfl ?_
  refine v_iload (dq D_Lc40 12 rfl) 4 rfl ?_
  refine v_iconst (dq D_Lc40 13 rfl) kc_3 ?_
  refine v_iadd (dq D_Lc40 14 rfl) ?_
  refine v_sld (dq D_Lc40 15 rfl) (ix_ok (k := 3) (by omega) hL) ?_
  refine v_cVi (bc := bc + 11) (bs := bs + 182) (As := [.int (sa.2.2 (nI i + 1).toNatClampNeg), .int (sa.2.2 (nI i + 2).toNatClampNeg), .int (sa.2.2 (nI i + 3).toNatClampNeg)]) (dq D_Lc40 16 rfl) cv_X8_drawnValue (Or.inl tw_1046) (itg e1).1 (m_X8_drawnValue e1) rfl rfl (Nat.le_of_ble_eq_true rfl) ⟨Nat.le_of_ble_eq_true rfl, Nat.le_of_ble_eq_true rfl⟩ ⟨Nat.le_refl _, Nat.le_refl _⟩ ?_
  refine v_aload_n (dq D_Lc40 17 rfl) 2 rfl ?_
  refine v_aload_n (dq D_Lc40 18 rfl) 0 rfl ?_
  refine v_iload (dq D_Lc40 19 rfl) 4 rfl ?_
  refine v_iconst (dq D_Lc40 20 rfl) kc_1 ?_
  refine v_iadd (dq D_Lc40 21 rfl) ?_
  refine v_sld (dq D_Lc40 22 rfl) (ix_ok (k := 1) (by omega) hL) ?_
  refine v_aload_n (dq D_Lc40 23 rfl) 0 rfl ?_
  refine v_iload (dq D_Lc40 24 rfl) 4 rfl ?_
  refine v_iconst (dq D_Lc40 25 rfl) kc_2 ?_
  refine v_iadd (dq D_Lc40 26 rfl) ?_
  refine v_sld (dq D_Lc40 27 rfl) (ix_ok (k := 2) (by omega) hL) ?_
  refine v_aload_n (dq D_Lc40 28 rfl) 0 rfl ?_
  refine v_iload (dq D_Lc40 29 rfl) 4 rfl ?_
  refine v_iconst (dq D_Lc40 30 rfl) kc_3 ?_
  refine v_iadd (dq D_Lc40 31 rfl) ?_
  refine v_sld (dq D_Lc40 32 rfl) (ix_ok (k := 3) (by omega) hL) ?_
  refine v_cVi (bc := bc) (bs := bs) (As := [.int (sa.2.2 (nI i + 1).toNatClampNeg), .int (sa.2.2 (nI i + 2).toNatClampNeg), .int (sa.2.2 (nI i + 3).toNatClampNeg)]) (dq D_Lc40 33 rfl) cv_X10_drawnValue (Or.inl tw_1864) (itg e2).1 (m_X10_drawnValue e2) rfl rfl (Nat.le_of_ble_eq_true rfl) ⟨Nat.le_of_ble_eq_true rfl, Nat.le_of_ble_eq_true rfl⟩ ⟨Nat.le_add_right _ _, Nat.le_add_right _ _⟩ ?_
  exact v_icmp_eq (dq D_Lc40 34 rfl) rfl (fun _ => kk υ j1) (fun h => absurd rfl h)
theorem lk_41 : Lc sa 1218 := by
  intro post z i B bc bs σ hJ hB hi hL kk
  obtain ⟨p, d, P, S, I, tr, wh, A, C, R, o1, o2⟩ := hJ
  obtain ⟨v, τ, υ, e1, e2, j1, -⟩ := fetch_a A C R o1 o2 
  replace e1 : f_X8_fetch z  σ = some (v, τ) := e1
  replace e2 : f_X10_fetch (z + 195)  τ = some (v, υ) := e2
  refine v_aload_n (dq D_Lc41 0 rfl) 1 rfl ?_
  refine v_cVi (bc := bc + 11) (bs := bs + 182) (As := []) (dq D_Lc41 1 rfl) cv_X8_fetch (Or.inl tw_1050) (itg e1).1 (m_X8_fetch e1) rfl rfl (Nat.le_of_ble_eq_true rfl) ⟨Nat.le_of_ble_eq_true rfl, Nat.le_of_ble_eq_true rfl⟩ ⟨Nat.le_refl _, Nat.le_refl _⟩ ?_
  refine v_aload_n (dq D_Lc41 2 rfl) 2 rfl ?_
  refine v_cVi (bc := bc) (bs := bs) (As := []) (dq D_Lc41 3 rfl) cv_X10_fetch (Or.inl tw_1868) (itg e2).1 (m_X10_fetch e2) rfl rfl (Nat.le_of_ble_eq_true rfl) ⟨Nat.le_of_ble_eq_true rfl, Nat.le_of_ble_eq_true rfl⟩ ⟨Nat.le_add_right _ _, Nat.le_add_right _ _⟩ ?_
  exact v_icmp_eq (dq D_Lc41 4 rfl) rfl (fun _ => kk υ j1) (fun h => absurd rfl h)
theorem lk_42 : Lc sa 1231 := by
  intro post z i B bc bs σ hJ hB hi hL kk
  obtain ⟨p, d, P, S, I, tr, wh, A, C, R, o1, o2⟩ := hJ
  obtain ⟨v, τ, υ, e1, e2, j1, -⟩ := run_a A C R o1 o2 (sa.2.2 (nI i + 1).toNatClampNeg)
  replace e1 : f_X8_run z (sa.2.2 (nI i + 1).toNatClampNeg) σ = some (v, τ) := e1
  replace e2 : f_X10_run (z + 195) (sa.2.2 (nI i + 1).toNatClampNeg) τ = some (v, υ) := e2
  refine v_aload_n (dq D_Lc42 0 rfl) 1 rfl ?_
  refine v_aload_n (dq D_Lc42 1 rfl) 0 rfl ?_
  refine v_iload (dq D_Lc42 2 rfl) 4 rfl ?_
  refine v_iconst (dq D_Lc42 3 rfl) kc_1 ?_
  refine v_iadd (dq D_Lc42 4 rfl) ?_
  refine v_sld (dq D_Lc42 5 rfl) (ix_ok (k := 1) (by omega) hL) ?_
  refine v_cVi (bc := bc + 11) (bs := bs + 182) (As := [.int (sa.2.2 (nI i + 1).toNatClampNeg)]) (dq D_Lc42 6 rfl) cv_X8_run (Or.inl tw_1060) (itg e1).1 (m_X8_run e1) rfl rfl (Nat.le_of_ble_eq_true rfl) ⟨Nat.le_of_ble_eq_true rfl, Nat.le_of_ble_eq_true rfl⟩ ⟨Nat.le_refl _, Nat.le_refl _⟩ ?_
  refine v_aload_n (dq D_Lc42 7 rfl) 2 rfl ?_
  refine v_aload_n (dq D_Lc42 8 rfl) 0 rfl ?_
  refine v_iload (dq D_Lc42 9 rfl) 4 rfl ?_
  refine v_iconst (dq D_Lc42 10 rfl) kc_1 ?_
  refine v_iadd (dq D_Lc42 11 rfl) ?_
  refine v_sld (dq D_Lc42 12 rfl) (ix_ok (k := 1) (by omega) hL) ?_
  refine v_cVi (bc := bc) (bs := bs) (As := [.int (sa.2.2 (nI i + 1).toNatClampNeg)]) (dq D_Lc42 13 rfl) cv_X10_run (Or.inl tw_1880) (itg e2).1 (m_X10_run e2) rfl rfl (Nat.le_of_ble_eq_true rfl) ⟨Nat.le_of_ble_eq_true rfl, Nat.le_of_ble_eq_true rfl⟩ ⟨Nat.le_add_right _ _, Nat.le_add_right _ _⟩ ?_
  exact v_icmp_eq (dq D_Lc42 14 rfl) rfl (fun _ => kk υ j1) (fun h => absurd rfl h)
theorem lk_43 : Lc sa 1256 := by
  intro post z i B bc bs σ hJ hB hi hL kk
  obtain ⟨p, d, P, S, I, tr, wh, A, C, R, o1, o2⟩ := hJ
  obtain ⟨v, τ, υ, e1, e2, j1, -⟩ := commit_a A C R o1 o2 
  replace e1 : f_X8_commit z  σ = some (v, τ) := e1
  replace e2 : f_X10_commit (z + 195)  τ = some (v, υ) := e2
  refine v_aload_n (dq D_Lc43 0 rfl) 1 rfl ?_
  refine v_cVi (bc := bc + 11) (bs := bs + 182) (As := []) (dq D_Lc43 1 rfl) cv_X8_commit (Or.inl tw_1064) (itg e1).1 (m_X8_commit e1) rfl rfl (Nat.le_of_ble_eq_true rfl) ⟨Nat.le_of_ble_eq_true rfl, Nat.le_of_ble_eq_true rfl⟩ ⟨Nat.le_refl _, Nat.le_refl _⟩ ?_
  refine v_aload_n (dq D_Lc43 2 rfl) 2 rfl ?_
  refine v_cVi (bc := bc) (bs := bs) (As := []) (dq D_Lc43 3 rfl) cv_X10_commit (Or.inl tw_1884) (itg e2).1 (m_X10_commit e2) rfl rfl (Nat.le_of_ble_eq_true rfl) ⟨Nat.le_of_ble_eq_true rfl, Nat.le_of_ble_eq_true rfl⟩ ⟨Nat.le_add_right _ _, Nat.le_add_right _ _⟩ ?_
  exact v_icmp_eq (dq D_Lc43 4 rfl) rfl (fun _ => kk υ j1) (fun h => absurd rfl h)
theorem lk_44 : Lc sa 1269 := by
  intro post z i B bc bs σ hJ hB hi hL kk
  obtain ⟨p, d, P, S, I, tr, wh, A, C, R, o1, o2⟩ := hJ
  obtain ⟨v, τ, υ, e1, e2, j1, -⟩ := resume_a A C R o1 o2 (sa.2.2 (nI i + 1).toNatClampNeg)
  replace e1 : f_X8_resume z (sa.2.2 (nI i + 1).toNatClampNeg) σ = some (v, τ) := e1
  replace e2 : f_X10_resume (z + 195) (sa.2.2 (nI i + 1).toNatClampNeg) τ = some (v, υ) := e2
  refine v_aload_n (dq D_Lc44 0 rfl) 1 rfl ?_
  refine v_aload_n (dq D_Lc44 1 rfl) 0 rfl ?_
  refine v_iload (dq D_Lc44 2 rfl) 4 rfl ?_
  refine v_iconst (dq D_Lc44 3 rfl) kc_1 ?_
  refine v_iadd (dq D_Lc44 4 rfl) ?_
  refine v_sld (dq D_Lc44 5 rfl) (ix_ok (k := 1) (by omega) hL) ?_
  refine v_cVi (bc := bc + 11) (bs := bs + 182) (As := [.int (sa.2.2 (nI i + 1).toNatClampNeg)]) (dq D_Lc44 6 rfl) cv_X8_resume (Or.inl tw_1068) (itg e1).1 (m_X8_resume e1) rfl rfl (Nat.le_of_ble_eq_true rfl) ⟨Nat.le_of_ble_eq_true rfl, Nat.le_of_ble_eq_true rfl⟩ ⟨Nat.le_refl _, Nat.le_refl _⟩ ?_
  refine v_aload_n (dq D_Lc44 7 rfl) 2 rfl ?_
  refine v_aload_n (dq D_Lc44 8 rfl) 0 rfl ?_
  refine v_iload (dq D_Lc44 9 rfl) 4 rfl ?_
  refine v_iconst (dq D_Lc44 10 rfl) kc_1 ?_
  refine v_iadd (dq D_Lc44 11 rfl) ?_
  refine v_sld (dq D_Lc44 12 rfl) (ix_ok (k := 1) (by omega) hL) ?_
  refine v_cVi (bc := bc) (bs := bs) (As := [.int (sa.2.2 (nI i + 1).toNatClampNeg)]) (dq D_Lc44 13 rfl) cv_X10_resume (Or.inl tw_1888) (itg e2).1 (m_X10_resume e2) rfl rfl (Nat.le_of_ble_eq_true rfl) ⟨Nat.le_of_ble_eq_true rfl, Nat.le_of_ble_eq_true rfl⟩ ⟨Nat.le_add_right _ _, Nat.le_add_right _ _⟩ ?_
  exact v_icmp_eq (dq D_Lc44 14 rfl) rfl (fun _ => kk υ j1) (fun h => absurd rfl h)
theorem lk_45 : Lc sa 1294 := by
  intro post z i B bc bs σ hJ hB hi hL kk
  obtain ⟨p, d, P, S, I, tr, wh, A, C, R, o1, o2⟩ := hJ
  obtain ⟨v, τ, υ, e1, e2, j1, -⟩ := undo_a A C R o1 o2 
  replace e1 : f_X8_undo z  σ = some (v, τ) := e1
  replace e2 : f_X10_undo (z + 195)  τ = some (v, υ) := e2
  refine v_aload_n (dq D_Lc45 0 rfl) 1 rfl ?_
  refine v_cVi (bc := bc + 11) (bs := bs + 182) (As := []) (dq D_Lc45 1 rfl) cv_X8_undo (Or.inl tw_1076) (itg e1).1 (m_X8_undo e1) rfl rfl (Nat.le_of_ble_eq_true rfl) ⟨Nat.le_of_ble_eq_true rfl, Nat.le_of_ble_eq_true rfl⟩ ⟨Nat.le_refl _, Nat.le_refl _⟩ ?_
  refine v_aload_n (dq D_Lc45 2 rfl) 2 rfl ?_
  refine v_cVi (bc := bc) (bs := bs) (As := []) (dq D_Lc45 3 rfl) cv_X10_undo (Or.inl tw_1900) (itg e2).1 (m_X10_undo e2) rfl rfl (Nat.le_of_ble_eq_true rfl) ⟨Nat.le_of_ble_eq_true rfl, Nat.le_of_ble_eq_true rfl⟩ ⟨Nat.le_add_right _ _, Nat.le_add_right _ _⟩ ?_
  exact v_icmp_eq (dq D_Lc45 4 rfl) rfl (fun _ => kk υ j1) (fun h => absurd rfl h)
theorem lk_46 : Lc sa 1307 := by
  intro post z i B bc bs σ hJ hB hi hL kk
  obtain ⟨p, d, P, S, I, tr, wh, A, C, R, o1, o2⟩ := hJ
  obtain ⟨v, τ, υ, e1, e2, j1, -⟩ := image_a A C R o1 o2 
  replace e1 : f_X8_image z  σ = some (v, τ) := e1
  replace e2 : f_X10_image (z + 195)  τ = some (v, υ) := e2
  refine v_aload_n (dq D_Lc46 0 rfl) 1 rfl ?_
  refine v_cVi (bc := bc + 11) (bs := bs + 182) (As := []) (dq D_Lc46 1 rfl) cv_X8_image (Or.inl tw_1084) (itg e1).1 (m_X8_image e1) rfl rfl (Nat.le_of_ble_eq_true rfl) ⟨Nat.le_of_ble_eq_true rfl, Nat.le_of_ble_eq_true rfl⟩ ⟨Nat.le_refl _, Nat.le_refl _⟩ ?_
  refine v_aload_n (dq D_Lc46 2 rfl) 2 rfl ?_
  refine v_cVi (bc := bc) (bs := bs) (As := []) (dq D_Lc46 3 rfl) cv_X10_image (Or.inl tw_1904) (itg e2).1 (m_X10_image e2) rfl rfl (Nat.le_of_ble_eq_true rfl) ⟨Nat.le_of_ble_eq_true rfl, Nat.le_of_ble_eq_true rfl⟩ ⟨Nat.le_add_right _ _, Nat.le_add_right _ _⟩ ?_
  exact v_icmp_eq (dq D_Lc46 4 rfl) rfl (fun _ => kk υ j1) (fun h => absurd rfl h)
theorem lk_47 : Lc sa 1320 := by
  intro post z i B bc bs σ hJ hB hi hL kk
  obtain ⟨p, d, P, S, I, tr, wh, A, C, R, o1, o2⟩ := hJ
  obtain ⟨v, τ, υ, e1, e2, j1, -⟩ := back_a A C R o1 o2 (sa.2.2 (nI i + 1).toNatClampNeg)
  replace e1 : f_X8_back z (sa.2.2 (nI i + 1).toNatClampNeg) σ = some (v, τ) := e1
  replace e2 : f_X10_back (z + 195) (sa.2.2 (nI i + 1).toNatClampNeg) τ = some (v, υ) := e2
  refine v_aload_n (dq D_Lc47 0 rfl) 1 rfl ?_
  refine v_aload_n (dq D_Lc47 1 rfl) 0 rfl ?_
  refine v_iload (dq D_Lc47 2 rfl) 4 rfl ?_
  refine v_iconst (dq D_Lc47 3 rfl) kc_1 ?_
  refine v_iadd (dq D_Lc47 4 rfl) ?_
  refine v_sld (dq D_Lc47 5 rfl) (ix_ok (k := 1) (by omega) hL) ?_
  refine v_cVi (bc := bc + 11) (bs := bs + 182) (As := [.int (sa.2.2 (nI i + 1).toNatClampNeg)]) (dq D_Lc47 6 rfl) cv_X8_back (Or.inl tw_1092) (itg e1).1 (m_X8_back e1) rfl rfl (Nat.le_of_ble_eq_true rfl) ⟨Nat.le_of_ble_eq_true rfl, Nat.le_of_ble_eq_true rfl⟩ ⟨Nat.le_refl _, Nat.le_refl _⟩ ?_
  refine v_aload_n (dq D_Lc47 7 rfl) 2 rfl ?_
  refine v_aload_n (dq D_Lc47 8 rfl) 0 rfl ?_
  refine v_iload (dq D_Lc47 9 rfl) 4 rfl ?_
  refine v_iconst (dq D_Lc47 10 rfl) kc_1 ?_
  refine v_iadd (dq D_Lc47 11 rfl) ?_
  refine v_sld (dq D_Lc47 12 rfl) (ix_ok (k := 1) (by omega) hL) ?_
  refine v_cVi (bc := bc) (bs := bs) (As := [.int (sa.2.2 (nI i + 1).toNatClampNeg)]) (dq D_Lc47 13 rfl) cv_X10_back (Or.inl tw_1908) (itg e2).1 (m_X10_back e2) rfl rfl (Nat.le_of_ble_eq_true rfl) ⟨Nat.le_of_ble_eq_true rfl, Nat.le_of_ble_eq_true rfl⟩ ⟨Nat.le_add_right _ _, Nat.le_add_right _ _⟩ ?_
  exact v_icmp_eq (dq D_Lc47 14 rfl) rfl (fun _ => kk υ j1) (fun h => absurd rfl h)
theorem lk_49 : Lc sa 1401 := by
  intro post z i B bc bs σ hJ hB hi hL kk
  obtain ⟨p, d, P, S, I, tr, wh, A, C, R, o1, o2⟩ := hJ
  obtain ⟨v, τ, υ, e1, e2, j1, -⟩ := size_a A C R o1 o2 (sa.2.2 (nI i + 1).toNatClampNeg)
  replace e1 : f_X8_size z (sa.2.2 (nI i + 1).toNatClampNeg) σ = some (v, τ) := e1
  replace e2 : f_X10_size (z + 195) (sa.2.2 (nI i + 1).toNatClampNeg) τ = some (v, υ) := e2
  refine v_aload_n (dq D_Lc49 0 rfl) 1 rfl ?_
  refine v_aload_n (dq D_Lc49 1 rfl) 0 rfl ?_
  refine v_iload (dq D_Lc49 2 rfl) 4 rfl ?_
  refine v_iconst (dq D_Lc49 3 rfl) kc_1 ?_
  refine v_iadd (dq D_Lc49 4 rfl) ?_
  refine v_sld (dq D_Lc49 5 rfl) (ix_ok (k := 1) (by omega) hL) ?_
  refine v_cVi (bc := bc + 11) (bs := bs + 182) (As := [.int (sa.2.2 (nI i + 1).toNatClampNeg)]) (dq D_Lc49 6 rfl) cv_X8_size (Or.inl tw_1100) (itg e1).1 (m_X8_size e1) rfl rfl (Nat.le_of_ble_eq_true rfl) ⟨Nat.le_of_ble_eq_true rfl, Nat.le_of_ble_eq_true rfl⟩ ⟨Nat.le_refl _, Nat.le_refl _⟩ ?_
  refine v_aload_n (dq D_Lc49 7 rfl) 2 rfl ?_
  refine v_aload_n (dq D_Lc49 8 rfl) 0 rfl ?_
  refine v_iload (dq D_Lc49 9 rfl) 4 rfl ?_
  refine v_iconst (dq D_Lc49 10 rfl) kc_1 ?_
  refine v_iadd (dq D_Lc49 11 rfl) ?_
  refine v_sld (dq D_Lc49 12 rfl) (ix_ok (k := 1) (by omega) hL) ?_
  refine v_cVi (bc := bc) (bs := bs) (As := [.int (sa.2.2 (nI i + 1).toNatClampNeg)]) (dq D_Lc49 13 rfl) cv_X10_size (Or.inl tw_1916) (itg e2).1 (m_X10_size e2) rfl rfl (Nat.le_of_ble_eq_true rfl) ⟨Nat.le_of_ble_eq_true rfl, Nat.le_of_ble_eq_true rfl⟩ ⟨Nat.le_add_right _ _, Nat.le_add_right _ _⟩ ?_
  exact v_icmp_eq (dq D_Lc49 14 rfl) rfl (fun _ => kk υ j1) (fun h => absurd rfl h)
theorem lk_50 : Lc sa 1426 := by
  intro post z i B bc bs σ hJ hB hi hL kk
  obtain ⟨p, d, P, S, I, tr, wh, A, C, R, o1, o2⟩ := hJ
  obtain ⟨v, τ, υ, e1, e2, j1, -⟩ := trouble_a A C R o1 o2 
  replace e1 : f_X8_trouble z  σ = some (v, τ) := e1
  replace e2 : f_X10_trouble (z + 195)  τ = some (v, υ) := e2
  refine v_aload_n (dq D_Lc50 0 rfl) 1 rfl ?_
  refine v_cVi (bc := bc + 11) (bs := bs + 182) (As := []) (dq D_Lc50 1 rfl) cv_X8_trouble (Or.inl tw_1112) (itg e1).1 (m_X8_trouble e1) rfl rfl (Nat.le_of_ble_eq_true rfl) ⟨Nat.le_of_ble_eq_true rfl, Nat.le_of_ble_eq_true rfl⟩ ⟨Nat.le_refl _, Nat.le_refl _⟩ ?_
  refine v_aload_n (dq D_Lc50 2 rfl) 2 rfl ?_
  refine v_cVi (bc := bc) (bs := bs) (As := []) (dq D_Lc50 3 rfl) cv_X10_trouble (Or.inl tw_1924) (itg e2).1 (m_X10_trouble e2) rfl rfl (Nat.le_of_ble_eq_true rfl) ⟨Nat.le_of_ble_eq_true rfl, Nat.le_of_ble_eq_true rfl⟩ ⟨Nat.le_add_right _ _, Nat.le_add_right _ _⟩ ?_
  exact v_icmp_eq (dq D_Lc50 4 rfl) rfl (fun _ => kk υ j1) (fun h => absurd rfl h)
theorem lk_31_0 (hJ : J z B σ) (hi : i + 6 ≤ sa.2.1) (hL : sa.2.1 ≤ 3072) (hc : (sa.2.2 (nI i + 2).toNatClampNeg) = 0) (kk : ∀ υ, J z (B + 1) υ → VV sa cL_law K_law 1439 (lvL sa z i) [] υ post bc bs) : VV sa cL_law K_law 996 (lvL sa z i) [.int 0, .int (sa.2.2 (nI i + 1).toNatClampNeg), .ref z] σ post bc bs := by
  obtain ⟨p, d, P, S, I, tr, wh, A, C, R, o1, o2⟩ := hJ
  obtain ⟨v, τ, υ, e1, e2, j1, -⟩ := rate_a A C R o1 o2 (sa.2.2 (nI i + 1).toNatClampNeg) 0
  replace e1 : f_X8_rate z (sa.2.2 (nI i + 1).toNatClampNeg) 0 σ = some (v, τ) := e1
  replace e2 : f_X10_rate (z + 195) (sa.2.2 (nI i + 1).toNatClampNeg) 0 τ = some (v, υ) := e2
  refine v_cVj (bc := bc) (bs := bs) (As := [.int (sa.2.2 (nI i + 1).toNatClampNeg), .int 0]) (dq D_Lc31 15 rfl) cv_X8_rate (Or.inl tw_951) (itg e1).1 (m_X8_rate e1) rfl rfl (Nat.le_of_ble_eq_true rfl) ⟨Nat.le_of_ble_eq_true rfl, Nat.le_of_ble_eq_true rfl⟩ ⟨Nat.le_refl _, Nat.le_refl _⟩ ?_
  refine v_aload_n (dq D_Lc31 16 rfl) 2 rfl ?_
  refine v_aload_n (dq D_Lc31 17 rfl) 0 rfl ?_
  refine v_iload (dq D_Lc31 18 rfl) 4 rfl ?_
  refine v_iconst (dq D_Lc31 19 rfl) kc_1 ?_
  refine v_iadd (dq D_Lc31 20 rfl) ?_
  refine v_sld (dq D_Lc31 21 rfl) (ix_ok (k := 1) (by omega) hL) ?_
  refine v_aload_n (dq D_Lc31 22 rfl) 0 rfl ?_
  refine v_iload (dq D_Lc31 23 rfl) 4 rfl ?_
  refine v_iconst (dq D_Lc31 24 rfl) kc_2 ?_
  refine v_iadd (dq D_Lc31 25 rfl) ?_
  refine v_sld (dq D_Lc31 26 rfl) (ix_ok (k := 2) (by omega) hL) ?_
  refine v_if_eq (dq D_Lc31 27 rfl) rfl (fun _ => ?_) (fun h => absurd hc h)
  refine v_iconst (dq D_Lc31 30 rfl) kc_0 ?_
  refine v_cVj (bc := bc) (bs := bs) (As := [.int (sa.2.2 (nI i + 1).toNatClampNeg), .int 0]) (dq D_Lc31 31 rfl) cv_X10_rate (Or.inl tw_1793) (itg e2).1 (m_X10_rate e2) rfl rfl (Nat.le_of_ble_eq_true rfl) ⟨Nat.le_of_ble_eq_true rfl, Nat.le_of_ble_eq_true rfl⟩ ⟨Nat.le_refl _, Nat.le_refl _⟩ ?_
  refine v_lcmp (dq D_Lc31 32 rfl) ?_
  exact v_if_eq (dq D_Lc31 33 rfl) rfl (fun _ => kk υ j1) (fun h => absurd (lg_self v) h)
theorem lk_31_1 (hJ : J z B σ) (hi : i + 6 ≤ sa.2.1) (hL : sa.2.1 ≤ 3072) (hc : ¬ (sa.2.2 (nI i + 2).toNatClampNeg) = 0) (kk : ∀ υ, J z (B + 1) υ → VV sa cL_law K_law 1439 (lvL sa z i) [] υ post bc bs) : VV sa cL_law K_law 996 (lvL sa z i) [.int 1, .int (sa.2.2 (nI i + 1).toNatClampNeg), .ref z] σ post bc bs := by
  obtain ⟨p, d, P, S, I, tr, wh, A, C, R, o1, o2⟩ := hJ
  obtain ⟨v, τ, υ, e1, e2, j1, -⟩ := rate_a A C R o1 o2 (sa.2.2 (nI i + 1).toNatClampNeg) 1
  replace e1 : f_X8_rate z (sa.2.2 (nI i + 1).toNatClampNeg) 1 σ = some (v, τ) := e1
  replace e2 : f_X10_rate (z + 195) (sa.2.2 (nI i + 1).toNatClampNeg) 1 τ = some (v, υ) := e2
  refine v_cVj (bc := bc) (bs := bs) (As := [.int (sa.2.2 (nI i + 1).toNatClampNeg), .int 1]) (dq D_Lc31 15 rfl) cv_X8_rate (Or.inl tw_951) (itg e1).1 (m_X8_rate e1) rfl rfl (Nat.le_of_ble_eq_true rfl) ⟨Nat.le_of_ble_eq_true rfl, Nat.le_of_ble_eq_true rfl⟩ ⟨Nat.le_refl _, Nat.le_refl _⟩ ?_
  refine v_aload_n (dq D_Lc31 16 rfl) 2 rfl ?_
  refine v_aload_n (dq D_Lc31 17 rfl) 0 rfl ?_
  refine v_iload (dq D_Lc31 18 rfl) 4 rfl ?_
  refine v_iconst (dq D_Lc31 19 rfl) kc_1 ?_
  refine v_iadd (dq D_Lc31 20 rfl) ?_
  refine v_sld (dq D_Lc31 21 rfl) (ix_ok (k := 1) (by omega) hL) ?_
  refine v_aload_n (dq D_Lc31 22 rfl) 0 rfl ?_
  refine v_iload (dq D_Lc31 23 rfl) 4 rfl ?_
  refine v_iconst (dq D_Lc31 24 rfl) kc_2 ?_
  refine v_iadd (dq D_Lc31 25 rfl) ?_
  refine v_sld (dq D_Lc31 26 rfl) (ix_ok (k := 2) (by omega) hL) ?_
  refine v_if_eq (dq D_Lc31 27 rfl) rfl (fun h => absurd h hc) (fun _ => ?_)
  refine v_iconst (dq D_Lc31 28 rfl) kc_1 ?_
  refine v_goto (dq D_Lc31 29 rfl) rfl ?_
  refine v_cVj (bc := bc) (bs := bs) (As := [.int (sa.2.2 (nI i + 1).toNatClampNeg), .int 1]) (dq D_Lc31 31 rfl) cv_X10_rate (Or.inl tw_1793) (itg e2).1 (m_X10_rate e2) rfl rfl (Nat.le_of_ble_eq_true rfl) ⟨Nat.le_of_ble_eq_true rfl, Nat.le_of_ble_eq_true rfl⟩ ⟨Nat.le_refl _, Nat.le_refl _⟩ ?_
  refine v_lcmp (dq D_Lc31 32 rfl) ?_
  exact v_if_eq (dq D_Lc31 33 rfl) rfl (fun _ => kk υ j1) (fun h => absurd (lg_self v) h)
theorem lk_31 : Lc sa 975 := by
  intro post z i B bc bs σ hJ hB hi hL kk
  refine v_bud (Nat.le_add_right _ _) (Nat.le_add_right _ _) ?_
  refine v_aload_n (dq D_Lc31 0 rfl) 1 rfl ?_
  refine v_aload_n (dq D_Lc31 1 rfl) 0 rfl ?_
  refine v_iload (dq D_Lc31 2 rfl) 4 rfl ?_
  refine v_iconst (dq D_Lc31 3 rfl) kc_1 ?_
  refine v_iadd (dq D_Lc31 4 rfl) ?_
  refine v_sld (dq D_Lc31 5 rfl) (ix_ok (k := 1) (by omega) hL) ?_
  refine v_aload_n (dq D_Lc31 6 rfl) 0 rfl ?_
  refine v_iload (dq D_Lc31 7 rfl) 4 rfl ?_
  refine v_iconst (dq D_Lc31 8 rfl) kc_2 ?_
  refine v_iadd (dq D_Lc31 9 rfl) ?_
  refine v_sld (dq D_Lc31 10 rfl) (ix_ok (k := 2) (by omega) hL) ?_
  refine v_if_eq (dq D_Lc31 11 rfl) rfl (fun h => ?_) (fun h => ?_)
  · refine v_iconst (dq D_Lc31 14 rfl) kc_0 ?_
    exact lk_31_0 hJ hi hL h kk
  · refine v_iconst (dq D_Lc31 12 rfl) kc_1 ?_
    refine v_goto (dq D_Lc31 13 rfl) rfl ?_
    exact lk_31_1 hJ hi hL h kk
end LawCases
