/-! THE LAW: led's case, the switch, the loop -/
section LawLoop
variable {sa : Env3} {σ τ : St} {post : Option Value → St → Prop} {bc bs z i B p d : Nat} {P : PT} {S : SX} {I : IT} {tr wh : Int32}
theorem CJ.jk (C : CJ z p d P S I tr wh σ) (n : Nat) : CJ z p d P S I tr wh (jk σ n) := C.sm (fun r _ => ⟨rfl, rfl, rfl, rfl, rfl⟩)
theorem RJ.jk {M : Nat} (R : RJ M P S I tr wh σ) (n : Nat) : RJ M P S I tr wh (jk σ n) := ⟨R.1.mv (by show hZ σ ≤ hZ σ + n; omega) (fun r _ _ _ _ _ _ _ => ⟨rfl, rfl, rfl, rfl, rfl⟩) (fun r _ => ⟨rfl, rfl, rfl⟩) (fun q _ => rfl) R.1.2.2.2.2.1, R.2⟩
theorem sL_sm {a k r : Nat} {v : Int64} (h : r ≠ a) : Sm σ (sL σ a k v) r := ⟨rfl, rfl, rfl, rfl, by
  funext j
  show (if r = a ∧ j = k then v else hL σ r j) = hL σ r j
  rw [if_neg (fun q => h q.1)]⟩
theorem CJ.sL (C : CJ z p d P S I tr wh σ) (v : Int64) : CJ z p d P S I tr wh (sL σ (z + 203) 0 v) := C.sm (fun r hr => sL_sm (by have := hr.2; omega))
theorem RJ.sL (R : RJ (z + 195) P S I tr wh σ) (v : Int64) : RJ (z + 195) P S I tr wh (sL σ (z + 203) 0 v) := ⟨R.1.mv (Nat.le_refl _) (fun r _ _ _ _ _ _ h => sL_sm (by omega)) (fun r _ => ⟨rfl, rfl, rfl⟩) (fun q _ => rfl) R.1.2.2.2.2.1, R.2⟩
theorem lg_eq {x y : Int64} (h : x = y) : lg_cmp x y = 0 := by rw [h]; exact lg_self y
theorem lc48_t {k i1 : Int32} (h1 : sa.2.2 (nI i + 1).toNatClampNeg = i1) (A : AW P S I B) (C : CJ z p d P S I tr wh τ) (R : RJ (z + 195) P S I tr wh τ) (o1 : hT τ (z + 203) = 24) (o2 : hN τ (z + 203) = 1) (hi : i + 6 ≤ sa.2.1) (hL9 : sa.2.1 ≤ 3072) (hk : (k = 0 ∧ ∃ t, ldE P S i1 = some t ∧ hL τ (z + 203) 0 = (nI t).toInt64) ∨ (k = 1 ∧ ldE P S i1 = none)) (kk : ∀ υ, J z (B + 1) υ → VV sa cL_law K_law 1439 (lvL sa z i) [] υ post bc bs) : VV sa cL_law K_law 1356 (lvL sa z i) [.int k] τ post bc bs := by
  obtain ⟨υ, u1, u2, u3, u4⟩ := led_r A R i1
  have so : Sm τ υ (z + 203) := u3.2 _ (fun h => by have := h.2; omega)
  have j1 : J z (B + 1) υ := ⟨p, d, P, S, I, tr, wh, A.up (by omega), C.sm (fun r hr => u3.2 r (fun h => by have := h.1; have := hr.2; omega)), u2, by rw [so.1]; exact o1, by rw [so.2.1]; exact o2⟩
  have e3 : f_X10_thrown (z + 195) υ = some (hI υ (z + 195) 0, υ) := by
    unfold f_X10_thrown f_X10_thrown_0
    rw [if_pos u2.1.t, gI_k u2.1.t, osb]
  have hth : hI υ (z + 195) 0 = k := by
    rw [u4]
    rcases hk with ⟨rfl, t, ht, -⟩ | ⟨rfl, ht⟩ <;> rw [ht]
  obtain ⟨w, u1, hw⟩ : ∃ w, f_X10_led (z + 195) i1 τ = some (w, υ) ∧ ∀ t, ldE P S i1 = some t → w = nI t := ⟨_, u1, fun t ht => by rw [ht]⟩
  have k98 : VV sa cL_law K_law 1398 [(6, .int w), (5, .int k), (0, .ref (sa.1 1000)), (1, .ref z), (2, .ref (z + 195)), (3, .ref (z + 203)), (4, .int (nI i))] [] υ post bc bs := by
    refine v_goto (dq D_Lc48 34 rfl) rfl ?_
    exact v_sub [2, 3, 4, 5, 6] rfl (kk υ j1)
  refine v_istore (dq D_Lc48 8 rfl) [(5, .int k), (0, .ref (sa.1 1000)), (1, .ref z), (2, .ref (z + 195)), (3, .ref (z + 203)), (4, .int (nI i))] (by decide) rfl ?_
  refine v_aload_n (dq D_Lc48 9 rfl) 3 rfl ?_
  refine v_aload_n (dq D_Lc48 10 rfl) 1 rfl ?_
  refine v_iload (dq D_Lc48 11 rfl) 5 rfl ?_
  refine v_iconst (dq D_Lc48 12 rfl) kc_1 ?_
  refine v_iadd (dq D_Lc48 13 rfl) ?_
  refine v_sld (dq D_Lc48 14 rfl) (ix_ok (k := 1) (by omega) hL9) ?_
  rw [h1]
  refine v_cVi (bc := bc) (bs := bs) (As := [.int i1]) (dq D_Lc48 15 rfl) cv_X10_led (Or.inl tw_1912) (itg u1).1 (m_X10_led u1) rfl rfl (Nat.le_of_ble_eq_true rfl) ⟨Nat.le_of_ble_eq_true rfl, Nat.le_of_ble_eq_true rfl⟩ ⟨Nat.le_refl _, Nat.le_refl _⟩ ?_
  refine v_istore (dq D_Lc48 16 rfl) [(6, .int w), (5, .int k), (0, .ref (sa.1 1000)), (1, .ref z), (2, .ref (z + 195)), (3, .ref (z + 203)), (4, .int (nI i))] (by decide) rfl ?_
  refine v_aload_n (dq D_Lc48 17 rfl) 4 rfl ?_
  refine v_cVi (bc := bc) (bs := bs) (As := []) (dq D_Lc48 18 rfl) cv_X10_thrown (Or.inl tw_1310) (itg e3).1 (m_X10_thrown e3) rfl rfl (Nat.le_of_ble_eq_true rfl) ⟨Nat.le_of_ble_eq_true rfl, Nat.le_of_ble_eq_true rfl⟩ ⟨Nat.le_refl _, Nat.le_refl _⟩ ?_
  refine v_iload (dq D_Lc48 19 rfl) 1 rfl ?_
  refine v_icmp_eq (dq D_Lc48 20 rfl) rfl (fun _ => ?_) (fun h => absurd hth h)
  refine v_iload (dq D_Lc48 23 rfl) 1 rfl ?_
  refine v_if_ne (dq D_Lc48 24 rfl) rfl (fun _ => k98) (fun h0 => ?_)
  refine v_aload_n (dq D_Lc48 25 rfl) 5 rfl ?_
  refine v_iconst (dq D_Lc48 26 rfl) kc_0 ?_
  refine v_lald (dq D_Lc48 27 rfl) ⟨by rw [so.1]; exact o1, by rw [so.2.1, o2]; rfl⟩ ?_
  refine v_iload (dq D_Lc48 28 rfl) 0 rfl ?_
  refine v_i2l (dq D_Lc48 29 rfl) ?_
  refine v_lcmp (dq D_Lc48 30 rfl) ?_
  refine v_if_eq (dq D_Lc48 31 rfl) rfl (fun _ => k98) (fun h => absurd (lg_eq ?_) h)
  rcases hk with ⟨-, t, ht, e⟩ | ⟨h9, -⟩
  · show hL υ (z + 203) 0 = w.toInt64
    rw [so.2.2.2.2, e, hw t ht]
  · rw [h9] at h0; exact absurd h0 (by decide)
theorem fx_neg {f : Nat → Bool} {v : Int32} {n : Nat} (h : v < 0) (hn : n ≤ 100) : fxE f v n = none := by
  unfold fxE
  cases e : fstN (fun m => f m && decide (nI (cntN f m) = v)) n with
  | none => rfl
  | some j =>
    obtain ⟨e1, e2, -⟩ := fstN_some e
    simp only [Bool.and_eq_true, decide_eq_true_eq] at e2
    have := cntN_le (p := f) j
    rw [← e2.2] at h
    exact absurd h (nI_pos (by omega))
theorem lk_48 : Lc sa 1345 := by
  intro post z i B bc bs σ hJ hB hi hL9 kk
  obtain ⟨p, d, P, S, I, tr, wh, A, C, R, o1, o2⟩ := hJ
  generalize h1 : sa.2.2 (nI i + 1).toNatClampNeg = i1
  refine v_bud (bc2 := bc + 1) (bs2 := bs + 6) (by omega) (by omega) ?_
  refine v_aload_n (dq D_Lc48 0 rfl) 1 rfl ?_
  refine v_aload_n (dq D_Lc48 1 rfl) 0 rfl ?_
  refine v_iload (dq D_Lc48 2 rfl) 4 rfl ?_
  refine v_iconst (dq D_Lc48 3 rfl) kc_1 ?_
  refine v_iadd (dq D_Lc48 4 rfl) ?_
  refine v_sld (dq D_Lc48 5 rfl) (ix_ok (k := 1) (by omega) hL9) ?_
  rw [h1]
  refine v_aload_n (dq D_Lc48 6 rfl) 3 rfl ?_
  have zt := C.1.zt
  have tol : hI σ z 2 = b2i P.1 := C.1.2.2.2.2.1.1.2.1
  have c18 : Cond.codeWith yL_led cL_led K_L_led.1 (kR K_L_led) hhL ∈ GW := (gw_m (tb_5 (List.mem_of_getElem? (i := 158) rfl)) rfl)
  cases hE : ldE P S i1 with
  | none =>
    have hX : VX sa cX8_led K_X8_led 0 [(0, .ref z), (1, .int i1)] [] σ 1 6 := by
      refine x_led zt ?_
      cases hP : P.1 with
      | false => exact Or.inl (by rw [tol, hP]; rfl)
      | true =>
        by_cases hn : i1 < 0
        · exact Or.inr (Or.inl hn)
        · refine Or.inr (Or.inr ⟨z + 30, C.1.1.2.2.2.2.2.1, (C.1.mq hP).1.1, ?_⟩)
          have e := nd_c (C.1.mq hP) hn
          unfold ldE at hE
          rw [if_pos hP] at hE
          rw [hE] at e
          exact e
    refine v_callSW (As := [.ref z, .int i1, .ref (z + 203)]) (rest := []) (n := 3) (dq D_Lc48 7 rfl) c18 tw_0 ⟨by decide, by decide, by decide +kernel⟩ tw_1116 tw_1117 (ll_thr zt hX) rfl rfl (Nat.le_of_ble_eq_true rfl) ⟨Nat.le_of_ble_eq_true rfl, Nat.le_of_ble_eq_true rfl⟩ (fun v σ1 h => ?_)
    obtain ⟨rfl, n, rfl⟩ := h
    exact lc48_t h1 A (C.jk n) (R.jk n) o1 o2 hi hL9 (Or.inr ⟨rfl, hE⟩) kk
  | some t =>
    have hP : P.1 = true := by
      unfold ldE at hE
      cases hP : P.1 with
      | true => rfl
      | false => rw [hP] at hE; exact absurd hE (by simp)
    unfold ldE at hE
    rw [if_pos hP] at hE
    have D := C.1.mq hP
    have hb : nN S.1 ≤ 12 := D.2.2.2.2.2.2.1
    have hn : ¬ i1 < 0 := fun h => by
      rw [fx_neg h (by omega)] at hE; cases hE
    have e := nd_c D hn
    rw [hE] at e
    have ht : t < nN S.1 := (fstN_some hE).1
    have htb : t < 2 ^ 31 := by omega
    have hE' := v_led (sa := sa) zt (by rw [tol, hP]; decide) hn C.1.1.2.2.2.2.2.1 D.1.1 e (nI_pos' htb)
    have hld : ldE P S i1 = some t := by unfold ldE; rw [if_pos hP]; exact hE
    refine v_callSW (As := [.ref z, .int i1, .ref (z + 203)]) (rest := []) (n := 3) (dq D_Lc48 7 rfl) c18 tw_0 ⟨by decide, by decide, by decide +kernel⟩ tw_1116 tw_1117 (ll_ok zt o1 o2 hE') rfl rfl (Nat.le_of_ble_eq_true rfl) ⟨Nat.le_of_ble_eq_true rfl, Nat.le_of_ble_eq_true rfl⟩ (fun v σ1 h => ?_)
    obtain ⟨rfl, rfl⟩ := h
    exact lc48_t h1 A (C.sL _) (R.sL _) o1 o2 hi hL9 (Or.inl ⟨rfl, t, hld, if_pos ⟨rfl, rfl⟩⟩) kk
theorem and63 (y : Int32) : ∃ k, k < 64 ∧ y &&& 63 = nI k := by
  refine ⟨(y &&& 63).toBitVec.toNat, ?_, ?_⟩
  · have : (y &&& 63).toBitVec.toNat = y.toBitVec.toNat &&& 63 := by
      rw [Int32.toBitVec_and, BitVec.toNat_and]; rfl
    rw [this]
    exact Nat.lt_succ_of_le Nat.and_le_right
  · apply Int32.toBitVec_inj.mp
    show (y &&& 63).toBitVec = BitVec.ofNat 32 _
    rw [BitVec.ofNat_toNat, BitVec.setWidth_eq]
def swO : Array Int := #[220, 293, 318, 331, 344, 357, 370, 407, 432, 445, 470, 495, 520, 533, 570, 583, 596, 609, 646, 659, 672, 685, 698, 735, 772, 797, 810, 835, 860, 885, 910, 935, 989, 1002, 1027, 1040, 1053, 1066, 1079, 1092, 1129, 1178, 1191, 1216, 1229, 1254, 1267, 1280, 1305, 1361, 1386]
theorem sw_d : dcd cL_law 40 (.tableswitch 1399 0 50 swO) 220 260 := dq D_Lsw 0 rfl
theorem lw_sw {k : Nat} (hk : k < 64) {x : Int32} (hx : x = nI k) (hJ : J z B σ) (hB : B ≤ 100000) (hi : i + 6 ≤ sa.2.1) (hL9 : sa.2.1 ≤ 3072) (kk : ∀ υ, J z (B + 1) υ → VV sa cL_law K_law 1439 (lvL sa z i) [] υ post bc bs) : VV sa cL_law K_law 40 (lvL sa z i) [.int x] σ post (bc + 11) (bs + 182) := by
  by_cases h51 : 51 ≤ k
  · refine v_tblOut sw_d (Or.inr ?_) rfl (v_bud (by omega) (by omega) (kk σ ?_))
    · rw [hx, nI_toInt (by omega)]; omega
    · obtain ⟨p, d, P, S, I, tr, wh, A, q⟩ := hJ
      exact ⟨p, d, P, S, I, tr, wh, A.up (by omega), q⟩
  by_cases h0 : k = 0
  · subst h0; exact v_tblAt (v := nI 0) sw_d hx (by decide) (by decide) (off := 220) (tgt := 260) rfl rfl (lk_0 post z i B bc bs σ hJ hB hi hL9 kk)
  by_cases h1 : k = 1
  · subst h1; exact v_tblAt (v := nI 1) sw_d hx (by decide) (by decide) (off := 293) (tgt := 333) rfl rfl (lk_1 post z i B bc bs σ hJ hB hi hL9 kk)
  by_cases h2 : k = 2
  · subst h2; exact v_tblAt (v := nI 2) sw_d hx (by decide) (by decide) (off := 318) (tgt := 358) rfl rfl (lk_2 post z i B bc bs σ hJ hB hi hL9 kk)
  by_cases h3 : k = 3
  · subst h3; exact v_tblAt (v := nI 3) sw_d hx (by decide) (by decide) (off := 331) (tgt := 371) rfl rfl (lk_3 post z i B bc bs σ hJ hB hi hL9 kk)
  by_cases h4 : k = 4
  · subst h4; exact v_tblAt (v := nI 4) sw_d hx (by decide) (by decide) (off := 344) (tgt := 384) rfl rfl (lk_4 post z i B bc bs σ hJ hB hi hL9 kk)
  by_cases h5 : k = 5
  · subst h5; exact v_tblAt (v := nI 5) sw_d hx (by decide) (by decide) (off := 357) (tgt := 397) rfl rfl (lk_5 post z i B bc bs σ hJ hB hi hL9 kk)
  by_cases h6 : k = 6
  · subst h6; exact v_tblAt (v := nI 6) sw_d hx (by decide) (by decide) (off := 370) (tgt := 410) rfl rfl (lk_6 post z i B bc bs σ hJ hB hi hL9 kk)
  by_cases h7 : k = 7
  · subst h7; exact v_tblAt (v := nI 7) sw_d hx (by decide) (by decide) (off := 407) (tgt := 447) rfl rfl (lk_7 post z i B bc bs σ hJ hB hi hL9 kk)
  by_cases h8 : k = 8
  · subst h8; exact v_tblAt (v := nI 8) sw_d hx (by decide) (by decide) (off := 432) (tgt := 472) rfl rfl (lk_8 post z i B bc bs σ hJ hB hi hL9 kk)
  by_cases h9 : k = 9
  · subst h9; exact v_tblAt (v := nI 9) sw_d hx (by decide) (by decide) (off := 445) (tgt := 485) rfl rfl (lk_9 post z i B bc bs σ hJ hB hi hL9 kk)
  by_cases h10 : k = 10
  · subst h10; exact v_tblAt (v := nI 10) sw_d hx (by decide) (by decide) (off := 470) (tgt := 510) rfl rfl (lk_10 post z i B bc bs σ hJ hB hi hL9 kk)
  by_cases h11 : k = 11
  · subst h11; exact v_tblAt (v := nI 11) sw_d hx (by decide) (by decide) (off := 495) (tgt := 535) rfl rfl (lk_11 post z i B bc bs σ hJ hB hi hL9 kk)
  by_cases h12 : k = 12
  · subst h12; exact v_tblAt (v := nI 12) sw_d hx (by decide) (by decide) (off := 520) (tgt := 560) rfl rfl (lk_12 post z i B bc bs σ hJ hB hi hL9 kk)
  by_cases h13 : k = 13
  · subst h13; exact v_tblAt (v := nI 13) sw_d hx (by decide) (by decide) (off := 533) (tgt := 573) rfl rfl (lk_13 post z i B bc bs σ hJ hB hi hL9 kk)
  by_cases h14 : k = 14
  · subst h14; exact v_tblAt (v := nI 14) sw_d hx (by decide) (by decide) (off := 570) (tgt := 610) rfl rfl (lk_14 post z i B bc bs σ hJ hB hi hL9 kk)
  by_cases h15 : k = 15
  · subst h15; exact v_tblAt (v := nI 15) sw_d hx (by decide) (by decide) (off := 583) (tgt := 623) rfl rfl (lk_15 post z i B bc bs σ hJ hB hi hL9 kk)
  by_cases h16 : k = 16
  · subst h16; exact v_tblAt (v := nI 16) sw_d hx (by decide) (by decide) (off := 596) (tgt := 636) rfl rfl (lk_16 post z i B bc bs σ hJ hB hi hL9 kk)
  by_cases h17 : k = 17
  · subst h17; exact v_tblAt (v := nI 17) sw_d hx (by decide) (by decide) (off := 609) (tgt := 649) rfl rfl (lk_17 post z i B bc bs σ hJ hB hi hL9 kk)
  by_cases h18 : k = 18
  · subst h18; exact v_tblAt (v := nI 18) sw_d hx (by decide) (by decide) (off := 646) (tgt := 686) rfl rfl (lk_18 post z i B bc bs σ hJ hB hi hL9 kk)
  by_cases h19 : k = 19
  · subst h19; exact v_tblAt (v := nI 19) sw_d hx (by decide) (by decide) (off := 659) (tgt := 699) rfl rfl (lk_19 post z i B bc bs σ hJ hB hi hL9 kk)
  by_cases h20 : k = 20
  · subst h20; exact v_tblAt (v := nI 20) sw_d hx (by decide) (by decide) (off := 672) (tgt := 712) rfl rfl (lk_20 post z i B bc bs σ hJ hB hi hL9 kk)
  by_cases h21 : k = 21
  · subst h21; exact v_tblAt (v := nI 21) sw_d hx (by decide) (by decide) (off := 685) (tgt := 725) rfl rfl (lk_21 post z i B bc bs σ hJ hB hi hL9 kk)
  by_cases h22 : k = 22
  · subst h22; exact v_tblAt (v := nI 22) sw_d hx (by decide) (by decide) (off := 698) (tgt := 738) rfl rfl (lk_22 post z i B bc bs σ hJ hB hi hL9 kk)
  by_cases h23 : k = 23
  · subst h23; exact v_tblAt (v := nI 23) sw_d hx (by decide) (by decide) (off := 735) (tgt := 775) rfl rfl (lk_23 post z i B bc bs σ hJ hB hi hL9 kk)
  by_cases h24 : k = 24
  · subst h24; exact v_tblAt (v := nI 24) sw_d hx (by decide) (by decide) (off := 772) (tgt := 812) rfl rfl (lk_24 post z i B bc bs σ hJ hB hi hL9 kk)
  by_cases h25 : k = 25
  · subst h25; exact v_tblAt (v := nI 25) sw_d hx (by decide) (by decide) (off := 797) (tgt := 837) rfl rfl (lk_25 post z i B bc bs σ hJ hB hi hL9 kk)
  by_cases h26 : k = 26
  · subst h26; exact v_tblAt (v := nI 26) sw_d hx (by decide) (by decide) (off := 810) (tgt := 850) rfl rfl (lk_26 post z i B bc bs σ hJ hB hi hL9 kk)
  by_cases h27 : k = 27
  · subst h27; exact v_tblAt (v := nI 27) sw_d hx (by decide) (by decide) (off := 835) (tgt := 875) rfl rfl (lk_27 post z i B bc bs σ hJ hB hi hL9 kk)
  by_cases h28 : k = 28
  · subst h28; exact v_tblAt (v := nI 28) sw_d hx (by decide) (by decide) (off := 860) (tgt := 900) rfl rfl (lk_28 post z i B bc bs σ hJ hB hi hL9 kk)
  by_cases h29 : k = 29
  · subst h29; exact v_tblAt (v := nI 29) sw_d hx (by decide) (by decide) (off := 885) (tgt := 925) rfl rfl (lk_29 post z i B bc bs σ hJ hB hi hL9 kk)
  by_cases h30 : k = 30
  · subst h30; exact v_tblAt (v := nI 30) sw_d hx (by decide) (by decide) (off := 910) (tgt := 950) rfl rfl (lk_30 post z i B bc bs σ hJ hB hi hL9 kk)
  by_cases h31 : k = 31
  · subst h31; exact v_tblAt (v := nI 31) sw_d hx (by decide) (by decide) (off := 935) (tgt := 975) rfl rfl (lk_31 post z i B bc bs σ hJ hB hi hL9 kk)
  by_cases h32 : k = 32
  · subst h32; exact v_tblAt (v := nI 32) sw_d hx (by decide) (by decide) (off := 989) (tgt := 1029) rfl rfl (lk_32 post z i B bc bs σ hJ hB hi hL9 kk)
  by_cases h33 : k = 33
  · subst h33; exact v_tblAt (v := nI 33) sw_d hx (by decide) (by decide) (off := 1002) (tgt := 1042) rfl rfl (lk_33 post z i B bc bs σ hJ hB hi hL9 kk)
  by_cases h34 : k = 34
  · subst h34; exact v_tblAt (v := nI 34) sw_d hx (by decide) (by decide) (off := 1027) (tgt := 1067) rfl rfl (lk_34 post z i B bc bs σ hJ hB hi hL9 kk)
  by_cases h35 : k = 35
  · subst h35; exact v_tblAt (v := nI 35) sw_d hx (by decide) (by decide) (off := 1040) (tgt := 1080) rfl rfl (lk_35 post z i B bc bs σ hJ hB hi hL9 kk)
  by_cases h36 : k = 36
  · subst h36; exact v_tblAt (v := nI 36) sw_d hx (by decide) (by decide) (off := 1053) (tgt := 1093) rfl rfl (lk_36 post z i B bc bs σ hJ hB hi hL9 kk)
  by_cases h37 : k = 37
  · subst h37; exact v_tblAt (v := nI 37) sw_d hx (by decide) (by decide) (off := 1066) (tgt := 1106) rfl rfl (lk_37 post z i B bc bs σ hJ hB hi hL9 kk)
  by_cases h38 : k = 38
  · subst h38; exact v_tblAt (v := nI 38) sw_d hx (by decide) (by decide) (off := 1079) (tgt := 1119) rfl rfl (lk_38 post z i B bc bs σ hJ hB hi hL9 kk)
  by_cases h39 : k = 39
  · subst h39; exact v_tblAt (v := nI 39) sw_d hx (by decide) (by decide) (off := 1092) (tgt := 1132) rfl rfl (lk_39 post z i B bc bs σ hJ hB hi hL9 kk)
  by_cases h40 : k = 40
  · subst h40; exact v_tblAt (v := nI 40) sw_d hx (by decide) (by decide) (off := 1129) (tgt := 1169) rfl rfl (lk_40 post z i B bc bs σ hJ hB hi hL9 kk)
  by_cases h41 : k = 41
  · subst h41; exact v_tblAt (v := nI 41) sw_d hx (by decide) (by decide) (off := 1178) (tgt := 1218) rfl rfl (lk_41 post z i B bc bs σ hJ hB hi hL9 kk)
  by_cases h42 : k = 42
  · subst h42; exact v_tblAt (v := nI 42) sw_d hx (by decide) (by decide) (off := 1191) (tgt := 1231) rfl rfl (lk_42 post z i B bc bs σ hJ hB hi hL9 kk)
  by_cases h43 : k = 43
  · subst h43; exact v_tblAt (v := nI 43) sw_d hx (by decide) (by decide) (off := 1216) (tgt := 1256) rfl rfl (lk_43 post z i B bc bs σ hJ hB hi hL9 kk)
  by_cases h44 : k = 44
  · subst h44; exact v_tblAt (v := nI 44) sw_d hx (by decide) (by decide) (off := 1229) (tgt := 1269) rfl rfl (lk_44 post z i B bc bs σ hJ hB hi hL9 kk)
  by_cases h45 : k = 45
  · subst h45; exact v_tblAt (v := nI 45) sw_d hx (by decide) (by decide) (off := 1254) (tgt := 1294) rfl rfl (lk_45 post z i B bc bs σ hJ hB hi hL9 kk)
  by_cases h46 : k = 46
  · subst h46; exact v_tblAt (v := nI 46) sw_d hx (by decide) (by decide) (off := 1267) (tgt := 1307) rfl rfl (lk_46 post z i B bc bs σ hJ hB hi hL9 kk)
  by_cases h47 : k = 47
  · subst h47; exact v_tblAt (v := nI 47) sw_d hx (by decide) (by decide) (off := 1280) (tgt := 1320) rfl rfl (lk_47 post z i B bc bs σ hJ hB hi hL9 kk)
  by_cases h48 : k = 48
  · subst h48; exact v_tblAt (v := nI 48) sw_d hx (by decide) (by decide) (off := 1305) (tgt := 1345) rfl rfl (lk_48 post z i B bc bs σ hJ hB hi hL9 kk)
  by_cases h49 : k = 49
  · subst h49; exact v_tblAt (v := nI 49) sw_d hx (by decide) (by decide) (off := 1361) (tgt := 1401) rfl rfl (lk_49 post z i B bc bs σ hJ hB hi hL9 kk)
  by_cases h50 : k = 50
  · subst h50; exact v_tblAt (v := nI 50) sw_d hx (by decide) (by decide) (off := 1386) (tgt := 1426) rfl rfl (lk_50 post z i B bc bs σ hJ hB hi hL9 kk)
  omega
theorem sub6 {L : Nat} (hL9 : L ≤ 3072) (hi : i ≤ 4000) : (nI L - 6 < nI i) ↔ L < i + 6 := by
  have e : (nI L - 6).toInt = (L : Int) - 6 := by
    rw [Int32.toInt_sub, nI_toInt (by omega), show (6 : Int32).toInt = 6 from rfl]
    exact Int.bmod_eq_of_le (by omega) (by omega)
  rw [Int32.lt_iff_toInt_lt, e, nI_toInt (by omega)]
  omega
theorem lw_end : VV sa cL_law K_law 1445 (lvL sa z i) [] σ (fun v _ => v = some (.int 1)) bc bs := by
  refine v_iconst (dq D_Lz 2 rfl) kc_1 ?_
  exact v_zret (dq D_Lz 3 rfl) rfl rfl rfl
/-- the loop: r rounds at most are left -/
theorem lw_loop (hL9 : sa.2.1 ≤ 3072) : ∀ (r i B : Nat) (σ : St), J z B σ → B + r ≤ 100000 → i ≤ 3078 → sa.2.1 < i + 6 * r + 6 → VV sa cL_law K_law 23 (lvL sa z i) [] σ (fun v _ => v = some (.int 1)) (11 * r) (182 * r)
  | r, i, B, σ, hJ, hB, hi, hr => by
    refine v_iload (dq D_La 13 rfl) 4 rfl ?_
    refine v_aload_n (dq D_La 14 rfl) 0 rfl ?_
    refine v_slen0 (dq D_La 15 rfl) ?_
    refine v_bipush (dq D_La 16 rfl) kb_6 ?_
    refine v_isub (dq D_La 17 rfl) ?_
    refine v_icmp_gt (dq D_La 18 rfl) rfl (fun _ => lw_end) (fun h => ?_)
    have h6 : i + 6 ≤ sa.2.1 := Nat.le_of_not_lt (fun q => h ((sub6 hL9 (by omega)).mpr q))
    match r, hB, hr with
    | 0, _, hr => omega
    | r + 1, hB, hr =>
      refine v_aload_n (dq D_La 19 rfl) 0 rfl ?_
      refine v_iload (dq D_La 20 rfl) 4 rfl ?_
      refine v_sld (dq D_La 21 rfl) ?_ ?_
      · unfold ixo
        rw [nI_clamp (by omega), decide_eq_true (nI_pos' (by omega)), decide_eq_true (show i < sa.2.1 by omega)]
        rfl
      refine v_bipush (dq D_La 22 rfl) (by decide : (Int8.ofInt 63).toInt32 = 63) ?_
      refine v_iand (dq D_La 23 rfl) ?_
      obtain ⟨k, hk, e⟩ := and63 (sa.2.2 (nI i).toNatClampNeg)
      refine lw_sw hk e hJ (by omega) h6 hL9 (fun υ j1 => ?_)
      refine v_iinc (dq D_Lz 0 rfl) 4 [(4, .int (nI i + 6)), (0, .ref (sa.1 1000)), (1, .ref z), (2, .ref (z + 195)), (3, .ref (z + 203))] rfl (by decide) (by decide) rfl ?_
      refine v_goto (dq D_Lz 1 rfl) rfl ?_
      refine v_sub [1, 2, 3, 4, 0] rfl ?_
      rw [show nI i + 6 = nI (i + 6) from nI_add i 6]
      exact lw_loop hL9 r (i + 6) (B + 1) υ j1 (by omega) (by omega) (by omega)
/-- from the entry -/
theorem lw_go (hL9 : sa.2.1 ≤ 3072) (σ : St) : VV sa cL_law K_law 0 [(0, .ref (sa.1 1000))] [] σ (fun v _ => v = some (.int 1)) 601024 7293034 := by
  obtain ⟨τ, υ, t1, t2, u1, u2, hJ, -⟩ := J_start σ
  refine v_new (bc := 601023) (bs := 7293021) (dq D_La 0 rfl) cc8 tw_24 ⟨Nat.le_of_ble_eq_true rfl, Nat.le_of_ble_eq_true rfl⟩ rfl ?_
  refine v_dup (dq D_La 1 rfl) rfl ?_
  refine v_cIv (bc := 600829) (bs := 7286734) (As := []) (dq D_La 2 rfl) ci_X8_init (Or.inl tw_26) (m_X8_init t1) rfl rfl (Nat.le_of_ble_eq_true rfl) ⟨Nat.le_of_ble_eq_true rfl, Nat.le_of_ble_eq_true rfl⟩ ⟨Nat.le_of_ble_eq_true rfl, Nat.le_of_ble_eq_true rfl⟩ ?_
  refine v_astore_n (dq D_La 3 rfl) [(1, .ref (hZ σ)), (0, .ref (sa.1 1000))] rfl (by decide) rfl ?_
  refine v_new (bc := 600828) (bs := 7286696) (dq D_La 4 rfl) cc10 tw_1189 ⟨Nat.le_of_ble_eq_true rfl, Nat.le_of_ble_eq_true rfl⟩ rfl ?_
  refine v_dup (dq D_La 5 rfl) rfl ?_
  rw [t2]
  refine v_cIv (bc := 600821) (bs := 7281689) (As := []) (dq D_La 6 rfl) ci_X10_init (Or.inl tw_1191) (m_X10_init u1) rfl rfl (Nat.le_of_ble_eq_true rfl) ⟨Nat.le_of_ble_eq_true rfl, Nat.le_of_ble_eq_true rfl⟩ ⟨Nat.le_of_ble_eq_true rfl, Nat.le_of_ble_eq_true rfl⟩ ?_
  refine v_astore_n (dq D_La 7 rfl) [(2, .ref (hZ σ + 195)), (1, .ref (hZ σ)), (0, .ref (sa.1 1000))] rfl (by decide) rfl ?_
  refine v_iconst (dq D_La 8 rfl) kc_1 ?_
  refine v_newl (N := 1) (bc := 600820) (bs := 7281688) (dq D_La 9 rfl) tw_1928 (by decide) (by decide) (by decide) ⟨Nat.le_of_ble_eq_true rfl, Nat.le_of_ble_eq_true rfl⟩ ?_
  rw [u2]
  refine v_astore_n (dq D_La 10 rfl) [(3, .ref (hZ σ + 203)), (2, .ref (hZ σ + 195)), (1, .ref (hZ σ)), (0, .ref (sa.1 1000))] rfl (by decide) rfl ?_
  refine v_iconst (dq D_La 11 rfl) kc_0 ?_
  refine v_istore (dq D_La 12 rfl) [(4, .int 0), (3, .ref (hZ σ + 203)), (2, .ref (hZ σ + 195)), (1, .ref (hZ σ)), (0, .ref (sa.1 1000))] (by decide) rfl ?_
  refine v_sub [4, 3, 2, 1, 0] rfl ?_
  refine v_bud (bc2 := 11 * 520) (bs2 := 182 * 520) (by decide) (by decide) ?_
  exact lw_loop hL9 520 0 0 _ hJ (by omega) (by omega) (by omega)
end LawLoop
