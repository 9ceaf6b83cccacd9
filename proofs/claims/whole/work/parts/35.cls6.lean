/-! THE CLASS: a Machine runs an entry, whole; what a run keeps -/
section Cls6
variable {σ τ : St} {a p : Nat} {c : Nat → Nat → Int32} {m : Nat} {x y : Nat → Int32} {n n' nc : Nat}
theorem MR.value (R : MR c x n nc σ a) {w : Nat} (hw : w < 24) (v : Int32) (hr : ∀ r, r ≠ a → r ≠ a + 1 → hI τ r = hI σ r) (hv : ∀ q, hI τ (a + 1) q = if q = w then v else hI σ (a + 1) q) (hf : ∀ q, q ≠ 3 → hI τ a q = hI σ a q) (h3 : hI τ a 3 = x 33 ||| jshl 1 (nI w)) : MR c (ux (ux x (9 + w) v) 33 (x 33 ||| jshl 1 (nI w))) n nc τ a := by
  obtain ⟨⟨r1, r2, r3, r4, r5, r6, r7, r8⟩, rv, rk, re, rb⟩ := R
  refine ⟨⟨?_, ?_, ?_, ?_, ?_, ?_, ?_, ?_⟩, fun u hu => ?_, fun r hr2 => ?_, fun j hj => ?_, fun j hj => ?_⟩
  · rw [hf 1 (by omega), r1]
  · rw [h3, ux_e]
  · rw [hf 5 (by omega), r3, ux_n (by omega), ux_n (by omega)]
  · rw [hf 6 (by omega), r4]
  · rw [hf 16 (by omega), r5, ux_n (by omega), ux_n (by omega)]
  · rw [hf 17 (by omega), r6, ux_n (by omega), ux_n (by omega)]
  · rw [hf 18 (by omega), r7, ux_n (by omega), ux_n (by omega)]
  · rw [hf 19 (by omega), r8, ux_n (by omega), ux_n (by omega)]
  · rw [hv u, ux_n (by omega)]
    by_cases h : u = w
    · rw [if_pos h, h, ux_e]
    · rw [if_neg h, ux_n (by omega), rv u hu]
  · rw [hr _ (by omega) (by omega), rk r hr2, ux_n (by omega), ux_n (by omega)]
  · rw [hr _ (by omega) (by omega), hr _ (by omega) (by omega), hr _ (by omega) (by omega), hr _ (by omega) (by omega), ux_n (by omega), ux_n (by omega), ux_n (by omega), ux_n (by omega), ux_n (by omega), ux_n (by omega), ux_n (by omega), ux_n (by omega)]
    exact re j hj
  · rw [hf 11 (by omega), hf 12 (by omega), hf 13 (by omega), hf 14 (by omega), hf 15 (by omega)]
    have hk : kdE c (ux (ux x (9 + w) v) 33 (x 33 ||| jshl 1 (nI w))) j = kdE c x j := by unfold kdE sS; rw [ux_n (by omega), ux_n (by omega)]
    have hhb : ∀ q, hasB (ux (ux x (9 + w) v) 33 (x 33 ||| jshl 1 (nI w))) j q = hasB x j q := fun q => by unfold hasB; rw [ux_n (by omega), ux_n (by omega)]
    rw [hhb, hhb, hhb, hhb]
    unfold risE
    rw [hk]
    exact rb j hj
theorem work_c (D : Mc σ a p c m x n nc) (O : Xo2 c x n) (V : Xv x) (hd : p + 10 < a) {i : Nat} (hi : i < n) : ∃ τ, f_X3_work a (nI i) σ = some (rvE c x i, τ) ∧ Fr (inM a) σ τ ∧ MR c (rnE c x i) (rnN c x i n) nc τ a := by
  have h12 := D.n12
  have h24 := D.c24
  have hin : inM a a := ⟨Nat.le_refl a, by omega⟩
  obtain ⟨s1, s2, s3⟩ := D.st hi
  have D0 := D
  unfold f_X3_work f_X3_work_0 f_X3_work_120
  rw [if_pos D.t, gI_k D.t, osb, pI_k D.t, osb]
  generalize hυ : sI σ a 12 (hI σ a 12 ||| jshl 1 (nI i)) = υ
  have F : Fr (inM a) σ υ := by rw [← hυ]; exact Fr.s0 hin
  have g1 : gR 4 0 a υ = some p := by rw [← hυ]; exact gR_k D.t D.2.1
  have g2 : gR 6 6 p υ = some (p + 1) := by rw [← hυ]; exact (D.pr s2).1.1
  have hne : a ≠ p + 1 := by omega
  have g3 : gR 4 7 a υ = some (a + 3) := by rw [← hυ]; exact (D.e hi).1.1
  have g4 : aI 22 (a + 3) (nI i) υ = some (x (39 + 13 * i)) := by
    rw [← hυ]
    have := (D.e hi).1.2
    unfold aI at this ⊢
    rw [hT_sI, hN_sI, hI_sIr (by omega)]; exact this
  have g5 : aI 22 (p + 1) (nI (sS x i)) υ = some (c 1 (sS x i)) := by
    rw [← hυ]
    have := (D.pr s2).1.2
    unfold aI at this ⊢
    rw [hT_sI, hN_sI, hI_sIr (by omega)]; exact this
  rw [g1, osb, g2, osb, g3, osb, g4, osb, s1, g5, osb]
  by_cases h5 : c 1 (sS x i) = 5
  · obtain ⟨τ, t1, t2, t3⟩ := skip_c D hd hi h5
    rw [hυ] at t1
    rw [if_pos h5, t1, osb]
    exact ⟨τ, rfl, t2, t3⟩
  · rw [if_neg h5]
    have hms : msE c x i = false := by simp [msE, h5]
    have hrv : rvE c x i = 0 := by simp [rvE, hms]
    have hrnn : rnN c x i n = n := by simp [rnN, hms]
    have hs8 : hasB x i 8 = false := by
      cases h : hasB x i 8 with
      | false => rfl
      | true => exact absurd ((O i hi).2 h).1 h5
    generalize hy : ux x (39 + 13 * i + 4) ((x (39 + 13 * i + 4) &&& (-9)) ||| 1) = y
    have hR : MR c y n nc υ a := by
      rw [← hy]
      refine MR.mark D.2.2.2.2.2.1 _ (fun r hr => by rw [← hυ, hI_sIr hr]) (fun q hq => by rw [← hυ, hI_sIn (Or.inr (by omega))]) hi (fun j hj => ?_)
      obtain ⟨k1, k2, k3, k4⟩ := mk_bt (x (39 + 13 * i + 4))
      obtain ⟨e1, e2, e3, e4⟩ := hasB_bt x i
      obtain ⟨-, b2, b3, b4, b5⟩ := D.b hi
      rw [k1, k2, k3, k4, ← hυ]
      refine ⟨?_, ?_, ?_, ?_⟩
      · rw [hI_sIe, or_sh (by omega) hj]
      · rw [hI_sIn (Or.inr (by omega))]
        by_cases h : j = i
        · rw [if_pos h, h, b3, e2]
        · rw [if_neg h]
      · rw [hI_sIn (Or.inr (by omega))]
        by_cases h : j = i
        · rw [if_pos h, h, b4, e3]
        · rw [if_neg h]
      · rw [hI_sIn (Or.inr (by omega))]
        by_cases h : j = i
        · rw [if_pos h, h, b5, hs8]
        · rw [if_neg h]
    have E : Mc υ a p c m y n nc := D.mk F hd hR (by rw [← hy]; exact Xok.mark D.2.2.2.2.2.2 _)
    have y1 : y (39 + 13 * i + 1) = x (39 + 13 * i + 1) := by rw [← hy]; exact ux_n (by omega)
    have y2 : y (39 + 13 * i + 2) = x (39 + 13 * i + 2) := by rw [← hy]; exact ux_n (by omega)
    have y3 : y (39 + 13 * i + 3) = x (39 + 13 * i + 3) := by rw [← hy]; exact ux_n (by omega)
    have y33 : y 33 = x 33 := by rw [← hy]; exact ux_n (by omega)
    have v2 : vlE y (x (39 + 13 * i + 2)) = vlE x (x (39 + 13 * i + 2)) := by rw [← hy]; exact vl_ux ((D.c2 hi).1.mono D.c24)
    have v3 : vlE y (x (39 + 13 * i + 3)) = vlE x (x (39 + 13 * i + 3)) := by rw [← hy]; exact vl_ux ((D.c2 hi).2.mono D.c24)
    obtain ⟨u, hu, eu⟩ := vl_ok V ((D.c2 hi).1.mono h24)
    obtain ⟨v, hv, ev⟩ := vl_ok V ((D.c2 hi).2.mono h24)
    obtain ⟨-, ⟨q1, q2⟩, ⟨q3, q4⟩, ⟨q5, q6⟩⟩ := E.e hi
    rw [osb, osb, g4, osb, q3, osb, q4, osb, val_c E (E.c2 hi).1, osb]
    dsimp only
    rw [q5, osb, q6, osb, val_c E (E.c2 hi).2, osb]
    dsimp only
    rw [y2, y3, v2, v3, s1, out_c E s2 h5, osb]
    dsimp only
    have hrn : rnE c x i = if c 1 (sS x i) = 3 ∧ vlE x (x (39 + 13 * i + 3)) = 0 then ux y (39 + 13 * i + 4) (y (39 + 13 * i + 4) ||| 2) else ux (ux y (9 + (x (39 + 13 * i + 1)).toNatClampNeg) (ouE c (sS x i) (vlE x (x (39 + 13 * i + 2))) (vlE x (x (39 + 13 * i + 3))))) 33 (x 33 ||| jshl 1 (x (39 + 13 * i + 1))) := by
      rw [rnE_2, ← hy]; simp only [rn2, if_neg h5]
    rw [hrv, hrnn, hrn]
    by_cases ht : c 1 (sS x i) = 3 ∧ vlE x (x (39 + 13 * i + 3)) = 0
    · rw [if_pos ht, if_pos ht.1, if_pos ht.2, if_pos rfl, gI_k E.t, osb, pI_k E.t, osb]
      refine ⟨_, rfl, F.trans (Fr.s0 hin), ?_⟩
      refine MR.mark hR _ (fun r hr => hI_sIr hr) (fun q hq => hI_sIn (Or.inr (by omega))) hi (fun j hj => ?_)
      obtain ⟨e1, e2, e3, e4⟩ := hasB_bt y i
      obtain ⟨-, b2, b3, b4, b5⟩ := E.b hi
      simp only [b_or]
      rw [show bt 2 0 = false by decide, show bt 2 1 = true by decide, show bt 2 2 = false by decide, show bt 2 3 = false by decide, Bool.or_false, Bool.or_true, Bool.or_false, Bool.or_false]
      refine ⟨?_, ?_, ?_, ?_⟩
      · rw [hI_sIn (Or.inr (by omega))]
        by_cases h : j = i
        · rw [if_pos h, h, b2, e1]
        · rw [if_neg h]
      · rw [hI_sIe, or_sh (by omega) hj]
      · rw [hI_sIn (Or.inr (by omega))]
        by_cases h : j = i
        · rw [if_pos h, h, b4, e3]
        · rw [if_neg h]
      · rw [hI_sIn (Or.inr (by omega))]
        by_cases h : j = i
        · rw [if_pos h, h, b5, e4]
        · rw [if_neg h]
    · rw [if_neg ht]
      have hnew := (D.2.2.2.2.2.2.2.2.2.2.2.2.2 i hi).2.1
      rw [if_neg (show ¬ kdE c x i = 5 from h5)] at hnew
      obtain ⟨w, hw, ew⟩ := hnew
      have hval : (if c 1 (sS x i) = 3 then (if vlE x (x (39 + 13 * i + 3)) = 0 then -1 else vlE x (x (39 + 13 * i + 2)) / vlE x (x (39 + 13 * i + 3))) else ouE c (sS x i) (vlE x (x (39 + 13 * i + 2))) (vlE x (x (39 + 13 * i + 3)))) = ouE c (sS x i) (vlE x (x (39 + 13 * i + 2))) (vlE x (x (39 + 13 * i + 3))) := by
        by_cases h3 : c 1 (sS x i) = 3
        · have h0 : ¬ vlE x (x (39 + 13 * i + 3)) = 0 := fun h => ht ⟨h3, h⟩
          rw [if_pos h3, if_neg h0]
          unfold ouE
          rw [h3, if_neg (by decide), if_neg (by decide), eu, ev, div_ok hu hv (by rw [← ev]; exact h0)]
        · rw [if_neg h3]
      obtain ⟨z, hz, ez⟩ : ∃ z, z < 10000 ∧ ouE c (sS x i) (vlE x (x (39 + 13 * i + 2))) (vlE x (x (39 + 13 * i + 3))) = nI z := by
        unfold ouE
        by_cases h0 : c 1 (sS x i) = 0
        · rw [if_pos h0]; exact (D.2.2.2.2.1.2.2.2.2.2.2 _ s2).2.2.2.2.1
        · rw [if_neg h0]
          by_cases h4 : c 1 (sS x i) = 4
          · rw [if_pos h4]; exact ⟨u, hu, eu⟩
          · rw [if_neg h4, eu, ev]
            refine cm_ok hu hv (fun h => ht ⟨h.1, by rw [ev, h.2]; rfl⟩)
      rw [hval, ez, if_neg (nI_nm1 (by omega)), (E.v (w := 0) (by omega)).1, osb, q1, osb, q2, osb, y1, ew, xI_k E.1.2.1.2.1 E.1.2.1.2.2 (show w < 24 by omega) (by omega), osb]
      generalize hω : sI υ (a + 1) w (nI z) = ω
      have t1 : hT ω a = 4 := by rw [← hω]; exact E.t
      have t2 : gR 4 8 a ω = some (a + 4) := by rw [← hω]; exact q1
      have t3 : aI 22 (a + 4) (nI i) ω = some (nI w) := by
        have := q2
        rw [y1, ew] at this
        rw [← hω]
        unfold aI at this ⊢
        rw [hT_sI, hN_sI, hI_sIr (by omega)]; exact this
      have t4 : hI ω a 3 = x 33 := by rw [← hω, hI_sIr (by omega), hR.1.2.1, y33]
      rw [gI_k t1, osb, t2, osb, t3, osb, bo_f, osb]
      dsimp only
      rw [pI_k t1, osb, t4, nI_clamp (show w < 2 ^ 31 by omega), show bo (nI w) = jshl 1 (nI w) from if_pos (nI_pos' (by omega))]
      refine ⟨_, rfl, (F.trans (by rw [← hω]; exact Fr.s0 ⟨by omega, by omega⟩)).trans (Fr.s0 hin), ?_⟩
      rw [← y33]
      refine MR.value hR (by omega) (nI z) (fun r h1 h2 => by rw [hI_sIr h1, ← hω, hI_sIr h2]) (fun q => ?_) (fun q hq => by rw [hI_sIn (Or.inr hq), ← hω, hI_sIr (by omega)]) hI_sIe
      rw [hI_sIr (by omega), ← hω, hI_sI]
      by_cases h : q = w <;> simp [h]
end Cls6
