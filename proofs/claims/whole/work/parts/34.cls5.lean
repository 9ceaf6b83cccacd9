/-! THE CLASS: a Machine runs an entry -/
def Xv (x : Nat → Int32) : Prop := ∀ w, w < 24 → isN (x (9 + w)) 10000
theorem vl_ok {x : Nat → Int32} (V : Xv x) {v : Int32} (hv : isC v 24) : ∃ q, q < 10000 ∧ vlE x v = nI q := by
  unfold vlE
  rcases hv with h | ⟨w, hw, rfl⟩
  · exact ⟨0, by omega, by rw [if_pos h]; rfl⟩
  · obtain ⟨q, hq, eq⟩ := V w hw
    exact ⟨q, hq, by rw [if_neg (nI_nm2 (by omega)), nI_clamp (by omega), eq]⟩
theorem rem_ok {a : Nat} (ha : a < 2 ^ 31) : jrem (nI a) 10000 = nI (a % 10000) := pk_rem ha (d := 10000) (by omega) (by omega)
theorem cm_ok {kd : Int32} {u v : Nat} (hu : u < 10000) (hv : v < 10000) (h3 : ¬ (kd = 3 ∧ v = 0)) : ∃ q, q < 10000 ∧ cmE kd (nI u) (nI v) = nI q := by
  unfold cmE
  by_cases h1 : kd = 1
  · rw [if_pos h1, nI_p, rem_ok (by omega)]; exact ⟨_, Nat.mod_lt _ (by omega), rfl⟩
  · rw [if_neg h1]
    by_cases h2 : kd = 2
    · rw [if_pos h2]
      have : nI u - nI v + 10000 = nI (u + 10000 - v) := by
        rw [← pk_sub (a := u + 10000) (b := v) (by omega), ← nI_p]
        show nI u - nI v + 10000 = nI u + 10000 - nI v
        rw [Int32.sub_eq_add_neg, Int32.sub_eq_add_neg, Int32.add_assoc, Int32.add_assoc, Int32.add_comm (-nI v)]
      rw [this, rem_ok (by omega)]; exact ⟨_, Nat.mod_lt _ (by omega), rfl⟩
    · rw [if_neg h2]
      by_cases h0 : nI v = 0
      · rw [if_pos h0]; exact ⟨0, by omega, by decide⟩
      · rw [if_neg h0]
        have hv0 : 0 < v := by
          rcases Nat.eq_zero_or_pos v with h | h
          · rw [h] at h0; exact absurd rfl h0
          · exact h
        rw [pk_div (by omega) hv0 (by omega), rem_ok (by have := Nat.div_le_self u v; omega)]
        exact ⟨_, Nat.mod_lt _ (by omega), rfl⟩
theorem div_ok {u v : Nat} (hu : u < 10000) (hv : v < 10000) (h0 : ¬ nI v = 0) : cmE 3 (nI u) (nI v) = nI u / nI v := by
  have hv0 : 0 < v := by
    rcases Nat.eq_zero_or_pos v with h | h
    · rw [h] at h0; exact absurd rfl h0
    · exact h
  unfold cmE
  rw [if_neg (by decide), if_neg (by decide), if_neg h0, pk_div (by omega) hv0 (by omega), rem_ok (by have := Nat.div_le_self u v; omega), Nat.mod_eq_of_lt (by have := Nat.div_le_self u v; omega)]
theorem nI_nm1 {w : Nat} (h : w < 2 ^ 31) : ¬ nI w = -1 := fun e => by
  have := congrArg Int32.toInt e
  rw [nI_toInt h] at this
  simp at this
section Cls5
variable {σ τ : St} {a p : Nat} {c : Nat → Nat → Int32} {m : Nat} {x y : Nat → Int32} {n n' nc : Nat}
theorem kd_ux {i j : Nat} {mk : Int32} : kdE c (ux x (39 + 13 * i + 4) mk) j = kdE c x j := by
  unfold kdE sS; rw [ux_n (by omega)]
theorem sS_ux {i j : Nat} {mk : Int32} : sS (ux x (39 + 13 * i + 4) mk) j = sS x j := by
  unfold sS; rw [ux_n (by omega)]
theorem MR.mark (R : MR c x n nc σ a) {i : Nat} (mk : Int32) (hr : ∀ r, r ≠ a → hI τ r = hI σ r) (hf : ∀ q, (q < 12 ∨ 15 < q) → hI τ a q = hI σ a q) (hi : i < n)
    (hb : ∀ j, j < 32 → bt (hI τ a 12) j = (if j = i then bt mk 0 else bt (hI σ a 12) j) ∧ bt (hI τ a 13) j = (if j = i then bt mk 1 else bt (hI σ a 13) j) ∧ bt (hI τ a 14) j = (if j = i then bt mk 2 else bt (hI σ a 14) j) ∧ bt (hI τ a 15) j = (if j = i then bt mk 3 else bt (hI σ a 15) j)) : MR c (ux x (39 + 13 * i + 4) mk) n nc τ a := by
  obtain ⟨⟨r1, r2, r3, r4, r5, r6, r7, r8⟩, rv, rk, re, rb⟩ := R
  refine ⟨⟨?_, ?_, ?_, ?_, ?_, ?_, ?_, ?_⟩, fun w hw => ?_, fun r hr2 => ?_, fun j hj => ?_, fun j hj => ?_⟩
  · rw [hf 1 (by omega), r1]
  · rw [hf 3 (by omega), r2, ux_n (by omega)]
  · rw [hf 5 (by omega), r3, ux_n (by omega)]
  · rw [hf 6 (by omega), r4]
  · rw [hf 16 (by omega), r5, ux_n (by omega)]
  · rw [hf 17 (by omega), r6, ux_n (by omega)]
  · rw [hf 18 (by omega), r7, ux_n (by omega)]
  · rw [hf 19 (by omega), r8, ux_n (by omega)]
  · rw [hr _ (by omega), rv w hw, ux_n (by omega)]
  · rw [hr _ (by omega), rk r hr2, ux_n (by omega)]
  · rw [hr _ (by omega), hr _ (by omega), hr _ (by omega), hr _ (by omega), ux_n (by omega), ux_n (by omega), ux_n (by omega), ux_n (by omega)]
    exact re j hj
  · obtain ⟨b1, b2, b3, b4, b5⟩ := rb j hj
    obtain ⟨g2, g3, g4, g5⟩ := hb j hj
    obtain ⟨e1, e2, e3, e4⟩ := hasB_bt (ux x (39 + 13 * i + 4) mk) j
    have hri : risE c (ux x (39 + 13 * i + 4) mk) j = risE c x j := by unfold risE; rw [kd_ux]
    rw [hf 11 (by omega), b1, g2, g3, g4, g5, hri, e1, e2, e3, e4]
    by_cases hji : j = i
    · subst hji
      simp [ux_e, hi]
    · rw [if_neg hji, if_neg hji, if_neg hji, if_neg hji, ux_n (by omega), b2, b3, b4, b5]
      obtain ⟨q1, q2, q3, q4⟩ := hasB_bt x j
      rw [q1, q2, q3, q4]
      exact ⟨rfl, rfl, rfl, rfl, rfl⟩
theorem Xok.mark (X : Xok c m x n nc) {i : Nat} (mk : Int32) : Xok c m (ux x (39 + 13 * i + 4) mk) n nc := by
  obtain ⟨x1, x2, x3, x4, x5, x6, x7, x8⟩ := X
  refine ⟨x1, x2, x3, by rw [ux_n (by omega)]; exact x4, by rw [ux_n (by omega)]; exact x5, by rw [ux_n (by omega)]; exact x6, fun r hr => by rw [ux_n (by omega)]; exact x7 r hr, fun j hj => ?_⟩
  rw [ux_n (by omega), ux_n (by omega), ux_n (by omega), ux_n (by omega), kd_ux]
  exact x8 j hj
theorem vl_ux {i : Nat} {mk v : Int32} (hv : isC v 24) : vlE (ux x (39 + 13 * i + 4) mk) v = vlE x v := by
  unfold vlE
  rcases hv with h | ⟨w, hw, rfl⟩
  · rw [if_pos h, if_pos h]
  · rw [if_neg (nI_nm2 (by omega)), if_neg (nI_nm2 (by omega)), nI_clamp (by omega), ux_n (by omega)]
theorem or_sh {v : Int32} {i j : Nat} (hi : i < 32) (hj : j < 32) : bt (v ||| jshl 1 (nI i)) j = if j = i then true else bt v j := by
  rw [b_or, b_sh1 i hi j hj]
  by_cases h : j = i <;> simp [h]
theorem and_sh {v : Int32} {i j : Nat} (hi : i < 32) (hj : j < 32) : bt (v &&& (jshl 1 (nI i) ^^^ (-1))) j = if j = i then false else bt v j := by
  rw [b_and, b_not _ hj, b_sh1 i hi j hj]
  by_cases h : j = i <;> simp [h]
/-- how many entries are left behind a run -/
def rnN (c : Nat → Nat → Int32) (x : Nat → Int32) (i n : Nat) : Nat := if msE c x i = true then i + 1 else n
theorem skip_c (D : Mc σ a p c m x n nc) (hd : p + 10 < a) {i : Nat} (hi : i < n) (h5 : kdE c x i = 5) : ∃ τ, f_X3_workSkip a (nI i) (sI σ a 12 (hI σ a 12 ||| jshl 1 (nI i))) = some (rvE c x i, τ) ∧ Fr (inM a) σ τ ∧ MR c (rnE c x i) (rnN c x i n) nc τ a := by
  have h12 := D.n12
  have hin : inM a a := ⟨Nat.le_refl a, by omega⟩
  obtain ⟨s1, s2, s3⟩ := D.st hi
  generalize hυ : sI (sI σ a 12 (hI σ a 12 ||| jshl 1 (nI i))) a 15 (hI σ a 15 &&& (jshl 1 (nI i) ^^^ (-1))) = υ
  have F : Fr (inM a) σ υ := by rw [← hυ]; exact Fr.st (Fr.s0 hin) hin
  generalize hy : ux x (39 + 13 * i + 4) ((x (39 + 13 * i + 4) &&& (-9)) ||| 1) = y
  have hR : MR c y n nc υ a := by
    rw [← hy]
    refine MR.mark D.2.2.2.2.2.1 _ (fun r hr => by rw [← hυ, hI_sIr hr, hI_sIr hr]) (fun q hq => by rw [← hυ, hI_sIn (Or.inr (by omega)), hI_sIn (Or.inr (by omega))]) hi (fun j hj => ?_)
    obtain ⟨k1, k2, k3, k4⟩ := mk_bt (x (39 + 13 * i + 4))
    obtain ⟨e1, e2, e3, e4⟩ := hasB_bt x i
    obtain ⟨-, b2, b3, b4, b5⟩ := D.b hi
    rw [k1, k2, k3, k4, ← hυ]
    refine ⟨?_, ?_, ?_, ?_⟩
    · rw [hI_sIn (Or.inr (by omega)), hI_sIe, or_sh (by omega) hj]
    · rw [hI_sIn (Or.inr (by omega)), hI_sIn (Or.inr (by omega))]
      by_cases h : j = i
      · rw [if_pos h, h, b3, e2]
      · rw [if_neg h]
    · rw [hI_sIn (Or.inr (by omega)), hI_sIn (Or.inr (by omega))]
      by_cases h : j = i
      · rw [if_pos h, h, b4, e3]
      · rw [if_neg h]
    · rw [hI_sIe, and_sh (by omega) hj]
  have E : Mc υ a p c m y n nc := D.mk F hd hR (by rw [← hy]; exact Xok.mark D.2.2.2.2.2.2 _)
  have ys : sS y i = sS x i := by rw [← hy]; exact sS_ux
  have yk : kdE c y i = 5 := by rw [← hy, kd_ux]; exact h5
  have y2 : y (39 + 13 * i + 2) = x (39 + 13 * i + 2) := by rw [← hy]; exact ux_n (by omega)
  have y3 : y (39 + 13 * i + 3) = x (39 + 13 * i + 3) := by rw [← hy]; exact ux_n (by omega)
  have v2 : vlE y (x (39 + 13 * i + 2)) = vlE x (x (39 + 13 * i + 2)) := by rw [← hy]; exact vl_ux ((D.c2 hi).1.mono D.c24)
  have v3 : vlE y (x (39 + 13 * i + 3)) = vlE x (x (39 + 13 * i + 3)) := by rw [← hy]; exact vl_ux ((D.c2 hi).2.mono D.c24)
  have y0 : y (39 + 13 * i) = nI (sS x i) := by rw [← hy, ux_n (by omega)]; exact s1
  have h5' : c 1 (sS x i) = 5 := h5
  unfold f_X3_workSkip f_X3_workSkip_0
  rw [if_pos (show hT (sI σ a 12 _) a = 4 from D.t), gI_k (show hT (sI σ a 12 _) a = 4 from D.t), osb, hI_sIn (Or.inr (by omega)), pI_k (show hT (sI σ a 12 _) a = 4 from D.t), osb, hυ, nxo_c E hi, osb]
  dsimp only
  rw [if_pos yk, ys, y2, y3, v2, v3, E.po, osb, (E.e hi).1.1, osb, (E.e hi).1.2, osb, y0, gsb_c E s2, osb]
  dsimp only
  by_cases hg : nxE c (sS x i) (vlE x (x (39 + 13 * i + 2))) (vlE x (x (39 + 13 * i + 3))) = gsE c (sS x i)
  · rw [if_pos hg]
    have hms : msE c x i = false := by simp [msE, h5', hg]
    refine ⟨υ, ?_, F, ?_⟩
    · simp [rvE, hms]
    · have : rnE c x i = y := by rw [rnE_2, ← hy]; simp [rn2, h5', hg]
      rw [this]
      simpa [rnN, hms] using hR
  · rw [if_neg hg, E.f.2.2.2.1, osb, bndu, pI_k E.t, osb]
    have hms : msE c x i = true := by simp [msE, h5', hg]
    generalize hN : nxE c (sS x i) (vlE x (x (39 + 13 * i + 2))) (vlE x (x (39 + 13 * i + 3))) = N at hg
    obtain ⟨ω, w1, w2, w3, w4, w5, w6⟩ := keep_c (σ := sI υ a 16 N) (a := a) (k := i + 1) E.t
    rw [nI_1, w1, osb]
    refine ⟨ω, ?_, (F.trans (Fr.s0 hin)).trans w2, ?_⟩
    · simp only [rvE, hms, if_true]
      rw [D.2.2.2.2.2.2.2.2.2.1]
    · have hrn : rnE c x i = ux (ux y 34 (nI i + 1)) 35 N := by rw [rnE_2, ← hy, ← hN]; simp only [rn2, h5', if_true]; rw [hN, if_neg hg]
      rw [hrn]
      simp only [rnN, hms, if_true]
      obtain ⟨⟨r1, r2, r3, r4, r5, r6, r7, r8⟩, rv, rk, re, rb⟩ := hR
      have hf : ∀ q, q ≠ 6 → (q < 11 ∨ 15 < q) → q ≠ 16 → hI ω a q = hI υ a q := fun q h1 h2 h3 => by rw [w5 q h1 h2, hI_sIn (Or.inr h3)]
      have hr : ∀ r, r ≠ a → hI ω r = hI υ r := fun r h => by rw [w6 r h, hI_sIr h]
      refine ⟨⟨?_, ?_, ?_, ?_, ?_, ?_, ?_, ?_⟩, fun w hw => ?_, fun r hr2 => ?_, fun j hj => ?_, fun j hj => ?_⟩
      · rw [hf 1 (by omega) (by omega) (by omega), r1]
      · rw [hf 3 (by omega) (by omega) (by omega), r2, ux_n (by omega), ux_n (by omega)]
      · rw [hf 5 (by omega) (by omega) (by omega), r3, ux_n (by omega), ux_n (by omega)]
      · rw [w3]
      · rw [w5 16 (by omega) (by omega), hI_sIe, ux_e]
      · rw [hf 17 (by omega) (by omega) (by omega), r6, ux_n (by omega), ux_n (by omega)]
      · rw [hf 18 (by omega) (by omega) (by omega), r7, ux_n (by omega), ux_n (by omega)]
      · rw [hf 19 (by omega) (by omega) (by omega), r8, ux_n (by omega), ux_n (by omega)]
      · rw [hr _ (by omega), rv w hw, ux_n (by omega), ux_n (by omega)]
      · rw [hr _ (by omega), rk r hr2, ux_n (by omega), ux_n (by omega)]
      · rw [hr _ (by omega), hr _ (by omega), hr _ (by omega), hr _ (by omega), ux_n (by omega), ux_n (by omega), ux_n (by omega), ux_n (by omega), ux_n (by omega), ux_n (by omega), ux_n (by omega), ux_n (by omega)]
        exact re j (by omega)
      · obtain ⟨b1, b2, b3, b4, b5⟩ := rb j hj
        have hk : kdE c (ux (ux y 34 (nI i + 1)) 35 N) j = kdE c y j := by unfold kdE sS; rw [ux_n (by omega), ux_n (by omega)]
        have hhb : ∀ q, hasB (ux (ux y 34 (nI i + 1)) 35 N) j q = hasB y j q := fun q => by unfold hasB; rw [ux_n (by omega), ux_n (by omega)]
        have hbit : ∀ q, 11 ≤ q → q ≤ 15 → bt (hI ω a q) j = (bt (hI υ a q) j && decide (j < i + 1)) := fun q h1 h2 => by
          rw [w4 q h1 h2, hI_sIn (Or.inr (by omega)), b_and, b_msk (i + 1) (by omega) j hj]
        rw [hbit 11 (by omega) (by omega), hbit 12 (by omega) (by omega), hbit 13 (by omega) (by omega), hbit 14 (by omega) (by omega), hbit 15 (by omega) (by omega), b1, b2, b3, b4, b5, hhb, hhb, hhb, hhb]
        unfold risE
        rw [hk]
        by_cases hj2 : j < i + 1
        · have : j < n := by omega
          simp [hj2, this]
        · simp [hj2]
end Cls5
