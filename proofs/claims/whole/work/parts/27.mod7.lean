/-! THE REFERENCE's core functions: a run -/
def rn2 (c : Nat → Nat → Int32) (x : Nat → Int32) (i s : Nat) (a b : Int32) : Nat → Int32 :=
  let y := ux x (39 + 13 * i + 4) ((x (39 + 13 * i + 4) &&& (-9)) ||| 1)
  if c 1 s = 5 then (if nxE c s a b = gsE c s then y else ux (ux y 34 (nI i + 1)) 35 (nxE c s a b))
  else if c 1 s = 3 ∧ b = 0 then ux y (39 + 13 * i + 4) (y (39 + 13 * i + 4) ||| 2)
  else ux (ux y (9 + (x (39 + 13 * i + 1)).toNatClampNeg) (ouE c s a b)) 33 (x 33 ||| jshl 1 (x (39 + 13 * i + 1)))
theorem rnE_2 {c : Nat → Nat → Int32} {x : Nat → Int32} {i : Nat} : rnE c x i = rn2 c x i (sS x i) (vlE x (x (39 + 13 * i + 2))) (vlE x (x (39 + 13 * i + 3))) := rfl
section Mod7
variable {σ : St} {M k : Nat} {c : Nat → Nat → Int32} {x : Nat → Int32} {n : Nat}
theorem run333_k (D : Md σ M k c x) (y : Nat → Int32) {w : Nat} (hw : w < 24) (v : Int32) : f_X10_runsOne_333 M (nI w) (M + 4) (9 + nI w) v (sR σ (M + 4) y) = some (0, sR σ (M + 4) (ux (ux y (9 + w) v) 33 (y 33 ||| jshl 1 (nI w)))) := by
  unfold f_X10_runsOne_333
  rw [ws D y (9 + w) (by omega) (u := 9 + nI w) (nI_p 9 w), osb, xa_k (D.to _), osb, r33_k (D.to _), osb, w33 D _, osb, ux_n (i := 33) (by omega)]
theorem run254_k (D : Md σ M k c x) (y : Nat → Int32) {i s : Nat} (hi : i < 12) (hs : s < 24) (h5 : ¬ c 1 s = 5) {w : Nat} (hw : w < 24) (ew : y (39 + 13 * i + 1) = nI w) (a b : Int32) : f_X10_runsOne_254 M (nI i) (nI s) a b (sR σ (M + 4) y) = some (0, sR σ (M + 4) (ux (ux y (9 + w) (ouE c s a b)) 33 (y 33 ||| jshl 1 (nI w)))) := by
  obtain ⟨⟨a1, a2⟩, -, -, -, ⟨a3, a4⟩, -⟩ := kar (D.to y) hs
  unfold f_X10_runsOne_254
  simp only [xa_k (D.to y), osb, at_k (D.to y) i, en1_k (D.to y) hi, core_k (D.to y), a1, a2, a3, a4, ew, com_k, run333_k D y hw, ouE]
  by_cases h0 : c 1 s = 0
  · simp [h0]
  · by_cases h4 : c 1 s = 4
    · simp [h4]
    · simp [h0, h4]
theorem run164_k (D : Md σ M k c x) (y : Nat → Int32) {i s : Nat} (hs : s < 24) (w : Int32) : f_X10_runsOne_164 M (nI i) (nI s) w (sR (sI σ M 27 0) (M + 4) y) = some (if w = gsE c s then 0 else y 34 - nI i - 1, if w = gsE c s then sR (sI σ M 27 0) (M + 4) y else sR (sI σ M 27 1) (M + 4) (ux (ux y 34 (nI i + 1)) 35 w)) := by
  have E := D.setM (j := 27) 0
  have F := D.setM (j := 27) 1
  unfold f_X10_runsOne_164
  rw [gues_k (E.to y) hs, osb]
  dsimp only
  by_cases h : w = gsE c s
  · simp only [if_pos h]
  · rw [if_neg h, if_neg h, if_neg h, pZ_k (E.to y).1 (Or.inr rfl), osb, sI_sRc (by omega), sI_sI, xa_k (F.to y), osb, r34_k (F.to y), osb, bndu, osb, w34 F _, osb, xa_k (F.to _), osb, w35 F _, osb]
theorem run94_k (D : Md σ M k c x) {i s : Nat} (hi : i < 12) (hs : s < 24) (hw : ¬ c 1 s = 5 → isN (x (39 + 13 * i + 1)) 24) (a b : Int32) : f_X10_runsOne_94 M (nI i) (nI s) a b (sR σ (M + 4) x) = some (if c 1 s = 5 ∧ ¬ nxE c s a b = gsE c s then x 34 - nI i - 1 else 0, sR (sI σ M 27 (b2i (decide (c 1 s = 5) && !decide (nxE c s a b = gsE c s)))) (M + 4) (rn2 c x i s a b)) := by
  have E := D.setM (j := 27) 0
  unfold f_X10_runsOne_94
  rw [pZ_k (D.to x).1 (Or.inl rfl), osb, sI_sRc (by omega)]
  simp only [xa_k (E.to x), osb, at_k (E.to x) i, en4_k (E.to x) hi]
  rw [we4 E _ hi, osb]
  generalize hy : ux x (39 + 13 * i + 4) ((x (39 + 13 * i + 4) &&& (-9)) ||| 1) = y
  have y34 : y 34 = x 34 := by rw [← hy]; exact ux_n (by omega)
  have y33 : y 33 = x 33 := by rw [← hy]; exact ux_n (by omega)
  have y1 : y (39 + 13 * i + 1) = x (39 + 13 * i + 1) := by rw [← hy]; exact ux_n (by omega)
  have hrn : rn2 c x i s a b = if c 1 s = 5 then (if nxE c s a b = gsE c s then y else ux (ux y 34 (nI i + 1)) 35 (nxE c s a b)) else if c 1 s = 3 ∧ b = 0 then ux y (39 + 13 * i + 4) (y (39 + 13 * i + 4) ||| 2) else ux (ux y (9 + (x (39 + 13 * i + 1)).toNatClampNeg) (ouE c s a b)) 33 (x 33 ||| jshl 1 (x (39 + 13 * i + 1))) := by
    rw [← hy]; rfl
  rw [hrn]
  obtain ⟨⟨a1, a2⟩, -, -, -, ⟨a3, a4⟩, -⟩ := kar (E.to y) hs
  simp only [core_k (E.to y), osb, a1, a2, a3, a4]
  by_cases h5 : c 1 s = 5
  · simp only [if_pos h5, h5, true_and, decide_true, Bool.true_and]
    have key : (if a = b then f_X10_runsOne_164 M (nI i) (nI s) (c 5 s) (sR (sI σ M 27 0) (M + 4) y) else f_X10_runsOne_164 M (nI i) (nI s) (nI s + 1) (sR (sI σ M 27 0) (M + 4) y)) = f_X10_runsOne_164 M (nI i) (nI s) (nxE c s a b) (sR (sI σ M 27 0) (M + 4) y) := by
      unfold nxE
      by_cases hab : a = b <;> simp [hab]
    rw [key, run164_k D y hs, y34]
    by_cases hg : nxE c s a b = gsE c s <;> simp [hg, b2i]
  · obtain ⟨w, hw, ew⟩ := hw h5
    have h254 := run254_k E y hi hs h5 hw (y1.trans ew) a b
    simp only [if_neg h5, h5, false_and, if_false, decide_false, Bool.false_and, b2i, Bool.false_eq_true]
    rw [ew, nI_clamp (show w < 2 ^ 31 by omega), ← y33]
    by_cases h3 : c 1 s = 3
    · by_cases hb : b = 0
      · rw [if_pos h3, if_pos hb, if_pos ⟨h3, hb⟩, xa_k (E.to y), osb, at_k (E.to y) i, osb]
        dsimp only
        rw [en4_k (E.to y) hi, osb, we4 E _ hi, osb]
      · rw [if_pos h3, if_neg hb, if_neg (fun q => hb q.2), h254]
    · rw [if_neg h3, if_neg (fun q => h3 q.1), h254]
theorem runs_k (D : Md σ M k c x) {i : Nat} (hi : i < 12) (hs : isN (x (39 + 13 * i)) 24) (h2 : isC (x (39 + 13 * i + 2)) 24) (h3 : isC (x (39 + 13 * i + 3)) 24) (hw : ¬ c 1 (sS x i) = 5 → isN (x (39 + 13 * i + 1)) 24) : f_X10_runsOne M (nI i) (sR σ (M + 4) x) = some (rvE c x i, sR (sI σ M 27 (b2i (msE c x i))) (M + 4) (rnE c x i)) := by
  obtain ⟨s, hs24, es⟩ := hs
  have ess : sS x i = s := by unfold sS; rw [es, nI_clamp (by omega)]
  have hfin : f_X10_runsOne_94 M (nI i) (nI s) (vlE x (x (39 + 13 * i + 2))) (vlE x (x (39 + 13 * i + 3))) (sR σ (M + 4) x) = some (rvE c x i, sR (sI σ M 27 (b2i (msE c x i))) (M + 4) (rnE c x i)) := by
    rw [run94_k D hi hs24 (by rw [← ess]; exact hw), rnE_2, ess]
    unfold rvE msE
    rw [ess]
    by_cases h5 : c 1 s = 5
    · by_cases hg : nxE c s (vlE x (x (39 + 13 * i + 2))) (vlE x (x (39 + 13 * i + 3))) = gsE c s <;> simp [h5, hg]
    · simp [h5]
  have h52 : f_X10_runsOne_52 M (nI i) (nI s) (vlE x (x (39 + 13 * i + 2))) (sR σ (M + 4) x) = some (rvE c x i, sR (sI σ M 27 (b2i (msE c x i))) (M + 4) (rnE c x i)) := by
    unfold f_X10_runsOne_52
    simp only [xa_k (D.to x), osb, at_k (D.to x) i, en3_k (D.to x) hi]
    rcases val_k (D.to x) h3 with e | ⟨w, hw, ew, e⟩
    · rw [if_pos e, ← hfin]
      simp [vlE, e]
    · rw [if_neg (by rw [ew]; exact nI_nm2 (by omega)), e, osb]
      exact hfin
  unfold f_X10_runsOne f_X10_runsOne_0
  rw [if_pos (D.to x).1]
  simp only [xa_k (D.to x), osb, at_k (D.to x) i, row_k (D.to x) (show 39 + 13 * i < 195 by omega), en2_k (D.to x) hi, es]
  rcases val_k (D.to x) h2 with e | ⟨w, hw, ew, e⟩
  · rw [if_pos e, ← h52]
    simp [vlE, e]
  · rw [if_neg (by rw [ew]; exact nI_nm2 (by omega)), e, osb]
    exact h52
end Mod7
