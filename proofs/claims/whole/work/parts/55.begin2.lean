/-! THE CLASS: a Machine begins, whole -/
section Beg2
variable {σ υ : St} {a p : Nat} {c : Nat → Nat → Int32} {m : Nat} {x : Nat → Int32} {n nc : Nat}
theorem MSh.sP (H : MSh σ a) : MSh (sP σ a 0 (some p)) a := by
  obtain ⟨t0, ⟨p1, q1⟩, ⟨p2, q2⟩, ⟨p3, q3⟩, ⟨p4, q4⟩, ⟨p5, q5⟩, ⟨p6, q6⟩⟩ := H
  exact ⟨t0, ⟨(hP_sPn (Or.inr (by omega))).trans p1, q1⟩, ⟨(hP_sPn (Or.inr (by omega))).trans p2, q2⟩, ⟨(hP_sPn (Or.inr (by omega))).trans p3, q3⟩, ⟨(hP_sPn (Or.inr (by omega))).trans p4, q4⟩, ⟨(hP_sPn (Or.inr (by omega))).trans p5, q5⟩, ⟨(hP_sPn (Or.inr (by omega))).trans p6, q6⟩⟩
theorem begin_c (H : MSh σ a) : ∃ τ, f_X3_begin a p (nI nc) σ = some τ ∧ Fr (inM a) (sP σ a 0 (some p)) τ ∧ MR c (tlE x) 0 nc τ a := by
  have hin : inM a a := ⟨Nat.le_refl a, by omega⟩
  have H1 := H.sP (p := p)
  unfold f_X3_begin f_X3_begin_0
  rw [if_pos H.1, pP_k H.1, osb, pI_k H1.1, osb]
  generalize hυ : sI (sP σ a 0 (some p)) a 1 (nI nc) = υ
  have F2 : Fr (inM a) (sP σ a 0 (some p)) υ := by rw [← hυ]; exact Fr.s0 hin
  have H2 := H1.fr F2
  have u1 : hI υ a 1 = nI nc := by rw [← hυ]; exact hI_sIe
  rw [H2.2.1.r H2.1, osb, fill_k H2.2.1.2.1 H2.2.1.2.2 (by omega) (by unfold aN; rw [if_pos (by rw [H2.2.1.2.1]; omega), H2.2.1.2.2]; rfl) 0, osb]
  generalize hω : sR υ (a + 1) (fil (hI υ (a + 1)) 0 (fun _ => 0) 24) = ω
  have F3 : Fr (inM a) (sP σ a 0 (some p)) ω := by rw [← hω]; exact F2.trans (Fr.r0 ⟨by omega, by omega⟩)
  have H3 := H1.fr F3
  have w1 : hI ω (a + 1) = fil (hI υ (a + 1)) 0 (fun _ => 0) 24 := by rw [← hω]; exact hI_sRe
  have wa : hI ω a = hI υ a := by rw [← hω]; exact hI_sRn (by omega)
  rw [pI_k H3.1, osb]
  generalize hψ : sI ω a 3 255 = ψ
  have F4 : Fr (inM a) (sP σ a 0 (some p)) ψ := by rw [← hψ]; exact Fr.st F3 hin
  have H4 := H1.fr F4
  have hb := bg27 H4 (hI ψ (a + 2)) 8 0 FU (by omega) (by unfold FU; omega)
  rw [fil_0, sR_id, nI_0] at hb
  rw [hb]
  obtain ⟨τ, t1, t2, t3, t4, t5, t6, t7, t8, t9, t10, t11, t12⟩ := bgT (υ := sR ψ (a + 2) (fil (hI ψ (a + 2)) 0 nI 8)) H4.1
  refine ⟨τ, t1, (F4.trans (Fr.r0 ⟨by omega, by omega⟩)).trans t2, ?_⟩
  have lo : ∀ j, j < 195 → j ≠ 33 → tlE x j = tgE j := fun j h1 h2 => by
    unfold tlE; rw [ux_n h2]; unfold fil; rw [if_pos (by omega), Nat.sub_zero]
  have z : ∀ j, 8 ≤ j → j < 195 → j ≠ 33 → tlE x j = 0 := fun j h0 h1 h2 => by rw [lo j h1 h2]; exact if_neg (by omega)
  refine ⟨⟨?_, ?_, ?_, t7, ?_, ?_, ?_, ?_⟩, fun w hw => ?_, fun r hr => ?_, fun i hi => absurd hi (by omega), fun j hj => ?_⟩
  · rw [t4, hI_sRn (by omega), ← hψ, hI_sIn (Or.inr (by omega)), wa, u1]
  · rw [t5, hI_sRn (by omega), ← hψ, hI_sIe]; unfold tlE; rw [ux_e]
  · rw [t6, z 8 (by omega) (by omega) (by omega)]
  · rw [t8, z 35 (by omega) (by omega) (by omega)]
  · rw [t9, z 36 (by omega) (by omega) (by omega)]
  · rw [t10, z 38 (by omega) (by omega) (by omega)]
  · rw [t11, z 37 (by omega) (by omega) (by omega)]
  · rw [t3 _ (by omega), hI_sRn (by omega), ← hψ, hI_sIr (by omega), w1, z (9 + w) (by omega) (by omega) (by omega)]
    unfold fil; rw [if_pos (by omega)]
  · rw [t3 _ (by omega), hI_sRe, lo r (by omega) (by omega)]
    unfold fil; rw [if_pos (by omega), Nat.sub_zero]
    exact (if_pos hr).symm
  · rw [t12 11 (by omega) (by omega) j hj, t12 12 (by omega) (by omega) j hj, t12 13 (by omega) (by omega) j hj, t12 14 (by omega) (by omega) j hj, t12 15 (by omega) (by omega) j hj]
    simp
end Beg2
