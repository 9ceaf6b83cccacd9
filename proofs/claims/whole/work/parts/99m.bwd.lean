/-! THE CLASS begins with its draft -/
section Bwd
variable {σ τ υ φ : St} {z p d L m nu ng nc : Nat} {P : PT} {S : SX} {I : IT} {tr wh : Int32} {c : Cc} {B : Nat}
theorem His.mw (h : His z σ) (h1 : hT τ (z + 44) = hT σ (z + 44)) (h2 : hP τ (z + 44) = hP σ (z + 44)) (s : ∀ r, z + 45 ≤ r → r ≤ z + 46 → Sm σ τ r) (m : ∀ k, k < 16 → MSh σ (z + 47 + 7 * k) → MSh τ (z + 47 + 7 * k)) (m' : ∀ k, k < 3 → MSh σ (z + 159 + 7 * k) → MSh τ (z + 159 + 7 * k)) : His z τ := by
  obtain ⟨q1, q2, q3, q4, q5, q6, q7, q8, q9⟩ := h
  have b := s (z + 45) (by omega) (by omega)
  have c := s (z + 46) (by omega) (by omega)
  exact ⟨by rw [h1]; exact q1, by rw [h2]; exact q2, by rw [h2]; exact q3, by rw [b.1]; exact q4, by rw [b.2.1]; exact q5, by rw [c.1]; exact q6, by rw [c.2.1]; exact q7, fun k hk => ⟨by rw [b.2.2.2.1]; exact (q8 k hk).1, m k hk (q8 k hk).2⟩, fun k hk => ⟨by rw [c.2.2.2.1]; exact (q9 k hk).1, m' k hk (q9 k hk).2⟩⟩
theorem DC.pr (D : DC σ d c m nu ng) (N : Cun c nu ng) : PR c m σ d := by
  obtain ⟨-, d1, d2, d3, d4⟩ := D
  exact ⟨d1, d2, fun u h h4 => d3 u ((nI_ltI (by omega) (by have := N.1; omega)).mp (show nI u < nI nu by rw [← N.2.1]; exact h)), fun g h h6 => d4 g ((nI_ltI (by omega) (by have := N.2.2.1; omega)).mp (show nI g < nI ng by rw [← N.2.2.2.1]; exact h))⟩
theorem bwd_1 (C : CB z p d P S I φ) (D : DC φ d c m nu ng) (c0 : c 0 0 = nI nc) : ∃ τ, (∀ g : St → Option St, ((gR 9 3 z φ).bind fun x1 => (gR 9 4 z φ).bind fun x2 => (pP 9 3 z x2 φ).bind fun σ3 => (pP 9 4 z x1 σ3).bind fun σ4 => (pZ 9 2 z 1 σ4).bind fun σ5 => (gR 9 6 z σ5).bind fun x6 => (gR 9 3 z σ5).bind fun x7 => (gR 9 3 z σ5).bind fun x8 => (gI 6 0 x8 σ5).bind fun x9 => (f_X3_begin x6 x7 x9 σ5).bind g) = g τ) ∧ Fg (fun r => r = z ∨ inM (z + 30) r) φ τ ∧ hT τ z = 9 ∧ (∀ q, q ≠ 2 → hI τ z q = hI φ z q) ∧ hI τ z 2 = 1 ∧ hP τ z 3 = some d ∧ hP τ z 4 = some p ∧ (∀ j, j ≠ 3 → j ≠ 4 → hP τ z j = hP φ z j) ∧ MSh τ (z + 30) ∧ hP τ (z + 30) 0 = some d ∧ MR c t0E 0 nc τ (z + 30) := by
  obtain ⟨c1, -, -, ⟨t1, -⟩, -⟩ := id C
  have pd := c1.pd
  have zt := c1.1
  have G5 : Fg (fun r => r = z) φ (sI (sP (sP φ z 3 (some d)) z 4 (some p)) z 2 1) := ((Fg.sP (S := fun r => r = z) rfl).trans (Fg.sP rfl)).trans (Fg.sI rfl)
  have p3 : hP (sI (sP (sP φ z 3 (some d)) z 4 (some p)) z 2 1) z 3 = some d := by
    show hP (sP (sP φ z 3 (some d)) z 4 (some p)) z 3 = some d
    rw [hP_sPn (Or.inr (by omega)), hP_sPe]
  have p4 : hP (sI (sP (sP φ z 3 (some d)) z 4 (some p)) z 2 1) z 4 = some p := by
    show hP (sP (sP φ z 3 (some d)) z 4 (some p)) z 4 = some p
    exact hP_sPe
  have pj : ∀ j, j ≠ 3 → j ≠ 4 → hP (sI (sP (sP φ z 3 (some d)) z 4 (some p)) z 2 1) z j = hP φ z j := fun j h3 h4 => by
    show hP (sP (sP φ z 3 (some d)) z 4 (some p)) z j = hP φ z j
    rw [hP_sPn (Or.inr h4), hP_sPn (Or.inr h3)]
  have i2 : hI (sI (sP (sP φ z 3 (some d)) z 4 (some p)) z 2 1) z 2 = 1 := hI_sIe
  have iq : ∀ q, q ≠ 2 → hI (sI (sP (sP φ z 3 (some d)) z 4 (some p)) z 2 1) z q = hI φ z q := fun q hq => hI_sIn (Or.inr hq)
  have zt5 : hT (sI (sP (sP φ z 3 (some d)) z 4 (some p)) z 2 1) z = 9 := zt
  have e : ∀ g : St → Option St, ((gR 9 3 z φ).bind fun x1 => (gR 9 4 z φ).bind fun x2 => (pP 9 3 z x2 φ).bind fun σ3 => (pP 9 4 z x1 σ3).bind fun σ4 => (pZ 9 2 z 1 σ4).bind fun σ5 => (gR 9 6 z σ5).bind fun x6 => (gR 9 3 z σ5).bind fun x7 => (gR 9 3 z σ5).bind fun x8 => (gI 6 0 x8 σ5).bind fun x9 => (f_X3_begin x6 x7 x9 σ5).bind g) = ((gR 9 6 z (sI (sP (sP φ z 3 (some d)) z 4 (some p)) z 2 1)).bind fun x6 => (gR 9 3 z (sI (sP (sP φ z 3 (some d)) z 4 (some p)) z 2 1)).bind fun x7 => (gR 9 3 z (sI (sP (sP φ z 3 (some d)) z 4 (some p)) z 2 1)).bind fun x8 => (gI 6 0 x8 (sI (sP (sP φ z 3 (some d)) z 4 (some p)) z 2 1)).bind fun x9 => (f_X3_begin x6 x7 x9 (sI (sP (sP φ z 3 (some d)) z 4 (some p)) z 2 1)).bind g) := fun g => by
    rw [gR_k zt c1.2.2.1, osb, gR_k zt c1.2.2.2.1, osb, pP_k zt, osb, pP_k (σ := sP φ z 3 (some d)) zt, osb, pZ_k (σ := sP (sP φ z 3 (some d)) z 4 (some p)) zt (Or.inr rfl), osb]
  generalize sI (sP (sP φ z 3 (some d)) z 4 (some p)) z 2 1 = ψ at *
  have s5 : ∀ r, r ≠ z → Sm φ ψ r := fun r hr => G5.2 r hr
  have D5 : DC ψ d c m nu ng := D.of (fun r q1 q2 => s5 r (by omega))
  have M5 : MSh ψ (z + 30) := t1.sm (fun r q1 q2 => s5 r (by omega))
  obtain ⟨τ, b1, F1, R1⟩ := begin_c (p := d) (nc := nc) (c := c) (x := fun _ => 0) M5
  have G1 : Fg (inM (z + 30)) ψ τ := (Fg.sP (show inM (z + 30) (z + 30) from ⟨by omega, by omega⟩)).trans F1.g
  have sz : Sm ψ τ z := G1.2 z (fun h => by have := h.1; omega)
  refine ⟨τ, fun g => ?_, (G5.mono (fun r h => Or.inl h)).trans (G1.mono (fun r h => Or.inr h)), by rw [sz.1]; exact zt5, fun q hq => by rw [sz.2.2.1]; exact iq q hq, by rw [sz.2.2.1]; exact i2, by rw [sz.2.2.2.1]; exact p3, by rw [sz.2.2.2.1]; exact p4, fun j h3 h4 => by rw [sz.2.2.2.1]; exact pj j h3 h4, (M5.sP (p := d)).fr F1, by rw [F1.2.2.1]; exact hP_sPe, R1⟩
  rw [e g, gR_k zt5 ((pj 6 (by omega) (by omega)).trans c1.2.2.2.2.2.1), osb, gR_k zt5 p3, osb, osb, gI_k D5.1.1, osb, D5.2.1.1, c0, b1, osb]
theorem bwd_c (C : CB z p d P S I φ) (D : DC φ d c m nu ng) (K : Cok c m) (N : Cun c nu ng) (c0 : c 0 0 = nI nc) (h9 : 9 ≤ nc) (h24 : nc ≤ 24) : ∃ τ, f_X8_beginWithDraft z φ = some τ ∧ CB z d p (true, c, m, nu, ng, nc) (t0E, 0, S.2.2.1, 0, S.2.2.2.2) I τ ∧ Fg (inC z) φ τ ∧ hI τ z 12 = hI φ z 12 ∧ hI τ (z + 24) = hI φ (z + 24) := by
  obtain ⟨τ1, b1, G1, z1, i1, i2, p3, p4, pj, M1, m0, R1⟩ := bwd_1 C D c0
  obtain ⟨c1, c2, c3, ⟨t1, t2, t3, t4, t5, t6, t7⟩, ⟨⟨d1, d2, d3, d4⟩, ⟨e1, e2, e5, t, ht, e3, e4⟩, f1⟩, c6⟩ := C
  have pd := c1.pd
  have s1 : ∀ r, r ≠ z → ¬ (z + 30 ≤ r ∧ r ≤ z + 36) → Sm φ τ1 r := fun r h1 h2 => G1.2 r (fun h => by
    rcases h with h | h
    · exact h1 h
    · exact h2 ⟨h.1, by have := h.2; omega⟩)
  have a44 := s1 (z + 44) (by omega) (by omega)
  have h44 : hT τ1 (z + 44) = 3 := by rw [a44.1]; exact c3.1
  have Y1 : YSh τ1 (z + 182) := t4.sm (fun r q1 q2 => s1 r (by omega) (by omega))
  have ef : f_X2_forget (z + 44) τ1 = some (sI (sI τ1 (z + 44) 3 0) (z + 44) 4 0) := by
    unfold f_X2_forget f_X2_forget_0
    rw [if_pos h44, pI_k h44, osb, pI_k (σ := sI τ1 (z + 44) 3 0) h44, osb]
  have F6 : Fr (fun r => r = z + 44) τ1 (sI (sI τ1 (z + 44) 3 0) (z + 44) 4 0) := (Fr.s0 (S := fun r => r = z + 44) rfl).st rfl
  have i43 : hI (sI (sI τ1 (z + 44) 3 0) (z + 44) 4 0) (z + 44) 3 = 0 := by rw [hI_sIn (Or.inr (by omega)), hI_sIe]
  have i44 : hI (sI (sI τ1 (z + 44) 3 0) (z + 44) 4 0) (z + 44) 4 = 0 := hI_sIe
  have i42 : hI (sI (sI τ1 (z + 44) 3 0) (z + 44) 4 0) (z + 44) 2 = hI τ1 (z + 44) 2 := by rw [hI_sIn (Or.inr (by omega)), hI_sIn (Or.inr (by omega))]
  generalize sI (sI τ1 (z + 44) 3 0) (z + 44) 4 0 = φ6 at *
  have Y6 := Y1.fr F6
  have A6 : Fld φ6 (z + 182) 1 (z + 183) 22 16 := Y6.2.2.1
  have eg : f_X0_forget (z + 182) φ6 = some (sR φ6 (z + 183) (fil (hI φ6 (z + 183)) 0 (fun _ => 0) 16)) := by
    unfold f_X0_forget f_X0_forget_0
    rw [if_pos Y6.1, A6.r Y6.1, osb, fill_k A6.2.1 A6.2.2 (by omega) (by unfold aN; rw [if_pos (by rw [A6.2.1]; omega), A6.2.2]; rfl) 0, osb]
  have F7 : Fr (fun r => r = z + 183) φ6 (sR φ6 (z + 183) (fil (hI φ6 (z + 183)) 0 (fun _ => 0) 16)) := Fr.r0 (S := fun r => r = z + 183) rfl
  have i7 : ∀ s, s < 16 → hI (sR φ6 (z + 183) (fil (hI φ6 (z + 183)) 0 (fun _ => 0) 16)) (z + 183) s = 0 := fun s hs => by
    rw [hI_sRe]; unfold fil; rw [if_pos (by omega)]
  generalize sR φ6 (z + 183) (fil (hI φ6 (z + 183)) 0 (fun _ => 0) 16) = φ7 at *
  have F67 : Fr (fun r => r = z + 44 ∨ r = z + 183) τ1 φ7 := (F6.mono (fun r h => Or.inl h)).trans (F7.mono (fun r h => Or.inr h))
  have D7 : DC φ7 d c m nu ng := (D.of (fun r q1 q2 => s1 r (by omega) (by omega))).of (fun r q1 q2 => F67.sm (by omega))
  have K7 : Mc φ7 (z + 30) d c m t0E 0 nc := by
    have Rk0 : Rk c m t0E nc := told_ok (x := fun _ => 0) K (by omega) h24
    have X0 := Rk0.1.2.1
    rw [t0_n] at X0
    exact ⟨M1.fr F67, by rw [F67.2.2.1]; exact m0, D7.1, D7.pr N, K, R1.sm (fun r q1 q2 => F67.sm (by omega)), X0⟩
  obtain ⟨τ, w1, F8, FS⟩ := find_c (l := z + 180) (y := z + 194) K7 (by omega) (by omega) (by omega) N ((t3.sm (fun r q1 q2 => s1 r (by omega) (by omega))).fr F67) (by rw [F67.1, (s1 (z + 194) (by omega) (by omega)).1]; exact t5)
  have FT : Fr (fun r => r = z + 44 ∨ r = z + 183 ∨ inF (z + 194) (z + 180) r) τ1 τ := (F67.mono (fun r h => by rcases h with h | h; exact Or.inl h; exact Or.inr (Or.inl h))).trans (F8.mono (fun r h => Or.inr (Or.inr h)))
  have sT : ∀ r, r ≠ z + 44 → r ≠ z + 183 → r ≠ z + 194 → ¬ (z + 180 ≤ r ∧ r ≤ z + 181) → Sm τ1 τ r := fun r q1 q2 q3 q4 => FT.sm (fun h => by
    rcases h with h | h | h | h
    · exact q1 h
    · exact q2 h
    · exact q3 h
    · exact q4 h)
  have s8 : ∀ r, ¬ (z + 180 ≤ r ∧ r ≤ z + 181) → r ≠ z + 194 → Sm φ7 τ r := fun r q1 q2 => F8.sm (fun h => by
    rcases h with h | h
    · exact q2 h
    · exact q1 h)
  have zz := sT z (by omega) (by omega) (by omega) (by omega)
  have sa : ∀ r, r ≠ z → ¬ (z + 30 ≤ r ∧ r ≤ z + 36) → r ≠ z + 44 → r ≠ z + 183 → r ≠ z + 194 → ¬ (z + 180 ≤ r ∧ r ≤ z + 181) → Sm φ τ r := fun r q1 q2 q3 q4 q5 q6 => (s1 r q1 q2).trans (sT r q3 q4 q5 q6)
  have gj : ∀ j v, j ≠ 3 → j ≠ 4 → hP φ z j = some v → hP τ z j = some v := fun j v h3 h4 h => by rw [zz.2.2.2.1, pj j h3 h4]; exact h
  refine ⟨τ, ?_, ⟨⟨by rw [zz.1]; exact z1, ⟨gj 0 _ (by omega) (by omega) c1.2.1.1, by rw [(sa (z + 1) (by omega) (by omega) (by omega) (by omega) (by omega) (by omega)).1]; exact c1.2.1.2.1, by rw [(sa (z + 1) (by omega) (by omega) (by omega) (by omega) (by omega) (by omega)).2.1]; exact c1.2.1.2.2⟩, by rw [zz.2.2.2.1]; exact p3, by rw [zz.2.2.2.1]; exact p4, gj 5 _ (by omega) (by omega) c1.2.2.2.2.1, gj 6 _ (by omega) (by omega) c1.2.2.2.2.2.1, gj 7 _ (by omega) (by omega) c1.2.2.2.2.2.2.1, gj 8 _ (by omega) (by omega) c1.2.2.2.2.2.2.2.1, gj 9 _ (by omega) (by omega) c1.2.2.2.2.2.2.2.2.1, gj 10 _ (by omega) (by omega) c1.2.2.2.2.2.2.2.2.2.1, gj 11 _ (by omega) (by omega) c1.2.2.2.2.2.2.2.2.2.2.1, by have := c1.2.2.2.2.2.2.2.2.2.2.2; omega⟩, c2.mv (fun r q1 q2 => sa r (by omega) (by omega) (by omega) (by omega) (by omega) (by omega)), c3.mw (by rw [FT.1]; exact a44.1) (by rw [FT.2.2.1]; exact a44.2.2.2.1) (fun r q1 q2 => sa r (by omega) (by omega) (by omega) (by omega) (by omega) (by omega)) (fun k hk h => h.sm (fun r q1 q2 => sa r (by omega) (by omega) (by omega) (by omega) (by omega) (by omega))) (fun k hk h => h.sm (fun r q1 q2 => sa r (by omega) (by omega) (by omega) (by omega) (by omega) (by omega))), ⟨M1.fr FT, t2.sm (fun r q1 q2 => sa r (by omega) (by omega) (by omega) (by omega) (by omega) (by omega)), (t3.sm (fun r q1 q2 => s1 r (by omega) (by omega))).fr FT, Y1.fr FT, FS.1, t6.sm (fun r q1 q2 => sa r (by omega) (by omega) (by omega) (by omega) (by omega) (by omega)), t7.sm (fun r q1 q2 => sa r (by omega) (by omega) (by omega) (by omega) (by omega) (by omega))⟩, ⟨⟨by rw [zz.2.2.1, i1 1 (by omega)]; exact d1, by rw [zz.2.2.1, i2]; rfl, fun k hk => by rw [(sa (z + 1) (by omega) (by omega) (by omega) (by omega) (by omega) (by omega)).2.2.1]; exact d3 k hk, by rw [(sa (z + 24) (by omega) (by omega) (by omega) (by omega) (by omega) (by omega)).2.2.1]; exact d4⟩, ⟨?_, ?_, ⟨by show (0 : Nat) ≤ 16; omega, by show (0 : Nat) ≤ 3; omega⟩, t, ht, ?_, fun _ k hk => absurd (show k < 0 from hk) (by omega)⟩, fun _ => ⟨?_, fun k hk => absurd (show k < 0 from hk) (by omega), FS⟩⟩, fun _ s hs => Or.inl ?_⟩, ⟨by rw [FT.2.2.2.2.1]; exact G1.1, fun r hr => ?_⟩, by rw [zz.2.2.1]; exact i1 12 (by omega), (sa (z + 24) (by omega) (by omega) (by omega) (by omega) (by omega) (by omega)).2.2.1⟩
  · unfold f_X8_beginWithDraft f_X8_beginWithDraft_0
    rw [if_pos c1.1, b1, gR_k z1 ((pj 8 (by omega) (by omega)).trans c1.2.2.2.2.2.2.2.1), osb, ef, osb]
    have z6 : hT φ6 z = 9 := by rw [F6.1]; exact z1
    have z7 : hT φ7 z = 9 := by rw [F67.1]; exact z1
    have hp7 : hP φ7 z = hP τ1 z := by rw [F67.2.2.1]
    rw [gR_k z6 (show hP φ6 z 10 = some (z + 182) by rw [F6.2.2.1]; exact (pj 10 (by omega) (by omega)).trans c1.2.2.2.2.2.2.2.2.2.1), osb, eg, osb]
    rw [gR_k z7 (show hP φ7 z 11 = some (z + 194) by rw [hp7]; exact (pj 11 (by omega) (by omega)).trans c1.2.2.2.2.2.2.2.2.2.2.1), osb, gR_k z7 (show hP φ7 z 3 = some d by rw [hp7]; exact p3), osb, gR_k z7 (show hP φ7 z 9 = some (z + 180) by rw [hp7]; exact (pj 9 (by omega) (by omega)).trans c1.2.2.2.2.2.2.2.2.1), osb, w1, osb]
  · rw [(s8 (z + 44) (by omega) (by omega)).2.2.1, F7.2.2.2.2.2 _ (by omega)]; exact i43.trans nI_0.symm
  · rw [(s8 (z + 44) (by omega) (by omega)).2.2.1, F7.2.2.2.2.2 _ (by omega)]; exact i44.trans nI_0.symm
  · rw [(s8 (z + 44) (by omega) (by omega)).2.2.1, F7.2.2.2.2.2 _ (by omega), i42, a44.2.2.1]; exact e3
  · have := K7.sm (fun r q1 q2 => s8 r (by omega) (by omega)) (fun r q1 q2 => s8 r (by omega) (by omega))
    show Mc τ (z + 30) d c m t0E (nN t0E) nc
    rw [t0_n]; exact this
  · rw [(s8 (z + 182 + 1) (by omega) (by omega)).2.2.1]; exact i7 s hs
  · have : r < z ∨ z + 194 < r := by
      by_cases q : z ≤ r
      · exact Or.inr (Nat.lt_of_not_le (fun q2 => hr ⟨q, q2⟩))
      · exact Or.inl (by omega)
    exact sa r (by omega) (by omega) (by omega) (by omega) (by omega) (by omega)
end Bwd
