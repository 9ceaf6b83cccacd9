/-! THE CLASS tells a core -/
section Ccr
variable {σ τ υ φ : St} {z p d L m nu ng nc : Nat} {P : PT} {S : SX} {I : IT} {tr wh : Int32} {c : Cc} {B : Nat}
theorem Fld.tp {a k b t n : Nat} (h : Fld σ a k b t n) (h1 : hT τ = hT σ) (h2 : hN τ = hN σ) (h3 : ∀ j, hP τ a j = hP σ a j) : Fld τ a k b t n := ⟨(h3 k).trans h.1, by rw [h1]; exact h.2.1, by rw [h2]; exact h.2.2⟩
theorem PSh.tp {a : Nat} (h : PSh σ a) (h1 : hT τ = hT σ) (h2 : hN τ = hN σ) (h3 : ∀ j, hP τ a j = hP σ a j) : PSh τ a := by
  obtain ⟨a, f1, f2, f3, f4, f5, f6, f7, f8, f9, f10⟩ := h
  exact ⟨by rw [h1]; exact a, f1.tp h1 h2 h3, f2.tp h1 h2 h3, f3.tp h1 h2 h3, f4.tp h1 h2 h3, f5.tp h1 h2 h3, f6.tp h1 h2 h3, f7.tp h1 h2 h3, f8.tp h1 h2 h3, f9.tp h1 h2 h3, f10.tp h1 h2 h3⟩
theorem CB.dsh (C : CB z p d P S I σ) : PSh σ d := by
  obtain ⟨c1, c2, c3, ⟨t1, t2, t3, t4, t5, t6, t7⟩, c5⟩ := C
  rcases c1.2.2.2.2.2.2.2.2.2.2.2 with h | h
  · rw [h.2]; exact t7
  · rw [h.2]; exact t6
/-- the draft, the Reader and its tokens may change -/
theorem CB.rdd (C : CB z p d P S I σ) (s : ∀ r, inC z r → r ≠ z → r ≠ z + 24 → ¬ (z + 26 ≤ r ∧ r ≤ z + 29) → ¬ (d ≤ r ∧ r ≤ d + 10) → Sm σ τ r) (h1 : hT τ z = hT σ z) (h2 : hP τ z = hP σ z) (h3 : hI τ z 2 = hI σ z 2) (r24 : Rds z τ) (pdd : PSh τ d) {t' : Nat} {f' : Int32} (h4 : hI τ z 1 = nI t') (h5 : hI τ (z + 24) 0 = f') : CB z p d P S (I.1, t', f') τ := by
  obtain ⟨c1, c2, c3, ⟨t1, t2, t3, t4, t5, t6, t7⟩, ⟨⟨d1, d2, d3, d4⟩, ⟨e1, e2, e5, t, ht, e3, e4⟩, f1⟩, c6⟩ := C
  have pd := c1.pd
  have pq := c1.2.2.2.2.2.2.2.2.2.2.2
  have s2 : ∀ r, z + 30 ≤ r → r ≤ z + 194 → Sm σ τ r := fun r q1 q2 => s r ⟨by omega, by omega⟩ (by omega) (by omega) (by omega) (by omega)
  have s1 : Sm σ τ (z + 1) := s _ ⟨by omega, by omega⟩ (by omega) (by omega) (by omega) (by omega)
  have sp : ∀ r, p ≤ r → r ≤ p + 10 → Sm σ τ r := fun r q1 q2 => s r ⟨by omega, by omega⟩ (by omega) (by omega) (by omega) (by omega)
  have mm : ∀ a yy, (z + 30 ≤ a ∧ a + 6 ≤ z + 194) → Mq P p σ a yy → Mq P p τ a yy := fun a yy ha M => Mc.sm M (fun r q1 q2 => s2 r (by omega) (by omega)) sp
  have pp : PSh τ (z + 2) ∧ PSh τ (z + 13) := by
    rcases pq with h | h
    · exact ⟨t6.sm (fun r q1 q2 => sp r (by omega) (by omega)), by rw [← h.2]; exact pdd⟩
    · exact ⟨by rw [← h.2]; exact pdd, t7.sm (fun r q1 q2 => sp r (by omega) (by omega))⟩
  refine ⟨c1.mv h1 h2 s1, r24, c3.mv (fun r q1 q2 => s2 r (by omega) (by omega)) (fun k hk h => h.sm (fun r q1 q2 => s2 r (by omega) (by omega))) (fun k hk h => h.sm (fun r q1 q2 => s2 r (by omega) (by omega))), ⟨t1.sm (fun r q1 q2 => s2 r (by omega) (by omega)), t2.sm (fun r q1 q2 => s2 r (by omega) (by omega)), t3.sm (fun r q1 q2 => s2 r (by omega) (by omega)), t4.sm (fun r q1 q2 => s2 r (by omega) (by omega)), by rw [(s2 (z + 194) (by omega) (by omega)).1]; exact t5, pp.1, pp.2⟩, ⟨⟨h4, by rw [h3]; exact d2, fun k hk => by rw [s1.2.2.1]; exact d3 k hk, h5⟩, ⟨by rw [(s2 (z + 44) (by omega) (by omega)).2.2.1]; exact e1, by rw [(s2 (z + 44) (by omega) (by omega)).2.2.1]; exact e2, e5, t, ht, by rw [(s2 (z + 44) (by omega) (by omega)).2.2.1]; exact e3, fun hT k hk => mm _ _ ⟨by omega, by have := Nat.mod_lt (t + 16 - S.2.1 + k) (show 16 > 0 by omega); omega⟩ (e4 hT k hk)⟩, fun hT => ⟨mm _ _ ⟨by omega, by omega⟩ (f1 hT).1, fun k hk => mm _ _ ⟨by omega, by have := e5.2; omega⟩ ((f1 hT).2.1 k hk), (f1 hT).2.2.sm (s2 _ (by omega) (by omega))⟩⟩, fun hT => (c6 hT).sm (fun r q1 q2 => s2 r (by omega) (by omega))⟩
theorem rdc_c (C : CB z p d P S I σ) (hL : L ≤ 900) : ∃ τ, f_X6_reads (z + 24) (z + 1) (nI L) d σ = some (b2i (okS (pAll I.1 L (L + 1) false ((fun _ _ => 0), 0, 0, 0) (bkE I.1 L 0))), τ) ∧ Fg (inC z) σ τ ∧ CB z p d P S (I.1, 0, hI τ (z + 24) 0) (sI τ z 1 0) ∧ hT τ z = 9 ∧ OutR τ (z + 24) (pAll I.1 L (L + 1) false ((fun _ _ => 0), 0, 0, 0) (bkE I.1 L 0)) (fun s' => DC τ d s'.1 s'.2.1 s'.2.2.1 s'.2.2.2 ∧ hI τ (z + 24) 0 = 0) := by
  have PD := C.dsh
  obtain ⟨c1, c2, -, -, c5, -⟩ := id C
  have pd := c1.pd
  obtain ⟨τ, t1, F, O⟩ := srd_c (σ := σ) (Y := z + 24) (T := z + 1) (X := z + 26) (d := d) (L := L) (b := I.1) c2.1 c2.2.1 ⟨c1.2.1.2.1, c1.2.1.2.2, hL, c5.1.2.2.1⟩ ⟨c2.2.2.1, c2.2.2.2.1, c2.2.2.2.2.1, c2.2.2.2.2.2⟩ PD ⟨by omega, by omega, by omega, by omega⟩
  have G : Fg (fun r => r = z + 24 ∨ (iYD (z + 24) d r ∨ inX (z + 26) r)) σ τ := ((Fg.sP (Or.inl rfl)).trans (Fg.sP (Or.inl rfl))).trans (F.g.mono (fun r h => Or.inr h))
  have no : ∀ r, r ≠ z + 24 → ¬ (z + 26 ≤ r ∧ r ≤ z + 29) → ¬ (d ≤ r ∧ r ≤ d + 10) → Sm σ τ r := fun r q1 q2 q3 => G.2 r (fun h => by
    rcases h with h | h | h
    · exact q1 h
    · rcases h with h | h
      · exact q1 h
      · exact q3 h
    · exact q2 ⟨h.1, h.2⟩)
  have sz := no z (by omega) (by omega) (by omega)
  have hpp : ∀ r, r ≠ z + 24 → hP τ r = hP σ r := fun r hr => by
    rw [F.2.2.1]; funext j
    rw [hP_sPn (Or.inl hr), hP_sPn (Or.inl hr)]
  have Rt : Rds z τ := by
    have hx : ∀ j, hP τ (z + 26) j = hP σ (z + 26) j := fun j => by rw [hpp _ (by omega)]
    refine ⟨by rw [F.1]; exact c2.1, ?_, by rw [F.1]; exact c2.2.2.1, c2.2.2.2.1.tp F.1 F.2.1 hx, c2.2.2.2.2.1.tp F.1 F.2.1 hx, c2.2.2.2.2.2.tp F.1 F.2.1 hx⟩
    rw [F.2.2.1, hP_sPn (Or.inr (by omega)), hP_sPn (Or.inr (by omega))]
    exact c2.2.1
  have Pt : PSh τ d := PD.tp F.1 F.2.1 (fun j => by rw [hpp _ (by omega)])
  have F1 : Fr (fun r => r = z) τ (sI τ z 1 0) := Fr.s0 rfl
  refine ⟨τ, t1, G.mono (fun r h => ?_), ?_, by rw [sz.1]; exact c1.1, O⟩
  · rcases h with h | h | h
    · exact ⟨by omega, by omega⟩
    · rcases h with h | h
      · exact ⟨by omega, by omega⟩
      · exact ⟨by omega, by omega⟩
    · exact ⟨by have := h.1; omega, by have := h.2; omega⟩
  · refine C.rdd (fun r q0 q1 q2 q3 q4 => (no r q2 q3 q4).trans (F1.sm q1)) sz.1 sz.2.2.2.1 ?_ (Rt.mv (fun r q1 q2 => F1.sm (by omega))) (Pt.fr F1) (by rw [hI_sIe]; exact nI_0.symm) (by rw [hI_sIr (by omega)])
    rw [hI_sIn (Or.inr (by omega)), sz.2.2.1]
end Ccr
