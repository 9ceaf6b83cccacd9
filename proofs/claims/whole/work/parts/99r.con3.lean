/-! THE CLASS's constructor -/
section Con3
variable {σ0 σ τ υ : St} {a f t n k j f' r t' n' ty b : Nat}
theorem zinit_k (σ : St) : ∃ τ, f_X8_init (hZ σ) (nw σ 9 0) = some τ ∧ Zs (hZ σ) (hZ σ + 2) (hZ σ + 13) τ ∧ Rds (hZ σ) τ ∧ His (hZ σ) τ ∧ Tls (hZ σ) τ ∧ NwB σ τ 195 := by
  have B0 := Bt.new σ 9 0
  unfold NwB
  generalize hZ σ = z at B0 ⊢
  unfold f_X8_init f_X8_init_0
  rw [if_pos B0.2.1]
  generalize nw σ 9 0 = σ0 at B0 ⊢
  -- the tape
  have B1 := B0.go (f := 0) (t := 21) (n := 900)
  have a1 := B0.fld (f := 0) (t := 21) (n := 900)
  rw [B0.st]
  generalize nwF σ0 z 0 21 900 = σ1 at B1 a1 ⊢
  replace B1 : Bt σ σ1 z 9 2 := B1
  -- the program
  obtain ⟨τ, m1, x2, m3⟩ := pinit_k σ1
  rw [bndu, m1, osb]
  have hz := B1.2.2.1
  rw [hz] at x2 ⊢
  obtain ⟨B2, p2, q2, s2, e2, w2⟩ := B1.sub m3 3
  rw [w2, osb]
  replace x2 := x2.sm (fun r h1 h2 => e2 r (by omega))
  generalize sP τ z 3 (some (z + 2)) = σ2 at B2 p2 q2 s2 x2 ⊢
  clear e2 w2 m1 m3 hz τ
  replace B2 : Bt σ σ2 z 9 13 := B2
  -- the draft
  obtain ⟨τ, m1, x3, m3⟩ := pinit_k σ2
  rw [bndu, m1, osb]
  have hz := B2.2.2.1
  rw [hz] at x3 ⊢
  obtain ⟨B3, p3, q3, s3, e3, w3⟩ := B2.sub m3 4
  rw [w3, osb]
  replace x3 := x3.sm (fun r h1 h2 => e3 r (by omega))
  generalize sP τ z 4 (some (z + 13)) = σ3 at B3 p3 q3 s3 x3 ⊢
  clear e3 w3 m1 m3 hz τ
  replace B3 : Bt σ σ3 z 9 24 := B3
  have p33 : hP σ3 z 3 = some (z + 2) := (q3 3 (by omega)).trans p2
  -- the Reader
  obtain ⟨τ, m1, x4, m3⟩ := rinit_k σ3 (z + 13)
  rw [bndu, B3.nr p3, osb, m1, osb]
  have hz := B3.2.2.1
  rw [hz] at x4 ⊢
  obtain ⟨B4, p4, q4, s4, e4, w4⟩ := B3.sub m3 5
  rw [w4, osb]
  replace x4 : hT (sP τ z 5 (some (z + 24))) (z + 24) = 7 ∧ hP (sP τ z 5 (some (z + 24))) (z + 24) 3 = some (z + 26) ∧ TSh (sP τ z 5 (some (z + 24))) (z + 26) := ⟨by rw [(e4 (z + 24) (by omega)).1]; exact x4.1, by rw [(e4 (z + 24) (by omega)).2.2.2.1]; exact x4.2.1, x4.2.2.sm (fun r h1 h2 => e4 r (by omega))⟩
  generalize sP τ z 5 (some (z + 24)) = σ4 at B4 p4 q4 s4 x4 ⊢
  clear e4 w4 m1 m3 hz τ
  replace B4 : Bt σ σ4 z 9 30 := B4
  have p34 : hP σ4 z 3 = some (z + 2) := (q4 3 (by omega)).trans p33
  -- the machine
  obtain ⟨τ, m1, x5, m3⟩ := minit_k σ4 (z + 2)
  rw [bndu, B4.nr p34, osb, m1, osb]
  have hz := B4.2.2.1
  rw [hz] at x5 ⊢
  obtain ⟨B5, p5, q5, s5, e5, w5⟩ := B4.sub m3 6
  rw [w5, osb]
  replace x5 := x5.sm (fun r h1 h2 => e5 r (by omega))
  generalize sP τ z 6 (some (z + 30)) = σ5 at B5 p5 q5 s5 x5 ⊢
  clear e5 w5 m1 m3 hz τ
  replace B5 : Bt σ σ5 z 9 37 := B5
  have p35 : hP σ5 z 3 = some (z + 2) := (q5 3 (by omega)).trans p34
  -- the drawn one
  obtain ⟨τ, m1, x6, m3⟩ := minit_k σ5 (z + 2)
  rw [bndu, B5.nr p35, osb, m1, osb]
  have hz := B5.2.2.1
  rw [hz] at x6 ⊢
  obtain ⟨B6, p6, q6, s6, e6, w6⟩ := B5.sub m3 7
  rw [w6, osb]
  replace x6 := x6.sm (fun r h1 h2 => e6 r (by omega))
  generalize sP τ z 7 (some (z + 37)) = σ6 at B6 p6 q6 s6 x6 ⊢
  clear e6 w6 m1 m3 hz τ
  replace B6 : Bt σ σ6 z 9 44 := B6
  have p36 : hP σ6 z 3 = some (z + 2) := (q6 3 (by omega)).trans p35
  -- the history
  obtain ⟨τ, m1, x7, m3⟩ := hinit_k σ6 (z + 2)
  rw [bndu, B6.nr p36, osb, m1, osb]
  have hz := B6.2.2.1
  rw [hz] at x7 ⊢
  obtain ⟨B7, p7, q7, s7, e7, w7⟩ := B6.sub m3 8
  rw [w7, osb]
  replace x7 := x7.sm (fun r h1 h2 => e7 r (by omega))
  generalize sP τ z 8 (some (z + 44)) = σ7 at B7 p7 q7 s7 x7 ⊢
  clear e7 w7 m1 m3 hz τ
  replace B7 : Bt σ σ7 z 9 180 := B7
  have p37 : hP σ7 z 3 = some (z + 2) := (q7 3 (by omega)).trans p36
  -- the plain machine
  obtain ⟨τ, m1, x8, m3⟩ := linit_k σ7
  rw [bndu, m1, osb]
  have hz := B7.2.2.1
  rw [hz] at x8 ⊢
  obtain ⟨B8, p8, q8, s8, e8, w8⟩ := B7.sub m3 9
  rw [w8, osb]
  replace x8 := x8.sm (fun r h1 h2 => e8 r (by omega))
  generalize sP τ z 9 (some (z + 180)) = σ8 at B8 p8 q8 s8 x8 ⊢
  clear e8 w8 m1 m3 hz τ
  replace B8 : Bt σ σ8 z 9 182 := B8
  have p38 : hP σ8 z 3 = some (z + 2) := (q8 3 (by omega)).trans p37
  -- the cycles
  obtain ⟨τ, m1, x9, m3⟩ := yinit_k σ8 (z + 2)
  rw [bndu, B8.nr p38, osb, m1, osb]
  have hz := B8.2.2.1
  rw [hz] at x9 ⊢
  obtain ⟨B9, p9, q9, s9, e9, w9⟩ := B8.sub m3 10
  rw [w9, osb]
  replace x9 := x9.sm (fun r h1 h2 => e9 r (by omega))
  generalize sP τ z 10 (some (z + 182)) = σ9 at B9 p9 q9 s9 x9 ⊢
  clear e9 w9 m1 m3 hz τ
  replace B9 : Bt σ σ9 z 9 194 := B9
  -- the fits
  have m3 : NwB σ9 (nw σ9 2 0) 1 := NwB.arr
  have ht : hT (nw σ9 2 0) (hZ σ9) = 2 := if_pos rfl
  have m1 : f_X1_init (hZ σ9) (nw σ9 2 0) = some (nw σ9 2 0) := by
    unfold f_X1_init f_X1_init_0
    rw [if_pos ht]
  rw [bndu, m1, osb]
  have hz := B9.2.2.1
  rw [hz] at ht ⊢
  obtain ⟨BA, pA, qA, sA, eA, wA⟩ := B9.sub m3 11
  rw [wA, osb]
  have xA : hT (sP (nw σ9 2 0) z 11 (some (z + 194))) (z + 194) = 2 := ht
  generalize sP (nw σ9 2 0) z 11 (some (z + 194)) = σA at BA pA qA sA xA ⊢
  clear eA wA m1 m3 hz ht
  replace BA : Bt σ σA z 9 195 := BA
  rw [pZ_k BA.2.1 (Or.inl rfl), osb, pI_k (σ := sI σA z 2 0) BA.2.1, osb, pI_k (σ := sI (sI σA z 2 0) z 1 0) BA.2.1, osb]
  have BE := ((BA.z 2).z 1).z 12
  have G : Fr (fun r => r = z) σA (sI (sI (sI σA z 2 0) z 1 0) z 12 0) := ((Fr.s0 (S := fun r => r = z) rfl).st rfl).st rfl
  generalize sI (sI (sI σA z 2 0) z 1 0) z 12 0 = σE at BE G ⊢
  have tA : ∀ r, r ≠ z → Sm σA σE r := fun r hr => G.sm hr
  have t9 : ∀ r, r < z + 194 → r ≠ z → Sm σ9 σE r := fun r h1 h2 => (sA r h1 h2).trans (tA r h2)
  have t8 : ∀ r, r < z + 182 → r ≠ z → Sm σ8 σE r := fun r h1 h2 => (s9 r h1 h2).trans (t9 r (by omega) h2)
  have t7 : ∀ r, r < z + 180 → r ≠ z → Sm σ7 σE r := fun r h1 h2 => (s8 r h1 h2).trans (t8 r (by omega) h2)
  have t6 : ∀ r, r < z + 44 → r ≠ z → Sm σ6 σE r := fun r h1 h2 => (s7 r h1 h2).trans (t7 r (by omega) h2)
  have t5 : ∀ r, r < z + 37 → r ≠ z → Sm σ5 σE r := fun r h1 h2 => (s6 r h1 h2).trans (t6 r (by omega) h2)
  have t4 : ∀ r, r < z + 30 → r ≠ z → Sm σ4 σE r := fun r h1 h2 => (s5 r h1 h2).trans (t5 r (by omega) h2)
  have t3 : ∀ r, r < z + 24 → r ≠ z → Sm σ3 σE r := fun r h1 h2 => (s4 r h1 h2).trans (t4 r (by omega) h2)
  have t2 : ∀ r, r < z + 13 → r ≠ z → Sm σ2 σE r := fun r h1 h2 => (s3 r h1 h2).trans (t3 r (by omega) h2)
  have t1 : ∀ r, r < z + 2 → r ≠ z → Sm σ1 σE r := fun r h1 h2 => (s2 r h1 h2).trans (t2 r (by omega) h2)
  have uA : hP σE z = hP σA z := by rw [G.2.2.1]
  have u9 : ∀ q, q < 11 → hP σE z q = hP σ9 z q := fun q hq => by rw [uA, qA q (by omega)]
  have u8 : ∀ q, q < 10 → hP σE z q = hP σ8 z q := fun q hq => by rw [u9 q (by omega), q9 q (by omega)]
  have u7 : ∀ q, q < 9 → hP σE z q = hP σ7 z q := fun q hq => by rw [u8 q (by omega), q8 q (by omega)]
  have u6 : ∀ q, q < 8 → hP σE z q = hP σ6 z q := fun q hq => by rw [u7 q (by omega), q7 q (by omega)]
  have u5 : ∀ q, q < 7 → hP σE z q = hP σ5 z q := fun q hq => by rw [u6 q (by omega), q6 q (by omega)]
  have u4 : ∀ q, q < 6 → hP σE z q = hP σ4 z q := fun q hq => by rw [u5 q (by omega), q5 q (by omega)]
  have u3 : ∀ q, q < 5 → hP σE z q = hP σ3 z q := fun q hq => by rw [u4 q (by omega), q4 q (by omega)]
  have u2 : ∀ q, q < 4 → hP σE z q = hP σ2 z q := fun q hq => by rw [u3 q (by omega), q3 q (by omega)]
  have u1 : ∀ q, q < 3 → hP σE z q = hP σ1 z q := fun q hq => by rw [u2 q (by omega), q2 q (by omega)]
  refine ⟨σE, rfl, ⟨BE.2.1, a1.sb (u1 0 (by omega)) (t1 (z + 1) (by omega) (by omega)), by rw [u2 3 (by omega)]; exact p2, by rw [u3 4 (by omega)]; exact p3, by rw [u4 5 (by omega)]; exact p4, by rw [u5 6 (by omega)]; exact p5, by rw [u6 7 (by omega)]; exact p6, by rw [u7 8 (by omega)]; exact p7, by rw [u8 9 (by omega)]; exact p8, by rw [u9 10 (by omega)]; exact p9, by rw [uA]; exact pA, Or.inl ⟨rfl, rfl⟩⟩, ?_, ?_, ⟨x5.sm (fun r h1 h2 => t5 r (by omega) (by omega)), x6.sm (fun r h1 h2 => t6 r (by omega) (by omega)), x8.sm (fun r h1 h2 => t8 r (by omega) (by omega)), x9.sm (fun r h1 h2 => t9 r (by omega) (by omega)), by rw [(tA (z + 194) (by omega)).1]; exact xA, x2.sm (fun r h1 h2 => t2 r (by omega) (by omega)), x3.sm (fun r h1 h2 => t3 r (by omega) (by omega))⟩, BE.1, BE.2.2.1, BE.2.2.2.2⟩
  · have y := x4.2.2.sm (fun r h1 h2 => t4 r (by omega) (by omega))
    have v := t4 (z + 24) (by omega) (by omega)
    exact ⟨by rw [v.1]; exact x4.1, by rw [v.2.2.2.1]; exact x4.2.1, y.1, y.2.1, y.2.2.1, y.2.2.2⟩
  · have y := x7.sm (fun r h1 h2 => t7 r (by omega) (by omega))
    exact y
end Con3
