/-! core, on both sides -/
section Cor
variable {σ τ υ φ : St} {z p d L m nu ng nc M : Nat} {P : PT} {S : SX} {I : IT} {tr wh : Int32} {c : Cc} {B : Nat} {e : Flt} {s : PS}
theorem core_ce (C : CJ z p d P S I tr wh σ) (hL : L ≤ I.2.1) (h9 : I.2.1 ≤ 900) (hR : pAll I.1 L (L + 1) false ((fun _ _ => 0), 0, 0, 0) (bkE I.1 L 0) = .inl e) : ∃ τ, f_X8_core z (nI L) σ = some (-1, τ) ∧ CJ z p d P S (I.1, 0, e.1) 4 (nI e.2) τ ∧ Fg (inC z) σ τ := by
  have zt := C.1.zt
  have C1 := C.1.s12 0
  obtain ⟨τ, t1, G, Cτ, zt', O⟩ := rdc_c (L := L) C1 (by omega)
  rw [hR] at t1 O
  have O1 : hI τ (z + 24) 0 = e.1 := O.1
  have O2 : hI τ (z + 24) 1 = nI e.2 := O.2
  rw [O1] at Cτ
  have zt1 : hT (sI σ z 12 0) z = 9 := zt
  have zt2 : hT (sI τ z 1 0) z = 9 := zt'
  refine ⟨sI (sI τ z 1 0) z 12 4, ?_, ⟨Cτ.s12 4, hI_sIe, ?_⟩, ((fg_c 0).trans G).trans ((Fg.sI ⟨by omega, by omega⟩).trans (fg_c 4))⟩
  · unfold f_X8_core f_X8_core_0
    rw [if_pos zt, if_neg (nI_pos (by omega)), gI_k zt, osb, C.1.2.2.2.2.1.1.1, if_pos (nI_le hL (by omega))]
    unfold f_X8_core_18
    rw [ref_0 zt, osb]
    dsimp only
    rw [if_pos rfl, gR_k zt1 C1.1.2.2.2.2.1, osb, gR_k zt1 C1.1.2.1.1, osb, gR_k zt1 C1.1.2.2.2.1, osb, t1, osb]
    dsimp only
    rw [pI_k zt', osb, if_pos (show b2i (okS (.inl e : Flt ⊕ PS)) = 0 from rfl)]
    unfold f_X8_core_59
    rw [ref_1 zt2, osb]
    dsimp only
    rw [if_neg (show ¬ (1 : Int32) = 0 by decide)]
  · rw [if_pos rfl, hI_sIr (by omega), hI_sIr (by omega)]; exact O2
theorem core_cs (C : CJ z p d P S I tr wh σ) (hL : L ≤ I.2.1) (h9 : I.2.1 ≤ 900) (hR : pAll I.1 L (L + 1) false ((fun _ _ => 0), 0, 0, 0) (bkE I.1 L 0) = .inr s) (G : Gs s) (c0 : s.1 0 0 = nI nc) (n9 : 9 ≤ nc) (n24 : nc ≤ 24) : ∃ τ, f_X8_core z (nI L) σ = some (s.1 0 5, τ) ∧ CJ z d p (true, s.1, s.2.1, s.2.2.1, s.2.2.2, nc) (t0E, 0, S.2.2.1, 0, S.2.2.2.2) (I.1, 0, 0) 0 (-1) τ ∧ Fg (inC z) σ τ := by
  have zt := C.1.zt
  have C1 := C.1.s12 0
  obtain ⟨τ, t1, G1, Cτ, zt', O⟩ := rdc_c (L := L) C1 (by omega)
  rw [hR] at t1 O
  have O1 : DC τ d s.1 s.2.1 s.2.2.1 s.2.2.2 := O.1
  have O2 : hI τ (z + 24) 0 = 0 := O.2
  rw [O2] at Cτ
  have zt1 : hT (sI σ z 12 0) z = 9 := zt
  have zt2 : hT (sI τ z 1 0) z = 9 := zt'
  have C2 := Cτ.s12 0
  have pd := C.1.1.pd
  have D2 : DC (sI (sI τ z 1 0) z 12 0) d s.1 s.2.1 s.2.2.1 s.2.2.2 := O1.of (fun r q1 q2 => (Fg.sI (S := fun r => r = z) rfl).2 r (by omega) |>.trans ((Fg.sI (S := fun r => r = z) rfl).2 r (by omega)))
  obtain ⟨υ, u1, u2, u3, u4, u5⟩ := bwd_c C2 D2 G.1 G.2.1 c0 n9 n24
  have D3 := u2.2.2.2.2.1.2.2 rfl
  have PQ : PSh υ d ∧ PR s.1 s.2.1 υ d := ⟨D3.1.2.2.1, D3.1.2.2.2.1⟩
  refine ⟨υ, ?_, ⟨u2, by rw [u4]; exact hI_sIe, by rw [if_neg (by decide)]⟩, (((fg_c 0).trans G1).trans ((Fg.sI ⟨by omega, by omega⟩).trans (fg_c 0))).trans u3⟩
  unfold f_X8_core f_X8_core_0
  rw [if_pos zt, if_neg (nI_pos (by omega)), gI_k zt, osb, C.1.2.2.2.2.1.1.1, if_pos (nI_le hL (by omega))]
  unfold f_X8_core_18
  rw [ref_0 zt, osb]
  dsimp only
  rw [if_pos rfl, gR_k zt1 C1.1.2.2.2.2.1, osb, gR_k zt1 C1.1.2.1.1, osb, gR_k zt1 C1.1.2.2.2.1, osb, t1, osb]
  dsimp only
  rw [pI_k zt', osb, if_neg (show ¬ b2i (okS (.inr s : Flt ⊕ PS)) = 0 by show ¬ (1 : Int32) = 0; decide)]
  unfold f_X8_core_59
  rw [ref_0 zt2, osb]
  dsimp only
  rw [if_pos rfl, u1, osb, gR_k u2.1.1 u2.1.2.2.1, osb, gI_k PQ.1.1, osb, PQ.2.1.2.2.2.2.2.1]
theorem RB.rdd (R : RB M P S I σ) (hz : hZ σ ≤ hZ τ) (sm : ∀ r, r < hZ σ → r ≠ M → Sm σ τ r) (h0 : hT τ M = 11) (hp : ∀ j, j ≠ 4 → hP τ M j = hP σ M j) (h24 : hI τ M 24 = hI σ M 24) (h25 : hI τ M 25 = hI σ M 25) {t' : Nat} {f' : Int32} (h6 : hI τ M 6 = nI t') (h12 : hI τ M 12 = f') : RB M P S (I.1, t', f') τ := by
  obtain ⟨⟨hzz, r0, r1, r2, r3, r4, r5, r6, r7⟩, ⟨d1, d2, d3, d4⟩, e1, e2, e3, e4, e5⟩ := R
  have f : ∀ {k b t N : Nat}, k ≠ 4 → b ≠ M → b < M + 9 → Fld σ M k b t N → Fld τ M k b t N := fun {k b t N} hk hb hb9 F => by
    have := sm b (by omega) hb
    exact ⟨by rw [hp k hk]; exact F.1, by rw [this.1]; exact F.2.1, by rw [this.2.1]; exact F.2.2⟩
  refine ⟨⟨by omega, h0, f (by omega) (by omega) (by omega) r1, f (by omega) (by omega) (by omega) r2, f (by omega) (by omega) (by omega) r3, f (by omega) (by omega) (by omega) r4, f (by omega) (by omega) (by omega) r5, f (by omega) (by omega) (by omega) r6, f (by omega) (by omega) (by omega) r7⟩, ⟨h6, h12, by rw [h24]; exact d3, by rw [h25]; exact d4⟩, fun k hk => by rw [(sm (M + 1) (by omega) (by omega)).2.2.1]; exact e1 k hk, fun j hj => by rw [(sm (M + 3) (by omega) (by omega)).2.2.1]; exact e2 j hj, fun j hj => by rw [(sm (M + 4) (by omega) (by omega)).2.2.1]; exact e3 j hj, fun hP => by rw [hp 3 (by omega)]; exact e4 hP, fun hP => ?_⟩
  obtain ⟨⟨k, k1, k2, k3, k4, k5⟩, g1, g2, g3⟩ := e5 hP
  have sk : ∀ r, k ≤ r → r ≤ k + 10 → Sm σ τ r := fun r q1 q2 => sm r (by omega) (by omega)
  exact ⟨⟨k, by rw [hp 3 (by omega)]; exact k1, k2.sm sk, k3.sm sk, k4, by omega⟩, by rw [(sm (M + 3) (by omega) (by omega)).2.2.1]; exact g1, fun i hi j hj => by rw [(sm (M + 5) (by omega) (by omega)).2.2.1]; exact g2 i hi j hj, fun i hi j hj => by rw [(sm (M + 6) (by omega) (by omega)).2.2.1]; exact g3 i hi j hj⟩
theorem core_re (R : RJ M P S I tr wh σ) (hL : L ≤ I.2.1) (h9 : I.2.1 ≤ 900) (hj : ∀ k, k < 900 → jb (I.1 k) = I.1 k) (hR : pAll I.1 L (L + 1) false ((fun _ _ => 0), 0, 0, 0) (bkE I.1 L 0) = .inl e) : ∃ τ, f_X10_core M (nI L) σ = some (-1, τ) ∧ RJ M P S (I.1, 0, e.1) 4 (nI e.2) τ ∧ hZ τ = hZ σ + 11 ∧ ∀ r, r < hZ σ → ¬ inR M r → Sm σ τ r := by
  have t0 := R.1.t
  have t1 : hT (sI σ M 0 0) M = 11 := t0
  have F1 : Fr (fun r => r = M) σ (sI σ M 0 0) := Fr.s0 rfl
  have R1 : RB M P S I (sI σ M 0 0) := R.1.rs (RS.s0 (by omega))
  obtain ⟨ψ, e1, hz, sm, h0, hn, hp, hi, h6, O⟩ := rcr_k (σ := sI σ M 0 0) (M := M) (L := L) (b := I.1) t1 R1.1.2.2.1 (by omega) R1.2.2.1 hj R1.1.1
  rw [hR] at O
  have O12 : hI ψ M 12 = e.1 := O.2.2.1
  have O13 : hI ψ M 13 = nI e.2 := O.2.2.2
  have F2 : Fr (fun r => r = M) ψ (sI (sI ψ M 1 4) M 2 (nI e.2)) := (Fr.s0 (S := fun r => r = M) rfl).st rfl
  have h0' : hT (sI ψ M 1 4) M = 11 := h0
  refine ⟨sI (sI ψ M 1 4) M 2 (nI e.2), ?_, ⟨R1.rdd (by show hZ (sI σ M 0 0) ≤ hZ ψ; omega) (fun r q1 q2 => (sm r q1 q2).trans (F2.sm q2)) h0 hp ?_ ?_ (t' := 0) ?_ ?_, by rw [hI_sIn (Or.inr (by omega)), hI_sIe], hI_sIe⟩, hz, fun r q1 q2 => ?_⟩
  · unfold f_X10_core f_X10_core_0
    rw [if_pos t0, pI_k t0, osb, if_neg (nI_pos (by omega)), gI_k t1, osb, R1.2.1.1, if_pos (nI_le hL (by omega)), e1, gI_k h0, osb, O12, if_neg (fp_no hR), pI_k h0, osb, gI_k h0', osb, hI_sIn (Or.inr (by omega)), O13, pI_k h0', osb]
  · rw [hI_sIn (Or.inr (by omega)), hI_sIn (Or.inr (by omega))]; exact hi 24 (by omega)
  · rw [hI_sIn (Or.inr (by omega)), hI_sIn (Or.inr (by omega))]; exact hi 25 (by omega)
  · rw [hI_sIn (Or.inr (by omega)), hI_sIn (Or.inr (by omega))]; exact h6.trans nI_0.symm
  · rw [hI_sIn (Or.inr (by omega)), hI_sIn (Or.inr (by omega))]; exact O12
  · have hr : r ≠ M := fun h => q2 ⟨by omega, by omega⟩
    exact ((F1.sm hr).trans (sm r q1 hr)).trans (F2.sm hr)
theorem core_rt {χ : St} {k : Nat} (h03 : hT χ M = 11) (r1 : Fld χ M 5 (M + 1) 21 900) (r2 : Fld χ M 15 (M + 2) 22 8) (r3 : Fld χ M 20 (M + 3) 22 195) (r4 : Fld χ M 21 (M + 4) 22 195) (r5 : Fld χ M 22 (M + 5) 22 3120) (r6 : Fld χ M 23 (M + 6) 22 585) (r7 : Fld χ M 34 (M + 7) 22 4) (k1 : hP χ M 3 = some k) (k2 : CSh χ k) (k3 : CR s.1 χ k) (k9 : M + 9 ≤ k) (kz : k + 11 = hZ χ) (i1 : ∀ j, j < 900 → hI χ (M + 1) j = I.1 j) (i3 : ∀ j, 195 ≤ j → hI χ (M + 3) j = 0) (i4 : ∀ j, 195 ≤ j → hI χ (M + 4) j = 0) (i6 : hI χ M 6 = 0) (i12 : hI χ M 12 = 0) : ∃ τ, ((gR 11 3 M χ).bind fun x19 => (gI 10 0 x19 χ).bind fun x20 => (f_X10_asTold M x20 χ).bind fun σ21 => (f_X10_remains M σ21).bind fun σ22 => (pI 11 24 M 0 σ22).bind fun σ23 => (pI 11 25 M 0 σ23).bind fun σ24 => (gR 11 3 M σ24).bind fun x25 => (gI 10 4 x25 σ24).bind fun x26 => (f_X10_good M x26 σ24).bind fun q27 => some (q27.1, q27.2)) = some (s.1 0 5, τ) ∧ RJ M (true, s.1, s.2.1, s.2.2.1, s.2.2.2, nc) (t0E, 0, S.2.2.1, 0, S.2.2.2.2) (I.1, 0, 0) 0 (-1) τ ∧ Fr (fun r => r = M ∨ r = M + 3 ∨ r = M + 4) χ τ := by
  have D : Md χ M k s.1 (hI χ (M + 4)) := ⟨h03, r4, k1, k2, k3, fun _ _ => rfl, by omega⟩
  have a1 := told_k (x := hI χ (M + 4)) D (s.1 0 0)
  rw [sR_id, tl_0 i4] at a1
  have D2 : Md (sI χ M 26 (s.1 0 0)) M k s.1 (hI χ (M + 4)) := D.setM _
  have a2 := remains_k (y := t0E) D2 r3 t0_ru.1 (fun j hj => by rw [hI_sIr (by omega)]; exact i3 j hj)
  have G2 : Fr (fun r => r = M ∨ r = M + 3 ∨ r = M + 4) χ (sR (sR (sI χ M 26 (s.1 0 0)) (M + 4) t0E) (M + 3) t0E) := ((Fr.s0 (Or.inl rfl)).trans (Fr.r0 (Or.inr (Or.inr rfl)))).trans (Fr.r0 (Or.inr (Or.inl rfl)))
  have j3 : hI (sR (sR (sI χ M 26 (s.1 0 0)) (M + 4) t0E) (M + 3) t0E) (M + 3) = t0E := hI_sRe
  have j4 : hI (sR (sR (sI χ M 26 (s.1 0 0)) (M + 4) t0E) (M + 3) t0E) (M + 4) = t0E := by rw [hI_sRn (by omega), hI_sRe]
  have jM : ∀ q, q ≠ 26 → hI (sR (sR (sI χ M 26 (s.1 0 0)) (M + 4) t0E) (M + 3) t0E) M q = hI χ M q := fun q hq => by rw [hI_sRn (by omega), hI_sRn (by omega), hI_sIn (Or.inr hq)]
  rw [gR_k h03 k1, osb, gI_k k2.1, osb, k3.1, a1, osb, a2, osb]
  generalize sR (sR (sI χ M 26 (s.1 0 0)) (M + 4) t0E) (M + 3) t0E = ρ at G2 j3 j4 jM ⊢
  clear a1 a2 D2
  have hρ : hT ρ M = 11 := by rw [G2.1]; exact h03
  have hρ1 : hT (sI ρ M 24 0) M = 11 := hρ
  have F2 : Fr (fun r => r = M) ρ (sI (sI ρ M 24 0) M 25 0) := (Fr.s0 (S := fun r => r = M) rfl).st rfl
  have b24 : hI (sI (sI ρ M 24 0) M 25 0) M 24 = 0 := by rw [hI_sIn (Or.inr (by omega)), hI_sIe]
  have b25 : hI (sI (sI ρ M 24 0) M 25 0) M 25 = 0 := hI_sIe
  have b6 : hI (sI (sI ρ M 24 0) M 25 0) M 6 = 0 := by rw [hI_sIn (Or.inr (by omega)), hI_sIn (Or.inr (by omega)), jM 6 (by omega)]; exact i6
  have b12 : hI (sI (sI ρ M 24 0) M 25 0) M 12 = 0 := by rw [hI_sIn (Or.inr (by omega)), hI_sIn (Or.inr (by omega)), jM 12 (by omega)]; exact i12
  have c3 : hI (sI (sI ρ M 24 0) M 25 0) (M + 3) = t0E := by rw [F2.2.2.2.2.2 _ (by omega)]; exact j3
  have c4 : hI (sI (sI ρ M 24 0) M 25 0) (M + 4) = t0E := by rw [F2.2.2.2.2.2 _ (by omega)]; exact j4
  have G3 : Fr (fun r => r = M ∨ r = M + 3 ∨ r = M + 4) χ (sI (sI ρ M 24 0) M 25 0) := G2.trans (F2.mono (fun r h => Or.inl h))
  rw [pI_k hρ, osb, pI_k hρ1, osb]
  generalize sI (sI ρ M 24 0) M 25 0 = π at b24 b25 b6 b12 c3 c4 G3 ⊢
  have hπ : hT π M = 11 := by rw [G3.1]; exact h03
  have pπ : hP π M 3 = some k := by rw [G3.2.2.1]; exact k1
  have kk : ∀ r, k ≤ r → r ≤ k + 10 → Sm χ π r := fun r q1 q2 => G3.sm (by omega)
  have k2' := k2.sm kk
  have k3' := k3.sm kk
  have RB1 : RB M (true, s.1, s.2.1, s.2.2.1, s.2.2.2, nc) (t0E, 0, S.2.2.1, 0, S.2.2.2.2) (I.1, 0, 0) π := by
    refine ⟨⟨by rw [G3.2.2.2.2.1]; omega, hπ, r1.fr G3, r2.fr G3, r3.fr G3, r4.fr G3, r5.fr G3, r6.fr G3, r7.fr G3⟩, ⟨b6.trans nI_0.symm, b12, b24.trans nI_0.symm, b25.trans nI_0.symm⟩, fun j hj => ?_, fun j hj => ?_, fun j hj => ?_, fun h => (nomatch h), fun _ => ⟨⟨k, pπ, k2', k3', k9, by rw [G3.2.2.2.2.1]; omega⟩, c3, fun j hj => absurd (show j < 0 from hj) (by omega), fun j hj => absurd (show j < 0 from hj) (by omega)⟩⟩
    · rw [(G3.sm (r := M + 1) (by omega)).2.2.1]; exact i1 j hj
    · rw [c3]; exact t0_ru.1 j hj
    · rw [c4]; exact t0_ru.1 j hj
  refine ⟨sI (sI π M 1 0) M 2 (-1), ?_, RB1.end 0, G3.trans (((Fr.s0 (S := fun r => r = M) rfl).st rfl).mono (fun r h => Or.inl h))⟩
  rw [gR_k hπ pπ, osb, gI_k k2'.1, osb, k3'.2.2.2.2.1, good_k hπ, osb]
theorem core_rs (R : RJ M P S I tr wh σ) (hL : L ≤ I.2.1) (h9 : I.2.1 ≤ 900) (hj : ∀ k, k < 900 → jb (I.1 k) = I.1 k) (hR : pAll I.1 L (L + 1) false ((fun _ _ => 0), 0, 0, 0) (bkE I.1 L 0) = .inr s) : ∃ τ, f_X10_core M (nI L) σ = some (s.1 0 5, τ) ∧ RJ M (true, s.1, s.2.1, s.2.2.1, s.2.2.2, nc) (t0E, 0, S.2.2.1, 0, S.2.2.2.2) (I.1, 0, 0) 0 (-1) τ ∧ hZ τ = hZ σ + 11 ∧ ∀ r, r < hZ σ → ¬ inR M r → Sm σ τ r := by
  have t0 := R.1.t
  have F1 : Fr (fun r => r = M) σ (sI σ M 0 0) := Fr.s0 (S := fun r => r = M) rfl
  have R1 : RB M P S I (sI σ M 0 0) := R.1.rs (RS.s0 (by omega))
  have e0 : pI 11 0 M 0 σ = some (sI σ M 0 0) := pI_k t0
  have hzz : hZ (sI σ M 0 0) = hZ σ := rfl
  generalize sI σ M 0 0 = ω at F1 R1 e0 hzz
  have t1 : hT ω M = 11 := R1.t
  obtain ⟨ψ, e1, hz, sm, h0, hn, hp, hi, h6, O⟩ := rcr_k (σ := ω) (M := M) (L := L) (b := I.1) t1 R1.1.2.2.1 (by omega) R1.2.2.1 hj R1.1.1
  rw [hzz] at hz sm O
  rw [hR] at O
  have K : RC ψ M (hZ σ) s.1 := O.1
  have O12 : hI ψ M 12 = 0 := O.2
  obtain ⟨⟨g9, r0, r1, r2, r3, r4, r5, r6, r7⟩, ⟨dd, -⟩, x1, x3, x4, -, -⟩ := R1
  rw [hzz] at g9
  have fl : ∀ {k b t N : Nat}, k ≠ 4 → k ≠ 3 → b ≠ M → b < M + 9 → Fld ω M k b t N → Fld (sP ψ M 3 (some (hZ σ))) M k b t N := fun {k b t N} hk hk3 hb hb9 F => by
    have := sm b (by omega) hb
    exact ⟨by rw [hP_sPn (Or.inr hk3), hp k hk]; exact F.1, by show hT ψ b = t; rw [this.1]; exact F.2.1, by show hN ψ b = N; rw [this.2.1]; exact F.2.2⟩
  have GP : Fg (fun r => r = M) ψ (sP ψ M 3 (some (hZ σ))) := Fg.sP (S := fun r => r = M) rfl
  have sk : ∀ r, hZ σ ≤ r → r ≤ hZ σ + 10 → Sm ψ (sP ψ M 3 (some (hZ σ))) r := fun r q1 q2 => GP.2 r (by omega)
  obtain ⟨τ, q1, q2, q3⟩ := core_rt (χ := sP ψ M 3 (some (hZ σ))) (k := hZ σ) (s := s) (nc := nc) (I := I) (S := S) h0 (fl (by omega) (by omega) (by omega) (by omega) r1) (fl (by omega) (by omega) (by omega) (by omega) r2) (fl (by omega) (by omega) (by omega) (by omega) r3) (fl (by omega) (by omega) (by omega) (by omega) r4) (fl (by omega) (by omega) (by omega) (by omega) r5) (fl (by omega) (by omega) (by omega) (by omega) r6) (fl (by omega) (by omega) (by omega) (by omega) r7) hP_sPe (K.2.1.sm sk) (K.2.2.1.sm sk) g9 hz.symm (fun j hj => by
      show hI ψ (M + 1) j = I.1 j
      rw [(sm (M + 1) (by omega) (by omega)).2.2.1]; exact x1 j hj) (fun j hj => by
      show hI ψ (M + 3) j = 0
      rw [(sm (M + 3) (by omega) (by omega)).2.2.1]; exact x3 j hj) (fun j hj => by
      show hI ψ (M + 4) j = 0
      rw [(sm (M + 4) (by omega) (by omega)).2.2.1]; exact x4 j hj) h6 O12
  have ep : pP 11 3 M (hZ σ) ψ = some (sP ψ M 3 (some (hZ σ))) := pP_k h0
  refine ⟨τ, ?_, q2, by rw [q3.2.2.2.2.1]; exact hz, fun r w1 w2 => ?_⟩
  · unfold f_X10_core f_X10_core_0
    rw [if_pos t0, e0, osb, if_neg (nI_pos (by omega)), gI_k t1, osb, dd, if_pos (nI_le hL (by omega)), e1, gI_k h0, osb, O12, if_pos (show (0 : Int32) ≤ 0 by decide), gR_k h0 K.1, osb, ep, osb]
    exact q1
  · have hr : ¬ (M ≤ r ∧ r ≤ M + 7) := w2
    exact ((F1.sm (by omega)).trans (sm r w1 (by omega))).trans ((GP.2 r (by omega)).trans (q3.sm (by omega)))
end Cor
