/-! core: both answer alike -/
section Coa
variable {σ τ υ φ : St} {z p d L m nu ng nc M : Nat} {P : PT} {S : SX} {I : IT} {tr wh : Int32} {c : Cc} {B : Nat} {e : Flt} {s : PS}
theorem alk_11 {v : Int32} {f g : St → Option (Int32 × St)} {P' : PT} {S' : SX} {I' : IT} {p' d' : Nat} {tr' wh' : Int32} (A' : AW P' S' I' (B + 1)) (R : RJ (z + 195) P S I tr wh σ) (o1 : hT σ (z + 203) = 24) (o2 : hN σ (z + 203) = 1)
    (hf : ∃ τ, f σ = some (v, τ) ∧ CJ z p' d' P' S' I' tr' wh' τ ∧ Fg (inC z) σ τ) (hg : ∀ τ, RJ (z + 195) P S I tr wh τ → ∃ υ, g τ = some (v, υ) ∧ RJ (z + 195) P' S' I' tr' wh' υ ∧ hZ υ = hZ τ + 11 ∧ ∀ r, r < hZ τ → ¬ inR (z + 195) r → Sm τ υ r) : Alike z f g B σ := by
  obtain ⟨τ, t1, t2, t3⟩ := hf
  have Rt := R.sm t3 rfl
  obtain ⟨υ, u1, u2, u3, u4⟩ := hg τ Rt
  have hz : hZ τ = hZ σ := t3.1
  have h9 : z + 195 + 9 ≤ hZ τ := Rt.1.1.1
  have so : Sm σ υ (z + 203) := (t3.2 _ (fun h => by have := h.2; omega)).trans (u4 _ (by omega) (fun h => by have := h.2; omega))
  exact ⟨v, τ, υ, t1, u1, ⟨p', d', P', S', I', tr', wh', A', t2.sm (fun r hr => u4 r (by have := hr.2; omega) (fun h => by have := h.1; have := hr.2; omega)), u2, by rw [so.1]; exact o1, by rw [so.2.1]; exact o2⟩, by omega⟩
theorem core_a (A : AW P S I B) (C : CJ z p d P S I tr wh σ) (R : RJ (z + 195) P S I tr wh σ) (o1 : hT σ (z + 203) = 24) (o2 : hN σ (z + 203) = 1) (v : Int32) : Alike z (fun σ => f_X8_core z v σ) (fun σ => f_X10_core (z + 195) v σ) B σ := by
  have hn := A.2.2.2.2.1
  by_cases hv : v < 0 ∨ ¬ v ≤ nI I.2.1
  · refine alk_of (v := -1) (tr' := 2) (wh' := -1) (A.up (B' := B + 1) (by omega)) R o1 o2 ⟨sI σ z 12 2, ?_, C.r 2 (by decide), fg_c 2⟩ (fun τ Rτ => ?_)
    · show f_X8_core z v σ = _
      have zt := C.1.zt
      have e13 : f_X8_core_13 z v z σ = some (-1, sI σ z 12 2) := by
        unfold f_X8_core_13 f_X8_core_18
        rw [ref_1 zt, osb]
        dsimp only
        rw [if_neg (show ¬ (1 : Int32) = 0 by decide)]
      unfold f_X8_core f_X8_core_0
      rw [if_pos zt]
      by_cases h0 : v < 0
      · rw [if_pos h0, e13]
      · rw [if_neg h0, gI_k zt, osb, C.1.2.2.2.2.1.1.1, if_neg (hv.resolve_left h0), e13]
    · have t0 := Rτ.1.t
      have t1 : hT (sI τ (z + 195) 0 0) (z + 195) = 11 := t0
      have s1 : RS (z + 195) τ (sI τ (z + 195) 0 0) := RS.s0 (by omega)
      have R1 := Rτ.1.rs s1
      have e17 : f_X10_core_17 (z + 195) (sI τ (z + 195) 0 0) = some (-1, sI (sI (sI τ (z + 195) 0 0) (z + 195) 1 2) (z + 195) 2 (-1)) := by
        unfold f_X10_core_17
        rw [refd_k t1, osb]
      refine ⟨_, ?_, R1.end 2, s1.end 2⟩
      show f_X10_core (z + 195) v τ = _
      unfold f_X10_core f_X10_core_0
      rw [if_pos t0, pI_k t0, osb]
      by_cases h0 : v < 0
      · rw [if_pos h0, e17]
      · rw [if_neg h0, gI_k t1, osb, R1.2.1.1, if_neg (hv.resolve_left h0), e17]
  · have h0 : ¬ v < 0 := fun h => hv (Or.inl h)
    have h1 : v ≤ nI I.2.1 := by
      by_cases h : v ≤ nI I.2.1
      · exact h
      · exact absurd (Or.inr h) hv
    obtain ⟨L, hL', rfl⟩ := nI_of h0
    have hL : L ≤ I.2.1 := (nI_leI hL' (by omega)).mp h1
    have hj := A.2.2.2.2.2
    have A1 := A.up (B' := B + 1) (by omega)
    cases hR : pAll I.1 L (L + 1) false ((fun _ _ => 0), 0, 0, 0) (bkE I.1 L 0) with
    | inl e =>
      have A' : AW P S (I.1, 0, e.1) (B + 1) := ⟨A1.1, A1.2.1, A1.2.2.1, A1.2.2.2.1, by show (0 : Nat) ≤ 900; omega, hj⟩
      exact alk_11 A' R o1 o2 (core_ce C hL hn hR) (fun τ Rτ => core_re Rτ hL hn hj hR)
    | inr s =>
      obtain ⟨G, hm⟩ := pAll_i (b := I.1) (L := L) (f := L + 1) (told := false) (s := ((fun _ _ => 0), 0, 0, 0)) (t := s) (p := bkE I.1 L 0) (fun h => (nomatch h)) (tkP_le (k := 0)) hR
      obtain ⟨nc, n9, n24, c0⟩ := G.2.2
      have A' : AW (true, s.1, s.2.1, s.2.2.1, s.2.2.2, nc) (t0E, 0, S.2.2.1, 0, S.2.2.2.2) (I.1, 0, 0) (B + 1) := by
        refine ⟨fun h => (nomatch h), fun _ => ⟨G.1, G.2.1, n9, n24, c0, ⟨told_ok (x := fun _ => 0) G.1 (by show 8 ≤ nc; omega) n24, t0_ru.1, t0_ru.2.1, ?_⟩, fun k hk => absurd (show k < 0 from hk) (by omega), fun k hk => absurd (show k < 0 from hk) (by omega), hm⟩, by show (0 : Nat) ≤ 16; omega, by show (0 : Nat) ≤ 3; omega, by show (0 : Nat) ≤ 900; omega, hj⟩
        obtain ⟨w, hw, ew⟩ := t0_ru.2.2
        exact ⟨w, by omega, ew⟩
      exact alk_11 A' R o1 o2 (core_cs C hL hn hR G c0 n9 n24) (fun τ Rτ => core_rs Rτ hL hn hj hR)
end Coa
