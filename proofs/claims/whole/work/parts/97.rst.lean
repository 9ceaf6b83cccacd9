/-! THE REFERENCE's lines: steps -/
section Rst
variable {σ τ υ : St} {M L p k m nu ng kk : Nat} {b : Nat → Int32} {c : Cc} {v y a1 a2 a3 a4 a5 a6 : Int32}
theorem lb_r (T : RG σ M L b p) (C : RC σ M k c) (h1 : tkS b L p = 1) (x z : Int32) : ∃ τ, f_X10_lineBegins M x z σ = some τ ∧ FrV M σ τ ∧ OutQ τ M (if x = z then (.inl (5, p) : Flt ⊕ Nat) else if c 0 0 = 0 then .inl (6, p) else .inr (nxP b L p)) (fun q => RG τ M L b q) := by
  unfold f_X10_lineBegins f_X10_lineBegins_0 f_X10_lineBegins_10 f_X10_lineBegins_26
  rw [if_pos T.1.t]
  by_cases h : x = z
  · obtain ⟨τ, t1, t2, t3, t4, t5⟩ := fl_r T.1 5
    have C' := C.fr t2
    rw [if_pos h, if_pos h, t1, osb, gR_k t3.1 C'.1, osb, gI_k C'.2.1.1, osb, fl_o t3, osb, go_o t3, osb]
    refine ⟨τ, ?_, t2, t3.1, t3.2, t4, t5⟩
    split <;> rfl
  · rw [if_neg h, if_neg h, gR_k T.1.t C.1, osb, gI_k C.2.1.1, osb, C.2.2.1.1]
    by_cases h0 : c 0 0 = 0
    · obtain ⟨τ, t1, t2, t3, t4, t5⟩ := fl_r T.1 6
      rw [if_pos h0, if_pos h0, t1, osb, go_o t3, osb]
      exact ⟨τ, rfl, t2, t3.1, t3.2, t4, t5⟩
    · obtain ⟨τ, t1, t2, t3⟩ := gon_g T (by omega)
      rw [if_neg h0, if_neg h0, t1, osb]
      exact ⟨τ, rfl, t2, t3⟩
theorem rr_r (T : RG σ M L b p) : ∃ v τ, f_X10_readRegister M σ = some (v, τ) ∧ FrV M σ τ ∧ OutQ τ M (pWhole b L 0 7 p) (fun q => v = q.1 ∧ RG τ M L b q.2) := by
  obtain ⟨v, τ, t1, t2, t3⟩ := rw_r T 0 7
  unfold f_X10_readRegister f_X10_readRegister_0
  rw [if_pos T.1.t, t1, osb]
  exact ⟨v, τ, rfl, t2, t3⟩
-- over
theorem o119 (h : Ovr σ M) : f_X10_readStep_119 M a1 a2 a3 a4 a5 a6 σ = some σ := by
  unfold f_X10_readStep_119
  rw [h.g, osb, if_pos rfl]
theorem o115 (h : Ovr σ M) : f_X10_readStep_115 M a1 a2 a3 a4 a5 a6 σ = some σ := by
  unfold f_X10_readStep_115
  rw [go_o h, osb, o119 h]
theorem o74 (h : Ovr σ M) : f_X10_readStep_74 M a1 a2 a3 a4 a5 a6 σ = some σ := by
  unfold f_X10_readStep_74
  split
  · rw [rw_o h, osb]
    dsimp only
    rw [iw_o h, osb]
    dsimp only
    rw [if_pos rfl, iw_o h, osb]
    dsimp only
    rw [if_pos rfl, fl_o h, osb, o115 h]
  · exact o119 h
theorem o60 (h : Ovr σ M) : f_X10_readStep_60 M a1 a2 a3 a4 a5 a6 σ = some σ := by
  unfold f_X10_readStep_60
  split
  · rw [rw_o h, osb]
    exact o74 h
  · exact o74 h
theorem o45 (h : Ovr σ M) : f_X10_readStep_45 M a1 a2 a3 a4 a5 a6 σ = some σ := by
  unfold f_X10_readStep_45
  split
  · exact o60 h
  · split
    · exact o60 h
    · rw [rr_o h, osb]
      exact o60 h
theorem o36 (h : Ovr σ M) : f_X10_readStep_36 M a1 a2 a3 a4 a5 a6 σ = some σ := by
  unfold f_X10_readStep_36
  split
  · exact o45 h
  · rw [rr_o h, osb]
    exact o45 h
-- the pieces
def tqV (b : Nat → Int32) (L : Nat) (c : Cc) (m kk : Nat) (d a e : Int32) (p : Nat) : Flt ⊕ (Cc × Nat) := andS (pV b L kk p) fun v => andS (pY b L kk v.2) fun y => .inr (stC c m (nI kk) d a e v.1 y.1, y.2)
def tqE (b : Nat → Int32) (L : Nat) (c : Cc) (m kk : Nat) (d a : Int32) (p : Nat) : Flt ⊕ (Cc × Nat) := andS (pE b L kk p) fun e => tqV b L c m kk d a e.1 e.2
def tqA (b : Nat → Int32) (L : Nat) (c : Cc) (m kk : Nat) (d : Int32) (p : Nat) : Flt ⊕ (Cc × Nat) := andS (pA b L kk p) fun a => tqE b L c m kk d a.1 a.2
theorem pStep_e : pStep b L c m kk p = andS (pD b L kk p) fun d => tqA b L c m kk d.1 d.2 := rfl
/-- the step is told -/
theorem s119 (T : RG σ M L b p) (C : RC σ M k c) (hm : m < 24) (h5 : c 0 5 = nI m) (hy : y = 0 ∨ y = 1) : ∃ τ, f_X10_readStep_119 M a1 a2 a3 a4 a5 y σ = some τ ∧ FrK M k σ τ ∧ RLn τ M L b k (stC c m a1 a2 a3 a4 a5 y) p := by
  have hk := C.2.2.2
  exact ⟨_, st_w T.1.t T.1.n5 C hm h5 hy, st_F FrK.refl (by omega), st_G T hk, st_C C hm⟩
theorem s115 (T : RG σ M L b p) (C : RC σ M k c) (hm : m < 24) (h5 : c 0 5 = nI m) (hy : y = 0 ∨ y = 1) (h1 : tkS b L p = 1) : ∃ τ, f_X10_readStep_115 M a1 a2 a3 a4 a5 y σ = some τ ∧ FrK M k σ τ ∧ RLn τ M L b k (stC c m a1 a2 a3 a4 a5 y) (adP b L p) := by
  obtain ⟨τ, t1, t2, t3⟩ := gon_g T (by omega)
  obtain ⟨υ, u1, u2, u3⟩ := s119 (a1 := a1) (a2 := a2) (a3 := a3) (a4 := a4) (a5 := a5) t3 (C.fr t2) hm h5 hy
  unfold f_X10_readStep_115
  rw [t1, osb, adP_n (Or.inl h1)]
  exact ⟨υ, u1, t2.toK.trans u2, u3⟩
theorem s74_5 (T : RG σ M L b p) (C : RC σ M k c) (hm : m < 24) (h5 : c 0 5 = nI m) : ∃ τ, f_X10_readStep_74 M (nI 5) a2 a3 a4 a5 a6 σ = some τ ∧ FrK M k σ τ ∧ OutQ τ M (tqV b L c m 5 a2 a3 a4 p) (fun q => RLn τ M L b k q.1 q.2) := by
  obtain ⟨v, τ, t1, t2, t3⟩ := rw_r T 0 24
  unfold f_X10_readStep_74 tqV pV pY
  rw [if_pos (show nI 5 = 5 from rfl), t1, osb, if_neg (show ¬ (5 = 0) by decide), if_pos (show 5 = 5 from rfl)]
  dsimp only
  cases hp : pWhole b L 0 24 p with
  | inl e =>
    rw [hp] at t3
    have ov : Ovr τ M := ⟨t3.1, t3.2.1⟩
    rw [iw_o ov, osb]
    dsimp only
    rw [if_pos rfl, iw_o ov, osb]
    dsimp only
    rw [if_pos rfl, fl_o ov, osb, o115 ov]
    exact ⟨τ, rfl, t2.toK, t3⟩
  | inr q =>
    rw [hp] at t3
    obtain ⟨rfl, T3⟩ := t3
    rw [isw_r T3.1 (i := 30) (by omega), osb]
    dsimp only [andS]
    rw [if_pos (show 5 = 5 from rfl)]
    unfold pOr
    cases hw : isW b L q.2 (sW 30) with
    | true =>
      obtain ⟨υ, u1, u2, u3⟩ := s115 (a1 := nI 5) (a2 := a2) (a3 := a3) (a4 := a4) (a5 := q.1) (y := b2i true) T3 (C.fr t2) hm h5 (by decide) (isW_1 hw)
      rw [if_neg (by decide), u1, show sW 15 = sW 30 from rfl, hw, if_pos rfl]
      exact ⟨υ, rfl, t2.toK.trans u2, u3⟩
    | false =>
      rw [if_pos (by decide), isw_r T3.1 (i := 31) (by omega), osb, show sW 15 = sW 30 from rfl, hw, if_neg (show ¬ (false = true) by decide), show sW 16 = sW 31 from rfl]
      dsimp only
      cases hw2 : isW b L q.2 (sW 31) with
      | true =>
        obtain ⟨υ, u1, u2, u3⟩ := s115 (a1 := nI 5) (a2 := a2) (a3 := a3) (a4 := a4) (a5 := q.1) (y := b2i false) T3 (C.fr t2) hm h5 (by decide) (isW_1 hw2)
        rw [if_neg (by decide), u1, if_pos rfl]
        exact ⟨υ, rfl, t2.toK.trans u2, u3⟩
      | false =>
        obtain ⟨τ', u1, u2, u3, u4, u5⟩ := fl_r T3.1 1
        rw [if_pos (by decide), u1, osb, o115 u3, if_neg (show ¬ (false = true) by decide)]
        exact ⟨τ', rfl, (t2.trans u2).toK, u3.1, u3.2, u4, u5⟩
theorem s60 (T : RG σ M L b p) (C : RC σ M k c) (hm : m < 24) (h5 : c 0 5 = nI m) (hk : kk ≤ 5) : ∃ τ, f_X10_readStep_60 M (nI kk) a2 a3 a4 0 0 σ = some τ ∧ FrK M k σ τ ∧ OutQ τ M (tqV b L c m kk a2 a3 a4 p) (fun q => RLn τ M L b k q.1 q.2) := by
  have k5 : (nI kk = 5) ↔ kk = 5 := nIk (a := 5) hk (by omega)
  have k0 : (nI kk = 0) ↔ kk = 0 := nIk (a := 0) hk (by omega)
  unfold f_X10_readStep_60
  by_cases e5 : kk = 5
  · subst e5
    rw [if_neg (by decide)]
    exact s74_5 T C hm h5
  · have h74 : ∀ (σ : St) v, f_X10_readStep_74 M (nI kk) a2 a3 a4 v 0 σ = f_X10_readStep_119 M (nI kk) a2 a3 a4 v 0 σ := fun σ v => by
      unfold f_X10_readStep_74
      rw [if_neg (fun q => e5 (k5.mp q))]
    unfold tqV pV pY
    by_cases e0 : kk = 0
    · obtain ⟨v, τ, t1, t2, t3⟩ := rw_r T 0 9999
      rw [if_pos (k0.mpr e0), t1, osb, if_pos e0]
      dsimp only
      rw [h74]
      cases hp : pWhole b L 0 9999 p with
      | inl e =>
        rw [hp] at t3
        rw [o119 ⟨t3.1, t3.2.1⟩]
        exact ⟨τ, rfl, t2.toK, t3⟩
      | inr q =>
        rw [hp] at t3
        obtain ⟨rfl, T3⟩ := t3
        obtain ⟨υ, u1, u2, u3⟩ := s119 (a1 := nI kk) (a2 := a2) (a3 := a3) (a4 := a4) (a5 := q.1) (y := 0) T3 (C.fr t2) hm h5 (Or.inl rfl)
        rw [u1]
        dsimp only [andS]
        rw [if_neg e5]
        exact ⟨υ, rfl, t2.toK.trans u2, u3⟩
    · rw [if_neg (fun q => e0 (k0.mp q)), h74, if_neg e0, if_neg e5]
      obtain ⟨υ, u1, u2, u3⟩ := s119 (a1 := nI kk) (a2 := a2) (a3 := a3) (a4 := a4) (a5 := 0) (y := 0) T C hm h5 (Or.inl rfl)
      rw [u1]
      dsimp only [andS]
      rw [if_neg e5]
      exact ⟨υ, rfl, u2, u3⟩
theorem s45 (T : RG σ M L b p) (C : RC σ M k c) (hm : m < 24) (h5 : c 0 5 = nI m) (hk : kk ≤ 5) : ∃ τ, f_X10_readStep_45 M (nI kk) a2 a3 (-1) 0 0 σ = some τ ∧ FrK M k σ τ ∧ OutQ τ M (tqE b L c m kk a2 a3 p) (fun q => RLn τ M L b k q.1 q.2) := by
  have k4 : (nI kk = 4) ↔ kk = 4 := nIk (a := 4) hk (by omega)
  have k0 : (nI kk = 0) ↔ kk = 0 := nIk (a := 0) hk (by omega)
  unfold f_X10_readStep_45 tqE pE
  by_cases e0 : kk = 0
  · rw [if_pos (k0.mpr e0), if_pos (Or.inl e0)]
    exact s60 T C hm h5 hk
  · rw [if_neg (fun q => e0 (k0.mp q))]
    by_cases e4 : kk = 4
    · rw [if_pos (k4.mpr e4), if_pos (Or.inr e4)]
      exact s60 T C hm h5 hk
    · obtain ⟨v, τ, t1, t2, t3⟩ := rr_r T
      rw [if_neg (fun q => e4 (k4.mp q)), if_neg (by omega), t1, osb]
      dsimp only
      cases hp : pWhole b L 0 7 p with
      | inl e =>
        rw [hp] at t3
        rw [o60 ⟨t3.1, t3.2.1⟩]
        exact ⟨τ, rfl, t2.toK, t3⟩
      | inr q =>
        rw [hp] at t3
        obtain ⟨rfl, T3⟩ := t3
        obtain ⟨υ, u1, u2, u3⟩ := s60 (a2 := a2) (a3 := a3) (a4 := q.1) T3 (C.fr t2) hm h5 hk
        exact ⟨υ, u1, t2.toK.trans u2, u3⟩
theorem s36 (T : RG σ M L b p) (C : RC σ M k c) (hm : m < 24) (h5 : c 0 5 = nI m) (hk : kk ≤ 5) : ∃ τ, f_X10_readStep_36 M (nI kk) a2 (-1) (-1) 0 0 σ = some τ ∧ FrK M k σ τ ∧ OutQ τ M (tqA b L c m kk a2 p) (fun q => RLn τ M L b k q.1 q.2) := by
  have k0 : (nI kk = 0) ↔ kk = 0 := nIk (a := 0) hk (by omega)
  unfold f_X10_readStep_36 tqA pA
  by_cases e0 : kk = 0
  · rw [if_pos (k0.mpr e0), if_pos e0]
    exact s45 T C hm h5 hk
  · obtain ⟨v, τ, t1, t2, t3⟩ := rr_r T
    rw [if_neg (fun q => e0 (k0.mp q)), if_neg e0, t1, osb]
    dsimp only
    cases hp : pWhole b L 0 7 p with
    | inl e =>
      rw [hp] at t3
      rw [o45 ⟨t3.1, t3.2.1⟩]
      exact ⟨τ, rfl, t2.toK, t3⟩
    | inr q =>
      rw [hp] at t3
      obtain ⟨rfl, T3⟩ := t3
      obtain ⟨υ, u1, u2, u3⟩ := s45 (a2 := a2) (a3 := q.1) T3 (C.fr t2) hm h5 hk
      exact ⟨υ, u1, t2.toK.trans u2, u3⟩
theorem rst_r (T : RG σ M L b p) (C : RC σ M k c) (h1 : tkS b L p = 1) (hm : m ≤ 24) (h5 : c 0 5 = nI m) (hk : kk ≤ 5) : ∃ τ, f_X10_readStep M (nI kk) σ = some τ ∧ FrK M k σ τ ∧ OutQ τ M (if m = 24 then (.inl (5, p) : Flt ⊕ (Cc × Nat)) else if c 0 0 = 0 then .inl (6, p) else pStep b L c m kk (adP b L p)) (fun q => RLn τ M L b k q.1 q.2) := by
  have k5 : (nI kk = 5) ↔ kk = 5 := nIk (a := 5) hk (by omega)
  have m24 : (nI m = 24) ↔ m = 24 := nI_eq (b := 24) (by omega) (by omega)
  obtain ⟨τ, t1, t2, t3⟩ := lb_r T C h1 (nI m) 24
  have C' := C.fr t2
  unfold f_X10_readStep f_X10_readStep_0
  rw [if_pos T.1.t, gR_k T.1.t C.1, osb, gI_k C.2.1.1, osb, C.2.2.1.2.2.2.2.1, h5, t1, osb]
  have hov : Ovr τ M → (if nI kk = 5 then f_X10_readStep_36 M (nI kk) (-1) (-1) (-1) 0 0 τ else (f_X10_readRegister M τ).bind fun q5 => f_X10_readStep_36 M (nI kk) q5.1 (-1) (-1) 0 0 q5.2) = some τ := fun ov => by
    split
    · exact o36 ov
    · rw [rr_o ov, osb]
      exact o36 ov
  by_cases e : m = 24
  · rw [if_pos (m24.mpr e)] at t3
    rw [hov ⟨t3.1, t3.2.1⟩, if_pos e]
    exact ⟨τ, rfl, t2.toK, t3⟩
  · rw [if_neg (fun q => e (m24.mp q))] at t3
    rw [if_neg e]
    by_cases h0 : c 0 0 = 0
    · rw [if_pos h0] at t3
      rw [hov ⟨t3.1, t3.2.1⟩, if_pos h0]
      exact ⟨τ, rfl, t2.toK, t3⟩
    · rw [if_neg h0] at t3
      rw [if_neg h0, pStep_e, adP_n (Or.inl h1)]
      unfold pD
      by_cases e5 : kk = 5
      · rw [if_pos (k5.mpr e5), if_pos e5]
        obtain ⟨υ, u1, u2, u3⟩ := s36 (a2 := -1) t3 C' (by omega) h5 hk
        exact ⟨υ, u1, t2.toK.trans u2, u3⟩
      · obtain ⟨v, τ', s1, s2, s3⟩ := rr_r t3
        rw [if_neg (fun q => e5 (k5.mp q)), if_neg e5, s1, osb]
        dsimp only
        cases hp : pWhole b L 0 7 (nxP b L p) with
        | inl e =>
          rw [hp] at s3
          rw [o36 ⟨s3.1, s3.2.1⟩]
          exact ⟨τ', rfl, (t2.trans s2).toK, s3⟩
        | inr q =>
          rw [hp] at s3
          obtain ⟨rfl, T3⟩ := s3
          obtain ⟨υ, u1, u2, u3⟩ := s36 (a2 := q.1) T3 (C'.fr s2) (by omega) h5 hk
          exact ⟨υ, u1, (t2.trans s2).toK.trans u2, u3⟩
end Rst
