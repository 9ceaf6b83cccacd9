/-! THE REFERENCE's lines: a line, all of them -/
def SI (told : Bool) (s : PS) : Prop := (told = true → Gs s) ∧ (told = false → s = ((fun _ _ => 0), 0, 0, 0))
section Ral
variable {σ τ υ : St} {M L p k m nu ng kk : Nat} {b : Nat → Int32} {c : Cc} {v y a1 a2 a3 a4 a5 a6 : Int32} {told : Bool} {s : PS}
theorem SI.n (h : SI told s) : s.2.1 ≤ 24 ∧ s.1 0 5 = nI s.2.1 ∧ s.2.2.1 ≤ 4 ∧ s.1 0 6 = nI s.2.2.1 ∧ s.2.2.2 ≤ 6 ∧ s.1 0 7 = nI s.2.2.2 := by
  cases told with
  | false =>
    have e := h.2 rfl
    subst e
    exact ⟨Nat.zero_le _, rfl, Nat.zero_le _, rfl, Nat.zero_le _, rfl⟩
  | true =>
    obtain ⟨⟨g1, g2, -⟩, ⟨u1, u2, u3, u4, -⟩, -⟩ := h.1 rfl
    exact ⟨g1, g2, u1, u2, u3, u4⟩
theorem SI.z (h : SI told s) : (s.1 0 0 = 0 ↔ told = false) ∧ (s.1 0 0 ≤ 0 ↔ told = false) := by
  cases told with
  | false =>
    have e := h.2 rfl
    subst e
    exact ⟨⟨fun _ => rfl, fun _ => rfl⟩, ⟨fun _ => rfl, fun _ => by dsimp only; decide⟩⟩
  | true =>
    obtain ⟨-, -, nc, n1, n2, n3⟩ := h.1 rfl
    have a : ¬ s.1 0 0 = 0 := fun e => by
      rw [n3] at e
      have := (nI_eq (a := nc) (b := 0) (by omega) (by omega)).mp e
      omega
    have a2 : ¬ s.1 0 0 ≤ 0 := fun e => by
      rw [n3] at e
      exact absurd e (nI_ge (a := 0) (b := nc) (by omega) (by omega))
    exact ⟨⟨fun e => absurd e a, fun e => (nomatch e)⟩, ⟨fun e => absurd e a2, fun e => (nomatch e)⟩⟩
theorem OutQ.and {α β : Type} {R : Flt ⊕ α} {f : α → Flt ⊕ β} {Q : α → Prop} {Q' : β → Prop} (h : OutQ τ M R Q) (g : ∀ u, Q u → OutQ τ M (f u) Q') : OutQ τ M (andS R f) Q' := by
  cases R with
  | inl e => exact h
  | inr u => exact g u h
theorem rco_o (h : Ovr σ M) : f_X10_readCore_15 M σ = some σ := by
  unfold f_X10_readCore_15
  rw [go_o h, osb, rp_o h, osb]
  dsimp only
  rw [rp_o h, osb]
  dsimp only
  rw [rp_o h, osb]
  dsimp only
  rw [rp_o h, osb]
  dsimp only
  rw [co_o2 h]
theorem lnK_6 (h : isW b L p (sW 6) = true) : lnK b L p = 6 := by
  have n : ∀ i, sW 6 ≠ sW i → isW b L p (sW i) = false := fun i hi => by
    cases hq : isW b L p (sW i) with
    | false => rfl
    | true => exact absurd (isW_u h hq) hi
  unfold lnK
  rw [n 0 (by decide +kernel), n 1 (by decide +kernel), n 2 (by decide +kernel), n 3 (by decide +kernel), n 4 (by decide +kernel), n 5 (by decide +kernel), h]
  simp
theorem lnK_h (h6 : isW b L p (sW 6) = false) (h : ¬ lnK b L p ≤ 5) : lnK b L p = if isW b L p (sW 7) = true then 7 else if isW b L p (sW 8) = true then 8 else 9 := by
  unfold lnK at h ⊢
  split
  · rename_i q; rw [if_pos q] at h; omega
  · rename_i q0; rw [if_neg q0] at h
    split
    · rename_i q; rw [if_pos q] at h; omega
    · rename_i q1; rw [if_neg q1] at h
      split
      · rename_i q; rw [if_pos q] at h; omega
      · rename_i q2; rw [if_neg q2] at h
        split
        · rename_i q; rw [if_pos q] at h; omega
        · rename_i q3; rw [if_neg q3] at h
          split
          · rename_i q; rw [if_pos q] at h; omega
          · rename_i q4; rw [if_neg q4] at h
            split
            · rename_i q; rw [if_pos q] at h; omega
            · rw [h6, if_neg (show ¬ (false = true) by decide)]
theorem lnK_1 (h : lnK b L p ≤ 8) : tkS b L p = 1 := by
  unfold lnK at h
  (repeat' split at h) <;> first | omega | (rename_i q; exact isW_1 q) | skip
theorem rli_r (T : RG σ M L b p) (C : RC σ M k s.1) (hs : SI told s) : ∃ τ, f_X10_readLine M σ = some τ ∧ FrK M k σ τ ∧ OutQ τ M (pLine b L told s p) (fun q => RLn τ M L b k q.1.1 q.2) := by
  obtain ⟨n1, n2, n3, n4, n5, n6⟩ := hs.n
  obtain ⟨z1, z2⟩ := hs.z
  have h9 := lnK_9 (b := b) (L := L) (p := p)
  unfold f_X10_readLine f_X10_readLine_0 f_X10_readLine_72
  rw [if_pos T.1.t, isw_r T.1 (i := 17) (by omega), osb, show sW 17 = sW 6 from rfl]
  dsimp only
  unfold pLine
  cases h6 : isW b L p (sW 6) with
  | true =>
    have hK := lnK_6 h6
    rw [if_neg (by decide), hK, if_neg (show ¬ (6 = 9) by decide), if_pos (show 6 = 6 from rfl)]
    cases ht : told with
    | true =>
      obtain ⟨τ, t1, t2, t3, t4, t5⟩ := fl_r T.1 3
      have hz : ¬ s.1 0 0 ≤ 0 := fun e => by rw [ht] at z2; exact absurd (z2.mp e) (by decide)
      unfold f_X10_readCore f_X10_readCore_0
      rw [if_pos T.1.t, gR_k T.1.t C.1, osb, gI_k C.2.1.1, osb, C.2.2.1.1, if_neg hz, t1, osb, rco_o t3, osb, if_pos rfl]
      exact ⟨τ, rfl, t2.toK, t3.1, t3.2, t4, t5⟩
    | false =>
      have e := hs.2 ht
      have C0 : RC σ M k (fun _ _ => 0) := by rw [e] at C; exact C
      obtain ⟨τ, t1, t2, t3⟩ := rco_r T C0 (isW_1 h6)
      rw [t1, osb, if_neg (by decide)]
      exact ⟨τ, rfl, t2, t3.and (fun u hu => hu)⟩
  | false =>
    rw [if_pos (by decide), kah_r T.1 h6, osb]
    dsimp only
    by_cases h5 : lnK b L p ≤ 5
    · have h1 := lnK_1 (b := b) (L := L) (p := p) (by omega)
      obtain ⟨τ, t1, t2, t3⟩ := rst_r (kk := lnK b L p) T C h1 n1 n2 h5
      rw [if_pos h5, if_neg (nI_nm1 (by omega)), kah_r T.1 h6, osb]
      dsimp only
      rw [if_pos h5, t1, osb, if_neg (by omega), if_neg (by omega)]
      refine ⟨τ, rfl, t2, ?_⟩
      cases ht : told with
      | false =>
        have e := hs.2 ht
        rw [if_neg (by rw [e]; dsimp only; omega), if_pos (z1.mpr ht)] at t3
        rw [if_pos rfl]
        exact t3
      | true =>
        rw [if_neg (show ¬ (true = false) by decide), if_neg (by omega), if_neg (by omega)]
        have z0 : ¬ s.1 0 0 = 0 := fun q => by rw [ht] at z1; exact absurd (z1.mp q) (by decide)
        by_cases hm : s.2.1 = 24
        · rw [if_pos hm] at t3
          rw [if_pos (by omega)]
          exact t3
        · rw [if_neg hm, if_neg z0] at t3
          rw [if_neg (by omega)]
          exact t3.and (fun u hu => hu)
    · rw [if_neg h5, if_pos rfl, isw_r T.1 (i := 32) (by omega), osb, show sW 32 = sW 7 from rfl]
      dsimp only
      have hK := lnK_h h6 h5
      cases h7 : isW b L p (sW 7) with
      | true =>
        rw [h7, if_pos rfl] at hK
        obtain ⟨τ, t1, t2, t3⟩ := run_r T C (isW_1 h7) n1 n2 n4 n3
        rw [if_neg (by decide), t1, osb, hK, if_neg (show ¬ (7 = 9) by decide), if_neg (show ¬ (7 = 6) by decide)]
        refine ⟨τ, rfl, t2, ?_⟩
        cases ht : told with
        | false =>
          have e := hs.2 ht
          rw [if_neg (by rw [e]; dsimp only; omega), if_pos (z1.mpr ht)] at t3
          rw [if_pos rfl]
          exact t3
        | true =>
          rw [if_neg (show ¬ (true = false) by decide), if_pos rfl]
          have z0 : ¬ s.1 0 0 = 0 := fun q => by rw [ht] at z1; exact absurd (z1.mp q) (by decide)
          by_cases hm : s.2.2.1 = 4
          · rw [if_pos hm] at t3
            rw [if_pos (by omega)]
            exact t3
          · rw [if_neg hm, if_neg z0] at t3
            rw [if_neg (by omega)]
            exact t3.and (fun u hu => hu)
      | false =>
        rw [h7, if_neg (show ¬ (false = true) by decide)] at hK
        rw [if_pos (by decide), isw_r T.1 (i := 33) (by omega), osb, show sW 33 = sW 8 from rfl]
        dsimp only
        cases h8 : isW b L p (sW 8) with
        | true =>
          rw [h8, if_pos rfl] at hK
          obtain ⟨τ, t1, t2, t3⟩ := rgo_r T C (isW_1 h8) n6 n5
          rw [if_neg (by decide), t1, osb, hK, if_neg (show ¬ (8 = 9) by decide), if_neg (show ¬ (8 = 6) by decide)]
          refine ⟨τ, rfl, t2, ?_⟩
          cases ht : told with
          | false =>
            have e := hs.2 ht
            rw [if_neg (by rw [e]; dsimp only; omega), if_pos (z1.mpr ht)] at t3
            rw [if_pos rfl]
            exact t3
          | true =>
            rw [if_neg (show ¬ (true = false) by decide), if_neg (show ¬ (8 = 7) by decide), if_pos rfl]
            have z0 : ¬ s.1 0 0 = 0 := fun q => by rw [ht] at z1; exact absurd (z1.mp q) (by decide)
            by_cases hm : s.2.2.2 = 6
            · rw [if_pos hm] at t3
              rw [if_pos (by omega)]
              exact t3
            · rw [if_neg hm, if_neg z0] at t3
              rw [if_neg (by omega)]
              exact t3.and (fun u hu => hu)
        | false =>
          rw [h8, if_neg (show ¬ (false = true) by decide)] at hK
          obtain ⟨τ, t1, t2, t3, t4, t5⟩ := fl_r T.1 1
          rw [if_pos (by decide), t1, osb, hK, if_pos rfl]
          exact ⟨τ, rfl, t2.toK, t3.1, t3.2, t4, t5⟩
theorem SI.line {r : PS × Nat} (hs : SI told s) (hp : p ≤ L) (h : pLine b L told s p = .inr r) : SI true r.1 ∧ p ≤ r.2 ∧ r.2 ≤ L := by
  obtain ⟨h1, h2, h3⟩ := pLine_i hs.1 hp h
  exact ⟨⟨fun _ => h3, fun e => (nomatch e)⟩, h1, h2⟩
theorem es_1 (T : RG σ M L b p) (h : tkS b L p = 3) : ∃ τ, f_X10_eatsSemicolon M σ = some (1, τ) ∧ FrV M σ τ ∧ RG τ M L b (adP b L p) := by
  obtain ⟨τ, t1, t2, t3⟩ := gon_g T (by omega)
  unfold f_X10_eatsSemicolon f_X10_eatsSemicolon_0 f_X10_eatsSemicolon_13 f_X10_eatsSemicolon_22
  rw [if_pos T.1.t, T.1.so, osb, h, if_pos (by decide), if_neg (by decide), t1, osb, if_pos (by decide), adP_n (by omega)]
  exact ⟨τ, rfl, t2, t3⟩
theorem es_0 (T : RG σ M L b p) (h : tkS b L p ≠ 3) : f_X10_eatsSemicolon M σ = some (0, σ) := by
  have hS := (rSo_is (tkS_4 (b := b) (L := L) (p := p))).2.2.2
  unfold f_X10_eatsSemicolon f_X10_eatsSemicolon_0 f_X10_eatsSemicolon_13 f_X10_eatsSemicolon_22
  rw [if_pos T.1.t, T.1.so, osb, if_neg (fun q => h (hS.mp q)), if_pos rfl, if_pos (by decide)]
theorem ra_o (h : Ovr σ M) (P : hP σ M 4 = some k) (K : hT σ k = 10) (f : Nat) : f_X10_readAll_2 (f + 1) M 0 σ = some σ := by
  rw [e_X10_readAll_2, if_pos rfl, h.g, osb, if_neg (by decide), fl_o h, osb]
  unfold f_X10_readAll_31 f_X10_readAll_47
  rw [gR_k h.1 P, osb, gI_k K, osb, fl_o h, osb]
  split <;> rfl
theorem ra_l : ∀ (f fu : Nat) (told : Bool) (s : PS) (p : Nat) (σ : St), L - p < f → f < fu → RG σ M L b p → RC σ M k s.1 → SI told s → ∃ τ, f_X10_readAll_2 fu M 1 σ = some τ ∧ FrK M k σ τ ∧ OutQ τ M (pAll b L f told s p) (fun s' => RC τ M k s'.1 ∧ hI τ M 12 = 0)
  | 0, fu, told, s, p, σ, h1, h2, T, C, hs => by omega
  | f + 1, fu, told, s, p, σ, h1, h2, T, C, hs => by
    obtain ⟨g, rfl⟩ : ∃ g, fu = g + 1 + 1 := ⟨fu - 2, by omega⟩
    obtain ⟨τ, t1, t2, t3⟩ := rli_r T C hs
    rw [e_X10_readAll_2, if_neg (show ¬ (1 : Int32) = 0 by decide), t1, osb]
    unfold pAll
    cases hp : pLine b L told s p with
    | inl e =>
      rw [hp] at t3
      have ov : Ovr τ M := ⟨t3.1, t3.2.1⟩
      rw [es_o ov, osb]
      dsimp only
      rw [ra_o ov (k := k) (by rw [t2.2.2.1]; exact C.1) (by rw [t2.1]; exact C.2.1.1)]
      exact ⟨τ, rfl, t2, t3⟩
    | inr q =>
      rw [hp] at t3
      obtain ⟨T', C'⟩ := t3
      obtain ⟨i1, i2, i3⟩ := hs.line T.1.2.1 hp
      dsimp only [andS]
      by_cases e3 : tkS b L q.2 = 3
      · obtain ⟨υ, u1, u2, u3⟩ := es_1 T' e3
        rw [u1, osb, if_neg (by omega), if_pos e3]
        dsimp only
        have hlt : q.2 < L := by
          by_cases g : L ≤ q.2
          · unfold tkS at e3; rw [if_pos g] at e3; omega
          · omega
        have hn := (nx_b (b := b) i3).2.2 hlt
        have ha := adP_n (b := b) (L := L) (p := q.2) (by omega)
        obtain ⟨ω, w1, w2, w3⟩ := ra_l f (g + 1) true q.1 (adP b L q.2) υ (by omega) (by omega) u3 (C'.fr u2) i1
        exact ⟨ω, w1, (t2.trans u2.toK).trans w2, w3⟩
      · rw [es_0 T' e3, osb]
        dsimp only
        have hS := (rSo_is (tkS_4 (b := b) (L := L) (p := q.2))).1
        rw [e_X10_readAll_2, if_pos rfl, T'.1.so, osb]
        unfold f_X10_readAll_31 f_X10_readAll_47
        by_cases e0 : tkS b L q.2 = 0
        · rw [if_pos (hS.mpr e0), if_pos e0, gR_k T'.1.t C'.1, osb, gI_k C'.2.1.1, osb, C'.2.2.1.2.2.2.2.1, i1.n.2.1]
          by_cases hm : 0 < q.1.2.1
          · rw [if_neg (show ¬ nI q.1.2.1 = 0 from fun e => by have := (nI_eq (b := 0) (by have := i1.n.1; omega) (by omega)).mp e; omega), if_pos hm]
            exact ⟨τ, rfl, t2, C', T'.2⟩
          · obtain ⟨υ, u1, u2, u3, u4, u5⟩ := fl_r T'.1 6
            rw [if_pos (show nI q.1.2.1 = 0 by rw [show q.1.2.1 = 0 by omega]; rfl), u1, osb, if_neg hm]
            exact ⟨υ, rfl, t2.trans u2.toK, u3.1, u3.2, u4, u5⟩
        · obtain ⟨υ, u1, u2, u3, u4, u5⟩ := fl_r T'.1 1
          have C2 := C'.fr u2
          rw [if_neg (fun q => e0 (hS.mp q)), if_neg e0, if_neg e3, u1, osb, gR_k u3.1 C2.1, osb, gI_k C2.2.1.1, osb, fl_o u3, osb]
          refine ⟨υ, ?_, t2.trans u2.toK, u3.1, u3.2, u4, u5⟩
          split <;> rfl
theorem ra_r (T : RG σ M L b p) (C : RC σ M k (fun _ _ => 0)) : ∃ τ, f_X10_readAll M σ = some τ ∧ FrK M k σ τ ∧ OutQ τ M (pAll b L (L + 1) false ((fun _ _ => 0), 0, 0, 0) p) (fun s' => RC τ M k s'.1 ∧ hI τ M 12 = 0) := by
  have h9 := T.1.1.2.2.2.1
  unfold f_X10_readAll f_X10_readAll_0
  rw [if_pos T.1.t]
  exact ra_l (L + 1) FU false _ p σ (by omega) (by unfold FU; omega) T C ⟨fun e => (nomatch e), fun _ => rfl⟩
end Ral
