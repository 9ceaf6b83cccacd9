/-! CONSTRUCTORS with objects of their own -/
section Con2
variable {σ0 σ τ υ : St} {a f t n k j f' r t' n' ty b : Nat}
theorem NwB.arr : NwB σ (nw σ t n) 1 := by
  obtain ⟨b1, b2, b3, b4, b5⟩ := Bt.new σ t n
  exact ⟨b1, b3, b5⟩
theorem Bt.sub (B : Bt σ0 σ k ty j) (N : NwB σ τ n) (f : Nat) : Bt σ0 (sP τ k f (some (k + j))) k ty (j + n) ∧ hP (sP τ k f (some (k + j))) k f = some (k + j) ∧ (∀ q, q ≠ f → hP (sP τ k f (some (k + j))) k q = hP σ k q) ∧ (∀ r, r < k + j → r ≠ k → Sm σ (sP τ k f (some (k + j))) r) ∧ (∀ r, r ≠ k → Sm τ (sP τ k f (some (k + j))) r) ∧ pP ty f k (k + j) τ = some (sP τ k f (some (k + j))) := by
  obtain ⟨b1, b2, b3, b4, b5⟩ := B
  obtain ⟨n1, n2, n3⟩ := N
  have g : ∀ r, r ≠ k → Sm τ (sP τ k f (some (k + j))) r := fun r hr => (Fg.sP (S := fun r => r = k) rfl).2 r hr
  have hk := n1 k (by omega)
  have ht : hT τ k = ty := by rw [hk.1]; exact b2
  refine ⟨⟨fun r hr => ((b1 r hr).trans (n1 r (by omega))).trans (g r (by omega)), ht, by show hZ τ = _; omega, by omega, fun r h1 h2 q => ?_⟩, hP_sPe, fun q hq => by rw [hP_sPn (Or.inr hq), hk.2.2.2.1], fun r h1 h2 => (n1 r (by omega)).trans (g r h2), g, pP_k ht⟩
  show hI τ r q = 0
  by_cases h : r < hZ σ
  · rw [(n1 r h).2.2.1]; exact b5 r h1 (by omega) q
  · exact n3 r (by omega) (by omega) q
theorem Bt.z (B : Bt σ0 σ k ty j) (q : Nat) : Bt σ0 (sI σ k q 0) k ty j := by
  obtain ⟨b1, b2, b3, b4, b5⟩ := B
  refine ⟨fun r hr => (b1 r hr).trans ((Fg.sI (S := fun r => r = k) rfl).2 r (by omega)), b2, b3, b4, fun r h1 h2 q' => ?_⟩
  rw [hI_sI]
  split
  · rfl
  · exact b5 r h1 h2 q'
theorem Bt.nr (B : Bt σ0 σ k ty j) (h : hP σ k f = some b) : gR ty f k (nw σ t n) = some b := by
  obtain ⟨b1, b2, b3, b4, b5⟩ := B
  exact gR_k ((if_neg (show ¬ k = hZ σ by omega)).trans b2) ((if_neg (show ¬ k = hZ σ by omega)).trans h)
theorem Fld.sb (F : Fld σ k f' b t' n') (h1 : hP τ k f' = hP σ k f') (s : Sm σ τ b) : Fld τ k f' b t' n' := ⟨by rw [h1]; exact F.1, by rw [s.1]; exact F.2.1, by rw [s.2.1]; exact F.2.2⟩
theorem TSh.sm {X : Nat} (h : TSh σ X) (s : ∀ r, X ≤ r → r ≤ X + 3 → Sm σ τ r) : TSh τ X := by
  have s0 := s X (by omega) (by omega)
  exact ⟨by rw [s0.1]; exact h.1, h.2.1.sm s0 (s _ (by omega) (by omega)), h.2.2.1.sm s0 (s _ (by omega) (by omega)), h.2.2.2.sm s0 (s _ (by omega) (by omega))⟩
theorem yinit_k (σ : St) (p : Nat) : ∃ τ, f_X0_init (hZ σ) p (nw σ 1 0) = some τ ∧ YSh τ (hZ σ) ∧ NwB σ τ 12 := by
  have B0 := Bt.new σ 1 0
  unfold NwB
  generalize hZ σ = k at B0 ⊢
  unfold f_X0_init f_X0_init_0
  rw [if_pos B0.2.1]
  generalize nw σ 1 0 = σ0 at B0 ⊢
  have B1 := B0.go (f := 1) (t := 22) (n := 16)
  have a1 := B0.fld (f := 1) (t := 22) (n := 16)
  rw [B0.st]
  generalize nwF σ0 k 1 22 16 = σ1 at B1 a1 ⊢
  have B2 := B1.go (f := 2) (t := 22) (n := 16)
  have a2 := B1.fld (f := 2) (t := 22) (n := 16)
  replace a1 := B1.no (f := 2) (t := 22) (n := 16) a1 (by omega) (by omega)
  rw [B1.st]
  generalize nwF σ1 k 2 22 16 = σ2 at B2 a1 a2 ⊢
  have B3 := B2.go (f := 3) (t := 22) (n := 16)
  have a3 := B2.fld (f := 3) (t := 22) (n := 16)
  replace a1 := B2.no (f := 3) (t := 22) (n := 16) a1 (by omega) (by omega)
  replace a2 := B2.no (f := 3) (t := 22) (n := 16) a2 (by omega) (by omega)
  rw [B2.st]
  generalize nwF σ2 k 3 22 16 = σ3 at B3 a1 a2 a3 ⊢
  have B4 := B3.go (f := 4) (t := 22) (n := 16)
  have a4 := B3.fld (f := 4) (t := 22) (n := 16)
  replace a1 := B3.no (f := 4) (t := 22) (n := 16) a1 (by omega) (by omega)
  replace a2 := B3.no (f := 4) (t := 22) (n := 16) a2 (by omega) (by omega)
  replace a3 := B3.no (f := 4) (t := 22) (n := 16) a3 (by omega) (by omega)
  rw [B3.st]
  generalize nwF σ3 k 4 22 16 = σ4 at B4 a1 a2 a3 a4 ⊢
  obtain ⟨τ, m1, m2, m3⟩ := minit_k σ4 p
  rw [bndu, m1, osb]
  have hz : hZ σ4 = k + 5 := B4.2.2.1
  rw [hz] at m2 ⊢
  obtain ⟨S1, S2, S3, S4, S5, S6⟩ := Bt.sub (j := 5) B4 m3 0
  rw [S6, osb]
  exact ⟨_, rfl, ⟨S1.2.1, S2, a1.sb (S3 1 (by omega)) (S4 _ (by omega) (by omega)), a2.sb (S3 2 (by omega)) (S4 _ (by omega) (by omega)), a3.sb (S3 3 (by omega)) (S4 _ (by omega) (by omega)), a4.sb (S3 4 (by omega)) (S4 _ (by omega) (by omega)), m2.sm (fun r h1 h2 => S5 r (by omega))⟩, S1.1, S1.2.2.1, S1.2.2.2.2⟩
theorem rinit_k (σ : St) (p : Nat) : ∃ τ, f_X6_init (hZ σ) p (nw σ 7 0) = some τ ∧ (hT τ (hZ σ) = 7 ∧ hP τ (hZ σ) 3 = some (hZ σ + 2) ∧ TSh τ (hZ σ + 2)) ∧ NwB σ τ 6 := by
  have B0 := Bt.new σ 7 0
  unfold NwB
  generalize hZ σ = k at B0 ⊢
  unfold f_X6_init f_X6_init_0
  rw [if_pos B0.2.1]
  generalize nw σ 7 0 = σ0 at B0 ⊢
  have B1 := B0.go (f := 2) (t := 21) (n := 0)
  rw [B0.st]
  generalize nwF σ0 k 2 21 0 = σ1 at B1 ⊢
  obtain ⟨τ, m1, m2, m3⟩ := tinit_k σ1
  rw [bndu, m1, osb]
  have hz : hZ σ1 = k + 2 := B1.2.2.1
  rw [hz] at m2 ⊢
  obtain ⟨S1, S2, S3, S4, S5, S6⟩ := Bt.sub (j := 2) B1 m3 3
  rw [S6, osb, pP_k S1.2.1, osb]
  have G : Fg (fun r => r = k) (sP τ k 3 (some (k + 2))) (sP (sP τ k 3 (some (k + 2))) k 7 (some p)) := Fg.sP rfl
  refine ⟨_, rfl, ⟨S1.2.1, by rw [hP_sPn (Or.inr (by omega))]; exact S2, m2.sm (fun r h1 h2 => (S5 r (by omega)).trans (G.2 r (by omega)))⟩, fun r hr => (S1.1 r hr).trans (G.2 r (by omega)), S1.2.2.1, S1.2.2.2.2⟩
theorem xP_k {i N : Nat} (h : hT σ a = 25) (h2 : hN σ a = N) (hj : i < N) (hn : N ≤ 100000) (hb : hT σ b = 4) : xP a (nI i) b σ = some (sP σ a i (some b)) := by
  have e : ixo (nI i) N = true := by
    have := nI_in (c := i) (N := N) hj (by omega)
    unfold ixo
    simpa using this
  unfold xP
  rw [if_pos ⟨h, by rw [h2]; exact e, hb⟩, nI_clamp (by omega)]
theorem hst {w i N p : Nat} (B : Bt σ0 σ k 3 j) (hp : hP σ k f = some (k + w)) (h0 : 0 < w) (hw : w < j) (ht : hT σ (k + w) = 25) (hn : hN σ (k + w) = N) (hi : i < N) (hN' : N ≤ 100000) : ∃ τ, (∀ g : St → Option St, ((gR 3 f k σ).bind fun x2 => bnd (nw σ 4 0) fun σ3 => (f_X3_init (hZ σ) p σ3).bind fun σ4 => (xP x2 (nI i) (hZ σ) σ4).bind g) = g τ) ∧ Bt σ0 τ k 3 (j + 7) ∧ (∀ r, r < k + j → r ≠ k + w → Sm σ τ r) ∧ hT τ (k + w) = 25 ∧ hN τ (k + w) = N ∧ hP τ (k + w) i = some (k + j) ∧ (∀ q, q ≠ i → hP τ (k + w) q = hP σ (k + w) q) ∧ MSh τ (k + j) := by
  obtain ⟨b1, b2, b3, b4, b5⟩ := B
  obtain ⟨τ, m1, m2, n1, n2, n3⟩ := minit_k σ p
  rw [b3] at m1 m2 n1 n2 n3
  have sw := n1 (k + w) (by omega)
  have hT' : hT τ (k + w) = 25 := by rw [sw.1]; exact ht
  have hN'' : hN τ (k + w) = N := by rw [sw.2.1]; exact hn
  have G : Fg (fun r => r = k + w) τ (sP τ (k + w) i (some (k + j))) := Fg.sP rfl
  refine ⟨sP τ (k + w) i (some (k + j)), fun g => ?_, ⟨fun r hr => ((b1 r hr).trans (n1 r (by omega))).trans (G.2 r (by omega)), ?_, by show hZ τ = _; omega, by omega, fun r h1 h2 q => ?_⟩, fun r h1 h2 => (n1 r h1).trans (G.2 r h2), hT', hN'', hP_sPe, fun q hq => by rw [hP_sPn (Or.inr hq), sw.2.2.2.1], m2.sm (fun r h1 h2 => G.2 r (by omega))⟩
  · rw [gR_k b2 hp, osb, bndu, b3, m1, osb, xP_k hT' hN'' hi hN' m2.1, osb]
  · show hT τ k = 3
    rw [(n1 k (by omega)).1]; exact b2
  · show hI τ r q = 0
    by_cases h : r < k + j
    · rw [(n1 r h).2.2.1]; exact b5 r h1 h q
    · exact n3 r (by omega) (by omega) q
theorem hl51 {p : Nat} : ∀ (q i fu : Nat) (σ : St), i + q = 3 → q < fu → Bt σ0 σ k 3 (115 + 7 * i) → hP σ k 1 = some (k + 2) → hT σ (k + 2) = 25 → hN σ (k + 2) = 3 → (∀ a, a < i → hP σ (k + 2) a = some (k + 115 + 7 * a) ∧ MSh σ (k + 115 + 7 * a)) → ∃ τ, f_X2_init_51 fu k p (nI i) σ = some τ ∧ Bt σ0 τ k 3 136 ∧ (∀ r, r < k + 115 → r ≠ k + 2 → Sm σ τ r) ∧ hT τ (k + 2) = 25 ∧ hN τ (k + 2) = 3 ∧ (∀ a, a < 3 → hP τ (k + 2) a = some (k + 115 + 7 * a) ∧ MSh τ (k + 115 + 7 * a))
  | 0, i, fu, σ, hi, hf, B, h1, h2, h3, h4 => by
    obtain ⟨f, rfl⟩ : ∃ f, fu = f + 1 := ⟨fu - 1, by omega⟩
    obtain rfl : i = 3 := by omega
    rw [e_X2_init_51, if_pos (by decide)]
    exact ⟨σ, rfl, B, fun r _ _ => Sm.refl, h2, h3, h4⟩
  | q + 1, i, fu, σ, hi, hf, B, h1, h2, h3, h4 => by
    obtain ⟨f, rfl⟩ : ∃ f, fu = f + 1 := ⟨fu - 1, by omega⟩
    rw [e_X2_init_51, if_neg (show ¬ (3 : Int32) ≤ nI i from nI_ge (a := i) (b := 3) (by omega) (by omega))]
    obtain ⟨τ, t1, t2, t3, t4, t5, t6, t7, t8⟩ := hst (p := p) B h1 (by omega) (by omega) h2 h3 (show i < 3 by omega) (by omega)
    have e : ∀ a, a < i + 1 → hP τ (k + 2) a = some (k + 115 + 7 * a) ∧ MSh τ (k + 115 + 7 * a) := fun a ha => by
      by_cases h : a = i
      · subst h
        rw [Nat.add_assoc]
        exact ⟨t6, t8⟩
      · exact ⟨by rw [t7 a h]; exact (h4 a (by omega)).1, (h4 a (by omega)).2.sm (fun r q1 q2 => t3 r (by omega) (by omega))⟩
    obtain ⟨υ, u1, u2, u3, u4⟩ := hl51 (p := p) q (i + 1) f τ (by omega) (by omega) (by rw [show 115 + 7 * (i + 1) = 115 + 7 * i + 7 by omega]; exact t2) (by rw [(t3 k (by omega) (by omega)).2.2.2.1]; exact h1) t4 t5 e
    rw [t1, nI_1, u1]
    exact ⟨υ, rfl, u2, fun r q1 q2 => (t3 r (by omega) q2).trans (u3 r q1 q2), u4⟩
theorem hl23 {p : Nat} : ∀ (q i fu : Nat) (σ : St), i + q = 16 → q < fu → Bt σ0 σ k 3 (3 + 7 * i) → hP σ k 0 = some (k + 1) → hT σ (k + 1) = 25 → hN σ (k + 1) = 16 → hP σ k 1 = some (k + 2) → hT σ (k + 2) = 25 → hN σ (k + 2) = 3 → (∀ a, a < i → hP σ (k + 1) a = some (k + 3 + 7 * a) ∧ MSh σ (k + 3 + 7 * a)) → ∃ τ, f_X2_init_23 fu k p (nI i) σ = some τ ∧ Bt σ0 τ k 3 136 ∧ hP τ k 0 = some (k + 1) ∧ hP τ k 1 = some (k + 2) ∧ hT τ (k + 1) = 25 ∧ hN τ (k + 1) = 16 ∧ hT τ (k + 2) = 25 ∧ hN τ (k + 2) = 3 ∧ (∀ a, a < 16 → hP τ (k + 1) a = some (k + 3 + 7 * a) ∧ MSh τ (k + 3 + 7 * a)) ∧ (∀ a, a < 3 → hP τ (k + 2) a = some (k + 115 + 7 * a) ∧ MSh τ (k + 115 + 7 * a))
  | 0, i, fu, σ, hi, hf, B, h1, h2, h3, g1, g2, g3, h4 => by
    obtain ⟨f, rfl⟩ : ∃ f, fu = f + 1 := ⟨fu - 1, by omega⟩
    obtain rfl : i = 16 := by omega
    rw [e_X2_init_23, if_pos (by decide)]
    obtain ⟨υ, u1, u2, u3, u4, u5, u6⟩ := hl51 (p := p) 3 0 FU σ (by omega) (by unfold FU; omega) B g1 g2 g3 (fun a ha => absurd ha (by omega))
    rw [nI_0] at u1
    have sk := u3 k (by omega) (by omega)
    have s1 := u3 (k + 1) (by omega) (by omega)
    exact ⟨υ, u1, u2, by rw [sk.2.2.2.1]; exact h1, by rw [sk.2.2.2.1]; exact g1, by rw [s1.1]; exact h2, by rw [s1.2.1]; exact h3, u4, u5, fun a ha => ⟨by rw [s1.2.2.2.1]; exact (h4 a ha).1, (h4 a ha).2.sm (fun r q1 q2 => u3 r (by omega) (by omega))⟩, u6⟩
  | q + 1, i, fu, σ, hi, hf, B, h1, h2, h3, g1, g2, g3, h4 => by
    obtain ⟨f, rfl⟩ : ∃ f, fu = f + 1 := ⟨fu - 1, by omega⟩
    rw [e_X2_init_23, if_neg (show ¬ (16 : Int32) ≤ nI i from nI_ge (a := i) (b := 16) (by omega) (by omega))]
    obtain ⟨τ, t1, t2, t3, t4, t5, t6, t7, t8⟩ := hst (p := p) B h1 (by omega) (by omega) h2 h3 (show i < 16 by omega) (by omega)
    have e : ∀ a, a < i + 1 → hP τ (k + 1) a = some (k + 3 + 7 * a) ∧ MSh τ (k + 3 + 7 * a) := fun a ha => by
      by_cases h : a = i
      · subst h
        rw [Nat.add_assoc]
        exact ⟨t6, t8⟩
      · exact ⟨by rw [t7 a h]; exact (h4 a (by omega)).1, (h4 a (by omega)).2.sm (fun r q1 q2 => t3 r (by omega) (by omega))⟩
    have sk := t3 k (by omega) (by omega)
    have s2 := t3 (k + 2) (by omega) (by omega)
    obtain ⟨υ, u1, u2⟩ := hl23 (p := p) q (i + 1) f τ (by omega) (by omega) (by rw [show 3 + 7 * (i + 1) = 3 + 7 * i + 7 by omega]; exact t2) (by rw [sk.2.2.2.1]; exact h1) t4 t5 (by rw [sk.2.2.2.1]; exact g1) (by rw [s2.1]; exact g2) (by rw [s2.2.1]; exact g3) e
    rw [t1, nI_1, u1]
    exact ⟨υ, rfl, u2⟩
/-- the History at h -/
def Hsh (τ : St) (k : Nat) : Prop := hT τ k = 3 ∧ hP τ k 0 = some (k + 1) ∧ hP τ k 1 = some (k + 2) ∧ hT τ (k + 1) = 25 ∧ hN τ (k + 1) = 16 ∧ hT τ (k + 2) = 25 ∧ hN τ (k + 2) = 3 ∧ (∀ a, a < 16 → hP τ (k + 1) a = some (k + 3 + 7 * a) ∧ MSh τ (k + 3 + 7 * a)) ∧ (∀ a, a < 3 → hP τ (k + 2) a = some (k + 115 + 7 * a) ∧ MSh τ (k + 115 + 7 * a))
theorem Hsh.sm (h : Hsh σ k) (s : ∀ r, k ≤ r → r < k + 136 → Sm σ τ r) : Hsh τ k := by
  obtain ⟨h1, h2, h3, h4, h5, h6, h7, h8, h9⟩ := h
  have s0 := s k (by omega) (by omega)
  have s1 := s (k + 1) (by omega) (by omega)
  have s2 := s (k + 2) (by omega) (by omega)
  exact ⟨by rw [s0.1]; exact h1, by rw [s0.2.2.2.1]; exact h2, by rw [s0.2.2.2.1]; exact h3, by rw [s1.1]; exact h4, by rw [s1.2.1]; exact h5, by rw [s2.1]; exact h6, by rw [s2.2.1]; exact h7, fun a ha => ⟨by rw [s1.2.2.2.1]; exact (h8 a ha).1, (h8 a ha).2.sm (fun r q1 q2 => s r (by omega) (by omega))⟩, fun a ha => ⟨by rw [s2.2.2.2.1]; exact (h9 a ha).1, (h9 a ha).2.sm (fun r q1 q2 => s r (by omega) (by omega))⟩⟩
theorem hinit_k (σ : St) (p : Nat) : ∃ τ, f_X2_init (hZ σ) p (nw σ 3 0) = some τ ∧ Hsh τ (hZ σ) ∧ NwB σ τ 136 := by
  have B0 := Bt.new σ 3 0
  unfold NwB
  generalize hZ σ = k at B0 ⊢
  unfold f_X2_init f_X2_init_0
  rw [if_pos B0.2.1]
  generalize nw σ 3 0 = σ0 at B0 ⊢
  have B1 := B0.go (f := 0) (t := 25) (n := 16)
  have a1 := B0.fld (f := 0) (t := 25) (n := 16)
  rw [B0.st]
  generalize nwF σ0 k 0 25 16 = σ1 at B1 a1 ⊢
  have B2 := B1.go (f := 1) (t := 25) (n := 3)
  have a2 := B1.fld (f := 1) (t := 25) (n := 3)
  replace a1 := B1.no (f := 1) (t := 25) (n := 3) a1 (by omega) (by omega)
  rw [B1.st]
  generalize nwF σ1 k 1 25 3 = σ2 at B2 a1 a2 ⊢
  obtain ⟨τ, t1, t2, t3⟩ := hl23 (p := p) 16 0 FU σ2 (by omega) (by unfold FU; omega) B2 a1.1 a1.2.1 a1.2.2 a2.1 a2.2.1 a2.2.2 (fun a ha => absurd ha (by omega))
  rw [nI_0] at t1
  exact ⟨τ, t1, ⟨t2.2.1, t3⟩, t2.1, t2.2.2.1, t2.2.2.2.2⟩
end Con2
