/-! THE CLASS's history -/
def rmA (na : Nat) : Nat := if na = 16 then 16 else na + 1
def rmH (na : Nat) (h : Nat → Nat → Int32) (x : Nat → Int32) : Nat → Nat → Int32 := fun k => if na = 16 then (if k < 15 then h (k + 1) else x) else (if k = na then x else h k)
/-- the rows behind an act, but for the row now -/
def rmS (S : SX) : SX := (S.1, rmA S.2.1, rmH S.2.1 S.2.2.1 S.1, S.2.2.2.1, S.2.2.2.2)
section Hist
variable {σ τ υ : St} {z p d M k t : Nat} {P : PT} {S S' : SX} {I : IT} {tr wh v w : Int32} {B : Nat}
def Hd (z p : Nat) (P : PT) (S : SX) (σ : St) : Prop := hI σ (z + 44) 3 = nI S.2.1 ∧ hI σ (z + 44) 4 = nI S.2.2.2.1 ∧ (S.2.1 ≤ 16 ∧ S.2.2.2.1 ≤ 3) ∧ ∃ t, t < 16 ∧ hI σ (z + 44) 2 = nI t ∧ (P.1 = true → ∀ k, k < S.2.1 → Mq P p σ (z + 47 + 7 * ((t + 16 - S.2.1 + k) % 16)) (S.2.2.1 k))
theorem CB.hd' (C : CB z p d P S I σ) : Hd z p P S σ := C.2.2.2.2.1.2.1
theorem CB.hm (C : CB z p d P S I σ) (s : ∀ r, z ≤ r → r ≤ z + 194 → r ≠ z + 44 → ¬ (z + 47 ≤ r ∧ r ≤ z + 179) → ¬ (z + 30 ≤ r ∧ r ≤ z + 36) → Sm σ τ r) (t44 : hT τ (z + 44) = hT σ (z + 44)) (p44 : hP τ (z + 44) = hP σ (z + 44)) (m16 : ∀ k, k < 16 → MSh τ (z + 47 + 7 * k)) (m3 : ∀ k, k < 3 → MSh τ (z + 159 + 7 * k)) (m30 : MSh τ (z + 30)) (g2 : Hd z p P S' τ) (g3 : P.1 = true → Mq P p τ (z + 30) S'.1 ∧ ∀ k, k < S'.2.2.2.1 → Mq P p τ (z + 159 + 7 * k) (S'.2.2.2.2 k)) : CB z p d P S' I τ := by
  obtain ⟨c1, c2, c3, ⟨t1, t2, t3, t4, t5, t6, t7⟩, ⟨⟨d1, d2, d3, d4⟩, -, f1⟩, c6⟩ := C
  have a : ∀ r, z ≤ r → r ≤ z + 29 → Sm σ τ r := fun r h1 h2 => s r h1 (by omega) (by omega) (by omega) (by omega)
  have b : ∀ r, z + 37 ≤ r → r ≤ z + 43 → Sm σ τ r := fun r h1 h2 => s r (by omega) (by omega) (by omega) (by omega) (by omega)
  have e : ∀ r, z + 180 ≤ r → r ≤ z + 194 → Sm σ τ r := fun r h1 h2 => s r (by omega) (by omega) (by omega) (by omega) (by omega)
  have s45 : Sm σ τ (z + 45) := s _ (by omega) (by omega) (by omega) (by omega) (by omega)
  have s46 : Sm σ τ (z + 46) := s _ (by omega) (by omega) (by omega) (by omega) (by omega)
  obtain ⟨h1, h2, h3, h4, h5, h6, h7, h8, h9⟩ := c3
  refine ⟨c1.mv (a z (by omega) (by omega)).1 (a z (by omega) (by omega)).2.2.2.1 (a _ (by omega) (by omega)), c2.mv (fun r q1 q2 => a r (by omega) (by omega)), ⟨by rw [t44]; exact h1, by rw [p44]; exact h2, by rw [p44]; exact h3, by rw [s45.1]; exact h4, by rw [s45.2.1]; exact h5, by rw [s46.1]; exact h6, by rw [s46.2.1]; exact h7, fun k hk => ⟨by rw [s45.2.2.2.1]; exact (h8 k hk).1, m16 k hk⟩, fun k hk => ⟨by rw [s46.2.2.2.1]; exact (h9 k hk).1, m3 k hk⟩⟩, ⟨m30, t2.sm (fun r q1 q2 => b r q1 q2), t3.sm (fun r q1 q2 => e r (by omega) (by omega)), t4.sm (fun r q1 q2 => e r (by omega) (by omega)), by rw [(e (z + 194) (by omega) (by omega)).1]; exact t5, t6.sm (fun r q1 q2 => a r (by omega) (by omega)), t7.sm (fun r q1 q2 => a r (by omega) (by omega))⟩, ⟨⟨by rw [(a z (by omega) (by omega)).2.2.1]; exact d1, by rw [(a z (by omega) (by omega)).2.2.1]; exact d2, fun k hk => by rw [(a (z + 1) (by omega) (by omega)).2.2.1]; exact d3 k hk, by rw [(a (z + 24) (by omega) (by omega)).2.2.1]; exact d4⟩, g2, fun hT => ⟨(g3 hT).1, (g3 hT).2, (f1 hT).2.2.sm (e _ (by omega) (by omega))⟩⟩, fun h => (c6 h).sm (fun r _ _ => e r (by omega) (by omega))⟩
/-- the Machine now has changed -/
theorem CB.now (C : CB z p d P S I σ) (F : Fg (inM (z + 30)) σ τ) (m30 : MSh τ (z + 30)) {y : Nat → Int32} (hM : P.1 = true → Mq P p τ (z + 30) y) : CB z p d P (y, S.2) I τ := by
  have pd := C.1.pd
  have s : ∀ r, ¬ (z + 30 ≤ r ∧ r ≤ z + 36) → Sm σ τ r := fun r h => F.2 r (fun g => h ⟨g.1, g.2⟩)
  have mm : ∀ a yy, z + 44 ≤ a → Mq P p σ a yy → Mq P p τ a yy := fun a yy ha M => Mc.sm M (fun r q1 q2 => s r (by omega)) (fun r q1 q2 => s r (by omega))
  have H := C.2.2.1
  obtain ⟨e1, e2, e5, t, ht, e3, e4⟩ := C.hd'
  have s44 := s (z + 44) (by omega)
  exact C.hm (fun r _ _ _ _ h => s r h) s44.1 s44.2.2.2.1 (fun k hk => (H.2.2.2.2.2.2.2.1 k hk).2.sm (fun r q1 q2 => s r (by omega))) (fun k hk => (H.2.2.2.2.2.2.2.2 k hk).2.sm (fun r q1 q2 => s r (by omega))) m30 ⟨by rw [s44.2.2.1]; exact e1, by rw [s44.2.2.1]; exact e2, e5, t, ht, by rw [s44.2.2.1]; exact e3, fun hT k hk => mm _ _ (by omega) (e4 hT k hk)⟩ (fun hT => ⟨hM hT, fun k hk => mm _ _ (by omega) ((C.2.2.2.2.1.2.2 hT).2.1 k hk)⟩)
theorem CB.past (C : CB z p d P S I σ) {k : Nat} (hk : k < 16) : aP (z + 45) (nI k) σ = some (z + 47 + 7 * k) := aP_k C.2.2.1.2.2.2.1 C.2.2.1.2.2.2.2.1 hk (by omega) (C.2.2.1.2.2.2.2.2.2.2.1 k hk).1
theorem CB.img (C : CB z p d P S I σ) {k : Nat} (hk : k < 3) : aP (z + 46) (nI k) σ = some (z + 159 + 7 * k) := aP_k C.2.2.1.2.2.2.2.2.1 C.2.2.1.2.2.2.2.2.2.1 hk (by omega) (C.2.2.1.2.2.2.2.2.2.2.2 k hk).1
/-- a slot of the ring or an image is written, and the history's own numbers -/
theorem slot_m (C : CB z p d P S I σ) {a : Nat} (ha : z + 47 ≤ a) (ha2 : a + 6 ≤ z + 179) (F : Fg (inM a) σ τ) (m : MSh τ a) (hal : ∃ k, a = z + 47 + 7 * k) : (∀ k, k < 16 → MSh τ (z + 47 + 7 * k)) ∧ (∀ k, k < 3 → MSh τ (z + 159 + 7 * k)) := by
  obtain ⟨j, hj⟩ := hal
  have H := C.2.2.1
  have s : ∀ r, ¬ (a ≤ r ∧ r ≤ a + 6) → Sm σ τ r := fun r h => F.2 r (fun g => h ⟨g.1, g.2⟩)
  refine ⟨fun k hk => ?_, fun k hk => ?_⟩
  · by_cases e : k = j
    · subst e; rw [← hj]; exact m
    · exact (H.2.2.2.2.2.2.2.1 k hk).2.sm (fun r q1 q2 => s r (by omega))
  · by_cases e : z + 159 + 7 * k = a
    · rw [e]; exact m
    · exact (H.2.2.2.2.2.2.2.2 k hk).2.sm (fun r q1 q2 => s r (by omega))
theorem keep_h (C : CB z p d P S I σ) (hP : P.1 = true) (h38 : S.1 38 = 0 ∨ S.1 38 = 1) : ∃ τ, f_X2_keep (z + 44) (z + 30) σ = some τ ∧ CB z p d P (rmS S) I τ ∧ Fg (inC z) σ τ ∧ ∀ r, r < z + 44 → Sm σ τ r := by
  have pd := C.1.pd
  obtain ⟨e1, e2, ⟨e5, e6⟩, t, ht, e3, e4⟩ := C.hd'
  have H := C.2.2.1
  have hp := C.past ht
  obtain ⟨τ, t1, t2, t3⟩ := copy_c (b := z + 47 + 7 * t) (C.mq hP) (H.2.2.2.2.2.2.2.1 t ht).2 (Or.inl (by omega)) (by omega) h38
  have s : ∀ r, ¬ (z + 47 + 7 * t ≤ r ∧ r ≤ z + 47 + 7 * t + 6) → Sm σ τ r := fun r h => t2.2 r (fun g => h ⟨g.1, g.2⟩)
  have s44 := s (z + 44) (by omega)
  have ht3 : hT τ (z + 44) = 3 := by rw [s44.1]; exact H.1
  have hr : jrem (nI t + 1) 16 = nI ((t + 1) % 16) := by rw [nI_1]; exact rem_n (d := 16) (by omega) (by omega) (by omega)
  have hm : jmin (nI S.2.1 + 1) 16 = nI (rmA S.2.1) := by
    rw [nI_1]
    unfold jmin rmA
    by_cases h : S.2.1 = 16
    · rw [h, if_pos rfl]; rfl
    · rw [if_neg h]
      rw [if_neg (show ¬ (16 : Int32) < nI (S.2.1 + 1) from nI_nlt (a := 16) (b := S.2.1 + 1) (by omega) (by omega))]
  have F3 : Fr (fun r => r = z + 44) τ (sI (sI τ (z + 44) 2 (nI ((t + 1) % 16))) (z + 44) 3 (nI (rmA S.2.1))) := Fr.st (Fr.s0 rfl) rfl
  have hI4 : hI (sI (sI τ (z + 44) 2 (nI ((t + 1) % 16))) (z + 44) 3 (nI (rmA S.2.1))) (z + 44) 4 = nI S.2.2.2.1 := by rw [hI_sIn (Or.inr (by omega)), hI_sIn (Or.inr (by omega)), s44.2.2.1]; exact e2
  have hI3 : hI (sI (sI τ (z + 44) 2 (nI ((t + 1) % 16))) (z + 44) 3 (nI (rmA S.2.1))) (z + 44) 3 = nI (rmA S.2.1) := hI_sIe
  have hI2 : hI (sI (sI τ (z + 44) 2 (nI ((t + 1) % 16))) (z + 44) 3 (nI (rmA S.2.1))) (z + 44) 2 = nI ((t + 1) % 16) := by rw [hI_sIn (Or.inr (by omega)), hI_sIe]
  have hf : f_X2_keep (z + 44) (z + 30) σ = some (sI (sI τ (z + 44) 2 (nI ((t + 1) % 16))) (z + 44) 3 (nI (rmA S.2.1))) := by
    have g3 : hI (sI τ (z + 44) 2 (nI ((t + 1) % 16))) (z + 44) 3 = nI S.2.1 := by rw [hI_sIn (Or.inr (by omega)), s44.2.2.1]; exact e1
    unfold f_X2_keep f_X2_keep_0
    rw [if_pos H.1, gR_k H.1 H.2.1, osb, gI_k H.1, osb, e3, hp, osb, t1, osb, gI_k ht3, osb, s44.2.2.1, e3, hr, pI_k ht3, osb, gI_k (σ := sI τ (z + 44) 2 (nI ((t + 1) % 16))) ht3, osb, g3, hm, pI_k (σ := sI τ (z + 44) 2 (nI ((t + 1) % 16))) ht3, osb]
  generalize sI (sI τ (z + 44) 2 (nI ((t + 1) % 16))) (z + 44) 3 (nI (rmA S.2.1)) = ω at F3 hI4 hI3 hI2 hf
  have G : ∀ r, r ≠ z + 44 → ¬ (z + 47 + 7 * t ≤ r ∧ r ≤ z + 47 + 7 * t + 6) → Sm σ ω r := fun r h1 h2 => (s r h2).trans (F3.sm h1)
  have mt : MSh ω (z + 47 + 7 * t) := t3.1.fr F3
  have nw : ∀ yy a, a ≠ z + 47 + 7 * t → (∃ j, a = z + 47 + 7 * j) → Mq P p σ a yy → Mq P p ω a yy := fun yy a ha hj M => by
    obtain ⟨j, hj⟩ := hj
    exact Mc.sm M (fun r q1 q2 => G r (by omega) (by omega)) (fun r q1 q2 => G r (by omega) (by omega))
  have M0 : Mq P p ω (z + 47 + 7 * t) S.1 := Mc.sm t3 (fun r q1 q2 => F3.sm (by omega)) (fun r q1 q2 => F3.sm (by omega))
  have H16 : ∀ k, k < 16 → MSh ω (z + 47 + 7 * k) := fun k hk => by
    by_cases e : k = t
    · subst e; exact mt
    · exact (H.2.2.2.2.2.2.2.1 k hk).2.sm (fun r q1 q2 => G r (by omega) (by omega))
  refine ⟨ω, hf, C.hm (fun r q1 q2 h1 h2 _ => G r h1 (by omega)) (by rw [F3.1, s44.1]) (by rw [F3.2.2.1, s44.2.2.2.1]) H16 (fun k hk => (H.2.2.2.2.2.2.2.2 k hk).2.sm (fun r q1 q2 => G r (by omega) (by omega))) (C.2.2.2.1.1.sm (fun r q1 q2 => G r (by omega) (by omega))) ⟨hI3, hI4, ⟨?_, e6⟩, (t + 1) % 16, Nat.mod_lt _ (by omega), hI2, fun hT k hk => ?_⟩ (fun hT => ⟨Mc.sm (C.mq hT) (fun r q1 q2 => G r (by omega) (by omega)) (fun r q1 q2 => G r (by omega) (by omega)), fun k hk => Mc.sm ((C.2.2.2.2.1.2.2 hT).2.1 k hk) (fun r q1 q2 => G r (by omega) (by omega)) (fun r q1 q2 => G r (by omega) (by omega))⟩), ⟨by rw [F3.2.2.2.2.1, t2.1], fun r hr => G r (fun e => hr ⟨by omega, by omega⟩) (fun e => hr ⟨by omega, by omega⟩)⟩, fun r hr => G r (by omega) (by omega)⟩
  · show rmA S.2.1 ≤ 16
    unfold rmA
    split <;> omega
  · have hk' : k < rmA S.2.1 := hk
    show Mq P p ω (z + 47 + 7 * (((t + 1) % 16 + 16 - rmA S.2.1 + k) % 16)) (rmH S.2.1 S.2.2.1 S.1 k)
    unfold rmA at hk' ⊢
    unfold rmH
    by_cases h16 : S.2.1 = 16
    · rw [if_pos h16] at hk' ⊢
      rw [if_pos h16]
      by_cases hk15 : k < 15
      · rw [if_pos hk15, show ((t + 1) % 16 + 16 - 16 + k) % 16 = (t + 16 - S.2.1 + (k + 1)) % 16 by omega]
        exact nw _ _ (by omega) ⟨_, rfl⟩ (e4 hT (k + 1) (by omega))
      · rw [if_neg hk15, show ((t + 1) % 16 + 16 - 16 + k) % 16 = t by omega]
        exact M0
    · rw [if_neg h16] at hk' ⊢
      rw [if_neg h16]
      by_cases hkn : k = S.2.1
      · rw [if_pos hkn, show ((t + 1) % 16 + 16 - (S.2.1 + 1) + k) % 16 = t by omega]
        exact M0
      · rw [if_neg hkn, show ((t + 1) % 16 + 16 - (S.2.1 + 1) + k) % 16 = (t + 16 - S.2.1 + k) % 16 by omega]
        exact nw _ _ (by omega) ⟨_, rfl⟩ (e4 hT k (by omega))
end Hist
