/-! THE WHOLE STATE. The told program: is one told, c, steps, unsure, got, cells. The rows: now, acts, past rows, images, image rows. The tape: bytes, how many, the fault. -/
abbrev PT : Type := Bool × (Nat → Nat → Int32) × Nat × Nat × Nat × Nat
abbrev SX : Type := (Nat → Int32) × Nat × (Nat → Nat → Int32) × Nat × (Nat → Nat → Int32)
abbrev IT : Type := (Nat → Int32) × Nat × Int32
/-- a row that may stand -/
def Gd (P : PT) (B : Nat) (y : Nat → Int32) : Prop := Rk P.2.1 P.2.2.1 y P.2.2.2.2.2 ∧ Ru y B
def AW (P : PT) (S : SX) (I : IT) (B : Nat) : Prop :=
  (P.1 = false → S.2.1 = 0 ∧ S.2.2.2.1 = 0) ∧
  (P.1 = true → Cok P.2.1 P.2.2.1 ∧ Cun P.2.1 P.2.2.2.1 P.2.2.2.2.1 ∧ 9 ≤ P.2.2.2.2.2 ∧ P.2.2.2.2.2 ≤ 24 ∧ P.2.1 0 0 = nI P.2.2.2.2.2 ∧ Gd P B S.1 ∧ (∀ k, k < S.2.1 → Gd P B (S.2.2.1 k)) ∧ (∀ k, k < S.2.2.2.1 → Gd P B (S.2.2.2.2 k)) ∧ 0 < P.2.2.1) ∧
  S.2.1 ≤ 16 ∧ S.2.2.2.1 ≤ 3 ∧ I.2.1 ≤ 900 ∧ ∀ k, k < 900 → jb (I.1 k) = I.1 k
-- the class
def Zs (z p d : Nat) (σ : St) : Prop := hT σ z = 9 ∧ Fld σ z 0 (z + 1) 21 900 ∧ hP σ z 3 = some p ∧ hP σ z 4 = some d ∧ hP σ z 5 = some (z + 24) ∧ hP σ z 6 = some (z + 30) ∧ hP σ z 7 = some (z + 37) ∧ hP σ z 8 = some (z + 44) ∧ hP σ z 9 = some (z + 180) ∧ hP σ z 10 = some (z + 182) ∧ hP σ z 11 = some (z + 194) ∧ (p = z + 2 ∧ d = z + 13 ∨ p = z + 13 ∧ d = z + 2)
def Rds (z : Nat) (σ : St) : Prop := hT σ (z + 24) = 7 ∧ hP σ (z + 24) 3 = some (z + 26) ∧ hT σ (z + 26) = 8 ∧ Fld σ (z + 26) 0 (z + 27) 22 901 ∧ Fld σ (z + 26) 1 (z + 28) 22 901 ∧ Fld σ (z + 26) 2 (z + 29) 22 901
def His (z : Nat) (σ : St) : Prop := hT σ (z + 44) = 3 ∧ hP σ (z + 44) 0 = some (z + 45) ∧ hP σ (z + 44) 1 = some (z + 46) ∧ hT σ (z + 45) = 25 ∧ hN σ (z + 45) = 16 ∧ hT σ (z + 46) = 25 ∧ hN σ (z + 46) = 3 ∧ (∀ k, k < 16 → hP σ (z + 45) k = some (z + 47 + 7 * k) ∧ MSh σ (z + 47 + 7 * k)) ∧ (∀ k, k < 3 → hP σ (z + 46) k = some (z + 159 + 7 * k) ∧ MSh σ (z + 159 + 7 * k))
def Tls (z : Nat) (σ : St) : Prop := MSh σ (z + 30) ∧ MSh σ (z + 37) ∧ LSh σ (z + 180) ∧ YSh σ (z + 182) ∧ hT σ (z + 194) = 2 ∧ PSh σ (z + 2) ∧ PSh σ (z + 13)
/-- the Machine at a stands for a row -/
def Mq (P : PT) (p : Nat) (σ : St) (a : Nat) (y : Nat → Int32) : Prop := Mc σ a p P.2.1 P.2.2.1 y (nN y) P.2.2.2.2.2
def Dts (z p : Nat) (P : PT) (S : SX) (I : IT) (σ : St) : Prop :=
  (hI σ z 1 = nI I.2.1 ∧ hI σ z 2 = b2i P.1 ∧ (∀ k, k < 900 → hI σ (z + 1) k = I.1 k) ∧ hI σ (z + 24) 0 = I.2.2) ∧
  (hI σ (z + 44) 3 = nI S.2.1 ∧ hI σ (z + 44) 4 = nI S.2.2.2.1 ∧ (S.2.1 ≤ 16 ∧ S.2.2.2.1 ≤ 3) ∧ ∃ t, t < 16 ∧ hI σ (z + 44) 2 = nI t ∧ (P.1 = true → ∀ k, k < S.2.1 → Mq P p σ (z + 47 + 7 * ((t + 16 - S.2.1 + k) % 16)) (S.2.2.1 k))) ∧
  (P.1 = true → Mq P p σ (z + 30) S.1 ∧ (∀ k, k < S.2.2.2.1 → Mq P p σ (z + 159 + 7 * k) (S.2.2.2.2 k)) ∧ FSh σ (z + 194) P.2.2.2.1 (fiE P.2.1 P.2.2.2.1 P.2.2.2.2.1))
def CB (z p d : Nat) (P : PT) (S : SX) (I : IT) (σ : St) : Prop := Zs z p d σ ∧ Rds z σ ∧ His z σ ∧ Tls z σ ∧ Dts z p P S I σ ∧ (P.1 = true → Ych P.2.1 σ (z + 182))
def CJ (z p d : Nat) (P : PT) (S : SX) (I : IT) (tr wh : Int32) (σ : St) : Prop := CB z p d P S I σ ∧ hI σ z 12 = tr ∧ (if tr = 4 then hI σ (z + 24) 1 = wh else wh = -1)
def inC (z r : Nat) : Prop := z ≤ r ∧ r ≤ z + 194
section Inv
variable {σ τ : St} {z p d : Nat} {P : PT} {S : SX} {I : IT} {tr wh : Int32}
theorem Zs.mv (h : Zs z p d σ) (h1 : hT τ z = hT σ z) (h2 : hP τ z = hP σ z) (s1 : Sm σ τ (z + 1)) : Zs z p d τ := by
  unfold Zs at h ⊢
  rw [h1, h2]
  exact ⟨h.1, ⟨by rw [h2]; exact h.2.1.1, by rw [s1.1]; exact h.2.1.2.1, by rw [s1.2.1]; exact h.2.1.2.2⟩, h.2.2⟩
theorem Rds.mv (h : Rds z σ) (s : ∀ r, z + 24 ≤ r → r ≤ z + 29 → Sm σ τ r) : Rds z τ := by
  obtain ⟨h1, h2, h3, h4, h5, h6⟩ := h
  have a := s (z + 24) (by omega) (by omega)
  have b := s (z + 26) (by omega) (by omega)
  exact ⟨by rw [a.1]; exact h1, by rw [a.2.2.2.1]; exact h2, by rw [b.1]; exact h3, h4.sm b (s _ (by omega) (by omega)), h5.sm b (s _ (by omega) (by omega)), h6.sm b (s _ (by omega) (by omega))⟩
theorem His.mv (h : His z σ) (s : ∀ r, z + 44 ≤ r → r ≤ z + 46 → Sm σ τ r) (m : ∀ k, k < 16 → MSh σ (z + 47 + 7 * k) → MSh τ (z + 47 + 7 * k)) (m' : ∀ k, k < 3 → MSh σ (z + 159 + 7 * k) → MSh τ (z + 159 + 7 * k)) : His z τ := by
  obtain ⟨h1, h2, h3, h4, h5, h6, h7, h8, h9⟩ := h
  have a := s (z + 44) (by omega) (by omega)
  have b := s (z + 45) (by omega) (by omega)
  have c := s (z + 46) (by omega) (by omega)
  exact ⟨by rw [a.1]; exact h1, by rw [a.2.2.2.1]; exact h2, by rw [a.2.2.2.1]; exact h3, by rw [b.1]; exact h4, by rw [b.2.1]; exact h5, by rw [c.1]; exact h6, by rw [c.2.1]; exact h7, fun k hk => ⟨by rw [b.2.2.2.1]; exact (h8 k hk).1, m k hk (h8 k hk).2⟩, fun k hk => ⟨by rw [c.2.2.2.1]; exact (h9 k hk).1, m' k hk (h9 k hk).2⟩⟩
theorem FSh.sm {y nu : Nat} {f : Nat → Bool} (h : FSh σ y nu f) (s : Sm σ τ y) : FSh τ y nu f := ⟨by rw [s.1]; exact h.1, by rw [s.2.2.1]; exact h.2.1, by rw [s.2.2.1]; exact h.2.2.1, h.2.2.2⟩
theorem Zs.pd (h : Zs z p d σ) : z + 2 ≤ p ∧ p + 10 ≤ z + 23 ∧ z + 2 ≤ d ∧ d + 10 ≤ z + 23 := by
  have := h.2.2.2.2.2.2.2.2.2.2.2
  omega
/-- what is asked changes the refusal, the drawn Machine, the plain one, the cycles at most -/
theorem CB.mv (C : CB z p d P S I σ) (s : ∀ r, inC z r → r ≠ z → ¬ (z + 37 ≤ r ∧ r ≤ z + 43) → ¬ (z + 180 ≤ r ∧ r ≤ z + 193) → Sm σ τ r) (h1 : hT τ z = hT σ z) (h2 : hP τ z = hP σ z) (h3 : ∀ q, q ≠ 12 → hI τ z q = hI σ z q) (m : MSh τ (z + 37)) (l : LSh τ (z + 180)) (y : YSh τ (z + 182)) (yc : P.1 = true → Ych P.2.1 τ (z + 182)) : CB z p d P S I τ := by
  obtain ⟨c1, c2, c3, ⟨t1, t2, t3, t4, t5, t6, t7⟩, ⟨⟨d1, d2, d3, d4⟩, ⟨e1, e2, e5, t, ht, e3, e4⟩, f1⟩, c6⟩ := C
  have s' : ∀ r, z + 1 ≤ r → r ≤ z + 36 → Sm σ τ r := fun r q1 q2 => s r ⟨by omega, by omega⟩ (by omega) (by omega) (by omega)
  have s2 : ∀ r, z + 44 ≤ r → r ≤ z + 179 → Sm σ τ r := fun r q1 q2 => s r ⟨by omega, by omega⟩ (by omega) (by omega) (by omega)
  have s3 : Sm σ τ (z + 194) := s _ ⟨by omega, by omega⟩ (by omega) (by omega) (by omega)
  have pd := c1.pd
  have mm : ∀ a yy, (z + 44 ≤ a ∧ a + 6 ≤ z + 179) ∨ a = z + 30 → Mq P p σ a yy → Mq P p τ a yy := fun a yy ha M => Mc.sm M (fun r q1 q2 => by
    rcases ha with ha | ha
    · exact s2 r (by omega) (by omega)
    · exact s' r (by omega) (by omega)) (fun r q1 q2 => s' r (by omega) (by omega))
  refine ⟨c1.mv h1 h2 (s' _ (by omega) (by omega)), c2.mv (fun r q1 q2 => s' r (by omega) (by omega)), c3.mv (fun r q1 q2 => s2 r (by omega) (by omega)) (fun k hk h => h.sm (fun r q1 q2 => s2 r (by omega) (by omega))) (fun k hk h => h.sm (fun r q1 q2 => s2 r (by omega) (by omega))), ⟨t1.sm (fun r q1 q2 => s' r (by omega) (by omega)), m, l, y, by rw [s3.1]; exact t5, t6.sm (fun r q1 q2 => s' r (by omega) (by omega)), t7.sm (fun r q1 q2 => s' r (by omega) (by omega))⟩, ⟨⟨by rw [h3 1 (by omega)]; exact d1, by rw [h3 2 (by omega)]; exact d2, fun k hk => by rw [(s' (z + 1) (by omega) (by omega)).2.2.1]; exact d3 k hk, by rw [(s' (z + 24) (by omega) (by omega)).2.2.1]; exact d4⟩, ⟨by rw [(s2 (z + 44) (by omega) (by omega)).2.2.1]; exact e1, by rw [(s2 (z + 44) (by omega) (by omega)).2.2.1]; exact e2, e5, t, ht, by rw [(s2 (z + 44) (by omega) (by omega)).2.2.1]; exact e3, fun hT k hk => mm _ _ (Or.inl ⟨by omega, by have := Nat.mod_lt (t + 16 - S.2.1 + k) (show 16 > 0 by omega); omega⟩) (e4 hT k hk)⟩, fun hT => ⟨mm _ _ (Or.inr rfl) (f1 hT).1, fun k hk => mm _ _ (Or.inl ⟨by omega, by omega⟩) ((f1 hT).2.1 k hk), (f1 hT).2.2.sm s3⟩⟩, yc⟩
theorem CB.zt (C : CB z p d P S I σ) : hT σ z = 9 := C.1.1
theorem CB.s12 (C : CB z p d P S I σ) (v : Int32) : CB z p d P S I (sI σ z 12 v) := by
  have F : Fr (fun r => r = z) σ (sI σ z 12 v) := Fr.s0 rfl
  have T := C.2.2.2.1
  exact C.mv (fun r _ h _ _ => F.sm h) rfl rfl (fun q hq => hI_sIn (Or.inr hq)) (T.2.1.fr F) (T.2.2.1.fr F) (T.2.2.2.1.fr F) (fun h s hs => by
    have e : ∀ r, r ≠ z → hI (sI σ z 12 v) r = hI σ r := fun r hr => F.2.2.2.2.2 r hr
    unfold Yat
    rw [e _ (by omega), e _ (by omega), e _ (by omega), e _ (by omega)]
    exact C.2.2.2.2.2 h s hs)
theorem Ych.sm {c : Nat → Nat → Int32} {y : Nat} (h : Ych c σ y) (s : ∀ r, y + 1 ≤ r → r ≤ y + 4 → Sm σ τ r) : Ych c τ y := fun q hq => by
  unfold Yat
  rw [(s (y + 1) (by omega) (by omega)).2.2.1, (s (y + 2) (by omega) (by omega)).2.2.1, (s (y + 3) (by omega) (by omega)).2.2.1, (s (y + 4) (by omega) (by omega)).2.2.1]
  exact h q hq
theorem CB.plain (C : CB z p d P S I σ) (F : Fr (inL (z + 180)) σ τ) : CB z p d P S I τ := by
  have T := C.2.2.2.1
  have e : ∀ r, ¬ (z + 180 ≤ r ∧ r ≤ z + 181) → Sm σ τ r := fun r h => F.sm (fun g => h ⟨g.1, g.2⟩)
  exact C.mv (fun r _ _ _ h => e r (by omega)) (e z (by omega)).1 (e z (by omega)).2.2.2.1 (fun q _ => by rw [(e z (by omega)).2.2.1]) (T.2.1.fr F) (T.2.2.1.fr F) (T.2.2.2.1.fr F) (fun h => (C.2.2.2.2.2 h).sm (fun r _ _ => e r (by omega)))
theorem CB.drawn (C : CB z p d P S I σ) (F : Fg (inM (z + 37)) σ τ) (m : MSh τ (z + 37)) : CB z p d P S I τ := by
  have T := C.2.2.2.1
  have e : ∀ r, ¬ (z + 37 ≤ r ∧ r ≤ z + 43) → Sm σ τ r := fun r h => F.2 r (fun g => h ⟨g.1, g.2⟩)
  exact C.mv (fun r _ _ h _ => e r h) (e z (by omega)).1 (e z (by omega)).2.2.2.1 (fun q _ => by rw [(e z (by omega)).2.2.1]) m (T.2.2.1.sm (fun r _ _ => e r (by omega))) (T.2.2.2.1.sm (fun r _ _ => e r (by omega))) (fun h => (C.2.2.2.2.2 h).sm (fun r _ _ => e r (by omega)))
theorem CB.cyc (C : CB z p d P S I σ) (F : Fg (inY (z + 182)) σ τ) (y : YSh τ (z + 182)) (yc : Ych P.2.1 τ (z + 182)) : CB z p d P S I τ := by
  have T := C.2.2.2.1
  have e : ∀ r, ¬ (z + 183 ≤ r ∧ r ≤ z + 193) → Sm σ τ r := fun r h => F.2 r (fun g => h ⟨by have := g.1; omega, by have := g.2; omega⟩)
  exact C.mv (fun r _ _ _ h => e r (by omega)) (e z (by omega)).1 (e z (by omega)).2.2.2.1 (fun q _ => by rw [(e z (by omega)).2.2.1]) (T.2.1.sm (fun r _ _ => e r (by omega))) (T.2.2.1.sm (fun r _ _ => e r (by omega))) y (fun _ => yc)
theorem CB.sm (C : CB z p d P S I σ) (s : ∀ r, inC z r → Sm σ τ r) : CB z p d P S I τ := by
  have T := C.2.2.2.1
  have e : ∀ r, z ≤ r → r ≤ z + 194 → Sm σ τ r := fun r h1 h2 => s r ⟨h1, h2⟩
  exact C.mv (fun r h _ _ _ => s r h) (e z (by omega) (by omega)).1 (e z (by omega) (by omega)).2.2.2.1 (fun q _ => by rw [(e z (by omega) (by omega)).2.2.1]) (T.2.1.sm (fun r _ _ => e r (by omega) (by omega))) (T.2.2.1.sm (fun r _ _ => e r (by omega) (by omega))) (T.2.2.2.1.sm (fun r _ _ => e r (by omega) (by omega))) (fun h => (C.2.2.2.2.2 h).sm (fun r _ _ => e r (by omega) (by omega)))
theorem CJ.sm (C : CJ z p d P S I tr wh σ) (s : ∀ r, inC z r → Sm σ τ r) : CJ z p d P S I tr wh τ := ⟨C.1.sm s, by rw [(s z ⟨by omega, by omega⟩).2.2.1]; exact C.2.1, by rw [(s (z + 24) ⟨by omega, by omega⟩).2.2.1]; exact C.2.2⟩
-- the reference, at M = z + 195
def Rfs (M : Nat) (σ : St) : Prop := M + 9 ≤ hZ σ ∧ hT σ M = 11 ∧ Fld σ M 5 (M + 1) 21 900 ∧ Fld σ M 15 (M + 2) 22 8 ∧ Fld σ M 20 (M + 3) 22 195 ∧ Fld σ M 21 (M + 4) 22 195 ∧ Fld σ M 22 (M + 5) 22 3120 ∧ Fld σ M 23 (M + 6) 22 585 ∧ Fld σ M 34 (M + 7) 22 4
def Rfd (M : Nat) (P : PT) (S : SX) (I : IT) (σ : St) : Prop :=
  (hI σ M 6 = nI I.2.1 ∧ hI σ M 12 = I.2.2 ∧ hI σ M 24 = nI S.2.1 ∧ hI σ M 25 = nI S.2.2.2.1) ∧ (∀ k, k < 900 → hI σ (M + 1) k = I.1 k) ∧ (∀ j, 195 ≤ j → hI σ (M + 3) j = 0) ∧ (∀ j, 195 ≤ j → hI σ (M + 4) j = 0) ∧ (P.1 = false → hP σ M 3 = none) ∧
  (P.1 = true → (∃ k, hP σ M 3 = some k ∧ CSh σ k ∧ CR P.2.1 σ k ∧ M + 9 ≤ k ∧ k + 10 < hZ σ) ∧ hI σ (M + 3) = S.1 ∧ (∀ k, k < S.2.1 → ∀ j, j < 195 → hI σ (M + 5) (195 * k + j) = S.2.2.1 k j) ∧ (∀ k, k < S.2.2.2.1 → ∀ j, j < 195 → hI σ (M + 6) (195 * k + j) = S.2.2.2.2 k j))
def RB (M : Nat) (P : PT) (S : SX) (I : IT) (σ : St) : Prop := Rfs M σ ∧ Rfd M P S I σ
def RJ (M : Nat) (P : PT) (S : SX) (I : IT) (tr wh : Int32) (σ : St) : Prop := RB M P S I σ ∧ hI σ M 1 = tr ∧ hI σ M 2 = wh
variable {M : Nat}
theorem RB.mv (R : RB M P S I σ) (hz : hZ σ ≤ hZ τ) (s : ∀ r, M ≤ r → r < hZ σ → r ≠ M → r ≠ M + 2 → r ≠ M + 4 → r ≠ M + 7 → r ≠ M + 8 → Sm σ τ r) (h : ∀ r, r = M ∨ r = M + 2 ∨ r = M + 4 ∨ r = M + 7 → hT τ r = hT σ r ∧ hN τ r = hN σ r ∧ hP τ r = hP σ r) (hM : ∀ q, q = 6 ∨ q = 12 ∨ q = 24 ∨ q = 25 → hI τ M q = hI σ M q) (h4 : ∀ j, 195 ≤ j → hI τ (M + 4) j = 0) : RB M P S I τ := by
  obtain ⟨⟨hzz, r0, r1, r2, r3, r4, r5, r6, r7⟩, ⟨d1, d2, d3, d4⟩, e1, e2, e3, e4, e5⟩ := R
  have f : ∀ {k b t N : Nat}, (b = M + 1 ∨ b = M + 3 ∨ b = M + 5 ∨ b = M + 6 ∨ b = M + 2 ∨ b = M + 4 ∨ b = M + 7) → Fld σ M k b t N → Fld τ M k b t N := fun {k b t N} hb F => by
    have h0 := h M (Or.inl rfl)
    have hb' : hT τ b = hT σ b ∧ hN τ b = hN σ b := by
      by_cases q : b = M + 2 ∨ b = M + 4 ∨ b = M + 7
      · exact ⟨(h b (by omega)).1, (h b (by omega)).2.1⟩
      · have := s b (by omega) (by omega) (by omega) (by omega) (by omega) (by omega) (by omega)
        exact ⟨this.1, this.2.1⟩
    exact ⟨by rw [h0.2.2]; exact F.1, by rw [hb'.1]; exact F.2.1, by rw [hb'.2]; exact F.2.2⟩
  have s1 := s (M + 1) (by omega) (by omega) (by omega) (by omega) (by omega) (by omega) (by omega)
  have s3 := s (M + 3) (by omega) (by omega) (by omega) (by omega) (by omega) (by omega) (by omega)
  have s5 := s (M + 5) (by omega) (by omega) (by omega) (by omega) (by omega) (by omega) (by omega)
  have s6 := s (M + 6) (by omega) (by omega) (by omega) (by omega) (by omega) (by omega) (by omega)
  have h0 := h M (Or.inl rfl)
  refine ⟨⟨by omega, by rw [h0.1]; exact r0, f (by omega) r1, f (by omega) r2, f (by omega) r3, f (by omega) r4, f (by omega) r5, f (by omega) r6, f (by omega) r7⟩, ⟨by rw [hM 6 (by omega)]; exact d1, by rw [hM 12 (by omega)]; exact d2, by rw [hM 24 (by omega)]; exact d3, by rw [hM 25 (by omega)]; exact d4⟩, fun k hk => by rw [s1.2.2.1]; exact e1 k hk, fun j hj => by rw [s3.2.2.1]; exact e2 j hj, h4, fun hP => by rw [h0.2.2]; exact e4 hP, fun hP => ?_⟩
  obtain ⟨⟨k, k1, k2, k3, k4, k5⟩, g1, g2, g3⟩ := e5 hP
  have sk : ∀ r, k ≤ r → r ≤ k + 10 → Sm σ τ r := fun r q1 q2 => s r (by omega) (by omega) (by omega) (by omega) (by omega) (by omega) (by omega)
  exact ⟨⟨k, by rw [h0.2.2]; exact k1, k2.sm sk, k3.sm sk, k4, by omega⟩, by rw [s3.2.2.1]; exact g1, fun i hi j hj => by rw [s5.2.2.1]; exact g2 i hi j hj, fun i hi j hj => by rw [s6.2.2.1]; exact g3 i hi j hj⟩
end Inv
