/-! QUESTIONS, as both sides answer them: the frame -/
def RS (M : Nat) (σ τ : St) : Prop := Fr (fun r => r = M ∨ r = M + 2 ∨ r = M + 4 ∨ r = M + 7) σ τ ∧ (∀ q, q = 6 ∨ q = 12 ∨ q = 24 ∨ q = 25 → hI τ M q = hI σ M q) ∧ ((∀ j, 195 ≤ j → hI σ (M + 4) j = 0) → ∀ j, 195 ≤ j → hI τ (M + 4) j = 0)
def inR (M r : Nat) : Prop := M ≤ r ∧ r ≤ M + 7
section Quest
variable {σ τ υ : St} {z p d M k : Nat} {P : PT} {S : SX} {I : IT} {tr wh v w : Int32} {B : Nat}
theorem RS.refl : RS M σ σ := ⟨Fr.refl, fun _ _ => rfl, fun h => h⟩
theorem RS.trans (h : RS M σ τ) (g : RS M τ υ) : RS M σ υ := ⟨h.1.trans g.1, fun q hq => (g.2.1 q hq).trans (h.2.1 q hq), fun x => g.2.2 (h.2.2 x)⟩
theorem RS.s0 {j : Nat} (h : j ≠ 6 ∧ j ≠ 12 ∧ j ≠ 24 ∧ j ≠ 25) : RS M σ (sI σ M j v) := ⟨Fr.s0 (Or.inl rfl), fun q hq => hI_sIn (Or.inr (by omega)), fun x j hj => by rw [hI_sIn (Or.inl (by omega))]; exact x j hj⟩
theorem RS.row {y : Nat → Int32} (h : ∀ j, 195 ≤ j → y j = 0) : RS M σ (sR σ (M + 4) y) := ⟨Fr.r0 (Or.inr (Or.inr (Or.inl rfl))), fun q _ => by rw [hI_sRn (by omega)], fun _ j hj => by rw [hI_sRe]; exact h j hj⟩
theorem FrP.rs (h : FrP M σ τ) : RS M σ τ := ⟨h.1.mono (fun r g => by omega), fun q hq => h.2 q (by omega), fun x j hj => by rw [h.1.2.2.2.2.2 (M + 4) (by omega)]; exact x j hj⟩
theorem FrT.rs (h : FrT M σ τ) : RS M σ τ := ⟨h.1.mono (fun r g => by omega), fun q hq => h.2 q (by omega), fun x j hj => by rw [h.1.2.2.2.2.2 (M + 4) (by omega)]; exact x j hj⟩
theorem FrQ.rs (h : FrQ M σ τ) : RS M σ τ := ⟨h.1.mono (fun r g => Or.inl g), fun q hq => h.2 q (by omega), fun x j hj => by rw [h.1.2.2.2.2.2 (M + 4) (by omega)]; exact x j hj⟩
theorem FrW.rs (h : FrW M σ τ) : RS M σ τ := ⟨h.1.mono (fun r g => Or.inl g), fun q hq => h.2 q (by omega), fun x j hj => by rw [h.1.2.2.2.2.2 (M + 4) (by omega)]; exact x j hj⟩
theorem RB.rs (R : RB M P S I σ) (h : RS M σ τ) : RB M P S I τ := by
  refine R.mv (Nat.le_of_eq h.1.2.2.2.2.1.symm) (fun r _ _ h1 h2 h3 h4 _ => h.1.sm (by omega)) (fun r _ => ⟨by rw [h.1.1], by rw [h.1.2.1], by rw [h.1.2.2.1]⟩) h.2.1 (h.2.2 R.2.2.2.2.1)
theorem RS.g (h : RS M σ τ) : Fg (inR M) σ τ := h.1.g.mono (fun r g => ⟨by omega, by omega⟩)
theorem RB.t (R : RB M P S I σ) : hT σ M = 11 := R.1.2.1
theorem RB.md (R : RB M P S I σ) (hP : P.1 = true) : ∃ k, Md σ M k P.2.1 (hI σ (M + 4)) ∧ k + 10 < hZ σ := by
  obtain ⟨⟨k, k1, k2, k3, k4, k5⟩, -⟩ := R.2.2.2.2.2.2 hP
  exact ⟨k, ⟨R.1.2.1, R.1.2.2.2.2.2.1, k1, k2, k3, fun _ _ => rfl, by omega⟩, k5⟩
theorem RB.x (R : RB M P S I σ) (hP : P.1 = true) : hI σ (M + 3) = S.1 := (R.2.2.2.2.2.2 hP).2.1
/-- the reference copies its row and works on it -/
theorem RB.work (R : RB M P S I σ) (A : AW P S I B) (hP : P.1 = true) : ∃ k ω, f_X10_works M σ = some ω ∧ ω = sR (sI σ M 26 (nI P.2.2.2.2.2)) (M + 4) S.1 ∧ Md ω M k P.2.1 S.1 ∧ hI ω M 26 = nI P.2.2.2.2.2 ∧ RB M P S I ω ∧ RS M σ ω := by
  obtain ⟨k, D, hk⟩ := R.md hP
  obtain ⟨-, -, -, -, c0, G, -⟩ := A.2.1 hP
  have e := works_k D R.1.2.2.2.2.1 R.2.2.2.2.1 R.2.2.2.1
  rw [R.x hP, c0] at e
  have s : RS M σ (sR (sI σ M 26 (nI P.2.2.2.2.2)) (M + 4) S.1) := (RS.s0 (by omega)).trans (RS.row G.2.1)
  exact ⟨k, _, e, rfl, (D.setM _).to S.1, by rw [hI_sRn (by omega), hI_sIe], R.rs s, s⟩
theorem good_k (h : hT σ M = 11) : f_X10_good M v σ = some (v, sI (sI σ M 1 0) M 2 (-1)) := by
  unfold f_X10_good f_X10_good_0
  rw [if_pos h, pI_k h, osb, pI_k (σ := sI σ M 1 0) h, osb]
theorem refd_k (h : hT σ M = 11) : f_X10_refused M w σ = some (-1, sI (sI σ M 1 w) M 2 (-1)) := by
  unfold f_X10_refused f_X10_refused_0
  rw [if_pos h, pI_k h, osb, pI_k (σ := sI σ M 1 w) h, osb]
theorem RB.end (R : RB M P S I σ) (w : Int32) : RJ M P S I w (-1) (sI (sI σ M 1 w) M 2 (-1)) := ⟨R.rs ((RS.s0 (by omega)).trans (RS.s0 (by omega))), by rw [hI_sIn (Or.inr (by omega)), hI_sIe], hI_sIe⟩
theorem RS.end (h : RS M σ τ) (w : Int32) : Fg (inR M) σ (sI (sI τ M 1 w) M 2 (-1)) := (h.trans ((RS.s0 (by omega)).trans (RS.s0 (by omega)))).g
theorem RJ.sm (R : RJ M P S I tr wh σ) (h : Fg (inC z) σ τ) (hz : M = z + 195) : RJ M P S I tr wh τ := by
  have s : ∀ r, M ≤ r → Sm σ τ r := fun r hr => h.2 r (fun g => by have := g.2; omega)
  refine ⟨R.1.mv (Nat.le_of_eq h.1.symm) (fun r h1 _ _ _ _ _ _ => s r h1) (fun r hr => ⟨(s r (by omega)).1, (s r (by omega)).2.1, (s r (by omega)).2.2.2.1⟩) (fun q _ => by rw [(s M (by omega)).2.2.1]) (fun j hj => by rw [(s (M + 4) (by omega)).2.2.1]; exact R.1.2.2.2.2.1 j hj), by rw [(s M (by omega)).2.2.1]; exact R.2.1, by rw [(s M (by omega)).2.2.1]; exact R.2.2⟩
-- the class
theorem CJ.r (C : CJ z p d P S I tr wh σ) (w : Int32) (hw : ¬ w = 4) : CJ z p d P S I w (-1) (sI σ z 12 w) := ⟨C.1.s12 w, hI_sIe, by rw [if_neg hw]⟩
theorem fg_c (v : Int32) : Fg (inC z) σ (sI σ z 12 v) := Fg.sI ⟨by omega, by omega⟩
theorem ref_c (h : hT σ z = 9) (b : Bool) (w : Int32) : f_X8_refused z (b2i b) w σ = some (b2i b, sI σ z 12 (if b = true then w else 0)) := by
  unfold f_X8_refused f_X8_refused_0 f_X8_refused_10
  rw [if_pos h]
  cases b with
  | false => rw [if_pos (by decide), pI_k h, osb, if_pos (by decide)]; rfl
  | true => rw [if_neg (by decide), pI_k h, osb, if_pos (by decide)]; rfl
theorem ref_0 (h : hT σ z = 9) (w : Int32) : f_X8_refused z 0 w σ = some (0, sI σ z 12 0) := ref_c h false w
theorem ref_1 (h : hT σ z = 9) (w : Int32) : f_X8_refused z 1 w σ = some (1, sI σ z 12 w) := ref_c h true w
theorem CB.told (C : CB z p d P S I σ) : gI 9 2 z σ = some (b2i P.1) := by rw [gI_k C.1.1, C.2.2.2.2.1.1.2.1]
theorem CB.m (C : CB z p d P S I σ) : gR 9 6 z σ = some (z + 30) := gR_k C.1.1 C.1.2.2.2.2.2.1
theorem CB.mq (C : CB z p d P S I σ) (hP : P.1 = true) : Mc σ (z + 30) p P.2.1 P.2.2.1 S.1 (nN S.1) P.2.2.2.2.2 := (C.2.2.2.2.1.2.2 hP).1
/-- a question that both answer v, with trouble t -/
def Qc (z p d : Nat) (P : PT) (S : SX) (I : IT) (f : St → Option (Int32 × St)) (v t : Int32) : Prop := ∀ σ tr wh, CJ z p d P S I tr wh σ → ∃ τ, f σ = some (v, τ) ∧ CJ z p d P S I t (-1) τ ∧ Fg (inC z) σ τ
def Qr (M : Nat) (P : PT) (S : SX) (I : IT) (f : St → Option (Int32 × St)) (v t : Int32) : Prop := ∀ σ tr wh, RJ M P S I tr wh σ → ∃ τ, f σ = some (v, τ) ∧ RJ M P S I t (-1) τ ∧ Fg (inR M) σ τ
/-- all that holds between two calls -/
def J (z : Nat) (B : Nat) (σ : St) : Prop := ∃ p d P S I tr wh, AW P S I B ∧ CJ z p d P S I tr wh σ ∧ RJ (z + 195) P S I tr wh σ ∧ hT σ (z + 203) = 24 ∧ hN σ (z + 203) = 1
theorem AW.up (A : AW P S I B) {B' : Nat} (h : B ≤ B') : AW P S I B' := by
  have g : ∀ y, Gd P B y → Gd P B' y := fun y q => ⟨q.1, q.2.1, q.2.2.1, by obtain ⟨w, hw, ew⟩ := q.2.2.2; exact ⟨w, by omega, ew⟩⟩
  obtain ⟨a1, a2, a3⟩ := A
  refine ⟨a1, fun hP => ?_, a3⟩
  obtain ⟨b1, b2, b3, b4, b5, b6, b7, b8⟩ := a2 hP
  exact ⟨b1, b2, b3, b4, b5, g _ b6, fun k hk => g _ (b7 k hk), fun k hk => g _ (b8.1 k hk), b8.2⟩
/-- the two of them, one after the other -/
def Alike {α : Type} (z : Nat) (f g : St → Option (α × St)) (B : Nat) (σ : St) : Prop := ∃ v τ υ, f σ = some (v, τ) ∧ g τ = some (v, υ) ∧ J z (B + 1) υ ∧ hZ υ ≤ hZ σ + 11
theorem alk_of {α : Type} {v : α} {f g : St → Option (α × St)} {P' : PT} {S' : SX} {I' : IT} {p' d' : Nat} {tr' wh' : Int32} (A' : AW P' S' I' (B + 1)) (R : RJ (z + 195) P S I tr wh σ) (o1 : hT σ (z + 203) = 24) (o2 : hN σ (z + 203) = 1)
    (hf : ∃ τ, f σ = some (v, τ) ∧ CJ z p' d' P' S' I' tr' wh' τ ∧ Fg (inC z) σ τ) (hg : ∀ τ, RJ (z + 195) P S I tr wh τ → ∃ υ, g τ = some (v, υ) ∧ RJ (z + 195) P' S' I' tr' wh' υ ∧ Fg (inR (z + 195)) τ υ) : Alike z f g B σ := by
  obtain ⟨τ, t1, t2, t3⟩ := hf
  obtain ⟨υ, u1, u2, u3⟩ := hg τ (R.sm t3 rfl)
  have hZ : hZ υ = hZ σ := u3.1.trans t3.1
  have so : Sm σ υ (z + 203) := (t3.2 _ (fun h => by have := h.2; omega)).trans (u3.2 _ (fun h => by have := h.2; omega))
  exact ⟨v, τ, υ, t1, u1, ⟨p', d', P', S', I', tr', wh', A', t2.sm (fun r hr => u3.2 r (fun h => by have := h.1; have := hr.2; omega)), u2, by rw [so.1]; exact o1, by rw [so.2.1]; exact o2⟩, by omega⟩
theorem alk_q {f g : St → Option (Int32 × St)} {t : Int32} (A : AW P S I B) (C : CJ z p d P S I tr wh σ) (R : RJ (z + 195) P S I tr wh σ) (o1 : hT σ (z + 203) = 24) (o2 : hN σ (z + 203) = 1) (hf : Qc z p d P S I f v t) (hg : Qr (z + 195) P S I g v t) : Alike z f g B σ :=
  alk_of (A.up (by omega)) R o1 o2 (hf σ tr wh C) (fun τ Rτ => hg τ tr wh Rτ)
end Quest
