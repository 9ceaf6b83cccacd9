/-! THE REFERENCE's history -/
def sh5 (y : Nat → Int32) (m : Nat) : Nat → Int32 := fun j => if j < m then y (j + 195) else y j
theorem sh5_0 {y : Nat → Int32} : sh5 y 0 = y := by funext j; exact if_neg (by omega)
theorem sh5_s {y : Nat → Int32} {m : Nat} : sh5 y (m + 1) = ux (sh5 y m) m (sh5 y m (m + 195)) := by
  funext j
  unfold sh5 ux
  by_cases h : j = m
  · subst h; rw [if_pos (by omega), if_pos rfl, if_neg (by omega)]
  · rw [if_neg h]
    dsimp only
    by_cases h2 : j < m
    · rw [if_pos (by omega), if_pos h2]
    · rw [if_neg (by omega), if_neg h2]
section Hist3
variable {σ τ υ : St} {z p d M k t na : Nat} {P : PT} {S S' : SX} {I : IT} {tr wh v w : Int32} {B : Nat}
theorem ix195 (a i : Nat) : (195 : Int32) * nI a + nI i = nI (195 * a + i) := by
  show nI 195 * nI a + nI i = _
  rw [pk_mul, nI_add]
/-- what these loops need -/
def Hr (σ : St) (M : Nat) : Prop := hT σ M = 11 ∧ Fld σ M 20 (M + 3) 22 195 ∧ Fld σ M 22 (M + 5) 22 3120 ∧ Fld σ M 23 (M + 6) 22 585
theorem Hr.row (H : Hr σ M) {a : Nat} {y : Nat → Int32} : Hr (sR σ a y) M := H
theorem rm52 (H : Hr σ M) (h24 : hI σ M 24 = nI na) (hn : na < 16) (y : Nat → Int32) : ∀ (q i fu : Nat), i + q = 195 → q < fu → f_X10_remembers_52 fu M (nI i) (sR σ (M + 5) (fil y (195 * na) (hI σ (M + 3)) i)) = some (sI (sR σ (M + 5) (fil y (195 * na) (hI σ (M + 3)) 195)) M 24 (nI (na + 1)))
  | 0, i, fu, hi, hf => by
    obtain ⟨f, rfl⟩ : ∃ f, fu = f + 1 := ⟨fu - 1, by omega⟩
    obtain rfl : i = 195 := by omega
    have H1 := H.row (a := M + 5) (y := fil y (195 * na) (hI σ (M + 3)) 195)
    rw [e_X10_remembers_52, if_pos (by decide), gI_k H1.1, osb, hI_sRn (by omega), h24, nI_1, pI_k H1.1, osb]
  | q + 1, i, fu, hi, hf => by
    obtain ⟨f, rfl⟩ : ∃ f, fu = f + 1 := ⟨fu - 1, by omega⟩
    have ih := rm52 H h24 hn y q (i + 1) f (by omega) (by omega)
    rw [fil_s, ← nI_1] at ih
    have H1 := H.row (a := M + 5) (y := fil y (195 * na) (hI σ (M + 3)) i)
    rw [e_X10_remembers_52, if_neg (show ¬ (195 : Int32) ≤ nI i from nI_ge (a := i) (b := 195) (by omega) (by omega)), H1.2.2.1.r H1.1, osb, gI_k H1.1, osb, H1.2.1.r H1.1, osb, H1.2.1.g (by omega) (by omega), osb, hI_sRn (by omega), hI_sRn (by omega), h24, ix195, ws_r H.2.2.1.2.1 H.2.2.1.2.2 (by omega) (by omega), osb]
    exact ih
theorem rm50 (H : Hr σ M) (h24 : hI σ M 24 = nI na) (hn : na < 16) : f_X10_remembers_50 M σ = some (sI (sR σ (M + 5) (fil (hI σ (M + 5)) (195 * na) (hI σ (M + 3)) 195)) M 24 (nI (na + 1))) := by
  have := rm52 H h24 hn (hI σ (M + 5)) 195 0 FU (by omega) (by unfold FU; omega)
  rw [fil_0, sR_id, nI_0] at this
  unfold f_X10_remembers_50
  exact this
theorem rm11 (H : Hr σ M) (h24 : hI σ M 24 = nI 16) (y : Nat → Int32) : ∀ (q i fu : Nat), i + q = 2925 → q < fu → f_X10_remembers_11 fu M (nI i) (sR σ (M + 5) (sh5 y i)) = f_X10_remembers_50 M (sI (sR σ (M + 5) (sh5 y 2925)) M 24 (nI 15))
  | 0, i, fu, hi, hf => by
    obtain ⟨f, rfl⟩ : ∃ f, fu = f + 1 := ⟨fu - 1, by omega⟩
    obtain rfl : i = 2925 := by omega
    have H1 := H.row (a := M + 5) (y := sh5 y 2925)
    rw [e_X10_remembers_11, if_pos (by decide), gI_k H1.1, osb, hI_sRn (by omega), h24, show (nI 16 - 1 : Int32) = nI 15 by decide, pI_k H1.1, osb]
  | q + 1, i, fu, hi, hf => by
    obtain ⟨f, rfl⟩ : ∃ f, fu = f + 1 := ⟨fu - 1, by omega⟩
    have ih := rm11 H h24 y q (i + 1) f (by omega) (by omega)
    rw [sh5_s, ← nI_1] at ih
    have H1 := H.row (a := M + 5) (y := sh5 y i)
    have e : (nI i + 195 : Int32) = nI (i + 195) := nI_add i 195
    rw [e_X10_remembers_11, if_neg (show ¬ (2925 : Int32) ≤ nI i from nI_ge (a := i) (b := 2925) (by omega) (by omega)), H1.2.2.1.r H1.1, osb, osb, e, H1.2.2.1.g (by omega) (by omega), osb, hI_sRe, ws_r H.2.2.1.2.1 H.2.2.1.2.2 (by omega) (by omega), osb]
    exact ih
theorem rem_h (H : Hr σ M) (h24 : hI σ M 24 = nI na) (hn : na ≤ 16) {h : Nat → Nat → Int32} (hh : ∀ k, k < na → ∀ j, j < 195 → hI σ (M + 5) (195 * k + j) = h k j) : ∃ τ, f_X10_remembers M σ = some τ ∧ Fr (fun r => r = M ∨ r = M + 5) σ τ ∧ (∀ q, q ≠ 24 → hI τ M q = hI σ M q) ∧ hI τ M 24 = nI (rmA na) ∧ ∀ k, k < rmA na → ∀ j, j < 195 → hI τ (M + 5) (195 * k + j) = rmH na h (hI σ (M + 3)) k j := by
  unfold f_X10_remembers f_X10_remembers_0
  rw [if_pos H.1, gI_k H.1, osb, h24]
  by_cases h16 : na = 16
  · subst h16
    rw [if_pos (by decide)]
    have hl := rm11 H h24 (hI σ (M + 5)) 2925 0 FU (by omega) (by unfold FU; omega)
    rw [sh5_0, sR_id, nI_0] at hl
    have H1 : Hr (sI (sR σ (M + 5) (sh5 (hI σ (M + 5)) 2925)) M 24 (nI 15)) M := H
    have e3 : hI (sI (sR σ (M + 5) (sh5 (hI σ (M + 5)) 2925)) M 24 (nI 15)) (M + 3) = hI σ (M + 3) := by rw [hI_sIr (by omega), hI_sRn (by omega)]
    have e5 : hI (sI (sR σ (M + 5) (sh5 (hI σ (M + 5)) 2925)) M 24 (nI 15)) (M + 5) = sh5 (hI σ (M + 5)) 2925 := by rw [hI_sIr (by omega), hI_sRe]
    have F1 : Fr (fun r => r = M ∨ r = M + 5) σ (sI (sR σ (M + 5) (sh5 (hI σ (M + 5)) 2925)) M 24 (nI 15)) := Fr.st (Fr.r0 (Or.inr rfl)) (Or.inl rfl)
    have q1 : ∀ q, q ≠ 24 → hI (sI (sR σ (M + 5) (sh5 (hI σ (M + 5)) 2925)) M 24 (nI 15)) M q = hI σ M q := fun q hq => by rw [hI_sIn (Or.inr hq), hI_sRn (by omega)]
    rw [hl, rm50 H1 hI_sIe (by omega), e3, e5]
    generalize sI (sR σ (M + 5) (sh5 (hI σ (M + 5)) 2925)) M 24 (nI 15) = ω at F1 q1
    refine ⟨_, rfl, F1.trans (Fr.st (Fr.r0 (Or.inr rfl)) (Or.inl rfl)), fun q hq => by rw [hI_sIn (Or.inr hq), hI_sRn (by omega), q1 q hq], by rw [hI_sIe]; rfl, fun k hk j hj => ?_⟩
    have hk' : k < 16 := hk
    rw [hI_sIn (Or.inl (by omega)), hI_sRe]
    unfold rmH
    rw [if_pos rfl]
    by_cases hk15 : k < 15
    · rw [fil_n (by omega), if_pos hk15]
      unfold sh5
      rw [if_pos (by omega), show 195 * k + j + 195 = 195 * (k + 1) + j by omega]
      exact hh (k + 1) (by omega) j hj
    · rw [if_neg hk15]
      unfold fil
      rw [if_pos (by omega), show 195 * k + j - 195 * 15 = j by omega]
  · have hne : ¬ nI na = 16 := fun e => h16 ((nI_eq (b := 16) (by omega) (by omega)).mp e)
    rw [if_neg hne, rm50 H h24 (by omega)]
    refine ⟨_, rfl, Fr.st (Fr.r0 (Or.inr rfl)) (Or.inl rfl), fun q hq => by rw [hI_sIn (Or.inr hq), hI_sRn (by omega)], by rw [hI_sIe]; unfold rmA; rw [if_neg h16], fun k hk j hj => ?_⟩
    unfold rmA at hk
    rw [if_neg h16] at hk
    rw [hI_sIn (Or.inl (by omega)), hI_sRe]
    unfold rmH
    rw [if_neg h16]
    by_cases e : k = na
    · rw [if_pos e]
      unfold fil
      rw [if_pos (by omega), show 195 * k + j - 195 * na = j by rw [e]; omega]
    · rw [if_neg e, fil_n (by omega)]
      exact hh k (by omega) j hj
theorem RB.hr (R : RB M P S I σ) : Hr σ M := ⟨R.t, R.1.2.2.2.2.1, R.1.2.2.2.2.2.2.1, R.1.2.2.2.2.2.2.2.1⟩
/-- the reference's rows have changed -/
theorem RB.rows (R : RB M P S I σ) (hz : hZ τ = hZ σ) (ht : hT τ = hT σ) (hn : hN τ = hN σ) (hp : hP τ = hP σ) (s : ∀ r, r ≠ M → r ≠ M + 3 → r ≠ M + 5 → r ≠ M + 6 → hI τ r = hI σ r) (q6 : hI τ M 6 = hI σ M 6) (q12 : hI τ M 12 = hI σ M 12) (q24 : hI τ M 24 = nI S'.2.1) (q25 : hI τ M 25 = nI S'.2.2.2.1) (h3 : ∀ j, 195 ≤ j → hI τ (M + 3) j = 0) (h : P.1 = true → hI τ (M + 3) = S'.1 ∧ (∀ k, k < S'.2.1 → ∀ j, j < 195 → hI τ (M + 5) (195 * k + j) = S'.2.2.1 k j) ∧ (∀ k, k < S'.2.2.2.1 → ∀ j, j < 195 → hI τ (M + 6) (195 * k + j) = S'.2.2.2.2 k j)) : RB M P S' I τ := by
  obtain ⟨⟨hzz, r0, r1, r2, r3, r4, r5, r6, r7⟩, ⟨d1, d2, d3, d4⟩, e1, e2, e3, e4, e5⟩ := R
  have f : ∀ {k b t N : Nat}, Fld σ M k b t N → Fld τ M k b t N := fun F => ⟨by rw [hp]; exact F.1, by rw [ht]; exact F.2.1, by rw [hn]; exact F.2.2⟩
  refine ⟨⟨by rw [hz]; exact hzz, by rw [ht]; exact r0, f r1, f r2, f r3, f r4, f r5, f r6, f r7⟩, ⟨by rw [q6]; exact d1, by rw [q12]; exact d2, q24, q25⟩, fun k hk => by rw [s (M + 1) (by omega) (by omega) (by omega) (by omega)]; exact e1 k hk, h3, fun j hj => by rw [s (M + 4) (by omega) (by omega) (by omega) (by omega)]; exact e3 j hj, fun hP => by rw [hp]; exact e4 hP, fun hP => ?_⟩
  obtain ⟨⟨k, k1, k2, k3, k4, k5⟩, -⟩ := e5 hP
  have sm : ∀ r, k ≤ r → r ≤ k + 10 → hI τ r = hI σ r := fun r a b => s r (by omega) (by omega) (by omega) (by omega)
  have k2' : CSh τ k := by
    obtain ⟨t0, t1, t2, t3, t4, t5, t6, t7, t8, t9, t10⟩ := k2
    have ff : ∀ {q b t N : Nat}, Fld σ k q b t N → Fld τ k q b t N := fun F => ⟨by rw [hp]; exact F.1, by rw [ht]; exact F.2.1, by rw [hn]; exact F.2.2⟩
    exact ⟨by rw [ht]; exact t0, ff t1, ff t2, ff t3, ff t4, ff t5, ff t6, ff t7, ff t8, ff t9, ff t10⟩
  have k3' : CR P.2.1 τ k := by
    have e0 : hI τ k = hI σ k := sm k (by omega) (by omega)
    unfold CR at k3 ⊢
    rw [e0, sm (k + 1) (by omega) (by omega), sm (k + 2) (by omega) (by omega), sm (k + 3) (by omega) (by omega), sm (k + 4) (by omega) (by omega), sm (k + 5) (by omega) (by omega), sm (k + 6) (by omega) (by omega), sm (k + 7) (by omega) (by omega), sm (k + 8) (by omega) (by omega), sm (k + 9) (by omega) (by omega), sm (k + 10) (by omega) (by omega)]
    exact k3
  exact ⟨⟨k, by rw [hp]; exact k1, k2', k3', k4, by rw [hz]; exact k5⟩, h hP⟩
theorem RB.rem (R : RB M P S I σ) (A : AW P S I B) (hP : P.1 = true) : ∃ τ, f_X10_remembers M σ = some τ ∧ RB M P (rmS S) I τ ∧ Fr (fun r => r = M ∨ r = M + 5) σ τ ∧ ∀ q, q ≠ 24 → hI τ M q = hI σ M q := by
  obtain ⟨-, g1, g2, g3⟩ := R.2.2.2.2.2.2 hP
  obtain ⟨τ, t1, t2, t3, t4, t5⟩ := rem_h R.hr R.2.1.2.2.1 A.2.2.1 g2
  rw [g1] at t5
  refine ⟨τ, t1, R.rows (S' := rmS S) t2.2.2.2.2.1 t2.1 t2.2.1 t2.2.2.1 (fun r h1 h2 h3 h4 => t2.2.2.2.2.2 r (by omega)) (t3 6 (by omega)) (t3 12 (by omega)) t4 (by rw [t3 25 (by omega)]; exact R.2.1.2.2.2) (fun j hj => by rw [t2.2.2.2.2.2 (M + 3) (by omega)]; exact R.2.2.2.1 j hj) (fun _ => ⟨by rw [t2.2.2.2.2.2 (M + 3) (by omega)]; exact g1, t5, fun k hk j hj => by rw [t2.2.2.2.2.2 (M + 6) (by omega)]; exact g3 k hk j hj⟩), t2, t3⟩
theorem RB.v0 (R : RB M P S I σ) {y : Nat → Int32} (hy : ∀ j, 195 ≤ j → y j = 0) : RB M P (y, S.2) I (sR σ (M + 3) y) := by
  have e : ∀ r, r ≠ M + 3 → hI (sR σ (M + 3) y) r = hI σ r := fun r h => hI_sRn h
  refine R.rows (S' := (y, S.2)) rfl rfl rfl rfl (fun r _ h _ _ => e r h) (by rw [e M (by omega)]) (by rw [e M (by omega)]) (by rw [e M (by omega)]; exact R.2.1.2.2.1) (by rw [e M (by omega)]; exact R.2.1.2.2.2) (fun j hj => by rw [hI_sRe]; exact hy j hj) (fun hP => ⟨hI_sRe, fun k hk j hj => by rw [e (M + 5) (by omega)]; exact (R.2.2.2.2.2.2 hP).2.2.1 k hk j hj, fun k hk j hj => by rw [e (M + 6) (by omega)]; exact (R.2.2.2.2.2.2 hP).2.2.2 k hk j hj⟩)
theorem den_k (h : hT σ M = 11) : f_X10_denied M w σ = some (0, sI (sI σ M 1 w) M 2 (-1)) := by
  unfold f_X10_denied f_X10_denied_0
  rw [if_pos h, refd_k h, osb]
theorem gra_k (h : hT σ M = 11) : f_X10_granted M σ = some (1, sI (sI σ M 1 0) M 2 (-1)) := by
  unfold f_X10_granted f_X10_granted_0
  rw [if_pos h, good_k h, osb]
/-- an act is done: the row now stands -/
theorem done_k (R : RB M P S I σ) (hP : P.1 = true) {y : Nat → Int32} (hy : ∀ j, 195 ≤ j → y j = 0) : f_X10_done M v (sR σ (M + 4) y) = some (v, sI (sI (sR (sR σ (M + 4) y) (M + 3) y) M 1 0) M 2 (-1)) ∧ RB M P (y, S.2) I (sR (sR σ (M + 4) y) (M + 3) y) := by
  obtain ⟨k, D, -⟩ := R.md hP
  have R1 : RB M P S I (sR σ (M + 4) y) := R.rs (RS.row hy)
  have h3 : ∀ j, 195 ≤ j → hI σ (M + 3) j = 0 := R.2.2.2.1
  have e := remains_k D R.1.2.2.2.2.1 hy h3
  refine ⟨?_, R1.v0 hy⟩
  unfold f_X10_done f_X10_done_0
  rw [if_pos R1.t, e, osb, good_k (R1.v0 hy).t, osb]
-- undo, back: a row is read back
theorem un38 (H : Hr σ M) (h24 : hI σ M 24 = nI na) (hn : na < 16) (y : Nat → Int32) : ∀ (q i fu : Nat), i + q = 195 → q < fu → f_X10_undo_38 fu M (nI i) (sR σ (M + 3) (fil y 0 (fun j => hI σ (M + 5) (195 * na + j)) i)) = some (1, sI (sI (sR σ (M + 3) (fil y 0 (fun j => hI σ (M + 5) (195 * na + j)) 195)) M 1 0) M 2 (-1))
  | 0, i, fu, hi, hf => by
    obtain ⟨f, rfl⟩ : ∃ f, fu = f + 1 := ⟨fu - 1, by omega⟩
    obtain rfl : i = 195 := by omega
    have H1 := H.row (a := M + 3) (y := fil y 0 (fun j => hI σ (M + 5) (195 * na + j)) 195)
    rw [e_X10_undo_38, if_pos (by decide), gra_k H1.1, osb, if_pos (Or.inr rfl)]
  | q + 1, i, fu, hi, hf => by
    obtain ⟨f, rfl⟩ : ∃ f, fu = f + 1 := ⟨fu - 1, by omega⟩
    have ih := un38 H h24 hn y q (i + 1) f (by omega) (by omega)
    rw [fil_s, Nat.zero_add, ← nI_1] at ih
    have H1 := H.row (a := M + 3) (y := fil y 0 (fun j => hI σ (M + 5) (195 * na + j)) i)
    rw [e_X10_undo_38, if_neg (show ¬ (195 : Int32) ≤ nI i from nI_ge (a := i) (b := 195) (by omega) (by omega)), H1.2.1.r H1.1, osb, H1.2.2.1.r H1.1, osb, gI_k H1.1, osb, hI_sRn (by omega), h24, ix195, H1.2.2.1.g (by omega) (by omega), osb, hI_sRn (by omega), ws_r H.2.1.2.1 H.2.1.2.2 (by omega) (by omega), osb]
    exact ih
theorem bk32 (H : Hr σ M) {a : Nat} (hn : a < 3) (y : Nat → Int32) : ∀ (q i fu : Nat), i + q = 195 → q < fu → f_X10_back_32 fu M (nI a) (nI i) (sR σ (M + 3) (fil y 0 (fun j => hI σ (M + 6) (195 * a + j)) i)) = some (1, sI (sI (sI (sR σ (M + 3) (fil y 0 (fun j => hI σ (M + 6) (195 * a + j)) 195)) M 24 0) M 1 0) M 2 (-1))
  | 0, i, fu, hi, hf => by
    obtain ⟨f, rfl⟩ : ∃ f, fu = f + 1 := ⟨fu - 1, by omega⟩
    obtain rfl : i = 195 := by omega
    have H1 := H.row (a := M + 3) (y := fil y 0 (fun j => hI σ (M + 6) (195 * a + j)) 195)
    rw [e_X10_back_32, if_pos (by decide), pI_k H1.1, osb, gra_k (σ := sI (sR σ (M + 3) (fil y 0 (fun j => hI σ (M + 6) (195 * a + j)) 195)) M 24 0) H1.1, osb, if_pos (Or.inr rfl)]
  | q + 1, i, fu, hi, hf => by
    obtain ⟨f, rfl⟩ : ∃ f, fu = f + 1 := ⟨fu - 1, by omega⟩
    have ih := bk32 H hn y q (i + 1) f (by omega) (by omega)
    rw [fil_s, Nat.zero_add, ← nI_1] at ih
    have H1 := H.row (a := M + 3) (y := fil y 0 (fun j => hI σ (M + 6) (195 * a + j)) i)
    rw [e_X10_back_32, if_neg (show ¬ (195 : Int32) ≤ nI i from nI_ge (a := i) (b := 195) (by omega) (by omega)), H1.2.1.r H1.1, osb, H1.2.2.2.r H1.1, osb, ix195, H1.2.2.2.g (by omega) (by omega), osb, hI_sRn (by omega), ws_r H.2.1.2.1 H.2.1.2.2 (by omega) (by omega), osb]
    exact ih
theorem im34 (H : Hr σ M) (h25 : hI σ M 25 = nI na) (hn : na < 3) (y : Nat → Int32) : ∀ (q i fu : Nat), i + q = 195 → q < fu → f_X10_image_34 fu M (nI i) (sR σ (M + 6) (fil y (195 * na) (hI σ (M + 3)) i)) = some (nI na, sI (sI (sI (sR σ (M + 6) (fil y (195 * na) (hI σ (M + 3)) 195)) M 25 (nI (na + 1))) M 1 0) M 2 (-1))
  | 0, i, fu, hi, hf => by
    obtain ⟨f, rfl⟩ : ∃ f, fu = f + 1 := ⟨fu - 1, by omega⟩
    obtain rfl : i = 195 := by omega
    have H1 := H.row (a := M + 6) (y := fil y (195 * na) (hI σ (M + 3)) 195)
    rw [e_X10_image_34, if_pos (by decide), gI_k H1.1, osb, hI_sRn (by omega), h25, nI_1, pI_k H1.1, osb, gI_k (σ := sI (sR σ (M + 6) (fil y (195 * na) (hI σ (M + 3)) 195)) M 25 (nI (na + 1))) H1.1, osb, hI_sIe, nI_pred, good_k (σ := sI (sR σ (M + 6) (fil y (195 * na) (hI σ (M + 3)) 195)) M 25 (nI (na + 1))) H1.1, osb]
  | q + 1, i, fu, hi, hf => by
    obtain ⟨f, rfl⟩ : ∃ f, fu = f + 1 := ⟨fu - 1, by omega⟩
    have ih := im34 H h25 hn y q (i + 1) f (by omega) (by omega)
    rw [fil_s, ← nI_1] at ih
    have H1 := H.row (a := M + 6) (y := fil y (195 * na) (hI σ (M + 3)) i)
    rw [e_X10_image_34, if_neg (show ¬ (195 : Int32) ≤ nI i from nI_ge (a := i) (b := 195) (by omega) (by omega)), H1.2.2.2.r H1.1, osb, gI_k H1.1, osb, H1.2.1.r H1.1, osb, H1.2.1.g (by omega) (by omega), osb, hI_sRn (by omega), hI_sRn (by omega), h25, ix195, ws_r H.2.2.2.2.1 H.2.2.2.2.2 (by omega) (by omega), osb]
    exact ih
end Hist3
