/-! THE REFERENCE's tokens -/
theorem jb_rng {v : Int32} (h : jb v = v) : -128 ≤ v.toInt ∧ v.toInt ≤ 127 := by
  have e : v.toInt = v.toInt8.toInt := by
    have := congrArg Int32.toInt h
    unfold jb at this
    rw [Int8.toInt_toInt32] at this
    exact this.symm
  have h1 := Int8.le_toInt v.toInt8
  have h2 := Int8.toInt_lt v.toInt8
  rw [e]
  constructor
  · exact h1
  · omega
theorem by_c {v : Int32} (h : jb v = v) : (∃ q, q < 128 ∧ v = nI q ∧ v &&& 255 = v) ∨ (v < 0 ∧ ∃ q, 128 ≤ q ∧ q < 256 ∧ v &&& 255 = nI q) := by
  obtain ⟨h1, h2⟩ := jb_rng h
  have ea := pk_and v (m := 255) 8 (by decide)
  by_cases h0 : v < 0
  · refine Or.inr ⟨h0, v.toBitVec.toNat % 256, ?_, Nat.mod_lt _ (by omega), ea⟩
    have hn : v.toInt < 0 := by rw [Int32.lt_iff_toInt_lt] at h0; exact h0
    have hv : v.toInt = v.toBitVec.toInt := rfl
    have hb := BitVec.toInt_eq_toNat_cond v.toBitVec
    rw [← hv] at hb
    have hlt := v.toBitVec.isLt
    split at hb
    · omega
    · omega
  · obtain ⟨j, hj, e⟩ := nI_of h0
    refine Or.inl ⟨j, ?_, e, ?_⟩
    · rw [e, nI_toInt hj] at h2; omega
    · have hj' : j < 128 := by rw [e, nI_toInt hj] at h2; omega
      rw [ea, e, pk_tn (by omega), show 2 ^ 8 = 256 by omega, Nat.mod_eq_of_lt (by omega)]
theorem by_L {v : Int32} (h : jb v = v) : isL (v &&& 255) = isL v ∧ isDg (v &&& 255) = isDg v ∧ ((v &&& 255 = 32) ↔ v = 32) ∧ ((v &&& 255 = 59) ↔ v = 59) ∧ ¬ (v &&& 255 = -1) ∧ (isL v = true → v &&& 255 = v) ∧ (isDg v = true → v &&& 255 = v) := by
  rcases by_c h with ⟨q, hq, e, ea⟩ | ⟨h0, q, q1, q2, ea⟩
  · rw [ea]
    exact ⟨rfl, rfl, Iff.rfl, Iff.rfl, by rw [e]; exact nI_nm1 (by omega), fun _ => rfl, fun _ => rfl⟩
  · have l0 : isL v = false := by unfold isL; rw [decide_eq_true (show v < 97 ∨ 122 < v from Or.inl (Int32.lt_trans h0 (by decide)))]; rfl
    have d0 : isDg v = false := by unfold isDg; rw [decide_eq_true (show v < 48 ∨ 57 < v from Or.inl (Int32.lt_trans h0 (by decide)))]; rfl
    have l1 : isL (nI q) = false := by unfold isL; rw [decide_eq_true (show nI q < 97 ∨ 122 < nI q from Or.inr (nI_lt (a := 122) (b := q) (by omega) (by omega)))]; rfl
    have d1 : isDg (nI q) = false := by unfold isDg; rw [decide_eq_true (show nI q < 48 ∨ 57 < nI q from Or.inr (nI_lt (a := 57) (b := q) (by omega) (by omega)))]; rfl
    rw [ea, l0, d0, l1, d1]
    refine ⟨rfl, rfl, ⟨fun e => absurd ((nI_eq (b := 32) (by omega) (by omega)).mp e) (by omega), fun e => by rw [e] at h0; exact absurd h0 (by decide)⟩, ⟨fun e => absurd ((nI_eq (b := 59) (by omega) (by omega)).mp e) (by omega), fun e => by rw [e] at h0; exact absurd h0 (by decide)⟩, nI_nm1 (by omega), fun e => (nomatch e), fun e => (nomatch e)⟩
theorem LD {v : Int32} (h : isL v = true) : isDg v = false := by
  unfold isL at h
  simp only [Bool.not_eq_true', decide_eq_false_iff_not] at h
  unfold isDg
  rw [decide_eq_true (show v < 48 ∨ 57 < v from Or.inr (Int32.lt_of_lt_of_le (show (57 : Int32) < 97 by decide) (Int32.not_lt.mp (fun q => h (Or.inl q)))))]
  rfl
def wdN (b : Nat → Int32) : Nat → Nat → Int64 → Int64
  | 0, _, v => v
  | r + 1, p, v => wdN b r (p + 1) (32 * v + ((b p - 97) + 1).toInt64)
def rSo (s : Nat) : Int32 := if s = 0 then 1 else if s = 1 then 2 else if s = 2 then 3 else if s = 3 then 4 else 0
def FrZ (M : Nat) (σ τ : St) : Prop := hT τ = hT σ ∧ hN τ = hN σ ∧ hP τ = hP σ ∧ hZ τ = hZ σ ∧ (∀ r, r ≠ M → hI τ r = hI σ r ∧ hL τ r = hL σ r) ∧ ∀ q, (q < 8 ∨ 11 < q) → hI τ M q = hI σ M q
section Ref
variable {σ τ υ : St} {M L p : Nat} {b : Nat → Int32}
theorem FrZ.refl : FrZ M σ σ := ⟨rfl, rfl, rfl, rfl, fun _ _ => ⟨rfl, rfl⟩, fun _ _ => rfl⟩
theorem FrZ.trans (h : FrZ M σ τ) (g : FrZ M τ υ) : FrZ M σ υ := ⟨g.1.trans h.1, g.2.1.trans h.2.1, g.2.2.1.trans h.2.2.1, g.2.2.2.1.trans h.2.2.2.1, fun r hr => ⟨(g.2.2.2.2.1 r hr).1.trans (h.2.2.2.2.1 r hr).1, (g.2.2.2.2.1 r hr).2.trans (h.2.2.2.2.1 r hr).2⟩, fun q hq => (g.2.2.2.2.2 q hq).trans (h.2.2.2.2.2 q hq)⟩
theorem FrZ.sI {j : Nat} {v : Int32} (h : 8 ≤ j) (h2 : j ≤ 11) : FrZ M σ (sI σ M j v) := ⟨rfl, rfl, rfl, rfl, fun r hr => ⟨hI_sIr hr, rfl⟩, fun q hq => hI_sIn (Or.inr (by omega))⟩
theorem FrZ.sL {j : Nat} {v : Int64} : FrZ M σ (sL σ M j v) := ⟨rfl, rfl, rfl, rfl, fun r hr => ⟨rfl, by funext q; exact if_neg (fun h => hr h.1)⟩, fun _ _ => rfl⟩
/-- the reference's text -/
def Rt (σ : St) (M L : Nat) (b : Nat → Int32) : Prop := hT σ M = 11 ∧ Fld σ M 5 (M + 1) 21 900 ∧ hI σ M 7 = nI L ∧ L ≤ 900 ∧ (∀ k, k < 900 → hI σ (M + 1) k = b k) ∧ ∀ k, k < 900 → jb (b k) = b k
theorem Rt.fr (H : Rt σ M L b) (F : FrZ M σ τ) : Rt τ M L b := ⟨by rw [F.1]; exact H.1, ⟨by rw [F.2.2.1]; exact H.2.1.1, by rw [F.1]; exact H.2.1.2.1, by rw [F.2.1]; exact H.2.1.2.2⟩, by rw [F.2.2.2.2.2 7 (by omega)]; exact H.2.2.1, H.2.2.2.1, fun k hk => by rw [(F.2.2.2.2.1 (M + 1) (by omega)).1]; exact H.2.2.2.2.1 k hk, H.2.2.2.2.2⟩
theorem byt_1 (H : Rt σ M L b) {k : Nat} (hk : k < L) : f_X10_byteAt M (nI k) σ = some (b k &&& 255, σ) := by
  have h9 := H.2.2.2.1
  unfold f_X10_byteAt f_X10_byteAt_0 f_X10_byteAt_22
  rw [if_pos H.1, gI_k H.1, osb, H.2.2.1, if_neg (nI_ge hk (by omega)), H.2.1.r H.1, osb, H.2.1.g (show k < 900 by omega) (by omega), osb, H.2.2.2.2.1 k (by omega)]
theorem byt_0 (H : Rt σ M L b) {k : Nat} (hk : L ≤ k) (h : k ≤ 1000) : f_X10_byteAt M (nI k) σ = some (-1, σ) := by
  unfold f_X10_byteAt f_X10_byteAt_0 f_X10_byteAt_22
  rw [if_pos H.1, gI_k H.1, osb, H.2.2.1, if_pos (nI_le hk (by omega))]
theorem isL_r (v : Int32) : f_X10_isLetter v σ = some (b2i (isL v), σ) := by
  unfold f_X10_isLetter f_X10_isLetter_0 f_X10_isLetter_16 f_X10_isLetter_17 isL
  by_cases h1 : v < 97
  · simp [h1, b2i]
  · by_cases h2 : (122 : Int32) < v <;> simp [h1, h2, b2i]
theorem isDg_r (v : Int32) : f_X10_isDigit v σ = some (b2i (isDg v), σ) := by
  unfold f_X10_isDigit f_X10_isDigit_0 f_X10_isDigit_16 f_X10_isDigit_17 isDg
  by_cases h1 : v < 48
  · simp [h1, b2i]
  · by_cases h2 : (57 : Int32) < v <;> simp [h1, h2, b2i]
theorem hL_sLe {a j : Nat} {v : Int64} : hL (sL σ a j v) a j = v := if_pos ⟨rfl, rfl⟩
theorem hI_sL {a j : Nat} {v : Int64} : hI (sL σ a j v) = hI σ := rfl
theorem hL_sI {a j : Nat} {v : Int32} : hL (sI σ a j v) = hL σ := rfl
/-- letters: from the q-th on, c of them seen, the word so far w -/
theorem let_l : ∀ (r q fu c : Nat) (σ : St), q + r = L → r < fu → Rt σ M L b → hI σ M 8 = nI q → c ≤ q → ∃ τ, f_X10_goesOn_84 fu M (nI c) σ = some τ ∧ FrZ M σ τ ∧ hI τ M 8 = nI (skN isL b r q) ∧ hI τ M 10 = hI σ M 10 ∧ hI τ M 9 = (if c + (skN isL b r q - q) ≤ 8 then 2 else hI σ M 9) ∧ (c + (skN isL b r q - q) ≤ 8 → hL τ M 14 = wdN b (skN isL b r q - q) q (hL σ M 14)) := by
  intro r
  induction r with
  | zero =>
    intro q fu c σ hq hf H h8 hc
    obtain ⟨f, rfl⟩ : ∃ f, fu = f + 1 := ⟨fu - 1, by omega⟩
    have h9 := H.2.2.2.1
    have hs : skN isL b 0 q = q := rfl
    rw [e_X10_goesOn_84, gI_k H.1, osb, h8, byt_0 H (by omega) (by omega), osb, hs, Nat.sub_self]
    dsimp only
    rw [isL_r, osb]
    dsimp only
    rw [if_pos (by decide)]
    unfold f_X10_goesOn_265
    by_cases h : c ≤ 8
    · rw [if_neg (show ¬ (8 : Int32) < nI c from nI_nlt (a := 8) h (by omega)), pI_k H.1, osb, if_pos (by omega)]
      exact ⟨_, rfl, FrZ.sI (by omega) (by omega), by rw [hI_sIn (Or.inr (by omega))]; exact h8, hI_sIn (Or.inr (by omega)), hI_sIe, fun _ => rfl⟩
    · rw [if_pos (show (8 : Int32) < nI c from nI_lt (a := 8) (by omega) (by omega)), if_neg (by omega)]
      exact ⟨σ, rfl, FrZ.refl, h8, rfl, rfl, fun h => by omega⟩
  | succ r ih =>
    intro q fu c σ hq hf H h8 hc
    obtain ⟨f, rfl⟩ : ∃ f, fu = f + 1 := ⟨fu - 1, by omega⟩
    have h9 := H.2.2.2.1
    obtain ⟨c1, c2, c3, c4, c5, c6, c7⟩ := by_L (H.2.2.2.2.2 q (by omega))
    rw [e_X10_goesOn_84, gI_k H.1, osb, h8, byt_1 H (by omega), osb]
    dsimp only
    rw [isL_r, osb, c1]
    dsimp only
    unfold f_X10_goesOn_265 f_X10_goesOn_131
    cases hl : isL (b q) with
    | false =>
      have hs : skN isL b (r + 1) q = q := by simp only [skN, hl, Bool.false_eq_true, if_false]
      rw [if_pos (by decide), hs, Nat.sub_self]
      by_cases h : c ≤ 8
      · rw [if_neg (show ¬ (8 : Int32) < nI c from nI_nlt (a := 8) h (by omega)), pI_k H.1, osb, if_pos (by omega)]
        exact ⟨_, rfl, FrZ.sI (by omega) (by omega), by rw [hI_sIn (Or.inr (by omega))]; exact h8, hI_sIn (Or.inr (by omega)), hI_sIe, fun _ => rfl⟩
      · rw [if_pos (show (8 : Int32) < nI c from nI_lt (a := 8) (by omega) (by omega)), if_neg (by omega)]
        exact ⟨σ, rfl, FrZ.refl, h8, rfl, rfl, fun h => by omega⟩
    | true =>
      have hs : skN isL b (r + 1) q = skN isL b r (q + 1) := by simp only [skN, hl, if_true]
      have hb := skN_b (q := isL) (b := b) (r := r) (p := q + 1)
      rw [if_neg (by decide), hs]
      by_cases h : c < 8
      · rw [if_neg (show ¬ (8 : Int32) ≤ nI c from nI_ge (a := c) (b := 8) h (by omega)), gL_k H.1, osb, gI_k H.1, osb, h8, byt_1 H (by omega), osb]
        dsimp only
        rw [c6 hl, pL_k H.1, osb]
        have F1 : FrZ M σ (sL σ M 14 (32 * hL σ M 14 + ((b q - 97) + 1).toInt64)) := FrZ.sL
        have v1 : hL (sL σ M 14 (32 * hL σ M 14 + ((b q - 97) + 1).toInt64)) M 14 = 32 * hL σ M 14 + ((b q - 97) + 1).toInt64 := hL_sLe
        have i1 : hI (sL σ M 14 (32 * hL σ M 14 + ((b q - 97) + 1).toInt64)) = hI σ := rfl
        generalize sL σ M 14 (32 * hL σ M 14 + ((b q - 97) + 1).toInt64) = σ1 at F1 v1 i1 ⊢
        have H1 := H.fr F1
        rw [gI_k H1.1, osb, i1, h8, nI_1, nI_1, pI_k H1.1, osb]
        have F2 : FrZ M σ (sI σ1 M 8 (nI (q + 1))) := F1.trans (FrZ.sI (by omega) (by omega))
        obtain ⟨τ, t1, t2, t3, t4, t5, t6⟩ := ih (q + 1) f (c + 1) (sI σ1 M 8 (nI (q + 1))) (by omega) (by omega) (H.fr F2) hI_sIe (by omega)
        refine ⟨τ, t1, F2.trans t2, t3, by rw [t4, hI_sIn (Or.inr (by omega)), i1], ?_, fun hle => ?_⟩
        · rw [t5, hI_sIn (Or.inr (by omega)), i1]
          by_cases g : c + (skN isL b r (q + 1) - q) ≤ 8
          · rw [if_pos g, if_pos (by omega)]
          · rw [if_neg g, if_neg (by omega)]
        · rw [t6 (by omega), hL_sI, v1, show skN isL b r (q + 1) - q = (skN isL b r (q + 1) - (q + 1)) + 1 by omega]
          rfl
      · rw [if_pos (show (8 : Int32) ≤ nI c from nI_le (a := 8) (by omega) (by omega)), gI_k H.1, osb, h8, nI_1, nI_1, pI_k H.1, osb]
        have F2 : FrZ M σ (sI σ M 8 (nI (q + 1))) := FrZ.sI (by omega) (by omega)
        obtain ⟨τ, t1, t2, t3, t4, t5, t6⟩ := ih (q + 1) f (c + 1) (sI σ M 8 (nI (q + 1))) (by omega) (by omega) (H.fr F2) hI_sIe (by omega)
        refine ⟨τ, t1, F2.trans t2, t3, by rw [t4, hI_sIn (Or.inr (by omega))], ?_, fun hle => by omega⟩
        rw [t5, hI_sIn (Or.inr (by omega)), if_neg (by omega), if_neg (by omega)]
theorem ten (v c : Int32) : 10 * v + c - 48 = v * 10 + (c - 48) := by rw [Int32.mul_comm, Int32.sub_eq_add_neg, Int32.sub_eq_add_neg, Int32.add_assoc]
/-- digits -/
theorem dig_l : ∀ (r q fu c : Nat) (σ : St), q + r = L → r < fu → Rt σ M L b → hI σ M 8 = nI q → c ≤ q → ∃ τ, f_X10_goesOn_173 fu M (nI c) σ = some τ ∧ FrZ M σ τ ∧ hI τ M 8 = nI (skN isDg b r q) ∧ hI τ M 10 = hI σ M 10 ∧ hI τ M 9 = (if c + (skN isDg b r q - q) ≤ 4 then 3 else hI σ M 9) ∧ (c + (skN isDg b r q - q) ≤ 4 → hI τ M 11 = whN b (skN isDg b r q - q) q (hI σ M 11)) := by
  intro r
  induction r with
  | zero =>
    intro q fu c σ hq hf H h8 hc
    obtain ⟨f, rfl⟩ : ∃ f, fu = f + 1 := ⟨fu - 1, by omega⟩
    have h9 := H.2.2.2.1
    have hs : skN isDg b 0 q = q := rfl
    rw [e_X10_goesOn_173, gI_k H.1, osb, h8, byt_0 H (by omega) (by omega), osb, hs, Nat.sub_self]
    dsimp only
    rw [isDg_r, osb]
    dsimp only
    rw [if_pos (by decide)]
    unfold f_X10_goesOn_265
    by_cases h : c ≤ 4
    · rw [if_neg (show ¬ (4 : Int32) < nI c from nI_nlt (a := 4) h (by omega)), pI_k H.1, osb, if_pos (by omega)]
      exact ⟨_, rfl, FrZ.sI (by omega) (by omega), by rw [hI_sIn (Or.inr (by omega))]; exact h8, hI_sIn (Or.inr (by omega)), hI_sIe, fun _ => hI_sIn (Or.inr (by omega))⟩
    · rw [if_pos (show (4 : Int32) < nI c from nI_lt (a := 4) (by omega) (by omega)), if_neg (by omega)]
      exact ⟨σ, rfl, FrZ.refl, h8, rfl, rfl, fun h => by omega⟩
  | succ r ih =>
    intro q fu c σ hq hf H h8 hc
    obtain ⟨f, rfl⟩ : ∃ f, fu = f + 1 := ⟨fu - 1, by omega⟩
    have h9 := H.2.2.2.1
    obtain ⟨c1, c2, c3, c4, c5, c6, c7⟩ := by_L (H.2.2.2.2.2 q (by omega))
    rw [e_X10_goesOn_173, gI_k H.1, osb, h8, byt_1 H (by omega), osb]
    dsimp only
    rw [isDg_r, osb, c2]
    dsimp only
    unfold f_X10_goesOn_265 f_X10_goesOn_215
    cases hl : isDg (b q) with
    | false =>
      have hs : skN isDg b (r + 1) q = q := by simp only [skN, hl, Bool.false_eq_true, if_false]
      rw [if_pos (by decide), hs, Nat.sub_self]
      by_cases h : c ≤ 4
      · rw [if_neg (show ¬ (4 : Int32) < nI c from nI_nlt (a := 4) h (by omega)), pI_k H.1, osb, if_pos (by omega)]
        exact ⟨_, rfl, FrZ.sI (by omega) (by omega), by rw [hI_sIn (Or.inr (by omega))]; exact h8, hI_sIn (Or.inr (by omega)), hI_sIe, fun _ => hI_sIn (Or.inr (by omega))⟩
      · rw [if_pos (show (4 : Int32) < nI c from nI_lt (a := 4) (by omega) (by omega)), if_neg (by omega)]
        exact ⟨σ, rfl, FrZ.refl, h8, rfl, rfl, fun h => by omega⟩
    | true =>
      have hs : skN isDg b (r + 1) q = skN isDg b r (q + 1) := by simp only [skN, hl, if_true]
      have hb := skN_b (q := isDg) (b := b) (r := r) (p := q + 1)
      rw [if_neg (by decide), hs]
      by_cases h : c < 4
      · rw [if_neg (show ¬ (4 : Int32) ≤ nI c from nI_ge (a := c) (b := 4) h (by omega)), gI_k H.1, osb, gI_k H.1, osb, h8, byt_1 H (by omega), osb]
        dsimp only
        rw [c7 hl, ten, pI_k H.1, osb]
        have F1 : FrZ M σ (sI σ M 11 (hI σ M 11 * 10 + (b q - 48))) := FrZ.sI (by omega) (by omega)
        have v1 : hI (sI σ M 11 (hI σ M 11 * 10 + (b q - 48))) M 11 = hI σ M 11 * 10 + (b q - 48) := hI_sIe
        have i1 : ∀ j, j ≠ 11 → hI (sI σ M 11 (hI σ M 11 * 10 + (b q - 48))) M j = hI σ M j := fun j hj => hI_sIn (Or.inr hj)
        generalize sI σ M 11 (hI σ M 11 * 10 + (b q - 48)) = σ1 at F1 v1 i1 ⊢
        have H1 := H.fr F1
        rw [gI_k H1.1, osb, i1 8 (by omega), h8, nI_1, nI_1, pI_k H1.1, osb]
        have F2 : FrZ M σ (sI σ1 M 8 (nI (q + 1))) := F1.trans (FrZ.sI (by omega) (by omega))
        obtain ⟨τ, t1, t2, t3, t4, t5, t6⟩ := ih (q + 1) f (c + 1) (sI σ1 M 8 (nI (q + 1))) (by omega) (by omega) (H.fr F2) hI_sIe (by omega)
        refine ⟨τ, t1, F2.trans t2, t3, by rw [t4, hI_sIn (Or.inr (by omega)), i1 10 (by omega)], ?_, fun hle => ?_⟩
        · rw [t5, hI_sIn (Or.inr (by omega)), i1 9 (by omega)]
          by_cases g : c + (skN isDg b r (q + 1) - q) ≤ 4
          · rw [if_pos g, if_pos (by omega)]
          · rw [if_neg g, if_neg (by omega)]
        · rw [t6 (by omega), hI_sIn (Or.inr (by omega)), v1, show skN isDg b r (q + 1) - q = (skN isDg b r (q + 1) - (q + 1)) + 1 by omega]
          rfl
      · rw [if_pos (show (4 : Int32) ≤ nI c from nI_le (a := 4) (by omega) (by omega)), gI_k H.1, osb, h8, nI_1, nI_1, pI_k H.1, osb]
        have F2 : FrZ M σ (sI σ M 8 (nI (q + 1))) := FrZ.sI (by omega) (by omega)
        obtain ⟨τ, t1, t2, t3, t4, t5, t6⟩ := ih (q + 1) f (c + 1) (sI σ M 8 (nI (q + 1))) (by omega) (by omega) (H.fr F2) hI_sIe (by omega)
        refine ⟨τ, t1, F2.trans t2, t3, by rw [t4, hI_sIn (Or.inr (by omega))], ?_, fun hle => by omega⟩
        rw [t5, hI_sIn (Or.inr (by omega)), if_neg (by omega), if_neg (by omega)]
/-- the reference is at the token that begins at p -/
def RT (σ : St) (M L : Nat) (b : Nat → Int32) (p : Nat) : Prop := Rt σ M L b ∧ p ≤ L ∧ hI σ M 10 = nI p ∧ hI σ M 9 = rSo (tkS b L p) ∧ (tkS b L p ≠ 4 → hI σ M 8 = nI (tkE b L p)) ∧ (tkS b L p = 1 → hL σ M 14 = wdN b (tkE b L p - p) p 0) ∧ (tkS b L p = 2 → hI σ M 11 = vaE b L p)
theorem tkE_L (hp : p < L) (h : isL (b p) = true) : tkE b L p = skN isL b (L - p) p := by
  unfold tkE
  have hd := LD h
  rw [if_neg (by omega), show L - p = (L - (p + 1)) + 1 by omega]
  simp only [skN, h, if_true]
  congr 1
  funext w
  unfold runQ
  rw [h, hd]; simp
theorem tkE_D (hp : p < L) (h : isDg (b p) = true) (hl : isL (b p) = false) : tkE b L p = skN isDg b (L - p) p := by
  unfold tkE
  rw [if_neg (by omega), show L - p = (L - (p + 1)) + 1 by omega]
  simp only [skN, h, if_true]
  congr 1
  funext w
  unfold runQ
  rw [h, hl]; simp
theorem gon_l : ∀ (r q fu : Nat) (σ : St), q + r = L → r < fu → Rt σ M L b → hI σ M 8 = nI q → ∃ τ, f_X10_goesOn_9 fu M σ = some τ ∧ FrZ M σ τ ∧ RT τ M L b (skN (fun v => decide (v = 32)) b r q) := by
  intro r
  induction r with
  | zero =>
    intro q fu σ hq hf H h8
    obtain ⟨f, rfl⟩ : ∃ f, fu = f + 1 := ⟨fu - 1, by omega⟩
    have h9 := H.2.2.2.1
    have hs : skN (fun v => decide (v = 32)) b 0 q = q := rfl
    have hS : tkS b L q = 0 := by unfold tkS; rw [if_pos (by omega)]
    have hE : tkE b L q = L := by unfold tkE; rw [if_pos (by omega)]
    rw [e_X10_goesOn_9, gI_k H.1, osb, h8, byt_0 H (by omega) (by omega), osb, hs]
    dsimp only
    rw [if_neg (by decide), gI_k H.1, osb, h8, pI_k H.1, osb]
    have F1 : FrZ M σ (sI σ M 10 (nI q)) := FrZ.sI (by omega) (by omega)
    have F2 : FrZ M σ (sI (sI σ M 10 (nI q)) M 9 0) := F1.trans (FrZ.sI (by omega) (by omega))
    have H2 := H.fr F2
    rw [pI_k (H.fr F1).1, osb, gI_k H2.1, osb, hI_sIn (Or.inr (by omega)), hI_sIn (Or.inr (by omega)), h8, byt_0 H2 (by omega) (by omega), osb]
    dsimp only
    rw [if_pos rfl, pI_k H2.1, osb]
    have F3 : FrZ M σ (sI (sI (sI σ M 10 (nI q)) M 9 0) M 9 1) := F2.trans (FrZ.sI (by omega) (by omega))
    refine ⟨_, rfl, F3, H.fr F3, by omega, ?_, ?_, fun _ => ?_, fun h => by omega, fun h => by omega⟩
    · rw [hI_sIn (Or.inr (by omega)), hI_sIn (Or.inr (by omega)), hI_sIe]
    · rw [hI_sIe, hS]; rfl
    · rw [hI_sIn (Or.inr (by omega)), hI_sIn (Or.inr (by omega)), hI_sIn (Or.inr (by omega)), h8, hE, show q = L by omega]
  | succ r ih =>
    intro q fu σ hq hf H h8
    obtain ⟨f, rfl⟩ : ∃ f, fu = f + 1 := ⟨fu - 1, by omega⟩
    have h9 := H.2.2.2.1
    obtain ⟨c1, c2, c3, c4, c5, c6, c7⟩ := by_L (H.2.2.2.2.2 q (by omega))
    rw [e_X10_goesOn_9, gI_k H.1, osb, h8, byt_1 H (by omega), osb]
    dsimp only
    by_cases h32 : b q = 32
    · have hs : skN (fun v => decide (v = 32)) b (r + 1) q = skN (fun v => decide (v = 32)) b r (q + 1) := by simp only [skN, decide_eq_true h32, if_true]
      rw [if_pos (c3.mpr h32), gI_k H.1, osb, h8, nI_1, pI_k H.1, osb, hs]
      have F1 : FrZ M σ (sI σ M 8 (nI (q + 1))) := FrZ.sI (by omega) (by omega)
      obtain ⟨τ, t1, t2, t3⟩ := ih (q + 1) f (sI σ M 8 (nI (q + 1))) (by omega) (by omega) (H.fr F1) hI_sIe
      exact ⟨τ, t1, F1.trans t2, t3⟩
    · have hs : skN (fun v => decide (v = 32)) b (r + 1) q = q := by simp only [skN, decide_eq_false h32, Bool.false_eq_true, if_false]
      rw [if_neg (fun e => h32 (c3.mp e)), gI_k H.1, osb, h8, pI_k H.1, osb, hs]
      have F1 : FrZ M σ (sI σ M 10 (nI q)) := FrZ.sI (by omega) (by omega)
      have F2 : FrZ M σ (sI (sI σ M 10 (nI q)) M 9 0) := F1.trans (FrZ.sI (by omega) (by omega))
      have k10 : hI (sI (sI σ M 10 (nI q)) M 9 0) M 10 = nI q := by rw [hI_sIn (Or.inr (by omega)), hI_sIe]
      have k9 : hI (sI (sI σ M 10 (nI q)) M 9 0) M 9 = 0 := hI_sIe
      have k8 : hI (sI (sI σ M 10 (nI q)) M 9 0) M 8 = nI q := by rw [hI_sIn (Or.inr (by omega)), hI_sIn (Or.inr (by omega))]; exact h8
      have H2 := H.fr F2
      rw [pI_k (H.fr F1).1, osb]
      generalize sI (sI σ M 10 (nI q)) M 9 0 = σ2 at F2 k10 k9 k8 H2 ⊢
      rw [gI_k H2.1, osb, k8, byt_1 H2 (by omega), osb]
      dsimp only
      rw [if_neg c5, isL_r, osb, c1]
      dsimp only
      cases hl : isL (b q) with
      | true =>
        have hE := tkE_L (b := b) (L := L) (p := q) (by omega) hl
        rw [if_neg (by decide), pL_k H2.1, osb]
        have F3 : FrZ M σ2 (sL σ2 M 14 0) := FrZ.sL
        obtain ⟨τ, t1, t2, t3, t4, t5, t6⟩ := let_l (M := M) (b := b) (L - q) q FU 0 (sL σ2 M 14 0) (by omega) (by unfold FU; omega) (H2.fr F3) k8 (by omega)
        rw [nI_0] at t1
        rw [← hE, Nat.zero_add] at t5 t6
        rw [← hE] at t3
        rw [hL_sLe] at t6
        refine ⟨τ, t1, (F2.trans F3).trans t2, H.fr ((F2.trans F3).trans t2), by omega, by rw [t4]; exact k10, ?_, fun _ => t3, fun h => ?_, fun h => ?_⟩
        · rw [t5]
          unfold tkS
          rw [if_neg (show ¬ L ≤ q by omega), if_pos hl]
          by_cases g : tkE b L q - q ≤ 8
          · rw [if_pos g, if_pos g]; rfl
          · rw [if_neg g, if_neg g]; exact k9
        · unfold tkS at h
          rw [if_neg (show ¬ L ≤ q by omega), if_pos hl] at h
          by_cases g : tkE b L q - q ≤ 8
          · exact t6 g
          · rw [if_neg g] at h; omega
        · unfold tkS at h
          rw [if_neg (show ¬ L ≤ q by omega), if_pos hl] at h
          split at h <;> omega
      | false =>
        rw [if_pos (by decide), isDg_r, osb, c2]
        dsimp only
        cases hd : isDg (b q) with
        | true =>
          have hE := tkE_D (b := b) (L := L) (p := q) (by omega) hd hl
          rw [if_neg (by decide), pI_k H2.1, osb]
          have F3 : FrZ M σ2 (sI σ2 M 11 0) := FrZ.sI (by omega) (by omega)
          have m8 : hI (sI σ2 M 11 0) M 8 = nI q := by rw [hI_sIn (Or.inr (by omega))]; exact k8
          obtain ⟨τ, t1, t2, t3, t4, t5, t6⟩ := dig_l (M := M) (b := b) (L - q) q FU 0 (sI σ2 M 11 0) (by omega) (by unfold FU; omega) (H2.fr F3) m8 (by omega)
          rw [nI_0] at t1
          rw [← hE, Nat.zero_add] at t5 t6
          rw [← hE] at t3
          rw [hI_sIe] at t6
          rw [hI_sIn (Or.inr (by omega))] at t4 t5
          refine ⟨τ, t1, (F2.trans F3).trans t2, H.fr ((F2.trans F3).trans t2), by omega, by rw [t4]; exact k10, ?_, fun _ => t3, fun h => ?_, fun h => ?_⟩
          · rw [t5]
            unfold tkS
            rw [if_neg (show ¬ L ≤ q by omega), hl, if_neg (show ¬ (false = true) by decide), if_pos hd]
            by_cases g : tkE b L q - q ≤ 4
            · rw [if_pos g, if_pos g]; rfl
            · rw [if_neg g, if_neg g]; exact k9
          · unfold tkS at h
            rw [if_neg (show ¬ L ≤ q by omega), hl, if_neg (show ¬ (false = true) by decide), if_pos hd] at h
            split at h <;> omega
          · unfold tkS at h
            rw [if_neg (show ¬ L ≤ q by omega), hl, if_neg (show ¬ (false = true) by decide), if_pos hd] at h
            by_cases g : tkE b L q - q ≤ 4
            · exact t6 g
            · rw [if_neg g] at h; omega
        | false =>
          have hE : tkE b L q = q + 1 := by
            unfold tkE
            rw [if_neg (by omega)]
            cases hr : L - (q + 1) with
            | zero => rfl
            | succ r' =>
              simp only [skN]
              rw [if_neg (by unfold runQ; rw [hl, hd]; simp)]
          rw [if_pos (by decide)]
          unfold f_X10_goesOn_265
          by_cases h59 : b q = 59
          · have hS : tkS b L q = 3 := by unfold tkS; rw [if_neg (show ¬ L ≤ q by omega), hl, hd, if_neg (by decide), if_neg (by decide), if_pos h59]
            rw [if_pos (c4.mpr h59), pI_k H2.1, osb]
            have F3 : FrZ M σ2 (sI σ2 M 9 4) := FrZ.sI (by omega) (by omega)
            rw [gI_k (H2.fr F3).1, osb, hI_sIn (Or.inr (by omega)), k8, nI_1, pI_k (H2.fr F3).1, osb]
            have F4 : FrZ M σ (sI (sI σ2 M 9 4) M 8 (nI (q + 1))) := (F2.trans F3).trans (FrZ.sI (by omega) (by omega))
            refine ⟨_, rfl, F4, H.fr F4, by omega, ?_, ?_, fun _ => by rw [hI_sIe, hE], fun h => by omega, fun h => by omega⟩
            · rw [hI_sIn (Or.inr (by omega)), hI_sIn (Or.inr (by omega))]; exact k10
            · rw [hI_sIn (Or.inr (by omega)), hI_sIe, hS]; rfl
          · have hS : tkS b L q = 4 := by unfold tkS; rw [if_neg (show ¬ L ≤ q by omega), hl, hd, if_neg (by decide), if_neg (by decide), if_neg h59]
            rw [if_neg (fun e => h59 (c4.mp e))]
            exact ⟨σ2, rfl, F2, H2, by omega, k10, by rw [k9, hS]; rfl, fun h => absurd hS h, fun h => by omega, fun h => by omega⟩
theorem gon_q (H : Rt σ M L b) {q : Nat} (hq : q ≤ L) (h8 : hI σ M 8 = nI q) (h5 : ¬ hI σ M 9 = 5) : ∃ τ, f_X10_goesOn M σ = some τ ∧ FrZ M σ τ ∧ RT τ M L b (bkE b L q) := by
  have h9 := H.2.2.2.1
  unfold f_X10_goesOn f_X10_goesOn_0 bkE
  rw [if_pos H.1, gI_k H.1, osb, if_neg h5]
  exact gon_l (L - q) q FU σ (by omega) (by unfold FU; omega) H h8
end Ref
