/-! FEED: both sides -/
theorem jb_ext {x y : Int32} (h : ∀ i, i < 8 → bt x i = bt y i) : jb x = jb y := by
  unfold jb
  congr 1
  refine Int8.toBitVec_inj.mp (BitVec.eq_of_getLsbD_eq (fun i hi => ?_))
  have e : ∀ v : Int32, v.toInt8.toBitVec.getLsbD i = v.toBitVec.getLsbD i := fun v => by
    rw [Int32.toBitVec_toInt8, BitVec.getLsbD_signExtend]
    simp [hi]
    intro h
    omega
  rw [e, e]
  exact h i hi
theorem b_ushr (n : Nat) (hn : n < 32) (x : Int32) {i : Nat} (hi : n + i < 32) : bt (jushr x (nI n)) i = bt x (n + i) := by
  have hs : ((nI n).toUInt32 &&& Int32.toUInt32 31).toBitVec % 32 = BitVec.ofNat 32 n := by
    have : ∀ n, n < 32 → ((nI n).toUInt32 &&& Int32.toUInt32 31).toBitVec % 32 = BitVec.ofNat 32 n := by decide +kernel
    exact this n hn
  have := pk_ushr x (nI n) n (by rw [hs]; simp; omega)
  unfold bt jushr
  rw [← BitVec.testBit_toNat, this, ← BitVec.testBit_toNat, Nat.testBit_div_two_pow, Nat.add_comm]
theorem jb_sh {v : Int32} {s : Nat} (h : s ≤ 24) : jb (jushr v (nI s)) = jb (jshr v (nI s)) := jb_ext (fun i hi => by
  rw [b_ushr s (by omega) v (by omega), b_sshr s (by omega) v (by omega), if_pos (by omega)])
/-- the k-th of twenty bytes -/
def fdW (a b c d e : Int32) (k : Nat) : Int32 := if k < 4 then a else if k < 8 then b else if k < 12 then c else if k < 16 then d else e
def fdB (a b c d e : Int32) (k : Nat) : Int32 := jb (jb (jshr (fdW a b c d e k) (nI (24 - 8 * (k % 4)))))
def fdT (tp : Nat → Int32) (t : Nat) (a b c d e : Int32) : Nat → Int32 := fun j => if t ≤ j ∧ j < t + 20 then fdB a b c d e (j - t) else tp j
section Feed
variable {σ τ υ : St} {z p d M k t : Nat} {P : PT} {S : SX} {I : IT} {tr wh v w : Int32} {B : Nat}
/-- the state of a tape: its object a, in field f the count -/
def Tq (σ : St) (ty a q f t : Nat) : Prop := hT σ a = ty ∧ Fld σ a q (a + 1) 21 900 ∧ hI σ a f = nI t
theorem Tq.fr {S : Nat → Prop} {ty a q f t t' : Nat} (h : Tq σ ty a q f t) (F : Fr S σ τ) (h' : hI τ a f = nI t') : Tq τ ty a q f t' := ⟨by rw [F.1]; exact h.1, h.2.1.fr F, h'⟩
theorem pb_1 (H : Tq σ 9 z 0 1 t) (ht : t < 900) {s : Int32} (hs : ¬ s < 0) (fu : Nat) : f_X8_putBytes_3 (fu + 1) z v s σ = f_X8_putBytes_3 fu z v (s + (-8)) (sI (sI σ (z + 1) t (jb (jb (jushr v s)))) z 1 (nI (t + 1))) := by
  rw [e_X8_putBytes_3, if_neg hs, gI_k H.1, osb, H.2.2, if_neg (show ¬ (900 : Int32) ≤ nI t from nI_ge (a := t) (b := 900) ht (by omega)), H.2.1.r H.1, osb, osb, xB_k H.2.1.2.1 H.2.1.2.2 ht (by omega), osb, gI_k (σ := sI σ (z + 1) t (jb (jb (jushr v s)))) H.1, osb, hI_sIn (Or.inl (by omega)), H.2.2, nI_1, pI_k (σ := sI σ (z + 1) t (jb (jb (jushr v s)))) H.1, osb]
def inT (z r : Nat) : Prop := r = z ∨ r = z + 1
theorem pb_s (H : Tq σ 9 z 0 1 t) (x : Int32) : Fr (inT z) σ (sI (sI σ (z + 1) t x) z 1 (nI (t + 1))) ∧ Tq (sI (sI σ (z + 1) t x) z 1 (nI (t + 1))) 9 z 0 1 (t + 1) ∧ (∀ q, q ≠ 1 → hI (sI (sI σ (z + 1) t x) z 1 (nI (t + 1))) z q = hI σ z q) ∧ ∀ j, hI (sI (sI σ (z + 1) t x) z 1 (nI (t + 1))) (z + 1) j = if j = t then x else hI σ (z + 1) j := by
  have F : Fr (inT z) σ (sI (sI σ (z + 1) t x) z 1 (nI (t + 1))) := Fr.st (Fr.s0 (Or.inr rfl)) (Or.inl rfl)
  refine ⟨F, H.fr F hI_sIe, fun q hq => by rw [hI_sIn (Or.inr hq), hI_sIn (Or.inl (by omega))], fun j => ?_⟩
  rw [hI_sIn (Or.inl (by omega))]
  by_cases e : j = t
  · subst e; rw [hI_sIe, if_pos rfl]
  · rw [hI_sIn (Or.inr e), if_neg e]
theorem pb_c (H : Tq σ 9 z 0 1 t) (ht : t + 4 ≤ 900) : ∃ τ, f_X8_putBytes z v σ = some τ ∧ Fr (inT z) σ τ ∧ Tq τ 9 z 0 1 (t + 4) ∧ (∀ q, q ≠ 1 → hI τ z q = hI σ z q) ∧ ∀ j, hI τ (z + 1) j = if t ≤ j ∧ j < t + 4 then jb (jb (jshr v (nI (24 - 8 * (j - t))))) else hI σ (z + 1) j := by
  unfold f_X8_putBytes f_X8_putBytes_0
  rw [if_pos H.1, show FU = 4995 + 1 + 1 + 1 + 1 + 1 from rfl, pb_1 H (by omega) (by decide)]
  obtain ⟨F1, H1, q1, j1⟩ := pb_s H (jb (jb (jushr v 24)))
  generalize sI (sI σ (z + 1) t (jb (jb (jushr v 24)))) z 1 (nI (t + 1)) = σ1 at F1 H1 q1 j1 ⊢
  rw [show (24 : Int32) + (-8) = 16 by decide, pb_1 H1 (by omega) (by decide)]
  obtain ⟨F2, H2, q2, j2⟩ := pb_s H1 (jb (jb (jushr v 16)))
  generalize sI (sI σ1 (z + 1) (t + 1) (jb (jb (jushr v 16)))) z 1 (nI (t + 1 + 1)) = σ2 at F2 H2 q2 j2 ⊢
  rw [show (16 : Int32) + (-8) = 8 by decide, pb_1 H2 (by omega) (by decide)]
  obtain ⟨F3, H3, q3, j3⟩ := pb_s H2 (jb (jb (jushr v 8)))
  generalize sI (sI σ2 (z + 1) (t + 1 + 1) (jb (jb (jushr v 8)))) z 1 (nI (t + 1 + 1 + 1)) = σ3 at F3 H3 q3 j3 ⊢
  rw [show (8 : Int32) + (-8) = 0 by decide, pb_1 H3 (by omega) (by decide)]
  obtain ⟨F4, H4, q4, j4⟩ := pb_s H3 (jb (jb (jushr v 0)))
  generalize sI (sI σ3 (z + 1) (t + 1 + 1 + 1) (jb (jb (jushr v 0)))) z 1 (nI (t + 1 + 1 + 1 + 1)) = σ4 at F4 H4 q4 j4 ⊢
  rw [show (0 : Int32) + (-8) = -8 by decide, e_X8_putBytes_3, if_pos (by decide)]
  refine ⟨σ4, rfl, ((F1.trans F2).trans F3).trans F4, H4, fun q hq => by rw [q4 q hq, q3 q hq, q2 q hq, q1 q hq], fun j => ?_⟩
  rw [j4, j3, j2, j1]
  have e24 : jb (jushr v 24) = jb (jshr v (nI 24)) := jb_sh (s := 24) (by omega)
  have e16 : jb (jushr v 16) = jb (jshr v (nI 16)) := jb_sh (s := 16) (by omega)
  have e8 : jb (jushr v 8) = jb (jshr v (nI 8)) := jb_sh (s := 8) (by omega)
  have e0 : jb (jushr v 0) = jb (jshr v (nI 0)) := jb_sh (s := 0) (by omega)
  rw [e24, e16, e8, e0]
  by_cases h : t ≤ j ∧ j < t + 4
  · rw [if_pos h]
    obtain h | h | h | h : j = t ∨ j = t + 1 ∨ j = t + 2 ∨ j = t + 3 := by omega
    · subst h; rw [if_neg (by omega), if_neg (by omega), if_neg (by omega), if_pos rfl, show 24 - 8 * (j - j) = 24 by omega]
    · subst h; rw [if_neg (by omega), if_neg (by omega), if_pos rfl, show 24 - 8 * (t + 1 - t) = 16 by omega]
    · subst h; rw [if_neg (by omega), if_pos rfl, show 24 - 8 * (t + 2 - t) = 8 by omega]
    · subst h; rw [if_pos rfl, show 24 - 8 * (t + 3 - t) = 0 by omega]
  · rw [if_neg h, if_neg (by omega), if_neg (by omega), if_neg (by omega), if_neg (by omega)]
theorem feed_cl (H : Tq σ 9 z 0 1 t) (ht : t + 20 ≤ 900) (a b c d e : Int32) : ∃ τ, f_X8_feed z a b c d e σ = some (nI (t + 20), τ) ∧ Fr (inT z) σ τ ∧ Tq τ 9 z 0 1 (t + 20) ∧ (∀ q, q ≠ 1 → hI τ z q = hI σ z q) ∧ ∀ j, hI τ (z + 1) j = fdT (hI σ (z + 1)) t a b c d e j := by
  obtain ⟨σ1, a1, F1, H1, q1, j1⟩ := pb_c (v := a) H (by omega)
  obtain ⟨σ2, a2, F2, H2, q2, j2⟩ := pb_c (v := b) H1 (by omega)
  obtain ⟨σ3, a3, F3, H3, q3, j3⟩ := pb_c (v := c) H2 (by omega)
  obtain ⟨σ4, a4, F4, H4, q4, j4⟩ := pb_c (v := d) H3 (by omega)
  obtain ⟨σ5, a5, F5, H5, q5, j5⟩ := pb_c (v := e) H4 (by omega)
  have hc : nI t + 20 ≤ (900 : Int32) := by
    show nI t + nI 20 ≤ nI 900
    rw [nI_add]; exact nI_le (by omega) (by omega)
  refine ⟨σ5, ?_, (((F1.trans F2).trans F3).trans F4).trans F5, by rw [show t + 20 = t + 4 + 4 + 4 + 4 + 4 by omega]; exact H5, fun q hq => by rw [q5 q hq, q4 q hq, q3 q hq, q2 q hq, q1 q hq], fun j => ?_⟩
  · simp only [f_X8_feed, f_X8_feed_0, H.1, gI_k H.1, H.2.2, hc, a1, a2, a3, a4, a5, gI_k H5.1, H5.2.2, osb, if_true]
  · rw [j5, j4, j3, j2, j1]
    unfold fdT fdB fdW
    by_cases h : t ≤ j ∧ j < t + 20
    · rw [if_pos h]
      obtain h | h | h | h | h : j - t < 4 ∨ (4 ≤ j - t ∧ j - t < 8) ∨ (8 ≤ j - t ∧ j - t < 12) ∨ (12 ≤ j - t ∧ j - t < 16) ∨ (16 ≤ j - t) := by omega
      · rw [if_neg (by omega), if_neg (by omega), if_neg (by omega), if_neg (by omega), if_pos (by omega), if_pos h, show (j - t) % 4 = j - t by omega]
      · rw [if_neg (by omega), if_neg (by omega), if_neg (by omega), if_pos (by omega), if_neg (by omega), if_pos (by omega), show (j - t) % 4 = j - (t + 4) by omega]
      · rw [if_neg (by omega), if_neg (by omega), if_pos (by omega), if_neg (by omega), if_neg (by omega), if_pos (by omega), show (j - t) % 4 = j - (t + 4 + 4) by omega]
      · rw [if_neg (by omega), if_pos (by omega), if_neg (by omega), if_neg (by omega), if_neg (by omega), if_pos (by omega), show (j - t) % 4 = j - (t + 4 + 4 + 4) by omega]
      · rw [if_pos (by omega), if_neg (by omega), if_neg (by omega), if_neg (by omega), if_neg (by omega), show (j - t) % 4 = j - (t + 4 + 4 + 4 + 4) by omega]
    · rw [if_neg h, if_neg (by omega), if_neg (by omega), if_neg (by omega), if_neg (by omega), if_neg (by omega)]
-- the reference
theorem fd76 {k23 : Nat → Int32 → Int32 → Int32 → Int32 → Int32 → Int32 → St → Option (Int32 × St)} {i : Nat} (H : Tq σ 11 M 5 6 (t + i)) (hi : i < 20) (ht : t + 20 ≤ 900) (a b c d e : Int32) : f_X10_feed_76 k23 M a b c d e (nI i) (fdW a b c d e i) σ = k23 M a b c d e (nI (i + 1)) (sI (sI σ (M + 1) (t + i) (fdB a b c d e i)) M 6 (nI (t + (i + 1)))) := by
  have hs : (24 - (8 * (jrem (nI i) 4)) : Int32) = nI (24 - 8 * (i % 4)) := by
    have h1 : jrem (nI i) 4 = nI (i % 4) := rem_n (d := 4) (by omega) (by omega) (by omega)
    have hm : i % 4 < 4 := Nat.mod_lt _ (by omega)
    rw [h1]
    show nI 24 - nI 8 * nI (i % 4) = _
    rw [pk_mul, pk_sub (by omega)]
  unfold f_X10_feed_76
  rw [H.2.1.r H.1, osb, gI_k H.1, osb, H.2.2, hs, xB_k H.2.1.2.1 H.2.1.2.2 (by omega) (by omega), osb, gI_k (σ := sI σ (M + 1) (t + i) (jb (jb (jshr (fdW a b c d e i) (nI (24 - 8 * (i % 4))))))) H.1, osb, hI_sIn (Or.inl (by omega)), H.2.2, nI_1, pI_k (σ := sI σ (M + 1) (t + i) (jb (jb (jshr (fdW a b c d e i) (nI (24 - 8 * (i % 4))))))) H.1, osb, nI_1]
  rfl
theorem feed_rl (ht : t + 20 ≤ 900) (a b c d e : Int32) : ∀ (q i fu : Nat) (σ : St), i + q = 20 → q < fu → Tq σ 11 M 5 6 (t + i) → ∃ τ, f_X10_feed_23 fu M a b c d e (nI i) σ = some (nI (t + 20), τ) ∧ Fr (inT M) σ τ ∧ Tq τ 11 M 5 6 (t + 20) ∧ (∀ q, q ≠ 6 → hI τ M q = hI σ M q) ∧ ∀ j, hI τ (M + 1) j = if t + i ≤ j ∧ j < t + 20 then fdB a b c d e (j - t) else hI σ (M + 1) j
  | 0, i, fu, σ, hi, hf, H => by
    obtain ⟨f, rfl⟩ : ∃ f, fu = f + 1 := ⟨fu - 1, by omega⟩
    obtain rfl : i = 20 := by omega
    rw [e_X10_feed_23, if_pos (by decide), gI_k H.1, osb, H.2.2]
    exact ⟨σ, rfl, Fr.refl, H, fun _ _ => rfl, fun j => by rw [if_neg (by omega)]⟩
  | q + 1, i, fu, σ, hi, hf, H => by
    obtain ⟨f, rfl⟩ : ∃ f, fu = f + 1 := ⟨fu - 1, by omega⟩
    have hw : f_X10_feed_23 (f + 1) M a b c d e (nI i) σ = f_X10_feed_76 (f_X10_feed_23 f) M a b c d e (nI i) (fdW a b c d e i) σ := by
      have le : ∀ x : Nat, x ≤ 100 → (nI x ≤ nI i ↔ x ≤ i) := fun x hx => nI_leI (by omega) (by omega)
      have e4 : ((4 : Int32) ≤ nI i) ↔ 4 ≤ i := le 4 (by omega)
      have e8 : ((8 : Int32) ≤ nI i) ↔ 8 ≤ i := le 8 (by omega)
      have e12 : ((12 : Int32) ≤ nI i) ↔ 12 ≤ i := le 12 (by omega)
      have e16 : ((16 : Int32) ≤ nI i) ↔ 16 ≤ i := le 16 (by omega)
      have e20 : ((20 : Int32) ≤ nI i) ↔ 20 ≤ i := le 20 (by omega)
      rw [e_X10_feed_23]
      unfold fdW
      simp only [e4, e8, e12, e16, e20]
      rw [if_neg (by omega)]
      by_cases h4 : i < 4
      · rw [if_neg (by omega), if_pos h4]
      · rw [if_pos (by omega), if_neg h4]
        by_cases h8 : i < 8
        · rw [if_neg (by omega), if_pos h8]
        · rw [if_pos (by omega), if_neg h8]
          by_cases h12 : i < 12
          · rw [if_neg (by omega), if_pos h12]
          · rw [if_pos (by omega), if_neg h12]
            by_cases h16 : i < 16
            · rw [if_neg (by omega), if_pos h16]
            · rw [if_pos (by omega), if_neg h16]
    rw [hw, fd76 H (by omega) ht]
    have F1 : Fr (inT M) σ (sI (sI σ (M + 1) (t + i) (fdB a b c d e i)) M 6 (nI (t + (i + 1)))) := Fr.st (Fr.s0 (Or.inr rfl)) (Or.inl rfl)
    obtain ⟨τ, t1, t2, t3, t4, t5⟩ := feed_rl ht a b c d e q (i + 1) f _ (by omega) (by omega) (H.fr F1 hI_sIe)
    refine ⟨τ, t1, F1.trans t2, t3, fun q hq => by rw [t4 q hq, hI_sIn (Or.inr hq), hI_sIn (Or.inl (by omega))], fun j => ?_⟩
    rw [t5, hI_sIn (Or.inl (by omega))]
    by_cases h : t + i ≤ j ∧ j < t + 20
    · rw [if_pos h]
      by_cases e : j = t + i
      · subst e; rw [if_neg (by omega), hI_sIe, show t + i - t = i by omega]
      · rw [if_pos (by omega)]
    · rw [if_neg h, if_neg (by omega), hI_sIn (Or.inr (by omega))]
theorem CB.tp (C : CB z p d P S I σ) (F : Fr (inT z) σ τ) {tp : Nat → Int32} {tn : Nat} (h1 : hI τ z 1 = nI tn) (h2 : hI τ z 2 = hI σ z 2) (h3 : ∀ k, k < 900 → hI τ (z + 1) k = tp k) : CB z p d P S (tp, tn, I.2.2) τ := by
  obtain ⟨c1, c2, c3, ⟨t1, t2, t3, t4, t5, t6, t7⟩, ⟨⟨d1, d2, d3, d4⟩, ⟨e1, e2, e5, t, ht, e3, e4⟩, f1⟩, c6⟩ := C
  have s : ∀ r, z + 2 ≤ r → Sm σ τ r := fun r hr => F.sm (fun h => by rcases h with h | h <;> omega)
  have pd := c1.pd
  have mm : ∀ a yy, z + 30 ≤ a → Mq P p σ a yy → Mq P p τ a yy := fun a yy ha M => Mc.sm M (fun r q1 q2 => s r (by omega)) (fun r q1 q2 => s r (by omega))
  refine ⟨⟨by rw [F.1]; exact c1.1, c1.2.1.fr F, by rw [F.2.2.1]; exact c1.2.2⟩, c2.mv (fun r q1 q2 => s r (by omega)), c3.mv (fun r q1 q2 => s r (by omega)) (fun k hk h => h.fr F) (fun k hk h => h.fr F), ⟨t1.fr F, t2.fr F, t3.fr F, t4.fr F, by rw [F.1]; exact t5, t6.sm (fun r q1 q2 => s r (by omega)), t7.sm (fun r q1 q2 => s r (by omega))⟩, ⟨⟨h1, by rw [h2]; exact d2, h3, by rw [(s (z + 24) (by omega)).2.2.1]; exact d4⟩, ⟨by rw [(s (z + 44) (by omega)).2.2.1]; exact e1, by rw [(s (z + 44) (by omega)).2.2.1]; exact e2, e5, t, ht, by rw [(s (z + 44) (by omega)).2.2.1]; exact e3, fun hT k hk => mm _ _ (by omega) (e4 hT k hk)⟩, fun hT => ⟨mm _ _ (by omega) (f1 hT).1, fun k hk => mm _ _ (by omega) ((f1 hT).2.1 k hk), (f1 hT).2.2.sm (s _ (by omega))⟩⟩, fun h => (c6 h).sm (fun r _ _ => s r (by omega))⟩
theorem RB.tp (R : RB M P S I σ) (F : Fr (inT M) σ τ) {tp : Nat → Int32} {tn : Nat} (h1 : hI τ M 6 = nI tn) (h2 : ∀ q, q ≠ 6 → hI τ M q = hI σ M q) (h3 : ∀ k, k < 900 → hI τ (M + 1) k = tp k) : RB M P S (tp, tn, I.2.2) τ := by
  obtain ⟨⟨hz, r0, r1, r2, r3, r4, r5, r6, r7⟩, ⟨d1, d2, d3, d4⟩, e1, e2, e3, e4, e5⟩ := R
  have s : ∀ r, M + 2 ≤ r → Sm σ τ r := fun r hr => F.sm (fun h => by rcases h with h | h <;> omega)
  refine ⟨⟨by rw [F.2.2.2.2.1]; exact hz, by rw [F.1]; exact r0, r1.fr F, r2.fr F, r3.fr F, r4.fr F, r5.fr F, r6.fr F, r7.fr F⟩, ⟨h1, by rw [h2 12 (by omega)]; exact d2, by rw [h2 24 (by omega)]; exact d3, by rw [h2 25 (by omega)]; exact d4⟩, h3, fun j hj => by rw [(s (M + 3) (by omega)).2.2.1]; exact e2 j hj, fun j hj => by rw [(s (M + 4) (by omega)).2.2.1]; exact e3 j hj, fun hP => by rw [F.2.2.1]; exact e4 hP, fun hP => ?_⟩
  obtain ⟨⟨k, k1, k2, k3, k4, k5⟩, g1, g2, g3⟩ := e5 hP
  exact ⟨⟨k, by rw [F.2.2.1]; exact k1, k2.sm (fun r q1 q2 => s r (by omega)), k3.sm (fun r q1 q2 => s r (by omega)), k4, by rw [F.2.2.2.2.1]; exact k5⟩, by rw [(s (M + 3) (by omega)).2.2.1]; exact g1, fun i hi j hj => by rw [(s (M + 5) (by omega)).2.2.1]; exact g2 i hi j hj, fun i hi j hj => by rw [(s (M + 6) (by omega)).2.2.1]; exact g3 i hi j hj⟩
theorem jb_jb (v : Int32) : jb (jb v) = jb v := by simp [jb]
theorem feed_a (A : AW P S I B) (C : CJ z p d P S I tr wh σ) (R : RJ (z + 195) P S I tr wh σ) (o1 : hT σ (z + 203) = 24) (o2 : hN σ (z + 203) = 1) (a b c' d' e : Int32) : Alike z (fun σ => f_X8_feed z a b c' d' e σ) (fun σ => f_X10_feed (z + 195) a b c' d' e σ) B σ := by
  have hn := A.2.2.2.2.1
  have Hc : Tq σ 9 z 0 1 I.2.1 := ⟨C.1.zt, C.1.1.2.1, C.1.2.2.2.2.1.1.1⟩
  by_cases hle : I.2.1 + 20 ≤ 900
  · obtain ⟨τ, t1, t2, t3, t4, t5⟩ := feed_cl Hc hle a b c' d' e
    have A' : AW P S (fdT I.1 I.2.1 a b c' d' e, I.2.1 + 20, I.2.2) (B + 1) := ⟨(A.up (B' := B + 1) (by omega)).1, (A.up (B' := B + 1) (by omega)).2.1, A.2.2.1, A.2.2.2.1, hle, fun k hk => by
      show jb (fdT I.1 I.2.1 a b c' d' e k) = fdT I.1 I.2.1 a b c' d' e k
      unfold fdT
      split
      · exact jb_jb _
      · exact A.2.2.2.2.2 k hk⟩
    have tpe : ∀ (f : Nat → Int32), (∀ k, k < 900 → f k = I.1 k) → ∀ k, k < 900 → fdT f I.2.1 a b c' d' e k = fdT I.1 I.2.1 a b c' d' e k := fun f hf k hk => by
      unfold fdT
      by_cases h : I.2.1 ≤ k ∧ k < I.2.1 + 20
      · rw [if_pos h, if_pos h]
      · rw [if_neg h, if_neg h]; exact hf k hk
    refine alk_of (tr' := tr) (wh' := wh) A' R o1 o2 ⟨τ, t1, ⟨C.1.tp t2 t3.2.2 (t4 2 (by omega)) (fun k hk => by rw [t5]; exact tpe _ C.1.2.2.2.2.1.1.2.2.1 k hk), by rw [t4 12 (by omega)]; exact C.2.1, by rw [t2.2.2.2.2.2 (z + 24) (fun h => by rcases h with h | h <;> omega)]; exact C.2.2⟩, t2.g.mono (fun r h => ⟨by rcases h with h | h <;> omega, by rcases h with h | h <;> omega⟩)⟩ (fun υ Rυ => ?_)
    have R1 := Rυ.s0
    have Hr : Tq (sI υ (z + 195) 0 0) 11 (z + 195) 5 6 (I.2.1 + 0) := ⟨R1.1.t, R1.1.1.2.2.1, R1.1.2.1.1⟩
    obtain ⟨ρ, r1, r2, r3, r4, r5⟩ := feed_rl hle a b c' d' e 20 0 FU (sI υ (z + 195) 0 0) (by omega) (by unfold FU; omega) Hr
    rw [nI_0] at r1
    have hc : nI I.2.1 + 20 ≤ (900 : Int32) := by
      show nI I.2.1 + nI 20 ≤ nI 900
      rw [nI_add]; exact nI_le (by omega) (by omega)
    refine ⟨ρ, ?_, ⟨R1.1.tp r2 r3.2.2 r4 (fun k hk => ?_), by rw [r4 1 (by omega)]; exact R1.2.1, by rw [r4 2 (by omega)]; exact R1.2.2⟩, fg_r.trans (r2.g.mono (fun r h => ⟨by rcases h with h | h <;> omega, by rcases h with h | h <;> omega⟩))⟩
    · simp only [f_X10_feed, f_X10_feed_0, Rυ.1.t, pI_k Rυ.1.t, gI_k R1.1.t, R1.1.2.1.1, hc, r1, osb, if_true]
    · rw [r5]
      show (if I.2.1 + 0 ≤ k ∧ k < I.2.1 + 20 then _ else _) = fdT I.1 I.2.1 a b c' d' e k
      unfold fdT
      rw [Nat.add_zero]
      by_cases h : I.2.1 ≤ k ∧ k < I.2.1 + 20
      · rw [if_pos h, if_pos h]
      · rw [if_neg h, if_neg h]; exact R1.1.2.2.1 k hk
  · have hc : ¬ nI I.2.1 + 20 ≤ (900 : Int32) := by
      show ¬ nI I.2.1 + nI 20 ≤ nI 900
      rw [nI_add]; exact nI_ge (by omega) (by omega)
    refine alk_of (v := (-1 : Int32)) (A.up (by omega)) R o1 o2 ⟨σ, ?_, C, Fg.refl⟩ (fun υ Rυ => ⟨sI υ (z + 195) 0 0, ?_, Rυ.s0, fg_r⟩)
    · simp only [f_X8_feed, f_X8_feed_0, Hc.1, gI_k Hc.1, Hc.2.2, hc, osb, if_true, if_false]
    · simp only [f_X10_feed, f_X10_feed_0, Rυ.1.t, pI_k Rυ.1.t, gI_k Rυ.s0.1.t, Rυ.s0.1.2.1.1, hc, osb, if_true, if_false]
end Feed
