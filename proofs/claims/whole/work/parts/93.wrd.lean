/-! THE REFERENCE's words and wholes -/
theorem cmpE (a b : Int64) : (lg_cmp a b = 0) ↔ a = b := by
  unfold lg_cmp
  by_cases h : a = b
  · rw [if_pos h, if_neg (show ¬ a > b by rw [h]; exact Int64.lt_irrefl)]; exact ⟨fun _ => h, fun _ => rfl⟩
  · rw [if_neg h]
    constructor
    · intro q; split at q <;> exact absurd q (by decide)
    · intro q; exact absurd q h
/-- a word as a number to the base 32 -/
def vlN (f : Nat → Nat) : Nat → Nat
  | 0 => 0
  | r + 1 => 32 * vlN f r + f r
theorem vl_lt {f : Nat → Nat} : ∀ {r : Nat}, (∀ k, k < r → f k < 32) → vlN f r < 32 ^ r
  | 0, _ => Nat.zero_lt_one
  | r + 1, h => by
    have h1 := vl_lt (r := r) (fun k hk => h k (by omega))
    have h2 := h r (by omega)
    show 32 * vlN f r + f r < 32 ^ (r + 1)
    rw [Nat.pow_succ]; omega
theorem vl_inj {f g : Nat → Nat} : ∀ {r s : Nat}, (∀ k, k < r → 1 ≤ f k ∧ f k < 32) → (∀ k, k < s → 1 ≤ g k ∧ g k < 32) → vlN f r = vlN g s → r = s ∧ ∀ k, k < r → f k = g k
  | 0, 0, _, _, _ => ⟨rfl, fun k hk => by omega⟩
  | 0, s + 1, _, hg, e => by
    have := hg s (by omega)
    have e' : 0 = 32 * vlN g s + g s := e
    omega
  | r + 1, 0, hf, _, e => by
    have := hf r (by omega)
    have e' : 32 * vlN f r + f r = 0 := e
    omega
  | r + 1, s + 1, hf, hg, e => by
    have h1 := hf r (by omega)
    have h2 := hg s (by omega)
    have e' : 32 * vlN f r + f r = 32 * vlN g s + g s := e
    obtain ⟨i1, i2⟩ := vl_inj (r := r) (s := s) (fun k hk => hf k (by omega)) (fun k hk => hg k (by omega)) (by omega)
    refine ⟨by omega, fun k hk => ?_⟩
    by_cases q : k = r
    · rw [q]; subst i1; omega
    · exact i2 k (by omega)
theorem wd_snoc {b : Nat → Int32} : ∀ (r p : Nat) (v : Int64), wdN b (r + 1) p v = 32 * wdN b r p v + ((b (p + r) - 97) + 1).toInt64
  | 0, p, v => rfl
  | r + 1, p, v => by
    show wdN b (r + 1) (p + 1) _ = _
    rw [wd_snoc r (p + 1)]
    show 32 * wdN b (r + 1) p v + _ = _
    rw [show p + 1 + r = p + (r + 1) by omega]
def dgN (v : Int32) : Nat := v.toBitVec.toNat - 96
theorem dg_h : ∀ q, q < 123 → 97 ≤ q → (((nI q - 97) + 1).toInt64 = lN (q - 96) ∧ dgN (nI q) = q - 96) := by decide +kernel
theorem isL_q {v : Int32} (h : isL v = true) : ∃ q, 97 ≤ q ∧ q < 123 ∧ v = nI q := by
  unfold isL at h
  simp only [Bool.not_eq_true', decide_eq_false_iff_not] at h
  have h0 : ¬ v < 97 := fun g => h (Or.inl g)
  have h1 : ¬ 122 < v := fun g => h (Or.inr g)
  obtain ⟨q, hq, e⟩ := nI_of (x := v) (fun g => h0 (Int32.lt_trans g (by decide)))
  refine ⟨q, ?_, ?_, e⟩
  · by_cases g : q < 97
    · exact absurd (show v < 97 by rw [e]; exact nI_lt (b := 97) g (by omega)) h0
    · omega
  · by_cases g : 122 < q
    · exact absurd (show 122 < v by rw [e]; exact nI_lt (a := 122) g (by omega)) h1
    · omega
theorem dg_L {v : Int32} (h : isL v = true) : ((v - 97) + 1).toInt64 = lN (dgN v) ∧ 1 ≤ dgN v ∧ dgN v < 32 := by
  obtain ⟨q, h1, h2, e⟩ := isL_q h
  obtain ⟨a, c⟩ := dg_h q h2 h1
  rw [e, c]
  exact ⟨a, by omega, by omega⟩
theorem dg_inj {v w : Int32} (h : isL v = true) (g : isL w = true) (e : dgN v = dgN w) : v = w := by
  obtain ⟨q, h1, h2, e1⟩ := isL_q h
  obtain ⟨r, g1, g2, e2⟩ := isL_q g
  rw [e1, e2, (dg_h q h2 h1).2, (dg_h r g2 g1).2] at e
  rw [e1, e2, show q = r by omega]
theorem wd_v {b : Nat → Int32} : ∀ {r p : Nat}, (∀ k, k < r → isL (b (p + k)) = true) → wdN b r p 0 = lN (vlN (fun k => dgN (b (p + k))) r)
  | 0, p, _ => rfl
  | r + 1, p, h => by
    rw [wd_snoc, wd_v (r := r) (fun k hk => h k (by omega)), (dg_L (h r (by omega))).1]
    show (32 : Int64) * lN _ + lN _ = lN (32 * vlN _ r + _)
    unfold lN
    rw [Int64.ofNat_add, Int64.ofNat_mul]
    rfl
theorem wd_eq {b c : Nat → Int32} {r p s : Nat} (hb : ∀ k, k < r → isL (b (p + k)) = true) (hc : ∀ k, k < s → isL (c k) = true) (hr : r ≤ 8) (hs : s ≤ 8) : wdN b r p 0 = wdN c s 0 0 ↔ (r = s ∧ ∀ k, k < r → b (p + k) = c k) := by
  have hc' : ∀ k, k < s → isL (c (0 + k)) = true := fun k hk => by rw [Nat.zero_add]; exact hc k hk
  have b1 : vlN (fun k => dgN (b (p + k))) r < 32 ^ r := vl_lt (fun k hk => (dg_L (hb k hk)).2.2)
  have b2 : vlN (fun k => dgN (c (0 + k))) s < 32 ^ s := vl_lt (fun k hk => (dg_L (hc' k hk)).2.2)
  have p1 : 32 ^ r ≤ 32 ^ 8 := Nat.pow_le_pow_right (by omega) hr
  have p2 : 32 ^ s ≤ 32 ^ 8 := Nat.pow_le_pow_right (by omega) hs
  have p3 : 32 ^ 8 < 2 ^ 63 := by decide
  rw [wd_v hb, wd_v hc', pk_lEQ (by omega) (by omega)]
  constructor
  · intro e
    obtain ⟨i1, i2⟩ := vl_inj (fun k hk => (dg_L (hb k hk)).2) (fun k hk => (dg_L (hc' k hk)).2) e
    refine ⟨i1, fun k hk => ?_⟩
    have := dg_inj (hb k hk) (hc' k (by omega)) (i2 k hk)
    rw [Nat.zero_add] at this
    exact this
  · rintro ⟨rfl, i2⟩
    have : ∀ t, t ≤ r → vlN (fun k => dgN (b (p + k))) t = vlN (fun k => dgN (c (0 + k))) t := fun t => by
      induction t with
      | zero => intro _; rfl
      | succ t ih =>
        intro ht
        show 32 * vlN _ t + _ = 32 * vlN _ t + _
        dsimp only
        rw [ih (by omega), i2 t (by omega), Nat.zero_add]
    exact this r (Nat.le_refl _)
theorem sW_L : ∀ i, i < 34 → ∀ k, k < 8 → k < (sW i).length → isL ((sW i).getD k 0) = true := by decide +kernel
/-- what begins with a letter runs over letters -/
theorem sk_all {q : Int32 → Bool} {b : Nat → Int32} : ∀ {r p j : Nat}, p ≤ j → j < skN q b r p → q (b j) = true
  | 0, p, j, h1, h2 => by
    have : skN q b 0 p = p := rfl
    omega
  | r + 1, p, j, h1, h2 => by
    simp only [skN] at h2
    split at h2
    · rename_i hq
      by_cases e : j = p
      · rw [e]; exact hq
      · exact sk_all (r := r) (p := p + 1) (by omega) h2
    · omega
theorem tkS_w {b : Nat → Int32} {L p : Nat} (h : tkS b L p = 1) : p < L ∧ isL (b p) = true ∧ tkE b L p - p ≤ 8 := by
  unfold tkS at h
  by_cases h1 : L ≤ p
  · rw [if_pos h1] at h; omega
  · rw [if_neg h1] at h
    by_cases h2 : isL (b p) = true
    · rw [if_pos h2] at h
      by_cases h3 : tkE b L p - p ≤ 8
      · exact ⟨by omega, h2, h3⟩
      · rw [if_neg h3] at h; omega
    · rw [if_neg h2] at h
      (repeat' split at h) <;> omega
section Wrd
variable {σ τ υ : St} {M L p : Nat} {b : Nat → Int32}
theorem pkd_l {i : Nat} (hi : i < 34) (σ : St) : ∀ (r j fu : Nat) (v : Int64), j + r = (sW i).length → r < fu → f_X10_packed_4 fu i v (nI j) σ = some (wdN (fun k => (sW i).getD k 0) r j v, σ)
  | 0, j, fu, v, hj, hf => by
    obtain ⟨f, rfl⟩ : ∃ f, fu = f + 1 := ⟨fu - 1, by omega⟩
    have h8 := (chr_h i hi).1
    rw [e_X10_packed_4, len_k hi, osb]
    dsimp only
    rw [if_pos (nI_le (by omega) (by omega))]
    rfl
  | r + 1, j, fu, v, hj, hf => by
    obtain ⟨f, rfl⟩ : ∃ f, fu = f + 1 := ⟨fu - 1, by omega⟩
    have h8 := (chr_h i hi).1
    rw [e_X10_packed_4, len_k hi, osb]
    dsimp only
    rw [if_neg (nI_ge (by omega) (by omega)), chr_k hi (by omega), osb]
    dsimp only
    rw [bndu, nI_1]
    exact pkd_l hi σ r (j + 1) f _ (by omega) (by omega)
theorem pkd_r {i : Nat} (hi : i < 34) : f_X10_packed i σ = some (wdN (fun k => (sW i).getD k 0) (sW i).length 0 0, σ) := by
  have h8 := (chr_h i hi).1
  unfold f_X10_packed f_X10_packed_0
  have := pkd_l hi σ (sW i).length 0 FU 0 (by omega) (by unfold FU; omega)
  rw [nI_0] at this
  exact this
theorem rSo_5 {s : Nat} : ¬ rSo s = 5 := by unfold rSo; (repeat' split) <;> decide
theorem rSo_is {s : Nat} (hs : s ≤ 4) : (rSo s = 1 ↔ s = 0) ∧ (rSo s = 2 ↔ s = 1) ∧ (rSo s = 3 ↔ s = 2) ∧ (rSo s = 4 ↔ s = 3) := by
  have h : ∀ s, s ≤ 4 → ((rSo s = 1 ↔ s = 0) ∧ (rSo s = 2 ↔ s = 1) ∧ (rSo s = 3 ↔ s = 2) ∧ (rSo s = 4 ↔ s = 3)) := by decide
  exact h s hs
theorem RT.t (T : RT σ M L b p) : hT σ M = 11 := T.1.1
theorem RT.so (T : RT σ M L b p) : gI 11 9 M σ = some (rSo (tkS b L p)) := by rw [gI_k T.t, T.2.2.2.1]
theorem RT.n5 (T : RT σ M L b p) : ¬ hI σ M 9 = 5 := by rw [T.2.2.2.1]; exact rSo_5
theorem isw_r (T : RT σ M L b p) {i : Nat} (hi : i < 34) : f_X10_isWord M i σ = some (b2i (isW b L p (sW i)), σ) := by
  have h8 := (chr_h i hi).1
  unfold f_X10_isWord f_X10_isWord_0 f_X10_isWord_24 f_X10_isWord_25 isW
  rw [if_pos T.t, T.so, osb]
  have hS := (rSo_is (tkS_4 (b := b) (L := L) (p := p))).2.1
  by_cases h : tkS b L p = 1
  · obtain ⟨w1, w2, w3⟩ := tkS_w h
    have hE := tkE_L w1 w2
    rw [if_pos (hS.mpr h), gL_k T.t, osb, T.2.2.2.2.2.1 h, pkd_r hi, osb]
    dsimp only
    have he := wd_eq (b := b) (c := fun k => (sW i).getD k 0) (r := tkE b L p - p) (p := p) (s := (sW i).length) (fun k hk => sk_all (q := isL) (r := L - p) (p := p) (by omega) (by rw [← hE]; omega)) (fun k hk => sW_L i hi k (by omega) hk) w3 h8
    rw [decide_eq_true h, Bool.true_and]
    by_cases hl : tkE b L p - p = (sW i).length
    · rw [decide_eq_true hl, Bool.true_and]
      by_cases ha : ∀ k, k < (sW i).length → b (p + k) = (sW i).getD k 0
      · rw [if_pos ((cmpE _ _).mpr (he.mpr ⟨hl, fun k hk => ha k (by omega)⟩)), if_pos (by decide), allN_iff.mpr (fun k hk => decide_eq_true (ha k hk))]
        rfl
      · rw [if_neg (fun q => ha (fun k hk => (he.mp ((cmpE _ _).mp q)).2 k (by omega))), if_pos (by decide)]
        have : allN (fun k => decide (b (p + k) = (sW i).getD k 0)) (sW i).length = false := by
          cases hq : allN (fun k => decide (b (p + k) = (sW i).getD k 0)) (sW i).length with
          | false => rfl
          | true => exact absurd (fun k hk => of_decide_eq_true (allN_iff.mp hq k hk)) ha
        rw [this]
        rfl
    · rw [if_neg (fun q => hl (he.mp ((cmpE _ _).mp q)).1), if_pos (by decide), decide_eq_false hl]
      rfl
  · rw [if_neg (fun q => h (hS.mp q)), if_pos (by decide), decide_eq_false h]
    rfl
/-- what the reading of a token may change -/
def FrV (M : Nat) (σ τ : St) : Prop := hT τ = hT σ ∧ hN τ = hN σ ∧ hP τ = hP σ ∧ hZ τ = hZ σ ∧ (∀ r, r ≠ M → hI τ r = hI σ r ∧ hL τ r = hL σ r) ∧ ∀ q, (q < 8 ∨ 13 < q) → hI τ M q = hI σ M q
theorem FrV.refl : FrV M σ σ := ⟨rfl, rfl, rfl, rfl, fun _ _ => ⟨rfl, rfl⟩, fun _ _ => rfl⟩
theorem FrV.trans (h : FrV M σ τ) (g : FrV M τ υ) : FrV M σ υ := ⟨g.1.trans h.1, g.2.1.trans h.2.1, g.2.2.1.trans h.2.2.1, g.2.2.2.1.trans h.2.2.2.1, fun r hr => ⟨(g.2.2.2.2.1 r hr).1.trans (h.2.2.2.2.1 r hr).1, (g.2.2.2.2.1 r hr).2.trans (h.2.2.2.2.1 r hr).2⟩, fun q hq => (g.2.2.2.2.2 q hq).trans (h.2.2.2.2.2 q hq)⟩
theorem FrV.sI {j : Nat} {v : Int32} (h : 8 ≤ j) (h2 : j ≤ 13) : FrV M σ (sI σ M j v) := ⟨rfl, rfl, rfl, rfl, fun r hr => ⟨hI_sIr hr, rfl⟩, fun q hq => hI_sIn (Or.inr (by omega))⟩
theorem FrZ.v (h : FrZ M σ τ) : FrV M σ τ := ⟨h.1, h.2.1, h.2.2.1, h.2.2.2.1, h.2.2.2.2.1, fun q hq => h.2.2.2.2.2 q (by omega)⟩
/-- the fault is told and it is over; or else -/
def OutQ {α : Type} (τ : St) (M : Nat) (R : Flt ⊕ α) (Q : α → Prop) : Prop := match R with
  | .inl e => hT τ M = 11 ∧ hI τ M 9 = 5 ∧ hI τ M 12 = e.1 ∧ hI τ M 13 = nI e.2
  | .inr v => Q v
/-- at the token p, with no fault -/
def RG (σ : St) (M L : Nat) (b : Nat → Int32) (p : Nat) : Prop := RT σ M L b p ∧ hI σ M 12 = 0
def Ovr (σ : St) (M : Nat) : Prop := hT σ M = 11 ∧ hI σ M 9 = 5
theorem Ovr.g (h : Ovr σ M) : gI 11 9 M σ = some 5 := by rw [gI_k h.1, h.2]
theorem go_o (h : Ovr σ M) : f_X10_goesOn M σ = some σ := by
  unfold f_X10_goesOn f_X10_goesOn_0
  rw [if_pos h.1, h.g, osb, if_pos rfl]
theorem fl_o (h : Ovr σ M) (w : Int32) : f_X10_flaw M w σ = some σ := by
  unfold f_X10_flaw f_X10_flaw_0
  rw [if_pos h.1, h.g, osb, if_pos rfl]
theorem iw_o (h : Ovr σ M) (i : Nat) : f_X10_isWord M i σ = some (0, σ) := by
  unfold f_X10_isWord f_X10_isWord_0 f_X10_isWord_24 f_X10_isWord_25
  rw [if_pos h.1, h.g, osb, if_neg (by decide), if_pos (by decide)]
theorem es_o (h : Ovr σ M) : f_X10_eatsSemicolon M σ = some (0, σ) := by
  unfold f_X10_eatsSemicolon f_X10_eatsSemicolon_0 f_X10_eatsSemicolon_13 f_X10_eatsSemicolon_22
  rw [if_pos h.1, h.g, osb, if_neg (by decide), if_pos rfl, if_pos (by decide)]
theorem nd_o (h : Ovr σ M) (i : Nat) : f_X10_needs M i σ = some σ := by
  unfold f_X10_needs f_X10_needs_0 f_X10_needs_13
  rw [if_pos h.1, iw_o h, osb]
  dsimp only
  rw [if_pos rfl, fl_o h, osb, go_o h, osb]
theorem wa_o (h : Ovr σ M) (lo hi : Int32) : f_X10_wholeAt M lo hi σ = some (lo, σ) := by
  unfold f_X10_wholeAt f_X10_wholeAt_0 f_X10_wholeAt_33 f_X10_wholeAt_49
  rw [if_pos h.1, h.g, osb, if_neg (by decide), fl_o h, osb, h.g, osb, if_pos rfl]
theorem rw_o (h : Ovr σ M) (lo hi : Int32) : f_X10_readWhole M lo hi σ = some (lo, σ) := by
  unfold f_X10_readWhole f_X10_readWhole_0
  rw [if_pos h.1, wa_o h, osb]
  dsimp only
  rw [go_o h, osb]
theorem rp_o (h : Ovr σ M) (i : Nat) (lo hi : Int32) : f_X10_readPart M i lo hi σ = some (lo, σ) := by
  unfold f_X10_readPart f_X10_readPart_0
  rw [if_pos h.1, nd_o h, osb, rw_o h, osb]
theorem rr_o (h : Ovr σ M) : f_X10_readRegister M σ = some (0, σ) := by
  unfold f_X10_readRegister f_X10_readRegister_0
  rw [if_pos h.1, rw_o h, osb]
/-- a fault is told -/
theorem fl_r (T : RT σ M L b p) (w : Int32) : ∃ τ, f_X10_flaw M w σ = some τ ∧ FrV M σ τ ∧ Ovr τ M ∧ hI τ M 12 = w ∧ hI τ M 13 = nI p := by
  have h0 := T.t
  unfold f_X10_flaw f_X10_flaw_0
  rw [if_pos h0, T.so, osb, if_neg rSo_5, pI_k h0, osb, gI_k (σ := sI σ M 12 w) h0, osb, hI_sIn (Or.inr (by omega)), T.2.2.1, pI_k (σ := sI σ M 12 w) h0, osb, pI_k (σ := sI (sI σ M 12 w) M 13 (nI p)) h0, osb]
  refine ⟨_, rfl, ((FrV.sI (by omega) (by omega)).trans (FrV.sI (by omega) (by omega))).trans (FrV.sI (by omega) (by omega)), ⟨h0, hI_sIe⟩, ?_, ?_⟩
  · rw [hI_sIn (Or.inr (by omega)), hI_sIn (Or.inr (by omega)), hI_sIe]
  · rw [hI_sIn (Or.inr (by omega)), hI_sIe]
theorem gon_r (T : RT σ M L b p) (h : tkS b L p ≠ 4) : ∃ τ, f_X10_goesOn M σ = some τ ∧ FrZ M σ τ ∧ RT τ M L b (nxP b L p) :=
  gon_q T.1 (tk_b T.2.1).2.1 (T.2.2.2.2.1 h) T.n5
theorem gon_g (T : RG σ M L b p) (h : tkS b L p ≠ 4) : ∃ τ, f_X10_goesOn M σ = some τ ∧ FrV M σ τ ∧ RG τ M L b (nxP b L p) := by
  obtain ⟨τ, t1, t2, t3⟩ := gon_r T.1 h
  exact ⟨τ, t1, t2.v, t3, by rw [t2.2.2.2.2.2 12 (by omega)]; exact T.2⟩
theorem adP_n {b : Nat → Int32} {L p : Nat} (h : tkS b L p = 1 ∨ tkS b L p = 2 ∨ tkS b L p = 3) : adP b L p = nxP b L p := by unfold adP; rw [if_neg (by omega)]
theorem isW_1 {b : Nat → Int32} {L p : Nat} {w : List Int32} (h : isW b L p w = true) : tkS b L p = 1 := by
  unfold isW at h
  rw [Bool.and_eq_true] at h
  exact of_decide_eq_true h.1
theorem nd_r (T : RG σ M L b p) {i : Nat} (hi : i < 34) : ∃ τ, f_X10_needs M i σ = some τ ∧ FrV M σ τ ∧ OutQ τ M (pWord b L (sW i) p) (fun p' => RG τ M L b p') := by
  unfold f_X10_needs f_X10_needs_0 f_X10_needs_13 pWord
  rw [if_pos T.1.t, isw_r T.1 hi, osb]
  dsimp only
  cases hw : isW b L p (sW i) with
  | false =>
    obtain ⟨τ, t1, t2, t3, t4, t5⟩ := fl_r T.1 1
    rw [if_pos (by decide), t1, osb, go_o t3, osb, if_neg (show ¬ (false = true) by decide)]
    exact ⟨τ, rfl, t2, t3.1, t3.2, t4, t5⟩
  | true =>
    have h1 := isW_1 hw
    obtain ⟨τ, t1, t2, t3⟩ := gon_g T (by omega)
    rw [if_neg (by decide), t1, osb, if_pos rfl, adP_n (Or.inl h1)]
    exact ⟨τ, rfl, t2, t3⟩
theorem wa_r (T : RG σ M L b p) (lo hi : Int32) : ∃ v τ, f_X10_wholeAt M lo hi σ = some (v, τ) ∧ FrV M σ τ ∧ OutQ τ M (pWhole b L lo hi p) (fun q => v = q.1 ∧ τ = σ ∧ tkS b L p = 2 ∧ q.2 = nxP b L p) := by
  have hS := (rSo_is (tkS_4 (b := b) (L := L) (p := p))).2.2.1
  unfold f_X10_wholeAt f_X10_wholeAt_0 f_X10_wholeAt_33 f_X10_wholeAt_49 pWhole
  rw [if_pos T.1.t, T.1.so, osb]
  by_cases h : tkS b L p = 2
  · rw [if_pos (hS.mpr h), gI_k T.1.t, osb, T.1.2.2.2.2.2.2 h, in_k, osb, if_pos h]
    dsimp only
    by_cases hb : vaE b L p < lo ∨ hi < vaE b L p
    · obtain ⟨τ, t1, t2, t3, t4, t5⟩ := fl_r T.1 4
      rw [decide_eq_true hb, if_pos (by decide), t1, osb, t3.g, osb, if_pos rfl, if_pos hb]
      exact ⟨lo, τ, rfl, t2, t3.1, t3.2, t4, t5⟩
    · rw [decide_eq_false hb, if_neg (by decide), T.1.so, osb, if_neg rSo_5, gI_k T.1.t, osb, T.1.2.2.2.2.2.2 h, if_neg hb, adP_n (by omega)]
      exact ⟨_, σ, rfl, FrV.refl, rfl, rfl, h, rfl⟩
  · obtain ⟨τ, t1, t2, t3, t4, t5⟩ := fl_r T.1 1
    rw [if_neg (fun q => h (hS.mp q)), t1, osb, t3.g, osb, if_pos rfl, if_neg h]
    exact ⟨lo, τ, rfl, t2, t3.1, t3.2, t4, t5⟩
theorem rw_r (T : RG σ M L b p) (lo hi : Int32) : ∃ v τ, f_X10_readWhole M lo hi σ = some (v, τ) ∧ FrV M σ τ ∧ OutQ τ M (pWhole b L lo hi p) (fun q => v = q.1 ∧ RG τ M L b q.2) := by
  obtain ⟨v, τ, t1, t2, t3⟩ := wa_r T lo hi
  unfold f_X10_readWhole f_X10_readWhole_0
  rw [if_pos T.1.t, t1, osb]
  dsimp only
  cases hp : pWhole b L lo hi p with
  | inl e =>
    rw [hp] at t3
    rw [go_o ⟨t3.1, t3.2.1⟩, osb]
    exact ⟨v, τ, rfl, t2, t3⟩
  | inr q =>
    rw [hp] at t3
    obtain ⟨rfl, rfl, h2, hq⟩ := t3
    obtain ⟨υ, u1, u2, u3⟩ := gon_g T (by omega)
    rw [u1, osb]
    exact ⟨_, υ, rfl, u2, rfl, by rw [hq]; exact u3⟩
end Wrd
