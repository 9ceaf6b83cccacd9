/-! THE CLASS's Reader: words and wholes -/
abbrev Flt : Type := Int32 × Nat
def adP (b : Nat → Int32) (L p : Nat) : Nat := if tkS b L p = 0 ∨ tkS b L p = 4 then p else nxP b L p
def isW (b : Nat → Int32) (L p : Nat) (w : List Int32) : Bool := decide (tkS b L p = 1) && (decide (tkE b L p - p = w.length) && allN (fun k => decide (b (p + k) = w.getD k 0)) w.length)
def whN (b : Nat → Int32) : Nat → Nat → Int32 → Int32
  | 0, _, v => v
  | r + 1, p, v => whN b r (p + 1) (v * 10 + (b p - 48))
def vaE (b : Nat → Int32) (L p : Nat) : Int32 := whN b (tkE b L p - p) p 0
def pWord (b : Nat → Int32) (L : Nat) (w : List Int32) (p : Nat) : Flt ⊕ Nat := if isW b L p w = true then .inr (adP b L p) else .inl (1, p)
def pWhole (b : Nat → Int32) (L : Nat) (lo hi : Int32) (p : Nat) : Flt ⊕ (Int32 × Nat) := if tkS b L p = 2 then (if vaE b L p < lo ∨ hi < vaE b L p then .inl (4, p) else .inr (vaE b L p, adP b L p)) else .inl (1, p)
def okS {α : Type} (R : Flt ⊕ α) : Bool := match R with
  | .inl _ => false
  | .inr _ => true
/-- a fault is told at Y; or else -/
def OutR {α : Type} (τ : St) (Y : Nat) (R : Flt ⊕ α) (Q : α → Prop) : Prop := match R with
  | .inl e => hI τ Y 0 = e.1 ∧ hI τ Y 1 = nI e.2
  | .inr v => Q v
def sW (i : Nat) : List Int32 := strs.getD i []
section Rdr
variable {σ τ υ : St} {Y T X d L n p : Nat} {b : Nat → Int32}
/-- the Reader at Y is at the token that begins at p -/
def Rd (σ : St) (Y T X d L : Nat) (b : Nat → Int32) (n p : Nat) : Prop := (hT σ Y = 7 ∧ hP σ Y 2 = some T ∧ hP σ Y 3 = some X ∧ hP σ Y 7 = some d) ∧ Txt σ T L b ∧ TkA σ X L b n ∧ ∃ k, k ≤ n ∧ hI σ Y 4 = nI k ∧ tkP b L k = p ∧ hI σ Y 0 = 0
def YY (Y T X d : Nat) : Prop := T < Y ∧ Y < X ∧ d + 10 < Y ∧ T < d
theorem Rd.fr {S : Nat → Prop} (R : Rd σ Y T X d L b n p) (F : Fr S σ τ) (hT : ¬ S T) (hX : ∀ r, X ≤ r → r ≤ X + 3 → ¬ S r) (h4 : hI τ Y 4 = hI σ Y 4) (h0 : hI τ Y 0 = hI σ Y 0) : Rd τ Y T X d L b n p := by
  obtain ⟨⟨a1, a2, a3, a4⟩, H, ⟨t1, t2, t3, t4, t5, t6⟩, k, k1, k2, k3, k0⟩ := R
  have e : ∀ r, X ≤ r → r ≤ X + 3 → hI τ r = hI σ r := fun r h1 h2 => F.2.2.2.2.2 r (hX r h1 h2)
  exact ⟨⟨by rw [F.1]; exact a1, by rw [F.2.2.1]; exact a2, by rw [F.2.2.1]; exact a3, by rw [F.2.2.1]; exact a4⟩, H.fr F hT, ⟨t1.fr F, by rw [e X (by omega) (by omega)]; exact t2, t3, fun j hj => (t4 j hj).of (by rw [e _ (by omega) (by omega)]) (by rw [e _ (by omega) (by omega)]) (by rw [e _ (by omega) (by omega)]), t5, t6⟩, k, k1, by rw [h4]; exact k2, k3, by rw [h0]; exact k0⟩
theorem Rd.at (R : Rd σ Y T X d L b n p) : ∃ k, k ≤ n ∧ k ≤ 900 ∧ tkP b L k = p ∧ p ≤ L ∧ L ≤ 900 ∧ gI 7 4 Y σ = some (nI k) ∧ gR 7 3 Y σ = some X ∧ gR 7 2 Y σ = some T ∧ gR 7 7 Y σ = some d ∧ gR 8 0 X σ = some (X + 1) ∧ gR 8 1 X σ = some (X + 2) ∧ gR 8 2 X σ = some (X + 3) ∧ gI 8 3 X σ = some (nI n) ∧ aI 22 (X + 1) (nI k) σ = some (nI (tkS b L p)) ∧ aI 22 (X + 2) (nI k) σ = some (nI p) ∧ aI 22 (X + 3) (nI k) σ = some (nI (tkE b L p)) := by
  obtain ⟨⟨a1, a2, a3, a4⟩, H, ⟨t1, t2, t3, t4, t5, t6⟩, k, k1, k2, k3, -⟩ := R
  obtain ⟨q1, q2, q3⟩ := t4 k k1
  rw [k3] at q1 q2 q3
  exact ⟨k, k1, by omega, k3, by rw [← k3]; exact tkP_le, H.2.2.1, by rw [gI_k a1, k2], gR_k a1 a3, gR_k a1 a2, gR_k a1 a4, t1.2.1.r t1.1, t1.2.2.1.r t1.1, t1.2.2.2.r t1.1, by rw [gI_k t1.1, t2], by rw [t1.2.1.g (show k < 901 by omega) (by omega), q1], by rw [t1.2.2.1.g (show k < 901 by omega) (by omega), q2], by rw [t1.2.2.2.g (show k < 901 by omega) (by omega), q3]⟩
theorem Rd.y0 (R : Rd σ Y T X d L b n p) (H : YY Y T X d) {j : Nat} (hj : j ≠ 4 ∧ j ≠ 0) (v : Int32) : Rd (sI σ Y j v) Y T X d L b n p := R.fr (S := fun r => r = Y) (Fr.s0 rfl) (fun h => by have := H.1; omega) (fun r h1 h2 h => by have := H.2.1; omega) (hI_sIn (Or.inr (by omega))) (hI_sIn (Or.inr (by omega)))
theorem Rd.t (R : Rd σ Y T X d L b n p) : hT σ Y = 7 := R.1.1
theorem adv_c (R : Rd σ Y T X d L b n p) (H : YY Y T X d) : ∃ τ, f_X6_advance Y σ = some τ ∧ Fr (fun r => r = Y) σ τ ∧ Rd τ Y T X d L b n (adP b L p) ∧ ∀ q, q ≠ 4 → hI τ Y q = hI σ Y q := by
  obtain ⟨k, k1, k2, k3, k4, k5, g4, g3, g2, g7, x0, x1, x2, x3, s1, s2, s3⟩ := R.at
  have TA := R.2.2.1
  unfold f_X6_advance f_X6_advance_0 f_X6_advance_24
  rw [if_pos R.t, g4, osb, g3, osb, x3, osb]
  by_cases h : k = n
  · rw [if_pos (nI_le (by omega) (by omega))]
    have hl : tkS b L p = 0 ∨ tkS b L p = 4 := by rw [← k3, h]; exact TA.2.2.2.2.1
    refine ⟨σ, rfl, Fr.refl, ?_, fun _ _ => rfl⟩
    unfold adP
    rw [if_pos hl]
    exact R
  · have hnl : ¬ (tkS b L p = 0 ∨ tkS b L p = 4) := by rw [← k3]; exact TA.2.2.2.2.2 k (by omega)
    have h9 := TA.2.2.1
    rw [if_neg (nI_ge (by omega) (by omega)), osb, nI_1, pI_k R.t, osb]
    have F : Fr (fun r => r = Y) σ (sI σ Y 4 (nI (k + 1))) := Fr.s0 rfl
    refine ⟨_, rfl, F, ?_, fun q hq => hI_sIn (Or.inr hq)⟩
    obtain ⟨⟨a1, a2, a3, a4⟩, Hx, ⟨t1, t2, t3, t4, t5, t6⟩, _, -, -, -, k00⟩ := R
    have e : ∀ r, r ≠ Y → hI (sI σ Y 4 (nI (k + 1))) r = hI σ r := fun r hr => hI_sIr hr
    unfold adP
    rw [if_neg hnl]
    have hY := H.1
    have hX := H.2.1
    exact ⟨⟨a1, a2, a3, a4⟩, Hx.fr F (by omega), ⟨t1.fr F, by rw [e X (by omega)]; exact t2, t3, fun j hj => (t4 j hj).of (by rw [e _ (by omega)]) (by rw [e _ (by omega)]) (by rw [e _ (by omega)]), t5, t6⟩, k + 1, by omega, hI_sIe, by rw [← k3]; rfl, by rw [hI_sIn (Or.inr (by omega))]; exact k00⟩
theorem fails_c (R : Rd σ Y T X d L b n p) (H : YY Y T X d) (f : Int32) : f_X6_fails Y f σ = some (0, sI (sI σ Y 0 f) Y 1 (nI p)) := by
  have hX := H.2.1
  have a3 := R.1.2.2.1
  have t1 := R.2.2.1.1
  obtain ⟨k, k1, k2, k3, -⟩ := R.2.2.2
  have h9 := R.2.2.1.2.2.1
  have q2 := (R.2.2.1.2.2.2.1 k k1).2.1
  rw [k3] at q2
  unfold f_X6_fails f_X6_fails_0
  rw [if_pos R.t, pI_k R.t, osb, gR_k (σ := sI σ Y 0 f) R.t a3, osb, gR_k (σ := sI σ Y 0 f) t1.1 t1.2.2.1.1, osb, gI_k (σ := sI σ Y 0 f) R.t, osb, hI_sIn (Or.inr (by omega)), k2, aI_k (σ := sI σ Y 0 f) t1.2.2.1.2.1 t1.2.2.1.2.2 (show k < 901 by omega) (by omega), osb, hI_sIn (Or.inl (by omega)), q2, pI_k (σ := sI σ Y 0 f) R.t, osb]
theorem fail_out {α : Type} {f : Int32} {q : Nat} {Q : α → Prop} : OutR (sI (sI σ Y 0 f) Y 1 (nI q)) Y (.inl (f, q)) Q := ⟨by rw [hI_sIn (Or.inr (by omega)), hI_sIe], hI_sIe⟩
theorem fail_fr {f : Int32} {q : Nat} : Fr (fun r => r = Y) σ (sI (sI σ Y 0 f) Y 1 (nI q)) := Fr.st (Fr.s0 rfl) rfl
theorem len_k {i : Nat} (hi : i < 34) : f_J0_length_8abf5 i σ = some (nI (sW i).length, σ) := by
  have h : ∀ i, i < 34 → (sBlen i = some (nI (sW i).length) ∧ jshr (nI (sW i).length) 0 = nI (sW i).length) := by decide +kernel
  unfold f_J0_length_8abf5 f_J0_length_8abf5_0 f_J0_coder_7d493 f_J0_coder_7d493_0 f_J0_coder_7d493_14
  rw [if_pos (show i < nStr from hi), (h i hi).1, osb, if_pos (show i < nStr from hi), if_neg (by decide), if_pos (by decide), osb]
  dsimp only
  rw [(h i hi).2]
theorem chr_h : ∀ i, i < 34 → ((sW i).length ≤ 8 ∧ ∀ j, j < 8 → j < (sW i).length → (sByte i (nI j) = some ((sW i).getD j 0) ∧ jc ((sW i).getD j 0 &&& 255) = (sW i).getD j 0 ∧ jc ((sW i).getD j 0) = (sW i).getD j 0)) := by decide +kernel
theorem chr_k {i j : Nat} (hi : i < 34) (hj : j < (sW i).length) : f_J0_charAt_5068e i (nI j) σ = some ((sW i).getD j 0, σ) := by
  obtain ⟨h8, hc⟩ := chr_h i hi
  obtain ⟨c1, c2, c3⟩ := hc j (by omega) hj
  have hb : sBlen i = some (nI (sW i).length) := if_pos (show i < nStr from hi)
  unfold f_J0_charAt_5068e f_J0_charAt_5068e_0 f_J0_isLatin1_aae02 f_J0_isLatin1_aae02_0 f_J0_isLatin1_aae02_18 f_J1_charAt_3b067 f_J1_charAt_3b067_0 f_J0_checkIndex_df160 f_J3_checkIndex_8e157 f_J3_checkIndex_8e157_0
  rw [if_pos (show i < nStr from hi), if_pos (show i < nStr from hi), if_neg (show ¬ (1 : Int32) = 0 by decide), if_pos (show (0 : Int32) = 0 from rfl), if_pos (show (1 : Int32) = 0 ∨ (1 : Int32) = 1 from Or.inr rfl), osb]
  dsimp only
  rw [if_neg (show ¬ (1 : Int32) = 0 by decide), hb, osb, if_neg (nI_pos (by omega)), if_pos (nI_lt hj (by omega)), osb, osb, c1, osb, osb]
  dsimp only
  rw [c2, if_pos c3]
theorem isw_l (R : Rd σ Y T X d L b n p) {i : Nat} (hi : i < 34) (hlen : p + (sW i).length ≤ L) : ∀ (q j fu : Nat), j + q = (sW i).length → q < fu → allN (fun k => decide (b (p + k) = (sW i).getD k 0)) j = true → f_X6_isWord_54 fu Y i (nI p) (nI j) σ = some (b2i (allN (fun k => decide (b (p + k) = (sW i).getD k 0)) (sW i).length), σ)
  | 0, j, fu, hj, hf, ha => by
    obtain ⟨f, rfl⟩ : ∃ f, fu = f + 1 := ⟨fu - 1, by omega⟩
    have h8 := (chr_h i hi).1
    rw [e_X6_isWord_54, len_k hi, osb]
    dsimp only
    rw [if_pos (nI_le (by omega) (by omega)), show (sW i).length = j by omega, ha]
    rfl
  | q + 1, j, fu, hj, hf, ha => by
    obtain ⟨f, rfl⟩ : ∃ f, fu = f + 1 := ⟨fu - 1, by omega⟩
    have h8 := (chr_h i hi).1
    obtain ⟨k, k1, k2, k3, k4, k5, g4, g3, g2, g7, x0, x1, x2, x3, s1, s2, s3⟩ := R.at
    rw [e_X6_isWord_54, len_k hi, osb]
    dsimp only
    rw [if_neg (nI_ge (by omega) (by omega)), g2, osb, nI_add, R.2.1.g (show p + j < 900 by omega), osb, chr_k hi (by omega), osb]
    dsimp only
    by_cases h : b (p + j) = (sW i).getD j 0
    · rw [if_pos h, nI_1]
      exact isw_l R hi hlen q (j + 1) f (by omega) (by omega) (by show (allN _ j && decide _) = true; rw [ha, decide_eq_true h]; rfl)
    · rw [if_neg h, allN_f (i := j) (by omega) (decide_eq_false h)]
      rfl
theorem isw_c (R : Rd σ Y T X d L b n p) {i : Nat} (hi : i < 34) : f_X6_isWord Y i σ = some (b2i (isW b L p (sW i)), σ) := by
  obtain ⟨k, k1, k2, k3, k4, k5, g4, g3, g2, g7, x0, x1, x2, x3, s1, s2, s3⟩ := R.at
  have h8 := (chr_h i hi).1
  have h4 := tkS_4 (b := b) (L := L) (p := p)
  have hE := tk_b (b := b) k4
  unfold f_X6_isWord f_X6_isWord_0 f_X6_isWord_50 isW
  simp only [R.t, g3, x1, g4, s2, x0, s1, osb, if_true]
  by_cases hs : tkS b L p = 1
  · rw [if_pos (by rw [hs]; rfl), decide_eq_true hs, Bool.true_and, x2, osb, s3, osb, len_k hi, osb]
    dsimp only
    rw [pk_sub hE.1]
    by_cases hl : tkE b L p - p = (sW i).length
    · rw [if_pos (by rw [hl]), decide_eq_true hl, Bool.true_and]
      have := isw_l R hi (by omega) (sW i).length 0 FU (by omega) (by unfold FU; omega) rfl
      rw [nI_0] at this
      exact this
    · rw [if_neg (fun e => hl ((nI_eq (by omega) (by omega)).mp e)), decide_eq_false hl, Bool.false_and]
      rfl
  · rw [if_neg (show ¬ nI (tkS b L p) = 1 from fun e => hs ((nI_eq (b := 1) (by omega) (by omega)).mp e)), decide_eq_false hs, Bool.false_and]
    rfl
theorem tw_c (R : Rd σ Y T X d L b n p) (H : YY Y T X d) {i : Nat} (hi : i < 34) : ∃ τ, f_X6_takesWord Y i σ = some (b2i (okS (pWord b L (sW i) p)), τ) ∧ Fr (fun r => r = Y) σ τ ∧ OutR τ Y (pWord b L (sW i) p) (fun p' => Rd τ Y T X d L b n p') := by
  unfold f_X6_takesWord f_X6_takesWord_0 pWord
  rw [if_pos R.t, isw_c R hi, osb]
  dsimp only
  cases hw : isW b L p (sW i) with
  | false =>
    rw [if_pos (by decide), fails_c R H, osb, if_pos (Or.inl rfl), if_neg (show ¬ (false = true) by decide)]
    exact ⟨_, rfl, fail_fr, fail_out⟩
  | true =>
    obtain ⟨τ, t1, t2, t3, t4⟩ := adv_c R H
    rw [if_neg (by decide), t1, osb, if_pos rfl]
    exact ⟨τ, rfl, t2, t3⟩
theorem wh_l (R : Rd σ Y T X d L b n p) : ∀ (r q fu : Nat) (v : Int32), q + r = tkE b L p → r < fu → f_X6_wholeHere_15 fu Y v (nI q) σ = some (whN b r q v, σ)
  | 0, q, fu, v, hq, hf => by
    obtain ⟨f, rfl⟩ : ∃ f, fu = f + 1 := ⟨fu - 1, by omega⟩
    obtain ⟨k, k1, k2, k3, k4, k5, g4, g3, g2, g7, x0, x1, x2, x3, s1, s2, s3⟩ := R.at
    have hE := tk_b (b := b) k4
    rw [e_X6_wholeHere_15, g3, osb, x2, osb, g4, osb, s3, osb, if_pos (nI_le (by omega) (by omega))]
    rfl
  | r + 1, q, fu, v, hq, hf => by
    obtain ⟨f, rfl⟩ : ∃ f, fu = f + 1 := ⟨fu - 1, by omega⟩
    obtain ⟨k, k1, k2, k3, k4, k5, g4, g3, g2, g7, x0, x1, x2, x3, s1, s2, s3⟩ := R.at
    have hE := tk_b (b := b) k4
    rw [e_X6_wholeHere_15, g3, osb, x2, osb, g4, osb, s3, osb, if_neg (nI_ge (by omega) (by omega)), g2, osb, R.2.1.g (show q < 900 by omega), osb, bndu, nI_1]
    exact wh_l R r (q + 1) f _ (by omega) (by omega)
theorem wh_c (R : Rd σ Y T X d L b n p) : f_X6_wholeHere Y σ = some (vaE b L p, σ) := by
  obtain ⟨k, k1, k2, k3, k4, k5, g4, g3, g2, g7, x0, x1, x2, x3, s1, s2, s3⟩ := R.at
  have hE := tk_b (b := b) k4
  unfold f_X6_wholeHere f_X6_wholeHere_0 vaE
  rw [if_pos R.t, g3, osb, x1, osb, g4, osb, s2, osb]
  exact wh_l R _ p FU 0 (by omega) (by unfold FU; omega)
theorem tkw_c (R : Rd σ Y T X d L b n p) (H : YY Y T X d) (lo hi : Int32) : ∃ τ, f_X6_takesWhole Y lo hi σ = some (b2i (okS (pWhole b L lo hi p)), τ) ∧ Fr (fun r => r = Y) σ τ ∧ (tkS b L p = 2 → hI τ Y 5 = vaE b L p ∧ hI τ Y 6 = nI p) ∧ OutR τ Y (pWhole b L lo hi p) (fun q => Rd τ Y T X d L b n q.2) := by
  obtain ⟨k, k1, k2, k3, k4, k5, g4, g3, g2, g7, x0, x1, x2, x3, s1, s2, s3⟩ := R.at
  have h4 := tkS_4 (b := b) (L := L) (p := p)
  unfold f_X6_takesWhole f_X6_takesWhole_0 f_X6_takesWhole_62 pWhole
  rw [if_pos R.t, g3, osb, x0, osb, g4, osb, s1, osb]
  by_cases hs : tkS b L p = 2
  · rw [if_pos (show nI (tkS b L p) = 2 by rw [hs]; rfl), wh_c R, osb, if_pos hs]
    dsimp only
    rw [pI_k R.t, osb]
    have R1 := R.y0 H (j := 5) (by omega) (vaE b L p)
    have F1 : Fr (fun r => r = Y) σ (sI σ Y 5 (vaE b L p)) := Fr.s0 rfl
    have v1 : hI (sI σ Y 5 (vaE b L p)) Y 5 = vaE b L p := hI_sIe
    generalize sI σ Y 5 (vaE b L p) = σ1 at R1 F1 v1 ⊢
    obtain ⟨j, j1, j2, j3, j4, j5, m4, m3, m2, m7, y0, y1, y2, y3, r1, r2, r3⟩ := R1.at
    rw [m3, osb, y1, osb, m4, osb, r2, osb, pI_k R1.t, osb]
    have R2 := R1.y0 H (j := 6) (by omega) (nI p)
    have F2 : Fr (fun r => r = Y) σ (sI σ1 Y 6 (nI p)) := Fr.st F1 rfl
    have v2 : hI (sI σ1 Y 6 (nI p)) Y 5 = vaE b L p := by rw [hI_sIn (Or.inr (by omega))]; exact v1
    have v3 : hI (sI σ1 Y 6 (nI p)) Y 6 = nI p := hI_sIe
    generalize sI σ1 Y 6 (nI p) = σ2 at R2 F2 v2 v3 ⊢
    rw [gI_k R2.t, osb, v2]
    have hbad : (vaE b L p < lo ∨ hi < vaE b L p) → ∃ τ, ((f_X6_fails Y 4 σ2).bind fun q1 => if q1.1 = 0 ∨ q1.1 = 1 then some (q1.1, q1.2) else none) = some (b2i (okS (if vaE b L p < lo ∨ hi < vaE b L p then (.inl (4, p) : Flt ⊕ (Int32 × Nat)) else .inr (vaE b L p, adP b L p))), τ) ∧ Fr (fun r => r = Y) σ τ ∧ (tkS b L p = 2 → hI τ Y 5 = vaE b L p ∧ hI τ Y 6 = nI p) ∧ OutR τ Y (if vaE b L p < lo ∨ hi < vaE b L p then (.inl (4, p) : Flt ⊕ (Int32 × Nat)) else .inr (vaE b L p, adP b L p)) (fun q => Rd τ Y T X d L b n q.2) := fun hb => by
      rw [if_pos hb, fails_c R2 H, osb, if_pos (Or.inl rfl)]
      exact ⟨_, rfl, F2.trans fail_fr, fun _ => ⟨by rw [hI_sIn (Or.inr (by omega)), hI_sIn (Or.inr (by omega))]; exact v2, by rw [hI_sIn (Or.inr (by omega)), hI_sIn (Or.inr (by omega))]; exact v3⟩, fail_out⟩
    by_cases h1 : vaE b L p < lo
    · rw [if_pos h1]
      exact hbad (Or.inl h1)
    · rw [if_neg h1, osb]
      by_cases h2 : vaE b L p ≤ hi
      · obtain ⟨τ, t1, t2, t3, t4⟩ := adv_c R2 H
        have hn : ¬ (vaE b L p < lo ∨ hi < vaE b L p) := fun q => q.elim h1 (fun g => Int32.not_lt.mpr h2 g)
        rw [if_pos h2, t1, osb, if_neg hn]
        exact ⟨τ, rfl, F2.trans t2, fun _ => ⟨by rw [t4 5 (by omega)]; exact v2, by rw [t4 6 (by omega)]; exact v3⟩, t3⟩
      · rw [if_neg h2]
        exact hbad (Or.inr (Int32.not_le.mp h2))
  · rw [if_neg (show ¬ nI (tkS b L p) = 2 from fun e => hs ((nI_eq (b := 2) (by omega) (by omega)).mp e)), fails_c R H, osb, if_pos (Or.inl rfl), if_neg hs]
    exact ⟨_, rfl, fail_fr, fun h => absurd h hs, fail_out⟩
end Rdr
