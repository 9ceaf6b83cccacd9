/-! TOKENS: what they are; the class parts a text -/
def isL (v : Int32) : Bool := !decide (v < 97 ∨ 122 < v)
def isDg (v : Int32) : Bool := !decide (v < 48 ∨ 57 < v)
/-- past all that is q, so many at most -/
def skN (q : Int32 → Bool) (b : Nat → Int32) : Nat → Nat → Nat
  | 0, p => p
  | r + 1, p => if q (b p) = true then skN q b r (p + 1) else p
def bkE (b : Nat → Int32) (L p : Nat) : Nat := skN (fun v => decide (v = 32)) b (L - p) p
def runQ (v w : Int32) : Bool := (isL v && isL w) || (isDg v && isDg w)
def tkE (b : Nat → Int32) (L p : Nat) : Nat := if L ≤ p then L else skN (runQ (b p)) b (L - (p + 1)) (p + 1)
/-- 0 the end, 1 a word, 2 a whole, 3 a semicolon, 4 none -/
def tkS (b : Nat → Int32) (L p : Nat) : Nat := if L ≤ p then 0 else if isL (b p) = true then (if tkE b L p - p ≤ 8 then 1 else 4) else if isDg (b p) = true then (if tkE b L p - p ≤ 4 then 2 else 4) else if b p = 59 then 3 else 4
def nxP (b : Nat → Int32) (L p : Nat) : Nat := bkE b L (tkE b L p)
def tkP (b : Nat → Int32) (L : Nat) : Nat → Nat
  | 0 => bkE b L 0
  | k + 1 => nxP b L (tkP b L k)
theorem skN_b {q : Int32 → Bool} {b : Nat → Int32} : ∀ {r p : Nat}, p ≤ skN q b r p ∧ skN q b r p ≤ p + r
  | 0, p => ⟨Nat.le_refl _, Nat.le_refl _⟩
  | r + 1, p => by
    simp only [skN]
    split
    · have := skN_b (q := q) (b := b) (r := r) (p := p + 1); omega
    · omega
theorem bk_b {b : Nat → Int32} {L p : Nat} (h : p ≤ L) : p ≤ bkE b L p ∧ bkE b L p ≤ L := by
  have := skN_b (q := fun v => decide (v = 32)) (b := b) (r := L - p) (p := p)
  unfold bkE; omega
theorem tk_b {b : Nat → Int32} {L p : Nat} (h : p ≤ L) : p ≤ tkE b L p ∧ tkE b L p ≤ L ∧ (p < L → p < tkE b L p) := by
  unfold tkE
  by_cases h2 : L ≤ p
  · rw [if_pos h2]; omega
  · rw [if_neg h2]
    have := skN_b (q := runQ (b p)) (b := b) (r := L - (p + 1)) (p := p + 1)
    omega
theorem nx_b {b : Nat → Int32} {L p : Nat} (h : p ≤ L) : p ≤ nxP b L p ∧ nxP b L p ≤ L ∧ (p < L → p < nxP b L p) := by
  have h1 := tk_b (b := b) h
  have h2 := bk_b (b := b) h1.2.1
  unfold nxP; omega
theorem tkP_le {b : Nat → Int32} {L : Nat} : ∀ {k : Nat}, tkP b L k ≤ L
  | 0 => (bk_b (Nat.zero_le _)).2
  | k + 1 => (nx_b tkP_le).2.1
theorem tkS_4 {b : Nat → Int32} {L p : Nat} : tkS b L p ≤ 4 := by unfold tkS; (repeat' split) <;> omega
theorem tkS_1 {b : Nat → Int32} {L p : Nat} (h : p < L) : 1 ≤ tkS b L p := by unfold tkS; rw [if_neg (by omega)]; (repeat' split) <;> omega
section Tok
variable {σ τ : St} {T X L : Nat} {b : Nat → Int32}
/-- a text of L bytes lies at T -/
def Txt (σ : St) (T L : Nat) (b : Nat → Int32) : Prop := hT σ T = 21 ∧ hN σ T = 900 ∧ L ≤ 900 ∧ ∀ k, k < 900 → hI σ T k = b k
theorem Txt.g (H : Txt σ T L b) {k : Nat} (hk : k < 900) : aI 21 T (nI k) σ = some (b k) := by rw [aI_k H.1 H.2.1 hk (by omega), H.2.2.2 k hk]
theorem Txt.fr {S : Nat → Prop} (H : Txt σ T L b) (F : Fr S σ τ) (h : ¬ S T) : Txt τ T L b := ⟨by rw [F.1]; exact H.1, by rw [F.2.1]; exact H.2.1, H.2.2.1, fun k hk => by rw [F.2.2.2.2.2 T h]; exact H.2.2.2 k hk⟩
theorem isL_c (v : Int32) : f_X7_isLetter v σ = some (b2i (isL v), σ) := by
  unfold f_X7_isLetter f_X7_isLetter_0 f_X7_isLetter_16 f_X7_isLetter_17 isL
  by_cases h1 : v < 97
  · simp [h1, b2i]
  · by_cases h2 : (122 : Int32) < v <;> simp [h1, h2, b2i]
theorem isDg_c (v : Int32) : f_X7_isDigit v σ = some (b2i (isDg v), σ) := by
  unfold f_X7_isDigit f_X7_isDigit_0 f_X7_isDigit_16 f_X7_isDigit_17 isDg
  by_cases h1 : v < 48
  · simp [h1, b2i]
  · by_cases h2 : (57 : Int32) < v <;> simp [h1, h2, b2i]
theorem pbk_l (H : Txt σ T L b) : ∀ (r p fu : Nat), p + r = L → r < fu → f_X7_pastBlanks_2 fu T (nI L) (nI p) σ = some (nI (skN (fun v => decide (v = 32)) b r p), σ)
  | 0, p, fu, hp, hf => by
    obtain ⟨f, rfl⟩ : ∃ f, fu = f + 1 := ⟨fu - 1, by omega⟩
    have h9 := H.2.2.1
    rw [e_X7_pastBlanks_2, if_pos (nI_le (by omega) (by omega))]
    rfl
  | r + 1, p, fu, hp, hf => by
    obtain ⟨f, rfl⟩ : ∃ f, fu = f + 1 := ⟨fu - 1, by omega⟩
    have h9 := H.2.2.1
    rw [e_X7_pastBlanks_2, if_neg (nI_ge (by omega) (by omega)), H.g (by omega), osb]
    unfold f_X7_pastBlanks_21
    simp only [skN]
    by_cases h : b p = 32
    · rw [if_pos h, nI_1, pbk_l H r (p + 1) f (by omega) (by omega), if_pos (decide_eq_true h)]
    · rw [if_neg h, if_neg (by rw [decide_eq_false h]; decide)]
theorem pbk_c (H : Txt σ T L b) {p : Nat} (hp : p ≤ L) : f_X7_pastBlanks T (nI p) (nI L) σ = some (nI (bkE b L p), σ) := by
  have h9 := H.2.2.1
  unfold f_X7_pastBlanks f_X7_pastBlanks_0 bkE
  exact pbk_l H (L - p) p FU (by omega) (by unfold FU; omega)
theorem run_l (H : Txt σ T L b) (u : Int32) : ∀ (r p fu : Nat), p + r = L → r < fu → f_X7_runEnd_20 fu T (nI L) (b2i (isL u)) (b2i (isDg u)) (nI p) σ = some (nI (skN (runQ u) b r p), σ)
  | 0, p, fu, hp, hf => by
    obtain ⟨f, rfl⟩ : ∃ f, fu = f + 1 := ⟨fu - 1, by omega⟩
    have h9 := H.2.2.1
    rw [e_X7_runEnd_20, if_pos (nI_le (by omega) (by omega))]
    rfl
  | r + 1, p, fu, hp, hf => by
    obtain ⟨f, rfl⟩ : ∃ f, fu = f + 1 := ⟨fu - 1, by omega⟩
    have h9 := H.2.2.1
    have ih := run_l H u r (p + 1) f (by omega) (by omega)
    rw [e_X7_runEnd_20, if_neg (nI_ge (by omega) (by omega))]
    simp only [skN]
    have h55 : f_X7_runEnd_55 (f_X7_runEnd_20 f) T (nI L) (b2i (isL u)) (b2i (isDg u)) (nI p) σ = some (nI (skN (runQ u) b r (p + 1)), σ) := by
      unfold f_X7_runEnd_55
      rw [nI_1]; exact ih
    have h40 : (isL u && isL (b p)) = false → f_X7_runEnd_40 (f_X7_runEnd_20 f) T (nI L) (b2i (isL u)) (b2i (isDg u)) (nI p) σ = some (nI (if runQ u (b p) = true then skN (runQ u) b r (p + 1) else p), σ) := fun hl => by
      have hq : runQ u (b p) = (isDg u && isDg (b p)) := by unfold runQ; rw [hl, Bool.false_or]
      unfold f_X7_runEnd_40 f_X7_runEnd_61
      rw [hq]
      cases hd : isDg u with
      | false => rw [if_pos (by decide), Bool.false_and, if_neg (by decide)]
      | true =>
        rw [if_neg (by decide), H.g (by omega), osb, isDg_c, osb, Bool.true_and]
        dsimp only
        cases hb : isDg (b p) with
        | false => rw [if_pos (by decide), if_neg (by decide)]
        | true =>
          rw [if_neg (show ¬ b2i true = 0 by decide), if_pos (show true = true from rfl)]
          have := h55
          rw [hd] at this
          exact this
    cases hl : isL u with
    | false =>
      rw [if_pos (by decide)]
      have := h40 (by rw [hl]; rfl)
      rw [hl] at this
      exact this
    | true =>
      rw [if_neg (by decide), H.g (by omega), osb, isL_c, osb]
      dsimp only
      cases hb : isL (b p) with
      | false =>
        rw [if_pos (by decide)]
        have := h40 (by rw [hb, Bool.and_false])
        rw [hl] at this
        exact this
      | true =>
        rw [if_neg (by decide), if_pos (by unfold runQ; rw [hl, hb]; rfl)]
        have := h55
        rw [hl] at this
        exact this
theorem run_c (H : Txt σ T L b) {p : Nat} (hp : p < L) : f_X7_runEnd T (nI p) (nI L) σ = some (nI (tkE b L p), σ) := by
  have h9 := H.2.2.1
  unfold f_X7_runEnd f_X7_runEnd_0 tkE
  rw [if_neg (by omega), H.g (by omega), osb, isL_c, osb]
  dsimp only
  rw [H.g (by omega), osb, isDg_c, osb, bndu, nI_1]
  exact run_l H (b p) (L - (p + 1)) (p + 1) FU (by omega) (by unfold FU; omega)
theorem sort_c {p : Nat} (hp : p < L) (hL : L ≤ 900) : f_X7_sortOf (b p) (nI (tkE b L p) - nI p) σ = some (nI (tkS b L p), σ) := by
  have hb := tk_b (b := b) (Nat.le_of_lt hp)
  unfold f_X7_sortOf f_X7_sortOf_0 f_X7_sortOf_18 f_X7_sortOf_36 f_X7_sortOf_48 tkS
  rw [pk_sub hb.1, isL_c, osb, if_neg (show ¬ L ≤ p by omega)]
  dsimp only
  cases hl : isL (b p) with
  | true =>
    rw [if_neg (by decide), if_pos rfl]
    by_cases h8 : tkE b L p - p ≤ 8
    · rw [if_neg (show ¬ (8 : Int32) < nI (tkE b L p - p) from nI_nlt (a := 8) h8 (by omega)), if_pos h8]; rfl
    · rw [if_pos (show (8 : Int32) < nI (tkE b L p - p) from nI_lt (a := 8) (by omega) (by omega)), if_neg h8]; rfl
  | false =>
    rw [if_pos (by decide), if_neg (by decide), isDg_c, osb]
    dsimp only
    cases hd : isDg (b p) with
    | true =>
      rw [if_neg (by decide), if_pos rfl]
      by_cases h4 : tkE b L p - p ≤ 4
      · rw [if_neg (show ¬ (4 : Int32) < nI (tkE b L p - p) from nI_nlt (a := 4) h4 (by omega)), if_pos h4]; rfl
      · rw [if_pos (show (4 : Int32) < nI (tkE b L p - p) from nI_lt (a := 4) (by omega) (by omega)), if_neg h4]; rfl
    | false =>
      rw [if_pos (show b2i false = 0 from rfl), if_neg (show ¬ (false = true) by decide)]
      by_cases hs : b p = 59
      · rw [if_pos hs, if_pos hs]; rfl
      · rw [if_neg hs, if_neg hs]; rfl
def TSh (σ : St) (X : Nat) : Prop := hT σ X = 8 ∧ Fld σ X 0 (X + 1) 22 901 ∧ Fld σ X 1 (X + 2) 22 901 ∧ Fld σ X 2 (X + 3) 22 901
theorem TSh.fr {S : Nat → Prop} (H : TSh σ X) (F : Fr S σ τ) : TSh τ X := ⟨by rw [F.1]; exact H.1, H.2.1.fr F, H.2.2.1.fr F, H.2.2.2.fr F⟩
def inX (X r : Nat) : Prop := X ≤ r ∧ r ≤ X + 3
/-- the k-th token, as the rows have it -/
def Tk (σ : St) (X L : Nat) (b : Nat → Int32) (k : Nat) : Prop := hI σ (X + 1) k = nI (tkS b L (tkP b L k)) ∧ hI σ (X + 2) k = nI (tkP b L k) ∧ hI σ (X + 3) k = nI (tkE b L (tkP b L k))
def lastS (s : Nat) : Prop := s = 0 ∨ s = 4
def TkA (σ : St) (X L : Nat) (b : Nat → Int32) (n : Nat) : Prop := TSh σ X ∧ hI σ X 3 = nI n ∧ n ≤ 900 ∧ (∀ k, k ≤ n → Tk σ X L b k) ∧ lastS (tkS b L (tkP b L n)) ∧ ∀ k, k < n → ¬ lastS (tkS b L (tkP b L k))
theorem Tk.of {n' : Nat} (H : Tk σ X L b n') (h1 : hI τ (X + 1) n' = hI σ (X + 1) n') (h2 : hI τ (X + 2) n' = hI σ (X + 2) n') (h3 : hI τ (X + 3) n' = hI σ (X + 3) n') : Tk τ X L b n' := ⟨by rw [h1]; exact H.1, by rw [h2]; exact H.2.1, by rw [h3]; exact H.2.2⟩
theorem part_l (hT : T < X ∨ X + 3 < T) : ∀ (r k fu : Nat) (σ : St), (L - tkP b L k) ≤ r → r + 1 < fu → Txt σ T L b → TSh σ X → k ≤ tkP b L k → (∀ j, j < k → Tk σ X L b j ∧ ¬ lastS (tkS b L (tkP b L j))) → ∃ τ n, f_X7_part_10 fu X T (nI L) (nI (tkP b L k)) (nI k) σ = some τ ∧ Fr (inX X) σ τ ∧ TkA τ X L b n := by
  intro r
  induction r with
  | zero =>
    intro k fu σ hr hf H H2 hk ha
    obtain ⟨f, rfl⟩ : ∃ f, fu = f + 1 := ⟨fu - 1, by omega⟩
    have h9 := H.2.2.1
    have hp := tkP_le (b := b) (L := L) (k := k)
    have hpL : tkP b L k = L := by omega
    rw [e_X7_part_10, if_pos (nI_le (by omega) (by omega))]
    have hS : tkS b L (tkP b L k) = 0 := by unfold tkS; rw [if_pos (by omega)]
    have hE : tkE b L (tkP b L k) = L := by unfold tkE; rw [if_pos (by omega)]
    have F : Fr (inX X) σ (sI (sI (sI (sI σ (X + 2) k (nI L)) (X + 3) k (nI L)) (X + 1) k 0) X 3 (nI k)) := Fr.st (Fr.st (Fr.st (Fr.s0 ⟨by omega, by omega⟩) ⟨by omega, by omega⟩) ⟨by omega, by omega⟩) ⟨by omega, by omega⟩
    refine ⟨_, k, ?_, F, H2.fr F, hI_sIe, by omega, fun j hj => ?_, by rw [hS]; exact Or.inl rfl, fun j hj => (ha j hj).2⟩
    · unfold f_X7_part_103
      rw [H2.2.2.1.r H2.1, osb, xI_k H2.2.2.1.2.1 H2.2.2.1.2.2 (by omega) (by omega), osb]
      have F1 : Fr (inX X) σ (sI σ (X + 2) k (nI L)) := Fr.s0 ⟨by omega, by omega⟩
      have H3 := H2.fr F1
      rw [H3.2.2.2.r H3.1, osb, xI_k H3.2.2.2.2.1 H3.2.2.2.2.2 (by omega) (by omega), osb]
      have F2 : Fr (inX X) σ (sI (sI σ (X + 2) k (nI L)) (X + 3) k (nI L)) := Fr.st F1 ⟨by omega, by omega⟩
      have H4 := H2.fr F2
      rw [H4.2.1.r H4.1, osb, xI_k H4.2.1.2.1 H4.2.1.2.2 (by omega) (by omega), osb, pI_k (σ := sI (sI (sI σ (X + 2) k (nI L)) (X + 3) k (nI L)) (X + 1) k 0) H2.1, osb]
    · by_cases e : j = k
      · subst e
        refine ⟨?_, ?_, ?_⟩
        · rw [hI_sIn (Or.inl (by omega)), hI_sIe, hS]; rfl
        · rw [hI_sIn (Or.inl (by omega)), hI_sIn (Or.inl (by omega)), hI_sIn (Or.inl (by omega)), hI_sIe, hpL]
        · rw [hI_sIn (Or.inl (by omega)), hI_sIn (Or.inl (by omega)), hI_sIe, hE]
      · refine (ha j (by omega)).1.of ?_ ?_ ?_ <;> rw [hI_sIn (Or.inl (by omega)), hI_sIn (Or.inr e), hI_sIn (Or.inr e), hI_sIn (Or.inr e)]
  | succ r ih =>
    intro k fu σ hr hf H H2 hk ha
    obtain ⟨f, rfl⟩ : ∃ f, fu = f + 1 := ⟨fu - 1, by omega⟩
    have h9 := H.2.2.1
    have hp := tkP_le (b := b) (L := L) (k := k)
    by_cases hpL : tkP b L k = L
    · exact ih k (f + 1) σ (by omega) (by omega) H H2 hk ha
    · have hlt : tkP b L k < L := by omega
      have hE := tk_b (b := b) hp
      have hN := nx_b (b := b) hp
      rw [e_X7_part_10, if_neg (nI_ge hlt (by omega)), if_neg (show ¬ (900 : Int32) ≤ nI k from nI_ge (a := k) (b := 900) (by omega) (by omega)), H2.2.2.1.r H2.1, osb, xI_k H2.2.2.1.2.1 H2.2.2.1.2.2 (by omega) (by omega), osb]
      have F1 : Fr (inX X) σ (sI σ (X + 2) k (nI (tkP b L k))) := Fr.s0 ⟨by omega, by omega⟩
      have q1 : hI (sI σ (X + 2) k (nI (tkP b L k))) (X + 2) k = nI (tkP b L k) := hI_sIe
      have n1 : ∀ r j, j ≠ k → hI (sI σ (X + 2) k (nI (tkP b L k))) r j = hI σ r j := fun r j hj => hI_sIn (Or.inr hj)
      generalize sI σ (X + 2) k (nI (tkP b L k)) = σ1 at F1 q1 n1 ⊢
      have H3 := H2.fr F1
      have G1 := H.fr F1 (fun h => by have := h.1; have := h.2; omega)
      rw [H3.2.2.2.r H3.1, osb, run_c G1 hlt, osb]
      dsimp only
      rw [xI_k H3.2.2.2.2.1 H3.2.2.2.2.2 (show k < 901 by omega) (by omega), osb]
      have F2 : Fr (inX X) σ (sI σ1 (X + 3) k (nI (tkE b L (tkP b L k)))) := Fr.st F1 ⟨by omega, by omega⟩
      have q2 : hI (sI σ1 (X + 3) k (nI (tkE b L (tkP b L k)))) (X + 3) k = nI (tkE b L (tkP b L k)) := hI_sIe
      have p2 : hI (sI σ1 (X + 3) k (nI (tkE b L (tkP b L k)))) (X + 2) k = nI (tkP b L k) := by rw [hI_sIn (Or.inl (by omega))]; exact q1
      have n2 : ∀ r j, j ≠ k → hI (sI σ1 (X + 3) k (nI (tkE b L (tkP b L k)))) r j = hI σ r j := fun r j hj => by rw [hI_sIn (Or.inr hj)]; exact n1 r j hj
      generalize sI σ1 (X + 3) k (nI (tkE b L (tkP b L k))) = σ2 at F2 q2 p2 n2 ⊢
      have H4 := H2.fr F2
      have G2 := H.fr F2 (fun h => by have := h.1; have := h.2; omega)
      rw [H4.2.1.r H4.1, osb, G2.g (by omega), osb, H4.2.2.2.r H4.1, osb, H4.2.2.2.g (show k < 901 by omega) (by omega), osb, q2, sort_c hlt h9, osb]
      dsimp only
      rw [xI_k H4.2.1.2.1 H4.2.1.2.2 (show k < 901 by omega) (by omega), osb]
      have F3 : Fr (inX X) σ (sI σ2 (X + 1) k (nI (tkS b L (tkP b L k)))) := Fr.st F2 ⟨by omega, by omega⟩
      have T3 : Tk (sI σ2 (X + 1) k (nI (tkS b L (tkP b L k)))) X L b k := ⟨hI_sIe, by rw [hI_sIn (Or.inl (by omega))]; exact p2, by rw [hI_sIn (Or.inl (by omega))]; exact q2⟩
      have n3 : ∀ r j, j ≠ k → hI (sI σ2 (X + 1) k (nI (tkS b L (tkP b L k)))) r j = hI σ r j := fun r j hj => by rw [hI_sIn (Or.inr hj)]; exact n2 r j hj
      generalize sI σ2 (X + 1) k (nI (tkS b L (tkP b L k))) = σ3 at F3 T3 n3 ⊢
      have H5 := H2.fr F3
      have G3 := H.fr F3 (fun h => by have := h.1; have := h.2; omega)
      rw [H5.2.1.r H5.1, osb, H5.2.1.g (show k < 901 by omega) (by omega), osb, T3.1]
      have hs5 : tkS b L (tkP b L k) ≤ 4 := tkS_4
      have hall : ∀ j, j ≤ k → Tk σ3 X L b j := fun j hj => by
        by_cases e : j = k
        · subst e; exact T3
        · exact (ha j (by omega)).1.of (n3 _ j e) (n3 _ j e) (n3 _ j e)
      by_cases h4 : tkS b L (tkP b L k) = 4
      · rw [if_pos (show nI (tkS b L (tkP b L k)) = 4 by rw [h4]; rfl), pI_k H5.1, osb]
        have F4 : Fr (inX X) σ (sI σ3 X 3 (nI k)) := Fr.st F3 ⟨by omega, by omega⟩
        exact ⟨_, k, rfl, F4, H2.fr F4, hI_sIe, by omega, fun j hj => (hall j hj).of (hI_sIn (Or.inl (by omega))) (hI_sIn (Or.inl (by omega))) (hI_sIn (Or.inl (by omega))), Or.inr h4, fun j hj => (ha j hj).2⟩
      · have h0 : ¬ tkS b L (tkP b L k) = 0 := by have := tkS_1 (b := b) hlt; omega
        rw [if_neg (show ¬ nI (tkS b L (tkP b L k)) = 4 from fun e => h4 ((nI_eq (b := 4) (by omega) (by omega)).mp e)), H5.2.2.2.r H5.1, osb, H5.2.2.2.g (show k < 901 by omega) (by omega), osb, T3.2.2, pbk_c G3 hE.2.1, osb, nI_1]
        dsimp only
        have hnx : bkE b L (tkE b L (tkP b L k)) = tkP b L (k + 1) := rfl
        rw [hnx]
        have hk1 : tkP b L (k + 1) = nxP b L (tkP b L k) := rfl
        obtain ⟨τ, n, t1, t2, t3⟩ := ih (k + 1) f σ3 (by rw [hk1]; omega) (by omega) G3 H5 (by rw [hk1]; omega) (fun j hj => by
          by_cases e : j = k
          · subst e; exact ⟨T3, fun h => h.elim h0 h4⟩
          · exact ⟨hall j (by omega), (ha j (by omega)).2⟩)
        exact ⟨τ, n, t1, F3.trans t2, t3⟩
theorem part_c (H : Txt σ T L b) (H2 : TSh σ X) (hT : T < X ∨ X + 3 < T) : ∃ τ n, f_X7_part X T (nI L) σ = some τ ∧ Fr (inX X) σ τ ∧ TkA τ X L b n := by
  have h9 := H.2.2.1
  obtain ⟨τ, n, t1, t2, t3⟩ := part_l hT L 0 FU σ (Nat.sub_le _ _) (by unfold FU; omega) H H2 (Nat.zero_le _) (fun j hj => absurd hj (Nat.not_lt_zero _))
  refine ⟨τ, n, ?_, t2, t3⟩
  have e := pbk_c H (p := 0) (Nat.zero_le _)
  rw [nI_0] at e t1
  unfold f_X7_part f_X7_part_0
  rw [if_pos H2.1, e, osb]
  exact t1
end Tok
