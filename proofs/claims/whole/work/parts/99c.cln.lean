/-! THE CLASS's lines: the draft -/
/-- the draft at d stands for what was told so far -/
def DC (σ : St) (d : Nat) (c : Cc) (m nu ng : Nat) : Prop := PSh σ d ∧ (hI σ d 0 = c 0 0 ∧ hI σ d 1 = c 0 1 ∧ hI σ d 2 = c 0 2 ∧ hI σ d 3 = c 0 3 ∧ hI σ d 4 = c 0 4 ∧ hI σ d 5 = c 0 5 ∧ hI σ d 12 = c 0 6 ∧ hI σ d 15 = c 0 7) ∧ (∀ s, s < m → hI σ (d + 1) s = c 1 s ∧ hI σ (d + 2) s = c 2 s ∧ hI σ (d + 3) s = c 3 s ∧ hI σ (d + 4) s = c 4 s ∧ hI σ (d + 5) s = c 5 s ∧ hI σ (d + 6) s = c 6 s) ∧ (∀ u, u < nu → hI σ (d + 7) u = c 7 u ∧ hI σ (d + 8) u = c 8 u) ∧ (∀ g, g < ng → hI σ (d + 9) g = c 9 g ∧ hI σ (d + 10) g = c 10 g)
def RW (σ : St) (d m : Nat) (k a2 a3 a4 a5 y : Int32) : Prop := hI σ (d + 1) m = k ∧ hI σ (d + 2) m = a2 ∧ hI σ (d + 3) m = a3 ∧ hI σ (d + 4) m = a4 ∧ hI σ (d + 5) m = a5 ∧ hI σ (d + 6) m = y
def iYD (Y d r : Nat) : Prop := r = Y ∨ (d ≤ r ∧ r ≤ d + 10)
def Bs (σ : St) (Y d : Nat) : Prop := hT σ Y = 7 ∧ hP σ Y 7 = some d ∧ PSh σ d
def pPair (b : Nat → Int32) (L p : Nat) : Flt ⊕ ((Int32 × Int32) × Nat) := andS (pWhole b L 0 7 p) fun a => andS (pWhole b L 0 7 a.2) fun e => .inr ((a.1, e.1), e.2)
section Cln
variable {σ τ υ : St} {Y T X d L n p m nu ng r j kk : Nat} {b : Nat → Int32} {c : Cc} {v k a2 a3 a4 a5 y : Int32}
theorem Bs.fr {S : Nat → Prop} (h : Bs σ Y d) (F : Fr S σ τ) : Bs τ Y d := ⟨by rw [F.1]; exact h.1, by rw [F.2.2.1]; exact h.2.1, h.2.2.fr F⟩
theorem Bs.w (h : Bs σ Y d) : Bs (sI σ r j v) Y d := h
theorem Rd.bs (R : Rd σ Y T X d L b n p) (P : PSh σ d) : Bs σ Y d := ⟨R.1.1, R.1.2.2.2, P⟩
theorem Bs.g (h : Bs σ Y d) : gR 7 7 Y σ = some d := gR_k h.1 h.2.1
theorem DC.of (D : DC σ d c m nu ng) (s : ∀ r, d ≤ r → r ≤ d + 10 → Sm σ τ r) : DC τ d c m nu ng := by
  obtain ⟨P, q1, q2, q3, q4⟩ := D
  have e : ∀ r, d ≤ r → r ≤ d + 10 → hI τ r = hI σ r := fun r h1 h2 => (s r h1 h2).2.2.1
  refine ⟨P.sm s, by rw [e d (by omega) (by omega)]; exact q1, fun i hi => ?_, fun u hu => ?_, fun g hg => ?_⟩
  · rw [e (d + 1) (by omega) (by omega), e (d + 2) (by omega) (by omega), e (d + 3) (by omega) (by omega), e (d + 4) (by omega) (by omega), e (d + 5) (by omega) (by omega), e (d + 6) (by omega) (by omega)]
    exact q2 i hi
  · rw [e (d + 7) (by omega) (by omega), e (d + 8) (by omega) (by omega)]
    exact q3 u hu
  · rw [e (d + 9) (by omega) (by omega), e (d + 10) (by omega) (by omega)]
    exact q4 g hg
theorem DC.yf (D : DC σ d c m nu ng) (F : Fr (fun r => r = Y) σ τ) (h : d + 10 < Y) : DC τ d c m nu ng := D.of (fun r h1 h2 => F.sm (by omega))
theorem RW.yf (W : RW σ d m k a2 a3 a4 a5 y) (F : Fr (fun r => r = Y) σ τ) (h : d + 10 < Y) : RW τ d m k a2 a3 a4 a5 y := by
  have e : ∀ r, r ≤ d + 10 → hI τ r = hI σ r := fun r h2 => F.2.2.2.2.2 r (by omega)
  unfold RW
  rw [e (d + 1) (by omega), e (d + 2) (by omega), e (d + 3) (by omega), e (d + 4) (by omega), e (d + 5) (by omega), e (d + 6) (by omega)]
  exact W
theorem Fr.yd (F : Fr (fun r => r = Y) σ τ) : Fr (iYD Y d) σ τ := F.mono (fun r h => Or.inl h)
theorem Rd.w (R : Rd σ Y T X d L b n p) (H : YY Y T X d) (h1 : d ≤ r) (h2 : r ≤ d + 10) : Rd (sI σ r j v) Y T X d L b n p := by
  obtain ⟨y1, y2, y3, y4⟩ := H
  exact R.fr (S := fun q => q = r) (Fr.s0 rfl) (fun h => by omega) (fun q h1 h2 h => by omega) (hI_sIn (Or.inl (by omega))) (hI_sIn (Or.inl (by omega)))
theorem DC.w (D : DC σ d c m nu ng) (h1 : d + 1 ≤ r) (h2 : r ≤ d + 6) : DC (sI σ r m v) d c m nu ng := by
  obtain ⟨P, q1, q2, q3, q4⟩ := D
  have e0 : ∀ q, hI (sI σ r m v) d q = hI σ d q := fun q => hI_sIn (Or.inl (by omega))
  have e1 : ∀ a q, q ≠ m → hI (sI σ r m v) a q = hI σ a q := fun a q hq => hI_sIn (Or.inr hq)
  have e2 : ∀ a q, d + 7 ≤ a → hI (sI σ r m v) a q = hI σ a q := fun a q hq => hI_sIn (Or.inl (by omega))
  refine ⟨P, ?_, fun i hi => ?_, fun u hu => ?_, fun g hg => ?_⟩
  · rw [e0, e0, e0, e0, e0, e0, e0, e0]; exact q1
  · rw [e1 _ _ (by omega), e1 _ _ (by omega), e1 _ _ (by omega), e1 _ _ (by omega), e1 _ _ (by omega), e1 _ _ (by omega)]; exact q2 i hi
  · rw [e2 _ _ (by omega), e2 _ _ (by omega)]; exact q3 u hu
  · rw [e2 _ _ (by omega), e2 _ _ (by omega)]; exact q4 g hg
theorem RW.s2 (W : RW σ d m k a2 a3 a4 a5 y) : RW (sI σ (d + 2) m v) d m k v a3 a4 a5 y := by
  obtain ⟨w1, w2, w3, w4, w5, w6⟩ := W
  refine ⟨?_, ?_, ?_, ?_, ?_, ?_⟩ <;> simp [hI_if, w1, w2, w3, w4, w5, w6]
theorem RW.s3 (W : RW σ d m k a2 a3 a4 a5 y) : RW (sI σ (d + 3) m v) d m k a2 v a4 a5 y := by
  obtain ⟨w1, w2, w3, w4, w5, w6⟩ := W
  refine ⟨?_, ?_, ?_, ?_, ?_, ?_⟩ <;> simp [hI_if, w1, w2, w3, w4, w5, w6]
theorem RW.s4 (W : RW σ d m k a2 a3 a4 a5 y) : RW (sI σ (d + 4) m v) d m k a2 a3 v a5 y := by
  obtain ⟨w1, w2, w3, w4, w5, w6⟩ := W
  refine ⟨?_, ?_, ?_, ?_, ?_, ?_⟩ <;> simp [hI_if, w1, w2, w3, w4, w5, w6]
theorem RW.s5 (W : RW σ d m k a2 a3 a4 a5 y) : RW (sI σ (d + 5) m v) d m k a2 a3 a4 v y := by
  obtain ⟨w1, w2, w3, w4, w5, w6⟩ := W
  refine ⟨?_, ?_, ?_, ?_, ?_, ?_⟩ <;> simp [hI_if, w1, w2, w3, w4, w5, w6]
theorem RW.s6 (W : RW σ d m k a2 a3 a4 a5 y) : RW (sI σ (d + 6) m v) d m k a2 a3 a4 a5 v := by
  obtain ⟨w1, w2, w3, w4, w5, w6⟩ := W
  refine ⟨?_, ?_, ?_, ?_, ?_, ?_⟩ <;> simp [hI_if, w1, w2, w3, w4, w5, w6]
theorem OutR.and {α β : Type} {R : Flt ⊕ α} {f : α → Flt ⊕ β} {Q : α → Prop} {Q' : β → Prop} (h : OutR τ Y R Q) (g : ∀ u, Q u → OutR τ Y (f u) Q') : OutR τ Y (andS R f) Q' := by
  cases R with
  | inl e => exact h
  | inr u => exact g u h
theorem out_w {α : Type} {e : Flt} {Q : α → Prop} (h : hI τ Y 0 = e.1 ∧ hI τ Y 1 = nI e.2) (hr : r ≠ Y) : OutR (sI τ r j v) Y (.inl e : Flt ⊕ α) Q := ⟨by rw [hI_sIn (Or.inl (fun q => hr q.symm))]; exact h.1, by rw [hI_sIn (Or.inl (fun q => hr q.symm))]; exact h.2⟩
/-- a whole is taken: what it is -/
theorem tkw_d (R : Rd σ Y T X d L b n p) (H : YY Y T X d) (lo hi : Int32) : ∃ τ, f_X6_takesWhole Y lo hi σ = some (b2i (okS (pWhole b L lo hi p)), τ) ∧ Fr (fun r => r = Y) σ τ ∧ OutR τ Y (pWhole b L lo hi p) (fun q => Rd τ Y T X d L b n q.2 ∧ hI τ Y 5 = q.1 ∧ hI τ Y 6 = nI p) := by
  obtain ⟨τ, t1, t2, t3, t4⟩ := tkw_c R H lo hi
  refine ⟨τ, t1, t2, ?_⟩
  cases hp : pWhole b L lo hi p with
  | inl e => rw [hp] at t4; exact t4
  | inr q =>
    rw [hp] at t4
    obtain ⟨h1, h2, -⟩ := pWhole_i hp
    exact ⟨t4, by rw [(t3 h1).1, h2], (t3 h1).2⟩
theorem tp_c (R : Rd σ Y T X d L b n p) (H : YY Y T X d) (D : DC σ d c m nu ng) (W : RW σ d m k a2 a3 a4 a5 y) (hm : m < 24) : ∃ τ, f_X6_takesPair Y (nI m) σ = some (b2i (okS (pPair b L p)), τ) ∧ Fr (iYD Y d) σ τ ∧ OutR τ Y (pPair b L p) (fun q => Rd τ Y T X d L b n q.2 ∧ DC τ d c m nu ng ∧ RW τ d m k a2 q.1.1 q.1.2 a5 y) := by
  obtain ⟨y1, y2, y3, y4⟩ := id H
  have B := R.bs D.1
  obtain ⟨τ, t1, t2, t3⟩ := tkw_d R H 0 7
  unfold f_X6_takesPair f_X6_takesPair_0 pPair
  rw [if_pos R.t, t1, osb]
  dsimp only
  cases hp : pWhole b L 0 7 p with
  | inl e =>
    rw [hp] at t3
    rw [if_pos (by rfl)]
    exact ⟨τ, rfl, t2.yd, t3⟩
  | inr q =>
    rw [hp] at t3
    obtain ⟨R1, v5, -⟩ := t3
    have B1 := B.fr t2
    have f8 := B1.2.2.2.2.2.1
    rw [if_neg (by show ¬ (1 : Int32) = 0; decide), B1.g, osb, f8.r B1.2.2.1, osb, gI_k B1.1, osb, v5, xI_k f8.2.1 f8.2.2 hm (by omega), osb]
    have R2 := R1.w (j := m) (v := q.1) (r := d + 3) H (by omega) (by omega)
    have D2 : DC (sI τ (d + 3) m q.1) d c m nu ng := (D.yf t2 y3).w (by omega) (by omega)
    have W2 : RW (sI τ (d + 3) m q.1) d m k a2 q.1 a4 a5 y := (W.yf t2 y3).s3
    have F2 : Fr (iYD Y d) σ (sI τ (d + 3) m q.1) := Fr.st t2.yd (Or.inr ⟨by omega, by omega⟩)
    generalize sI τ (d + 3) m q.1 = σ2 at R2 D2 W2 F2 ⊢
    obtain ⟨τ2, s1, s2, s3⟩ := tkw_d R2 H 0 7
    have B2 := (B.fr F2).fr s2
    have f9 := B2.2.2.2.2.2.2.1
    rw [s1, osb]
    dsimp only [andS]
    rw [B2.g, osb, f9.r B2.2.2.1, osb, gI_k B2.1, osb, xI_k f9.2.1 f9.2.2 hm (by omega), osb]
    cases hp2 : pWhole b L 0 7 q.2 with
    | inl e =>
      rw [hp2] at s3
      rw [if_pos (by show (0 : Int32) = 0 ∨ (0 : Int32) = 1; decide)]
      exact ⟨_, rfl, Fr.st (F2.trans s2.yd) (Or.inr ⟨by omega, by omega⟩), out_w s3 (by omega)⟩
    | inr e =>
      rw [hp2] at s3
      obtain ⟨R3, w5, -⟩ := s3
      rw [if_pos (by show (1 : Int32) = 0 ∨ (1 : Int32) = 1; decide), w5]
      exact ⟨_, rfl, Fr.st (F2.trans s2.yd) (Or.inr ⟨by omega, by omega⟩), R3.w H (by omega) (by omega), (D2.yf s2 y3).w (by omega) (by omega), (W2.yf s2 y3).s4⟩
def esS (σ : St) (d m : Nat) (k : Int32) : St := sI (sI (sI (sI (sI (sI σ (d + 1) m k) (d + 2) m (-1)) (d + 3) m (-1)) (d + 4) m (-1)) (d + 5) m 0) (d + 6) m 0
theorem es_c (D : DC σ d c m nu ng) (hm : m < 24) (h5 : c 0 5 = nI m) : f_X5_emptyStep d k σ = some (nI m, esS σ d m k) := by
  obtain ⟨⟨K, f1, f2, f3, f4, f5, f6, -⟩, q1, -⟩ := D
  have e5 : hI σ d 5 = nI m := q1.2.2.2.2.2.1.trans h5
  unfold f_X5_emptyStep f_X5_emptyStep_0 f_X5_emptyStep_18 esS
  rw [if_pos K, gI_k K, osb, e5, if_neg (show ¬ (24 : Int32) ≤ nI m from nI_ge (a := m) (b := 24) hm (by omega)), osb]
  rw [f1.r K, osb, xI_k f1.2.1 f1.2.2 hm (by omega), osb]
  rw [gR_k (σ := sI σ (d + 1) m k) K f2.1, osb, xI_k (σ := sI σ (d + 1) m k) f2.2.1 f2.2.2 hm (by omega), osb]
  rw [gR_k (σ := sI (sI σ (d + 1) m k) (d + 2) m (-1)) K f3.1, osb, xI_k (σ := sI (sI σ (d + 1) m k) (d + 2) m (-1)) f3.2.1 f3.2.2 hm (by omega), osb]
  rw [gR_k (σ := sI (sI (sI σ (d + 1) m k) (d + 2) m (-1)) (d + 3) m (-1)) K f4.1, osb, xI_k (σ := sI (sI (sI σ (d + 1) m k) (d + 2) m (-1)) (d + 3) m (-1)) f4.2.1 f4.2.2 hm (by omega), osb]
  rw [gR_k (σ := sI (sI (sI (sI σ (d + 1) m k) (d + 2) m (-1)) (d + 3) m (-1)) (d + 4) m (-1)) K f5.1, osb, xI_k (σ := sI (sI (sI (sI σ (d + 1) m k) (d + 2) m (-1)) (d + 3) m (-1)) (d + 4) m (-1)) f5.2.1 f5.2.2 hm (by omega), osb]
  rw [gR_k (σ := sI (sI (sI (sI (sI σ (d + 1) m k) (d + 2) m (-1)) (d + 3) m (-1)) (d + 4) m (-1)) (d + 5) m 0) K f6.1, osb, xZ_k (σ := sI (sI (sI (sI (sI σ (d + 1) m k) (d + 2) m (-1)) (d + 3) m (-1)) (d + 4) m (-1)) (d + 5) m 0) f6.2.1 f6.2.2 hm (by omega), osb, show jz 0 = 0 by decide]
theorem es_D (D : DC σ d c m nu ng) : DC (esS σ d m k) d c m nu ng ∧ RW (esS σ d m k) d m k (-1) (-1) (-1) 0 0 := by
  unfold esS
  refine ⟨(((((D.w (by omega) (by omega)).w (by omega) (by omega)).w (by omega) (by omega)).w (by omega) (by omega)).w (by omega) (by omega)).w (by omega) (by omega), ?_, ?_, ?_, ?_, ?_, ?_⟩ <;> simp [hI_if]
theorem es_R (R : Rd σ Y T X d L b n p) (H : YY Y T X d) : Rd (esS σ d m k) Y T X d L b n p := by
  unfold esS
  exact (((((R.w H (by omega) (by omega)).w H (by omega) (by omega)).w H (by omega) (by omega)).w H (by omega) (by omega)).w H (by omega) (by omega)).w H (by omega) (by omega)
theorem es_F (F : Fr (iYD Y d) σ τ) : Fr (iYD Y d) σ (esS τ d m k) := by
  unfold esS
  exact Fr.st (Fr.st (Fr.st (Fr.st (Fr.st (Fr.st F (Or.inr ⟨by omega, by omega⟩)) (Or.inr ⟨by omega, by omega⟩)) (Or.inr ⟨by omega, by omega⟩)) (Or.inr ⟨by omega, by omega⟩)) (Or.inr ⟨by omega, by omega⟩)) (Or.inr ⟨by omega, by omega⟩)
end Cln
