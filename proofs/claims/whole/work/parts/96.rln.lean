/-! THE REFERENCE's lines: a Core that is told -/
def FrK (M k : Nat) (σ τ : St) : Prop := hT τ = hT σ ∧ hN τ = hN σ ∧ hP τ = hP σ ∧ hZ τ = hZ σ ∧ (∀ r, r ≠ M → ¬ (k ≤ r ∧ r ≤ k + 10) → hI τ r = hI σ r ∧ hL τ r = hL σ r) ∧ ∀ q, (q < 8 ∨ 13 < q) → hI τ M q = hI σ M q
def RC (σ : St) (M k : Nat) (c : Cc) : Prop := hP σ M 4 = some k ∧ CSh σ k ∧ CR c σ k ∧ M + 9 ≤ k
def RLn (σ : St) (M L : Nat) (b : Nat → Int32) (k : Nat) (c : Cc) (p : Nat) : Prop := RG σ M L b p ∧ RC σ M k c
theorem hI_if {σ : St} {a j r q : Nat} {v : Int32} : hI (sI σ a j v) r q = if r = a ∧ q = j then v else hI σ r q := rfl
theorem andS_a {α β γ : Type} (R : Flt ⊕ α) (f : α → Flt ⊕ β) (g : β → Flt ⊕ γ) : andS (andS R f) g = andS R (fun v => andS (f v) g) := by cases R <;> rfl
section Rln
variable {σ τ υ : St} {M L p k m nu ng j N r f : Nat} {b : Nat → Int32} {c : Cc} {v y a1 a2 a3 a4 a5 : Int32}
theorem FrK.refl : FrK M k σ σ := ⟨rfl, rfl, rfl, rfl, fun _ _ _ => ⟨rfl, rfl⟩, fun _ _ => rfl⟩
theorem FrK.trans (h : FrK M k σ τ) (g : FrK M k τ υ) : FrK M k σ υ := ⟨g.1.trans h.1, g.2.1.trans h.2.1, g.2.2.1.trans h.2.2.1, g.2.2.2.1.trans h.2.2.2.1, fun r hr hk => ⟨(g.2.2.2.2.1 r hr hk).1.trans (h.2.2.2.2.1 r hr hk).1, (g.2.2.2.2.1 r hr hk).2.trans (h.2.2.2.2.1 r hr hk).2⟩, fun q hq => (g.2.2.2.2.2 q hq).trans (h.2.2.2.2.2 q hq)⟩
theorem FrV.toK (h : FrV M σ τ) : FrK M k σ τ := ⟨h.1, h.2.1, h.2.2.1, h.2.2.2.1, fun r hr _ => h.2.2.2.2.1 r hr, h.2.2.2.2.2⟩
theorem FrK.w (h : FrK M k σ τ) (h1 : k ≤ r) (h2 : r ≤ k + 10) (hM : M < k) : FrK M k σ (sI τ r j v) := h.trans ⟨rfl, rfl, rfl, rfl, fun q _ hk => ⟨hI_sIr (fun e => hk (by omega)), rfl⟩, fun q _ => hI_sIn (Or.inl (by omega))⟩
theorem FrV.sm (h : FrV M σ τ) {r : Nat} (hr : r ≠ M) : Sm σ τ r := ⟨by rw [h.1], by rw [h.2.1], (h.2.2.2.2.1 r hr).1, by rw [h.2.2.1], (h.2.2.2.2.1 r hr).2⟩
theorem RC.fr (C : RC σ M k c) (F : FrV M σ τ) : RC τ M k c := by
  have h := C.2.2.2
  exact ⟨by rw [F.2.2.1]; exact C.1, C.2.1.sm (fun r h1 _ => F.sm (by omega)), C.2.2.1.sm (fun r h1 _ => F.sm (by omega)), h⟩
theorem RG.w (T : RG σ M L b p) (hr : M + 2 ≤ r) : RG (sI σ r j v) M L b p := by
  have e : ∀ q, hI (sI σ r j v) M q = hI σ M q := fun q => hI_sIn (Or.inl (by omega))
  obtain ⟨⟨⟨t1, t2, t3, t4, t5, t6⟩, u1, u2, u3, u4, u5, u6⟩, w⟩ := T
  refine ⟨⟨⟨t1, t2, by rw [e]; exact t3, t4, fun q hq => by rw [hI_sIn (Or.inl (by omega))]; exact t5 q hq, t6⟩, u1, by rw [e]; exact u2, by rw [e]; exact u3, fun h => by rw [e]; exact u4 h, u5, fun h => by rw [e]; exact u6 h⟩, by rw [e]; exact w⟩
/-- writes into the Core that is told -/
theorem ka_w {α : Type} {g : St → Option α} (h0 : hT σ M = 11) (P : hP σ M 4 = some k) (K : hT σ k = 10) (F : Fld σ k f r 22 N) (hj : j < N) (hN : N ≤ 100000) : ((gR 11 4 M σ).bind fun x => (gR 10 f x σ).bind fun y => (xI y (nI j) v σ).bind g) = g (sI σ r j v) := by
  rw [gR_k h0 P, osb, F.r K, osb, xI_k F.2.1 F.2.2 hj hN, osb]
theorem ka_z {α : Type} {g : St → Option α} (h0 : hT σ M = 11) (P : hP σ M 4 = some k) (K : hT σ k = 10) (F : Fld σ k f r 23 N) (hj : j < N) (hN : N ≤ 100000) : ((gR 11 4 M σ).bind fun x => (gR 10 f x σ).bind fun y => (xZ y (nI j) v σ).bind g) = g (sI σ r j (jz v)) := by
  rw [gR_k h0 P, osb, F.r K, osb, xZ_k F.2.1 F.2.2 hj hN, osb]
theorem ka_i {α : Type} {g : St → Option α} (h0 : hT σ M = 11) (P : hP σ M 4 = some k) (K : hT σ k = 10) : ((gR 11 4 M σ).bind fun x => (gI 10 f x σ).bind fun y => (pI 10 f x (y + 1) σ).bind g) = g (sI σ k f (hI σ k f + 1)) := by
  rw [gR_k h0 P, osb, gI_k K, osb, pI_k K, osb]
theorem ka_p {α : Type} {g : St → Option α} (h0 : hT σ M = 11) (P : hP σ M 4 = some k) (K : hT σ k = 10) : ((gR 11 4 M σ).bind fun x => (pI 10 f x v σ).bind g) = g (sI σ k f v) := by
  rw [gR_k h0 P, osb, pI_k K, osb]
theorem ka_b {α : Type} {g : St → Option α} (h0 : hT σ M = 11) (P : hP σ M 4 = some k) (K : hT σ k = 10) (hv : v = 0 ∨ v = 1) : ((gR 11 4 M σ).bind fun x => (pZ 10 f x v σ).bind g) = g (sI σ k f v) := by
  rw [gR_k h0 P, osb, pZ_k K hv, osb]
theorem ka_u {α : Type} {g : St → Option α} {q : Nat} (h0 : hT σ M = 11) (P : hP σ M 4 = some k) (K : hT σ k = 10) (F : Fld σ k f r 22 N) (hq : hI σ k q = nI j) (hj : j < N) (hN : N ≤ 100000) : ((gR 11 4 M σ).bind fun x => (gR 10 f x σ).bind fun y => (gR 11 4 M σ).bind fun x' => (gI 10 q x' σ).bind fun n => (xI y n v σ).bind g) = g (sI σ r j v) := by
  rw [gR_k h0 P, osb, F.r K, osb, osb, gI_k K, osb, hq, xI_k F.2.1 F.2.2 hj hN, osb]
def stS (σ : St) (k m : Nat) (a1 a2 a3 a4 a5 y : Int32) : St := sI (sI (sI (sI (sI (sI (sI σ (k + 1) m a1) (k + 2) m a2) (k + 3) m a3) (k + 4) m a4) (k + 5) m a5) (k + 6) m y) k 4 (nI (m + 1))
theorem jz_y (h : y = 0 ∨ y = 1) : jz y = y := by rcases h with rfl | rfl <;> decide
theorem st_w (h0 : hT σ M = 11) (n5 : ¬ hI σ M 9 = 5) (C : RC σ M k c) (hm : m < 24) (h5 : c 0 5 = nI m) (hy : y = 0 ∨ y = 1) : f_X10_readStep_119 M a1 a2 a3 a4 a5 y σ = some (stS σ k m a1 a2 a3 a4 a5 y) := by
  obtain ⟨P, ⟨K, f1, f2, f3, f4, f5, f6, -⟩, R, hk⟩ := C
  have e4 : hI σ k 4 = nI m := R.2.2.2.2.1.trans h5
  unfold f_X10_readStep_119
  rw [gI_k h0, osb, if_neg n5, gR_k h0 P, osb, gI_k K, osb, e4, ← gR_k h0 P]
  refine (ka_w h0 P K f1 hm (by omega)).trans ?_
  refine (ka_w (σ := sI σ (k + 1) m a1) h0 P K f2 hm (by omega)).trans ?_
  refine (ka_w (σ := sI (sI σ (k + 1) m a1) (k + 2) m a2) h0 P K f3 hm (by omega)).trans ?_
  refine (ka_w (σ := sI (sI (sI σ (k + 1) m a1) (k + 2) m a2) (k + 3) m a3) h0 P K f4 hm (by omega)).trans ?_
  refine (ka_w (σ := sI (sI (sI (sI σ (k + 1) m a1) (k + 2) m a2) (k + 3) m a3) (k + 4) m a4) h0 P K f5 hm (by omega)).trans ?_
  refine (ka_z (σ := sI (sI (sI (sI (sI σ (k + 1) m a1) (k + 2) m a2) (k + 3) m a3) (k + 4) m a4) (k + 5) m a5) h0 P K f6 hm (by omega)).trans ?_
  rw [jz_y hy]
  refine (ka_i (σ := sI (sI (sI (sI (sI (sI σ (k + 1) m a1) (k + 2) m a2) (k + 3) m a3) (k + 4) m a4) (k + 5) m a5) (k + 6) m y) h0 P K).trans ?_
  have e : hI (sI (sI (sI (sI (sI (sI σ (k + 1) m a1) (k + 2) m a2) (k + 3) m a3) (k + 4) m a4) (k + 5) m a5) (k + 6) m y) k 4 = nI m := by
    rw [hI_sIn (Or.inl (by omega)), hI_sIn (Or.inl (by omega)), hI_sIn (Or.inl (by omega)), hI_sIn (Or.inl (by omega)), hI_sIn (Or.inl (by omega)), hI_sIn (Or.inl (by omega))]
    exact e4
  rw [e, nI_1]
  rfl
theorem st_C (C : RC σ M k c) (hm : m < 24) : RC (stS σ k m a1 a2 a3 a4 a5 y) M k (stC c m a1 a2 a3 a4 a5 y) := by
  obtain ⟨P, S, R, hk⟩ := C
  refine ⟨P, S, ?_, hk⟩
  obtain ⟨r0, r1, r2, r3, r4, r5, r6, r7, r8, r9, r10⟩ := R
  unfold stS
  refine ⟨?_, ?_, ?_, ?_, ?_, ?_, ?_, ?_, fun s hs => ?_, fun u hu => ?_, fun u hu => ?_⟩
  · rw [stC_0 (by omega)]; simp [hI_if, r0]
  · rw [stC_0 (by omega)]; simp [hI_if, r1]
  · rw [stC_0 (by omega)]; simp [hI_if, r2]
  · rw [stC_0 (by omega)]; simp [hI_if, r3]
  · simp [hI_if, stC]
  · rw [stC_0 (by omega)]; simp [hI_if, r5]
  · rw [stC_0 (by omega)]; simp [hI_if, r6]
  · rw [stC_0 (by omega)]; simp [hI_if, r7]
  · obtain ⟨s1, s2, s3, s4, s5, s6⟩ := r8 s hs
    by_cases e : s = m
    · simp [hI_if, stC, e]
    · simp [hI_if, stC, e, s1, s2, s3, s4, s5, s6]
  · simp [hI_if, stC_h, r9 u hu]
  · simp [hI_if, stC_h, r10 u hu]
theorem st_F (F : FrK M k σ τ) (hk : M < k) : FrK M k σ (stS τ k m a1 a2 a3 a4 a5 y) := by
  unfold stS
  exact ((((((F.w (by omega) (by omega) hk).w (by omega) (by omega) hk).w (by omega) (by omega) hk).w (by omega) (by omega) hk).w (by omega) (by omega) hk).w (by omega) (by omega) hk).w (by omega) (by omega) hk
theorem st_G (T : RG σ M L b p) (hk : M + 9 ≤ k) : RG (stS σ k m a1 a2 a3 a4 a5 y) M L b p := by
  unfold stS
  exact ((((((T.w (by omega)).w (by omega)).w (by omega)).w (by omega)).w (by omega)).w (by omega)).w (by omega)
/-- a word and a whole -/
def pPart (b : Nat → Int32) (L : Nat) (w : List Int32) (lo hi : Int32) (p : Nat) : Flt ⊕ (Int32 × Nat) := andS (pWord b L w p) fun p' => pWhole b L lo hi p'
theorem rp_r (T : RG σ M L b p) {i : Nat} (hi : i < 34) (lo up : Int32) : ∃ v τ, f_X10_readPart M i lo up σ = some (v, τ) ∧ FrV M σ τ ∧ OutQ τ M (pPart b L (sW i) lo up p) (fun q => v = q.1 ∧ RG τ M L b q.2) := by
  obtain ⟨τ, t1, t2, t3⟩ := nd_r T hi
  unfold f_X10_readPart f_X10_readPart_0 pPart
  rw [if_pos T.1.t, t1, osb]
  cases hp : pWord b L (sW i) p with
  | inl e =>
    rw [hp] at t3
    rw [rw_o ⟨t3.1, t3.2.1⟩, osb]
    exact ⟨_, τ, rfl, t2, t3⟩
  | inr q =>
    rw [hp] at t3
    obtain ⟨v, υ, u1, u2, u3⟩ := rw_r t3 lo up
    rw [u1, osb]
    exact ⟨v, υ, rfl, t2.trans u2, u3⟩
theorem pCore_e : pCore b L p = andS (pPart b L (sW 18) 9 24 p) fun q0 => andS (pPart b L (sW 19) 2 12 q0.2) fun q1 => andS (pPart b L (sW 20) 0 4 q1.2) fun q2 => andS (pPart b L (sW 21) 1 4 q2.2) fun q3 => andS (pOr b L (sW 22) (sW 23) q3.2) fun q4 => .inr (coC q0.1 q1.1 q2.1 q3.1 q4.1, q4.2) := by
  unfold pCore pPart
  simp only [andS_a]
  rfl
def coS (σ : St) (k : Nat) (a1 a2 a3 a4 y : Int32) : St := sI (sI (sI (sI (sI σ k 0 a1) k 1 a2) k 2 a3) k 3 a4) k 7 y
theorem co_C (C : RC σ M k (fun _ _ => 0)) : RC (coS σ k a1 a2 a3 a4 y) M k (coC a1 a2 a3 a4 y) := by
  obtain ⟨P, S, R, hk⟩ := C
  refine ⟨P, S, ?_, hk⟩
  obtain ⟨r0, r1, r2, r3, r4, r5, r6, r7, r8, r9, r10⟩ := R
  unfold coS
  refine ⟨?_, ?_, ?_, ?_, ?_, ?_, ?_, ?_, fun s hs => ?_, fun u hu => ?_, fun u hu => ?_⟩
  · simp [hI_if, coC]
  · simp [hI_if, coC]
  · simp [hI_if, coC]
  · simp [hI_if, coC]
  · simp [hI_if, coC, r4]
  · simp [hI_if, coC, r5]
  · simp [hI_if, coC, r6]
  · simp [hI_if, coC]
  · obtain ⟨s1, s2, s3, s4, s5, s6⟩ := r8 s hs
    simp [hI_if, coC, s1, s2, s3, s4, s5, s6]
  · simp [hI_if, coC, r9 u hu]
  · simp [hI_if, coC, r10 u hu]
theorem co_w (T : RG σ M L b p) (C : RC σ M k c) (ht : tkS b L p ≠ 4) (hy : y = 0 ∨ y = 1) : ∃ τ, f_X10_readCore_86 M a1 a2 a3 a4 y σ = some (coS τ k a1 a2 a3 a4 y) ∧ FrV M σ τ ∧ RG τ M L b (nxP b L p) := by
  obtain ⟨τ, t1, t2, t3⟩ := gon_g T ht
  have C' := C.fr t2
  have h0 := t3.1.t
  obtain ⟨P, ⟨K, -⟩, -, hk⟩ := C'
  refine ⟨τ, ?_, t2, t3⟩
  unfold f_X10_readCore_86
  rw [t1, osb, gI_k h0, osb, if_neg t3.1.n5]
  refine (ka_p h0 P K).trans ?_
  refine (ka_p (σ := sI τ k 0 a1) h0 P K).trans ?_
  refine (ka_p (σ := sI (sI τ k 0 a1) k 1 a2) h0 P K).trans ?_
  refine (ka_p (σ := sI (sI (sI τ k 0 a1) k 1 a2) k 2 a3) h0 P K).trans ?_
  refine (ka_b (σ := sI (sI (sI (sI τ k 0 a1) k 1 a2) k 2 a3) k 3 a4) h0 P K hy).trans ?_
  rfl
theorem co_o (h : Ovr σ M) : f_X10_readCore_86 M a1 a2 a3 a4 y σ = some σ := by
  unfold f_X10_readCore_86
  rw [go_o h, osb, h.g, osb, if_pos rfl]
theorem co_o2 (h : Ovr σ M) : ∀ x, ((f_X10_isWord M 22 σ).bind fun q6 => if q6.1 = 0 then (f_X10_isWord M 23 q6.2).bind fun q8 => if q8.1 = 0 then (f_X10_flaw M 1 q8.2).bind fun σ10 => f_X10_readCore_86 M a1 a2 a3 x q6.1 σ10 else f_X10_readCore_86 M a1 a2 a3 x q6.1 q8.2 else f_X10_readCore_86 M a1 a2 a3 x q6.1 q6.2) = some σ := fun x => by
  rw [iw_o h, osb]
  dsimp only
  rw [if_pos rfl, iw_o h, osb]
  dsimp only
  rw [if_pos rfl, fl_o h, osb, co_o h]
theorem rco_r (T : RG σ M L b p) (C : RC σ M k (fun _ _ => 0)) (h6 : tkS b L p = 1) : ∃ τ, f_X10_readCore M σ = some τ ∧ FrK M k σ τ ∧ OutQ τ M (pCore b L (adP b L p)) (fun q => RLn τ M L b k q.1 q.2) := by
  have hk := C.2.2.2
  unfold f_X10_readCore f_X10_readCore_0 f_X10_readCore_15
  rw [if_pos T.1.t, gR_k T.1.t C.1, osb, gI_k C.2.1.1, osb, C.2.2.1.1, if_pos (by decide), pCore_e, adP_n (Or.inl h6)]
  obtain ⟨τ, t1, t2, t3⟩ := gon_g T (by omega)
  rw [t1, osb]
  obtain ⟨v0, σ0, s1, s2, s3⟩ := rp_r t3 (i := 18) (by omega) 9 24
  have F0 := t2.trans s2
  rw [s1, osb]
  dsimp only
  cases e0 : pPart b L (sW 18) 9 24 (nxP b L p) with
  | inl e =>
    rw [e0] at s3
    have ov : Ovr σ0 M := ⟨s3.1, s3.2.1⟩
    rw [rp_o ov, osb]
    dsimp only
    rw [rp_o ov, osb]
    dsimp only
    rw [rp_o ov, osb]
    dsimp only
    rw [co_o2 ov]
    exact ⟨σ0, rfl, F0.toK, s3⟩
  | inr q0 =>
    rw [e0] at s3
    obtain ⟨rfl, T0⟩ := s3
    obtain ⟨v1, σ1, s1, s2, s3⟩ := rp_r T0 (i := 19) (by omega) 2 12
    have F1 := F0.trans s2
    rw [s1, osb]
    dsimp only [andS]
    cases e1 : pPart b L (sW 19) 2 12 q0.2 with
    | inl e =>
      rw [e1] at s3
      have ov : Ovr σ1 M := ⟨s3.1, s3.2.1⟩
      rw [rp_o ov, osb]
      dsimp only
      rw [rp_o ov, osb]
      dsimp only
      rw [co_o2 ov]
      exact ⟨σ1, rfl, F1.toK, s3⟩
    | inr q1 =>
      rw [e1] at s3
      obtain ⟨rfl, T1⟩ := s3
      obtain ⟨v2, σ2, s1, s2, s3⟩ := rp_r T1 (i := 20) (by omega) 0 4
      have F2 := F1.trans s2
      rw [s1, osb]
      dsimp only [andS]
      cases e2 : pPart b L (sW 20) 0 4 q1.2 with
      | inl e =>
        rw [e2] at s3
        have ov : Ovr σ2 M := ⟨s3.1, s3.2.1⟩
        rw [rp_o ov, osb]
        dsimp only
        rw [co_o2 ov]
        exact ⟨σ2, rfl, F2.toK, s3⟩
      | inr q2 =>
        rw [e2] at s3
        obtain ⟨rfl, T2⟩ := s3
        obtain ⟨v3, σ3, s1, s2, s3⟩ := rp_r T2 (i := 21) (by omega) 1 4
        have F3 := F2.trans s2
        rw [s1, osb]
        dsimp only [andS]
        cases e3 : pPart b L (sW 21) 1 4 q2.2 with
        | inl e =>
          rw [e3] at s3
          have ov : Ovr σ3 M := ⟨s3.1, s3.2.1⟩
          rw [co_o2 ov]
          exact ⟨σ3, rfl, F3.toK, s3⟩
        | inr q3 =>
          rw [e3] at s3
          obtain ⟨rfl, T3⟩ := s3
          rw [isw_r T3.1 (i := 22) (by omega), osb]
          dsimp only [andS]
          unfold pOr
          cases hw : isW b L q3.2 (sW 22) with
          | true =>
            have h1 := isW_1 hw
            obtain ⟨τ', u1, u2, u3⟩ := co_w (a1 := q0.1) (a2 := q1.1) (a3 := q2.1) (a4 := q3.1) (y := b2i true) T3 (C.fr F3) (by omega) (by decide)
            rw [if_neg (by decide), u1, if_pos rfl, adP_n (Or.inl h1)]
            refine ⟨_, rfl, ?_, ?_, co_C (C.fr (F3.trans u2))⟩
            · unfold coS
              exact ((((((F3.trans u2).toK.w (by omega) (by omega) (by omega)).w (by omega) (by omega) (by omega)).w (by omega) (by omega) (by omega)).w (by omega) (by omega) (by omega)).w (by omega) (by omega) (by omega))
            · unfold coS
              exact ((((u3.w (by omega)).w (by omega)).w (by omega)).w (by omega)).w (by omega)
          | false =>
            rw [if_pos (by decide), isw_r T3.1 (i := 23) (by omega), osb, if_neg (show ¬ (false = true) by decide)]
            dsimp only
            cases hw2 : isW b L q3.2 (sW 23) with
            | true =>
              have h1 := isW_1 hw2
              obtain ⟨τ', u1, u2, u3⟩ := co_w (a1 := q0.1) (a2 := q1.1) (a3 := q2.1) (a4 := q3.1) (y := b2i false) T3 (C.fr F3) (by omega) (by decide)
              rw [if_neg (by decide), u1, if_pos rfl, adP_n (Or.inl h1)]
              refine ⟨_, rfl, ?_, ?_, co_C (C.fr (F3.trans u2))⟩
              · unfold coS
                exact ((((((F3.trans u2).toK.w (by omega) (by omega) (by omega)).w (by omega) (by omega) (by omega)).w (by omega) (by omega) (by omega)).w (by omega) (by omega) (by omega)).w (by omega) (by omega) (by omega))
              · unfold coS
                exact ((((u3.w (by omega)).w (by omega)).w (by omega)).w (by omega)).w (by omega)
            | false =>
              obtain ⟨τ', u1, u2, u3, u4, u5⟩ := fl_r T3.1 1
              rw [if_pos (by decide), u1, osb, co_o u3, if_neg (show ¬ (false = true) by decide)]
              exact ⟨τ', rfl, (F3.trans u2).toK, u3.1, u3.2, u4, u5⟩
end Rln
