/-! ROWS: what is kept besides; a cell that has not changed -/
def Ru (x : Nat → Int32) (b : Nat) : Prop := (∀ j, 195 ≤ j → x j = 0) ∧ (x 38 = 0 ∨ x 38 = 1) ∧ ∃ w, w ≤ b ∧ x 37 = nI w
def Sm (σ τ : St) (r : Nat) : Prop := hT τ r = hT σ r ∧ hN τ r = hN σ r ∧ hI τ r = hI σ r ∧ hP τ r = hP σ r ∧ hL τ r = hL σ r
def Fg (S : Nat → Prop) (σ τ : St) : Prop := hZ τ = hZ σ ∧ ∀ r, ¬ S r → Sm σ τ r
section Rows
variable {σ τ υ : St} {a p M k y b k' t N : Nat} {c : Nat → Nat → Int32} {m : Nat} {x : Nat → Int32} {n n' nc : Nat} {S S' : Nat → Prop}
theorem Sm.refl {r : Nat} : Sm σ σ r := ⟨rfl, rfl, rfl, rfl, rfl⟩
theorem Sm.trans {r : Nat} (h : Sm σ τ r) (g : Sm τ υ r) : Sm σ υ r := ⟨g.1.trans h.1, g.2.1.trans h.2.1, g.2.2.1.trans h.2.2.1, g.2.2.2.1.trans h.2.2.2.1, g.2.2.2.2.trans h.2.2.2.2⟩
theorem Fr.sm {r : Nat} (F : Fr S σ τ) (h : ¬ S r) : Sm σ τ r := ⟨by rw [F.1], by rw [F.2.1], F.2.2.2.2.2 r h, by rw [F.2.2.1], by rw [F.2.2.2.1]⟩
theorem Fr.g (F : Fr S σ τ) : Fg S σ τ := ⟨F.2.2.2.2.1, fun _ h => F.sm h⟩
theorem Fg.refl : Fg S σ σ := ⟨rfl, fun _ _ => Sm.refl⟩
theorem Fg.trans (h : Fg S σ τ) (g : Fg S τ υ) : Fg S σ υ := ⟨g.1.trans h.1, fun r hr => (h.2 r hr).trans (g.2 r hr)⟩
theorem Fg.mono (h : Fg S σ τ) (g : ∀ r, S r → S' r) : Fg S' σ τ := ⟨h.1, fun r hr => h.2 r (fun q => hr (g r q))⟩
theorem Fg.sI {j : Nat} {v : Int32} (h : S a) : Fg S σ (sI σ a j v) := (Fr.s0 h).g
theorem Fg.sP {j : Nat} {v : Option Nat} (h : S a) : Fg S σ (sP σ a j v) := ⟨rfl, fun r hr => ⟨rfl, rfl, rfl, by funext q; exact hP_sPn (Or.inl (fun e => hr (e ▸ h))), rfl⟩⟩
theorem Fg.sR {f : Nat → Int32} (h : S a) : Fg S σ (sR σ a f) := (Fr.r0 h).g
theorem Fld.sm (h : Fld σ a k b t N) (s1 : Sm σ τ a) (s2 : Sm σ τ b) : Fld τ a k b t N := ⟨by rw [s1.2.2.2.1]; exact h.1, by rw [s2.1]; exact h.2.1, by rw [s2.2.1]; exact h.2.2⟩
theorem MSh.sm (h : MSh σ a) (s : ∀ r, a ≤ r → r ≤ a + 6 → Sm σ τ r) : MSh τ a := by
  obtain ⟨t0, t1, t2, t3, t4, t5, t6⟩ := h
  have s0 := s a (by omega) (by omega)
  exact ⟨by rw [s0.1]; exact t0, t1.sm s0 (s _ (by omega) (by omega)), t2.sm s0 (s _ (by omega) (by omega)), t3.sm s0 (s _ (by omega) (by omega)), t4.sm s0 (s _ (by omega) (by omega)), t5.sm s0 (s _ (by omega) (by omega)), t6.sm s0 (s _ (by omega) (by omega))⟩
theorem PSh.sm (h : PSh σ p) (s : ∀ r, p ≤ r → r ≤ p + 10 → Sm σ τ r) : PSh τ p := by
  obtain ⟨t0, t1, t2, t3, t4, t5, t6, t7, t8, t9, t10⟩ := h
  have s0 := s p (by omega) (by omega)
  exact ⟨by rw [s0.1]; exact t0, t1.sm s0 (s _ (by omega) (by omega)), t2.sm s0 (s _ (by omega) (by omega)), t3.sm s0 (s _ (by omega) (by omega)), t4.sm s0 (s _ (by omega) (by omega)), t5.sm s0 (s _ (by omega) (by omega)), t6.sm s0 (s _ (by omega) (by omega)), t7.sm s0 (s _ (by omega) (by omega)), t8.sm s0 (s _ (by omega) (by omega)), t9.sm s0 (s _ (by omega) (by omega)), t10.sm s0 (s _ (by omega) (by omega))⟩
theorem PR.sm (h : PR c m σ p) (s : ∀ r, p ≤ r → r ≤ p + 10 → Sm σ τ r) : PR c m τ p := by
  have e : ∀ q, q ≤ 10 → hI τ (p + q) = hI σ (p + q) := fun q hq => (s _ (by omega) (by omega)).2.2.1
  have e0 : hI τ p = hI σ p := e 0 (by omega)
  unfold PR at h ⊢
  rw [e0, e 1 (by omega), e 2 (by omega), e 3 (by omega), e 4 (by omega), e 5 (by omega), e 6 (by omega), e 7 (by omega), e 8 (by omega), e 9 (by omega), e 10 (by omega)]
  exact h
theorem MR.sm (h : MR c x n nc σ a) (s : ∀ r, a ≤ r → r ≤ a + 6 → Sm σ τ r) : MR c x n nc τ a := by
  have e : ∀ q, q ≤ 6 → hI τ (a + q) = hI σ (a + q) := fun q hq => (s _ (by omega) (by omega)).2.2.1
  have e0 : hI τ a = hI σ a := e 0 (by omega)
  unfold MR at h ⊢
  rw [e0, e 1 (by omega), e 2 (by omega), e 3 (by omega), e 4 (by omega), e 5 (by omega), e 6 (by omega)]
  exact h
theorem Mc.sm (h : Mc σ a p c m x n nc) (s : ∀ r, a ≤ r → r ≤ a + 6 → Sm σ τ r) (s' : ∀ r, p ≤ r → r ≤ p + 10 → Sm σ τ r) : Mc τ a p c m x n nc := by
  obtain ⟨h1, h2, h3, h4, h5, h6, h7⟩ := h
  exact ⟨h1.sm s, by rw [(s a (by omega) (by omega)).2.2.2.1]; exact h2, h3.sm s', h4.sm s', h5, h6.sm s, h7⟩
theorem CSh.sm (h : CSh σ k) (s : ∀ r, k ≤ r → r ≤ k + 10 → Sm σ τ r) : CSh τ k := by
  obtain ⟨t0, t1, t2, t3, t4, t5, t6, t7, t8, t9, t10⟩ := h
  have s0 := s k (by omega) (by omega)
  exact ⟨by rw [s0.1]; exact t0, t1.sm s0 (s _ (by omega) (by omega)), t2.sm s0 (s _ (by omega) (by omega)), t3.sm s0 (s _ (by omega) (by omega)), t4.sm s0 (s _ (by omega) (by omega)), t5.sm s0 (s _ (by omega) (by omega)), t6.sm s0 (s _ (by omega) (by omega)), t7.sm s0 (s _ (by omega) (by omega)), t8.sm s0 (s _ (by omega) (by omega)), t9.sm s0 (s _ (by omega) (by omega)), t10.sm s0 (s _ (by omega) (by omega))⟩
theorem CR.sm (h : CR c σ k) (s : ∀ r, k ≤ r → r ≤ k + 10 → Sm σ τ r) : CR c τ k := by
  have e : ∀ q, q ≤ 10 → hI τ (k + q) = hI σ (k + q) := fun q hq => (s _ (by omega) (by omega)).2.2.1
  have e0 : hI τ k = hI σ k := e 0 (by omega)
  unfold CR at h ⊢
  rw [e0, e 1 (by omega), e 2 (by omega), e 3 (by omega), e 4 (by omega), e 5 (by omega), e 6 (by omega), e 7 (by omega), e 8 (by omega), e 9 (by omega), e 10 (by omega)]
  exact h
theorem Ru.rn (X : Xok c m x n nc) {i b : Nat} (hi : i < n) (U : Ru x b) : Ru (rnE c x i) b := by
  have h := (rn_pt X hi).1
  have hn := X.1
  exact ⟨fun j hj => by rw [h j (by omega)]; exact U.1 j hj, by rw [h 38 (by omega)]; exact U.2.1, by rw [h 37 (by omega)]; exact U.2.2⟩
theorem Ru.co (X : Xok c m x n nc) (C : Cok c m) (h0 : 0 < n) {b : Nat} (U : Ru x b) : Ru (coE c x) (b + 1) := by
  cases ht : hasB x 0 2 with
  | true =>
    have e : ∀ j, j ≠ 34 → j ≠ 35 → j ≠ 36 → coE c x j = x j := fun j h1 h2 h3 => by
      unfold coE; rw [if_pos ht, ux_n h2, ux_n h3, ux_n h1]
    obtain ⟨w, hw, ew⟩ := U.2.2
    exact ⟨fun j hj => by rw [e j (by omega) (by omega) (by omega)]; exact U.1 j hj, by rw [e 38 (by omega) (by omega) (by omega)]; exact U.2.1, w, by omega, by rw [e 37 (by omega) (by omega) (by omega)]; exact ew⟩
  | false =>
    have hp := (co_pt X C h0 ht).2.2.2.1
    have e37 : coE c x 37 = x 37 + 1 := by unfold coE; rw [if_neg (by rw [ht]; decide)]; exact ux_e
    have hto : toE c x 0 = -1 ∨ isN (toE c x 0) 8 := by
      obtain ⟨s, hs, es⟩ := (X.2.2.2.2.2.2.2 0 h0).1
      have hm := C.1
      have ess : sS x 0 = s := by unfold sS; rw [es, nI_clamp (by omega)]
      have hto := (C.2.2.2.2.2.2 s hs).2.1
      unfold toE
      rw [ess]
      by_cases h5 : c 1 s = 5
      · rw [if_pos h5] at hto; exact Or.inl hto
      · rw [if_neg h5] at hto; exact Or.inr hto
    have eh : ∀ j, 195 ≤ j → coE c x j = x j := fun j hj => by
      unfold coE
      rw [if_neg (by rw [ht]; decide)]
      rw [ux_n (by omega), ux_n (by omega)]
      unfold shf
      rw [if_neg (by omega)]
      rcases hto with h | ⟨r, hr, er⟩
      · rw [if_pos h]
      · rw [if_neg (by rw [er]; exact nI_nm1 (by omega)), ux_n (by omega), er, nI_clamp (by omega), ux_n (by omega)]
    obtain ⟨w, hw, ew⟩ := U.2.2
    exact ⟨fun j hj => by rw [eh j hj]; exact U.1 j hj, by rw [hp 38 (by omega) (by omega) (by omega) (by omega)]; exact U.2.1, w + 1, by omega, by rw [e37, ew, nI_1]⟩
theorem Ru.ft (h12 : n < 12) {b : Nat} (U : Ru x b) : Ru (ftE c x n nc) b := by
  have e : ∀ j, (35 < j ∧ j < 39) ∨ 195 ≤ j → ftE c x n nc j = x j := fun j hj => by
    unfold ftE
    generalize (x 35).toNatClampNeg = s
    have e1 : ft1 c x n nc s j = x j := by
      unfold ft1
      by_cases h : c 1 s = 5 ∨ merE c x n s = true
      · rw [if_pos h]
      · rw [if_neg h]; unfold takE; rw [ux_n (by omega), ux_n (by omega)]
    unfold ft2
    rw [ux_n (by omega), ux_n (by omega), ux_n (by omega), ux_n (by omega), ux_n (by omega), ux_n (by omega), ux_n (by omega), fil_n (by omega), e1]
  exact ⟨fun j hj => by rw [e j (Or.inr hj)]; exact U.1 j hj, by rw [e 38 (by omega)]; exact U.2.1, by rw [e 37 (by omega)]; exact U.2.2⟩
theorem cmk_ru : ∀ (q b : Nat) (x : Nat → Int32), Rk c m x nc → Ru x b → Ru (cmk c q x) (b + q) ∧ Rk c m (cmk c q x) nc
  | 0, b, x, K, U => ⟨U, K⟩
  | q + 1, b, x, K, U => by
    by_cases h : wncE x (nN x) = 0
    · have hk : cmk c (q + 1) x = cmk c q (coE c x) := by simp only [cmk, cm1, if_pos h]
      rw [hk, show b + (q + 1) = b + 1 + q by omega]
      exact cmk_ru q (b + 1) (coE c x) (K.co (wnc0 h)).1 (Ru.co K.1.2.1 K.1.1 (wnc0 h) U)
    · rw [cmk_id h]
      obtain ⟨u1, u2, w, hw, ew⟩ := U
      exact ⟨⟨u1, u2, w, by omega, ew⟩, K⟩
theorem rnk_ru : ∀ (q b : Nat) (x : Nat → Int32) (bb : Bool), Rk c m x nc → Ru x b → Ru (rnk c q x bb).1 b ∧ Rk c m (rnk c q x bb).1 nc
  | 0, b, x, bb, K, U => ⟨U, K⟩
  | q + 1, b, x, true, K, U => ⟨U, K⟩
  | q + 1, b, x, false, K, U => by
    have hr : rnk c (q + 1) x false = rnk c q (rn1 c x).1 (rn1 c x).2 := rfl
    rw [hr]
    cases ho : fstN (runE x) (nN x) with
    | none =>
      have h1 : rn1 c x = (x, false) := by unfold rn1; rw [ho]
      rw [h1]
      exact rnk_ru q b x false K U
    | some j =>
      have h1 : rn1 c x = (rnE c x j, msE c x j) := by unfold rn1; rw [ho]
      have hj := (fstN_some ho).1
      rw [h1]
      exact rnk_ru q b (rnE c x j) (msE c x j) (K.rn hj).1 (Ru.rn K.1.2.1 hj U)
theorem fck_ru : ∀ (q b : Nat) (x : Nat → Int32), Rk c m x nc → Ru x b → Ru (fck c nc q x) b ∧ Rk c m (fck c nc q x) nc
  | 0, b, x, K, U => ⟨U, K⟩
  | q + 1, b, x, K, U => by
    by_cases h : wnfE c x (nN x) nc = 0
    · have hk : fck c nc (q + 1) x = fck c nc q (ftE c x (nN x) nc) := by simp only [fck, fc1, if_pos h]
      obtain ⟨s, hs, es, h3, hl, -⟩ := wnf0 h K.1.1.2.1 K.1.1.1
      have h12 := (keep_ft K.1.2.1 K.1.1 K.1.2.2.1 K.1.2.2.2 hs es h3 hl).1
      rw [hk]
      exact fck_ru q b (ftE c x (nN x) nc) (K.ft h).1 (Ru.ft h12 U)
    · rw [fck_id h]
      exact ⟨U, K⟩
theorem cy_ru {b : Nat} (K : Rk c m x nc) (U : Ru x b) : Ru (cyE c nc x).1 (b + 2) ∧ Rk c m (cyE c nc x).1 nc := by
  rw [cyE_e]
  dsimp only
  obtain ⟨a1, a2⟩ := cmk_ru 2 b x K U
  generalize cmk c 2 x = x1 at a1 a2 ⊢
  obtain ⟨b1, b2⟩ := rnk_ru 2 (b + 2) x1 false a2 a1
  generalize rnk c 2 x1 false = x2 at b1 b2 ⊢
  exact fck_ru 2 (b + 2) x2.1 b2 b1
end Rows
