/-! THE CLASS: a Machine stands for a row; what it is asked -/
def PSh (σ : St) (p : Nat) : Prop := hT σ p = 6 ∧ Fld σ p 6 (p + 1) 22 24 ∧ Fld σ p 7 (p + 2) 22 24 ∧ Fld σ p 8 (p + 3) 22 24 ∧ Fld σ p 9 (p + 4) 22 24 ∧ Fld σ p 10 (p + 5) 22 24 ∧ Fld σ p 11 (p + 6) 23 24 ∧ Fld σ p 13 (p + 7) 22 4 ∧ Fld σ p 14 (p + 8) 22 4 ∧ Fld σ p 16 (p + 9) 22 6 ∧ Fld σ p 17 (p + 10) 22 6
/-- the class's program stands for c; m steps -/
def PR (c : Nat → Nat → Int32) (m : Nat) (σ : St) (p : Nat) : Prop := (hI σ p 0 = c 0 0 ∧ hI σ p 1 = c 0 1 ∧ hI σ p 2 = c 0 2 ∧ hI σ p 3 = c 0 3 ∧ hI σ p 4 = c 0 4 ∧ hI σ p 5 = c 0 5 ∧ hI σ p 12 = c 0 6 ∧ hI σ p 15 = c 0 7) ∧ (∀ s, s < m → hI σ (p + 1) s = c 1 s ∧ hI σ (p + 2) s = c 2 s ∧ hI σ (p + 3) s = c 3 s ∧ hI σ (p + 4) s = c 4 s ∧ hI σ (p + 5) s = c 5 s ∧ hI σ (p + 6) s = c 6 s) ∧ (∀ u, nI u < c 0 6 → u < 4 → hI σ (p + 7) u = c 7 u ∧ hI σ (p + 8) u = c 8 u) ∧ (∀ g, nI g < c 0 7 → g < 6 → hI σ (p + 9) g = c 9 g ∧ hI σ (p + 10) g = c 10 g)
/-- what a program keeps to -/
def Cok (c : Nat → Nat → Int32) (m : Nat) : Prop := m ≤ 24 ∧ c 0 5 = nI m ∧ (∃ w, 2 ≤ w ∧ w ≤ 12 ∧ c 0 1 = nI w) ∧ isN (c 0 2) 5 ∧ isN (c 0 3) 5 ∧ (c 0 4 = 0 ∨ c 0 4 = 1) ∧
  ∀ s, s < m → isN (c 1 s) 6 ∧ (if c 1 s = 5 then c 2 s = -1 else isN (c 2 s) 8) ∧ (if c 1 s = 0 then c 3 s = -1 else isN (c 3 s) 8) ∧ (if c 1 s = 0 ∨ c 1 s = 4 then c 4 s = -1 else isN (c 4 s) 8) ∧ isN (c 5 s) 10000 ∧ (c 6 s = 0 ∨ c 6 s = 1)
def MSh (σ : St) (a : Nat) : Prop := hT σ a = 4 ∧ Fld σ a 2 (a + 1) 22 24 ∧ Fld σ a 4 (a + 2) 22 8 ∧ Fld σ a 7 (a + 3) 22 12 ∧ Fld σ a 8 (a + 4) 22 12 ∧ Fld σ a 9 (a + 5) 22 12 ∧ Fld σ a 10 (a + 6) 22 12
def risE (c : Nat → Nat → Int32) (x : Nat → Int32) (i : Nat) : Bool := decide (kdE c x i = 5) || decide (kdE c x i = 3)
/-- the Machine at a stands for the row x of n entries and nc cells -/
def MR (c : Nat → Nat → Int32) (x : Nat → Int32) (n nc : Nat) (σ : St) (a : Nat) : Prop :=
  (hI σ a 1 = nI nc ∧ hI σ a 3 = x 33 ∧ hI σ a 5 = x 8 ∧ hI σ a 6 = nI n ∧ hI σ a 16 = x 35 ∧ hI σ a 17 = x 36 ∧ hI σ a 18 = x 38 ∧ hI σ a 19 = x 37) ∧
  (∀ w, w < 24 → hI σ (a + 1) w = x (9 + w)) ∧ (∀ r, r < 8 → hI σ (a + 2) r = x r) ∧
  (∀ i, i < n → hI σ (a + 3) i = x (39 + 13 * i) ∧ hI σ (a + 4) i = x (39 + 13 * i + 1) ∧ hI σ (a + 5) i = x (39 + 13 * i + 2) ∧ hI σ (a + 6) i = x (39 + 13 * i + 3)) ∧
  (∀ i, i < 32 → bt (hI σ a 11) i = (decide (i < n) && risE c x i) ∧ bt (hI σ a 12) i = (decide (i < n) && hasB x i 1) ∧ bt (hI σ a 13) i = (decide (i < n) && hasB x i 2) ∧ bt (hI σ a 14) i = (decide (i < n) && hasB x i 4) ∧ bt (hI σ a 15) i = (decide (i < n) && hasB x i 8))
/-- what a row keeps to -/
def Xok (c : Nat → Nat → Int32) (m : Nat) (x : Nat → Int32) (n nc : Nat) : Prop :=
  n ≤ 12 ∧ nI n ≤ c 0 1 ∧ nc ≤ 24 ∧ x 34 = nI n ∧ (x 36 = 0 ∨ x 36 = 1) ∧ ((c 0 4 = 0 → x 8 = 0) ∧ ∀ r, r < 32 → 8 ≤ r → bt (x 8) r = false) ∧ (∀ r, r < 8 → isN (x r) nc) ∧
  (∀ i, i < n → isN (x (39 + 13 * i)) m ∧ (if kdE c x i = 5 then x (39 + 13 * i + 1) = -2 else isN (x (39 + 13 * i + 1)) nc) ∧ isC (x (39 + 13 * i + 2)) nc ∧ isC (x (39 + 13 * i + 3)) nc)
/-- the Machine a over the program p -/
def Mc (σ : St) (a p : Nat) (c : Nat → Nat → Int32) (m : Nat) (x : Nat → Int32) (n nc : Nat) : Prop := MSh σ a ∧ hP σ a 0 = some p ∧ PSh σ p ∧ PR c m σ p ∧ Cok c m ∧ MR c x n nc σ a ∧ Xok c m x n nc
theorem isC.mono {v : Int32} {a b : Nat} (h : isC v a) (hab : a ≤ b) : isC v b := h.elim Or.inl (fun ⟨w, h1, h2⟩ => Or.inr ⟨w, by omega, h2⟩)
theorem Xok.xs {c : Nat → Nat → Int32} {m n nc : Nat} {x : Nat → Int32} (h : Xok c m x n nc) (hm : m ≤ 24) : Xs x n := ⟨h.1, fun i hi => by obtain ⟨w, h1, h2⟩ := (h.2.2.2.2.2.2.2 i hi).1; exact ⟨w, by omega, h2⟩⟩
theorem i_nI_neg {v : Int32} {n : Nat} (hv : isC v n) (hn : n ≤ 100) : (v < 0 ↔ v = -2) ∧ (0 ≤ v ↔ ¬ v = -2) := by
  rcases hv with h | ⟨w, hw, rfl⟩
  · subst h; decide
  · have h1 := nI_pos (n := w) (by omega)
    have h2 := nI_pos' (n := w) (by omega)
    have h3 := nI_nm2 (w := w) (by omega)
    exact ⟨⟨fun h => absurd h h1, fun h => absurd h h3⟩, ⟨fun _ => h3, fun _ => h2⟩⟩
section Cls
variable {σ : St} {a p : Nat} {c : Nat → Nat → Int32} {m : Nat} {x : Nat → Int32} {n nc : Nat}
theorem Mc.t (D : Mc σ a p c m x n nc) : hT σ a = 4 := D.1.1
theorem Mc.po (D : Mc σ a p c m x n nc) : gR 4 0 a σ = some p := gR_k D.1.1 D.2.1
theorem Mc.st (D : Mc σ a p c m x n nc) {i : Nat} (hi : i < n) : x (39 + 13 * i) = nI (sS x i) ∧ sS x i < m ∧ sS x i < 24 := by
  obtain ⟨w, h1, h2⟩ := (D.2.2.2.2.2.2.2.2.2.2.2.2.2 i hi).1
  have hm : m ≤ 24 := D.2.2.2.2.1.1
  have : sS x i = w := by unfold sS; rw [h2, nI_clamp (by omega)]
  exact ⟨by rw [this]; exact h2, by omega, by omega⟩
theorem Mc.n12 (D : Mc σ a p c m x n nc) : n ≤ 12 := D.2.2.2.2.2.2.1
theorem Mc.c24 (D : Mc σ a p c m x n nc) : nc ≤ 24 := D.2.2.2.2.2.2.2.2.1
theorem Mc.e (D : Mc σ a p c m x n nc) {i : Nat} (hi : i < n) : (gR 4 7 a σ = some (a + 3) ∧ aI 22 (a + 3) (nI i) σ = some (x (39 + 13 * i))) ∧ (gR 4 8 a σ = some (a + 4) ∧ aI 22 (a + 4) (nI i) σ = some (x (39 + 13 * i + 1))) ∧ (gR 4 9 a σ = some (a + 5) ∧ aI 22 (a + 5) (nI i) σ = some (x (39 + 13 * i + 2))) ∧ (gR 4 10 a σ = some (a + 6) ∧ aI 22 (a + 6) (nI i) σ = some (x (39 + 13 * i + 3))) := by
  have h12 := D.n12
  obtain ⟨⟨t0, t1, t2, t3, t4, t5, t6⟩, -, -, -, -, ⟨-, -, -, q, -⟩, -⟩ := D
  obtain ⟨q1, q2, q3, q4⟩ := q i hi
  exact ⟨⟨t3.r t0, by rw [t3.g (by omega) (by omega), q1]⟩, ⟨t4.r t0, by rw [t4.g (by omega) (by omega), q2]⟩, ⟨t5.r t0, by rw [t5.g (by omega) (by omega), q3]⟩, ⟨t6.r t0, by rw [t6.g (by omega) (by omega), q4]⟩⟩
theorem Mc.v (D : Mc σ a p c m x n nc) {w : Nat} (hw : w < 24) : gR 4 2 a σ = some (a + 1) ∧ aI 22 (a + 1) (nI w) σ = some (x (9 + w)) := by
  obtain ⟨⟨t0, t1, -⟩, -, -, -, -, ⟨-, q, -⟩, -⟩ := D
  exact ⟨t1.r t0, by rw [t1.g hw (by omega), q w hw]⟩
theorem Mc.k (D : Mc σ a p c m x n nc) {r : Nat} (hr : r < 8) : gR 4 4 a σ = some (a + 2) ∧ aI 22 (a + 2) (nI r) σ = some (x r) := by
  obtain ⟨⟨t0, -, t2, -⟩, -, -, -, -, ⟨-, -, q, -⟩, -⟩ := D
  exact ⟨t2.r t0, by rw [t2.g hr (by omega), q r hr]⟩
theorem Mc.pr (D : Mc σ a p c m x n nc) {s : Nat} (hs : s < m) : (gR 6 6 p σ = some (p + 1) ∧ aI 22 (p + 1) (nI s) σ = some (c 1 s)) ∧ (gR 6 7 p σ = some (p + 2) ∧ aI 22 (p + 2) (nI s) σ = some (c 2 s)) ∧ (gR 6 8 p σ = some (p + 3) ∧ aI 22 (p + 3) (nI s) σ = some (c 3 s)) ∧ (gR 6 9 p σ = some (p + 4) ∧ aI 22 (p + 4) (nI s) σ = some (c 4 s)) ∧ (gR 6 10 p σ = some (p + 5) ∧ aI 22 (p + 5) (nI s) σ = some (c 5 s)) ∧ (gR 6 11 p σ = some (p + 6) ∧ aI 23 (p + 6) (nI s) σ = some (c 6 s)) := by
  have hm : m ≤ 24 := D.2.2.2.2.1.1
  obtain ⟨-, -, ⟨t0, t1, t2, t3, t4, t5, t6, -⟩, ⟨-, q, -⟩, -⟩ := D
  obtain ⟨q1, q2, q3, q4, q5, q6⟩ := q s hs
  exact ⟨⟨t1.r t0, by rw [t1.g (by omega) (by omega), q1]⟩, ⟨t2.r t0, by rw [t2.g (by omega) (by omega), q2]⟩, ⟨t3.r t0, by rw [t3.g (by omega) (by omega), q3]⟩, ⟨t4.r t0, by rw [t4.g (by omega) (by omega), q4]⟩, ⟨t5.r t0, by rw [t5.g (by omega) (by omega), q5]⟩, ⟨t6.r t0, by rw [t6.g (by omega) (by omega), q6]⟩⟩
theorem Mc.f (D : Mc σ a p c m x n nc) : gI 4 1 a σ = some (nI nc) ∧ gI 4 3 a σ = some (x 33) ∧ gI 4 5 a σ = some (x 8) ∧ gI 4 6 a σ = some (nI n) ∧ gI 4 16 a σ = some (x 35) ∧ gI 4 17 a σ = some (x 36) ∧ gI 4 18 a σ = some (x 38) ∧ gI 4 19 a σ = some (x 37) := by
  obtain ⟨⟨t0, -⟩, -, -, -, -, ⟨⟨h1, h2, h3, h4, h5, h6, h7, h8⟩, -⟩, -⟩ := D
  exact ⟨by rw [gI_k t0, h1], by rw [gI_k t0, h2], by rw [gI_k t0, h3], by rw [gI_k t0, h4], by rw [gI_k t0, h5], by rw [gI_k t0, h6], by rw [gI_k t0, h7], by rw [gI_k t0, h8]⟩
theorem Mc.g (D : Mc σ a p c m x n nc) : gI 6 0 p σ = some (c 0 0) ∧ gI 6 1 p σ = some (c 0 1) ∧ gI 6 2 p σ = some (c 0 2) ∧ gI 6 3 p σ = some (c 0 3) ∧ gI 6 4 p σ = some (c 0 4) ∧ gI 6 5 p σ = some (c 0 5) ∧ gI 6 12 p σ = some (c 0 6) ∧ gI 6 15 p σ = some (c 0 7) := by
  obtain ⟨-, -, ⟨t0, -⟩, ⟨⟨h1, h2, h3, h4, h5, h6, h7, h8⟩, -⟩, -⟩ := D
  exact ⟨by rw [gI_k t0, h1], by rw [gI_k t0, h2], by rw [gI_k t0, h3], by rw [gI_k t0, h4], by rw [gI_k t0, h5], by rw [gI_k t0, h6], by rw [gI_k t0, h7], by rw [gI_k t0, h8]⟩
theorem Mc.b (D : Mc σ a p c m x n nc) {i : Nat} (hi : i < n) : bt (hI σ a 11) i = risE c x i ∧ bt (hI σ a 12) i = hasB x i 1 ∧ bt (hI σ a 13) i = hasB x i 2 ∧ bt (hI σ a 14) i = hasB x i 4 ∧ bt (hI σ a 15) i = hasB x i 8 := by
  have h12 := D.n12
  have := D.2.2.2.2.2.1.2.2.2.2 i (by omega)
  simpa [hi] using this
theorem done_c (D : Mc σ a p c m x n nc) {i : Nat} (hi : i < n) : f_X3_isDone a (nI i) σ = some (b2i (hasB x i 1), σ) := by
  have h12 := D.n12
  unfold f_X3_isDone f_X3_isDone_0 f_X3_isDone_17
  rw [if_pos D.t, gI_k D.t, osb]
  simp only [b_ask1 _ (show i < 32 by omega), (D.b hi).2.1]
  cases hasB x i 1 <;> simp [b2i]
theorem rdy_c (D : Mc σ a p c m x n nc) {v : Int32} (hv : isC v nc) : f_X3_isReady a v σ = some (b2i (!decide (v = -2) && rdyE x v), σ) := by
  have h24 := D.c24
  obtain ⟨h1, h2⟩ := i_nI_neg hv (by omega)
  unfold f_X3_isReady f_X3_isReady_0 f_X3_isReady_20 f_X3_isReady_21
  rw [if_pos D.t]
  by_cases hm : v = -2
  · rw [if_pos (h1.mpr hm)]; simp [hm, b2i]
  · rw [if_neg (fun h => hm (h1.mp h)), D.f.2.1, osb]
    rcases hv with hv | ⟨w, hw, rfl⟩
    · exact absurd hv hm
    · simp only [b_ask1 _ (show w < 32 by omega), rdyE, hm, nI_clamp (show w < 2 ^ 31 by omega)]
      cases bt (x 33) w <;> simp [b2i]
theorem canR_c (D : Mc σ a p c m x n nc) {v : Int32} (hv : isC v nc) : f_X3_canRead a v σ = some (b2i (rdyE x v), σ) := by
  have h24 := D.c24
  obtain ⟨h1, h2⟩ := i_nI_neg hv (by omega)
  unfold f_X3_canRead f_X3_canRead_0 f_X3_canRead_12 f_X3_canRead_17
  rw [if_pos D.t]
  by_cases hm : v = -2
  · rw [if_pos (h1.mpr hm)]; simp [hm, b2i, rdyE]
  · rw [if_neg (fun h => hm (h1.mp h)), rdy_c D hv, osb]
    simp only [hm, decide_false, Bool.not_false, Bool.true_and]
    cases rdyE x v <;> simp [b2i]
theorem Mc.c2 (D : Mc σ a p c m x n nc) {i : Nat} (hi : i < n) : isC (x (39 + 13 * i + 2)) nc ∧ isC (x (39 + 13 * i + 3)) nc := ⟨(D.2.2.2.2.2.2.2.2.2.2.2.2.2 i hi).2.2.1, (D.2.2.2.2.2.2.2.2.2.2.2.2.2 i hi).2.2.2⟩
theorem Mc.c1 (D : Mc σ a p c m x n nc) {i : Nat} (hi : i < n) : isC (x (39 + 13 * i + 1)) nc := by
  have := (D.2.2.2.2.2.2.2.2.2.2.2.2.2 i hi).2.1
  by_cases h : kdE c x i = 5
  · rw [if_pos h] at this; exact Or.inl this
  · rw [if_neg h] at this; exact Or.inr this
theorem canW_c (D : Mc σ a p c m x n nc) {i : Nat} (hi : i < n) : f_X3_canWork a (nI i) σ = some (b2i (runE x i), σ) := by
  obtain ⟨-, -, ⟨a1, a2⟩, ⟨b1, b2⟩⟩ := D.e hi
  unfold f_X3_canWork f_X3_canWork_0 f_X3_canWork_38 f_X3_canWork_39
  rw [if_pos D.t, done_c D hi, osb]
  dsimp only
  unfold runE
  cases hd : hasB x i 1 with
  | true => rw [if_neg (by simp [b2i])]; simp [b2i]
  | false =>
    rw [if_pos (by simp [b2i]), a1, osb, a2, osb, canR_c D (D.c2 hi).1, osb]
    dsimp only
    cases hr : rdyE x (x (39 + 13 * i + 2)) with
    | false => simp [b2i]
    | true =>
      rw [if_neg (by simp [b2i]), b1, osb, b2, osb, canR_c D (D.c2 hi).2, osb]
      cases rdyE x (x (39 + 13 * i + 3)) <;> simp [b2i]
theorem val_c (D : Mc σ a p c m x n nc) {v : Int32} (hv : isC v nc) : f_X3_valueRead a v σ = some (vlE x v, σ) := by
  have h24 := D.c24
  obtain ⟨h1, h2⟩ := i_nI_neg hv (by omega)
  unfold f_X3_valueRead f_X3_valueRead_0 f_X3_valueRead_14 vlE
  rw [if_pos D.t]
  by_cases hm : v = -2
  · rw [if_neg (fun h => h2.mp h hm), if_pos hm]
  · rw [if_pos (h2.mpr hm), if_neg hm]
    rcases hv with hv | ⟨w, hw, rfl⟩
    · exact absurd hv hm
    · rw [(D.v (w := w) (by omega)).1, osb, (D.v (w := w) (by omega)).2, osb, nI_clamp (show w < 2 ^ 31 by omega)]
theorem nxb_c (D : Mc σ a p c m x n nc) {s : Nat} (hs : s < m) (u v : Int32) : f_X5_nextBehind p (nI s) u v σ = some (if c 1 s = 5 then nxE c s u v else nI s + 1, σ) := by
  obtain ⟨⟨a1, a2⟩, -, -, -, ⟨b1, b2⟩, -⟩ := D.pr hs
  unfold f_X5_nextBehind f_X5_nextBehind_0 f_X5_nextBehind_24 f_X5_nextBehind_27 nxE
  simp only [D.2.2.1.1, if_true, a1, a2, b1, b2, osb]
  by_cases h5 : c 1 s = 5
  · by_cases h : u = v <;> simp [h5, h]
  · simp [h5]
theorem gsb_c (D : Mc σ a p c m x n nc) {s : Nat} (hs : s < m) : f_X5_guessBehind p (nI s) σ = some (gsE c s, σ) := by
  obtain ⟨⟨a1, a2⟩, -, -, -, ⟨b1, b2⟩, ⟨e1, e2⟩⟩ := D.pr hs
  unfold f_X5_guessBehind f_X5_guessBehind_0 f_X5_guessBehind_28 f_X5_guessBehind_31 gsE
  simp only [D.2.2.1.1, if_true, a1, a2, b1, b2, e1, e2, osb]
  by_cases h5 : c 1 s = 5
  · by_cases h : c 6 s = 0 <;> simp [h5, h]
  · simp [h5]
theorem has_c (D : Mc σ a p c m x n nc) (v : Int32) : f_X5_has p v σ = some (b2i (!decide (v < 0 ∨ c 0 5 ≤ v)), σ) := by
  unfold f_X5_has f_X5_has_0 f_X5_has_16 f_X5_has_17
  simp only [D.2.2.1.1, if_true, D.g.2.2.2.2.2.1, osb]
  by_cases h : v < 0
  · simp [h, b2i]
  · by_cases h2 : c 0 5 ≤ v <;> simp [h, h2, b2i]
theorem map_l (D : Mc σ a p c m x n nc) {r : Nat} (hr : r < 8) : ∀ (i fu : Nat), i ≤ n → i < fu → f_X3_mapBy_4 fu a (nI r) (nI i + (-1)) σ = some (mapE c x r i, σ)
  | 0, fu, _, hf => by
    obtain ⟨f, rfl⟩ : ∃ f, fu = f + 1 := ⟨fu - 1, by omega⟩
    rw [e_X3_mapBy_4, nI_neg1, if_pos (by decide), (D.k hr).1, osb, (D.k hr).2]
    rfl
  | i + 1, fu, hi, hf => by
    obtain ⟨f, rfl⟩ : ∃ f, fu = f + 1 := ⟨fu - 1, by omega⟩
    have hn := D.n12
    obtain ⟨s1, s2, s3⟩ := D.st (i := i) (by omega)
    obtain ⟨⟨a1, a2⟩, ⟨b1, b2⟩, -⟩ := D.e (i := i) (by omega)
    rw [e_X3_mapBy_4, nI_m1, if_neg (nI_pos (by omega)), D.po, osb, (D.pr s2).2.1.1, osb, a1, osb, a2, osb, s1, (D.pr s2).2.1.2, osb]
    show (if toE c x i = nI r then _ else _) = _
    by_cases h : toE c x i = nI r
    · rw [if_pos h, b1, osb, b2, osb]
      simp [mapE, h]
    · rw [if_neg h]
      simp only [mapE, if_neg h]
      exact map_l D hr i f (by omega) (by omega)
theorem map_c (D : Mc σ a p c m x n nc) {r i : Nat} (hr : r < 8) (hi : i ≤ n) : f_X3_mapBy a (nI i) (nI r) σ = some (mapE c x r i, σ) := by
  have h12 := D.n12
  unfold f_X3_mapBy f_X3_mapBy_0
  rw [if_pos D.t, bndu, show nI i - 1 = nI i + (-1) by rw [Int32.sub_eq_add_neg]]
  exact map_l D hr i FU hi (by unfold FU; omega)
theorem bit_c {v : Int32} {q : Nat} (hv : isC v q) (hq : q ≤ 24) : f_X3_bitOf v σ = some (if v = -2 then 0 else jshl 1 v, σ) := by
  obtain ⟨h1, h2⟩ := i_nI_neg hv (by omega)
  unfold f_X3_bitOf f_X3_bitOf_0 f_X3_bitOf_11
  by_cases hm : v = -2
  · rw [if_neg (fun h => h2.mp h hm), if_pos hm]
  · rw [if_pos (h2.mpr hm), if_neg hm]
theorem bitN_c {r : Nat} (hr : r < 24) : f_X3_bitOf (nI r) σ = some (jshl 1 (nI r), σ) := by
  rw [bit_c (Or.inr ⟨r, hr, rfl⟩) (Nat.le_refl 24), if_neg (nI_nm2 (by omega))]
end Cls
