/-! A CYCLE: as rows change; the class's -/
def nN (x : Nat → Int32) : Nat := (x 34).toNatClampNeg
def cm1 (c : Nat → Nat → Int32) (x : Nat → Int32) : Nat → Int32 := if wncE x (nN x) = 0 then coE c x else x
def rn1 (c : Nat → Nat → Int32) (x : Nat → Int32) : (Nat → Int32) × Bool := match fstN (runE x) (nN x) with
  | some i => (rnE c x i, msE c x i)
  | none => (x, false)
def fc1 (c : Nat → Nat → Int32) (nc : Nat) (x : Nat → Int32) : Nat → Int32 := if wnfE c x (nN x) nc = 0 then ftE c x (nN x) nc else x
def cmk (c : Nat → Nat → Int32) : Nat → (Nat → Int32) → Nat → Int32
  | 0, x => x
  | q + 1, x => cmk c q (cm1 c x)
def rnk (c : Nat → Nat → Int32) : Nat → (Nat → Int32) → Bool → (Nat → Int32) × Bool
  | 0, x, b => (x, b)
  | q + 1, x, b => if b = true then (x, b) else rnk c q (rn1 c x).1 (rn1 c x).2
def fck (c : Nat → Nat → Int32) (nc : Nat) : Nat → (Nat → Int32) → Nat → Int32
  | 0, x => x
  | q + 1, x => fck c nc q (fc1 c nc x)
/-- a cycle: the row behind it, and was there a miss -/
def cyE (c : Nat → Nat → Int32) (nc : Nat) (x : Nat → Int32) : (Nat → Int32) × Bool := (fck c nc 2 (rnk c 2 (cmk c 2 x) false).1, (rnk c 2 (cmk c 2 x) false).2)
def Rk (c : Nat → Nat → Int32) (m : Nat) (x : Nat → Int32) (nc : Nat) : Prop := Rok c m x (nN x) nc ∧ (x 36 = 1 → nN x = 0)
section Cyc
variable {σ τ : St} {a p y M k : Nat} {c : Nat → Nat → Int32} {m : Nat} {x : Nat → Int32} {n n' nc : Nat}
theorem Rok.hn (R : Rok c m x n nc) : nN x = n := by
  unfold nN
  rw [R.2.1.2.2.2.1, nI_clamp (by have := R.n12; omega)]
theorem wnc0 (h : wncE x n = 0) : 0 < n := by
  unfold wncE at h
  by_cases h0 : n = 0
  · rw [if_pos h0] at h; exact absurd h (by decide)
  · omega
theorem Rk.co (K : Rk c m x nc) (h0 : 0 < nN x) : Rk c m (coE c x) nc ∧ nN (coE c x) = coN x (nN x) := by
  obtain ⟨R, h36⟩ := K
  obtain ⟨k1, k2, k3⟩ := keep_co R.2.1 R.1 R.2.2.1 R.2.2.2 h0
  have R' : Rok c m (coE c x) (coN x (nN x)) nc := ⟨R.1, k1, k2, k3⟩
  have e := R'.hn
  refine ⟨⟨by rw [e]; exact R', fun h => ?_⟩, e⟩
  rw [e]
  cases ht : hasB x 0 2 with
  | true => unfold coN; rw [if_pos ht]
  | false =>
    rw [(co_pt R.2.1 R.1 h0 ht).2.2.2.1 36 (by omega) (by omega) (by omega) (by omega)] at h
    have := h36 h
    omega
theorem Rk.rn (K : Rk c m x nc) {i : Nat} (hi : i < nN x) : Rk c m (rnE c x i) nc ∧ nN (rnE c x i) = rnN c x i (nN x) := by
  obtain ⟨R, h36⟩ := K
  obtain ⟨k1, k2⟩ := keep_rn R.2.1 R.2.2.1 hi
  have R' : Rok c m (rnE c x i) (rnN c x i (nN x)) nc := ⟨R.1, k1, k2, keep_rnV R.2.1 R.1 R.2.2.2 hi⟩
  have e := R'.hn
  refine ⟨⟨by rw [e]; exact R', fun h => ?_⟩, e⟩
  rw [(rn_pt R.2.1 hi).1 36 (by omega)] at h
  have := h36 h
  omega
theorem Rk.ft (K : Rk c m x nc) (h : wnfE c x (nN x) nc = 0) : Rk c m (ftE c x (nN x) nc) nc ∧ nN (ftE c x (nN x) nc) = nN x + 1 := by
  obtain ⟨R, h36⟩ := K
  have C := R.1
  obtain ⟨s, hs, es, h3, hl, h6⟩ := wnf0 h C.2.1 C.1
  obtain ⟨k1, k2, k3, k4⟩ := keep_ft R.2.1 C R.2.2.1 R.2.2.2 hs es h3 hl
  have R' : Rok c m (ftE c x (nN x) nc) (nN x + 1) nc := ⟨C, k2, k3, k4⟩
  have e := R'.hn
  refine ⟨⟨by rw [e]; exact R', fun h => ?_⟩, e⟩
  have ess : (x 35).toNatClampNeg = s := by rw [es, nI_clamp (by have := C.1; omega)]
  have hfe : ftE c x (nN x) nc = ft2 c (ft1 c x (nN x) nc s) (nN x) s (newE c x (nN x) nc s) (oneE c x (nN x) s) (twoE c x (nN x) s) (merE c x (nN x) s) (savE c x (nN x) s) := by unfold ftE; rw [ess]
  rw [hfe, ft2_lo (by omega) (by omega) (by omega)] at h
  have : ft1 c x (nN x) nc s 36 = x 36 := by
    unfold ft1
    by_cases h : c 1 s = 5 ∨ merE c x (nN x) s = true
    · rw [if_pos h]
    · rw [if_neg h]; unfold takE; rw [ux_n (by omega), ux_n (by omega)]
  rw [this] at h
  exact absurd h h6
theorem cmk_id (h : ¬ wncE x (nN x) = 0) : ∀ q, cmk c q x = x
  | 0 => rfl
  | q + 1 => by
    have : cm1 c x = x := by unfold cm1; rw [if_neg h]
    simp only [cmk, this]; exact cmk_id h q
theorem fck_id (h : ¬ wnfE c x (nN x) nc = 0) : ∀ q, fck c nc q x = x
  | 0 => rfl
  | q + 1 => by
    have : fc1 c nc x = x := by unfold fc1; rw [if_neg h]
    simp only [fck, this]; exact fck_id h q
/-- the Cycles at y with the Machine at a -/
def Yc (σ : St) (y a : Nat) : Prop := hT σ y = 1 ∧ hP σ y 0 = some a
theorem Yc.fr {S : Nat → Prop} (h : Yc σ y a) (F : Fr S σ τ) : Yc τ y a := ⟨by rw [F.1]; exact h.1, by rw [F.2.2.1]; exact h.2⟩
theorem cy2_c (hd : p + 10 < a) : ∀ (q i fu : Nat) (σ : St) (x : Nat → Int32), i + q = 2 → q < fu → Yc σ y a → Mc σ a p c m x (nN x) nc → Rk c m x nc → ∃ τ, f_X0_goOneCycle_2 fu y (nI i) σ = f_X0_goOneCycle_31 y τ ∧ Fr (inM a) σ τ ∧ Mc τ a p c m (cmk c q x) (nN (cmk c q x)) nc ∧ Rk c m (cmk c q x) nc
  | 0, i, fu, σ, x, hi, hf, Y, D, K => by
    obtain ⟨f, rfl⟩ : ∃ f, fu = f + 1 := ⟨fu - 1, by omega⟩
    obtain rfl : i = 2 := by omega
    rw [e_X0_goOneCycle_2, if_pos (by decide)]
    exact ⟨σ, rfl, Fr.refl, D, K⟩
  | q + 1, i, fu, σ, x, hi, hf, Y, D, K => by
    obtain ⟨f, rfl⟩ : ∃ f, fu = f + 1 := ⟨fu - 1, by omega⟩
    rw [e_X0_goOneCycle_2, if_neg (show ¬ (2 : Int32) ≤ nI i from nI_ge (a := i) (b := 2) (by omega) (by omega)), gR_k Y.1 Y.2, osb, wnr_j D K.1.2.2.1, osb]
    dsimp only
    by_cases h : wncE x (nN x) = 0
    · obtain ⟨τ, t1, t2, t3, t4⟩ := retire_j D hd K.1.2.2.1 K.1.2.2.2 (wnc0 h)
      obtain ⟨K', e⟩ := K.co (wnc0 h)
      rw [if_pos h, gR_k Y.1 Y.2, osb, t1, osb, nI_1]
      dsimp only
      obtain ⟨υ, u1, u2, u3, u4⟩ := cy2_c hd q (i + 1) f τ (coE c x) (by omega) (by omega) (Y.fr t2) (by rw [e]; exact t3) K'
      have hc : cmk c (q + 1) x = cmk c q (coE c x) := by simp only [cmk, cm1, if_pos h]
      rw [hc]
      exact ⟨υ, u1, t2.trans u2, u3, u4⟩
    · rw [if_neg h, cmk_id h]
      exact ⟨σ, rfl, Fr.refl, D, K⟩
theorem cy90_c (hd : p + 10 < a) (v : Int32) : ∀ (q i fu : Nat) (σ : St) (x : Nat → Int32), i + q = 2 → q < fu → Yc σ y a → Mc σ a p c m x (nN x) nc → Rk c m x nc → ∃ τ, f_X0_goOneCycle_90 fu y v (nI i) σ = some (v, τ) ∧ Fr (inM a) σ τ ∧ Mc τ a p c m (fck c nc q x) (nN (fck c nc q x)) nc ∧ Rk c m (fck c nc q x) nc
  | 0, i, fu, σ, x, hi, hf, Y, D, K => by
    obtain ⟨f, rfl⟩ : ∃ f, fu = f + 1 := ⟨fu - 1, by omega⟩
    obtain rfl : i = 2 := by omega
    rw [e_X0_goOneCycle_90, if_pos (by decide)]
    exact ⟨σ, rfl, Fr.refl, D, K⟩
  | q + 1, i, fu, σ, x, hi, hf, Y, D, K => by
    obtain ⟨f, rfl⟩ : ∃ f, fu = f + 1 := ⟨fu - 1, by omega⟩
    rw [e_X0_goOneCycle_90, if_neg (show ¬ (2 : Int32) ≤ nI i from nI_ge (a := i) (b := 2) (by omega) (by omega)), gR_k Y.1 Y.2, osb, wnt_c D, osb]
    dsimp only
    by_cases h : wnfE c x (nN x) nc = 0
    · obtain ⟨τ, t1, t2, t3, t4⟩ := take_j D hd K.1.2.2.1 K.1.2.2.2 h
      obtain ⟨K', e⟩ := K.ft h
      rw [if_pos h, gR_k Y.1 Y.2, osb, t1, osb, nI_1]
      dsimp only
      obtain ⟨υ, u1, u2, u3, u4⟩ := cy90_c hd v q (i + 1) f τ (ftE c x (nN x) nc) (by omega) (by omega) (Y.fr t2) (by rw [e]; exact t3) K'
      have hc : fck c nc (q + 1) x = fck c nc q (ftE c x (nN x) nc) := by simp only [fck, fc1, if_pos h]
      rw [hc]
      exact ⟨υ, u1, t2.trans u2, u3, u4⟩
    · rw [if_neg h, fck_id h]
      exact ⟨σ, rfl, Fr.refl, D, K⟩
end Cyc
