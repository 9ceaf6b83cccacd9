/-! DRAWN TRIES: both sides -/
def nsE (s : Nat) : Nat := (75 * s + 74) % 65537
def drE (c : Nat → Nat → Int32) (nc : Nat) : Nat → (Nat → Int32) → Nat → Nat → (Nat → Int32) × Nat
  | 0, x, _, t => (x, t)
  | q + 1, x, s, t =>
    if nsE s % 3 = 0 then drE c nc q (fc1 c nc x) (nsE s) t else
    if nsE s % 3 = 1 then (if nN x = 0 then drE c nc q x (nsE s) t else drE c nc q (if runE x (nsE (nsE s) % nN x) = true then rnE c x (nsE (nsE s) % nN x) else x) (nsE (nsE s)) t) else
    drE c nc q (cm1 c x) (nsE s) (t + (if wncE x (nN x) = 0 ∧ hasB x 0 2 = false then 1 else 0))
theorem ns_lt (s : Nat) : nsE s < 65537 := Nat.mod_lt _ (by omega)
theorem ns_i {s : Nat} (h : s < 65537) : jrem (75 * nI s + 74) 65537 = nI (nsE s) := by
  have e : (75 * nI s + 74 : Int32) = nI (75 * s + 74) := by
    show nI 75 * nI s + nI 74 = _
    rw [pk_mul, nI_add]
  rw [e]
  exact pk_rem (a := 75 * s + 74) (d := 65537) (by omega) (by omega) (by omega)
theorem rem_n {s d : Nat} (h : s < 65537) (h0 : 0 < d) (hd : d < 65537) : jrem (nI s) (nI d) = nI (s % d) := pk_rem (by omega) h0 (by omega)
theorem ns_l {s : Nat} (h : s < 65537) : (lrem (75 * (nI s).toInt64 + 74) 65537).toInt32 = nI (nsE s) := by
  rw [nI_l (by omega)]
  have e : (75 * lN s + 74 : Int64) = lN (75 * s + 74) := by
    show lN 75 * lN s + lN 74 = _
    rw [lN_mul, lN_add]
  rw [e]
  have := pk_lRem (a := 75 * s + 74) (b := 65537) (by omega) (by omega) (by omega)
  have h2 : lrem (lN (75 * s + 74)) 65537 = lN ((75 * s + 74) % 65537) := this
  rw [h2, lN_i]
  rfl
section Draw
variable {σ τ υ : St} {a p z M k : Nat} {c : Nat → Nat → Int32} {m : Nat} {x x0 : Nat → Int32} {n nc : Nat}
theorem Rk.fc (K : Rk c m x nc) : Rk c m (fc1 c nc x) nc := by
  unfold fc1
  by_cases h : wnfE c x (nN x) nc = 0
  · rw [if_pos h]; exact (K.ft h).1
  · rw [if_neg h]; exact K
theorem Rk.cm (K : Rk c m x nc) : Rk c m (cm1 c x) nc := by
  unfold cm1
  by_cases h : wncE x (nN x) = 0
  · rw [if_pos h]; exact (K.co (wnc0 h)).1
  · rw [if_neg h]; exact K
theorem cv_2 (K : Rk c m x nc) (h0 : 0 < nN x) : (cvE x = -2) ↔ hasB x 0 2 = true := by
  unfold cvE
  cases h : hasB x 0 2 with
  | true => simp
  | false =>
    obtain ⟨s, hs, es⟩ := (K.1.2.1.2.2.2.2.2.2.2 0 h0).1
    have es' : x 39 = nI s := es
    have hm := K.1.1.1
    rw [if_neg (by decide), es']
    exact ⟨fun e => absurd e (nI_nm2 (by omega)), fun e => by cases e⟩
def Zd (σ : St) (z a : Nat) : Prop := hT σ z = 9 ∧ hP σ z 7 = some a
theorem Zd.fr {S : Nat → Prop} (h : Zd σ z a) (F : Fr S σ τ) : Zd τ z a := ⟨by rw [F.1]; exact h.1, by rw [F.2.2.1]; exact h.2⟩
theorem dt95 {k16 : Nat → Int32 → Int32 → Int32 → St → Option St} (hd : p + 10 < a) (Z : Zd σ z a) (D : Mc σ a p c m x (nN x) nc) (K : Rk c m x nc) (v s i : Int32) : ∃ τ, f_X8_drawTries_95 k16 z v s i 2 σ = k16 z v s (i + 1) τ ∧ Fr (inM a) σ τ ∧ Mc τ a p c m (cm1 c x) (nN (cm1 c x)) nc := by
  unfold f_X8_drawTries_95 f_X8_drawTries_119
  rw [if_pos rfl, gR_k Z.1 Z.2, osb, wnr_j D K.1.2.2.1, osb]
  dsimp only
  unfold cm1
  by_cases h : wncE x (nN x) = 0
  · obtain ⟨τ, t1, t2, t3, t4⟩ := retire_j D hd K.1.2.2.1 K.1.2.2.2 (wnc0 h)
    rw [if_pos h, if_pos h, gR_k Z.1 Z.2, osb, t1, osb]
    exact ⟨τ, rfl, t2, by rw [(K.co (wnc0 h)).2]; exact t3⟩
  · rw [if_neg h, if_neg h]
    exact ⟨σ, rfl, Fr.refl, D⟩
theorem dt_no {k16 : Nat → Int32 → Int32 → Int32 → St → Option St} (v s i w : Int32) (h : ¬ w = 2) : f_X8_drawTries_95 k16 z v s i w σ = k16 z v s (i + 1) σ := by
  unfold f_X8_drawTries_95 f_X8_drawTries_119
  rw [if_neg h]
theorem dt_l (hd : p + 10 < a) {L : Nat} (hL : L ≤ 300) : ∀ (q i fu : Nat) (σ : St) (x : Nat → Int32) (s t : Nat), i + q = L → q < fu → s < 65537 → Zd σ z a → Mc σ a p c m x (nN x) nc → Rk c m x nc → ∃ τ, f_X8_drawTries_16 fu z (nI L) (nI s) (nI i) σ = some τ ∧ Fr (inM a) σ τ ∧ Mc τ a p c m (drE c nc q x s t).1 (nN (drE c nc q x s t).1) nc ∧ Rk c m (drE c nc q x s t).1 nc
  | 0, i, fu, σ, x, s, t, hi, hf, hs, Z, D, K => by
    obtain ⟨f, rfl⟩ : ∃ f, fu = f + 1 := ⟨fu - 1, by omega⟩
    rw [e_X8_drawTries_16, if_pos (nI_le (by omega) (by omega))]
    exact ⟨σ, rfl, Fr.refl, D, K⟩
  | q + 1, i, fu, σ, x, s, t, hi, hf, hs, Z, D, K => by
    obtain ⟨f, rfl⟩ : ∃ f, fu = f + 1 := ⟨fu - 1, by omega⟩
    have h12 := D.n12
    have n1 := ns_lt s
    have n2 := ns_lt (nsE s)
    have hr3 : jrem (nI (nsE s)) 3 = nI (nsE s % 3) := rem_n (d := 3) n1 (by omega) (by omega)
    rw [e_X8_drawTries_16, if_neg (nI_ge (by omega) (by omega))]
    unfold f_X8_nextSeed f_X8_nextSeed_0
    rw [osb]
    dsimp only
    rw [ns_i hs, bndu, hr3]
    have hm3 : nsE s % 3 < 3 := Nat.mod_lt _ (by omega)
    simp only [drE]
    obtain h | h | h : nsE s % 3 = 0 ∨ nsE s % 3 = 1 ∨ nsE s % 3 = 2 := by omega
    · rw [h, if_pos nI_0, if_pos rfl, gR_k Z.1 Z.2, osb, wnt_c D, osb]
      dsimp only
      have K' := K.fc
      unfold fc1 at K' ⊢
      by_cases hw : wnfE c x (nN x) nc = 0
      · rw [if_pos hw] at K'
        obtain ⟨τ, t1, t2, t3, t4⟩ := take_j D hd K.1.2.2.1 K.1.2.2.2 hw
        rw [if_pos hw, if_pos hw, gR_k Z.1 Z.2, osb, t1, osb]
        unfold f_X8_drawTries_119
        rw [nI_1]
        obtain ⟨υ, u1, u2, u3⟩ := dt_l hd hL q (i + 1) f τ (ftE c x (nN x) nc) (nsE s) t (by omega) (by omega) n1 (Z.fr t2) (by rw [(K.ft hw).2]; exact t3) K'
        exact ⟨υ, u1, t2.trans u2, u3⟩
      · rw [if_neg hw, if_neg hw]
        unfold f_X8_drawTries_58
        rw [if_neg (by decide), dt_no _ _ _ _ (by decide), nI_1]
        exact dt_l hd hL q (i + 1) f σ x (nsE s) t (by omega) (by omega) n1 Z D K
    · rw [h, if_neg (by decide), if_neg (by decide), if_pos rfl]
      unfold f_X8_drawTries_58
      rw [if_pos (show nI 1 = 1 by decide), gR_k Z.1 Z.2, osb, D.f.2.2.2.1, osb]
      by_cases h0 : nN x = 0
      · rw [h0, if_pos (by decide), if_pos rfl, dt_no _ _ _ _ (by decide), nI_1]
        exact dt_l hd hL q (i + 1) f σ x (nsE s) t (by omega) (by omega) n1 Z D K
      · have hmod : nsE (nsE s) % nN x < nN x := Nat.mod_lt _ (by omega)
        rw [if_neg (nI_nle (by omega) (by omega)), if_neg h0]
        unfold f_X8_nextSeed f_X8_nextSeed_0
        rw [osb]
        dsimp only
        rw [ns_i n1, gR_k Z.1 Z.2, osb, D.f.2.2.2.1, osb, if_neg (nI_ne0 (by omega) (by omega)), rem_n n2 (by omega) (by omega)]
        generalize nsE (nsE s) % nN x = r at hmod ⊢
        unfold f_X8_workIfPossible f_X8_workIfPossible_0 f_X8_workIfPossible_20 f_X8_drawTries_119
        rw [if_pos Z.1, gR_k Z.1 Z.2, osb, canW_c D hmod, osb]
        dsimp only
        cases hrun : runE x r with
        | false =>
          rw [if_pos (by decide), osb, nI_1, if_neg (by decide)]
          exact dt_l hd hL q (i + 1) f σ x _ t (by omega) (by omega) n2 Z D K
        | true =>
          obtain ⟨τ, t1, t2, t3, t4⟩ := work_j D hd K.1.2.2.1 K.1.2.2.2 hmod
          rw [if_neg (by decide), gR_k Z.1 Z.2, osb, t1, osb, osb, nI_1, if_pos rfl]
          obtain ⟨υ, u1, u2, u3⟩ := dt_l hd hL q (i + 1) f τ (rnE c x r) _ t (by omega) (by omega) n2 (Z.fr t2) (by rw [(K.rn hmod).2]; exact t3) (K.rn hmod).1
          exact ⟨υ, u1, t2.trans u2, u3⟩
    · rw [h, if_neg (by decide), if_neg (by decide), if_neg (by decide)]
      unfold f_X8_drawTries_58
      rw [if_neg (by decide)]
      obtain ⟨τ, t1, t2, t3⟩ := dt95 (k16 := f_X8_drawTries_16 f) hd Z D K (nI L) (nI (nsE s)) (nI i)
      have t1' : f_X8_drawTries_95 (f_X8_drawTries_16 f) z (nI L) (nI (nsE s)) (nI i) (nI 2) σ = f_X8_drawTries_16 f z (nI L) (nI (nsE s)) (nI i + 1) τ := t1
      rw [t1', nI_1]
      obtain ⟨υ, u1, u2, u3⟩ := dt_l hd hL q (i + 1) f τ (cm1 c x) (nsE s) (t + (if wncE x (nN x) = 0 ∧ hasB x 0 2 = false then 1 else 0)) (by omega) (by omega) n1 (Z.fr t2) t3 K.cm
      exact ⟨υ, u1, t2.trans u2, u3⟩
/-- what was committed -/
theorem dr_cnt : ∀ (q : Nat) (x : Nat → Int32) (s t : Nat) (w b : Nat), Rk c m x nc → x 37 = nI (w + t) → Ru x b → (drE c nc q x s t).1 37 = nI (w + (drE c nc q x s t).2) ∧ Ru (drE c nc q x s t).1 (b + q) ∧ Rk c m (drE c nc q x s t).1 nc
  | 0, x, s, t, w, b, K, h, U => ⟨h, U, K⟩
  | q + 1, x, s, t, w, b, K, h, U => by
    have U' : ∀ {y : Nat → Int32} {b' : Nat}, Ru y b' → b' ≤ b + 1 → Ru y (b + 1) := fun u hb => by
      obtain ⟨u1, u2, v, hv, ev⟩ := u
      exact ⟨u1, u2, v, by omega, ev⟩
    simp only [drE]
    rw [show b + (q + 1) = b + 1 + q by omega]
    by_cases h0 : nsE s % 3 = 0
    · rw [if_pos h0]
      have K' := K.fc
      unfold fc1 at K' ⊢
      by_cases hw : wnfE c x (nN x) nc = 0
      · rw [if_pos hw] at K' ⊢
        obtain ⟨s', hs, es, h3, hl, -⟩ := wnf0 hw K.1.1.2.1 K.1.1.1
        have h12 := (keep_ft K.1.2.1 K.1.1 K.1.2.2.1 K.1.2.2.2 hs es h3 hl).1
        have Uf : Ru (ftE c x (nN x) nc) b := Ru.ft h12 U
        have e37 : ftE c x (nN x) nc 37 = x 37 := by
          unfold ftE
          generalize (x 35).toNatClampNeg = s1
          rw [ft2_lo (by omega) (by omega) (by omega)]
          unfold ft1
          by_cases hq : c 1 s1 = 5 ∨ merE c x (nN x) s1 = true
          · rw [if_pos hq]
          · rw [if_neg hq]; unfold takE; rw [ux_n (by omega), ux_n (by omega)]
        exact dr_cnt q _ _ t w (b + 1) K' (by rw [e37]; exact h) (U' Uf (by omega))
      · rw [if_neg hw] at ⊢
        exact dr_cnt q x _ t w (b + 1) K h (U' U (by omega))
    · rw [if_neg h0]
      by_cases h1 : nsE s % 3 = 1
      · rw [if_pos h1]
        by_cases hn : nN x = 0
        · rw [if_pos hn]
          exact dr_cnt q x _ t w (b + 1) K h (U' U (by omega))
        · rw [if_neg hn]
          have hmod : nsE (nsE s) % nN x < nN x := Nat.mod_lt _ (by omega)
          generalize nsE (nsE s) % nN x = r at hmod ⊢
          cases hrun : runE x r with
          | false =>
            rw [if_neg (by decide)]
            exact dr_cnt q x _ t w (b + 1) K h (U' U (by omega))
          | true =>
            rw [if_pos rfl]
            exact dr_cnt q _ _ t w (b + 1) (K.rn hmod).1 (by rw [(rn_pt K.1.2.1 hmod).1 37 (by omega)]; exact h) (U' (Ru.rn K.1.2.1 hmod U) (by omega))
      · rw [if_neg h1]
        have K' := K.cm
        unfold cm1 at K' ⊢
        by_cases hw : wncE x (nN x) = 0
        · rw [if_pos hw] at K' ⊢
          have hn0 := wnc0 hw
          have Uc : Ru (coE c x) (b + 1) := Ru.co K.1.2.1 K.1.1 hn0 U
          cases ht : hasB x 0 2 with
          | true =>
            have e37 : coE c x 37 = x 37 := by unfold coE; rw [if_pos ht, ux_n (by omega), ux_n (by omega), ux_n (by omega)]
            rw [if_neg (fun g => by cases g.2), Nat.add_zero]
            exact dr_cnt q _ _ t w (b + 1) K' (by rw [e37]; exact h) Uc
          | false =>
            have e37 : coE c x 37 = x 37 + 1 := by unfold coE; rw [if_neg (by rw [ht]; decide)]; exact ux_e
            rw [if_pos ⟨hw, rfl⟩]
            exact dr_cnt q _ _ (t + 1) w (b + 1) K' (by rw [e37, h, nI_1, Nat.add_assoc]) Uc
        · rw [if_neg hw, if_neg (fun g => hw g.1), Nat.add_zero]
          exact dr_cnt q x _ t w (b + 1) K h (U' U (by omega))
end Draw
