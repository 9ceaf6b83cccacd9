/-! THE REFERENCE: rows to and fro; drawn tries -/
def FrW (M : Nat) (σ τ : St) : Prop := Fr (fun r => r = M) σ τ ∧ ∀ q, q ≤ 26 → hI τ M q = hI σ M q
theorem FrW.refl {M : Nat} {σ : St} : FrW M σ σ := ⟨Fr.refl, fun _ _ => rfl⟩
theorem FrW.trans {M : Nat} {σ τ υ : St} (h : FrW M σ τ) (g : FrW M τ υ) : FrW M σ υ := ⟨h.1.trans g.1, fun q h1 => (g.2 q h1).trans (h.2 q h1)⟩
theorem FrW.s0 {M j : Nat} {σ : St} {v : Int32} (h : 27 ≤ j) : FrW M σ (sI σ M j v) := ⟨Fr.s0 rfl, fun q h1 => hI_sIn (Or.inr (by omega))⟩
section Rows2
variable {σ τ υ : St} {M k : Nat} {c : Nat → Nat → Int32} {m : Nat} {x x0 y : Nat → Int32} {n nc : Nat}
theorem Md.frW (D : Md σ M k c x) (F : FrW M σ τ) : Md τ M k c x := D.fr F.1 (fun r h => by have := D.2.2.2.2.2.2; omega)
theorem fil_all {v : Nat → Int32} (hy : ∀ j, 195 ≤ j → y j = 0) (hv : ∀ j, 195 ≤ j → v j = 0) : fil y 0 v 195 = v := by
  funext j
  by_cases h : j < 195
  · unfold fil; rw [if_pos (by omega), Nat.sub_zero]
  · rw [fil_n (by omega), hy j (by omega), hv j (by omega)]
theorem works_l (D : Md σ M k c x0) (V : Fld σ M 20 (M + 3) 22 195) (y : Nat → Int32) : ∀ (q i fu : Nat), i + q = 195 → q < fu → f_X10_works_2 fu M (nI i) (sR σ (M + 4) (fil y 0 (hI σ (M + 3)) i)) = some (sR (sI σ M 26 (c 0 0)) (M + 4) (fil y 0 (hI σ (M + 3)) 195))
  | 0, i, fu, hi, hf => by
    obtain ⟨f, rfl⟩ : ∃ f, fu = f + 1 := ⟨fu - 1, by omega⟩
    obtain rfl : i = 195 := by omega
    have D1 := D.to (fil y 0 (hI σ (M + 3)) 195)
    rw [e_X10_works_2, if_pos (by decide), core_k D1, osb, gI_k D1.2.2.2.1.1, osb, D1.2.2.2.2.1.1, pI_k D1.1, osb, sI_sRc (by omega)]
  | q + 1, i, fu, hi, hf => by
    obtain ⟨f, rfl⟩ : ∃ f, fu = f + 1 := ⟨fu - 1, by omega⟩
    have ih := works_l D V y q (i + 1) f (by omega) (by omega)
    rw [fil_s, Nat.zero_add, ← nI_1] at ih
    have V1 : Fld (sR σ (M + 4) (fil y 0 (hI σ (M + 3)) i)) M 20 (M + 3) 22 195 := V
    rw [e_X10_works_2, if_neg (show ¬ (195 : Int32) ≤ nI i from nI_ge (a := i) (b := 195) (by omega) (by omega)), xa_k (D.to _), osb, V1.r (D.to (fil y 0 (hI σ (M + 3)) i)).1, osb, V1.g (by omega) (by omega), osb, hI_sRn (by omega), ws D _ i (by omega) rfl, osb]
    exact ih
theorem works_k (D : Md σ M k c x0) (V : Fld σ M 20 (M + 3) 22 195) (hy : ∀ j, 195 ≤ j → hI σ (M + 4) j = 0) (hv : ∀ j, 195 ≤ j → hI σ (M + 3) j = 0) : f_X10_works M σ = some (sR (sI σ M 26 (c 0 0)) (M + 4) (hI σ (M + 3))) := by
  have := works_l D V (hI σ (M + 4)) 195 0 FU (by omega) (by unfold FU; omega)
  rw [fil_0, sR_id, fil_all hy hv, nI_0] at this
  unfold f_X10_works f_X10_works_0
  rw [if_pos D.1]
  exact this
theorem rem_l (D : Md σ M k c x0) (V : Fld σ M 20 (M + 3) 22 195) (y w : Nat → Int32) : ∀ (q i fu : Nat), i + q = 195 → q < fu → f_X10_remains_2 fu M (nI i) (sR (sR σ (M + 4) y) (M + 3) (fil w 0 y i)) = some (sR (sR σ (M + 4) y) (M + 3) (fil w 0 y 195))
  | 0, i, fu, hi, hf => by
    obtain ⟨f, rfl⟩ : ∃ f, fu = f + 1 := ⟨fu - 1, by omega⟩
    obtain rfl : i = 195 := by omega
    rw [e_X10_remains_2, if_pos (by decide)]
  | q + 1, i, fu, hi, hf => by
    obtain ⟨f, rfl⟩ : ∃ f, fu = f + 1 := ⟨fu - 1, by omega⟩
    have ih := rem_l D V y w q (i + 1) f (by omega) (by omega)
    rw [fil_s, Nat.zero_add, ← nI_1] at ih
    have V1 : Fld (sR (sR σ (M + 4) y) (M + 3) (fil w 0 y i)) M 20 (M + 3) 22 195 := V
    have W1 : Fld (sR (sR σ (M + 4) y) (M + 3) (fil w 0 y i)) M 21 (M + 4) 22 195 := D.2.1
    have h0 : hT (sR (sR σ (M + 4) y) (M + 3) (fil w 0 y i)) M = 11 := D.1
    rw [e_X10_remains_2, if_neg (show ¬ (195 : Int32) ≤ nI i from nI_ge (a := i) (b := 195) (by omega) (by omega)), V1.r h0, osb, W1.r h0, osb, W1.g (by omega) (by omega), osb, hI_sRn (by omega), hI_sRe, ws_r (σ := sR σ (M + 4) y) V.2.1 V.2.2 (by omega) (by omega), osb]
    exact ih
theorem remains_k (D : Md σ M k c x0) (V : Fld σ M 20 (M + 3) 22 195) (hy : ∀ j, 195 ≤ j → y j = 0) (hv : ∀ j, 195 ≤ j → hI σ (M + 3) j = 0) : f_X10_remains M (sR σ (M + 4) y) = some (sR (sR σ (M + 4) y) (M + 3) y) := by
  have := rem_l D V y (hI σ (M + 3)) 195 0 FU (by omega) (by unfold FU; omega)
  have e : sR (sR σ (M + 4) y) (M + 3) (hI σ (M + 3)) = sR σ (M + 4) y := by
    have e2 : hI (sR σ (M + 4) y) (M + 3) = hI σ (M + 3) := hI_sRn (by omega)
    rw [← e2, sR_id]
  rw [fil_0, e, fil_all hv hy, nI_0] at this
  unfold f_X10_remains f_X10_remains_0
  rw [if_pos (show hT (sR σ (M + 4) y) M = 11 from D.1)]
  exact this
theorem draws_k (D : Md σ M k c x0) {s d : Nat} (hs : s < 65537) (h36 : hI σ M 36 = nI s) (h0 : 0 < d) (hd : d < 65537) : f_X10_draws M (nI d) (sR σ (M + 4) x) = some (nI (nsE s % d), sR (sI σ M 36 (nI (nsE s))) (M + 4) x) := by
  have e : hI (sR σ (M + 4) x) M = hI σ M := hI_sRn (by omega)
  have D1 := (D.setM (j := 36) (nI (nsE s))).to x
  have e1 : hI (sR (sI σ M 36 (nI (nsE s))) (M + 4) x) M 36 = nI (nsE s) := by rw [hI_sRn (by omega), hI_sIe]
  unfold f_X10_draws f_X10_draws_0
  rw [if_pos (D.to x).1, gI_k (D.to x).1, osb, e, h36, ns_l hs, pI_k (D.to x).1, osb, sI_sRc (by omega), gI_k D1.1, osb, e1, if_neg (nI_ne0 h0 (by omega)), rem_n (ns_lt s) h0 hd]
theorem tr90 {k16 : Nat → Int32 → Int32 → St → Option St} (D : Md σ M k c x0) (K : Rk c m x nc) {t : Nat} (h37 : hI σ M 37 = nI t) (v i : Int32) : ∃ τ, f_X10_tries_90 k16 M v i 2 (sR σ (M + 4) x) = k16 M v (i + 1) (sR τ (M + 4) (cm1 c x)) ∧ FrW M σ τ ∧ hI τ M 36 = hI σ M 36 ∧ hI τ M 37 = nI (t + (if wncE x (nN x) = 0 ∧ hasB x 0 2 = false then 1 else 0)) := by
  unfold f_X10_tries_90 f_X10_tries_122
  rw [if_pos rfl, wnc_j (D.to x) K.1, osb]
  dsimp only
  unfold cm1
  by_cases h : wncE x (nN x) = 0
  · have h0 := wnc0 h
    rw [if_pos h, if_pos h, com_j D K.1 h0, osb]
    dsimp only
    cases ht : hasB x 0 2 with
    | true =>
      rw [if_pos ((cv_2 K h0).mpr ht), if_neg (fun g => by cases g.2)]
      exact ⟨σ, rfl, FrW.refl, rfl, h37⟩
    | false =>
      have e : hI (sR σ (M + 4) (coE c x)) M = hI σ M := hI_sRn (by omega)
      rw [if_neg (fun g => by rw [(cv_2 K h0).mp g] at ht; cases ht), if_pos ⟨h, rfl⟩, gI_k (D.to _).1, osb, e, h37, nI_1, pI_k (D.to _).1, osb, sI_sRc (by omega)]
      exact ⟨_, rfl, FrW.s0 (by omega), by rw [hI_sIn (Or.inr (by omega))], hI_sIe⟩
  · rw [if_neg h, if_neg h, if_neg (fun g => h g.1)]
    exact ⟨σ, rfl, FrW.refl, rfl, h37⟩
theorem tr_no {k16 : Nat → Int32 → Int32 → St → Option St} (v i w : Int32) (h : ¬ w = 2) : f_X10_tries_90 k16 M v i w σ = k16 M v (i + 1) σ := by
  unfold f_X10_tries_90 f_X10_tries_122
  rw [if_neg h]
theorem tr_l {L : Nat} (hL : L ≤ 300) : ∀ (q i fu : Nat) (σ : St) (x : Nat → Int32) (s t : Nat), i + q = L → q < fu → s < 65537 → Md σ M k c x0 → hI σ M 26 = nI nc → hI σ M 36 = nI s → hI σ M 37 = nI t → Rk c m x nc → ∃ τ, f_X10_tries_16 fu M (nI L) (nI i) (sR σ (M + 4) x) = some (sR τ (M + 4) (drE c nc q x s t).1) ∧ FrW M σ τ ∧ hI τ M 37 = nI (drE c nc q x s t).2
  | 0, i, fu, σ, x, s, t, hi, hf, hs, D, h26, h36, h37, K => by
    obtain ⟨f, rfl⟩ : ∃ f, fu = f + 1 := ⟨fu - 1, by omega⟩
    rw [e_X10_tries_16, if_pos (nI_le (by omega) (by omega))]
    exact ⟨σ, rfl, FrW.refl, h37⟩
  | q + 1, i, fu, σ, x, s, t, hi, hf, hs, D, h26, h36, h37, K => by
    obtain ⟨f, rfl⟩ : ∃ f, fu = f + 1 := ⟨fu - 1, by omega⟩
    have h12 := K.1.n12
    have n1 := ns_lt s
    have n2 := ns_lt (nsE s)
    have hdr : f_X10_draws M 3 (sR σ (M + 4) x) = some (nI (nsE s % 3), sR (sI σ M 36 (nI (nsE s))) (M + 4) x) := draws_k (d := 3) D hs h36 (by omega) (by omega)
    rw [e_X10_tries_16, if_neg (nI_ge (by omega) (by omega)), hdr, osb]
    dsimp only
    have F1 : FrW M σ (sI σ M 36 (nI (nsE s))) := FrW.s0 (by omega)
    have D1 := D.frW F1
    have g26 : hI (sI σ M 36 (nI (nsE s))) M 26 = nI nc := by rw [hI_sIn (Or.inr (by omega))]; exact h26
    have g36 : hI (sI σ M 36 (nI (nsE s))) M 36 = nI (nsE s) := hI_sIe
    have g37 : hI (sI σ M 36 (nI (nsE s))) M 37 = nI t := by rw [hI_sIn (Or.inr (by omega))]; exact h37
    generalize sI σ M 36 (nI (nsE s)) = σ1 at F1 D1 g26 g36 g37 ⊢
    have hm3 : nsE s % 3 < 3 := Nat.mod_lt _ (by omega)
    simp only [drE]
    obtain h | h | h : nsE s % 3 = 0 ∨ nsE s % 3 = 1 ∨ nsE s % 3 = 2 := by omega
    · have K' := K.fc
      rw [h, if_pos nI_0, if_pos rfl, wnf_j (D1.to x) K.1 (by rw [hI_sRn (by omega)]; exact g26), osb]
      dsimp only
      unfold fc1 at K' ⊢
      unfold f_X10_tries_45
      by_cases hw : wnfE c x (nN x) nc = 0
      · rw [if_pos hw] at K'
        rw [if_pos hw, if_pos hw, fet_j D1 K.1 g26 hw, osb]
        dsimp only
        rw [if_neg (by decide), tr_no _ _ _ (by decide), nI_1]
        obtain ⟨υ, u1, u2, u3⟩ := tr_l hL q (i + 1) f σ1 (ftE c x (nN x) nc) (nsE s) t (by omega) (by omega) n1 D1 g26 g36 g37 K'
        exact ⟨υ, u1, F1.trans u2, u3⟩
      · rw [if_neg hw, if_neg hw, if_neg (by decide), tr_no _ _ _ (by decide), nI_1]
        obtain ⟨υ, u1, u2, u3⟩ := tr_l hL q (i + 1) f σ1 x (nsE s) t (by omega) (by omega) n1 D1 g26 g36 g37 K
        exact ⟨υ, u1, F1.trans u2, u3⟩
    · rw [h, if_neg (by decide), if_neg (by decide), if_pos rfl]
      unfold f_X10_tries_45
      rw [if_pos (show nI 1 = 1 by decide), xa_k (D1.to x), osb, r34_k (D1.to x), osb, K.1.2.1.2.2.2.1]
      by_cases h0 : nN x = 0
      · rw [h0, if_pos (by decide), if_pos rfl, tr_no _ _ _ (by decide), nI_1]
        obtain ⟨υ, u1, u2, u3⟩ := tr_l hL q (i + 1) f σ1 x (nsE s) t (by omega) (by omega) n1 D1 g26 g36 g37 K
        exact ⟨υ, u1, F1.trans u2, u3⟩
      · have hmod : nsE (nsE s) % nN x < nN x := Nat.mod_lt _ (by omega)
        rw [if_neg (nI_nle (by omega) (by omega)), if_neg h0]
        simp only [osb, r34_k (D1.to x), K.1.2.1.2.2.2.1]
        rw [draws_k D1 n1 g36 (by omega) (by omega), osb]
        dsimp only
        have F2 : FrW M σ1 (sI σ1 M 36 (nI (nsE (nsE s)))) := FrW.s0 (by omega)
        have D2 := D1.frW F2
        have k26 : hI (sI σ1 M 36 (nI (nsE (nsE s)))) M 26 = nI nc := by rw [hI_sIn (Or.inr (by omega))]; exact g26
        have k36 : hI (sI σ1 M 36 (nI (nsE (nsE s)))) M 36 = nI (nsE (nsE s)) := hI_sIe
        have k37 : hI (sI σ1 M 36 (nI (nsE (nsE s)))) M 37 = nI t := by rw [hI_sIn (Or.inr (by omega))]; exact g37
        generalize sI σ1 M 36 (nI (nsE (nsE s))) = σ2 at F2 D2 k26 k36 k37 ⊢
        generalize nsE (nsE s) % nN x = r at hmod ⊢
        rw [run_j (D2.to x) K.1 hmod, osb]
        dsimp only
        cases hrun : runE x r with
        | false =>
          rw [if_pos (by decide), if_neg (by decide), tr_no _ _ _ (by decide), nI_1]
          obtain ⟨υ, u1, u2, u3⟩ := tr_l hL q (i + 1) f σ2 x _ t (by omega) (by omega) n2 D2 k26 k36 k37 K
          exact ⟨υ, u1, (F1.trans F2).trans u2, u3⟩
        | true =>
          rw [if_neg (by decide), if_pos rfl, runs_j D2 K.1 hmod, osb]
          dsimp only
          rw [tr_no _ _ _ (by decide), nI_1]
          have F3 : FrW M σ2 (sI σ2 M 27 (b2i (msE c x r))) := FrW.s0 (by omega)
          obtain ⟨υ, u1, u2, u3⟩ := tr_l hL q (i + 1) f (sI σ2 M 27 (b2i (msE c x r))) (rnE c x r) _ t (by omega) (by omega) n2 (D2.frW F3) (by rw [hI_sIn (Or.inr (by omega))]; exact k26) (by rw [hI_sIn (Or.inr (by omega))]; exact k36) (by rw [hI_sIn (Or.inr (by omega))]; exact k37) (K.rn hmod).1
          exact ⟨υ, u1, ((F1.trans F2).trans F3).trans u2, u3⟩
    · rw [h, if_neg (by decide), if_neg (by decide), if_neg (by decide)]
      unfold f_X10_tries_45
      rw [if_neg (by decide)]
      obtain ⟨τ, t1, t2, t3, t4⟩ := tr90 (k16 := f_X10_tries_16 f) D1 K g37 (nI L) (nI i)
      have t1' : f_X10_tries_90 (f_X10_tries_16 f) M (nI L) (nI i) (nI 2) (sR σ1 (M + 4) x) = f_X10_tries_16 f M (nI L) (nI i + 1) (sR τ (M + 4) (cm1 c x)) := t1
      rw [t1', nI_1]
      obtain ⟨υ, u1, u2, u3⟩ := tr_l hL q (i + 1) f τ (cm1 c x) (nsE s) (t + (if wncE x (nN x) = 0 ∧ hasB x 0 2 = false then 1 else 0)) (by omega) (by omega) n1 (D1.frW t2) (by rw [t2.2 26 (by omega)]; exact g26) (by rw [t3]; exact g36) t4 K.cm
      exact ⟨υ, u1, (F1.trans t2).trans u2, u3⟩
end Rows2
