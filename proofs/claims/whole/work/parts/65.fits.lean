/-! FITS: what they are; the class's -/
def fiE (c : Nat → Nat → Int32) (nu ng : Nat) (o : Nat) : Bool := (wgE c ng (plE c nu (nI o) 200).1).isNone
def fxE (f : Nat → Bool) (i : Int32) (P : Nat) : Option Nat := fstN (fun m => f m && decide (nI (cntN f m) = i)) P
def orE (f : Nat → Bool) : Nat → Int32
  | 0 => 0
  | n + 1 => orE f n ||| (if f n = true then nI n else 0)
def anE (f : Nat → Bool) (v : Int32) : Nat → Int32
  | 0 => v
  | n + 1 => if f n = true then anE f v n &&& nI n else anE f v n
def lfE (f : Nat → Bool) (P k : Nat) : Int32 := jmax (nI (cntN (fun m => f m && bt (nI m) k) P)) (nI (cntN f P) - nI (cntN (fun m => f m && bt (nI m) k) P))
def bqE (l : Nat → Int32) : Nat → Option Nat
  | 0 => none
  | k + 1 => match bqE l k with
    | none => some k
    | some b => if l k < l b then some k else some b
theorem bqE_lt {l : Nat → Int32} : ∀ {k b : Nat}, bqE l k = some b → b < k
  | 0, b, h => by cases h
  | k + 1, b, h => by
    simp only [bqE] at h
    cases hq : bqE l k with
    | none => rw [hq] at h; simp only [Option.some.injEq] at h; omega
    | some t =>
      have := bqE_lt hq
      rw [hq] at h
      simp only at h
      by_cases hl : l k < l t
      · rw [if_pos hl] at h; simp only [Option.some.injEq] at h; omega
      · rw [if_neg hl] at h; simp only [Option.some.injEq] at h; omega
def FSh (σ : St) (y nu : Nat) (f : Nat → Bool) : Prop := hT σ y = 2 ∧ hI σ y 0 = setN f (2 ^ nu) ∧ hI σ y 1 = nI nu ∧ nu ≤ 4
theorem sh_pw : ∀ n, n < 5 → jshl 1 (nI n) = nI (2 ^ n) := by decide +kernel
theorem pw16 {nu : Nat} (h : nu ≤ 4) : 2 ^ nu ≤ 16 ∧ 0 < 2 ^ nu := ⟨by have := Nat.pow_le_pow_right (n := 2) (by omega) h; omega, Nat.two_pow_pos nu⟩
section Fits
variable {σ τ υ : St} {y nu : Nat} {f : Nat → Bool}
theorem fb_c (F : FSh σ y nu f) {j : Nat} (hj : j < 2 ^ nu) : f_X1_fitsBy y (nI j) σ = some (b2i (f j), σ) := by
  have h16 := pw16 F.2.2.2
  unfold f_X1_fitsBy f_X1_fitsBy_0 f_X1_fitsBy_17
  rw [if_pos F.1, gI_k F.1, osb, F.2.1]
  have hb : bt (setN f (2 ^ nu)) j = f j := by rw [b_setN (by omega) (by omega), decide_eq_true hj]; rfl
  cases hf : f j with
  | true => rw [if_pos ((b_ask1 _ (by omega)).mpr (by rw [hb]; exact hf)), if_pos (Or.inr rfl)]; rfl
  | false => rw [if_neg (fun h => by have := (b_ask1 _ (by omega)).mp h; rw [hb, hf] at this; cases this), if_pos (Or.inl rfl)]; rfl
theorem hm_c (F : FSh σ y nu f) : f_X1_howMany y σ = some (nI (cntN f (2 ^ nu)), σ) := by
  have h16 := pw16 F.2.2.2
  unfold f_X1_howMany f_X1_howMany_0
  rw [if_pos F.1, gI_k F.1, osb, F.2.1, bc_k, osb, cnt_setN (by omega)]
theorem FSh.lim (F : FSh σ y nu f) {j : Nat} (hj : j ≤ 2 ^ nu) : (jshl 1 (nI nu) ≤ nI j) ↔ j = 2 ^ nu := by
  have h4 := F.2.2.2
  have h16 := pw16 h4
  rw [sh_pw nu (by omega), nI_leI (by omega) (by omega)]
  omega
theorem nth_l (F : FSh σ y nu f) (i : Nat) : ∀ (q j fu l : Nat), j + q = 2 ^ nu → q < fu → cntN f j + l = i → l ≤ 1000 → (∀ t, t < j → (f t && decide (nI (cntN f t) = nI i)) = false) → f_X1_nth_4 fu y (nI l) (nI j) σ = some (o2i (fxE f (nI i) (2 ^ nu)), σ)
  | 0, j, fu, l, hj, hf, hc, hl, ha => by
    obtain ⟨g, rfl⟩ : ∃ g, fu = g + 1 := ⟨fu - 1, by omega⟩
    rw [e_X1_nth_4, gI_k F.1, osb, F.2.2.1, if_pos ((F.lim (by omega)).mpr (by omega))]
    cases h : fxE f (nI i) (2 ^ nu) with
    | none => rfl
    | some t => obtain ⟨h1, h2, -⟩ := fstN_some h; rw [ha t (by omega)] at h2; cases h2
  | q + 1, j, fu, l, hj, hf, hc, hl, ha => by
    obtain ⟨g, rfl⟩ : ∃ g, fu = g + 1 := ⟨fu - 1, by omega⟩
    have h16 := pw16 F.2.2.2
    have hcl := cntN_le (p := f) j
    unfold fxE
    rw [e_X1_nth_4, gI_k F.1, osb, F.2.2.1, if_neg (fun h => by have := (F.lim (by omega)).mp h; omega), fb_c F (by omega), osb]
    unfold f_X1_nth_31
    dsimp only
    cases hfj : f j with
    | false =>
      rw [if_pos (by decide), nI_1]
      have := nth_l F i q (j + 1) g l (by omega) (by omega) (by simp only [cntN, hfj]; simpa using hc) hl (fun t ht => by
        by_cases e : t = j
        · subst e; rw [hfj]; rfl
        · exact ha t (by omega))
      exact this
    | true =>
      rw [if_neg (by decide)]
      cases l with
      | zero =>
        rw [if_pos nI_0, fstN_of (j := j) (by omega) (by rw [hfj, decide_eq_true (by rw [← hc]; rfl)]; rfl) ha]
        rfl
      | succ l' =>
        rw [if_neg (nI_ne0 (by omega) (by omega)), nI_m1, nI_1]
        have := nth_l F i q (j + 1) g l' (by omega) (by omega) (by simp only [cntN, hfj, if_true]; omega) (by omega) (fun t ht => by
          by_cases e : t = j
          · subst e
            rw [hfj, decide_eq_false (fun h => by have := (nI_eq (by omega) (by omega)).mp h; omega)]; rfl
          · exact ha t (by omega))
        exact this
theorem nth_c (F : FSh σ y nu f) {i : Nat} (hi : i ≤ 1000) : f_X1_nth y (nI i) σ = some (o2i (fxE f (nI i) (2 ^ nu)), σ) := by
  have h16 := pw16 F.2.2.2
  have := nth_l F i (2 ^ nu) 0 FU i (by omega) (by unfold FU; omega) (by simp [cntN]) hi (fun _ h => absurd h (Nat.not_lt_zero _))
  unfold f_X1_nth f_X1_nth_0
  rw [if_pos F.1, ← nI_0]
  exact this
theorem some_l (F : FSh σ y nu f) : ∀ (q j fu : Nat), j + q = 2 ^ nu → q < fu → f_X1_inSome_4 fu y (orE f j) (nI j) σ = some (orE f (2 ^ nu), σ)
  | 0, j, fu, hj, hf => by
    obtain ⟨g, rfl⟩ : ∃ g, fu = g + 1 := ⟨fu - 1, by omega⟩
    rw [e_X1_inSome_4, gI_k F.1, osb, F.2.2.1, if_pos ((F.lim (by omega)).mpr (by omega)), show j = 2 ^ nu by omega]
  | q + 1, j, fu, hj, hf => by
    obtain ⟨g, rfl⟩ : ∃ g, fu = g + 1 := ⟨fu - 1, by omega⟩
    have ih := some_l F q (j + 1) g (by omega) (by omega)
    rw [e_X1_inSome_4, gI_k F.1, osb, F.2.2.1, if_neg (fun h => by have := (F.lim (by omega)).mp h; omega), fb_c F (by omega), osb]
    unfold f_X1_inSome_28
    dsimp only
    cases hfj : f j with
    | false =>
      rw [if_pos (by decide), bndu, nI_1]
      simp only [orE, hfj, Bool.false_eq_true, if_false] at ih
      exact ih
    | true =>
      rw [if_neg (by decide), bndu, nI_1]
      simp only [orE, hfj, if_true] at ih
      exact ih
theorem some_c (F : FSh σ y nu f) : f_X1_inSome y σ = some (orE f (2 ^ nu), σ) := by
  have h16 := pw16 F.2.2.2
  have := some_l F (2 ^ nu) 0 FU (by omega) (by unfold FU; omega)
  unfold f_X1_inSome f_X1_inSome_0
  rw [if_pos F.1, ← nI_0]
  exact this
theorem i_and_s (x : Int32) : x &&& x = x := by refine b_ext (fun i _ => ?_); rw [b_and, Bool.and_self]
theorem all_l (F : FSh σ y nu f) (v : Int32) : ∀ (q j fu : Nat), j + q = 2 ^ nu → q < fu → f_X1_inAll_22 fu y (anE f v j) (nI j) σ = some (anE f v (2 ^ nu), σ)
  | 0, j, fu, hj, hf => by
    obtain ⟨g, rfl⟩ : ∃ g, fu = g + 1 := ⟨fu - 1, by omega⟩
    rw [e_X1_inAll_22, gI_k F.1, osb, F.2.2.1, if_pos ((F.lim (by omega)).mpr (by omega)), show j = 2 ^ nu by omega]
  | q + 1, j, fu, hj, hf => by
    obtain ⟨g, rfl⟩ : ∃ g, fu = g + 1 := ⟨fu - 1, by omega⟩
    have ih := all_l F v q (j + 1) g (by omega) (by omega)
    rw [e_X1_inAll_22, gI_k F.1, osb, F.2.2.1, if_neg (fun h => by have := (F.lim (by omega)).mp h; omega), fb_c F (by omega), osb]
    unfold f_X1_inAll_46
    dsimp only
    cases hfj : f j with
    | false =>
      rw [if_pos (by decide), bndu, nI_1, i_and_s]
      simp only [anE, hfj, Bool.false_eq_true, if_false] at ih
      exact ih
    | true =>
      rw [if_neg (by decide), bndu, nI_1]
      simp only [anE, hfj, if_true] at ih
      exact ih
theorem anE_0 {v : Int32} : ∀ {n : Nat}, cntN f n = 0 → anE f v n = v
  | 0, _ => rfl
  | n + 1, h => by
    have h0 := cntN_zero.mp h
    simp only [anE, h0 n (by omega), Bool.false_eq_true, if_false]
    exact anE_0 (cntN_zero.mpr (fun i hi => h0 i (by omega)))
theorem fnd0 (F : FSh σ y nu f) : (hI σ y 0 = 0) ↔ cntN f (2 ^ nu) = 0 := by
  have h16 := pw16 F.2.2.2
  rw [F.2.1, setN_0 (by omega)]
  constructor
  · intro h; exact cntN_zero.mpr (fstN_none h)
  · intro h
    cases g : fstN f (2 ^ nu) with
    | none => rfl
    | some j => obtain ⟨g1, g2, -⟩ := fstN_some g; rw [cntN_zero.mp h j g1] at g2; cases g2
def alE (f : Nat → Bool) (nu : Nat) : Int32 := if cntN f (2 ^ nu) = 0 then 0 else anE f (jshl 1 (nI nu) - 1) (2 ^ nu)
theorem all_c (F : FSh σ y nu f) : f_X1_inAll y σ = some (alE f nu, σ) := by
  have h16 := pw16 F.2.2.2
  have hl := fun v => all_l F v (2 ^ nu) 0 FU (by omega) (by unfold FU; omega)
  unfold f_X1_inAll f_X1_inAll_0 f_X1_inAll_19 alE
  rw [if_pos F.1, gI_k F.1, osb]
  by_cases h : hI σ y 0 = 0
  · have h0 := (fnd0 F).mp h
    rw [if_pos h, if_pos h0, ← nI_0]
    have := hl (nI 0)
    rw [anE_0 h0] at this
    exact this
  · rw [if_neg h, if_neg (fun g => h ((fnd0 F).mpr g)), gI_k F.1, osb, F.2.2.1, ← nI_0]
    exact hl _
theorem left_l (F : FSh σ y nu f) {k : Nat} (hk : k < 32) : ∀ (q j fu : Nat), j + q = 2 ^ nu → q < fu → f_X1_leftBy_4 fu y (nI k) (nI (cntN (fun m => f m && bt (nI m) k) j)) (nI j) σ = some (lfE f (2 ^ nu) k, σ)
  | 0, j, fu, hj, hf => by
    obtain ⟨g, rfl⟩ : ∃ g, fu = g + 1 := ⟨fu - 1, by omega⟩
    rw [e_X1_leftBy_4, gI_k F.1, osb, F.2.2.1, if_pos ((F.lim (by omega)).mpr (by omega)), show j = 2 ^ nu by omega, hm_c F, osb]
    rfl
  | q + 1, j, fu, hj, hf => by
    obtain ⟨g, rfl⟩ : ∃ g, fu = g + 1 := ⟨fu - 1, by omega⟩
    have ih := left_l F hk q (j + 1) g (by omega) (by omega)
    rw [e_X1_leftBy_4, gI_k F.1, osb, F.2.2.1, if_neg (fun h => by have := (F.lim (by omega)).mp h; omega), fb_c F (by omega), osb]
    unfold f_X1_leftBy_34
    dsimp only
    cases hfj : f j with
    | false =>
      rw [if_pos (by decide), nI_1]
      simp only [cntN, hfj, Bool.false_and, Bool.false_eq_true, if_false, Nat.add_zero] at ih
      exact ih
    | true =>
      rw [if_neg (by decide)]
      cases hb : bt (nI j) k with
      | true =>
        rw [if_pos ((b_ask1 _ hk).mpr hb), nI_1, nI_1]
        simp only [cntN, hfj, hb, Bool.true_and, if_true] at ih
        exact ih
      | false =>
        rw [if_neg (fun h => by rw [(b_ask1 _ hk).mp h] at hb; cases hb), nI_1]
        simp only [cntN, hfj, hb, Bool.true_and, Bool.false_eq_true, if_false, Nat.add_zero] at ih
        exact ih
theorem left_c (F : FSh σ y nu f) {k : Nat} (hk : k < 32) : f_X1_leftBy y (nI k) σ = some (lfE f (2 ^ nu) k, σ) := by
  have h16 := pw16 F.2.2.2
  have := left_l F hk (2 ^ nu) 0 FU (by omega) (by unfold FU; omega)
  unfold f_X1_leftBy f_X1_leftBy_0
  rw [if_pos F.1, ← nI_0]
  exact this
def bestE (f : Nat → Bool) (nu : Nat) : Option Nat := if cntN f (2 ^ nu) = 0 then none else bqE (lfE f (2 ^ nu)) nu
theorem best_l (F : FSh σ y nu f) (h0 : ¬ cntN f (2 ^ nu) = 0) : ∀ (q j fu : Nat), j + q = nu → q < fu → f_X1_bestQuestion_5 fu y (o2m (bqE (lfE f (2 ^ nu)) j)) (nI j) σ = some (o2m (bqE (lfE f (2 ^ nu)) nu), σ)
  | 0, j, fu, hj, hf => by
    obtain ⟨g, rfl⟩ : ∃ g, fu = g + 1 := ⟨fu - 1, by omega⟩
    have h4 := F.2.2.2
    obtain rfl : j = nu := by omega
    rw [e_X1_bestQuestion_5, gI_k F.1, osb, F.2.2.1, if_pos (nI_le (Nat.le_refl _) (by omega))]
    rfl
  | q + 1, j, fu, hj, hf => by
    obtain ⟨g, rfl⟩ : ∃ g, fu = g + 1 := ⟨fu - 1, by omega⟩
    have h4 := F.2.2.2
    have ih := best_l F h0 q (j + 1) g (by omega) (by omega)
    rw [e_X1_bestQuestion_5, gI_k F.1, osb, F.2.2.1, if_neg (nI_ge (by omega) (by omega)), gI_k F.1, osb, if_neg (fun h => h0 ((fnd0 F).mp h))]
    unfold f_X1_bestQuestion_37 f_X1_bestQuestion_39
    rw [nI_1]
    simp only [bqE] at ih
    cases hb : bqE (lfE f (2 ^ nu)) j with
    | none =>
      rw [hb] at ih
      rw [if_pos (by decide)]
      exact ih
    | some b =>
      have hlt := bqE_lt hb
      rw [hb] at ih
      simp only at ih
      rw [show o2m (some b) = nI b from rfl, if_neg (nI_pos (by omega)), left_c F (by omega), osb]
      dsimp only
      rw [left_c F (by omega), osb]
      dsimp only
      by_cases hl : lfE f (2 ^ nu) j < lfE f (2 ^ nu) b
      · rw [if_neg (Int32.not_le.mpr hl)]
        rw [if_pos hl] at ih
        exact ih
      · rw [if_pos (Int32.not_lt.mp hl)]
        rw [if_neg hl] at ih
        exact ih
theorem best_c (F : FSh σ y nu f) : f_X1_bestQuestion y σ = some (o2m (bestE f nu), σ) := by
  have h4 := F.2.2.2
  unfold f_X1_bestQuestion f_X1_bestQuestion_0 bestE
  rw [if_pos F.1]
  by_cases h0 : cntN f (2 ^ nu) = 0
  · rw [if_pos h0, show FU = 4999 + 1 from rfl, e_X1_bestQuestion_5, gI_k F.1, osb, F.2.2.1, gI_k F.1, osb, if_pos ((fnd0 F).mpr h0)]
    unfold f_X1_bestQuestion_45
    split <;> rfl
  · rw [if_neg h0, ← nI_0]
    exact best_l F h0 nu 0 FU (by omega) (by unfold FU; omega)
end Fits
