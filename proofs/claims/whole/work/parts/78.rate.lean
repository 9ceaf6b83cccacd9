/-! QUESTIONS: the rate; what is drawn -/
theorem cd_l {w n : Nat} (hw : w < 2 ^ 31) (hn : n < 2 ^ 31) (h0 : 0 < n) (σ : St) : ∀ (e fu : Nat), e ≤ n → e < fu → (∀ t, e < t → t ≤ n → ¬ (t ∣ w ∧ t ∣ n)) → f_X8_commonDivisor_2 fu (nI w) (nI n) (nI e) σ = some (nI (Nat.gcd w n), σ)
  | 0, fu, he, hf, ha => by
    obtain ⟨f, rfl⟩ : ∃ f, fu = f + 1 := ⟨fu - 1, by omega⟩
    have hg := Nat.gcd_pos_of_pos_right w h0
    exact absurd ⟨Nat.gcd_dvd_left w n, Nat.gcd_dvd_right w n⟩ (ha (Nat.gcd w n) hg (Nat.le_of_dvd h0 (Nat.gcd_dvd_right w n)))
  | e + 1, fu, he, hf, ha => by
    obtain ⟨f, rfl⟩ : ∃ f, fu = f + 1 := ⟨fu - 1, by omega⟩
    have hg := Nat.gcd_pos_of_pos_right w h0
    have hgn := Nat.le_of_dvd h0 (Nat.gcd_dvd_right w n)
    have hge : Nat.gcd w n ≤ e + 1 := by
      rcases Nat.lt_or_ge (e + 1) (Nat.gcd w n) with q | q
      · exact absurd ⟨Nat.gcd_dvd_left w n, Nat.gcd_dvd_right w n⟩ (ha _ q hgn)
      · exact q
    rw [e_X8_commonDivisor_2]
    by_cases h1 : e = 0
    · subst h1
      rw [if_pos (by decide), show Nat.gcd w n = 1 by omega]
      rfl
    · have hr : ∀ a : Nat, a < 2 ^ 31 → (jrem (nI a) (nI (e + 1)) = 0 ↔ (e + 1) ∣ a) := fun a ha => by
        have : jrem (nI a) (nI (e + 1)) = nI (a % (e + 1)) := pk_rem ha (by omega) (by omega)
        rw [this, ← nI_0, nI_eq (by have := Nat.mod_lt a (show 0 < e + 1 by omega); omega) (by omega)]
        exact ⟨Nat.dvd_of_mod_eq_zero, Nat.mod_eq_zero_of_dvd⟩
      have hlt : ¬ nI (e + 1) ≤ 1 := nI_ge (a := 1) (b := e + 1) (by omega) (by omega)
      have hn0 : ¬ nI (e + 1) = 0 := nI_ne0 (by omega) (by omega)
      unfold f_X8_commonDivisor_21
      rw [if_neg hlt, if_neg hn0, nI_m1]
      by_cases hd : (e + 1) ∣ w ∧ (e + 1) ∣ n
      · have := Nat.le_of_dvd hg (Nat.dvd_gcd hd.1 hd.2)
        rw [if_pos ((hr w hw).mpr hd.1), if_neg hn0, if_pos ((hr n hn).mpr hd.2), show Nat.gcd w n = e + 1 by omega]
      · have ih := cd_l hw hn h0 σ e f (by omega) (by omega) (fun t h2 h3 => by
          by_cases q : t = e + 1
          · rw [q]; exact hd
          · exact ha t (by omega) h3)
        by_cases hw1 : (e + 1) ∣ w
        · rw [if_pos ((hr w hw).mpr hw1), if_neg hn0, if_neg (fun q => hd ⟨hw1, (hr n hn).mp q⟩)]
          exact ih
        · rw [if_neg (fun q => hw1 ((hr w hw).mp q))]
          exact ih
theorem cd_c {w n : Nat} (hw : w < 2 ^ 31) (hn : n ≤ 1000) (h0 : 0 < n) (σ : St) : f_X8_commonDivisor (nI w) (nI n) σ = some (nI (Nat.gcd w n), σ) := by
  unfold f_X8_commonDivisor f_X8_commonDivisor_0
  exact cd_l hw (by omega) h0 σ n FU (Nat.le_refl _) (by unfold FU; omega) (fun t h1 h2 => by omega)
theorem cmp0 {b : Nat} (hb : b < 2 ^ 63) : (lg_cmp (lN b) 0 = 0) ↔ b = 0 := by
  unfold lg_cmp
  have e0 : (0 : Int64) = lN 0 := rfl
  by_cases h : b = 0
  · subst h; decide
  · have h1 : ¬ lN b = 0 := fun e => by
      rw [e0] at e
      have := (pk_lEQ hb (by omega)).mp e
      exact h this
    rw [if_neg h1]
    constructor
    · intro q; split at q <;> exact absurd q (by decide)
    · intro q; exact absurd q h
theorem gc_l (σ : St) : ∀ (q fu a b : Nat), b ≤ q → q < fu → a < 2 ^ 31 → b < 2 ^ 31 → f_X10_common_6 fu (lN a) (lN b) σ = some (lN (Nat.gcd a b), σ)
  | 0, fu, a, b, hb, hf, ha, hb2 => by
    obtain ⟨f, rfl⟩ : ∃ f, fu = f + 1 := ⟨fu - 1, by omega⟩
    obtain rfl : b = 0 := by omega
    rw [e_X10_common_6, if_pos ((cmp0 (by omega)).mpr rfl), Nat.gcd_zero_right]
  | q + 1, fu, a, b, hb, hf, ha, hb2 => by
    obtain ⟨f, rfl⟩ : ∃ f, fu = f + 1 := ⟨fu - 1, by omega⟩
    by_cases h : b = 0
    · subst h
      rw [e_X10_common_6, if_pos ((cmp0 (by omega)).mpr rfl), Nat.gcd_zero_right]
    · have h1 : ¬ lN b = 0 := fun e => h ((pk_lEQ (a := b) (b := 0) (by omega) (by omega)).mp e)
      have hm := Nat.mod_lt a (show 0 < b by omega)
      have hr : lrem (lN a) (lN b) = lN (a % b) := pk_lRem (by omega) (by omega) (by omega)
      rw [e_X10_common_6, if_neg (fun e => h ((cmp0 (by omega)).mp e)), if_neg h1, bndu, hr, gc_l σ q f b (a % b) (by omega) (by omega) (by omega) (by omega), Nat.gcd_comm b (a % b), Nat.gcd_comm a b, Nat.gcd_rec b a]
section Qr2
variable {σ τ υ : St} {z p d M k : Nat} {P : PT} {S : SX} {I : IT} {tr wh v w : Int32} {B s : Nat}
theorem go_pos (A : AW P S I B) (hP : P.1 = true) {nc : Nat} (h9 : 9 ≤ nc) (h24 : nc ≤ 24) : 1 ≤ (goR P.2.1 nc).2.1 := by
  have C := (A.2.1 hP).1
  have hm := (A.2.1 hP).2.2.2.2.2.2.2.2
  have K : Rk P.2.1 P.2.2.1 t0E nc := told_ok C (by omega) h24
  have ho : ovE P.2.1 t0E (nN t0E) = false := by
    unfold ovE
    rw [t0_n, t0_at (by omega), if_neg (by omega), t0_at (by omega), if_neg (by omega), C.2.1]
    have h1 : ¬ ((0 : Int32) < 0 ∨ nI P.2.2.1 ≤ 0) := fun h => by
      rcases h with h | h
      · exact absurd h (by decide)
      · exact nI_nle hm (by have := C.1; omega) h
    rw [decide_eq_false h1]
    decide
  have hR : goE P.2.1 nc (299 + 1) t0E 0 0 0 = goR P.2.1 nc := by unfold goR; rfl
  rw [← hR, goE_s ho]
  obtain ⟨U', K'⟩ := cy_ru K t0_ru
  exact (goE_ru 299 (0 + 1) _ _ _ _ K' U').2.2.1
def raE (c : Nat → Nat → Int32) (nc : Nat) (l : Int32) : Int64 := if l = 0 then lN (((goR c nc).1 37).toNatClampNeg / Nat.gcd ((goR c nc).1 37).toNatClampNeg (goR c nc).2.1) else lN ((goR c nc).2.1 / Nat.gcd ((goR c nc).1 37).toNatClampNeg (goR c nc).2.1)
theorem rate_c0 (hP : P.1 = false) {v l : Int32} (C : CJ z p d P S I tr wh σ) : ∃ τ, f_X8_rate z v l σ = some (-1, τ) ∧ CJ z p d P S I 1 (-1) τ ∧ Fg (inC z) σ τ := by
  refine ⟨sI σ z 12 1, ?_, C.r 1 (by decide), fg_c 1⟩
  simp only [f_X8_rate_40, f_X8_rate_107, f_X8_rate_33, f_X8_rate_13, f_X8_rate_0, f_X8_rate, C.1.zt, C.1.told, hP, ref_1 C.1.zt, osb, b2i_t, b2i_f, i10, i00, if_true, if_false, Bool.not_true, Bool.not_false, Bool.true_and, Bool.false_and, Bool.and_true, Bool.and_false]
theorem rate_r0 (hP : P.1 = false) {v l : Int32} (R : RJ M P S I tr wh σ) : ∃ τ, f_X10_rate M v l σ = some (-1, τ) ∧ RJ M P S I 1 (-1) τ ∧ Fg (inR M) σ τ := by
  have R1 := R.1.s0
  refine ⟨sI (sI (sI σ M 0 0) M 1 1) M 2 (-1), ?_, R1.end 1, RS.end (RS.s0 (by omega)) 1⟩
  have h : rcE P v = 1 := by unfold rcE; rw [if_pos hP]
  simp only [f_X10_rate_52, f_X10_rate_0, f_X10_rate, R.1.t, pI_k R.1.t, rc_k R1, h, l10, refd_k R1.t, osb, b2i_t, b2i_f, i10, i00, if_true, if_false, Bool.not_true, Bool.not_false, Bool.true_and, Bool.false_and, Bool.and_true, Bool.and_false]
  rfl
theorem rate_c2 (hP : P.1 = true) {v l : Int32} (h : v < 9 ∨ 24 < v) (C : CJ z p d P S I tr wh σ) : ∃ τ, f_X8_rate z v l σ = some (-1, τ) ∧ CJ z p d P S I 2 (-1) τ ∧ Fg (inC z) σ τ := by
  have C1 := C.r 0 (by decide)
  refine ⟨sI (sI σ z 12 0) z 12 2, ?_, C1.r 2 (by decide), (fg_c 0).trans (fg_c 2)⟩
  simp only [f_X8_rate_40, f_X8_rate_107, f_X8_rate_33, f_X8_rate_13, f_X8_rate_0, f_X8_rate, C.1.zt, C.1.told, hP, ref_0 C.1.zt, isC_c, decide_eq_true h, ref_1 C1.1.zt, osb, b2i_t, b2i_f, i10, i00, if_true, if_false, Bool.not_true, Bool.not_false, Bool.true_and, Bool.false_and, Bool.and_true, Bool.and_false]
theorem rate_r2 (hP : P.1 = true) {v l : Int32} (h : v < 9 ∨ 24 < v) (R : RJ M P S I tr wh σ) : ∃ τ, f_X10_rate M v l σ = some (-1, τ) ∧ RJ M P S I 2 (-1) τ ∧ Fg (inR M) σ τ := by
  have R1 := R.1.s0
  refine ⟨sI (sI (sI σ M 0 0) M 1 2) M 2 (-1), ?_, R1.end 2, RS.end (RS.s0 (by omega)) 2⟩
  have h : rcE P v = 2 := by unfold rcE; rw [if_neg (by rw [hP]; decide), if_pos h]
  simp only [f_X10_rate_52, f_X10_rate_0, f_X10_rate, R.1.t, pI_k R.1.t, rc_k R1, h, l20, refd_k R1.t, osb, b2i_t, b2i_f, i10, i00, if_true, if_false, Bool.not_true, Bool.not_false, Bool.true_and, Bool.false_and, Bool.and_true, Bool.and_false]
  rfl
theorem rate_c1 (A : AW P S I B) (hP : P.1 = true) {l : Int32} (hs : s < 16) (h : ¬ (nI (s + 9) < 9 ∨ 24 < nI (s + 9))) (C : CJ z p d P S I tr wh σ) : ∃ τ, f_X8_rate z (nI (s + 9)) l σ = some (raE P.2.1 (s + 9) l, τ) ∧ CJ z p d P S I 0 (-1) τ ∧ Fg (inC z) σ τ := by
  have C1 := C.r 0 (by decide)
  have C2 := C1.r 0 (by decide)
  obtain ⟨τ, t1, t2, t3, t4, t5⟩ := C2.slot A hP hs
  obtain ⟨w, n, hw, ew, hn, en, -⟩ := goR_ru (A.2.1 hP).1 (show 8 ≤ s + 9 by omega) (show s + 9 ≤ 24 by omega)
  have hp := go_pos A hP (nc := s + 9) (by omega) (by omega)
  have hg := Nat.gcd_pos_of_pos_right w (show 0 < (goR P.2.1 (s + 9)).2.1 by omega)
  have hgl := Nat.le_of_dvd (show 0 < (goR P.2.1 (s + 9)).2.1 by omega) (Nat.gcd_dvd_right w (goR P.2.1 (s + 9)).2.1)
  refine ⟨τ, ?_, t2, ((fg_c 0).trans (fg_c 0)).trans t3⟩
  have y1 := t4.2.2.1.g hs (show 16 ≤ 100000 by omega)
  have y2 := t4.2.2.2.1.g hs (show 16 ≤ 100000 by omega)
  rw [t5.1] at y1
  rw [t5.2.1, ew] at y2
  have hd1 : nI w / nI (Nat.gcd w (goR P.2.1 (s + 9)).2.1) = nI (w / Nat.gcd w (goR P.2.1 (s + 9)).2.1) := pk_div (by omega) hg (by omega)
  have hd2 : nI (goR P.2.1 (s + 9)).2.1 / nI (Nat.gcd w (goR P.2.1 (s + 9)).2.1) = nI ((goR P.2.1 (s + 9)).2.1 / Nat.gcd w (goR P.2.1 (s + 9)).2.1) := pk_div (by omega) hg (by omega)
  have q1 := Nat.div_le_self w (Nat.gcd w (goR P.2.1 (s + 9)).2.1)
  have q2 := Nat.div_le_self (goR P.2.1 (s + 9)).2.1 (Nat.gcd w (goR P.2.1 (s + 9)).2.1)
  simp only [f_X8_rate_40, f_X8_rate_107, f_X8_rate_33, f_X8_rate_13, f_X8_rate_0, f_X8_rate, C.1.zt, C.1.told, hP, ref_0 C.1.zt, isC_c, decide_eq_false h, ref_0 C1.1.zt, C2.1.cy, C2.1.pg, t1, t2.1.cy, t4.2.2.1.r t4.1, t4.2.2.2.1.r t4.1, y1, y2, cd_c (show w < 2 ^ 31 by omega) (show (goR P.2.1 (s + 9)).2.1 ≤ 1000 by omega) hp, nI_ne0 hg (show Nat.gcd w (goR P.2.1 (s + 9)).2.1 < 2 ^ 31 by omega), hd1, hd2, osb, b2i_t, b2i_f, i10, i00, if_true, if_false, Bool.not_true, Bool.not_false, Bool.true_and, Bool.false_and, Bool.and_true, Bool.and_false]
  unfold raE
  rw [ew, nI_clamp (by omega), nI_l (by omega), nI_l (by omega)]
  by_cases hl : l = 0
  · rw [if_pos hl, if_pos hl]
  · rw [if_neg hl, if_neg hl]
theorem rate_r1 (A : AW P S I B) (hP : P.1 = true) {l : Int32} (hs : s < 16) (h : ¬ (nI (s + 9) < 9 ∨ 24 < nI (s + 9))) (R : RJ M P S I tr wh σ) : ∃ τ, f_X10_rate M (nI (s + 9)) l σ = some (raE P.2.1 (s + 9) l, τ) ∧ RJ M P S I 0 (-1) τ ∧ Fg (inR M) σ τ := by
  have R1 := R.1.s0
  obtain ⟨τ, t1, t2, t3, t4, t5, t6, t7⟩ := R1.goes A hP (nc := s + 9) (by omega) (by omega)
  have R4 := t3.1.2.2.2.2.2.1.r t3.t
  obtain ⟨w, n, hw, ew, hn, en, -⟩ := goR_ru (A.2.1 hP).1 (show 8 ≤ s + 9 by omega) (show s + 9 ≤ 24 by omega)
  have hp := go_pos A hP (nc := s + 9) (by omega) (by omega)
  have hg := Nat.gcd_pos_of_pos_right w (show 0 < (goR P.2.1 (s + 9)).2.1 by omega)
  have hgl := Nat.le_of_dvd (show 0 < (goR P.2.1 (s + 9)).2.1 by omega) (Nat.gcd_dvd_right w (goR P.2.1 (s + 9)).2.1)
  refine ⟨sI (sI τ M 1 0) M 2 (-1), ?_, t3.end 0, RS.end ((RS.s0 (by omega)).trans t2) 0⟩
  have h : rcE P (nI (s + 9)) = 0 := by unfold rcE; rw [if_neg (by rw [hP]; decide), if_neg h]
  rw [ew] at t7
  have hgc : ∀ υ, f_X10_common (lN w) (lN (goR P.2.1 (s + 9)).2.1) υ = some (lN (Nat.gcd w (goR P.2.1 (s + 9)).2.1), υ) := fun υ => by
    unfold f_X10_common f_X10_common_0
    exact gc_l υ 300 FU w _ (by omega) (by unfold FU; omega) (by omega) (by omega)
  have hl0 : ¬ lN (Nat.gcd w (goR P.2.1 (s + 9)).2.1) = 0 := fun e => by
    have := (pk_lEQ (b := 0) (by omega) (by omega)).mp e
    omega
  simp only [f_X10_rate_52, f_X10_rate_0, f_X10_rate, f_X10_fraction, f_X10_fraction_0, f_X10_fraction_16, R.1.t, pI_k R.1.t, rc_k R1, h, l00, t1, R4, t7, gI_k t3.t, t4, nI_ne0 hp (show (goR P.2.1 (s + 9)).2.1 < 2 ^ 31 by omega), nI_l (show w < 2 ^ 31 by omega), nI_l (show (goR P.2.1 (s + 9)).2.1 < 2 ^ 31 by omega), t3.t, good_k t3.t, hgc, hl0, osb, b2i_t, b2i_f, i10, i00, if_true, if_false, Bool.not_true, Bool.not_false, Bool.true_and, Bool.false_and, Bool.and_true, Bool.and_false]
  unfold raE
  rw [ew, nI_clamp (by omega), pk_lDiv (by omega) hg (by omega), pk_lDiv (by omega) hg (by omega)]
  by_cases hl : l = 0
  · rw [if_pos hl, if_pos hl]; rfl
  · rw [if_neg hl, if_neg hl]; rfl
theorem rate_a (A : AW P S I B) (C : CJ z p d P S I tr wh σ) (R : RJ (z + 195) P S I tr wh σ) (o1 : hT σ (z + 203) = 24) (o2 : hN σ (z + 203) = 1) (v l : Int32) : Alike z (fun σ => f_X8_rate z v l σ) (fun σ => f_X10_rate (z + 195) v l σ) B σ := by
  cases hP : P.1 with
  | false => exact alk_of (A.up (by omega)) R o1 o2 (rate_c0 hP C) (fun τ Rτ => rate_r0 hP Rτ)
  | true =>
    rcases cel_c v with h | ⟨s, hs, e, h⟩
    · exact alk_of (A.up (by omega)) R o1 o2 (rate_c2 hP h C) (fun τ Rτ => rate_r2 hP h Rτ)
    · subst e; exact alk_of (A.up (by omega)) R o1 o2 (rate_c1 A hP hs h C) (fun τ Rτ => rate_r1 A hP hs h Rτ)
end Qr2
