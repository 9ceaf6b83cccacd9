/-! THE CLASS's history: back -/
section Hist2
variable {σ τ υ : St} {z p d M k t : Nat} {P : PT} {S S' : SX} {I : IT} {tr wh v w : Int32} {B : Nat}
theorem back_h (C : CB z p d P S I σ) (hP : P.1 = true) (hn : 0 < S.2.1) (h38 : S.2.2.1 (S.2.1 - 1) 38 = 0 ∨ S.2.2.1 (S.2.1 - 1) 38 = 1) : ∃ τ, f_X2_takeBack (z + 44) (z + 30) σ = some τ ∧ CB z p d P (S.2.2.1 (S.2.1 - 1), S.2.1 - 1, S.2.2) I τ ∧ Fg (inC z) σ τ ∧ ∀ r, r < z + 30 → Sm σ τ r := by
  have pd := C.1.pd
  obtain ⟨e1, e2, ⟨e5, e6⟩, t, ht, e3, e4⟩ := C.hd'
  have H := C.2.2.1
  have hr : jrem (nI t + 16 - 1) 16 = nI ((t + 15) % 16) := by
    have e : (nI t + 16 - 1 : Int32) = nI (t + 15) := by
      show nI t + nI 16 - nI 1 = _
      rw [nI_add, pk_sub (by omega), show t + 16 - 1 = t + 15 by omega]
    rw [e]; exact rem_n (d := 16) (by omega) (by omega) (by omega)
  have hs : nI S.2.1 - 1 = nI (S.2.1 - 1) := by
    show nI S.2.1 - nI 1 = _
    rw [pk_sub (by omega)]
  have hm16 := Nat.mod_lt (t + 15) (show 16 > 0 by omega)
  have F : Fr (fun r => r = z + 44) σ (sI (sI σ (z + 44) 2 (nI ((t + 15) % 16))) (z + 44) 3 (nI (S.2.1 - 1))) := Fr.st (Fr.s0 rfl) rfl
  have i3 : hI (sI (sI σ (z + 44) 2 (nI ((t + 15) % 16))) (z + 44) 3 (nI (S.2.1 - 1))) (z + 44) 3 = nI (S.2.1 - 1) := hI_sIe
  have i2 : hI (sI (sI σ (z + 44) 2 (nI ((t + 15) % 16))) (z + 44) 3 (nI (S.2.1 - 1))) (z + 44) 2 = nI ((t + 15) % 16) := by rw [hI_sIn (Or.inr (by omega)), hI_sIe]
  have i4 : hI (sI (sI σ (z + 44) 2 (nI ((t + 15) % 16))) (z + 44) 3 (nI (S.2.1 - 1))) (z + 44) 4 = nI S.2.2.2.1 := by rw [hI_sIn (Or.inr (by omega)), hI_sIn (Or.inr (by omega))]; exact e2
  have g3 : hI (sI σ (z + 44) 2 (nI ((t + 15) % 16))) (z + 44) 3 = nI S.2.1 := by rw [hI_sIn (Or.inr (by omega))]; exact e1
  have hf : f_X2_takeBack (z + 44) (z + 30) σ = ((gR 3 0 (z + 44) (sI (sI σ (z + 44) 2 (nI ((t + 15) % 16))) (z + 44) 3 (nI (S.2.1 - 1)))).bind fun x5 => (gI 3 2 (z + 44) (sI (sI σ (z + 44) 2 (nI ((t + 15) % 16))) (z + 44) 3 (nI (S.2.1 - 1)))).bind fun x6 => (aP x5 x6 (sI (sI σ (z + 44) 2 (nI ((t + 15) % 16))) (z + 44) 3 (nI (S.2.1 - 1)))).bind fun x7 => (f_X3_copyFrom (z + 30) x7 (sI (sI σ (z + 44) 2 (nI ((t + 15) % 16))) (z + 44) 3 (nI (S.2.1 - 1)))).bind fun σ8 => some σ8) := by
    unfold f_X2_takeBack f_X2_takeBack_0
    rw [if_pos H.1, gI_k H.1, osb, e3, hr, pI_k H.1, osb, gI_k (σ := sI σ (z + 44) 2 (nI ((t + 15) % 16))) H.1, osb, g3, hs, pI_k (σ := sI σ (z + 44) 2 (nI ((t + 15) % 16))) H.1, osb]
  rw [hf]
  generalize sI (sI σ (z + 44) 2 (nI ((t + 15) % 16))) (z + 44) 3 (nI (S.2.1 - 1)) = ω at F i3 i2 i4
  have s0 : ∀ r, r ≠ z + 44 → Sm σ ω r := fun r h => F.sm h
  have t3 : hT ω (z + 44) = 3 := by rw [F.1]; exact H.1
  have hpa : aP (z + 45) (nI ((t + 15) % 16)) ω = some (z + 47 + 7 * ((t + 15) % 16)) := aP_k (by rw [F.1]; exact H.2.2.2.1) (by rw [F.2.1]; exact H.2.2.2.2.1) hm16 (by omega) (by rw [F.2.2.1]; exact (H.2.2.2.2.2.2.2.1 _ hm16).1)
  have M0 : Mq P p ω (z + 47 + 7 * ((t + 15) % 16)) (S.2.2.1 (S.2.1 - 1)) := by
    have := e4 hP (S.2.1 - 1) (by omega)
    rw [show (t + 16 - S.2.1 + (S.2.1 - 1)) % 16 = (t + 15) % 16 by omega] at this
    exact Mc.sm this (fun r q1 q2 => s0 r (by omega)) (fun r q1 q2 => s0 r (by omega))
  obtain ⟨τ, t1, t2, t4⟩ := copy_c (b := z + 30) M0 (C.2.2.2.1.1.fr F) (Or.inr (by omega)) (by omega) h38
  have s : ∀ r, r ≠ z + 44 → ¬ (z + 30 ≤ r ∧ r ≤ z + 36) → Sm σ τ r := fun r h1 h2 => (s0 r h1).trans (t2.2 r (fun g => h2 ⟨g.1, by have := g.2; omega⟩))
  have s44 : Sm ω τ (z + 44) := t2.2 _ (fun g => by have := g.2; omega)
  have mm : ∀ a yy, z + 47 ≤ a → Mq P p σ a yy → Mq P p τ a yy := fun a yy ha M => Mc.sm M (fun r q1 q2 => s r (by omega) (by omega)) (fun r q1 q2 => s r (by omega) (by omega))
  refine ⟨τ, ?_, C.hm (fun r _ _ h1 _ h2 => s r h1 h2) (by rw [s44.1, F.1]) (by rw [s44.2.2.2.1, F.2.2.1]) (fun k hk => (H.2.2.2.2.2.2.2.1 k hk).2.sm (fun r q1 q2 => s r (by omega) (by omega))) (fun k hk => (H.2.2.2.2.2.2.2.2 k hk).2.sm (fun r q1 q2 => s r (by omega) (by omega))) t4.1 ⟨by rw [s44.2.2.1]; exact i3, by rw [s44.2.2.1]; exact i4, ⟨show S.2.1 - 1 ≤ 16 by omega, e6⟩, (t + 15) % 16, hm16, by rw [s44.2.2.1]; exact i2, fun hT k hk => ?_⟩ (fun hT => ⟨t4, fun k hk => mm _ _ (by omega) ((C.2.2.2.2.1.2.2 hT).2.1 k hk)⟩), ⟨t2.1.trans F.2.2.2.2.1, fun r hr => s r (fun e => hr ⟨by omega, by omega⟩) (fun e => hr ⟨by omega, by omega⟩)⟩, fun r hr => s r (by omega) (by omega)⟩
  · rw [gR_k t3 (by rw [F.2.2.1]; exact H.2.1), osb, gI_k t3, osb, i2, hpa, osb, t1, osb]
  · have hk' : k < S.2.1 - 1 := hk
    show Mq P p τ (z + 47 + 7 * (((t + 15) % 16 + 16 - (S.2.1 - 1) + k) % 16)) (S.2.2.1 k)
    rw [show ((t + 15) % 16 + 16 - (S.2.1 - 1) + k) % 16 = (t + 16 - S.2.1 + k) % 16 by omega]
    exact mm _ _ (by omega) (e4 hT k (by omega))
theorem pic_h (C : CB z p d P S I σ) (hP : P.1 = true) (hn : S.2.2.2.1 < 3) (h38 : S.1 38 = 0 ∨ S.1 38 = 1) : ∃ τ, f_X2_picture (z + 44) (z + 30) σ = some (nI S.2.2.2.1, τ) ∧ CB z p d P (S.1, S.2.1, S.2.2.1, S.2.2.2.1 + 1, fun k => if k = S.2.2.2.1 then S.1 else S.2.2.2.2 k) I τ ∧ Fg (inC z) σ τ ∧ ∀ r, r < z + 44 → Sm σ τ r := by
  have pd := C.1.pd
  obtain ⟨e1, e2, ⟨e5, e6⟩, t, ht, e3, e4⟩ := C.hd'
  have H := C.2.2.1
  have hp := C.img hn
  obtain ⟨τ, t1, t2, t3⟩ := copy_c (b := z + 159 + 7 * S.2.2.2.1) (C.mq hP) (H.2.2.2.2.2.2.2.2 _ hn).2 (Or.inl (by omega)) (by omega) h38
  have s : ∀ r, ¬ (z + 159 + 7 * S.2.2.2.1 ≤ r ∧ r ≤ z + 159 + 7 * S.2.2.2.1 + 6) → Sm σ τ r := fun r h => t2.2 r (fun g => h ⟨g.1, g.2⟩)
  have s44 := s (z + 44) (by omega)
  have ht3 : hT τ (z + 44) = 3 := by rw [s44.1]; exact H.1
  have F3 : Fr (fun r => r = z + 44) τ (sI τ (z + 44) 4 (nI (S.2.2.2.1 + 1))) := Fr.s0 rfl
  have j4 : hI (sI τ (z + 44) 4 (nI (S.2.2.2.1 + 1))) (z + 44) 4 = nI (S.2.2.2.1 + 1) := hI_sIe
  have j2 : hI (sI τ (z + 44) 4 (nI (S.2.2.2.1 + 1))) (z + 44) 2 = nI t := by rw [hI_sIn (Or.inr (by omega)), s44.2.2.1]; exact e3
  have j3 : hI (sI τ (z + 44) 4 (nI (S.2.2.2.1 + 1))) (z + 44) 3 = nI S.2.1 := by rw [hI_sIn (Or.inr (by omega)), s44.2.2.1]; exact e1
  have hf : f_X2_picture (z + 44) (z + 30) σ = some (nI S.2.2.2.1, sI τ (z + 44) 4 (nI (S.2.2.2.1 + 1))) := by
    unfold f_X2_picture f_X2_picture_0
    rw [if_pos H.1, gR_k H.1 H.2.2.1, osb, gI_k H.1, osb, e2, hp, osb, t1, osb, gI_k ht3, osb, s44.2.2.1, e2, nI_1, pI_k ht3, osb, gI_k (σ := sI τ (z + 44) 4 (nI (S.2.2.2.1 + 1))) ht3, osb, j4, nI_pred]
  generalize sI τ (z + 44) 4 (nI (S.2.2.2.1 + 1)) = ω at F3 j4 j2 j3 hf
  have G : ∀ r, r ≠ z + 44 → ¬ (z + 159 + 7 * S.2.2.2.1 ≤ r ∧ r ≤ z + 159 + 7 * S.2.2.2.1 + 6) → Sm σ ω r := fun r h1 h2 => (s r h2).trans (F3.sm h1)
  have M0 : Mq P p ω (z + 159 + 7 * S.2.2.2.1) S.1 := Mc.sm t3 (fun r q1 q2 => F3.sm (by omega)) (fun r q1 q2 => F3.sm (by omega))
  refine ⟨ω, hf, C.hm (fun r q1 q2 h1 h2 _ => G r h1 (by omega)) (by rw [F3.1, s44.1]) (by rw [F3.2.2.1, s44.2.2.2.1]) (fun k hk => (H.2.2.2.2.2.2.2.1 k hk).2.sm (fun r q1 q2 => G r (by omega) (by omega))) (fun k hk => ?_) (C.2.2.2.1.1.sm (fun r q1 q2 => G r (by omega) (by omega))) ⟨j3, j4, ⟨e5, show S.2.2.2.1 + 1 ≤ 3 by omega⟩, t, ht, j2, fun hT k hk => Mc.sm (e4 hT k hk) (fun r q1 q2 => by
    have := Nat.mod_lt (t + 16 - S.2.1 + k) (show 16 > 0 by omega)
    exact G r (by omega) (by omega)) (fun r q1 q2 => G r (by omega) (by omega))⟩ (fun hT => ⟨Mc.sm (C.mq hT) (fun r q1 q2 => G r (by omega) (by omega)) (fun r q1 q2 => G r (by omega) (by omega)), fun k hk => ?_⟩), ⟨by rw [F3.2.2.2.2.1, t2.1], fun r hr => G r (fun e => hr ⟨by omega, by omega⟩) (fun e => hr ⟨by omega, by omega⟩)⟩, fun r hr => G r (by omega) (by omega)⟩
  · by_cases e : k = S.2.2.2.1
    · rw [e]; exact t3.1.fr F3
    · exact (H.2.2.2.2.2.2.2.2 k hk).2.sm (fun r q1 q2 => G r (by omega) (by omega))
  · have hk' : k < S.2.2.2.1 + 1 := hk
    show Mq P p ω (z + 159 + 7 * k) (if k = S.2.2.2.1 then S.1 else S.2.2.2.2 k)
    by_cases e : k = S.2.2.2.1
    · rw [if_pos e, e]; exact M0
    · rw [if_neg e]
      exact Mc.sm ((C.2.2.2.2.1.2.2 hT).2.1 k (by omega)) (fun r q1 q2 => G r (by omega) (by omega)) (fun r q1 q2 => G r (by omega) (by omega))
theorem ret_h (C : CB z p d P S I σ) (hP : P.1 = true) {i : Nat} (hi : i < S.2.2.2.1) (h38 : S.2.2.2.2 i 38 = 0 ∨ S.2.2.2.2 i 38 = 1) : ∃ τ, f_X2_returnTo (z + 44) (nI i) (z + 30) σ = some τ ∧ CB z p d P (S.2.2.2.2 i, 0, S.2.2) I τ ∧ Fg (inC z) σ τ ∧ ∀ r, r < z + 30 → Sm σ τ r := by
  have pd := C.1.pd
  obtain ⟨e1, e2, ⟨e5, e6⟩, t, ht, e3, e4⟩ := C.hd'
  have H := C.2.2.1
  have hp := C.img (k := i) (by omega)
  obtain ⟨τ, t1, t2, t3⟩ := copy_c (b := z + 30) ((C.2.2.2.2.1.2.2 hP).2.1 i hi) C.2.2.2.1.1 (Or.inr (by omega)) (by omega) h38
  have s : ∀ r, ¬ (z + 30 ≤ r ∧ r ≤ z + 36) → Sm σ τ r := fun r h => t2.2 r (fun g => h ⟨g.1, by have := g.2; omega⟩)
  have s44 := s (z + 44) (by omega)
  have ht3 : hT τ (z + 44) = 3 := by rw [s44.1]; exact H.1
  have F3 : Fr (fun r => r = z + 44) τ (sI τ (z + 44) 3 0) := Fr.s0 rfl
  have j3 : hI (sI τ (z + 44) 3 0) (z + 44) 3 = nI 0 := by rw [hI_sIe]; rfl
  have j2 : hI (sI τ (z + 44) 3 0) (z + 44) 2 = nI t := by rw [hI_sIn (Or.inr (by omega)), s44.2.2.1]; exact e3
  have j4 : hI (sI τ (z + 44) 3 0) (z + 44) 4 = nI S.2.2.2.1 := by rw [hI_sIn (Or.inr (by omega)), s44.2.2.1]; exact e2
  have hf : f_X2_returnTo (z + 44) (nI i) (z + 30) σ = some (sI τ (z + 44) 3 0) := by
    unfold f_X2_returnTo f_X2_returnTo_0
    rw [if_pos H.1, gR_k H.1 H.2.2.1, osb, hp, osb, t1, osb, pI_k ht3, osb]
  generalize sI τ (z + 44) 3 0 = ω at F3 j4 j2 j3 hf
  have G : ∀ r, r ≠ z + 44 → ¬ (z + 30 ≤ r ∧ r ≤ z + 36) → Sm σ ω r := fun r h1 h2 => (s r h2).trans (F3.sm h1)
  refine ⟨ω, hf, C.hm (fun r q1 q2 h1 _ h2 => G r h1 h2) (by rw [F3.1, s44.1]) (by rw [F3.2.2.1, s44.2.2.2.1]) (fun k hk => (H.2.2.2.2.2.2.2.1 k hk).2.sm (fun r q1 q2 => G r (by omega) (by omega))) (fun k hk => (H.2.2.2.2.2.2.2.2 k hk).2.sm (fun r q1 q2 => G r (by omega) (by omega))) (t3.1.fr F3) ⟨j3, j4, ⟨show 0 ≤ 16 by omega, e6⟩, t, ht, j2, fun hT k hk => absurd (show k < 0 from hk) (by omega)⟩ (fun hT => ⟨Mc.sm t3 (fun r q1 q2 => F3.sm (by omega)) (fun r q1 q2 => F3.sm (by omega)), fun k hk => Mc.sm ((C.2.2.2.2.1.2.2 hT).2.1 k hk) (fun r q1 q2 => G r (by omega) (by omega)) (fun r q1 q2 => G r (by omega) (by omega))⟩), ⟨by rw [F3.2.2.2.2.1, t2.1], fun r hr => G r (fun e => hr ⟨by omega, by omega⟩) (fun e => hr ⟨by omega, by omega⟩)⟩, fun r hr => G r (by omega) (by omega)⟩
end Hist2
