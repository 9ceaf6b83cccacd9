/-! A fault that a text has is told by a number above 0 -/
def Fp {α : Type} (R : Flt ⊕ α) : Prop := ∀ e, R = .inl e → (0 : Int32) < e.1
section Fpp
variable {α β : Type} {b : Nat → Int32} {L p : Nat}
theorem Fp.r {v : α} : Fp (.inr v : Flt ⊕ α) := fun e h => by cases h
theorem Fp.l {k : Int32} {p : Nat} (h : 0 < k) : Fp (.inl (k, p) : Flt ⊕ α) := fun e g => by cases g; exact h
theorem Fp.and {R : Flt ⊕ α} {f : α → Flt ⊕ β} (h : Fp R) (g : ∀ v, Fp (f v)) : Fp (andS R f) := by
  cases R with
  | inl e => exact fun e' q => h e' (by cases q; rfl)
  | inr v => exact g v
theorem Fp.ite {q : Prop} [Decidable q] {R R' : Flt ⊕ α} (h : Fp R) (g : Fp R') : Fp (if q then R else R') := by
  by_cases hq : q
  · rw [if_pos hq]; exact h
  · rw [if_neg hq]; exact g
theorem fp_word {w : List Int32} : Fp (pWord b L w p) := Fp.ite Fp.r (Fp.l (by decide))
theorem fp_whole {lo hi : Int32} : Fp (pWhole b L lo hi p) := Fp.ite (Fp.ite (Fp.l (by decide)) Fp.r) (Fp.l (by decide))
theorem fp_or {w w' : List Int32} : Fp (pOr b L w w' p) := Fp.ite Fp.r (Fp.ite Fp.r (Fp.l (by decide)))
theorem fp_core : Fp (pCore b L p) := fp_word.and fun _ => fp_whole.and fun _ => fp_word.and fun _ => fp_whole.and fun _ => fp_word.and fun _ => fp_whole.and fun _ => fp_word.and fun _ => fp_whole.and fun _ => fp_or.and fun _ => Fp.r
theorem fp_step {c : Cc} {m k : Nat} : Fp (pStep b L c m k p) := Fp.and (Fp.ite Fp.r fp_whole) fun _ => Fp.and (Fp.ite Fp.r fp_whole) fun _ => Fp.and (Fp.ite Fp.r fp_whole) fun _ => Fp.and (Fp.ite fp_whole (Fp.ite fp_whole Fp.r)) fun _ => Fp.and (Fp.ite fp_or Fp.r) fun _ => Fp.r
theorem fp_un {c : Cc} {nu : Nat} : Fp (pUn b L c nu p) := Fp.ite (Fp.ite (Fp.ite (fp_whole.and fun _ => Fp.r) (Fp.l (by decide))) (Fp.l (by decide))) (Fp.l (by decide))
theorem fp_go {c : Cc} {ng : Nat} : Fp (pGo b L c ng p) := fp_whole.and fun _ => Fp.ite (fp_whole.and fun _ => Fp.r) (Fp.l (by decide))
theorem fp_line {told : Bool} {s : PS} : Fp (pLine b L told s p) := Fp.ite (Fp.l (by decide)) (Fp.ite (Fp.ite (Fp.l (by decide)) (fp_core.and fun _ => Fp.r)) (Fp.ite (Fp.l (by decide)) (Fp.ite (Fp.ite (Fp.l (by decide)) (fp_un.and fun _ => Fp.r)) (Fp.ite (Fp.ite (Fp.l (by decide)) (fp_go.and fun _ => Fp.r)) (Fp.ite (Fp.l (by decide)) (fp_step.and fun _ => Fp.r))))))
theorem fp_all : ∀ (f : Nat) (told : Bool) (s : PS) (p : Nat), Fp (pAll b L f told s p)
  | 0, _, _, _ => Fp.l (by decide)
  | f + 1, told, s, p => fp_line.and fun q => Fp.ite (Fp.ite Fp.r (Fp.l (by decide))) (Fp.ite (fp_all f true q.1 _) (Fp.l (by decide)))
theorem fp_no {f : Nat} {told : Bool} {s : PS} {e : Flt} (h : pAll b L f told s p = .inl e) : ¬ e.1 ≤ 0 := fun g => absurd (fp_all f told s p e h) (Int32.not_lt.mpr g)
end Fpp
