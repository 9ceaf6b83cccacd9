/-! WHAT A TEXT SAYS -/
abbrev Cc : Type := Nat → Nat → Int32
/-- the program so far: c, steps, unsure, got -/
abbrev PS : Type := Cc × Nat × Nat × Nat
def andS {α β : Type} (R : Flt ⊕ α) (f : α → Flt ⊕ β) : Flt ⊕ β := match R with
  | .inl e => .inl e
  | .inr v => f v
def pOr (b : Nat → Int32) (L : Nat) (w w' : List Int32) (p : Nat) : Flt ⊕ (Int32 × Nat) := if isW b L p w = true then .inr (1, adP b L p) else if isW b L p w' = true then .inr (0, adP b L p) else .inl (1, p)
def coC (v0 v1 v2 v3 v4 : Int32) : Cc := fun i j => if i = 0 then (if j = 0 then v0 else if j = 1 then v1 else if j = 2 then v2 else if j = 3 then v3 else if j = 4 then v4 else 0) else 0
def stC (c : Cc) (m : Nat) (k d a e v y : Int32) : Cc := fun i j => if i = 0 then (if j = 5 then nI (m + 1) else c 0 j) else if j = m then (if i = 1 then k else if i = 2 then d else if i = 3 then a else if i = 4 then e else if i = 5 then v else if i = 6 then y else c i j) else c i j
def unC (c : Cc) (nu : Nat) (s v : Int32) : Cc := fun i j => if i = 0 then (if j = 6 then nI (nu + 1) else c 0 j) else if j = nu then (if i = 7 then s else if i = 8 then v else c i j) else c i j
def goC (c : Cc) (ng : Nat) (s v : Int32) : Cc := fun i j => if i = 0 then (if j = 7 then nI (ng + 1) else c 0 j) else if j = ng then (if i = 9 then s else if i = 10 then v else c i j) else c i j
def pCore (b : Nat → Int32) (L p : Nat) : Flt ⊕ (Cc × Nat) :=
  andS (pWord b L (sW 9) p) fun p0 => andS (pWhole b L 9 24 p0) fun q0 =>
  andS (pWord b L (sW 10) q0.2) fun p1 => andS (pWhole b L 2 12 p1) fun q1 =>
  andS (pWord b L (sW 11) q1.2) fun p2 => andS (pWhole b L 0 4 p2) fun q2 =>
  andS (pWord b L (sW 12) q2.2) fun p3 => andS (pWhole b L 1 4 p3) fun q3 =>
  andS (pOr b L (sW 13) (sW 14) q3.2) fun q4 => .inr (coC q0.1 q1.1 q2.1 q3.1 q4.1, q4.2)
def pD (b : Nat → Int32) (L k p : Nat) : Flt ⊕ (Int32 × Nat) := if k = 5 then .inr (-1, p) else pWhole b L 0 7 p
def pA (b : Nat → Int32) (L k p : Nat) : Flt ⊕ (Int32 × Nat) := if k = 0 then .inr (-1, p) else pWhole b L 0 7 p
def pE (b : Nat → Int32) (L k p : Nat) : Flt ⊕ (Int32 × Nat) := if k = 0 ∨ k = 4 then .inr (-1, p) else pWhole b L 0 7 p
def pV (b : Nat → Int32) (L k p : Nat) : Flt ⊕ (Int32 × Nat) := if k = 0 then pWhole b L 0 9999 p else if k = 5 then pWhole b L 0 24 p else .inr (0, p)
def pY (b : Nat → Int32) (L k p : Nat) : Flt ⊕ (Int32 × Nat) := if k = 5 then pOr b L (sW 15) (sW 16) p else .inr (0, p)
def pStep (b : Nat → Int32) (L : Nat) (c : Cc) (m k p : Nat) : Flt ⊕ (Cc × Nat) :=
  andS (pD b L k p) fun d => andS (pA b L k d.2) fun a => andS (pE b L k a.2) fun e => andS (pV b L k e.2) fun v => andS (pY b L k v.2) fun y => .inr (stC c m (nI k) d.1 a.1 e.1 v.1 y.1, y.2)
def uN (v : Int32) : Nat := v.toBitVec.toNat
/-- there is a step v, and it sets -/
def isSt (c : Cc) (v : Int32) : Bool := !decide (v < 0 ∨ c 0 5 ≤ v) && decide (c 1 (uN v) = 0)
def pUn (b : Nat → Int32) (L : Nat) (c : Cc) (nu p : Nat) : Flt ⊕ (Cc × Nat) :=
  if tkS b L p = 2 then (if isSt c (vaE b L p) = true then (if allN (fun u => !decide (c 7 u = vaE b L p)) nu = true then andS (pWhole b L 0 9999 (adP b L p)) (fun q => .inr (unC c nu (vaE b L p) q.1, q.2)) else .inl (3, p)) else .inl (2, p)) else .inl (1, p)
def pGo (b : Nat → Int32) (L : Nat) (c : Cc) (ng p : Nat) : Flt ⊕ (Cc × Nat) :=
  andS (pWhole b L 0 7 p) fun q => if allN (fun g => !decide (c 9 g = q.1)) ng = true then andS (pWhole b L 0 9999 q.2) (fun w => .inr (goC c ng q.1 w.1, w.2)) else .inl (3, p)
/-- which line: 0 to 5 a step, 6 core, 7 unsure, 8 got, 9 none -/
def lnK (b : Nat → Int32) (L p : Nat) : Nat := if isW b L p (sW 0) = true then 0 else if isW b L p (sW 1) = true then 1 else if isW b L p (sW 2) = true then 2 else if isW b L p (sW 3) = true then 3 else if isW b L p (sW 4) = true then 4 else if isW b L p (sW 5) = true then 5 else if isW b L p (sW 6) = true then 6 else if isW b L p (sW 7) = true then 7 else if isW b L p (sW 8) = true then 8 else 9
def pLine (b : Nat → Int32) (L : Nat) (told : Bool) (s : PS) (p : Nat) : Flt ⊕ (PS × Nat) :=
  if lnK b L p = 9 then .inl (1, p)
  else if lnK b L p = 6 then (if told = true then .inl (3, p) else andS (pCore b L (adP b L p)) fun q => .inr ((q.1, 0, 0, 0), q.2))
  else if told = false then .inl (6, p)
  else if lnK b L p = 7 then (if 4 ≤ s.2.2.1 then .inl (5, p) else andS (pUn b L s.1 s.2.2.1 (adP b L p)) fun q => .inr ((q.1, s.2.1, s.2.2.1 + 1, s.2.2.2), q.2))
  else if lnK b L p = 8 then (if 6 ≤ s.2.2.2 then .inl (5, p) else andS (pGo b L s.1 s.2.2.2 (adP b L p)) fun q => .inr ((q.1, s.2.1, s.2.2.1, s.2.2.2 + 1), q.2))
  else (if 24 ≤ s.2.1 then .inl (5, p) else andS (pStep b L s.1 s.2.1 (lnK b L p) (adP b L p)) fun q => .inr ((q.1, s.2.1 + 1, s.2.2.1, s.2.2.2), q.2))
def pAll (b : Nat → Int32) (L : Nat) : Nat → Bool → PS → Nat → Flt ⊕ PS
  | 0, _, _, p => .inl (1, p)
  | f + 1, told, s, p => andS (pLine b L told s p) fun q => if tkS b L q.2 = 0 then (if 0 < q.1.2.1 then .inr q.1 else .inl (6, q.2)) else if tkS b L q.2 = 3 then pAll b L f true q.1 (adP b L q.2) else .inl (1, q.2)
/-- what holds of the program so far, once its core is told -/
def Gq (c : Cc) (m nu ng : Nat) : Prop := Cok c m ∧ Cun c nu ng ∧ ∃ nc, 9 ≤ nc ∧ nc ≤ 24 ∧ c 0 0 = nI nc
def Gs (s : PS) : Prop := Gq s.1 s.2.1 s.2.2.1 s.2.2.2
section Prs
variable {b : Nat → Int32} {L p q : Nat} {c : Cc} {m nu ng : Nat}
theorem adP_b (h : p ≤ L) : p ≤ adP b L p ∧ adP b L p ≤ L := by
  have := nx_b (b := b) h
  unfold adP
  split <;> omega
theorem andS_i {α β : Type} {R : Flt ⊕ α} {f : α → Flt ⊕ β} {v : β} (h : andS R f = .inr v) : ∃ u, R = .inr u ∧ f u = .inr v := by
  cases R with
  | inl e => cases h
  | inr u => exact ⟨u, rfl, h⟩
theorem pWord_i {w : List Int32} (h : pWord b L w p = .inr q) : q = adP b L p := by
  unfold pWord at h
  split at h
  · cases h; rfl
  · cases h
theorem pWhole_i {lo hi : Int32} {r : Int32 × Nat} (h : pWhole b L lo hi p = .inr r) : tkS b L p = 2 ∧ r.1 = vaE b L p ∧ r.2 = adP b L p ∧ lo ≤ r.1 ∧ r.1 ≤ hi := by
  unfold pWhole at h
  split at h
  · rename_i h2
    split at h
    · cases h
    · rename_i h3
      cases h
      exact ⟨h2, rfl, rfl, Int32.not_lt.mp (fun g => h3 (Or.inl g)), Int32.not_lt.mp (fun g => h3 (Or.inr g))⟩
  · cases h
theorem pOr_i {w w' : List Int32} {r : Int32 × Nat} (h : pOr b L w w' p = .inr r) : r.2 = adP b L p ∧ (r.1 = 0 ∨ r.1 = 1) := by
  unfold pOr at h
  split at h
  · cases h; exact ⟨rfl, Or.inr rfl⟩
  · split at h
    · cases h; exact ⟨rfl, Or.inl rfl⟩
    · cases h
theorem isN_r {v : Int32} {a e : Nat} (he : e < 2 ^ 31) (h1 : nI a ≤ v) (h2 : v ≤ nI e) (ha : a < 2 ^ 31) : ∃ w, a ≤ w ∧ w ≤ e ∧ v = nI w := by
  have h0 : ¬ v < 0 := fun g => absurd (Int32.lt_of_le_of_lt h1 g) (nI_pos ha)
  obtain ⟨j, hj, ej⟩ := nI_of h0
  refine ⟨j, ?_, ?_, ej⟩
  · rw [ej] at h1
    by_cases g : j < a
    · exact absurd h1 (nI_ge g (by omega))
    · omega
  · rw [ej] at h2
    by_cases g : e < j
    · exact absurd h2 (nI_ge g (by omega))
    · omega
end Prs
