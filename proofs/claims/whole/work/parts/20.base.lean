/-! THE PURE PART: reads and writes of the maps, bits, counting -/
section Maps
variable {σ : St} {a b k j t n : Nat}
theorem gI_k (h : hT σ a = t) : gI t k a σ = some (hI σ a k) := if_pos h
theorem gL_k (h : hT σ a = t) : gL t k a σ = some (hL σ a k) := if_pos h
theorem gR_k (h : hT σ a = t) (h2 : hP σ a k = some b) : gR t k a σ = some b := (if_pos h).trans h2
theorem gQ_k (h : hT σ a = t) : gQ t k a σ = some (hP σ a k) := if_pos h
theorem pI_k {x : Int32} (h : hT σ a = t) : pI t k a x σ = some (sI σ a k x) := if_pos h
theorem pL_k {x : Int64} (h : hT σ a = t) : pL t k a x σ = some (sL σ a k x) := if_pos h
theorem pZ_k {x : Int32} (h : hT σ a = t) (hx : x = 0 ∨ x = 1) : pZ t k a x σ = some (sI σ a k x) := if_pos ⟨h, hx⟩
theorem pP_k (h : hT σ a = t) : pP t k a b σ = some (sP σ a k (some b)) := if_pos h
theorem ixo_n (h : j < n) (hn : n ≤ 100000) : ixo (nI j) n = true := by
  simp only [ixo, Bool.and_eq_true, decide_eq_true_eq]
  exact ⟨nI_pos' (by omega), by rw [nI_clamp (by omega)]; exact h⟩
theorem aI_k (h : hT σ a = t) (h2 : hN σ a = n) (hj : j < n) (hn : n ≤ 100000) : aI t a (nI j) σ = some (hI σ a j) := by
  unfold aI
  rw [if_pos ⟨h, by rw [h2]; exact ixo_n hj hn⟩, nI_clamp (by omega)]
theorem aP_k {m : Nat} (h : hT σ a = 25) (h2 : hN σ a = n) (hj : j < n) (hn : n ≤ 100000) (hp : hP σ a j = some m) : aP a (nI j) σ = some m := by
  unfold aP
  rw [if_pos ⟨h, by rw [h2]; exact ixo_n hj hn⟩, nI_clamp (by omega)]
  exact hp
theorem xI_k {x : Int32} (h : hT σ a = 22) (h2 : hN σ a = n) (hj : j < n) (hn : n ≤ 100000) : xI a (nI j) x σ = some (sI σ a j x) := by
  unfold xI
  rw [if_pos ⟨h, by rw [h2]; exact ixo_n hj hn⟩, nI_clamp (by omega)]
theorem xB_k {x : Int32} (h : hT σ a = 21) (h2 : hN σ a = n) (hj : j < n) (hn : n ≤ 100000) : xB a (nI j) x σ = some (sI σ a j (jb x)) := by
  unfold xB
  rw [if_pos ⟨h, by rw [h2]; exact ixo_n hj hn⟩, nI_clamp (by omega)]
theorem xZ_k {x : Int32} (h : hT σ a = 23) (h2 : hN σ a = n) (hj : j < n) (hn : n ≤ 100000) : xZ a (nI j) x σ = some (sI σ a j (jz x)) := by
  unfold xZ
  rw [if_pos ⟨h, by rw [h2]; exact ixo_n hj hn⟩, nI_clamp (by omega)]
theorem hI_sI {x : Int32} {b' : Nat} : hI (sI σ a k x) b' j = if b' = a ∧ j = k then x else hI σ b' j := rfl
theorem hI_sIe {x : Int32} : hI (sI σ a k x) a k = x := if_pos ⟨rfl, rfl⟩
theorem hI_sIn {x : Int32} {b' : Nat} (h : b' ≠ a ∨ j ≠ k) : hI (sI σ a k x) b' j = hI σ b' j := if_neg (fun q => h.elim (fun g => g q.1) (fun g => g q.2))
theorem hI_sIr {x : Int32} {b' : Nat} (h : b' ≠ a) : hI (sI σ a k x) b' = hI σ b' := by funext j; exact hI_sIn (Or.inl h)
theorem hI_sRe {f : Nat → Int32} : hI (sR σ a f) a = f := if_pos rfl
theorem hI_sRn {f : Nat → Int32} {b' : Nat} (h : b' ≠ a) : hI (sR σ a f) b' = hI σ b' := if_neg h
theorem hP_sPe {x : Option Nat} : hP (sP σ a k x) a k = x := if_pos ⟨rfl, rfl⟩
theorem hP_sPn {x : Option Nat} {b' : Nat} (h : b' ≠ a ∨ j ≠ k) : hP (sP σ a k x) b' j = hP σ b' j := if_neg (fun q => h.elim (fun g => g q.1) (fun g => g q.2))
/-- a row that a field names -/
def Fld (σ : St) (a k b t n : Nat) : Prop := hP σ a k = some b ∧ hT σ b = t ∧ hN σ b = n
theorem Fld.r (h : Fld σ a k b t n) {tt : Nat} (ha : hT σ a = tt) : gR tt k a σ = some b := gR_k ha h.1
theorem Fld.g (h : Fld σ a k b t n) (hj : j < n) (hn : n ≤ 100000) : aI t b (nI j) σ = some (hI σ b j) := aI_k h.2.1 h.2.2 hj hn
end Maps
theorem osb {α β : Type} {x : α} {f : α → Option β} : (some x).bind f = f x := rfl
theorem bndu {α β : Type} {x : α} {f : α → Option β} : bnd x f = f x := rfl
theorem oco {β : Type} {b : Nat} {A : Option β} {B : Nat → Option β} : oc (some b) A B = B b := rfl
theorem ocn {β : Type} {A : Option β} {B : Nat → Option β} : oc none A B = A := rfl
-- bits (the first family of kit/laws/BITS)
def bt (x : Int32) (i : Nat) : Bool := x.toBitVec.getLsbD i
theorem b_ext {x y : Int32} (h : ∀ i, i < 32 → bt x i = bt y i) : x = y := Int32.toBitVec_inj.mp (BitVec.eq_of_getLsbD_eq (fun i hi => h i hi))
theorem b_or (x y : Int32) (i : Nat) : bt (x ||| y) i = (bt x i || bt y i) := by unfold bt; rw [Int32.toBitVec_or, BitVec.getLsbD_or]
theorem b_and (x y : Int32) (i : Nat) : bt (x &&& y) i = (bt x i && bt y i) := by unfold bt; rw [Int32.toBitVec_and, BitVec.getLsbD_and]
theorem b_xor (x y : Int32) (i : Nat) : bt (x ^^^ y) i = (bt x i ^^ bt y i) := by unfold bt; rw [Int32.toBitVec_xor, BitVec.getLsbD_xor]
theorem b_big {x : Int32} {i : Nat} (h : 32 ≤ i) : bt x i = false := BitVec.getLsbD_of_ge _ _ h
theorem b_m1 : ∀ i, i < 32 → bt (-1) i = true := by decide +kernel
theorem b_0 (i : Nat) : bt 0 i = false := BitVec.getLsbD_zero
theorem s_l : ∀ n, n < 32 → ((nI n &&& 31).toBitVec.smod 32).toNat = n := by decide +kernel
theorem b_shl (n : Nat) (hn : n < 32) (x : Int32) {i : Nat} (hi : i < 32) : bt (jshl x (nI n)) i = (decide (n ≤ i) && bt x (i - n)) := by
  unfold bt jshl
  rw [Int32.toBitVec_shiftLeft]
  show (x.toBitVec <<< ((nI n &&& 31).toBitVec.smod 32).toNat).getLsbD i = _
  rw [s_l n hn, BitVec.getLsbD_shiftLeft]
  rcases Nat.lt_or_ge i n with h | h
  · simp [h, Nat.not_le.mpr h]
  · simp [hi, h, Nat.not_lt.mpr h]
theorem b_sshr (n : Nat) (hn : n < 32) (x : Int32) {i : Nat} (hi : i < 32) : bt (jshr x (nI n)) i = if n + i < 32 then bt x (n + i) else bt x 31 := by
  unfold bt jshr
  rw [Int32.toBitVec_shiftRight]
  show (x.toBitVec.sshiftRight ((nI n &&& 31).toBitVec.smod 32).toNat).getLsbD i = _
  rw [s_l n hn, BitVec.getLsbD_sshiftRight, BitVec.msb_eq_getLsbD_last]
  simp [hi]
theorem b_1 : ∀ i, i < 32 → bt 1 i = decide (i = 0) := by decide +kernel
theorem b_sh1 : ∀ n, n < 32 → ∀ i, i < 32 → bt (jshl 1 (nI n)) i = decide (i = n) := by decide +kernel
theorem b_msk : ∀ n, n < 32 → ∀ i, i < 32 → bt (jshl 1 (nI n) - 1) i = decide (i < n) := by decide +kernel
theorem b_not (x : Int32) {i : Nat} (hi : i < 32) : bt (x ^^^ (-1)) i = !bt x i := by rw [b_xor, b_m1 i hi]; simp
/-- the bit n of x, as the programs ask for it -/
theorem b_ask (x : Int32) {n : Nat} (hn : n < 32) : jshr x (nI n) &&& 1 = if bt x n = true then 1 else 0 := by
  refine b_ext (fun i hi => ?_)
  rw [b_and, b_sshr n hn x hi, b_1 i hi]
  by_cases h0 : i = 0
  · subst h0
    rw [if_pos (by omega)]
    cases h : bt x n <;> simp [h, b_0, b_1]
  · rw [decide_eq_false h0, Bool.and_false]
    cases h : bt x n <;> simp [b_0, b_1 i hi, h0]
theorem b_ask1 (x : Int32) {n : Nat} (hn : n < 32) : (jshr x (nI n) &&& 1 = 1) ↔ bt x n = true := by
  rw [b_ask x hn]
  cases h : bt x n <;> simp
-- quantifiers over the first n
def anyN (p : Nat → Bool) : Nat → Bool
  | 0 => false
  | n + 1 => anyN p n || p n
def allN (p : Nat → Bool) : Nat → Bool
  | 0 => true
  | n + 1 => allN p n && p n
def cntN (p : Nat → Bool) : Nat → Nat
  | 0 => 0
  | n + 1 => cntN p n + if p n then 1 else 0
theorem anyN_iff {p : Nat → Bool} : ∀ {n : Nat}, anyN p n = true ↔ ∃ i, i < n ∧ p i = true
  | 0 => by simp [anyN]
  | n + 1 => by
    simp only [anyN, Bool.or_eq_true, anyN_iff (n := n)]
    constructor
    · rintro (⟨i, h, g⟩ | h)
      · exact ⟨i, by omega, g⟩
      · exact ⟨n, by omega, h⟩
    · rintro ⟨i, h, g⟩
      by_cases hi : i = n
      · subst hi; exact Or.inr g
      · exact Or.inl ⟨i, by omega, g⟩
theorem allN_iff {p : Nat → Bool} : ∀ {n : Nat}, allN p n = true ↔ ∀ i, i < n → p i = true
  | 0 => by simp [allN]
  | n + 1 => by
    simp only [allN, Bool.and_eq_true, allN_iff (n := n)]
    constructor
    · rintro ⟨h, g⟩ i hi
      by_cases hin : i = n
      · subst hin; exact g
      · exact h i (by omega)
    · intro h
      exact ⟨fun i hi => h i (by omega), h n (by omega)⟩
theorem cntN_le {p : Nat → Bool} : ∀ (n : Nat), cntN p n ≤ n
  | 0 => Nat.le_refl _
  | n + 1 => by
    have := cntN_le (p := p) n
    simp only [cntN]
    split <;> omega
theorem cntN_zero {p : Nat → Bool} : ∀ {n : Nat}, cntN p n = 0 ↔ ∀ i, i < n → p i = false
  | 0 => by simp [cntN]
  | n + 1 => by
    simp only [cntN, Nat.add_eq_zero_iff, cntN_zero (n := n)]
    constructor
    · rintro ⟨h, g⟩ i hi
      by_cases hin : i = n
      · subst hin
        cases hp : p i with
        | false => rfl
        | true => rw [hp] at g; simp at g
      · exact h i (by omega)
    · intro h
      exact ⟨fun i hi => h i (by omega), by rw [h n (by omega)]; rfl⟩
theorem cntN_congr {p q : Nat → Bool} : ∀ {n : Nat}, (∀ i, i < n → p i = q i) → cntN p n = cntN q n
  | 0, _ => rfl
  | n + 1, h => by
    simp only [cntN]
    rw [cntN_congr (fun i hi => h i (by omega)), h n (by omega)]
theorem anyN_congr {p q : Nat → Bool} : ∀ {n : Nat}, (∀ i, i < n → p i = q i) → anyN p n = anyN q n
  | 0, _ => rfl
  | n + 1, h => by
    simp only [anyN]
    rw [anyN_congr (fun i hi => h i (by omega)), h n (by omega)]
theorem nI_m1 (n : Nat) : nI (n + 1) + (-1) = nI n := pk_m1 n
theorem nI_neg1 : nI 0 + (-1) = -1 := by decide
