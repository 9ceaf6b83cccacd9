/-! THE LAW's entry: strings, statics, classes, as the Statement gives them -/
section Sta
abbrev sRow : Type := String × Nat × String × Nat
def tmS (q : sRow) : Term := .string q.1 q.2.1
def vaS (q : sRow) : Term := .field (tmS q) "java/lang/String" "value" "[B"
def bys (q : sRow) : List Int32 := strs.getD q.2.2.2 []
def needS (q : sRow) : List Cond := [.exactly (tmS q) "java/lang/String", .eq (.field (tmS q) "java/lang/String" "coder" "B") (.int 0), .arrayOf (vaS q) .byte, .eq (.length (vaS q)) (.int (Int32.ofNat (bys q).length))] ++ (List.range (bys q).length).map (fun j => .eq (.elem (vaS q) (.int (Int32.ofNat j))) (.int ((bys q).getD j 0)))
def flS : List Cond := flatC (Jvm.Cond.and given_1 narrow_1)
def posS : List Nat := [22, 29, 36, 43, 50, 58, 66, 74, 84, 91, 100, 110, 119, 128, 137, 145, 152, 158, 167, 177, 188, 198, 208, 218, 227, 235, 243, 251, 259, 268, 277, 285, 292, 303]
def rowS (i : Nat) : sRow := strRows.getD i ("", 0, "", 0)
set_option maxRecDepth 100000 in
theorem st_need : (List.range 34).all (fun i => decide ((flS.drop (posS.getD i 0)).take (needS (rowS i)).length = needS (rowS i))) = true := by decide +kernel
set_option maxRecDepth 100000 in
theorem st_ref : strRows.map (fun q => Cond.stringRef q.1 q.2.1 q.2.2.1) = [463, 516, 517, 518, 519, 520, 521, 522, 523, 536, 549, 550, 551, 552, 553, 590, 591, 1423, 1441, 1461, 1462, 1463, 1464, 1465, 1470, 1471, 1472, 1473, 1474, 1475, 1488, 1489, 1490, 1503].filterMap (fun i => tables_1[i]?) := by decide +kernel
theorem st_row : (List.range 34).all (fun i => decide (strRows[i]? = some (rowS i)) && decide ((rowS i).2.2.2 = i) && decide ((bys (rowS i)).length < 100)) = true := by decide +kernel
theorem st_len : strRows.length = 34 := by decide +kernel
theorem st_at {i : Nat} (hi : i < 34) : strRows[i]? = some (rowS i) ∧ (rowS i).2.2.2 = i ∧ (bys (rowS i)).length < 100 := by
  have h := List.all_eq_true.mp st_row i (List.mem_range.mpr hi)
  simp only [Bool.and_eq_true, decide_eq_true_eq] at h
  exact ⟨h.1.1, h.1.2, h.2⟩
theorem st_in {i : Nat} (hi : i < 34) {w : Cond} (h : w ∈ needS (rowS i)) : w ∈ flS := by
  have h1 := List.all_eq_true.mp st_need i (List.mem_range.mpr hi)
  simp only [decide_eq_true_eq] at h1
  rw [← h1] at h
  exact List.mem_of_mem_drop (List.mem_of_mem_take h)
variable {args : Array Value} {s : State}
theorem st_one (h : ∀ w ∈ flS, w.before args s = true) {A : Nat → Prop} (hA : ∀ a : Nat, a < s.heap.size → ¬ A a) (i : Nat) : ∃ r : Nat × Nat, i < 34 → (tmS (rowS i)).eval args s none [] s = some (.ref r.1) ∧ va_O "java/lang/String" r.1 A s s.heap ∧ va_OF "java/lang/String" "coder" "B" (.int 0) r.1 A s s.heap ∧ va_OF "java/lang/String" "value" "[B" (.ref r.2) r.1 A s s.heap ∧ va_T .byte r.2 (strs.getD i []).length (fun j => .int ((strs.getD i []).getD j 0)) A s s.heap := by
  by_cases hi : i < 34
  · obtain ⟨-, e, hn⟩ := st_at hi
    have hb : bys (rowS i) = strs.getD i [] := by unfold bys; rw [e]
    have g : ∀ w ∈ needS (rowS i), w.before args s = true := fun w hw => h w (st_in hi hw)
    have g1 := g (.exactly (tmS (rowS i)) "java/lang/String") (by simp [needS])
    have g2 := g (.eq (.field (tmS (rowS i)) "java/lang/String" "coder" "B") (.int 0)) (by simp [needS])
    have g3 := g (.arrayOf (vaS (rowS i)) .byte) (by simp [needS])
    have g4 := g (.eq (.length (vaS (rowS i))) (.int (Int32.ofNat (bys (rowS i)).length))) (by simp [needS])
    have g5 : ∀ j, j < (bys (rowS i)).length → (Cond.eq (.elem (vaS (rowS i)) (.int (Int32.ofNat j))) (.int ((bys (rowS i)).getD j 0))).before args s = true := fun j hj => g _ (by
      unfold needS
      exact List.mem_append_right _ (List.mem_map.mpr ⟨j, List.mem_range.mpr hj, rfl⟩))
    obtain ⟨a, c, cA, kA, q1, q2, q3, q4, q5, q6, -⟩ := Cond.exactly_spec (args := args) (first := s) (o := none) (s := s) (idx := []) (t := tmS (rowS i)) (cls := "java/lang/String") g1
    obtain ⟨t, ht, hT⟩ := va_Tof (f := fun j => .int ((bys (rowS i)).getD j 0)) (A := A) (by omega) g3 (va_eqt g4) (fun j hj => va_eqt (g5 j hj)) hA
    rw [hb] at hT
    exact ⟨(a, t), fun _ => ⟨q1, ⟨cA, q3, q5, by rw [q6]; exact q2, hA a (Array.getElem?_eq_some_iff.mp q3).1⟩, vk_OFof q1 (va_eqt g2) hA, vk_OFof q1 ht hA, hT⟩⟩
  · exact ⟨(0, 0), fun q => absurd q hi⟩
theorem nst_on {w : Cond} (h : isNest w = true) : w.onTables = true := by
  cases w <;> first | rfl | cases h
def adF (b : Nat) (ad : Nat → Nat × Nat) (j : Nat) : Nat := if j = 1000 then b else if j < 2000 then (ad j).1 else (ad (j - 2000)).2
theorem adF_b {b : Nat} {ad : Nat → Nat × Nat} : adF b ad 1000 = b := if_pos rfl
theorem adF_1 {b : Nat} {ad : Nat → Nat × Nat} {i : Nat} (h : i < 34) : adF b ad i = (ad i).1 := by
  unfold adF
  rw [if_neg (by omega), if_pos (by omega)]
theorem adF_2 {b : Nat} {ad : Nat → Nat × Nat} {i : Nat} : adF b ad (i + 2000) = (ad i).2 := by
  unfold adF
  rw [if_neg (by omega), if_neg (by omega), Nat.add_sub_cancel]
/-- what stands still, at the entry -/
theorem Sx_entry (hts : ∀ w ∈ tables_1, w.before args s = true) (h : ∀ w ∈ flS, w.before args s = true) {b L : Nat} {xs : Nat → Int32} (hx : va_X b L xs s s.heap) (hb : b < s.heap.size) (sv : Nat → Nat) : ∃ f : Nat → Nat, f 1000 = b ∧ Sx s.heap.size (f, L, xs) sv s := by
  have hA : ∀ a : Nat, a < s.heap.size → ¬ s.heap.size ≤ a := fun a q1 q2 => by omega
  obtain ⟨ad, had⟩ := Classical.axiomOfChoice (st_one h (A := fun q => s.heap.size ≤ q) hA)
  refine ⟨adF b ad, adF_b, fun w hw => ?_, fun i hi => ?_, fun q hq => ?_, ?_, ?_, ?_, ⟨?_, fun w hw => ?_⟩, ?_, (by rw [show (adF b ad, L, xs).1 1000 = b from adF_b (ad := ad)]; exact hx), (by rw [show (adF b ad, L, xs).1 1000 = b from adF_b (ad := ad)]; exact hb)⟩
  · exact va_tabs (nst_on (List.mem_filter.mp hw).2) rfl (hts w (List.mem_filter.mp hw).1)
  · obtain ⟨-, k2, k3, k4, k5⟩ := had i hi
    have hi : i < 34 := hi
    have e1 : adF b ad i = (ad i).1 := adF_1 hi
    have e2 : adF b ad (i + 2000) = (ad i).2 := adF_2
    dsimp only
    rw [e1, e2]
    exact ⟨k2, k3, k4, k5⟩
  · obtain ⟨i, hi, e⟩ := List.getElem_of_mem hq
    have hi : i < 34 := by rw [← st_len]; exact hi
    obtain ⟨e1, e2, -⟩ := st_at hi
    have e3 : q = rowS i := by
      rw [List.getElem?_eq_getElem (by rw [st_len]; exact hi)] at e1
      rw [← e]; exact Option.some.inj e1
    subst e3
    have k1 := (had i hi).1
    refine vk_R.of (A := args) (hts _ ?_) ?_
    · have : Cond.stringRef (rowS i).1 (rowS i).2.1 (rowS i).2.2.1 ∈ strRows.map (fun q => Cond.stringRef q.1 q.2.1 q.2.2.1) := List.mem_map.mpr ⟨rowS i, hq, rfl⟩
      rw [st_ref] at this
      obtain ⟨k, -, hk⟩ := List.mem_filterMap.mp this
      exact List.mem_of_getElem? hk
    · show (tmS (rowS i)).eval args s none [] s = some (.ref (adF b ad (rowS i).2.2.2))
      rw [e2, adF_1 hi]
      exact k1
  · exact va_Zof (hts _ (tb_2 (List.mem_of_getElem? (i := 237) rfl))) (hts _ (tb_1 (List.mem_of_getElem? (i := 12) rfl))) (va_eqt (h (.eq (.static "java/lang/String" "COMPACT_STRINGS" "Z") (.int 1)) (List.mem_of_getElem? (i := 4) rfl))) hA
  · exact va_Zqof (hts _ (tb_3 (List.mem_of_getElem? (i := 13) rfl))) (hts _ (tb_1 (List.mem_of_getElem? (i := 14) rfl))) (h _ (List.mem_of_getElem? (i := 5) rfl)) hA
  · exact vx_Zqof (hts _ (tb_5 (List.mem_of_getElem? (i := 195) rfl))) (hts _ (tb_1 (List.mem_of_getElem? (i := 20) rfl))) (h _ (List.mem_of_getElem? (i := 9) rfl)) hA
  · exact vx_Zqof (hts _ (tb_5 (List.mem_of_getElem? (i := 197) rfl))) (hts _ (tb_1 (List.mem_of_getElem? (i := 20) rfl))) (h _ (List.mem_of_getElem? (i := 10) rfl)) hA
  · simp only [XW, List.mem_cons, List.not_mem_nil, or_false] at hw
    rcases hw with rfl | rfl | rfl | rfl
    · exact va_tabs rfl rfl (hts _ (tb_5 (List.mem_of_getElem? (i := 171) rfl)))
    · exact va_tabs rfl rfl (hts _ (tb_5 (List.mem_of_getElem? (i := 173) rfl)))
    · exact va_tabs rfl rfl (hts _ (tb_5 (List.mem_of_getElem? (i := 175) rfl)))
    · exact va_tabs rfl rfl (hts _ (tb_5 (List.mem_of_getElem? (i := 170) rfl)))
  · exact va_AO.of (A := args) (hts _ (tb_2 (List.mem_of_getElem? (i := 41) rfl)))
theorem kn_1 {ci N : Nat} {C : String} {T : u_T} {ty : Nat → FieldType} (hg : ∀ w ∈ GW, w.before args s = true) (h : CCk ci C T N ty) : ∃ r : ClassId × (Nat → Nat), ∀ q, vwCl[ci]? = some q → u_Kn s q.1 q.2.1 q.2.2 r.1 r.2 := by
  obtain ⟨c1, -, -, c4, -, -, c7, -⟩ := h
  obtain ⟨cC, iS, hK⟩ := u_known (C := C) (T := T) (N := N) (n := N) hg c4 (hg _ c7)
  refine ⟨(cC, iS), fun q hq => ?_⟩
  rw [c1] at hq
  cases hq
  exact hK
theorem kn_of (hg : ∀ w ∈ GW, w.before args s = true) (c : Nat) : ∃ r : ClassId × (Nat → Nat), ∀ q, vwCl[c]? = some q → u_Kn s q.1 q.2.1 q.2.2 r.1 r.2 := by
  match c with
  | 0 => exact kn_1 hg cc0
  | 1 => exact kn_1 hg cc1
  | 2 => exact kn_1 hg cc2
  | 3 => exact kn_1 hg cc3
  | 4 => exact kn_1 hg cc4
  | 5 => exact kn_1 hg cc5
  | 6 => exact kn_1 hg cc6
  | 7 => exact kn_1 hg cc7
  | 8 => exact kn_1 hg cc8
  | 9 => exact kn_1 hg cc9
  | 10 => exact kn_1 hg cc10
  | n + 11 => exact ⟨(default, fun _ => 0), fun q hq => by cases hq⟩
theorem ar_of {ty : FieldType} (h : (Cond.arrayClass ty).before args s = true) : ∃ cA, ArrOfT s cA ty ∧ s.vm.findClass ("[" ++ ty.toString) = some cA := by
  obtain ⟨c, k, comp, h1, h2, h3⟩ := Cond.arrayClass_spec h
  exact ⟨c, fun n z => ⟨fun k h => (by cases h), k, h2, comp, h3⟩, h1⟩
theorem K_entry (hts : ∀ w ∈ tables_1, w.before args s = true) (hg : ∀ w ∈ GW, w.before args s = true) : ∃ (D : va_G) (cy : Nat → ClassId), va_K D vwCl (tyl cy) s := by
  obtain ⟨f, hf⟩ := Classical.axiomOfChoice (kn_of hg)
  obtain ⟨a1, b1, d1⟩ := ar_of (hts _ (tb_1 (List.mem_of_getElem? (i := 130) rfl)))
  obtain ⟨a2, b2, d2⟩ := ar_of (hts _ (tb_1 (List.mem_of_getElem? (i := 131) rfl)))
  obtain ⟨a3, b3, d3⟩ := ar_of (hts _ (tb_1 (List.mem_of_getElem? (i := 132) rfl)))
  obtain ⟨a4, b4, d4⟩ := ar_of (hts _ (tb_9 (List.mem_of_getElem? (i := 8) rfl)))
  obtain ⟨comp, a5, k, e1, -, e3, e4, e5⟩ := Cond.arrayOver_spec (hts (.arrayOver (.object RX3)) (tb_2 (List.mem_of_getElem? (i := 41) rfl)))
  refine ⟨(fun c => (f c).1, fun c => (f c).2), fun t => if t = 21 then a1 else if t = 22 then a2 else if t = 23 then a3 else if t = 24 then a4 else a5, fun c q hq => hf c q hq, fun j q hq => ?_⟩
  match j with
  | 0 => cases hq; exact ⟨b1, d1⟩
  | 1 => cases hq; exact ⟨b2, d2⟩
  | 2 => cases hq; exact ⟨b3, d3⟩
  | 3 => cases hq; exact ⟨b4, d4⟩
  | 4 => cases hq; exact ⟨fun n z => ⟨fun k h => (by cases h), k, e3, comp, e4⟩, k, comp, e3, e4, e1, e5⟩
  | n + 5 => cases hq
end Sta
