/-! THE LAW: long rows, its code, its rooms -/
section LawRules
variable {sa : Env3} {cc : ByteArray} {K : MK} {pc pc2 : Nat} {lv : List (Nat × Value)} {st : List Value} {σ : St} {post : Option Value → St → Prop} {bc bs : Nat}
theorem cellE_l {cy : Nat → ClassId} {a : Nat} (h : hT σ a = 24) : cellE cy σ a = .inl (cy 24, hN σ a, .inr (.inl (hL σ a))) := by
  unfold cellE
  rw [if_neg (by omega), if_pos h]
theorem v_lald {a : Nat} {i : Int32} (hd : dcd cc pc .laload 1 pc2) (h : hT σ a = 24 ∧ ixo i (hN σ a) = true) (kk : VV sa cc K pc2 lv (.long (hL σ a i.toNatClampNeg) :: st) σ post bc bs) : VV sa cc K pc lv (.int i :: .ref a :: st) σ post bc bs := by
  intro p l e R s m args below meth c z sv D cy X H locs cells slots ls hR hS hl h1 h2
  obtain ⟨hd, rfl⟩ := hd
  have hat := (hR.2.2 a (by omega)).2
  rw [cellE_l h.1] at hat
  exact va_lald X.1 X.2.1 X.2.2.2.2.2.2.2.2.2.1 (one_P hat) 0 3 rfl rfl (ixo_in h.2) hd (kk p l e R s m args below meth c z sv D cy X H locs cells slots ls hR hS hl h1 h2)
theorem v_last {a : Nat} {i : Int32} {x : Int64} (hd : dcd cc pc .lastore 1 pc2) (h : hT σ a = 24 ∧ ixo i (hN σ a) = true) (kk : VV sa cc K pc2 lv st (sL σ a i.toNatClampNeg x) post bc bs) : VV sa cc K pc lv (.long x :: .int i :: .ref a :: st) σ post bc bs := by
  intro p l e R s m args below meth c z sv D cy X H locs cells slots ls hR hS hl h1 h2
  obtain ⟨hd, rfl⟩ := hd
  obtain ⟨hza, hat⟩ := hR.2.2 a (by omega)
  rw [cellE_l h.1] at hat
  refine W.last X.1 X.2.1 hat ((X.2.2.2.2.2.2.2.2.2.1.2 3 _ rfl).1 (hN σ a) (fun j => .long (hL σ a j))) (fun q => by cases q) (by show ¬ (i < 0 ∨ (arrV _ _ _).slots.size ≤ _); rw [arrV_size]; exact ixo_in h.2) rfl rfl hd fun H1 e1 z1 oq => ?_
  refine kk p l e R s m args below meth c z sv D cy X H1 _ cells slots ls (hR.set rfl rfl (fun b hb => cellE_sL hb) ?_ z1 oq) (hS.put z1 oq hza) hl h1 h2
  rw [cellE_l (σ := sL σ a i.toNatClampNeg x) h.1]
  show H1[a]? = some (vp_cell _ _)
  rw [e1, vp_cell_l, vp_cell_l, arrV_store]
  show some (arrV (cy 24) (hN σ a) _) = some (arrV (cy 24) (hN σ a) _)
  congr 2
  funext q
  by_cases hq : q = i.toNatClampNeg
  · subst hq; simp [updV, sL, hL, u2]
  · simp [updV, sL, hL, u2, hq]
theorem v_newl {N bc1 bs1 : Nat} {n : Int32} (hd : dcd cc pc (.newarray .long) 2 pc2) (hw : Cond.arrayClass .long ∈ GW) (hn : ¬ n < 0) (hNe : n.toNatClampNeg = N) (hby : N ≤ 1000000) (hbud : bc + 1 ≤ bc1 ∧ bs + N ≤ bs1) (kk : VV sa cc K pc2 lv (.ref (hZ σ) :: st) (nw σ 24 N) post bc bs) : VV sa cc K pc lv (.int n :: st) σ post bc1 bs1 := by
  refine v_bud hbud.1 hbud.2 ?_
  intro p l e R s m args below meth c z sv D cy X H locs cells slots ls hR hS hl h1 h2
  obtain ⟨hd, rfl⟩ := hd
  have hX := X
  obtain ⟨hx, hb, hml, hown, hts, hr, hlo, hin, hRm, hK, hSx, hzz⟩ := hX
  subst hRm
  have hcb : N * componentBytes (newarray.typeOf .long) ≤ 536870912 := by
    have hle : componentBytes (newarray.typeOf .long) ≤ 8 := by decide
    exact Nat.le_trans (Nat.mul_le_mul hby hle) (by decide)
  refine va_newaK (atype := .long) hx hb (hts _ hw) rfl hd rfl hn hNe hcb (show cells + 1 ≤ kC K by omega) (show slots + N ≤ kS K by omega) hR.2.1 fun H1 cA e1 z1 o1 hAr hNm => ?_
  rw [hR.2.1.symm] at z1 o1
  refine kk p l e _ s m args below meth c z sv D cy X H1 locs (cells + 1) (slots + N) ls (hR.new ?_ z1 o1) ⟨Nat.le_trans hS.1 (by omega), fun q g1 g2 => (o1 q (Nat.lt_of_lt_of_le g1 hS.1)).trans (hS.2.1 q g1 g2), hS.2.2⟩ hl (by omega) (by omega)
  rw [cellE_l (σ := nw σ 24 N) (by simp [nw, hT])]
  show H1[hZ σ]? = some (vp_cell _ _)
  rw [e1, vp_cell_l]
  have hc : cA = cy 24 := Option.some.inj (hNm.symm.trans (hK.2 3 (cy 24, .long) rfl).2)
  subst hc
  have hdv : defaultValue (newarray.typeOf .long) = .long 0 := rfl
  simp only [hdv]
  simp [nw, hL, hN]
end LawRules
