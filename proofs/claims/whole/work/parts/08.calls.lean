/-! V: arrays, new cells, copies, calls -/
section VArr
variable {sa : Env3} {cc : ByteArray} {K : MK} {pc pc2 : Nat} {lv : List (Nat × Value)} {st : List Value} {σ : St} {post : Option Value → St → Prop} {bc bs : Nat}
theorem one_P {D : va_G} {a : Nat} {q : va_E} {H : Heap} (h : va_at D vwCl (a, q) H) : va_P D vwCl [(a, q)] H := fun j r hq => by
  have hz : j < 1 := (List.getElem?_eq_some_iff.mp hq).1
  rw [show j = 0 by omega] at hq
  cases hq
  exact h
theorem v_iald {a : Nat} {i x : Int32} (hd : dcd cc pc .iaload 1 pc2) (hg : aI 22 a i σ = some x) (kk : VV sa cc K pc2 lv (.int x :: st) σ post bc bs) : VV sa cc K pc lv (.int i :: .ref a :: st) σ post bc bs := by
  intro p l e R s m args below meth c z sv D cy X H locs cells slots ls hR hS hl h1 h2
  obtain ⟨hd, rfl⟩ := hd
  unfold aI at hg
  split at hg
  · next h =>
    cases hg
    have hat := (hR.2.2 a (by omega)).2
    rw [cellE_arr h.1 (by omega)] at hat
    exact va_iald X.1 X.2.1 X.2.2.2.2.2.2.2.2.2.1 (one_P hat) 0 1 rfl rfl (ixo_in h.2) hd (kk p l e R s m args below meth c z sv D cy X H locs cells slots ls hR hS hl h1 h2)
  · cases hg
theorem v_bald {a : Nat} {i x : Int32} (hd : dcd cc pc .baload 1 pc2) (hg : aI 21 a i σ = some x) (kk : VV sa cc K pc2 lv (.int x :: st) σ post bc bs) : VV sa cc K pc lv (.int i :: .ref a :: st) σ post bc bs := by
  intro p l e R s m args below meth c z sv D cy X H locs cells slots ls hR hS hl h1 h2
  obtain ⟨hd, rfl⟩ := hd
  unfold aI at hg
  split at hg
  · next h =>
    cases hg
    have hat := (hR.2.2 a (by omega)).2
    rw [cellE_arr h.1 (by omega)] at hat
    exact va_bald X.1 X.2.1 X.2.2.2.2.2.2.2.2.2.1 (one_P hat) 0 0 rfl rfl (ixo_in h.2) hd (kk p l e R s m args below meth c z sv D cy X H locs cells slots ls hR hS hl h1 h2)
  · cases hg
theorem v_zald {a : Nat} {i x : Int32} (hd : dcd cc pc .baload 1 pc2) (hg : aI 23 a i σ = some x) (kk : VV sa cc K pc2 lv (.int x :: st) σ post bc bs) : VV sa cc K pc lv (.int i :: .ref a :: st) σ post bc bs := by
  intro p l e R s m args below meth c z sv D cy X H locs cells slots ls hR hS hl h1 h2
  obtain ⟨hd, rfl⟩ := hd
  unfold aI at hg
  split at hg
  · next h =>
    cases hg
    have hat := (hR.2.2 a (by omega)).2
    rw [cellE_arr h.1 (by omega)] at hat
    exact va_zald X.1 X.2.1 X.2.2.2.2.2.2.2.2.2.1 (one_P hat) 0 2 rfl rfl (ixo_in h.2) hd (kk p l e R s m args below meth c z sv D cy X H locs cells slots ls hR hS hl h1 h2)
  · cases hg
theorem v_aald {a b : Nat} {i : Int32} (hd : dcd cc pc .aaload 1 pc2) (hg : aP a i σ = some b) (kk : VV sa cc K pc2 lv (.ref b :: st) σ post bc bs) : VV sa cc K pc lv (.int i :: .ref a :: st) σ post bc bs := by
  intro p l e R s m args below meth c z sv D cy X H locs cells slots ls hR hS hl h1 h2
  obtain ⟨hd, rfl⟩ := hd
  unfold aP at hg
  split at hg
  · next h =>
    have hat := (hR.2.2 a (by omega)).2
    rw [cellE_q h.1] at hat
    refine va_aldq X.1 X.2.1 X.2.2.2.2.2.2.2.2.2.1 (one_P hat) 0 4 rfl rfl (ixo_in h.2) hd ?_
    rw [hg]
    exact kk p l e R s m args below meth c z sv D cy X H locs cells slots ls hR hS hl h1 h2
  · cases hg
theorem v_alen {a : Nat} {x : Int32} (hd : dcd cc pc .arraylength 1 pc2) (hg : aN a σ = some x) (kk : VV sa cc K pc2 lv (.int x :: st) σ post bc bs) : VV sa cc K pc lv (.ref a :: st) σ post bc bs := by
  intro p l e R s m args below meth c z sv D cy X H locs cells slots ls hR hS hl h1 h2
  obtain ⟨hd, rfl⟩ := hd
  unfold aN at hg
  split at hg
  · next h =>
    cases hg
    have hat := (hR.2.2 a (by omega)).2
    have kw := kk p l e R s m args below meth c z sv D cy X H locs cells slots ls hR hS hl h1 h2
    rcases (show hT σ a = 21 ∨ hT σ a = 22 ∨ hT σ a = 23 by omega) with q | q | q
    · rw [cellE_arr q (by omega)] at hat
      exact va_alen X.1 X.2.1 X.2.2.2.2.2.2.2.2.2.1 (one_P hat) 0 0 rfl rfl rfl hd kw
    · rw [cellE_arr q (by omega)] at hat
      exact va_alen X.1 X.2.1 X.2.2.2.2.2.2.2.2.2.1 (one_P hat) 0 1 rfl rfl rfl hd kw
    · rw [cellE_arr q (by omega)] at hat
      exact va_alen X.1 X.2.1 X.2.2.2.2.2.2.2.2.2.1 (one_P hat) 0 2 rfl rfl rfl hd kw
  · cases hg
theorem at_store {D : va_G} {cy : Nat → ClassId} {a t : Nat} {i x : Int32} {H1 : Heap} (ht : hT σ a = t) (h3 : t = 21 ∨ t = 22 ∨ t = 23) (e : H1[a]? = some ((vp_cell (cy t) (hN σ a, .inl (hI σ a))).setSlot i.toNatClampNeg (.int x))) : va_at D vwCl (a, cellE cy (sI σ a i.toNatClampNeg x) a) H1 := by
  rw [cellE_arr (σ := sI σ a i.toNatClampNeg x) ht h3]
  show H1[a]? = some (vp_cell _ _)
  rw [e, vp_cell_i, vp_cell_i, arrV_store]
  show some (arrV (cy t) (hN σ a) _) = some (arrV (cy t) (hN σ a) _)
  congr 2
  funext q
  by_cases hq : q = i.toNatClampNeg
  · subst hq; simp [updV, sI, hI, u2]
  · simp [updV, sI, hI, u2, hq]
theorem v_iast {a : Nat} {i x : Int32} {σ2 : St} (hd : dcd cc pc .iastore 1 pc2) (hg : xI a i x σ = some σ2) (kk : VV sa cc K pc2 lv st σ2 post bc bs) : VV sa cc K pc lv (.int x :: .int i :: .ref a :: st) σ post bc bs := by
  intro p l e R s m args below meth c z sv D cy X H locs cells slots ls hR hS hl h1 h2
  obtain ⟨hd, rfl⟩ := hd
  unfold xI at hg
  split at hg
  · next h =>
    cases hg
    obtain ⟨hza, hat⟩ := hR.2.2 a (by omega)
    rw [cellE_arr h.1 (by omega)] at hat
    refine W.iast X.1 X.2.1 hat ((X.2.2.2.2.2.2.2.2.2.1.2 1 _ rfl).1 (hN σ a) (fun j => .int (hI σ a j))) (fun q => by cases q) (by show ¬ (i < 0 ∨ (arrV _ _ _).slots.size ≤ _); rw [arrV_size]; exact ixo_in h.2) rfl rfl hd fun H1 e1 z1 oq => ?_
    exact kk p l e R s m args below meth c z sv D cy X H1 _ cells slots ls (hR.set rfl rfl (fun b hb => cellE_sI hb) (at_store h.1 (by omega) e1) z1 oq) (hS.put z1 oq hza) hl h1 h2
  · cases hg
theorem v_bast {a : Nat} {i x : Int32} {σ2 : St} (hd : dcd cc pc .bastore 1 pc2) (hg : xB a i x σ = some σ2) (kk : VV sa cc K pc2 lv st σ2 post bc bs) : VV sa cc K pc lv (.int x :: .int i :: .ref a :: st) σ post bc bs := by
  intro p l e R s m args below meth c z sv D cy X H locs cells slots ls hR hS hl h1 h2
  obtain ⟨hd, rfl⟩ := hd
  unfold xB at hg
  split at hg
  · next h =>
    cases hg
    obtain ⟨hza, hat⟩ := hR.2.2 a (by omega)
    rw [cellE_arr h.1 (by omega)] at hat
    refine W.bast X.1 X.2.1 hat ((X.2.2.2.2.2.2.2.2.2.1.2 0 _ rfl).1 (hN σ a) (fun j => .int (hI σ a j))) (fun q => by cases q) (by show ¬ (i < 0 ∨ (arrV _ _ _).slots.size ≤ _); rw [arrV_size]; exact ixo_in h.2) rfl rfl hd fun H1 e1 z1 oq => ?_
    exact kk p l e R s m args below meth c z sv D cy X H1 _ cells slots ls (hR.set rfl rfl (fun b hb => cellE_sI hb) (at_store h.1 (by omega) e1) z1 oq) (hS.put z1 oq hza) hl h1 h2
  · cases hg
theorem jz_nar (x : Int32) : narrow .boolean (.int x) = .int (jz x) := by
  unfold jz vp_nar
  rfl
theorem v_zast {a : Nat} {i x : Int32} {σ2 : St} (hd : dcd cc pc .bastore 1 pc2) (hg : xZ a i x σ = some σ2) (kk : VV sa cc K pc2 lv st σ2 post bc bs) : VV sa cc K pc lv (.int x :: .int i :: .ref a :: st) σ post bc bs := by
  intro p l e R s m args below meth c z sv D cy X H locs cells slots ls hR hS hl h1 h2
  obtain ⟨hd, rfl⟩ := hd
  unfold xZ at hg
  split at hg
  · next h =>
    cases hg
    obtain ⟨hza, hat⟩ := hR.2.2 a (by omega)
    rw [cellE_arr h.1 (by omega)] at hat
    refine W.zast X.1 X.2.1 hat ((X.2.2.2.2.2.2.2.2.2.1.2 2 _ rfl).1 (hN σ a) (fun j => .int (hI σ a j))) (fun q => by cases q) (by show ¬ (i < 0 ∨ (arrV _ _ _).slots.size ≤ _); rw [arrV_size]; exact ixo_in h.2) rfl rfl hd fun H1 e1 z1 oq => ?_
    rw [jz_nar] at e1
    exact kk p l e R s m args below meth c z sv D cy X H1 _ cells slots ls (hR.set rfl rfl (fun b hb => cellE_sI hb) (at_store h.1 (by omega) e1) z1 oq) (hS.put z1 oq hza) hl h1 h2
  · cases hg
theorem v_aast {a v : Nat} {i : Int32} {σ2 : St} (hd : dcd cc pc .aastore 1 pc2) (hg : xP a i v σ = some σ2) (kk : VV sa cc K pc2 lv st σ2 post bc bs) : VV sa cc K pc lv (.ref v :: .int i :: .ref a :: st) σ post bc bs := by
  intro p l e R s m args below meth c z sv D cy X H locs cells slots ls hR hS hl h1 h2
  obtain ⟨hd, rfl⟩ := hd
  unfold xP at hg
  split at hg
  · next h =>
    cases hg
    obtain ⟨hza, hat⟩ := hR.2.2 a (by omega)
    rw [cellE_q h.1] at hat
    have hav := (hR.2.2 v (by omega)).2
    rw [cellE_obj (ci := 3) h.2.2 (by omega)] at hav
    have hK := X.2.2.2.2.2.2.2.2.2.1
    have hin := ixo_in h.2.1
    have hlt : i.toNatClampNeg < hN σ a := Nat.not_le.mp fun q => hin (Or.inr q)
    have h0 : ¬ i < 0 := fun q => hin (Or.inl q)
    obtain ⟨r', hr', cellV, g1, g2, g3, -⟩ := hav
    have hcls := (hK.1 3 (RX3, TX3, 20) rfl).2
    obtain ⟨kA, comp, k1, k2, k3, -⟩ := (hK.2 4 (cy 25, .object RX3) rfl).2
    have hcomp : comp = D.1 3 := Option.some.inj (k3.symm.trans hcls.1)
    subst hcomp
    obtain ⟨kC, hkC, -⟩ := hcls.2
    refine W.aast X.1 X.2.1 hat (fun q h => by cases h) (fun h => by cases h) k1 k2 rfl hkC ⟨h0, by show _ < (arrV _ _ _).slots.size; rw [arrV_size]; exact hlt⟩ g1 (fun q h => by rw [g3] at h; cases h) (by rw [g2]; exact hkC) (by rw [g2]; exact va_assign hcls) rfl rfl hd fun H1 e1 z1 oq => ?_
    refine kk p l e R s m args below meth c z sv D cy X H1 _ cells slots ls (hR.set rfl rfl (fun b hb => cellE_sP hb) ?_ z1 oq) (hS.put z1 oq hza) hl h1 h2
    rw [cellE_q (σ := sP σ a i.toNatClampNeg (some v)) h.1]
    show H1[a]? = some (vp_cell _ _)
    rw [e1, vp_cell_q, vp_cell_q, arrV_store]
    show some (arrV (cy 25) (hN σ a) _) = some (arrV (cy 25) (hN σ a) _)
    congr 2
    funext q
    by_cases hq : q = i.toNatClampNeg
    · subst hq; simp [updV, sP, hP, u2, va_rf]
    · simp [updV, sP, hP, u2, hq]
  · cases hg
theorem v_new {idx ci N bc1 bs1 : Nat} {σ2 : St} {C : String} {T : u_T} {ty : Nat → FieldType} (hd : dcd cc pc (.new idx) 3 pc2) (hC : CCk ci C T N ty) (hw : Cond.classLink (kO K) idx C ∈ GW) (hbud : bc + 1 ≤ bc1 ∧ bs + N ≤ bs1) (he : nw σ (ci + 1) 0 = σ2) (kk : VV sa cc K pc2 lv (.ref (hZ σ) :: st) σ2 post bc bs) : VV sa cc K pc lv st σ post bc1 bs1 := by
  subst he
  refine v_bud hbud.1 hbud.2 ?_
  intro p l e R s m args below meth c z sv D cy X H locs cells slots ls hR hS hl h1 h2
  obtain ⟨hd, rfl⟩ := hd
  obtain ⟨c1, c2, c3, c4, c5, c6, c7, c8, c9⟩ := hC
  have hX := X
  obtain ⟨hx, hb, hml, hown, hts, hr, hlo, hin, hRm, hK, hSx, hzz⟩ := hX
  subst hRm
  have hKn := hK.1 ci _ c1
  refine W.newcK hx hb hown (hts _ hw) (hts _ c7) (hts _ c8) rfl hd (show cells + 1 ≤ kC K by omega) (show slots + N ≤ kS K by omega) hKn.2.1 hR.2.1 fun H1 kC' hkC e1 z1 o1 => ?_
  rw [hR.2.1.symm] at z1 o1
  refine kk p l e _ s m args below meth c z sv D cy X H1 locs (cells + 1) (slots + N) ls (hR.new ?_ z1 o1) ⟨Nat.le_trans hS.1 (by omega), fun q g1 g2 => (o1 q (Nat.lt_of_lt_of_le g1 hS.1)).trans (hS.2.1 q g1 g2), hS.2.2⟩ hl (by omega) (by omega)
  rw [cellE_obj (σ := nw σ (ci + 1) 0) (ci := ci) (by simp [nw, hT]) c3]
  refine ⟨_, c1, (u_born ty hts c4 hKn hkC e1 c5).to (fun j hj => ?_)⟩
  rw [c9 j hj]
  show _ = (ofs ci (nw σ (ci + 1) 0) (hZ σ)).getD j .null
  rw [List.getD_eq_getElem?_getD, ofs_get (by omega)]
  simp [fv, nw, hI, hP, hL, va_rf]
theorem v_newa {t t0 N bc1 bs1 : Nat} {σ2 : St} {aty : ArrayType} {n : Int32} {ty : FieldType} (hd : dcd cc pc (.newarray aty) 2 pc2) (hty : newarray.typeOf aty = ty) (h3 : (t = 21 ∧ t0 = 0 ∧ ty = .byte) ∨ (t = 22 ∧ t0 = 1 ∧ ty = .int) ∨ (t = 23 ∧ t0 = 2 ∧ ty = .boolean)) (hw : Cond.arrayClass ty ∈ GW) (hn : ¬ n < 0) (hNe : n.toNatClampNeg = N) (hby : N ≤ 1000000) (hbud : bc + 1 ≤ bc1 ∧ bs + N ≤ bs1) (he : nw σ t N = σ2) (kk : VV sa cc K pc2 lv (.ref (hZ σ) :: st) σ2 post bc bs) : VV sa cc K pc lv (.int n :: st) σ post bc1 bs1 := by
  subst he
  refine v_bud hbud.1 hbud.2 ?_
  intro p l e R s m args below meth c z sv D cy X H locs cells slots ls hR hS hl h1 h2
  obtain ⟨hd, rfl⟩ := hd
  subst hty
  have hX := X
  obtain ⟨hx, hb, hml, hown, hts, hr, hlo, hin, hRm, hK, hSx, hzz⟩ := hX
  subst hRm
  have hcb : N * componentBytes (newarray.typeOf aty) ≤ 536870912 := by
    have hle : componentBytes (newarray.typeOf aty) ≤ 8 := by cases aty <;> decide
    exact Nat.le_trans (Nat.mul_le_mul hby hle) (by decide)
  refine va_newaK hx hb (hts _ hw) rfl hd rfl hn hNe hcb (show cells + 1 ≤ kC K by omega) (show slots + N ≤ kS K by omega) hR.2.1 fun H1 cA e1 z1 o1 hAr hNm => ?_
  rw [hR.2.1.symm] at z1 o1
  refine kk p l e _ s m args below meth c z sv D cy X H1 locs (cells + 1) (slots + N) ls (hR.new ?_ z1 o1) ⟨Nat.le_trans hS.1 (by omega), fun q g1 g2 => (o1 q (Nat.lt_of_lt_of_le g1 hS.1)).trans (hS.2.1 q g1 g2), hS.2.2⟩ hl (by omega) (by omega)
  have htt : t = 21 ∨ t = 22 ∨ t = 23 := by omega
  rw [cellE_arr (σ := nw σ t N) (t := t) (by simp [nw, hT]) htt]
  show H1[hZ σ]? = some (vp_cell _ _)
  rw [e1, vp_cell_i]
  have hc : cA = cy t := by
    rcases h3 with ⟨rfl, rfl, q⟩ | ⟨rfl, rfl, q⟩ | ⟨rfl, rfl, q⟩
    · rw [q] at hNm; exact Option.some.inj (hNm.symm.trans (hK.2 0 (cy 21, .byte) rfl).2)
    · rw [q] at hNm; exact Option.some.inj (hNm.symm.trans (hK.2 1 (cy 22, .int) rfl).2)
    · rw [q] at hNm; exact Option.some.inj (hNm.symm.trans (hK.2 2 (cy 23, .boolean) rfl).2)
  subst hc
  have hdv : defaultValue (newarray.typeOf aty) = .int 0 := by rcases h3 with ⟨-, -, q⟩ | ⟨-, -, q⟩ | ⟨-, -, q⟩ <;> rw [q] <;> rfl
  simp only [hdv]
  simp [nw, hI, hN]
theorem v_newq {idx N bc1 bs1 : Nat} {σ2 : St} {n : Int32} (hd : dcd cc pc (.anewarray idx) 3 pc2) (hw : Cond.classLink (kO K) idx RX3 ∈ GW) (hn : ¬ n < 0) (hN2 : n.toNatClampNeg = N) (hby : N ≤ 1000000) (hbud : bc + 1 ≤ bc1 ∧ bs + N ≤ bs1) (he : nw σ 25 N = σ2) (kk : VV sa cc K pc2 lv (.ref (hZ σ) :: st) σ2 post bc bs) : VV sa cc K pc lv (.int n :: st) σ post bc1 bs1 := by
  subst he
  refine v_bud hbud.1 hbud.2 ?_
  intro p l e R s m args below meth c z sv D cy X H locs cells slots ls hR hS hl h1 h2
  obtain ⟨hd, rfl⟩ := hd
  have hX := X
  obtain ⟨hx, hb, hml, hown, hts, hr, hlo, hin, hRm, hK, hSx, hzz⟩ := hX
  subst hRm
  subst hN2
  refine W.anew hx hb hown (hts _ hw) (va_AO.use hSx.2.2.2.2.2.2.2.1) rfl hd rfl hn (by omega) (show cells + 1 ≤ kC K by omega) (show slots + n.toNatClampNeg ≤ kS K by omega) fun cA kA comp f1 f2 f3 f4 => ?_
  generalize hH1 : H.push ({ cls := cA, slots := Array.replicate n.toNatClampNeg .null, vm := .none } : Cell) = H1
  have z1 : H1.size = H.size + 1 := by rw [← hH1, Array.size_push]
  have e1 : H1[H.size]? = some (arrV cA n.toNatClampNeg (fun _ => .null)) := by rw [← hH1, Array.getElem?_push_size, ← arrV_new]
  have o1 : ∀ q : Nat, q < H.size → H1[q]? = H[q]? := fun q hq => by rw [← hH1, Array.getElem?_push, if_neg (Nat.ne_of_lt hq)]
  have hz := hR.2.1
  rw [hz]
  refine kk p l e _ s m args below meth c z sv D cy X H1 locs (cells + 1) (slots + n.toNatClampNeg) ls (hR.new ?_ z1 o1) ⟨Nat.le_trans hS.1 (by omega), fun q g1 g2 => (o1 q (Nat.lt_of_lt_of_le g1 hS.1)).trans (hS.2.1 q g1 g2), hS.2.2⟩ hl (by omega) (by omega)
  rw [cellE_q (σ := nw σ 25 n.toNatClampNeg) (by simp [nw, hT])]
  show H1[hZ σ]? = some (vp_cell _ _)
  rw [← hz, e1, vp_cell_q]
  obtain ⟨kA', comp', -, -, -, g4⟩ := (hK.2 4 (cy 25, .object RX3) rfl).2
  have hc : cA = cy 25 := Option.some.inj (f1.symm.trans g4)
  subst hc
  rw [hz]
  simp [nw, hP, hN, va_rf]
end VArr
-- System.arraycopy over int rows, with what stays (after the law va_copyi of the library)
section XC
variable {p : Program} {l : Launch} {e : Env} {R : Room} {s : State} {m : MethodId} {args : Array Value} {below : List Frame} {meth : Method} {c : Code} {H : Heap} {locs : List Loc} {cells slots : Nat} {Q : State → Prop}
variable {cc : ByteArray} {pc : Nat} {ls : Array Slot} {rest : List Value}
theorem xw_copy (hexec : p.tables.exec = Jvm.exec) (hb : c.code = cc) (hml : c.maxLocals = ls.size) {own : String} {index : Nat} (hown : s.vm.findClass own = some m.cls) (hlink : (Cond.methodLink own index arraycopyName).before args s = true) (hnat : (Cond.native arraycopyName).before args s = true) (hstat : (Cond.static arraycopyName).before args s = true) (hini : (Cond.initialized "java/lang/System").before args s = true)
    {a0 a : Nat} {cA : ClassId} {n0 n1 : Nat} {f g : Nat → Int32} (hAr : ArrOfT s cA .int) (hc0 : H[a0]? = some (vp_cell cA (n0, .inl f))) (hc1 : H[a]? = some (vp_cell cA (n1, .inl g)))
    {sp dp n : Int32} (h1 : ¬ sp < 0) (h2 : ¬ dp < 0) (h3 : ¬ n < 0) (h4 : sp.toNatClampNeg + n.toNatClampNeg ≤ n0) (h5 : dp.toNatClampNeg + n.toNatClampNeg ≤ n1)
    (hframes : 1 ≤ R.frames) (hlocals : (rest.map fun v => v.category).sum + (nativeFrameWords "java/lang/System" "arraycopy" 5 + 11) ≤ R.locals) (hdg : decode cc pc = .ok (.invokestatic index, 3))
    (kk : ∀ (H1 : Heap) (L : List Loc), (∀ q ∈ L, q.base = a) → H1[a]? = some (vp_cell cA (n1, .inl (va_cpy f g sp.toNatClampNeg dp.toNatClampNeg n.toNatClampNeg))) → H1.size = H.size → (∀ q : Nat, q ≠ a → H1[q]? = H[q]?) → W p l e R s m args below meth c H1 (locs ++ L) cells slots Q (F0 m (pc + 3) ls rest)) : W p l e R s m args below meth c H locs cells slots Q (F0 m pc ls (.int n :: .int dp :: .ref a :: .int sp :: .ref a0 :: rest)) := by
  have nn : ∀ z : Int32, ¬ z < 0 → z.toInt = (z.toNatClampNeg : Int) := by
    intro z hz
    have hz0 : (0 : Int) ≤ z.toInt := by
      have := Int32.not_lt.mp hz
      simpa using Int32.le_iff_toInt_le.mp this
    show z.toInt = ((z.toInt.toNat : Nat) : Int)
    omega
  intro T hT X
  obtain ⟨-, k0, hk0, cm0, hkk0⟩ := hAr n0 (fun j => .int (f j))
  obtain ⟨-, k1, hk1, cm1, hkk1⟩ := hAr n1 (fun j => .int (g j))
  obtain ⟨vm', X', step⟩ := X.arraycopy hexec hown hlink hnat hstat hini (src := a0) (dst := a) (cs := vp_cell cA (n0, .inl f)) (cd := vp_cell cA (n1, .inl g)) (srcPos := sp) (destPos := dp) (n := n) (by rw [hT]; exact hc0) (by rw [hT]; exact hc1)
    (fun _ h => by cases h) (fun _ h => by cases h) (fun h => by cases h) (fun h => by cases h) hk0 hk1 hkk0 hkk1 (by simp [refKind]) h1 h2 h3
    (by rw [nn sp h1, nn n h3]; show ¬ _ > ((arrV cA n0 (fun j => .int (f j))).slots.size : Int); rw [arrV_size]; omega)
    (by rw [nn dp h2, nn n h3]; show ¬ _ > ((arrV cA n1 (fun j => .int (g j))).slots.size : Int); rw [arrV_size]; omega)
    (fun vm₁ _ i hi => by
      have e : (vp_cell cA (n0, .inl f)).slots.getD (sp.toNatClampNeg + i) .null = .int (f (sp.toNatClampNeg + i)) := by
        show (arrV cA n0 (fun j => .int (f j))).slots.getD _ _ = _
        rw [Array.getD_eq_getD_getElem?, arrV_read _ _ (by omega)]
        rfl
      refine ⟨?_, ?_⟩
      · rw [e]
        rfl
      · rw [e]
        exact trivial)
    (g := F0 m pc ls (.int n :: .int dp :: .ref a :: .int sp :: .ref a0 :: rest)) rfl (by rw [hml]) (rest := rest) rfl (by rw [hb]; exact hdg) hframes (by show 2 * 0 + _ + _ ≤ _; omega)
  have e1 : copied (vp_cell cA (n0, .inl f)) (vp_cell cA (n1, .inl g)) sp dp n = vp_cell cA (n1, .inl (va_cpy f g sp.toNatClampNeg dp.toNatClampNeg n.toNatClampNeg)) := va_copied (fun z => .int z) cA cA f g h4
  rw [e1] at X' step
  have hl : a < H.size := (Array.getElem?_eq_some_iff.mp hc1).1
  have hheap : ((T.setVm vm').setCell a (vp_cell cA (n1, .inl (va_cpy f g sp.toNatClampNeg dp.toNatClampNeg n.toNatClampNeg)))).heap = H.setIfInBounds a (vp_cell cA (n1, .inl (va_cpy f g sp.toNatClampNeg dp.toNatClampNeg n.toNatClampNeg))) := by rw [← hT]; rfl
  obtain ⟨t, a1, b1⟩ := kk (H.setIfInBounds a (vp_cell cA (n1, .inl (va_cpy f g sp.toNatClampNeg dp.toNatClampNeg n.toNatClampNeg)))) _ (fun q hq => by
      obtain ⟨z, -, hz⟩ := List.mem_map.mp hq
      rw [← hz]) (by simp [Array.getElem?_setIfInBounds, hl]) (by simp) (fun q hq => by simp [Array.getElem?_setIfInBounds, Ne.symm hq]) _ hheap X'
  exact ⟨t, step t a1, b1⟩
end XC
section VCall
variable {sa : Env3} {cc : ByteArray} {K : MK} {pc pc2 : Nat} {lv : List (Nat × Value)} {st rest : List Value} {σ : St} {post post1 : Option Value → St → Prop} {bc bs : Nat}
/-- arraycopy of int rows -/
def cpI (a0 : Nat) (sp : Int32) (a : Nat) (dp n : Int32) (σ : St) : Option St :=
  if hT σ a0 = 22 ∧ hT σ a = 22 ∧ 0 ≤ sp ∧ 0 ≤ dp ∧ 0 ≤ n ∧ sp.toNatClampNeg + n.toNatClampNeg ≤ hN σ a0 ∧ dp.toNatClampNeg + n.toNatClampNeg ≤ hN σ a then some (sR σ a (va_cpy (hI σ a0) (hI σ a) sp.toNatClampNeg dp.toNatClampNeg n.toNatClampNeg)) else none
theorem cellE_sR {cy : Nat → ClassId} {a b : Nat} {f : Nat → Int32} (h : b ≠ a) : cellE cy (sR σ a f) b = cellE cy σ b := by
  have hI' : hI (sR σ a f) b = hI σ b := by simp [hI, sR, h]
  have o1 : ∀ q, ofs q (sR σ a f) b = ofs q σ b := fun q => by simp only [ofs, fv, hI']; rfl
  simp only [cellE, hI', o1]; rfl
theorem v_copy {idx a0 a : Nat} {sp dp n : Int32} {σ2 : St} (hd : dcd cc pc (.invokestatic idx) 3 pc2) (hw : Cond.methodLink (kO K) idx arraycopyName ∈ GW) (hw2 : Cond.native arraycopyName ∈ GW) (hw3 : Cond.static arraycopyName ∈ GW) (hw4 : Cond.initialized "java/lang/System" ∈ GW) (hfr : 1 ≤ kFr K) (hlo : (rest.map fun v => v.category).sum + 18 ≤ kLo K) (hg : cpI a0 sp a dp n σ = some σ2) (kk : VV sa cc K pc2 lv rest σ2 post bc bs) : VV sa cc K pc lv (.int n :: .int dp :: .ref a :: .int sp :: .ref a0 :: rest) σ post bc bs := by
  intro p l e R s m args below meth c z sv D cy X H locs cells slots ls hR hS hl h1 h2
  obtain ⟨hd, rfl⟩ := hd
  unfold cpI at hg
  split at hg
  · next h =>
    obtain ⟨g1, g2, g3, g4, g5, g6, g7⟩ := h
    cases hg
    obtain ⟨hza, hat⟩ := hR.2.2 a (by omega)
    rw [cellE_arr g2 (by omega)] at hat
    have hat0 := (hR.2.2 a0 (by omega)).2
    rw [cellE_arr g1 (by omega)] at hat0
    have hX := X
    obtain ⟨hx, hb, hml, hown, hts, hr, hlk, hin, hRm, hK, hSx, hzz⟩ := hX
    subst hRm
    refine xw_copy hx hb (hml.trans hl.1.symm) hown (hts _ hw) (hts _ hw2) (hts _ hw3) (hts _ hw4) (hK.2 1 (cy 22, .int) rfl).1 hat0 hat (Int32.not_lt.mpr g3) (Int32.not_lt.mpr g4) (Int32.not_lt.mpr g5) g6 g7 hfr (show _ + 18 ≤ kLo K from hlo) hd fun H1 L q1 e1 z1 oq => ?_
    refine kk p l e _ s m args below meth c z sv D cy X H1 _ cells slots ls (hR.set rfl rfl (fun b hb => cellE_sR hb) ?_ z1 oq) ⟨by rw [z1]; exact hS.1, fun q k1 k2 => ?_, fun q hq => ?_⟩ hl h1 h2
    · rw [cellE_arr (σ := sR σ a _) g2 (by omega)]
      show H1[a]? = some (vp_cell _ _)
      rw [e1]
      simp [hI, sR, hN]
    · rw [oq q (fun e => k2 (by rw [e]; exact hza))]
      exact hS.2.1 q k1 k2
    · rcases List.mem_append.mp hq with k | k
      · exact hS.2.2 q k
      · rw [q1 q k]; exact hza
  · cases hg
theorem xw_call {p : Program} {l : Launch} {e : Env} {R : Room} {s : State} {m : MethodId} {args a : Array Value} {below : List Frame} {meth : Method} {c : Code} {H : Heap} {locs : List Loc} {cells slots mc ms z : Nat} {D : va_G} {cy : Nat → ClassId} {Q : State → Prop} {ls : Array Slot} {st0 : List Value}
    (hr : va_Run p l e R s m args below meth c H locs cells slots mc ms (F0 m pc ls st0) rest (QQ z D cy post1 a) (fun q => z ≤ q)) (hS : va_S (fun q => z ≤ q) s.heap H locs)
    (kk : ∀ (v : Option Value) (σ1 : St) (H1 : Heap) (locs1 : List Loc), post1 v σ1 → Rel z D cy σ1 H1 → va_S (fun q => z ≤ q) s.heap H1 locs1 → W p l e R s m args below meth c H1 locs1 (cells + mc) (slots + ms) Q (F0 m (pc + 3) ls (v.toList ++ rest))) : W p l e R s m args below meth c H locs cells slots Q (F0 m pc ls st0) := by
  intro T hT X
  obtain ⟨v, st₀, t, T', L, h0, X', hL, e1, e2, ⟨v', σ1, hv, hp, hR1, hF⟩, stp⟩ := hr T hT X
  cases hv
  rw [← e1] at hR1
  obtain ⟨f1, f2⟩ := hF
  rw [h0, ← e1] at f1 f2
  obtain ⟨t2, a1, b1⟩ := kk v σ1 T'.heap (locs ++ L) hp hR1 ⟨Nat.le_trans hS.1 f1, fun q k1 k2 => (f2 q (Nat.lt_of_lt_of_le k1 hS.1) k2).trans (hS.2.1 q k1 k2), fun q hq => by
      rcases List.mem_append.mp hq with k | k
      · exact hS.2.2 q k
      · exact hL q k⟩ T' rfl X'
  exact ⟨t2, stp t2 a1, b1⟩
def CO (y : MethodName) (cc1 : ByteArray) (K1 : MK) (n : Nat) : Prop := Cond.code y cc1 K1.1 (kR K1) ∈ GW ∧ Cond.initialized y.cls ∈ GW ∧ y.cls ≠ "java/lang/invoke/MethodHandle" ∧ y.cls ≠ "java/lang/invoke/VarHandle" ∧ (parseMethodDescriptor y.desc).map (fun d => d.parameters.length) = some n
def ML (own : String) (idx : Nat) (y : MethodName) : Prop := Cond.methodLink own idx y ∈ GW ∨ ∃ host, Cond.methodLinkNest own idx y host ∈ NW
theorem gw_in {y : MethodName} {cc1 : ByteArray} {n : Nat} {r : Option FieldType} (h : Cond.code y cc1 n r ∈ GW) : GoodIn GW (Cond.code y cc1 n r :: GW) := fun w hw => by
  have h1 : w ∈ GW := by
    rcases List.mem_cons.mp hw with rfl | h2
    · exact h
    · exact h2
  exact ⟨h1, gw_good w h1⟩
theorem PP_blind {z : Nat} {sv : Nat → Nat} {D : va_G} {cy : Nat → ClassId} {av : List Value} : FrameBlind (PP z sa sv D cy av σ) := by
  intro a U g mk h
  obtain ⟨p1, p2, p3, p4⟩ := h
  exact ⟨p1, va_K.moved (u := U) (U := U.calling g mk a) (Vm.Alike.refl U.vm) p2, Sx.go (s := U) (U := U.calling g mk a) (State.WarmedH.refl U) (by rw [p4.2.1]; exact p4.1) (fun _ _ _ => rfl) p3, p4⟩
theorem PP_start {z : Nat} {sv : Nat → Nat} {D : va_G} {cy : Nat → ClassId} {av : List Value} {p : Program} {s : State} {m : MethodId} {args : Array Value} {meth : Method} {c : Code} {R : Room} {H : Heap} {locs : List Loc} (X : Cx z sa sv D cy cc K p s m args meth c R) (hR : Rel z D cy σ H) (hS : va_S (fun q => z ≤ q) s.heap H locs) : ∀ U : State, U.heap = H → s.WarmedH U.vm → PP z sa sv D cy av σ av.toArray U := by
  intro U hU hW
  obtain ⟨hx, hb, hml, hown, hts, hr, hlk, hin, hRm, hK, hSx, hzz⟩ := X
  exact ⟨rfl, va_K.moved hW.alike hK, Sx.go hW hzz (fun q k1 k2 => by rw [hU]; exact hS.2.1 q k1 k2) hSx, by rw [hU]; exact hR⟩
theorem v_callV {y : MethodName} {cc1 : ByteArray} {K1 : MK} {n idx ci N b : Nat} {T : u_T} {As : List Value} (hd : dcd cc pc (.invokevirtual idx) 3 pc2) (hC : CO y cc1 K1 n) (hl : ML (kO K) idx y) (hi : Cond.instanceMethod y ∈ GW) (hs : Cond.selects y.cls y y ∈ GW) (hcl : vwCl[ci]? = some (y.cls, T, N)) (hc20 : ci + 1 < 20) (hb : hT σ b = ci + 1) (hE : Ex sa y cc1 K1 (.ref b :: As) σ post1) (hn : As.length = n) (hst : st = As.reverse ++ .ref b :: rest) (hW : (rest.map fun v => v.category).sum ≤ 8) (hrm : kFr K1 + 1 ≤ kFr K ∧ 8 + (K1.1 + 11) + kLo K1 ≤ kLo K) (kk : ∀ v σ1, post1 v σ1 → VV sa cc K pc2 lv (v.toList ++ rest) σ1 post bc bs) : VV sa cc K pc lv st σ post (bc + kC K1) (bs + kS K1) := by
  intro p l e R s m args below meth c z sv D cy X H locs cells slots ls hR hS hls h1 h2
  obtain ⟨hd, rfl⟩ := hd
  obtain ⟨c1, c2, c3, c4, c5⟩ := hC
  have hX := X
  obtain ⟨hx, hbb, hml, hown, hts, hr, hlk, hin, hRm, hK, hSx, hzz⟩ := hX
  subst hRm
  have hat := (hR.2.2 b (by omega)).2
  rw [cellE_obj hb hc20] at hat
  have hrc : ∃ cell : Cell, H[b]? = some cell ∧ cell.vm.isStatics = false ∧ s.vm.findClass y.cls = some cell.cls := va_recv hK (one_P hat) hcl (q0 := 0) rfl
  have kw : ∀ (v : Option Value) (σ1 : St) (H1 : Heap) (locs1 : List Loc), post1 v σ1 → Rel z D cy σ1 H1 → va_S (fun q => z ≤ q) s.heap H1 locs1 → W p l e (rmK K) s m args below meth c H1 locs1 (cells + kC K1) (slots + kS K1) (MQ below (QQ z D cy post) args s (kC K) (kS K) (fun q => z ≤ q)) (F0 m (pc + 3) ls (v.toList ++ rest)) := fun v σ1 H1 locs1 g1 g2 g3 => kk v σ1 g1 p l e _ s m args below meth c z sv D cy X H1 locs1 _ _ ls g2 g3 hls (by omega) (by omega)
  have hcs : cells + kC K1 ≤ (rmK K).cells ∧ slots + kS K1 ≤ (rmK K).slots := ⟨show _ ≤ kC K by omega, show _ ≤ kS K by omega⟩
  rcases hl with hl | ⟨host, hl⟩
  · exact xw_call (va_runV (As := As) (rest := rest) ⟨hx, hbb, hml, hown, hts⟩ (hE l z sv D cy) ⟨callB_of n hts (gw_in c1) rfl rfl rfl (hts _ c2) (hts _ hl) ⟨c3, c4, c5⟩ hrm, hts _ hi, hts _ hs⟩ ⟨PP_blind, hrc, PP_start X hR hS⟩ rfl hn hls.1 hst (lv_room hW) hd hcs) hS kw
  · exact xw_call (va_runVN (As := As) (rest := rest) ⟨hx, hbb, hml, hown, hts⟩ (hE l z sv D cy) ⟨va_cnB n hts (gw_in c1) rfl rfl rfl (hSx.1 _ hl) (hts _ c2) ⟨c3, c4, c5⟩ hrm, hts _ hi, hts _ hs⟩ ⟨PP_blind, hrc, PP_start X hR hS⟩ rfl hn hls.1 hst (lv_room hW) hd hcs) hS kw
theorem v_callS {y : MethodName} {cc1 : ByteArray} {K1 : MK} {n idx : Nat} {As : List Value} (hd : dcd cc pc (.invokestatic idx) 3 pc2) (hC : CO y cc1 K1 n) (hl : ML (kO K) idx y) (hi : Cond.static y ∈ GW) (hE : Ex sa y cc1 K1 As σ post1) (hn : As.length = n) (hst : st = As.reverse ++ rest) (hW : (rest.map fun v => v.category).sum ≤ 8) (hrm : kFr K1 + 1 ≤ kFr K ∧ 8 + (K1.1 + 11) + kLo K1 ≤ kLo K) (kk : ∀ v σ1, post1 v σ1 → VV sa cc K pc2 lv (v.toList ++ rest) σ1 post bc bs) : VV sa cc K pc lv st σ post (bc + kC K1) (bs + kS K1) := by
  intro p l e R s m args below meth c z sv D cy X H locs cells slots ls hR hS hls h1 h2
  obtain ⟨hd, rfl⟩ := hd
  obtain ⟨c1, c2, c3, c4, c5⟩ := hC
  have hX := X
  obtain ⟨hx, hbb, hml, hown, hts, hr, hlk, hin, hRm, hK, hSx, hzz⟩ := hX
  subst hRm
  have kw : ∀ (v : Option Value) (σ1 : St) (H1 : Heap) (locs1 : List Loc), post1 v σ1 → Rel z D cy σ1 H1 → va_S (fun q => z ≤ q) s.heap H1 locs1 → W p l e (rmK K) s m args below meth c H1 locs1 (cells + kC K1) (slots + kS K1) (MQ below (QQ z D cy post) args s (kC K) (kS K) (fun q => z ≤ q)) (F0 m (pc + 3) ls (v.toList ++ rest)) := fun v σ1 H1 locs1 g1 g2 g3 => kk v σ1 g1 p l e _ s m args below meth c z sv D cy X H1 locs1 _ _ ls g2 g3 hls (by omega) (by omega)
  have hcs : cells + kC K1 ≤ (rmK K).cells ∧ slots + kS K1 ≤ (rmK K).slots := ⟨show _ ≤ kC K by omega, show _ ≤ kS K by omega⟩
  rcases hl with hl | ⟨host, hl⟩
  · exact xw_call (va_runS (As := As) (rest := rest) ⟨hx, hbb, hml, hown, hts⟩ (hE l z sv D cy) ⟨callB_of n hts (gw_in c1) rfl rfl rfl (hts _ c2) (hts _ hl) ⟨c3, c4, c5⟩ hrm, hts _ hi⟩ ⟨PP_blind, PP_start X hR hS⟩ rfl hn hls.1 hst (lv_room hW) hd hcs) hS kw
  · exact xw_call (va_runSN (As := As) (rest := rest) ⟨hx, hbb, hml, hown, hts⟩ (hE l z sv D cy) ⟨va_cnB n hts (gw_in c1) rfl rfl rfl (hSx.1 _ hl) (hts _ c2) ⟨c3, c4, c5⟩ hrm, hts _ hi, trivial⟩ ⟨PP_blind, PP_start X hR hS⟩ rfl hn hls.1 hst (lv_room hW) hd hcs) hS kw
theorem v_callI {y : MethodName} {cc1 : ByteArray} {K1 : MK} {n idx b : Nat} {As : List Value} (hd : dcd cc pc (.invokespecial idx) 3 pc2) (hC : CO y cc1 K1 n) (hy : y.name = "<init>") (hrn : kR K1 = none) (hl : ML (kO K) idx y) (hi : Cond.instanceMethod y ∈ GW) (hE : Ex sa y cc1 K1 (.ref b :: As) σ post1) (hn : As.length = n) (hst : st = As.reverse ++ .ref b :: rest) (hW : (rest.map fun v => v.category).sum ≤ 8) (hrm : kFr K1 + 1 ≤ kFr K ∧ 8 + (K1.1 + 11) + kLo K1 ≤ kLo K) (kk : ∀ v σ1, post1 v σ1 → VV sa cc K pc2 lv (v.toList ++ rest) σ1 post bc bs) : VV sa cc K pc lv st σ post (bc + kC K1) (bs + kS K1) := by
  intro p l e R s m args below meth c z sv D cy X H locs cells slots ls hR hS hls h1 h2
  obtain ⟨hd, rfl⟩ := hd
  obtain ⟨c1, c2, c3, c4, c5⟩ := hC
  have hX := X
  obtain ⟨hx, hbb, hml, hown, hts, hr, hlk, hin, hRm, hK, hSx, hzz⟩ := hX
  subst hRm
  have kw : ∀ (v : Option Value) (σ1 : St) (H1 : Heap) (locs1 : List Loc), post1 v σ1 → Rel z D cy σ1 H1 → va_S (fun q => z ≤ q) s.heap H1 locs1 → W p l e (rmK K) s m args below meth c H1 locs1 (cells + kC K1) (slots + kS K1) (MQ below (QQ z D cy post) args s (kC K) (kS K) (fun q => z ≤ q)) (F0 m (pc + 3) ls (v.toList ++ rest)) := fun v σ1 H1 locs1 g1 g2 g3 => kk v σ1 g1 p l e _ s m args below meth c z sv D cy X H1 locs1 _ _ ls g2 g3 hls (by omega) (by omega)
  have hcs : cells + kC K1 ≤ (rmK K).cells ∧ slots + kS K1 ≤ (rmK K).slots := ⟨show _ ≤ kC K by omega, show _ ≤ kS K by omega⟩
  have hE2 := hE l z sv D cy
  rw [hrn] at c1 hE2
  rcases hl with hl | ⟨host, hl⟩
  · exact xw_call (va_runI (As := As) (rest := rest) ⟨hx, hbb, hml, hown, hts⟩ hE2 ⟨callB_of n hts (gw_in c1) rfl rfl rfl (hts _ c2) (hts _ hl) ⟨c3, c4, c5⟩ hrm, hy, hts _ hi⟩ ⟨PP_blind, PP_start X hR hS⟩ rfl hn hls.1 hst (lv_room hW) hd hcs) hS kw
  · exact xw_call (va_runIN (As := As) (rest := rest) ⟨hx, hbb, hml, hown, hts⟩ hE2 ⟨va_cnB n hts (gw_in c1) rfl rfl rfl (hSx.1 _ hl) (hts _ c2) ⟨c3, c4, c5⟩ hrm, hy, hts _ hi⟩ ⟨PP_blind, PP_start X hR hS⟩ rfl hn hls.1 hst (lv_room hW) hd hcs) hS kw
theorem v_objI {idx a : Nat} (hd : dcd cc pc (.invokespecial idx) 3 pc2) (hw : Cond.methodLink (kO K) idx objectInit ∈ GW) (hw2 : Cond.instanceMethod objectInit ∈ GW) (hw3 : Cond.code objectInit ⟨#[0xb1]⟩ 1 none ∈ GW) (hfr : 1 ≤ kFr K) (hlo : (rest.map fun v => v.category).sum + 12 ≤ kLo K) (kk : VV sa cc K pc2 lv rest σ post bc bs) : VV sa cc K pc lv (.ref a :: rest) σ post bc bs := by
  intro p l e R s m args below meth c z sv D cy X H locs cells slots ls hR hS hls h1 h2
  obtain ⟨hd, rfl⟩ := hd
  have hX := X
  obtain ⟨hx, hbb, hml, hown, hts, hr, hlk, hin, hRm, hK, hSx, hzz⟩ := hX
  subst hRm
  exact W.objInit hx hbb hown (hts _ hw) (hts _ hw2) (hts _ hw3) rfl (hls.1.trans hml.symm) rfl hd hfr (by show 2 * 0 + _ + 12 ≤ kLo K; omega) (kk p l e _ s m args below meth c z sv D cy X H locs cells slots ls hR hS hls h1 h2)
-- the rules as the program uses them
def pO (r : Int32 × St) : Option Value → St → Prop := fun w τ => w = some (.int r.1) ∧ τ = r.2
def pJ (r : Int64 × St) : Option Value → St → Prop := fun w τ => w = some (.long r.1) ∧ τ = r.2
def pU (r : St) : Option Value → St → Prop := fun w τ => w = none ∧ τ = r
def CV (y : MethodName) (cc1 : ByteArray) (K1 : MK) (n ci : Nat) : Prop := CO y cc1 K1 n ∧ Cond.instanceMethod y ∈ GW ∧ Cond.selects y.cls y y ∈ GW ∧ ci + 1 < 20 ∧ ∃ (T : u_T) (N : Nat), vwCl[ci]? = some (y.cls, T, N)
def CS (y : MethodName) (cc1 : ByteArray) (K1 : MK) (n : Nat) : Prop := CO y cc1 K1 n ∧ Cond.static y ∈ GW
def CI (y : MethodName) (cc1 : ByteArray) (K1 : MK) (n : Nat) : Prop := CO y cc1 K1 n ∧ Cond.instanceMethod y ∈ GW ∧ y.name = "<init>" ∧ kR K1 = none
theorem obi {α β : Type} {o : Option α} {f : α → Option β} {r : β} (h : o.bind f = some r) : ∃ x, o = some x ∧ f x = some r := by
  cases o with
  | none => cases h
  | some x => exact ⟨x, rfl, h⟩
def bnd {α β : Type} (e : α) (k : α → Option β) : Option β := k e
theorem bnd_inv {α β : Type} {e : α} {k : α → Option β} {r : β} (h : bnd e k = some r) : ∃ x, e = x ∧ k x = some r := ⟨e, rfl, h⟩
def oc {β : Type} (r : Option Nat) (A : Option β) (B : Nat → Option β) : Option β := match r with
  | none => A
  | some b => B b
theorem oc_inv {β : Type} {r : Option Nat} {A : Option β} {B : Nat → Option β} {x : β} (h : oc r A B = some x) : (r = none ∧ A = some x) ∨ ∃ b, r = some b ∧ B b = some x := by
  cases r with
  | none => exact Or.inl ⟨rfl, h⟩
  | some b => exact Or.inr ⟨b, rfl, h⟩
theorem itp {c : Prop} [Decidable c] {α : Type} {a b r : α} (h : (if c then a else b) = r) (hc : c) : a = r := by rwa [if_pos hc] at h
theorem itn {c : Prop} [Decidable c] {α : Type} {a b r : α} (h : (if c then a else b) = r) (hc : ¬ c) : b = r := by rwa [if_neg hc] at h
theorem itg {c : Prop} [Decidable c] {α : Type} {a : Option α} {r : α} (h : (if c then a else none) = some r) : c ∧ a = some r := by
  by_cases hc : c
  · rw [if_pos hc] at h; exact ⟨hc, h⟩
  · rw [if_neg hc] at h; cases h
theorem jb_nar {x : Int32} (h : jb x = x) : narrow .byte (.int x) = .int x := congrArg Value.int h
theorem jc_nar {x : Int32} (h : jc x = x) : narrow .char (.int x) = .int x := by rw [← h]; exact pk_nc _
theorem z_nar {x : Int32} (h : x = 0 ∨ x = 1) : narrow .boolean (.int x) = .int x := by rcases h with h | h <;> subst h <;> rfl
theorem v_cVi {y : MethodName} {cc1 : ByteArray} {K1 : MK} {n idx ci b bc1 bs1 : Nat} {As : List Value} {r : Int32 × St} (hd : dcd cc pc (.invokevirtual idx) 3 pc2) (hC : CV y cc1 K1 n ci) (hl : ML (kO K) idx y) (hb : hT σ b = ci + 1) (hE : Ex sa y cc1 K1 (.ref b :: As) σ (pO r)) (hn : As.length = n) (hst : st = As.reverse ++ .ref b :: rest) (hW : (rest.map fun v => v.category).sum ≤ 8) (hrm : kFr K1 + 1 ≤ kFr K ∧ 8 + (K1.1 + 11) + kLo K1 ≤ kLo K) (hbud : bc + kC K1 ≤ bc1 ∧ bs + kS K1 ≤ bs1) (kk : VV sa cc K pc2 lv (.int r.1 :: rest) r.2 post bc bs) : VV sa cc K pc lv st σ post bc1 bs1 := by
  obtain ⟨c1, c2, c3, c4, T, N, c5⟩ := hC
  refine v_bud hbud.1 hbud.2 (v_callV hd c1 hl c2 c3 c5 c4 hb hE hn hst hW hrm (fun v σ1 hp => ?_))
  obtain ⟨rfl, rfl⟩ := hp
  exact kk
theorem v_cVj {y : MethodName} {cc1 : ByteArray} {K1 : MK} {n idx ci b bc1 bs1 : Nat} {As : List Value} {r : Int64 × St} (hd : dcd cc pc (.invokevirtual idx) 3 pc2) (hC : CV y cc1 K1 n ci) (hl : ML (kO K) idx y) (hb : hT σ b = ci + 1) (hE : Ex sa y cc1 K1 (.ref b :: As) σ (pJ r)) (hn : As.length = n) (hst : st = As.reverse ++ .ref b :: rest) (hW : (rest.map fun v => v.category).sum ≤ 8) (hrm : kFr K1 + 1 ≤ kFr K ∧ 8 + (K1.1 + 11) + kLo K1 ≤ kLo K) (hbud : bc + kC K1 ≤ bc1 ∧ bs + kS K1 ≤ bs1) (kk : VV sa cc K pc2 lv (.long r.1 :: rest) r.2 post bc bs) : VV sa cc K pc lv st σ post bc1 bs1 := by
  obtain ⟨c1, c2, c3, c4, T, N, c5⟩ := hC
  refine v_bud hbud.1 hbud.2 (v_callV hd c1 hl c2 c3 c5 c4 hb hE hn hst hW hrm (fun v σ1 hp => ?_))
  obtain ⟨rfl, rfl⟩ := hp
  exact kk
theorem v_cVv {y : MethodName} {cc1 : ByteArray} {K1 : MK} {n idx ci b bc1 bs1 : Nat} {As : List Value} {r : St} (hd : dcd cc pc (.invokevirtual idx) 3 pc2) (hC : CV y cc1 K1 n ci) (hl : ML (kO K) idx y) (hb : hT σ b = ci + 1) (hE : Ex sa y cc1 K1 (.ref b :: As) σ (pU r)) (hn : As.length = n) (hst : st = As.reverse ++ .ref b :: rest) (hW : (rest.map fun v => v.category).sum ≤ 8) (hrm : kFr K1 + 1 ≤ kFr K ∧ 8 + (K1.1 + 11) + kLo K1 ≤ kLo K) (hbud : bc + kC K1 ≤ bc1 ∧ bs + kS K1 ≤ bs1) (kk : VV sa cc K pc2 lv rest r post bc bs) : VV sa cc K pc lv st σ post bc1 bs1 := by
  obtain ⟨c1, c2, c3, c4, T, N, c5⟩ := hC
  refine v_bud hbud.1 hbud.2 (v_callV hd c1 hl c2 c3 c5 c4 hb hE hn hst hW hrm (fun v σ1 hp => ?_))
  obtain ⟨rfl, rfl⟩ := hp
  exact kk
theorem v_cSi {y : MethodName} {cc1 : ByteArray} {K1 : MK} {n idx bc1 bs1 : Nat} {As : List Value} {r : Int32 × St} (hd : dcd cc pc (.invokestatic idx) 3 pc2) (hC : CS y cc1 K1 n) (hl : ML (kO K) idx y) (hE : Ex sa y cc1 K1 As σ (pO r)) (hn : As.length = n) (hst : st = As.reverse ++ rest) (hW : (rest.map fun v => v.category).sum ≤ 8) (hrm : kFr K1 + 1 ≤ kFr K ∧ 8 + (K1.1 + 11) + kLo K1 ≤ kLo K) (hbud : bc + kC K1 ≤ bc1 ∧ bs + kS K1 ≤ bs1) (kk : VV sa cc K pc2 lv (.int r.1 :: rest) r.2 post bc bs) : VV sa cc K pc lv st σ post bc1 bs1 := by
  refine v_bud hbud.1 hbud.2 (v_callS hd hC.1 hl hC.2 hE hn hst hW hrm (fun v σ1 hp => ?_))
  obtain ⟨rfl, rfl⟩ := hp
  exact kk
theorem v_cSj {y : MethodName} {cc1 : ByteArray} {K1 : MK} {n idx bc1 bs1 : Nat} {As : List Value} {r : Int64 × St} (hd : dcd cc pc (.invokestatic idx) 3 pc2) (hC : CS y cc1 K1 n) (hl : ML (kO K) idx y) (hE : Ex sa y cc1 K1 As σ (pJ r)) (hn : As.length = n) (hst : st = As.reverse ++ rest) (hW : (rest.map fun v => v.category).sum ≤ 8) (hrm : kFr K1 + 1 ≤ kFr K ∧ 8 + (K1.1 + 11) + kLo K1 ≤ kLo K) (hbud : bc + kC K1 ≤ bc1 ∧ bs + kS K1 ≤ bs1) (kk : VV sa cc K pc2 lv (.long r.1 :: rest) r.2 post bc bs) : VV sa cc K pc lv st σ post bc1 bs1 := by
  refine v_bud hbud.1 hbud.2 (v_callS hd hC.1 hl hC.2 hE hn hst hW hrm (fun v σ1 hp => ?_))
  obtain ⟨rfl, rfl⟩ := hp
  exact kk
theorem v_cSv {y : MethodName} {cc1 : ByteArray} {K1 : MK} {n idx bc1 bs1 : Nat} {As : List Value} {r : St} (hd : dcd cc pc (.invokestatic idx) 3 pc2) (hC : CS y cc1 K1 n) (hl : ML (kO K) idx y) (hE : Ex sa y cc1 K1 As σ (pU r)) (hn : As.length = n) (hst : st = As.reverse ++ rest) (hW : (rest.map fun v => v.category).sum ≤ 8) (hrm : kFr K1 + 1 ≤ kFr K ∧ 8 + (K1.1 + 11) + kLo K1 ≤ kLo K) (hbud : bc + kC K1 ≤ bc1 ∧ bs + kS K1 ≤ bs1) (kk : VV sa cc K pc2 lv rest r post bc bs) : VV sa cc K pc lv st σ post bc1 bs1 := by
  refine v_bud hbud.1 hbud.2 (v_callS hd hC.1 hl hC.2 hE hn hst hW hrm (fun v σ1 hp => ?_))
  obtain ⟨rfl, rfl⟩ := hp
  exact kk
theorem v_cIv {y : MethodName} {cc1 : ByteArray} {K1 : MK} {n idx b bc1 bs1 : Nat} {As : List Value} {r : St} (hd : dcd cc pc (.invokespecial idx) 3 pc2) (hC : CI y cc1 K1 n) (hl : ML (kO K) idx y) (hE : Ex sa y cc1 K1 (.ref b :: As) σ (pU r)) (hn : As.length = n) (hst : st = As.reverse ++ .ref b :: rest) (hW : (rest.map fun v => v.category).sum ≤ 8) (hrm : kFr K1 + 1 ≤ kFr K ∧ 8 + (K1.1 + 11) + kLo K1 ≤ kLo K) (hbud : bc + kC K1 ≤ bc1 ∧ bs + kS K1 ≤ bs1) (kk : VV sa cc K pc2 lv rest r post bc bs) : VV sa cc K pc lv st σ post bc1 bs1 := by
  refine v_bud hbud.1 hbud.2 (v_callI hd hC.1 hC.2.2.1 hC.2.2.2 hl hC.2.1 hE hn hst hW hrm (fun v σ1 hp => ?_))
  obtain ⟨rfl, rfl⟩ := hp
  exact kk
theorem itx {c : Prop} [Decidable c] {α : Type} {a : Option α} {r : α} (h : (if c then none else a) = some r) : ¬ c ∧ a = some r := by
  by_cases hc : c
  · rw [if_pos hc] at h; cases h
  · rw [if_neg hc] at h; exact ⟨hc, h⟩
theorem str_in (i : Nat) {q : String × Nat × String × Nat} (h : strRows[i]? = some q) : q ∈ strRows := List.mem_of_getElem? h
-- strings
def sByte (s : Nat) (i : Int32) : Option Int32 := if s < nStr ∧ ixo i (strs.getD s []).length = true then some ((strs.getD s []).getD i.toNatClampNeg 0) else none
def sBlen (s : Nat) : Option Int32 := if s < nStr then some (Int32.ofNat (strs.getD s []).length) else none
theorem v_sval {idx s : Nat} (hd : dcd cc pc (.getfield idx) 3 pc2) (hw : Cond.fieldLink (kO K) idx "java/lang/String" "value" "[B" ∈ GW) (hs : s < nStr) (kk : VV sa cc K pc2 lv (.ref (sa.1 (s + 2000)) :: st) σ post bc bs) : VV sa cc K pc lv (.ref (sa.1 s) :: st) σ post bc bs := by
  intro p l e R s0 m args below meth c z sv D cy X H locs cells slots ls hR hS hls h1 h2
  obtain ⟨hd, rfl⟩ := hd
  exact vk_getf X.1 X.2.1 (X.2.2.2.2.2.2.2.2.2.2.1.2.1 s hs).2.2.1 hS X.2.2.2.1 (X.2.2.2.2.1 _ hw) (fun _ h => h) hd (kk p l e R s0 m args below meth c z sv D cy X H locs cells slots ls hR hS hls h1 h2)
theorem v_scod {idx s : Nat} (hd : dcd cc pc (.getfield idx) 3 pc2) (hw : Cond.fieldLink (kO K) idx "java/lang/String" "coder" "B" ∈ GW) (hs : s < nStr) (kk : VV sa cc K pc2 lv (.int 0 :: st) σ post bc bs) : VV sa cc K pc lv (.ref (sa.1 s) :: st) σ post bc bs := by
  intro p l e R s0 m args below meth c z sv D cy X H locs cells slots ls hR hS hls h1 h2
  obtain ⟨hd, rfl⟩ := hd
  exact vk_getf X.1 X.2.1 (X.2.2.2.2.2.2.2.2.2.2.1.2.1 s hs).2.1 hS X.2.2.2.1 (X.2.2.2.2.1 _ hw) (fun _ h => h) hd (kk p l e R s0 m args below meth c z sv D cy X H locs cells slots ls hR hS hls h1 h2)
theorem v_scs {idx : Nat} (hd : dcd cc pc (.getstatic idx) 3 pc2) (hw : Cond.fieldLink (kO K) idx "java/lang/String" "COMPACT_STRINGS" "Z" ∈ GW) (kk : VV sa cc K pc2 lv (.int 1 :: st) σ post bc bs) : VV sa cc K pc lv st σ post bc bs := by
  intro p l e R s0 m args below meth c z sv D cy X H locs cells slots ls hR hS hls h1 h2
  obtain ⟨hd, rfl⟩ := hd
  exact va_gets X.1 X.2.1 X.2.2.2.2.2.2.2.2.2.2.1.2.2.2.1 hS X.2.2.2.1 (X.2.2.2.2.1 _ hw) (fun _ h => h) hd (kk p l e R s0 m args below meth c z sv D cy X H locs cells slots ls hR hS hls h1 h2)
theorem v_sbl {s : Nat} {x : Int32} (hd : dcd cc pc .arraylength 1 pc2) (hg : sBlen s = some x) (kk : VV sa cc K pc2 lv (.int x :: st) σ post bc bs) : VV sa cc K pc lv (.ref (sa.1 (s + 2000)) :: st) σ post bc bs := by
  intro p l e R s0 m args below meth c z sv D cy X H locs cells slots ls hR hS hls h1 h2
  obtain ⟨hd, rfl⟩ := hd
  obtain ⟨hs, hx⟩ := itg hg
  cases hx
  exact va_tlen X.1 X.2.1 (X.2.2.2.2.2.2.2.2.2.2.1.2.1 s hs).2.2.2 hS rfl hd (kk p l e R s0 m args below meth c z sv D cy X H locs cells slots ls hR hS hls h1 h2)
theorem v_sba {s : Nat} {i x : Int32} (hd : dcd cc pc .baload 1 pc2) (hg : sByte s i = some x) (kk : VV sa cc K pc2 lv (.int x :: st) σ post bc bs) : VV sa cc K pc lv (.int i :: .ref (sa.1 (s + 2000)) :: st) σ post bc bs := by
  intro p l e R s0 m args below meth c z sv D cy X H locs cells slots ls hR hS hls h1 h2
  obtain ⟨hd, rfl⟩ := hd
  obtain ⟨hs, hx⟩ := itg hg
  cases hx
  exact va_tb X.1 X.2.1 (X.2.2.2.2.2.2.2.2.2.2.1.2.1 s hs.1).2.2.2 hS (ixo_in hs.2) rfl hd (kk p l e R s0 m args below meth c z sv D cy X H locs cells slots ls hR hS hls h1 h2)
theorem v_sfm {idx : Nat} (hd : dcd cc pc (.getstatic idx) 3 pc2) (hw : Cond.fieldLink (kO K) idx "jdk/internal/util/Preconditions" "SIOOBE_FORMATTER" "Ljava/util/function/BiFunction;" ∈ GW) (kk : ∀ o : Option Nat, VV sa cc K pc2 lv (va_rf o :: st) σ post bc bs) : VV sa cc K pc lv st σ post bc bs := by
  intro p l e R s0 m args below meth c z sv D cy X H locs cells slots ls hR hS hls h1 h2
  obtain ⟨hd, rfl⟩ := hd
  rcases X.2.2.2.2.2.2.2.2.2.2.1.2.2.2.2.1 with hZ | ⟨t, hZ⟩
  · exact va_gets X.1 X.2.1 hZ hS X.2.2.2.1 (X.2.2.2.2.1 _ hw) (fun _ h => h) hd (kk none p l e R s0 m args below meth c z sv D cy X H locs cells slots ls hR hS hls h1 h2)
  · exact va_gets X.1 X.2.1 hZ hS X.2.2.2.1 (X.2.2.2.2.1 _ hw) (fun _ h => h) hd (kk (some t) p l e R s0 m args below meth c z sv D cy X H locs cells slots ls hR hS hls h1 h2)
def jmax (x y : Int32) : Int32 := if x < y then y else x
def jmin (x y : Int32) : Int32 := if y < x then y else x
theorem v_mmax {idx : Nat} {x y : Int32} (hd : dcd cc pc (.invokestatic idx) 3 pc2) (hw : Cond.methodLink (kO K) idx Lib.Math.max.name ∈ GW) (hw2 : Cond.static Lib.Math.max.name ∈ GW) (hw3 : Cond.initialized "java/lang/Math" ∈ GW) (hw4 : Cond.code Lib.Math.max.name Lib.Math.max.code 2 (some .int) ∈ GW) (hfr : 1 ≤ kFr K) (hlo : (rest.map fun v => v.category).sum + 13 ≤ kLo K) (kk : VV sa cc K pc2 lv (.int (jmax x y) :: rest) σ post bc bs) : VV sa cc K pc lv (.int y :: .int x :: rest) σ post bc bs := by
  intro p l e R s0 m args below meth c z sv D cy X H locs cells slots ls hR hS hls h1 h2
  obtain ⟨hd, rfl⟩ := hd
  have hX := X
  obtain ⟨hx, hbb, hml, hown, hts, hr, hlk, hin, hRm, hK, hSx, hzz⟩ := hX
  subst hRm
  exact va_mmax hx hbb (hml.trans hls.1.symm) hown (hts _ hw) (hts _ hw2) (hts _ hw3) (hts _ hw4) hfr hlo (show cells ≤ kC K by omega) (show slots ≤ kS K by omega) hd (kk p l e _ s0 m args below meth c z sv D cy X H locs cells slots ls hR hS hls h1 h2)
theorem v_mmin {idx : Nat} {x y : Int32} (hd : dcd cc pc (.invokestatic idx) 3 pc2) (hw : Cond.methodLink (kO K) idx Lib.Math.min.name ∈ GW) (hw2 : Cond.static Lib.Math.min.name ∈ GW) (hw3 : Cond.initialized "java/lang/Math" ∈ GW) (hw4 : Cond.code Lib.Math.min.name Lib.Math.min.code 2 (some .int) ∈ GW) (hfr : 1 ≤ kFr K) (hlo : (rest.map fun v => v.category).sum + 13 ≤ kLo K) (kk : VV sa cc K pc2 lv (.int (jmin x y) :: rest) σ post bc bs) : VV sa cc K pc lv (.int y :: .int x :: rest) σ post bc bs := by
  intro p l e R s0 m args below meth c z sv D cy X H locs cells slots ls hR hS hls h1 h2
  obtain ⟨hd, rfl⟩ := hd
  have hX := X
  obtain ⟨hx, hbb, hml, hown, hts, hr, hlk, hin, hRm, hK, hSx, hzz⟩ := hX
  subst hRm
  exact va_mmin hx hbb (hml.trans hls.1.symm) hown (hts _ hw) (hts _ hw2) (hts _ hw3) (hts _ hw4) hfr hlo (show cells ≤ kC K by omega) (show slots ≤ kS K by omega) hd (kk p l e _ s0 m args below meth c z sv D cy X H locs cells slots ls hR hS hls h1 h2)
def CT (y : MethodName) (cc1 : ByteArray) (K1 : MK) (n : Nat) : Prop := CO y cc1 K1 n ∧ Cond.instanceMethod y ∈ GW ∧ Cond.selects y.cls y y ∈ GW ∧ y.cls = "java/lang/String"
theorem v_cTi {y : MethodName} {cc1 : ByteArray} {K1 : MK} {n idx s bc1 bs1 : Nat} {As : List Value} {r : Int32 × St} (hd : dcd cc pc (.invokevirtual idx) 3 pc2) (hC : CT y cc1 K1 n) (hl : ML (kO K) idx y) (hs : s < nStr) (hE : Ex sa y cc1 K1 (.ref (sa.1 s) :: As) σ (pO r)) (hn : As.length = n) (hst : st = As.reverse ++ .ref (sa.1 s) :: rest) (hW : (rest.map fun v => v.category).sum ≤ 8) (hrm : kFr K1 + 1 ≤ kFr K ∧ 8 + (K1.1 + 11) + kLo K1 ≤ kLo K) (hbud : bc + kC K1 ≤ bc1 ∧ bs + kS K1 ≤ bs1) (kk : VV sa cc K pc2 lv (.int r.1 :: rest) r.2 post bc bs) : VV sa cc K pc lv st σ post bc1 bs1 := by
  obtain ⟨⟨c1, c2, c3, c4, c5⟩, hi, hsel, hcl⟩ := hC
  refine v_bud hbud.1 hbud.2 ?_
  intro p l e R s0 m args below meth c z sv D cy X H locs cells slots ls hR hS hls h1 h2
  obtain ⟨hd, rfl⟩ := hd
  have hX := X
  obtain ⟨hx, hbb, hml, hown, hts, hr, hlk, hin, hRm, hK, hSx, hzz⟩ := hX
  subst hRm
  have hrc : ∃ cell : Cell, H[sa.1 s]? = some cell ∧ cell.vm.isStatics = false ∧ s0.vm.findClass y.cls = some cell.cls := by
    obtain ⟨cell, k1, k2, k3, k4⟩ := (hSx.2.1 s hs).1
    exact ⟨cell, by rw [hS.2.1 _ (Array.getElem?_eq_some_iff.mp k1).1 k4]; exact k1, k2, by rw [hcl]; exact k3⟩
  have kw : ∀ (v : Option Value) (σ1 : St) (H1 : Heap) (locs1 : List Loc), pO r v σ1 → Rel z D cy σ1 H1 → va_S (fun q => z ≤ q) s0.heap H1 locs1 → W p l e (rmK K) s0 m args below meth c H1 locs1 (cells + kC K1) (slots + kS K1) (MQ below (QQ z D cy post) args s0 (kC K) (kS K) (fun q => z ≤ q)) (F0 m (pc + 3) ls (v.toList ++ rest)) := fun v σ1 H1 locs1 g1 g2 g3 => by
    obtain ⟨rfl, rfl⟩ := g1
    exact kk p l e _ s0 m args below meth c z sv D cy X H1 locs1 _ _ ls g2 g3 hls (by omega) (by omega)
  have hcs : cells + kC K1 ≤ (rmK K).cells ∧ slots + kS K1 ≤ (rmK K).slots := ⟨show _ ≤ kC K by omega, show _ ≤ kS K by omega⟩
  rcases hl with hl | ⟨host, hl⟩
  · exact xw_call (va_runV (As := As) (rest := rest) ⟨hx, hbb, hml, hown, hts⟩ (hE l z sv D cy) ⟨callB_of n hts (gw_in c1) rfl rfl rfl (hts _ c2) (hts _ hl) ⟨c3, c4, c5⟩ hrm, hts _ hi, hts _ hsel⟩ ⟨PP_blind, hrc, PP_start X hR hS⟩ rfl hn hls.1 hst (lv_room hW) hd hcs) hS kw
  · exact xw_call (va_runVN (As := As) (rest := rest) ⟨hx, hbb, hml, hown, hts⟩ (hE l z sv D cy) ⟨va_cnB n hts (gw_in c1) rfl rfl rfl (hSx.1 _ hl) (hts _ c2) ⟨c3, c4, c5⟩ hrm, hts _ hi, hts _ hsel⟩ ⟨PP_blind, hrc, PP_start X hR hS⟩ rfl hn hls.1 hst (lv_room hW) hd hcs) hS kw
theorem v_top {v w : Value} (h : v = w) (k : VV sa cc K pc lv (w :: st) σ post bc bs) : VV sa cc K pc lv (v :: st) σ post bc bs := h ▸ k
theorem i32_ne {x v : Int32} (h : ¬ x = v) : x.toInt ≠ v.toInt := fun q => h (Int32.toInt_inj.mp q)
theorem v_tblAt {dflt lo hi : Int} {offs : Array Int} {len : Nat} {x v : Int32} {off : Int} {tgt : Nat} (hd : dcd cc pc (.tableswitch dflt lo hi offs) len pc2) (hx : x = v) (g1 : ¬ v.toInt < lo) (g2 : ¬ hi < v.toInt) (ho : offs[(v.toInt - lo).toNat]? = some off) (ht : (pc : Int) + off = (tgt : Int)) (k : VV sa cc K tgt lv st σ post bc bs) : VV sa cc K pc lv (.int x :: st) σ post bc bs := by
  subst hx
  exact v_tblIn hd g1 g2 ho ht k
theorem v_lkAt {dflt : Int} {ps : Array (Int × Int)} {len : Nat} {x v : Int32} {off : Int} {tgt : Nat} (hd : dcd cc pc (.lookupswitch dflt ps) len pc2) (hx : x = v) (hp : (ps.toList.zip (ps.toList.drop 1)).all (fun (a, next) => a.1 < next.1) = true) (ho : Op.lookupswitch.offset ps.toList dflt v.toInt = off) (ht : (pc : Int) + off = (tgt : Int)) (k : VV sa cc K tgt lv st σ post bc bs) : VV sa cc K pc lv (.int x :: st) σ post bc bs := by
  subst hx
  exact v_lookup hd hp ho ht k
end VCall
def FU : Nat := 5000
