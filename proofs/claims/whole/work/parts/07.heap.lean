/-! V: fields, rows, new cells -/
def gI (t k a : Nat) (σ : St) : Option Int32 := if hT σ a = t then some (hI σ a k) else none
def gR (t k a : Nat) (σ : St) : Option Nat := if hT σ a = t then hP σ a k else none
def gQ (t k a : Nat) (σ : St) : Option (Option Nat) := if hT σ a = t then some (hP σ a k) else none
def gL (t k a : Nat) (σ : St) : Option Int64 := if hT σ a = t then some (hL σ a k) else none
def pI (t k a : Nat) (x : Int32) (σ : St) : Option St := if hT σ a = t then some (sI σ a k x) else none
def pZ (t k a : Nat) (x : Int32) (σ : St) : Option St := if hT σ a = t ∧ (x = 0 ∨ x = 1) then some (sI σ a k x) else none
def pP (t k a b : Nat) (σ : St) : Option St := if hT σ a = t then some (sP σ a k (some b)) else none
def pL (t k a : Nat) (x : Int64) (σ : St) : Option St := if hT σ a = t then some (sL σ a k x) else none
def aI (t a : Nat) (i : Int32) (σ : St) : Option Int32 := if hT σ a = t ∧ ixo i (hN σ a) = true then some (hI σ a i.toNatClampNeg) else none
def aP (a : Nat) (i : Int32) (σ : St) : Option Nat := if hT σ a = 25 ∧ ixo i (hN σ a) = true then hP σ a i.toNatClampNeg else none
def jz (x : Int32) : Int32 := vp_nar .boolean x
def xI (a : Nat) (i x : Int32) (σ : St) : Option St := if hT σ a = 22 ∧ ixo i (hN σ a) = true then some (sI σ a i.toNatClampNeg x) else none
def xB (a : Nat) (i x : Int32) (σ : St) : Option St := if hT σ a = 21 ∧ ixo i (hN σ a) = true then some (sI σ a i.toNatClampNeg (jb x)) else none
def xZ (a : Nat) (i x : Int32) (σ : St) : Option St := if hT σ a = 23 ∧ ixo i (hN σ a) = true then some (sI σ a i.toNatClampNeg (jz x)) else none
def xP (a : Nat) (i : Int32) (b : Nat) (σ : St) : Option St := if hT σ a = 25 ∧ ixo i (hN σ a) = true ∧ hT σ b = 4 then some (sP σ a i.toNatClampNeg (some b)) else none
def aN (a : Nat) (σ : St) : Option Int32 := if 21 ≤ hT σ a ∧ hT σ a ≤ 23 then some (Int32.ofNat (hN σ a)) else none
theorem ixo_in {i : Int32} {n : Nat} (h : ixo i n = true) : vp_in i n := by
  simp only [ixo, Bool.and_eq_true, decide_eq_true_eq] at h
  intro q
  rcases q with q | q
  · exact Int32.not_lt.mpr h.1 q
  · exact Nat.not_le.mpr h.2 q
def CCk (ci : Nat) (C : String) (T : u_T) (N : Nat) (ty : Nat → FieldType) : Prop := vwCl[ci]? = some (C, T, N) ∧ nf ci = N ∧ ci + 1 < 20 ∧ (∀ w ∈ u_ws C T N, w ∈ GW) ∧ (∀ k, k < N → parseFieldDescriptor (T k).2.2.1 = some (ty k)) ∧ (∀ a, a < N → ∀ b, b < N → a ≠ b → (T a).2.1 ≠ (T b).2.1) ∧ Cond.instantiable C N ∈ GW ∧ Cond.initialized C ∈ GW ∧ (∀ k, k < N → defaultValue (ty k) = if kd ci k = 0 then .int 0 else if kd ci k = 1 then .null else .long 0)
def FL (own : String) (idx : Nat) (q : String × String × String × Bool) : Prop := Cond.fieldLink own idx q.1 q.2.1 q.2.2.1 ∈ GW ∨ ∃ host, Cond.fieldLinkNest own idx q.1 q.2.1 q.2.2.1 host ∈ NW
def FA (own : String) (idx ci k q : Nat) : Prop := (∃ (C : String) (T : u_T) (N : Nat) (ty : Nat → FieldType), CCk ci C T N ty ∧ k < N ∧ FL own idx (T k)) ∧ kd ci k = q
def FP (own : String) (idx ci k : Nat) (fin : Bool) (tk : FieldType) : Prop := ∃ (C : String) (T : u_T) (N : Nat) (ty : Nat → FieldType), CCk ci C T N ty ∧ k < N ∧ ty k = tk ∧ ((fin = false ∧ (T k).2.2.2 = false ∧ FL own idx (T k)) ∨ (fin = true ∧ (T k).2.2.2 = true ∧ (T k).1 = own ∧ Cond.fieldLink own idx (T k).1 (T k).2.1 (T k).2.2.1 ∈ GW))
theorem cellE_obj {cy : Nat → ClassId} {σ : St} {a ci : Nat} (h : hT σ a = ci + 1) (hc : ci + 1 < 20) : cellE cy σ a = .inr (ci, ofs ci σ a) := by
  simp only [cellE, h, hc, if_true, Nat.add_sub_cancel]
theorem cellE_arr {cy : Nat → ClassId} {σ : St} {a t : Nat} (h : hT σ a = t) (ht : t = 21 ∨ t = 22 ∨ t = 23) : cellE cy σ a = .inl (cy t, hN σ a, .inl (hI σ a)) := by
  subst h
  rcases ht with ht | ht | ht <;> simp [cellE, ht]
theorem cellE_q {cy : Nat → ClassId} {σ : St} {a : Nat} (h : hT σ a = 25) : cellE cy σ a = .inl (cy 25, hN σ a, .inr (.inr (.inr (.inr (hP σ a))))) := by simp [cellE, h]
theorem ofs_get {ci k a : Nat} {σ : St} (h : k < nf ci) : (ofs ci σ a)[k]? = some (fv (kd ci k) σ a k) := by simp [ofs, h]
theorem ofs_len {ci a : Nat} {σ : St} : (ofs ci σ a).length = nf ci := by simp [ofs]
theorem ofs_set {ci k a : Nat} {σ σ2 : St} {v : Value} (h : ∀ j, j < nf ci → fv (kd ci j) σ2 a j = if j = k then v else fv (kd ci j) σ a j) : ofs ci σ2 a = (ofs ci σ a).set k v := by
  refine List.ext_getElem? (fun j => ?_)
  by_cases hj : j < nf ci
  · rw [ofs_get hj, h j hj]
    by_cases hk : j = k
    · subst hk
      rw [List.getElem?_set_self (by rw [ofs_len]; exact hj), if_pos rfl]
    · rw [List.getElem?_set_ne (Ne.symm hk), ofs_get hj, if_neg hk]
  · rw [List.getElem?_eq_none (by rw [ofs_len]; omega), List.getElem?_eq_none (by rw [List.length_set, ofs_len]; omega)]
theorem Rel.set {z : Nat} {D : va_G} {cy : Nat → ClassId} {σ σ2 : St} {H H1 : Heap} {a : Nat} (hR : Rel z D cy σ H) (e1 : hT σ2 = hT σ) (e2 : hZ σ2 = hZ σ) (ec : ∀ b, b ≠ a → cellE cy σ2 b = cellE cy σ b) (h1 : va_at D vwCl (a, cellE cy σ2 a) H1) (hz : H1.size = H.size) (oq : ∀ q : Nat, q ≠ a → H1[q]? = H[q]?) : Rel z D cy σ2 H1 := by
  obtain ⟨r1, r2, r3⟩ := hR
  refine ⟨by rw [e2]; exact r1, by rw [hz, e2]; exact r2, fun b hb => ?_⟩
  rw [e1] at hb
  obtain ⟨s1, s2⟩ := r3 b hb
  refine ⟨s1, ?_⟩
  by_cases h : b = a
  · subst h
    exact h1
  · rw [ec b h]
    exact s2.kept (oq b h)
theorem cellE_nw {cy : Nat → ClassId} {σ : St} {t n b : Nat} (h : b ≠ hZ σ) : cellE cy (nw σ t n) b = cellE cy σ b := by
  have e1 : hI (nw σ t n) b = hI σ b := by funext j; simp [nw, h, hI]
  have e2 : hP (nw σ t n) b = hP σ b := by funext j; simp [nw, h, hP]
  have e3 : hL (nw σ t n) b = hL σ b := by funext j; simp [nw, h, hL]
  have e4 : hT (nw σ t n) b = hT σ b := by simp [nw, h, hT]
  have e5 : hN (nw σ t n) b = hN σ b := by simp [nw, h, hN]
  have o1 : ∀ q, ofs q (nw σ t n) b = ofs q σ b := fun q => by simp only [ofs, fv, e1, e2, e3]
  simp only [cellE, e1, e2, e3, e4, e5, o1]
theorem Rel.new {z : Nat} {D : va_G} {cy : Nat → ClassId} {σ : St} {H H1 : Heap} {t n : Nat} (hR : Rel z D cy σ H) (h1 : va_at D vwCl (hZ σ, cellE cy (nw σ t n) (hZ σ)) H1) (hz : H1.size = H.size + 1) (oq : ∀ q : Nat, q < H.size → H1[q]? = H[q]?) : Rel z D cy (nw σ t n) H1 := by
  obtain ⟨r1, r2, r3⟩ := hR
  refine ⟨Nat.le_succ_of_le r1, by rw [hz, r2]; rfl, fun b hb => ?_⟩
  by_cases h : b = hZ σ
  · subst h
    exact ⟨r1, h1⟩
  · have hb2 : hT σ b ≠ 0 := by simpa [nw, hT, h] using hb
    obtain ⟨s1, s2⟩ := r3 b hb2
    refine ⟨s1, ?_⟩
    rw [cellE_nw h]
    exact s2.kept (oq b s2.lt)
section XW
variable {p : Program} {l : Launch} {e : Env} {R : Room} {s : State} {m : MethodId} {args : Array Value} {below : List Frame} {meth : Method} {c : Code} {H : Heap} {locs : List Loc} {cells slots : Nat} {Q : State → Prop}
variable {cc : ByteArray} {pc : Nat} {ls : Array Slot} {rest : List Value} {D : va_G} {cl : List vw_C} {a : Nat} {tys : List (ClassId × FieldType)}
/-- putfield, with what stays (the library's va_put, its frame kept open) -/
theorem xw_put (hexec : p.tables.exec = Jvm.exec) (hb : c.code = cc) {own C : String} {T : u_T} {N ci index : Nat} {Ts : List Cond} (hts : ∀ w ∈ Ts, w.before args s = true) (hin : ∀ w ∈ u_ws C T N, w ∈ Ts) (ty0 : Nat → FieldType) (hty : ∀ k, k < N → parseFieldDescriptor (T k).2.2.1 = some (ty0 k)) (hnm : ∀ a, a < N → ∀ b, b < N → a ≠ b → (T a).2.1 ≠ (T b).2.1) (hown : s.vm.findClass own = some m.cls) (hK : va_K D cl tys s) {fs : List Value} (he : va_at D cl (a, .inr (ci, fs)) H) (hc : cl[ci]? = some (C, T, N)) (k : Nat) (hk : k < N)
    (hlink : (Cond.fieldLink own index (T k).1 (T k).2.1 (T k).2.2.1).before args s = true ∨ ∃ host, (Cond.fieldLinkNest own index (T k).1 (T k).2.1 (T k).2.2.1 host).before args s = true) (hfin : (T k).2.2.2 = false) {v : Value} (hn : narrow (ty0 k) v = v) (hfit : fits (ty0 k) v = true) (hl : k < fs.length)
    (hdg : decode cc pc = .ok (.putfield index, 3)) (kk : ∀ (H1 : Heap) (n : Nat), va_at D cl (a, .inr (ci, fs.set k v)) H1 → H1.size = H.size → (∀ q : Nat, q ≠ a → H1[q]? = H[q]?) → W p l e R s m args below meth c H1 (locs ++ [⟨a, n⟩]) cells slots Q (F0 m (pc + 3) ls rest)) : W p l e R s m args below meth c H locs cells slots Q (F0 m pc ls (v :: .ref a :: rest)) := by
  have hap := va_apart (own := own) hts hin ty0 hty hnm hK hc
  obtain ⟨r, h1, cell, q1, q2, q3, q4⟩ := he
  have hr : r = (C, T, N) := Option.some.inj (h1.symm.trans hc)
  subst hr
  obtain ⟨hS, hfc, kC, hkC, hkind⟩ := hK.1 ci _ hc
  obtain ⟨cf, kf, fi, f, hi, hsl⟩ := hS k hk
  have hlay := hts _ (hin _ (u_in_lay hk))
  unfold u_lay at hlay
  rw [if_neg (by rw [hfin]; decide)] at hlay
  have hst := (u_facts hfc hkC (u_lays hts hin hk) hi).1
  have h6 := u_store hfc hkC hkind hlay hi (hty k hk) hn hfit
  rcases hlink with hlink | ⟨host, hlink⟩
  · refine W.putK hexec hb (f := f) ⟨hown, hlink, ⟨_, _, _, hi⟩, hst⟩ (by rw [q2]; exact h6) q1 q3 (by rw [hsl]; exact k2_hasslot (q4 k hk)) rfl rfl hdg fun H' e1 e2 e3 => ?_
    rw [hsl] at e1
    exact kk H' _ ⟨_, hc, t_OB.to (V := updV (vp_V fs) k v) ⟨_, e1, q2, q3, t_set q4 hap hk v⟩ (fun j _ => vp_updV_set hl v j)⟩ e2 e3
  · refine va_WputK hexec hb (f := f) hown hlink hi hst (by rw [q2]; exact h6) q1 q3 (by rw [hsl]; exact k2_hasslot (q4 k hk)) rfl rfl hdg fun H' e1 e2 e3 => ?_
    rw [hsl] at e1
    exact kk H' _ ⟨_, hc, t_OB.to (V := updV (vp_V fs) k v) ⟨_, e1, q2, q3, t_set q4 hap hk v⟩ (fun j _ => vp_updV_set hl v j)⟩ e2 e3
theorem xw_putF (hexec : p.tables.exec = Jvm.exec) (hb : c.code = cc) {own C : String} {T : u_T} {N ci index : Nat} {Ts : List Cond} (hts : ∀ w ∈ Ts, w.before args s = true) (hin : ∀ w ∈ u_ws C T N, w ∈ Ts) (ty0 : Nat → FieldType) (hty : ∀ k, k < N → parseFieldDescriptor (T k).2.2.1 = some (ty0 k)) (hnm : ∀ a, a < N → ∀ b, b < N → a ≠ b → (T a).2.1 ≠ (T b).2.1) (hown : s.vm.findClass own = some m.cls) (hK : va_K D cl tys s) {fs : List Value} (he : va_at D cl (a, .inr (ci, fs)) H) (hc : cl[ci]? = some (C, T, N)) (k : Nat) (hk : k < N)
    (hlink : (Cond.fieldLink own index (T k).1 (T k).2.1 (T k).2.2.1).before args s = true) (hfin : (T k).2.2.2 = true) (hin2 : meth.name = "<init>") (hdecl : (T k).1 = own) {v : Value} (hn : narrow (ty0 k) v = v) (hfit : fits (ty0 k) v = true) (hl : k < fs.length)
    (hdg : decode cc pc = .ok (.putfield index, 3)) (kk : ∀ (H1 : Heap) (n : Nat), va_at D cl (a, .inr (ci, fs.set k v)) H1 → H1.size = H.size → (∀ q : Nat, q ≠ a → H1[q]? = H[q]?) → W p l e R s m args below meth c H1 (locs ++ [⟨a, n⟩]) cells slots Q (F0 m (pc + 3) ls rest)) : W p l e R s m args below meth c H locs cells slots Q (F0 m pc ls (v :: .ref a :: rest)) := by
  have hap := va_apart (own := own) hts hin ty0 hty hnm hK hc
  obtain ⟨r, h1, cell, q1, q2, q3, q4⟩ := he
  have hr : r = (C, T, N) := Option.some.inj (h1.symm.trans hc)
  subst hr
  obtain ⟨hS, hfc, kC, hkC, hkind⟩ := hK.1 ci _ hc
  obtain ⟨cf, kf, fi, f, hi, hsl⟩ := hS k hk
  have hlay := hts _ (hin _ (u_in_lay hk))
  unfold u_lay at hlay
  rw [if_pos hfin] at hlay
  have hst := (u_facts hfc hkC (u_lays hts hin hk) hi).1
  have hcf : m.cls = cf := by
    obtain ⟨_, _, c', _, _, _, -, -, hf', -, -, -, hown2, -⟩ := Cond.laysFinal_spec hlay
    have e1 : c' = cf := by have := hi.symm.trans hf'; simp at this; exact this.1.symm
    rw [hdecl] at hown2
    rw [← e1]; exact Option.some.inj (hown.symm.trans hown2)
  have h6 := u_fits hfc hkC hkind (Or.inr hlay) hi (hty k hk) hn hfit
  refine W.putFinK hexec hb hown hlink hi hst hcf hin2 (by rw [q2]; exact h6) q1 q3 (by rw [hsl]; exact k2_hasslot (q4 k hk)) rfl rfl hdg fun H' e1 e2 e3 => ?_
  rw [hsl] at e1
  exact kk H' _ ⟨_, hc, t_OB.to (V := updV (vp_V fs) k v) ⟨_, e1, q2, q3, t_set q4 hap hk v⟩ (fun j _ => vp_updV_set hl v j)⟩ e2 e3
end XW
section VHeap
variable {sa : Env3} {cc : ByteArray} {K : MK} {pc pc2 : Nat} {lv : List (Nat × Value)} {st : List Value} {σ : St} {post : Option Value → St → Prop} {bc bs : Nat}
theorem v_get {idx ci k a q0 : Nat} {v : Value} (hd : dcd cc pc (.getfield idx) 3 pc2) (hF : FA (kO K) idx ci k q0) (ha : hT σ a = ci + 1) (hv : fv (kd ci k) σ a k = v) (kk : VV sa cc K pc2 lv (v :: st) σ post bc bs) : VV sa cc K pc lv (.ref a :: st) σ post bc bs := by
  intro p l e R s m args below meth c z sv D cy X H locs cells slots ls hR hS hl h1 h2
  obtain ⟨hd, rfl⟩ := hd
  obtain ⟨⟨C, T, N, ty, ⟨c1, c2, c3, c4, c5, c6, -⟩, hk, hL⟩, -⟩ := hF
  have hat := (hR.2.2 a (by omega)).2
  rw [cellE_obj ha c3] at hat
  have hP : va_P D vwCl [(a, .inr (ci, ofs ci σ a))] H := fun j q hq => by
    have hz : j < 1 := (List.getElem?_eq_some_iff.mp hq).1
    rw [show j = 0 by omega] at hq
    cases hq
    exact hat
  have hX := X
  obtain ⟨hx, hb, hml, hown, hts, hr, hlo, hin, hRm, hK, hSx, hzz⟩ := hX
  have kw := kk p l e R s m args below meth c z sv D cy X H locs cells slots ls hR hS hl h1 h2
  rcases hL with hL | ⟨host, hL⟩
  · exact va_get hx hb hts c4 hown hK hP 0 rfl c1 k hk (hts _ hL) (fun _ h => h) (v := v) (by rw [ofs_get (by omega), hv]) hd kw
  · exact va_getN hx hb hts c4 hown hK hP 0 rfl c1 k hk (nw_use rfl (hSx.1 _ hL)) (fun _ h => h) (v := v) (by rw [ofs_get (by omega), hv]) hd kw
theorem v_gI {idx ci k a : Nat} {x : Int32} (hd : dcd cc pc (.getfield idx) 3 pc2) (hF : FA (kO K) idx ci k 0) (hg : gI (ci + 1) k a σ = some x) (kk : VV sa cc K pc2 lv (.int x :: st) σ post bc bs) : VV sa cc K pc lv (.ref a :: st) σ post bc bs := by
  have hq := hF.2
  unfold gI at hg
  split at hg
  · next h => cases hg; exact v_get hd hF h (by simp [fv, hq]) kk
  · cases hg
theorem v_gL {idx ci k a : Nat} {x : Int64} (hd : dcd cc pc (.getfield idx) 3 pc2) (hF : FA (kO K) idx ci k 2) (hg : gL (ci + 1) k a σ = some x) (kk : VV sa cc K pc2 lv (.long x :: st) σ post bc bs) : VV sa cc K pc lv (.ref a :: st) σ post bc bs := by
  have hq := hF.2
  unfold gL at hg
  split at hg
  · next h => cases hg; exact v_get hd hF h (by simp [fv, hq]) kk
  · cases hg
theorem v_gR {idx ci k a b : Nat} (hd : dcd cc pc (.getfield idx) 3 pc2) (hF : FA (kO K) idx ci k 1) (hg : gR (ci + 1) k a σ = some b) (kk : VV sa cc K pc2 lv (.ref b :: st) σ post bc bs) : VV sa cc K pc lv (.ref a :: st) σ post bc bs := by
  have hq := hF.2
  unfold gR at hg
  split at hg
  · next h => exact v_get hd hF h (by simp [fv, hq, hg, va_rf]) kk
  · cases hg
theorem v_gQ {idx ci k a : Nat} {r : Option Nat} (hd : dcd cc pc (.getfield idx) 3 pc2) (hF : FA (kO K) idx ci k 1) (hg : gQ (ci + 1) k a σ = some r) (kk : VV sa cc K pc2 lv (va_rf r :: st) σ post bc bs) : VV sa cc K pc lv (.ref a :: st) σ post bc bs := by
  have hq := hF.2
  unfold gQ at hg
  split at hg
  · next h => cases hg; exact v_get hd hF h (by simp [fv, hq]) kk
  · cases hg
theorem v_put {idx ci k a : Nat} {fin : Bool} {tk : FieldType} {v : Value} {σ2 : St} (hd : dcd cc pc (.putfield idx) 3 pc2) (hF : FP (kO K) idx ci k fin tk) (hfi : fin = true → kI K = true) (hn : narrow tk v = v) (hfit : fits tk v = true) (ha : hT σ a = ci + 1) (e1 : hT σ2 = hT σ) (e2 : hZ σ2 = hZ σ) (ec : ∀ (cy : Nat → ClassId) b, b ≠ a → cellE cy σ2 b = cellE cy σ b) (eo : ∀ j, j < nf ci → fv (kd ci j) σ2 a j = if j = k then v else fv (kd ci j) σ a j) (kk : VV sa cc K pc2 lv st σ2 post bc bs) : VV sa cc K pc lv (v :: .ref a :: st) σ post bc bs := by
  intro p l e R s m args below meth c z sv D cy X H locs cells slots ls hR hS hl h1 h2
  obtain ⟨hd, rfl⟩ := hd
  obtain ⟨C, T, N, ty, ⟨c1, c2, c3, c4, c5, c6, -⟩, hk, rfl, hL⟩ := hF
  obtain ⟨hza, hat⟩ := hR.2.2 a (by omega)
  rw [cellE_obj ha c3] at hat
  have hX := X
  obtain ⟨hx, hb, hml, hown, hts, hr, hlo, hin, hRm, hK, hSx, hzz⟩ := hX
  have hkl : k < (ofs ci σ a).length := by rw [ofs_len]; omega
  have hc2 : cellE cy σ2 a = .inr (ci, (ofs ci σ a).set k v) := by rw [cellE_obj (by rw [e1]; exact ha) c3, ofs_set eo]
  rcases hL with ⟨f1, f2, f3⟩ | ⟨f1, f2, f3, f4⟩
  · refine xw_put hx hb hts c4 ty c5 c6 hown hK hat c1 k hk (f3.elim (fun q => Or.inl (hts _ q)) (fun ⟨ho, q⟩ => Or.inr ⟨ho, nw_use rfl (hSx.1 _ q)⟩)) f2 hn hfit hkl hd (fun H1 n g1 g2 g3 => ?_)
    exact kk p l e R s m args below meth c z sv D cy X H1 _ cells slots ls (hR.set e1 e2 (ec cy) (by rw [hc2]; exact g1) g2 g3) (hS.put g2 g3 hza) hl h1 h2
  · refine xw_putF hx hb hts c4 ty c5 c6 hown hK hat c1 k hk (hts _ f4) f2 (hin (hfi f1)) f3 hn hfit hkl hd (fun H1 n g1 g2 g3 => ?_)
    exact kk p l e R s m args below meth c z sv D cy X H1 _ cells slots ls (hR.set e1 e2 (ec cy) (by rw [hc2]; exact g1) g2 g3) (hS.put g2 g3 hza) hl h1 h2
theorem cellE_sI {cy : Nat → ClassId} {a k b : Nat} {x : Int32} (h : b ≠ a) : cellE cy (sI σ a k x) b = cellE cy σ b := by
  have hI' : hI (sI σ a k x) b = hI σ b := by funext j; simp [hI, sI, u2, h]
  have o1 : ∀ q, ofs q (sI σ a k x) b = ofs q σ b := fun q => by simp only [ofs, fv, hI']; rfl
  simp only [cellE, hI', o1]; rfl
theorem cellE_sP {cy : Nat → ClassId} {a k b : Nat} {x : Option Nat} (h : b ≠ a) : cellE cy (sP σ a k x) b = cellE cy σ b := by
  have hI' : hP (sP σ a k x) b = hP σ b := by funext j; simp [hP, sP, u2, h]
  have o1 : ∀ q, ofs q (sP σ a k x) b = ofs q σ b := fun q => by simp only [ofs, fv, hI']; rfl
  simp only [cellE, hI', o1]; rfl
theorem cellE_sL {cy : Nat → ClassId} {a k b : Nat} {x : Int64} (h : b ≠ a) : cellE cy (sL σ a k x) b = cellE cy σ b := by
  have hI' : hL (sL σ a k x) b = hL σ b := by funext j; simp [hL, sL, u2, h]
  have o1 : ∀ q, ofs q (sL σ a k x) b = ofs q σ b := fun q => by simp only [ofs, fv, hI']; rfl
  simp only [cellE, hI', o1]; rfl
theorem v_pI {idx ci k a : Nat} {x : Int32} {σ2 : St} (hd : dcd cc pc (.putfield idx) 3 pc2) (hF : FP (kO K) idx ci k false .int ∧ kd ci k = 0) (hg : pI (ci + 1) k a x σ = some σ2) (kk : VV sa cc K pc2 lv st σ2 post bc bs) : VV sa cc K pc lv (.int x :: .ref a :: st) σ post bc bs := by
  have hq := hF.2
  unfold pI at hg
  split at hg
  · next h =>
    cases hg
    refine v_put (σ2 := sI σ a k x) hd hF.1 (fun q => nomatch q) rfl rfl h rfl rfl (fun cy b hb => cellE_sI hb) (fun j _ => ?_) kk
    by_cases hj : j = k
    · subst hj; simp [fv, hq, sI, hI, u2]
    · simp [fv, sI, hI, hP, hL, u2, hj]
  · cases hg
theorem v_pZ {idx ci k a : Nat} {x : Int32} {σ2 : St} (hd : dcd cc pc (.putfield idx) 3 pc2) (hF : FP (kO K) idx ci k false .boolean ∧ kd ci k = 0) (hg : pZ (ci + 1) k a x σ = some σ2) (kk : VV sa cc K pc2 lv st σ2 post bc bs) : VV sa cc K pc lv (.int x :: .ref a :: st) σ post bc bs := by
  have hq := hF.2
  unfold pZ at hg
  split at hg
  · next h =>
    cases hg
    have hx : narrow .boolean (.int x) = .int x ∧ fits .boolean (.int x) = true := by rcases h.2 with q | q <;> subst q <;> decide
    refine v_put (σ2 := sI σ a k x) hd hF.1 (fun q => nomatch q) hx.1 hx.2 h.1 rfl rfl (fun cy b hb => cellE_sI hb) (fun j _ => ?_) kk
    by_cases hj : j = k
    · subst hj; simp [fv, hq, sI, hI, u2]
    · simp [fv, sI, hI, hP, hL, u2, hj]
  · cases hg
theorem v_pL {idx ci k a : Nat} {x : Int64} {σ2 : St} (hd : dcd cc pc (.putfield idx) 3 pc2) (hF : FP (kO K) idx ci k false .long ∧ kd ci k = 2) (hg : pL (ci + 1) k a x σ = some σ2) (kk : VV sa cc K pc2 lv st σ2 post bc bs) : VV sa cc K pc lv (.long x :: .ref a :: st) σ post bc bs := by
  have hq := hF.2
  unfold pL at hg
  split at hg
  · next h =>
    cases hg
    refine v_put (σ2 := sL σ a k x) hd hF.1 (fun q => nomatch q) rfl rfl h rfl rfl (fun cy b hb => cellE_sL hb) (fun j _ => ?_) kk
    by_cases hj : j = k
    · subst hj; simp [fv, hq, sL, hL, u2]
    · simp [fv, sL, hI, hP, hL, u2, hj]
  · cases hg
theorem v_pP {idx ci k a b : Nat} {fin : Bool} {tk : FieldType} {σ2 : St} (hd : dcd cc pc (.putfield idx) 3 pc2) (hF : FP (kO K) idx ci k fin tk ∧ kd ci k = 1 ∧ tk.isReference = true) (hfi : fin = true → kI K = true) (hg : pP (ci + 1) k a b σ = some σ2) (kk : VV sa cc K pc2 lv st σ2 post bc bs) : VV sa cc K pc lv (.ref b :: .ref a :: st) σ post bc bs := by
  obtain ⟨hF, hq, ht⟩ := hF
  unfold pP at hg
  split at hg
  · next h =>
    cases hg
    refine v_put (σ2 := sP σ a k (some b)) hd hF hfi (by cases tk <;> first | rfl | cases ht) (by cases tk <;> first | rfl | cases ht) h rfl rfl (fun cy b hb => cellE_sP hb) (fun j _ => ?_) kk
    by_cases hj : j = k
    · subst hj; simp [fv, hq, sP, hP, u2, va_rf]
    · simp [fv, sP, hI, hP, hL, u2, hj]
  · cases hg
end VHeap
