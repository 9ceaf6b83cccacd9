/-! led: it throws where there is no such line, and the law catches -/
/-- n cells more, that are not ours -/
def jk (σ : St) (n : Nat) : St := (hT σ, hN σ, hI σ, hP σ, hL σ, hZ σ + n)
def xcN (z : Nat) (D : va_G) (cy : Nat → ClassId) (σ : St) : String → State → State → Prop := fun E st t => E = nseC ∧ (∃ n, Rel z D cy (jk σ n) t.heap) ∧ va_F (fun q => z ≤ q) st t
theorem Rel.jk {z : Nat} {D : va_G} {cy : Nat → ClassId} {σ : St} {H H1 : Heap} (hR : Rel z D cy σ H) (h1 : H.size ≤ H1.size) (h2 : ∀ q : Nat, q < H.size → H1[q]? = H[q]?) : Rel z D cy (jk σ (H1.size - H.size)) H1 := by
  obtain ⟨r1, r2, r3⟩ := hR
  refine ⟨by show z ≤ hZ σ + _; omega, by show H1.size = hZ σ + _; omega, fun a ha => ?_⟩
  obtain ⟨q1, q2⟩ := r3 a ha
  exact ⟨q1, q2.kept (h2 a q2.lt)⟩
def VX (sa : Env3) (cc : ByteArray) (K : MK) (pc : Nat) (lv : List (Nat × Value)) (st : List Value) (σ : St) (bc bs : Nat) : Prop :=
  ∀ (p : Program) (l : LL) (e : Env) (R : Room) (s : State) (m : MethodId) (args : Array Value) (below : List Frame) (meth : Method) (c : Code) (z : Nat) (sv : Nat → Nat) (D : va_G) (cy : Nat → ClassId), (∀ x ∈ c.exceptionTable.toList, False) → Cx z sa sv D cy cc K p s m args meth c R →
  ∀ (H : Heap) (locs : List Loc) (cells slots : Nat) (ls : Array Slot), Rel z D cy σ H → va_S (fun q => z ≤ q) s.heap H locs → lv_has ls K.1 lv → cells + bc ≤ kC K → slots + bs ≤ kS K →
  W p l.1 e R s m args below meth c H locs cells slots (vx_MQ below (QQ z D cy (fun _ _ => False)) (xcN z D cy σ) args s (kC K) (kS K) (fun q => z ≤ q)) (F0 m pc ls st)
section VXRules
variable {sa : Env3} {cc : ByteArray} {K : MK} {pc pc2 : Nat} {lv : List (Nat × Value)} {st rest : List Value} {σ : St} {bc bs : Nat}
theorem x_aload_n {f : Fin 4} {x : Nat} (hd : dcd cc pc (.aload_n f) 1 pc2) (j : Nat) (hj : lv[j]? = some ((f : Nat), .ref x)) (k : VX sa cc K pc2 lv (.ref x :: st) σ bc bs) : VX sa cc K pc lv st σ bc bs := by
  intro p l e R s m args below meth c z sv D cy ht X H locs cells slots ls hR hS hl h1 h2
  obtain ⟨hd, rfl⟩ := hd
  exact lv_aload_n X.1 X.2.1 hd rfl (lv_at hl j hj) (k p l e R s m args below meth c z sv D cy ht X H locs cells slots ls hR hS hl h1 h2)
theorem x_iload_n {f : Fin 4} {x : Int32} (hd : dcd cc pc (.iload_n f) 1 pc2) (j : Nat) (hj : lv[j]? = some ((f : Nat), .int x)) (k : VX sa cc K pc2 lv (.int x :: st) σ bc bs) : VX sa cc K pc lv st σ bc bs := by
  intro p l e R s m args below meth c z sv D cy ht X H locs cells slots ls hR hS hl h1 h2
  obtain ⟨hd, rfl⟩ := hd
  exact lv_iload_n X.1 X.2.1 hd rfl (lv_at hl j hj) (k p l e R s m args below meth c z sv D cy ht X H locs cells slots ls hR hS hl h1 h2)
theorem x_iconst {n : Int} {v : Int32} (hd : dcd cc pc (.iconst n) 1 pc2) (hv : Int32.ofInt n = v) (k : VX sa cc K pc2 lv (.int v :: st) σ bc bs) : VX sa cc K pc lv st σ bc bs := by
  intro p l e R s m args below meth c z sv D cy ht X H locs cells slots ls hR hS hl h1 h2
  obtain ⟨hd, rfl⟩ := hd
  exact lv_iconst X.1 X.2.1 hd hv (k p l e R s m args below meth c z sv D cy ht X H locs cells slots ls hR hS hl h1 h2)
theorem x_istore_n {f : Fin 4} {i : Nat} {x : Int32} (hd : dcd cc pc (.istore_n f) 1 pc2) (lv2 : List (Nat × Value)) (hi : (f : Nat) = i) (hn : i < K.1) (hq : (i, Value.int x) :: lv.filter (fun q => !(q.1 == i) && !(q.1 + 1 == i && q.2.category == 2)) = lv2) (k : VX sa cc K pc2 lv2 st σ bc bs) : VX sa cc K pc lv (.int x :: st) σ bc bs := by
  intro p l e R s m args below meth c z sv D cy ht X H locs cells slots ls hR hS hl h1 h2
  obtain ⟨hd, rfl⟩ := hd
  exact lv_istore_n X.1 X.2.1 hd hi hl hn hq (fun ls' hl' => k p l e R s m args below meth c z sv D cy ht X H locs cells slots ls' hR hS hl' h1 h2)
theorem x_if_eq {x : Int32} {off : Int} {tgt : Nat} (hd : dcd cc pc (.ifCond .eq off) 3 pc2) (ht : (pc : Int) + off = (tgt : Int)) (kt : x = 0 → VX sa cc K tgt lv st σ bc bs) (kf : ¬ x = 0 → VX sa cc K pc2 lv st σ bc bs) : VX sa cc K pc lv (.int x :: st) σ bc bs := by
  intro p l e R s m args below meth c z sv D cy hh X H locs cells slots ls hR hS hl h1 h2
  obtain ⟨hd, rfl⟩ := hd
  exact lv_if_eq X.1 X.2.1 hd ht (fun q => kt q p l e R s m args below meth c z sv D cy hh X H locs cells slots ls hR hS hl h1 h2) (fun q => kf q p l e R s m args below meth c z sv D cy hh X H locs cells slots ls hR hS hl h1 h2)
theorem x_if_lt {x : Int32} {off : Int} {tgt : Nat} (hd : dcd cc pc (.ifCond .lt off) 3 pc2) (ht : (pc : Int) + off = (tgt : Int)) (kt : x < 0 → VX sa cc K tgt lv st σ bc bs) (kf : ¬ x < 0 → VX sa cc K pc2 lv st σ bc bs) : VX sa cc K pc lv (.int x :: st) σ bc bs := by
  intro p l e R s m args below meth c z sv D cy hh X H locs cells slots ls hR hS hl h1 h2
  obtain ⟨hd, rfl⟩ := hd
  exact lv_if_lt X.1 X.2.1 hd ht (fun q => kt q p l e R s m args below meth c z sv D cy hh X H locs cells slots ls hR hS hl h1 h2) (fun q => kf q p l e R s m args below meth c z sv D cy hh X H locs cells slots ls hR hS hl h1 h2)
theorem x_if_ge {x : Int32} {off : Int} {tgt : Nat} (hd : dcd cc pc (.ifCond .ge off) 3 pc2) (ht : (pc : Int) + off = (tgt : Int)) (kt : 0 ≤ x → VX sa cc K tgt lv st σ bc bs) (kf : ¬ 0 ≤ x → VX sa cc K pc2 lv st σ bc bs) : VX sa cc K pc lv (.int x :: st) σ bc bs := by
  intro p l e R s m args below meth c z sv D cy hh X H locs cells slots ls hR hS hl h1 h2
  obtain ⟨hd, rfl⟩ := hd
  exact lv_if_ge X.1 X.2.1 hd ht (fun q => kt q p l e R s m args below meth c z sv D cy hh X H locs cells slots ls hR hS hl h1 h2) (fun q => kf q p l e R s m args below meth c z sv D cy hh X H locs cells slots ls hR hS hl h1 h2)
theorem x_goto {off : Int} {tgt : Nat} (hd : dcd cc pc (.goto off) 3 pc2) (ht : (pc : Int) + off = (tgt : Int)) (k : VX sa cc K tgt lv st σ bc bs) : VX sa cc K pc lv st σ bc bs := by
  intro p l e R s m args below meth c z sv D cy hh X H locs cells slots ls hR hS hl h1 h2
  exact lv_goto X.1 X.2.1 hd.1 ht (k p l e R s m args below meth c z sv D cy hh X H locs cells slots ls hR hS hl h1 h2)
theorem x_get {idx ci k a q0 : Nat} {v : Value} (hd : dcd cc pc (.getfield idx) 3 pc2) (hF : FA (kO K) idx ci k q0) (ha : hT σ a = ci + 1) (hv : fv (kd ci k) σ a k = v) (kk : VX sa cc K pc2 lv (v :: st) σ bc bs) : VX sa cc K pc lv (.ref a :: st) σ bc bs := by
  intro p l e R s m args below meth c z sv D cy hh X H locs cells slots ls hR hS hl h1 h2
  obtain ⟨hd, rfl⟩ := hd
  obtain ⟨⟨C, T, N, ty, ⟨c1, c2, c3, c4, c5, c6, -⟩, hk, hL⟩, -⟩ := hF
  have hat := (hR.2.2 a (by omega)).2
  rw [cellE_obj ha c3] at hat
  have hP : va_P D vwCl [(a, .inr (ci, ofs ci σ a))] H := one_P hat
  have hX := X
  obtain ⟨hx, hb, hml, hown, hts, hr, hlo, hin, hRm, hK, hSx, hzz⟩ := hX
  have kw := kk p l e R s m args below meth c z sv D cy hh X H locs cells slots ls hR hS hl h1 h2
  rcases hL with hL | ⟨host, hL⟩
  · exact va_get hx hb hts c4 hown hK hP 0 rfl c1 k hk (hts _ hL) (fun _ h => h) (v := v) (by rw [ofs_get (by omega), hv]) hd kw
  · exact va_getN hx hb hts c4 hown hK hP 0 rfl c1 k hk (nw_use rfl (hSx.1 _ hL)) (fun _ h => h) (v := v) (by rw [ofs_get (by omega), hv]) hd kw
theorem x_gI {idx ci k a : Nat} {x : Int32} (hd : dcd cc pc (.getfield idx) 3 pc2) (hF : FA (kO K) idx ci k 0) (hg : gI (ci + 1) k a σ = some x) (kk : VX sa cc K pc2 lv (.int x :: st) σ bc bs) : VX sa cc K pc lv (.ref a :: st) σ bc bs := by
  have hq := hF.2
  unfold gI at hg
  split at hg
  · next h => cases hg; exact x_get hd hF h (by simp [fv, hq]) kk
  · cases hg
theorem x_gR {idx ci k a b : Nat} (hd : dcd cc pc (.getfield idx) 3 pc2) (hF : FA (kO K) idx ci k 1) (hg : gR (ci + 1) k a σ = some b) (kk : VX sa cc K pc2 lv (.ref b :: st) σ bc bs) : VX sa cc K pc lv (.ref a :: st) σ bc bs := by
  have hq := hF.2
  unfold gR at hg
  split at hg
  · next h => exact x_get hd hF h (by simp [fv, hq, hg, va_rf]) kk
  · cases hg
/-- a call that changes nothing of ours -/
theorem x_call {y : MethodName} {cc1 : ByteArray} {K1 : MK} {n idx ci b : Nat} {As : List Value} {v : Int32} (hd : dcd cc pc (.invokevirtual idx) 3 pc2) (hC : CV y cc1 K1 n ci) (hl : Cond.methodLink (kO K) idx y ∈ GW) (hb : hT σ b = ci + 1) (hE : Ex sa y cc1 K1 (.ref b :: As) σ (pO (v, σ))) (hn : As.length = n) (hst : st = As.reverse ++ .ref b :: rest) (hW : (rest.map fun v => v.category).sum ≤ 8) (hrm : kFr K1 + 1 ≤ kFr K ∧ 8 + (K1.1 + 11) + kLo K1 ≤ kLo K) (h0 : kC K1 = 0 ∧ kS K1 = 0) (kk : VX sa cc K pc2 lv (.int v :: rest) σ bc bs) : VX sa cc K pc lv st σ bc bs := by
  intro p l e R s m args below meth c z sv D cy ht X H locs cells slots ls hR hS hls h1 h2
  obtain ⟨hd, rfl⟩ := hd
  obtain ⟨⟨c1, c2, c3, c4, c5⟩, hi, hs, hc20, T, N, hcl⟩ := hC
  have hX := X
  obtain ⟨hx, hbb, hml, hown, hts, hr, hlk, hin, hRm, hK, hSx, hzz⟩ := hX
  subst hRm
  have hat := (hR.2.2 b (by omega)).2
  rw [cellE_obj hb hc20] at hat
  have hrc : ∃ cell : Cell, H[b]? = some cell ∧ cell.vm.isStatics = false ∧ s.vm.findClass y.cls = some cell.cls := va_recv hK (one_P hat) hcl (q0 := 0) rfl
  have kw : ∀ (w : Option Value) (σ1 : St) (H1 : Heap) (locs1 : List Loc), pO (v, σ) w σ1 → Rel z D cy σ1 H1 → va_S (fun q => z ≤ q) s.heap H1 locs1 → W p l.1 e (rmK K) s m args below meth c H1 locs1 (cells + kC K1) (slots + kS K1) (vx_MQ below (QQ z D cy (fun _ _ => False)) (xcN z D cy σ) args s (kC K) (kS K) (fun q => z ≤ q)) (F0 m (pc + 3) ls (w.toList ++ rest)) := fun w σ1 H1 locs1 g1 g2 g3 => by
    obtain ⟨rfl, rfl⟩ := g1
    exact kk p l e _ s m args below meth c z sv D cy ht X H1 locs1 _ _ ls g2 g3 hls (by omega) (by omega)
  have hcs : cells + kC K1 ≤ (rmK K).cells ∧ slots + kS K1 ≤ (rmK K).slots := ⟨show _ ≤ kC K by omega, show _ ≤ kS K by omega⟩
  exact xw_call (va_runV (As := As) (rest := rest) ⟨hx, hbb, hml, hown, hts⟩ (hE l z sv D cy) ⟨callB_of n hts (gw_in c1) rfl rfl rfl (hts _ c2) (hts _ hl) ⟨c3, c4, c5⟩ hrm, hts _ hi, hts _ hs⟩ ⟨PP_blind, hrc, PP_start X hR hS⟩ rfl hn hls.1 hst (lv_room hW) hd hcs) hS kw
end VXRules
-- the words of a throw
def atP : List Nat := [20, 1150, 1159, 1161, 1164, 1166, 1151, 1152, 30, 31, 1153, 1158, 1162, 1178, 1140, 1179, 1142, 1180, 1144, 1154, 1156, 1146, 1168, 1169, 1170, 1171, 1171, 1172, 1173, 1174, 1174, 1175, 1176, 1151, 1167, 1129, 1137, 1138, 1139, 1141, 1143, 1145, 1149, 1148, 1147]
def nseN : List String := ["java/lang/RuntimeException", "java/lang/Exception"]
def atL : List Cond := vx_at0 RX8 340 nseC nseN
set_option maxRecDepth 100000 in
theorem at_g : atL.filter goodWord = atP.filterMap (fun i => tables_1[i]?) := by decide +kernel
theorem at_n : ∀ w ∈ atL.filter (fun w => !goodWord w), w ∈ XW := by decide +kernel
theorem at_o : ∀ w ∈ Cond.classLink RX8 338 nseC :: Cond.initialized nseC :: atL, vx_ot w = true := by decide +kernel
theorem at_b {args : Array Value} {s : State} (h : ∀ w ∈ GW, w.before args s = true) (hx : ∀ w ∈ XW, w.before #[] s = true) : ∀ w ∈ atL, w.before args s = true := by
  refine vx_hat (B := XW) (fun w hw => h w ?_) at_n (fun w hw => ?_)
  · have hg := (List.mem_filter.mp hw).2
    rw [at_g] at hw
    obtain ⟨i, -, hi⟩ := List.mem_filterMap.mp hw
    exact gw_m (List.mem_of_getElem? hi) hg
  · have h1 := hx w hw
    simp only [XW, List.mem_cons, List.not_mem_nil, or_false] at hw
    rcases hw with rfl | rfl | rfl | rfl <;> exact va_Nw.use rfl h1
section Led
variable {sa : Env3} {σ : St} {a0 M : Nat} {a1 : Int32} {lv : List (Nat × Value)}
theorem x_throw : VX sa cX8_led K_X8_led 28 lv [] σ 1 6 := by
  intro p l e R s m args below meth c z sv D cy ht X H locs cells slots ls hR hS hls h1 h2
  have hX := X
  obtain ⟨hx, hbb, hml, hown, hts, hr, hlk, hin, hRm, hK, hSx, hzz⟩ := hX
  subst hRm
  have hU := hSx.2.2.2.2.2.1
  have hN := hSx.2.2.2.2.2.2.1
  have k1 : 1 = kC K_X8_led := rfl
  have k2 : 6 = kS K_X8_led := rfl
  exact vx_throw0 hx hbb l.2 (own := RX8) (cls := nseC) (names := nseN) (ik := 338) (ic := 340) (mc := kC K_X8_led) (ms := kS K_X8_led) (A := fun q => z ≤ q) hown (by decide) (by decide) (hts _ tw_1128) (hts _ tw_23) (at_b hts hN.2) at_o hU hN.1 hS (hls.1.trans hml.symm) (dq D_X8_led 14 rfl).1 (dq D_X8_led 15 rfl).1 (dq D_X8_led 16 rfl).1 (dq D_X8_led 17 rfl).1 (fun x h => absurd h (fun g => ht x g)) (by decide) (by decide) (show cells + 1 ≤ kC K_X8_led by omega) (show slots + 6 ≤ kS K_X8_led by omega) hlk (fun t _ g1 g2 => ⟨rfl, ⟨_, hR.jk g1 g2⟩, ⟨Nat.le_trans hS.1 g1, fun q g3 g4 => (g2 q (Nat.lt_of_lt_of_le g3 hS.1)).trans (hS.2.1 q g3 g4)⟩⟩) hS.2.2 (show cells + 1 ≤ kC K_X8_led by omega) (show slots + 6 ≤ kS K_X8_led by omega)
theorem x_23 : VX sa cX8_led K_X8_led 23 [(0, .ref a0), (1, .int a1)] [.int (-1)] σ 1 6 := by
  refine x_istore_n (dq D_X8_led 11 rfl) [(2, .int (-1)), (0, .ref a0), (1, .int a1)] rfl (by decide) rfl ?_
  refine x_iload_n (dq D_X8_led 12 rfl) 0 rfl ?_
  exact x_if_ge (dq D_X8_led 13 rfl) rfl (fun h => absurd h (by decide)) (fun _ => x_throw)
/-- X8.led throws -/
theorem x_led (t : hT σ a0 = 9) (h : hI σ a0 2 = 0 ∨ a1 < 0 ∨ ∃ k, hP σ a0 6 = some k ∧ hT σ k = 4 ∧ f_X3_nthDone k a1 σ = some (-1, σ)) : VX sa cX8_led K_X8_led 0 [(0, .ref a0), (1, .int a1)] [] σ 1 6 := by
  have h22 : VX sa cX8_led K_X8_led 22 [(0, .ref a0), (1, .int a1)] [] σ 1 6 := x_iconst (dq D_X8_led 10 rfl) kc_m1 x_23
  refine x_aload_n (dq D_X8_led 0 rfl) 0 rfl ?_
  refine x_gI (dq D_X8_led 1 rfl) fa_RX8_70 (gI_k t) ?_
  refine x_if_eq (dq D_X8_led 2 rfl) rfl (fun _ => h22) (fun c1 => ?_)
  refine x_iload_n (dq D_X8_led 3 rfl) 1 rfl ?_
  refine x_if_lt (dq D_X8_led 4 rfl) rfl (fun _ => h22) (fun c2 => ?_)
  obtain ⟨k, k1, k2, k3⟩ := (h.resolve_left c1).resolve_left c2
  refine x_aload_n (dq D_X8_led 5 rfl) 0 rfl ?_
  refine x_gR (dq D_X8_led 6 rfl) fa_RX8_35 (gR_k t k1) ?_
  refine x_iload_n (dq D_X8_led 7 rfl) 1 rfl ?_
  refine x_call (As := [.int a1]) (dq D_X8_led 8 rfl) cv_X3_nthDone tw_1124 k2 (m_X3_nthDone k3) rfl rfl (Nat.le_of_ble_eq_true rfl) ⟨Nat.le_of_ble_eq_true rfl, Nat.le_of_ble_eq_true rfl⟩ ⟨rfl, rfl⟩ ?_
  exact x_goto (dq D_X8_led 9 rfl) rfl x_23
/-- X8.led answers -/
theorem v_led {v : Int32} {k : Nat} (t : hT σ a0 = 9) (h1 : ¬ hI σ a0 2 = 0) (h2 : ¬ a1 < 0) (k1 : hP σ a0 6 = some k) (k2 : hT σ k = 4) (k3 : f_X3_nthDone k a1 σ = some (v, σ)) (hv : 0 ≤ v) : Ex sa yX8_led cX8_led K_X8_led [.ref a0, .int a1] σ (pO (v, σ)) := by
  refine Ex.of (by decide) rfl (fun q => (nomatch q)) (Nat.le_of_ble_eq_true rfl) ?_
  show VV sa cX8_led K_X8_led 0 [(0, .ref a0), (1, .int a1)] [] σ (pO (v, σ)) 1 6
  refine v_aload_n (dq D_X8_led 0 rfl) 0 rfl ?_
  refine v_gI (dq D_X8_led 1 rfl) fa_RX8_70 (gI_k t) ?_
  refine v_if_eq (dq D_X8_led 2 rfl) rfl (fun c1 => absurd c1 h1) (fun c1 => ?_)
  refine v_iload_n (dq D_X8_led 3 rfl) 1 rfl ?_
  refine v_if_lt (dq D_X8_led 4 rfl) rfl (fun c2 => absurd c2 h2) (fun c2 => ?_)
  refine v_aload_n (dq D_X8_led 5 rfl) 0 rfl ?_
  refine v_gR (dq D_X8_led 6 rfl) fa_RX8_35 (gR_k t k1) ?_
  refine v_iload_n (dq D_X8_led 7 rfl) 1 rfl ?_
  refine v_cVi (bc := 1) (bs := 6) (As := [.int a1]) (dq D_X8_led 8 rfl) cv_X3_nthDone (Or.inl tw_1124) k2 (m_X3_nthDone k3) rfl rfl (Nat.le_of_ble_eq_true rfl) ⟨Nat.le_of_ble_eq_true rfl, Nat.le_of_ble_eq_true rfl⟩ ⟨Nat.le_refl _, Nat.le_refl _⟩ ?_
  refine v_goto (dq D_X8_led 9 rfl) rfl ?_
  refine v_istore_n (dq D_X8_led 11 rfl) [(2, .int v), (0, .ref a0), (1, .int a1)] rfl (by decide) rfl ?_
  refine v_iload_n (dq D_X8_led 12 rfl) 0 rfl ?_
  refine v_if_ge (dq D_X8_led 13 rfl) rfl (fun _ => ?_) (fun c3 => absurd hv c3)
  refine v_iload_n (dq D_X8_led 18 rfl) 0 rfl ?_
  exact v_iret (dq D_X8_led 19 rfl) rfl ⟨rfl, rfl⟩
theorem cv_X8_led : CV yX8_led cX8_led K_X8_led 1 8 := ⟨⟨tw_1123, tw_1, by decide, by decide, by decide +kernel⟩, tw_1121, tw_1122, by decide, TX8, 13, rfl⟩
/-- a contract of a method with a table -/
def ExW (sa : Env3) (y : MethodName) (cc : ByteArray) (K : MK) (hh : List (Nat × Nat × Nat × Nat)) (av : List Value) (σ : St) (post : Option Value → St → Prop) : Prop :=
  ∀ (l : LL) (z : Nat) (sv : Nat → Nat) (D : va_G) (cy : Nat → ClassId), Met l.1 y (.codeWith y cc K.1 (kR K) hh :: GW) (rmK K) (PP z sa sv D cy av σ) (QQ z D cy post) (kC K) (kS K) (fun q => z ≤ q)
def hhL : List (Nat × Nat × Nat × Nat) := [(0, 9, 12, 13)]
theorem ExW.of {hh : List (Nat × Nat × Nat × Nat)} {y : MethodName} {cc : ByteArray} {K : MK} {av : List Value} {post : Option Value → St → Prop} (hy : plainName y.cls = true) (ho : kO K = y.cls) (hi : kI K = true → y.name = "<init>") (hv : (lg_sl av).length ≤ K.1)
    (h : ∀ (p : Program) (l : LL) (e : Env) (R : Room) (s : State) (m : MethodId) (args : Array Value) (below : List Frame) (meth : Method) (c : Code) (z : Nat) (sv : Nat → Nat) (D : va_G) (cy : Nat → ClassId), c.exceptionTable.toList = tableOf hh → Cx z sa sv D cy cc K p s m args meth c R →
      ∀ (H : Heap) (locs : List Loc) (cells slots : Nat) (ls : Array Slot), Rel z D cy σ H → va_S (fun q => z ≤ q) s.heap H locs → lv_has ls K.1 (lv_args 0 av) → cells + kC K ≤ kC K → slots + kS K ≤ kS K →
      W p l.1 e R s m args below meth c H locs cells slots (MQ below (QQ z D cy post) args s (kC K) (kS K) (fun q => z ≤ q)) (F0 m 0 ls [])) : ExW sa y cc K hh av σ post := by
  intro l z sv D cy
  refine va_MetW (cc := cc) (maxL := K.1) (ret := kR K) (hh := hh) hy rfl ?_
  intro p e s m args below meth c s₁ B hml hP
  obtain ⟨rfl, hK, hS, hR⟩ := hP
  have hts := atoms_spec (ws := .codeWith y cc K.1 (kR K) hh :: GW) B.pre
  have hl := lv_entry av (n := K.1) hv
  have htb := vx_table (x := y) B (hts _ List.mem_cons_self)
  rw [lg_entry_eq]
  exact h p l e _ s m _ below meth c z sv D cy htb ⟨B.exec, B.bytes, hml, by rw [ho]; exact findClass_of_methodNamed B.named, fun w hw => hts w (List.mem_cons_of_mem _ hw), B.returns, B.notSynchronized, fun q => ((name_of_methodNamed B.named B.method).1).trans (hi q), rfl, hK, hS, by rw [hR.2.1]; exact hR.1⟩ s.heap [] 0 0 _ hR va_S.rf hl (by omega) (by omega)
end Led
