/-! law.led -/
section Led2
variable {sa : Env3} {σ : St} {a0 M x o : Nat} {a1 : Int32} {lv : List (Nat × Value)}
theorem xm_led (h : VX sa cX8_led K_X8_led 0 [(0, .ref a0), (1, .int a1)] [] σ 1 6) (l : LL) (z : Nat) (sv : Nat → Nat) (D : va_G) (cy : Nat → ClassId) : vx_Met l.1 yX8_led (.code yX8_led cX8_led 3 (some .int) :: GW) (rmK K_X8_led) (PP z sa sv D cy [.ref a0, .int a1] σ) (QQ z D cy (fun _ _ => False)) (xcN z D cy σ) (kC K_X8_led) (kS K_X8_led) (fun q => z ≤ q) := by
  refine vx_ofW (cc := cX8_led) (maxL := 3) (ret := some .int) (by decide) rfl ?_
  intro p e s m args below meth c s₁ B hml ht hP
  obtain ⟨rfl, hK, hS, hR⟩ := hP
  have hts := atoms_spec (ws := .code yX8_led cX8_led 3 (some .int) :: GW) B.pre
  have hl := lv_entry [.ref a0, .int a1] (n := 3) (Nat.le_of_ble_eq_true rfl)
  rw [lg_entry_eq]
  exact h p l e _ s m _ below meth c z sv D cy ht ⟨B.exec, B.bytes, hml, findClass_of_methodNamed B.named, fun w hw => hts w (List.mem_cons_of_mem _ hw), B.returns, B.notSynchronized, fun q => (nomatch q), rfl, hK, hS, by rw [hR.2.1]; exact hR.1⟩ s.heap [] 0 0 _ hR va_S.rf hl (Nat.le_of_ble_eq_true rfl) (Nat.le_of_ble_eq_true rfl)
theorem xw_callX {p : Program} {l : Launch} {e : Env} {R : Room} {s : State} {m : MethodId} {args a : Array Value} {below : List Frame} {meth : Method} {c : Code} {H : Heap} {locs : List Loc} {cells slots mc ms z pc : Nat} {D : va_G} {cy : Nat → ClassId} {Q : State → Prop} {ls : Array Slot} {st0 rest : List Value}
    (hr : vx_Run p l e R s m args below meth c H locs cells slots mc ms (F0 m pc ls st0) rest (QQ z D cy (fun _ _ => False) a) (xcN z D cy σ) (fun q => z ≤ q)) (hS : va_S (fun q => z ≤ q) s.heap H locs)
    (kx : ∀ (ce : Cell) (q9 : Addr) (n : Nat) (H1 : Heap) (locs1 : List Loc), Rel z D cy (jk σ n) H1 → va_S (fun q => z ≤ q) s.heap H1 locs1 → H1[q9]? = some ce → ce.vm = .none → s.vm.findClass nseC = some ce.cls → vx_W p l e R s m args below meth c H1 locs1 (cells + mc) (slots + ms) Q (F0 m pc ls rest) q9) : W p l e R s m args below meth c H locs cells slots Q (F0 m pc ls st0) := by
  intro T hT X
  rcases hr T hT X with ⟨v, st₀, t, T', L, h0, X', hL, e1, e2, ⟨v', σ1, hv, hp, hR1, hF⟩, st⟩ | ⟨q, st₀, t, T', L, E, ce, h0, X', hL, e1, e2, ⟨rfl, ⟨n, hn⟩, hF⟩, hce, hcv, hcl, st⟩
  · exact hp.elim
  · obtain ⟨k1, k2, k3⟩ := vx_keep h0 e1 hS (fun _ _ h => h) (fun _ h => h) hL hF
    rw [← e1] at hn
    obtain ⟨t2, b1, b2⟩ := kx ce q n T'.heap (locs ++ L) hn k3 (by rw [e1]; exact hce) hcv hcl T' rfl X'
    exact ⟨t2, st.trans b1, b2⟩
/-- x.led answered -/
theorem ll_ok {v : Int32} (t : hT σ x = 9) (t2 : hT σ o = 24) (t3 : hN σ o = 1) (hE : Ex sa yX8_led cX8_led K_X8_led [.ref x, .int a1] σ (pO (v, σ))) : ExW sa yL_led cL_led K_L_led hhL [.ref x, .int a1, .ref o] σ (pO (0, sL σ o 0 v.toInt64)) := by
  have h : VV sa cL_led K_L_led 0 [(0, .ref x), (1, .int a1), (2, .ref o)] [] σ (pO (0, sL σ o 0 v.toInt64)) 1 6 := by
    refine v_aload_n (dq D_L_led 0 rfl) 2 rfl ?_
    refine v_iconst (dq D_L_led 1 rfl) kc_0 ?_
    refine v_aload_n (dq D_L_led 2 rfl) 0 rfl ?_
    refine v_iload_n (dq D_L_led 3 rfl) 1 rfl ?_
    refine v_cVi (bc := 0) (bs := 0) (As := [.int a1]) (dq D_L_led 4 rfl) cv_X8_led (Or.inl tw_1120) t hE rfl rfl (Nat.le_of_ble_eq_true rfl) ⟨Nat.le_of_ble_eq_true rfl, Nat.le_of_ble_eq_true rfl⟩ ⟨Nat.le_refl _, Nat.le_refl _⟩ ?_
    refine v_i2l (dq D_L_led 5 rfl) ?_
    refine v_last (dq D_L_led 6 rfl) ⟨t2, by rw [t3]; rfl⟩ ?_
    refine v_goto (dq D_L_led 7 rfl) rfl ?_
    refine v_iconst (dq D_L_led 11 rfl) kc_0 ?_
    exact v_iret (dq D_L_led 12 rfl) rfl ⟨rfl, rfl⟩
  exact ExW.of (by decide) rfl (fun q => (nomatch q)) (Nat.le_of_ble_eq_true rfl) (fun p l e R s m args below meth c z sv D cy _ X H locs cells slots ls q1 q2 q3 q4 q5 => h p l e R s m args below meth c z sv D cy X H locs cells slots ls q1 q2 q3 q4 q5)
/-- x.led threw -/
theorem ll_thr (t : hT σ x = 9) (hX : VX sa cX8_led K_X8_led 0 [(0, .ref x), (1, .int a1)] [] σ 1 6) : ExW sa yL_led cL_led K_L_led hhL [.ref x, .int a1, .ref o] σ (fun v τ => v = some (.int 1) ∧ ∃ n, τ = jk σ n) := by
  refine ExW.of (by decide) rfl (fun q => (nomatch q)) (Nat.le_of_ble_eq_true rfl) ?_
  intro p l e R s m args below meth c z sv D cy htb X H locs cells slots ls hR hS hls g1 g2
  replace hls : lv_has ls K_L_led.1 [(0, .ref x), (1, .int a1), (2, .ref o)] := hls
  have hXX := X
  obtain ⟨hx, hbb, hml, hown, hts, hr, hlk, hin, hRm, hK, hSx, hzz⟩ := hXX
  subst hRm
  refine lv_aload_n hx hbb (dq D_L_led 0 rfl).1 rfl (lv_at hls 2 rfl) ?_
  refine lv_iconst hx hbb (dq D_L_led 1 rfl).1 kc_0 ?_
  refine lv_aload_n hx hbb (dq D_L_led 2 rfl).1 rfl (lv_at hls 0 rfl) ?_
  refine lv_iload_n hx hbb (dq D_L_led 3 rfl).1 rfl (lv_at hls 1 rfl) ?_
  obtain ⟨⟨c1, c2, c3, c4, c5⟩, hi, hs, hc20, T, N, hcl⟩ := cv_X8_led
  have hat := (hR.2.2 x (by omega)).2
  rw [cellE_obj (ci := 8) t hc20] at hat
  have hrc : ∃ cell : Cell, H[x]? = some cell ∧ cell.vm.isStatics = false ∧ s.vm.findClass yX8_led.cls = some cell.cls := va_recv hK (one_P hat) hcl (q0 := 0) rfl
  have hcs : cells + kC K_X8_led ≤ (rmK K_L_led).cells ∧ slots + kS K_X8_led ≤ (rmK K_L_led).slots := ⟨g1, g2⟩
  refine xw_callX (pc := 4) (rest := [.int 0, .ref o]) (vx_runV (As := [.int a1]) (rest := [.int 0, .ref o]) ⟨hx, hbb, hml, hown, hts⟩ (xm_led hX l z sv D cy) ⟨callB_of 1 hts (gw_in c1) rfl rfl rfl (hts _ c2) (hts _ tw_1120) ⟨c3, c4, c5⟩ ⟨Nat.le_of_ble_eq_true rfl, Nat.le_of_ble_eq_true rfl⟩, hts _ hi, hts _ hs⟩ ⟨PP_blind, hrc, PP_start X hR hS⟩ rfl rfl hls.1 rfl (lv_room (Nat.le_of_ble_eq_true rfl)) (dq D_L_led 4 rfl).1 hcs) hS ?_
  intro ce q9 n H1 locs1 hR1 hS1 hce hcv hcl1
  refine vx_catch (own := RL) (name := nseC) (E := nseC) hown [] { startPc := 0, endPc := 9, handlerPc := 12, catchType := 13 } [] htb (fun z hz => (nomatch hz)) (by decide) (by decide) (hts _ tw_1119) (va_Nw.use rfl (hSx.2.2.2.2.2.2.1.2 _ (by simp [XW]))) hce hcv hcl1 ?_
  have h12 : VV sa cL_led K_L_led 12 [(0, .ref x), (1, .int a1), (2, .ref o)] [.ref q9] (jk σ n) (fun v τ => v = some (.int 1) ∧ ∃ n, τ = jk σ n) 0 0 := by
    refine v_astore_n (dq D_L_led 8 rfl) [(3, .ref q9), (0, .ref x), (1, .int a1), (2, .ref o)] rfl (by decide) rfl ?_
    refine v_iconst (dq D_L_led 9 rfl) kc_1 ?_
    exact v_iret (dq D_L_led 10 rfl) rfl ⟨rfl, n, rfl⟩
  exact h12 p l e _ s m args below meth c z sv D cy X H1 locs1 _ _ ls hR1 hS1 hls hcs.1 hcs.2
variable {cc : ByteArray} {K : MK} {pc pc2 bc bs : Nat} {st rest : List Value} {post post1 : Option Value → St → Prop}
/-- a static call of a method with a table -/
theorem v_callSW {y : MethodName} {cc1 : ByteArray} {K1 : MK} {hh : List (Nat × Nat × Nat × Nat)} {n idx : Nat} {As : List Value} (hd : dcd cc pc (.invokestatic idx) 3 pc2) (c1 : Cond.codeWith y cc1 K1.1 (kR K1) hh ∈ GW) (c2 : Cond.initialized y.cls ∈ GW) (c3 : y.cls ≠ "java/lang/invoke/MethodHandle" ∧ y.cls ≠ "java/lang/invoke/VarHandle" ∧ (parseMethodDescriptor y.desc).map (fun d => d.parameters.length) = some n) (hl : Cond.methodLink (kO K) idx y ∈ GW) (hi : Cond.static y ∈ GW) (hE : ExW sa y cc1 K1 hh As σ post1) (hn : As.length = n) (hst : st = As.reverse ++ rest) (hW : (rest.map fun v => v.category).sum ≤ 8) (hrm : kFr K1 + 1 ≤ kFr K ∧ 8 + (K1.1 + 11) + kLo K1 ≤ kLo K) (kk : ∀ v σ1, post1 v σ1 → VV sa cc K pc2 lv (v.toList ++ rest) σ1 post bc bs) : VV sa cc K pc lv st σ post (bc + kC K1) (bs + kS K1) := by
  intro p l e R s m args below meth c z sv D cy X H locs cells slots ls hR hS hls h1 h2
  obtain ⟨hd, rfl⟩ := hd
  have hX := X
  obtain ⟨hx, hbb, hml, hown, hts, hr, hlk, hin, hRm, hK, hSx, hzz⟩ := hX
  subst hRm
  have kw : ∀ (v : Option Value) (σ1 : St) (H1 : Heap) (locs1 : List Loc), post1 v σ1 → Rel z D cy σ1 H1 → va_S (fun q => z ≤ q) s.heap H1 locs1 → W p l.1 e (rmK K) s m args below meth c H1 locs1 (cells + kC K1) (slots + kS K1) (MQ below (QQ z D cy post) args s (kC K) (kS K) (fun q => z ≤ q)) (F0 m (pc + 3) ls (v.toList ++ rest)) := fun v σ1 H1 locs1 g1 g2 g3 => kk v σ1 g1 p l e _ s m args below meth c z sv D cy X H1 locs1 _ _ ls g2 g3 hls (by omega) (by omega)
  have hcs : cells + kC K1 ≤ (rmK K).cells ∧ slots + kS K1 ≤ (rmK K).slots := ⟨show _ ≤ kC K by omega, show _ ≤ kS K by omega⟩
  have hG : GoodIn GW (va_wsS (kO K) idx y (Cond.codeWith y cc1 K1.1 (kR K1) hh :: GW)) := fun w hw => by
    have hin : w ∈ GW := by
      unfold va_wsS at hw
      rcases List.mem_append.mp hw with h | h
      · simp only [List.mem_cons, List.not_mem_nil, or_false] at h
        rcases h with rfl | rfl | rfl
        · exact hl
        · exact hi
        · exact c2
      · rcases List.mem_cons.mp h with rfl | h
        · exact c1
        · exact h
    exact ⟨hin, gw_good w hin⟩
  exact xw_call (vx_runSW (As := As) (rest := rest) ⟨hx, hbb, hml, hown, hts⟩ (hE l z sv D cy) (vx_cwSW n hts hG rfl rfl rfl c3 hrm) ⟨PP_blind, PP_start X hR hS⟩ rfl hn hls.1 hst (lv_room hW) hd hcs) hS kw
end Led2
