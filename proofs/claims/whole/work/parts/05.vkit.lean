/-! THE HEAP AS MAPS: kinds, lengths, ints, references, longs, how many cells; V: the machine at a frame, over these maps -/
abbrev St : Type := (Nat → Nat) × (Nat → Nat) × (Nat → Nat → Int32) × (Nat → Nat → Option Nat) × (Nat → Nat → Int64) × Nat
def hT (σ : St) : Nat → Nat := σ.1
def hN (σ : St) : Nat → Nat := σ.2.1
def hI (σ : St) : Nat → Nat → Int32 := σ.2.2.1
def hP (σ : St) : Nat → Nat → Option Nat := σ.2.2.2.1
def hL (σ : St) : Nat → Nat → Int64 := σ.2.2.2.2.1
def hZ (σ : St) : Nat := σ.2.2.2.2.2
def u2 {α : Type} (f : Nat → Nat → α) (a k : Nat) (v : α) : Nat → Nat → α := fun b j => if b = a ∧ j = k then v else f b j
def sI (σ : St) (a k : Nat) (x : Int32) : St := (hT σ, hN σ, u2 (hI σ) a k x, hP σ, hL σ, hZ σ)
def sP (σ : St) (a k : Nat) (x : Option Nat) : St := (hT σ, hN σ, hI σ, u2 (hP σ) a k x, hL σ, hZ σ)
def sL (σ : St) (a k : Nat) (x : Int64) : St := (hT σ, hN σ, hI σ, hP σ, u2 (hL σ) a k x, hZ σ)
/-- a row of ints as a whole -/
def sR (σ : St) (a : Nat) (f : Nat → Int32) : St := (hT σ, hN σ, fun b => if b = a then f else hI σ b, hP σ, hL σ, hZ σ)
/-- a new cell: kind t, length n -/
def nw (σ : St) (t n : Nat) : St := (fun a => if a = hZ σ then t else hT σ a, fun a => if a = hZ σ then n else hN σ a, fun a k => if a = hZ σ then 0 else hI σ a k, fun a k => if a = hZ σ then none else hP σ a k, fun a k => if a = hZ σ then 0 else hL σ a k, hZ σ + 1)
-- cells
def kd (ci k : Nat) : Nat := (kdt.getD ci []).getD k 0
def nf (ci : Nat) : Nat := (kdt.getD ci []).length
def fv (q : Nat) (σ : St) (a k : Nat) : Value := if q = 0 then .int (hI σ a k) else if q = 1 then va_rf (hP σ a k) else .long (hL σ a k)
def ofs (ci : Nat) (σ : St) (a : Nat) : List Value := (List.range (nf ci)).map (fun k => fv (kd ci k) σ a k)
def cellE (cy : Nat → ClassId) (σ : St) (a : Nat) : va_E :=
  if hT σ a < 20 then .inr (hT σ a - 1, ofs (hT σ a - 1) σ a)
  else if hT σ a = 24 then .inl (cy 24, hN σ a, .inr (.inl (hL σ a)))
  else if hT σ a = 25 then .inl (cy 25, hN σ a, .inr (.inr (.inr (.inr (hP σ a)))))
  else .inl (cy (hT σ a), hN σ a, .inl (hI σ a))
def tyl (cy : Nat → ClassId) : List (ClassId × FieldType) := [(cy 21, .byte), (cy 22, .int), (cy 23, .boolean), (cy 24, .long), (cy 25, .object RX3)]
def Rel (z : Nat) (D : va_G) (cy : Nat → ClassId) (σ : St) (H : Heap) : Prop := z ≤ hZ σ ∧ H.size = hZ σ ∧ ∀ a, hT σ a ≠ 0 → z ≤ a ∧ va_at D vwCl (a, cellE cy σ a) H
-- what stands still: nest words, the cells of strings, statics of the library
/-- strings' places (the script's at 1000), the script's length, the script -/
abbrev Env3 : Type := (Nat → Nat) × Nat × (Nat → Int32)
def Sx (z : Nat) (sa : Env3) (sv : Nat → Nat) (U : State) : Prop :=
  (∀ w ∈ NW, w.before #[] U = true) ∧
  (∀ i, i < nStr → va_O "java/lang/String" (sa.1 i) (fun q => z ≤ q) U U.heap ∧ va_OF "java/lang/String" "coder" "B" (.int 0) (sa.1 i) (fun q => z ≤ q) U U.heap ∧ va_OF "java/lang/String" "value" "[B" (.ref (sa.1 (i + 2000))) (sa.1 i) (fun q => z ≤ q) U U.heap ∧ va_T .byte (sa.1 (i + 2000)) (strs.getD i []).length (fun j => .int ((strs.getD i []).getD j 0)) (fun q => z ≤ q) U U.heap) ∧
  (∀ q ∈ strRows, vk_R q.1 q.2.1 q.2.2.1 (sa.1 q.2.2.2) U) ∧
  va_Z "java/lang/String" "COMPACT_STRINGS" "Z" (.int 1) (fun q => z ≤ q) U U.heap ∧
  va_Zq "jdk/internal/util/Preconditions" "SIOOBE_FORMATTER" "Ljava/util/function/BiFunction;" (fun q => z ≤ q) U U.heap ∧
  vx_Zq "java/lang/Throwable" "UNASSIGNED_STACK" "[Ljava/lang/StackTraceElement;" (fun q => z ≤ q) U U.heap ∧
  (vx_Zq "java/lang/Throwable" "SUPPRESSED_SENTINEL" "Ljava/util/List;" (fun q => z ≤ q) U U.heap ∧ ∀ w ∈ XW, w.before #[] U = true) ∧
  va_AO RX3 U ∧ (va_X (sa.1 1000) sa.2.1 sa.2.2 U U.heap ∧ sa.1 1000 < z)
theorem Sx.go {z : Nat} {sa : Env3} {sv : Nat → Nat} {s U : State} (hW : s.WarmedH U.vm) (hz : z ≤ s.heap.size) (hq : ∀ q : Nat, q < s.heap.size → ¬ z ≤ q → U.heap[q]? = s.heap[q]?) (h : Sx z sa sv s) : Sx z sa sv U := by
  obtain ⟨h1, h2, h3, h4, h5, h6, h7, h8, h9, h10⟩ := h
  have ha := hW.alike
  refine ⟨nw_warm hW h1, fun i hi => ?_, fun q hq => vk_R.warm hW (h3 q hq), (va_Z.moved ha h4).kept hq, (va_Zq.moved ha h5).kept hq, (vx_Zq.moved ha h6).kept hq, ⟨(vx_Zq.moved ha h7.1).kept hq, xw_warm hW h7.2⟩, va_AO.moved ha h8, (va_X.moved ha h9).kept (hq _ (by omega) (by omega)), h10⟩
  obtain ⟨a1, a2, a3, a4⟩ := h2 i hi
  exact ⟨(va_O.moved ha a1).kept hq, (va_OF.moved ha a2).kept hq, (va_OF.moved ha a3).kept hq, (va_T.moved ha a4).kept hq⟩
-- a method: how many locals, its class, its type, is it a constructor, its room: frames, words, cells, slots
abbrev MK : Type := Nat × String × Option FieldType × Bool × Nat × Nat × Nat × Nat
def kO (K : MK) : String := K.2.1
def kR (K : MK) : Option FieldType := K.2.2.1
def kI (K : MK) : Bool := K.2.2.2.1
def kFr (K : MK) : Nat := K.2.2.2.2.1
def kLo (K : MK) : Nat := K.2.2.2.2.2.1
def kC (K : MK) : Nat := K.2.2.2.2.2.2.1
def kS (K : MK) : Nat := K.2.2.2.2.2.2.2
def rmK (K : MK) : Room := { frames := kFr K, cells := kC K, slots := kS K, locals := kLo K }
def Cx (z : Nat) (sa : Env3) (sv : Nat → Nat) (D : va_G) (cy : Nat → ClassId) (cc : ByteArray) (K : MK) (p : Program) (s : State) (m : MethodId) (args : Array Value) (meth : Method) (c : Code) (R : Room) : Prop :=
  p.tables.exec = Jvm.exec ∧ c.code = cc ∧ c.maxLocals = K.1 ∧ s.vm.findClass (kO K) = some m.cls ∧ (∀ w ∈ GW, w.before args s = true) ∧ meth.sig.returnType = kR K ∧ meth.locks = false ∧ (kI K = true → meth.name = "<init>") ∧ R = rmK K ∧ va_K D vwCl (tyl cy) s ∧ Sx z sa sv s ∧ z ≤ s.heap.size
def QQ (z : Nat) (D : va_G) (cy : Nat → ClassId) (post : Option Value → St → Prop) : Array Value → State → Outcome → State → Prop := fun _ st oc t => ∃ (v : Option Value) (σ : St), oc = .returned v ∧ post v σ ∧ Rel z D cy σ t.heap ∧ va_F (fun q => z ≤ q) st t
def PP (z : Nat) (sa : Env3) (sv : Nat → Nat) (D : va_G) (cy : Nat → ClassId) (av : List Value) (σ : St) : Array Value → State → Prop := fun v U => v = av.toArray ∧ va_K D vwCl (tyl cy) U ∧ Sx z sa sv U ∧ Rel z D cy σ U.heap
/-- a launch without stack traces -/
abbrev LL : Type := { l : Launch // l.stackTraces = false }
def VV (sa : Env3) (cc : ByteArray) (K : MK) (pc : Nat) (lv : List (Nat × Value)) (st : List Value) (σ : St) (post : Option Value → St → Prop) (bc bs : Nat) : Prop :=
  ∀ (p : Program) (l : LL) (e : Env) (R : Room) (s : State) (m : MethodId) (args : Array Value) (below : List Frame) (meth : Method) (c : Code) (z : Nat) (sv : Nat → Nat) (D : va_G) (cy : Nat → ClassId), Cx z sa sv D cy cc K p s m args meth c R →
  ∀ (H : Heap) (locs : List Loc) (cells slots : Nat) (ls : Array Slot), Rel z D cy σ H → va_S (fun q => z ≤ q) s.heap H locs → lv_has ls K.1 lv → cells + bc ≤ kC K → slots + bs ≤ kS K →
  W p l.1 e R s m args below meth c H locs cells slots (MQ below (QQ z D cy post) args s (kC K) (kS K) (fun q => z ≤ q)) (F0 m pc ls st)
def Ex (sa : Env3) (y : MethodName) (cc : ByteArray) (K : MK) (av : List Value) (σ : St) (post : Option Value → St → Prop) : Prop :=
  ∀ (l : LL) (z : Nat) (sv : Nat → Nat) (D : va_G) (cy : Nat → ClassId), Met l.1 y (.code y cc K.1 (kR K) :: GW) (rmK K) (PP z sa sv D cy av σ) (QQ z D cy post) (kC K) (kS K) (fun q => z ≤ q)
theorem Ex.of {sa : Env3} {y : MethodName} {cc : ByteArray} {K : MK} {av : List Value} {σ : St} {post : Option Value → St → Prop} (hy : plainName y.cls = true) (ho : kO K = y.cls) (hi : kI K = true → y.name = "<init>") (hv : (lg_sl av).length ≤ K.1) (h : VV sa cc K 0 (lv_args 0 av) [] σ post (kC K) (kS K)) : Ex sa y cc K av σ post := by
  intro l z sv D cy
  refine Met.ofW (cc := cc) (maxL := K.1) (ret := kR K) hy rfl ?_
  intro p e s m args below meth c s₁ B hml hP
  obtain ⟨rfl, hK, hS, hR⟩ := hP
  have hts := atoms_spec (ws := .code y cc K.1 (kR K) :: GW) B.pre
  have hl := lv_entry av (n := K.1) hv
  rw [lg_entry_eq]
  exact h p l e _ s m _ below meth c z sv D cy ⟨B.exec, B.bytes, hml, by rw [ho]; exact findClass_of_methodNamed B.named, fun w hw => hts w (List.mem_cons_of_mem _ hw), B.returns, B.notSynchronized, fun q => ((name_of_methodNamed B.named B.method).1).trans (hi q), rfl, hK, hS, by rw [hR.2.1]; exact hR.1⟩ s.heap [] 0 0 _ hR va_S.rf hl (by omega) (by omega)
