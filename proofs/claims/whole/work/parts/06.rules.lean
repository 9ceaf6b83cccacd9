def ixo (i : Int32) (n : Nat) : Bool := decide (0 ≤ i) && decide (i.toNatClampNeg < n)
section VRules
variable {sa : Env3} {cc : ByteArray} {K : MK} {pc pc2 : Nat} {lv : List (Nat × Value)} {st : List Value} {σ : St} {post : Option Value → St → Prop} {bc bs : Nat}
theorem v_iadd {x y : Int32} (hd : dcd cc pc (.iadd) 1 pc2)  (k : VV sa cc K pc2 lv (.int (x + y) :: st) σ post bc bs) : VV sa cc K pc lv (.int y :: .int x :: st) σ post bc bs := by
  intro p l e R s m args below meth c z sv D cy X H locs cells slots ls hR hS hl h1 h2
  obtain ⟨hd, rfl⟩ := hd
  exact lv_iadd X.1 X.2.1 hd (k p l e R s m args below meth c z sv D cy X H locs cells slots ls hR hS hl h1 h2)
theorem v_isub {x y : Int32} (hd : dcd cc pc (.isub) 1 pc2)  (k : VV sa cc K pc2 lv (.int (x - y) :: st) σ post bc bs) : VV sa cc K pc lv (.int y :: .int x :: st) σ post bc bs := by
  intro p l e R s m args below meth c z sv D cy X H locs cells slots ls hR hS hl h1 h2
  obtain ⟨hd, rfl⟩ := hd
  exact lv_isub X.1 X.2.1 hd (k p l e R s m args below meth c z sv D cy X H locs cells slots ls hR hS hl h1 h2)
theorem v_imul {x y : Int32} (hd : dcd cc pc (.imul) 1 pc2)  (k : VV sa cc K pc2 lv (.int (x * y) :: st) σ post bc bs) : VV sa cc K pc lv (.int y :: .int x :: st) σ post bc bs := by
  intro p l e R s m args below meth c z sv D cy X H locs cells slots ls hR hS hl h1 h2
  obtain ⟨hd, rfl⟩ := hd
  exact lv_imul X.1 X.2.1 hd (k p l e R s m args below meth c z sv D cy X H locs cells slots ls hR hS hl h1 h2)
theorem v_iand {x y : Int32} (hd : dcd cc pc (.iand) 1 pc2)  (k : VV sa cc K pc2 lv (.int (x &&& y) :: st) σ post bc bs) : VV sa cc K pc lv (.int y :: .int x :: st) σ post bc bs := by
  intro p l e R s m args below meth c z sv D cy X H locs cells slots ls hR hS hl h1 h2
  obtain ⟨hd, rfl⟩ := hd
  exact lv_iand X.1 X.2.1 hd (k p l e R s m args below meth c z sv D cy X H locs cells slots ls hR hS hl h1 h2)
theorem v_ior {x y : Int32} (hd : dcd cc pc (.ior) 1 pc2)  (k : VV sa cc K pc2 lv (.int (x ||| y) :: st) σ post bc bs) : VV sa cc K pc lv (.int y :: .int x :: st) σ post bc bs := by
  intro p l e R s m args below meth c z sv D cy X H locs cells slots ls hR hS hl h1 h2
  obtain ⟨hd, rfl⟩ := hd
  exact lv_ior X.1 X.2.1 hd (k p l e R s m args below meth c z sv D cy X H locs cells slots ls hR hS hl h1 h2)
theorem v_ixor {x y : Int32} (hd : dcd cc pc (.ixor) 1 pc2)  (k : VV sa cc K pc2 lv (.int (x ^^^ y) :: st) σ post bc bs) : VV sa cc K pc lv (.int y :: .int x :: st) σ post bc bs := by
  intro p l e R s m args below meth c z sv D cy X H locs cells slots ls hR hS hl h1 h2
  obtain ⟨hd, rfl⟩ := hd
  exact lv_ixor X.1 X.2.1 hd (k p l e R s m args below meth c z sv D cy X H locs cells slots ls hR hS hl h1 h2)
theorem v_ladd {x y : Int64} (hd : dcd cc pc (.ladd) 1 pc2)  (k : VV sa cc K pc2 lv (.long (x + y) :: st) σ post bc bs) : VV sa cc K pc lv (.long y :: .long x :: st) σ post bc bs := by
  intro p l e R s m args below meth c z sv D cy X H locs cells slots ls hR hS hl h1 h2
  obtain ⟨hd, rfl⟩ := hd
  exact lv_ladd X.1 X.2.1 hd (k p l e R s m args below meth c z sv D cy X H locs cells slots ls hR hS hl h1 h2)
theorem v_lmul {x y : Int64} (hd : dcd cc pc (.lmul) 1 pc2)  (k : VV sa cc K pc2 lv (.long (x * y) :: st) σ post bc bs) : VV sa cc K pc lv (.long y :: .long x :: st) σ post bc bs := by
  intro p l e R s m args below meth c z sv D cy X H locs cells slots ls hR hS hl h1 h2
  obtain ⟨hd, rfl⟩ := hd
  exact lv_lmul X.1 X.2.1 hd (k p l e R s m args below meth c z sv D cy X H locs cells slots ls hR hS hl h1 h2)
def jshl (x y : Int32) : Int32 := x <<< (y &&& 31)
def jshr (x y : Int32) : Int32 := x >>> (y &&& 31)
def jushr (x y : Int32) : Int32 := (x.toUInt32 >>> (y.toUInt32 &&& Int32.toUInt32 31)).toInt32
def jrem (x y : Int32) : Int32 := x - x / y * y
def lrem (x y : Int64) : Int64 := x - x / y * y
def jb (x : Int32) : Int32 := x.toInt8.toInt32
def jc (x : Int32) : Int32 := (x.toUInt32 % 65536).toInt32
theorem v_ishl {x y : Int32} (hd : dcd cc pc (.ishl) 1 pc2)  (k : VV sa cc K pc2 lv (.int (jshl x y) :: st) σ post bc bs) : VV sa cc K pc lv (.int y :: .int x :: st) σ post bc bs := by
  intro p l e R s m args below meth c z sv D cy X H locs cells slots ls hR hS hl h1 h2
  obtain ⟨hd, rfl⟩ := hd
  exact lv_ishl X.1 X.2.1 hd (k p l e R s m args below meth c z sv D cy X H locs cells slots ls hR hS hl h1 h2)
theorem v_ishr {x y : Int32} (hd : dcd cc pc (.ishr) 1 pc2)  (k : VV sa cc K pc2 lv (.int (jshr x y) :: st) σ post bc bs) : VV sa cc K pc lv (.int y :: .int x :: st) σ post bc bs := by
  intro p l e R s m args below meth c z sv D cy X H locs cells slots ls hR hS hl h1 h2
  obtain ⟨hd, rfl⟩ := hd
  exact lv_ishr X.1 X.2.1 hd (k p l e R s m args below meth c z sv D cy X H locs cells slots ls hR hS hl h1 h2)
theorem v_iushr {x y : Int32} (hd : dcd cc pc (.iushr) 1 pc2)  (k : VV sa cc K pc2 lv (.int (jushr x y) :: st) σ post bc bs) : VV sa cc K pc lv (.int y :: .int x :: st) σ post bc bs := by
  intro p l e R s m args below meth c z sv D cy X H locs cells slots ls hR hS hl h1 h2
  obtain ⟨hd, rfl⟩ := hd
  exact lv_iushr X.1 X.2.1 hd rfl (k p l e R s m args below meth c z sv D cy X H locs cells slots ls hR hS hl h1 h2)
theorem v_i2b {x : Int32} (hd : dcd cc pc (.i2b) 1 pc2)  (k : VV sa cc K pc2 lv (.int (jb x) :: st) σ post bc bs) : VV sa cc K pc lv (.int x :: st) σ post bc bs := by
  intro p l e R s m args below meth c z sv D cy X H locs cells slots ls hR hS hl h1 h2
  obtain ⟨hd, rfl⟩ := hd
  exact lv_i2b X.1 X.2.1 hd rfl (k p l e R s m args below meth c z sv D cy X H locs cells slots ls hR hS hl h1 h2)
theorem v_i2c {x : Int32} (hd : dcd cc pc (.i2c) 1 pc2)  (k : VV sa cc K pc2 lv (.int (jc x) :: st) σ post bc bs) : VV sa cc K pc lv (.int x :: st) σ post bc bs := by
  intro p l e R s m args below meth c z sv D cy X H locs cells slots ls hR hS hl h1 h2
  obtain ⟨hd, rfl⟩ := hd
  exact lv_i2c X.1 X.2.1 hd rfl (k p l e R s m args below meth c z sv D cy X H locs cells slots ls hR hS hl h1 h2)
theorem v_i2l {x : Int32} (hd : dcd cc pc (.i2l) 1 pc2)  (k : VV sa cc K pc2 lv (.long x.toInt64 :: st) σ post bc bs) : VV sa cc K pc lv (.int x :: st) σ post bc bs := by
  intro p l e R s m args below meth c z sv D cy X H locs cells slots ls hR hS hl h1 h2
  obtain ⟨hd, rfl⟩ := hd
  exact lv_i2l X.1 X.2.1 hd rfl (k p l e R s m args below meth c z sv D cy X H locs cells slots ls hR hS hl h1 h2)
theorem v_l2i {x : Int64} (hd : dcd cc pc (.l2i) 1 pc2)  (k : VV sa cc K pc2 lv (.int x.toInt32 :: st) σ post bc bs) : VV sa cc K pc lv (.long x :: st) σ post bc bs := by
  intro p l e R s m args below meth c z sv D cy X H locs cells slots ls hR hS hl h1 h2
  obtain ⟨hd, rfl⟩ := hd
  exact lv_l2i X.1 X.2.1 hd rfl (k p l e R s m args below meth c z sv D cy X H locs cells slots ls hR hS hl h1 h2)
theorem v_idiv {x y : Int32} (hd : dcd cc pc (.idiv) 1 pc2) (hn : ¬ y = 0) (k : VV sa cc K pc2 lv (.int (x / y) :: st) σ post bc bs) : VV sa cc K pc lv (.int y :: .int x :: st) σ post bc bs := by
  intro p l e R s m args below meth c z sv D cy X H locs cells slots ls hR hS hl h1 h2
  obtain ⟨hd, rfl⟩ := hd
  exact lv_idiv X.1 X.2.1 hd hn (k p l e R s m args below meth c z sv D cy X H locs cells slots ls hR hS hl h1 h2)
theorem v_irem {x y : Int32} (hd : dcd cc pc (.irem) 1 pc2) (hn : ¬ y = 0) (k : VV sa cc K pc2 lv (.int (jrem x y) :: st) σ post bc bs) : VV sa cc K pc lv (.int y :: .int x :: st) σ post bc bs := by
  intro p l e R s m args below meth c z sv D cy X H locs cells slots ls hR hS hl h1 h2
  obtain ⟨hd, rfl⟩ := hd
  exact lv_irem X.1 X.2.1 hd hn (k p l e R s m args below meth c z sv D cy X H locs cells slots ls hR hS hl h1 h2)
theorem v_ldiv {x y : Int64} (hd : dcd cc pc (.ldiv) 1 pc2) (hn : ¬ y = 0) (k : VV sa cc K pc2 lv (.long (x / y) :: st) σ post bc bs) : VV sa cc K pc lv (.long y :: .long x :: st) σ post bc bs := by
  intro p l e R s m args below meth c z sv D cy X H locs cells slots ls hR hS hl h1 h2
  obtain ⟨hd, rfl⟩ := hd
  exact lv_ldiv X.1 X.2.1 hd hn (k p l e R s m args below meth c z sv D cy X H locs cells slots ls hR hS hl h1 h2)
theorem v_lrem {x y : Int64} (hd : dcd cc pc (.lrem) 1 pc2) (hn : ¬ y = 0) (k : VV sa cc K pc2 lv (.long (lrem x y) :: st) σ post bc bs) : VV sa cc K pc lv (.long y :: .long x :: st) σ post bc bs := by
  intro p l e R s m args below meth c z sv D cy X H locs cells slots ls hR hS hl h1 h2
  obtain ⟨hd, rfl⟩ := hd
  exact lv_lrem X.1 X.2.1 hd hn (k p l e R s m args below meth c z sv D cy X H locs cells slots ls hR hS hl h1 h2)
theorem v_iconst {n : Int} {v : Int32} (hd : dcd cc pc (.iconst n) 1 pc2) (hv : Int32.ofInt n = v) (k : VV sa cc K pc2 lv (.int v :: st) σ post bc bs) : VV sa cc K pc lv st σ post bc bs := by
  intro p l e R s m args below meth c z sv D cy X H locs cells slots ls hR hS hl h1 h2
  obtain ⟨hd, rfl⟩ := hd
  exact lv_iconst X.1 X.2.1 hd hv (k p l e R s m args below meth c z sv D cy X H locs cells slots ls hR hS hl h1 h2)
theorem v_bipush {n : Int} {v : Int32} (hd : dcd cc pc (.bipush n) 2 pc2) (hv : (Int8.ofInt n).toInt32 = v) (k : VV sa cc K pc2 lv (.int v :: st) σ post bc bs) : VV sa cc K pc lv st σ post bc bs := by
  intro p l e R s m args below meth c z sv D cy X H locs cells slots ls hR hS hl h1 h2
  obtain ⟨hd, rfl⟩ := hd
  exact lv_bipush X.1 X.2.1 hd hv (k p l e R s m args below meth c z sv D cy X H locs cells slots ls hR hS hl h1 h2)
theorem v_sipush {n : Int} {v : Int32} (hd : dcd cc pc (.sipush n) 3 pc2) (hv : (Int16.ofInt n).toInt32 = v) (k : VV sa cc K pc2 lv (.int v :: st) σ post bc bs) : VV sa cc K pc lv st σ post bc bs := by
  intro p l e R s m args below meth c z sv D cy X H locs cells slots ls hR hS hl h1 h2
  obtain ⟨hd, rfl⟩ := hd
  exact lv_sipush X.1 X.2.1 hd hv (k p l e R s m args below meth c z sv D cy X H locs cells slots ls hR hS hl h1 h2)
theorem v_lconst {n : Fin 2} {v : Int64} (hd : dcd cc pc (.lconst n) 1 pc2) (hv : Int64.ofNat (n : Nat) = v) (k : VV sa cc K pc2 lv (.long v :: st) σ post bc bs) : VV sa cc K pc lv st σ post bc bs := by
  intro p l e R s m args below meth c z sv D cy X H locs cells slots ls hR hS hl h1 h2
  obtain ⟨hd, rfl⟩ := hd
  exact lv_lconst X.1 X.2.1 hd hv (k p l e R s m args below meth c z sv D cy X H locs cells slots ls hR hS hl h1 h2)
theorem v_lcmp {x y : Int64} (hd : dcd cc pc (.lcmp) 1 pc2)  (k : VV sa cc K pc2 lv (.int (lg_cmp x y) :: st) σ post bc bs) : VV sa cc K pc lv (.long y :: .long x :: st) σ post bc bs := by
  intro p l e R s m args below meth c z sv D cy X H locs cells slots ls hR hS hl h1 h2
  obtain ⟨hd, rfl⟩ := hd
  exact W.lcmp X.1 X.2.1 hd (k p l e R s m args below meth c z sv D cy X H locs cells slots ls hR hS hl h1 h2)
theorem v_ldc {idx : Nat} {v : Int32} (hd : dcd cc pc (.ldc idx) 2 pc2) (hw : Cond.constant (kO K) idx v ∈ GW) (k : VV sa cc K pc2 lv (.int v :: st) σ post bc bs) : VV sa cc K pc lv st σ post bc bs := by
  intro p l e R s m args below meth c z sv D cy X H locs cells slots ls hR hS hl h1 h2
  obtain ⟨hd, rfl⟩ := hd
  exact lv_ldc X.1 X.2.1 X.2.2.2.1 (X.2.2.2.2.1 _ hw) hd (k p l e R s m args below meth c z sv D cy X H locs cells slots ls hR hS hl h1 h2)
theorem v_ldcw {idx : Nat} {v : Int32} (hd : dcd cc pc (.ldc_w idx) 3 pc2) (hw : Cond.constant (kO K) idx v ∈ GW) (k : VV sa cc K pc2 lv (.int v :: st) σ post bc bs) : VV sa cc K pc lv st σ post bc bs := by
  intro p l e R s m args below meth c z sv D cy X H locs cells slots ls hR hS hl h1 h2
  obtain ⟨hd, rfl⟩ := hd
  exact lv_ldcw X.1 X.2.1 X.2.2.2.1 (X.2.2.2.2.1 _ hw) hd (k p l e R s m args below meth c z sv D cy X H locs cells slots ls hR hS hl h1 h2)
theorem v_ldc2 {idx : Nat} {v : Int64} (hd : dcd cc pc (.ldc2_w idx) 3 pc2) (hw : Cond.constantLong (kO K) idx v ∈ GW) (k : VV sa cc K pc2 lv (.long v :: st) σ post bc bs) : VV sa cc K pc lv st σ post bc bs := by
  intro p l e R s m args below meth c z sv D cy X H locs cells slots ls hR hS hl h1 h2
  obtain ⟨hd, rfl⟩ := hd
  exact lv_ldc2 X.1 X.2.1 X.2.2.2.1 (X.2.2.2.2.1 _ hw) hd (k p l e R s m args below meth c z sv D cy X H locs cells slots ls hR hS hl h1 h2)
theorem v_ldcS {idx i : Nat} {tx : String} (hd : dcd cc pc (.ldc idx) 2 pc2) (hw : (kO K, idx, tx, i) ∈ strRows) (k : VV sa cc K pc2 lv (.ref (sa.1 i) :: st) σ post bc bs) : VV sa cc K pc lv st σ post bc bs := by
  intro p l e R s m args below meth c z sv D cy X H locs cells slots ls hR hS hl h1 h2
  obtain ⟨hd, rfl⟩ := hd
  exact va_ldcS X.1 X.2.1 X.2.2.2.1 (X.2.2.2.2.2.2.2.2.2.2.1.2.2.1 _ hw) hd (k p l e R s m args below meth c z sv D cy X H locs cells slots ls hR hS hl h1 h2)
theorem v_dup {v : Value} (hd : dcd cc pc (.dup) 1 pc2) (hv : v.category = 1) (k : VV sa cc K pc2 lv (v :: v :: st) σ post bc bs) : VV sa cc K pc lv (v :: st) σ post bc bs := by
  intro p l e R s m args below meth c z sv D cy X H locs cells slots ls hR hS hl h1 h2
  obtain ⟨hd, rfl⟩ := hd
  exact lv_dup X.1 X.2.1 hd hv (k p l e R s m args below meth c z sv D cy X H locs cells slots ls hR hS hl h1 h2)
theorem v_pop {v : Value} (hd : dcd cc pc (.pop) 1 pc2) (hv : v.category = 1) (k : VV sa cc K pc2 lv st σ post bc bs) : VV sa cc K pc lv (v :: st) σ post bc bs := by
  intro p l e R s m args below meth c z sv D cy X H locs cells slots ls hR hS hl h1 h2
  obtain ⟨hd, rfl⟩ := hd
  exact lv_pop X.1 X.2.1 hd hv (k p l e R s m args below meth c z sv D cy X H locs cells slots ls hR hS hl h1 h2)
theorem v_dup2 {v w : Value} (hd : dcd cc pc (.dup2) 1 pc2) (hv : v.category = 1) (hw : w.category = 1) (k : VV sa cc K pc2 lv (v :: w :: v :: w :: st) σ post bc bs) : VV sa cc K pc lv (v :: w :: st) σ post bc bs := by
  intro p l e R s m args below meth c z sv D cy X H locs cells slots ls hR hS hl h1 h2
  obtain ⟨hd, rfl⟩ := hd
  exact lv_dup2_11 X.1 X.2.1 hd hv hw (k p l e R s m args below meth c z sv D cy X H locs cells slots ls hR hS hl h1 h2)
theorem v_iload_n {f : Fin 4} {x : Int32} (hd : dcd cc pc (.iload_n f) 1 pc2) (j : Nat) (hj : lv[j]? = some ((f : Nat), .int x)) (k : VV sa cc K pc2 lv (.int x :: st) σ post bc bs) : VV sa cc K pc lv st σ post bc bs := by
  intro p l e R s m args below meth c z sv D cy X H locs cells slots ls hR hS hl h1 h2
  obtain ⟨hd, rfl⟩ := hd
  exact lv_iload_n X.1 X.2.1 hd rfl (lv_at hl j hj) (k p l e R s m args below meth c z sv D cy X H locs cells slots ls hR hS hl h1 h2)
theorem v_iload {i : Nat} {x : Int32} (hd : dcd cc pc (.iload i) 2 pc2) (j : Nat) (hj : lv[j]? = some (i, .int x)) (k : VV sa cc K pc2 lv (.int x :: st) σ post bc bs) : VV sa cc K pc lv st σ post bc bs := by
  intro p l e R s m args below meth c z sv D cy X H locs cells slots ls hR hS hl h1 h2
  obtain ⟨hd, rfl⟩ := hd
  exact lv_iload X.1 X.2.1 hd (lv_at hl j hj) (k p l e R s m args below meth c z sv D cy X H locs cells slots ls hR hS hl h1 h2)
theorem v_istore_n {f : Fin 4} {i : Nat} {x : Int32} (hd : dcd cc pc (.istore_n f) 1 pc2) (lv2 : List (Nat × Value)) (hi : (f : Nat) = i) (hn : i < K.1) (hq : (i, Value.int x) :: lv.filter (fun q => !(q.1 == i) && !(q.1 + 1 == i && q.2.category == 2)) = lv2) (k : VV sa cc K pc2 lv2 st σ post bc bs) : VV sa cc K pc lv (.int x :: st) σ post bc bs := by
  intro p l e R s m args below meth c z sv D cy X H locs cells slots ls hR hS hl h1 h2
  obtain ⟨hd, rfl⟩ := hd
  exact lv_istore_n X.1 X.2.1 hd hi hl hn hq (fun ls' hl' => k p l e R s m args below meth c z sv D cy X H locs cells slots ls' hR hS hl' h1 h2)
theorem v_istore {i : Nat} {x : Int32} (hd : dcd cc pc (.istore i) 2 pc2) (lv2 : List (Nat × Value)) (hn : i < K.1) (hq : (i, Value.int x) :: lv.filter (fun q => !(q.1 == i) && !(q.1 + 1 == i && q.2.category == 2)) = lv2) (k : VV sa cc K pc2 lv2 st σ post bc bs) : VV sa cc K pc lv (.int x :: st) σ post bc bs := by
  intro p l e R s m args below meth c z sv D cy X H locs cells slots ls hR hS hl h1 h2
  obtain ⟨hd, rfl⟩ := hd
  exact lv_istore X.1 X.2.1 hd hl hn hq (fun ls' hl' => k p l e R s m args below meth c z sv D cy X H locs cells slots ls' hR hS hl' h1 h2)
theorem v_aload_n {f : Fin 4} {x : Nat} (hd : dcd cc pc (.aload_n f) 1 pc2) (j : Nat) (hj : lv[j]? = some ((f : Nat), .ref x)) (k : VV sa cc K pc2 lv (.ref x :: st) σ post bc bs) : VV sa cc K pc lv st σ post bc bs := by
  intro p l e R s m args below meth c z sv D cy X H locs cells slots ls hR hS hl h1 h2
  obtain ⟨hd, rfl⟩ := hd
  exact lv_aload_n X.1 X.2.1 hd rfl (lv_at hl j hj) (k p l e R s m args below meth c z sv D cy X H locs cells slots ls hR hS hl h1 h2)
theorem v_aload {i : Nat} {x : Nat} (hd : dcd cc pc (.aload i) 2 pc2) (j : Nat) (hj : lv[j]? = some (i, .ref x)) (k : VV sa cc K pc2 lv (.ref x :: st) σ post bc bs) : VV sa cc K pc lv st σ post bc bs := by
  intro p l e R s m args below meth c z sv D cy X H locs cells slots ls hR hS hl h1 h2
  obtain ⟨hd, rfl⟩ := hd
  exact lv_aload X.1 X.2.1 hd (lv_at hl j hj) (k p l e R s m args below meth c z sv D cy X H locs cells slots ls hR hS hl h1 h2)
theorem v_astore_n {f : Fin 4} {i : Nat} {x : Nat} (hd : dcd cc pc (.astore_n f) 1 pc2) (lv2 : List (Nat × Value)) (hi : (f : Nat) = i) (hn : i < K.1) (hq : (i, Value.ref x) :: lv.filter (fun q => !(q.1 == i) && !(q.1 + 1 == i && q.2.category == 2)) = lv2) (k : VV sa cc K pc2 lv2 st σ post bc bs) : VV sa cc K pc lv (.ref x :: st) σ post bc bs := by
  intro p l e R s m args below meth c z sv D cy X H locs cells slots ls hR hS hl h1 h2
  obtain ⟨hd, rfl⟩ := hd
  exact lv_astore_n X.1 X.2.1 hd hi hl hn hq (fun ls' hl' => k p l e R s m args below meth c z sv D cy X H locs cells slots ls' hR hS hl' h1 h2)
theorem v_astore {i : Nat} {x : Nat} (hd : dcd cc pc (.astore i) 2 pc2) (lv2 : List (Nat × Value)) (hn : i < K.1) (hq : (i, Value.ref x) :: lv.filter (fun q => !(q.1 == i) && !(q.1 + 1 == i && q.2.category == 2)) = lv2) (k : VV sa cc K pc2 lv2 st σ post bc bs) : VV sa cc K pc lv (.ref x :: st) σ post bc bs := by
  intro p l e R s m args below meth c z sv D cy X H locs cells slots ls hR hS hl h1 h2
  obtain ⟨hd, rfl⟩ := hd
  exact lv_astore X.1 X.2.1 hd hl hn hq (fun ls' hl' => k p l e R s m args below meth c z sv D cy X H locs cells slots ls' hR hS hl' h1 h2)
theorem v_lload_n {f : Fin 4} {x : Int64} (hd : dcd cc pc (.lload_n f) 1 pc2) (j : Nat) (hj : lv[j]? = some ((f : Nat), .long x)) (k : VV sa cc K pc2 lv (.long x :: st) σ post bc bs) : VV sa cc K pc lv st σ post bc bs := by
  intro p l e R s m args below meth c z sv D cy X H locs cells slots ls hR hS hl h1 h2
  obtain ⟨hd, rfl⟩ := hd
  exact lv_lload_n X.1 X.2.1 hd rfl (lv_at hl j hj) (k p l e R s m args below meth c z sv D cy X H locs cells slots ls hR hS hl h1 h2)
theorem v_lload {i : Nat} {x : Int64} (hd : dcd cc pc (.lload i) 2 pc2) (j : Nat) (hj : lv[j]? = some (i, .long x)) (k : VV sa cc K pc2 lv (.long x :: st) σ post bc bs) : VV sa cc K pc lv st σ post bc bs := by
  intro p l e R s m args below meth c z sv D cy X H locs cells slots ls hR hS hl h1 h2
  obtain ⟨hd, rfl⟩ := hd
  exact lv_lload X.1 X.2.1 hd (lv_at hl j hj) (k p l e R s m args below meth c z sv D cy X H locs cells slots ls hR hS hl h1 h2)
theorem v_lstore_n {f : Fin 4} {i : Nat} {x : Int64} (hd : dcd cc pc (.lstore_n f) 1 pc2) (lv2 : List (Nat × Value)) (hi : (f : Nat) = i) (hn : i + 1 < K.1) (hq : (i, Value.long x) :: lv.filter (fun q => !(q.1 == i) && (!(q.1 == i + 1) && !(q.1 + 1 == i && q.2.category == 2))) = lv2) (k : VV sa cc K pc2 lv2 st σ post bc bs) : VV sa cc K pc lv (.long x :: st) σ post bc bs := by
  intro p l e R s m args below meth c z sv D cy X H locs cells slots ls hR hS hl h1 h2
  obtain ⟨hd, rfl⟩ := hd
  exact lv_lstore_n X.1 X.2.1 hd hi hl hn hq (fun ls' hl' => k p l e R s m args below meth c z sv D cy X H locs cells slots ls' hR hS hl' h1 h2)
theorem v_lstore {i : Nat} {x : Int64} (hd : dcd cc pc (.lstore i) 2 pc2) (lv2 : List (Nat × Value)) (hn : i + 1 < K.1) (hq : (i, Value.long x) :: lv.filter (fun q => !(q.1 == i) && (!(q.1 == i + 1) && !(q.1 + 1 == i && q.2.category == 2))) = lv2) (k : VV sa cc K pc2 lv2 st σ post bc bs) : VV sa cc K pc lv (.long x :: st) σ post bc bs := by
  intro p l e R s m args below meth c z sv D cy X H locs cells slots ls hR hS hl h1 h2
  obtain ⟨hd, rfl⟩ := hd
  exact lv_lstore X.1 X.2.1 hd hl hn hq (fun ls' hl' => k p l e R s m args below meth c z sv D cy X H locs cells slots ls' hR hS hl' h1 h2)
theorem v_iinc {i : Nat} {n : Int} {x d : Int32} (hd : dcd cc pc (.iinc i n) 3 pc2) (j : Nat) (lv2 : List (Nat × Value)) (hj : lv[j]? = some (i, .int x)) (hv : Int32.ofInt n = d) (hn : i < K.1) (hq : (i, Value.int (x + d)) :: lv.filter (fun q => !(q.1 == i) && !(q.1 + 1 == i && q.2.category == 2)) = lv2) (k : VV sa cc K pc2 lv2 st σ post bc bs) : VV sa cc K pc lv st σ post bc bs := by
  intro p l e R s m args below meth c z sv D cy X H locs cells slots ls hR hS hl h1 h2
  obtain ⟨hd, rfl⟩ := hd
  exact lv_iinc (k := j) X.1 X.2.1 hd hl hj (by rw [hv]) hn hq (fun ls' hl' => k p l e R s m args below meth c z sv D cy X H locs cells slots ls' hR hS hl' h1 h2)
theorem v_if_eq {x : Int32} {off : Int} {tgt : Nat} (hd : dcd cc pc (.ifCond .eq off) 3 pc2) (ht : (pc : Int) + off = (tgt : Int)) (kt : x = 0 → VV sa cc K tgt lv st σ post bc bs) (kf : ¬ x = 0 → VV sa cc K pc2 lv st σ post bc bs) : VV sa cc K pc lv (.int x :: st) σ post bc bs := by
  intro p l e R s m args below meth c z sv D cy X H locs cells slots ls hR hS hl h1 h2
  obtain ⟨hd, rfl⟩ := hd
  exact lv_if_eq X.1 X.2.1 hd ht (fun q => kt q p l e R s m args below meth c z sv D cy X H locs cells slots ls hR hS hl h1 h2) (fun q => kf q p l e R s m args below meth c z sv D cy X H locs cells slots ls hR hS hl h1 h2)
theorem v_icmp_eq {x y : Int32} {off : Int} {tgt : Nat} (hd : dcd cc pc (.if_icmp .eq off) 3 pc2) (ht : (pc : Int) + off = (tgt : Int)) (kt : x = y → VV sa cc K tgt lv st σ post bc bs) (kf : ¬ x = y → VV sa cc K pc2 lv st σ post bc bs) : VV sa cc K pc lv (.int y :: .int x :: st) σ post bc bs := by
  intro p l e R s m args below meth c z sv D cy X H locs cells slots ls hR hS hl h1 h2
  obtain ⟨hd, rfl⟩ := hd
  exact lv_icmp_eq X.1 X.2.1 hd ht (fun q => kt q p l e R s m args below meth c z sv D cy X H locs cells slots ls hR hS hl h1 h2) (fun q => kf q p l e R s m args below meth c z sv D cy X H locs cells slots ls hR hS hl h1 h2)
theorem v_if_ne {x : Int32} {off : Int} {tgt : Nat} (hd : dcd cc pc (.ifCond .ne off) 3 pc2) (ht : (pc : Int) + off = (tgt : Int)) (kt : ¬ x = 0 → VV sa cc K tgt lv st σ post bc bs) (kf : x = 0 → VV sa cc K pc2 lv st σ post bc bs) : VV sa cc K pc lv (.int x :: st) σ post bc bs := by
  intro p l e R s m args below meth c z sv D cy X H locs cells slots ls hR hS hl h1 h2
  obtain ⟨hd, rfl⟩ := hd
  exact lv_if_ne X.1 X.2.1 hd ht (fun q => kt q p l e R s m args below meth c z sv D cy X H locs cells slots ls hR hS hl h1 h2) (fun q => kf q p l e R s m args below meth c z sv D cy X H locs cells slots ls hR hS hl h1 h2)
theorem v_icmp_ne {x y : Int32} {off : Int} {tgt : Nat} (hd : dcd cc pc (.if_icmp .ne off) 3 pc2) (ht : (pc : Int) + off = (tgt : Int)) (kt : ¬ x = y → VV sa cc K tgt lv st σ post bc bs) (kf : x = y → VV sa cc K pc2 lv st σ post bc bs) : VV sa cc K pc lv (.int y :: .int x :: st) σ post bc bs := by
  intro p l e R s m args below meth c z sv D cy X H locs cells slots ls hR hS hl h1 h2
  obtain ⟨hd, rfl⟩ := hd
  exact lv_icmp_ne X.1 X.2.1 hd ht (fun q => kt q p l e R s m args below meth c z sv D cy X H locs cells slots ls hR hS hl h1 h2) (fun q => kf q p l e R s m args below meth c z sv D cy X H locs cells slots ls hR hS hl h1 h2)
theorem v_if_lt {x : Int32} {off : Int} {tgt : Nat} (hd : dcd cc pc (.ifCond .lt off) 3 pc2) (ht : (pc : Int) + off = (tgt : Int)) (kt : x < 0 → VV sa cc K tgt lv st σ post bc bs) (kf : ¬ x < 0 → VV sa cc K pc2 lv st σ post bc bs) : VV sa cc K pc lv (.int x :: st) σ post bc bs := by
  intro p l e R s m args below meth c z sv D cy X H locs cells slots ls hR hS hl h1 h2
  obtain ⟨hd, rfl⟩ := hd
  exact lv_if_lt X.1 X.2.1 hd ht (fun q => kt q p l e R s m args below meth c z sv D cy X H locs cells slots ls hR hS hl h1 h2) (fun q => kf q p l e R s m args below meth c z sv D cy X H locs cells slots ls hR hS hl h1 h2)
theorem v_icmp_lt {x y : Int32} {off : Int} {tgt : Nat} (hd : dcd cc pc (.if_icmp .lt off) 3 pc2) (ht : (pc : Int) + off = (tgt : Int)) (kt : x < y → VV sa cc K tgt lv st σ post bc bs) (kf : ¬ x < y → VV sa cc K pc2 lv st σ post bc bs) : VV sa cc K pc lv (.int y :: .int x :: st) σ post bc bs := by
  intro p l e R s m args below meth c z sv D cy X H locs cells slots ls hR hS hl h1 h2
  obtain ⟨hd, rfl⟩ := hd
  exact lv_icmp_lt X.1 X.2.1 hd ht (fun q => kt q p l e R s m args below meth c z sv D cy X H locs cells slots ls hR hS hl h1 h2) (fun q => kf q p l e R s m args below meth c z sv D cy X H locs cells slots ls hR hS hl h1 h2)
theorem v_if_ge {x : Int32} {off : Int} {tgt : Nat} (hd : dcd cc pc (.ifCond .ge off) 3 pc2) (ht : (pc : Int) + off = (tgt : Int)) (kt : 0 ≤ x → VV sa cc K tgt lv st σ post bc bs) (kf : ¬ 0 ≤ x → VV sa cc K pc2 lv st σ post bc bs) : VV sa cc K pc lv (.int x :: st) σ post bc bs := by
  intro p l e R s m args below meth c z sv D cy X H locs cells slots ls hR hS hl h1 h2
  obtain ⟨hd, rfl⟩ := hd
  exact lv_if_ge X.1 X.2.1 hd ht (fun q => kt q p l e R s m args below meth c z sv D cy X H locs cells slots ls hR hS hl h1 h2) (fun q => kf q p l e R s m args below meth c z sv D cy X H locs cells slots ls hR hS hl h1 h2)
theorem v_icmp_ge {x y : Int32} {off : Int} {tgt : Nat} (hd : dcd cc pc (.if_icmp .ge off) 3 pc2) (ht : (pc : Int) + off = (tgt : Int)) (kt : y ≤ x → VV sa cc K tgt lv st σ post bc bs) (kf : ¬ y ≤ x → VV sa cc K pc2 lv st σ post bc bs) : VV sa cc K pc lv (.int y :: .int x :: st) σ post bc bs := by
  intro p l e R s m args below meth c z sv D cy X H locs cells slots ls hR hS hl h1 h2
  obtain ⟨hd, rfl⟩ := hd
  exact lv_icmp_ge X.1 X.2.1 hd ht (fun q => kt q p l e R s m args below meth c z sv D cy X H locs cells slots ls hR hS hl h1 h2) (fun q => kf q p l e R s m args below meth c z sv D cy X H locs cells slots ls hR hS hl h1 h2)
theorem v_if_gt {x : Int32} {off : Int} {tgt : Nat} (hd : dcd cc pc (.ifCond .gt off) 3 pc2) (ht : (pc : Int) + off = (tgt : Int)) (kt : 0 < x → VV sa cc K tgt lv st σ post bc bs) (kf : ¬ 0 < x → VV sa cc K pc2 lv st σ post bc bs) : VV sa cc K pc lv (.int x :: st) σ post bc bs := by
  intro p l e R s m args below meth c z sv D cy X H locs cells slots ls hR hS hl h1 h2
  obtain ⟨hd, rfl⟩ := hd
  exact lv_if_gt X.1 X.2.1 hd ht (fun q => kt q p l e R s m args below meth c z sv D cy X H locs cells slots ls hR hS hl h1 h2) (fun q => kf q p l e R s m args below meth c z sv D cy X H locs cells slots ls hR hS hl h1 h2)
theorem v_icmp_gt {x y : Int32} {off : Int} {tgt : Nat} (hd : dcd cc pc (.if_icmp .gt off) 3 pc2) (ht : (pc : Int) + off = (tgt : Int)) (kt : y < x → VV sa cc K tgt lv st σ post bc bs) (kf : ¬ y < x → VV sa cc K pc2 lv st σ post bc bs) : VV sa cc K pc lv (.int y :: .int x :: st) σ post bc bs := by
  intro p l e R s m args below meth c z sv D cy X H locs cells slots ls hR hS hl h1 h2
  obtain ⟨hd, rfl⟩ := hd
  exact lv_icmp_gt X.1 X.2.1 hd ht (fun q => kt q p l e R s m args below meth c z sv D cy X H locs cells slots ls hR hS hl h1 h2) (fun q => kf q p l e R s m args below meth c z sv D cy X H locs cells slots ls hR hS hl h1 h2)
theorem v_if_le {x : Int32} {off : Int} {tgt : Nat} (hd : dcd cc pc (.ifCond .le off) 3 pc2) (ht : (pc : Int) + off = (tgt : Int)) (kt : x ≤ 0 → VV sa cc K tgt lv st σ post bc bs) (kf : ¬ x ≤ 0 → VV sa cc K pc2 lv st σ post bc bs) : VV sa cc K pc lv (.int x :: st) σ post bc bs := by
  intro p l e R s m args below meth c z sv D cy X H locs cells slots ls hR hS hl h1 h2
  obtain ⟨hd, rfl⟩ := hd
  exact lv_if_le X.1 X.2.1 hd ht (fun q => kt q p l e R s m args below meth c z sv D cy X H locs cells slots ls hR hS hl h1 h2) (fun q => kf q p l e R s m args below meth c z sv D cy X H locs cells slots ls hR hS hl h1 h2)
theorem v_icmp_le {x y : Int32} {off : Int} {tgt : Nat} (hd : dcd cc pc (.if_icmp .le off) 3 pc2) (ht : (pc : Int) + off = (tgt : Int)) (kt : x ≤ y → VV sa cc K tgt lv st σ post bc bs) (kf : ¬ x ≤ y → VV sa cc K pc2 lv st σ post bc bs) : VV sa cc K pc lv (.int y :: .int x :: st) σ post bc bs := by
  intro p l e R s m args below meth c z sv D cy X H locs cells slots ls hR hS hl h1 h2
  obtain ⟨hd, rfl⟩ := hd
  exact lv_icmp_le X.1 X.2.1 hd ht (fun q => kt q p l e R s m args below meth c z sv D cy X H locs cells slots ls hR hS hl h1 h2) (fun q => kf q p l e R s m args below meth c z sv D cy X H locs cells slots ls hR hS hl h1 h2)
theorem v_goto {off : Int} {tgt : Nat} (hd : dcd cc pc (.goto off) 3 pc2) (ht : (pc : Int) + off = (tgt : Int)) (k : VV sa cc K tgt lv st σ post bc bs) : VV sa cc K pc lv st σ post bc bs := by
  intro p l e R s m args below meth c z sv D cy X H locs cells slots ls hR hS hl h1 h2
  exact lv_goto X.1 X.2.1 hd.1 ht (k p l e R s m args below meth c z sv D cy X H locs cells slots ls hR hS hl h1 h2)
theorem v_ifnullR {a : Nat} {off : Int} (hd : dcd cc pc (.ifnull off) 3 pc2) (k : VV sa cc K pc2 lv st σ post bc bs) : VV sa cc K pc lv (.ref a :: st) σ post bc bs := by
  intro p l e R s m args below meth c z sv D cy X H locs cells slots ls hR hS hl h1 h2
  obtain ⟨hd, rfl⟩ := hd
  exact lv_ifnull X.1 X.2.1 hd (k p l e R s m args below meth c z sv D cy X H locs cells slots ls hR hS hl h1 h2)
theorem v_ifnullN {off : Int} {tgt : Nat} (hd : dcd cc pc (.ifnull off) 3 pc2) (ht : (pc : Int) + off = (tgt : Int)) (k : VV sa cc K tgt lv st σ post bc bs) : VV sa cc K pc lv (.null :: st) σ post bc bs := by
  intro p l e R s m args below meth c z sv D cy X H locs cells slots ls hR hS hl h1 h2
  exact lv_ifnullN X.1 X.2.1 hd.1 ht (k p l e R s m args below meth c z sv D cy X H locs cells slots ls hR hS hl h1 h2)
theorem v_ifnonnullR {a : Nat} {off : Int} {tgt : Nat} (hd : dcd cc pc (.ifnonnull off) 3 pc2) (ht : (pc : Int) + off = (tgt : Int)) (k : VV sa cc K tgt lv st σ post bc bs) : VV sa cc K pc lv (.ref a :: st) σ post bc bs := by
  intro p l e R s m args below meth c z sv D cy X H locs cells slots ls hR hS hl h1 h2
  exact lv_ifnonnull X.1 X.2.1 hd.1 ht (k p l e R s m args below meth c z sv D cy X H locs cells slots ls hR hS hl h1 h2)
theorem v_ifnonnullN {off : Int} (hd : dcd cc pc (.ifnonnull off) 3 pc2) (k : VV sa cc K pc2 lv st σ post bc bs) : VV sa cc K pc lv (.null :: st) σ post bc bs := by
  intro p l e R s m args below meth c z sv D cy X H locs cells slots ls hR hS hl h1 h2
  obtain ⟨hd, rfl⟩ := hd
  exact lv_ifnonnullN X.1 X.2.1 hd (k p l e R s m args below meth c z sv D cy X H locs cells slots ls hR hS hl h1 h2)
theorem v_tblIn {dflt lo hi : Int} {offs : Array Int} {len : Nat} {x : Int32} {off : Int} {tgt : Nat} (hd : dcd cc pc (.tableswitch dflt lo hi offs) len pc2) (g1 : ¬ x.toInt < lo) (g2 : ¬ hi < x.toInt) (ho : offs[(x.toInt - lo).toNat]? = some off) (ht : (pc : Int) + off = (tgt : Int)) (k : VV sa cc K tgt lv st σ post bc bs) : VV sa cc K pc lv (.int x :: st) σ post bc bs := by
  intro p l e R s m args below meth c z sv D cy X H locs cells slots ls hR hS hl h1 h2
  exact lv_tableIn X.1 X.2.1 hd.1 g1 g2 ho ht (k p l e R s m args below meth c z sv D cy X H locs cells slots ls hR hS hl h1 h2)
theorem v_tblOut {dflt lo hi : Int} {offs : Array Int} {len : Nat} {x : Int32} {tgt : Nat} (hd : dcd cc pc (.tableswitch dflt lo hi offs) len pc2) (g : x.toInt < lo ∨ hi < x.toInt) (ht : (pc : Int) + dflt = (tgt : Int)) (k : VV sa cc K tgt lv st σ post bc bs) : VV sa cc K pc lv (.int x :: st) σ post bc bs := by
  intro p l e R s m args below meth c z sv D cy X H locs cells slots ls hR hS hl h1 h2
  exact lv_tableOut X.1 X.2.1 hd.1 g ht (k p l e R s m args below meth c z sv D cy X H locs cells slots ls hR hS hl h1 h2)
theorem v_lookup {dflt : Int} {ps : Array (Int × Int)} {len : Nat} {x : Int32} {off : Int} {tgt : Nat} (hd : dcd cc pc (.lookupswitch dflt ps) len pc2) (hp : (ps.toList.zip (ps.toList.drop 1)).all (fun (a, next) => a.1 < next.1) = true) (ho : Op.lookupswitch.offset ps.toList dflt x.toInt = off) (ht : (pc : Int) + off = (tgt : Int)) (k : VV sa cc K tgt lv st σ post bc bs) : VV sa cc K pc lv (.int x :: st) σ post bc bs := by
  intro p l e R s m args below meth c z sv D cy X H locs cells slots ls hR hS hl h1 h2
  exact lv_lookup X.1 X.2.1 hd.1 hp ho ht (k p l e R s m args below meth c z sv D cy X H locs cells slots ls hR hS hl h1 h2)
theorem v_sub {lv2 : List (Nat × Value)} (ks : List Nat) (hq : lv_pick lv ks = lv2) (k : VV sa cc K pc lv2 st σ post bc bs) : VV sa cc K pc lv st σ post bc bs := by
  intro p l e R s m args below meth c z sv D cy X H locs cells slots ls hR hS hl h1 h2
  exact k p l e R s m args below meth c z sv D cy X H locs cells slots ls hR hS (lv_sub hl ks hq) h1 h2
theorem v_bud {bc2 bs2 : Nat} (g1 : bc2 ≤ bc) (g2 : bs2 ≤ bs) (k : VV sa cc K pc lv st σ post bc2 bs2) : VV sa cc K pc lv st σ post bc bs := by
  intro p l e R s m args below meth c z sv D cy X H locs cells slots ls hR hS hl h1 h2
  exact k p l e R s m args below meth c z sv D cy X H locs cells slots ls hR hS hl (by omega) (by omega)
theorem Cx.locks {z : Nat} {sv : Nat → Nat} {D : va_G} {cy : Nat → ClassId} {p : Program} {s : State} {m : MethodId} {args : Array Value} {meth : Method} {c : Code} {R : Room} (X : Cx z sa sv D cy cc K p s m args meth c R) : meth.locks = false := X.2.2.2.2.2.2.1
theorem v_fin {z : Nat} {D : va_G} {cy : Nat → ClassId} {s t : State} {H : Heap} {locs : List Loc} {v : Option Value} {args : Array Value} (hR : Rel z D cy σ H) (hS : va_S (fun q => z ≤ q) s.heap H locs) (hp : post v σ) (ht : t.heap = H) : QQ z D cy post args s (.returned v) t := ⟨v, σ, rfl, hp, by rw [ht]; exact hR, hS.F ht⟩
theorem v_sld {i : Int32} (hd : dcd cc pc .iaload 1 pc2) (hi : ixo i sa.2.1 = true) (k : VV sa cc K pc2 lv (.int (sa.2.2 i.toNatClampNeg) :: st) σ post bc bs) : VV sa cc K pc lv (.int i :: .ref (sa.1 1000) :: st) σ post bc bs := by
  intro p l e R s m args below meth c z sv D cy X H locs cells slots ls hR hS hl h1 h2
  obtain ⟨hd, rfl⟩ := hd
  have q := X.2.2.2.2.2.2.2.2.2.2.1.2.2.2.2.2.2.2.2
  have hz := X.2.2.2.2.2.2.2.2.2.2.2
  have hv : vp_in i sa.2.1 := by
    simp only [ixo, Bool.and_eq_true, decide_eq_true_eq] at hi
    intro w
    rcases w with w | w
    · exact Int32.not_lt.mpr hi.1 w
    · exact Nat.not_le.mpr hi.2 w
  exact va_sld X.1 X.2.1 q.1 (by omega) (by omega) hS hv hd (k p l e R s m args below meth c z sv D cy X H locs cells slots ls hR hS hl h1 h2)
theorem v_slen0 (hd : dcd cc pc .arraylength 1 pc2) (k : VV sa cc K pc2 lv (.int (Int32.ofNat sa.2.1) :: st) σ post bc bs) : VV sa cc K pc lv (.ref (sa.1 1000) :: st) σ post bc bs := by
  intro p l e R s m args below meth c z sv D cy X H locs cells slots ls hR hS hl h1 h2
  obtain ⟨hd, rfl⟩ := hd
  have q := X.2.2.2.2.2.2.2.2.2.2.1.2.2.2.2.2.2.2.2
  have hz := X.2.2.2.2.2.2.2.2.2.2.2
  exact va_slen X.1 X.2.1 q.1 (by omega) (by omega) hS hd (k p l e R s m args below meth c z sv D cy X H locs cells slots ls hR hS hl h1 h2)
theorem v_iret {x : Int32} (hd : dcd cc pc (.ireturn) 1 pc2) (hr : kR K = some .int)  (hp : post (some (.int x)) σ) : VV sa cc K pc lv [.int x] σ post bc bs := by
  intro p l e R s m args below meth c z sv D cy X H locs cells slots ls hR hS hl h1 h2
  have hlocks := X.locks
  refine W.widen (k := kC K) (n := kS K) (by omega) (by omega) ?_
  exact W.iret X.1 X.2.1 (X.2.2.2.2.2.1.trans hr) (fun t ht _ => v_fin hR hS hp ht) hS.2.2 hd.1
theorem v_zret {x : Int32} {ty : FieldType} (hd : dcd cc pc (.ireturn) 1 pc2) (hr : kR K = some ty) (hn : narrow ty (.int x) = .int x) (hp : post (some (.int x)) σ) : VV sa cc K pc lv [.int x] σ post bc bs := by
  intro p l e R s m args below meth c z sv D cy X H locs cells slots ls hR hS hl h1 h2
  have hlocks := X.locks
  refine W.widen (k := kC K) (n := kS K) (by omega) (by omega) ?_
  exact W.zret X.1 X.2.1 (X.2.2.2.2.2.1.trans hr) hn (fun t ht _ => v_fin hR hS hp ht) hS.2.2 hd.1
theorem v_lret {x : Int64} (hd : dcd cc pc (.lreturn) 1 pc2) (hr : kR K = some .long)  (hp : post (some (.long x)) σ) : VV sa cc K pc lv [.long x] σ post bc bs := by
  intro p l e R s m args below meth c z sv D cy X H locs cells slots ls hR hS hl h1 h2
  have hlocks := X.locks
  refine W.widen (k := kC K) (n := kS K) (by omega) (by omega) ?_
  exact W.lret X.1 X.2.1 (X.2.2.2.2.2.1.trans hr) (fun t ht _ => v_fin hR hS hp ht) hS.2.2 hd.1
theorem v_vret  (hd : dcd cc pc (.return_) 1 pc2) (hr : kR K = none)  (hp : post none σ) : VV sa cc K pc lv [] σ post bc bs := by
  intro p l e R s m args below meth c z sv D cy X H locs cells slots ls hR hS hl h1 h2
  have hlocks := X.locks
  refine W.widen (k := kC K) (n := kS K) (by omega) (by omega) ?_
  exact W.vret X.1 X.2.1 (X.2.2.2.2.2.1.trans hr) (fun t ht _ => v_fin hR hS hp ht) hS.2.2 hd.1
end VRules
