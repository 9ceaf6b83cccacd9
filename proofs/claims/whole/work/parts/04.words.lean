-- words
def GW : List Cond := lw_tbl.filter goodWord
theorem gw_t (k : Nat) {w : Cond} (h : tables_1[k]? = some w) (g : goodWord w = true) : w ∈ GW := List.mem_filter.mpr ⟨List.mem_append_right _ (List.mem_of_getElem? h), g⟩
theorem gw_s (k : Nat) {q : MethodName × Nat} (h : lw_privs[k]? = some q) : Cond.selects q.1.cls q.1 q.1 ∈ GW := List.mem_filter.mpr ⟨List.mem_append_left _ (List.mem_map.mpr ⟨q, List.mem_of_getElem? h, rfl⟩), rfl⟩
theorem gw_good : ∀ w ∈ GW, (w.onTables && w.keeps) = true ∨ ∃ ty, w = .arrayClass ty := fun _ h => good_of_word (List.mem_filter.mp h).2
def isNest : Cond → Bool
  | .fieldLinkNest _ _ _ _ _ _ => true
  | .methodLinkNest _ _ _ _ => true
  | _ => false
def NW : List Cond := tables_1.filter isNest
theorem nw_t (k : Nat) {w : Cond} (h : tables_1[k]? = some w) (g : isNest w = true) : w ∈ NW := List.mem_filter.mpr ⟨List.mem_of_getElem? h, g⟩
theorem nw_warm {s U : State} (hW : s.WarmedH U.vm) (h : ∀ w ∈ NW, w.before #[] s = true) : ∀ w ∈ NW, w.before #[] U = true := by
  intro w hw
  have h1 := h w hw
  have h2 := (List.mem_filter.mp hw).2
  cases w with
  | fieldLinkNest a i b n d hst => exact va_Nw.warmF hW h1
  | methodLinkNest a i x hst => exact va_Nw.warmM hW h1
  | _ => cases h2
theorem nw_use {w : Cond} (h : isNest w = true) {A : Array Value} {U : State} (hz : w.before #[] U = true) : w.before A U = true := by
  cases w with
  | fieldLinkNest a i b n d hst => exact va_Nw.use rfl hz
  | methodLinkNest a i x hst => exact va_Nw.use rfl hz
  | _ => cases h
theorem tb_1 {w : Cond} (h : w ∈ tables_1_1) : w ∈ tables_1 := List.mem_append_left _ h
theorem tb_2 {w : Cond} (h : w ∈ tables_1_2) : w ∈ tables_1 := List.mem_append_right _ (List.mem_append_left _ h)
theorem tb_3 {w : Cond} (h : w ∈ tables_1_3) : w ∈ tables_1 := List.mem_append_right _ (List.mem_append_right _ (List.mem_append_left _ h))
theorem tb_4 {w : Cond} (h : w ∈ tables_1_4) : w ∈ tables_1 := List.mem_append_right _ (List.mem_append_right _ (List.mem_append_right _ (List.mem_append_left _ h)))
theorem tb_5 {w : Cond} (h : w ∈ tables_1_5) : w ∈ tables_1 := List.mem_append_right _ (List.mem_append_right _ (List.mem_append_right _ (List.mem_append_right _ (List.mem_append_left _ h))))
theorem tb_6 {w : Cond} (h : w ∈ tables_1_6) : w ∈ tables_1 := List.mem_append_right _ (List.mem_append_right _ (List.mem_append_right _ (List.mem_append_right _ (List.mem_append_right _ (List.mem_append_left _ h)))))
theorem tb_7 {w : Cond} (h : w ∈ tables_1_7) : w ∈ tables_1 := List.mem_append_right _ (List.mem_append_right _ (List.mem_append_right _ (List.mem_append_right _ (List.mem_append_right _ (List.mem_append_right _ (List.mem_append_left _ h))))))
theorem tb_8 {w : Cond} (h : w ∈ tables_1_8) : w ∈ tables_1 := List.mem_append_right _ (List.mem_append_right _ (List.mem_append_right _ (List.mem_append_right _ (List.mem_append_right _ (List.mem_append_right _ (List.mem_append_right _ (List.mem_append_left _ h)))))))
theorem tb_9 {w : Cond} (h : w ∈ tables_1_9) : w ∈ tables_1 := List.mem_append_right _ (List.mem_append_right _ (List.mem_append_right _ (List.mem_append_right _ (List.mem_append_right _ (List.mem_append_right _ (List.mem_append_right _ (List.mem_append_right _ h)))))))
theorem gw_m {w : Cond} (h : w ∈ tables_1) (g : goodWord w = true) : w ∈ GW := List.mem_filter.mpr ⟨List.mem_append_right _ h, g⟩
theorem nw_m {w : Cond} (h : w ∈ tables_1) (g : isNest w = true) : w ∈ NW := List.mem_filter.mpr ⟨h, g⟩
theorem gw_pv {q : MethodName × Nat} (h : q ∈ lw_privs) : Cond.selects q.1.cls q.1 q.1 ∈ GW := List.mem_filter.mpr ⟨List.mem_append_left _ (List.mem_map.mpr ⟨q, h, rfl⟩), rfl⟩
set_option maxRecDepth 100000 in
theorem tw_0 : Cond.initialized "RenamedCellsLaw" ∈ GW := gw_m (tb_1 (List.mem_of_getElem? (i := 0) rfl)) rfl
set_option maxRecDepth 100000 in
theorem tw_1 : Cond.initialized "RenamedCells" ∈ GW := gw_m (tb_1 (List.mem_of_getElem? (i := 1) rfl)) rfl
set_option maxRecDepth 100000 in
theorem tw_2 : Cond.initialized "RenamedCells$Program" ∈ GW := gw_m (tb_1 (List.mem_of_getElem? (i := 2) rfl)) rfl
set_option maxRecDepth 100000 in
theorem tw_3 : Cond.initialized "RenamedCells$Reader" ∈ GW := gw_m (tb_1 (List.mem_of_getElem? (i := 3) rfl)) rfl
set_option maxRecDepth 100000 in
theorem tw_4 : Cond.initialized "RenamedCells$Tokens" ∈ GW := gw_m (tb_1 (List.mem_of_getElem? (i := 4) rfl)) rfl
set_option maxRecDepth 100000 in
theorem tw_5 : Cond.initialized "RenamedCells$Machine" ∈ GW := gw_m (tb_1 (List.mem_of_getElem? (i := 5) rfl)) rfl
set_option maxRecDepth 100000 in
theorem tw_6 : Cond.initialized "RenamedCells$History" ∈ GW := gw_m (tb_1 (List.mem_of_getElem? (i := 6) rfl)) rfl
set_option maxRecDepth 100000 in
theorem tw_7 : Cond.initialized "RenamedCells$Plain" ∈ GW := gw_m (tb_1 (List.mem_of_getElem? (i := 7) rfl)) rfl
set_option maxRecDepth 100000 in
theorem tw_8 : Cond.initialized "RenamedCells$Cycles" ∈ GW := gw_m (tb_1 (List.mem_of_getElem? (i := 8) rfl)) rfl
set_option maxRecDepth 100000 in
theorem tw_9 : Cond.initialized "RenamedCells$Fits" ∈ GW := gw_m (tb_1 (List.mem_of_getElem? (i := 9) rfl)) rfl
set_option maxRecDepth 100000 in
theorem tw_10 : Cond.initialized "RenamedCellsModel" ∈ GW := gw_m (tb_1 (List.mem_of_getElem? (i := 10) rfl)) rfl
set_option maxRecDepth 100000 in
theorem tw_11 : Cond.initialized "java/lang/Math" ∈ GW := gw_m (tb_1 (List.mem_of_getElem? (i := 11) rfl)) rfl
set_option maxRecDepth 100000 in
theorem tw_12 : Cond.initialized "java/lang/String" ∈ GW := gw_m (tb_1 (List.mem_of_getElem? (i := 12) rfl)) rfl
set_option maxRecDepth 100000 in
theorem tw_13 : Cond.initialized "java/lang/StringLatin1" ∈ GW := gw_m (tb_1 (List.mem_of_getElem? (i := 13) rfl)) rfl
set_option maxRecDepth 100000 in
theorem tw_14 : Cond.initialized "jdk/internal/util/Preconditions" ∈ GW := gw_m (tb_1 (List.mem_of_getElem? (i := 14) rfl)) rfl
set_option maxRecDepth 100000 in
theorem tw_15 : Cond.initialized "java/lang/StringUTF16" ∈ GW := gw_m (tb_1 (List.mem_of_getElem? (i := 15) rfl)) rfl
set_option maxRecDepth 100000 in
theorem tw_16 : Cond.initialized "java/util/Arrays" ∈ GW := gw_m (tb_1 (List.mem_of_getElem? (i := 16) rfl)) rfl
set_option maxRecDepth 100000 in
theorem tw_17 : Cond.initialized "RenamedCellsModel$Core" ∈ GW := gw_m (tb_1 (List.mem_of_getElem? (i := 17) rfl)) rfl
set_option maxRecDepth 100000 in
theorem tw_18 : Cond.initialized "java/lang/Integer" ∈ GW := gw_m (tb_1 (List.mem_of_getElem? (i := 18) rfl)) rfl
set_option maxRecDepth 100000 in
theorem tw_19 : Cond.initialized "java/lang/System" ∈ GW := gw_m (tb_1 (List.mem_of_getElem? (i := 19) rfl)) rfl
set_option maxRecDepth 100000 in
theorem tw_20 : Cond.initialized "java/lang/Throwable" ∈ GW := gw_m (tb_1 (List.mem_of_getElem? (i := 20) rfl)) rfl
set_option maxRecDepth 100000 in
theorem tw_21 : Cond.initialized "java/lang/Exception" ∈ GW := gw_m (tb_1 (List.mem_of_getElem? (i := 21) rfl)) rfl
set_option maxRecDepth 100000 in
theorem tw_22 : Cond.initialized "java/lang/RuntimeException" ∈ GW := gw_m (tb_1 (List.mem_of_getElem? (i := 22) rfl)) rfl
set_option maxRecDepth 100000 in
theorem tw_23 : Cond.initialized "java/util/NoSuchElementException" ∈ GW := gw_m (tb_1 (List.mem_of_getElem? (i := 23) rfl)) rfl
set_option maxRecDepth 100000 in
theorem tw_24 : Cond.classLink "RenamedCellsLaw" (8 : Nat) "RenamedCells" ∈ GW := gw_m (tb_1 (List.mem_of_getElem? (i := 24) rfl)) rfl
set_option maxRecDepth 100000 in
theorem tw_25 : Cond.instantiable "RenamedCells" (13 : Nat) ∈ GW := gw_m (tb_1 (List.mem_of_getElem? (i := 25) rfl)) rfl
set_option maxRecDepth 100000 in
theorem tw_26 : Cond.methodLink "RenamedCellsLaw" (15 : Nat) ({ cls := "RenamedCells", name := "<init>", desc := "()V" } : Jvm.MethodName) ∈ GW := gw_m (tb_1 (List.mem_of_getElem? (i := 26) rfl)) rfl
set_option maxRecDepth 100000 in
theorem tw_27 : Cond.instanceMethod ({ cls := "RenamedCells", name := "<init>", desc := "()V" } : Jvm.MethodName) ∈ GW := gw_m (tb_1 (List.mem_of_getElem? (i := 27) rfl)) rfl
set_option maxRecDepth 100000 in
theorem tw_28 : Cond.code ({ cls := "RenamedCells", name := "<init>", desc := "()V" } : Jvm.MethodName) prog_1_method_1_code (1 : Nat) (Option.none : Option Jvm.ClassFile.FieldType) ∈ GW := gw_m (tb_1 (List.mem_of_getElem? (i := 28) rfl)) rfl
set_option maxRecDepth 100000 in
theorem tw_29 : Cond.methodLink "RenamedCells" (1 : Nat) ({ cls := "java/lang/Object", name := "<init>", desc := "()V" } : Jvm.MethodName) ∈ GW := gw_m (tb_1 (List.mem_of_getElem? (i := 29) rfl)) rfl
set_option maxRecDepth 100000 in
theorem tw_30 : Cond.instanceMethod ({ cls := "java/lang/Object", name := "<init>", desc := "()V" } : Jvm.MethodName) ∈ GW := gw_m (tb_1 (List.mem_of_getElem? (i := 30) rfl)) rfl
set_option maxRecDepth 100000 in
theorem tw_31 : Cond.code ({ cls := "java/lang/Object", name := "<init>", desc := "()V" } : Jvm.MethodName) object_method_1_code (1 : Nat) (Option.none : Option Jvm.ClassFile.FieldType) ∈ GW := gw_m (tb_1 (List.mem_of_getElem? (i := 31) rfl)) rfl
set_option maxRecDepth 100000 in
theorem tw_32 : Cond.classLink "RenamedCells" (13 : Nat) "RenamedCells$Program" ∈ GW := gw_m (tb_1 (List.mem_of_getElem? (i := 32) rfl)) rfl
set_option maxRecDepth 100000 in
theorem tw_33 : Cond.instantiable "RenamedCells$Program" (18 : Nat) ∈ GW := gw_m (tb_1 (List.mem_of_getElem? (i := 33) rfl)) rfl
set_option maxRecDepth 100000 in
theorem nw_34 : Cond.methodLinkNest "RenamedCells" (15 : Nat) ({ cls := "RenamedCells$Program", name := "<init>", desc := "()V" } : Jvm.MethodName) "RenamedCells" ∈ NW := nw_m (tb_1 (List.mem_of_getElem? (i := 34) rfl)) rfl
set_option maxRecDepth 100000 in
theorem tw_35 : Cond.instanceMethod ({ cls := "RenamedCells$Program", name := "<init>", desc := "()V" } : Jvm.MethodName) ∈ GW := gw_m (tb_1 (List.mem_of_getElem? (i := 35) rfl)) rfl
set_option maxRecDepth 100000 in
theorem tw_36 : Cond.code ({ cls := "RenamedCells$Program", name := "<init>", desc := "()V" } : Jvm.MethodName) prog_7_method_1_code (1 : Nat) (Option.none : Option Jvm.ClassFile.FieldType) ∈ GW := gw_m (tb_1 (List.mem_of_getElem? (i := 36) rfl)) rfl
set_option maxRecDepth 100000 in
theorem tw_37 : Cond.methodLink "RenamedCells$Program" (3 : Nat) ({ cls := "java/lang/Object", name := "<init>", desc := "()V" } : Jvm.MethodName) ∈ GW := gw_m (tb_1 (List.mem_of_getElem? (i := 37) rfl)) rfl
set_option maxRecDepth 100000 in
theorem tw_38 : Cond.fieldLink "RenamedCells" (99 : Nat) "RenamedCells$Program" "cells" "I" ∈ GW := gw_m (tb_1 (List.mem_of_getElem? (i := 38) rfl)) rfl
set_option maxRecDepth 100000 in
theorem tw_39 : Cond.fieldLink "RenamedCells$Reader" (134 : Nat) "RenamedCells$Program" "cells" "I" ∈ GW := gw_m (tb_1 (List.mem_of_getElem? (i := 39) rfl)) rfl
set_option maxRecDepth 100000 in
theorem tw_40 : Cond.fieldLink "RenamedCells$Reader" (138 : Nat) "RenamedCells$Program" "window" "I" ∈ GW := gw_m (tb_1 (List.mem_of_getElem? (i := 40) rfl)) rfl
set_option maxRecDepth 100000 in
theorem tw_41 : Cond.fieldLink "RenamedCells$Machine" (125 : Nat) "RenamedCells$Program" "window" "I" ∈ GW := gw_m (tb_1 (List.mem_of_getElem? (i := 41) rfl)) rfl
set_option maxRecDepth 100000 in
theorem tw_42 : Cond.fieldLink "RenamedCells" (347 : Nat) "RenamedCells$Program" "window" "I" ∈ GW := gw_m (tb_1 (List.mem_of_getElem? (i := 42) rfl)) rfl
set_option maxRecDepth 100000 in
theorem tw_43 : Cond.fieldLink "RenamedCells$Reader" (142 : Nat) "RenamedCells$Program" "saves" "I" ∈ GW := gw_m (tb_1 (List.mem_of_getElem? (i := 43) rfl)) rfl
set_option maxRecDepth 100000 in
theorem tw_44 : Cond.fieldLink "RenamedCells$Machine" (175 : Nat) "RenamedCells$Program" "saves" "I" ∈ GW := gw_m (tb_1 (List.mem_of_getElem? (i := 44) rfl)) rfl
set_option maxRecDepth 100000 in
theorem tw_45 : Cond.fieldLink "RenamedCells" (350 : Nat) "RenamedCells$Program" "saves" "I" ∈ GW := gw_m (tb_1 (List.mem_of_getElem? (i := 45) rfl)) rfl
set_option maxRecDepth 100000 in
theorem tw_46 : Cond.fieldLink "RenamedCells$Reader" (146 : Nat) "RenamedCells$Program" "share" "I" ∈ GW := gw_m (tb_1 (List.mem_of_getElem? (i := 46) rfl)) rfl
set_option maxRecDepth 100000 in
theorem tw_47 : Cond.fieldLink "RenamedCells$Machine" (148 : Nat) "RenamedCells$Program" "share" "I" ∈ GW := gw_m (tb_1 (List.mem_of_getElem? (i := 47) rfl)) rfl
set_option maxRecDepth 100000 in
theorem tw_48 : Cond.fieldLink "RenamedCells" (353 : Nat) "RenamedCells$Program" "share" "I" ∈ GW := gw_m (tb_1 (List.mem_of_getElem? (i := 48) rfl)) rfl
set_option maxRecDepth 100000 in
theorem tw_49 : Cond.fieldLink "RenamedCells$Reader" (150 : Nat) "RenamedCells$Program" "early" "Z" ∈ GW := gw_m (tb_1 (List.mem_of_getElem? (i := 49) rfl)) rfl
set_option maxRecDepth 100000 in
theorem tw_50 : Cond.fieldLink "RenamedCells$Machine" (106 : Nat) "RenamedCells$Program" "early" "Z" ∈ GW := gw_m (tb_1 (List.mem_of_getElem? (i := 50) rfl)) rfl
set_option maxRecDepth 100000 in
theorem tw_51 : Cond.fieldLink "RenamedCells" (356 : Nat) "RenamedCells$Program" "early" "Z" ∈ GW := gw_m (tb_1 (List.mem_of_getElem? (i := 51) rfl)) rfl
set_option maxRecDepth 100000 in
theorem tw_52 : Cond.fieldLink "RenamedCells$Program" (43 : Nat) "RenamedCells$Program" "steps" "I" ∈ GW := gw_m (tb_1 (List.mem_of_getElem? (i := 52) rfl)) rfl
set_option maxRecDepth 100000 in
theorem tw_53 : Cond.fieldLink "RenamedCells$Reader" (59 : Nat) "RenamedCells$Program" "steps" "I" ∈ GW := gw_m (tb_1 (List.mem_of_getElem? (i := 53) rfl)) rfl
set_option maxRecDepth 100000 in
theorem tw_54 : Cond.fieldLink "RenamedCells" (96 : Nat) "RenamedCells$Program" "steps" "I" ∈ GW := gw_m (tb_1 (List.mem_of_getElem? (i := 54) rfl)) rfl
set_option maxRecDepth 100000 in
theorem tw_55 : Cond.fieldLink "RenamedCells$Program" (9 : Nat) "RenamedCells$Program" "kind" "[I" ∈ GW := gw_m (tb_1 (List.mem_of_getElem? (i := 55) rfl)) rfl
set_option maxRecDepth 100000 in
theorem tw_56 : Cond.fieldLink "RenamedCells$Plain" (55 : Nat) "RenamedCells$Program" "kind" "[I" ∈ GW := gw_m (tb_1 (List.mem_of_getElem? (i := 56) rfl)) rfl
set_option maxRecDepth 100000 in
theorem tw_57 : Cond.fieldLink "RenamedCells$Reader" (185 : Nat) "RenamedCells$Program" "kind" "[I" ∈ GW := gw_m (tb_1 (List.mem_of_getElem? (i := 57) rfl)) rfl
set_option maxRecDepth 100000 in
theorem tw_58 : Cond.fieldLink "RenamedCells$Machine" (128 : Nat) "RenamedCells$Program" "kind" "[I" ∈ GW := gw_m (tb_1 (List.mem_of_getElem? (i := 58) rfl)) rfl
set_option maxRecDepth 100000 in
theorem tw_59 : Cond.fieldLink "RenamedCells$Program" (15 : Nat) "RenamedCells$Program" "target" "[I" ∈ GW := gw_m (tb_1 (List.mem_of_getElem? (i := 59) rfl)) rfl
set_option maxRecDepth 100000 in
theorem tw_60 : Cond.fieldLink "RenamedCells$Plain" (72 : Nat) "RenamedCells$Program" "target" "[I" ∈ GW := gw_m (tb_1 (List.mem_of_getElem? (i := 60) rfl)) rfl
set_option maxRecDepth 100000 in
theorem tw_61 : Cond.fieldLink "RenamedCells$Machine" (91 : Nat) "RenamedCells$Program" "target" "[I" ∈ GW := gw_m (tb_1 (List.mem_of_getElem? (i := 61) rfl)) rfl
set_option maxRecDepth 100000 in
theorem tw_62 : Cond.fieldLink "RenamedCells$Reader" (173 : Nat) "RenamedCells$Program" "target" "[I" ∈ GW := gw_m (tb_1 (List.mem_of_getElem? (i := 62) rfl)) rfl
set_option maxRecDepth 100000 in
theorem tw_63 : Cond.fieldLink "RenamedCells$Program" (18 : Nat) "RenamedCells$Program" "first" "[I" ∈ GW := gw_m (tb_1 (List.mem_of_getElem? (i := 63) rfl)) rfl
set_option maxRecDepth 100000 in
theorem tw_64 : Cond.fieldLink "RenamedCells$Plain" (45 : Nat) "RenamedCells$Program" "first" "[I" ∈ GW := gw_m (tb_1 (List.mem_of_getElem? (i := 64) rfl)) rfl
set_option maxRecDepth 100000 in
theorem tw_65 : Cond.fieldLink "RenamedCells$Reader" (176 : Nat) "RenamedCells$Program" "first" "[I" ∈ GW := gw_m (tb_1 (List.mem_of_getElem? (i := 65) rfl)) rfl
set_option maxRecDepth 100000 in
theorem tw_66 : Cond.fieldLink "RenamedCells$Machine" (138 : Nat) "RenamedCells$Program" "first" "[I" ∈ GW := gw_m (tb_1 (List.mem_of_getElem? (i := 66) rfl)) rfl
set_option maxRecDepth 100000 in
theorem tw_67 : Cond.fieldLink "RenamedCells$Program" (21 : Nat) "RenamedCells$Program" "second" "[I" ∈ GW := gw_m (tb_1 (List.mem_of_getElem? (i := 67) rfl)) rfl
set_option maxRecDepth 100000 in
theorem tw_68 : Cond.fieldLink "RenamedCells$Plain" (52 : Nat) "RenamedCells$Program" "second" "[I" ∈ GW := gw_m (tb_1 (List.mem_of_getElem? (i := 68) rfl)) rfl
set_option maxRecDepth 100000 in
theorem tw_69 : Cond.fieldLink "RenamedCells$Reader" (179 : Nat) "RenamedCells$Program" "second" "[I" ∈ GW := gw_m (tb_1 (List.mem_of_getElem? (i := 69) rfl)) rfl
set_option maxRecDepth 100000 in
theorem tw_70 : Cond.fieldLink "RenamedCells$Machine" (154 : Nat) "RenamedCells$Program" "second" "[I" ∈ GW := gw_m (tb_1 (List.mem_of_getElem? (i := 70) rfl)) rfl
set_option maxRecDepth 100000 in
theorem tw_71 : Cond.fieldLink "RenamedCells$Program" (24 : Nat) "RenamedCells$Program" "number" "[I" ∈ GW := gw_m (tb_1 (List.mem_of_getElem? (i := 71) rfl)) rfl
set_option maxRecDepth 100000 in
theorem tw_72 : Cond.fieldLink "RenamedCells$Reader" (162 : Nat) "RenamedCells$Program" "number" "[I" ∈ GW := gw_m (tb_1 (List.mem_of_getElem? (i := 72) rfl)) rfl
set_option maxRecDepth 100000 in
theorem tw_73 : Cond.fieldLink "RenamedCells$Program" (27 : Nat) "RenamedCells$Program" "guessedYes" "[Z" ∈ GW := gw_m (tb_1 (List.mem_of_getElem? (i := 73) rfl)) rfl
set_option maxRecDepth 100000 in
theorem tw_74 : Cond.fieldLink "RenamedCells$Reader" (165 : Nat) "RenamedCells$Program" "guessedYes" "[Z" ∈ GW := gw_m (tb_1 (List.mem_of_getElem? (i := 74) rfl)) rfl
set_option maxRecDepth 100000 in
theorem tw_75 : Cond.fieldLink "RenamedCells$Program" (47 : Nat) "RenamedCells$Program" "unsures" "I" ∈ GW := gw_m (tb_1 (List.mem_of_getElem? (i := 75) rfl)) rfl
set_option maxRecDepth 100000 in
theorem tw_76 : Cond.fieldLink "RenamedCells$Fits" (15 : Nat) "RenamedCells$Program" "unsures" "I" ∈ GW := gw_m (tb_1 (List.mem_of_getElem? (i := 76) rfl)) rfl
set_option maxRecDepth 100000 in
theorem tw_77 : Cond.fieldLink "RenamedCells$Reader" (82 : Nat) "RenamedCells$Program" "unsures" "I" ∈ GW := gw_m (tb_1 (List.mem_of_getElem? (i := 77) rfl)) rfl
set_option maxRecDepth 100000 in
theorem tw_78 : Cond.fieldLink "RenamedCells" (359 : Nat) "RenamedCells$Program" "unsures" "I" ∈ GW := gw_m (tb_1 (List.mem_of_getElem? (i := 78) rfl)) rfl
set_option maxRecDepth 100000 in
theorem tw_79 : Cond.fieldLink "RenamedCells$Program" (31 : Nat) "RenamedCells$Program" "unsureStep" "[I" ∈ GW := gw_m (tb_1 (List.mem_of_getElem? (i := 79) rfl)) rfl
set_option maxRecDepth 100000 in
theorem tw_80 : Cond.fieldLink "RenamedCells$Reader" (197 : Nat) "RenamedCells$Program" "unsureStep" "[I" ∈ GW := gw_m (tb_1 (List.mem_of_getElem? (i := 80) rfl)) rfl
set_option maxRecDepth 100000 in
theorem tw_81 : Cond.fieldLink "RenamedCells$Program" (34 : Nat) "RenamedCells$Program" "unsureNumber" "[I" ∈ GW := gw_m (tb_1 (List.mem_of_getElem? (i := 81) rfl)) rfl
set_option maxRecDepth 100000 in
theorem tw_82 : Cond.fieldLink "RenamedCells$Reader" (200 : Nat) "RenamedCells$Program" "unsureNumber" "[I" ∈ GW := gw_m (tb_1 (List.mem_of_getElem? (i := 82) rfl)) rfl
set_option maxRecDepth 100000 in
theorem tw_83 : Cond.fieldLink "RenamedCells$Program" (50 : Nat) "RenamedCells$Program" "gots" "I" ∈ GW := gw_m (tb_1 (List.mem_of_getElem? (i := 83) rfl)) rfl
set_option maxRecDepth 100000 in
theorem tw_84 : Cond.fieldLink "RenamedCells$Plain" (78 : Nat) "RenamedCells$Program" "gots" "I" ∈ GW := gw_m (tb_1 (List.mem_of_getElem? (i := 84) rfl)) rfl
set_option maxRecDepth 100000 in
theorem tw_85 : Cond.fieldLink "RenamedCells$Reader" (88 : Nat) "RenamedCells$Program" "gots" "I" ∈ GW := gw_m (tb_1 (List.mem_of_getElem? (i := 85) rfl)) rfl
set_option maxRecDepth 100000 in
theorem tw_86 : Cond.fieldLink "RenamedCells" (362 : Nat) "RenamedCells$Program" "gots" "I" ∈ GW := gw_m (tb_1 (List.mem_of_getElem? (i := 86) rfl)) rfl
set_option maxRecDepth 100000 in
theorem tw_87 : Cond.fieldLink "RenamedCells$Program" (37 : Nat) "RenamedCells$Program" "gotRegister" "[I" ∈ GW := gw_m (tb_1 (List.mem_of_getElem? (i := 87) rfl)) rfl
set_option maxRecDepth 100000 in
theorem tw_88 : Cond.fieldLink "RenamedCells$Plain" (81 : Nat) "RenamedCells$Program" "gotRegister" "[I" ∈ GW := gw_m (tb_1 (List.mem_of_getElem? (i := 88) rfl)) rfl
set_option maxRecDepth 100000 in
theorem tw_89 : Cond.fieldLink "RenamedCells$Reader" (206 : Nat) "RenamedCells$Program" "gotRegister" "[I" ∈ GW := gw_m (tb_1 (List.mem_of_getElem? (i := 89) rfl)) rfl
set_option maxRecDepth 100000 in
theorem tw_90 : Cond.fieldLink "RenamedCells$Program" (40 : Nat) "RenamedCells$Program" "gotNumber" "[I" ∈ GW := gw_m (tb_1 (List.mem_of_getElem? (i := 90) rfl)) rfl
set_option maxRecDepth 100000 in
theorem tw_91 : Cond.fieldLink "RenamedCells$Plain" (84 : Nat) "RenamedCells$Program" "gotNumber" "[I" ∈ GW := gw_m (tb_1 (List.mem_of_getElem? (i := 91) rfl)) rfl
set_option maxRecDepth 100000 in
theorem tw_92 : Cond.fieldLink "RenamedCells$Reader" (209 : Nat) "RenamedCells$Program" "gotNumber" "[I" ∈ GW := gw_m (tb_1 (List.mem_of_getElem? (i := 92) rfl)) rfl
set_option maxRecDepth 100000 in
theorem tw_93 : Cond.lays "RenamedCells$Program" "RenamedCells$Program" "cells" "I" ∈ GW := gw_m (tb_1 (List.mem_of_getElem? (i := 93) rfl)) rfl
set_option maxRecDepth 100000 in
theorem tw_95 : Cond.lays "RenamedCells$Program" "RenamedCells$Program" "window" "I" ∈ GW := gw_m (tb_1 (List.mem_of_getElem? (i := 95) rfl)) rfl
set_option maxRecDepth 100000 in
theorem tw_97 : Cond.lays "RenamedCells$Program" "RenamedCells$Program" "saves" "I" ∈ GW := gw_m (tb_1 (List.mem_of_getElem? (i := 97) rfl)) rfl
set_option maxRecDepth 100000 in
theorem tw_99 : Cond.lays "RenamedCells$Program" "RenamedCells$Program" "share" "I" ∈ GW := gw_m (tb_1 (List.mem_of_getElem? (i := 99) rfl)) rfl
set_option maxRecDepth 100000 in
theorem tw_101 : Cond.lays "RenamedCells$Program" "RenamedCells$Program" "early" "Z" ∈ GW := gw_m (tb_1 (List.mem_of_getElem? (i := 101) rfl)) rfl
set_option maxRecDepth 100000 in
theorem tw_103 : Cond.lays "RenamedCells$Program" "RenamedCells$Program" "steps" "I" ∈ GW := gw_m (tb_1 (List.mem_of_getElem? (i := 103) rfl)) rfl
set_option maxRecDepth 100000 in
theorem tw_105 : Cond.laysFinal "RenamedCells$Program" "RenamedCells$Program" "kind" "[I" ∈ GW := gw_m (tb_1 (List.mem_of_getElem? (i := 105) rfl)) rfl
set_option maxRecDepth 100000 in
theorem tw_107 : Cond.laysFinal "RenamedCells$Program" "RenamedCells$Program" "target" "[I" ∈ GW := gw_m (tb_1 (List.mem_of_getElem? (i := 107) rfl)) rfl
set_option maxRecDepth 100000 in
theorem tw_109 : Cond.laysFinal "RenamedCells$Program" "RenamedCells$Program" "first" "[I" ∈ GW := gw_m (tb_1 (List.mem_of_getElem? (i := 109) rfl)) rfl
set_option maxRecDepth 100000 in
theorem tw_111 : Cond.laysFinal "RenamedCells$Program" "RenamedCells$Program" "second" "[I" ∈ GW := gw_m (tb_1 (List.mem_of_getElem? (i := 111) rfl)) rfl
set_option maxRecDepth 100000 in
theorem tw_113 : Cond.laysFinal "RenamedCells$Program" "RenamedCells$Program" "number" "[I" ∈ GW := gw_m (tb_1 (List.mem_of_getElem? (i := 113) rfl)) rfl
set_option maxRecDepth 100000 in
theorem tw_115 : Cond.laysFinal "RenamedCells$Program" "RenamedCells$Program" "guessedYes" "[Z" ∈ GW := gw_m (tb_1 (List.mem_of_getElem? (i := 115) rfl)) rfl
set_option maxRecDepth 100000 in
theorem tw_117 : Cond.lays "RenamedCells$Program" "RenamedCells$Program" "unsures" "I" ∈ GW := gw_m (tb_1 (List.mem_of_getElem? (i := 117) rfl)) rfl
set_option maxRecDepth 100000 in
theorem tw_119 : Cond.laysFinal "RenamedCells$Program" "RenamedCells$Program" "unsureStep" "[I" ∈ GW := gw_m (tb_1 (List.mem_of_getElem? (i := 119) rfl)) rfl
set_option maxRecDepth 100000 in
theorem tw_121 : Cond.laysFinal "RenamedCells$Program" "RenamedCells$Program" "unsureNumber" "[I" ∈ GW := gw_m (tb_1 (List.mem_of_getElem? (i := 121) rfl)) rfl
set_option maxRecDepth 100000 in
theorem tw_123 : Cond.lays "RenamedCells$Program" "RenamedCells$Program" "gots" "I" ∈ GW := gw_m (tb_1 (List.mem_of_getElem? (i := 123) rfl)) rfl
set_option maxRecDepth 100000 in
theorem tw_125 : Cond.laysFinal "RenamedCells$Program" "RenamedCells$Program" "gotRegister" "[I" ∈ GW := gw_m (tb_1 (List.mem_of_getElem? (i := 125) rfl)) rfl
set_option maxRecDepth 100000 in
theorem tw_127 : Cond.laysFinal "RenamedCells$Program" "RenamedCells$Program" "gotNumber" "[I" ∈ GW := gw_m (tb_1 (List.mem_of_getElem? (i := 127) rfl)) rfl
set_option maxRecDepth 100000 in
theorem tw_129 : Cond.superclass "RenamedCells$Program" "java/lang/Object" ∈ GW := gw_m (tb_1 (List.mem_of_getElem? (i := 129) rfl)) rfl
set_option maxRecDepth 100000 in
theorem tw_130 : Cond.arrayClass Jvm.ClassFile.FieldType.byte ∈ GW := gw_m (tb_1 (List.mem_of_getElem? (i := 130) rfl)) rfl
set_option maxRecDepth 100000 in
theorem tw_131 : Cond.arrayClass Jvm.ClassFile.FieldType.int ∈ GW := gw_m (tb_1 (List.mem_of_getElem? (i := 131) rfl)) rfl
set_option maxRecDepth 100000 in
theorem tw_132 : Cond.arrayClass Jvm.ClassFile.FieldType.boolean ∈ GW := gw_m (tb_1 (List.mem_of_getElem? (i := 132) rfl)) rfl
set_option maxRecDepth 100000 in
theorem tw_133 : Cond.classLink "RenamedCells" (23 : Nat) "RenamedCells$Reader" ∈ GW := gw_m (tb_1 (List.mem_of_getElem? (i := 133) rfl)) rfl
set_option maxRecDepth 100000 in
theorem tw_134 : Cond.instantiable "RenamedCells$Reader" (8 : Nat) ∈ GW := gw_m (tb_1 (List.mem_of_getElem? (i := 134) rfl)) rfl
set_option maxRecDepth 100000 in
theorem tw_135 : Cond.methodLink "RenamedCells" (25 : Nat) ({ cls := "RenamedCells$Reader", name := "<init>", desc := "(LRenamedCells$Program;)V" } : Jvm.MethodName) ∈ GW := gw_m (tb_1 (List.mem_of_getElem? (i := 135) rfl)) rfl
set_option maxRecDepth 100000 in
theorem tw_136 : Cond.instanceMethod ({ cls := "RenamedCells$Reader", name := "<init>", desc := "(LRenamedCells$Program;)V" } : Jvm.MethodName) ∈ GW := gw_m (tb_1 (List.mem_of_getElem? (i := 136) rfl)) rfl
set_option maxRecDepth 100000 in
theorem tw_137 : Cond.code ({ cls := "RenamedCells$Reader", name := "<init>", desc := "(LRenamedCells$Program;)V" } : Jvm.MethodName) prog_8_method_1_code (2 : Nat) (Option.none : Option Jvm.ClassFile.FieldType) ∈ GW := gw_m (tb_1 (List.mem_of_getElem? (i := 137) rfl)) rfl
set_option maxRecDepth 100000 in
theorem tw_138 : Cond.methodLink "RenamedCells$Reader" (3 : Nat) ({ cls := "java/lang/Object", name := "<init>", desc := "()V" } : Jvm.MethodName) ∈ GW := gw_m (tb_1 (List.mem_of_getElem? (i := 138) rfl)) rfl
set_option maxRecDepth 100000 in
theorem tw_139 : Cond.classLink "RenamedCells$Reader" (15 : Nat) "RenamedCells$Tokens" ∈ GW := gw_m (tb_1 (List.mem_of_getElem? (i := 139) rfl)) rfl
set_option maxRecDepth 100000 in
theorem tw_140 : Cond.instantiable "RenamedCells$Tokens" (4 : Nat) ∈ GW := gw_m (tb_1 (List.mem_of_getElem? (i := 140) rfl)) rfl
set_option maxRecDepth 100000 in
theorem nw_141 : Cond.methodLinkNest "RenamedCells$Reader" (17 : Nat) ({ cls := "RenamedCells$Tokens", name := "<init>", desc := "()V" } : Jvm.MethodName) "RenamedCells" ∈ NW := nw_m (tb_1 (List.mem_of_getElem? (i := 141) rfl)) rfl
set_option maxRecDepth 100000 in
theorem tw_142 : Cond.instanceMethod ({ cls := "RenamedCells$Tokens", name := "<init>", desc := "()V" } : Jvm.MethodName) ∈ GW := gw_m (tb_1 (List.mem_of_getElem? (i := 142) rfl)) rfl
set_option maxRecDepth 100000 in
theorem tw_143 : Cond.code ({ cls := "RenamedCells$Tokens", name := "<init>", desc := "()V" } : Jvm.MethodName) prog_9_method_1_code (1 : Nat) (Option.none : Option Jvm.ClassFile.FieldType) ∈ GW := gw_m (tb_1 (List.mem_of_getElem? (i := 143) rfl)) rfl
set_option maxRecDepth 100000 in
theorem tw_144 : Cond.methodLink "RenamedCells$Tokens" (3 : Nat) ({ cls := "java/lang/Object", name := "<init>", desc := "()V" } : Jvm.MethodName) ∈ GW := gw_m (tb_1 (List.mem_of_getElem? (i := 144) rfl)) rfl
set_option maxRecDepth 100000 in
theorem tw_145 : Cond.fieldLink "RenamedCells$Tokens" (9 : Nat) "RenamedCells$Tokens" "sort" "[I" ∈ GW := gw_m (tb_1 (List.mem_of_getElem? (i := 145) rfl)) rfl
set_option maxRecDepth 100000 in
theorem tw_146 : Cond.fieldLink "RenamedCells$Reader" (55 : Nat) "RenamedCells$Tokens" "sort" "[I" ∈ GW := gw_m (tb_1 (List.mem_of_getElem? (i := 146) rfl)) rfl
set_option maxRecDepth 100000 in
theorem tw_147 : Cond.fieldLink "RenamedCells$Tokens" (15 : Nat) "RenamedCells$Tokens" "start" "[I" ∈ GW := gw_m (tb_1 (List.mem_of_getElem? (i := 147) rfl)) rfl
set_option maxRecDepth 100000 in
theorem tw_148 : Cond.fieldLink "RenamedCells$Reader" (71 : Nat) "RenamedCells$Tokens" "start" "[I" ∈ GW := gw_m (tb_1 (List.mem_of_getElem? (i := 148) rfl)) rfl
set_option maxRecDepth 100000 in
theorem tw_149 : Cond.fieldLink "RenamedCells$Tokens" (18 : Nat) "RenamedCells$Tokens" "end" "[I" ∈ GW := gw_m (tb_1 (List.mem_of_getElem? (i := 149) rfl)) rfl
set_option maxRecDepth 100000 in
theorem tw_150 : Cond.fieldLink "RenamedCells$Reader" (215 : Nat) "RenamedCells$Tokens" "end" "[I" ∈ GW := gw_m (tb_1 (List.mem_of_getElem? (i := 150) rfl)) rfl
set_option maxRecDepth 100000 in
theorem tw_151 : Cond.fieldLink "RenamedCells$Tokens" (32 : Nat) "RenamedCells$Tokens" "last" "I" ∈ GW := gw_m (tb_1 (List.mem_of_getElem? (i := 151) rfl)) rfl
set_option maxRecDepth 100000 in
theorem tw_152 : Cond.fieldLink "RenamedCells$Reader" (68 : Nat) "RenamedCells$Tokens" "last" "I" ∈ GW := gw_m (tb_1 (List.mem_of_getElem? (i := 152) rfl)) rfl
set_option maxRecDepth 100000 in
theorem tw_153 : Cond.laysFinal "RenamedCells$Tokens" "RenamedCells$Tokens" "sort" "[I" ∈ GW := gw_m (tb_1 (List.mem_of_getElem? (i := 153) rfl)) rfl
set_option maxRecDepth 100000 in
theorem tw_155 : Cond.laysFinal "RenamedCells$Tokens" "RenamedCells$Tokens" "start" "[I" ∈ GW := gw_m (tb_1 (List.mem_of_getElem? (i := 155) rfl)) rfl
set_option maxRecDepth 100000 in
theorem tw_157 : Cond.laysFinal "RenamedCells$Tokens" "RenamedCells$Tokens" "end" "[I" ∈ GW := gw_m (tb_1 (List.mem_of_getElem? (i := 157) rfl)) rfl
set_option maxRecDepth 100000 in
theorem tw_159 : Cond.lays "RenamedCells$Tokens" "RenamedCells$Tokens" "last" "I" ∈ GW := gw_m (tb_1 (List.mem_of_getElem? (i := 159) rfl)) rfl
set_option maxRecDepth 100000 in
theorem tw_161 : Cond.superclass "RenamedCells$Tokens" "java/lang/Object" ∈ GW := gw_m (tb_1 (List.mem_of_getElem? (i := 161) rfl)) rfl
set_option maxRecDepth 100000 in
theorem tw_162 : Cond.fieldLink "RenamedCells$Reader" (40 : Nat) "RenamedCells$Reader" "found" "I" ∈ GW := gw_m (tb_1 (List.mem_of_getElem? (i := 162) rfl)) rfl
set_option maxRecDepth 100000 in
theorem tw_163 : Cond.fieldLink "RenamedCells" (114 : Nat) "RenamedCells$Reader" "found" "I" ∈ GW := gw_m (tb_1 (List.mem_of_getElem? (i := 163) rfl)) rfl
set_option maxRecDepth 100000 in
theorem tw_164 : Cond.fieldLink "RenamedCells$Reader" (43 : Nat) "RenamedCells$Reader" "foundAt" "I" ∈ GW := gw_m (tb_1 (List.mem_of_getElem? (i := 164) rfl)) rfl
set_option maxRecDepth 100000 in
theorem tw_165 : Cond.fieldLink "RenamedCells" (117 : Nat) "RenamedCells$Reader" "foundAt" "I" ∈ GW := gw_m (tb_1 (List.mem_of_getElem? (i := 165) rfl)) rfl
set_option maxRecDepth 100000 in
theorem tw_166 : Cond.fieldLink "RenamedCells$Reader" (9 : Nat) "RenamedCells$Reader" "bytes" "[B" ∈ GW := gw_m (tb_1 (List.mem_of_getElem? (i := 166) rfl)) rfl
set_option maxRecDepth 100000 in
theorem tw_167 : Cond.fieldLink "RenamedCells$Reader" (18 : Nat) "RenamedCells$Reader" "tokens" "LRenamedCells$Tokens;" ∈ GW := gw_m (tb_1 (List.mem_of_getElem? (i := 167) rfl)) rfl
set_option maxRecDepth 100000 in
theorem tw_168 : Cond.fieldLink "RenamedCells$Reader" (36 : Nat) "RenamedCells$Reader" "at" "I" ∈ GW := gw_m (tb_1 (List.mem_of_getElem? (i := 168) rfl)) rfl
set_option maxRecDepth 100000 in
theorem tw_169 : Cond.fieldLink "RenamedCells$Reader" (131 : Nat) "RenamedCells$Reader" "taken" "I" ∈ GW := gw_m (tb_1 (List.mem_of_getElem? (i := 169) rfl)) rfl
set_option maxRecDepth 100000 in
theorem tw_170 : Cond.fieldLink "RenamedCells$Reader" (188 : Nat) "RenamedCells$Reader" "takenAt" "I" ∈ GW := gw_m (tb_1 (List.mem_of_getElem? (i := 170) rfl)) rfl
set_option maxRecDepth 100000 in
theorem tw_171 : Cond.fieldLink "RenamedCells$Reader" (22 : Nat) "RenamedCells$Reader" "into" "LRenamedCells$Program;" ∈ GW := gw_m (tb_1 (List.mem_of_getElem? (i := 171) rfl)) rfl
set_option maxRecDepth 100000 in
theorem tw_172 : Cond.lays "RenamedCells$Reader" "RenamedCells$Reader" "found" "I" ∈ GW := gw_m (tb_1 (List.mem_of_getElem? (i := 172) rfl)) rfl
set_option maxRecDepth 100000 in
theorem tw_174 : Cond.lays "RenamedCells$Reader" "RenamedCells$Reader" "foundAt" "I" ∈ GW := gw_m (tb_1 (List.mem_of_getElem? (i := 174) rfl)) rfl
set_option maxRecDepth 100000 in
theorem tw_176 : Cond.lays "RenamedCells$Reader" "RenamedCells$Reader" "bytes" "[B" ∈ GW := gw_m (tb_1 (List.mem_of_getElem? (i := 176) rfl)) rfl
set_option maxRecDepth 100000 in
theorem tw_178 : Cond.laysFinal "RenamedCells$Reader" "RenamedCells$Reader" "tokens" "LRenamedCells$Tokens;" ∈ GW := gw_m (tb_1 (List.mem_of_getElem? (i := 178) rfl)) rfl
set_option maxRecDepth 100000 in
theorem tw_180 : Cond.lays "RenamedCells$Reader" "RenamedCells$Reader" "at" "I" ∈ GW := gw_m (tb_1 (List.mem_of_getElem? (i := 180) rfl)) rfl
set_option maxRecDepth 100000 in
theorem tw_182 : Cond.lays "RenamedCells$Reader" "RenamedCells$Reader" "taken" "I" ∈ GW := gw_m (tb_1 (List.mem_of_getElem? (i := 182) rfl)) rfl
set_option maxRecDepth 100000 in
theorem tw_184 : Cond.lays "RenamedCells$Reader" "RenamedCells$Reader" "takenAt" "I" ∈ GW := gw_m (tb_1 (List.mem_of_getElem? (i := 184) rfl)) rfl
set_option maxRecDepth 100000 in
theorem tw_186 : Cond.lays "RenamedCells$Reader" "RenamedCells$Reader" "into" "LRenamedCells$Program;" ∈ GW := gw_m (tb_1 (List.mem_of_getElem? (i := 186) rfl)) rfl
set_option maxRecDepth 100000 in
theorem tw_188 : Cond.superclass "RenamedCells$Reader" "java/lang/Object" ∈ GW := gw_m (tb_1 (List.mem_of_getElem? (i := 188) rfl)) rfl
set_option maxRecDepth 100000 in
theorem tw_189 : Cond.classLink "RenamedCells" (32 : Nat) "RenamedCells$Machine" ∈ GW := gw_m (tb_1 (List.mem_of_getElem? (i := 189) rfl)) rfl
set_option maxRecDepth 100000 in
theorem tw_190 : Cond.instantiable "RenamedCells$Machine" (20 : Nat) ∈ GW := gw_m (tb_1 (List.mem_of_getElem? (i := 190) rfl)) rfl
set_option maxRecDepth 100000 in
theorem tw_191 : Cond.methodLink "RenamedCells" (34 : Nat) ({ cls := "RenamedCells$Machine", name := "<init>", desc := "(LRenamedCells$Program;)V" } : Jvm.MethodName) ∈ GW := gw_m (tb_1 (List.mem_of_getElem? (i := 191) rfl)) rfl
set_option maxRecDepth 100000 in
theorem tw_192 : Cond.instanceMethod ({ cls := "RenamedCells$Machine", name := "<init>", desc := "(LRenamedCells$Program;)V" } : Jvm.MethodName) ∈ GW := gw_m (tb_1 (List.mem_of_getElem? (i := 192) rfl)) rfl
set_option maxRecDepth 100000 in
theorem tw_193 : Cond.code ({ cls := "RenamedCells$Machine", name := "<init>", desc := "(LRenamedCells$Program;)V" } : Jvm.MethodName) prog_5_method_1_code (2 : Nat) (Option.none : Option Jvm.ClassFile.FieldType) ∈ GW := gw_m (tb_1 (List.mem_of_getElem? (i := 193) rfl)) rfl
set_option maxRecDepth 100000 in
theorem tw_194 : Cond.methodLink "RenamedCells$Machine" (3 : Nat) ({ cls := "java/lang/Object", name := "<init>", desc := "()V" } : Jvm.MethodName) ∈ GW := gw_m (tb_1 (List.mem_of_getElem? (i := 194) rfl)) rfl
set_option maxRecDepth 100000 in
theorem tw_195 : Cond.fieldLink "RenamedCells$Machine" (30 : Nat) "RenamedCells$Machine" "program" "LRenamedCells$Program;" ∈ GW := gw_m (tb_1 (List.mem_of_getElem? (i := 195) rfl)) rfl
set_option maxRecDepth 100000 in
theorem tw_196 : Cond.fieldLink "RenamedCells$Machine" (34 : Nat) "RenamedCells$Machine" "cells" "I" ∈ GW := gw_m (tb_1 (List.mem_of_getElem? (i := 196) rfl)) rfl
set_option maxRecDepth 100000 in
theorem tw_197 : Cond.fieldLink "RenamedCells$Machine" (9 : Nat) "RenamedCells$Machine" "cellValue" "[I" ∈ GW := gw_m (tb_1 (List.mem_of_getElem? (i := 197) rfl)) rfl
set_option maxRecDepth 100000 in
theorem tw_198 : Cond.fieldLink "RenamedCells" (171 : Nat) "RenamedCells$Machine" "cellValue" "[I" ∈ GW := gw_m (tb_1 (List.mem_of_getElem? (i := 198) rfl)) rfl
set_option maxRecDepth 100000 in
theorem tw_199 : Cond.fieldLink "RenamedCells$Machine" (44 : Nat) "RenamedCells$Machine" "readyBits" "I" ∈ GW := gw_m (tb_1 (List.mem_of_getElem? (i := 199) rfl)) rfl
set_option maxRecDepth 100000 in
theorem tw_200 : Cond.fieldLink "RenamedCells" (183 : Nat) "RenamedCells$Machine" "readyBits" "I" ∈ GW := gw_m (tb_1 (List.mem_of_getElem? (i := 200) rfl)) rfl
set_option maxRecDepth 100000 in
theorem tw_201 : Cond.fieldLink "RenamedCells$Machine" (15 : Nat) "RenamedCells$Machine" "keptCell" "[I" ∈ GW := gw_m (tb_1 (List.mem_of_getElem? (i := 201) rfl)) rfl
set_option maxRecDepth 100000 in
theorem tw_202 : Cond.fieldLink "RenamedCells" (155 : Nat) "RenamedCells$Machine" "keptCell" "[I" ∈ GW := gw_m (tb_1 (List.mem_of_getElem? (i := 202) rfl)) rfl
set_option maxRecDepth 100000 in
theorem tw_203 : Cond.fieldLink "RenamedCells$Machine" (47 : Nat) "RenamedCells$Machine" "takenBits" "I" ∈ GW := gw_m (tb_1 (List.mem_of_getElem? (i := 203) rfl)) rfl
set_option maxRecDepth 100000 in
theorem tw_204 : Cond.fieldLink "RenamedCells$Machine" (73 : Nat) "RenamedCells$Machine" "count" "I" ∈ GW := gw_m (tb_1 (List.mem_of_getElem? (i := 204) rfl)) rfl
set_option maxRecDepth 100000 in
theorem tw_205 : Cond.fieldLink "RenamedCells$Cycles" (51 : Nat) "RenamedCells$Machine" "count" "I" ∈ GW := gw_m (tb_1 (List.mem_of_getElem? (i := 205) rfl)) rfl
set_option maxRecDepth 100000 in
theorem tw_206 : Cond.fieldLink "RenamedCells" (158 : Nat) "RenamedCells$Machine" "count" "I" ∈ GW := gw_m (tb_1 (List.mem_of_getElem? (i := 206) rfl)) rfl
set_option maxRecDepth 100000 in
theorem tw_207 : Cond.fieldLink "RenamedCells$Machine" (18 : Nat) "RenamedCells$Machine" "stepOf" "[I" ∈ GW := gw_m (tb_1 (List.mem_of_getElem? (i := 207) rfl)) rfl
set_option maxRecDepth 100000 in
theorem tw_208 : Cond.fieldLink "RenamedCells" (189 : Nat) "RenamedCells$Machine" "stepOf" "[I" ∈ GW := gw_m (tb_1 (List.mem_of_getElem? (i := 208) rfl)) rfl
set_option maxRecDepth 100000 in
theorem tw_209 : Cond.fieldLink "RenamedCells$Machine" (21 : Nat) "RenamedCells$Machine" "newCell" "[I" ∈ GW := gw_m (tb_1 (List.mem_of_getElem? (i := 209) rfl)) rfl
set_option maxRecDepth 100000 in
theorem tw_210 : Cond.fieldLink "RenamedCells" (192 : Nat) "RenamedCells$Machine" "newCell" "[I" ∈ GW := gw_m (tb_1 (List.mem_of_getElem? (i := 210) rfl)) rfl
set_option maxRecDepth 100000 in
theorem tw_211 : Cond.fieldLink "RenamedCells$Machine" (24 : Nat) "RenamedCells$Machine" "firstCell" "[I" ∈ GW := gw_m (tb_1 (List.mem_of_getElem? (i := 211) rfl)) rfl
set_option maxRecDepth 100000 in
theorem tw_212 : Cond.fieldLink "RenamedCells" (195 : Nat) "RenamedCells$Machine" "firstCell" "[I" ∈ GW := gw_m (tb_1 (List.mem_of_getElem? (i := 212) rfl)) rfl
set_option maxRecDepth 100000 in
theorem tw_213 : Cond.fieldLink "RenamedCells$Machine" (27 : Nat) "RenamedCells$Machine" "secondCell" "[I" ∈ GW := gw_m (tb_1 (List.mem_of_getElem? (i := 213) rfl)) rfl
set_option maxRecDepth 100000 in
theorem tw_214 : Cond.fieldLink "RenamedCells" (198 : Nat) "RenamedCells$Machine" "secondCell" "[I" ∈ GW := gw_m (tb_1 (List.mem_of_getElem? (i := 214) rfl)) rfl
set_option maxRecDepth 100000 in
theorem tw_215 : Cond.fieldLink "RenamedCells$Machine" (76 : Nat) "RenamedCells$Machine" "riskyBits" "I" ∈ GW := gw_m (tb_1 (List.mem_of_getElem? (i := 215) rfl)) rfl
set_option maxRecDepth 100000 in
theorem tw_216 : Cond.fieldLink "RenamedCells$Machine" (79 : Nat) "RenamedCells$Machine" "doneBits" "I" ∈ GW := gw_m (tb_1 (List.mem_of_getElem? (i := 216) rfl)) rfl
set_option maxRecDepth 100000 in
theorem tw_217 : Cond.fieldLink "RenamedCells" (201 : Nat) "RenamedCells$Machine" "doneBits" "I" ∈ GW := gw_m (tb_1 (List.mem_of_getElem? (i := 217) rfl)) rfl
set_option maxRecDepth 100000 in
theorem tw_218 : Cond.fieldLink "RenamedCells$Machine" (82 : Nat) "RenamedCells$Machine" "trappedBits" "I" ∈ GW := gw_m (tb_1 (List.mem_of_getElem? (i := 218) rfl)) rfl
set_option maxRecDepth 100000 in
theorem tw_219 : Cond.fieldLink "RenamedCells" (204 : Nat) "RenamedCells$Machine" "trappedBits" "I" ∈ GW := gw_m (tb_1 (List.mem_of_getElem? (i := 219) rfl)) rfl
set_option maxRecDepth 100000 in
theorem tw_220 : Cond.fieldLink "RenamedCells$Machine" (85 : Nat) "RenamedCells$Machine" "mergedBits" "I" ∈ GW := gw_m (tb_1 (List.mem_of_getElem? (i := 220) rfl)) rfl
set_option maxRecDepth 100000 in
theorem tw_221 : Cond.fieldLink "RenamedCells" (207 : Nat) "RenamedCells$Machine" "mergedBits" "I" ∈ GW := gw_m (tb_1 (List.mem_of_getElem? (i := 221) rfl)) rfl
set_option maxRecDepth 100000 in
theorem tw_222 : Cond.fieldLink "RenamedCells$Machine" (88 : Nat) "RenamedCells$Machine" "saveBits" "I" ∈ GW := gw_m (tb_1 (List.mem_of_getElem? (i := 222) rfl)) rfl
set_option maxRecDepth 100000 in
theorem tw_223 : Cond.fieldLink "RenamedCells" (210 : Nat) "RenamedCells$Machine" "saveBits" "I" ∈ GW := gw_m (tb_1 (List.mem_of_getElem? (i := 223) rfl)) rfl
set_option maxRecDepth 100000 in
theorem tw_224 : Cond.fieldLink "RenamedCells$Machine" (54 : Nat) "RenamedCells$Machine" "next" "I" ∈ GW := gw_m (tb_1 (List.mem_of_getElem? (i := 224) rfl)) rfl
set_option maxRecDepth 100000 in
theorem tw_225 : Cond.fieldLink "RenamedCells" (219 : Nat) "RenamedCells$Machine" "next" "I" ∈ GW := gw_m (tb_1 (List.mem_of_getElem? (i := 225) rfl)) rfl
set_option maxRecDepth 100000 in
theorem tw_226 : Cond.fieldLink "RenamedCells$Machine" (57 : Nat) "RenamedCells$Machine" "stopped" "Z" ∈ GW := gw_m (tb_1 (List.mem_of_getElem? (i := 226) rfl)) rfl
set_option maxRecDepth 100000 in
theorem tw_227 : Cond.fieldLink "RenamedCells" (312 : Nat) "RenamedCells$Machine" "stopped" "Z" ∈ GW := gw_m (tb_1 (List.mem_of_getElem? (i := 227) rfl)) rfl
set_option maxRecDepth 100000 in
theorem tw_228 : Cond.fieldLink "RenamedCells$Machine" (61 : Nat) "RenamedCells$Machine" "resumed" "Z" ∈ GW := gw_m (tb_1 (List.mem_of_getElem? (i := 228) rfl)) rfl
set_option maxRecDepth 100000 in
theorem tw_229 : Cond.fieldLink "RenamedCells" (231 : Nat) "RenamedCells$Machine" "resumed" "Z" ∈ GW := gw_m (tb_1 (List.mem_of_getElem? (i := 229) rfl)) rfl
set_option maxRecDepth 100000 in
theorem tw_230 : Cond.fieldLink "RenamedCells$Machine" (64 : Nat) "RenamedCells$Machine" "committed" "I" ∈ GW := gw_m (tb_1 (List.mem_of_getElem? (i := 230) rfl)) rfl
set_option maxRecDepth 100000 in
theorem tw_231 : Cond.fieldLink "RenamedCells$Cycles" (70 : Nat) "RenamedCells$Machine" "committed" "I" ∈ GW := gw_m (tb_1 (List.mem_of_getElem? (i := 231) rfl)) rfl
set_option maxRecDepth 100000 in
theorem tw_232 : Cond.fieldLink "RenamedCells" (234 : Nat) "RenamedCells$Machine" "committed" "I" ∈ GW := gw_m (tb_1 (List.mem_of_getElem? (i := 232) rfl)) rfl
set_option maxRecDepth 100000 in
theorem tw_233 : Cond.lays "RenamedCells$Machine" "RenamedCells$Machine" "program" "LRenamedCells$Program;" ∈ GW := gw_m (tb_1 (List.mem_of_getElem? (i := 233) rfl)) rfl
set_option maxRecDepth 100000 in
theorem tw_235 : Cond.lays "RenamedCells$Machine" "RenamedCells$Machine" "cells" "I" ∈ GW := gw_m (tb_1 (List.mem_of_getElem? (i := 235) rfl)) rfl
set_option maxRecDepth 100000 in
theorem tw_237 : Cond.laysFinal "RenamedCells$Machine" "RenamedCells$Machine" "cellValue" "[I" ∈ GW := gw_m (tb_1 (List.mem_of_getElem? (i := 237) rfl)) rfl
set_option maxRecDepth 100000 in
theorem tw_239 : Cond.lays "RenamedCells$Machine" "RenamedCells$Machine" "readyBits" "I" ∈ GW := gw_m (tb_1 (List.mem_of_getElem? (i := 239) rfl)) rfl
set_option maxRecDepth 100000 in
theorem tw_241 : Cond.laysFinal "RenamedCells$Machine" "RenamedCells$Machine" "keptCell" "[I" ∈ GW := gw_m (tb_2 (List.mem_of_getElem? (i := 1) rfl)) rfl
set_option maxRecDepth 100000 in
theorem tw_243 : Cond.lays "RenamedCells$Machine" "RenamedCells$Machine" "takenBits" "I" ∈ GW := gw_m (tb_2 (List.mem_of_getElem? (i := 3) rfl)) rfl
set_option maxRecDepth 100000 in
theorem tw_245 : Cond.lays "RenamedCells$Machine" "RenamedCells$Machine" "count" "I" ∈ GW := gw_m (tb_2 (List.mem_of_getElem? (i := 5) rfl)) rfl
set_option maxRecDepth 100000 in
theorem tw_247 : Cond.laysFinal "RenamedCells$Machine" "RenamedCells$Machine" "stepOf" "[I" ∈ GW := gw_m (tb_2 (List.mem_of_getElem? (i := 7) rfl)) rfl
set_option maxRecDepth 100000 in
theorem tw_249 : Cond.laysFinal "RenamedCells$Machine" "RenamedCells$Machine" "newCell" "[I" ∈ GW := gw_m (tb_2 (List.mem_of_getElem? (i := 9) rfl)) rfl
set_option maxRecDepth 100000 in
theorem tw_251 : Cond.laysFinal "RenamedCells$Machine" "RenamedCells$Machine" "firstCell" "[I" ∈ GW := gw_m (tb_2 (List.mem_of_getElem? (i := 11) rfl)) rfl
set_option maxRecDepth 100000 in
theorem tw_253 : Cond.laysFinal "RenamedCells$Machine" "RenamedCells$Machine" "secondCell" "[I" ∈ GW := gw_m (tb_2 (List.mem_of_getElem? (i := 13) rfl)) rfl
set_option maxRecDepth 100000 in
theorem tw_255 : Cond.lays "RenamedCells$Machine" "RenamedCells$Machine" "riskyBits" "I" ∈ GW := gw_m (tb_2 (List.mem_of_getElem? (i := 15) rfl)) rfl
set_option maxRecDepth 100000 in
theorem tw_257 : Cond.lays "RenamedCells$Machine" "RenamedCells$Machine" "doneBits" "I" ∈ GW := gw_m (tb_2 (List.mem_of_getElem? (i := 17) rfl)) rfl
set_option maxRecDepth 100000 in
theorem tw_259 : Cond.lays "RenamedCells$Machine" "RenamedCells$Machine" "trappedBits" "I" ∈ GW := gw_m (tb_2 (List.mem_of_getElem? (i := 19) rfl)) rfl
set_option maxRecDepth 100000 in
theorem tw_261 : Cond.lays "RenamedCells$Machine" "RenamedCells$Machine" "mergedBits" "I" ∈ GW := gw_m (tb_2 (List.mem_of_getElem? (i := 21) rfl)) rfl
set_option maxRecDepth 100000 in
theorem tw_263 : Cond.lays "RenamedCells$Machine" "RenamedCells$Machine" "saveBits" "I" ∈ GW := gw_m (tb_2 (List.mem_of_getElem? (i := 23) rfl)) rfl
set_option maxRecDepth 100000 in
theorem tw_265 : Cond.lays "RenamedCells$Machine" "RenamedCells$Machine" "next" "I" ∈ GW := gw_m (tb_2 (List.mem_of_getElem? (i := 25) rfl)) rfl
set_option maxRecDepth 100000 in
theorem tw_267 : Cond.lays "RenamedCells$Machine" "RenamedCells$Machine" "stopped" "Z" ∈ GW := gw_m (tb_2 (List.mem_of_getElem? (i := 27) rfl)) rfl
set_option maxRecDepth 100000 in
theorem tw_269 : Cond.lays "RenamedCells$Machine" "RenamedCells$Machine" "resumed" "Z" ∈ GW := gw_m (tb_2 (List.mem_of_getElem? (i := 29) rfl)) rfl
set_option maxRecDepth 100000 in
theorem tw_271 : Cond.lays "RenamedCells$Machine" "RenamedCells$Machine" "committed" "I" ∈ GW := gw_m (tb_2 (List.mem_of_getElem? (i := 31) rfl)) rfl
set_option maxRecDepth 100000 in
theorem tw_273 : Cond.superclass "RenamedCells$Machine" "java/lang/Object" ∈ GW := gw_m (tb_2 (List.mem_of_getElem? (i := 33) rfl)) rfl
set_option maxRecDepth 100000 in
theorem tw_274 : Cond.classLink "RenamedCells" (42 : Nat) "RenamedCells$History" ∈ GW := gw_m (tb_2 (List.mem_of_getElem? (i := 34) rfl)) rfl
set_option maxRecDepth 100000 in
theorem tw_275 : Cond.instantiable "RenamedCells$History" (5 : Nat) ∈ GW := gw_m (tb_2 (List.mem_of_getElem? (i := 35) rfl)) rfl
set_option maxRecDepth 100000 in
theorem tw_276 : Cond.methodLink "RenamedCells" (44 : Nat) ({ cls := "RenamedCells$History", name := "<init>", desc := "(LRenamedCells$Program;)V" } : Jvm.MethodName) ∈ GW := gw_m (tb_2 (List.mem_of_getElem? (i := 36) rfl)) rfl
set_option maxRecDepth 100000 in
theorem tw_277 : Cond.instanceMethod ({ cls := "RenamedCells$History", name := "<init>", desc := "(LRenamedCells$Program;)V" } : Jvm.MethodName) ∈ GW := gw_m (tb_2 (List.mem_of_getElem? (i := 37) rfl)) rfl
set_option maxRecDepth 100000 in
theorem tw_278 : Cond.code ({ cls := "RenamedCells$History", name := "<init>", desc := "(LRenamedCells$Program;)V" } : Jvm.MethodName) prog_4_method_1_code (3 : Nat) (Option.none : Option Jvm.ClassFile.FieldType) ∈ GW := gw_m (tb_2 (List.mem_of_getElem? (i := 38) rfl)) rfl
set_option maxRecDepth 100000 in
theorem tw_279 : Cond.methodLink "RenamedCells$History" (3 : Nat) ({ cls := "java/lang/Object", name := "<init>", desc := "()V" } : Jvm.MethodName) ∈ GW := gw_m (tb_2 (List.mem_of_getElem? (i := 39) rfl)) rfl
set_option maxRecDepth 100000 in
theorem tw_280 : Cond.classLink "RenamedCells$History" (9 : Nat) "RenamedCells$Machine" ∈ GW := gw_m (tb_2 (List.mem_of_getElem? (i := 40) rfl)) rfl
set_option maxRecDepth 100000 in
theorem tw_282 : Cond.methodLink "RenamedCells$History" (20 : Nat) ({ cls := "RenamedCells$Machine", name := "<init>", desc := "(LRenamedCells$Program;)V" } : Jvm.MethodName) ∈ GW := gw_m (tb_2 (List.mem_of_getElem? (i := 42) rfl)) rfl
set_option maxRecDepth 100000 in
theorem tw_283 : Cond.fieldLink "RenamedCells$History" (11 : Nat) "RenamedCells$History" "past" "[LRenamedCells$Machine;" ∈ GW := gw_m (tb_2 (List.mem_of_getElem? (i := 43) rfl)) rfl
set_option maxRecDepth 100000 in
theorem tw_284 : Cond.fieldLink "RenamedCells$History" (17 : Nat) "RenamedCells$History" "images" "[LRenamedCells$Machine;" ∈ GW := gw_m (tb_2 (List.mem_of_getElem? (i := 44) rfl)) rfl
set_option maxRecDepth 100000 in
theorem tw_285 : Cond.fieldLink "RenamedCells$History" (30 : Nat) "RenamedCells$History" "top" "I" ∈ GW := gw_m (tb_2 (List.mem_of_getElem? (i := 45) rfl)) rfl
set_option maxRecDepth 100000 in
theorem tw_286 : Cond.fieldLink "RenamedCells$History" (23 : Nat) "RenamedCells$History" "acts" "I" ∈ GW := gw_m (tb_2 (List.mem_of_getElem? (i := 46) rfl)) rfl
set_option maxRecDepth 100000 in
theorem tw_287 : Cond.fieldLink "RenamedCells" (318 : Nat) "RenamedCells$History" "acts" "I" ∈ GW := gw_m (tb_2 (List.mem_of_getElem? (i := 47) rfl)) rfl
set_option maxRecDepth 100000 in
theorem tw_288 : Cond.fieldLink "RenamedCells$History" (27 : Nat) "RenamedCells$History" "pictures" "I" ∈ GW := gw_m (tb_2 (List.mem_of_getElem? (i := 48) rfl)) rfl
set_option maxRecDepth 100000 in
theorem tw_289 : Cond.fieldLink "RenamedCells" (324 : Nat) "RenamedCells$History" "pictures" "I" ∈ GW := gw_m (tb_2 (List.mem_of_getElem? (i := 49) rfl)) rfl
set_option maxRecDepth 100000 in
theorem tw_290 : Cond.laysFinal "RenamedCells$History" "RenamedCells$History" "past" "[LRenamedCells$Machine;" ∈ GW := gw_m (tb_2 (List.mem_of_getElem? (i := 50) rfl)) rfl
set_option maxRecDepth 100000 in
theorem tw_292 : Cond.laysFinal "RenamedCells$History" "RenamedCells$History" "images" "[LRenamedCells$Machine;" ∈ GW := gw_m (tb_2 (List.mem_of_getElem? (i := 52) rfl)) rfl
set_option maxRecDepth 100000 in
theorem tw_294 : Cond.lays "RenamedCells$History" "RenamedCells$History" "top" "I" ∈ GW := gw_m (tb_2 (List.mem_of_getElem? (i := 54) rfl)) rfl
set_option maxRecDepth 100000 in
theorem tw_296 : Cond.lays "RenamedCells$History" "RenamedCells$History" "acts" "I" ∈ GW := gw_m (tb_2 (List.mem_of_getElem? (i := 56) rfl)) rfl
set_option maxRecDepth 100000 in
theorem tw_298 : Cond.lays "RenamedCells$History" "RenamedCells$History" "pictures" "I" ∈ GW := gw_m (tb_2 (List.mem_of_getElem? (i := 58) rfl)) rfl
set_option maxRecDepth 100000 in
theorem tw_300 : Cond.superclass "RenamedCells$History" "java/lang/Object" ∈ GW := gw_m (tb_2 (List.mem_of_getElem? (i := 60) rfl)) rfl
set_option maxRecDepth 100000 in
theorem tw_301 : Cond.classLink "RenamedCells" (49 : Nat) "RenamedCells$Plain" ∈ GW := gw_m (tb_2 (List.mem_of_getElem? (i := 61) rfl)) rfl
set_option maxRecDepth 100000 in
theorem tw_302 : Cond.instantiable "RenamedCells$Plain" (5 : Nat) ∈ GW := gw_m (tb_2 (List.mem_of_getElem? (i := 62) rfl)) rfl
set_option maxRecDepth 100000 in
theorem nw_303 : Cond.methodLinkNest "RenamedCells" (51 : Nat) ({ cls := "RenamedCells$Plain", name := "<init>", desc := "()V" } : Jvm.MethodName) "RenamedCells" ∈ NW := nw_m (tb_2 (List.mem_of_getElem? (i := 63) rfl)) rfl
set_option maxRecDepth 100000 in
theorem tw_304 : Cond.instanceMethod ({ cls := "RenamedCells$Plain", name := "<init>", desc := "()V" } : Jvm.MethodName) ∈ GW := gw_m (tb_2 (List.mem_of_getElem? (i := 64) rfl)) rfl
set_option maxRecDepth 100000 in
theorem tw_305 : Cond.code ({ cls := "RenamedCells$Plain", name := "<init>", desc := "()V" } : Jvm.MethodName) prog_6_method_1_code (1 : Nat) (Option.none : Option Jvm.ClassFile.FieldType) ∈ GW := gw_m (tb_2 (List.mem_of_getElem? (i := 65) rfl)) rfl
set_option maxRecDepth 100000 in
theorem tw_306 : Cond.methodLink "RenamedCells$Plain" (3 : Nat) ({ cls := "java/lang/Object", name := "<init>", desc := "()V" } : Jvm.MethodName) ∈ GW := gw_m (tb_2 (List.mem_of_getElem? (i := 66) rfl)) rfl
set_option maxRecDepth 100000 in
theorem tw_307 : Cond.fieldLink "RenamedCells$Plain" (9 : Nat) "RenamedCells$Plain" "register" "[I" ∈ GW := gw_m (tb_2 (List.mem_of_getElem? (i := 67) rfl)) rfl
set_option maxRecDepth 100000 in
theorem tw_308 : Cond.fieldLink "RenamedCells" (144 : Nat) "RenamedCells$Plain" "register" "[I" ∈ GW := gw_m (tb_2 (List.mem_of_getElem? (i := 68) rfl)) rfl
set_option maxRecDepth 100000 in
theorem tw_309 : Cond.fieldLink "RenamedCells$Plain" (21 : Nat) "RenamedCells$Plain" "done" "I" ∈ GW := gw_m (tb_2 (List.mem_of_getElem? (i := 69) rfl)) rfl
set_option maxRecDepth 100000 in
theorem tw_310 : Cond.fieldLink "RenamedCells" (128 : Nat) "RenamedCells$Plain" "done" "I" ∈ GW := gw_m (tb_2 (List.mem_of_getElem? (i := 70) rfl)) rfl
set_option maxRecDepth 100000 in
theorem tw_311 : Cond.fieldLink "RenamedCells$Plain" (25 : Nat) "RenamedCells$Plain" "next" "I" ∈ GW := gw_m (tb_2 (List.mem_of_getElem? (i := 71) rfl)) rfl
set_option maxRecDepth 100000 in
theorem tw_312 : Cond.fieldLink "RenamedCells" (134 : Nat) "RenamedCells$Plain" "next" "I" ∈ GW := gw_m (tb_2 (List.mem_of_getElem? (i := 72) rfl)) rfl
set_option maxRecDepth 100000 in
theorem tw_313 : Cond.fieldLink "RenamedCells$Plain" (28 : Nat) "RenamedCells$Plain" "missed" "I" ∈ GW := gw_m (tb_2 (List.mem_of_getElem? (i := 73) rfl)) rfl
set_option maxRecDepth 100000 in
theorem tw_314 : Cond.fieldLink "RenamedCells" (148 : Nat) "RenamedCells$Plain" "missed" "I" ∈ GW := gw_m (tb_2 (List.mem_of_getElem? (i := 74) rfl)) rfl
set_option maxRecDepth 100000 in
theorem tw_315 : Cond.fieldLink "RenamedCells$Plain" (31 : Nat) "RenamedCells$Plain" "trapped" "Z" ∈ GW := gw_m (tb_2 (List.mem_of_getElem? (i := 75) rfl)) rfl
set_option maxRecDepth 100000 in
theorem tw_316 : Cond.fieldLink "RenamedCells" (131 : Nat) "RenamedCells$Plain" "trapped" "Z" ∈ GW := gw_m (tb_2 (List.mem_of_getElem? (i := 76) rfl)) rfl
set_option maxRecDepth 100000 in
theorem tw_317 : Cond.laysFinal "RenamedCells$Plain" "RenamedCells$Plain" "register" "[I" ∈ GW := gw_m (tb_2 (List.mem_of_getElem? (i := 77) rfl)) rfl
set_option maxRecDepth 100000 in
theorem tw_319 : Cond.lays "RenamedCells$Plain" "RenamedCells$Plain" "done" "I" ∈ GW := gw_m (tb_2 (List.mem_of_getElem? (i := 79) rfl)) rfl
set_option maxRecDepth 100000 in
theorem tw_321 : Cond.lays "RenamedCells$Plain" "RenamedCells$Plain" "next" "I" ∈ GW := gw_m (tb_2 (List.mem_of_getElem? (i := 81) rfl)) rfl
set_option maxRecDepth 100000 in
theorem tw_323 : Cond.lays "RenamedCells$Plain" "RenamedCells$Plain" "missed" "I" ∈ GW := gw_m (tb_2 (List.mem_of_getElem? (i := 83) rfl)) rfl
set_option maxRecDepth 100000 in
theorem tw_325 : Cond.lays "RenamedCells$Plain" "RenamedCells$Plain" "trapped" "Z" ∈ GW := gw_m (tb_2 (List.mem_of_getElem? (i := 85) rfl)) rfl
set_option maxRecDepth 100000 in
theorem tw_327 : Cond.superclass "RenamedCells$Plain" "java/lang/Object" ∈ GW := gw_m (tb_2 (List.mem_of_getElem? (i := 87) rfl)) rfl
set_option maxRecDepth 100000 in
theorem tw_328 : Cond.classLink "RenamedCells" (56 : Nat) "RenamedCells$Cycles" ∈ GW := gw_m (tb_2 (List.mem_of_getElem? (i := 88) rfl)) rfl
set_option maxRecDepth 100000 in
theorem tw_329 : Cond.instantiable "RenamedCells$Cycles" (5 : Nat) ∈ GW := gw_m (tb_2 (List.mem_of_getElem? (i := 89) rfl)) rfl
set_option maxRecDepth 100000 in
theorem tw_330 : Cond.methodLink "RenamedCells" (58 : Nat) ({ cls := "RenamedCells$Cycles", name := "<init>", desc := "(LRenamedCells$Program;)V" } : Jvm.MethodName) ∈ GW := gw_m (tb_2 (List.mem_of_getElem? (i := 90) rfl)) rfl
set_option maxRecDepth 100000 in
theorem tw_331 : Cond.instanceMethod ({ cls := "RenamedCells$Cycles", name := "<init>", desc := "(LRenamedCells$Program;)V" } : Jvm.MethodName) ∈ GW := gw_m (tb_2 (List.mem_of_getElem? (i := 91) rfl)) rfl
set_option maxRecDepth 100000 in
theorem tw_332 : Cond.code ({ cls := "RenamedCells$Cycles", name := "<init>", desc := "(LRenamedCells$Program;)V" } : Jvm.MethodName) prog_2_method_1_code (2 : Nat) (Option.none : Option Jvm.ClassFile.FieldType) ∈ GW := gw_m (tb_2 (List.mem_of_getElem? (i := 92) rfl)) rfl
set_option maxRecDepth 100000 in
theorem tw_333 : Cond.methodLink "RenamedCells$Cycles" (3 : Nat) ({ cls := "java/lang/Object", name := "<init>", desc := "()V" } : Jvm.MethodName) ∈ GW := gw_m (tb_2 (List.mem_of_getElem? (i := 93) rfl)) rfl
set_option maxRecDepth 100000 in
theorem tw_334 : Cond.classLink "RenamedCells$Cycles" (24 : Nat) "RenamedCells$Machine" ∈ GW := gw_m (tb_2 (List.mem_of_getElem? (i := 94) rfl)) rfl
set_option maxRecDepth 100000 in
theorem tw_335 : Cond.methodLink "RenamedCells$Cycles" (26 : Nat) ({ cls := "RenamedCells$Machine", name := "<init>", desc := "(LRenamedCells$Program;)V" } : Jvm.MethodName) ∈ GW := gw_m (tb_2 (List.mem_of_getElem? (i := 95) rfl)) rfl
set_option maxRecDepth 100000 in
theorem tw_336 : Cond.fieldLink "RenamedCells$Cycles" (29 : Nat) "RenamedCells$Cycles" "machine" "LRenamedCells$Machine;" ∈ GW := gw_m (tb_2 (List.mem_of_getElem? (i := 96) rfl)) rfl
set_option maxRecDepth 100000 in
theorem tw_337 : Cond.fieldLink "RenamedCells$Cycles" (11 : Nat) "RenamedCells$Cycles" "took" "[I" ∈ GW := gw_m (tb_2 (List.mem_of_getElem? (i := 97) rfl)) rfl
set_option maxRecDepth 100000 in
theorem tw_338 : Cond.fieldLink "RenamedCells" (240 : Nat) "RenamedCells$Cycles" "took" "[I" ∈ GW := gw_m (tb_2 (List.mem_of_getElem? (i := 98) rfl)) rfl
set_option maxRecDepth 100000 in
theorem tw_339 : Cond.fieldLink "RenamedCells$Cycles" (15 : Nat) "RenamedCells$Cycles" "committed" "[I" ∈ GW := gw_m (tb_2 (List.mem_of_getElem? (i := 99) rfl)) rfl
set_option maxRecDepth 100000 in
theorem tw_340 : Cond.fieldLink "RenamedCells" (247 : Nat) "RenamedCells$Cycles" "committed" "[I" ∈ GW := gw_m (tb_2 (List.mem_of_getElem? (i := 100) rfl)) rfl
set_option maxRecDepth 100000 in
theorem tw_341 : Cond.fieldLink "RenamedCells$Cycles" (18 : Nat) "RenamedCells$Cycles" "missed" "[I" ∈ GW := gw_m (tb_2 (List.mem_of_getElem? (i := 101) rfl)) rfl
set_option maxRecDepth 100000 in
theorem tw_342 : Cond.fieldLink "RenamedCells" (249 : Nat) "RenamedCells$Cycles" "missed" "[I" ∈ GW := gw_m (tb_2 (List.mem_of_getElem? (i := 102) rfl)) rfl
set_option maxRecDepth 100000 in
theorem tw_343 : Cond.fieldLink "RenamedCells$Cycles" (21 : Nat) "RenamedCells$Cycles" "crowded" "[I" ∈ GW := gw_m (tb_2 (List.mem_of_getElem? (i := 103) rfl)) rfl
set_option maxRecDepth 100000 in
theorem tw_344 : Cond.fieldLink "RenamedCells" (251 : Nat) "RenamedCells$Cycles" "crowded" "[I" ∈ GW := gw_m (tb_2 (List.mem_of_getElem? (i := 104) rfl)) rfl
set_option maxRecDepth 100000 in
theorem tw_345 : Cond.laysFinal "RenamedCells$Cycles" "RenamedCells$Cycles" "machine" "LRenamedCells$Machine;" ∈ GW := gw_m (tb_2 (List.mem_of_getElem? (i := 105) rfl)) rfl
set_option maxRecDepth 100000 in
theorem tw_347 : Cond.laysFinal "RenamedCells$Cycles" "RenamedCells$Cycles" "took" "[I" ∈ GW := gw_m (tb_2 (List.mem_of_getElem? (i := 107) rfl)) rfl
set_option maxRecDepth 100000 in
theorem tw_349 : Cond.laysFinal "RenamedCells$Cycles" "RenamedCells$Cycles" "committed" "[I" ∈ GW := gw_m (tb_2 (List.mem_of_getElem? (i := 109) rfl)) rfl
set_option maxRecDepth 100000 in
theorem tw_351 : Cond.laysFinal "RenamedCells$Cycles" "RenamedCells$Cycles" "missed" "[I" ∈ GW := gw_m (tb_2 (List.mem_of_getElem? (i := 111) rfl)) rfl
set_option maxRecDepth 100000 in
theorem tw_353 : Cond.laysFinal "RenamedCells$Cycles" "RenamedCells$Cycles" "crowded" "[I" ∈ GW := gw_m (tb_2 (List.mem_of_getElem? (i := 113) rfl)) rfl
set_option maxRecDepth 100000 in
theorem tw_355 : Cond.superclass "RenamedCells$Cycles" "java/lang/Object" ∈ GW := gw_m (tb_2 (List.mem_of_getElem? (i := 115) rfl)) rfl
set_option maxRecDepth 100000 in
theorem tw_356 : Cond.classLink "RenamedCells" (63 : Nat) "RenamedCells$Fits" ∈ GW := gw_m (tb_2 (List.mem_of_getElem? (i := 116) rfl)) rfl
set_option maxRecDepth 100000 in
theorem tw_357 : Cond.instantiable "RenamedCells$Fits" (2 : Nat) ∈ GW := gw_m (tb_2 (List.mem_of_getElem? (i := 117) rfl)) rfl
set_option maxRecDepth 100000 in
theorem nw_358 : Cond.methodLinkNest "RenamedCells" (65 : Nat) ({ cls := "RenamedCells$Fits", name := "<init>", desc := "()V" } : Jvm.MethodName) "RenamedCells" ∈ NW := nw_m (tb_2 (List.mem_of_getElem? (i := 118) rfl)) rfl
set_option maxRecDepth 100000 in
theorem tw_359 : Cond.instanceMethod ({ cls := "RenamedCells$Fits", name := "<init>", desc := "()V" } : Jvm.MethodName) ∈ GW := gw_m (tb_2 (List.mem_of_getElem? (i := 119) rfl)) rfl
set_option maxRecDepth 100000 in
theorem tw_360 : Cond.code ({ cls := "RenamedCells$Fits", name := "<init>", desc := "()V" } : Jvm.MethodName) prog_3_method_1_code (1 : Nat) (Option.none : Option Jvm.ClassFile.FieldType) ∈ GW := gw_m (tb_2 (List.mem_of_getElem? (i := 120) rfl)) rfl
set_option maxRecDepth 100000 in
theorem tw_361 : Cond.methodLink "RenamedCells$Fits" (3 : Nat) ({ cls := "java/lang/Object", name := "<init>", desc := "()V" } : Jvm.MethodName) ∈ GW := gw_m (tb_2 (List.mem_of_getElem? (i := 121) rfl)) rfl
set_option maxRecDepth 100000 in
theorem tw_362 : Cond.fieldLink "RenamedCells$Fits" (9 : Nat) "RenamedCells$Fits" "found" "I" ∈ GW := gw_m (tb_2 (List.mem_of_getElem? (i := 122) rfl)) rfl
set_option maxRecDepth 100000 in
theorem tw_363 : Cond.fieldLink "RenamedCells$Fits" (20 : Nat) "RenamedCells$Fits" "unsures" "I" ∈ GW := gw_m (tb_2 (List.mem_of_getElem? (i := 123) rfl)) rfl
set_option maxRecDepth 100000 in
theorem tw_364 : Cond.lays "RenamedCells$Fits" "RenamedCells$Fits" "found" "I" ∈ GW := gw_m (tb_2 (List.mem_of_getElem? (i := 124) rfl)) rfl
set_option maxRecDepth 100000 in
theorem tw_366 : Cond.lays "RenamedCells$Fits" "RenamedCells$Fits" "unsures" "I" ∈ GW := gw_m (tb_2 (List.mem_of_getElem? (i := 126) rfl)) rfl
set_option maxRecDepth 100000 in
theorem tw_368 : Cond.superclass "RenamedCells$Fits" "java/lang/Object" ∈ GW := gw_m (tb_2 (List.mem_of_getElem? (i := 128) rfl)) rfl
set_option maxRecDepth 100000 in
theorem tw_369 : Cond.fieldLink "RenamedCells" (9 : Nat) "RenamedCells" "tape" "[B" ∈ GW := gw_m (tb_2 (List.mem_of_getElem? (i := 129) rfl)) rfl
set_option maxRecDepth 100000 in
theorem tw_370 : Cond.fieldLink "RenamedCells" (74 : Nat) "RenamedCells" "taped" "I" ∈ GW := gw_m (tb_2 (List.mem_of_getElem? (i := 130) rfl)) rfl
set_option maxRecDepth 100000 in
theorem tw_371 : Cond.fieldLink "RenamedCells" (70 : Nat) "RenamedCells" "told" "Z" ∈ GW := gw_m (tb_2 (List.mem_of_getElem? (i := 131) rfl)) rfl
set_option maxRecDepth 100000 in
theorem tw_372 : Cond.fieldLink "RenamedCells" (16 : Nat) "RenamedCells" "program" "LRenamedCells$Program;" ∈ GW := gw_m (tb_2 (List.mem_of_getElem? (i := 132) rfl)) rfl
set_option maxRecDepth 100000 in
theorem tw_373 : Cond.fieldLink "RenamedCells" (20 : Nat) "RenamedCells" "draft" "LRenamedCells$Program;" ∈ GW := gw_m (tb_2 (List.mem_of_getElem? (i := 133) rfl)) rfl
set_option maxRecDepth 100000 in
theorem tw_374 : Cond.fieldLink "RenamedCells" (28 : Nat) "RenamedCells" "reader" "LRenamedCells$Reader;" ∈ GW := gw_m (tb_2 (List.mem_of_getElem? (i := 134) rfl)) rfl
set_option maxRecDepth 100000 in
theorem tw_375 : Cond.fieldLink "RenamedCells" (35 : Nat) "RenamedCells" "machine" "LRenamedCells$Machine;" ∈ GW := gw_m (tb_2 (List.mem_of_getElem? (i := 135) rfl)) rfl
set_option maxRecDepth 100000 in
theorem tw_376 : Cond.fieldLink "RenamedCells" (39 : Nat) "RenamedCells" "drawn" "LRenamedCells$Machine;" ∈ GW := gw_m (tb_2 (List.mem_of_getElem? (i := 136) rfl)) rfl
set_option maxRecDepth 100000 in
theorem tw_377 : Cond.fieldLink "RenamedCells" (45 : Nat) "RenamedCells" "history" "LRenamedCells$History;" ∈ GW := gw_m (tb_2 (List.mem_of_getElem? (i := 137) rfl)) rfl
set_option maxRecDepth 100000 in
theorem tw_378 : Cond.fieldLink "RenamedCells" (52 : Nat) "RenamedCells" "plain" "LRenamedCells$Plain;" ∈ GW := gw_m (tb_2 (List.mem_of_getElem? (i := 138) rfl)) rfl
set_option maxRecDepth 100000 in
theorem tw_379 : Cond.fieldLink "RenamedCells" (59 : Nat) "RenamedCells" "byCells" "LRenamedCells$Cycles;" ∈ GW := gw_m (tb_2 (List.mem_of_getElem? (i := 139) rfl)) rfl
set_option maxRecDepth 100000 in
theorem tw_380 : Cond.fieldLink "RenamedCells" (66 : Nat) "RenamedCells" "sets" "LRenamedCells$Fits;" ∈ GW := gw_m (tb_2 (List.mem_of_getElem? (i := 140) rfl)) rfl
set_option maxRecDepth 100000 in
theorem tw_381 : Cond.fieldLink "RenamedCells" (78 : Nat) "RenamedCells" "refusal" "I" ∈ GW := gw_m (tb_2 (List.mem_of_getElem? (i := 141) rfl)) rfl
set_option maxRecDepth 100000 in
theorem tw_382 : Cond.laysFinal "RenamedCells" "RenamedCells" "tape" "[B" ∈ GW := gw_m (tb_2 (List.mem_of_getElem? (i := 142) rfl)) rfl
set_option maxRecDepth 100000 in
theorem tw_384 : Cond.lays "RenamedCells" "RenamedCells" "taped" "I" ∈ GW := gw_m (tb_2 (List.mem_of_getElem? (i := 144) rfl)) rfl
set_option maxRecDepth 100000 in
theorem tw_386 : Cond.lays "RenamedCells" "RenamedCells" "told" "Z" ∈ GW := gw_m (tb_2 (List.mem_of_getElem? (i := 146) rfl)) rfl
set_option maxRecDepth 100000 in
theorem tw_388 : Cond.lays "RenamedCells" "RenamedCells" "program" "LRenamedCells$Program;" ∈ GW := gw_m (tb_2 (List.mem_of_getElem? (i := 148) rfl)) rfl
set_option maxRecDepth 100000 in
theorem tw_390 : Cond.lays "RenamedCells" "RenamedCells" "draft" "LRenamedCells$Program;" ∈ GW := gw_m (tb_2 (List.mem_of_getElem? (i := 150) rfl)) rfl
set_option maxRecDepth 100000 in
theorem tw_392 : Cond.laysFinal "RenamedCells" "RenamedCells" "reader" "LRenamedCells$Reader;" ∈ GW := gw_m (tb_2 (List.mem_of_getElem? (i := 152) rfl)) rfl
set_option maxRecDepth 100000 in
theorem tw_394 : Cond.laysFinal "RenamedCells" "RenamedCells" "machine" "LRenamedCells$Machine;" ∈ GW := gw_m (tb_2 (List.mem_of_getElem? (i := 154) rfl)) rfl
set_option maxRecDepth 100000 in
theorem tw_396 : Cond.laysFinal "RenamedCells" "RenamedCells" "drawn" "LRenamedCells$Machine;" ∈ GW := gw_m (tb_2 (List.mem_of_getElem? (i := 156) rfl)) rfl
set_option maxRecDepth 100000 in
theorem tw_398 : Cond.laysFinal "RenamedCells" "RenamedCells" "history" "LRenamedCells$History;" ∈ GW := gw_m (tb_2 (List.mem_of_getElem? (i := 158) rfl)) rfl
set_option maxRecDepth 100000 in
theorem tw_400 : Cond.laysFinal "RenamedCells" "RenamedCells" "plain" "LRenamedCells$Plain;" ∈ GW := gw_m (tb_2 (List.mem_of_getElem? (i := 160) rfl)) rfl
set_option maxRecDepth 100000 in
theorem tw_402 : Cond.laysFinal "RenamedCells" "RenamedCells" "byCells" "LRenamedCells$Cycles;" ∈ GW := gw_m (tb_2 (List.mem_of_getElem? (i := 162) rfl)) rfl
set_option maxRecDepth 100000 in
theorem tw_404 : Cond.laysFinal "RenamedCells" "RenamedCells" "sets" "LRenamedCells$Fits;" ∈ GW := gw_m (tb_2 (List.mem_of_getElem? (i := 164) rfl)) rfl
set_option maxRecDepth 100000 in
theorem tw_406 : Cond.lays "RenamedCells" "RenamedCells" "refusal" "I" ∈ GW := gw_m (tb_2 (List.mem_of_getElem? (i := 166) rfl)) rfl
set_option maxRecDepth 100000 in
theorem tw_408 : Cond.superclass "RenamedCells" "java/lang/Object" ∈ GW := gw_m (tb_2 (List.mem_of_getElem? (i := 168) rfl)) rfl
set_option maxRecDepth 100000 in
theorem tw_409 : Cond.methodLink "RenamedCellsLaw" (19 : Nat) ({ cls := "RenamedCells", name := "feed", desc := "(IIIII)I" } : Jvm.MethodName) ∈ GW := gw_m (tb_2 (List.mem_of_getElem? (i := 169) rfl)) rfl
set_option maxRecDepth 100000 in
theorem tw_410 : Cond.instanceMethod ({ cls := "RenamedCells", name := "feed", desc := "(IIIII)I" } : Jvm.MethodName) ∈ GW := gw_m (tb_2 (List.mem_of_getElem? (i := 170) rfl)) rfl
set_option maxRecDepth 100000 in
theorem tw_411 : Cond.selects "RenamedCells" ({ cls := "RenamedCells", name := "feed", desc := "(IIIII)I" } : Jvm.MethodName) ({ cls := "RenamedCells", name := "feed", desc := "(IIIII)I" } : Jvm.MethodName) ∈ GW := gw_m (tb_2 (List.mem_of_getElem? (i := 171) rfl)) rfl
set_option maxRecDepth 100000 in
theorem tw_412 : Cond.code ({ cls := "RenamedCells", name := "feed", desc := "(IIIII)I" } : Jvm.MethodName) prog_1_method_2_code (6 : Nat) (Option.some Jvm.ClassFile.FieldType.int) ∈ GW := gw_m (tb_2 (List.mem_of_getElem? (i := 172) rfl)) rfl
set_option maxRecDepth 100000 in
theorem tw_413 : Cond.methodLink "RenamedCells" (81 : Nat) ({ cls := "RenamedCells", name := "putBytes", desc := "(I)V" } : Jvm.MethodName) ∈ GW := gw_m (tb_2 (List.mem_of_getElem? (i := 173) rfl)) rfl
set_option maxRecDepth 100000 in
theorem tw_415 : Cond.instanceMethod ({ cls := "RenamedCells", name := "putBytes", desc := "(I)V" } : Jvm.MethodName) ∈ GW := gw_m (tb_2 (List.mem_of_getElem? (i := 175) rfl)) rfl
set_option maxRecDepth 100000 in
theorem tw_416 : Cond.code ({ cls := "RenamedCells", name := "putBytes", desc := "(I)V" } : Jvm.MethodName) prog_1_method_3_code (3 : Nat) (Option.none : Option Jvm.ClassFile.FieldType) ∈ GW := gw_m (tb_2 (List.mem_of_getElem? (i := 176) rfl)) rfl
set_option maxRecDepth 100000 in
theorem tw_417 : Cond.methodLink "RenamedCellsLaw" (24 : Nat) ({ cls := "RenamedCells", name := "core", desc := "(I)I" } : Jvm.MethodName) ∈ GW := gw_m (tb_2 (List.mem_of_getElem? (i := 177) rfl)) rfl
set_option maxRecDepth 100000 in
theorem tw_418 : Cond.instanceMethod ({ cls := "RenamedCells", name := "core", desc := "(I)I" } : Jvm.MethodName) ∈ GW := gw_m (tb_2 (List.mem_of_getElem? (i := 178) rfl)) rfl
set_option maxRecDepth 100000 in
theorem tw_419 : Cond.selects "RenamedCells" ({ cls := "RenamedCells", name := "core", desc := "(I)I" } : Jvm.MethodName) ({ cls := "RenamedCells", name := "core", desc := "(I)I" } : Jvm.MethodName) ∈ GW := gw_m (tb_2 (List.mem_of_getElem? (i := 179) rfl)) rfl
set_option maxRecDepth 100000 in
theorem tw_420 : Cond.code ({ cls := "RenamedCells", name := "core", desc := "(I)I" } : Jvm.MethodName) prog_1_method_4_code (3 : Nat) (Option.some Jvm.ClassFile.FieldType.int) ∈ GW := gw_m (tb_2 (List.mem_of_getElem? (i := 180) rfl)) rfl
set_option maxRecDepth 100000 in
theorem tw_421 : Cond.methodLink "RenamedCells" (85 : Nat) ({ cls := "RenamedCells", name := "refused", desc := "(ZI)Z" } : Jvm.MethodName) ∈ GW := gw_m (tb_2 (List.mem_of_getElem? (i := 181) rfl)) rfl
set_option maxRecDepth 100000 in
theorem tw_423 : Cond.instanceMethod ({ cls := "RenamedCells", name := "refused", desc := "(ZI)Z" } : Jvm.MethodName) ∈ GW := gw_m (tb_2 (List.mem_of_getElem? (i := 183) rfl)) rfl
set_option maxRecDepth 100000 in
theorem tw_424 : Cond.code ({ cls := "RenamedCells", name := "refused", desc := "(ZI)Z" } : Jvm.MethodName) prog_1_method_63_code (3 : Nat) (Option.some Jvm.ClassFile.FieldType.boolean) ∈ GW := gw_m (tb_2 (List.mem_of_getElem? (i := 184) rfl)) rfl
set_option maxRecDepth 100000 in
theorem tw_425 : Cond.methodLink "RenamedCells" (89 : Nat) ({ cls := "RenamedCells$Reader", name := "reads", desc := "([BILRenamedCells$Program;)Z" } : Jvm.MethodName) ∈ GW := gw_m (tb_2 (List.mem_of_getElem? (i := 185) rfl)) rfl
set_option maxRecDepth 100000 in
theorem tw_426 : Cond.instanceMethod ({ cls := "RenamedCells$Reader", name := "reads", desc := "([BILRenamedCells$Program;)Z" } : Jvm.MethodName) ∈ GW := gw_m (tb_2 (List.mem_of_getElem? (i := 186) rfl)) rfl
set_option maxRecDepth 100000 in
theorem tw_427 : Cond.selects "RenamedCells$Reader" ({ cls := "RenamedCells$Reader", name := "reads", desc := "([BILRenamedCells$Program;)Z" } : Jvm.MethodName) ({ cls := "RenamedCells$Reader", name := "reads", desc := "([BILRenamedCells$Program;)Z" } : Jvm.MethodName) ∈ GW := gw_m (tb_2 (List.mem_of_getElem? (i := 187) rfl)) rfl
set_option maxRecDepth 100000 in
theorem tw_428 : Cond.code ({ cls := "RenamedCells$Reader", name := "reads", desc := "([BILRenamedCells$Program;)Z" } : Jvm.MethodName) prog_8_method_2_code (6 : Nat) (Option.some Jvm.ClassFile.FieldType.boolean) ∈ GW := gw_m (tb_2 (List.mem_of_getElem? (i := 188) rfl)) rfl
set_option maxRecDepth 100000 in
theorem tw_429 : Cond.methodLink "RenamedCells$Reader" (26 : Nat) ({ cls := "java/lang/Math", name := "min", desc := "(II)I" } : Jvm.MethodName) ∈ GW := gw_m (tb_2 (List.mem_of_getElem? (i := 189) rfl)) rfl
set_option maxRecDepth 100000 in
theorem tw_430 : Cond.static ({ cls := "java/lang/Math", name := "min", desc := "(II)I" } : Jvm.MethodName) ∈ GW := gw_m (tb_2 (List.mem_of_getElem? (i := 190) rfl)) rfl
set_option maxRecDepth 100000 in
theorem tw_431 : Cond.code ({ cls := "java/lang/Math", name := "min", desc := "(II)I" } : Jvm.MethodName) prog_18_method_69_code (2 : Nat) (Option.some Jvm.ClassFile.FieldType.int) ∈ GW := gw_m (tb_2 (List.mem_of_getElem? (i := 191) rfl)) rfl
set_option maxRecDepth 100000 in
theorem tw_432 : Cond.methodLink "RenamedCells$Reader" (32 : Nat) ({ cls := "RenamedCells$Tokens", name := "part", desc := "([BI)V" } : Jvm.MethodName) ∈ GW := gw_m (tb_2 (List.mem_of_getElem? (i := 192) rfl)) rfl
set_option maxRecDepth 100000 in
theorem tw_433 : Cond.instanceMethod ({ cls := "RenamedCells$Tokens", name := "part", desc := "([BI)V" } : Jvm.MethodName) ∈ GW := gw_m (tb_2 (List.mem_of_getElem? (i := 193) rfl)) rfl
set_option maxRecDepth 100000 in
theorem tw_434 : Cond.selects "RenamedCells$Tokens" ({ cls := "RenamedCells$Tokens", name := "part", desc := "([BI)V" } : Jvm.MethodName) ({ cls := "RenamedCells$Tokens", name := "part", desc := "([BI)V" } : Jvm.MethodName) ∈ GW := gw_m (tb_2 (List.mem_of_getElem? (i := 194) rfl)) rfl
set_option maxRecDepth 100000 in
theorem tw_435 : Cond.code ({ cls := "RenamedCells$Tokens", name := "part", desc := "([BI)V" } : Jvm.MethodName) prog_9_method_2_code (5 : Nat) (Option.none : Option Jvm.ClassFile.FieldType) ∈ GW := gw_m (tb_2 (List.mem_of_getElem? (i := 195) rfl)) rfl
set_option maxRecDepth 100000 in
theorem tw_436 : Cond.methodLink "RenamedCells$Tokens" (21 : Nat) ({ cls := "RenamedCells$Tokens", name := "pastBlanks", desc := "([BII)I" } : Jvm.MethodName) ∈ GW := gw_m (tb_2 (List.mem_of_getElem? (i := 196) rfl)) rfl
set_option maxRecDepth 100000 in
theorem tw_437 : Cond.static ({ cls := "RenamedCells$Tokens", name := "pastBlanks", desc := "([BII)I" } : Jvm.MethodName) ∈ GW := gw_m (tb_2 (List.mem_of_getElem? (i := 197) rfl)) rfl
set_option maxRecDepth 100000 in
theorem tw_438 : Cond.code ({ cls := "RenamedCells$Tokens", name := "pastBlanks", desc := "([BII)I" } : Jvm.MethodName) prog_9_method_3_code (4 : Nat) (Option.some Jvm.ClassFile.FieldType.int) ∈ GW := gw_m (tb_2 (List.mem_of_getElem? (i := 198) rfl)) rfl
set_option maxRecDepth 100000 in
theorem tw_439 : Cond.methodLink "RenamedCells$Tokens" (25 : Nat) ({ cls := "RenamedCells$Tokens", name := "runEnd", desc := "([BII)I" } : Jvm.MethodName) ∈ GW := gw_m (tb_2 (List.mem_of_getElem? (i := 199) rfl)) rfl
set_option maxRecDepth 100000 in
theorem tw_440 : Cond.static ({ cls := "RenamedCells$Tokens", name := "runEnd", desc := "([BII)I" } : Jvm.MethodName) ∈ GW := gw_m (tb_2 (List.mem_of_getElem? (i := 200) rfl)) rfl
set_option maxRecDepth 100000 in
theorem tw_441 : Cond.code ({ cls := "RenamedCells$Tokens", name := "runEnd", desc := "([BII)I" } : Jvm.MethodName) prog_9_method_6_code (6 : Nat) (Option.some Jvm.ClassFile.FieldType.int) ∈ GW := gw_m (tb_2 (List.mem_of_getElem? (i := 201) rfl)) rfl
set_option maxRecDepth 100000 in
theorem tw_442 : Cond.methodLink "RenamedCells$Tokens" (36 : Nat) ({ cls := "RenamedCells$Tokens", name := "isLetter", desc := "(B)Z" } : Jvm.MethodName) ∈ GW := gw_m (tb_2 (List.mem_of_getElem? (i := 202) rfl)) rfl
set_option maxRecDepth 100000 in
theorem tw_443 : Cond.static ({ cls := "RenamedCells$Tokens", name := "isLetter", desc := "(B)Z" } : Jvm.MethodName) ∈ GW := gw_m (tb_2 (List.mem_of_getElem? (i := 203) rfl)) rfl
set_option maxRecDepth 100000 in
theorem tw_444 : Cond.code ({ cls := "RenamedCells$Tokens", name := "isLetter", desc := "(B)Z" } : Jvm.MethodName) prog_9_method_4_code (1 : Nat) (Option.some Jvm.ClassFile.FieldType.boolean) ∈ GW := gw_m (tb_2 (List.mem_of_getElem? (i := 204) rfl)) rfl
set_option maxRecDepth 100000 in
theorem tw_445 : Cond.methodLink "RenamedCells$Tokens" (40 : Nat) ({ cls := "RenamedCells$Tokens", name := "isDigit", desc := "(B)Z" } : Jvm.MethodName) ∈ GW := gw_m (tb_2 (List.mem_of_getElem? (i := 205) rfl)) rfl
set_option maxRecDepth 100000 in
theorem tw_446 : Cond.static ({ cls := "RenamedCells$Tokens", name := "isDigit", desc := "(B)Z" } : Jvm.MethodName) ∈ GW := gw_m (tb_2 (List.mem_of_getElem? (i := 206) rfl)) rfl
set_option maxRecDepth 100000 in
theorem tw_447 : Cond.code ({ cls := "RenamedCells$Tokens", name := "isDigit", desc := "(B)Z" } : Jvm.MethodName) prog_9_method_5_code (1 : Nat) (Option.some Jvm.ClassFile.FieldType.boolean) ∈ GW := gw_m (tb_2 (List.mem_of_getElem? (i := 207) rfl)) rfl
set_option maxRecDepth 100000 in
theorem tw_448 : Cond.methodLink "RenamedCells$Tokens" (28 : Nat) ({ cls := "RenamedCells$Tokens", name := "sortOf", desc := "(BI)I" } : Jvm.MethodName) ∈ GW := gw_m (tb_2 (List.mem_of_getElem? (i := 208) rfl)) rfl
set_option maxRecDepth 100000 in
theorem tw_449 : Cond.static ({ cls := "RenamedCells$Tokens", name := "sortOf", desc := "(BI)I" } : Jvm.MethodName) ∈ GW := gw_m (tb_2 (List.mem_of_getElem? (i := 209) rfl)) rfl
set_option maxRecDepth 100000 in
theorem tw_450 : Cond.code ({ cls := "RenamedCells$Tokens", name := "sortOf", desc := "(BI)I" } : Jvm.MethodName) prog_9_method_7_code (2 : Nat) (Option.some Jvm.ClassFile.FieldType.int) ∈ GW := gw_m (tb_2 (List.mem_of_getElem? (i := 210) rfl)) rfl
set_option maxRecDepth 100000 in
theorem tw_451 : Cond.methodLink "RenamedCells$Reader" (46 : Nat) ({ cls := "RenamedCells$Program", name := "clear", desc := "()V" } : Jvm.MethodName) ∈ GW := gw_m (tb_2 (List.mem_of_getElem? (i := 211) rfl)) rfl
set_option maxRecDepth 100000 in
theorem tw_452 : Cond.instanceMethod ({ cls := "RenamedCells$Program", name := "clear", desc := "()V" } : Jvm.MethodName) ∈ GW := gw_m (tb_2 (List.mem_of_getElem? (i := 212) rfl)) rfl
set_option maxRecDepth 100000 in
theorem tw_453 : Cond.selects "RenamedCells$Program" ({ cls := "RenamedCells$Program", name := "clear", desc := "()V" } : Jvm.MethodName) ({ cls := "RenamedCells$Program", name := "clear", desc := "()V" } : Jvm.MethodName) ∈ GW := gw_m (tb_2 (List.mem_of_getElem? (i := 213) rfl)) rfl
set_option maxRecDepth 100000 in
theorem tw_454 : Cond.code ({ cls := "RenamedCells$Program", name := "clear", desc := "()V" } : Jvm.MethodName) prog_7_method_2_code (1 : Nat) (Option.none : Option Jvm.ClassFile.FieldType) ∈ GW := gw_m (tb_2 (List.mem_of_getElem? (i := 214) rfl)) rfl
set_option maxRecDepth 100000 in
theorem tw_455 : Cond.methodLink "RenamedCells$Reader" (51 : Nat) ({ cls := "RenamedCells$Reader", name := "readLine", desc := "(I)Z" } : Jvm.MethodName) ∈ GW := gw_m (tb_2 (List.mem_of_getElem? (i := 215) rfl)) rfl
set_option maxRecDepth 100000 in
theorem tw_457 : Cond.instanceMethod ({ cls := "RenamedCells$Reader", name := "readLine", desc := "(I)Z" } : Jvm.MethodName) ∈ GW := gw_m (tb_2 (List.mem_of_getElem? (i := 217) rfl)) rfl
set_option maxRecDepth 100000 in
theorem tw_458 : Cond.code ({ cls := "RenamedCells$Reader", name := "readLine", desc := "(I)Z" } : Jvm.MethodName) prog_8_method_6_code (4 : Nat) (Option.some Jvm.ClassFile.FieldType.boolean) ∈ GW := gw_m (tb_2 (List.mem_of_getElem? (i := 218) rfl)) rfl
set_option maxRecDepth 100000 in
theorem tw_459 : Cond.methodLink "RenamedCells$Reader" (74 : Nat) ({ cls := "RenamedCells$Reader", name := "sortOfLine", desc := "()I" } : Jvm.MethodName) ∈ GW := gw_m (tb_2 (List.mem_of_getElem? (i := 219) rfl)) rfl
set_option maxRecDepth 100000 in
theorem tw_461 : Cond.instanceMethod ({ cls := "RenamedCells$Reader", name := "sortOfLine", desc := "()I" } : Jvm.MethodName) ∈ GW := gw_m (tb_2 (List.mem_of_getElem? (i := 221) rfl)) rfl
set_option maxRecDepth 100000 in
theorem tw_462 : Cond.code ({ cls := "RenamedCells$Reader", name := "sortOfLine", desc := "()I" } : Jvm.MethodName) prog_8_method_7_code (1 : Nat) (Option.some Jvm.ClassFile.FieldType.int) ∈ GW := gw_m (tb_2 (List.mem_of_getElem? (i := 222) rfl)) rfl
set_option maxRecDepth 100000 in
theorem tw_464 : Cond.methodLink "RenamedCells$Reader" (102 : Nat) ({ cls := "RenamedCells$Reader", name := "isWord", desc := "(Ljava/lang/String;)Z" } : Jvm.MethodName) ∈ GW := gw_m (tb_2 (List.mem_of_getElem? (i := 224) rfl)) rfl
set_option maxRecDepth 100000 in
theorem tw_466 : Cond.instanceMethod ({ cls := "RenamedCells$Reader", name := "isWord", desc := "(Ljava/lang/String;)Z" } : Jvm.MethodName) ∈ GW := gw_m (tb_2 (List.mem_of_getElem? (i := 226) rfl)) rfl
set_option maxRecDepth 100000 in
theorem tw_467 : Cond.code ({ cls := "RenamedCells$Reader", name := "isWord", desc := "(Ljava/lang/String;)Z" } : Jvm.MethodName) prog_8_method_16_code (4 : Nat) (Option.some Jvm.ClassFile.FieldType.boolean) ∈ GW := gw_m (tb_2 (List.mem_of_getElem? (i := 227) rfl)) rfl
set_option maxRecDepth 100000 in
theorem tw_468 : Cond.methodLink "RenamedCells$Reader" (218 : Nat) ({ cls := "java/lang/String", name := "length", desc := "()I" } : Jvm.MethodName) ∈ GW := gw_m (tb_2 (List.mem_of_getElem? (i := 228) rfl)) rfl
set_option maxRecDepth 100000 in
theorem tw_469 : Cond.instanceMethod ({ cls := "java/lang/String", name := "length", desc := "()I" } : Jvm.MethodName) ∈ GW := gw_m (tb_2 (List.mem_of_getElem? (i := 229) rfl)) rfl
set_option maxRecDepth 100000 in
theorem tw_470 : Cond.selects "java/lang/String" ({ cls := "java/lang/String", name := "length", desc := "()I" } : Jvm.MethodName) ({ cls := "java/lang/String", name := "length", desc := "()I" } : Jvm.MethodName) ∈ GW := gw_m (tb_2 (List.mem_of_getElem? (i := 230) rfl)) rfl
set_option maxRecDepth 100000 in
theorem tw_471 : Cond.code ({ cls := "java/lang/String", name := "length", desc := "()I" } : Jvm.MethodName) prog_20_method_54_code (1 : Nat) (Option.some Jvm.ClassFile.FieldType.int) ∈ GW := gw_m (tb_2 (List.mem_of_getElem? (i := 231) rfl)) rfl
set_option maxRecDepth 100000 in
theorem tw_472 : Cond.methodLink "java/lang/String" (335 : Nat) ({ cls := "java/lang/String", name := "coder", desc := "()B" } : Jvm.MethodName) ∈ GW := gw_m (tb_2 (List.mem_of_getElem? (i := 232) rfl)) rfl
set_option maxRecDepth 100000 in
theorem tw_473 : Cond.instanceMethod ({ cls := "java/lang/String", name := "coder", desc := "()B" } : Jvm.MethodName) ∈ GW := gw_m (tb_2 (List.mem_of_getElem? (i := 233) rfl)) rfl
set_option maxRecDepth 100000 in
theorem tw_474 : Cond.selects "java/lang/String" ({ cls := "java/lang/String", name := "coder", desc := "()B" } : Jvm.MethodName) ({ cls := "java/lang/String", name := "coder", desc := "()B" } : Jvm.MethodName) ∈ GW := gw_m (tb_2 (List.mem_of_getElem? (i := 234) rfl)) rfl
set_option maxRecDepth 100000 in
theorem tw_475 : Cond.code ({ cls := "java/lang/String", name := "coder", desc := "()B" } : Jvm.MethodName) prog_20_method_152_code (1 : Nat) (Option.some Jvm.ClassFile.FieldType.byte) ∈ GW := gw_m (tb_2 (List.mem_of_getElem? (i := 235) rfl)) rfl
set_option maxRecDepth 100000 in
theorem tw_476 : Cond.fieldLink "java/lang/String" (38 : Nat) "java/lang/String" "COMPACT_STRINGS" "Z" ∈ GW := gw_m (tb_2 (List.mem_of_getElem? (i := 236) rfl)) rfl
set_option maxRecDepth 100000 in
theorem tw_478 : Cond.methodLink "RenamedCells$Reader" (223 : Nat) ({ cls := "java/lang/String", name := "charAt", desc := "(I)C" } : Jvm.MethodName) ∈ GW := gw_m (tb_2 (List.mem_of_getElem? (i := 238) rfl)) rfl
set_option maxRecDepth 100000 in
theorem tw_479 : Cond.instanceMethod ({ cls := "java/lang/String", name := "charAt", desc := "(I)C" } : Jvm.MethodName) ∈ GW := gw_m (tb_2 (List.mem_of_getElem? (i := 239) rfl)) rfl
set_option maxRecDepth 100000 in
theorem tw_480 : Cond.selects "java/lang/String" ({ cls := "java/lang/String", name := "charAt", desc := "(I)C" } : Jvm.MethodName) ({ cls := "java/lang/String", name := "charAt", desc := "(I)C" } : Jvm.MethodName) ∈ GW := gw_m (tb_3 (List.mem_of_getElem? (i := 0) rfl)) rfl
set_option maxRecDepth 100000 in
theorem tw_481 : Cond.code ({ cls := "java/lang/String", name := "charAt", desc := "(I)C" } : Jvm.MethodName) prog_20_method_56_code (2 : Nat) (Option.some Jvm.ClassFile.FieldType.char) ∈ GW := gw_m (tb_3 (List.mem_of_getElem? (i := 1) rfl)) rfl
set_option maxRecDepth 100000 in
theorem tw_482 : Cond.methodLink "java/lang/String" (492 : Nat) ({ cls := "java/lang/String", name := "isLatin1", desc := "()Z" } : Jvm.MethodName) ∈ GW := gw_m (tb_3 (List.mem_of_getElem? (i := 2) rfl)) rfl
set_option maxRecDepth 100000 in
theorem tw_483 : Cond.instanceMethod ({ cls := "java/lang/String", name := "isLatin1", desc := "()Z" } : Jvm.MethodName) ∈ GW := gw_m (tb_3 (List.mem_of_getElem? (i := 3) rfl)) rfl
set_option maxRecDepth 100000 in
theorem tw_484 : Cond.selects "java/lang/String" ({ cls := "java/lang/String", name := "isLatin1", desc := "()Z" } : Jvm.MethodName) ({ cls := "java/lang/String", name := "isLatin1", desc := "()Z" } : Jvm.MethodName) ∈ GW := gw_m (tb_3 (List.mem_of_getElem? (i := 4) rfl)) rfl
set_option maxRecDepth 100000 in
theorem tw_485 : Cond.code ({ cls := "java/lang/String", name := "isLatin1", desc := "()Z" } : Jvm.MethodName) prog_20_method_154_code (1 : Nat) (Option.some Jvm.ClassFile.FieldType.boolean) ∈ GW := gw_m (tb_3 (List.mem_of_getElem? (i := 5) rfl)) rfl
set_option maxRecDepth 100000 in
theorem tw_486 : Cond.methodLink "java/lang/String" (495 : Nat) ({ cls := "java/lang/StringLatin1", name := "charAt", desc := "([BI)C" } : Jvm.MethodName) ∈ GW := gw_m (tb_3 (List.mem_of_getElem? (i := 6) rfl)) rfl
set_option maxRecDepth 100000 in
theorem tw_487 : Cond.static ({ cls := "java/lang/StringLatin1", name := "charAt", desc := "([BI)C" } : Jvm.MethodName) ∈ GW := gw_m (tb_3 (List.mem_of_getElem? (i := 7) rfl)) rfl
set_option maxRecDepth 100000 in
theorem tw_488 : Cond.code ({ cls := "java/lang/StringLatin1", name := "charAt", desc := "([BI)C" } : Jvm.MethodName) prog_21_method_2_code (2 : Nat) (Option.some Jvm.ClassFile.FieldType.char) ∈ GW := gw_m (tb_3 (List.mem_of_getElem? (i := 8) rfl)) rfl
set_option maxRecDepth 100000 in
theorem tw_489 : Cond.methodLink "java/lang/StringLatin1" (9 : Nat) ({ cls := "java/lang/String", name := "checkIndex", desc := "(II)V" } : Jvm.MethodName) ∈ GW := gw_m (tb_3 (List.mem_of_getElem? (i := 9) rfl)) rfl
set_option maxRecDepth 100000 in
theorem tw_490 : Cond.static ({ cls := "java/lang/String", name := "checkIndex", desc := "(II)V" } : Jvm.MethodName) ∈ GW := gw_m (tb_3 (List.mem_of_getElem? (i := 10) rfl)) rfl
set_option maxRecDepth 100000 in
theorem tw_491 : Cond.code ({ cls := "java/lang/String", name := "checkIndex", desc := "(II)V" } : Jvm.MethodName) prog_20_method_155_code (2 : Nat) (Option.none : Option Jvm.ClassFile.FieldType) ∈ GW := gw_m (tb_3 (List.mem_of_getElem? (i := 11) rfl)) rfl
set_option maxRecDepth 100000 in
theorem tw_492 : Cond.fieldLink "java/lang/String" (1053 : Nat) "jdk/internal/util/Preconditions" "SIOOBE_FORMATTER" "Ljava/util/function/BiFunction;" ∈ GW := gw_m (tb_3 (List.mem_of_getElem? (i := 12) rfl)) rfl
set_option maxRecDepth 100000 in
theorem tw_494 : Cond.methodLink "java/lang/String" (1059 : Nat) ({ cls := "jdk/internal/util/Preconditions", name := "checkIndex", desc := "(IILjava/util/function/BiFunction;)I" } : Jvm.MethodName) ∈ GW := gw_m (tb_3 (List.mem_of_getElem? (i := 14) rfl)) rfl
set_option maxRecDepth 100000 in
theorem tw_495 : Cond.static ({ cls := "jdk/internal/util/Preconditions", name := "checkIndex", desc := "(IILjava/util/function/BiFunction;)I" } : Jvm.MethodName) ∈ GW := gw_m (tb_3 (List.mem_of_getElem? (i := 15) rfl)) rfl
set_option maxRecDepth 100000 in
theorem tw_496 : Cond.code ({ cls := "jdk/internal/util/Preconditions", name := "checkIndex", desc := "(IILjava/util/function/BiFunction;)I" } : Jvm.MethodName) prog_29_method_11_code (3 : Nat) (Option.some Jvm.ClassFile.FieldType.int) ∈ GW := gw_m (tb_3 (List.mem_of_getElem? (i := 16) rfl)) rfl
set_option maxRecDepth 100000 in
theorem tw_497 : Cond.methodLink "java/lang/String" (498 : Nat) ({ cls := "java/lang/StringUTF16", name := "charAt", desc := "([BI)C" } : Jvm.MethodName) ∈ GW := gw_m (tb_3 (List.mem_of_getElem? (i := 17) rfl)) rfl
set_option maxRecDepth 100000 in
theorem tw_498 : Cond.static ({ cls := "java/lang/StringUTF16", name := "charAt", desc := "([BI)C" } : Jvm.MethodName) ∈ GW := gw_m (tb_3 (List.mem_of_getElem? (i := 18) rfl)) rfl
set_option maxRecDepth 100000 in
theorem tw_499 : Cond.code ({ cls := "java/lang/StringUTF16", name := "charAt", desc := "([BI)C" } : Jvm.MethodName) prog_22_method_83_code (2 : Nat) (Option.some Jvm.ClassFile.FieldType.char) ∈ GW := gw_m (tb_3 (List.mem_of_getElem? (i := 19) rfl)) rfl
set_option maxRecDepth 100000 in
theorem tw_500 : Cond.methodLink "java/lang/StringUTF16" (67 : Nat) ({ cls := "java/lang/StringUTF16", name := "checkIndex", desc := "(I[B)V" } : Jvm.MethodName) ∈ GW := gw_m (tb_3 (List.mem_of_getElem? (i := 20) rfl)) rfl
set_option maxRecDepth 100000 in
theorem tw_501 : Cond.static ({ cls := "java/lang/StringUTF16", name := "checkIndex", desc := "(I[B)V" } : Jvm.MethodName) ∈ GW := gw_m (tb_3 (List.mem_of_getElem? (i := 21) rfl)) rfl
set_option maxRecDepth 100000 in
theorem tw_502 : Cond.code ({ cls := "java/lang/StringUTF16", name := "checkIndex", desc := "(I[B)V" } : Jvm.MethodName) prog_22_method_91_code (2 : Nat) (Option.none : Option Jvm.ClassFile.FieldType) ∈ GW := gw_m (tb_3 (List.mem_of_getElem? (i := 22) rfl)) rfl
set_option maxRecDepth 100000 in
theorem tw_503 : Cond.methodLink "java/lang/StringUTF16" (48 : Nat) ({ cls := "java/lang/StringUTF16", name := "length", desc := "([B)I" } : Jvm.MethodName) ∈ GW := gw_m (tb_3 (List.mem_of_getElem? (i := 23) rfl)) rfl
set_option maxRecDepth 100000 in
theorem tw_504 : Cond.static ({ cls := "java/lang/StringUTF16", name := "length", desc := "([B)I" } : Jvm.MethodName) ∈ GW := gw_m (tb_3 (List.mem_of_getElem? (i := 24) rfl)) rfl
set_option maxRecDepth 100000 in
theorem tw_505 : Cond.code ({ cls := "java/lang/StringUTF16", name := "length", desc := "([B)I" } : Jvm.MethodName) prog_22_method_6_code (1 : Nat) (Option.some Jvm.ClassFile.FieldType.int) ∈ GW := gw_m (tb_3 (List.mem_of_getElem? (i := 25) rfl)) rfl
set_option maxRecDepth 100000 in
theorem tw_506 : Cond.methodLink "java/lang/StringUTF16" (414 : Nat) ({ cls := "java/lang/String", name := "checkIndex", desc := "(II)V" } : Jvm.MethodName) ∈ GW := gw_m (tb_3 (List.mem_of_getElem? (i := 26) rfl)) rfl
set_option maxRecDepth 100000 in
theorem tw_507 : Cond.methodLink "java/lang/StringUTF16" (71 : Nat) ({ cls := "java/lang/StringUTF16", name := "getChar", desc := "([BI)C" } : Jvm.MethodName) ∈ GW := gw_m (tb_3 (List.mem_of_getElem? (i := 27) rfl)) rfl
set_option maxRecDepth 100000 in
theorem tw_508 : Cond.static ({ cls := "java/lang/StringUTF16", name := "getChar", desc := "([BI)C" } : Jvm.MethodName) ∈ GW := gw_m (tb_3 (List.mem_of_getElem? (i := 28) rfl)) rfl
set_option maxRecDepth 100000 in
theorem tw_509 : Cond.code ({ cls := "java/lang/StringUTF16", name := "getChar", desc := "([BI)C" } : Jvm.MethodName) prog_22_method_5_code (2 : Nat) (Option.some Jvm.ClassFile.FieldType.char) ∈ GW := gw_m (tb_3 (List.mem_of_getElem? (i := 29) rfl)) rfl
set_option maxRecDepth 100000 in
theorem tw_524 : Cond.methodLink "RenamedCells$Reader" (62 : Nat) ({ cls := "RenamedCells$Reader", name := "fails", desc := "(I)Z" } : Jvm.MethodName) ∈ GW := gw_m (tb_3 (List.mem_of_getElem? (i := 44) rfl)) rfl
set_option maxRecDepth 100000 in
theorem tw_526 : Cond.instanceMethod ({ cls := "RenamedCells$Reader", name := "fails", desc := "(I)Z" } : Jvm.MethodName) ∈ GW := gw_m (tb_3 (List.mem_of_getElem? (i := 46) rfl)) rfl
set_option maxRecDepth 100000 in
theorem tw_527 : Cond.code ({ cls := "RenamedCells$Reader", name := "fails", desc := "(I)Z" } : Jvm.MethodName) prog_8_method_4_code (2 : Nat) (Option.some Jvm.ClassFile.FieldType.boolean) ∈ GW := gw_m (tb_3 (List.mem_of_getElem? (i := 47) rfl)) rfl
set_option maxRecDepth 100000 in
theorem tw_528 : Cond.methodLink "RenamedCells$Reader" (78 : Nat) ({ cls := "RenamedCells$Reader", name := "readCore", desc := "()Z" } : Jvm.MethodName) ∈ GW := gw_m (tb_3 (List.mem_of_getElem? (i := 48) rfl)) rfl
set_option maxRecDepth 100000 in
theorem tw_530 : Cond.instanceMethod ({ cls := "RenamedCells$Reader", name := "readCore", desc := "()Z" } : Jvm.MethodName) ∈ GW := gw_m (tb_3 (List.mem_of_getElem? (i := 50) rfl)) rfl
set_option maxRecDepth 100000 in
theorem tw_531 : Cond.code ({ cls := "RenamedCells$Reader", name := "readCore", desc := "()Z" } : Jvm.MethodName) prog_8_method_8_code (1 : Nat) (Option.some Jvm.ClassFile.FieldType.boolean) ∈ GW := gw_m (tb_3 (List.mem_of_getElem? (i := 51) rfl)) rfl
set_option maxRecDepth 100000 in
theorem tw_532 : Cond.methodLink "RenamedCells$Reader" (65 : Nat) ({ cls := "RenamedCells$Reader", name := "advance", desc := "()V" } : Jvm.MethodName) ∈ GW := gw_m (tb_3 (List.mem_of_getElem? (i := 52) rfl)) rfl
set_option maxRecDepth 100000 in
theorem tw_534 : Cond.instanceMethod ({ cls := "RenamedCells$Reader", name := "advance", desc := "()V" } : Jvm.MethodName) ∈ GW := gw_m (tb_3 (List.mem_of_getElem? (i := 54) rfl)) rfl
set_option maxRecDepth 100000 in
theorem tw_535 : Cond.code ({ cls := "RenamedCells$Reader", name := "advance", desc := "()V" } : Jvm.MethodName) prog_8_method_3_code (1 : Nat) (Option.none : Option Jvm.ClassFile.FieldType) ∈ GW := gw_m (tb_3 (List.mem_of_getElem? (i := 55) rfl)) rfl
set_option maxRecDepth 100000 in
theorem tw_537 : Cond.methodLink "RenamedCells$Reader" (124 : Nat) ({ cls := "RenamedCells$Reader", name := "takesWord", desc := "(Ljava/lang/String;)Z" } : Jvm.MethodName) ∈ GW := gw_m (tb_3 (List.mem_of_getElem? (i := 57) rfl)) rfl
set_option maxRecDepth 100000 in
theorem tw_539 : Cond.instanceMethod ({ cls := "RenamedCells$Reader", name := "takesWord", desc := "(Ljava/lang/String;)Z" } : Jvm.MethodName) ∈ GW := gw_m (tb_3 (List.mem_of_getElem? (i := 59) rfl)) rfl
set_option maxRecDepth 100000 in
theorem tw_540 : Cond.code ({ cls := "RenamedCells$Reader", name := "takesWord", desc := "(Ljava/lang/String;)Z" } : Jvm.MethodName) prog_8_method_14_code (2 : Nat) (Option.some Jvm.ClassFile.FieldType.boolean) ∈ GW := gw_m (tb_3 (List.mem_of_getElem? (i := 60) rfl)) rfl
set_option maxRecDepth 100000 in
theorem tw_541 : Cond.methodLink "RenamedCells$Reader" (127 : Nat) ({ cls := "RenamedCells$Reader", name := "takesWhole", desc := "(II)Z" } : Jvm.MethodName) ∈ GW := gw_m (tb_3 (List.mem_of_getElem? (i := 61) rfl)) rfl
set_option maxRecDepth 100000 in
theorem tw_543 : Cond.instanceMethod ({ cls := "RenamedCells$Reader", name := "takesWhole", desc := "(II)Z" } : Jvm.MethodName) ∈ GW := gw_m (tb_3 (List.mem_of_getElem? (i := 63) rfl)) rfl
set_option maxRecDepth 100000 in
theorem tw_544 : Cond.code ({ cls := "RenamedCells$Reader", name := "takesWhole", desc := "(II)Z" } : Jvm.MethodName) prog_8_method_15_code (3 : Nat) (Option.some Jvm.ClassFile.FieldType.boolean) ∈ GW := gw_m (tb_3 (List.mem_of_getElem? (i := 64) rfl)) rfl
set_option maxRecDepth 100000 in
theorem tw_545 : Cond.methodLink "RenamedCells$Reader" (212 : Nat) ({ cls := "RenamedCells$Reader", name := "wholeHere", desc := "()I" } : Jvm.MethodName) ∈ GW := gw_m (tb_3 (List.mem_of_getElem? (i := 65) rfl)) rfl
set_option maxRecDepth 100000 in
theorem tw_547 : Cond.instanceMethod ({ cls := "RenamedCells$Reader", name := "wholeHere", desc := "()I" } : Jvm.MethodName) ∈ GW := gw_m (tb_3 (List.mem_of_getElem? (i := 67) rfl)) rfl
set_option maxRecDepth 100000 in
theorem tw_548 : Cond.code ({ cls := "RenamedCells$Reader", name := "wholeHere", desc := "()I" } : Jvm.MethodName) prog_8_method_17_code (3 : Nat) (Option.some Jvm.ClassFile.FieldType.int) ∈ GW := gw_m (tb_3 (List.mem_of_getElem? (i := 68) rfl)) rfl
set_option maxRecDepth 100000 in
theorem tw_554 : Cond.methodLink "RenamedCells$Reader" (85 : Nat) ({ cls := "RenamedCells$Reader", name := "readUnsure", desc := "()Z" } : Jvm.MethodName) ∈ GW := gw_m (tb_3 (List.mem_of_getElem? (i := 74) rfl)) rfl
set_option maxRecDepth 100000 in
theorem tw_556 : Cond.instanceMethod ({ cls := "RenamedCells$Reader", name := "readUnsure", desc := "()Z" } : Jvm.MethodName) ∈ GW := gw_m (tb_3 (List.mem_of_getElem? (i := 76) rfl)) rfl
set_option maxRecDepth 100000 in
theorem tw_557 : Cond.code ({ cls := "RenamedCells$Reader", name := "readUnsure", desc := "()Z" } : Jvm.MethodName) prog_8_method_12_code (2 : Nat) (Option.some Jvm.ClassFile.FieldType.boolean) ∈ GW := gw_m (tb_3 (List.mem_of_getElem? (i := 77) rfl)) rfl
set_option maxRecDepth 100000 in
theorem tw_558 : Cond.methodLink "RenamedCells$Reader" (182 : Nat) ({ cls := "RenamedCells$Program", name := "has", desc := "(I)Z" } : Jvm.MethodName) ∈ GW := gw_m (tb_3 (List.mem_of_getElem? (i := 78) rfl)) rfl
set_option maxRecDepth 100000 in
theorem tw_559 : Cond.instanceMethod ({ cls := "RenamedCells$Program", name := "has", desc := "(I)Z" } : Jvm.MethodName) ∈ GW := gw_m (tb_3 (List.mem_of_getElem? (i := 79) rfl)) rfl
set_option maxRecDepth 100000 in
theorem tw_560 : Cond.selects "RenamedCells$Program" ({ cls := "RenamedCells$Program", name := "has", desc := "(I)Z" } : Jvm.MethodName) ({ cls := "RenamedCells$Program", name := "has", desc := "(I)Z" } : Jvm.MethodName) ∈ GW := gw_m (tb_3 (List.mem_of_getElem? (i := 80) rfl)) rfl
set_option maxRecDepth 100000 in
theorem tw_561 : Cond.code ({ cls := "RenamedCells$Program", name := "has", desc := "(I)Z" } : Jvm.MethodName) prog_7_method_4_code (2 : Nat) (Option.some Jvm.ClassFile.FieldType.boolean) ∈ GW := gw_m (tb_3 (List.mem_of_getElem? (i := 81) rfl)) rfl
set_option maxRecDepth 100000 in
theorem tw_562 : Cond.methodLink "RenamedCells$Reader" (191 : Nat) ({ cls := "RenamedCells$Reader", name := "failsAt", desc := "(II)Z" } : Jvm.MethodName) ∈ GW := gw_m (tb_3 (List.mem_of_getElem? (i := 82) rfl)) rfl
set_option maxRecDepth 100000 in
theorem tw_564 : Cond.instanceMethod ({ cls := "RenamedCells$Reader", name := "failsAt", desc := "(II)Z" } : Jvm.MethodName) ∈ GW := gw_m (tb_3 (List.mem_of_getElem? (i := 84) rfl)) rfl
set_option maxRecDepth 100000 in
theorem tw_565 : Cond.code ({ cls := "RenamedCells$Reader", name := "failsAt", desc := "(II)Z" } : Jvm.MethodName) prog_8_method_5_code (3 : Nat) (Option.some Jvm.ClassFile.FieldType.boolean) ∈ GW := gw_m (tb_3 (List.mem_of_getElem? (i := 85) rfl)) rfl
set_option maxRecDepth 100000 in
theorem tw_566 : Cond.methodLink "RenamedCells$Reader" (194 : Nat) ({ cls := "RenamedCells$Program", name := "isUnsure", desc := "(I)Z" } : Jvm.MethodName) ∈ GW := gw_m (tb_3 (List.mem_of_getElem? (i := 86) rfl)) rfl
set_option maxRecDepth 100000 in
theorem tw_567 : Cond.instanceMethod ({ cls := "RenamedCells$Program", name := "isUnsure", desc := "(I)Z" } : Jvm.MethodName) ∈ GW := gw_m (tb_3 (List.mem_of_getElem? (i := 87) rfl)) rfl
set_option maxRecDepth 100000 in
theorem tw_568 : Cond.selects "RenamedCells$Program" ({ cls := "RenamedCells$Program", name := "isUnsure", desc := "(I)Z" } : Jvm.MethodName) ({ cls := "RenamedCells$Program", name := "isUnsure", desc := "(I)Z" } : Jvm.MethodName) ∈ GW := gw_m (tb_3 (List.mem_of_getElem? (i := 88) rfl)) rfl
set_option maxRecDepth 100000 in
theorem tw_569 : Cond.code ({ cls := "RenamedCells$Program", name := "isUnsure", desc := "(I)Z" } : Jvm.MethodName) prog_7_method_5_code (3 : Nat) (Option.some Jvm.ClassFile.FieldType.boolean) ∈ GW := gw_m (tb_3 (List.mem_of_getElem? (i := 89) rfl)) rfl
set_option maxRecDepth 100000 in
theorem tw_570 : Cond.methodLink "RenamedCells$Reader" (91 : Nat) ({ cls := "RenamedCells$Reader", name := "readGot", desc := "()Z" } : Jvm.MethodName) ∈ GW := gw_m (tb_3 (List.mem_of_getElem? (i := 90) rfl)) rfl
set_option maxRecDepth 100000 in
theorem tw_572 : Cond.instanceMethod ({ cls := "RenamedCells$Reader", name := "readGot", desc := "()Z" } : Jvm.MethodName) ∈ GW := gw_m (tb_3 (List.mem_of_getElem? (i := 92) rfl)) rfl
set_option maxRecDepth 100000 in
theorem tw_573 : Cond.code ({ cls := "RenamedCells$Reader", name := "readGot", desc := "()Z" } : Jvm.MethodName) prog_8_method_13_code (2 : Nat) (Option.some Jvm.ClassFile.FieldType.boolean) ∈ GW := gw_m (tb_3 (List.mem_of_getElem? (i := 93) rfl)) rfl
set_option maxRecDepth 100000 in
theorem tw_574 : Cond.methodLink "RenamedCells$Reader" (203 : Nat) ({ cls := "RenamedCells$Program", name := "isGot", desc := "(I)Z" } : Jvm.MethodName) ∈ GW := gw_m (tb_3 (List.mem_of_getElem? (i := 94) rfl)) rfl
set_option maxRecDepth 100000 in
theorem tw_575 : Cond.instanceMethod ({ cls := "RenamedCells$Program", name := "isGot", desc := "(I)Z" } : Jvm.MethodName) ∈ GW := gw_m (tb_3 (List.mem_of_getElem? (i := 95) rfl)) rfl
set_option maxRecDepth 100000 in
theorem tw_576 : Cond.selects "RenamedCells$Program" ({ cls := "RenamedCells$Program", name := "isGot", desc := "(I)Z" } : Jvm.MethodName) ({ cls := "RenamedCells$Program", name := "isGot", desc := "(I)Z" } : Jvm.MethodName) ∈ GW := gw_m (tb_3 (List.mem_of_getElem? (i := 96) rfl)) rfl
set_option maxRecDepth 100000 in
theorem tw_577 : Cond.code ({ cls := "RenamedCells$Program", name := "isGot", desc := "(I)Z" } : Jvm.MethodName) prog_7_method_6_code (3 : Nat) (Option.some Jvm.ClassFile.FieldType.boolean) ∈ GW := gw_m (tb_3 (List.mem_of_getElem? (i := 97) rfl)) rfl
set_option maxRecDepth 100000 in
theorem tw_578 : Cond.methodLink "RenamedCells$Reader" (94 : Nat) ({ cls := "RenamedCells$Reader", name := "readSkip", desc := "()Z" } : Jvm.MethodName) ∈ GW := gw_m (tb_3 (List.mem_of_getElem? (i := 98) rfl)) rfl
set_option maxRecDepth 100000 in
theorem tw_580 : Cond.instanceMethod ({ cls := "RenamedCells$Reader", name := "readSkip", desc := "()Z" } : Jvm.MethodName) ∈ GW := gw_m (tb_3 (List.mem_of_getElem? (i := 100) rfl)) rfl
set_option maxRecDepth 100000 in
theorem tw_581 : Cond.code ({ cls := "RenamedCells$Reader", name := "readSkip", desc := "()Z" } : Jvm.MethodName) prog_8_method_9_code (2 : Nat) (Option.some Jvm.ClassFile.FieldType.boolean) ∈ GW := gw_m (tb_3 (List.mem_of_getElem? (i := 101) rfl)) rfl
set_option maxRecDepth 100000 in
theorem tw_582 : Cond.methodLink "RenamedCells$Reader" (155 : Nat) ({ cls := "RenamedCells$Program", name := "emptyStep", desc := "(I)I" } : Jvm.MethodName) ∈ GW := gw_m (tb_3 (List.mem_of_getElem? (i := 102) rfl)) rfl
set_option maxRecDepth 100000 in
theorem tw_583 : Cond.instanceMethod ({ cls := "RenamedCells$Program", name := "emptyStep", desc := "(I)I" } : Jvm.MethodName) ∈ GW := gw_m (tb_3 (List.mem_of_getElem? (i := 103) rfl)) rfl
set_option maxRecDepth 100000 in
theorem tw_584 : Cond.selects "RenamedCells$Program" ({ cls := "RenamedCells$Program", name := "emptyStep", desc := "(I)I" } : Jvm.MethodName) ({ cls := "RenamedCells$Program", name := "emptyStep", desc := "(I)I" } : Jvm.MethodName) ∈ GW := gw_m (tb_3 (List.mem_of_getElem? (i := 104) rfl)) rfl
set_option maxRecDepth 100000 in
theorem tw_585 : Cond.code ({ cls := "RenamedCells$Program", name := "emptyStep", desc := "(I)I" } : Jvm.MethodName) prog_7_method_3_code (3 : Nat) (Option.some Jvm.ClassFile.FieldType.int) ∈ GW := gw_m (tb_3 (List.mem_of_getElem? (i := 105) rfl)) rfl
set_option maxRecDepth 100000 in
theorem tw_586 : Cond.methodLink "RenamedCells$Reader" (159 : Nat) ({ cls := "RenamedCells$Reader", name := "takesPair", desc := "(I)Z" } : Jvm.MethodName) ∈ GW := gw_m (tb_3 (List.mem_of_getElem? (i := 106) rfl)) rfl
set_option maxRecDepth 100000 in
theorem tw_588 : Cond.instanceMethod ({ cls := "RenamedCells$Reader", name := "takesPair", desc := "(I)Z" } : Jvm.MethodName) ∈ GW := gw_m (tb_3 (List.mem_of_getElem? (i := 108) rfl)) rfl
set_option maxRecDepth 100000 in
theorem tw_589 : Cond.code ({ cls := "RenamedCells$Reader", name := "takesPair", desc := "(I)Z" } : Jvm.MethodName) prog_8_method_11_code (3 : Nat) (Option.some Jvm.ClassFile.FieldType.boolean) ∈ GW := gw_m (tb_3 (List.mem_of_getElem? (i := 109) rfl)) rfl
set_option maxRecDepth 100000 in
theorem tw_592 : Cond.methodLink "RenamedCells$Reader" (97 : Nat) ({ cls := "RenamedCells$Reader", name := "readChange", desc := "(I)Z" } : Jvm.MethodName) ∈ GW := gw_m (tb_3 (List.mem_of_getElem? (i := 112) rfl)) rfl
set_option maxRecDepth 100000 in
theorem tw_594 : Cond.instanceMethod ({ cls := "RenamedCells$Reader", name := "readChange", desc := "(I)Z" } : Jvm.MethodName) ∈ GW := gw_m (tb_3 (List.mem_of_getElem? (i := 114) rfl)) rfl
set_option maxRecDepth 100000 in
theorem tw_595 : Cond.code ({ cls := "RenamedCells$Reader", name := "readChange", desc := "(I)Z" } : Jvm.MethodName) prog_8_method_10_code (4 : Nat) (Option.some Jvm.ClassFile.FieldType.boolean) ∈ GW := gw_m (tb_3 (List.mem_of_getElem? (i := 115) rfl)) rfl
set_option maxRecDepth 100000 in
theorem tw_596 : Cond.methodLink "RenamedCells" (93 : Nat) ({ cls := "RenamedCells", name := "beginWithDraft", desc := "()V" } : Jvm.MethodName) ∈ GW := gw_m (tb_3 (List.mem_of_getElem? (i := 116) rfl)) rfl
set_option maxRecDepth 100000 in
theorem tw_598 : Cond.instanceMethod ({ cls := "RenamedCells", name := "beginWithDraft", desc := "()V" } : Jvm.MethodName) ∈ GW := gw_m (tb_3 (List.mem_of_getElem? (i := 118) rfl)) rfl
set_option maxRecDepth 100000 in
theorem tw_599 : Cond.code ({ cls := "RenamedCells", name := "beginWithDraft", desc := "()V" } : Jvm.MethodName) prog_1_method_5_code (2 : Nat) (Option.none : Option Jvm.ClassFile.FieldType) ∈ GW := gw_m (tb_3 (List.mem_of_getElem? (i := 119) rfl)) rfl
set_option maxRecDepth 100000 in
theorem tw_600 : Cond.methodLink "RenamedCells" (102 : Nat) ({ cls := "RenamedCells$Machine", name := "begin", desc := "(LRenamedCells$Program;I)V" } : Jvm.MethodName) ∈ GW := gw_m (tb_3 (List.mem_of_getElem? (i := 120) rfl)) rfl
set_option maxRecDepth 100000 in
theorem tw_601 : Cond.instanceMethod ({ cls := "RenamedCells$Machine", name := "begin", desc := "(LRenamedCells$Program;I)V" } : Jvm.MethodName) ∈ GW := gw_m (tb_3 (List.mem_of_getElem? (i := 121) rfl)) rfl
set_option maxRecDepth 100000 in
theorem tw_602 : Cond.selects "RenamedCells$Machine" ({ cls := "RenamedCells$Machine", name := "begin", desc := "(LRenamedCells$Program;I)V" } : Jvm.MethodName) ({ cls := "RenamedCells$Machine", name := "begin", desc := "(LRenamedCells$Program;I)V" } : Jvm.MethodName) ∈ GW := gw_m (tb_3 (List.mem_of_getElem? (i := 122) rfl)) rfl
set_option maxRecDepth 100000 in
theorem tw_603 : Cond.code ({ cls := "RenamedCells$Machine", name := "begin", desc := "(LRenamedCells$Program;I)V" } : Jvm.MethodName) prog_5_method_2_code (4 : Nat) (Option.none : Option Jvm.ClassFile.FieldType) ∈ GW := gw_m (tb_3 (List.mem_of_getElem? (i := 123) rfl)) rfl
set_option maxRecDepth 100000 in
theorem tw_604 : Cond.methodLink "RenamedCells$Machine" (38 : Nat) ({ cls := "java/util/Arrays", name := "fill", desc := "([II)V" } : Jvm.MethodName) ∈ GW := gw_m (tb_3 (List.mem_of_getElem? (i := 124) rfl)) rfl
set_option maxRecDepth 100000 in
theorem tw_605 : Cond.static ({ cls := "java/util/Arrays", name := "fill", desc := "([II)V" } : Jvm.MethodName) ∈ GW := gw_m (tb_3 (List.mem_of_getElem? (i := 125) rfl)) rfl
set_option maxRecDepth 100000 in
theorem tw_606 : Cond.code ({ cls := "java/util/Arrays", name := "fill", desc := "([II)V" } : Jvm.MethodName) prog_27_method_103_code (4 : Nat) (Option.none : Option Jvm.ClassFile.FieldType) ∈ GW := gw_m (tb_3 (List.mem_of_getElem? (i := 126) rfl)) rfl
set_option maxRecDepth 100000 in
theorem tw_607 : Cond.methodLink "RenamedCells$Machine" (50 : Nat) ({ cls := "RenamedCells$Machine", name := "keepOldest", desc := "(I)V" } : Jvm.MethodName) ∈ GW := gw_m (tb_3 (List.mem_of_getElem? (i := 127) rfl)) rfl
set_option maxRecDepth 100000 in
theorem tw_609 : Cond.instanceMethod ({ cls := "RenamedCells$Machine", name := "keepOldest", desc := "(I)V" } : Jvm.MethodName) ∈ GW := gw_m (tb_3 (List.mem_of_getElem? (i := 129) rfl)) rfl
set_option maxRecDepth 100000 in
theorem tw_610 : Cond.code ({ cls := "RenamedCells$Machine", name := "keepOldest", desc := "(I)V" } : Jvm.MethodName) prog_5_method_4_code (3 : Nat) (Option.none : Option Jvm.ClassFile.FieldType) ∈ GW := gw_m (tb_3 (List.mem_of_getElem? (i := 130) rfl)) rfl
set_option maxRecDepth 100000 in
theorem tw_611 : Cond.methodLink "RenamedCells" (106 : Nat) ({ cls := "RenamedCells$History", name := "forget", desc := "()V" } : Jvm.MethodName) ∈ GW := gw_m (tb_3 (List.mem_of_getElem? (i := 131) rfl)) rfl
set_option maxRecDepth 100000 in
theorem tw_612 : Cond.instanceMethod ({ cls := "RenamedCells$History", name := "forget", desc := "()V" } : Jvm.MethodName) ∈ GW := gw_m (tb_3 (List.mem_of_getElem? (i := 132) rfl)) rfl
set_option maxRecDepth 100000 in
theorem tw_613 : Cond.selects "RenamedCells$History" ({ cls := "RenamedCells$History", name := "forget", desc := "()V" } : Jvm.MethodName) ({ cls := "RenamedCells$History", name := "forget", desc := "()V" } : Jvm.MethodName) ∈ GW := gw_m (tb_3 (List.mem_of_getElem? (i := 133) rfl)) rfl
set_option maxRecDepth 100000 in
theorem tw_614 : Cond.code ({ cls := "RenamedCells$History", name := "forget", desc := "()V" } : Jvm.MethodName) prog_4_method_2_code (1 : Nat) (Option.none : Option Jvm.ClassFile.FieldType) ∈ GW := gw_m (tb_3 (List.mem_of_getElem? (i := 134) rfl)) rfl
set_option maxRecDepth 100000 in
theorem tw_615 : Cond.methodLink "RenamedCells" (109 : Nat) ({ cls := "RenamedCells$Cycles", name := "forget", desc := "()V" } : Jvm.MethodName) ∈ GW := gw_m (tb_3 (List.mem_of_getElem? (i := 135) rfl)) rfl
set_option maxRecDepth 100000 in
theorem tw_616 : Cond.instanceMethod ({ cls := "RenamedCells$Cycles", name := "forget", desc := "()V" } : Jvm.MethodName) ∈ GW := gw_m (tb_3 (List.mem_of_getElem? (i := 136) rfl)) rfl
set_option maxRecDepth 100000 in
theorem tw_617 : Cond.selects "RenamedCells$Cycles" ({ cls := "RenamedCells$Cycles", name := "forget", desc := "()V" } : Jvm.MethodName) ({ cls := "RenamedCells$Cycles", name := "forget", desc := "()V" } : Jvm.MethodName) ∈ GW := gw_m (tb_3 (List.mem_of_getElem? (i := 137) rfl)) rfl
set_option maxRecDepth 100000 in
theorem tw_618 : Cond.code ({ cls := "RenamedCells$Cycles", name := "forget", desc := "()V" } : Jvm.MethodName) prog_2_method_2_code (1 : Nat) (Option.none : Option Jvm.ClassFile.FieldType) ∈ GW := gw_m (tb_3 (List.mem_of_getElem? (i := 138) rfl)) rfl
set_option maxRecDepth 100000 in
theorem tw_619 : Cond.methodLink "RenamedCells$Cycles" (33 : Nat) ({ cls := "java/util/Arrays", name := "fill", desc := "([II)V" } : Jvm.MethodName) ∈ GW := gw_m (tb_3 (List.mem_of_getElem? (i := 139) rfl)) rfl
set_option maxRecDepth 100000 in
theorem tw_620 : Cond.methodLink "RenamedCells" (110 : Nat) ({ cls := "RenamedCells$Fits", name := "find", desc := "(LRenamedCells$Program;LRenamedCells$Plain;)V" } : Jvm.MethodName) ∈ GW := gw_m (tb_3 (List.mem_of_getElem? (i := 140) rfl)) rfl
set_option maxRecDepth 100000 in
theorem tw_621 : Cond.instanceMethod ({ cls := "RenamedCells$Fits", name := "find", desc := "(LRenamedCells$Program;LRenamedCells$Plain;)V" } : Jvm.MethodName) ∈ GW := gw_m (tb_3 (List.mem_of_getElem? (i := 141) rfl)) rfl
set_option maxRecDepth 100000 in
theorem tw_622 : Cond.selects "RenamedCells$Fits" ({ cls := "RenamedCells$Fits", name := "find", desc := "(LRenamedCells$Program;LRenamedCells$Plain;)V" } : Jvm.MethodName) ({ cls := "RenamedCells$Fits", name := "find", desc := "(LRenamedCells$Program;LRenamedCells$Plain;)V" } : Jvm.MethodName) ∈ GW := gw_m (tb_3 (List.mem_of_getElem? (i := 142) rfl)) rfl
set_option maxRecDepth 100000 in
theorem tw_623 : Cond.code ({ cls := "RenamedCells$Fits", name := "find", desc := "(LRenamedCells$Program;LRenamedCells$Plain;)V" } : Jvm.MethodName) prog_3_method_2_code (4 : Nat) (Option.none : Option Jvm.ClassFile.FieldType) ∈ GW := gw_m (tb_3 (List.mem_of_getElem? (i := 143) rfl)) rfl
set_option maxRecDepth 100000 in
theorem tw_624 : Cond.methodLink "RenamedCells$Fits" (21 : Nat) ({ cls := "RenamedCells$Plain", name := "play", desc := "(LRenamedCells$Program;II)V" } : Jvm.MethodName) ∈ GW := gw_m (tb_3 (List.mem_of_getElem? (i := 144) rfl)) rfl
set_option maxRecDepth 100000 in
theorem tw_625 : Cond.instanceMethod ({ cls := "RenamedCells$Plain", name := "play", desc := "(LRenamedCells$Program;II)V" } : Jvm.MethodName) ∈ GW := gw_m (tb_3 (List.mem_of_getElem? (i := 145) rfl)) rfl
set_option maxRecDepth 100000 in
theorem tw_626 : Cond.selects "RenamedCells$Plain" ({ cls := "RenamedCells$Plain", name := "play", desc := "(LRenamedCells$Program;II)V" } : Jvm.MethodName) ({ cls := "RenamedCells$Plain", name := "play", desc := "(LRenamedCells$Program;II)V" } : Jvm.MethodName) ∈ GW := gw_m (tb_3 (List.mem_of_getElem? (i := 146) rfl)) rfl
set_option maxRecDepth 100000 in
theorem tw_627 : Cond.code ({ cls := "RenamedCells$Plain", name := "play", desc := "(LRenamedCells$Program;II)V" } : Jvm.MethodName) prog_6_method_2_code (5 : Nat) (Option.none : Option Jvm.ClassFile.FieldType) ∈ GW := gw_m (tb_3 (List.mem_of_getElem? (i := 147) rfl)) rfl
set_option maxRecDepth 100000 in
theorem tw_628 : Cond.methodLink "RenamedCells$Plain" (15 : Nat) ({ cls := "java/util/Arrays", name := "fill", desc := "([II)V" } : Jvm.MethodName) ∈ GW := gw_m (tb_3 (List.mem_of_getElem? (i := 148) rfl)) rfl
set_option maxRecDepth 100000 in
theorem tw_629 : Cond.methodLink "RenamedCells$Plain" (35 : Nat) ({ cls := "RenamedCells$Program", name := "has", desc := "(I)Z" } : Jvm.MethodName) ∈ GW := gw_m (tb_3 (List.mem_of_getElem? (i := 149) rfl)) rfl
set_option maxRecDepth 100000 in
theorem tw_630 : Cond.methodLink "RenamedCells$Plain" (41 : Nat) ({ cls := "RenamedCells$Plain", name := "playStep", desc := "(LRenamedCells$Program;I)V" } : Jvm.MethodName) ∈ GW := gw_m (tb_3 (List.mem_of_getElem? (i := 150) rfl)) rfl
set_option maxRecDepth 100000 in
theorem tw_632 : Cond.instanceMethod ({ cls := "RenamedCells$Plain", name := "playStep", desc := "(LRenamedCells$Program;I)V" } : Jvm.MethodName) ∈ GW := gw_m (tb_3 (List.mem_of_getElem? (i := 152) rfl)) rfl
set_option maxRecDepth 100000 in
theorem tw_633 : Cond.code ({ cls := "RenamedCells$Plain", name := "playStep", desc := "(LRenamedCells$Program;I)V" } : Jvm.MethodName) prog_6_method_3_code (8 : Nat) (Option.none : Option Jvm.ClassFile.FieldType) ∈ GW := gw_m (tb_3 (List.mem_of_getElem? (i := 153) rfl)) rfl
set_option maxRecDepth 100000 in
theorem tw_634 : Cond.methodLink "RenamedCells$Plain" (48 : Nat) ({ cls := "RenamedCells$Plain", name := "read", desc := "(I)I" } : Jvm.MethodName) ∈ GW := gw_m (tb_3 (List.mem_of_getElem? (i := 154) rfl)) rfl
set_option maxRecDepth 100000 in
theorem tw_636 : Cond.instanceMethod ({ cls := "RenamedCells$Plain", name := "read", desc := "(I)I" } : Jvm.MethodName) ∈ GW := gw_m (tb_3 (List.mem_of_getElem? (i := 156) rfl)) rfl
set_option maxRecDepth 100000 in
theorem tw_637 : Cond.code ({ cls := "RenamedCells$Plain", name := "read", desc := "(I)I" } : Jvm.MethodName) prog_6_method_4_code (2 : Nat) (Option.some Jvm.ClassFile.FieldType.int) ∈ GW := gw_m (tb_3 (List.mem_of_getElem? (i := 157) rfl)) rfl
set_option maxRecDepth 100000 in
theorem nw_638 : Cond.methodLinkNest "RenamedCells$Plain" (75 : Nat) ({ cls := "RenamedCells", name := "isRegister", desc := "(I)Z" } : Jvm.MethodName) "RenamedCells" ∈ NW := nw_m (tb_3 (List.mem_of_getElem? (i := 158) rfl)) rfl
set_option maxRecDepth 100000 in
theorem tw_639 : Cond.static ({ cls := "RenamedCells", name := "isRegister", desc := "(I)Z" } : Jvm.MethodName) ∈ GW := gw_m (tb_3 (List.mem_of_getElem? (i := 159) rfl)) rfl
set_option maxRecDepth 100000 in
theorem tw_640 : Cond.code ({ cls := "RenamedCells", name := "isRegister", desc := "(I)Z" } : Jvm.MethodName) prog_1_method_64_code (1 : Nat) (Option.some Jvm.ClassFile.FieldType.boolean) ∈ GW := gw_m (tb_3 (List.mem_of_getElem? (i := 160) rfl)) rfl
set_option maxRecDepth 100000 in
theorem tw_641 : Cond.methodLink "RenamedCells$Plain" (58 : Nat) ({ cls := "RenamedCells$Program", name := "nextBehind", desc := "(III)I" } : Jvm.MethodName) ∈ GW := gw_m (tb_3 (List.mem_of_getElem? (i := 161) rfl)) rfl
set_option maxRecDepth 100000 in
theorem tw_642 : Cond.instanceMethod ({ cls := "RenamedCells$Program", name := "nextBehind", desc := "(III)I" } : Jvm.MethodName) ∈ GW := gw_m (tb_3 (List.mem_of_getElem? (i := 162) rfl)) rfl
set_option maxRecDepth 100000 in
theorem tw_643 : Cond.selects "RenamedCells$Program" ({ cls := "RenamedCells$Program", name := "nextBehind", desc := "(III)I" } : Jvm.MethodName) ({ cls := "RenamedCells$Program", name := "nextBehind", desc := "(III)I" } : Jvm.MethodName) ∈ GW := gw_m (tb_3 (List.mem_of_getElem? (i := 163) rfl)) rfl
set_option maxRecDepth 100000 in
theorem tw_644 : Cond.code ({ cls := "RenamedCells$Program", name := "nextBehind", desc := "(III)I" } : Jvm.MethodName) prog_7_method_10_code (4 : Nat) (Option.some Jvm.ClassFile.FieldType.int) ∈ GW := gw_m (tb_3 (List.mem_of_getElem? (i := 164) rfl)) rfl
set_option maxRecDepth 100000 in
theorem tw_645 : Cond.methodLink "RenamedCells$Plain" (62 : Nat) ({ cls := "RenamedCells$Program", name := "guessBehind", desc := "(I)I" } : Jvm.MethodName) ∈ GW := gw_m (tb_3 (List.mem_of_getElem? (i := 165) rfl)) rfl
set_option maxRecDepth 100000 in
theorem tw_646 : Cond.instanceMethod ({ cls := "RenamedCells$Program", name := "guessBehind", desc := "(I)I" } : Jvm.MethodName) ∈ GW := gw_m (tb_3 (List.mem_of_getElem? (i := 166) rfl)) rfl
set_option maxRecDepth 100000 in
theorem tw_647 : Cond.selects "RenamedCells$Program" ({ cls := "RenamedCells$Program", name := "guessBehind", desc := "(I)I" } : Jvm.MethodName) ({ cls := "RenamedCells$Program", name := "guessBehind", desc := "(I)I" } : Jvm.MethodName) ∈ GW := gw_m (tb_3 (List.mem_of_getElem? (i := 167) rfl)) rfl
set_option maxRecDepth 100000 in
theorem tw_648 : Cond.code ({ cls := "RenamedCells$Program", name := "guessBehind", desc := "(I)I" } : Jvm.MethodName) prog_7_method_11_code (2 : Nat) (Option.some Jvm.ClassFile.FieldType.int) ∈ GW := gw_m (tb_3 (List.mem_of_getElem? (i := 168) rfl)) rfl
set_option maxRecDepth 100000 in
theorem tw_649 : Cond.methodLink "RenamedCells$Plain" (65 : Nat) ({ cls := "RenamedCells$Program", name := "numberBy", desc := "(II)I" } : Jvm.MethodName) ∈ GW := gw_m (tb_3 (List.mem_of_getElem? (i := 169) rfl)) rfl
set_option maxRecDepth 100000 in
theorem tw_650 : Cond.instanceMethod ({ cls := "RenamedCells$Program", name := "numberBy", desc := "(II)I" } : Jvm.MethodName) ∈ GW := gw_m (tb_3 (List.mem_of_getElem? (i := 170) rfl)) rfl
set_option maxRecDepth 100000 in
theorem tw_651 : Cond.selects "RenamedCells$Program" ({ cls := "RenamedCells$Program", name := "numberBy", desc := "(II)I" } : Jvm.MethodName) ({ cls := "RenamedCells$Program", name := "numberBy", desc := "(II)I" } : Jvm.MethodName) ∈ GW := gw_m (tb_3 (List.mem_of_getElem? (i := 171) rfl)) rfl
set_option maxRecDepth 100000 in
theorem tw_652 : Cond.code ({ cls := "RenamedCells$Program", name := "numberBy", desc := "(II)I" } : Jvm.MethodName) prog_7_method_7_code (4 : Nat) (Option.some Jvm.ClassFile.FieldType.int) ∈ GW := gw_m (tb_3 (List.mem_of_getElem? (i := 172) rfl)) rfl
set_option maxRecDepth 100000 in
theorem tw_653 : Cond.methodLink "RenamedCells$Plain" (69 : Nat) ({ cls := "RenamedCells$Program", name := "outcome", desc := "(III)I" } : Jvm.MethodName) ∈ GW := gw_m (tb_3 (List.mem_of_getElem? (i := 173) rfl)) rfl
set_option maxRecDepth 100000 in
theorem tw_654 : Cond.instanceMethod ({ cls := "RenamedCells$Program", name := "outcome", desc := "(III)I" } : Jvm.MethodName) ∈ GW := gw_m (tb_3 (List.mem_of_getElem? (i := 174) rfl)) rfl
set_option maxRecDepth 100000 in
theorem tw_655 : Cond.selects "RenamedCells$Program" ({ cls := "RenamedCells$Program", name := "outcome", desc := "(III)I" } : Jvm.MethodName) ({ cls := "RenamedCells$Program", name := "outcome", desc := "(III)I" } : Jvm.MethodName) ∈ GW := gw_m (tb_3 (List.mem_of_getElem? (i := 175) rfl)) rfl
set_option maxRecDepth 100000 in
theorem tw_656 : Cond.code ({ cls := "RenamedCells$Program", name := "outcome", desc := "(III)I" } : Jvm.MethodName) prog_7_method_9_code (4 : Nat) (Option.some Jvm.ClassFile.FieldType.int) ∈ GW := gw_m (tb_3 (List.mem_of_getElem? (i := 176) rfl)) rfl
set_option maxRecDepth 100000 in
theorem tw_657 : Cond.methodLink "RenamedCells$Fits" (27 : Nat) ({ cls := "RenamedCells$Plain", name := "firstNotGot", desc := "(LRenamedCells$Program;)I" } : Jvm.MethodName) ∈ GW := gw_m (tb_3 (List.mem_of_getElem? (i := 177) rfl)) rfl
set_option maxRecDepth 100000 in
theorem tw_658 : Cond.instanceMethod ({ cls := "RenamedCells$Plain", name := "firstNotGot", desc := "(LRenamedCells$Program;)I" } : Jvm.MethodName) ∈ GW := gw_m (tb_3 (List.mem_of_getElem? (i := 178) rfl)) rfl
set_option maxRecDepth 100000 in
theorem tw_659 : Cond.selects "RenamedCells$Plain" ({ cls := "RenamedCells$Plain", name := "firstNotGot", desc := "(LRenamedCells$Program;)I" } : Jvm.MethodName) ({ cls := "RenamedCells$Plain", name := "firstNotGot", desc := "(LRenamedCells$Program;)I" } : Jvm.MethodName) ∈ GW := gw_m (tb_3 (List.mem_of_getElem? (i := 179) rfl)) rfl
set_option maxRecDepth 100000 in
theorem tw_660 : Cond.code ({ cls := "RenamedCells$Plain", name := "firstNotGot", desc := "(LRenamedCells$Program;)I" } : Jvm.MethodName) prog_6_method_5_code (3 : Nat) (Option.some Jvm.ClassFile.FieldType.int) ∈ GW := gw_m (tb_3 (List.mem_of_getElem? (i := 180) rfl)) rfl
set_option maxRecDepth 100000 in
theorem tw_661 : Cond.methodLink "RenamedCellsLaw" (28 : Nat) ({ cls := "RenamedCells", name := "fault", desc := "()I" } : Jvm.MethodName) ∈ GW := gw_m (tb_3 (List.mem_of_getElem? (i := 181) rfl)) rfl
set_option maxRecDepth 100000 in
theorem tw_662 : Cond.instanceMethod ({ cls := "RenamedCells", name := "fault", desc := "()I" } : Jvm.MethodName) ∈ GW := gw_m (tb_3 (List.mem_of_getElem? (i := 182) rfl)) rfl
set_option maxRecDepth 100000 in
theorem tw_663 : Cond.selects "RenamedCells" ({ cls := "RenamedCells", name := "fault", desc := "()I" } : Jvm.MethodName) ({ cls := "RenamedCells", name := "fault", desc := "()I" } : Jvm.MethodName) ∈ GW := gw_m (tb_3 (List.mem_of_getElem? (i := 183) rfl)) rfl
set_option maxRecDepth 100000 in
theorem tw_664 : Cond.code ({ cls := "RenamedCells", name := "fault", desc := "()I" } : Jvm.MethodName) prog_1_method_6_code (1 : Nat) (Option.some Jvm.ClassFile.FieldType.int) ∈ GW := gw_m (tb_3 (List.mem_of_getElem? (i := 184) rfl)) rfl
set_option maxRecDepth 100000 in
theorem tw_665 : Cond.methodLink "RenamedCellsLaw" (33 : Nat) ({ cls := "RenamedCells", name := "where", desc := "()I" } : Jvm.MethodName) ∈ GW := gw_m (tb_3 (List.mem_of_getElem? (i := 185) rfl)) rfl
set_option maxRecDepth 100000 in
theorem tw_666 : Cond.instanceMethod ({ cls := "RenamedCells", name := "where", desc := "()I" } : Jvm.MethodName) ∈ GW := gw_m (tb_3 (List.mem_of_getElem? (i := 186) rfl)) rfl
set_option maxRecDepth 100000 in
theorem tw_667 : Cond.selects "RenamedCells" ({ cls := "RenamedCells", name := "where", desc := "()I" } : Jvm.MethodName) ({ cls := "RenamedCells", name := "where", desc := "()I" } : Jvm.MethodName) ∈ GW := gw_m (tb_3 (List.mem_of_getElem? (i := 187) rfl)) rfl
set_option maxRecDepth 100000 in
theorem tw_668 : Cond.code ({ cls := "RenamedCells", name := "where", desc := "()I" } : Jvm.MethodName) prog_1_method_7_code (1 : Nat) (Option.some Jvm.ClassFile.FieldType.int) ∈ GW := gw_m (tb_3 (List.mem_of_getElem? (i := 188) rfl)) rfl
set_option maxRecDepth 100000 in
theorem tw_669 : Cond.methodLink "RenamedCellsLaw" (37 : Nat) ({ cls := "RenamedCells", name := "plainSteps", desc := "()I" } : Jvm.MethodName) ∈ GW := gw_m (tb_3 (List.mem_of_getElem? (i := 189) rfl)) rfl
set_option maxRecDepth 100000 in
theorem tw_670 : Cond.instanceMethod ({ cls := "RenamedCells", name := "plainSteps", desc := "()I" } : Jvm.MethodName) ∈ GW := gw_m (tb_3 (List.mem_of_getElem? (i := 190) rfl)) rfl
set_option maxRecDepth 100000 in
theorem tw_671 : Cond.selects "RenamedCells" ({ cls := "RenamedCells", name := "plainSteps", desc := "()I" } : Jvm.MethodName) ({ cls := "RenamedCells", name := "plainSteps", desc := "()I" } : Jvm.MethodName) ∈ GW := gw_m (tb_3 (List.mem_of_getElem? (i := 191) rfl)) rfl
set_option maxRecDepth 100000 in
theorem tw_672 : Cond.code ({ cls := "RenamedCells", name := "plainSteps", desc := "()I" } : Jvm.MethodName) prog_1_method_8_code (1 : Nat) (Option.some Jvm.ClassFile.FieldType.int) ∈ GW := gw_m (tb_3 (List.mem_of_getElem? (i := 192) rfl)) rfl
set_option maxRecDepth 100000 in
theorem tw_673 : Cond.methodLink "RenamedCells" (120 : Nat) ({ cls := "RenamedCells", name := "plainTotal", desc := "()I" } : Jvm.MethodName) ∈ GW := gw_m (tb_3 (List.mem_of_getElem? (i := 193) rfl)) rfl
set_option maxRecDepth 100000 in
theorem tw_675 : Cond.instanceMethod ({ cls := "RenamedCells", name := "plainTotal", desc := "()I" } : Jvm.MethodName) ∈ GW := gw_m (tb_3 (List.mem_of_getElem? (i := 195) rfl)) rfl
set_option maxRecDepth 100000 in
theorem tw_676 : Cond.code ({ cls := "RenamedCells", name := "plainTotal", desc := "()I" } : Jvm.MethodName) prog_1_method_9_code (1 : Nat) (Option.some Jvm.ClassFile.FieldType.int) ∈ GW := gw_m (tb_3 (List.mem_of_getElem? (i := 196) rfl)) rfl
set_option maxRecDepth 100000 in
theorem tw_677 : Cond.methodLink "RenamedCells" (124 : Nat) ({ cls := "RenamedCells$Plain", name := "play", desc := "(LRenamedCells$Program;II)V" } : Jvm.MethodName) ∈ GW := gw_m (tb_3 (List.mem_of_getElem? (i := 197) rfl)) rfl
set_option maxRecDepth 100000 in
theorem tw_678 : Cond.methodLink "RenamedCellsLaw" (41 : Nat) ({ cls := "RenamedCells", name := "plainEnd", desc := "()I" } : Jvm.MethodName) ∈ GW := gw_m (tb_3 (List.mem_of_getElem? (i := 198) rfl)) rfl
set_option maxRecDepth 100000 in
theorem tw_679 : Cond.instanceMethod ({ cls := "RenamedCells", name := "plainEnd", desc := "()I" } : Jvm.MethodName) ∈ GW := gw_m (tb_3 (List.mem_of_getElem? (i := 199) rfl)) rfl
set_option maxRecDepth 100000 in
theorem tw_680 : Cond.selects "RenamedCells" ({ cls := "RenamedCells", name := "plainEnd", desc := "()I" } : Jvm.MethodName) ({ cls := "RenamedCells", name := "plainEnd", desc := "()I" } : Jvm.MethodName) ∈ GW := gw_m (tb_3 (List.mem_of_getElem? (i := 200) rfl)) rfl
set_option maxRecDepth 100000 in
theorem tw_681 : Cond.code ({ cls := "RenamedCells", name := "plainEnd", desc := "()I" } : Jvm.MethodName) prog_1_method_10_code (1 : Nat) (Option.some Jvm.ClassFile.FieldType.int) ∈ GW := gw_m (tb_3 (List.mem_of_getElem? (i := 201) rfl)) rfl
set_option maxRecDepth 100000 in
theorem tw_682 : Cond.methodLink "RenamedCells" (137 : Nat) ({ cls := "RenamedCells$Program", name := "has", desc := "(I)Z" } : Jvm.MethodName) ∈ GW := gw_m (tb_3 (List.mem_of_getElem? (i := 202) rfl)) rfl
set_option maxRecDepth 100000 in
theorem tw_683 : Cond.methodLink "RenamedCellsLaw" (45 : Nat) ({ cls := "RenamedCells", name := "plainAt", desc := "(II)I" } : Jvm.MethodName) ∈ GW := gw_m (tb_3 (List.mem_of_getElem? (i := 203) rfl)) rfl
set_option maxRecDepth 100000 in
theorem tw_684 : Cond.instanceMethod ({ cls := "RenamedCells", name := "plainAt", desc := "(II)I" } : Jvm.MethodName) ∈ GW := gw_m (tb_3 (List.mem_of_getElem? (i := 204) rfl)) rfl
set_option maxRecDepth 100000 in
theorem tw_685 : Cond.selects "RenamedCells" ({ cls := "RenamedCells", name := "plainAt", desc := "(II)I" } : Jvm.MethodName) ({ cls := "RenamedCells", name := "plainAt", desc := "(II)I" } : Jvm.MethodName) ∈ GW := gw_m (tb_3 (List.mem_of_getElem? (i := 205) rfl)) rfl
set_option maxRecDepth 100000 in
theorem tw_686 : Cond.code ({ cls := "RenamedCells", name := "plainAt", desc := "(II)I" } : Jvm.MethodName) prog_1_method_11_code (3 : Nat) (Option.some Jvm.ClassFile.FieldType.int) ∈ GW := gw_m (tb_3 (List.mem_of_getElem? (i := 206) rfl)) rfl
set_option maxRecDepth 100000 in
theorem tw_687 : Cond.methodLink "RenamedCells" (141 : Nat) ({ cls := "RenamedCells", name := "isRegister", desc := "(I)Z" } : Jvm.MethodName) ∈ GW := gw_m (tb_3 (List.mem_of_getElem? (i := 207) rfl)) rfl
set_option maxRecDepth 100000 in
theorem tw_688 : Cond.methodLink "RenamedCellsLaw" (50 : Nat) ({ cls := "RenamedCells", name := "plainStep", desc := "(I)I" } : Jvm.MethodName) ∈ GW := gw_m (tb_3 (List.mem_of_getElem? (i := 208) rfl)) rfl
set_option maxRecDepth 100000 in
theorem tw_689 : Cond.instanceMethod ({ cls := "RenamedCells", name := "plainStep", desc := "(I)I" } : Jvm.MethodName) ∈ GW := gw_m (tb_3 (List.mem_of_getElem? (i := 209) rfl)) rfl
set_option maxRecDepth 100000 in
theorem tw_690 : Cond.selects "RenamedCells" ({ cls := "RenamedCells", name := "plainStep", desc := "(I)I" } : Jvm.MethodName) ({ cls := "RenamedCells", name := "plainStep", desc := "(I)I" } : Jvm.MethodName) ∈ GW := gw_m (tb_3 (List.mem_of_getElem? (i := 210) rfl)) rfl
set_option maxRecDepth 100000 in
theorem tw_691 : Cond.code ({ cls := "RenamedCells", name := "plainStep", desc := "(I)I" } : Jvm.MethodName) prog_1_method_12_code (2 : Nat) (Option.some Jvm.ClassFile.FieldType.int) ∈ GW := gw_m (tb_3 (List.mem_of_getElem? (i := 211) rfl)) rfl
set_option maxRecDepth 100000 in
theorem tw_692 : Cond.methodLink "RenamedCellsLaw" (54 : Nat) ({ cls := "RenamedCells", name := "plainMisses", desc := "()I" } : Jvm.MethodName) ∈ GW := gw_m (tb_3 (List.mem_of_getElem? (i := 212) rfl)) rfl
set_option maxRecDepth 100000 in
theorem tw_693 : Cond.instanceMethod ({ cls := "RenamedCells", name := "plainMisses", desc := "()I" } : Jvm.MethodName) ∈ GW := gw_m (tb_3 (List.mem_of_getElem? (i := 213) rfl)) rfl
set_option maxRecDepth 100000 in
theorem tw_694 : Cond.selects "RenamedCells" ({ cls := "RenamedCells", name := "plainMisses", desc := "()I" } : Jvm.MethodName) ({ cls := "RenamedCells", name := "plainMisses", desc := "()I" } : Jvm.MethodName) ∈ GW := gw_m (tb_3 (List.mem_of_getElem? (i := 214) rfl)) rfl
set_option maxRecDepth 100000 in
theorem tw_695 : Cond.code ({ cls := "RenamedCells", name := "plainMisses", desc := "()I" } : Jvm.MethodName) prog_1_method_13_code (1 : Nat) (Option.some Jvm.ClassFile.FieldType.int) ∈ GW := gw_m (tb_3 (List.mem_of_getElem? (i := 215) rfl)) rfl
set_option maxRecDepth 100000 in
theorem tw_696 : Cond.methodLink "RenamedCellsLaw" (58 : Nat) ({ cls := "RenamedCells", name := "value", desc := "(I)I" } : Jvm.MethodName) ∈ GW := gw_m (tb_3 (List.mem_of_getElem? (i := 216) rfl)) rfl
set_option maxRecDepth 100000 in
theorem tw_697 : Cond.instanceMethod ({ cls := "RenamedCells", name := "value", desc := "(I)I" } : Jvm.MethodName) ∈ GW := gw_m (tb_3 (List.mem_of_getElem? (i := 217) rfl)) rfl
set_option maxRecDepth 100000 in
theorem tw_698 : Cond.selects "RenamedCells" ({ cls := "RenamedCells", name := "value", desc := "(I)I" } : Jvm.MethodName) ({ cls := "RenamedCells", name := "value", desc := "(I)I" } : Jvm.MethodName) ∈ GW := gw_m (tb_3 (List.mem_of_getElem? (i := 218) rfl)) rfl
set_option maxRecDepth 100000 in
theorem tw_699 : Cond.code ({ cls := "RenamedCells", name := "value", desc := "(I)I" } : Jvm.MethodName) prog_1_method_14_code (2 : Nat) (Option.some Jvm.ClassFile.FieldType.int) ∈ GW := gw_m (tb_3 (List.mem_of_getElem? (i := 219) rfl)) rfl
set_option maxRecDepth 100000 in
theorem tw_700 : Cond.methodLink "RenamedCells" (151 : Nat) ({ cls := "RenamedCells$Machine", name := "keptValue", desc := "(I)I" } : Jvm.MethodName) ∈ GW := gw_m (tb_3 (List.mem_of_getElem? (i := 220) rfl)) rfl
set_option maxRecDepth 100000 in
theorem tw_701 : Cond.instanceMethod ({ cls := "RenamedCells$Machine", name := "keptValue", desc := "(I)I" } : Jvm.MethodName) ∈ GW := gw_m (tb_3 (List.mem_of_getElem? (i := 221) rfl)) rfl
set_option maxRecDepth 100000 in
theorem tw_702 : Cond.selects "RenamedCells$Machine" ({ cls := "RenamedCells$Machine", name := "keptValue", desc := "(I)I" } : Jvm.MethodName) ({ cls := "RenamedCells$Machine", name := "keptValue", desc := "(I)I" } : Jvm.MethodName) ∈ GW := gw_m (tb_3 (List.mem_of_getElem? (i := 222) rfl)) rfl
set_option maxRecDepth 100000 in
theorem tw_703 : Cond.code ({ cls := "RenamedCells$Machine", name := "keptValue", desc := "(I)I" } : Jvm.MethodName) prog_5_method_15_code (3 : Nat) (Option.some Jvm.ClassFile.FieldType.int) ∈ GW := gw_m (tb_3 (List.mem_of_getElem? (i := 223) rfl)) rfl
set_option maxRecDepth 100000 in
theorem tw_704 : Cond.methodLink "RenamedCells$Machine" (116 : Nat) ({ cls := "RenamedCells$Machine", name := "letGoBits", desc := "(I)I" } : Jvm.MethodName) ∈ GW := gw_m (tb_3 (List.mem_of_getElem? (i := 224) rfl)) rfl
set_option maxRecDepth 100000 in
theorem tw_705 : Cond.instanceMethod ({ cls := "RenamedCells$Machine", name := "letGoBits", desc := "(I)I" } : Jvm.MethodName) ∈ GW := gw_m (tb_3 (List.mem_of_getElem? (i := 225) rfl)) rfl
set_option maxRecDepth 100000 in
theorem tw_706 : Cond.selects "RenamedCells$Machine" ({ cls := "RenamedCells$Machine", name := "letGoBits", desc := "(I)I" } : Jvm.MethodName) ({ cls := "RenamedCells$Machine", name := "letGoBits", desc := "(I)I" } : Jvm.MethodName) ∈ GW := gw_m (tb_3 (List.mem_of_getElem? (i := 226) rfl)) rfl
set_option maxRecDepth 100000 in
theorem tw_707 : Cond.code ({ cls := "RenamedCells$Machine", name := "letGoBits", desc := "(I)I" } : Jvm.MethodName) prog_5_method_11_code (7 : Nat) (Option.some Jvm.ClassFile.FieldType.int) ∈ GW := gw_m (tb_3 (List.mem_of_getElem? (i := 227) rfl)) rfl
set_option maxRecDepth 100000 in
theorem tw_708 : Cond.methodLink "RenamedCells$Machine" (102 : Nat) ({ cls := "RenamedCells$Machine", name := "sureOnes", desc := "()I" } : Jvm.MethodName) ∈ GW := gw_m (tb_3 (List.mem_of_getElem? (i := 228) rfl)) rfl
set_option maxRecDepth 100000 in
theorem tw_710 : Cond.instanceMethod ({ cls := "RenamedCells$Machine", name := "sureOnes", desc := "()I" } : Jvm.MethodName) ∈ GW := gw_m (tb_3 (List.mem_of_getElem? (i := 230) rfl)) rfl
set_option maxRecDepth 100000 in
theorem tw_711 : Cond.code ({ cls := "RenamedCells$Machine", name := "sureOnes", desc := "()I" } : Jvm.MethodName) prog_5_method_9_code (2 : Nat) (Option.some Jvm.ClassFile.FieldType.int) ∈ GW := gw_m (tb_3 (List.mem_of_getElem? (i := 231) rfl)) rfl
set_option maxRecDepth 100000 in
theorem tw_712 : Cond.methodLink "RenamedCells$Machine" (96 : Nat) ({ cls := "java/lang/Integer", name := "numberOfTrailingZeros", desc := "(I)I" } : Jvm.MethodName) ∈ GW := gw_m (tb_3 (List.mem_of_getElem? (i := 232) rfl)) rfl
set_option maxRecDepth 100000 in
theorem tw_713 : Cond.static ({ cls := "java/lang/Integer", name := "numberOfTrailingZeros", desc := "(I)I" } : Jvm.MethodName) ∈ GW := gw_m (tb_3 (List.mem_of_getElem? (i := 233) rfl)) rfl
set_option maxRecDepth 100000 in
theorem tw_714 : Cond.code ({ cls := "java/lang/Integer", name := "numberOfTrailingZeros", desc := "(I)I" } : Jvm.MethodName) prog_17_method_48_code (2 : Nat) (Option.some Jvm.ClassFile.FieldType.int) ∈ GW := gw_m (tb_3 (List.mem_of_getElem? (i := 234) rfl)) rfl
set_option maxRecDepth 100000 in
theorem tw_715 : Cond.constant "java/lang/Integer" (264 : Nat) (65536 : Int32) ∈ GW := gw_m (tb_3 (List.mem_of_getElem? (i := 235) rfl)) rfl
set_option maxRecDepth 100000 in
theorem tw_716 : Cond.methodLink "RenamedCells$Machine" (109 : Nat) ({ cls := "RenamedCells$Machine", name := "bitOf", desc := "(I)I" } : Jvm.MethodName) ∈ GW := gw_m (tb_3 (List.mem_of_getElem? (i := 236) rfl)) rfl
set_option maxRecDepth 100000 in
theorem tw_717 : Cond.static ({ cls := "RenamedCells$Machine", name := "bitOf", desc := "(I)I" } : Jvm.MethodName) ∈ GW := gw_m (tb_3 (List.mem_of_getElem? (i := 237) rfl)) rfl
set_option maxRecDepth 100000 in
theorem tw_718 : Cond.code ({ cls := "RenamedCells$Machine", name := "bitOf", desc := "(I)I" } : Jvm.MethodName) prog_5_method_7_code (1 : Nat) (Option.some Jvm.ClassFile.FieldType.int) ∈ GW := gw_m (tb_3 (List.mem_of_getElem? (i := 238) rfl)) rfl
set_option maxRecDepth 100000 in
theorem tw_719 : Cond.methodLink "RenamedCells$Machine" (112 : Nat) ({ cls := "RenamedCells$Machine", name := "isDone", desc := "(I)Z" } : Jvm.MethodName) ∈ GW := gw_m (tb_3 (List.mem_of_getElem? (i := 239) rfl)) rfl
set_option maxRecDepth 100000 in
theorem tw_721 : Cond.instanceMethod ({ cls := "RenamedCells$Machine", name := "isDone", desc := "(I)Z" } : Jvm.MethodName) ∈ GW := gw_m (tb_4 (List.mem_of_getElem? (i := 1) rfl)) rfl
set_option maxRecDepth 100000 in
theorem tw_722 : Cond.code ({ cls := "RenamedCells$Machine", name := "isDone", desc := "(I)Z" } : Jvm.MethodName) prog_5_method_6_code (2 : Nat) (Option.some Jvm.ClassFile.FieldType.boolean) ∈ GW := gw_m (tb_4 (List.mem_of_getElem? (i := 2) rfl)) rfl
set_option maxRecDepth 100000 in
theorem tw_723 : Cond.methodLink "RenamedCellsLaw" (62 : Nat) ({ cls := "RenamedCells", name := "kept", desc := "(I)I" } : Jvm.MethodName) ∈ GW := gw_m (tb_4 (List.mem_of_getElem? (i := 3) rfl)) rfl
set_option maxRecDepth 100000 in
theorem tw_724 : Cond.instanceMethod ({ cls := "RenamedCells", name := "kept", desc := "(I)I" } : Jvm.MethodName) ∈ GW := gw_m (tb_4 (List.mem_of_getElem? (i := 4) rfl)) rfl
set_option maxRecDepth 100000 in
theorem tw_725 : Cond.selects "RenamedCells" ({ cls := "RenamedCells", name := "kept", desc := "(I)I" } : Jvm.MethodName) ({ cls := "RenamedCells", name := "kept", desc := "(I)I" } : Jvm.MethodName) ∈ GW := gw_m (tb_4 (List.mem_of_getElem? (i := 5) rfl)) rfl
set_option maxRecDepth 100000 in
theorem tw_726 : Cond.code ({ cls := "RenamedCells", name := "kept", desc := "(I)I" } : Jvm.MethodName) prog_1_method_15_code (2 : Nat) (Option.some Jvm.ClassFile.FieldType.int) ∈ GW := gw_m (tb_4 (List.mem_of_getElem? (i := 6) rfl)) rfl
set_option maxRecDepth 100000 in
theorem tw_727 : Cond.methodLink "RenamedCellsLaw" (66 : Nat) ({ cls := "RenamedCells", name := "mapped", desc := "(I)I" } : Jvm.MethodName) ∈ GW := gw_m (tb_4 (List.mem_of_getElem? (i := 7) rfl)) rfl
set_option maxRecDepth 100000 in
theorem tw_728 : Cond.instanceMethod ({ cls := "RenamedCells", name := "mapped", desc := "(I)I" } : Jvm.MethodName) ∈ GW := gw_m (tb_4 (List.mem_of_getElem? (i := 8) rfl)) rfl
set_option maxRecDepth 100000 in
theorem tw_729 : Cond.selects "RenamedCells" ({ cls := "RenamedCells", name := "mapped", desc := "(I)I" } : Jvm.MethodName) ({ cls := "RenamedCells", name := "mapped", desc := "(I)I" } : Jvm.MethodName) ∈ GW := gw_m (tb_4 (List.mem_of_getElem? (i := 9) rfl)) rfl
set_option maxRecDepth 100000 in
theorem tw_730 : Cond.code ({ cls := "RenamedCells", name := "mapped", desc := "(I)I" } : Jvm.MethodName) prog_1_method_16_code (2 : Nat) (Option.some Jvm.ClassFile.FieldType.int) ∈ GW := gw_m (tb_4 (List.mem_of_getElem? (i := 10) rfl)) rfl
set_option maxRecDepth 100000 in
theorem tw_731 : Cond.methodLink "RenamedCells" (161 : Nat) ({ cls := "RenamedCells$Machine", name := "mapBy", desc := "(II)I" } : Jvm.MethodName) ∈ GW := gw_m (tb_4 (List.mem_of_getElem? (i := 11) rfl)) rfl
set_option maxRecDepth 100000 in
theorem tw_732 : Cond.instanceMethod ({ cls := "RenamedCells$Machine", name := "mapBy", desc := "(II)I" } : Jvm.MethodName) ∈ GW := gw_m (tb_4 (List.mem_of_getElem? (i := 12) rfl)) rfl
set_option maxRecDepth 100000 in
theorem tw_733 : Cond.selects "RenamedCells$Machine" ({ cls := "RenamedCells$Machine", name := "mapBy", desc := "(II)I" } : Jvm.MethodName) ({ cls := "RenamedCells$Machine", name := "mapBy", desc := "(II)I" } : Jvm.MethodName) ∈ GW := gw_m (tb_4 (List.mem_of_getElem? (i := 13) rfl)) rfl
set_option maxRecDepth 100000 in
theorem tw_734 : Cond.code ({ cls := "RenamedCells$Machine", name := "mapBy", desc := "(II)I" } : Jvm.MethodName) prog_5_method_8_code (4 : Nat) (Option.some Jvm.ClassFile.FieldType.int) ∈ GW := gw_m (tb_4 (List.mem_of_getElem? (i := 14) rfl)) rfl
set_option maxRecDepth 100000 in
theorem tw_735 : Cond.methodLink "RenamedCellsLaw" (70 : Nat) ({ cls := "RenamedCells", name := "letGo", desc := "()I" } : Jvm.MethodName) ∈ GW := gw_m (tb_4 (List.mem_of_getElem? (i := 15) rfl)) rfl
set_option maxRecDepth 100000 in
theorem tw_736 : Cond.instanceMethod ({ cls := "RenamedCells", name := "letGo", desc := "()I" } : Jvm.MethodName) ∈ GW := gw_m (tb_4 (List.mem_of_getElem? (i := 16) rfl)) rfl
set_option maxRecDepth 100000 in
theorem tw_737 : Cond.selects "RenamedCells" ({ cls := "RenamedCells", name := "letGo", desc := "()I" } : Jvm.MethodName) ({ cls := "RenamedCells", name := "letGo", desc := "()I" } : Jvm.MethodName) ∈ GW := gw_m (tb_4 (List.mem_of_getElem? (i := 17) rfl)) rfl
set_option maxRecDepth 100000 in
theorem tw_738 : Cond.code ({ cls := "RenamedCells", name := "letGo", desc := "()I" } : Jvm.MethodName) prog_1_method_17_code (1 : Nat) (Option.some Jvm.ClassFile.FieldType.int) ∈ GW := gw_m (tb_4 (List.mem_of_getElem? (i := 18) rfl)) rfl
set_option maxRecDepth 100000 in
theorem tw_739 : Cond.methodLink "RenamedCells" (165 : Nat) ({ cls := "RenamedCells$Machine", name := "letGoBits", desc := "(I)I" } : Jvm.MethodName) ∈ GW := gw_m (tb_4 (List.mem_of_getElem? (i := 19) rfl)) rfl
set_option maxRecDepth 100000 in
theorem tw_740 : Cond.methodLink "RenamedCellsLaw" (74 : Nat) ({ cls := "RenamedCells", name := "cell", desc := "(II)I" } : Jvm.MethodName) ∈ GW := gw_m (tb_4 (List.mem_of_getElem? (i := 20) rfl)) rfl
set_option maxRecDepth 100000 in
theorem tw_741 : Cond.instanceMethod ({ cls := "RenamedCells", name := "cell", desc := "(II)I" } : Jvm.MethodName) ∈ GW := gw_m (tb_4 (List.mem_of_getElem? (i := 21) rfl)) rfl
set_option maxRecDepth 100000 in
theorem tw_742 : Cond.selects "RenamedCells" ({ cls := "RenamedCells", name := "cell", desc := "(II)I" } : Jvm.MethodName) ({ cls := "RenamedCells", name := "cell", desc := "(II)I" } : Jvm.MethodName) ∈ GW := gw_m (tb_4 (List.mem_of_getElem? (i := 22) rfl)) rfl
set_option maxRecDepth 100000 in
theorem tw_743 : Cond.code ({ cls := "RenamedCells", name := "cell", desc := "(II)I" } : Jvm.MethodName) prog_1_method_18_code (3 : Nat) (Option.some Jvm.ClassFile.FieldType.int) ∈ GW := gw_m (tb_4 (List.mem_of_getElem? (i := 23) rfl)) rfl
set_option maxRecDepth 100000 in
theorem tw_744 : Cond.methodLink "RenamedCells" (168 : Nat) ({ cls := "RenamedCells$Machine", name := "isReady", desc := "(I)Z" } : Jvm.MethodName) ∈ GW := gw_m (tb_4 (List.mem_of_getElem? (i := 24) rfl)) rfl
set_option maxRecDepth 100000 in
theorem tw_745 : Cond.instanceMethod ({ cls := "RenamedCells$Machine", name := "isReady", desc := "(I)Z" } : Jvm.MethodName) ∈ GW := gw_m (tb_4 (List.mem_of_getElem? (i := 25) rfl)) rfl
set_option maxRecDepth 100000 in
theorem tw_746 : Cond.selects "RenamedCells$Machine" ({ cls := "RenamedCells$Machine", name := "isReady", desc := "(I)Z" } : Jvm.MethodName) ({ cls := "RenamedCells$Machine", name := "isReady", desc := "(I)Z" } : Jvm.MethodName) ∈ GW := gw_m (tb_4 (List.mem_of_getElem? (i := 26) rfl)) rfl
set_option maxRecDepth 100000 in
theorem tw_747 : Cond.code ({ cls := "RenamedCells$Machine", name := "isReady", desc := "(I)Z" } : Jvm.MethodName) prog_5_method_5_code (2 : Nat) (Option.some Jvm.ClassFile.FieldType.boolean) ∈ GW := gw_m (tb_4 (List.mem_of_getElem? (i := 27) rfl)) rfl
set_option maxRecDepth 100000 in
theorem tw_748 : Cond.methodLink "RenamedCells" (174 : Nat) ({ cls := "RenamedCells$Machine", name := "holdersBut", desc := "(II)I" } : Jvm.MethodName) ∈ GW := gw_m (tb_4 (List.mem_of_getElem? (i := 28) rfl)) rfl
set_option maxRecDepth 100000 in
theorem tw_749 : Cond.instanceMethod ({ cls := "RenamedCells$Machine", name := "holdersBut", desc := "(II)I" } : Jvm.MethodName) ∈ GW := gw_m (tb_4 (List.mem_of_getElem? (i := 29) rfl)) rfl
set_option maxRecDepth 100000 in
theorem tw_750 : Cond.selects "RenamedCells$Machine" ({ cls := "RenamedCells$Machine", name := "holdersBut", desc := "(II)I" } : Jvm.MethodName) ({ cls := "RenamedCells$Machine", name := "holdersBut", desc := "(II)I" } : Jvm.MethodName) ∈ GW := gw_m (tb_4 (List.mem_of_getElem? (i := 30) rfl)) rfl
set_option maxRecDepth 100000 in
theorem tw_751 : Cond.code ({ cls := "RenamedCells$Machine", name := "holdersBut", desc := "(II)I" } : Jvm.MethodName) prog_5_method_13_code (5 : Nat) (Option.some Jvm.ClassFile.FieldType.int) ∈ GW := gw_m (tb_4 (List.mem_of_getElem? (i := 31) rfl)) rfl
set_option maxRecDepth 100000 in
theorem tw_752 : Cond.methodLink "RenamedCells" (177 : Nat) ({ cls := "RenamedCells$Machine", name := "waitersFor", desc := "(I)I" } : Jvm.MethodName) ∈ GW := gw_m (tb_4 (List.mem_of_getElem? (i := 32) rfl)) rfl
set_option maxRecDepth 100000 in
theorem tw_753 : Cond.instanceMethod ({ cls := "RenamedCells$Machine", name := "waitersFor", desc := "(I)I" } : Jvm.MethodName) ∈ GW := gw_m (tb_4 (List.mem_of_getElem? (i := 33) rfl)) rfl
set_option maxRecDepth 100000 in
theorem tw_754 : Cond.selects "RenamedCells$Machine" ({ cls := "RenamedCells$Machine", name := "waitersFor", desc := "(I)I" } : Jvm.MethodName) ({ cls := "RenamedCells$Machine", name := "waitersFor", desc := "(I)I" } : Jvm.MethodName) ∈ GW := gw_m (tb_4 (List.mem_of_getElem? (i := 34) rfl)) rfl
set_option maxRecDepth 100000 in
theorem tw_755 : Cond.code ({ cls := "RenamedCells$Machine", name := "waitersFor", desc := "(I)I" } : Jvm.MethodName) prog_5_method_14_code (4 : Nat) (Option.some Jvm.ClassFile.FieldType.int) ∈ GW := gw_m (tb_4 (List.mem_of_getElem? (i := 35) rfl)) rfl
set_option maxRecDepth 100000 in
theorem tw_756 : Cond.methodLink "RenamedCellsLaw" (78 : Nat) ({ cls := "RenamedCells", name := "free", desc := "()I" } : Jvm.MethodName) ∈ GW := gw_m (tb_4 (List.mem_of_getElem? (i := 36) rfl)) rfl
set_option maxRecDepth 100000 in
theorem tw_757 : Cond.instanceMethod ({ cls := "RenamedCells", name := "free", desc := "()I" } : Jvm.MethodName) ∈ GW := gw_m (tb_4 (List.mem_of_getElem? (i := 37) rfl)) rfl
set_option maxRecDepth 100000 in
theorem tw_758 : Cond.selects "RenamedCells" ({ cls := "RenamedCells", name := "free", desc := "()I" } : Jvm.MethodName) ({ cls := "RenamedCells", name := "free", desc := "()I" } : Jvm.MethodName) ∈ GW := gw_m (tb_4 (List.mem_of_getElem? (i := 38) rfl)) rfl
set_option maxRecDepth 100000 in
theorem tw_759 : Cond.code ({ cls := "RenamedCells", name := "free", desc := "()I" } : Jvm.MethodName) prog_1_method_19_code (1 : Nat) (Option.some Jvm.ClassFile.FieldType.int) ∈ GW := gw_m (tb_4 (List.mem_of_getElem? (i := 39) rfl)) rfl
set_option maxRecDepth 100000 in
theorem tw_760 : Cond.methodLink "RenamedCells" (180 : Nat) ({ cls := "RenamedCells$Machine", name := "freeBits", desc := "(I)I" } : Jvm.MethodName) ∈ GW := gw_m (tb_4 (List.mem_of_getElem? (i := 40) rfl)) rfl
set_option maxRecDepth 100000 in
theorem tw_761 : Cond.instanceMethod ({ cls := "RenamedCells$Machine", name := "freeBits", desc := "(I)I" } : Jvm.MethodName) ∈ GW := gw_m (tb_4 (List.mem_of_getElem? (i := 41) rfl)) rfl
set_option maxRecDepth 100000 in
theorem tw_762 : Cond.selects "RenamedCells$Machine" ({ cls := "RenamedCells$Machine", name := "freeBits", desc := "(I)I" } : Jvm.MethodName) ({ cls := "RenamedCells$Machine", name := "freeBits", desc := "(I)I" } : Jvm.MethodName) ∈ GW := gw_m (tb_4 (List.mem_of_getElem? (i := 42) rfl)) rfl
set_option maxRecDepth 100000 in
theorem tw_763 : Cond.code ({ cls := "RenamedCells$Machine", name := "freeBits", desc := "(I)I" } : Jvm.MethodName) prog_5_method_12_code (5 : Nat) (Option.some Jvm.ClassFile.FieldType.int) ∈ GW := gw_m (tb_4 (List.mem_of_getElem? (i := 43) rfl)) rfl
set_option maxRecDepth 100000 in
theorem tw_764 : Cond.methodLink "RenamedCellsLaw" (82 : Nat) ({ cls := "RenamedCells", name := "ready", desc := "()I" } : Jvm.MethodName) ∈ GW := gw_m (tb_4 (List.mem_of_getElem? (i := 44) rfl)) rfl
set_option maxRecDepth 100000 in
theorem tw_765 : Cond.instanceMethod ({ cls := "RenamedCells", name := "ready", desc := "()I" } : Jvm.MethodName) ∈ GW := gw_m (tb_4 (List.mem_of_getElem? (i := 45) rfl)) rfl
set_option maxRecDepth 100000 in
theorem tw_766 : Cond.selects "RenamedCells" ({ cls := "RenamedCells", name := "ready", desc := "()I" } : Jvm.MethodName) ({ cls := "RenamedCells", name := "ready", desc := "()I" } : Jvm.MethodName) ∈ GW := gw_m (tb_4 (List.mem_of_getElem? (i := 46) rfl)) rfl
set_option maxRecDepth 100000 in
theorem tw_767 : Cond.code ({ cls := "RenamedCells", name := "ready", desc := "()I" } : Jvm.MethodName) prog_1_method_20_code (1 : Nat) (Option.some Jvm.ClassFile.FieldType.int) ∈ GW := gw_m (tb_4 (List.mem_of_getElem? (i := 47) rfl)) rfl
set_option maxRecDepth 100000 in
theorem tw_768 : Cond.methodLink "RenamedCellsLaw" (86 : Nat) ({ cls := "RenamedCells", name := "entries", desc := "()I" } : Jvm.MethodName) ∈ GW := gw_m (tb_4 (List.mem_of_getElem? (i := 48) rfl)) rfl
set_option maxRecDepth 100000 in
theorem tw_769 : Cond.instanceMethod ({ cls := "RenamedCells", name := "entries", desc := "()I" } : Jvm.MethodName) ∈ GW := gw_m (tb_4 (List.mem_of_getElem? (i := 49) rfl)) rfl
set_option maxRecDepth 100000 in
theorem tw_770 : Cond.selects "RenamedCells" ({ cls := "RenamedCells", name := "entries", desc := "()I" } : Jvm.MethodName) ({ cls := "RenamedCells", name := "entries", desc := "()I" } : Jvm.MethodName) ∈ GW := gw_m (tb_4 (List.mem_of_getElem? (i := 50) rfl)) rfl
set_option maxRecDepth 100000 in
theorem tw_771 : Cond.code ({ cls := "RenamedCells", name := "entries", desc := "()I" } : Jvm.MethodName) prog_1_method_21_code (1 : Nat) (Option.some Jvm.ClassFile.FieldType.int) ∈ GW := gw_m (tb_4 (List.mem_of_getElem? (i := 51) rfl)) rfl
set_option maxRecDepth 100000 in
theorem tw_772 : Cond.methodLink "RenamedCellsLaw" (90 : Nat) ({ cls := "RenamedCells", name := "entry", desc := "(II)I" } : Jvm.MethodName) ∈ GW := gw_m (tb_4 (List.mem_of_getElem? (i := 52) rfl)) rfl
set_option maxRecDepth 100000 in
theorem tw_773 : Cond.instanceMethod ({ cls := "RenamedCells", name := "entry", desc := "(II)I" } : Jvm.MethodName) ∈ GW := gw_m (tb_4 (List.mem_of_getElem? (i := 53) rfl)) rfl
set_option maxRecDepth 100000 in
theorem tw_774 : Cond.selects "RenamedCells" ({ cls := "RenamedCells", name := "entry", desc := "(II)I" } : Jvm.MethodName) ({ cls := "RenamedCells", name := "entry", desc := "(II)I" } : Jvm.MethodName) ∈ GW := gw_m (tb_4 (List.mem_of_getElem? (i := 54) rfl)) rfl
set_option maxRecDepth 100000 in
theorem tw_775 : Cond.code ({ cls := "RenamedCells", name := "entry", desc := "(II)I" } : Jvm.MethodName) prog_1_method_22_code (3 : Nat) (Option.some Jvm.ClassFile.FieldType.int) ∈ GW := gw_m (tb_4 (List.mem_of_getElem? (i := 55) rfl)) rfl
set_option maxRecDepth 100000 in
theorem tw_776 : Cond.methodLink "RenamedCells" (186 : Nat) ({ cls := "RenamedCells", name := "isEntry", desc := "(I)Z" } : Jvm.MethodName) ∈ GW := gw_m (tb_4 (List.mem_of_getElem? (i := 56) rfl)) rfl
set_option maxRecDepth 100000 in
theorem tw_778 : Cond.instanceMethod ({ cls := "RenamedCells", name := "isEntry", desc := "(I)Z" } : Jvm.MethodName) ∈ GW := gw_m (tb_4 (List.mem_of_getElem? (i := 58) rfl)) rfl
set_option maxRecDepth 100000 in
theorem tw_779 : Cond.code ({ cls := "RenamedCells", name := "isEntry", desc := "(I)Z" } : Jvm.MethodName) prog_1_method_66_code (2 : Nat) (Option.some Jvm.ClassFile.FieldType.boolean) ∈ GW := gw_m (tb_4 (List.mem_of_getElem? (i := 59) rfl)) rfl
set_option maxRecDepth 100000 in
theorem tw_780 : Cond.methodLink "RenamedCells" (213 : Nat) ({ cls := "RenamedCells$Machine", name := "isSure", desc := "(I)Z" } : Jvm.MethodName) ∈ GW := gw_m (tb_4 (List.mem_of_getElem? (i := 60) rfl)) rfl
set_option maxRecDepth 100000 in
theorem tw_781 : Cond.instanceMethod ({ cls := "RenamedCells$Machine", name := "isSure", desc := "(I)Z" } : Jvm.MethodName) ∈ GW := gw_m (tb_4 (List.mem_of_getElem? (i := 61) rfl)) rfl
set_option maxRecDepth 100000 in
theorem tw_782 : Cond.selects "RenamedCells$Machine" ({ cls := "RenamedCells$Machine", name := "isSure", desc := "(I)Z" } : Jvm.MethodName) ({ cls := "RenamedCells$Machine", name := "isSure", desc := "(I)Z" } : Jvm.MethodName) ∈ GW := gw_m (tb_4 (List.mem_of_getElem? (i := 62) rfl)) rfl
set_option maxRecDepth 100000 in
theorem tw_783 : Cond.code ({ cls := "RenamedCells$Machine", name := "isSure", desc := "(I)Z" } : Jvm.MethodName) prog_5_method_10_code (2 : Nat) (Option.some Jvm.ClassFile.FieldType.boolean) ∈ GW := gw_m (tb_4 (List.mem_of_getElem? (i := 63) rfl)) rfl
set_option maxRecDepth 100000 in
theorem tw_784 : Cond.methodLink "RenamedCellsLaw" (94 : Nat) ({ cls := "RenamedCells", name := "runnable", desc := "()I" } : Jvm.MethodName) ∈ GW := gw_m (tb_4 (List.mem_of_getElem? (i := 64) rfl)) rfl
set_option maxRecDepth 100000 in
theorem tw_785 : Cond.instanceMethod ({ cls := "RenamedCells", name := "runnable", desc := "()I" } : Jvm.MethodName) ∈ GW := gw_m (tb_4 (List.mem_of_getElem? (i := 65) rfl)) rfl
set_option maxRecDepth 100000 in
theorem tw_786 : Cond.selects "RenamedCells" ({ cls := "RenamedCells", name := "runnable", desc := "()I" } : Jvm.MethodName) ({ cls := "RenamedCells", name := "runnable", desc := "()I" } : Jvm.MethodName) ∈ GW := gw_m (tb_4 (List.mem_of_getElem? (i := 66) rfl)) rfl
set_option maxRecDepth 100000 in
theorem tw_787 : Cond.code ({ cls := "RenamedCells", name := "runnable", desc := "()I" } : Jvm.MethodName) prog_1_method_23_code (3 : Nat) (Option.some Jvm.ClassFile.FieldType.int) ∈ GW := gw_m (tb_4 (List.mem_of_getElem? (i := 67) rfl)) rfl
set_option maxRecDepth 100000 in
theorem tw_788 : Cond.methodLink "RenamedCells" (216 : Nat) ({ cls := "RenamedCells$Machine", name := "canWork", desc := "(I)Z" } : Jvm.MethodName) ∈ GW := gw_m (tb_4 (List.mem_of_getElem? (i := 68) rfl)) rfl
set_option maxRecDepth 100000 in
theorem tw_789 : Cond.instanceMethod ({ cls := "RenamedCells$Machine", name := "canWork", desc := "(I)Z" } : Jvm.MethodName) ∈ GW := gw_m (tb_4 (List.mem_of_getElem? (i := 69) rfl)) rfl
set_option maxRecDepth 100000 in
theorem tw_790 : Cond.selects "RenamedCells$Machine" ({ cls := "RenamedCells$Machine", name := "canWork", desc := "(I)Z" } : Jvm.MethodName) ({ cls := "RenamedCells$Machine", name := "canWork", desc := "(I)Z" } : Jvm.MethodName) ∈ GW := gw_m (tb_4 (List.mem_of_getElem? (i := 70) rfl)) rfl
set_option maxRecDepth 100000 in
theorem tw_791 : Cond.code ({ cls := "RenamedCells$Machine", name := "canWork", desc := "(I)Z" } : Jvm.MethodName) prog_5_method_25_code (2 : Nat) (Option.some Jvm.ClassFile.FieldType.boolean) ∈ GW := gw_m (tb_4 (List.mem_of_getElem? (i := 71) rfl)) rfl
set_option maxRecDepth 100000 in
theorem tw_792 : Cond.methodLink "RenamedCells$Machine" (178 : Nat) ({ cls := "RenamedCells$Machine", name := "canRead", desc := "(I)Z" } : Jvm.MethodName) ∈ GW := gw_m (tb_4 (List.mem_of_getElem? (i := 72) rfl)) rfl
set_option maxRecDepth 100000 in
theorem tw_794 : Cond.instanceMethod ({ cls := "RenamedCells$Machine", name := "canRead", desc := "(I)Z" } : Jvm.MethodName) ∈ GW := gw_m (tb_4 (List.mem_of_getElem? (i := 74) rfl)) rfl
set_option maxRecDepth 100000 in
theorem tw_795 : Cond.code ({ cls := "RenamedCells$Machine", name := "canRead", desc := "(I)Z" } : Jvm.MethodName) prog_5_method_26_code (2 : Nat) (Option.some Jvm.ClassFile.FieldType.boolean) ∈ GW := gw_m (tb_4 (List.mem_of_getElem? (i := 75) rfl)) rfl
set_option maxRecDepth 100000 in
theorem tw_796 : Cond.methodLink "RenamedCells$Machine" (181 : Nat) ({ cls := "RenamedCells$Machine", name := "isReady", desc := "(I)Z" } : Jvm.MethodName) ∈ GW := gw_m (tb_4 (List.mem_of_getElem? (i := 76) rfl)) rfl
set_option maxRecDepth 100000 in
theorem tw_797 : Cond.methodLink "RenamedCellsLaw" (98 : Nat) ({ cls := "RenamedCells", name := "nextStep", desc := "()I" } : Jvm.MethodName) ∈ GW := gw_m (tb_4 (List.mem_of_getElem? (i := 77) rfl)) rfl
set_option maxRecDepth 100000 in
theorem tw_798 : Cond.instanceMethod ({ cls := "RenamedCells", name := "nextStep", desc := "()I" } : Jvm.MethodName) ∈ GW := gw_m (tb_4 (List.mem_of_getElem? (i := 78) rfl)) rfl
set_option maxRecDepth 100000 in
theorem tw_799 : Cond.selects "RenamedCells" ({ cls := "RenamedCells", name := "nextStep", desc := "()I" } : Jvm.MethodName) ({ cls := "RenamedCells", name := "nextStep", desc := "()I" } : Jvm.MethodName) ∈ GW := gw_m (tb_4 (List.mem_of_getElem? (i := 79) rfl)) rfl
set_option maxRecDepth 100000 in
theorem tw_800 : Cond.code ({ cls := "RenamedCells", name := "nextStep", desc := "()I" } : Jvm.MethodName) prog_1_method_24_code (1 : Nat) (Option.some Jvm.ClassFile.FieldType.int) ∈ GW := gw_m (tb_4 (List.mem_of_getElem? (i := 80) rfl)) rfl
set_option maxRecDepth 100000 in
theorem tw_801 : Cond.methodLink "RenamedCellsLaw" (102 : Nat) ({ cls := "RenamedCells", name := "fetchable", desc := "()I" } : Jvm.MethodName) ∈ GW := gw_m (tb_4 (List.mem_of_getElem? (i := 81) rfl)) rfl
set_option maxRecDepth 100000 in
theorem tw_802 : Cond.instanceMethod ({ cls := "RenamedCells", name := "fetchable", desc := "()I" } : Jvm.MethodName) ∈ GW := gw_m (tb_4 (List.mem_of_getElem? (i := 82) rfl)) rfl
set_option maxRecDepth 100000 in
theorem tw_803 : Cond.selects "RenamedCells" ({ cls := "RenamedCells", name := "fetchable", desc := "()I" } : Jvm.MethodName) ({ cls := "RenamedCells", name := "fetchable", desc := "()I" } : Jvm.MethodName) ∈ GW := gw_m (tb_4 (List.mem_of_getElem? (i := 83) rfl)) rfl
set_option maxRecDepth 100000 in
theorem tw_804 : Cond.code ({ cls := "RenamedCells", name := "fetchable", desc := "()I" } : Jvm.MethodName) prog_1_method_25_code (1 : Nat) (Option.some Jvm.ClassFile.FieldType.int) ∈ GW := gw_m (tb_4 (List.mem_of_getElem? (i := 84) rfl)) rfl
set_option maxRecDepth 100000 in
theorem tw_805 : Cond.methodLink "RenamedCells" (220 : Nat) ({ cls := "RenamedCells$Machine", name := "whyNotTake", desc := "()I" } : Jvm.MethodName) ∈ GW := gw_m (tb_4 (List.mem_of_getElem? (i := 85) rfl)) rfl
set_option maxRecDepth 100000 in
theorem tw_806 : Cond.instanceMethod ({ cls := "RenamedCells$Machine", name := "whyNotTake", desc := "()I" } : Jvm.MethodName) ∈ GW := gw_m (tb_4 (List.mem_of_getElem? (i := 86) rfl)) rfl
set_option maxRecDepth 100000 in
theorem tw_807 : Cond.selects "RenamedCells$Machine" ({ cls := "RenamedCells$Machine", name := "whyNotTake", desc := "()I" } : Jvm.MethodName) ({ cls := "RenamedCells$Machine", name := "whyNotTake", desc := "()I" } : Jvm.MethodName) ∈ GW := gw_m (tb_4 (List.mem_of_getElem? (i := 87) rfl)) rfl
set_option maxRecDepth 100000 in
theorem tw_808 : Cond.code ({ cls := "RenamedCells$Machine", name := "whyNotTake", desc := "()I" } : Jvm.MethodName) prog_5_method_19_code (2 : Nat) (Option.some Jvm.ClassFile.FieldType.int) ∈ GW := gw_m (tb_4 (List.mem_of_getElem? (i := 88) rfl)) rfl
set_option maxRecDepth 100000 in
theorem tw_809 : Cond.methodLink "RenamedCells$Machine" (122 : Nat) ({ cls := "RenamedCells$Program", name := "has", desc := "(I)Z" } : Jvm.MethodName) ∈ GW := gw_m (tb_4 (List.mem_of_getElem? (i := 89) rfl)) rfl
set_option maxRecDepth 100000 in
theorem tw_810 : Cond.methodLink "RenamedCells$Machine" (131 : Nat) ({ cls := "RenamedCells$Machine", name := "mergesNext", desc := "()Z" } : Jvm.MethodName) ∈ GW := gw_m (tb_4 (List.mem_of_getElem? (i := 90) rfl)) rfl
set_option maxRecDepth 100000 in
theorem tw_812 : Cond.instanceMethod ({ cls := "RenamedCells$Machine", name := "mergesNext", desc := "()Z" } : Jvm.MethodName) ∈ GW := gw_m (tb_4 (List.mem_of_getElem? (i := 92) rfl)) rfl
set_option maxRecDepth 100000 in
theorem tw_813 : Cond.code ({ cls := "RenamedCells$Machine", name := "mergesNext", desc := "()Z" } : Jvm.MethodName) prog_5_method_20_code (2 : Nat) (Option.some Jvm.ClassFile.FieldType.boolean) ∈ GW := gw_m (tb_4 (List.mem_of_getElem? (i := 93) rfl)) rfl
set_option maxRecDepth 100000 in
theorem tw_814 : Cond.methodLink "RenamedCells$Machine" (141 : Nat) ({ cls := "RenamedCells$Machine", name := "mapBy", desc := "(II)I" } : Jvm.MethodName) ∈ GW := gw_m (tb_4 (List.mem_of_getElem? (i := 94) rfl)) rfl
set_option maxRecDepth 100000 in
theorem tw_815 : Cond.methodLink "RenamedCells$Machine" (145 : Nat) ({ cls := "RenamedCells$Machine", name := "holdersBut", desc := "(II)I" } : Jvm.MethodName) ∈ GW := gw_m (tb_4 (List.mem_of_getElem? (i := 95) rfl)) rfl
set_option maxRecDepth 100000 in
theorem tw_816 : Cond.methodLink "RenamedCells$Machine" (135 : Nat) ({ cls := "RenamedCells$Machine", name := "freeBits", desc := "(I)I" } : Jvm.MethodName) ∈ GW := gw_m (tb_4 (List.mem_of_getElem? (i := 96) rfl)) rfl
set_option maxRecDepth 100000 in
theorem tw_817 : Cond.methodLink "RenamedCellsLaw" (106 : Nat) ({ cls := "RenamedCells", name := "commitable", desc := "()I" } : Jvm.MethodName) ∈ GW := gw_m (tb_4 (List.mem_of_getElem? (i := 97) rfl)) rfl
set_option maxRecDepth 100000 in
theorem tw_818 : Cond.instanceMethod ({ cls := "RenamedCells", name := "commitable", desc := "()I" } : Jvm.MethodName) ∈ GW := gw_m (tb_4 (List.mem_of_getElem? (i := 98) rfl)) rfl
set_option maxRecDepth 100000 in
theorem tw_819 : Cond.selects "RenamedCells" ({ cls := "RenamedCells", name := "commitable", desc := "()I" } : Jvm.MethodName) ({ cls := "RenamedCells", name := "commitable", desc := "()I" } : Jvm.MethodName) ∈ GW := gw_m (tb_4 (List.mem_of_getElem? (i := 99) rfl)) rfl
set_option maxRecDepth 100000 in
theorem tw_820 : Cond.code ({ cls := "RenamedCells", name := "commitable", desc := "()I" } : Jvm.MethodName) prog_1_method_26_code (1 : Nat) (Option.some Jvm.ClassFile.FieldType.int) ∈ GW := gw_m (tb_4 (List.mem_of_getElem? (i := 100) rfl)) rfl
set_option maxRecDepth 100000 in
theorem tw_821 : Cond.methodLink "RenamedCells" (223 : Nat) ({ cls := "RenamedCells$Machine", name := "whyNotRetire", desc := "()I" } : Jvm.MethodName) ∈ GW := gw_m (tb_4 (List.mem_of_getElem? (i := 101) rfl)) rfl
set_option maxRecDepth 100000 in
theorem tw_822 : Cond.instanceMethod ({ cls := "RenamedCells$Machine", name := "whyNotRetire", desc := "()I" } : Jvm.MethodName) ∈ GW := gw_m (tb_4 (List.mem_of_getElem? (i := 102) rfl)) rfl
set_option maxRecDepth 100000 in
theorem tw_823 : Cond.selects "RenamedCells$Machine" ({ cls := "RenamedCells$Machine", name := "whyNotRetire", desc := "()I" } : Jvm.MethodName) ({ cls := "RenamedCells$Machine", name := "whyNotRetire", desc := "()I" } : Jvm.MethodName) ∈ GW := gw_m (tb_4 (List.mem_of_getElem? (i := 103) rfl)) rfl
set_option maxRecDepth 100000 in
theorem tw_824 : Cond.code ({ cls := "RenamedCells$Machine", name := "whyNotRetire", desc := "()I" } : Jvm.MethodName) prog_5_method_32_code (2 : Nat) (Option.some Jvm.ClassFile.FieldType.int) ∈ GW := gw_m (tb_4 (List.mem_of_getElem? (i := 104) rfl)) rfl
set_option maxRecDepth 100000 in
theorem tw_825 : Cond.methodLink "RenamedCellsLaw" (110 : Nat) ({ cls := "RenamedCells", name := "walked", desc := "(II)I" } : Jvm.MethodName) ∈ GW := gw_m (tb_4 (List.mem_of_getElem? (i := 105) rfl)) rfl
set_option maxRecDepth 100000 in
theorem tw_826 : Cond.instanceMethod ({ cls := "RenamedCells", name := "walked", desc := "(II)I" } : Jvm.MethodName) ∈ GW := gw_m (tb_4 (List.mem_of_getElem? (i := 106) rfl)) rfl
set_option maxRecDepth 100000 in
theorem tw_827 : Cond.selects "RenamedCells" ({ cls := "RenamedCells", name := "walked", desc := "(II)I" } : Jvm.MethodName) ({ cls := "RenamedCells", name := "walked", desc := "(II)I" } : Jvm.MethodName) ∈ GW := gw_m (tb_4 (List.mem_of_getElem? (i := 107) rfl)) rfl
set_option maxRecDepth 100000 in
theorem tw_828 : Cond.code ({ cls := "RenamedCells", name := "walked", desc := "(II)I" } : Jvm.MethodName) prog_1_method_27_code (3 : Nat) (Option.some Jvm.ClassFile.FieldType.int) ∈ GW := gw_m (tb_4 (List.mem_of_getElem? (i := 108) rfl)) rfl
set_option maxRecDepth 100000 in
theorem tw_829 : Cond.methodLink "RenamedCellsLaw" (114 : Nat) ({ cls := "RenamedCells", name := "saved", desc := "(II)I" } : Jvm.MethodName) ∈ GW := gw_m (tb_4 (List.mem_of_getElem? (i := 109) rfl)) rfl
set_option maxRecDepth 100000 in
theorem tw_830 : Cond.instanceMethod ({ cls := "RenamedCells", name := "saved", desc := "(II)I" } : Jvm.MethodName) ∈ GW := gw_m (tb_4 (List.mem_of_getElem? (i := 110) rfl)) rfl
set_option maxRecDepth 100000 in
theorem tw_831 : Cond.selects "RenamedCells" ({ cls := "RenamedCells", name := "saved", desc := "(II)I" } : Jvm.MethodName) ({ cls := "RenamedCells", name := "saved", desc := "(II)I" } : Jvm.MethodName) ∈ GW := gw_m (tb_4 (List.mem_of_getElem? (i := 111) rfl)) rfl
set_option maxRecDepth 100000 in
theorem tw_832 : Cond.code ({ cls := "RenamedCells", name := "saved", desc := "(II)I" } : Jvm.MethodName) prog_1_method_28_code (3 : Nat) (Option.some Jvm.ClassFile.FieldType.int) ∈ GW := gw_m (tb_4 (List.mem_of_getElem? (i := 112) rfl)) rfl
set_option maxRecDepth 100000 in
theorem tw_833 : Cond.methodLink "RenamedCellsLaw" (118 : Nat) ({ cls := "RenamedCells", name := "gives", desc := "(I)I" } : Jvm.MethodName) ∈ GW := gw_m (tb_4 (List.mem_of_getElem? (i := 113) rfl)) rfl
set_option maxRecDepth 100000 in
theorem tw_834 : Cond.instanceMethod ({ cls := "RenamedCells", name := "gives", desc := "(I)I" } : Jvm.MethodName) ∈ GW := gw_m (tb_4 (List.mem_of_getElem? (i := 114) rfl)) rfl
set_option maxRecDepth 100000 in
theorem tw_835 : Cond.selects "RenamedCells" ({ cls := "RenamedCells", name := "gives", desc := "(I)I" } : Jvm.MethodName) ({ cls := "RenamedCells", name := "gives", desc := "(I)I" } : Jvm.MethodName) ∈ GW := gw_m (tb_4 (List.mem_of_getElem? (i := 115) rfl)) rfl
set_option maxRecDepth 100000 in
theorem tw_836 : Cond.code ({ cls := "RenamedCells", name := "gives", desc := "(I)I" } : Jvm.MethodName) prog_1_method_29_code (3 : Nat) (Option.some Jvm.ClassFile.FieldType.int) ∈ GW := gw_m (tb_4 (List.mem_of_getElem? (i := 116) rfl)) rfl
set_option maxRecDepth 100000 in
theorem tw_837 : Cond.methodLink "RenamedCells" (226 : Nat) ({ cls := "java/lang/Integer", name := "bitCount", desc := "(I)I" } : Jvm.MethodName) ∈ GW := gw_m (tb_4 (List.mem_of_getElem? (i := 117) rfl)) rfl
set_option maxRecDepth 100000 in
theorem tw_838 : Cond.static ({ cls := "java/lang/Integer", name := "bitCount", desc := "(I)I" } : Jvm.MethodName) ∈ GW := gw_m (tb_4 (List.mem_of_getElem? (i := 118) rfl)) rfl
set_option maxRecDepth 100000 in
theorem tw_839 : Cond.code ({ cls := "java/lang/Integer", name := "bitCount", desc := "(I)I" } : Jvm.MethodName) prog_17_method_49_code (1 : Nat) (Option.some Jvm.ClassFile.FieldType.int) ∈ GW := gw_m (tb_4 (List.mem_of_getElem? (i := 119) rfl)) rfl
set_option maxRecDepth 100000 in
theorem tw_840 : Cond.constant "java/lang/Integer" (265 : Nat) (1431655765 : Int32) ∈ GW := gw_m (tb_4 (List.mem_of_getElem? (i := 120) rfl)) rfl
set_option maxRecDepth 100000 in
theorem tw_841 : Cond.constant "java/lang/Integer" (266 : Nat) (858993459 : Int32) ∈ GW := gw_m (tb_4 (List.mem_of_getElem? (i := 121) rfl)) rfl
set_option maxRecDepth 100000 in
theorem tw_842 : Cond.constant "java/lang/Integer" (267 : Nat) (252645135 : Int32) ∈ GW := gw_m (tb_4 (List.mem_of_getElem? (i := 122) rfl)) rfl
set_option maxRecDepth 100000 in
theorem tw_843 : Cond.methodLink "RenamedCellsLaw" (122 : Nat) ({ cls := "RenamedCells", name := "agrees", desc := "()I" } : Jvm.MethodName) ∈ GW := gw_m (tb_4 (List.mem_of_getElem? (i := 123) rfl)) rfl
set_option maxRecDepth 100000 in
theorem tw_844 : Cond.instanceMethod ({ cls := "RenamedCells", name := "agrees", desc := "()I" } : Jvm.MethodName) ∈ GW := gw_m (tb_4 (List.mem_of_getElem? (i := 124) rfl)) rfl
set_option maxRecDepth 100000 in
theorem tw_845 : Cond.selects "RenamedCells" ({ cls := "RenamedCells", name := "agrees", desc := "()I" } : Jvm.MethodName) ({ cls := "RenamedCells", name := "agrees", desc := "()I" } : Jvm.MethodName) ∈ GW := gw_m (tb_4 (List.mem_of_getElem? (i := 125) rfl)) rfl
set_option maxRecDepth 100000 in
theorem tw_846 : Cond.code ({ cls := "RenamedCells", name := "agrees", desc := "()I" } : Jvm.MethodName) prog_1_method_30_code (4 : Nat) (Option.some Jvm.ClassFile.FieldType.int) ∈ GW := gw_m (tb_4 (List.mem_of_getElem? (i := 126) rfl)) rfl
set_option maxRecDepth 100000 in
theorem tw_847 : Cond.methodLink "RenamedCellsLaw" (126 : Nat) ({ cls := "RenamedCells", name := "cycles", desc := "(I)I" } : Jvm.MethodName) ∈ GW := gw_m (tb_4 (List.mem_of_getElem? (i := 127) rfl)) rfl
set_option maxRecDepth 100000 in
theorem tw_848 : Cond.instanceMethod ({ cls := "RenamedCells", name := "cycles", desc := "(I)I" } : Jvm.MethodName) ∈ GW := gw_m (tb_4 (List.mem_of_getElem? (i := 128) rfl)) rfl
set_option maxRecDepth 100000 in
theorem tw_849 : Cond.selects "RenamedCells" ({ cls := "RenamedCells", name := "cycles", desc := "(I)I" } : Jvm.MethodName) ({ cls := "RenamedCells", name := "cycles", desc := "(I)I" } : Jvm.MethodName) ∈ GW := gw_m (tb_4 (List.mem_of_getElem? (i := 129) rfl)) rfl
set_option maxRecDepth 100000 in
theorem tw_850 : Cond.code ({ cls := "RenamedCells", name := "cycles", desc := "(I)I" } : Jvm.MethodName) prog_1_method_31_code (2 : Nat) (Option.some Jvm.ClassFile.FieldType.int) ∈ GW := gw_m (tb_4 (List.mem_of_getElem? (i := 130) rfl)) rfl
set_option maxRecDepth 100000 in
theorem tw_851 : Cond.methodLink "RenamedCells" (237 : Nat) ({ cls := "RenamedCells", name := "isCells", desc := "(I)Z" } : Jvm.MethodName) ∈ GW := gw_m (tb_4 (List.mem_of_getElem? (i := 131) rfl)) rfl
set_option maxRecDepth 100000 in
theorem tw_852 : Cond.static ({ cls := "RenamedCells", name := "isCells", desc := "(I)Z" } : Jvm.MethodName) ∈ GW := gw_m (tb_4 (List.mem_of_getElem? (i := 132) rfl)) rfl
set_option maxRecDepth 100000 in
theorem tw_853 : Cond.code ({ cls := "RenamedCells", name := "isCells", desc := "(I)Z" } : Jvm.MethodName) prog_1_method_65_code (1 : Nat) (Option.some Jvm.ClassFile.FieldType.boolean) ∈ GW := gw_m (tb_4 (List.mem_of_getElem? (i := 133) rfl)) rfl
set_option maxRecDepth 100000 in
theorem tw_854 : Cond.methodLink "RenamedCells" (243 : Nat) ({ cls := "RenamedCells$Cycles", name := "slotOf", desc := "(LRenamedCells$Program;I)I" } : Jvm.MethodName) ∈ GW := gw_m (tb_4 (List.mem_of_getElem? (i := 134) rfl)) rfl
set_option maxRecDepth 100000 in
theorem tw_855 : Cond.instanceMethod ({ cls := "RenamedCells$Cycles", name := "slotOf", desc := "(LRenamedCells$Program;I)I" } : Jvm.MethodName) ∈ GW := gw_m (tb_4 (List.mem_of_getElem? (i := 135) rfl)) rfl
set_option maxRecDepth 100000 in
theorem tw_856 : Cond.selects "RenamedCells$Cycles" ({ cls := "RenamedCells$Cycles", name := "slotOf", desc := "(LRenamedCells$Program;I)I" } : Jvm.MethodName) ({ cls := "RenamedCells$Cycles", name := "slotOf", desc := "(LRenamedCells$Program;I)I" } : Jvm.MethodName) ∈ GW := gw_m (tb_4 (List.mem_of_getElem? (i := 136) rfl)) rfl
set_option maxRecDepth 100000 in
theorem tw_857 : Cond.code ({ cls := "RenamedCells$Cycles", name := "slotOf", desc := "(LRenamedCells$Program;I)I" } : Jvm.MethodName) prog_2_method_3_code (6 : Nat) (Option.some Jvm.ClassFile.FieldType.int) ∈ GW := gw_m (tb_4 (List.mem_of_getElem? (i := 137) rfl)) rfl
set_option maxRecDepth 100000 in
theorem tw_858 : Cond.methodLink "RenamedCells$Cycles" (39 : Nat) ({ cls := "RenamedCells$Machine", name := "begin", desc := "(LRenamedCells$Program;I)V" } : Jvm.MethodName) ∈ GW := gw_m (tb_4 (List.mem_of_getElem? (i := 138) rfl)) rfl
set_option maxRecDepth 100000 in
theorem tw_859 : Cond.methodLink "RenamedCells$Cycles" (43 : Nat) ({ cls := "RenamedCells$Machine", name := "isOver", desc := "()Z" } : Jvm.MethodName) ∈ GW := gw_m (tb_4 (List.mem_of_getElem? (i := 139) rfl)) rfl
set_option maxRecDepth 100000 in
theorem tw_860 : Cond.instanceMethod ({ cls := "RenamedCells$Machine", name := "isOver", desc := "()Z" } : Jvm.MethodName) ∈ GW := gw_m (tb_4 (List.mem_of_getElem? (i := 140) rfl)) rfl
set_option maxRecDepth 100000 in
theorem tw_861 : Cond.selects "RenamedCells$Machine" ({ cls := "RenamedCells$Machine", name := "isOver", desc := "()Z" } : Jvm.MethodName) ({ cls := "RenamedCells$Machine", name := "isOver", desc := "()Z" } : Jvm.MethodName) ∈ GW := gw_m (tb_4 (List.mem_of_getElem? (i := 141) rfl)) rfl
set_option maxRecDepth 100000 in
theorem tw_862 : Cond.code ({ cls := "RenamedCells$Machine", name := "isOver", desc := "()Z" } : Jvm.MethodName) prog_5_method_18_code (1 : Nat) (Option.some Jvm.ClassFile.FieldType.boolean) ∈ GW := gw_m (tb_4 (List.mem_of_getElem? (i := 142) rfl)) rfl
set_option maxRecDepth 100000 in
theorem tw_863 : Cond.methodLink "RenamedCells$Cycles" (47 : Nat) ({ cls := "RenamedCells$Cycles", name := "goOneCycle", desc := "()I" } : Jvm.MethodName) ∈ GW := gw_m (tb_4 (List.mem_of_getElem? (i := 143) rfl)) rfl
set_option maxRecDepth 100000 in
theorem tw_865 : Cond.instanceMethod ({ cls := "RenamedCells$Cycles", name := "goOneCycle", desc := "()I" } : Jvm.MethodName) ∈ GW := gw_m (tb_4 (List.mem_of_getElem? (i := 145) rfl)) rfl
set_option maxRecDepth 100000 in
theorem tw_866 : Cond.code ({ cls := "RenamedCells$Cycles", name := "goOneCycle", desc := "()I" } : Jvm.MethodName) prog_2_method_4_code (4 : Nat) (Option.some Jvm.ClassFile.FieldType.int) ∈ GW := gw_m (tb_4 (List.mem_of_getElem? (i := 146) rfl)) rfl
set_option maxRecDepth 100000 in
theorem tw_867 : Cond.methodLink "RenamedCells$Cycles" (72 : Nat) ({ cls := "RenamedCells$Machine", name := "whyNotRetire", desc := "()I" } : Jvm.MethodName) ∈ GW := gw_m (tb_4 (List.mem_of_getElem? (i := 147) rfl)) rfl
set_option maxRecDepth 100000 in
theorem tw_868 : Cond.methodLink "RenamedCells$Cycles" (75 : Nat) ({ cls := "RenamedCells$Machine", name := "retire", desc := "()I" } : Jvm.MethodName) ∈ GW := gw_m (tb_4 (List.mem_of_getElem? (i := 148) rfl)) rfl
set_option maxRecDepth 100000 in
theorem tw_869 : Cond.instanceMethod ({ cls := "RenamedCells$Machine", name := "retire", desc := "()I" } : Jvm.MethodName) ∈ GW := gw_m (tb_4 (List.mem_of_getElem? (i := 149) rfl)) rfl
set_option maxRecDepth 100000 in
theorem tw_870 : Cond.selects "RenamedCells$Machine" ({ cls := "RenamedCells$Machine", name := "retire", desc := "()I" } : Jvm.MethodName) ({ cls := "RenamedCells$Machine", name := "retire", desc := "()I" } : Jvm.MethodName) ∈ GW := gw_m (tb_4 (List.mem_of_getElem? (i := 150) rfl)) rfl
set_option maxRecDepth 100000 in
theorem tw_871 : Cond.code ({ cls := "RenamedCells$Machine", name := "retire", desc := "()I" } : Jvm.MethodName) prog_5_method_33_code (3 : Nat) (Option.some Jvm.ClassFile.FieldType.int) ∈ GW := gw_m (tb_4 (List.mem_of_getElem? (i := 151) rfl)) rfl
set_option maxRecDepth 100000 in
theorem nw_872 : Cond.methodLinkNest "RenamedCells$Machine" (169 : Nat) ({ cls := "RenamedCells", name := "isRegister", desc := "(I)Z" } : Jvm.MethodName) "RenamedCells" ∈ NW := nw_m (tb_4 (List.mem_of_getElem? (i := 152) rfl)) rfl
set_option maxRecDepth 100000 in
theorem tw_873 : Cond.methodLink "RenamedCells$Machine" (200 : Nat) ({ cls := "RenamedCells$Machine", name := "dropOldest", desc := "()V" } : Jvm.MethodName) ∈ GW := gw_m (tb_4 (List.mem_of_getElem? (i := 153) rfl)) rfl
set_option maxRecDepth 100000 in
theorem tw_875 : Cond.instanceMethod ({ cls := "RenamedCells$Machine", name := "dropOldest", desc := "()V" } : Jvm.MethodName) ∈ GW := gw_m (tb_4 (List.mem_of_getElem? (i := 155) rfl)) rfl
set_option maxRecDepth 100000 in
theorem tw_876 : Cond.code ({ cls := "RenamedCells$Machine", name := "dropOldest", desc := "()V" } : Jvm.MethodName) prog_5_method_34_code (1 : Nat) (Option.none : Option Jvm.ClassFile.FieldType) ∈ GW := gw_m (tb_4 (List.mem_of_getElem? (i := 156) rfl)) rfl
set_option maxRecDepth 100000 in
theorem tw_877 : Cond.methodLink "RenamedCells$Machine" (67 : Nat) ({ cls := "java/lang/System", name := "arraycopy", desc := "(Ljava/lang/Object;ILjava/lang/Object;II)V" } : Jvm.MethodName) ∈ GW := gw_m (tb_4 (List.mem_of_getElem? (i := 157) rfl)) rfl
set_option maxRecDepth 100000 in
theorem tw_878 : Cond.static ({ cls := "java/lang/System", name := "arraycopy", desc := "(Ljava/lang/Object;ILjava/lang/Object;II)V" } : Jvm.MethodName) ∈ GW := gw_m (tb_4 (List.mem_of_getElem? (i := 158) rfl)) rfl
set_option maxRecDepth 100000 in
theorem tw_879 : Cond.native ({ cls := "java/lang/System", name := "arraycopy", desc := "(Ljava/lang/Object;ILjava/lang/Object;II)V" } : Jvm.MethodName) ∈ GW := gw_m (tb_4 (List.mem_of_getElem? (i := 159) rfl)) rfl
set_option maxRecDepth 100000 in
theorem tw_880 : Cond.methodLink "RenamedCells$Cycles" (78 : Nat) ({ cls := "RenamedCells$Machine", name := "oldestToWork", desc := "()I" } : Jvm.MethodName) ∈ GW := gw_m (tb_4 (List.mem_of_getElem? (i := 160) rfl)) rfl
set_option maxRecDepth 100000 in
theorem tw_881 : Cond.instanceMethod ({ cls := "RenamedCells$Machine", name := "oldestToWork", desc := "()I" } : Jvm.MethodName) ∈ GW := gw_m (tb_4 (List.mem_of_getElem? (i := 161) rfl)) rfl
set_option maxRecDepth 100000 in
theorem tw_882 : Cond.selects "RenamedCells$Machine" ({ cls := "RenamedCells$Machine", name := "oldestToWork", desc := "()I" } : Jvm.MethodName) ({ cls := "RenamedCells$Machine", name := "oldestToWork", desc := "()I" } : Jvm.MethodName) ∈ GW := gw_m (tb_4 (List.mem_of_getElem? (i := 162) rfl)) rfl
set_option maxRecDepth 100000 in
theorem tw_883 : Cond.code ({ cls := "RenamedCells$Machine", name := "oldestToWork", desc := "()I" } : Jvm.MethodName) prog_5_method_17_code (2 : Nat) (Option.some Jvm.ClassFile.FieldType.int) ∈ GW := gw_m (tb_4 (List.mem_of_getElem? (i := 163) rfl)) rfl
set_option maxRecDepth 100000 in
theorem tw_884 : Cond.methodLink "RenamedCells$Machine" (119 : Nat) ({ cls := "RenamedCells$Machine", name := "canWork", desc := "(I)Z" } : Jvm.MethodName) ∈ GW := gw_m (tb_4 (List.mem_of_getElem? (i := 164) rfl)) rfl
set_option maxRecDepth 100000 in
theorem tw_885 : Cond.methodLink "RenamedCells$Cycles" (81 : Nat) ({ cls := "RenamedCells$Machine", name := "misguessed", desc := "(I)Z" } : Jvm.MethodName) ∈ GW := gw_m (tb_4 (List.mem_of_getElem? (i := 165) rfl)) rfl
set_option maxRecDepth 100000 in
theorem tw_886 : Cond.instanceMethod ({ cls := "RenamedCells$Machine", name := "misguessed", desc := "(I)Z" } : Jvm.MethodName) ∈ GW := gw_m (tb_4 (List.mem_of_getElem? (i := 166) rfl)) rfl
set_option maxRecDepth 100000 in
theorem tw_887 : Cond.selects "RenamedCells$Machine" ({ cls := "RenamedCells$Machine", name := "misguessed", desc := "(I)Z" } : Jvm.MethodName) ({ cls := "RenamedCells$Machine", name := "misguessed", desc := "(I)Z" } : Jvm.MethodName) ∈ GW := gw_m (tb_4 (List.mem_of_getElem? (i := 167) rfl)) rfl
set_option maxRecDepth 100000 in
theorem tw_888 : Cond.code ({ cls := "RenamedCells$Machine", name := "misguessed", desc := "(I)Z" } : Jvm.MethodName) prog_5_method_28_code (2 : Nat) (Option.some Jvm.ClassFile.FieldType.boolean) ∈ GW := gw_m (tb_4 (List.mem_of_getElem? (i := 168) rfl)) rfl
set_option maxRecDepth 100000 in
theorem tw_889 : Cond.methodLink "RenamedCells$Machine" (184 : Nat) ({ cls := "RenamedCells$Machine", name := "nextOf", desc := "(I)I" } : Jvm.MethodName) ∈ GW := gw_m (tb_4 (List.mem_of_getElem? (i := 169) rfl)) rfl
set_option maxRecDepth 100000 in
theorem tw_891 : Cond.instanceMethod ({ cls := "RenamedCells$Machine", name := "nextOf", desc := "(I)I" } : Jvm.MethodName) ∈ GW := gw_m (tb_4 (List.mem_of_getElem? (i := 171) rfl)) rfl
set_option maxRecDepth 100000 in
theorem tw_892 : Cond.code ({ cls := "RenamedCells$Machine", name := "nextOf", desc := "(I)I" } : Jvm.MethodName) prog_5_method_29_code (2 : Nat) (Option.some Jvm.ClassFile.FieldType.int) ∈ GW := gw_m (tb_4 (List.mem_of_getElem? (i := 172) rfl)) rfl
set_option maxRecDepth 100000 in
theorem tw_893 : Cond.methodLink "RenamedCells$Machine" (187 : Nat) ({ cls := "RenamedCells$Machine", name := "valueRead", desc := "(I)I" } : Jvm.MethodName) ∈ GW := gw_m (tb_4 (List.mem_of_getElem? (i := 173) rfl)) rfl
set_option maxRecDepth 100000 in
theorem tw_895 : Cond.instanceMethod ({ cls := "RenamedCells$Machine", name := "valueRead", desc := "(I)I" } : Jvm.MethodName) ∈ GW := gw_m (tb_4 (List.mem_of_getElem? (i := 175) rfl)) rfl
set_option maxRecDepth 100000 in
theorem tw_896 : Cond.code ({ cls := "RenamedCells$Machine", name := "valueRead", desc := "(I)I" } : Jvm.MethodName) prog_5_method_27_code (2 : Nat) (Option.some Jvm.ClassFile.FieldType.int) ∈ GW := gw_m (tb_4 (List.mem_of_getElem? (i := 176) rfl)) rfl
set_option maxRecDepth 100000 in
theorem tw_897 : Cond.methodLink "RenamedCells$Machine" (190 : Nat) ({ cls := "RenamedCells$Program", name := "nextBehind", desc := "(III)I" } : Jvm.MethodName) ∈ GW := gw_m (tb_4 (List.mem_of_getElem? (i := 177) rfl)) rfl
set_option maxRecDepth 100000 in
theorem tw_898 : Cond.methodLink "RenamedCells$Machine" (166 : Nat) ({ cls := "RenamedCells$Program", name := "guessBehind", desc := "(I)I" } : Jvm.MethodName) ∈ GW := gw_m (tb_4 (List.mem_of_getElem? (i := 178) rfl)) rfl
set_option maxRecDepth 100000 in
theorem tw_899 : Cond.methodLink "RenamedCells$Cycles" (85 : Nat) ({ cls := "RenamedCells$Machine", name := "work", desc := "(I)I" } : Jvm.MethodName) ∈ GW := gw_m (tb_4 (List.mem_of_getElem? (i := 179) rfl)) rfl
set_option maxRecDepth 100000 in
theorem tw_900 : Cond.instanceMethod ({ cls := "RenamedCells$Machine", name := "work", desc := "(I)I" } : Jvm.MethodName) ∈ GW := gw_m (tb_4 (List.mem_of_getElem? (i := 180) rfl)) rfl
set_option maxRecDepth 100000 in
theorem tw_901 : Cond.selects "RenamedCells$Machine" ({ cls := "RenamedCells$Machine", name := "work", desc := "(I)I" } : Jvm.MethodName) ({ cls := "RenamedCells$Machine", name := "work", desc := "(I)I" } : Jvm.MethodName) ∈ GW := gw_m (tb_4 (List.mem_of_getElem? (i := 181) rfl)) rfl
set_option maxRecDepth 100000 in
theorem tw_902 : Cond.code ({ cls := "RenamedCells$Machine", name := "work", desc := "(I)I" } : Jvm.MethodName) prog_5_method_30_code (3 : Nat) (Option.some Jvm.ClassFile.FieldType.int) ∈ GW := gw_m (tb_4 (List.mem_of_getElem? (i := 182) rfl)) rfl
set_option maxRecDepth 100000 in
theorem tw_903 : Cond.methodLink "RenamedCells$Machine" (194 : Nat) ({ cls := "RenamedCells$Machine", name := "workSkip", desc := "(I)I" } : Jvm.MethodName) ∈ GW := gw_m (tb_4 (List.mem_of_getElem? (i := 183) rfl)) rfl
set_option maxRecDepth 100000 in
theorem tw_905 : Cond.instanceMethod ({ cls := "RenamedCells$Machine", name := "workSkip", desc := "(I)I" } : Jvm.MethodName) ∈ GW := gw_m (tb_4 (List.mem_of_getElem? (i := 185) rfl)) rfl
set_option maxRecDepth 100000 in
theorem tw_906 : Cond.code ({ cls := "RenamedCells$Machine", name := "workSkip", desc := "(I)I" } : Jvm.MethodName) prog_5_method_31_code (4 : Nat) (Option.some Jvm.ClassFile.FieldType.int) ∈ GW := gw_m (tb_4 (List.mem_of_getElem? (i := 186) rfl)) rfl
set_option maxRecDepth 100000 in
theorem tw_907 : Cond.methodLink "RenamedCells$Machine" (197 : Nat) ({ cls := "RenamedCells$Program", name := "outcome", desc := "(III)I" } : Jvm.MethodName) ∈ GW := gw_m (tb_4 (List.mem_of_getElem? (i := 187) rfl)) rfl
set_option maxRecDepth 100000 in
theorem tw_908 : Cond.methodLink "RenamedCells$Cycles" (88 : Nat) ({ cls := "RenamedCells$Machine", name := "whyNotTake", desc := "()I" } : Jvm.MethodName) ∈ GW := gw_m (tb_4 (List.mem_of_getElem? (i := 188) rfl)) rfl
set_option maxRecDepth 100000 in
theorem tw_909 : Cond.methodLink "RenamedCells$Cycles" (91 : Nat) ({ cls := "RenamedCells$Machine", name := "take", desc := "()I" } : Jvm.MethodName) ∈ GW := gw_m (tb_4 (List.mem_of_getElem? (i := 189) rfl)) rfl
set_option maxRecDepth 100000 in
theorem tw_910 : Cond.instanceMethod ({ cls := "RenamedCells$Machine", name := "take", desc := "()I" } : Jvm.MethodName) ∈ GW := gw_m (tb_4 (List.mem_of_getElem? (i := 190) rfl)) rfl
set_option maxRecDepth 100000 in
theorem tw_911 : Cond.selects "RenamedCells$Machine" ({ cls := "RenamedCells$Machine", name := "take", desc := "()I" } : Jvm.MethodName) ({ cls := "RenamedCells$Machine", name := "take", desc := "()I" } : Jvm.MethodName) ∈ GW := gw_m (tb_4 (List.mem_of_getElem? (i := 191) rfl)) rfl
set_option maxRecDepth 100000 in
theorem tw_912 : Cond.code ({ cls := "RenamedCells$Machine", name := "take", desc := "()I" } : Jvm.MethodName) prog_5_method_21_code (3 : Nat) (Option.some Jvm.ClassFile.FieldType.int) ∈ GW := gw_m (tb_4 (List.mem_of_getElem? (i := 192) rfl)) rfl
set_option maxRecDepth 100000 in
theorem tw_913 : Cond.methodLink "RenamedCells$Machine" (151 : Nat) ({ cls := "RenamedCells$Machine", name := "cellToRead", desc := "(I)I" } : Jvm.MethodName) ∈ GW := gw_m (tb_4 (List.mem_of_getElem? (i := 193) rfl)) rfl
set_option maxRecDepth 100000 in
theorem tw_915 : Cond.instanceMethod ({ cls := "RenamedCells$Machine", name := "cellToRead", desc := "(I)I" } : Jvm.MethodName) ∈ GW := gw_m (tb_4 (List.mem_of_getElem? (i := 195) rfl)) rfl
set_option maxRecDepth 100000 in
theorem tw_916 : Cond.code ({ cls := "RenamedCells$Machine", name := "cellToRead", desc := "(I)I" } : Jvm.MethodName) prog_5_method_22_code (2 : Nat) (Option.some Jvm.ClassFile.FieldType.int) ∈ GW := gw_m (tb_4 (List.mem_of_getElem? (i := 196) rfl)) rfl
set_option maxRecDepth 100000 in
theorem tw_917 : Cond.methodLink "RenamedCells$Machine" (157 : Nat) ({ cls := "RenamedCells$Machine", name := "saveIfRoom", desc := "(I)V" } : Jvm.MethodName) ∈ GW := gw_m (tb_4 (List.mem_of_getElem? (i := 197) rfl)) rfl
set_option maxRecDepth 100000 in
theorem tw_919 : Cond.instanceMethod ({ cls := "RenamedCells$Machine", name := "saveIfRoom", desc := "(I)V" } : Jvm.MethodName) ∈ GW := gw_m (tb_4 (List.mem_of_getElem? (i := 199) rfl)) rfl
set_option maxRecDepth 100000 in
theorem tw_920 : Cond.code ({ cls := "RenamedCells$Machine", name := "saveIfRoom", desc := "(I)V" } : Jvm.MethodName) prog_5_method_23_code (2 : Nat) (Option.none : Option Jvm.ClassFile.FieldType) ∈ GW := gw_m (tb_4 (List.mem_of_getElem? (i := 200) rfl)) rfl
set_option maxRecDepth 100000 in
theorem tw_921 : Cond.methodLink "RenamedCells$Machine" (172 : Nat) ({ cls := "java/lang/Integer", name := "bitCount", desc := "(I)I" } : Jvm.MethodName) ∈ GW := gw_m (tb_4 (List.mem_of_getElem? (i := 201) rfl)) rfl
set_option maxRecDepth 100000 in
theorem tw_922 : Cond.methodLink "RenamedCells$Machine" (160 : Nat) ({ cls := "RenamedCells$Machine", name := "claim", desc := "(I)V" } : Jvm.MethodName) ∈ GW := gw_m (tb_4 (List.mem_of_getElem? (i := 202) rfl)) rfl
set_option maxRecDepth 100000 in
theorem tw_924 : Cond.instanceMethod ({ cls := "RenamedCells$Machine", name := "claim", desc := "(I)V" } : Jvm.MethodName) ∈ GW := gw_m (tb_4 (List.mem_of_getElem? (i := 204) rfl)) rfl
set_option maxRecDepth 100000 in
theorem tw_925 : Cond.code ({ cls := "RenamedCells$Machine", name := "claim", desc := "(I)V" } : Jvm.MethodName) prog_5_method_24_code (3 : Nat) (Option.none : Option Jvm.ClassFile.FieldType) ∈ GW := gw_m (tb_4 (List.mem_of_getElem? (i := 205) rfl)) rfl
set_option maxRecDepth 100000 in
theorem tw_926 : Cond.methodLink "RenamedCells$Machine" (163 : Nat) ({ cls := "RenamedCells$Program", name := "isRisky", desc := "(I)Z" } : Jvm.MethodName) ∈ GW := gw_m (tb_4 (List.mem_of_getElem? (i := 206) rfl)) rfl
set_option maxRecDepth 100000 in
theorem tw_927 : Cond.instanceMethod ({ cls := "RenamedCells$Program", name := "isRisky", desc := "(I)Z" } : Jvm.MethodName) ∈ GW := gw_m (tb_4 (List.mem_of_getElem? (i := 207) rfl)) rfl
set_option maxRecDepth 100000 in
theorem tw_928 : Cond.selects "RenamedCells$Program" ({ cls := "RenamedCells$Program", name := "isRisky", desc := "(I)Z" } : Jvm.MethodName) ({ cls := "RenamedCells$Program", name := "isRisky", desc := "(I)Z" } : Jvm.MethodName) ∈ GW := gw_m (tb_4 (List.mem_of_getElem? (i := 208) rfl)) rfl
set_option maxRecDepth 100000 in
theorem tw_929 : Cond.code ({ cls := "RenamedCells$Program", name := "isRisky", desc := "(I)Z" } : Jvm.MethodName) prog_7_method_8_code (2 : Nat) (Option.some Jvm.ClassFile.FieldType.boolean) ∈ GW := gw_m (tb_4 (List.mem_of_getElem? (i := 209) rfl)) rfl
set_option maxRecDepth 100000 in
theorem tw_930 : Cond.methodLink "RenamedCells$Cycles" (55 : Nat) ({ cls := "RenamedCells$Machine", name := "freeBits", desc := "(I)I" } : Jvm.MethodName) ∈ GW := gw_m (tb_4 (List.mem_of_getElem? (i := 210) rfl)) rfl
set_option maxRecDepth 100000 in
theorem tw_931 : Cond.methodLink "RenamedCells$Cycles" (59 : Nat) ({ cls := "java/lang/Integer", name := "bitCount", desc := "(I)I" } : Jvm.MethodName) ∈ GW := gw_m (tb_4 (List.mem_of_getElem? (i := 211) rfl)) rfl
set_option maxRecDepth 100000 in
theorem tw_932 : Cond.methodLink "RenamedCells$Cycles" (64 : Nat) ({ cls := "java/lang/Math", name := "max", desc := "(II)I" } : Jvm.MethodName) ∈ GW := gw_m (tb_4 (List.mem_of_getElem? (i := 212) rfl)) rfl
set_option maxRecDepth 100000 in
theorem tw_933 : Cond.static ({ cls := "java/lang/Math", name := "max", desc := "(II)I" } : Jvm.MethodName) ∈ GW := gw_m (tb_4 (List.mem_of_getElem? (i := 213) rfl)) rfl
set_option maxRecDepth 100000 in
theorem tw_934 : Cond.code ({ cls := "java/lang/Math", name := "max", desc := "(II)I" } : Jvm.MethodName) prog_18_method_65_code (2 : Nat) (Option.some Jvm.ClassFile.FieldType.int) ∈ GW := gw_m (tb_4 (List.mem_of_getElem? (i := 214) rfl)) rfl
set_option maxRecDepth 100000 in
theorem tw_935 : Cond.methodLink "RenamedCellsLaw" (130 : Nat) ({ cls := "RenamedCells", name := "commits", desc := "(I)I" } : Jvm.MethodName) ∈ GW := gw_m (tb_4 (List.mem_of_getElem? (i := 215) rfl)) rfl
set_option maxRecDepth 100000 in
theorem tw_936 : Cond.instanceMethod ({ cls := "RenamedCells", name := "commits", desc := "(I)I" } : Jvm.MethodName) ∈ GW := gw_m (tb_4 (List.mem_of_getElem? (i := 216) rfl)) rfl
set_option maxRecDepth 100000 in
theorem tw_937 : Cond.selects "RenamedCells" ({ cls := "RenamedCells", name := "commits", desc := "(I)I" } : Jvm.MethodName) ({ cls := "RenamedCells", name := "commits", desc := "(I)I" } : Jvm.MethodName) ∈ GW := gw_m (tb_4 (List.mem_of_getElem? (i := 217) rfl)) rfl
set_option maxRecDepth 100000 in
theorem tw_938 : Cond.code ({ cls := "RenamedCells", name := "commits", desc := "(I)I" } : Jvm.MethodName) prog_1_method_32_code (2 : Nat) (Option.some Jvm.ClassFile.FieldType.int) ∈ GW := gw_m (tb_4 (List.mem_of_getElem? (i := 218) rfl)) rfl
set_option maxRecDepth 100000 in
theorem tw_939 : Cond.methodLink "RenamedCellsLaw" (134 : Nat) ({ cls := "RenamedCells", name := "misses", desc := "(I)I" } : Jvm.MethodName) ∈ GW := gw_m (tb_4 (List.mem_of_getElem? (i := 219) rfl)) rfl
set_option maxRecDepth 100000 in
theorem tw_940 : Cond.instanceMethod ({ cls := "RenamedCells", name := "misses", desc := "(I)I" } : Jvm.MethodName) ∈ GW := gw_m (tb_4 (List.mem_of_getElem? (i := 220) rfl)) rfl
set_option maxRecDepth 100000 in
theorem tw_941 : Cond.selects "RenamedCells" ({ cls := "RenamedCells", name := "misses", desc := "(I)I" } : Jvm.MethodName) ({ cls := "RenamedCells", name := "misses", desc := "(I)I" } : Jvm.MethodName) ∈ GW := gw_m (tb_4 (List.mem_of_getElem? (i := 221) rfl)) rfl
set_option maxRecDepth 100000 in
theorem tw_942 : Cond.code ({ cls := "RenamedCells", name := "misses", desc := "(I)I" } : Jvm.MethodName) prog_1_method_33_code (2 : Nat) (Option.some Jvm.ClassFile.FieldType.int) ∈ GW := gw_m (tb_4 (List.mem_of_getElem? (i := 222) rfl)) rfl
set_option maxRecDepth 100000 in
theorem tw_943 : Cond.methodLink "RenamedCellsLaw" (138 : Nat) ({ cls := "RenamedCells", name := "crowd", desc := "(I)I" } : Jvm.MethodName) ∈ GW := gw_m (tb_4 (List.mem_of_getElem? (i := 223) rfl)) rfl
set_option maxRecDepth 100000 in
theorem tw_944 : Cond.instanceMethod ({ cls := "RenamedCells", name := "crowd", desc := "(I)I" } : Jvm.MethodName) ∈ GW := gw_m (tb_4 (List.mem_of_getElem? (i := 224) rfl)) rfl
set_option maxRecDepth 100000 in
theorem tw_945 : Cond.selects "RenamedCells" ({ cls := "RenamedCells", name := "crowd", desc := "(I)I" } : Jvm.MethodName) ({ cls := "RenamedCells", name := "crowd", desc := "(I)I" } : Jvm.MethodName) ∈ GW := gw_m (tb_4 (List.mem_of_getElem? (i := 225) rfl)) rfl
set_option maxRecDepth 100000 in
theorem tw_946 : Cond.code ({ cls := "RenamedCells", name := "crowd", desc := "(I)I" } : Jvm.MethodName) prog_1_method_34_code (2 : Nat) (Option.some Jvm.ClassFile.FieldType.int) ∈ GW := gw_m (tb_4 (List.mem_of_getElem? (i := 226) rfl)) rfl
set_option maxRecDepth 100000 in
theorem tw_947 : Cond.methodLink "RenamedCellsLaw" (142 : Nat) ({ cls := "RenamedCells", name := "cellsFor", desc := "(I)I" } : Jvm.MethodName) ∈ GW := gw_m (tb_4 (List.mem_of_getElem? (i := 227) rfl)) rfl
set_option maxRecDepth 100000 in
theorem tw_948 : Cond.instanceMethod ({ cls := "RenamedCells", name := "cellsFor", desc := "(I)I" } : Jvm.MethodName) ∈ GW := gw_m (tb_4 (List.mem_of_getElem? (i := 228) rfl)) rfl
set_option maxRecDepth 100000 in
theorem tw_949 : Cond.selects "RenamedCells" ({ cls := "RenamedCells", name := "cellsFor", desc := "(I)I" } : Jvm.MethodName) ({ cls := "RenamedCells", name := "cellsFor", desc := "(I)I" } : Jvm.MethodName) ∈ GW := gw_m (tb_4 (List.mem_of_getElem? (i := 229) rfl)) rfl
set_option maxRecDepth 100000 in
theorem tw_950 : Cond.code ({ cls := "RenamedCells", name := "cellsFor", desc := "(I)I" } : Jvm.MethodName) prog_1_method_35_code (3 : Nat) (Option.some Jvm.ClassFile.FieldType.int) ∈ GW := gw_m (tb_4 (List.mem_of_getElem? (i := 230) rfl)) rfl
set_option maxRecDepth 100000 in
theorem tw_951 : Cond.methodLink "RenamedCellsLaw" (146 : Nat) ({ cls := "RenamedCells", name := "rate", desc := "(IZ)J" } : Jvm.MethodName) ∈ GW := gw_m (tb_4 (List.mem_of_getElem? (i := 231) rfl)) rfl
set_option maxRecDepth 100000 in
theorem tw_952 : Cond.instanceMethod ({ cls := "RenamedCells", name := "rate", desc := "(IZ)J" } : Jvm.MethodName) ∈ GW := gw_m (tb_4 (List.mem_of_getElem? (i := 232) rfl)) rfl
set_option maxRecDepth 100000 in
theorem tw_953 : Cond.selects "RenamedCells" ({ cls := "RenamedCells", name := "rate", desc := "(IZ)J" } : Jvm.MethodName) ({ cls := "RenamedCells", name := "rate", desc := "(IZ)J" } : Jvm.MethodName) ∈ GW := gw_m (tb_4 (List.mem_of_getElem? (i := 233) rfl)) rfl
set_option maxRecDepth 100000 in
theorem tw_954 : Cond.code ({ cls := "RenamedCells", name := "rate", desc := "(IZ)J" } : Jvm.MethodName) prog_1_method_36_code (7 : Nat) (Option.some Jvm.ClassFile.FieldType.long) ∈ GW := gw_m (tb_4 (List.mem_of_getElem? (i := 234) rfl)) rfl
set_option maxRecDepth 100000 in
theorem tw_955 : Cond.constantLong "RenamedCells" (254 : Nat) (-1 : Int64) ∈ GW := gw_m (tb_4 (List.mem_of_getElem? (i := 235) rfl)) rfl
set_option maxRecDepth 100000 in
theorem tw_956 : Cond.methodLink "RenamedCells" (256 : Nat) ({ cls := "RenamedCells", name := "commonDivisor", desc := "(II)I" } : Jvm.MethodName) ∈ GW := gw_m (tb_4 (List.mem_of_getElem? (i := 236) rfl)) rfl
set_option maxRecDepth 100000 in
theorem tw_957 : Cond.static ({ cls := "RenamedCells", name := "commonDivisor", desc := "(II)I" } : Jvm.MethodName) ∈ GW := gw_m (tb_4 (List.mem_of_getElem? (i := 237) rfl)) rfl
set_option maxRecDepth 100000 in
theorem tw_958 : Cond.code ({ cls := "RenamedCells", name := "commonDivisor", desc := "(II)I" } : Jvm.MethodName) prog_1_method_37_code (3 : Nat) (Option.some Jvm.ClassFile.FieldType.int) ∈ GW := gw_m (tb_4 (List.mem_of_getElem? (i := 238) rfl)) rfl
set_option maxRecDepth 100000 in
theorem tw_959 : Cond.methodLink "RenamedCellsLaw" (151 : Nat) ({ cls := "RenamedCells", name := "fits", desc := "()I" } : Jvm.MethodName) ∈ GW := gw_m (tb_4 (List.mem_of_getElem? (i := 239) rfl)) rfl
set_option maxRecDepth 100000 in
theorem tw_960 : Cond.instanceMethod ({ cls := "RenamedCells", name := "fits", desc := "()I" } : Jvm.MethodName) ∈ GW := gw_m (tb_5 (List.mem_of_getElem? (i := 0) rfl)) rfl
set_option maxRecDepth 100000 in
theorem tw_961 : Cond.selects "RenamedCells" ({ cls := "RenamedCells", name := "fits", desc := "()I" } : Jvm.MethodName) ({ cls := "RenamedCells", name := "fits", desc := "()I" } : Jvm.MethodName) ∈ GW := gw_m (tb_5 (List.mem_of_getElem? (i := 1) rfl)) rfl
set_option maxRecDepth 100000 in
theorem tw_962 : Cond.code ({ cls := "RenamedCells", name := "fits", desc := "()I" } : Jvm.MethodName) prog_1_method_38_code (1 : Nat) (Option.some Jvm.ClassFile.FieldType.int) ∈ GW := gw_m (tb_5 (List.mem_of_getElem? (i := 2) rfl)) rfl
set_option maxRecDepth 100000 in
theorem tw_963 : Cond.methodLink "RenamedCells" (259 : Nat) ({ cls := "RenamedCells$Fits", name := "howMany", desc := "()I" } : Jvm.MethodName) ∈ GW := gw_m (tb_5 (List.mem_of_getElem? (i := 3) rfl)) rfl
set_option maxRecDepth 100000 in
theorem tw_964 : Cond.instanceMethod ({ cls := "RenamedCells$Fits", name := "howMany", desc := "()I" } : Jvm.MethodName) ∈ GW := gw_m (tb_5 (List.mem_of_getElem? (i := 4) rfl)) rfl
set_option maxRecDepth 100000 in
theorem tw_965 : Cond.selects "RenamedCells$Fits" ({ cls := "RenamedCells$Fits", name := "howMany", desc := "()I" } : Jvm.MethodName) ({ cls := "RenamedCells$Fits", name := "howMany", desc := "()I" } : Jvm.MethodName) ∈ GW := gw_m (tb_5 (List.mem_of_getElem? (i := 5) rfl)) rfl
set_option maxRecDepth 100000 in
theorem tw_966 : Cond.code ({ cls := "RenamedCells$Fits", name := "howMany", desc := "()I" } : Jvm.MethodName) prog_3_method_4_code (1 : Nat) (Option.some Jvm.ClassFile.FieldType.int) ∈ GW := gw_m (tb_5 (List.mem_of_getElem? (i := 6) rfl)) rfl
set_option maxRecDepth 100000 in
theorem tw_967 : Cond.methodLink "RenamedCells$Fits" (31 : Nat) ({ cls := "java/lang/Integer", name := "bitCount", desc := "(I)I" } : Jvm.MethodName) ∈ GW := gw_m (tb_5 (List.mem_of_getElem? (i := 7) rfl)) rfl
set_option maxRecDepth 100000 in
theorem tw_968 : Cond.methodLink "RenamedCellsLaw" (155 : Nat) ({ cls := "RenamedCells", name := "fitAt", desc := "(I)I" } : Jvm.MethodName) ∈ GW := gw_m (tb_5 (List.mem_of_getElem? (i := 8) rfl)) rfl
set_option maxRecDepth 100000 in
theorem tw_969 : Cond.instanceMethod ({ cls := "RenamedCells", name := "fitAt", desc := "(I)I" } : Jvm.MethodName) ∈ GW := gw_m (tb_5 (List.mem_of_getElem? (i := 9) rfl)) rfl
set_option maxRecDepth 100000 in
theorem tw_970 : Cond.selects "RenamedCells" ({ cls := "RenamedCells", name := "fitAt", desc := "(I)I" } : Jvm.MethodName) ({ cls := "RenamedCells", name := "fitAt", desc := "(I)I" } : Jvm.MethodName) ∈ GW := gw_m (tb_5 (List.mem_of_getElem? (i := 10) rfl)) rfl
set_option maxRecDepth 100000 in
theorem tw_971 : Cond.code ({ cls := "RenamedCells", name := "fitAt", desc := "(I)I" } : Jvm.MethodName) prog_1_method_39_code (2 : Nat) (Option.some Jvm.ClassFile.FieldType.int) ∈ GW := gw_m (tb_5 (List.mem_of_getElem? (i := 11) rfl)) rfl
set_option maxRecDepth 100000 in
theorem tw_972 : Cond.methodLink "RenamedCells" (262 : Nat) ({ cls := "RenamedCells$Fits", name := "nth", desc := "(I)I" } : Jvm.MethodName) ∈ GW := gw_m (tb_5 (List.mem_of_getElem? (i := 12) rfl)) rfl
set_option maxRecDepth 100000 in
theorem tw_973 : Cond.instanceMethod ({ cls := "RenamedCells$Fits", name := "nth", desc := "(I)I" } : Jvm.MethodName) ∈ GW := gw_m (tb_5 (List.mem_of_getElem? (i := 13) rfl)) rfl
set_option maxRecDepth 100000 in
theorem tw_974 : Cond.selects "RenamedCells$Fits" ({ cls := "RenamedCells$Fits", name := "nth", desc := "(I)I" } : Jvm.MethodName) ({ cls := "RenamedCells$Fits", name := "nth", desc := "(I)I" } : Jvm.MethodName) ∈ GW := gw_m (tb_5 (List.mem_of_getElem? (i := 14) rfl)) rfl
set_option maxRecDepth 100000 in
theorem tw_975 : Cond.code ({ cls := "RenamedCells$Fits", name := "nth", desc := "(I)I" } : Jvm.MethodName) prog_3_method_5_code (4 : Nat) (Option.some Jvm.ClassFile.FieldType.int) ∈ GW := gw_m (tb_5 (List.mem_of_getElem? (i := 15) rfl)) rfl
set_option maxRecDepth 100000 in
theorem tw_976 : Cond.methodLink "RenamedCells$Fits" (37 : Nat) ({ cls := "RenamedCells$Fits", name := "fitsBy", desc := "(I)Z" } : Jvm.MethodName) ∈ GW := gw_m (tb_5 (List.mem_of_getElem? (i := 16) rfl)) rfl
set_option maxRecDepth 100000 in
theorem tw_978 : Cond.instanceMethod ({ cls := "RenamedCells$Fits", name := "fitsBy", desc := "(I)Z" } : Jvm.MethodName) ∈ GW := gw_m (tb_5 (List.mem_of_getElem? (i := 18) rfl)) rfl
set_option maxRecDepth 100000 in
theorem tw_979 : Cond.code ({ cls := "RenamedCells$Fits", name := "fitsBy", desc := "(I)Z" } : Jvm.MethodName) prog_3_method_3_code (2 : Nat) (Option.some Jvm.ClassFile.FieldType.boolean) ∈ GW := gw_m (tb_5 (List.mem_of_getElem? (i := 19) rfl)) rfl
set_option maxRecDepth 100000 in
theorem tw_980 : Cond.methodLink "RenamedCellsLaw" (159 : Nat) ({ cls := "RenamedCells", name := "could", desc := "()I" } : Jvm.MethodName) ∈ GW := gw_m (tb_5 (List.mem_of_getElem? (i := 20) rfl)) rfl
set_option maxRecDepth 100000 in
theorem tw_981 : Cond.instanceMethod ({ cls := "RenamedCells", name := "could", desc := "()I" } : Jvm.MethodName) ∈ GW := gw_m (tb_5 (List.mem_of_getElem? (i := 21) rfl)) rfl
set_option maxRecDepth 100000 in
theorem tw_982 : Cond.selects "RenamedCells" ({ cls := "RenamedCells", name := "could", desc := "()I" } : Jvm.MethodName) ({ cls := "RenamedCells", name := "could", desc := "()I" } : Jvm.MethodName) ∈ GW := gw_m (tb_5 (List.mem_of_getElem? (i := 22) rfl)) rfl
set_option maxRecDepth 100000 in
theorem tw_983 : Cond.code ({ cls := "RenamedCells", name := "could", desc := "()I" } : Jvm.MethodName) prog_1_method_40_code (1 : Nat) (Option.some Jvm.ClassFile.FieldType.int) ∈ GW := gw_m (tb_5 (List.mem_of_getElem? (i := 23) rfl)) rfl
set_option maxRecDepth 100000 in
theorem tw_984 : Cond.methodLink "RenamedCells" (265 : Nat) ({ cls := "RenamedCells$Fits", name := "inSome", desc := "()I" } : Jvm.MethodName) ∈ GW := gw_m (tb_5 (List.mem_of_getElem? (i := 24) rfl)) rfl
set_option maxRecDepth 100000 in
theorem tw_985 : Cond.instanceMethod ({ cls := "RenamedCells$Fits", name := "inSome", desc := "()I" } : Jvm.MethodName) ∈ GW := gw_m (tb_5 (List.mem_of_getElem? (i := 25) rfl)) rfl
set_option maxRecDepth 100000 in
theorem tw_986 : Cond.selects "RenamedCells$Fits" ({ cls := "RenamedCells$Fits", name := "inSome", desc := "()I" } : Jvm.MethodName) ({ cls := "RenamedCells$Fits", name := "inSome", desc := "()I" } : Jvm.MethodName) ∈ GW := gw_m (tb_5 (List.mem_of_getElem? (i := 26) rfl)) rfl
set_option maxRecDepth 100000 in
theorem tw_987 : Cond.code ({ cls := "RenamedCells$Fits", name := "inSome", desc := "()I" } : Jvm.MethodName) prog_3_method_6_code (3 : Nat) (Option.some Jvm.ClassFile.FieldType.int) ∈ GW := gw_m (tb_5 (List.mem_of_getElem? (i := 27) rfl)) rfl
set_option maxRecDepth 100000 in
theorem tw_988 : Cond.methodLink "RenamedCellsLaw" (163 : Nat) ({ cls := "RenamedCells", name := "surely", desc := "()I" } : Jvm.MethodName) ∈ GW := gw_m (tb_5 (List.mem_of_getElem? (i := 28) rfl)) rfl
set_option maxRecDepth 100000 in
theorem tw_989 : Cond.instanceMethod ({ cls := "RenamedCells", name := "surely", desc := "()I" } : Jvm.MethodName) ∈ GW := gw_m (tb_5 (List.mem_of_getElem? (i := 29) rfl)) rfl
set_option maxRecDepth 100000 in
theorem tw_990 : Cond.selects "RenamedCells" ({ cls := "RenamedCells", name := "surely", desc := "()I" } : Jvm.MethodName) ({ cls := "RenamedCells", name := "surely", desc := "()I" } : Jvm.MethodName) ∈ GW := gw_m (tb_5 (List.mem_of_getElem? (i := 30) rfl)) rfl
set_option maxRecDepth 100000 in
theorem tw_991 : Cond.code ({ cls := "RenamedCells", name := "surely", desc := "()I" } : Jvm.MethodName) prog_1_method_41_code (1 : Nat) (Option.some Jvm.ClassFile.FieldType.int) ∈ GW := gw_m (tb_5 (List.mem_of_getElem? (i := 31) rfl)) rfl
set_option maxRecDepth 100000 in
theorem tw_992 : Cond.methodLink "RenamedCells" (268 : Nat) ({ cls := "RenamedCells$Fits", name := "inAll", desc := "()I" } : Jvm.MethodName) ∈ GW := gw_m (tb_5 (List.mem_of_getElem? (i := 32) rfl)) rfl
set_option maxRecDepth 100000 in
theorem tw_993 : Cond.instanceMethod ({ cls := "RenamedCells$Fits", name := "inAll", desc := "()I" } : Jvm.MethodName) ∈ GW := gw_m (tb_5 (List.mem_of_getElem? (i := 33) rfl)) rfl
set_option maxRecDepth 100000 in
theorem tw_994 : Cond.selects "RenamedCells$Fits" ({ cls := "RenamedCells$Fits", name := "inAll", desc := "()I" } : Jvm.MethodName) ({ cls := "RenamedCells$Fits", name := "inAll", desc := "()I" } : Jvm.MethodName) ∈ GW := gw_m (tb_5 (List.mem_of_getElem? (i := 34) rfl)) rfl
set_option maxRecDepth 100000 in
theorem tw_995 : Cond.code ({ cls := "RenamedCells$Fits", name := "inAll", desc := "()I" } : Jvm.MethodName) prog_3_method_7_code (3 : Nat) (Option.some Jvm.ClassFile.FieldType.int) ∈ GW := gw_m (tb_5 (List.mem_of_getElem? (i := 35) rfl)) rfl
set_option maxRecDepth 100000 in
theorem tw_996 : Cond.methodLink "RenamedCellsLaw" (167 : Nat) ({ cls := "RenamedCells", name := "ask", desc := "()I" } : Jvm.MethodName) ∈ GW := gw_m (tb_5 (List.mem_of_getElem? (i := 36) rfl)) rfl
set_option maxRecDepth 100000 in
theorem tw_997 : Cond.instanceMethod ({ cls := "RenamedCells", name := "ask", desc := "()I" } : Jvm.MethodName) ∈ GW := gw_m (tb_5 (List.mem_of_getElem? (i := 37) rfl)) rfl
set_option maxRecDepth 100000 in
theorem tw_998 : Cond.selects "RenamedCells" ({ cls := "RenamedCells", name := "ask", desc := "()I" } : Jvm.MethodName) ({ cls := "RenamedCells", name := "ask", desc := "()I" } : Jvm.MethodName) ∈ GW := gw_m (tb_5 (List.mem_of_getElem? (i := 38) rfl)) rfl
set_option maxRecDepth 100000 in
theorem tw_999 : Cond.code ({ cls := "RenamedCells", name := "ask", desc := "()I" } : Jvm.MethodName) prog_1_method_42_code (1 : Nat) (Option.some Jvm.ClassFile.FieldType.int) ∈ GW := gw_m (tb_5 (List.mem_of_getElem? (i := 39) rfl)) rfl
set_option maxRecDepth 100000 in
theorem tw_1000 : Cond.methodLink "RenamedCells" (271 : Nat) ({ cls := "RenamedCells$Fits", name := "bestQuestion", desc := "()I" } : Jvm.MethodName) ∈ GW := gw_m (tb_5 (List.mem_of_getElem? (i := 40) rfl)) rfl
set_option maxRecDepth 100000 in
theorem tw_1001 : Cond.instanceMethod ({ cls := "RenamedCells$Fits", name := "bestQuestion", desc := "()I" } : Jvm.MethodName) ∈ GW := gw_m (tb_5 (List.mem_of_getElem? (i := 41) rfl)) rfl
set_option maxRecDepth 100000 in
theorem tw_1002 : Cond.selects "RenamedCells$Fits" ({ cls := "RenamedCells$Fits", name := "bestQuestion", desc := "()I" } : Jvm.MethodName) ({ cls := "RenamedCells$Fits", name := "bestQuestion", desc := "()I" } : Jvm.MethodName) ∈ GW := gw_m (tb_5 (List.mem_of_getElem? (i := 42) rfl)) rfl
set_option maxRecDepth 100000 in
theorem tw_1003 : Cond.code ({ cls := "RenamedCells$Fits", name := "bestQuestion", desc := "()I" } : Jvm.MethodName) prog_3_method_9_code (3 : Nat) (Option.some Jvm.ClassFile.FieldType.int) ∈ GW := gw_m (tb_5 (List.mem_of_getElem? (i := 43) rfl)) rfl
set_option maxRecDepth 100000 in
theorem tw_1004 : Cond.methodLink "RenamedCells$Fits" (51 : Nat) ({ cls := "RenamedCells$Fits", name := "leftBy", desc := "(I)I" } : Jvm.MethodName) ∈ GW := gw_m (tb_5 (List.mem_of_getElem? (i := 44) rfl)) rfl
set_option maxRecDepth 100000 in
theorem tw_1005 : Cond.instanceMethod ({ cls := "RenamedCells$Fits", name := "leftBy", desc := "(I)I" } : Jvm.MethodName) ∈ GW := gw_m (tb_5 (List.mem_of_getElem? (i := 45) rfl)) rfl
set_option maxRecDepth 100000 in
theorem tw_1006 : Cond.selects "RenamedCells$Fits" ({ cls := "RenamedCells$Fits", name := "leftBy", desc := "(I)I" } : Jvm.MethodName) ({ cls := "RenamedCells$Fits", name := "leftBy", desc := "(I)I" } : Jvm.MethodName) ∈ GW := gw_m (tb_5 (List.mem_of_getElem? (i := 46) rfl)) rfl
set_option maxRecDepth 100000 in
theorem tw_1007 : Cond.code ({ cls := "RenamedCells$Fits", name := "leftBy", desc := "(I)I" } : Jvm.MethodName) prog_3_method_8_code (4 : Nat) (Option.some Jvm.ClassFile.FieldType.int) ∈ GW := gw_m (tb_5 (List.mem_of_getElem? (i := 47) rfl)) rfl
set_option maxRecDepth 100000 in
theorem tw_1008 : Cond.methodLink "RenamedCells$Fits" (41 : Nat) ({ cls := "RenamedCells$Fits", name := "howMany", desc := "()I" } : Jvm.MethodName) ∈ GW := gw_m (tb_5 (List.mem_of_getElem? (i := 48) rfl)) rfl
set_option maxRecDepth 100000 in
theorem tw_1009 : Cond.methodLink "RenamedCells$Fits" (45 : Nat) ({ cls := "java/lang/Math", name := "max", desc := "(II)I" } : Jvm.MethodName) ∈ GW := gw_m (tb_5 (List.mem_of_getElem? (i := 49) rfl)) rfl
set_option maxRecDepth 100000 in
theorem tw_1010 : Cond.methodLink "RenamedCellsLaw" (171 : Nat) ({ cls := "RenamedCells", name := "askLeaves", desc := "()I" } : Jvm.MethodName) ∈ GW := gw_m (tb_5 (List.mem_of_getElem? (i := 50) rfl)) rfl
set_option maxRecDepth 100000 in
theorem tw_1011 : Cond.instanceMethod ({ cls := "RenamedCells", name := "askLeaves", desc := "()I" } : Jvm.MethodName) ∈ GW := gw_m (tb_5 (List.mem_of_getElem? (i := 51) rfl)) rfl
set_option maxRecDepth 100000 in
theorem tw_1012 : Cond.selects "RenamedCells" ({ cls := "RenamedCells", name := "askLeaves", desc := "()I" } : Jvm.MethodName) ({ cls := "RenamedCells", name := "askLeaves", desc := "()I" } : Jvm.MethodName) ∈ GW := gw_m (tb_5 (List.mem_of_getElem? (i := 52) rfl)) rfl
set_option maxRecDepth 100000 in
theorem tw_1013 : Cond.code ({ cls := "RenamedCells", name := "askLeaves", desc := "()I" } : Jvm.MethodName) prog_1_method_43_code (2 : Nat) (Option.some Jvm.ClassFile.FieldType.int) ∈ GW := gw_m (tb_5 (List.mem_of_getElem? (i := 53) rfl)) rfl
set_option maxRecDepth 100000 in
theorem tw_1014 : Cond.methodLink "RenamedCells" (274 : Nat) ({ cls := "RenamedCells$Fits", name := "leftBy", desc := "(I)I" } : Jvm.MethodName) ∈ GW := gw_m (tb_5 (List.mem_of_getElem? (i := 54) rfl)) rfl
set_option maxRecDepth 100000 in
theorem tw_1015 : Cond.methodLink "RenamedCellsLaw" (175 : Nat) ({ cls := "RenamedCells", name := "judge", desc := "()I" } : Jvm.MethodName) ∈ GW := gw_m (tb_5 (List.mem_of_getElem? (i := 55) rfl)) rfl
set_option maxRecDepth 100000 in
theorem tw_1016 : Cond.instanceMethod ({ cls := "RenamedCells", name := "judge", desc := "()I" } : Jvm.MethodName) ∈ GW := gw_m (tb_5 (List.mem_of_getElem? (i := 56) rfl)) rfl
set_option maxRecDepth 100000 in
theorem tw_1017 : Cond.selects "RenamedCells" ({ cls := "RenamedCells", name := "judge", desc := "()I" } : Jvm.MethodName) ({ cls := "RenamedCells", name := "judge", desc := "()I" } : Jvm.MethodName) ∈ GW := gw_m (tb_5 (List.mem_of_getElem? (i := 57) rfl)) rfl
set_option maxRecDepth 100000 in
theorem tw_1018 : Cond.code ({ cls := "RenamedCells", name := "judge", desc := "()I" } : Jvm.MethodName) prog_1_method_44_code (1 : Nat) (Option.some Jvm.ClassFile.FieldType.int) ∈ GW := gw_m (tb_5 (List.mem_of_getElem? (i := 58) rfl)) rfl
set_option maxRecDepth 100000 in
theorem tw_1019 : Cond.methodLink "RenamedCells" (277 : Nat) ({ cls := "RenamedCells$Plain", name := "firstNotGot", desc := "(LRenamedCells$Program;)I" } : Jvm.MethodName) ∈ GW := gw_m (tb_5 (List.mem_of_getElem? (i := 59) rfl)) rfl
set_option maxRecDepth 100000 in
theorem tw_1020 : Cond.methodLink "RenamedCellsLaw" (179 : Nat) ({ cls := "RenamedCells", name := "drawnCommits", desc := "(II)I" } : Jvm.MethodName) ∈ GW := gw_m (tb_5 (List.mem_of_getElem? (i := 60) rfl)) rfl
set_option maxRecDepth 100000 in
theorem tw_1021 : Cond.instanceMethod ({ cls := "RenamedCells", name := "drawnCommits", desc := "(II)I" } : Jvm.MethodName) ∈ GW := gw_m (tb_5 (List.mem_of_getElem? (i := 61) rfl)) rfl
set_option maxRecDepth 100000 in
theorem tw_1022 : Cond.selects "RenamedCells" ({ cls := "RenamedCells", name := "drawnCommits", desc := "(II)I" } : Jvm.MethodName) ({ cls := "RenamedCells", name := "drawnCommits", desc := "(II)I" } : Jvm.MethodName) ∈ GW := gw_m (tb_5 (List.mem_of_getElem? (i := 62) rfl)) rfl
set_option maxRecDepth 100000 in
theorem tw_1023 : Cond.code ({ cls := "RenamedCells", name := "drawnCommits", desc := "(II)I" } : Jvm.MethodName) prog_1_method_45_code (3 : Nat) (Option.some Jvm.ClassFile.FieldType.int) ∈ GW := gw_m (tb_5 (List.mem_of_getElem? (i := 63) rfl)) rfl
set_option maxRecDepth 100000 in
theorem tw_1024 : Cond.methodLink "RenamedCells" (281 : Nat) ({ cls := "RenamedCells", name := "isDraw", desc := "(II)Z" } : Jvm.MethodName) ∈ GW := gw_m (tb_5 (List.mem_of_getElem? (i := 64) rfl)) rfl
set_option maxRecDepth 100000 in
theorem tw_1025 : Cond.static ({ cls := "RenamedCells", name := "isDraw", desc := "(II)Z" } : Jvm.MethodName) ∈ GW := gw_m (tb_5 (List.mem_of_getElem? (i := 65) rfl)) rfl
set_option maxRecDepth 100000 in
theorem tw_1026 : Cond.code ({ cls := "RenamedCells", name := "isDraw", desc := "(II)Z" } : Jvm.MethodName) prog_1_method_47_code (2 : Nat) (Option.some Jvm.ClassFile.FieldType.boolean) ∈ GW := gw_m (tb_5 (List.mem_of_getElem? (i := 66) rfl)) rfl
set_option maxRecDepth 100000 in
theorem tw_1027 : Cond.constant "RenamedCells" (289 : Nat) (65537 : Int32) ∈ GW := gw_m (tb_5 (List.mem_of_getElem? (i := 67) rfl)) rfl
set_option maxRecDepth 100000 in
theorem tw_1028 : Cond.methodLink "RenamedCells" (285 : Nat) ({ cls := "RenamedCells", name := "drawTries", desc := "(II)V" } : Jvm.MethodName) ∈ GW := gw_m (tb_5 (List.mem_of_getElem? (i := 68) rfl)) rfl
set_option maxRecDepth 100000 in
theorem tw_1030 : Cond.instanceMethod ({ cls := "RenamedCells", name := "drawTries", desc := "(II)V" } : Jvm.MethodName) ∈ GW := gw_m (tb_5 (List.mem_of_getElem? (i := 70) rfl)) rfl
set_option maxRecDepth 100000 in
theorem tw_1031 : Cond.code ({ cls := "RenamedCells", name := "drawTries", desc := "(II)V" } : Jvm.MethodName) prog_1_method_48_code (6 : Nat) (Option.none : Option Jvm.ClassFile.FieldType) ∈ GW := gw_m (tb_5 (List.mem_of_getElem? (i := 71) rfl)) rfl
set_option maxRecDepth 100000 in
theorem tw_1032 : Cond.methodLink "RenamedCells" (290 : Nat) ({ cls := "RenamedCells$Machine", name := "copyFrom", desc := "(LRenamedCells$Machine;)V" } : Jvm.MethodName) ∈ GW := gw_m (tb_5 (List.mem_of_getElem? (i := 72) rfl)) rfl
set_option maxRecDepth 100000 in
theorem tw_1033 : Cond.instanceMethod ({ cls := "RenamedCells$Machine", name := "copyFrom", desc := "(LRenamedCells$Machine;)V" } : Jvm.MethodName) ∈ GW := gw_m (tb_5 (List.mem_of_getElem? (i := 73) rfl)) rfl
set_option maxRecDepth 100000 in
theorem tw_1034 : Cond.selects "RenamedCells$Machine" ({ cls := "RenamedCells$Machine", name := "copyFrom", desc := "(LRenamedCells$Machine;)V" } : Jvm.MethodName) ({ cls := "RenamedCells$Machine", name := "copyFrom", desc := "(LRenamedCells$Machine;)V" } : Jvm.MethodName) ∈ GW := gw_m (tb_5 (List.mem_of_getElem? (i := 74) rfl)) rfl
set_option maxRecDepth 100000 in
theorem tw_1035 : Cond.code ({ cls := "RenamedCells$Machine", name := "copyFrom", desc := "(LRenamedCells$Machine;)V" } : Jvm.MethodName) prog_5_method_3_code (2 : Nat) (Option.none : Option Jvm.ClassFile.FieldType) ∈ GW := gw_m (tb_5 (List.mem_of_getElem? (i := 75) rfl)) rfl
set_option maxRecDepth 100000 in
theorem tw_1036 : Cond.methodLink "RenamedCells" (294 : Nat) ({ cls := "RenamedCells", name := "nextSeed", desc := "(I)I" } : Jvm.MethodName) ∈ GW := gw_m (tb_5 (List.mem_of_getElem? (i := 76) rfl)) rfl
set_option maxRecDepth 100000 in
theorem tw_1037 : Cond.static ({ cls := "RenamedCells", name := "nextSeed", desc := "(I)I" } : Jvm.MethodName) ∈ GW := gw_m (tb_5 (List.mem_of_getElem? (i := 77) rfl)) rfl
set_option maxRecDepth 100000 in
theorem tw_1038 : Cond.code ({ cls := "RenamedCells", name := "nextSeed", desc := "(I)I" } : Jvm.MethodName) prog_1_method_50_code (1 : Nat) (Option.some Jvm.ClassFile.FieldType.int) ∈ GW := gw_m (tb_5 (List.mem_of_getElem? (i := 78) rfl)) rfl
set_option maxRecDepth 100000 in
theorem tw_1039 : Cond.methodLink "RenamedCells" (297 : Nat) ({ cls := "RenamedCells$Machine", name := "take", desc := "()I" } : Jvm.MethodName) ∈ GW := gw_m (tb_5 (List.mem_of_getElem? (i := 79) rfl)) rfl
set_option maxRecDepth 100000 in
theorem tw_1040 : Cond.methodLink "RenamedCells" (300 : Nat) ({ cls := "RenamedCells", name := "workIfPossible", desc := "(I)V" } : Jvm.MethodName) ∈ GW := gw_m (tb_5 (List.mem_of_getElem? (i := 80) rfl)) rfl
set_option maxRecDepth 100000 in
theorem tw_1042 : Cond.instanceMethod ({ cls := "RenamedCells", name := "workIfPossible", desc := "(I)V" } : Jvm.MethodName) ∈ GW := gw_m (tb_5 (List.mem_of_getElem? (i := 82) rfl)) rfl
set_option maxRecDepth 100000 in
theorem tw_1043 : Cond.code ({ cls := "RenamedCells", name := "workIfPossible", desc := "(I)V" } : Jvm.MethodName) prog_1_method_49_code (2 : Nat) (Option.none : Option Jvm.ClassFile.FieldType) ∈ GW := gw_m (tb_5 (List.mem_of_getElem? (i := 83) rfl)) rfl
set_option maxRecDepth 100000 in
theorem tw_1044 : Cond.methodLink "RenamedCells" (306 : Nat) ({ cls := "RenamedCells$Machine", name := "work", desc := "(I)I" } : Jvm.MethodName) ∈ GW := gw_m (tb_5 (List.mem_of_getElem? (i := 84) rfl)) rfl
set_option maxRecDepth 100000 in
theorem tw_1045 : Cond.methodLink "RenamedCells" (303 : Nat) ({ cls := "RenamedCells$Machine", name := "retire", desc := "()I" } : Jvm.MethodName) ∈ GW := gw_m (tb_5 (List.mem_of_getElem? (i := 85) rfl)) rfl
set_option maxRecDepth 100000 in
theorem tw_1046 : Cond.methodLink "RenamedCellsLaw" (183 : Nat) ({ cls := "RenamedCells", name := "drawnValue", desc := "(III)I" } : Jvm.MethodName) ∈ GW := gw_m (tb_5 (List.mem_of_getElem? (i := 86) rfl)) rfl
set_option maxRecDepth 100000 in
theorem tw_1047 : Cond.instanceMethod ({ cls := "RenamedCells", name := "drawnValue", desc := "(III)I" } : Jvm.MethodName) ∈ GW := gw_m (tb_5 (List.mem_of_getElem? (i := 87) rfl)) rfl
set_option maxRecDepth 100000 in
theorem tw_1048 : Cond.selects "RenamedCells" ({ cls := "RenamedCells", name := "drawnValue", desc := "(III)I" } : Jvm.MethodName) ({ cls := "RenamedCells", name := "drawnValue", desc := "(III)I" } : Jvm.MethodName) ∈ GW := gw_m (tb_5 (List.mem_of_getElem? (i := 88) rfl)) rfl
set_option maxRecDepth 100000 in
theorem tw_1049 : Cond.code ({ cls := "RenamedCells", name := "drawnValue", desc := "(III)I" } : Jvm.MethodName) prog_1_method_46_code (4 : Nat) (Option.some Jvm.ClassFile.FieldType.int) ∈ GW := gw_m (tb_5 (List.mem_of_getElem? (i := 89) rfl)) rfl
set_option maxRecDepth 100000 in
theorem tw_1050 : Cond.methodLink "RenamedCellsLaw" (188 : Nat) ({ cls := "RenamedCells", name := "fetch", desc := "()I" } : Jvm.MethodName) ∈ GW := gw_m (tb_5 (List.mem_of_getElem? (i := 90) rfl)) rfl
set_option maxRecDepth 100000 in
theorem tw_1051 : Cond.instanceMethod ({ cls := "RenamedCells", name := "fetch", desc := "()I" } : Jvm.MethodName) ∈ GW := gw_m (tb_5 (List.mem_of_getElem? (i := 91) rfl)) rfl
set_option maxRecDepth 100000 in
theorem tw_1052 : Cond.selects "RenamedCells" ({ cls := "RenamedCells", name := "fetch", desc := "()I" } : Jvm.MethodName) ({ cls := "RenamedCells", name := "fetch", desc := "()I" } : Jvm.MethodName) ∈ GW := gw_m (tb_5 (List.mem_of_getElem? (i := 92) rfl)) rfl
set_option maxRecDepth 100000 in
theorem tw_1053 : Cond.code ({ cls := "RenamedCells", name := "fetch", desc := "()I" } : Jvm.MethodName) prog_1_method_51_code (2 : Nat) (Option.some Jvm.ClassFile.FieldType.int) ∈ GW := gw_m (tb_5 (List.mem_of_getElem? (i := 93) rfl)) rfl
set_option maxRecDepth 100000 in
theorem tw_1054 : Cond.methodLink "RenamedCells" (309 : Nat) ({ cls := "RenamedCells$History", name := "keep", desc := "(LRenamedCells$Machine;)V" } : Jvm.MethodName) ∈ GW := gw_m (tb_5 (List.mem_of_getElem? (i := 94) rfl)) rfl
set_option maxRecDepth 100000 in
theorem tw_1055 : Cond.instanceMethod ({ cls := "RenamedCells$History", name := "keep", desc := "(LRenamedCells$Machine;)V" } : Jvm.MethodName) ∈ GW := gw_m (tb_5 (List.mem_of_getElem? (i := 95) rfl)) rfl
set_option maxRecDepth 100000 in
theorem tw_1056 : Cond.selects "RenamedCells$History" ({ cls := "RenamedCells$History", name := "keep", desc := "(LRenamedCells$Machine;)V" } : Jvm.MethodName) ({ cls := "RenamedCells$History", name := "keep", desc := "(LRenamedCells$Machine;)V" } : Jvm.MethodName) ∈ GW := gw_m (tb_5 (List.mem_of_getElem? (i := 96) rfl)) rfl
set_option maxRecDepth 100000 in
theorem tw_1057 : Cond.code ({ cls := "RenamedCells$History", name := "keep", desc := "(LRenamedCells$Machine;)V" } : Jvm.MethodName) prog_4_method_3_code (2 : Nat) (Option.none : Option Jvm.ClassFile.FieldType) ∈ GW := gw_m (tb_5 (List.mem_of_getElem? (i := 97) rfl)) rfl
set_option maxRecDepth 100000 in
theorem tw_1058 : Cond.methodLink "RenamedCells$History" (33 : Nat) ({ cls := "RenamedCells$Machine", name := "copyFrom", desc := "(LRenamedCells$Machine;)V" } : Jvm.MethodName) ∈ GW := gw_m (tb_5 (List.mem_of_getElem? (i := 98) rfl)) rfl
set_option maxRecDepth 100000 in
theorem tw_1059 : Cond.methodLink "RenamedCells$History" (37 : Nat) ({ cls := "java/lang/Math", name := "min", desc := "(II)I" } : Jvm.MethodName) ∈ GW := gw_m (tb_5 (List.mem_of_getElem? (i := 99) rfl)) rfl
set_option maxRecDepth 100000 in
theorem tw_1060 : Cond.methodLink "RenamedCellsLaw" (192 : Nat) ({ cls := "RenamedCells", name := "run", desc := "(I)I" } : Jvm.MethodName) ∈ GW := gw_m (tb_5 (List.mem_of_getElem? (i := 100) rfl)) rfl
set_option maxRecDepth 100000 in
theorem tw_1061 : Cond.instanceMethod ({ cls := "RenamedCells", name := "run", desc := "(I)I" } : Jvm.MethodName) ∈ GW := gw_m (tb_5 (List.mem_of_getElem? (i := 101) rfl)) rfl
set_option maxRecDepth 100000 in
theorem tw_1062 : Cond.selects "RenamedCells" ({ cls := "RenamedCells", name := "run", desc := "(I)I" } : Jvm.MethodName) ({ cls := "RenamedCells", name := "run", desc := "(I)I" } : Jvm.MethodName) ∈ GW := gw_m (tb_5 (List.mem_of_getElem? (i := 102) rfl)) rfl
set_option maxRecDepth 100000 in
theorem tw_1063 : Cond.code ({ cls := "RenamedCells", name := "run", desc := "(I)I" } : Jvm.MethodName) prog_1_method_52_code (2 : Nat) (Option.some Jvm.ClassFile.FieldType.int) ∈ GW := gw_m (tb_5 (List.mem_of_getElem? (i := 103) rfl)) rfl
set_option maxRecDepth 100000 in
theorem tw_1064 : Cond.methodLink "RenamedCellsLaw" (196 : Nat) ({ cls := "RenamedCells", name := "commit", desc := "()I" } : Jvm.MethodName) ∈ GW := gw_m (tb_5 (List.mem_of_getElem? (i := 104) rfl)) rfl
set_option maxRecDepth 100000 in
theorem tw_1065 : Cond.instanceMethod ({ cls := "RenamedCells", name := "commit", desc := "()I" } : Jvm.MethodName) ∈ GW := gw_m (tb_5 (List.mem_of_getElem? (i := 105) rfl)) rfl
set_option maxRecDepth 100000 in
theorem tw_1066 : Cond.selects "RenamedCells" ({ cls := "RenamedCells", name := "commit", desc := "()I" } : Jvm.MethodName) ({ cls := "RenamedCells", name := "commit", desc := "()I" } : Jvm.MethodName) ∈ GW := gw_m (tb_5 (List.mem_of_getElem? (i := 106) rfl)) rfl
set_option maxRecDepth 100000 in
theorem tw_1067 : Cond.code ({ cls := "RenamedCells", name := "commit", desc := "()I" } : Jvm.MethodName) prog_1_method_53_code (1 : Nat) (Option.some Jvm.ClassFile.FieldType.int) ∈ GW := gw_m (tb_5 (List.mem_of_getElem? (i := 107) rfl)) rfl
set_option maxRecDepth 100000 in
theorem tw_1068 : Cond.methodLink "RenamedCellsLaw" (200 : Nat) ({ cls := "RenamedCells", name := "resume", desc := "(I)Z" } : Jvm.MethodName) ∈ GW := gw_m (tb_5 (List.mem_of_getElem? (i := 108) rfl)) rfl
set_option maxRecDepth 100000 in
theorem tw_1069 : Cond.instanceMethod ({ cls := "RenamedCells", name := "resume", desc := "(I)Z" } : Jvm.MethodName) ∈ GW := gw_m (tb_5 (List.mem_of_getElem? (i := 109) rfl)) rfl
set_option maxRecDepth 100000 in
theorem tw_1070 : Cond.selects "RenamedCells" ({ cls := "RenamedCells", name := "resume", desc := "(I)Z" } : Jvm.MethodName) ({ cls := "RenamedCells", name := "resume", desc := "(I)Z" } : Jvm.MethodName) ∈ GW := gw_m (tb_5 (List.mem_of_getElem? (i := 110) rfl)) rfl
set_option maxRecDepth 100000 in
theorem tw_1071 : Cond.code ({ cls := "RenamedCells", name := "resume", desc := "(I)Z" } : Jvm.MethodName) prog_1_method_54_code (2 : Nat) (Option.some Jvm.ClassFile.FieldType.boolean) ∈ GW := gw_m (tb_5 (List.mem_of_getElem? (i := 111) rfl)) rfl
set_option maxRecDepth 100000 in
theorem tw_1072 : Cond.methodLink "RenamedCells" (315 : Nat) ({ cls := "RenamedCells$Machine", name := "goOnAt", desc := "(I)V" } : Jvm.MethodName) ∈ GW := gw_m (tb_5 (List.mem_of_getElem? (i := 112) rfl)) rfl
set_option maxRecDepth 100000 in
theorem tw_1073 : Cond.instanceMethod ({ cls := "RenamedCells$Machine", name := "goOnAt", desc := "(I)V" } : Jvm.MethodName) ∈ GW := gw_m (tb_5 (List.mem_of_getElem? (i := 113) rfl)) rfl
set_option maxRecDepth 100000 in
theorem tw_1074 : Cond.selects "RenamedCells$Machine" ({ cls := "RenamedCells$Machine", name := "goOnAt", desc := "(I)V" } : Jvm.MethodName) ({ cls := "RenamedCells$Machine", name := "goOnAt", desc := "(I)V" } : Jvm.MethodName) ∈ GW := gw_m (tb_5 (List.mem_of_getElem? (i := 114) rfl)) rfl
set_option maxRecDepth 100000 in
theorem tw_1075 : Cond.code ({ cls := "RenamedCells$Machine", name := "goOnAt", desc := "(I)V" } : Jvm.MethodName) prog_5_method_35_code (2 : Nat) (Option.none : Option Jvm.ClassFile.FieldType) ∈ GW := gw_m (tb_5 (List.mem_of_getElem? (i := 115) rfl)) rfl
set_option maxRecDepth 100000 in
theorem tw_1076 : Cond.methodLink "RenamedCellsLaw" (205 : Nat) ({ cls := "RenamedCells", name := "undo", desc := "()Z" } : Jvm.MethodName) ∈ GW := gw_m (tb_5 (List.mem_of_getElem? (i := 116) rfl)) rfl
set_option maxRecDepth 100000 in
theorem tw_1077 : Cond.instanceMethod ({ cls := "RenamedCells", name := "undo", desc := "()Z" } : Jvm.MethodName) ∈ GW := gw_m (tb_5 (List.mem_of_getElem? (i := 117) rfl)) rfl
set_option maxRecDepth 100000 in
theorem tw_1078 : Cond.selects "RenamedCells" ({ cls := "RenamedCells", name := "undo", desc := "()Z" } : Jvm.MethodName) ({ cls := "RenamedCells", name := "undo", desc := "()Z" } : Jvm.MethodName) ∈ GW := gw_m (tb_5 (List.mem_of_getElem? (i := 118) rfl)) rfl
set_option maxRecDepth 100000 in
theorem tw_1079 : Cond.code ({ cls := "RenamedCells", name := "undo", desc := "()Z" } : Jvm.MethodName) prog_1_method_55_code (1 : Nat) (Option.some Jvm.ClassFile.FieldType.boolean) ∈ GW := gw_m (tb_5 (List.mem_of_getElem? (i := 119) rfl)) rfl
set_option maxRecDepth 100000 in
theorem tw_1080 : Cond.methodLink "RenamedCells" (321 : Nat) ({ cls := "RenamedCells$History", name := "takeBack", desc := "(LRenamedCells$Machine;)V" } : Jvm.MethodName) ∈ GW := gw_m (tb_5 (List.mem_of_getElem? (i := 120) rfl)) rfl
set_option maxRecDepth 100000 in
theorem tw_1081 : Cond.instanceMethod ({ cls := "RenamedCells$History", name := "takeBack", desc := "(LRenamedCells$Machine;)V" } : Jvm.MethodName) ∈ GW := gw_m (tb_5 (List.mem_of_getElem? (i := 121) rfl)) rfl
set_option maxRecDepth 100000 in
theorem tw_1082 : Cond.selects "RenamedCells$History" ({ cls := "RenamedCells$History", name := "takeBack", desc := "(LRenamedCells$Machine;)V" } : Jvm.MethodName) ({ cls := "RenamedCells$History", name := "takeBack", desc := "(LRenamedCells$Machine;)V" } : Jvm.MethodName) ∈ GW := gw_m (tb_5 (List.mem_of_getElem? (i := 122) rfl)) rfl
set_option maxRecDepth 100000 in
theorem tw_1083 : Cond.code ({ cls := "RenamedCells$History", name := "takeBack", desc := "(LRenamedCells$Machine;)V" } : Jvm.MethodName) prog_4_method_4_code (2 : Nat) (Option.none : Option Jvm.ClassFile.FieldType) ∈ GW := gw_m (tb_5 (List.mem_of_getElem? (i := 123) rfl)) rfl
set_option maxRecDepth 100000 in
theorem tw_1084 : Cond.methodLink "RenamedCellsLaw" (210 : Nat) ({ cls := "RenamedCells", name := "image", desc := "()I" } : Jvm.MethodName) ∈ GW := gw_m (tb_5 (List.mem_of_getElem? (i := 124) rfl)) rfl
set_option maxRecDepth 100000 in
theorem tw_1085 : Cond.instanceMethod ({ cls := "RenamedCells", name := "image", desc := "()I" } : Jvm.MethodName) ∈ GW := gw_m (tb_5 (List.mem_of_getElem? (i := 125) rfl)) rfl
set_option maxRecDepth 100000 in
theorem tw_1086 : Cond.selects "RenamedCells" ({ cls := "RenamedCells", name := "image", desc := "()I" } : Jvm.MethodName) ({ cls := "RenamedCells", name := "image", desc := "()I" } : Jvm.MethodName) ∈ GW := gw_m (tb_5 (List.mem_of_getElem? (i := 126) rfl)) rfl
set_option maxRecDepth 100000 in
theorem tw_1087 : Cond.code ({ cls := "RenamedCells", name := "image", desc := "()I" } : Jvm.MethodName) prog_1_method_56_code (1 : Nat) (Option.some Jvm.ClassFile.FieldType.int) ∈ GW := gw_m (tb_5 (List.mem_of_getElem? (i := 127) rfl)) rfl
set_option maxRecDepth 100000 in
theorem tw_1088 : Cond.methodLink "RenamedCells" (327 : Nat) ({ cls := "RenamedCells$History", name := "picture", desc := "(LRenamedCells$Machine;)I" } : Jvm.MethodName) ∈ GW := gw_m (tb_5 (List.mem_of_getElem? (i := 128) rfl)) rfl
set_option maxRecDepth 100000 in
theorem tw_1089 : Cond.instanceMethod ({ cls := "RenamedCells$History", name := "picture", desc := "(LRenamedCells$Machine;)I" } : Jvm.MethodName) ∈ GW := gw_m (tb_5 (List.mem_of_getElem? (i := 129) rfl)) rfl
set_option maxRecDepth 100000 in
theorem tw_1090 : Cond.selects "RenamedCells$History" ({ cls := "RenamedCells$History", name := "picture", desc := "(LRenamedCells$Machine;)I" } : Jvm.MethodName) ({ cls := "RenamedCells$History", name := "picture", desc := "(LRenamedCells$Machine;)I" } : Jvm.MethodName) ∈ GW := gw_m (tb_5 (List.mem_of_getElem? (i := 130) rfl)) rfl
set_option maxRecDepth 100000 in
theorem tw_1091 : Cond.code ({ cls := "RenamedCells$History", name := "picture", desc := "(LRenamedCells$Machine;)I" } : Jvm.MethodName) prog_4_method_5_code (2 : Nat) (Option.some Jvm.ClassFile.FieldType.int) ∈ GW := gw_m (tb_5 (List.mem_of_getElem? (i := 131) rfl)) rfl
set_option maxRecDepth 100000 in
theorem tw_1092 : Cond.methodLink "RenamedCellsLaw" (214 : Nat) ({ cls := "RenamedCells", name := "back", desc := "(I)Z" } : Jvm.MethodName) ∈ GW := gw_m (tb_5 (List.mem_of_getElem? (i := 132) rfl)) rfl
set_option maxRecDepth 100000 in
theorem tw_1093 : Cond.instanceMethod ({ cls := "RenamedCells", name := "back", desc := "(I)Z" } : Jvm.MethodName) ∈ GW := gw_m (tb_5 (List.mem_of_getElem? (i := 133) rfl)) rfl
set_option maxRecDepth 100000 in
theorem tw_1094 : Cond.selects "RenamedCells" ({ cls := "RenamedCells", name := "back", desc := "(I)Z" } : Jvm.MethodName) ({ cls := "RenamedCells", name := "back", desc := "(I)Z" } : Jvm.MethodName) ∈ GW := gw_m (tb_5 (List.mem_of_getElem? (i := 134) rfl)) rfl
set_option maxRecDepth 100000 in
theorem tw_1095 : Cond.code ({ cls := "RenamedCells", name := "back", desc := "(I)Z" } : Jvm.MethodName) prog_1_method_57_code (2 : Nat) (Option.some Jvm.ClassFile.FieldType.boolean) ∈ GW := gw_m (tb_5 (List.mem_of_getElem? (i := 135) rfl)) rfl
set_option maxRecDepth 100000 in
theorem tw_1096 : Cond.methodLink "RenamedCells" (331 : Nat) ({ cls := "RenamedCells$History", name := "returnTo", desc := "(ILRenamedCells$Machine;)V" } : Jvm.MethodName) ∈ GW := gw_m (tb_5 (List.mem_of_getElem? (i := 136) rfl)) rfl
set_option maxRecDepth 100000 in
theorem tw_1097 : Cond.instanceMethod ({ cls := "RenamedCells$History", name := "returnTo", desc := "(ILRenamedCells$Machine;)V" } : Jvm.MethodName) ∈ GW := gw_m (tb_5 (List.mem_of_getElem? (i := 137) rfl)) rfl
set_option maxRecDepth 100000 in
theorem tw_1098 : Cond.selects "RenamedCells$History" ({ cls := "RenamedCells$History", name := "returnTo", desc := "(ILRenamedCells$Machine;)V" } : Jvm.MethodName) ({ cls := "RenamedCells$History", name := "returnTo", desc := "(ILRenamedCells$Machine;)V" } : Jvm.MethodName) ∈ GW := gw_m (tb_5 (List.mem_of_getElem? (i := 138) rfl)) rfl
set_option maxRecDepth 100000 in
theorem tw_1099 : Cond.code ({ cls := "RenamedCells$History", name := "returnTo", desc := "(ILRenamedCells$Machine;)V" } : Jvm.MethodName) prog_4_method_6_code (3 : Nat) (Option.none : Option Jvm.ClassFile.FieldType) ∈ GW := gw_m (tb_5 (List.mem_of_getElem? (i := 139) rfl)) rfl
set_option maxRecDepth 100000 in
theorem tw_1100 : Cond.methodLink "RenamedCellsLaw" (227 : Nat) ({ cls := "RenamedCells", name := "size", desc := "(I)I" } : Jvm.MethodName) ∈ GW := gw_m (tb_5 (List.mem_of_getElem? (i := 140) rfl)) rfl
set_option maxRecDepth 100000 in
theorem tw_1101 : Cond.instanceMethod ({ cls := "RenamedCells", name := "size", desc := "(I)I" } : Jvm.MethodName) ∈ GW := gw_m (tb_5 (List.mem_of_getElem? (i := 141) rfl)) rfl
set_option maxRecDepth 100000 in
theorem tw_1102 : Cond.selects "RenamedCells" ({ cls := "RenamedCells", name := "size", desc := "(I)I" } : Jvm.MethodName) ({ cls := "RenamedCells", name := "size", desc := "(I)I" } : Jvm.MethodName) ∈ GW := gw_m (tb_5 (List.mem_of_getElem? (i := 142) rfl)) rfl
set_option maxRecDepth 100000 in
theorem tw_1103 : Cond.code ({ cls := "RenamedCells", name := "size", desc := "(I)I" } : Jvm.MethodName) prog_1_method_59_code (2 : Nat) (Option.some Jvm.ClassFile.FieldType.int) ∈ GW := gw_m (tb_5 (List.mem_of_getElem? (i := 143) rfl)) rfl
set_option maxRecDepth 100000 in
theorem tw_1104 : Cond.methodLink "RenamedCells" (341 : Nat) ({ cls := "RenamedCells", name := "sizeOfText", desc := "(I)I" } : Jvm.MethodName) ∈ GW := gw_m (tb_5 (List.mem_of_getElem? (i := 144) rfl)) rfl
set_option maxRecDepth 100000 in
theorem tw_1106 : Cond.instanceMethod ({ cls := "RenamedCells", name := "sizeOfText", desc := "(I)I" } : Jvm.MethodName) ∈ GW := gw_m (tb_5 (List.mem_of_getElem? (i := 146) rfl)) rfl
set_option maxRecDepth 100000 in
theorem tw_1107 : Cond.code ({ cls := "RenamedCells", name := "sizeOfText", desc := "(I)I" } : Jvm.MethodName) prog_1_method_60_code (2 : Nat) (Option.some Jvm.ClassFile.FieldType.int) ∈ GW := gw_m (tb_5 (List.mem_of_getElem? (i := 147) rfl)) rfl
set_option maxRecDepth 100000 in
theorem tw_1108 : Cond.methodLink "RenamedCells" (344 : Nat) ({ cls := "RenamedCells", name := "sizeOfState", desc := "(I)I" } : Jvm.MethodName) ∈ GW := gw_m (tb_5 (List.mem_of_getElem? (i := 148) rfl)) rfl
set_option maxRecDepth 100000 in
theorem tw_1110 : Cond.instanceMethod ({ cls := "RenamedCells", name := "sizeOfState", desc := "(I)I" } : Jvm.MethodName) ∈ GW := gw_m (tb_5 (List.mem_of_getElem? (i := 150) rfl)) rfl
set_option maxRecDepth 100000 in
theorem tw_1111 : Cond.code ({ cls := "RenamedCells", name := "sizeOfState", desc := "(I)I" } : Jvm.MethodName) prog_1_method_61_code (2 : Nat) (Option.some Jvm.ClassFile.FieldType.int) ∈ GW := gw_m (tb_5 (List.mem_of_getElem? (i := 151) rfl)) rfl
set_option maxRecDepth 100000 in
theorem tw_1112 : Cond.methodLink "RenamedCellsLaw" (231 : Nat) ({ cls := "RenamedCells", name := "trouble", desc := "()I" } : Jvm.MethodName) ∈ GW := gw_m (tb_5 (List.mem_of_getElem? (i := 152) rfl)) rfl
set_option maxRecDepth 100000 in
theorem tw_1113 : Cond.instanceMethod ({ cls := "RenamedCells", name := "trouble", desc := "()I" } : Jvm.MethodName) ∈ GW := gw_m (tb_5 (List.mem_of_getElem? (i := 153) rfl)) rfl
set_option maxRecDepth 100000 in
theorem tw_1114 : Cond.selects "RenamedCells" ({ cls := "RenamedCells", name := "trouble", desc := "()I" } : Jvm.MethodName) ({ cls := "RenamedCells", name := "trouble", desc := "()I" } : Jvm.MethodName) ∈ GW := gw_m (tb_5 (List.mem_of_getElem? (i := 154) rfl)) rfl
set_option maxRecDepth 100000 in
theorem tw_1115 : Cond.code ({ cls := "RenamedCells", name := "trouble", desc := "()I" } : Jvm.MethodName) prog_1_method_62_code (1 : Nat) (Option.some Jvm.ClassFile.FieldType.int) ∈ GW := gw_m (tb_5 (List.mem_of_getElem? (i := 155) rfl)) rfl
set_option maxRecDepth 100000 in
theorem tw_1116 : Cond.methodLink "RenamedCellsLaw" (218 : Nat) ({ cls := "RenamedCellsLaw", name := "led", desc := "(LRenamedCells;I[J)I" } : Jvm.MethodName) ∈ GW := gw_m (tb_5 (List.mem_of_getElem? (i := 156) rfl)) rfl
set_option maxRecDepth 100000 in
theorem tw_1117 : Cond.static ({ cls := "RenamedCellsLaw", name := "led", desc := "(LRenamedCells;I[J)I" } : Jvm.MethodName) ∈ GW := gw_m (tb_5 (List.mem_of_getElem? (i := 157) rfl)) rfl
set_option maxRecDepth 100000 in
theorem tw_1119 : Cond.classLink "RenamedCellsLaw" (13 : Nat) "java/util/NoSuchElementException" ∈ GW := gw_m (tb_5 (List.mem_of_getElem? (i := 159) rfl)) rfl
set_option maxRecDepth 100000 in
theorem tw_1120 : Cond.methodLink "RenamedCellsLaw" (7 : Nat) ({ cls := "RenamedCells", name := "led", desc := "(I)I" } : Jvm.MethodName) ∈ GW := gw_m (tb_5 (List.mem_of_getElem? (i := 160) rfl)) rfl
set_option maxRecDepth 100000 in
theorem tw_1121 : Cond.instanceMethod ({ cls := "RenamedCells", name := "led", desc := "(I)I" } : Jvm.MethodName) ∈ GW := gw_m (tb_5 (List.mem_of_getElem? (i := 161) rfl)) rfl
set_option maxRecDepth 100000 in
theorem tw_1122 : Cond.selects "RenamedCells" ({ cls := "RenamedCells", name := "led", desc := "(I)I" } : Jvm.MethodName) ({ cls := "RenamedCells", name := "led", desc := "(I)I" } : Jvm.MethodName) ∈ GW := gw_m (tb_5 (List.mem_of_getElem? (i := 162) rfl)) rfl
set_option maxRecDepth 100000 in
theorem tw_1123 : Cond.code ({ cls := "RenamedCells", name := "led", desc := "(I)I" } : Jvm.MethodName) prog_1_method_58_code (3 : Nat) (Option.some Jvm.ClassFile.FieldType.int) ∈ GW := gw_m (tb_5 (List.mem_of_getElem? (i := 163) rfl)) rfl
set_option maxRecDepth 100000 in
theorem tw_1124 : Cond.methodLink "RenamedCells" (335 : Nat) ({ cls := "RenamedCells$Machine", name := "nthDone", desc := "(I)I" } : Jvm.MethodName) ∈ GW := gw_m (tb_5 (List.mem_of_getElem? (i := 164) rfl)) rfl
set_option maxRecDepth 100000 in
theorem tw_1125 : Cond.instanceMethod ({ cls := "RenamedCells$Machine", name := "nthDone", desc := "(I)I" } : Jvm.MethodName) ∈ GW := gw_m (tb_5 (List.mem_of_getElem? (i := 165) rfl)) rfl
set_option maxRecDepth 100000 in
theorem tw_1126 : Cond.selects "RenamedCells$Machine" ({ cls := "RenamedCells$Machine", name := "nthDone", desc := "(I)I" } : Jvm.MethodName) ({ cls := "RenamedCells$Machine", name := "nthDone", desc := "(I)I" } : Jvm.MethodName) ∈ GW := gw_m (tb_5 (List.mem_of_getElem? (i := 166) rfl)) rfl
set_option maxRecDepth 100000 in
theorem tw_1127 : Cond.code ({ cls := "RenamedCells$Machine", name := "nthDone", desc := "(I)I" } : Jvm.MethodName) prog_5_method_16_code (4 : Nat) (Option.some Jvm.ClassFile.FieldType.int) ∈ GW := gw_m (tb_5 (List.mem_of_getElem? (i := 167) rfl)) rfl
set_option maxRecDepth 100000 in
theorem tw_1128 : Cond.classLink "RenamedCells" (338 : Nat) "java/util/NoSuchElementException" ∈ GW := gw_m (tb_5 (List.mem_of_getElem? (i := 168) rfl)) rfl
set_option maxRecDepth 100000 in
theorem tw_1129 : Cond.instantiable "java/util/NoSuchElementException" (6 : Nat) ∈ GW := gw_m (tb_5 (List.mem_of_getElem? (i := 169) rfl)) rfl
set_option maxRecDepth 100000 in
theorem tw_1137 : Cond.selects "java/util/NoSuchElementException" ({ cls := "java/lang/Throwable", name := "fillInStackTrace", desc := "(I)Ljava/lang/Throwable;" } : Jvm.MethodName) ({ cls := "java/lang/Throwable", name := "fillInStackTrace", desc := "(I)Ljava/lang/Throwable;" } : Jvm.MethodName) ∈ GW := gw_m (tb_5 (List.mem_of_getElem? (i := 177) rfl)) rfl
set_option maxRecDepth 100000 in
theorem tw_1138 : Cond.selects "java/util/NoSuchElementException" ({ cls := "java/lang/Throwable", name := "fillInStackTrace", desc := "()Ljava/lang/Throwable;" } : Jvm.MethodName) ({ cls := "java/lang/Throwable", name := "fillInStackTrace", desc := "()Ljava/lang/Throwable;" } : Jvm.MethodName) ∈ GW := gw_m (tb_5 (List.mem_of_getElem? (i := 178) rfl)) rfl
set_option maxRecDepth 100000 in
theorem tw_1150 : Cond.superclass "java/lang/Throwable" "java/lang/Object" ∈ GW := gw_m (tb_5 (List.mem_of_getElem? (i := 190) rfl)) rfl
set_option maxRecDepth 100000 in
theorem tw_1151 : Cond.instanceMethod ({ cls := "java/lang/Throwable", name := "<init>", desc := "()V" } : Jvm.MethodName) ∈ GW := gw_m (tb_5 (List.mem_of_getElem? (i := 191) rfl)) rfl
set_option maxRecDepth 100000 in
theorem tw_1152 : Cond.code ({ cls := "java/lang/Throwable", name := "<init>", desc := "()V" } : Jvm.MethodName) prog_24_method_1_code (1 : Nat) (Option.none : Option Jvm.ClassFile.FieldType) ∈ GW := gw_m (tb_5 (List.mem_of_getElem? (i := 192) rfl)) rfl
set_option maxRecDepth 100000 in
theorem tw_1153 : Cond.methodLink "java/lang/Throwable" (1 : Nat) ({ cls := "java/lang/Object", name := "<init>", desc := "()V" } : Jvm.MethodName) ∈ GW := gw_m (tb_5 (List.mem_of_getElem? (i := 193) rfl)) rfl
set_option maxRecDepth 100000 in
theorem tw_1158 : Cond.methodLink "java/lang/Throwable" (27 : Nat) ({ cls := "java/lang/Throwable", name := "fillInStackTrace", desc := "()Ljava/lang/Throwable;" } : Jvm.MethodName) ∈ GW := gw_m (tb_5 (List.mem_of_getElem? (i := 198) rfl)) rfl
set_option maxRecDepth 100000 in
theorem tw_1159 : Cond.instanceMethod ({ cls := "java/lang/Throwable", name := "fillInStackTrace", desc := "()Ljava/lang/Throwable;" } : Jvm.MethodName) ∈ GW := gw_m (tb_5 (List.mem_of_getElem? (i := 199) rfl)) rfl
set_option maxRecDepth 100000 in
theorem tw_1162 : Cond.methodLink "java/lang/Throwable" (202 : Nat) ({ cls := "java/lang/Throwable", name := "fillInStackTrace", desc := "(I)Ljava/lang/Throwable;" } : Jvm.MethodName) ∈ GW := gw_m (tb_5 (List.mem_of_getElem? (i := 202) rfl)) rfl
set_option maxRecDepth 100000 in
theorem tw_1164 : Cond.instanceMethod ({ cls := "java/lang/Throwable", name := "fillInStackTrace", desc := "(I)Ljava/lang/Throwable;" } : Jvm.MethodName) ∈ GW := gw_m (tb_5 (List.mem_of_getElem? (i := 204) rfl)) rfl
set_option maxRecDepth 100000 in
theorem tw_1165 : Cond.instantiable "java/lang/Throwable" (6 : Nat) ∈ GW := gw_m (tb_5 (List.mem_of_getElem? (i := 205) rfl)) rfl
set_option maxRecDepth 100000 in
theorem tw_1167 : Cond.methodLink "RenamedCells" (340 : Nat) ({ cls := "java/util/NoSuchElementException", name := "<init>", desc := "()V" } : Jvm.MethodName) ∈ GW := gw_m (tb_5 (List.mem_of_getElem? (i := 207) rfl)) rfl
set_option maxRecDepth 100000 in
theorem tw_1168 : Cond.instanceMethod ({ cls := "java/util/NoSuchElementException", name := "<init>", desc := "()V" } : Jvm.MethodName) ∈ GW := gw_m (tb_5 (List.mem_of_getElem? (i := 208) rfl)) rfl
set_option maxRecDepth 100000 in
theorem tw_1169 : Cond.code ({ cls := "java/util/NoSuchElementException", name := "<init>", desc := "()V" } : Jvm.MethodName) prog_28_method_1_code (1 : Nat) (Option.none : Option Jvm.ClassFile.FieldType) ∈ GW := gw_m (tb_5 (List.mem_of_getElem? (i := 209) rfl)) rfl
set_option maxRecDepth 100000 in
theorem tw_1170 : Cond.methodLink "java/util/NoSuchElementException" (1 : Nat) ({ cls := "java/lang/RuntimeException", name := "<init>", desc := "()V" } : Jvm.MethodName) ∈ GW := gw_m (tb_5 (List.mem_of_getElem? (i := 210) rfl)) rfl
set_option maxRecDepth 100000 in
theorem tw_1171 : Cond.instanceMethod ({ cls := "java/lang/RuntimeException", name := "<init>", desc := "()V" } : Jvm.MethodName) ∈ GW := gw_m (tb_5 (List.mem_of_getElem? (i := 211) rfl)) rfl
set_option maxRecDepth 100000 in
theorem tw_1172 : Cond.code ({ cls := "java/lang/RuntimeException", name := "<init>", desc := "()V" } : Jvm.MethodName) prog_19_method_1_code (1 : Nat) (Option.none : Option Jvm.ClassFile.FieldType) ∈ GW := gw_m (tb_5 (List.mem_of_getElem? (i := 212) rfl)) rfl
set_option maxRecDepth 100000 in
theorem tw_1173 : Cond.methodLink "java/lang/RuntimeException" (1 : Nat) ({ cls := "java/lang/Exception", name := "<init>", desc := "()V" } : Jvm.MethodName) ∈ GW := gw_m (tb_5 (List.mem_of_getElem? (i := 213) rfl)) rfl
set_option maxRecDepth 100000 in
theorem tw_1174 : Cond.instanceMethod ({ cls := "java/lang/Exception", name := "<init>", desc := "()V" } : Jvm.MethodName) ∈ GW := gw_m (tb_5 (List.mem_of_getElem? (i := 214) rfl)) rfl
set_option maxRecDepth 100000 in
theorem tw_1175 : Cond.code ({ cls := "java/lang/Exception", name := "<init>", desc := "()V" } : Jvm.MethodName) prog_16_method_1_code (1 : Nat) (Option.none : Option Jvm.ClassFile.FieldType) ∈ GW := gw_m (tb_5 (List.mem_of_getElem? (i := 215) rfl)) rfl
set_option maxRecDepth 100000 in
theorem tw_1176 : Cond.methodLink "java/lang/Exception" (1 : Nat) ({ cls := "java/lang/Throwable", name := "<init>", desc := "()V" } : Jvm.MethodName) ∈ GW := gw_m (tb_5 (List.mem_of_getElem? (i := 216) rfl)) rfl
set_option maxRecDepth 100000 in
theorem tw_1188 : Cond.superclass "java/util/NoSuchElementException" "java/lang/RuntimeException" ∈ GW := gw_m (tb_5 (List.mem_of_getElem? (i := 228) rfl)) rfl
set_option maxRecDepth 100000 in
theorem tw_1189 : Cond.classLink "RenamedCellsLaw" (16 : Nat) "RenamedCellsModel" ∈ GW := gw_m (tb_5 (List.mem_of_getElem? (i := 229) rfl)) rfl
set_option maxRecDepth 100000 in
theorem tw_1190 : Cond.instantiable "RenamedCellsModel" (38 : Nat) ∈ GW := gw_m (tb_5 (List.mem_of_getElem? (i := 230) rfl)) rfl
set_option maxRecDepth 100000 in
theorem tw_1191 : Cond.methodLink "RenamedCellsLaw" (18 : Nat) ({ cls := "RenamedCellsModel", name := "<init>", desc := "()V" } : Jvm.MethodName) ∈ GW := gw_m (tb_5 (List.mem_of_getElem? (i := 231) rfl)) rfl
set_option maxRecDepth 100000 in
theorem tw_1192 : Cond.instanceMethod ({ cls := "RenamedCellsModel", name := "<init>", desc := "()V" } : Jvm.MethodName) ∈ GW := gw_m (tb_5 (List.mem_of_getElem? (i := 232) rfl)) rfl
set_option maxRecDepth 100000 in
theorem tw_1193 : Cond.code ({ cls := "RenamedCellsModel", name := "<init>", desc := "()V" } : Jvm.MethodName) prog_11_method_1_code (1 : Nat) (Option.none : Option Jvm.ClassFile.FieldType) ∈ GW := gw_m (tb_5 (List.mem_of_getElem? (i := 233) rfl)) rfl
set_option maxRecDepth 100000 in
theorem tw_1194 : Cond.methodLink "RenamedCellsModel" (3 : Nat) ({ cls := "java/lang/Object", name := "<init>", desc := "()V" } : Jvm.MethodName) ∈ GW := gw_m (tb_5 (List.mem_of_getElem? (i := 234) rfl)) rfl
set_option maxRecDepth 100000 in
theorem tw_1195 : Cond.fieldLink "RenamedCellsModel" (36 : Nat) "RenamedCellsModel" "thrown" "I" ∈ GW := gw_m (tb_5 (List.mem_of_getElem? (i := 235) rfl)) rfl
set_option maxRecDepth 100000 in
theorem tw_1196 : Cond.fieldLink "RenamedCellsModel" (39 : Nat) "RenamedCellsModel" "trouble" "I" ∈ GW := gw_m (tb_5 (List.mem_of_getElem? (i := 236) rfl)) rfl
set_option maxRecDepth 100000 in
theorem tw_1197 : Cond.fieldLink "RenamedCellsModel" (9 : Nat) "RenamedCellsModel" "where" "I" ∈ GW := gw_m (tb_5 (List.mem_of_getElem? (i := 237) rfl)) rfl
set_option maxRecDepth 100000 in
theorem tw_1198 : Cond.fieldLink "RenamedCellsModel" (266 : Nat) "RenamedCellsModel" "core" "LRenamedCellsModel$Core;" ∈ GW := gw_m (tb_5 (List.mem_of_getElem? (i := 238) rfl)) rfl
set_option maxRecDepth 100000 in
theorem tw_1199 : Cond.fieldLink "RenamedCellsModel" (130 : Nat) "RenamedCellsModel" "read" "LRenamedCellsModel$Core;" ∈ GW := gw_m (tb_5 (List.mem_of_getElem? (i := 239) rfl)) rfl
set_option maxRecDepth 100000 in
theorem tw_1200 : Cond.fieldLink "RenamedCellsModel" (13 : Nat) "RenamedCellsModel" "tape" "[B" ∈ GW := gw_m (tb_6 (List.mem_of_getElem? (i := 0) rfl)) rfl
set_option maxRecDepth 100000 in
theorem tw_1201 : Cond.fieldLink "RenamedCellsModel" (259 : Nat) "RenamedCellsModel" "taped" "I" ∈ GW := gw_m (tb_6 (List.mem_of_getElem? (i := 1) rfl)) rfl
set_option maxRecDepth 100000 in
theorem tw_1202 : Cond.fieldLink "RenamedCellsModel" (53 : Nat) "RenamedCellsModel" "size" "I" ∈ GW := gw_m (tb_6 (List.mem_of_getElem? (i := 2) rfl)) rfl
set_option maxRecDepth 100000 in
theorem tw_1203 : Cond.fieldLink "RenamedCellsModel" (71 : Nat) "RenamedCellsModel" "spot" "I" ∈ GW := gw_m (tb_6 (List.mem_of_getElem? (i := 3) rfl)) rfl
set_option maxRecDepth 100000 in
theorem tw_1204 : Cond.fieldLink "RenamedCellsModel" (68 : Nat) "RenamedCellsModel" "sort" "I" ∈ GW := gw_m (tb_6 (List.mem_of_getElem? (i := 4) rfl)) rfl
set_option maxRecDepth 100000 in
theorem tw_1205 : Cond.fieldLink "RenamedCellsModel" (77 : Nat) "RenamedCellsModel" "place" "I" ∈ GW := gw_m (tb_6 (List.mem_of_getElem? (i := 5) rfl)) rfl
set_option maxRecDepth 100000 in
theorem tw_1206 : Cond.fieldLink "RenamedCellsModel" (91 : Nat) "RenamedCellsModel" "number" "I" ∈ GW := gw_m (tb_6 (List.mem_of_getElem? (i := 6) rfl)) rfl
set_option maxRecDepth 100000 in
theorem tw_1207 : Cond.fieldLink "RenamedCellsModel" (94 : Nat) "RenamedCellsModel" "fault" "I" ∈ GW := gw_m (tb_6 (List.mem_of_getElem? (i := 7) rfl)) rfl
set_option maxRecDepth 100000 in
theorem tw_1208 : Cond.fieldLink "RenamedCellsModel" (97 : Nat) "RenamedCellsModel" "wrongAt" "I" ∈ GW := gw_m (tb_6 (List.mem_of_getElem? (i := 8) rfl)) rfl
set_option maxRecDepth 100000 in
theorem tw_1209 : Cond.fieldLink "RenamedCellsModel" (84 : Nat) "RenamedCellsModel" "word" "J" ∈ GW := gw_m (tb_6 (List.mem_of_getElem? (i := 9) rfl)) rfl
set_option maxRecDepth 100000 in
theorem tw_1210 : Cond.fieldLink "RenamedCellsModel" (17 : Nat) "RenamedCellsModel" "plain" "[I" ∈ GW := gw_m (tb_6 (List.mem_of_getElem? (i := 10) rfl)) rfl
set_option maxRecDepth 100000 in
theorem tw_1211 : Cond.fieldLink "RenamedCellsModel" (284 : Nat) "RenamedCellsModel" "plainNext" "I" ∈ GW := gw_m (tb_6 (List.mem_of_getElem? (i := 11) rfl)) rfl
set_option maxRecDepth 100000 in
theorem tw_1212 : Cond.fieldLink "RenamedCellsModel" (287 : Nat) "RenamedCellsModel" "plainDone" "I" ∈ GW := gw_m (tb_6 (List.mem_of_getElem? (i := 12) rfl)) rfl
set_option maxRecDepth 100000 in
theorem tw_1213 : Cond.fieldLink "RenamedCellsModel" (293 : Nat) "RenamedCellsModel" "plainEnd" "I" ∈ GW := gw_m (tb_6 (List.mem_of_getElem? (i := 13) rfl)) rfl
set_option maxRecDepth 100000 in
theorem tw_1214 : Cond.fieldLink "RenamedCellsModel" (290 : Nat) "RenamedCellsModel" "plainMissed" "I" ∈ GW := gw_m (tb_6 (List.mem_of_getElem? (i := 14) rfl)) rfl
set_option maxRecDepth 100000 in
theorem tw_1215 : Cond.fieldLink "RenamedCellsModel" (21 : Nat) "RenamedCellsModel" "v0" "[I" ∈ GW := gw_m (tb_6 (List.mem_of_getElem? (i := 15) rfl)) rfl
set_option maxRecDepth 100000 in
theorem tw_1216 : Cond.fieldLink "RenamedCellsModel" (24 : Nat) "RenamedCellsModel" "x" "[I" ∈ GW := gw_m (tb_6 (List.mem_of_getElem? (i := 16) rfl)) rfl
set_option maxRecDepth 100000 in
theorem tw_1217 : Cond.fieldLink "RenamedCellsModel" (27 : Nat) "RenamedCellsModel" "past" "[I" ∈ GW := gw_m (tb_6 (List.mem_of_getElem? (i := 17) rfl)) rfl
set_option maxRecDepth 100000 in
theorem tw_1218 : Cond.fieldLink "RenamedCellsModel" (30 : Nat) "RenamedCellsModel" "kept" "[I" ∈ GW := gw_m (tb_6 (List.mem_of_getElem? (i := 18) rfl)) rfl
set_option maxRecDepth 100000 in
theorem tw_1219 : Cond.fieldLink "RenamedCellsModel" (274 : Nat) "RenamedCellsModel" "acts" "I" ∈ GW := gw_m (tb_6 (List.mem_of_getElem? (i := 19) rfl)) rfl
set_option maxRecDepth 100000 in
theorem tw_1220 : Cond.fieldLink "RenamedCellsModel" (277 : Nat) "RenamedCellsModel" "images" "I" ∈ GW := gw_m (tb_6 (List.mem_of_getElem? (i := 20) rfl)) rfl
set_option maxRecDepth 100000 in
theorem tw_1221 : Cond.fieldLink "RenamedCellsModel" (315 : Nat) "RenamedCellsModel" "cells" "I" ∈ GW := gw_m (tb_6 (List.mem_of_getElem? (i := 21) rfl)) rfl
set_option maxRecDepth 100000 in
theorem tw_1222 : Cond.fieldLink "RenamedCellsModel" (360 : Nat) "RenamedCellsModel" "isMiss" "Z" ∈ GW := gw_m (tb_6 (List.mem_of_getElem? (i := 22) rfl)) rfl
set_option maxRecDepth 100000 in
theorem tw_1223 : Cond.fieldLink "RenamedCellsModel" (405 : Nat) "RenamedCellsModel" "cyclesNow" "I" ∈ GW := gw_m (tb_6 (List.mem_of_getElem? (i := 23) rfl)) rfl
set_option maxRecDepth 100000 in
theorem tw_1224 : Cond.fieldLink "RenamedCellsModel" (399 : Nat) "RenamedCellsModel" "missesNow" "I" ∈ GW := gw_m (tb_6 (List.mem_of_getElem? (i := 24) rfl)) rfl
set_option maxRecDepth 100000 in
theorem tw_1225 : Cond.fieldLink "RenamedCellsModel" (408 : Nat) "RenamedCellsModel" "crowdNow" "I" ∈ GW := gw_m (tb_6 (List.mem_of_getElem? (i := 25) rfl)) rfl
set_option maxRecDepth 100000 in
theorem tw_1226 : Cond.fieldLink "RenamedCellsModel" (424 : Nat) "RenamedCellsModel" "fitsNow" "I" ∈ GW := gw_m (tb_6 (List.mem_of_getElem? (i := 26) rfl)) rfl
set_option maxRecDepth 100000 in
theorem tw_1227 : Cond.fieldLink "RenamedCellsModel" (427 : Nat) "RenamedCellsModel" "someNow" "I" ∈ GW := gw_m (tb_6 (List.mem_of_getElem? (i := 27) rfl)) rfl
set_option maxRecDepth 100000 in
theorem tw_1228 : Cond.fieldLink "RenamedCellsModel" (430 : Nat) "RenamedCellsModel" "everyNow" "I" ∈ GW := gw_m (tb_6 (List.mem_of_getElem? (i := 28) rfl)) rfl
set_option maxRecDepth 100000 in
theorem tw_1229 : Cond.fieldLink "RenamedCellsModel" (33 : Nat) "RenamedCellsModel" "otherIn" "[I" ∈ GW := gw_m (tb_6 (List.mem_of_getElem? (i := 29) rfl)) rfl
set_option maxRecDepth 100000 in
theorem tw_1230 : Cond.fieldLink "RenamedCellsModel" (439 : Nat) "RenamedCellsModel" "askLeft" "I" ∈ GW := gw_m (tb_6 (List.mem_of_getElem? (i := 30) rfl)) rfl
set_option maxRecDepth 100000 in
theorem tw_1231 : Cond.fieldLink "RenamedCellsModel" (447 : Nat) "RenamedCellsModel" "drawn" "I" ∈ GW := gw_m (tb_6 (List.mem_of_getElem? (i := 31) rfl)) rfl
set_option maxRecDepth 100000 in
theorem tw_1232 : Cond.fieldLink "RenamedCellsModel" (454 : Nat) "RenamedCellsModel" "drawnCommitted" "I" ∈ GW := gw_m (tb_6 (List.mem_of_getElem? (i := 32) rfl)) rfl
set_option maxRecDepth 100000 in
theorem tw_1233 : Cond.lays "RenamedCellsModel" "RenamedCellsModel" "thrown" "I" ∈ GW := gw_m (tb_6 (List.mem_of_getElem? (i := 33) rfl)) rfl
set_option maxRecDepth 100000 in
theorem tw_1235 : Cond.lays "RenamedCellsModel" "RenamedCellsModel" "trouble" "I" ∈ GW := gw_m (tb_6 (List.mem_of_getElem? (i := 35) rfl)) rfl
set_option maxRecDepth 100000 in
theorem tw_1237 : Cond.lays "RenamedCellsModel" "RenamedCellsModel" "where" "I" ∈ GW := gw_m (tb_6 (List.mem_of_getElem? (i := 37) rfl)) rfl
set_option maxRecDepth 100000 in
theorem tw_1239 : Cond.lays "RenamedCellsModel" "RenamedCellsModel" "core" "LRenamedCellsModel$Core;" ∈ GW := gw_m (tb_6 (List.mem_of_getElem? (i := 39) rfl)) rfl
set_option maxRecDepth 100000 in
theorem tw_1241 : Cond.lays "RenamedCellsModel" "RenamedCellsModel" "read" "LRenamedCellsModel$Core;" ∈ GW := gw_m (tb_6 (List.mem_of_getElem? (i := 41) rfl)) rfl
set_option maxRecDepth 100000 in
theorem tw_1243 : Cond.laysFinal "RenamedCellsModel" "RenamedCellsModel" "tape" "[B" ∈ GW := gw_m (tb_6 (List.mem_of_getElem? (i := 43) rfl)) rfl
set_option maxRecDepth 100000 in
theorem tw_1245 : Cond.lays "RenamedCellsModel" "RenamedCellsModel" "taped" "I" ∈ GW := gw_m (tb_6 (List.mem_of_getElem? (i := 45) rfl)) rfl
set_option maxRecDepth 100000 in
theorem tw_1247 : Cond.lays "RenamedCellsModel" "RenamedCellsModel" "size" "I" ∈ GW := gw_m (tb_6 (List.mem_of_getElem? (i := 47) rfl)) rfl
set_option maxRecDepth 100000 in
theorem tw_1249 : Cond.lays "RenamedCellsModel" "RenamedCellsModel" "spot" "I" ∈ GW := gw_m (tb_6 (List.mem_of_getElem? (i := 49) rfl)) rfl
set_option maxRecDepth 100000 in
theorem tw_1251 : Cond.lays "RenamedCellsModel" "RenamedCellsModel" "sort" "I" ∈ GW := gw_m (tb_6 (List.mem_of_getElem? (i := 51) rfl)) rfl
set_option maxRecDepth 100000 in
theorem tw_1253 : Cond.lays "RenamedCellsModel" "RenamedCellsModel" "place" "I" ∈ GW := gw_m (tb_6 (List.mem_of_getElem? (i := 53) rfl)) rfl
set_option maxRecDepth 100000 in
theorem tw_1255 : Cond.lays "RenamedCellsModel" "RenamedCellsModel" "number" "I" ∈ GW := gw_m (tb_6 (List.mem_of_getElem? (i := 55) rfl)) rfl
set_option maxRecDepth 100000 in
theorem tw_1257 : Cond.lays "RenamedCellsModel" "RenamedCellsModel" "fault" "I" ∈ GW := gw_m (tb_6 (List.mem_of_getElem? (i := 57) rfl)) rfl
set_option maxRecDepth 100000 in
theorem tw_1259 : Cond.lays "RenamedCellsModel" "RenamedCellsModel" "wrongAt" "I" ∈ GW := gw_m (tb_6 (List.mem_of_getElem? (i := 59) rfl)) rfl
set_option maxRecDepth 100000 in
theorem tw_1261 : Cond.lays "RenamedCellsModel" "RenamedCellsModel" "word" "J" ∈ GW := gw_m (tb_6 (List.mem_of_getElem? (i := 61) rfl)) rfl
set_option maxRecDepth 100000 in
theorem tw_1263 : Cond.laysFinal "RenamedCellsModel" "RenamedCellsModel" "plain" "[I" ∈ GW := gw_m (tb_6 (List.mem_of_getElem? (i := 63) rfl)) rfl
set_option maxRecDepth 100000 in
theorem tw_1265 : Cond.lays "RenamedCellsModel" "RenamedCellsModel" "plainNext" "I" ∈ GW := gw_m (tb_6 (List.mem_of_getElem? (i := 65) rfl)) rfl
set_option maxRecDepth 100000 in
theorem tw_1267 : Cond.lays "RenamedCellsModel" "RenamedCellsModel" "plainDone" "I" ∈ GW := gw_m (tb_6 (List.mem_of_getElem? (i := 67) rfl)) rfl
set_option maxRecDepth 100000 in
theorem tw_1269 : Cond.lays "RenamedCellsModel" "RenamedCellsModel" "plainEnd" "I" ∈ GW := gw_m (tb_6 (List.mem_of_getElem? (i := 69) rfl)) rfl
set_option maxRecDepth 100000 in
theorem tw_1271 : Cond.lays "RenamedCellsModel" "RenamedCellsModel" "plainMissed" "I" ∈ GW := gw_m (tb_6 (List.mem_of_getElem? (i := 71) rfl)) rfl
set_option maxRecDepth 100000 in
theorem tw_1273 : Cond.laysFinal "RenamedCellsModel" "RenamedCellsModel" "v0" "[I" ∈ GW := gw_m (tb_6 (List.mem_of_getElem? (i := 73) rfl)) rfl
set_option maxRecDepth 100000 in
theorem tw_1275 : Cond.laysFinal "RenamedCellsModel" "RenamedCellsModel" "x" "[I" ∈ GW := gw_m (tb_6 (List.mem_of_getElem? (i := 75) rfl)) rfl
set_option maxRecDepth 100000 in
theorem tw_1277 : Cond.laysFinal "RenamedCellsModel" "RenamedCellsModel" "past" "[I" ∈ GW := gw_m (tb_6 (List.mem_of_getElem? (i := 77) rfl)) rfl
set_option maxRecDepth 100000 in
theorem tw_1279 : Cond.laysFinal "RenamedCellsModel" "RenamedCellsModel" "kept" "[I" ∈ GW := gw_m (tb_6 (List.mem_of_getElem? (i := 79) rfl)) rfl
set_option maxRecDepth 100000 in
theorem tw_1281 : Cond.lays "RenamedCellsModel" "RenamedCellsModel" "acts" "I" ∈ GW := gw_m (tb_6 (List.mem_of_getElem? (i := 81) rfl)) rfl
set_option maxRecDepth 100000 in
theorem tw_1283 : Cond.lays "RenamedCellsModel" "RenamedCellsModel" "images" "I" ∈ GW := gw_m (tb_6 (List.mem_of_getElem? (i := 83) rfl)) rfl
set_option maxRecDepth 100000 in
theorem tw_1285 : Cond.lays "RenamedCellsModel" "RenamedCellsModel" "cells" "I" ∈ GW := gw_m (tb_6 (List.mem_of_getElem? (i := 85) rfl)) rfl
set_option maxRecDepth 100000 in
theorem tw_1287 : Cond.lays "RenamedCellsModel" "RenamedCellsModel" "isMiss" "Z" ∈ GW := gw_m (tb_6 (List.mem_of_getElem? (i := 87) rfl)) rfl
set_option maxRecDepth 100000 in
theorem tw_1289 : Cond.lays "RenamedCellsModel" "RenamedCellsModel" "cyclesNow" "I" ∈ GW := gw_m (tb_6 (List.mem_of_getElem? (i := 89) rfl)) rfl
set_option maxRecDepth 100000 in
theorem tw_1291 : Cond.lays "RenamedCellsModel" "RenamedCellsModel" "missesNow" "I" ∈ GW := gw_m (tb_6 (List.mem_of_getElem? (i := 91) rfl)) rfl
set_option maxRecDepth 100000 in
theorem tw_1293 : Cond.lays "RenamedCellsModel" "RenamedCellsModel" "crowdNow" "I" ∈ GW := gw_m (tb_6 (List.mem_of_getElem? (i := 93) rfl)) rfl
set_option maxRecDepth 100000 in
theorem tw_1295 : Cond.lays "RenamedCellsModel" "RenamedCellsModel" "fitsNow" "I" ∈ GW := gw_m (tb_6 (List.mem_of_getElem? (i := 95) rfl)) rfl
set_option maxRecDepth 100000 in
theorem tw_1297 : Cond.lays "RenamedCellsModel" "RenamedCellsModel" "someNow" "I" ∈ GW := gw_m (tb_6 (List.mem_of_getElem? (i := 97) rfl)) rfl
set_option maxRecDepth 100000 in
theorem tw_1299 : Cond.lays "RenamedCellsModel" "RenamedCellsModel" "everyNow" "I" ∈ GW := gw_m (tb_6 (List.mem_of_getElem? (i := 99) rfl)) rfl
set_option maxRecDepth 100000 in
theorem tw_1301 : Cond.laysFinal "RenamedCellsModel" "RenamedCellsModel" "otherIn" "[I" ∈ GW := gw_m (tb_6 (List.mem_of_getElem? (i := 101) rfl)) rfl
set_option maxRecDepth 100000 in
theorem tw_1303 : Cond.lays "RenamedCellsModel" "RenamedCellsModel" "askLeft" "I" ∈ GW := gw_m (tb_6 (List.mem_of_getElem? (i := 103) rfl)) rfl
set_option maxRecDepth 100000 in
theorem tw_1305 : Cond.lays "RenamedCellsModel" "RenamedCellsModel" "drawn" "I" ∈ GW := gw_m (tb_6 (List.mem_of_getElem? (i := 105) rfl)) rfl
set_option maxRecDepth 100000 in
theorem tw_1307 : Cond.lays "RenamedCellsModel" "RenamedCellsModel" "drawnCommitted" "I" ∈ GW := gw_m (tb_6 (List.mem_of_getElem? (i := 107) rfl)) rfl
set_option maxRecDepth 100000 in
theorem tw_1309 : Cond.superclass "RenamedCellsModel" "java/lang/Object" ∈ GW := gw_m (tb_6 (List.mem_of_getElem? (i := 109) rfl)) rfl
set_option maxRecDepth 100000 in
theorem tw_1310 : Cond.methodLink "RenamedCellsLaw" (224 : Nat) ({ cls := "RenamedCellsModel", name := "thrown", desc := "()I" } : Jvm.MethodName) ∈ GW := gw_m (tb_6 (List.mem_of_getElem? (i := 110) rfl)) rfl
set_option maxRecDepth 100000 in
theorem tw_1311 : Cond.instanceMethod ({ cls := "RenamedCellsModel", name := "thrown", desc := "()I" } : Jvm.MethodName) ∈ GW := gw_m (tb_6 (List.mem_of_getElem? (i := 111) rfl)) rfl
set_option maxRecDepth 100000 in
theorem tw_1312 : Cond.selects "RenamedCellsModel" ({ cls := "RenamedCellsModel", name := "thrown", desc := "()I" } : Jvm.MethodName) ({ cls := "RenamedCellsModel", name := "thrown", desc := "()I" } : Jvm.MethodName) ∈ GW := gw_m (tb_6 (List.mem_of_getElem? (i := 112) rfl)) rfl
set_option maxRecDepth 100000 in
theorem tw_1313 : Cond.code ({ cls := "RenamedCellsModel", name := "thrown", desc := "()I" } : Jvm.MethodName) prog_11_method_2_code (1 : Nat) (Option.some Jvm.ClassFile.FieldType.int) ∈ GW := gw_m (tb_6 (List.mem_of_getElem? (i := 113) rfl)) rfl
set_option maxRecDepth 100000 in
theorem tw_1314 : Cond.methodLink "RenamedCellsLaw" (23 : Nat) ({ cls := "RenamedCellsModel", name := "feed", desc := "(IIIII)I" } : Jvm.MethodName) ∈ GW := gw_m (tb_6 (List.mem_of_getElem? (i := 114) rfl)) rfl
set_option maxRecDepth 100000 in
theorem tw_1315 : Cond.instanceMethod ({ cls := "RenamedCellsModel", name := "feed", desc := "(IIIII)I" } : Jvm.MethodName) ∈ GW := gw_m (tb_6 (List.mem_of_getElem? (i := 115) rfl)) rfl
set_option maxRecDepth 100000 in
theorem tw_1316 : Cond.selects "RenamedCellsModel" ({ cls := "RenamedCellsModel", name := "feed", desc := "(IIIII)I" } : Jvm.MethodName) ({ cls := "RenamedCellsModel", name := "feed", desc := "(IIIII)I" } : Jvm.MethodName) ∈ GW := gw_m (tb_6 (List.mem_of_getElem? (i := 116) rfl)) rfl
set_option maxRecDepth 100000 in
theorem tw_1317 : Cond.code ({ cls := "RenamedCellsModel", name := "feed", desc := "(IIIII)I" } : Jvm.MethodName) prog_11_method_33_code (8 : Nat) (Option.some Jvm.ClassFile.FieldType.int) ∈ GW := gw_m (tb_6 (List.mem_of_getElem? (i := 117) rfl)) rfl
set_option maxRecDepth 100000 in
theorem tw_1318 : Cond.methodLink "RenamedCellsLaw" (27 : Nat) ({ cls := "RenamedCellsModel", name := "core", desc := "(I)I" } : Jvm.MethodName) ∈ GW := gw_m (tb_6 (List.mem_of_getElem? (i := 118) rfl)) rfl
set_option maxRecDepth 100000 in
theorem tw_1319 : Cond.instanceMethod ({ cls := "RenamedCellsModel", name := "core", desc := "(I)I" } : Jvm.MethodName) ∈ GW := gw_m (tb_6 (List.mem_of_getElem? (i := 119) rfl)) rfl
set_option maxRecDepth 100000 in
theorem tw_1320 : Cond.selects "RenamedCellsModel" ({ cls := "RenamedCellsModel", name := "core", desc := "(I)I" } : Jvm.MethodName) ({ cls := "RenamedCellsModel", name := "core", desc := "(I)I" } : Jvm.MethodName) ∈ GW := gw_m (tb_6 (List.mem_of_getElem? (i := 120) rfl)) rfl
set_option maxRecDepth 100000 in
theorem tw_1321 : Cond.code ({ cls := "RenamedCellsModel", name := "core", desc := "(I)I" } : Jvm.MethodName) prog_11_method_34_code (2 : Nat) (Option.some Jvm.ClassFile.FieldType.int) ∈ GW := gw_m (tb_6 (List.mem_of_getElem? (i := 121) rfl)) rfl
set_option maxRecDepth 100000 in
theorem tw_1322 : Cond.methodLink "RenamedCellsModel" (42 : Nat) ({ cls := "RenamedCellsModel", name := "refused", desc := "(I)I" } : Jvm.MethodName) ∈ GW := gw_m (tb_6 (List.mem_of_getElem? (i := 122) rfl)) rfl
set_option maxRecDepth 100000 in
theorem tw_1324 : Cond.instanceMethod ({ cls := "RenamedCellsModel", name := "refused", desc := "(I)I" } : Jvm.MethodName) ∈ GW := gw_m (tb_6 (List.mem_of_getElem? (i := 124) rfl)) rfl
set_option maxRecDepth 100000 in
theorem tw_1325 : Cond.code ({ cls := "RenamedCellsModel", name := "refused", desc := "(I)I" } : Jvm.MethodName) prog_11_method_3_code (2 : Nat) (Option.some Jvm.ClassFile.FieldType.int) ∈ GW := gw_m (tb_6 (List.mem_of_getElem? (i := 125) rfl)) rfl
set_option maxRecDepth 100000 in
theorem tw_1326 : Cond.classLink "RenamedCellsModel" (135 : Nat) "RenamedCellsModel$Core" ∈ GW := gw_m (tb_6 (List.mem_of_getElem? (i := 126) rfl)) rfl
set_option maxRecDepth 100000 in
theorem tw_1327 : Cond.instantiable "RenamedCellsModel$Core" (18 : Nat) ∈ GW := gw_m (tb_6 (List.mem_of_getElem? (i := 127) rfl)) rfl
set_option maxRecDepth 100000 in
theorem nw_1328 : Cond.methodLinkNest "RenamedCellsModel" (262 : Nat) ({ cls := "RenamedCellsModel$Core", name := "<init>", desc := "()V" } : Jvm.MethodName) "RenamedCellsModel" ∈ NW := nw_m (tb_6 (List.mem_of_getElem? (i := 128) rfl)) rfl
set_option maxRecDepth 100000 in
theorem tw_1329 : Cond.instanceMethod ({ cls := "RenamedCellsModel$Core", name := "<init>", desc := "()V" } : Jvm.MethodName) ∈ GW := gw_m (tb_6 (List.mem_of_getElem? (i := 129) rfl)) rfl
set_option maxRecDepth 100000 in
theorem tw_1330 : Cond.code ({ cls := "RenamedCellsModel$Core", name := "<init>", desc := "()V" } : Jvm.MethodName) prog_12_method_1_code (1 : Nat) (Option.none : Option Jvm.ClassFile.FieldType) ∈ GW := gw_m (tb_6 (List.mem_of_getElem? (i := 130) rfl)) rfl
set_option maxRecDepth 100000 in
theorem tw_1331 : Cond.methodLink "RenamedCellsModel$Core" (3 : Nat) ({ cls := "java/lang/Object", name := "<init>", desc := "()V" } : Jvm.MethodName) ∈ GW := gw_m (tb_6 (List.mem_of_getElem? (i := 131) rfl)) rfl
set_option maxRecDepth 100000 in
theorem nw_1332 : Cond.fieldLinkNest "RenamedCellsModel" (134 : Nat) "RenamedCellsModel$Core" "cells" "I" "RenamedCellsModel" ∈ NW := nw_m (tb_6 (List.mem_of_getElem? (i := 132) rfl)) rfl
set_option maxRecDepth 100000 in
theorem nw_1333 : Cond.fieldLinkNest "RenamedCellsModel" (197 : Nat) "RenamedCellsModel$Core" "window" "I" "RenamedCellsModel" ∈ NW := nw_m (tb_6 (List.mem_of_getElem? (i := 133) rfl)) rfl
set_option maxRecDepth 100000 in
theorem nw_1334 : Cond.fieldLinkNest "RenamedCellsModel" (199 : Nat) "RenamedCellsModel$Core" "saves" "I" "RenamedCellsModel" ∈ NW := nw_m (tb_6 (List.mem_of_getElem? (i := 134) rfl)) rfl
set_option maxRecDepth 100000 in
theorem nw_1335 : Cond.fieldLinkNest "RenamedCellsModel" (201 : Nat) "RenamedCellsModel$Core" "share" "I" "RenamedCellsModel" ∈ NW := nw_m (tb_6 (List.mem_of_getElem? (i := 135) rfl)) rfl
set_option maxRecDepth 100000 in
theorem tw_1336 : Cond.fieldLink "RenamedCellsModel$Core" (43 : Nat) "RenamedCellsModel$Core" "steps" "I" ∈ GW := gw_m (tb_6 (List.mem_of_getElem? (i := 136) rfl)) rfl
set_option maxRecDepth 100000 in
theorem nw_1337 : Cond.fieldLinkNest "RenamedCellsModel" (146 : Nat) "RenamedCellsModel$Core" "steps" "I" "RenamedCellsModel" ∈ NW := nw_m (tb_6 (List.mem_of_getElem? (i := 137) rfl)) rfl
set_option maxRecDepth 100000 in
theorem tw_1338 : Cond.fieldLink "RenamedCellsModel$Core" (47 : Nat) "RenamedCellsModel$Core" "unsures" "I" ∈ GW := gw_m (tb_6 (List.mem_of_getElem? (i := 138) rfl)) rfl
set_option maxRecDepth 100000 in
theorem nw_1339 : Cond.fieldLinkNest "RenamedCellsModel" (234 : Nat) "RenamedCellsModel$Core" "unsures" "I" "RenamedCellsModel" ∈ NW := nw_m (tb_6 (List.mem_of_getElem? (i := 139) rfl)) rfl
set_option maxRecDepth 100000 in
theorem tw_1340 : Cond.fieldLink "RenamedCellsModel$Core" (50 : Nat) "RenamedCellsModel$Core" "gots" "I" ∈ GW := gw_m (tb_6 (List.mem_of_getElem? (i := 140) rfl)) rfl
set_option maxRecDepth 100000 in
theorem nw_1341 : Cond.fieldLinkNest "RenamedCellsModel" (248 : Nat) "RenamedCellsModel$Core" "gots" "I" "RenamedCellsModel" ∈ NW := nw_m (tb_6 (List.mem_of_getElem? (i := 141) rfl)) rfl
set_option maxRecDepth 100000 in
theorem nw_1342 : Cond.fieldLinkNest "RenamedCellsModel" (203 : Nat) "RenamedCellsModel$Core" "early" "Z" "RenamedCellsModel" ∈ NW := nw_m (tb_6 (List.mem_of_getElem? (i := 142) rfl)) rfl
set_option maxRecDepth 100000 in
theorem tw_1343 : Cond.fieldLink "RenamedCellsModel$Core" (9 : Nat) "RenamedCellsModel$Core" "kind" "[I" ∈ GW := gw_m (tb_6 (List.mem_of_getElem? (i := 143) rfl)) rfl
set_option maxRecDepth 100000 in
theorem nw_1344 : Cond.fieldLinkNest "RenamedCellsModel" (217 : Nat) "RenamedCellsModel$Core" "kind" "[I" "RenamedCellsModel" ∈ NW := nw_m (tb_6 (List.mem_of_getElem? (i := 144) rfl)) rfl
set_option maxRecDepth 100000 in
theorem tw_1345 : Cond.fieldLink "RenamedCellsModel$Core" (15 : Nat) "RenamedCellsModel$Core" "to" "[I" ∈ GW := gw_m (tb_6 (List.mem_of_getElem? (i := 145) rfl)) rfl
set_option maxRecDepth 100000 in
theorem nw_1346 : Cond.fieldLinkNest "RenamedCellsModel" (220 : Nat) "RenamedCellsModel$Core" "to" "[I" "RenamedCellsModel" ∈ NW := nw_m (tb_6 (List.mem_of_getElem? (i := 146) rfl)) rfl
set_option maxRecDepth 100000 in
theorem tw_1347 : Cond.fieldLink "RenamedCellsModel$Core" (18 : Nat) "RenamedCellsModel$Core" "one" "[I" ∈ GW := gw_m (tb_6 (List.mem_of_getElem? (i := 147) rfl)) rfl
set_option maxRecDepth 100000 in
theorem nw_1348 : Cond.fieldLinkNest "RenamedCellsModel" (223 : Nat) "RenamedCellsModel$Core" "one" "[I" "RenamedCellsModel" ∈ NW := nw_m (tb_6 (List.mem_of_getElem? (i := 148) rfl)) rfl
set_option maxRecDepth 100000 in
theorem tw_1349 : Cond.fieldLink "RenamedCellsModel$Core" (21 : Nat) "RenamedCellsModel$Core" "two" "[I" ∈ GW := gw_m (tb_6 (List.mem_of_getElem? (i := 149) rfl)) rfl
set_option maxRecDepth 100000 in
theorem nw_1350 : Cond.fieldLinkNest "RenamedCellsModel" (226 : Nat) "RenamedCellsModel$Core" "two" "[I" "RenamedCellsModel" ∈ NW := nw_m (tb_6 (List.mem_of_getElem? (i := 150) rfl)) rfl
set_option maxRecDepth 100000 in
theorem tw_1351 : Cond.fieldLink "RenamedCellsModel$Core" (24 : Nat) "RenamedCellsModel$Core" "number" "[I" ∈ GW := gw_m (tb_6 (List.mem_of_getElem? (i := 151) rfl)) rfl
set_option maxRecDepth 100000 in
theorem nw_1352 : Cond.fieldLinkNest "RenamedCellsModel" (229 : Nat) "RenamedCellsModel$Core" "number" "[I" "RenamedCellsModel" ∈ NW := nw_m (tb_6 (List.mem_of_getElem? (i := 152) rfl)) rfl
set_option maxRecDepth 100000 in
theorem tw_1353 : Cond.fieldLink "RenamedCellsModel$Core" (27 : Nat) "RenamedCellsModel$Core" "yes" "[Z" ∈ GW := gw_m (tb_6 (List.mem_of_getElem? (i := 153) rfl)) rfl
set_option maxRecDepth 100000 in
theorem nw_1354 : Cond.fieldLinkNest "RenamedCellsModel" (231 : Nat) "RenamedCellsModel$Core" "yes" "[Z" "RenamedCellsModel" ∈ NW := nw_m (tb_6 (List.mem_of_getElem? (i := 154) rfl)) rfl
set_option maxRecDepth 100000 in
theorem tw_1355 : Cond.fieldLink "RenamedCellsModel$Core" (31 : Nat) "RenamedCellsModel$Core" "unsure" "[I" ∈ GW := gw_m (tb_6 (List.mem_of_getElem? (i := 155) rfl)) rfl
set_option maxRecDepth 100000 in
theorem nw_1356 : Cond.fieldLinkNest "RenamedCellsModel" (243 : Nat) "RenamedCellsModel$Core" "unsure" "[I" "RenamedCellsModel" ∈ NW := nw_m (tb_6 (List.mem_of_getElem? (i := 156) rfl)) rfl
set_option maxRecDepth 100000 in
theorem tw_1357 : Cond.fieldLink "RenamedCellsModel$Core" (34 : Nat) "RenamedCellsModel$Core" "may" "[I" ∈ GW := gw_m (tb_6 (List.mem_of_getElem? (i := 157) rfl)) rfl
set_option maxRecDepth 100000 in
theorem nw_1358 : Cond.fieldLinkNest "RenamedCellsModel" (245 : Nat) "RenamedCellsModel$Core" "may" "[I" "RenamedCellsModel" ∈ NW := nw_m (tb_6 (List.mem_of_getElem? (i := 158) rfl)) rfl
set_option maxRecDepth 100000 in
theorem tw_1359 : Cond.fieldLink "RenamedCellsModel$Core" (37 : Nat) "RenamedCellsModel$Core" "got" "[I" ∈ GW := gw_m (tb_6 (List.mem_of_getElem? (i := 159) rfl)) rfl
set_option maxRecDepth 100000 in
theorem nw_1360 : Cond.fieldLinkNest "RenamedCellsModel" (254 : Nat) "RenamedCellsModel$Core" "got" "[I" "RenamedCellsModel" ∈ NW := nw_m (tb_6 (List.mem_of_getElem? (i := 160) rfl)) rfl
set_option maxRecDepth 100000 in
theorem tw_1361 : Cond.fieldLink "RenamedCellsModel$Core" (40 : Nat) "RenamedCellsModel$Core" "gotNumber" "[I" ∈ GW := gw_m (tb_6 (List.mem_of_getElem? (i := 161) rfl)) rfl
set_option maxRecDepth 100000 in
theorem nw_1362 : Cond.fieldLinkNest "RenamedCellsModel" (256 : Nat) "RenamedCellsModel$Core" "gotNumber" "[I" "RenamedCellsModel" ∈ NW := nw_m (tb_6 (List.mem_of_getElem? (i := 162) rfl)) rfl
set_option maxRecDepth 100000 in
theorem tw_1363 : Cond.lays "RenamedCellsModel$Core" "RenamedCellsModel$Core" "cells" "I" ∈ GW := gw_m (tb_6 (List.mem_of_getElem? (i := 163) rfl)) rfl
set_option maxRecDepth 100000 in
theorem tw_1365 : Cond.lays "RenamedCellsModel$Core" "RenamedCellsModel$Core" "window" "I" ∈ GW := gw_m (tb_6 (List.mem_of_getElem? (i := 165) rfl)) rfl
set_option maxRecDepth 100000 in
theorem tw_1367 : Cond.lays "RenamedCellsModel$Core" "RenamedCellsModel$Core" "saves" "I" ∈ GW := gw_m (tb_6 (List.mem_of_getElem? (i := 167) rfl)) rfl
set_option maxRecDepth 100000 in
theorem tw_1369 : Cond.lays "RenamedCellsModel$Core" "RenamedCellsModel$Core" "share" "I" ∈ GW := gw_m (tb_6 (List.mem_of_getElem? (i := 169) rfl)) rfl
set_option maxRecDepth 100000 in
theorem tw_1371 : Cond.lays "RenamedCellsModel$Core" "RenamedCellsModel$Core" "steps" "I" ∈ GW := gw_m (tb_6 (List.mem_of_getElem? (i := 171) rfl)) rfl
set_option maxRecDepth 100000 in
theorem tw_1373 : Cond.lays "RenamedCellsModel$Core" "RenamedCellsModel$Core" "unsures" "I" ∈ GW := gw_m (tb_6 (List.mem_of_getElem? (i := 173) rfl)) rfl
set_option maxRecDepth 100000 in
theorem tw_1375 : Cond.lays "RenamedCellsModel$Core" "RenamedCellsModel$Core" "gots" "I" ∈ GW := gw_m (tb_6 (List.mem_of_getElem? (i := 175) rfl)) rfl
set_option maxRecDepth 100000 in
theorem tw_1377 : Cond.lays "RenamedCellsModel$Core" "RenamedCellsModel$Core" "early" "Z" ∈ GW := gw_m (tb_6 (List.mem_of_getElem? (i := 177) rfl)) rfl
set_option maxRecDepth 100000 in
theorem tw_1379 : Cond.laysFinal "RenamedCellsModel$Core" "RenamedCellsModel$Core" "kind" "[I" ∈ GW := gw_m (tb_6 (List.mem_of_getElem? (i := 179) rfl)) rfl
set_option maxRecDepth 100000 in
theorem tw_1381 : Cond.laysFinal "RenamedCellsModel$Core" "RenamedCellsModel$Core" "to" "[I" ∈ GW := gw_m (tb_6 (List.mem_of_getElem? (i := 181) rfl)) rfl
set_option maxRecDepth 100000 in
theorem tw_1383 : Cond.laysFinal "RenamedCellsModel$Core" "RenamedCellsModel$Core" "one" "[I" ∈ GW := gw_m (tb_6 (List.mem_of_getElem? (i := 183) rfl)) rfl
set_option maxRecDepth 100000 in
theorem tw_1385 : Cond.laysFinal "RenamedCellsModel$Core" "RenamedCellsModel$Core" "two" "[I" ∈ GW := gw_m (tb_6 (List.mem_of_getElem? (i := 185) rfl)) rfl
set_option maxRecDepth 100000 in
theorem tw_1387 : Cond.laysFinal "RenamedCellsModel$Core" "RenamedCellsModel$Core" "number" "[I" ∈ GW := gw_m (tb_6 (List.mem_of_getElem? (i := 187) rfl)) rfl
set_option maxRecDepth 100000 in
theorem tw_1389 : Cond.laysFinal "RenamedCellsModel$Core" "RenamedCellsModel$Core" "yes" "[Z" ∈ GW := gw_m (tb_6 (List.mem_of_getElem? (i := 189) rfl)) rfl
set_option maxRecDepth 100000 in
theorem tw_1391 : Cond.laysFinal "RenamedCellsModel$Core" "RenamedCellsModel$Core" "unsure" "[I" ∈ GW := gw_m (tb_6 (List.mem_of_getElem? (i := 191) rfl)) rfl
set_option maxRecDepth 100000 in
theorem tw_1393 : Cond.laysFinal "RenamedCellsModel$Core" "RenamedCellsModel$Core" "may" "[I" ∈ GW := gw_m (tb_6 (List.mem_of_getElem? (i := 193) rfl)) rfl
set_option maxRecDepth 100000 in
theorem tw_1395 : Cond.laysFinal "RenamedCellsModel$Core" "RenamedCellsModel$Core" "got" "[I" ∈ GW := gw_m (tb_6 (List.mem_of_getElem? (i := 195) rfl)) rfl
set_option maxRecDepth 100000 in
theorem tw_1397 : Cond.laysFinal "RenamedCellsModel$Core" "RenamedCellsModel$Core" "gotNumber" "[I" ∈ GW := gw_m (tb_6 (List.mem_of_getElem? (i := 197) rfl)) rfl
set_option maxRecDepth 100000 in
theorem tw_1399 : Cond.superclass "RenamedCellsModel$Core" "java/lang/Object" ∈ GW := gw_m (tb_6 (List.mem_of_getElem? (i := 199) rfl)) rfl
set_option maxRecDepth 100000 in
theorem tw_1400 : Cond.methodLink "RenamedCellsModel" (104 : Nat) ({ cls := "RenamedCellsModel", name := "goesOn", desc := "()V" } : Jvm.MethodName) ∈ GW := gw_m (tb_6 (List.mem_of_getElem? (i := 200) rfl)) rfl
set_option maxRecDepth 100000 in
theorem tw_1402 : Cond.instanceMethod ({ cls := "RenamedCellsModel", name := "goesOn", desc := "()V" } : Jvm.MethodName) ∈ GW := gw_m (tb_6 (List.mem_of_getElem? (i := 202) rfl)) rfl
set_option maxRecDepth 100000 in
theorem tw_1403 : Cond.code ({ cls := "RenamedCellsModel", name := "goesOn", desc := "()V" } : Jvm.MethodName) prog_11_method_16_code (3 : Nat) (Option.none : Option Jvm.ClassFile.FieldType) ∈ GW := gw_m (tb_6 (List.mem_of_getElem? (i := 203) rfl)) rfl
set_option maxRecDepth 100000 in
theorem tw_1404 : Cond.methodLink "RenamedCellsModel" (74 : Nat) ({ cls := "RenamedCellsModel", name := "byteAt", desc := "(I)I" } : Jvm.MethodName) ∈ GW := gw_m (tb_6 (List.mem_of_getElem? (i := 204) rfl)) rfl
set_option maxRecDepth 100000 in
theorem tw_1406 : Cond.instanceMethod ({ cls := "RenamedCellsModel", name := "byteAt", desc := "(I)I" } : Jvm.MethodName) ∈ GW := gw_m (tb_6 (List.mem_of_getElem? (i := 206) rfl)) rfl
set_option maxRecDepth 100000 in
theorem tw_1407 : Cond.code ({ cls := "RenamedCellsModel", name := "byteAt", desc := "(I)I" } : Jvm.MethodName) prog_11_method_12_code (2 : Nat) (Option.some Jvm.ClassFile.FieldType.int) ∈ GW := gw_m (tb_6 (List.mem_of_getElem? (i := 207) rfl)) rfl
set_option maxRecDepth 100000 in
theorem tw_1408 : Cond.methodLink "RenamedCellsModel" (80 : Nat) ({ cls := "RenamedCellsModel", name := "isLetter", desc := "(I)Z" } : Jvm.MethodName) ∈ GW := gw_m (tb_6 (List.mem_of_getElem? (i := 208) rfl)) rfl
set_option maxRecDepth 100000 in
theorem tw_1409 : Cond.static ({ cls := "RenamedCellsModel", name := "isLetter", desc := "(I)Z" } : Jvm.MethodName) ∈ GW := gw_m (tb_6 (List.mem_of_getElem? (i := 209) rfl)) rfl
set_option maxRecDepth 100000 in
theorem tw_1410 : Cond.code ({ cls := "RenamedCellsModel", name := "isLetter", desc := "(I)Z" } : Jvm.MethodName) prog_11_method_13_code (1 : Nat) (Option.some Jvm.ClassFile.FieldType.boolean) ∈ GW := gw_m (tb_6 (List.mem_of_getElem? (i := 210) rfl)) rfl
set_option maxRecDepth 100000 in
theorem tw_1411 : Cond.constantLong "RenamedCellsModel" (62 : Nat) (32 : Int64) ∈ GW := gw_m (tb_6 (List.mem_of_getElem? (i := 211) rfl)) rfl
set_option maxRecDepth 100000 in
theorem tw_1412 : Cond.methodLink "RenamedCellsModel" (88 : Nat) ({ cls := "RenamedCellsModel", name := "isDigit", desc := "(I)Z" } : Jvm.MethodName) ∈ GW := gw_m (tb_6 (List.mem_of_getElem? (i := 212) rfl)) rfl
set_option maxRecDepth 100000 in
theorem tw_1413 : Cond.static ({ cls := "RenamedCellsModel", name := "isDigit", desc := "(I)Z" } : Jvm.MethodName) ∈ GW := gw_m (tb_6 (List.mem_of_getElem? (i := 213) rfl)) rfl
set_option maxRecDepth 100000 in
theorem tw_1414 : Cond.code ({ cls := "RenamedCellsModel", name := "isDigit", desc := "(I)Z" } : Jvm.MethodName) prog_11_method_14_code (1 : Nat) (Option.some Jvm.ClassFile.FieldType.boolean) ∈ GW := gw_m (tb_6 (List.mem_of_getElem? (i := 214) rfl)) rfl
set_option maxRecDepth 100000 in
theorem tw_1415 : Cond.methodLink "RenamedCellsModel" (263 : Nat) ({ cls := "RenamedCellsModel", name := "readAll", desc := "()V" } : Jvm.MethodName) ∈ GW := gw_m (tb_6 (List.mem_of_getElem? (i := 215) rfl)) rfl
set_option maxRecDepth 100000 in
theorem tw_1417 : Cond.instanceMethod ({ cls := "RenamedCellsModel", name := "readAll", desc := "()V" } : Jvm.MethodName) ∈ GW := gw_m (tb_6 (List.mem_of_getElem? (i := 217) rfl)) rfl
set_option maxRecDepth 100000 in
theorem tw_1418 : Cond.code ({ cls := "RenamedCellsModel", name := "readAll", desc := "()V" } : Jvm.MethodName) prog_11_method_26_code (2 : Nat) (Option.none : Option Jvm.ClassFile.FieldType) ∈ GW := gw_m (tb_6 (List.mem_of_getElem? (i := 218) rfl)) rfl
set_option maxRecDepth 100000 in
theorem tw_1419 : Cond.methodLink "RenamedCellsModel" (139 : Nat) ({ cls := "RenamedCellsModel", name := "readLine", desc := "()V" } : Jvm.MethodName) ∈ GW := gw_m (tb_6 (List.mem_of_getElem? (i := 219) rfl)) rfl
set_option maxRecDepth 100000 in
theorem tw_1421 : Cond.instanceMethod ({ cls := "RenamedCellsModel", name := "readLine", desc := "()V" } : Jvm.MethodName) ∈ GW := gw_m (tb_6 (List.mem_of_getElem? (i := 221) rfl)) rfl
set_option maxRecDepth 100000 in
theorem tw_1422 : Cond.code ({ cls := "RenamedCellsModel", name := "readLine", desc := "()V" } : Jvm.MethodName) prog_11_method_28_code (1 : Nat) (Option.none : Option Jvm.ClassFile.FieldType) ∈ GW := gw_m (tb_6 (List.mem_of_getElem? (i := 222) rfl)) rfl
set_option maxRecDepth 100000 in
theorem tw_1424 : Cond.methodLink "RenamedCellsModel" (107 : Nat) ({ cls := "RenamedCellsModel", name := "isWord", desc := "(Ljava/lang/String;)Z" } : Jvm.MethodName) ∈ GW := gw_m (tb_6 (List.mem_of_getElem? (i := 224) rfl)) rfl
set_option maxRecDepth 100000 in
theorem tw_1426 : Cond.instanceMethod ({ cls := "RenamedCellsModel", name := "isWord", desc := "(Ljava/lang/String;)Z" } : Jvm.MethodName) ∈ GW := gw_m (tb_6 (List.mem_of_getElem? (i := 226) rfl)) rfl
set_option maxRecDepth 100000 in
theorem tw_1427 : Cond.code ({ cls := "RenamedCellsModel", name := "isWord", desc := "(Ljava/lang/String;)Z" } : Jvm.MethodName) prog_11_method_18_code (2 : Nat) (Option.some Jvm.ClassFile.FieldType.boolean) ∈ GW := gw_m (tb_6 (List.mem_of_getElem? (i := 227) rfl)) rfl
set_option maxRecDepth 100000 in
theorem tw_1428 : Cond.methodLink "RenamedCellsModel" (100 : Nat) ({ cls := "RenamedCellsModel", name := "packed", desc := "(Ljava/lang/String;)J" } : Jvm.MethodName) ∈ GW := gw_m (tb_6 (List.mem_of_getElem? (i := 228) rfl)) rfl
set_option maxRecDepth 100000 in
theorem tw_1429 : Cond.static ({ cls := "RenamedCellsModel", name := "packed", desc := "(Ljava/lang/String;)J" } : Jvm.MethodName) ∈ GW := gw_m (tb_6 (List.mem_of_getElem? (i := 229) rfl)) rfl
set_option maxRecDepth 100000 in
theorem tw_1430 : Cond.code ({ cls := "RenamedCellsModel", name := "packed", desc := "(Ljava/lang/String;)J" } : Jvm.MethodName) prog_11_method_15_code (4 : Nat) (Option.some Jvm.ClassFile.FieldType.long) ∈ GW := gw_m (tb_6 (List.mem_of_getElem? (i := 230) rfl)) rfl
set_option maxRecDepth 100000 in
theorem tw_1431 : Cond.methodLink "RenamedCellsModel" (56 : Nat) ({ cls := "java/lang/String", name := "length", desc := "()I" } : Jvm.MethodName) ∈ GW := gw_m (tb_6 (List.mem_of_getElem? (i := 231) rfl)) rfl
set_option maxRecDepth 100000 in
theorem tw_1432 : Cond.methodLink "RenamedCellsModel" (64 : Nat) ({ cls := "java/lang/String", name := "charAt", desc := "(I)C" } : Jvm.MethodName) ∈ GW := gw_m (tb_6 (List.mem_of_getElem? (i := 232) rfl)) rfl
set_option maxRecDepth 100000 in
theorem tw_1433 : Cond.methodLink "RenamedCellsModel" (163 : Nat) ({ cls := "RenamedCellsModel", name := "readCore", desc := "()V" } : Jvm.MethodName) ∈ GW := gw_m (tb_6 (List.mem_of_getElem? (i := 233) rfl)) rfl
set_option maxRecDepth 100000 in
theorem tw_1435 : Cond.instanceMethod ({ cls := "RenamedCellsModel", name := "readCore", desc := "()V" } : Jvm.MethodName) ∈ GW := gw_m (tb_6 (List.mem_of_getElem? (i := 235) rfl)) rfl
set_option maxRecDepth 100000 in
theorem tw_1436 : Cond.code ({ cls := "RenamedCellsModel", name := "readCore", desc := "()V" } : Jvm.MethodName) prog_11_method_29_code (6 : Nat) (Option.none : Option Jvm.ClassFile.FieldType) ∈ GW := gw_m (tb_6 (List.mem_of_getElem? (i := 236) rfl)) rfl
set_option maxRecDepth 100000 in
theorem tw_1437 : Cond.methodLink "RenamedCellsModel" (111 : Nat) ({ cls := "RenamedCellsModel", name := "flaw", desc := "(I)V" } : Jvm.MethodName) ∈ GW := gw_m (tb_6 (List.mem_of_getElem? (i := 237) rfl)) rfl
set_option maxRecDepth 100000 in
theorem tw_1439 : Cond.instanceMethod ({ cls := "RenamedCellsModel", name := "flaw", desc := "(I)V" } : Jvm.MethodName) ∈ GW := gw_m (tb_6 (List.mem_of_getElem? (i := 239) rfl)) rfl
set_option maxRecDepth 100000 in
theorem tw_1440 : Cond.code ({ cls := "RenamedCellsModel", name := "flaw", desc := "(I)V" } : Jvm.MethodName) prog_11_method_17_code (2 : Nat) (Option.none : Option Jvm.ClassFile.FieldType) ∈ GW := gw_m (tb_7 (List.mem_of_getElem? (i := 0) rfl)) rfl
set_option maxRecDepth 100000 in
theorem tw_1442 : Cond.methodLink "RenamedCellsModel" (183 : Nat) ({ cls := "RenamedCellsModel", name := "readPart", desc := "(Ljava/lang/String;II)I" } : Jvm.MethodName) ∈ GW := gw_m (tb_7 (List.mem_of_getElem? (i := 2) rfl)) rfl
set_option maxRecDepth 100000 in
theorem tw_1444 : Cond.instanceMethod ({ cls := "RenamedCellsModel", name := "readPart", desc := "(Ljava/lang/String;II)I" } : Jvm.MethodName) ∈ GW := gw_m (tb_7 (List.mem_of_getElem? (i := 4) rfl)) rfl
set_option maxRecDepth 100000 in
theorem tw_1445 : Cond.code ({ cls := "RenamedCellsModel", name := "readPart", desc := "(Ljava/lang/String;II)I" } : Jvm.MethodName) prog_11_method_23_code (4 : Nat) (Option.some Jvm.ClassFile.FieldType.int) ∈ GW := gw_m (tb_7 (List.mem_of_getElem? (i := 5) rfl)) rfl
set_option maxRecDepth 100000 in
theorem tw_1446 : Cond.methodLink "RenamedCellsModel" (123 : Nat) ({ cls := "RenamedCellsModel", name := "needs", desc := "(Ljava/lang/String;)V" } : Jvm.MethodName) ∈ GW := gw_m (tb_7 (List.mem_of_getElem? (i := 6) rfl)) rfl
set_option maxRecDepth 100000 in
theorem tw_1448 : Cond.instanceMethod ({ cls := "RenamedCellsModel", name := "needs", desc := "(Ljava/lang/String;)V" } : Jvm.MethodName) ∈ GW := gw_m (tb_7 (List.mem_of_getElem? (i := 8) rfl)) rfl
set_option maxRecDepth 100000 in
theorem tw_1449 : Cond.code ({ cls := "RenamedCellsModel", name := "needs", desc := "(Ljava/lang/String;)V" } : Jvm.MethodName) prog_11_method_20_code (2 : Nat) (Option.none : Option Jvm.ClassFile.FieldType) ∈ GW := gw_m (tb_7 (List.mem_of_getElem? (i := 9) rfl)) rfl
set_option maxRecDepth 100000 in
theorem tw_1450 : Cond.methodLink "RenamedCellsModel" (127 : Nat) ({ cls := "RenamedCellsModel", name := "readWhole", desc := "(II)I" } : Jvm.MethodName) ∈ GW := gw_m (tb_7 (List.mem_of_getElem? (i := 10) rfl)) rfl
set_option maxRecDepth 100000 in
theorem tw_1452 : Cond.instanceMethod ({ cls := "RenamedCellsModel", name := "readWhole", desc := "(II)I" } : Jvm.MethodName) ∈ GW := gw_m (tb_7 (List.mem_of_getElem? (i := 12) rfl)) rfl
set_option maxRecDepth 100000 in
theorem tw_1453 : Cond.code ({ cls := "RenamedCellsModel", name := "readWhole", desc := "(II)I" } : Jvm.MethodName) prog_11_method_22_code (4 : Nat) (Option.some Jvm.ClassFile.FieldType.int) ∈ GW := gw_m (tb_7 (List.mem_of_getElem? (i := 13) rfl)) rfl
set_option maxRecDepth 100000 in
theorem tw_1454 : Cond.methodLink "RenamedCellsModel" (119 : Nat) ({ cls := "RenamedCellsModel", name := "wholeAt", desc := "(II)I" } : Jvm.MethodName) ∈ GW := gw_m (tb_7 (List.mem_of_getElem? (i := 14) rfl)) rfl
set_option maxRecDepth 100000 in
theorem tw_1456 : Cond.instanceMethod ({ cls := "RenamedCellsModel", name := "wholeAt", desc := "(II)I" } : Jvm.MethodName) ∈ GW := gw_m (tb_7 (List.mem_of_getElem? (i := 16) rfl)) rfl
set_option maxRecDepth 100000 in
theorem tw_1457 : Cond.code ({ cls := "RenamedCellsModel", name := "wholeAt", desc := "(II)I" } : Jvm.MethodName) prog_11_method_21_code (3 : Nat) (Option.some Jvm.ClassFile.FieldType.int) ∈ GW := gw_m (tb_7 (List.mem_of_getElem? (i := 17) rfl)) rfl
set_option maxRecDepth 100000 in
theorem tw_1458 : Cond.methodLink "RenamedCellsModel" (115 : Nat) ({ cls := "RenamedCellsModel", name := "in", desc := "(III)Z" } : Jvm.MethodName) ∈ GW := gw_m (tb_7 (List.mem_of_getElem? (i := 18) rfl)) rfl
set_option maxRecDepth 100000 in
theorem tw_1459 : Cond.static ({ cls := "RenamedCellsModel", name := "in", desc := "(III)Z" } : Jvm.MethodName) ∈ GW := gw_m (tb_7 (List.mem_of_getElem? (i := 19) rfl)) rfl
set_option maxRecDepth 100000 in
theorem tw_1460 : Cond.code ({ cls := "RenamedCellsModel", name := "in", desc := "(III)Z" } : Jvm.MethodName) prog_11_method_7_code (3 : Nat) (Option.some Jvm.ClassFile.FieldType.boolean) ∈ GW := gw_m (tb_7 (List.mem_of_getElem? (i := 20) rfl)) rfl
set_option maxRecDepth 100000 in
theorem tw_1466 : Cond.methodLink "RenamedCellsModel" (166 : Nat) ({ cls := "RenamedCellsModel", name := "kindAtHand", desc := "()I" } : Jvm.MethodName) ∈ GW := gw_m (tb_7 (List.mem_of_getElem? (i := 26) rfl)) rfl
set_option maxRecDepth 100000 in
theorem tw_1468 : Cond.instanceMethod ({ cls := "RenamedCellsModel", name := "kindAtHand", desc := "()I" } : Jvm.MethodName) ∈ GW := gw_m (tb_7 (List.mem_of_getElem? (i := 28) rfl)) rfl
set_option maxRecDepth 100000 in
theorem tw_1469 : Cond.code ({ cls := "RenamedCellsModel", name := "kindAtHand", desc := "()I" } : Jvm.MethodName) prog_11_method_27_code (1 : Nat) (Option.some Jvm.ClassFile.FieldType.int) ∈ GW := gw_m (tb_7 (List.mem_of_getElem? (i := 29) rfl)) rfl
set_option maxRecDepth 100000 in
theorem tw_1476 : Cond.methodLink "RenamedCellsModel" (169 : Nat) ({ cls := "RenamedCellsModel", name := "readStep", desc := "(I)V" } : Jvm.MethodName) ∈ GW := gw_m (tb_7 (List.mem_of_getElem? (i := 36) rfl)) rfl
set_option maxRecDepth 100000 in
theorem tw_1478 : Cond.instanceMethod ({ cls := "RenamedCellsModel", name := "readStep", desc := "(I)V" } : Jvm.MethodName) ∈ GW := gw_m (tb_7 (List.mem_of_getElem? (i := 38) rfl)) rfl
set_option maxRecDepth 100000 in
theorem tw_1479 : Cond.code ({ cls := "RenamedCellsModel", name := "readStep", desc := "(I)V" } : Jvm.MethodName) prog_11_method_30_code (8 : Nat) (Option.none : Option Jvm.ClassFile.FieldType) ∈ GW := gw_m (tb_7 (List.mem_of_getElem? (i := 39) rfl)) rfl
set_option maxRecDepth 100000 in
theorem tw_1480 : Cond.methodLink "RenamedCellsModel" (206 : Nat) ({ cls := "RenamedCellsModel", name := "lineBegins", desc := "(II)V" } : Jvm.MethodName) ∈ GW := gw_m (tb_7 (List.mem_of_getElem? (i := 40) rfl)) rfl
set_option maxRecDepth 100000 in
theorem tw_1482 : Cond.instanceMethod ({ cls := "RenamedCellsModel", name := "lineBegins", desc := "(II)V" } : Jvm.MethodName) ∈ GW := gw_m (tb_7 (List.mem_of_getElem? (i := 42) rfl)) rfl
set_option maxRecDepth 100000 in
theorem tw_1483 : Cond.code ({ cls := "RenamedCellsModel", name := "lineBegins", desc := "(II)V" } : Jvm.MethodName) prog_11_method_25_code (3 : Nat) (Option.none : Option Jvm.ClassFile.FieldType) ∈ GW := gw_m (tb_7 (List.mem_of_getElem? (i := 43) rfl)) rfl
set_option maxRecDepth 100000 in
theorem tw_1484 : Cond.methodLink "RenamedCellsModel" (210 : Nat) ({ cls := "RenamedCellsModel", name := "readRegister", desc := "()I" } : Jvm.MethodName) ∈ GW := gw_m (tb_7 (List.mem_of_getElem? (i := 44) rfl)) rfl
set_option maxRecDepth 100000 in
theorem tw_1486 : Cond.instanceMethod ({ cls := "RenamedCellsModel", name := "readRegister", desc := "()I" } : Jvm.MethodName) ∈ GW := gw_m (tb_7 (List.mem_of_getElem? (i := 46) rfl)) rfl
set_option maxRecDepth 100000 in
theorem tw_1487 : Cond.code ({ cls := "RenamedCellsModel", name := "readRegister", desc := "()I" } : Jvm.MethodName) prog_11_method_24_code (1 : Nat) (Option.some Jvm.ClassFile.FieldType.int) ∈ GW := gw_m (tb_7 (List.mem_of_getElem? (i := 47) rfl)) rfl
set_option maxRecDepth 100000 in
theorem tw_1491 : Cond.methodLink "RenamedCellsModel" (174 : Nat) ({ cls := "RenamedCellsModel", name := "readUnsure", desc := "()V" } : Jvm.MethodName) ∈ GW := gw_m (tb_7 (List.mem_of_getElem? (i := 51) rfl)) rfl
set_option maxRecDepth 100000 in
theorem tw_1493 : Cond.instanceMethod ({ cls := "RenamedCellsModel", name := "readUnsure", desc := "()V" } : Jvm.MethodName) ∈ GW := gw_m (tb_7 (List.mem_of_getElem? (i := 53) rfl)) rfl
set_option maxRecDepth 100000 in
theorem tw_1494 : Cond.code ({ cls := "RenamedCellsModel", name := "readUnsure", desc := "()V" } : Jvm.MethodName) prog_11_method_31_code (3 : Nat) (Option.none : Option Jvm.ClassFile.FieldType) ∈ GW := gw_m (tb_7 (List.mem_of_getElem? (i := 54) rfl)) rfl
set_option maxRecDepth 100000 in
theorem tw_1495 : Cond.methodLink "RenamedCellsModel" (237 : Nat) ({ cls := "RenamedCellsModel$Core", name := "isStep", desc := "(I)Z" } : Jvm.MethodName) ∈ GW := gw_m (tb_7 (List.mem_of_getElem? (i := 55) rfl)) rfl
set_option maxRecDepth 100000 in
theorem tw_1496 : Cond.instanceMethod ({ cls := "RenamedCellsModel$Core", name := "isStep", desc := "(I)Z" } : Jvm.MethodName) ∈ GW := gw_m (tb_7 (List.mem_of_getElem? (i := 56) rfl)) rfl
set_option maxRecDepth 100000 in
theorem tw_1497 : Cond.selects "RenamedCellsModel$Core" ({ cls := "RenamedCellsModel$Core", name := "isStep", desc := "(I)Z" } : Jvm.MethodName) ({ cls := "RenamedCellsModel$Core", name := "isStep", desc := "(I)Z" } : Jvm.MethodName) ∈ GW := gw_m (tb_7 (List.mem_of_getElem? (i := 57) rfl)) rfl
set_option maxRecDepth 100000 in
theorem tw_1498 : Cond.code ({ cls := "RenamedCellsModel$Core", name := "isStep", desc := "(I)Z" } : Jvm.MethodName) prog_12_method_2_code (2 : Nat) (Option.some Jvm.ClassFile.FieldType.boolean) ∈ GW := gw_m (tb_7 (List.mem_of_getElem? (i := 58) rfl)) rfl
set_option maxRecDepth 100000 in
theorem tw_1499 : Cond.methodLink "RenamedCellsModel" (240 : Nat) ({ cls := "RenamedCellsModel$Core", name := "unsureOf", desc := "(I)I" } : Jvm.MethodName) ∈ GW := gw_m (tb_7 (List.mem_of_getElem? (i := 59) rfl)) rfl
set_option maxRecDepth 100000 in
theorem tw_1500 : Cond.instanceMethod ({ cls := "RenamedCellsModel$Core", name := "unsureOf", desc := "(I)I" } : Jvm.MethodName) ∈ GW := gw_m (tb_7 (List.mem_of_getElem? (i := 60) rfl)) rfl
set_option maxRecDepth 100000 in
theorem tw_1501 : Cond.selects "RenamedCellsModel$Core" ({ cls := "RenamedCellsModel$Core", name := "unsureOf", desc := "(I)I" } : Jvm.MethodName) ({ cls := "RenamedCellsModel$Core", name := "unsureOf", desc := "(I)I" } : Jvm.MethodName) ∈ GW := gw_m (tb_7 (List.mem_of_getElem? (i := 61) rfl)) rfl
set_option maxRecDepth 100000 in
theorem tw_1502 : Cond.code ({ cls := "RenamedCellsModel$Core", name := "unsureOf", desc := "(I)I" } : Jvm.MethodName) prog_12_method_3_code (3 : Nat) (Option.some Jvm.ClassFile.FieldType.int) ∈ GW := gw_m (tb_7 (List.mem_of_getElem? (i := 62) rfl)) rfl
set_option maxRecDepth 100000 in
theorem tw_1504 : Cond.methodLink "RenamedCellsModel" (179 : Nat) ({ cls := "RenamedCellsModel", name := "readGot", desc := "()V" } : Jvm.MethodName) ∈ GW := gw_m (tb_7 (List.mem_of_getElem? (i := 64) rfl)) rfl
set_option maxRecDepth 100000 in
theorem tw_1506 : Cond.instanceMethod ({ cls := "RenamedCellsModel", name := "readGot", desc := "()V" } : Jvm.MethodName) ∈ GW := gw_m (tb_7 (List.mem_of_getElem? (i := 66) rfl)) rfl
set_option maxRecDepth 100000 in
theorem tw_1507 : Cond.code ({ cls := "RenamedCellsModel", name := "readGot", desc := "()V" } : Jvm.MethodName) prog_11_method_32_code (3 : Nat) (Option.none : Option Jvm.ClassFile.FieldType) ∈ GW := gw_m (tb_7 (List.mem_of_getElem? (i := 67) rfl)) rfl
set_option maxRecDepth 100000 in
theorem tw_1508 : Cond.methodLink "RenamedCellsModel" (251 : Nat) ({ cls := "RenamedCellsModel$Core", name := "isGot", desc := "(I)Z" } : Jvm.MethodName) ∈ GW := gw_m (tb_7 (List.mem_of_getElem? (i := 68) rfl)) rfl
set_option maxRecDepth 100000 in
theorem tw_1509 : Cond.instanceMethod ({ cls := "RenamedCellsModel$Core", name := "isGot", desc := "(I)Z" } : Jvm.MethodName) ∈ GW := gw_m (tb_7 (List.mem_of_getElem? (i := 69) rfl)) rfl
set_option maxRecDepth 100000 in
theorem tw_1510 : Cond.selects "RenamedCellsModel$Core" ({ cls := "RenamedCellsModel$Core", name := "isGot", desc := "(I)Z" } : Jvm.MethodName) ({ cls := "RenamedCellsModel$Core", name := "isGot", desc := "(I)Z" } : Jvm.MethodName) ∈ GW := gw_m (tb_7 (List.mem_of_getElem? (i := 70) rfl)) rfl
set_option maxRecDepth 100000 in
theorem tw_1511 : Cond.code ({ cls := "RenamedCellsModel$Core", name := "isGot", desc := "(I)Z" } : Jvm.MethodName) prog_12_method_4_code (3 : Nat) (Option.some Jvm.ClassFile.FieldType.boolean) ∈ GW := gw_m (tb_7 (List.mem_of_getElem? (i := 71) rfl)) rfl
set_option maxRecDepth 100000 in
theorem tw_1512 : Cond.methodLink "RenamedCellsModel" (142 : Nat) ({ cls := "RenamedCellsModel", name := "eatsSemicolon", desc := "()Z" } : Jvm.MethodName) ∈ GW := gw_m (tb_7 (List.mem_of_getElem? (i := 72) rfl)) rfl
set_option maxRecDepth 100000 in
theorem tw_1514 : Cond.instanceMethod ({ cls := "RenamedCellsModel", name := "eatsSemicolon", desc := "()Z" } : Jvm.MethodName) ∈ GW := gw_m (tb_7 (List.mem_of_getElem? (i := 74) rfl)) rfl
set_option maxRecDepth 100000 in
theorem tw_1515 : Cond.code ({ cls := "RenamedCellsModel", name := "eatsSemicolon", desc := "()Z" } : Jvm.MethodName) prog_11_method_19_code (2 : Nat) (Option.some Jvm.ClassFile.FieldType.boolean) ∈ GW := gw_m (tb_7 (List.mem_of_getElem? (i := 75) rfl)) rfl
set_option maxRecDepth 100000 in
theorem tw_1516 : Cond.methodLink "RenamedCellsModel" (268 : Nat) ({ cls := "RenamedCellsModel", name := "asTold", desc := "(I)V" } : Jvm.MethodName) ∈ GW := gw_m (tb_7 (List.mem_of_getElem? (i := 76) rfl)) rfl
set_option maxRecDepth 100000 in
theorem tw_1518 : Cond.instanceMethod ({ cls := "RenamedCellsModel", name := "asTold", desc := "(I)V" } : Jvm.MethodName) ∈ GW := gw_m (tb_7 (List.mem_of_getElem? (i := 78) rfl)) rfl
set_option maxRecDepth 100000 in
theorem tw_1519 : Cond.code ({ cls := "RenamedCellsModel", name := "asTold", desc := "(I)V" } : Jvm.MethodName) prog_11_method_49_code (3 : Nat) (Option.none : Option Jvm.ClassFile.FieldType) ∈ GW := gw_m (tb_7 (List.mem_of_getElem? (i := 79) rfl)) rfl
set_option maxRecDepth 100000 in
theorem tw_1520 : Cond.methodLink "RenamedCellsModel" (271 : Nat) ({ cls := "RenamedCellsModel", name := "remains", desc := "()V" } : Jvm.MethodName) ∈ GW := gw_m (tb_7 (List.mem_of_getElem? (i := 80) rfl)) rfl
set_option maxRecDepth 100000 in
theorem tw_1522 : Cond.instanceMethod ({ cls := "RenamedCellsModel", name := "remains", desc := "()V" } : Jvm.MethodName) ∈ GW := gw_m (tb_7 (List.mem_of_getElem? (i := 82) rfl)) rfl
set_option maxRecDepth 100000 in
theorem tw_1523 : Cond.code ({ cls := "RenamedCellsModel", name := "remains", desc := "()V" } : Jvm.MethodName) prog_11_method_48_code (2 : Nat) (Option.none : Option Jvm.ClassFile.FieldType) ∈ GW := gw_m (tb_7 (List.mem_of_getElem? (i := 83) rfl)) rfl
set_option maxRecDepth 100000 in
theorem tw_1524 : Cond.methodLink "RenamedCellsModel" (46 : Nat) ({ cls := "RenamedCellsModel", name := "good", desc := "(I)I" } : Jvm.MethodName) ∈ GW := gw_m (tb_7 (List.mem_of_getElem? (i := 84) rfl)) rfl
set_option maxRecDepth 100000 in
theorem tw_1526 : Cond.instanceMethod ({ cls := "RenamedCellsModel", name := "good", desc := "(I)I" } : Jvm.MethodName) ∈ GW := gw_m (tb_7 (List.mem_of_getElem? (i := 86) rfl)) rfl
set_option maxRecDepth 100000 in
theorem tw_1527 : Cond.code ({ cls := "RenamedCellsModel", name := "good", desc := "(I)I" } : Jvm.MethodName) prog_11_method_5_code (2 : Nat) (Option.some Jvm.ClassFile.FieldType.int) ∈ GW := gw_m (tb_7 (List.mem_of_getElem? (i := 87) rfl)) rfl
set_option maxRecDepth 100000 in
theorem tw_1528 : Cond.methodLink "RenamedCellsLaw" (32 : Nat) ({ cls := "RenamedCellsModel", name := "fault", desc := "()I" } : Jvm.MethodName) ∈ GW := gw_m (tb_7 (List.mem_of_getElem? (i := 88) rfl)) rfl
set_option maxRecDepth 100000 in
theorem tw_1529 : Cond.instanceMethod ({ cls := "RenamedCellsModel", name := "fault", desc := "()I" } : Jvm.MethodName) ∈ GW := gw_m (tb_7 (List.mem_of_getElem? (i := 89) rfl)) rfl
set_option maxRecDepth 100000 in
theorem tw_1530 : Cond.selects "RenamedCellsModel" ({ cls := "RenamedCellsModel", name := "fault", desc := "()I" } : Jvm.MethodName) ({ cls := "RenamedCellsModel", name := "fault", desc := "()I" } : Jvm.MethodName) ∈ GW := gw_m (tb_7 (List.mem_of_getElem? (i := 90) rfl)) rfl
set_option maxRecDepth 100000 in
theorem tw_1531 : Cond.code ({ cls := "RenamedCellsModel", name := "fault", desc := "()I" } : Jvm.MethodName) prog_11_method_35_code (1 : Nat) (Option.some Jvm.ClassFile.FieldType.int) ∈ GW := gw_m (tb_7 (List.mem_of_getElem? (i := 91) rfl)) rfl
set_option maxRecDepth 100000 in
theorem tw_1532 : Cond.methodLink "RenamedCellsLaw" (36 : Nat) ({ cls := "RenamedCellsModel", name := "where", desc := "()I" } : Jvm.MethodName) ∈ GW := gw_m (tb_7 (List.mem_of_getElem? (i := 92) rfl)) rfl
set_option maxRecDepth 100000 in
theorem tw_1533 : Cond.instanceMethod ({ cls := "RenamedCellsModel", name := "where", desc := "()I" } : Jvm.MethodName) ∈ GW := gw_m (tb_7 (List.mem_of_getElem? (i := 93) rfl)) rfl
set_option maxRecDepth 100000 in
theorem tw_1534 : Cond.selects "RenamedCellsModel" ({ cls := "RenamedCellsModel", name := "where", desc := "()I" } : Jvm.MethodName) ({ cls := "RenamedCellsModel", name := "where", desc := "()I" } : Jvm.MethodName) ∈ GW := gw_m (tb_7 (List.mem_of_getElem? (i := 94) rfl)) rfl
set_option maxRecDepth 100000 in
theorem tw_1535 : Cond.code ({ cls := "RenamedCellsModel", name := "where", desc := "()I" } : Jvm.MethodName) prog_11_method_36_code (1 : Nat) (Option.some Jvm.ClassFile.FieldType.int) ∈ GW := gw_m (tb_7 (List.mem_of_getElem? (i := 95) rfl)) rfl
set_option maxRecDepth 100000 in
theorem tw_1536 : Cond.methodLink "RenamedCellsLaw" (40 : Nat) ({ cls := "RenamedCellsModel", name := "plainSteps", desc := "()I" } : Jvm.MethodName) ∈ GW := gw_m (tb_7 (List.mem_of_getElem? (i := 96) rfl)) rfl
set_option maxRecDepth 100000 in
theorem tw_1537 : Cond.instanceMethod ({ cls := "RenamedCellsModel", name := "plainSteps", desc := "()I" } : Jvm.MethodName) ∈ GW := gw_m (tb_7 (List.mem_of_getElem? (i := 97) rfl)) rfl
set_option maxRecDepth 100000 in
theorem tw_1538 : Cond.selects "RenamedCellsModel" ({ cls := "RenamedCellsModel", name := "plainSteps", desc := "()I" } : Jvm.MethodName) ({ cls := "RenamedCellsModel", name := "plainSteps", desc := "()I" } : Jvm.MethodName) ∈ GW := gw_m (tb_7 (List.mem_of_getElem? (i := 98) rfl)) rfl
set_option maxRecDepth 100000 in
theorem tw_1539 : Cond.code ({ cls := "RenamedCellsModel", name := "plainSteps", desc := "()I" } : Jvm.MethodName) prog_11_method_41_code (1 : Nat) (Option.some Jvm.ClassFile.FieldType.int) ∈ GW := gw_m (tb_7 (List.mem_of_getElem? (i := 99) rfl)) rfl
set_option maxRecDepth 100000 in
theorem tw_1540 : Cond.methodLink "RenamedCellsModel" (309 : Nat) ({ cls := "RenamedCellsModel", name := "plainly", desc := "(II)V" } : Jvm.MethodName) ∈ GW := gw_m (tb_7 (List.mem_of_getElem? (i := 100) rfl)) rfl
set_option maxRecDepth 100000 in
theorem tw_1542 : Cond.instanceMethod ({ cls := "RenamedCellsModel", name := "plainly", desc := "(II)V" } : Jvm.MethodName) ∈ GW := gw_m (tb_7 (List.mem_of_getElem? (i := 102) rfl)) rfl
set_option maxRecDepth 100000 in
theorem tw_1543 : Cond.code ({ cls := "RenamedCellsModel", name := "plainly", desc := "(II)V" } : Jvm.MethodName) prog_11_method_39_code (6 : Nat) (Option.none : Option Jvm.ClassFile.FieldType) ∈ GW := gw_m (tb_7 (List.mem_of_getElem? (i := 103) rfl)) rfl
set_option maxRecDepth 100000 in
theorem tw_1544 : Cond.methodLink "RenamedCellsModel" (296 : Nat) ({ cls := "RenamedCellsModel$Core", name := "reads", desc := "(I)I" } : Jvm.MethodName) ∈ GW := gw_m (tb_7 (List.mem_of_getElem? (i := 104) rfl)) rfl
set_option maxRecDepth 100000 in
theorem tw_1545 : Cond.instanceMethod ({ cls := "RenamedCellsModel$Core", name := "reads", desc := "(I)I" } : Jvm.MethodName) ∈ GW := gw_m (tb_7 (List.mem_of_getElem? (i := 105) rfl)) rfl
set_option maxRecDepth 100000 in
theorem tw_1546 : Cond.selects "RenamedCellsModel$Core" ({ cls := "RenamedCellsModel$Core", name := "reads", desc := "(I)I" } : Jvm.MethodName) ({ cls := "RenamedCellsModel$Core", name := "reads", desc := "(I)I" } : Jvm.MethodName) ∈ GW := gw_m (tb_7 (List.mem_of_getElem? (i := 106) rfl)) rfl
set_option maxRecDepth 100000 in
theorem tw_1547 : Cond.code ({ cls := "RenamedCellsModel$Core", name := "reads", desc := "(I)I" } : Jvm.MethodName) prog_12_method_5_code (2 : Nat) (Option.some Jvm.ClassFile.FieldType.int) ∈ GW := gw_m (tb_7 (List.mem_of_getElem? (i := 107) rfl)) rfl
set_option maxRecDepth 100000 in
theorem tw_1548 : Cond.methodLink "RenamedCellsModel" (299 : Nat) ({ cls := "RenamedCellsModel", name := "guessed", desc := "(I)I" } : Jvm.MethodName) ∈ GW := gw_m (tb_7 (List.mem_of_getElem? (i := 108) rfl)) rfl
set_option maxRecDepth 100000 in
theorem tw_1550 : Cond.instanceMethod ({ cls := "RenamedCellsModel", name := "guessed", desc := "(I)I" } : Jvm.MethodName) ∈ GW := gw_m (tb_7 (List.mem_of_getElem? (i := 110) rfl)) rfl
set_option maxRecDepth 100000 in
theorem tw_1551 : Cond.code ({ cls := "RenamedCellsModel", name := "guessed", desc := "(I)I" } : Jvm.MethodName) prog_11_method_40_code (2 : Nat) (Option.some Jvm.ClassFile.FieldType.int) ∈ GW := gw_m (tb_7 (List.mem_of_getElem? (i := 111) rfl)) rfl
set_option maxRecDepth 100000 in
theorem tw_1552 : Cond.methodLink "RenamedCellsModel" (302 : Nat) ({ cls := "RenamedCellsModel", name := "setBy", desc := "(II)I" } : Jvm.MethodName) ∈ GW := gw_m (tb_7 (List.mem_of_getElem? (i := 112) rfl)) rfl
set_option maxRecDepth 100000 in
theorem tw_1554 : Cond.instanceMethod ({ cls := "RenamedCellsModel", name := "setBy", desc := "(II)I" } : Jvm.MethodName) ∈ GW := gw_m (tb_7 (List.mem_of_getElem? (i := 114) rfl)) rfl
set_option maxRecDepth 100000 in
theorem tw_1555 : Cond.code ({ cls := "RenamedCellsModel", name := "setBy", desc := "(II)I" } : Jvm.MethodName) prog_11_method_38_code (4 : Nat) (Option.some Jvm.ClassFile.FieldType.int) ∈ GW := gw_m (tb_7 (List.mem_of_getElem? (i := 115) rfl)) rfl
set_option maxRecDepth 100000 in
theorem tw_1556 : Cond.methodLink "RenamedCellsModel" (280 : Nat) ({ cls := "RenamedCellsModel", name := "bit", desc := "(II)Z" } : Jvm.MethodName) ∈ GW := gw_m (tb_7 (List.mem_of_getElem? (i := 116) rfl)) rfl
set_option maxRecDepth 100000 in
theorem tw_1557 : Cond.static ({ cls := "RenamedCellsModel", name := "bit", desc := "(II)Z" } : Jvm.MethodName) ∈ GW := gw_m (tb_7 (List.mem_of_getElem? (i := 117) rfl)) rfl
set_option maxRecDepth 100000 in
theorem tw_1558 : Cond.code ({ cls := "RenamedCellsModel", name := "bit", desc := "(II)Z" } : Jvm.MethodName) prog_11_method_8_code (2 : Nat) (Option.some Jvm.ClassFile.FieldType.boolean) ∈ GW := gw_m (tb_7 (List.mem_of_getElem? (i := 118) rfl)) rfl
set_option maxRecDepth 100000 in
theorem tw_1559 : Cond.methodLink "RenamedCellsModel" (305 : Nat) ({ cls := "RenamedCellsModel", name := "comes", desc := "(III)I" } : Jvm.MethodName) ∈ GW := gw_m (tb_7 (List.mem_of_getElem? (i := 119) rfl)) rfl
set_option maxRecDepth 100000 in
theorem tw_1560 : Cond.static ({ cls := "RenamedCellsModel", name := "comes", desc := "(III)I" } : Jvm.MethodName) ∈ GW := gw_m (tb_7 (List.mem_of_getElem? (i := 120) rfl)) rfl
set_option maxRecDepth 100000 in
theorem tw_1561 : Cond.code ({ cls := "RenamedCellsModel", name := "comes", desc := "(III)I" } : Jvm.MethodName) prog_11_method_37_code (4 : Nat) (Option.some Jvm.ClassFile.FieldType.int) ∈ GW := gw_m (tb_7 (List.mem_of_getElem? (i := 121) rfl)) rfl
set_option maxRecDepth 100000 in
theorem tw_1562 : Cond.methodLink "RenamedCellsLaw" (44 : Nat) ({ cls := "RenamedCellsModel", name := "plainEnd", desc := "()I" } : Jvm.MethodName) ∈ GW := gw_m (tb_7 (List.mem_of_getElem? (i := 122) rfl)) rfl
set_option maxRecDepth 100000 in
theorem tw_1563 : Cond.instanceMethod ({ cls := "RenamedCellsModel", name := "plainEnd", desc := "()I" } : Jvm.MethodName) ∈ GW := gw_m (tb_7 (List.mem_of_getElem? (i := 123) rfl)) rfl
set_option maxRecDepth 100000 in
theorem tw_1564 : Cond.selects "RenamedCellsModel" ({ cls := "RenamedCellsModel", name := "plainEnd", desc := "()I" } : Jvm.MethodName) ({ cls := "RenamedCellsModel", name := "plainEnd", desc := "()I" } : Jvm.MethodName) ∈ GW := gw_m (tb_7 (List.mem_of_getElem? (i := 124) rfl)) rfl
set_option maxRecDepth 100000 in
theorem tw_1565 : Cond.code ({ cls := "RenamedCellsModel", name := "plainEnd", desc := "()I" } : Jvm.MethodName) prog_11_method_42_code (1 : Nat) (Option.some Jvm.ClassFile.FieldType.int) ∈ GW := gw_m (tb_7 (List.mem_of_getElem? (i := 125) rfl)) rfl
set_option maxRecDepth 100000 in
theorem tw_1566 : Cond.methodLink "RenamedCellsLaw" (49 : Nat) ({ cls := "RenamedCellsModel", name := "plainAt", desc := "(II)I" } : Jvm.MethodName) ∈ GW := gw_m (tb_7 (List.mem_of_getElem? (i := 126) rfl)) rfl
set_option maxRecDepth 100000 in
theorem tw_1567 : Cond.instanceMethod ({ cls := "RenamedCellsModel", name := "plainAt", desc := "(II)I" } : Jvm.MethodName) ∈ GW := gw_m (tb_7 (List.mem_of_getElem? (i := 127) rfl)) rfl
set_option maxRecDepth 100000 in
theorem tw_1568 : Cond.selects "RenamedCellsModel" ({ cls := "RenamedCellsModel", name := "plainAt", desc := "(II)I" } : Jvm.MethodName) ({ cls := "RenamedCellsModel", name := "plainAt", desc := "(II)I" } : Jvm.MethodName) ∈ GW := gw_m (tb_7 (List.mem_of_getElem? (i := 128) rfl)) rfl
set_option maxRecDepth 100000 in
theorem tw_1569 : Cond.code ({ cls := "RenamedCellsModel", name := "plainAt", desc := "(II)I" } : Jvm.MethodName) prog_11_method_44_code (3 : Nat) (Option.some Jvm.ClassFile.FieldType.int) ∈ GW := gw_m (tb_7 (List.mem_of_getElem? (i := 129) rfl)) rfl
set_option maxRecDepth 100000 in
theorem tw_1570 : Cond.methodLink "RenamedCellsModel" (312 : Nat) ({ cls := "RenamedCellsModel", name := "plainlyDone", desc := "(I)Z" } : Jvm.MethodName) ∈ GW := gw_m (tb_7 (List.mem_of_getElem? (i := 130) rfl)) rfl
set_option maxRecDepth 100000 in
theorem tw_1572 : Cond.instanceMethod ({ cls := "RenamedCellsModel", name := "plainlyDone", desc := "(I)Z" } : Jvm.MethodName) ∈ GW := gw_m (tb_7 (List.mem_of_getElem? (i := 132) rfl)) rfl
set_option maxRecDepth 100000 in
theorem tw_1573 : Cond.code ({ cls := "RenamedCellsModel", name := "plainlyDone", desc := "(I)Z" } : Jvm.MethodName) prog_11_method_43_code (2 : Nat) (Option.some Jvm.ClassFile.FieldType.boolean) ∈ GW := gw_m (tb_7 (List.mem_of_getElem? (i := 133) rfl)) rfl
set_option maxRecDepth 100000 in
theorem tw_1574 : Cond.methodLink "RenamedCellsLaw" (53 : Nat) ({ cls := "RenamedCellsModel", name := "plainStep", desc := "(I)I" } : Jvm.MethodName) ∈ GW := gw_m (tb_7 (List.mem_of_getElem? (i := 134) rfl)) rfl
set_option maxRecDepth 100000 in
theorem tw_1575 : Cond.instanceMethod ({ cls := "RenamedCellsModel", name := "plainStep", desc := "(I)I" } : Jvm.MethodName) ∈ GW := gw_m (tb_7 (List.mem_of_getElem? (i := 135) rfl)) rfl
set_option maxRecDepth 100000 in
theorem tw_1576 : Cond.selects "RenamedCellsModel" ({ cls := "RenamedCellsModel", name := "plainStep", desc := "(I)I" } : Jvm.MethodName) ({ cls := "RenamedCellsModel", name := "plainStep", desc := "(I)I" } : Jvm.MethodName) ∈ GW := gw_m (tb_7 (List.mem_of_getElem? (i := 136) rfl)) rfl
set_option maxRecDepth 100000 in
theorem tw_1577 : Cond.code ({ cls := "RenamedCellsModel", name := "plainStep", desc := "(I)I" } : Jvm.MethodName) prog_11_method_45_code (2 : Nat) (Option.some Jvm.ClassFile.FieldType.int) ∈ GW := gw_m (tb_7 (List.mem_of_getElem? (i := 137) rfl)) rfl
set_option maxRecDepth 100000 in
theorem tw_1578 : Cond.methodLink "RenamedCellsLaw" (57 : Nat) ({ cls := "RenamedCellsModel", name := "plainMisses", desc := "()I" } : Jvm.MethodName) ∈ GW := gw_m (tb_7 (List.mem_of_getElem? (i := 138) rfl)) rfl
set_option maxRecDepth 100000 in
theorem tw_1579 : Cond.instanceMethod ({ cls := "RenamedCellsModel", name := "plainMisses", desc := "()I" } : Jvm.MethodName) ∈ GW := gw_m (tb_7 (List.mem_of_getElem? (i := 139) rfl)) rfl
set_option maxRecDepth 100000 in
theorem tw_1580 : Cond.selects "RenamedCellsModel" ({ cls := "RenamedCellsModel", name := "plainMisses", desc := "()I" } : Jvm.MethodName) ({ cls := "RenamedCellsModel", name := "plainMisses", desc := "()I" } : Jvm.MethodName) ∈ GW := gw_m (tb_7 (List.mem_of_getElem? (i := 140) rfl)) rfl
set_option maxRecDepth 100000 in
theorem tw_1581 : Cond.code ({ cls := "RenamedCellsModel", name := "plainMisses", desc := "()I" } : Jvm.MethodName) prog_11_method_46_code (1 : Nat) (Option.some Jvm.ClassFile.FieldType.int) ∈ GW := gw_m (tb_7 (List.mem_of_getElem? (i := 141) rfl)) rfl
set_option maxRecDepth 100000 in
theorem tw_1582 : Cond.methodLink "RenamedCellsLaw" (61 : Nat) ({ cls := "RenamedCellsModel", name := "value", desc := "(I)I" } : Jvm.MethodName) ∈ GW := gw_m (tb_7 (List.mem_of_getElem? (i := 142) rfl)) rfl
set_option maxRecDepth 100000 in
theorem tw_1583 : Cond.instanceMethod ({ cls := "RenamedCellsModel", name := "value", desc := "(I)I" } : Jvm.MethodName) ∈ GW := gw_m (tb_7 (List.mem_of_getElem? (i := 143) rfl)) rfl
set_option maxRecDepth 100000 in
theorem tw_1584 : Cond.selects "RenamedCellsModel" ({ cls := "RenamedCellsModel", name := "value", desc := "(I)I" } : Jvm.MethodName) ({ cls := "RenamedCellsModel", name := "value", desc := "(I)I" } : Jvm.MethodName) ∈ GW := gw_m (tb_7 (List.mem_of_getElem? (i := 144) rfl)) rfl
set_option maxRecDepth 100000 in
theorem tw_1585 : Cond.code ({ cls := "RenamedCellsModel", name := "value", desc := "(I)I" } : Jvm.MethodName) prog_11_method_75_code (2 : Nat) (Option.some Jvm.ClassFile.FieldType.int) ∈ GW := gw_m (tb_7 (List.mem_of_getElem? (i := 145) rfl)) rfl
set_option maxRecDepth 100000 in
theorem tw_1586 : Cond.methodLink "RenamedCellsModel" (363 : Nat) ({ cls := "RenamedCellsModel", name := "isRegister", desc := "(I)Z" } : Jvm.MethodName) ∈ GW := gw_m (tb_7 (List.mem_of_getElem? (i := 146) rfl)) rfl
set_option maxRecDepth 100000 in
theorem tw_1588 : Cond.instanceMethod ({ cls := "RenamedCellsModel", name := "isRegister", desc := "(I)Z" } : Jvm.MethodName) ∈ GW := gw_m (tb_7 (List.mem_of_getElem? (i := 148) rfl)) rfl
set_option maxRecDepth 100000 in
theorem tw_1589 : Cond.code ({ cls := "RenamedCellsModel", name := "isRegister", desc := "(I)Z" } : Jvm.MethodName) prog_11_method_71_code (2 : Nat) (Option.some Jvm.ClassFile.FieldType.boolean) ∈ GW := gw_m (tb_7 (List.mem_of_getElem? (i := 149) rfl)) rfl
set_option maxRecDepth 100000 in
theorem tw_1590 : Cond.methodLink "RenamedCellsModel" (366 : Nat) ({ cls := "RenamedCellsModel", name := "works", desc := "()V" } : Jvm.MethodName) ∈ GW := gw_m (tb_7 (List.mem_of_getElem? (i := 150) rfl)) rfl
set_option maxRecDepth 100000 in
theorem tw_1592 : Cond.instanceMethod ({ cls := "RenamedCellsModel", name := "works", desc := "()V" } : Jvm.MethodName) ∈ GW := gw_m (tb_7 (List.mem_of_getElem? (i := 152) rfl)) rfl
set_option maxRecDepth 100000 in
theorem tw_1593 : Cond.code ({ cls := "RenamedCellsModel", name := "works", desc := "()V" } : Jvm.MethodName) prog_11_method_47_code (2 : Nat) (Option.none : Option Jvm.ClassFile.FieldType) ∈ GW := gw_m (tb_7 (List.mem_of_getElem? (i := 153) rfl)) rfl
set_option maxRecDepth 100000 in
theorem tw_1594 : Cond.methodLink "RenamedCellsModel" (369 : Nat) ({ cls := "RenamedCellsModel", name := "valueOf", desc := "(I)I" } : Jvm.MethodName) ∈ GW := gw_m (tb_7 (List.mem_of_getElem? (i := 154) rfl)) rfl
set_option maxRecDepth 100000 in
theorem tw_1596 : Cond.instanceMethod ({ cls := "RenamedCellsModel", name := "valueOf", desc := "(I)I" } : Jvm.MethodName) ∈ GW := gw_m (tb_7 (List.mem_of_getElem? (i := 156) rfl)) rfl
set_option maxRecDepth 100000 in
theorem tw_1597 : Cond.code ({ cls := "RenamedCellsModel", name := "valueOf", desc := "(I)I" } : Jvm.MethodName) prog_11_method_74_code (2 : Nat) (Option.some Jvm.ClassFile.FieldType.int) ∈ GW := gw_m (tb_7 (List.mem_of_getElem? (i := 157) rfl)) rfl
set_option maxRecDepth 100000 in
theorem tw_1598 : Cond.methodLink "RenamedCellsModel" (333 : Nat) ({ cls := "RenamedCellsModel", name := "isLetGo", desc := "(I)Z" } : Jvm.MethodName) ∈ GW := gw_m (tb_7 (List.mem_of_getElem? (i := 158) rfl)) rfl
set_option maxRecDepth 100000 in
theorem tw_1600 : Cond.instanceMethod ({ cls := "RenamedCellsModel", name := "isLetGo", desc := "(I)Z" } : Jvm.MethodName) ∈ GW := gw_m (tb_7 (List.mem_of_getElem? (i := 160) rfl)) rfl
set_option maxRecDepth 100000 in
theorem tw_1601 : Cond.code ({ cls := "RenamedCellsModel", name := "isLetGo", desc := "(I)Z" } : Jvm.MethodName) prog_11_method_58_code (4 : Nat) (Option.some Jvm.ClassFile.FieldType.boolean) ∈ GW := gw_m (tb_7 (List.mem_of_getElem? (i := 161) rfl)) rfl
set_option maxRecDepth 100000 in
theorem tw_1602 : Cond.methodLink "RenamedCellsModel" (316 : Nat) ({ cls := "RenamedCellsModel", name := "at", desc := "(I)I" } : Jvm.MethodName) ∈ GW := gw_m (tb_7 (List.mem_of_getElem? (i := 162) rfl)) rfl
set_option maxRecDepth 100000 in
theorem tw_1604 : Cond.instanceMethod ({ cls := "RenamedCellsModel", name := "at", desc := "(I)I" } : Jvm.MethodName) ∈ GW := gw_m (tb_7 (List.mem_of_getElem? (i := 164) rfl)) rfl
set_option maxRecDepth 100000 in
theorem tw_1605 : Cond.code ({ cls := "RenamedCellsModel", name := "at", desc := "(I)I" } : Jvm.MethodName) prog_11_method_50_code (2 : Nat) (Option.some Jvm.ClassFile.FieldType.int) ∈ GW := gw_m (tb_7 (List.mem_of_getElem? (i := 165) rfl)) rfl
set_option maxRecDepth 100000 in
theorem tw_1606 : Cond.methodLink "RenamedCellsModel" (322 : Nat) ({ cls := "RenamedCellsModel", name := "has", desc := "(II)Z" } : Jvm.MethodName) ∈ GW := gw_m (tb_7 (List.mem_of_getElem? (i := 166) rfl)) rfl
set_option maxRecDepth 100000 in
theorem tw_1608 : Cond.instanceMethod ({ cls := "RenamedCellsModel", name := "has", desc := "(II)Z" } : Jvm.MethodName) ∈ GW := gw_m (tb_7 (List.mem_of_getElem? (i := 168) rfl)) rfl
set_option maxRecDepth 100000 in
theorem tw_1609 : Cond.code ({ cls := "RenamedCellsModel", name := "has", desc := "(II)Z" } : Jvm.MethodName) prog_11_method_51_code (3 : Nat) (Option.some Jvm.ClassFile.FieldType.boolean) ∈ GW := gw_m (tb_7 (List.mem_of_getElem? (i := 169) rfl)) rfl
set_option maxRecDepth 100000 in
theorem tw_1610 : Cond.methodLink "RenamedCellsModel" (328 : Nat) ({ cls := "RenamedCellsModel", name := "reads", desc := "(II)Z" } : Jvm.MethodName) ∈ GW := gw_m (tb_7 (List.mem_of_getElem? (i := 170) rfl)) rfl
set_option maxRecDepth 100000 in
theorem tw_1612 : Cond.instanceMethod ({ cls := "RenamedCellsModel", name := "reads", desc := "(II)Z" } : Jvm.MethodName) ∈ GW := gw_m (tb_7 (List.mem_of_getElem? (i := 172) rfl)) rfl
set_option maxRecDepth 100000 in
theorem tw_1613 : Cond.code ({ cls := "RenamedCellsModel", name := "reads", desc := "(II)Z" } : Jvm.MethodName) prog_11_method_57_code (3 : Nat) (Option.some Jvm.ClassFile.FieldType.boolean) ∈ GW := gw_m (tb_7 (List.mem_of_getElem? (i := 173) rfl)) rfl
set_option maxRecDepth 100000 in
theorem tw_1614 : Cond.methodLink "RenamedCellsModel" (319 : Nat) ({ cls := "RenamedCellsModel", name := "registerOf", desc := "(I)I" } : Jvm.MethodName) ∈ GW := gw_m (tb_7 (List.mem_of_getElem? (i := 174) rfl)) rfl
set_option maxRecDepth 100000 in
theorem tw_1616 : Cond.instanceMethod ({ cls := "RenamedCellsModel", name := "registerOf", desc := "(I)I" } : Jvm.MethodName) ∈ GW := gw_m (tb_7 (List.mem_of_getElem? (i := 176) rfl)) rfl
set_option maxRecDepth 100000 in
theorem tw_1617 : Cond.code ({ cls := "RenamedCellsModel", name := "registerOf", desc := "(I)I" } : Jvm.MethodName) prog_11_method_53_code (2 : Nat) (Option.some Jvm.ClassFile.FieldType.int) ∈ GW := gw_m (tb_7 (List.mem_of_getElem? (i := 177) rfl)) rfl
set_option maxRecDepth 100000 in
theorem tw_1618 : Cond.methodLink "RenamedCellsModel" (330 : Nat) ({ cls := "RenamedCellsModel", name := "isSure", desc := "(I)Z" } : Jvm.MethodName) ∈ GW := gw_m (tb_7 (List.mem_of_getElem? (i := 178) rfl)) rfl
set_option maxRecDepth 100000 in
theorem tw_1620 : Cond.instanceMethod ({ cls := "RenamedCellsModel", name := "isSure", desc := "(I)Z" } : Jvm.MethodName) ∈ GW := gw_m (tb_7 (List.mem_of_getElem? (i := 180) rfl)) rfl
set_option maxRecDepth 100000 in
theorem tw_1621 : Cond.code ({ cls := "RenamedCellsModel", name := "isSure", desc := "(I)Z" } : Jvm.MethodName) prog_11_method_56_code (3 : Nat) (Option.some Jvm.ClassFile.FieldType.boolean) ∈ GW := gw_m (tb_7 (List.mem_of_getElem? (i := 181) rfl)) rfl
set_option maxRecDepth 100000 in
theorem tw_1622 : Cond.methodLink "RenamedCellsModel" (325 : Nat) ({ cls := "RenamedCellsModel", name := "kindOf", desc := "(I)I" } : Jvm.MethodName) ∈ GW := gw_m (tb_7 (List.mem_of_getElem? (i := 182) rfl)) rfl
set_option maxRecDepth 100000 in
theorem tw_1624 : Cond.instanceMethod ({ cls := "RenamedCellsModel", name := "kindOf", desc := "(I)I" } : Jvm.MethodName) ∈ GW := gw_m (tb_7 (List.mem_of_getElem? (i := 184) rfl)) rfl
set_option maxRecDepth 100000 in
theorem tw_1625 : Cond.code ({ cls := "RenamedCellsModel", name := "kindOf", desc := "(I)I" } : Jvm.MethodName) prog_11_method_52_code (2 : Nat) (Option.some Jvm.ClassFile.FieldType.int) ∈ GW := gw_m (tb_7 (List.mem_of_getElem? (i := 185) rfl)) rfl
set_option maxRecDepth 100000 in
theorem tw_1626 : Cond.methodLink "RenamedCellsLaw" (65 : Nat) ({ cls := "RenamedCellsModel", name := "kept", desc := "(I)I" } : Jvm.MethodName) ∈ GW := gw_m (tb_7 (List.mem_of_getElem? (i := 186) rfl)) rfl
set_option maxRecDepth 100000 in
theorem tw_1627 : Cond.instanceMethod ({ cls := "RenamedCellsModel", name := "kept", desc := "(I)I" } : Jvm.MethodName) ∈ GW := gw_m (tb_7 (List.mem_of_getElem? (i := 187) rfl)) rfl
set_option maxRecDepth 100000 in
theorem tw_1628 : Cond.selects "RenamedCellsModel" ({ cls := "RenamedCellsModel", name := "kept", desc := "(I)I" } : Jvm.MethodName) ({ cls := "RenamedCellsModel", name := "kept", desc := "(I)I" } : Jvm.MethodName) ∈ GW := gw_m (tb_7 (List.mem_of_getElem? (i := 188) rfl)) rfl
set_option maxRecDepth 100000 in
theorem tw_1629 : Cond.code ({ cls := "RenamedCellsModel", name := "kept", desc := "(I)I" } : Jvm.MethodName) prog_11_method_76_code (2 : Nat) (Option.some Jvm.ClassFile.FieldType.int) ∈ GW := gw_m (tb_7 (List.mem_of_getElem? (i := 189) rfl)) rfl
set_option maxRecDepth 100000 in
theorem tw_1630 : Cond.methodLink "RenamedCellsLaw" (69 : Nat) ({ cls := "RenamedCellsModel", name := "mapped", desc := "(I)I" } : Jvm.MethodName) ∈ GW := gw_m (tb_7 (List.mem_of_getElem? (i := 190) rfl)) rfl
set_option maxRecDepth 100000 in
theorem tw_1631 : Cond.instanceMethod ({ cls := "RenamedCellsModel", name := "mapped", desc := "(I)I" } : Jvm.MethodName) ∈ GW := gw_m (tb_7 (List.mem_of_getElem? (i := 191) rfl)) rfl
set_option maxRecDepth 100000 in
theorem tw_1632 : Cond.selects "RenamedCellsModel" ({ cls := "RenamedCellsModel", name := "mapped", desc := "(I)I" } : Jvm.MethodName) ({ cls := "RenamedCellsModel", name := "mapped", desc := "(I)I" } : Jvm.MethodName) ∈ GW := gw_m (tb_7 (List.mem_of_getElem? (i := 192) rfl)) rfl
set_option maxRecDepth 100000 in
theorem tw_1633 : Cond.code ({ cls := "RenamedCellsModel", name := "mapped", desc := "(I)I" } : Jvm.MethodName) prog_11_method_77_code (2 : Nat) (Option.some Jvm.ClassFile.FieldType.int) ∈ GW := gw_m (tb_7 (List.mem_of_getElem? (i := 193) rfl)) rfl
set_option maxRecDepth 100000 in
theorem tw_1634 : Cond.methodLink "RenamedCellsModel" (345 : Nat) ({ cls := "RenamedCellsModel", name := "mapOf", desc := "(II)I" } : Jvm.MethodName) ∈ GW := gw_m (tb_7 (List.mem_of_getElem? (i := 194) rfl)) rfl
set_option maxRecDepth 100000 in
theorem tw_1636 : Cond.instanceMethod ({ cls := "RenamedCellsModel", name := "mapOf", desc := "(II)I" } : Jvm.MethodName) ∈ GW := gw_m (tb_7 (List.mem_of_getElem? (i := 196) rfl)) rfl
set_option maxRecDepth 100000 in
theorem tw_1637 : Cond.code ({ cls := "RenamedCellsModel", name := "mapOf", desc := "(II)I" } : Jvm.MethodName) prog_11_method_55_code (4 : Nat) (Option.some Jvm.ClassFile.FieldType.int) ∈ GW := gw_m (tb_7 (List.mem_of_getElem? (i := 197) rfl)) rfl
set_option maxRecDepth 100000 in
theorem tw_1638 : Cond.methodLink "RenamedCellsLaw" (73 : Nat) ({ cls := "RenamedCellsModel", name := "letGo", desc := "()I" } : Jvm.MethodName) ∈ GW := gw_m (tb_7 (List.mem_of_getElem? (i := 198) rfl)) rfl
set_option maxRecDepth 100000 in
theorem tw_1639 : Cond.instanceMethod ({ cls := "RenamedCellsModel", name := "letGo", desc := "()I" } : Jvm.MethodName) ∈ GW := gw_m (tb_7 (List.mem_of_getElem? (i := 199) rfl)) rfl
set_option maxRecDepth 100000 in
theorem tw_1640 : Cond.selects "RenamedCellsModel" ({ cls := "RenamedCellsModel", name := "letGo", desc := "()I" } : Jvm.MethodName) ({ cls := "RenamedCellsModel", name := "letGo", desc := "()I" } : Jvm.MethodName) ∈ GW := gw_m (tb_7 (List.mem_of_getElem? (i := 200) rfl)) rfl
set_option maxRecDepth 100000 in
theorem tw_1641 : Cond.code ({ cls := "RenamedCellsModel", name := "letGo", desc := "()I" } : Jvm.MethodName) prog_11_method_78_code (1 : Nat) (Option.some Jvm.ClassFile.FieldType.int) ∈ GW := gw_m (tb_7 (List.mem_of_getElem? (i := 201) rfl)) rfl
set_option maxRecDepth 100000 in
theorem tw_1642 : Cond.methodLink "RenamedCellsModel" (336 : Nat) ({ cls := "RenamedCellsModel", name := "letGoNow", desc := "()I" } : Jvm.MethodName) ∈ GW := gw_m (tb_7 (List.mem_of_getElem? (i := 202) rfl)) rfl
set_option maxRecDepth 100000 in
theorem tw_1644 : Cond.instanceMethod ({ cls := "RenamedCellsModel", name := "letGoNow", desc := "()I" } : Jvm.MethodName) ∈ GW := gw_m (tb_7 (List.mem_of_getElem? (i := 204) rfl)) rfl
set_option maxRecDepth 100000 in
theorem tw_1645 : Cond.code ({ cls := "RenamedCellsModel", name := "letGoNow", desc := "()I" } : Jvm.MethodName) prog_11_method_59_code (3 : Nat) (Option.some Jvm.ClassFile.FieldType.int) ∈ GW := gw_m (tb_7 (List.mem_of_getElem? (i := 205) rfl)) rfl
set_option maxRecDepth 100000 in
theorem tw_1646 : Cond.methodLink "RenamedCellsLaw" (77 : Nat) ({ cls := "RenamedCellsModel", name := "cell", desc := "(II)I" } : Jvm.MethodName) ∈ GW := gw_m (tb_7 (List.mem_of_getElem? (i := 206) rfl)) rfl
set_option maxRecDepth 100000 in
theorem tw_1647 : Cond.instanceMethod ({ cls := "RenamedCellsModel", name := "cell", desc := "(II)I" } : Jvm.MethodName) ∈ GW := gw_m (tb_7 (List.mem_of_getElem? (i := 207) rfl)) rfl
set_option maxRecDepth 100000 in
theorem tw_1648 : Cond.selects "RenamedCellsModel" ({ cls := "RenamedCellsModel", name := "cell", desc := "(II)I" } : Jvm.MethodName) ({ cls := "RenamedCellsModel", name := "cell", desc := "(II)I" } : Jvm.MethodName) ∈ GW := gw_m (tb_7 (List.mem_of_getElem? (i := 208) rfl)) rfl
set_option maxRecDepth 100000 in
theorem tw_1649 : Cond.code ({ cls := "RenamedCellsModel", name := "cell", desc := "(II)I" } : Jvm.MethodName) prog_11_method_80_code (3 : Nat) (Option.some Jvm.ClassFile.FieldType.int) ∈ GW := gw_m (tb_7 (List.mem_of_getElem? (i := 209) rfl)) rfl
set_option maxRecDepth 100000 in
theorem tw_1650 : Cond.methodLink "RenamedCellsModel" (372 : Nat) ({ cls := "RenamedCellsModel", name := "isCell", desc := "(I)Z" } : Jvm.MethodName) ∈ GW := gw_m (tb_7 (List.mem_of_getElem? (i := 210) rfl)) rfl
set_option maxRecDepth 100000 in
theorem tw_1652 : Cond.instanceMethod ({ cls := "RenamedCellsModel", name := "isCell", desc := "(I)Z" } : Jvm.MethodName) ∈ GW := gw_m (tb_7 (List.mem_of_getElem? (i := 212) rfl)) rfl
set_option maxRecDepth 100000 in
theorem tw_1653 : Cond.code ({ cls := "RenamedCellsModel", name := "isCell", desc := "(I)Z" } : Jvm.MethodName) prog_11_method_72_code (2 : Nat) (Option.some Jvm.ClassFile.FieldType.boolean) ∈ GW := gw_m (tb_7 (List.mem_of_getElem? (i := 213) rfl)) rfl
set_option maxRecDepth 100000 in
theorem tw_1654 : Cond.methodLink "RenamedCellsModel" (357 : Nat) ({ cls := "RenamedCellsModel", name := "isReady", desc := "(I)Z" } : Jvm.MethodName) ∈ GW := gw_m (tb_7 (List.mem_of_getElem? (i := 214) rfl)) rfl
set_option maxRecDepth 100000 in
theorem tw_1656 : Cond.instanceMethod ({ cls := "RenamedCellsModel", name := "isReady", desc := "(I)Z" } : Jvm.MethodName) ∈ GW := gw_m (tb_7 (List.mem_of_getElem? (i := 216) rfl)) rfl
set_option maxRecDepth 100000 in
theorem tw_1657 : Cond.code ({ cls := "RenamedCellsModel", name := "isReady", desc := "(I)Z" } : Jvm.MethodName) prog_11_method_54_code (2 : Nat) (Option.some Jvm.ClassFile.FieldType.boolean) ∈ GW := gw_m (tb_7 (List.mem_of_getElem? (i := 217) rfl)) rfl
set_option maxRecDepth 100000 in
theorem tw_1658 : Cond.methodLink "RenamedCellsModel" (339 : Nat) ({ cls := "RenamedCellsModel", name := "holders", desc := "(II)I" } : Jvm.MethodName) ∈ GW := gw_m (tb_7 (List.mem_of_getElem? (i := 218) rfl)) rfl
set_option maxRecDepth 100000 in
theorem tw_1660 : Cond.instanceMethod ({ cls := "RenamedCellsModel", name := "holders", desc := "(II)I" } : Jvm.MethodName) ∈ GW := gw_m (tb_7 (List.mem_of_getElem? (i := 220) rfl)) rfl
set_option maxRecDepth 100000 in
theorem tw_1661 : Cond.code ({ cls := "RenamedCellsModel", name := "holders", desc := "(II)I" } : Jvm.MethodName) prog_11_method_60_code (5 : Nat) (Option.some Jvm.ClassFile.FieldType.int) ∈ GW := gw_m (tb_7 (List.mem_of_getElem? (i := 221) rfl)) rfl
set_option maxRecDepth 100000 in
theorem tw_1662 : Cond.methodLink "RenamedCellsModel" (375 : Nat) ({ cls := "RenamedCellsModel", name := "waitingFor", desc := "(I)I" } : Jvm.MethodName) ∈ GW := gw_m (tb_7 (List.mem_of_getElem? (i := 222) rfl)) rfl
set_option maxRecDepth 100000 in
theorem tw_1664 : Cond.instanceMethod ({ cls := "RenamedCellsModel", name := "waitingFor", desc := "(I)I" } : Jvm.MethodName) ∈ GW := gw_m (tb_7 (List.mem_of_getElem? (i := 224) rfl)) rfl
set_option maxRecDepth 100000 in
theorem tw_1665 : Cond.code ({ cls := "RenamedCellsModel", name := "waitingFor", desc := "(I)I" } : Jvm.MethodName) prog_11_method_79_code (4 : Nat) (Option.some Jvm.ClassFile.FieldType.int) ∈ GW := gw_m (tb_7 (List.mem_of_getElem? (i := 225) rfl)) rfl
set_option maxRecDepth 100000 in
theorem tw_1666 : Cond.methodLink "RenamedCellsLaw" (81 : Nat) ({ cls := "RenamedCellsModel", name := "free", desc := "()I" } : Jvm.MethodName) ∈ GW := gw_m (tb_7 (List.mem_of_getElem? (i := 226) rfl)) rfl
set_option maxRecDepth 100000 in
theorem tw_1667 : Cond.instanceMethod ({ cls := "RenamedCellsModel", name := "free", desc := "()I" } : Jvm.MethodName) ∈ GW := gw_m (tb_7 (List.mem_of_getElem? (i := 227) rfl)) rfl
set_option maxRecDepth 100000 in
theorem tw_1668 : Cond.selects "RenamedCellsModel" ({ cls := "RenamedCellsModel", name := "free", desc := "()I" } : Jvm.MethodName) ({ cls := "RenamedCellsModel", name := "free", desc := "()I" } : Jvm.MethodName) ∈ GW := gw_m (tb_7 (List.mem_of_getElem? (i := 228) rfl)) rfl
set_option maxRecDepth 100000 in
theorem tw_1669 : Cond.code ({ cls := "RenamedCellsModel", name := "free", desc := "()I" } : Jvm.MethodName) prog_11_method_81_code (1 : Nat) (Option.some Jvm.ClassFile.FieldType.int) ∈ GW := gw_m (tb_7 (List.mem_of_getElem? (i := 229) rfl)) rfl
set_option maxRecDepth 100000 in
theorem tw_1670 : Cond.methodLink "RenamedCellsModel" (342 : Nat) ({ cls := "RenamedCellsModel", name := "freeNow", desc := "()I" } : Jvm.MethodName) ∈ GW := gw_m (tb_7 (List.mem_of_getElem? (i := 230) rfl)) rfl
set_option maxRecDepth 100000 in
theorem tw_1672 : Cond.instanceMethod ({ cls := "RenamedCellsModel", name := "freeNow", desc := "()I" } : Jvm.MethodName) ∈ GW := gw_m (tb_7 (List.mem_of_getElem? (i := 232) rfl)) rfl
set_option maxRecDepth 100000 in
theorem tw_1673 : Cond.code ({ cls := "RenamedCellsModel", name := "freeNow", desc := "()I" } : Jvm.MethodName) prog_11_method_61_code (4 : Nat) (Option.some Jvm.ClassFile.FieldType.int) ∈ GW := gw_m (tb_7 (List.mem_of_getElem? (i := 233) rfl)) rfl
set_option maxRecDepth 100000 in
theorem tw_1674 : Cond.methodLink "RenamedCellsLaw" (85 : Nat) ({ cls := "RenamedCellsModel", name := "ready", desc := "()I" } : Jvm.MethodName) ∈ GW := gw_m (tb_7 (List.mem_of_getElem? (i := 234) rfl)) rfl
set_option maxRecDepth 100000 in
theorem tw_1675 : Cond.instanceMethod ({ cls := "RenamedCellsModel", name := "ready", desc := "()I" } : Jvm.MethodName) ∈ GW := gw_m (tb_7 (List.mem_of_getElem? (i := 235) rfl)) rfl
set_option maxRecDepth 100000 in
theorem tw_1676 : Cond.selects "RenamedCellsModel" ({ cls := "RenamedCellsModel", name := "ready", desc := "()I" } : Jvm.MethodName) ({ cls := "RenamedCellsModel", name := "ready", desc := "()I" } : Jvm.MethodName) ∈ GW := gw_m (tb_7 (List.mem_of_getElem? (i := 236) rfl)) rfl
set_option maxRecDepth 100000 in
theorem tw_1677 : Cond.code ({ cls := "RenamedCellsModel", name := "ready", desc := "()I" } : Jvm.MethodName) prog_11_method_82_code (1 : Nat) (Option.some Jvm.ClassFile.FieldType.int) ∈ GW := gw_m (tb_7 (List.mem_of_getElem? (i := 237) rfl)) rfl
set_option maxRecDepth 100000 in
theorem tw_1678 : Cond.methodLink "RenamedCellsLaw" (89 : Nat) ({ cls := "RenamedCellsModel", name := "entries", desc := "()I" } : Jvm.MethodName) ∈ GW := gw_m (tb_7 (List.mem_of_getElem? (i := 238) rfl)) rfl
set_option maxRecDepth 100000 in
theorem tw_1679 : Cond.instanceMethod ({ cls := "RenamedCellsModel", name := "entries", desc := "()I" } : Jvm.MethodName) ∈ GW := gw_m (tb_7 (List.mem_of_getElem? (i := 239) rfl)) rfl
set_option maxRecDepth 100000 in
theorem tw_1680 : Cond.selects "RenamedCellsModel" ({ cls := "RenamedCellsModel", name := "entries", desc := "()I" } : Jvm.MethodName) ({ cls := "RenamedCellsModel", name := "entries", desc := "()I" } : Jvm.MethodName) ∈ GW := gw_m (tb_8 (List.mem_of_getElem? (i := 0) rfl)) rfl
set_option maxRecDepth 100000 in
theorem tw_1681 : Cond.code ({ cls := "RenamedCellsModel", name := "entries", desc := "()I" } : Jvm.MethodName) prog_11_method_83_code (1 : Nat) (Option.some Jvm.ClassFile.FieldType.int) ∈ GW := gw_m (tb_8 (List.mem_of_getElem? (i := 1) rfl)) rfl
set_option maxRecDepth 100000 in
theorem tw_1682 : Cond.methodLink "RenamedCellsLaw" (93 : Nat) ({ cls := "RenamedCellsModel", name := "entry", desc := "(II)I" } : Jvm.MethodName) ∈ GW := gw_m (tb_8 (List.mem_of_getElem? (i := 2) rfl)) rfl
set_option maxRecDepth 100000 in
theorem tw_1683 : Cond.instanceMethod ({ cls := "RenamedCellsModel", name := "entry", desc := "(II)I" } : Jvm.MethodName) ∈ GW := gw_m (tb_8 (List.mem_of_getElem? (i := 3) rfl)) rfl
set_option maxRecDepth 100000 in
theorem tw_1684 : Cond.selects "RenamedCellsModel" ({ cls := "RenamedCellsModel", name := "entry", desc := "(II)I" } : Jvm.MethodName) ({ cls := "RenamedCellsModel", name := "entry", desc := "(II)I" } : Jvm.MethodName) ∈ GW := gw_m (tb_8 (List.mem_of_getElem? (i := 4) rfl)) rfl
set_option maxRecDepth 100000 in
theorem tw_1685 : Cond.code ({ cls := "RenamedCellsModel", name := "entry", desc := "(II)I" } : Jvm.MethodName) prog_11_method_84_code (3 : Nat) (Option.some Jvm.ClassFile.FieldType.int) ∈ GW := gw_m (tb_8 (List.mem_of_getElem? (i := 5) rfl)) rfl
set_option maxRecDepth 100000 in
theorem tw_1686 : Cond.methodLink "RenamedCellsModel" (378 : Nat) ({ cls := "RenamedCellsModel", name := "isEntry", desc := "(I)Z" } : Jvm.MethodName) ∈ GW := gw_m (tb_8 (List.mem_of_getElem? (i := 6) rfl)) rfl
set_option maxRecDepth 100000 in
theorem tw_1688 : Cond.instanceMethod ({ cls := "RenamedCellsModel", name := "isEntry", desc := "(I)Z" } : Jvm.MethodName) ∈ GW := gw_m (tb_8 (List.mem_of_getElem? (i := 8) rfl)) rfl
set_option maxRecDepth 100000 in
theorem tw_1689 : Cond.code ({ cls := "RenamedCellsModel", name := "isEntry", desc := "(I)Z" } : Jvm.MethodName) prog_11_method_73_code (2 : Nat) (Option.some Jvm.ClassFile.FieldType.boolean) ∈ GW := gw_m (tb_8 (List.mem_of_getElem? (i := 9) rfl)) rfl
set_option maxRecDepth 100000 in
theorem tw_1690 : Cond.methodLink "RenamedCellsLaw" (97 : Nat) ({ cls := "RenamedCellsModel", name := "runnable", desc := "()I" } : Jvm.MethodName) ∈ GW := gw_m (tb_8 (List.mem_of_getElem? (i := 10) rfl)) rfl
set_option maxRecDepth 100000 in
theorem tw_1691 : Cond.instanceMethod ({ cls := "RenamedCellsModel", name := "runnable", desc := "()I" } : Jvm.MethodName) ∈ GW := gw_m (tb_8 (List.mem_of_getElem? (i := 11) rfl)) rfl
set_option maxRecDepth 100000 in
theorem tw_1692 : Cond.selects "RenamedCellsModel" ({ cls := "RenamedCellsModel", name := "runnable", desc := "()I" } : Jvm.MethodName) ({ cls := "RenamedCellsModel", name := "runnable", desc := "()I" } : Jvm.MethodName) ∈ GW := gw_m (tb_8 (List.mem_of_getElem? (i := 12) rfl)) rfl
set_option maxRecDepth 100000 in
theorem tw_1693 : Cond.code ({ cls := "RenamedCellsModel", name := "runnable", desc := "()I" } : Jvm.MethodName) prog_11_method_85_code (3 : Nat) (Option.some Jvm.ClassFile.FieldType.int) ∈ GW := gw_m (tb_8 (List.mem_of_getElem? (i := 13) rfl)) rfl
set_option maxRecDepth 100000 in
theorem tw_1694 : Cond.methodLink "RenamedCellsModel" (381 : Nat) ({ cls := "RenamedCellsModel", name := "isRunnable", desc := "(I)Z" } : Jvm.MethodName) ∈ GW := gw_m (tb_8 (List.mem_of_getElem? (i := 14) rfl)) rfl
set_option maxRecDepth 100000 in
theorem tw_1696 : Cond.instanceMethod ({ cls := "RenamedCellsModel", name := "isRunnable", desc := "(I)Z" } : Jvm.MethodName) ∈ GW := gw_m (tb_8 (List.mem_of_getElem? (i := 16) rfl)) rfl
set_option maxRecDepth 100000 in
theorem tw_1697 : Cond.code ({ cls := "RenamedCellsModel", name := "isRunnable", desc := "(I)Z" } : Jvm.MethodName) prog_11_method_67_code (2 : Nat) (Option.some Jvm.ClassFile.FieldType.boolean) ∈ GW := gw_m (tb_8 (List.mem_of_getElem? (i := 17) rfl)) rfl
set_option maxRecDepth 100000 in
theorem tw_1698 : Cond.methodLink "RenamedCellsLaw" (101 : Nat) ({ cls := "RenamedCellsModel", name := "nextStep", desc := "()I" } : Jvm.MethodName) ∈ GW := gw_m (tb_8 (List.mem_of_getElem? (i := 18) rfl)) rfl
set_option maxRecDepth 100000 in
theorem tw_1699 : Cond.instanceMethod ({ cls := "RenamedCellsModel", name := "nextStep", desc := "()I" } : Jvm.MethodName) ∈ GW := gw_m (tb_8 (List.mem_of_getElem? (i := 19) rfl)) rfl
set_option maxRecDepth 100000 in
theorem tw_1700 : Cond.selects "RenamedCellsModel" ({ cls := "RenamedCellsModel", name := "nextStep", desc := "()I" } : Jvm.MethodName) ({ cls := "RenamedCellsModel", name := "nextStep", desc := "()I" } : Jvm.MethodName) ∈ GW := gw_m (tb_8 (List.mem_of_getElem? (i := 20) rfl)) rfl
set_option maxRecDepth 100000 in
theorem tw_1701 : Cond.code ({ cls := "RenamedCellsModel", name := "nextStep", desc := "()I" } : Jvm.MethodName) prog_11_method_86_code (1 : Nat) (Option.some Jvm.ClassFile.FieldType.int) ∈ GW := gw_m (tb_8 (List.mem_of_getElem? (i := 21) rfl)) rfl
set_option maxRecDepth 100000 in
theorem tw_1702 : Cond.methodLink "RenamedCellsLaw" (105 : Nat) ({ cls := "RenamedCellsModel", name := "fetchable", desc := "()I" } : Jvm.MethodName) ∈ GW := gw_m (tb_8 (List.mem_of_getElem? (i := 22) rfl)) rfl
set_option maxRecDepth 100000 in
theorem tw_1703 : Cond.instanceMethod ({ cls := "RenamedCellsModel", name := "fetchable", desc := "()I" } : Jvm.MethodName) ∈ GW := gw_m (tb_8 (List.mem_of_getElem? (i := 23) rfl)) rfl
set_option maxRecDepth 100000 in
theorem tw_1704 : Cond.selects "RenamedCellsModel" ({ cls := "RenamedCellsModel", name := "fetchable", desc := "()I" } : Jvm.MethodName) ({ cls := "RenamedCellsModel", name := "fetchable", desc := "()I" } : Jvm.MethodName) ∈ GW := gw_m (tb_8 (List.mem_of_getElem? (i := 24) rfl)) rfl
set_option maxRecDepth 100000 in
theorem tw_1705 : Cond.code ({ cls := "RenamedCellsModel", name := "fetchable", desc := "()I" } : Jvm.MethodName) prog_11_method_87_code (1 : Nat) (Option.some Jvm.ClassFile.FieldType.int) ∈ GW := gw_m (tb_8 (List.mem_of_getElem? (i := 25) rfl)) rfl
set_option maxRecDepth 100000 in
theorem tw_1706 : Cond.methodLink "RenamedCellsModel" (384 : Nat) ({ cls := "RenamedCellsModel", name := "whyNoFetch", desc := "()I" } : Jvm.MethodName) ∈ GW := gw_m (tb_8 (List.mem_of_getElem? (i := 26) rfl)) rfl
set_option maxRecDepth 100000 in
theorem tw_1708 : Cond.instanceMethod ({ cls := "RenamedCellsModel", name := "whyNoFetch", desc := "()I" } : Jvm.MethodName) ∈ GW := gw_m (tb_8 (List.mem_of_getElem? (i := 28) rfl)) rfl
set_option maxRecDepth 100000 in
theorem tw_1709 : Cond.code ({ cls := "RenamedCellsModel", name := "whyNoFetch", desc := "()I" } : Jvm.MethodName) prog_11_method_64_code (2 : Nat) (Option.some Jvm.ClassFile.FieldType.int) ∈ GW := gw_m (tb_8 (List.mem_of_getElem? (i := 29) rfl)) rfl
set_option maxRecDepth 100000 in
theorem tw_1710 : Cond.methodLink "RenamedCellsModel" (348 : Nat) ({ cls := "RenamedCellsModel", name := "isMerging", desc := "(I)Z" } : Jvm.MethodName) ∈ GW := gw_m (tb_8 (List.mem_of_getElem? (i := 30) rfl)) rfl
set_option maxRecDepth 100000 in
theorem tw_1712 : Cond.instanceMethod ({ cls := "RenamedCellsModel", name := "isMerging", desc := "(I)Z" } : Jvm.MethodName) ∈ GW := gw_m (tb_8 (List.mem_of_getElem? (i := 32) rfl)) rfl
set_option maxRecDepth 100000 in
theorem tw_1713 : Cond.code ({ cls := "RenamedCellsModel", name := "isMerging", desc := "(I)Z" } : Jvm.MethodName) prog_11_method_63_code (2 : Nat) (Option.some Jvm.ClassFile.FieldType.boolean) ∈ GW := gw_m (tb_8 (List.mem_of_getElem? (i := 33) rfl)) rfl
set_option maxRecDepth 100000 in
theorem tw_1714 : Cond.methodLink "RenamedCellsModel" (351 : Nat) ({ cls := "RenamedCellsModel", name := "lowestFree", desc := "()I" } : Jvm.MethodName) ∈ GW := gw_m (tb_8 (List.mem_of_getElem? (i := 34) rfl)) rfl
set_option maxRecDepth 100000 in
theorem tw_1716 : Cond.instanceMethod ({ cls := "RenamedCellsModel", name := "lowestFree", desc := "()I" } : Jvm.MethodName) ∈ GW := gw_m (tb_8 (List.mem_of_getElem? (i := 36) rfl)) rfl
set_option maxRecDepth 100000 in
theorem tw_1717 : Cond.code ({ cls := "RenamedCellsModel", name := "lowestFree", desc := "()I" } : Jvm.MethodName) prog_11_method_62_code (3 : Nat) (Option.some Jvm.ClassFile.FieldType.int) ∈ GW := gw_m (tb_8 (List.mem_of_getElem? (i := 37) rfl)) rfl
set_option maxRecDepth 100000 in
theorem tw_1718 : Cond.methodLink "RenamedCellsLaw" (109 : Nat) ({ cls := "RenamedCellsModel", name := "commitable", desc := "()I" } : Jvm.MethodName) ∈ GW := gw_m (tb_8 (List.mem_of_getElem? (i := 38) rfl)) rfl
set_option maxRecDepth 100000 in
theorem tw_1719 : Cond.instanceMethod ({ cls := "RenamedCellsModel", name := "commitable", desc := "()I" } : Jvm.MethodName) ∈ GW := gw_m (tb_8 (List.mem_of_getElem? (i := 39) rfl)) rfl
set_option maxRecDepth 100000 in
theorem tw_1720 : Cond.selects "RenamedCellsModel" ({ cls := "RenamedCellsModel", name := "commitable", desc := "()I" } : Jvm.MethodName) ({ cls := "RenamedCellsModel", name := "commitable", desc := "()I" } : Jvm.MethodName) ∈ GW := gw_m (tb_8 (List.mem_of_getElem? (i := 40) rfl)) rfl
set_option maxRecDepth 100000 in
theorem tw_1721 : Cond.code ({ cls := "RenamedCellsModel", name := "commitable", desc := "()I" } : Jvm.MethodName) prog_11_method_88_code (1 : Nat) (Option.some Jvm.ClassFile.FieldType.int) ∈ GW := gw_m (tb_8 (List.mem_of_getElem? (i := 41) rfl)) rfl
set_option maxRecDepth 100000 in
theorem tw_1722 : Cond.methodLink "RenamedCellsModel" (387 : Nat) ({ cls := "RenamedCellsModel", name := "whyNoCommit", desc := "()I" } : Jvm.MethodName) ∈ GW := gw_m (tb_8 (List.mem_of_getElem? (i := 42) rfl)) rfl
set_option maxRecDepth 100000 in
theorem tw_1724 : Cond.instanceMethod ({ cls := "RenamedCellsModel", name := "whyNoCommit", desc := "()I" } : Jvm.MethodName) ∈ GW := gw_m (tb_8 (List.mem_of_getElem? (i := 44) rfl)) rfl
set_option maxRecDepth 100000 in
theorem tw_1725 : Cond.code ({ cls := "RenamedCellsModel", name := "whyNoCommit", desc := "()I" } : Jvm.MethodName) prog_11_method_69_code (1 : Nat) (Option.some Jvm.ClassFile.FieldType.int) ∈ GW := gw_m (tb_8 (List.mem_of_getElem? (i := 45) rfl)) rfl
set_option maxRecDepth 100000 in
theorem tw_1726 : Cond.methodLink "RenamedCellsLaw" (113 : Nat) ({ cls := "RenamedCellsModel", name := "walked", desc := "(II)I" } : Jvm.MethodName) ∈ GW := gw_m (tb_8 (List.mem_of_getElem? (i := 46) rfl)) rfl
set_option maxRecDepth 100000 in
theorem tw_1727 : Cond.instanceMethod ({ cls := "RenamedCellsModel", name := "walked", desc := "(II)I" } : Jvm.MethodName) ∈ GW := gw_m (tb_8 (List.mem_of_getElem? (i := 47) rfl)) rfl
set_option maxRecDepth 100000 in
theorem tw_1728 : Cond.selects "RenamedCellsModel" ({ cls := "RenamedCellsModel", name := "walked", desc := "(II)I" } : Jvm.MethodName) ({ cls := "RenamedCellsModel", name := "walked", desc := "(II)I" } : Jvm.MethodName) ∈ GW := gw_m (tb_8 (List.mem_of_getElem? (i := 48) rfl)) rfl
set_option maxRecDepth 100000 in
theorem tw_1729 : Cond.code ({ cls := "RenamedCellsModel", name := "walked", desc := "(II)I" } : Jvm.MethodName) prog_11_method_89_code (3 : Nat) (Option.some Jvm.ClassFile.FieldType.int) ∈ GW := gw_m (tb_8 (List.mem_of_getElem? (i := 49) rfl)) rfl
set_option maxRecDepth 100000 in
theorem tw_1730 : Cond.methodLink "RenamedCellsLaw" (117 : Nat) ({ cls := "RenamedCellsModel", name := "saved", desc := "(II)I" } : Jvm.MethodName) ∈ GW := gw_m (tb_8 (List.mem_of_getElem? (i := 50) rfl)) rfl
set_option maxRecDepth 100000 in
theorem tw_1731 : Cond.instanceMethod ({ cls := "RenamedCellsModel", name := "saved", desc := "(II)I" } : Jvm.MethodName) ∈ GW := gw_m (tb_8 (List.mem_of_getElem? (i := 51) rfl)) rfl
set_option maxRecDepth 100000 in
theorem tw_1732 : Cond.selects "RenamedCellsModel" ({ cls := "RenamedCellsModel", name := "saved", desc := "(II)I" } : Jvm.MethodName) ({ cls := "RenamedCellsModel", name := "saved", desc := "(II)I" } : Jvm.MethodName) ∈ GW := gw_m (tb_8 (List.mem_of_getElem? (i := 52) rfl)) rfl
set_option maxRecDepth 100000 in
theorem tw_1733 : Cond.code ({ cls := "RenamedCellsModel", name := "saved", desc := "(II)I" } : Jvm.MethodName) prog_11_method_90_code (3 : Nat) (Option.some Jvm.ClassFile.FieldType.int) ∈ GW := gw_m (tb_8 (List.mem_of_getElem? (i := 53) rfl)) rfl
set_option maxRecDepth 100000 in
theorem tw_1734 : Cond.methodLink "RenamedCellsLaw" (121 : Nat) ({ cls := "RenamedCellsModel", name := "gives", desc := "(I)I" } : Jvm.MethodName) ∈ GW := gw_m (tb_8 (List.mem_of_getElem? (i := 54) rfl)) rfl
set_option maxRecDepth 100000 in
theorem tw_1735 : Cond.instanceMethod ({ cls := "RenamedCellsModel", name := "gives", desc := "(I)I" } : Jvm.MethodName) ∈ GW := gw_m (tb_8 (List.mem_of_getElem? (i := 55) rfl)) rfl
set_option maxRecDepth 100000 in
theorem tw_1736 : Cond.selects "RenamedCellsModel" ({ cls := "RenamedCellsModel", name := "gives", desc := "(I)I" } : Jvm.MethodName) ({ cls := "RenamedCellsModel", name := "gives", desc := "(I)I" } : Jvm.MethodName) ∈ GW := gw_m (tb_8 (List.mem_of_getElem? (i := 56) rfl)) rfl
set_option maxRecDepth 100000 in
theorem tw_1737 : Cond.code ({ cls := "RenamedCellsModel", name := "gives", desc := "(I)I" } : Jvm.MethodName) prog_11_method_91_code (3 : Nat) (Option.some Jvm.ClassFile.FieldType.int) ∈ GW := gw_m (tb_8 (List.mem_of_getElem? (i := 57) rfl)) rfl
set_option maxRecDepth 100000 in
theorem tw_1738 : Cond.methodLink "RenamedCellsModel" (390 : Nat) ({ cls := "RenamedCellsModel", name := "bits", desc := "(I)I" } : Jvm.MethodName) ∈ GW := gw_m (tb_8 (List.mem_of_getElem? (i := 58) rfl)) rfl
set_option maxRecDepth 100000 in
theorem tw_1739 : Cond.static ({ cls := "RenamedCellsModel", name := "bits", desc := "(I)I" } : Jvm.MethodName) ∈ GW := gw_m (tb_8 (List.mem_of_getElem? (i := 59) rfl)) rfl
set_option maxRecDepth 100000 in
theorem tw_1740 : Cond.code ({ cls := "RenamedCellsModel", name := "bits", desc := "(I)I" } : Jvm.MethodName) prog_11_method_9_code (3 : Nat) (Option.some Jvm.ClassFile.FieldType.int) ∈ GW := gw_m (tb_8 (List.mem_of_getElem? (i := 60) rfl)) rfl
set_option maxRecDepth 100000 in
theorem tw_1741 : Cond.methodLink "RenamedCellsLaw" (125 : Nat) ({ cls := "RenamedCellsModel", name := "agrees", desc := "()I" } : Jvm.MethodName) ∈ GW := gw_m (tb_8 (List.mem_of_getElem? (i := 61) rfl)) rfl
set_option maxRecDepth 100000 in
theorem tw_1742 : Cond.instanceMethod ({ cls := "RenamedCellsModel", name := "agrees", desc := "()I" } : Jvm.MethodName) ∈ GW := gw_m (tb_8 (List.mem_of_getElem? (i := 62) rfl)) rfl
set_option maxRecDepth 100000 in
theorem tw_1743 : Cond.selects "RenamedCellsModel" ({ cls := "RenamedCellsModel", name := "agrees", desc := "()I" } : Jvm.MethodName) ({ cls := "RenamedCellsModel", name := "agrees", desc := "()I" } : Jvm.MethodName) ∈ GW := gw_m (tb_8 (List.mem_of_getElem? (i := 63) rfl)) rfl
set_option maxRecDepth 100000 in
theorem tw_1744 : Cond.code ({ cls := "RenamedCellsModel", name := "agrees", desc := "()I" } : Jvm.MethodName) prog_11_method_92_code (2 : Nat) (Option.some Jvm.ClassFile.FieldType.int) ∈ GW := gw_m (tb_8 (List.mem_of_getElem? (i := 64) rfl)) rfl
set_option maxRecDepth 100000 in
theorem tw_1745 : Cond.methodLink "RenamedCellsLaw" (129 : Nat) ({ cls := "RenamedCellsModel", name := "cycles", desc := "(I)I" } : Jvm.MethodName) ∈ GW := gw_m (tb_8 (List.mem_of_getElem? (i := 65) rfl)) rfl
set_option maxRecDepth 100000 in
theorem tw_1746 : Cond.instanceMethod ({ cls := "RenamedCellsModel", name := "cycles", desc := "(I)I" } : Jvm.MethodName) ∈ GW := gw_m (tb_8 (List.mem_of_getElem? (i := 66) rfl)) rfl
set_option maxRecDepth 100000 in
theorem tw_1747 : Cond.selects "RenamedCellsModel" ({ cls := "RenamedCellsModel", name := "cycles", desc := "(I)I" } : Jvm.MethodName) ({ cls := "RenamedCellsModel", name := "cycles", desc := "(I)I" } : Jvm.MethodName) ∈ GW := gw_m (tb_8 (List.mem_of_getElem? (i := 67) rfl)) rfl
set_option maxRecDepth 100000 in
theorem tw_1748 : Cond.code ({ cls := "RenamedCellsModel", name := "cycles", desc := "(I)I" } : Jvm.MethodName) prog_11_method_96_code (3 : Nat) (Option.some Jvm.ClassFile.FieldType.int) ∈ GW := gw_m (tb_8 (List.mem_of_getElem? (i := 68) rfl)) rfl
set_option maxRecDepth 100000 in
theorem tw_1749 : Cond.methodLink "RenamedCellsModel" (414 : Nat) ({ cls := "RenamedCellsModel", name := "refusesCells", desc := "(I)I" } : Jvm.MethodName) ∈ GW := gw_m (tb_8 (List.mem_of_getElem? (i := 69) rfl)) rfl
set_option maxRecDepth 100000 in
theorem tw_1751 : Cond.instanceMethod ({ cls := "RenamedCellsModel", name := "refusesCells", desc := "(I)I" } : Jvm.MethodName) ∈ GW := gw_m (tb_8 (List.mem_of_getElem? (i := 71) rfl)) rfl
set_option maxRecDepth 100000 in
theorem tw_1752 : Cond.code ({ cls := "RenamedCellsModel", name := "refusesCells", desc := "(I)I" } : Jvm.MethodName) prog_11_method_95_code (2 : Nat) (Option.some Jvm.ClassFile.FieldType.int) ∈ GW := gw_m (tb_8 (List.mem_of_getElem? (i := 72) rfl)) rfl
set_option maxRecDepth 100000 in
theorem tw_1753 : Cond.methodLink "RenamedCellsModel" (417 : Nat) ({ cls := "RenamedCellsModel", name := "goes", desc := "(I)V" } : Jvm.MethodName) ∈ GW := gw_m (tb_8 (List.mem_of_getElem? (i := 73) rfl)) rfl
set_option maxRecDepth 100000 in
theorem tw_1755 : Cond.instanceMethod ({ cls := "RenamedCellsModel", name := "goes", desc := "(I)V" } : Jvm.MethodName) ∈ GW := gw_m (tb_8 (List.mem_of_getElem? (i := 75) rfl)) rfl
set_option maxRecDepth 100000 in
theorem tw_1756 : Cond.code ({ cls := "RenamedCellsModel", name := "goes", desc := "(I)V" } : Jvm.MethodName) prog_11_method_94_code (3 : Nat) (Option.none : Option Jvm.ClassFile.FieldType) ∈ GW := gw_m (tb_8 (List.mem_of_getElem? (i := 76) rfl)) rfl
set_option maxRecDepth 100000 in
theorem tw_1757 : Cond.methodLink "RenamedCellsModel" (411 : Nat) ({ cls := "RenamedCellsModel", name := "cycle", desc := "()V" } : Jvm.MethodName) ∈ GW := gw_m (tb_8 (List.mem_of_getElem? (i := 77) rfl)) rfl
set_option maxRecDepth 100000 in
theorem tw_1759 : Cond.instanceMethod ({ cls := "RenamedCellsModel", name := "cycle", desc := "()V" } : Jvm.MethodName) ∈ GW := gw_m (tb_8 (List.mem_of_getElem? (i := 79) rfl)) rfl
set_option maxRecDepth 100000 in
theorem tw_1760 : Cond.code ({ cls := "RenamedCellsModel", name := "cycle", desc := "()V" } : Jvm.MethodName) prog_11_method_93_code (3 : Nat) (Option.none : Option Jvm.ClassFile.FieldType) ∈ GW := gw_m (tb_8 (List.mem_of_getElem? (i := 80) rfl)) rfl
set_option maxRecDepth 100000 in
theorem tw_1761 : Cond.methodLink "RenamedCellsModel" (393 : Nat) ({ cls := "RenamedCellsModel", name := "commitsOne", desc := "()I" } : Jvm.MethodName) ∈ GW := gw_m (tb_8 (List.mem_of_getElem? (i := 81) rfl)) rfl
set_option maxRecDepth 100000 in
theorem tw_1763 : Cond.instanceMethod ({ cls := "RenamedCellsModel", name := "commitsOne", desc := "()I" } : Jvm.MethodName) ∈ GW := gw_m (tb_8 (List.mem_of_getElem? (i := 83) rfl)) rfl
set_option maxRecDepth 100000 in
theorem tw_1764 : Cond.code ({ cls := "RenamedCellsModel", name := "commitsOne", desc := "()I" } : Jvm.MethodName) prog_11_method_70_code (4 : Nat) (Option.some Jvm.ClassFile.FieldType.int) ∈ GW := gw_m (tb_8 (List.mem_of_getElem? (i := 84) rfl)) rfl
set_option maxRecDepth 100000 in
theorem tw_1765 : Cond.methodLink "RenamedCellsModel" (396 : Nat) ({ cls := "RenamedCellsModel", name := "runsOne", desc := "(I)I" } : Jvm.MethodName) ∈ GW := gw_m (tb_8 (List.mem_of_getElem? (i := 85) rfl)) rfl
set_option maxRecDepth 100000 in
theorem tw_1767 : Cond.instanceMethod ({ cls := "RenamedCellsModel", name := "runsOne", desc := "(I)I" } : Jvm.MethodName) ∈ GW := gw_m (tb_8 (List.mem_of_getElem? (i := 87) rfl)) rfl
set_option maxRecDepth 100000 in
theorem tw_1768 : Cond.code ({ cls := "RenamedCellsModel", name := "runsOne", desc := "(I)I" } : Jvm.MethodName) prog_11_method_68_code (7 : Nat) (Option.some Jvm.ClassFile.FieldType.int) ∈ GW := gw_m (tb_8 (List.mem_of_getElem? (i := 88) rfl)) rfl
set_option maxRecDepth 100000 in
theorem tw_1769 : Cond.methodLink "RenamedCellsModel" (402 : Nat) ({ cls := "RenamedCellsModel", name := "fetches", desc := "()I" } : Jvm.MethodName) ∈ GW := gw_m (tb_8 (List.mem_of_getElem? (i := 89) rfl)) rfl
set_option maxRecDepth 100000 in
theorem tw_1771 : Cond.instanceMethod ({ cls := "RenamedCellsModel", name := "fetches", desc := "()I" } : Jvm.MethodName) ∈ GW := gw_m (tb_8 (List.mem_of_getElem? (i := 91) rfl)) rfl
set_option maxRecDepth 100000 in
theorem tw_1772 : Cond.code ({ cls := "RenamedCellsModel", name := "fetches", desc := "()I" } : Jvm.MethodName) prog_11_method_66_code (9 : Nat) (Option.some Jvm.ClassFile.FieldType.int) ∈ GW := gw_m (tb_8 (List.mem_of_getElem? (i := 92) rfl)) rfl
set_option maxRecDepth 100000 in
theorem tw_1773 : Cond.methodLink "RenamedCellsModel" (354 : Nat) ({ cls := "RenamedCellsModel", name := "savesNow", desc := "()I" } : Jvm.MethodName) ∈ GW := gw_m (tb_8 (List.mem_of_getElem? (i := 93) rfl)) rfl
set_option maxRecDepth 100000 in
theorem tw_1775 : Cond.instanceMethod ({ cls := "RenamedCellsModel", name := "savesNow", desc := "()I" } : Jvm.MethodName) ∈ GW := gw_m (tb_8 (List.mem_of_getElem? (i := 95) rfl)) rfl
set_option maxRecDepth 100000 in
theorem tw_1776 : Cond.code ({ cls := "RenamedCellsModel", name := "savesNow", desc := "()I" } : Jvm.MethodName) prog_11_method_65_code (3 : Nat) (Option.some Jvm.ClassFile.FieldType.int) ∈ GW := gw_m (tb_8 (List.mem_of_getElem? (i := 96) rfl)) rfl
set_option maxRecDepth 100000 in
theorem tw_1777 : Cond.methodLink "RenamedCellsLaw" (133 : Nat) ({ cls := "RenamedCellsModel", name := "commits", desc := "(I)I" } : Jvm.MethodName) ∈ GW := gw_m (tb_8 (List.mem_of_getElem? (i := 97) rfl)) rfl
set_option maxRecDepth 100000 in
theorem tw_1778 : Cond.instanceMethod ({ cls := "RenamedCellsModel", name := "commits", desc := "(I)I" } : Jvm.MethodName) ∈ GW := gw_m (tb_8 (List.mem_of_getElem? (i := 98) rfl)) rfl
set_option maxRecDepth 100000 in
theorem tw_1779 : Cond.selects "RenamedCellsModel" ({ cls := "RenamedCellsModel", name := "commits", desc := "(I)I" } : Jvm.MethodName) ({ cls := "RenamedCellsModel", name := "commits", desc := "(I)I" } : Jvm.MethodName) ∈ GW := gw_m (tb_8 (List.mem_of_getElem? (i := 99) rfl)) rfl
set_option maxRecDepth 100000 in
theorem tw_1780 : Cond.code ({ cls := "RenamedCellsModel", name := "commits", desc := "(I)I" } : Jvm.MethodName) prog_11_method_97_code (3 : Nat) (Option.some Jvm.ClassFile.FieldType.int) ∈ GW := gw_m (tb_8 (List.mem_of_getElem? (i := 100) rfl)) rfl
set_option maxRecDepth 100000 in
theorem tw_1781 : Cond.methodLink "RenamedCellsLaw" (137 : Nat) ({ cls := "RenamedCellsModel", name := "misses", desc := "(I)I" } : Jvm.MethodName) ∈ GW := gw_m (tb_8 (List.mem_of_getElem? (i := 101) rfl)) rfl
set_option maxRecDepth 100000 in
theorem tw_1782 : Cond.instanceMethod ({ cls := "RenamedCellsModel", name := "misses", desc := "(I)I" } : Jvm.MethodName) ∈ GW := gw_m (tb_8 (List.mem_of_getElem? (i := 102) rfl)) rfl
set_option maxRecDepth 100000 in
theorem tw_1783 : Cond.selects "RenamedCellsModel" ({ cls := "RenamedCellsModel", name := "misses", desc := "(I)I" } : Jvm.MethodName) ({ cls := "RenamedCellsModel", name := "misses", desc := "(I)I" } : Jvm.MethodName) ∈ GW := gw_m (tb_8 (List.mem_of_getElem? (i := 103) rfl)) rfl
set_option maxRecDepth 100000 in
theorem tw_1784 : Cond.code ({ cls := "RenamedCellsModel", name := "misses", desc := "(I)I" } : Jvm.MethodName) prog_11_method_98_code (3 : Nat) (Option.some Jvm.ClassFile.FieldType.int) ∈ GW := gw_m (tb_8 (List.mem_of_getElem? (i := 104) rfl)) rfl
set_option maxRecDepth 100000 in
theorem tw_1785 : Cond.methodLink "RenamedCellsLaw" (141 : Nat) ({ cls := "RenamedCellsModel", name := "crowd", desc := "(I)I" } : Jvm.MethodName) ∈ GW := gw_m (tb_8 (List.mem_of_getElem? (i := 105) rfl)) rfl
set_option maxRecDepth 100000 in
theorem tw_1786 : Cond.instanceMethod ({ cls := "RenamedCellsModel", name := "crowd", desc := "(I)I" } : Jvm.MethodName) ∈ GW := gw_m (tb_8 (List.mem_of_getElem? (i := 106) rfl)) rfl
set_option maxRecDepth 100000 in
theorem tw_1787 : Cond.selects "RenamedCellsModel" ({ cls := "RenamedCellsModel", name := "crowd", desc := "(I)I" } : Jvm.MethodName) ({ cls := "RenamedCellsModel", name := "crowd", desc := "(I)I" } : Jvm.MethodName) ∈ GW := gw_m (tb_8 (List.mem_of_getElem? (i := 107) rfl)) rfl
set_option maxRecDepth 100000 in
theorem tw_1788 : Cond.code ({ cls := "RenamedCellsModel", name := "crowd", desc := "(I)I" } : Jvm.MethodName) prog_11_method_99_code (3 : Nat) (Option.some Jvm.ClassFile.FieldType.int) ∈ GW := gw_m (tb_8 (List.mem_of_getElem? (i := 108) rfl)) rfl
set_option maxRecDepth 100000 in
theorem tw_1789 : Cond.methodLink "RenamedCellsLaw" (145 : Nat) ({ cls := "RenamedCellsModel", name := "cellsFor", desc := "(I)I" } : Jvm.MethodName) ∈ GW := gw_m (tb_8 (List.mem_of_getElem? (i := 109) rfl)) rfl
set_option maxRecDepth 100000 in
theorem tw_1790 : Cond.instanceMethod ({ cls := "RenamedCellsModel", name := "cellsFor", desc := "(I)I" } : Jvm.MethodName) ∈ GW := gw_m (tb_8 (List.mem_of_getElem? (i := 110) rfl)) rfl
set_option maxRecDepth 100000 in
theorem tw_1791 : Cond.selects "RenamedCellsModel" ({ cls := "RenamedCellsModel", name := "cellsFor", desc := "(I)I" } : Jvm.MethodName) ({ cls := "RenamedCellsModel", name := "cellsFor", desc := "(I)I" } : Jvm.MethodName) ∈ GW := gw_m (tb_8 (List.mem_of_getElem? (i := 111) rfl)) rfl
set_option maxRecDepth 100000 in
theorem tw_1792 : Cond.code ({ cls := "RenamedCellsModel", name := "cellsFor", desc := "(I)I" } : Jvm.MethodName) prog_11_method_100_code (3 : Nat) (Option.some Jvm.ClassFile.FieldType.int) ∈ GW := gw_m (tb_8 (List.mem_of_getElem? (i := 112) rfl)) rfl
set_option maxRecDepth 100000 in
theorem tw_1793 : Cond.methodLink "RenamedCellsLaw" (150 : Nat) ({ cls := "RenamedCellsModel", name := "rate", desc := "(IZ)J" } : Jvm.MethodName) ∈ GW := gw_m (tb_8 (List.mem_of_getElem? (i := 113) rfl)) rfl
set_option maxRecDepth 100000 in
theorem tw_1794 : Cond.instanceMethod ({ cls := "RenamedCellsModel", name := "rate", desc := "(IZ)J" } : Jvm.MethodName) ∈ GW := gw_m (tb_8 (List.mem_of_getElem? (i := 114) rfl)) rfl
set_option maxRecDepth 100000 in
theorem tw_1795 : Cond.selects "RenamedCellsModel" ({ cls := "RenamedCellsModel", name := "rate", desc := "(IZ)J" } : Jvm.MethodName) ({ cls := "RenamedCellsModel", name := "rate", desc := "(IZ)J" } : Jvm.MethodName) ∈ GW := gw_m (tb_8 (List.mem_of_getElem? (i := 115) rfl)) rfl
set_option maxRecDepth 100000 in
theorem tw_1796 : Cond.code ({ cls := "RenamedCellsModel", name := "rate", desc := "(IZ)J" } : Jvm.MethodName) prog_11_method_101_code (4 : Nat) (Option.some Jvm.ClassFile.FieldType.long) ∈ GW := gw_m (tb_8 (List.mem_of_getElem? (i := 116) rfl)) rfl
set_option maxRecDepth 100000 in
theorem tw_1797 : Cond.methodLink "RenamedCellsModel" (420 : Nat) ({ cls := "RenamedCellsModel", name := "fraction", desc := "(JJZ)J" } : Jvm.MethodName) ∈ GW := gw_m (tb_8 (List.mem_of_getElem? (i := 117) rfl)) rfl
set_option maxRecDepth 100000 in
theorem tw_1799 : Cond.instanceMethod ({ cls := "RenamedCellsModel", name := "fraction", desc := "(JJZ)J" } : Jvm.MethodName) ∈ GW := gw_m (tb_8 (List.mem_of_getElem? (i := 119) rfl)) rfl
set_option maxRecDepth 100000 in
theorem tw_1800 : Cond.code ({ cls := "RenamedCellsModel", name := "fraction", desc := "(JJZ)J" } : Jvm.MethodName) prog_11_method_11_code (6 : Nat) (Option.some Jvm.ClassFile.FieldType.long) ∈ GW := gw_m (tb_8 (List.mem_of_getElem? (i := 120) rfl)) rfl
set_option maxRecDepth 100000 in
theorem tw_1801 : Cond.methodLink "RenamedCellsModel" (49 : Nat) ({ cls := "RenamedCellsModel", name := "common", desc := "(JJ)J" } : Jvm.MethodName) ∈ GW := gw_m (tb_8 (List.mem_of_getElem? (i := 121) rfl)) rfl
set_option maxRecDepth 100000 in
theorem tw_1802 : Cond.static ({ cls := "RenamedCellsModel", name := "common", desc := "(JJ)J" } : Jvm.MethodName) ∈ GW := gw_m (tb_8 (List.mem_of_getElem? (i := 122) rfl)) rfl
set_option maxRecDepth 100000 in
theorem tw_1803 : Cond.code ({ cls := "RenamedCellsModel", name := "common", desc := "(JJ)J" } : Jvm.MethodName) prog_11_method_10_code (10 : Nat) (Option.some Jvm.ClassFile.FieldType.long) ∈ GW := gw_m (tb_8 (List.mem_of_getElem? (i := 123) rfl)) rfl
set_option maxRecDepth 100000 in
theorem tw_1804 : Cond.methodLink "RenamedCellsLaw" (154 : Nat) ({ cls := "RenamedCellsModel", name := "fits", desc := "()I" } : Jvm.MethodName) ∈ GW := gw_m (tb_8 (List.mem_of_getElem? (i := 124) rfl)) rfl
set_option maxRecDepth 100000 in
theorem tw_1805 : Cond.instanceMethod ({ cls := "RenamedCellsModel", name := "fits", desc := "()I" } : Jvm.MethodName) ∈ GW := gw_m (tb_8 (List.mem_of_getElem? (i := 125) rfl)) rfl
set_option maxRecDepth 100000 in
theorem tw_1806 : Cond.selects "RenamedCellsModel" ({ cls := "RenamedCellsModel", name := "fits", desc := "()I" } : Jvm.MethodName) ({ cls := "RenamedCellsModel", name := "fits", desc := "()I" } : Jvm.MethodName) ∈ GW := gw_m (tb_8 (List.mem_of_getElem? (i := 126) rfl)) rfl
set_option maxRecDepth 100000 in
theorem tw_1807 : Cond.code ({ cls := "RenamedCellsModel", name := "fits", desc := "()I" } : Jvm.MethodName) prog_11_method_104_code (1 : Nat) (Option.some Jvm.ClassFile.FieldType.int) ∈ GW := gw_m (tb_8 (List.mem_of_getElem? (i := 127) rfl)) rfl
set_option maxRecDepth 100000 in
theorem tw_1808 : Cond.methodLink "RenamedCellsModel" (436 : Nat) ({ cls := "RenamedCellsModel", name := "fitting", desc := "(I)I" } : Jvm.MethodName) ∈ GW := gw_m (tb_8 (List.mem_of_getElem? (i := 128) rfl)) rfl
set_option maxRecDepth 100000 in
theorem tw_1810 : Cond.instanceMethod ({ cls := "RenamedCellsModel", name := "fitting", desc := "(I)I" } : Jvm.MethodName) ∈ GW := gw_m (tb_8 (List.mem_of_getElem? (i := 130) rfl)) rfl
set_option maxRecDepth 100000 in
theorem tw_1811 : Cond.code ({ cls := "RenamedCellsModel", name := "fitting", desc := "(I)I" } : Jvm.MethodName) prog_11_method_103_code (5 : Nat) (Option.some Jvm.ClassFile.FieldType.int) ∈ GW := gw_m (tb_8 (List.mem_of_getElem? (i := 131) rfl)) rfl
set_option maxRecDepth 100000 in
theorem tw_1812 : Cond.methodLink "RenamedCellsModel" (433 : Nat) ({ cls := "RenamedCellsModel", name := "wrongGot", desc := "(I)I" } : Jvm.MethodName) ∈ GW := gw_m (tb_8 (List.mem_of_getElem? (i := 132) rfl)) rfl
set_option maxRecDepth 100000 in
theorem tw_1814 : Cond.instanceMethod ({ cls := "RenamedCellsModel", name := "wrongGot", desc := "(I)I" } : Jvm.MethodName) ∈ GW := gw_m (tb_8 (List.mem_of_getElem? (i := 134) rfl)) rfl
set_option maxRecDepth 100000 in
theorem tw_1815 : Cond.code ({ cls := "RenamedCellsModel", name := "wrongGot", desc := "(I)I" } : Jvm.MethodName) prog_11_method_102_code (3 : Nat) (Option.some Jvm.ClassFile.FieldType.int) ∈ GW := gw_m (tb_8 (List.mem_of_getElem? (i := 135) rfl)) rfl
set_option maxRecDepth 100000 in
theorem tw_1816 : Cond.methodLink "RenamedCellsLaw" (158 : Nat) ({ cls := "RenamedCellsModel", name := "fitAt", desc := "(I)I" } : Jvm.MethodName) ∈ GW := gw_m (tb_8 (List.mem_of_getElem? (i := 136) rfl)) rfl
set_option maxRecDepth 100000 in
theorem tw_1817 : Cond.instanceMethod ({ cls := "RenamedCellsModel", name := "fitAt", desc := "(I)I" } : Jvm.MethodName) ∈ GW := gw_m (tb_8 (List.mem_of_getElem? (i := 137) rfl)) rfl
set_option maxRecDepth 100000 in
theorem tw_1818 : Cond.selects "RenamedCellsModel" ({ cls := "RenamedCellsModel", name := "fitAt", desc := "(I)I" } : Jvm.MethodName) ({ cls := "RenamedCellsModel", name := "fitAt", desc := "(I)I" } : Jvm.MethodName) ∈ GW := gw_m (tb_8 (List.mem_of_getElem? (i := 138) rfl)) rfl
set_option maxRecDepth 100000 in
theorem tw_1819 : Cond.code ({ cls := "RenamedCellsModel", name := "fitAt", desc := "(I)I" } : Jvm.MethodName) prog_11_method_105_code (3 : Nat) (Option.some Jvm.ClassFile.FieldType.int) ∈ GW := gw_m (tb_8 (List.mem_of_getElem? (i := 139) rfl)) rfl
set_option maxRecDepth 100000 in
theorem tw_1820 : Cond.methodLink "RenamedCellsLaw" (162 : Nat) ({ cls := "RenamedCellsModel", name := "could", desc := "()I" } : Jvm.MethodName) ∈ GW := gw_m (tb_8 (List.mem_of_getElem? (i := 140) rfl)) rfl
set_option maxRecDepth 100000 in
theorem tw_1821 : Cond.instanceMethod ({ cls := "RenamedCellsModel", name := "could", desc := "()I" } : Jvm.MethodName) ∈ GW := gw_m (tb_8 (List.mem_of_getElem? (i := 141) rfl)) rfl
set_option maxRecDepth 100000 in
theorem tw_1822 : Cond.selects "RenamedCellsModel" ({ cls := "RenamedCellsModel", name := "could", desc := "()I" } : Jvm.MethodName) ({ cls := "RenamedCellsModel", name := "could", desc := "()I" } : Jvm.MethodName) ∈ GW := gw_m (tb_8 (List.mem_of_getElem? (i := 142) rfl)) rfl
set_option maxRecDepth 100000 in
theorem tw_1823 : Cond.code ({ cls := "RenamedCellsModel", name := "could", desc := "()I" } : Jvm.MethodName) prog_11_method_106_code (1 : Nat) (Option.some Jvm.ClassFile.FieldType.int) ∈ GW := gw_m (tb_8 (List.mem_of_getElem? (i := 143) rfl)) rfl
set_option maxRecDepth 100000 in
theorem tw_1824 : Cond.methodLink "RenamedCellsLaw" (166 : Nat) ({ cls := "RenamedCellsModel", name := "surely", desc := "()I" } : Jvm.MethodName) ∈ GW := gw_m (tb_8 (List.mem_of_getElem? (i := 144) rfl)) rfl
set_option maxRecDepth 100000 in
theorem tw_1825 : Cond.instanceMethod ({ cls := "RenamedCellsModel", name := "surely", desc := "()I" } : Jvm.MethodName) ∈ GW := gw_m (tb_8 (List.mem_of_getElem? (i := 145) rfl)) rfl
set_option maxRecDepth 100000 in
theorem tw_1826 : Cond.selects "RenamedCellsModel" ({ cls := "RenamedCellsModel", name := "surely", desc := "()I" } : Jvm.MethodName) ({ cls := "RenamedCellsModel", name := "surely", desc := "()I" } : Jvm.MethodName) ∈ GW := gw_m (tb_8 (List.mem_of_getElem? (i := 146) rfl)) rfl
set_option maxRecDepth 100000 in
theorem tw_1827 : Cond.code ({ cls := "RenamedCellsModel", name := "surely", desc := "()I" } : Jvm.MethodName) prog_11_method_107_code (1 : Nat) (Option.some Jvm.ClassFile.FieldType.int) ∈ GW := gw_m (tb_8 (List.mem_of_getElem? (i := 147) rfl)) rfl
set_option maxRecDepth 100000 in
theorem tw_1828 : Cond.methodLink "RenamedCellsLaw" (170 : Nat) ({ cls := "RenamedCellsModel", name := "ask", desc := "()I" } : Jvm.MethodName) ∈ GW := gw_m (tb_8 (List.mem_of_getElem? (i := 148) rfl)) rfl
set_option maxRecDepth 100000 in
theorem tw_1829 : Cond.instanceMethod ({ cls := "RenamedCellsModel", name := "ask", desc := "()I" } : Jvm.MethodName) ∈ GW := gw_m (tb_8 (List.mem_of_getElem? (i := 149) rfl)) rfl
set_option maxRecDepth 100000 in
theorem tw_1830 : Cond.selects "RenamedCellsModel" ({ cls := "RenamedCellsModel", name := "ask", desc := "()I" } : Jvm.MethodName) ({ cls := "RenamedCellsModel", name := "ask", desc := "()I" } : Jvm.MethodName) ∈ GW := gw_m (tb_8 (List.mem_of_getElem? (i := 150) rfl)) rfl
set_option maxRecDepth 100000 in
theorem tw_1831 : Cond.code ({ cls := "RenamedCellsModel", name := "ask", desc := "()I" } : Jvm.MethodName) prog_11_method_109_code (1 : Nat) (Option.some Jvm.ClassFile.FieldType.int) ∈ GW := gw_m (tb_8 (List.mem_of_getElem? (i := 151) rfl)) rfl
set_option maxRecDepth 100000 in
theorem tw_1832 : Cond.methodLink "RenamedCellsModel" (442 : Nat) ({ cls := "RenamedCellsModel", name := "asks", desc := "()I" } : Jvm.MethodName) ∈ GW := gw_m (tb_8 (List.mem_of_getElem? (i := 152) rfl)) rfl
set_option maxRecDepth 100000 in
theorem tw_1834 : Cond.instanceMethod ({ cls := "RenamedCellsModel", name := "asks", desc := "()I" } : Jvm.MethodName) ∈ GW := gw_m (tb_8 (List.mem_of_getElem? (i := 154) rfl)) rfl
set_option maxRecDepth 100000 in
theorem tw_1835 : Cond.code ({ cls := "RenamedCellsModel", name := "asks", desc := "()I" } : Jvm.MethodName) prog_11_method_108_code (4 : Nat) (Option.some Jvm.ClassFile.FieldType.int) ∈ GW := gw_m (tb_8 (List.mem_of_getElem? (i := 155) rfl)) rfl
set_option maxRecDepth 100000 in
theorem tw_1836 : Cond.methodLink "RenamedCellsLaw" (174 : Nat) ({ cls := "RenamedCellsModel", name := "askLeaves", desc := "()I" } : Jvm.MethodName) ∈ GW := gw_m (tb_8 (List.mem_of_getElem? (i := 156) rfl)) rfl
set_option maxRecDepth 100000 in
theorem tw_1837 : Cond.instanceMethod ({ cls := "RenamedCellsModel", name := "askLeaves", desc := "()I" } : Jvm.MethodName) ∈ GW := gw_m (tb_8 (List.mem_of_getElem? (i := 157) rfl)) rfl
set_option maxRecDepth 100000 in
theorem tw_1838 : Cond.selects "RenamedCellsModel" ({ cls := "RenamedCellsModel", name := "askLeaves", desc := "()I" } : Jvm.MethodName) ({ cls := "RenamedCellsModel", name := "askLeaves", desc := "()I" } : Jvm.MethodName) ∈ GW := gw_m (tb_8 (List.mem_of_getElem? (i := 158) rfl)) rfl
set_option maxRecDepth 100000 in
theorem tw_1839 : Cond.code ({ cls := "RenamedCellsModel", name := "askLeaves", desc := "()I" } : Jvm.MethodName) prog_11_method_110_code (1 : Nat) (Option.some Jvm.ClassFile.FieldType.int) ∈ GW := gw_m (tb_8 (List.mem_of_getElem? (i := 159) rfl)) rfl
set_option maxRecDepth 100000 in
theorem tw_1840 : Cond.methodLink "RenamedCellsLaw" (178 : Nat) ({ cls := "RenamedCellsModel", name := "judge", desc := "()I" } : Jvm.MethodName) ∈ GW := gw_m (tb_8 (List.mem_of_getElem? (i := 160) rfl)) rfl
set_option maxRecDepth 100000 in
theorem tw_1841 : Cond.instanceMethod ({ cls := "RenamedCellsModel", name := "judge", desc := "()I" } : Jvm.MethodName) ∈ GW := gw_m (tb_8 (List.mem_of_getElem? (i := 161) rfl)) rfl
set_option maxRecDepth 100000 in
theorem tw_1842 : Cond.selects "RenamedCellsModel" ({ cls := "RenamedCellsModel", name := "judge", desc := "()I" } : Jvm.MethodName) ({ cls := "RenamedCellsModel", name := "judge", desc := "()I" } : Jvm.MethodName) ∈ GW := gw_m (tb_8 (List.mem_of_getElem? (i := 162) rfl)) rfl
set_option maxRecDepth 100000 in
theorem tw_1843 : Cond.code ({ cls := "RenamedCellsModel", name := "judge", desc := "()I" } : Jvm.MethodName) prog_11_method_111_code (1 : Nat) (Option.some Jvm.ClassFile.FieldType.int) ∈ GW := gw_m (tb_8 (List.mem_of_getElem? (i := 163) rfl)) rfl
set_option maxRecDepth 100000 in
theorem tw_1844 : Cond.methodLink "RenamedCellsLaw" (182 : Nat) ({ cls := "RenamedCellsModel", name := "drawnCommits", desc := "(II)I" } : Jvm.MethodName) ∈ GW := gw_m (tb_8 (List.mem_of_getElem? (i := 164) rfl)) rfl
set_option maxRecDepth 100000 in
theorem tw_1845 : Cond.instanceMethod ({ cls := "RenamedCellsModel", name := "drawnCommits", desc := "(II)I" } : Jvm.MethodName) ∈ GW := gw_m (tb_8 (List.mem_of_getElem? (i := 165) rfl)) rfl
set_option maxRecDepth 100000 in
theorem tw_1846 : Cond.selects "RenamedCellsModel" ({ cls := "RenamedCellsModel", name := "drawnCommits", desc := "(II)I" } : Jvm.MethodName) ({ cls := "RenamedCellsModel", name := "drawnCommits", desc := "(II)I" } : Jvm.MethodName) ∈ GW := gw_m (tb_8 (List.mem_of_getElem? (i := 166) rfl)) rfl
set_option maxRecDepth 100000 in
theorem tw_1847 : Cond.code ({ cls := "RenamedCellsModel", name := "drawnCommits", desc := "(II)I" } : Jvm.MethodName) prog_11_method_115_code (4 : Nat) (Option.some Jvm.ClassFile.FieldType.int) ∈ GW := gw_m (tb_8 (List.mem_of_getElem? (i := 167) rfl)) rfl
set_option maxRecDepth 100000 in
theorem tw_1848 : Cond.methodLink "RenamedCellsModel" (461 : Nat) ({ cls := "RenamedCellsModel", name := "refusesDraw", desc := "(ZII)I" } : Jvm.MethodName) ∈ GW := gw_m (tb_8 (List.mem_of_getElem? (i := 168) rfl)) rfl
set_option maxRecDepth 100000 in
theorem tw_1850 : Cond.instanceMethod ({ cls := "RenamedCellsModel", name := "refusesDraw", desc := "(ZII)I" } : Jvm.MethodName) ∈ GW := gw_m (tb_8 (List.mem_of_getElem? (i := 170) rfl)) rfl
set_option maxRecDepth 100000 in
theorem tw_1851 : Cond.code ({ cls := "RenamedCellsModel", name := "refusesDraw", desc := "(ZII)I" } : Jvm.MethodName) prog_11_method_114_code (4 : Nat) (Option.some Jvm.ClassFile.FieldType.int) ∈ GW := gw_m (tb_8 (List.mem_of_getElem? (i := 171) rfl)) rfl
set_option maxRecDepth 100000 in
theorem tw_1852 : Cond.constant "RenamedCellsModel" (460 : Nat) (65536 : Int32) ∈ GW := gw_m (tb_8 (List.mem_of_getElem? (i := 172) rfl)) rfl
set_option maxRecDepth 100000 in
theorem tw_1853 : Cond.methodLink "RenamedCellsModel" (465 : Nat) ({ cls := "RenamedCellsModel", name := "tries", desc := "(II)V" } : Jvm.MethodName) ∈ GW := gw_m (tb_8 (List.mem_of_getElem? (i := 173) rfl)) rfl
set_option maxRecDepth 100000 in
theorem tw_1855 : Cond.instanceMethod ({ cls := "RenamedCellsModel", name := "tries", desc := "(II)V" } : Jvm.MethodName) ∈ GW := gw_m (tb_8 (List.mem_of_getElem? (i := 175) rfl)) rfl
set_option maxRecDepth 100000 in
theorem tw_1856 : Cond.code ({ cls := "RenamedCellsModel", name := "tries", desc := "(II)V" } : Jvm.MethodName) prog_11_method_113_code (6 : Nat) (Option.none : Option Jvm.ClassFile.FieldType) ∈ GW := gw_m (tb_8 (List.mem_of_getElem? (i := 176) rfl)) rfl
set_option maxRecDepth 100000 in
theorem tw_1857 : Cond.methodLink "RenamedCellsModel" (457 : Nat) ({ cls := "RenamedCellsModel", name := "draws", desc := "(I)I" } : Jvm.MethodName) ∈ GW := gw_m (tb_8 (List.mem_of_getElem? (i := 177) rfl)) rfl
set_option maxRecDepth 100000 in
theorem tw_1859 : Cond.instanceMethod ({ cls := "RenamedCellsModel", name := "draws", desc := "(I)I" } : Jvm.MethodName) ∈ GW := gw_m (tb_8 (List.mem_of_getElem? (i := 179) rfl)) rfl
set_option maxRecDepth 100000 in
theorem tw_1860 : Cond.code ({ cls := "RenamedCellsModel", name := "draws", desc := "(I)I" } : Jvm.MethodName) prog_11_method_112_code (2 : Nat) (Option.some Jvm.ClassFile.FieldType.int) ∈ GW := gw_m (tb_8 (List.mem_of_getElem? (i := 180) rfl)) rfl
set_option maxRecDepth 100000 in
theorem tw_1861 : Cond.constantLong "RenamedCellsModel" (445 : Nat) (75 : Int64) ∈ GW := gw_m (tb_8 (List.mem_of_getElem? (i := 181) rfl)) rfl
set_option maxRecDepth 100000 in
theorem tw_1862 : Cond.constantLong "RenamedCellsModel" (450 : Nat) (74 : Int64) ∈ GW := gw_m (tb_8 (List.mem_of_getElem? (i := 182) rfl)) rfl
set_option maxRecDepth 100000 in
theorem tw_1863 : Cond.constantLong "RenamedCellsModel" (452 : Nat) (65537 : Int64) ∈ GW := gw_m (tb_8 (List.mem_of_getElem? (i := 183) rfl)) rfl
set_option maxRecDepth 100000 in
theorem tw_1864 : Cond.methodLink "RenamedCellsLaw" (187 : Nat) ({ cls := "RenamedCellsModel", name := "drawnValue", desc := "(III)I" } : Jvm.MethodName) ∈ GW := gw_m (tb_8 (List.mem_of_getElem? (i := 184) rfl)) rfl
set_option maxRecDepth 100000 in
theorem tw_1865 : Cond.instanceMethod ({ cls := "RenamedCellsModel", name := "drawnValue", desc := "(III)I" } : Jvm.MethodName) ∈ GW := gw_m (tb_8 (List.mem_of_getElem? (i := 185) rfl)) rfl
set_option maxRecDepth 100000 in
theorem tw_1866 : Cond.selects "RenamedCellsModel" ({ cls := "RenamedCellsModel", name := "drawnValue", desc := "(III)I" } : Jvm.MethodName) ({ cls := "RenamedCellsModel", name := "drawnValue", desc := "(III)I" } : Jvm.MethodName) ∈ GW := gw_m (tb_8 (List.mem_of_getElem? (i := 186) rfl)) rfl
set_option maxRecDepth 100000 in
theorem tw_1867 : Cond.code ({ cls := "RenamedCellsModel", name := "drawnValue", desc := "(III)I" } : Jvm.MethodName) prog_11_method_116_code (5 : Nat) (Option.some Jvm.ClassFile.FieldType.int) ∈ GW := gw_m (tb_8 (List.mem_of_getElem? (i := 187) rfl)) rfl
set_option maxRecDepth 100000 in
theorem tw_1868 : Cond.methodLink "RenamedCellsLaw" (191 : Nat) ({ cls := "RenamedCellsModel", name := "fetch", desc := "()I" } : Jvm.MethodName) ∈ GW := gw_m (tb_8 (List.mem_of_getElem? (i := 188) rfl)) rfl
set_option maxRecDepth 100000 in
theorem tw_1869 : Cond.instanceMethod ({ cls := "RenamedCellsModel", name := "fetch", desc := "()I" } : Jvm.MethodName) ∈ GW := gw_m (tb_8 (List.mem_of_getElem? (i := 189) rfl)) rfl
set_option maxRecDepth 100000 in
theorem tw_1870 : Cond.selects "RenamedCellsModel" ({ cls := "RenamedCellsModel", name := "fetch", desc := "()I" } : Jvm.MethodName) ({ cls := "RenamedCellsModel", name := "fetch", desc := "()I" } : Jvm.MethodName) ∈ GW := gw_m (tb_8 (List.mem_of_getElem? (i := 190) rfl)) rfl
set_option maxRecDepth 100000 in
theorem tw_1871 : Cond.code ({ cls := "RenamedCellsModel", name := "fetch", desc := "()I" } : Jvm.MethodName) prog_11_method_119_code (2 : Nat) (Option.some Jvm.ClassFile.FieldType.int) ∈ GW := gw_m (tb_8 (List.mem_of_getElem? (i := 191) rfl)) rfl
set_option maxRecDepth 100000 in
theorem tw_1872 : Cond.methodLink "RenamedCellsModel" (468 : Nat) ({ cls := "RenamedCellsModel", name := "remembers", desc := "()V" } : Jvm.MethodName) ∈ GW := gw_m (tb_8 (List.mem_of_getElem? (i := 192) rfl)) rfl
set_option maxRecDepth 100000 in
theorem tw_1874 : Cond.instanceMethod ({ cls := "RenamedCellsModel", name := "remembers", desc := "()V" } : Jvm.MethodName) ∈ GW := gw_m (tb_8 (List.mem_of_getElem? (i := 194) rfl)) rfl
set_option maxRecDepth 100000 in
theorem tw_1875 : Cond.code ({ cls := "RenamedCellsModel", name := "remembers", desc := "()V" } : Jvm.MethodName) prog_11_method_117_code (2 : Nat) (Option.none : Option Jvm.ClassFile.FieldType) ∈ GW := gw_m (tb_8 (List.mem_of_getElem? (i := 195) rfl)) rfl
set_option maxRecDepth 100000 in
theorem tw_1876 : Cond.methodLink "RenamedCellsModel" (471 : Nat) ({ cls := "RenamedCellsModel", name := "done", desc := "(I)I" } : Jvm.MethodName) ∈ GW := gw_m (tb_8 (List.mem_of_getElem? (i := 196) rfl)) rfl
set_option maxRecDepth 100000 in
theorem tw_1878 : Cond.instanceMethod ({ cls := "RenamedCellsModel", name := "done", desc := "(I)I" } : Jvm.MethodName) ∈ GW := gw_m (tb_8 (List.mem_of_getElem? (i := 198) rfl)) rfl
set_option maxRecDepth 100000 in
theorem tw_1879 : Cond.code ({ cls := "RenamedCellsModel", name := "done", desc := "(I)I" } : Jvm.MethodName) prog_11_method_118_code (2 : Nat) (Option.some Jvm.ClassFile.FieldType.int) ∈ GW := gw_m (tb_8 (List.mem_of_getElem? (i := 199) rfl)) rfl
set_option maxRecDepth 100000 in
theorem tw_1880 : Cond.methodLink "RenamedCellsLaw" (195 : Nat) ({ cls := "RenamedCellsModel", name := "run", desc := "(I)I" } : Jvm.MethodName) ∈ GW := gw_m (tb_8 (List.mem_of_getElem? (i := 200) rfl)) rfl
set_option maxRecDepth 100000 in
theorem tw_1881 : Cond.instanceMethod ({ cls := "RenamedCellsModel", name := "run", desc := "(I)I" } : Jvm.MethodName) ∈ GW := gw_m (tb_8 (List.mem_of_getElem? (i := 201) rfl)) rfl
set_option maxRecDepth 100000 in
theorem tw_1882 : Cond.selects "RenamedCellsModel" ({ cls := "RenamedCellsModel", name := "run", desc := "(I)I" } : Jvm.MethodName) ({ cls := "RenamedCellsModel", name := "run", desc := "(I)I" } : Jvm.MethodName) ∈ GW := gw_m (tb_8 (List.mem_of_getElem? (i := 202) rfl)) rfl
set_option maxRecDepth 100000 in
theorem tw_1883 : Cond.code ({ cls := "RenamedCellsModel", name := "run", desc := "(I)I" } : Jvm.MethodName) prog_11_method_120_code (2 : Nat) (Option.some Jvm.ClassFile.FieldType.int) ∈ GW := gw_m (tb_8 (List.mem_of_getElem? (i := 203) rfl)) rfl
set_option maxRecDepth 100000 in
theorem tw_1884 : Cond.methodLink "RenamedCellsLaw" (199 : Nat) ({ cls := "RenamedCellsModel", name := "commit", desc := "()I" } : Jvm.MethodName) ∈ GW := gw_m (tb_8 (List.mem_of_getElem? (i := 204) rfl)) rfl
set_option maxRecDepth 100000 in
theorem tw_1885 : Cond.instanceMethod ({ cls := "RenamedCellsModel", name := "commit", desc := "()I" } : Jvm.MethodName) ∈ GW := gw_m (tb_8 (List.mem_of_getElem? (i := 205) rfl)) rfl
set_option maxRecDepth 100000 in
theorem tw_1886 : Cond.selects "RenamedCellsModel" ({ cls := "RenamedCellsModel", name := "commit", desc := "()I" } : Jvm.MethodName) ({ cls := "RenamedCellsModel", name := "commit", desc := "()I" } : Jvm.MethodName) ∈ GW := gw_m (tb_8 (List.mem_of_getElem? (i := 206) rfl)) rfl
set_option maxRecDepth 100000 in
theorem tw_1887 : Cond.code ({ cls := "RenamedCellsModel", name := "commit", desc := "()I" } : Jvm.MethodName) prog_11_method_121_code (2 : Nat) (Option.some Jvm.ClassFile.FieldType.int) ∈ GW := gw_m (tb_8 (List.mem_of_getElem? (i := 207) rfl)) rfl
set_option maxRecDepth 100000 in
theorem tw_1888 : Cond.methodLink "RenamedCellsLaw" (204 : Nat) ({ cls := "RenamedCellsModel", name := "resume", desc := "(I)Z" } : Jvm.MethodName) ∈ GW := gw_m (tb_8 (List.mem_of_getElem? (i := 208) rfl)) rfl
set_option maxRecDepth 100000 in
theorem tw_1889 : Cond.instanceMethod ({ cls := "RenamedCellsModel", name := "resume", desc := "(I)Z" } : Jvm.MethodName) ∈ GW := gw_m (tb_8 (List.mem_of_getElem? (i := 209) rfl)) rfl
set_option maxRecDepth 100000 in
theorem tw_1890 : Cond.selects "RenamedCellsModel" ({ cls := "RenamedCellsModel", name := "resume", desc := "(I)Z" } : Jvm.MethodName) ({ cls := "RenamedCellsModel", name := "resume", desc := "(I)Z" } : Jvm.MethodName) ∈ GW := gw_m (tb_8 (List.mem_of_getElem? (i := 210) rfl)) rfl
set_option maxRecDepth 100000 in
theorem tw_1891 : Cond.code ({ cls := "RenamedCellsModel", name := "resume", desc := "(I)Z" } : Jvm.MethodName) prog_11_method_122_code (2 : Nat) (Option.some Jvm.ClassFile.FieldType.boolean) ∈ GW := gw_m (tb_8 (List.mem_of_getElem? (i := 211) rfl)) rfl
set_option maxRecDepth 100000 in
theorem tw_1892 : Cond.methodLink "RenamedCellsModel" (474 : Nat) ({ cls := "RenamedCellsModel", name := "denied", desc := "(I)Z" } : Jvm.MethodName) ∈ GW := gw_m (tb_8 (List.mem_of_getElem? (i := 212) rfl)) rfl
set_option maxRecDepth 100000 in
theorem tw_1894 : Cond.instanceMethod ({ cls := "RenamedCellsModel", name := "denied", desc := "(I)Z" } : Jvm.MethodName) ∈ GW := gw_m (tb_8 (List.mem_of_getElem? (i := 214) rfl)) rfl
set_option maxRecDepth 100000 in
theorem tw_1895 : Cond.code ({ cls := "RenamedCellsModel", name := "denied", desc := "(I)Z" } : Jvm.MethodName) prog_11_method_4_code (2 : Nat) (Option.some Jvm.ClassFile.FieldType.boolean) ∈ GW := gw_m (tb_8 (List.mem_of_getElem? (i := 215) rfl)) rfl
set_option maxRecDepth 100000 in
theorem tw_1896 : Cond.methodLink "RenamedCellsModel" (477 : Nat) ({ cls := "RenamedCellsModel", name := "granted", desc := "()Z" } : Jvm.MethodName) ∈ GW := gw_m (tb_8 (List.mem_of_getElem? (i := 216) rfl)) rfl
set_option maxRecDepth 100000 in
theorem tw_1898 : Cond.instanceMethod ({ cls := "RenamedCellsModel", name := "granted", desc := "()Z" } : Jvm.MethodName) ∈ GW := gw_m (tb_8 (List.mem_of_getElem? (i := 218) rfl)) rfl
set_option maxRecDepth 100000 in
theorem tw_1899 : Cond.code ({ cls := "RenamedCellsModel", name := "granted", desc := "()Z" } : Jvm.MethodName) prog_11_method_6_code (1 : Nat) (Option.some Jvm.ClassFile.FieldType.boolean) ∈ GW := gw_m (tb_8 (List.mem_of_getElem? (i := 219) rfl)) rfl
set_option maxRecDepth 100000 in
theorem tw_1900 : Cond.methodLink "RenamedCellsLaw" (209 : Nat) ({ cls := "RenamedCellsModel", name := "undo", desc := "()Z" } : Jvm.MethodName) ∈ GW := gw_m (tb_8 (List.mem_of_getElem? (i := 220) rfl)) rfl
set_option maxRecDepth 100000 in
theorem tw_1901 : Cond.instanceMethod ({ cls := "RenamedCellsModel", name := "undo", desc := "()Z" } : Jvm.MethodName) ∈ GW := gw_m (tb_8 (List.mem_of_getElem? (i := 221) rfl)) rfl
set_option maxRecDepth 100000 in
theorem tw_1902 : Cond.selects "RenamedCellsModel" ({ cls := "RenamedCellsModel", name := "undo", desc := "()Z" } : Jvm.MethodName) ({ cls := "RenamedCellsModel", name := "undo", desc := "()Z" } : Jvm.MethodName) ∈ GW := gw_m (tb_8 (List.mem_of_getElem? (i := 222) rfl)) rfl
set_option maxRecDepth 100000 in
theorem tw_1903 : Cond.code ({ cls := "RenamedCellsModel", name := "undo", desc := "()Z" } : Jvm.MethodName) prog_11_method_123_code (2 : Nat) (Option.some Jvm.ClassFile.FieldType.boolean) ∈ GW := gw_m (tb_8 (List.mem_of_getElem? (i := 223) rfl)) rfl
set_option maxRecDepth 100000 in
theorem tw_1904 : Cond.methodLink "RenamedCellsLaw" (213 : Nat) ({ cls := "RenamedCellsModel", name := "image", desc := "()I" } : Jvm.MethodName) ∈ GW := gw_m (tb_8 (List.mem_of_getElem? (i := 224) rfl)) rfl
set_option maxRecDepth 100000 in
theorem tw_1905 : Cond.instanceMethod ({ cls := "RenamedCellsModel", name := "image", desc := "()I" } : Jvm.MethodName) ∈ GW := gw_m (tb_8 (List.mem_of_getElem? (i := 225) rfl)) rfl
set_option maxRecDepth 100000 in
theorem tw_1906 : Cond.selects "RenamedCellsModel" ({ cls := "RenamedCellsModel", name := "image", desc := "()I" } : Jvm.MethodName) ({ cls := "RenamedCellsModel", name := "image", desc := "()I" } : Jvm.MethodName) ∈ GW := gw_m (tb_8 (List.mem_of_getElem? (i := 226) rfl)) rfl
set_option maxRecDepth 100000 in
theorem tw_1907 : Cond.code ({ cls := "RenamedCellsModel", name := "image", desc := "()I" } : Jvm.MethodName) prog_11_method_124_code (2 : Nat) (Option.some Jvm.ClassFile.FieldType.int) ∈ GW := gw_m (tb_8 (List.mem_of_getElem? (i := 227) rfl)) rfl
set_option maxRecDepth 100000 in
theorem tw_1908 : Cond.methodLink "RenamedCellsLaw" (217 : Nat) ({ cls := "RenamedCellsModel", name := "back", desc := "(I)Z" } : Jvm.MethodName) ∈ GW := gw_m (tb_8 (List.mem_of_getElem? (i := 228) rfl)) rfl
set_option maxRecDepth 100000 in
theorem tw_1909 : Cond.instanceMethod ({ cls := "RenamedCellsModel", name := "back", desc := "(I)Z" } : Jvm.MethodName) ∈ GW := gw_m (tb_8 (List.mem_of_getElem? (i := 229) rfl)) rfl
set_option maxRecDepth 100000 in
theorem tw_1910 : Cond.selects "RenamedCellsModel" ({ cls := "RenamedCellsModel", name := "back", desc := "(I)Z" } : Jvm.MethodName) ({ cls := "RenamedCellsModel", name := "back", desc := "(I)Z" } : Jvm.MethodName) ∈ GW := gw_m (tb_8 (List.mem_of_getElem? (i := 230) rfl)) rfl
set_option maxRecDepth 100000 in
theorem tw_1911 : Cond.code ({ cls := "RenamedCellsModel", name := "back", desc := "(I)Z" } : Jvm.MethodName) prog_11_method_125_code (3 : Nat) (Option.some Jvm.ClassFile.FieldType.boolean) ∈ GW := gw_m (tb_8 (List.mem_of_getElem? (i := 231) rfl)) rfl
set_option maxRecDepth 100000 in
theorem tw_1912 : Cond.methodLink "RenamedCellsLaw" (223 : Nat) ({ cls := "RenamedCellsModel", name := "led", desc := "(I)I" } : Jvm.MethodName) ∈ GW := gw_m (tb_8 (List.mem_of_getElem? (i := 232) rfl)) rfl
set_option maxRecDepth 100000 in
theorem tw_1913 : Cond.instanceMethod ({ cls := "RenamedCellsModel", name := "led", desc := "(I)I" } : Jvm.MethodName) ∈ GW := gw_m (tb_8 (List.mem_of_getElem? (i := 233) rfl)) rfl
set_option maxRecDepth 100000 in
theorem tw_1914 : Cond.selects "RenamedCellsModel" ({ cls := "RenamedCellsModel", name := "led", desc := "(I)I" } : Jvm.MethodName) ({ cls := "RenamedCellsModel", name := "led", desc := "(I)I" } : Jvm.MethodName) ∈ GW := gw_m (tb_8 (List.mem_of_getElem? (i := 234) rfl)) rfl
set_option maxRecDepth 100000 in
theorem tw_1915 : Cond.code ({ cls := "RenamedCellsModel", name := "led", desc := "(I)I" } : Jvm.MethodName) prog_11_method_126_code (4 : Nat) (Option.some Jvm.ClassFile.FieldType.int) ∈ GW := gw_m (tb_8 (List.mem_of_getElem? (i := 235) rfl)) rfl
set_option maxRecDepth 100000 in
theorem tw_1916 : Cond.methodLink "RenamedCellsLaw" (230 : Nat) ({ cls := "RenamedCellsModel", name := "size", desc := "(I)I" } : Jvm.MethodName) ∈ GW := gw_m (tb_8 (List.mem_of_getElem? (i := 236) rfl)) rfl
set_option maxRecDepth 100000 in
theorem tw_1917 : Cond.instanceMethod ({ cls := "RenamedCellsModel", name := "size", desc := "(I)I" } : Jvm.MethodName) ∈ GW := gw_m (tb_8 (List.mem_of_getElem? (i := 237) rfl)) rfl
set_option maxRecDepth 100000 in
theorem tw_1918 : Cond.selects "RenamedCellsModel" ({ cls := "RenamedCellsModel", name := "size", desc := "(I)I" } : Jvm.MethodName) ({ cls := "RenamedCellsModel", name := "size", desc := "(I)I" } : Jvm.MethodName) ∈ GW := gw_m (tb_8 (List.mem_of_getElem? (i := 238) rfl)) rfl
set_option maxRecDepth 100000 in
theorem tw_1919 : Cond.code ({ cls := "RenamedCellsModel", name := "size", desc := "(I)I" } : Jvm.MethodName) prog_11_method_128_code (2 : Nat) (Option.some Jvm.ClassFile.FieldType.int) ∈ GW := gw_m (tb_8 (List.mem_of_getElem? (i := 239) rfl)) rfl
set_option maxRecDepth 100000 in
theorem tw_1920 : Cond.methodLink "RenamedCellsModel" (480 : Nat) ({ cls := "RenamedCellsModel", name := "savesThere", desc := "()I" } : Jvm.MethodName) ∈ GW := gw_m (tb_9 (List.mem_of_getElem? (i := 0) rfl)) rfl
set_option maxRecDepth 100000 in
theorem tw_1922 : Cond.instanceMethod ({ cls := "RenamedCellsModel", name := "savesThere", desc := "()I" } : Jvm.MethodName) ∈ GW := gw_m (tb_9 (List.mem_of_getElem? (i := 2) rfl)) rfl
set_option maxRecDepth 100000 in
theorem tw_1923 : Cond.code ({ cls := "RenamedCellsModel", name := "savesThere", desc := "()I" } : Jvm.MethodName) prog_11_method_127_code (1 : Nat) (Option.some Jvm.ClassFile.FieldType.int) ∈ GW := gw_m (tb_9 (List.mem_of_getElem? (i := 3) rfl)) rfl
set_option maxRecDepth 100000 in
theorem tw_1924 : Cond.methodLink "RenamedCellsLaw" (234 : Nat) ({ cls := "RenamedCellsModel", name := "trouble", desc := "()I" } : Jvm.MethodName) ∈ GW := gw_m (tb_9 (List.mem_of_getElem? (i := 4) rfl)) rfl
set_option maxRecDepth 100000 in
theorem tw_1925 : Cond.instanceMethod ({ cls := "RenamedCellsModel", name := "trouble", desc := "()I" } : Jvm.MethodName) ∈ GW := gw_m (tb_9 (List.mem_of_getElem? (i := 5) rfl)) rfl
set_option maxRecDepth 100000 in
theorem tw_1926 : Cond.selects "RenamedCellsModel" ({ cls := "RenamedCellsModel", name := "trouble", desc := "()I" } : Jvm.MethodName) ({ cls := "RenamedCellsModel", name := "trouble", desc := "()I" } : Jvm.MethodName) ∈ GW := gw_m (tb_9 (List.mem_of_getElem? (i := 6) rfl)) rfl
set_option maxRecDepth 100000 in
theorem tw_1927 : Cond.code ({ cls := "RenamedCellsModel", name := "trouble", desc := "()I" } : Jvm.MethodName) prog_11_method_129_code (1 : Nat) (Option.some Jvm.ClassFile.FieldType.int) ∈ GW := gw_m (tb_9 (List.mem_of_getElem? (i := 7) rfl)) rfl
set_option maxRecDepth 100000 in
theorem tw_1928 : Cond.arrayClass Jvm.ClassFile.FieldType.long ∈ GW := gw_m (tb_9 (List.mem_of_getElem? (i := 8) rfl)) rfl
set_option maxRecDepth 100000 in
theorem tw_1944 : Cond.fieldLink "java/lang/String" (9 : Nat) "java/lang/String" "value" "[B" ∈ GW := gw_m (tb_9 (List.mem_of_getElem? (i := 24) rfl)) rfl
set_option maxRecDepth 100000 in
theorem tw_1945 : Cond.fieldLink "java/lang/String" (15 : Nat) "java/lang/String" "coder" "B" ∈ GW := gw_m (tb_9 (List.mem_of_getElem? (i := 25) rfl)) rfl
set_option maxRecDepth 100000 in
theorem sl_X3_isDone : Cond.selects yX3_isDone.cls yX3_isDone yX3_isDone ∈ GW := gw_pv (q := (yX3_isDone, 20)) (List.mem_append_right _ (List.mem_append_left _ (List.mem_of_getElem? (i := 7) rfl)))
set_option maxRecDepth 100000 in
theorem sl_X3_keepOldest : Cond.selects yX3_keepOldest.cls yX3_keepOldest yX3_keepOldest ∈ GW := gw_pv (q := (yX3_keepOldest, 20)) (List.mem_append_right _ (List.mem_append_left _ (List.mem_of_getElem? (i := 2) rfl)))
set_option maxRecDepth 100000 in
theorem sl_X3_dropOldest : Cond.selects yX3_dropOldest.cls yX3_dropOldest yX3_dropOldest ∈ GW := gw_pv (q := (yX3_dropOldest, 20)) (List.mem_append_right _ (List.mem_append_left _ (List.mem_of_getElem? (i := 12) rfl)))
set_option maxRecDepth 100000 in
theorem sl_X3_canRead : Cond.selects yX3_canRead.cls yX3_canRead yX3_canRead ∈ GW := gw_pv (q := (yX3_canRead, 20)) (List.mem_append_right _ (List.mem_append_left _ (List.mem_of_getElem? (i := 9) rfl)))
set_option maxRecDepth 100000 in
theorem sl_X3_valueRead : Cond.selects yX3_valueRead.cls yX3_valueRead yX3_valueRead ∈ GW := gw_pv (q := (yX3_valueRead, 20)) (List.mem_append_right _ (List.mem_append_left _ (List.mem_of_getElem? (i := 14) rfl)))
set_option maxRecDepth 100000 in
theorem sl_X3_nextOf : Cond.selects yX3_nextOf.cls yX3_nextOf yX3_nextOf ∈ GW := gw_pv (q := (yX3_nextOf, 20)) (List.mem_append_right _ (List.mem_append_left _ (List.mem_of_getElem? (i := 13) rfl)))
set_option maxRecDepth 100000 in
theorem sl_X3_workSkip : Cond.selects yX3_workSkip.cls yX3_workSkip yX3_workSkip ∈ GW := gw_pv (q := (yX3_workSkip, 20)) (List.mem_append_right _ (List.mem_append_left _ (List.mem_of_getElem? (i := 15) rfl)))
set_option maxRecDepth 100000 in
theorem sl_X3_sureOnes : Cond.selects yX3_sureOnes.cls yX3_sureOnes yX3_sureOnes ∈ GW := gw_pv (q := (yX3_sureOnes, 20)) (List.mem_append_right _ (List.mem_append_left _ (List.mem_of_getElem? (i := 6) rfl)))
set_option maxRecDepth 100000 in
theorem sl_X3_mergesNext : Cond.selects yX3_mergesNext.cls yX3_mergesNext yX3_mergesNext ∈ GW := gw_pv (q := (yX3_mergesNext, 20)) (List.mem_append_right _ (List.mem_append_left _ (List.mem_of_getElem? (i := 10) rfl)))
set_option maxRecDepth 100000 in
theorem sl_X3_cellToRead : Cond.selects yX3_cellToRead.cls yX3_cellToRead yX3_cellToRead ∈ GW := gw_pv (q := (yX3_cellToRead, 20)) (List.mem_append_right _ (List.mem_append_right _ (List.mem_append_left _ (List.mem_of_getElem? (i := 0) rfl))))
set_option maxRecDepth 100000 in
theorem sl_X3_saveIfRoom : Cond.selects yX3_saveIfRoom.cls yX3_saveIfRoom yX3_saveIfRoom ∈ GW := gw_pv (q := (yX3_saveIfRoom, 20)) (List.mem_append_right _ (List.mem_append_right _ (List.mem_append_left _ (List.mem_of_getElem? (i := 1) rfl))))
set_option maxRecDepth 100000 in
theorem sl_X3_claim : Cond.selects yX3_claim.cls yX3_claim yX3_claim ∈ GW := gw_pv (q := (yX3_claim, 20)) (List.mem_append_right _ (List.mem_append_right _ (List.mem_append_left _ (List.mem_of_getElem? (i := 2) rfl))))
set_option maxRecDepth 100000 in
theorem sl_X0_goOneCycle : Cond.selects yX0_goOneCycle.cls yX0_goOneCycle yX0_goOneCycle ∈ GW := gw_pv (q := (yX0_goOneCycle, 5)) (List.mem_append_right _ (List.mem_append_left _ (List.mem_of_getElem? (i := 11) rfl)))
set_option maxRecDepth 100000 in
theorem sl_X10_refused : Cond.selects yX10_refused.cls yX10_refused yX10_refused ∈ GW := gw_pv (q := (yX10_refused, 38)) (List.mem_append_right _ (List.mem_append_right _ (List.mem_append_left _ (List.mem_of_getElem? (i := 9) rfl))))
set_option maxRecDepth 100000 in
theorem sl_X10_works : Cond.selects yX10_works.cls yX10_works yX10_works ∈ GW := gw_pv (q := (yX10_works, 38)) (List.mem_append_right _ (List.mem_append_right _ (List.mem_append_right _ (List.mem_append_right _ (List.mem_append_left _ (List.mem_of_getElem? (i := 4) rfl))))))
set_option maxRecDepth 100000 in
theorem sl_X10_guessed : Cond.selects yX10_guessed.cls yX10_guessed yX10_guessed ∈ GW := gw_pv (q := (yX10_guessed, 38)) (List.mem_append_right _ (List.mem_append_right _ (List.mem_append_right _ (List.mem_append_right _ (List.mem_append_left _ (List.mem_of_getElem? (i := 0) rfl))))))
set_option maxRecDepth 100000 in
theorem sl_X10_setBy : Cond.selects yX10_setBy.cls yX10_setBy yX10_setBy ∈ GW := gw_pv (q := (yX10_setBy, 38)) (List.mem_append_right _ (List.mem_append_right _ (List.mem_append_right _ (List.mem_append_right _ (List.mem_append_left _ (List.mem_of_getElem? (i := 1) rfl))))))
set_option maxRecDepth 100000 in
theorem sl_X10_plainly : Cond.selects yX10_plainly.cls yX10_plainly yX10_plainly ∈ GW := gw_pv (q := (yX10_plainly, 38)) (List.mem_append_right _ (List.mem_append_right _ (List.mem_append_right _ (List.mem_append_left _ (List.mem_of_getElem? (i := 15) rfl)))))
set_option maxRecDepth 100000 in
theorem sl_X10_plainlyDone : Cond.selects yX10_plainlyDone.cls yX10_plainlyDone yX10_plainlyDone ∈ GW := gw_pv (q := (yX10_plainlyDone, 38)) (List.mem_append_right _ (List.mem_append_right _ (List.mem_append_right _ (List.mem_append_right _ (List.mem_append_left _ (List.mem_of_getElem? (i := 2) rfl))))))
set_option maxRecDepth 100000 in
theorem sl_X10_good : Cond.selects yX10_good.cls yX10_good yX10_good ∈ GW := gw_pv (q := (yX10_good, 38)) (List.mem_append_right _ (List.mem_append_right _ (List.mem_append_right _ (List.mem_append_left _ (List.mem_of_getElem? (i := 14) rfl)))))
set_option maxRecDepth 100000 in
theorem sl_X10_at : Cond.selects yX10_at.cls yX10_at yX10_at ∈ GW := gw_pv (q := (yX10_at, 38)) (List.mem_append_right _ (List.mem_append_right _ (List.mem_append_right _ (List.mem_append_right _ (List.mem_append_left _ (List.mem_of_getElem? (i := 7) rfl))))))
set_option maxRecDepth 100000 in
theorem sl_X10_has : Cond.selects yX10_has.cls yX10_has yX10_has ∈ GW := gw_pv (q := (yX10_has, 38)) (List.mem_append_right _ (List.mem_append_right _ (List.mem_append_right _ (List.mem_append_right _ (List.mem_append_left _ (List.mem_of_getElem? (i := 8) rfl))))))
set_option maxRecDepth 100000 in
theorem sl_X10_reads : Cond.selects yX10_reads.cls yX10_reads yX10_reads ∈ GW := gw_pv (q := (yX10_reads, 38)) (List.mem_append_right _ (List.mem_append_right _ (List.mem_append_right _ (List.mem_append_right _ (List.mem_append_left _ (List.mem_of_getElem? (i := 9) rfl))))))
set_option maxRecDepth 100000 in
theorem sl_X10_registerOf : Cond.selects yX10_registerOf.cls yX10_registerOf yX10_registerOf ∈ GW := gw_pv (q := (yX10_registerOf, 38)) (List.mem_append_right _ (List.mem_append_right _ (List.mem_append_right _ (List.mem_append_right _ (List.mem_append_left _ (List.mem_of_getElem? (i := 10) rfl))))))
set_option maxRecDepth 100000 in
theorem sl_X10_kindOf : Cond.selects yX10_kindOf.cls yX10_kindOf yX10_kindOf ∈ GW := gw_pv (q := (yX10_kindOf, 38)) (List.mem_append_right _ (List.mem_append_right _ (List.mem_append_right _ (List.mem_append_right _ (List.mem_append_left _ (List.mem_of_getElem? (i := 12) rfl))))))
set_option maxRecDepth 100000 in
theorem sl_X10_isSure : Cond.selects yX10_isSure.cls yX10_isSure yX10_isSure ∈ GW := gw_pv (q := (yX10_isSure, 38)) (List.mem_append_right _ (List.mem_append_right _ (List.mem_append_right _ (List.mem_append_right _ (List.mem_append_left _ (List.mem_of_getElem? (i := 11) rfl))))))
set_option maxRecDepth 100000 in
theorem sl_X10_isLetGo : Cond.selects yX10_isLetGo.cls yX10_isLetGo yX10_isLetGo ∈ GW := gw_pv (q := (yX10_isLetGo, 38)) (List.mem_append_right _ (List.mem_append_right _ (List.mem_append_right _ (List.mem_append_right _ (List.mem_append_left _ (List.mem_of_getElem? (i := 6) rfl))))))
set_option maxRecDepth 100000 in
theorem sl_X10_asTold : Cond.selects yX10_asTold.cls yX10_asTold yX10_asTold ∈ GW := gw_pv (q := (yX10_asTold, 38)) (List.mem_append_right _ (List.mem_append_right _ (List.mem_append_right _ (List.mem_append_left _ (List.mem_of_getElem? (i := 12) rfl)))))
set_option maxRecDepth 100000 in
theorem sl_X10_wrongGot : Cond.selects yX10_wrongGot.cls yX10_wrongGot yX10_wrongGot ∈ GW := gw_pv (q := (yX10_wrongGot, 38)) (List.mem_append_right _ (List.mem_append_right _ (List.mem_append_right _ (List.mem_append_right _ (List.mem_append_right _ (List.mem_append_right _ (List.mem_of_getElem? (i := 3) rfl)))))))
set_option maxRecDepth 100000 in
theorem sl_X10_fitting : Cond.selects yX10_fitting.cls yX10_fitting yX10_fitting ∈ GW := gw_pv (q := (yX10_fitting, 38)) (List.mem_append_right _ (List.mem_append_right _ (List.mem_append_right _ (List.mem_append_right _ (List.mem_append_right _ (List.mem_append_right _ (List.mem_of_getElem? (i := 2) rfl)))))))
set_option maxRecDepth 100000 in
theorem sl_X10_asks : Cond.selects yX10_asks.cls yX10_asks yX10_asks ∈ GW := gw_pv (q := (yX10_asks, 38)) (List.mem_append_right _ (List.mem_append_right _ (List.mem_append_right _ (List.mem_append_right _ (List.mem_append_right _ (List.mem_append_right _ (List.mem_of_getElem? (i := 4) rfl)))))))
set_option maxRecDepth 100000 in
theorem sl_X10_denied : Cond.selects yX10_denied.cls yX10_denied yX10_denied ∈ GW := gw_pv (q := (yX10_denied, 38)) (List.mem_append_right _ (List.mem_append_right _ (List.mem_append_right _ (List.mem_append_right _ (List.mem_append_right _ (List.mem_append_right _ (List.mem_of_getElem? (i := 10) rfl)))))))
set_option maxRecDepth 100000 in
theorem sl_X10_granted : Cond.selects yX10_granted.cls yX10_granted yX10_granted ∈ GW := gw_pv (q := (yX10_granted, 38)) (List.mem_append_right _ (List.mem_append_right _ (List.mem_append_right _ (List.mem_append_right _ (List.mem_append_right _ (List.mem_append_right _ (List.mem_of_getElem? (i := 11) rfl)))))))
set_option maxRecDepth 100000 in
theorem sl_X10_byteAt : Cond.selects yX10_byteAt.cls yX10_byteAt yX10_byteAt ∈ GW := gw_pv (q := (yX10_byteAt, 38)) (List.mem_append_right _ (List.mem_append_right _ (List.mem_append_left _ (List.mem_of_getElem? (i := 11) rfl))))
set_option maxRecDepth 100000 in
theorem sl_X10_isCell : Cond.selects yX10_isCell.cls yX10_isCell yX10_isCell ∈ GW := gw_pv (q := (yX10_isCell, 38)) (List.mem_append_right _ (List.mem_append_right _ (List.mem_append_right _ (List.mem_append_right _ (List.mem_append_left _ (List.mem_of_getElem? (i := 15) rfl))))))
set_option maxRecDepth 100000 in
theorem sl_X10_isReady : Cond.selects yX10_isReady.cls yX10_isReady yX10_isReady ∈ GW := gw_pv (q := (yX10_isReady, 38)) (List.mem_append_right _ (List.mem_append_right _ (List.mem_append_right _ (List.mem_append_right _ (List.mem_append_right _ (List.mem_append_left _ (List.mem_of_getElem? (i := 0) rfl)))))))
set_option maxRecDepth 100000 in
theorem sl_X10_letGoNow : Cond.selects yX10_letGoNow.cls yX10_letGoNow yX10_letGoNow ∈ GW := gw_pv (q := (yX10_letGoNow, 38)) (List.mem_append_right _ (List.mem_append_right _ (List.mem_append_right _ (List.mem_append_right _ (List.mem_append_left _ (List.mem_of_getElem? (i := 14) rfl))))))
set_option maxRecDepth 100000 in
theorem sl_X10_holders : Cond.selects yX10_holders.cls yX10_holders yX10_holders ∈ GW := gw_pv (q := (yX10_holders, 38)) (List.mem_append_right _ (List.mem_append_right _ (List.mem_append_right _ (List.mem_append_right _ (List.mem_append_right _ (List.mem_append_left _ (List.mem_of_getElem? (i := 1) rfl)))))))
set_option maxRecDepth 100000 in
theorem sl_X10_waitingFor : Cond.selects yX10_waitingFor.cls yX10_waitingFor yX10_waitingFor ∈ GW := gw_pv (q := (yX10_waitingFor, 38)) (List.mem_append_right _ (List.mem_append_right _ (List.mem_append_right _ (List.mem_append_right _ (List.mem_append_right _ (List.mem_append_left _ (List.mem_of_getElem? (i := 2) rfl)))))))
set_option maxRecDepth 100000 in
theorem sl_X10_whyNoCommit : Cond.selects yX10_whyNoCommit.cls yX10_whyNoCommit yX10_whyNoCommit ∈ GW := gw_pv (q := (yX10_whyNoCommit, 38)) (List.mem_append_right _ (List.mem_append_right _ (List.mem_append_right _ (List.mem_append_right _ (List.mem_append_right _ (List.mem_append_left _ (List.mem_of_getElem? (i := 9) rfl)))))))
set_option maxRecDepth 100000 in
theorem sl_X10_commitsOne : Cond.selects yX10_commitsOne.cls yX10_commitsOne yX10_commitsOne ∈ GW := gw_pv (q := (yX10_commitsOne, 38)) (List.mem_append_right _ (List.mem_append_right _ (List.mem_append_right _ (List.mem_append_right _ (List.mem_append_right _ (List.mem_append_left _ (List.mem_of_getElem? (i := 13) rfl)))))))
set_option maxRecDepth 100000 in
theorem sl_X10_isRunnable : Cond.selects yX10_isRunnable.cls yX10_isRunnable yX10_isRunnable ∈ GW := gw_pv (q := (yX10_isRunnable, 38)) (List.mem_append_right _ (List.mem_append_right _ (List.mem_append_right _ (List.mem_append_right _ (List.mem_append_right _ (List.mem_append_left _ (List.mem_of_getElem? (i := 5) rfl)))))))
set_option maxRecDepth 100000 in
theorem sl_X10_runsOne : Cond.selects yX10_runsOne.cls yX10_runsOne yX10_runsOne ∈ GW := gw_pv (q := (yX10_runsOne, 38)) (List.mem_append_right _ (List.mem_append_right _ (List.mem_append_right _ (List.mem_append_right _ (List.mem_append_right _ (List.mem_append_left _ (List.mem_of_getElem? (i := 14) rfl)))))))
set_option maxRecDepth 100000 in
theorem sl_X10_mapOf : Cond.selects yX10_mapOf.cls yX10_mapOf yX10_mapOf ∈ GW := gw_pv (q := (yX10_mapOf, 38)) (List.mem_append_right _ (List.mem_append_right _ (List.mem_append_right _ (List.mem_append_right _ (List.mem_append_left _ (List.mem_of_getElem? (i := 13) rfl))))))
set_option maxRecDepth 100000 in
theorem sl_X10_isMerging : Cond.selects yX10_isMerging.cls yX10_isMerging yX10_isMerging ∈ GW := gw_pv (q := (yX10_isMerging, 38)) (List.mem_append_right _ (List.mem_append_right _ (List.mem_append_right _ (List.mem_append_right _ (List.mem_append_right _ (List.mem_append_left _ (List.mem_of_getElem? (i := 7) rfl)))))))
set_option maxRecDepth 100000 in
theorem sl_X10_freeNow : Cond.selects yX10_freeNow.cls yX10_freeNow yX10_freeNow ∈ GW := gw_pv (q := (yX10_freeNow, 38)) (List.mem_append_right _ (List.mem_append_right _ (List.mem_append_right _ (List.mem_append_right _ (List.mem_append_right _ (List.mem_append_left _ (List.mem_of_getElem? (i := 3) rfl)))))))
set_option maxRecDepth 100000 in
theorem sl_X10_lowestFree : Cond.selects yX10_lowestFree.cls yX10_lowestFree yX10_lowestFree ∈ GW := gw_pv (q := (yX10_lowestFree, 38)) (List.mem_append_right _ (List.mem_append_right _ (List.mem_append_right _ (List.mem_append_right _ (List.mem_append_right _ (List.mem_append_left _ (List.mem_of_getElem? (i := 8) rfl)))))))
set_option maxRecDepth 100000 in
theorem sl_X10_whyNoFetch : Cond.selects yX10_whyNoFetch.cls yX10_whyNoFetch yX10_whyNoFetch ∈ GW := gw_pv (q := (yX10_whyNoFetch, 38)) (List.mem_append_right _ (List.mem_append_right _ (List.mem_append_right _ (List.mem_append_right _ (List.mem_append_right _ (List.mem_append_left _ (List.mem_of_getElem? (i := 6) rfl)))))))
set_option maxRecDepth 100000 in
theorem sl_X10_savesNow : Cond.selects yX10_savesNow.cls yX10_savesNow yX10_savesNow ∈ GW := gw_pv (q := (yX10_savesNow, 38)) (List.mem_append_right _ (List.mem_append_right _ (List.mem_append_right _ (List.mem_append_right _ (List.mem_append_right _ (List.mem_append_right _ (List.mem_of_getElem? (i := 0) rfl)))))))
set_option maxRecDepth 100000 in
theorem sl_X10_fetches : Cond.selects yX10_fetches.cls yX10_fetches yX10_fetches ∈ GW := gw_pv (q := (yX10_fetches, 38)) (List.mem_append_right _ (List.mem_append_right _ (List.mem_append_right _ (List.mem_append_right _ (List.mem_append_right _ (List.mem_append_left _ (List.mem_of_getElem? (i := 15) rfl)))))))
set_option maxRecDepth 100000 in
theorem sl_X10_cycle : Cond.selects yX10_cycle.cls yX10_cycle yX10_cycle ∈ GW := gw_pv (q := (yX10_cycle, 38)) (List.mem_append_right _ (List.mem_append_right _ (List.mem_append_right _ (List.mem_append_right _ (List.mem_append_right _ (List.mem_append_left _ (List.mem_of_getElem? (i := 12) rfl)))))))
set_option maxRecDepth 100000 in
theorem sl_X10_goes : Cond.selects yX10_goes.cls yX10_goes yX10_goes ∈ GW := gw_pv (q := (yX10_goes, 38)) (List.mem_append_right _ (List.mem_append_right _ (List.mem_append_right _ (List.mem_append_right _ (List.mem_append_right _ (List.mem_append_left _ (List.mem_of_getElem? (i := 11) rfl)))))))
set_option maxRecDepth 100000 in
theorem sl_X10_remembers : Cond.selects yX10_remembers.cls yX10_remembers yX10_remembers ∈ GW := gw_pv (q := (yX10_remembers, 38)) (List.mem_append_right _ (List.mem_append_right _ (List.mem_append_right _ (List.mem_append_right _ (List.mem_append_right _ (List.mem_append_right _ (List.mem_of_getElem? (i := 8) rfl)))))))
set_option maxRecDepth 100000 in
theorem sl_X10_remains : Cond.selects yX10_remains.cls yX10_remains yX10_remains ∈ GW := gw_pv (q := (yX10_remains, 38)) (List.mem_append_right _ (List.mem_append_right _ (List.mem_append_right _ (List.mem_append_left _ (List.mem_of_getElem? (i := 13) rfl)))))
set_option maxRecDepth 100000 in
theorem sl_X10_done : Cond.selects yX10_done.cls yX10_done yX10_done ∈ GW := gw_pv (q := (yX10_done, 38)) (List.mem_append_right _ (List.mem_append_right _ (List.mem_append_right _ (List.mem_append_right _ (List.mem_append_right _ (List.mem_append_right _ (List.mem_of_getElem? (i := 9) rfl)))))))
set_option maxRecDepth 100000 in
theorem sl_X10_refusesCells : Cond.selects yX10_refusesCells.cls yX10_refusesCells yX10_refusesCells ∈ GW := gw_pv (q := (yX10_refusesCells, 38)) (List.mem_append_right _ (List.mem_append_right _ (List.mem_append_right _ (List.mem_append_right _ (List.mem_append_right _ (List.mem_append_left _ (List.mem_of_getElem? (i := 10) rfl)))))))
set_option maxRecDepth 100000 in
theorem sl_X10_goesOn : Cond.selects yX10_goesOn.cls yX10_goesOn yX10_goesOn ∈ GW := gw_pv (q := (yX10_goesOn, 38)) (List.mem_append_right _ (List.mem_append_right _ (List.mem_append_left _ (List.mem_of_getElem? (i := 10) rfl))))
set_option maxRecDepth 100000 in
theorem sl_X10_isWord : Cond.selects yX10_isWord.cls yX10_isWord yX10_isWord ∈ GW := gw_pv (q := (yX10_isWord, 38)) (List.mem_append_right _ (List.mem_append_right _ (List.mem_append_left _ (List.mem_of_getElem? (i := 14) rfl))))
set_option maxRecDepth 100000 in
theorem sl_X10_flaw : Cond.selects yX10_flaw.cls yX10_flaw yX10_flaw ∈ GW := gw_pv (q := (yX10_flaw, 38)) (List.mem_append_right _ (List.mem_append_right _ (List.mem_append_right _ (List.mem_append_left _ (List.mem_of_getElem? (i := 0) rfl)))))
set_option maxRecDepth 100000 in
theorem sl_X10_needs : Cond.selects yX10_needs.cls yX10_needs yX10_needs ∈ GW := gw_pv (q := (yX10_needs, 38)) (List.mem_append_right _ (List.mem_append_right _ (List.mem_append_right _ (List.mem_append_left _ (List.mem_of_getElem? (i := 2) rfl)))))
set_option maxRecDepth 100000 in
theorem sl_X10_wholeAt : Cond.selects yX10_wholeAt.cls yX10_wholeAt yX10_wholeAt ∈ GW := gw_pv (q := (yX10_wholeAt, 38)) (List.mem_append_right _ (List.mem_append_right _ (List.mem_append_right _ (List.mem_append_left _ (List.mem_of_getElem? (i := 4) rfl)))))
set_option maxRecDepth 100000 in
theorem sl_X10_readWhole : Cond.selects yX10_readWhole.cls yX10_readWhole yX10_readWhole ∈ GW := gw_pv (q := (yX10_readWhole, 38)) (List.mem_append_right _ (List.mem_append_right _ (List.mem_append_right _ (List.mem_append_left _ (List.mem_of_getElem? (i := 3) rfl)))))
set_option maxRecDepth 100000 in
theorem sl_X10_readPart : Cond.selects yX10_readPart.cls yX10_readPart yX10_readPart ∈ GW := gw_pv (q := (yX10_readPart, 38)) (List.mem_append_right _ (List.mem_append_right _ (List.mem_append_right _ (List.mem_append_left _ (List.mem_of_getElem? (i := 1) rfl)))))
set_option maxRecDepth 100000 in
theorem sl_X10_readCore : Cond.selects yX10_readCore.cls yX10_readCore yX10_readCore ∈ GW := gw_pv (q := (yX10_readCore, 38)) (List.mem_append_right _ (List.mem_append_right _ (List.mem_append_left _ (List.mem_of_getElem? (i := 15) rfl))))
set_option maxRecDepth 100000 in
theorem sl_X10_kindAtHand : Cond.selects yX10_kindAtHand.cls yX10_kindAtHand yX10_kindAtHand ∈ GW := gw_pv (q := (yX10_kindAtHand, 38)) (List.mem_append_right _ (List.mem_append_right _ (List.mem_append_right _ (List.mem_append_left _ (List.mem_of_getElem? (i := 5) rfl)))))
set_option maxRecDepth 100000 in
theorem sl_X10_lineBegins : Cond.selects yX10_lineBegins.cls yX10_lineBegins yX10_lineBegins ∈ GW := gw_pv (q := (yX10_lineBegins, 38)) (List.mem_append_right _ (List.mem_append_right _ (List.mem_append_right _ (List.mem_append_left _ (List.mem_of_getElem? (i := 7) rfl)))))
set_option maxRecDepth 100000 in
theorem sl_X10_readRegister : Cond.selects yX10_readRegister.cls yX10_readRegister yX10_readRegister ∈ GW := gw_pv (q := (yX10_readRegister, 38)) (List.mem_append_right _ (List.mem_append_right _ (List.mem_append_right _ (List.mem_append_left _ (List.mem_of_getElem? (i := 8) rfl)))))
set_option maxRecDepth 100000 in
theorem sl_X10_readStep : Cond.selects yX10_readStep.cls yX10_readStep yX10_readStep ∈ GW := gw_pv (q := (yX10_readStep, 38)) (List.mem_append_right _ (List.mem_append_right _ (List.mem_append_right _ (List.mem_append_left _ (List.mem_of_getElem? (i := 6) rfl)))))
set_option maxRecDepth 100000 in
theorem sl_X10_readUnsure : Cond.selects yX10_readUnsure.cls yX10_readUnsure yX10_readUnsure ∈ GW := gw_pv (q := (yX10_readUnsure, 38)) (List.mem_append_right _ (List.mem_append_right _ (List.mem_append_right _ (List.mem_append_left _ (List.mem_of_getElem? (i := 9) rfl)))))
set_option maxRecDepth 100000 in
theorem sl_X10_readGot : Cond.selects yX10_readGot.cls yX10_readGot yX10_readGot ∈ GW := gw_pv (q := (yX10_readGot, 38)) (List.mem_append_right _ (List.mem_append_right _ (List.mem_append_right _ (List.mem_append_left _ (List.mem_of_getElem? (i := 10) rfl)))))
set_option maxRecDepth 100000 in
theorem sl_X10_readLine : Cond.selects yX10_readLine.cls yX10_readLine yX10_readLine ∈ GW := gw_pv (q := (yX10_readLine, 38)) (List.mem_append_right _ (List.mem_append_right _ (List.mem_append_left _ (List.mem_of_getElem? (i := 13) rfl))))
set_option maxRecDepth 100000 in
theorem sl_X10_eatsSemicolon : Cond.selects yX10_eatsSemicolon.cls yX10_eatsSemicolon yX10_eatsSemicolon ∈ GW := gw_pv (q := (yX10_eatsSemicolon, 38)) (List.mem_append_right _ (List.mem_append_right _ (List.mem_append_right _ (List.mem_append_left _ (List.mem_of_getElem? (i := 11) rfl)))))
set_option maxRecDepth 100000 in
theorem sl_X10_readAll : Cond.selects yX10_readAll.cls yX10_readAll yX10_readAll ∈ GW := gw_pv (q := (yX10_readAll, 38)) (List.mem_append_right _ (List.mem_append_right _ (List.mem_append_left _ (List.mem_of_getElem? (i := 12) rfl))))
set_option maxRecDepth 100000 in
theorem sl_X10_refusesDraw : Cond.selects yX10_refusesDraw.cls yX10_refusesDraw yX10_refusesDraw ∈ GW := gw_pv (q := (yX10_refusesDraw, 38)) (List.mem_append_right _ (List.mem_append_right _ (List.mem_append_right _ (List.mem_append_right _ (List.mem_append_right _ (List.mem_append_right _ (List.mem_of_getElem? (i := 5) rfl)))))))
set_option maxRecDepth 100000 in
theorem sl_X10_draws : Cond.selects yX10_draws.cls yX10_draws yX10_draws ∈ GW := gw_pv (q := (yX10_draws, 38)) (List.mem_append_right _ (List.mem_append_right _ (List.mem_append_right _ (List.mem_append_right _ (List.mem_append_right _ (List.mem_append_right _ (List.mem_of_getElem? (i := 7) rfl)))))))
set_option maxRecDepth 100000 in
theorem sl_X10_tries : Cond.selects yX10_tries.cls yX10_tries yX10_tries ∈ GW := gw_pv (q := (yX10_tries, 38)) (List.mem_append_right _ (List.mem_append_right _ (List.mem_append_right _ (List.mem_append_right _ (List.mem_append_right _ (List.mem_append_right _ (List.mem_of_getElem? (i := 6) rfl)))))))
set_option maxRecDepth 100000 in
theorem sl_X10_isRegister : Cond.selects yX10_isRegister.cls yX10_isRegister yX10_isRegister ∈ GW := gw_pv (q := (yX10_isRegister, 38)) (List.mem_append_right _ (List.mem_append_right _ (List.mem_append_right _ (List.mem_append_right _ (List.mem_append_left _ (List.mem_of_getElem? (i := 3) rfl))))))
set_option maxRecDepth 100000 in
theorem sl_X10_valueOf : Cond.selects yX10_valueOf.cls yX10_valueOf yX10_valueOf ∈ GW := gw_pv (q := (yX10_valueOf, 38)) (List.mem_append_right _ (List.mem_append_right _ (List.mem_append_right _ (List.mem_append_right _ (List.mem_append_left _ (List.mem_of_getElem? (i := 5) rfl))))))
set_option maxRecDepth 100000 in
theorem sl_X10_isEntry : Cond.selects yX10_isEntry.cls yX10_isEntry yX10_isEntry ∈ GW := gw_pv (q := (yX10_isEntry, 38)) (List.mem_append_right _ (List.mem_append_right _ (List.mem_append_right _ (List.mem_append_right _ (List.mem_append_right _ (List.mem_append_left _ (List.mem_of_getElem? (i := 4) rfl)))))))
set_option maxRecDepth 100000 in
theorem sl_X10_fraction : Cond.selects yX10_fraction.cls yX10_fraction yX10_fraction ∈ GW := gw_pv (q := (yX10_fraction, 38)) (List.mem_append_right _ (List.mem_append_right _ (List.mem_append_right _ (List.mem_append_right _ (List.mem_append_right _ (List.mem_append_right _ (List.mem_of_getElem? (i := 1) rfl)))))))
set_option maxRecDepth 100000 in
theorem sl_X10_savesThere : Cond.selects yX10_savesThere.cls yX10_savesThere yX10_savesThere ∈ GW := gw_pv (q := (yX10_savesThere, 38)) (List.mem_append_right _ (List.mem_append_right _ (List.mem_append_right _ (List.mem_append_right _ (List.mem_append_right _ (List.mem_append_right _ (List.mem_of_getElem? (i := 12) rfl)))))))
set_option maxRecDepth 100000 in
theorem sl_X1_fitsBy : Cond.selects yX1_fitsBy.cls yX1_fitsBy yX1_fitsBy ∈ GW := gw_pv (q := (yX1_fitsBy, 2)) (List.mem_append_right _ (List.mem_append_right _ (List.mem_append_left _ (List.mem_of_getElem? (i := 3) rfl))))
set_option maxRecDepth 100000 in
theorem sl_X4_read : Cond.selects yX4_read.cls yX4_read yX4_read ∈ GW := gw_pv (q := (yX4_read, 5)) (List.mem_append_right _ (List.mem_append_left _ (List.mem_of_getElem? (i := 4) rfl)))
set_option maxRecDepth 100000 in
theorem sl_X4_playStep : Cond.selects yX4_playStep.cls yX4_playStep yX4_playStep ∈ GW := gw_pv (q := (yX4_playStep, 5)) (List.mem_append_right _ (List.mem_append_left _ (List.mem_of_getElem? (i := 3) rfl)))
set_option maxRecDepth 100000 in
theorem sl_X6_advance : Cond.selects yX6_advance.cls yX6_advance yX6_advance ∈ GW := gw_pv (q := (yX6_advance, 8)) (List.mem_append_left _ (List.mem_of_getElem? (i := 7) rfl))
set_option maxRecDepth 100000 in
theorem sl_X6_fails : Cond.selects yX6_fails.cls yX6_fails yX6_fails ∈ GW := gw_pv (q := (yX6_fails, 8)) (List.mem_append_left _ (List.mem_of_getElem? (i := 5) rfl))
set_option maxRecDepth 100000 in
theorem sl_X6_failsAt : Cond.selects yX6_failsAt.cls yX6_failsAt yX6_failsAt ∈ GW := gw_pv (q := (yX6_failsAt, 8)) (List.mem_append_left _ (List.mem_of_getElem? (i := 12) rfl))
set_option maxRecDepth 100000 in
theorem sl_X6_isWord : Cond.selects yX6_isWord.cls yX6_isWord yX6_isWord ∈ GW := gw_pv (q := (yX6_isWord, 8)) (List.mem_append_left _ (List.mem_of_getElem? (i := 4) rfl))
set_option maxRecDepth 100000 in
theorem sl_X6_wholeHere : Cond.selects yX6_wholeHere.cls yX6_wholeHere yX6_wholeHere ∈ GW := gw_pv (q := (yX6_wholeHere, 8)) (List.mem_append_left _ (List.mem_of_getElem? (i := 10) rfl))
set_option maxRecDepth 100000 in
theorem sl_X6_takesWhole : Cond.selects yX6_takesWhole.cls yX6_takesWhole yX6_takesWhole ∈ GW := gw_pv (q := (yX6_takesWhole, 8)) (List.mem_append_left _ (List.mem_of_getElem? (i := 9) rfl))
set_option maxRecDepth 100000 in
theorem sl_X6_takesPair : Cond.selects yX6_takesPair.cls yX6_takesPair yX6_takesPair ∈ GW := gw_pv (q := (yX6_takesPair, 8)) (List.mem_append_left _ (List.mem_of_getElem? (i := 15) rfl))
set_option maxRecDepth 100000 in
theorem sl_X6_readChange : Cond.selects yX6_readChange.cls yX6_readChange yX6_readChange ∈ GW := gw_pv (q := (yX6_readChange, 8)) (List.mem_append_right _ (List.mem_append_left _ (List.mem_of_getElem? (i := 0) rfl)))
set_option maxRecDepth 100000 in
theorem sl_X6_takesWord : Cond.selects yX6_takesWord.cls yX6_takesWord yX6_takesWord ∈ GW := gw_pv (q := (yX6_takesWord, 8)) (List.mem_append_left _ (List.mem_of_getElem? (i := 8) rfl))
set_option maxRecDepth 100000 in
theorem sl_X6_readCore : Cond.selects yX6_readCore.cls yX6_readCore yX6_readCore ∈ GW := gw_pv (q := (yX6_readCore, 8)) (List.mem_append_left _ (List.mem_of_getElem? (i := 6) rfl))
set_option maxRecDepth 100000 in
theorem sl_X6_readGot : Cond.selects yX6_readGot.cls yX6_readGot yX6_readGot ∈ GW := gw_pv (q := (yX6_readGot, 8)) (List.mem_append_left _ (List.mem_of_getElem? (i := 13) rfl))
set_option maxRecDepth 100000 in
theorem sl_X6_sortOfLine : Cond.selects yX6_sortOfLine.cls yX6_sortOfLine yX6_sortOfLine ∈ GW := gw_pv (q := (yX6_sortOfLine, 8)) (List.mem_append_left _ (List.mem_of_getElem? (i := 3) rfl))
set_option maxRecDepth 100000 in
theorem sl_X6_readUnsure : Cond.selects yX6_readUnsure.cls yX6_readUnsure yX6_readUnsure ∈ GW := gw_pv (q := (yX6_readUnsure, 8)) (List.mem_append_left _ (List.mem_of_getElem? (i := 11) rfl))
set_option maxRecDepth 100000 in
theorem sl_X6_readSkip : Cond.selects yX6_readSkip.cls yX6_readSkip yX6_readSkip ∈ GW := gw_pv (q := (yX6_readSkip, 8)) (List.mem_append_left _ (List.mem_of_getElem? (i := 14) rfl))
set_option maxRecDepth 100000 in
theorem sl_X6_readLine : Cond.selects yX6_readLine.cls yX6_readLine yX6_readLine ∈ GW := gw_pv (q := (yX6_readLine, 8)) (List.mem_append_left _ (List.mem_of_getElem? (i := 2) rfl))
set_option maxRecDepth 100000 in
theorem sl_X8_refused : Cond.selects yX8_refused.cls yX8_refused yX8_refused ∈ GW := gw_pv (q := (yX8_refused, 13)) (List.mem_append_left _ (List.mem_of_getElem? (i := 1) rfl))
set_option maxRecDepth 100000 in
theorem sl_X8_plainTotal : Cond.selects yX8_plainTotal.cls yX8_plainTotal yX8_plainTotal ∈ GW := gw_pv (q := (yX8_plainTotal, 13)) (List.mem_append_right _ (List.mem_append_left _ (List.mem_of_getElem? (i := 5) rfl)))
set_option maxRecDepth 100000 in
theorem sl_X8_beginWithDraft : Cond.selects yX8_beginWithDraft.cls yX8_beginWithDraft yX8_beginWithDraft ∈ GW := gw_pv (q := (yX8_beginWithDraft, 13)) (List.mem_append_right _ (List.mem_append_left _ (List.mem_of_getElem? (i := 1) rfl)))
set_option maxRecDepth 100000 in
theorem sl_X8_workIfPossible : Cond.selects yX8_workIfPossible.cls yX8_workIfPossible yX8_workIfPossible ∈ GW := gw_pv (q := (yX8_workIfPossible, 13)) (List.mem_append_right _ (List.mem_append_right _ (List.mem_append_left _ (List.mem_of_getElem? (i := 5) rfl))))
set_option maxRecDepth 100000 in
theorem sl_X8_drawTries : Cond.selects yX8_drawTries.cls yX8_drawTries yX8_drawTries ∈ GW := gw_pv (q := (yX8_drawTries, 13)) (List.mem_append_right _ (List.mem_append_right _ (List.mem_append_left _ (List.mem_of_getElem? (i := 4) rfl))))
set_option maxRecDepth 100000 in
theorem sl_X8_isEntry : Cond.selects yX8_isEntry.cls yX8_isEntry yX8_isEntry ∈ GW := gw_pv (q := (yX8_isEntry, 13)) (List.mem_append_right _ (List.mem_append_left _ (List.mem_of_getElem? (i := 8) rfl)))
set_option maxRecDepth 100000 in
theorem sl_X8_putBytes : Cond.selects yX8_putBytes.cls yX8_putBytes yX8_putBytes ∈ GW := gw_pv (q := (yX8_putBytes, 13)) (List.mem_append_left _ (List.mem_of_getElem? (i := 0) rfl))
set_option maxRecDepth 100000 in
theorem sl_X8_sizeOfText : Cond.selects yX8_sizeOfText.cls yX8_sizeOfText yX8_sizeOfText ∈ GW := gw_pv (q := (yX8_sizeOfText, 13)) (List.mem_append_right _ (List.mem_append_right _ (List.mem_append_left _ (List.mem_of_getElem? (i := 6) rfl))))
set_option maxRecDepth 100000 in
theorem sl_X8_sizeOfState : Cond.selects yX8_sizeOfState.cls yX8_sizeOfState yX8_sizeOfState ∈ GW := gw_pv (q := (yX8_sizeOfState, 13)) (List.mem_append_right _ (List.mem_append_right _ (List.mem_append_left _ (List.mem_of_getElem? (i := 7) rfl))))
