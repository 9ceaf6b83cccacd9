theorem lc_0 : Int64.ofNat ((0 : Fin 2) : Nat) = 0 := by decide
theorem lc_1 : Int64.ofNat ((1 : Fin 2) : Nat) = 1 := by decide
theorem kb_m9 : (Int8.ofInt (-9)).toInt32 = (-9) := by decide
theorem kb_m2 : (Int8.ofInt (-2)).toInt32 = (-2) := by decide
theorem kb_6 : (Int8.ofInt 6).toInt32 = 6 := by decide
theorem kb_7 : (Int8.ofInt 7).toInt32 = 7 := by decide
theorem kb_8 : (Int8.ofInt 8).toInt32 = 8 := by decide
theorem kb_9 : (Int8.ofInt 9).toInt32 = 9 := by decide
theorem kb_10 : (Int8.ofInt 10).toInt32 = 10 := by decide
theorem kb_12 : (Int8.ofInt 12).toInt32 = 12 := by decide
theorem kb_13 : (Int8.ofInt 13).toInt32 = 13 := by decide
theorem kb_16 : (Int8.ofInt 16).toInt32 = 16 := by decide
theorem kb_20 : (Int8.ofInt 20).toInt32 = 20 := by decide
theorem kb_23 : (Int8.ofInt 23).toInt32 = 23 := by decide
theorem kb_24 : (Int8.ofInt 24).toInt32 = 24 := by decide
theorem kb_32 : (Int8.ofInt 32).toInt32 = 32 := by decide
theorem kb_33 : (Int8.ofInt 33).toInt32 = 33 := by decide
theorem kb_34 : (Int8.ofInt 34).toInt32 = 34 := by decide
theorem kb_35 : (Int8.ofInt 35).toInt32 = 35 := by decide
theorem kb_36 : (Int8.ofInt 36).toInt32 = 36 := by decide
theorem kb_37 : (Int8.ofInt 37).toInt32 = 37 := by decide
theorem kb_38 : (Int8.ofInt 38).toInt32 = 38 := by decide
theorem kb_39 : (Int8.ofInt 39).toInt32 = 39 := by decide
theorem kb_48 : (Int8.ofInt 48).toInt32 = 48 := by decide
theorem kb_57 : (Int8.ofInt 57).toInt32 = 57 := by decide
theorem kb_59 : (Int8.ofInt 59).toInt32 = 59 := by decide
theorem kb_63 : (Int8.ofInt 63).toInt32 = 63 := by decide
theorem kb_74 : (Int8.ofInt 74).toInt32 = 74 := by decide
theorem kb_75 : (Int8.ofInt 75).toInt32 = 75 := by decide
theorem kb_97 : (Int8.ofInt 97).toInt32 = 97 := by decide
theorem kb_122 : (Int8.ofInt 122).toInt32 = 122 := by decide
theorem kc_m8 : Int32.ofInt (-8) = (-8) := by decide
theorem kc_m1 : Int32.ofInt (-1) = (-1) := by decide
theorem kc_0 : Int32.ofInt 0 = 0 := by decide
theorem kc_1 : Int32.ofInt 1 = 1 := by decide
theorem kc_2 : Int32.ofInt 2 = 2 := by decide
theorem kc_3 : Int32.ofInt 3 = 3 := by decide
theorem kc_4 : Int32.ofInt 4 = 4 := by decide
theorem kc_5 : Int32.ofInt 5 = 5 := by decide
theorem kc_8 : Int32.ofInt 8 = 8 := by decide
theorem kc_16 : Int32.ofInt 16 = 16 := by decide
theorem ks_182 : (Int16.ofInt 182).toInt32 = 182 := by decide
theorem ks_195 : (Int16.ofInt 195).toInt32 = 195 := by decide
theorem ks_200 : (Int16.ofInt 200).toInt32 = 200 := by decide
theorem ks_255 : (Int16.ofInt 255).toInt32 = 255 := by decide
theorem ks_256 : (Int16.ofInt 256).toInt32 = 256 := by decide
theorem ks_300 : (Int16.ofInt 300).toInt32 = 300 := by decide
theorem ks_585 : (Int16.ofInt 585).toInt32 = 585 := by decide
theorem ks_900 : (Int16.ofInt 900).toInt32 = 900 := by decide
theorem ks_901 : (Int16.ofInt 901).toInt32 = 901 := by decide
theorem ks_2925 : (Int16.ofInt 2925).toInt32 = 2925 := by decide
theorem ks_3120 : (Int16.ofInt 3120).toInt32 = 3120 := by decide
theorem ks_9999 : (Int16.ofInt 9999).toInt32 = 9999 := by decide
theorem ks_10000 : (Int16.ofInt 10000).toInt32 = 10000 := by decide
theorem tw_11 : Cond.initialized "java/lang/Math" ∈ GW := gw_t 11 (by decide +kernel) rfl
theorem tw_19 : Cond.initialized "java/lang/System" ∈ GW := gw_t 19 (by decide +kernel) rfl
theorem tw_29 : Cond.methodLink RX8 1 objectInit ∈ GW := gw_t 29 (by decide +kernel) rfl
theorem tw_30 : Cond.instanceMethod objectInit ∈ GW := gw_t 30 (by decide +kernel) rfl
theorem tw_31 : Cond.code objectInit ⟨#[0xb1]⟩ 1 none ∈ GW := gw_t 31 (by decide +kernel) rfl
theorem tw_32 : Cond.classLink RX8 13 RX5 ∈ GW := gw_t 32 (by decide +kernel) rfl
theorem tw_37 : Cond.methodLink RX5 3 objectInit ∈ GW := gw_t 37 (by decide +kernel) rfl
theorem tw_130 : Cond.arrayClass .byte ∈ GW := gw_t 130 (by decide +kernel) rfl
theorem tw_131 : Cond.arrayClass .int ∈ GW := gw_t 131 (by decide +kernel) rfl
theorem tw_132 : Cond.arrayClass .boolean ∈ GW := gw_t 132 (by decide +kernel) rfl
theorem tw_133 : Cond.classLink RX8 23 RX6 ∈ GW := gw_t 133 (by decide +kernel) rfl
theorem tw_138 : Cond.methodLink RX6 3 objectInit ∈ GW := gw_t 138 (by decide +kernel) rfl
theorem tw_139 : Cond.classLink RX6 15 RX7 ∈ GW := gw_t 139 (by decide +kernel) rfl
theorem tw_144 : Cond.methodLink RX7 3 objectInit ∈ GW := gw_t 144 (by decide +kernel) rfl
theorem tw_189 : Cond.classLink RX8 32 RX3 ∈ GW := gw_t 189 (by decide +kernel) rfl
theorem tw_194 : Cond.methodLink RX3 3 objectInit ∈ GW := gw_t 194 (by decide +kernel) rfl
theorem tw_274 : Cond.classLink RX8 42 RX2 ∈ GW := gw_t 274 (by decide +kernel) rfl
theorem tw_279 : Cond.methodLink RX2 3 objectInit ∈ GW := gw_t 279 (by decide +kernel) rfl
theorem tw_280 : Cond.classLink RX2 9 RX3 ∈ GW := gw_t 280 (by decide +kernel) rfl
theorem tw_301 : Cond.classLink RX8 49 RX4 ∈ GW := gw_t 301 (by decide +kernel) rfl
theorem tw_306 : Cond.methodLink RX4 3 objectInit ∈ GW := gw_t 306 (by decide +kernel) rfl
theorem tw_328 : Cond.classLink RX8 56 RX0 ∈ GW := gw_t 328 (by decide +kernel) rfl
theorem tw_333 : Cond.methodLink RX0 3 objectInit ∈ GW := gw_t 333 (by decide +kernel) rfl
theorem tw_334 : Cond.classLink RX0 24 RX3 ∈ GW := gw_t 334 (by decide +kernel) rfl
theorem tw_356 : Cond.classLink RX8 63 RX1 ∈ GW := gw_t 356 (by decide +kernel) rfl
theorem tw_361 : Cond.methodLink RX1 3 objectInit ∈ GW := gw_t 361 (by decide +kernel) rfl
theorem tw_429 : Cond.methodLink RX6 26 Lib.Math.min.name ∈ GW := gw_t 429 (by decide +kernel) rfl
theorem tw_430 : Cond.static Lib.Math.min.name ∈ GW := gw_t 430 (by decide +kernel) rfl
theorem tw_431 : Cond.code Lib.Math.min.name Lib.Math.min.code 2 (some .int) ∈ GW := gw_t 431 (by decide +kernel) rfl
theorem tw_476 : Cond.fieldLink RJ0 38 "java/lang/String" "COMPACT_STRINGS" "Z" ∈ GW := gw_t 476 (by decide +kernel) rfl
theorem tw_492 : Cond.fieldLink RJ0 1053 "jdk/internal/util/Preconditions" "SIOOBE_FORMATTER" "Ljava/util/function/BiFunction;" ∈ GW := gw_t 492 (by decide +kernel) rfl
theorem tw_715 : Cond.constant RJ6 264 65536 ∈ GW := gw_t 715 (by decide +kernel) rfl
theorem tw_840 : Cond.constant RJ6 265 1431655765 ∈ GW := gw_t 840 (by decide +kernel) rfl
theorem tw_841 : Cond.constant RJ6 266 858993459 ∈ GW := gw_t 841 (by decide +kernel) rfl
theorem tw_842 : Cond.constant RJ6 267 252645135 ∈ GW := gw_t 842 (by decide +kernel) rfl
theorem tw_877 : Cond.methodLink RX3 67 arraycopyName ∈ GW := gw_t 877 (by decide +kernel) rfl
theorem tw_878 : Cond.static arraycopyName ∈ GW := gw_t 878 (by decide +kernel) rfl
theorem tw_879 : Cond.native arraycopyName ∈ GW := gw_t 879 (by decide +kernel) rfl
theorem tw_932 : Cond.methodLink RX0 64 Lib.Math.max.name ∈ GW := gw_t 932 (by decide +kernel) rfl
theorem tw_933 : Cond.static Lib.Math.max.name ∈ GW := gw_t 933 (by decide +kernel) rfl
theorem tw_934 : Cond.code Lib.Math.max.name Lib.Math.max.code 2 (some .int) ∈ GW := gw_t 934 (by decide +kernel) rfl
theorem tw_955 : Cond.constantLong RX8 254 (-1) ∈ GW := gw_t 955 (by decide +kernel) rfl
theorem tw_1009 : Cond.methodLink RX1 45 Lib.Math.max.name ∈ GW := gw_t 1009 (by decide +kernel) rfl
theorem tw_1027 : Cond.constant RX8 289 65537 ∈ GW := gw_t 1027 (by decide +kernel) rfl
theorem tw_1059 : Cond.methodLink RX2 37 Lib.Math.min.name ∈ GW := gw_t 1059 (by decide +kernel) rfl
theorem tw_1194 : Cond.methodLink RX10 3 objectInit ∈ GW := gw_t 1194 (by decide +kernel) rfl
theorem tw_1326 : Cond.classLink RX10 135 RX9 ∈ GW := gw_t 1326 (by decide +kernel) rfl
theorem tw_1331 : Cond.methodLink RX9 3 objectInit ∈ GW := gw_t 1331 (by decide +kernel) rfl
theorem tw_1411 : Cond.constantLong RX10 62 32 ∈ GW := gw_t 1411 (by decide +kernel) rfl
theorem tw_1852 : Cond.constant RX10 460 65536 ∈ GW := gw_t 1852 (by decide +kernel) rfl
theorem tw_1861 : Cond.constantLong RX10 445 75 ∈ GW := gw_t 1861 (by decide +kernel) rfl
theorem tw_1862 : Cond.constantLong RX10 450 74 ∈ GW := gw_t 1862 (by decide +kernel) rfl
theorem tw_1863 : Cond.constantLong RX10 452 65537 ∈ GW := gw_t 1863 (by decide +kernel) rfl
theorem tw_1944 : Cond.fieldLink RJ0 9 "java/lang/String" "value" "[B" ∈ GW := gw_t 1944 (by decide +kernel) rfl
theorem tw_1945 : Cond.fieldLink RJ0 15 "java/lang/String" "coder" "B" ∈ GW := gw_t 1945 (by decide +kernel) rfl
theorem gw_l (ws : List Cond) (ps : List Nat) (hp : ws = ps.filterMap (fun i => tables_1[i]?)) (h : ws.all goodWord = true) : ∀ w ∈ ws, w ∈ GW := by
  intro w hw
  have h1 := List.all_eq_true.mp h w hw
  rw [hp] at hw
  obtain ⟨i, -, hi⟩ := List.mem_filterMap.mp hw
  exact gw_t i hi h1
theorem cc0 : CCk 0 RX0 TX0 5 tyX0 := ⟨rfl, rfl, by decide, gw_l _ [345, 347, 349, 351, 353] (by decide +kernel) (by decide +kernel), tyX0_ok, nmX0, gw_t 329 (by decide +kernel) rfl, gw_t 8 (by decide +kernel) rfl, by decide +kernel⟩
theorem cc1 : CCk 1 RX1 TX1 2 tyX1 := ⟨rfl, rfl, by decide, gw_l _ [364, 366] (by decide +kernel) (by decide +kernel), tyX1_ok, nmX1, gw_t 357 (by decide +kernel) rfl, gw_t 9 (by decide +kernel) rfl, by decide +kernel⟩
theorem cc2 : CCk 2 RX2 TX2 5 tyX2 := ⟨rfl, rfl, by decide, gw_l _ [290, 292, 294, 296, 298] (by decide +kernel) (by decide +kernel), tyX2_ok, nmX2, gw_t 275 (by decide +kernel) rfl, gw_t 6 (by decide +kernel) rfl, by decide +kernel⟩
theorem cc3 : CCk 3 RX3 TX3 20 tyX3 := ⟨rfl, rfl, by decide, gw_l _ [233, 235, 237, 239, 241, 243, 245, 247, 249, 251, 253, 255, 257, 259, 261, 263, 265, 267, 269, 271] (by decide +kernel) (by decide +kernel), tyX3_ok, nmX3, gw_t 190 (by decide +kernel) rfl, gw_t 5 (by decide +kernel) rfl, by decide +kernel⟩
theorem cc4 : CCk 4 RX4 TX4 5 tyX4 := ⟨rfl, rfl, by decide, gw_l _ [317, 319, 321, 323, 325] (by decide +kernel) (by decide +kernel), tyX4_ok, nmX4, gw_t 302 (by decide +kernel) rfl, gw_t 7 (by decide +kernel) rfl, by decide +kernel⟩
theorem cc5 : CCk 5 RX5 TX5 18 tyX5 := ⟨rfl, rfl, by decide, gw_l _ [93, 95, 97, 99, 101, 103, 105, 107, 109, 111, 113, 115, 117, 119, 121, 123, 125, 127] (by decide +kernel) (by decide +kernel), tyX5_ok, nmX5, gw_t 33 (by decide +kernel) rfl, gw_t 2 (by decide +kernel) rfl, by decide +kernel⟩
theorem cc6 : CCk 6 RX6 TX6 8 tyX6 := ⟨rfl, rfl, by decide, gw_l _ [172, 174, 176, 178, 180, 182, 184, 186] (by decide +kernel) (by decide +kernel), tyX6_ok, nmX6, gw_t 134 (by decide +kernel) rfl, gw_t 3 (by decide +kernel) rfl, by decide +kernel⟩
theorem cc7 : CCk 7 RX7 TX7 4 tyX7 := ⟨rfl, rfl, by decide, gw_l _ [153, 155, 157, 159] (by decide +kernel) (by decide +kernel), tyX7_ok, nmX7, gw_t 140 (by decide +kernel) rfl, gw_t 4 (by decide +kernel) rfl, by decide +kernel⟩
theorem cc8 : CCk 8 RX8 TX8 13 tyX8 := ⟨rfl, rfl, by decide, gw_l _ [382, 384, 386, 388, 390, 392, 394, 396, 398, 400, 402, 404, 406] (by decide +kernel) (by decide +kernel), tyX8_ok, nmX8, gw_t 25 (by decide +kernel) rfl, gw_t 1 (by decide +kernel) rfl, by decide +kernel⟩
theorem cc9 : CCk 9 RX9 TX9 18 tyX9 := ⟨rfl, rfl, by decide, gw_l _ [1363, 1365, 1367, 1369, 1371, 1373, 1375, 1377, 1379, 1381, 1383, 1385, 1387, 1389, 1391, 1393, 1395, 1397] (by decide +kernel) (by decide +kernel), tyX9_ok, nmX9, gw_t 1327 (by decide +kernel) rfl, gw_t 17 (by decide +kernel) rfl, by decide +kernel⟩
theorem cc10 : CCk 10 RX10 TX10 38 tyX10 := ⟨rfl, rfl, by decide, gw_l _ [1233, 1235, 1237, 1239, 1241, 1243, 1245, 1247, 1249, 1251, 1253, 1255, 1257, 1259, 1261, 1263, 1265, 1267, 1269, 1271, 1273, 1275, 1277, 1279, 1281, 1283, 1285, 1287, 1289, 1291, 1293, 1295, 1297, 1299, 1301, 1303, 1305, 1307] (by decide +kernel) (by decide +kernel), tyX10_ok, nmX10, gw_t 1190 (by decide +kernel) rfl, gw_t 10 (by decide +kernel) rfl, by decide +kernel⟩
theorem fa_RX0_11 : FA RX0 11 0 1 1 := ⟨⟨RX0, TX0, 5, tyX0, cc0, by decide, Or.inl (gw_t 337 (by decide +kernel) rfl)⟩, rfl⟩
theorem fa_RX0_15 : FA RX0 15 0 2 1 := ⟨⟨RX0, TX0, 5, tyX0, cc0, by decide, Or.inl (gw_t 339 (by decide +kernel) rfl)⟩, rfl⟩
theorem fa_RX0_18 : FA RX0 18 0 3 1 := ⟨⟨RX0, TX0, 5, tyX0, cc0, by decide, Or.inl (gw_t 341 (by decide +kernel) rfl)⟩, rfl⟩
theorem fa_RX0_21 : FA RX0 21 0 4 1 := ⟨⟨RX0, TX0, 5, tyX0, cc0, by decide, Or.inl (gw_t 343 (by decide +kernel) rfl)⟩, rfl⟩
theorem fa_RX0_29 : FA RX0 29 0 0 1 := ⟨⟨RX0, TX0, 5, tyX0, cc0, by decide, Or.inl (gw_t 336 (by decide +kernel) rfl)⟩, rfl⟩
theorem fa_RX0_51 : FA RX0 51 3 6 0 := ⟨⟨RX3, TX3, 20, tyX3, cc3, by decide, Or.inl (gw_t 205 (by decide +kernel) rfl)⟩, rfl⟩
theorem fa_RX0_70 : FA RX0 70 3 19 0 := ⟨⟨RX3, TX3, 20, tyX3, cc3, by decide, Or.inl (gw_t 231 (by decide +kernel) rfl)⟩, rfl⟩
theorem fa_RX1_9 : FA RX1 9 1 0 0 := ⟨⟨RX1, TX1, 2, tyX1, cc1, by decide, Or.inl (gw_t 362 (by decide +kernel) rfl)⟩, rfl⟩
theorem fa_RX1_15 : FA RX1 15 5 12 0 := ⟨⟨RX5, TX5, 18, tyX5, cc5, by decide, Or.inl (gw_t 76 (by decide +kernel) rfl)⟩, rfl⟩
theorem fa_RX1_20 : FA RX1 20 1 1 0 := ⟨⟨RX1, TX1, 2, tyX1, cc1, by decide, Or.inl (gw_t 363 (by decide +kernel) rfl)⟩, rfl⟩
theorem fa_RX10_9 : FA RX10 9 10 2 0 := ⟨⟨RX10, TX10, 38, tyX10, cc10, by decide, Or.inl (gw_t 1197 (by decide +kernel) rfl)⟩, rfl⟩
theorem fa_RX10_13 : FA RX10 13 10 5 1 := ⟨⟨RX10, TX10, 38, tyX10, cc10, by decide, Or.inl (gw_t 1200 (by decide +kernel) rfl)⟩, rfl⟩
theorem fa_RX10_17 : FA RX10 17 10 15 1 := ⟨⟨RX10, TX10, 38, tyX10, cc10, by decide, Or.inl (gw_t 1210 (by decide +kernel) rfl)⟩, rfl⟩
theorem fa_RX10_21 : FA RX10 21 10 20 1 := ⟨⟨RX10, TX10, 38, tyX10, cc10, by decide, Or.inl (gw_t 1215 (by decide +kernel) rfl)⟩, rfl⟩
theorem fa_RX10_24 : FA RX10 24 10 21 1 := ⟨⟨RX10, TX10, 38, tyX10, cc10, by decide, Or.inl (gw_t 1216 (by decide +kernel) rfl)⟩, rfl⟩
theorem fa_RX10_27 : FA RX10 27 10 22 1 := ⟨⟨RX10, TX10, 38, tyX10, cc10, by decide, Or.inl (gw_t 1217 (by decide +kernel) rfl)⟩, rfl⟩
theorem fa_RX10_30 : FA RX10 30 10 23 1 := ⟨⟨RX10, TX10, 38, tyX10, cc10, by decide, Or.inl (gw_t 1218 (by decide +kernel) rfl)⟩, rfl⟩
theorem fa_RX10_33 : FA RX10 33 10 34 1 := ⟨⟨RX10, TX10, 38, tyX10, cc10, by decide, Or.inl (gw_t 1229 (by decide +kernel) rfl)⟩, rfl⟩
theorem fa_RX10_36 : FA RX10 36 10 0 0 := ⟨⟨RX10, TX10, 38, tyX10, cc10, by decide, Or.inl (gw_t 1195 (by decide +kernel) rfl)⟩, rfl⟩
theorem fa_RX10_39 : FA RX10 39 10 1 0 := ⟨⟨RX10, TX10, 38, tyX10, cc10, by decide, Or.inl (gw_t 1196 (by decide +kernel) rfl)⟩, rfl⟩
theorem fa_RX10_53 : FA RX10 53 10 7 0 := ⟨⟨RX10, TX10, 38, tyX10, cc10, by decide, Or.inl (gw_t 1202 (by decide +kernel) rfl)⟩, rfl⟩
theorem fa_RX10_68 : FA RX10 68 10 9 0 := ⟨⟨RX10, TX10, 38, tyX10, cc10, by decide, Or.inl (gw_t 1204 (by decide +kernel) rfl)⟩, rfl⟩
theorem fa_RX10_71 : FA RX10 71 10 8 0 := ⟨⟨RX10, TX10, 38, tyX10, cc10, by decide, Or.inl (gw_t 1203 (by decide +kernel) rfl)⟩, rfl⟩
theorem fa_RX10_77 : FA RX10 77 10 10 0 := ⟨⟨RX10, TX10, 38, tyX10, cc10, by decide, Or.inl (gw_t 1205 (by decide +kernel) rfl)⟩, rfl⟩
theorem fa_RX10_84 : FA RX10 84 10 14 2 := ⟨⟨RX10, TX10, 38, tyX10, cc10, by decide, Or.inl (gw_t 1209 (by decide +kernel) rfl)⟩, rfl⟩
theorem fa_RX10_91 : FA RX10 91 10 11 0 := ⟨⟨RX10, TX10, 38, tyX10, cc10, by decide, Or.inl (gw_t 1206 (by decide +kernel) rfl)⟩, rfl⟩
theorem fa_RX10_94 : FA RX10 94 10 12 0 := ⟨⟨RX10, TX10, 38, tyX10, cc10, by decide, Or.inl (gw_t 1207 (by decide +kernel) rfl)⟩, rfl⟩
theorem fa_RX10_97 : FA RX10 97 10 13 0 := ⟨⟨RX10, TX10, 38, tyX10, cc10, by decide, Or.inl (gw_t 1208 (by decide +kernel) rfl)⟩, rfl⟩
theorem fa_RX10_130 : FA RX10 130 10 4 1 := ⟨⟨RX10, TX10, 38, tyX10, cc10, by decide, Or.inl (gw_t 1199 (by decide +kernel) rfl)⟩, rfl⟩
theorem fa_RX10_134 : FA RX10 134 9 0 0 := ⟨⟨RX9, TX9, 18, tyX9, cc9, by decide, Or.inr ⟨"RenamedCellsModel", nw_t 1332 (by decide +kernel) rfl⟩⟩, rfl⟩
theorem fa_RX10_146 : FA RX10 146 9 4 0 := ⟨⟨RX9, TX9, 18, tyX9, cc9, by decide, Or.inr ⟨"RenamedCellsModel", nw_t 1337 (by decide +kernel) rfl⟩⟩, rfl⟩
theorem fa_RX10_197 : FA RX10 197 9 1 0 := ⟨⟨RX9, TX9, 18, tyX9, cc9, by decide, Or.inr ⟨"RenamedCellsModel", nw_t 1333 (by decide +kernel) rfl⟩⟩, rfl⟩
theorem fa_RX10_199 : FA RX10 199 9 2 0 := ⟨⟨RX9, TX9, 18, tyX9, cc9, by decide, Or.inr ⟨"RenamedCellsModel", nw_t 1334 (by decide +kernel) rfl⟩⟩, rfl⟩
theorem fa_RX10_201 : FA RX10 201 9 3 0 := ⟨⟨RX9, TX9, 18, tyX9, cc9, by decide, Or.inr ⟨"RenamedCellsModel", nw_t 1335 (by decide +kernel) rfl⟩⟩, rfl⟩
theorem fa_RX10_203 : FA RX10 203 9 7 0 := ⟨⟨RX9, TX9, 18, tyX9, cc9, by decide, Or.inr ⟨"RenamedCellsModel", nw_t 1342 (by decide +kernel) rfl⟩⟩, rfl⟩
theorem fa_RX10_217 : FA RX10 217 9 8 1 := ⟨⟨RX9, TX9, 18, tyX9, cc9, by decide, Or.inr ⟨"RenamedCellsModel", nw_t 1344 (by decide +kernel) rfl⟩⟩, rfl⟩
theorem fa_RX10_220 : FA RX10 220 9 9 1 := ⟨⟨RX9, TX9, 18, tyX9, cc9, by decide, Or.inr ⟨"RenamedCellsModel", nw_t 1346 (by decide +kernel) rfl⟩⟩, rfl⟩
theorem fa_RX10_223 : FA RX10 223 9 10 1 := ⟨⟨RX9, TX9, 18, tyX9, cc9, by decide, Or.inr ⟨"RenamedCellsModel", nw_t 1348 (by decide +kernel) rfl⟩⟩, rfl⟩
theorem fa_RX10_226 : FA RX10 226 9 11 1 := ⟨⟨RX9, TX9, 18, tyX9, cc9, by decide, Or.inr ⟨"RenamedCellsModel", nw_t 1350 (by decide +kernel) rfl⟩⟩, rfl⟩
theorem fa_RX10_229 : FA RX10 229 9 12 1 := ⟨⟨RX9, TX9, 18, tyX9, cc9, by decide, Or.inr ⟨"RenamedCellsModel", nw_t 1352 (by decide +kernel) rfl⟩⟩, rfl⟩
theorem fa_RX10_231 : FA RX10 231 9 13 1 := ⟨⟨RX9, TX9, 18, tyX9, cc9, by decide, Or.inr ⟨"RenamedCellsModel", nw_t 1354 (by decide +kernel) rfl⟩⟩, rfl⟩
theorem fa_RX10_234 : FA RX10 234 9 5 0 := ⟨⟨RX9, TX9, 18, tyX9, cc9, by decide, Or.inr ⟨"RenamedCellsModel", nw_t 1339 (by decide +kernel) rfl⟩⟩, rfl⟩
theorem fa_RX10_243 : FA RX10 243 9 14 1 := ⟨⟨RX9, TX9, 18, tyX9, cc9, by decide, Or.inr ⟨"RenamedCellsModel", nw_t 1356 (by decide +kernel) rfl⟩⟩, rfl⟩
theorem fa_RX10_245 : FA RX10 245 9 15 1 := ⟨⟨RX9, TX9, 18, tyX9, cc9, by decide, Or.inr ⟨"RenamedCellsModel", nw_t 1358 (by decide +kernel) rfl⟩⟩, rfl⟩
theorem fa_RX10_248 : FA RX10 248 9 6 0 := ⟨⟨RX9, TX9, 18, tyX9, cc9, by decide, Or.inr ⟨"RenamedCellsModel", nw_t 1341 (by decide +kernel) rfl⟩⟩, rfl⟩
theorem fa_RX10_254 : FA RX10 254 9 16 1 := ⟨⟨RX9, TX9, 18, tyX9, cc9, by decide, Or.inr ⟨"RenamedCellsModel", nw_t 1360 (by decide +kernel) rfl⟩⟩, rfl⟩
theorem fa_RX10_256 : FA RX10 256 9 17 1 := ⟨⟨RX9, TX9, 18, tyX9, cc9, by decide, Or.inr ⟨"RenamedCellsModel", nw_t 1362 (by decide +kernel) rfl⟩⟩, rfl⟩
theorem fa_RX10_259 : FA RX10 259 10 6 0 := ⟨⟨RX10, TX10, 38, tyX10, cc10, by decide, Or.inl (gw_t 1201 (by decide +kernel) rfl)⟩, rfl⟩
theorem fa_RX10_266 : FA RX10 266 10 3 1 := ⟨⟨RX10, TX10, 38, tyX10, cc10, by decide, Or.inl (gw_t 1198 (by decide +kernel) rfl)⟩, rfl⟩
theorem fa_RX10_274 : FA RX10 274 10 24 0 := ⟨⟨RX10, TX10, 38, tyX10, cc10, by decide, Or.inl (gw_t 1219 (by decide +kernel) rfl)⟩, rfl⟩
theorem fa_RX10_277 : FA RX10 277 10 25 0 := ⟨⟨RX10, TX10, 38, tyX10, cc10, by decide, Or.inl (gw_t 1220 (by decide +kernel) rfl)⟩, rfl⟩
theorem fa_RX10_284 : FA RX10 284 10 16 0 := ⟨⟨RX10, TX10, 38, tyX10, cc10, by decide, Or.inl (gw_t 1211 (by decide +kernel) rfl)⟩, rfl⟩
theorem fa_RX10_287 : FA RX10 287 10 17 0 := ⟨⟨RX10, TX10, 38, tyX10, cc10, by decide, Or.inl (gw_t 1212 (by decide +kernel) rfl)⟩, rfl⟩
theorem fa_RX10_290 : FA RX10 290 10 19 0 := ⟨⟨RX10, TX10, 38, tyX10, cc10, by decide, Or.inl (gw_t 1214 (by decide +kernel) rfl)⟩, rfl⟩
theorem fa_RX10_293 : FA RX10 293 10 18 0 := ⟨⟨RX10, TX10, 38, tyX10, cc10, by decide, Or.inl (gw_t 1213 (by decide +kernel) rfl)⟩, rfl⟩
theorem fa_RX10_315 : FA RX10 315 10 26 0 := ⟨⟨RX10, TX10, 38, tyX10, cc10, by decide, Or.inl (gw_t 1221 (by decide +kernel) rfl)⟩, rfl⟩
theorem fa_RX10_360 : FA RX10 360 10 27 0 := ⟨⟨RX10, TX10, 38, tyX10, cc10, by decide, Or.inl (gw_t 1222 (by decide +kernel) rfl)⟩, rfl⟩
theorem fa_RX10_399 : FA RX10 399 10 29 0 := ⟨⟨RX10, TX10, 38, tyX10, cc10, by decide, Or.inl (gw_t 1224 (by decide +kernel) rfl)⟩, rfl⟩
theorem fa_RX10_405 : FA RX10 405 10 28 0 := ⟨⟨RX10, TX10, 38, tyX10, cc10, by decide, Or.inl (gw_t 1223 (by decide +kernel) rfl)⟩, rfl⟩
theorem fa_RX10_408 : FA RX10 408 10 30 0 := ⟨⟨RX10, TX10, 38, tyX10, cc10, by decide, Or.inl (gw_t 1225 (by decide +kernel) rfl)⟩, rfl⟩
theorem fa_RX10_424 : FA RX10 424 10 31 0 := ⟨⟨RX10, TX10, 38, tyX10, cc10, by decide, Or.inl (gw_t 1226 (by decide +kernel) rfl)⟩, rfl⟩
theorem fa_RX10_427 : FA RX10 427 10 32 0 := ⟨⟨RX10, TX10, 38, tyX10, cc10, by decide, Or.inl (gw_t 1227 (by decide +kernel) rfl)⟩, rfl⟩
theorem fa_RX10_430 : FA RX10 430 10 33 0 := ⟨⟨RX10, TX10, 38, tyX10, cc10, by decide, Or.inl (gw_t 1228 (by decide +kernel) rfl)⟩, rfl⟩
theorem fa_RX10_439 : FA RX10 439 10 35 0 := ⟨⟨RX10, TX10, 38, tyX10, cc10, by decide, Or.inl (gw_t 1230 (by decide +kernel) rfl)⟩, rfl⟩
theorem fa_RX10_447 : FA RX10 447 10 36 0 := ⟨⟨RX10, TX10, 38, tyX10, cc10, by decide, Or.inl (gw_t 1231 (by decide +kernel) rfl)⟩, rfl⟩
theorem fa_RX10_454 : FA RX10 454 10 37 0 := ⟨⟨RX10, TX10, 38, tyX10, cc10, by decide, Or.inl (gw_t 1232 (by decide +kernel) rfl)⟩, rfl⟩
theorem fa_RX2_11 : FA RX2 11 2 0 1 := ⟨⟨RX2, TX2, 5, tyX2, cc2, by decide, Or.inl (gw_t 283 (by decide +kernel) rfl)⟩, rfl⟩
theorem fa_RX2_17 : FA RX2 17 2 1 1 := ⟨⟨RX2, TX2, 5, tyX2, cc2, by decide, Or.inl (gw_t 284 (by decide +kernel) rfl)⟩, rfl⟩
theorem fa_RX2_23 : FA RX2 23 2 3 0 := ⟨⟨RX2, TX2, 5, tyX2, cc2, by decide, Or.inl (gw_t 286 (by decide +kernel) rfl)⟩, rfl⟩
theorem fa_RX2_27 : FA RX2 27 2 4 0 := ⟨⟨RX2, TX2, 5, tyX2, cc2, by decide, Or.inl (gw_t 288 (by decide +kernel) rfl)⟩, rfl⟩
theorem fa_RX2_30 : FA RX2 30 2 2 0 := ⟨⟨RX2, TX2, 5, tyX2, cc2, by decide, Or.inl (gw_t 285 (by decide +kernel) rfl)⟩, rfl⟩
theorem fa_RX3_9 : FA RX3 9 3 2 1 := ⟨⟨RX3, TX3, 20, tyX3, cc3, by decide, Or.inl (gw_t 197 (by decide +kernel) rfl)⟩, rfl⟩
theorem fa_RX3_15 : FA RX3 15 3 4 1 := ⟨⟨RX3, TX3, 20, tyX3, cc3, by decide, Or.inl (gw_t 201 (by decide +kernel) rfl)⟩, rfl⟩
theorem fa_RX3_18 : FA RX3 18 3 7 1 := ⟨⟨RX3, TX3, 20, tyX3, cc3, by decide, Or.inl (gw_t 207 (by decide +kernel) rfl)⟩, rfl⟩
theorem fa_RX3_21 : FA RX3 21 3 8 1 := ⟨⟨RX3, TX3, 20, tyX3, cc3, by decide, Or.inl (gw_t 209 (by decide +kernel) rfl)⟩, rfl⟩
theorem fa_RX3_24 : FA RX3 24 3 9 1 := ⟨⟨RX3, TX3, 20, tyX3, cc3, by decide, Or.inl (gw_t 211 (by decide +kernel) rfl)⟩, rfl⟩
theorem fa_RX3_27 : FA RX3 27 3 10 1 := ⟨⟨RX3, TX3, 20, tyX3, cc3, by decide, Or.inl (gw_t 213 (by decide +kernel) rfl)⟩, rfl⟩
theorem fa_RX3_30 : FA RX3 30 3 0 1 := ⟨⟨RX3, TX3, 20, tyX3, cc3, by decide, Or.inl (gw_t 195 (by decide +kernel) rfl)⟩, rfl⟩
theorem fa_RX3_34 : FA RX3 34 3 1 0 := ⟨⟨RX3, TX3, 20, tyX3, cc3, by decide, Or.inl (gw_t 196 (by decide +kernel) rfl)⟩, rfl⟩
theorem fa_RX3_44 : FA RX3 44 3 3 0 := ⟨⟨RX3, TX3, 20, tyX3, cc3, by decide, Or.inl (gw_t 199 (by decide +kernel) rfl)⟩, rfl⟩
theorem fa_RX3_47 : FA RX3 47 3 5 0 := ⟨⟨RX3, TX3, 20, tyX3, cc3, by decide, Or.inl (gw_t 203 (by decide +kernel) rfl)⟩, rfl⟩
theorem fa_RX3_54 : FA RX3 54 3 16 0 := ⟨⟨RX3, TX3, 20, tyX3, cc3, by decide, Or.inl (gw_t 224 (by decide +kernel) rfl)⟩, rfl⟩
theorem fa_RX3_57 : FA RX3 57 3 17 0 := ⟨⟨RX3, TX3, 20, tyX3, cc3, by decide, Or.inl (gw_t 226 (by decide +kernel) rfl)⟩, rfl⟩
theorem fa_RX3_61 : FA RX3 61 3 18 0 := ⟨⟨RX3, TX3, 20, tyX3, cc3, by decide, Or.inl (gw_t 228 (by decide +kernel) rfl)⟩, rfl⟩
theorem fa_RX3_64 : FA RX3 64 3 19 0 := ⟨⟨RX3, TX3, 20, tyX3, cc3, by decide, Or.inl (gw_t 230 (by decide +kernel) rfl)⟩, rfl⟩
theorem fa_RX3_73 : FA RX3 73 3 6 0 := ⟨⟨RX3, TX3, 20, tyX3, cc3, by decide, Or.inl (gw_t 204 (by decide +kernel) rfl)⟩, rfl⟩
theorem fa_RX3_76 : FA RX3 76 3 11 0 := ⟨⟨RX3, TX3, 20, tyX3, cc3, by decide, Or.inl (gw_t 215 (by decide +kernel) rfl)⟩, rfl⟩
theorem fa_RX3_79 : FA RX3 79 3 12 0 := ⟨⟨RX3, TX3, 20, tyX3, cc3, by decide, Or.inl (gw_t 216 (by decide +kernel) rfl)⟩, rfl⟩
theorem fa_RX3_82 : FA RX3 82 3 13 0 := ⟨⟨RX3, TX3, 20, tyX3, cc3, by decide, Or.inl (gw_t 218 (by decide +kernel) rfl)⟩, rfl⟩
theorem fa_RX3_85 : FA RX3 85 3 14 0 := ⟨⟨RX3, TX3, 20, tyX3, cc3, by decide, Or.inl (gw_t 220 (by decide +kernel) rfl)⟩, rfl⟩
theorem fa_RX3_88 : FA RX3 88 3 15 0 := ⟨⟨RX3, TX3, 20, tyX3, cc3, by decide, Or.inl (gw_t 222 (by decide +kernel) rfl)⟩, rfl⟩
theorem fa_RX3_91 : FA RX3 91 5 7 1 := ⟨⟨RX5, TX5, 18, tyX5, cc5, by decide, Or.inl (gw_t 61 (by decide +kernel) rfl)⟩, rfl⟩
theorem fa_RX3_106 : FA RX3 106 5 4 0 := ⟨⟨RX5, TX5, 18, tyX5, cc5, by decide, Or.inl (gw_t 50 (by decide +kernel) rfl)⟩, rfl⟩
theorem fa_RX3_125 : FA RX3 125 5 1 0 := ⟨⟨RX5, TX5, 18, tyX5, cc5, by decide, Or.inl (gw_t 41 (by decide +kernel) rfl)⟩, rfl⟩
theorem fa_RX3_128 : FA RX3 128 5 6 1 := ⟨⟨RX5, TX5, 18, tyX5, cc5, by decide, Or.inl (gw_t 58 (by decide +kernel) rfl)⟩, rfl⟩
theorem fa_RX3_138 : FA RX3 138 5 8 1 := ⟨⟨RX5, TX5, 18, tyX5, cc5, by decide, Or.inl (gw_t 66 (by decide +kernel) rfl)⟩, rfl⟩
theorem fa_RX3_148 : FA RX3 148 5 3 0 := ⟨⟨RX5, TX5, 18, tyX5, cc5, by decide, Or.inl (gw_t 47 (by decide +kernel) rfl)⟩, rfl⟩
theorem fa_RX3_154 : FA RX3 154 5 9 1 := ⟨⟨RX5, TX5, 18, tyX5, cc5, by decide, Or.inl (gw_t 70 (by decide +kernel) rfl)⟩, rfl⟩
theorem fa_RX3_175 : FA RX3 175 5 2 0 := ⟨⟨RX5, TX5, 18, tyX5, cc5, by decide, Or.inl (gw_t 44 (by decide +kernel) rfl)⟩, rfl⟩
theorem fa_RX4_9 : FA RX4 9 4 0 1 := ⟨⟨RX4, TX4, 5, tyX4, cc4, by decide, Or.inl (gw_t 307 (by decide +kernel) rfl)⟩, rfl⟩
theorem fa_RX4_21 : FA RX4 21 4 1 0 := ⟨⟨RX4, TX4, 5, tyX4, cc4, by decide, Or.inl (gw_t 309 (by decide +kernel) rfl)⟩, rfl⟩
theorem fa_RX4_25 : FA RX4 25 4 2 0 := ⟨⟨RX4, TX4, 5, tyX4, cc4, by decide, Or.inl (gw_t 311 (by decide +kernel) rfl)⟩, rfl⟩
theorem fa_RX4_28 : FA RX4 28 4 3 0 := ⟨⟨RX4, TX4, 5, tyX4, cc4, by decide, Or.inl (gw_t 313 (by decide +kernel) rfl)⟩, rfl⟩
theorem fa_RX4_31 : FA RX4 31 4 4 0 := ⟨⟨RX4, TX4, 5, tyX4, cc4, by decide, Or.inl (gw_t 315 (by decide +kernel) rfl)⟩, rfl⟩
theorem fa_RX4_45 : FA RX4 45 5 8 1 := ⟨⟨RX5, TX5, 18, tyX5, cc5, by decide, Or.inl (gw_t 64 (by decide +kernel) rfl)⟩, rfl⟩
theorem fa_RX4_52 : FA RX4 52 5 9 1 := ⟨⟨RX5, TX5, 18, tyX5, cc5, by decide, Or.inl (gw_t 68 (by decide +kernel) rfl)⟩, rfl⟩
theorem fa_RX4_55 : FA RX4 55 5 6 1 := ⟨⟨RX5, TX5, 18, tyX5, cc5, by decide, Or.inl (gw_t 56 (by decide +kernel) rfl)⟩, rfl⟩
theorem fa_RX4_72 : FA RX4 72 5 7 1 := ⟨⟨RX5, TX5, 18, tyX5, cc5, by decide, Or.inl (gw_t 60 (by decide +kernel) rfl)⟩, rfl⟩
theorem fa_RX4_78 : FA RX4 78 5 15 0 := ⟨⟨RX5, TX5, 18, tyX5, cc5, by decide, Or.inl (gw_t 84 (by decide +kernel) rfl)⟩, rfl⟩
theorem fa_RX4_81 : FA RX4 81 5 16 1 := ⟨⟨RX5, TX5, 18, tyX5, cc5, by decide, Or.inl (gw_t 88 (by decide +kernel) rfl)⟩, rfl⟩
theorem fa_RX4_84 : FA RX4 84 5 17 1 := ⟨⟨RX5, TX5, 18, tyX5, cc5, by decide, Or.inl (gw_t 91 (by decide +kernel) rfl)⟩, rfl⟩
theorem fa_RX5_9 : FA RX5 9 5 6 1 := ⟨⟨RX5, TX5, 18, tyX5, cc5, by decide, Or.inl (gw_t 55 (by decide +kernel) rfl)⟩, rfl⟩
theorem fa_RX5_15 : FA RX5 15 5 7 1 := ⟨⟨RX5, TX5, 18, tyX5, cc5, by decide, Or.inl (gw_t 59 (by decide +kernel) rfl)⟩, rfl⟩
theorem fa_RX5_18 : FA RX5 18 5 8 1 := ⟨⟨RX5, TX5, 18, tyX5, cc5, by decide, Or.inl (gw_t 63 (by decide +kernel) rfl)⟩, rfl⟩
theorem fa_RX5_21 : FA RX5 21 5 9 1 := ⟨⟨RX5, TX5, 18, tyX5, cc5, by decide, Or.inl (gw_t 67 (by decide +kernel) rfl)⟩, rfl⟩
theorem fa_RX5_24 : FA RX5 24 5 10 1 := ⟨⟨RX5, TX5, 18, tyX5, cc5, by decide, Or.inl (gw_t 71 (by decide +kernel) rfl)⟩, rfl⟩
theorem fa_RX5_27 : FA RX5 27 5 11 1 := ⟨⟨RX5, TX5, 18, tyX5, cc5, by decide, Or.inl (gw_t 73 (by decide +kernel) rfl)⟩, rfl⟩
theorem fa_RX5_31 : FA RX5 31 5 13 1 := ⟨⟨RX5, TX5, 18, tyX5, cc5, by decide, Or.inl (gw_t 79 (by decide +kernel) rfl)⟩, rfl⟩
theorem fa_RX5_34 : FA RX5 34 5 14 1 := ⟨⟨RX5, TX5, 18, tyX5, cc5, by decide, Or.inl (gw_t 81 (by decide +kernel) rfl)⟩, rfl⟩
theorem fa_RX5_37 : FA RX5 37 5 16 1 := ⟨⟨RX5, TX5, 18, tyX5, cc5, by decide, Or.inl (gw_t 87 (by decide +kernel) rfl)⟩, rfl⟩
theorem fa_RX5_43 : FA RX5 43 5 5 0 := ⟨⟨RX5, TX5, 18, tyX5, cc5, by decide, Or.inl (gw_t 52 (by decide +kernel) rfl)⟩, rfl⟩
theorem fa_RX5_47 : FA RX5 47 5 12 0 := ⟨⟨RX5, TX5, 18, tyX5, cc5, by decide, Or.inl (gw_t 75 (by decide +kernel) rfl)⟩, rfl⟩
theorem fa_RX5_50 : FA RX5 50 5 15 0 := ⟨⟨RX5, TX5, 18, tyX5, cc5, by decide, Or.inl (gw_t 83 (by decide +kernel) rfl)⟩, rfl⟩
theorem fa_RX6_9 : FA RX6 9 6 2 1 := ⟨⟨RX6, TX6, 8, tyX6, cc6, by decide, Or.inl (gw_t 166 (by decide +kernel) rfl)⟩, rfl⟩
theorem fa_RX6_18 : FA RX6 18 6 3 1 := ⟨⟨RX6, TX6, 8, tyX6, cc6, by decide, Or.inl (gw_t 167 (by decide +kernel) rfl)⟩, rfl⟩
theorem fa_RX6_22 : FA RX6 22 6 7 1 := ⟨⟨RX6, TX6, 8, tyX6, cc6, by decide, Or.inl (gw_t 171 (by decide +kernel) rfl)⟩, rfl⟩
theorem fa_RX6_36 : FA RX6 36 6 4 0 := ⟨⟨RX6, TX6, 8, tyX6, cc6, by decide, Or.inl (gw_t 168 (by decide +kernel) rfl)⟩, rfl⟩
theorem fa_RX6_55 : FA RX6 55 7 0 1 := ⟨⟨RX7, TX7, 4, tyX7, cc7, by decide, Or.inl (gw_t 146 (by decide +kernel) rfl)⟩, rfl⟩
theorem fa_RX6_59 : FA RX6 59 5 5 0 := ⟨⟨RX5, TX5, 18, tyX5, cc5, by decide, Or.inl (gw_t 53 (by decide +kernel) rfl)⟩, rfl⟩
theorem fa_RX6_68 : FA RX6 68 7 3 0 := ⟨⟨RX7, TX7, 4, tyX7, cc7, by decide, Or.inl (gw_t 152 (by decide +kernel) rfl)⟩, rfl⟩
theorem fa_RX6_71 : FA RX6 71 7 1 1 := ⟨⟨RX7, TX7, 4, tyX7, cc7, by decide, Or.inl (gw_t 148 (by decide +kernel) rfl)⟩, rfl⟩
theorem fa_RX6_82 : FA RX6 82 5 12 0 := ⟨⟨RX5, TX5, 18, tyX5, cc5, by decide, Or.inl (gw_t 77 (by decide +kernel) rfl)⟩, rfl⟩
theorem fa_RX6_88 : FA RX6 88 5 15 0 := ⟨⟨RX5, TX5, 18, tyX5, cc5, by decide, Or.inl (gw_t 85 (by decide +kernel) rfl)⟩, rfl⟩
theorem fa_RX6_131 : FA RX6 131 6 5 0 := ⟨⟨RX6, TX6, 8, tyX6, cc6, by decide, Or.inl (gw_t 169 (by decide +kernel) rfl)⟩, rfl⟩
theorem fa_RX6_150 : FA RX6 150 5 4 0 := ⟨⟨RX5, TX5, 18, tyX5, cc5, by decide, Or.inl (gw_t 49 (by decide +kernel) rfl)⟩, rfl⟩
theorem fa_RX6_162 : FA RX6 162 5 10 1 := ⟨⟨RX5, TX5, 18, tyX5, cc5, by decide, Or.inl (gw_t 72 (by decide +kernel) rfl)⟩, rfl⟩
theorem fa_RX6_165 : FA RX6 165 5 11 1 := ⟨⟨RX5, TX5, 18, tyX5, cc5, by decide, Or.inl (gw_t 74 (by decide +kernel) rfl)⟩, rfl⟩
theorem fa_RX6_173 : FA RX6 173 5 7 1 := ⟨⟨RX5, TX5, 18, tyX5, cc5, by decide, Or.inl (gw_t 62 (by decide +kernel) rfl)⟩, rfl⟩
theorem fa_RX6_176 : FA RX6 176 5 8 1 := ⟨⟨RX5, TX5, 18, tyX5, cc5, by decide, Or.inl (gw_t 65 (by decide +kernel) rfl)⟩, rfl⟩
theorem fa_RX6_179 : FA RX6 179 5 9 1 := ⟨⟨RX5, TX5, 18, tyX5, cc5, by decide, Or.inl (gw_t 69 (by decide +kernel) rfl)⟩, rfl⟩
theorem fa_RX6_185 : FA RX6 185 5 6 1 := ⟨⟨RX5, TX5, 18, tyX5, cc5, by decide, Or.inl (gw_t 57 (by decide +kernel) rfl)⟩, rfl⟩
theorem fa_RX6_188 : FA RX6 188 6 6 0 := ⟨⟨RX6, TX6, 8, tyX6, cc6, by decide, Or.inl (gw_t 170 (by decide +kernel) rfl)⟩, rfl⟩
theorem fa_RX6_197 : FA RX6 197 5 13 1 := ⟨⟨RX5, TX5, 18, tyX5, cc5, by decide, Or.inl (gw_t 80 (by decide +kernel) rfl)⟩, rfl⟩
theorem fa_RX6_200 : FA RX6 200 5 14 1 := ⟨⟨RX5, TX5, 18, tyX5, cc5, by decide, Or.inl (gw_t 82 (by decide +kernel) rfl)⟩, rfl⟩
theorem fa_RX6_206 : FA RX6 206 5 16 1 := ⟨⟨RX5, TX5, 18, tyX5, cc5, by decide, Or.inl (gw_t 89 (by decide +kernel) rfl)⟩, rfl⟩
theorem fa_RX6_209 : FA RX6 209 5 17 1 := ⟨⟨RX5, TX5, 18, tyX5, cc5, by decide, Or.inl (gw_t 92 (by decide +kernel) rfl)⟩, rfl⟩
theorem fa_RX6_215 : FA RX6 215 7 2 1 := ⟨⟨RX7, TX7, 4, tyX7, cc7, by decide, Or.inl (gw_t 150 (by decide +kernel) rfl)⟩, rfl⟩
theorem fa_RX7_9 : FA RX7 9 7 0 1 := ⟨⟨RX7, TX7, 4, tyX7, cc7, by decide, Or.inl (gw_t 145 (by decide +kernel) rfl)⟩, rfl⟩
theorem fa_RX7_15 : FA RX7 15 7 1 1 := ⟨⟨RX7, TX7, 4, tyX7, cc7, by decide, Or.inl (gw_t 147 (by decide +kernel) rfl)⟩, rfl⟩
theorem fa_RX7_18 : FA RX7 18 7 2 1 := ⟨⟨RX7, TX7, 4, tyX7, cc7, by decide, Or.inl (gw_t 149 (by decide +kernel) rfl)⟩, rfl⟩
theorem fa_RX8_9 : FA RX8 9 8 0 1 := ⟨⟨RX8, TX8, 13, tyX8, cc8, by decide, Or.inl (gw_t 369 (by decide +kernel) rfl)⟩, rfl⟩
theorem fa_RX8_16 : FA RX8 16 8 3 1 := ⟨⟨RX8, TX8, 13, tyX8, cc8, by decide, Or.inl (gw_t 372 (by decide +kernel) rfl)⟩, rfl⟩
theorem fa_RX8_20 : FA RX8 20 8 4 1 := ⟨⟨RX8, TX8, 13, tyX8, cc8, by decide, Or.inl (gw_t 373 (by decide +kernel) rfl)⟩, rfl⟩
theorem fa_RX8_28 : FA RX8 28 8 5 1 := ⟨⟨RX8, TX8, 13, tyX8, cc8, by decide, Or.inl (gw_t 374 (by decide +kernel) rfl)⟩, rfl⟩
theorem fa_RX8_35 : FA RX8 35 8 6 1 := ⟨⟨RX8, TX8, 13, tyX8, cc8, by decide, Or.inl (gw_t 375 (by decide +kernel) rfl)⟩, rfl⟩
theorem fa_RX8_39 : FA RX8 39 8 7 1 := ⟨⟨RX8, TX8, 13, tyX8, cc8, by decide, Or.inl (gw_t 376 (by decide +kernel) rfl)⟩, rfl⟩
theorem fa_RX8_45 : FA RX8 45 8 8 1 := ⟨⟨RX8, TX8, 13, tyX8, cc8, by decide, Or.inl (gw_t 377 (by decide +kernel) rfl)⟩, rfl⟩
theorem fa_RX8_52 : FA RX8 52 8 9 1 := ⟨⟨RX8, TX8, 13, tyX8, cc8, by decide, Or.inl (gw_t 378 (by decide +kernel) rfl)⟩, rfl⟩
theorem fa_RX8_59 : FA RX8 59 8 10 1 := ⟨⟨RX8, TX8, 13, tyX8, cc8, by decide, Or.inl (gw_t 379 (by decide +kernel) rfl)⟩, rfl⟩
theorem fa_RX8_66 : FA RX8 66 8 11 1 := ⟨⟨RX8, TX8, 13, tyX8, cc8, by decide, Or.inl (gw_t 380 (by decide +kernel) rfl)⟩, rfl⟩
theorem fa_RX8_70 : FA RX8 70 8 2 0 := ⟨⟨RX8, TX8, 13, tyX8, cc8, by decide, Or.inl (gw_t 371 (by decide +kernel) rfl)⟩, rfl⟩
theorem fa_RX8_74 : FA RX8 74 8 1 0 := ⟨⟨RX8, TX8, 13, tyX8, cc8, by decide, Or.inl (gw_t 370 (by decide +kernel) rfl)⟩, rfl⟩
theorem fa_RX8_78 : FA RX8 78 8 12 0 := ⟨⟨RX8, TX8, 13, tyX8, cc8, by decide, Or.inl (gw_t 381 (by decide +kernel) rfl)⟩, rfl⟩
theorem fa_RX8_96 : FA RX8 96 5 5 0 := ⟨⟨RX5, TX5, 18, tyX5, cc5, by decide, Or.inl (gw_t 54 (by decide +kernel) rfl)⟩, rfl⟩
theorem fa_RX8_99 : FA RX8 99 5 0 0 := ⟨⟨RX5, TX5, 18, tyX5, cc5, by decide, Or.inl (gw_t 38 (by decide +kernel) rfl)⟩, rfl⟩
theorem fa_RX8_114 : FA RX8 114 6 0 0 := ⟨⟨RX6, TX6, 8, tyX6, cc6, by decide, Or.inl (gw_t 163 (by decide +kernel) rfl)⟩, rfl⟩
theorem fa_RX8_117 : FA RX8 117 6 1 0 := ⟨⟨RX6, TX6, 8, tyX6, cc6, by decide, Or.inl (gw_t 165 (by decide +kernel) rfl)⟩, rfl⟩
theorem fa_RX8_128 : FA RX8 128 4 1 0 := ⟨⟨RX4, TX4, 5, tyX4, cc4, by decide, Or.inl (gw_t 310 (by decide +kernel) rfl)⟩, rfl⟩
theorem fa_RX8_131 : FA RX8 131 4 4 0 := ⟨⟨RX4, TX4, 5, tyX4, cc4, by decide, Or.inl (gw_t 316 (by decide +kernel) rfl)⟩, rfl⟩
theorem fa_RX8_134 : FA RX8 134 4 2 0 := ⟨⟨RX4, TX4, 5, tyX4, cc4, by decide, Or.inl (gw_t 312 (by decide +kernel) rfl)⟩, rfl⟩
theorem fa_RX8_144 : FA RX8 144 4 0 1 := ⟨⟨RX4, TX4, 5, tyX4, cc4, by decide, Or.inl (gw_t 308 (by decide +kernel) rfl)⟩, rfl⟩
theorem fa_RX8_148 : FA RX8 148 4 3 0 := ⟨⟨RX4, TX4, 5, tyX4, cc4, by decide, Or.inl (gw_t 314 (by decide +kernel) rfl)⟩, rfl⟩
theorem fa_RX8_155 : FA RX8 155 3 4 1 := ⟨⟨RX3, TX3, 20, tyX3, cc3, by decide, Or.inl (gw_t 202 (by decide +kernel) rfl)⟩, rfl⟩
theorem fa_RX8_158 : FA RX8 158 3 6 0 := ⟨⟨RX3, TX3, 20, tyX3, cc3, by decide, Or.inl (gw_t 206 (by decide +kernel) rfl)⟩, rfl⟩
theorem fa_RX8_171 : FA RX8 171 3 2 1 := ⟨⟨RX3, TX3, 20, tyX3, cc3, by decide, Or.inl (gw_t 198 (by decide +kernel) rfl)⟩, rfl⟩
theorem fa_RX8_183 : FA RX8 183 3 3 0 := ⟨⟨RX3, TX3, 20, tyX3, cc3, by decide, Or.inl (gw_t 200 (by decide +kernel) rfl)⟩, rfl⟩
theorem fa_RX8_189 : FA RX8 189 3 7 1 := ⟨⟨RX3, TX3, 20, tyX3, cc3, by decide, Or.inl (gw_t 208 (by decide +kernel) rfl)⟩, rfl⟩
theorem fa_RX8_192 : FA RX8 192 3 8 1 := ⟨⟨RX3, TX3, 20, tyX3, cc3, by decide, Or.inl (gw_t 210 (by decide +kernel) rfl)⟩, rfl⟩
theorem fa_RX8_195 : FA RX8 195 3 9 1 := ⟨⟨RX3, TX3, 20, tyX3, cc3, by decide, Or.inl (gw_t 212 (by decide +kernel) rfl)⟩, rfl⟩
theorem fa_RX8_198 : FA RX8 198 3 10 1 := ⟨⟨RX3, TX3, 20, tyX3, cc3, by decide, Or.inl (gw_t 214 (by decide +kernel) rfl)⟩, rfl⟩
theorem fa_RX8_201 : FA RX8 201 3 12 0 := ⟨⟨RX3, TX3, 20, tyX3, cc3, by decide, Or.inl (gw_t 217 (by decide +kernel) rfl)⟩, rfl⟩
theorem fa_RX8_204 : FA RX8 204 3 13 0 := ⟨⟨RX3, TX3, 20, tyX3, cc3, by decide, Or.inl (gw_t 219 (by decide +kernel) rfl)⟩, rfl⟩
theorem fa_RX8_207 : FA RX8 207 3 14 0 := ⟨⟨RX3, TX3, 20, tyX3, cc3, by decide, Or.inl (gw_t 221 (by decide +kernel) rfl)⟩, rfl⟩
theorem fa_RX8_210 : FA RX8 210 3 15 0 := ⟨⟨RX3, TX3, 20, tyX3, cc3, by decide, Or.inl (gw_t 223 (by decide +kernel) rfl)⟩, rfl⟩
theorem fa_RX8_219 : FA RX8 219 3 16 0 := ⟨⟨RX3, TX3, 20, tyX3, cc3, by decide, Or.inl (gw_t 225 (by decide +kernel) rfl)⟩, rfl⟩
theorem fa_RX8_231 : FA RX8 231 3 18 0 := ⟨⟨RX3, TX3, 20, tyX3, cc3, by decide, Or.inl (gw_t 229 (by decide +kernel) rfl)⟩, rfl⟩
theorem fa_RX8_234 : FA RX8 234 3 19 0 := ⟨⟨RX3, TX3, 20, tyX3, cc3, by decide, Or.inl (gw_t 232 (by decide +kernel) rfl)⟩, rfl⟩
theorem fa_RX8_240 : FA RX8 240 0 1 1 := ⟨⟨RX0, TX0, 5, tyX0, cc0, by decide, Or.inl (gw_t 338 (by decide +kernel) rfl)⟩, rfl⟩
theorem fa_RX8_247 : FA RX8 247 0 2 1 := ⟨⟨RX0, TX0, 5, tyX0, cc0, by decide, Or.inl (gw_t 340 (by decide +kernel) rfl)⟩, rfl⟩
theorem fa_RX8_249 : FA RX8 249 0 3 1 := ⟨⟨RX0, TX0, 5, tyX0, cc0, by decide, Or.inl (gw_t 342 (by decide +kernel) rfl)⟩, rfl⟩
theorem fa_RX8_251 : FA RX8 251 0 4 1 := ⟨⟨RX0, TX0, 5, tyX0, cc0, by decide, Or.inl (gw_t 344 (by decide +kernel) rfl)⟩, rfl⟩
theorem fa_RX8_312 : FA RX8 312 3 17 0 := ⟨⟨RX3, TX3, 20, tyX3, cc3, by decide, Or.inl (gw_t 227 (by decide +kernel) rfl)⟩, rfl⟩
theorem fa_RX8_318 : FA RX8 318 2 3 0 := ⟨⟨RX2, TX2, 5, tyX2, cc2, by decide, Or.inl (gw_t 287 (by decide +kernel) rfl)⟩, rfl⟩
theorem fa_RX8_324 : FA RX8 324 2 4 0 := ⟨⟨RX2, TX2, 5, tyX2, cc2, by decide, Or.inl (gw_t 289 (by decide +kernel) rfl)⟩, rfl⟩
theorem fa_RX8_347 : FA RX8 347 5 1 0 := ⟨⟨RX5, TX5, 18, tyX5, cc5, by decide, Or.inl (gw_t 42 (by decide +kernel) rfl)⟩, rfl⟩
theorem fa_RX8_350 : FA RX8 350 5 2 0 := ⟨⟨RX5, TX5, 18, tyX5, cc5, by decide, Or.inl (gw_t 45 (by decide +kernel) rfl)⟩, rfl⟩
theorem fa_RX8_353 : FA RX8 353 5 3 0 := ⟨⟨RX5, TX5, 18, tyX5, cc5, by decide, Or.inl (gw_t 48 (by decide +kernel) rfl)⟩, rfl⟩
theorem fa_RX8_356 : FA RX8 356 5 4 0 := ⟨⟨RX5, TX5, 18, tyX5, cc5, by decide, Or.inl (gw_t 51 (by decide +kernel) rfl)⟩, rfl⟩
theorem fa_RX8_359 : FA RX8 359 5 12 0 := ⟨⟨RX5, TX5, 18, tyX5, cc5, by decide, Or.inl (gw_t 78 (by decide +kernel) rfl)⟩, rfl⟩
theorem fa_RX8_362 : FA RX8 362 5 15 0 := ⟨⟨RX5, TX5, 18, tyX5, cc5, by decide, Or.inl (gw_t 86 (by decide +kernel) rfl)⟩, rfl⟩
theorem fa_RX9_9 : FA RX9 9 9 8 1 := ⟨⟨RX9, TX9, 18, tyX9, cc9, by decide, Or.inl (gw_t 1343 (by decide +kernel) rfl)⟩, rfl⟩
theorem fa_RX9_31 : FA RX9 31 9 14 1 := ⟨⟨RX9, TX9, 18, tyX9, cc9, by decide, Or.inl (gw_t 1355 (by decide +kernel) rfl)⟩, rfl⟩
theorem fa_RX9_37 : FA RX9 37 9 16 1 := ⟨⟨RX9, TX9, 18, tyX9, cc9, by decide, Or.inl (gw_t 1359 (by decide +kernel) rfl)⟩, rfl⟩
theorem fa_RX9_43 : FA RX9 43 9 4 0 := ⟨⟨RX9, TX9, 18, tyX9, cc9, by decide, Or.inl (gw_t 1336 (by decide +kernel) rfl)⟩, rfl⟩
theorem fa_RX9_47 : FA RX9 47 9 5 0 := ⟨⟨RX9, TX9, 18, tyX9, cc9, by decide, Or.inl (gw_t 1338 (by decide +kernel) rfl)⟩, rfl⟩
theorem fa_RX9_50 : FA RX9 50 9 6 0 := ⟨⟨RX9, TX9, 18, tyX9, cc9, by decide, Or.inl (gw_t 1340 (by decide +kernel) rfl)⟩, rfl⟩
theorem fp_RX0_11 : FP RX0 11 0 1 true (tyX0 1) ∧ kd 0 1 = 1 ∧ ((tyX0 1)).isReference = true := ⟨⟨RX0, TX0, 5, tyX0, cc0, by decide, rfl, Or.inr ⟨rfl, rfl, rfl, gw_t 337 (by decide +kernel) rfl⟩⟩, rfl, rfl⟩
theorem fp_RX0_15 : FP RX0 15 0 2 true (tyX0 2) ∧ kd 0 2 = 1 ∧ ((tyX0 2)).isReference = true := ⟨⟨RX0, TX0, 5, tyX0, cc0, by decide, rfl, Or.inr ⟨rfl, rfl, rfl, gw_t 339 (by decide +kernel) rfl⟩⟩, rfl, rfl⟩
theorem fp_RX0_18 : FP RX0 18 0 3 true (tyX0 3) ∧ kd 0 3 = 1 ∧ ((tyX0 3)).isReference = true := ⟨⟨RX0, TX0, 5, tyX0, cc0, by decide, rfl, Or.inr ⟨rfl, rfl, rfl, gw_t 341 (by decide +kernel) rfl⟩⟩, rfl, rfl⟩
theorem fp_RX0_21 : FP RX0 21 0 4 true (tyX0 4) ∧ kd 0 4 = 1 ∧ ((tyX0 4)).isReference = true := ⟨⟨RX0, TX0, 5, tyX0, cc0, by decide, rfl, Or.inr ⟨rfl, rfl, rfl, gw_t 343 (by decide +kernel) rfl⟩⟩, rfl, rfl⟩
theorem fp_RX0_29 : FP RX0 29 0 0 true (tyX0 0) ∧ kd 0 0 = 1 ∧ ((tyX0 0)).isReference = true := ⟨⟨RX0, TX0, 5, tyX0, cc0, by decide, rfl, Or.inr ⟨rfl, rfl, rfl, gw_t 336 (by decide +kernel) rfl⟩⟩, rfl, rfl⟩
theorem fp_RX1_9 : FP RX1 9 1 0 false .int ∧ kd 1 0 = 0 := ⟨⟨RX1, TX1, 2, tyX1, cc1, by decide, rfl, Or.inl ⟨rfl, rfl, Or.inl (gw_t 362 (by decide +kernel) rfl)⟩⟩, rfl⟩
theorem fp_RX1_20 : FP RX1 20 1 1 false .int ∧ kd 1 1 = 0 := ⟨⟨RX1, TX1, 2, tyX1, cc1, by decide, rfl, Or.inl ⟨rfl, rfl, Or.inl (gw_t 363 (by decide +kernel) rfl)⟩⟩, rfl⟩
theorem fp_RX10_9 : FP RX10 9 10 2 false .int ∧ kd 10 2 = 0 := ⟨⟨RX10, TX10, 38, tyX10, cc10, by decide, rfl, Or.inl ⟨rfl, rfl, Or.inl (gw_t 1197 (by decide +kernel) rfl)⟩⟩, rfl⟩
theorem fp_RX10_13 : FP RX10 13 10 5 true (tyX10 5) ∧ kd 10 5 = 1 ∧ ((tyX10 5)).isReference = true := ⟨⟨RX10, TX10, 38, tyX10, cc10, by decide, rfl, Or.inr ⟨rfl, rfl, rfl, gw_t 1200 (by decide +kernel) rfl⟩⟩, rfl, rfl⟩
theorem fp_RX10_17 : FP RX10 17 10 15 true (tyX10 15) ∧ kd 10 15 = 1 ∧ ((tyX10 15)).isReference = true := ⟨⟨RX10, TX10, 38, tyX10, cc10, by decide, rfl, Or.inr ⟨rfl, rfl, rfl, gw_t 1210 (by decide +kernel) rfl⟩⟩, rfl, rfl⟩
theorem fp_RX10_21 : FP RX10 21 10 20 true (tyX10 20) ∧ kd 10 20 = 1 ∧ ((tyX10 20)).isReference = true := ⟨⟨RX10, TX10, 38, tyX10, cc10, by decide, rfl, Or.inr ⟨rfl, rfl, rfl, gw_t 1215 (by decide +kernel) rfl⟩⟩, rfl, rfl⟩
theorem fp_RX10_24 : FP RX10 24 10 21 true (tyX10 21) ∧ kd 10 21 = 1 ∧ ((tyX10 21)).isReference = true := ⟨⟨RX10, TX10, 38, tyX10, cc10, by decide, rfl, Or.inr ⟨rfl, rfl, rfl, gw_t 1216 (by decide +kernel) rfl⟩⟩, rfl, rfl⟩
theorem fp_RX10_27 : FP RX10 27 10 22 true (tyX10 22) ∧ kd 10 22 = 1 ∧ ((tyX10 22)).isReference = true := ⟨⟨RX10, TX10, 38, tyX10, cc10, by decide, rfl, Or.inr ⟨rfl, rfl, rfl, gw_t 1217 (by decide +kernel) rfl⟩⟩, rfl, rfl⟩
theorem fp_RX10_30 : FP RX10 30 10 23 true (tyX10 23) ∧ kd 10 23 = 1 ∧ ((tyX10 23)).isReference = true := ⟨⟨RX10, TX10, 38, tyX10, cc10, by decide, rfl, Or.inr ⟨rfl, rfl, rfl, gw_t 1218 (by decide +kernel) rfl⟩⟩, rfl, rfl⟩
theorem fp_RX10_33 : FP RX10 33 10 34 true (tyX10 34) ∧ kd 10 34 = 1 ∧ ((tyX10 34)).isReference = true := ⟨⟨RX10, TX10, 38, tyX10, cc10, by decide, rfl, Or.inr ⟨rfl, rfl, rfl, gw_t 1229 (by decide +kernel) rfl⟩⟩, rfl, rfl⟩
theorem fp_RX10_36 : FP RX10 36 10 0 false .int ∧ kd 10 0 = 0 := ⟨⟨RX10, TX10, 38, tyX10, cc10, by decide, rfl, Or.inl ⟨rfl, rfl, Or.inl (gw_t 1195 (by decide +kernel) rfl)⟩⟩, rfl⟩
theorem fp_RX10_39 : FP RX10 39 10 1 false .int ∧ kd 10 1 = 0 := ⟨⟨RX10, TX10, 38, tyX10, cc10, by decide, rfl, Or.inl ⟨rfl, rfl, Or.inl (gw_t 1196 (by decide +kernel) rfl)⟩⟩, rfl⟩
theorem fp_RX10_53 : FP RX10 53 10 7 false .int ∧ kd 10 7 = 0 := ⟨⟨RX10, TX10, 38, tyX10, cc10, by decide, rfl, Or.inl ⟨rfl, rfl, Or.inl (gw_t 1202 (by decide +kernel) rfl)⟩⟩, rfl⟩
theorem fp_RX10_68 : FP RX10 68 10 9 false .int ∧ kd 10 9 = 0 := ⟨⟨RX10, TX10, 38, tyX10, cc10, by decide, rfl, Or.inl ⟨rfl, rfl, Or.inl (gw_t 1204 (by decide +kernel) rfl)⟩⟩, rfl⟩
theorem fp_RX10_71 : FP RX10 71 10 8 false .int ∧ kd 10 8 = 0 := ⟨⟨RX10, TX10, 38, tyX10, cc10, by decide, rfl, Or.inl ⟨rfl, rfl, Or.inl (gw_t 1203 (by decide +kernel) rfl)⟩⟩, rfl⟩
theorem fp_RX10_77 : FP RX10 77 10 10 false .int ∧ kd 10 10 = 0 := ⟨⟨RX10, TX10, 38, tyX10, cc10, by decide, rfl, Or.inl ⟨rfl, rfl, Or.inl (gw_t 1205 (by decide +kernel) rfl)⟩⟩, rfl⟩
theorem fp_RX10_84 : FP RX10 84 10 14 false .long ∧ kd 10 14 = 2 := ⟨⟨RX10, TX10, 38, tyX10, cc10, by decide, rfl, Or.inl ⟨rfl, rfl, Or.inl (gw_t 1209 (by decide +kernel) rfl)⟩⟩, rfl⟩
theorem fp_RX10_91 : FP RX10 91 10 11 false .int ∧ kd 10 11 = 0 := ⟨⟨RX10, TX10, 38, tyX10, cc10, by decide, rfl, Or.inl ⟨rfl, rfl, Or.inl (gw_t 1206 (by decide +kernel) rfl)⟩⟩, rfl⟩
theorem fp_RX10_94 : FP RX10 94 10 12 false .int ∧ kd 10 12 = 0 := ⟨⟨RX10, TX10, 38, tyX10, cc10, by decide, rfl, Or.inl ⟨rfl, rfl, Or.inl (gw_t 1207 (by decide +kernel) rfl)⟩⟩, rfl⟩
theorem fp_RX10_97 : FP RX10 97 10 13 false .int ∧ kd 10 13 = 0 := ⟨⟨RX10, TX10, 38, tyX10, cc10, by decide, rfl, Or.inl ⟨rfl, rfl, Or.inl (gw_t 1208 (by decide +kernel) rfl)⟩⟩, rfl⟩
theorem fp_RX10_130 : FP RX10 130 10 4 false (tyX10 4) ∧ kd 10 4 = 1 ∧ ((tyX10 4)).isReference = true := ⟨⟨RX10, TX10, 38, tyX10, cc10, by decide, rfl, Or.inl ⟨rfl, rfl, Or.inl (gw_t 1199 (by decide +kernel) rfl)⟩⟩, rfl, rfl⟩
theorem fp_RX10_134 : FP RX10 134 9 0 false .int ∧ kd 9 0 = 0 := ⟨⟨RX9, TX9, 18, tyX9, cc9, by decide, rfl, Or.inl ⟨rfl, rfl, Or.inr ⟨"RenamedCellsModel", nw_t 1332 (by decide +kernel) rfl⟩⟩⟩, rfl⟩
theorem fp_RX10_146 : FP RX10 146 9 4 false .int ∧ kd 9 4 = 0 := ⟨⟨RX9, TX9, 18, tyX9, cc9, by decide, rfl, Or.inl ⟨rfl, rfl, Or.inr ⟨"RenamedCellsModel", nw_t 1337 (by decide +kernel) rfl⟩⟩⟩, rfl⟩
theorem fp_RX10_197 : FP RX10 197 9 1 false .int ∧ kd 9 1 = 0 := ⟨⟨RX9, TX9, 18, tyX9, cc9, by decide, rfl, Or.inl ⟨rfl, rfl, Or.inr ⟨"RenamedCellsModel", nw_t 1333 (by decide +kernel) rfl⟩⟩⟩, rfl⟩
theorem fp_RX10_199 : FP RX10 199 9 2 false .int ∧ kd 9 2 = 0 := ⟨⟨RX9, TX9, 18, tyX9, cc9, by decide, rfl, Or.inl ⟨rfl, rfl, Or.inr ⟨"RenamedCellsModel", nw_t 1334 (by decide +kernel) rfl⟩⟩⟩, rfl⟩
theorem fp_RX10_201 : FP RX10 201 9 3 false .int ∧ kd 9 3 = 0 := ⟨⟨RX9, TX9, 18, tyX9, cc9, by decide, rfl, Or.inl ⟨rfl, rfl, Or.inr ⟨"RenamedCellsModel", nw_t 1335 (by decide +kernel) rfl⟩⟩⟩, rfl⟩
theorem fp_RX10_203 : FP RX10 203 9 7 false .boolean ∧ kd 9 7 = 0 := ⟨⟨RX9, TX9, 18, tyX9, cc9, by decide, rfl, Or.inl ⟨rfl, rfl, Or.inr ⟨"RenamedCellsModel", nw_t 1342 (by decide +kernel) rfl⟩⟩⟩, rfl⟩
theorem fp_RX10_234 : FP RX10 234 9 5 false .int ∧ kd 9 5 = 0 := ⟨⟨RX9, TX9, 18, tyX9, cc9, by decide, rfl, Or.inl ⟨rfl, rfl, Or.inr ⟨"RenamedCellsModel", nw_t 1339 (by decide +kernel) rfl⟩⟩⟩, rfl⟩
theorem fp_RX10_248 : FP RX10 248 9 6 false .int ∧ kd 9 6 = 0 := ⟨⟨RX9, TX9, 18, tyX9, cc9, by decide, rfl, Or.inl ⟨rfl, rfl, Or.inr ⟨"RenamedCellsModel", nw_t 1341 (by decide +kernel) rfl⟩⟩⟩, rfl⟩
theorem fp_RX10_259 : FP RX10 259 10 6 false .int ∧ kd 10 6 = 0 := ⟨⟨RX10, TX10, 38, tyX10, cc10, by decide, rfl, Or.inl ⟨rfl, rfl, Or.inl (gw_t 1201 (by decide +kernel) rfl)⟩⟩, rfl⟩
theorem fp_RX10_266 : FP RX10 266 10 3 false (tyX10 3) ∧ kd 10 3 = 1 ∧ ((tyX10 3)).isReference = true := ⟨⟨RX10, TX10, 38, tyX10, cc10, by decide, rfl, Or.inl ⟨rfl, rfl, Or.inl (gw_t 1198 (by decide +kernel) rfl)⟩⟩, rfl, rfl⟩
theorem fp_RX10_274 : FP RX10 274 10 24 false .int ∧ kd 10 24 = 0 := ⟨⟨RX10, TX10, 38, tyX10, cc10, by decide, rfl, Or.inl ⟨rfl, rfl, Or.inl (gw_t 1219 (by decide +kernel) rfl)⟩⟩, rfl⟩
theorem fp_RX10_277 : FP RX10 277 10 25 false .int ∧ kd 10 25 = 0 := ⟨⟨RX10, TX10, 38, tyX10, cc10, by decide, rfl, Or.inl ⟨rfl, rfl, Or.inl (gw_t 1220 (by decide +kernel) rfl)⟩⟩, rfl⟩
theorem fp_RX10_284 : FP RX10 284 10 16 false .int ∧ kd 10 16 = 0 := ⟨⟨RX10, TX10, 38, tyX10, cc10, by decide, rfl, Or.inl ⟨rfl, rfl, Or.inl (gw_t 1211 (by decide +kernel) rfl)⟩⟩, rfl⟩
theorem fp_RX10_287 : FP RX10 287 10 17 false .int ∧ kd 10 17 = 0 := ⟨⟨RX10, TX10, 38, tyX10, cc10, by decide, rfl, Or.inl ⟨rfl, rfl, Or.inl (gw_t 1212 (by decide +kernel) rfl)⟩⟩, rfl⟩
theorem fp_RX10_290 : FP RX10 290 10 19 false .int ∧ kd 10 19 = 0 := ⟨⟨RX10, TX10, 38, tyX10, cc10, by decide, rfl, Or.inl ⟨rfl, rfl, Or.inl (gw_t 1214 (by decide +kernel) rfl)⟩⟩, rfl⟩
theorem fp_RX10_293 : FP RX10 293 10 18 false .int ∧ kd 10 18 = 0 := ⟨⟨RX10, TX10, 38, tyX10, cc10, by decide, rfl, Or.inl ⟨rfl, rfl, Or.inl (gw_t 1213 (by decide +kernel) rfl)⟩⟩, rfl⟩
theorem fp_RX10_315 : FP RX10 315 10 26 false .int ∧ kd 10 26 = 0 := ⟨⟨RX10, TX10, 38, tyX10, cc10, by decide, rfl, Or.inl ⟨rfl, rfl, Or.inl (gw_t 1221 (by decide +kernel) rfl)⟩⟩, rfl⟩
theorem fp_RX10_360 : FP RX10 360 10 27 false .boolean ∧ kd 10 27 = 0 := ⟨⟨RX10, TX10, 38, tyX10, cc10, by decide, rfl, Or.inl ⟨rfl, rfl, Or.inl (gw_t 1222 (by decide +kernel) rfl)⟩⟩, rfl⟩
theorem fp_RX10_399 : FP RX10 399 10 29 false .int ∧ kd 10 29 = 0 := ⟨⟨RX10, TX10, 38, tyX10, cc10, by decide, rfl, Or.inl ⟨rfl, rfl, Or.inl (gw_t 1224 (by decide +kernel) rfl)⟩⟩, rfl⟩
theorem fp_RX10_405 : FP RX10 405 10 28 false .int ∧ kd 10 28 = 0 := ⟨⟨RX10, TX10, 38, tyX10, cc10, by decide, rfl, Or.inl ⟨rfl, rfl, Or.inl (gw_t 1223 (by decide +kernel) rfl)⟩⟩, rfl⟩
theorem fp_RX10_408 : FP RX10 408 10 30 false .int ∧ kd 10 30 = 0 := ⟨⟨RX10, TX10, 38, tyX10, cc10, by decide, rfl, Or.inl ⟨rfl, rfl, Or.inl (gw_t 1225 (by decide +kernel) rfl)⟩⟩, rfl⟩
theorem fp_RX10_424 : FP RX10 424 10 31 false .int ∧ kd 10 31 = 0 := ⟨⟨RX10, TX10, 38, tyX10, cc10, by decide, rfl, Or.inl ⟨rfl, rfl, Or.inl (gw_t 1226 (by decide +kernel) rfl)⟩⟩, rfl⟩
theorem fp_RX10_427 : FP RX10 427 10 32 false .int ∧ kd 10 32 = 0 := ⟨⟨RX10, TX10, 38, tyX10, cc10, by decide, rfl, Or.inl ⟨rfl, rfl, Or.inl (gw_t 1227 (by decide +kernel) rfl)⟩⟩, rfl⟩
theorem fp_RX10_430 : FP RX10 430 10 33 false .int ∧ kd 10 33 = 0 := ⟨⟨RX10, TX10, 38, tyX10, cc10, by decide, rfl, Or.inl ⟨rfl, rfl, Or.inl (gw_t 1228 (by decide +kernel) rfl)⟩⟩, rfl⟩
theorem fp_RX10_439 : FP RX10 439 10 35 false .int ∧ kd 10 35 = 0 := ⟨⟨RX10, TX10, 38, tyX10, cc10, by decide, rfl, Or.inl ⟨rfl, rfl, Or.inl (gw_t 1230 (by decide +kernel) rfl)⟩⟩, rfl⟩
theorem fp_RX10_447 : FP RX10 447 10 36 false .int ∧ kd 10 36 = 0 := ⟨⟨RX10, TX10, 38, tyX10, cc10, by decide, rfl, Or.inl ⟨rfl, rfl, Or.inl (gw_t 1231 (by decide +kernel) rfl)⟩⟩, rfl⟩
theorem fp_RX10_454 : FP RX10 454 10 37 false .int ∧ kd 10 37 = 0 := ⟨⟨RX10, TX10, 38, tyX10, cc10, by decide, rfl, Or.inl ⟨rfl, rfl, Or.inl (gw_t 1232 (by decide +kernel) rfl)⟩⟩, rfl⟩
theorem fp_RX2_11 : FP RX2 11 2 0 true (tyX2 0) ∧ kd 2 0 = 1 ∧ ((tyX2 0)).isReference = true := ⟨⟨RX2, TX2, 5, tyX2, cc2, by decide, rfl, Or.inr ⟨rfl, rfl, rfl, gw_t 283 (by decide +kernel) rfl⟩⟩, rfl, rfl⟩
theorem fp_RX2_17 : FP RX2 17 2 1 true (tyX2 1) ∧ kd 2 1 = 1 ∧ ((tyX2 1)).isReference = true := ⟨⟨RX2, TX2, 5, tyX2, cc2, by decide, rfl, Or.inr ⟨rfl, rfl, rfl, gw_t 284 (by decide +kernel) rfl⟩⟩, rfl, rfl⟩
theorem fp_RX2_23 : FP RX2 23 2 3 false .int ∧ kd 2 3 = 0 := ⟨⟨RX2, TX2, 5, tyX2, cc2, by decide, rfl, Or.inl ⟨rfl, rfl, Or.inl (gw_t 286 (by decide +kernel) rfl)⟩⟩, rfl⟩
theorem fp_RX2_27 : FP RX2 27 2 4 false .int ∧ kd 2 4 = 0 := ⟨⟨RX2, TX2, 5, tyX2, cc2, by decide, rfl, Or.inl ⟨rfl, rfl, Or.inl (gw_t 288 (by decide +kernel) rfl)⟩⟩, rfl⟩
theorem fp_RX2_30 : FP RX2 30 2 2 false .int ∧ kd 2 2 = 0 := ⟨⟨RX2, TX2, 5, tyX2, cc2, by decide, rfl, Or.inl ⟨rfl, rfl, Or.inl (gw_t 285 (by decide +kernel) rfl)⟩⟩, rfl⟩
theorem fp_RX3_9 : FP RX3 9 3 2 true (tyX3 2) ∧ kd 3 2 = 1 ∧ ((tyX3 2)).isReference = true := ⟨⟨RX3, TX3, 20, tyX3, cc3, by decide, rfl, Or.inr ⟨rfl, rfl, rfl, gw_t 197 (by decide +kernel) rfl⟩⟩, rfl, rfl⟩
theorem fp_RX3_15 : FP RX3 15 3 4 true (tyX3 4) ∧ kd 3 4 = 1 ∧ ((tyX3 4)).isReference = true := ⟨⟨RX3, TX3, 20, tyX3, cc3, by decide, rfl, Or.inr ⟨rfl, rfl, rfl, gw_t 201 (by decide +kernel) rfl⟩⟩, rfl, rfl⟩
theorem fp_RX3_18 : FP RX3 18 3 7 true (tyX3 7) ∧ kd 3 7 = 1 ∧ ((tyX3 7)).isReference = true := ⟨⟨RX3, TX3, 20, tyX3, cc3, by decide, rfl, Or.inr ⟨rfl, rfl, rfl, gw_t 207 (by decide +kernel) rfl⟩⟩, rfl, rfl⟩
theorem fp_RX3_21 : FP RX3 21 3 8 true (tyX3 8) ∧ kd 3 8 = 1 ∧ ((tyX3 8)).isReference = true := ⟨⟨RX3, TX3, 20, tyX3, cc3, by decide, rfl, Or.inr ⟨rfl, rfl, rfl, gw_t 209 (by decide +kernel) rfl⟩⟩, rfl, rfl⟩
theorem fp_RX3_24 : FP RX3 24 3 9 true (tyX3 9) ∧ kd 3 9 = 1 ∧ ((tyX3 9)).isReference = true := ⟨⟨RX3, TX3, 20, tyX3, cc3, by decide, rfl, Or.inr ⟨rfl, rfl, rfl, gw_t 211 (by decide +kernel) rfl⟩⟩, rfl, rfl⟩
theorem fp_RX3_27 : FP RX3 27 3 10 true (tyX3 10) ∧ kd 3 10 = 1 ∧ ((tyX3 10)).isReference = true := ⟨⟨RX3, TX3, 20, tyX3, cc3, by decide, rfl, Or.inr ⟨rfl, rfl, rfl, gw_t 213 (by decide +kernel) rfl⟩⟩, rfl, rfl⟩
theorem fp_RX3_30 : FP RX3 30 3 0 false (tyX3 0) ∧ kd 3 0 = 1 ∧ ((tyX3 0)).isReference = true := ⟨⟨RX3, TX3, 20, tyX3, cc3, by decide, rfl, Or.inl ⟨rfl, rfl, Or.inl (gw_t 195 (by decide +kernel) rfl)⟩⟩, rfl, rfl⟩
theorem fp_RX3_34 : FP RX3 34 3 1 false .int ∧ kd 3 1 = 0 := ⟨⟨RX3, TX3, 20, tyX3, cc3, by decide, rfl, Or.inl ⟨rfl, rfl, Or.inl (gw_t 196 (by decide +kernel) rfl)⟩⟩, rfl⟩
theorem fp_RX3_44 : FP RX3 44 3 3 false .int ∧ kd 3 3 = 0 := ⟨⟨RX3, TX3, 20, tyX3, cc3, by decide, rfl, Or.inl ⟨rfl, rfl, Or.inl (gw_t 199 (by decide +kernel) rfl)⟩⟩, rfl⟩
theorem fp_RX3_47 : FP RX3 47 3 5 false .int ∧ kd 3 5 = 0 := ⟨⟨RX3, TX3, 20, tyX3, cc3, by decide, rfl, Or.inl ⟨rfl, rfl, Or.inl (gw_t 203 (by decide +kernel) rfl)⟩⟩, rfl⟩
theorem fp_RX3_54 : FP RX3 54 3 16 false .int ∧ kd 3 16 = 0 := ⟨⟨RX3, TX3, 20, tyX3, cc3, by decide, rfl, Or.inl ⟨rfl, rfl, Or.inl (gw_t 224 (by decide +kernel) rfl)⟩⟩, rfl⟩
theorem fp_RX3_57 : FP RX3 57 3 17 false .boolean ∧ kd 3 17 = 0 := ⟨⟨RX3, TX3, 20, tyX3, cc3, by decide, rfl, Or.inl ⟨rfl, rfl, Or.inl (gw_t 226 (by decide +kernel) rfl)⟩⟩, rfl⟩
theorem fp_RX3_61 : FP RX3 61 3 18 false .boolean ∧ kd 3 18 = 0 := ⟨⟨RX3, TX3, 20, tyX3, cc3, by decide, rfl, Or.inl ⟨rfl, rfl, Or.inl (gw_t 228 (by decide +kernel) rfl)⟩⟩, rfl⟩
theorem fp_RX3_64 : FP RX3 64 3 19 false .int ∧ kd 3 19 = 0 := ⟨⟨RX3, TX3, 20, tyX3, cc3, by decide, rfl, Or.inl ⟨rfl, rfl, Or.inl (gw_t 230 (by decide +kernel) rfl)⟩⟩, rfl⟩
theorem fp_RX3_73 : FP RX3 73 3 6 false .int ∧ kd 3 6 = 0 := ⟨⟨RX3, TX3, 20, tyX3, cc3, by decide, rfl, Or.inl ⟨rfl, rfl, Or.inl (gw_t 204 (by decide +kernel) rfl)⟩⟩, rfl⟩
theorem fp_RX3_76 : FP RX3 76 3 11 false .int ∧ kd 3 11 = 0 := ⟨⟨RX3, TX3, 20, tyX3, cc3, by decide, rfl, Or.inl ⟨rfl, rfl, Or.inl (gw_t 215 (by decide +kernel) rfl)⟩⟩, rfl⟩
theorem fp_RX3_79 : FP RX3 79 3 12 false .int ∧ kd 3 12 = 0 := ⟨⟨RX3, TX3, 20, tyX3, cc3, by decide, rfl, Or.inl ⟨rfl, rfl, Or.inl (gw_t 216 (by decide +kernel) rfl)⟩⟩, rfl⟩
theorem fp_RX3_82 : FP RX3 82 3 13 false .int ∧ kd 3 13 = 0 := ⟨⟨RX3, TX3, 20, tyX3, cc3, by decide, rfl, Or.inl ⟨rfl, rfl, Or.inl (gw_t 218 (by decide +kernel) rfl)⟩⟩, rfl⟩
theorem fp_RX3_85 : FP RX3 85 3 14 false .int ∧ kd 3 14 = 0 := ⟨⟨RX3, TX3, 20, tyX3, cc3, by decide, rfl, Or.inl ⟨rfl, rfl, Or.inl (gw_t 220 (by decide +kernel) rfl)⟩⟩, rfl⟩
theorem fp_RX3_88 : FP RX3 88 3 15 false .int ∧ kd 3 15 = 0 := ⟨⟨RX3, TX3, 20, tyX3, cc3, by decide, rfl, Or.inl ⟨rfl, rfl, Or.inl (gw_t 222 (by decide +kernel) rfl)⟩⟩, rfl⟩
theorem fp_RX4_9 : FP RX4 9 4 0 true (tyX4 0) ∧ kd 4 0 = 1 ∧ ((tyX4 0)).isReference = true := ⟨⟨RX4, TX4, 5, tyX4, cc4, by decide, rfl, Or.inr ⟨rfl, rfl, rfl, gw_t 307 (by decide +kernel) rfl⟩⟩, rfl, rfl⟩
theorem fp_RX4_21 : FP RX4 21 4 1 false .int ∧ kd 4 1 = 0 := ⟨⟨RX4, TX4, 5, tyX4, cc4, by decide, rfl, Or.inl ⟨rfl, rfl, Or.inl (gw_t 309 (by decide +kernel) rfl)⟩⟩, rfl⟩
theorem fp_RX4_25 : FP RX4 25 4 2 false .int ∧ kd 4 2 = 0 := ⟨⟨RX4, TX4, 5, tyX4, cc4, by decide, rfl, Or.inl ⟨rfl, rfl, Or.inl (gw_t 311 (by decide +kernel) rfl)⟩⟩, rfl⟩
theorem fp_RX4_28 : FP RX4 28 4 3 false .int ∧ kd 4 3 = 0 := ⟨⟨RX4, TX4, 5, tyX4, cc4, by decide, rfl, Or.inl ⟨rfl, rfl, Or.inl (gw_t 313 (by decide +kernel) rfl)⟩⟩, rfl⟩
theorem fp_RX4_31 : FP RX4 31 4 4 false .boolean ∧ kd 4 4 = 0 := ⟨⟨RX4, TX4, 5, tyX4, cc4, by decide, rfl, Or.inl ⟨rfl, rfl, Or.inl (gw_t 315 (by decide +kernel) rfl)⟩⟩, rfl⟩
theorem fp_RX5_9 : FP RX5 9 5 6 true (tyX5 6) ∧ kd 5 6 = 1 ∧ ((tyX5 6)).isReference = true := ⟨⟨RX5, TX5, 18, tyX5, cc5, by decide, rfl, Or.inr ⟨rfl, rfl, rfl, gw_t 55 (by decide +kernel) rfl⟩⟩, rfl, rfl⟩
theorem fp_RX5_15 : FP RX5 15 5 7 true (tyX5 7) ∧ kd 5 7 = 1 ∧ ((tyX5 7)).isReference = true := ⟨⟨RX5, TX5, 18, tyX5, cc5, by decide, rfl, Or.inr ⟨rfl, rfl, rfl, gw_t 59 (by decide +kernel) rfl⟩⟩, rfl, rfl⟩
theorem fp_RX5_18 : FP RX5 18 5 8 true (tyX5 8) ∧ kd 5 8 = 1 ∧ ((tyX5 8)).isReference = true := ⟨⟨RX5, TX5, 18, tyX5, cc5, by decide, rfl, Or.inr ⟨rfl, rfl, rfl, gw_t 63 (by decide +kernel) rfl⟩⟩, rfl, rfl⟩
theorem fp_RX5_21 : FP RX5 21 5 9 true (tyX5 9) ∧ kd 5 9 = 1 ∧ ((tyX5 9)).isReference = true := ⟨⟨RX5, TX5, 18, tyX5, cc5, by decide, rfl, Or.inr ⟨rfl, rfl, rfl, gw_t 67 (by decide +kernel) rfl⟩⟩, rfl, rfl⟩
theorem fp_RX5_24 : FP RX5 24 5 10 true (tyX5 10) ∧ kd 5 10 = 1 ∧ ((tyX5 10)).isReference = true := ⟨⟨RX5, TX5, 18, tyX5, cc5, by decide, rfl, Or.inr ⟨rfl, rfl, rfl, gw_t 71 (by decide +kernel) rfl⟩⟩, rfl, rfl⟩
theorem fp_RX5_27 : FP RX5 27 5 11 true (tyX5 11) ∧ kd 5 11 = 1 ∧ ((tyX5 11)).isReference = true := ⟨⟨RX5, TX5, 18, tyX5, cc5, by decide, rfl, Or.inr ⟨rfl, rfl, rfl, gw_t 73 (by decide +kernel) rfl⟩⟩, rfl, rfl⟩
theorem fp_RX5_31 : FP RX5 31 5 13 true (tyX5 13) ∧ kd 5 13 = 1 ∧ ((tyX5 13)).isReference = true := ⟨⟨RX5, TX5, 18, tyX5, cc5, by decide, rfl, Or.inr ⟨rfl, rfl, rfl, gw_t 79 (by decide +kernel) rfl⟩⟩, rfl, rfl⟩
theorem fp_RX5_34 : FP RX5 34 5 14 true (tyX5 14) ∧ kd 5 14 = 1 ∧ ((tyX5 14)).isReference = true := ⟨⟨RX5, TX5, 18, tyX5, cc5, by decide, rfl, Or.inr ⟨rfl, rfl, rfl, gw_t 81 (by decide +kernel) rfl⟩⟩, rfl, rfl⟩
theorem fp_RX5_37 : FP RX5 37 5 16 true (tyX5 16) ∧ kd 5 16 = 1 ∧ ((tyX5 16)).isReference = true := ⟨⟨RX5, TX5, 18, tyX5, cc5, by decide, rfl, Or.inr ⟨rfl, rfl, rfl, gw_t 87 (by decide +kernel) rfl⟩⟩, rfl, rfl⟩
theorem fp_RX5_40 : FP RX5 40 5 17 true (tyX5 17) ∧ kd 5 17 = 1 ∧ ((tyX5 17)).isReference = true := ⟨⟨RX5, TX5, 18, tyX5, cc5, by decide, rfl, Or.inr ⟨rfl, rfl, rfl, gw_t 90 (by decide +kernel) rfl⟩⟩, rfl, rfl⟩
theorem fp_RX5_43 : FP RX5 43 5 5 false .int ∧ kd 5 5 = 0 := ⟨⟨RX5, TX5, 18, tyX5, cc5, by decide, rfl, Or.inl ⟨rfl, rfl, Or.inl (gw_t 52 (by decide +kernel) rfl)⟩⟩, rfl⟩
theorem fp_RX5_47 : FP RX5 47 5 12 false .int ∧ kd 5 12 = 0 := ⟨⟨RX5, TX5, 18, tyX5, cc5, by decide, rfl, Or.inl ⟨rfl, rfl, Or.inl (gw_t 75 (by decide +kernel) rfl)⟩⟩, rfl⟩
theorem fp_RX5_50 : FP RX5 50 5 15 false .int ∧ kd 5 15 = 0 := ⟨⟨RX5, TX5, 18, tyX5, cc5, by decide, rfl, Or.inl ⟨rfl, rfl, Or.inl (gw_t 83 (by decide +kernel) rfl)⟩⟩, rfl⟩
theorem fp_RX6_9 : FP RX6 9 6 2 false (tyX6 2) ∧ kd 6 2 = 1 ∧ ((tyX6 2)).isReference = true := ⟨⟨RX6, TX6, 8, tyX6, cc6, by decide, rfl, Or.inl ⟨rfl, rfl, Or.inl (gw_t 166 (by decide +kernel) rfl)⟩⟩, rfl, rfl⟩
theorem fp_RX6_18 : FP RX6 18 6 3 true (tyX6 3) ∧ kd 6 3 = 1 ∧ ((tyX6 3)).isReference = true := ⟨⟨RX6, TX6, 8, tyX6, cc6, by decide, rfl, Or.inr ⟨rfl, rfl, rfl, gw_t 167 (by decide +kernel) rfl⟩⟩, rfl, rfl⟩
theorem fp_RX6_22 : FP RX6 22 6 7 false (tyX6 7) ∧ kd 6 7 = 1 ∧ ((tyX6 7)).isReference = true := ⟨⟨RX6, TX6, 8, tyX6, cc6, by decide, rfl, Or.inl ⟨rfl, rfl, Or.inl (gw_t 171 (by decide +kernel) rfl)⟩⟩, rfl, rfl⟩
theorem fp_RX6_36 : FP RX6 36 6 4 false .int ∧ kd 6 4 = 0 := ⟨⟨RX6, TX6, 8, tyX6, cc6, by decide, rfl, Or.inl ⟨rfl, rfl, Or.inl (gw_t 168 (by decide +kernel) rfl)⟩⟩, rfl⟩
theorem fp_RX6_40 : FP RX6 40 6 0 false .int ∧ kd 6 0 = 0 := ⟨⟨RX6, TX6, 8, tyX6, cc6, by decide, rfl, Or.inl ⟨rfl, rfl, Or.inl (gw_t 162 (by decide +kernel) rfl)⟩⟩, rfl⟩
theorem fp_RX6_43 : FP RX6 43 6 1 false .int ∧ kd 6 1 = 0 := ⟨⟨RX6, TX6, 8, tyX6, cc6, by decide, rfl, Or.inl ⟨rfl, rfl, Or.inl (gw_t 164 (by decide +kernel) rfl)⟩⟩, rfl⟩
theorem fp_RX6_59 : FP RX6 59 5 5 false .int ∧ kd 5 5 = 0 := ⟨⟨RX5, TX5, 18, tyX5, cc5, by decide, rfl, Or.inl ⟨rfl, rfl, Or.inl (gw_t 53 (by decide +kernel) rfl)⟩⟩, rfl⟩
theorem fp_RX6_82 : FP RX6 82 5 12 false .int ∧ kd 5 12 = 0 := ⟨⟨RX5, TX5, 18, tyX5, cc5, by decide, rfl, Or.inl ⟨rfl, rfl, Or.inl (gw_t 77 (by decide +kernel) rfl)⟩⟩, rfl⟩
theorem fp_RX6_88 : FP RX6 88 5 15 false .int ∧ kd 5 15 = 0 := ⟨⟨RX5, TX5, 18, tyX5, cc5, by decide, rfl, Or.inl ⟨rfl, rfl, Or.inl (gw_t 85 (by decide +kernel) rfl)⟩⟩, rfl⟩
theorem fp_RX6_131 : FP RX6 131 6 5 false .int ∧ kd 6 5 = 0 := ⟨⟨RX6, TX6, 8, tyX6, cc6, by decide, rfl, Or.inl ⟨rfl, rfl, Or.inl (gw_t 169 (by decide +kernel) rfl)⟩⟩, rfl⟩
theorem fp_RX6_134 : FP RX6 134 5 0 false .int ∧ kd 5 0 = 0 := ⟨⟨RX5, TX5, 18, tyX5, cc5, by decide, rfl, Or.inl ⟨rfl, rfl, Or.inl (gw_t 39 (by decide +kernel) rfl)⟩⟩, rfl⟩
theorem fp_RX6_138 : FP RX6 138 5 1 false .int ∧ kd 5 1 = 0 := ⟨⟨RX5, TX5, 18, tyX5, cc5, by decide, rfl, Or.inl ⟨rfl, rfl, Or.inl (gw_t 40 (by decide +kernel) rfl)⟩⟩, rfl⟩
theorem fp_RX6_142 : FP RX6 142 5 2 false .int ∧ kd 5 2 = 0 := ⟨⟨RX5, TX5, 18, tyX5, cc5, by decide, rfl, Or.inl ⟨rfl, rfl, Or.inl (gw_t 43 (by decide +kernel) rfl)⟩⟩, rfl⟩
theorem fp_RX6_146 : FP RX6 146 5 3 false .int ∧ kd 5 3 = 0 := ⟨⟨RX5, TX5, 18, tyX5, cc5, by decide, rfl, Or.inl ⟨rfl, rfl, Or.inl (gw_t 46 (by decide +kernel) rfl)⟩⟩, rfl⟩
theorem fp_RX6_150 : FP RX6 150 5 4 false .boolean ∧ kd 5 4 = 0 := ⟨⟨RX5, TX5, 18, tyX5, cc5, by decide, rfl, Or.inl ⟨rfl, rfl, Or.inl (gw_t 49 (by decide +kernel) rfl)⟩⟩, rfl⟩
theorem fp_RX6_188 : FP RX6 188 6 6 false .int ∧ kd 6 6 = 0 := ⟨⟨RX6, TX6, 8, tyX6, cc6, by decide, rfl, Or.inl ⟨rfl, rfl, Or.inl (gw_t 170 (by decide +kernel) rfl)⟩⟩, rfl⟩
theorem fp_RX7_9 : FP RX7 9 7 0 true (tyX7 0) ∧ kd 7 0 = 1 ∧ ((tyX7 0)).isReference = true := ⟨⟨RX7, TX7, 4, tyX7, cc7, by decide, rfl, Or.inr ⟨rfl, rfl, rfl, gw_t 145 (by decide +kernel) rfl⟩⟩, rfl, rfl⟩
theorem fp_RX7_15 : FP RX7 15 7 1 true (tyX7 1) ∧ kd 7 1 = 1 ∧ ((tyX7 1)).isReference = true := ⟨⟨RX7, TX7, 4, tyX7, cc7, by decide, rfl, Or.inr ⟨rfl, rfl, rfl, gw_t 147 (by decide +kernel) rfl⟩⟩, rfl, rfl⟩
theorem fp_RX7_18 : FP RX7 18 7 2 true (tyX7 2) ∧ kd 7 2 = 1 ∧ ((tyX7 2)).isReference = true := ⟨⟨RX7, TX7, 4, tyX7, cc7, by decide, rfl, Or.inr ⟨rfl, rfl, rfl, gw_t 149 (by decide +kernel) rfl⟩⟩, rfl, rfl⟩
theorem fp_RX7_32 : FP RX7 32 7 3 false .int ∧ kd 7 3 = 0 := ⟨⟨RX7, TX7, 4, tyX7, cc7, by decide, rfl, Or.inl ⟨rfl, rfl, Or.inl (gw_t 151 (by decide +kernel) rfl)⟩⟩, rfl⟩
theorem fp_RX8_9 : FP RX8 9 8 0 true (tyX8 0) ∧ kd 8 0 = 1 ∧ ((tyX8 0)).isReference = true := ⟨⟨RX8, TX8, 13, tyX8, cc8, by decide, rfl, Or.inr ⟨rfl, rfl, rfl, gw_t 369 (by decide +kernel) rfl⟩⟩, rfl, rfl⟩
theorem fp_RX8_16 : FP RX8 16 8 3 false (tyX8 3) ∧ kd 8 3 = 1 ∧ ((tyX8 3)).isReference = true := ⟨⟨RX8, TX8, 13, tyX8, cc8, by decide, rfl, Or.inl ⟨rfl, rfl, Or.inl (gw_t 372 (by decide +kernel) rfl)⟩⟩, rfl, rfl⟩
theorem fp_RX8_20 : FP RX8 20 8 4 false (tyX8 4) ∧ kd 8 4 = 1 ∧ ((tyX8 4)).isReference = true := ⟨⟨RX8, TX8, 13, tyX8, cc8, by decide, rfl, Or.inl ⟨rfl, rfl, Or.inl (gw_t 373 (by decide +kernel) rfl)⟩⟩, rfl, rfl⟩
theorem fp_RX8_28 : FP RX8 28 8 5 true (tyX8 5) ∧ kd 8 5 = 1 ∧ ((tyX8 5)).isReference = true := ⟨⟨RX8, TX8, 13, tyX8, cc8, by decide, rfl, Or.inr ⟨rfl, rfl, rfl, gw_t 374 (by decide +kernel) rfl⟩⟩, rfl, rfl⟩
theorem fp_RX8_35 : FP RX8 35 8 6 true (tyX8 6) ∧ kd 8 6 = 1 ∧ ((tyX8 6)).isReference = true := ⟨⟨RX8, TX8, 13, tyX8, cc8, by decide, rfl, Or.inr ⟨rfl, rfl, rfl, gw_t 375 (by decide +kernel) rfl⟩⟩, rfl, rfl⟩
theorem fp_RX8_39 : FP RX8 39 8 7 true (tyX8 7) ∧ kd 8 7 = 1 ∧ ((tyX8 7)).isReference = true := ⟨⟨RX8, TX8, 13, tyX8, cc8, by decide, rfl, Or.inr ⟨rfl, rfl, rfl, gw_t 376 (by decide +kernel) rfl⟩⟩, rfl, rfl⟩
theorem fp_RX8_45 : FP RX8 45 8 8 true (tyX8 8) ∧ kd 8 8 = 1 ∧ ((tyX8 8)).isReference = true := ⟨⟨RX8, TX8, 13, tyX8, cc8, by decide, rfl, Or.inr ⟨rfl, rfl, rfl, gw_t 377 (by decide +kernel) rfl⟩⟩, rfl, rfl⟩
theorem fp_RX8_52 : FP RX8 52 8 9 true (tyX8 9) ∧ kd 8 9 = 1 ∧ ((tyX8 9)).isReference = true := ⟨⟨RX8, TX8, 13, tyX8, cc8, by decide, rfl, Or.inr ⟨rfl, rfl, rfl, gw_t 378 (by decide +kernel) rfl⟩⟩, rfl, rfl⟩
theorem fp_RX8_59 : FP RX8 59 8 10 true (tyX8 10) ∧ kd 8 10 = 1 ∧ ((tyX8 10)).isReference = true := ⟨⟨RX8, TX8, 13, tyX8, cc8, by decide, rfl, Or.inr ⟨rfl, rfl, rfl, gw_t 379 (by decide +kernel) rfl⟩⟩, rfl, rfl⟩
theorem fp_RX8_66 : FP RX8 66 8 11 true (tyX8 11) ∧ kd 8 11 = 1 ∧ ((tyX8 11)).isReference = true := ⟨⟨RX8, TX8, 13, tyX8, cc8, by decide, rfl, Or.inr ⟨rfl, rfl, rfl, gw_t 380 (by decide +kernel) rfl⟩⟩, rfl, rfl⟩
theorem fp_RX8_70 : FP RX8 70 8 2 false .boolean ∧ kd 8 2 = 0 := ⟨⟨RX8, TX8, 13, tyX8, cc8, by decide, rfl, Or.inl ⟨rfl, rfl, Or.inl (gw_t 371 (by decide +kernel) rfl)⟩⟩, rfl⟩
theorem fp_RX8_74 : FP RX8 74 8 1 false .int ∧ kd 8 1 = 0 := ⟨⟨RX8, TX8, 13, tyX8, cc8, by decide, rfl, Or.inl ⟨rfl, rfl, Or.inl (gw_t 370 (by decide +kernel) rfl)⟩⟩, rfl⟩
theorem fp_RX8_78 : FP RX8 78 8 12 false .int ∧ kd 8 12 = 0 := ⟨⟨RX8, TX8, 13, tyX8, cc8, by decide, rfl, Or.inl ⟨rfl, rfl, Or.inl (gw_t 381 (by decide +kernel) rfl)⟩⟩, rfl⟩
theorem fp_RX9_9 : FP RX9 9 9 8 true (tyX9 8) ∧ kd 9 8 = 1 ∧ ((tyX9 8)).isReference = true := ⟨⟨RX9, TX9, 18, tyX9, cc9, by decide, rfl, Or.inr ⟨rfl, rfl, rfl, gw_t 1343 (by decide +kernel) rfl⟩⟩, rfl, rfl⟩
theorem fp_RX9_15 : FP RX9 15 9 9 true (tyX9 9) ∧ kd 9 9 = 1 ∧ ((tyX9 9)).isReference = true := ⟨⟨RX9, TX9, 18, tyX9, cc9, by decide, rfl, Or.inr ⟨rfl, rfl, rfl, gw_t 1345 (by decide +kernel) rfl⟩⟩, rfl, rfl⟩
theorem fp_RX9_18 : FP RX9 18 9 10 true (tyX9 10) ∧ kd 9 10 = 1 ∧ ((tyX9 10)).isReference = true := ⟨⟨RX9, TX9, 18, tyX9, cc9, by decide, rfl, Or.inr ⟨rfl, rfl, rfl, gw_t 1347 (by decide +kernel) rfl⟩⟩, rfl, rfl⟩
theorem fp_RX9_21 : FP RX9 21 9 11 true (tyX9 11) ∧ kd 9 11 = 1 ∧ ((tyX9 11)).isReference = true := ⟨⟨RX9, TX9, 18, tyX9, cc9, by decide, rfl, Or.inr ⟨rfl, rfl, rfl, gw_t 1349 (by decide +kernel) rfl⟩⟩, rfl, rfl⟩
theorem fp_RX9_24 : FP RX9 24 9 12 true (tyX9 12) ∧ kd 9 12 = 1 ∧ ((tyX9 12)).isReference = true := ⟨⟨RX9, TX9, 18, tyX9, cc9, by decide, rfl, Or.inr ⟨rfl, rfl, rfl, gw_t 1351 (by decide +kernel) rfl⟩⟩, rfl, rfl⟩
theorem fp_RX9_27 : FP RX9 27 9 13 true (tyX9 13) ∧ kd 9 13 = 1 ∧ ((tyX9 13)).isReference = true := ⟨⟨RX9, TX9, 18, tyX9, cc9, by decide, rfl, Or.inr ⟨rfl, rfl, rfl, gw_t 1353 (by decide +kernel) rfl⟩⟩, rfl, rfl⟩
theorem fp_RX9_31 : FP RX9 31 9 14 true (tyX9 14) ∧ kd 9 14 = 1 ∧ ((tyX9 14)).isReference = true := ⟨⟨RX9, TX9, 18, tyX9, cc9, by decide, rfl, Or.inr ⟨rfl, rfl, rfl, gw_t 1355 (by decide +kernel) rfl⟩⟩, rfl, rfl⟩
theorem fp_RX9_34 : FP RX9 34 9 15 true (tyX9 15) ∧ kd 9 15 = 1 ∧ ((tyX9 15)).isReference = true := ⟨⟨RX9, TX9, 18, tyX9, cc9, by decide, rfl, Or.inr ⟨rfl, rfl, rfl, gw_t 1357 (by decide +kernel) rfl⟩⟩, rfl, rfl⟩
theorem fp_RX9_37 : FP RX9 37 9 16 true (tyX9 16) ∧ kd 9 16 = 1 ∧ ((tyX9 16)).isReference = true := ⟨⟨RX9, TX9, 18, tyX9, cc9, by decide, rfl, Or.inr ⟨rfl, rfl, rfl, gw_t 1359 (by decide +kernel) rfl⟩⟩, rfl, rfl⟩
theorem fp_RX9_40 : FP RX9 40 9 17 true (tyX9 17) ∧ kd 9 17 = 1 ∧ ((tyX9 17)).isReference = true := ⟨⟨RX9, TX9, 18, tyX9, cc9, by decide, rfl, Or.inr ⟨rfl, rfl, rfl, gw_t 1361 (by decide +kernel) rfl⟩⟩, rfl, rfl⟩
abbrev K_J0_isLatin1_aae02 : MK := (1, RJ0, some .boolean, false, 0, 0, 0, 0)
abbrev K_J1_charAt_3b067 : MK := (2, RJ1, some .char, false, 2, 43, 0, 0)
abbrev K_J0_charAt_5068e : MK := (2, RJ0, some .char, false, 3, 64, 0, 0)
abbrev K_J0_coder_7d493 : MK := (1, RJ0, some .byte, false, 0, 0, 0, 0)
abbrev K_J0_length_8abf5 : MK := (1, RJ0, some .int, false, 1, 20, 0, 0)
abbrev K_J3_checkIndex_8e157 : MK := (3, RJ3, some .int, false, 0, 0, 0, 0)
abbrev K_J6_bitCount_0f7a4 : MK := (1, RJ6, some .int, false, 0, 0, 0, 0)
abbrev K_J6_numberOfTrailingZeros_0f7a4 : MK := (2, RJ6, some .int, false, 0, 0, 0, 0)
abbrev K_J7_fill_53178 : MK := (4, RJ7, none, false, 0, 0, 0, 0)
abbrev K_X0_forget : MK := (1, RX0, none, false, 1, 23, 0, 0)
abbrev K_X3_isDone : MK := (2, RX3, some .boolean, false, 0, 0, 0, 0)
abbrev K_X3_isReady : MK := (2, RX3, some .boolean, false, 0, 0, 0, 0)
abbrev K_X3_whyNotRetire : MK := (2, RX3, some .int, false, 1, 21, 0, 0)
abbrev K_X3_keepOldest : MK := (3, RX3, none, false, 0, 0, 0, 0)
abbrev K_X8_isRegister : MK := (1, RX8, some .boolean, false, 0, 0, 0, 0)
abbrev K_X3_bitOf : MK := (1, RX3, some .int, false, 0, 0, 0, 0)
abbrev K_X3_dropOldest : MK := (1, RX3, none, false, 1, 26, 0, 0)
abbrev K_X3_retire : MK := (3, RX3, some .int, false, 2, 46, 0, 0)
abbrev K_X3_canRead : MK := (2, RX3, some .boolean, false, 1, 21, 0, 0)
abbrev K_X3_canWork : MK := (2, RX3, some .boolean, false, 2, 42, 0, 0)
abbrev K_X3_oldestToWork : MK := (2, RX3, some .int, false, 3, 63, 0, 0)
abbrev K_X3_valueRead : MK := (2, RX3, some .int, false, 0, 0, 0, 0)
abbrev K_X5_nextBehind : MK := (4, RX5, some .int, false, 0, 0, 0, 0)
abbrev K_X3_nextOf : MK := (2, RX3, some .int, false, 1, 23, 0, 0)
abbrev K_X5_guessBehind : MK := (2, RX5, some .int, false, 0, 0, 0, 0)
abbrev K_X3_misguessed : MK := (2, RX3, some .boolean, false, 2, 44, 0, 0)
abbrev K_X3_workSkip : MK := (4, RX3, some .int, false, 2, 44, 0, 0)
abbrev K_X5_outcome : MK := (4, RX5, some .int, false, 0, 0, 0, 0)
abbrev K_X3_work : MK := (3, RX3, some .int, false, 3, 67, 0, 0)
abbrev K_X5_has : MK := (2, RX5, some .boolean, false, 0, 0, 0, 0)
abbrev K_X3_mapBy : MK := (4, RX3, some .int, false, 0, 0, 0, 0)
abbrev K_X3_sureOnes : MK := (2, RX3, some .int, false, 1, 21, 0, 0)
abbrev K_X3_letGoBits : MK := (7, RX3, some .int, false, 2, 42, 0, 0)
abbrev K_X3_holdersBut : MK := (5, RX3, some .int, false, 1, 20, 0, 0)
abbrev K_X3_mergesNext : MK := (2, RX3, some .boolean, false, 3, 68, 0, 0)
abbrev K_X3_freeBits : MK := (5, RX3, some .int, false, 3, 68, 0, 0)
abbrev K_X3_whyNotTake : MK := (2, RX3, some .int, false, 4, 92, 0, 0)
abbrev K_X3_cellToRead : MK := (2, RX3, some .int, false, 1, 23, 0, 0)
abbrev K_X3_saveIfRoom : MK := (2, RX3, none, false, 1, 20, 0, 0)
abbrev K_X3_claim : MK := (3, RX3, none, false, 1, 20, 0, 0)
abbrev K_X5_isRisky : MK := (2, RX5, some .boolean, false, 0, 0, 0, 0)
abbrev K_X3_take : MK := (3, RX3, some .int, false, 4, 92, 0, 0)
abbrev K_X0_goOneCycle : MK := (4, RX0, some .int, false, 5, 114, 0, 0)
abbrev K_X3_init : MK := (2, RX3, none, true, 1, 20, 6, 80)
abbrev K_X0_init : MK := (2, RX0, none, true, 2, 41, 11, 164)
abbrev K_X3_begin : MK := (4, RX3, none, false, 1, 23, 0, 0)
abbrev K_X3_isOver : MK := (1, RX3, some .boolean, false, 1, 21, 0, 0)
abbrev K_X0_slotOf : MK := (6, RX0, some .int, false, 6, 137, 0, 0)
abbrev K_X10_refused : MK := (2, RX10, some .int, false, 0, 0, 0, 0)
abbrev K_X10_works : MK := (2, RX10, none, false, 0, 0, 0, 0)
abbrev K_X10_in : MK := (3, RX10, some .boolean, false, 0, 0, 0, 0)
abbrev K_X9_isStep : MK := (2, RX9, some .boolean, false, 0, 0, 0, 0)
abbrev K_X9_reads : MK := (2, RX9, some .int, false, 0, 0, 0, 0)
abbrev K_X10_guessed : MK := (2, RX10, some .int, false, 0, 0, 0, 0)
abbrev K_X9_unsureOf : MK := (3, RX9, some .int, false, 0, 0, 0, 0)
abbrev K_X10_bit : MK := (2, RX10, some .boolean, false, 0, 0, 0, 0)
abbrev K_X10_setBy : MK := (4, RX10, some .int, false, 1, 22, 0, 0)
abbrev K_X10_comes : MK := (4, RX10, some .int, false, 0, 0, 0, 0)
abbrev K_X10_plainly : MK := (6, RX10, none, false, 2, 45, 0, 0)
abbrev K_X10_plainlyDone : MK := (2, RX10, some .boolean, false, 3, 70, 0, 0)
abbrev K_X10_good : MK := (2, RX10, some .int, false, 0, 0, 0, 0)
abbrev K_X10_at : MK := (2, RX10, some .int, false, 0, 0, 0, 0)
abbrev K_X10_has : MK := (3, RX10, some .boolean, false, 1, 21, 0, 0)
abbrev K_X10_reads : MK := (3, RX10, some .boolean, false, 1, 21, 0, 0)
abbrev K_X10_registerOf : MK := (2, RX10, some .int, false, 1, 21, 0, 0)
abbrev K_X10_kindOf : MK := (2, RX10, some .int, false, 1, 21, 0, 0)
abbrev K_X10_isSure : MK := (3, RX10, some .boolean, false, 2, 43, 0, 0)
abbrev K_X10_isLetGo : MK := (4, RX10, some .boolean, false, 3, 65, 0, 0)
abbrev K_X10_agrees : MK := (2, RX10, some .int, false, 4, 91, 0, 0)
abbrev K_X10_asTold : MK := (3, RX10, none, false, 0, 0, 0, 0)
abbrev K_X10_wrongGot : MK := (3, RX10, some .int, false, 3, 70, 0, 0)
abbrev K_X10_fitting : MK := (5, RX10, some .int, false, 4, 92, 0, 0)
abbrev K_X10_asks : MK := (4, RX10, some .int, false, 5, 116, 0, 0)
abbrev K_X10_ask : MK := (1, RX10, some .int, false, 6, 139, 0, 0)
abbrev K_X10_askLeaves : MK := (1, RX10, some .int, false, 6, 139, 0, 0)
abbrev K_X10_denied : MK := (2, RX10, some .boolean, false, 1, 21, 0, 0)
abbrev K_X10_granted : MK := (1, RX10, some .boolean, false, 1, 21, 0, 0)
abbrev K_X10_back : MK := (3, RX10, some .boolean, false, 2, 42, 0, 0)
abbrev K_X10_bits : MK := (3, RX10, some .int, false, 0, 0, 0, 0)
abbrev K_X10_byteAt : MK := (2, RX10, some .int, false, 0, 0, 0, 0)
abbrev K_X10_isCell : MK := (2, RX10, some .boolean, false, 0, 0, 0, 0)
abbrev K_X10_isReady : MK := (2, RX10, some .boolean, false, 1, 21, 0, 0)
abbrev K_X10_letGoNow : MK := (3, RX10, some .int, false, 4, 88, 0, 0)
abbrev K_X10_holders : MK := (5, RX10, some .int, false, 1, 21, 0, 0)
abbrev K_X10_waitingFor : MK := (4, RX10, some .int, false, 2, 43, 0, 0)
abbrev K_X10_cell : MK := (3, RX10, some .int, false, 5, 110, 0, 0)
abbrev K_X10_whyNoCommit : MK := (1, RX10, some .int, false, 2, 43, 0, 0)
abbrev K_X10_commitsOne : MK := (4, RX10, some .int, false, 2, 43, 0, 0)
abbrev K_X10_isRunnable : MK := (2, RX10, some .boolean, false, 2, 43, 0, 0)
abbrev K_X10_runsOne : MK := (7, RX10, some .int, false, 1, 23, 0, 0)
abbrev K_X10_mapOf : MK := (4, RX10, some .int, false, 2, 42, 0, 0)
abbrev K_X10_isMerging : MK := (2, RX10, some .boolean, false, 5, 110, 0, 0)
abbrev K_X10_freeNow : MK := (4, RX10, some .int, false, 5, 110, 0, 0)
abbrev K_X10_lowestFree : MK := (3, RX10, some .int, false, 6, 133, 0, 0)
abbrev K_X10_whyNoFetch : MK := (2, RX10, some .int, false, 7, 155, 0, 0)
abbrev K_X10_savesNow : MK := (3, RX10, some .int, false, 2, 43, 0, 0)
abbrev K_X10_fetches : MK := (9, RX10, some .int, false, 7, 155, 0, 0)
abbrev K_X10_cycle : MK := (3, RX10, none, false, 8, 183, 0, 0)
abbrev K_X10_goes : MK := (3, RX10, none, false, 9, 205, 0, 0)
abbrev K_X10_cellsFor : MK := (3, RX10, some .int, false, 10, 227, 0, 0)
abbrev K_X10_remembers : MK := (2, RX10, none, false, 0, 0, 0, 0)
abbrev K_X10_remains : MK := (2, RX10, none, false, 0, 0, 0, 0)
abbrev K_X10_done : MK := (2, RX10, some .int, false, 1, 21, 0, 0)
abbrev K_X10_commit : MK := (2, RX10, some .int, false, 3, 66, 0, 0)
abbrev K_X10_commitable : MK := (1, RX10, some .int, false, 3, 63, 0, 0)
abbrev K_X10_refusesCells : MK := (2, RX10, some .int, false, 1, 22, 0, 0)
abbrev K_X10_commits : MK := (3, RX10, some .int, false, 10, 227, 0, 0)
abbrev K_X10_common : MK := (10, RX10, some .long, false, 0, 0, 0, 0)
abbrev K_X9_init : MK := (1, RX9, none, true, 1, 20, 10, 164)
abbrev K_X10_isLetter : MK := (1, RX10, some .boolean, false, 0, 0, 0, 0)
abbrev K_X10_isDigit : MK := (1, RX10, some .boolean, false, 0, 0, 0, 0)
abbrev K_X10_goesOn : MK := (3, RX10, none, false, 1, 21, 0, 0)
abbrev K_X10_packed : MK := (4, RX10, some .long, false, 4, 85, 0, 0)
abbrev K_X10_isWord : MK := (2, RX10, some .boolean, false, 5, 108, 0, 0)
abbrev K_X10_flaw : MK := (2, RX10, none, false, 0, 0, 0, 0)
abbrev K_X10_needs : MK := (2, RX10, none, false, 6, 129, 0, 0)
abbrev K_X10_wholeAt : MK := (3, RX10, some .int, false, 1, 22, 0, 0)
abbrev K_X10_readWhole : MK := (4, RX10, some .int, false, 2, 44, 0, 0)
abbrev K_X10_readPart : MK := (4, RX10, some .int, false, 7, 150, 0, 0)
abbrev K_X10_readCore : MK := (6, RX10, none, false, 8, 173, 0, 0)
abbrev K_X10_kindAtHand : MK := (1, RX10, some .int, false, 6, 129, 0, 0)
abbrev K_X10_lineBegins : MK := (3, RX10, none, false, 2, 43, 0, 0)
abbrev K_X10_readRegister : MK := (1, RX10, some .int, false, 3, 67, 0, 0)
abbrev K_X10_readStep : MK := (8, RX10, none, false, 6, 129, 0, 0)
abbrev K_X10_readUnsure : MK := (3, RX10, none, false, 3, 67, 0, 0)
abbrev K_X9_isGot : MK := (3, RX9, some .boolean, false, 0, 0, 0, 0)
abbrev K_X10_readGot : MK := (3, RX10, none, false, 3, 67, 0, 0)
abbrev K_X10_readLine : MK := (1, RX10, none, false, 9, 198, 0, 0)
abbrev K_X10_eatsSemicolon : MK := (2, RX10, some .boolean, false, 2, 43, 0, 0)
abbrev K_X10_readAll : MK := (2, RX10, none, false, 10, 218, 0, 0)
abbrev K_X10_core : MK := (2, RX10, some .int, false, 11, 239, 11, 182)
abbrev K_X10_could : MK := (1, RX10, some .int, false, 5, 116, 0, 0)
abbrev K_X10_crowd : MK := (3, RX10, some .int, false, 10, 227, 0, 0)
abbrev K_X10_cycles : MK := (3, RX10, some .int, false, 10, 227, 0, 0)
abbrev K_X10_refusesDraw : MK := (4, RX10, some .int, false, 1, 22, 0, 0)
abbrev K_X10_draws : MK := (2, RX10, some .int, false, 0, 0, 0, 0)
abbrev K_X10_tries : MK := (6, RX10, none, false, 8, 183, 0, 0)
abbrev K_X10_drawnCommits : MK := (4, RX10, some .int, false, 9, 208, 0, 0)
abbrev K_X10_isRegister : MK := (2, RX10, some .boolean, false, 0, 0, 0, 0)
abbrev K_X10_valueOf : MK := (2, RX10, some .int, false, 4, 88, 0, 0)
abbrev K_X10_drawnValue : MK := (5, RX10, some .int, false, 9, 208, 0, 0)
abbrev K_X10_entries : MK := (1, RX10, some .int, false, 1, 21, 0, 0)
abbrev K_X10_isEntry : MK := (2, RX10, some .boolean, false, 0, 0, 0, 0)
abbrev K_X10_entry : MK := (3, RX10, some .int, false, 3, 65, 0, 0)
abbrev K_X10_fault : MK := (1, RX10, some .int, false, 0, 0, 0, 0)
abbrev K_X10_feed : MK := (8, RX10, some .int, false, 0, 0, 0, 0)
abbrev K_X10_fetch : MK := (2, RX10, some .int, false, 8, 183, 0, 0)
abbrev K_X10_fetchable : MK := (1, RX10, some .int, false, 8, 176, 0, 0)
abbrev K_X10_fitAt : MK := (3, RX10, some .int, false, 5, 116, 0, 0)
abbrev K_X10_fits : MK := (1, RX10, some .int, false, 5, 116, 0, 0)
abbrev K_X10_fraction : MK := (6, RX10, some .long, false, 1, 29, 0, 0)
abbrev K_X10_free : MK := (1, RX10, some .int, false, 6, 133, 0, 0)
abbrev K_X10_gives : MK := (3, RX10, some .int, false, 6, 133, 0, 0)
abbrev K_X10_image : MK := (2, RX10, some .int, false, 1, 21, 0, 0)
abbrev K_X10_init : MK := (1, RX10, none, true, 1, 20, 7, 5007)
abbrev K_X10_judge : MK := (1, RX10, some .int, false, 4, 92, 0, 0)
abbrev K_X10_kept : MK := (2, RX10, some .int, false, 1, 21, 0, 0)
abbrev K_X10_led : MK := (4, RX10, some .int, false, 2, 43, 0, 0)
abbrev K_X10_letGo : MK := (1, RX10, some .int, false, 5, 110, 0, 0)
abbrev K_X10_mapped : MK := (2, RX10, some .int, false, 3, 65, 0, 0)
abbrev K_X10_misses : MK := (3, RX10, some .int, false, 10, 227, 0, 0)
abbrev K_X10_nextStep : MK := (1, RX10, some .int, false, 1, 21, 0, 0)
abbrev K_X10_plainAt : MK := (3, RX10, some .int, false, 4, 91, 0, 0)
abbrev K_X10_plainEnd : MK := (1, RX10, some .int, false, 3, 70, 0, 0)
abbrev K_X10_plainMisses : MK := (1, RX10, some .int, false, 3, 70, 0, 0)
abbrev K_X10_plainStep : MK := (2, RX10, some .int, false, 4, 91, 0, 0)
abbrev K_X10_plainSteps : MK := (1, RX10, some .int, false, 3, 70, 0, 0)
abbrev K_X10_rate : MK := (4, RX10, some .long, false, 10, 227, 0, 0)
abbrev K_X10_ready : MK := (1, RX10, some .int, false, 1, 21, 0, 0)
abbrev K_X10_resume : MK := (2, RX10, some .boolean, false, 2, 42, 0, 0)
abbrev K_X10_run : MK := (2, RX10, some .int, false, 3, 64, 0, 0)
abbrev K_X10_runnable : MK := (3, RX10, some .int, false, 3, 64, 0, 0)
abbrev K_X10_saved : MK := (3, RX10, some .int, false, 2, 43, 0, 0)
abbrev K_X10_savesThere : MK := (1, RX10, some .int, false, 3, 65, 0, 0)
abbrev K_X10_size : MK := (2, RX10, some .int, false, 4, 85, 0, 0)
abbrev K_X10_surely : MK := (1, RX10, some .int, false, 5, 116, 0, 0)
abbrev K_X10_thrown : MK := (1, RX10, some .int, false, 0, 0, 0, 0)
abbrev K_X10_trouble : MK := (1, RX10, some .int, false, 0, 0, 0, 0)
abbrev K_X10_undo : MK := (2, RX10, some .boolean, false, 2, 42, 0, 0)
abbrev K_X10_value : MK := (2, RX10, some .int, false, 5, 109, 0, 0)
abbrev K_X10_walked : MK := (3, RX10, some .int, false, 3, 65, 0, 0)
abbrev K_X10_where : MK := (1, RX10, some .int, false, 0, 0, 0, 0)
abbrev K_X1_fitsBy : MK := (2, RX1, some .boolean, false, 0, 0, 0, 0)
abbrev K_X1_howMany : MK := (1, RX1, some .int, false, 1, 20, 0, 0)
abbrev K_X1_leftBy : MK := (4, RX1, some .int, false, 2, 40, 0, 0)
abbrev K_X1_bestQuestion : MK := (3, RX1, some .int, false, 3, 63, 0, 0)
abbrev K_X4_read : MK := (2, RX4, some .int, false, 1, 20, 0, 0)
abbrev K_X5_numberBy : MK := (4, RX5, some .int, false, 0, 0, 0, 0)
abbrev K_X4_playStep : MK := (8, RX4, none, false, 2, 41, 0, 0)
abbrev K_X4_play : MK := (5, RX4, none, false, 3, 68, 0, 0)
abbrev K_X4_firstNotGot : MK := (3, RX4, some .int, false, 0, 0, 0, 0)
abbrev K_X1_find : MK := (4, RX1, none, false, 4, 92, 0, 0)
abbrev K_X1_inAll : MK := (3, RX1, some .int, false, 1, 21, 0, 0)
abbrev K_X1_inSome : MK := (3, RX1, some .int, false, 1, 21, 0, 0)
abbrev K_X1_init : MK := (1, RX1, none, true, 1, 20, 0, 0)
abbrev K_X1_nth : MK := (4, RX1, some .int, false, 1, 21, 0, 0)
abbrev K_X2_forget : MK := (1, RX2, none, false, 0, 0, 0, 0)
abbrev K_X2_init : MK := (3, RX2, none, true, 2, 41, 135, 1919)
abbrev K_X3_copyFrom : MK := (2, RX3, none, false, 1, 26, 0, 0)
abbrev K_X2_keep : MK := (2, RX2, none, false, 2, 47, 0, 0)
abbrev K_X2_picture : MK := (2, RX2, some .int, false, 2, 47, 0, 0)
abbrev K_X2_returnTo : MK := (3, RX2, none, false, 2, 47, 0, 0)
abbrev K_X2_takeBack : MK := (2, RX2, none, false, 2, 47, 0, 0)
abbrev K_X3_goOnAt : MK := (2, RX3, none, false, 0, 0, 0, 0)
abbrev K_X3_isSure : MK := (2, RX3, some .boolean, false, 2, 42, 0, 0)
abbrev K_X3_keptValue : MK := (3, RX3, some .int, false, 3, 68, 0, 0)
abbrev K_X3_nthDone : MK := (4, RX3, some .int, false, 1, 21, 0, 0)
abbrev K_X3_waitersFor : MK := (4, RX3, some .int, false, 1, 21, 0, 0)
abbrev K_X4_init : MK := (1, RX4, none, true, 1, 20, 1, 8)
abbrev K_X5_clear : MK := (1, RX5, none, false, 0, 0, 0, 0)
abbrev K_X5_emptyStep : MK := (3, RX5, some .int, false, 0, 0, 0, 0)
abbrev K_X5_init : MK := (1, RX5, none, true, 1, 20, 10, 164)
abbrev K_X5_isGot : MK := (3, RX5, some .boolean, false, 0, 0, 0, 0)
abbrev K_X5_isUnsure : MK := (3, RX5, some .boolean, false, 0, 0, 0, 0)
abbrev K_X6_advance : MK := (1, RX6, none, false, 0, 0, 0, 0)
abbrev K_X6_fails : MK := (2, RX6, some .boolean, false, 0, 0, 0, 0)
abbrev K_X6_failsAt : MK := (3, RX6, some .boolean, false, 0, 0, 0, 0)
abbrev K_X7_init : MK := (1, RX7, none, true, 1, 20, 3, 2703)
abbrev K_X6_init : MK := (2, RX6, none, true, 2, 40, 5, 2707)
abbrev K_X6_isWord : MK := (4, RX6, some .boolean, false, 4, 85, 0, 0)
abbrev K_X6_wholeHere : MK := (3, RX6, some .int, false, 0, 0, 0, 0)
abbrev K_X6_takesWhole : MK := (3, RX6, some .boolean, false, 1, 22, 0, 0)
abbrev K_X6_takesPair : MK := (3, RX6, some .boolean, false, 2, 44, 0, 0)
abbrev K_X6_readChange : MK := (4, RX6, some .boolean, false, 3, 66, 0, 0)
abbrev K_X6_takesWord : MK := (2, RX6, some .boolean, false, 5, 108, 0, 0)
abbrev K_X6_readCore : MK := (1, RX6, some .boolean, false, 6, 129, 0, 0)
abbrev K_X6_readGot : MK := (2, RX6, some .boolean, false, 2, 44, 0, 0)
abbrev K_X6_sortOfLine : MK := (1, RX6, some .int, false, 5, 108, 0, 0)
abbrev K_X6_readUnsure : MK := (2, RX6, some .boolean, false, 2, 44, 0, 0)
abbrev K_X6_readSkip : MK := (2, RX6, some .boolean, false, 6, 129, 0, 0)
abbrev K_X6_readLine : MK := (4, RX6, some .boolean, false, 7, 150, 0, 0)
abbrev K_X7_pastBlanks : MK := (4, RX7, some .int, false, 0, 0, 0, 0)
abbrev K_X7_isLetter : MK := (1, RX7, some .boolean, false, 0, 0, 0, 0)
abbrev K_X7_isDigit : MK := (1, RX7, some .boolean, false, 0, 0, 0, 0)
abbrev K_X7_runEnd : MK := (6, RX7, some .int, false, 1, 20, 0, 0)
abbrev K_X7_sortOf : MK := (2, RX7, some .int, false, 1, 20, 0, 0)
abbrev K_X7_part : MK := (5, RX7, none, false, 2, 45, 0, 0)
abbrev K_X6_reads : MK := (6, RX6, some .boolean, false, 8, 173, 0, 0)
abbrev K_X8_refused : MK := (3, RX8, some .boolean, false, 0, 0, 0, 0)
abbrev K_X8_plainTotal : MK := (1, RX8, some .int, false, 4, 92, 0, 0)
abbrev K_X8_agrees : MK := (4, RX8, some .int, false, 5, 112, 0, 0)
abbrev K_X8_ask : MK := (1, RX8, some .int, false, 4, 85, 0, 0)
abbrev K_X8_askLeaves : MK := (2, RX8, some .int, false, 4, 85, 0, 0)
abbrev K_X8_back : MK := (2, RX8, some .boolean, false, 3, 69, 0, 0)
abbrev K_X8_beginWithDraft : MK := (2, RX8, none, false, 5, 115, 0, 0)
abbrev K_X8_cell : MK := (3, RX8, some .int, false, 3, 68, 0, 0)
abbrev K_X8_cellsFor : MK := (3, RX8, some .int, false, 7, 162, 0, 0)
abbrev K_X8_commit : MK := (1, RX8, some .int, false, 3, 68, 0, 0)
abbrev K_X8_commitable : MK := (1, RX8, some .int, false, 2, 42, 0, 0)
abbrev K_X8_isCells : MK := (1, RX8, some .boolean, false, 0, 0, 0, 0)
abbrev K_X8_commits : MK := (2, RX8, some .int, false, 7, 162, 0, 0)
abbrev K_X8_commonDivisor : MK := (3, RX8, some .int, false, 0, 0, 0, 0)
abbrev K_X8_core : MK := (3, RX8, some .int, false, 9, 198, 0, 0)
abbrev K_X8_could : MK := (1, RX8, some .int, false, 2, 43, 0, 0)
abbrev K_X8_crowd : MK := (2, RX8, some .int, false, 7, 162, 0, 0)
abbrev K_X8_cycles : MK := (2, RX8, some .int, false, 7, 162, 0, 0)
abbrev K_X8_nextSeed : MK := (1, RX8, some .int, false, 0, 0, 0, 0)
abbrev K_X8_workIfPossible : MK := (2, RX8, none, false, 4, 89, 0, 0)
abbrev K_X8_drawTries : MK := (6, RX8, none, false, 5, 114, 0, 0)
abbrev K_X8_isDraw : MK := (2, RX8, some .boolean, false, 0, 0, 0, 0)
abbrev K_X8_drawnCommits : MK := (3, RX8, some .int, false, 6, 139, 0, 0)
abbrev K_X8_drawnValue : MK := (4, RX8, some .int, false, 6, 139, 0, 0)
abbrev K_X8_entries : MK := (1, RX8, some .int, false, 1, 22, 0, 0)
abbrev K_X8_isEntry : MK := (2, RX8, some .boolean, false, 0, 0, 0, 0)
abbrev K_X8_entry : MK := (3, RX8, some .int, false, 3, 63, 0, 0)
abbrev K_X8_fault : MK := (1, RX8, some .int, false, 0, 0, 0, 0)
abbrev K_X8_putBytes : MK := (3, RX8, none, false, 0, 0, 0, 0)
abbrev K_X8_feed : MK := (6, RX8, some .int, false, 1, 22, 0, 0)
abbrev K_X8_fetch : MK := (2, RX8, some .int, false, 5, 114, 0, 0)
abbrev K_X8_fetchable : MK := (1, RX8, some .int, false, 5, 113, 0, 0)
abbrev K_X8_fitAt : MK := (2, RX8, some .int, false, 2, 44, 0, 0)
abbrev K_X8_fits : MK := (1, RX8, some .int, false, 2, 40, 0, 0)
abbrev K_X8_free : MK := (1, RX8, some .int, false, 4, 92, 0, 0)
abbrev K_X8_gives : MK := (3, RX8, some .int, false, 4, 92, 0, 0)
abbrev K_X8_image : MK := (1, RX8, some .int, false, 3, 68, 0, 0)
abbrev K_X8_init : MK := (1, RX8, none, true, 3, 63, 194, 6287)
abbrev K_X8_judge : MK := (1, RX8, some .int, false, 4, 92, 0, 0)
abbrev K_X8_kept : MK := (2, RX8, some .int, false, 1, 22, 0, 0)
abbrev K_X8_letGo : MK := (1, RX8, some .int, false, 3, 68, 0, 0)
abbrev K_X8_mapped : MK := (2, RX8, some .int, false, 1, 23, 0, 0)
abbrev K_X8_misses : MK := (2, RX8, some .int, false, 7, 162, 0, 0)
abbrev K_X8_nextStep : MK := (1, RX8, some .int, false, 1, 22, 0, 0)
abbrev K_X8_plainAt : MK := (3, RX8, some .int, false, 5, 112, 0, 0)
abbrev K_X8_plainEnd : MK := (1, RX8, some .int, false, 4, 92, 0, 0)
abbrev K_X8_plainMisses : MK := (1, RX8, some .int, false, 4, 92, 0, 0)
abbrev K_X8_plainStep : MK := (2, RX8, some .int, false, 5, 112, 0, 0)
abbrev K_X8_plainSteps : MK := (1, RX8, some .int, false, 5, 112, 0, 0)
abbrev K_X8_rate : MK := (7, RX8, some .long, false, 7, 162, 0, 0)
abbrev K_X8_ready : MK := (1, RX8, some .int, false, 1, 22, 0, 0)
abbrev K_X8_resume : MK := (2, RX8, some .boolean, false, 3, 68, 0, 0)
abbrev K_X8_run : MK := (2, RX8, some .int, false, 4, 89, 0, 0)
abbrev K_X8_runnable : MK := (3, RX8, some .int, false, 3, 63, 0, 0)
abbrev K_X8_saved : MK := (3, RX8, some .int, false, 1, 23, 0, 0)
abbrev K_X8_sizeOfText : MK := (2, RX8, some .int, false, 0, 0, 0, 0)
abbrev K_X8_sizeOfState : MK := (2, RX8, some .int, false, 1, 20, 0, 0)
abbrev K_X8_size : MK := (2, RX8, some .int, false, 2, 41, 0, 0)
abbrev K_X8_surely : MK := (1, RX8, some .int, false, 2, 43, 0, 0)
abbrev K_X8_trouble : MK := (1, RX8, some .int, false, 0, 0, 0, 0)
abbrev K_X8_undo : MK := (1, RX8, some .boolean, false, 3, 68, 0, 0)
abbrev K_X8_value : MK := (2, RX8, some .int, false, 4, 90, 0, 0)
abbrev K_X8_walked : MK := (3, RX8, some .int, false, 1, 23, 0, 0)
abbrev K_X8_where : MK := (1, RX8, some .int, false, 0, 0, 0, 0)
abbrev K_J0_checkIndex_df160 : MK := (2, RJ0, none, false, 1, 22, 0, 0)
theorem ct_J0_isLatin1_aae02 : CT yJ0_isLatin1_aae02 cJ0_isLatin1_aae02 K_J0_isLatin1_aae02 0 := ⟨⟨gw_t 485 (by decide +kernel) rfl, gw_t 12 (by decide +kernel) rfl, by decide, by decide, by decide +kernel⟩, gw_t 483 (by decide +kernel) rfl, gw_t 484 (by decide +kernel) rfl, rfl⟩
theorem cs_J1_charAt_3b067 : CS yJ1_charAt_3b067 cJ1_charAt_3b067 K_J1_charAt_3b067 2 := ⟨⟨gw_t 488 (by decide +kernel) rfl, gw_t 13 (by decide +kernel) rfl, by decide, by decide, by decide +kernel⟩, gw_t 487 (by decide +kernel) rfl⟩
theorem ct_J0_charAt_5068e : CT yJ0_charAt_5068e cJ0_charAt_5068e K_J0_charAt_5068e 1 := ⟨⟨gw_t 481 (by decide +kernel) rfl, gw_t 12 (by decide +kernel) rfl, by decide, by decide, by decide +kernel⟩, gw_t 479 (by decide +kernel) rfl, gw_t 480 (by decide +kernel) rfl, rfl⟩
theorem ct_J0_coder_7d493 : CT yJ0_coder_7d493 cJ0_coder_7d493 K_J0_coder_7d493 0 := ⟨⟨gw_t 475 (by decide +kernel) rfl, gw_t 12 (by decide +kernel) rfl, by decide, by decide, by decide +kernel⟩, gw_t 473 (by decide +kernel) rfl, gw_t 474 (by decide +kernel) rfl, rfl⟩
theorem ct_J0_length_8abf5 : CT yJ0_length_8abf5 cJ0_length_8abf5 K_J0_length_8abf5 0 := ⟨⟨gw_t 471 (by decide +kernel) rfl, gw_t 12 (by decide +kernel) rfl, by decide, by decide, by decide +kernel⟩, gw_t 469 (by decide +kernel) rfl, gw_t 470 (by decide +kernel) rfl, rfl⟩
theorem cs_J3_checkIndex_8e157 : CS yJ3_checkIndex_8e157 cJ3_checkIndex_8e157 K_J3_checkIndex_8e157 3 := ⟨⟨gw_t 496 (by decide +kernel) rfl, gw_t 14 (by decide +kernel) rfl, by decide, by decide, by decide +kernel⟩, gw_t 495 (by decide +kernel) rfl⟩
theorem cs_J6_bitCount_0f7a4 : CS yJ6_bitCount_0f7a4 cJ6_bitCount_0f7a4 K_J6_bitCount_0f7a4 1 := ⟨⟨gw_t 839 (by decide +kernel) rfl, gw_t 18 (by decide +kernel) rfl, by decide, by decide, by decide +kernel⟩, gw_t 838 (by decide +kernel) rfl⟩
theorem cs_J6_numberOfTrailingZeros_0f7a4 : CS yJ6_numberOfTrailingZeros_0f7a4 cJ6_numberOfTrailingZeros_0f7a4 K_J6_numberOfTrailingZeros_0f7a4 1 := ⟨⟨gw_t 714 (by decide +kernel) rfl, gw_t 18 (by decide +kernel) rfl, by decide, by decide, by decide +kernel⟩, gw_t 713 (by decide +kernel) rfl⟩
theorem cs_J7_fill_53178 : CS yJ7_fill_53178 cJ7_fill_53178 K_J7_fill_53178 2 := ⟨⟨gw_t 606 (by decide +kernel) rfl, gw_t 16 (by decide +kernel) rfl, by decide, by decide, by decide +kernel⟩, gw_t 605 (by decide +kernel) rfl⟩
theorem cv_X0_forget : CV yX0_forget cX0_forget K_X0_forget 0 0 := ⟨⟨gw_t 618 (by decide +kernel) rfl, gw_t 8 (by decide +kernel) rfl, by decide, by decide, by decide +kernel⟩, gw_t 616 (by decide +kernel) rfl, gw_t 617 (by decide +kernel) rfl, by decide, TX0, 5, rfl⟩
theorem cv_X3_isDone : CV yX3_isDone cX3_isDone K_X3_isDone 1 3 := ⟨⟨gw_t 722 (by decide +kernel) rfl, gw_t 5 (by decide +kernel) rfl, by decide, by decide, by decide +kernel⟩, gw_t 721 (by decide +kernel) rfl, gw_s 23 (q := (yX3_isDone, 20)) (by decide +kernel), by decide, TX3, 20, rfl⟩
theorem cv_X3_isReady : CV yX3_isReady cX3_isReady K_X3_isReady 1 3 := ⟨⟨gw_t 747 (by decide +kernel) rfl, gw_t 5 (by decide +kernel) rfl, by decide, by decide, by decide +kernel⟩, gw_t 745 (by decide +kernel) rfl, gw_t 746 (by decide +kernel) rfl, by decide, TX3, 20, rfl⟩
theorem cv_X3_whyNotRetire : CV yX3_whyNotRetire cX3_whyNotRetire K_X3_whyNotRetire 0 3 := ⟨⟨gw_t 824 (by decide +kernel) rfl, gw_t 5 (by decide +kernel) rfl, by decide, by decide, by decide +kernel⟩, gw_t 822 (by decide +kernel) rfl, gw_t 823 (by decide +kernel) rfl, by decide, TX3, 20, rfl⟩
theorem cv_X3_keepOldest : CV yX3_keepOldest cX3_keepOldest K_X3_keepOldest 1 3 := ⟨⟨gw_t 610 (by decide +kernel) rfl, gw_t 5 (by decide +kernel) rfl, by decide, by decide, by decide +kernel⟩, gw_t 609 (by decide +kernel) rfl, gw_s 18 (q := (yX3_keepOldest, 20)) (by decide +kernel), by decide, TX3, 20, rfl⟩
theorem cs_X8_isRegister : CS yX8_isRegister cX8_isRegister K_X8_isRegister 1 := ⟨⟨gw_t 640 (by decide +kernel) rfl, gw_t 1 (by decide +kernel) rfl, by decide, by decide, by decide +kernel⟩, gw_t 639 (by decide +kernel) rfl⟩
theorem cs_X3_bitOf : CS yX3_bitOf cX3_bitOf K_X3_bitOf 1 := ⟨⟨gw_t 718 (by decide +kernel) rfl, gw_t 5 (by decide +kernel) rfl, by decide, by decide, by decide +kernel⟩, gw_t 717 (by decide +kernel) rfl⟩
theorem cv_X3_dropOldest : CV yX3_dropOldest cX3_dropOldest K_X3_dropOldest 0 3 := ⟨⟨gw_t 876 (by decide +kernel) rfl, gw_t 5 (by decide +kernel) rfl, by decide, by decide, by decide +kernel⟩, gw_t 875 (by decide +kernel) rfl, gw_s 28 (q := (yX3_dropOldest, 20)) (by decide +kernel), by decide, TX3, 20, rfl⟩
theorem cv_X3_retire : CV yX3_retire cX3_retire K_X3_retire 0 3 := ⟨⟨gw_t 871 (by decide +kernel) rfl, gw_t 5 (by decide +kernel) rfl, by decide, by decide, by decide +kernel⟩, gw_t 869 (by decide +kernel) rfl, gw_t 870 (by decide +kernel) rfl, by decide, TX3, 20, rfl⟩
theorem cv_X3_canRead : CV yX3_canRead cX3_canRead K_X3_canRead 1 3 := ⟨⟨gw_t 795 (by decide +kernel) rfl, gw_t 5 (by decide +kernel) rfl, by decide, by decide, by decide +kernel⟩, gw_t 794 (by decide +kernel) rfl, gw_s 25 (q := (yX3_canRead, 20)) (by decide +kernel), by decide, TX3, 20, rfl⟩
theorem cv_X3_canWork : CV yX3_canWork cX3_canWork K_X3_canWork 1 3 := ⟨⟨gw_t 791 (by decide +kernel) rfl, gw_t 5 (by decide +kernel) rfl, by decide, by decide, by decide +kernel⟩, gw_t 789 (by decide +kernel) rfl, gw_t 790 (by decide +kernel) rfl, by decide, TX3, 20, rfl⟩
theorem cv_X3_oldestToWork : CV yX3_oldestToWork cX3_oldestToWork K_X3_oldestToWork 0 3 := ⟨⟨gw_t 883 (by decide +kernel) rfl, gw_t 5 (by decide +kernel) rfl, by decide, by decide, by decide +kernel⟩, gw_t 881 (by decide +kernel) rfl, gw_t 882 (by decide +kernel) rfl, by decide, TX3, 20, rfl⟩
theorem cv_X3_valueRead : CV yX3_valueRead cX3_valueRead K_X3_valueRead 1 3 := ⟨⟨gw_t 896 (by decide +kernel) rfl, gw_t 5 (by decide +kernel) rfl, by decide, by decide, by decide +kernel⟩, gw_t 895 (by decide +kernel) rfl, gw_s 30 (q := (yX3_valueRead, 20)) (by decide +kernel), by decide, TX3, 20, rfl⟩
theorem cv_X5_nextBehind : CV yX5_nextBehind cX5_nextBehind K_X5_nextBehind 3 5 := ⟨⟨gw_t 644 (by decide +kernel) rfl, gw_t 2 (by decide +kernel) rfl, by decide, by decide, by decide +kernel⟩, gw_t 642 (by decide +kernel) rfl, gw_t 643 (by decide +kernel) rfl, by decide, TX5, 18, rfl⟩
theorem cv_X3_nextOf : CV yX3_nextOf cX3_nextOf K_X3_nextOf 1 3 := ⟨⟨gw_t 892 (by decide +kernel) rfl, gw_t 5 (by decide +kernel) rfl, by decide, by decide, by decide +kernel⟩, gw_t 891 (by decide +kernel) rfl, gw_s 29 (q := (yX3_nextOf, 20)) (by decide +kernel), by decide, TX3, 20, rfl⟩
theorem cv_X5_guessBehind : CV yX5_guessBehind cX5_guessBehind K_X5_guessBehind 1 5 := ⟨⟨gw_t 648 (by decide +kernel) rfl, gw_t 2 (by decide +kernel) rfl, by decide, by decide, by decide +kernel⟩, gw_t 646 (by decide +kernel) rfl, gw_t 647 (by decide +kernel) rfl, by decide, TX5, 18, rfl⟩
theorem cv_X3_misguessed : CV yX3_misguessed cX3_misguessed K_X3_misguessed 1 3 := ⟨⟨gw_t 888 (by decide +kernel) rfl, gw_t 5 (by decide +kernel) rfl, by decide, by decide, by decide +kernel⟩, gw_t 886 (by decide +kernel) rfl, gw_t 887 (by decide +kernel) rfl, by decide, TX3, 20, rfl⟩
theorem cv_X3_workSkip : CV yX3_workSkip cX3_workSkip K_X3_workSkip 1 3 := ⟨⟨gw_t 906 (by decide +kernel) rfl, gw_t 5 (by decide +kernel) rfl, by decide, by decide, by decide +kernel⟩, gw_t 905 (by decide +kernel) rfl, gw_s 31 (q := (yX3_workSkip, 20)) (by decide +kernel), by decide, TX3, 20, rfl⟩
theorem cv_X5_outcome : CV yX5_outcome cX5_outcome K_X5_outcome 3 5 := ⟨⟨gw_t 656 (by decide +kernel) rfl, gw_t 2 (by decide +kernel) rfl, by decide, by decide, by decide +kernel⟩, gw_t 654 (by decide +kernel) rfl, gw_t 655 (by decide +kernel) rfl, by decide, TX5, 18, rfl⟩
theorem cv_X3_work : CV yX3_work cX3_work K_X3_work 1 3 := ⟨⟨gw_t 902 (by decide +kernel) rfl, gw_t 5 (by decide +kernel) rfl, by decide, by decide, by decide +kernel⟩, gw_t 900 (by decide +kernel) rfl, gw_t 901 (by decide +kernel) rfl, by decide, TX3, 20, rfl⟩
theorem cv_X5_has : CV yX5_has cX5_has K_X5_has 1 5 := ⟨⟨gw_t 561 (by decide +kernel) rfl, gw_t 2 (by decide +kernel) rfl, by decide, by decide, by decide +kernel⟩, gw_t 559 (by decide +kernel) rfl, gw_t 560 (by decide +kernel) rfl, by decide, TX5, 18, rfl⟩
theorem cv_X3_mapBy : CV yX3_mapBy cX3_mapBy K_X3_mapBy 2 3 := ⟨⟨gw_t 734 (by decide +kernel) rfl, gw_t 5 (by decide +kernel) rfl, by decide, by decide, by decide +kernel⟩, gw_t 732 (by decide +kernel) rfl, gw_t 733 (by decide +kernel) rfl, by decide, TX3, 20, rfl⟩
theorem cv_X3_sureOnes : CV yX3_sureOnes cX3_sureOnes K_X3_sureOnes 0 3 := ⟨⟨gw_t 711 (by decide +kernel) rfl, gw_t 5 (by decide +kernel) rfl, by decide, by decide, by decide +kernel⟩, gw_t 710 (by decide +kernel) rfl, gw_s 22 (q := (yX3_sureOnes, 20)) (by decide +kernel), by decide, TX3, 20, rfl⟩
theorem cv_X3_letGoBits : CV yX3_letGoBits cX3_letGoBits K_X3_letGoBits 1 3 := ⟨⟨gw_t 707 (by decide +kernel) rfl, gw_t 5 (by decide +kernel) rfl, by decide, by decide, by decide +kernel⟩, gw_t 705 (by decide +kernel) rfl, gw_t 706 (by decide +kernel) rfl, by decide, TX3, 20, rfl⟩
theorem cv_X3_holdersBut : CV yX3_holdersBut cX3_holdersBut K_X3_holdersBut 2 3 := ⟨⟨gw_t 751 (by decide +kernel) rfl, gw_t 5 (by decide +kernel) rfl, by decide, by decide, by decide +kernel⟩, gw_t 749 (by decide +kernel) rfl, gw_t 750 (by decide +kernel) rfl, by decide, TX3, 20, rfl⟩
theorem cv_X3_mergesNext : CV yX3_mergesNext cX3_mergesNext K_X3_mergesNext 0 3 := ⟨⟨gw_t 813 (by decide +kernel) rfl, gw_t 5 (by decide +kernel) rfl, by decide, by decide, by decide +kernel⟩, gw_t 812 (by decide +kernel) rfl, gw_s 26 (q := (yX3_mergesNext, 20)) (by decide +kernel), by decide, TX3, 20, rfl⟩
theorem cv_X3_freeBits : CV yX3_freeBits cX3_freeBits K_X3_freeBits 1 3 := ⟨⟨gw_t 763 (by decide +kernel) rfl, gw_t 5 (by decide +kernel) rfl, by decide, by decide, by decide +kernel⟩, gw_t 761 (by decide +kernel) rfl, gw_t 762 (by decide +kernel) rfl, by decide, TX3, 20, rfl⟩
theorem cv_X3_whyNotTake : CV yX3_whyNotTake cX3_whyNotTake K_X3_whyNotTake 0 3 := ⟨⟨gw_t 808 (by decide +kernel) rfl, gw_t 5 (by decide +kernel) rfl, by decide, by decide, by decide +kernel⟩, gw_t 806 (by decide +kernel) rfl, gw_t 807 (by decide +kernel) rfl, by decide, TX3, 20, rfl⟩
theorem cv_X3_cellToRead : CV yX3_cellToRead cX3_cellToRead K_X3_cellToRead 1 3 := ⟨⟨gw_t 916 (by decide +kernel) rfl, gw_t 5 (by decide +kernel) rfl, by decide, by decide, by decide +kernel⟩, gw_t 915 (by decide +kernel) rfl, gw_s 32 (q := (yX3_cellToRead, 20)) (by decide +kernel), by decide, TX3, 20, rfl⟩
theorem cv_X3_saveIfRoom : CV yX3_saveIfRoom cX3_saveIfRoom K_X3_saveIfRoom 1 3 := ⟨⟨gw_t 920 (by decide +kernel) rfl, gw_t 5 (by decide +kernel) rfl, by decide, by decide, by decide +kernel⟩, gw_t 919 (by decide +kernel) rfl, gw_s 33 (q := (yX3_saveIfRoom, 20)) (by decide +kernel), by decide, TX3, 20, rfl⟩
theorem cv_X3_claim : CV yX3_claim cX3_claim K_X3_claim 1 3 := ⟨⟨gw_t 925 (by decide +kernel) rfl, gw_t 5 (by decide +kernel) rfl, by decide, by decide, by decide +kernel⟩, gw_t 924 (by decide +kernel) rfl, gw_s 34 (q := (yX3_claim, 20)) (by decide +kernel), by decide, TX3, 20, rfl⟩
theorem cv_X5_isRisky : CV yX5_isRisky cX5_isRisky K_X5_isRisky 1 5 := ⟨⟨gw_t 929 (by decide +kernel) rfl, gw_t 2 (by decide +kernel) rfl, by decide, by decide, by decide +kernel⟩, gw_t 927 (by decide +kernel) rfl, gw_t 928 (by decide +kernel) rfl, by decide, TX5, 18, rfl⟩
theorem cv_X3_take : CV yX3_take cX3_take K_X3_take 0 3 := ⟨⟨gw_t 912 (by decide +kernel) rfl, gw_t 5 (by decide +kernel) rfl, by decide, by decide, by decide +kernel⟩, gw_t 910 (by decide +kernel) rfl, gw_t 911 (by decide +kernel) rfl, by decide, TX3, 20, rfl⟩
theorem cv_X0_goOneCycle : CV yX0_goOneCycle cX0_goOneCycle K_X0_goOneCycle 0 0 := ⟨⟨gw_t 866 (by decide +kernel) rfl, gw_t 8 (by decide +kernel) rfl, by decide, by decide, by decide +kernel⟩, gw_t 865 (by decide +kernel) rfl, gw_s 27 (q := (yX0_goOneCycle, 5)) (by decide +kernel), by decide, TX0, 5, rfl⟩
theorem ci_X3_init : CI yX3_init cX3_init K_X3_init 1 := ⟨⟨gw_t 193 (by decide +kernel) rfl, gw_t 5 (by decide +kernel) rfl, by decide, by decide, by decide +kernel⟩, gw_t 192 (by decide +kernel) rfl, rfl, rfl⟩
theorem ci_X0_init : CI yX0_init cX0_init K_X0_init 1 := ⟨⟨gw_t 332 (by decide +kernel) rfl, gw_t 8 (by decide +kernel) rfl, by decide, by decide, by decide +kernel⟩, gw_t 331 (by decide +kernel) rfl, rfl, rfl⟩
theorem cv_X3_begin : CV yX3_begin cX3_begin K_X3_begin 2 3 := ⟨⟨gw_t 603 (by decide +kernel) rfl, gw_t 5 (by decide +kernel) rfl, by decide, by decide, by decide +kernel⟩, gw_t 601 (by decide +kernel) rfl, gw_t 602 (by decide +kernel) rfl, by decide, TX3, 20, rfl⟩
theorem cv_X3_isOver : CV yX3_isOver cX3_isOver K_X3_isOver 0 3 := ⟨⟨gw_t 862 (by decide +kernel) rfl, gw_t 5 (by decide +kernel) rfl, by decide, by decide, by decide +kernel⟩, gw_t 860 (by decide +kernel) rfl, gw_t 861 (by decide +kernel) rfl, by decide, TX3, 20, rfl⟩
theorem cv_X0_slotOf : CV yX0_slotOf cX0_slotOf K_X0_slotOf 2 0 := ⟨⟨gw_t 857 (by decide +kernel) rfl, gw_t 8 (by decide +kernel) rfl, by decide, by decide, by decide +kernel⟩, gw_t 855 (by decide +kernel) rfl, gw_t 856 (by decide +kernel) rfl, by decide, TX0, 5, rfl⟩
theorem cv_X10_refused : CV yX10_refused cX10_refused K_X10_refused 1 10 := ⟨⟨gw_t 1325 (by decide +kernel) rfl, gw_t 10 (by decide +kernel) rfl, by decide, by decide, by decide +kernel⟩, gw_t 1324 (by decide +kernel) rfl, gw_s 41 (q := (yX10_refused, 38)) (by decide +kernel), by decide, TX10, 38, rfl⟩
theorem cv_X10_works : CV yX10_works cX10_works K_X10_works 0 10 := ⟨⟨gw_t 1593 (by decide +kernel) rfl, gw_t 10 (by decide +kernel) rfl, by decide, by decide, by decide +kernel⟩, gw_t 1592 (by decide +kernel) rfl, gw_s 68 (q := (yX10_works, 38)) (by decide +kernel), by decide, TX10, 38, rfl⟩
theorem cs_X10_in : CS yX10_in cX10_in K_X10_in 3 := ⟨⟨gw_t 1460 (by decide +kernel) rfl, gw_t 10 (by decide +kernel) rfl, by decide, by decide, by decide +kernel⟩, gw_t 1459 (by decide +kernel) rfl⟩
theorem cv_X9_isStep : CV yX9_isStep cX9_isStep K_X9_isStep 1 9 := ⟨⟨gw_t 1498 (by decide +kernel) rfl, gw_t 17 (by decide +kernel) rfl, by decide, by decide, by decide +kernel⟩, gw_t 1496 (by decide +kernel) rfl, gw_t 1497 (by decide +kernel) rfl, by decide, TX9, 18, rfl⟩
theorem cv_X9_reads : CV yX9_reads cX9_reads K_X9_reads 1 9 := ⟨⟨gw_t 1547 (by decide +kernel) rfl, gw_t 17 (by decide +kernel) rfl, by decide, by decide, by decide +kernel⟩, gw_t 1545 (by decide +kernel) rfl, gw_t 1546 (by decide +kernel) rfl, by decide, TX9, 18, rfl⟩
theorem cv_X10_guessed : CV yX10_guessed cX10_guessed K_X10_guessed 1 10 := ⟨⟨gw_t 1551 (by decide +kernel) rfl, gw_t 10 (by decide +kernel) rfl, by decide, by decide, by decide +kernel⟩, gw_t 1550 (by decide +kernel) rfl, gw_s 64 (q := (yX10_guessed, 38)) (by decide +kernel), by decide, TX10, 38, rfl⟩
theorem cv_X9_unsureOf : CV yX9_unsureOf cX9_unsureOf K_X9_unsureOf 1 9 := ⟨⟨gw_t 1502 (by decide +kernel) rfl, gw_t 17 (by decide +kernel) rfl, by decide, by decide, by decide +kernel⟩, gw_t 1500 (by decide +kernel) rfl, gw_t 1501 (by decide +kernel) rfl, by decide, TX9, 18, rfl⟩
theorem cs_X10_bit : CS yX10_bit cX10_bit K_X10_bit 2 := ⟨⟨gw_t 1558 (by decide +kernel) rfl, gw_t 10 (by decide +kernel) rfl, by decide, by decide, by decide +kernel⟩, gw_t 1557 (by decide +kernel) rfl⟩
theorem cv_X10_setBy : CV yX10_setBy cX10_setBy K_X10_setBy 2 10 := ⟨⟨gw_t 1555 (by decide +kernel) rfl, gw_t 10 (by decide +kernel) rfl, by decide, by decide, by decide +kernel⟩, gw_t 1554 (by decide +kernel) rfl, gw_s 65 (q := (yX10_setBy, 38)) (by decide +kernel), by decide, TX10, 38, rfl⟩
theorem cs_X10_comes : CS yX10_comes cX10_comes K_X10_comes 3 := ⟨⟨gw_t 1561 (by decide +kernel) rfl, gw_t 10 (by decide +kernel) rfl, by decide, by decide, by decide +kernel⟩, gw_t 1560 (by decide +kernel) rfl⟩
theorem cv_X10_plainly : CV yX10_plainly cX10_plainly K_X10_plainly 2 10 := ⟨⟨gw_t 1543 (by decide +kernel) rfl, gw_t 10 (by decide +kernel) rfl, by decide, by decide, by decide +kernel⟩, gw_t 1542 (by decide +kernel) rfl, gw_s 63 (q := (yX10_plainly, 38)) (by decide +kernel), by decide, TX10, 38, rfl⟩
theorem cv_X10_plainlyDone : CV yX10_plainlyDone cX10_plainlyDone K_X10_plainlyDone 1 10 := ⟨⟨gw_t 1573 (by decide +kernel) rfl, gw_t 10 (by decide +kernel) rfl, by decide, by decide, by decide +kernel⟩, gw_t 1572 (by decide +kernel) rfl, gw_s 66 (q := (yX10_plainlyDone, 38)) (by decide +kernel), by decide, TX10, 38, rfl⟩
theorem cv_X10_good : CV yX10_good cX10_good K_X10_good 1 10 := ⟨⟨gw_t 1527 (by decide +kernel) rfl, gw_t 10 (by decide +kernel) rfl, by decide, by decide, by decide +kernel⟩, gw_t 1526 (by decide +kernel) rfl, gw_s 62 (q := (yX10_good, 38)) (by decide +kernel), by decide, TX10, 38, rfl⟩
theorem cv_X10_at : CV yX10_at cX10_at K_X10_at 1 10 := ⟨⟨gw_t 1605 (by decide +kernel) rfl, gw_t 10 (by decide +kernel) rfl, by decide, by decide, by decide +kernel⟩, gw_t 1604 (by decide +kernel) rfl, gw_s 71 (q := (yX10_at, 38)) (by decide +kernel), by decide, TX10, 38, rfl⟩
theorem cv_X10_has : CV yX10_has cX10_has K_X10_has 2 10 := ⟨⟨gw_t 1609 (by decide +kernel) rfl, gw_t 10 (by decide +kernel) rfl, by decide, by decide, by decide +kernel⟩, gw_t 1608 (by decide +kernel) rfl, gw_s 72 (q := (yX10_has, 38)) (by decide +kernel), by decide, TX10, 38, rfl⟩
theorem cv_X10_reads : CV yX10_reads cX10_reads K_X10_reads 2 10 := ⟨⟨gw_t 1613 (by decide +kernel) rfl, gw_t 10 (by decide +kernel) rfl, by decide, by decide, by decide +kernel⟩, gw_t 1612 (by decide +kernel) rfl, gw_s 73 (q := (yX10_reads, 38)) (by decide +kernel), by decide, TX10, 38, rfl⟩
theorem cv_X10_registerOf : CV yX10_registerOf cX10_registerOf K_X10_registerOf 1 10 := ⟨⟨gw_t 1617 (by decide +kernel) rfl, gw_t 10 (by decide +kernel) rfl, by decide, by decide, by decide +kernel⟩, gw_t 1616 (by decide +kernel) rfl, gw_s 74 (q := (yX10_registerOf, 38)) (by decide +kernel), by decide, TX10, 38, rfl⟩
theorem cv_X10_kindOf : CV yX10_kindOf cX10_kindOf K_X10_kindOf 1 10 := ⟨⟨gw_t 1625 (by decide +kernel) rfl, gw_t 10 (by decide +kernel) rfl, by decide, by decide, by decide +kernel⟩, gw_t 1624 (by decide +kernel) rfl, gw_s 76 (q := (yX10_kindOf, 38)) (by decide +kernel), by decide, TX10, 38, rfl⟩
theorem cv_X10_isSure : CV yX10_isSure cX10_isSure K_X10_isSure 1 10 := ⟨⟨gw_t 1621 (by decide +kernel) rfl, gw_t 10 (by decide +kernel) rfl, by decide, by decide, by decide +kernel⟩, gw_t 1620 (by decide +kernel) rfl, gw_s 75 (q := (yX10_isSure, 38)) (by decide +kernel), by decide, TX10, 38, rfl⟩
theorem cv_X10_isLetGo : CV yX10_isLetGo cX10_isLetGo K_X10_isLetGo 1 10 := ⟨⟨gw_t 1601 (by decide +kernel) rfl, gw_t 10 (by decide +kernel) rfl, by decide, by decide, by decide +kernel⟩, gw_t 1600 (by decide +kernel) rfl, gw_s 70 (q := (yX10_isLetGo, 38)) (by decide +kernel), by decide, TX10, 38, rfl⟩
theorem cv_X10_agrees : CV yX10_agrees cX10_agrees K_X10_agrees 0 10 := ⟨⟨gw_t 1744 (by decide +kernel) rfl, gw_t 10 (by decide +kernel) rfl, by decide, by decide, by decide +kernel⟩, gw_t 1742 (by decide +kernel) rfl, gw_t 1743 (by decide +kernel) rfl, by decide, TX10, 38, rfl⟩
theorem cv_X10_asTold : CV yX10_asTold cX10_asTold K_X10_asTold 1 10 := ⟨⟨gw_t 1519 (by decide +kernel) rfl, gw_t 10 (by decide +kernel) rfl, by decide, by decide, by decide +kernel⟩, gw_t 1518 (by decide +kernel) rfl, gw_s 60 (q := (yX10_asTold, 38)) (by decide +kernel), by decide, TX10, 38, rfl⟩
theorem cv_X10_wrongGot : CV yX10_wrongGot cX10_wrongGot K_X10_wrongGot 1 10 := ⟨⟨gw_t 1815 (by decide +kernel) rfl, gw_t 10 (by decide +kernel) rfl, by decide, by decide, by decide +kernel⟩, gw_t 1814 (by decide +kernel) rfl, gw_s 99 (q := (yX10_wrongGot, 38)) (by decide +kernel), by decide, TX10, 38, rfl⟩
theorem cv_X10_fitting : CV yX10_fitting cX10_fitting K_X10_fitting 1 10 := ⟨⟨gw_t 1811 (by decide +kernel) rfl, gw_t 10 (by decide +kernel) rfl, by decide, by decide, by decide +kernel⟩, gw_t 1810 (by decide +kernel) rfl, gw_s 98 (q := (yX10_fitting, 38)) (by decide +kernel), by decide, TX10, 38, rfl⟩
theorem cv_X10_asks : CV yX10_asks cX10_asks K_X10_asks 0 10 := ⟨⟨gw_t 1835 (by decide +kernel) rfl, gw_t 10 (by decide +kernel) rfl, by decide, by decide, by decide +kernel⟩, gw_t 1834 (by decide +kernel) rfl, gw_s 100 (q := (yX10_asks, 38)) (by decide +kernel), by decide, TX10, 38, rfl⟩
theorem cv_X10_ask : CV yX10_ask cX10_ask K_X10_ask 0 10 := ⟨⟨gw_t 1831 (by decide +kernel) rfl, gw_t 10 (by decide +kernel) rfl, by decide, by decide, by decide +kernel⟩, gw_t 1829 (by decide +kernel) rfl, gw_t 1830 (by decide +kernel) rfl, by decide, TX10, 38, rfl⟩
theorem cv_X10_askLeaves : CV yX10_askLeaves cX10_askLeaves K_X10_askLeaves 0 10 := ⟨⟨gw_t 1839 (by decide +kernel) rfl, gw_t 10 (by decide +kernel) rfl, by decide, by decide, by decide +kernel⟩, gw_t 1837 (by decide +kernel) rfl, gw_t 1838 (by decide +kernel) rfl, by decide, TX10, 38, rfl⟩
theorem cv_X10_denied : CV yX10_denied cX10_denied K_X10_denied 1 10 := ⟨⟨gw_t 1895 (by decide +kernel) rfl, gw_t 10 (by decide +kernel) rfl, by decide, by decide, by decide +kernel⟩, gw_t 1894 (by decide +kernel) rfl, gw_s 106 (q := (yX10_denied, 38)) (by decide +kernel), by decide, TX10, 38, rfl⟩
theorem cv_X10_granted : CV yX10_granted cX10_granted K_X10_granted 0 10 := ⟨⟨gw_t 1899 (by decide +kernel) rfl, gw_t 10 (by decide +kernel) rfl, by decide, by decide, by decide +kernel⟩, gw_t 1898 (by decide +kernel) rfl, gw_s 107 (q := (yX10_granted, 38)) (by decide +kernel), by decide, TX10, 38, rfl⟩
theorem cv_X10_back : CV yX10_back cX10_back K_X10_back 1 10 := ⟨⟨gw_t 1911 (by decide +kernel) rfl, gw_t 10 (by decide +kernel) rfl, by decide, by decide, by decide +kernel⟩, gw_t 1909 (by decide +kernel) rfl, gw_t 1910 (by decide +kernel) rfl, by decide, TX10, 38, rfl⟩
theorem cs_X10_bits : CS yX10_bits cX10_bits K_X10_bits 1 := ⟨⟨gw_t 1740 (by decide +kernel) rfl, gw_t 10 (by decide +kernel) rfl, by decide, by decide, by decide +kernel⟩, gw_t 1739 (by decide +kernel) rfl⟩
theorem cv_X10_byteAt : CV yX10_byteAt cX10_byteAt K_X10_byteAt 1 10 := ⟨⟨gw_t 1407 (by decide +kernel) rfl, gw_t 10 (by decide +kernel) rfl, by decide, by decide, by decide +kernel⟩, gw_t 1406 (by decide +kernel) rfl, gw_s 43 (q := (yX10_byteAt, 38)) (by decide +kernel), by decide, TX10, 38, rfl⟩
theorem cv_X10_isCell : CV yX10_isCell cX10_isCell K_X10_isCell 1 10 := ⟨⟨gw_t 1653 (by decide +kernel) rfl, gw_t 10 (by decide +kernel) rfl, by decide, by decide, by decide +kernel⟩, gw_t 1652 (by decide +kernel) rfl, gw_s 79 (q := (yX10_isCell, 38)) (by decide +kernel), by decide, TX10, 38, rfl⟩
theorem cv_X10_isReady : CV yX10_isReady cX10_isReady K_X10_isReady 1 10 := ⟨⟨gw_t 1657 (by decide +kernel) rfl, gw_t 10 (by decide +kernel) rfl, by decide, by decide, by decide +kernel⟩, gw_t 1656 (by decide +kernel) rfl, gw_s 80 (q := (yX10_isReady, 38)) (by decide +kernel), by decide, TX10, 38, rfl⟩
theorem cv_X10_letGoNow : CV yX10_letGoNow cX10_letGoNow K_X10_letGoNow 0 10 := ⟨⟨gw_t 1645 (by decide +kernel) rfl, gw_t 10 (by decide +kernel) rfl, by decide, by decide, by decide +kernel⟩, gw_t 1644 (by decide +kernel) rfl, gw_s 78 (q := (yX10_letGoNow, 38)) (by decide +kernel), by decide, TX10, 38, rfl⟩
theorem cv_X10_holders : CV yX10_holders cX10_holders K_X10_holders 2 10 := ⟨⟨gw_t 1661 (by decide +kernel) rfl, gw_t 10 (by decide +kernel) rfl, by decide, by decide, by decide +kernel⟩, gw_t 1660 (by decide +kernel) rfl, gw_s 81 (q := (yX10_holders, 38)) (by decide +kernel), by decide, TX10, 38, rfl⟩
theorem cv_X10_waitingFor : CV yX10_waitingFor cX10_waitingFor K_X10_waitingFor 1 10 := ⟨⟨gw_t 1665 (by decide +kernel) rfl, gw_t 10 (by decide +kernel) rfl, by decide, by decide, by decide +kernel⟩, gw_t 1664 (by decide +kernel) rfl, gw_s 82 (q := (yX10_waitingFor, 38)) (by decide +kernel), by decide, TX10, 38, rfl⟩
theorem cv_X10_cell : CV yX10_cell cX10_cell K_X10_cell 2 10 := ⟨⟨gw_t 1649 (by decide +kernel) rfl, gw_t 10 (by decide +kernel) rfl, by decide, by decide, by decide +kernel⟩, gw_t 1647 (by decide +kernel) rfl, gw_t 1648 (by decide +kernel) rfl, by decide, TX10, 38, rfl⟩
theorem cv_X10_whyNoCommit : CV yX10_whyNoCommit cX10_whyNoCommit K_X10_whyNoCommit 0 10 := ⟨⟨gw_t 1725 (by decide +kernel) rfl, gw_t 10 (by decide +kernel) rfl, by decide, by decide, by decide +kernel⟩, gw_t 1724 (by decide +kernel) rfl, gw_s 89 (q := (yX10_whyNoCommit, 38)) (by decide +kernel), by decide, TX10, 38, rfl⟩
theorem cv_X10_commitsOne : CV yX10_commitsOne cX10_commitsOne K_X10_commitsOne 0 10 := ⟨⟨gw_t 1764 (by decide +kernel) rfl, gw_t 10 (by decide +kernel) rfl, by decide, by decide, by decide +kernel⟩, gw_t 1763 (by decide +kernel) rfl, gw_s 93 (q := (yX10_commitsOne, 38)) (by decide +kernel), by decide, TX10, 38, rfl⟩
theorem cv_X10_isRunnable : CV yX10_isRunnable cX10_isRunnable K_X10_isRunnable 1 10 := ⟨⟨gw_t 1697 (by decide +kernel) rfl, gw_t 10 (by decide +kernel) rfl, by decide, by decide, by decide +kernel⟩, gw_t 1696 (by decide +kernel) rfl, gw_s 85 (q := (yX10_isRunnable, 38)) (by decide +kernel), by decide, TX10, 38, rfl⟩
theorem cv_X10_runsOne : CV yX10_runsOne cX10_runsOne K_X10_runsOne 1 10 := ⟨⟨gw_t 1768 (by decide +kernel) rfl, gw_t 10 (by decide +kernel) rfl, by decide, by decide, by decide +kernel⟩, gw_t 1767 (by decide +kernel) rfl, gw_s 94 (q := (yX10_runsOne, 38)) (by decide +kernel), by decide, TX10, 38, rfl⟩
theorem cv_X10_mapOf : CV yX10_mapOf cX10_mapOf K_X10_mapOf 2 10 := ⟨⟨gw_t 1637 (by decide +kernel) rfl, gw_t 10 (by decide +kernel) rfl, by decide, by decide, by decide +kernel⟩, gw_t 1636 (by decide +kernel) rfl, gw_s 77 (q := (yX10_mapOf, 38)) (by decide +kernel), by decide, TX10, 38, rfl⟩
theorem cv_X10_isMerging : CV yX10_isMerging cX10_isMerging K_X10_isMerging 1 10 := ⟨⟨gw_t 1713 (by decide +kernel) rfl, gw_t 10 (by decide +kernel) rfl, by decide, by decide, by decide +kernel⟩, gw_t 1712 (by decide +kernel) rfl, gw_s 87 (q := (yX10_isMerging, 38)) (by decide +kernel), by decide, TX10, 38, rfl⟩
theorem cv_X10_freeNow : CV yX10_freeNow cX10_freeNow K_X10_freeNow 0 10 := ⟨⟨gw_t 1673 (by decide +kernel) rfl, gw_t 10 (by decide +kernel) rfl, by decide, by decide, by decide +kernel⟩, gw_t 1672 (by decide +kernel) rfl, gw_s 83 (q := (yX10_freeNow, 38)) (by decide +kernel), by decide, TX10, 38, rfl⟩
theorem cv_X10_lowestFree : CV yX10_lowestFree cX10_lowestFree K_X10_lowestFree 0 10 := ⟨⟨gw_t 1717 (by decide +kernel) rfl, gw_t 10 (by decide +kernel) rfl, by decide, by decide, by decide +kernel⟩, gw_t 1716 (by decide +kernel) rfl, gw_s 88 (q := (yX10_lowestFree, 38)) (by decide +kernel), by decide, TX10, 38, rfl⟩
theorem cv_X10_whyNoFetch : CV yX10_whyNoFetch cX10_whyNoFetch K_X10_whyNoFetch 0 10 := ⟨⟨gw_t 1709 (by decide +kernel) rfl, gw_t 10 (by decide +kernel) rfl, by decide, by decide, by decide +kernel⟩, gw_t 1708 (by decide +kernel) rfl, gw_s 86 (q := (yX10_whyNoFetch, 38)) (by decide +kernel), by decide, TX10, 38, rfl⟩
theorem cv_X10_savesNow : CV yX10_savesNow cX10_savesNow K_X10_savesNow 0 10 := ⟨⟨gw_t 1776 (by decide +kernel) rfl, gw_t 10 (by decide +kernel) rfl, by decide, by decide, by decide +kernel⟩, gw_t 1775 (by decide +kernel) rfl, gw_s 96 (q := (yX10_savesNow, 38)) (by decide +kernel), by decide, TX10, 38, rfl⟩
theorem cv_X10_fetches : CV yX10_fetches cX10_fetches K_X10_fetches 0 10 := ⟨⟨gw_t 1772 (by decide +kernel) rfl, gw_t 10 (by decide +kernel) rfl, by decide, by decide, by decide +kernel⟩, gw_t 1771 (by decide +kernel) rfl, gw_s 95 (q := (yX10_fetches, 38)) (by decide +kernel), by decide, TX10, 38, rfl⟩
theorem cv_X10_cycle : CV yX10_cycle cX10_cycle K_X10_cycle 0 10 := ⟨⟨gw_t 1760 (by decide +kernel) rfl, gw_t 10 (by decide +kernel) rfl, by decide, by decide, by decide +kernel⟩, gw_t 1759 (by decide +kernel) rfl, gw_s 92 (q := (yX10_cycle, 38)) (by decide +kernel), by decide, TX10, 38, rfl⟩
theorem cv_X10_goes : CV yX10_goes cX10_goes K_X10_goes 1 10 := ⟨⟨gw_t 1756 (by decide +kernel) rfl, gw_t 10 (by decide +kernel) rfl, by decide, by decide, by decide +kernel⟩, gw_t 1755 (by decide +kernel) rfl, gw_s 91 (q := (yX10_goes, 38)) (by decide +kernel), by decide, TX10, 38, rfl⟩
theorem cv_X10_cellsFor : CV yX10_cellsFor cX10_cellsFor K_X10_cellsFor 1 10 := ⟨⟨gw_t 1792 (by decide +kernel) rfl, gw_t 10 (by decide +kernel) rfl, by decide, by decide, by decide +kernel⟩, gw_t 1790 (by decide +kernel) rfl, gw_t 1791 (by decide +kernel) rfl, by decide, TX10, 38, rfl⟩
theorem cv_X10_remembers : CV yX10_remembers cX10_remembers K_X10_remembers 0 10 := ⟨⟨gw_t 1875 (by decide +kernel) rfl, gw_t 10 (by decide +kernel) rfl, by decide, by decide, by decide +kernel⟩, gw_t 1874 (by decide +kernel) rfl, gw_s 104 (q := (yX10_remembers, 38)) (by decide +kernel), by decide, TX10, 38, rfl⟩
theorem cv_X10_remains : CV yX10_remains cX10_remains K_X10_remains 0 10 := ⟨⟨gw_t 1523 (by decide +kernel) rfl, gw_t 10 (by decide +kernel) rfl, by decide, by decide, by decide +kernel⟩, gw_t 1522 (by decide +kernel) rfl, gw_s 61 (q := (yX10_remains, 38)) (by decide +kernel), by decide, TX10, 38, rfl⟩
theorem cv_X10_done : CV yX10_done cX10_done K_X10_done 1 10 := ⟨⟨gw_t 1879 (by decide +kernel) rfl, gw_t 10 (by decide +kernel) rfl, by decide, by decide, by decide +kernel⟩, gw_t 1878 (by decide +kernel) rfl, gw_s 105 (q := (yX10_done, 38)) (by decide +kernel), by decide, TX10, 38, rfl⟩
theorem cv_X10_commit : CV yX10_commit cX10_commit K_X10_commit 0 10 := ⟨⟨gw_t 1887 (by decide +kernel) rfl, gw_t 10 (by decide +kernel) rfl, by decide, by decide, by decide +kernel⟩, gw_t 1885 (by decide +kernel) rfl, gw_t 1886 (by decide +kernel) rfl, by decide, TX10, 38, rfl⟩
theorem cv_X10_commitable : CV yX10_commitable cX10_commitable K_X10_commitable 0 10 := ⟨⟨gw_t 1721 (by decide +kernel) rfl, gw_t 10 (by decide +kernel) rfl, by decide, by decide, by decide +kernel⟩, gw_t 1719 (by decide +kernel) rfl, gw_t 1720 (by decide +kernel) rfl, by decide, TX10, 38, rfl⟩
theorem cv_X10_refusesCells : CV yX10_refusesCells cX10_refusesCells K_X10_refusesCells 1 10 := ⟨⟨gw_t 1752 (by decide +kernel) rfl, gw_t 10 (by decide +kernel) rfl, by decide, by decide, by decide +kernel⟩, gw_t 1751 (by decide +kernel) rfl, gw_s 90 (q := (yX10_refusesCells, 38)) (by decide +kernel), by decide, TX10, 38, rfl⟩
theorem cv_X10_commits : CV yX10_commits cX10_commits K_X10_commits 1 10 := ⟨⟨gw_t 1780 (by decide +kernel) rfl, gw_t 10 (by decide +kernel) rfl, by decide, by decide, by decide +kernel⟩, gw_t 1778 (by decide +kernel) rfl, gw_t 1779 (by decide +kernel) rfl, by decide, TX10, 38, rfl⟩
theorem cs_X10_common : CS yX10_common cX10_common K_X10_common 2 := ⟨⟨gw_t 1803 (by decide +kernel) rfl, gw_t 10 (by decide +kernel) rfl, by decide, by decide, by decide +kernel⟩, gw_t 1802 (by decide +kernel) rfl⟩
theorem ci_X9_init : CI yX9_init cX9_init K_X9_init 0 := ⟨⟨gw_t 1330 (by decide +kernel) rfl, gw_t 17 (by decide +kernel) rfl, by decide, by decide, by decide +kernel⟩, gw_t 1329 (by decide +kernel) rfl, rfl, rfl⟩
theorem cs_X10_isLetter : CS yX10_isLetter cX10_isLetter K_X10_isLetter 1 := ⟨⟨gw_t 1410 (by decide +kernel) rfl, gw_t 10 (by decide +kernel) rfl, by decide, by decide, by decide +kernel⟩, gw_t 1409 (by decide +kernel) rfl⟩
theorem cs_X10_isDigit : CS yX10_isDigit cX10_isDigit K_X10_isDigit 1 := ⟨⟨gw_t 1414 (by decide +kernel) rfl, gw_t 10 (by decide +kernel) rfl, by decide, by decide, by decide +kernel⟩, gw_t 1413 (by decide +kernel) rfl⟩
theorem cv_X10_goesOn : CV yX10_goesOn cX10_goesOn K_X10_goesOn 0 10 := ⟨⟨gw_t 1403 (by decide +kernel) rfl, gw_t 10 (by decide +kernel) rfl, by decide, by decide, by decide +kernel⟩, gw_t 1402 (by decide +kernel) rfl, gw_s 42 (q := (yX10_goesOn, 38)) (by decide +kernel), by decide, TX10, 38, rfl⟩
theorem cs_X10_packed : CS yX10_packed cX10_packed K_X10_packed 1 := ⟨⟨gw_t 1430 (by decide +kernel) rfl, gw_t 10 (by decide +kernel) rfl, by decide, by decide, by decide +kernel⟩, gw_t 1429 (by decide +kernel) rfl⟩
theorem cv_X10_isWord : CV yX10_isWord cX10_isWord K_X10_isWord 1 10 := ⟨⟨gw_t 1427 (by decide +kernel) rfl, gw_t 10 (by decide +kernel) rfl, by decide, by decide, by decide +kernel⟩, gw_t 1426 (by decide +kernel) rfl, gw_s 46 (q := (yX10_isWord, 38)) (by decide +kernel), by decide, TX10, 38, rfl⟩
theorem cv_X10_flaw : CV yX10_flaw cX10_flaw K_X10_flaw 1 10 := ⟨⟨gw_t 1440 (by decide +kernel) rfl, gw_t 10 (by decide +kernel) rfl, by decide, by decide, by decide +kernel⟩, gw_t 1439 (by decide +kernel) rfl, gw_s 48 (q := (yX10_flaw, 38)) (by decide +kernel), by decide, TX10, 38, rfl⟩
theorem cv_X10_needs : CV yX10_needs cX10_needs K_X10_needs 1 10 := ⟨⟨gw_t 1449 (by decide +kernel) rfl, gw_t 10 (by decide +kernel) rfl, by decide, by decide, by decide +kernel⟩, gw_t 1448 (by decide +kernel) rfl, gw_s 50 (q := (yX10_needs, 38)) (by decide +kernel), by decide, TX10, 38, rfl⟩
theorem cv_X10_wholeAt : CV yX10_wholeAt cX10_wholeAt K_X10_wholeAt 2 10 := ⟨⟨gw_t 1457 (by decide +kernel) rfl, gw_t 10 (by decide +kernel) rfl, by decide, by decide, by decide +kernel⟩, gw_t 1456 (by decide +kernel) rfl, gw_s 52 (q := (yX10_wholeAt, 38)) (by decide +kernel), by decide, TX10, 38, rfl⟩
theorem cv_X10_readWhole : CV yX10_readWhole cX10_readWhole K_X10_readWhole 2 10 := ⟨⟨gw_t 1453 (by decide +kernel) rfl, gw_t 10 (by decide +kernel) rfl, by decide, by decide, by decide +kernel⟩, gw_t 1452 (by decide +kernel) rfl, gw_s 51 (q := (yX10_readWhole, 38)) (by decide +kernel), by decide, TX10, 38, rfl⟩
theorem cv_X10_readPart : CV yX10_readPart cX10_readPart K_X10_readPart 3 10 := ⟨⟨gw_t 1445 (by decide +kernel) rfl, gw_t 10 (by decide +kernel) rfl, by decide, by decide, by decide +kernel⟩, gw_t 1444 (by decide +kernel) rfl, gw_s 49 (q := (yX10_readPart, 38)) (by decide +kernel), by decide, TX10, 38, rfl⟩
theorem cv_X10_readCore : CV yX10_readCore cX10_readCore K_X10_readCore 0 10 := ⟨⟨gw_t 1436 (by decide +kernel) rfl, gw_t 10 (by decide +kernel) rfl, by decide, by decide, by decide +kernel⟩, gw_t 1435 (by decide +kernel) rfl, gw_s 47 (q := (yX10_readCore, 38)) (by decide +kernel), by decide, TX10, 38, rfl⟩
theorem cv_X10_kindAtHand : CV yX10_kindAtHand cX10_kindAtHand K_X10_kindAtHand 0 10 := ⟨⟨gw_t 1469 (by decide +kernel) rfl, gw_t 10 (by decide +kernel) rfl, by decide, by decide, by decide +kernel⟩, gw_t 1468 (by decide +kernel) rfl, gw_s 53 (q := (yX10_kindAtHand, 38)) (by decide +kernel), by decide, TX10, 38, rfl⟩
theorem cv_X10_lineBegins : CV yX10_lineBegins cX10_lineBegins K_X10_lineBegins 2 10 := ⟨⟨gw_t 1483 (by decide +kernel) rfl, gw_t 10 (by decide +kernel) rfl, by decide, by decide, by decide +kernel⟩, gw_t 1482 (by decide +kernel) rfl, gw_s 55 (q := (yX10_lineBegins, 38)) (by decide +kernel), by decide, TX10, 38, rfl⟩
theorem cv_X10_readRegister : CV yX10_readRegister cX10_readRegister K_X10_readRegister 0 10 := ⟨⟨gw_t 1487 (by decide +kernel) rfl, gw_t 10 (by decide +kernel) rfl, by decide, by decide, by decide +kernel⟩, gw_t 1486 (by decide +kernel) rfl, gw_s 56 (q := (yX10_readRegister, 38)) (by decide +kernel), by decide, TX10, 38, rfl⟩
theorem cv_X10_readStep : CV yX10_readStep cX10_readStep K_X10_readStep 1 10 := ⟨⟨gw_t 1479 (by decide +kernel) rfl, gw_t 10 (by decide +kernel) rfl, by decide, by decide, by decide +kernel⟩, gw_t 1478 (by decide +kernel) rfl, gw_s 54 (q := (yX10_readStep, 38)) (by decide +kernel), by decide, TX10, 38, rfl⟩
theorem cv_X10_readUnsure : CV yX10_readUnsure cX10_readUnsure K_X10_readUnsure 0 10 := ⟨⟨gw_t 1494 (by decide +kernel) rfl, gw_t 10 (by decide +kernel) rfl, by decide, by decide, by decide +kernel⟩, gw_t 1493 (by decide +kernel) rfl, gw_s 57 (q := (yX10_readUnsure, 38)) (by decide +kernel), by decide, TX10, 38, rfl⟩
theorem cv_X9_isGot : CV yX9_isGot cX9_isGot K_X9_isGot 1 9 := ⟨⟨gw_t 1511 (by decide +kernel) rfl, gw_t 17 (by decide +kernel) rfl, by decide, by decide, by decide +kernel⟩, gw_t 1509 (by decide +kernel) rfl, gw_t 1510 (by decide +kernel) rfl, by decide, TX9, 18, rfl⟩
theorem cv_X10_readGot : CV yX10_readGot cX10_readGot K_X10_readGot 0 10 := ⟨⟨gw_t 1507 (by decide +kernel) rfl, gw_t 10 (by decide +kernel) rfl, by decide, by decide, by decide +kernel⟩, gw_t 1506 (by decide +kernel) rfl, gw_s 58 (q := (yX10_readGot, 38)) (by decide +kernel), by decide, TX10, 38, rfl⟩
theorem cv_X10_readLine : CV yX10_readLine cX10_readLine K_X10_readLine 0 10 := ⟨⟨gw_t 1422 (by decide +kernel) rfl, gw_t 10 (by decide +kernel) rfl, by decide, by decide, by decide +kernel⟩, gw_t 1421 (by decide +kernel) rfl, gw_s 45 (q := (yX10_readLine, 38)) (by decide +kernel), by decide, TX10, 38, rfl⟩
theorem cv_X10_eatsSemicolon : CV yX10_eatsSemicolon cX10_eatsSemicolon K_X10_eatsSemicolon 0 10 := ⟨⟨gw_t 1515 (by decide +kernel) rfl, gw_t 10 (by decide +kernel) rfl, by decide, by decide, by decide +kernel⟩, gw_t 1514 (by decide +kernel) rfl, gw_s 59 (q := (yX10_eatsSemicolon, 38)) (by decide +kernel), by decide, TX10, 38, rfl⟩
theorem cv_X10_readAll : CV yX10_readAll cX10_readAll K_X10_readAll 0 10 := ⟨⟨gw_t 1418 (by decide +kernel) rfl, gw_t 10 (by decide +kernel) rfl, by decide, by decide, by decide +kernel⟩, gw_t 1417 (by decide +kernel) rfl, gw_s 44 (q := (yX10_readAll, 38)) (by decide +kernel), by decide, TX10, 38, rfl⟩
theorem cv_X10_core : CV yX10_core cX10_core K_X10_core 1 10 := ⟨⟨gw_t 1321 (by decide +kernel) rfl, gw_t 10 (by decide +kernel) rfl, by decide, by decide, by decide +kernel⟩, gw_t 1319 (by decide +kernel) rfl, gw_t 1320 (by decide +kernel) rfl, by decide, TX10, 38, rfl⟩
theorem cv_X10_could : CV yX10_could cX10_could K_X10_could 0 10 := ⟨⟨gw_t 1823 (by decide +kernel) rfl, gw_t 10 (by decide +kernel) rfl, by decide, by decide, by decide +kernel⟩, gw_t 1821 (by decide +kernel) rfl, gw_t 1822 (by decide +kernel) rfl, by decide, TX10, 38, rfl⟩
theorem cv_X10_crowd : CV yX10_crowd cX10_crowd K_X10_crowd 1 10 := ⟨⟨gw_t 1788 (by decide +kernel) rfl, gw_t 10 (by decide +kernel) rfl, by decide, by decide, by decide +kernel⟩, gw_t 1786 (by decide +kernel) rfl, gw_t 1787 (by decide +kernel) rfl, by decide, TX10, 38, rfl⟩
theorem cv_X10_cycles : CV yX10_cycles cX10_cycles K_X10_cycles 1 10 := ⟨⟨gw_t 1748 (by decide +kernel) rfl, gw_t 10 (by decide +kernel) rfl, by decide, by decide, by decide +kernel⟩, gw_t 1746 (by decide +kernel) rfl, gw_t 1747 (by decide +kernel) rfl, by decide, TX10, 38, rfl⟩
theorem cv_X10_refusesDraw : CV yX10_refusesDraw cX10_refusesDraw K_X10_refusesDraw 3 10 := ⟨⟨gw_t 1851 (by decide +kernel) rfl, gw_t 10 (by decide +kernel) rfl, by decide, by decide, by decide +kernel⟩, gw_t 1850 (by decide +kernel) rfl, gw_s 101 (q := (yX10_refusesDraw, 38)) (by decide +kernel), by decide, TX10, 38, rfl⟩
theorem cv_X10_draws : CV yX10_draws cX10_draws K_X10_draws 1 10 := ⟨⟨gw_t 1860 (by decide +kernel) rfl, gw_t 10 (by decide +kernel) rfl, by decide, by decide, by decide +kernel⟩, gw_t 1859 (by decide +kernel) rfl, gw_s 103 (q := (yX10_draws, 38)) (by decide +kernel), by decide, TX10, 38, rfl⟩
theorem cv_X10_tries : CV yX10_tries cX10_tries K_X10_tries 2 10 := ⟨⟨gw_t 1856 (by decide +kernel) rfl, gw_t 10 (by decide +kernel) rfl, by decide, by decide, by decide +kernel⟩, gw_t 1855 (by decide +kernel) rfl, gw_s 102 (q := (yX10_tries, 38)) (by decide +kernel), by decide, TX10, 38, rfl⟩
theorem cv_X10_drawnCommits : CV yX10_drawnCommits cX10_drawnCommits K_X10_drawnCommits 2 10 := ⟨⟨gw_t 1847 (by decide +kernel) rfl, gw_t 10 (by decide +kernel) rfl, by decide, by decide, by decide +kernel⟩, gw_t 1845 (by decide +kernel) rfl, gw_t 1846 (by decide +kernel) rfl, by decide, TX10, 38, rfl⟩
theorem cv_X10_isRegister : CV yX10_isRegister cX10_isRegister K_X10_isRegister 1 10 := ⟨⟨gw_t 1589 (by decide +kernel) rfl, gw_t 10 (by decide +kernel) rfl, by decide, by decide, by decide +kernel⟩, gw_t 1588 (by decide +kernel) rfl, gw_s 67 (q := (yX10_isRegister, 38)) (by decide +kernel), by decide, TX10, 38, rfl⟩
theorem cv_X10_valueOf : CV yX10_valueOf cX10_valueOf K_X10_valueOf 1 10 := ⟨⟨gw_t 1597 (by decide +kernel) rfl, gw_t 10 (by decide +kernel) rfl, by decide, by decide, by decide +kernel⟩, gw_t 1596 (by decide +kernel) rfl, gw_s 69 (q := (yX10_valueOf, 38)) (by decide +kernel), by decide, TX10, 38, rfl⟩
theorem cv_X10_drawnValue : CV yX10_drawnValue cX10_drawnValue K_X10_drawnValue 3 10 := ⟨⟨gw_t 1867 (by decide +kernel) rfl, gw_t 10 (by decide +kernel) rfl, by decide, by decide, by decide +kernel⟩, gw_t 1865 (by decide +kernel) rfl, gw_t 1866 (by decide +kernel) rfl, by decide, TX10, 38, rfl⟩
theorem cv_X10_entries : CV yX10_entries cX10_entries K_X10_entries 0 10 := ⟨⟨gw_t 1681 (by decide +kernel) rfl, gw_t 10 (by decide +kernel) rfl, by decide, by decide, by decide +kernel⟩, gw_t 1679 (by decide +kernel) rfl, gw_t 1680 (by decide +kernel) rfl, by decide, TX10, 38, rfl⟩
theorem cv_X10_isEntry : CV yX10_isEntry cX10_isEntry K_X10_isEntry 1 10 := ⟨⟨gw_t 1689 (by decide +kernel) rfl, gw_t 10 (by decide +kernel) rfl, by decide, by decide, by decide +kernel⟩, gw_t 1688 (by decide +kernel) rfl, gw_s 84 (q := (yX10_isEntry, 38)) (by decide +kernel), by decide, TX10, 38, rfl⟩
theorem cv_X10_entry : CV yX10_entry cX10_entry K_X10_entry 2 10 := ⟨⟨gw_t 1685 (by decide +kernel) rfl, gw_t 10 (by decide +kernel) rfl, by decide, by decide, by decide +kernel⟩, gw_t 1683 (by decide +kernel) rfl, gw_t 1684 (by decide +kernel) rfl, by decide, TX10, 38, rfl⟩
theorem cv_X10_fault : CV yX10_fault cX10_fault K_X10_fault 0 10 := ⟨⟨gw_t 1531 (by decide +kernel) rfl, gw_t 10 (by decide +kernel) rfl, by decide, by decide, by decide +kernel⟩, gw_t 1529 (by decide +kernel) rfl, gw_t 1530 (by decide +kernel) rfl, by decide, TX10, 38, rfl⟩
theorem cv_X10_feed : CV yX10_feed cX10_feed K_X10_feed 5 10 := ⟨⟨gw_t 1317 (by decide +kernel) rfl, gw_t 10 (by decide +kernel) rfl, by decide, by decide, by decide +kernel⟩, gw_t 1315 (by decide +kernel) rfl, gw_t 1316 (by decide +kernel) rfl, by decide, TX10, 38, rfl⟩
theorem cv_X10_fetch : CV yX10_fetch cX10_fetch K_X10_fetch 0 10 := ⟨⟨gw_t 1871 (by decide +kernel) rfl, gw_t 10 (by decide +kernel) rfl, by decide, by decide, by decide +kernel⟩, gw_t 1869 (by decide +kernel) rfl, gw_t 1870 (by decide +kernel) rfl, by decide, TX10, 38, rfl⟩
theorem cv_X10_fetchable : CV yX10_fetchable cX10_fetchable K_X10_fetchable 0 10 := ⟨⟨gw_t 1705 (by decide +kernel) rfl, gw_t 10 (by decide +kernel) rfl, by decide, by decide, by decide +kernel⟩, gw_t 1703 (by decide +kernel) rfl, gw_t 1704 (by decide +kernel) rfl, by decide, TX10, 38, rfl⟩
theorem cv_X10_fitAt : CV yX10_fitAt cX10_fitAt K_X10_fitAt 1 10 := ⟨⟨gw_t 1819 (by decide +kernel) rfl, gw_t 10 (by decide +kernel) rfl, by decide, by decide, by decide +kernel⟩, gw_t 1817 (by decide +kernel) rfl, gw_t 1818 (by decide +kernel) rfl, by decide, TX10, 38, rfl⟩
theorem cv_X10_fits : CV yX10_fits cX10_fits K_X10_fits 0 10 := ⟨⟨gw_t 1807 (by decide +kernel) rfl, gw_t 10 (by decide +kernel) rfl, by decide, by decide, by decide +kernel⟩, gw_t 1805 (by decide +kernel) rfl, gw_t 1806 (by decide +kernel) rfl, by decide, TX10, 38, rfl⟩
theorem cv_X10_fraction : CV yX10_fraction cX10_fraction K_X10_fraction 3 10 := ⟨⟨gw_t 1800 (by decide +kernel) rfl, gw_t 10 (by decide +kernel) rfl, by decide, by decide, by decide +kernel⟩, gw_t 1799 (by decide +kernel) rfl, gw_s 97 (q := (yX10_fraction, 38)) (by decide +kernel), by decide, TX10, 38, rfl⟩
theorem cv_X10_free : CV yX10_free cX10_free K_X10_free 0 10 := ⟨⟨gw_t 1669 (by decide +kernel) rfl, gw_t 10 (by decide +kernel) rfl, by decide, by decide, by decide +kernel⟩, gw_t 1667 (by decide +kernel) rfl, gw_t 1668 (by decide +kernel) rfl, by decide, TX10, 38, rfl⟩
theorem cv_X10_gives : CV yX10_gives cX10_gives K_X10_gives 1 10 := ⟨⟨gw_t 1737 (by decide +kernel) rfl, gw_t 10 (by decide +kernel) rfl, by decide, by decide, by decide +kernel⟩, gw_t 1735 (by decide +kernel) rfl, gw_t 1736 (by decide +kernel) rfl, by decide, TX10, 38, rfl⟩
theorem cv_X10_image : CV yX10_image cX10_image K_X10_image 0 10 := ⟨⟨gw_t 1907 (by decide +kernel) rfl, gw_t 10 (by decide +kernel) rfl, by decide, by decide, by decide +kernel⟩, gw_t 1905 (by decide +kernel) rfl, gw_t 1906 (by decide +kernel) rfl, by decide, TX10, 38, rfl⟩
theorem ci_X10_init : CI yX10_init cX10_init K_X10_init 0 := ⟨⟨gw_t 1193 (by decide +kernel) rfl, gw_t 10 (by decide +kernel) rfl, by decide, by decide, by decide +kernel⟩, gw_t 1192 (by decide +kernel) rfl, rfl, rfl⟩
theorem cv_X10_judge : CV yX10_judge cX10_judge K_X10_judge 0 10 := ⟨⟨gw_t 1843 (by decide +kernel) rfl, gw_t 10 (by decide +kernel) rfl, by decide, by decide, by decide +kernel⟩, gw_t 1841 (by decide +kernel) rfl, gw_t 1842 (by decide +kernel) rfl, by decide, TX10, 38, rfl⟩
theorem cv_X10_kept : CV yX10_kept cX10_kept K_X10_kept 1 10 := ⟨⟨gw_t 1629 (by decide +kernel) rfl, gw_t 10 (by decide +kernel) rfl, by decide, by decide, by decide +kernel⟩, gw_t 1627 (by decide +kernel) rfl, gw_t 1628 (by decide +kernel) rfl, by decide, TX10, 38, rfl⟩
theorem cv_X10_led : CV yX10_led cX10_led K_X10_led 1 10 := ⟨⟨gw_t 1915 (by decide +kernel) rfl, gw_t 10 (by decide +kernel) rfl, by decide, by decide, by decide +kernel⟩, gw_t 1913 (by decide +kernel) rfl, gw_t 1914 (by decide +kernel) rfl, by decide, TX10, 38, rfl⟩
theorem cv_X10_letGo : CV yX10_letGo cX10_letGo K_X10_letGo 0 10 := ⟨⟨gw_t 1641 (by decide +kernel) rfl, gw_t 10 (by decide +kernel) rfl, by decide, by decide, by decide +kernel⟩, gw_t 1639 (by decide +kernel) rfl, gw_t 1640 (by decide +kernel) rfl, by decide, TX10, 38, rfl⟩
theorem cv_X10_mapped : CV yX10_mapped cX10_mapped K_X10_mapped 1 10 := ⟨⟨gw_t 1633 (by decide +kernel) rfl, gw_t 10 (by decide +kernel) rfl, by decide, by decide, by decide +kernel⟩, gw_t 1631 (by decide +kernel) rfl, gw_t 1632 (by decide +kernel) rfl, by decide, TX10, 38, rfl⟩
theorem cv_X10_misses : CV yX10_misses cX10_misses K_X10_misses 1 10 := ⟨⟨gw_t 1784 (by decide +kernel) rfl, gw_t 10 (by decide +kernel) rfl, by decide, by decide, by decide +kernel⟩, gw_t 1782 (by decide +kernel) rfl, gw_t 1783 (by decide +kernel) rfl, by decide, TX10, 38, rfl⟩
theorem cv_X10_nextStep : CV yX10_nextStep cX10_nextStep K_X10_nextStep 0 10 := ⟨⟨gw_t 1701 (by decide +kernel) rfl, gw_t 10 (by decide +kernel) rfl, by decide, by decide, by decide +kernel⟩, gw_t 1699 (by decide +kernel) rfl, gw_t 1700 (by decide +kernel) rfl, by decide, TX10, 38, rfl⟩
theorem cv_X10_plainAt : CV yX10_plainAt cX10_plainAt K_X10_plainAt 2 10 := ⟨⟨gw_t 1569 (by decide +kernel) rfl, gw_t 10 (by decide +kernel) rfl, by decide, by decide, by decide +kernel⟩, gw_t 1567 (by decide +kernel) rfl, gw_t 1568 (by decide +kernel) rfl, by decide, TX10, 38, rfl⟩
theorem cv_X10_plainEnd : CV yX10_plainEnd cX10_plainEnd K_X10_plainEnd 0 10 := ⟨⟨gw_t 1565 (by decide +kernel) rfl, gw_t 10 (by decide +kernel) rfl, by decide, by decide, by decide +kernel⟩, gw_t 1563 (by decide +kernel) rfl, gw_t 1564 (by decide +kernel) rfl, by decide, TX10, 38, rfl⟩
theorem cv_X10_plainMisses : CV yX10_plainMisses cX10_plainMisses K_X10_plainMisses 0 10 := ⟨⟨gw_t 1581 (by decide +kernel) rfl, gw_t 10 (by decide +kernel) rfl, by decide, by decide, by decide +kernel⟩, gw_t 1579 (by decide +kernel) rfl, gw_t 1580 (by decide +kernel) rfl, by decide, TX10, 38, rfl⟩
theorem cv_X10_plainStep : CV yX10_plainStep cX10_plainStep K_X10_plainStep 1 10 := ⟨⟨gw_t 1577 (by decide +kernel) rfl, gw_t 10 (by decide +kernel) rfl, by decide, by decide, by decide +kernel⟩, gw_t 1575 (by decide +kernel) rfl, gw_t 1576 (by decide +kernel) rfl, by decide, TX10, 38, rfl⟩
theorem cv_X10_plainSteps : CV yX10_plainSteps cX10_plainSteps K_X10_plainSteps 0 10 := ⟨⟨gw_t 1539 (by decide +kernel) rfl, gw_t 10 (by decide +kernel) rfl, by decide, by decide, by decide +kernel⟩, gw_t 1537 (by decide +kernel) rfl, gw_t 1538 (by decide +kernel) rfl, by decide, TX10, 38, rfl⟩
theorem cv_X10_rate : CV yX10_rate cX10_rate K_X10_rate 2 10 := ⟨⟨gw_t 1796 (by decide +kernel) rfl, gw_t 10 (by decide +kernel) rfl, by decide, by decide, by decide +kernel⟩, gw_t 1794 (by decide +kernel) rfl, gw_t 1795 (by decide +kernel) rfl, by decide, TX10, 38, rfl⟩
theorem cv_X10_ready : CV yX10_ready cX10_ready K_X10_ready 0 10 := ⟨⟨gw_t 1677 (by decide +kernel) rfl, gw_t 10 (by decide +kernel) rfl, by decide, by decide, by decide +kernel⟩, gw_t 1675 (by decide +kernel) rfl, gw_t 1676 (by decide +kernel) rfl, by decide, TX10, 38, rfl⟩
theorem cv_X10_resume : CV yX10_resume cX10_resume K_X10_resume 1 10 := ⟨⟨gw_t 1891 (by decide +kernel) rfl, gw_t 10 (by decide +kernel) rfl, by decide, by decide, by decide +kernel⟩, gw_t 1889 (by decide +kernel) rfl, gw_t 1890 (by decide +kernel) rfl, by decide, TX10, 38, rfl⟩
theorem cv_X10_run : CV yX10_run cX10_run K_X10_run 1 10 := ⟨⟨gw_t 1883 (by decide +kernel) rfl, gw_t 10 (by decide +kernel) rfl, by decide, by decide, by decide +kernel⟩, gw_t 1881 (by decide +kernel) rfl, gw_t 1882 (by decide +kernel) rfl, by decide, TX10, 38, rfl⟩
theorem cv_X10_runnable : CV yX10_runnable cX10_runnable K_X10_runnable 0 10 := ⟨⟨gw_t 1693 (by decide +kernel) rfl, gw_t 10 (by decide +kernel) rfl, by decide, by decide, by decide +kernel⟩, gw_t 1691 (by decide +kernel) rfl, gw_t 1692 (by decide +kernel) rfl, by decide, TX10, 38, rfl⟩
theorem cv_X10_saved : CV yX10_saved cX10_saved K_X10_saved 2 10 := ⟨⟨gw_t 1733 (by decide +kernel) rfl, gw_t 10 (by decide +kernel) rfl, by decide, by decide, by decide +kernel⟩, gw_t 1731 (by decide +kernel) rfl, gw_t 1732 (by decide +kernel) rfl, by decide, TX10, 38, rfl⟩
theorem cv_X10_savesThere : CV yX10_savesThere cX10_savesThere K_X10_savesThere 0 10 := ⟨⟨gw_t 1923 (by decide +kernel) rfl, gw_t 10 (by decide +kernel) rfl, by decide, by decide, by decide +kernel⟩, gw_t 1922 (by decide +kernel) rfl, gw_s 108 (q := (yX10_savesThere, 38)) (by decide +kernel), by decide, TX10, 38, rfl⟩
theorem cv_X10_size : CV yX10_size cX10_size K_X10_size 1 10 := ⟨⟨gw_t 1919 (by decide +kernel) rfl, gw_t 10 (by decide +kernel) rfl, by decide, by decide, by decide +kernel⟩, gw_t 1917 (by decide +kernel) rfl, gw_t 1918 (by decide +kernel) rfl, by decide, TX10, 38, rfl⟩
theorem cv_X10_surely : CV yX10_surely cX10_surely K_X10_surely 0 10 := ⟨⟨gw_t 1827 (by decide +kernel) rfl, gw_t 10 (by decide +kernel) rfl, by decide, by decide, by decide +kernel⟩, gw_t 1825 (by decide +kernel) rfl, gw_t 1826 (by decide +kernel) rfl, by decide, TX10, 38, rfl⟩
theorem cv_X10_thrown : CV yX10_thrown cX10_thrown K_X10_thrown 0 10 := ⟨⟨gw_t 1313 (by decide +kernel) rfl, gw_t 10 (by decide +kernel) rfl, by decide, by decide, by decide +kernel⟩, gw_t 1311 (by decide +kernel) rfl, gw_t 1312 (by decide +kernel) rfl, by decide, TX10, 38, rfl⟩
theorem cv_X10_trouble : CV yX10_trouble cX10_trouble K_X10_trouble 0 10 := ⟨⟨gw_t 1927 (by decide +kernel) rfl, gw_t 10 (by decide +kernel) rfl, by decide, by decide, by decide +kernel⟩, gw_t 1925 (by decide +kernel) rfl, gw_t 1926 (by decide +kernel) rfl, by decide, TX10, 38, rfl⟩
theorem cv_X10_undo : CV yX10_undo cX10_undo K_X10_undo 0 10 := ⟨⟨gw_t 1903 (by decide +kernel) rfl, gw_t 10 (by decide +kernel) rfl, by decide, by decide, by decide +kernel⟩, gw_t 1901 (by decide +kernel) rfl, gw_t 1902 (by decide +kernel) rfl, by decide, TX10, 38, rfl⟩
theorem cv_X10_value : CV yX10_value cX10_value K_X10_value 1 10 := ⟨⟨gw_t 1585 (by decide +kernel) rfl, gw_t 10 (by decide +kernel) rfl, by decide, by decide, by decide +kernel⟩, gw_t 1583 (by decide +kernel) rfl, gw_t 1584 (by decide +kernel) rfl, by decide, TX10, 38, rfl⟩
theorem cv_X10_walked : CV yX10_walked cX10_walked K_X10_walked 2 10 := ⟨⟨gw_t 1729 (by decide +kernel) rfl, gw_t 10 (by decide +kernel) rfl, by decide, by decide, by decide +kernel⟩, gw_t 1727 (by decide +kernel) rfl, gw_t 1728 (by decide +kernel) rfl, by decide, TX10, 38, rfl⟩
theorem cv_X10_where : CV yX10_where cX10_where K_X10_where 0 10 := ⟨⟨gw_t 1535 (by decide +kernel) rfl, gw_t 10 (by decide +kernel) rfl, by decide, by decide, by decide +kernel⟩, gw_t 1533 (by decide +kernel) rfl, gw_t 1534 (by decide +kernel) rfl, by decide, TX10, 38, rfl⟩
theorem cv_X1_fitsBy : CV yX1_fitsBy cX1_fitsBy K_X1_fitsBy 1 1 := ⟨⟨gw_t 979 (by decide +kernel) rfl, gw_t 9 (by decide +kernel) rfl, by decide, by decide, by decide +kernel⟩, gw_t 978 (by decide +kernel) rfl, gw_s 35 (q := (yX1_fitsBy, 2)) (by decide +kernel), by decide, TX1, 2, rfl⟩
theorem cv_X1_howMany : CV yX1_howMany cX1_howMany K_X1_howMany 0 1 := ⟨⟨gw_t 966 (by decide +kernel) rfl, gw_t 9 (by decide +kernel) rfl, by decide, by decide, by decide +kernel⟩, gw_t 964 (by decide +kernel) rfl, gw_t 965 (by decide +kernel) rfl, by decide, TX1, 2, rfl⟩
theorem cv_X1_leftBy : CV yX1_leftBy cX1_leftBy K_X1_leftBy 1 1 := ⟨⟨gw_t 1007 (by decide +kernel) rfl, gw_t 9 (by decide +kernel) rfl, by decide, by decide, by decide +kernel⟩, gw_t 1005 (by decide +kernel) rfl, gw_t 1006 (by decide +kernel) rfl, by decide, TX1, 2, rfl⟩
theorem cv_X1_bestQuestion : CV yX1_bestQuestion cX1_bestQuestion K_X1_bestQuestion 0 1 := ⟨⟨gw_t 1003 (by decide +kernel) rfl, gw_t 9 (by decide +kernel) rfl, by decide, by decide, by decide +kernel⟩, gw_t 1001 (by decide +kernel) rfl, gw_t 1002 (by decide +kernel) rfl, by decide, TX1, 2, rfl⟩
theorem cv_X4_read : CV yX4_read cX4_read K_X4_read 1 4 := ⟨⟨gw_t 637 (by decide +kernel) rfl, gw_t 7 (by decide +kernel) rfl, by decide, by decide, by decide +kernel⟩, gw_t 636 (by decide +kernel) rfl, gw_s 20 (q := (yX4_read, 5)) (by decide +kernel), by decide, TX4, 5, rfl⟩
theorem cv_X5_numberBy : CV yX5_numberBy cX5_numberBy K_X5_numberBy 2 5 := ⟨⟨gw_t 652 (by decide +kernel) rfl, gw_t 2 (by decide +kernel) rfl, by decide, by decide, by decide +kernel⟩, gw_t 650 (by decide +kernel) rfl, gw_t 651 (by decide +kernel) rfl, by decide, TX5, 18, rfl⟩
theorem cv_X4_playStep : CV yX4_playStep cX4_playStep K_X4_playStep 2 4 := ⟨⟨gw_t 633 (by decide +kernel) rfl, gw_t 7 (by decide +kernel) rfl, by decide, by decide, by decide +kernel⟩, gw_t 632 (by decide +kernel) rfl, gw_s 19 (q := (yX4_playStep, 5)) (by decide +kernel), by decide, TX4, 5, rfl⟩
theorem cv_X4_play : CV yX4_play cX4_play K_X4_play 3 4 := ⟨⟨gw_t 627 (by decide +kernel) rfl, gw_t 7 (by decide +kernel) rfl, by decide, by decide, by decide +kernel⟩, gw_t 625 (by decide +kernel) rfl, gw_t 626 (by decide +kernel) rfl, by decide, TX4, 5, rfl⟩
theorem cv_X4_firstNotGot : CV yX4_firstNotGot cX4_firstNotGot K_X4_firstNotGot 1 4 := ⟨⟨gw_t 660 (by decide +kernel) rfl, gw_t 7 (by decide +kernel) rfl, by decide, by decide, by decide +kernel⟩, gw_t 658 (by decide +kernel) rfl, gw_t 659 (by decide +kernel) rfl, by decide, TX4, 5, rfl⟩
theorem cv_X1_find : CV yX1_find cX1_find K_X1_find 2 1 := ⟨⟨gw_t 623 (by decide +kernel) rfl, gw_t 9 (by decide +kernel) rfl, by decide, by decide, by decide +kernel⟩, gw_t 621 (by decide +kernel) rfl, gw_t 622 (by decide +kernel) rfl, by decide, TX1, 2, rfl⟩
theorem cv_X1_inAll : CV yX1_inAll cX1_inAll K_X1_inAll 0 1 := ⟨⟨gw_t 995 (by decide +kernel) rfl, gw_t 9 (by decide +kernel) rfl, by decide, by decide, by decide +kernel⟩, gw_t 993 (by decide +kernel) rfl, gw_t 994 (by decide +kernel) rfl, by decide, TX1, 2, rfl⟩
theorem cv_X1_inSome : CV yX1_inSome cX1_inSome K_X1_inSome 0 1 := ⟨⟨gw_t 987 (by decide +kernel) rfl, gw_t 9 (by decide +kernel) rfl, by decide, by decide, by decide +kernel⟩, gw_t 985 (by decide +kernel) rfl, gw_t 986 (by decide +kernel) rfl, by decide, TX1, 2, rfl⟩
theorem ci_X1_init : CI yX1_init cX1_init K_X1_init 0 := ⟨⟨gw_t 360 (by decide +kernel) rfl, gw_t 9 (by decide +kernel) rfl, by decide, by decide, by decide +kernel⟩, gw_t 359 (by decide +kernel) rfl, rfl, rfl⟩
theorem cv_X1_nth : CV yX1_nth cX1_nth K_X1_nth 1 1 := ⟨⟨gw_t 975 (by decide +kernel) rfl, gw_t 9 (by decide +kernel) rfl, by decide, by decide, by decide +kernel⟩, gw_t 973 (by decide +kernel) rfl, gw_t 974 (by decide +kernel) rfl, by decide, TX1, 2, rfl⟩
theorem cv_X2_forget : CV yX2_forget cX2_forget K_X2_forget 0 2 := ⟨⟨gw_t 614 (by decide +kernel) rfl, gw_t 6 (by decide +kernel) rfl, by decide, by decide, by decide +kernel⟩, gw_t 612 (by decide +kernel) rfl, gw_t 613 (by decide +kernel) rfl, by decide, TX2, 5, rfl⟩
theorem ci_X2_init : CI yX2_init cX2_init K_X2_init 1 := ⟨⟨gw_t 278 (by decide +kernel) rfl, gw_t 6 (by decide +kernel) rfl, by decide, by decide, by decide +kernel⟩, gw_t 277 (by decide +kernel) rfl, rfl, rfl⟩
theorem cv_X3_copyFrom : CV yX3_copyFrom cX3_copyFrom K_X3_copyFrom 1 3 := ⟨⟨gw_t 1035 (by decide +kernel) rfl, gw_t 5 (by decide +kernel) rfl, by decide, by decide, by decide +kernel⟩, gw_t 1033 (by decide +kernel) rfl, gw_t 1034 (by decide +kernel) rfl, by decide, TX3, 20, rfl⟩
theorem cv_X2_keep : CV yX2_keep cX2_keep K_X2_keep 1 2 := ⟨⟨gw_t 1057 (by decide +kernel) rfl, gw_t 6 (by decide +kernel) rfl, by decide, by decide, by decide +kernel⟩, gw_t 1055 (by decide +kernel) rfl, gw_t 1056 (by decide +kernel) rfl, by decide, TX2, 5, rfl⟩
theorem cv_X2_picture : CV yX2_picture cX2_picture K_X2_picture 1 2 := ⟨⟨gw_t 1091 (by decide +kernel) rfl, gw_t 6 (by decide +kernel) rfl, by decide, by decide, by decide +kernel⟩, gw_t 1089 (by decide +kernel) rfl, gw_t 1090 (by decide +kernel) rfl, by decide, TX2, 5, rfl⟩
theorem cv_X2_returnTo : CV yX2_returnTo cX2_returnTo K_X2_returnTo 2 2 := ⟨⟨gw_t 1099 (by decide +kernel) rfl, gw_t 6 (by decide +kernel) rfl, by decide, by decide, by decide +kernel⟩, gw_t 1097 (by decide +kernel) rfl, gw_t 1098 (by decide +kernel) rfl, by decide, TX2, 5, rfl⟩
theorem cv_X2_takeBack : CV yX2_takeBack cX2_takeBack K_X2_takeBack 1 2 := ⟨⟨gw_t 1083 (by decide +kernel) rfl, gw_t 6 (by decide +kernel) rfl, by decide, by decide, by decide +kernel⟩, gw_t 1081 (by decide +kernel) rfl, gw_t 1082 (by decide +kernel) rfl, by decide, TX2, 5, rfl⟩
theorem cv_X3_goOnAt : CV yX3_goOnAt cX3_goOnAt K_X3_goOnAt 1 3 := ⟨⟨gw_t 1075 (by decide +kernel) rfl, gw_t 5 (by decide +kernel) rfl, by decide, by decide, by decide +kernel⟩, gw_t 1073 (by decide +kernel) rfl, gw_t 1074 (by decide +kernel) rfl, by decide, TX3, 20, rfl⟩
theorem cv_X3_isSure : CV yX3_isSure cX3_isSure K_X3_isSure 1 3 := ⟨⟨gw_t 783 (by decide +kernel) rfl, gw_t 5 (by decide +kernel) rfl, by decide, by decide, by decide +kernel⟩, gw_t 781 (by decide +kernel) rfl, gw_t 782 (by decide +kernel) rfl, by decide, TX3, 20, rfl⟩
theorem cv_X3_keptValue : CV yX3_keptValue cX3_keptValue K_X3_keptValue 1 3 := ⟨⟨gw_t 703 (by decide +kernel) rfl, gw_t 5 (by decide +kernel) rfl, by decide, by decide, by decide +kernel⟩, gw_t 701 (by decide +kernel) rfl, gw_t 702 (by decide +kernel) rfl, by decide, TX3, 20, rfl⟩
theorem cv_X3_nthDone : CV yX3_nthDone cX3_nthDone K_X3_nthDone 1 3 := ⟨⟨gw_t 1127 (by decide +kernel) rfl, gw_t 5 (by decide +kernel) rfl, by decide, by decide, by decide +kernel⟩, gw_t 1125 (by decide +kernel) rfl, gw_t 1126 (by decide +kernel) rfl, by decide, TX3, 20, rfl⟩
theorem cv_X3_waitersFor : CV yX3_waitersFor cX3_waitersFor K_X3_waitersFor 1 3 := ⟨⟨gw_t 755 (by decide +kernel) rfl, gw_t 5 (by decide +kernel) rfl, by decide, by decide, by decide +kernel⟩, gw_t 753 (by decide +kernel) rfl, gw_t 754 (by decide +kernel) rfl, by decide, TX3, 20, rfl⟩
theorem ci_X4_init : CI yX4_init cX4_init K_X4_init 0 := ⟨⟨gw_t 305 (by decide +kernel) rfl, gw_t 7 (by decide +kernel) rfl, by decide, by decide, by decide +kernel⟩, gw_t 304 (by decide +kernel) rfl, rfl, rfl⟩
theorem cv_X5_clear : CV yX5_clear cX5_clear K_X5_clear 0 5 := ⟨⟨gw_t 454 (by decide +kernel) rfl, gw_t 2 (by decide +kernel) rfl, by decide, by decide, by decide +kernel⟩, gw_t 452 (by decide +kernel) rfl, gw_t 453 (by decide +kernel) rfl, by decide, TX5, 18, rfl⟩
theorem cv_X5_emptyStep : CV yX5_emptyStep cX5_emptyStep K_X5_emptyStep 1 5 := ⟨⟨gw_t 585 (by decide +kernel) rfl, gw_t 2 (by decide +kernel) rfl, by decide, by decide, by decide +kernel⟩, gw_t 583 (by decide +kernel) rfl, gw_t 584 (by decide +kernel) rfl, by decide, TX5, 18, rfl⟩
theorem ci_X5_init : CI yX5_init cX5_init K_X5_init 0 := ⟨⟨gw_t 36 (by decide +kernel) rfl, gw_t 2 (by decide +kernel) rfl, by decide, by decide, by decide +kernel⟩, gw_t 35 (by decide +kernel) rfl, rfl, rfl⟩
theorem cv_X5_isGot : CV yX5_isGot cX5_isGot K_X5_isGot 1 5 := ⟨⟨gw_t 577 (by decide +kernel) rfl, gw_t 2 (by decide +kernel) rfl, by decide, by decide, by decide +kernel⟩, gw_t 575 (by decide +kernel) rfl, gw_t 576 (by decide +kernel) rfl, by decide, TX5, 18, rfl⟩
theorem cv_X5_isUnsure : CV yX5_isUnsure cX5_isUnsure K_X5_isUnsure 1 5 := ⟨⟨gw_t 569 (by decide +kernel) rfl, gw_t 2 (by decide +kernel) rfl, by decide, by decide, by decide +kernel⟩, gw_t 567 (by decide +kernel) rfl, gw_t 568 (by decide +kernel) rfl, by decide, TX5, 18, rfl⟩
theorem cv_X6_advance : CV yX6_advance cX6_advance K_X6_advance 0 6 := ⟨⟨gw_t 535 (by decide +kernel) rfl, gw_t 3 (by decide +kernel) rfl, by decide, by decide, by decide +kernel⟩, gw_t 534 (by decide +kernel) rfl, gw_s 7 (q := (yX6_advance, 8)) (by decide +kernel), by decide, TX6, 8, rfl⟩
theorem cv_X6_fails : CV yX6_fails cX6_fails K_X6_fails 1 6 := ⟨⟨gw_t 527 (by decide +kernel) rfl, gw_t 3 (by decide +kernel) rfl, by decide, by decide, by decide +kernel⟩, gw_t 526 (by decide +kernel) rfl, gw_s 5 (q := (yX6_fails, 8)) (by decide +kernel), by decide, TX6, 8, rfl⟩
theorem cv_X6_failsAt : CV yX6_failsAt cX6_failsAt K_X6_failsAt 2 6 := ⟨⟨gw_t 565 (by decide +kernel) rfl, gw_t 3 (by decide +kernel) rfl, by decide, by decide, by decide +kernel⟩, gw_t 564 (by decide +kernel) rfl, gw_s 12 (q := (yX6_failsAt, 8)) (by decide +kernel), by decide, TX6, 8, rfl⟩
theorem ci_X7_init : CI yX7_init cX7_init K_X7_init 0 := ⟨⟨gw_t 143 (by decide +kernel) rfl, gw_t 4 (by decide +kernel) rfl, by decide, by decide, by decide +kernel⟩, gw_t 142 (by decide +kernel) rfl, rfl, rfl⟩
theorem ci_X6_init : CI yX6_init cX6_init K_X6_init 1 := ⟨⟨gw_t 137 (by decide +kernel) rfl, gw_t 3 (by decide +kernel) rfl, by decide, by decide, by decide +kernel⟩, gw_t 136 (by decide +kernel) rfl, rfl, rfl⟩
theorem cv_X6_isWord : CV yX6_isWord cX6_isWord K_X6_isWord 1 6 := ⟨⟨gw_t 467 (by decide +kernel) rfl, gw_t 3 (by decide +kernel) rfl, by decide, by decide, by decide +kernel⟩, gw_t 466 (by decide +kernel) rfl, gw_s 4 (q := (yX6_isWord, 8)) (by decide +kernel), by decide, TX6, 8, rfl⟩
theorem cv_X6_wholeHere : CV yX6_wholeHere cX6_wholeHere K_X6_wholeHere 0 6 := ⟨⟨gw_t 548 (by decide +kernel) rfl, gw_t 3 (by decide +kernel) rfl, by decide, by decide, by decide +kernel⟩, gw_t 547 (by decide +kernel) rfl, gw_s 10 (q := (yX6_wholeHere, 8)) (by decide +kernel), by decide, TX6, 8, rfl⟩
theorem cv_X6_takesWhole : CV yX6_takesWhole cX6_takesWhole K_X6_takesWhole 2 6 := ⟨⟨gw_t 544 (by decide +kernel) rfl, gw_t 3 (by decide +kernel) rfl, by decide, by decide, by decide +kernel⟩, gw_t 543 (by decide +kernel) rfl, gw_s 9 (q := (yX6_takesWhole, 8)) (by decide +kernel), by decide, TX6, 8, rfl⟩
theorem cv_X6_takesPair : CV yX6_takesPair cX6_takesPair K_X6_takesPair 1 6 := ⟨⟨gw_t 589 (by decide +kernel) rfl, gw_t 3 (by decide +kernel) rfl, by decide, by decide, by decide +kernel⟩, gw_t 588 (by decide +kernel) rfl, gw_s 15 (q := (yX6_takesPair, 8)) (by decide +kernel), by decide, TX6, 8, rfl⟩
theorem cv_X6_readChange : CV yX6_readChange cX6_readChange K_X6_readChange 1 6 := ⟨⟨gw_t 595 (by decide +kernel) rfl, gw_t 3 (by decide +kernel) rfl, by decide, by decide, by decide +kernel⟩, gw_t 594 (by decide +kernel) rfl, gw_s 16 (q := (yX6_readChange, 8)) (by decide +kernel), by decide, TX6, 8, rfl⟩
theorem cv_X6_takesWord : CV yX6_takesWord cX6_takesWord K_X6_takesWord 1 6 := ⟨⟨gw_t 540 (by decide +kernel) rfl, gw_t 3 (by decide +kernel) rfl, by decide, by decide, by decide +kernel⟩, gw_t 539 (by decide +kernel) rfl, gw_s 8 (q := (yX6_takesWord, 8)) (by decide +kernel), by decide, TX6, 8, rfl⟩
theorem cv_X6_readCore : CV yX6_readCore cX6_readCore K_X6_readCore 0 6 := ⟨⟨gw_t 531 (by decide +kernel) rfl, gw_t 3 (by decide +kernel) rfl, by decide, by decide, by decide +kernel⟩, gw_t 530 (by decide +kernel) rfl, gw_s 6 (q := (yX6_readCore, 8)) (by decide +kernel), by decide, TX6, 8, rfl⟩
theorem cv_X6_readGot : CV yX6_readGot cX6_readGot K_X6_readGot 0 6 := ⟨⟨gw_t 573 (by decide +kernel) rfl, gw_t 3 (by decide +kernel) rfl, by decide, by decide, by decide +kernel⟩, gw_t 572 (by decide +kernel) rfl, gw_s 13 (q := (yX6_readGot, 8)) (by decide +kernel), by decide, TX6, 8, rfl⟩
theorem cv_X6_sortOfLine : CV yX6_sortOfLine cX6_sortOfLine K_X6_sortOfLine 0 6 := ⟨⟨gw_t 462 (by decide +kernel) rfl, gw_t 3 (by decide +kernel) rfl, by decide, by decide, by decide +kernel⟩, gw_t 461 (by decide +kernel) rfl, gw_s 3 (q := (yX6_sortOfLine, 8)) (by decide +kernel), by decide, TX6, 8, rfl⟩
theorem cv_X6_readUnsure : CV yX6_readUnsure cX6_readUnsure K_X6_readUnsure 0 6 := ⟨⟨gw_t 557 (by decide +kernel) rfl, gw_t 3 (by decide +kernel) rfl, by decide, by decide, by decide +kernel⟩, gw_t 556 (by decide +kernel) rfl, gw_s 11 (q := (yX6_readUnsure, 8)) (by decide +kernel), by decide, TX6, 8, rfl⟩
theorem cv_X6_readSkip : CV yX6_readSkip cX6_readSkip K_X6_readSkip 0 6 := ⟨⟨gw_t 581 (by decide +kernel) rfl, gw_t 3 (by decide +kernel) rfl, by decide, by decide, by decide +kernel⟩, gw_t 580 (by decide +kernel) rfl, gw_s 14 (q := (yX6_readSkip, 8)) (by decide +kernel), by decide, TX6, 8, rfl⟩
theorem cv_X6_readLine : CV yX6_readLine cX6_readLine K_X6_readLine 1 6 := ⟨⟨gw_t 458 (by decide +kernel) rfl, gw_t 3 (by decide +kernel) rfl, by decide, by decide, by decide +kernel⟩, gw_t 457 (by decide +kernel) rfl, gw_s 2 (q := (yX6_readLine, 8)) (by decide +kernel), by decide, TX6, 8, rfl⟩
theorem cs_X7_pastBlanks : CS yX7_pastBlanks cX7_pastBlanks K_X7_pastBlanks 3 := ⟨⟨gw_t 438 (by decide +kernel) rfl, gw_t 4 (by decide +kernel) rfl, by decide, by decide, by decide +kernel⟩, gw_t 437 (by decide +kernel) rfl⟩
theorem cs_X7_isLetter : CS yX7_isLetter cX7_isLetter K_X7_isLetter 1 := ⟨⟨gw_t 444 (by decide +kernel) rfl, gw_t 4 (by decide +kernel) rfl, by decide, by decide, by decide +kernel⟩, gw_t 443 (by decide +kernel) rfl⟩
theorem cs_X7_isDigit : CS yX7_isDigit cX7_isDigit K_X7_isDigit 1 := ⟨⟨gw_t 447 (by decide +kernel) rfl, gw_t 4 (by decide +kernel) rfl, by decide, by decide, by decide +kernel⟩, gw_t 446 (by decide +kernel) rfl⟩
theorem cs_X7_runEnd : CS yX7_runEnd cX7_runEnd K_X7_runEnd 3 := ⟨⟨gw_t 441 (by decide +kernel) rfl, gw_t 4 (by decide +kernel) rfl, by decide, by decide, by decide +kernel⟩, gw_t 440 (by decide +kernel) rfl⟩
theorem cs_X7_sortOf : CS yX7_sortOf cX7_sortOf K_X7_sortOf 2 := ⟨⟨gw_t 450 (by decide +kernel) rfl, gw_t 4 (by decide +kernel) rfl, by decide, by decide, by decide +kernel⟩, gw_t 449 (by decide +kernel) rfl⟩
theorem cv_X7_part : CV yX7_part cX7_part K_X7_part 2 7 := ⟨⟨gw_t 435 (by decide +kernel) rfl, gw_t 4 (by decide +kernel) rfl, by decide, by decide, by decide +kernel⟩, gw_t 433 (by decide +kernel) rfl, gw_t 434 (by decide +kernel) rfl, by decide, TX7, 4, rfl⟩
theorem cv_X6_reads : CV yX6_reads cX6_reads K_X6_reads 3 6 := ⟨⟨gw_t 428 (by decide +kernel) rfl, gw_t 3 (by decide +kernel) rfl, by decide, by decide, by decide +kernel⟩, gw_t 426 (by decide +kernel) rfl, gw_t 427 (by decide +kernel) rfl, by decide, TX6, 8, rfl⟩
theorem cv_X8_refused : CV yX8_refused cX8_refused K_X8_refused 2 8 := ⟨⟨gw_t 424 (by decide +kernel) rfl, gw_t 1 (by decide +kernel) rfl, by decide, by decide, by decide +kernel⟩, gw_t 423 (by decide +kernel) rfl, gw_s 1 (q := (yX8_refused, 13)) (by decide +kernel), by decide, TX8, 13, rfl⟩
theorem cv_X8_plainTotal : CV yX8_plainTotal cX8_plainTotal K_X8_plainTotal 0 8 := ⟨⟨gw_t 676 (by decide +kernel) rfl, gw_t 1 (by decide +kernel) rfl, by decide, by decide, by decide +kernel⟩, gw_t 675 (by decide +kernel) rfl, gw_s 21 (q := (yX8_plainTotal, 13)) (by decide +kernel), by decide, TX8, 13, rfl⟩
theorem cv_X8_agrees : CV yX8_agrees cX8_agrees K_X8_agrees 0 8 := ⟨⟨gw_t 846 (by decide +kernel) rfl, gw_t 1 (by decide +kernel) rfl, by decide, by decide, by decide +kernel⟩, gw_t 844 (by decide +kernel) rfl, gw_t 845 (by decide +kernel) rfl, by decide, TX8, 13, rfl⟩
theorem cv_X8_ask : CV yX8_ask cX8_ask K_X8_ask 0 8 := ⟨⟨gw_t 999 (by decide +kernel) rfl, gw_t 1 (by decide +kernel) rfl, by decide, by decide, by decide +kernel⟩, gw_t 997 (by decide +kernel) rfl, gw_t 998 (by decide +kernel) rfl, by decide, TX8, 13, rfl⟩
theorem cv_X8_askLeaves : CV yX8_askLeaves cX8_askLeaves K_X8_askLeaves 0 8 := ⟨⟨gw_t 1013 (by decide +kernel) rfl, gw_t 1 (by decide +kernel) rfl, by decide, by decide, by decide +kernel⟩, gw_t 1011 (by decide +kernel) rfl, gw_t 1012 (by decide +kernel) rfl, by decide, TX8, 13, rfl⟩
theorem cv_X8_back : CV yX8_back cX8_back K_X8_back 1 8 := ⟨⟨gw_t 1095 (by decide +kernel) rfl, gw_t 1 (by decide +kernel) rfl, by decide, by decide, by decide +kernel⟩, gw_t 1093 (by decide +kernel) rfl, gw_t 1094 (by decide +kernel) rfl, by decide, TX8, 13, rfl⟩
theorem cv_X8_beginWithDraft : CV yX8_beginWithDraft cX8_beginWithDraft K_X8_beginWithDraft 0 8 := ⟨⟨gw_t 599 (by decide +kernel) rfl, gw_t 1 (by decide +kernel) rfl, by decide, by decide, by decide +kernel⟩, gw_t 598 (by decide +kernel) rfl, gw_s 17 (q := (yX8_beginWithDraft, 13)) (by decide +kernel), by decide, TX8, 13, rfl⟩
theorem cv_X8_cell : CV yX8_cell cX8_cell K_X8_cell 2 8 := ⟨⟨gw_t 743 (by decide +kernel) rfl, gw_t 1 (by decide +kernel) rfl, by decide, by decide, by decide +kernel⟩, gw_t 741 (by decide +kernel) rfl, gw_t 742 (by decide +kernel) rfl, by decide, TX8, 13, rfl⟩
theorem cv_X8_cellsFor : CV yX8_cellsFor cX8_cellsFor K_X8_cellsFor 1 8 := ⟨⟨gw_t 950 (by decide +kernel) rfl, gw_t 1 (by decide +kernel) rfl, by decide, by decide, by decide +kernel⟩, gw_t 948 (by decide +kernel) rfl, gw_t 949 (by decide +kernel) rfl, by decide, TX8, 13, rfl⟩
theorem cv_X8_commit : CV yX8_commit cX8_commit K_X8_commit 0 8 := ⟨⟨gw_t 1067 (by decide +kernel) rfl, gw_t 1 (by decide +kernel) rfl, by decide, by decide, by decide +kernel⟩, gw_t 1065 (by decide +kernel) rfl, gw_t 1066 (by decide +kernel) rfl, by decide, TX8, 13, rfl⟩
theorem cv_X8_commitable : CV yX8_commitable cX8_commitable K_X8_commitable 0 8 := ⟨⟨gw_t 820 (by decide +kernel) rfl, gw_t 1 (by decide +kernel) rfl, by decide, by decide, by decide +kernel⟩, gw_t 818 (by decide +kernel) rfl, gw_t 819 (by decide +kernel) rfl, by decide, TX8, 13, rfl⟩
theorem cs_X8_isCells : CS yX8_isCells cX8_isCells K_X8_isCells 1 := ⟨⟨gw_t 853 (by decide +kernel) rfl, gw_t 1 (by decide +kernel) rfl, by decide, by decide, by decide +kernel⟩, gw_t 852 (by decide +kernel) rfl⟩
theorem cv_X8_commits : CV yX8_commits cX8_commits K_X8_commits 1 8 := ⟨⟨gw_t 938 (by decide +kernel) rfl, gw_t 1 (by decide +kernel) rfl, by decide, by decide, by decide +kernel⟩, gw_t 936 (by decide +kernel) rfl, gw_t 937 (by decide +kernel) rfl, by decide, TX8, 13, rfl⟩
theorem cs_X8_commonDivisor : CS yX8_commonDivisor cX8_commonDivisor K_X8_commonDivisor 2 := ⟨⟨gw_t 958 (by decide +kernel) rfl, gw_t 1 (by decide +kernel) rfl, by decide, by decide, by decide +kernel⟩, gw_t 957 (by decide +kernel) rfl⟩
theorem cv_X8_core : CV yX8_core cX8_core K_X8_core 1 8 := ⟨⟨gw_t 420 (by decide +kernel) rfl, gw_t 1 (by decide +kernel) rfl, by decide, by decide, by decide +kernel⟩, gw_t 418 (by decide +kernel) rfl, gw_t 419 (by decide +kernel) rfl, by decide, TX8, 13, rfl⟩
theorem cv_X8_could : CV yX8_could cX8_could K_X8_could 0 8 := ⟨⟨gw_t 983 (by decide +kernel) rfl, gw_t 1 (by decide +kernel) rfl, by decide, by decide, by decide +kernel⟩, gw_t 981 (by decide +kernel) rfl, gw_t 982 (by decide +kernel) rfl, by decide, TX8, 13, rfl⟩
theorem cv_X8_crowd : CV yX8_crowd cX8_crowd K_X8_crowd 1 8 := ⟨⟨gw_t 946 (by decide +kernel) rfl, gw_t 1 (by decide +kernel) rfl, by decide, by decide, by decide +kernel⟩, gw_t 944 (by decide +kernel) rfl, gw_t 945 (by decide +kernel) rfl, by decide, TX8, 13, rfl⟩
theorem cv_X8_cycles : CV yX8_cycles cX8_cycles K_X8_cycles 1 8 := ⟨⟨gw_t 850 (by decide +kernel) rfl, gw_t 1 (by decide +kernel) rfl, by decide, by decide, by decide +kernel⟩, gw_t 848 (by decide +kernel) rfl, gw_t 849 (by decide +kernel) rfl, by decide, TX8, 13, rfl⟩
theorem cs_X8_nextSeed : CS yX8_nextSeed cX8_nextSeed K_X8_nextSeed 1 := ⟨⟨gw_t 1038 (by decide +kernel) rfl, gw_t 1 (by decide +kernel) rfl, by decide, by decide, by decide +kernel⟩, gw_t 1037 (by decide +kernel) rfl⟩
theorem cv_X8_workIfPossible : CV yX8_workIfPossible cX8_workIfPossible K_X8_workIfPossible 1 8 := ⟨⟨gw_t 1043 (by decide +kernel) rfl, gw_t 1 (by decide +kernel) rfl, by decide, by decide, by decide +kernel⟩, gw_t 1042 (by decide +kernel) rfl, gw_s 37 (q := (yX8_workIfPossible, 13)) (by decide +kernel), by decide, TX8, 13, rfl⟩
theorem cv_X8_drawTries : CV yX8_drawTries cX8_drawTries K_X8_drawTries 2 8 := ⟨⟨gw_t 1031 (by decide +kernel) rfl, gw_t 1 (by decide +kernel) rfl, by decide, by decide, by decide +kernel⟩, gw_t 1030 (by decide +kernel) rfl, gw_s 36 (q := (yX8_drawTries, 13)) (by decide +kernel), by decide, TX8, 13, rfl⟩
theorem cs_X8_isDraw : CS yX8_isDraw cX8_isDraw K_X8_isDraw 2 := ⟨⟨gw_t 1026 (by decide +kernel) rfl, gw_t 1 (by decide +kernel) rfl, by decide, by decide, by decide +kernel⟩, gw_t 1025 (by decide +kernel) rfl⟩
theorem cv_X8_drawnCommits : CV yX8_drawnCommits cX8_drawnCommits K_X8_drawnCommits 2 8 := ⟨⟨gw_t 1023 (by decide +kernel) rfl, gw_t 1 (by decide +kernel) rfl, by decide, by decide, by decide +kernel⟩, gw_t 1021 (by decide +kernel) rfl, gw_t 1022 (by decide +kernel) rfl, by decide, TX8, 13, rfl⟩
theorem cv_X8_drawnValue : CV yX8_drawnValue cX8_drawnValue K_X8_drawnValue 3 8 := ⟨⟨gw_t 1049 (by decide +kernel) rfl, gw_t 1 (by decide +kernel) rfl, by decide, by decide, by decide +kernel⟩, gw_t 1047 (by decide +kernel) rfl, gw_t 1048 (by decide +kernel) rfl, by decide, TX8, 13, rfl⟩
theorem cv_X8_entries : CV yX8_entries cX8_entries K_X8_entries 0 8 := ⟨⟨gw_t 771 (by decide +kernel) rfl, gw_t 1 (by decide +kernel) rfl, by decide, by decide, by decide +kernel⟩, gw_t 769 (by decide +kernel) rfl, gw_t 770 (by decide +kernel) rfl, by decide, TX8, 13, rfl⟩
theorem cv_X8_isEntry : CV yX8_isEntry cX8_isEntry K_X8_isEntry 1 8 := ⟨⟨gw_t 779 (by decide +kernel) rfl, gw_t 1 (by decide +kernel) rfl, by decide, by decide, by decide +kernel⟩, gw_t 778 (by decide +kernel) rfl, gw_s 24 (q := (yX8_isEntry, 13)) (by decide +kernel), by decide, TX8, 13, rfl⟩
theorem cv_X8_entry : CV yX8_entry cX8_entry K_X8_entry 2 8 := ⟨⟨gw_t 775 (by decide +kernel) rfl, gw_t 1 (by decide +kernel) rfl, by decide, by decide, by decide +kernel⟩, gw_t 773 (by decide +kernel) rfl, gw_t 774 (by decide +kernel) rfl, by decide, TX8, 13, rfl⟩
theorem cv_X8_fault : CV yX8_fault cX8_fault K_X8_fault 0 8 := ⟨⟨gw_t 664 (by decide +kernel) rfl, gw_t 1 (by decide +kernel) rfl, by decide, by decide, by decide +kernel⟩, gw_t 662 (by decide +kernel) rfl, gw_t 663 (by decide +kernel) rfl, by decide, TX8, 13, rfl⟩
theorem cv_X8_putBytes : CV yX8_putBytes cX8_putBytes K_X8_putBytes 1 8 := ⟨⟨gw_t 416 (by decide +kernel) rfl, gw_t 1 (by decide +kernel) rfl, by decide, by decide, by decide +kernel⟩, gw_t 415 (by decide +kernel) rfl, gw_s 0 (q := (yX8_putBytes, 13)) (by decide +kernel), by decide, TX8, 13, rfl⟩
theorem cv_X8_feed : CV yX8_feed cX8_feed K_X8_feed 5 8 := ⟨⟨gw_t 412 (by decide +kernel) rfl, gw_t 1 (by decide +kernel) rfl, by decide, by decide, by decide +kernel⟩, gw_t 410 (by decide +kernel) rfl, gw_t 411 (by decide +kernel) rfl, by decide, TX8, 13, rfl⟩
theorem cv_X8_fetch : CV yX8_fetch cX8_fetch K_X8_fetch 0 8 := ⟨⟨gw_t 1053 (by decide +kernel) rfl, gw_t 1 (by decide +kernel) rfl, by decide, by decide, by decide +kernel⟩, gw_t 1051 (by decide +kernel) rfl, gw_t 1052 (by decide +kernel) rfl, by decide, TX8, 13, rfl⟩
theorem cv_X8_fetchable : CV yX8_fetchable cX8_fetchable K_X8_fetchable 0 8 := ⟨⟨gw_t 804 (by decide +kernel) rfl, gw_t 1 (by decide +kernel) rfl, by decide, by decide, by decide +kernel⟩, gw_t 802 (by decide +kernel) rfl, gw_t 803 (by decide +kernel) rfl, by decide, TX8, 13, rfl⟩
theorem cv_X8_fitAt : CV yX8_fitAt cX8_fitAt K_X8_fitAt 1 8 := ⟨⟨gw_t 971 (by decide +kernel) rfl, gw_t 1 (by decide +kernel) rfl, by decide, by decide, by decide +kernel⟩, gw_t 969 (by decide +kernel) rfl, gw_t 970 (by decide +kernel) rfl, by decide, TX8, 13, rfl⟩
theorem cv_X8_fits : CV yX8_fits cX8_fits K_X8_fits 0 8 := ⟨⟨gw_t 962 (by decide +kernel) rfl, gw_t 1 (by decide +kernel) rfl, by decide, by decide, by decide +kernel⟩, gw_t 960 (by decide +kernel) rfl, gw_t 961 (by decide +kernel) rfl, by decide, TX8, 13, rfl⟩
theorem cv_X8_free : CV yX8_free cX8_free K_X8_free 0 8 := ⟨⟨gw_t 759 (by decide +kernel) rfl, gw_t 1 (by decide +kernel) rfl, by decide, by decide, by decide +kernel⟩, gw_t 757 (by decide +kernel) rfl, gw_t 758 (by decide +kernel) rfl, by decide, TX8, 13, rfl⟩
theorem cv_X8_gives : CV yX8_gives cX8_gives K_X8_gives 1 8 := ⟨⟨gw_t 836 (by decide +kernel) rfl, gw_t 1 (by decide +kernel) rfl, by decide, by decide, by decide +kernel⟩, gw_t 834 (by decide +kernel) rfl, gw_t 835 (by decide +kernel) rfl, by decide, TX8, 13, rfl⟩
theorem cv_X8_image : CV yX8_image cX8_image K_X8_image 0 8 := ⟨⟨gw_t 1087 (by decide +kernel) rfl, gw_t 1 (by decide +kernel) rfl, by decide, by decide, by decide +kernel⟩, gw_t 1085 (by decide +kernel) rfl, gw_t 1086 (by decide +kernel) rfl, by decide, TX8, 13, rfl⟩
theorem ci_X8_init : CI yX8_init cX8_init K_X8_init 0 := ⟨⟨gw_t 28 (by decide +kernel) rfl, gw_t 1 (by decide +kernel) rfl, by decide, by decide, by decide +kernel⟩, gw_t 27 (by decide +kernel) rfl, rfl, rfl⟩
theorem cv_X8_judge : CV yX8_judge cX8_judge K_X8_judge 0 8 := ⟨⟨gw_t 1018 (by decide +kernel) rfl, gw_t 1 (by decide +kernel) rfl, by decide, by decide, by decide +kernel⟩, gw_t 1016 (by decide +kernel) rfl, gw_t 1017 (by decide +kernel) rfl, by decide, TX8, 13, rfl⟩
theorem cv_X8_kept : CV yX8_kept cX8_kept K_X8_kept 1 8 := ⟨⟨gw_t 726 (by decide +kernel) rfl, gw_t 1 (by decide +kernel) rfl, by decide, by decide, by decide +kernel⟩, gw_t 724 (by decide +kernel) rfl, gw_t 725 (by decide +kernel) rfl, by decide, TX8, 13, rfl⟩
theorem cv_X8_letGo : CV yX8_letGo cX8_letGo K_X8_letGo 0 8 := ⟨⟨gw_t 738 (by decide +kernel) rfl, gw_t 1 (by decide +kernel) rfl, by decide, by decide, by decide +kernel⟩, gw_t 736 (by decide +kernel) rfl, gw_t 737 (by decide +kernel) rfl, by decide, TX8, 13, rfl⟩
theorem cv_X8_mapped : CV yX8_mapped cX8_mapped K_X8_mapped 1 8 := ⟨⟨gw_t 730 (by decide +kernel) rfl, gw_t 1 (by decide +kernel) rfl, by decide, by decide, by decide +kernel⟩, gw_t 728 (by decide +kernel) rfl, gw_t 729 (by decide +kernel) rfl, by decide, TX8, 13, rfl⟩
theorem cv_X8_misses : CV yX8_misses cX8_misses K_X8_misses 1 8 := ⟨⟨gw_t 942 (by decide +kernel) rfl, gw_t 1 (by decide +kernel) rfl, by decide, by decide, by decide +kernel⟩, gw_t 940 (by decide +kernel) rfl, gw_t 941 (by decide +kernel) rfl, by decide, TX8, 13, rfl⟩
theorem cv_X8_nextStep : CV yX8_nextStep cX8_nextStep K_X8_nextStep 0 8 := ⟨⟨gw_t 800 (by decide +kernel) rfl, gw_t 1 (by decide +kernel) rfl, by decide, by decide, by decide +kernel⟩, gw_t 798 (by decide +kernel) rfl, gw_t 799 (by decide +kernel) rfl, by decide, TX8, 13, rfl⟩
theorem cv_X8_plainAt : CV yX8_plainAt cX8_plainAt K_X8_plainAt 2 8 := ⟨⟨gw_t 686 (by decide +kernel) rfl, gw_t 1 (by decide +kernel) rfl, by decide, by decide, by decide +kernel⟩, gw_t 684 (by decide +kernel) rfl, gw_t 685 (by decide +kernel) rfl, by decide, TX8, 13, rfl⟩
theorem cv_X8_plainEnd : CV yX8_plainEnd cX8_plainEnd K_X8_plainEnd 0 8 := ⟨⟨gw_t 681 (by decide +kernel) rfl, gw_t 1 (by decide +kernel) rfl, by decide, by decide, by decide +kernel⟩, gw_t 679 (by decide +kernel) rfl, gw_t 680 (by decide +kernel) rfl, by decide, TX8, 13, rfl⟩
theorem cv_X8_plainMisses : CV yX8_plainMisses cX8_plainMisses K_X8_plainMisses 0 8 := ⟨⟨gw_t 695 (by decide +kernel) rfl, gw_t 1 (by decide +kernel) rfl, by decide, by decide, by decide +kernel⟩, gw_t 693 (by decide +kernel) rfl, gw_t 694 (by decide +kernel) rfl, by decide, TX8, 13, rfl⟩
theorem cv_X8_plainStep : CV yX8_plainStep cX8_plainStep K_X8_plainStep 1 8 := ⟨⟨gw_t 691 (by decide +kernel) rfl, gw_t 1 (by decide +kernel) rfl, by decide, by decide, by decide +kernel⟩, gw_t 689 (by decide +kernel) rfl, gw_t 690 (by decide +kernel) rfl, by decide, TX8, 13, rfl⟩
theorem cv_X8_plainSteps : CV yX8_plainSteps cX8_plainSteps K_X8_plainSteps 0 8 := ⟨⟨gw_t 672 (by decide +kernel) rfl, gw_t 1 (by decide +kernel) rfl, by decide, by decide, by decide +kernel⟩, gw_t 670 (by decide +kernel) rfl, gw_t 671 (by decide +kernel) rfl, by decide, TX8, 13, rfl⟩
theorem cv_X8_rate : CV yX8_rate cX8_rate K_X8_rate 2 8 := ⟨⟨gw_t 954 (by decide +kernel) rfl, gw_t 1 (by decide +kernel) rfl, by decide, by decide, by decide +kernel⟩, gw_t 952 (by decide +kernel) rfl, gw_t 953 (by decide +kernel) rfl, by decide, TX8, 13, rfl⟩
theorem cv_X8_ready : CV yX8_ready cX8_ready K_X8_ready 0 8 := ⟨⟨gw_t 767 (by decide +kernel) rfl, gw_t 1 (by decide +kernel) rfl, by decide, by decide, by decide +kernel⟩, gw_t 765 (by decide +kernel) rfl, gw_t 766 (by decide +kernel) rfl, by decide, TX8, 13, rfl⟩
theorem cv_X8_resume : CV yX8_resume cX8_resume K_X8_resume 1 8 := ⟨⟨gw_t 1071 (by decide +kernel) rfl, gw_t 1 (by decide +kernel) rfl, by decide, by decide, by decide +kernel⟩, gw_t 1069 (by decide +kernel) rfl, gw_t 1070 (by decide +kernel) rfl, by decide, TX8, 13, rfl⟩
theorem cv_X8_run : CV yX8_run cX8_run K_X8_run 1 8 := ⟨⟨gw_t 1063 (by decide +kernel) rfl, gw_t 1 (by decide +kernel) rfl, by decide, by decide, by decide +kernel⟩, gw_t 1061 (by decide +kernel) rfl, gw_t 1062 (by decide +kernel) rfl, by decide, TX8, 13, rfl⟩
theorem cv_X8_runnable : CV yX8_runnable cX8_runnable K_X8_runnable 0 8 := ⟨⟨gw_t 787 (by decide +kernel) rfl, gw_t 1 (by decide +kernel) rfl, by decide, by decide, by decide +kernel⟩, gw_t 785 (by decide +kernel) rfl, gw_t 786 (by decide +kernel) rfl, by decide, TX8, 13, rfl⟩
theorem cv_X8_saved : CV yX8_saved cX8_saved K_X8_saved 2 8 := ⟨⟨gw_t 832 (by decide +kernel) rfl, gw_t 1 (by decide +kernel) rfl, by decide, by decide, by decide +kernel⟩, gw_t 830 (by decide +kernel) rfl, gw_t 831 (by decide +kernel) rfl, by decide, TX8, 13, rfl⟩
theorem cv_X8_sizeOfText : CV yX8_sizeOfText cX8_sizeOfText K_X8_sizeOfText 1 8 := ⟨⟨gw_t 1107 (by decide +kernel) rfl, gw_t 1 (by decide +kernel) rfl, by decide, by decide, by decide +kernel⟩, gw_t 1106 (by decide +kernel) rfl, gw_s 38 (q := (yX8_sizeOfText, 13)) (by decide +kernel), by decide, TX8, 13, rfl⟩
theorem cv_X8_sizeOfState : CV yX8_sizeOfState cX8_sizeOfState K_X8_sizeOfState 1 8 := ⟨⟨gw_t 1111 (by decide +kernel) rfl, gw_t 1 (by decide +kernel) rfl, by decide, by decide, by decide +kernel⟩, gw_t 1110 (by decide +kernel) rfl, gw_s 39 (q := (yX8_sizeOfState, 13)) (by decide +kernel), by decide, TX8, 13, rfl⟩
theorem cv_X8_size : CV yX8_size cX8_size K_X8_size 1 8 := ⟨⟨gw_t 1103 (by decide +kernel) rfl, gw_t 1 (by decide +kernel) rfl, by decide, by decide, by decide +kernel⟩, gw_t 1101 (by decide +kernel) rfl, gw_t 1102 (by decide +kernel) rfl, by decide, TX8, 13, rfl⟩
theorem cv_X8_surely : CV yX8_surely cX8_surely K_X8_surely 0 8 := ⟨⟨gw_t 991 (by decide +kernel) rfl, gw_t 1 (by decide +kernel) rfl, by decide, by decide, by decide +kernel⟩, gw_t 989 (by decide +kernel) rfl, gw_t 990 (by decide +kernel) rfl, by decide, TX8, 13, rfl⟩
theorem cv_X8_trouble : CV yX8_trouble cX8_trouble K_X8_trouble 0 8 := ⟨⟨gw_t 1115 (by decide +kernel) rfl, gw_t 1 (by decide +kernel) rfl, by decide, by decide, by decide +kernel⟩, gw_t 1113 (by decide +kernel) rfl, gw_t 1114 (by decide +kernel) rfl, by decide, TX8, 13, rfl⟩
theorem cv_X8_undo : CV yX8_undo cX8_undo K_X8_undo 0 8 := ⟨⟨gw_t 1079 (by decide +kernel) rfl, gw_t 1 (by decide +kernel) rfl, by decide, by decide, by decide +kernel⟩, gw_t 1077 (by decide +kernel) rfl, gw_t 1078 (by decide +kernel) rfl, by decide, TX8, 13, rfl⟩
theorem cv_X8_value : CV yX8_value cX8_value K_X8_value 1 8 := ⟨⟨gw_t 699 (by decide +kernel) rfl, gw_t 1 (by decide +kernel) rfl, by decide, by decide, by decide +kernel⟩, gw_t 697 (by decide +kernel) rfl, gw_t 698 (by decide +kernel) rfl, by decide, TX8, 13, rfl⟩
theorem cv_X8_walked : CV yX8_walked cX8_walked K_X8_walked 2 8 := ⟨⟨gw_t 828 (by decide +kernel) rfl, gw_t 1 (by decide +kernel) rfl, by decide, by decide, by decide +kernel⟩, gw_t 826 (by decide +kernel) rfl, gw_t 827 (by decide +kernel) rfl, by decide, TX8, 13, rfl⟩
theorem cv_X8_where : CV yX8_where cX8_where K_X8_where 0 8 := ⟨⟨gw_t 668 (by decide +kernel) rfl, gw_t 1 (by decide +kernel) rfl, by decide, by decide, by decide +kernel⟩, gw_t 666 (by decide +kernel) rfl, gw_t 667 (by decide +kernel) rfl, by decide, TX8, 13, rfl⟩
theorem cs_J0_checkIndex_df160 : CS yJ0_checkIndex_df160 cJ0_checkIndex_df160 K_J0_checkIndex_df160 2 := ⟨⟨gw_t 491 (by decide +kernel) rfl, gw_t 12 (by decide +kernel) rfl, by decide, by decide, by decide +kernel⟩, gw_t 490 (by decide +kernel) rfl⟩
theorem ml_RJ0_335 : ML RJ0 335 yJ0_coder_7d493 := Or.inl (gw_t 472 (by decide +kernel) rfl)
theorem ml_RJ0_492 : ML RJ0 492 yJ0_isLatin1_aae02 := Or.inl (gw_t 482 (by decide +kernel) rfl)
theorem ml_RJ0_495 : ML RJ0 495 yJ1_charAt_3b067 := Or.inl (gw_t 486 (by decide +kernel) rfl)
theorem ml_RJ0_1059 : ML RJ0 1059 yJ3_checkIndex_8e157 := Or.inl (gw_t 494 (by decide +kernel) rfl)
theorem ml_RJ1_9 : ML RJ1 9 yJ0_checkIndex_df160 := Or.inl (gw_t 489 (by decide +kernel) rfl)
theorem ml_RX0_26 : ML RX0 26 yX3_init := Or.inl (gw_t 335 (by decide +kernel) rfl)
theorem ml_RX0_33 : ML RX0 33 yJ7_fill_53178 := Or.inl (gw_t 619 (by decide +kernel) rfl)
theorem ml_RX0_39 : ML RX0 39 yX3_begin := Or.inl (gw_t 858 (by decide +kernel) rfl)
theorem ml_RX0_43 : ML RX0 43 yX3_isOver := Or.inl (gw_t 859 (by decide +kernel) rfl)
theorem ml_RX0_47 : ML RX0 47 yX0_goOneCycle := Or.inl (gw_t 863 (by decide +kernel) rfl)
theorem ml_RX0_55 : ML RX0 55 yX3_freeBits := Or.inl (gw_t 930 (by decide +kernel) rfl)
theorem ml_RX0_59 : ML RX0 59 yJ6_bitCount_0f7a4 := Or.inl (gw_t 931 (by decide +kernel) rfl)
theorem ml_RX0_72 : ML RX0 72 yX3_whyNotRetire := Or.inl (gw_t 867 (by decide +kernel) rfl)
theorem ml_RX0_75 : ML RX0 75 yX3_retire := Or.inl (gw_t 868 (by decide +kernel) rfl)
theorem ml_RX0_78 : ML RX0 78 yX3_oldestToWork := Or.inl (gw_t 880 (by decide +kernel) rfl)
theorem ml_RX0_81 : ML RX0 81 yX3_misguessed := Or.inl (gw_t 885 (by decide +kernel) rfl)
theorem ml_RX0_85 : ML RX0 85 yX3_work := Or.inl (gw_t 899 (by decide +kernel) rfl)
theorem ml_RX0_88 : ML RX0 88 yX3_whyNotTake := Or.inl (gw_t 908 (by decide +kernel) rfl)
theorem ml_RX0_91 : ML RX0 91 yX3_take := Or.inl (gw_t 909 (by decide +kernel) rfl)
theorem ml_RX1_21 : ML RX1 21 yX4_play := Or.inl (gw_t 624 (by decide +kernel) rfl)
theorem ml_RX1_27 : ML RX1 27 yX4_firstNotGot := Or.inl (gw_t 657 (by decide +kernel) rfl)
theorem ml_RX1_31 : ML RX1 31 yJ6_bitCount_0f7a4 := Or.inl (gw_t 967 (by decide +kernel) rfl)
theorem ml_RX1_37 : ML RX1 37 yX1_fitsBy := Or.inl (gw_t 976 (by decide +kernel) rfl)
theorem ml_RX1_41 : ML RX1 41 yX1_howMany := Or.inl (gw_t 1008 (by decide +kernel) rfl)
theorem ml_RX1_51 : ML RX1 51 yX1_leftBy := Or.inl (gw_t 1004 (by decide +kernel) rfl)
theorem ml_RX10_42 : ML RX10 42 yX10_refused := Or.inl (gw_t 1322 (by decide +kernel) rfl)
theorem ml_RX10_46 : ML RX10 46 yX10_good := Or.inl (gw_t 1524 (by decide +kernel) rfl)
theorem ml_RX10_49 : ML RX10 49 yX10_common := Or.inl (gw_t 1801 (by decide +kernel) rfl)
theorem ml_RX10_56 : ML RX10 56 yJ0_length_8abf5 := Or.inl (gw_t 1431 (by decide +kernel) rfl)
theorem ml_RX10_64 : ML RX10 64 yJ0_charAt_5068e := Or.inl (gw_t 1432 (by decide +kernel) rfl)
theorem ml_RX10_74 : ML RX10 74 yX10_byteAt := Or.inl (gw_t 1404 (by decide +kernel) rfl)
theorem ml_RX10_80 : ML RX10 80 yX10_isLetter := Or.inl (gw_t 1408 (by decide +kernel) rfl)
theorem ml_RX10_88 : ML RX10 88 yX10_isDigit := Or.inl (gw_t 1412 (by decide +kernel) rfl)
theorem ml_RX10_100 : ML RX10 100 yX10_packed := Or.inl (gw_t 1428 (by decide +kernel) rfl)
theorem ml_RX10_104 : ML RX10 104 yX10_goesOn := Or.inl (gw_t 1400 (by decide +kernel) rfl)
theorem ml_RX10_107 : ML RX10 107 yX10_isWord := Or.inl (gw_t 1424 (by decide +kernel) rfl)
theorem ml_RX10_111 : ML RX10 111 yX10_flaw := Or.inl (gw_t 1437 (by decide +kernel) rfl)
theorem ml_RX10_115 : ML RX10 115 yX10_in := Or.inl (gw_t 1458 (by decide +kernel) rfl)
theorem ml_RX10_119 : ML RX10 119 yX10_wholeAt := Or.inl (gw_t 1454 (by decide +kernel) rfl)
theorem ml_RX10_123 : ML RX10 123 yX10_needs := Or.inl (gw_t 1446 (by decide +kernel) rfl)
theorem ml_RX10_127 : ML RX10 127 yX10_readWhole := Or.inl (gw_t 1450 (by decide +kernel) rfl)
theorem ml_RX10_139 : ML RX10 139 yX10_readLine := Or.inl (gw_t 1419 (by decide +kernel) rfl)
theorem ml_RX10_142 : ML RX10 142 yX10_eatsSemicolon := Or.inl (gw_t 1512 (by decide +kernel) rfl)
theorem ml_RX10_163 : ML RX10 163 yX10_readCore := Or.inl (gw_t 1433 (by decide +kernel) rfl)
theorem ml_RX10_166 : ML RX10 166 yX10_kindAtHand := Or.inl (gw_t 1466 (by decide +kernel) rfl)
theorem ml_RX10_169 : ML RX10 169 yX10_readStep := Or.inl (gw_t 1476 (by decide +kernel) rfl)
theorem ml_RX10_174 : ML RX10 174 yX10_readUnsure := Or.inl (gw_t 1491 (by decide +kernel) rfl)
theorem ml_RX10_179 : ML RX10 179 yX10_readGot := Or.inl (gw_t 1504 (by decide +kernel) rfl)
theorem ml_RX10_183 : ML RX10 183 yX10_readPart := Or.inl (gw_t 1442 (by decide +kernel) rfl)
theorem ml_RX10_206 : ML RX10 206 yX10_lineBegins := Or.inl (gw_t 1480 (by decide +kernel) rfl)
theorem ml_RX10_210 : ML RX10 210 yX10_readRegister := Or.inl (gw_t 1484 (by decide +kernel) rfl)
theorem ml_RX10_237 : ML RX10 237 yX9_isStep := Or.inl (gw_t 1495 (by decide +kernel) rfl)
theorem ml_RX10_240 : ML RX10 240 yX9_unsureOf := Or.inl (gw_t 1499 (by decide +kernel) rfl)
theorem ml_RX10_251 : ML RX10 251 yX9_isGot := Or.inl (gw_t 1508 (by decide +kernel) rfl)
theorem ml_RX10_262 : ML RX10 262 yX9_init := Or.inr ⟨"RenamedCellsModel", nw_t 1328 (by decide +kernel) rfl⟩
theorem ml_RX10_263 : ML RX10 263 yX10_readAll := Or.inl (gw_t 1415 (by decide +kernel) rfl)
theorem ml_RX10_268 : ML RX10 268 yX10_asTold := Or.inl (gw_t 1516 (by decide +kernel) rfl)
theorem ml_RX10_271 : ML RX10 271 yX10_remains := Or.inl (gw_t 1520 (by decide +kernel) rfl)
theorem ml_RX10_280 : ML RX10 280 yX10_bit := Or.inl (gw_t 1556 (by decide +kernel) rfl)
theorem ml_RX10_296 : ML RX10 296 yX9_reads := Or.inl (gw_t 1544 (by decide +kernel) rfl)
theorem ml_RX10_299 : ML RX10 299 yX10_guessed := Or.inl (gw_t 1548 (by decide +kernel) rfl)
theorem ml_RX10_302 : ML RX10 302 yX10_setBy := Or.inl (gw_t 1552 (by decide +kernel) rfl)
theorem ml_RX10_305 : ML RX10 305 yX10_comes := Or.inl (gw_t 1559 (by decide +kernel) rfl)
theorem ml_RX10_309 : ML RX10 309 yX10_plainly := Or.inl (gw_t 1540 (by decide +kernel) rfl)
theorem ml_RX10_312 : ML RX10 312 yX10_plainlyDone := Or.inl (gw_t 1570 (by decide +kernel) rfl)
theorem ml_RX10_316 : ML RX10 316 yX10_at := Or.inl (gw_t 1602 (by decide +kernel) rfl)
theorem ml_RX10_319 : ML RX10 319 yX10_registerOf := Or.inl (gw_t 1614 (by decide +kernel) rfl)
theorem ml_RX10_322 : ML RX10 322 yX10_has := Or.inl (gw_t 1606 (by decide +kernel) rfl)
theorem ml_RX10_325 : ML RX10 325 yX10_kindOf := Or.inl (gw_t 1622 (by decide +kernel) rfl)
theorem ml_RX10_328 : ML RX10 328 yX10_reads := Or.inl (gw_t 1610 (by decide +kernel) rfl)
theorem ml_RX10_330 : ML RX10 330 yX10_isSure := Or.inl (gw_t 1618 (by decide +kernel) rfl)
theorem ml_RX10_333 : ML RX10 333 yX10_isLetGo := Or.inl (gw_t 1598 (by decide +kernel) rfl)
theorem ml_RX10_336 : ML RX10 336 yX10_letGoNow := Or.inl (gw_t 1642 (by decide +kernel) rfl)
theorem ml_RX10_339 : ML RX10 339 yX10_holders := Or.inl (gw_t 1658 (by decide +kernel) rfl)
theorem ml_RX10_342 : ML RX10 342 yX10_freeNow := Or.inl (gw_t 1670 (by decide +kernel) rfl)
theorem ml_RX10_345 : ML RX10 345 yX10_mapOf := Or.inl (gw_t 1634 (by decide +kernel) rfl)
theorem ml_RX10_348 : ML RX10 348 yX10_isMerging := Or.inl (gw_t 1710 (by decide +kernel) rfl)
theorem ml_RX10_351 : ML RX10 351 yX10_lowestFree := Or.inl (gw_t 1714 (by decide +kernel) rfl)
theorem ml_RX10_354 : ML RX10 354 yX10_savesNow := Or.inl (gw_t 1773 (by decide +kernel) rfl)
theorem ml_RX10_357 : ML RX10 357 yX10_isReady := Or.inl (gw_t 1654 (by decide +kernel) rfl)
theorem ml_RX10_363 : ML RX10 363 yX10_isRegister := Or.inl (gw_t 1586 (by decide +kernel) rfl)
theorem ml_RX10_366 : ML RX10 366 yX10_works := Or.inl (gw_t 1590 (by decide +kernel) rfl)
theorem ml_RX10_369 : ML RX10 369 yX10_valueOf := Or.inl (gw_t 1594 (by decide +kernel) rfl)
theorem ml_RX10_372 : ML RX10 372 yX10_isCell := Or.inl (gw_t 1650 (by decide +kernel) rfl)
theorem ml_RX10_375 : ML RX10 375 yX10_waitingFor := Or.inl (gw_t 1662 (by decide +kernel) rfl)
theorem ml_RX10_378 : ML RX10 378 yX10_isEntry := Or.inl (gw_t 1686 (by decide +kernel) rfl)
theorem ml_RX10_381 : ML RX10 381 yX10_isRunnable := Or.inl (gw_t 1694 (by decide +kernel) rfl)
theorem ml_RX10_384 : ML RX10 384 yX10_whyNoFetch := Or.inl (gw_t 1706 (by decide +kernel) rfl)
theorem ml_RX10_387 : ML RX10 387 yX10_whyNoCommit := Or.inl (gw_t 1722 (by decide +kernel) rfl)
theorem ml_RX10_390 : ML RX10 390 yX10_bits := Or.inl (gw_t 1738 (by decide +kernel) rfl)
theorem ml_RX10_393 : ML RX10 393 yX10_commitsOne := Or.inl (gw_t 1761 (by decide +kernel) rfl)
theorem ml_RX10_396 : ML RX10 396 yX10_runsOne := Or.inl (gw_t 1765 (by decide +kernel) rfl)
theorem ml_RX10_402 : ML RX10 402 yX10_fetches := Or.inl (gw_t 1769 (by decide +kernel) rfl)
theorem ml_RX10_411 : ML RX10 411 yX10_cycle := Or.inl (gw_t 1757 (by decide +kernel) rfl)
theorem ml_RX10_414 : ML RX10 414 yX10_refusesCells := Or.inl (gw_t 1749 (by decide +kernel) rfl)
theorem ml_RX10_417 : ML RX10 417 yX10_goes := Or.inl (gw_t 1753 (by decide +kernel) rfl)
theorem ml_RX10_420 : ML RX10 420 yX10_fraction := Or.inl (gw_t 1797 (by decide +kernel) rfl)
theorem ml_RX10_433 : ML RX10 433 yX10_wrongGot := Or.inl (gw_t 1812 (by decide +kernel) rfl)
theorem ml_RX10_436 : ML RX10 436 yX10_fitting := Or.inl (gw_t 1808 (by decide +kernel) rfl)
theorem ml_RX10_442 : ML RX10 442 yX10_asks := Or.inl (gw_t 1832 (by decide +kernel) rfl)
theorem ml_RX10_457 : ML RX10 457 yX10_draws := Or.inl (gw_t 1857 (by decide +kernel) rfl)
theorem ml_RX10_461 : ML RX10 461 yX10_refusesDraw := Or.inl (gw_t 1848 (by decide +kernel) rfl)
theorem ml_RX10_465 : ML RX10 465 yX10_tries := Or.inl (gw_t 1853 (by decide +kernel) rfl)
theorem ml_RX10_468 : ML RX10 468 yX10_remembers := Or.inl (gw_t 1872 (by decide +kernel) rfl)
theorem ml_RX10_471 : ML RX10 471 yX10_done := Or.inl (gw_t 1876 (by decide +kernel) rfl)
theorem ml_RX10_474 : ML RX10 474 yX10_denied := Or.inl (gw_t 1892 (by decide +kernel) rfl)
theorem ml_RX10_477 : ML RX10 477 yX10_granted := Or.inl (gw_t 1896 (by decide +kernel) rfl)
theorem ml_RX10_480 : ML RX10 480 yX10_savesThere := Or.inl (gw_t 1920 (by decide +kernel) rfl)
theorem ml_RX2_20 : ML RX2 20 yX3_init := Or.inl (gw_t 282 (by decide +kernel) rfl)
theorem ml_RX2_33 : ML RX2 33 yX3_copyFrom := Or.inl (gw_t 1058 (by decide +kernel) rfl)
theorem ml_RX3_38 : ML RX3 38 yJ7_fill_53178 := Or.inl (gw_t 604 (by decide +kernel) rfl)
theorem ml_RX3_50 : ML RX3 50 yX3_keepOldest := Or.inl (gw_t 607 (by decide +kernel) rfl)
theorem ml_RX3_96 : ML RX3 96 yJ6_numberOfTrailingZeros_0f7a4 := Or.inl (gw_t 712 (by decide +kernel) rfl)
theorem ml_RX3_102 : ML RX3 102 yX3_sureOnes := Or.inl (gw_t 708 (by decide +kernel) rfl)
theorem ml_RX3_109 : ML RX3 109 yX3_bitOf := Or.inl (gw_t 716 (by decide +kernel) rfl)
theorem ml_RX3_112 : ML RX3 112 yX3_isDone := Or.inl (gw_t 719 (by decide +kernel) rfl)
theorem ml_RX3_116 : ML RX3 116 yX3_letGoBits := Or.inl (gw_t 704 (by decide +kernel) rfl)
theorem ml_RX3_119 : ML RX3 119 yX3_canWork := Or.inl (gw_t 884 (by decide +kernel) rfl)
theorem ml_RX3_122 : ML RX3 122 yX5_has := Or.inl (gw_t 809 (by decide +kernel) rfl)
theorem ml_RX3_131 : ML RX3 131 yX3_mergesNext := Or.inl (gw_t 810 (by decide +kernel) rfl)
theorem ml_RX3_135 : ML RX3 135 yX3_freeBits := Or.inl (gw_t 816 (by decide +kernel) rfl)
theorem ml_RX3_141 : ML RX3 141 yX3_mapBy := Or.inl (gw_t 814 (by decide +kernel) rfl)
theorem ml_RX3_145 : ML RX3 145 yX3_holdersBut := Or.inl (gw_t 815 (by decide +kernel) rfl)
theorem ml_RX3_151 : ML RX3 151 yX3_cellToRead := Or.inl (gw_t 913 (by decide +kernel) rfl)
theorem ml_RX3_157 : ML RX3 157 yX3_saveIfRoom := Or.inl (gw_t 917 (by decide +kernel) rfl)
theorem ml_RX3_160 : ML RX3 160 yX3_claim := Or.inl (gw_t 922 (by decide +kernel) rfl)
theorem ml_RX3_163 : ML RX3 163 yX5_isRisky := Or.inl (gw_t 926 (by decide +kernel) rfl)
theorem ml_RX3_166 : ML RX3 166 yX5_guessBehind := Or.inl (gw_t 898 (by decide +kernel) rfl)
theorem ml_RX3_169 : ML RX3 169 yX8_isRegister := Or.inr ⟨"RenamedCells", nw_t 872 (by decide +kernel) rfl⟩
theorem ml_RX3_172 : ML RX3 172 yJ6_bitCount_0f7a4 := Or.inl (gw_t 921 (by decide +kernel) rfl)
theorem ml_RX3_178 : ML RX3 178 yX3_canRead := Or.inl (gw_t 792 (by decide +kernel) rfl)
theorem ml_RX3_181 : ML RX3 181 yX3_isReady := Or.inl (gw_t 796 (by decide +kernel) rfl)
theorem ml_RX3_184 : ML RX3 184 yX3_nextOf := Or.inl (gw_t 889 (by decide +kernel) rfl)
theorem ml_RX3_187 : ML RX3 187 yX3_valueRead := Or.inl (gw_t 893 (by decide +kernel) rfl)
theorem ml_RX3_190 : ML RX3 190 yX5_nextBehind := Or.inl (gw_t 897 (by decide +kernel) rfl)
theorem ml_RX3_194 : ML RX3 194 yX3_workSkip := Or.inl (gw_t 903 (by decide +kernel) rfl)
theorem ml_RX3_197 : ML RX3 197 yX5_outcome := Or.inl (gw_t 907 (by decide +kernel) rfl)
theorem ml_RX3_200 : ML RX3 200 yX3_dropOldest := Or.inl (gw_t 873 (by decide +kernel) rfl)
theorem ml_RX4_15 : ML RX4 15 yJ7_fill_53178 := Or.inl (gw_t 628 (by decide +kernel) rfl)
theorem ml_RX4_35 : ML RX4 35 yX5_has := Or.inl (gw_t 629 (by decide +kernel) rfl)
theorem ml_RX4_41 : ML RX4 41 yX4_playStep := Or.inl (gw_t 630 (by decide +kernel) rfl)
theorem ml_RX4_48 : ML RX4 48 yX4_read := Or.inl (gw_t 634 (by decide +kernel) rfl)
theorem ml_RX4_58 : ML RX4 58 yX5_nextBehind := Or.inl (gw_t 641 (by decide +kernel) rfl)
theorem ml_RX4_62 : ML RX4 62 yX5_guessBehind := Or.inl (gw_t 645 (by decide +kernel) rfl)
theorem ml_RX4_65 : ML RX4 65 yX5_numberBy := Or.inl (gw_t 649 (by decide +kernel) rfl)
theorem ml_RX4_69 : ML RX4 69 yX5_outcome := Or.inl (gw_t 653 (by decide +kernel) rfl)
theorem ml_RX4_75 : ML RX4 75 yX8_isRegister := Or.inr ⟨"RenamedCells", nw_t 638 (by decide +kernel) rfl⟩
theorem ml_RX6_17 : ML RX6 17 yX7_init := Or.inr ⟨"RenamedCells", nw_t 141 (by decide +kernel) rfl⟩
theorem ml_RX6_32 : ML RX6 32 yX7_part := Or.inl (gw_t 432 (by decide +kernel) rfl)
theorem ml_RX6_46 : ML RX6 46 yX5_clear := Or.inl (gw_t 451 (by decide +kernel) rfl)
theorem ml_RX6_51 : ML RX6 51 yX6_readLine := Or.inl (gw_t 455 (by decide +kernel) rfl)
theorem ml_RX6_62 : ML RX6 62 yX6_fails := Or.inl (gw_t 524 (by decide +kernel) rfl)
theorem ml_RX6_65 : ML RX6 65 yX6_advance := Or.inl (gw_t 532 (by decide +kernel) rfl)
theorem ml_RX6_74 : ML RX6 74 yX6_sortOfLine := Or.inl (gw_t 459 (by decide +kernel) rfl)
theorem ml_RX6_78 : ML RX6 78 yX6_readCore := Or.inl (gw_t 528 (by decide +kernel) rfl)
theorem ml_RX6_85 : ML RX6 85 yX6_readUnsure := Or.inl (gw_t 554 (by decide +kernel) rfl)
theorem ml_RX6_91 : ML RX6 91 yX6_readGot := Or.inl (gw_t 570 (by decide +kernel) rfl)
theorem ml_RX6_94 : ML RX6 94 yX6_readSkip := Or.inl (gw_t 578 (by decide +kernel) rfl)
theorem ml_RX6_97 : ML RX6 97 yX6_readChange := Or.inl (gw_t 592 (by decide +kernel) rfl)
theorem ml_RX6_102 : ML RX6 102 yX6_isWord := Or.inl (gw_t 464 (by decide +kernel) rfl)
theorem ml_RX6_124 : ML RX6 124 yX6_takesWord := Or.inl (gw_t 537 (by decide +kernel) rfl)
theorem ml_RX6_127 : ML RX6 127 yX6_takesWhole := Or.inl (gw_t 541 (by decide +kernel) rfl)
theorem ml_RX6_155 : ML RX6 155 yX5_emptyStep := Or.inl (gw_t 582 (by decide +kernel) rfl)
theorem ml_RX6_159 : ML RX6 159 yX6_takesPair := Or.inl (gw_t 586 (by decide +kernel) rfl)
theorem ml_RX6_182 : ML RX6 182 yX5_has := Or.inl (gw_t 558 (by decide +kernel) rfl)
theorem ml_RX6_191 : ML RX6 191 yX6_failsAt := Or.inl (gw_t 562 (by decide +kernel) rfl)
theorem ml_RX6_194 : ML RX6 194 yX5_isUnsure := Or.inl (gw_t 566 (by decide +kernel) rfl)
theorem ml_RX6_203 : ML RX6 203 yX5_isGot := Or.inl (gw_t 574 (by decide +kernel) rfl)
theorem ml_RX6_212 : ML RX6 212 yX6_wholeHere := Or.inl (gw_t 545 (by decide +kernel) rfl)
theorem ml_RX6_218 : ML RX6 218 yJ0_length_8abf5 := Or.inl (gw_t 468 (by decide +kernel) rfl)
theorem ml_RX6_223 : ML RX6 223 yJ0_charAt_5068e := Or.inl (gw_t 478 (by decide +kernel) rfl)
theorem ml_RX7_21 : ML RX7 21 yX7_pastBlanks := Or.inl (gw_t 436 (by decide +kernel) rfl)
theorem ml_RX7_25 : ML RX7 25 yX7_runEnd := Or.inl (gw_t 439 (by decide +kernel) rfl)
theorem ml_RX7_28 : ML RX7 28 yX7_sortOf := Or.inl (gw_t 448 (by decide +kernel) rfl)
theorem ml_RX7_36 : ML RX7 36 yX7_isLetter := Or.inl (gw_t 442 (by decide +kernel) rfl)
theorem ml_RX7_40 : ML RX7 40 yX7_isDigit := Or.inl (gw_t 445 (by decide +kernel) rfl)
theorem ml_RX8_15 : ML RX8 15 yX5_init := Or.inr ⟨"RenamedCells", nw_t 34 (by decide +kernel) rfl⟩
theorem ml_RX8_25 : ML RX8 25 yX6_init := Or.inl (gw_t 135 (by decide +kernel) rfl)
theorem ml_RX8_34 : ML RX8 34 yX3_init := Or.inl (gw_t 191 (by decide +kernel) rfl)
theorem ml_RX8_44 : ML RX8 44 yX2_init := Or.inl (gw_t 276 (by decide +kernel) rfl)
theorem ml_RX8_51 : ML RX8 51 yX4_init := Or.inr ⟨"RenamedCells", nw_t 303 (by decide +kernel) rfl⟩
theorem ml_RX8_58 : ML RX8 58 yX0_init := Or.inl (gw_t 330 (by decide +kernel) rfl)
theorem ml_RX8_65 : ML RX8 65 yX1_init := Or.inr ⟨"RenamedCells", nw_t 358 (by decide +kernel) rfl⟩
theorem ml_RX8_81 : ML RX8 81 yX8_putBytes := Or.inl (gw_t 413 (by decide +kernel) rfl)
theorem ml_RX8_85 : ML RX8 85 yX8_refused := Or.inl (gw_t 421 (by decide +kernel) rfl)
theorem ml_RX8_89 : ML RX8 89 yX6_reads := Or.inl (gw_t 425 (by decide +kernel) rfl)
theorem ml_RX8_93 : ML RX8 93 yX8_beginWithDraft := Or.inl (gw_t 596 (by decide +kernel) rfl)
theorem ml_RX8_102 : ML RX8 102 yX3_begin := Or.inl (gw_t 600 (by decide +kernel) rfl)
theorem ml_RX8_106 : ML RX8 106 yX2_forget := Or.inl (gw_t 611 (by decide +kernel) rfl)
theorem ml_RX8_109 : ML RX8 109 yX0_forget := Or.inl (gw_t 615 (by decide +kernel) rfl)
theorem ml_RX8_110 : ML RX8 110 yX1_find := Or.inl (gw_t 620 (by decide +kernel) rfl)
theorem ml_RX8_120 : ML RX8 120 yX8_plainTotal := Or.inl (gw_t 673 (by decide +kernel) rfl)
theorem ml_RX8_124 : ML RX8 124 yX4_play := Or.inl (gw_t 677 (by decide +kernel) rfl)
theorem ml_RX8_137 : ML RX8 137 yX5_has := Or.inl (gw_t 682 (by decide +kernel) rfl)
theorem ml_RX8_141 : ML RX8 141 yX8_isRegister := Or.inl (gw_t 687 (by decide +kernel) rfl)
theorem ml_RX8_151 : ML RX8 151 yX3_keptValue := Or.inl (gw_t 700 (by decide +kernel) rfl)
theorem ml_RX8_161 : ML RX8 161 yX3_mapBy := Or.inl (gw_t 731 (by decide +kernel) rfl)
theorem ml_RX8_165 : ML RX8 165 yX3_letGoBits := Or.inl (gw_t 739 (by decide +kernel) rfl)
theorem ml_RX8_168 : ML RX8 168 yX3_isReady := Or.inl (gw_t 744 (by decide +kernel) rfl)
theorem ml_RX8_174 : ML RX8 174 yX3_holdersBut := Or.inl (gw_t 748 (by decide +kernel) rfl)
theorem ml_RX8_177 : ML RX8 177 yX3_waitersFor := Or.inl (gw_t 752 (by decide +kernel) rfl)
theorem ml_RX8_180 : ML RX8 180 yX3_freeBits := Or.inl (gw_t 760 (by decide +kernel) rfl)
theorem ml_RX8_186 : ML RX8 186 yX8_isEntry := Or.inl (gw_t 776 (by decide +kernel) rfl)
theorem ml_RX8_213 : ML RX8 213 yX3_isSure := Or.inl (gw_t 780 (by decide +kernel) rfl)
theorem ml_RX8_216 : ML RX8 216 yX3_canWork := Or.inl (gw_t 788 (by decide +kernel) rfl)
theorem ml_RX8_220 : ML RX8 220 yX3_whyNotTake := Or.inl (gw_t 805 (by decide +kernel) rfl)
theorem ml_RX8_223 : ML RX8 223 yX3_whyNotRetire := Or.inl (gw_t 821 (by decide +kernel) rfl)
theorem ml_RX8_226 : ML RX8 226 yJ6_bitCount_0f7a4 := Or.inl (gw_t 837 (by decide +kernel) rfl)
theorem ml_RX8_237 : ML RX8 237 yX8_isCells := Or.inl (gw_t 851 (by decide +kernel) rfl)
theorem ml_RX8_243 : ML RX8 243 yX0_slotOf := Or.inl (gw_t 854 (by decide +kernel) rfl)
theorem ml_RX8_256 : ML RX8 256 yX8_commonDivisor := Or.inl (gw_t 956 (by decide +kernel) rfl)
theorem ml_RX8_259 : ML RX8 259 yX1_howMany := Or.inl (gw_t 963 (by decide +kernel) rfl)
theorem ml_RX8_262 : ML RX8 262 yX1_nth := Or.inl (gw_t 972 (by decide +kernel) rfl)
theorem ml_RX8_265 : ML RX8 265 yX1_inSome := Or.inl (gw_t 984 (by decide +kernel) rfl)
theorem ml_RX8_268 : ML RX8 268 yX1_inAll := Or.inl (gw_t 992 (by decide +kernel) rfl)
theorem ml_RX8_271 : ML RX8 271 yX1_bestQuestion := Or.inl (gw_t 1000 (by decide +kernel) rfl)
theorem ml_RX8_274 : ML RX8 274 yX1_leftBy := Or.inl (gw_t 1014 (by decide +kernel) rfl)
theorem ml_RX8_277 : ML RX8 277 yX4_firstNotGot := Or.inl (gw_t 1019 (by decide +kernel) rfl)
theorem ml_RX8_281 : ML RX8 281 yX8_isDraw := Or.inl (gw_t 1024 (by decide +kernel) rfl)
theorem ml_RX8_285 : ML RX8 285 yX8_drawTries := Or.inl (gw_t 1028 (by decide +kernel) rfl)
theorem ml_RX8_290 : ML RX8 290 yX3_copyFrom := Or.inl (gw_t 1032 (by decide +kernel) rfl)
theorem ml_RX8_294 : ML RX8 294 yX8_nextSeed := Or.inl (gw_t 1036 (by decide +kernel) rfl)
theorem ml_RX8_297 : ML RX8 297 yX3_take := Or.inl (gw_t 1039 (by decide +kernel) rfl)
theorem ml_RX8_300 : ML RX8 300 yX8_workIfPossible := Or.inl (gw_t 1040 (by decide +kernel) rfl)
theorem ml_RX8_303 : ML RX8 303 yX3_retire := Or.inl (gw_t 1045 (by decide +kernel) rfl)
theorem ml_RX8_306 : ML RX8 306 yX3_work := Or.inl (gw_t 1044 (by decide +kernel) rfl)
theorem ml_RX8_309 : ML RX8 309 yX2_keep := Or.inl (gw_t 1054 (by decide +kernel) rfl)
theorem ml_RX8_315 : ML RX8 315 yX3_goOnAt := Or.inl (gw_t 1072 (by decide +kernel) rfl)
theorem ml_RX8_321 : ML RX8 321 yX2_takeBack := Or.inl (gw_t 1080 (by decide +kernel) rfl)
theorem ml_RX8_327 : ML RX8 327 yX2_picture := Or.inl (gw_t 1088 (by decide +kernel) rfl)
theorem ml_RX8_331 : ML RX8 331 yX2_returnTo := Or.inl (gw_t 1096 (by decide +kernel) rfl)
theorem ml_RX8_341 : ML RX8 341 yX8_sizeOfText := Or.inl (gw_t 1104 (by decide +kernel) rfl)
theorem ml_RX8_344 : ML RX8 344 yX8_sizeOfState := Or.inl (gw_t 1108 (by decide +kernel) rfl)
