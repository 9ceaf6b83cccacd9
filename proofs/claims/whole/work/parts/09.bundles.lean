theorem lc_0 : Int64.ofNat ((0 : Fin 2) : Nat) = 0 := by decide
theorem lc_1 : Int64.ofNat ((1 : Fin 2) : Nat) = 1 := by decide
theorem kb_m9 : (Int8.ofInt (-9)).toInt32 = (-9) := by decide
theorem kb_m2 : (Int8.ofInt (-2)).toInt32 = (-2) := by decide
theorem kb_6 : (Int8.ofInt 6).toInt32 = 6 := by decide
theorem kb_7 : (Int8.ofInt 7).toInt32 = 7 := by decide
theorem kb_8 : (Int8.ofInt 8).toInt32 = 8 := by decide
theorem kb_9 : (Int8.ofInt 9).toInt32 = 9 := by decide
theorem kb_10 : (Int8.ofInt 10).toInt32 = 10 := by decide
theorem kb_12 : (Int8.ofInt 12).toInt32 = 12 := by decide
theorem kb_13 : (Int8.ofInt 13).toInt32 = 13 := by decide
theorem kb_16 : (Int8.ofInt 16).toInt32 = 16 := by decide
theorem kb_20 : (Int8.ofInt 20).toInt32 = 20 := by decide
theorem kb_23 : (Int8.ofInt 23).toInt32 = 23 := by decide
theorem kb_24 : (Int8.ofInt 24).toInt32 = 24 := by decide
theorem kb_32 : (Int8.ofInt 32).toInt32 = 32 := by decide
theorem kb_33 : (Int8.ofInt 33).toInt32 = 33 := by decide
theorem kb_34 : (Int8.ofInt 34).toInt32 = 34 := by decide
theorem kb_35 : (Int8.ofInt 35).toInt32 = 35 := by decide
theorem kb_36 : (Int8.ofInt 36).toInt32 = 36 := by decide
theorem kb_37 : (Int8.ofInt 37).toInt32 = 37 := by decide
theorem kb_38 : (Int8.ofInt 38).toInt32 = 38 := by decide
theorem kb_39 : (Int8.ofInt 39).toInt32 = 39 := by decide
theorem kb_48 : (Int8.ofInt 48).toInt32 = 48 := by decide
theorem kb_57 : (Int8.ofInt 57).toInt32 = 57 := by decide
theorem kb_59 : (Int8.ofInt 59).toInt32 = 59 := by decide
theorem kb_63 : (Int8.ofInt 63).toInt32 = 63 := by decide
theorem kb_74 : (Int8.ofInt 74).toInt32 = 74 := by decide
theorem kb_75 : (Int8.ofInt 75).toInt32 = 75 := by decide
theorem kb_97 : (Int8.ofInt 97).toInt32 = 97 := by decide
theorem kb_122 : (Int8.ofInt 122).toInt32 = 122 := by decide
theorem kc_m8 : Int32.ofInt (-8) = (-8) := by decide
theorem kc_m1 : Int32.ofInt (-1) = (-1) := by decide
theorem kc_0 : Int32.ofInt 0 = 0 := by decide
theorem kc_1 : Int32.ofInt 1 = 1 := by decide
theorem kc_2 : Int32.ofInt 2 = 2 := by decide
theorem kc_3 : Int32.ofInt 3 = 3 := by decide
theorem kc_4 : Int32.ofInt 4 = 4 := by decide
theorem kc_5 : Int32.ofInt 5 = 5 := by decide
theorem kc_8 : Int32.ofInt 8 = 8 := by decide
theorem kc_16 : Int32.ofInt 16 = 16 := by decide
theorem ks_182 : (Int16.ofInt 182).toInt32 = 182 := by decide
theorem ks_195 : (Int16.ofInt 195).toInt32 = 195 := by decide
theorem ks_200 : (Int16.ofInt 200).toInt32 = 200 := by decide
theorem ks_255 : (Int16.ofInt 255).toInt32 = 255 := by decide
theorem ks_256 : (Int16.ofInt 256).toInt32 = 256 := by decide
theorem ks_300 : (Int16.ofInt 300).toInt32 = 300 := by decide
theorem ks_585 : (Int16.ofInt 585).toInt32 = 585 := by decide
theorem ks_900 : (Int16.ofInt 900).toInt32 = 900 := by decide
theorem ks_901 : (Int16.ofInt 901).toInt32 = 901 := by decide
theorem ks_2925 : (Int16.ofInt 2925).toInt32 = 2925 := by decide
theorem ks_3120 : (Int16.ofInt 3120).toInt32 = 3120 := by decide
theorem ks_9999 : (Int16.ofInt 9999).toInt32 = 9999 := by decide
theorem ks_10000 : (Int16.ofInt 10000).toInt32 = 10000 := by decide
set_option maxRecDepth 100000 in
theorem cc0 : CCk 0 RX0 TX0 5 tyX0 := ⟨rfl, rfl, by decide, (List.forall_mem_cons.mpr ⟨tw_345, (List.forall_mem_cons.mpr ⟨tw_347, (List.forall_mem_cons.mpr ⟨tw_349, (List.forall_mem_cons.mpr ⟨tw_351, (List.forall_mem_cons.mpr ⟨tw_353, (fun w h => absurd h List.not_mem_nil)⟩)⟩)⟩)⟩)⟩), tyX0_ok, nmX0, tw_329, tw_8, by decide +kernel⟩
set_option maxRecDepth 100000 in
theorem cc1 : CCk 1 RX1 TX1 2 tyX1 := ⟨rfl, rfl, by decide, (List.forall_mem_cons.mpr ⟨tw_364, (List.forall_mem_cons.mpr ⟨tw_366, (fun w h => absurd h List.not_mem_nil)⟩)⟩), tyX1_ok, nmX1, tw_357, tw_9, by decide +kernel⟩
set_option maxRecDepth 100000 in
theorem cc2 : CCk 2 RX2 TX2 5 tyX2 := ⟨rfl, rfl, by decide, (List.forall_mem_cons.mpr ⟨tw_290, (List.forall_mem_cons.mpr ⟨tw_292, (List.forall_mem_cons.mpr ⟨tw_294, (List.forall_mem_cons.mpr ⟨tw_296, (List.forall_mem_cons.mpr ⟨tw_298, (fun w h => absurd h List.not_mem_nil)⟩)⟩)⟩)⟩)⟩), tyX2_ok, nmX2, tw_275, tw_6, by decide +kernel⟩
set_option maxRecDepth 100000 in
theorem cc3 : CCk 3 RX3 TX3 20 tyX3 := ⟨rfl, rfl, by decide, (List.forall_mem_cons.mpr ⟨tw_233, (List.forall_mem_cons.mpr ⟨tw_235, (List.forall_mem_cons.mpr ⟨tw_237, (List.forall_mem_cons.mpr ⟨tw_239, (List.forall_mem_cons.mpr ⟨tw_241, (List.forall_mem_cons.mpr ⟨tw_243, (List.forall_mem_cons.mpr ⟨tw_245, (List.forall_mem_cons.mpr ⟨tw_247, (List.forall_mem_cons.mpr ⟨tw_249, (List.forall_mem_cons.mpr ⟨tw_251, (List.forall_mem_cons.mpr ⟨tw_253, (List.forall_mem_cons.mpr ⟨tw_255, (List.forall_mem_cons.mpr ⟨tw_257, (List.forall_mem_cons.mpr ⟨tw_259, (List.forall_mem_cons.mpr ⟨tw_261, (List.forall_mem_cons.mpr ⟨tw_263, (List.forall_mem_cons.mpr ⟨tw_265, (List.forall_mem_cons.mpr ⟨tw_267, (List.forall_mem_cons.mpr ⟨tw_269, (List.forall_mem_cons.mpr ⟨tw_271, (fun w h => absurd h List.not_mem_nil)⟩)⟩)⟩)⟩)⟩)⟩)⟩)⟩)⟩)⟩)⟩)⟩)⟩)⟩)⟩)⟩)⟩)⟩)⟩)⟩), tyX3_ok, nmX3, tw_190, tw_5, by decide +kernel⟩
set_option maxRecDepth 100000 in
theorem cc4 : CCk 4 RX4 TX4 5 tyX4 := ⟨rfl, rfl, by decide, (List.forall_mem_cons.mpr ⟨tw_317, (List.forall_mem_cons.mpr ⟨tw_319, (List.forall_mem_cons.mpr ⟨tw_321, (List.forall_mem_cons.mpr ⟨tw_323, (List.forall_mem_cons.mpr ⟨tw_325, (fun w h => absurd h List.not_mem_nil)⟩)⟩)⟩)⟩)⟩), tyX4_ok, nmX4, tw_302, tw_7, by decide +kernel⟩
set_option maxRecDepth 100000 in
theorem cc5 : CCk 5 RX5 TX5 18 tyX5 := ⟨rfl, rfl, by decide, (List.forall_mem_cons.mpr ⟨tw_93, (List.forall_mem_cons.mpr ⟨tw_95, (List.forall_mem_cons.mpr ⟨tw_97, (List.forall_mem_cons.mpr ⟨tw_99, (List.forall_mem_cons.mpr ⟨tw_101, (List.forall_mem_cons.mpr ⟨tw_103, (List.forall_mem_cons.mpr ⟨tw_105, (List.forall_mem_cons.mpr ⟨tw_107, (List.forall_mem_cons.mpr ⟨tw_109, (List.forall_mem_cons.mpr ⟨tw_111, (List.forall_mem_cons.mpr ⟨tw_113, (List.forall_mem_cons.mpr ⟨tw_115, (List.forall_mem_cons.mpr ⟨tw_117, (List.forall_mem_cons.mpr ⟨tw_119, (List.forall_mem_cons.mpr ⟨tw_121, (List.forall_mem_cons.mpr ⟨tw_123, (List.forall_mem_cons.mpr ⟨tw_125, (List.forall_mem_cons.mpr ⟨tw_127, (fun w h => absurd h List.not_mem_nil)⟩)⟩)⟩)⟩)⟩)⟩)⟩)⟩)⟩)⟩)⟩)⟩)⟩)⟩)⟩)⟩)⟩)⟩), tyX5_ok, nmX5, tw_33, tw_2, by decide +kernel⟩
set_option maxRecDepth 100000 in
theorem cc6 : CCk 6 RX6 TX6 8 tyX6 := ⟨rfl, rfl, by decide, (List.forall_mem_cons.mpr ⟨tw_172, (List.forall_mem_cons.mpr ⟨tw_174, (List.forall_mem_cons.mpr ⟨tw_176, (List.forall_mem_cons.mpr ⟨tw_178, (List.forall_mem_cons.mpr ⟨tw_180, (List.forall_mem_cons.mpr ⟨tw_182, (List.forall_mem_cons.mpr ⟨tw_184, (List.forall_mem_cons.mpr ⟨tw_186, (fun w h => absurd h List.not_mem_nil)⟩)⟩)⟩)⟩)⟩)⟩)⟩)⟩), tyX6_ok, nmX6, tw_134, tw_3, by decide +kernel⟩
set_option maxRecDepth 100000 in
theorem cc7 : CCk 7 RX7 TX7 4 tyX7 := ⟨rfl, rfl, by decide, (List.forall_mem_cons.mpr ⟨tw_153, (List.forall_mem_cons.mpr ⟨tw_155, (List.forall_mem_cons.mpr ⟨tw_157, (List.forall_mem_cons.mpr ⟨tw_159, (fun w h => absurd h List.not_mem_nil)⟩)⟩)⟩)⟩), tyX7_ok, nmX7, tw_140, tw_4, by decide +kernel⟩
set_option maxRecDepth 100000 in
theorem cc8 : CCk 8 RX8 TX8 13 tyX8 := ⟨rfl, rfl, by decide, (List.forall_mem_cons.mpr ⟨tw_382, (List.forall_mem_cons.mpr ⟨tw_384, (List.forall_mem_cons.mpr ⟨tw_386, (List.forall_mem_cons.mpr ⟨tw_388, (List.forall_mem_cons.mpr ⟨tw_390, (List.forall_mem_cons.mpr ⟨tw_392, (List.forall_mem_cons.mpr ⟨tw_394, (List.forall_mem_cons.mpr ⟨tw_396, (List.forall_mem_cons.mpr ⟨tw_398, (List.forall_mem_cons.mpr ⟨tw_400, (List.forall_mem_cons.mpr ⟨tw_402, (List.forall_mem_cons.mpr ⟨tw_404, (List.forall_mem_cons.mpr ⟨tw_406, (fun w h => absurd h List.not_mem_nil)⟩)⟩)⟩)⟩)⟩)⟩)⟩)⟩)⟩)⟩)⟩)⟩)⟩), tyX8_ok, nmX8, tw_25, tw_1, by decide +kernel⟩
set_option maxRecDepth 100000 in
theorem cc9 : CCk 9 RX9 TX9 18 tyX9 := ⟨rfl, rfl, by decide, (List.forall_mem_cons.mpr ⟨tw_1363, (List.forall_mem_cons.mpr ⟨tw_1365, (List.forall_mem_cons.mpr ⟨tw_1367, (List.forall_mem_cons.mpr ⟨tw_1369, (List.forall_mem_cons.mpr ⟨tw_1371, (List.forall_mem_cons.mpr ⟨tw_1373, (List.forall_mem_cons.mpr ⟨tw_1375, (List.forall_mem_cons.mpr ⟨tw_1377, (List.forall_mem_cons.mpr ⟨tw_1379, (List.forall_mem_cons.mpr ⟨tw_1381, (List.forall_mem_cons.mpr ⟨tw_1383, (List.forall_mem_cons.mpr ⟨tw_1385, (List.forall_mem_cons.mpr ⟨tw_1387, (List.forall_mem_cons.mpr ⟨tw_1389, (List.forall_mem_cons.mpr ⟨tw_1391, (List.forall_mem_cons.mpr ⟨tw_1393, (List.forall_mem_cons.mpr ⟨tw_1395, (List.forall_mem_cons.mpr ⟨tw_1397, (fun w h => absurd h List.not_mem_nil)⟩)⟩)⟩)⟩)⟩)⟩)⟩)⟩)⟩)⟩)⟩)⟩)⟩)⟩)⟩)⟩)⟩)⟩), tyX9_ok, nmX9, tw_1327, tw_17, by decide +kernel⟩
set_option maxRecDepth 100000 in
theorem cc10 : CCk 10 RX10 TX10 38 tyX10 := ⟨rfl, rfl, by decide, (List.forall_mem_cons.mpr ⟨tw_1233, (List.forall_mem_cons.mpr ⟨tw_1235, (List.forall_mem_cons.mpr ⟨tw_1237, (List.forall_mem_cons.mpr ⟨tw_1239, (List.forall_mem_cons.mpr ⟨tw_1241, (List.forall_mem_cons.mpr ⟨tw_1243, (List.forall_mem_cons.mpr ⟨tw_1245, (List.forall_mem_cons.mpr ⟨tw_1247, (List.forall_mem_cons.mpr ⟨tw_1249, (List.forall_mem_cons.mpr ⟨tw_1251, (List.forall_mem_cons.mpr ⟨tw_1253, (List.forall_mem_cons.mpr ⟨tw_1255, (List.forall_mem_cons.mpr ⟨tw_1257, (List.forall_mem_cons.mpr ⟨tw_1259, (List.forall_mem_cons.mpr ⟨tw_1261, (List.forall_mem_cons.mpr ⟨tw_1263, (List.forall_mem_cons.mpr ⟨tw_1265, (List.forall_mem_cons.mpr ⟨tw_1267, (List.forall_mem_cons.mpr ⟨tw_1269, (List.forall_mem_cons.mpr ⟨tw_1271, (List.forall_mem_cons.mpr ⟨tw_1273, (List.forall_mem_cons.mpr ⟨tw_1275, (List.forall_mem_cons.mpr ⟨tw_1277, (List.forall_mem_cons.mpr ⟨tw_1279, (List.forall_mem_cons.mpr ⟨tw_1281, (List.forall_mem_cons.mpr ⟨tw_1283, (List.forall_mem_cons.mpr ⟨tw_1285, (List.forall_mem_cons.mpr ⟨tw_1287, (List.forall_mem_cons.mpr ⟨tw_1289, (List.forall_mem_cons.mpr ⟨tw_1291, (List.forall_mem_cons.mpr ⟨tw_1293, (List.forall_mem_cons.mpr ⟨tw_1295, (List.forall_mem_cons.mpr ⟨tw_1297, (List.forall_mem_cons.mpr ⟨tw_1299, (List.forall_mem_cons.mpr ⟨tw_1301, (List.forall_mem_cons.mpr ⟨tw_1303, (List.forall_mem_cons.mpr ⟨tw_1305, (List.forall_mem_cons.mpr ⟨tw_1307, (fun w h => absurd h List.not_mem_nil)⟩)⟩)⟩)⟩)⟩)⟩)⟩)⟩)⟩)⟩)⟩)⟩)⟩)⟩)⟩)⟩)⟩)⟩)⟩)⟩)⟩)⟩)⟩)⟩)⟩)⟩)⟩)⟩)⟩)⟩)⟩)⟩)⟩)⟩)⟩)⟩)⟩)⟩), tyX10_ok, nmX10, tw_1190, tw_10, by decide +kernel⟩
theorem fa_RX0_11 : FA RX0 11 0 1 1 := ⟨⟨RX0, TX0, 5, tyX0, cc0, by decide, Or.inl tw_337⟩, rfl⟩
theorem fa_RX0_15 : FA RX0 15 0 2 1 := ⟨⟨RX0, TX0, 5, tyX0, cc0, by decide, Or.inl tw_339⟩, rfl⟩
theorem fa_RX0_18 : FA RX0 18 0 3 1 := ⟨⟨RX0, TX0, 5, tyX0, cc0, by decide, Or.inl tw_341⟩, rfl⟩
theorem fa_RX0_21 : FA RX0 21 0 4 1 := ⟨⟨RX0, TX0, 5, tyX0, cc0, by decide, Or.inl tw_343⟩, rfl⟩
theorem fa_RX0_29 : FA RX0 29 0 0 1 := ⟨⟨RX0, TX0, 5, tyX0, cc0, by decide, Or.inl tw_336⟩, rfl⟩
theorem fa_RX0_51 : FA RX0 51 3 6 0 := ⟨⟨RX3, TX3, 20, tyX3, cc3, by decide, Or.inl tw_205⟩, rfl⟩
theorem fa_RX0_70 : FA RX0 70 3 19 0 := ⟨⟨RX3, TX3, 20, tyX3, cc3, by decide, Or.inl tw_231⟩, rfl⟩
theorem fa_RX1_9 : FA RX1 9 1 0 0 := ⟨⟨RX1, TX1, 2, tyX1, cc1, by decide, Or.inl tw_362⟩, rfl⟩
theorem fa_RX1_15 : FA RX1 15 5 12 0 := ⟨⟨RX5, TX5, 18, tyX5, cc5, by decide, Or.inl tw_76⟩, rfl⟩
theorem fa_RX1_20 : FA RX1 20 1 1 0 := ⟨⟨RX1, TX1, 2, tyX1, cc1, by decide, Or.inl tw_363⟩, rfl⟩
theorem fa_RX10_9 : FA RX10 9 10 2 0 := ⟨⟨RX10, TX10, 38, tyX10, cc10, by decide, Or.inl tw_1197⟩, rfl⟩
theorem fa_RX10_13 : FA RX10 13 10 5 1 := ⟨⟨RX10, TX10, 38, tyX10, cc10, by decide, Or.inl tw_1200⟩, rfl⟩
theorem fa_RX10_17 : FA RX10 17 10 15 1 := ⟨⟨RX10, TX10, 38, tyX10, cc10, by decide, Or.inl tw_1210⟩, rfl⟩
theorem fa_RX10_21 : FA RX10 21 10 20 1 := ⟨⟨RX10, TX10, 38, tyX10, cc10, by decide, Or.inl tw_1215⟩, rfl⟩
theorem fa_RX10_24 : FA RX10 24 10 21 1 := ⟨⟨RX10, TX10, 38, tyX10, cc10, by decide, Or.inl tw_1216⟩, rfl⟩
theorem fa_RX10_27 : FA RX10 27 10 22 1 := ⟨⟨RX10, TX10, 38, tyX10, cc10, by decide, Or.inl tw_1217⟩, rfl⟩
theorem fa_RX10_30 : FA RX10 30 10 23 1 := ⟨⟨RX10, TX10, 38, tyX10, cc10, by decide, Or.inl tw_1218⟩, rfl⟩
theorem fa_RX10_33 : FA RX10 33 10 34 1 := ⟨⟨RX10, TX10, 38, tyX10, cc10, by decide, Or.inl tw_1229⟩, rfl⟩
theorem fa_RX10_36 : FA RX10 36 10 0 0 := ⟨⟨RX10, TX10, 38, tyX10, cc10, by decide, Or.inl tw_1195⟩, rfl⟩
theorem fa_RX10_39 : FA RX10 39 10 1 0 := ⟨⟨RX10, TX10, 38, tyX10, cc10, by decide, Or.inl tw_1196⟩, rfl⟩
theorem fa_RX10_53 : FA RX10 53 10 7 0 := ⟨⟨RX10, TX10, 38, tyX10, cc10, by decide, Or.inl tw_1202⟩, rfl⟩
theorem fa_RX10_68 : FA RX10 68 10 9 0 := ⟨⟨RX10, TX10, 38, tyX10, cc10, by decide, Or.inl tw_1204⟩, rfl⟩
theorem fa_RX10_71 : FA RX10 71 10 8 0 := ⟨⟨RX10, TX10, 38, tyX10, cc10, by decide, Or.inl tw_1203⟩, rfl⟩
theorem fa_RX10_77 : FA RX10 77 10 10 0 := ⟨⟨RX10, TX10, 38, tyX10, cc10, by decide, Or.inl tw_1205⟩, rfl⟩
theorem fa_RX10_84 : FA RX10 84 10 14 2 := ⟨⟨RX10, TX10, 38, tyX10, cc10, by decide, Or.inl tw_1209⟩, rfl⟩
theorem fa_RX10_91 : FA RX10 91 10 11 0 := ⟨⟨RX10, TX10, 38, tyX10, cc10, by decide, Or.inl tw_1206⟩, rfl⟩
theorem fa_RX10_94 : FA RX10 94 10 12 0 := ⟨⟨RX10, TX10, 38, tyX10, cc10, by decide, Or.inl tw_1207⟩, rfl⟩
theorem fa_RX10_97 : FA RX10 97 10 13 0 := ⟨⟨RX10, TX10, 38, tyX10, cc10, by decide, Or.inl tw_1208⟩, rfl⟩
theorem fa_RX10_130 : FA RX10 130 10 4 1 := ⟨⟨RX10, TX10, 38, tyX10, cc10, by decide, Or.inl tw_1199⟩, rfl⟩
theorem fa_RX10_134 : FA RX10 134 9 0 0 := ⟨⟨RX9, TX9, 18, tyX9, cc9, by decide, Or.inr ⟨"RenamedCellsModel", nw_1332⟩⟩, rfl⟩
theorem fa_RX10_146 : FA RX10 146 9 4 0 := ⟨⟨RX9, TX9, 18, tyX9, cc9, by decide, Or.inr ⟨"RenamedCellsModel", nw_1337⟩⟩, rfl⟩
theorem fa_RX10_197 : FA RX10 197 9 1 0 := ⟨⟨RX9, TX9, 18, tyX9, cc9, by decide, Or.inr ⟨"RenamedCellsModel", nw_1333⟩⟩, rfl⟩
theorem fa_RX10_199 : FA RX10 199 9 2 0 := ⟨⟨RX9, TX9, 18, tyX9, cc9, by decide, Or.inr ⟨"RenamedCellsModel", nw_1334⟩⟩, rfl⟩
theorem fa_RX10_201 : FA RX10 201 9 3 0 := ⟨⟨RX9, TX9, 18, tyX9, cc9, by decide, Or.inr ⟨"RenamedCellsModel", nw_1335⟩⟩, rfl⟩
theorem fa_RX10_203 : FA RX10 203 9 7 0 := ⟨⟨RX9, TX9, 18, tyX9, cc9, by decide, Or.inr ⟨"RenamedCellsModel", nw_1342⟩⟩, rfl⟩
theorem fa_RX10_217 : FA RX10 217 9 8 1 := ⟨⟨RX9, TX9, 18, tyX9, cc9, by decide, Or.inr ⟨"RenamedCellsModel", nw_1344⟩⟩, rfl⟩
theorem fa_RX10_220 : FA RX10 220 9 9 1 := ⟨⟨RX9, TX9, 18, tyX9, cc9, by decide, Or.inr ⟨"RenamedCellsModel", nw_1346⟩⟩, rfl⟩
theorem fa_RX10_223 : FA RX10 223 9 10 1 := ⟨⟨RX9, TX9, 18, tyX9, cc9, by decide, Or.inr ⟨"RenamedCellsModel", nw_1348⟩⟩, rfl⟩
theorem fa_RX10_226 : FA RX10 226 9 11 1 := ⟨⟨RX9, TX9, 18, tyX9, cc9, by decide, Or.inr ⟨"RenamedCellsModel", nw_1350⟩⟩, rfl⟩
theorem fa_RX10_229 : FA RX10 229 9 12 1 := ⟨⟨RX9, TX9, 18, tyX9, cc9, by decide, Or.inr ⟨"RenamedCellsModel", nw_1352⟩⟩, rfl⟩
theorem fa_RX10_231 : FA RX10 231 9 13 1 := ⟨⟨RX9, TX9, 18, tyX9, cc9, by decide, Or.inr ⟨"RenamedCellsModel", nw_1354⟩⟩, rfl⟩
theorem fa_RX10_234 : FA RX10 234 9 5 0 := ⟨⟨RX9, TX9, 18, tyX9, cc9, by decide, Or.inr ⟨"RenamedCellsModel", nw_1339⟩⟩, rfl⟩
theorem fa_RX10_243 : FA RX10 243 9 14 1 := ⟨⟨RX9, TX9, 18, tyX9, cc9, by decide, Or.inr ⟨"RenamedCellsModel", nw_1356⟩⟩, rfl⟩
theorem fa_RX10_245 : FA RX10 245 9 15 1 := ⟨⟨RX9, TX9, 18, tyX9, cc9, by decide, Or.inr ⟨"RenamedCellsModel", nw_1358⟩⟩, rfl⟩
theorem fa_RX10_248 : FA RX10 248 9 6 0 := ⟨⟨RX9, TX9, 18, tyX9, cc9, by decide, Or.inr ⟨"RenamedCellsModel", nw_1341⟩⟩, rfl⟩
theorem fa_RX10_254 : FA RX10 254 9 16 1 := ⟨⟨RX9, TX9, 18, tyX9, cc9, by decide, Or.inr ⟨"RenamedCellsModel", nw_1360⟩⟩, rfl⟩
theorem fa_RX10_256 : FA RX10 256 9 17 1 := ⟨⟨RX9, TX9, 18, tyX9, cc9, by decide, Or.inr ⟨"RenamedCellsModel", nw_1362⟩⟩, rfl⟩
theorem fa_RX10_259 : FA RX10 259 10 6 0 := ⟨⟨RX10, TX10, 38, tyX10, cc10, by decide, Or.inl tw_1201⟩, rfl⟩
theorem fa_RX10_266 : FA RX10 266 10 3 1 := ⟨⟨RX10, TX10, 38, tyX10, cc10, by decide, Or.inl tw_1198⟩, rfl⟩
theorem fa_RX10_274 : FA RX10 274 10 24 0 := ⟨⟨RX10, TX10, 38, tyX10, cc10, by decide, Or.inl tw_1219⟩, rfl⟩
theorem fa_RX10_277 : FA RX10 277 10 25 0 := ⟨⟨RX10, TX10, 38, tyX10, cc10, by decide, Or.inl tw_1220⟩, rfl⟩
theorem fa_RX10_284 : FA RX10 284 10 16 0 := ⟨⟨RX10, TX10, 38, tyX10, cc10, by decide, Or.inl tw_1211⟩, rfl⟩
theorem fa_RX10_287 : FA RX10 287 10 17 0 := ⟨⟨RX10, TX10, 38, tyX10, cc10, by decide, Or.inl tw_1212⟩, rfl⟩
theorem fa_RX10_290 : FA RX10 290 10 19 0 := ⟨⟨RX10, TX10, 38, tyX10, cc10, by decide, Or.inl tw_1214⟩, rfl⟩
theorem fa_RX10_293 : FA RX10 293 10 18 0 := ⟨⟨RX10, TX10, 38, tyX10, cc10, by decide, Or.inl tw_1213⟩, rfl⟩
theorem fa_RX10_315 : FA RX10 315 10 26 0 := ⟨⟨RX10, TX10, 38, tyX10, cc10, by decide, Or.inl tw_1221⟩, rfl⟩
theorem fa_RX10_360 : FA RX10 360 10 27 0 := ⟨⟨RX10, TX10, 38, tyX10, cc10, by decide, Or.inl tw_1222⟩, rfl⟩
theorem fa_RX10_399 : FA RX10 399 10 29 0 := ⟨⟨RX10, TX10, 38, tyX10, cc10, by decide, Or.inl tw_1224⟩, rfl⟩
theorem fa_RX10_405 : FA RX10 405 10 28 0 := ⟨⟨RX10, TX10, 38, tyX10, cc10, by decide, Or.inl tw_1223⟩, rfl⟩
theorem fa_RX10_408 : FA RX10 408 10 30 0 := ⟨⟨RX10, TX10, 38, tyX10, cc10, by decide, Or.inl tw_1225⟩, rfl⟩
theorem fa_RX10_424 : FA RX10 424 10 31 0 := ⟨⟨RX10, TX10, 38, tyX10, cc10, by decide, Or.inl tw_1226⟩, rfl⟩
theorem fa_RX10_427 : FA RX10 427 10 32 0 := ⟨⟨RX10, TX10, 38, tyX10, cc10, by decide, Or.inl tw_1227⟩, rfl⟩
theorem fa_RX10_430 : FA RX10 430 10 33 0 := ⟨⟨RX10, TX10, 38, tyX10, cc10, by decide, Or.inl tw_1228⟩, rfl⟩
theorem fa_RX10_439 : FA RX10 439 10 35 0 := ⟨⟨RX10, TX10, 38, tyX10, cc10, by decide, Or.inl tw_1230⟩, rfl⟩
theorem fa_RX10_447 : FA RX10 447 10 36 0 := ⟨⟨RX10, TX10, 38, tyX10, cc10, by decide, Or.inl tw_1231⟩, rfl⟩
theorem fa_RX10_454 : FA RX10 454 10 37 0 := ⟨⟨RX10, TX10, 38, tyX10, cc10, by decide, Or.inl tw_1232⟩, rfl⟩
theorem fa_RX2_11 : FA RX2 11 2 0 1 := ⟨⟨RX2, TX2, 5, tyX2, cc2, by decide, Or.inl tw_283⟩, rfl⟩
theorem fa_RX2_17 : FA RX2 17 2 1 1 := ⟨⟨RX2, TX2, 5, tyX2, cc2, by decide, Or.inl tw_284⟩, rfl⟩
theorem fa_RX2_23 : FA RX2 23 2 3 0 := ⟨⟨RX2, TX2, 5, tyX2, cc2, by decide, Or.inl tw_286⟩, rfl⟩
theorem fa_RX2_27 : FA RX2 27 2 4 0 := ⟨⟨RX2, TX2, 5, tyX2, cc2, by decide, Or.inl tw_288⟩, rfl⟩
theorem fa_RX2_30 : FA RX2 30 2 2 0 := ⟨⟨RX2, TX2, 5, tyX2, cc2, by decide, Or.inl tw_285⟩, rfl⟩
theorem fa_RX3_9 : FA RX3 9 3 2 1 := ⟨⟨RX3, TX3, 20, tyX3, cc3, by decide, Or.inl tw_197⟩, rfl⟩
theorem fa_RX3_15 : FA RX3 15 3 4 1 := ⟨⟨RX3, TX3, 20, tyX3, cc3, by decide, Or.inl tw_201⟩, rfl⟩
theorem fa_RX3_18 : FA RX3 18 3 7 1 := ⟨⟨RX3, TX3, 20, tyX3, cc3, by decide, Or.inl tw_207⟩, rfl⟩
theorem fa_RX3_21 : FA RX3 21 3 8 1 := ⟨⟨RX3, TX3, 20, tyX3, cc3, by decide, Or.inl tw_209⟩, rfl⟩
theorem fa_RX3_24 : FA RX3 24 3 9 1 := ⟨⟨RX3, TX3, 20, tyX3, cc3, by decide, Or.inl tw_211⟩, rfl⟩
theorem fa_RX3_27 : FA RX3 27 3 10 1 := ⟨⟨RX3, TX3, 20, tyX3, cc3, by decide, Or.inl tw_213⟩, rfl⟩
theorem fa_RX3_30 : FA RX3 30 3 0 1 := ⟨⟨RX3, TX3, 20, tyX3, cc3, by decide, Or.inl tw_195⟩, rfl⟩
theorem fa_RX3_34 : FA RX3 34 3 1 0 := ⟨⟨RX3, TX3, 20, tyX3, cc3, by decide, Or.inl tw_196⟩, rfl⟩
theorem fa_RX3_44 : FA RX3 44 3 3 0 := ⟨⟨RX3, TX3, 20, tyX3, cc3, by decide, Or.inl tw_199⟩, rfl⟩
theorem fa_RX3_47 : FA RX3 47 3 5 0 := ⟨⟨RX3, TX3, 20, tyX3, cc3, by decide, Or.inl tw_203⟩, rfl⟩
theorem fa_RX3_54 : FA RX3 54 3 16 0 := ⟨⟨RX3, TX3, 20, tyX3, cc3, by decide, Or.inl tw_224⟩, rfl⟩
theorem fa_RX3_57 : FA RX3 57 3 17 0 := ⟨⟨RX3, TX3, 20, tyX3, cc3, by decide, Or.inl tw_226⟩, rfl⟩
theorem fa_RX3_61 : FA RX3 61 3 18 0 := ⟨⟨RX3, TX3, 20, tyX3, cc3, by decide, Or.inl tw_228⟩, rfl⟩
theorem fa_RX3_64 : FA RX3 64 3 19 0 := ⟨⟨RX3, TX3, 20, tyX3, cc3, by decide, Or.inl tw_230⟩, rfl⟩
theorem fa_RX3_73 : FA RX3 73 3 6 0 := ⟨⟨RX3, TX3, 20, tyX3, cc3, by decide, Or.inl tw_204⟩, rfl⟩
theorem fa_RX3_76 : FA RX3 76 3 11 0 := ⟨⟨RX3, TX3, 20, tyX3, cc3, by decide, Or.inl tw_215⟩, rfl⟩
theorem fa_RX3_79 : FA RX3 79 3 12 0 := ⟨⟨RX3, TX3, 20, tyX3, cc3, by decide, Or.inl tw_216⟩, rfl⟩
theorem fa_RX3_82 : FA RX3 82 3 13 0 := ⟨⟨RX3, TX3, 20, tyX3, cc3, by decide, Or.inl tw_218⟩, rfl⟩
theorem fa_RX3_85 : FA RX3 85 3 14 0 := ⟨⟨RX3, TX3, 20, tyX3, cc3, by decide, Or.inl tw_220⟩, rfl⟩
theorem fa_RX3_88 : FA RX3 88 3 15 0 := ⟨⟨RX3, TX3, 20, tyX3, cc3, by decide, Or.inl tw_222⟩, rfl⟩
theorem fa_RX3_91 : FA RX3 91 5 7 1 := ⟨⟨RX5, TX5, 18, tyX5, cc5, by decide, Or.inl tw_61⟩, rfl⟩
theorem fa_RX3_106 : FA RX3 106 5 4 0 := ⟨⟨RX5, TX5, 18, tyX5, cc5, by decide, Or.inl tw_50⟩, rfl⟩
theorem fa_RX3_125 : FA RX3 125 5 1 0 := ⟨⟨RX5, TX5, 18, tyX5, cc5, by decide, Or.inl tw_41⟩, rfl⟩
theorem fa_RX3_128 : FA RX3 128 5 6 1 := ⟨⟨RX5, TX5, 18, tyX5, cc5, by decide, Or.inl tw_58⟩, rfl⟩
theorem fa_RX3_138 : FA RX3 138 5 8 1 := ⟨⟨RX5, TX5, 18, tyX5, cc5, by decide, Or.inl tw_66⟩, rfl⟩
theorem fa_RX3_148 : FA RX3 148 5 3 0 := ⟨⟨RX5, TX5, 18, tyX5, cc5, by decide, Or.inl tw_47⟩, rfl⟩
theorem fa_RX3_154 : FA RX3 154 5 9 1 := ⟨⟨RX5, TX5, 18, tyX5, cc5, by decide, Or.inl tw_70⟩, rfl⟩
theorem fa_RX3_175 : FA RX3 175 5 2 0 := ⟨⟨RX5, TX5, 18, tyX5, cc5, by decide, Or.inl tw_44⟩, rfl⟩
theorem fa_RX4_9 : FA RX4 9 4 0 1 := ⟨⟨RX4, TX4, 5, tyX4, cc4, by decide, Or.inl tw_307⟩, rfl⟩
theorem fa_RX4_21 : FA RX4 21 4 1 0 := ⟨⟨RX4, TX4, 5, tyX4, cc4, by decide, Or.inl tw_309⟩, rfl⟩
theorem fa_RX4_25 : FA RX4 25 4 2 0 := ⟨⟨RX4, TX4, 5, tyX4, cc4, by decide, Or.inl tw_311⟩, rfl⟩
theorem fa_RX4_28 : FA RX4 28 4 3 0 := ⟨⟨RX4, TX4, 5, tyX4, cc4, by decide, Or.inl tw_313⟩, rfl⟩
theorem fa_RX4_31 : FA RX4 31 4 4 0 := ⟨⟨RX4, TX4, 5, tyX4, cc4, by decide, Or.inl tw_315⟩, rfl⟩
theorem fa_RX4_45 : FA RX4 45 5 8 1 := ⟨⟨RX5, TX5, 18, tyX5, cc5, by decide, Or.inl tw_64⟩, rfl⟩
theorem fa_RX4_52 : FA RX4 52 5 9 1 := ⟨⟨RX5, TX5, 18, tyX5, cc5, by decide, Or.inl tw_68⟩, rfl⟩
theorem fa_RX4_55 : FA RX4 55 5 6 1 := ⟨⟨RX5, TX5, 18, tyX5, cc5, by decide, Or.inl tw_56⟩, rfl⟩
theorem fa_RX4_72 : FA RX4 72 5 7 1 := ⟨⟨RX5, TX5, 18, tyX5, cc5, by decide, Or.inl tw_60⟩, rfl⟩
theorem fa_RX4_78 : FA RX4 78 5 15 0 := ⟨⟨RX5, TX5, 18, tyX5, cc5, by decide, Or.inl tw_84⟩, rfl⟩
theorem fa_RX4_81 : FA RX4 81 5 16 1 := ⟨⟨RX5, TX5, 18, tyX5, cc5, by decide, Or.inl tw_88⟩, rfl⟩
theorem fa_RX4_84 : FA RX4 84 5 17 1 := ⟨⟨RX5, TX5, 18, tyX5, cc5, by decide, Or.inl tw_91⟩, rfl⟩
theorem fa_RX5_9 : FA RX5 9 5 6 1 := ⟨⟨RX5, TX5, 18, tyX5, cc5, by decide, Or.inl tw_55⟩, rfl⟩
theorem fa_RX5_15 : FA RX5 15 5 7 1 := ⟨⟨RX5, TX5, 18, tyX5, cc5, by decide, Or.inl tw_59⟩, rfl⟩
theorem fa_RX5_18 : FA RX5 18 5 8 1 := ⟨⟨RX5, TX5, 18, tyX5, cc5, by decide, Or.inl tw_63⟩, rfl⟩
theorem fa_RX5_21 : FA RX5 21 5 9 1 := ⟨⟨RX5, TX5, 18, tyX5, cc5, by decide, Or.inl tw_67⟩, rfl⟩
theorem fa_RX5_24 : FA RX5 24 5 10 1 := ⟨⟨RX5, TX5, 18, tyX5, cc5, by decide, Or.inl tw_71⟩, rfl⟩
theorem fa_RX5_27 : FA RX5 27 5 11 1 := ⟨⟨RX5, TX5, 18, tyX5, cc5, by decide, Or.inl tw_73⟩, rfl⟩
theorem fa_RX5_31 : FA RX5 31 5 13 1 := ⟨⟨RX5, TX5, 18, tyX5, cc5, by decide, Or.inl tw_79⟩, rfl⟩
theorem fa_RX5_34 : FA RX5 34 5 14 1 := ⟨⟨RX5, TX5, 18, tyX5, cc5, by decide, Or.inl tw_81⟩, rfl⟩
theorem fa_RX5_37 : FA RX5 37 5 16 1 := ⟨⟨RX5, TX5, 18, tyX5, cc5, by decide, Or.inl tw_87⟩, rfl⟩
theorem fa_RX5_43 : FA RX5 43 5 5 0 := ⟨⟨RX5, TX5, 18, tyX5, cc5, by decide, Or.inl tw_52⟩, rfl⟩
theorem fa_RX5_47 : FA RX5 47 5 12 0 := ⟨⟨RX5, TX5, 18, tyX5, cc5, by decide, Or.inl tw_75⟩, rfl⟩
theorem fa_RX5_50 : FA RX5 50 5 15 0 := ⟨⟨RX5, TX5, 18, tyX5, cc5, by decide, Or.inl tw_83⟩, rfl⟩
theorem fa_RX6_9 : FA RX6 9 6 2 1 := ⟨⟨RX6, TX6, 8, tyX6, cc6, by decide, Or.inl tw_166⟩, rfl⟩
theorem fa_RX6_18 : FA RX6 18 6 3 1 := ⟨⟨RX6, TX6, 8, tyX6, cc6, by decide, Or.inl tw_167⟩, rfl⟩
theorem fa_RX6_22 : FA RX6 22 6 7 1 := ⟨⟨RX6, TX6, 8, tyX6, cc6, by decide, Or.inl tw_171⟩, rfl⟩
theorem fa_RX6_36 : FA RX6 36 6 4 0 := ⟨⟨RX6, TX6, 8, tyX6, cc6, by decide, Or.inl tw_168⟩, rfl⟩
theorem fa_RX6_55 : FA RX6 55 7 0 1 := ⟨⟨RX7, TX7, 4, tyX7, cc7, by decide, Or.inl tw_146⟩, rfl⟩
theorem fa_RX6_59 : FA RX6 59 5 5 0 := ⟨⟨RX5, TX5, 18, tyX5, cc5, by decide, Or.inl tw_53⟩, rfl⟩
theorem fa_RX6_68 : FA RX6 68 7 3 0 := ⟨⟨RX7, TX7, 4, tyX7, cc7, by decide, Or.inl tw_152⟩, rfl⟩
theorem fa_RX6_71 : FA RX6 71 7 1 1 := ⟨⟨RX7, TX7, 4, tyX7, cc7, by decide, Or.inl tw_148⟩, rfl⟩
theorem fa_RX6_82 : FA RX6 82 5 12 0 := ⟨⟨RX5, TX5, 18, tyX5, cc5, by decide, Or.inl tw_77⟩, rfl⟩
theorem fa_RX6_88 : FA RX6 88 5 15 0 := ⟨⟨RX5, TX5, 18, tyX5, cc5, by decide, Or.inl tw_85⟩, rfl⟩
theorem fa_RX6_131 : FA RX6 131 6 5 0 := ⟨⟨RX6, TX6, 8, tyX6, cc6, by decide, Or.inl tw_169⟩, rfl⟩
theorem fa_RX6_150 : FA RX6 150 5 4 0 := ⟨⟨RX5, TX5, 18, tyX5, cc5, by decide, Or.inl tw_49⟩, rfl⟩
theorem fa_RX6_162 : FA RX6 162 5 10 1 := ⟨⟨RX5, TX5, 18, tyX5, cc5, by decide, Or.inl tw_72⟩, rfl⟩
theorem fa_RX6_165 : FA RX6 165 5 11 1 := ⟨⟨RX5, TX5, 18, tyX5, cc5, by decide, Or.inl tw_74⟩, rfl⟩
theorem fa_RX6_173 : FA RX6 173 5 7 1 := ⟨⟨RX5, TX5, 18, tyX5, cc5, by decide, Or.inl tw_62⟩, rfl⟩
theorem fa_RX6_176 : FA RX6 176 5 8 1 := ⟨⟨RX5, TX5, 18, tyX5, cc5, by decide, Or.inl tw_65⟩, rfl⟩
theorem fa_RX6_179 : FA RX6 179 5 9 1 := ⟨⟨RX5, TX5, 18, tyX5, cc5, by decide, Or.inl tw_69⟩, rfl⟩
theorem fa_RX6_185 : FA RX6 185 5 6 1 := ⟨⟨RX5, TX5, 18, tyX5, cc5, by decide, Or.inl tw_57⟩, rfl⟩
theorem fa_RX6_188 : FA RX6 188 6 6 0 := ⟨⟨RX6, TX6, 8, tyX6, cc6, by decide, Or.inl tw_170⟩, rfl⟩
theorem fa_RX6_197 : FA RX6 197 5 13 1 := ⟨⟨RX5, TX5, 18, tyX5, cc5, by decide, Or.inl tw_80⟩, rfl⟩
theorem fa_RX6_200 : FA RX6 200 5 14 1 := ⟨⟨RX5, TX5, 18, tyX5, cc5, by decide, Or.inl tw_82⟩, rfl⟩
theorem fa_RX6_206 : FA RX6 206 5 16 1 := ⟨⟨RX5, TX5, 18, tyX5, cc5, by decide, Or.inl tw_89⟩, rfl⟩
theorem fa_RX6_209 : FA RX6 209 5 17 1 := ⟨⟨RX5, TX5, 18, tyX5, cc5, by decide, Or.inl tw_92⟩, rfl⟩
theorem fa_RX6_215 : FA RX6 215 7 2 1 := ⟨⟨RX7, TX7, 4, tyX7, cc7, by decide, Or.inl tw_150⟩, rfl⟩
theorem fa_RX7_9 : FA RX7 9 7 0 1 := ⟨⟨RX7, TX7, 4, tyX7, cc7, by decide, Or.inl tw_145⟩, rfl⟩
theorem fa_RX7_15 : FA RX7 15 7 1 1 := ⟨⟨RX7, TX7, 4, tyX7, cc7, by decide, Or.inl tw_147⟩, rfl⟩
theorem fa_RX7_18 : FA RX7 18 7 2 1 := ⟨⟨RX7, TX7, 4, tyX7, cc7, by decide, Or.inl tw_149⟩, rfl⟩
theorem fa_RX8_9 : FA RX8 9 8 0 1 := ⟨⟨RX8, TX8, 13, tyX8, cc8, by decide, Or.inl tw_369⟩, rfl⟩
theorem fa_RX8_16 : FA RX8 16 8 3 1 := ⟨⟨RX8, TX8, 13, tyX8, cc8, by decide, Or.inl tw_372⟩, rfl⟩
theorem fa_RX8_20 : FA RX8 20 8 4 1 := ⟨⟨RX8, TX8, 13, tyX8, cc8, by decide, Or.inl tw_373⟩, rfl⟩
theorem fa_RX8_28 : FA RX8 28 8 5 1 := ⟨⟨RX8, TX8, 13, tyX8, cc8, by decide, Or.inl tw_374⟩, rfl⟩
theorem fa_RX8_35 : FA RX8 35 8 6 1 := ⟨⟨RX8, TX8, 13, tyX8, cc8, by decide, Or.inl tw_375⟩, rfl⟩
theorem fa_RX8_39 : FA RX8 39 8 7 1 := ⟨⟨RX8, TX8, 13, tyX8, cc8, by decide, Or.inl tw_376⟩, rfl⟩
theorem fa_RX8_45 : FA RX8 45 8 8 1 := ⟨⟨RX8, TX8, 13, tyX8, cc8, by decide, Or.inl tw_377⟩, rfl⟩
theorem fa_RX8_52 : FA RX8 52 8 9 1 := ⟨⟨RX8, TX8, 13, tyX8, cc8, by decide, Or.inl tw_378⟩, rfl⟩
theorem fa_RX8_59 : FA RX8 59 8 10 1 := ⟨⟨RX8, TX8, 13, tyX8, cc8, by decide, Or.inl tw_379⟩, rfl⟩
theorem fa_RX8_66 : FA RX8 66 8 11 1 := ⟨⟨RX8, TX8, 13, tyX8, cc8, by decide, Or.inl tw_380⟩, rfl⟩
theorem fa_RX8_70 : FA RX8 70 8 2 0 := ⟨⟨RX8, TX8, 13, tyX8, cc8, by decide, Or.inl tw_371⟩, rfl⟩
theorem fa_RX8_74 : FA RX8 74 8 1 0 := ⟨⟨RX8, TX8, 13, tyX8, cc8, by decide, Or.inl tw_370⟩, rfl⟩
theorem fa_RX8_78 : FA RX8 78 8 12 0 := ⟨⟨RX8, TX8, 13, tyX8, cc8, by decide, Or.inl tw_381⟩, rfl⟩
theorem fa_RX8_96 : FA RX8 96 5 5 0 := ⟨⟨RX5, TX5, 18, tyX5, cc5, by decide, Or.inl tw_54⟩, rfl⟩
theorem fa_RX8_99 : FA RX8 99 5 0 0 := ⟨⟨RX5, TX5, 18, tyX5, cc5, by decide, Or.inl tw_38⟩, rfl⟩
theorem fa_RX8_114 : FA RX8 114 6 0 0 := ⟨⟨RX6, TX6, 8, tyX6, cc6, by decide, Or.inl tw_163⟩, rfl⟩
theorem fa_RX8_117 : FA RX8 117 6 1 0 := ⟨⟨RX6, TX6, 8, tyX6, cc6, by decide, Or.inl tw_165⟩, rfl⟩
theorem fa_RX8_128 : FA RX8 128 4 1 0 := ⟨⟨RX4, TX4, 5, tyX4, cc4, by decide, Or.inl tw_310⟩, rfl⟩
theorem fa_RX8_131 : FA RX8 131 4 4 0 := ⟨⟨RX4, TX4, 5, tyX4, cc4, by decide, Or.inl tw_316⟩, rfl⟩
theorem fa_RX8_134 : FA RX8 134 4 2 0 := ⟨⟨RX4, TX4, 5, tyX4, cc4, by decide, Or.inl tw_312⟩, rfl⟩
theorem fa_RX8_144 : FA RX8 144 4 0 1 := ⟨⟨RX4, TX4, 5, tyX4, cc4, by decide, Or.inl tw_308⟩, rfl⟩
theorem fa_RX8_148 : FA RX8 148 4 3 0 := ⟨⟨RX4, TX4, 5, tyX4, cc4, by decide, Or.inl tw_314⟩, rfl⟩
theorem fa_RX8_155 : FA RX8 155 3 4 1 := ⟨⟨RX3, TX3, 20, tyX3, cc3, by decide, Or.inl tw_202⟩, rfl⟩
theorem fa_RX8_158 : FA RX8 158 3 6 0 := ⟨⟨RX3, TX3, 20, tyX3, cc3, by decide, Or.inl tw_206⟩, rfl⟩
theorem fa_RX8_171 : FA RX8 171 3 2 1 := ⟨⟨RX3, TX3, 20, tyX3, cc3, by decide, Or.inl tw_198⟩, rfl⟩
theorem fa_RX8_183 : FA RX8 183 3 3 0 := ⟨⟨RX3, TX3, 20, tyX3, cc3, by decide, Or.inl tw_200⟩, rfl⟩
theorem fa_RX8_189 : FA RX8 189 3 7 1 := ⟨⟨RX3, TX3, 20, tyX3, cc3, by decide, Or.inl tw_208⟩, rfl⟩
theorem fa_RX8_192 : FA RX8 192 3 8 1 := ⟨⟨RX3, TX3, 20, tyX3, cc3, by decide, Or.inl tw_210⟩, rfl⟩
theorem fa_RX8_195 : FA RX8 195 3 9 1 := ⟨⟨RX3, TX3, 20, tyX3, cc3, by decide, Or.inl tw_212⟩, rfl⟩
theorem fa_RX8_198 : FA RX8 198 3 10 1 := ⟨⟨RX3, TX3, 20, tyX3, cc3, by decide, Or.inl tw_214⟩, rfl⟩
theorem fa_RX8_201 : FA RX8 201 3 12 0 := ⟨⟨RX3, TX3, 20, tyX3, cc3, by decide, Or.inl tw_217⟩, rfl⟩
theorem fa_RX8_204 : FA RX8 204 3 13 0 := ⟨⟨RX3, TX3, 20, tyX3, cc3, by decide, Or.inl tw_219⟩, rfl⟩
theorem fa_RX8_207 : FA RX8 207 3 14 0 := ⟨⟨RX3, TX3, 20, tyX3, cc3, by decide, Or.inl tw_221⟩, rfl⟩
theorem fa_RX8_210 : FA RX8 210 3 15 0 := ⟨⟨RX3, TX3, 20, tyX3, cc3, by decide, Or.inl tw_223⟩, rfl⟩
theorem fa_RX8_219 : FA RX8 219 3 16 0 := ⟨⟨RX3, TX3, 20, tyX3, cc3, by decide, Or.inl tw_225⟩, rfl⟩
theorem fa_RX8_231 : FA RX8 231 3 18 0 := ⟨⟨RX3, TX3, 20, tyX3, cc3, by decide, Or.inl tw_229⟩, rfl⟩
theorem fa_RX8_234 : FA RX8 234 3 19 0 := ⟨⟨RX3, TX3, 20, tyX3, cc3, by decide, Or.inl tw_232⟩, rfl⟩
theorem fa_RX8_240 : FA RX8 240 0 1 1 := ⟨⟨RX0, TX0, 5, tyX0, cc0, by decide, Or.inl tw_338⟩, rfl⟩
theorem fa_RX8_247 : FA RX8 247 0 2 1 := ⟨⟨RX0, TX0, 5, tyX0, cc0, by decide, Or.inl tw_340⟩, rfl⟩
theorem fa_RX8_249 : FA RX8 249 0 3 1 := ⟨⟨RX0, TX0, 5, tyX0, cc0, by decide, Or.inl tw_342⟩, rfl⟩
theorem fa_RX8_251 : FA RX8 251 0 4 1 := ⟨⟨RX0, TX0, 5, tyX0, cc0, by decide, Or.inl tw_344⟩, rfl⟩
theorem fa_RX8_312 : FA RX8 312 3 17 0 := ⟨⟨RX3, TX3, 20, tyX3, cc3, by decide, Or.inl tw_227⟩, rfl⟩
theorem fa_RX8_318 : FA RX8 318 2 3 0 := ⟨⟨RX2, TX2, 5, tyX2, cc2, by decide, Or.inl tw_287⟩, rfl⟩
theorem fa_RX8_324 : FA RX8 324 2 4 0 := ⟨⟨RX2, TX2, 5, tyX2, cc2, by decide, Or.inl tw_289⟩, rfl⟩
theorem fa_RX8_347 : FA RX8 347 5 1 0 := ⟨⟨RX5, TX5, 18, tyX5, cc5, by decide, Or.inl tw_42⟩, rfl⟩
theorem fa_RX8_350 : FA RX8 350 5 2 0 := ⟨⟨RX5, TX5, 18, tyX5, cc5, by decide, Or.inl tw_45⟩, rfl⟩
theorem fa_RX8_353 : FA RX8 353 5 3 0 := ⟨⟨RX5, TX5, 18, tyX5, cc5, by decide, Or.inl tw_48⟩, rfl⟩
theorem fa_RX8_356 : FA RX8 356 5 4 0 := ⟨⟨RX5, TX5, 18, tyX5, cc5, by decide, Or.inl tw_51⟩, rfl⟩
theorem fa_RX8_359 : FA RX8 359 5 12 0 := ⟨⟨RX5, TX5, 18, tyX5, cc5, by decide, Or.inl tw_78⟩, rfl⟩
theorem fa_RX8_362 : FA RX8 362 5 15 0 := ⟨⟨RX5, TX5, 18, tyX5, cc5, by decide, Or.inl tw_86⟩, rfl⟩
theorem fa_RX9_9 : FA RX9 9 9 8 1 := ⟨⟨RX9, TX9, 18, tyX9, cc9, by decide, Or.inl tw_1343⟩, rfl⟩
theorem fa_RX9_31 : FA RX9 31 9 14 1 := ⟨⟨RX9, TX9, 18, tyX9, cc9, by decide, Or.inl tw_1355⟩, rfl⟩
theorem fa_RX9_37 : FA RX9 37 9 16 1 := ⟨⟨RX9, TX9, 18, tyX9, cc9, by decide, Or.inl tw_1359⟩, rfl⟩
theorem fa_RX9_43 : FA RX9 43 9 4 0 := ⟨⟨RX9, TX9, 18, tyX9, cc9, by decide, Or.inl tw_1336⟩, rfl⟩
theorem fa_RX9_47 : FA RX9 47 9 5 0 := ⟨⟨RX9, TX9, 18, tyX9, cc9, by decide, Or.inl tw_1338⟩, rfl⟩
theorem fa_RX9_50 : FA RX9 50 9 6 0 := ⟨⟨RX9, TX9, 18, tyX9, cc9, by decide, Or.inl tw_1340⟩, rfl⟩
theorem fp_RX0_11 : FP RX0 11 0 1 true (tyX0 1) ∧ kd 0 1 = 1 ∧ ((tyX0 1)).isReference = true := ⟨⟨RX0, TX0, 5, tyX0, cc0, by decide, rfl, Or.inr ⟨rfl, rfl, rfl, tw_337⟩⟩, rfl, rfl⟩
theorem fp_RX0_15 : FP RX0 15 0 2 true (tyX0 2) ∧ kd 0 2 = 1 ∧ ((tyX0 2)).isReference = true := ⟨⟨RX0, TX0, 5, tyX0, cc0, by decide, rfl, Or.inr ⟨rfl, rfl, rfl, tw_339⟩⟩, rfl, rfl⟩
theorem fp_RX0_18 : FP RX0 18 0 3 true (tyX0 3) ∧ kd 0 3 = 1 ∧ ((tyX0 3)).isReference = true := ⟨⟨RX0, TX0, 5, tyX0, cc0, by decide, rfl, Or.inr ⟨rfl, rfl, rfl, tw_341⟩⟩, rfl, rfl⟩
theorem fp_RX0_21 : FP RX0 21 0 4 true (tyX0 4) ∧ kd 0 4 = 1 ∧ ((tyX0 4)).isReference = true := ⟨⟨RX0, TX0, 5, tyX0, cc0, by decide, rfl, Or.inr ⟨rfl, rfl, rfl, tw_343⟩⟩, rfl, rfl⟩
theorem fp_RX0_29 : FP RX0 29 0 0 true (tyX0 0) ∧ kd 0 0 = 1 ∧ ((tyX0 0)).isReference = true := ⟨⟨RX0, TX0, 5, tyX0, cc0, by decide, rfl, Or.inr ⟨rfl, rfl, rfl, tw_336⟩⟩, rfl, rfl⟩
theorem fp_RX1_9 : FP RX1 9 1 0 false .int ∧ kd 1 0 = 0 := ⟨⟨RX1, TX1, 2, tyX1, cc1, by decide, rfl, Or.inl ⟨rfl, rfl, Or.inl tw_362⟩⟩, rfl⟩
theorem fp_RX1_20 : FP RX1 20 1 1 false .int ∧ kd 1 1 = 0 := ⟨⟨RX1, TX1, 2, tyX1, cc1, by decide, rfl, Or.inl ⟨rfl, rfl, Or.inl tw_363⟩⟩, rfl⟩
theorem fp_RX10_9 : FP RX10 9 10 2 false .int ∧ kd 10 2 = 0 := ⟨⟨RX10, TX10, 38, tyX10, cc10, by decide, rfl, Or.inl ⟨rfl, rfl, Or.inl tw_1197⟩⟩, rfl⟩
theorem fp_RX10_13 : FP RX10 13 10 5 true (tyX10 5) ∧ kd 10 5 = 1 ∧ ((tyX10 5)).isReference = true := ⟨⟨RX10, TX10, 38, tyX10, cc10, by decide, rfl, Or.inr ⟨rfl, rfl, rfl, tw_1200⟩⟩, rfl, rfl⟩
theorem fp_RX10_17 : FP RX10 17 10 15 true (tyX10 15) ∧ kd 10 15 = 1 ∧ ((tyX10 15)).isReference = true := ⟨⟨RX10, TX10, 38, tyX10, cc10, by decide, rfl, Or.inr ⟨rfl, rfl, rfl, tw_1210⟩⟩, rfl, rfl⟩
theorem fp_RX10_21 : FP RX10 21 10 20 true (tyX10 20) ∧ kd 10 20 = 1 ∧ ((tyX10 20)).isReference = true := ⟨⟨RX10, TX10, 38, tyX10, cc10, by decide, rfl, Or.inr ⟨rfl, rfl, rfl, tw_1215⟩⟩, rfl, rfl⟩
theorem fp_RX10_24 : FP RX10 24 10 21 true (tyX10 21) ∧ kd 10 21 = 1 ∧ ((tyX10 21)).isReference = true := ⟨⟨RX10, TX10, 38, tyX10, cc10, by decide, rfl, Or.inr ⟨rfl, rfl, rfl, tw_1216⟩⟩, rfl, rfl⟩
theorem fp_RX10_27 : FP RX10 27 10 22 true (tyX10 22) ∧ kd 10 22 = 1 ∧ ((tyX10 22)).isReference = true := ⟨⟨RX10, TX10, 38, tyX10, cc10, by decide, rfl, Or.inr ⟨rfl, rfl, rfl, tw_1217⟩⟩, rfl, rfl⟩
theorem fp_RX10_30 : FP RX10 30 10 23 true (tyX10 23) ∧ kd 10 23 = 1 ∧ ((tyX10 23)).isReference = true := ⟨⟨RX10, TX10, 38, tyX10, cc10, by decide, rfl, Or.inr ⟨rfl, rfl, rfl, tw_1218⟩⟩, rfl, rfl⟩
theorem fp_RX10_33 : FP RX10 33 10 34 true (tyX10 34) ∧ kd 10 34 = 1 ∧ ((tyX10 34)).isReference = true := ⟨⟨RX10, TX10, 38, tyX10, cc10, by decide, rfl, Or.inr ⟨rfl, rfl, rfl, tw_1229⟩⟩, rfl, rfl⟩
theorem fp_RX10_36 : FP RX10 36 10 0 false .int ∧ kd 10 0 = 0 := ⟨⟨RX10, TX10, 38, tyX10, cc10, by decide, rfl, Or.inl ⟨rfl, rfl, Or.inl tw_1195⟩⟩, rfl⟩
theorem fp_RX10_39 : FP RX10 39 10 1 false .int ∧ kd 10 1 = 0 := ⟨⟨RX10, TX10, 38, tyX10, cc10, by decide, rfl, Or.inl ⟨rfl, rfl, Or.inl tw_1196⟩⟩, rfl⟩
theorem fp_RX10_53 : FP RX10 53 10 7 false .int ∧ kd 10 7 = 0 := ⟨⟨RX10, TX10, 38, tyX10, cc10, by decide, rfl, Or.inl ⟨rfl, rfl, Or.inl tw_1202⟩⟩, rfl⟩
theorem fp_RX10_68 : FP RX10 68 10 9 false .int ∧ kd 10 9 = 0 := ⟨⟨RX10, TX10, 38, tyX10, cc10, by decide, rfl, Or.inl ⟨rfl, rfl, Or.inl tw_1204⟩⟩, rfl⟩
theorem fp_RX10_71 : FP RX10 71 10 8 false .int ∧ kd 10 8 = 0 := ⟨⟨RX10, TX10, 38, tyX10, cc10, by decide, rfl, Or.inl ⟨rfl, rfl, Or.inl tw_1203⟩⟩, rfl⟩
theorem fp_RX10_77 : FP RX10 77 10 10 false .int ∧ kd 10 10 = 0 := ⟨⟨RX10, TX10, 38, tyX10, cc10, by decide, rfl, Or.inl ⟨rfl, rfl, Or.inl tw_1205⟩⟩, rfl⟩
theorem fp_RX10_84 : FP RX10 84 10 14 false .long ∧ kd 10 14 = 2 := ⟨⟨RX10, TX10, 38, tyX10, cc10, by decide, rfl, Or.inl ⟨rfl, rfl, Or.inl tw_1209⟩⟩, rfl⟩
theorem fp_RX10_91 : FP RX10 91 10 11 false .int ∧ kd 10 11 = 0 := ⟨⟨RX10, TX10, 38, tyX10, cc10, by decide, rfl, Or.inl ⟨rfl, rfl, Or.inl tw_1206⟩⟩, rfl⟩
theorem fp_RX10_94 : FP RX10 94 10 12 false .int ∧ kd 10 12 = 0 := ⟨⟨RX10, TX10, 38, tyX10, cc10, by decide, rfl, Or.inl ⟨rfl, rfl, Or.inl tw_1207⟩⟩, rfl⟩
theorem fp_RX10_97 : FP RX10 97 10 13 false .int ∧ kd 10 13 = 0 := ⟨⟨RX10, TX10, 38, tyX10, cc10, by decide, rfl, Or.inl ⟨rfl, rfl, Or.inl tw_1208⟩⟩, rfl⟩
theorem fp_RX10_130 : FP RX10 130 10 4 false (tyX10 4) ∧ kd 10 4 = 1 ∧ ((tyX10 4)).isReference = true := ⟨⟨RX10, TX10, 38, tyX10, cc10, by decide, rfl, Or.inl ⟨rfl, rfl, Or.inl tw_1199⟩⟩, rfl, rfl⟩
theorem fp_RX10_134 : FP RX10 134 9 0 false .int ∧ kd 9 0 = 0 := ⟨⟨RX9, TX9, 18, tyX9, cc9, by decide, rfl, Or.inl ⟨rfl, rfl, Or.inr ⟨"RenamedCellsModel", nw_1332⟩⟩⟩, rfl⟩
theorem fp_RX10_146 : FP RX10 146 9 4 false .int ∧ kd 9 4 = 0 := ⟨⟨RX9, TX9, 18, tyX9, cc9, by decide, rfl, Or.inl ⟨rfl, rfl, Or.inr ⟨"RenamedCellsModel", nw_1337⟩⟩⟩, rfl⟩
theorem fp_RX10_197 : FP RX10 197 9 1 false .int ∧ kd 9 1 = 0 := ⟨⟨RX9, TX9, 18, tyX9, cc9, by decide, rfl, Or.inl ⟨rfl, rfl, Or.inr ⟨"RenamedCellsModel", nw_1333⟩⟩⟩, rfl⟩
theorem fp_RX10_199 : FP RX10 199 9 2 false .int ∧ kd 9 2 = 0 := ⟨⟨RX9, TX9, 18, tyX9, cc9, by decide, rfl, Or.inl ⟨rfl, rfl, Or.inr ⟨"RenamedCellsModel", nw_1334⟩⟩⟩, rfl⟩
theorem fp_RX10_201 : FP RX10 201 9 3 false .int ∧ kd 9 3 = 0 := ⟨⟨RX9, TX9, 18, tyX9, cc9, by decide, rfl, Or.inl ⟨rfl, rfl, Or.inr ⟨"RenamedCellsModel", nw_1335⟩⟩⟩, rfl⟩
theorem fp_RX10_203 : FP RX10 203 9 7 false .boolean ∧ kd 9 7 = 0 := ⟨⟨RX9, TX9, 18, tyX9, cc9, by decide, rfl, Or.inl ⟨rfl, rfl, Or.inr ⟨"RenamedCellsModel", nw_1342⟩⟩⟩, rfl⟩
theorem fp_RX10_234 : FP RX10 234 9 5 false .int ∧ kd 9 5 = 0 := ⟨⟨RX9, TX9, 18, tyX9, cc9, by decide, rfl, Or.inl ⟨rfl, rfl, Or.inr ⟨"RenamedCellsModel", nw_1339⟩⟩⟩, rfl⟩
theorem fp_RX10_248 : FP RX10 248 9 6 false .int ∧ kd 9 6 = 0 := ⟨⟨RX9, TX9, 18, tyX9, cc9, by decide, rfl, Or.inl ⟨rfl, rfl, Or.inr ⟨"RenamedCellsModel", nw_1341⟩⟩⟩, rfl⟩
theorem fp_RX10_259 : FP RX10 259 10 6 false .int ∧ kd 10 6 = 0 := ⟨⟨RX10, TX10, 38, tyX10, cc10, by decide, rfl, Or.inl ⟨rfl, rfl, Or.inl tw_1201⟩⟩, rfl⟩
theorem fp_RX10_266 : FP RX10 266 10 3 false (tyX10 3) ∧ kd 10 3 = 1 ∧ ((tyX10 3)).isReference = true := ⟨⟨RX10, TX10, 38, tyX10, cc10, by decide, rfl, Or.inl ⟨rfl, rfl, Or.inl tw_1198⟩⟩, rfl, rfl⟩
theorem fp_RX10_274 : FP RX10 274 10 24 false .int ∧ kd 10 24 = 0 := ⟨⟨RX10, TX10, 38, tyX10, cc10, by decide, rfl, Or.inl ⟨rfl, rfl, Or.inl tw_1219⟩⟩, rfl⟩
theorem fp_RX10_277 : FP RX10 277 10 25 false .int ∧ kd 10 25 = 0 := ⟨⟨RX10, TX10, 38, tyX10, cc10, by decide, rfl, Or.inl ⟨rfl, rfl, Or.inl tw_1220⟩⟩, rfl⟩
theorem fp_RX10_284 : FP RX10 284 10 16 false .int ∧ kd 10 16 = 0 := ⟨⟨RX10, TX10, 38, tyX10, cc10, by decide, rfl, Or.inl ⟨rfl, rfl, Or.inl tw_1211⟩⟩, rfl⟩
theorem fp_RX10_287 : FP RX10 287 10 17 false .int ∧ kd 10 17 = 0 := ⟨⟨RX10, TX10, 38, tyX10, cc10, by decide, rfl, Or.inl ⟨rfl, rfl, Or.inl tw_1212⟩⟩, rfl⟩
theorem fp_RX10_290 : FP RX10 290 10 19 false .int ∧ kd 10 19 = 0 := ⟨⟨RX10, TX10, 38, tyX10, cc10, by decide, rfl, Or.inl ⟨rfl, rfl, Or.inl tw_1214⟩⟩, rfl⟩
theorem fp_RX10_293 : FP RX10 293 10 18 false .int ∧ kd 10 18 = 0 := ⟨⟨RX10, TX10, 38, tyX10, cc10, by decide, rfl, Or.inl ⟨rfl, rfl, Or.inl tw_1213⟩⟩, rfl⟩
theorem fp_RX10_315 : FP RX10 315 10 26 false .int ∧ kd 10 26 = 0 := ⟨⟨RX10, TX10, 38, tyX10, cc10, by decide, rfl, Or.inl ⟨rfl, rfl, Or.inl tw_1221⟩⟩, rfl⟩
theorem fp_RX10_360 : FP RX10 360 10 27 false .boolean ∧ kd 10 27 = 0 := ⟨⟨RX10, TX10, 38, tyX10, cc10, by decide, rfl, Or.inl ⟨rfl, rfl, Or.inl tw_1222⟩⟩, rfl⟩
theorem fp_RX10_399 : FP RX10 399 10 29 false .int ∧ kd 10 29 = 0 := ⟨⟨RX10, TX10, 38, tyX10, cc10, by decide, rfl, Or.inl ⟨rfl, rfl, Or.inl tw_1224⟩⟩, rfl⟩
theorem fp_RX10_405 : FP RX10 405 10 28 false .int ∧ kd 10 28 = 0 := ⟨⟨RX10, TX10, 38, tyX10, cc10, by decide, rfl, Or.inl ⟨rfl, rfl, Or.inl tw_1223⟩⟩, rfl⟩
theorem fp_RX10_408 : FP RX10 408 10 30 false .int ∧ kd 10 30 = 0 := ⟨⟨RX10, TX10, 38, tyX10, cc10, by decide, rfl, Or.inl ⟨rfl, rfl, Or.inl tw_1225⟩⟩, rfl⟩
theorem fp_RX10_424 : FP RX10 424 10 31 false .int ∧ kd 10 31 = 0 := ⟨⟨RX10, TX10, 38, tyX10, cc10, by decide, rfl, Or.inl ⟨rfl, rfl, Or.inl tw_1226⟩⟩, rfl⟩
theorem fp_RX10_427 : FP RX10 427 10 32 false .int ∧ kd 10 32 = 0 := ⟨⟨RX10, TX10, 38, tyX10, cc10, by decide, rfl, Or.inl ⟨rfl, rfl, Or.inl tw_1227⟩⟩, rfl⟩
theorem fp_RX10_430 : FP RX10 430 10 33 false .int ∧ kd 10 33 = 0 := ⟨⟨RX10, TX10, 38, tyX10, cc10, by decide, rfl, Or.inl ⟨rfl, rfl, Or.inl tw_1228⟩⟩, rfl⟩
theorem fp_RX10_439 : FP RX10 439 10 35 false .int ∧ kd 10 35 = 0 := ⟨⟨RX10, TX10, 38, tyX10, cc10, by decide, rfl, Or.inl ⟨rfl, rfl, Or.inl tw_1230⟩⟩, rfl⟩
theorem fp_RX10_447 : FP RX10 447 10 36 false .int ∧ kd 10 36 = 0 := ⟨⟨RX10, TX10, 38, tyX10, cc10, by decide, rfl, Or.inl ⟨rfl, rfl, Or.inl tw_1231⟩⟩, rfl⟩
theorem fp_RX10_454 : FP RX10 454 10 37 false .int ∧ kd 10 37 = 0 := ⟨⟨RX10, TX10, 38, tyX10, cc10, by decide, rfl, Or.inl ⟨rfl, rfl, Or.inl tw_1232⟩⟩, rfl⟩
theorem fp_RX2_11 : FP RX2 11 2 0 true (tyX2 0) ∧ kd 2 0 = 1 ∧ ((tyX2 0)).isReference = true := ⟨⟨RX2, TX2, 5, tyX2, cc2, by decide, rfl, Or.inr ⟨rfl, rfl, rfl, tw_283⟩⟩, rfl, rfl⟩
theorem fp_RX2_17 : FP RX2 17 2 1 true (tyX2 1) ∧ kd 2 1 = 1 ∧ ((tyX2 1)).isReference = true := ⟨⟨RX2, TX2, 5, tyX2, cc2, by decide, rfl, Or.inr ⟨rfl, rfl, rfl, tw_284⟩⟩, rfl, rfl⟩
theorem fp_RX2_23 : FP RX2 23 2 3 false .int ∧ kd 2 3 = 0 := ⟨⟨RX2, TX2, 5, tyX2, cc2, by decide, rfl, Or.inl ⟨rfl, rfl, Or.inl tw_286⟩⟩, rfl⟩
theorem fp_RX2_27 : FP RX2 27 2 4 false .int ∧ kd 2 4 = 0 := ⟨⟨RX2, TX2, 5, tyX2, cc2, by decide, rfl, Or.inl ⟨rfl, rfl, Or.inl tw_288⟩⟩, rfl⟩
theorem fp_RX2_30 : FP RX2 30 2 2 false .int ∧ kd 2 2 = 0 := ⟨⟨RX2, TX2, 5, tyX2, cc2, by decide, rfl, Or.inl ⟨rfl, rfl, Or.inl tw_285⟩⟩, rfl⟩
theorem fp_RX3_9 : FP RX3 9 3 2 true (tyX3 2) ∧ kd 3 2 = 1 ∧ ((tyX3 2)).isReference = true := ⟨⟨RX3, TX3, 20, tyX3, cc3, by decide, rfl, Or.inr ⟨rfl, rfl, rfl, tw_197⟩⟩, rfl, rfl⟩
theorem fp_RX3_15 : FP RX3 15 3 4 true (tyX3 4) ∧ kd 3 4 = 1 ∧ ((tyX3 4)).isReference = true := ⟨⟨RX3, TX3, 20, tyX3, cc3, by decide, rfl, Or.inr ⟨rfl, rfl, rfl, tw_201⟩⟩, rfl, rfl⟩
theorem fp_RX3_18 : FP RX3 18 3 7 true (tyX3 7) ∧ kd 3 7 = 1 ∧ ((tyX3 7)).isReference = true := ⟨⟨RX3, TX3, 20, tyX3, cc3, by decide, rfl, Or.inr ⟨rfl, rfl, rfl, tw_207⟩⟩, rfl, rfl⟩
theorem fp_RX3_21 : FP RX3 21 3 8 true (tyX3 8) ∧ kd 3 8 = 1 ∧ ((tyX3 8)).isReference = true := ⟨⟨RX3, TX3, 20, tyX3, cc3, by decide, rfl, Or.inr ⟨rfl, rfl, rfl, tw_209⟩⟩, rfl, rfl⟩
theorem fp_RX3_24 : FP RX3 24 3 9 true (tyX3 9) ∧ kd 3 9 = 1 ∧ ((tyX3 9)).isReference = true := ⟨⟨RX3, TX3, 20, tyX3, cc3, by decide, rfl, Or.inr ⟨rfl, rfl, rfl, tw_211⟩⟩, rfl, rfl⟩
theorem fp_RX3_27 : FP RX3 27 3 10 true (tyX3 10) ∧ kd 3 10 = 1 ∧ ((tyX3 10)).isReference = true := ⟨⟨RX3, TX3, 20, tyX3, cc3, by decide, rfl, Or.inr ⟨rfl, rfl, rfl, tw_213⟩⟩, rfl, rfl⟩
theorem fp_RX3_30 : FP RX3 30 3 0 false (tyX3 0) ∧ kd 3 0 = 1 ∧ ((tyX3 0)).isReference = true := ⟨⟨RX3, TX3, 20, tyX3, cc3, by decide, rfl, Or.inl ⟨rfl, rfl, Or.inl tw_195⟩⟩, rfl, rfl⟩
theorem fp_RX3_34 : FP RX3 34 3 1 false .int ∧ kd 3 1 = 0 := ⟨⟨RX3, TX3, 20, tyX3, cc3, by decide, rfl, Or.inl ⟨rfl, rfl, Or.inl tw_196⟩⟩, rfl⟩
theorem fp_RX3_44 : FP RX3 44 3 3 false .int ∧ kd 3 3 = 0 := ⟨⟨RX3, TX3, 20, tyX3, cc3, by decide, rfl, Or.inl ⟨rfl, rfl, Or.inl tw_199⟩⟩, rfl⟩
theorem fp_RX3_47 : FP RX3 47 3 5 false .int ∧ kd 3 5 = 0 := ⟨⟨RX3, TX3, 20, tyX3, cc3, by decide, rfl, Or.inl ⟨rfl, rfl, Or.inl tw_203⟩⟩, rfl⟩
theorem fp_RX3_54 : FP RX3 54 3 16 false .int ∧ kd 3 16 = 0 := ⟨⟨RX3, TX3, 20, tyX3, cc3, by decide, rfl, Or.inl ⟨rfl, rfl, Or.inl tw_224⟩⟩, rfl⟩
theorem fp_RX3_57 : FP RX3 57 3 17 false .boolean ∧ kd 3 17 = 0 := ⟨⟨RX3, TX3, 20, tyX3, cc3, by decide, rfl, Or.inl ⟨rfl, rfl, Or.inl tw_226⟩⟩, rfl⟩
theorem fp_RX3_61 : FP RX3 61 3 18 false .boolean ∧ kd 3 18 = 0 := ⟨⟨RX3, TX3, 20, tyX3, cc3, by decide, rfl, Or.inl ⟨rfl, rfl, Or.inl tw_228⟩⟩, rfl⟩
theorem fp_RX3_64 : FP RX3 64 3 19 false .int ∧ kd 3 19 = 0 := ⟨⟨RX3, TX3, 20, tyX3, cc3, by decide, rfl, Or.inl ⟨rfl, rfl, Or.inl tw_230⟩⟩, rfl⟩
theorem fp_RX3_73 : FP RX3 73 3 6 false .int ∧ kd 3 6 = 0 := ⟨⟨RX3, TX3, 20, tyX3, cc3, by decide, rfl, Or.inl ⟨rfl, rfl, Or.inl tw_204⟩⟩, rfl⟩
theorem fp_RX3_76 : FP RX3 76 3 11 false .int ∧ kd 3 11 = 0 := ⟨⟨RX3, TX3, 20, tyX3, cc3, by decide, rfl, Or.inl ⟨rfl, rfl, Or.inl tw_215⟩⟩, rfl⟩
theorem fp_RX3_79 : FP RX3 79 3 12 false .int ∧ kd 3 12 = 0 := ⟨⟨RX3, TX3, 20, tyX3, cc3, by decide, rfl, Or.inl ⟨rfl, rfl, Or.inl tw_216⟩⟩, rfl⟩
theorem fp_RX3_82 : FP RX3 82 3 13 false .int ∧ kd 3 13 = 0 := ⟨⟨RX3, TX3, 20, tyX3, cc3, by decide, rfl, Or.inl ⟨rfl, rfl, Or.inl tw_218⟩⟩, rfl⟩
theorem fp_RX3_85 : FP RX3 85 3 14 false .int ∧ kd 3 14 = 0 := ⟨⟨RX3, TX3, 20, tyX3, cc3, by decide, rfl, Or.inl ⟨rfl, rfl, Or.inl tw_220⟩⟩, rfl⟩
theorem fp_RX3_88 : FP RX3 88 3 15 false .int ∧ kd 3 15 = 0 := ⟨⟨RX3, TX3, 20, tyX3, cc3, by decide, rfl, Or.inl ⟨rfl, rfl, Or.inl tw_222⟩⟩, rfl⟩
theorem fp_RX4_9 : FP RX4 9 4 0 true (tyX4 0) ∧ kd 4 0 = 1 ∧ ((tyX4 0)).isReference = true := ⟨⟨RX4, TX4, 5, tyX4, cc4, by decide, rfl, Or.inr ⟨rfl, rfl, rfl, tw_307⟩⟩, rfl, rfl⟩
theorem fp_RX4_21 : FP RX4 21 4 1 false .int ∧ kd 4 1 = 0 := ⟨⟨RX4, TX4, 5, tyX4, cc4, by decide, rfl, Or.inl ⟨rfl, rfl, Or.inl tw_309⟩⟩, rfl⟩
theorem fp_RX4_25 : FP RX4 25 4 2 false .int ∧ kd 4 2 = 0 := ⟨⟨RX4, TX4, 5, tyX4, cc4, by decide, rfl, Or.inl ⟨rfl, rfl, Or.inl tw_311⟩⟩, rfl⟩
theorem fp_RX4_28 : FP RX4 28 4 3 false .int ∧ kd 4 3 = 0 := ⟨⟨RX4, TX4, 5, tyX4, cc4, by decide, rfl, Or.inl ⟨rfl, rfl, Or.inl tw_313⟩⟩, rfl⟩
theorem fp_RX4_31 : FP RX4 31 4 4 false .boolean ∧ kd 4 4 = 0 := ⟨⟨RX4, TX4, 5, tyX4, cc4, by decide, rfl, Or.inl ⟨rfl, rfl, Or.inl tw_315⟩⟩, rfl⟩
theorem fp_RX5_9 : FP RX5 9 5 6 true (tyX5 6) ∧ kd 5 6 = 1 ∧ ((tyX5 6)).isReference = true := ⟨⟨RX5, TX5, 18, tyX5, cc5, by decide, rfl, Or.inr ⟨rfl, rfl, rfl, tw_55⟩⟩, rfl, rfl⟩
theorem fp_RX5_15 : FP RX5 15 5 7 true (tyX5 7) ∧ kd 5 7 = 1 ∧ ((tyX5 7)).isReference = true := ⟨⟨RX5, TX5, 18, tyX5, cc5, by decide, rfl, Or.inr ⟨rfl, rfl, rfl, tw_59⟩⟩, rfl, rfl⟩
theorem fp_RX5_18 : FP RX5 18 5 8 true (tyX5 8) ∧ kd 5 8 = 1 ∧ ((tyX5 8)).isReference = true := ⟨⟨RX5, TX5, 18, tyX5, cc5, by decide, rfl, Or.inr ⟨rfl, rfl, rfl, tw_63⟩⟩, rfl, rfl⟩
theorem fp_RX5_21 : FP RX5 21 5 9 true (tyX5 9) ∧ kd 5 9 = 1 ∧ ((tyX5 9)).isReference = true := ⟨⟨RX5, TX5, 18, tyX5, cc5, by decide, rfl, Or.inr ⟨rfl, rfl, rfl, tw_67⟩⟩, rfl, rfl⟩
theorem fp_RX5_24 : FP RX5 24 5 10 true (tyX5 10) ∧ kd 5 10 = 1 ∧ ((tyX5 10)).isReference = true := ⟨⟨RX5, TX5, 18, tyX5, cc5, by decide, rfl, Or.inr ⟨rfl, rfl, rfl, tw_71⟩⟩, rfl, rfl⟩
theorem fp_RX5_27 : FP RX5 27 5 11 true (tyX5 11) ∧ kd 5 11 = 1 ∧ ((tyX5 11)).isReference = true := ⟨⟨RX5, TX5, 18, tyX5, cc5, by decide, rfl, Or.inr ⟨rfl, rfl, rfl, tw_73⟩⟩, rfl, rfl⟩
theorem fp_RX5_31 : FP RX5 31 5 13 true (tyX5 13) ∧ kd 5 13 = 1 ∧ ((tyX5 13)).isReference = true := ⟨⟨RX5, TX5, 18, tyX5, cc5, by decide, rfl, Or.inr ⟨rfl, rfl, rfl, tw_79⟩⟩, rfl, rfl⟩
theorem fp_RX5_34 : FP RX5 34 5 14 true (tyX5 14) ∧ kd 5 14 = 1 ∧ ((tyX5 14)).isReference = true := ⟨⟨RX5, TX5, 18, tyX5, cc5, by decide, rfl, Or.inr ⟨rfl, rfl, rfl, tw_81⟩⟩, rfl, rfl⟩
theorem fp_RX5_37 : FP RX5 37 5 16 true (tyX5 16) ∧ kd 5 16 = 1 ∧ ((tyX5 16)).isReference = true := ⟨⟨RX5, TX5, 18, tyX5, cc5, by decide, rfl, Or.inr ⟨rfl, rfl, rfl, tw_87⟩⟩, rfl, rfl⟩
theorem fp_RX5_40 : FP RX5 40 5 17 true (tyX5 17) ∧ kd 5 17 = 1 ∧ ((tyX5 17)).isReference = true := ⟨⟨RX5, TX5, 18, tyX5, cc5, by decide, rfl, Or.inr ⟨rfl, rfl, rfl, tw_90⟩⟩, rfl, rfl⟩
theorem fp_RX5_43 : FP RX5 43 5 5 false .int ∧ kd 5 5 = 0 := ⟨⟨RX5, TX5, 18, tyX5, cc5, by decide, rfl, Or.inl ⟨rfl, rfl, Or.inl tw_52⟩⟩, rfl⟩
theorem fp_RX5_47 : FP RX5 47 5 12 false .int ∧ kd 5 12 = 0 := ⟨⟨RX5, TX5, 18, tyX5, cc5, by decide, rfl, Or.inl ⟨rfl, rfl, Or.inl tw_75⟩⟩, rfl⟩
theorem fp_RX5_50 : FP RX5 50 5 15 false .int ∧ kd 5 15 = 0 := ⟨⟨RX5, TX5, 18, tyX5, cc5, by decide, rfl, Or.inl ⟨rfl, rfl, Or.inl tw_83⟩⟩, rfl⟩
theorem fp_RX6_9 : FP RX6 9 6 2 false (tyX6 2) ∧ kd 6 2 = 1 ∧ ((tyX6 2)).isReference = true := ⟨⟨RX6, TX6, 8, tyX6, cc6, by decide, rfl, Or.inl ⟨rfl, rfl, Or.inl tw_166⟩⟩, rfl, rfl⟩
theorem fp_RX6_18 : FP RX6 18 6 3 true (tyX6 3) ∧ kd 6 3 = 1 ∧ ((tyX6 3)).isReference = true := ⟨⟨RX6, TX6, 8, tyX6, cc6, by decide, rfl, Or.inr ⟨rfl, rfl, rfl, tw_167⟩⟩, rfl, rfl⟩
theorem fp_RX6_22 : FP RX6 22 6 7 false (tyX6 7) ∧ kd 6 7 = 1 ∧ ((tyX6 7)).isReference = true := ⟨⟨RX6, TX6, 8, tyX6, cc6, by decide, rfl, Or.inl ⟨rfl, rfl, Or.inl tw_171⟩⟩, rfl, rfl⟩
theorem fp_RX6_36 : FP RX6 36 6 4 false .int ∧ kd 6 4 = 0 := ⟨⟨RX6, TX6, 8, tyX6, cc6, by decide, rfl, Or.inl ⟨rfl, rfl, Or.inl tw_168⟩⟩, rfl⟩
theorem fp_RX6_40 : FP RX6 40 6 0 false .int ∧ kd 6 0 = 0 := ⟨⟨RX6, TX6, 8, tyX6, cc6, by decide, rfl, Or.inl ⟨rfl, rfl, Or.inl tw_162⟩⟩, rfl⟩
theorem fp_RX6_43 : FP RX6 43 6 1 false .int ∧ kd 6 1 = 0 := ⟨⟨RX6, TX6, 8, tyX6, cc6, by decide, rfl, Or.inl ⟨rfl, rfl, Or.inl tw_164⟩⟩, rfl⟩
theorem fp_RX6_59 : FP RX6 59 5 5 false .int ∧ kd 5 5 = 0 := ⟨⟨RX5, TX5, 18, tyX5, cc5, by decide, rfl, Or.inl ⟨rfl, rfl, Or.inl tw_53⟩⟩, rfl⟩
theorem fp_RX6_82 : FP RX6 82 5 12 false .int ∧ kd 5 12 = 0 := ⟨⟨RX5, TX5, 18, tyX5, cc5, by decide, rfl, Or.inl ⟨rfl, rfl, Or.inl tw_77⟩⟩, rfl⟩
theorem fp_RX6_88 : FP RX6 88 5 15 false .int ∧ kd 5 15 = 0 := ⟨⟨RX5, TX5, 18, tyX5, cc5, by decide, rfl, Or.inl ⟨rfl, rfl, Or.inl tw_85⟩⟩, rfl⟩
theorem fp_RX6_131 : FP RX6 131 6 5 false .int ∧ kd 6 5 = 0 := ⟨⟨RX6, TX6, 8, tyX6, cc6, by decide, rfl, Or.inl ⟨rfl, rfl, Or.inl tw_169⟩⟩, rfl⟩
theorem fp_RX6_134 : FP RX6 134 5 0 false .int ∧ kd 5 0 = 0 := ⟨⟨RX5, TX5, 18, tyX5, cc5, by decide, rfl, Or.inl ⟨rfl, rfl, Or.inl tw_39⟩⟩, rfl⟩
theorem fp_RX6_138 : FP RX6 138 5 1 false .int ∧ kd 5 1 = 0 := ⟨⟨RX5, TX5, 18, tyX5, cc5, by decide, rfl, Or.inl ⟨rfl, rfl, Or.inl tw_40⟩⟩, rfl⟩
theorem fp_RX6_142 : FP RX6 142 5 2 false .int ∧ kd 5 2 = 0 := ⟨⟨RX5, TX5, 18, tyX5, cc5, by decide, rfl, Or.inl ⟨rfl, rfl, Or.inl tw_43⟩⟩, rfl⟩
theorem fp_RX6_146 : FP RX6 146 5 3 false .int ∧ kd 5 3 = 0 := ⟨⟨RX5, TX5, 18, tyX5, cc5, by decide, rfl, Or.inl ⟨rfl, rfl, Or.inl tw_46⟩⟩, rfl⟩
theorem fp_RX6_150 : FP RX6 150 5 4 false .boolean ∧ kd 5 4 = 0 := ⟨⟨RX5, TX5, 18, tyX5, cc5, by decide, rfl, Or.inl ⟨rfl, rfl, Or.inl tw_49⟩⟩, rfl⟩
theorem fp_RX6_188 : FP RX6 188 6 6 false .int ∧ kd 6 6 = 0 := ⟨⟨RX6, TX6, 8, tyX6, cc6, by decide, rfl, Or.inl ⟨rfl, rfl, Or.inl tw_170⟩⟩, rfl⟩
theorem fp_RX7_9 : FP RX7 9 7 0 true (tyX7 0) ∧ kd 7 0 = 1 ∧ ((tyX7 0)).isReference = true := ⟨⟨RX7, TX7, 4, tyX7, cc7, by decide, rfl, Or.inr ⟨rfl, rfl, rfl, tw_145⟩⟩, rfl, rfl⟩
theorem fp_RX7_15 : FP RX7 15 7 1 true (tyX7 1) ∧ kd 7 1 = 1 ∧ ((tyX7 1)).isReference = true := ⟨⟨RX7, TX7, 4, tyX7, cc7, by decide, rfl, Or.inr ⟨rfl, rfl, rfl, tw_147⟩⟩, rfl, rfl⟩
theorem fp_RX7_18 : FP RX7 18 7 2 true (tyX7 2) ∧ kd 7 2 = 1 ∧ ((tyX7 2)).isReference = true := ⟨⟨RX7, TX7, 4, tyX7, cc7, by decide, rfl, Or.inr ⟨rfl, rfl, rfl, tw_149⟩⟩, rfl, rfl⟩
theorem fp_RX7_32 : FP RX7 32 7 3 false .int ∧ kd 7 3 = 0 := ⟨⟨RX7, TX7, 4, tyX7, cc7, by decide, rfl, Or.inl ⟨rfl, rfl, Or.inl tw_151⟩⟩, rfl⟩
theorem fp_RX8_9 : FP RX8 9 8 0 true (tyX8 0) ∧ kd 8 0 = 1 ∧ ((tyX8 0)).isReference = true := ⟨⟨RX8, TX8, 13, tyX8, cc8, by decide, rfl, Or.inr ⟨rfl, rfl, rfl, tw_369⟩⟩, rfl, rfl⟩
theorem fp_RX8_16 : FP RX8 16 8 3 false (tyX8 3) ∧ kd 8 3 = 1 ∧ ((tyX8 3)).isReference = true := ⟨⟨RX8, TX8, 13, tyX8, cc8, by decide, rfl, Or.inl ⟨rfl, rfl, Or.inl tw_372⟩⟩, rfl, rfl⟩
theorem fp_RX8_20 : FP RX8 20 8 4 false (tyX8 4) ∧ kd 8 4 = 1 ∧ ((tyX8 4)).isReference = true := ⟨⟨RX8, TX8, 13, tyX8, cc8, by decide, rfl, Or.inl ⟨rfl, rfl, Or.inl tw_373⟩⟩, rfl, rfl⟩
theorem fp_RX8_28 : FP RX8 28 8 5 true (tyX8 5) ∧ kd 8 5 = 1 ∧ ((tyX8 5)).isReference = true := ⟨⟨RX8, TX8, 13, tyX8, cc8, by decide, rfl, Or.inr ⟨rfl, rfl, rfl, tw_374⟩⟩, rfl, rfl⟩
theorem fp_RX8_35 : FP RX8 35 8 6 true (tyX8 6) ∧ kd 8 6 = 1 ∧ ((tyX8 6)).isReference = true := ⟨⟨RX8, TX8, 13, tyX8, cc8, by decide, rfl, Or.inr ⟨rfl, rfl, rfl, tw_375⟩⟩, rfl, rfl⟩
theorem fp_RX8_39 : FP RX8 39 8 7 true (tyX8 7) ∧ kd 8 7 = 1 ∧ ((tyX8 7)).isReference = true := ⟨⟨RX8, TX8, 13, tyX8, cc8, by decide, rfl, Or.inr ⟨rfl, rfl, rfl, tw_376⟩⟩, rfl, rfl⟩
theorem fp_RX8_45 : FP RX8 45 8 8 true (tyX8 8) ∧ kd 8 8 = 1 ∧ ((tyX8 8)).isReference = true := ⟨⟨RX8, TX8, 13, tyX8, cc8, by decide, rfl, Or.inr ⟨rfl, rfl, rfl, tw_377⟩⟩, rfl, rfl⟩
theorem fp_RX8_52 : FP RX8 52 8 9 true (tyX8 9) ∧ kd 8 9 = 1 ∧ ((tyX8 9)).isReference = true := ⟨⟨RX8, TX8, 13, tyX8, cc8, by decide, rfl, Or.inr ⟨rfl, rfl, rfl, tw_378⟩⟩, rfl, rfl⟩
theorem fp_RX8_59 : FP RX8 59 8 10 true (tyX8 10) ∧ kd 8 10 = 1 ∧ ((tyX8 10)).isReference = true := ⟨⟨RX8, TX8, 13, tyX8, cc8, by decide, rfl, Or.inr ⟨rfl, rfl, rfl, tw_379⟩⟩, rfl, rfl⟩
theorem fp_RX8_66 : FP RX8 66 8 11 true (tyX8 11) ∧ kd 8 11 = 1 ∧ ((tyX8 11)).isReference = true := ⟨⟨RX8, TX8, 13, tyX8, cc8, by decide, rfl, Or.inr ⟨rfl, rfl, rfl, tw_380⟩⟩, rfl, rfl⟩
theorem fp_RX8_70 : FP RX8 70 8 2 false .boolean ∧ kd 8 2 = 0 := ⟨⟨RX8, TX8, 13, tyX8, cc8, by decide, rfl, Or.inl ⟨rfl, rfl, Or.inl tw_371⟩⟩, rfl⟩
theorem fp_RX8_74 : FP RX8 74 8 1 false .int ∧ kd 8 1 = 0 := ⟨⟨RX8, TX8, 13, tyX8, cc8, by decide, rfl, Or.inl ⟨rfl, rfl, Or.inl tw_370⟩⟩, rfl⟩
theorem fp_RX8_78 : FP RX8 78 8 12 false .int ∧ kd 8 12 = 0 := ⟨⟨RX8, TX8, 13, tyX8, cc8, by decide, rfl, Or.inl ⟨rfl, rfl, Or.inl tw_381⟩⟩, rfl⟩
theorem fp_RX9_9 : FP RX9 9 9 8 true (tyX9 8) ∧ kd 9 8 = 1 ∧ ((tyX9 8)).isReference = true := ⟨⟨RX9, TX9, 18, tyX9, cc9, by decide, rfl, Or.inr ⟨rfl, rfl, rfl, tw_1343⟩⟩, rfl, rfl⟩
theorem fp_RX9_15 : FP RX9 15 9 9 true (tyX9 9) ∧ kd 9 9 = 1 ∧ ((tyX9 9)).isReference = true := ⟨⟨RX9, TX9, 18, tyX9, cc9, by decide, rfl, Or.inr ⟨rfl, rfl, rfl, tw_1345⟩⟩, rfl, rfl⟩
theorem fp_RX9_18 : FP RX9 18 9 10 true (tyX9 10) ∧ kd 9 10 = 1 ∧ ((tyX9 10)).isReference = true := ⟨⟨RX9, TX9, 18, tyX9, cc9, by decide, rfl, Or.inr ⟨rfl, rfl, rfl, tw_1347⟩⟩, rfl, rfl⟩
theorem fp_RX9_21 : FP RX9 21 9 11 true (tyX9 11) ∧ kd 9 11 = 1 ∧ ((tyX9 11)).isReference = true := ⟨⟨RX9, TX9, 18, tyX9, cc9, by decide, rfl, Or.inr ⟨rfl, rfl, rfl, tw_1349⟩⟩, rfl, rfl⟩
theorem fp_RX9_24 : FP RX9 24 9 12 true (tyX9 12) ∧ kd 9 12 = 1 ∧ ((tyX9 12)).isReference = true := ⟨⟨RX9, TX9, 18, tyX9, cc9, by decide, rfl, Or.inr ⟨rfl, rfl, rfl, tw_1351⟩⟩, rfl, rfl⟩
theorem fp_RX9_27 : FP RX9 27 9 13 true (tyX9 13) ∧ kd 9 13 = 1 ∧ ((tyX9 13)).isReference = true := ⟨⟨RX9, TX9, 18, tyX9, cc9, by decide, rfl, Or.inr ⟨rfl, rfl, rfl, tw_1353⟩⟩, rfl, rfl⟩
theorem fp_RX9_31 : FP RX9 31 9 14 true (tyX9 14) ∧ kd 9 14 = 1 ∧ ((tyX9 14)).isReference = true := ⟨⟨RX9, TX9, 18, tyX9, cc9, by decide, rfl, Or.inr ⟨rfl, rfl, rfl, tw_1355⟩⟩, rfl, rfl⟩
theorem fp_RX9_34 : FP RX9 34 9 15 true (tyX9 15) ∧ kd 9 15 = 1 ∧ ((tyX9 15)).isReference = true := ⟨⟨RX9, TX9, 18, tyX9, cc9, by decide, rfl, Or.inr ⟨rfl, rfl, rfl, tw_1357⟩⟩, rfl, rfl⟩
theorem fp_RX9_37 : FP RX9 37 9 16 true (tyX9 16) ∧ kd 9 16 = 1 ∧ ((tyX9 16)).isReference = true := ⟨⟨RX9, TX9, 18, tyX9, cc9, by decide, rfl, Or.inr ⟨rfl, rfl, rfl, tw_1359⟩⟩, rfl, rfl⟩
theorem fp_RX9_40 : FP RX9 40 9 17 true (tyX9 17) ∧ kd 9 17 = 1 ∧ ((tyX9 17)).isReference = true := ⟨⟨RX9, TX9, 18, tyX9, cc9, by decide, rfl, Or.inr ⟨rfl, rfl, rfl, tw_1361⟩⟩, rfl, rfl⟩
abbrev K_J0_isLatin1_aae02 : MK := (1, RJ0, some .boolean, false, 0, 0, 0, 0)
abbrev K_J1_charAt_3b067 : MK := (2, RJ1, some .char, false, 2, 43, 0, 0)
abbrev K_J0_charAt_5068e : MK := (2, RJ0, some .char, false, 3, 64, 0, 0)
abbrev K_J0_coder_7d493 : MK := (1, RJ0, some .byte, false, 0, 0, 0, 0)
abbrev K_J0_length_8abf5 : MK := (1, RJ0, some .int, false, 1, 20, 0, 0)
abbrev K_J3_checkIndex_8e157 : MK := (3, RJ3, some .int, false, 0, 0, 0, 0)
abbrev K_J6_bitCount_0f7a4 : MK := (1, RJ6, some .int, false, 0, 0, 0, 0)
abbrev K_J6_numberOfTrailingZeros_0f7a4 : MK := (2, RJ6, some .int, false, 0, 0, 0, 0)
abbrev K_J7_fill_53178 : MK := (4, RJ7, none, false, 0, 0, 0, 0)
abbrev K_X0_forget : MK := (1, RX0, none, false, 1, 23, 0, 0)
abbrev K_X3_isDone : MK := (2, RX3, some .boolean, false, 0, 0, 0, 0)
abbrev K_X3_isReady : MK := (2, RX3, some .boolean, false, 0, 0, 0, 0)
abbrev K_X3_whyNotRetire : MK := (2, RX3, some .int, false, 1, 21, 0, 0)
abbrev K_X3_keepOldest : MK := (3, RX3, none, false, 0, 0, 0, 0)
abbrev K_X8_isRegister : MK := (1, RX8, some .boolean, false, 0, 0, 0, 0)
abbrev K_X3_bitOf : MK := (1, RX3, some .int, false, 0, 0, 0, 0)
abbrev K_X3_dropOldest : MK := (1, RX3, none, false, 1, 26, 0, 0)
abbrev K_X3_retire : MK := (3, RX3, some .int, false, 2, 46, 0, 0)
abbrev K_X3_canRead : MK := (2, RX3, some .boolean, false, 1, 21, 0, 0)
abbrev K_X3_canWork : MK := (2, RX3, some .boolean, false, 2, 42, 0, 0)
abbrev K_X3_oldestToWork : MK := (2, RX3, some .int, false, 3, 63, 0, 0)
abbrev K_X3_valueRead : MK := (2, RX3, some .int, false, 0, 0, 0, 0)
abbrev K_X5_nextBehind : MK := (4, RX5, some .int, false, 0, 0, 0, 0)
abbrev K_X3_nextOf : MK := (2, RX3, some .int, false, 1, 23, 0, 0)
abbrev K_X5_guessBehind : MK := (2, RX5, some .int, false, 0, 0, 0, 0)
abbrev K_X3_misguessed : MK := (2, RX3, some .boolean, false, 2, 44, 0, 0)
abbrev K_X3_workSkip : MK := (4, RX3, some .int, false, 2, 44, 0, 0)
abbrev K_X5_outcome : MK := (4, RX5, some .int, false, 0, 0, 0, 0)
abbrev K_X3_work : MK := (3, RX3, some .int, false, 3, 67, 0, 0)
abbrev K_X5_has : MK := (2, RX5, some .boolean, false, 0, 0, 0, 0)
abbrev K_X3_mapBy : MK := (4, RX3, some .int, false, 0, 0, 0, 0)
abbrev K_X3_sureOnes : MK := (2, RX3, some .int, false, 1, 21, 0, 0)
abbrev K_X3_letGoBits : MK := (7, RX3, some .int, false, 2, 42, 0, 0)
abbrev K_X3_holdersBut : MK := (5, RX3, some .int, false, 1, 20, 0, 0)
abbrev K_X3_mergesNext : MK := (2, RX3, some .boolean, false, 3, 68, 0, 0)
abbrev K_X3_freeBits : MK := (5, RX3, some .int, false, 3, 68, 0, 0)
abbrev K_X3_whyNotTake : MK := (2, RX3, some .int, false, 4, 92, 0, 0)
abbrev K_X3_cellToRead : MK := (2, RX3, some .int, false, 1, 23, 0, 0)
abbrev K_X3_saveIfRoom : MK := (2, RX3, none, false, 1, 20, 0, 0)
abbrev K_X3_claim : MK := (3, RX3, none, false, 1, 20, 0, 0)
abbrev K_X5_isRisky : MK := (2, RX5, some .boolean, false, 0, 0, 0, 0)
abbrev K_X3_take : MK := (3, RX3, some .int, false, 4, 92, 0, 0)
abbrev K_X0_goOneCycle : MK := (4, RX0, some .int, false, 5, 114, 0, 0)
abbrev K_X3_init : MK := (2, RX3, none, true, 1, 20, 6, 80)
abbrev K_X0_init : MK := (2, RX0, none, true, 2, 41, 11, 164)
abbrev K_X3_begin : MK := (4, RX3, none, false, 1, 23, 0, 0)
abbrev K_X3_isOver : MK := (1, RX3, some .boolean, false, 1, 21, 0, 0)
abbrev K_X0_slotOf : MK := (6, RX0, some .int, false, 6, 137, 0, 0)
abbrev K_X10_refused : MK := (2, RX10, some .int, false, 0, 0, 0, 0)
abbrev K_X10_works : MK := (2, RX10, none, false, 0, 0, 0, 0)
abbrev K_X10_in : MK := (3, RX10, some .boolean, false, 0, 0, 0, 0)
abbrev K_X9_isStep : MK := (2, RX9, some .boolean, false, 0, 0, 0, 0)
abbrev K_X9_reads : MK := (2, RX9, some .int, false, 0, 0, 0, 0)
abbrev K_X10_guessed : MK := (2, RX10, some .int, false, 0, 0, 0, 0)
abbrev K_X9_unsureOf : MK := (3, RX9, some .int, false, 0, 0, 0, 0)
abbrev K_X10_bit : MK := (2, RX10, some .boolean, false, 0, 0, 0, 0)
abbrev K_X10_setBy : MK := (4, RX10, some .int, false, 1, 22, 0, 0)
abbrev K_X10_comes : MK := (4, RX10, some .int, false, 0, 0, 0, 0)
abbrev K_X10_plainly : MK := (6, RX10, none, false, 2, 45, 0, 0)
abbrev K_X10_plainlyDone : MK := (2, RX10, some .boolean, false, 3, 70, 0, 0)
abbrev K_X10_good : MK := (2, RX10, some .int, false, 0, 0, 0, 0)
abbrev K_X10_at : MK := (2, RX10, some .int, false, 0, 0, 0, 0)
abbrev K_X10_has : MK := (3, RX10, some .boolean, false, 1, 21, 0, 0)
abbrev K_X10_reads : MK := (3, RX10, some .boolean, false, 1, 21, 0, 0)
abbrev K_X10_registerOf : MK := (2, RX10, some .int, false, 1, 21, 0, 0)
abbrev K_X10_kindOf : MK := (2, RX10, some .int, false, 1, 21, 0, 0)
abbrev K_X10_isSure : MK := (3, RX10, some .boolean, false, 2, 43, 0, 0)
abbrev K_X10_isLetGo : MK := (4, RX10, some .boolean, false, 3, 65, 0, 0)
abbrev K_X10_agrees : MK := (2, RX10, some .int, false, 4, 91, 0, 0)
abbrev K_X10_asTold : MK := (3, RX10, none, false, 0, 0, 0, 0)
abbrev K_X10_wrongGot : MK := (3, RX10, some .int, false, 3, 70, 0, 0)
abbrev K_X10_fitting : MK := (5, RX10, some .int, false, 4, 92, 0, 0)
abbrev K_X10_asks : MK := (4, RX10, some .int, false, 5, 116, 0, 0)
abbrev K_X10_ask : MK := (1, RX10, some .int, false, 6, 139, 0, 0)
abbrev K_X10_askLeaves : MK := (1, RX10, some .int, false, 6, 139, 0, 0)
abbrev K_X10_denied : MK := (2, RX10, some .boolean, false, 1, 21, 0, 0)
abbrev K_X10_granted : MK := (1, RX10, some .boolean, false, 1, 21, 0, 0)
abbrev K_X10_back : MK := (3, RX10, some .boolean, false, 2, 42, 0, 0)
abbrev K_X10_bits : MK := (3, RX10, some .int, false, 0, 0, 0, 0)
abbrev K_X10_byteAt : MK := (2, RX10, some .int, false, 0, 0, 0, 0)
abbrev K_X10_isCell : MK := (2, RX10, some .boolean, false, 0, 0, 0, 0)
abbrev K_X10_isReady : MK := (2, RX10, some .boolean, false, 1, 21, 0, 0)
abbrev K_X10_letGoNow : MK := (3, RX10, some .int, false, 4, 88, 0, 0)
abbrev K_X10_holders : MK := (5, RX10, some .int, false, 1, 21, 0, 0)
abbrev K_X10_waitingFor : MK := (4, RX10, some .int, false, 2, 43, 0, 0)
abbrev K_X10_cell : MK := (3, RX10, some .int, false, 5, 110, 0, 0)
abbrev K_X10_whyNoCommit : MK := (1, RX10, some .int, false, 2, 43, 0, 0)
abbrev K_X10_commitsOne : MK := (4, RX10, some .int, false, 2, 43, 0, 0)
abbrev K_X10_isRunnable : MK := (2, RX10, some .boolean, false, 2, 43, 0, 0)
abbrev K_X10_runsOne : MK := (7, RX10, some .int, false, 1, 23, 0, 0)
abbrev K_X10_mapOf : MK := (4, RX10, some .int, false, 2, 42, 0, 0)
abbrev K_X10_isMerging : MK := (2, RX10, some .boolean, false, 5, 110, 0, 0)
abbrev K_X10_freeNow : MK := (4, RX10, some .int, false, 5, 110, 0, 0)
abbrev K_X10_lowestFree : MK := (3, RX10, some .int, false, 6, 133, 0, 0)
abbrev K_X10_whyNoFetch : MK := (2, RX10, some .int, false, 7, 155, 0, 0)
abbrev K_X10_savesNow : MK := (3, RX10, some .int, false, 2, 43, 0, 0)
abbrev K_X10_fetches : MK := (9, RX10, some .int, false, 7, 155, 0, 0)
abbrev K_X10_cycle : MK := (3, RX10, none, false, 8, 183, 0, 0)
abbrev K_X10_goes : MK := (3, RX10, none, false, 9, 205, 0, 0)
abbrev K_X10_cellsFor : MK := (3, RX10, some .int, false, 10, 227, 0, 0)
abbrev K_X10_remembers : MK := (2, RX10, none, false, 0, 0, 0, 0)
abbrev K_X10_remains : MK := (2, RX10, none, false, 0, 0, 0, 0)
abbrev K_X10_done : MK := (2, RX10, some .int, false, 1, 21, 0, 0)
abbrev K_X10_commit : MK := (2, RX10, some .int, false, 3, 66, 0, 0)
abbrev K_X10_commitable : MK := (1, RX10, some .int, false, 3, 63, 0, 0)
abbrev K_X10_refusesCells : MK := (2, RX10, some .int, false, 1, 22, 0, 0)
abbrev K_X10_commits : MK := (3, RX10, some .int, false, 10, 227, 0, 0)
abbrev K_X10_common : MK := (10, RX10, some .long, false, 0, 0, 0, 0)
abbrev K_X9_init : MK := (1, RX9, none, true, 1, 20, 10, 164)
abbrev K_X10_isLetter : MK := (1, RX10, some .boolean, false, 0, 0, 0, 0)
abbrev K_X10_isDigit : MK := (1, RX10, some .boolean, false, 0, 0, 0, 0)
abbrev K_X10_goesOn : MK := (3, RX10, none, false, 1, 21, 0, 0)
abbrev K_X10_packed : MK := (4, RX10, some .long, false, 4, 85, 0, 0)
abbrev K_X10_isWord : MK := (2, RX10, some .boolean, false, 5, 108, 0, 0)
abbrev K_X10_flaw : MK := (2, RX10, none, false, 0, 0, 0, 0)
abbrev K_X10_needs : MK := (2, RX10, none, false, 6, 129, 0, 0)
abbrev K_X10_wholeAt : MK := (3, RX10, some .int, false, 1, 22, 0, 0)
abbrev K_X10_readWhole : MK := (4, RX10, some .int, false, 2, 44, 0, 0)
abbrev K_X10_readPart : MK := (4, RX10, some .int, false, 7, 150, 0, 0)
abbrev K_X10_readCore : MK := (6, RX10, none, false, 8, 173, 0, 0)
abbrev K_X10_kindAtHand : MK := (1, RX10, some .int, false, 6, 129, 0, 0)
abbrev K_X10_lineBegins : MK := (3, RX10, none, false, 2, 43, 0, 0)
abbrev K_X10_readRegister : MK := (1, RX10, some .int, false, 3, 67, 0, 0)
abbrev K_X10_readStep : MK := (8, RX10, none, false, 6, 129, 0, 0)
abbrev K_X10_readUnsure : MK := (3, RX10, none, false, 3, 67, 0, 0)
abbrev K_X9_isGot : MK := (3, RX9, some .boolean, false, 0, 0, 0, 0)
abbrev K_X10_readGot : MK := (3, RX10, none, false, 3, 67, 0, 0)
abbrev K_X10_readLine : MK := (1, RX10, none, false, 9, 198, 0, 0)
abbrev K_X10_eatsSemicolon : MK := (2, RX10, some .boolean, false, 2, 43, 0, 0)
abbrev K_X10_readAll : MK := (2, RX10, none, false, 10, 218, 0, 0)
abbrev K_X10_core : MK := (2, RX10, some .int, false, 11, 239, 11, 182)
abbrev K_X10_could : MK := (1, RX10, some .int, false, 5, 116, 0, 0)
abbrev K_X10_crowd : MK := (3, RX10, some .int, false, 10, 227, 0, 0)
abbrev K_X10_cycles : MK := (3, RX10, some .int, false, 10, 227, 0, 0)
abbrev K_X10_refusesDraw : MK := (4, RX10, some .int, false, 1, 22, 0, 0)
abbrev K_X10_draws : MK := (2, RX10, some .int, false, 0, 0, 0, 0)
abbrev K_X10_tries : MK := (6, RX10, none, false, 8, 183, 0, 0)
abbrev K_X10_drawnCommits : MK := (4, RX10, some .int, false, 9, 208, 0, 0)
abbrev K_X10_isRegister : MK := (2, RX10, some .boolean, false, 0, 0, 0, 0)
abbrev K_X10_valueOf : MK := (2, RX10, some .int, false, 4, 88, 0, 0)
abbrev K_X10_drawnValue : MK := (5, RX10, some .int, false, 9, 208, 0, 0)
abbrev K_X10_entries : MK := (1, RX10, some .int, false, 1, 21, 0, 0)
abbrev K_X10_isEntry : MK := (2, RX10, some .boolean, false, 0, 0, 0, 0)
abbrev K_X10_entry : MK := (3, RX10, some .int, false, 3, 65, 0, 0)
abbrev K_X10_fault : MK := (1, RX10, some .int, false, 0, 0, 0, 0)
abbrev K_X10_feed : MK := (8, RX10, some .int, false, 0, 0, 0, 0)
abbrev K_X10_fetch : MK := (2, RX10, some .int, false, 8, 183, 0, 0)
abbrev K_X10_fetchable : MK := (1, RX10, some .int, false, 8, 176, 0, 0)
abbrev K_X10_fitAt : MK := (3, RX10, some .int, false, 5, 116, 0, 0)
abbrev K_X10_fits : MK := (1, RX10, some .int, false, 5, 116, 0, 0)
abbrev K_X10_fraction : MK := (6, RX10, some .long, false, 1, 29, 0, 0)
abbrev K_X10_free : MK := (1, RX10, some .int, false, 6, 133, 0, 0)
abbrev K_X10_gives : MK := (3, RX10, some .int, false, 6, 133, 0, 0)
abbrev K_X10_image : MK := (2, RX10, some .int, false, 1, 21, 0, 0)
abbrev K_X10_init : MK := (1, RX10, none, true, 1, 20, 7, 5007)
abbrev K_X10_judge : MK := (1, RX10, some .int, false, 4, 92, 0, 0)
abbrev K_X10_kept : MK := (2, RX10, some .int, false, 1, 21, 0, 0)
abbrev K_X10_led : MK := (4, RX10, some .int, false, 2, 43, 0, 0)
abbrev K_X10_letGo : MK := (1, RX10, some .int, false, 5, 110, 0, 0)
abbrev K_X10_mapped : MK := (2, RX10, some .int, false, 3, 65, 0, 0)
abbrev K_X10_misses : MK := (3, RX10, some .int, false, 10, 227, 0, 0)
abbrev K_X10_nextStep : MK := (1, RX10, some .int, false, 1, 21, 0, 0)
abbrev K_X10_plainAt : MK := (3, RX10, some .int, false, 4, 91, 0, 0)
abbrev K_X10_plainEnd : MK := (1, RX10, some .int, false, 3, 70, 0, 0)
abbrev K_X10_plainMisses : MK := (1, RX10, some .int, false, 3, 70, 0, 0)
abbrev K_X10_plainStep : MK := (2, RX10, some .int, false, 4, 91, 0, 0)
abbrev K_X10_plainSteps : MK := (1, RX10, some .int, false, 3, 70, 0, 0)
abbrev K_X10_rate : MK := (4, RX10, some .long, false, 10, 227, 0, 0)
abbrev K_X10_ready : MK := (1, RX10, some .int, false, 1, 21, 0, 0)
abbrev K_X10_resume : MK := (2, RX10, some .boolean, false, 2, 42, 0, 0)
abbrev K_X10_run : MK := (2, RX10, some .int, false, 3, 64, 0, 0)
abbrev K_X10_runnable : MK := (3, RX10, some .int, false, 3, 64, 0, 0)
abbrev K_X10_saved : MK := (3, RX10, some .int, false, 2, 43, 0, 0)
abbrev K_X10_savesThere : MK := (1, RX10, some .int, false, 3, 65, 0, 0)
abbrev K_X10_size : MK := (2, RX10, some .int, false, 4, 85, 0, 0)
abbrev K_X10_surely : MK := (1, RX10, some .int, false, 5, 116, 0, 0)
abbrev K_X10_thrown : MK := (1, RX10, some .int, false, 0, 0, 0, 0)
abbrev K_X10_trouble : MK := (1, RX10, some .int, false, 0, 0, 0, 0)
abbrev K_X10_undo : MK := (2, RX10, some .boolean, false, 2, 42, 0, 0)
abbrev K_X10_value : MK := (2, RX10, some .int, false, 5, 109, 0, 0)
abbrev K_X10_walked : MK := (3, RX10, some .int, false, 3, 65, 0, 0)
abbrev K_X10_where : MK := (1, RX10, some .int, false, 0, 0, 0, 0)
abbrev K_X1_fitsBy : MK := (2, RX1, some .boolean, false, 0, 0, 0, 0)
abbrev K_X1_howMany : MK := (1, RX1, some .int, false, 1, 20, 0, 0)
abbrev K_X1_leftBy : MK := (4, RX1, some .int, false, 2, 40, 0, 0)
abbrev K_X1_bestQuestion : MK := (3, RX1, some .int, false, 3, 63, 0, 0)
abbrev K_X4_read : MK := (2, RX4, some .int, false, 1, 20, 0, 0)
abbrev K_X5_numberBy : MK := (4, RX5, some .int, false, 0, 0, 0, 0)
abbrev K_X4_playStep : MK := (8, RX4, none, false, 2, 41, 0, 0)
abbrev K_X4_play : MK := (5, RX4, none, false, 3, 68, 0, 0)
abbrev K_X4_firstNotGot : MK := (3, RX4, some .int, false, 0, 0, 0, 0)
abbrev K_X1_find : MK := (4, RX1, none, false, 4, 92, 0, 0)
abbrev K_X1_inAll : MK := (3, RX1, some .int, false, 1, 21, 0, 0)
abbrev K_X1_inSome : MK := (3, RX1, some .int, false, 1, 21, 0, 0)
abbrev K_X1_init : MK := (1, RX1, none, true, 1, 20, 0, 0)
abbrev K_X1_nth : MK := (4, RX1, some .int, false, 1, 21, 0, 0)
abbrev K_X2_forget : MK := (1, RX2, none, false, 0, 0, 0, 0)
abbrev K_X2_init : MK := (3, RX2, none, true, 2, 41, 135, 1919)
abbrev K_X3_copyFrom : MK := (2, RX3, none, false, 1, 26, 0, 0)
abbrev K_X2_keep : MK := (2, RX2, none, false, 2, 47, 0, 0)
abbrev K_X2_picture : MK := (2, RX2, some .int, false, 2, 47, 0, 0)
abbrev K_X2_returnTo : MK := (3, RX2, none, false, 2, 47, 0, 0)
abbrev K_X2_takeBack : MK := (2, RX2, none, false, 2, 47, 0, 0)
abbrev K_X3_goOnAt : MK := (2, RX3, none, false, 0, 0, 0, 0)
abbrev K_X3_isSure : MK := (2, RX3, some .boolean, false, 2, 42, 0, 0)
abbrev K_X3_keptValue : MK := (3, RX3, some .int, false, 3, 68, 0, 0)
abbrev K_X3_nthDone : MK := (4, RX3, some .int, false, 1, 21, 0, 0)
abbrev K_X3_waitersFor : MK := (4, RX3, some .int, false, 1, 21, 0, 0)
abbrev K_X4_init : MK := (1, RX4, none, true, 1, 20, 1, 8)
abbrev K_X5_clear : MK := (1, RX5, none, false, 0, 0, 0, 0)
abbrev K_X5_emptyStep : MK := (3, RX5, some .int, false, 0, 0, 0, 0)
abbrev K_X5_init : MK := (1, RX5, none, true, 1, 20, 10, 164)
abbrev K_X5_isGot : MK := (3, RX5, some .boolean, false, 0, 0, 0, 0)
abbrev K_X5_isUnsure : MK := (3, RX5, some .boolean, false, 0, 0, 0, 0)
abbrev K_X6_advance : MK := (1, RX6, none, false, 0, 0, 0, 0)
abbrev K_X6_fails : MK := (2, RX6, some .boolean, false, 0, 0, 0, 0)
abbrev K_X6_failsAt : MK := (3, RX6, some .boolean, false, 0, 0, 0, 0)
abbrev K_X7_init : MK := (1, RX7, none, true, 1, 20, 3, 2703)
abbrev K_X6_init : MK := (2, RX6, none, true, 2, 40, 5, 2707)
abbrev K_X6_isWord : MK := (4, RX6, some .boolean, false, 4, 85, 0, 0)
abbrev K_X6_wholeHere : MK := (3, RX6, some .int, false, 0, 0, 0, 0)
abbrev K_X6_takesWhole : MK := (3, RX6, some .boolean, false, 1, 22, 0, 0)
abbrev K_X6_takesPair : MK := (3, RX6, some .boolean, false, 2, 44, 0, 0)
abbrev K_X6_readChange : MK := (4, RX6, some .boolean, false, 3, 66, 0, 0)
abbrev K_X6_takesWord : MK := (2, RX6, some .boolean, false, 5, 108, 0, 0)
abbrev K_X6_readCore : MK := (1, RX6, some .boolean, false, 6, 129, 0, 0)
abbrev K_X6_readGot : MK := (2, RX6, some .boolean, false, 2, 44, 0, 0)
abbrev K_X6_sortOfLine : MK := (1, RX6, some .int, false, 5, 108, 0, 0)
abbrev K_X6_readUnsure : MK := (2, RX6, some .boolean, false, 2, 44, 0, 0)
abbrev K_X6_readSkip : MK := (2, RX6, some .boolean, false, 6, 129, 0, 0)
abbrev K_X6_readLine : MK := (4, RX6, some .boolean, false, 7, 150, 0, 0)
abbrev K_X7_pastBlanks : MK := (4, RX7, some .int, false, 0, 0, 0, 0)
abbrev K_X7_isLetter : MK := (1, RX7, some .boolean, false, 0, 0, 0, 0)
abbrev K_X7_isDigit : MK := (1, RX7, some .boolean, false, 0, 0, 0, 0)
abbrev K_X7_runEnd : MK := (6, RX7, some .int, false, 1, 20, 0, 0)
abbrev K_X7_sortOf : MK := (2, RX7, some .int, false, 1, 20, 0, 0)
abbrev K_X7_part : MK := (5, RX7, none, false, 2, 45, 0, 0)
abbrev K_X6_reads : MK := (6, RX6, some .boolean, false, 8, 173, 0, 0)
abbrev K_X8_refused : MK := (3, RX8, some .boolean, false, 0, 0, 0, 0)
abbrev K_X8_plainTotal : MK := (1, RX8, some .int, false, 4, 92, 0, 0)
abbrev K_X8_agrees : MK := (4, RX8, some .int, false, 5, 112, 0, 0)
abbrev K_X8_ask : MK := (1, RX8, some .int, false, 4, 85, 0, 0)
abbrev K_X8_askLeaves : MK := (2, RX8, some .int, false, 4, 85, 0, 0)
abbrev K_X8_back : MK := (2, RX8, some .boolean, false, 3, 69, 0, 0)
abbrev K_X8_beginWithDraft : MK := (2, RX8, none, false, 5, 115, 0, 0)
abbrev K_X8_cell : MK := (3, RX8, some .int, false, 3, 68, 0, 0)
abbrev K_X8_cellsFor : MK := (3, RX8, some .int, false, 7, 162, 0, 0)
abbrev K_X8_commit : MK := (1, RX8, some .int, false, 3, 68, 0, 0)
abbrev K_X8_commitable : MK := (1, RX8, some .int, false, 2, 42, 0, 0)
abbrev K_X8_isCells : MK := (1, RX8, some .boolean, false, 0, 0, 0, 0)
abbrev K_X8_commits : MK := (2, RX8, some .int, false, 7, 162, 0, 0)
abbrev K_X8_commonDivisor : MK := (3, RX8, some .int, false, 0, 0, 0, 0)
abbrev K_X8_core : MK := (3, RX8, some .int, false, 9, 198, 0, 0)
abbrev K_X8_could : MK := (1, RX8, some .int, false, 2, 43, 0, 0)
abbrev K_X8_crowd : MK := (2, RX8, some .int, false, 7, 162, 0, 0)
abbrev K_X8_cycles : MK := (2, RX8, some .int, false, 7, 162, 0, 0)
abbrev K_X8_nextSeed : MK := (1, RX8, some .int, false, 0, 0, 0, 0)
abbrev K_X8_workIfPossible : MK := (2, RX8, none, false, 4, 89, 0, 0)
abbrev K_X8_drawTries : MK := (6, RX8, none, false, 5, 114, 0, 0)
abbrev K_X8_isDraw : MK := (2, RX8, some .boolean, false, 0, 0, 0, 0)
abbrev K_X8_drawnCommits : MK := (3, RX8, some .int, false, 6, 139, 0, 0)
abbrev K_X8_drawnValue : MK := (4, RX8, some .int, false, 6, 139, 0, 0)
abbrev K_X8_entries : MK := (1, RX8, some .int, false, 1, 22, 0, 0)
abbrev K_X8_isEntry : MK := (2, RX8, some .boolean, false, 0, 0, 0, 0)
abbrev K_X8_entry : MK := (3, RX8, some .int, false, 3, 63, 0, 0)
abbrev K_X8_fault : MK := (1, RX8, some .int, false, 0, 0, 0, 0)
abbrev K_X8_putBytes : MK := (3, RX8, none, false, 0, 0, 0, 0)
abbrev K_X8_feed : MK := (6, RX8, some .int, false, 1, 22, 0, 0)
abbrev K_X8_fetch : MK := (2, RX8, some .int, false, 5, 114, 0, 0)
abbrev K_X8_fetchable : MK := (1, RX8, some .int, false, 5, 113, 0, 0)
abbrev K_X8_fitAt : MK := (2, RX8, some .int, false, 2, 44, 0, 0)
abbrev K_X8_fits : MK := (1, RX8, some .int, false, 2, 40, 0, 0)
abbrev K_X8_free : MK := (1, RX8, some .int, false, 4, 92, 0, 0)
abbrev K_X8_gives : MK := (3, RX8, some .int, false, 4, 92, 0, 0)
abbrev K_X8_image : MK := (1, RX8, some .int, false, 3, 68, 0, 0)
abbrev K_X8_init : MK := (1, RX8, none, true, 3, 63, 194, 6287)
abbrev K_X8_judge : MK := (1, RX8, some .int, false, 4, 92, 0, 0)
abbrev K_X8_kept : MK := (2, RX8, some .int, false, 1, 22, 0, 0)
abbrev K_X8_letGo : MK := (1, RX8, some .int, false, 3, 68, 0, 0)
abbrev K_X8_mapped : MK := (2, RX8, some .int, false, 1, 23, 0, 0)
abbrev K_X8_misses : MK := (2, RX8, some .int, false, 7, 162, 0, 0)
abbrev K_X8_nextStep : MK := (1, RX8, some .int, false, 1, 22, 0, 0)
abbrev K_X8_plainAt : MK := (3, RX8, some .int, false, 5, 112, 0, 0)
abbrev K_X8_plainEnd : MK := (1, RX8, some .int, false, 4, 92, 0, 0)
abbrev K_X8_plainMisses : MK := (1, RX8, some .int, false, 4, 92, 0, 0)
abbrev K_X8_plainStep : MK := (2, RX8, some .int, false, 5, 112, 0, 0)
abbrev K_X8_plainSteps : MK := (1, RX8, some .int, false, 5, 112, 0, 0)
abbrev K_X8_rate : MK := (7, RX8, some .long, false, 7, 162, 0, 0)
abbrev K_X8_ready : MK := (1, RX8, some .int, false, 1, 22, 0, 0)
abbrev K_X8_resume : MK := (2, RX8, some .boolean, false, 3, 68, 0, 0)
abbrev K_X8_run : MK := (2, RX8, some .int, false, 4, 89, 0, 0)
abbrev K_X8_runnable : MK := (3, RX8, some .int, false, 3, 63, 0, 0)
abbrev K_X8_saved : MK := (3, RX8, some .int, false, 1, 23, 0, 0)
abbrev K_X8_sizeOfText : MK := (2, RX8, some .int, false, 0, 0, 0, 0)
abbrev K_X8_sizeOfState : MK := (2, RX8, some .int, false, 1, 20, 0, 0)
abbrev K_X8_size : MK := (2, RX8, some .int, false, 2, 41, 0, 0)
abbrev K_X8_surely : MK := (1, RX8, some .int, false, 2, 43, 0, 0)
abbrev K_X8_trouble : MK := (1, RX8, some .int, false, 0, 0, 0, 0)
abbrev K_X8_undo : MK := (1, RX8, some .boolean, false, 3, 68, 0, 0)
abbrev K_X8_value : MK := (2, RX8, some .int, false, 4, 90, 0, 0)
abbrev K_X8_walked : MK := (3, RX8, some .int, false, 1, 23, 0, 0)
abbrev K_X8_where : MK := (1, RX8, some .int, false, 0, 0, 0, 0)
abbrev K_J0_checkIndex_df160 : MK := (2, RJ0, none, false, 1, 22, 0, 0)
theorem ct_J0_isLatin1_aae02 : CT yJ0_isLatin1_aae02 cJ0_isLatin1_aae02 K_J0_isLatin1_aae02 0 := ⟨⟨tw_485, tw_12, by decide, by decide, by decide +kernel⟩, tw_483, tw_484, rfl⟩
theorem cs_J1_charAt_3b067 : CS yJ1_charAt_3b067 cJ1_charAt_3b067 K_J1_charAt_3b067 2 := ⟨⟨tw_488, tw_13, by decide, by decide, by decide +kernel⟩, tw_487⟩
theorem ct_J0_charAt_5068e : CT yJ0_charAt_5068e cJ0_charAt_5068e K_J0_charAt_5068e 1 := ⟨⟨tw_481, tw_12, by decide, by decide, by decide +kernel⟩, tw_479, tw_480, rfl⟩
theorem ct_J0_coder_7d493 : CT yJ0_coder_7d493 cJ0_coder_7d493 K_J0_coder_7d493 0 := ⟨⟨tw_475, tw_12, by decide, by decide, by decide +kernel⟩, tw_473, tw_474, rfl⟩
theorem ct_J0_length_8abf5 : CT yJ0_length_8abf5 cJ0_length_8abf5 K_J0_length_8abf5 0 := ⟨⟨tw_471, tw_12, by decide, by decide, by decide +kernel⟩, tw_469, tw_470, rfl⟩
theorem cs_J3_checkIndex_8e157 : CS yJ3_checkIndex_8e157 cJ3_checkIndex_8e157 K_J3_checkIndex_8e157 3 := ⟨⟨tw_496, tw_14, by decide, by decide, by decide +kernel⟩, tw_495⟩
theorem cs_J6_bitCount_0f7a4 : CS yJ6_bitCount_0f7a4 cJ6_bitCount_0f7a4 K_J6_bitCount_0f7a4 1 := ⟨⟨tw_839, tw_18, by decide, by decide, by decide +kernel⟩, tw_838⟩
theorem cs_J6_numberOfTrailingZeros_0f7a4 : CS yJ6_numberOfTrailingZeros_0f7a4 cJ6_numberOfTrailingZeros_0f7a4 K_J6_numberOfTrailingZeros_0f7a4 1 := ⟨⟨tw_714, tw_18, by decide, by decide, by decide +kernel⟩, tw_713⟩
theorem cs_J7_fill_53178 : CS yJ7_fill_53178 cJ7_fill_53178 K_J7_fill_53178 2 := ⟨⟨tw_606, tw_16, by decide, by decide, by decide +kernel⟩, tw_605⟩
theorem cv_X0_forget : CV yX0_forget cX0_forget K_X0_forget 0 0 := ⟨⟨tw_618, tw_8, by decide, by decide, by decide +kernel⟩, tw_616, tw_617, by decide, TX0, 5, rfl⟩
theorem cv_X3_isDone : CV yX3_isDone cX3_isDone K_X3_isDone 1 3 := ⟨⟨tw_722, tw_5, by decide, by decide, by decide +kernel⟩, tw_721, sl_X3_isDone, by decide, TX3, 20, rfl⟩
theorem cv_X3_isReady : CV yX3_isReady cX3_isReady K_X3_isReady 1 3 := ⟨⟨tw_747, tw_5, by decide, by decide, by decide +kernel⟩, tw_745, tw_746, by decide, TX3, 20, rfl⟩
theorem cv_X3_whyNotRetire : CV yX3_whyNotRetire cX3_whyNotRetire K_X3_whyNotRetire 0 3 := ⟨⟨tw_824, tw_5, by decide, by decide, by decide +kernel⟩, tw_822, tw_823, by decide, TX3, 20, rfl⟩
theorem cv_X3_keepOldest : CV yX3_keepOldest cX3_keepOldest K_X3_keepOldest 1 3 := ⟨⟨tw_610, tw_5, by decide, by decide, by decide +kernel⟩, tw_609, sl_X3_keepOldest, by decide, TX3, 20, rfl⟩
theorem cs_X8_isRegister : CS yX8_isRegister cX8_isRegister K_X8_isRegister 1 := ⟨⟨tw_640, tw_1, by decide, by decide, by decide +kernel⟩, tw_639⟩
theorem cs_X3_bitOf : CS yX3_bitOf cX3_bitOf K_X3_bitOf 1 := ⟨⟨tw_718, tw_5, by decide, by decide, by decide +kernel⟩, tw_717⟩
theorem cv_X3_dropOldest : CV yX3_dropOldest cX3_dropOldest K_X3_dropOldest 0 3 := ⟨⟨tw_876, tw_5, by decide, by decide, by decide +kernel⟩, tw_875, sl_X3_dropOldest, by decide, TX3, 20, rfl⟩
theorem cv_X3_retire : CV yX3_retire cX3_retire K_X3_retire 0 3 := ⟨⟨tw_871, tw_5, by decide, by decide, by decide +kernel⟩, tw_869, tw_870, by decide, TX3, 20, rfl⟩
theorem cv_X3_canRead : CV yX3_canRead cX3_canRead K_X3_canRead 1 3 := ⟨⟨tw_795, tw_5, by decide, by decide, by decide +kernel⟩, tw_794, sl_X3_canRead, by decide, TX3, 20, rfl⟩
theorem cv_X3_canWork : CV yX3_canWork cX3_canWork K_X3_canWork 1 3 := ⟨⟨tw_791, tw_5, by decide, by decide, by decide +kernel⟩, tw_789, tw_790, by decide, TX3, 20, rfl⟩
theorem cv_X3_oldestToWork : CV yX3_oldestToWork cX3_oldestToWork K_X3_oldestToWork 0 3 := ⟨⟨tw_883, tw_5, by decide, by decide, by decide +kernel⟩, tw_881, tw_882, by decide, TX3, 20, rfl⟩
theorem cv_X3_valueRead : CV yX3_valueRead cX3_valueRead K_X3_valueRead 1 3 := ⟨⟨tw_896, tw_5, by decide, by decide, by decide +kernel⟩, tw_895, sl_X3_valueRead, by decide, TX3, 20, rfl⟩
theorem cv_X5_nextBehind : CV yX5_nextBehind cX5_nextBehind K_X5_nextBehind 3 5 := ⟨⟨tw_644, tw_2, by decide, by decide, by decide +kernel⟩, tw_642, tw_643, by decide, TX5, 18, rfl⟩
theorem cv_X3_nextOf : CV yX3_nextOf cX3_nextOf K_X3_nextOf 1 3 := ⟨⟨tw_892, tw_5, by decide, by decide, by decide +kernel⟩, tw_891, sl_X3_nextOf, by decide, TX3, 20, rfl⟩
theorem cv_X5_guessBehind : CV yX5_guessBehind cX5_guessBehind K_X5_guessBehind 1 5 := ⟨⟨tw_648, tw_2, by decide, by decide, by decide +kernel⟩, tw_646, tw_647, by decide, TX5, 18, rfl⟩
theorem cv_X3_misguessed : CV yX3_misguessed cX3_misguessed K_X3_misguessed 1 3 := ⟨⟨tw_888, tw_5, by decide, by decide, by decide +kernel⟩, tw_886, tw_887, by decide, TX3, 20, rfl⟩
theorem cv_X3_workSkip : CV yX3_workSkip cX3_workSkip K_X3_workSkip 1 3 := ⟨⟨tw_906, tw_5, by decide, by decide, by decide +kernel⟩, tw_905, sl_X3_workSkip, by decide, TX3, 20, rfl⟩
theorem cv_X5_outcome : CV yX5_outcome cX5_outcome K_X5_outcome 3 5 := ⟨⟨tw_656, tw_2, by decide, by decide, by decide +kernel⟩, tw_654, tw_655, by decide, TX5, 18, rfl⟩
theorem cv_X3_work : CV yX3_work cX3_work K_X3_work 1 3 := ⟨⟨tw_902, tw_5, by decide, by decide, by decide +kernel⟩, tw_900, tw_901, by decide, TX3, 20, rfl⟩
theorem cv_X5_has : CV yX5_has cX5_has K_X5_has 1 5 := ⟨⟨tw_561, tw_2, by decide, by decide, by decide +kernel⟩, tw_559, tw_560, by decide, TX5, 18, rfl⟩
theorem cv_X3_mapBy : CV yX3_mapBy cX3_mapBy K_X3_mapBy 2 3 := ⟨⟨tw_734, tw_5, by decide, by decide, by decide +kernel⟩, tw_732, tw_733, by decide, TX3, 20, rfl⟩
theorem cv_X3_sureOnes : CV yX3_sureOnes cX3_sureOnes K_X3_sureOnes 0 3 := ⟨⟨tw_711, tw_5, by decide, by decide, by decide +kernel⟩, tw_710, sl_X3_sureOnes, by decide, TX3, 20, rfl⟩
theorem cv_X3_letGoBits : CV yX3_letGoBits cX3_letGoBits K_X3_letGoBits 1 3 := ⟨⟨tw_707, tw_5, by decide, by decide, by decide +kernel⟩, tw_705, tw_706, by decide, TX3, 20, rfl⟩
theorem cv_X3_holdersBut : CV yX3_holdersBut cX3_holdersBut K_X3_holdersBut 2 3 := ⟨⟨tw_751, tw_5, by decide, by decide, by decide +kernel⟩, tw_749, tw_750, by decide, TX3, 20, rfl⟩
theorem cv_X3_mergesNext : CV yX3_mergesNext cX3_mergesNext K_X3_mergesNext 0 3 := ⟨⟨tw_813, tw_5, by decide, by decide, by decide +kernel⟩, tw_812, sl_X3_mergesNext, by decide, TX3, 20, rfl⟩
theorem cv_X3_freeBits : CV yX3_freeBits cX3_freeBits K_X3_freeBits 1 3 := ⟨⟨tw_763, tw_5, by decide, by decide, by decide +kernel⟩, tw_761, tw_762, by decide, TX3, 20, rfl⟩
theorem cv_X3_whyNotTake : CV yX3_whyNotTake cX3_whyNotTake K_X3_whyNotTake 0 3 := ⟨⟨tw_808, tw_5, by decide, by decide, by decide +kernel⟩, tw_806, tw_807, by decide, TX3, 20, rfl⟩
theorem cv_X3_cellToRead : CV yX3_cellToRead cX3_cellToRead K_X3_cellToRead 1 3 := ⟨⟨tw_916, tw_5, by decide, by decide, by decide +kernel⟩, tw_915, sl_X3_cellToRead, by decide, TX3, 20, rfl⟩
theorem cv_X3_saveIfRoom : CV yX3_saveIfRoom cX3_saveIfRoom K_X3_saveIfRoom 1 3 := ⟨⟨tw_920, tw_5, by decide, by decide, by decide +kernel⟩, tw_919, sl_X3_saveIfRoom, by decide, TX3, 20, rfl⟩
theorem cv_X3_claim : CV yX3_claim cX3_claim K_X3_claim 1 3 := ⟨⟨tw_925, tw_5, by decide, by decide, by decide +kernel⟩, tw_924, sl_X3_claim, by decide, TX3, 20, rfl⟩
theorem cv_X5_isRisky : CV yX5_isRisky cX5_isRisky K_X5_isRisky 1 5 := ⟨⟨tw_929, tw_2, by decide, by decide, by decide +kernel⟩, tw_927, tw_928, by decide, TX5, 18, rfl⟩
theorem cv_X3_take : CV yX3_take cX3_take K_X3_take 0 3 := ⟨⟨tw_912, tw_5, by decide, by decide, by decide +kernel⟩, tw_910, tw_911, by decide, TX3, 20, rfl⟩
theorem cv_X0_goOneCycle : CV yX0_goOneCycle cX0_goOneCycle K_X0_goOneCycle 0 0 := ⟨⟨tw_866, tw_8, by decide, by decide, by decide +kernel⟩, tw_865, sl_X0_goOneCycle, by decide, TX0, 5, rfl⟩
theorem ci_X3_init : CI yX3_init cX3_init K_X3_init 1 := ⟨⟨tw_193, tw_5, by decide, by decide, by decide +kernel⟩, tw_192, rfl, rfl⟩
theorem ci_X0_init : CI yX0_init cX0_init K_X0_init 1 := ⟨⟨tw_332, tw_8, by decide, by decide, by decide +kernel⟩, tw_331, rfl, rfl⟩
theorem cv_X3_begin : CV yX3_begin cX3_begin K_X3_begin 2 3 := ⟨⟨tw_603, tw_5, by decide, by decide, by decide +kernel⟩, tw_601, tw_602, by decide, TX3, 20, rfl⟩
theorem cv_X3_isOver : CV yX3_isOver cX3_isOver K_X3_isOver 0 3 := ⟨⟨tw_862, tw_5, by decide, by decide, by decide +kernel⟩, tw_860, tw_861, by decide, TX3, 20, rfl⟩
theorem cv_X0_slotOf : CV yX0_slotOf cX0_slotOf K_X0_slotOf 2 0 := ⟨⟨tw_857, tw_8, by decide, by decide, by decide +kernel⟩, tw_855, tw_856, by decide, TX0, 5, rfl⟩
theorem cv_X10_refused : CV yX10_refused cX10_refused K_X10_refused 1 10 := ⟨⟨tw_1325, tw_10, by decide, by decide, by decide +kernel⟩, tw_1324, sl_X10_refused, by decide, TX10, 38, rfl⟩
theorem cv_X10_works : CV yX10_works cX10_works K_X10_works 0 10 := ⟨⟨tw_1593, tw_10, by decide, by decide, by decide +kernel⟩, tw_1592, sl_X10_works, by decide, TX10, 38, rfl⟩
theorem cs_X10_in : CS yX10_in cX10_in K_X10_in 3 := ⟨⟨tw_1460, tw_10, by decide, by decide, by decide +kernel⟩, tw_1459⟩
theorem cv_X9_isStep : CV yX9_isStep cX9_isStep K_X9_isStep 1 9 := ⟨⟨tw_1498, tw_17, by decide, by decide, by decide +kernel⟩, tw_1496, tw_1497, by decide, TX9, 18, rfl⟩
theorem cv_X9_reads : CV yX9_reads cX9_reads K_X9_reads 1 9 := ⟨⟨tw_1547, tw_17, by decide, by decide, by decide +kernel⟩, tw_1545, tw_1546, by decide, TX9, 18, rfl⟩
theorem cv_X10_guessed : CV yX10_guessed cX10_guessed K_X10_guessed 1 10 := ⟨⟨tw_1551, tw_10, by decide, by decide, by decide +kernel⟩, tw_1550, sl_X10_guessed, by decide, TX10, 38, rfl⟩
theorem cv_X9_unsureOf : CV yX9_unsureOf cX9_unsureOf K_X9_unsureOf 1 9 := ⟨⟨tw_1502, tw_17, by decide, by decide, by decide +kernel⟩, tw_1500, tw_1501, by decide, TX9, 18, rfl⟩
theorem cs_X10_bit : CS yX10_bit cX10_bit K_X10_bit 2 := ⟨⟨tw_1558, tw_10, by decide, by decide, by decide +kernel⟩, tw_1557⟩
theorem cv_X10_setBy : CV yX10_setBy cX10_setBy K_X10_setBy 2 10 := ⟨⟨tw_1555, tw_10, by decide, by decide, by decide +kernel⟩, tw_1554, sl_X10_setBy, by decide, TX10, 38, rfl⟩
theorem cs_X10_comes : CS yX10_comes cX10_comes K_X10_comes 3 := ⟨⟨tw_1561, tw_10, by decide, by decide, by decide +kernel⟩, tw_1560⟩
theorem cv_X10_plainly : CV yX10_plainly cX10_plainly K_X10_plainly 2 10 := ⟨⟨tw_1543, tw_10, by decide, by decide, by decide +kernel⟩, tw_1542, sl_X10_plainly, by decide, TX10, 38, rfl⟩
theorem cv_X10_plainlyDone : CV yX10_plainlyDone cX10_plainlyDone K_X10_plainlyDone 1 10 := ⟨⟨tw_1573, tw_10, by decide, by decide, by decide +kernel⟩, tw_1572, sl_X10_plainlyDone, by decide, TX10, 38, rfl⟩
theorem cv_X10_good : CV yX10_good cX10_good K_X10_good 1 10 := ⟨⟨tw_1527, tw_10, by decide, by decide, by decide +kernel⟩, tw_1526, sl_X10_good, by decide, TX10, 38, rfl⟩
theorem cv_X10_at : CV yX10_at cX10_at K_X10_at 1 10 := ⟨⟨tw_1605, tw_10, by decide, by decide, by decide +kernel⟩, tw_1604, sl_X10_at, by decide, TX10, 38, rfl⟩
theorem cv_X10_has : CV yX10_has cX10_has K_X10_has 2 10 := ⟨⟨tw_1609, tw_10, by decide, by decide, by decide +kernel⟩, tw_1608, sl_X10_has, by decide, TX10, 38, rfl⟩
theorem cv_X10_reads : CV yX10_reads cX10_reads K_X10_reads 2 10 := ⟨⟨tw_1613, tw_10, by decide, by decide, by decide +kernel⟩, tw_1612, sl_X10_reads, by decide, TX10, 38, rfl⟩
theorem cv_X10_registerOf : CV yX10_registerOf cX10_registerOf K_X10_registerOf 1 10 := ⟨⟨tw_1617, tw_10, by decide, by decide, by decide +kernel⟩, tw_1616, sl_X10_registerOf, by decide, TX10, 38, rfl⟩
theorem cv_X10_kindOf : CV yX10_kindOf cX10_kindOf K_X10_kindOf 1 10 := ⟨⟨tw_1625, tw_10, by decide, by decide, by decide +kernel⟩, tw_1624, sl_X10_kindOf, by decide, TX10, 38, rfl⟩
theorem cv_X10_isSure : CV yX10_isSure cX10_isSure K_X10_isSure 1 10 := ⟨⟨tw_1621, tw_10, by decide, by decide, by decide +kernel⟩, tw_1620, sl_X10_isSure, by decide, TX10, 38, rfl⟩
theorem cv_X10_isLetGo : CV yX10_isLetGo cX10_isLetGo K_X10_isLetGo 1 10 := ⟨⟨tw_1601, tw_10, by decide, by decide, by decide +kernel⟩, tw_1600, sl_X10_isLetGo, by decide, TX10, 38, rfl⟩
theorem cv_X10_agrees : CV yX10_agrees cX10_agrees K_X10_agrees 0 10 := ⟨⟨tw_1744, tw_10, by decide, by decide, by decide +kernel⟩, tw_1742, tw_1743, by decide, TX10, 38, rfl⟩
theorem cv_X10_asTold : CV yX10_asTold cX10_asTold K_X10_asTold 1 10 := ⟨⟨tw_1519, tw_10, by decide, by decide, by decide +kernel⟩, tw_1518, sl_X10_asTold, by decide, TX10, 38, rfl⟩
theorem cv_X10_wrongGot : CV yX10_wrongGot cX10_wrongGot K_X10_wrongGot 1 10 := ⟨⟨tw_1815, tw_10, by decide, by decide, by decide +kernel⟩, tw_1814, sl_X10_wrongGot, by decide, TX10, 38, rfl⟩
theorem cv_X10_fitting : CV yX10_fitting cX10_fitting K_X10_fitting 1 10 := ⟨⟨tw_1811, tw_10, by decide, by decide, by decide +kernel⟩, tw_1810, sl_X10_fitting, by decide, TX10, 38, rfl⟩
theorem cv_X10_asks : CV yX10_asks cX10_asks K_X10_asks 0 10 := ⟨⟨tw_1835, tw_10, by decide, by decide, by decide +kernel⟩, tw_1834, sl_X10_asks, by decide, TX10, 38, rfl⟩
theorem cv_X10_ask : CV yX10_ask cX10_ask K_X10_ask 0 10 := ⟨⟨tw_1831, tw_10, by decide, by decide, by decide +kernel⟩, tw_1829, tw_1830, by decide, TX10, 38, rfl⟩
theorem cv_X10_askLeaves : CV yX10_askLeaves cX10_askLeaves K_X10_askLeaves 0 10 := ⟨⟨tw_1839, tw_10, by decide, by decide, by decide +kernel⟩, tw_1837, tw_1838, by decide, TX10, 38, rfl⟩
theorem cv_X10_denied : CV yX10_denied cX10_denied K_X10_denied 1 10 := ⟨⟨tw_1895, tw_10, by decide, by decide, by decide +kernel⟩, tw_1894, sl_X10_denied, by decide, TX10, 38, rfl⟩
theorem cv_X10_granted : CV yX10_granted cX10_granted K_X10_granted 0 10 := ⟨⟨tw_1899, tw_10, by decide, by decide, by decide +kernel⟩, tw_1898, sl_X10_granted, by decide, TX10, 38, rfl⟩
theorem cv_X10_back : CV yX10_back cX10_back K_X10_back 1 10 := ⟨⟨tw_1911, tw_10, by decide, by decide, by decide +kernel⟩, tw_1909, tw_1910, by decide, TX10, 38, rfl⟩
theorem cs_X10_bits : CS yX10_bits cX10_bits K_X10_bits 1 := ⟨⟨tw_1740, tw_10, by decide, by decide, by decide +kernel⟩, tw_1739⟩
theorem cv_X10_byteAt : CV yX10_byteAt cX10_byteAt K_X10_byteAt 1 10 := ⟨⟨tw_1407, tw_10, by decide, by decide, by decide +kernel⟩, tw_1406, sl_X10_byteAt, by decide, TX10, 38, rfl⟩
theorem cv_X10_isCell : CV yX10_isCell cX10_isCell K_X10_isCell 1 10 := ⟨⟨tw_1653, tw_10, by decide, by decide, by decide +kernel⟩, tw_1652, sl_X10_isCell, by decide, TX10, 38, rfl⟩
theorem cv_X10_isReady : CV yX10_isReady cX10_isReady K_X10_isReady 1 10 := ⟨⟨tw_1657, tw_10, by decide, by decide, by decide +kernel⟩, tw_1656, sl_X10_isReady, by decide, TX10, 38, rfl⟩
theorem cv_X10_letGoNow : CV yX10_letGoNow cX10_letGoNow K_X10_letGoNow 0 10 := ⟨⟨tw_1645, tw_10, by decide, by decide, by decide +kernel⟩, tw_1644, sl_X10_letGoNow, by decide, TX10, 38, rfl⟩
theorem cv_X10_holders : CV yX10_holders cX10_holders K_X10_holders 2 10 := ⟨⟨tw_1661, tw_10, by decide, by decide, by decide +kernel⟩, tw_1660, sl_X10_holders, by decide, TX10, 38, rfl⟩
theorem cv_X10_waitingFor : CV yX10_waitingFor cX10_waitingFor K_X10_waitingFor 1 10 := ⟨⟨tw_1665, tw_10, by decide, by decide, by decide +kernel⟩, tw_1664, sl_X10_waitingFor, by decide, TX10, 38, rfl⟩
theorem cv_X10_cell : CV yX10_cell cX10_cell K_X10_cell 2 10 := ⟨⟨tw_1649, tw_10, by decide, by decide, by decide +kernel⟩, tw_1647, tw_1648, by decide, TX10, 38, rfl⟩
theorem cv_X10_whyNoCommit : CV yX10_whyNoCommit cX10_whyNoCommit K_X10_whyNoCommit 0 10 := ⟨⟨tw_1725, tw_10, by decide, by decide, by decide +kernel⟩, tw_1724, sl_X10_whyNoCommit, by decide, TX10, 38, rfl⟩
theorem cv_X10_commitsOne : CV yX10_commitsOne cX10_commitsOne K_X10_commitsOne 0 10 := ⟨⟨tw_1764, tw_10, by decide, by decide, by decide +kernel⟩, tw_1763, sl_X10_commitsOne, by decide, TX10, 38, rfl⟩
theorem cv_X10_isRunnable : CV yX10_isRunnable cX10_isRunnable K_X10_isRunnable 1 10 := ⟨⟨tw_1697, tw_10, by decide, by decide, by decide +kernel⟩, tw_1696, sl_X10_isRunnable, by decide, TX10, 38, rfl⟩
theorem cv_X10_runsOne : CV yX10_runsOne cX10_runsOne K_X10_runsOne 1 10 := ⟨⟨tw_1768, tw_10, by decide, by decide, by decide +kernel⟩, tw_1767, sl_X10_runsOne, by decide, TX10, 38, rfl⟩
theorem cv_X10_mapOf : CV yX10_mapOf cX10_mapOf K_X10_mapOf 2 10 := ⟨⟨tw_1637, tw_10, by decide, by decide, by decide +kernel⟩, tw_1636, sl_X10_mapOf, by decide, TX10, 38, rfl⟩
theorem cv_X10_isMerging : CV yX10_isMerging cX10_isMerging K_X10_isMerging 1 10 := ⟨⟨tw_1713, tw_10, by decide, by decide, by decide +kernel⟩, tw_1712, sl_X10_isMerging, by decide, TX10, 38, rfl⟩
theorem cv_X10_freeNow : CV yX10_freeNow cX10_freeNow K_X10_freeNow 0 10 := ⟨⟨tw_1673, tw_10, by decide, by decide, by decide +kernel⟩, tw_1672, sl_X10_freeNow, by decide, TX10, 38, rfl⟩
theorem cv_X10_lowestFree : CV yX10_lowestFree cX10_lowestFree K_X10_lowestFree 0 10 := ⟨⟨tw_1717, tw_10, by decide, by decide, by decide +kernel⟩, tw_1716, sl_X10_lowestFree, by decide, TX10, 38, rfl⟩
theorem cv_X10_whyNoFetch : CV yX10_whyNoFetch cX10_whyNoFetch K_X10_whyNoFetch 0 10 := ⟨⟨tw_1709, tw_10, by decide, by decide, by decide +kernel⟩, tw_1708, sl_X10_whyNoFetch, by decide, TX10, 38, rfl⟩
theorem cv_X10_savesNow : CV yX10_savesNow cX10_savesNow K_X10_savesNow 0 10 := ⟨⟨tw_1776, tw_10, by decide, by decide, by decide +kernel⟩, tw_1775, sl_X10_savesNow, by decide, TX10, 38, rfl⟩
theorem cv_X10_fetches : CV yX10_fetches cX10_fetches K_X10_fetches 0 10 := ⟨⟨tw_1772, tw_10, by decide, by decide, by decide +kernel⟩, tw_1771, sl_X10_fetches, by decide, TX10, 38, rfl⟩
theorem cv_X10_cycle : CV yX10_cycle cX10_cycle K_X10_cycle 0 10 := ⟨⟨tw_1760, tw_10, by decide, by decide, by decide +kernel⟩, tw_1759, sl_X10_cycle, by decide, TX10, 38, rfl⟩
theorem cv_X10_goes : CV yX10_goes cX10_goes K_X10_goes 1 10 := ⟨⟨tw_1756, tw_10, by decide, by decide, by decide +kernel⟩, tw_1755, sl_X10_goes, by decide, TX10, 38, rfl⟩
theorem cv_X10_cellsFor : CV yX10_cellsFor cX10_cellsFor K_X10_cellsFor 1 10 := ⟨⟨tw_1792, tw_10, by decide, by decide, by decide +kernel⟩, tw_1790, tw_1791, by decide, TX10, 38, rfl⟩
theorem cv_X10_remembers : CV yX10_remembers cX10_remembers K_X10_remembers 0 10 := ⟨⟨tw_1875, tw_10, by decide, by decide, by decide +kernel⟩, tw_1874, sl_X10_remembers, by decide, TX10, 38, rfl⟩
theorem cv_X10_remains : CV yX10_remains cX10_remains K_X10_remains 0 10 := ⟨⟨tw_1523, tw_10, by decide, by decide, by decide +kernel⟩, tw_1522, sl_X10_remains, by decide, TX10, 38, rfl⟩
theorem cv_X10_done : CV yX10_done cX10_done K_X10_done 1 10 := ⟨⟨tw_1879, tw_10, by decide, by decide, by decide +kernel⟩, tw_1878, sl_X10_done, by decide, TX10, 38, rfl⟩
theorem cv_X10_commit : CV yX10_commit cX10_commit K_X10_commit 0 10 := ⟨⟨tw_1887, tw_10, by decide, by decide, by decide +kernel⟩, tw_1885, tw_1886, by decide, TX10, 38, rfl⟩
theorem cv_X10_commitable : CV yX10_commitable cX10_commitable K_X10_commitable 0 10 := ⟨⟨tw_1721, tw_10, by decide, by decide, by decide +kernel⟩, tw_1719, tw_1720, by decide, TX10, 38, rfl⟩
theorem cv_X10_refusesCells : CV yX10_refusesCells cX10_refusesCells K_X10_refusesCells 1 10 := ⟨⟨tw_1752, tw_10, by decide, by decide, by decide +kernel⟩, tw_1751, sl_X10_refusesCells, by decide, TX10, 38, rfl⟩
theorem cv_X10_commits : CV yX10_commits cX10_commits K_X10_commits 1 10 := ⟨⟨tw_1780, tw_10, by decide, by decide, by decide +kernel⟩, tw_1778, tw_1779, by decide, TX10, 38, rfl⟩
theorem cs_X10_common : CS yX10_common cX10_common K_X10_common 2 := ⟨⟨tw_1803, tw_10, by decide, by decide, by decide +kernel⟩, tw_1802⟩
theorem ci_X9_init : CI yX9_init cX9_init K_X9_init 0 := ⟨⟨tw_1330, tw_17, by decide, by decide, by decide +kernel⟩, tw_1329, rfl, rfl⟩
theorem cs_X10_isLetter : CS yX10_isLetter cX10_isLetter K_X10_isLetter 1 := ⟨⟨tw_1410, tw_10, by decide, by decide, by decide +kernel⟩, tw_1409⟩
theorem cs_X10_isDigit : CS yX10_isDigit cX10_isDigit K_X10_isDigit 1 := ⟨⟨tw_1414, tw_10, by decide, by decide, by decide +kernel⟩, tw_1413⟩
theorem cv_X10_goesOn : CV yX10_goesOn cX10_goesOn K_X10_goesOn 0 10 := ⟨⟨tw_1403, tw_10, by decide, by decide, by decide +kernel⟩, tw_1402, sl_X10_goesOn, by decide, TX10, 38, rfl⟩
theorem cs_X10_packed : CS yX10_packed cX10_packed K_X10_packed 1 := ⟨⟨tw_1430, tw_10, by decide, by decide, by decide +kernel⟩, tw_1429⟩
theorem cv_X10_isWord : CV yX10_isWord cX10_isWord K_X10_isWord 1 10 := ⟨⟨tw_1427, tw_10, by decide, by decide, by decide +kernel⟩, tw_1426, sl_X10_isWord, by decide, TX10, 38, rfl⟩
theorem cv_X10_flaw : CV yX10_flaw cX10_flaw K_X10_flaw 1 10 := ⟨⟨tw_1440, tw_10, by decide, by decide, by decide +kernel⟩, tw_1439, sl_X10_flaw, by decide, TX10, 38, rfl⟩
theorem cv_X10_needs : CV yX10_needs cX10_needs K_X10_needs 1 10 := ⟨⟨tw_1449, tw_10, by decide, by decide, by decide +kernel⟩, tw_1448, sl_X10_needs, by decide, TX10, 38, rfl⟩
theorem cv_X10_wholeAt : CV yX10_wholeAt cX10_wholeAt K_X10_wholeAt 2 10 := ⟨⟨tw_1457, tw_10, by decide, by decide, by decide +kernel⟩, tw_1456, sl_X10_wholeAt, by decide, TX10, 38, rfl⟩
theorem cv_X10_readWhole : CV yX10_readWhole cX10_readWhole K_X10_readWhole 2 10 := ⟨⟨tw_1453, tw_10, by decide, by decide, by decide +kernel⟩, tw_1452, sl_X10_readWhole, by decide, TX10, 38, rfl⟩
theorem cv_X10_readPart : CV yX10_readPart cX10_readPart K_X10_readPart 3 10 := ⟨⟨tw_1445, tw_10, by decide, by decide, by decide +kernel⟩, tw_1444, sl_X10_readPart, by decide, TX10, 38, rfl⟩
theorem cv_X10_readCore : CV yX10_readCore cX10_readCore K_X10_readCore 0 10 := ⟨⟨tw_1436, tw_10, by decide, by decide, by decide +kernel⟩, tw_1435, sl_X10_readCore, by decide, TX10, 38, rfl⟩
theorem cv_X10_kindAtHand : CV yX10_kindAtHand cX10_kindAtHand K_X10_kindAtHand 0 10 := ⟨⟨tw_1469, tw_10, by decide, by decide, by decide +kernel⟩, tw_1468, sl_X10_kindAtHand, by decide, TX10, 38, rfl⟩
theorem cv_X10_lineBegins : CV yX10_lineBegins cX10_lineBegins K_X10_lineBegins 2 10 := ⟨⟨tw_1483, tw_10, by decide, by decide, by decide +kernel⟩, tw_1482, sl_X10_lineBegins, by decide, TX10, 38, rfl⟩
theorem cv_X10_readRegister : CV yX10_readRegister cX10_readRegister K_X10_readRegister 0 10 := ⟨⟨tw_1487, tw_10, by decide, by decide, by decide +kernel⟩, tw_1486, sl_X10_readRegister, by decide, TX10, 38, rfl⟩
theorem cv_X10_readStep : CV yX10_readStep cX10_readStep K_X10_readStep 1 10 := ⟨⟨tw_1479, tw_10, by decide, by decide, by decide +kernel⟩, tw_1478, sl_X10_readStep, by decide, TX10, 38, rfl⟩
theorem cv_X10_readUnsure : CV yX10_readUnsure cX10_readUnsure K_X10_readUnsure 0 10 := ⟨⟨tw_1494, tw_10, by decide, by decide, by decide +kernel⟩, tw_1493, sl_X10_readUnsure, by decide, TX10, 38, rfl⟩
theorem cv_X9_isGot : CV yX9_isGot cX9_isGot K_X9_isGot 1 9 := ⟨⟨tw_1511, tw_17, by decide, by decide, by decide +kernel⟩, tw_1509, tw_1510, by decide, TX9, 18, rfl⟩
theorem cv_X10_readGot : CV yX10_readGot cX10_readGot K_X10_readGot 0 10 := ⟨⟨tw_1507, tw_10, by decide, by decide, by decide +kernel⟩, tw_1506, sl_X10_readGot, by decide, TX10, 38, rfl⟩
theorem cv_X10_readLine : CV yX10_readLine cX10_readLine K_X10_readLine 0 10 := ⟨⟨tw_1422, tw_10, by decide, by decide, by decide +kernel⟩, tw_1421, sl_X10_readLine, by decide, TX10, 38, rfl⟩
theorem cv_X10_eatsSemicolon : CV yX10_eatsSemicolon cX10_eatsSemicolon K_X10_eatsSemicolon 0 10 := ⟨⟨tw_1515, tw_10, by decide, by decide, by decide +kernel⟩, tw_1514, sl_X10_eatsSemicolon, by decide, TX10, 38, rfl⟩
theorem cv_X10_readAll : CV yX10_readAll cX10_readAll K_X10_readAll 0 10 := ⟨⟨tw_1418, tw_10, by decide, by decide, by decide +kernel⟩, tw_1417, sl_X10_readAll, by decide, TX10, 38, rfl⟩
theorem cv_X10_core : CV yX10_core cX10_core K_X10_core 1 10 := ⟨⟨tw_1321, tw_10, by decide, by decide, by decide +kernel⟩, tw_1319, tw_1320, by decide, TX10, 38, rfl⟩
theorem cv_X10_could : CV yX10_could cX10_could K_X10_could 0 10 := ⟨⟨tw_1823, tw_10, by decide, by decide, by decide +kernel⟩, tw_1821, tw_1822, by decide, TX10, 38, rfl⟩
theorem cv_X10_crowd : CV yX10_crowd cX10_crowd K_X10_crowd 1 10 := ⟨⟨tw_1788, tw_10, by decide, by decide, by decide +kernel⟩, tw_1786, tw_1787, by decide, TX10, 38, rfl⟩
theorem cv_X10_cycles : CV yX10_cycles cX10_cycles K_X10_cycles 1 10 := ⟨⟨tw_1748, tw_10, by decide, by decide, by decide +kernel⟩, tw_1746, tw_1747, by decide, TX10, 38, rfl⟩
theorem cv_X10_refusesDraw : CV yX10_refusesDraw cX10_refusesDraw K_X10_refusesDraw 3 10 := ⟨⟨tw_1851, tw_10, by decide, by decide, by decide +kernel⟩, tw_1850, sl_X10_refusesDraw, by decide, TX10, 38, rfl⟩
theorem cv_X10_draws : CV yX10_draws cX10_draws K_X10_draws 1 10 := ⟨⟨tw_1860, tw_10, by decide, by decide, by decide +kernel⟩, tw_1859, sl_X10_draws, by decide, TX10, 38, rfl⟩
theorem cv_X10_tries : CV yX10_tries cX10_tries K_X10_tries 2 10 := ⟨⟨tw_1856, tw_10, by decide, by decide, by decide +kernel⟩, tw_1855, sl_X10_tries, by decide, TX10, 38, rfl⟩
theorem cv_X10_drawnCommits : CV yX10_drawnCommits cX10_drawnCommits K_X10_drawnCommits 2 10 := ⟨⟨tw_1847, tw_10, by decide, by decide, by decide +kernel⟩, tw_1845, tw_1846, by decide, TX10, 38, rfl⟩
theorem cv_X10_isRegister : CV yX10_isRegister cX10_isRegister K_X10_isRegister 1 10 := ⟨⟨tw_1589, tw_10, by decide, by decide, by decide +kernel⟩, tw_1588, sl_X10_isRegister, by decide, TX10, 38, rfl⟩
theorem cv_X10_valueOf : CV yX10_valueOf cX10_valueOf K_X10_valueOf 1 10 := ⟨⟨tw_1597, tw_10, by decide, by decide, by decide +kernel⟩, tw_1596, sl_X10_valueOf, by decide, TX10, 38, rfl⟩
theorem cv_X10_drawnValue : CV yX10_drawnValue cX10_drawnValue K_X10_drawnValue 3 10 := ⟨⟨tw_1867, tw_10, by decide, by decide, by decide +kernel⟩, tw_1865, tw_1866, by decide, TX10, 38, rfl⟩
theorem cv_X10_entries : CV yX10_entries cX10_entries K_X10_entries 0 10 := ⟨⟨tw_1681, tw_10, by decide, by decide, by decide +kernel⟩, tw_1679, tw_1680, by decide, TX10, 38, rfl⟩
theorem cv_X10_isEntry : CV yX10_isEntry cX10_isEntry K_X10_isEntry 1 10 := ⟨⟨tw_1689, tw_10, by decide, by decide, by decide +kernel⟩, tw_1688, sl_X10_isEntry, by decide, TX10, 38, rfl⟩
theorem cv_X10_entry : CV yX10_entry cX10_entry K_X10_entry 2 10 := ⟨⟨tw_1685, tw_10, by decide, by decide, by decide +kernel⟩, tw_1683, tw_1684, by decide, TX10, 38, rfl⟩
theorem cv_X10_fault : CV yX10_fault cX10_fault K_X10_fault 0 10 := ⟨⟨tw_1531, tw_10, by decide, by decide, by decide +kernel⟩, tw_1529, tw_1530, by decide, TX10, 38, rfl⟩
theorem cv_X10_feed : CV yX10_feed cX10_feed K_X10_feed 5 10 := ⟨⟨tw_1317, tw_10, by decide, by decide, by decide +kernel⟩, tw_1315, tw_1316, by decide, TX10, 38, rfl⟩
theorem cv_X10_fetch : CV yX10_fetch cX10_fetch K_X10_fetch 0 10 := ⟨⟨tw_1871, tw_10, by decide, by decide, by decide +kernel⟩, tw_1869, tw_1870, by decide, TX10, 38, rfl⟩
theorem cv_X10_fetchable : CV yX10_fetchable cX10_fetchable K_X10_fetchable 0 10 := ⟨⟨tw_1705, tw_10, by decide, by decide, by decide +kernel⟩, tw_1703, tw_1704, by decide, TX10, 38, rfl⟩
theorem cv_X10_fitAt : CV yX10_fitAt cX10_fitAt K_X10_fitAt 1 10 := ⟨⟨tw_1819, tw_10, by decide, by decide, by decide +kernel⟩, tw_1817, tw_1818, by decide, TX10, 38, rfl⟩
theorem cv_X10_fits : CV yX10_fits cX10_fits K_X10_fits 0 10 := ⟨⟨tw_1807, tw_10, by decide, by decide, by decide +kernel⟩, tw_1805, tw_1806, by decide, TX10, 38, rfl⟩
theorem cv_X10_fraction : CV yX10_fraction cX10_fraction K_X10_fraction 3 10 := ⟨⟨tw_1800, tw_10, by decide, by decide, by decide +kernel⟩, tw_1799, sl_X10_fraction, by decide, TX10, 38, rfl⟩
theorem cv_X10_free : CV yX10_free cX10_free K_X10_free 0 10 := ⟨⟨tw_1669, tw_10, by decide, by decide, by decide +kernel⟩, tw_1667, tw_1668, by decide, TX10, 38, rfl⟩
theorem cv_X10_gives : CV yX10_gives cX10_gives K_X10_gives 1 10 := ⟨⟨tw_1737, tw_10, by decide, by decide, by decide +kernel⟩, tw_1735, tw_1736, by decide, TX10, 38, rfl⟩
theorem cv_X10_image : CV yX10_image cX10_image K_X10_image 0 10 := ⟨⟨tw_1907, tw_10, by decide, by decide, by decide +kernel⟩, tw_1905, tw_1906, by decide, TX10, 38, rfl⟩
theorem ci_X10_init : CI yX10_init cX10_init K_X10_init 0 := ⟨⟨tw_1193, tw_10, by decide, by decide, by decide +kernel⟩, tw_1192, rfl, rfl⟩
theorem cv_X10_judge : CV yX10_judge cX10_judge K_X10_judge 0 10 := ⟨⟨tw_1843, tw_10, by decide, by decide, by decide +kernel⟩, tw_1841, tw_1842, by decide, TX10, 38, rfl⟩
theorem cv_X10_kept : CV yX10_kept cX10_kept K_X10_kept 1 10 := ⟨⟨tw_1629, tw_10, by decide, by decide, by decide +kernel⟩, tw_1627, tw_1628, by decide, TX10, 38, rfl⟩
theorem cv_X10_led : CV yX10_led cX10_led K_X10_led 1 10 := ⟨⟨tw_1915, tw_10, by decide, by decide, by decide +kernel⟩, tw_1913, tw_1914, by decide, TX10, 38, rfl⟩
theorem cv_X10_letGo : CV yX10_letGo cX10_letGo K_X10_letGo 0 10 := ⟨⟨tw_1641, tw_10, by decide, by decide, by decide +kernel⟩, tw_1639, tw_1640, by decide, TX10, 38, rfl⟩
theorem cv_X10_mapped : CV yX10_mapped cX10_mapped K_X10_mapped 1 10 := ⟨⟨tw_1633, tw_10, by decide, by decide, by decide +kernel⟩, tw_1631, tw_1632, by decide, TX10, 38, rfl⟩
theorem cv_X10_misses : CV yX10_misses cX10_misses K_X10_misses 1 10 := ⟨⟨tw_1784, tw_10, by decide, by decide, by decide +kernel⟩, tw_1782, tw_1783, by decide, TX10, 38, rfl⟩
theorem cv_X10_nextStep : CV yX10_nextStep cX10_nextStep K_X10_nextStep 0 10 := ⟨⟨tw_1701, tw_10, by decide, by decide, by decide +kernel⟩, tw_1699, tw_1700, by decide, TX10, 38, rfl⟩
theorem cv_X10_plainAt : CV yX10_plainAt cX10_plainAt K_X10_plainAt 2 10 := ⟨⟨tw_1569, tw_10, by decide, by decide, by decide +kernel⟩, tw_1567, tw_1568, by decide, TX10, 38, rfl⟩
theorem cv_X10_plainEnd : CV yX10_plainEnd cX10_plainEnd K_X10_plainEnd 0 10 := ⟨⟨tw_1565, tw_10, by decide, by decide, by decide +kernel⟩, tw_1563, tw_1564, by decide, TX10, 38, rfl⟩
theorem cv_X10_plainMisses : CV yX10_plainMisses cX10_plainMisses K_X10_plainMisses 0 10 := ⟨⟨tw_1581, tw_10, by decide, by decide, by decide +kernel⟩, tw_1579, tw_1580, by decide, TX10, 38, rfl⟩
theorem cv_X10_plainStep : CV yX10_plainStep cX10_plainStep K_X10_plainStep 1 10 := ⟨⟨tw_1577, tw_10, by decide, by decide, by decide +kernel⟩, tw_1575, tw_1576, by decide, TX10, 38, rfl⟩
theorem cv_X10_plainSteps : CV yX10_plainSteps cX10_plainSteps K_X10_plainSteps 0 10 := ⟨⟨tw_1539, tw_10, by decide, by decide, by decide +kernel⟩, tw_1537, tw_1538, by decide, TX10, 38, rfl⟩
theorem cv_X10_rate : CV yX10_rate cX10_rate K_X10_rate 2 10 := ⟨⟨tw_1796, tw_10, by decide, by decide, by decide +kernel⟩, tw_1794, tw_1795, by decide, TX10, 38, rfl⟩
theorem cv_X10_ready : CV yX10_ready cX10_ready K_X10_ready 0 10 := ⟨⟨tw_1677, tw_10, by decide, by decide, by decide +kernel⟩, tw_1675, tw_1676, by decide, TX10, 38, rfl⟩
theorem cv_X10_resume : CV yX10_resume cX10_resume K_X10_resume 1 10 := ⟨⟨tw_1891, tw_10, by decide, by decide, by decide +kernel⟩, tw_1889, tw_1890, by decide, TX10, 38, rfl⟩
theorem cv_X10_run : CV yX10_run cX10_run K_X10_run 1 10 := ⟨⟨tw_1883, tw_10, by decide, by decide, by decide +kernel⟩, tw_1881, tw_1882, by decide, TX10, 38, rfl⟩
theorem cv_X10_runnable : CV yX10_runnable cX10_runnable K_X10_runnable 0 10 := ⟨⟨tw_1693, tw_10, by decide, by decide, by decide +kernel⟩, tw_1691, tw_1692, by decide, TX10, 38, rfl⟩
theorem cv_X10_saved : CV yX10_saved cX10_saved K_X10_saved 2 10 := ⟨⟨tw_1733, tw_10, by decide, by decide, by decide +kernel⟩, tw_1731, tw_1732, by decide, TX10, 38, rfl⟩
theorem cv_X10_savesThere : CV yX10_savesThere cX10_savesThere K_X10_savesThere 0 10 := ⟨⟨tw_1923, tw_10, by decide, by decide, by decide +kernel⟩, tw_1922, sl_X10_savesThere, by decide, TX10, 38, rfl⟩
theorem cv_X10_size : CV yX10_size cX10_size K_X10_size 1 10 := ⟨⟨tw_1919, tw_10, by decide, by decide, by decide +kernel⟩, tw_1917, tw_1918, by decide, TX10, 38, rfl⟩
theorem cv_X10_surely : CV yX10_surely cX10_surely K_X10_surely 0 10 := ⟨⟨tw_1827, tw_10, by decide, by decide, by decide +kernel⟩, tw_1825, tw_1826, by decide, TX10, 38, rfl⟩
theorem cv_X10_thrown : CV yX10_thrown cX10_thrown K_X10_thrown 0 10 := ⟨⟨tw_1313, tw_10, by decide, by decide, by decide +kernel⟩, tw_1311, tw_1312, by decide, TX10, 38, rfl⟩
theorem cv_X10_trouble : CV yX10_trouble cX10_trouble K_X10_trouble 0 10 := ⟨⟨tw_1927, tw_10, by decide, by decide, by decide +kernel⟩, tw_1925, tw_1926, by decide, TX10, 38, rfl⟩
theorem cv_X10_undo : CV yX10_undo cX10_undo K_X10_undo 0 10 := ⟨⟨tw_1903, tw_10, by decide, by decide, by decide +kernel⟩, tw_1901, tw_1902, by decide, TX10, 38, rfl⟩
theorem cv_X10_value : CV yX10_value cX10_value K_X10_value 1 10 := ⟨⟨tw_1585, tw_10, by decide, by decide, by decide +kernel⟩, tw_1583, tw_1584, by decide, TX10, 38, rfl⟩
theorem cv_X10_walked : CV yX10_walked cX10_walked K_X10_walked 2 10 := ⟨⟨tw_1729, tw_10, by decide, by decide, by decide +kernel⟩, tw_1727, tw_1728, by decide, TX10, 38, rfl⟩
theorem cv_X10_where : CV yX10_where cX10_where K_X10_where 0 10 := ⟨⟨tw_1535, tw_10, by decide, by decide, by decide +kernel⟩, tw_1533, tw_1534, by decide, TX10, 38, rfl⟩
theorem cv_X1_fitsBy : CV yX1_fitsBy cX1_fitsBy K_X1_fitsBy 1 1 := ⟨⟨tw_979, tw_9, by decide, by decide, by decide +kernel⟩, tw_978, sl_X1_fitsBy, by decide, TX1, 2, rfl⟩
theorem cv_X1_howMany : CV yX1_howMany cX1_howMany K_X1_howMany 0 1 := ⟨⟨tw_966, tw_9, by decide, by decide, by decide +kernel⟩, tw_964, tw_965, by decide, TX1, 2, rfl⟩
theorem cv_X1_leftBy : CV yX1_leftBy cX1_leftBy K_X1_leftBy 1 1 := ⟨⟨tw_1007, tw_9, by decide, by decide, by decide +kernel⟩, tw_1005, tw_1006, by decide, TX1, 2, rfl⟩
theorem cv_X1_bestQuestion : CV yX1_bestQuestion cX1_bestQuestion K_X1_bestQuestion 0 1 := ⟨⟨tw_1003, tw_9, by decide, by decide, by decide +kernel⟩, tw_1001, tw_1002, by decide, TX1, 2, rfl⟩
theorem cv_X4_read : CV yX4_read cX4_read K_X4_read 1 4 := ⟨⟨tw_637, tw_7, by decide, by decide, by decide +kernel⟩, tw_636, sl_X4_read, by decide, TX4, 5, rfl⟩
theorem cv_X5_numberBy : CV yX5_numberBy cX5_numberBy K_X5_numberBy 2 5 := ⟨⟨tw_652, tw_2, by decide, by decide, by decide +kernel⟩, tw_650, tw_651, by decide, TX5, 18, rfl⟩
theorem cv_X4_playStep : CV yX4_playStep cX4_playStep K_X4_playStep 2 4 := ⟨⟨tw_633, tw_7, by decide, by decide, by decide +kernel⟩, tw_632, sl_X4_playStep, by decide, TX4, 5, rfl⟩
theorem cv_X4_play : CV yX4_play cX4_play K_X4_play 3 4 := ⟨⟨tw_627, tw_7, by decide, by decide, by decide +kernel⟩, tw_625, tw_626, by decide, TX4, 5, rfl⟩
theorem cv_X4_firstNotGot : CV yX4_firstNotGot cX4_firstNotGot K_X4_firstNotGot 1 4 := ⟨⟨tw_660, tw_7, by decide, by decide, by decide +kernel⟩, tw_658, tw_659, by decide, TX4, 5, rfl⟩
theorem cv_X1_find : CV yX1_find cX1_find K_X1_find 2 1 := ⟨⟨tw_623, tw_9, by decide, by decide, by decide +kernel⟩, tw_621, tw_622, by decide, TX1, 2, rfl⟩
theorem cv_X1_inAll : CV yX1_inAll cX1_inAll K_X1_inAll 0 1 := ⟨⟨tw_995, tw_9, by decide, by decide, by decide +kernel⟩, tw_993, tw_994, by decide, TX1, 2, rfl⟩
theorem cv_X1_inSome : CV yX1_inSome cX1_inSome K_X1_inSome 0 1 := ⟨⟨tw_987, tw_9, by decide, by decide, by decide +kernel⟩, tw_985, tw_986, by decide, TX1, 2, rfl⟩
theorem ci_X1_init : CI yX1_init cX1_init K_X1_init 0 := ⟨⟨tw_360, tw_9, by decide, by decide, by decide +kernel⟩, tw_359, rfl, rfl⟩
theorem cv_X1_nth : CV yX1_nth cX1_nth K_X1_nth 1 1 := ⟨⟨tw_975, tw_9, by decide, by decide, by decide +kernel⟩, tw_973, tw_974, by decide, TX1, 2, rfl⟩
theorem cv_X2_forget : CV yX2_forget cX2_forget K_X2_forget 0 2 := ⟨⟨tw_614, tw_6, by decide, by decide, by decide +kernel⟩, tw_612, tw_613, by decide, TX2, 5, rfl⟩
theorem ci_X2_init : CI yX2_init cX2_init K_X2_init 1 := ⟨⟨tw_278, tw_6, by decide, by decide, by decide +kernel⟩, tw_277, rfl, rfl⟩
theorem cv_X3_copyFrom : CV yX3_copyFrom cX3_copyFrom K_X3_copyFrom 1 3 := ⟨⟨tw_1035, tw_5, by decide, by decide, by decide +kernel⟩, tw_1033, tw_1034, by decide, TX3, 20, rfl⟩
theorem cv_X2_keep : CV yX2_keep cX2_keep K_X2_keep 1 2 := ⟨⟨tw_1057, tw_6, by decide, by decide, by decide +kernel⟩, tw_1055, tw_1056, by decide, TX2, 5, rfl⟩
theorem cv_X2_picture : CV yX2_picture cX2_picture K_X2_picture 1 2 := ⟨⟨tw_1091, tw_6, by decide, by decide, by decide +kernel⟩, tw_1089, tw_1090, by decide, TX2, 5, rfl⟩
theorem cv_X2_returnTo : CV yX2_returnTo cX2_returnTo K_X2_returnTo 2 2 := ⟨⟨tw_1099, tw_6, by decide, by decide, by decide +kernel⟩, tw_1097, tw_1098, by decide, TX2, 5, rfl⟩
theorem cv_X2_takeBack : CV yX2_takeBack cX2_takeBack K_X2_takeBack 1 2 := ⟨⟨tw_1083, tw_6, by decide, by decide, by decide +kernel⟩, tw_1081, tw_1082, by decide, TX2, 5, rfl⟩
theorem cv_X3_goOnAt : CV yX3_goOnAt cX3_goOnAt K_X3_goOnAt 1 3 := ⟨⟨tw_1075, tw_5, by decide, by decide, by decide +kernel⟩, tw_1073, tw_1074, by decide, TX3, 20, rfl⟩
theorem cv_X3_isSure : CV yX3_isSure cX3_isSure K_X3_isSure 1 3 := ⟨⟨tw_783, tw_5, by decide, by decide, by decide +kernel⟩, tw_781, tw_782, by decide, TX3, 20, rfl⟩
theorem cv_X3_keptValue : CV yX3_keptValue cX3_keptValue K_X3_keptValue 1 3 := ⟨⟨tw_703, tw_5, by decide, by decide, by decide +kernel⟩, tw_701, tw_702, by decide, TX3, 20, rfl⟩
theorem cv_X3_nthDone : CV yX3_nthDone cX3_nthDone K_X3_nthDone 1 3 := ⟨⟨tw_1127, tw_5, by decide, by decide, by decide +kernel⟩, tw_1125, tw_1126, by decide, TX3, 20, rfl⟩
theorem cv_X3_waitersFor : CV yX3_waitersFor cX3_waitersFor K_X3_waitersFor 1 3 := ⟨⟨tw_755, tw_5, by decide, by decide, by decide +kernel⟩, tw_753, tw_754, by decide, TX3, 20, rfl⟩
theorem ci_X4_init : CI yX4_init cX4_init K_X4_init 0 := ⟨⟨tw_305, tw_7, by decide, by decide, by decide +kernel⟩, tw_304, rfl, rfl⟩
theorem cv_X5_clear : CV yX5_clear cX5_clear K_X5_clear 0 5 := ⟨⟨tw_454, tw_2, by decide, by decide, by decide +kernel⟩, tw_452, tw_453, by decide, TX5, 18, rfl⟩
theorem cv_X5_emptyStep : CV yX5_emptyStep cX5_emptyStep K_X5_emptyStep 1 5 := ⟨⟨tw_585, tw_2, by decide, by decide, by decide +kernel⟩, tw_583, tw_584, by decide, TX5, 18, rfl⟩
theorem ci_X5_init : CI yX5_init cX5_init K_X5_init 0 := ⟨⟨tw_36, tw_2, by decide, by decide, by decide +kernel⟩, tw_35, rfl, rfl⟩
theorem cv_X5_isGot : CV yX5_isGot cX5_isGot K_X5_isGot 1 5 := ⟨⟨tw_577, tw_2, by decide, by decide, by decide +kernel⟩, tw_575, tw_576, by decide, TX5, 18, rfl⟩
theorem cv_X5_isUnsure : CV yX5_isUnsure cX5_isUnsure K_X5_isUnsure 1 5 := ⟨⟨tw_569, tw_2, by decide, by decide, by decide +kernel⟩, tw_567, tw_568, by decide, TX5, 18, rfl⟩
theorem cv_X6_advance : CV yX6_advance cX6_advance K_X6_advance 0 6 := ⟨⟨tw_535, tw_3, by decide, by decide, by decide +kernel⟩, tw_534, sl_X6_advance, by decide, TX6, 8, rfl⟩
theorem cv_X6_fails : CV yX6_fails cX6_fails K_X6_fails 1 6 := ⟨⟨tw_527, tw_3, by decide, by decide, by decide +kernel⟩, tw_526, sl_X6_fails, by decide, TX6, 8, rfl⟩
theorem cv_X6_failsAt : CV yX6_failsAt cX6_failsAt K_X6_failsAt 2 6 := ⟨⟨tw_565, tw_3, by decide, by decide, by decide +kernel⟩, tw_564, sl_X6_failsAt, by decide, TX6, 8, rfl⟩
theorem ci_X7_init : CI yX7_init cX7_init K_X7_init 0 := ⟨⟨tw_143, tw_4, by decide, by decide, by decide +kernel⟩, tw_142, rfl, rfl⟩
theorem ci_X6_init : CI yX6_init cX6_init K_X6_init 1 := ⟨⟨tw_137, tw_3, by decide, by decide, by decide +kernel⟩, tw_136, rfl, rfl⟩
theorem cv_X6_isWord : CV yX6_isWord cX6_isWord K_X6_isWord 1 6 := ⟨⟨tw_467, tw_3, by decide, by decide, by decide +kernel⟩, tw_466, sl_X6_isWord, by decide, TX6, 8, rfl⟩
theorem cv_X6_wholeHere : CV yX6_wholeHere cX6_wholeHere K_X6_wholeHere 0 6 := ⟨⟨tw_548, tw_3, by decide, by decide, by decide +kernel⟩, tw_547, sl_X6_wholeHere, by decide, TX6, 8, rfl⟩
theorem cv_X6_takesWhole : CV yX6_takesWhole cX6_takesWhole K_X6_takesWhole 2 6 := ⟨⟨tw_544, tw_3, by decide, by decide, by decide +kernel⟩, tw_543, sl_X6_takesWhole, by decide, TX6, 8, rfl⟩
theorem cv_X6_takesPair : CV yX6_takesPair cX6_takesPair K_X6_takesPair 1 6 := ⟨⟨tw_589, tw_3, by decide, by decide, by decide +kernel⟩, tw_588, sl_X6_takesPair, by decide, TX6, 8, rfl⟩
theorem cv_X6_readChange : CV yX6_readChange cX6_readChange K_X6_readChange 1 6 := ⟨⟨tw_595, tw_3, by decide, by decide, by decide +kernel⟩, tw_594, sl_X6_readChange, by decide, TX6, 8, rfl⟩
theorem cv_X6_takesWord : CV yX6_takesWord cX6_takesWord K_X6_takesWord 1 6 := ⟨⟨tw_540, tw_3, by decide, by decide, by decide +kernel⟩, tw_539, sl_X6_takesWord, by decide, TX6, 8, rfl⟩
theorem cv_X6_readCore : CV yX6_readCore cX6_readCore K_X6_readCore 0 6 := ⟨⟨tw_531, tw_3, by decide, by decide, by decide +kernel⟩, tw_530, sl_X6_readCore, by decide, TX6, 8, rfl⟩
theorem cv_X6_readGot : CV yX6_readGot cX6_readGot K_X6_readGot 0 6 := ⟨⟨tw_573, tw_3, by decide, by decide, by decide +kernel⟩, tw_572, sl_X6_readGot, by decide, TX6, 8, rfl⟩
theorem cv_X6_sortOfLine : CV yX6_sortOfLine cX6_sortOfLine K_X6_sortOfLine 0 6 := ⟨⟨tw_462, tw_3, by decide, by decide, by decide +kernel⟩, tw_461, sl_X6_sortOfLine, by decide, TX6, 8, rfl⟩
theorem cv_X6_readUnsure : CV yX6_readUnsure cX6_readUnsure K_X6_readUnsure 0 6 := ⟨⟨tw_557, tw_3, by decide, by decide, by decide +kernel⟩, tw_556, sl_X6_readUnsure, by decide, TX6, 8, rfl⟩
theorem cv_X6_readSkip : CV yX6_readSkip cX6_readSkip K_X6_readSkip 0 6 := ⟨⟨tw_581, tw_3, by decide, by decide, by decide +kernel⟩, tw_580, sl_X6_readSkip, by decide, TX6, 8, rfl⟩
theorem cv_X6_readLine : CV yX6_readLine cX6_readLine K_X6_readLine 1 6 := ⟨⟨tw_458, tw_3, by decide, by decide, by decide +kernel⟩, tw_457, sl_X6_readLine, by decide, TX6, 8, rfl⟩
theorem cs_X7_pastBlanks : CS yX7_pastBlanks cX7_pastBlanks K_X7_pastBlanks 3 := ⟨⟨tw_438, tw_4, by decide, by decide, by decide +kernel⟩, tw_437⟩
theorem cs_X7_isLetter : CS yX7_isLetter cX7_isLetter K_X7_isLetter 1 := ⟨⟨tw_444, tw_4, by decide, by decide, by decide +kernel⟩, tw_443⟩
theorem cs_X7_isDigit : CS yX7_isDigit cX7_isDigit K_X7_isDigit 1 := ⟨⟨tw_447, tw_4, by decide, by decide, by decide +kernel⟩, tw_446⟩
theorem cs_X7_runEnd : CS yX7_runEnd cX7_runEnd K_X7_runEnd 3 := ⟨⟨tw_441, tw_4, by decide, by decide, by decide +kernel⟩, tw_440⟩
theorem cs_X7_sortOf : CS yX7_sortOf cX7_sortOf K_X7_sortOf 2 := ⟨⟨tw_450, tw_4, by decide, by decide, by decide +kernel⟩, tw_449⟩
theorem cv_X7_part : CV yX7_part cX7_part K_X7_part 2 7 := ⟨⟨tw_435, tw_4, by decide, by decide, by decide +kernel⟩, tw_433, tw_434, by decide, TX7, 4, rfl⟩
theorem cv_X6_reads : CV yX6_reads cX6_reads K_X6_reads 3 6 := ⟨⟨tw_428, tw_3, by decide, by decide, by decide +kernel⟩, tw_426, tw_427, by decide, TX6, 8, rfl⟩
theorem cv_X8_refused : CV yX8_refused cX8_refused K_X8_refused 2 8 := ⟨⟨tw_424, tw_1, by decide, by decide, by decide +kernel⟩, tw_423, sl_X8_refused, by decide, TX8, 13, rfl⟩
theorem cv_X8_plainTotal : CV yX8_plainTotal cX8_plainTotal K_X8_plainTotal 0 8 := ⟨⟨tw_676, tw_1, by decide, by decide, by decide +kernel⟩, tw_675, sl_X8_plainTotal, by decide, TX8, 13, rfl⟩
theorem cv_X8_agrees : CV yX8_agrees cX8_agrees K_X8_agrees 0 8 := ⟨⟨tw_846, tw_1, by decide, by decide, by decide +kernel⟩, tw_844, tw_845, by decide, TX8, 13, rfl⟩
theorem cv_X8_ask : CV yX8_ask cX8_ask K_X8_ask 0 8 := ⟨⟨tw_999, tw_1, by decide, by decide, by decide +kernel⟩, tw_997, tw_998, by decide, TX8, 13, rfl⟩
theorem cv_X8_askLeaves : CV yX8_askLeaves cX8_askLeaves K_X8_askLeaves 0 8 := ⟨⟨tw_1013, tw_1, by decide, by decide, by decide +kernel⟩, tw_1011, tw_1012, by decide, TX8, 13, rfl⟩
theorem cv_X8_back : CV yX8_back cX8_back K_X8_back 1 8 := ⟨⟨tw_1095, tw_1, by decide, by decide, by decide +kernel⟩, tw_1093, tw_1094, by decide, TX8, 13, rfl⟩
theorem cv_X8_beginWithDraft : CV yX8_beginWithDraft cX8_beginWithDraft K_X8_beginWithDraft 0 8 := ⟨⟨tw_599, tw_1, by decide, by decide, by decide +kernel⟩, tw_598, sl_X8_beginWithDraft, by decide, TX8, 13, rfl⟩
theorem cv_X8_cell : CV yX8_cell cX8_cell K_X8_cell 2 8 := ⟨⟨tw_743, tw_1, by decide, by decide, by decide +kernel⟩, tw_741, tw_742, by decide, TX8, 13, rfl⟩
theorem cv_X8_cellsFor : CV yX8_cellsFor cX8_cellsFor K_X8_cellsFor 1 8 := ⟨⟨tw_950, tw_1, by decide, by decide, by decide +kernel⟩, tw_948, tw_949, by decide, TX8, 13, rfl⟩
theorem cv_X8_commit : CV yX8_commit cX8_commit K_X8_commit 0 8 := ⟨⟨tw_1067, tw_1, by decide, by decide, by decide +kernel⟩, tw_1065, tw_1066, by decide, TX8, 13, rfl⟩
theorem cv_X8_commitable : CV yX8_commitable cX8_commitable K_X8_commitable 0 8 := ⟨⟨tw_820, tw_1, by decide, by decide, by decide +kernel⟩, tw_818, tw_819, by decide, TX8, 13, rfl⟩
theorem cs_X8_isCells : CS yX8_isCells cX8_isCells K_X8_isCells 1 := ⟨⟨tw_853, tw_1, by decide, by decide, by decide +kernel⟩, tw_852⟩
theorem cv_X8_commits : CV yX8_commits cX8_commits K_X8_commits 1 8 := ⟨⟨tw_938, tw_1, by decide, by decide, by decide +kernel⟩, tw_936, tw_937, by decide, TX8, 13, rfl⟩
theorem cs_X8_commonDivisor : CS yX8_commonDivisor cX8_commonDivisor K_X8_commonDivisor 2 := ⟨⟨tw_958, tw_1, by decide, by decide, by decide +kernel⟩, tw_957⟩
theorem cv_X8_core : CV yX8_core cX8_core K_X8_core 1 8 := ⟨⟨tw_420, tw_1, by decide, by decide, by decide +kernel⟩, tw_418, tw_419, by decide, TX8, 13, rfl⟩
theorem cv_X8_could : CV yX8_could cX8_could K_X8_could 0 8 := ⟨⟨tw_983, tw_1, by decide, by decide, by decide +kernel⟩, tw_981, tw_982, by decide, TX8, 13, rfl⟩
theorem cv_X8_crowd : CV yX8_crowd cX8_crowd K_X8_crowd 1 8 := ⟨⟨tw_946, tw_1, by decide, by decide, by decide +kernel⟩, tw_944, tw_945, by decide, TX8, 13, rfl⟩
theorem cv_X8_cycles : CV yX8_cycles cX8_cycles K_X8_cycles 1 8 := ⟨⟨tw_850, tw_1, by decide, by decide, by decide +kernel⟩, tw_848, tw_849, by decide, TX8, 13, rfl⟩
theorem cs_X8_nextSeed : CS yX8_nextSeed cX8_nextSeed K_X8_nextSeed 1 := ⟨⟨tw_1038, tw_1, by decide, by decide, by decide +kernel⟩, tw_1037⟩
theorem cv_X8_workIfPossible : CV yX8_workIfPossible cX8_workIfPossible K_X8_workIfPossible 1 8 := ⟨⟨tw_1043, tw_1, by decide, by decide, by decide +kernel⟩, tw_1042, sl_X8_workIfPossible, by decide, TX8, 13, rfl⟩
theorem cv_X8_drawTries : CV yX8_drawTries cX8_drawTries K_X8_drawTries 2 8 := ⟨⟨tw_1031, tw_1, by decide, by decide, by decide +kernel⟩, tw_1030, sl_X8_drawTries, by decide, TX8, 13, rfl⟩
theorem cs_X8_isDraw : CS yX8_isDraw cX8_isDraw K_X8_isDraw 2 := ⟨⟨tw_1026, tw_1, by decide, by decide, by decide +kernel⟩, tw_1025⟩
theorem cv_X8_drawnCommits : CV yX8_drawnCommits cX8_drawnCommits K_X8_drawnCommits 2 8 := ⟨⟨tw_1023, tw_1, by decide, by decide, by decide +kernel⟩, tw_1021, tw_1022, by decide, TX8, 13, rfl⟩
theorem cv_X8_drawnValue : CV yX8_drawnValue cX8_drawnValue K_X8_drawnValue 3 8 := ⟨⟨tw_1049, tw_1, by decide, by decide, by decide +kernel⟩, tw_1047, tw_1048, by decide, TX8, 13, rfl⟩
theorem cv_X8_entries : CV yX8_entries cX8_entries K_X8_entries 0 8 := ⟨⟨tw_771, tw_1, by decide, by decide, by decide +kernel⟩, tw_769, tw_770, by decide, TX8, 13, rfl⟩
theorem cv_X8_isEntry : CV yX8_isEntry cX8_isEntry K_X8_isEntry 1 8 := ⟨⟨tw_779, tw_1, by decide, by decide, by decide +kernel⟩, tw_778, sl_X8_isEntry, by decide, TX8, 13, rfl⟩
theorem cv_X8_entry : CV yX8_entry cX8_entry K_X8_entry 2 8 := ⟨⟨tw_775, tw_1, by decide, by decide, by decide +kernel⟩, tw_773, tw_774, by decide, TX8, 13, rfl⟩
theorem cv_X8_fault : CV yX8_fault cX8_fault K_X8_fault 0 8 := ⟨⟨tw_664, tw_1, by decide, by decide, by decide +kernel⟩, tw_662, tw_663, by decide, TX8, 13, rfl⟩
theorem cv_X8_putBytes : CV yX8_putBytes cX8_putBytes K_X8_putBytes 1 8 := ⟨⟨tw_416, tw_1, by decide, by decide, by decide +kernel⟩, tw_415, sl_X8_putBytes, by decide, TX8, 13, rfl⟩
theorem cv_X8_feed : CV yX8_feed cX8_feed K_X8_feed 5 8 := ⟨⟨tw_412, tw_1, by decide, by decide, by decide +kernel⟩, tw_410, tw_411, by decide, TX8, 13, rfl⟩
theorem cv_X8_fetch : CV yX8_fetch cX8_fetch K_X8_fetch 0 8 := ⟨⟨tw_1053, tw_1, by decide, by decide, by decide +kernel⟩, tw_1051, tw_1052, by decide, TX8, 13, rfl⟩
theorem cv_X8_fetchable : CV yX8_fetchable cX8_fetchable K_X8_fetchable 0 8 := ⟨⟨tw_804, tw_1, by decide, by decide, by decide +kernel⟩, tw_802, tw_803, by decide, TX8, 13, rfl⟩
theorem cv_X8_fitAt : CV yX8_fitAt cX8_fitAt K_X8_fitAt 1 8 := ⟨⟨tw_971, tw_1, by decide, by decide, by decide +kernel⟩, tw_969, tw_970, by decide, TX8, 13, rfl⟩
theorem cv_X8_fits : CV yX8_fits cX8_fits K_X8_fits 0 8 := ⟨⟨tw_962, tw_1, by decide, by decide, by decide +kernel⟩, tw_960, tw_961, by decide, TX8, 13, rfl⟩
theorem cv_X8_free : CV yX8_free cX8_free K_X8_free 0 8 := ⟨⟨tw_759, tw_1, by decide, by decide, by decide +kernel⟩, tw_757, tw_758, by decide, TX8, 13, rfl⟩
theorem cv_X8_gives : CV yX8_gives cX8_gives K_X8_gives 1 8 := ⟨⟨tw_836, tw_1, by decide, by decide, by decide +kernel⟩, tw_834, tw_835, by decide, TX8, 13, rfl⟩
theorem cv_X8_image : CV yX8_image cX8_image K_X8_image 0 8 := ⟨⟨tw_1087, tw_1, by decide, by decide, by decide +kernel⟩, tw_1085, tw_1086, by decide, TX8, 13, rfl⟩
theorem ci_X8_init : CI yX8_init cX8_init K_X8_init 0 := ⟨⟨tw_28, tw_1, by decide, by decide, by decide +kernel⟩, tw_27, rfl, rfl⟩
theorem cv_X8_judge : CV yX8_judge cX8_judge K_X8_judge 0 8 := ⟨⟨tw_1018, tw_1, by decide, by decide, by decide +kernel⟩, tw_1016, tw_1017, by decide, TX8, 13, rfl⟩
theorem cv_X8_kept : CV yX8_kept cX8_kept K_X8_kept 1 8 := ⟨⟨tw_726, tw_1, by decide, by decide, by decide +kernel⟩, tw_724, tw_725, by decide, TX8, 13, rfl⟩
theorem cv_X8_letGo : CV yX8_letGo cX8_letGo K_X8_letGo 0 8 := ⟨⟨tw_738, tw_1, by decide, by decide, by decide +kernel⟩, tw_736, tw_737, by decide, TX8, 13, rfl⟩
theorem cv_X8_mapped : CV yX8_mapped cX8_mapped K_X8_mapped 1 8 := ⟨⟨tw_730, tw_1, by decide, by decide, by decide +kernel⟩, tw_728, tw_729, by decide, TX8, 13, rfl⟩
theorem cv_X8_misses : CV yX8_misses cX8_misses K_X8_misses 1 8 := ⟨⟨tw_942, tw_1, by decide, by decide, by decide +kernel⟩, tw_940, tw_941, by decide, TX8, 13, rfl⟩
theorem cv_X8_nextStep : CV yX8_nextStep cX8_nextStep K_X8_nextStep 0 8 := ⟨⟨tw_800, tw_1, by decide, by decide, by decide +kernel⟩, tw_798, tw_799, by decide, TX8, 13, rfl⟩
theorem cv_X8_plainAt : CV yX8_plainAt cX8_plainAt K_X8_plainAt 2 8 := ⟨⟨tw_686, tw_1, by decide, by decide, by decide +kernel⟩, tw_684, tw_685, by decide, TX8, 13, rfl⟩
theorem cv_X8_plainEnd : CV yX8_plainEnd cX8_plainEnd K_X8_plainEnd 0 8 := ⟨⟨tw_681, tw_1, by decide, by decide, by decide +kernel⟩, tw_679, tw_680, by decide, TX8, 13, rfl⟩
theorem cv_X8_plainMisses : CV yX8_plainMisses cX8_plainMisses K_X8_plainMisses 0 8 := ⟨⟨tw_695, tw_1, by decide, by decide, by decide +kernel⟩, tw_693, tw_694, by decide, TX8, 13, rfl⟩
theorem cv_X8_plainStep : CV yX8_plainStep cX8_plainStep K_X8_plainStep 1 8 := ⟨⟨tw_691, tw_1, by decide, by decide, by decide +kernel⟩, tw_689, tw_690, by decide, TX8, 13, rfl⟩
theorem cv_X8_plainSteps : CV yX8_plainSteps cX8_plainSteps K_X8_plainSteps 0 8 := ⟨⟨tw_672, tw_1, by decide, by decide, by decide +kernel⟩, tw_670, tw_671, by decide, TX8, 13, rfl⟩
theorem cv_X8_rate : CV yX8_rate cX8_rate K_X8_rate 2 8 := ⟨⟨tw_954, tw_1, by decide, by decide, by decide +kernel⟩, tw_952, tw_953, by decide, TX8, 13, rfl⟩
theorem cv_X8_ready : CV yX8_ready cX8_ready K_X8_ready 0 8 := ⟨⟨tw_767, tw_1, by decide, by decide, by decide +kernel⟩, tw_765, tw_766, by decide, TX8, 13, rfl⟩
theorem cv_X8_resume : CV yX8_resume cX8_resume K_X8_resume 1 8 := ⟨⟨tw_1071, tw_1, by decide, by decide, by decide +kernel⟩, tw_1069, tw_1070, by decide, TX8, 13, rfl⟩
theorem cv_X8_run : CV yX8_run cX8_run K_X8_run 1 8 := ⟨⟨tw_1063, tw_1, by decide, by decide, by decide +kernel⟩, tw_1061, tw_1062, by decide, TX8, 13, rfl⟩
theorem cv_X8_runnable : CV yX8_runnable cX8_runnable K_X8_runnable 0 8 := ⟨⟨tw_787, tw_1, by decide, by decide, by decide +kernel⟩, tw_785, tw_786, by decide, TX8, 13, rfl⟩
theorem cv_X8_saved : CV yX8_saved cX8_saved K_X8_saved 2 8 := ⟨⟨tw_832, tw_1, by decide, by decide, by decide +kernel⟩, tw_830, tw_831, by decide, TX8, 13, rfl⟩
theorem cv_X8_sizeOfText : CV yX8_sizeOfText cX8_sizeOfText K_X8_sizeOfText 1 8 := ⟨⟨tw_1107, tw_1, by decide, by decide, by decide +kernel⟩, tw_1106, sl_X8_sizeOfText, by decide, TX8, 13, rfl⟩
theorem cv_X8_sizeOfState : CV yX8_sizeOfState cX8_sizeOfState K_X8_sizeOfState 1 8 := ⟨⟨tw_1111, tw_1, by decide, by decide, by decide +kernel⟩, tw_1110, sl_X8_sizeOfState, by decide, TX8, 13, rfl⟩
theorem cv_X8_size : CV yX8_size cX8_size K_X8_size 1 8 := ⟨⟨tw_1103, tw_1, by decide, by decide, by decide +kernel⟩, tw_1101, tw_1102, by decide, TX8, 13, rfl⟩
theorem cv_X8_surely : CV yX8_surely cX8_surely K_X8_surely 0 8 := ⟨⟨tw_991, tw_1, by decide, by decide, by decide +kernel⟩, tw_989, tw_990, by decide, TX8, 13, rfl⟩
theorem cv_X8_trouble : CV yX8_trouble cX8_trouble K_X8_trouble 0 8 := ⟨⟨tw_1115, tw_1, by decide, by decide, by decide +kernel⟩, tw_1113, tw_1114, by decide, TX8, 13, rfl⟩
theorem cv_X8_undo : CV yX8_undo cX8_undo K_X8_undo 0 8 := ⟨⟨tw_1079, tw_1, by decide, by decide, by decide +kernel⟩, tw_1077, tw_1078, by decide, TX8, 13, rfl⟩
theorem cv_X8_value : CV yX8_value cX8_value K_X8_value 1 8 := ⟨⟨tw_699, tw_1, by decide, by decide, by decide +kernel⟩, tw_697, tw_698, by decide, TX8, 13, rfl⟩
theorem cv_X8_walked : CV yX8_walked cX8_walked K_X8_walked 2 8 := ⟨⟨tw_828, tw_1, by decide, by decide, by decide +kernel⟩, tw_826, tw_827, by decide, TX8, 13, rfl⟩
theorem cv_X8_where : CV yX8_where cX8_where K_X8_where 0 8 := ⟨⟨tw_668, tw_1, by decide, by decide, by decide +kernel⟩, tw_666, tw_667, by decide, TX8, 13, rfl⟩
theorem cs_J0_checkIndex_df160 : CS yJ0_checkIndex_df160 cJ0_checkIndex_df160 K_J0_checkIndex_df160 2 := ⟨⟨tw_491, tw_12, by decide, by decide, by decide +kernel⟩, tw_490⟩
theorem ml_RJ0_335 : ML RJ0 335 yJ0_coder_7d493 := Or.inl tw_472
theorem ml_RJ0_492 : ML RJ0 492 yJ0_isLatin1_aae02 := Or.inl tw_482
theorem ml_RJ0_495 : ML RJ0 495 yJ1_charAt_3b067 := Or.inl tw_486
theorem ml_RJ0_1059 : ML RJ0 1059 yJ3_checkIndex_8e157 := Or.inl tw_494
theorem ml_RJ1_9 : ML RJ1 9 yJ0_checkIndex_df160 := Or.inl tw_489
theorem ml_RX0_26 : ML RX0 26 yX3_init := Or.inl tw_335
theorem ml_RX0_33 : ML RX0 33 yJ7_fill_53178 := Or.inl tw_619
theorem ml_RX0_39 : ML RX0 39 yX3_begin := Or.inl tw_858
theorem ml_RX0_43 : ML RX0 43 yX3_isOver := Or.inl tw_859
theorem ml_RX0_47 : ML RX0 47 yX0_goOneCycle := Or.inl tw_863
theorem ml_RX0_55 : ML RX0 55 yX3_freeBits := Or.inl tw_930
theorem ml_RX0_59 : ML RX0 59 yJ6_bitCount_0f7a4 := Or.inl tw_931
theorem ml_RX0_72 : ML RX0 72 yX3_whyNotRetire := Or.inl tw_867
theorem ml_RX0_75 : ML RX0 75 yX3_retire := Or.inl tw_868
theorem ml_RX0_78 : ML RX0 78 yX3_oldestToWork := Or.inl tw_880
theorem ml_RX0_81 : ML RX0 81 yX3_misguessed := Or.inl tw_885
theorem ml_RX0_85 : ML RX0 85 yX3_work := Or.inl tw_899
theorem ml_RX0_88 : ML RX0 88 yX3_whyNotTake := Or.inl tw_908
theorem ml_RX0_91 : ML RX0 91 yX3_take := Or.inl tw_909
theorem ml_RX1_21 : ML RX1 21 yX4_play := Or.inl tw_624
theorem ml_RX1_27 : ML RX1 27 yX4_firstNotGot := Or.inl tw_657
theorem ml_RX1_31 : ML RX1 31 yJ6_bitCount_0f7a4 := Or.inl tw_967
theorem ml_RX1_37 : ML RX1 37 yX1_fitsBy := Or.inl tw_976
theorem ml_RX1_41 : ML RX1 41 yX1_howMany := Or.inl tw_1008
theorem ml_RX1_51 : ML RX1 51 yX1_leftBy := Or.inl tw_1004
theorem ml_RX10_42 : ML RX10 42 yX10_refused := Or.inl tw_1322
theorem ml_RX10_46 : ML RX10 46 yX10_good := Or.inl tw_1524
theorem ml_RX10_49 : ML RX10 49 yX10_common := Or.inl tw_1801
theorem ml_RX10_56 : ML RX10 56 yJ0_length_8abf5 := Or.inl tw_1431
theorem ml_RX10_64 : ML RX10 64 yJ0_charAt_5068e := Or.inl tw_1432
theorem ml_RX10_74 : ML RX10 74 yX10_byteAt := Or.inl tw_1404
theorem ml_RX10_80 : ML RX10 80 yX10_isLetter := Or.inl tw_1408
theorem ml_RX10_88 : ML RX10 88 yX10_isDigit := Or.inl tw_1412
theorem ml_RX10_100 : ML RX10 100 yX10_packed := Or.inl tw_1428
theorem ml_RX10_104 : ML RX10 104 yX10_goesOn := Or.inl tw_1400
theorem ml_RX10_107 : ML RX10 107 yX10_isWord := Or.inl tw_1424
theorem ml_RX10_111 : ML RX10 111 yX10_flaw := Or.inl tw_1437
theorem ml_RX10_115 : ML RX10 115 yX10_in := Or.inl tw_1458
theorem ml_RX10_119 : ML RX10 119 yX10_wholeAt := Or.inl tw_1454
theorem ml_RX10_123 : ML RX10 123 yX10_needs := Or.inl tw_1446
theorem ml_RX10_127 : ML RX10 127 yX10_readWhole := Or.inl tw_1450
theorem ml_RX10_139 : ML RX10 139 yX10_readLine := Or.inl tw_1419
theorem ml_RX10_142 : ML RX10 142 yX10_eatsSemicolon := Or.inl tw_1512
theorem ml_RX10_163 : ML RX10 163 yX10_readCore := Or.inl tw_1433
theorem ml_RX10_166 : ML RX10 166 yX10_kindAtHand := Or.inl tw_1466
theorem ml_RX10_169 : ML RX10 169 yX10_readStep := Or.inl tw_1476
theorem ml_RX10_174 : ML RX10 174 yX10_readUnsure := Or.inl tw_1491
theorem ml_RX10_179 : ML RX10 179 yX10_readGot := Or.inl tw_1504
theorem ml_RX10_183 : ML RX10 183 yX10_readPart := Or.inl tw_1442
theorem ml_RX10_206 : ML RX10 206 yX10_lineBegins := Or.inl tw_1480
theorem ml_RX10_210 : ML RX10 210 yX10_readRegister := Or.inl tw_1484
theorem ml_RX10_237 : ML RX10 237 yX9_isStep := Or.inl tw_1495
theorem ml_RX10_240 : ML RX10 240 yX9_unsureOf := Or.inl tw_1499
theorem ml_RX10_251 : ML RX10 251 yX9_isGot := Or.inl tw_1508
theorem ml_RX10_262 : ML RX10 262 yX9_init := Or.inr ⟨"RenamedCellsModel", nw_1328⟩
theorem ml_RX10_263 : ML RX10 263 yX10_readAll := Or.inl tw_1415
theorem ml_RX10_268 : ML RX10 268 yX10_asTold := Or.inl tw_1516
theorem ml_RX10_271 : ML RX10 271 yX10_remains := Or.inl tw_1520
theorem ml_RX10_280 : ML RX10 280 yX10_bit := Or.inl tw_1556
theorem ml_RX10_296 : ML RX10 296 yX9_reads := Or.inl tw_1544
theorem ml_RX10_299 : ML RX10 299 yX10_guessed := Or.inl tw_1548
theorem ml_RX10_302 : ML RX10 302 yX10_setBy := Or.inl tw_1552
theorem ml_RX10_305 : ML RX10 305 yX10_comes := Or.inl tw_1559
theorem ml_RX10_309 : ML RX10 309 yX10_plainly := Or.inl tw_1540
theorem ml_RX10_312 : ML RX10 312 yX10_plainlyDone := Or.inl tw_1570
theorem ml_RX10_316 : ML RX10 316 yX10_at := Or.inl tw_1602
theorem ml_RX10_319 : ML RX10 319 yX10_registerOf := Or.inl tw_1614
theorem ml_RX10_322 : ML RX10 322 yX10_has := Or.inl tw_1606
theorem ml_RX10_325 : ML RX10 325 yX10_kindOf := Or.inl tw_1622
theorem ml_RX10_328 : ML RX10 328 yX10_reads := Or.inl tw_1610
theorem ml_RX10_330 : ML RX10 330 yX10_isSure := Or.inl tw_1618
theorem ml_RX10_333 : ML RX10 333 yX10_isLetGo := Or.inl tw_1598
theorem ml_RX10_336 : ML RX10 336 yX10_letGoNow := Or.inl tw_1642
theorem ml_RX10_339 : ML RX10 339 yX10_holders := Or.inl tw_1658
theorem ml_RX10_342 : ML RX10 342 yX10_freeNow := Or.inl tw_1670
theorem ml_RX10_345 : ML RX10 345 yX10_mapOf := Or.inl tw_1634
theorem ml_RX10_348 : ML RX10 348 yX10_isMerging := Or.inl tw_1710
theorem ml_RX10_351 : ML RX10 351 yX10_lowestFree := Or.inl tw_1714
theorem ml_RX10_354 : ML RX10 354 yX10_savesNow := Or.inl tw_1773
theorem ml_RX10_357 : ML RX10 357 yX10_isReady := Or.inl tw_1654
theorem ml_RX10_363 : ML RX10 363 yX10_isRegister := Or.inl tw_1586
theorem ml_RX10_366 : ML RX10 366 yX10_works := Or.inl tw_1590
theorem ml_RX10_369 : ML RX10 369 yX10_valueOf := Or.inl tw_1594
theorem ml_RX10_372 : ML RX10 372 yX10_isCell := Or.inl tw_1650
theorem ml_RX10_375 : ML RX10 375 yX10_waitingFor := Or.inl tw_1662
theorem ml_RX10_378 : ML RX10 378 yX10_isEntry := Or.inl tw_1686
theorem ml_RX10_381 : ML RX10 381 yX10_isRunnable := Or.inl tw_1694
theorem ml_RX10_384 : ML RX10 384 yX10_whyNoFetch := Or.inl tw_1706
theorem ml_RX10_387 : ML RX10 387 yX10_whyNoCommit := Or.inl tw_1722
theorem ml_RX10_390 : ML RX10 390 yX10_bits := Or.inl tw_1738
theorem ml_RX10_393 : ML RX10 393 yX10_commitsOne := Or.inl tw_1761
theorem ml_RX10_396 : ML RX10 396 yX10_runsOne := Or.inl tw_1765
theorem ml_RX10_402 : ML RX10 402 yX10_fetches := Or.inl tw_1769
theorem ml_RX10_411 : ML RX10 411 yX10_cycle := Or.inl tw_1757
theorem ml_RX10_414 : ML RX10 414 yX10_refusesCells := Or.inl tw_1749
theorem ml_RX10_417 : ML RX10 417 yX10_goes := Or.inl tw_1753
theorem ml_RX10_420 : ML RX10 420 yX10_fraction := Or.inl tw_1797
theorem ml_RX10_433 : ML RX10 433 yX10_wrongGot := Or.inl tw_1812
theorem ml_RX10_436 : ML RX10 436 yX10_fitting := Or.inl tw_1808
theorem ml_RX10_442 : ML RX10 442 yX10_asks := Or.inl tw_1832
theorem ml_RX10_457 : ML RX10 457 yX10_draws := Or.inl tw_1857
theorem ml_RX10_461 : ML RX10 461 yX10_refusesDraw := Or.inl tw_1848
theorem ml_RX10_465 : ML RX10 465 yX10_tries := Or.inl tw_1853
theorem ml_RX10_468 : ML RX10 468 yX10_remembers := Or.inl tw_1872
theorem ml_RX10_471 : ML RX10 471 yX10_done := Or.inl tw_1876
theorem ml_RX10_474 : ML RX10 474 yX10_denied := Or.inl tw_1892
theorem ml_RX10_477 : ML RX10 477 yX10_granted := Or.inl tw_1896
theorem ml_RX10_480 : ML RX10 480 yX10_savesThere := Or.inl tw_1920
theorem ml_RX2_20 : ML RX2 20 yX3_init := Or.inl tw_282
theorem ml_RX2_33 : ML RX2 33 yX3_copyFrom := Or.inl tw_1058
theorem ml_RX3_38 : ML RX3 38 yJ7_fill_53178 := Or.inl tw_604
theorem ml_RX3_50 : ML RX3 50 yX3_keepOldest := Or.inl tw_607
theorem ml_RX3_96 : ML RX3 96 yJ6_numberOfTrailingZeros_0f7a4 := Or.inl tw_712
theorem ml_RX3_102 : ML RX3 102 yX3_sureOnes := Or.inl tw_708
theorem ml_RX3_109 : ML RX3 109 yX3_bitOf := Or.inl tw_716
theorem ml_RX3_112 : ML RX3 112 yX3_isDone := Or.inl tw_719
theorem ml_RX3_116 : ML RX3 116 yX3_letGoBits := Or.inl tw_704
theorem ml_RX3_119 : ML RX3 119 yX3_canWork := Or.inl tw_884
theorem ml_RX3_122 : ML RX3 122 yX5_has := Or.inl tw_809
theorem ml_RX3_131 : ML RX3 131 yX3_mergesNext := Or.inl tw_810
theorem ml_RX3_135 : ML RX3 135 yX3_freeBits := Or.inl tw_816
theorem ml_RX3_141 : ML RX3 141 yX3_mapBy := Or.inl tw_814
theorem ml_RX3_145 : ML RX3 145 yX3_holdersBut := Or.inl tw_815
theorem ml_RX3_151 : ML RX3 151 yX3_cellToRead := Or.inl tw_913
theorem ml_RX3_157 : ML RX3 157 yX3_saveIfRoom := Or.inl tw_917
theorem ml_RX3_160 : ML RX3 160 yX3_claim := Or.inl tw_922
theorem ml_RX3_163 : ML RX3 163 yX5_isRisky := Or.inl tw_926
theorem ml_RX3_166 : ML RX3 166 yX5_guessBehind := Or.inl tw_898
theorem ml_RX3_169 : ML RX3 169 yX8_isRegister := Or.inr ⟨"RenamedCells", nw_872⟩
theorem ml_RX3_172 : ML RX3 172 yJ6_bitCount_0f7a4 := Or.inl tw_921
theorem ml_RX3_178 : ML RX3 178 yX3_canRead := Or.inl tw_792
theorem ml_RX3_181 : ML RX3 181 yX3_isReady := Or.inl tw_796
theorem ml_RX3_184 : ML RX3 184 yX3_nextOf := Or.inl tw_889
theorem ml_RX3_187 : ML RX3 187 yX3_valueRead := Or.inl tw_893
theorem ml_RX3_190 : ML RX3 190 yX5_nextBehind := Or.inl tw_897
theorem ml_RX3_194 : ML RX3 194 yX3_workSkip := Or.inl tw_903
theorem ml_RX3_197 : ML RX3 197 yX5_outcome := Or.inl tw_907
theorem ml_RX3_200 : ML RX3 200 yX3_dropOldest := Or.inl tw_873
theorem ml_RX4_15 : ML RX4 15 yJ7_fill_53178 := Or.inl tw_628
theorem ml_RX4_35 : ML RX4 35 yX5_has := Or.inl tw_629
theorem ml_RX4_41 : ML RX4 41 yX4_playStep := Or.inl tw_630
theorem ml_RX4_48 : ML RX4 48 yX4_read := Or.inl tw_634
theorem ml_RX4_58 : ML RX4 58 yX5_nextBehind := Or.inl tw_641
theorem ml_RX4_62 : ML RX4 62 yX5_guessBehind := Or.inl tw_645
theorem ml_RX4_65 : ML RX4 65 yX5_numberBy := Or.inl tw_649
theorem ml_RX4_69 : ML RX4 69 yX5_outcome := Or.inl tw_653
theorem ml_RX4_75 : ML RX4 75 yX8_isRegister := Or.inr ⟨"RenamedCells", nw_638⟩
theorem ml_RX6_17 : ML RX6 17 yX7_init := Or.inr ⟨"RenamedCells", nw_141⟩
theorem ml_RX6_32 : ML RX6 32 yX7_part := Or.inl tw_432
theorem ml_RX6_46 : ML RX6 46 yX5_clear := Or.inl tw_451
theorem ml_RX6_51 : ML RX6 51 yX6_readLine := Or.inl tw_455
theorem ml_RX6_62 : ML RX6 62 yX6_fails := Or.inl tw_524
theorem ml_RX6_65 : ML RX6 65 yX6_advance := Or.inl tw_532
theorem ml_RX6_74 : ML RX6 74 yX6_sortOfLine := Or.inl tw_459
theorem ml_RX6_78 : ML RX6 78 yX6_readCore := Or.inl tw_528
theorem ml_RX6_85 : ML RX6 85 yX6_readUnsure := Or.inl tw_554
theorem ml_RX6_91 : ML RX6 91 yX6_readGot := Or.inl tw_570
theorem ml_RX6_94 : ML RX6 94 yX6_readSkip := Or.inl tw_578
theorem ml_RX6_97 : ML RX6 97 yX6_readChange := Or.inl tw_592
theorem ml_RX6_102 : ML RX6 102 yX6_isWord := Or.inl tw_464
theorem ml_RX6_124 : ML RX6 124 yX6_takesWord := Or.inl tw_537
theorem ml_RX6_127 : ML RX6 127 yX6_takesWhole := Or.inl tw_541
theorem ml_RX6_155 : ML RX6 155 yX5_emptyStep := Or.inl tw_582
theorem ml_RX6_159 : ML RX6 159 yX6_takesPair := Or.inl tw_586
theorem ml_RX6_182 : ML RX6 182 yX5_has := Or.inl tw_558
theorem ml_RX6_191 : ML RX6 191 yX6_failsAt := Or.inl tw_562
theorem ml_RX6_194 : ML RX6 194 yX5_isUnsure := Or.inl tw_566
theorem ml_RX6_203 : ML RX6 203 yX5_isGot := Or.inl tw_574
theorem ml_RX6_212 : ML RX6 212 yX6_wholeHere := Or.inl tw_545
theorem ml_RX6_218 : ML RX6 218 yJ0_length_8abf5 := Or.inl tw_468
theorem ml_RX6_223 : ML RX6 223 yJ0_charAt_5068e := Or.inl tw_478
theorem ml_RX7_21 : ML RX7 21 yX7_pastBlanks := Or.inl tw_436
theorem ml_RX7_25 : ML RX7 25 yX7_runEnd := Or.inl tw_439
theorem ml_RX7_28 : ML RX7 28 yX7_sortOf := Or.inl tw_448
theorem ml_RX7_36 : ML RX7 36 yX7_isLetter := Or.inl tw_442
theorem ml_RX7_40 : ML RX7 40 yX7_isDigit := Or.inl tw_445
theorem ml_RX8_15 : ML RX8 15 yX5_init := Or.inr ⟨"RenamedCells", nw_34⟩
theorem ml_RX8_25 : ML RX8 25 yX6_init := Or.inl tw_135
theorem ml_RX8_34 : ML RX8 34 yX3_init := Or.inl tw_191
theorem ml_RX8_44 : ML RX8 44 yX2_init := Or.inl tw_276
theorem ml_RX8_51 : ML RX8 51 yX4_init := Or.inr ⟨"RenamedCells", nw_303⟩
theorem ml_RX8_58 : ML RX8 58 yX0_init := Or.inl tw_330
theorem ml_RX8_65 : ML RX8 65 yX1_init := Or.inr ⟨"RenamedCells", nw_358⟩
theorem ml_RX8_81 : ML RX8 81 yX8_putBytes := Or.inl tw_413
theorem ml_RX8_85 : ML RX8 85 yX8_refused := Or.inl tw_421
theorem ml_RX8_89 : ML RX8 89 yX6_reads := Or.inl tw_425
theorem ml_RX8_93 : ML RX8 93 yX8_beginWithDraft := Or.inl tw_596
theorem ml_RX8_102 : ML RX8 102 yX3_begin := Or.inl tw_600
theorem ml_RX8_106 : ML RX8 106 yX2_forget := Or.inl tw_611
theorem ml_RX8_109 : ML RX8 109 yX0_forget := Or.inl tw_615
theorem ml_RX8_110 : ML RX8 110 yX1_find := Or.inl tw_620
theorem ml_RX8_120 : ML RX8 120 yX8_plainTotal := Or.inl tw_673
theorem ml_RX8_124 : ML RX8 124 yX4_play := Or.inl tw_677
theorem ml_RX8_137 : ML RX8 137 yX5_has := Or.inl tw_682
theorem ml_RX8_141 : ML RX8 141 yX8_isRegister := Or.inl tw_687
theorem ml_RX8_151 : ML RX8 151 yX3_keptValue := Or.inl tw_700
theorem ml_RX8_161 : ML RX8 161 yX3_mapBy := Or.inl tw_731
theorem ml_RX8_165 : ML RX8 165 yX3_letGoBits := Or.inl tw_739
theorem ml_RX8_168 : ML RX8 168 yX3_isReady := Or.inl tw_744
theorem ml_RX8_174 : ML RX8 174 yX3_holdersBut := Or.inl tw_748
theorem ml_RX8_177 : ML RX8 177 yX3_waitersFor := Or.inl tw_752
theorem ml_RX8_180 : ML RX8 180 yX3_freeBits := Or.inl tw_760
theorem ml_RX8_186 : ML RX8 186 yX8_isEntry := Or.inl tw_776
theorem ml_RX8_213 : ML RX8 213 yX3_isSure := Or.inl tw_780
theorem ml_RX8_216 : ML RX8 216 yX3_canWork := Or.inl tw_788
theorem ml_RX8_220 : ML RX8 220 yX3_whyNotTake := Or.inl tw_805
theorem ml_RX8_223 : ML RX8 223 yX3_whyNotRetire := Or.inl tw_821
theorem ml_RX8_226 : ML RX8 226 yJ6_bitCount_0f7a4 := Or.inl tw_837
theorem ml_RX8_237 : ML RX8 237 yX8_isCells := Or.inl tw_851
theorem ml_RX8_243 : ML RX8 243 yX0_slotOf := Or.inl tw_854
theorem ml_RX8_256 : ML RX8 256 yX8_commonDivisor := Or.inl tw_956
theorem ml_RX8_259 : ML RX8 259 yX1_howMany := Or.inl tw_963
theorem ml_RX8_262 : ML RX8 262 yX1_nth := Or.inl tw_972
theorem ml_RX8_265 : ML RX8 265 yX1_inSome := Or.inl tw_984
theorem ml_RX8_268 : ML RX8 268 yX1_inAll := Or.inl tw_992
theorem ml_RX8_271 : ML RX8 271 yX1_bestQuestion := Or.inl tw_1000
theorem ml_RX8_274 : ML RX8 274 yX1_leftBy := Or.inl tw_1014
theorem ml_RX8_277 : ML RX8 277 yX4_firstNotGot := Or.inl tw_1019
theorem ml_RX8_281 : ML RX8 281 yX8_isDraw := Or.inl tw_1024
theorem ml_RX8_285 : ML RX8 285 yX8_drawTries := Or.inl tw_1028
theorem ml_RX8_290 : ML RX8 290 yX3_copyFrom := Or.inl tw_1032
theorem ml_RX8_294 : ML RX8 294 yX8_nextSeed := Or.inl tw_1036
theorem ml_RX8_297 : ML RX8 297 yX3_take := Or.inl tw_1039
theorem ml_RX8_300 : ML RX8 300 yX8_workIfPossible := Or.inl tw_1040
theorem ml_RX8_303 : ML RX8 303 yX3_retire := Or.inl tw_1045
theorem ml_RX8_306 : ML RX8 306 yX3_work := Or.inl tw_1044
theorem ml_RX8_309 : ML RX8 309 yX2_keep := Or.inl tw_1054
theorem ml_RX8_315 : ML RX8 315 yX3_goOnAt := Or.inl tw_1072
theorem ml_RX8_321 : ML RX8 321 yX2_takeBack := Or.inl tw_1080
theorem ml_RX8_327 : ML RX8 327 yX2_picture := Or.inl tw_1088
theorem ml_RX8_331 : ML RX8 331 yX2_returnTo := Or.inl tw_1096
theorem ml_RX8_341 : ML RX8 341 yX8_sizeOfText := Or.inl tw_1104
theorem ml_RX8_344 : ML RX8 344 yX8_sizeOfState := Or.inl tw_1108
