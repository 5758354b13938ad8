/-! the tables' words that outlive a call (wB), each had by its place -/
def wB : List Cond := lw_tbl.filter goodWord
theorem wB_at {w : Cond} (i : Nat) (h : lw_tbl[i]? = some w) (g : goodWord w = true) : w ∈ wB := List.mem_filter.mpr ⟨List.mem_of_getElem? h, g⟩
theorem wB_good : GoodIn wB wB := fun w h => ⟨h, good_of_word (List.mem_filter.mp h).2⟩
theorem wB_one {w : Cond} (h : w ∈ wB) : w ∈ wB ∧ ((w.onTables && w.keeps) = true ∨ ∃ ty, w = .arrayClass ty) := ⟨h, good_of_word (List.mem_filter.mp h).2⟩
theorem gC {y : MethodName} {cc : ByteArray} {nL : Nat} {ret : Option FieldType} (h : Cond.code y cc nL ret ∈ wB) : GoodIn wB (Cond.code y cc nL ret :: wB) := fun w hw => (List.mem_cons.mp hw).elim (fun e => e ▸ wB_one h) (fun hw => wB_good w hw)
theorem gV {own C : String} {idx : Nat} {y : MethodName} {cc : ByteArray} {nL : Nat} {ret : Option FieldType} (h1 : Cond.methodLink own idx y ∈ wB) (hm : Cond.instanceMethod y ∈ wB ∧ Cond.selects C y y ∈ wB ∧ Cond.code y cc nL ret ∈ wB) (h4 : Cond.initialized C ∈ wB) : GoodIn wB (wsV own idx C y (Cond.code y cc nL ret :: wB)) := by
  intro w hw
  rcases List.mem_append.mp hw with h | h
  · rcases List.mem_cons.mp h with rfl | h
    · exact wB_one h1
    rcases List.mem_cons.mp h with rfl | h
    · exact wB_one hm.1
    rcases List.mem_cons.mp h with rfl | h
    · exact wB_one hm.2.1
    rcases List.mem_cons.mp h with rfl | h
    · exact wB_one h4
    · cases h
  · exact gC hm.2.2 w h
theorem gS {own : String} {idx : Nat} {y : MethodName} {cc : ByteArray} {nL : Nat} {ret : Option FieldType} (h1 : Cond.methodLink own idx y ∈ wB) (hm : Cond.static y ∈ wB ∧ Cond.code y cc nL ret ∈ wB) (h4 : Cond.initialized y.cls ∈ wB) : GoodIn wB (va_wsS own idx y (Cond.code y cc nL ret :: wB)) := by
  intro w hw
  rcases List.mem_append.mp hw with h | h
  · rcases List.mem_cons.mp h with rfl | h
    · exact wB_one h1
    rcases List.mem_cons.mp h with rfl | h
    · exact wB_one hm.1
    rcases List.mem_cons.mp h with rfl | h
    · exact wB_one h4
    · cases h
  · exact gC hm.2 w h
theorem inB_of {C : String} {T : u_T} {N : Nat} (is : List Nat) (h : u_ws C T N = is.filterMap (fun i => lw_tbl[i]?)) (g : (u_ws C T N).all goodWord = true) : ∀ w ∈ u_ws C T N, w ∈ wB := by
  intro w hw
  have h1 := List.all_eq_true.mp g w hw
  rw [h] at hw
  obtain ⟨i, -, hi⟩ := List.mem_filterMap.mp hw
  exact wB_at i hi h1
theorem inBX0 : ∀ w ∈ u_ws RX0 TX0 6, w ∈ wB := inB_of [285, 287, 289, 291, 293, 295] (by decide +kernel) (by decide +kernel)
theorem izX0 : Cond.initialized RX0 ∈ wB := wB_at 87 (by decide +kernel) (by decide +kernel)
theorem inBX1 : ∀ w ∈ u_ws RX1 TX1 3, w ∈ wB := inB_of [309, 311, 313] (by decide +kernel) (by decide +kernel)
theorem izX1 : Cond.initialized RX1 ∈ wB := wB_at 88 (by decide +kernel) (by decide +kernel)
theorem inBX2 : ∀ w ∈ u_ws RX2 TX2 3, w ∈ wB := inB_of [149, 151, 153] (by decide +kernel) (by decide +kernel)
theorem izX2 : Cond.initialized RX2 ∈ wB := wB_at 83 (by decide +kernel) (by decide +kernel)
theorem inBX3 : ∀ w ∈ u_ws RX3 TX3 4, w ∈ wB := inB_of [369, 371, 373, 375] (by decide +kernel) (by decide +kernel)
theorem izX3 : Cond.initialized RX3 ∈ wB := wB_at 90 (by decide +kernel) (by decide +kernel)
theorem inBX4 : ∀ w ∈ u_ws RX4 TX4 8, w ∈ wB := inB_of [204, 206, 208, 210, 212, 214, 216, 218] (by decide +kernel) (by decide +kernel)
theorem izX4 : Cond.initialized RX4 ∈ wB := wB_at 86 (by decide +kernel) (by decide +kernel)
theorem inBX5 : ∀ w ∈ u_ws RX5 TX5 12, w ∈ wB := inB_of [334, 336, 338, 340, 342, 344, 346, 348, 350, 352, 354, 356] (by decide +kernel) (by decide +kernel)
theorem izX5 : Cond.initialized RX5 ∈ wB := wB_at 89 (by decide +kernel) (by decide +kernel)
theorem inBX6 : ∀ w ∈ u_ws RX6 TX6 17, w ∈ wB := inB_of [238, 240, 242, 244, 246, 248, 250, 252, 254, 256, 258, 260, 262, 264, 266, 268, 270] (by decide +kernel) (by decide +kernel)
theorem izX6 : Cond.initialized RX6 ∈ wB := wB_at 85 (by decide +kernel) (by decide +kernel)
theorem inBX7 : ∀ w ∈ u_ws RX7 TX7 7, w ∈ wB := inB_of [169, 171, 173, 175, 177, 179, 181] (by decide +kernel) (by decide +kernel)
theorem izX7 : Cond.initialized RX7 ∈ wB := wB_at 84 (by decide +kernel) (by decide +kernel)
theorem inBX8 : ∀ w ∈ u_ws RX8 TX8 9, w ∈ wB := inB_of [116, 118, 120, 122, 124, 126, 128, 130, 132] (by decide +kernel) (by decide +kernel)
theorem izX8 : Cond.initialized RX8 ∈ wB := wB_at 82 (by decide +kernel) (by decide +kernel)
theorem inBX9 : ∀ w ∈ u_ws RX9 TX9 13, w ∈ wB := inB_of [391, 393, 395, 397, 399, 401, 403, 405, 407, 409, 411, 413, 415] (by decide +kernel) (by decide +kernel)
theorem izX9 : Cond.initialized RX9 ∈ wB := wB_at 81 (by decide +kernel) (by decide +kernel)
theorem inBX10 : ∀ w ∈ u_ws RX10 TX10 70, w ∈ wB := inB_of [1315, 1317, 1319, 1321, 1323, 1325, 1327, 1329, 1331, 1333, 1335, 1337, 1339, 1341, 1343, 1345, 1347, 1349, 1351, 1353, 1355, 1357, 1359, 1361, 1363, 1365, 1367, 1369, 1371, 1373, 1375, 1377, 1379, 1381, 1383, 1385, 1387, 1389, 1391, 1393, 1395, 1397, 1399, 1401, 1403, 1405, 1407, 1409, 1411, 1413, 1415, 1417, 1419, 1421, 1423, 1425, 1427, 1429, 1431, 1433, 1435, 1437, 1439, 1441, 1443, 1445, 1447, 1449, 1451, 1453] (by decide +kernel) (by decide +kernel)
theorem izX10 : Cond.initialized RX10 ∈ wB := wB_at 91 (by decide +kernel) (by decide +kernel)
theorem flX0_9 : Cond.fieldLink RX0 9 RX0 (TX0 2).2.1 (TX0 2).2.2.1 ∈ wB := wB_at 281 (by decide +kernel) (by decide +kernel)
theorem flX0_15 : Cond.fieldLink RX0 15 RX0 (TX0 3).2.1 (TX0 3).2.2.1 ∈ wB := wB_at 282 (by decide +kernel) (by decide +kernel)
theorem flX0_19 : Cond.fieldLink RX0 19 RX0 (TX0 4).2.1 (TX0 4).2.2.1 ∈ wB := wB_at 283 (by decide +kernel) (by decide +kernel)
theorem flX0_22 : Cond.fieldLink RX0 22 RX0 (TX0 5).2.1 (TX0 5).2.2.1 ∈ wB := wB_at 284 (by decide +kernel) (by decide +kernel)
theorem flX0_25 : Cond.fieldLink RX0 25 RX0 (TX0 0).2.1 (TX0 0).2.2.1 ∈ wB := wB_at 279 (by decide +kernel) (by decide +kernel)
theorem flX0_29 : Cond.fieldLink RX0 29 RX0 (TX0 1).2.1 (TX0 1).2.2.1 ∈ wB := wB_at 280 (by decide +kernel) (by decide +kernel)
theorem flX1_9 : Cond.fieldLink RX1 9 RX1 (TX1 1).2.1 (TX1 1).2.2.1 ∈ wB := wB_at 307 (by decide +kernel) (by decide +kernel)
theorem flX1_15 : Cond.fieldLink RX1 15 RX1 (TX1 2).2.1 (TX1 2).2.2.1 ∈ wB := wB_at 308 (by decide +kernel) (by decide +kernel)
theorem flX1_23 : Cond.fieldLink RX1 23 RX1 (TX1 0).2.1 (TX1 0).2.2.1 ∈ wB := wB_at 306 (by decide +kernel) (by decide +kernel)
theorem flX10_7 : Cond.fieldLink RX10 7 RX10 (TX10 0).2.1 (TX10 0).2.2.1 ∈ wB := wB_at 1245 (by decide +kernel) (by decide +kernel)
theorem flX10_13 : Cond.fieldLink RX10 13 RX10 (TX10 1).2.1 (TX10 1).2.2.1 ∈ wB := wB_at 1246 (by decide +kernel) (by decide +kernel)
theorem flX10_17 : Cond.fieldLink RX10 17 RX10 (TX10 2).2.1 (TX10 2).2.2.1 ∈ wB := wB_at 1247 (by decide +kernel) (by decide +kernel)
theorem flX10_20 : Cond.fieldLink RX10 20 RX10 (TX10 3).2.1 (TX10 3).2.2.1 ∈ wB := wB_at 1248 (by decide +kernel) (by decide +kernel)
theorem flX10_23 : Cond.fieldLink RX10 23 RX10 (TX10 5).2.1 (TX10 5).2.2.1 ∈ wB := wB_at 1250 (by decide +kernel) (by decide +kernel)
theorem flX10_26 : Cond.fieldLink RX10 26 RX10 (TX10 7).2.1 (TX10 7).2.2.1 ∈ wB := wB_at 1252 (by decide +kernel) (by decide +kernel)
theorem flX10_29 : Cond.fieldLink RX10 29 RX10 (TX10 8).2.1 (TX10 8).2.2.1 ∈ wB := wB_at 1253 (by decide +kernel) (by decide +kernel)
theorem flX10_32 : Cond.fieldLink RX10 32 RX10 (TX10 9).2.1 (TX10 9).2.2.1 ∈ wB := wB_at 1254 (by decide +kernel) (by decide +kernel)
theorem flX10_35 : Cond.fieldLink RX10 35 RX10 (TX10 10).2.1 (TX10 10).2.2.1 ∈ wB := wB_at 1255 (by decide +kernel) (by decide +kernel)
theorem flX10_38 : Cond.fieldLink RX10 38 RX10 (TX10 11).2.1 (TX10 11).2.2.1 ∈ wB := wB_at 1256 (by decide +kernel) (by decide +kernel)
theorem flX10_41 : Cond.fieldLink RX10 41 RX10 (TX10 12).2.1 (TX10 12).2.2.1 ∈ wB := wB_at 1257 (by decide +kernel) (by decide +kernel)
theorem flX10_44 : Cond.fieldLink RX10 44 RX10 (TX10 17).2.1 (TX10 17).2.2.1 ∈ wB := wB_at 1262 (by decide +kernel) (by decide +kernel)
theorem flX10_47 : Cond.fieldLink RX10 47 RX10 (TX10 20).2.1 (TX10 20).2.2.1 ∈ wB := wB_at 1265 (by decide +kernel) (by decide +kernel)
theorem flX10_50 : Cond.fieldLink RX10 50 RX10 (TX10 21).2.1 (TX10 21).2.2.1 ∈ wB := wB_at 1266 (by decide +kernel) (by decide +kernel)
theorem flX10_53 : Cond.fieldLink RX10 53 RX10 (TX10 22).2.1 (TX10 22).2.2.1 ∈ wB := wB_at 1267 (by decide +kernel) (by decide +kernel)
theorem flX10_56 : Cond.fieldLink RX10 56 RX10 (TX10 23).2.1 (TX10 23).2.2.1 ∈ wB := wB_at 1268 (by decide +kernel) (by decide +kernel)
theorem flX10_59 : Cond.fieldLink RX10 59 RX10 (TX10 24).2.1 (TX10 24).2.2.1 ∈ wB := wB_at 1269 (by decide +kernel) (by decide +kernel)
theorem flX10_62 : Cond.fieldLink RX10 62 RX10 (TX10 27).2.1 (TX10 27).2.2.1 ∈ wB := wB_at 1272 (by decide +kernel) (by decide +kernel)
theorem flX10_65 : Cond.fieldLink RX10 65 RX10 (TX10 28).2.1 (TX10 28).2.2.1 ∈ wB := wB_at 1273 (by decide +kernel) (by decide +kernel)
theorem flX10_68 : Cond.fieldLink RX10 68 RX10 (TX10 29).2.1 (TX10 29).2.2.1 ∈ wB := wB_at 1274 (by decide +kernel) (by decide +kernel)
theorem flX10_71 : Cond.fieldLink RX10 71 RX10 (TX10 30).2.1 (TX10 30).2.2.1 ∈ wB := wB_at 1275 (by decide +kernel) (by decide +kernel)
theorem flX10_74 : Cond.fieldLink RX10 74 RX10 (TX10 32).2.1 (TX10 32).2.2.1 ∈ wB := wB_at 1277 (by decide +kernel) (by decide +kernel)
theorem flX10_77 : Cond.fieldLink RX10 77 RX10 (TX10 33).2.1 (TX10 33).2.2.1 ∈ wB := wB_at 1278 (by decide +kernel) (by decide +kernel)
theorem flX10_80 : Cond.fieldLink RX10 80 RX10 (TX10 34).2.1 (TX10 34).2.2.1 ∈ wB := wB_at 1279 (by decide +kernel) (by decide +kernel)
theorem flX10_83 : Cond.fieldLink RX10 83 RX10 (TX10 36).2.1 (TX10 36).2.2.1 ∈ wB := wB_at 1281 (by decide +kernel) (by decide +kernel)
theorem flX10_86 : Cond.fieldLink RX10 86 RX10 (TX10 37).2.1 (TX10 37).2.2.1 ∈ wB := wB_at 1282 (by decide +kernel) (by decide +kernel)
theorem flX10_89 : Cond.fieldLink RX10 89 RX10 (TX10 38).2.1 (TX10 38).2.2.1 ∈ wB := wB_at 1283 (by decide +kernel) (by decide +kernel)
theorem flX10_92 : Cond.fieldLink RX10 92 RX10 (TX10 39).2.1 (TX10 39).2.2.1 ∈ wB := wB_at 1284 (by decide +kernel) (by decide +kernel)
theorem flX10_95 : Cond.fieldLink RX10 95 RX10 (TX10 40).2.1 (TX10 40).2.2.1 ∈ wB := wB_at 1285 (by decide +kernel) (by decide +kernel)
theorem flX10_98 : Cond.fieldLink RX10 98 RX10 (TX10 41).2.1 (TX10 41).2.2.1 ∈ wB := wB_at 1286 (by decide +kernel) (by decide +kernel)
theorem flX10_101 : Cond.fieldLink RX10 101 RX10 (TX10 42).2.1 (TX10 42).2.2.1 ∈ wB := wB_at 1287 (by decide +kernel) (by decide +kernel)
theorem flX10_104 : Cond.fieldLink RX10 104 RX10 (TX10 43).2.1 (TX10 43).2.2.1 ∈ wB := wB_at 1288 (by decide +kernel) (by decide +kernel)
theorem flX10_107 : Cond.fieldLink RX10 107 RX10 (TX10 44).2.1 (TX10 44).2.2.1 ∈ wB := wB_at 1289 (by decide +kernel) (by decide +kernel)
theorem flX10_110 : Cond.fieldLink RX10 110 RX10 (TX10 49).2.1 (TX10 49).2.2.1 ∈ wB := wB_at 1294 (by decide +kernel) (by decide +kernel)
theorem flX10_113 : Cond.fieldLink RX10 113 RX10 (TX10 62).2.1 (TX10 62).2.2.1 ∈ wB := wB_at 1307 (by decide +kernel) (by decide +kernel)
theorem flX10_116 : Cond.fieldLink RX10 116 RX10 (TX10 64).2.1 (TX10 64).2.2.1 ∈ wB := wB_at 1309 (by decide +kernel) (by decide +kernel)
theorem flX10_119 : Cond.fieldLink RX10 119 RX10 (TX10 65).2.1 (TX10 65).2.2.1 ∈ wB := wB_at 1310 (by decide +kernel) (by decide +kernel)
theorem flX10_122 : Cond.fieldLink RX10 122 RX10 (TX10 4).2.1 (TX10 4).2.2.1 ∈ wB := wB_at 1249 (by decide +kernel) (by decide +kernel)
theorem flX10_150 : Cond.fieldLink RX10 150 RX10 (TX10 6).2.1 (TX10 6).2.2.1 ∈ wB := wB_at 1251 (by decide +kernel) (by decide +kernel)
theorem flX10_153 : Cond.fieldLink RX10 153 RX10 (TX10 14).2.1 (TX10 14).2.2.1 ∈ wB := wB_at 1259 (by decide +kernel) (by decide +kernel)
theorem flX10_156 : Cond.fieldLink RX10 156 RX10 (TX10 15).2.1 (TX10 15).2.2.1 ∈ wB := wB_at 1260 (by decide +kernel) (by decide +kernel)
theorem flX10_159 : Cond.fieldLink RX10 159 RX10 (TX10 16).2.1 (TX10 16).2.2.1 ∈ wB := wB_at 1261 (by decide +kernel) (by decide +kernel)
theorem flX10_200 : Cond.fieldLink RX10 200 RX10 (TX10 18).2.1 (TX10 18).2.2.1 ∈ wB := wB_at 1263 (by decide +kernel) (by decide +kernel)
theorem flX10_203 : Cond.fieldLink RX10 203 RX10 (TX10 19).2.1 (TX10 19).2.2.1 ∈ wB := wB_at 1264 (by decide +kernel) (by decide +kernel)
theorem flX10_206 : Cond.fieldLink RX10 206 RX10 (TX10 31).2.1 (TX10 31).2.2.1 ∈ wB := wB_at 1276 (by decide +kernel) (by decide +kernel)
theorem flX10_209 : Cond.fieldLink RX10 209 RX10 (TX10 25).2.1 (TX10 25).2.2.1 ∈ wB := wB_at 1270 (by decide +kernel) (by decide +kernel)
theorem flX10_212 : Cond.fieldLink RX10 212 RX10 (TX10 26).2.1 (TX10 26).2.2.1 ∈ wB := wB_at 1271 (by decide +kernel) (by decide +kernel)
theorem flX10_219 : Cond.fieldLink RX10 219 RX10 (TX10 35).2.1 (TX10 35).2.2.1 ∈ wB := wB_at 1280 (by decide +kernel) (by decide +kernel)
theorem flX10_248 : Cond.fieldLink RX10 248 RX10 (TX10 46).2.1 (TX10 46).2.2.1 ∈ wB := wB_at 1291 (by decide +kernel) (by decide +kernel)
theorem flX10_251 : Cond.fieldLink RX10 251 RX10 (TX10 45).2.1 (TX10 45).2.2.1 ∈ wB := wB_at 1290 (by decide +kernel) (by decide +kernel)
theorem flX10_254 : Cond.fieldLink RX10 254 RX10 (TX10 47).2.1 (TX10 47).2.2.1 ∈ wB := wB_at 1292 (by decide +kernel) (by decide +kernel)
theorem flX10_257 : Cond.fieldLink RX10 257 RX10 (TX10 48).2.1 (TX10 48).2.2.1 ∈ wB := wB_at 1293 (by decide +kernel) (by decide +kernel)
theorem flX10_263 : Cond.fieldLink RX10 263 RX10 (TX10 13).2.1 (TX10 13).2.2.1 ∈ wB := wB_at 1258 (by decide +kernel) (by decide +kernel)
theorem flX10_301 : Cond.fieldLink RX10 301 RX10 (TX10 50).2.1 (TX10 50).2.2.1 ∈ wB := wB_at 1295 (by decide +kernel) (by decide +kernel)
theorem flX10_313 : Cond.fieldLink RX10 313 RX10 (TX10 51).2.1 (TX10 51).2.2.1 ∈ wB := wB_at 1296 (by decide +kernel) (by decide +kernel)
theorem flX10_317 : Cond.fieldLink RX10 317 RX10 (TX10 52).2.1 (TX10 52).2.2.1 ∈ wB := wB_at 1297 (by decide +kernel) (by decide +kernel)
theorem flX10_320 : Cond.fieldLink RX10 320 RX10 (TX10 53).2.1 (TX10 53).2.2.1 ∈ wB := wB_at 1298 (by decide +kernel) (by decide +kernel)
theorem flX10_341 : Cond.fieldLink RX10 341 RX10 (TX10 54).2.1 (TX10 54).2.2.1 ∈ wB := wB_at 1299 (by decide +kernel) (by decide +kernel)
theorem flX10_344 : Cond.fieldLink RX10 344 RX10 (TX10 55).2.1 (TX10 55).2.2.1 ∈ wB := wB_at 1300 (by decide +kernel) (by decide +kernel)
theorem flX10_347 : Cond.fieldLink RX10 347 RX10 (TX10 56).2.1 (TX10 56).2.2.1 ∈ wB := wB_at 1301 (by decide +kernel) (by decide +kernel)
theorem flX10_383 : Cond.fieldLink RX10 383 RX10 (TX10 58).2.1 (TX10 58).2.2.1 ∈ wB := wB_at 1303 (by decide +kernel) (by decide +kernel)
theorem flX10_386 : Cond.fieldLink RX10 386 RX10 (TX10 57).2.1 (TX10 57).2.2.1 ∈ wB := wB_at 1302 (by decide +kernel) (by decide +kernel)
theorem flX10_389 : Cond.fieldLink RX10 389 RX10 (TX10 59).2.1 (TX10 59).2.2.1 ∈ wB := wB_at 1304 (by decide +kernel) (by decide +kernel)
theorem flX10_392 : Cond.fieldLink RX10 392 RX10 (TX10 60).2.1 (TX10 60).2.2.1 ∈ wB := wB_at 1305 (by decide +kernel) (by decide +kernel)
theorem flX10_395 : Cond.fieldLink RX10 395 RX10 (TX10 61).2.1 (TX10 61).2.2.1 ∈ wB := wB_at 1306 (by decide +kernel) (by decide +kernel)
theorem flX10_408 : Cond.fieldLink RX10 408 RX10 (TX10 63).2.1 (TX10 63).2.2.1 ∈ wB := wB_at 1308 (by decide +kernel) (by decide +kernel)
theorem flX10_411 : Cond.fieldLink RX10 411 RX10 (TX10 66).2.1 (TX10 66).2.2.1 ∈ wB := wB_at 1311 (by decide +kernel) (by decide +kernel)
theorem flX10_414 : Cond.fieldLink RX10 414 RX10 (TX10 67).2.1 (TX10 67).2.2.1 ∈ wB := wB_at 1312 (by decide +kernel) (by decide +kernel)
theorem flX10_417 : Cond.fieldLink RX10 417 RX10 (TX10 68).2.1 (TX10 68).2.2.1 ∈ wB := wB_at 1313 (by decide +kernel) (by decide +kernel)
theorem flX10_420 : Cond.fieldLink RX10 420 RX10 (TX10 69).2.1 (TX10 69).2.2.1 ∈ wB := wB_at 1314 (by decide +kernel) (by decide +kernel)
theorem flX2_11 : Cond.fieldLink RX2 11 RX2 (TX2 0).2.1 (TX2 0).2.2.1 ∈ wB := wB_at 146 (by decide +kernel) (by decide +kernel)
theorem flX2_16 : Cond.fieldLink RX2 16 RX2 (TX2 1).2.1 (TX2 1).2.2.1 ∈ wB := wB_at 147 (by decide +kernel) (by decide +kernel)
theorem flX2_20 : Cond.fieldLink RX2 20 RX2 (TX2 2).2.1 (TX2 2).2.2.1 ∈ wB := wB_at 148 (by decide +kernel) (by decide +kernel)
theorem flX3_9 : Cond.fieldLink RX3 9 RX3 (TX3 1).2.1 (TX3 1).2.2.1 ∈ wB := wB_at 366 (by decide +kernel) (by decide +kernel)
theorem flX3_15 : Cond.fieldLink RX3 15 RX3 (TX3 2).2.1 (TX3 2).2.2.1 ∈ wB := wB_at 367 (by decide +kernel) (by decide +kernel)
theorem flX3_19 : Cond.fieldLink RX3 19 RX3 (TX3 3).2.1 (TX3 3).2.2.1 ∈ wB := wB_at 368 (by decide +kernel) (by decide +kernel)
theorem flX3_22 : Cond.fieldLink RX3 22 RX3 (TX3 0).2.1 (TX3 0).2.2.1 ∈ wB := wB_at 365 (by decide +kernel) (by decide +kernel)
theorem flX4_9 : Cond.fieldLink RX4 9 RX4 (TX4 0).2.1 (TX4 0).2.2.1 ∈ wB := wB_at 196 (by decide +kernel) (by decide +kernel)
theorem flX4_15 : Cond.fieldLink RX4 15 RX4 (TX4 1).2.1 (TX4 1).2.2.1 ∈ wB := wB_at 197 (by decide +kernel) (by decide +kernel)
theorem flX4_19 : Cond.fieldLink RX4 19 RX4 (TX4 2).2.1 (TX4 2).2.2.1 ∈ wB := wB_at 198 (by decide +kernel) (by decide +kernel)
theorem flX4_23 : Cond.fieldLink RX4 23 RX4 (TX4 3).2.1 (TX4 3).2.2.1 ∈ wB := wB_at 199 (by decide +kernel) (by decide +kernel)
theorem flX4_26 : Cond.fieldLink RX4 26 RX4 (TX4 4).2.1 (TX4 4).2.2.1 ∈ wB := wB_at 200 (by decide +kernel) (by decide +kernel)
theorem flX4_29 : Cond.fieldLink RX4 29 RX4 (TX4 5).2.1 (TX4 5).2.2.1 ∈ wB := wB_at 201 (by decide +kernel) (by decide +kernel)
theorem flX4_32 : Cond.fieldLink RX4 32 RX4 (TX4 6).2.1 (TX4 6).2.2.1 ∈ wB := wB_at 202 (by decide +kernel) (by decide +kernel)
theorem flX4_35 : Cond.fieldLink RX4 35 RX4 (TX4 7).2.1 (TX4 7).2.2.1 ∈ wB := wB_at 203 (by decide +kernel) (by decide +kernel)
theorem flX5_9 : Cond.fieldLink RX5 9 RX5 (TX5 1).2.1 (TX5 1).2.2.1 ∈ wB := wB_at 323 (by decide +kernel) (by decide +kernel)
theorem flX5_15 : Cond.fieldLink RX5 15 RX5 (TX5 2).2.1 (TX5 2).2.2.1 ∈ wB := wB_at 324 (by decide +kernel) (by decide +kernel)
theorem flX5_19 : Cond.fieldLink RX5 19 RX5 (TX5 3).2.1 (TX5 3).2.2.1 ∈ wB := wB_at 325 (by decide +kernel) (by decide +kernel)
theorem flX5_22 : Cond.fieldLink RX5 22 RX5 (TX5 4).2.1 (TX5 4).2.2.1 ∈ wB := wB_at 326 (by decide +kernel) (by decide +kernel)
theorem flX5_25 : Cond.fieldLink RX5 25 RX5 (TX5 5).2.1 (TX5 5).2.2.1 ∈ wB := wB_at 327 (by decide +kernel) (by decide +kernel)
theorem flX5_28 : Cond.fieldLink RX5 28 RX5 (TX5 6).2.1 (TX5 6).2.2.1 ∈ wB := wB_at 328 (by decide +kernel) (by decide +kernel)
theorem flX5_31 : Cond.fieldLink RX5 31 RX5 (TX5 7).2.1 (TX5 7).2.2.1 ∈ wB := wB_at 329 (by decide +kernel) (by decide +kernel)
theorem flX5_34 : Cond.fieldLink RX5 34 RX5 (TX5 8).2.1 (TX5 8).2.2.1 ∈ wB := wB_at 330 (by decide +kernel) (by decide +kernel)
theorem flX5_37 : Cond.fieldLink RX5 37 RX5 (TX5 9).2.1 (TX5 9).2.2.1 ∈ wB := wB_at 331 (by decide +kernel) (by decide +kernel)
theorem flX5_40 : Cond.fieldLink RX5 40 RX5 (TX5 10).2.1 (TX5 10).2.2.1 ∈ wB := wB_at 332 (by decide +kernel) (by decide +kernel)
theorem flX5_43 : Cond.fieldLink RX5 43 RX5 (TX5 11).2.1 (TX5 11).2.2.1 ∈ wB := wB_at 333 (by decide +kernel) (by decide +kernel)
theorem flX5_46 : Cond.fieldLink RX5 46 RX5 (TX5 0).2.1 (TX5 0).2.2.1 ∈ wB := wB_at 322 (by decide +kernel) (by decide +kernel)
theorem flX6_9 : Cond.fieldLink RX6 9 RX6 (TX6 3).2.1 (TX6 3).2.2.1 ∈ wB := wB_at 224 (by decide +kernel) (by decide +kernel)
theorem flX6_15 : Cond.fieldLink RX6 15 RX6 (TX6 4).2.1 (TX6 4).2.2.1 ∈ wB := wB_at 225 (by decide +kernel) (by decide +kernel)
theorem flX6_18 : Cond.fieldLink RX6 18 RX6 (TX6 5).2.1 (TX6 5).2.2.1 ∈ wB := wB_at 226 (by decide +kernel) (by decide +kernel)
theorem flX6_21 : Cond.fieldLink RX6 21 RX6 (TX6 6).2.1 (TX6 6).2.2.1 ∈ wB := wB_at 227 (by decide +kernel) (by decide +kernel)
theorem flX6_24 : Cond.fieldLink RX6 24 RX6 (TX6 7).2.1 (TX6 7).2.2.1 ∈ wB := wB_at 228 (by decide +kernel) (by decide +kernel)
theorem flX6_27 : Cond.fieldLink RX6 27 RX6 (TX6 8).2.1 (TX6 8).2.2.1 ∈ wB := wB_at 229 (by decide +kernel) (by decide +kernel)
theorem flX6_30 : Cond.fieldLink RX6 30 RX6 (TX6 9).2.1 (TX6 9).2.2.1 ∈ wB := wB_at 230 (by decide +kernel) (by decide +kernel)
theorem flX6_33 : Cond.fieldLink RX6 33 RX6 (TX6 10).2.1 (TX6 10).2.2.1 ∈ wB := wB_at 231 (by decide +kernel) (by decide +kernel)
theorem flX6_37 : Cond.fieldLink RX6 37 RX6 (TX6 11).2.1 (TX6 11).2.2.1 ∈ wB := wB_at 232 (by decide +kernel) (by decide +kernel)
theorem flX6_40 : Cond.fieldLink RX6 40 RX6 (TX6 12).2.1 (TX6 12).2.2.1 ∈ wB := wB_at 233 (by decide +kernel) (by decide +kernel)
theorem flX6_43 : Cond.fieldLink RX6 43 RX6 (TX6 13).2.1 (TX6 13).2.2.1 ∈ wB := wB_at 234 (by decide +kernel) (by decide +kernel)
theorem flX6_46 : Cond.fieldLink RX6 46 RX6 (TX6 14).2.1 (TX6 14).2.2.1 ∈ wB := wB_at 235 (by decide +kernel) (by decide +kernel)
theorem flX6_49 : Cond.fieldLink RX6 49 RX6 (TX6 15).2.1 (TX6 15).2.2.1 ∈ wB := wB_at 236 (by decide +kernel) (by decide +kernel)
theorem flX6_52 : Cond.fieldLink RX6 52 RX6 (TX6 16).2.1 (TX6 16).2.2.1 ∈ wB := wB_at 237 (by decide +kernel) (by decide +kernel)
theorem flX6_55 : Cond.fieldLink RX6 55 RX6 (TX6 0).2.1 (TX6 0).2.2.1 ∈ wB := wB_at 221 (by decide +kernel) (by decide +kernel)
theorem flX6_64 : Cond.fieldLink RX6 64 RX6 (TX6 1).2.1 (TX6 1).2.2.1 ∈ wB := wB_at 222 (by decide +kernel) (by decide +kernel)
theorem flX6_68 : Cond.fieldLink RX6 68 RX6 (TX6 2).2.1 (TX6 2).2.2.1 ∈ wB := wB_at 223 (by decide +kernel) (by decide +kernel)
theorem flX7_11 : Cond.fieldLink RX7 11 RX7 (TX7 0).2.1 (TX7 0).2.2.1 ∈ wB := wB_at 162 (by decide +kernel) (by decide +kernel)
theorem flX7_15 : Cond.fieldLink RX7 15 RX7 (TX7 1).2.1 (TX7 1).2.2.1 ∈ wB := wB_at 163 (by decide +kernel) (by decide +kernel)
theorem flX7_18 : Cond.fieldLink RX7 18 RX7 (TX7 2).2.1 (TX7 2).2.2.1 ∈ wB := wB_at 164 (by decide +kernel) (by decide +kernel)
theorem flX7_22 : Cond.fieldLink RX7 22 RX7 (TX7 3).2.1 (TX7 3).2.2.1 ∈ wB := wB_at 165 (by decide +kernel) (by decide +kernel)
theorem flX7_25 : Cond.fieldLink RX7 25 RX7 (TX7 4).2.1 (TX7 4).2.2.1 ∈ wB := wB_at 166 (by decide +kernel) (by decide +kernel)
theorem flX7_28 : Cond.fieldLink RX7 28 RX7 (TX7 5).2.1 (TX7 5).2.2.1 ∈ wB := wB_at 167 (by decide +kernel) (by decide +kernel)
theorem flX7_31 : Cond.fieldLink RX7 31 RX7 (TX7 6).2.1 (TX7 6).2.2.1 ∈ wB := wB_at 168 (by decide +kernel) (by decide +kernel)
theorem flX8_9 : Cond.fieldLink RX8 9 RX8 (TX8 0).2.1 (TX8 0).2.2.1 ∈ wB := wB_at 107 (by decide +kernel) (by decide +kernel)
theorem flX8_15 : Cond.fieldLink RX8 15 RX8 (TX8 1).2.1 (TX8 1).2.2.1 ∈ wB := wB_at 108 (by decide +kernel) (by decide +kernel)
theorem flX8_18 : Cond.fieldLink RX8 18 RX8 (TX8 2).2.1 (TX8 2).2.2.1 ∈ wB := wB_at 109 (by decide +kernel) (by decide +kernel)
theorem flX8_22 : Cond.fieldLink RX8 22 RX8 (TX8 3).2.1 (TX8 3).2.2.1 ∈ wB := wB_at 110 (by decide +kernel) (by decide +kernel)
theorem flX8_25 : Cond.fieldLink RX8 25 RX8 (TX8 4).2.1 (TX8 4).2.2.1 ∈ wB := wB_at 111 (by decide +kernel) (by decide +kernel)
theorem flX8_28 : Cond.fieldLink RX8 28 RX8 (TX8 5).2.1 (TX8 5).2.2.1 ∈ wB := wB_at 112 (by decide +kernel) (by decide +kernel)
theorem flX8_31 : Cond.fieldLink RX8 31 RX8 (TX8 6).2.1 (TX8 6).2.2.1 ∈ wB := wB_at 113 (by decide +kernel) (by decide +kernel)
theorem flX8_34 : Cond.fieldLink RX8 34 RX8 (TX8 7).2.1 (TX8 7).2.2.1 ∈ wB := wB_at 114 (by decide +kernel) (by decide +kernel)
theorem flX8_38 : Cond.fieldLink RX8 38 RX8 (TX8 8).2.1 (TX8 8).2.2.1 ∈ wB := wB_at 115 (by decide +kernel) (by decide +kernel)
theorem flX9_12 : Cond.fieldLink RX9 12 RX9 (TX9 0).2.1 (TX9 0).2.2.1 ∈ wB := wB_at 378 (by decide +kernel) (by decide +kernel)
theorem flX9_16 : Cond.fieldLink RX9 16 RX9 (TX9 1).2.1 (TX9 1).2.2.1 ∈ wB := wB_at 379 (by decide +kernel) (by decide +kernel)
theorem flX9_19 : Cond.fieldLink RX9 19 RX9 (TX9 2).2.1 (TX9 2).2.2.1 ∈ wB := wB_at 380 (by decide +kernel) (by decide +kernel)
theorem flX9_25 : Cond.fieldLink RX9 25 RX9 (TX9 3).2.1 (TX9 3).2.2.1 ∈ wB := wB_at 381 (by decide +kernel) (by decide +kernel)
theorem flX9_32 : Cond.fieldLink RX9 32 RX9 (TX9 4).2.1 (TX9 4).2.2.1 ∈ wB := wB_at 382 (by decide +kernel) (by decide +kernel)
theorem flX9_41 : Cond.fieldLink RX9 41 RX9 (TX9 5).2.1 (TX9 5).2.2.1 ∈ wB := wB_at 383 (by decide +kernel) (by decide +kernel)
theorem flX9_45 : Cond.fieldLink RX9 45 RX9 (TX9 6).2.1 (TX9 6).2.2.1 ∈ wB := wB_at 384 (by decide +kernel) (by decide +kernel)
theorem flX9_53 : Cond.fieldLink RX9 53 RX9 (TX9 7).2.1 (TX9 7).2.2.1 ∈ wB := wB_at 385 (by decide +kernel) (by decide +kernel)
theorem flX9_60 : Cond.fieldLink RX9 60 RX9 (TX9 8).2.1 (TX9 8).2.2.1 ∈ wB := wB_at 386 (by decide +kernel) (by decide +kernel)
theorem flX9_67 : Cond.fieldLink RX9 67 RX9 (TX9 9).2.1 (TX9 9).2.2.1 ∈ wB := wB_at 387 (by decide +kernel) (by decide +kernel)
theorem flX9_74 : Cond.fieldLink RX9 74 RX9 (TX9 10).2.1 (TX9 10).2.2.1 ∈ wB := wB_at 388 (by decide +kernel) (by decide +kernel)
theorem flX9_78 : Cond.fieldLink RX9 78 RX9 (TX9 11).2.1 (TX9 11).2.2.1 ∈ wB := wB_at 389 (by decide +kernel) (by decide +kernel)
theorem flX9_82 : Cond.fieldLink RX9 82 RX9 (TX9 12).2.1 (TX9 12).2.2.1 ∈ wB := wB_at 390 (by decide +kernel) (by decide +kernel)
abbrev wsX0_init : List Cond := Cond.code yX0_init cX0_init 3 none :: wB
theorem mvX0_init : Cond.instanceMethod yX0_init ∈ wB ∧ Cond.code yX0_init cX0_init 3 none ∈ wB := ⟨wB_at 276 (by decide +kernel) (by decide +kernel), wB_at 277 (by decide +kernel) (by decide +kernel)⟩
theorem hdX0_init : yX0_init.cls ≠ "java/lang/invoke/MethodHandle" ∧ yX0_init.cls ≠ "java/lang/invoke/VarHandle" ∧ (parseMethodDescriptor yX0_init.desc).map (fun d => d.parameters.length) = some 2 := by decide +kernel
abbrev wsX0_size : List Cond := Cond.code yX0_size cX0_size 1 (some .int) :: wB
theorem mvX0_size : Cond.instanceMethod yX0_size ∈ wB ∧ Cond.selects RX0 yX0_size yX0_size ∈ wB ∧ Cond.code yX0_size cX0_size 1 (some .int) ∈ wB := ⟨wB_at 968 (by decide +kernel) (by decide +kernel), wB_at 969 (by decide +kernel) (by decide +kernel), wB_at 970 (by decide +kernel) (by decide +kernel)⟩
theorem hdX0_size : yX0_size.cls = RX0 ∧ yX0_size.cls ≠ "java/lang/invoke/MethodHandle" ∧ yX0_size.cls ≠ "java/lang/invoke/VarHandle" ∧ (parseMethodDescriptor yX0_size.desc).map (fun d => d.parameters.length) = some 0 := by decide +kernel
abbrev wsX0_pieceAt : List Cond := Cond.code yX0_pieceAt cX0_pieceAt 2 (some .int) :: wB
theorem mvX0_pieceAt : Cond.instanceMethod yX0_pieceAt ∈ wB ∧ Cond.selects RX0 yX0_pieceAt yX0_pieceAt ∈ wB ∧ Cond.code yX0_pieceAt cX0_pieceAt 2 (some .int) ∈ wB := ⟨wB_at 976 (by decide +kernel) (by decide +kernel), wB_at 977 (by decide +kernel) (by decide +kernel), wB_at 978 (by decide +kernel) (by decide +kernel)⟩
theorem hdX0_pieceAt : yX0_pieceAt.cls = RX0 ∧ yX0_pieceAt.cls ≠ "java/lang/invoke/MethodHandle" ∧ yX0_pieceAt.cls ≠ "java/lang/invoke/VarHandle" ∧ (parseMethodDescriptor yX0_pieceAt.desc).map (fun d => d.parameters.length) = some 1 := by decide +kernel
abbrev wsX0_arrange : List Cond := Cond.code yX0_arrange cX0_arrange 3 none :: wB
theorem mvX0_arrange : Cond.instanceMethod yX0_arrange ∈ wB ∧ Cond.selects RX0 yX0_arrange yX0_arrange ∈ wB ∧ Cond.code yX0_arrange cX0_arrange 3 none ∈ wB := ⟨wB_at 928 (by decide +kernel) (by decide +kernel), wB_at 929 (by decide +kernel) (by decide +kernel), wB_at 930 (by decide +kernel) (by decide +kernel)⟩
theorem hdX0_arrange : yX0_arrange.cls = RX0 ∧ yX0_arrange.cls ≠ "java/lang/invoke/MethodHandle" ∧ yX0_arrange.cls ≠ "java/lang/invoke/VarHandle" ∧ (parseMethodDescriptor yX0_arrange.desc).map (fun d => d.parameters.length) = some 2 := by decide +kernel
abbrev wsX0_arrangeSubtree : List Cond := Cond.code yX0_arrangeSubtree cX0_arrangeSubtree 3 none :: wB
theorem mvX0_arrangeSubtree : Cond.instanceMethod yX0_arrangeSubtree ∈ wB ∧ Cond.selects RX0 yX0_arrangeSubtree yX0_arrangeSubtree ∈ wB ∧ Cond.code yX0_arrangeSubtree cX0_arrangeSubtree 3 none ∈ wB := ⟨wB_at 937 (by decide +kernel) (by decide +kernel), wB_at 18 (by decide +kernel) (by decide +kernel), wB_at 938 (by decide +kernel) (by decide +kernel)⟩
theorem hdX0_arrangeSubtree : yX0_arrangeSubtree.cls = RX0 ∧ yX0_arrangeSubtree.cls ≠ "java/lang/invoke/MethodHandle" ∧ yX0_arrangeSubtree.cls ≠ "java/lang/invoke/VarHandle" ∧ (parseMethodDescriptor yX0_arrangeSubtree.desc).map (fun d => d.parameters.length) = some 2 := by decide +kernel
abbrev wsX0_arrangeNode : List Cond := Cond.code yX0_arrangeNode cX0_arrangeNode 5 none :: wB
theorem mvX0_arrangeNode : Cond.instanceMethod yX0_arrangeNode ∈ wB ∧ Cond.selects RX0 yX0_arrangeNode yX0_arrangeNode ∈ wB ∧ Cond.code yX0_arrangeNode cX0_arrangeNode 5 none ∈ wB := ⟨wB_at 945 (by decide +kernel) (by decide +kernel), wB_at 19 (by decide +kernel) (by decide +kernel), wB_at 946 (by decide +kernel) (by decide +kernel)⟩
theorem hdX0_arrangeNode : yX0_arrangeNode.cls = RX0 ∧ yX0_arrangeNode.cls ≠ "java/lang/invoke/MethodHandle" ∧ yX0_arrangeNode.cls ≠ "java/lang/invoke/VarHandle" ∧ (parseMethodDescriptor yX0_arrangeNode.desc).map (fun d => d.parameters.length) = some 4 := by decide +kernel
abbrev wsX0_addPiecesOf : List Cond := Cond.code yX0_addPiecesOf cX0_addPiecesOf 5 none :: wB
theorem mvX0_addPiecesOf : Cond.instanceMethod yX0_addPiecesOf ∈ wB ∧ Cond.selects RX0 yX0_addPiecesOf yX0_addPiecesOf ∈ wB ∧ Cond.code yX0_addPiecesOf cX0_addPiecesOf 5 none ∈ wB := ⟨wB_at 949 (by decide +kernel) (by decide +kernel), wB_at 20 (by decide +kernel) (by decide +kernel), wB_at 950 (by decide +kernel) (by decide +kernel)⟩
theorem hdX0_addPiecesOf : yX0_addPiecesOf.cls = RX0 ∧ yX0_addPiecesOf.cls ≠ "java/lang/invoke/MethodHandle" ∧ yX0_addPiecesOf.cls ≠ "java/lang/invoke/VarHandle" ∧ (parseMethodDescriptor yX0_addPiecesOf.desc).map (fun d => d.parameters.length) = some 1 := by decide +kernel
abbrev wsX1_init : List Cond := Cond.code yX1_init cX1_init 2 none :: wB
theorem mvX1_init : Cond.instanceMethod yX1_init ∈ wB ∧ Cond.code yX1_init cX1_init 2 none ∈ wB := ⟨wB_at 301 (by decide +kernel) (by decide +kernel), wB_at 302 (by decide +kernel) (by decide +kernel)⟩
theorem hdX1_init : yX1_init.cls ≠ "java/lang/invoke/MethodHandle" ∧ yX1_init.cls ≠ "java/lang/invoke/VarHandle" ∧ (parseMethodDescriptor yX1_init.desc).map (fun d => d.parameters.length) = some 1 := by decide +kernel
abbrev wsX1_fewestPieces : List Cond := Cond.code yX1_fewestPieces cX1_fewestPieces 1 (some .int) :: wB
theorem mvX1_fewestPieces : Cond.instanceMethod yX1_fewestPieces ∈ wB ∧ Cond.selects RX1 yX1_fewestPieces yX1_fewestPieces ∈ wB ∧ Cond.code yX1_fewestPieces cX1_fewestPieces 1 (some .int) ∈ wB := ⟨wB_at 1228 (by decide +kernel) (by decide +kernel), wB_at 1229 (by decide +kernel) (by decide +kernel), wB_at 1230 (by decide +kernel) (by decide +kernel)⟩
theorem hdX1_fewestPieces : yX1_fewestPieces.cls = RX1 ∧ yX1_fewestPieces.cls ≠ "java/lang/invoke/MethodHandle" ∧ yX1_fewestPieces.cls ≠ "java/lang/invoke/VarHandle" ∧ (parseMethodDescriptor yX1_fewestPieces.desc).map (fun d => d.parameters.length) = some 0 := by decide +kernel
abbrev wsX1_rootWall : List Cond := Cond.code yX1_rootWall cX1_rootWall 1 (some .int) :: wB
theorem mvX1_rootWall : Cond.instanceMethod yX1_rootWall ∈ wB ∧ Cond.selects RX1 yX1_rootWall yX1_rootWall ∈ wB ∧ Cond.code yX1_rootWall cX1_rootWall 1 (some .int) ∈ wB := ⟨wB_at 1236 (by decide +kernel) (by decide +kernel), wB_at 1237 (by decide +kernel) (by decide +kernel), wB_at 1238 (by decide +kernel) (by decide +kernel)⟩
theorem hdX1_rootWall : yX1_rootWall.cls = RX1 ∧ yX1_rootWall.cls ≠ "java/lang/invoke/MethodHandle" ∧ yX1_rootWall.cls ≠ "java/lang/invoke/VarHandle" ∧ (parseMethodDescriptor yX1_rootWall.desc).map (fun d => d.parameters.length) = some 0 := by decide +kernel
abbrev wsX1_search : List Cond := Cond.code yX1_search cX1_search 5 none :: wB
theorem mvX1_search : Cond.instanceMethod yX1_search ∈ wB ∧ Cond.selects RX1 yX1_search yX1_search ∈ wB ∧ Cond.code yX1_search cX1_search 5 none ∈ wB := ⟨wB_at 1210 (by decide +kernel) (by decide +kernel), wB_at 1211 (by decide +kernel) (by decide +kernel), wB_at 1212 (by decide +kernel) (by decide +kernel)⟩
theorem hdX1_search : yX1_search.cls = RX1 ∧ yX1_search.cls ≠ "java/lang/invoke/MethodHandle" ∧ yX1_search.cls ≠ "java/lang/invoke/VarHandle" ∧ (parseMethodDescriptor yX1_search.desc).map (fun d => d.parameters.length) = some 0 := by decide +kernel
abbrev wsX1_fewestOf : List Cond := Cond.code yX1_fewestOf cX1_fewestOf 7 (some .int) :: wB
theorem mvX1_fewestOf : Cond.instanceMethod yX1_fewestOf ∈ wB ∧ Cond.selects RX1 yX1_fewestOf yX1_fewestOf ∈ wB ∧ Cond.code yX1_fewestOf cX1_fewestOf 7 (some .int) ∈ wB := ⟨wB_at 1224 (by decide +kernel) (by decide +kernel), wB_at 32 (by decide +kernel) (by decide +kernel), wB_at 1225 (by decide +kernel) (by decide +kernel)⟩
theorem hdX1_fewestOf : yX1_fewestOf.cls = RX1 ∧ yX1_fewestOf.cls ≠ "java/lang/invoke/MethodHandle" ∧ yX1_fewestOf.cls ≠ "java/lang/invoke/VarHandle" ∧ (parseMethodDescriptor yX1_fewestOf.desc).map (fun d => d.parameters.length) = some 3 := by decide +kernel
abbrev wsX1_fewestWith : List Cond := Cond.code yX1_fewestWith cX1_fewestWith 10 (some .int) :: wB
theorem mvX1_fewestWith : Cond.instanceMethod yX1_fewestWith ∈ wB ∧ Cond.selects RX1 yX1_fewestWith yX1_fewestWith ∈ wB ∧ Cond.code yX1_fewestWith cX1_fewestWith 10 (some .int) ∈ wB := ⟨wB_at 1219 (by decide +kernel) (by decide +kernel), wB_at 31 (by decide +kernel) (by decide +kernel), wB_at 1220 (by decide +kernel) (by decide +kernel)⟩
theorem hdX1_fewestWith : yX1_fewestWith.cls = RX1 ∧ yX1_fewestWith.cls ≠ "java/lang/invoke/MethodHandle" ∧ yX1_fewestWith.cls ≠ "java/lang/invoke/VarHandle" ∧ (parseMethodDescriptor yX1_fewestWith.desc).map (fun d => d.parameters.length) = some 4 := by decide +kernel
abbrev wsX2_init : List Cond := Cond.code yX2_init cX2_init 2 none :: wB
theorem mvX2_init : Cond.instanceMethod yX2_init ∈ wB ∧ Cond.code yX2_init cX2_init 2 none ∈ wB := ⟨wB_at 140 (by decide +kernel) (by decide +kernel), wB_at 141 (by decide +kernel) (by decide +kernel)⟩
theorem hdX2_init : yX2_init.cls ≠ "java/lang/invoke/MethodHandle" ∧ yX2_init.cls ≠ "java/lang/invoke/VarHandle" ∧ (parseMethodDescriptor yX2_init.desc).map (fun d => d.parameters.length) = some 0 := by decide +kernel
abbrev wsX2_isEmpty : List Cond := Cond.code yX2_isEmpty cX2_isEmpty 1 (some .boolean) :: wB
theorem mvX2_isEmpty : Cond.instanceMethod yX2_isEmpty ∈ wB ∧ Cond.selects RX2 yX2_isEmpty yX2_isEmpty ∈ wB ∧ Cond.code yX2_isEmpty cX2_isEmpty 1 (some .boolean) ∈ wB := ⟨wB_at 540 (by decide +kernel) (by decide +kernel), wB_at 541 (by decide +kernel) (by decide +kernel), wB_at 542 (by decide +kernel) (by decide +kernel)⟩
theorem hdX2_isEmpty : yX2_isEmpty.cls = RX2 ∧ yX2_isEmpty.cls ≠ "java/lang/invoke/MethodHandle" ∧ yX2_isEmpty.cls ≠ "java/lang/invoke/VarHandle" ∧ (parseMethodDescriptor yX2_isEmpty.desc).map (fun d => d.parameters.length) = some 0 := by decide +kernel
abbrev wsX2_size : List Cond := Cond.code yX2_size cX2_size 1 (some .int) :: wB
theorem mvX2_size : Cond.instanceMethod yX2_size ∈ wB ∧ Cond.selects RX2 yX2_size yX2_size ∈ wB ∧ Cond.code yX2_size cX2_size 1 (some .int) ∈ wB := ⟨wB_at 548 (by decide +kernel) (by decide +kernel), wB_at 549 (by decide +kernel) (by decide +kernel), wB_at 550 (by decide +kernel) (by decide +kernel)⟩
theorem hdX2_size : yX2_size.cls = RX2 ∧ yX2_size.cls ≠ "java/lang/invoke/MethodHandle" ∧ yX2_size.cls ≠ "java/lang/invoke/VarHandle" ∧ (parseMethodDescriptor yX2_size.desc).map (fun d => d.parameters.length) = some 0 := by decide +kernel
abbrev wsX2_keep : List Cond := Cond.code yX2_keep cX2_keep 3 none :: wB
theorem mvX2_keep : Cond.instanceMethod yX2_keep ∈ wB ∧ Cond.selects RX2 yX2_keep yX2_keep ∈ wB ∧ Cond.code yX2_keep cX2_keep 3 none ∈ wB := ⟨wB_at 437 (by decide +kernel) (by decide +kernel), wB_at 438 (by decide +kernel) (by decide +kernel), wB_at 439 (by decide +kernel) (by decide +kernel)⟩
theorem hdX2_keep : yX2_keep.cls = RX2 ∧ yX2_keep.cls ≠ "java/lang/invoke/MethodHandle" ∧ yX2_keep.cls ≠ "java/lang/invoke/VarHandle" ∧ (parseMethodDescriptor yX2_keep.desc).map (fun d => d.parameters.length) = some 1 := by decide +kernel
abbrev wsX2_restore : List Cond := Cond.code yX2_restore cX2_restore 4 none :: wB
theorem mvX2_restore : Cond.instanceMethod yX2_restore ∈ wB ∧ Cond.selects RX2 yX2_restore yX2_restore ∈ wB ∧ Cond.code yX2_restore cX2_restore 4 none ∈ wB := ⟨wB_at 544 (by decide +kernel) (by decide +kernel), wB_at 545 (by decide +kernel) (by decide +kernel), wB_at 546 (by decide +kernel) (by decide +kernel)⟩
theorem hdX2_restore : yX2_restore.cls = RX2 ∧ yX2_restore.cls ≠ "java/lang/invoke/MethodHandle" ∧ yX2_restore.cls ≠ "java/lang/invoke/VarHandle" ∧ (parseMethodDescriptor yX2_restore.desc).map (fun d => d.parameters.length) = some 1 := by decide +kernel
abbrev wsX2_placeAt : List Cond := Cond.code yX2_placeAt cX2_placeAt 2 (some (.object "WallPartition$Walls")) :: wB
theorem mvX2_placeAt : Cond.instanceMethod yX2_placeAt ∈ wB ∧ Cond.selects RX2 yX2_placeAt yX2_placeAt ∈ wB ∧ Cond.code yX2_placeAt cX2_placeAt 2 (some (.object "WallPartition$Walls")) ∈ wB := ⟨wB_at 442 (by decide +kernel) (by decide +kernel), wB_at 1 (by decide +kernel) (by decide +kernel), wB_at 443 (by decide +kernel) (by decide +kernel)⟩
theorem hdX2_placeAt : yX2_placeAt.cls = RX2 ∧ yX2_placeAt.cls ≠ "java/lang/invoke/MethodHandle" ∧ yX2_placeAt.cls ≠ "java/lang/invoke/VarHandle" ∧ (parseMethodDescriptor yX2_placeAt.desc).map (fun d => d.parameters.length) = some 1 := by decide +kernel
abbrev wsX3_init : List Cond := Cond.code yX3_init cX3_init 2 none :: wB
theorem mvX3_init : Cond.instanceMethod yX3_init ∈ wB ∧ Cond.code yX3_init cX3_init 2 none ∈ wB := ⟨wB_at 362 (by decide +kernel) (by decide +kernel), wB_at 363 (by decide +kernel) (by decide +kernel)⟩
theorem hdX3_init : yX3_init.cls ≠ "java/lang/invoke/MethodHandle" ∧ yX3_init.cls ≠ "java/lang/invoke/VarHandle" ∧ (parseMethodDescriptor yX3_init.desc).map (fun d => d.parameters.length) = some 1 := by decide +kernel
abbrev wsX3_wall : List Cond := Cond.code yX3_wall cX3_wall 1 (some .int) :: wB
theorem mvX3_wall : Cond.instanceMethod yX3_wall ∈ wB ∧ Cond.selects RX3 yX3_wall yX3_wall ∈ wB ∧ Cond.code yX3_wall cX3_wall 1 (some .int) ∈ wB := ⟨wB_at 1172 (by decide +kernel) (by decide +kernel), wB_at 1173 (by decide +kernel) (by decide +kernel), wB_at 1174 (by decide +kernel) (by decide +kernel)⟩
theorem hdX3_wall : yX3_wall.cls = RX3 ∧ yX3_wall.cls ≠ "java/lang/invoke/MethodHandle" ∧ yX3_wall.cls ≠ "java/lang/invoke/VarHandle" ∧ (parseMethodDescriptor yX3_wall.desc).map (fun d => d.parameters.length) = some 0 := by decide +kernel
abbrev wsX3_top : List Cond := Cond.code yX3_top cX3_top 1 (some .long) :: wB
theorem mvX3_top : Cond.instanceMethod yX3_top ∈ wB ∧ Cond.selects RX3 yX3_top yX3_top ∈ wB ∧ Cond.code yX3_top cX3_top 1 (some .long) ∈ wB := ⟨wB_at 1182 (by decide +kernel) (by decide +kernel), wB_at 1183 (by decide +kernel) (by decide +kernel), wB_at 1184 (by decide +kernel) (by decide +kernel)⟩
theorem hdX3_top : yX3_top.cls = RX3 ∧ yX3_top.cls ≠ "java/lang/invoke/MethodHandle" ∧ yX3_top.cls ≠ "java/lang/invoke/VarHandle" ∧ (parseMethodDescriptor yX3_top.desc).map (fun d => d.parameters.length) = some 0 := by decide +kernel
abbrev wsX3_bottom : List Cond := Cond.code yX3_bottom cX3_bottom 1 (some .long) :: wB
theorem mvX3_bottom : Cond.instanceMethod yX3_bottom ∈ wB ∧ Cond.selects RX3 yX3_bottom yX3_bottom ∈ wB ∧ Cond.code yX3_bottom cX3_bottom 1 (some .long) ∈ wB := ⟨wB_at 1186 (by decide +kernel) (by decide +kernel), wB_at 1187 (by decide +kernel) (by decide +kernel), wB_at 1188 (by decide +kernel) (by decide +kernel)⟩
theorem hdX3_bottom : yX3_bottom.cls = RX3 ∧ yX3_bottom.cls ≠ "java/lang/invoke/MethodHandle" ∧ yX3_bottom.cls ≠ "java/lang/invoke/VarHandle" ∧ (parseMethodDescriptor yX3_bottom.desc).map (fun d => d.parameters.length) = some 0 := by decide +kernel
abbrev wsX3_find : List Cond := Cond.code yX3_find cX3_find 4 none :: wB
theorem mvX3_find : Cond.instanceMethod yX3_find ∈ wB ∧ Cond.selects RX3 yX3_find yX3_find ∈ wB ∧ Cond.code yX3_find cX3_find 4 none ∈ wB := ⟨wB_at 1144 (by decide +kernel) (by decide +kernel), wB_at 1145 (by decide +kernel) (by decide +kernel), wB_at 1146 (by decide +kernel) (by decide +kernel)⟩
theorem hdX3_find : yX3_find.cls = RX3 ∧ yX3_find.cls ≠ "java/lang/invoke/MethodHandle" ∧ yX3_find.cls ≠ "java/lang/invoke/VarHandle" ∧ (parseMethodDescriptor yX3_find.desc).map (fun d => d.parameters.length) = some 2 := by decide +kernel
abbrev wsX3_compare : List Cond := Cond.code yX3_compare cX3_compare 10 none :: wB
theorem mvX3_compare : Cond.instanceMethod yX3_compare ∈ wB ∧ Cond.selects RX3 yX3_compare yX3_compare ∈ wB ∧ Cond.code yX3_compare cX3_compare 10 none ∈ wB := ⟨wB_at 1150 (by decide +kernel) (by decide +kernel), wB_at 28 (by decide +kernel) (by decide +kernel), wB_at 1151 (by decide +kernel) (by decide +kernel)⟩
theorem hdX3_compare : yX3_compare.cls = RX3 ∧ yX3_compare.cls ≠ "java/lang/invoke/MethodHandle" ∧ yX3_compare.cls ≠ "java/lang/invoke/VarHandle" ∧ (parseMethodDescriptor yX3_compare.desc).map (fun d => d.parameters.length) = some 3 := by decide +kernel
abbrev wsX3_along : List Cond := Cond.code yX3_along cX3_along 4 (some .long) :: wB
theorem mvX3_along : Cond.instanceMethod yX3_along ∈ wB ∧ Cond.selects RX3 yX3_along yX3_along ∈ wB ∧ Cond.code yX3_along cX3_along 4 (some .long) ∈ wB := ⟨wB_at 1155 (by decide +kernel) (by decide +kernel), wB_at 29 (by decide +kernel) (by decide +kernel), wB_at 1156 (by decide +kernel) (by decide +kernel)⟩
theorem hdX3_along : yX3_along.cls = RX3 ∧ yX3_along.cls ≠ "java/lang/invoke/MethodHandle" ∧ yX3_along.cls ≠ "java/lang/invoke/VarHandle" ∧ (parseMethodDescriptor yX3_along.desc).map (fun d => d.parameters.length) = some 3 := by decide +kernel
abbrev wsX3_squaredWay : List Cond := Cond.code yX3_squaredWay cX3_squaredWay 2 (some .long) :: wB
theorem mvX3_squaredWay : Cond.static yX3_squaredWay ∈ wB ∧ Cond.code yX3_squaredWay cX3_squaredWay 2 (some .long) ∈ wB := ⟨wB_at 1162 (by decide +kernel) (by decide +kernel), wB_at 1163 (by decide +kernel) (by decide +kernel)⟩
theorem hdX3_squaredWay : yX3_squaredWay.cls ≠ "java/lang/invoke/MethodHandle" ∧ yX3_squaredWay.cls ≠ "java/lang/invoke/VarHandle" ∧ (parseMethodDescriptor yX3_squaredWay.desc).map (fun d => d.parameters.length) = some 2 := by decide +kernel
abbrev wsX3_offer : List Cond := Cond.code yX3_offer cX3_offer 6 none :: wB
theorem mvX3_offer : Cond.instanceMethod yX3_offer ∈ wB ∧ Cond.selects RX3 yX3_offer yX3_offer ∈ wB ∧ Cond.code yX3_offer cX3_offer 6 none ∈ wB := ⟨wB_at 1166 (by decide +kernel) (by decide +kernel), wB_at 30 (by decide +kernel) (by decide +kernel), wB_at 1167 (by decide +kernel) (by decide +kernel)⟩
theorem hdX3_offer : yX3_offer.cls = RX3 ∧ yX3_offer.cls ≠ "java/lang/invoke/MethodHandle" ∧ yX3_offer.cls ≠ "java/lang/invoke/VarHandle" ∧ (parseMethodDescriptor yX3_offer.desc).map (fun d => d.parameters.length) = some 3 := by decide +kernel
abbrev wsX4_init : List Cond := Cond.code yX4_init cX4_init 4 none :: wB
theorem mvX4_init : Cond.instanceMethod yX4_init ∈ wB ∧ Cond.code yX4_init cX4_init 4 none ∈ wB := ⟨wB_at 193 (by decide +kernel) (by decide +kernel), wB_at 194 (by decide +kernel) (by decide +kernel)⟩
theorem hdX4_init : yX4_init.cls ≠ "java/lang/invoke/MethodHandle" ∧ yX4_init.cls ≠ "java/lang/invoke/VarHandle" ∧ (parseMethodDescriptor yX4_init.desc).map (fun d => d.parameters.length) = some 2 := by decide +kernel
abbrev wsX4_size : List Cond := Cond.code yX4_size cX4_size 1 (some .int) :: wB
theorem mvX4_size : Cond.instanceMethod yX4_size ∈ wB ∧ Cond.selects RX4 yX4_size yX4_size ∈ wB ∧ Cond.code yX4_size cX4_size 1 (some .int) ∈ wB := ⟨wB_at 711 (by decide +kernel) (by decide +kernel), wB_at 712 (by decide +kernel) (by decide +kernel), wB_at 713 (by decide +kernel) (by decide +kernel)⟩
theorem hdX4_size : yX4_size.cls = RX4 ∧ yX4_size.cls ≠ "java/lang/invoke/MethodHandle" ∧ yX4_size.cls ≠ "java/lang/invoke/VarHandle" ∧ (parseMethodDescriptor yX4_size.desc).map (fun d => d.parameters.length) = some 0 := by decide +kernel
abbrev wsX4_has : List Cond := Cond.code yX4_has cX4_has 2 (some .boolean) :: wB
theorem mvX4_has : Cond.instanceMethod yX4_has ∈ wB ∧ Cond.selects RX4 yX4_has yX4_has ∈ wB ∧ Cond.code yX4_has cX4_has 2 (some .boolean) ∈ wB := ⟨wB_at 734 (by decide +kernel) (by decide +kernel), wB_at 735 (by decide +kernel) (by decide +kernel), wB_at 736 (by decide +kernel) (by decide +kernel)⟩
theorem hdX4_has : yX4_has.cls = RX4 ∧ yX4_has.cls ≠ "java/lang/invoke/MethodHandle" ∧ yX4_has.cls ≠ "java/lang/invoke/VarHandle" ∧ (parseMethodDescriptor yX4_has.desc).map (fun d => d.parameters.length) = some 1 := by decide +kernel
abbrev wsX4_wallOf : List Cond := Cond.code yX4_wallOf cX4_wallOf 2 (some .int) :: wB
theorem mvX4_wallOf : Cond.instanceMethod yX4_wallOf ∈ wB ∧ Cond.selects RX4 yX4_wallOf yX4_wallOf ∈ wB ∧ Cond.code yX4_wallOf cX4_wallOf 2 (some .int) ∈ wB := ⟨wB_at 730 (by decide +kernel) (by decide +kernel), wB_at 731 (by decide +kernel) (by decide +kernel), wB_at 732 (by decide +kernel) (by decide +kernel)⟩
theorem hdX4_wallOf : yX4_wallOf.cls = RX4 ∧ yX4_wallOf.cls ≠ "java/lang/invoke/MethodHandle" ∧ yX4_wallOf.cls ≠ "java/lang/invoke/VarHandle" ∧ (parseMethodDescriptor yX4_wallOf.desc).map (fun d => d.parameters.length) = some 1 := by decide +kernel
abbrev wsX4_bound : List Cond := Cond.code yX4_bound cX4_bound 3 (some .int) :: wB
theorem mvX4_bound : Cond.instanceMethod yX4_bound ∈ wB ∧ Cond.selects RX4 yX4_bound yX4_bound ∈ wB ∧ Cond.code yX4_bound cX4_bound 3 (some .int) ∈ wB := ⟨wB_at 861 (by decide +kernel) (by decide +kernel), wB_at 862 (by decide +kernel) (by decide +kernel), wB_at 863 (by decide +kernel) (by decide +kernel)⟩
theorem hdX4_bound : yX4_bound.cls = RX4 ∧ yX4_bound.cls ≠ "java/lang/invoke/MethodHandle" ∧ yX4_bound.cls ≠ "java/lang/invoke/VarHandle" ∧ (parseMethodDescriptor yX4_bound.desc).map (fun d => d.parameters.length) = some 2 := by decide +kernel
abbrev wsX4_shorten : List Cond := Cond.code yX4_shorten cX4_shorten 2 none :: wB
theorem mvX4_shorten : Cond.instanceMethod yX4_shorten ∈ wB ∧ Cond.selects RX4 yX4_shorten yX4_shorten ∈ wB ∧ Cond.code yX4_shorten cX4_shorten 2 none ∈ wB := ⟨wB_at 693 (by decide +kernel) (by decide +kernel), wB_at 694 (by decide +kernel) (by decide +kernel), wB_at 695 (by decide +kernel) (by decide +kernel)⟩
theorem hdX4_shorten : yX4_shorten.cls = RX4 ∧ yX4_shorten.cls ≠ "java/lang/invoke/MethodHandle" ∧ yX4_shorten.cls ≠ "java/lang/invoke/VarHandle" ∧ (parseMethodDescriptor yX4_shorten.desc).map (fun d => d.parameters.length) = some 1 := by decide +kernel
abbrev wsX4_addWhole : List Cond := Cond.code yX4_addWhole cX4_addWhole 2 none :: wB
theorem mvX4_addWhole : Cond.instanceMethod yX4_addWhole ∈ wB ∧ Cond.selects RX4 yX4_addWhole yX4_addWhole ∈ wB ∧ Cond.code yX4_addWhole cX4_addWhole 2 none ∈ wB := ⟨wB_at 703 (by decide +kernel) (by decide +kernel), wB_at 704 (by decide +kernel) (by decide +kernel), wB_at 705 (by decide +kernel) (by decide +kernel)⟩
theorem hdX4_addWhole : yX4_addWhole.cls = RX4 ∧ yX4_addWhole.cls ≠ "java/lang/invoke/MethodHandle" ∧ yX4_addWhole.cls ≠ "java/lang/invoke/VarHandle" ∧ (parseMethodDescriptor yX4_addWhole.desc).map (fun d => d.parameters.length) = some 1 := by decide +kernel
abbrev wsX4_addWalls : List Cond := Cond.code yX4_addWalls cX4_addWalls 3 none :: wB
theorem mvX4_addWalls : Cond.instanceMethod yX4_addWalls ∈ wB ∧ Cond.selects RX4 yX4_addWalls yX4_addWalls ∈ wB ∧ Cond.code yX4_addWalls cX4_addWalls 3 none ∈ wB := ⟨wB_at 697 (by decide +kernel) (by decide +kernel), wB_at 698 (by decide +kernel) (by decide +kernel), wB_at 699 (by decide +kernel) (by decide +kernel)⟩
theorem hdX4_addWalls : yX4_addWalls.cls = RX4 ∧ yX4_addWalls.cls ≠ "java/lang/invoke/MethodHandle" ∧ yX4_addWalls.cls ≠ "java/lang/invoke/VarHandle" ∧ (parseMethodDescriptor yX4_addWalls.desc).map (fun d => d.parameters.length) = some 1 := by decide +kernel
abbrev wsX4_addSide : List Cond := Cond.code yX4_addSide cX4_addSide 8 none :: wB
theorem mvX4_addSide : Cond.instanceMethod yX4_addSide ∈ wB ∧ Cond.selects RX4 yX4_addSide yX4_addSide ∈ wB ∧ Cond.code yX4_addSide cX4_addSide 8 none ∈ wB := ⟨wB_at 766 (by decide +kernel) (by decide +kernel), wB_at 767 (by decide +kernel) (by decide +kernel), wB_at 768 (by decide +kernel) (by decide +kernel)⟩
theorem hdX4_addSide : yX4_addSide.cls = RX4 ∧ yX4_addSide.cls ≠ "java/lang/invoke/MethodHandle" ∧ yX4_addSide.cls ≠ "java/lang/invoke/VarHandle" ∧ (parseMethodDescriptor yX4_addSide.desc).map (fun d => d.parameters.length) = some 5 := by decide +kernel
abbrev wsX4_placeOf : List Cond := Cond.code yX4_placeOf cX4_placeOf 8 (some .int) :: wB
theorem mvX4_placeOf : Cond.instanceMethod yX4_placeOf ∈ wB ∧ Cond.selects RX4 yX4_placeOf yX4_placeOf ∈ wB ∧ Cond.code yX4_placeOf cX4_placeOf 8 (some .int) ∈ wB := ⟨wB_at 747 (by decide +kernel) (by decide +kernel), wB_at 748 (by decide +kernel) (by decide +kernel), wB_at 749 (by decide +kernel) (by decide +kernel)⟩
theorem hdX4_placeOf : yX4_placeOf.cls = RX4 ∧ yX4_placeOf.cls ≠ "java/lang/invoke/MethodHandle" ∧ yX4_placeOf.cls ≠ "java/lang/invoke/VarHandle" ∧ (parseMethodDescriptor yX4_placeOf.desc).map (fun d => d.parameters.length) = some 2 := by decide +kernel
abbrev wsX4_addCopy : List Cond := Cond.code yX4_addCopy cX4_addCopy 3 none :: wB
theorem mvX4_addCopy : Cond.instanceMethod yX4_addCopy ∈ wB ∧ Cond.selects RX4 yX4_addCopy yX4_addCopy ∈ wB ∧ Cond.code yX4_addCopy cX4_addCopy 3 none ∈ wB := ⟨wB_at 772 (by decide +kernel) (by decide +kernel), wB_at 15 (by decide +kernel) (by decide +kernel), wB_at 773 (by decide +kernel) (by decide +kernel)⟩
theorem hdX4_addCopy : yX4_addCopy.cls = RX4 ∧ yX4_addCopy.cls ≠ "java/lang/invoke/MethodHandle" ∧ yX4_addCopy.cls ≠ "java/lang/invoke/VarHandle" ∧ (parseMethodDescriptor yX4_addCopy.desc).map (fun d => d.parameters.length) = some 2 := by decide +kernel
abbrev wsX4_addPart : List Cond := Cond.code yX4_addPart cX4_addPart 12 none :: wB
theorem mvX4_addPart : Cond.instanceMethod yX4_addPart ∈ wB ∧ Cond.selects RX4 yX4_addPart yX4_addPart ∈ wB ∧ Cond.code yX4_addPart cX4_addPart 12 none ∈ wB := ⟨wB_at 776 (by decide +kernel) (by decide +kernel), wB_at 16 (by decide +kernel) (by decide +kernel), wB_at 777 (by decide +kernel) (by decide +kernel)⟩
theorem hdX4_addPart : yX4_addPart.cls = RX4 ∧ yX4_addPart.cls ≠ "java/lang/invoke/MethodHandle" ∧ yX4_addPart.cls ≠ "java/lang/invoke/VarHandle" ∧ (parseMethodDescriptor yX4_addPart.desc).map (fun d => d.parameters.length) = some 4 := by decide +kernel
abbrev wsX4_add : List Cond := Cond.code yX4_add cX4_add 6 none :: wB
theorem mvX4_add : Cond.instanceMethod yX4_add ∈ wB ∧ Cond.selects RX4 yX4_add yX4_add ∈ wB ∧ Cond.code yX4_add cX4_add 6 none ∈ wB := ⟨wB_at 708 (by decide +kernel) (by decide +kernel), wB_at 8 (by decide +kernel) (by decide +kernel), wB_at 709 (by decide +kernel) (by decide +kernel)⟩
theorem hdX4_add : yX4_add.cls = RX4 ∧ yX4_add.cls ≠ "java/lang/invoke/MethodHandle" ∧ yX4_add.cls ≠ "java/lang/invoke/VarHandle" ∧ (parseMethodDescriptor yX4_add.desc).map (fun d => d.parameters.length) = some 5 := by decide +kernel
abbrev wsX5_init : List Cond := Cond.code yX5_init cX5_init 2 none :: wB
theorem mvX5_init : Cond.instanceMethod yX5_init ∈ wB ∧ Cond.code yX5_init cX5_init 2 none ∈ wB := ⟨wB_at 319 (by decide +kernel) (by decide +kernel), wB_at 320 (by decide +kernel) (by decide +kernel)⟩
theorem hdX5_init : yX5_init.cls ≠ "java/lang/invoke/MethodHandle" ∧ yX5_init.cls ≠ "java/lang/invoke/VarHandle" ∧ (parseMethodDescriptor yX5_init.desc).map (fun d => d.parameters.length) = some 1 := by decide +kernel
abbrev wsX5_standAt : List Cond := Cond.code yX5_standAt cX5_standAt 4 none :: wB
theorem mvX5_standAt : Cond.instanceMethod yX5_standAt ∈ wB ∧ Cond.selects RX5 yX5_standAt yX5_standAt ∈ wB ∧ Cond.code yX5_standAt cX5_standAt 4 none ∈ wB := ⟨wB_at 990 (by decide +kernel) (by decide +kernel), wB_at 991 (by decide +kernel) (by decide +kernel), wB_at 992 (by decide +kernel) (by decide +kernel)⟩
theorem hdX5_standAt : yX5_standAt.cls = RX5 ∧ yX5_standAt.cls ≠ "java/lang/invoke/MethodHandle" ∧ yX5_standAt.cls ≠ "java/lang/invoke/VarHandle" ∧ (parseMethodDescriptor yX5_standAt.desc).map (fun d => d.parameters.length) = some 2 := by decide +kernel
abbrev wsX5_aim : List Cond := Cond.code yX5_aim cX5_aim 3 none :: wB
theorem mvX5_aim : Cond.instanceMethod yX5_aim ∈ wB ∧ Cond.selects RX5 yX5_aim yX5_aim ∈ wB ∧ Cond.code yX5_aim cX5_aim 3 none ∈ wB := ⟨wB_at 1002 (by decide +kernel) (by decide +kernel), wB_at 1003 (by decide +kernel) (by decide +kernel), wB_at 1004 (by decide +kernel) (by decide +kernel)⟩
theorem hdX5_aim : yX5_aim.cls = RX5 ∧ yX5_aim.cls ≠ "java/lang/invoke/MethodHandle" ∧ yX5_aim.cls ≠ "java/lang/invoke/VarHandle" ∧ (parseMethodDescriptor yX5_aim.desc).map (fun d => d.parameters.length) = some 2 := by decide +kernel
abbrev wsX5_aimAtColumn : List Cond := Cond.code yX5_aimAtColumn cX5_aimAtColumn 5 none :: wB
theorem mvX5_aimAtColumn : Cond.instanceMethod yX5_aimAtColumn ∈ wB ∧ Cond.selects RX5 yX5_aimAtColumn yX5_aimAtColumn ∈ wB ∧ Cond.code yX5_aimAtColumn cX5_aimAtColumn 5 none ∈ wB := ⟨wB_at 998 (by decide +kernel) (by decide +kernel), wB_at 999 (by decide +kernel) (by decide +kernel), wB_at 1000 (by decide +kernel) (by decide +kernel)⟩
theorem hdX5_aimAtColumn : yX5_aimAtColumn.cls = RX5 ∧ yX5_aimAtColumn.cls ≠ "java/lang/invoke/MethodHandle" ∧ yX5_aimAtColumn.cls ≠ "java/lang/invoke/VarHandle" ∧ (parseMethodDescriptor yX5_aimAtColumn.desc).map (fun d => d.parameters.length) = some 3 := by decide +kernel
abbrev wsX5_hits : List Cond := Cond.code yX5_hits cX5_hits 8 (some .boolean) :: wB
theorem mvX5_hits : Cond.instanceMethod yX5_hits ∈ wB ∧ Cond.selects RX5 yX5_hits yX5_hits ∈ wB ∧ Cond.code yX5_hits cX5_hits 8 (some .boolean) ∈ wB := ⟨wB_at 1014 (by decide +kernel) (by decide +kernel), wB_at 1015 (by decide +kernel) (by decide +kernel), wB_at 1016 (by decide +kernel) (by decide +kernel)⟩
theorem hdX5_hits : yX5_hits.cls = RX5 ∧ yX5_hits.cls ≠ "java/lang/invoke/MethodHandle" ∧ yX5_hits.cls ≠ "java/lang/invoke/VarHandle" ∧ (parseMethodDescriptor yX5_hits.desc).map (fun d => d.parameters.length) = some 1 := by decide +kernel
abbrev wsX5_hitIsAtOrAfter : List Cond := Cond.code yX5_hitIsAtOrAfter cX5_hitIsAtOrAfter 3 (some .boolean) :: wB
theorem mvX5_hitIsAtOrAfter : Cond.instanceMethod yX5_hitIsAtOrAfter ∈ wB ∧ Cond.selects RX5 yX5_hitIsAtOrAfter yX5_hitIsAtOrAfter ∈ wB ∧ Cond.code yX5_hitIsAtOrAfter cX5_hitIsAtOrAfter 3 (some .boolean) ∈ wB := ⟨wB_at 1023 (by decide +kernel) (by decide +kernel), wB_at 1024 (by decide +kernel) (by decide +kernel), wB_at 1025 (by decide +kernel) (by decide +kernel)⟩
theorem hdX5_hitIsAtOrAfter : yX5_hitIsAtOrAfter.cls = RX5 ∧ yX5_hitIsAtOrAfter.cls ≠ "java/lang/invoke/MethodHandle" ∧ yX5_hitIsAtOrAfter.cls ≠ "java/lang/invoke/VarHandle" ∧ (parseMethodDescriptor yX5_hitIsAtOrAfter.desc).map (fun d => d.parameters.length) = some 2 := by decide +kernel
abbrev wsX5_hitIsAtOrBefore : List Cond := Cond.code yX5_hitIsAtOrBefore cX5_hitIsAtOrBefore 3 (some .boolean) :: wB
theorem mvX5_hitIsAtOrBefore : Cond.instanceMethod yX5_hitIsAtOrBefore ∈ wB ∧ Cond.selects RX5 yX5_hitIsAtOrBefore yX5_hitIsAtOrBefore ∈ wB ∧ Cond.code yX5_hitIsAtOrBefore cX5_hitIsAtOrBefore 3 (some .boolean) ∈ wB := ⟨wB_at 1027 (by decide +kernel) (by decide +kernel), wB_at 1028 (by decide +kernel) (by decide +kernel), wB_at 1029 (by decide +kernel) (by decide +kernel)⟩
theorem hdX5_hitIsAtOrBefore : yX5_hitIsAtOrBefore.cls = RX5 ∧ yX5_hitIsAtOrBefore.cls ≠ "java/lang/invoke/MethodHandle" ∧ yX5_hitIsAtOrBefore.cls ≠ "java/lang/invoke/VarHandle" ∧ (parseMethodDescriptor yX5_hitIsAtOrBefore.desc).map (fun d => d.parameters.length) = some 2 := by decide +kernel
abbrev wsX5_findFirstHit : List Cond := Cond.code yX5_findFirstHit cX5_findFirstHit 2 none :: wB
theorem mvX5_findFirstHit : Cond.instanceMethod yX5_findFirstHit ∈ wB ∧ Cond.selects RX5 yX5_findFirstHit yX5_findFirstHit ∈ wB ∧ Cond.code yX5_findFirstHit cX5_findFirstHit 2 none ∈ wB := ⟨wB_at 1043 (by decide +kernel) (by decide +kernel), wB_at 1044 (by decide +kernel) (by decide +kernel), wB_at 1045 (by decide +kernel) (by decide +kernel)⟩
theorem hdX5_findFirstHit : yX5_findFirstHit.cls = RX5 ∧ yX5_findFirstHit.cls ≠ "java/lang/invoke/MethodHandle" ∧ yX5_findFirstHit.cls ≠ "java/lang/invoke/VarHandle" ∧ (parseMethodDescriptor yX5_findFirstHit.desc).map (fun d => d.parameters.length) = some 0 := by decide +kernel
abbrev wsX5_hitIsBeforeFirst : List Cond := Cond.code yX5_hitIsBeforeFirst cX5_hitIsBeforeFirst 1 (some .boolean) :: wB
theorem mvX5_hitIsBeforeFirst : Cond.instanceMethod yX5_hitIsBeforeFirst ∈ wB ∧ Cond.selects RX5 yX5_hitIsBeforeFirst yX5_hitIsBeforeFirst ∈ wB ∧ Cond.code yX5_hitIsBeforeFirst cX5_hitIsBeforeFirst 1 (some .boolean) ∈ wB := ⟨wB_at 1049 (by decide +kernel) (by decide +kernel), wB_at 23 (by decide +kernel) (by decide +kernel), wB_at 1050 (by decide +kernel) (by decide +kernel)⟩
theorem hdX5_hitIsBeforeFirst : yX5_hitIsBeforeFirst.cls = RX5 ∧ yX5_hitIsBeforeFirst.cls ≠ "java/lang/invoke/MethodHandle" ∧ yX5_hitIsBeforeFirst.cls ≠ "java/lang/invoke/VarHandle" ∧ (parseMethodDescriptor yX5_hitIsBeforeFirst.desc).map (fun d => d.parameters.length) = some 0 := by decide +kernel
abbrev wsX5_firstHitWall : List Cond := Cond.code yX5_firstHitWall cX5_firstHitWall 1 (some .int) :: wB
theorem mvX5_firstHitWall : Cond.instanceMethod yX5_firstHitWall ∈ wB ∧ Cond.selects RX5 yX5_firstHitWall yX5_firstHitWall ∈ wB ∧ Cond.code yX5_firstHitWall cX5_firstHitWall 1 (some .int) ∈ wB := ⟨wB_at 1056 (by decide +kernel) (by decide +kernel), wB_at 1057 (by decide +kernel) (by decide +kernel), wB_at 1058 (by decide +kernel) (by decide +kernel)⟩
theorem hdX5_firstHitWall : yX5_firstHitWall.cls = RX5 ∧ yX5_firstHitWall.cls ≠ "java/lang/invoke/MethodHandle" ∧ yX5_firstHitWall.cls ≠ "java/lang/invoke/VarHandle" ∧ (parseMethodDescriptor yX5_firstHitWall.desc).map (fun d => d.parameters.length) = some 0 := by decide +kernel
abbrev wsX5_firstHitTop : List Cond := Cond.code yX5_firstHitTop cX5_firstHitTop 1 (some .int) :: wB
theorem mvX5_firstHitTop : Cond.instanceMethod yX5_firstHitTop ∈ wB ∧ Cond.selects RX5 yX5_firstHitTop yX5_firstHitTop ∈ wB ∧ Cond.code yX5_firstHitTop cX5_firstHitTop 1 (some .int) ∈ wB := ⟨wB_at 1068 (by decide +kernel) (by decide +kernel), wB_at 1069 (by decide +kernel) (by decide +kernel), wB_at 1070 (by decide +kernel) (by decide +kernel)⟩
theorem hdX5_firstHitTop : yX5_firstHitTop.cls = RX5 ∧ yX5_firstHitTop.cls ≠ "java/lang/invoke/MethodHandle" ∧ yX5_firstHitTop.cls ≠ "java/lang/invoke/VarHandle" ∧ (parseMethodDescriptor yX5_firstHitTop.desc).map (fun d => d.parameters.length) = some 0 := by decide +kernel
abbrev wsX5_firstHitBottom : List Cond := Cond.code yX5_firstHitBottom cX5_firstHitBottom 1 (some .int) :: wB
theorem mvX5_firstHitBottom : Cond.instanceMethod yX5_firstHitBottom ∈ wB ∧ Cond.selects RX5 yX5_firstHitBottom yX5_firstHitBottom ∈ wB ∧ Cond.code yX5_firstHitBottom cX5_firstHitBottom 1 (some .int) ∈ wB := ⟨wB_at 1072 (by decide +kernel) (by decide +kernel), wB_at 1073 (by decide +kernel) (by decide +kernel), wB_at 1074 (by decide +kernel) (by decide +kernel)⟩
theorem hdX5_firstHitBottom : yX5_firstHitBottom.cls = RX5 ∧ yX5_firstHitBottom.cls ≠ "java/lang/invoke/MethodHandle" ∧ yX5_firstHitBottom.cls ≠ "java/lang/invoke/VarHandle" ∧ (parseMethodDescriptor yX5_firstHitBottom.desc).map (fun d => d.parameters.length) = some 0 := by decide +kernel
abbrev wsX5_firstHitIsWithinOne : List Cond := Cond.code yX5_firstHitIsWithinOne cX5_firstHitIsWithinOne 1 (some .boolean) :: wB
theorem mvX5_firstHitIsWithinOne : Cond.instanceMethod yX5_firstHitIsWithinOne ∈ wB ∧ Cond.selects RX5 yX5_firstHitIsWithinOne yX5_firstHitIsWithinOne ∈ wB ∧ Cond.code yX5_firstHitIsWithinOne cX5_firstHitIsWithinOne 1 (some .boolean) ∈ wB := ⟨wB_at 1052 (by decide +kernel) (by decide +kernel), wB_at 1053 (by decide +kernel) (by decide +kernel), wB_at 1054 (by decide +kernel) (by decide +kernel)⟩
theorem hdX5_firstHitIsWithinOne : yX5_firstHitIsWithinOne.cls = RX5 ∧ yX5_firstHitIsWithinOne.cls ≠ "java/lang/invoke/MethodHandle" ∧ yX5_firstHitIsWithinOne.cls ≠ "java/lang/invoke/VarHandle" ∧ (parseMethodDescriptor yX5_firstHitIsWithinOne.desc).map (fun d => d.parameters.length) = some 0 := by decide +kernel
abbrev wsX5_isBlocked : List Cond := Cond.code yX5_isBlocked cX5_isBlocked 2 (some .boolean) :: wB
theorem mvX5_isBlocked : Cond.instanceMethod yX5_isBlocked ∈ wB ∧ Cond.selects RX5 yX5_isBlocked yX5_isBlocked ∈ wB ∧ Cond.code yX5_isBlocked cX5_isBlocked 2 (some .boolean) ∈ wB := ⟨wB_at 1105 (by decide +kernel) (by decide +kernel), wB_at 1106 (by decide +kernel) (by decide +kernel), wB_at 1107 (by decide +kernel) (by decide +kernel)⟩
theorem hdX5_isBlocked : yX5_isBlocked.cls = RX5 ∧ yX5_isBlocked.cls ≠ "java/lang/invoke/MethodHandle" ∧ yX5_isBlocked.cls ≠ "java/lang/invoke/VarHandle" ∧ (parseMethodDescriptor yX5_isBlocked.desc).map (fun d => d.parameters.length) = some 0 := by decide +kernel
abbrev wsX5_countPanes : List Cond := Cond.code yX5_countPanes cX5_countPanes 3 (some .int) :: wB
theorem mvX5_countPanes : Cond.instanceMethod yX5_countPanes ∈ wB ∧ Cond.selects RX5 yX5_countPanes yX5_countPanes ∈ wB ∧ Cond.code yX5_countPanes cX5_countPanes 3 (some .int) ∈ wB := ⟨wB_at 1084 (by decide +kernel) (by decide +kernel), wB_at 1085 (by decide +kernel) (by decide +kernel), wB_at 1086 (by decide +kernel) (by decide +kernel)⟩
theorem hdX5_countPanes : yX5_countPanes.cls = RX5 ∧ yX5_countPanes.cls ≠ "java/lang/invoke/MethodHandle" ∧ yX5_countPanes.cls ≠ "java/lang/invoke/VarHandle" ∧ (parseMethodDescriptor yX5_countPanes.desc).map (fun d => d.parameters.length) = some 0 := by decide +kernel
abbrev wsX6_init : List Cond := Cond.code yX6_init cX6_init 2 none :: wB
theorem mvX6_init : Cond.instanceMethod yX6_init ∈ wB ∧ Cond.code yX6_init cX6_init 2 none ∈ wB := ⟨wB_at 187 (by decide +kernel) (by decide +kernel), wB_at 188 (by decide +kernel) (by decide +kernel)⟩
theorem hdX6_init : yX6_init.cls ≠ "java/lang/invoke/MethodHandle" ∧ yX6_init.cls ≠ "java/lang/invoke/VarHandle" ∧ (parseMethodDescriptor yX6_init.desc).map (fun d => d.parameters.length) = some 1 := by decide +kernel
abbrev wsX6_make : List Cond := Cond.code yX6_make cX6_make 4 none :: wB
theorem mvX6_make : Cond.instanceMethod yX6_make ∈ wB ∧ Cond.selects RX6 yX6_make yX6_make ∈ wB ∧ Cond.code yX6_make cX6_make 4 none ∈ wB := ⟨wB_at 689 (by decide +kernel) (by decide +kernel), wB_at 690 (by decide +kernel) (by decide +kernel), wB_at 691 (by decide +kernel) (by decide +kernel)⟩
theorem hdX6_make : yX6_make.cls = RX6 ∧ yX6_make.cls ≠ "java/lang/invoke/MethodHandle" ∧ yX6_make.cls ≠ "java/lang/invoke/VarHandle" ∧ (parseMethodDescriptor yX6_make.desc).map (fun d => d.parameters.length) = some 3 := by decide +kernel
abbrev wsX6_makeSubtree : List Cond := Cond.code yX6_makeSubtree cX6_makeSubtree 6 (some .int) :: wB
theorem mvX6_makeSubtree : Cond.instanceMethod yX6_makeSubtree ∈ wB ∧ Cond.selects RX6 yX6_makeSubtree yX6_makeSubtree ∈ wB ∧ Cond.code yX6_makeSubtree cX6_makeSubtree 6 (some .int) ∈ wB := ⟨wB_at 716 (by decide +kernel) (by decide +kernel), wB_at 9 (by decide +kernel) (by decide +kernel), wB_at 717 (by decide +kernel) (by decide +kernel)⟩
theorem hdX6_makeSubtree : yX6_makeSubtree.cls = RX6 ∧ yX6_makeSubtree.cls ≠ "java/lang/invoke/MethodHandle" ∧ yX6_makeSubtree.cls ≠ "java/lang/invoke/VarHandle" ∧ (parseMethodDescriptor yX6_makeSubtree.desc).map (fun d => d.parameters.length) = some 3 := by decide +kernel
abbrev wsX6_makeBranches : List Cond := Cond.code yX6_makeBranches cX6_makeBranches 9 none :: wB
theorem mvX6_makeBranches : Cond.instanceMethod yX6_makeBranches ∈ wB ∧ Cond.selects RX6 yX6_makeBranches yX6_makeBranches ∈ wB ∧ Cond.code yX6_makeBranches cX6_makeBranches 9 none ∈ wB := ⟨wB_at 784 (by decide +kernel) (by decide +kernel), wB_at 17 (by decide +kernel) (by decide +kernel), wB_at 785 (by decide +kernel) (by decide +kernel)⟩
theorem hdX6_makeBranches : yX6_makeBranches.cls = RX6 ∧ yX6_makeBranches.cls ≠ "java/lang/invoke/MethodHandle" ∧ yX6_makeBranches.cls ≠ "java/lang/invoke/VarHandle" ∧ (parseMethodDescriptor yX6_makeBranches.desc).map (fun d => d.parameters.length) = some 4 := by decide +kernel
abbrev wsX6_makeLeaf : List Cond := Cond.code yX6_makeLeaf cX6_makeLeaf 2 (some .int) :: wB
theorem mvX6_makeLeaf : Cond.instanceMethod yX6_makeLeaf ∈ wB ∧ Cond.selects RX6 yX6_makeLeaf yX6_makeLeaf ∈ wB ∧ Cond.code yX6_makeLeaf cX6_makeLeaf 2 (some .int) ∈ wB := ⟨wB_at 720 (by decide +kernel) (by decide +kernel), wB_at 10 (by decide +kernel) (by decide +kernel), wB_at 721 (by decide +kernel) (by decide +kernel)⟩
theorem hdX6_makeLeaf : yX6_makeLeaf.cls = RX6 ∧ yX6_makeLeaf.cls ≠ "java/lang/invoke/MethodHandle" ∧ yX6_makeLeaf.cls ≠ "java/lang/invoke/VarHandle" ∧ (parseMethodDescriptor yX6_makeLeaf.desc).map (fun d => d.parameters.length) = some 1 := by decide +kernel
abbrev wsX6_makeNode : List Cond := Cond.code yX6_makeNode cX6_makeNode 8 (some .int) :: wB
theorem mvX6_makeNode : Cond.instanceMethod yX6_makeNode ∈ wB ∧ Cond.selects RX6 yX6_makeNode yX6_makeNode ∈ wB ∧ Cond.code yX6_makeNode cX6_makeNode 8 (some .int) ∈ wB := ⟨wB_at 763 (by decide +kernel) (by decide +kernel), wB_at 14 (by decide +kernel) (by decide +kernel), wB_at 764 (by decide +kernel) (by decide +kernel)⟩
theorem hdX6_makeNode : yX6_makeNode.cls = RX6 ∧ yX6_makeNode.cls ≠ "java/lang/invoke/MethodHandle" ∧ yX6_makeNode.cls ≠ "java/lang/invoke/VarHandle" ∧ (parseMethodDescriptor yX6_makeNode.desc).map (fun d => d.parameters.length) = some 4 := by decide +kernel
abbrev wsX6_splittingWall : List Cond := Cond.code yX6_splittingWall cX6_splittingWall 9 (some .int) :: wB
theorem mvX6_splittingWall : Cond.instanceMethod yX6_splittingWall ∈ wB ∧ Cond.selects RX6 yX6_splittingWall yX6_splittingWall ∈ wB ∧ Cond.code yX6_splittingWall cX6_splittingWall 9 (some .int) ∈ wB := ⟨wB_at 727 (by decide +kernel) (by decide +kernel), wB_at 11 (by decide +kernel) (by decide +kernel), wB_at 728 (by decide +kernel) (by decide +kernel)⟩
theorem hdX6_splittingWall : yX6_splittingWall.cls = RX6 ∧ yX6_splittingWall.cls ≠ "java/lang/invoke/MethodHandle" ∧ yX6_splittingWall.cls ≠ "java/lang/invoke/VarHandle" ∧ (parseMethodDescriptor yX6_splittingWall.desc).map (fun d => d.parameters.length) = some 2 := by decide +kernel
abbrev wsX6_endOfFixed : List Cond := Cond.code yX6_endOfFixed cX6_endOfFixed 4 (some .int) :: wB
theorem mvX6_endOfFixed : Cond.instanceMethod yX6_endOfFixed ∈ wB ∧ Cond.selects RX6 yX6_endOfFixed yX6_endOfFixed ∈ wB ∧ Cond.code yX6_endOfFixed cX6_endOfFixed 4 (some .int) ∈ wB := ⟨wB_at 739 (by decide +kernel) (by decide +kernel), wB_at 12 (by decide +kernel) (by decide +kernel), wB_at 740 (by decide +kernel) (by decide +kernel)⟩
theorem hdX6_endOfFixed : yX6_endOfFixed.cls = RX6 ∧ yX6_endOfFixed.cls ≠ "java/lang/invoke/MethodHandle" ∧ yX6_endOfFixed.cls ≠ "java/lang/invoke/VarHandle" ∧ (parseMethodDescriptor yX6_endOfFixed.desc).map (fun d => d.parameters.length) = some 2 := by decide +kernel
abbrev wsX6_priceOf : List Cond := Cond.code yX6_priceOf cX6_priceOf 8 (some .int) :: wB
theorem mvX6_priceOf : Cond.instanceMethod yX6_priceOf ∈ wB ∧ Cond.selects RX6 yX6_priceOf yX6_priceOf ∈ wB ∧ Cond.code yX6_priceOf cX6_priceOf 8 (some .int) ∈ wB := ⟨wB_at 744 (by decide +kernel) (by decide +kernel), wB_at 13 (by decide +kernel) (by decide +kernel), wB_at 745 (by decide +kernel) (by decide +kernel)⟩
theorem hdX6_priceOf : yX6_priceOf.cls = RX6 ∧ yX6_priceOf.cls ≠ "java/lang/invoke/MethodHandle" ∧ yX6_priceOf.cls ≠ "java/lang/invoke/VarHandle" ∧ (parseMethodDescriptor yX6_priceOf.desc).map (fun d => d.parameters.length) = some 3 := by decide +kernel
abbrev wsX6_hasNode : List Cond := Cond.code yX6_hasNode cX6_hasNode 2 (some .boolean) :: wB
theorem mvX6_hasNode : Cond.instanceMethod yX6_hasNode ∈ wB ∧ Cond.selects RX6 yX6_hasNode yX6_hasNode ∈ wB ∧ Cond.code yX6_hasNode cX6_hasNode 2 (some .boolean) ∈ wB := ⟨wB_at 787 (by decide +kernel) (by decide +kernel), wB_at 788 (by decide +kernel) (by decide +kernel), wB_at 789 (by decide +kernel) (by decide +kernel)⟩
theorem hdX6_hasNode : yX6_hasNode.cls = RX6 ∧ yX6_hasNode.cls ≠ "java/lang/invoke/MethodHandle" ∧ yX6_hasNode.cls ≠ "java/lang/invoke/VarHandle" ∧ (parseMethodDescriptor yX6_hasNode.desc).map (fun d => d.parameters.length) = some 1 := by decide +kernel
abbrev wsX6_hasPiece : List Cond := Cond.code yX6_hasPiece cX6_hasPiece 2 (some .boolean) :: wB
theorem mvX6_hasPiece : Cond.instanceMethod yX6_hasPiece ∈ wB ∧ Cond.selects RX6 yX6_hasPiece yX6_hasPiece ∈ wB ∧ Cond.code yX6_hasPiece cX6_hasPiece 2 (some .boolean) ∈ wB := ⟨wB_at 836 (by decide +kernel) (by decide +kernel), wB_at 837 (by decide +kernel) (by decide +kernel), wB_at 838 (by decide +kernel) (by decide +kernel)⟩
theorem hdX6_hasPiece : yX6_hasPiece.cls = RX6 ∧ yX6_hasPiece.cls ≠ "java/lang/invoke/MethodHandle" ∧ yX6_hasPiece.cls ≠ "java/lang/invoke/VarHandle" ∧ (parseMethodDescriptor yX6_hasPiece.desc).map (fun d => d.parameters.length) = some 1 := by decide +kernel
abbrev wsX6_nodeTotal : List Cond := Cond.code yX6_nodeTotal cX6_nodeTotal 1 (some .int) :: wB
theorem mvX6_nodeTotal : Cond.instanceMethod yX6_nodeTotal ∈ wB ∧ Cond.selects RX6 yX6_nodeTotal yX6_nodeTotal ∈ wB ∧ Cond.code yX6_nodeTotal cX6_nodeTotal 1 (some .int) ∈ wB := ⟨wB_at 791 (by decide +kernel) (by decide +kernel), wB_at 792 (by decide +kernel) (by decide +kernel), wB_at 793 (by decide +kernel) (by decide +kernel)⟩
theorem hdX6_nodeTotal : yX6_nodeTotal.cls = RX6 ∧ yX6_nodeTotal.cls ≠ "java/lang/invoke/MethodHandle" ∧ yX6_nodeTotal.cls ≠ "java/lang/invoke/VarHandle" ∧ (parseMethodDescriptor yX6_nodeTotal.desc).map (fun d => d.parameters.length) = some 0 := by decide +kernel
abbrev wsX6_leafTotal : List Cond := Cond.code yX6_leafTotal cX6_leafTotal 1 (some .int) :: wB
theorem mvX6_leafTotal : Cond.instanceMethod yX6_leafTotal ∈ wB ∧ Cond.selects RX6 yX6_leafTotal yX6_leafTotal ∈ wB ∧ Cond.code yX6_leafTotal cX6_leafTotal 1 (some .int) ∈ wB := ⟨wB_at 916 (by decide +kernel) (by decide +kernel), wB_at 917 (by decide +kernel) (by decide +kernel), wB_at 918 (by decide +kernel) (by decide +kernel)⟩
theorem hdX6_leafTotal : yX6_leafTotal.cls = RX6 ∧ yX6_leafTotal.cls ≠ "java/lang/invoke/MethodHandle" ∧ yX6_leafTotal.cls ≠ "java/lang/invoke/VarHandle" ∧ (parseMethodDescriptor yX6_leafTotal.desc).map (fun d => d.parameters.length) = some 0 := by decide +kernel
abbrev wsX6_pieceTotal : List Cond := Cond.code yX6_pieceTotal cX6_pieceTotal 1 (some .int) :: wB
theorem mvX6_pieceTotal : Cond.instanceMethod yX6_pieceTotal ∈ wB ∧ Cond.selects RX6 yX6_pieceTotal yX6_pieceTotal ∈ wB ∧ Cond.code yX6_pieceTotal cX6_pieceTotal 1 (some .int) ∈ wB := ⟨wB_at 828 (by decide +kernel) (by decide +kernel), wB_at 829 (by decide +kernel) (by decide +kernel), wB_at 830 (by decide +kernel) (by decide +kernel)⟩
theorem hdX6_pieceTotal : yX6_pieceTotal.cls = RX6 ∧ yX6_pieceTotal.cls ≠ "java/lang/invoke/MethodHandle" ∧ yX6_pieceTotal.cls ≠ "java/lang/invoke/VarHandle" ∧ (parseMethodDescriptor yX6_pieceTotal.desc).map (fun d => d.parameters.length) = some 0 := by decide +kernel
abbrev wsX6_leafDepthSum : List Cond := Cond.code yX6_leafDepthSum cX6_leafDepthSum 1 (some .int) :: wB
theorem mvX6_leafDepthSum : Cond.instanceMethod yX6_leafDepthSum ∈ wB ∧ Cond.selects RX6 yX6_leafDepthSum yX6_leafDepthSum ∈ wB ∧ Cond.code yX6_leafDepthSum cX6_leafDepthSum 1 (some .int) ∈ wB := ⟨wB_at 912 (by decide +kernel) (by decide +kernel), wB_at 913 (by decide +kernel) (by decide +kernel), wB_at 914 (by decide +kernel) (by decide +kernel)⟩
theorem hdX6_leafDepthSum : yX6_leafDepthSum.cls = RX6 ∧ yX6_leafDepthSum.cls ≠ "java/lang/invoke/MethodHandle" ∧ yX6_leafDepthSum.cls ≠ "java/lang/invoke/VarHandle" ∧ (parseMethodDescriptor yX6_leafDepthSum.desc).map (fun d => d.parameters.length) = some 0 := by decide +kernel
abbrev wsX6_greatestLeafDepth : List Cond := Cond.code yX6_greatestLeafDepth cX6_greatestLeafDepth 1 (some .int) :: wB
theorem mvX6_greatestLeafDepth : Cond.instanceMethod yX6_greatestLeafDepth ∈ wB ∧ Cond.selects RX6 yX6_greatestLeafDepth yX6_greatestLeafDepth ∈ wB ∧ Cond.code yX6_greatestLeafDepth cX6_greatestLeafDepth 1 (some .int) ∈ wB := ⟨wB_at 1198 (by decide +kernel) (by decide +kernel), wB_at 1199 (by decide +kernel) (by decide +kernel), wB_at 1200 (by decide +kernel) (by decide +kernel)⟩
theorem hdX6_greatestLeafDepth : yX6_greatestLeafDepth.cls = RX6 ∧ yX6_greatestLeafDepth.cls ≠ "java/lang/invoke/MethodHandle" ∧ yX6_greatestLeafDepth.cls ≠ "java/lang/invoke/VarHandle" ∧ (parseMethodDescriptor yX6_greatestLeafDepth.desc).map (fun d => d.parameters.length) = some 0 := by decide +kernel
abbrev wsX6_rootSubtree : List Cond := Cond.code yX6_rootSubtree cX6_rootSubtree 1 (some .int) :: wB
theorem mvX6_rootSubtree : Cond.instanceMethod yX6_rootSubtree ∈ wB ∧ Cond.selects RX6 yX6_rootSubtree yX6_rootSubtree ∈ wB ∧ Cond.code yX6_rootSubtree cX6_rootSubtree 1 (some .int) ∈ wB := ⟨wB_at 932 (by decide +kernel) (by decide +kernel), wB_at 933 (by decide +kernel) (by decide +kernel), wB_at 934 (by decide +kernel) (by decide +kernel)⟩
theorem hdX6_rootSubtree : yX6_rootSubtree.cls = RX6 ∧ yX6_rootSubtree.cls ≠ "java/lang/invoke/MethodHandle" ∧ yX6_rootSubtree.cls ≠ "java/lang/invoke/VarHandle" ∧ (parseMethodDescriptor yX6_rootSubtree.desc).map (fun d => d.parameters.length) = some 0 := by decide +kernel
abbrev wsX6_wallOfNode : List Cond := Cond.code yX6_wallOfNode cX6_wallOfNode 2 (some .int) :: wB
theorem mvX6_wallOfNode : Cond.instanceMethod yX6_wallOfNode ∈ wB ∧ Cond.selects RX6 yX6_wallOfNode yX6_wallOfNode ∈ wB ∧ Cond.code yX6_wallOfNode cX6_wallOfNode 2 (some .int) ∈ wB := ⟨wB_at 800 (by decide +kernel) (by decide +kernel), wB_at 801 (by decide +kernel) (by decide +kernel), wB_at 802 (by decide +kernel) (by decide +kernel)⟩
theorem hdX6_wallOfNode : yX6_wallOfNode.cls = RX6 ∧ yX6_wallOfNode.cls ≠ "java/lang/invoke/MethodHandle" ∧ yX6_wallOfNode.cls ≠ "java/lang/invoke/VarHandle" ∧ (parseMethodDescriptor yX6_wallOfNode.desc).map (fun d => d.parameters.length) = some 1 := by decide +kernel
abbrev wsX6_frontOf : List Cond := Cond.code yX6_frontOf cX6_frontOf 2 (some .int) :: wB
theorem mvX6_frontOf : Cond.instanceMethod yX6_frontOf ∈ wB ∧ Cond.selects RX6 yX6_frontOf yX6_frontOf ∈ wB ∧ Cond.code yX6_frontOf cX6_frontOf 2 (some .int) ∈ wB := ⟨wB_at 808 (by decide +kernel) (by decide +kernel), wB_at 809 (by decide +kernel) (by decide +kernel), wB_at 810 (by decide +kernel) (by decide +kernel)⟩
theorem hdX6_frontOf : yX6_frontOf.cls = RX6 ∧ yX6_frontOf.cls ≠ "java/lang/invoke/MethodHandle" ∧ yX6_frontOf.cls ≠ "java/lang/invoke/VarHandle" ∧ (parseMethodDescriptor yX6_frontOf.desc).map (fun d => d.parameters.length) = some 1 := by decide +kernel
abbrev wsX6_backOf : List Cond := Cond.code yX6_backOf cX6_backOf 2 (some .int) :: wB
theorem mvX6_backOf : Cond.instanceMethod yX6_backOf ∈ wB ∧ Cond.selects RX6 yX6_backOf yX6_backOf ∈ wB ∧ Cond.code yX6_backOf cX6_backOf 2 (some .int) ∈ wB := ⟨wB_at 812 (by decide +kernel) (by decide +kernel), wB_at 813 (by decide +kernel) (by decide +kernel), wB_at 814 (by decide +kernel) (by decide +kernel)⟩
theorem hdX6_backOf : yX6_backOf.cls = RX6 ∧ yX6_backOf.cls ≠ "java/lang/invoke/MethodHandle" ∧ yX6_backOf.cls ≠ "java/lang/invoke/VarHandle" ∧ (parseMethodDescriptor yX6_backOf.desc).map (fun d => d.parameters.length) = some 1 := by decide +kernel
abbrev wsX6_depthOf : List Cond := Cond.code yX6_depthOf cX6_depthOf 2 (some .int) :: wB
theorem mvX6_depthOf : Cond.instanceMethod yX6_depthOf ∈ wB ∧ Cond.selects RX6 yX6_depthOf yX6_depthOf ∈ wB ∧ Cond.code yX6_depthOf cX6_depthOf 2 (some .int) ∈ wB := ⟨wB_at 820 (by decide +kernel) (by decide +kernel), wB_at 821 (by decide +kernel) (by decide +kernel), wB_at 822 (by decide +kernel) (by decide +kernel)⟩
theorem hdX6_depthOf : yX6_depthOf.cls = RX6 ∧ yX6_depthOf.cls ≠ "java/lang/invoke/MethodHandle" ∧ yX6_depthOf.cls ≠ "java/lang/invoke/VarHandle" ∧ (parseMethodDescriptor yX6_depthOf.desc).map (fun d => d.parameters.length) = some 1 := by decide +kernel
abbrev wsX6_firstPieceOf : List Cond := Cond.code yX6_firstPieceOf cX6_firstPieceOf 2 (some .int) :: wB
theorem mvX6_firstPieceOf : Cond.instanceMethod yX6_firstPieceOf ∈ wB ∧ Cond.selects RX6 yX6_firstPieceOf yX6_firstPieceOf ∈ wB ∧ Cond.code yX6_firstPieceOf cX6_firstPieceOf 2 (some .int) ∈ wB := ⟨wB_at 952 (by decide +kernel) (by decide +kernel), wB_at 953 (by decide +kernel) (by decide +kernel), wB_at 954 (by decide +kernel) (by decide +kernel)⟩
theorem hdX6_firstPieceOf : yX6_firstPieceOf.cls = RX6 ∧ yX6_firstPieceOf.cls ≠ "java/lang/invoke/MethodHandle" ∧ yX6_firstPieceOf.cls ≠ "java/lang/invoke/VarHandle" ∧ (parseMethodDescriptor yX6_firstPieceOf.desc).map (fun d => d.parameters.length) = some 1 := by decide +kernel
abbrev wsX6_pieceTotalOf : List Cond := Cond.code yX6_pieceTotalOf cX6_pieceTotalOf 2 (some .int) :: wB
theorem mvX6_pieceTotalOf : Cond.instanceMethod yX6_pieceTotalOf ∈ wB ∧ Cond.selects RX6 yX6_pieceTotalOf yX6_pieceTotalOf ∈ wB ∧ Cond.code yX6_pieceTotalOf cX6_pieceTotalOf 2 (some .int) ∈ wB := ⟨wB_at 956 (by decide +kernel) (by decide +kernel), wB_at 957 (by decide +kernel) (by decide +kernel), wB_at 958 (by decide +kernel) (by decide +kernel)⟩
theorem hdX6_pieceTotalOf : yX6_pieceTotalOf.cls = RX6 ∧ yX6_pieceTotalOf.cls ≠ "java/lang/invoke/MethodHandle" ∧ yX6_pieceTotalOf.cls ≠ "java/lang/invoke/VarHandle" ∧ (parseMethodDescriptor yX6_pieceTotalOf.desc).map (fun d => d.parameters.length) = some 1 := by decide +kernel
abbrev wsX6_wallOfPiece : List Cond := Cond.code yX6_wallOfPiece cX6_wallOfPiece 2 (some .int) :: wB
theorem mvX6_wallOfPiece : Cond.instanceMethod yX6_wallOfPiece ∈ wB ∧ Cond.selects RX6 yX6_wallOfPiece yX6_wallOfPiece ∈ wB ∧ Cond.code yX6_wallOfPiece cX6_wallOfPiece 2 (some .int) ∈ wB := ⟨wB_at 841 (by decide +kernel) (by decide +kernel), wB_at 842 (by decide +kernel) (by decide +kernel), wB_at 843 (by decide +kernel) (by decide +kernel)⟩
theorem hdX6_wallOfPiece : yX6_wallOfPiece.cls = RX6 ∧ yX6_wallOfPiece.cls ≠ "java/lang/invoke/MethodHandle" ∧ yX6_wallOfPiece.cls ≠ "java/lang/invoke/VarHandle" ∧ (parseMethodDescriptor yX6_wallOfPiece.desc).map (fun d => d.parameters.length) = some 1 := by decide +kernel
abbrev wsX6_nodeOfPiece : List Cond := Cond.code yX6_nodeOfPiece cX6_nodeOfPiece 2 (some .int) :: wB
theorem mvX6_nodeOfPiece : Cond.instanceMethod yX6_nodeOfPiece ∈ wB ∧ Cond.selects RX6 yX6_nodeOfPiece yX6_nodeOfPiece ∈ wB ∧ Cond.code yX6_nodeOfPiece cX6_nodeOfPiece 2 (some .int) ∈ wB := ⟨wB_at 849 (by decide +kernel) (by decide +kernel), wB_at 850 (by decide +kernel) (by decide +kernel), wB_at 851 (by decide +kernel) (by decide +kernel)⟩
theorem hdX6_nodeOfPiece : yX6_nodeOfPiece.cls = RX6 ∧ yX6_nodeOfPiece.cls ≠ "java/lang/invoke/MethodHandle" ∧ yX6_nodeOfPiece.cls ≠ "java/lang/invoke/VarHandle" ∧ (parseMethodDescriptor yX6_nodeOfPiece.desc).map (fun d => d.parameters.length) = some 1 := by decide +kernel
abbrev wsX6_boundOfPiece : List Cond := Cond.code yX6_boundOfPiece cX6_boundOfPiece 3 (some .int) :: wB
theorem mvX6_boundOfPiece : Cond.instanceMethod yX6_boundOfPiece ∈ wB ∧ Cond.selects RX6 yX6_boundOfPiece yX6_boundOfPiece ∈ wB ∧ Cond.code yX6_boundOfPiece cX6_boundOfPiece 3 (some .int) ∈ wB := ⟨wB_at 857 (by decide +kernel) (by decide +kernel), wB_at 858 (by decide +kernel) (by decide +kernel), wB_at 859 (by decide +kernel) (by decide +kernel)⟩
theorem hdX6_boundOfPiece : yX6_boundOfPiece.cls = RX6 ∧ yX6_boundOfPiece.cls ≠ "java/lang/invoke/MethodHandle" ∧ yX6_boundOfPiece.cls ≠ "java/lang/invoke/VarHandle" ∧ (parseMethodDescriptor yX6_boundOfPiece.desc).map (fun d => d.parameters.length) = some 2 := by decide +kernel
abbrev wsX6_isInFrontOrOnLine : List Cond := Cond.code yX6_isInFrontOrOnLine cX6_isInFrontOrOnLine 4 (some .boolean) :: wB
theorem mvX6_isInFrontOrOnLine : Cond.instanceMethod yX6_isInFrontOrOnLine ∈ wB ∧ Cond.selects RX6 yX6_isInFrontOrOnLine yX6_isInFrontOrOnLine ∈ wB ∧ Cond.code yX6_isInFrontOrOnLine cX6_isInFrontOrOnLine 4 (some .boolean) ∈ wB := ⟨wB_at 900 (by decide +kernel) (by decide +kernel), wB_at 901 (by decide +kernel) (by decide +kernel), wB_at 902 (by decide +kernel) (by decide +kernel)⟩
theorem hdX6_isInFrontOrOnLine : yX6_isInFrontOrOnLine.cls = RX6 ∧ yX6_isInFrontOrOnLine.cls ≠ "java/lang/invoke/MethodHandle" ∧ yX6_isInFrontOrOnLine.cls ≠ "java/lang/invoke/VarHandle" ∧ (parseMethodDescriptor yX6_isInFrontOrOnLine.desc).map (fun d => d.parameters.length) = some 3 := by decide +kernel
abbrev wsX6_leafAt : List Cond := Cond.code yX6_leafAt cX6_leafAt 5 (some .int) :: wB
theorem mvX6_leafAt : Cond.instanceMethod yX6_leafAt ∈ wB ∧ Cond.selects RX6 yX6_leafAt yX6_leafAt ∈ wB ∧ Cond.code yX6_leafAt cX6_leafAt 5 (some .int) ∈ wB := ⟨wB_at 896 (by decide +kernel) (by decide +kernel), wB_at 897 (by decide +kernel) (by decide +kernel), wB_at 898 (by decide +kernel) (by decide +kernel)⟩
theorem hdX6_leafAt : yX6_leafAt.cls = RX6 ∧ yX6_leafAt.cls ≠ "java/lang/invoke/MethodHandle" ∧ yX6_leafAt.cls ≠ "java/lang/invoke/VarHandle" ∧ (parseMethodDescriptor yX6_leafAt.desc).map (fun d => d.parameters.length) = some 2 := by decide +kernel
abbrev wsX7_init : List Cond := Cond.code yX7_init cX7_init 1 none :: wB
theorem mvX7_init : Cond.instanceMethod yX7_init ∈ wB ∧ Cond.code yX7_init cX7_init 1 none ∈ wB := ⟨wB_at 159 (by decide +kernel) (by decide +kernel), wB_at 160 (by decide +kernel) (by decide +kernel)⟩
theorem hdX7_init : yX7_init.cls ≠ "java/lang/invoke/MethodHandle" ∧ yX7_init.cls ≠ "java/lang/invoke/VarHandle" ∧ (parseMethodDescriptor yX7_init.desc).map (fun d => d.parameters.length) = some 0 := by decide +kernel
abbrev wsX7_length : List Cond := Cond.code yX7_length cX7_length 1 (some .int) :: wB
theorem mvX7_length : Cond.instanceMethod yX7_length ∈ wB ∧ Cond.selects RX7 yX7_length yX7_length ∈ wB ∧ Cond.code yX7_length cX7_length 1 (some .int) ∈ wB := ⟨wB_at 584 (by decide +kernel) (by decide +kernel), wB_at 585 (by decide +kernel) (by decide +kernel), wB_at 586 (by decide +kernel) (by decide +kernel)⟩
theorem hdX7_length : yX7_length.cls = RX7 ∧ yX7_length.cls ≠ "java/lang/invoke/MethodHandle" ∧ yX7_length.cls ≠ "java/lang/invoke/VarHandle" ∧ (parseMethodDescriptor yX7_length.desc).map (fun d => d.parameters.length) = some 0 := by decide +kernel
abbrev wsX7_isFull : List Cond := Cond.code yX7_isFull cX7_isFull 1 (some .boolean) :: wB
theorem mvX7_isFull : Cond.instanceMethod yX7_isFull ∈ wB ∧ Cond.selects RX7 yX7_isFull yX7_isFull ∈ wB ∧ Cond.code yX7_isFull cX7_isFull 1 (some .boolean) ∈ wB := ⟨wB_at 576 (by decide +kernel) (by decide +kernel), wB_at 577 (by decide +kernel) (by decide +kernel), wB_at 578 (by decide +kernel) (by decide +kernel)⟩
theorem hdX7_isFull : yX7_isFull.cls = RX7 ∧ yX7_isFull.cls ≠ "java/lang/invoke/MethodHandle" ∧ yX7_isFull.cls ≠ "java/lang/invoke/VarHandle" ∧ (parseMethodDescriptor yX7_isFull.desc).map (fun d => d.parameters.length) = some 0 := by decide +kernel
abbrev wsX7_append : List Cond := Cond.code yX7_append cX7_append 2 none :: wB
theorem mvX7_append : Cond.instanceMethod yX7_append ∈ wB ∧ Cond.selects RX7 yX7_append yX7_append ∈ wB ∧ Cond.code yX7_append cX7_append 2 none ∈ wB := ⟨wB_at 580 (by decide +kernel) (by decide +kernel), wB_at 581 (by decide +kernel) (by decide +kernel), wB_at 582 (by decide +kernel) (by decide +kernel)⟩
theorem hdX7_append : yX7_append.cls = RX7 ∧ yX7_append.cls ≠ "java/lang/invoke/MethodHandle" ∧ yX7_append.cls ≠ "java/lang/invoke/VarHandle" ∧ (parseMethodDescriptor yX7_append.desc).map (fun d => d.parameters.length) = some 1 := by decide +kernel
abbrev wsX7_clear : List Cond := Cond.code yX7_clear cX7_clear 1 none :: wB
theorem mvX7_clear : Cond.instanceMethod yX7_clear ∈ wB ∧ Cond.selects RX7 yX7_clear yX7_clear ∈ wB ∧ Cond.code yX7_clear cX7_clear 1 none ∈ wB := ⟨wB_at 592 (by decide +kernel) (by decide +kernel), wB_at 593 (by decide +kernel) (by decide +kernel), wB_at 594 (by decide +kernel) (by decide +kernel)⟩
theorem hdX7_clear : yX7_clear.cls = RX7 ∧ yX7_clear.cls ≠ "java/lang/invoke/MethodHandle" ∧ yX7_clear.cls ≠ "java/lang/invoke/VarHandle" ∧ (parseMethodDescriptor yX7_clear.desc).map (fun d => d.parameters.length) = some 0 := by decide +kernel
abbrev wsX7_placeOfFault : List Cond := Cond.code yX7_placeOfFault cX7_placeOfFault 1 (some .int) :: wB
theorem mvX7_placeOfFault : Cond.instanceMethod yX7_placeOfFault ∈ wB ∧ Cond.selects RX7 yX7_placeOfFault yX7_placeOfFault ∈ wB ∧ Cond.code yX7_placeOfFault cX7_placeOfFault 1 (some .int) ∈ wB := ⟨wB_at 636 (by decide +kernel) (by decide +kernel), wB_at 637 (by decide +kernel) (by decide +kernel), wB_at 638 (by decide +kernel) (by decide +kernel)⟩
theorem hdX7_placeOfFault : yX7_placeOfFault.cls = RX7 ∧ yX7_placeOfFault.cls ≠ "java/lang/invoke/MethodHandle" ∧ yX7_placeOfFault.cls ≠ "java/lang/invoke/VarHandle" ∧ (parseMethodDescriptor yX7_placeOfFault.desc).map (fun d => d.parameters.length) = some 0 := by decide +kernel
abbrev wsX7_kindOfFault : List Cond := Cond.code yX7_kindOfFault cX7_kindOfFault 1 (some .int) :: wB
theorem mvX7_kindOfFault : Cond.instanceMethod yX7_kindOfFault ∈ wB ∧ Cond.selects RX7 yX7_kindOfFault yX7_kindOfFault ∈ wB ∧ Cond.code yX7_kindOfFault cX7_kindOfFault 1 (some .int) ∈ wB := ⟨wB_at 644 (by decide +kernel) (by decide +kernel), wB_at 645 (by decide +kernel) (by decide +kernel), wB_at 646 (by decide +kernel) (by decide +kernel)⟩
theorem hdX7_kindOfFault : yX7_kindOfFault.cls = RX7 ∧ yX7_kindOfFault.cls ≠ "java/lang/invoke/MethodHandle" ∧ yX7_kindOfFault.cls ≠ "java/lang/invoke/VarHandle" ∧ (parseMethodDescriptor yX7_kindOfFault.desc).map (fun d => d.parameters.length) = some 0 := by decide +kernel
abbrev wsX7_itemOfFault : List Cond := Cond.code yX7_itemOfFault cX7_itemOfFault 1 (some .int) :: wB
theorem mvX7_itemOfFault : Cond.instanceMethod yX7_itemOfFault ∈ wB ∧ Cond.selects RX7 yX7_itemOfFault yX7_itemOfFault ∈ wB ∧ Cond.code yX7_itemOfFault cX7_itemOfFault 1 (some .int) ∈ wB := ⟨wB_at 652 (by decide +kernel) (by decide +kernel), wB_at 653 (by decide +kernel) (by decide +kernel), wB_at 654 (by decide +kernel) (by decide +kernel)⟩
theorem hdX7_itemOfFault : yX7_itemOfFault.cls = RX7 ∧ yX7_itemOfFault.cls ≠ "java/lang/invoke/MethodHandle" ∧ yX7_itemOfFault.cls ≠ "java/lang/invoke/VarHandle" ∧ (parseMethodDescriptor yX7_itemOfFault.desc).map (fun d => d.parameters.length) = some 0 := by decide +kernel
abbrev wsX7_readInto : List Cond := Cond.code yX7_readInto cX7_readInto 3 (some .boolean) :: wB
theorem mvX7_readInto : Cond.instanceMethod yX7_readInto ∈ wB ∧ Cond.selects RX7 yX7_readInto yX7_readInto ∈ wB ∧ Cond.code yX7_readInto cX7_readInto 3 (some .boolean) ∈ wB := ⟨wB_at 600 (by decide +kernel) (by decide +kernel), wB_at 601 (by decide +kernel) (by decide +kernel), wB_at 602 (by decide +kernel) (by decide +kernel)⟩
theorem hdX7_readInto : yX7_readInto.cls = RX7 ∧ yX7_readInto.cls ≠ "java/lang/invoke/MethodHandle" ∧ yX7_readInto.cls ≠ "java/lang/invoke/VarHandle" ∧ (parseMethodDescriptor yX7_readInto.desc).map (fun d => d.parameters.length) = some 1 := by decide +kernel
abbrev wsX7_readItem : List Cond := Cond.code yX7_readItem cX7_readItem 6 (some .boolean) :: wB
theorem mvX7_readItem : Cond.instanceMethod yX7_readItem ∈ wB ∧ Cond.selects RX7 yX7_readItem yX7_readItem ∈ wB ∧ Cond.code yX7_readItem cX7_readItem 6 (some .boolean) ∈ wB := ⟨wB_at 609 (by decide +kernel) (by decide +kernel), wB_at 2 (by decide +kernel) (by decide +kernel), wB_at 610 (by decide +kernel) (by decide +kernel)⟩
theorem hdX7_readItem : yX7_readItem.cls = RX7 ∧ yX7_readItem.cls ≠ "java/lang/invoke/MethodHandle" ∧ yX7_readItem.cls ≠ "java/lang/invoke/VarHandle" ∧ (parseMethodDescriptor yX7_readItem.desc).map (fun d => d.parameters.length) = some 2 := by decide +kernel
abbrev wsX7_readNumber : List Cond := Cond.code yX7_readNumber cX7_readNumber 5 (some .boolean) :: wB
theorem mvX7_readNumber : Cond.instanceMethod yX7_readNumber ∈ wB ∧ Cond.selects RX7 yX7_readNumber yX7_readNumber ∈ wB ∧ Cond.code yX7_readNumber cX7_readNumber 5 (some .boolean) ∈ wB := ⟨wB_at 624 (by decide +kernel) (by decide +kernel), wB_at 5 (by decide +kernel) (by decide +kernel), wB_at 625 (by decide +kernel) (by decide +kernel)⟩
theorem hdX7_readNumber : yX7_readNumber.cls = RX7 ∧ yX7_readNumber.cls ≠ "java/lang/invoke/MethodHandle" ∧ yX7_readNumber.cls ≠ "java/lang/invoke/VarHandle" ∧ (parseMethodDescriptor yX7_readNumber.desc).map (fun d => d.parameters.length) = some 2 := by decide +kernel
abbrev wsX7_fault : List Cond := Cond.code yX7_fault cX7_fault 4 (some .boolean) :: wB
theorem mvX7_fault : Cond.instanceMethod yX7_fault ∈ wB ∧ Cond.selects RX7 yX7_fault yX7_fault ∈ wB ∧ Cond.code yX7_fault cX7_fault 4 (some .boolean) ∈ wB := ⟨wB_at 620 (by decide +kernel) (by decide +kernel), wB_at 4 (by decide +kernel) (by decide +kernel), wB_at 621 (by decide +kernel) (by decide +kernel)⟩
theorem hdX7_fault : yX7_fault.cls = RX7 ∧ yX7_fault.cls ≠ "java/lang/invoke/MethodHandle" ∧ yX7_fault.cls ≠ "java/lang/invoke/VarHandle" ∧ (parseMethodDescriptor yX7_fault.desc).map (fun d => d.parameters.length) = some 3 := by decide +kernel
abbrev wsX7_codeAt : List Cond := Cond.code yX7_codeAt cX7_codeAt 2 (some .int) :: wB
theorem mvX7_codeAt : Cond.instanceMethod yX7_codeAt ∈ wB ∧ Cond.selects RX7 yX7_codeAt yX7_codeAt ∈ wB ∧ Cond.code yX7_codeAt cX7_codeAt 2 (some .int) ∈ wB := ⟨wB_at 613 (by decide +kernel) (by decide +kernel), wB_at 3 (by decide +kernel) (by decide +kernel), wB_at 614 (by decide +kernel) (by decide +kernel)⟩
theorem hdX7_codeAt : yX7_codeAt.cls = RX7 ∧ yX7_codeAt.cls ≠ "java/lang/invoke/MethodHandle" ∧ yX7_codeAt.cls ≠ "java/lang/invoke/VarHandle" ∧ (parseMethodDescriptor yX7_codeAt.desc).map (fun d => d.parameters.length) = some 1 := by decide +kernel
abbrev wsX7_isDigit : List Cond := Cond.code yX7_isDigit cX7_isDigit 1 (some .boolean) :: wB
theorem mvX7_isDigit : Cond.static yX7_isDigit ∈ wB ∧ Cond.code yX7_isDigit cX7_isDigit 1 (some .boolean) ∈ wB := ⟨wB_at 627 (by decide +kernel) (by decide +kernel), wB_at 628 (by decide +kernel) (by decide +kernel)⟩
theorem hdX7_isDigit : yX7_isDigit.cls ≠ "java/lang/invoke/MethodHandle" ∧ yX7_isDigit.cls ≠ "java/lang/invoke/VarHandle" ∧ (parseMethodDescriptor yX7_isDigit.desc).map (fun d => d.parameters.length) = some 1 := by decide +kernel
abbrev wsX7_kindOfLetter : List Cond := Cond.code yX7_kindOfLetter cX7_kindOfLetter 1 (some .int) :: wB
theorem mvX7_kindOfLetter : Cond.static yX7_kindOfLetter ∈ wB ∧ Cond.code yX7_kindOfLetter cX7_kindOfLetter 1 (some .int) ∈ wB := ⟨wB_at 616 (by decide +kernel) (by decide +kernel), wB_at 617 (by decide +kernel) (by decide +kernel)⟩
theorem hdX7_kindOfLetter : yX7_kindOfLetter.cls ≠ "java/lang/invoke/MethodHandle" ∧ yX7_kindOfLetter.cls ≠ "java/lang/invoke/VarHandle" ∧ (parseMethodDescriptor yX7_kindOfLetter.desc).map (fun d => d.parameters.length) = some 1 := by decide +kernel
abbrev wsX8_init : List Cond := Cond.code yX8_init cX8_init 1 none :: wB
theorem mvX8_init : Cond.instanceMethod yX8_init ∈ wB ∧ Cond.code yX8_init cX8_init 1 none ∈ wB := ⟨wB_at 104 (by decide +kernel) (by decide +kernel), wB_at 105 (by decide +kernel) (by decide +kernel)⟩
theorem hdX8_init : yX8_init.cls ≠ "java/lang/invoke/MethodHandle" ∧ yX8_init.cls ≠ "java/lang/invoke/VarHandle" ∧ (parseMethodDescriptor yX8_init.desc).map (fun d => d.parameters.length) = some 0 := by decide +kernel
abbrev wsX8_exists : List Cond := Cond.code yX8_exists cX8_exists 2 (some .boolean) :: wB
theorem mvX8_exists : Cond.instanceMethod yX8_exists ∈ wB ∧ Cond.selects RX8 yX8_exists yX8_exists ∈ wB ∧ Cond.code yX8_exists cX8_exists 2 (some .boolean) ∈ wB := ⟨wB_at 465 (by decide +kernel) (by decide +kernel), wB_at 466 (by decide +kernel) (by decide +kernel), wB_at 467 (by decide +kernel) (by decide +kernel)⟩
theorem hdX8_exists : yX8_exists.cls = RX8 ∧ yX8_exists.cls ≠ "java/lang/invoke/MethodHandle" ∧ yX8_exists.cls ≠ "java/lang/invoke/VarHandle" ∧ (parseMethodDescriptor yX8_exists.desc).map (fun d => d.parameters.length) = some 1 := by decide +kernel
abbrev wsX8_isFixed : List Cond := Cond.code yX8_isFixed cX8_isFixed 2 (some .boolean) :: wB
theorem mvX8_isFixed : Cond.instanceMethod yX8_isFixed ∈ wB ∧ Cond.selects RX8 yX8_isFixed yX8_isFixed ∈ wB ∧ Cond.code yX8_isFixed cX8_isFixed 2 (some .boolean) ∈ wB := ⟨wB_at 668 (by decide +kernel) (by decide +kernel), wB_at 669 (by decide +kernel) (by decide +kernel), wB_at 670 (by decide +kernel) (by decide +kernel)⟩
theorem hdX8_isFixed : yX8_isFixed.cls = RX8 ∧ yX8_isFixed.cls ≠ "java/lang/invoke/MethodHandle" ∧ yX8_isFixed.cls ≠ "java/lang/invoke/VarHandle" ∧ (parseMethodDescriptor yX8_isFixed.desc).map (fun d => d.parameters.length) = some 1 := by decide +kernel
abbrev wsX8_isMovable : List Cond := Cond.code yX8_isMovable cX8_isMovable 2 (some .boolean) :: wB
theorem mvX8_isMovable : Cond.instanceMethod yX8_isMovable ∈ wB ∧ Cond.selects RX8 yX8_isMovable yX8_isMovable ∈ wB ∧ Cond.code yX8_isMovable cX8_isMovable 2 (some .boolean) ∈ wB := ⟨wB_at 564 (by decide +kernel) (by decide +kernel), wB_at 565 (by decide +kernel) (by decide +kernel), wB_at 566 (by decide +kernel) (by decide +kernel)⟩
theorem hdX8_isMovable : yX8_isMovable.cls = RX8 ∧ yX8_isMovable.cls ≠ "java/lang/invoke/MethodHandle" ∧ yX8_isMovable.cls ≠ "java/lang/invoke/VarHandle" ∧ (parseMethodDescriptor yX8_isMovable.desc).map (fun d => d.parameters.length) = some 1 := by decide +kernel
abbrev wsX8_lowestFree : List Cond := Cond.code yX8_lowestFree cX8_lowestFree 2 (some .int) :: wB
theorem mvX8_lowestFree : Cond.instanceMethod yX8_lowestFree ∈ wB ∧ Cond.selects RX8 yX8_lowestFree yX8_lowestFree ∈ wB ∧ Cond.code yX8_lowestFree cX8_lowestFree 2 (some .int) ∈ wB := ⟨wB_at 429 (by decide +kernel) (by decide +kernel), wB_at 430 (by decide +kernel) (by decide +kernel), wB_at 431 (by decide +kernel) (by decide +kernel)⟩
theorem hdX8_lowestFree : yX8_lowestFree.cls = RX8 ∧ yX8_lowestFree.cls ≠ "java/lang/invoke/MethodHandle" ∧ yX8_lowestFree.cls ≠ "java/lang/invoke/VarHandle" ∧ (parseMethodDescriptor yX8_lowestFree.desc).map (fun d => d.parameters.length) = some 0 := by decide +kernel
abbrev wsX8_total : List Cond := Cond.code yX8_total cX8_total 3 (some .int) :: wB
theorem mvX8_total : Cond.instanceMethod yX8_total ∈ wB ∧ Cond.selects RX8 yX8_total yX8_total ∈ wB ∧ Cond.code yX8_total cX8_total 3 (some .int) ∈ wB := ⟨wB_at 473 (by decide +kernel) (by decide +kernel), wB_at 474 (by decide +kernel) (by decide +kernel), wB_at 475 (by decide +kernel) (by decide +kernel)⟩
theorem hdX8_total : yX8_total.cls = RX8 ∧ yX8_total.cls ≠ "java/lang/invoke/MethodHandle" ∧ yX8_total.cls ≠ "java/lang/invoke/VarHandle" ∧ (parseMethodDescriptor yX8_total.desc).map (fun d => d.parameters.length) = some 0 := by decide +kernel
abbrev wsX8_fixedTotal : List Cond := Cond.code yX8_fixedTotal cX8_fixedTotal 3 (some .int) :: wB
theorem mvX8_fixedTotal : Cond.instanceMethod yX8_fixedTotal ∈ wB ∧ Cond.selects RX8 yX8_fixedTotal yX8_fixedTotal ∈ wB ∧ Cond.code yX8_fixedTotal cX8_fixedTotal 3 (some .int) ∈ wB := ⟨wB_at 1206 (by decide +kernel) (by decide +kernel), wB_at 1207 (by decide +kernel) (by decide +kernel), wB_at 1208 (by decide +kernel) (by decide +kernel)⟩
theorem hdX8_fixedTotal : yX8_fixedTotal.cls = RX8 ∧ yX8_fixedTotal.cls ≠ "java/lang/invoke/MethodHandle" ∧ yX8_fixedTotal.cls ≠ "java/lang/invoke/VarHandle" ∧ (parseMethodDescriptor yX8_fixedTotal.desc).map (fun d => d.parameters.length) = some 0 := by decide +kernel
abbrev wsX8_startX : List Cond := Cond.code yX8_startX cX8_startX 2 (some .int) :: wB
theorem mvX8_startX : Cond.instanceMethod yX8_startX ∈ wB ∧ Cond.selects RX8 yX8_startX yX8_startX ∈ wB ∧ Cond.code yX8_startX cX8_startX 2 (some .int) ∈ wB := ⟨wB_at 481 (by decide +kernel) (by decide +kernel), wB_at 482 (by decide +kernel) (by decide +kernel), wB_at 483 (by decide +kernel) (by decide +kernel)⟩
theorem hdX8_startX : yX8_startX.cls = RX8 ∧ yX8_startX.cls ≠ "java/lang/invoke/MethodHandle" ∧ yX8_startX.cls ≠ "java/lang/invoke/VarHandle" ∧ (parseMethodDescriptor yX8_startX.desc).map (fun d => d.parameters.length) = some 1 := by decide +kernel
abbrev wsX8_startY : List Cond := Cond.code yX8_startY cX8_startY 2 (some .int) :: wB
theorem mvX8_startY : Cond.instanceMethod yX8_startY ∈ wB ∧ Cond.selects RX8 yX8_startY yX8_startY ∈ wB ∧ Cond.code yX8_startY cX8_startY 2 (some .int) ∈ wB := ⟨wB_at 485 (by decide +kernel) (by decide +kernel), wB_at 486 (by decide +kernel) (by decide +kernel), wB_at 487 (by decide +kernel) (by decide +kernel)⟩
theorem hdX8_startY : yX8_startY.cls = RX8 ∧ yX8_startY.cls ≠ "java/lang/invoke/MethodHandle" ∧ yX8_startY.cls ≠ "java/lang/invoke/VarHandle" ∧ (parseMethodDescriptor yX8_startY.desc).map (fun d => d.parameters.length) = some 1 := by decide +kernel
abbrev wsX8_endX : List Cond := Cond.code yX8_endX cX8_endX 2 (some .int) :: wB
theorem mvX8_endX : Cond.instanceMethod yX8_endX ∈ wB ∧ Cond.selects RX8 yX8_endX yX8_endX ∈ wB ∧ Cond.code yX8_endX cX8_endX 2 (some .int) ∈ wB := ⟨wB_at 489 (by decide +kernel) (by decide +kernel), wB_at 490 (by decide +kernel) (by decide +kernel), wB_at 491 (by decide +kernel) (by decide +kernel)⟩
theorem hdX8_endX : yX8_endX.cls = RX8 ∧ yX8_endX.cls ≠ "java/lang/invoke/MethodHandle" ∧ yX8_endX.cls ≠ "java/lang/invoke/VarHandle" ∧ (parseMethodDescriptor yX8_endX.desc).map (fun d => d.parameters.length) = some 1 := by decide +kernel
abbrev wsX8_endY : List Cond := Cond.code yX8_endY cX8_endY 2 (some .int) :: wB
theorem mvX8_endY : Cond.instanceMethod yX8_endY ∈ wB ∧ Cond.selects RX8 yX8_endY yX8_endY ∈ wB ∧ Cond.code yX8_endY cX8_endY 2 (some .int) ∈ wB := ⟨wB_at 493 (by decide +kernel) (by decide +kernel), wB_at 494 (by decide +kernel) (by decide +kernel), wB_at 495 (by decide +kernel) (by decide +kernel)⟩
theorem hdX8_endY : yX8_endY.cls = RX8 ∧ yX8_endY.cls ≠ "java/lang/invoke/MethodHandle" ∧ yX8_endY.cls ≠ "java/lang/invoke/VarHandle" ∧ (parseMethodDescriptor yX8_endY.desc).map (fun d => d.parameters.length) = some 1 := by decide +kernel
abbrev wsX8_kindOf : List Cond := Cond.code yX8_kindOf cX8_kindOf 2 (some .int) :: wB
theorem mvX8_kindOf : Cond.instanceMethod yX8_kindOf ∈ wB ∧ Cond.selects RX8 yX8_kindOf yX8_kindOf ∈ wB ∧ Cond.code yX8_kindOf cX8_kindOf 2 (some .int) ∈ wB := ⟨wB_at 512 (by decide +kernel) (by decide +kernel), wB_at 513 (by decide +kernel) (by decide +kernel), wB_at 514 (by decide +kernel) (by decide +kernel)⟩
theorem hdX8_kindOf : yX8_kindOf.cls = RX8 ∧ yX8_kindOf.cls ≠ "java/lang/invoke/MethodHandle" ∧ yX8_kindOf.cls ≠ "java/lang/invoke/VarHandle" ∧ (parseMethodDescriptor yX8_kindOf.desc).map (fun d => d.parameters.length) = some 1 := by decide +kernel
abbrev wsX8_splitWeight : List Cond := Cond.code yX8_splitWeight cX8_splitWeight 1 (some .int) :: wB
theorem mvX8_splitWeight : Cond.instanceMethod yX8_splitWeight ∈ wB ∧ Cond.selects RX8 yX8_splitWeight yX8_splitWeight ∈ wB ∧ Cond.code yX8_splitWeight cX8_splitWeight 1 (some .int) ∈ wB := ⟨wB_at 681 (by decide +kernel) (by decide +kernel), wB_at 682 (by decide +kernel) (by decide +kernel), wB_at 683 (by decide +kernel) (by decide +kernel)⟩
theorem hdX8_splitWeight : yX8_splitWeight.cls = RX8 ∧ yX8_splitWeight.cls ≠ "java/lang/invoke/MethodHandle" ∧ yX8_splitWeight.cls ≠ "java/lang/invoke/VarHandle" ∧ (parseMethodDescriptor yX8_splitWeight.desc).map (fun d => d.parameters.length) = some 0 := by decide +kernel
abbrev wsX8_balanceWeight : List Cond := Cond.code yX8_balanceWeight cX8_balanceWeight 1 (some .int) :: wB
theorem mvX8_balanceWeight : Cond.instanceMethod yX8_balanceWeight ∈ wB ∧ Cond.selects RX8 yX8_balanceWeight yX8_balanceWeight ∈ wB ∧ Cond.code yX8_balanceWeight cX8_balanceWeight 1 (some .int) ∈ wB := ⟨wB_at 685 (by decide +kernel) (by decide +kernel), wB_at 686 (by decide +kernel) (by decide +kernel), wB_at 687 (by decide +kernel) (by decide +kernel)⟩
theorem hdX8_balanceWeight : yX8_balanceWeight.cls = RX8 ∧ yX8_balanceWeight.cls ≠ "java/lang/invoke/MethodHandle" ∧ yX8_balanceWeight.cls ≠ "java/lang/invoke/VarHandle" ∧ (parseMethodDescriptor yX8_balanceWeight.desc).map (fun d => d.parameters.length) = some 0 := by decide +kernel
abbrev wsX8_weightCode : List Cond := Cond.code yX8_weightCode cX8_weightCode 1 (some .int) :: wB
theorem mvX8_weightCode : Cond.instanceMethod yX8_weightCode ∈ wB ∧ Cond.selects RX8 yX8_weightCode yX8_weightCode ∈ wB ∧ Cond.code yX8_weightCode cX8_weightCode 1 (some .int) ∈ wB := ⟨wB_at 531 (by decide +kernel) (by decide +kernel), wB_at 532 (by decide +kernel) (by decide +kernel), wB_at 533 (by decide +kernel) (by decide +kernel)⟩
theorem hdX8_weightCode : yX8_weightCode.cls = RX8 ∧ yX8_weightCode.cls ≠ "java/lang/invoke/MethodHandle" ∧ yX8_weightCode.cls ≠ "java/lang/invoke/VarHandle" ∧ (parseMethodDescriptor yX8_weightCode.desc).map (fun d => d.parameters.length) = some 0 := by decide +kernel
abbrev wsX8_wayX : List Cond := Cond.code yX8_wayX cX8_wayX 2 (some .int) :: wB
theorem mvX8_wayX : Cond.instanceMethod yX8_wayX ∈ wB ∧ Cond.selects RX8 yX8_wayX yX8_wayX ∈ wB ∧ Cond.code yX8_wayX cX8_wayX 2 (some .int) ∈ wB := ⟨wB_at 877 (by decide +kernel) (by decide +kernel), wB_at 878 (by decide +kernel) (by decide +kernel), wB_at 879 (by decide +kernel) (by decide +kernel)⟩
theorem hdX8_wayX : yX8_wayX.cls = RX8 ∧ yX8_wayX.cls ≠ "java/lang/invoke/MethodHandle" ∧ yX8_wayX.cls ≠ "java/lang/invoke/VarHandle" ∧ (parseMethodDescriptor yX8_wayX.desc).map (fun d => d.parameters.length) = some 1 := by decide +kernel
abbrev wsX8_wayY : List Cond := Cond.code yX8_wayY cX8_wayY 2 (some .int) :: wB
theorem mvX8_wayY : Cond.instanceMethod yX8_wayY ∈ wB ∧ Cond.selects RX8 yX8_wayY yX8_wayY ∈ wB ∧ Cond.code yX8_wayY cX8_wayY 2 (some .int) ∈ wB := ⟨wB_at 881 (by decide +kernel) (by decide +kernel), wB_at 882 (by decide +kernel) (by decide +kernel), wB_at 883 (by decide +kernel) (by decide +kernel)⟩
theorem hdX8_wayY : yX8_wayY.cls = RX8 ∧ yX8_wayY.cls ≠ "java/lang/invoke/MethodHandle" ∧ yX8_wayY.cls ≠ "java/lang/invoke/VarHandle" ∧ (parseMethodDescriptor yX8_wayY.desc).map (fun d => d.parameters.length) = some 1 := by decide +kernel
abbrev wsX8_squaredLength : List Cond := Cond.code yX8_squaredLength cX8_squaredLength 2 (some .int) :: wB
theorem mvX8_squaredLength : Cond.instanceMethod yX8_squaredLength ∈ wB ∧ Cond.selects RX8 yX8_squaredLength yX8_squaredLength ∈ wB ∧ Cond.code yX8_squaredLength cX8_squaredLength 2 (some .int) ∈ wB := ⟨wB_at 873 (by decide +kernel) (by decide +kernel), wB_at 874 (by decide +kernel) (by decide +kernel), wB_at 875 (by decide +kernel) (by decide +kernel)⟩
theorem hdX8_squaredLength : yX8_squaredLength.cls = RX8 ∧ yX8_squaredLength.cls ≠ "java/lang/invoke/MethodHandle" ∧ yX8_squaredLength.cls ≠ "java/lang/invoke/VarHandle" ∧ (parseMethodDescriptor yX8_squaredLength.desc).map (fun d => d.parameters.length) = some 1 := by decide +kernel
abbrev wsX8_sideValue : List Cond := Cond.code yX8_sideValue cX8_sideValue 4 (some .int) :: wB
theorem mvX8_sideValue : Cond.instanceMethod yX8_sideValue ∈ wB ∧ Cond.selects RX8 yX8_sideValue yX8_sideValue ∈ wB ∧ Cond.code yX8_sideValue cX8_sideValue 4 (some .int) ∈ wB := ⟨wB_at 753 (by decide +kernel) (by decide +kernel), wB_at 754 (by decide +kernel) (by decide +kernel), wB_at 755 (by decide +kernel) (by decide +kernel)⟩
theorem hdX8_sideValue : yX8_sideValue.cls = RX8 ∧ yX8_sideValue.cls ≠ "java/lang/invoke/MethodHandle" ∧ yX8_sideValue.cls ≠ "java/lang/invoke/VarHandle" ∧ (parseMethodDescriptor yX8_sideValue.desc).map (fun d => d.parameters.length) = some 3 := by decide +kernel
abbrev wsX8_isOpaqueFor : List Cond := Cond.code yX8_isOpaqueFor cX8_isOpaqueFor 4 (some .boolean) :: wB
theorem mvX8_isOpaqueFor : Cond.instanceMethod yX8_isOpaqueFor ∈ wB ∧ Cond.selects RX8 yX8_isOpaqueFor yX8_isOpaqueFor ∈ wB ∧ Cond.code yX8_isOpaqueFor cX8_isOpaqueFor 4 (some .boolean) ∈ wB := ⟨wB_at 994 (by decide +kernel) (by decide +kernel), wB_at 995 (by decide +kernel) (by decide +kernel), wB_at 996 (by decide +kernel) (by decide +kernel)⟩
theorem hdX8_isOpaqueFor : yX8_isOpaqueFor.cls = RX8 ∧ yX8_isOpaqueFor.cls ≠ "java/lang/invoke/MethodHandle" ∧ yX8_isOpaqueFor.cls ≠ "java/lang/invoke/VarHandle" ∧ (parseMethodDescriptor yX8_isOpaqueFor.desc).map (fun d => d.parameters.length) = some 3 := by decide +kernel
abbrev wsX8_isDrawnFor : List Cond := Cond.code yX8_isDrawnFor cX8_isDrawnFor 5 (some .boolean) :: wB
theorem mvX8_isDrawnFor : Cond.instanceMethod yX8_isDrawnFor ∈ wB ∧ Cond.selects RX8 yX8_isDrawnFor yX8_isDrawnFor ∈ wB ∧ Cond.code yX8_isDrawnFor cX8_isDrawnFor 5 (some .boolean) ∈ wB := ⟨wB_at 961 (by decide +kernel) (by decide +kernel), wB_at 962 (by decide +kernel) (by decide +kernel), wB_at 963 (by decide +kernel) (by decide +kernel)⟩
theorem hdX8_isDrawnFor : yX8_isDrawnFor.cls = RX8 ∧ yX8_isDrawnFor.cls ≠ "java/lang/invoke/MethodHandle" ∧ yX8_isDrawnFor.cls ≠ "java/lang/invoke/VarHandle" ∧ (parseMethodDescriptor yX8_isDrawnFor.desc).map (fun d => d.parameters.length) = some 3 := by decide +kernel
abbrev wsX8_put : List Cond := Cond.code yX8_put cX8_put 8 none :: wB
theorem mvX8_put : Cond.instanceMethod yX8_put ∈ wB ∧ Cond.selects RX8 yX8_put yX8_put ∈ wB ∧ Cond.code yX8_put cX8_put 8 none ∈ wB := ⟨wB_at 457 (by decide +kernel) (by decide +kernel), wB_at 458 (by decide +kernel) (by decide +kernel), wB_at 459 (by decide +kernel) (by decide +kernel)⟩
theorem hdX8_put : yX8_put.cls = RX8 ∧ yX8_put.cls ≠ "java/lang/invoke/MethodHandle" ∧ yX8_put.cls ≠ "java/lang/invoke/VarHandle" ∧ (parseMethodDescriptor yX8_put.desc).map (fun d => d.parameters.length) = some 7 := by decide +kernel
abbrev wsX8_drop : List Cond := Cond.code yX8_drop cX8_drop 2 none :: wB
theorem mvX8_drop : Cond.instanceMethod yX8_drop ∈ wB ∧ Cond.selects RX8 yX8_drop yX8_drop ∈ wB ∧ Cond.code yX8_drop cX8_drop 2 none ∈ wB := ⟨wB_at 469 (by decide +kernel) (by decide +kernel), wB_at 470 (by decide +kernel) (by decide +kernel), wB_at 471 (by decide +kernel) (by decide +kernel)⟩
theorem hdX8_drop : yX8_drop.cls = RX8 ∧ yX8_drop.cls ≠ "java/lang/invoke/MethodHandle" ∧ yX8_drop.cls ≠ "java/lang/invoke/VarHandle" ∧ (parseMethodDescriptor yX8_drop.desc).map (fun d => d.parameters.length) = some 1 := by decide +kernel
abbrev wsX8_dropAll : List Cond := Cond.code yX8_dropAll cX8_dropAll 2 none :: wB
theorem mvX8_dropAll : Cond.instanceMethod yX8_dropAll ∈ wB ∧ Cond.selects RX8 yX8_dropAll yX8_dropAll ∈ wB ∧ Cond.code yX8_dropAll cX8_dropAll 2 none ∈ wB := ⟨wB_at 604 (by decide +kernel) (by decide +kernel), wB_at 605 (by decide +kernel) (by decide +kernel), wB_at 606 (by decide +kernel) (by decide +kernel)⟩
theorem hdX8_dropAll : yX8_dropAll.cls = RX8 ∧ yX8_dropAll.cls ≠ "java/lang/invoke/MethodHandle" ∧ yX8_dropAll.cls ≠ "java/lang/invoke/VarHandle" ∧ (parseMethodDescriptor yX8_dropAll.desc).map (fun d => d.parameters.length) = some 0 := by decide +kernel
abbrev wsX8_shift : List Cond := Cond.code yX8_shift cX8_shift 4 none :: wB
theorem mvX8_shift : Cond.instanceMethod yX8_shift ∈ wB ∧ Cond.selects RX8 yX8_shift yX8_shift ∈ wB ∧ Cond.code yX8_shift cX8_shift 4 none ∈ wB := ⟨wB_at 500 (by decide +kernel) (by decide +kernel), wB_at 501 (by decide +kernel) (by decide +kernel), wB_at 502 (by decide +kernel) (by decide +kernel)⟩
theorem hdX8_shift : yX8_shift.cls = RX8 ∧ yX8_shift.cls ≠ "java/lang/invoke/MethodHandle" ∧ yX8_shift.cls ≠ "java/lang/invoke/VarHandle" ∧ (parseMethodDescriptor yX8_shift.desc).map (fun d => d.parameters.length) = some 3 := by decide +kernel
abbrev wsX8_turn : List Cond := Cond.code yX8_turn cX8_turn 4 none :: wB
theorem mvX8_turn : Cond.instanceMethod yX8_turn ∈ wB ∧ Cond.selects RX8 yX8_turn yX8_turn ∈ wB ∧ Cond.code yX8_turn cX8_turn 4 none ∈ wB := ⟨wB_at 508 (by decide +kernel) (by decide +kernel), wB_at 509 (by decide +kernel) (by decide +kernel), wB_at 510 (by decide +kernel) (by decide +kernel)⟩
theorem hdX8_turn : yX8_turn.cls = RX8 ∧ yX8_turn.cls ≠ "java/lang/invoke/MethodHandle" ∧ yX8_turn.cls ≠ "java/lang/invoke/VarHandle" ∧ (parseMethodDescriptor yX8_turn.desc).map (fun d => d.parameters.length) = some 1 := by decide +kernel
abbrev wsX8_changeKind : List Cond := Cond.code yX8_changeKind cX8_changeKind 3 none :: wB
theorem mvX8_changeKind : Cond.instanceMethod yX8_changeKind ∈ wB ∧ Cond.selects RX8 yX8_changeKind yX8_changeKind ∈ wB ∧ Cond.code yX8_changeKind cX8_changeKind 3 none ∈ wB := ⟨wB_at 520 (by decide +kernel) (by decide +kernel), wB_at 521 (by decide +kernel) (by decide +kernel), wB_at 522 (by decide +kernel) (by decide +kernel)⟩
theorem hdX8_changeKind : yX8_changeKind.cls = RX8 ∧ yX8_changeKind.cls ≠ "java/lang/invoke/MethodHandle" ∧ yX8_changeKind.cls ≠ "java/lang/invoke/VarHandle" ∧ (parseMethodDescriptor yX8_changeKind.desc).map (fun d => d.parameters.length) = some 2 := by decide +kernel
abbrev wsX8_changeWeights : List Cond := Cond.code yX8_changeWeights cX8_changeWeights 3 none :: wB
theorem mvX8_changeWeights : Cond.instanceMethod yX8_changeWeights ∈ wB ∧ Cond.selects RX8 yX8_changeWeights yX8_changeWeights ∈ wB ∧ Cond.code yX8_changeWeights cX8_changeWeights 3 none ∈ wB := ⟨wB_at 453 (by decide +kernel) (by decide +kernel), wB_at 454 (by decide +kernel) (by decide +kernel), wB_at 455 (by decide +kernel) (by decide +kernel)⟩
theorem hdX8_changeWeights : yX8_changeWeights.cls = RX8 ∧ yX8_changeWeights.cls ≠ "java/lang/invoke/MethodHandle" ∧ yX8_changeWeights.cls ≠ "java/lang/invoke/VarHandle" ∧ (parseMethodDescriptor yX8_changeWeights.desc).map (fun d => d.parameters.length) = some 2 := by decide +kernel
abbrev wsX8_copyWalls : List Cond := Cond.code yX8_copyWalls cX8_copyWalls 3 none :: wB
theorem mvX8_copyWalls : Cond.instanceMethod yX8_copyWalls ∈ wB ∧ Cond.selects RX8 yX8_copyWalls yX8_copyWalls ∈ wB ∧ Cond.code yX8_copyWalls cX8_copyWalls 3 none ∈ wB := ⟨wB_at 449 (by decide +kernel) (by decide +kernel), wB_at 450 (by decide +kernel) (by decide +kernel), wB_at 451 (by decide +kernel) (by decide +kernel)⟩
theorem hdX8_copyWalls : yX8_copyWalls.cls = RX8 ∧ yX8_copyWalls.cls ≠ "java/lang/invoke/MethodHandle" ∧ yX8_copyWalls.cls ≠ "java/lang/invoke/VarHandle" ∧ (parseMethodDescriptor yX8_copyWalls.desc).map (fun d => d.parameters.length) = some 1 := by decide +kernel
abbrev wsX8_copyFrom : List Cond := Cond.code yX8_copyFrom cX8_copyFrom 2 none :: wB
theorem mvX8_copyFrom : Cond.instanceMethod yX8_copyFrom ∈ wB ∧ Cond.selects RX8 yX8_copyFrom yX8_copyFrom ∈ wB ∧ Cond.code yX8_copyFrom cX8_copyFrom 2 none ∈ wB := ⟨wB_at 445 (by decide +kernel) (by decide +kernel), wB_at 446 (by decide +kernel) (by decide +kernel), wB_at 447 (by decide +kernel) (by decide +kernel)⟩
theorem hdX8_copyFrom : yX8_copyFrom.cls = RX8 ∧ yX8_copyFrom.cls ≠ "java/lang/invoke/MethodHandle" ∧ yX8_copyFrom.cls ≠ "java/lang/invoke/VarHandle" ∧ (parseMethodDescriptor yX8_copyFrom.desc).map (fun d => d.parameters.length) = some 1 := by decide +kernel
abbrev wsX8_hasSameFixedPart : List Cond := Cond.code yX8_hasSameFixedPart cX8_hasSameFixedPart 3 (some .boolean) :: wB
theorem mvX8_hasSameFixedPart : Cond.instanceMethod yX8_hasSameFixedPart ∈ wB ∧ Cond.selects RX8 yX8_hasSameFixedPart yX8_hasSameFixedPart ∈ wB ∧ Cond.code yX8_hasSameFixedPart cX8_hasSameFixedPart 3 (some .boolean) ∈ wB := ⟨wB_at 664 (by decide +kernel) (by decide +kernel), wB_at 665 (by decide +kernel) (by decide +kernel), wB_at 666 (by decide +kernel) (by decide +kernel)⟩
theorem hdX8_hasSameFixedPart : yX8_hasSameFixedPart.cls = RX8 ∧ yX8_hasSameFixedPart.cls ≠ "java/lang/invoke/MethodHandle" ∧ yX8_hasSameFixedPart.cls ≠ "java/lang/invoke/VarHandle" ∧ (parseMethodDescriptor yX8_hasSameFixedPart.desc).map (fun d => d.parameters.length) = some 1 := by decide +kernel
abbrev wsX8_hasSamePoints : List Cond := Cond.code yX8_hasSamePoints cX8_hasSamePoints 3 (some .boolean) :: wB
theorem mvX8_hasSamePoints : Cond.instanceMethod yX8_hasSamePoints ∈ wB ∧ Cond.selects RX8 yX8_hasSamePoints yX8_hasSamePoints ∈ wB ∧ Cond.code yX8_hasSamePoints cX8_hasSamePoints 3 (some .boolean) ∈ wB := ⟨wB_at 673 (by decide +kernel) (by decide +kernel), wB_at 7 (by decide +kernel) (by decide +kernel), wB_at 674 (by decide +kernel) (by decide +kernel)⟩
theorem hdX8_hasSamePoints : yX8_hasSamePoints.cls = RX8 ∧ yX8_hasSamePoints.cls ≠ "java/lang/invoke/MethodHandle" ∧ yX8_hasSamePoints.cls ≠ "java/lang/invoke/VarHandle" ∧ (parseMethodDescriptor yX8_hasSamePoints.desc).map (fun d => d.parameters.length) = some 2 := by decide +kernel
abbrev wsX9_init : List Cond := Cond.code yX9_init cX9_init 1 none :: wB
theorem mvX9_init : Cond.instanceMethod yX9_init ∈ wB ∧ Cond.code yX9_init cX9_init 1 none ∈ wB := ⟨wB_at 96 (by decide +kernel) (by decide +kernel), wB_at 97 (by decide +kernel) (by decide +kernel)⟩
theorem hdX9_init : yX9_init.cls ≠ "java/lang/invoke/MethodHandle" ∧ yX9_init.cls ≠ "java/lang/invoke/VarHandle" ∧ (parseMethodDescriptor yX9_init.desc).map (fun d => d.parameters.length) = some 0 := by decide +kernel
abbrev wsX9_addWall : List Cond := Cond.code yX9_addWall cX9_addWall 8 (some .int) :: wB
theorem mvX9_addWall : Cond.instanceMethod yX9_addWall ∈ wB ∧ Cond.selects RX9 yX9_addWall yX9_addWall ∈ wB ∧ Cond.code yX9_addWall cX9_addWall 8 (some .int) ∈ wB := ⟨wB_at 419 (by decide +kernel) (by decide +kernel), wB_at 420 (by decide +kernel) (by decide +kernel), wB_at 421 (by decide +kernel) (by decide +kernel)⟩
theorem hdX9_addWall : yX9_addWall.cls = RX9 ∧ yX9_addWall.cls ≠ "java/lang/invoke/MethodHandle" ∧ yX9_addWall.cls ≠ "java/lang/invoke/VarHandle" ∧ (parseMethodDescriptor yX9_addWall.desc).map (fun d => d.parameters.length) = some 6 := by decide +kernel
abbrev wsX9_removeWall : List Cond := Cond.code yX9_removeWall cX9_removeWall 2 (some .int) :: wB
theorem mvX9_removeWall : Cond.instanceMethod yX9_removeWall ∈ wB ∧ Cond.selects RX9 yX9_removeWall yX9_removeWall ∈ wB ∧ Cond.code yX9_removeWall cX9_removeWall 2 (some .int) ∈ wB := ⟨wB_at 461 (by decide +kernel) (by decide +kernel), wB_at 462 (by decide +kernel) (by decide +kernel), wB_at 463 (by decide +kernel) (by decide +kernel)⟩
theorem hdX9_removeWall : yX9_removeWall.cls = RX9 ∧ yX9_removeWall.cls ≠ "java/lang/invoke/MethodHandle" ∧ yX9_removeWall.cls ≠ "java/lang/invoke/VarHandle" ∧ (parseMethodDescriptor yX9_removeWall.desc).map (fun d => d.parameters.length) = some 1 := by decide +kernel
abbrev wsX9_moveWall : List Cond := Cond.code yX9_moveWall cX9_moveWall 5 (some .int) :: wB
theorem mvX9_moveWall : Cond.instanceMethod yX9_moveWall ∈ wB ∧ Cond.selects RX9 yX9_moveWall yX9_moveWall ∈ wB ∧ Cond.code yX9_moveWall cX9_moveWall 5 (some .int) ∈ wB := ⟨wB_at 477 (by decide +kernel) (by decide +kernel), wB_at 478 (by decide +kernel) (by decide +kernel), wB_at 479 (by decide +kernel) (by decide +kernel)⟩
theorem hdX9_moveWall : yX9_moveWall.cls = RX9 ∧ yX9_moveWall.cls ≠ "java/lang/invoke/MethodHandle" ∧ yX9_moveWall.cls ≠ "java/lang/invoke/VarHandle" ∧ (parseMethodDescriptor yX9_moveWall.desc).map (fun d => d.parameters.length) = some 3 := by decide +kernel
abbrev wsX9_turnWall : List Cond := Cond.code yX9_turnWall cX9_turnWall 2 (some .int) :: wB
theorem mvX9_turnWall : Cond.instanceMethod yX9_turnWall ∈ wB ∧ Cond.selects RX9 yX9_turnWall yX9_turnWall ∈ wB ∧ Cond.code yX9_turnWall cX9_turnWall 2 (some .int) ∈ wB := ⟨wB_at 504 (by decide +kernel) (by decide +kernel), wB_at 505 (by decide +kernel) (by decide +kernel), wB_at 506 (by decide +kernel) (by decide +kernel)⟩
theorem hdX9_turnWall : yX9_turnWall.cls = RX9 ∧ yX9_turnWall.cls ≠ "java/lang/invoke/MethodHandle" ∧ yX9_turnWall.cls ≠ "java/lang/invoke/VarHandle" ∧ (parseMethodDescriptor yX9_turnWall.desc).map (fun d => d.parameters.length) = some 1 := by decide +kernel
abbrev wsX9_setKind : List Cond := Cond.code yX9_setKind cX9_setKind 4 (some .int) :: wB
theorem mvX9_setKind : Cond.instanceMethod yX9_setKind ∈ wB ∧ Cond.selects RX9 yX9_setKind yX9_setKind ∈ wB ∧ Cond.code yX9_setKind cX9_setKind 4 (some .int) ∈ wB := ⟨wB_at 516 (by decide +kernel) (by decide +kernel), wB_at 517 (by decide +kernel) (by decide +kernel), wB_at 518 (by decide +kernel) (by decide +kernel)⟩
theorem hdX9_setKind : yX9_setKind.cls = RX9 ∧ yX9_setKind.cls ≠ "java/lang/invoke/MethodHandle" ∧ yX9_setKind.cls ≠ "java/lang/invoke/VarHandle" ∧ (parseMethodDescriptor yX9_setKind.desc).map (fun d => d.parameters.length) = some 2 := by decide +kernel
abbrev wsX9_setWeights : List Cond := Cond.code yX9_setWeights cX9_setWeights 4 (some .int) :: wB
theorem mvX9_setWeights : Cond.instanceMethod yX9_setWeights ∈ wB ∧ Cond.selects RX9 yX9_setWeights yX9_setWeights ∈ wB ∧ Cond.code yX9_setWeights cX9_setWeights 4 (some .int) ∈ wB := ⟨wB_at 524 (by decide +kernel) (by decide +kernel), wB_at 525 (by decide +kernel) (by decide +kernel), wB_at 526 (by decide +kernel) (by decide +kernel)⟩
theorem hdX9_setWeights : yX9_setWeights.cls = RX9 ∧ yX9_setWeights.cls ≠ "java/lang/invoke/MethodHandle" ∧ yX9_setWeights.cls ≠ "java/lang/invoke/VarHandle" ∧ (parseMethodDescriptor yX9_setWeights.desc).map (fun d => d.parameters.length) = some 2 := by decide +kernel
abbrev wsX9_undo : List Cond := Cond.code yX9_undo cX9_undo 1 (some .int) :: wB
theorem mvX9_undo : Cond.instanceMethod yX9_undo ∈ wB ∧ Cond.selects RX9 yX9_undo yX9_undo ∈ wB ∧ Cond.code yX9_undo cX9_undo 1 (some .int) ∈ wB := ⟨wB_at 536 (by decide +kernel) (by decide +kernel), wB_at 537 (by decide +kernel) (by decide +kernel), wB_at 538 (by decide +kernel) (by decide +kernel)⟩
theorem hdX9_undo : yX9_undo.cls = RX9 ∧ yX9_undo.cls ≠ "java/lang/invoke/MethodHandle" ∧ yX9_undo.cls ≠ "java/lang/invoke/VarHandle" ∧ (parseMethodDescriptor yX9_undo.desc).map (fun d => d.parameters.length) = some 0 := by decide +kernel
abbrev wsX9_wallCount : List Cond := Cond.code yX9_wallCount cX9_wallCount 1 (some .int) :: wB
theorem mvX9_wallCount : Cond.instanceMethod yX9_wallCount ∈ wB ∧ Cond.selects RX9 yX9_wallCount yX9_wallCount ∈ wB ∧ Cond.code yX9_wallCount cX9_wallCount 1 (some .int) ∈ wB := ⟨wB_at 552 (by decide +kernel) (by decide +kernel), wB_at 553 (by decide +kernel) (by decide +kernel), wB_at 554 (by decide +kernel) (by decide +kernel)⟩
theorem hdX9_wallCount : yX9_wallCount.cls = RX9 ∧ yX9_wallCount.cls ≠ "java/lang/invoke/MethodHandle" ∧ yX9_wallCount.cls ≠ "java/lang/invoke/VarHandle" ∧ (parseMethodDescriptor yX9_wallCount.desc).map (fun d => d.parameters.length) = some 0 := by decide +kernel
abbrev wsX9_coordinate : List Cond := Cond.code yX9_coordinate cX9_coordinate 3 (some .int) :: wB
theorem mvX9_coordinate : Cond.instanceMethod yX9_coordinate ∈ wB ∧ Cond.selects RX9 yX9_coordinate yX9_coordinate ∈ wB ∧ Cond.code yX9_coordinate cX9_coordinate 3 (some .int) ∈ wB := ⟨wB_at 556 (by decide +kernel) (by decide +kernel), wB_at 557 (by decide +kernel) (by decide +kernel), wB_at 558 (by decide +kernel) (by decide +kernel)⟩
theorem hdX9_coordinate : yX9_coordinate.cls = RX9 ∧ yX9_coordinate.cls ≠ "java/lang/invoke/MethodHandle" ∧ yX9_coordinate.cls ≠ "java/lang/invoke/VarHandle" ∧ (parseMethodDescriptor yX9_coordinate.desc).map (fun d => d.parameters.length) = some 2 := by decide +kernel
abbrev wsX9_kind : List Cond := Cond.code yX9_kind cX9_kind 2 (some .int) :: wB
theorem mvX9_kind : Cond.instanceMethod yX9_kind ∈ wB ∧ Cond.selects RX9 yX9_kind yX9_kind ∈ wB ∧ Cond.code yX9_kind cX9_kind 2 (some .int) ∈ wB := ⟨wB_at 560 (by decide +kernel) (by decide +kernel), wB_at 561 (by decide +kernel) (by decide +kernel), wB_at 562 (by decide +kernel) (by decide +kernel)⟩
theorem hdX9_kind : yX9_kind.cls = RX9 ∧ yX9_kind.cls ≠ "java/lang/invoke/MethodHandle" ∧ yX9_kind.cls ≠ "java/lang/invoke/VarHandle" ∧ (parseMethodDescriptor yX9_kind.desc).map (fun d => d.parameters.length) = some 1 := by decide +kernel
abbrev wsX9_weights : List Cond := Cond.code yX9_weights cX9_weights 1 (some .int) :: wB
theorem mvX9_weights : Cond.instanceMethod yX9_weights ∈ wB ∧ Cond.selects RX9 yX9_weights yX9_weights ∈ wB ∧ Cond.code yX9_weights cX9_weights 1 (some .int) ∈ wB := ⟨wB_at 568 (by decide +kernel) (by decide +kernel), wB_at 569 (by decide +kernel) (by decide +kernel), wB_at 570 (by decide +kernel) (by decide +kernel)⟩
theorem hdX9_weights : yX9_weights.cls = RX9 ∧ yX9_weights.cls ≠ "java/lang/invoke/MethodHandle" ∧ yX9_weights.cls ≠ "java/lang/invoke/VarHandle" ∧ (parseMethodDescriptor yX9_weights.desc).map (fun d => d.parameters.length) = some 0 := by decide +kernel
abbrev wsX9_appendText : List Cond := Cond.code yX9_appendText cX9_appendText 2 (some .int) :: wB
theorem mvX9_appendText : Cond.instanceMethod yX9_appendText ∈ wB ∧ Cond.selects RX9 yX9_appendText yX9_appendText ∈ wB ∧ Cond.code yX9_appendText cX9_appendText 2 (some .int) ∈ wB := ⟨wB_at 572 (by decide +kernel) (by decide +kernel), wB_at 573 (by decide +kernel) (by decide +kernel), wB_at 574 (by decide +kernel) (by decide +kernel)⟩
theorem hdX9_appendText : yX9_appendText.cls = RX9 ∧ yX9_appendText.cls ≠ "java/lang/invoke/MethodHandle" ∧ yX9_appendText.cls ≠ "java/lang/invoke/VarHandle" ∧ (parseMethodDescriptor yX9_appendText.desc).map (fun d => d.parameters.length) = some 1 := by decide +kernel
abbrev wsX9_clearText : List Cond := Cond.code yX9_clearText cX9_clearText 2 (some .int) :: wB
theorem mvX9_clearText : Cond.instanceMethod yX9_clearText ∈ wB ∧ Cond.selects RX9 yX9_clearText yX9_clearText ∈ wB ∧ Cond.code yX9_clearText cX9_clearText 2 (some .int) ∈ wB := ⟨wB_at 588 (by decide +kernel) (by decide +kernel), wB_at 589 (by decide +kernel) (by decide +kernel), wB_at 590 (by decide +kernel) (by decide +kernel)⟩
theorem hdX9_clearText : yX9_clearText.cls = RX9 ∧ yX9_clearText.cls ≠ "java/lang/invoke/MethodHandle" ∧ yX9_clearText.cls ≠ "java/lang/invoke/VarHandle" ∧ (parseMethodDescriptor yX9_clearText.desc).map (fun d => d.parameters.length) = some 0 := by decide +kernel
abbrev wsX9_load : List Cond := Cond.code yX9_load cX9_load 1 (some .int) :: wB
theorem mvX9_load : Cond.instanceMethod yX9_load ∈ wB ∧ Cond.selects RX9 yX9_load yX9_load ∈ wB ∧ Cond.code yX9_load cX9_load 1 (some .int) ∈ wB := ⟨wB_at 596 (by decide +kernel) (by decide +kernel), wB_at 597 (by decide +kernel) (by decide +kernel), wB_at 598 (by decide +kernel) (by decide +kernel)⟩
theorem hdX9_load : yX9_load.cls = RX9 ∧ yX9_load.cls ≠ "java/lang/invoke/MethodHandle" ∧ yX9_load.cls ≠ "java/lang/invoke/VarHandle" ∧ (parseMethodDescriptor yX9_load.desc).map (fun d => d.parameters.length) = some 0 := by decide +kernel
abbrev wsX9_faultPlace : List Cond := Cond.code yX9_faultPlace cX9_faultPlace 1 (some .int) :: wB
theorem mvX9_faultPlace : Cond.instanceMethod yX9_faultPlace ∈ wB ∧ Cond.selects RX9 yX9_faultPlace yX9_faultPlace ∈ wB ∧ Cond.code yX9_faultPlace cX9_faultPlace 1 (some .int) ∈ wB := ⟨wB_at 632 (by decide +kernel) (by decide +kernel), wB_at 633 (by decide +kernel) (by decide +kernel), wB_at 634 (by decide +kernel) (by decide +kernel)⟩
theorem hdX9_faultPlace : yX9_faultPlace.cls = RX9 ∧ yX9_faultPlace.cls ≠ "java/lang/invoke/MethodHandle" ∧ yX9_faultPlace.cls ≠ "java/lang/invoke/VarHandle" ∧ (parseMethodDescriptor yX9_faultPlace.desc).map (fun d => d.parameters.length) = some 0 := by decide +kernel
abbrev wsX9_faultKind : List Cond := Cond.code yX9_faultKind cX9_faultKind 1 (some .int) :: wB
theorem mvX9_faultKind : Cond.instanceMethod yX9_faultKind ∈ wB ∧ Cond.selects RX9 yX9_faultKind yX9_faultKind ∈ wB ∧ Cond.code yX9_faultKind cX9_faultKind 1 (some .int) ∈ wB := ⟨wB_at 640 (by decide +kernel) (by decide +kernel), wB_at 641 (by decide +kernel) (by decide +kernel), wB_at 642 (by decide +kernel) (by decide +kernel)⟩
theorem hdX9_faultKind : yX9_faultKind.cls = RX9 ∧ yX9_faultKind.cls ≠ "java/lang/invoke/MethodHandle" ∧ yX9_faultKind.cls ≠ "java/lang/invoke/VarHandle" ∧ (parseMethodDescriptor yX9_faultKind.desc).map (fun d => d.parameters.length) = some 0 := by decide +kernel
abbrev wsX9_faultItem : List Cond := Cond.code yX9_faultItem cX9_faultItem 1 (some .int) :: wB
theorem mvX9_faultItem : Cond.instanceMethod yX9_faultItem ∈ wB ∧ Cond.selects RX9 yX9_faultItem yX9_faultItem ∈ wB ∧ Cond.code yX9_faultItem cX9_faultItem 1 (some .int) ∈ wB := ⟨wB_at 648 (by decide +kernel) (by decide +kernel), wB_at 649 (by decide +kernel) (by decide +kernel), wB_at 650 (by decide +kernel) (by decide +kernel)⟩
theorem hdX9_faultItem : yX9_faultItem.cls = RX9 ∧ yX9_faultItem.cls ≠ "java/lang/invoke/MethodHandle" ∧ yX9_faultItem.cls ≠ "java/lang/invoke/VarHandle" ∧ (parseMethodDescriptor yX9_faultItem.desc).map (fun d => d.parameters.length) = some 0 := by decide +kernel
abbrev wsX9_nodeCount : List Cond := Cond.code yX9_nodeCount cX9_nodeCount 1 (some .int) :: wB
theorem mvX9_nodeCount : Cond.instanceMethod yX9_nodeCount ∈ wB ∧ Cond.selects RX9 yX9_nodeCount yX9_nodeCount ∈ wB ∧ Cond.code yX9_nodeCount cX9_nodeCount 1 (some .int) ∈ wB := ⟨wB_at 656 (by decide +kernel) (by decide +kernel), wB_at 657 (by decide +kernel) (by decide +kernel), wB_at 658 (by decide +kernel) (by decide +kernel)⟩
theorem hdX9_nodeCount : yX9_nodeCount.cls = RX9 ∧ yX9_nodeCount.cls ≠ "java/lang/invoke/MethodHandle" ∧ yX9_nodeCount.cls ≠ "java/lang/invoke/VarHandle" ∧ (parseMethodDescriptor yX9_nodeCount.desc).map (fun d => d.parameters.length) = some 0 := by decide +kernel
abbrev wsX9_nodeWall : List Cond := Cond.code yX9_nodeWall cX9_nodeWall 2 (some .int) :: wB
theorem mvX9_nodeWall : Cond.instanceMethod yX9_nodeWall ∈ wB ∧ Cond.selects RX9 yX9_nodeWall yX9_nodeWall ∈ wB ∧ Cond.code yX9_nodeWall cX9_nodeWall 2 (some .int) ∈ wB := ⟨wB_at 795 (by decide +kernel) (by decide +kernel), wB_at 796 (by decide +kernel) (by decide +kernel), wB_at 797 (by decide +kernel) (by decide +kernel)⟩
theorem hdX9_nodeWall : yX9_nodeWall.cls = RX9 ∧ yX9_nodeWall.cls ≠ "java/lang/invoke/MethodHandle" ∧ yX9_nodeWall.cls ≠ "java/lang/invoke/VarHandle" ∧ (parseMethodDescriptor yX9_nodeWall.desc).map (fun d => d.parameters.length) = some 1 := by decide +kernel
abbrev wsX9_nodeChild : List Cond := Cond.code yX9_nodeChild cX9_nodeChild 4 (some .int) :: wB
theorem mvX9_nodeChild : Cond.instanceMethod yX9_nodeChild ∈ wB ∧ Cond.selects RX9 yX9_nodeChild yX9_nodeChild ∈ wB ∧ Cond.code yX9_nodeChild cX9_nodeChild 4 (some .int) ∈ wB := ⟨wB_at 804 (by decide +kernel) (by decide +kernel), wB_at 805 (by decide +kernel) (by decide +kernel), wB_at 806 (by decide +kernel) (by decide +kernel)⟩
theorem hdX9_nodeChild : yX9_nodeChild.cls = RX9 ∧ yX9_nodeChild.cls ≠ "java/lang/invoke/MethodHandle" ∧ yX9_nodeChild.cls ≠ "java/lang/invoke/VarHandle" ∧ (parseMethodDescriptor yX9_nodeChild.desc).map (fun d => d.parameters.length) = some 2 := by decide +kernel
abbrev wsX9_nodeDepth : List Cond := Cond.code yX9_nodeDepth cX9_nodeDepth 2 (some .int) :: wB
theorem mvX9_nodeDepth : Cond.instanceMethod yX9_nodeDepth ∈ wB ∧ Cond.selects RX9 yX9_nodeDepth yX9_nodeDepth ∈ wB ∧ Cond.code yX9_nodeDepth cX9_nodeDepth 2 (some .int) ∈ wB := ⟨wB_at 816 (by decide +kernel) (by decide +kernel), wB_at 817 (by decide +kernel) (by decide +kernel), wB_at 818 (by decide +kernel) (by decide +kernel)⟩
theorem hdX9_nodeDepth : yX9_nodeDepth.cls = RX9 ∧ yX9_nodeDepth.cls ≠ "java/lang/invoke/MethodHandle" ∧ yX9_nodeDepth.cls ≠ "java/lang/invoke/VarHandle" ∧ (parseMethodDescriptor yX9_nodeDepth.desc).map (fun d => d.parameters.length) = some 1 := by decide +kernel
abbrev wsX9_pieceCount : List Cond := Cond.code yX9_pieceCount cX9_pieceCount 1 (some .int) :: wB
theorem mvX9_pieceCount : Cond.instanceMethod yX9_pieceCount ∈ wB ∧ Cond.selects RX9 yX9_pieceCount yX9_pieceCount ∈ wB ∧ Cond.code yX9_pieceCount cX9_pieceCount 1 (some .int) ∈ wB := ⟨wB_at 824 (by decide +kernel) (by decide +kernel), wB_at 825 (by decide +kernel) (by decide +kernel), wB_at 826 (by decide +kernel) (by decide +kernel)⟩
theorem hdX9_pieceCount : yX9_pieceCount.cls = RX9 ∧ yX9_pieceCount.cls ≠ "java/lang/invoke/MethodHandle" ∧ yX9_pieceCount.cls ≠ "java/lang/invoke/VarHandle" ∧ (parseMethodDescriptor yX9_pieceCount.desc).map (fun d => d.parameters.length) = some 0 := by decide +kernel
abbrev wsX9_pieceWall : List Cond := Cond.code yX9_pieceWall cX9_pieceWall 2 (some .int) :: wB
theorem mvX9_pieceWall : Cond.instanceMethod yX9_pieceWall ∈ wB ∧ Cond.selects RX9 yX9_pieceWall yX9_pieceWall ∈ wB ∧ Cond.code yX9_pieceWall cX9_pieceWall 2 (some .int) ∈ wB := ⟨wB_at 832 (by decide +kernel) (by decide +kernel), wB_at 833 (by decide +kernel) (by decide +kernel), wB_at 834 (by decide +kernel) (by decide +kernel)⟩
theorem hdX9_pieceWall : yX9_pieceWall.cls = RX9 ∧ yX9_pieceWall.cls ≠ "java/lang/invoke/MethodHandle" ∧ yX9_pieceWall.cls ≠ "java/lang/invoke/VarHandle" ∧ (parseMethodDescriptor yX9_pieceWall.desc).map (fun d => d.parameters.length) = some 1 := by decide +kernel
abbrev wsX9_pieceNode : List Cond := Cond.code yX9_pieceNode cX9_pieceNode 2 (some .int) :: wB
theorem mvX9_pieceNode : Cond.instanceMethod yX9_pieceNode ∈ wB ∧ Cond.selects RX9 yX9_pieceNode yX9_pieceNode ∈ wB ∧ Cond.code yX9_pieceNode cX9_pieceNode 2 (some .int) ∈ wB := ⟨wB_at 845 (by decide +kernel) (by decide +kernel), wB_at 846 (by decide +kernel) (by decide +kernel), wB_at 847 (by decide +kernel) (by decide +kernel)⟩
theorem hdX9_pieceNode : yX9_pieceNode.cls = RX9 ∧ yX9_pieceNode.cls ≠ "java/lang/invoke/MethodHandle" ∧ yX9_pieceNode.cls ≠ "java/lang/invoke/VarHandle" ∧ (parseMethodDescriptor yX9_pieceNode.desc).map (fun d => d.parameters.length) = some 1 := by decide +kernel
abbrev wsX9_pieceBound : List Cond := Cond.code yX9_pieceBound cX9_pieceBound 3 (some .int) :: wB
theorem mvX9_pieceBound : Cond.instanceMethod yX9_pieceBound ∈ wB ∧ Cond.selects RX9 yX9_pieceBound yX9_pieceBound ∈ wB ∧ Cond.code yX9_pieceBound cX9_pieceBound 3 (some .int) ∈ wB := ⟨wB_at 853 (by decide +kernel) (by decide +kernel), wB_at 854 (by decide +kernel) (by decide +kernel), wB_at 855 (by decide +kernel) (by decide +kernel)⟩
theorem hdX9_pieceBound : yX9_pieceBound.cls = RX9 ∧ yX9_pieceBound.cls ≠ "java/lang/invoke/MethodHandle" ∧ yX9_pieceBound.cls ≠ "java/lang/invoke/VarHandle" ∧ (parseMethodDescriptor yX9_pieceBound.desc).map (fun d => d.parameters.length) = some 2 := by decide +kernel
abbrev wsX9_pieceLength : List Cond := Cond.code yX9_pieceLength cX9_pieceLength 6 (some .double) :: wB
theorem mvX9_pieceLength : Cond.instanceMethod yX9_pieceLength ∈ wB ∧ Cond.selects RX9 yX9_pieceLength yX9_pieceLength ∈ wB ∧ Cond.code yX9_pieceLength cX9_pieceLength 6 (some .double) ∈ wB := ⟨wB_at 865 (by decide +kernel) (by decide +kernel), wB_at 866 (by decide +kernel) (by decide +kernel), wB_at 867 (by decide +kernel) (by decide +kernel)⟩
theorem hdX9_pieceLength : yX9_pieceLength.cls = RX9 ∧ yX9_pieceLength.cls ≠ "java/lang/invoke/MethodHandle" ∧ yX9_pieceLength.cls ≠ "java/lang/invoke/VarHandle" ∧ (parseMethodDescriptor yX9_pieceLength.desc).map (fun d => d.parameters.length) = some 1 := by decide +kernel
abbrev wsX9_locate : List Cond := Cond.code yX9_locate cX9_locate 3 (some .int) :: wB
theorem mvX9_locate : Cond.instanceMethod yX9_locate ∈ wB ∧ Cond.selects RX9 yX9_locate yX9_locate ∈ wB ∧ Cond.code yX9_locate cX9_locate 3 (some .int) ∈ wB := ⟨wB_at 892 (by decide +kernel) (by decide +kernel), wB_at 893 (by decide +kernel) (by decide +kernel), wB_at 894 (by decide +kernel) (by decide +kernel)⟩
theorem hdX9_locate : yX9_locate.cls = RX9 ∧ yX9_locate.cls ≠ "java/lang/invoke/MethodHandle" ∧ yX9_locate.cls ≠ "java/lang/invoke/VarHandle" ∧ (parseMethodDescriptor yX9_locate.desc).map (fun d => d.parameters.length) = some 2 := by decide +kernel
abbrev wsX9_meanLeafDepth : List Cond := Cond.code yX9_meanLeafDepth cX9_meanLeafDepth 1 (some .double) :: wB
theorem mvX9_meanLeafDepth : Cond.instanceMethod yX9_meanLeafDepth ∈ wB ∧ Cond.selects RX9 yX9_meanLeafDepth yX9_meanLeafDepth ∈ wB ∧ Cond.code yX9_meanLeafDepth cX9_meanLeafDepth 1 (some .double) ∈ wB := ⟨wB_at 908 (by decide +kernel) (by decide +kernel), wB_at 909 (by decide +kernel) (by decide +kernel), wB_at 910 (by decide +kernel) (by decide +kernel)⟩
theorem hdX9_meanLeafDepth : yX9_meanLeafDepth.cls = RX9 ∧ yX9_meanLeafDepth.cls ≠ "java/lang/invoke/MethodHandle" ∧ yX9_meanLeafDepth.cls ≠ "java/lang/invoke/VarHandle" ∧ (parseMethodDescriptor yX9_meanLeafDepth.desc).map (fun d => d.parameters.length) = some 0 := by decide +kernel
abbrev wsX9_buildCount : List Cond := Cond.code yX9_buildCount cX9_buildCount 1 (some .int) :: wB
theorem mvX9_buildCount : Cond.instanceMethod yX9_buildCount ∈ wB ∧ Cond.selects RX9 yX9_buildCount yX9_buildCount ∈ wB ∧ Cond.code yX9_buildCount cX9_buildCount 1 (some .int) ∈ wB := ⟨wB_at 920 (by decide +kernel) (by decide +kernel), wB_at 921 (by decide +kernel) (by decide +kernel), wB_at 922 (by decide +kernel) (by decide +kernel)⟩
theorem hdX9_buildCount : yX9_buildCount.cls = RX9 ∧ yX9_buildCount.cls ≠ "java/lang/invoke/MethodHandle" ∧ yX9_buildCount.cls ≠ "java/lang/invoke/VarHandle" ∧ (parseMethodDescriptor yX9_buildCount.desc).map (fun d => d.parameters.length) = some 0 := by decide +kernel
abbrev wsX9_drawCount : List Cond := Cond.code yX9_drawCount cX9_drawCount 3 (some .int) :: wB
theorem mvX9_drawCount : Cond.instanceMethod yX9_drawCount ∈ wB ∧ Cond.selects RX9 yX9_drawCount yX9_drawCount ∈ wB ∧ Cond.code yX9_drawCount cX9_drawCount 3 (some .int) ∈ wB := ⟨wB_at 924 (by decide +kernel) (by decide +kernel), wB_at 925 (by decide +kernel) (by decide +kernel), wB_at 926 (by decide +kernel) (by decide +kernel)⟩
theorem hdX9_drawCount : yX9_drawCount.cls = RX9 ∧ yX9_drawCount.cls ≠ "java/lang/invoke/MethodHandle" ∧ yX9_drawCount.cls ≠ "java/lang/invoke/VarHandle" ∧ (parseMethodDescriptor yX9_drawCount.desc).map (fun d => d.parameters.length) = some 2 := by decide +kernel
abbrev wsX9_drawPiece : List Cond := Cond.code yX9_drawPiece cX9_drawPiece 4 (some .int) :: wB
theorem mvX9_drawPiece : Cond.instanceMethod yX9_drawPiece ∈ wB ∧ Cond.selects RX9 yX9_drawPiece yX9_drawPiece ∈ wB ∧ Cond.code yX9_drawPiece cX9_drawPiece 4 (some .int) ∈ wB := ⟨wB_at 972 (by decide +kernel) (by decide +kernel), wB_at 973 (by decide +kernel) (by decide +kernel), wB_at 974 (by decide +kernel) (by decide +kernel)⟩
theorem hdX9_drawPiece : yX9_drawPiece.cls = RX9 ∧ yX9_drawPiece.cls ≠ "java/lang/invoke/MethodHandle" ∧ yX9_drawPiece.cls ≠ "java/lang/invoke/VarHandle" ∧ (parseMethodDescriptor yX9_drawPiece.desc).map (fun d => d.parameters.length) = some 3 := by decide +kernel
abbrev wsX9_paintCount : List Cond := Cond.code yX9_paintCount cX9_paintCount 7 (some .int) :: wB
theorem mvX9_paintCount : Cond.instanceMethod yX9_paintCount ∈ wB ∧ Cond.selects RX9 yX9_paintCount yX9_paintCount ∈ wB ∧ Cond.code yX9_paintCount cX9_paintCount 7 (some .int) ∈ wB := ⟨wB_at 980 (by decide +kernel) (by decide +kernel), wB_at 981 (by decide +kernel) (by decide +kernel), wB_at 982 (by decide +kernel) (by decide +kernel)⟩
theorem hdX9_paintCount : yX9_paintCount.cls = RX9 ∧ yX9_paintCount.cls ≠ "java/lang/invoke/MethodHandle" ∧ yX9_paintCount.cls ≠ "java/lang/invoke/VarHandle" ∧ (parseMethodDescriptor yX9_paintCount.desc).map (fun d => d.parameters.length) = some 4 := by decide +kernel
abbrev wsX9_paintedPiece : List Cond := Cond.code yX9_paintedPiece cX9_paintedPiece 8 (some .int) :: wB
theorem mvX9_paintedPiece : Cond.instanceMethod yX9_paintedPiece ∈ wB ∧ Cond.selects RX9 yX9_paintedPiece yX9_paintedPiece ∈ wB ∧ Cond.code yX9_paintedPiece cX9_paintedPiece 8 (some .int) ∈ wB := ⟨wB_at 1031 (by decide +kernel) (by decide +kernel), wB_at 1032 (by decide +kernel) (by decide +kernel), wB_at 1033 (by decide +kernel) (by decide +kernel)⟩
theorem hdX9_paintedPiece : yX9_paintedPiece.cls = RX9 ∧ yX9_paintedPiece.cls ≠ "java/lang/invoke/MethodHandle" ∧ yX9_paintedPiece.cls ≠ "java/lang/invoke/VarHandle" ∧ (parseMethodDescriptor yX9_paintedPiece.desc).map (fun d => d.parameters.length) = some 5 := by decide +kernel
abbrev wsX9_blocker : List Cond := Cond.code yX9_blocker cX9_blocker 5 (some .int) :: wB
theorem mvX9_blocker : Cond.instanceMethod yX9_blocker ∈ wB ∧ Cond.selects RX9 yX9_blocker yX9_blocker ∈ wB ∧ Cond.code yX9_blocker cX9_blocker 5 (some .int) ∈ wB := ⟨wB_at 1038 (by decide +kernel) (by decide +kernel), wB_at 1039 (by decide +kernel) (by decide +kernel), wB_at 1040 (by decide +kernel) (by decide +kernel)⟩
theorem hdX9_blocker : yX9_blocker.cls = RX9 ∧ yX9_blocker.cls ≠ "java/lang/invoke/MethodHandle" ∧ yX9_blocker.cls ≠ "java/lang/invoke/VarHandle" ∧ (parseMethodDescriptor yX9_blocker.desc).map (fun d => d.parameters.length) = some 4 := by decide +kernel
abbrev wsX9_columnWall : List Cond := Cond.code yX9_columnWall cX9_columnWall 6 (some .int) :: wB
theorem mvX9_columnWall : Cond.instanceMethod yX9_columnWall ∈ wB ∧ Cond.selects RX9 yX9_columnWall yX9_columnWall ∈ wB ∧ Cond.code yX9_columnWall cX9_columnWall 6 (some .int) ∈ wB := ⟨wB_at 1060 (by decide +kernel) (by decide +kernel), wB_at 1061 (by decide +kernel) (by decide +kernel), wB_at 1062 (by decide +kernel) (by decide +kernel)⟩
theorem hdX9_columnWall : yX9_columnWall.cls = RX9 ∧ yX9_columnWall.cls ≠ "java/lang/invoke/MethodHandle" ∧ yX9_columnWall.cls ≠ "java/lang/invoke/VarHandle" ∧ (parseMethodDescriptor yX9_columnWall.desc).map (fun d => d.parameters.length) = some 5 := by decide +kernel
abbrev wsX9_columnDistance : List Cond := Cond.code yX9_columnDistance cX9_columnDistance 7 (some .int) :: wB
theorem mvX9_columnDistance : Cond.instanceMethod yX9_columnDistance ∈ wB ∧ Cond.selects RX9 yX9_columnDistance yX9_columnDistance ∈ wB ∧ Cond.code yX9_columnDistance cX9_columnDistance 7 (some .int) ∈ wB := ⟨wB_at 1064 (by decide +kernel) (by decide +kernel), wB_at 1065 (by decide +kernel) (by decide +kernel), wB_at 1066 (by decide +kernel) (by decide +kernel)⟩
theorem hdX9_columnDistance : yX9_columnDistance.cls = RX9 ∧ yX9_columnDistance.cls ≠ "java/lang/invoke/MethodHandle" ∧ yX9_columnDistance.cls ≠ "java/lang/invoke/VarHandle" ∧ (parseMethodDescriptor yX9_columnDistance.desc).map (fun d => d.parameters.length) = some 6 := by decide +kernel
abbrev wsX9_paneCount : List Cond := Cond.code yX9_paneCount cX9_paneCount 6 (some .int) :: wB
theorem mvX9_paneCount : Cond.instanceMethod yX9_paneCount ∈ wB ∧ Cond.selects RX9 yX9_paneCount yX9_paneCount ∈ wB ∧ Cond.code yX9_paneCount cX9_paneCount 6 (some .int) ∈ wB := ⟨wB_at 1080 (by decide +kernel) (by decide +kernel), wB_at 1081 (by decide +kernel) (by decide +kernel), wB_at 1082 (by decide +kernel) (by decide +kernel)⟩
theorem hdX9_paneCount : yX9_paneCount.cls = RX9 ∧ yX9_paneCount.cls ≠ "java/lang/invoke/MethodHandle" ∧ yX9_paneCount.cls ≠ "java/lang/invoke/VarHandle" ∧ (parseMethodDescriptor yX9_paneCount.desc).map (fun d => d.parameters.length) = some 5 := by decide +kernel
abbrev wsX9_seenColumns : List Cond := Cond.code yX9_seenColumns cX9_seenColumns 8 (some .int) :: wB
theorem mvX9_seenColumns : Cond.instanceMethod yX9_seenColumns ∈ wB ∧ Cond.selects RX9 yX9_seenColumns yX9_seenColumns ∈ wB ∧ Cond.code yX9_seenColumns cX9_seenColumns 8 (some .int) ∈ wB := ⟨wB_at 1089 (by decide +kernel) (by decide +kernel), wB_at 1090 (by decide +kernel) (by decide +kernel), wB_at 1091 (by decide +kernel) (by decide +kernel)⟩
theorem hdX9_seenColumns : yX9_seenColumns.cls = RX9 ∧ yX9_seenColumns.cls ≠ "java/lang/invoke/MethodHandle" ∧ yX9_seenColumns.cls ≠ "java/lang/invoke/VarHandle" ∧ (parseMethodDescriptor yX9_seenColumns.desc).map (fun d => d.parameters.length) = some 5 := by decide +kernel
abbrev wsX9_seenPoints : List Cond := Cond.code yX9_seenPoints cX9_seenPoints 3 (some .int) :: wB
theorem mvX9_seenPoints : Cond.instanceMethod yX9_seenPoints ∈ wB ∧ Cond.selects RX9 yX9_seenPoints yX9_seenPoints ∈ wB ∧ Cond.code yX9_seenPoints cX9_seenPoints 3 (some .int) ∈ wB := ⟨wB_at 1093 (by decide +kernel) (by decide +kernel), wB_at 1094 (by decide +kernel) (by decide +kernel), wB_at 1095 (by decide +kernel) (by decide +kernel)⟩
theorem hdX9_seenPoints : yX9_seenPoints.cls = RX9 ∧ yX9_seenPoints.cls ≠ "java/lang/invoke/MethodHandle" ∧ yX9_seenPoints.cls ≠ "java/lang/invoke/VarHandle" ∧ (parseMethodDescriptor yX9_seenPoints.desc).map (fun d => d.parameters.length) = some 2 := by decide +kernel
abbrev wsX9_lookout : List Cond := Cond.code yX9_lookout cX9_lookout 7 (some .int) :: wB
theorem mvX9_lookout : Cond.instanceMethod yX9_lookout ∈ wB ∧ Cond.selects RX9 yX9_lookout yX9_lookout ∈ wB ∧ Cond.code yX9_lookout cX9_lookout 7 (some .int) ∈ wB := ⟨wB_at 1109 (by decide +kernel) (by decide +kernel), wB_at 1110 (by decide +kernel) (by decide +kernel), wB_at 1111 (by decide +kernel) (by decide +kernel)⟩
theorem hdX9_lookout : yX9_lookout.cls = RX9 ∧ yX9_lookout.cls ≠ "java/lang/invoke/MethodHandle" ∧ yX9_lookout.cls ≠ "java/lang/invoke/VarHandle" ∧ (parseMethodDescriptor yX9_lookout.desc).map (fun d => d.parameters.length) = some 1 := by decide +kernel
abbrev wsX9_walk : List Cond := Cond.code yX9_walk cX9_walk 5 (some .int) :: wB
theorem mvX9_walk : Cond.instanceMethod yX9_walk ∈ wB ∧ Cond.selects RX9 yX9_walk yX9_walk ∈ wB ∧ Cond.code yX9_walk cX9_walk 5 (some .int) ∈ wB := ⟨wB_at 1113 (by decide +kernel) (by decide +kernel), wB_at 1114 (by decide +kernel) (by decide +kernel), wB_at 1115 (by decide +kernel) (by decide +kernel)⟩
theorem hdX9_walk : yX9_walk.cls = RX9 ∧ yX9_walk.cls ≠ "java/lang/invoke/MethodHandle" ∧ yX9_walk.cls ≠ "java/lang/invoke/VarHandle" ∧ (parseMethodDescriptor yX9_walk.desc).map (fun d => d.parameters.length) = some 4 := by decide +kernel
abbrev wsX9_wander : List Cond := Cond.code yX9_wander cX9_wander 11 (some .int) :: wB
theorem mvX9_wander : Cond.instanceMethod yX9_wander ∈ wB ∧ Cond.selects RX9 yX9_wander yX9_wander ∈ wB ∧ Cond.code yX9_wander cX9_wander 11 (some .int) ∈ wB := ⟨wB_at 1125 (by decide +kernel) (by decide +kernel), wB_at 1126 (by decide +kernel) (by decide +kernel), wB_at 1127 (by decide +kernel) (by decide +kernel)⟩
theorem hdX9_wander : yX9_wander.cls = RX9 ∧ yX9_wander.cls ≠ "java/lang/invoke/MethodHandle" ∧ yX9_wander.cls ≠ "java/lang/invoke/VarHandle" ∧ (parseMethodDescriptor yX9_wander.desc).map (fun d => d.parameters.length) = some 4 := by decide +kernel
abbrev wsX9_nearestWall : List Cond := Cond.code yX9_nearestWall cX9_nearestWall 3 (some .int) :: wB
theorem mvX9_nearestWall : Cond.instanceMethod yX9_nearestWall ∈ wB ∧ Cond.selects RX9 yX9_nearestWall yX9_nearestWall ∈ wB ∧ Cond.code yX9_nearestWall cX9_nearestWall 3 (some .int) ∈ wB := ⟨wB_at 1140 (by decide +kernel) (by decide +kernel), wB_at 1141 (by decide +kernel) (by decide +kernel), wB_at 1142 (by decide +kernel) (by decide +kernel)⟩
theorem hdX9_nearestWall : yX9_nearestWall.cls = RX9 ∧ yX9_nearestWall.cls ≠ "java/lang/invoke/MethodHandle" ∧ yX9_nearestWall.cls ≠ "java/lang/invoke/VarHandle" ∧ (parseMethodDescriptor yX9_nearestWall.desc).map (fun d => d.parameters.length) = some 2 := by decide +kernel
abbrev wsX9_clearance : List Cond := Cond.code yX9_clearance cX9_clearance 4 (some .long) :: wB
theorem mvX9_clearance : Cond.instanceMethod yX9_clearance ∈ wB ∧ Cond.selects RX9 yX9_clearance yX9_clearance ∈ wB ∧ Cond.code yX9_clearance cX9_clearance 4 (some .long) ∈ wB := ⟨wB_at 1176 (by decide +kernel) (by decide +kernel), wB_at 1177 (by decide +kernel) (by decide +kernel), wB_at 1178 (by decide +kernel) (by decide +kernel)⟩
theorem hdX9_clearance : yX9_clearance.cls = RX9 ∧ yX9_clearance.cls ≠ "java/lang/invoke/MethodHandle" ∧ yX9_clearance.cls ≠ "java/lang/invoke/VarHandle" ∧ (parseMethodDescriptor yX9_clearance.desc).map (fun d => d.parameters.length) = some 3 := by decide +kernel
abbrev wsX9_piecesWith : List Cond := Cond.code yX9_piecesWith cX9_piecesWith 3 (some .int) :: wB
theorem mvX9_piecesWith : Cond.instanceMethod yX9_piecesWith ∈ wB ∧ Cond.selects RX9 yX9_piecesWith yX9_piecesWith ∈ wB ∧ Cond.code yX9_piecesWith cX9_piecesWith 3 (some .int) ∈ wB := ⟨wB_at 1190 (by decide +kernel) (by decide +kernel), wB_at 1191 (by decide +kernel) (by decide +kernel), wB_at 1192 (by decide +kernel) (by decide +kernel)⟩
theorem hdX9_piecesWith : yX9_piecesWith.cls = RX9 ∧ yX9_piecesWith.cls ≠ "java/lang/invoke/MethodHandle" ∧ yX9_piecesWith.cls ≠ "java/lang/invoke/VarHandle" ∧ (parseMethodDescriptor yX9_piecesWith.desc).map (fun d => d.parameters.length) = some 2 := by decide +kernel
abbrev wsX9_bestWeights : List Cond := Cond.code yX9_bestWeights cX9_bestWeights 8 (some .int) :: wB
theorem mvX9_bestWeights : Cond.instanceMethod yX9_bestWeights ∈ wB ∧ Cond.selects RX9 yX9_bestWeights yX9_bestWeights ∈ wB ∧ Cond.code yX9_bestWeights cX9_bestWeights 8 (some .int) ∈ wB := ⟨wB_at 1194 (by decide +kernel) (by decide +kernel), wB_at 1195 (by decide +kernel) (by decide +kernel), wB_at 1196 (by decide +kernel) (by decide +kernel)⟩
theorem hdX9_bestWeights : yX9_bestWeights.cls = RX9 ∧ yX9_bestWeights.cls ≠ "java/lang/invoke/MethodHandle" ∧ yX9_bestWeights.cls ≠ "java/lang/invoke/VarHandle" ∧ (parseMethodDescriptor yX9_bestWeights.desc).map (fun d => d.parameters.length) = some 0 := by decide +kernel
abbrev wsX9_leastPieces : List Cond := Cond.code yX9_leastPieces cX9_leastPieces 1 (some .int) :: wB
theorem mvX9_leastPieces : Cond.instanceMethod yX9_leastPieces ∈ wB ∧ Cond.selects RX9 yX9_leastPieces yX9_leastPieces ∈ wB ∧ Cond.code yX9_leastPieces cX9_leastPieces 1 (some .int) ∈ wB := ⟨wB_at 1202 (by decide +kernel) (by decide +kernel), wB_at 1203 (by decide +kernel) (by decide +kernel), wB_at 1204 (by decide +kernel) (by decide +kernel)⟩
theorem hdX9_leastPieces : yX9_leastPieces.cls = RX9 ∧ yX9_leastPieces.cls ≠ "java/lang/invoke/MethodHandle" ∧ yX9_leastPieces.cls ≠ "java/lang/invoke/VarHandle" ∧ (parseMethodDescriptor yX9_leastPieces.desc).map (fun d => d.parameters.length) = some 0 := by decide +kernel
abbrev wsX9_bestRoot : List Cond := Cond.code yX9_bestRoot cX9_bestRoot 1 (some .int) :: wB
theorem mvX9_bestRoot : Cond.instanceMethod yX9_bestRoot ∈ wB ∧ Cond.selects RX9 yX9_bestRoot yX9_bestRoot ∈ wB ∧ Cond.code yX9_bestRoot cX9_bestRoot 1 (some .int) ∈ wB := ⟨wB_at 1232 (by decide +kernel) (by decide +kernel), wB_at 1233 (by decide +kernel) (by decide +kernel), wB_at 1234 (by decide +kernel) (by decide +kernel)⟩
theorem hdX9_bestRoot : yX9_bestRoot.cls = RX9 ∧ yX9_bestRoot.cls ≠ "java/lang/invoke/MethodHandle" ∧ yX9_bestRoot.cls ≠ "java/lang/invoke/VarHandle" ∧ (parseMethodDescriptor yX9_bestRoot.desc).map (fun d => d.parameters.length) = some 0 := by decide +kernel
abbrev wsX9_isOutside : List Cond := Cond.code yX9_isOutside cX9_isOutside 3 (some .boolean) :: wB
theorem mvX9_isOutside : Cond.static yX9_isOutside ∈ wB ∧ Cond.code yX9_isOutside cX9_isOutside 3 (some .boolean) ∈ wB := ⟨wB_at 426 (by decide +kernel) (by decide +kernel), wB_at 427 (by decide +kernel) (by decide +kernel)⟩
theorem hdX9_isOutside : yX9_isOutside.cls ≠ "java/lang/invoke/MethodHandle" ∧ yX9_isOutside.cls ≠ "java/lang/invoke/VarHandle" ∧ (parseMethodDescriptor yX9_isOutside.desc).map (fun d => d.parameters.length) = some 3 := by decide +kernel
abbrev wsX9_isBadPoint : List Cond := Cond.code yX9_isBadPoint cX9_isBadPoint 2 (some .boolean) :: wB
theorem mvX9_isBadPoint : Cond.static yX9_isBadPoint ∈ wB ∧ Cond.code yX9_isBadPoint cX9_isBadPoint 2 (some .boolean) ∈ wB := ⟨wB_at 423 (by decide +kernel) (by decide +kernel), wB_at 424 (by decide +kernel) (by decide +kernel)⟩
theorem hdX9_isBadPoint : yX9_isBadPoint.cls ≠ "java/lang/invoke/MethodHandle" ∧ yX9_isBadPoint.cls ≠ "java/lang/invoke/VarHandle" ∧ (parseMethodDescriptor yX9_isBadPoint.desc).map (fun d => d.parameters.length) = some 2 := by decide +kernel
abbrev wsX9_isBadDirection : List Cond := Cond.code yX9_isBadDirection cX9_isBadDirection 2 (some .boolean) :: wB
theorem mvX9_isBadDirection : Cond.static yX9_isBadDirection ∈ wB ∧ Cond.code yX9_isBadDirection cX9_isBadDirection 2 (some .boolean) ∈ wB := ⟨wB_at 987 (by decide +kernel) (by decide +kernel), wB_at 988 (by decide +kernel) (by decide +kernel)⟩
theorem hdX9_isBadDirection : yX9_isBadDirection.cls ≠ "java/lang/invoke/MethodHandle" ∧ yX9_isBadDirection.cls ≠ "java/lang/invoke/VarHandle" ∧ (parseMethodDescriptor yX9_isBadDirection.desc).map (fun d => d.parameters.length) = some 2 := by decide +kernel
abbrev wsX9_isBadPicture : List Cond := Cond.code yX9_isBadPicture cX9_isBadPicture 4 (some .boolean) :: wB
theorem mvX9_isBadPicture : Cond.static yX9_isBadPicture ∈ wB ∧ Cond.code yX9_isBadPicture cX9_isBadPicture 4 (some .boolean) ∈ wB := ⟨wB_at 984 (by decide +kernel) (by decide +kernel), wB_at 985 (by decide +kernel) (by decide +kernel)⟩
theorem hdX9_isBadPicture : yX9_isBadPicture.cls ≠ "java/lang/invoke/MethodHandle" ∧ yX9_isBadPicture.cls ≠ "java/lang/invoke/VarHandle" ∧ (parseMethodDescriptor yX9_isBadPicture.desc).map (fun d => d.parameters.length) = some 4 := by decide +kernel
abbrev wsX9_isBadColumn : List Cond := Cond.code yX9_isBadColumn cX9_isBadColumn 1 (some .boolean) :: wB
theorem mvX9_isBadColumn : Cond.static yX9_isBadColumn ∈ wB ∧ Cond.code yX9_isBadColumn cX9_isBadColumn 1 (some .boolean) ∈ wB := ⟨wB_at 1035 (by decide +kernel) (by decide +kernel), wB_at 1036 (by decide +kernel) (by decide +kernel)⟩
theorem hdX9_isBadColumn : yX9_isBadColumn.cls ≠ "java/lang/invoke/MethodHandle" ∧ yX9_isBadColumn.cls ≠ "java/lang/invoke/VarHandle" ∧ (parseMethodDescriptor yX9_isBadColumn.desc).map (fun d => d.parameters.length) = some 1 := by decide +kernel
abbrev wsX9_areBadWeights : List Cond := Cond.code yX9_areBadWeights cX9_areBadWeights 2 (some .boolean) :: wB
theorem mvX9_areBadWeights : Cond.static yX9_areBadWeights ∈ wB ∧ Cond.code yX9_areBadWeights cX9_areBadWeights 2 (some .boolean) ∈ wB := ⟨wB_at 528 (by decide +kernel) (by decide +kernel), wB_at 529 (by decide +kernel) (by decide +kernel)⟩
theorem hdX9_areBadWeights : yX9_areBadWeights.cls ≠ "java/lang/invoke/MethodHandle" ∧ yX9_areBadWeights.cls ≠ "java/lang/invoke/VarHandle" ∧ (parseMethodDescriptor yX9_areBadWeights.desc).map (fun d => d.parameters.length) = some 2 := by decide +kernel
abbrev wsX9_pointCode : List Cond := Cond.code yX9_pointCode cX9_pointCode 2 (some .int) :: wB
theorem mvX9_pointCode : Cond.static yX9_pointCode ∈ wB ∧ Cond.code yX9_pointCode cX9_pointCode 2 (some .int) ∈ wB := ⟨wB_at 497 (by decide +kernel) (by decide +kernel), wB_at 498 (by decide +kernel) (by decide +kernel)⟩
theorem hdX9_pointCode : yX9_pointCode.cls ≠ "java/lang/invoke/MethodHandle" ∧ yX9_pointCode.cls ≠ "java/lang/invoke/VarHandle" ∧ (parseMethodDescriptor yX9_pointCode.desc).map (fun d => d.parameters.length) = some 2 := by decide +kernel
abbrev wsX9_beginEdit : List Cond := Cond.code yX9_beginEdit cX9_beginEdit 1 none :: wB
theorem mvX9_beginEdit : Cond.instanceMethod yX9_beginEdit ∈ wB ∧ Cond.selects RX9 yX9_beginEdit yX9_beginEdit ∈ wB ∧ Cond.code yX9_beginEdit cX9_beginEdit 1 none ∈ wB := ⟨wB_at 434 (by decide +kernel) (by decide +kernel), wB_at 0 (by decide +kernel) (by decide +kernel), wB_at 435 (by decide +kernel) (by decide +kernel)⟩
theorem hdX9_beginEdit : yX9_beginEdit.cls = RX9 ∧ yX9_beginEdit.cls ≠ "java/lang/invoke/MethodHandle" ∧ yX9_beginEdit.cls ≠ "java/lang/invoke/VarHandle" ∧ (parseMethodDescriptor yX9_beginEdit.desc).map (fun d => d.parameters.length) = some 0 := by decide +kernel
abbrev wsX9_needTree : List Cond := Cond.code yX9_needTree cX9_needTree 1 none :: wB
theorem mvX9_needTree : Cond.instanceMethod yX9_needTree ∈ wB ∧ Cond.selects RX9 yX9_needTree yX9_needTree ∈ wB ∧ Cond.code yX9_needTree cX9_needTree 1 none ∈ wB := ⟨wB_at 661 (by decide +kernel) (by decide +kernel), wB_at 6 (by decide +kernel) (by decide +kernel), wB_at 662 (by decide +kernel) (by decide +kernel)⟩
theorem hdX9_needTree : yX9_needTree.cls = RX9 ∧ yX9_needTree.cls ≠ "java/lang/invoke/MethodHandle" ∧ yX9_needTree.cls ≠ "java/lang/invoke/VarHandle" ∧ (parseMethodDescriptor yX9_needTree.desc).map (fun d => d.parameters.length) = some 0 := by decide +kernel
abbrev wsX9_countCovering : List Cond := Cond.code yX9_countCovering cX9_countCovering 3 (some .int) :: wB
theorem mvX9_countCovering : Cond.instanceMethod yX9_countCovering ∈ wB ∧ Cond.selects RX9 yX9_countCovering yX9_countCovering ∈ wB ∧ Cond.code yX9_countCovering cX9_countCovering 3 (some .int) ∈ wB := ⟨wB_at 1007 (by decide +kernel) (by decide +kernel), wB_at 21 (by decide +kernel) (by decide +kernel), wB_at 1008 (by decide +kernel) (by decide +kernel)⟩
theorem hdX9_countCovering : yX9_countCovering.cls = RX9 ∧ yX9_countCovering.cls ≠ "java/lang/invoke/MethodHandle" ∧ yX9_countCovering.cls ≠ "java/lang/invoke/VarHandle" ∧ (parseMethodDescriptor yX9_countCovering.desc).map (fun d => d.parameters.length) = some 0 := by decide +kernel
abbrev wsX9_covers : List Cond := Cond.code yX9_covers cX9_covers 2 (some .boolean) :: wB
theorem mvX9_covers : Cond.instanceMethod yX9_covers ∈ wB ∧ Cond.selects RX9 yX9_covers yX9_covers ∈ wB ∧ Cond.code yX9_covers cX9_covers 2 (some .boolean) ∈ wB := ⟨wB_at 1011 (by decide +kernel) (by decide +kernel), wB_at 22 (by decide +kernel) (by decide +kernel), wB_at 1012 (by decide +kernel) (by decide +kernel)⟩
theorem hdX9_covers : yX9_covers.cls = RX9 ∧ yX9_covers.cls ≠ "java/lang/invoke/MethodHandle" ∧ yX9_covers.cls ≠ "java/lang/invoke/VarHandle" ∧ (parseMethodDescriptor yX9_covers.desc).map (fun d => d.parameters.length) = some 1 := by decide +kernel
abbrev wsX9_countSeenFrom : List Cond := Cond.code yX9_countSeenFrom cX9_countSeenFrom 6 (some .int) :: wB
theorem mvX9_countSeenFrom : Cond.instanceMethod yX9_countSeenFrom ∈ wB ∧ Cond.selects RX9 yX9_countSeenFrom yX9_countSeenFrom ∈ wB ∧ Cond.code yX9_countSeenFrom cX9_countSeenFrom 6 (some .int) ∈ wB := ⟨wB_at 1098 (by decide +kernel) (by decide +kernel), wB_at 24 (by decide +kernel) (by decide +kernel), wB_at 1099 (by decide +kernel) (by decide +kernel)⟩
theorem hdX9_countSeenFrom : yX9_countSeenFrom.cls = RX9 ∧ yX9_countSeenFrom.cls ≠ "java/lang/invoke/MethodHandle" ∧ yX9_countSeenFrom.cls ≠ "java/lang/invoke/VarHandle" ∧ (parseMethodDescriptor yX9_countSeenFrom.desc).map (fun d => d.parameters.length) = some 2 := by decide +kernel
abbrev wsX9_sees : List Cond := Cond.code yX9_sees cX9_sees 3 (some .boolean) :: wB
theorem mvX9_sees : Cond.instanceMethod yX9_sees ∈ wB ∧ Cond.selects RX9 yX9_sees yX9_sees ∈ wB ∧ Cond.code yX9_sees cX9_sees 3 (some .boolean) ∈ wB := ⟨wB_at 1102 (by decide +kernel) (by decide +kernel), wB_at 25 (by decide +kernel) (by decide +kernel), wB_at 1103 (by decide +kernel) (by decide +kernel)⟩
theorem hdX9_sees : yX9_sees.cls = RX9 ∧ yX9_sees.cls ≠ "java/lang/invoke/MethodHandle" ∧ yX9_sees.cls ≠ "java/lang/invoke/VarHandle" ∧ (parseMethodDescriptor yX9_sees.desc).map (fun d => d.parameters.length) = some 2 := by decide +kernel
abbrev wsX9_placeAfterMove : List Cond := Cond.code yX9_placeAfterMove cX9_placeAfterMove 5 (some .int) :: wB
theorem mvX9_placeAfterMove : Cond.instanceMethod yX9_placeAfterMove ∈ wB ∧ Cond.selects RX9 yX9_placeAfterMove yX9_placeAfterMove ∈ wB ∧ Cond.code yX9_placeAfterMove cX9_placeAfterMove 5 (some .int) ∈ wB := ⟨wB_at 1118 (by decide +kernel) (by decide +kernel), wB_at 26 (by decide +kernel) (by decide +kernel), wB_at 1119 (by decide +kernel) (by decide +kernel)⟩
theorem hdX9_placeAfterMove : yX9_placeAfterMove.cls = RX9 ∧ yX9_placeAfterMove.cls ≠ "java/lang/invoke/MethodHandle" ∧ yX9_placeAfterMove.cls ≠ "java/lang/invoke/VarHandle" ∧ (parseMethodDescriptor yX9_placeAfterMove.desc).map (fun d => d.parameters.length) = some 4 := by decide +kernel
abbrev wsX9_canMove : List Cond := Cond.code yX9_canMove cX9_canMove 5 (some .boolean) :: wB
theorem mvX9_canMove : Cond.instanceMethod yX9_canMove ∈ wB ∧ Cond.selects RX9 yX9_canMove yX9_canMove ∈ wB ∧ Cond.code yX9_canMove cX9_canMove 5 (some .boolean) ∈ wB := ⟨wB_at 1122 (by decide +kernel) (by decide +kernel), wB_at 27 (by decide +kernel) (by decide +kernel), wB_at 1123 (by decide +kernel) (by decide +kernel)⟩
theorem hdX9_canMove : yX9_canMove.cls = RX9 ∧ yX9_canMove.cls ≠ "java/lang/invoke/MethodHandle" ∧ yX9_canMove.cls ≠ "java/lang/invoke/VarHandle" ∧ (parseMethodDescriptor yX9_canMove.desc).map (fun d => d.parameters.length) = some 4 := by decide +kernel
abbrev wsX9_nextState : List Cond := Cond.code yX9_nextState cX9_nextState 2 (some .long) :: wB
theorem mvX9_nextState : Cond.static yX9_nextState ∈ wB ∧ Cond.code yX9_nextState cX9_nextState 2 (some .long) ∈ wB := ⟨wB_at 1129 (by decide +kernel) (by decide +kernel), wB_at 1130 (by decide +kernel) (by decide +kernel)⟩
theorem hdX9_nextState : yX9_nextState.cls ≠ "java/lang/invoke/MethodHandle" ∧ yX9_nextState.cls ≠ "java/lang/invoke/VarHandle" ∧ (parseMethodDescriptor yX9_nextState.desc).map (fun d => d.parameters.length) = some 1 := by decide +kernel
abbrev wsX9_randomMove : List Cond := Cond.code yX9_randomMove cX9_randomMove 2 (some .int) :: wB
theorem mvX9_randomMove : Cond.static yX9_randomMove ∈ wB ∧ Cond.code yX9_randomMove cX9_randomMove 2 (some .int) ∈ wB := ⟨wB_at 1135 (by decide +kernel) (by decide +kernel), wB_at 1136 (by decide +kernel) (by decide +kernel)⟩
theorem hdX9_randomMove : yX9_randomMove.cls ≠ "java/lang/invoke/MethodHandle" ∧ yX9_randomMove.cls ≠ "java/lang/invoke/VarHandle" ∧ (parseMethodDescriptor yX9_randomMove.desc).map (fun d => d.parameters.length) = some 1 := by decide +kernel
abbrev wsX9_quotient : List Cond := Cond.code yX9_quotient cX9_quotient 2 (some .double) :: wB
theorem mvX9_quotient : Cond.static yX9_quotient ∈ wB ∧ Cond.code yX9_quotient cX9_quotient 2 (some .double) ∈ wB := ⟨wB_at 870 (by decide +kernel) (by decide +kernel), wB_at 871 (by decide +kernel) (by decide +kernel)⟩
theorem hdX9_quotient : yX9_quotient.cls ≠ "java/lang/invoke/MethodHandle" ∧ yX9_quotient.cls ≠ "java/lang/invoke/VarHandle" ∧ (parseMethodDescriptor yX9_quotient.desc).map (fun d => d.parameters.length) = some 2 := by decide +kernel
abbrev wsX9_greatestDivisor : List Cond := Cond.code yX9_greatestDivisor cX9_greatestDivisor 11 (some .long) :: wB
theorem mvX9_greatestDivisor : Cond.static yX9_greatestDivisor ∈ wB ∧ Cond.code yX9_greatestDivisor cX9_greatestDivisor 11 (some .long) ∈ wB := ⟨wB_at 779 (by decide +kernel) (by decide +kernel), wB_at 780 (by decide +kernel) (by decide +kernel)⟩
theorem hdX9_greatestDivisor : yX9_greatestDivisor.cls ≠ "java/lang/invoke/MethodHandle" ∧ yX9_greatestDivisor.cls ≠ "java/lang/invoke/VarHandle" ∧ (parseMethodDescriptor yX9_greatestDivisor.desc).map (fun d => d.parameters.length) = some 2 := by decide +kernel
abbrev wsX9_lowestPart : List Cond := Cond.code yX9_lowestPart cX9_lowestPart 7 (some .long) :: wB
theorem mvX9_lowestPart : Cond.static yX9_lowestPart ∈ wB ∧ Cond.code yX9_lowestPart cX9_lowestPart 7 (some .long) ∈ wB := ⟨wB_at 1076 (by decide +kernel) (by decide +kernel), wB_at 1077 (by decide +kernel) (by decide +kernel)⟩
theorem hdX9_lowestPart : yX9_lowestPart.cls ≠ "java/lang/invoke/MethodHandle" ∧ yX9_lowestPart.cls ≠ "java/lang/invoke/VarHandle" ∧ (parseMethodDescriptor yX9_lowestPart.desc).map (fun d => d.parameters.length) = some 3 := by decide +kernel
abbrev wsX9_squareRoot : List Cond := Cond.code yX9_squareRoot cX9_squareRoot 10 (some .double) :: wB
theorem mvX9_squareRoot : Cond.static yX9_squareRoot ∈ wB ∧ Cond.code yX9_squareRoot cX9_squareRoot 10 (some .double) ∈ wB := ⟨wB_at 885 (by decide +kernel) (by decide +kernel), wB_at 886 (by decide +kernel) (by decide +kernel)⟩
theorem hdX9_squareRoot : yX9_squareRoot.cls ≠ "java/lang/invoke/MethodHandle" ∧ yX9_squareRoot.cls ≠ "java/lang/invoke/VarHandle" ∧ (parseMethodDescriptor yX9_squareRoot.desc).map (fun d => d.parameters.length) = some 1 := by decide +kernel
abbrev wsX10_init : List Cond := Cond.code yX10_init cX10_init 1 none :: wB
theorem mvX10_init : Cond.instanceMethod yX10_init ∈ wB ∧ Cond.code yX10_init cX10_init 1 none ∈ wB := ⟨wB_at 1242 (by decide +kernel) (by decide +kernel), wB_at 1243 (by decide +kernel) (by decide +kernel)⟩
theorem hdX10_init : yX10_init.cls ≠ "java/lang/invoke/MethodHandle" ∧ yX10_init.cls ≠ "java/lang/invoke/VarHandle" ∧ (parseMethodDescriptor yX10_init.desc).map (fun d => d.parameters.length) = some 0 := by decide +kernel
abbrev wsX10_isWall : List Cond := Cond.code yX10_isWall cX10_isWall 2 (some .boolean) :: wB
theorem mvX10_isWall : Cond.instanceMethod yX10_isWall ∈ wB ∧ Cond.selects RX10 yX10_isWall yX10_isWall ∈ wB ∧ Cond.code yX10_isWall cX10_isWall 2 (some .boolean) ∈ wB := ⟨wB_at 1481 (by decide +kernel) (by decide +kernel), wB_at 36 (by decide +kernel) (by decide +kernel), wB_at 1482 (by decide +kernel) (by decide +kernel)⟩
theorem hdX10_isWall : yX10_isWall.cls = RX10 ∧ yX10_isWall.cls ≠ "java/lang/invoke/MethodHandle" ∧ yX10_isWall.cls ≠ "java/lang/invoke/VarHandle" ∧ (parseMethodDescriptor yX10_isWall.desc).map (fun d => d.parameters.length) = some 1 := by decide +kernel
abbrev wsX10_at : List Cond := Cond.code yX10_at cX10_at 3 (some .int) :: wB
theorem mvX10_at : Cond.instanceMethod yX10_at ∈ wB ∧ Cond.selects RX10 yX10_at yX10_at ∈ wB ∧ Cond.code yX10_at cX10_at 3 (some .int) ∈ wB := ⟨wB_at 1465 (by decide +kernel) (by decide +kernel), wB_at 33 (by decide +kernel) (by decide +kernel), wB_at 1466 (by decide +kernel) (by decide +kernel)⟩
theorem hdX10_at : yX10_at.cls = RX10 ∧ yX10_at.cls ≠ "java/lang/invoke/MethodHandle" ∧ yX10_at.cls ≠ "java/lang/invoke/VarHandle" ∧ (parseMethodDescriptor yX10_at.desc).map (fun d => d.parameters.length) = some 2 := by decide +kernel
abbrev wsX10_isCoordinate : List Cond := Cond.code yX10_isCoordinate cX10_isCoordinate 1 (some .boolean) :: wB
theorem mvX10_isCoordinate : Cond.static yX10_isCoordinate ∈ wB ∧ Cond.code yX10_isCoordinate cX10_isCoordinate 1 (some .boolean) ∈ wB := ⟨wB_at 1461 (by decide +kernel) (by decide +kernel), wB_at 1462 (by decide +kernel) (by decide +kernel)⟩
theorem hdX10_isCoordinate : yX10_isCoordinate.cls ≠ "java/lang/invoke/MethodHandle" ∧ yX10_isCoordinate.cls ≠ "java/lang/invoke/VarHandle" ∧ (parseMethodDescriptor yX10_isCoordinate.desc).map (fun d => d.parameters.length) = some 1 := by decide +kernel
abbrev wsX10_keep : List Cond := Cond.code yX10_keep cX10_keep 2 none :: wB
theorem mvX10_keep : Cond.instanceMethod yX10_keep ∈ wB ∧ Cond.selects RX10 yX10_keep yX10_keep ∈ wB ∧ Cond.code yX10_keep cX10_keep 2 none ∈ wB := ⟨wB_at 1469 (by decide +kernel) (by decide +kernel), wB_at 34 (by decide +kernel) (by decide +kernel), wB_at 1470 (by decide +kernel) (by decide +kernel)⟩
theorem hdX10_keep : yX10_keep.cls = RX10 ∧ yX10_keep.cls ≠ "java/lang/invoke/MethodHandle" ∧ yX10_keep.cls ≠ "java/lang/invoke/VarHandle" ∧ (parseMethodDescriptor yX10_keep.desc).map (fun d => d.parameters.length) = some 0 := by decide +kernel
abbrev wsX10_lay : List Cond := Cond.code yX10_lay cX10_lay 8 none :: wB
theorem mvX10_lay : Cond.instanceMethod yX10_lay ∈ wB ∧ Cond.selects RX10 yX10_lay yX10_lay ∈ wB ∧ Cond.code yX10_lay cX10_lay 8 none ∈ wB := ⟨wB_at 1473 (by decide +kernel) (by decide +kernel), wB_at 35 (by decide +kernel) (by decide +kernel), wB_at 1474 (by decide +kernel) (by decide +kernel)⟩
theorem hdX10_lay : yX10_lay.cls = RX10 ∧ yX10_lay.cls ≠ "java/lang/invoke/MethodHandle" ∧ yX10_lay.cls ≠ "java/lang/invoke/VarHandle" ∧ (parseMethodDescriptor yX10_lay.desc).map (fun d => d.parameters.length) = some 7 := by decide +kernel
abbrev wsX10_addWall : List Cond := Cond.code yX10_addWall cX10_addWall 8 (some .int) :: wB
theorem mvX10_addWall : Cond.instanceMethod yX10_addWall ∈ wB ∧ Cond.selects RX10 yX10_addWall yX10_addWall ∈ wB ∧ Cond.code yX10_addWall cX10_addWall 8 (some .int) ∈ wB := ⟨wB_at 1457 (by decide +kernel) (by decide +kernel), wB_at 1458 (by decide +kernel) (by decide +kernel), wB_at 1459 (by decide +kernel) (by decide +kernel)⟩
theorem hdX10_addWall : yX10_addWall.cls = RX10 ∧ yX10_addWall.cls ≠ "java/lang/invoke/MethodHandle" ∧ yX10_addWall.cls ≠ "java/lang/invoke/VarHandle" ∧ (parseMethodDescriptor yX10_addWall.desc).map (fun d => d.parameters.length) = some 6 := by decide +kernel
abbrev wsX10_removeWall : List Cond := Cond.code yX10_removeWall cX10_removeWall 2 (some .int) :: wB
theorem mvX10_removeWall : Cond.instanceMethod yX10_removeWall ∈ wB ∧ Cond.selects RX10 yX10_removeWall yX10_removeWall ∈ wB ∧ Cond.code yX10_removeWall cX10_removeWall 2 (some .int) ∈ wB := ⟨wB_at 1476 (by decide +kernel) (by decide +kernel), wB_at 1477 (by decide +kernel) (by decide +kernel), wB_at 1478 (by decide +kernel) (by decide +kernel)⟩
theorem hdX10_removeWall : yX10_removeWall.cls = RX10 ∧ yX10_removeWall.cls ≠ "java/lang/invoke/MethodHandle" ∧ yX10_removeWall.cls ≠ "java/lang/invoke/VarHandle" ∧ (parseMethodDescriptor yX10_removeWall.desc).map (fun d => d.parameters.length) = some 1 := by decide +kernel
abbrev wsX10_moveWall : List Cond := Cond.code yX10_moveWall cX10_moveWall 8 (some .int) :: wB
theorem mvX10_moveWall : Cond.instanceMethod yX10_moveWall ∈ wB ∧ Cond.selects RX10 yX10_moveWall yX10_moveWall ∈ wB ∧ Cond.code yX10_moveWall cX10_moveWall 8 (some .int) ∈ wB := ⟨wB_at 1488 (by decide +kernel) (by decide +kernel), wB_at 1489 (by decide +kernel) (by decide +kernel), wB_at 1490 (by decide +kernel) (by decide +kernel)⟩
theorem hdX10_moveWall : yX10_moveWall.cls = RX10 ∧ yX10_moveWall.cls ≠ "java/lang/invoke/MethodHandle" ∧ yX10_moveWall.cls ≠ "java/lang/invoke/VarHandle" ∧ (parseMethodDescriptor yX10_moveWall.desc).map (fun d => d.parameters.length) = some 3 := by decide +kernel
abbrev wsX10_turnWall : List Cond := Cond.code yX10_turnWall cX10_turnWall 2 (some .int) :: wB
theorem mvX10_turnWall : Cond.instanceMethod yX10_turnWall ∈ wB ∧ Cond.selects RX10 yX10_turnWall yX10_turnWall ∈ wB ∧ Cond.code yX10_turnWall cX10_turnWall 2 (some .int) ∈ wB := ⟨wB_at 1492 (by decide +kernel) (by decide +kernel), wB_at 1493 (by decide +kernel) (by decide +kernel), wB_at 1494 (by decide +kernel) (by decide +kernel)⟩
theorem hdX10_turnWall : yX10_turnWall.cls = RX10 ∧ yX10_turnWall.cls ≠ "java/lang/invoke/MethodHandle" ∧ yX10_turnWall.cls ≠ "java/lang/invoke/VarHandle" ∧ (parseMethodDescriptor yX10_turnWall.desc).map (fun d => d.parameters.length) = some 1 := by decide +kernel
abbrev wsX10_setKind : List Cond := Cond.code yX10_setKind cX10_setKind 4 (some .int) :: wB
theorem mvX10_setKind : Cond.instanceMethod yX10_setKind ∈ wB ∧ Cond.selects RX10 yX10_setKind yX10_setKind ∈ wB ∧ Cond.code yX10_setKind cX10_setKind 4 (some .int) ∈ wB := ⟨wB_at 1496 (by decide +kernel) (by decide +kernel), wB_at 1497 (by decide +kernel) (by decide +kernel), wB_at 1498 (by decide +kernel) (by decide +kernel)⟩
theorem hdX10_setKind : yX10_setKind.cls = RX10 ∧ yX10_setKind.cls ≠ "java/lang/invoke/MethodHandle" ∧ yX10_setKind.cls ≠ "java/lang/invoke/VarHandle" ∧ (parseMethodDescriptor yX10_setKind.desc).map (fun d => d.parameters.length) = some 2 := by decide +kernel
abbrev wsX10_setWeights : List Cond := Cond.code yX10_setWeights cX10_setWeights 4 (some .int) :: wB
theorem mvX10_setWeights : Cond.instanceMethod yX10_setWeights ∈ wB ∧ Cond.selects RX10 yX10_setWeights yX10_setWeights ∈ wB ∧ Cond.code yX10_setWeights cX10_setWeights 4 (some .int) ∈ wB := ⟨wB_at 1500 (by decide +kernel) (by decide +kernel), wB_at 1501 (by decide +kernel) (by decide +kernel), wB_at 1502 (by decide +kernel) (by decide +kernel)⟩
theorem hdX10_setWeights : yX10_setWeights.cls = RX10 ∧ yX10_setWeights.cls ≠ "java/lang/invoke/MethodHandle" ∧ yX10_setWeights.cls ≠ "java/lang/invoke/VarHandle" ∧ (parseMethodDescriptor yX10_setWeights.desc).map (fun d => d.parameters.length) = some 2 := by decide +kernel
abbrev wsX10_undo : List Cond := Cond.code yX10_undo cX10_undo 2 (some .int) :: wB
theorem mvX10_undo : Cond.instanceMethod yX10_undo ∈ wB ∧ Cond.selects RX10 yX10_undo yX10_undo ∈ wB ∧ Cond.code yX10_undo cX10_undo 2 (some .int) ∈ wB := ⟨wB_at 1508 (by decide +kernel) (by decide +kernel), wB_at 1509 (by decide +kernel) (by decide +kernel), wB_at 1510 (by decide +kernel) (by decide +kernel)⟩
theorem hdX10_undo : yX10_undo.cls = RX10 ∧ yX10_undo.cls ≠ "java/lang/invoke/MethodHandle" ∧ yX10_undo.cls ≠ "java/lang/invoke/VarHandle" ∧ (parseMethodDescriptor yX10_undo.desc).map (fun d => d.parameters.length) = some 0 := by decide +kernel
abbrev wsX10_wallCount : List Cond := Cond.code yX10_wallCount cX10_wallCount 3 (some .int) :: wB
theorem mvX10_wallCount : Cond.instanceMethod yX10_wallCount ∈ wB ∧ Cond.selects RX10 yX10_wallCount yX10_wallCount ∈ wB ∧ Cond.code yX10_wallCount cX10_wallCount 3 (some .int) ∈ wB := ⟨wB_at 1484 (by decide +kernel) (by decide +kernel), wB_at 1485 (by decide +kernel) (by decide +kernel), wB_at 1486 (by decide +kernel) (by decide +kernel)⟩
theorem hdX10_wallCount : yX10_wallCount.cls = RX10 ∧ yX10_wallCount.cls ≠ "java/lang/invoke/MethodHandle" ∧ yX10_wallCount.cls ≠ "java/lang/invoke/VarHandle" ∧ (parseMethodDescriptor yX10_wallCount.desc).map (fun d => d.parameters.length) = some 0 := by decide +kernel
abbrev wsX10_coordinate : List Cond := Cond.code yX10_coordinate cX10_coordinate 3 (some .int) :: wB
theorem mvX10_coordinate : Cond.instanceMethod yX10_coordinate ∈ wB ∧ Cond.selects RX10 yX10_coordinate yX10_coordinate ∈ wB ∧ Cond.code yX10_coordinate cX10_coordinate 3 (some .int) ∈ wB := ⟨wB_at 1513 (by decide +kernel) (by decide +kernel), wB_at 1514 (by decide +kernel) (by decide +kernel), wB_at 1515 (by decide +kernel) (by decide +kernel)⟩
theorem hdX10_coordinate : yX10_coordinate.cls = RX10 ∧ yX10_coordinate.cls ≠ "java/lang/invoke/MethodHandle" ∧ yX10_coordinate.cls ≠ "java/lang/invoke/VarHandle" ∧ (parseMethodDescriptor yX10_coordinate.desc).map (fun d => d.parameters.length) = some 2 := by decide +kernel
abbrev wsX10_kind : List Cond := Cond.code yX10_kind cX10_kind 2 (some .int) :: wB
theorem mvX10_kind : Cond.instanceMethod yX10_kind ∈ wB ∧ Cond.selects RX10 yX10_kind yX10_kind ∈ wB ∧ Cond.code yX10_kind cX10_kind 2 (some .int) ∈ wB := ⟨wB_at 1517 (by decide +kernel) (by decide +kernel), wB_at 1518 (by decide +kernel) (by decide +kernel), wB_at 1519 (by decide +kernel) (by decide +kernel)⟩
theorem hdX10_kind : yX10_kind.cls = RX10 ∧ yX10_kind.cls ≠ "java/lang/invoke/MethodHandle" ∧ yX10_kind.cls ≠ "java/lang/invoke/VarHandle" ∧ (parseMethodDescriptor yX10_kind.desc).map (fun d => d.parameters.length) = some 1 := by decide +kernel
abbrev wsX10_weights : List Cond := Cond.code yX10_weights cX10_weights 1 (some .int) :: wB
theorem mvX10_weights : Cond.instanceMethod yX10_weights ∈ wB ∧ Cond.selects RX10 yX10_weights yX10_weights ∈ wB ∧ Cond.code yX10_weights cX10_weights 1 (some .int) ∈ wB := ⟨wB_at 1504 (by decide +kernel) (by decide +kernel), wB_at 1505 (by decide +kernel) (by decide +kernel), wB_at 1506 (by decide +kernel) (by decide +kernel)⟩
theorem hdX10_weights : yX10_weights.cls = RX10 ∧ yX10_weights.cls ≠ "java/lang/invoke/MethodHandle" ∧ yX10_weights.cls ≠ "java/lang/invoke/VarHandle" ∧ (parseMethodDescriptor yX10_weights.desc).map (fun d => d.parameters.length) = some 0 := by decide +kernel
abbrev wsX10_appendText : List Cond := Cond.code yX10_appendText cX10_appendText 2 (some .int) :: wB
theorem mvX10_appendText : Cond.instanceMethod yX10_appendText ∈ wB ∧ Cond.selects RX10 yX10_appendText yX10_appendText ∈ wB ∧ Cond.code yX10_appendText cX10_appendText 2 (some .int) ∈ wB := ⟨wB_at 1522 (by decide +kernel) (by decide +kernel), wB_at 1523 (by decide +kernel) (by decide +kernel), wB_at 1524 (by decide +kernel) (by decide +kernel)⟩
theorem hdX10_appendText : yX10_appendText.cls = RX10 ∧ yX10_appendText.cls ≠ "java/lang/invoke/MethodHandle" ∧ yX10_appendText.cls ≠ "java/lang/invoke/VarHandle" ∧ (parseMethodDescriptor yX10_appendText.desc).map (fun d => d.parameters.length) = some 1 := by decide +kernel
abbrev wsX10_clearText : List Cond := Cond.code yX10_clearText cX10_clearText 2 (some .int) :: wB
theorem mvX10_clearText : Cond.instanceMethod yX10_clearText ∈ wB ∧ Cond.selects RX10 yX10_clearText yX10_clearText ∈ wB ∧ Cond.code yX10_clearText cX10_clearText 2 (some .int) ∈ wB := ⟨wB_at 1526 (by decide +kernel) (by decide +kernel), wB_at 1527 (by decide +kernel) (by decide +kernel), wB_at 1528 (by decide +kernel) (by decide +kernel)⟩
theorem hdX10_clearText : yX10_clearText.cls = RX10 ∧ yX10_clearText.cls ≠ "java/lang/invoke/MethodHandle" ∧ yX10_clearText.cls ≠ "java/lang/invoke/VarHandle" ∧ (parseMethodDescriptor yX10_clearText.desc).map (fun d => d.parameters.length) = some 0 := by decide +kernel
abbrev wsX10_here : List Cond := Cond.code yX10_here cX10_here 1 (some .int) :: wB
theorem mvX10_here : Cond.instanceMethod yX10_here ∈ wB ∧ Cond.selects RX10 yX10_here yX10_here ∈ wB ∧ Cond.code yX10_here cX10_here 1 (some .int) ∈ wB := ⟨wB_at 1539 (by decide +kernel) (by decide +kernel), wB_at 38 (by decide +kernel) (by decide +kernel), wB_at 1540 (by decide +kernel) (by decide +kernel)⟩
theorem hdX10_here : yX10_here.cls = RX10 ∧ yX10_here.cls ≠ "java/lang/invoke/MethodHandle" ∧ yX10_here.cls ≠ "java/lang/invoke/VarHandle" ∧ (parseMethodDescriptor yX10_here.desc).map (fun d => d.parameters.length) = some 0 := by decide +kernel
abbrev wsX10_fails : List Cond := Cond.code yX10_fails cX10_fails 3 none :: wB
theorem mvX10_fails : Cond.instanceMethod yX10_fails ∈ wB ∧ Cond.selects RX10 yX10_fails yX10_fails ∈ wB ∧ Cond.code yX10_fails cX10_fails 3 none ∈ wB := ⟨wB_at 1543 (by decide +kernel) (by decide +kernel), wB_at 39 (by decide +kernel) (by decide +kernel), wB_at 1544 (by decide +kernel) (by decide +kernel)⟩
theorem hdX10_fails : yX10_fails.cls = RX10 ∧ yX10_fails.cls ≠ "java/lang/invoke/MethodHandle" ∧ yX10_fails.cls ≠ "java/lang/invoke/VarHandle" ∧ (parseMethodDescriptor yX10_fails.desc).map (fun d => d.parameters.length) = some 2 := by decide +kernel
abbrev wsX10_isDigit : List Cond := Cond.code yX10_isDigit cX10_isDigit 1 (some .boolean) :: wB
theorem mvX10_isDigit : Cond.instanceMethod yX10_isDigit ∈ wB ∧ Cond.selects RX10 yX10_isDigit yX10_isDigit ∈ wB ∧ Cond.code yX10_isDigit cX10_isDigit 1 (some .boolean) ∈ wB := ⟨wB_at 1555 (by decide +kernel) (by decide +kernel), wB_at 42 (by decide +kernel) (by decide +kernel), wB_at 1556 (by decide +kernel) (by decide +kernel)⟩
theorem hdX10_isDigit : yX10_isDigit.cls = RX10 ∧ yX10_isDigit.cls ≠ "java/lang/invoke/MethodHandle" ∧ yX10_isDigit.cls ≠ "java/lang/invoke/VarHandle" ∧ (parseMethodDescriptor yX10_isDigit.desc).map (fun d => d.parameters.length) = some 0 := by decide +kernel
abbrev wsX10_number : List Cond := Cond.code yX10_number cX10_number 4 (some .int) :: wB
theorem mvX10_number : Cond.instanceMethod yX10_number ∈ wB ∧ Cond.selects RX10 yX10_number yX10_number ∈ wB ∧ Cond.code yX10_number cX10_number 4 (some .int) ∈ wB := ⟨wB_at 1551 (by decide +kernel) (by decide +kernel), wB_at 41 (by decide +kernel) (by decide +kernel), wB_at 1552 (by decide +kernel) (by decide +kernel)⟩
theorem hdX10_number : yX10_number.cls = RX10 ∧ yX10_number.cls ≠ "java/lang/invoke/MethodHandle" ∧ yX10_number.cls ≠ "java/lang/invoke/VarHandle" ∧ (parseMethodDescriptor yX10_number.desc).map (fun d => d.parameters.length) = some 1 := by decide +kernel
abbrev wsX10_read : List Cond := Cond.code yX10_read cX10_read 4 (some .int) :: wB
theorem mvX10_read : Cond.instanceMethod yX10_read ∈ wB ∧ Cond.selects RX10 yX10_read yX10_read ∈ wB ∧ Cond.code yX10_read cX10_read 4 (some .int) ∈ wB := ⟨wB_at 1535 (by decide +kernel) (by decide +kernel), wB_at 37 (by decide +kernel) (by decide +kernel), wB_at 1536 (by decide +kernel) (by decide +kernel)⟩
theorem hdX10_read : yX10_read.cls = RX10 ∧ yX10_read.cls ≠ "java/lang/invoke/MethodHandle" ∧ yX10_read.cls ≠ "java/lang/invoke/VarHandle" ∧ (parseMethodDescriptor yX10_read.desc).map (fun d => d.parameters.length) = some 0 := by decide +kernel
abbrev wsX10_readItem : List Cond := Cond.code yX10_readItem cX10_readItem 5 none :: wB
theorem mvX10_readItem : Cond.instanceMethod yX10_readItem ∈ wB ∧ Cond.selects RX10 yX10_readItem yX10_readItem ∈ wB ∧ Cond.code yX10_readItem cX10_readItem 5 none ∈ wB := ⟨wB_at 1547 (by decide +kernel) (by decide +kernel), wB_at 40 (by decide +kernel) (by decide +kernel), wB_at 1548 (by decide +kernel) (by decide +kernel)⟩
theorem hdX10_readItem : yX10_readItem.cls = RX10 ∧ yX10_readItem.cls ≠ "java/lang/invoke/MethodHandle" ∧ yX10_readItem.cls ≠ "java/lang/invoke/VarHandle" ∧ (parseMethodDescriptor yX10_readItem.desc).map (fun d => d.parameters.length) = some 2 := by decide +kernel
abbrev wsX10_load : List Cond := Cond.code yX10_load cX10_load 3 (some .int) :: wB
theorem mvX10_load : Cond.instanceMethod yX10_load ∈ wB ∧ Cond.selects RX10 yX10_load yX10_load ∈ wB ∧ Cond.code yX10_load cX10_load 3 (some .int) ∈ wB := ⟨wB_at 1530 (by decide +kernel) (by decide +kernel), wB_at 1531 (by decide +kernel) (by decide +kernel), wB_at 1532 (by decide +kernel) (by decide +kernel)⟩
theorem hdX10_load : yX10_load.cls = RX10 ∧ yX10_load.cls ≠ "java/lang/invoke/MethodHandle" ∧ yX10_load.cls ≠ "java/lang/invoke/VarHandle" ∧ (parseMethodDescriptor yX10_load.desc).map (fun d => d.parameters.length) = some 0 := by decide +kernel
abbrev wsX10_faultPlace : List Cond := Cond.code yX10_faultPlace cX10_faultPlace 1 (some .int) :: wB
theorem mvX10_faultPlace : Cond.instanceMethod yX10_faultPlace ∈ wB ∧ Cond.selects RX10 yX10_faultPlace yX10_faultPlace ∈ wB ∧ Cond.code yX10_faultPlace cX10_faultPlace 1 (some .int) ∈ wB := ⟨wB_at 1558 (by decide +kernel) (by decide +kernel), wB_at 1559 (by decide +kernel) (by decide +kernel), wB_at 1560 (by decide +kernel) (by decide +kernel)⟩
theorem hdX10_faultPlace : yX10_faultPlace.cls = RX10 ∧ yX10_faultPlace.cls ≠ "java/lang/invoke/MethodHandle" ∧ yX10_faultPlace.cls ≠ "java/lang/invoke/VarHandle" ∧ (parseMethodDescriptor yX10_faultPlace.desc).map (fun d => d.parameters.length) = some 0 := by decide +kernel
abbrev wsX10_faultKind : List Cond := Cond.code yX10_faultKind cX10_faultKind 1 (some .int) :: wB
theorem mvX10_faultKind : Cond.instanceMethod yX10_faultKind ∈ wB ∧ Cond.selects RX10 yX10_faultKind yX10_faultKind ∈ wB ∧ Cond.code yX10_faultKind cX10_faultKind 1 (some .int) ∈ wB := ⟨wB_at 1562 (by decide +kernel) (by decide +kernel), wB_at 1563 (by decide +kernel) (by decide +kernel), wB_at 1564 (by decide +kernel) (by decide +kernel)⟩
theorem hdX10_faultKind : yX10_faultKind.cls = RX10 ∧ yX10_faultKind.cls ≠ "java/lang/invoke/MethodHandle" ∧ yX10_faultKind.cls ≠ "java/lang/invoke/VarHandle" ∧ (parseMethodDescriptor yX10_faultKind.desc).map (fun d => d.parameters.length) = some 0 := by decide +kernel
abbrev wsX10_faultItem : List Cond := Cond.code yX10_faultItem cX10_faultItem 1 (some .int) :: wB
theorem mvX10_faultItem : Cond.instanceMethod yX10_faultItem ∈ wB ∧ Cond.selects RX10 yX10_faultItem yX10_faultItem ∈ wB ∧ Cond.code yX10_faultItem cX10_faultItem 1 (some .int) ∈ wB := ⟨wB_at 1566 (by decide +kernel) (by decide +kernel), wB_at 1567 (by decide +kernel) (by decide +kernel), wB_at 1568 (by decide +kernel) (by decide +kernel)⟩
theorem hdX10_faultItem : yX10_faultItem.cls = RX10 ∧ yX10_faultItem.cls ≠ "java/lang/invoke/MethodHandle" ∧ yX10_faultItem.cls ≠ "java/lang/invoke/VarHandle" ∧ (parseMethodDescriptor yX10_faultItem.desc).map (fun d => d.parameters.length) = some 0 := by decide +kernel
abbrev wsX10_side : List Cond := Cond.code yX10_side cX10_side 4 (some .int) :: wB
theorem mvX10_side : Cond.instanceMethod yX10_side ∈ wB ∧ Cond.selects RX10 yX10_side yX10_side ∈ wB ∧ Cond.code yX10_side cX10_side 4 (some .int) ∈ wB := ⟨wB_at 1611 (by decide +kernel) (by decide +kernel), wB_at 52 (by decide +kernel) (by decide +kernel), wB_at 1612 (by decide +kernel) (by decide +kernel)⟩
theorem hdX10_side : yX10_side.cls = RX10 ∧ yX10_side.cls ≠ "java/lang/invoke/MethodHandle" ∧ yX10_side.cls ≠ "java/lang/invoke/VarHandle" ∧ (parseMethodDescriptor yX10_side.desc).map (fun d => d.parameters.length) = some 3 := by decide +kernel
abbrev wsX10_startSide : List Cond := Cond.code yX10_startSide cX10_startSide 3 (some .int) :: wB
theorem mvX10_startSide : Cond.instanceMethod yX10_startSide ∈ wB ∧ Cond.selects RX10 yX10_startSide yX10_startSide ∈ wB ∧ Cond.code yX10_startSide cX10_startSide 3 (some .int) ∈ wB := ⟨wB_at 1607 (by decide +kernel) (by decide +kernel), wB_at 51 (by decide +kernel) (by decide +kernel), wB_at 1608 (by decide +kernel) (by decide +kernel)⟩
theorem hdX10_startSide : yX10_startSide.cls = RX10 ∧ yX10_startSide.cls ≠ "java/lang/invoke/MethodHandle" ∧ yX10_startSide.cls ≠ "java/lang/invoke/VarHandle" ∧ (parseMethodDescriptor yX10_startSide.desc).map (fun d => d.parameters.length) = some 2 := by decide +kernel
abbrev wsX10_endSide : List Cond := Cond.code yX10_endSide cX10_endSide 3 (some .int) :: wB
theorem mvX10_endSide : Cond.instanceMethod yX10_endSide ∈ wB ∧ Cond.selects RX10 yX10_endSide yX10_endSide ∈ wB ∧ Cond.code yX10_endSide cX10_endSide 3 (some .int) ∈ wB := ⟨wB_at 1615 (by decide +kernel) (by decide +kernel), wB_at 53 (by decide +kernel) (by decide +kernel), wB_at 1616 (by decide +kernel) (by decide +kernel)⟩
theorem hdX10_endSide : yX10_endSide.cls = RX10 ∧ yX10_endSide.cls ≠ "java/lang/invoke/MethodHandle" ∧ yX10_endSide.cls ≠ "java/lang/invoke/VarHandle" ∧ (parseMethodDescriptor yX10_endSide.desc).map (fun d => d.parameters.length) = some 2 := by decide +kernel
abbrev wsX10_signAt : List Cond := Cond.code yX10_signAt cX10_signAt 11 (some .int) :: wB
theorem mvX10_signAt : Cond.instanceMethod yX10_signAt ∈ wB ∧ Cond.selects RX10 yX10_signAt yX10_signAt ∈ wB ∧ Cond.code yX10_signAt cX10_signAt 11 (some .int) ∈ wB := ⟨wB_at 1603 (by decide +kernel) (by decide +kernel), wB_at 50 (by decide +kernel) (by decide +kernel), wB_at 1604 (by decide +kernel) (by decide +kernel)⟩
theorem hdX10_signAt : yX10_signAt.cls = RX10 ∧ yX10_signAt.cls ≠ "java/lang/invoke/MethodHandle" ∧ yX10_signAt.cls ≠ "java/lang/invoke/VarHandle" ∧ (parseMethodDescriptor yX10_signAt.desc).map (fun d => d.parameters.length) = some 4 := by decide +kernel
abbrev wsX10_relation : List Cond := Cond.code yX10_relation cX10_relation 9 (some .int) :: wB
theorem mvX10_relation : Cond.instanceMethod yX10_relation ∈ wB ∧ Cond.selects RX10 yX10_relation yX10_relation ∈ wB ∧ Cond.code yX10_relation cX10_relation 9 (some .int) ∈ wB := ⟨wB_at 1599 (by decide +kernel) (by decide +kernel), wB_at 49 (by decide +kernel) (by decide +kernel), wB_at 1600 (by decide +kernel) (by decide +kernel)⟩
theorem hdX10_relation : yX10_relation.cls = RX10 ∧ yX10_relation.cls ≠ "java/lang/invoke/MethodHandle" ∧ yX10_relation.cls ≠ "java/lang/invoke/VarHandle" ∧ (parseMethodDescriptor yX10_relation.desc).map (fun d => d.parameters.length) = some 6 := by decide +kernel
abbrev wsX10_divisor : List Cond := Cond.code yX10_divisor cX10_divisor 5 (some .int) :: wB
theorem mvX10_divisor : Cond.static yX10_divisor ∈ wB ∧ Cond.code yX10_divisor cX10_divisor 5 (some .int) ∈ wB := ⟨wB_at 1634 (by decide +kernel) (by decide +kernel), wB_at 1635 (by decide +kernel) (by decide +kernel)⟩
theorem hdX10_divisor : yX10_divisor.cls ≠ "java/lang/invoke/MethodHandle" ∧ yX10_divisor.cls ≠ "java/lang/invoke/VarHandle" ∧ (parseMethodDescriptor yX10_divisor.desc).map (fun d => d.parameters.length) = some 2 := by decide +kernel
abbrev wsX10_cut : List Cond := Cond.code yX10_cut cX10_cut 6 none :: wB
theorem mvX10_cut : Cond.instanceMethod yX10_cut ∈ wB ∧ Cond.selects RX10 yX10_cut yX10_cut ∈ wB ∧ Cond.code yX10_cut cX10_cut 6 none ∈ wB := ⟨wB_at 1631 (by decide +kernel) (by decide +kernel), wB_at 57 (by decide +kernel) (by decide +kernel), wB_at 1632 (by decide +kernel) (by decide +kernel)⟩
theorem hdX10_cut : yX10_cut.cls = RX10 ∧ yX10_cut.cls ≠ "java/lang/invoke/MethodHandle" ∧ yX10_cut.cls ≠ "java/lang/invoke/VarHandle" ∧ (parseMethodDescriptor yX10_cut.desc).map (fun d => d.parameters.length) = some 2 := by decide +kernel
abbrev wsX10_addPiece : List Cond := Cond.code yX10_addPiece cX10_addPiece 7 none :: wB
theorem mvX10_addPiece : Cond.instanceMethod yX10_addPiece ∈ wB ∧ Cond.selects RX10 yX10_addPiece yX10_addPiece ∈ wB ∧ Cond.code yX10_addPiece cX10_addPiece 7 none ∈ wB := ⟨wB_at 1627 (by decide +kernel) (by decide +kernel), wB_at 56 (by decide +kernel) (by decide +kernel), wB_at 1628 (by decide +kernel) (by decide +kernel)⟩
theorem hdX10_addPiece : yX10_addPiece.cls = RX10 ∧ yX10_addPiece.cls ≠ "java/lang/invoke/MethodHandle" ∧ yX10_addPiece.cls ≠ "java/lang/invoke/VarHandle" ∧ (parseMethodDescriptor yX10_addPiece.desc).map (fun d => d.parameters.length) = some 6 := by decide +kernel
abbrev wsX10_addNode : List Cond := Cond.code yX10_addNode cX10_addNode 4 (some .int) :: wB
theorem mvX10_addNode : Cond.instanceMethod yX10_addNode ∈ wB ∧ Cond.selects RX10 yX10_addNode yX10_addNode ∈ wB ∧ Cond.code yX10_addNode cX10_addNode 4 (some .int) ∈ wB := ⟨wB_at 1619 (by decide +kernel) (by decide +kernel), wB_at 54 (by decide +kernel) (by decide +kernel), wB_at 1620 (by decide +kernel) (by decide +kernel)⟩
theorem hdX10_addNode : yX10_addNode.cls = RX10 ∧ yX10_addNode.cls ≠ "java/lang/invoke/MethodHandle" ∧ yX10_addNode.cls ≠ "java/lang/invoke/VarHandle" ∧ (parseMethodDescriptor yX10_addNode.desc).map (fun d => d.parameters.length) = some 3 := by decide +kernel
abbrev wsX10_price : List Cond := Cond.code yX10_price cX10_price 10 (some .int) :: wB
theorem mvX10_price : Cond.instanceMethod yX10_price ∈ wB ∧ Cond.selects RX10 yX10_price yX10_price ∈ wB ∧ Cond.code yX10_price cX10_price 10 (some .int) ∈ wB := ⟨wB_at 1595 (by decide +kernel) (by decide +kernel), wB_at 48 (by decide +kernel) (by decide +kernel), wB_at 1596 (by decide +kernel) (by decide +kernel)⟩
theorem hdX10_price : yX10_price.cls = RX10 ∧ yX10_price.cls ≠ "java/lang/invoke/MethodHandle" ∧ yX10_price.cls ≠ "java/lang/invoke/VarHandle" ∧ (parseMethodDescriptor yX10_price.desc).map (fun d => d.parameters.length) = some 4 := by decide +kernel
abbrev wsX10_put : List Cond := Cond.code yX10_put cX10_put 8 none :: wB
theorem mvX10_put : Cond.instanceMethod yX10_put ∈ wB ∧ Cond.selects RX10 yX10_put yX10_put ∈ wB ∧ Cond.code yX10_put cX10_put 8 none ∈ wB := ⟨wB_at 1587 (by decide +kernel) (by decide +kernel), wB_at 46 (by decide +kernel) (by decide +kernel), wB_at 1588 (by decide +kernel) (by decide +kernel)⟩
theorem hdX10_put : yX10_put.cls = RX10 ∧ yX10_put.cls ≠ "java/lang/invoke/MethodHandle" ∧ yX10_put.cls ≠ "java/lang/invoke/VarHandle" ∧ (parseMethodDescriptor yX10_put.desc).map (fun d => d.parameters.length) = some 6 := by decide +kernel
abbrev wsX10_makeFixed : List Cond := Cond.code yX10_makeFixed cX10_makeFixed 4 none :: wB
theorem mvX10_makeFixed : Cond.instanceMethod yX10_makeFixed ∈ wB ∧ Cond.selects RX10 yX10_makeFixed yX10_makeFixed ∈ wB ∧ Cond.code yX10_makeFixed cX10_makeFixed 4 none ∈ wB := ⟨wB_at 1583 (by decide +kernel) (by decide +kernel), wB_at 45 (by decide +kernel) (by decide +kernel), wB_at 1584 (by decide +kernel) (by decide +kernel)⟩
theorem hdX10_makeFixed : yX10_makeFixed.cls = RX10 ∧ yX10_makeFixed.cls ≠ "java/lang/invoke/MethodHandle" ∧ yX10_makeFixed.cls ≠ "java/lang/invoke/VarHandle" ∧ (parseMethodDescriptor yX10_makeFixed.desc).map (fun d => d.parameters.length) = some 2 := by decide +kernel
abbrev wsX10_makeNode : List Cond := Cond.code yX10_makeNode cX10_makeNode 8 none :: wB
theorem mvX10_makeNode : Cond.instanceMethod yX10_makeNode ∈ wB ∧ Cond.selects RX10 yX10_makeNode yX10_makeNode ∈ wB ∧ Cond.code yX10_makeNode cX10_makeNode 8 none ∈ wB := ⟨wB_at 1591 (by decide +kernel) (by decide +kernel), wB_at 47 (by decide +kernel) (by decide +kernel), wB_at 1592 (by decide +kernel) (by decide +kernel)⟩
theorem hdX10_makeNode : yX10_makeNode.cls = RX10 ∧ yX10_makeNode.cls ≠ "java/lang/invoke/MethodHandle" ∧ yX10_makeNode.cls ≠ "java/lang/invoke/VarHandle" ∧ (parseMethodDescriptor yX10_makeNode.desc).map (fun d => d.parameters.length) = some 2 := by decide +kernel
abbrev wsX10_partition : List Cond := Cond.code yX10_partition cX10_partition 10 none :: wB
theorem mvX10_partition : Cond.instanceMethod yX10_partition ∈ wB ∧ Cond.selects RX10 yX10_partition yX10_partition ∈ wB ∧ Cond.code yX10_partition cX10_partition 10 none ∈ wB := ⟨wB_at 1623 (by decide +kernel) (by decide +kernel), wB_at 55 (by decide +kernel) (by decide +kernel), wB_at 1624 (by decide +kernel) (by decide +kernel)⟩
theorem hdX10_partition : yX10_partition.cls = RX10 ∧ yX10_partition.cls ≠ "java/lang/invoke/MethodHandle" ∧ yX10_partition.cls ≠ "java/lang/invoke/VarHandle" ∧ (parseMethodDescriptor yX10_partition.desc).map (fun d => d.parameters.length) = some 3 := by decide +kernel
abbrev wsX10_insert : List Cond := Cond.code yX10_insert cX10_insert 12 none :: wB
theorem mvX10_insert : Cond.instanceMethod yX10_insert ∈ wB ∧ Cond.selects RX10 yX10_insert yX10_insert ∈ wB ∧ Cond.code yX10_insert cX10_insert 12 none ∈ wB := ⟨wB_at 1638 (by decide +kernel) (by decide +kernel), wB_at 58 (by decide +kernel) (by decide +kernel), wB_at 1639 (by decide +kernel) (by decide +kernel)⟩
theorem hdX10_insert : yX10_insert.cls = RX10 ∧ yX10_insert.cls ≠ "java/lang/invoke/MethodHandle" ∧ yX10_insert.cls ≠ "java/lang/invoke/VarHandle" ∧ (parseMethodDescriptor yX10_insert.desc).map (fun d => d.parameters.length) = some 1 := by decide +kernel
abbrev wsX10_push : List Cond := Cond.code yX10_push cX10_push 9 none :: wB
theorem mvX10_push : Cond.instanceMethod yX10_push ∈ wB ∧ Cond.selects RX10 yX10_push yX10_push ∈ wB ∧ Cond.code yX10_push cX10_push 9 none ∈ wB := ⟨wB_at 1642 (by decide +kernel) (by decide +kernel), wB_at 59 (by decide +kernel) (by decide +kernel), wB_at 1643 (by decide +kernel) (by decide +kernel)⟩
theorem hdX10_push : yX10_push.cls = RX10 ∧ yX10_push.cls ≠ "java/lang/invoke/MethodHandle" ∧ yX10_push.cls ≠ "java/lang/invoke/VarHandle" ∧ (parseMethodDescriptor yX10_push.desc).map (fun d => d.parameters.length) = some 7 := by decide +kernel
abbrev wsX10_leaf : List Cond := Cond.code yX10_leaf cX10_leaf 3 none :: wB
theorem mvX10_leaf : Cond.instanceMethod yX10_leaf ∈ wB ∧ Cond.selects RX10 yX10_leaf yX10_leaf ∈ wB ∧ Cond.code yX10_leaf cX10_leaf 3 none ∈ wB := ⟨wB_at 1650 (by decide +kernel) (by decide +kernel), wB_at 61 (by decide +kernel) (by decide +kernel), wB_at 1651 (by decide +kernel) (by decide +kernel)⟩
theorem hdX10_leaf : yX10_leaf.cls = RX10 ∧ yX10_leaf.cls ≠ "java/lang/invoke/MethodHandle" ∧ yX10_leaf.cls ≠ "java/lang/invoke/VarHandle" ∧ (parseMethodDescriptor yX10_leaf.desc).map (fun d => d.parameters.length) = some 2 := by decide +kernel
abbrev wsX10_number_ : List Cond := Cond.code yX10_number_ cX10_number_ 8 none :: wB
theorem mvX10_number_ : Cond.instanceMethod yX10_number_ ∈ wB ∧ Cond.selects RX10 yX10_number_ yX10_number_ ∈ wB ∧ Cond.code yX10_number_ cX10_number_ 8 none ∈ wB := ⟨wB_at 1646 (by decide +kernel) (by decide +kernel), wB_at 60 (by decide +kernel) (by decide +kernel), wB_at 1647 (by decide +kernel) (by decide +kernel)⟩
theorem hdX10_number_ : yX10_number_.cls = RX10 ∧ yX10_number_.cls ≠ "java/lang/invoke/MethodHandle" ∧ yX10_number_.cls ≠ "java/lang/invoke/VarHandle" ∧ (parseMethodDescriptor yX10_number_.desc).map (fun d => d.parameters.length) = some 0 := by decide +kernel
abbrev wsX10_countBuild : List Cond := Cond.code yX10_countBuild cX10_countBuild 5 none :: wB
theorem mvX10_countBuild : Cond.instanceMethod yX10_countBuild ∈ wB ∧ Cond.selects RX10 yX10_countBuild yX10_countBuild ∈ wB ∧ Cond.code yX10_countBuild cX10_countBuild 5 none ∈ wB := ⟨wB_at 1579 (by decide +kernel) (by decide +kernel), wB_at 44 (by decide +kernel) (by decide +kernel), wB_at 1580 (by decide +kernel) (by decide +kernel)⟩
theorem hdX10_countBuild : yX10_countBuild.cls = RX10 ∧ yX10_countBuild.cls ≠ "java/lang/invoke/MethodHandle" ∧ yX10_countBuild.cls ≠ "java/lang/invoke/VarHandle" ∧ (parseMethodDescriptor yX10_countBuild.desc).map (fun d => d.parameters.length) = some 0 := by decide +kernel
abbrev wsX10_tree : List Cond := Cond.code yX10_tree cX10_tree 2 none :: wB
theorem mvX10_tree : Cond.instanceMethod yX10_tree ∈ wB ∧ Cond.selects RX10 yX10_tree yX10_tree ∈ wB ∧ Cond.code yX10_tree cX10_tree 2 none ∈ wB := ⟨wB_at 1575 (by decide +kernel) (by decide +kernel), wB_at 43 (by decide +kernel) (by decide +kernel), wB_at 1576 (by decide +kernel) (by decide +kernel)⟩
theorem hdX10_tree : yX10_tree.cls = RX10 ∧ yX10_tree.cls ≠ "java/lang/invoke/MethodHandle" ∧ yX10_tree.cls ≠ "java/lang/invoke/VarHandle" ∧ (parseMethodDescriptor yX10_tree.desc).map (fun d => d.parameters.length) = some 0 := by decide +kernel
abbrev wsX10_nodeCount : List Cond := Cond.code yX10_nodeCount cX10_nodeCount 1 (some .int) :: wB
theorem mvX10_nodeCount : Cond.instanceMethod yX10_nodeCount ∈ wB ∧ Cond.selects RX10 yX10_nodeCount yX10_nodeCount ∈ wB ∧ Cond.code yX10_nodeCount cX10_nodeCount 1 (some .int) ∈ wB := ⟨wB_at 1570 (by decide +kernel) (by decide +kernel), wB_at 1571 (by decide +kernel) (by decide +kernel), wB_at 1572 (by decide +kernel) (by decide +kernel)⟩
theorem hdX10_nodeCount : yX10_nodeCount.cls = RX10 ∧ yX10_nodeCount.cls ≠ "java/lang/invoke/MethodHandle" ∧ yX10_nodeCount.cls ≠ "java/lang/invoke/VarHandle" ∧ (parseMethodDescriptor yX10_nodeCount.desc).map (fun d => d.parameters.length) = some 0 := by decide +kernel
abbrev wsX10_nodeWall : List Cond := Cond.code yX10_nodeWall cX10_nodeWall 2 (some .int) :: wB
theorem mvX10_nodeWall : Cond.instanceMethod yX10_nodeWall ∈ wB ∧ Cond.selects RX10 yX10_nodeWall yX10_nodeWall ∈ wB ∧ Cond.code yX10_nodeWall cX10_nodeWall 2 (some .int) ∈ wB := ⟨wB_at 1653 (by decide +kernel) (by decide +kernel), wB_at 1654 (by decide +kernel) (by decide +kernel), wB_at 1655 (by decide +kernel) (by decide +kernel)⟩
theorem hdX10_nodeWall : yX10_nodeWall.cls = RX10 ∧ yX10_nodeWall.cls ≠ "java/lang/invoke/MethodHandle" ∧ yX10_nodeWall.cls ≠ "java/lang/invoke/VarHandle" ∧ (parseMethodDescriptor yX10_nodeWall.desc).map (fun d => d.parameters.length) = some 1 := by decide +kernel
abbrev wsX10_nodeChild : List Cond := Cond.code yX10_nodeChild cX10_nodeChild 4 (some .int) :: wB
theorem mvX10_nodeChild : Cond.instanceMethod yX10_nodeChild ∈ wB ∧ Cond.selects RX10 yX10_nodeChild yX10_nodeChild ∈ wB ∧ Cond.code yX10_nodeChild cX10_nodeChild 4 (some .int) ∈ wB := ⟨wB_at 1657 (by decide +kernel) (by decide +kernel), wB_at 1658 (by decide +kernel) (by decide +kernel), wB_at 1659 (by decide +kernel) (by decide +kernel)⟩
theorem hdX10_nodeChild : yX10_nodeChild.cls = RX10 ∧ yX10_nodeChild.cls ≠ "java/lang/invoke/MethodHandle" ∧ yX10_nodeChild.cls ≠ "java/lang/invoke/VarHandle" ∧ (parseMethodDescriptor yX10_nodeChild.desc).map (fun d => d.parameters.length) = some 2 := by decide +kernel
abbrev wsX10_nodeDepth : List Cond := Cond.code yX10_nodeDepth cX10_nodeDepth 2 (some .int) :: wB
theorem mvX10_nodeDepth : Cond.instanceMethod yX10_nodeDepth ∈ wB ∧ Cond.selects RX10 yX10_nodeDepth yX10_nodeDepth ∈ wB ∧ Cond.code yX10_nodeDepth cX10_nodeDepth 2 (some .int) ∈ wB := ⟨wB_at 1661 (by decide +kernel) (by decide +kernel), wB_at 1662 (by decide +kernel) (by decide +kernel), wB_at 1663 (by decide +kernel) (by decide +kernel)⟩
theorem hdX10_nodeDepth : yX10_nodeDepth.cls = RX10 ∧ yX10_nodeDepth.cls ≠ "java/lang/invoke/MethodHandle" ∧ yX10_nodeDepth.cls ≠ "java/lang/invoke/VarHandle" ∧ (parseMethodDescriptor yX10_nodeDepth.desc).map (fun d => d.parameters.length) = some 1 := by decide +kernel
abbrev wsX10_pieceCount : List Cond := Cond.code yX10_pieceCount cX10_pieceCount 1 (some .int) :: wB
theorem mvX10_pieceCount : Cond.instanceMethod yX10_pieceCount ∈ wB ∧ Cond.selects RX10 yX10_pieceCount yX10_pieceCount ∈ wB ∧ Cond.code yX10_pieceCount cX10_pieceCount 1 (some .int) ∈ wB := ⟨wB_at 1665 (by decide +kernel) (by decide +kernel), wB_at 1666 (by decide +kernel) (by decide +kernel), wB_at 1667 (by decide +kernel) (by decide +kernel)⟩
theorem hdX10_pieceCount : yX10_pieceCount.cls = RX10 ∧ yX10_pieceCount.cls ≠ "java/lang/invoke/MethodHandle" ∧ yX10_pieceCount.cls ≠ "java/lang/invoke/VarHandle" ∧ (parseMethodDescriptor yX10_pieceCount.desc).map (fun d => d.parameters.length) = some 0 := by decide +kernel
abbrev wsX10_pieceWall : List Cond := Cond.code yX10_pieceWall cX10_pieceWall 2 (some .int) :: wB
theorem mvX10_pieceWall : Cond.instanceMethod yX10_pieceWall ∈ wB ∧ Cond.selects RX10 yX10_pieceWall yX10_pieceWall ∈ wB ∧ Cond.code yX10_pieceWall cX10_pieceWall 2 (some .int) ∈ wB := ⟨wB_at 1669 (by decide +kernel) (by decide +kernel), wB_at 1670 (by decide +kernel) (by decide +kernel), wB_at 1671 (by decide +kernel) (by decide +kernel)⟩
theorem hdX10_pieceWall : yX10_pieceWall.cls = RX10 ∧ yX10_pieceWall.cls ≠ "java/lang/invoke/MethodHandle" ∧ yX10_pieceWall.cls ≠ "java/lang/invoke/VarHandle" ∧ (parseMethodDescriptor yX10_pieceWall.desc).map (fun d => d.parameters.length) = some 1 := by decide +kernel
abbrev wsX10_pieceNode : List Cond := Cond.code yX10_pieceNode cX10_pieceNode 2 (some .int) :: wB
theorem mvX10_pieceNode : Cond.instanceMethod yX10_pieceNode ∈ wB ∧ Cond.selects RX10 yX10_pieceNode yX10_pieceNode ∈ wB ∧ Cond.code yX10_pieceNode cX10_pieceNode 2 (some .int) ∈ wB := ⟨wB_at 1673 (by decide +kernel) (by decide +kernel), wB_at 1674 (by decide +kernel) (by decide +kernel), wB_at 1675 (by decide +kernel) (by decide +kernel)⟩
theorem hdX10_pieceNode : yX10_pieceNode.cls = RX10 ∧ yX10_pieceNode.cls ≠ "java/lang/invoke/MethodHandle" ∧ yX10_pieceNode.cls ≠ "java/lang/invoke/VarHandle" ∧ (parseMethodDescriptor yX10_pieceNode.desc).map (fun d => d.parameters.length) = some 1 := by decide +kernel
abbrev wsX10_pieceBound : List Cond := Cond.code yX10_pieceBound cX10_pieceBound 3 (some .int) :: wB
theorem mvX10_pieceBound : Cond.instanceMethod yX10_pieceBound ∈ wB ∧ Cond.selects RX10 yX10_pieceBound yX10_pieceBound ∈ wB ∧ Cond.code yX10_pieceBound cX10_pieceBound 3 (some .int) ∈ wB := ⟨wB_at 1677 (by decide +kernel) (by decide +kernel), wB_at 1678 (by decide +kernel) (by decide +kernel), wB_at 1679 (by decide +kernel) (by decide +kernel)⟩
theorem hdX10_pieceBound : yX10_pieceBound.cls = RX10 ∧ yX10_pieceBound.cls ≠ "java/lang/invoke/MethodHandle" ∧ yX10_pieceBound.cls ≠ "java/lang/invoke/VarHandle" ∧ (parseMethodDescriptor yX10_pieceBound.desc).map (fun d => d.parameters.length) = some 2 := by decide +kernel
abbrev wsX10_squaredLength : List Cond := Cond.code yX10_squaredLength cX10_squaredLength 4 (some .int) :: wB
theorem mvX10_squaredLength : Cond.instanceMethod yX10_squaredLength ∈ wB ∧ Cond.selects RX10 yX10_squaredLength yX10_squaredLength ∈ wB ∧ Cond.code yX10_squaredLength cX10_squaredLength 4 (some .int) ∈ wB := ⟨wB_at 1687 (by decide +kernel) (by decide +kernel), wB_at 62 (by decide +kernel) (by decide +kernel), wB_at 1688 (by decide +kernel) (by decide +kernel)⟩
theorem hdX10_squaredLength : yX10_squaredLength.cls = RX10 ∧ yX10_squaredLength.cls ≠ "java/lang/invoke/MethodHandle" ∧ yX10_squaredLength.cls ≠ "java/lang/invoke/VarHandle" ∧ (parseMethodDescriptor yX10_squaredLength.desc).map (fun d => d.parameters.length) = some 1 := by decide +kernel
abbrev wsX10_root : List Cond := Cond.code yX10_root cX10_root 10 (some .double) :: wB
theorem mvX10_root : Cond.static yX10_root ∈ wB ∧ Cond.code yX10_root cX10_root 10 (some .double) ∈ wB := ⟨wB_at 1690 (by decide +kernel) (by decide +kernel), wB_at 1691 (by decide +kernel) (by decide +kernel)⟩
theorem hdX10_root : yX10_root.cls ≠ "java/lang/invoke/MethodHandle" ∧ yX10_root.cls ≠ "java/lang/invoke/VarHandle" ∧ (parseMethodDescriptor yX10_root.desc).map (fun d => d.parameters.length) = some 1 := by decide +kernel
abbrev wsX10_pieceLength : List Cond := Cond.code yX10_pieceLength cX10_pieceLength 7 (some .double) :: wB
theorem mvX10_pieceLength : Cond.instanceMethod yX10_pieceLength ∈ wB ∧ Cond.selects RX10 yX10_pieceLength yX10_pieceLength ∈ wB ∧ Cond.code yX10_pieceLength cX10_pieceLength 7 (some .double) ∈ wB := ⟨wB_at 1681 (by decide +kernel) (by decide +kernel), wB_at 1682 (by decide +kernel) (by decide +kernel), wB_at 1683 (by decide +kernel) (by decide +kernel)⟩
theorem hdX10_pieceLength : yX10_pieceLength.cls = RX10 ∧ yX10_pieceLength.cls ≠ "java/lang/invoke/MethodHandle" ∧ yX10_pieceLength.cls ≠ "java/lang/invoke/VarHandle" ∧ (parseMethodDescriptor yX10_pieceLength.desc).map (fun d => d.parameters.length) = some 1 := by decide +kernel
abbrev wsX10_isPoint : List Cond := Cond.code yX10_isPoint cX10_isPoint 2 (some .boolean) :: wB
theorem mvX10_isPoint : Cond.static yX10_isPoint ∈ wB ∧ Cond.code yX10_isPoint cX10_isPoint 2 (some .boolean) ∈ wB := ⟨wB_at 1701 (by decide +kernel) (by decide +kernel), wB_at 1702 (by decide +kernel) (by decide +kernel)⟩
theorem hdX10_isPoint : yX10_isPoint.cls ≠ "java/lang/invoke/MethodHandle" ∧ yX10_isPoint.cls ≠ "java/lang/invoke/VarHandle" ∧ (parseMethodDescriptor yX10_isPoint.desc).map (fun d => d.parameters.length) = some 2 := by decide +kernel
abbrev wsX10_locate : List Cond := Cond.code yX10_locate cX10_locate 6 (some .int) :: wB
theorem mvX10_locate : Cond.instanceMethod yX10_locate ∈ wB ∧ Cond.selects RX10 yX10_locate yX10_locate ∈ wB ∧ Cond.code yX10_locate cX10_locate 6 (some .int) ∈ wB := ⟨wB_at 1697 (by decide +kernel) (by decide +kernel), wB_at 1698 (by decide +kernel) (by decide +kernel), wB_at 1699 (by decide +kernel) (by decide +kernel)⟩
theorem hdX10_locate : yX10_locate.cls = RX10 ∧ yX10_locate.cls ≠ "java/lang/invoke/MethodHandle" ∧ yX10_locate.cls ≠ "java/lang/invoke/VarHandle" ∧ (parseMethodDescriptor yX10_locate.desc).map (fun d => d.parameters.length) = some 2 := by decide +kernel
abbrev wsX10_meanLeafDepth : List Cond := Cond.code yX10_meanLeafDepth cX10_meanLeafDepth 1 (some .double) :: wB
theorem mvX10_meanLeafDepth : Cond.instanceMethod yX10_meanLeafDepth ∈ wB ∧ Cond.selects RX10 yX10_meanLeafDepth yX10_meanLeafDepth ∈ wB ∧ Cond.code yX10_meanLeafDepth cX10_meanLeafDepth 1 (some .double) ∈ wB := ⟨wB_at 1704 (by decide +kernel) (by decide +kernel), wB_at 1705 (by decide +kernel) (by decide +kernel), wB_at 1706 (by decide +kernel) (by decide +kernel)⟩
theorem hdX10_meanLeafDepth : yX10_meanLeafDepth.cls = RX10 ∧ yX10_meanLeafDepth.cls ≠ "java/lang/invoke/MethodHandle" ∧ yX10_meanLeafDepth.cls ≠ "java/lang/invoke/VarHandle" ∧ (parseMethodDescriptor yX10_meanLeafDepth.desc).map (fun d => d.parameters.length) = some 0 := by decide +kernel
abbrev wsX10_buildCount : List Cond := Cond.code yX10_buildCount cX10_buildCount 1 (some .int) :: wB
theorem mvX10_buildCount : Cond.instanceMethod yX10_buildCount ∈ wB ∧ Cond.selects RX10 yX10_buildCount yX10_buildCount ∈ wB ∧ Cond.code yX10_buildCount cX10_buildCount 1 (some .int) ∈ wB := ⟨wB_at 1708 (by decide +kernel) (by decide +kernel), wB_at 1709 (by decide +kernel) (by decide +kernel), wB_at 1710 (by decide +kernel) (by decide +kernel)⟩
theorem hdX10_buildCount : yX10_buildCount.cls = RX10 ∧ yX10_buildCount.cls ≠ "java/lang/invoke/MethodHandle" ∧ yX10_buildCount.cls ≠ "java/lang/invoke/VarHandle" ∧ (parseMethodDescriptor yX10_buildCount.desc).map (fun d => d.parameters.length) = some 0 := by decide +kernel
abbrev wsX10_isDrawn : List Cond := Cond.code yX10_isDrawn cX10_isDrawn 5 (some .boolean) :: wB
theorem mvX10_isDrawn : Cond.instanceMethod yX10_isDrawn ∈ wB ∧ Cond.selects RX10 yX10_isDrawn yX10_isDrawn ∈ wB ∧ Cond.code yX10_isDrawn cX10_isDrawn 5 (some .boolean) ∈ wB := ⟨wB_at 1721 (by decide +kernel) (by decide +kernel), wB_at 64 (by decide +kernel) (by decide +kernel), wB_at 1722 (by decide +kernel) (by decide +kernel)⟩
theorem hdX10_isDrawn : yX10_isDrawn.cls = RX10 ∧ yX10_isDrawn.cls ≠ "java/lang/invoke/MethodHandle" ∧ yX10_isDrawn.cls ≠ "java/lang/invoke/VarHandle" ∧ (parseMethodDescriptor yX10_isDrawn.desc).map (fun d => d.parameters.length) = some 3 := by decide +kernel
abbrev wsX10_draw : List Cond := Cond.code yX10_draw cX10_draw 7 none :: wB
theorem mvX10_draw : Cond.instanceMethod yX10_draw ∈ wB ∧ Cond.selects RX10 yX10_draw yX10_draw ∈ wB ∧ Cond.code yX10_draw cX10_draw 7 none ∈ wB := ⟨wB_at 1717 (by decide +kernel) (by decide +kernel), wB_at 63 (by decide +kernel) (by decide +kernel), wB_at 1718 (by decide +kernel) (by decide +kernel)⟩
theorem hdX10_draw : yX10_draw.cls = RX10 ∧ yX10_draw.cls ≠ "java/lang/invoke/MethodHandle" ∧ yX10_draw.cls ≠ "java/lang/invoke/VarHandle" ∧ (parseMethodDescriptor yX10_draw.desc).map (fun d => d.parameters.length) = some 2 := by decide +kernel
abbrev wsX10_drawCount : List Cond := Cond.code yX10_drawCount cX10_drawCount 3 (some .int) :: wB
theorem mvX10_drawCount : Cond.instanceMethod yX10_drawCount ∈ wB ∧ Cond.selects RX10 yX10_drawCount yX10_drawCount ∈ wB ∧ Cond.code yX10_drawCount cX10_drawCount 3 (some .int) ∈ wB := ⟨wB_at 1712 (by decide +kernel) (by decide +kernel), wB_at 1713 (by decide +kernel) (by decide +kernel), wB_at 1714 (by decide +kernel) (by decide +kernel)⟩
theorem hdX10_drawCount : yX10_drawCount.cls = RX10 ∧ yX10_drawCount.cls ≠ "java/lang/invoke/MethodHandle" ∧ yX10_drawCount.cls ≠ "java/lang/invoke/VarHandle" ∧ (parseMethodDescriptor yX10_drawCount.desc).map (fun d => d.parameters.length) = some 2 := by decide +kernel
abbrev wsX10_drawPiece : List Cond := Cond.code yX10_drawPiece cX10_drawPiece 4 (some .int) :: wB
theorem mvX10_drawPiece : Cond.instanceMethod yX10_drawPiece ∈ wB ∧ Cond.selects RX10 yX10_drawPiece yX10_drawPiece ∈ wB ∧ Cond.code yX10_drawPiece cX10_drawPiece 4 (some .int) ∈ wB := ⟨wB_at 1724 (by decide +kernel) (by decide +kernel), wB_at 1725 (by decide +kernel) (by decide +kernel), wB_at 1726 (by decide +kernel) (by decide +kernel)⟩
theorem hdX10_drawPiece : yX10_drawPiece.cls = RX10 ∧ yX10_drawPiece.cls ≠ "java/lang/invoke/MethodHandle" ∧ yX10_drawPiece.cls ≠ "java/lang/invoke/VarHandle" ∧ (parseMethodDescriptor yX10_drawPiece.desc).map (fun d => d.parameters.length) = some 3 := by decide +kernel
abbrev wsX10_isHit : List Cond := Cond.code yX10_isHit cX10_isHit 18 (some .boolean) :: wB
theorem mvX10_isHit : Cond.instanceMethod yX10_isHit ∈ wB ∧ Cond.selects RX10 yX10_isHit yX10_isHit ∈ wB ∧ Cond.code yX10_isHit cX10_isHit 18 (some .boolean) ∈ wB := ⟨wB_at 1746 (by decide +kernel) (by decide +kernel), wB_at 66 (by decide +kernel) (by decide +kernel), wB_at 1747 (by decide +kernel) (by decide +kernel)⟩
theorem hdX10_isHit : yX10_isHit.cls = RX10 ∧ yX10_isHit.cls ≠ "java/lang/invoke/MethodHandle" ∧ yX10_isHit.cls ≠ "java/lang/invoke/VarHandle" ∧ (parseMethodDescriptor yX10_isHit.desc).map (fun d => d.parameters.length) = some 5 := by decide +kernel
abbrev wsX10_isPicture : List Cond := Cond.code yX10_isPicture cX10_isPicture 4 (some .boolean) :: wB
theorem mvX10_isPicture : Cond.static yX10_isPicture ∈ wB ∧ Cond.code yX10_isPicture cX10_isPicture 4 (some .boolean) ∈ wB := ⟨wB_at 1732 (by decide +kernel) (by decide +kernel), wB_at 1733 (by decide +kernel) (by decide +kernel)⟩
theorem hdX10_isPicture : yX10_isPicture.cls ≠ "java/lang/invoke/MethodHandle" ∧ yX10_isPicture.cls ≠ "java/lang/invoke/VarHandle" ∧ (parseMethodDescriptor yX10_isPicture.desc).map (fun d => d.parameters.length) = some 4 := by decide +kernel
abbrev wsX10_rayX : List Cond := Cond.code yX10_rayX cX10_rayX 3 (some .int) :: wB
theorem mvX10_rayX : Cond.static yX10_rayX ∈ wB ∧ Cond.code yX10_rayX cX10_rayX 3 (some .int) ∈ wB := ⟨wB_at 1739 (by decide +kernel) (by decide +kernel), wB_at 1740 (by decide +kernel) (by decide +kernel)⟩
theorem hdX10_rayX : yX10_rayX.cls ≠ "java/lang/invoke/MethodHandle" ∧ yX10_rayX.cls ≠ "java/lang/invoke/VarHandle" ∧ (parseMethodDescriptor yX10_rayX.desc).map (fun d => d.parameters.length) = some 3 := by decide +kernel
abbrev wsX10_rayY : List Cond := Cond.code yX10_rayY cX10_rayY 3 (some .int) :: wB
theorem mvX10_rayY : Cond.static yX10_rayY ∈ wB ∧ Cond.code yX10_rayY cX10_rayY 3 (some .int) ∈ wB := ⟨wB_at 1742 (by decide +kernel) (by decide +kernel), wB_at 1743 (by decide +kernel) (by decide +kernel)⟩
theorem hdX10_rayY : yX10_rayY.cls ≠ "java/lang/invoke/MethodHandle" ∧ yX10_rayY.cls ≠ "java/lang/invoke/VarHandle" ∧ (parseMethodDescriptor yX10_rayY.desc).map (fun d => d.parameters.length) = some 3 := by decide +kernel
abbrev wsX10_covers : List Cond := Cond.code yX10_covers cX10_covers 7 (some .boolean) :: wB
theorem mvX10_covers : Cond.instanceMethod yX10_covers ∈ wB ∧ Cond.selects RX10 yX10_covers yX10_covers ∈ wB ∧ Cond.code yX10_covers cX10_covers 7 (some .boolean) ∈ wB := ⟨wB_at 1736 (by decide +kernel) (by decide +kernel), wB_at 65 (by decide +kernel) (by decide +kernel), wB_at 1737 (by decide +kernel) (by decide +kernel)⟩
theorem hdX10_covers : yX10_covers.cls = RX10 ∧ yX10_covers.cls ≠ "java/lang/invoke/MethodHandle" ∧ yX10_covers.cls ≠ "java/lang/invoke/VarHandle" ∧ (parseMethodDescriptor yX10_covers.desc).map (fun d => d.parameters.length) = some 6 := by decide +kernel
abbrev wsX10_paintCount : List Cond := Cond.code yX10_paintCount cX10_paintCount 8 (some .int) :: wB
theorem mvX10_paintCount : Cond.instanceMethod yX10_paintCount ∈ wB ∧ Cond.selects RX10 yX10_paintCount yX10_paintCount ∈ wB ∧ Cond.code yX10_paintCount cX10_paintCount 8 (some .int) ∈ wB := ⟨wB_at 1728 (by decide +kernel) (by decide +kernel), wB_at 1729 (by decide +kernel) (by decide +kernel), wB_at 1730 (by decide +kernel) (by decide +kernel)⟩
theorem hdX10_paintCount : yX10_paintCount.cls = RX10 ∧ yX10_paintCount.cls ≠ "java/lang/invoke/MethodHandle" ∧ yX10_paintCount.cls ≠ "java/lang/invoke/VarHandle" ∧ (parseMethodDescriptor yX10_paintCount.desc).map (fun d => d.parameters.length) = some 4 := by decide +kernel
abbrev wsX10_paintedPiece : List Cond := Cond.code yX10_paintedPiece cX10_paintedPiece 8 (some .int) :: wB
theorem mvX10_paintedPiece : Cond.instanceMethod yX10_paintedPiece ∈ wB ∧ Cond.selects RX10 yX10_paintedPiece yX10_paintedPiece ∈ wB ∧ Cond.code yX10_paintedPiece cX10_paintedPiece 8 (some .int) ∈ wB := ⟨wB_at 1750 (by decide +kernel) (by decide +kernel), wB_at 1751 (by decide +kernel) (by decide +kernel), wB_at 1752 (by decide +kernel) (by decide +kernel)⟩
theorem hdX10_paintedPiece : yX10_paintedPiece.cls = RX10 ∧ yX10_paintedPiece.cls ≠ "java/lang/invoke/MethodHandle" ∧ yX10_paintedPiece.cls ≠ "java/lang/invoke/VarHandle" ∧ (parseMethodDescriptor yX10_paintedPiece.desc).map (fun d => d.parameters.length) = some 5 := by decide +kernel
abbrev wsX10_isOpaque : List Cond := Cond.code yX10_isOpaque cX10_isOpaque 5 (some .boolean) :: wB
theorem mvX10_isOpaque : Cond.instanceMethod yX10_isOpaque ∈ wB ∧ Cond.selects RX10 yX10_isOpaque yX10_isOpaque ∈ wB ∧ Cond.code yX10_isOpaque cX10_isOpaque 5 (some .boolean) ∈ wB := ⟨wB_at 1767 (by decide +kernel) (by decide +kernel), wB_at 69 (by decide +kernel) (by decide +kernel), wB_at 1768 (by decide +kernel) (by decide +kernel)⟩
theorem hdX10_isOpaque : yX10_isOpaque.cls = RX10 ∧ yX10_isOpaque.cls ≠ "java/lang/invoke/MethodHandle" ∧ yX10_isOpaque.cls ≠ "java/lang/invoke/VarHandle" ∧ (parseMethodDescriptor yX10_isOpaque.desc).map (fun d => d.parameters.length) = some 3 := by decide +kernel
abbrev wsX10_trace : List Cond := Cond.code yX10_trace cX10_trace 6 none :: wB
theorem mvX10_trace : Cond.instanceMethod yX10_trace ∈ wB ∧ Cond.selects RX10 yX10_trace yX10_trace ∈ wB ∧ Cond.code yX10_trace cX10_trace 6 none ∈ wB := ⟨wB_at 1763 (by decide +kernel) (by decide +kernel), wB_at 68 (by decide +kernel) (by decide +kernel), wB_at 1764 (by decide +kernel) (by decide +kernel)⟩
theorem hdX10_trace : yX10_trace.cls = RX10 ∧ yX10_trace.cls ≠ "java/lang/invoke/MethodHandle" ∧ yX10_trace.cls ≠ "java/lang/invoke/VarHandle" ∧ (parseMethodDescriptor yX10_trace.desc).map (fun d => d.parameters.length) = some 4 := by decide +kernel
abbrev wsX10_isBlocked : List Cond := Cond.code yX10_isBlocked cX10_isBlocked 5 (some .boolean) :: wB
theorem mvX10_isBlocked : Cond.instanceMethod yX10_isBlocked ∈ wB ∧ Cond.selects RX10 yX10_isBlocked yX10_isBlocked ∈ wB ∧ Cond.code yX10_isBlocked cX10_isBlocked 5 (some .boolean) ∈ wB := ⟨wB_at 1759 (by decide +kernel) (by decide +kernel), wB_at 67 (by decide +kernel) (by decide +kernel), wB_at 1760 (by decide +kernel) (by decide +kernel)⟩
theorem hdX10_isBlocked : yX10_isBlocked.cls = RX10 ∧ yX10_isBlocked.cls ≠ "java/lang/invoke/MethodHandle" ∧ yX10_isBlocked.cls ≠ "java/lang/invoke/VarHandle" ∧ (parseMethodDescriptor yX10_isBlocked.desc).map (fun d => d.parameters.length) = some 4 := by decide +kernel
abbrev wsX10_blocker : List Cond := Cond.code yX10_blocker cX10_blocker 5 (some .int) :: wB
theorem mvX10_blocker : Cond.instanceMethod yX10_blocker ∈ wB ∧ Cond.selects RX10 yX10_blocker yX10_blocker ∈ wB ∧ Cond.code yX10_blocker cX10_blocker 5 (some .int) ∈ wB := ⟨wB_at 1754 (by decide +kernel) (by decide +kernel), wB_at 1755 (by decide +kernel) (by decide +kernel), wB_at 1756 (by decide +kernel) (by decide +kernel)⟩
theorem hdX10_blocker : yX10_blocker.cls = RX10 ∧ yX10_blocker.cls ≠ "java/lang/invoke/MethodHandle" ∧ yX10_blocker.cls ≠ "java/lang/invoke/VarHandle" ∧ (parseMethodDescriptor yX10_blocker.desc).map (fun d => d.parameters.length) = some 4 := by decide +kernel
abbrev wsX10_traceColumn : List Cond := Cond.code yX10_traceColumn cX10_traceColumn 6 none :: wB
theorem mvX10_traceColumn : Cond.instanceMethod yX10_traceColumn ∈ wB ∧ Cond.selects RX10 yX10_traceColumn yX10_traceColumn ∈ wB ∧ Cond.code yX10_traceColumn cX10_traceColumn 6 none ∈ wB := ⟨wB_at 1775 (by decide +kernel) (by decide +kernel), wB_at 70 (by decide +kernel) (by decide +kernel), wB_at 1776 (by decide +kernel) (by decide +kernel)⟩
theorem hdX10_traceColumn : yX10_traceColumn.cls = RX10 ∧ yX10_traceColumn.cls ≠ "java/lang/invoke/MethodHandle" ∧ yX10_traceColumn.cls ≠ "java/lang/invoke/VarHandle" ∧ (parseMethodDescriptor yX10_traceColumn.desc).map (fun d => d.parameters.length) = some 5 := by decide +kernel
abbrev wsX10_columnWall : List Cond := Cond.code yX10_columnWall cX10_columnWall 6 (some .int) :: wB
theorem mvX10_columnWall : Cond.instanceMethod yX10_columnWall ∈ wB ∧ Cond.selects RX10 yX10_columnWall yX10_columnWall ∈ wB ∧ Cond.code yX10_columnWall cX10_columnWall 6 (some .int) ∈ wB := ⟨wB_at 1770 (by decide +kernel) (by decide +kernel), wB_at 1771 (by decide +kernel) (by decide +kernel), wB_at 1772 (by decide +kernel) (by decide +kernel)⟩
theorem hdX10_columnWall : yX10_columnWall.cls = RX10 ∧ yX10_columnWall.cls ≠ "java/lang/invoke/MethodHandle" ∧ yX10_columnWall.cls ≠ "java/lang/invoke/VarHandle" ∧ (parseMethodDescriptor yX10_columnWall.desc).map (fun d => d.parameters.length) = some 5 := by decide +kernel
abbrev wsX10_columnDistance : List Cond := Cond.code yX10_columnDistance cX10_columnDistance 8 (some .int) :: wB
theorem mvX10_columnDistance : Cond.instanceMethod yX10_columnDistance ∈ wB ∧ Cond.selects RX10 yX10_columnDistance yX10_columnDistance ∈ wB ∧ Cond.code yX10_columnDistance cX10_columnDistance 8 (some .int) ∈ wB := ⟨wB_at 1778 (by decide +kernel) (by decide +kernel), wB_at 1779 (by decide +kernel) (by decide +kernel), wB_at 1780 (by decide +kernel) (by decide +kernel)⟩
theorem hdX10_columnDistance : yX10_columnDistance.cls = RX10 ∧ yX10_columnDistance.cls ≠ "java/lang/invoke/MethodHandle" ∧ yX10_columnDistance.cls ≠ "java/lang/invoke/VarHandle" ∧ (parseMethodDescriptor yX10_columnDistance.desc).map (fun d => d.parameters.length) = some 6 := by decide +kernel
abbrev wsX10_paneCount : List Cond := Cond.code yX10_paneCount cX10_paneCount 8 (some .int) :: wB
theorem mvX10_paneCount : Cond.instanceMethod yX10_paneCount ∈ wB ∧ Cond.selects RX10 yX10_paneCount yX10_paneCount ∈ wB ∧ Cond.code yX10_paneCount cX10_paneCount 8 (some .int) ∈ wB := ⟨wB_at 1782 (by decide +kernel) (by decide +kernel), wB_at 1783 (by decide +kernel) (by decide +kernel), wB_at 1784 (by decide +kernel) (by decide +kernel)⟩
theorem hdX10_paneCount : yX10_paneCount.cls = RX10 ∧ yX10_paneCount.cls ≠ "java/lang/invoke/MethodHandle" ∧ yX10_paneCount.cls ≠ "java/lang/invoke/VarHandle" ∧ (parseMethodDescriptor yX10_paneCount.desc).map (fun d => d.parameters.length) = some 5 := by decide +kernel
abbrev wsX10_seenColumns : List Cond := Cond.code yX10_seenColumns cX10_seenColumns 8 (some .int) :: wB
theorem mvX10_seenColumns : Cond.instanceMethod yX10_seenColumns ∈ wB ∧ Cond.selects RX10 yX10_seenColumns yX10_seenColumns ∈ wB ∧ Cond.code yX10_seenColumns cX10_seenColumns 8 (some .int) ∈ wB := ⟨wB_at 1786 (by decide +kernel) (by decide +kernel), wB_at 1787 (by decide +kernel) (by decide +kernel), wB_at 1788 (by decide +kernel) (by decide +kernel)⟩
theorem hdX10_seenColumns : yX10_seenColumns.cls = RX10 ∧ yX10_seenColumns.cls ≠ "java/lang/invoke/MethodHandle" ∧ yX10_seenColumns.cls ≠ "java/lang/invoke/VarHandle" ∧ (parseMethodDescriptor yX10_seenColumns.desc).map (fun d => d.parameters.length) = some 5 := by decide +kernel
abbrev wsX10_seen : List Cond := Cond.code yX10_seen cX10_seen 7 (some .int) :: wB
theorem mvX10_seen : Cond.instanceMethod yX10_seen ∈ wB ∧ Cond.selects RX10 yX10_seen yX10_seen ∈ wB ∧ Cond.code yX10_seen cX10_seen 7 (some .int) ∈ wB := ⟨wB_at 1795 (by decide +kernel) (by decide +kernel), wB_at 71 (by decide +kernel) (by decide +kernel), wB_at 1796 (by decide +kernel) (by decide +kernel)⟩
theorem hdX10_seen : yX10_seen.cls = RX10 ∧ yX10_seen.cls ≠ "java/lang/invoke/MethodHandle" ∧ yX10_seen.cls ≠ "java/lang/invoke/VarHandle" ∧ (parseMethodDescriptor yX10_seen.desc).map (fun d => d.parameters.length) = some 2 := by decide +kernel
abbrev wsX10_seenPoints : List Cond := Cond.code yX10_seenPoints cX10_seenPoints 3 (some .int) :: wB
theorem mvX10_seenPoints : Cond.instanceMethod yX10_seenPoints ∈ wB ∧ Cond.selects RX10 yX10_seenPoints yX10_seenPoints ∈ wB ∧ Cond.code yX10_seenPoints cX10_seenPoints 3 (some .int) ∈ wB := ⟨wB_at 1790 (by decide +kernel) (by decide +kernel), wB_at 1791 (by decide +kernel) (by decide +kernel), wB_at 1792 (by decide +kernel) (by decide +kernel)⟩
theorem hdX10_seenPoints : yX10_seenPoints.cls = RX10 ∧ yX10_seenPoints.cls ≠ "java/lang/invoke/MethodHandle" ∧ yX10_seenPoints.cls ≠ "java/lang/invoke/VarHandle" ∧ (parseMethodDescriptor yX10_seenPoints.desc).map (fun d => d.parameters.length) = some 2 := by decide +kernel
abbrev wsX10_lookout : List Cond := Cond.code yX10_lookout cX10_lookout 6 (some .int) :: wB
theorem mvX10_lookout : Cond.instanceMethod yX10_lookout ∈ wB ∧ Cond.selects RX10 yX10_lookout yX10_lookout ∈ wB ∧ Cond.code yX10_lookout cX10_lookout 6 (some .int) ∈ wB := ⟨wB_at 1798 (by decide +kernel) (by decide +kernel), wB_at 1799 (by decide +kernel) (by decide +kernel), wB_at 1800 (by decide +kernel) (by decide +kernel)⟩
theorem hdX10_lookout : yX10_lookout.cls = RX10 ∧ yX10_lookout.cls ≠ "java/lang/invoke/MethodHandle" ∧ yX10_lookout.cls ≠ "java/lang/invoke/VarHandle" ∧ (parseMethodDescriptor yX10_lookout.desc).map (fun d => d.parameters.length) = some 1 := by decide +kernel
abbrev wsX10_mayGo : List Cond := Cond.code yX10_mayGo cX10_mayGo 5 (some .boolean) :: wB
theorem mvX10_mayGo : Cond.instanceMethod yX10_mayGo ∈ wB ∧ Cond.selects RX10 yX10_mayGo yX10_mayGo ∈ wB ∧ Cond.code yX10_mayGo cX10_mayGo 5 (some .boolean) ∈ wB := ⟨wB_at 1811 (by decide +kernel) (by decide +kernel), wB_at 73 (by decide +kernel) (by decide +kernel), wB_at 1812 (by decide +kernel) (by decide +kernel)⟩
theorem hdX10_mayGo : yX10_mayGo.cls = RX10 ∧ yX10_mayGo.cls ≠ "java/lang/invoke/MethodHandle" ∧ yX10_mayGo.cls ≠ "java/lang/invoke/VarHandle" ∧ (parseMethodDescriptor yX10_mayGo.desc).map (fun d => d.parameters.length) = some 4 := by decide +kernel
abbrev wsX10_walked : List Cond := Cond.code yX10_walked cX10_walked 5 (some .int) :: wB
theorem mvX10_walked : Cond.instanceMethod yX10_walked ∈ wB ∧ Cond.selects RX10 yX10_walked yX10_walked ∈ wB ∧ Cond.code yX10_walked cX10_walked 5 (some .int) ∈ wB := ⟨wB_at 1807 (by decide +kernel) (by decide +kernel), wB_at 72 (by decide +kernel) (by decide +kernel), wB_at 1808 (by decide +kernel) (by decide +kernel)⟩
theorem hdX10_walked : yX10_walked.cls = RX10 ∧ yX10_walked.cls ≠ "java/lang/invoke/MethodHandle" ∧ yX10_walked.cls ≠ "java/lang/invoke/VarHandle" ∧ (parseMethodDescriptor yX10_walked.desc).map (fun d => d.parameters.length) = some 4 := by decide +kernel
abbrev wsX10_walk : List Cond := Cond.code yX10_walk cX10_walk 5 (some .int) :: wB
theorem mvX10_walk : Cond.instanceMethod yX10_walk ∈ wB ∧ Cond.selects RX10 yX10_walk yX10_walk ∈ wB ∧ Cond.code yX10_walk cX10_walk 5 (some .int) ∈ wB := ⟨wB_at 1802 (by decide +kernel) (by decide +kernel), wB_at 1803 (by decide +kernel) (by decide +kernel), wB_at 1804 (by decide +kernel) (by decide +kernel)⟩
theorem hdX10_walk : yX10_walk.cls = RX10 ∧ yX10_walk.cls ≠ "java/lang/invoke/MethodHandle" ∧ yX10_walk.cls ≠ "java/lang/invoke/VarHandle" ∧ (parseMethodDescriptor yX10_walk.desc).map (fun d => d.parameters.length) = some 4 := by decide +kernel
abbrev wsX10_wander : List Cond := Cond.code yX10_wander cX10_wander 11 (some .int) :: wB
theorem mvX10_wander : Cond.instanceMethod yX10_wander ∈ wB ∧ Cond.selects RX10 yX10_wander yX10_wander ∈ wB ∧ Cond.code yX10_wander cX10_wander 11 (some .int) ∈ wB := ⟨wB_at 1814 (by decide +kernel) (by decide +kernel), wB_at 1815 (by decide +kernel) (by decide +kernel), wB_at 1816 (by decide +kernel) (by decide +kernel)⟩
theorem hdX10_wander : yX10_wander.cls = RX10 ∧ yX10_wander.cls ≠ "java/lang/invoke/MethodHandle" ∧ yX10_wander.cls ≠ "java/lang/invoke/VarHandle" ∧ (parseMethodDescriptor yX10_wander.desc).map (fun d => d.parameters.length) = some 4 := by decide +kernel
abbrev wsX10_away : List Cond := Cond.code yX10_away cX10_away 20 none :: wB
theorem mvX10_away : Cond.instanceMethod yX10_away ∈ wB ∧ Cond.selects RX10 yX10_away yX10_away ∈ wB ∧ Cond.code yX10_away cX10_away 20 none ∈ wB := ⟨wB_at 1832 (by decide +kernel) (by decide +kernel), wB_at 75 (by decide +kernel) (by decide +kernel), wB_at 1833 (by decide +kernel) (by decide +kernel)⟩
theorem hdX10_away : yX10_away.cls = RX10 ∧ yX10_away.cls ≠ "java/lang/invoke/MethodHandle" ∧ yX10_away.cls ≠ "java/lang/invoke/VarHandle" ∧ (parseMethodDescriptor yX10_away.desc).map (fun d => d.parameters.length) = some 3 := by decide +kernel
abbrev wsX10_approach : List Cond := Cond.code yX10_approach cX10_approach 4 none :: wB
theorem mvX10_approach : Cond.instanceMethod yX10_approach ∈ wB ∧ Cond.selects RX10 yX10_approach yX10_approach ∈ wB ∧ Cond.code yX10_approach cX10_approach 4 none ∈ wB := ⟨wB_at 1828 (by decide +kernel) (by decide +kernel), wB_at 74 (by decide +kernel) (by decide +kernel), wB_at 1829 (by decide +kernel) (by decide +kernel)⟩
theorem hdX10_approach : yX10_approach.cls = RX10 ∧ yX10_approach.cls ≠ "java/lang/invoke/MethodHandle" ∧ yX10_approach.cls ≠ "java/lang/invoke/VarHandle" ∧ (parseMethodDescriptor yX10_approach.desc).map (fun d => d.parameters.length) = some 2 := by decide +kernel
abbrev wsX10_nearestWall : List Cond := Cond.code yX10_nearestWall cX10_nearestWall 3 (some .int) :: wB
theorem mvX10_nearestWall : Cond.instanceMethod yX10_nearestWall ∈ wB ∧ Cond.selects RX10 yX10_nearestWall yX10_nearestWall ∈ wB ∧ Cond.code yX10_nearestWall cX10_nearestWall 3 (some .int) ∈ wB := ⟨wB_at 1823 (by decide +kernel) (by decide +kernel), wB_at 1824 (by decide +kernel) (by decide +kernel), wB_at 1825 (by decide +kernel) (by decide +kernel)⟩
theorem hdX10_nearestWall : yX10_nearestWall.cls = RX10 ∧ yX10_nearestWall.cls ≠ "java/lang/invoke/MethodHandle" ∧ yX10_nearestWall.cls ≠ "java/lang/invoke/VarHandle" ∧ (parseMethodDescriptor yX10_nearestWall.desc).map (fun d => d.parameters.length) = some 2 := by decide +kernel
abbrev wsX10_clearance : List Cond := Cond.code yX10_clearance cX10_clearance 5 (some .long) :: wB
theorem mvX10_clearance : Cond.instanceMethod yX10_clearance ∈ wB ∧ Cond.selects RX10 yX10_clearance yX10_clearance ∈ wB ∧ Cond.code yX10_clearance cX10_clearance 5 (some .long) ∈ wB := ⟨wB_at 1835 (by decide +kernel) (by decide +kernel), wB_at 1836 (by decide +kernel) (by decide +kernel), wB_at 1837 (by decide +kernel) (by decide +kernel)⟩
theorem hdX10_clearance : yX10_clearance.cls = RX10 ∧ yX10_clearance.cls ≠ "java/lang/invoke/MethodHandle" ∧ yX10_clearance.cls ≠ "java/lang/invoke/VarHandle" ∧ (parseMethodDescriptor yX10_clearance.desc).map (fun d => d.parameters.length) = some 3 := by decide +kernel
abbrev wsX10_piecesWith : List Cond := Cond.code yX10_piecesWith cX10_piecesWith 3 (some .int) :: wB
theorem mvX10_piecesWith : Cond.instanceMethod yX10_piecesWith ∈ wB ∧ Cond.selects RX10 yX10_piecesWith yX10_piecesWith ∈ wB ∧ Cond.code yX10_piecesWith cX10_piecesWith 3 (some .int) ∈ wB := ⟨wB_at 1841 (by decide +kernel) (by decide +kernel), wB_at 1842 (by decide +kernel) (by decide +kernel), wB_at 1843 (by decide +kernel) (by decide +kernel)⟩
theorem hdX10_piecesWith : yX10_piecesWith.cls = RX10 ∧ yX10_piecesWith.cls ≠ "java/lang/invoke/MethodHandle" ∧ yX10_piecesWith.cls ≠ "java/lang/invoke/VarHandle" ∧ (parseMethodDescriptor yX10_piecesWith.desc).map (fun d => d.parameters.length) = some 2 := by decide +kernel
abbrev wsX10_bestWeights : List Cond := Cond.code yX10_bestWeights cX10_bestWeights 5 (some .int) :: wB
theorem mvX10_bestWeights : Cond.instanceMethod yX10_bestWeights ∈ wB ∧ Cond.selects RX10 yX10_bestWeights yX10_bestWeights ∈ wB ∧ Cond.code yX10_bestWeights cX10_bestWeights 5 (some .int) ∈ wB := ⟨wB_at 1845 (by decide +kernel) (by decide +kernel), wB_at 1846 (by decide +kernel) (by decide +kernel), wB_at 1847 (by decide +kernel) (by decide +kernel)⟩
theorem hdX10_bestWeights : yX10_bestWeights.cls = RX10 ∧ yX10_bestWeights.cls ≠ "java/lang/invoke/MethodHandle" ∧ yX10_bestWeights.cls ≠ "java/lang/invoke/VarHandle" ∧ (parseMethodDescriptor yX10_bestWeights.desc).map (fun d => d.parameters.length) = some 0 := by decide +kernel
abbrev wsX10_findFixed : List Cond := Cond.code yX10_findFixed cX10_findFixed 2 none :: wB
theorem mvX10_findFixed : Cond.instanceMethod yX10_findFixed ∈ wB ∧ Cond.selects RX10 yX10_findFixed yX10_findFixed ∈ wB ∧ Cond.code yX10_findFixed cX10_findFixed 2 none ∈ wB := ⟨wB_at 1854 (by decide +kernel) (by decide +kernel), wB_at 76 (by decide +kernel) (by decide +kernel), wB_at 1855 (by decide +kernel) (by decide +kernel)⟩
theorem hdX10_findFixed : yX10_findFixed.cls = RX10 ∧ yX10_findFixed.cls ≠ "java/lang/invoke/MethodHandle" ∧ yX10_findFixed.cls ≠ "java/lang/invoke/VarHandle" ∧ (parseMethodDescriptor yX10_findFixed.desc).map (fun d => d.parameters.length) = some 0 := by decide +kernel
abbrev wsX10_hasPart : List Cond := Cond.code yX10_hasPart cX10_hasPart 8 (some .boolean) :: wB
theorem mvX10_hasPart : Cond.instanceMethod yX10_hasPart ∈ wB ∧ Cond.selects RX10 yX10_hasPart yX10_hasPart ∈ wB ∧ Cond.code yX10_hasPart cX10_hasPart 8 (some .boolean) ∈ wB := ⟨wB_at 1862 (by decide +kernel) (by decide +kernel), wB_at 78 (by decide +kernel) (by decide +kernel), wB_at 1863 (by decide +kernel) (by decide +kernel)⟩
theorem hdX10_hasPart : yX10_hasPart.cls = RX10 ∧ yX10_hasPart.cls ≠ "java/lang/invoke/MethodHandle" ∧ yX10_hasPart.cls ≠ "java/lang/invoke/VarHandle" ∧ (parseMethodDescriptor yX10_hasPart.desc).map (fun d => d.parameters.length) = some 2 := by decide +kernel
abbrev wsX10_with : List Cond := Cond.code yX10_with cX10_with 5 (some .int) :: wB
theorem mvX10_with : Cond.instanceMethod yX10_with ∈ wB ∧ Cond.selects RX10 yX10_with yX10_with ∈ wB ∧ Cond.code yX10_with cX10_with 5 (some .int) ∈ wB := ⟨wB_at 1866 (by decide +kernel) (by decide +kernel), wB_at 79 (by decide +kernel) (by decide +kernel), wB_at 1867 (by decide +kernel) (by decide +kernel)⟩
theorem hdX10_with : yX10_with.cls = RX10 ∧ yX10_with.cls ≠ "java/lang/invoke/MethodHandle" ∧ yX10_with.cls ≠ "java/lang/invoke/VarHandle" ∧ (parseMethodDescriptor yX10_with.desc).map (fun d => d.parameters.length) = some 2 := by decide +kernel
abbrev wsX10_findLeast : List Cond := Cond.code yX10_findLeast cX10_findLeast 5 none :: wB
theorem mvX10_findLeast : Cond.instanceMethod yX10_findLeast ∈ wB ∧ Cond.selects RX10 yX10_findLeast yX10_findLeast ∈ wB ∧ Cond.code yX10_findLeast cX10_findLeast 5 none ∈ wB := ⟨wB_at 1858 (by decide +kernel) (by decide +kernel), wB_at 77 (by decide +kernel) (by decide +kernel), wB_at 1859 (by decide +kernel) (by decide +kernel)⟩
theorem hdX10_findLeast : yX10_findLeast.cls = RX10 ∧ yX10_findLeast.cls ≠ "java/lang/invoke/MethodHandle" ∧ yX10_findLeast.cls ≠ "java/lang/invoke/VarHandle" ∧ (parseMethodDescriptor yX10_findLeast.desc).map (fun d => d.parameters.length) = some 0 := by decide +kernel
abbrev wsX10_leastPieces : List Cond := Cond.code yX10_leastPieces cX10_leastPieces 1 (some .int) :: wB
theorem mvX10_leastPieces : Cond.instanceMethod yX10_leastPieces ∈ wB ∧ Cond.selects RX10 yX10_leastPieces yX10_leastPieces ∈ wB ∧ Cond.code yX10_leastPieces cX10_leastPieces 1 (some .int) ∈ wB := ⟨wB_at 1849 (by decide +kernel) (by decide +kernel), wB_at 1850 (by decide +kernel) (by decide +kernel), wB_at 1851 (by decide +kernel) (by decide +kernel)⟩
theorem hdX10_leastPieces : yX10_leastPieces.cls = RX10 ∧ yX10_leastPieces.cls ≠ "java/lang/invoke/MethodHandle" ∧ yX10_leastPieces.cls ≠ "java/lang/invoke/VarHandle" ∧ (parseMethodDescriptor yX10_leastPieces.desc).map (fun d => d.parameters.length) = some 0 := by decide +kernel
abbrev wsX10_bestRoot : List Cond := Cond.code yX10_bestRoot cX10_bestRoot 2 (some .int) :: wB
theorem mvX10_bestRoot : Cond.instanceMethod yX10_bestRoot ∈ wB ∧ Cond.selects RX10 yX10_bestRoot yX10_bestRoot ∈ wB ∧ Cond.code yX10_bestRoot cX10_bestRoot 2 (some .int) ∈ wB := ⟨wB_at 1869 (by decide +kernel) (by decide +kernel), wB_at 1870 (by decide +kernel) (by decide +kernel), wB_at 1871 (by decide +kernel) (by decide +kernel)⟩
theorem hdX10_bestRoot : yX10_bestRoot.cls = RX10 ∧ yX10_bestRoot.cls ≠ "java/lang/invoke/MethodHandle" ∧ yX10_bestRoot.cls ≠ "java/lang/invoke/VarHandle" ∧ (parseMethodDescriptor yX10_bestRoot.desc).map (fun d => d.parameters.length) = some 0 := by decide +kernel
theorem mlX0_33 : Cond.methodLink RX0 33 yX6_rootSubtree ∈ wB := wB_at 931 (by decide +kernel) (by decide +kernel)
theorem mlX0_39 : Cond.methodLink RX0 39 yX0_arrangeSubtree ∈ wB := wB_at 935 (by decide +kernel) (by decide +kernel)
theorem mlX0_43 : Cond.methodLink RX0 43 yX6_hasNode ∈ wB := wB_at 939 (by decide +kernel) (by decide +kernel)
theorem mlX0_47 : Cond.methodLink RX0 47 yX6_isInFrontOrOnLine ∈ wB := wB_at 940 (by decide +kernel) (by decide +kernel)
theorem mlX0_51 : Cond.methodLink RX0 51 yX6_backOf ∈ wB := wB_at 941 (by decide +kernel) (by decide +kernel)
theorem mlX0_55 : Cond.methodLink RX0 55 yX6_frontOf ∈ wB := wB_at 942 (by decide +kernel) (by decide +kernel)
theorem mlX0_58 : Cond.methodLink RX0 58 yX0_arrangeNode ∈ wB := wB_at 943 (by decide +kernel) (by decide +kernel)
theorem mlX0_62 : Cond.methodLink RX0 62 yX0_addPiecesOf ∈ wB := wB_at 947 (by decide +kernel) (by decide +kernel)
theorem mlX0_66 : Cond.methodLink RX0 66 yX6_firstPieceOf ∈ wB := wB_at 951 (by decide +kernel) (by decide +kernel)
theorem mlX0_69 : Cond.methodLink RX0 69 yX6_pieceTotalOf ∈ wB := wB_at 955 (by decide +kernel) (by decide +kernel)
theorem mlX0_72 : Cond.methodLink RX0 72 yX6_wallOfPiece ∈ wB := wB_at 959 (by decide +kernel) (by decide +kernel)
theorem mlX0_75 : Cond.methodLink RX0 75 yX8_isDrawnFor ∈ wB := wB_at 960 (by decide +kernel) (by decide +kernel)
theorem mlX1_27 : Cond.methodLink RX1 27 yX4_shorten ∈ wB := wB_at 1213 (by decide +kernel) (by decide +kernel)
theorem mlX1_31 : Cond.methodLink RX1 31 yX4_addWalls ∈ wB := wB_at 1214 (by decide +kernel) (by decide +kernel)
theorem mlX1_35 : Cond.methodLink RX1 35 yX4_size ∈ wB := wB_at 1215 (by decide +kernel) (by decide +kernel)
theorem mlX1_39 : Cond.methodLink RX1 39 yX4_wallOf ∈ wB := wB_at 1216 (by decide +kernel) (by decide +kernel)
theorem mlX1_43 : Cond.methodLink RX1 43 yX1_fewestWith ∈ wB := wB_at 1217 (by decide +kernel) (by decide +kernel)
theorem mlX1_47 : Cond.methodLink RX1 47 yX4_addSide ∈ wB := wB_at 1221 (by decide +kernel) (by decide +kernel)
theorem mlX1_51 : Cond.methodLink RX1 51 yX1_fewestOf ∈ wB := wB_at 1222 (by decide +kernel) (by decide +kernel)
theorem mlX1_55 : Cond.methodLink RX1 55 yX4_placeOf ∈ wB := wB_at 1226 (by decide +kernel) (by decide +kernel)
theorem mlX10_125 : Cond.methodLink RX10 125 yX10_isCoordinate ∈ wB := wB_at 1460 (by decide +kernel) (by decide +kernel)
theorem mlX10_129 : Cond.methodLink RX10 129 yX10_at ∈ wB := wB_at 1463 (by decide +kernel) (by decide +kernel)
theorem mlX10_133 : Cond.methodLink RX10 133 yX10_keep ∈ wB := wB_at 1467 (by decide +kernel) (by decide +kernel)
theorem mlX10_136 : Cond.methodLink RX10 136 yX10_lay ∈ wB := wB_at 1471 (by decide +kernel) (by decide +kernel)
theorem mlX10_140 : Cond.methodLink RX10 140 yX10_isWall ∈ wB := wB_at 1479 (by decide +kernel) (by decide +kernel)
theorem mlX10_143 : Cond.methodLink RX10 143 yX10_wallCount ∈ wB := wB_at 1483 (by decide +kernel) (by decide +kernel)
theorem mlX10_147 : Cond.methodLink RX10 147 yX10_weights ∈ wB := wB_at 1503 (by decide +kernel) (by decide +kernel)
theorem mlX10_162 : Cond.methodLink RX10 162 yX10_here ∈ wB := wB_at 1537 (by decide +kernel) (by decide +kernel)
theorem mlX10_165 : Cond.methodLink RX10 165 yX10_isDigit ∈ wB := wB_at 1553 (by decide +kernel) (by decide +kernel)
theorem mlX10_169 : Cond.methodLink RX10 169 yX10_fails ∈ wB := wB_at 1541 (by decide +kernel) (by decide +kernel)
theorem mlX10_173 : Cond.methodLink RX10 173 yX10_readItem ∈ wB := wB_at 1545 (by decide +kernel) (by decide +kernel)
theorem mlX10_176 : Cond.methodLink RX10 176 yX10_number ∈ wB := wB_at 1549 (by decide +kernel) (by decide +kernel)
theorem mlX10_180 : Cond.methodLink RX10 180 yX10_read ∈ wB := wB_at 1533 (by decide +kernel) (by decide +kernel)
theorem mlX10_183 : Cond.methodLink RX10 183 yX10_side ∈ wB := wB_at 1609 (by decide +kernel) (by decide +kernel)
theorem mlX10_187 : Cond.methodLink RX10 187 yX10_startSide ∈ wB := wB_at 1605 (by decide +kernel) (by decide +kernel)
theorem mlX10_190 : Cond.methodLink RX10 190 yX10_endSide ∈ wB := wB_at 1613 (by decide +kernel) (by decide +kernel)
theorem mlX10_193 : Cond.methodLink RX10 193 yX10_signAt ∈ wB := wB_at 1601 (by decide +kernel) (by decide +kernel)
theorem mlX10_197 : Cond.methodLink RX10 197 yX10_divisor ∈ wB := wB_at 1633 (by decide +kernel) (by decide +kernel)
theorem mlX10_215 : Cond.methodLink RX10 215 yX10_relation ∈ wB := wB_at 1597 (by decide +kernel) (by decide +kernel)
theorem mlX10_222 : Cond.methodLink RX10 222 yX10_put ∈ wB := wB_at 1585 (by decide +kernel) (by decide +kernel)
theorem mlX10_226 : Cond.methodLink RX10 226 yX10_makeNode ∈ wB := wB_at 1589 (by decide +kernel) (by decide +kernel)
theorem mlX10_229 : Cond.methodLink RX10 229 yX10_price ∈ wB := wB_at 1593 (by decide +kernel) (by decide +kernel)
theorem mlX10_232 : Cond.methodLink RX10 232 yX10_addNode ∈ wB := wB_at 1617 (by decide +kernel) (by decide +kernel)
theorem mlX10_235 : Cond.methodLink RX10 235 yX10_partition ∈ wB := wB_at 1621 (by decide +kernel) (by decide +kernel)
theorem mlX10_239 : Cond.methodLink RX10 239 yX10_addPiece ∈ wB := wB_at 1625 (by decide +kernel) (by decide +kernel)
theorem mlX10_242 : Cond.methodLink RX10 242 yX10_cut ∈ wB := wB_at 1629 (by decide +kernel) (by decide +kernel)
theorem mlX10_245 : Cond.methodLink RX10 245 yX10_push ∈ wB := wB_at 1640 (by decide +kernel) (by decide +kernel)
theorem mlX10_260 : Cond.methodLink RX10 260 yX10_leaf ∈ wB := wB_at 1648 (by decide +kernel) (by decide +kernel)
theorem mlX10_266 : Cond.methodLink RX10 266 yX10_countBuild ∈ wB := wB_at 1577 (by decide +kernel) (by decide +kernel)
theorem mlX10_269 : Cond.methodLink RX10 269 yX10_makeFixed ∈ wB := wB_at 1581 (by decide +kernel) (by decide +kernel)
theorem mlX10_272 : Cond.methodLink RX10 272 yX10_insert ∈ wB := wB_at 1636 (by decide +kernel) (by decide +kernel)
theorem mlX10_276 : Cond.methodLink RX10 276 yX10_number_ ∈ wB := wB_at 1644 (by decide +kernel) (by decide +kernel)
theorem mlX10_278 : Cond.methodLink RX10 278 yX10_tree ∈ wB := wB_at 1573 (by decide +kernel) (by decide +kernel)
theorem mlX10_291 : Cond.methodLink RX10 291 yX10_squaredLength ∈ wB := wB_at 1685 (by decide +kernel) (by decide +kernel)
theorem mlX10_294 : Cond.methodLink RX10 294 yX10_root ∈ wB := wB_at 1689 (by decide +kernel) (by decide +kernel)
theorem mlX10_297 : Cond.methodLink RX10 297 yX10_isPoint ∈ wB := wB_at 1700 (by decide +kernel) (by decide +kernel)
theorem mlX10_304 : Cond.methodLink RX10 304 yX10_isDrawn ∈ wB := wB_at 1719 (by decide +kernel) (by decide +kernel)
theorem mlX10_308 : Cond.methodLink RX10 308 yX10_draw ∈ wB := wB_at 1715 (by decide +kernel) (by decide +kernel)
theorem mlX10_323 : Cond.methodLink RX10 323 yX10_rayX ∈ wB := wB_at 1738 (by decide +kernel) (by decide +kernel)
theorem mlX10_326 : Cond.methodLink RX10 326 yX10_rayY ∈ wB := wB_at 1741 (by decide +kernel) (by decide +kernel)
theorem mlX10_329 : Cond.methodLink RX10 329 yX10_isHit ∈ wB := wB_at 1744 (by decide +kernel) (by decide +kernel)
theorem mlX10_333 : Cond.methodLink RX10 333 yX10_isPicture ∈ wB := wB_at 1731 (by decide +kernel) (by decide +kernel)
theorem mlX10_337 : Cond.methodLink RX10 337 yX10_covers ∈ wB := wB_at 1734 (by decide +kernel) (by decide +kernel)
theorem mlX10_350 : Cond.methodLink RX10 350 yX10_isOpaque ∈ wB := wB_at 1765 (by decide +kernel) (by decide +kernel)
theorem mlX10_353 : Cond.methodLink RX10 353 yX10_trace ∈ wB := wB_at 1761 (by decide +kernel) (by decide +kernel)
theorem mlX10_357 : Cond.methodLink RX10 357 yX10_isBlocked ∈ wB := wB_at 1757 (by decide +kernel) (by decide +kernel)
theorem mlX10_360 : Cond.methodLink RX10 360 yX10_traceColumn ∈ wB := wB_at 1773 (by decide +kernel) (by decide +kernel)
theorem mlX10_364 : Cond.methodLink RX10 364 yX10_seen ∈ wB := wB_at 1793 (by decide +kernel) (by decide +kernel)
theorem mlX10_367 : Cond.methodLink RX10 367 yX10_mayGo ∈ wB := wB_at 1809 (by decide +kernel) (by decide +kernel)
theorem mlX10_370 : Cond.methodLink RX10 370 yX10_walked ∈ wB := wB_at 1805 (by decide +kernel) (by decide +kernel)
theorem mlX10_398 : Cond.methodLink RX10 398 yX10_away ∈ wB := wB_at 1830 (by decide +kernel) (by decide +kernel)
theorem mlX10_401 : Cond.methodLink RX10 401 yX10_approach ∈ wB := wB_at 1826 (by decide +kernel) (by decide +kernel)
theorem mlX10_423 : Cond.methodLink RX10 423 yX10_hasPart ∈ wB := wB_at 1860 (by decide +kernel) (by decide +kernel)
theorem mlX10_426 : Cond.methodLink RX10 426 yX10_with ∈ wB := wB_at 1864 (by decide +kernel) (by decide +kernel)
theorem mlX10_429 : Cond.methodLink RX10 429 yX10_findFixed ∈ wB := wB_at 1852 (by decide +kernel) (by decide +kernel)
theorem mlX10_432 : Cond.methodLink RX10 432 yX10_findLeast ∈ wB := wB_at 1856 (by decide +kernel) (by decide +kernel)
theorem mlX2_23 : Cond.methodLink RX2 23 yX2_placeAt ∈ wB := wB_at 440 (by decide +kernel) (by decide +kernel)
theorem mlX2_27 : Cond.methodLink RX2 27 yX8_copyFrom ∈ wB := wB_at 444 (by decide +kernel) (by decide +kernel)
theorem mlX3_26 : Cond.methodLink RX3 26 yX8_exists ∈ wB := wB_at 1147 (by decide +kernel) (by decide +kernel)
theorem mlX3_32 : Cond.methodLink RX3 32 yX3_compare ∈ wB := wB_at 1148 (by decide +kernel) (by decide +kernel)
theorem mlX3_36 : Cond.methodLink RX3 36 yX8_squaredLength ∈ wB := wB_at 1152 (by decide +kernel) (by decide +kernel)
theorem mlX3_40 : Cond.methodLink RX3 40 yX3_along ∈ wB := wB_at 1153 (by decide +kernel) (by decide +kernel)
theorem mlX3_44 : Cond.methodLink RX3 44 yX8_startX ∈ wB := wB_at 1158 (by decide +kernel) (by decide +kernel)
theorem mlX3_47 : Cond.methodLink RX3 47 yX8_startY ∈ wB := wB_at 1160 (by decide +kernel) (by decide +kernel)
theorem mlX3_50 : Cond.methodLink RX3 50 yX3_squaredWay ∈ wB := wB_at 1161 (by decide +kernel) (by decide +kernel)
theorem mlX3_54 : Cond.methodLink RX3 54 yX3_offer ∈ wB := wB_at 1164 (by decide +kernel) (by decide +kernel)
theorem mlX3_58 : Cond.methodLink RX3 58 yX8_endX ∈ wB := wB_at 1168 (by decide +kernel) (by decide +kernel)
theorem mlX3_61 : Cond.methodLink RX3 61 yX8_endY ∈ wB := wB_at 1169 (by decide +kernel) (by decide +kernel)
theorem mlX3_64 : Cond.methodLink RX3 64 yX8_sideValue ∈ wB := wB_at 1170 (by decide +kernel) (by decide +kernel)
theorem mlX3_68 : Cond.methodLink RX3 68 yX8_wayX ∈ wB := wB_at 1157 (by decide +kernel) (by decide +kernel)
theorem mlX3_71 : Cond.methodLink RX3 71 yX8_wayY ∈ wB := wB_at 1159 (by decide +kernel) (by decide +kernel)
theorem mlX4_38 : Cond.methodLink RX4 38 yX4_has ∈ wB := wB_at 733 (by decide +kernel) (by decide +kernel)
theorem mlX4_42 : Cond.methodLink RX4 42 yX4_add ∈ wB := wB_at 706 (by decide +kernel) (by decide +kernel)
theorem mlX4_46 : Cond.methodLink RX4 46 yX8_isMovable ∈ wB := wB_at 700 (by decide +kernel) (by decide +kernel)
theorem mlX4_51 : Cond.methodLink RX4 51 yX8_isFixed ∈ wB := wB_at 701 (by decide +kernel) (by decide +kernel)
theorem mlX4_54 : Cond.methodLink RX4 54 yX4_addWhole ∈ wB := wB_at 702 (by decide +kernel) (by decide +kernel)
theorem mlX4_58 : Cond.methodLink RX4 58 yX4_placeOf ∈ wB := wB_at 769 (by decide +kernel) (by decide +kernel)
theorem mlX4_62 : Cond.methodLink RX4 62 yX4_addCopy ∈ wB := wB_at 770 (by decide +kernel) (by decide +kernel)
theorem mlX4_66 : Cond.methodLink RX4 66 yX4_addPart ∈ wB := wB_at 774 (by decide +kernel) (by decide +kernel)
theorem mlX4_70 : Cond.methodLink RX4 70 yX8_startX ∈ wB := wB_at 750 (by decide +kernel) (by decide +kernel)
theorem mlX4_74 : Cond.methodLink RX4 74 yX8_startY ∈ wB := wB_at 751 (by decide +kernel) (by decide +kernel)
theorem mlX4_77 : Cond.methodLink RX4 77 yX8_sideValue ∈ wB := wB_at 752 (by decide +kernel) (by decide +kernel)
theorem mlX4_81 : Cond.methodLink RX4 81 yX8_endX ∈ wB := wB_at 756 (by decide +kernel) (by decide +kernel)
theorem mlX4_84 : Cond.methodLink RX4 84 yX8_endY ∈ wB := wB_at 757 (by decide +kernel) (by decide +kernel)
theorem mlX5_50 : Cond.methodLink RX5 50 yX8_isOpaqueFor ∈ wB := wB_at 993 (by decide +kernel) (by decide +kernel)
theorem mlX5_56 : Cond.methodLink RX5 56 yX5_aim ∈ wB := wB_at 1001 (by decide +kernel) (by decide +kernel)
theorem mlX5_60 : Cond.methodLink RX5 60 yX8_exists ∈ wB := wB_at 1017 (by decide +kernel) (by decide +kernel)
theorem mlX5_64 : Cond.methodLink RX5 64 yX8_wayX ∈ wB := wB_at 1018 (by decide +kernel) (by decide +kernel)
theorem mlX5_67 : Cond.methodLink RX5 67 yX8_wayY ∈ wB := wB_at 1019 (by decide +kernel) (by decide +kernel)
theorem mlX5_69 : Cond.methodLink RX5 69 yX8_startX ∈ wB := wB_at 1020 (by decide +kernel) (by decide +kernel)
theorem mlX5_72 : Cond.methodLink RX5 72 yX8_startY ∈ wB := wB_at 1021 (by decide +kernel) (by decide +kernel)
theorem mlX5_75 : Cond.methodLink RX5 75 yX5_hits ∈ wB := wB_at 1046 (by decide +kernel) (by decide +kernel)
theorem mlX5_78 : Cond.methodLink RX5 78 yX5_hitIsBeforeFirst ∈ wB := wB_at 1047 (by decide +kernel) (by decide +kernel)
theorem mlX5_82 : Cond.methodLink RX5 82 yX8_kindOf ∈ wB := wB_at 1087 (by decide +kernel) (by decide +kernel)
theorem mlX6_71 : Cond.methodLink RX6 71 yX4_shorten ∈ wB := wB_at 692 (by decide +kernel) (by decide +kernel)
theorem mlX6_75 : Cond.methodLink RX6 75 yX4_addWalls ∈ wB := wB_at 696 (by decide +kernel) (by decide +kernel)
theorem mlX6_79 : Cond.methodLink RX6 79 yX4_size ∈ wB := wB_at 710 (by decide +kernel) (by decide +kernel)
theorem mlX6_83 : Cond.methodLink RX6 83 yX6_makeSubtree ∈ wB := wB_at 714 (by decide +kernel) (by decide +kernel)
theorem mlX6_87 : Cond.methodLink RX6 87 yX6_makeLeaf ∈ wB := wB_at 718 (by decide +kernel) (by decide +kernel)
theorem mlX6_91 : Cond.methodLink RX6 91 yX6_splittingWall ∈ wB := wB_at 725 (by decide +kernel) (by decide +kernel)
theorem mlX6_95 : Cond.methodLink RX6 95 yX6_makeNode ∈ wB := wB_at 761 (by decide +kernel) (by decide +kernel)
theorem mlX6_99 : Cond.methodLink RX6 99 yX6_makeBranches ∈ wB := wB_at 782 (by decide +kernel) (by decide +kernel)
theorem mlX6_103 : Cond.methodLink RX6 103 yX6_hasNode ∈ wB := wB_at 786 (by decide +kernel) (by decide +kernel)
theorem mlX6_107 : Cond.methodLink RX6 107 yX4_addSide ∈ wB := wB_at 765 (by decide +kernel) (by decide +kernel)
theorem mlX6_116 : Cond.methodLink RX6 116 yX4_wallOf ∈ wB := wB_at 729 (by decide +kernel) (by decide +kernel)
theorem mlX6_119 : Cond.methodLink RX6 119 yX6_endOfFixed ∈ wB := wB_at 737 (by decide +kernel) (by decide +kernel)
theorem mlX6_122 : Cond.methodLink RX6 122 yX6_priceOf ∈ wB := wB_at 742 (by decide +kernel) (by decide +kernel)
theorem mlX6_125 : Cond.methodLink RX6 125 yX8_isFixed ∈ wB := wB_at 741 (by decide +kernel) (by decide +kernel)
theorem mlX6_130 : Cond.methodLink RX6 130 yX4_placeOf ∈ wB := wB_at 746 (by decide +kernel) (by decide +kernel)
theorem mlX6_136 : Cond.methodLink RX6 136 yX4_has ∈ wB := wB_at 839 (by decide +kernel) (by decide +kernel)
theorem mlX6_139 : Cond.methodLink RX6 139 yX4_bound ∈ wB := wB_at 860 (by decide +kernel) (by decide +kernel)
theorem mlX6_142 : Cond.methodLink RX6 142 yX6_wallOfNode ∈ wB := wB_at 903 (by decide +kernel) (by decide +kernel)
theorem mlX6_145 : Cond.methodLink RX6 145 yX8_sideValue ∈ wB := wB_at 904 (by decide +kernel) (by decide +kernel)
theorem mlX6_148 : Cond.methodLink RX6 148 yX6_isInFrontOrOnLine ∈ wB := wB_at 899 (by decide +kernel) (by decide +kernel)
theorem mlX6_152 : Cond.methodLink RX6 152 yX6_frontOf ∈ wB := wB_at 905 (by decide +kernel) (by decide +kernel)
theorem mlX6_155 : Cond.methodLink RX6 155 yX6_backOf ∈ wB := wB_at 906 (by decide +kernel) (by decide +kernel)
theorem mlX7_34 : Cond.methodLink RX7 34 yX8_dropAll ∈ wB := wB_at 603 (by decide +kernel) (by decide +kernel)
theorem mlX7_39 : Cond.methodLink RX7 39 yX7_readItem ∈ wB := wB_at 607 (by decide +kernel) (by decide +kernel)
theorem mlX7_43 : Cond.methodLink RX7 43 yX7_codeAt ∈ wB := wB_at 611 (by decide +kernel) (by decide +kernel)
theorem mlX7_47 : Cond.methodLink RX7 47 yX7_kindOfLetter ∈ wB := wB_at 615 (by decide +kernel) (by decide +kernel)
theorem mlX7_50 : Cond.methodLink RX7 50 yX7_fault ∈ wB := wB_at 618 (by decide +kernel) (by decide +kernel)
theorem mlX7_54 : Cond.methodLink RX7 54 yX7_readNumber ∈ wB := wB_at 622 (by decide +kernel) (by decide +kernel)
theorem mlX7_58 : Cond.methodLink RX7 58 yX8_put ∈ wB := wB_at 629 (by decide +kernel) (by decide +kernel)
theorem mlX7_62 : Cond.methodLink RX7 62 yX7_isDigit ∈ wB := wB_at 626 (by decide +kernel) (by decide +kernel)
theorem mlX8_41 : Cond.methodLink RX8 41 yX8_isFixed ∈ wB := wB_at 667 (by decide +kernel) (by decide +kernel)
theorem mlX8_45 : Cond.methodLink RX8 45 yX8_wayX ∈ wB := wB_at 876 (by decide +kernel) (by decide +kernel)
theorem mlX8_49 : Cond.methodLink RX8 49 yX8_wayY ∈ wB := wB_at 880 (by decide +kernel) (by decide +kernel)
theorem mlX8_52 : Cond.methodLink RX8 52 yX8_exists ∈ wB := wB_at 964 (by decide +kernel) (by decide +kernel)
theorem mlX8_55 : Cond.methodLink RX8 55 yX8_kindOf ∈ wB := wB_at 966 (by decide +kernel) (by decide +kernel)
theorem mlX8_58 : Cond.methodLink RX8 58 yX8_sideValue ∈ wB := wB_at 965 (by decide +kernel) (by decide +kernel)
theorem mlX8_62 : Cond.methodLink RX8 62 yX8_copyWalls ∈ wB := wB_at 448 (by decide +kernel) (by decide +kernel)
theorem mlX8_66 : Cond.methodLink RX8 66 yX8_changeWeights ∈ wB := wB_at 452 (by decide +kernel) (by decide +kernel)
theorem mlX8_70 : Cond.methodLink RX8 70 yX8_hasSamePoints ∈ wB := wB_at 671 (by decide +kernel) (by decide +kernel)
theorem mlX8_74 : Cond.methodLink RX8 74 yX8_startX ∈ wB := wB_at 675 (by decide +kernel) (by decide +kernel)
theorem mlX8_76 : Cond.methodLink RX8 76 yX8_startY ∈ wB := wB_at 676 (by decide +kernel) (by decide +kernel)
theorem mlX8_78 : Cond.methodLink RX8 78 yX8_endX ∈ wB := wB_at 677 (by decide +kernel) (by decide +kernel)
theorem mlX8_80 : Cond.methodLink RX8 80 yX8_endY ∈ wB := wB_at 678 (by decide +kernel) (by decide +kernel)
theorem mlX9_86 : Cond.methodLink RX9 86 yX9_isBadPoint ∈ wB := wB_at 422 (by decide +kernel) (by decide +kernel)
theorem mlX9_90 : Cond.methodLink RX9 90 yX9_isOutside ∈ wB := wB_at 425 (by decide +kernel) (by decide +kernel)
theorem mlX9_94 : Cond.methodLink RX9 94 yX8_lowestFree ∈ wB := wB_at 428 (by decide +kernel) (by decide +kernel)
theorem mlX9_98 : Cond.methodLink RX9 98 yX9_beginEdit ∈ wB := wB_at 432 (by decide +kernel) (by decide +kernel)
theorem mlX9_101 : Cond.methodLink RX9 101 yX8_put ∈ wB := wB_at 456 (by decide +kernel) (by decide +kernel)
theorem mlX9_105 : Cond.methodLink RX9 105 yX8_exists ∈ wB := wB_at 464 (by decide +kernel) (by decide +kernel)
theorem mlX9_109 : Cond.methodLink RX9 109 yX8_drop ∈ wB := wB_at 468 (by decide +kernel) (by decide +kernel)
theorem mlX9_113 : Cond.methodLink RX9 113 yX8_total ∈ wB := wB_at 472 (by decide +kernel) (by decide +kernel)
theorem mlX9_116 : Cond.methodLink RX9 116 yX8_startX ∈ wB := wB_at 480 (by decide +kernel) (by decide +kernel)
theorem mlX9_120 : Cond.methodLink RX9 120 yX8_startY ∈ wB := wB_at 484 (by decide +kernel) (by decide +kernel)
theorem mlX9_123 : Cond.methodLink RX9 123 yX8_endX ∈ wB := wB_at 488 (by decide +kernel) (by decide +kernel)
theorem mlX9_126 : Cond.methodLink RX9 126 yX8_endY ∈ wB := wB_at 492 (by decide +kernel) (by decide +kernel)
theorem mlX9_129 : Cond.methodLink RX9 129 yX9_pointCode ∈ wB := wB_at 496 (by decide +kernel) (by decide +kernel)
theorem mlX9_133 : Cond.methodLink RX9 133 yX8_shift ∈ wB := wB_at 499 (by decide +kernel) (by decide +kernel)
theorem mlX9_137 : Cond.methodLink RX9 137 yX8_turn ∈ wB := wB_at 507 (by decide +kernel) (by decide +kernel)
theorem mlX9_140 : Cond.methodLink RX9 140 yX8_kindOf ∈ wB := wB_at 511 (by decide +kernel) (by decide +kernel)
theorem mlX9_143 : Cond.methodLink RX9 143 yX8_changeKind ∈ wB := wB_at 519 (by decide +kernel) (by decide +kernel)
theorem mlX9_147 : Cond.methodLink RX9 147 yX9_areBadWeights ∈ wB := wB_at 527 (by decide +kernel) (by decide +kernel)
theorem mlX9_150 : Cond.methodLink RX9 150 yX8_weightCode ∈ wB := wB_at 530 (by decide +kernel) (by decide +kernel)
theorem mlX9_153 : Cond.methodLink RX9 153 yX8_changeWeights ∈ wB := wB_at 534 (by decide +kernel) (by decide +kernel)
theorem mlX9_156 : Cond.methodLink RX9 156 yX2_isEmpty ∈ wB := wB_at 539 (by decide +kernel) (by decide +kernel)
theorem mlX9_160 : Cond.methodLink RX9 160 yX2_restore ∈ wB := wB_at 543 (by decide +kernel) (by decide +kernel)
theorem mlX9_163 : Cond.methodLink RX9 163 yX2_size ∈ wB := wB_at 547 (by decide +kernel) (by decide +kernel)
theorem mlX9_166 : Cond.methodLink RX9 166 yX8_isMovable ∈ wB := wB_at 563 (by decide +kernel) (by decide +kernel)
theorem mlX9_169 : Cond.methodLink RX9 169 yX7_isFull ∈ wB := wB_at 575 (by decide +kernel) (by decide +kernel)
theorem mlX9_172 : Cond.methodLink RX9 172 yX7_append ∈ wB := wB_at 579 (by decide +kernel) (by decide +kernel)
theorem mlX9_175 : Cond.methodLink RX9 175 yX7_length ∈ wB := wB_at 583 (by decide +kernel) (by decide +kernel)
theorem mlX9_178 : Cond.methodLink RX9 178 yX7_clear ∈ wB := wB_at 591 (by decide +kernel) (by decide +kernel)
theorem mlX9_181 : Cond.methodLink RX9 181 yX7_readInto ∈ wB := wB_at 599 (by decide +kernel) (by decide +kernel)
theorem mlX9_185 : Cond.methodLink RX9 185 yX8_copyWalls ∈ wB := wB_at 630 (by decide +kernel) (by decide +kernel)
theorem mlX9_188 : Cond.methodLink RX9 188 yX7_placeOfFault ∈ wB := wB_at 635 (by decide +kernel) (by decide +kernel)
theorem mlX9_191 : Cond.methodLink RX9 191 yX7_kindOfFault ∈ wB := wB_at 643 (by decide +kernel) (by decide +kernel)
theorem mlX9_194 : Cond.methodLink RX9 194 yX7_itemOfFault ∈ wB := wB_at 651 (by decide +kernel) (by decide +kernel)
theorem mlX9_197 : Cond.methodLink RX9 197 yX9_needTree ∈ wB := wB_at 659 (by decide +kernel) (by decide +kernel)
theorem mlX9_200 : Cond.methodLink RX9 200 yX6_nodeTotal ∈ wB := wB_at 790 (by decide +kernel) (by decide +kernel)
theorem mlX9_203 : Cond.methodLink RX9 203 yX6_hasNode ∈ wB := wB_at 798 (by decide +kernel) (by decide +kernel)
theorem mlX9_206 : Cond.methodLink RX9 206 yX6_wallOfNode ∈ wB := wB_at 799 (by decide +kernel) (by decide +kernel)
theorem mlX9_209 : Cond.methodLink RX9 209 yX6_frontOf ∈ wB := wB_at 807 (by decide +kernel) (by decide +kernel)
theorem mlX9_212 : Cond.methodLink RX9 212 yX6_backOf ∈ wB := wB_at 811 (by decide +kernel) (by decide +kernel)
theorem mlX9_215 : Cond.methodLink RX9 215 yX6_depthOf ∈ wB := wB_at 819 (by decide +kernel) (by decide +kernel)
theorem mlX9_218 : Cond.methodLink RX9 218 yX6_pieceTotal ∈ wB := wB_at 827 (by decide +kernel) (by decide +kernel)
theorem mlX9_221 : Cond.methodLink RX9 221 yX6_hasPiece ∈ wB := wB_at 835 (by decide +kernel) (by decide +kernel)
theorem mlX9_224 : Cond.methodLink RX9 224 yX6_wallOfPiece ∈ wB := wB_at 840 (by decide +kernel) (by decide +kernel)
theorem mlX9_227 : Cond.methodLink RX9 227 yX6_nodeOfPiece ∈ wB := wB_at 848 (by decide +kernel) (by decide +kernel)
theorem mlX9_230 : Cond.methodLink RX9 230 yX6_boundOfPiece ∈ wB := wB_at 856 (by decide +kernel) (by decide +kernel)
theorem mlX9_235 : Cond.methodLink RX9 235 yX9_quotient ∈ wB := wB_at 869 (by decide +kernel) (by decide +kernel)
theorem mlX9_239 : Cond.methodLink RX9 239 yX8_squaredLength ∈ wB := wB_at 872 (by decide +kernel) (by decide +kernel)
theorem mlX9_242 : Cond.methodLink RX9 242 yX9_squareRoot ∈ wB := wB_at 884 (by decide +kernel) (by decide +kernel)
theorem mlX9_246 : Cond.methodLink RX9 246 yX6_leafAt ∈ wB := wB_at 895 (by decide +kernel) (by decide +kernel)
theorem mlX9_249 : Cond.methodLink RX9 249 yX6_leafDepthSum ∈ wB := wB_at 911 (by decide +kernel) (by decide +kernel)
theorem mlX9_252 : Cond.methodLink RX9 252 yX6_leafTotal ∈ wB := wB_at 915 (by decide +kernel) (by decide +kernel)
theorem mlX9_255 : Cond.methodLink RX9 255 yX0_arrange ∈ wB := wB_at 927 (by decide +kernel) (by decide +kernel)
theorem mlX9_258 : Cond.methodLink RX9 258 yX0_size ∈ wB := wB_at 967 (by decide +kernel) (by decide +kernel)
theorem mlX9_259 : Cond.methodLink RX9 259 yX0_pieceAt ∈ wB := wB_at 975 (by decide +kernel) (by decide +kernel)
theorem mlX9_262 : Cond.methodLink RX9 262 yX9_isBadPicture ∈ wB := wB_at 983 (by decide +kernel) (by decide +kernel)
theorem mlX9_266 : Cond.methodLink RX9 266 yX5_standAt ∈ wB := wB_at 989 (by decide +kernel) (by decide +kernel)
theorem mlX9_269 : Cond.methodLink RX9 269 yX5_aimAtColumn ∈ wB := wB_at 997 (by decide +kernel) (by decide +kernel)
theorem mlX9_272 : Cond.methodLink RX9 272 yX9_countCovering ∈ wB := wB_at 1005 (by decide +kernel) (by decide +kernel)
theorem mlX9_275 : Cond.methodLink RX9 275 yX9_isBadColumn ∈ wB := wB_at 1034 (by decide +kernel) (by decide +kernel)
theorem mlX9_278 : Cond.methodLink RX9 278 yX9_covers ∈ wB := wB_at 1009 (by decide +kernel) (by decide +kernel)
theorem mlX9_281 : Cond.methodLink RX9 281 yX5_aim ∈ wB := wB_at 1041 (by decide +kernel) (by decide +kernel)
theorem mlX9_284 : Cond.methodLink RX9 284 yX5_findFirstHit ∈ wB := wB_at 1042 (by decide +kernel) (by decide +kernel)
theorem mlX9_287 : Cond.methodLink RX9 287 yX5_firstHitIsWithinOne ∈ wB := wB_at 1051 (by decide +kernel) (by decide +kernel)
theorem mlX9_290 : Cond.methodLink RX9 290 yX5_firstHitWall ∈ wB := wB_at 1055 (by decide +kernel) (by decide +kernel)
theorem mlX9_293 : Cond.methodLink RX9 293 yX5_firstHitTop ∈ wB := wB_at 1067 (by decide +kernel) (by decide +kernel)
theorem mlX9_296 : Cond.methodLink RX9 296 yX5_firstHitBottom ∈ wB := wB_at 1071 (by decide +kernel) (by decide +kernel)
theorem mlX9_299 : Cond.methodLink RX9 299 yX9_lowestPart ∈ wB := wB_at 1075 (by decide +kernel) (by decide +kernel)
theorem mlX9_303 : Cond.methodLink RX9 303 yX5_countPanes ∈ wB := wB_at 1083 (by decide +kernel) (by decide +kernel)
theorem mlX9_306 : Cond.methodLink RX9 306 yX9_countSeenFrom ∈ wB := wB_at 1096 (by decide +kernel) (by decide +kernel)
theorem mlX9_309 : Cond.methodLink RX9 309 yX9_isBadDirection ∈ wB := wB_at 986 (by decide +kernel) (by decide +kernel)
theorem mlX9_312 : Cond.methodLink RX9 312 yX9_placeAfterMove ∈ wB := wB_at 1116 (by decide +kernel) (by decide +kernel)
theorem mlX9_316 : Cond.methodLink RX9 316 yX9_nextState ∈ wB := wB_at 1128 (by decide +kernel) (by decide +kernel)
theorem mlX9_320 : Cond.methodLink RX9 320 yX9_randomMove ∈ wB := wB_at 1134 (by decide +kernel) (by decide +kernel)
theorem mlX9_324 : Cond.methodLink RX9 324 yX3_find ∈ wB := wB_at 1143 (by decide +kernel) (by decide +kernel)
theorem mlX9_327 : Cond.methodLink RX9 327 yX3_wall ∈ wB := wB_at 1171 (by decide +kernel) (by decide +kernel)
theorem mlX9_334 : Cond.methodLink RX9 334 yX3_top ∈ wB := wB_at 1181 (by decide +kernel) (by decide +kernel)
theorem mlX9_338 : Cond.methodLink RX9 338 yX3_bottom ∈ wB := wB_at 1185 (by decide +kernel) (by decide +kernel)
theorem mlX9_341 : Cond.methodLink RX9 341 yX6_make ∈ wB := wB_at 688 (by decide +kernel) (by decide +kernel)
theorem mlX9_345 : Cond.methodLink RX9 345 yX6_greatestLeafDepth ∈ wB := wB_at 1197 (by decide +kernel) (by decide +kernel)
theorem mlX9_348 : Cond.methodLink RX9 348 yX8_fixedTotal ∈ wB := wB_at 1205 (by decide +kernel) (by decide +kernel)
theorem mlX9_351 : Cond.methodLink RX9 351 yX1_search ∈ wB := wB_at 1209 (by decide +kernel) (by decide +kernel)
theorem mlX9_354 : Cond.methodLink RX9 354 yX1_fewestPieces ∈ wB := wB_at 1227 (by decide +kernel) (by decide +kernel)
theorem mlX9_357 : Cond.methodLink RX9 357 yX1_rootWall ∈ wB := wB_at 1235 (by decide +kernel) (by decide +kernel)
theorem mlX9_360 : Cond.methodLink RX9 360 yX2_keep ∈ wB := wB_at 436 (by decide +kernel) (by decide +kernel)
theorem mlX9_363 : Cond.methodLink RX9 363 yX8_hasSameFixedPart ∈ wB := wB_at 663 (by decide +kernel) (by decide +kernel)
theorem mlX9_366 : Cond.methodLink RX9 366 yX8_copyFrom ∈ wB := wB_at 679 (by decide +kernel) (by decide +kernel)
theorem mlX9_369 : Cond.methodLink RX9 369 yX8_splitWeight ∈ wB := wB_at 680 (by decide +kernel) (by decide +kernel)
theorem mlX9_372 : Cond.methodLink RX9 372 yX8_balanceWeight ∈ wB := wB_at 684 (by decide +kernel) (by decide +kernel)
theorem mlX9_375 : Cond.methodLink RX9 375 yX5_hits ∈ wB := wB_at 1013 (by decide +kernel) (by decide +kernel)
theorem mlX9_378 : Cond.methodLink RX9 378 yX5_hitIsAtOrAfter ∈ wB := wB_at 1022 (by decide +kernel) (by decide +kernel)
theorem mlX9_381 : Cond.methodLink RX9 381 yX5_hitIsAtOrBefore ∈ wB := wB_at 1026 (by decide +kernel) (by decide +kernel)
theorem mlX9_384 : Cond.methodLink RX9 384 yX9_sees ∈ wB := wB_at 1100 (by decide +kernel) (by decide +kernel)
theorem mlX9_387 : Cond.methodLink RX9 387 yX5_isBlocked ∈ wB := wB_at 1104 (by decide +kernel) (by decide +kernel)
theorem mlX9_390 : Cond.methodLink RX9 390 yX9_canMove ∈ wB := wB_at 1120 (by decide +kernel) (by decide +kernel)
theorem mlX9_403 : Cond.methodLink RX9 403 yX9_greatestDivisor ∈ wB := wB_at 1078 (by decide +kernel) (by decide +kernel)
theorem maX4_91 : Cond.methodLink RX4 91 Lib.Math.abs.name ∈ wB ∧ Cond.static Lib.Math.abs.name ∈ wB ∧ Cond.initialized "java/lang/Math" ∈ wB ∧ Cond.code Lib.Math.abs.name Lib.Math.abs.code 1 (some .int) ∈ wB := ⟨wB_at 781 (by decide +kernel) (by decide +kernel), wB_at 759 (by decide +kernel) (by decide +kernel), wB_at 92 (by decide +kernel) (by decide +kernel), wB_at 760 (by decide +kernel) (by decide +kernel)⟩
theorem maX6_111 : Cond.methodLink RX6 111 Lib.Math.max.name ∈ wB ∧ Cond.static Lib.Math.max.name ∈ wB ∧ Cond.initialized "java/lang/Math" ∈ wB ∧ Cond.code Lib.Math.max.name Lib.Math.max.code 2 (some .int) ∈ wB := ⟨wB_at 722 (by decide +kernel) (by decide +kernel), wB_at 723 (by decide +kernel) (by decide +kernel), wB_at 92 (by decide +kernel) (by decide +kernel), wB_at 724 (by decide +kernel) (by decide +kernel)⟩
theorem maX6_133 : Cond.methodLink RX6 133 Lib.Math.abs.name ∈ wB ∧ Cond.static Lib.Math.abs.name ∈ wB ∧ Cond.initialized "java/lang/Math" ∈ wB ∧ Cond.code Lib.Math.abs.name Lib.Math.abs.code 1 (some .int) ∈ wB := ⟨wB_at 758 (by decide +kernel) (by decide +kernel), wB_at 759 (by decide +kernel) (by decide +kernel), wB_at 92 (by decide +kernel) (by decide +kernel), wB_at 760 (by decide +kernel) (by decide +kernel)⟩
theorem clX10_281 : Cond.constantLong RX10 281 (4503599627370496) ∈ wB := wB_at 1692 (by decide +kernel) (by decide +kernel)
theorem clX10_283 : Cond.constantLong RX10 283 (4) ∈ wB := wB_at 1693 (by decide +kernel) (by decide +kernel)
theorem clX10_285 : Cond.constantLong RX10 285 (2) ∈ wB := wB_at 1694 (by decide +kernel) (by decide +kernel)
theorem clX10_311 : Cond.constantLong RX10 311 (-1) ∈ wB := wB_at 1748 (by decide +kernel) (by decide +kernel)
theorem clX10_373 : Cond.constantLong RX10 373 (1103515245) ∈ wB := wB_at 1817 (by decide +kernel) (by decide +kernel)
theorem clX10_375 : Cond.constantLong RX10 375 (12345) ∈ wB := wB_at 1818 (by decide +kernel) (by decide +kernel)
theorem clX10_377 : Cond.constantLong RX10 377 (2147483648) ∈ wB := wB_at 1819 (by decide +kernel) (by decide +kernel)
theorem clX10_379 : Cond.constantLong RX10 379 (65536) ∈ wB := wB_at 1820 (by decide +kernel) (by decide +kernel)
theorem clX10_381 : Cond.constantLong RX10 381 (7) ∈ wB := wB_at 1821 (by decide +kernel) (by decide +kernel)
theorem clX10_404 : Cond.constantLong RX10 404 (-2) ∈ wB := wB_at 1838 (by decide +kernel) (by decide +kernel)
theorem clX10_406 : Cond.constantLong RX10 406 (-8) ∈ wB := wB_at 1839 (by decide +kernel) (by decide +kernel)
theorem clX9_330 : Cond.constantLong RX9 330 (-2) ∈ wB := wB_at 1179 (by decide +kernel) (by decide +kernel)
theorem clX9_332 : Cond.constantLong RX9 332 (-8) ∈ wB := wB_at 1180 (by decide +kernel) (by decide +kernel)
theorem clX9_393 : Cond.constantLong RX9 393 (1103515245) ∈ wB := wB_at 1131 (by decide +kernel) (by decide +kernel)
theorem clX9_395 : Cond.constantLong RX9 395 (12345) ∈ wB := wB_at 1132 (by decide +kernel) (by decide +kernel)
theorem clX9_397 : Cond.constantLong RX9 397 (2147483648) ∈ wB := wB_at 1133 (by decide +kernel) (by decide +kernel)
theorem clX9_399 : Cond.constantLong RX9 399 (65536) ∈ wB := wB_at 1137 (by decide +kernel) (by decide +kernel)
theorem clX9_401 : Cond.constantLong RX9 401 (7) ∈ wB := wB_at 1138 (by decide +kernel) (by decide +kernel)
theorem clX9_407 : Cond.constantLong RX9 407 (9007199254740992) ∈ wB := wB_at 887 (by decide +kernel) (by decide +kernel)
theorem clX9_409 : Cond.constantLong RX9 409 (4) ∈ wB := wB_at 888 (by decide +kernel) (by decide +kernel)
theorem clX9_411 : Cond.constantLong RX9 411 (2) ∈ wB := wB_at 889 (by decide +kernel) (by decide +kernel)
theorem clX10_287 : Cond.constantDouble RX10 287 (4611686018427387904) ∈ wB := wB_at 1695 (by decide +kernel) (by decide +kernel)
theorem clX10_289 : Cond.constantDouble RX10 289 (13841813454723219456) ∈ wB := wB_at 1684 (by decide +kernel) (by decide +kernel)
theorem clX9_233 : Cond.constantDouble RX9 233 (13841813454723219456) ∈ wB := wB_at 868 (by decide +kernel) (by decide +kernel)
theorem clX9_413 : Cond.constantDouble RX9 413 (4611686018427387904) ∈ wB := wB_at 890 (by decide +kernel) (by decide +kernel)
