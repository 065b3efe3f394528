/-! the law, call by call -/
section CASES
variable {p : Program} {l : Launch} {e : Env} {s : State} {m : MethodId} {below : List Frame} {meth : Method} {c : Code} {b L : Nat} {xs : Nat → Int32} {D : va_G} {cA : Nat → ClassId} {aC aR : Nat → Nat}
theorem mlw_X11_greedily : ML yX11_greedily cX11_greedily 3 (some .int) 2 := ⟨(bw 1086 (by decide +kernel) (by decide +kernel)), (bw 1087 (by decide +kernel) (by decide +kernel)), (bw 99 (by decide +kernel) (by decide +kernel)), (bw 1088 (by decide +kernel) (by decide +kernel)), ⟨by decide +kernel, by decide +kernel⟩, by decide +kernel⟩
theorem mlw_X12_greedily : ML yX12_greedily cX12_greedily 7 (some .int) 2 := ⟨(bw 1713 (by decide +kernel) (by decide +kernel)), (bw 1714 (by decide +kernel) (by decide +kernel)), (bw 111 (by decide +kernel) (by decide +kernel)), (bw 1715 (by decide +kernel) (by decide +kernel)), ⟨by decide +kernel, by decide +kernel⟩, by decide +kernel⟩
theorem dL_1239 : decode code 1239 = .ok (.aload_n 1, 1) := by decide +kernel
theorem dL_1240 : decode code 1240 = .ok (.aload_n 0, 1) := by decide +kernel
theorem dL_1241 : decode code 1241 = .ok (.iload_n 3, 1) := by decide +kernel
theorem dL_1242 : decode code 1242 = .ok (.iconst 1, 1) := by decide +kernel
theorem dL_1243 : decode code 1243 = .ok (.iadd, 1) := by decide +kernel
theorem dL_1244 : decode code 1244 = .ok (.iaload, 1) := by decide +kernel
theorem dL_1245 : decode code 1245 = .ok (.aload_n 0, 1) := by decide +kernel
theorem dL_1246 : decode code 1246 = .ok (.iload_n 3, 1) := by decide +kernel
theorem dL_1247 : decode code 1247 = .ok (.iconst 2, 1) := by decide +kernel
theorem dL_1248 : decode code 1248 = .ok (.iadd, 1) := by decide +kernel
theorem dL_1249 : decode code 1249 = .ok (.iaload, 1) := by decide +kernel
theorem dL_1250 : decode code 1250 = .ok (.invokevirtual 179, 3) := by decide +kernel
theorem dL_1253 : decode code 1253 = .ok (.aload_n 2, 1) := by decide +kernel
theorem dL_1254 : decode code 1254 = .ok (.aload_n 0, 1) := by decide +kernel
theorem dL_1255 : decode code 1255 = .ok (.iload_n 3, 1) := by decide +kernel
theorem dL_1256 : decode code 1256 = .ok (.iconst 1, 1) := by decide +kernel
theorem dL_1257 : decode code 1257 = .ok (.iadd, 1) := by decide +kernel
theorem dL_1258 : decode code 1258 = .ok (.iaload, 1) := by decide +kernel
theorem dL_1259 : decode code 1259 = .ok (.aload_n 0, 1) := by decide +kernel
theorem dL_1260 : decode code 1260 = .ok (.iload_n 3, 1) := by decide +kernel
theorem dL_1261 : decode code 1261 = .ok (.iconst 2, 1) := by decide +kernel
theorem dL_1262 : decode code 1262 = .ok (.iadd, 1) := by decide +kernel
theorem dL_1263 : decode code 1263 = .ok (.iaload, 1) := by decide +kernel
theorem dL_1264 : decode code 1264 = .ok (.invokevirtual 182, 3) := by decide +kernel
theorem dL_1267 : decode code 1267 = .ok (.if_icmp .eq 333, 3) := by decide +kernel
theorem dL_1270 : decode code 1270 = .ok (.iconst 0, 1) := by decide +kernel
theorem dL_1271 : decode code 1271 = .ok (.ireturn, 1) := by decide +kernel
theorem case_40 (C : CL p s m meth c b L xs D cA aC aR) {i : Nat} {MC MR : Mem} (hi : i + 4 ≤ L) (hL : L ≤ 2048) (hI : Inv MC MR) (kk : ∀ MC' MR' : Mem, Inv MC' MR' → KL p l e s m below meth c b D cA aC aR 1600 (lvL b aC aR i) [] MC' MR') : KL p l e s m below meth c b D cA aC aR 1239 (lvL b aC aR i) [] MC MR := by
  obtain ⟨v, MC', MR', e1, e2, hI2⟩ := sim_greedily hI (xs (i + 1)) (xs (i + 2))
  refine w_ald C 1 (by decide) rfl rfl dL_1239 ?_
  refine w_arg (k := 1) C (by omega) (by omega) dL_1240 dL_1241 dL_1242 (by decide) dL_1243 dL_1244 ?_
  refine w_arg (k := 2) C (by omega) (by omega) dL_1245 dL_1246 dL_1247 (by decide) dL_1248 dL_1249 ?_
  refine w_callCi C (As := [.int (xs (i + 1)), .int (xs (i + 2))]) (c_X11_greedily C.2.2.2.2.1 (xs (i + 1)) (xs (i + 2)) _ _ e1) mlw_X11_greedily (bw 1085 (by decide +kernel) (by decide +kernel)) rfl rfl (st := []) rfl ⟨Nat.le_of_ble_eq_true rfl, Nat.le_of_ble_eq_true rfl⟩ (Nat.le_of_ble_eq_true rfl) dL_1250 ?_
  refine w_ald C 2 (by decide) rfl rfl dL_1253 ?_
  refine w_arg (k := 1) C (by omega) (by omega) dL_1254 dL_1255 dL_1256 (by decide) dL_1257 dL_1258 ?_
  refine w_arg (k := 2) C (by omega) (by omega) dL_1259 dL_1260 dL_1261 (by decide) dL_1262 dL_1263 ?_
  refine w_callRi C (As := [.int (xs (i + 1)), .int (xs (i + 2))]) (c_X12_greedily C.2.2.2.2.2.1 (xs (i + 1)) (xs (i + 2)) _ _ e2) mlw_X12_greedily (bw 1712 (by decide +kernel) (by decide +kernel)) rfl rfl (st := [.int v]) rfl ⟨Nat.le_of_ble_eq_true rfl, Nat.le_of_ble_eq_true rfl⟩ (Nat.le_of_ble_eq_true rfl) dL_1264 ?_
  exact w_eq C (tgt := 1600) dL_1267 (by decide) (kk MC' MR' hI2)
theorem mlw_X11_pair : ML yX11_pair cX11_pair 3 (some .int) 2 := ⟨(bw 1095 (by decide +kernel) (by decide +kernel)), (bw 1096 (by decide +kernel) (by decide +kernel)), (bw 99 (by decide +kernel) (by decide +kernel)), (bw 1097 (by decide +kernel) (by decide +kernel)), ⟨by decide +kernel, by decide +kernel⟩, by decide +kernel⟩
theorem mlw_X12_pair : ML yX12_pair cX12_pair 9 (some .int) 2 := ⟨(bw 1733 (by decide +kernel) (by decide +kernel)), (bw 1734 (by decide +kernel) (by decide +kernel)), (bw 111 (by decide +kernel) (by decide +kernel)), (bw 1735 (by decide +kernel) (by decide +kernel)), ⟨by decide +kernel, by decide +kernel⟩, by decide +kernel⟩
theorem dL_1272 : decode code 1272 = .ok (.aload_n 1, 1) := by decide +kernel
theorem dL_1273 : decode code 1273 = .ok (.aload_n 0, 1) := by decide +kernel
theorem dL_1274 : decode code 1274 = .ok (.iload_n 3, 1) := by decide +kernel
theorem dL_1275 : decode code 1275 = .ok (.iconst 1, 1) := by decide +kernel
theorem dL_1276 : decode code 1276 = .ok (.iadd, 1) := by decide +kernel
theorem dL_1277 : decode code 1277 = .ok (.iaload, 1) := by decide +kernel
theorem dL_1278 : decode code 1278 = .ok (.aload_n 0, 1) := by decide +kernel
theorem dL_1279 : decode code 1279 = .ok (.iload_n 3, 1) := by decide +kernel
theorem dL_1280 : decode code 1280 = .ok (.iconst 2, 1) := by decide +kernel
theorem dL_1281 : decode code 1281 = .ok (.iadd, 1) := by decide +kernel
theorem dL_1282 : decode code 1282 = .ok (.iaload, 1) := by decide +kernel
theorem dL_1283 : decode code 1283 = .ok (.invokevirtual 183, 3) := by decide +kernel
theorem dL_1286 : decode code 1286 = .ok (.aload_n 2, 1) := by decide +kernel
theorem dL_1287 : decode code 1287 = .ok (.aload_n 0, 1) := by decide +kernel
theorem dL_1288 : decode code 1288 = .ok (.iload_n 3, 1) := by decide +kernel
theorem dL_1289 : decode code 1289 = .ok (.iconst 1, 1) := by decide +kernel
theorem dL_1290 : decode code 1290 = .ok (.iadd, 1) := by decide +kernel
theorem dL_1291 : decode code 1291 = .ok (.iaload, 1) := by decide +kernel
theorem dL_1292 : decode code 1292 = .ok (.aload_n 0, 1) := by decide +kernel
theorem dL_1293 : decode code 1293 = .ok (.iload_n 3, 1) := by decide +kernel
theorem dL_1294 : decode code 1294 = .ok (.iconst 2, 1) := by decide +kernel
theorem dL_1295 : decode code 1295 = .ok (.iadd, 1) := by decide +kernel
theorem dL_1296 : decode code 1296 = .ok (.iaload, 1) := by decide +kernel
theorem dL_1297 : decode code 1297 = .ok (.invokevirtual 186, 3) := by decide +kernel
theorem dL_1300 : decode code 1300 = .ok (.if_icmp .eq 300, 3) := by decide +kernel
theorem dL_1303 : decode code 1303 = .ok (.iconst 0, 1) := by decide +kernel
theorem dL_1304 : decode code 1304 = .ok (.ireturn, 1) := by decide +kernel
theorem case_41 (C : CL p s m meth c b L xs D cA aC aR) {i : Nat} {MC MR : Mem} (hi : i + 4 ≤ L) (hL : L ≤ 2048) (hI : Inv MC MR) (kk : ∀ MC' MR' : Mem, Inv MC' MR' → KL p l e s m below meth c b D cA aC aR 1600 (lvL b aC aR i) [] MC' MR') : KL p l e s m below meth c b D cA aC aR 1272 (lvL b aC aR i) [] MC MR := by
  obtain ⟨v, MC', MR', e1, e2, hI2⟩ := sim_pair hI (xs (i + 1)) (xs (i + 2))
  refine w_ald C 1 (by decide) rfl rfl dL_1272 ?_
  refine w_arg (k := 1) C (by omega) (by omega) dL_1273 dL_1274 dL_1275 (by decide) dL_1276 dL_1277 ?_
  refine w_arg (k := 2) C (by omega) (by omega) dL_1278 dL_1279 dL_1280 (by decide) dL_1281 dL_1282 ?_
  refine w_callCi C (As := [.int (xs (i + 1)), .int (xs (i + 2))]) (c_X11_pair C.2.2.2.2.1 (xs (i + 1)) (xs (i + 2)) _ _ e1) mlw_X11_pair (bw 1094 (by decide +kernel) (by decide +kernel)) rfl rfl (st := []) rfl ⟨Nat.le_of_ble_eq_true rfl, Nat.le_of_ble_eq_true rfl⟩ (Nat.le_of_ble_eq_true rfl) dL_1283 ?_
  refine w_ald C 2 (by decide) rfl rfl dL_1286 ?_
  refine w_arg (k := 1) C (by omega) (by omega) dL_1287 dL_1288 dL_1289 (by decide) dL_1290 dL_1291 ?_
  refine w_arg (k := 2) C (by omega) (by omega) dL_1292 dL_1293 dL_1294 (by decide) dL_1295 dL_1296 ?_
  refine w_callRi C (As := [.int (xs (i + 1)), .int (xs (i + 2))]) (c_X12_pair C.2.2.2.2.2.1 (xs (i + 1)) (xs (i + 2)) _ _ e2) mlw_X12_pair (bw 1732 (by decide +kernel) (by decide +kernel)) rfl rfl (st := [.int v]) rfl ⟨Nat.le_of_ble_eq_true rfl, Nat.le_of_ble_eq_true rfl⟩ (Nat.le_of_ble_eq_true rfl) dL_1297 ?_
  exact w_eq C (tgt := 1600) dL_1300 (by decide) (kk MC' MR' hI2)
theorem mlw_X11_quota : ML yX11_quota cX11_quota 2 (some .int) 1 := ⟨(bw 1109 (by decide +kernel) (by decide +kernel)), (bw 1110 (by decide +kernel) (by decide +kernel)), (bw 99 (by decide +kernel) (by decide +kernel)), (bw 1111 (by decide +kernel) (by decide +kernel)), ⟨by decide +kernel, by decide +kernel⟩, by decide +kernel⟩
theorem mlw_X12_quota : ML yX12_quota cX12_quota 6 (some .int) 1 := ⟨(bw 1729 (by decide +kernel) (by decide +kernel)), (bw 1730 (by decide +kernel) (by decide +kernel)), (bw 111 (by decide +kernel) (by decide +kernel)), (bw 1731 (by decide +kernel) (by decide +kernel)), ⟨by decide +kernel, by decide +kernel⟩, by decide +kernel⟩
theorem dL_1305 : decode code 1305 = .ok (.aload_n 1, 1) := by decide +kernel
theorem dL_1306 : decode code 1306 = .ok (.aload_n 0, 1) := by decide +kernel
theorem dL_1307 : decode code 1307 = .ok (.iload_n 3, 1) := by decide +kernel
theorem dL_1308 : decode code 1308 = .ok (.iconst 1, 1) := by decide +kernel
theorem dL_1309 : decode code 1309 = .ok (.iadd, 1) := by decide +kernel
theorem dL_1310 : decode code 1310 = .ok (.iaload, 1) := by decide +kernel
theorem dL_1311 : decode code 1311 = .ok (.invokevirtual 187, 3) := by decide +kernel
theorem dL_1314 : decode code 1314 = .ok (.aload_n 2, 1) := by decide +kernel
theorem dL_1315 : decode code 1315 = .ok (.aload_n 0, 1) := by decide +kernel
theorem dL_1316 : decode code 1316 = .ok (.iload_n 3, 1) := by decide +kernel
theorem dL_1317 : decode code 1317 = .ok (.iconst 1, 1) := by decide +kernel
theorem dL_1318 : decode code 1318 = .ok (.iadd, 1) := by decide +kernel
theorem dL_1319 : decode code 1319 = .ok (.iaload, 1) := by decide +kernel
theorem dL_1320 : decode code 1320 = .ok (.invokevirtual 190, 3) := by decide +kernel
theorem dL_1323 : decode code 1323 = .ok (.if_icmp .eq 277, 3) := by decide +kernel
theorem dL_1326 : decode code 1326 = .ok (.iconst 0, 1) := by decide +kernel
theorem dL_1327 : decode code 1327 = .ok (.ireturn, 1) := by decide +kernel
theorem case_42 (C : CL p s m meth c b L xs D cA aC aR) {i : Nat} {MC MR : Mem} (hi : i + 4 ≤ L) (hL : L ≤ 2048) (hI : Inv MC MR) (kk : ∀ MC' MR' : Mem, Inv MC' MR' → KL p l e s m below meth c b D cA aC aR 1600 (lvL b aC aR i) [] MC' MR') : KL p l e s m below meth c b D cA aC aR 1305 (lvL b aC aR i) [] MC MR := by
  obtain ⟨v, MC', MR', e1, e2, hI2⟩ := sim_quota hI (xs (i + 1))
  refine w_ald C 1 (by decide) rfl rfl dL_1305 ?_
  refine w_arg (k := 1) C (by omega) (by omega) dL_1306 dL_1307 dL_1308 (by decide) dL_1309 dL_1310 ?_
  refine w_callCi C (As := [.int (xs (i + 1))]) (c_X11_quota C.2.2.2.2.1 (xs (i + 1)) _ _ e1) mlw_X11_quota (bw 1108 (by decide +kernel) (by decide +kernel)) rfl rfl (st := []) rfl ⟨Nat.le_of_ble_eq_true rfl, Nat.le_of_ble_eq_true rfl⟩ (Nat.le_of_ble_eq_true rfl) dL_1311 ?_
  refine w_ald C 2 (by decide) rfl rfl dL_1314 ?_
  refine w_arg (k := 1) C (by omega) (by omega) dL_1315 dL_1316 dL_1317 (by decide) dL_1318 dL_1319 ?_
  refine w_callRi C (As := [.int (xs (i + 1))]) (c_X12_quota C.2.2.2.2.2.1 (xs (i + 1)) _ _ e2) mlw_X12_quota (bw 1728 (by decide +kernel) (by decide +kernel)) rfl rfl (st := [.int v]) rfl ⟨Nat.le_of_ble_eq_true rfl, Nat.le_of_ble_eq_true rfl⟩ (Nat.le_of_ble_eq_true rfl) dL_1320 ?_
  exact w_eq C (tgt := 1600) dL_1323 (by decide) (kk MC' MR' hI2)
theorem mlw_X11_radius : ML yX11_radius cX11_radius 2 (some .int) 1 := ⟨(bw 1117 (by decide +kernel) (by decide +kernel)), (bw 1118 (by decide +kernel) (by decide +kernel)), (bw 99 (by decide +kernel) (by decide +kernel)), (bw 1119 (by decide +kernel) (by decide +kernel)), ⟨by decide +kernel, by decide +kernel⟩, by decide +kernel⟩
theorem mlw_X12_radius : ML yX12_radius cX12_radius 6 (some .int) 1 := ⟨(bw 1741 (by decide +kernel) (by decide +kernel)), (bw 1742 (by decide +kernel) (by decide +kernel)), (bw 111 (by decide +kernel) (by decide +kernel)), (bw 1743 (by decide +kernel) (by decide +kernel)), ⟨by decide +kernel, by decide +kernel⟩, by decide +kernel⟩
theorem dL_1328 : decode code 1328 = .ok (.aload_n 1, 1) := by decide +kernel
theorem dL_1329 : decode code 1329 = .ok (.aload_n 0, 1) := by decide +kernel
theorem dL_1330 : decode code 1330 = .ok (.iload_n 3, 1) := by decide +kernel
theorem dL_1331 : decode code 1331 = .ok (.iconst 1, 1) := by decide +kernel
theorem dL_1332 : decode code 1332 = .ok (.iadd, 1) := by decide +kernel
theorem dL_1333 : decode code 1333 = .ok (.iaload, 1) := by decide +kernel
theorem dL_1334 : decode code 1334 = .ok (.invokevirtual 191, 3) := by decide +kernel
theorem dL_1337 : decode code 1337 = .ok (.aload_n 2, 1) := by decide +kernel
theorem dL_1338 : decode code 1338 = .ok (.aload_n 0, 1) := by decide +kernel
theorem dL_1339 : decode code 1339 = .ok (.iload_n 3, 1) := by decide +kernel
theorem dL_1340 : decode code 1340 = .ok (.iconst 1, 1) := by decide +kernel
theorem dL_1341 : decode code 1341 = .ok (.iadd, 1) := by decide +kernel
theorem dL_1342 : decode code 1342 = .ok (.iaload, 1) := by decide +kernel
theorem dL_1343 : decode code 1343 = .ok (.invokevirtual 194, 3) := by decide +kernel
theorem dL_1346 : decode code 1346 = .ok (.if_icmp .eq 254, 3) := by decide +kernel
theorem dL_1349 : decode code 1349 = .ok (.iconst 0, 1) := by decide +kernel
theorem dL_1350 : decode code 1350 = .ok (.ireturn, 1) := by decide +kernel
theorem case_43 (C : CL p s m meth c b L xs D cA aC aR) {i : Nat} {MC MR : Mem} (hi : i + 4 ≤ L) (hL : L ≤ 2048) (hI : Inv MC MR) (kk : ∀ MC' MR' : Mem, Inv MC' MR' → KL p l e s m below meth c b D cA aC aR 1600 (lvL b aC aR i) [] MC' MR') : KL p l e s m below meth c b D cA aC aR 1328 (lvL b aC aR i) [] MC MR := by
  obtain ⟨v, MC', MR', e1, e2, hI2⟩ := sim_radius hI (xs (i + 1))
  refine w_ald C 1 (by decide) rfl rfl dL_1328 ?_
  refine w_arg (k := 1) C (by omega) (by omega) dL_1329 dL_1330 dL_1331 (by decide) dL_1332 dL_1333 ?_
  refine w_callCi C (As := [.int (xs (i + 1))]) (c_X11_radius C.2.2.2.2.1 (xs (i + 1)) _ _ e1) mlw_X11_radius (bw 1116 (by decide +kernel) (by decide +kernel)) rfl rfl (st := []) rfl ⟨Nat.le_of_ble_eq_true rfl, Nat.le_of_ble_eq_true rfl⟩ (Nat.le_of_ble_eq_true rfl) dL_1334 ?_
  refine w_ald C 2 (by decide) rfl rfl dL_1337 ?_
  refine w_arg (k := 1) C (by omega) (by omega) dL_1338 dL_1339 dL_1340 (by decide) dL_1341 dL_1342 ?_
  refine w_callRi C (As := [.int (xs (i + 1))]) (c_X12_radius C.2.2.2.2.2.1 (xs (i + 1)) _ _ e2) mlw_X12_radius (bw 1740 (by decide +kernel) (by decide +kernel)) rfl rfl (st := [.int v]) rfl ⟨Nat.le_of_ble_eq_true rfl, Nat.le_of_ble_eq_true rfl⟩ (Nat.le_of_ble_eq_true rfl) dL_1343 ?_
  exact w_eq C (tgt := 1600) dL_1346 (by decide) (kk MC' MR' hI2)
theorem mlw_X11_majority : ML yX11_majority cX11_majority 1 (some .int) 0 := ⟨(bw 1138 (by decide +kernel) (by decide +kernel)), (bw 1139 (by decide +kernel) (by decide +kernel)), (bw 99 (by decide +kernel) (by decide +kernel)), (bw 1140 (by decide +kernel) (by decide +kernel)), ⟨by decide +kernel, by decide +kernel⟩, by decide +kernel⟩
theorem mlw_X12_majority : ML yX12_majority cX12_majority 5 (some .int) 0 := ⟨(bw 1749 (by decide +kernel) (by decide +kernel)), (bw 1750 (by decide +kernel) (by decide +kernel)), (bw 111 (by decide +kernel) (by decide +kernel)), (bw 1751 (by decide +kernel) (by decide +kernel)), ⟨by decide +kernel, by decide +kernel⟩, by decide +kernel⟩
theorem dL_1351 : decode code 1351 = .ok (.aload_n 1, 1) := by decide +kernel
theorem dL_1352 : decode code 1352 = .ok (.invokevirtual 195, 3) := by decide +kernel
theorem dL_1355 : decode code 1355 = .ok (.aload_n 2, 1) := by decide +kernel
theorem dL_1356 : decode code 1356 = .ok (.invokevirtual 198, 3) := by decide +kernel
theorem dL_1359 : decode code 1359 = .ok (.if_icmp .eq 241, 3) := by decide +kernel
theorem dL_1362 : decode code 1362 = .ok (.iconst 0, 1) := by decide +kernel
theorem dL_1363 : decode code 1363 = .ok (.ireturn, 1) := by decide +kernel
theorem case_44 (C : CL p s m meth c b L xs D cA aC aR) {i : Nat} {MC MR : Mem} (hi : i + 4 ≤ L) (hL : L ≤ 2048) (hI : Inv MC MR) (kk : ∀ MC' MR' : Mem, Inv MC' MR' → KL p l e s m below meth c b D cA aC aR 1600 (lvL b aC aR i) [] MC' MR') : KL p l e s m below meth c b D cA aC aR 1351 (lvL b aC aR i) [] MC MR := by
  obtain ⟨v, MC', MR', e1, e2, hI2⟩ := sim_majority hI
  obtain ⟨v1, e1, hz1⟩ := Option.map_eq_some_iff.mp e1
  have hv1 : v = v1 := (congrArg Prod.fst hz1).symm
  subst hv1
  have hm1 : MC' = MC := (congrArg Prod.snd hz1).symm
  subst hm1
  obtain ⟨v2, e2, hz2⟩ := Option.map_eq_some_iff.mp e2
  have hv2 : v = v2 := (congrArg Prod.fst hz2).symm
  subst hv2
  have hm2 : MR' = MR := (congrArg Prod.snd hz2).symm
  subst hm2
  refine w_ald C 1 (by decide) rfl rfl dL_1351 ?_
  refine w_callCi C (As := []) (c_X11_majority C.2.2.2.2.1 _ _ e1) mlw_X11_majority (bw 1137 (by decide +kernel) (by decide +kernel)) rfl rfl (st := []) rfl ⟨Nat.le_of_ble_eq_true rfl, Nat.le_of_ble_eq_true rfl⟩ (Nat.le_of_ble_eq_true rfl) dL_1352 ?_
  refine w_ald C 2 (by decide) rfl rfl dL_1355 ?_
  refine w_callRi C (As := []) (c_X12_majority C.2.2.2.2.2.1 _ _ e2) mlw_X12_majority (bw 1748 (by decide +kernel) (by decide +kernel)) rfl rfl (st := [.int v]) rfl ⟨Nat.le_of_ble_eq_true rfl, Nat.le_of_ble_eq_true rfl⟩ (Nat.le_of_ble_eq_true rfl) dL_1356 ?_
  exact w_eq C (tgt := 1600) dL_1359 (by decide) (kk MC' MR' hI2)
theorem mlw_X11_byKind : ML yX11_byKind cX11_byKind 2 (some .int) 1 := ⟨(bw 1146 (by decide +kernel) (by decide +kernel)), (bw 1147 (by decide +kernel) (by decide +kernel)), (bw 99 (by decide +kernel) (by decide +kernel)), (bw 1148 (by decide +kernel) (by decide +kernel)), ⟨by decide +kernel, by decide +kernel⟩, by decide +kernel⟩
theorem mlw_X12_byKind : ML yX12_byKind cX12_byKind 4 (some .int) 1 := ⟨(bw 1753 (by decide +kernel) (by decide +kernel)), (bw 1754 (by decide +kernel) (by decide +kernel)), (bw 111 (by decide +kernel) (by decide +kernel)), (bw 1755 (by decide +kernel) (by decide +kernel)), ⟨by decide +kernel, by decide +kernel⟩, by decide +kernel⟩
theorem dL_1364 : decode code 1364 = .ok (.aload_n 1, 1) := by decide +kernel
theorem dL_1365 : decode code 1365 = .ok (.aload_n 0, 1) := by decide +kernel
theorem dL_1366 : decode code 1366 = .ok (.iload_n 3, 1) := by decide +kernel
theorem dL_1367 : decode code 1367 = .ok (.iconst 1, 1) := by decide +kernel
theorem dL_1368 : decode code 1368 = .ok (.iadd, 1) := by decide +kernel
theorem dL_1369 : decode code 1369 = .ok (.iaload, 1) := by decide +kernel
theorem dL_1370 : decode code 1370 = .ok (.invokevirtual 199, 3) := by decide +kernel
theorem dL_1373 : decode code 1373 = .ok (.aload_n 2, 1) := by decide +kernel
theorem dL_1374 : decode code 1374 = .ok (.aload_n 0, 1) := by decide +kernel
theorem dL_1375 : decode code 1375 = .ok (.iload_n 3, 1) := by decide +kernel
theorem dL_1376 : decode code 1376 = .ok (.iconst 1, 1) := by decide +kernel
theorem dL_1377 : decode code 1377 = .ok (.iadd, 1) := by decide +kernel
theorem dL_1378 : decode code 1378 = .ok (.iaload, 1) := by decide +kernel
theorem dL_1379 : decode code 1379 = .ok (.invokevirtual 202, 3) := by decide +kernel
theorem dL_1382 : decode code 1382 = .ok (.if_icmp .eq 218, 3) := by decide +kernel
theorem dL_1385 : decode code 1385 = .ok (.iconst 0, 1) := by decide +kernel
theorem dL_1386 : decode code 1386 = .ok (.ireturn, 1) := by decide +kernel
theorem case_45 (C : CL p s m meth c b L xs D cA aC aR) {i : Nat} {MC MR : Mem} (hi : i + 4 ≤ L) (hL : L ≤ 2048) (hI : Inv MC MR) (kk : ∀ MC' MR' : Mem, Inv MC' MR' → KL p l e s m below meth c b D cA aC aR 1600 (lvL b aC aR i) [] MC' MR') : KL p l e s m below meth c b D cA aC aR 1364 (lvL b aC aR i) [] MC MR := by
  obtain ⟨v, MC', MR', e1, e2, hI2⟩ := sim_byKind hI (xs (i + 1))
  refine w_ald C 1 (by decide) rfl rfl dL_1364 ?_
  refine w_arg (k := 1) C (by omega) (by omega) dL_1365 dL_1366 dL_1367 (by decide) dL_1368 dL_1369 ?_
  refine w_callCi C (As := [.int (xs (i + 1))]) (c_X11_byKind C.2.2.2.2.1 (xs (i + 1)) _ _ e1) mlw_X11_byKind (bw 1145 (by decide +kernel) (by decide +kernel)) rfl rfl (st := []) rfl ⟨Nat.le_of_ble_eq_true rfl, Nat.le_of_ble_eq_true rfl⟩ (Nat.le_of_ble_eq_true rfl) dL_1370 ?_
  refine w_ald C 2 (by decide) rfl rfl dL_1373 ?_
  refine w_arg (k := 1) C (by omega) (by omega) dL_1374 dL_1375 dL_1376 (by decide) dL_1377 dL_1378 ?_
  refine w_callRi C (As := [.int (xs (i + 1))]) (c_X12_byKind C.2.2.2.2.2.1 (xs (i + 1)) _ _ e2) mlw_X12_byKind (bw 1752 (by decide +kernel) (by decide +kernel)) rfl rfl (st := [.int v]) rfl ⟨Nat.le_of_ble_eq_true rfl, Nat.le_of_ble_eq_true rfl⟩ (Nat.le_of_ble_eq_true rfl) dL_1379 ?_
  exact w_eq C (tgt := 1600) dL_1382 (by decide) (kk MC' MR' hI2)
theorem mlw_X11_banned : ML yX11_banned cX11_banned 2 (some .int) 1 := ⟨(bw 1162 (by decide +kernel) (by decide +kernel)), (bw 1163 (by decide +kernel) (by decide +kernel)), (bw 99 (by decide +kernel) (by decide +kernel)), (bw 1164 (by decide +kernel) (by decide +kernel)), ⟨by decide +kernel, by decide +kernel⟩, by decide +kernel⟩
theorem mlw_X12_banned : ML yX12_banned cX12_banned 6 (some .int) 1 := ⟨(bw 1761 (by decide +kernel) (by decide +kernel)), (bw 1762 (by decide +kernel) (by decide +kernel)), (bw 111 (by decide +kernel) (by decide +kernel)), (bw 1763 (by decide +kernel) (by decide +kernel)), ⟨by decide +kernel, by decide +kernel⟩, by decide +kernel⟩
theorem dL_1387 : decode code 1387 = .ok (.aload_n 1, 1) := by decide +kernel
theorem dL_1388 : decode code 1388 = .ok (.aload_n 0, 1) := by decide +kernel
theorem dL_1389 : decode code 1389 = .ok (.iload_n 3, 1) := by decide +kernel
theorem dL_1390 : decode code 1390 = .ok (.iconst 1, 1) := by decide +kernel
theorem dL_1391 : decode code 1391 = .ok (.iadd, 1) := by decide +kernel
theorem dL_1392 : decode code 1392 = .ok (.iaload, 1) := by decide +kernel
theorem dL_1393 : decode code 1393 = .ok (.invokevirtual 203, 3) := by decide +kernel
theorem dL_1396 : decode code 1396 = .ok (.aload_n 2, 1) := by decide +kernel
theorem dL_1397 : decode code 1397 = .ok (.aload_n 0, 1) := by decide +kernel
theorem dL_1398 : decode code 1398 = .ok (.iload_n 3, 1) := by decide +kernel
theorem dL_1399 : decode code 1399 = .ok (.iconst 1, 1) := by decide +kernel
theorem dL_1400 : decode code 1400 = .ok (.iadd, 1) := by decide +kernel
theorem dL_1401 : decode code 1401 = .ok (.iaload, 1) := by decide +kernel
theorem dL_1402 : decode code 1402 = .ok (.invokevirtual 206, 3) := by decide +kernel
theorem dL_1405 : decode code 1405 = .ok (.if_icmp .eq 195, 3) := by decide +kernel
theorem dL_1408 : decode code 1408 = .ok (.iconst 0, 1) := by decide +kernel
theorem dL_1409 : decode code 1409 = .ok (.ireturn, 1) := by decide +kernel
theorem case_46 (C : CL p s m meth c b L xs D cA aC aR) {i : Nat} {MC MR : Mem} (hi : i + 4 ≤ L) (hL : L ≤ 2048) (hI : Inv MC MR) (kk : ∀ MC' MR' : Mem, Inv MC' MR' → KL p l e s m below meth c b D cA aC aR 1600 (lvL b aC aR i) [] MC' MR') : KL p l e s m below meth c b D cA aC aR 1387 (lvL b aC aR i) [] MC MR := by
  obtain ⟨v, MC', MR', e1, e2, hI2⟩ := sim_banned hI (xs (i + 1))
  refine w_ald C 1 (by decide) rfl rfl dL_1387 ?_
  refine w_arg (k := 1) C (by omega) (by omega) dL_1388 dL_1389 dL_1390 (by decide) dL_1391 dL_1392 ?_
  refine w_callCi C (As := [.int (xs (i + 1))]) (c_X11_banned C.2.2.2.2.1 (xs (i + 1)) _ _ e1) mlw_X11_banned (bw 1161 (by decide +kernel) (by decide +kernel)) rfl rfl (st := []) rfl ⟨Nat.le_of_ble_eq_true rfl, Nat.le_of_ble_eq_true rfl⟩ (Nat.le_of_ble_eq_true rfl) dL_1393 ?_
  refine w_ald C 2 (by decide) rfl rfl dL_1396 ?_
  refine w_arg (k := 1) C (by omega) (by omega) dL_1397 dL_1398 dL_1399 (by decide) dL_1400 dL_1401 ?_
  refine w_callRi C (As := [.int (xs (i + 1))]) (c_X12_banned C.2.2.2.2.2.1 (xs (i + 1)) _ _ e2) mlw_X12_banned (bw 1760 (by decide +kernel) (by decide +kernel)) rfl rfl (st := [.int v]) rfl ⟨Nat.le_of_ble_eq_true rfl, Nat.le_of_ble_eq_true rfl⟩ (Nat.le_of_ble_eq_true rfl) dL_1402 ?_
  exact w_eq C (tgt := 1600) dL_1405 (by decide) (kk MC' MR' hI2)
theorem mlw_X11_moved : ML yX11_moved cX11_moved 2 (some .int) 1 := ⟨(bw 1178 (by decide +kernel) (by decide +kernel)), (bw 1179 (by decide +kernel) (by decide +kernel)), (bw 99 (by decide +kernel) (by decide +kernel)), (bw 1180 (by decide +kernel) (by decide +kernel)), ⟨by decide +kernel, by decide +kernel⟩, by decide +kernel⟩
theorem mlw_X12_moved : ML yX12_moved cX12_moved 6 (some .int) 1 := ⟨(bw 1773 (by decide +kernel) (by decide +kernel)), (bw 1774 (by decide +kernel) (by decide +kernel)), (bw 111 (by decide +kernel) (by decide +kernel)), (bw 1775 (by decide +kernel) (by decide +kernel)), ⟨by decide +kernel, by decide +kernel⟩, by decide +kernel⟩
theorem dL_1410 : decode code 1410 = .ok (.aload_n 1, 1) := by decide +kernel
theorem dL_1411 : decode code 1411 = .ok (.aload_n 0, 1) := by decide +kernel
theorem dL_1412 : decode code 1412 = .ok (.iload_n 3, 1) := by decide +kernel
theorem dL_1413 : decode code 1413 = .ok (.iconst 1, 1) := by decide +kernel
theorem dL_1414 : decode code 1414 = .ok (.iadd, 1) := by decide +kernel
theorem dL_1415 : decode code 1415 = .ok (.iaload, 1) := by decide +kernel
theorem dL_1416 : decode code 1416 = .ok (.invokevirtual 207, 3) := by decide +kernel
theorem dL_1419 : decode code 1419 = .ok (.aload_n 2, 1) := by decide +kernel
theorem dL_1420 : decode code 1420 = .ok (.aload_n 0, 1) := by decide +kernel
theorem dL_1421 : decode code 1421 = .ok (.iload_n 3, 1) := by decide +kernel
theorem dL_1422 : decode code 1422 = .ok (.iconst 1, 1) := by decide +kernel
theorem dL_1423 : decode code 1423 = .ok (.iadd, 1) := by decide +kernel
theorem dL_1424 : decode code 1424 = .ok (.iaload, 1) := by decide +kernel
theorem dL_1425 : decode code 1425 = .ok (.invokevirtual 210, 3) := by decide +kernel
theorem dL_1428 : decode code 1428 = .ok (.if_icmp .eq 172, 3) := by decide +kernel
theorem dL_1431 : decode code 1431 = .ok (.iconst 0, 1) := by decide +kernel
theorem dL_1432 : decode code 1432 = .ok (.ireturn, 1) := by decide +kernel
theorem case_47 (C : CL p s m meth c b L xs D cA aC aR) {i : Nat} {MC MR : Mem} (hi : i + 4 ≤ L) (hL : L ≤ 2048) (hI : Inv MC MR) (kk : ∀ MC' MR' : Mem, Inv MC' MR' → KL p l e s m below meth c b D cA aC aR 1600 (lvL b aC aR i) [] MC' MR') : KL p l e s m below meth c b D cA aC aR 1410 (lvL b aC aR i) [] MC MR := by
  obtain ⟨v, MC', MR', e1, e2, hI2⟩ := sim_moved hI (xs (i + 1))
  refine w_ald C 1 (by decide) rfl rfl dL_1410 ?_
  refine w_arg (k := 1) C (by omega) (by omega) dL_1411 dL_1412 dL_1413 (by decide) dL_1414 dL_1415 ?_
  refine w_callCi C (As := [.int (xs (i + 1))]) (c_X11_moved C.2.2.2.2.1 (xs (i + 1)) _ _ e1) mlw_X11_moved (bw 1177 (by decide +kernel) (by decide +kernel)) rfl rfl (st := []) rfl ⟨Nat.le_of_ble_eq_true rfl, Nat.le_of_ble_eq_true rfl⟩ (Nat.le_of_ble_eq_true rfl) dL_1416 ?_
  refine w_ald C 2 (by decide) rfl rfl dL_1419 ?_
  refine w_arg (k := 1) C (by omega) (by omega) dL_1420 dL_1421 dL_1422 (by decide) dL_1423 dL_1424 ?_
  refine w_callRi C (As := [.int (xs (i + 1))]) (c_X12_moved C.2.2.2.2.2.1 (xs (i + 1)) _ _ e2) mlw_X12_moved (bw 1772 (by decide +kernel) (by decide +kernel)) rfl rfl (st := [.int v]) rfl ⟨Nat.le_of_ble_eq_true rfl, Nat.le_of_ble_eq_true rfl⟩ (Nat.le_of_ble_eq_true rfl) dL_1425 ?_
  exact w_eq C (tgt := 1600) dL_1428 (by decide) (kk MC' MR' hI2)
theorem mlw_X11_unlikeMarks : ML yX11_unlikeMarks cX11_unlikeMarks 1 (some .int) 0 := ⟨(bw 1194 (by decide +kernel) (by decide +kernel)), (bw 1195 (by decide +kernel) (by decide +kernel)), (bw 99 (by decide +kernel) (by decide +kernel)), (bw 1196 (by decide +kernel) (by decide +kernel)), ⟨by decide +kernel, by decide +kernel⟩, by decide +kernel⟩
theorem mlw_X12_unlikeMarks : ML yX12_unlikeMarks cX12_unlikeMarks 5 (some .int) 0 := ⟨(bw 1781 (by decide +kernel) (by decide +kernel)), (bw 1782 (by decide +kernel) (by decide +kernel)), (bw 111 (by decide +kernel) (by decide +kernel)), (bw 1783 (by decide +kernel) (by decide +kernel)), ⟨by decide +kernel, by decide +kernel⟩, by decide +kernel⟩
theorem dL_1433 : decode code 1433 = .ok (.aload_n 1, 1) := by decide +kernel
theorem dL_1434 : decode code 1434 = .ok (.invokevirtual 211, 3) := by decide +kernel
theorem dL_1437 : decode code 1437 = .ok (.aload_n 2, 1) := by decide +kernel
theorem dL_1438 : decode code 1438 = .ok (.invokevirtual 214, 3) := by decide +kernel
theorem dL_1441 : decode code 1441 = .ok (.if_icmp .eq 159, 3) := by decide +kernel
theorem dL_1444 : decode code 1444 = .ok (.iconst 0, 1) := by decide +kernel
theorem dL_1445 : decode code 1445 = .ok (.ireturn, 1) := by decide +kernel
theorem case_48 (C : CL p s m meth c b L xs D cA aC aR) {i : Nat} {MC MR : Mem} (hi : i + 4 ≤ L) (hL : L ≤ 2048) (hI : Inv MC MR) (kk : ∀ MC' MR' : Mem, Inv MC' MR' → KL p l e s m below meth c b D cA aC aR 1600 (lvL b aC aR i) [] MC' MR') : KL p l e s m below meth c b D cA aC aR 1433 (lvL b aC aR i) [] MC MR := by
  obtain ⟨v, MC', MR', e1, e2, hI2⟩ := sim_unlikeMarks hI
  obtain ⟨v1, e1, hz1⟩ := Option.map_eq_some_iff.mp e1
  have hv1 : v = v1 := (congrArg Prod.fst hz1).symm
  subst hv1
  have hm1 : MC' = MC := (congrArg Prod.snd hz1).symm
  subst hm1
  obtain ⟨v2, e2, hz2⟩ := Option.map_eq_some_iff.mp e2
  have hv2 : v = v2 := (congrArg Prod.fst hz2).symm
  subst hv2
  have hm2 : MR' = MR := (congrArg Prod.snd hz2).symm
  subst hm2
  refine w_ald C 1 (by decide) rfl rfl dL_1433 ?_
  refine w_callCi C (As := []) (c_X11_unlikeMarks C.2.2.2.2.1 _ _ e1) mlw_X11_unlikeMarks (bw 1193 (by decide +kernel) (by decide +kernel)) rfl rfl (st := []) rfl ⟨Nat.le_of_ble_eq_true rfl, Nat.le_of_ble_eq_true rfl⟩ (Nat.le_of_ble_eq_true rfl) dL_1434 ?_
  refine w_ald C 2 (by decide) rfl rfl dL_1437 ?_
  refine w_callRi C (As := []) (c_X12_unlikeMarks C.2.2.2.2.2.1 _ _ e2) mlw_X12_unlikeMarks (bw 1780 (by decide +kernel) (by decide +kernel)) rfl rfl (st := [.int v]) rfl ⟨Nat.le_of_ble_eq_true rfl, Nat.le_of_ble_eq_true rfl⟩ (Nat.le_of_ble_eq_true rfl) dL_1438 ?_
  exact w_eq C (tgt := 1600) dL_1441 (by decide) (kk MC' MR' hI2)
theorem mlw_X11_streak : ML yX11_streak cX11_streak 1 (some .int) 0 := ⟨(bw 1206 (by decide +kernel) (by decide +kernel)), (bw 1207 (by decide +kernel) (by decide +kernel)), (bw 99 (by decide +kernel) (by decide +kernel)), (bw 1208 (by decide +kernel) (by decide +kernel)), ⟨by decide +kernel, by decide +kernel⟩, by decide +kernel⟩
theorem mlw_X12_streak : ML yX12_streak cX12_streak 4 (some .int) 0 := ⟨(bw 1785 (by decide +kernel) (by decide +kernel)), (bw 1786 (by decide +kernel) (by decide +kernel)), (bw 111 (by decide +kernel) (by decide +kernel)), (bw 1787 (by decide +kernel) (by decide +kernel)), ⟨by decide +kernel, by decide +kernel⟩, by decide +kernel⟩
theorem dL_1446 : decode code 1446 = .ok (.aload_n 1, 1) := by decide +kernel
theorem dL_1447 : decode code 1447 = .ok (.invokevirtual 215, 3) := by decide +kernel
theorem dL_1450 : decode code 1450 = .ok (.aload_n 2, 1) := by decide +kernel
theorem dL_1451 : decode code 1451 = .ok (.invokevirtual 218, 3) := by decide +kernel
theorem dL_1454 : decode code 1454 = .ok (.if_icmp .eq 146, 3) := by decide +kernel
theorem dL_1457 : decode code 1457 = .ok (.iconst 0, 1) := by decide +kernel
theorem dL_1458 : decode code 1458 = .ok (.ireturn, 1) := by decide +kernel
theorem case_49 (C : CL p s m meth c b L xs D cA aC aR) {i : Nat} {MC MR : Mem} (hi : i + 4 ≤ L) (hL : L ≤ 2048) (hI : Inv MC MR) (kk : ∀ MC' MR' : Mem, Inv MC' MR' → KL p l e s m below meth c b D cA aC aR 1600 (lvL b aC aR i) [] MC' MR') : KL p l e s m below meth c b D cA aC aR 1446 (lvL b aC aR i) [] MC MR := by
  obtain ⟨v, MC', MR', e1, e2, hI2⟩ := sim_streak hI
  obtain ⟨v2, e2, hz2⟩ := Option.map_eq_some_iff.mp e2
  have hv2 : v = v2 := (congrArg Prod.fst hz2).symm
  subst hv2
  have hm2 : MR' = MR := (congrArg Prod.snd hz2).symm
  subst hm2
  refine w_ald C 1 (by decide) rfl rfl dL_1446 ?_
  refine w_callCi C (As := []) (c_X11_streak C.2.2.2.2.1 _ _ e1) mlw_X11_streak (bw 1205 (by decide +kernel) (by decide +kernel)) rfl rfl (st := []) rfl ⟨Nat.le_of_ble_eq_true rfl, Nat.le_of_ble_eq_true rfl⟩ (Nat.le_of_ble_eq_true rfl) dL_1447 ?_
  refine w_ald C 2 (by decide) rfl rfl dL_1450 ?_
  refine w_callRi C (As := []) (c_X12_streak C.2.2.2.2.2.1 _ _ e2) mlw_X12_streak (bw 1784 (by decide +kernel) (by decide +kernel)) rfl rfl (st := [.int v]) rfl ⟨Nat.le_of_ble_eq_true rfl, Nat.le_of_ble_eq_true rfl⟩ (Nat.le_of_ble_eq_true rfl) dL_1451 ?_
  exact w_eq C (tgt := 1600) dL_1454 (by decide) (kk MC' MR' hI2)
theorem mlw_X11_row : ML yX11_row cX11_row 2 (some .int) 1 := ⟨(bw 1214 (by decide +kernel) (by decide +kernel)), (bw 1215 (by decide +kernel) (by decide +kernel)), (bw 99 (by decide +kernel) (by decide +kernel)), (bw 1216 (by decide +kernel) (by decide +kernel)), ⟨by decide +kernel, by decide +kernel⟩, by decide +kernel⟩
theorem mlw_X12_row : ML yX12_row cX12_row 3 (some .int) 1 := ⟨(bw 1789 (by decide +kernel) (by decide +kernel)), (bw 1790 (by decide +kernel) (by decide +kernel)), (bw 111 (by decide +kernel) (by decide +kernel)), (bw 1791 (by decide +kernel) (by decide +kernel)), ⟨by decide +kernel, by decide +kernel⟩, by decide +kernel⟩
theorem dL_1459 : decode code 1459 = .ok (.aload_n 1, 1) := by decide +kernel
theorem dL_1460 : decode code 1460 = .ok (.aload_n 0, 1) := by decide +kernel
theorem dL_1461 : decode code 1461 = .ok (.iload_n 3, 1) := by decide +kernel
theorem dL_1462 : decode code 1462 = .ok (.iconst 1, 1) := by decide +kernel
theorem dL_1463 : decode code 1463 = .ok (.iadd, 1) := by decide +kernel
theorem dL_1464 : decode code 1464 = .ok (.iaload, 1) := by decide +kernel
theorem dL_1465 : decode code 1465 = .ok (.invokevirtual 219, 3) := by decide +kernel
theorem dL_1468 : decode code 1468 = .ok (.aload_n 2, 1) := by decide +kernel
theorem dL_1469 : decode code 1469 = .ok (.aload_n 0, 1) := by decide +kernel
theorem dL_1470 : decode code 1470 = .ok (.iload_n 3, 1) := by decide +kernel
theorem dL_1471 : decode code 1471 = .ok (.iconst 1, 1) := by decide +kernel
theorem dL_1472 : decode code 1472 = .ok (.iadd, 1) := by decide +kernel
theorem dL_1473 : decode code 1473 = .ok (.iaload, 1) := by decide +kernel
theorem dL_1474 : decode code 1474 = .ok (.invokevirtual 222, 3) := by decide +kernel
theorem dL_1477 : decode code 1477 = .ok (.if_icmp .eq 123, 3) := by decide +kernel
theorem dL_1480 : decode code 1480 = .ok (.iconst 0, 1) := by decide +kernel
theorem dL_1481 : decode code 1481 = .ok (.ireturn, 1) := by decide +kernel
theorem case_50 (C : CL p s m meth c b L xs D cA aC aR) {i : Nat} {MC MR : Mem} (hi : i + 4 ≤ L) (hL : L ≤ 2048) (hI : Inv MC MR) (kk : ∀ MC' MR' : Mem, Inv MC' MR' → KL p l e s m below meth c b D cA aC aR 1600 (lvL b aC aR i) [] MC' MR') : KL p l e s m below meth c b D cA aC aR 1459 (lvL b aC aR i) [] MC MR := by
  obtain ⟨v, MC', MR', e1, e2, hI2⟩ := sim_row hI (xs (i + 1))
  refine w_ald C 1 (by decide) rfl rfl dL_1459 ?_
  refine w_arg (k := 1) C (by omega) (by omega) dL_1460 dL_1461 dL_1462 (by decide) dL_1463 dL_1464 ?_
  refine w_callCi C (As := [.int (xs (i + 1))]) (c_X11_row C.2.2.2.2.1 (xs (i + 1)) _ _ e1) mlw_X11_row (bw 1213 (by decide +kernel) (by decide +kernel)) rfl rfl (st := []) rfl ⟨Nat.le_of_ble_eq_true rfl, Nat.le_of_ble_eq_true rfl⟩ (Nat.le_of_ble_eq_true rfl) dL_1465 ?_
  refine w_ald C 2 (by decide) rfl rfl dL_1468 ?_
  refine w_arg (k := 1) C (by omega) (by omega) dL_1469 dL_1470 dL_1471 (by decide) dL_1472 dL_1473 ?_
  refine w_callRi C (As := [.int (xs (i + 1))]) (c_X12_row C.2.2.2.2.2.1 (xs (i + 1)) _ _ e2) mlw_X12_row (bw 1788 (by decide +kernel) (by decide +kernel)) rfl rfl (st := [.int v]) rfl ⟨Nat.le_of_ble_eq_true rfl, Nat.le_of_ble_eq_true rfl⟩ (Nat.le_of_ble_eq_true rfl) dL_1474 ?_
  exact w_eq C (tgt := 1600) dL_1477 (by decide) (kk MC' MR' hI2)
theorem mlw_X11_judge : ML yX11_judge cX11_judge 2 (some .int) 0 := ⟨(bw 1222 (by decide +kernel) (by decide +kernel)), (bw 1223 (by decide +kernel) (by decide +kernel)), (bw 99 (by decide +kernel) (by decide +kernel)), (bw 1224 (by decide +kernel) (by decide +kernel)), ⟨by decide +kernel, by decide +kernel⟩, by decide +kernel⟩
theorem mlw_X12_judge : ML yX12_judge cX12_judge 3 (some .int) 0 := ⟨(bw 1793 (by decide +kernel) (by decide +kernel)), (bw 1794 (by decide +kernel) (by decide +kernel)), (bw 111 (by decide +kernel) (by decide +kernel)), (bw 1795 (by decide +kernel) (by decide +kernel)), ⟨by decide +kernel, by decide +kernel⟩, by decide +kernel⟩
theorem dL_1482 : decode code 1482 = .ok (.aload_n 1, 1) := by decide +kernel
theorem dL_1483 : decode code 1483 = .ok (.invokevirtual 223, 3) := by decide +kernel
theorem dL_1486 : decode code 1486 = .ok (.aload_n 2, 1) := by decide +kernel
theorem dL_1487 : decode code 1487 = .ok (.invokevirtual 226, 3) := by decide +kernel
theorem dL_1490 : decode code 1490 = .ok (.if_icmp .eq 110, 3) := by decide +kernel
theorem dL_1493 : decode code 1493 = .ok (.iconst 0, 1) := by decide +kernel
theorem dL_1494 : decode code 1494 = .ok (.ireturn, 1) := by decide +kernel
theorem case_51 (C : CL p s m meth c b L xs D cA aC aR) {i : Nat} {MC MR : Mem} (hi : i + 4 ≤ L) (hL : L ≤ 2048) (hI : Inv MC MR) (kk : ∀ MC' MR' : Mem, Inv MC' MR' → KL p l e s m below meth c b D cA aC aR 1600 (lvL b aC aR i) [] MC' MR') : KL p l e s m below meth c b D cA aC aR 1482 (lvL b aC aR i) [] MC MR := by
  obtain ⟨v, MC', MR', e1, e2, hI2⟩ := sim_judge hI
  refine w_ald C 1 (by decide) rfl rfl dL_1482 ?_
  refine w_callCi C (As := []) (c_X11_judge C.2.2.2.2.1 _ _ e1) mlw_X11_judge (bw 1221 (by decide +kernel) (by decide +kernel)) rfl rfl (st := []) rfl ⟨Nat.le_of_ble_eq_true rfl, Nat.le_of_ble_eq_true rfl⟩ (Nat.le_of_ble_eq_true rfl) dL_1483 ?_
  refine w_ald C 2 (by decide) rfl rfl dL_1486 ?_
  refine w_callRi C (As := []) (c_X12_judge C.2.2.2.2.2.1 _ _ e2) mlw_X12_judge (bw 1792 (by decide +kernel) (by decide +kernel)) rfl rfl (st := [.int v]) rfl ⟨Nat.le_of_ble_eq_true rfl, Nat.le_of_ble_eq_true rfl⟩ (Nat.le_of_ble_eq_true rfl) dL_1487 ?_
  exact w_eq C (tgt := 1600) dL_1490 (by decide) (kk MC' MR' hI2)
theorem mlw_X11_clear : ML yX11_clear cX11_clear 2 (some .int) 0 := ⟨(bw 1231 (by decide +kernel) (by decide +kernel)), (bw 1232 (by decide +kernel) (by decide +kernel)), (bw 99 (by decide +kernel) (by decide +kernel)), (bw 1233 (by decide +kernel) (by decide +kernel)), ⟨by decide +kernel, by decide +kernel⟩, by decide +kernel⟩
theorem mlw_X12_clear : ML yX12_clear cX12_clear 2 (some .int) 0 := ⟨(bw 1797 (by decide +kernel) (by decide +kernel)), (bw 1798 (by decide +kernel) (by decide +kernel)), (bw 111 (by decide +kernel) (by decide +kernel)), (bw 1799 (by decide +kernel) (by decide +kernel)), ⟨by decide +kernel, by decide +kernel⟩, by decide +kernel⟩
theorem dL_1495 : decode code 1495 = .ok (.aload_n 1, 1) := by decide +kernel
theorem dL_1496 : decode code 1496 = .ok (.invokevirtual 227, 3) := by decide +kernel
theorem dL_1499 : decode code 1499 = .ok (.aload_n 2, 1) := by decide +kernel
theorem dL_1500 : decode code 1500 = .ok (.invokevirtual 230, 3) := by decide +kernel
theorem dL_1503 : decode code 1503 = .ok (.if_icmp .eq 97, 3) := by decide +kernel
theorem dL_1506 : decode code 1506 = .ok (.iconst 0, 1) := by decide +kernel
theorem dL_1507 : decode code 1507 = .ok (.ireturn, 1) := by decide +kernel
theorem case_52 (C : CL p s m meth c b L xs D cA aC aR) {i : Nat} {MC MR : Mem} (hi : i + 4 ≤ L) (hL : L ≤ 2048) (hI : Inv MC MR) (kk : ∀ MC' MR' : Mem, Inv MC' MR' → KL p l e s m below meth c b D cA aC aR 1600 (lvL b aC aR i) [] MC' MR') : KL p l e s m below meth c b D cA aC aR 1495 (lvL b aC aR i) [] MC MR := by
  obtain ⟨v, MC', MR', e1, e2, hI2⟩ := sim_clear hI
  refine w_ald C 1 (by decide) rfl rfl dL_1495 ?_
  refine w_callCi C (As := []) (c_X11_clear C.2.2.2.2.1 _ _ e1) mlw_X11_clear (bw 1230 (by decide +kernel) (by decide +kernel)) rfl rfl (st := []) rfl ⟨Nat.le_of_ble_eq_true rfl, Nat.le_of_ble_eq_true rfl⟩ (Nat.le_of_ble_eq_true rfl) dL_1496 ?_
  refine w_ald C 2 (by decide) rfl rfl dL_1499 ?_
  refine w_callRi C (As := []) (c_X12_clear C.2.2.2.2.2.1 _ _ e2) mlw_X12_clear (bw 1796 (by decide +kernel) (by decide +kernel)) rfl rfl (st := [.int v]) rfl ⟨Nat.le_of_ble_eq_true rfl, Nat.le_of_ble_eq_true rfl⟩ (Nat.le_of_ble_eq_true rfl) dL_1500 ?_
  exact w_eq C (tgt := 1600) dL_1503 (by decide) (kk MC' MR' hI2)
theorem mlw_X11_lots : ML yX11_lots cX11_lots 4 (some .int) 3 := ⟨(bw 1235 (by decide +kernel) (by decide +kernel)), (bw 1236 (by decide +kernel) (by decide +kernel)), (bw 99 (by decide +kernel) (by decide +kernel)), (bw 1237 (by decide +kernel) (by decide +kernel)), ⟨by decide +kernel, by decide +kernel⟩, by decide +kernel⟩
theorem mlw_X12_lots : ML yX12_lots cX12_lots 10 (some .int) 3 := ⟨(bw 1801 (by decide +kernel) (by decide +kernel)), (bw 1802 (by decide +kernel) (by decide +kernel)), (bw 111 (by decide +kernel) (by decide +kernel)), (bw 1803 (by decide +kernel) (by decide +kernel)), ⟨by decide +kernel, by decide +kernel⟩, by decide +kernel⟩
theorem dL_1508 : decode code 1508 = .ok (.aload_n 1, 1) := by decide +kernel
theorem dL_1509 : decode code 1509 = .ok (.aload_n 0, 1) := by decide +kernel
theorem dL_1510 : decode code 1510 = .ok (.iload_n 3, 1) := by decide +kernel
theorem dL_1511 : decode code 1511 = .ok (.iconst 1, 1) := by decide +kernel
theorem dL_1512 : decode code 1512 = .ok (.iadd, 1) := by decide +kernel
theorem dL_1513 : decode code 1513 = .ok (.iaload, 1) := by decide +kernel
theorem dL_1514 : decode code 1514 = .ok (.aload_n 0, 1) := by decide +kernel
theorem dL_1515 : decode code 1515 = .ok (.iload_n 3, 1) := by decide +kernel
theorem dL_1516 : decode code 1516 = .ok (.iconst 2, 1) := by decide +kernel
theorem dL_1517 : decode code 1517 = .ok (.iadd, 1) := by decide +kernel
theorem dL_1518 : decode code 1518 = .ok (.iaload, 1) := by decide +kernel
theorem dL_1519 : decode code 1519 = .ok (.aload_n 0, 1) := by decide +kernel
theorem dL_1520 : decode code 1520 = .ok (.iload_n 3, 1) := by decide +kernel
theorem dL_1521 : decode code 1521 = .ok (.iconst 3, 1) := by decide +kernel
theorem dL_1522 : decode code 1522 = .ok (.iadd, 1) := by decide +kernel
theorem dL_1523 : decode code 1523 = .ok (.iaload, 1) := by decide +kernel
theorem dL_1524 : decode code 1524 = .ok (.invokevirtual 231, 3) := by decide +kernel
theorem dL_1527 : decode code 1527 = .ok (.aload_n 2, 1) := by decide +kernel
theorem dL_1528 : decode code 1528 = .ok (.aload_n 0, 1) := by decide +kernel
theorem dL_1529 : decode code 1529 = .ok (.iload_n 3, 1) := by decide +kernel
theorem dL_1530 : decode code 1530 = .ok (.iconst 1, 1) := by decide +kernel
theorem dL_1531 : decode code 1531 = .ok (.iadd, 1) := by decide +kernel
theorem dL_1532 : decode code 1532 = .ok (.iaload, 1) := by decide +kernel
theorem dL_1533 : decode code 1533 = .ok (.aload_n 0, 1) := by decide +kernel
theorem dL_1534 : decode code 1534 = .ok (.iload_n 3, 1) := by decide +kernel
theorem dL_1535 : decode code 1535 = .ok (.iconst 2, 1) := by decide +kernel
theorem dL_1536 : decode code 1536 = .ok (.iadd, 1) := by decide +kernel
theorem dL_1537 : decode code 1537 = .ok (.iaload, 1) := by decide +kernel
theorem dL_1538 : decode code 1538 = .ok (.aload_n 0, 1) := by decide +kernel
theorem dL_1539 : decode code 1539 = .ok (.iload_n 3, 1) := by decide +kernel
theorem dL_1540 : decode code 1540 = .ok (.iconst 3, 1) := by decide +kernel
theorem dL_1541 : decode code 1541 = .ok (.iadd, 1) := by decide +kernel
theorem dL_1542 : decode code 1542 = .ok (.iaload, 1) := by decide +kernel
theorem dL_1543 : decode code 1543 = .ok (.invokevirtual 234, 3) := by decide +kernel
theorem dL_1546 : decode code 1546 = .ok (.if_icmp .eq 54, 3) := by decide +kernel
theorem dL_1549 : decode code 1549 = .ok (.iconst 0, 1) := by decide +kernel
theorem dL_1550 : decode code 1550 = .ok (.ireturn, 1) := by decide +kernel
theorem case_53 (C : CL p s m meth c b L xs D cA aC aR) {i : Nat} {MC MR : Mem} (hi : i + 4 ≤ L) (hL : L ≤ 2048) (hI : Inv MC MR) (kk : ∀ MC' MR' : Mem, Inv MC' MR' → KL p l e s m below meth c b D cA aC aR 1600 (lvL b aC aR i) [] MC' MR') : KL p l e s m below meth c b D cA aC aR 1508 (lvL b aC aR i) [] MC MR := by
  obtain ⟨v, MC', MR', e1, e2, hI2⟩ := sim_lots hI (xs (i + 1)) (xs (i + 2)) (xs (i + 3))
  refine w_ald C 1 (by decide) rfl rfl dL_1508 ?_
  refine w_arg (k := 1) C (by omega) (by omega) dL_1509 dL_1510 dL_1511 (by decide) dL_1512 dL_1513 ?_
  refine w_arg (k := 2) C (by omega) (by omega) dL_1514 dL_1515 dL_1516 (by decide) dL_1517 dL_1518 ?_
  refine w_arg (k := 3) C (by omega) (by omega) dL_1519 dL_1520 dL_1521 (by decide) dL_1522 dL_1523 ?_
  refine w_callCi C (As := [.int (xs (i + 1)), .int (xs (i + 2)), .int (xs (i + 3))]) (c_X11_lots C.2.2.2.2.1 (xs (i + 1)) (xs (i + 2)) (xs (i + 3)) _ _ e1) mlw_X11_lots (bw 1234 (by decide +kernel) (by decide +kernel)) rfl rfl (st := []) rfl ⟨Nat.le_of_ble_eq_true rfl, Nat.le_of_ble_eq_true rfl⟩ (Nat.le_of_ble_eq_true rfl) dL_1524 ?_
  refine w_ald C 2 (by decide) rfl rfl dL_1527 ?_
  refine w_arg (k := 1) C (by omega) (by omega) dL_1528 dL_1529 dL_1530 (by decide) dL_1531 dL_1532 ?_
  refine w_arg (k := 2) C (by omega) (by omega) dL_1533 dL_1534 dL_1535 (by decide) dL_1536 dL_1537 ?_
  refine w_arg (k := 3) C (by omega) (by omega) dL_1538 dL_1539 dL_1540 (by decide) dL_1541 dL_1542 ?_
  refine w_callRi C (As := [.int (xs (i + 1)), .int (xs (i + 2)), .int (xs (i + 3))]) (c_X12_lots C.2.2.2.2.2.1 (xs (i + 1)) (xs (i + 2)) (xs (i + 3)) _ _ e2) mlw_X12_lots (bw 1800 (by decide +kernel) (by decide +kernel)) rfl rfl (st := [.int v]) rfl ⟨Nat.le_of_ble_eq_true rfl, Nat.le_of_ble_eq_true rfl⟩ (Nat.le_of_ble_eq_true rfl) dL_1543 ?_
  exact w_eq C (tgt := 1600) dL_1546 (by decide) (kk MC' MR' hI2)
theorem mlw_X11_image : ML yX11_image cX11_image 1 (some .int) 0 := ⟨(bw 1248 (by decide +kernel) (by decide +kernel)), (bw 1249 (by decide +kernel) (by decide +kernel)), (bw 99 (by decide +kernel) (by decide +kernel)), (bw 1250 (by decide +kernel) (by decide +kernel)), ⟨by decide +kernel, by decide +kernel⟩, by decide +kernel⟩
theorem mlw_X12_image : ML yX12_image cX12_image 1 (some .int) 0 := ⟨(bw 1428 (by decide +kernel) (by decide +kernel)), (bw 1429 (by decide +kernel) (by decide +kernel)), (bw 111 (by decide +kernel) (by decide +kernel)), (bw 1430 (by decide +kernel) (by decide +kernel)), ⟨by decide +kernel, by decide +kernel⟩, by decide +kernel⟩
theorem dL_1551 : decode code 1551 = .ok (.aload_n 1, 1) := by decide +kernel
theorem dL_1552 : decode code 1552 = .ok (.invokevirtual 235, 3) := by decide +kernel
theorem dL_1555 : decode code 1555 = .ok (.aload_n 2, 1) := by decide +kernel
theorem dL_1556 : decode code 1556 = .ok (.invokevirtual 238, 3) := by decide +kernel
theorem dL_1559 : decode code 1559 = .ok (.if_icmp .eq 41, 3) := by decide +kernel
theorem dL_1562 : decode code 1562 = .ok (.iconst 0, 1) := by decide +kernel
theorem dL_1563 : decode code 1563 = .ok (.ireturn, 1) := by decide +kernel
theorem case_54 (C : CL p s m meth c b L xs D cA aC aR) {i : Nat} {MC MR : Mem} (hi : i + 4 ≤ L) (hL : L ≤ 2048) (hI : Inv MC MR) (kk : ∀ MC' MR' : Mem, Inv MC' MR' → KL p l e s m below meth c b D cA aC aR 1600 (lvL b aC aR i) [] MC' MR') : KL p l e s m below meth c b D cA aC aR 1551 (lvL b aC aR i) [] MC MR := by
  obtain ⟨v, MC', MR', e1, e2, hI2⟩ := sim_image hI
  refine w_ald C 1 (by decide) rfl rfl dL_1551 ?_
  refine w_callCi C (As := []) (c_X11_image C.2.2.2.2.1 _ _ e1) mlw_X11_image (bw 1247 (by decide +kernel) (by decide +kernel)) rfl rfl (st := []) rfl ⟨Nat.le_of_ble_eq_true rfl, Nat.le_of_ble_eq_true rfl⟩ (Nat.le_of_ble_eq_true rfl) dL_1552 ?_
  refine w_ald C 2 (by decide) rfl rfl dL_1555 ?_
  refine w_callRi C (As := []) (c_X12_image C.2.2.2.2.2.1 _ _ e2) mlw_X12_image (bw 1427 (by decide +kernel) (by decide +kernel)) rfl rfl (st := [.int v]) rfl ⟨Nat.le_of_ble_eq_true rfl, Nat.le_of_ble_eq_true rfl⟩ (Nat.le_of_ble_eq_true rfl) dL_1556 ?_
  exact w_eq C (tgt := 1600) dL_1559 (by decide) (kk MC' MR' hI2)
theorem mlw_X11_restore : ML yX11_restore cX11_restore 1 (some .int) 0 := ⟨(bw 1253 (by decide +kernel) (by decide +kernel)), (bw 1254 (by decide +kernel) (by decide +kernel)), (bw 99 (by decide +kernel) (by decide +kernel)), (bw 1255 (by decide +kernel) (by decide +kernel)), ⟨by decide +kernel, by decide +kernel⟩, by decide +kernel⟩
theorem mlw_X12_restore : ML yX12_restore cX12_restore 1 (some .int) 0 := ⟨(bw 1432 (by decide +kernel) (by decide +kernel)), (bw 1433 (by decide +kernel) (by decide +kernel)), (bw 111 (by decide +kernel) (by decide +kernel)), (bw 1434 (by decide +kernel) (by decide +kernel)), ⟨by decide +kernel, by decide +kernel⟩, by decide +kernel⟩
theorem dL_1564 : decode code 1564 = .ok (.aload_n 1, 1) := by decide +kernel
theorem dL_1565 : decode code 1565 = .ok (.invokevirtual 239, 3) := by decide +kernel
theorem dL_1568 : decode code 1568 = .ok (.aload_n 2, 1) := by decide +kernel
theorem dL_1569 : decode code 1569 = .ok (.invokevirtual 242, 3) := by decide +kernel
theorem dL_1572 : decode code 1572 = .ok (.if_icmp .eq 28, 3) := by decide +kernel
theorem dL_1575 : decode code 1575 = .ok (.iconst 0, 1) := by decide +kernel
theorem dL_1576 : decode code 1576 = .ok (.ireturn, 1) := by decide +kernel
theorem case_55 (C : CL p s m meth c b L xs D cA aC aR) {i : Nat} {MC MR : Mem} (hi : i + 4 ≤ L) (hL : L ≤ 2048) (hI : Inv MC MR) (kk : ∀ MC' MR' : Mem, Inv MC' MR' → KL p l e s m below meth c b D cA aC aR 1600 (lvL b aC aR i) [] MC' MR') : KL p l e s m below meth c b D cA aC aR 1564 (lvL b aC aR i) [] MC MR := by
  obtain ⟨v, MC', MR', e1, e2, hI2⟩ := sim_restore hI
  refine w_ald C 1 (by decide) rfl rfl dL_1564 ?_
  refine w_callCi C (As := []) (c_X11_restore C.2.2.2.2.1 _ _ e1) mlw_X11_restore (bw 1252 (by decide +kernel) (by decide +kernel)) rfl rfl (st := []) rfl ⟨Nat.le_of_ble_eq_true rfl, Nat.le_of_ble_eq_true rfl⟩ (Nat.le_of_ble_eq_true rfl) dL_1565 ?_
  refine w_ald C 2 (by decide) rfl rfl dL_1568 ?_
  refine w_callRi C (As := []) (c_X12_restore C.2.2.2.2.2.1 _ _ e2) mlw_X12_restore (bw 1431 (by decide +kernel) (by decide +kernel)) rfl rfl (st := [.int v]) rfl ⟨Nat.le_of_ble_eq_true rfl, Nat.le_of_ble_eq_true rfl⟩ (Nat.le_of_ble_eq_true rfl) dL_1569 ?_
  exact w_eq C (tgt := 1600) dL_1572 (by decide) (kk MC' MR' hI2)
theorem mlw_X11_count : ML yX11_count cX11_count 2 (some .int) 1 := ⟨(bw 1257 (by decide +kernel) (by decide +kernel)), (bw 1258 (by decide +kernel) (by decide +kernel)), (bw 99 (by decide +kernel) (by decide +kernel)), (bw 1259 (by decide +kernel) (by decide +kernel)), ⟨by decide +kernel, by decide +kernel⟩, by decide +kernel⟩
theorem mlw_X12_count : ML yX12_count cX12_count 4 (some .int) 1 := ⟨(bw 1808 (by decide +kernel) (by decide +kernel)), (bw 1809 (by decide +kernel) (by decide +kernel)), (bw 111 (by decide +kernel) (by decide +kernel)), (bw 1810 (by decide +kernel) (by decide +kernel)), ⟨by decide +kernel, by decide +kernel⟩, by decide +kernel⟩
theorem dL_1577 : decode code 1577 = .ok (.aload_n 1, 1) := by decide +kernel
theorem dL_1578 : decode code 1578 = .ok (.aload_n 0, 1) := by decide +kernel
theorem dL_1579 : decode code 1579 = .ok (.iload_n 3, 1) := by decide +kernel
theorem dL_1580 : decode code 1580 = .ok (.iconst 1, 1) := by decide +kernel
theorem dL_1581 : decode code 1581 = .ok (.iadd, 1) := by decide +kernel
theorem dL_1582 : decode code 1582 = .ok (.iaload, 1) := by decide +kernel
theorem dL_1583 : decode code 1583 = .ok (.invokevirtual 243, 3) := by decide +kernel
theorem dL_1586 : decode code 1586 = .ok (.aload_n 2, 1) := by decide +kernel
theorem dL_1587 : decode code 1587 = .ok (.aload_n 0, 1) := by decide +kernel
theorem dL_1588 : decode code 1588 = .ok (.iload_n 3, 1) := by decide +kernel
theorem dL_1589 : decode code 1589 = .ok (.iconst 1, 1) := by decide +kernel
theorem dL_1590 : decode code 1590 = .ok (.iadd, 1) := by decide +kernel
theorem dL_1591 : decode code 1591 = .ok (.iaload, 1) := by decide +kernel
theorem dL_1592 : decode code 1592 = .ok (.invokevirtual 246, 3) := by decide +kernel
theorem dL_1595 : decode code 1595 = .ok (.if_icmp .eq 5, 3) := by decide +kernel
theorem dL_1598 : decode code 1598 = .ok (.iconst 0, 1) := by decide +kernel
theorem dL_1599 : decode code 1599 = .ok (.ireturn, 1) := by decide +kernel
theorem case_56 (C : CL p s m meth c b L xs D cA aC aR) {i : Nat} {MC MR : Mem} (hi : i + 4 ≤ L) (hL : L ≤ 2048) (hI : Inv MC MR) (kk : ∀ MC' MR' : Mem, Inv MC' MR' → KL p l e s m below meth c b D cA aC aR 1600 (lvL b aC aR i) [] MC' MR') : KL p l e s m below meth c b D cA aC aR 1577 (lvL b aC aR i) [] MC MR := by
  obtain ⟨v, MC', MR', e1, e2, hI2⟩ := sim_count hI (xs (i + 1))
  obtain ⟨v2, e2, hz2⟩ := Option.map_eq_some_iff.mp e2
  have hv2 : v = v2 := (congrArg Prod.fst hz2).symm
  subst hv2
  have hm2 : MR' = MR := (congrArg Prod.snd hz2).symm
  subst hm2
  refine w_ald C 1 (by decide) rfl rfl dL_1577 ?_
  refine w_arg (k := 1) C (by omega) (by omega) dL_1578 dL_1579 dL_1580 (by decide) dL_1581 dL_1582 ?_
  refine w_callCi C (As := [.int (xs (i + 1))]) (c_X11_count C.2.2.2.2.1 (xs (i + 1)) _ _ e1) mlw_X11_count (bw 1256 (by decide +kernel) (by decide +kernel)) rfl rfl (st := []) rfl ⟨Nat.le_of_ble_eq_true rfl, Nat.le_of_ble_eq_true rfl⟩ (Nat.le_of_ble_eq_true rfl) dL_1583 ?_
  refine w_ald C 2 (by decide) rfl rfl dL_1586 ?_
  refine w_arg (k := 1) C (by omega) (by omega) dL_1587 dL_1588 dL_1589 (by decide) dL_1590 dL_1591 ?_
  refine w_callRi C (As := [.int (xs (i + 1))]) (c_X12_count C.2.2.2.2.2.1 (xs (i + 1)) _ _ e2) mlw_X12_count (bw 1807 (by decide +kernel) (by decide +kernel)) rfl rfl (st := [.int v]) rfl ⟨Nat.le_of_ble_eq_true rfl, Nat.le_of_ble_eq_true rfl⟩ (Nat.le_of_ble_eq_true rfl) dL_1592 ?_
  exact w_eq C (tgt := 1600) dL_1595 (by decide) (kk MC' MR' hI2)
end CASES
