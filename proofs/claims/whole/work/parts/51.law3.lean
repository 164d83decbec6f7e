/-! the law: the other cases -/
set_option maxRecDepth 100000 in
theorem lw_c26 {Γ : gT} {D : gD} {ca : Nat → ClassId} {oX oM : Nat → Nat} {b Ls : Nat} {xs : Nat → Int32} {Post : Option Value → va_W → Prop} {n : Nat} {T : Nat → gP} {I X : gI} {J Y : gJ} {R : gR} {L : List Nat} {S : gS} (h : Rl n T I J X Y R L S) (C : Cx Γ cL_law RL 4 D (tyW ca) room_1 (some .boolean) 600000 7302250 Post) (hX : LX Γ b Ls xs) {i : Nat} (hi : i + 7 ≤ Ls) (hL : Ls ≤ 3584) {cn sn : Nat} (hc : cn + 161 ≤ 600000) (hs : sn + 966 ≤ 7302250) (kk : lwK Γ ca oX oM b i cn sn) : G Γ cn sn 1307 (lwL oX oM b i) [] (cX ca oX X Y R L S ++ cM ca oM I J) := by
  obtain ⟨v1, e1⟩ : ∃ v, xs (nI i + nI 1).toNatClampNeg = v := ⟨_, rfl⟩
  obtain ⟨v2, e2⟩ : ∃ v, xs (nI i + nI 2).toNatClampNeg = v := ⟨_, rfl⟩
  obtain ⟨v3, e3⟩ : ∃ v, xs (nI i + nI 3).toNatClampNeg = v := ⟨_, rfl⟩
  refine g_aload_n C (i := 1) dL_law_1307 rfl rfl ?_
  refine g_aload_n C (i := 0) dL_law_1308 rfl rfl ?_
  refine g_iload_n C (i := 3) dL_law_1309 rfl rfl ?_
  refine g_iconst_1 C dL_law_1310 ?_
  refine g_iadd C dL_law_1311 ?_
  refine g_sld C hX (v := v1) (in_k (k := 1) hi hL (by decide)) e1 dL_law_1312 ?_
  refine g_aload_n C (i := 0) dL_law_1313 rfl rfl ?_
  refine g_iload_n C (i := 3) dL_law_1314 rfl rfl ?_
  refine g_iconst_2 C dL_law_1315 ?_
  refine g_iadd C dL_law_1316 ?_
  refine g_sld C hX (v := v2) (in_k (k := 2) hi hL (by decide)) e2 dL_law_1317 ?_
  refine g_aload_n C (i := 0) dL_law_1318 rfl rfl ?_
  refine g_iload_n C (i := 3) dL_law_1319 rfl rfl ?_
  refine g_iconst_3 C dL_law_1320 ?_
  refine g_iadd C dL_law_1321 ?_
  refine g_sld C hX (v := v3) (in_k (k := 3) hi hL (by decide)) e3 dL_law_1322 ?_
  refine x_callV C (ct_frameL (wX11_k_judge (D := D) (ca := ca) (o := oX) v1 v2 v3 X Y R L S _ (pc_judge h v1 v2 v3)) (cM ca oM I J)) (gSite.of (tb_in (List.mem_of_getElem? (i := 998) (by decide +kernel)) (by decide +kernel)) (tb_in (List.mem_of_getElem? (i := 999) (by decide +kernel)) (by decide +kernel)) (tb_in (List.mem_of_getElem? (i := 1000) (by decide +kernel)) (by decide +kernel)) (tb_in (List.mem_of_getElem? (i := 78) (by decide +kernel)) (by decide +kernel)) (tb_in (List.mem_of_getElem? (i := 1001) (by decide +kernel)) (by decide +kernel)) (by decide +kernel)) rcvX (rm_law0 (by decide) (by decide) (by omega) (by omega)) rfl (Nat.le_of_ble_eq_true rfl) (n := 3) (st := []) _ rfl dL_law_1323 (fun v ws hv => ?_)
  obtain ⟨w, ⟨r, X1, Y1, R1, rfl, rfl, hQ⟩, rfl⟩ := hv
  refine g_eqs (st' := [.int r]) (ws' := cX ca oX X1 Y1 R1 L S ++ cM ca oM I J) rfl rfl ?_
  refine g_aload_n C (i := 2) dL_law_1326 rfl rfl ?_
  refine g_aload_n C (i := 0) dL_law_1327 rfl rfl ?_
  refine g_iload_n C (i := 3) dL_law_1328 rfl rfl ?_
  refine g_iconst_1 C dL_law_1329 ?_
  refine g_iadd C dL_law_1330 ?_
  refine g_sld C hX (v := v1) (in_k (k := 1) hi hL (by decide)) e1 dL_law_1331 ?_
  refine g_aload_n C (i := 0) dL_law_1332 rfl rfl ?_
  refine g_iload_n C (i := 3) dL_law_1333 rfl rfl ?_
  refine g_iconst_2 C dL_law_1334 ?_
  refine g_iadd C dL_law_1335 ?_
  refine g_sld C hX (v := v2) (in_k (k := 2) hi hL (by decide)) e2 dL_law_1336 ?_
  refine g_aload_n C (i := 0) dL_law_1337 rfl rfl ?_
  refine g_iload_n C (i := 3) dL_law_1338 rfl rfl ?_
  refine g_iconst_3 C dL_law_1339 ?_
  refine g_iadd C dL_law_1340 ?_
  refine g_sld C hX (v := v3) (in_k (k := 3) hi hL (by decide)) e3 dL_law_1341 ?_
  refine x_callV C (ct_frameR (wM_k_judge (D := D) (ca := ca) (o := oM) v1 v2 v3 I J _ hQ) (cX ca oX X1 Y1 R1 L S)) (gSite.of (tb_in (List.mem_of_getElem? (i := 1746) (by decide +kernel)) (by decide +kernel)) (tb_in (List.mem_of_getElem? (i := 1747) (by decide +kernel)) (by decide +kernel)) (tb_in (List.mem_of_getElem? (i := 1748) (by decide +kernel)) (by decide +kernel)) (tb_in (List.mem_of_getElem? (i := 87) (by decide +kernel)) (by decide +kernel)) (tb_in (List.mem_of_getElem? (i := 1749) (by decide +kernel)) (by decide +kernel)) (by decide +kernel)) rcvM (rm_law0 (by decide) (by decide) (by omega) (by omega)) rfl (Nat.le_of_ble_eq_true rfl) (n := 3) (st := [.int r]) _ rfl dL_law_1342 (fun v ws hv => ?_)
  obtain ⟨w, ⟨r2, I1, J1, rfl, rfl, er, n1, T1, h1⟩, rfl⟩ := hv
  refine g_eqs (st' := [.int r2, .int r]) (ws' := cX ca oX X1 Y1 R1 L S ++ cM ca oM I1 J1) rfl rfl ?_
  exact g_icmp_eq C 1716 dL_law_1345 rfl (fun _ => g_wide (by omega) (by omega) (kk _ _ _ _ _ _ _ _ _ h1)) (fun e => absurd er e)
set_option maxRecDepth 100000 in
theorem lw_c27 {Γ : gT} {D : gD} {ca : Nat → ClassId} {oX oM : Nat → Nat} {b Ls : Nat} {xs : Nat → Int32} {Post : Option Value → va_W → Prop} {n : Nat} {T : Nat → gP} {I X : gI} {J Y : gJ} {R : gR} {L : List Nat} {S : gS} (h : Rl n T I J X Y R L S) (C : Cx Γ cL_law RL 4 D (tyW ca) room_1 (some .boolean) 600000 7302250 Post) (hX : LX Γ b Ls xs) {i : Nat} (hi : i + 7 ≤ Ls) (hL : Ls ≤ 3584) {cn sn : Nat} (hc : cn + 161 ≤ 600000) (hs : sn + 966 ≤ 7302250) (kk : lwK Γ ca oX oM b i cn sn) : G Γ cn sn 1350 (lwL oX oM b i) [] (cX ca oX X Y R L S ++ cM ca oM I J) := by
  obtain ⟨v1, e1⟩ : ∃ v, xs (nI i + nI 1).toNatClampNeg = v := ⟨_, rfl⟩
  obtain ⟨v2, e2⟩ : ∃ v, xs (nI i + nI 2).toNatClampNeg = v := ⟨_, rfl⟩
  obtain ⟨v3, e3⟩ : ∃ v, xs (nI i + nI 3).toNatClampNeg = v := ⟨_, rfl⟩
  obtain ⟨v4, e4⟩ : ∃ v, xs (nI i + nI 4).toNatClampNeg = v := ⟨_, rfl⟩
  refine g_aload_n C (i := 1) dL_law_1350 rfl rfl ?_
  refine g_aload_n C (i := 0) dL_law_1351 rfl rfl ?_
  refine g_iload_n C (i := 3) dL_law_1352 rfl rfl ?_
  refine g_iconst_1 C dL_law_1353 ?_
  refine g_iadd C dL_law_1354 ?_
  refine g_sld C hX (v := v1) (in_k (k := 1) hi hL (by decide)) e1 dL_law_1355 ?_
  refine g_aload_n C (i := 0) dL_law_1356 rfl rfl ?_
  refine g_iload_n C (i := 3) dL_law_1357 rfl rfl ?_
  refine g_iconst_2 C dL_law_1358 ?_
  refine g_iadd C dL_law_1359 ?_
  refine g_sld C hX (v := v2) (in_k (k := 2) hi hL (by decide)) e2 dL_law_1360 ?_
  refine g_aload_n C (i := 0) dL_law_1361 rfl rfl ?_
  refine g_iload_n C (i := 3) dL_law_1362 rfl rfl ?_
  refine g_iconst_3 C dL_law_1363 ?_
  refine g_iadd C dL_law_1364 ?_
  refine g_sld C hX (v := v3) (in_k (k := 3) hi hL (by decide)) e3 dL_law_1365 ?_
  refine g_aload_n C (i := 0) dL_law_1366 rfl rfl ?_
  refine g_iload_n C (i := 3) dL_law_1367 rfl rfl ?_
  refine g_iconst_4 C dL_law_1368 ?_
  refine g_iadd C dL_law_1369 ?_
  refine g_sld C hX (v := v4) (in_k (k := 4) hi hL (by decide)) e4 dL_law_1370 ?_
  refine x_callV C (ct_frameL (wX11_k_ends (D := D) (ca := ca) (o := oX) v1 v2 v3 v4 X Y R L S _ (pc_ends h v1 v2 v3 v4)) (cM ca oM I J)) (gSite.of (tb_in (List.mem_of_getElem? (i := 1007) (by decide +kernel)) (by decide +kernel)) (tb_in (List.mem_of_getElem? (i := 1008) (by decide +kernel)) (by decide +kernel)) (tb_in (List.mem_of_getElem? (i := 1009) (by decide +kernel)) (by decide +kernel)) (tb_in (List.mem_of_getElem? (i := 78) (by decide +kernel)) (by decide +kernel)) (tb_in (List.mem_of_getElem? (i := 1010) (by decide +kernel)) (by decide +kernel)) (by decide +kernel)) rcvX (rm_law0 (by decide) (by decide) (by omega) (by omega)) rfl (Nat.le_of_ble_eq_true rfl) (n := 4) (st := []) _ rfl dL_law_1371 (fun v ws hv => ?_)
  obtain ⟨w, ⟨r, X1, Y1, R1, rfl, rfl, hQ⟩, rfl⟩ := hv
  refine g_eqs (st' := [.int r]) (ws' := cX ca oX X1 Y1 R1 L S ++ cM ca oM I J) rfl rfl ?_
  refine g_aload_n C (i := 2) dL_law_1374 rfl rfl ?_
  refine g_aload_n C (i := 0) dL_law_1375 rfl rfl ?_
  refine g_iload_n C (i := 3) dL_law_1376 rfl rfl ?_
  refine g_iconst_1 C dL_law_1377 ?_
  refine g_iadd C dL_law_1378 ?_
  refine g_sld C hX (v := v1) (in_k (k := 1) hi hL (by decide)) e1 dL_law_1379 ?_
  refine g_aload_n C (i := 0) dL_law_1380 rfl rfl ?_
  refine g_iload_n C (i := 3) dL_law_1381 rfl rfl ?_
  refine g_iconst_2 C dL_law_1382 ?_
  refine g_iadd C dL_law_1383 ?_
  refine g_sld C hX (v := v2) (in_k (k := 2) hi hL (by decide)) e2 dL_law_1384 ?_
  refine g_aload_n C (i := 0) dL_law_1385 rfl rfl ?_
  refine g_iload_n C (i := 3) dL_law_1386 rfl rfl ?_
  refine g_iconst_3 C dL_law_1387 ?_
  refine g_iadd C dL_law_1388 ?_
  refine g_sld C hX (v := v3) (in_k (k := 3) hi hL (by decide)) e3 dL_law_1389 ?_
  refine g_aload_n C (i := 0) dL_law_1390 rfl rfl ?_
  refine g_iload_n C (i := 3) dL_law_1391 rfl rfl ?_
  refine g_iconst_4 C dL_law_1392 ?_
  refine g_iadd C dL_law_1393 ?_
  refine g_sld C hX (v := v4) (in_k (k := 4) hi hL (by decide)) e4 dL_law_1394 ?_
  refine x_callV C (ct_frameR (wM_k_ends (D := D) (ca := ca) (o := oM) v1 v2 v3 v4 I J _ hQ) (cX ca oX X1 Y1 R1 L S)) (gSite.of (tb_in (List.mem_of_getElem? (i := 1750) (by decide +kernel)) (by decide +kernel)) (tb_in (List.mem_of_getElem? (i := 1751) (by decide +kernel)) (by decide +kernel)) (tb_in (List.mem_of_getElem? (i := 1752) (by decide +kernel)) (by decide +kernel)) (tb_in (List.mem_of_getElem? (i := 87) (by decide +kernel)) (by decide +kernel)) (tb_in (List.mem_of_getElem? (i := 1753) (by decide +kernel)) (by decide +kernel)) (by decide +kernel)) rcvM (rm_law0 (by decide) (by decide) (by omega) (by omega)) rfl (Nat.le_of_ble_eq_true rfl) (n := 4) (st := [.int r]) _ rfl dL_law_1395 (fun v ws hv => ?_)
  obtain ⟨w, ⟨r2, I1, J1, rfl, rfl, er, n1, T1, h1⟩, rfl⟩ := hv
  refine g_eqs (st' := [.int r2, .int r]) (ws' := cX ca oX X1 Y1 R1 L S ++ cM ca oM I1 J1) rfl rfl ?_
  exact g_icmp_eq C 1716 dL_law_1398 rfl (fun _ => g_wide (by omega) (by omega) (kk _ _ _ _ _ _ _ _ _ h1)) (fun e => absurd er e)
set_option maxRecDepth 100000 in
theorem lw_c28 {Γ : gT} {D : gD} {ca : Nat → ClassId} {oX oM : Nat → Nat} {b Ls : Nat} {xs : Nat → Int32} {Post : Option Value → va_W → Prop} {n : Nat} {T : Nat → gP} {I X : gI} {J Y : gJ} {R : gR} {L : List Nat} {S : gS} (h : Rl n T I J X Y R L S) (C : Cx Γ cL_law RL 4 D (tyW ca) room_1 (some .boolean) 600000 7302250 Post) (hX : LX Γ b Ls xs) {i : Nat} (hi : i + 7 ≤ Ls) (hL : Ls ≤ 3584) {cn sn : Nat} (hc : cn + 161 ≤ 600000) (hs : sn + 966 ≤ 7302250) (kk : lwK Γ ca oX oM b i cn sn) : G Γ cn sn 1403 (lwL oX oM b i) [] (cX ca oX X Y R L S ++ cM ca oM I J) := by
  obtain ⟨v1, e1⟩ : ∃ v, xs (nI i + nI 1).toNatClampNeg = v := ⟨_, rfl⟩
  obtain ⟨v2, e2⟩ : ∃ v, xs (nI i + nI 2).toNatClampNeg = v := ⟨_, rfl⟩
  obtain ⟨v3, e3⟩ : ∃ v, xs (nI i + nI 3).toNatClampNeg = v := ⟨_, rfl⟩
  obtain ⟨v4, e4⟩ : ∃ v, xs (nI i + nI 4).toNatClampNeg = v := ⟨_, rfl⟩
  refine g_aload_n C (i := 1) dL_law_1403 rfl rfl ?_
  refine g_aload_n C (i := 0) dL_law_1404 rfl rfl ?_
  refine g_iload_n C (i := 3) dL_law_1405 rfl rfl ?_
  refine g_iconst_1 C dL_law_1406 ?_
  refine g_iadd C dL_law_1407 ?_
  refine g_sld C hX (v := v1) (in_k (k := 1) hi hL (by decide)) e1 dL_law_1408 ?_
  refine g_aload_n C (i := 0) dL_law_1409 rfl rfl ?_
  refine g_iload_n C (i := 3) dL_law_1410 rfl rfl ?_
  refine g_iconst_2 C dL_law_1411 ?_
  refine g_iadd C dL_law_1412 ?_
  refine g_sld C hX (v := v2) (in_k (k := 2) hi hL (by decide)) e2 dL_law_1413 ?_
  refine g_aload_n C (i := 0) dL_law_1414 rfl rfl ?_
  refine g_iload_n C (i := 3) dL_law_1415 rfl rfl ?_
  refine g_iconst_3 C dL_law_1416 ?_
  refine g_iadd C dL_law_1417 ?_
  refine g_sld C hX (v := v3) (in_k (k := 3) hi hL (by decide)) e3 dL_law_1418 ?_
  refine g_aload_n C (i := 0) dL_law_1419 rfl rfl ?_
  refine g_iload_n C (i := 3) dL_law_1420 rfl rfl ?_
  refine g_iconst_4 C dL_law_1421 ?_
  refine g_iadd C dL_law_1422 ?_
  refine g_sld C hX (v := v4) (in_k (k := 4) hi hL (by decide)) e4 dL_law_1423 ?_
  refine x_callV C (ct_frameL (wX11_k_piece (D := D) (ca := ca) (o := oX) v1 v2 v3 v4 X Y R L S _ (pc_piece h v1 v2 v3 v4)) (cM ca oM I J)) (gSite.of (tb_in (List.mem_of_getElem? (i := 1014) (by decide +kernel)) (by decide +kernel)) (tb_in (List.mem_of_getElem? (i := 1015) (by decide +kernel)) (by decide +kernel)) (tb_in (List.mem_of_getElem? (i := 1016) (by decide +kernel)) (by decide +kernel)) (tb_in (List.mem_of_getElem? (i := 78) (by decide +kernel)) (by decide +kernel)) (tb_in (List.mem_of_getElem? (i := 1017) (by decide +kernel)) (by decide +kernel)) (by decide +kernel)) rcvX (rm_law0 (by decide) (by decide) (by omega) (by omega)) rfl (Nat.le_of_ble_eq_true rfl) (n := 4) (st := []) _ rfl dL_law_1424 (fun v ws hv => ?_)
  obtain ⟨w, ⟨r, X1, Y1, R1, rfl, rfl, hQ⟩, rfl⟩ := hv
  refine g_eqs (st' := [.int r]) (ws' := cX ca oX X1 Y1 R1 L S ++ cM ca oM I J) rfl rfl ?_
  refine g_aload_n C (i := 2) dL_law_1427 rfl rfl ?_
  refine g_aload_n C (i := 0) dL_law_1428 rfl rfl ?_
  refine g_iload_n C (i := 3) dL_law_1429 rfl rfl ?_
  refine g_iconst_1 C dL_law_1430 ?_
  refine g_iadd C dL_law_1431 ?_
  refine g_sld C hX (v := v1) (in_k (k := 1) hi hL (by decide)) e1 dL_law_1432 ?_
  refine g_aload_n C (i := 0) dL_law_1433 rfl rfl ?_
  refine g_iload_n C (i := 3) dL_law_1434 rfl rfl ?_
  refine g_iconst_2 C dL_law_1435 ?_
  refine g_iadd C dL_law_1436 ?_
  refine g_sld C hX (v := v2) (in_k (k := 2) hi hL (by decide)) e2 dL_law_1437 ?_
  refine g_aload_n C (i := 0) dL_law_1438 rfl rfl ?_
  refine g_iload_n C (i := 3) dL_law_1439 rfl rfl ?_
  refine g_iconst_3 C dL_law_1440 ?_
  refine g_iadd C dL_law_1441 ?_
  refine g_sld C hX (v := v3) (in_k (k := 3) hi hL (by decide)) e3 dL_law_1442 ?_
  refine g_aload_n C (i := 0) dL_law_1443 rfl rfl ?_
  refine g_iload_n C (i := 3) dL_law_1444 rfl rfl ?_
  refine g_iconst_4 C dL_law_1445 ?_
  refine g_iadd C dL_law_1446 ?_
  refine g_sld C hX (v := v4) (in_k (k := 4) hi hL (by decide)) e4 dL_law_1447 ?_
  refine x_callV C (ct_frameR (wM_k_piece (D := D) (ca := ca) (o := oM) v1 v2 v3 v4 I J _ hQ) (cX ca oX X1 Y1 R1 L S)) (gSite.of (tb_in (List.mem_of_getElem? (i := 1758) (by decide +kernel)) (by decide +kernel)) (tb_in (List.mem_of_getElem? (i := 1759) (by decide +kernel)) (by decide +kernel)) (tb_in (List.mem_of_getElem? (i := 1760) (by decide +kernel)) (by decide +kernel)) (tb_in (List.mem_of_getElem? (i := 87) (by decide +kernel)) (by decide +kernel)) (tb_in (List.mem_of_getElem? (i := 1761) (by decide +kernel)) (by decide +kernel)) (by decide +kernel)) rcvM (rm_law0 (by decide) (by decide) (by omega) (by omega)) rfl (Nat.le_of_ble_eq_true rfl) (n := 4) (st := [.int r]) _ rfl dL_law_1448 (fun v ws hv => ?_)
  obtain ⟨w, ⟨r2, I1, J1, rfl, rfl, er, n1, T1, h1⟩, rfl⟩ := hv
  refine g_eqs (st' := [.int r2, .int r]) (ws' := cX ca oX X1 Y1 R1 L S ++ cM ca oM I1 J1) rfl rfl ?_
  exact g_icmp_eq C 1716 dL_law_1451 rfl (fun _ => g_wide (by omega) (by omega) (kk _ _ _ _ _ _ _ _ _ h1)) (fun e => absurd er e)
set_option maxRecDepth 100000 in
theorem lw_c29 {Γ : gT} {D : gD} {ca : Nat → ClassId} {oX oM : Nat → Nat} {b Ls : Nat} {xs : Nat → Int32} {Post : Option Value → va_W → Prop} {n : Nat} {T : Nat → gP} {I X : gI} {J Y : gJ} {R : gR} {L : List Nat} {S : gS} (h : Rl n T I J X Y R L S) (C : Cx Γ cL_law RL 4 D (tyW ca) room_1 (some .boolean) 600000 7302250 Post) (hX : LX Γ b Ls xs) {i : Nat} (hi : i + 7 ≤ Ls) (hL : Ls ≤ 3584) {cn sn : Nat} (hc : cn + 161 ≤ 600000) (hs : sn + 966 ≤ 7302250) (kk : lwK Γ ca oX oM b i cn sn) : G Γ cn sn 1456 (lwL oX oM b i) [] (cX ca oX X Y R L S ++ cM ca oM I J) := by
  obtain ⟨v1, e1⟩ : ∃ v, xs (nI i + nI 1).toNatClampNeg = v := ⟨_, rfl⟩
  obtain ⟨v2, e2⟩ : ∃ v, xs (nI i + nI 2).toNatClampNeg = v := ⟨_, rfl⟩
  refine g_aload_n C (i := 1) dL_law_1456 rfl rfl ?_
  refine g_aload_n C (i := 0) dL_law_1457 rfl rfl ?_
  refine g_iload_n C (i := 3) dL_law_1458 rfl rfl ?_
  refine g_iconst_1 C dL_law_1459 ?_
  refine g_iadd C dL_law_1460 ?_
  refine g_sld C hX (v := v1) (in_k (k := 1) hi hL (by decide)) e1 dL_law_1461 ?_
  refine g_aload_n C (i := 0) dL_law_1462 rfl rfl ?_
  refine g_iload_n C (i := 3) dL_law_1463 rfl rfl ?_
  refine g_iconst_2 C dL_law_1464 ?_
  refine g_iadd C dL_law_1465 ?_
  refine g_sld C hX (v := v2) (in_k (k := 2) hi hL (by decide)) e2 dL_law_1466 ?_
  refine x_callV C (ct_frameL (wX11_k_can (D := D) (ca := ca) (o := oX) v1 v2 X Y R L S _ (pc_can h v1 v2)) (cM ca oM I J)) (gSite.of (tb_in (List.mem_of_getElem? (i := 1021) (by decide +kernel)) (by decide +kernel)) (tb_in (List.mem_of_getElem? (i := 1022) (by decide +kernel)) (by decide +kernel)) (tb_in (List.mem_of_getElem? (i := 1023) (by decide +kernel)) (by decide +kernel)) (tb_in (List.mem_of_getElem? (i := 78) (by decide +kernel)) (by decide +kernel)) (tb_in (List.mem_of_getElem? (i := 1024) (by decide +kernel)) (by decide +kernel)) (by decide +kernel)) rcvX (rm_law0 (by decide) (by decide) (by omega) (by omega)) rfl (Nat.le_of_ble_eq_true rfl) (n := 2) (st := []) _ rfl dL_law_1467 (fun v ws hv => ?_)
  obtain ⟨w, ⟨r, X1, Y1, R1, rfl, rfl, hQ⟩, rfl⟩ := hv
  refine g_eqs (st' := [.int r]) (ws' := cX ca oX X1 Y1 R1 L S ++ cM ca oM I J) rfl rfl ?_
  refine g_aload_n C (i := 2) dL_law_1470 rfl rfl ?_
  refine g_aload_n C (i := 0) dL_law_1471 rfl rfl ?_
  refine g_iload_n C (i := 3) dL_law_1472 rfl rfl ?_
  refine g_iconst_1 C dL_law_1473 ?_
  refine g_iadd C dL_law_1474 ?_
  refine g_sld C hX (v := v1) (in_k (k := 1) hi hL (by decide)) e1 dL_law_1475 ?_
  refine g_aload_n C (i := 0) dL_law_1476 rfl rfl ?_
  refine g_iload_n C (i := 3) dL_law_1477 rfl rfl ?_
  refine g_iconst_2 C dL_law_1478 ?_
  refine g_iadd C dL_law_1479 ?_
  refine g_sld C hX (v := v2) (in_k (k := 2) hi hL (by decide)) e2 dL_law_1480 ?_
  refine x_callV C (ct_frameR (wM_k_can (D := D) (ca := ca) (o := oM) v1 v2 I J _ hQ) (cX ca oX X1 Y1 R1 L S)) (gSite.of (tb_in (List.mem_of_getElem? (i := 1762) (by decide +kernel)) (by decide +kernel)) (tb_in (List.mem_of_getElem? (i := 1763) (by decide +kernel)) (by decide +kernel)) (tb_in (List.mem_of_getElem? (i := 1764) (by decide +kernel)) (by decide +kernel)) (tb_in (List.mem_of_getElem? (i := 87) (by decide +kernel)) (by decide +kernel)) (tb_in (List.mem_of_getElem? (i := 1765) (by decide +kernel)) (by decide +kernel)) (by decide +kernel)) rcvM (rm_law0 (by decide) (by decide) (by omega) (by omega)) rfl (Nat.le_of_ble_eq_true rfl) (n := 2) (st := [.int r]) _ rfl dL_law_1481 (fun v ws hv => ?_)
  obtain ⟨w, ⟨r2, I1, J1, rfl, rfl, er, n1, T1, h1⟩, rfl⟩ := hv
  refine g_eqs (st' := [.int r2, .int r]) (ws' := cX ca oX X1 Y1 R1 L S ++ cM ca oM I1 J1) rfl rfl ?_
  exact g_icmp_eq C 1716 dL_law_1484 rfl (fun _ => g_wide (by omega) (by omega) (kk _ _ _ _ _ _ _ _ _ h1)) (fun e => absurd er e)
set_option maxRecDepth 100000 in
theorem lw_c30 {Γ : gT} {D : gD} {ca : Nat → ClassId} {oX oM : Nat → Nat} {b Ls : Nat} {xs : Nat → Int32} {Post : Option Value → va_W → Prop} {n : Nat} {T : Nat → gP} {I X : gI} {J Y : gJ} {R : gR} {L : List Nat} {S : gS} (h : Rl n T I J X Y R L S) (C : Cx Γ cL_law RL 4 D (tyW ca) room_1 (some .boolean) 600000 7302250 Post) (hX : LX Γ b Ls xs) {i : Nat} (hi : i + 7 ≤ Ls) (hL : Ls ≤ 3584) {cn sn : Nat} (hc : cn + 161 ≤ 600000) (hs : sn + 966 ≤ 7302250) (kk : lwK Γ ca oX oM b i cn sn) : G Γ cn sn 1489 (lwL oX oM b i) [] (cX ca oX X Y R L S ++ cM ca oM I J) := by
  obtain ⟨v1, e1⟩ : ∃ v, xs (nI i + nI 1).toNatClampNeg = v := ⟨_, rfl⟩
  refine g_aload_n C (i := 1) dL_law_1489 rfl rfl ?_
  refine g_aload_n C (i := 0) dL_law_1490 rfl rfl ?_
  refine g_iload_n C (i := 3) dL_law_1491 rfl rfl ?_
  refine g_iconst_1 C dL_law_1492 ?_
  refine g_iadd C dL_law_1493 ?_
  refine g_sld C hX (v := v1) (in_k (k := 1) hi hL (by decide)) e1 dL_law_1494 ?_
  refine x_callV C (ct_frameL (wX11_k_orders (D := D) (ca := ca) (o := oX) v1 X Y R L S _ (pc_orders h v1)) (cM ca oM I J)) (gSite.of (tb_in (List.mem_of_getElem? (i := 1050) (by decide +kernel)) (by decide +kernel)) (tb_in (List.mem_of_getElem? (i := 1051) (by decide +kernel)) (by decide +kernel)) (tb_in (List.mem_of_getElem? (i := 1052) (by decide +kernel)) (by decide +kernel)) (tb_in (List.mem_of_getElem? (i := 78) (by decide +kernel)) (by decide +kernel)) (tb_in (List.mem_of_getElem? (i := 1053) (by decide +kernel)) (by decide +kernel)) (by decide +kernel)) rcvX (rm_law0 (by decide) (by decide) (by omega) (by omega)) rfl (Nat.le_of_ble_eq_true rfl) (n := 1) (st := []) _ rfl dL_law_1495 (fun v ws hv => ?_)
  obtain ⟨w, ⟨r, X1, Y1, R1, rfl, rfl, hQ⟩, rfl⟩ := hv
  refine g_eqs (st' := [.int r]) (ws' := cX ca oX X1 Y1 R1 L S ++ cM ca oM I J) rfl rfl ?_
  refine g_aload_n C (i := 2) dL_law_1498 rfl rfl ?_
  refine g_aload_n C (i := 0) dL_law_1499 rfl rfl ?_
  refine g_iload_n C (i := 3) dL_law_1500 rfl rfl ?_
  refine g_iconst_1 C dL_law_1501 ?_
  refine g_iadd C dL_law_1502 ?_
  refine g_sld C hX (v := v1) (in_k (k := 1) hi hL (by decide)) e1 dL_law_1503 ?_
  refine x_callV C (ct_frameR (wM_k_orders (D := D) (ca := ca) (o := oM) v1 I J _ hQ) (cX ca oX X1 Y1 R1 L S)) (gSite.of (tb_in (List.mem_of_getElem? (i := 1770) (by decide +kernel)) (by decide +kernel)) (tb_in (List.mem_of_getElem? (i := 1771) (by decide +kernel)) (by decide +kernel)) (tb_in (List.mem_of_getElem? (i := 1772) (by decide +kernel)) (by decide +kernel)) (tb_in (List.mem_of_getElem? (i := 87) (by decide +kernel)) (by decide +kernel)) (tb_in (List.mem_of_getElem? (i := 1773) (by decide +kernel)) (by decide +kernel)) (by decide +kernel)) rcvM (rm_law0 (by decide) (by decide) (by omega) (by omega)) rfl (Nat.le_of_ble_eq_true rfl) (n := 1) (st := [.int r]) _ rfl dL_law_1504 (fun v ws hv => ?_)
  obtain ⟨w, ⟨r2, I1, J1, rfl, rfl, er, n1, T1, h1⟩, rfl⟩ := hv
  refine g_eqs (st' := [.int r2, .int r]) (ws' := cX ca oX X1 Y1 R1 L S ++ cM ca oM I1 J1) rfl rfl ?_
  exact g_icmp_eq C 1716 dL_law_1507 rfl (fun _ => g_wide (by omega) (by omega) (kk _ _ _ _ _ _ _ _ _ h1)) (fun e => absurd er e)
set_option maxRecDepth 100000 in
theorem lw_c31 {Γ : gT} {D : gD} {ca : Nat → ClassId} {oX oM : Nat → Nat} {b Ls : Nat} {xs : Nat → Int32} {Post : Option Value → va_W → Prop} {n : Nat} {T : Nat → gP} {I X : gI} {J Y : gJ} {R : gR} {L : List Nat} {S : gS} (h : Rl n T I J X Y R L S) (C : Cx Γ cL_law RL 4 D (tyW ca) room_1 (some .boolean) 600000 7302250 Post) (hX : LX Γ b Ls xs) {i : Nat} (hi : i + 7 ≤ Ls) (hL : Ls ≤ 3584) {cn sn : Nat} (hc : cn + 161 ≤ 600000) (hs : sn + 966 ≤ 7302250) (kk : lwK Γ ca oX oM b i cn sn) : G Γ cn sn 1512 (lwL oX oM b i) [] (cX ca oX X Y R L S ++ cM ca oM I J) := by
  obtain ⟨v1, e1⟩ : ∃ v, xs (nI i + nI 1).toNatClampNeg = v := ⟨_, rfl⟩
  obtain ⟨v2, e2⟩ : ∃ v, xs (nI i + nI 2).toNatClampNeg = v := ⟨_, rfl⟩
  obtain ⟨v3, e3⟩ : ∃ v, xs (nI i + nI 3).toNatClampNeg = v := ⟨_, rfl⟩
  refine g_aload_n C (i := 1) dL_law_1512 rfl rfl ?_
  refine g_aload_n C (i := 0) dL_law_1513 rfl rfl ?_
  refine g_iload_n C (i := 3) dL_law_1514 rfl rfl ?_
  refine g_iconst_1 C dL_law_1515 ?_
  refine g_iadd C dL_law_1516 ?_
  refine g_sld C hX (v := v1) (in_k (k := 1) hi hL (by decide)) e1 dL_law_1517 ?_
  refine g_aload_n C (i := 0) dL_law_1518 rfl rfl ?_
  refine g_iload_n C (i := 3) dL_law_1519 rfl rfl ?_
  refine g_iconst_2 C dL_law_1520 ?_
  refine g_iadd C dL_law_1521 ?_
  refine g_sld C hX (v := v2) (in_k (k := 2) hi hL (by decide)) e2 dL_law_1522 ?_
  refine g_aload_n C (i := 0) dL_law_1523 rfl rfl ?_
  refine g_iload_n C (i := 3) dL_law_1524 rfl rfl ?_
  refine g_iconst_3 C dL_law_1525 ?_
  refine g_iadd C dL_law_1526 ?_
  refine g_sld C hX (v := v3) (in_k (k := 3) hi hL (by decide)) e3 dL_law_1527 ?_
  refine x_callV C (ct_frameL (wX11_k_order (D := D) (ca := ca) (o := oX) v1 v2 v3 X Y R L S _ (pc_order h v1 v2 v3)) (cM ca oM I J)) (gSite.of (tb_in (List.mem_of_getElem? (i := 1065) (by decide +kernel)) (by decide +kernel)) (tb_in (List.mem_of_getElem? (i := 1066) (by decide +kernel)) (by decide +kernel)) (tb_in (List.mem_of_getElem? (i := 1067) (by decide +kernel)) (by decide +kernel)) (tb_in (List.mem_of_getElem? (i := 78) (by decide +kernel)) (by decide +kernel)) (tb_in (List.mem_of_getElem? (i := 1068) (by decide +kernel)) (by decide +kernel)) (by decide +kernel)) rcvX (rm_law0 (by decide) (by decide) (by omega) (by omega)) rfl (Nat.le_of_ble_eq_true rfl) (n := 3) (st := []) _ rfl dL_law_1528 (fun v ws hv => ?_)
  obtain ⟨w, ⟨r, X1, Y1, R1, rfl, rfl, hQ⟩, rfl⟩ := hv
  refine g_eqs (st' := [.int r]) (ws' := cX ca oX X1 Y1 R1 L S ++ cM ca oM I J) rfl rfl ?_
  refine g_aload_n C (i := 2) dL_law_1531 rfl rfl ?_
  refine g_aload_n C (i := 0) dL_law_1532 rfl rfl ?_
  refine g_iload_n C (i := 3) dL_law_1533 rfl rfl ?_
  refine g_iconst_1 C dL_law_1534 ?_
  refine g_iadd C dL_law_1535 ?_
  refine g_sld C hX (v := v1) (in_k (k := 1) hi hL (by decide)) e1 dL_law_1536 ?_
  refine g_aload_n C (i := 0) dL_law_1537 rfl rfl ?_
  refine g_iload_n C (i := 3) dL_law_1538 rfl rfl ?_
  refine g_iconst_2 C dL_law_1539 ?_
  refine g_iadd C dL_law_1540 ?_
  refine g_sld C hX (v := v2) (in_k (k := 2) hi hL (by decide)) e2 dL_law_1541 ?_
  refine g_aload_n C (i := 0) dL_law_1542 rfl rfl ?_
  refine g_iload_n C (i := 3) dL_law_1543 rfl rfl ?_
  refine g_iconst_3 C dL_law_1544 ?_
  refine g_iadd C dL_law_1545 ?_
  refine g_sld C hX (v := v3) (in_k (k := 3) hi hL (by decide)) e3 dL_law_1546 ?_
  refine x_callV C (ct_frameR (wM_k_order (D := D) (ca := ca) (o := oM) v1 v2 v3 I J _ hQ) (cX ca oX X1 Y1 R1 L S)) (gSite.of (tb_in (List.mem_of_getElem? (i := 1782) (by decide +kernel)) (by decide +kernel)) (tb_in (List.mem_of_getElem? (i := 1783) (by decide +kernel)) (by decide +kernel)) (tb_in (List.mem_of_getElem? (i := 1784) (by decide +kernel)) (by decide +kernel)) (tb_in (List.mem_of_getElem? (i := 87) (by decide +kernel)) (by decide +kernel)) (tb_in (List.mem_of_getElem? (i := 1785) (by decide +kernel)) (by decide +kernel)) (by decide +kernel)) rcvM (rm_law0 (by decide) (by decide) (by omega) (by omega)) rfl (Nat.le_of_ble_eq_true rfl) (n := 3) (st := [.int r]) _ rfl dL_law_1547 (fun v ws hv => ?_)
  obtain ⟨w, ⟨r2, I1, J1, rfl, rfl, er, n1, T1, h1⟩, rfl⟩ := hv
  refine g_eqs (st' := [.int r2, .int r]) (ws' := cX ca oX X1 Y1 R1 L S ++ cM ca oM I1 J1) rfl rfl ?_
  exact g_icmp_eq C 1716 dL_law_1550 rfl (fun _ => g_wide (by omega) (by omega) (kk _ _ _ _ _ _ _ _ _ h1)) (fun e => absurd er e)
set_option maxRecDepth 100000 in
theorem lw_c32 {Γ : gT} {D : gD} {ca : Nat → ClassId} {oX oM : Nat → Nat} {b Ls : Nat} {xs : Nat → Int32} {Post : Option Value → va_W → Prop} {n : Nat} {T : Nat → gP} {I X : gI} {J Y : gJ} {R : gR} {L : List Nat} {S : gS} (h : Rl n T I J X Y R L S) (C : Cx Γ cL_law RL 4 D (tyW ca) room_1 (some .boolean) 600000 7302250 Post) (hX : LX Γ b Ls xs) {i : Nat} (hi : i + 7 ≤ Ls) (hL : Ls ≤ 3584) {cn sn : Nat} (hc : cn + 161 ≤ 600000) (hs : sn + 966 ≤ 7302250) (kk : lwK Γ ca oX oM b i cn sn) : G Γ cn sn 1555 (lwL oX oM b i) [] (cX ca oX X Y R L S ++ cM ca oM I J) := by
  obtain ⟨v1, e1⟩ : ∃ v, xs (nI i + nI 1).toNatClampNeg = v := ⟨_, rfl⟩
  obtain ⟨v2, e2⟩ : ∃ v, xs (nI i + nI 2).toNatClampNeg = v := ⟨_, rfl⟩
  refine g_aload_n C (i := 1) dL_law_1555 rfl rfl ?_
  refine g_aload_n C (i := 0) dL_law_1556 rfl rfl ?_
  refine g_iload_n C (i := 3) dL_law_1557 rfl rfl ?_
  refine g_iconst_1 C dL_law_1558 ?_
  refine g_iadd C dL_law_1559 ?_
  refine g_sld C hX (v := v1) (in_k (k := 1) hi hL (by decide)) e1 dL_law_1560 ?_
  refine g_aload_n C (i := 0) dL_law_1561 rfl rfl ?_
  refine g_iload_n C (i := 3) dL_law_1562 rfl rfl ?_
  refine g_iconst_2 C dL_law_1563 ?_
  refine g_iadd C dL_law_1564 ?_
  refine g_sld C hX (v := v2) (in_k (k := 2) hi hL (by decide)) e2 dL_law_1565 ?_
  refine x_callV C (ct_frameL (wX11_k_page (D := D) (ca := ca) (o := oX) v1 v2 X Y R L S _ (pc_page h v1 v2)) (cM ca oM I J)) (gSite.of (tb_in (List.mem_of_getElem? (i := 1074) (by decide +kernel)) (by decide +kernel)) (tb_in (List.mem_of_getElem? (i := 1075) (by decide +kernel)) (by decide +kernel)) (tb_in (List.mem_of_getElem? (i := 1076) (by decide +kernel)) (by decide +kernel)) (tb_in (List.mem_of_getElem? (i := 78) (by decide +kernel)) (by decide +kernel)) (tb_in (List.mem_of_getElem? (i := 1077) (by decide +kernel)) (by decide +kernel)) (by decide +kernel)) rcvX (rm_law0 (by decide) (by decide) (by omega) (by omega)) rfl (Nat.le_of_ble_eq_true rfl) (n := 2) (st := []) _ rfl dL_law_1566 (fun v ws hv => ?_)
  obtain ⟨w, ⟨r, X1, Y1, R1, rfl, rfl, hQ⟩, rfl⟩ := hv
  refine g_eqs (st' := [.int r]) (ws' := cX ca oX X1 Y1 R1 L S ++ cM ca oM I J) rfl rfl ?_
  refine g_aload_n C (i := 2) dL_law_1569 rfl rfl ?_
  refine g_aload_n C (i := 0) dL_law_1570 rfl rfl ?_
  refine g_iload_n C (i := 3) dL_law_1571 rfl rfl ?_
  refine g_iconst_1 C dL_law_1572 ?_
  refine g_iadd C dL_law_1573 ?_
  refine g_sld C hX (v := v1) (in_k (k := 1) hi hL (by decide)) e1 dL_law_1574 ?_
  refine g_aload_n C (i := 0) dL_law_1575 rfl rfl ?_
  refine g_iload_n C (i := 3) dL_law_1576 rfl rfl ?_
  refine g_iconst_2 C dL_law_1577 ?_
  refine g_iadd C dL_law_1578 ?_
  refine g_sld C hX (v := v2) (in_k (k := 2) hi hL (by decide)) e2 dL_law_1579 ?_
  refine x_callV C (ct_frameR (wM_k_page (D := D) (ca := ca) (o := oM) v1 v2 I J _ hQ) (cX ca oX X1 Y1 R1 L S)) (gSite.of (tb_in (List.mem_of_getElem? (i := 1786) (by decide +kernel)) (by decide +kernel)) (tb_in (List.mem_of_getElem? (i := 1787) (by decide +kernel)) (by decide +kernel)) (tb_in (List.mem_of_getElem? (i := 1788) (by decide +kernel)) (by decide +kernel)) (tb_in (List.mem_of_getElem? (i := 87) (by decide +kernel)) (by decide +kernel)) (tb_in (List.mem_of_getElem? (i := 1789) (by decide +kernel)) (by decide +kernel)) (by decide +kernel)) rcvM (rm_law0 (by decide) (by decide) (by omega) (by omega)) rfl (Nat.le_of_ble_eq_true rfl) (n := 2) (st := [.int r]) _ rfl dL_law_1580 (fun v ws hv => ?_)
  obtain ⟨w, ⟨r2, I1, J1, rfl, rfl, er, n1, T1, h1⟩, rfl⟩ := hv
  refine g_eqs (st' := [.int r2, .int r]) (ws' := cX ca oX X1 Y1 R1 L S ++ cM ca oM I1 J1) rfl rfl ?_
  exact g_icmp_eq C 1716 dL_law_1583 rfl (fun _ => g_wide (by omega) (by omega) (kk _ _ _ _ _ _ _ _ _ h1)) (fun e => absurd er e)
set_option maxRecDepth 100000 in
theorem lw_c33 {Γ : gT} {D : gD} {ca : Nat → ClassId} {oX oM : Nat → Nat} {b Ls : Nat} {xs : Nat → Int32} {Post : Option Value → va_W → Prop} {n : Nat} {T : Nat → gP} {I X : gI} {J Y : gJ} {R : gR} {L : List Nat} {S : gS} (h : Rl n T I J X Y R L S) (C : Cx Γ cL_law RL 4 D (tyW ca) room_1 (some .boolean) 600000 7302250 Post) (hX : LX Γ b Ls xs) {i : Nat} (hi : i + 7 ≤ Ls) (hL : Ls ≤ 3584) {cn sn : Nat} (hc : cn + 161 ≤ 600000) (hs : sn + 966 ≤ 7302250) (kk : lwK Γ ca oX oM b i cn sn) : G Γ cn sn 1588 (lwL oX oM b i) [] (cX ca oX X Y R L S ++ cM ca oM I J) := by
  refine g_aload_n C (i := 1) dL_law_1588 rfl rfl ?_
  refine x_callV C (ct_frameL (wX11_k_drop (D := D) (ca := ca) (o := oX)  X Y R L S _ (pc_drop h )) (cM ca oM I J)) (gSite.of (tb_in (List.mem_of_getElem? (i := 1078) (by decide +kernel)) (by decide +kernel)) (tb_in (List.mem_of_getElem? (i := 1079) (by decide +kernel)) (by decide +kernel)) (tb_in (List.mem_of_getElem? (i := 1080) (by decide +kernel)) (by decide +kernel)) (tb_in (List.mem_of_getElem? (i := 78) (by decide +kernel)) (by decide +kernel)) (tb_in (List.mem_of_getElem? (i := 1081) (by decide +kernel)) (by decide +kernel)) (by decide +kernel)) rcvX (rm_law0 (by decide) (by decide) (by omega) (by omega)) rfl (Nat.le_of_ble_eq_true rfl) (n := 0) (st := []) _ rfl dL_law_1589 (fun v ws hv => ?_)
  obtain ⟨w, ⟨r, X1, Y1, R1, rfl, rfl, hQ⟩, rfl⟩ := hv
  refine g_eqs (st' := [.int r]) (ws' := cX ca oX X1 Y1 R1 L S ++ cM ca oM I J) rfl rfl ?_
  refine g_aload_n C (i := 2) dL_law_1592 rfl rfl ?_
  refine x_callV C (ct_frameR (wM_k_drop (D := D) (ca := ca) (o := oM)  I J _ hQ) (cX ca oX X1 Y1 R1 L S)) (gSite.of (tb_in (List.mem_of_getElem? (i := 1790) (by decide +kernel)) (by decide +kernel)) (tb_in (List.mem_of_getElem? (i := 1791) (by decide +kernel)) (by decide +kernel)) (tb_in (List.mem_of_getElem? (i := 1792) (by decide +kernel)) (by decide +kernel)) (tb_in (List.mem_of_getElem? (i := 87) (by decide +kernel)) (by decide +kernel)) (tb_in (List.mem_of_getElem? (i := 1793) (by decide +kernel)) (by decide +kernel)) (by decide +kernel)) rcvM (rm_law0 (by decide) (by decide) (by omega) (by omega)) rfl (Nat.le_of_ble_eq_true rfl) (n := 0) (st := [.int r]) _ rfl dL_law_1593 (fun v ws hv => ?_)
  obtain ⟨w, ⟨r2, I1, J1, rfl, rfl, er, n1, T1, h1⟩, rfl⟩ := hv
  refine g_eqs (st' := [.int r2, .int r]) (ws' := cX ca oX X1 Y1 R1 L S ++ cM ca oM I1 J1) rfl rfl ?_
  exact g_icmp_eq C 1716 dL_law_1596 rfl (fun _ => g_wide (by omega) (by omega) (kk _ _ _ _ _ _ _ _ _ h1)) (fun e => absurd er e)
set_option maxRecDepth 100000 in
theorem lw_c34 {Γ : gT} {D : gD} {ca : Nat → ClassId} {oX oM : Nat → Nat} {b Ls : Nat} {xs : Nat → Int32} {Post : Option Value → va_W → Prop} {n : Nat} {T : Nat → gP} {I X : gI} {J Y : gJ} {R : gR} {L : List Nat} {S : gS} (h : Rl n T I J X Y R L S) (C : Cx Γ cL_law RL 4 D (tyW ca) room_1 (some .boolean) 600000 7302250 Post) (hX : LX Γ b Ls xs) {i : Nat} (hi : i + 7 ≤ Ls) (hL : Ls ≤ 3584) {cn sn : Nat} (hc : cn + 161 ≤ 600000) (hs : sn + 966 ≤ 7302250) (kk : lwK Γ ca oX oM b i cn sn) : G Γ cn sn 1601 (lwL oX oM b i) [] (cX ca oX X Y R L S ++ cM ca oM I J) := by
  obtain ⟨v1, e1⟩ : ∃ v, xs (nI i + nI 1).toNatClampNeg = v := ⟨_, rfl⟩
  obtain ⟨v2, e2⟩ : ∃ v, xs (nI i + nI 2).toNatClampNeg = v := ⟨_, rfl⟩
  obtain ⟨v3, e3⟩ : ∃ v, xs (nI i + nI 3).toNatClampNeg = v := ⟨_, rfl⟩
  refine g_aload_n C (i := 1) dL_law_1601 rfl rfl ?_
  refine g_aload_n C (i := 0) dL_law_1602 rfl rfl ?_
  refine g_iload_n C (i := 3) dL_law_1603 rfl rfl ?_
  refine g_iconst_1 C dL_law_1604 ?_
  refine g_iadd C dL_law_1605 ?_
  refine g_sld C hX (v := v1) (in_k (k := 1) hi hL (by decide)) e1 dL_law_1606 ?_
  refine g_aload_n C (i := 0) dL_law_1607 rfl rfl ?_
  refine g_iload_n C (i := 3) dL_law_1608 rfl rfl ?_
  refine g_iconst_2 C dL_law_1609 ?_
  refine g_iadd C dL_law_1610 ?_
  refine g_sld C hX (v := v2) (in_k (k := 2) hi hL (by decide)) e2 dL_law_1611 ?_
  refine g_aload_n C (i := 0) dL_law_1612 rfl rfl ?_
  refine g_iload_n C (i := 3) dL_law_1613 rfl rfl ?_
  refine g_iconst_3 C dL_law_1614 ?_
  refine g_iadd C dL_law_1615 ?_
  refine g_sld C hX (v := v3) (in_k (k := 3) hi hL (by decide)) e3 dL_law_1616 ?_
  refine x_callV C (ct_frameL (wX11_k_act (D := D) (ca := ca) (o := oX) v1 v2 v3 X Y R L S _ (pc_act h v1 v2 v3)) (cM ca oM I J)) (gSite.of (tb_in (List.mem_of_getElem? (i := 1086) (by decide +kernel)) (by decide +kernel)) (tb_in (List.mem_of_getElem? (i := 1087) (by decide +kernel)) (by decide +kernel)) (tb_in (List.mem_of_getElem? (i := 1088) (by decide +kernel)) (by decide +kernel)) (tb_in (List.mem_of_getElem? (i := 78) (by decide +kernel)) (by decide +kernel)) (tb_in (List.mem_of_getElem? (i := 1089) (by decide +kernel)) (by decide +kernel)) (by decide +kernel)) rcvX (rm_law0 (by decide) (by decide) (by omega) (by omega)) rfl (Nat.le_of_ble_eq_true rfl) (n := 3) (st := []) _ rfl dL_law_1617 (fun v ws hv => ?_)
  obtain ⟨w, ⟨r, X1, Y1, R1, rfl, rfl, hQ⟩, rfl⟩ := hv
  refine g_eqs (st' := [.int r]) (ws' := cX ca oX X1 Y1 R1 L S ++ cM ca oM I J) rfl rfl ?_
  refine g_aload_n C (i := 2) dL_law_1620 rfl rfl ?_
  refine g_aload_n C (i := 0) dL_law_1621 rfl rfl ?_
  refine g_iload_n C (i := 3) dL_law_1622 rfl rfl ?_
  refine g_iconst_1 C dL_law_1623 ?_
  refine g_iadd C dL_law_1624 ?_
  refine g_sld C hX (v := v1) (in_k (k := 1) hi hL (by decide)) e1 dL_law_1625 ?_
  refine g_aload_n C (i := 0) dL_law_1626 rfl rfl ?_
  refine g_iload_n C (i := 3) dL_law_1627 rfl rfl ?_
  refine g_iconst_2 C dL_law_1628 ?_
  refine g_iadd C dL_law_1629 ?_
  refine g_sld C hX (v := v2) (in_k (k := 2) hi hL (by decide)) e2 dL_law_1630 ?_
  refine g_aload_n C (i := 0) dL_law_1631 rfl rfl ?_
  refine g_iload_n C (i := 3) dL_law_1632 rfl rfl ?_
  refine g_iconst_3 C dL_law_1633 ?_
  refine g_iadd C dL_law_1634 ?_
  refine g_sld C hX (v := v3) (in_k (k := 3) hi hL (by decide)) e3 dL_law_1635 ?_
  refine x_callV C (ct_frameR (wM_k_act (D := D) (ca := ca) (o := oM) v1 v2 v3 I J _ hQ) (cX ca oX X1 Y1 R1 L S)) (gSite.of (tb_in (List.mem_of_getElem? (i := 1794) (by decide +kernel)) (by decide +kernel)) (tb_in (List.mem_of_getElem? (i := 1795) (by decide +kernel)) (by decide +kernel)) (tb_in (List.mem_of_getElem? (i := 1796) (by decide +kernel)) (by decide +kernel)) (tb_in (List.mem_of_getElem? (i := 87) (by decide +kernel)) (by decide +kernel)) (tb_in (List.mem_of_getElem? (i := 1797) (by decide +kernel)) (by decide +kernel)) (by decide +kernel)) rcvM (rm_law0 (by decide) (by decide) (by omega) (by omega)) rfl (Nat.le_of_ble_eq_true rfl) (n := 3) (st := [.int r]) _ rfl dL_law_1636 (fun v ws hv => ?_)
  obtain ⟨w, ⟨r2, I1, J1, rfl, rfl, er, n1, T1, h1⟩, rfl⟩ := hv
  refine g_eqs (st' := [.int r2, .int r]) (ws' := cX ca oX X1 Y1 R1 L S ++ cM ca oM I1 J1) rfl rfl ?_
  exact g_icmp_eq C 1716 dL_law_1639 rfl (fun _ => g_wide (by omega) (by omega) (kk _ _ _ _ _ _ _ _ _ h1)) (fun e => absurd er e)
set_option maxRecDepth 100000 in
theorem lw_c35 {Γ : gT} {D : gD} {ca : Nat → ClassId} {oX oM : Nat → Nat} {b Ls : Nat} {xs : Nat → Int32} {Post : Option Value → va_W → Prop} {n : Nat} {T : Nat → gP} {I X : gI} {J Y : gJ} {R : gR} {L : List Nat} {S : gS} (h : Rl n T I J X Y R L S) (C : Cx Γ cL_law RL 4 D (tyW ca) room_1 (some .boolean) 600000 7302250 Post) (hX : LX Γ b Ls xs) {i : Nat} (hi : i + 7 ≤ Ls) (hL : Ls ≤ 3584) {cn sn : Nat} (hc : cn + 161 ≤ 600000) (hs : sn + 966 ≤ 7302250) (kk : lwK Γ ca oX oM b i cn sn) : G Γ cn sn 1644 (lwL oX oM b i) [] (cX ca oX X Y R L S ++ cM ca oM I J) := by
  obtain ⟨v1, e1⟩ : ∃ v, xs (nI i + nI 1).toNatClampNeg = v := ⟨_, rfl⟩
  refine g_aload_n C (i := 1) dL_law_1644 rfl rfl ?_
  refine g_aload_n C (i := 0) dL_law_1645 rfl rfl ?_
  refine g_iload_n C (i := 3) dL_law_1646 rfl rfl ?_
  refine g_iconst_1 C dL_law_1647 ?_
  refine g_iadd C dL_law_1648 ?_
  refine g_sld C hX (v := v1) (in_k (k := 1) hi hL (by decide)) e1 dL_law_1649 ?_
  refine x_callV C (ct_frameL (wX11_k_trace (D := D) (ca := ca) (o := oX) v1 X Y R L S _ (pc_trace h v1)) (cM ca oM I J)) (gSite.of (tb_in (List.mem_of_getElem? (i := 1251) (by decide +kernel)) (by decide +kernel)) (tb_in (List.mem_of_getElem? (i := 1252) (by decide +kernel)) (by decide +kernel)) (tb_in (List.mem_of_getElem? (i := 1253) (by decide +kernel)) (by decide +kernel)) (tb_in (List.mem_of_getElem? (i := 78) (by decide +kernel)) (by decide +kernel)) (tb_in (List.mem_of_getElem? (i := 1254) (by decide +kernel)) (by decide +kernel)) (by decide +kernel)) rcvX (rm_law0 (by decide) (by decide) (by omega) (by omega)) rfl (Nat.le_of_ble_eq_true rfl) (n := 1) (st := []) _ rfl dL_law_1650 (fun v ws hv => ?_)
  obtain ⟨w, ⟨r, rfl, rfl, hQ⟩, rfl⟩ := hv
  refine g_eqs (st' := [.int r]) (ws' := cX ca oX X Y R L S ++ cM ca oM I J) rfl rfl ?_
  refine g_aload_n C (i := 2) dL_law_1653 rfl rfl ?_
  refine g_aload_n C (i := 0) dL_law_1654 rfl rfl ?_
  refine g_iload_n C (i := 3) dL_law_1655 rfl rfl ?_
  refine g_iconst_1 C dL_law_1656 ?_
  refine g_iadd C dL_law_1657 ?_
  refine g_sld C hX (v := v1) (in_k (k := 1) hi hL (by decide)) e1 dL_law_1658 ?_
  refine x_callV C (ct_frameR (wM_k_trace (D := D) (ca := ca) (o := oM) v1 I J _ hQ) (cX ca oX X Y R L S)) (gSite.of (tb_in (List.mem_of_getElem? (i := 1814) (by decide +kernel)) (by decide +kernel)) (tb_in (List.mem_of_getElem? (i := 1815) (by decide +kernel)) (by decide +kernel)) (tb_in (List.mem_of_getElem? (i := 1816) (by decide +kernel)) (by decide +kernel)) (tb_in (List.mem_of_getElem? (i := 87) (by decide +kernel)) (by decide +kernel)) (tb_in (List.mem_of_getElem? (i := 1817) (by decide +kernel)) (by decide +kernel)) (by decide +kernel)) rcvM (rm_law0 (by decide) (by decide) (by omega) (by omega)) rfl (Nat.le_of_ble_eq_true rfl) (n := 1) (st := [.int r]) _ rfl dL_law_1659 (fun v ws hv => ?_)
  obtain ⟨w, ⟨r2, rfl, rfl, er⟩, rfl⟩ := hv
  refine g_eqs (st' := [.int r2, .int r]) (ws' := cX ca oX X Y R L S ++ cM ca oM I J) rfl rfl ?_
  exact g_icmp_eq C 1716 dL_law_1662 rfl (fun _ => g_wide (by omega) (by omega) (kk _ _ _ _ _ _ _ _ _ h)) (fun e => absurd er e)
set_option maxRecDepth 100000 in
theorem lw_c36 {Γ : gT} {D : gD} {ca : Nat → ClassId} {oX oM : Nat → Nat} {b Ls : Nat} {xs : Nat → Int32} {Post : Option Value → va_W → Prop} {n : Nat} {T : Nat → gP} {I X : gI} {J Y : gJ} {R : gR} {L : List Nat} {S : gS} (h : Rl n T I J X Y R L S) (C : Cx Γ cL_law RL 4 D (tyW ca) room_1 (some .boolean) 600000 7302250 Post) (hX : LX Γ b Ls xs) {i : Nat} (hi : i + 7 ≤ Ls) (hL : Ls ≤ 3584) {cn sn : Nat} (hc : cn + 161 ≤ 600000) (hs : sn + 966 ≤ 7302250) (kk : lwK Γ ca oX oM b i cn sn) : G Γ cn sn 1667 (lwL oX oM b i) [] (cX ca oX X Y R L S ++ cM ca oM I J) := by
  refine g_aload_n C (i := 1) dL_law_1667 rfl rfl ?_
  refine x_callV C (ct_frameL (wX11_k_image (D := D) (ca := ca) (o := oX)  X Y R L S _ (pc_image h )) (cM ca oM I J)) (gSite.of (tb_in (List.mem_of_getElem? (i := 1272) (by decide +kernel)) (by decide +kernel)) (tb_in (List.mem_of_getElem? (i := 1273) (by decide +kernel)) (by decide +kernel)) (tb_in (List.mem_of_getElem? (i := 1274) (by decide +kernel)) (by decide +kernel)) (tb_in (List.mem_of_getElem? (i := 78) (by decide +kernel)) (by decide +kernel)) (tb_in (List.mem_of_getElem? (i := 1275) (by decide +kernel)) (by decide +kernel)) (by decide +kernel)) rcvX (rm_law0 (by decide) (by decide) (by omega) (by omega)) rfl (Nat.le_of_ble_eq_true rfl) (n := 0) (st := []) _ rfl dL_law_1668 (fun v ws hv => ?_)
  obtain ⟨w, ⟨r, X1, Y1, R1, rfl, rfl, hQ⟩, rfl⟩ := hv
  refine g_eqs (st' := [.int r]) (ws' := cX ca oX X1 Y1 R1 L S ++ cM ca oM I J) rfl rfl ?_
  refine g_aload_n C (i := 2) dL_law_1671 rfl rfl ?_
  refine x_callV C (ct_frameR (wM_k_image (D := D) (ca := ca) (o := oM)  I J _ hQ) (cX ca oX X1 Y1 R1 L S)) (gSite.of (tb_in (List.mem_of_getElem? (i := 1818) (by decide +kernel)) (by decide +kernel)) (tb_in (List.mem_of_getElem? (i := 1819) (by decide +kernel)) (by decide +kernel)) (tb_in (List.mem_of_getElem? (i := 1820) (by decide +kernel)) (by decide +kernel)) (tb_in (List.mem_of_getElem? (i := 87) (by decide +kernel)) (by decide +kernel)) (tb_in (List.mem_of_getElem? (i := 1821) (by decide +kernel)) (by decide +kernel)) (by decide +kernel)) rcvM (rm_law0 (by decide) (by decide) (by omega) (by omega)) rfl (Nat.le_of_ble_eq_true rfl) (n := 0) (st := [.int r]) _ rfl dL_law_1672 (fun v ws hv => ?_)
  obtain ⟨w, ⟨r2, I1, J1, rfl, rfl, er, n1, T1, h1⟩, rfl⟩ := hv
  refine g_eqs (st' := [.int r2, .int r]) (ws' := cX ca oX X1 Y1 R1 L S ++ cM ca oM I1 J1) rfl rfl ?_
  exact g_icmp_eq C 1716 dL_law_1675 rfl (fun _ => g_wide (by omega) (by omega) (kk _ _ _ _ _ _ _ _ _ h1)) (fun e => absurd er e)
set_option maxRecDepth 100000 in
theorem lw_c37 {Γ : gT} {D : gD} {ca : Nat → ClassId} {oX oM : Nat → Nat} {b Ls : Nat} {xs : Nat → Int32} {Post : Option Value → va_W → Prop} {n : Nat} {T : Nat → gP} {I X : gI} {J Y : gJ} {R : gR} {L : List Nat} {S : gS} (h : Rl n T I J X Y R L S) (C : Cx Γ cL_law RL 4 D (tyW ca) room_1 (some .boolean) 600000 7302250 Post) (hX : LX Γ b Ls xs) {i : Nat} (hi : i + 7 ≤ Ls) (hL : Ls ≤ 3584) {cn sn : Nat} (hc : cn + 161 ≤ 600000) (hs : sn + 966 ≤ 7302250) (kk : lwK Γ ca oX oM b i cn sn) : G Γ cn sn 1680 (lwL oX oM b i) [] (cX ca oX X Y R L S ++ cM ca oM I J) := by
  refine g_aload_n C (i := 1) dL_law_1680 rfl rfl ?_
  refine x_callV C (ct_frameL (wX11_k_restore (D := D) (ca := ca) (o := oX)  X Y R L S _ (pc_restore h )) (cM ca oM I J)) (gSite.of (tb_in (List.mem_of_getElem? (i := 1276) (by decide +kernel)) (by decide +kernel)) (tb_in (List.mem_of_getElem? (i := 1277) (by decide +kernel)) (by decide +kernel)) (tb_in (List.mem_of_getElem? (i := 1278) (by decide +kernel)) (by decide +kernel)) (tb_in (List.mem_of_getElem? (i := 78) (by decide +kernel)) (by decide +kernel)) (tb_in (List.mem_of_getElem? (i := 1279) (by decide +kernel)) (by decide +kernel)) (by decide +kernel)) rcvX (rm_law0 (by decide) (by decide) (by omega) (by omega)) rfl (Nat.le_of_ble_eq_true rfl) (n := 0) (st := []) _ rfl dL_law_1681 (fun v ws hv => ?_)
  obtain ⟨w, ⟨r, X1, Y1, R1, rfl, rfl, hQ⟩, rfl⟩ := hv
  refine g_eqs (st' := [.int r]) (ws' := cX ca oX X1 Y1 R1 L S ++ cM ca oM I J) rfl rfl ?_
  refine g_aload_n C (i := 2) dL_law_1684 rfl rfl ?_
  refine x_callV C (ct_frameR (wM_k_restore (D := D) (ca := ca) (o := oM)  I J _ hQ) (cX ca oX X1 Y1 R1 L S)) (gSite.of (tb_in (List.mem_of_getElem? (i := 1822) (by decide +kernel)) (by decide +kernel)) (tb_in (List.mem_of_getElem? (i := 1823) (by decide +kernel)) (by decide +kernel)) (tb_in (List.mem_of_getElem? (i := 1824) (by decide +kernel)) (by decide +kernel)) (tb_in (List.mem_of_getElem? (i := 87) (by decide +kernel)) (by decide +kernel)) (tb_in (List.mem_of_getElem? (i := 1825) (by decide +kernel)) (by decide +kernel)) (by decide +kernel)) rcvM (rm_law0 (by decide) (by decide) (by omega) (by omega)) rfl (Nat.le_of_ble_eq_true rfl) (n := 0) (st := [.int r]) _ rfl dL_law_1685 (fun v ws hv => ?_)
  obtain ⟨w, ⟨r2, I1, J1, rfl, rfl, er, n1, T1, h1⟩, rfl⟩ := hv
  refine g_eqs (st' := [.int r2, .int r]) (ws' := cX ca oX X1 Y1 R1 L S ++ cM ca oM I1 J1) rfl rfl ?_
  exact g_icmp_eq C 1716 dL_law_1688 rfl (fun _ => g_wide (by omega) (by omega) (kk _ _ _ _ _ _ _ _ _ h1)) (fun e => absurd er e)
set_option maxRecDepth 100000 in
theorem lw_c38 {Γ : gT} {D : gD} {ca : Nat → ClassId} {oX oM : Nat → Nat} {b Ls : Nat} {xs : Nat → Int32} {Post : Option Value → va_W → Prop} {n : Nat} {T : Nat → gP} {I X : gI} {J Y : gJ} {R : gR} {L : List Nat} {S : gS} (h : Rl n T I J X Y R L S) (C : Cx Γ cL_law RL 4 D (tyW ca) room_1 (some .boolean) 600000 7302250 Post) (hX : LX Γ b Ls xs) {i : Nat} (hi : i + 7 ≤ Ls) (hL : Ls ≤ 3584) {cn sn : Nat} (hc : cn + 161 ≤ 600000) (hs : sn + 966 ≤ 7302250) (kk : lwK Γ ca oX oM b i cn sn) : G Γ cn sn 1693 (lwL oX oM b i) [] (cX ca oX X Y R L S ++ cM ca oM I J) := by
  obtain ⟨v1, e1⟩ : ∃ v, xs (nI i + nI 1).toNatClampNeg = v := ⟨_, rfl⟩
  refine g_aload_n C (i := 1) dL_law_1693 rfl rfl ?_
  refine g_aload_n C (i := 0) dL_law_1694 rfl rfl ?_
  refine g_iload_n C (i := 3) dL_law_1695 rfl rfl ?_
  refine g_iconst_1 C dL_law_1696 ?_
  refine g_iadd C dL_law_1697 ?_
  refine g_sld C hX (v := v1) (in_k (k := 1) hi hL (by decide)) e1 dL_law_1698 ?_
  refine x_callV C (ct_frameL (wX11_k_status (D := D) (ca := ca) (o := oX) v1 X Y R L S _ (pc_status h v1)) (cM ca oM I J)) (gSite.of (tb_in (List.mem_of_getElem? (i := 1280) (by decide +kernel)) (by decide +kernel)) (tb_in (List.mem_of_getElem? (i := 1281) (by decide +kernel)) (by decide +kernel)) (tb_in (List.mem_of_getElem? (i := 1282) (by decide +kernel)) (by decide +kernel)) (tb_in (List.mem_of_getElem? (i := 78) (by decide +kernel)) (by decide +kernel)) (tb_in (List.mem_of_getElem? (i := 1283) (by decide +kernel)) (by decide +kernel)) (by decide +kernel)) rcvX (rm_law0 (by decide) (by decide) (by omega) (by omega)) rfl (Nat.le_of_ble_eq_true rfl) (n := 1) (st := []) _ rfl dL_law_1699 (fun v ws hv => ?_)
  obtain ⟨w, ⟨r, rfl, rfl, hQ⟩, rfl⟩ := hv
  refine g_eqs (st' := [.int r]) (ws' := cX ca oX X Y R L S ++ cM ca oM I J) rfl rfl ?_
  refine g_aload_n C (i := 2) dL_law_1702 rfl rfl ?_
  refine g_aload_n C (i := 0) dL_law_1703 rfl rfl ?_
  refine g_iload_n C (i := 3) dL_law_1704 rfl rfl ?_
  refine g_iconst_1 C dL_law_1705 ?_
  refine g_iadd C dL_law_1706 ?_
  refine g_sld C hX (v := v1) (in_k (k := 1) hi hL (by decide)) e1 dL_law_1707 ?_
  refine x_callV C (ct_frameR (wM_k_status (D := D) (ca := ca) (o := oM) v1 I J _ hQ) (cX ca oX X Y R L S)) (gSite.of (tb_in (List.mem_of_getElem? (i := 1826) (by decide +kernel)) (by decide +kernel)) (tb_in (List.mem_of_getElem? (i := 1827) (by decide +kernel)) (by decide +kernel)) (tb_in (List.mem_of_getElem? (i := 1828) (by decide +kernel)) (by decide +kernel)) (tb_in (List.mem_of_getElem? (i := 87) (by decide +kernel)) (by decide +kernel)) (tb_in (List.mem_of_getElem? (i := 1829) (by decide +kernel)) (by decide +kernel)) (by decide +kernel)) rcvM (rm_law0 (by decide) (by decide) (by omega) (by omega)) rfl (Nat.le_of_ble_eq_true rfl) (n := 1) (st := [.int r]) _ rfl dL_law_1708 (fun v ws hv => ?_)
  obtain ⟨w, ⟨r2, rfl, rfl, er⟩, rfl⟩ := hv
  refine g_eqs (st' := [.int r2, .int r]) (ws' := cX ca oX X Y R L S ++ cM ca oM I J) rfl rfl ?_
  exact g_icmp_eq C 1716 dL_law_1711 rfl (fun _ => g_wide (by omega) (by omega) (kk _ _ _ _ _ _ _ _ _ h)) (fun e => absurd er e)
