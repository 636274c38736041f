theorem dL_law_1308 : decode cL_law 1308 = .ok (.aload_n 1, 1) := by decide +kernel
theorem dL_law_1309 : decode cL_law 1309 = .ok (.aload_n 0, 1) := by decide +kernel
theorem dL_law_1310 : decode cL_law 1310 = .ok (.iload_n 3, 1) := by decide +kernel
theorem dL_law_1311 : decode cL_law 1311 = .ok (.iconst 1, 1) := by decide +kernel
theorem dL_law_1312 : decode cL_law 1312 = .ok (.iadd, 1) := by decide +kernel
theorem dL_law_1313 : decode cL_law 1313 = .ok (.iaload, 1) := by decide +kernel
theorem dL_law_1314 : decode cL_law 1314 = .ok (.aload_n 0, 1) := by decide +kernel
theorem dL_law_1315 : decode cL_law 1315 = .ok (.iload_n 3, 1) := by decide +kernel
theorem dL_law_1316 : decode cL_law 1316 = .ok (.iconst 2, 1) := by decide +kernel
theorem dL_law_1317 : decode cL_law 1317 = .ok (.iadd, 1) := by decide +kernel
theorem dL_law_1318 : decode cL_law 1318 = .ok (.iaload, 1) := by decide +kernel
theorem dL_law_1319 : decode cL_law 1319 = .ok (.aload_n 0, 1) := by decide +kernel
theorem dL_law_1320 : decode cL_law 1320 = .ok (.iload_n 3, 1) := by decide +kernel
theorem dL_law_1321 : decode cL_law 1321 = .ok (.iconst 3, 1) := by decide +kernel
theorem dL_law_1322 : decode cL_law 1322 = .ok (.iadd, 1) := by decide +kernel
theorem dL_law_1323 : decode cL_law 1323 = .ok (.iaload, 1) := by decide +kernel
theorem dL_law_1324 : decode cL_law 1324 = .ok (.invokevirtual 153, 3) := by decide +kernel
theorem wm_1530 : (Jvm.Cond.methodLink "GrownKindsLaw" (153 : Nat) ({ cls := "GrownKinds", name := "shared", desc := "(III)I" } : Jvm.MethodName)) ∈ gT := gT_in (List.mem_of_getElem? (i := 1530) (by decide +kernel)) (by decide +kernel)
theorem wm_1531 : (Jvm.Cond.instanceMethod ({ cls := "GrownKinds", name := "shared", desc := "(III)I" } : Jvm.MethodName)) ∈ gT := gT_in (List.mem_of_getElem? (i := 1531) (by decide +kernel)) (by decide +kernel)
theorem wm_1532 : (Jvm.Cond.selects "GrownKinds" ({ cls := "GrownKinds", name := "shared", desc := "(III)I" } : Jvm.MethodName) ({ cls := "GrownKinds", name := "shared", desc := "(III)I" } : Jvm.MethodName)) ∈ gT := gT_in (List.mem_of_getElem? (i := 1532) (by decide +kernel)) (by decide +kernel)
theorem wm_1533 : (Jvm.Cond.code ({ cls := "GrownKinds", name := "shared", desc := "(III)I" } : Jvm.MethodName) prog_1_method_44_code (8 : Nat) (Option.some Jvm.ClassFile.FieldType.int)) ∈ gT := gT_in (List.mem_of_getElem? (i := 1533) (by decide +kernel)) (by decide +kernel)
theorem dL_law_1327 : decode cL_law 1327 = .ok (.aload_n 2, 1) := by decide +kernel
theorem dL_law_1328 : decode cL_law 1328 = .ok (.aload_n 0, 1) := by decide +kernel
theorem dL_law_1329 : decode cL_law 1329 = .ok (.iload_n 3, 1) := by decide +kernel
theorem dL_law_1330 : decode cL_law 1330 = .ok (.iconst 1, 1) := by decide +kernel
theorem dL_law_1331 : decode cL_law 1331 = .ok (.iadd, 1) := by decide +kernel
theorem dL_law_1332 : decode cL_law 1332 = .ok (.iaload, 1) := by decide +kernel
theorem dL_law_1333 : decode cL_law 1333 = .ok (.aload_n 0, 1) := by decide +kernel
theorem dL_law_1334 : decode cL_law 1334 = .ok (.iload_n 3, 1) := by decide +kernel
theorem dL_law_1335 : decode cL_law 1335 = .ok (.iconst 2, 1) := by decide +kernel
theorem dL_law_1336 : decode cL_law 1336 = .ok (.iadd, 1) := by decide +kernel
theorem dL_law_1337 : decode cL_law 1337 = .ok (.iaload, 1) := by decide +kernel
theorem dL_law_1338 : decode cL_law 1338 = .ok (.aload_n 0, 1) := by decide +kernel
theorem dL_law_1339 : decode cL_law 1339 = .ok (.iload_n 3, 1) := by decide +kernel
theorem dL_law_1340 : decode cL_law 1340 = .ok (.iconst 3, 1) := by decide +kernel
theorem dL_law_1341 : decode cL_law 1341 = .ok (.iadd, 1) := by decide +kernel
theorem dL_law_1342 : decode cL_law 1342 = .ok (.iaload, 1) := by decide +kernel
theorem dL_law_1343 : decode cL_law 1343 = .ok (.invokevirtual 156, 3) := by decide +kernel
theorem wm_2350 : (Jvm.Cond.methodLink "GrownKindsLaw" (156 : Nat) ({ cls := "GrownKindsModel", name := "shared", desc := "(III)I" } : Jvm.MethodName)) ∈ gT := gT_in (List.mem_of_getElem? (i := 2350) (by decide +kernel)) (by decide +kernel)
theorem wm_2351 : (Jvm.Cond.instanceMethod ({ cls := "GrownKindsModel", name := "shared", desc := "(III)I" } : Jvm.MethodName)) ∈ gT := gT_in (List.mem_of_getElem? (i := 2351) (by decide +kernel)) (by decide +kernel)
theorem wm_2352 : (Jvm.Cond.selects "GrownKindsModel" ({ cls := "GrownKindsModel", name := "shared", desc := "(III)I" } : Jvm.MethodName) ({ cls := "GrownKindsModel", name := "shared", desc := "(III)I" } : Jvm.MethodName)) ∈ gT := gT_in (List.mem_of_getElem? (i := 2352) (by decide +kernel)) (by decide +kernel)
theorem wm_2353 : (Jvm.Cond.code ({ cls := "GrownKindsModel", name := "shared", desc := "(III)I" } : Jvm.MethodName) prog_14_method_130_code (7 : Nat) (Option.some Jvm.ClassFile.FieldType.int)) ∈ gT := gT_in (List.mem_of_getElem? (i := 2353) (by decide +kernel)) (by decide +kernel)
theorem dL_law_1346 : decode cL_law 1346 = .ok (.if_icmp .eq 508, 3) := by decide +kernel
theorem dL_law_1351 : decode cL_law 1351 = .ok (.aload_n 1, 1) := by decide +kernel
theorem dL_law_1352 : decode cL_law 1352 = .ok (.aload_n 0, 1) := by decide +kernel
theorem dL_law_1353 : decode cL_law 1353 = .ok (.iload_n 3, 1) := by decide +kernel
theorem dL_law_1354 : decode cL_law 1354 = .ok (.iconst 1, 1) := by decide +kernel
theorem dL_law_1355 : decode cL_law 1355 = .ok (.iadd, 1) := by decide +kernel
theorem dL_law_1356 : decode cL_law 1356 = .ok (.iaload, 1) := by decide +kernel
theorem dL_law_1357 : decode cL_law 1357 = .ok (.aload_n 0, 1) := by decide +kernel
theorem dL_law_1358 : decode cL_law 1358 = .ok (.iload_n 3, 1) := by decide +kernel
theorem dL_law_1359 : decode cL_law 1359 = .ok (.iconst 2, 1) := by decide +kernel
theorem dL_law_1360 : decode cL_law 1360 = .ok (.iadd, 1) := by decide +kernel
theorem dL_law_1361 : decode cL_law 1361 = .ok (.iaload, 1) := by decide +kernel
theorem dL_law_1362 : decode cL_law 1362 = .ok (.invokevirtual 157, 3) := by decide +kernel
theorem wm_1534 : (Jvm.Cond.methodLink "GrownKindsLaw" (157 : Nat) ({ cls := "GrownKinds", name := "deepest", desc := "(II)I" } : Jvm.MethodName)) ∈ gT := gT_in (List.mem_of_getElem? (i := 1534) (by decide +kernel)) (by decide +kernel)
theorem wm_1535 : (Jvm.Cond.instanceMethod ({ cls := "GrownKinds", name := "deepest", desc := "(II)I" } : Jvm.MethodName)) ∈ gT := gT_in (List.mem_of_getElem? (i := 1535) (by decide +kernel)) (by decide +kernel)
theorem wm_1536 : (Jvm.Cond.selects "GrownKinds" ({ cls := "GrownKinds", name := "deepest", desc := "(II)I" } : Jvm.MethodName) ({ cls := "GrownKinds", name := "deepest", desc := "(II)I" } : Jvm.MethodName)) ∈ gT := gT_in (List.mem_of_getElem? (i := 1536) (by decide +kernel)) (by decide +kernel)
theorem wm_1537 : (Jvm.Cond.code ({ cls := "GrownKinds", name := "deepest", desc := "(II)I" } : Jvm.MethodName) prog_1_method_46_code (4 : Nat) (Option.some Jvm.ClassFile.FieldType.int)) ∈ gT := gT_in (List.mem_of_getElem? (i := 1537) (by decide +kernel)) (by decide +kernel)
theorem dL_law_1365 : decode cL_law 1365 = .ok (.aload_n 2, 1) := by decide +kernel
theorem dL_law_1366 : decode cL_law 1366 = .ok (.aload_n 0, 1) := by decide +kernel
theorem dL_law_1367 : decode cL_law 1367 = .ok (.iload_n 3, 1) := by decide +kernel
theorem dL_law_1368 : decode cL_law 1368 = .ok (.iconst 1, 1) := by decide +kernel
theorem dL_law_1369 : decode cL_law 1369 = .ok (.iadd, 1) := by decide +kernel
theorem dL_law_1370 : decode cL_law 1370 = .ok (.iaload, 1) := by decide +kernel
theorem dL_law_1371 : decode cL_law 1371 = .ok (.aload_n 0, 1) := by decide +kernel
theorem dL_law_1372 : decode cL_law 1372 = .ok (.iload_n 3, 1) := by decide +kernel
theorem dL_law_1373 : decode cL_law 1373 = .ok (.iconst 2, 1) := by decide +kernel
theorem dL_law_1374 : decode cL_law 1374 = .ok (.iadd, 1) := by decide +kernel
theorem dL_law_1375 : decode cL_law 1375 = .ok (.iaload, 1) := by decide +kernel
theorem dL_law_1376 : decode cL_law 1376 = .ok (.invokevirtual 160, 3) := by decide +kernel
theorem wm_2358 : (Jvm.Cond.methodLink "GrownKindsLaw" (160 : Nat) ({ cls := "GrownKindsModel", name := "deepest", desc := "(II)I" } : Jvm.MethodName)) ∈ gT := gT_in (List.mem_of_getElem? (i := 2358) (by decide +kernel)) (by decide +kernel)
theorem wm_2359 : (Jvm.Cond.instanceMethod ({ cls := "GrownKindsModel", name := "deepest", desc := "(II)I" } : Jvm.MethodName)) ∈ gT := gT_in (List.mem_of_getElem? (i := 2359) (by decide +kernel)) (by decide +kernel)
theorem wm_2360 : (Jvm.Cond.selects "GrownKindsModel" ({ cls := "GrownKindsModel", name := "deepest", desc := "(II)I" } : Jvm.MethodName) ({ cls := "GrownKindsModel", name := "deepest", desc := "(II)I" } : Jvm.MethodName)) ∈ gT := gT_in (List.mem_of_getElem? (i := 2360) (by decide +kernel)) (by decide +kernel)
theorem wm_2361 : (Jvm.Cond.code ({ cls := "GrownKindsModel", name := "deepest", desc := "(II)I" } : Jvm.MethodName) prog_14_method_132_code (3 : Nat) (Option.some Jvm.ClassFile.FieldType.int)) ∈ gT := gT_in (List.mem_of_getElem? (i := 2361) (by decide +kernel)) (by decide +kernel)
theorem dL_law_1379 : decode cL_law 1379 = .ok (.if_icmp .eq 475, 3) := by decide +kernel
theorem dL_law_1384 : decode cL_law 1384 = .ok (.aload_n 1, 1) := by decide +kernel
theorem dL_law_1385 : decode cL_law 1385 = .ok (.aload_n 0, 1) := by decide +kernel
theorem dL_law_1386 : decode cL_law 1386 = .ok (.iload_n 3, 1) := by decide +kernel
theorem dL_law_1387 : decode cL_law 1387 = .ok (.iconst 1, 1) := by decide +kernel
theorem dL_law_1388 : decode cL_law 1388 = .ok (.iadd, 1) := by decide +kernel
theorem dL_law_1389 : decode cL_law 1389 = .ok (.iaload, 1) := by decide +kernel
theorem dL_law_1390 : decode cL_law 1390 = .ok (.aload_n 0, 1) := by decide +kernel
theorem dL_law_1391 : decode cL_law 1391 = .ok (.iload_n 3, 1) := by decide +kernel
theorem dL_law_1392 : decode cL_law 1392 = .ok (.iconst 2, 1) := by decide +kernel
theorem dL_law_1393 : decode cL_law 1393 = .ok (.iadd, 1) := by decide +kernel
theorem dL_law_1394 : decode cL_law 1394 = .ok (.iaload, 1) := by decide +kernel
theorem dL_law_1395 : decode cL_law 1395 = .ok (.aload_n 0, 1) := by decide +kernel
theorem dL_law_1396 : decode cL_law 1396 = .ok (.iload_n 3, 1) := by decide +kernel
theorem dL_law_1397 : decode cL_law 1397 = .ok (.iconst 3, 1) := by decide +kernel
theorem dL_law_1398 : decode cL_law 1398 = .ok (.iadd, 1) := by decide +kernel
theorem dL_law_1399 : decode cL_law 1399 = .ok (.iaload, 1) := by decide +kernel
theorem dL_law_1400 : decode cL_law 1400 = .ok (.invokevirtual 161, 3) := by decide +kernel
theorem wm_1565 : (Jvm.Cond.methodLink "GrownKindsLaw" (161 : Nat) ({ cls := "GrownKinds", name := "fullest", desc := "(III)I" } : Jvm.MethodName)) ∈ gT := gT_in (List.mem_of_getElem? (i := 1565) (by decide +kernel)) (by decide +kernel)
theorem wm_1566 : (Jvm.Cond.instanceMethod ({ cls := "GrownKinds", name := "fullest", desc := "(III)I" } : Jvm.MethodName)) ∈ gT := gT_in (List.mem_of_getElem? (i := 1566) (by decide +kernel)) (by decide +kernel)
theorem wm_1567 : (Jvm.Cond.selects "GrownKinds" ({ cls := "GrownKinds", name := "fullest", desc := "(III)I" } : Jvm.MethodName) ({ cls := "GrownKinds", name := "fullest", desc := "(III)I" } : Jvm.MethodName)) ∈ gT := gT_in (List.mem_of_getElem? (i := 1567) (by decide +kernel)) (by decide +kernel)
theorem wm_1568 : (Jvm.Cond.code ({ cls := "GrownKinds", name := "fullest", desc := "(III)I" } : Jvm.MethodName) prog_1_method_47_code (5 : Nat) (Option.some Jvm.ClassFile.FieldType.int)) ∈ gT := gT_in (List.mem_of_getElem? (i := 1568) (by decide +kernel)) (by decide +kernel)
theorem dL_law_1403 : decode cL_law 1403 = .ok (.aload_n 2, 1) := by decide +kernel
theorem dL_law_1404 : decode cL_law 1404 = .ok (.aload_n 0, 1) := by decide +kernel
theorem dL_law_1405 : decode cL_law 1405 = .ok (.iload_n 3, 1) := by decide +kernel
theorem dL_law_1406 : decode cL_law 1406 = .ok (.iconst 1, 1) := by decide +kernel
theorem dL_law_1407 : decode cL_law 1407 = .ok (.iadd, 1) := by decide +kernel
theorem dL_law_1408 : decode cL_law 1408 = .ok (.iaload, 1) := by decide +kernel
theorem dL_law_1409 : decode cL_law 1409 = .ok (.aload_n 0, 1) := by decide +kernel
theorem dL_law_1410 : decode cL_law 1410 = .ok (.iload_n 3, 1) := by decide +kernel
theorem dL_law_1411 : decode cL_law 1411 = .ok (.iconst 2, 1) := by decide +kernel
theorem dL_law_1412 : decode cL_law 1412 = .ok (.iadd, 1) := by decide +kernel
theorem dL_law_1413 : decode cL_law 1413 = .ok (.iaload, 1) := by decide +kernel
theorem dL_law_1414 : decode cL_law 1414 = .ok (.aload_n 0, 1) := by decide +kernel
theorem dL_law_1415 : decode cL_law 1415 = .ok (.iload_n 3, 1) := by decide +kernel
theorem dL_law_1416 : decode cL_law 1416 = .ok (.iconst 3, 1) := by decide +kernel
theorem dL_law_1417 : decode cL_law 1417 = .ok (.iadd, 1) := by decide +kernel
theorem dL_law_1418 : decode cL_law 1418 = .ok (.iaload, 1) := by decide +kernel
theorem dL_law_1419 : decode cL_law 1419 = .ok (.invokevirtual 164, 3) := by decide +kernel
theorem wm_2366 : (Jvm.Cond.methodLink "GrownKindsLaw" (164 : Nat) ({ cls := "GrownKindsModel", name := "fullest", desc := "(III)I" } : Jvm.MethodName)) ∈ gT := gT_in (List.mem_of_getElem? (i := 2366) (by decide +kernel)) (by decide +kernel)
theorem wm_2367 : (Jvm.Cond.instanceMethod ({ cls := "GrownKindsModel", name := "fullest", desc := "(III)I" } : Jvm.MethodName)) ∈ gT := gT_in (List.mem_of_getElem? (i := 2367) (by decide +kernel)) (by decide +kernel)
theorem wm_2368 : (Jvm.Cond.selects "GrownKindsModel" ({ cls := "GrownKindsModel", name := "fullest", desc := "(III)I" } : Jvm.MethodName) ({ cls := "GrownKindsModel", name := "fullest", desc := "(III)I" } : Jvm.MethodName)) ∈ gT := gT_in (List.mem_of_getElem? (i := 2368) (by decide +kernel)) (by decide +kernel)
theorem wm_2369 : (Jvm.Cond.code ({ cls := "GrownKindsModel", name := "fullest", desc := "(III)I" } : Jvm.MethodName) prog_14_method_133_code (4 : Nat) (Option.some Jvm.ClassFile.FieldType.int)) ∈ gT := gT_in (List.mem_of_getElem? (i := 2369) (by decide +kernel)) (by decide +kernel)
theorem dL_law_1422 : decode cL_law 1422 = .ok (.if_icmp .eq 432, 3) := by decide +kernel
theorem dL_law_1427 : decode cL_law 1427 = .ok (.aload_n 1, 1) := by decide +kernel
theorem dL_law_1428 : decode cL_law 1428 = .ok (.aload_n 0, 1) := by decide +kernel
theorem dL_law_1429 : decode cL_law 1429 = .ok (.iload_n 3, 1) := by decide +kernel
theorem dL_law_1430 : decode cL_law 1430 = .ok (.iconst 1, 1) := by decide +kernel
theorem dL_law_1431 : decode cL_law 1431 = .ok (.iadd, 1) := by decide +kernel
theorem dL_law_1432 : decode cL_law 1432 = .ok (.iaload, 1) := by decide +kernel
theorem dL_law_1433 : decode cL_law 1433 = .ok (.aload_n 0, 1) := by decide +kernel
theorem dL_law_1434 : decode cL_law 1434 = .ok (.iload_n 3, 1) := by decide +kernel
theorem dL_law_1435 : decode cL_law 1435 = .ok (.iconst 2, 1) := by decide +kernel
theorem dL_law_1436 : decode cL_law 1436 = .ok (.iadd, 1) := by decide +kernel
theorem dL_law_1437 : decode cL_law 1437 = .ok (.iaload, 1) := by decide +kernel
theorem dL_law_1438 : decode cL_law 1438 = .ok (.invokevirtual 165, 3) := by decide +kernel
theorem wm_1569 : (Jvm.Cond.methodLink "GrownKindsLaw" (165 : Nat) ({ cls := "GrownKinds", name := "stiffest", desc := "(II)I" } : Jvm.MethodName)) ∈ gT := gT_in (List.mem_of_getElem? (i := 1569) (by decide +kernel)) (by decide +kernel)
theorem wm_1570 : (Jvm.Cond.instanceMethod ({ cls := "GrownKinds", name := "stiffest", desc := "(II)I" } : Jvm.MethodName)) ∈ gT := gT_in (List.mem_of_getElem? (i := 1570) (by decide +kernel)) (by decide +kernel)
theorem wm_1571 : (Jvm.Cond.selects "GrownKinds" ({ cls := "GrownKinds", name := "stiffest", desc := "(II)I" } : Jvm.MethodName) ({ cls := "GrownKinds", name := "stiffest", desc := "(II)I" } : Jvm.MethodName)) ∈ gT := gT_in (List.mem_of_getElem? (i := 1571) (by decide +kernel)) (by decide +kernel)
theorem wm_1572 : (Jvm.Cond.code ({ cls := "GrownKinds", name := "stiffest", desc := "(II)I" } : Jvm.MethodName) prog_1_method_48_code (4 : Nat) (Option.some Jvm.ClassFile.FieldType.int)) ∈ gT := gT_in (List.mem_of_getElem? (i := 1572) (by decide +kernel)) (by decide +kernel)
theorem dL_law_1441 : decode cL_law 1441 = .ok (.aload_n 2, 1) := by decide +kernel
theorem dL_law_1442 : decode cL_law 1442 = .ok (.aload_n 0, 1) := by decide +kernel
theorem dL_law_1443 : decode cL_law 1443 = .ok (.iload_n 3, 1) := by decide +kernel
theorem dL_law_1444 : decode cL_law 1444 = .ok (.iconst 1, 1) := by decide +kernel
theorem dL_law_1445 : decode cL_law 1445 = .ok (.iadd, 1) := by decide +kernel
theorem dL_law_1446 : decode cL_law 1446 = .ok (.iaload, 1) := by decide +kernel
theorem dL_law_1447 : decode cL_law 1447 = .ok (.aload_n 0, 1) := by decide +kernel
theorem dL_law_1448 : decode cL_law 1448 = .ok (.iload_n 3, 1) := by decide +kernel
theorem dL_law_1449 : decode cL_law 1449 = .ok (.iconst 2, 1) := by decide +kernel
theorem dL_law_1450 : decode cL_law 1450 = .ok (.iadd, 1) := by decide +kernel
theorem dL_law_1451 : decode cL_law 1451 = .ok (.iaload, 1) := by decide +kernel
theorem dL_law_1452 : decode cL_law 1452 = .ok (.invokevirtual 168, 3) := by decide +kernel
theorem wm_2370 : (Jvm.Cond.methodLink "GrownKindsLaw" (168 : Nat) ({ cls := "GrownKindsModel", name := "stiffest", desc := "(II)I" } : Jvm.MethodName)) ∈ gT := gT_in (List.mem_of_getElem? (i := 2370) (by decide +kernel)) (by decide +kernel)
theorem wm_2371 : (Jvm.Cond.instanceMethod ({ cls := "GrownKindsModel", name := "stiffest", desc := "(II)I" } : Jvm.MethodName)) ∈ gT := gT_in (List.mem_of_getElem? (i := 2371) (by decide +kernel)) (by decide +kernel)
theorem wm_2372 : (Jvm.Cond.selects "GrownKindsModel" ({ cls := "GrownKindsModel", name := "stiffest", desc := "(II)I" } : Jvm.MethodName) ({ cls := "GrownKindsModel", name := "stiffest", desc := "(II)I" } : Jvm.MethodName)) ∈ gT := gT_in (List.mem_of_getElem? (i := 2372) (by decide +kernel)) (by decide +kernel)
theorem wm_2373 : (Jvm.Cond.code ({ cls := "GrownKindsModel", name := "stiffest", desc := "(II)I" } : Jvm.MethodName) prog_14_method_134_code (3 : Nat) (Option.some Jvm.ClassFile.FieldType.int)) ∈ gT := gT_in (List.mem_of_getElem? (i := 2373) (by decide +kernel)) (by decide +kernel)
theorem dL_law_1455 : decode cL_law 1455 = .ok (.if_icmp .eq 399, 3) := by decide +kernel
theorem dL_law_1460 : decode cL_law 1460 = .ok (.aload_n 1, 1) := by decide +kernel
theorem dL_law_1461 : decode cL_law 1461 = .ok (.aload_n 0, 1) := by decide +kernel
theorem dL_law_1462 : decode cL_law 1462 = .ok (.iload_n 3, 1) := by decide +kernel
theorem dL_law_1463 : decode cL_law 1463 = .ok (.iconst 1, 1) := by decide +kernel
theorem dL_law_1464 : decode cL_law 1464 = .ok (.iadd, 1) := by decide +kernel
theorem dL_law_1465 : decode cL_law 1465 = .ok (.iaload, 1) := by decide +kernel
theorem dL_law_1466 : decode cL_law 1466 = .ok (.aload_n 0, 1) := by decide +kernel
theorem dL_law_1467 : decode cL_law 1467 = .ok (.iload_n 3, 1) := by decide +kernel
theorem dL_law_1468 : decode cL_law 1468 = .ok (.iconst 2, 1) := by decide +kernel
theorem dL_law_1469 : decode cL_law 1469 = .ok (.iadd, 1) := by decide +kernel
theorem dL_law_1470 : decode cL_law 1470 = .ok (.iaload, 1) := by decide +kernel
theorem dL_law_1471 : decode cL_law 1471 = .ok (.aload_n 0, 1) := by decide +kernel
theorem dL_law_1472 : decode cL_law 1472 = .ok (.iload_n 3, 1) := by decide +kernel
theorem dL_law_1473 : decode cL_law 1473 = .ok (.iconst 3, 1) := by decide +kernel
theorem dL_law_1474 : decode cL_law 1474 = .ok (.iadd, 1) := by decide +kernel
theorem dL_law_1475 : decode cL_law 1475 = .ok (.iaload, 1) := by decide +kernel
theorem dL_law_1476 : decode cL_law 1476 = .ok (.aload_n 0, 1) := by decide +kernel
theorem dL_law_1477 : decode cL_law 1477 = .ok (.iload_n 3, 1) := by decide +kernel
theorem dL_law_1478 : decode cL_law 1478 = .ok (.iconst 4, 1) := by decide +kernel
theorem dL_law_1479 : decode cL_law 1479 = .ok (.iadd, 1) := by decide +kernel
theorem dL_law_1480 : decode cL_law 1480 = .ok (.iaload, 1) := by decide +kernel
theorem dL_law_1481 : decode cL_law 1481 = .ok (.invokevirtual 169, 3) := by decide +kernel
theorem wm_1573 : (Jvm.Cond.methodLink "GrownKindsLaw" (169 : Nat) ({ cls := "GrownKinds", name := "chance", desc := "(IIII)I" } : Jvm.MethodName)) ∈ gT := gT_in (List.mem_of_getElem? (i := 1573) (by decide +kernel)) (by decide +kernel)
theorem wm_1574 : (Jvm.Cond.instanceMethod ({ cls := "GrownKinds", name := "chance", desc := "(IIII)I" } : Jvm.MethodName)) ∈ gT := gT_in (List.mem_of_getElem? (i := 1574) (by decide +kernel)) (by decide +kernel)
theorem wm_1575 : (Jvm.Cond.selects "GrownKinds" ({ cls := "GrownKinds", name := "chance", desc := "(IIII)I" } : Jvm.MethodName) ({ cls := "GrownKinds", name := "chance", desc := "(IIII)I" } : Jvm.MethodName)) ∈ gT := gT_in (List.mem_of_getElem? (i := 1575) (by decide +kernel)) (by decide +kernel)
theorem wm_1576 : (Jvm.Cond.code ({ cls := "GrownKinds", name := "chance", desc := "(IIII)I" } : Jvm.MethodName) prog_1_method_49_code (6 : Nat) (Option.some Jvm.ClassFile.FieldType.int)) ∈ gT := gT_in (List.mem_of_getElem? (i := 1576) (by decide +kernel)) (by decide +kernel)
theorem dL_law_1484 : decode cL_law 1484 = .ok (.aload_n 2, 1) := by decide +kernel
theorem dL_law_1485 : decode cL_law 1485 = .ok (.aload_n 0, 1) := by decide +kernel
theorem dL_law_1486 : decode cL_law 1486 = .ok (.iload_n 3, 1) := by decide +kernel
theorem dL_law_1487 : decode cL_law 1487 = .ok (.iconst 1, 1) := by decide +kernel
theorem dL_law_1488 : decode cL_law 1488 = .ok (.iadd, 1) := by decide +kernel
theorem dL_law_1489 : decode cL_law 1489 = .ok (.iaload, 1) := by decide +kernel
theorem dL_law_1490 : decode cL_law 1490 = .ok (.aload_n 0, 1) := by decide +kernel
theorem dL_law_1491 : decode cL_law 1491 = .ok (.iload_n 3, 1) := by decide +kernel
theorem dL_law_1492 : decode cL_law 1492 = .ok (.iconst 2, 1) := by decide +kernel
theorem dL_law_1493 : decode cL_law 1493 = .ok (.iadd, 1) := by decide +kernel
theorem dL_law_1494 : decode cL_law 1494 = .ok (.iaload, 1) := by decide +kernel
theorem dL_law_1495 : decode cL_law 1495 = .ok (.aload_n 0, 1) := by decide +kernel
theorem dL_law_1496 : decode cL_law 1496 = .ok (.iload_n 3, 1) := by decide +kernel
theorem dL_law_1497 : decode cL_law 1497 = .ok (.iconst 3, 1) := by decide +kernel
theorem dL_law_1498 : decode cL_law 1498 = .ok (.iadd, 1) := by decide +kernel
theorem dL_law_1499 : decode cL_law 1499 = .ok (.iaload, 1) := by decide +kernel
theorem dL_law_1500 : decode cL_law 1500 = .ok (.aload_n 0, 1) := by decide +kernel
theorem dL_law_1501 : decode cL_law 1501 = .ok (.iload_n 3, 1) := by decide +kernel
theorem dL_law_1502 : decode cL_law 1502 = .ok (.iconst 4, 1) := by decide +kernel
theorem dL_law_1503 : decode cL_law 1503 = .ok (.iadd, 1) := by decide +kernel
theorem dL_law_1504 : decode cL_law 1504 = .ok (.iaload, 1) := by decide +kernel
theorem dL_law_1505 : decode cL_law 1505 = .ok (.invokevirtual 172, 3) := by decide +kernel
theorem wm_2374 : (Jvm.Cond.methodLink "GrownKindsLaw" (172 : Nat) ({ cls := "GrownKindsModel", name := "chance", desc := "(IIII)I" } : Jvm.MethodName)) ∈ gT := gT_in (List.mem_of_getElem? (i := 2374) (by decide +kernel)) (by decide +kernel)
theorem wm_2375 : (Jvm.Cond.instanceMethod ({ cls := "GrownKindsModel", name := "chance", desc := "(IIII)I" } : Jvm.MethodName)) ∈ gT := gT_in (List.mem_of_getElem? (i := 2375) (by decide +kernel)) (by decide +kernel)
theorem wm_2376 : (Jvm.Cond.selects "GrownKindsModel" ({ cls := "GrownKindsModel", name := "chance", desc := "(IIII)I" } : Jvm.MethodName) ({ cls := "GrownKindsModel", name := "chance", desc := "(IIII)I" } : Jvm.MethodName)) ∈ gT := gT_in (List.mem_of_getElem? (i := 2376) (by decide +kernel)) (by decide +kernel)
theorem wm_2377 : (Jvm.Cond.code ({ cls := "GrownKindsModel", name := "chance", desc := "(IIII)I" } : Jvm.MethodName) prog_14_method_137_code (6 : Nat) (Option.some Jvm.ClassFile.FieldType.int)) ∈ gT := gT_in (List.mem_of_getElem? (i := 2377) (by decide +kernel)) (by decide +kernel)
theorem dL_law_1508 : decode cL_law 1508 = .ok (.if_icmp .eq 346, 3) := by decide +kernel
theorem dL_law_1513 : decode cL_law 1513 = .ok (.aload_n 1, 1) := by decide +kernel
theorem dL_law_1514 : decode cL_law 1514 = .ok (.aload_n 0, 1) := by decide +kernel
theorem dL_law_1515 : decode cL_law 1515 = .ok (.iload_n 3, 1) := by decide +kernel
theorem dL_law_1516 : decode cL_law 1516 = .ok (.iconst 1, 1) := by decide +kernel
theorem dL_law_1517 : decode cL_law 1517 = .ok (.iadd, 1) := by decide +kernel
theorem dL_law_1518 : decode cL_law 1518 = .ok (.iaload, 1) := by decide +kernel
theorem dL_law_1519 : decode cL_law 1519 = .ok (.aload_n 0, 1) := by decide +kernel
theorem dL_law_1520 : decode cL_law 1520 = .ok (.iload_n 3, 1) := by decide +kernel
theorem dL_law_1521 : decode cL_law 1521 = .ok (.iconst 2, 1) := by decide +kernel
theorem dL_law_1522 : decode cL_law 1522 = .ok (.iadd, 1) := by decide +kernel
theorem dL_law_1523 : decode cL_law 1523 = .ok (.iaload, 1) := by decide +kernel
theorem dL_law_1524 : decode cL_law 1524 = .ok (.aload_n 0, 1) := by decide +kernel
theorem dL_law_1525 : decode cL_law 1525 = .ok (.iload_n 3, 1) := by decide +kernel
theorem dL_law_1526 : decode cL_law 1526 = .ok (.iconst 3, 1) := by decide +kernel
theorem dL_law_1527 : decode cL_law 1527 = .ok (.iadd, 1) := by decide +kernel
theorem dL_law_1528 : decode cL_law 1528 = .ok (.iaload, 1) := by decide +kernel
theorem dL_law_1529 : decode cL_law 1529 = .ok (.aload_n 0, 1) := by decide +kernel
theorem dL_law_1530 : decode cL_law 1530 = .ok (.iload_n 3, 1) := by decide +kernel
theorem dL_law_1531 : decode cL_law 1531 = .ok (.iconst 4, 1) := by decide +kernel
theorem dL_law_1532 : decode cL_law 1532 = .ok (.iadd, 1) := by decide +kernel
theorem dL_law_1533 : decode cL_law 1533 = .ok (.iaload, 1) := by decide +kernel
theorem dL_law_1534 : decode cL_law 1534 = .ok (.invokevirtual 173, 3) := by decide +kernel
theorem wm_1580 : (Jvm.Cond.methodLink "GrownKindsLaw" (173 : Nat) ({ cls := "GrownKinds", name := "mean", desc := "(IIII)I" } : Jvm.MethodName)) ∈ gT := gT_in (List.mem_of_getElem? (i := 1580) (by decide +kernel)) (by decide +kernel)
theorem wm_1581 : (Jvm.Cond.instanceMethod ({ cls := "GrownKinds", name := "mean", desc := "(IIII)I" } : Jvm.MethodName)) ∈ gT := gT_in (List.mem_of_getElem? (i := 1581) (by decide +kernel)) (by decide +kernel)
theorem wm_1582 : (Jvm.Cond.selects "GrownKinds" ({ cls := "GrownKinds", name := "mean", desc := "(IIII)I" } : Jvm.MethodName) ({ cls := "GrownKinds", name := "mean", desc := "(IIII)I" } : Jvm.MethodName)) ∈ gT := gT_in (List.mem_of_getElem? (i := 1582) (by decide +kernel)) (by decide +kernel)
theorem wm_1583 : (Jvm.Cond.code ({ cls := "GrownKinds", name := "mean", desc := "(IIII)I" } : Jvm.MethodName) prog_1_method_50_code (6 : Nat) (Option.some Jvm.ClassFile.FieldType.int)) ∈ gT := gT_in (List.mem_of_getElem? (i := 1583) (by decide +kernel)) (by decide +kernel)
theorem dL_law_1537 : decode cL_law 1537 = .ok (.aload_n 2, 1) := by decide +kernel
theorem dL_law_1538 : decode cL_law 1538 = .ok (.aload_n 0, 1) := by decide +kernel
theorem dL_law_1539 : decode cL_law 1539 = .ok (.iload_n 3, 1) := by decide +kernel
theorem dL_law_1540 : decode cL_law 1540 = .ok (.iconst 1, 1) := by decide +kernel
theorem dL_law_1541 : decode cL_law 1541 = .ok (.iadd, 1) := by decide +kernel
theorem dL_law_1542 : decode cL_law 1542 = .ok (.iaload, 1) := by decide +kernel
theorem dL_law_1543 : decode cL_law 1543 = .ok (.aload_n 0, 1) := by decide +kernel
theorem dL_law_1544 : decode cL_law 1544 = .ok (.iload_n 3, 1) := by decide +kernel
theorem dL_law_1545 : decode cL_law 1545 = .ok (.iconst 2, 1) := by decide +kernel
theorem dL_law_1546 : decode cL_law 1546 = .ok (.iadd, 1) := by decide +kernel
theorem dL_law_1547 : decode cL_law 1547 = .ok (.iaload, 1) := by decide +kernel
theorem dL_law_1548 : decode cL_law 1548 = .ok (.aload_n 0, 1) := by decide +kernel
theorem dL_law_1549 : decode cL_law 1549 = .ok (.iload_n 3, 1) := by decide +kernel
theorem dL_law_1550 : decode cL_law 1550 = .ok (.iconst 3, 1) := by decide +kernel
theorem dL_law_1551 : decode cL_law 1551 = .ok (.iadd, 1) := by decide +kernel
theorem dL_law_1552 : decode cL_law 1552 = .ok (.iaload, 1) := by decide +kernel
theorem dL_law_1553 : decode cL_law 1553 = .ok (.aload_n 0, 1) := by decide +kernel
theorem dL_law_1554 : decode cL_law 1554 = .ok (.iload_n 3, 1) := by decide +kernel
theorem dL_law_1555 : decode cL_law 1555 = .ok (.iconst 4, 1) := by decide +kernel
theorem dL_law_1556 : decode cL_law 1556 = .ok (.iadd, 1) := by decide +kernel
theorem dL_law_1557 : decode cL_law 1557 = .ok (.iaload, 1) := by decide +kernel
theorem dL_law_1558 : decode cL_law 1558 = .ok (.invokevirtual 176, 3) := by decide +kernel
theorem wm_2384 : (Jvm.Cond.methodLink "GrownKindsLaw" (176 : Nat) ({ cls := "GrownKindsModel", name := "mean", desc := "(IIII)I" } : Jvm.MethodName)) ∈ gT := gT_in (List.mem_of_getElem? (i := 2384) (by decide +kernel)) (by decide +kernel)
theorem wm_2385 : (Jvm.Cond.instanceMethod ({ cls := "GrownKindsModel", name := "mean", desc := "(IIII)I" } : Jvm.MethodName)) ∈ gT := gT_in (List.mem_of_getElem? (i := 2385) (by decide +kernel)) (by decide +kernel)
theorem wm_2386 : (Jvm.Cond.selects "GrownKindsModel" ({ cls := "GrownKindsModel", name := "mean", desc := "(IIII)I" } : Jvm.MethodName) ({ cls := "GrownKindsModel", name := "mean", desc := "(IIII)I" } : Jvm.MethodName)) ∈ gT := gT_in (List.mem_of_getElem? (i := 2386) (by decide +kernel)) (by decide +kernel)
theorem wm_2387 : (Jvm.Cond.code ({ cls := "GrownKindsModel", name := "mean", desc := "(IIII)I" } : Jvm.MethodName) prog_14_method_138_code (8 : Nat) (Option.some Jvm.ClassFile.FieldType.int)) ∈ gT := gT_in (List.mem_of_getElem? (i := 2387) (by decide +kernel)) (by decide +kernel)
theorem dL_law_1561 : decode cL_law 1561 = .ok (.if_icmp .eq 293, 3) := by decide +kernel
theorem dL_law_1566 : decode cL_law 1566 = .ok (.aload_n 1, 1) := by decide +kernel
theorem dL_law_1567 : decode cL_law 1567 = .ok (.aload_n 0, 1) := by decide +kernel
theorem dL_law_1568 : decode cL_law 1568 = .ok (.iload_n 3, 1) := by decide +kernel
theorem dL_law_1569 : decode cL_law 1569 = .ok (.iconst 1, 1) := by decide +kernel
theorem dL_law_1570 : decode cL_law 1570 = .ok (.iadd, 1) := by decide +kernel
theorem dL_law_1571 : decode cL_law 1571 = .ok (.iaload, 1) := by decide +kernel
theorem dL_law_1572 : decode cL_law 1572 = .ok (.aload_n 0, 1) := by decide +kernel
theorem dL_law_1573 : decode cL_law 1573 = .ok (.iload_n 3, 1) := by decide +kernel
theorem dL_law_1574 : decode cL_law 1574 = .ok (.iconst 2, 1) := by decide +kernel
theorem dL_law_1575 : decode cL_law 1575 = .ok (.iadd, 1) := by decide +kernel
theorem dL_law_1576 : decode cL_law 1576 = .ok (.iaload, 1) := by decide +kernel
theorem dL_law_1577 : decode cL_law 1577 = .ok (.aload_n 0, 1) := by decide +kernel
theorem dL_law_1578 : decode cL_law 1578 = .ok (.iload_n 3, 1) := by decide +kernel
theorem dL_law_1579 : decode cL_law 1579 = .ok (.iconst 3, 1) := by decide +kernel
theorem dL_law_1580 : decode cL_law 1580 = .ok (.iadd, 1) := by decide +kernel
theorem dL_law_1581 : decode cL_law 1581 = .ok (.iaload, 1) := by decide +kernel
theorem dL_law_1582 : decode cL_law 1582 = .ok (.invokevirtual 177, 3) := by decide +kernel
theorem wm_1584 : (Jvm.Cond.methodLink "GrownKindsLaw" (177 : Nat) ({ cls := "GrownKinds", name := "boxed", desc := "(III)J" } : Jvm.MethodName)) ∈ gT := gT_in (List.mem_of_getElem? (i := 1584) (by decide +kernel)) (by decide +kernel)
theorem dL_law_1585 : decode cL_law 1585 = .ok (.aload_n 2, 1) := by decide +kernel
theorem dL_law_1586 : decode cL_law 1586 = .ok (.aload_n 0, 1) := by decide +kernel
theorem dL_law_1587 : decode cL_law 1587 = .ok (.iload_n 3, 1) := by decide +kernel
theorem dL_law_1588 : decode cL_law 1588 = .ok (.iconst 1, 1) := by decide +kernel
theorem dL_law_1589 : decode cL_law 1589 = .ok (.iadd, 1) := by decide +kernel
theorem dL_law_1590 : decode cL_law 1590 = .ok (.iaload, 1) := by decide +kernel
theorem dL_law_1591 : decode cL_law 1591 = .ok (.aload_n 0, 1) := by decide +kernel
theorem dL_law_1592 : decode cL_law 1592 = .ok (.iload_n 3, 1) := by decide +kernel
theorem dL_law_1593 : decode cL_law 1593 = .ok (.iconst 2, 1) := by decide +kernel
theorem dL_law_1594 : decode cL_law 1594 = .ok (.iadd, 1) := by decide +kernel
theorem dL_law_1595 : decode cL_law 1595 = .ok (.iaload, 1) := by decide +kernel
theorem dL_law_1596 : decode cL_law 1596 = .ok (.aload_n 0, 1) := by decide +kernel
theorem dL_law_1597 : decode cL_law 1597 = .ok (.iload_n 3, 1) := by decide +kernel
theorem dL_law_1598 : decode cL_law 1598 = .ok (.iconst 3, 1) := by decide +kernel
theorem dL_law_1599 : decode cL_law 1599 = .ok (.iadd, 1) := by decide +kernel
theorem dL_law_1600 : decode cL_law 1600 = .ok (.iaload, 1) := by decide +kernel
theorem dL_law_1601 : decode cL_law 1601 = .ok (.invokevirtual 180, 3) := by decide +kernel
theorem wm_2388 : (Jvm.Cond.methodLink "GrownKindsLaw" (180 : Nat) ({ cls := "GrownKindsModel", name := "boxed", desc := "(III)J" } : Jvm.MethodName)) ∈ gT := gT_in (List.mem_of_getElem? (i := 2388) (by decide +kernel)) (by decide +kernel)
theorem wm_2389 : (Jvm.Cond.instanceMethod ({ cls := "GrownKindsModel", name := "boxed", desc := "(III)J" } : Jvm.MethodName)) ∈ gT := gT_in (List.mem_of_getElem? (i := 2389) (by decide +kernel)) (by decide +kernel)
theorem wm_2390 : (Jvm.Cond.selects "GrownKindsModel" ({ cls := "GrownKindsModel", name := "boxed", desc := "(III)J" } : Jvm.MethodName) ({ cls := "GrownKindsModel", name := "boxed", desc := "(III)J" } : Jvm.MethodName)) ∈ gT := gT_in (List.mem_of_getElem? (i := 2390) (by decide +kernel)) (by decide +kernel)
theorem wm_2391 : (Jvm.Cond.code ({ cls := "GrownKindsModel", name := "boxed", desc := "(III)J" } : Jvm.MethodName) prog_14_method_141_code (4 : Nat) (Option.some Jvm.ClassFile.FieldType.long)) ∈ gT := gT_in (List.mem_of_getElem? (i := 2391) (by decide +kernel)) (by decide +kernel)
theorem dL_law_1604 : decode cL_law 1604 = .ok (.lcmp, 1) := by decide +kernel
theorem dL_law_1605 : decode cL_law 1605 = .ok (.ifCond .eq 249, 3) := by decide +kernel
theorem dL_law_1610 : decode cL_law 1610 = .ok (.aload_n 1, 1) := by decide +kernel
theorem dL_law_1611 : decode cL_law 1611 = .ok (.aload_n 0, 1) := by decide +kernel
theorem dL_law_1612 : decode cL_law 1612 = .ok (.iload_n 3, 1) := by decide +kernel
theorem dL_law_1613 : decode cL_law 1613 = .ok (.iconst 1, 1) := by decide +kernel
theorem dL_law_1614 : decode cL_law 1614 = .ok (.iadd, 1) := by decide +kernel
theorem dL_law_1615 : decode cL_law 1615 = .ok (.iaload, 1) := by decide +kernel
theorem dL_law_1616 : decode cL_law 1616 = .ok (.aload_n 0, 1) := by decide +kernel
theorem dL_law_1617 : decode cL_law 1617 = .ok (.iload_n 3, 1) := by decide +kernel
theorem dL_law_1618 : decode cL_law 1618 = .ok (.iconst 2, 1) := by decide +kernel
theorem dL_law_1619 : decode cL_law 1619 = .ok (.iadd, 1) := by decide +kernel
theorem dL_law_1620 : decode cL_law 1620 = .ok (.iaload, 1) := by decide +kernel
theorem dL_law_1621 : decode cL_law 1621 = .ok (.aload_n 0, 1) := by decide +kernel
theorem dL_law_1622 : decode cL_law 1622 = .ok (.iload_n 3, 1) := by decide +kernel
theorem dL_law_1623 : decode cL_law 1623 = .ok (.iconst 3, 1) := by decide +kernel
theorem dL_law_1624 : decode cL_law 1624 = .ok (.iadd, 1) := by decide +kernel
theorem dL_law_1625 : decode cL_law 1625 = .ok (.iaload, 1) := by decide +kernel
theorem dL_law_1626 : decode cL_law 1626 = .ok (.invokevirtual 181, 3) := by decide +kernel
theorem wm_1585 : (Jvm.Cond.methodLink "GrownKindsLaw" (181 : Nat) ({ cls := "GrownKinds", name := "bits", desc := "(III)I" } : Jvm.MethodName)) ∈ gT := gT_in (List.mem_of_getElem? (i := 1585) (by decide +kernel)) (by decide +kernel)
theorem wm_1586 : (Jvm.Cond.instanceMethod ({ cls := "GrownKinds", name := "bits", desc := "(III)I" } : Jvm.MethodName)) ∈ gT := gT_in (List.mem_of_getElem? (i := 1586) (by decide +kernel)) (by decide +kernel)
theorem wm_1587 : (Jvm.Cond.selects "GrownKinds" ({ cls := "GrownKinds", name := "bits", desc := "(III)I" } : Jvm.MethodName) ({ cls := "GrownKinds", name := "bits", desc := "(III)I" } : Jvm.MethodName)) ∈ gT := gT_in (List.mem_of_getElem? (i := 1587) (by decide +kernel)) (by decide +kernel)
theorem wm_1588 : (Jvm.Cond.code ({ cls := "GrownKinds", name := "bits", desc := "(III)I" } : Jvm.MethodName) prog_1_method_53_code (6 : Nat) (Option.some Jvm.ClassFile.FieldType.int)) ∈ gT := gT_in (List.mem_of_getElem? (i := 1588) (by decide +kernel)) (by decide +kernel)
theorem dL_law_1629 : decode cL_law 1629 = .ok (.aload_n 2, 1) := by decide +kernel
theorem dL_law_1630 : decode cL_law 1630 = .ok (.aload_n 0, 1) := by decide +kernel
theorem dL_law_1631 : decode cL_law 1631 = .ok (.iload_n 3, 1) := by decide +kernel
theorem dL_law_1632 : decode cL_law 1632 = .ok (.iconst 1, 1) := by decide +kernel
theorem dL_law_1633 : decode cL_law 1633 = .ok (.iadd, 1) := by decide +kernel
theorem dL_law_1634 : decode cL_law 1634 = .ok (.iaload, 1) := by decide +kernel
theorem dL_law_1635 : decode cL_law 1635 = .ok (.aload_n 0, 1) := by decide +kernel
theorem dL_law_1636 : decode cL_law 1636 = .ok (.iload_n 3, 1) := by decide +kernel
theorem dL_law_1637 : decode cL_law 1637 = .ok (.iconst 2, 1) := by decide +kernel
theorem dL_law_1638 : decode cL_law 1638 = .ok (.iadd, 1) := by decide +kernel
theorem dL_law_1639 : decode cL_law 1639 = .ok (.iaload, 1) := by decide +kernel
theorem dL_law_1640 : decode cL_law 1640 = .ok (.aload_n 0, 1) := by decide +kernel
theorem dL_law_1641 : decode cL_law 1641 = .ok (.iload_n 3, 1) := by decide +kernel
theorem dL_law_1642 : decode cL_law 1642 = .ok (.iconst 3, 1) := by decide +kernel
theorem dL_law_1643 : decode cL_law 1643 = .ok (.iadd, 1) := by decide +kernel
theorem dL_law_1644 : decode cL_law 1644 = .ok (.iaload, 1) := by decide +kernel
theorem dL_law_1645 : decode cL_law 1645 = .ok (.invokevirtual 184, 3) := by decide +kernel
theorem wm_2396 : (Jvm.Cond.methodLink "GrownKindsLaw" (184 : Nat) ({ cls := "GrownKindsModel", name := "bits", desc := "(III)I" } : Jvm.MethodName)) ∈ gT := gT_in (List.mem_of_getElem? (i := 2396) (by decide +kernel)) (by decide +kernel)
theorem wm_2397 : (Jvm.Cond.instanceMethod ({ cls := "GrownKindsModel", name := "bits", desc := "(III)I" } : Jvm.MethodName)) ∈ gT := gT_in (List.mem_of_getElem? (i := 2397) (by decide +kernel)) (by decide +kernel)
theorem wm_2398 : (Jvm.Cond.selects "GrownKindsModel" ({ cls := "GrownKindsModel", name := "bits", desc := "(III)I" } : Jvm.MethodName) ({ cls := "GrownKindsModel", name := "bits", desc := "(III)I" } : Jvm.MethodName)) ∈ gT := gT_in (List.mem_of_getElem? (i := 2398) (by decide +kernel)) (by decide +kernel)
theorem wm_2399 : (Jvm.Cond.code ({ cls := "GrownKindsModel", name := "bits", desc := "(III)I" } : Jvm.MethodName) prog_14_method_143_code (5 : Nat) (Option.some Jvm.ClassFile.FieldType.int)) ∈ gT := gT_in (List.mem_of_getElem? (i := 2399) (by decide +kernel)) (by decide +kernel)
theorem dL_law_1648 : decode cL_law 1648 = .ok (.if_icmp .eq 206, 3) := by decide +kernel
theorem dL_law_1653 : decode cL_law 1653 = .ok (.aload_n 1, 1) := by decide +kernel
theorem dL_law_1654 : decode cL_law 1654 = .ok (.aload_n 0, 1) := by decide +kernel
theorem dL_law_1655 : decode cL_law 1655 = .ok (.iload_n 3, 1) := by decide +kernel
theorem dL_law_1656 : decode cL_law 1656 = .ok (.iconst 1, 1) := by decide +kernel
theorem dL_law_1657 : decode cL_law 1657 = .ok (.iadd, 1) := by decide +kernel
theorem dL_law_1658 : decode cL_law 1658 = .ok (.iaload, 1) := by decide +kernel
theorem dL_law_1659 : decode cL_law 1659 = .ok (.aload_n 0, 1) := by decide +kernel
theorem dL_law_1660 : decode cL_law 1660 = .ok (.iload_n 3, 1) := by decide +kernel
theorem dL_law_1661 : decode cL_law 1661 = .ok (.iconst 2, 1) := by decide +kernel
theorem dL_law_1662 : decode cL_law 1662 = .ok (.iadd, 1) := by decide +kernel
theorem dL_law_1663 : decode cL_law 1663 = .ok (.iaload, 1) := by decide +kernel
theorem dL_law_1664 : decode cL_law 1664 = .ok (.aload_n 0, 1) := by decide +kernel
theorem dL_law_1665 : decode cL_law 1665 = .ok (.iload_n 3, 1) := by decide +kernel
theorem dL_law_1666 : decode cL_law 1666 = .ok (.iconst 3, 1) := by decide +kernel
theorem dL_law_1667 : decode cL_law 1667 = .ok (.iadd, 1) := by decide +kernel
theorem dL_law_1668 : decode cL_law 1668 = .ok (.iaload, 1) := by decide +kernel
theorem dL_law_1669 : decode cL_law 1669 = .ok (.aload_n 0, 1) := by decide +kernel
theorem dL_law_1670 : decode cL_law 1670 = .ok (.iload_n 3, 1) := by decide +kernel
theorem dL_law_1671 : decode cL_law 1671 = .ok (.iconst 4, 1) := by decide +kernel
theorem dL_law_1672 : decode cL_law 1672 = .ok (.iadd, 1) := by decide +kernel
theorem dL_law_1673 : decode cL_law 1673 = .ok (.iaload, 1) := by decide +kernel
theorem dL_law_1674 : decode cL_law 1674 = .ok (.aload_n 0, 1) := by decide +kernel
theorem dL_law_1675 : decode cL_law 1675 = .ok (.iload_n 3, 1) := by decide +kernel
theorem dL_law_1676 : decode cL_law 1676 = .ok (.iconst 5, 1) := by decide +kernel
theorem dL_law_1677 : decode cL_law 1677 = .ok (.iadd, 1) := by decide +kernel
theorem dL_law_1678 : decode cL_law 1678 = .ok (.iaload, 1) := by decide +kernel
theorem dL_law_1679 : decode cL_law 1679 = .ok (.invokevirtual 185, 3) := by decide +kernel
theorem wm_1593 : (Jvm.Cond.methodLink "GrownKindsLaw" (185 : Nat) ({ cls := "GrownKinds", name := "drawn", desc := "(IIIII)I" } : Jvm.MethodName)) ∈ gT := gT_in (List.mem_of_getElem? (i := 1593) (by decide +kernel)) (by decide +kernel)
theorem wm_1594 : (Jvm.Cond.instanceMethod ({ cls := "GrownKinds", name := "drawn", desc := "(IIIII)I" } : Jvm.MethodName)) ∈ gT := gT_in (List.mem_of_getElem? (i := 1594) (by decide +kernel)) (by decide +kernel)
theorem wm_1595 : (Jvm.Cond.selects "GrownKinds" ({ cls := "GrownKinds", name := "drawn", desc := "(IIIII)I" } : Jvm.MethodName) ({ cls := "GrownKinds", name := "drawn", desc := "(IIIII)I" } : Jvm.MethodName)) ∈ gT := gT_in (List.mem_of_getElem? (i := 1595) (by decide +kernel)) (by decide +kernel)
theorem wm_1596 : (Jvm.Cond.code ({ cls := "GrownKinds", name := "drawn", desc := "(IIIII)I" } : Jvm.MethodName) prog_1_method_54_code (10 : Nat) (Option.some Jvm.ClassFile.FieldType.int)) ∈ gT := gT_in (List.mem_of_getElem? (i := 1596) (by decide +kernel)) (by decide +kernel)
theorem dL_law_1682 : decode cL_law 1682 = .ok (.aload_n 2, 1) := by decide +kernel
theorem dL_law_1683 : decode cL_law 1683 = .ok (.aload_n 0, 1) := by decide +kernel
theorem dL_law_1684 : decode cL_law 1684 = .ok (.iload_n 3, 1) := by decide +kernel
theorem dL_law_1685 : decode cL_law 1685 = .ok (.iconst 1, 1) := by decide +kernel
theorem dL_law_1686 : decode cL_law 1686 = .ok (.iadd, 1) := by decide +kernel
theorem dL_law_1687 : decode cL_law 1687 = .ok (.iaload, 1) := by decide +kernel
theorem dL_law_1688 : decode cL_law 1688 = .ok (.aload_n 0, 1) := by decide +kernel
theorem dL_law_1689 : decode cL_law 1689 = .ok (.iload_n 3, 1) := by decide +kernel
theorem dL_law_1690 : decode cL_law 1690 = .ok (.iconst 2, 1) := by decide +kernel
theorem dL_law_1691 : decode cL_law 1691 = .ok (.iadd, 1) := by decide +kernel
theorem dL_law_1692 : decode cL_law 1692 = .ok (.iaload, 1) := by decide +kernel
theorem dL_law_1693 : decode cL_law 1693 = .ok (.aload_n 0, 1) := by decide +kernel
theorem dL_law_1694 : decode cL_law 1694 = .ok (.iload_n 3, 1) := by decide +kernel
theorem dL_law_1695 : decode cL_law 1695 = .ok (.iconst 3, 1) := by decide +kernel
theorem dL_law_1696 : decode cL_law 1696 = .ok (.iadd, 1) := by decide +kernel
theorem dL_law_1697 : decode cL_law 1697 = .ok (.iaload, 1) := by decide +kernel
theorem dL_law_1698 : decode cL_law 1698 = .ok (.aload_n 0, 1) := by decide +kernel
theorem dL_law_1699 : decode cL_law 1699 = .ok (.iload_n 3, 1) := by decide +kernel
theorem dL_law_1700 : decode cL_law 1700 = .ok (.iconst 4, 1) := by decide +kernel
theorem dL_law_1701 : decode cL_law 1701 = .ok (.iadd, 1) := by decide +kernel
theorem dL_law_1702 : decode cL_law 1702 = .ok (.iaload, 1) := by decide +kernel
theorem dL_law_1703 : decode cL_law 1703 = .ok (.aload_n 0, 1) := by decide +kernel
theorem dL_law_1704 : decode cL_law 1704 = .ok (.iload_n 3, 1) := by decide +kernel
theorem dL_law_1705 : decode cL_law 1705 = .ok (.iconst 5, 1) := by decide +kernel
theorem dL_law_1706 : decode cL_law 1706 = .ok (.iadd, 1) := by decide +kernel
theorem dL_law_1707 : decode cL_law 1707 = .ok (.iaload, 1) := by decide +kernel
theorem dL_law_1708 : decode cL_law 1708 = .ok (.invokevirtual 188, 3) := by decide +kernel
theorem wm_2408 : (Jvm.Cond.methodLink "GrownKindsLaw" (188 : Nat) ({ cls := "GrownKindsModel", name := "drawn", desc := "(IIIII)I" } : Jvm.MethodName)) ∈ gT := gT_in (List.mem_of_getElem? (i := 2408) (by decide +kernel)) (by decide +kernel)
theorem wm_2409 : (Jvm.Cond.instanceMethod ({ cls := "GrownKindsModel", name := "drawn", desc := "(IIIII)I" } : Jvm.MethodName)) ∈ gT := gT_in (List.mem_of_getElem? (i := 2409) (by decide +kernel)) (by decide +kernel)
theorem wm_2410 : (Jvm.Cond.selects "GrownKindsModel" ({ cls := "GrownKindsModel", name := "drawn", desc := "(IIIII)I" } : Jvm.MethodName) ({ cls := "GrownKindsModel", name := "drawn", desc := "(IIIII)I" } : Jvm.MethodName)) ∈ gT := gT_in (List.mem_of_getElem? (i := 2410) (by decide +kernel)) (by decide +kernel)
theorem wm_2411 : (Jvm.Cond.code ({ cls := "GrownKindsModel", name := "drawn", desc := "(IIIII)I" } : Jvm.MethodName) prog_14_method_145_code (11 : Nat) (Option.some Jvm.ClassFile.FieldType.int)) ∈ gT := gT_in (List.mem_of_getElem? (i := 2411) (by decide +kernel)) (by decide +kernel)
theorem dL_law_1711 : decode cL_law 1711 = .ok (.if_icmp .eq 143, 3) := by decide +kernel
theorem dL_law_1716 : decode cL_law 1716 = .ok (.aload_n 1, 1) := by decide +kernel
theorem dL_law_1717 : decode cL_law 1717 = .ok (.aload_n 0, 1) := by decide +kernel
theorem dL_law_1718 : decode cL_law 1718 = .ok (.iload_n 3, 1) := by decide +kernel
theorem dL_law_1719 : decode cL_law 1719 = .ok (.iconst 1, 1) := by decide +kernel
theorem dL_law_1720 : decode cL_law 1720 = .ok (.iadd, 1) := by decide +kernel
theorem dL_law_1721 : decode cL_law 1721 = .ok (.iaload, 1) := by decide +kernel
theorem dL_law_1722 : decode cL_law 1722 = .ok (.aload_n 0, 1) := by decide +kernel
theorem dL_law_1723 : decode cL_law 1723 = .ok (.iload_n 3, 1) := by decide +kernel
theorem dL_law_1724 : decode cL_law 1724 = .ok (.iconst 2, 1) := by decide +kernel
theorem dL_law_1725 : decode cL_law 1725 = .ok (.iadd, 1) := by decide +kernel
theorem dL_law_1726 : decode cL_law 1726 = .ok (.iaload, 1) := by decide +kernel
theorem dL_law_1727 : decode cL_law 1727 = .ok (.aload_n 0, 1) := by decide +kernel
theorem dL_law_1728 : decode cL_law 1728 = .ok (.iload_n 3, 1) := by decide +kernel
theorem dL_law_1729 : decode cL_law 1729 = .ok (.iconst 3, 1) := by decide +kernel
theorem dL_law_1730 : decode cL_law 1730 = .ok (.iadd, 1) := by decide +kernel
theorem dL_law_1731 : decode cL_law 1731 = .ok (.iaload, 1) := by decide +kernel
theorem dL_law_1732 : decode cL_law 1732 = .ok (.aload_n 0, 1) := by decide +kernel
theorem dL_law_1733 : decode cL_law 1733 = .ok (.iload_n 3, 1) := by decide +kernel
theorem dL_law_1734 : decode cL_law 1734 = .ok (.iconst 4, 1) := by decide +kernel
theorem dL_law_1735 : decode cL_law 1735 = .ok (.iadd, 1) := by decide +kernel
theorem dL_law_1736 : decode cL_law 1736 = .ok (.iaload, 1) := by decide +kernel
theorem dL_law_1737 : decode cL_law 1737 = .ok (.invokevirtual 189, 3) := by decide +kernel
theorem wm_1612 : (Jvm.Cond.methodLink "GrownKindsLaw" (189 : Nat) ({ cls := "GrownKinds", name := "deal", desc := "(IIII)I" } : Jvm.MethodName)) ∈ gT := gT_in (List.mem_of_getElem? (i := 1612) (by decide +kernel)) (by decide +kernel)
theorem wm_1613 : (Jvm.Cond.instanceMethod ({ cls := "GrownKinds", name := "deal", desc := "(IIII)I" } : Jvm.MethodName)) ∈ gT := gT_in (List.mem_of_getElem? (i := 1613) (by decide +kernel)) (by decide +kernel)
theorem wm_1614 : (Jvm.Cond.selects "GrownKinds" ({ cls := "GrownKinds", name := "deal", desc := "(IIII)I" } : Jvm.MethodName) ({ cls := "GrownKinds", name := "deal", desc := "(IIII)I" } : Jvm.MethodName)) ∈ gT := gT_in (List.mem_of_getElem? (i := 1614) (by decide +kernel)) (by decide +kernel)
theorem wm_1615 : (Jvm.Cond.code ({ cls := "GrownKinds", name := "deal", desc := "(IIII)I" } : Jvm.MethodName) prog_1_method_55_code (7 : Nat) (Option.some Jvm.ClassFile.FieldType.int)) ∈ gT := gT_in (List.mem_of_getElem? (i := 1615) (by decide +kernel)) (by decide +kernel)
theorem dL_law_1740 : decode cL_law 1740 = .ok (.aload_n 2, 1) := by decide +kernel
theorem dL_law_1741 : decode cL_law 1741 = .ok (.aload_n 0, 1) := by decide +kernel
theorem dL_law_1742 : decode cL_law 1742 = .ok (.iload_n 3, 1) := by decide +kernel
theorem dL_law_1743 : decode cL_law 1743 = .ok (.iconst 1, 1) := by decide +kernel
theorem dL_law_1744 : decode cL_law 1744 = .ok (.iadd, 1) := by decide +kernel
theorem dL_law_1745 : decode cL_law 1745 = .ok (.iaload, 1) := by decide +kernel
theorem dL_law_1746 : decode cL_law 1746 = .ok (.aload_n 0, 1) := by decide +kernel
theorem dL_law_1747 : decode cL_law 1747 = .ok (.iload_n 3, 1) := by decide +kernel
theorem dL_law_1748 : decode cL_law 1748 = .ok (.iconst 2, 1) := by decide +kernel
theorem dL_law_1749 : decode cL_law 1749 = .ok (.iadd, 1) := by decide +kernel
theorem dL_law_1750 : decode cL_law 1750 = .ok (.iaload, 1) := by decide +kernel
theorem dL_law_1751 : decode cL_law 1751 = .ok (.aload_n 0, 1) := by decide +kernel
theorem dL_law_1752 : decode cL_law 1752 = .ok (.iload_n 3, 1) := by decide +kernel
theorem dL_law_1753 : decode cL_law 1753 = .ok (.iconst 3, 1) := by decide +kernel
theorem dL_law_1754 : decode cL_law 1754 = .ok (.iadd, 1) := by decide +kernel
theorem dL_law_1755 : decode cL_law 1755 = .ok (.iaload, 1) := by decide +kernel
theorem dL_law_1756 : decode cL_law 1756 = .ok (.aload_n 0, 1) := by decide +kernel
theorem dL_law_1757 : decode cL_law 1757 = .ok (.iload_n 3, 1) := by decide +kernel
theorem dL_law_1758 : decode cL_law 1758 = .ok (.iconst 4, 1) := by decide +kernel
theorem dL_law_1759 : decode cL_law 1759 = .ok (.iadd, 1) := by decide +kernel
theorem dL_law_1760 : decode cL_law 1760 = .ok (.iaload, 1) := by decide +kernel
theorem dL_law_1761 : decode cL_law 1761 = .ok (.invokevirtual 192, 3) := by decide +kernel
theorem wm_2417 : (Jvm.Cond.methodLink "GrownKindsLaw" (192 : Nat) ({ cls := "GrownKindsModel", name := "deal", desc := "(IIII)I" } : Jvm.MethodName)) ∈ gT := gT_in (List.mem_of_getElem? (i := 2417) (by decide +kernel)) (by decide +kernel)
theorem wm_2418 : (Jvm.Cond.instanceMethod ({ cls := "GrownKindsModel", name := "deal", desc := "(IIII)I" } : Jvm.MethodName)) ∈ gT := gT_in (List.mem_of_getElem? (i := 2418) (by decide +kernel)) (by decide +kernel)
theorem wm_2419 : (Jvm.Cond.selects "GrownKindsModel" ({ cls := "GrownKindsModel", name := "deal", desc := "(IIII)I" } : Jvm.MethodName) ({ cls := "GrownKindsModel", name := "deal", desc := "(IIII)I" } : Jvm.MethodName)) ∈ gT := gT_in (List.mem_of_getElem? (i := 2419) (by decide +kernel)) (by decide +kernel)
theorem wm_2420 : (Jvm.Cond.code ({ cls := "GrownKindsModel", name := "deal", desc := "(IIII)I" } : Jvm.MethodName) prog_14_method_146_code (6 : Nat) (Option.some Jvm.ClassFile.FieldType.int)) ∈ gT := gT_in (List.mem_of_getElem? (i := 2420) (by decide +kernel)) (by decide +kernel)
theorem dL_law_1764 : decode cL_law 1764 = .ok (.if_icmp .eq 90, 3) := by decide +kernel
theorem dL_law_1769 : decode cL_law 1769 = .ok (.aload_n 1, 1) := by decide +kernel
theorem dL_law_1770 : decode cL_law 1770 = .ok (.invokevirtual 193, 3) := by decide +kernel
theorem wm_1622 : (Jvm.Cond.methodLink "GrownKindsLaw" (193 : Nat) ({ cls := "GrownKinds", name := "dealt", desc := "()I" } : Jvm.MethodName)) ∈ gT := gT_in (List.mem_of_getElem? (i := 1622) (by decide +kernel)) (by decide +kernel)
theorem wm_1623 : (Jvm.Cond.instanceMethod ({ cls := "GrownKinds", name := "dealt", desc := "()I" } : Jvm.MethodName)) ∈ gT := gT_in (List.mem_of_getElem? (i := 1623) (by decide +kernel)) (by decide +kernel)
theorem wm_1624 : (Jvm.Cond.selects "GrownKinds" ({ cls := "GrownKinds", name := "dealt", desc := "()I" } : Jvm.MethodName) ({ cls := "GrownKinds", name := "dealt", desc := "()I" } : Jvm.MethodName)) ∈ gT := gT_in (List.mem_of_getElem? (i := 1624) (by decide +kernel)) (by decide +kernel)
theorem wm_1625 : (Jvm.Cond.code ({ cls := "GrownKinds", name := "dealt", desc := "()I" } : Jvm.MethodName) prog_1_method_56_code (1 : Nat) (Option.some Jvm.ClassFile.FieldType.int)) ∈ gT := gT_in (List.mem_of_getElem? (i := 1625) (by decide +kernel)) (by decide +kernel)
theorem dL_law_1773 : decode cL_law 1773 = .ok (.aload_n 2, 1) := by decide +kernel
theorem dL_law_1774 : decode cL_law 1774 = .ok (.invokevirtual 196, 3) := by decide +kernel
theorem wm_2422 : (Jvm.Cond.methodLink "GrownKindsLaw" (196 : Nat) ({ cls := "GrownKindsModel", name := "dealt", desc := "()I" } : Jvm.MethodName)) ∈ gT := gT_in (List.mem_of_getElem? (i := 2422) (by decide +kernel)) (by decide +kernel)
theorem wm_2423 : (Jvm.Cond.instanceMethod ({ cls := "GrownKindsModel", name := "dealt", desc := "()I" } : Jvm.MethodName)) ∈ gT := gT_in (List.mem_of_getElem? (i := 2423) (by decide +kernel)) (by decide +kernel)
theorem wm_2424 : (Jvm.Cond.selects "GrownKindsModel" ({ cls := "GrownKindsModel", name := "dealt", desc := "()I" } : Jvm.MethodName) ({ cls := "GrownKindsModel", name := "dealt", desc := "()I" } : Jvm.MethodName)) ∈ gT := gT_in (List.mem_of_getElem? (i := 2424) (by decide +kernel)) (by decide +kernel)
theorem wm_2425 : (Jvm.Cond.code ({ cls := "GrownKindsModel", name := "dealt", desc := "()I" } : Jvm.MethodName) prog_14_method_147_code (3 : Nat) (Option.some Jvm.ClassFile.FieldType.int)) ∈ gT := gT_in (List.mem_of_getElem? (i := 2425) (by decide +kernel)) (by decide +kernel)
theorem dL_law_1777 : decode cL_law 1777 = .ok (.if_icmp .eq 77, 3) := by decide +kernel
theorem dL_law_1782 : decode cL_law 1782 = .ok (.aload_n 1, 1) := by decide +kernel
theorem dL_law_1783 : decode cL_law 1783 = .ok (.invokevirtual 197, 3) := by decide +kernel
theorem wm_1636 : (Jvm.Cond.methodLink "GrownKindsLaw" (197 : Nat) ({ cls := "GrownKinds", name := "left", desc := "()I" } : Jvm.MethodName)) ∈ gT := gT_in (List.mem_of_getElem? (i := 1636) (by decide +kernel)) (by decide +kernel)
theorem wm_1637 : (Jvm.Cond.instanceMethod ({ cls := "GrownKinds", name := "left", desc := "()I" } : Jvm.MethodName)) ∈ gT := gT_in (List.mem_of_getElem? (i := 1637) (by decide +kernel)) (by decide +kernel)
theorem wm_1638 : (Jvm.Cond.selects "GrownKinds" ({ cls := "GrownKinds", name := "left", desc := "()I" } : Jvm.MethodName) ({ cls := "GrownKinds", name := "left", desc := "()I" } : Jvm.MethodName)) ∈ gT := gT_in (List.mem_of_getElem? (i := 1638) (by decide +kernel)) (by decide +kernel)
theorem wm_1639 : (Jvm.Cond.code ({ cls := "GrownKinds", name := "left", desc := "()I" } : Jvm.MethodName) prog_1_method_57_code (1 : Nat) (Option.some Jvm.ClassFile.FieldType.int)) ∈ gT := gT_in (List.mem_of_getElem? (i := 1639) (by decide +kernel)) (by decide +kernel)
theorem dL_law_1786 : decode cL_law 1786 = .ok (.aload_n 2, 1) := by decide +kernel
theorem dL_law_1787 : decode cL_law 1787 = .ok (.invokevirtual 200, 3) := by decide +kernel
theorem wm_2426 : (Jvm.Cond.methodLink "GrownKindsLaw" (200 : Nat) ({ cls := "GrownKindsModel", name := "left", desc := "()I" } : Jvm.MethodName)) ∈ gT := gT_in (List.mem_of_getElem? (i := 2426) (by decide +kernel)) (by decide +kernel)
theorem wm_2427 : (Jvm.Cond.instanceMethod ({ cls := "GrownKindsModel", name := "left", desc := "()I" } : Jvm.MethodName)) ∈ gT := gT_in (List.mem_of_getElem? (i := 2427) (by decide +kernel)) (by decide +kernel)
theorem wm_2428 : (Jvm.Cond.selects "GrownKindsModel" ({ cls := "GrownKindsModel", name := "left", desc := "()I" } : Jvm.MethodName) ({ cls := "GrownKindsModel", name := "left", desc := "()I" } : Jvm.MethodName)) ∈ gT := gT_in (List.mem_of_getElem? (i := 2428) (by decide +kernel)) (by decide +kernel)
theorem wm_2429 : (Jvm.Cond.code ({ cls := "GrownKindsModel", name := "left", desc := "()I" } : Jvm.MethodName) prog_14_method_148_code (1 : Nat) (Option.some Jvm.ClassFile.FieldType.int)) ∈ gT := gT_in (List.mem_of_getElem? (i := 2429) (by decide +kernel)) (by decide +kernel)
theorem dL_law_1790 : decode cL_law 1790 = .ok (.if_icmp .eq 64, 3) := by decide +kernel
theorem dL_law_1795 : decode cL_law 1795 = .ok (.aload_n 1, 1) := by decide +kernel
theorem dL_law_1796 : decode cL_law 1796 = .ok (.aload_n 0, 1) := by decide +kernel
theorem dL_law_1797 : decode cL_law 1797 = .ok (.iload_n 3, 1) := by decide +kernel
theorem dL_law_1798 : decode cL_law 1798 = .ok (.iconst 1, 1) := by decide +kernel
theorem dL_law_1799 : decode cL_law 1799 = .ok (.iadd, 1) := by decide +kernel
theorem dL_law_1800 : decode cL_law 1800 = .ok (.iaload, 1) := by decide +kernel
theorem dL_law_1801 : decode cL_law 1801 = .ok (.aload_n 0, 1) := by decide +kernel
theorem dL_law_1802 : decode cL_law 1802 = .ok (.iload_n 3, 1) := by decide +kernel
theorem dL_law_1803 : decode cL_law 1803 = .ok (.iconst 2, 1) := by decide +kernel
theorem dL_law_1804 : decode cL_law 1804 = .ok (.iadd, 1) := by decide +kernel
theorem dL_law_1805 : decode cL_law 1805 = .ok (.iaload, 1) := by decide +kernel
theorem dL_law_1806 : decode cL_law 1806 = .ok (.invokevirtual 201, 3) := by decide +kernel
theorem wm_1640 : (Jvm.Cond.methodLink "GrownKindsLaw" (201 : Nat) ({ cls := "GrownKinds", name := "takes", desc := "(II)I" } : Jvm.MethodName)) ∈ gT := gT_in (List.mem_of_getElem? (i := 1640) (by decide +kernel)) (by decide +kernel)
theorem wm_1641 : (Jvm.Cond.instanceMethod ({ cls := "GrownKinds", name := "takes", desc := "(II)I" } : Jvm.MethodName)) ∈ gT := gT_in (List.mem_of_getElem? (i := 1641) (by decide +kernel)) (by decide +kernel)
theorem wm_1642 : (Jvm.Cond.selects "GrownKinds" ({ cls := "GrownKinds", name := "takes", desc := "(II)I" } : Jvm.MethodName) ({ cls := "GrownKinds", name := "takes", desc := "(II)I" } : Jvm.MethodName)) ∈ gT := gT_in (List.mem_of_getElem? (i := 1642) (by decide +kernel)) (by decide +kernel)
theorem wm_1643 : (Jvm.Cond.code ({ cls := "GrownKinds", name := "takes", desc := "(II)I" } : Jvm.MethodName) prog_1_method_58_code (3 : Nat) (Option.some Jvm.ClassFile.FieldType.int)) ∈ gT := gT_in (List.mem_of_getElem? (i := 1643) (by decide +kernel)) (by decide +kernel)
theorem dL_law_1809 : decode cL_law 1809 = .ok (.aload_n 2, 1) := by decide +kernel
theorem dL_law_1810 : decode cL_law 1810 = .ok (.aload_n 0, 1) := by decide +kernel
theorem dL_law_1811 : decode cL_law 1811 = .ok (.iload_n 3, 1) := by decide +kernel
theorem dL_law_1812 : decode cL_law 1812 = .ok (.iconst 1, 1) := by decide +kernel
theorem dL_law_1813 : decode cL_law 1813 = .ok (.iadd, 1) := by decide +kernel
theorem dL_law_1814 : decode cL_law 1814 = .ok (.iaload, 1) := by decide +kernel
theorem dL_law_1815 : decode cL_law 1815 = .ok (.aload_n 0, 1) := by decide +kernel
theorem dL_law_1816 : decode cL_law 1816 = .ok (.iload_n 3, 1) := by decide +kernel
theorem dL_law_1817 : decode cL_law 1817 = .ok (.iconst 2, 1) := by decide +kernel
theorem dL_law_1818 : decode cL_law 1818 = .ok (.iadd, 1) := by decide +kernel
theorem dL_law_1819 : decode cL_law 1819 = .ok (.iaload, 1) := by decide +kernel
theorem dL_law_1820 : decode cL_law 1820 = .ok (.invokevirtual 204, 3) := by decide +kernel
theorem wm_2430 : (Jvm.Cond.methodLink "GrownKindsLaw" (204 : Nat) ({ cls := "GrownKindsModel", name := "takes", desc := "(II)I" } : Jvm.MethodName)) ∈ gT := gT_in (List.mem_of_getElem? (i := 2430) (by decide +kernel)) (by decide +kernel)
theorem wm_2431 : (Jvm.Cond.instanceMethod ({ cls := "GrownKindsModel", name := "takes", desc := "(II)I" } : Jvm.MethodName)) ∈ gT := gT_in (List.mem_of_getElem? (i := 2431) (by decide +kernel)) (by decide +kernel)
theorem wm_2432 : (Jvm.Cond.selects "GrownKindsModel" ({ cls := "GrownKindsModel", name := "takes", desc := "(II)I" } : Jvm.MethodName) ({ cls := "GrownKindsModel", name := "takes", desc := "(II)I" } : Jvm.MethodName)) ∈ gT := gT_in (List.mem_of_getElem? (i := 2432) (by decide +kernel)) (by decide +kernel)
theorem wm_2433 : (Jvm.Cond.code ({ cls := "GrownKindsModel", name := "takes", desc := "(II)I" } : Jvm.MethodName) prog_14_method_149_code (3 : Nat) (Option.some Jvm.ClassFile.FieldType.int)) ∈ gT := gT_in (List.mem_of_getElem? (i := 2433) (by decide +kernel)) (by decide +kernel)
theorem dL_law_1823 : decode cL_law 1823 = .ok (.if_icmp .eq 31, 3) := by decide +kernel
theorem dL_law_1828 : decode cL_law 1828 = .ok (.aload_n 1, 1) := by decide +kernel
theorem dL_law_1829 : decode cL_law 1829 = .ok (.invokevirtual 205, 3) := by decide +kernel
theorem wm_1651 : (Jvm.Cond.methodLink "GrownKindsLaw" (205 : Nat) ({ cls := "GrownKinds", name := "undo", desc := "()I" } : Jvm.MethodName)) ∈ gT := gT_in (List.mem_of_getElem? (i := 1651) (by decide +kernel)) (by decide +kernel)
theorem wm_1652 : (Jvm.Cond.instanceMethod ({ cls := "GrownKinds", name := "undo", desc := "()I" } : Jvm.MethodName)) ∈ gT := gT_in (List.mem_of_getElem? (i := 1652) (by decide +kernel)) (by decide +kernel)
theorem wm_1653 : (Jvm.Cond.selects "GrownKinds" ({ cls := "GrownKinds", name := "undo", desc := "()I" } : Jvm.MethodName) ({ cls := "GrownKinds", name := "undo", desc := "()I" } : Jvm.MethodName)) ∈ gT := gT_in (List.mem_of_getElem? (i := 1653) (by decide +kernel)) (by decide +kernel)
theorem wm_1654 : (Jvm.Cond.code ({ cls := "GrownKinds", name := "undo", desc := "()I" } : Jvm.MethodName) prog_1_method_59_code (1 : Nat) (Option.some Jvm.ClassFile.FieldType.int)) ∈ gT := gT_in (List.mem_of_getElem? (i := 1654) (by decide +kernel)) (by decide +kernel)
theorem dL_law_1832 : decode cL_law 1832 = .ok (.aload_n 2, 1) := by decide +kernel
theorem dL_law_1833 : decode cL_law 1833 = .ok (.invokevirtual 208, 3) := by decide +kernel
theorem wm_2437 : (Jvm.Cond.methodLink "GrownKindsLaw" (208 : Nat) ({ cls := "GrownKindsModel", name := "undo", desc := "()I" } : Jvm.MethodName)) ∈ gT := gT_in (List.mem_of_getElem? (i := 2437) (by decide +kernel)) (by decide +kernel)
theorem wm_2438 : (Jvm.Cond.instanceMethod ({ cls := "GrownKindsModel", name := "undo", desc := "()I" } : Jvm.MethodName)) ∈ gT := gT_in (List.mem_of_getElem? (i := 2438) (by decide +kernel)) (by decide +kernel)
theorem wm_2439 : (Jvm.Cond.selects "GrownKindsModel" ({ cls := "GrownKindsModel", name := "undo", desc := "()I" } : Jvm.MethodName) ({ cls := "GrownKindsModel", name := "undo", desc := "()I" } : Jvm.MethodName)) ∈ gT := gT_in (List.mem_of_getElem? (i := 2439) (by decide +kernel)) (by decide +kernel)
theorem wm_2440 : (Jvm.Cond.code ({ cls := "GrownKindsModel", name := "undo", desc := "()I" } : Jvm.MethodName) prog_14_method_151_code (1 : Nat) (Option.some Jvm.ClassFile.FieldType.int)) ∈ gT := gT_in (List.mem_of_getElem? (i := 2440) (by decide +kernel)) (by decide +kernel)
theorem dL_law_1836 : decode cL_law 1836 = .ok (.if_icmp .eq 18, 3) := by decide +kernel
theorem dL_law_1841 : decode cL_law 1841 = .ok (.aload_n 1, 1) := by decide +kernel
theorem dL_law_1842 : decode cL_law 1842 = .ok (.invokevirtual 209, 3) := by decide +kernel
theorem wm_1659 : (Jvm.Cond.methodLink "GrownKindsLaw" (209 : Nat) ({ cls := "GrownKinds", name := "anew", desc := "()I" } : Jvm.MethodName)) ∈ gT := gT_in (List.mem_of_getElem? (i := 1659) (by decide +kernel)) (by decide +kernel)
theorem wm_1660 : (Jvm.Cond.instanceMethod ({ cls := "GrownKinds", name := "anew", desc := "()I" } : Jvm.MethodName)) ∈ gT := gT_in (List.mem_of_getElem? (i := 1660) (by decide +kernel)) (by decide +kernel)
theorem wm_1661 : (Jvm.Cond.selects "GrownKinds" ({ cls := "GrownKinds", name := "anew", desc := "()I" } : Jvm.MethodName) ({ cls := "GrownKinds", name := "anew", desc := "()I" } : Jvm.MethodName)) ∈ gT := gT_in (List.mem_of_getElem? (i := 1661) (by decide +kernel)) (by decide +kernel)
theorem wm_1662 : (Jvm.Cond.code ({ cls := "GrownKinds", name := "anew", desc := "()I" } : Jvm.MethodName) prog_1_method_60_code (3 : Nat) (Option.some Jvm.ClassFile.FieldType.int)) ∈ gT := gT_in (List.mem_of_getElem? (i := 1662) (by decide +kernel)) (by decide +kernel)
theorem dL_law_1845 : decode cL_law 1845 = .ok (.aload_n 2, 1) := by decide +kernel
theorem dL_law_1846 : decode cL_law 1846 = .ok (.invokevirtual 212, 3) := by decide +kernel
theorem wm_2445 : (Jvm.Cond.methodLink "GrownKindsLaw" (212 : Nat) ({ cls := "GrownKindsModel", name := "anew", desc := "()I" } : Jvm.MethodName)) ∈ gT := gT_in (List.mem_of_getElem? (i := 2445) (by decide +kernel)) (by decide +kernel)
theorem wm_2446 : (Jvm.Cond.instanceMethod ({ cls := "GrownKindsModel", name := "anew", desc := "()I" } : Jvm.MethodName)) ∈ gT := gT_in (List.mem_of_getElem? (i := 2446) (by decide +kernel)) (by decide +kernel)
theorem wm_2447 : (Jvm.Cond.selects "GrownKindsModel" ({ cls := "GrownKindsModel", name := "anew", desc := "()I" } : Jvm.MethodName) ({ cls := "GrownKindsModel", name := "anew", desc := "()I" } : Jvm.MethodName)) ∈ gT := gT_in (List.mem_of_getElem? (i := 2447) (by decide +kernel)) (by decide +kernel)
theorem wm_2448 : (Jvm.Cond.code ({ cls := "GrownKindsModel", name := "anew", desc := "()I" } : Jvm.MethodName) prog_14_method_152_code (2 : Nat) (Option.some Jvm.ClassFile.FieldType.int)) ∈ gT := gT_in (List.mem_of_getElem? (i := 2448) (by decide +kernel)) (by decide +kernel)
theorem dL_law_1849 : decode cL_law 1849 = .ok (.if_icmp .eq 5, 3) := by decide +kernel
theorem wV_GrownKindsLaw_153 : gWV "GrownKindsLaw" 153 yX11_shared cX11_shared 8 (some .int) := ⟨wm_1530, wm_1531, wm_1532, wm_177, wm_1533, by decide +kernel, by decide +kernel⟩
theorem wV_GrownKindsLaw_156 : gWV "GrownKindsLaw" 156 yX12_shared cX12_shared 7 (some .int) := ⟨wm_2350, wm_2351, wm_2352, wm_188, wm_2353, by decide +kernel, by decide +kernel⟩
def mL_32 (x1 x2 x3 x4 x5 : Int) (S0 : St) : Option St := bdG2 S0 (fun o : St => o) (mX11_shared S0 x1 x2 x3) fun r_2 S_3 => bd2 (mX12_shared S_3 x1 x2 x3) fun r_8 S_9 => nx (msk S_9 S_3) fun S_10 => gd ((inI r_2) ∧ (inI r_8)) <| if r_2 = r_8 then (some (S_10)) else (none)
set_option maxHeartbeats 4000000 in
set_option maxRecDepth 100000 in
theorem lc_32 {p : Program} {l : Launch} {e : Env} {s : State} {m : MethodId} {below : List Frame} {meth : Method} {c : Code} {q0 : Nat} {xs : Nat → Int32} {D : va_G} {cy : Nat → ClassId} {b : Nat} {L : Nat} (hL : L ≤ 3072) (C0 : lw_At p s m meth c q0 L xs) (hbA : ¬ gA b q0) {i : Int} (hi : 0 ≤ i ∧ i + 6 ≤ L) {x1 x2 x3 x4 x5 : Int} (hx1 : (xs (i + 1).toNat).toInt = x1) (hx2 : (xs (i + 2).toNat).toInt = x2) (hx3 : (xs (i + 3).toNat).toInt = x3) (hx4 : (xs (i + 4).toNat).toInt = x4) (hx5 : (xs (i + 5).toNat).toInt = x5) {S0 S1 : St} (hM : mL_32 x1 x2 x3 x4 x5 S0 = some S1) (hOM : gle S1 OM) {ce sl : Nat} {H : Heap} {locs : List Loc} (hG : gX D cy b s H locs S0 ce sl OZ OM) {ls : Array Slot} (hl : lv_has ls 4 [(3, .int (iI i)), (2, .ref (b + 80)), (1, .ref (b + 0)), (0, .ref q0)]) (kk : ∀ (ce sl : Nat) (H : Heap) (locs : List Loc) (ls : Array Slot), gX D cy b s H locs S1 ce sl OZ OM → lv_has ls 4 [(3, .int (iI i)), (2, .ref (b + 80)), (1, .ref (b + 0)), (0, .ref q0)] → W p l e room_1 s m #[Value.ref q0] below meth c H locs ce sl (lw_Z below #[Value.ref q0] s) (F0 m 1854 ls [])) : W p l e room_1 s m #[Value.ref q0] below meth c H locs ce sl (lw_Z below #[Value.ref q0] s) (F0 m 1308 ls []) := by
  have hx := C0.1
  have hb := C0.2.1
  have S := lw_S C0
  unfold mL_32 at hM
  refine lv_aload_n hx hb dL_law_1308 rfl (lv_at hl 2 rfl) ?_
  refine lv_aload_n hx hb dL_law_1309 rfl (lv_at hl 3 rfl) ?_
  refine lv_iload_n hx hb dL_law_1310 rfl (lv_at hl 0 rfl) ?_
  refine lv_iconst (v := iI 1) hx hb dL_law_1311 (by decide) ?_
  refine gi_add hx hb dL_law_1312 ?_
  refine n_sld C0 hbA hG (by omega) hx1 dL_law_1313 ?_
  refine lv_aload_n hx hb dL_law_1314 rfl (lv_at hl 3 rfl) ?_
  refine lv_iload_n hx hb dL_law_1315 rfl (lv_at hl 0 rfl) ?_
  refine lv_iconst (v := iI 2) hx hb dL_law_1316 (by decide) ?_
  refine gi_add hx hb dL_law_1317 ?_
  refine n_sld C0 hbA hG (by omega) hx2 dL_law_1318 ?_
  refine lv_aload_n hx hb dL_law_1319 rfl (lv_at hl 3 rfl) ?_
  refine lv_iload_n hx hb dL_law_1320 rfl (lv_at hl 0 rfl) ?_
  refine lv_iconst (v := iI 3) hx hb dL_law_1321 (by decide) ?_
  refine gi_add hx hb dL_law_1322 ?_
  refine n_sld C0 hbA hG (by omega) hx3 dL_law_1323 ?_
  obtain ⟨r_2, S_3, hc_1, hg_4, hg_5, hM⟩ := bdG2_some hM
  have hg_6 : gle S_3 OM := ⟨Nat.le_trans hg_5.1 hOM.1, Nat.le_trans hg_5.2 hOM.2⟩
  refine g_vi (As := [.int (iI x1), .int (iI x2), .int (iI x3)]) (rest := []) S hG.1 hG.2.1 (vX11_shared l hG.2.2.2.1 x1 x2 x3 hc_1) wV_GrownKindsLaw_153 (ec_0 (b := b) (cy := cy) (X := XD b cy S0) _) cpX11 (Nat.lt_of_lt_of_le (Nat.le_of_ble_eq_true rfl) hG.2.2.2.1) dL_law_1324 rfl hl.1 (ar := 3) (by decide +kernel) rfl ⟨Nat.le_of_ble_eq_true rfl, Nat.le_of_ble_eq_true rfl, hG.gcL hg_4 hg_6, hG.gsL hg_4 hg_6⟩ (Nat.le_of_ble_eq_true rfl) (fun rv uu H locs hp hGc => ?_)
  obtain ⟨rfl, rfl⟩ := hp
  replace hG := hG.grow hg_4 hg_6 hGc
  clear hGc
  refine lv_aload_n hx hb dL_law_1327 rfl (lv_at hl 1 rfl) ?_
  refine lv_aload_n hx hb dL_law_1328 rfl (lv_at hl 3 rfl) ?_
  refine lv_iload_n hx hb dL_law_1329 rfl (lv_at hl 0 rfl) ?_
  refine lv_iconst (v := iI 1) hx hb dL_law_1330 (by decide) ?_
  refine gi_add hx hb dL_law_1331 ?_
  refine n_sld C0 hbA hG (by omega) hx1 dL_law_1332 ?_
  refine lv_aload_n hx hb dL_law_1333 rfl (lv_at hl 3 rfl) ?_
  refine lv_iload_n hx hb dL_law_1334 rfl (lv_at hl 0 rfl) ?_
  refine lv_iconst (v := iI 2) hx hb dL_law_1335 (by decide) ?_
  refine gi_add hx hb dL_law_1336 ?_
  refine n_sld C0 hbA hG (by omega) hx2 dL_law_1337 ?_
  refine lv_aload_n hx hb dL_law_1338 rfl (lv_at hl 3 rfl) ?_
  refine lv_iload_n hx hb dL_law_1339 rfl (lv_at hl 0 rfl) ?_
  refine lv_iconst (v := iI 3) hx hb dL_law_1340 (by decide) ?_
  refine gi_add hx hb dL_law_1341 ?_
  refine n_sld C0 hbA hG (by omega) hx3 dL_law_1342 ?_
  obtain ⟨r_8, S_9, hc_7, hM⟩ := bd2_some hM
  refine g_vi (As := [.int (iI x1), .int (iI x2), .int (iI x3)]) (rest := [.int (iI r_2)]) S hG.1 hG.2.1 (vX12_shared l hG.2.2.2.1 x1 x2 x3 hc_7) wV_GrownKindsLaw_156 (ec_83 (b := b) (cy := cy) (X := XD b cy S_3) _) cpX12 (Nat.lt_of_lt_of_le (Nat.le_of_ble_eq_true rfl) hG.2.2.2.1) dL_law_1343 rfl hl.1 (ar := 3) (by decide +kernel) rfl ⟨Nat.le_of_ble_eq_true rfl, Nat.le_of_ble_eq_true rfl, hG.rcL, hG.rsL⟩ (Nat.le_of_ble_eq_true rfl) (fun rv uu H locs hp hGc => ?_)
  obtain ⟨rfl, rfl⟩ := hp
  refine wz ?_
  replace hG := hG.back hGc
  clear hGc
  obtain ⟨S_10, eS_10⟩ : ∃ q, q = msk S_9 S_3 := ⟨_, rfl⟩
  rw [← eS_10] at hG
  replace hM := nx_at hM eS_10
  clear eS_10
  obtain ⟨hg_11, hM⟩ := gd_some hM
  refine gi_icmp_eq (tgt := 1854) hx hb dL_law_1346 (by decide) hg_11.1 hg_11.2 (fun c_12 => ?_) (fun c_12 => ?_)
  · replace hM := ifp hM c_12
    cases hM
    exact kk _ _ H locs ls hG hl
  · replace hM := ifn hM c_12
    cases hM
theorem wV_GrownKindsLaw_157 : gWV "GrownKindsLaw" 157 yX11_deepest cX11_deepest 4 (some .int) := ⟨wm_1534, wm_1535, wm_1536, wm_177, wm_1537, by decide +kernel, by decide +kernel⟩
theorem wV_GrownKindsLaw_160 : gWV "GrownKindsLaw" 160 yX12_deepest cX12_deepest 3 (some .int) := ⟨wm_2358, wm_2359, wm_2360, wm_188, wm_2361, by decide +kernel, by decide +kernel⟩
def mL_33 (x1 x2 x3 x4 x5 : Int) (S0 : St) : Option St := bdG2 S0 (fun o : St => o) (mX11_deepest S0 x1 x2) fun r_2 S_3 => bd2 (mX12_deepest S_3 x1 x2) fun r_8 S_9 => nx (msk S_9 S_3) fun S_10 => gd ((inI r_2) ∧ (inI r_8)) <| if r_2 = r_8 then (some (S_10)) else (none)
set_option maxHeartbeats 4000000 in
set_option maxRecDepth 100000 in
theorem lc_33 {p : Program} {l : Launch} {e : Env} {s : State} {m : MethodId} {below : List Frame} {meth : Method} {c : Code} {q0 : Nat} {xs : Nat → Int32} {D : va_G} {cy : Nat → ClassId} {b : Nat} {L : Nat} (hL : L ≤ 3072) (C0 : lw_At p s m meth c q0 L xs) (hbA : ¬ gA b q0) {i : Int} (hi : 0 ≤ i ∧ i + 6 ≤ L) {x1 x2 x3 x4 x5 : Int} (hx1 : (xs (i + 1).toNat).toInt = x1) (hx2 : (xs (i + 2).toNat).toInt = x2) (hx3 : (xs (i + 3).toNat).toInt = x3) (hx4 : (xs (i + 4).toNat).toInt = x4) (hx5 : (xs (i + 5).toNat).toInt = x5) {S0 S1 : St} (hM : mL_33 x1 x2 x3 x4 x5 S0 = some S1) (hOM : gle S1 OM) {ce sl : Nat} {H : Heap} {locs : List Loc} (hG : gX D cy b s H locs S0 ce sl OZ OM) {ls : Array Slot} (hl : lv_has ls 4 [(3, .int (iI i)), (2, .ref (b + 80)), (1, .ref (b + 0)), (0, .ref q0)]) (kk : ∀ (ce sl : Nat) (H : Heap) (locs : List Loc) (ls : Array Slot), gX D cy b s H locs S1 ce sl OZ OM → lv_has ls 4 [(3, .int (iI i)), (2, .ref (b + 80)), (1, .ref (b + 0)), (0, .ref q0)] → W p l e room_1 s m #[Value.ref q0] below meth c H locs ce sl (lw_Z below #[Value.ref q0] s) (F0 m 1854 ls [])) : W p l e room_1 s m #[Value.ref q0] below meth c H locs ce sl (lw_Z below #[Value.ref q0] s) (F0 m 1351 ls []) := by
  have hx := C0.1
  have hb := C0.2.1
  have S := lw_S C0
  unfold mL_33 at hM
  refine lv_aload_n hx hb dL_law_1351 rfl (lv_at hl 2 rfl) ?_
  refine lv_aload_n hx hb dL_law_1352 rfl (lv_at hl 3 rfl) ?_
  refine lv_iload_n hx hb dL_law_1353 rfl (lv_at hl 0 rfl) ?_
  refine lv_iconst (v := iI 1) hx hb dL_law_1354 (by decide) ?_
  refine gi_add hx hb dL_law_1355 ?_
  refine n_sld C0 hbA hG (by omega) hx1 dL_law_1356 ?_
  refine lv_aload_n hx hb dL_law_1357 rfl (lv_at hl 3 rfl) ?_
  refine lv_iload_n hx hb dL_law_1358 rfl (lv_at hl 0 rfl) ?_
  refine lv_iconst (v := iI 2) hx hb dL_law_1359 (by decide) ?_
  refine gi_add hx hb dL_law_1360 ?_
  refine n_sld C0 hbA hG (by omega) hx2 dL_law_1361 ?_
  obtain ⟨r_2, S_3, hc_1, hg_4, hg_5, hM⟩ := bdG2_some hM
  have hg_6 : gle S_3 OM := ⟨Nat.le_trans hg_5.1 hOM.1, Nat.le_trans hg_5.2 hOM.2⟩
  refine g_vi (As := [.int (iI x1), .int (iI x2)]) (rest := []) S hG.1 hG.2.1 (vX11_deepest l hG.2.2.2.1 x1 x2 hc_1) wV_GrownKindsLaw_157 (ec_0 (b := b) (cy := cy) (X := XD b cy S0) _) cpX11 (Nat.lt_of_lt_of_le (Nat.le_of_ble_eq_true rfl) hG.2.2.2.1) dL_law_1362 rfl hl.1 (ar := 2) (by decide +kernel) rfl ⟨Nat.le_of_ble_eq_true rfl, Nat.le_of_ble_eq_true rfl, hG.gcL hg_4 hg_6, hG.gsL hg_4 hg_6⟩ (Nat.le_of_ble_eq_true rfl) (fun rv uu H locs hp hGc => ?_)
  obtain ⟨rfl, rfl⟩ := hp
  replace hG := hG.grow hg_4 hg_6 hGc
  clear hGc
  refine lv_aload_n hx hb dL_law_1365 rfl (lv_at hl 1 rfl) ?_
  refine lv_aload_n hx hb dL_law_1366 rfl (lv_at hl 3 rfl) ?_
  refine lv_iload_n hx hb dL_law_1367 rfl (lv_at hl 0 rfl) ?_
  refine lv_iconst (v := iI 1) hx hb dL_law_1368 (by decide) ?_
  refine gi_add hx hb dL_law_1369 ?_
  refine n_sld C0 hbA hG (by omega) hx1 dL_law_1370 ?_
  refine lv_aload_n hx hb dL_law_1371 rfl (lv_at hl 3 rfl) ?_
  refine lv_iload_n hx hb dL_law_1372 rfl (lv_at hl 0 rfl) ?_
  refine lv_iconst (v := iI 2) hx hb dL_law_1373 (by decide) ?_
  refine gi_add hx hb dL_law_1374 ?_
  refine n_sld C0 hbA hG (by omega) hx2 dL_law_1375 ?_
  obtain ⟨r_8, S_9, hc_7, hM⟩ := bd2_some hM
  refine g_vi (As := [.int (iI x1), .int (iI x2)]) (rest := [.int (iI r_2)]) S hG.1 hG.2.1 (vX12_deepest l hG.2.2.2.1 x1 x2 hc_7) wV_GrownKindsLaw_160 (ec_83 (b := b) (cy := cy) (X := XD b cy S_3) _) cpX12 (Nat.lt_of_lt_of_le (Nat.le_of_ble_eq_true rfl) hG.2.2.2.1) dL_law_1376 rfl hl.1 (ar := 2) (by decide +kernel) rfl ⟨Nat.le_of_ble_eq_true rfl, Nat.le_of_ble_eq_true rfl, hG.rcL, hG.rsL⟩ (Nat.le_of_ble_eq_true rfl) (fun rv uu H locs hp hGc => ?_)
  obtain ⟨rfl, rfl⟩ := hp
  refine wz ?_
  replace hG := hG.back hGc
  clear hGc
  obtain ⟨S_10, eS_10⟩ : ∃ q, q = msk S_9 S_3 := ⟨_, rfl⟩
  rw [← eS_10] at hG
  replace hM := nx_at hM eS_10
  clear eS_10
  obtain ⟨hg_11, hM⟩ := gd_some hM
  refine gi_icmp_eq (tgt := 1854) hx hb dL_law_1379 (by decide) hg_11.1 hg_11.2 (fun c_12 => ?_) (fun c_12 => ?_)
  · replace hM := ifp hM c_12
    cases hM
    exact kk _ _ H locs ls hG hl
  · replace hM := ifn hM c_12
    cases hM
theorem wV_GrownKindsLaw_161 : gWV "GrownKindsLaw" 161 yX11_fullest cX11_fullest 5 (some .int) := ⟨wm_1565, wm_1566, wm_1567, wm_177, wm_1568, by decide +kernel, by decide +kernel⟩
theorem wV_GrownKindsLaw_164 : gWV "GrownKindsLaw" 164 yX12_fullest cX12_fullest 4 (some .int) := ⟨wm_2366, wm_2367, wm_2368, wm_188, wm_2369, by decide +kernel, by decide +kernel⟩
def mL_34 (x1 x2 x3 x4 x5 : Int) (S0 : St) : Option St := bdG2 S0 (fun o : St => o) (mX11_fullest S0 x1 x2 x3) fun r_2 S_3 => bd2 (mX12_fullest S_3 x1 x2 x3) fun r_8 S_9 => nx (msk S_9 S_3) fun S_10 => gd ((inI r_2) ∧ (inI r_8)) <| if r_2 = r_8 then (some (S_10)) else (none)
set_option maxHeartbeats 4000000 in
set_option maxRecDepth 100000 in
theorem lc_34 {p : Program} {l : Launch} {e : Env} {s : State} {m : MethodId} {below : List Frame} {meth : Method} {c : Code} {q0 : Nat} {xs : Nat → Int32} {D : va_G} {cy : Nat → ClassId} {b : Nat} {L : Nat} (hL : L ≤ 3072) (C0 : lw_At p s m meth c q0 L xs) (hbA : ¬ gA b q0) {i : Int} (hi : 0 ≤ i ∧ i + 6 ≤ L) {x1 x2 x3 x4 x5 : Int} (hx1 : (xs (i + 1).toNat).toInt = x1) (hx2 : (xs (i + 2).toNat).toInt = x2) (hx3 : (xs (i + 3).toNat).toInt = x3) (hx4 : (xs (i + 4).toNat).toInt = x4) (hx5 : (xs (i + 5).toNat).toInt = x5) {S0 S1 : St} (hM : mL_34 x1 x2 x3 x4 x5 S0 = some S1) (hOM : gle S1 OM) {ce sl : Nat} {H : Heap} {locs : List Loc} (hG : gX D cy b s H locs S0 ce sl OZ OM) {ls : Array Slot} (hl : lv_has ls 4 [(3, .int (iI i)), (2, .ref (b + 80)), (1, .ref (b + 0)), (0, .ref q0)]) (kk : ∀ (ce sl : Nat) (H : Heap) (locs : List Loc) (ls : Array Slot), gX D cy b s H locs S1 ce sl OZ OM → lv_has ls 4 [(3, .int (iI i)), (2, .ref (b + 80)), (1, .ref (b + 0)), (0, .ref q0)] → W p l e room_1 s m #[Value.ref q0] below meth c H locs ce sl (lw_Z below #[Value.ref q0] s) (F0 m 1854 ls [])) : W p l e room_1 s m #[Value.ref q0] below meth c H locs ce sl (lw_Z below #[Value.ref q0] s) (F0 m 1384 ls []) := by
  have hx := C0.1
  have hb := C0.2.1
  have S := lw_S C0
  unfold mL_34 at hM
  refine lv_aload_n hx hb dL_law_1384 rfl (lv_at hl 2 rfl) ?_
  refine lv_aload_n hx hb dL_law_1385 rfl (lv_at hl 3 rfl) ?_
  refine lv_iload_n hx hb dL_law_1386 rfl (lv_at hl 0 rfl) ?_
  refine lv_iconst (v := iI 1) hx hb dL_law_1387 (by decide) ?_
  refine gi_add hx hb dL_law_1388 ?_
  refine n_sld C0 hbA hG (by omega) hx1 dL_law_1389 ?_
  refine lv_aload_n hx hb dL_law_1390 rfl (lv_at hl 3 rfl) ?_
  refine lv_iload_n hx hb dL_law_1391 rfl (lv_at hl 0 rfl) ?_
  refine lv_iconst (v := iI 2) hx hb dL_law_1392 (by decide) ?_
  refine gi_add hx hb dL_law_1393 ?_
  refine n_sld C0 hbA hG (by omega) hx2 dL_law_1394 ?_
  refine lv_aload_n hx hb dL_law_1395 rfl (lv_at hl 3 rfl) ?_
  refine lv_iload_n hx hb dL_law_1396 rfl (lv_at hl 0 rfl) ?_
  refine lv_iconst (v := iI 3) hx hb dL_law_1397 (by decide) ?_
  refine gi_add hx hb dL_law_1398 ?_
  refine n_sld C0 hbA hG (by omega) hx3 dL_law_1399 ?_
  obtain ⟨r_2, S_3, hc_1, hg_4, hg_5, hM⟩ := bdG2_some hM
  have hg_6 : gle S_3 OM := ⟨Nat.le_trans hg_5.1 hOM.1, Nat.le_trans hg_5.2 hOM.2⟩
  refine g_vi (As := [.int (iI x1), .int (iI x2), .int (iI x3)]) (rest := []) S hG.1 hG.2.1 (vX11_fullest l hG.2.2.2.1 x1 x2 x3 hc_1) wV_GrownKindsLaw_161 (ec_0 (b := b) (cy := cy) (X := XD b cy S0) _) cpX11 (Nat.lt_of_lt_of_le (Nat.le_of_ble_eq_true rfl) hG.2.2.2.1) dL_law_1400 rfl hl.1 (ar := 3) (by decide +kernel) rfl ⟨Nat.le_of_ble_eq_true rfl, Nat.le_of_ble_eq_true rfl, hG.gcL hg_4 hg_6, hG.gsL hg_4 hg_6⟩ (Nat.le_of_ble_eq_true rfl) (fun rv uu H locs hp hGc => ?_)
  obtain ⟨rfl, rfl⟩ := hp
  replace hG := hG.grow hg_4 hg_6 hGc
  clear hGc
  refine lv_aload_n hx hb dL_law_1403 rfl (lv_at hl 1 rfl) ?_
  refine lv_aload_n hx hb dL_law_1404 rfl (lv_at hl 3 rfl) ?_
  refine lv_iload_n hx hb dL_law_1405 rfl (lv_at hl 0 rfl) ?_
  refine lv_iconst (v := iI 1) hx hb dL_law_1406 (by decide) ?_
  refine gi_add hx hb dL_law_1407 ?_
  refine n_sld C0 hbA hG (by omega) hx1 dL_law_1408 ?_
  refine lv_aload_n hx hb dL_law_1409 rfl (lv_at hl 3 rfl) ?_
  refine lv_iload_n hx hb dL_law_1410 rfl (lv_at hl 0 rfl) ?_
  refine lv_iconst (v := iI 2) hx hb dL_law_1411 (by decide) ?_
  refine gi_add hx hb dL_law_1412 ?_
  refine n_sld C0 hbA hG (by omega) hx2 dL_law_1413 ?_
  refine lv_aload_n hx hb dL_law_1414 rfl (lv_at hl 3 rfl) ?_
  refine lv_iload_n hx hb dL_law_1415 rfl (lv_at hl 0 rfl) ?_
  refine lv_iconst (v := iI 3) hx hb dL_law_1416 (by decide) ?_
  refine gi_add hx hb dL_law_1417 ?_
  refine n_sld C0 hbA hG (by omega) hx3 dL_law_1418 ?_
  obtain ⟨r_8, S_9, hc_7, hM⟩ := bd2_some hM
  refine g_vi (As := [.int (iI x1), .int (iI x2), .int (iI x3)]) (rest := [.int (iI r_2)]) S hG.1 hG.2.1 (vX12_fullest l hG.2.2.2.1 x1 x2 x3 hc_7) wV_GrownKindsLaw_164 (ec_83 (b := b) (cy := cy) (X := XD b cy S_3) _) cpX12 (Nat.lt_of_lt_of_le (Nat.le_of_ble_eq_true rfl) hG.2.2.2.1) dL_law_1419 rfl hl.1 (ar := 3) (by decide +kernel) rfl ⟨Nat.le_of_ble_eq_true rfl, Nat.le_of_ble_eq_true rfl, hG.rcL, hG.rsL⟩ (Nat.le_of_ble_eq_true rfl) (fun rv uu H locs hp hGc => ?_)
  obtain ⟨rfl, rfl⟩ := hp
  refine wz ?_
  replace hG := hG.back hGc
  clear hGc
  obtain ⟨S_10, eS_10⟩ : ∃ q, q = msk S_9 S_3 := ⟨_, rfl⟩
  rw [← eS_10] at hG
  replace hM := nx_at hM eS_10
  clear eS_10
  obtain ⟨hg_11, hM⟩ := gd_some hM
  refine gi_icmp_eq (tgt := 1854) hx hb dL_law_1422 (by decide) hg_11.1 hg_11.2 (fun c_12 => ?_) (fun c_12 => ?_)
  · replace hM := ifp hM c_12
    cases hM
    exact kk _ _ H locs ls hG hl
  · replace hM := ifn hM c_12
    cases hM
theorem wV_GrownKindsLaw_165 : gWV "GrownKindsLaw" 165 yX11_stiffest cX11_stiffest 4 (some .int) := ⟨wm_1569, wm_1570, wm_1571, wm_177, wm_1572, by decide +kernel, by decide +kernel⟩
theorem wV_GrownKindsLaw_168 : gWV "GrownKindsLaw" 168 yX12_stiffest cX12_stiffest 3 (some .int) := ⟨wm_2370, wm_2371, wm_2372, wm_188, wm_2373, by decide +kernel, by decide +kernel⟩
def mL_35 (x1 x2 x3 x4 x5 : Int) (S0 : St) : Option St := bdG2 S0 (fun o : St => o) (mX11_stiffest S0 x1 x2) fun r_2 S_3 => bd2 (mX12_stiffest S_3 x1 x2) fun r_8 S_9 => nx (msk S_9 S_3) fun S_10 => gd ((inI r_2) ∧ (inI r_8)) <| if r_2 = r_8 then (some (S_10)) else (none)
set_option maxHeartbeats 4000000 in
set_option maxRecDepth 100000 in
theorem lc_35 {p : Program} {l : Launch} {e : Env} {s : State} {m : MethodId} {below : List Frame} {meth : Method} {c : Code} {q0 : Nat} {xs : Nat → Int32} {D : va_G} {cy : Nat → ClassId} {b : Nat} {L : Nat} (hL : L ≤ 3072) (C0 : lw_At p s m meth c q0 L xs) (hbA : ¬ gA b q0) {i : Int} (hi : 0 ≤ i ∧ i + 6 ≤ L) {x1 x2 x3 x4 x5 : Int} (hx1 : (xs (i + 1).toNat).toInt = x1) (hx2 : (xs (i + 2).toNat).toInt = x2) (hx3 : (xs (i + 3).toNat).toInt = x3) (hx4 : (xs (i + 4).toNat).toInt = x4) (hx5 : (xs (i + 5).toNat).toInt = x5) {S0 S1 : St} (hM : mL_35 x1 x2 x3 x4 x5 S0 = some S1) (hOM : gle S1 OM) {ce sl : Nat} {H : Heap} {locs : List Loc} (hG : gX D cy b s H locs S0 ce sl OZ OM) {ls : Array Slot} (hl : lv_has ls 4 [(3, .int (iI i)), (2, .ref (b + 80)), (1, .ref (b + 0)), (0, .ref q0)]) (kk : ∀ (ce sl : Nat) (H : Heap) (locs : List Loc) (ls : Array Slot), gX D cy b s H locs S1 ce sl OZ OM → lv_has ls 4 [(3, .int (iI i)), (2, .ref (b + 80)), (1, .ref (b + 0)), (0, .ref q0)] → W p l e room_1 s m #[Value.ref q0] below meth c H locs ce sl (lw_Z below #[Value.ref q0] s) (F0 m 1854 ls [])) : W p l e room_1 s m #[Value.ref q0] below meth c H locs ce sl (lw_Z below #[Value.ref q0] s) (F0 m 1427 ls []) := by
  have hx := C0.1
  have hb := C0.2.1
  have S := lw_S C0
  unfold mL_35 at hM
  refine lv_aload_n hx hb dL_law_1427 rfl (lv_at hl 2 rfl) ?_
  refine lv_aload_n hx hb dL_law_1428 rfl (lv_at hl 3 rfl) ?_
  refine lv_iload_n hx hb dL_law_1429 rfl (lv_at hl 0 rfl) ?_
  refine lv_iconst (v := iI 1) hx hb dL_law_1430 (by decide) ?_
  refine gi_add hx hb dL_law_1431 ?_
  refine n_sld C0 hbA hG (by omega) hx1 dL_law_1432 ?_
  refine lv_aload_n hx hb dL_law_1433 rfl (lv_at hl 3 rfl) ?_
  refine lv_iload_n hx hb dL_law_1434 rfl (lv_at hl 0 rfl) ?_
  refine lv_iconst (v := iI 2) hx hb dL_law_1435 (by decide) ?_
  refine gi_add hx hb dL_law_1436 ?_
  refine n_sld C0 hbA hG (by omega) hx2 dL_law_1437 ?_
  obtain ⟨r_2, S_3, hc_1, hg_4, hg_5, hM⟩ := bdG2_some hM
  have hg_6 : gle S_3 OM := ⟨Nat.le_trans hg_5.1 hOM.1, Nat.le_trans hg_5.2 hOM.2⟩
  refine g_vi (As := [.int (iI x1), .int (iI x2)]) (rest := []) S hG.1 hG.2.1 (vX11_stiffest l hG.2.2.2.1 x1 x2 hc_1) wV_GrownKindsLaw_165 (ec_0 (b := b) (cy := cy) (X := XD b cy S0) _) cpX11 (Nat.lt_of_lt_of_le (Nat.le_of_ble_eq_true rfl) hG.2.2.2.1) dL_law_1438 rfl hl.1 (ar := 2) (by decide +kernel) rfl ⟨Nat.le_of_ble_eq_true rfl, Nat.le_of_ble_eq_true rfl, hG.gcL hg_4 hg_6, hG.gsL hg_4 hg_6⟩ (Nat.le_of_ble_eq_true rfl) (fun rv uu H locs hp hGc => ?_)
  obtain ⟨rfl, rfl⟩ := hp
  replace hG := hG.grow hg_4 hg_6 hGc
  clear hGc
  refine lv_aload_n hx hb dL_law_1441 rfl (lv_at hl 1 rfl) ?_
  refine lv_aload_n hx hb dL_law_1442 rfl (lv_at hl 3 rfl) ?_
  refine lv_iload_n hx hb dL_law_1443 rfl (lv_at hl 0 rfl) ?_
  refine lv_iconst (v := iI 1) hx hb dL_law_1444 (by decide) ?_
  refine gi_add hx hb dL_law_1445 ?_
  refine n_sld C0 hbA hG (by omega) hx1 dL_law_1446 ?_
  refine lv_aload_n hx hb dL_law_1447 rfl (lv_at hl 3 rfl) ?_
  refine lv_iload_n hx hb dL_law_1448 rfl (lv_at hl 0 rfl) ?_
  refine lv_iconst (v := iI 2) hx hb dL_law_1449 (by decide) ?_
  refine gi_add hx hb dL_law_1450 ?_
  refine n_sld C0 hbA hG (by omega) hx2 dL_law_1451 ?_
  obtain ⟨r_8, S_9, hc_7, hM⟩ := bd2_some hM
  refine g_vi (As := [.int (iI x1), .int (iI x2)]) (rest := [.int (iI r_2)]) S hG.1 hG.2.1 (vX12_stiffest l hG.2.2.2.1 x1 x2 hc_7) wV_GrownKindsLaw_168 (ec_83 (b := b) (cy := cy) (X := XD b cy S_3) _) cpX12 (Nat.lt_of_lt_of_le (Nat.le_of_ble_eq_true rfl) hG.2.2.2.1) dL_law_1452 rfl hl.1 (ar := 2) (by decide +kernel) rfl ⟨Nat.le_of_ble_eq_true rfl, Nat.le_of_ble_eq_true rfl, hG.rcL, hG.rsL⟩ (Nat.le_of_ble_eq_true rfl) (fun rv uu H locs hp hGc => ?_)
  obtain ⟨rfl, rfl⟩ := hp
  refine wz ?_
  replace hG := hG.back hGc
  clear hGc
  obtain ⟨S_10, eS_10⟩ : ∃ q, q = msk S_9 S_3 := ⟨_, rfl⟩
  rw [← eS_10] at hG
  replace hM := nx_at hM eS_10
  clear eS_10
  obtain ⟨hg_11, hM⟩ := gd_some hM
  refine gi_icmp_eq (tgt := 1854) hx hb dL_law_1455 (by decide) hg_11.1 hg_11.2 (fun c_12 => ?_) (fun c_12 => ?_)
  · replace hM := ifp hM c_12
    cases hM
    exact kk _ _ H locs ls hG hl
  · replace hM := ifn hM c_12
    cases hM
theorem wV_GrownKindsLaw_169 : gWV "GrownKindsLaw" 169 yX11_chance cX11_chance 6 (some .int) := ⟨wm_1573, wm_1574, wm_1575, wm_177, wm_1576, by decide +kernel, by decide +kernel⟩
theorem wV_GrownKindsLaw_172 : gWV "GrownKindsLaw" 172 yX12_chance cX12_chance 6 (some .int) := ⟨wm_2374, wm_2375, wm_2376, wm_188, wm_2377, by decide +kernel, by decide +kernel⟩
def mL_36 (x1 x2 x3 x4 x5 : Int) (S0 : St) : Option St := bd1 (mX11_chance S0 x1 x2 x3 x4) fun r_2 => bd2 (mX12_chance S0 x1 x2 x3 x4) fun r_4 S_5 => nx (msk S_5 S0) fun S_6 => gd ((inI r_2) ∧ (inI r_4)) <| if r_2 = r_4 then (some (S_6)) else (none)
set_option maxHeartbeats 4000000 in
set_option maxRecDepth 100000 in
theorem lc_36 {p : Program} {l : Launch} {e : Env} {s : State} {m : MethodId} {below : List Frame} {meth : Method} {c : Code} {q0 : Nat} {xs : Nat → Int32} {D : va_G} {cy : Nat → ClassId} {b : Nat} {L : Nat} (hL : L ≤ 3072) (C0 : lw_At p s m meth c q0 L xs) (hbA : ¬ gA b q0) {i : Int} (hi : 0 ≤ i ∧ i + 6 ≤ L) {x1 x2 x3 x4 x5 : Int} (hx1 : (xs (i + 1).toNat).toInt = x1) (hx2 : (xs (i + 2).toNat).toInt = x2) (hx3 : (xs (i + 3).toNat).toInt = x3) (hx4 : (xs (i + 4).toNat).toInt = x4) (hx5 : (xs (i + 5).toNat).toInt = x5) {S0 S1 : St} (hM : mL_36 x1 x2 x3 x4 x5 S0 = some S1) (hOM : gle S1 OM) {ce sl : Nat} {H : Heap} {locs : List Loc} (hG : gX D cy b s H locs S0 ce sl OZ OM) {ls : Array Slot} (hl : lv_has ls 4 [(3, .int (iI i)), (2, .ref (b + 80)), (1, .ref (b + 0)), (0, .ref q0)]) (kk : ∀ (ce sl : Nat) (H : Heap) (locs : List Loc) (ls : Array Slot), gX D cy b s H locs S1 ce sl OZ OM → lv_has ls 4 [(3, .int (iI i)), (2, .ref (b + 80)), (1, .ref (b + 0)), (0, .ref q0)] → W p l e room_1 s m #[Value.ref q0] below meth c H locs ce sl (lw_Z below #[Value.ref q0] s) (F0 m 1854 ls [])) : W p l e room_1 s m #[Value.ref q0] below meth c H locs ce sl (lw_Z below #[Value.ref q0] s) (F0 m 1460 ls []) := by
  have hx := C0.1
  have hb := C0.2.1
  have S := lw_S C0
  unfold mL_36 at hM
  refine lv_aload_n hx hb dL_law_1460 rfl (lv_at hl 2 rfl) ?_
  refine lv_aload_n hx hb dL_law_1461 rfl (lv_at hl 3 rfl) ?_
  refine lv_iload_n hx hb dL_law_1462 rfl (lv_at hl 0 rfl) ?_
  refine lv_iconst (v := iI 1) hx hb dL_law_1463 (by decide) ?_
  refine gi_add hx hb dL_law_1464 ?_
  refine n_sld C0 hbA hG (by omega) hx1 dL_law_1465 ?_
  refine lv_aload_n hx hb dL_law_1466 rfl (lv_at hl 3 rfl) ?_
  refine lv_iload_n hx hb dL_law_1467 rfl (lv_at hl 0 rfl) ?_
  refine lv_iconst (v := iI 2) hx hb dL_law_1468 (by decide) ?_
  refine gi_add hx hb dL_law_1469 ?_
  refine n_sld C0 hbA hG (by omega) hx2 dL_law_1470 ?_
  refine lv_aload_n hx hb dL_law_1471 rfl (lv_at hl 3 rfl) ?_
  refine lv_iload_n hx hb dL_law_1472 rfl (lv_at hl 0 rfl) ?_
  refine lv_iconst (v := iI 3) hx hb dL_law_1473 (by decide) ?_
  refine gi_add hx hb dL_law_1474 ?_
  refine n_sld C0 hbA hG (by omega) hx3 dL_law_1475 ?_
  refine lv_aload_n hx hb dL_law_1476 rfl (lv_at hl 3 rfl) ?_
  refine lv_iload_n hx hb dL_law_1477 rfl (lv_at hl 0 rfl) ?_
  refine lv_iconst (v := iI 4) hx hb dL_law_1478 (by decide) ?_
  refine gi_add hx hb dL_law_1479 ?_
  refine n_sld C0 hbA hG (by omega) hx4 dL_law_1480 ?_
  obtain ⟨r_2, hc_1, hM⟩ := bd1_some hM
  refine g_vi (As := [.int (iI x1), .int (iI x2), .int (iI x3), .int (iI x4)]) (rest := []) S hG.1 hG.2.1 (vX11_chance l hG.2.2.2.1 x1 x2 x3 x4 hc_1) wV_GrownKindsLaw_169 (ec_0 (b := b) (cy := cy) (X := XD b cy S0) _) cpX11 (Nat.lt_of_lt_of_le (Nat.le_of_ble_eq_true rfl) hG.2.2.2.1) dL_law_1481 rfl hl.1 (ar := 4) (by decide +kernel) rfl ⟨Nat.le_of_ble_eq_true rfl, Nat.le_of_ble_eq_true rfl, hG.rcL, hG.rsL⟩ (Nat.le_of_ble_eq_true rfl) (fun rv uu H locs hp hGc => ?_)
  obtain ⟨rfl, rfl⟩ := hp
  refine wz ?_
  replace hG := hG.same hGc
  clear hGc
  refine lv_aload_n hx hb dL_law_1484 rfl (lv_at hl 1 rfl) ?_
  refine lv_aload_n hx hb dL_law_1485 rfl (lv_at hl 3 rfl) ?_
  refine lv_iload_n hx hb dL_law_1486 rfl (lv_at hl 0 rfl) ?_
  refine lv_iconst (v := iI 1) hx hb dL_law_1487 (by decide) ?_
  refine gi_add hx hb dL_law_1488 ?_
  refine n_sld C0 hbA hG (by omega) hx1 dL_law_1489 ?_
  refine lv_aload_n hx hb dL_law_1490 rfl (lv_at hl 3 rfl) ?_
  refine lv_iload_n hx hb dL_law_1491 rfl (lv_at hl 0 rfl) ?_
  refine lv_iconst (v := iI 2) hx hb dL_law_1492 (by decide) ?_
  refine gi_add hx hb dL_law_1493 ?_
  refine n_sld C0 hbA hG (by omega) hx2 dL_law_1494 ?_
  refine lv_aload_n hx hb dL_law_1495 rfl (lv_at hl 3 rfl) ?_
  refine lv_iload_n hx hb dL_law_1496 rfl (lv_at hl 0 rfl) ?_
  refine lv_iconst (v := iI 3) hx hb dL_law_1497 (by decide) ?_
  refine gi_add hx hb dL_law_1498 ?_
  refine n_sld C0 hbA hG (by omega) hx3 dL_law_1499 ?_
  refine lv_aload_n hx hb dL_law_1500 rfl (lv_at hl 3 rfl) ?_
  refine lv_iload_n hx hb dL_law_1501 rfl (lv_at hl 0 rfl) ?_
  refine lv_iconst (v := iI 4) hx hb dL_law_1502 (by decide) ?_
  refine gi_add hx hb dL_law_1503 ?_
  refine n_sld C0 hbA hG (by omega) hx4 dL_law_1504 ?_
  obtain ⟨r_4, S_5, hc_3, hM⟩ := bd2_some hM
  refine g_vi (As := [.int (iI x1), .int (iI x2), .int (iI x3), .int (iI x4)]) (rest := [.int (iI r_2)]) S hG.1 hG.2.1 (vX12_chance l hG.2.2.2.1 x1 x2 x3 x4 hc_3) wV_GrownKindsLaw_172 (ec_83 (b := b) (cy := cy) (X := XD b cy S0) _) cpX12 (Nat.lt_of_lt_of_le (Nat.le_of_ble_eq_true rfl) hG.2.2.2.1) dL_law_1505 rfl hl.1 (ar := 4) (by decide +kernel) rfl ⟨Nat.le_of_ble_eq_true rfl, Nat.le_of_ble_eq_true rfl, hG.rcL, hG.rsL⟩ (Nat.le_of_ble_eq_true rfl) (fun rv uu H locs hp hGc => ?_)
  obtain ⟨rfl, rfl⟩ := hp
  refine wz ?_
  replace hG := hG.back hGc
  clear hGc
  obtain ⟨S_6, eS_6⟩ : ∃ q, q = msk S_5 S0 := ⟨_, rfl⟩
  rw [← eS_6] at hG
  replace hM := nx_at hM eS_6
  clear eS_6
  obtain ⟨hg_7, hM⟩ := gd_some hM
  refine gi_icmp_eq (tgt := 1854) hx hb dL_law_1508 (by decide) hg_7.1 hg_7.2 (fun c_8 => ?_) (fun c_8 => ?_)
  · replace hM := ifp hM c_8
    cases hM
    exact kk _ _ H locs ls hG hl
  · replace hM := ifn hM c_8
    cases hM
theorem wV_GrownKindsLaw_173 : gWV "GrownKindsLaw" 173 yX11_mean cX11_mean 6 (some .int) := ⟨wm_1580, wm_1581, wm_1582, wm_177, wm_1583, by decide +kernel, by decide +kernel⟩
theorem wV_GrownKindsLaw_176 : gWV "GrownKindsLaw" 176 yX12_mean cX12_mean 8 (some .int) := ⟨wm_2384, wm_2385, wm_2386, wm_188, wm_2387, by decide +kernel, by decide +kernel⟩
def mL_37 (x1 x2 x3 x4 x5 : Int) (S0 : St) : Option St := bdG2 S0 (fun o : St => o) (mX11_mean S0 x1 x2 x3 x4) fun r_2 S_3 => bd2 (mX12_mean S_3 x1 x2 x3 x4) fun r_8 S_9 => nx (msk S_9 S_3) fun S_10 => gd ((inI r_2) ∧ (inI r_8)) <| if r_2 = r_8 then (some (S_10)) else (none)
set_option maxHeartbeats 4000000 in
set_option maxRecDepth 100000 in
theorem lc_37 {p : Program} {l : Launch} {e : Env} {s : State} {m : MethodId} {below : List Frame} {meth : Method} {c : Code} {q0 : Nat} {xs : Nat → Int32} {D : va_G} {cy : Nat → ClassId} {b : Nat} {L : Nat} (hL : L ≤ 3072) (C0 : lw_At p s m meth c q0 L xs) (hbA : ¬ gA b q0) {i : Int} (hi : 0 ≤ i ∧ i + 6 ≤ L) {x1 x2 x3 x4 x5 : Int} (hx1 : (xs (i + 1).toNat).toInt = x1) (hx2 : (xs (i + 2).toNat).toInt = x2) (hx3 : (xs (i + 3).toNat).toInt = x3) (hx4 : (xs (i + 4).toNat).toInt = x4) (hx5 : (xs (i + 5).toNat).toInt = x5) {S0 S1 : St} (hM : mL_37 x1 x2 x3 x4 x5 S0 = some S1) (hOM : gle S1 OM) {ce sl : Nat} {H : Heap} {locs : List Loc} (hG : gX D cy b s H locs S0 ce sl OZ OM) {ls : Array Slot} (hl : lv_has ls 4 [(3, .int (iI i)), (2, .ref (b + 80)), (1, .ref (b + 0)), (0, .ref q0)]) (kk : ∀ (ce sl : Nat) (H : Heap) (locs : List Loc) (ls : Array Slot), gX D cy b s H locs S1 ce sl OZ OM → lv_has ls 4 [(3, .int (iI i)), (2, .ref (b + 80)), (1, .ref (b + 0)), (0, .ref q0)] → W p l e room_1 s m #[Value.ref q0] below meth c H locs ce sl (lw_Z below #[Value.ref q0] s) (F0 m 1854 ls [])) : W p l e room_1 s m #[Value.ref q0] below meth c H locs ce sl (lw_Z below #[Value.ref q0] s) (F0 m 1513 ls []) := by
  have hx := C0.1
  have hb := C0.2.1
  have S := lw_S C0
  unfold mL_37 at hM
  refine lv_aload_n hx hb dL_law_1513 rfl (lv_at hl 2 rfl) ?_
  refine lv_aload_n hx hb dL_law_1514 rfl (lv_at hl 3 rfl) ?_
  refine lv_iload_n hx hb dL_law_1515 rfl (lv_at hl 0 rfl) ?_
  refine lv_iconst (v := iI 1) hx hb dL_law_1516 (by decide) ?_
  refine gi_add hx hb dL_law_1517 ?_
  refine n_sld C0 hbA hG (by omega) hx1 dL_law_1518 ?_
  refine lv_aload_n hx hb dL_law_1519 rfl (lv_at hl 3 rfl) ?_
  refine lv_iload_n hx hb dL_law_1520 rfl (lv_at hl 0 rfl) ?_
  refine lv_iconst (v := iI 2) hx hb dL_law_1521 (by decide) ?_
  refine gi_add hx hb dL_law_1522 ?_
  refine n_sld C0 hbA hG (by omega) hx2 dL_law_1523 ?_
  refine lv_aload_n hx hb dL_law_1524 rfl (lv_at hl 3 rfl) ?_
  refine lv_iload_n hx hb dL_law_1525 rfl (lv_at hl 0 rfl) ?_
  refine lv_iconst (v := iI 3) hx hb dL_law_1526 (by decide) ?_
  refine gi_add hx hb dL_law_1527 ?_
  refine n_sld C0 hbA hG (by omega) hx3 dL_law_1528 ?_
  refine lv_aload_n hx hb dL_law_1529 rfl (lv_at hl 3 rfl) ?_
  refine lv_iload_n hx hb dL_law_1530 rfl (lv_at hl 0 rfl) ?_
  refine lv_iconst (v := iI 4) hx hb dL_law_1531 (by decide) ?_
  refine gi_add hx hb dL_law_1532 ?_
  refine n_sld C0 hbA hG (by omega) hx4 dL_law_1533 ?_
  obtain ⟨r_2, S_3, hc_1, hg_4, hg_5, hM⟩ := bdG2_some hM
  have hg_6 : gle S_3 OM := ⟨Nat.le_trans hg_5.1 hOM.1, Nat.le_trans hg_5.2 hOM.2⟩
  refine g_vi (As := [.int (iI x1), .int (iI x2), .int (iI x3), .int (iI x4)]) (rest := []) S hG.1 hG.2.1 (vX11_mean l hG.2.2.2.1 x1 x2 x3 x4 hc_1) wV_GrownKindsLaw_173 (ec_0 (b := b) (cy := cy) (X := XD b cy S0) _) cpX11 (Nat.lt_of_lt_of_le (Nat.le_of_ble_eq_true rfl) hG.2.2.2.1) dL_law_1534 rfl hl.1 (ar := 4) (by decide +kernel) rfl ⟨Nat.le_of_ble_eq_true rfl, Nat.le_of_ble_eq_true rfl, hG.gcL hg_4 hg_6, hG.gsL hg_4 hg_6⟩ (Nat.le_of_ble_eq_true rfl) (fun rv uu H locs hp hGc => ?_)
  obtain ⟨rfl, rfl⟩ := hp
  replace hG := hG.grow hg_4 hg_6 hGc
  clear hGc
  refine lv_aload_n hx hb dL_law_1537 rfl (lv_at hl 1 rfl) ?_
  refine lv_aload_n hx hb dL_law_1538 rfl (lv_at hl 3 rfl) ?_
  refine lv_iload_n hx hb dL_law_1539 rfl (lv_at hl 0 rfl) ?_
  refine lv_iconst (v := iI 1) hx hb dL_law_1540 (by decide) ?_
  refine gi_add hx hb dL_law_1541 ?_
  refine n_sld C0 hbA hG (by omega) hx1 dL_law_1542 ?_
  refine lv_aload_n hx hb dL_law_1543 rfl (lv_at hl 3 rfl) ?_
  refine lv_iload_n hx hb dL_law_1544 rfl (lv_at hl 0 rfl) ?_
  refine lv_iconst (v := iI 2) hx hb dL_law_1545 (by decide) ?_
  refine gi_add hx hb dL_law_1546 ?_
  refine n_sld C0 hbA hG (by omega) hx2 dL_law_1547 ?_
  refine lv_aload_n hx hb dL_law_1548 rfl (lv_at hl 3 rfl) ?_
  refine lv_iload_n hx hb dL_law_1549 rfl (lv_at hl 0 rfl) ?_
  refine lv_iconst (v := iI 3) hx hb dL_law_1550 (by decide) ?_
  refine gi_add hx hb dL_law_1551 ?_
  refine n_sld C0 hbA hG (by omega) hx3 dL_law_1552 ?_
  refine lv_aload_n hx hb dL_law_1553 rfl (lv_at hl 3 rfl) ?_
  refine lv_iload_n hx hb dL_law_1554 rfl (lv_at hl 0 rfl) ?_
  refine lv_iconst (v := iI 4) hx hb dL_law_1555 (by decide) ?_
  refine gi_add hx hb dL_law_1556 ?_
  refine n_sld C0 hbA hG (by omega) hx4 dL_law_1557 ?_
  obtain ⟨r_8, S_9, hc_7, hM⟩ := bd2_some hM
  refine g_vi (As := [.int (iI x1), .int (iI x2), .int (iI x3), .int (iI x4)]) (rest := [.int (iI r_2)]) S hG.1 hG.2.1 (vX12_mean l hG.2.2.2.1 x1 x2 x3 x4 hc_7) wV_GrownKindsLaw_176 (ec_83 (b := b) (cy := cy) (X := XD b cy S_3) _) cpX12 (Nat.lt_of_lt_of_le (Nat.le_of_ble_eq_true rfl) hG.2.2.2.1) dL_law_1558 rfl hl.1 (ar := 4) (by decide +kernel) rfl ⟨Nat.le_of_ble_eq_true rfl, Nat.le_of_ble_eq_true rfl, hG.rcL, hG.rsL⟩ (Nat.le_of_ble_eq_true rfl) (fun rv uu H locs hp hGc => ?_)
  obtain ⟨rfl, rfl⟩ := hp
  refine wz ?_
  replace hG := hG.back hGc
  clear hGc
  obtain ⟨S_10, eS_10⟩ : ∃ q, q = msk S_9 S_3 := ⟨_, rfl⟩
  rw [← eS_10] at hG
  replace hM := nx_at hM eS_10
  clear eS_10
  obtain ⟨hg_11, hM⟩ := gd_some hM
  refine gi_icmp_eq (tgt := 1854) hx hb dL_law_1561 (by decide) hg_11.1 hg_11.2 (fun c_12 => ?_) (fun c_12 => ?_)
  · replace hM := ifp hM c_12
    cases hM
    exact kk _ _ H locs ls hG hl
  · replace hM := ifn hM c_12
    cases hM
theorem wV_GrownKindsLaw_177 : gWV "GrownKindsLaw" 177 yX11_boxed cX11_boxed 4 (some .long) := ⟨wm_1584, wm_1166, wm_1167, wm_177, wm_1168, by decide +kernel, by decide +kernel⟩
theorem wV_GrownKindsLaw_180 : gWV "GrownKindsLaw" 180 yX12_boxed cX12_boxed 4 (some .long) := ⟨wm_2388, wm_2389, wm_2390, wm_188, wm_2391, by decide +kernel, by decide +kernel⟩
def mL_38 (x1 x2 x3 x4 x5 : Int) (S0 : St) : Option St := bd1 (mX11_boxed S0 x1 x2 x3) fun r_2 => bd2 (mX12_boxed S0 x1 x2 x3) fun r_4 S_5 => nx (msk S_5 S0) fun S_6 => gd ((inL r_2) ∧ (inL r_4)) <| if r_2 = r_4 then (some (S_6)) else (none)
set_option maxHeartbeats 4000000 in
set_option maxRecDepth 100000 in
theorem lc_38 {p : Program} {l : Launch} {e : Env} {s : State} {m : MethodId} {below : List Frame} {meth : Method} {c : Code} {q0 : Nat} {xs : Nat → Int32} {D : va_G} {cy : Nat → ClassId} {b : Nat} {L : Nat} (hL : L ≤ 3072) (C0 : lw_At p s m meth c q0 L xs) (hbA : ¬ gA b q0) {i : Int} (hi : 0 ≤ i ∧ i + 6 ≤ L) {x1 x2 x3 x4 x5 : Int} (hx1 : (xs (i + 1).toNat).toInt = x1) (hx2 : (xs (i + 2).toNat).toInt = x2) (hx3 : (xs (i + 3).toNat).toInt = x3) (hx4 : (xs (i + 4).toNat).toInt = x4) (hx5 : (xs (i + 5).toNat).toInt = x5) {S0 S1 : St} (hM : mL_38 x1 x2 x3 x4 x5 S0 = some S1) (hOM : gle S1 OM) {ce sl : Nat} {H : Heap} {locs : List Loc} (hG : gX D cy b s H locs S0 ce sl OZ OM) {ls : Array Slot} (hl : lv_has ls 4 [(3, .int (iI i)), (2, .ref (b + 80)), (1, .ref (b + 0)), (0, .ref q0)]) (kk : ∀ (ce sl : Nat) (H : Heap) (locs : List Loc) (ls : Array Slot), gX D cy b s H locs S1 ce sl OZ OM → lv_has ls 4 [(3, .int (iI i)), (2, .ref (b + 80)), (1, .ref (b + 0)), (0, .ref q0)] → W p l e room_1 s m #[Value.ref q0] below meth c H locs ce sl (lw_Z below #[Value.ref q0] s) (F0 m 1854 ls [])) : W p l e room_1 s m #[Value.ref q0] below meth c H locs ce sl (lw_Z below #[Value.ref q0] s) (F0 m 1566 ls []) := by
  have hx := C0.1
  have hb := C0.2.1
  have S := lw_S C0
  unfold mL_38 at hM
  refine lv_aload_n hx hb dL_law_1566 rfl (lv_at hl 2 rfl) ?_
  refine lv_aload_n hx hb dL_law_1567 rfl (lv_at hl 3 rfl) ?_
  refine lv_iload_n hx hb dL_law_1568 rfl (lv_at hl 0 rfl) ?_
  refine lv_iconst (v := iI 1) hx hb dL_law_1569 (by decide) ?_
  refine gi_add hx hb dL_law_1570 ?_
  refine n_sld C0 hbA hG (by omega) hx1 dL_law_1571 ?_
  refine lv_aload_n hx hb dL_law_1572 rfl (lv_at hl 3 rfl) ?_
  refine lv_iload_n hx hb dL_law_1573 rfl (lv_at hl 0 rfl) ?_
  refine lv_iconst (v := iI 2) hx hb dL_law_1574 (by decide) ?_
  refine gi_add hx hb dL_law_1575 ?_
  refine n_sld C0 hbA hG (by omega) hx2 dL_law_1576 ?_
  refine lv_aload_n hx hb dL_law_1577 rfl (lv_at hl 3 rfl) ?_
  refine lv_iload_n hx hb dL_law_1578 rfl (lv_at hl 0 rfl) ?_
  refine lv_iconst (v := iI 3) hx hb dL_law_1579 (by decide) ?_
  refine gi_add hx hb dL_law_1580 ?_
  refine n_sld C0 hbA hG (by omega) hx3 dL_law_1581 ?_
  obtain ⟨r_2, hc_1, hM⟩ := bd1_some hM
  refine g_vl (As := [.int (iI x1), .int (iI x2), .int (iI x3)]) (rest := []) S hG.1 hG.2.1 (vX11_boxed l hG.2.2.2.1 x1 x2 x3 hc_1) wV_GrownKindsLaw_177 (ec_0 (b := b) (cy := cy) (X := XD b cy S0) _) cpX11 (Nat.lt_of_lt_of_le (Nat.le_of_ble_eq_true rfl) hG.2.2.2.1) dL_law_1582 rfl hl.1 (ar := 3) (by decide +kernel) rfl ⟨Nat.le_of_ble_eq_true rfl, Nat.le_of_ble_eq_true rfl, hG.rcL, hG.rsL⟩ (Nat.le_of_ble_eq_true rfl) (fun rv uu H locs hp hGc => ?_)
  obtain ⟨rfl, rfl⟩ := hp
  refine wz ?_
  replace hG := hG.same hGc
  clear hGc
  refine lv_aload_n hx hb dL_law_1585 rfl (lv_at hl 1 rfl) ?_
  refine lv_aload_n hx hb dL_law_1586 rfl (lv_at hl 3 rfl) ?_
  refine lv_iload_n hx hb dL_law_1587 rfl (lv_at hl 0 rfl) ?_
  refine lv_iconst (v := iI 1) hx hb dL_law_1588 (by decide) ?_
  refine gi_add hx hb dL_law_1589 ?_
  refine n_sld C0 hbA hG (by omega) hx1 dL_law_1590 ?_
  refine lv_aload_n hx hb dL_law_1591 rfl (lv_at hl 3 rfl) ?_
  refine lv_iload_n hx hb dL_law_1592 rfl (lv_at hl 0 rfl) ?_
  refine lv_iconst (v := iI 2) hx hb dL_law_1593 (by decide) ?_
  refine gi_add hx hb dL_law_1594 ?_
  refine n_sld C0 hbA hG (by omega) hx2 dL_law_1595 ?_
  refine lv_aload_n hx hb dL_law_1596 rfl (lv_at hl 3 rfl) ?_
  refine lv_iload_n hx hb dL_law_1597 rfl (lv_at hl 0 rfl) ?_
  refine lv_iconst (v := iI 3) hx hb dL_law_1598 (by decide) ?_
  refine gi_add hx hb dL_law_1599 ?_
  refine n_sld C0 hbA hG (by omega) hx3 dL_law_1600 ?_
  obtain ⟨r_4, S_5, hc_3, hM⟩ := bd2_some hM
  refine g_vl (As := [.int (iI x1), .int (iI x2), .int (iI x3)]) (rest := [.long (jJ r_2)]) S hG.1 hG.2.1 (vX12_boxed l hG.2.2.2.1 x1 x2 x3 hc_3) wV_GrownKindsLaw_180 (ec_83 (b := b) (cy := cy) (X := XD b cy S0) _) cpX12 (Nat.lt_of_lt_of_le (Nat.le_of_ble_eq_true rfl) hG.2.2.2.1) dL_law_1601 rfl hl.1 (ar := 3) (by decide +kernel) rfl ⟨Nat.le_of_ble_eq_true rfl, Nat.le_of_ble_eq_true rfl, hG.rcL, hG.rsL⟩ (Nat.le_of_ble_eq_true rfl) (fun rv uu H locs hp hGc => ?_)
  obtain ⟨rfl, rfl⟩ := hp
  refine wz ?_
  replace hG := hG.back hGc
  clear hGc
  obtain ⟨S_6, eS_6⟩ : ∃ q, q = msk S_5 S0 := ⟨_, rfl⟩
  rw [← eS_6] at hG
  replace hM := nx_at hM eS_6
  clear eS_6
  obtain ⟨hg_7, hM⟩ := gd_some hM
  refine gj_cmp_eq (tgt := 1854) hx hb dL_law_1604 dL_law_1605 (by decide) hg_7.1 hg_7.2 (fun c_8 => ?_) (fun c_8 => ?_)
  · replace hM := ifp hM c_8
    cases hM
    exact kk _ _ H locs ls hG hl
  · replace hM := ifn hM c_8
    cases hM
theorem wV_GrownKindsLaw_181 : gWV "GrownKindsLaw" 181 yX11_bits cX11_bits 6 (some .int) := ⟨wm_1585, wm_1586, wm_1587, wm_177, wm_1588, by decide +kernel, by decide +kernel⟩
theorem wV_GrownKindsLaw_184 : gWV "GrownKindsLaw" 184 yX12_bits cX12_bits 5 (some .int) := ⟨wm_2396, wm_2397, wm_2398, wm_188, wm_2399, by decide +kernel, by decide +kernel⟩
def mL_39 (x1 x2 x3 x4 x5 : Int) (S0 : St) : Option St := bd1 (mX11_bits S0 x1 x2 x3) fun r_2 => bd2 (mX12_bits S0 x1 x2 x3) fun r_4 S_5 => nx (msk S_5 S0) fun S_6 => gd ((inI r_2) ∧ (inI r_4)) <| if r_2 = r_4 then (some (S_6)) else (none)
set_option maxHeartbeats 4000000 in
set_option maxRecDepth 100000 in
theorem lc_39 {p : Program} {l : Launch} {e : Env} {s : State} {m : MethodId} {below : List Frame} {meth : Method} {c : Code} {q0 : Nat} {xs : Nat → Int32} {D : va_G} {cy : Nat → ClassId} {b : Nat} {L : Nat} (hL : L ≤ 3072) (C0 : lw_At p s m meth c q0 L xs) (hbA : ¬ gA b q0) {i : Int} (hi : 0 ≤ i ∧ i + 6 ≤ L) {x1 x2 x3 x4 x5 : Int} (hx1 : (xs (i + 1).toNat).toInt = x1) (hx2 : (xs (i + 2).toNat).toInt = x2) (hx3 : (xs (i + 3).toNat).toInt = x3) (hx4 : (xs (i + 4).toNat).toInt = x4) (hx5 : (xs (i + 5).toNat).toInt = x5) {S0 S1 : St} (hM : mL_39 x1 x2 x3 x4 x5 S0 = some S1) (hOM : gle S1 OM) {ce sl : Nat} {H : Heap} {locs : List Loc} (hG : gX D cy b s H locs S0 ce sl OZ OM) {ls : Array Slot} (hl : lv_has ls 4 [(3, .int (iI i)), (2, .ref (b + 80)), (1, .ref (b + 0)), (0, .ref q0)]) (kk : ∀ (ce sl : Nat) (H : Heap) (locs : List Loc) (ls : Array Slot), gX D cy b s H locs S1 ce sl OZ OM → lv_has ls 4 [(3, .int (iI i)), (2, .ref (b + 80)), (1, .ref (b + 0)), (0, .ref q0)] → W p l e room_1 s m #[Value.ref q0] below meth c H locs ce sl (lw_Z below #[Value.ref q0] s) (F0 m 1854 ls [])) : W p l e room_1 s m #[Value.ref q0] below meth c H locs ce sl (lw_Z below #[Value.ref q0] s) (F0 m 1610 ls []) := by
  have hx := C0.1
  have hb := C0.2.1
  have S := lw_S C0
  unfold mL_39 at hM
  refine lv_aload_n hx hb dL_law_1610 rfl (lv_at hl 2 rfl) ?_
  refine lv_aload_n hx hb dL_law_1611 rfl (lv_at hl 3 rfl) ?_
  refine lv_iload_n hx hb dL_law_1612 rfl (lv_at hl 0 rfl) ?_
  refine lv_iconst (v := iI 1) hx hb dL_law_1613 (by decide) ?_
  refine gi_add hx hb dL_law_1614 ?_
  refine n_sld C0 hbA hG (by omega) hx1 dL_law_1615 ?_
  refine lv_aload_n hx hb dL_law_1616 rfl (lv_at hl 3 rfl) ?_
  refine lv_iload_n hx hb dL_law_1617 rfl (lv_at hl 0 rfl) ?_
  refine lv_iconst (v := iI 2) hx hb dL_law_1618 (by decide) ?_
  refine gi_add hx hb dL_law_1619 ?_
  refine n_sld C0 hbA hG (by omega) hx2 dL_law_1620 ?_
  refine lv_aload_n hx hb dL_law_1621 rfl (lv_at hl 3 rfl) ?_
  refine lv_iload_n hx hb dL_law_1622 rfl (lv_at hl 0 rfl) ?_
  refine lv_iconst (v := iI 3) hx hb dL_law_1623 (by decide) ?_
  refine gi_add hx hb dL_law_1624 ?_
  refine n_sld C0 hbA hG (by omega) hx3 dL_law_1625 ?_
  obtain ⟨r_2, hc_1, hM⟩ := bd1_some hM
  refine g_vi (As := [.int (iI x1), .int (iI x2), .int (iI x3)]) (rest := []) S hG.1 hG.2.1 (vX11_bits l hG.2.2.2.1 x1 x2 x3 hc_1) wV_GrownKindsLaw_181 (ec_0 (b := b) (cy := cy) (X := XD b cy S0) _) cpX11 (Nat.lt_of_lt_of_le (Nat.le_of_ble_eq_true rfl) hG.2.2.2.1) dL_law_1626 rfl hl.1 (ar := 3) (by decide +kernel) rfl ⟨Nat.le_of_ble_eq_true rfl, Nat.le_of_ble_eq_true rfl, hG.rcL, hG.rsL⟩ (Nat.le_of_ble_eq_true rfl) (fun rv uu H locs hp hGc => ?_)
  obtain ⟨rfl, rfl⟩ := hp
  refine wz ?_
  replace hG := hG.same hGc
  clear hGc
  refine lv_aload_n hx hb dL_law_1629 rfl (lv_at hl 1 rfl) ?_
  refine lv_aload_n hx hb dL_law_1630 rfl (lv_at hl 3 rfl) ?_
  refine lv_iload_n hx hb dL_law_1631 rfl (lv_at hl 0 rfl) ?_
  refine lv_iconst (v := iI 1) hx hb dL_law_1632 (by decide) ?_
  refine gi_add hx hb dL_law_1633 ?_
  refine n_sld C0 hbA hG (by omega) hx1 dL_law_1634 ?_
  refine lv_aload_n hx hb dL_law_1635 rfl (lv_at hl 3 rfl) ?_
  refine lv_iload_n hx hb dL_law_1636 rfl (lv_at hl 0 rfl) ?_
  refine lv_iconst (v := iI 2) hx hb dL_law_1637 (by decide) ?_
  refine gi_add hx hb dL_law_1638 ?_
  refine n_sld C0 hbA hG (by omega) hx2 dL_law_1639 ?_
  refine lv_aload_n hx hb dL_law_1640 rfl (lv_at hl 3 rfl) ?_
  refine lv_iload_n hx hb dL_law_1641 rfl (lv_at hl 0 rfl) ?_
  refine lv_iconst (v := iI 3) hx hb dL_law_1642 (by decide) ?_
  refine gi_add hx hb dL_law_1643 ?_
  refine n_sld C0 hbA hG (by omega) hx3 dL_law_1644 ?_
  obtain ⟨r_4, S_5, hc_3, hM⟩ := bd2_some hM
  refine g_vi (As := [.int (iI x1), .int (iI x2), .int (iI x3)]) (rest := [.int (iI r_2)]) S hG.1 hG.2.1 (vX12_bits l hG.2.2.2.1 x1 x2 x3 hc_3) wV_GrownKindsLaw_184 (ec_83 (b := b) (cy := cy) (X := XD b cy S0) _) cpX12 (Nat.lt_of_lt_of_le (Nat.le_of_ble_eq_true rfl) hG.2.2.2.1) dL_law_1645 rfl hl.1 (ar := 3) (by decide +kernel) rfl ⟨Nat.le_of_ble_eq_true rfl, Nat.le_of_ble_eq_true rfl, hG.rcL, hG.rsL⟩ (Nat.le_of_ble_eq_true rfl) (fun rv uu H locs hp hGc => ?_)
  obtain ⟨rfl, rfl⟩ := hp
  refine wz ?_
  replace hG := hG.back hGc
  clear hGc
  obtain ⟨S_6, eS_6⟩ : ∃ q, q = msk S_5 S0 := ⟨_, rfl⟩
  rw [← eS_6] at hG
  replace hM := nx_at hM eS_6
  clear eS_6
  obtain ⟨hg_7, hM⟩ := gd_some hM
  refine gi_icmp_eq (tgt := 1854) hx hb dL_law_1648 (by decide) hg_7.1 hg_7.2 (fun c_8 => ?_) (fun c_8 => ?_)
  · replace hM := ifp hM c_8
    cases hM
    exact kk _ _ H locs ls hG hl
  · replace hM := ifn hM c_8
    cases hM
theorem wV_GrownKindsLaw_185 : gWV "GrownKindsLaw" 185 yX11_drawn cX11_drawn 10 (some .int) := ⟨wm_1593, wm_1594, wm_1595, wm_177, wm_1596, by decide +kernel, by decide +kernel⟩
theorem wV_GrownKindsLaw_188 : gWV "GrownKindsLaw" 188 yX12_drawn cX12_drawn 11 (some .int) := ⟨wm_2408, wm_2409, wm_2410, wm_188, wm_2411, by decide +kernel, by decide +kernel⟩
def mL_40 (x1 x2 x3 x4 x5 : Int) (S0 : St) : Option St := bd1 (mX11_drawn S0 x1 x2 x3 x4 x5) fun r_2 => bd2 (mX12_drawn S0 x1 x2 x3 x4 x5) fun r_4 S_5 => nx (msk S_5 S0) fun S_6 => gd ((inI r_2) ∧ (inI r_4)) <| if r_2 = r_4 then (some (S_6)) else (none)
set_option maxHeartbeats 4000000 in
set_option maxRecDepth 100000 in
theorem lc_40 {p : Program} {l : Launch} {e : Env} {s : State} {m : MethodId} {below : List Frame} {meth : Method} {c : Code} {q0 : Nat} {xs : Nat → Int32} {D : va_G} {cy : Nat → ClassId} {b : Nat} {L : Nat} (hL : L ≤ 3072) (C0 : lw_At p s m meth c q0 L xs) (hbA : ¬ gA b q0) {i : Int} (hi : 0 ≤ i ∧ i + 6 ≤ L) {x1 x2 x3 x4 x5 : Int} (hx1 : (xs (i + 1).toNat).toInt = x1) (hx2 : (xs (i + 2).toNat).toInt = x2) (hx3 : (xs (i + 3).toNat).toInt = x3) (hx4 : (xs (i + 4).toNat).toInt = x4) (hx5 : (xs (i + 5).toNat).toInt = x5) {S0 S1 : St} (hM : mL_40 x1 x2 x3 x4 x5 S0 = some S1) (hOM : gle S1 OM) {ce sl : Nat} {H : Heap} {locs : List Loc} (hG : gX D cy b s H locs S0 ce sl OZ OM) {ls : Array Slot} (hl : lv_has ls 4 [(3, .int (iI i)), (2, .ref (b + 80)), (1, .ref (b + 0)), (0, .ref q0)]) (kk : ∀ (ce sl : Nat) (H : Heap) (locs : List Loc) (ls : Array Slot), gX D cy b s H locs S1 ce sl OZ OM → lv_has ls 4 [(3, .int (iI i)), (2, .ref (b + 80)), (1, .ref (b + 0)), (0, .ref q0)] → W p l e room_1 s m #[Value.ref q0] below meth c H locs ce sl (lw_Z below #[Value.ref q0] s) (F0 m 1854 ls [])) : W p l e room_1 s m #[Value.ref q0] below meth c H locs ce sl (lw_Z below #[Value.ref q0] s) (F0 m 1653 ls []) := by
  have hx := C0.1
  have hb := C0.2.1
  have S := lw_S C0
  unfold mL_40 at hM
  refine lv_aload_n hx hb dL_law_1653 rfl (lv_at hl 2 rfl) ?_
  refine lv_aload_n hx hb dL_law_1654 rfl (lv_at hl 3 rfl) ?_
  refine lv_iload_n hx hb dL_law_1655 rfl (lv_at hl 0 rfl) ?_
  refine lv_iconst (v := iI 1) hx hb dL_law_1656 (by decide) ?_
  refine gi_add hx hb dL_law_1657 ?_
  refine n_sld C0 hbA hG (by omega) hx1 dL_law_1658 ?_
  refine lv_aload_n hx hb dL_law_1659 rfl (lv_at hl 3 rfl) ?_
  refine lv_iload_n hx hb dL_law_1660 rfl (lv_at hl 0 rfl) ?_
  refine lv_iconst (v := iI 2) hx hb dL_law_1661 (by decide) ?_
  refine gi_add hx hb dL_law_1662 ?_
  refine n_sld C0 hbA hG (by omega) hx2 dL_law_1663 ?_
  refine lv_aload_n hx hb dL_law_1664 rfl (lv_at hl 3 rfl) ?_
  refine lv_iload_n hx hb dL_law_1665 rfl (lv_at hl 0 rfl) ?_
  refine lv_iconst (v := iI 3) hx hb dL_law_1666 (by decide) ?_
  refine gi_add hx hb dL_law_1667 ?_
  refine n_sld C0 hbA hG (by omega) hx3 dL_law_1668 ?_
  refine lv_aload_n hx hb dL_law_1669 rfl (lv_at hl 3 rfl) ?_
  refine lv_iload_n hx hb dL_law_1670 rfl (lv_at hl 0 rfl) ?_
  refine lv_iconst (v := iI 4) hx hb dL_law_1671 (by decide) ?_
  refine gi_add hx hb dL_law_1672 ?_
  refine n_sld C0 hbA hG (by omega) hx4 dL_law_1673 ?_
  refine lv_aload_n hx hb dL_law_1674 rfl (lv_at hl 3 rfl) ?_
  refine lv_iload_n hx hb dL_law_1675 rfl (lv_at hl 0 rfl) ?_
  refine lv_iconst (v := iI 5) hx hb dL_law_1676 (by decide) ?_
  refine gi_add hx hb dL_law_1677 ?_
  refine n_sld C0 hbA hG (by omega) hx5 dL_law_1678 ?_
  obtain ⟨r_2, hc_1, hM⟩ := bd1_some hM
  refine g_vi (As := [.int (iI x1), .int (iI x2), .int (iI x3), .int (iI x4), .int (iI x5)]) (rest := []) S hG.1 hG.2.1 (vX11_drawn l hG.2.2.2.1 x1 x2 x3 x4 x5 hc_1) wV_GrownKindsLaw_185 (ec_0 (b := b) (cy := cy) (X := XD b cy S0) _) cpX11 (Nat.lt_of_lt_of_le (Nat.le_of_ble_eq_true rfl) hG.2.2.2.1) dL_law_1679 rfl hl.1 (ar := 5) (by decide +kernel) rfl ⟨Nat.le_of_ble_eq_true rfl, Nat.le_of_ble_eq_true rfl, hG.rcL, hG.rsL⟩ (Nat.le_of_ble_eq_true rfl) (fun rv uu H locs hp hGc => ?_)
  obtain ⟨rfl, rfl⟩ := hp
  refine wz ?_
  replace hG := hG.same hGc
  clear hGc
  refine lv_aload_n hx hb dL_law_1682 rfl (lv_at hl 1 rfl) ?_
  refine lv_aload_n hx hb dL_law_1683 rfl (lv_at hl 3 rfl) ?_
  refine lv_iload_n hx hb dL_law_1684 rfl (lv_at hl 0 rfl) ?_
  refine lv_iconst (v := iI 1) hx hb dL_law_1685 (by decide) ?_
  refine gi_add hx hb dL_law_1686 ?_
  refine n_sld C0 hbA hG (by omega) hx1 dL_law_1687 ?_
  refine lv_aload_n hx hb dL_law_1688 rfl (lv_at hl 3 rfl) ?_
  refine lv_iload_n hx hb dL_law_1689 rfl (lv_at hl 0 rfl) ?_
  refine lv_iconst (v := iI 2) hx hb dL_law_1690 (by decide) ?_
  refine gi_add hx hb dL_law_1691 ?_
  refine n_sld C0 hbA hG (by omega) hx2 dL_law_1692 ?_
  refine lv_aload_n hx hb dL_law_1693 rfl (lv_at hl 3 rfl) ?_
  refine lv_iload_n hx hb dL_law_1694 rfl (lv_at hl 0 rfl) ?_
  refine lv_iconst (v := iI 3) hx hb dL_law_1695 (by decide) ?_
  refine gi_add hx hb dL_law_1696 ?_
  refine n_sld C0 hbA hG (by omega) hx3 dL_law_1697 ?_
  refine lv_aload_n hx hb dL_law_1698 rfl (lv_at hl 3 rfl) ?_
  refine lv_iload_n hx hb dL_law_1699 rfl (lv_at hl 0 rfl) ?_
  refine lv_iconst (v := iI 4) hx hb dL_law_1700 (by decide) ?_
  refine gi_add hx hb dL_law_1701 ?_
  refine n_sld C0 hbA hG (by omega) hx4 dL_law_1702 ?_
  refine lv_aload_n hx hb dL_law_1703 rfl (lv_at hl 3 rfl) ?_
  refine lv_iload_n hx hb dL_law_1704 rfl (lv_at hl 0 rfl) ?_
  refine lv_iconst (v := iI 5) hx hb dL_law_1705 (by decide) ?_
  refine gi_add hx hb dL_law_1706 ?_
  refine n_sld C0 hbA hG (by omega) hx5 dL_law_1707 ?_
  obtain ⟨r_4, S_5, hc_3, hM⟩ := bd2_some hM
  refine g_vi (As := [.int (iI x1), .int (iI x2), .int (iI x3), .int (iI x4), .int (iI x5)]) (rest := [.int (iI r_2)]) S hG.1 hG.2.1 (vX12_drawn l hG.2.2.2.1 x1 x2 x3 x4 x5 hc_3) wV_GrownKindsLaw_188 (ec_83 (b := b) (cy := cy) (X := XD b cy S0) _) cpX12 (Nat.lt_of_lt_of_le (Nat.le_of_ble_eq_true rfl) hG.2.2.2.1) dL_law_1708 rfl hl.1 (ar := 5) (by decide +kernel) rfl ⟨Nat.le_of_ble_eq_true rfl, Nat.le_of_ble_eq_true rfl, hG.rcL, hG.rsL⟩ (Nat.le_of_ble_eq_true rfl) (fun rv uu H locs hp hGc => ?_)
  obtain ⟨rfl, rfl⟩ := hp
  refine wz ?_
  replace hG := hG.back hGc
  clear hGc
  obtain ⟨S_6, eS_6⟩ : ∃ q, q = msk S_5 S0 := ⟨_, rfl⟩
  rw [← eS_6] at hG
  replace hM := nx_at hM eS_6
  clear eS_6
  obtain ⟨hg_7, hM⟩ := gd_some hM
  refine gi_icmp_eq (tgt := 1854) hx hb dL_law_1711 (by decide) hg_7.1 hg_7.2 (fun c_8 => ?_) (fun c_8 => ?_)
  · replace hM := ifp hM c_8
    cases hM
    exact kk _ _ H locs ls hG hl
  · replace hM := ifn hM c_8
    cases hM
theorem wV_GrownKindsLaw_189 : gWV "GrownKindsLaw" 189 yX11_deal cX11_deal 7 (some .int) := ⟨wm_1612, wm_1613, wm_1614, wm_177, wm_1615, by decide +kernel, by decide +kernel⟩
theorem wV_GrownKindsLaw_192 : gWV "GrownKindsLaw" 192 yX12_deal cX12_deal 6 (some .int) := ⟨wm_2417, wm_2418, wm_2419, wm_188, wm_2420, by decide +kernel, by decide +kernel⟩
def mL_41 (x1 x2 x3 x4 x5 : Int) (S0 : St) : Option St := bd2 (mX11_deal S0 x1 x2 x3 x4) fun r_2 S_3 => nx (msk S_3 S0) fun S_4 => bd2 (mX12_deal S_4 x1 x2 x3 x4) fun r_6 S_7 => nx (msk S_7 S_4) fun S_8 => gd ((inI r_2) ∧ (inI r_6)) <| if r_2 = r_6 then (some (S_8)) else (none)
set_option maxHeartbeats 4000000 in
set_option maxRecDepth 100000 in
theorem lc_41 {p : Program} {l : Launch} {e : Env} {s : State} {m : MethodId} {below : List Frame} {meth : Method} {c : Code} {q0 : Nat} {xs : Nat → Int32} {D : va_G} {cy : Nat → ClassId} {b : Nat} {L : Nat} (hL : L ≤ 3072) (C0 : lw_At p s m meth c q0 L xs) (hbA : ¬ gA b q0) {i : Int} (hi : 0 ≤ i ∧ i + 6 ≤ L) {x1 x2 x3 x4 x5 : Int} (hx1 : (xs (i + 1).toNat).toInt = x1) (hx2 : (xs (i + 2).toNat).toInt = x2) (hx3 : (xs (i + 3).toNat).toInt = x3) (hx4 : (xs (i + 4).toNat).toInt = x4) (hx5 : (xs (i + 5).toNat).toInt = x5) {S0 S1 : St} (hM : mL_41 x1 x2 x3 x4 x5 S0 = some S1) (hOM : gle S1 OM) {ce sl : Nat} {H : Heap} {locs : List Loc} (hG : gX D cy b s H locs S0 ce sl OZ OM) {ls : Array Slot} (hl : lv_has ls 4 [(3, .int (iI i)), (2, .ref (b + 80)), (1, .ref (b + 0)), (0, .ref q0)]) (kk : ∀ (ce sl : Nat) (H : Heap) (locs : List Loc) (ls : Array Slot), gX D cy b s H locs S1 ce sl OZ OM → lv_has ls 4 [(3, .int (iI i)), (2, .ref (b + 80)), (1, .ref (b + 0)), (0, .ref q0)] → W p l e room_1 s m #[Value.ref q0] below meth c H locs ce sl (lw_Z below #[Value.ref q0] s) (F0 m 1854 ls [])) : W p l e room_1 s m #[Value.ref q0] below meth c H locs ce sl (lw_Z below #[Value.ref q0] s) (F0 m 1716 ls []) := by
  have hx := C0.1
  have hb := C0.2.1
  have S := lw_S C0
  unfold mL_41 at hM
  refine lv_aload_n hx hb dL_law_1716 rfl (lv_at hl 2 rfl) ?_
  refine lv_aload_n hx hb dL_law_1717 rfl (lv_at hl 3 rfl) ?_
  refine lv_iload_n hx hb dL_law_1718 rfl (lv_at hl 0 rfl) ?_
  refine lv_iconst (v := iI 1) hx hb dL_law_1719 (by decide) ?_
  refine gi_add hx hb dL_law_1720 ?_
  refine n_sld C0 hbA hG (by omega) hx1 dL_law_1721 ?_
  refine lv_aload_n hx hb dL_law_1722 rfl (lv_at hl 3 rfl) ?_
  refine lv_iload_n hx hb dL_law_1723 rfl (lv_at hl 0 rfl) ?_
  refine lv_iconst (v := iI 2) hx hb dL_law_1724 (by decide) ?_
  refine gi_add hx hb dL_law_1725 ?_
  refine n_sld C0 hbA hG (by omega) hx2 dL_law_1726 ?_
  refine lv_aload_n hx hb dL_law_1727 rfl (lv_at hl 3 rfl) ?_
  refine lv_iload_n hx hb dL_law_1728 rfl (lv_at hl 0 rfl) ?_
  refine lv_iconst (v := iI 3) hx hb dL_law_1729 (by decide) ?_
  refine gi_add hx hb dL_law_1730 ?_
  refine n_sld C0 hbA hG (by omega) hx3 dL_law_1731 ?_
  refine lv_aload_n hx hb dL_law_1732 rfl (lv_at hl 3 rfl) ?_
  refine lv_iload_n hx hb dL_law_1733 rfl (lv_at hl 0 rfl) ?_
  refine lv_iconst (v := iI 4) hx hb dL_law_1734 (by decide) ?_
  refine gi_add hx hb dL_law_1735 ?_
  refine n_sld C0 hbA hG (by omega) hx4 dL_law_1736 ?_
  obtain ⟨r_2, S_3, hc_1, hM⟩ := bd2_some hM
  refine g_vi (As := [.int (iI x1), .int (iI x2), .int (iI x3), .int (iI x4)]) (rest := []) S hG.1 hG.2.1 (vX11_deal l hG.2.2.2.1 x1 x2 x3 x4 hc_1) wV_GrownKindsLaw_189 (ec_0 (b := b) (cy := cy) (X := XD b cy S0) _) cpX11 (Nat.lt_of_lt_of_le (Nat.le_of_ble_eq_true rfl) hG.2.2.2.1) dL_law_1737 rfl hl.1 (ar := 4) (by decide +kernel) rfl ⟨Nat.le_of_ble_eq_true rfl, Nat.le_of_ble_eq_true rfl, hG.rcL, hG.rsL⟩ (Nat.le_of_ble_eq_true rfl) (fun rv uu H locs hp hGc => ?_)
  obtain ⟨rfl, rfl⟩ := hp
  refine wz ?_
  replace hG := hG.back hGc
  clear hGc
  obtain ⟨S_4, eS_4⟩ : ∃ q, q = msk S_3 S0 := ⟨_, rfl⟩
  rw [← eS_4] at hG
  replace hM := nx_at hM eS_4
  clear eS_4
  refine lv_aload_n hx hb dL_law_1740 rfl (lv_at hl 1 rfl) ?_
  refine lv_aload_n hx hb dL_law_1741 rfl (lv_at hl 3 rfl) ?_
  refine lv_iload_n hx hb dL_law_1742 rfl (lv_at hl 0 rfl) ?_
  refine lv_iconst (v := iI 1) hx hb dL_law_1743 (by decide) ?_
  refine gi_add hx hb dL_law_1744 ?_
  refine n_sld C0 hbA hG (by omega) hx1 dL_law_1745 ?_
  refine lv_aload_n hx hb dL_law_1746 rfl (lv_at hl 3 rfl) ?_
  refine lv_iload_n hx hb dL_law_1747 rfl (lv_at hl 0 rfl) ?_
  refine lv_iconst (v := iI 2) hx hb dL_law_1748 (by decide) ?_
  refine gi_add hx hb dL_law_1749 ?_
  refine n_sld C0 hbA hG (by omega) hx2 dL_law_1750 ?_
  refine lv_aload_n hx hb dL_law_1751 rfl (lv_at hl 3 rfl) ?_
  refine lv_iload_n hx hb dL_law_1752 rfl (lv_at hl 0 rfl) ?_
  refine lv_iconst (v := iI 3) hx hb dL_law_1753 (by decide) ?_
  refine gi_add hx hb dL_law_1754 ?_
  refine n_sld C0 hbA hG (by omega) hx3 dL_law_1755 ?_
  refine lv_aload_n hx hb dL_law_1756 rfl (lv_at hl 3 rfl) ?_
  refine lv_iload_n hx hb dL_law_1757 rfl (lv_at hl 0 rfl) ?_
  refine lv_iconst (v := iI 4) hx hb dL_law_1758 (by decide) ?_
  refine gi_add hx hb dL_law_1759 ?_
  refine n_sld C0 hbA hG (by omega) hx4 dL_law_1760 ?_
  obtain ⟨r_6, S_7, hc_5, hM⟩ := bd2_some hM
  refine g_vi (As := [.int (iI x1), .int (iI x2), .int (iI x3), .int (iI x4)]) (rest := [.int (iI r_2)]) S hG.1 hG.2.1 (vX12_deal l hG.2.2.2.1 x1 x2 x3 x4 hc_5) wV_GrownKindsLaw_192 (ec_83 (b := b) (cy := cy) (X := XD b cy S_4) _) cpX12 (Nat.lt_of_lt_of_le (Nat.le_of_ble_eq_true rfl) hG.2.2.2.1) dL_law_1761 rfl hl.1 (ar := 4) (by decide +kernel) rfl ⟨Nat.le_of_ble_eq_true rfl, Nat.le_of_ble_eq_true rfl, hG.rcL, hG.rsL⟩ (Nat.le_of_ble_eq_true rfl) (fun rv uu H locs hp hGc => ?_)
  obtain ⟨rfl, rfl⟩ := hp
  refine wz ?_
  replace hG := hG.back hGc
  clear hGc
  obtain ⟨S_8, eS_8⟩ : ∃ q, q = msk S_7 S_4 := ⟨_, rfl⟩
  rw [← eS_8] at hG
  replace hM := nx_at hM eS_8
  clear eS_8
  obtain ⟨hg_9, hM⟩ := gd_some hM
  refine gi_icmp_eq (tgt := 1854) hx hb dL_law_1764 (by decide) hg_9.1 hg_9.2 (fun c_10 => ?_) (fun c_10 => ?_)
  · replace hM := ifp hM c_10
    cases hM
    exact kk _ _ H locs ls hG hl
  · replace hM := ifn hM c_10
    cases hM
theorem wV_GrownKindsLaw_193 : gWV "GrownKindsLaw" 193 yX11_dealt cX11_dealt 1 (some .int) := ⟨wm_1622, wm_1623, wm_1624, wm_177, wm_1625, by decide +kernel, by decide +kernel⟩
theorem wV_GrownKindsLaw_196 : gWV "GrownKindsLaw" 196 yX12_dealt cX12_dealt 3 (some .int) := ⟨wm_2422, wm_2423, wm_2424, wm_188, wm_2425, by decide +kernel, by decide +kernel⟩
def mL_42 (x1 x2 x3 x4 x5 : Int) (S0 : St) : Option St := bd2 (mX11_dealt S0) fun r_2 S_3 => nx (msk S_3 S0) fun S_4 => bd2 (mX12_dealt S_4) fun r_6 S_7 => nx (msk S_7 S_4) fun S_8 => gd ((inI r_2) ∧ (inI r_6)) <| if r_2 = r_6 then (some (S_8)) else (none)
set_option maxHeartbeats 4000000 in
set_option maxRecDepth 100000 in
theorem lc_42 {p : Program} {l : Launch} {e : Env} {s : State} {m : MethodId} {below : List Frame} {meth : Method} {c : Code} {q0 : Nat} {xs : Nat → Int32} {D : va_G} {cy : Nat → ClassId} {b : Nat} {L : Nat} (hL : L ≤ 3072) (C0 : lw_At p s m meth c q0 L xs) (hbA : ¬ gA b q0) {i : Int} (hi : 0 ≤ i ∧ i + 6 ≤ L) {x1 x2 x3 x4 x5 : Int} (hx1 : (xs (i + 1).toNat).toInt = x1) (hx2 : (xs (i + 2).toNat).toInt = x2) (hx3 : (xs (i + 3).toNat).toInt = x3) (hx4 : (xs (i + 4).toNat).toInt = x4) (hx5 : (xs (i + 5).toNat).toInt = x5) {S0 S1 : St} (hM : mL_42 x1 x2 x3 x4 x5 S0 = some S1) (hOM : gle S1 OM) {ce sl : Nat} {H : Heap} {locs : List Loc} (hG : gX D cy b s H locs S0 ce sl OZ OM) {ls : Array Slot} (hl : lv_has ls 4 [(3, .int (iI i)), (2, .ref (b + 80)), (1, .ref (b + 0)), (0, .ref q0)]) (kk : ∀ (ce sl : Nat) (H : Heap) (locs : List Loc) (ls : Array Slot), gX D cy b s H locs S1 ce sl OZ OM → lv_has ls 4 [(3, .int (iI i)), (2, .ref (b + 80)), (1, .ref (b + 0)), (0, .ref q0)] → W p l e room_1 s m #[Value.ref q0] below meth c H locs ce sl (lw_Z below #[Value.ref q0] s) (F0 m 1854 ls [])) : W p l e room_1 s m #[Value.ref q0] below meth c H locs ce sl (lw_Z below #[Value.ref q0] s) (F0 m 1769 ls []) := by
  have hx := C0.1
  have hb := C0.2.1
  have S := lw_S C0
  unfold mL_42 at hM
  refine lv_aload_n hx hb dL_law_1769 rfl (lv_at hl 2 rfl) ?_
  obtain ⟨r_2, S_3, hc_1, hM⟩ := bd2_some hM
  refine g_vi (As := []) (rest := []) S hG.1 hG.2.1 (vX11_dealt l hG.2.2.2.1  hc_1) wV_GrownKindsLaw_193 (ec_0 (b := b) (cy := cy) (X := XD b cy S0) _) cpX11 (Nat.lt_of_lt_of_le (Nat.le_of_ble_eq_true rfl) hG.2.2.2.1) dL_law_1770 rfl hl.1 (ar := 0) (by decide +kernel) rfl ⟨Nat.le_of_ble_eq_true rfl, Nat.le_of_ble_eq_true rfl, hG.rcL, hG.rsL⟩ (Nat.le_of_ble_eq_true rfl) (fun rv uu H locs hp hGc => ?_)
  obtain ⟨rfl, rfl⟩ := hp
  refine wz ?_
  replace hG := hG.back hGc
  clear hGc
  obtain ⟨S_4, eS_4⟩ : ∃ q, q = msk S_3 S0 := ⟨_, rfl⟩
  rw [← eS_4] at hG
  replace hM := nx_at hM eS_4
  clear eS_4
  refine lv_aload_n hx hb dL_law_1773 rfl (lv_at hl 1 rfl) ?_
  obtain ⟨r_6, S_7, hc_5, hM⟩ := bd2_some hM
  refine g_vi (As := []) (rest := [.int (iI r_2)]) S hG.1 hG.2.1 (vX12_dealt l hG.2.2.2.1  hc_5) wV_GrownKindsLaw_196 (ec_83 (b := b) (cy := cy) (X := XD b cy S_4) _) cpX12 (Nat.lt_of_lt_of_le (Nat.le_of_ble_eq_true rfl) hG.2.2.2.1) dL_law_1774 rfl hl.1 (ar := 0) (by decide +kernel) rfl ⟨Nat.le_of_ble_eq_true rfl, Nat.le_of_ble_eq_true rfl, hG.rcL, hG.rsL⟩ (Nat.le_of_ble_eq_true rfl) (fun rv uu H locs hp hGc => ?_)
  obtain ⟨rfl, rfl⟩ := hp
  refine wz ?_
  replace hG := hG.back hGc
  clear hGc
  obtain ⟨S_8, eS_8⟩ : ∃ q, q = msk S_7 S_4 := ⟨_, rfl⟩
  rw [← eS_8] at hG
  replace hM := nx_at hM eS_8
  clear eS_8
  obtain ⟨hg_9, hM⟩ := gd_some hM
  refine gi_icmp_eq (tgt := 1854) hx hb dL_law_1777 (by decide) hg_9.1 hg_9.2 (fun c_10 => ?_) (fun c_10 => ?_)
  · replace hM := ifp hM c_10
    cases hM
    exact kk _ _ H locs ls hG hl
  · replace hM := ifn hM c_10
    cases hM
theorem wV_GrownKindsLaw_197 : gWV "GrownKindsLaw" 197 yX11_left cX11_left 1 (some .int) := ⟨wm_1636, wm_1637, wm_1638, wm_177, wm_1639, by decide +kernel, by decide +kernel⟩
theorem wV_GrownKindsLaw_200 : gWV "GrownKindsLaw" 200 yX12_left cX12_left 1 (some .int) := ⟨wm_2426, wm_2427, wm_2428, wm_188, wm_2429, by decide +kernel, by decide +kernel⟩
def mL_43 (x1 x2 x3 x4 x5 : Int) (S0 : St) : Option St := bd1 (mX11_left S0) fun r_2 => bd1 (mX12_left S0) fun r_4 => gd ((inI r_2) ∧ (inI r_4)) <| if r_2 = r_4 then (some (S0)) else (none)
set_option maxHeartbeats 4000000 in
set_option maxRecDepth 100000 in
theorem lc_43 {p : Program} {l : Launch} {e : Env} {s : State} {m : MethodId} {below : List Frame} {meth : Method} {c : Code} {q0 : Nat} {xs : Nat → Int32} {D : va_G} {cy : Nat → ClassId} {b : Nat} {L : Nat} (hL : L ≤ 3072) (C0 : lw_At p s m meth c q0 L xs) (hbA : ¬ gA b q0) {i : Int} (hi : 0 ≤ i ∧ i + 6 ≤ L) {x1 x2 x3 x4 x5 : Int} (hx1 : (xs (i + 1).toNat).toInt = x1) (hx2 : (xs (i + 2).toNat).toInt = x2) (hx3 : (xs (i + 3).toNat).toInt = x3) (hx4 : (xs (i + 4).toNat).toInt = x4) (hx5 : (xs (i + 5).toNat).toInt = x5) {S0 S1 : St} (hM : mL_43 x1 x2 x3 x4 x5 S0 = some S1) (hOM : gle S1 OM) {ce sl : Nat} {H : Heap} {locs : List Loc} (hG : gX D cy b s H locs S0 ce sl OZ OM) {ls : Array Slot} (hl : lv_has ls 4 [(3, .int (iI i)), (2, .ref (b + 80)), (1, .ref (b + 0)), (0, .ref q0)]) (kk : ∀ (ce sl : Nat) (H : Heap) (locs : List Loc) (ls : Array Slot), gX D cy b s H locs S1 ce sl OZ OM → lv_has ls 4 [(3, .int (iI i)), (2, .ref (b + 80)), (1, .ref (b + 0)), (0, .ref q0)] → W p l e room_1 s m #[Value.ref q0] below meth c H locs ce sl (lw_Z below #[Value.ref q0] s) (F0 m 1854 ls [])) : W p l e room_1 s m #[Value.ref q0] below meth c H locs ce sl (lw_Z below #[Value.ref q0] s) (F0 m 1782 ls []) := by
  have hx := C0.1
  have hb := C0.2.1
  have S := lw_S C0
  unfold mL_43 at hM
  refine lv_aload_n hx hb dL_law_1782 rfl (lv_at hl 2 rfl) ?_
  obtain ⟨r_2, hc_1, hM⟩ := bd1_some hM
  refine g_vi (As := []) (rest := []) S hG.1 hG.2.1 (vX11_left l hG.2.2.2.1  hc_1) wV_GrownKindsLaw_197 (ec_0 (b := b) (cy := cy) (X := XD b cy S0) _) cpX11 (Nat.lt_of_lt_of_le (Nat.le_of_ble_eq_true rfl) hG.2.2.2.1) dL_law_1783 rfl hl.1 (ar := 0) (by decide +kernel) rfl ⟨Nat.le_of_ble_eq_true rfl, Nat.le_of_ble_eq_true rfl, hG.rcL, hG.rsL⟩ (Nat.le_of_ble_eq_true rfl) (fun rv uu H locs hp hGc => ?_)
  obtain ⟨rfl, rfl⟩ := hp
  refine wz ?_
  replace hG := hG.same hGc
  clear hGc
  refine lv_aload_n hx hb dL_law_1786 rfl (lv_at hl 1 rfl) ?_
  obtain ⟨r_4, hc_3, hM⟩ := bd1_some hM
  refine g_vi (As := []) (rest := [.int (iI r_2)]) S hG.1 hG.2.1 (vX12_left l hG.2.2.2.1  hc_3) wV_GrownKindsLaw_200 (ec_83 (b := b) (cy := cy) (X := XD b cy S0) _) cpX12 (Nat.lt_of_lt_of_le (Nat.le_of_ble_eq_true rfl) hG.2.2.2.1) dL_law_1787 rfl hl.1 (ar := 0) (by decide +kernel) rfl ⟨Nat.le_of_ble_eq_true rfl, Nat.le_of_ble_eq_true rfl, hG.rcL, hG.rsL⟩ (Nat.le_of_ble_eq_true rfl) (fun rv uu H locs hp hGc => ?_)
  obtain ⟨rfl, rfl⟩ := hp
  refine wz ?_
  replace hG := hG.same hGc
  clear hGc
  obtain ⟨hg_5, hM⟩ := gd_some hM
  refine gi_icmp_eq (tgt := 1854) hx hb dL_law_1790 (by decide) hg_5.1 hg_5.2 (fun c_6 => ?_) (fun c_6 => ?_)
  · replace hM := ifp hM c_6
    cases hM
    exact kk _ _ H locs ls hG hl
  · replace hM := ifn hM c_6
    cases hM
theorem wV_GrownKindsLaw_201 : gWV "GrownKindsLaw" 201 yX11_takes cX11_takes 3 (some .int) := ⟨wm_1640, wm_1641, wm_1642, wm_177, wm_1643, by decide +kernel, by decide +kernel⟩
theorem wV_GrownKindsLaw_204 : gWV "GrownKindsLaw" 204 yX12_takes cX12_takes 3 (some .int) := ⟨wm_2430, wm_2431, wm_2432, wm_188, wm_2433, by decide +kernel, by decide +kernel⟩
def mL_44 (x1 x2 x3 x4 x5 : Int) (S0 : St) : Option St := bd2 (mX11_takes S0 x1 x2) fun r_2 S_3 => nx (msk S_3 S0) fun S_4 => bd2 (mX12_takes S_4 x1 x2) fun r_6 S_7 => nx (msk S_7 S_4) fun S_8 => gd ((inI r_2) ∧ (inI r_6)) <| if r_2 = r_6 then (some (S_8)) else (none)
set_option maxHeartbeats 4000000 in
set_option maxRecDepth 100000 in
theorem lc_44 {p : Program} {l : Launch} {e : Env} {s : State} {m : MethodId} {below : List Frame} {meth : Method} {c : Code} {q0 : Nat} {xs : Nat → Int32} {D : va_G} {cy : Nat → ClassId} {b : Nat} {L : Nat} (hL : L ≤ 3072) (C0 : lw_At p s m meth c q0 L xs) (hbA : ¬ gA b q0) {i : Int} (hi : 0 ≤ i ∧ i + 6 ≤ L) {x1 x2 x3 x4 x5 : Int} (hx1 : (xs (i + 1).toNat).toInt = x1) (hx2 : (xs (i + 2).toNat).toInt = x2) (hx3 : (xs (i + 3).toNat).toInt = x3) (hx4 : (xs (i + 4).toNat).toInt = x4) (hx5 : (xs (i + 5).toNat).toInt = x5) {S0 S1 : St} (hM : mL_44 x1 x2 x3 x4 x5 S0 = some S1) (hOM : gle S1 OM) {ce sl : Nat} {H : Heap} {locs : List Loc} (hG : gX D cy b s H locs S0 ce sl OZ OM) {ls : Array Slot} (hl : lv_has ls 4 [(3, .int (iI i)), (2, .ref (b + 80)), (1, .ref (b + 0)), (0, .ref q0)]) (kk : ∀ (ce sl : Nat) (H : Heap) (locs : List Loc) (ls : Array Slot), gX D cy b s H locs S1 ce sl OZ OM → lv_has ls 4 [(3, .int (iI i)), (2, .ref (b + 80)), (1, .ref (b + 0)), (0, .ref q0)] → W p l e room_1 s m #[Value.ref q0] below meth c H locs ce sl (lw_Z below #[Value.ref q0] s) (F0 m 1854 ls [])) : W p l e room_1 s m #[Value.ref q0] below meth c H locs ce sl (lw_Z below #[Value.ref q0] s) (F0 m 1795 ls []) := by
  have hx := C0.1
  have hb := C0.2.1
  have S := lw_S C0
  unfold mL_44 at hM
  refine lv_aload_n hx hb dL_law_1795 rfl (lv_at hl 2 rfl) ?_
  refine lv_aload_n hx hb dL_law_1796 rfl (lv_at hl 3 rfl) ?_
  refine lv_iload_n hx hb dL_law_1797 rfl (lv_at hl 0 rfl) ?_
  refine lv_iconst (v := iI 1) hx hb dL_law_1798 (by decide) ?_
  refine gi_add hx hb dL_law_1799 ?_
  refine n_sld C0 hbA hG (by omega) hx1 dL_law_1800 ?_
  refine lv_aload_n hx hb dL_law_1801 rfl (lv_at hl 3 rfl) ?_
  refine lv_iload_n hx hb dL_law_1802 rfl (lv_at hl 0 rfl) ?_
  refine lv_iconst (v := iI 2) hx hb dL_law_1803 (by decide) ?_
  refine gi_add hx hb dL_law_1804 ?_
  refine n_sld C0 hbA hG (by omega) hx2 dL_law_1805 ?_
  obtain ⟨r_2, S_3, hc_1, hM⟩ := bd2_some hM
  refine g_vi (As := [.int (iI x1), .int (iI x2)]) (rest := []) S hG.1 hG.2.1 (vX11_takes l hG.2.2.2.1 x1 x2 hc_1) wV_GrownKindsLaw_201 (ec_0 (b := b) (cy := cy) (X := XD b cy S0) _) cpX11 (Nat.lt_of_lt_of_le (Nat.le_of_ble_eq_true rfl) hG.2.2.2.1) dL_law_1806 rfl hl.1 (ar := 2) (by decide +kernel) rfl ⟨Nat.le_of_ble_eq_true rfl, Nat.le_of_ble_eq_true rfl, hG.rcL, hG.rsL⟩ (Nat.le_of_ble_eq_true rfl) (fun rv uu H locs hp hGc => ?_)
  obtain ⟨rfl, rfl⟩ := hp
  refine wz ?_
  replace hG := hG.back hGc
  clear hGc
  obtain ⟨S_4, eS_4⟩ : ∃ q, q = msk S_3 S0 := ⟨_, rfl⟩
  rw [← eS_4] at hG
  replace hM := nx_at hM eS_4
  clear eS_4
  refine lv_aload_n hx hb dL_law_1809 rfl (lv_at hl 1 rfl) ?_
  refine lv_aload_n hx hb dL_law_1810 rfl (lv_at hl 3 rfl) ?_
  refine lv_iload_n hx hb dL_law_1811 rfl (lv_at hl 0 rfl) ?_
  refine lv_iconst (v := iI 1) hx hb dL_law_1812 (by decide) ?_
  refine gi_add hx hb dL_law_1813 ?_
  refine n_sld C0 hbA hG (by omega) hx1 dL_law_1814 ?_
  refine lv_aload_n hx hb dL_law_1815 rfl (lv_at hl 3 rfl) ?_
  refine lv_iload_n hx hb dL_law_1816 rfl (lv_at hl 0 rfl) ?_
  refine lv_iconst (v := iI 2) hx hb dL_law_1817 (by decide) ?_
  refine gi_add hx hb dL_law_1818 ?_
  refine n_sld C0 hbA hG (by omega) hx2 dL_law_1819 ?_
  obtain ⟨r_6, S_7, hc_5, hM⟩ := bd2_some hM
  refine g_vi (As := [.int (iI x1), .int (iI x2)]) (rest := [.int (iI r_2)]) S hG.1 hG.2.1 (vX12_takes l hG.2.2.2.1 x1 x2 hc_5) wV_GrownKindsLaw_204 (ec_83 (b := b) (cy := cy) (X := XD b cy S_4) _) cpX12 (Nat.lt_of_lt_of_le (Nat.le_of_ble_eq_true rfl) hG.2.2.2.1) dL_law_1820 rfl hl.1 (ar := 2) (by decide +kernel) rfl ⟨Nat.le_of_ble_eq_true rfl, Nat.le_of_ble_eq_true rfl, hG.rcL, hG.rsL⟩ (Nat.le_of_ble_eq_true rfl) (fun rv uu H locs hp hGc => ?_)
  obtain ⟨rfl, rfl⟩ := hp
  refine wz ?_
  replace hG := hG.back hGc
  clear hGc
  obtain ⟨S_8, eS_8⟩ : ∃ q, q = msk S_7 S_4 := ⟨_, rfl⟩
  rw [← eS_8] at hG
  replace hM := nx_at hM eS_8
  clear eS_8
  obtain ⟨hg_9, hM⟩ := gd_some hM
  refine gi_icmp_eq (tgt := 1854) hx hb dL_law_1823 (by decide) hg_9.1 hg_9.2 (fun c_10 => ?_) (fun c_10 => ?_)
  · replace hM := ifp hM c_10
    cases hM
    exact kk _ _ H locs ls hG hl
  · replace hM := ifn hM c_10
    cases hM
theorem wV_GrownKindsLaw_205 : gWV "GrownKindsLaw" 205 yX11_undo cX11_undo 1 (some .int) := ⟨wm_1651, wm_1652, wm_1653, wm_177, wm_1654, by decide +kernel, by decide +kernel⟩
theorem wV_GrownKindsLaw_208 : gWV "GrownKindsLaw" 208 yX12_undo cX12_undo 1 (some .int) := ⟨wm_2437, wm_2438, wm_2439, wm_188, wm_2440, by decide +kernel, by decide +kernel⟩
def mL_45 (x1 x2 x3 x4 x5 : Int) (S0 : St) : Option St := bd2 (mX11_undo S0) fun r_2 S_3 => nx (msk S_3 S0) fun S_4 => bd2 (mX12_undo S_4) fun r_6 S_7 => nx (msk S_7 S_4) fun S_8 => gd ((inI r_2) ∧ (inI r_6)) <| if r_2 = r_6 then (some (S_8)) else (none)
set_option maxHeartbeats 4000000 in
set_option maxRecDepth 100000 in
theorem lc_45 {p : Program} {l : Launch} {e : Env} {s : State} {m : MethodId} {below : List Frame} {meth : Method} {c : Code} {q0 : Nat} {xs : Nat → Int32} {D : va_G} {cy : Nat → ClassId} {b : Nat} {L : Nat} (hL : L ≤ 3072) (C0 : lw_At p s m meth c q0 L xs) (hbA : ¬ gA b q0) {i : Int} (hi : 0 ≤ i ∧ i + 6 ≤ L) {x1 x2 x3 x4 x5 : Int} (hx1 : (xs (i + 1).toNat).toInt = x1) (hx2 : (xs (i + 2).toNat).toInt = x2) (hx3 : (xs (i + 3).toNat).toInt = x3) (hx4 : (xs (i + 4).toNat).toInt = x4) (hx5 : (xs (i + 5).toNat).toInt = x5) {S0 S1 : St} (hM : mL_45 x1 x2 x3 x4 x5 S0 = some S1) (hOM : gle S1 OM) {ce sl : Nat} {H : Heap} {locs : List Loc} (hG : gX D cy b s H locs S0 ce sl OZ OM) {ls : Array Slot} (hl : lv_has ls 4 [(3, .int (iI i)), (2, .ref (b + 80)), (1, .ref (b + 0)), (0, .ref q0)]) (kk : ∀ (ce sl : Nat) (H : Heap) (locs : List Loc) (ls : Array Slot), gX D cy b s H locs S1 ce sl OZ OM → lv_has ls 4 [(3, .int (iI i)), (2, .ref (b + 80)), (1, .ref (b + 0)), (0, .ref q0)] → W p l e room_1 s m #[Value.ref q0] below meth c H locs ce sl (lw_Z below #[Value.ref q0] s) (F0 m 1854 ls [])) : W p l e room_1 s m #[Value.ref q0] below meth c H locs ce sl (lw_Z below #[Value.ref q0] s) (F0 m 1828 ls []) := by
  have hx := C0.1
  have hb := C0.2.1
  have S := lw_S C0
  unfold mL_45 at hM
  refine lv_aload_n hx hb dL_law_1828 rfl (lv_at hl 2 rfl) ?_
  obtain ⟨r_2, S_3, hc_1, hM⟩ := bd2_some hM
  refine g_vi (As := []) (rest := []) S hG.1 hG.2.1 (vX11_undo l hG.2.2.2.1  hc_1) wV_GrownKindsLaw_205 (ec_0 (b := b) (cy := cy) (X := XD b cy S0) _) cpX11 (Nat.lt_of_lt_of_le (Nat.le_of_ble_eq_true rfl) hG.2.2.2.1) dL_law_1829 rfl hl.1 (ar := 0) (by decide +kernel) rfl ⟨Nat.le_of_ble_eq_true rfl, Nat.le_of_ble_eq_true rfl, hG.rcL, hG.rsL⟩ (Nat.le_of_ble_eq_true rfl) (fun rv uu H locs hp hGc => ?_)
  obtain ⟨rfl, rfl⟩ := hp
  refine wz ?_
  replace hG := hG.back hGc
  clear hGc
  obtain ⟨S_4, eS_4⟩ : ∃ q, q = msk S_3 S0 := ⟨_, rfl⟩
  rw [← eS_4] at hG
  replace hM := nx_at hM eS_4
  clear eS_4
  refine lv_aload_n hx hb dL_law_1832 rfl (lv_at hl 1 rfl) ?_
  obtain ⟨r_6, S_7, hc_5, hM⟩ := bd2_some hM
  refine g_vi (As := []) (rest := [.int (iI r_2)]) S hG.1 hG.2.1 (vX12_undo l hG.2.2.2.1  hc_5) wV_GrownKindsLaw_208 (ec_83 (b := b) (cy := cy) (X := XD b cy S_4) _) cpX12 (Nat.lt_of_lt_of_le (Nat.le_of_ble_eq_true rfl) hG.2.2.2.1) dL_law_1833 rfl hl.1 (ar := 0) (by decide +kernel) rfl ⟨Nat.le_of_ble_eq_true rfl, Nat.le_of_ble_eq_true rfl, hG.rcL, hG.rsL⟩ (Nat.le_of_ble_eq_true rfl) (fun rv uu H locs hp hGc => ?_)
  obtain ⟨rfl, rfl⟩ := hp
  refine wz ?_
  replace hG := hG.back hGc
  clear hGc
  obtain ⟨S_8, eS_8⟩ : ∃ q, q = msk S_7 S_4 := ⟨_, rfl⟩
  rw [← eS_8] at hG
  replace hM := nx_at hM eS_8
  clear eS_8
  obtain ⟨hg_9, hM⟩ := gd_some hM
  refine gi_icmp_eq (tgt := 1854) hx hb dL_law_1836 (by decide) hg_9.1 hg_9.2 (fun c_10 => ?_) (fun c_10 => ?_)
  · replace hM := ifp hM c_10
    cases hM
    exact kk _ _ H locs ls hG hl
  · replace hM := ifn hM c_10
    cases hM
theorem wV_GrownKindsLaw_209 : gWV "GrownKindsLaw" 209 yX11_anew cX11_anew 3 (some .int) := ⟨wm_1659, wm_1660, wm_1661, wm_177, wm_1662, by decide +kernel, by decide +kernel⟩
theorem wV_GrownKindsLaw_212 : gWV "GrownKindsLaw" 212 yX12_anew cX12_anew 2 (some .int) := ⟨wm_2445, wm_2446, wm_2447, wm_188, wm_2448, by decide +kernel, by decide +kernel⟩
def mL_46 (x1 x2 x3 x4 x5 : Int) (S0 : St) : Option St := bd2 (mX11_anew S0) fun r_2 S_3 => nx (msk S_3 S0) fun S_4 => bd2 (mX12_anew S_4) fun r_6 S_7 => nx (msk S_7 S_4) fun S_8 => gd ((inI r_2) ∧ (inI r_6)) <| if r_2 = r_6 then (some (S_8)) else (none)
set_option maxHeartbeats 4000000 in
set_option maxRecDepth 100000 in
theorem lc_46 {p : Program} {l : Launch} {e : Env} {s : State} {m : MethodId} {below : List Frame} {meth : Method} {c : Code} {q0 : Nat} {xs : Nat → Int32} {D : va_G} {cy : Nat → ClassId} {b : Nat} {L : Nat} (hL : L ≤ 3072) (C0 : lw_At p s m meth c q0 L xs) (hbA : ¬ gA b q0) {i : Int} (hi : 0 ≤ i ∧ i + 6 ≤ L) {x1 x2 x3 x4 x5 : Int} (hx1 : (xs (i + 1).toNat).toInt = x1) (hx2 : (xs (i + 2).toNat).toInt = x2) (hx3 : (xs (i + 3).toNat).toInt = x3) (hx4 : (xs (i + 4).toNat).toInt = x4) (hx5 : (xs (i + 5).toNat).toInt = x5) {S0 S1 : St} (hM : mL_46 x1 x2 x3 x4 x5 S0 = some S1) (hOM : gle S1 OM) {ce sl : Nat} {H : Heap} {locs : List Loc} (hG : gX D cy b s H locs S0 ce sl OZ OM) {ls : Array Slot} (hl : lv_has ls 4 [(3, .int (iI i)), (2, .ref (b + 80)), (1, .ref (b + 0)), (0, .ref q0)]) (kk : ∀ (ce sl : Nat) (H : Heap) (locs : List Loc) (ls : Array Slot), gX D cy b s H locs S1 ce sl OZ OM → lv_has ls 4 [(3, .int (iI i)), (2, .ref (b + 80)), (1, .ref (b + 0)), (0, .ref q0)] → W p l e room_1 s m #[Value.ref q0] below meth c H locs ce sl (lw_Z below #[Value.ref q0] s) (F0 m 1854 ls [])) : W p l e room_1 s m #[Value.ref q0] below meth c H locs ce sl (lw_Z below #[Value.ref q0] s) (F0 m 1841 ls []) := by
  have hx := C0.1
  have hb := C0.2.1
  have S := lw_S C0
  unfold mL_46 at hM
  refine lv_aload_n hx hb dL_law_1841 rfl (lv_at hl 2 rfl) ?_
  obtain ⟨r_2, S_3, hc_1, hM⟩ := bd2_some hM
  refine g_vi (As := []) (rest := []) S hG.1 hG.2.1 (vX11_anew l hG.2.2.2.1  hc_1) wV_GrownKindsLaw_209 (ec_0 (b := b) (cy := cy) (X := XD b cy S0) _) cpX11 (Nat.lt_of_lt_of_le (Nat.le_of_ble_eq_true rfl) hG.2.2.2.1) dL_law_1842 rfl hl.1 (ar := 0) (by decide +kernel) rfl ⟨Nat.le_of_ble_eq_true rfl, Nat.le_of_ble_eq_true rfl, hG.rcL, hG.rsL⟩ (Nat.le_of_ble_eq_true rfl) (fun rv uu H locs hp hGc => ?_)
  obtain ⟨rfl, rfl⟩ := hp
  refine wz ?_
  replace hG := hG.back hGc
  clear hGc
  obtain ⟨S_4, eS_4⟩ : ∃ q, q = msk S_3 S0 := ⟨_, rfl⟩
  rw [← eS_4] at hG
  replace hM := nx_at hM eS_4
  clear eS_4
  refine lv_aload_n hx hb dL_law_1845 rfl (lv_at hl 1 rfl) ?_
  obtain ⟨r_6, S_7, hc_5, hM⟩ := bd2_some hM
  refine g_vi (As := []) (rest := [.int (iI r_2)]) S hG.1 hG.2.1 (vX12_anew l hG.2.2.2.1  hc_5) wV_GrownKindsLaw_212 (ec_83 (b := b) (cy := cy) (X := XD b cy S_4) _) cpX12 (Nat.lt_of_lt_of_le (Nat.le_of_ble_eq_true rfl) hG.2.2.2.1) dL_law_1846 rfl hl.1 (ar := 0) (by decide +kernel) rfl ⟨Nat.le_of_ble_eq_true rfl, Nat.le_of_ble_eq_true rfl, hG.rcL, hG.rsL⟩ (Nat.le_of_ble_eq_true rfl) (fun rv uu H locs hp hGc => ?_)
  obtain ⟨rfl, rfl⟩ := hp
  refine wz ?_
  replace hG := hG.back hGc
  clear hGc
  obtain ⟨S_8, eS_8⟩ : ∃ q, q = msk S_7 S_4 := ⟨_, rfl⟩
  rw [← eS_8] at hG
  replace hM := nx_at hM eS_8
  clear eS_8
  obtain ⟨hg_9, hM⟩ := gd_some hM
  refine gi_icmp_eq (tgt := 1854) hx hb dL_law_1849 (by decide) hg_9.1 hg_9.2 (fun c_10 => ?_) (fun c_10 => ?_)
  · replace hM := ifp hM c_10
    cases hM
    exact kk _ _ H locs ls hG hl
  · replace hM := ifn hM c_10
    cases hM
