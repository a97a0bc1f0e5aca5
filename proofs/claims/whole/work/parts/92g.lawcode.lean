/-! Part 92g: the law's instructions -/
theorem dL_law_1353 : decode code 1353 = .ok (.aload_n 2, 1) := by decide +kernel
theorem dL_law_1354 : decode code 1354 = .ok (.invokevirtual 219, 3) := by decide +kernel
theorem dL_law_1357 : decode code 1357 = .ok (.if_icmp .eq 1556, 3) := by decide +kernel
theorem dL_law_1360 : decode code 1360 = .ok (.iconst 0, 1) := by decide +kernel
theorem dL_law_1361 : decode code 1361 = .ok (.ireturn, 1) := by decide +kernel
theorem dL_law_1362 : decode code 1362 = .ok (.aload_n 1, 1) := by decide +kernel
theorem dL_law_1363 : decode code 1363 = .ok (.aload_n 0, 1) := by decide +kernel
theorem dL_law_1364 : decode code 1364 = .ok (.iload 5, 2) := by decide +kernel
theorem dL_law_1366 : decode code 1366 = .ok (.iconst 1, 1) := by decide +kernel
theorem dL_law_1367 : decode code 1367 = .ok (.iadd, 1) := by decide +kernel
theorem dL_law_1368 : decode code 1368 = .ok (.iaload, 1) := by decide +kernel
theorem dL_law_1369 : decode code 1369 = .ok (.aload_n 3, 1) := by decide +kernel
theorem dL_law_1370 : decode code 1370 = .ok (.invokestatic 220, 3) := by decide +kernel
theorem dL_law_1373 : decode code 1373 = .ok (.istore 6, 2) := by decide +kernel
theorem dL_law_1375 : decode code 1375 = .ok (.aload_n 2, 1) := by decide +kernel
theorem dL_law_1376 : decode code 1376 = .ok (.aload_n 0, 1) := by decide +kernel
theorem dL_law_1377 : decode code 1377 = .ok (.iload 5, 2) := by decide +kernel
theorem dL_law_1379 : decode code 1379 = .ok (.iconst 1, 1) := by decide +kernel
theorem dL_law_1380 : decode code 1380 = .ok (.iadd, 1) := by decide +kernel
theorem dL_law_1381 : decode code 1381 = .ok (.iaload, 1) := by decide +kernel
theorem dL_law_1382 : decode code 1382 = .ok (.invokevirtual 222, 3) := by decide +kernel
theorem dL_law_1385 : decode code 1385 = .ok (.istore 7, 2) := by decide +kernel
theorem dL_law_1387 : decode code 1387 = .ok (.aload_n 2, 1) := by decide +kernel
theorem dL_law_1388 : decode code 1388 = .ok (.invokevirtual 169, 3) := by decide +kernel
theorem dL_law_1391 : decode code 1391 = .ok (.iload 6, 2) := by decide +kernel
theorem dL_law_1393 : decode code 1393 = .ok (.if_icmp .eq 5, 3) := by decide +kernel
theorem dL_law_1396 : decode code 1396 = .ok (.iconst 0, 1) := by decide +kernel
theorem dL_law_1397 : decode code 1397 = .ok (.ireturn, 1) := by decide +kernel
theorem dL_law_1398 : decode code 1398 = .ok (.iload 6, 2) := by decide +kernel
theorem dL_law_1400 : decode code 1400 = .ok (.ifCond .ne 15, 3) := by decide +kernel
theorem dL_law_1403 : decode code 1403 = .ok (.aload_n 3, 1) := by decide +kernel
theorem dL_law_1404 : decode code 1404 = .ok (.iconst 0, 1) := by decide +kernel
theorem dL_law_1405 : decode code 1405 = .ok (.laload, 1) := by decide +kernel
theorem dL_law_1406 : decode code 1406 = .ok (.iload 7, 2) := by decide +kernel
theorem dL_law_1408 : decode code 1408 = .ok (.i2l, 1) := by decide +kernel
theorem dL_law_1409 : decode code 1409 = .ok (.lcmp, 1) := by decide +kernel
theorem dL_law_1410 : decode code 1410 = .ok (.ifCond .eq 5, 3) := by decide +kernel
theorem dL_law_1413 : decode code 1413 = .ok (.iconst 0, 1) := by decide +kernel
theorem dL_law_1414 : decode code 1414 = .ok (.ireturn, 1) := by decide +kernel
theorem dL_law_1415 : decode code 1415 = .ok (.goto 1498, 3) := by decide +kernel
theorem dL_law_1418 : decode code 1418 = .ok (.aload_n 1, 1) := by decide +kernel
theorem dL_law_1419 : decode code 1419 = .ok (.aload_n 0, 1) := by decide +kernel
theorem dL_law_1420 : decode code 1420 = .ok (.iload 5, 2) := by decide +kernel
theorem dL_law_1422 : decode code 1422 = .ok (.iconst 1, 1) := by decide +kernel
theorem dL_law_1423 : decode code 1423 = .ok (.iadd, 1) := by decide +kernel
theorem dL_law_1424 : decode code 1424 = .ok (.iaload, 1) := by decide +kernel
theorem dL_law_1425 : decode code 1425 = .ok (.aload 4, 2) := by decide +kernel
theorem dL_law_1427 : decode code 1427 = .ok (.invokestatic 223, 3) := by decide +kernel
theorem dL_law_1430 : decode code 1430 = .ok (.istore 6, 2) := by decide +kernel
theorem dL_law_1432 : decode code 1432 = .ok (.aload_n 2, 1) := by decide +kernel
theorem dL_law_1433 : decode code 1433 = .ok (.aload_n 0, 1) := by decide +kernel
theorem dL_law_1434 : decode code 1434 = .ok (.iload 5, 2) := by decide +kernel
theorem dL_law_1436 : decode code 1436 = .ok (.iconst 1, 1) := by decide +kernel
theorem dL_law_1437 : decode code 1437 = .ok (.iadd, 1) := by decide +kernel
theorem dL_law_1438 : decode code 1438 = .ok (.iaload, 1) := by decide +kernel
theorem dL_law_1439 : decode code 1439 = .ok (.invokevirtual 226, 3) := by decide +kernel
theorem dL_law_1442 : decode code 1442 = .ok (.dstore 7, 2) := by decide +kernel
theorem dL_law_1444 : decode code 1444 = .ok (.aload_n 2, 1) := by decide +kernel
theorem dL_law_1445 : decode code 1445 = .ok (.invokevirtual 169, 3) := by decide +kernel
theorem dL_law_1448 : decode code 1448 = .ok (.iload 6, 2) := by decide +kernel
theorem dL_law_1450 : decode code 1450 = .ok (.if_icmp .eq 5, 3) := by decide +kernel
theorem dL_law_1453 : decode code 1453 = .ok (.iconst 0, 1) := by decide +kernel
theorem dL_law_1454 : decode code 1454 = .ok (.ireturn, 1) := by decide +kernel
theorem dL_law_1455 : decode code 1455 = .ok (.iload 6, 2) := by decide +kernel
theorem dL_law_1457 : decode code 1457 = .ok (.ifCond .ne 35, 3) := by decide +kernel
theorem dL_law_1460 : decode code 1460 = .ok (.aload 4, 2) := by decide +kernel
theorem dL_law_1462 : decode code 1462 = .ok (.iconst 0, 1) := by decide +kernel
theorem dL_law_1463 : decode code 1463 = .ok (.daload, 1) := by decide +kernel
theorem dL_law_1464 : decode code 1464 = .ok (.dload 7, 2) := by decide +kernel
theorem dL_law_1466 : decode code 1466 = .ok (.dcmp .l, 1) := by decide +kernel
theorem dL_law_1467 : decode code 1467 = .ok (.ifCond .eq 25, 3) := by decide +kernel
theorem dL_law_1470 : decode code 1470 = .ok (.aload 4, 2) := by decide +kernel
theorem dL_law_1472 : decode code 1472 = .ok (.iconst 0, 1) := by decide +kernel
theorem dL_law_1473 : decode code 1473 = .ok (.daload, 1) := by decide +kernel
theorem dL_law_1474 : decode code 1474 = .ok (.aload 4, 2) := by decide +kernel
theorem dL_law_1476 : decode code 1476 = .ok (.iconst 0, 1) := by decide +kernel
theorem dL_law_1477 : decode code 1477 = .ok (.daload, 1) := by decide +kernel
theorem dL_law_1478 : decode code 1478 = .ok (.dcmp .l, 1) := by decide +kernel
theorem dL_law_1479 : decode code 1479 = .ok (.ifCond .eq 11, 3) := by decide +kernel
theorem dL_law_1482 : decode code 1482 = .ok (.dload 7, 2) := by decide +kernel
theorem dL_law_1484 : decode code 1484 = .ok (.dload 7, 2) := by decide +kernel
theorem dL_law_1486 : decode code 1486 = .ok (.dcmp .l, 1) := by decide +kernel
theorem dL_law_1487 : decode code 1487 = .ok (.ifCond .ne 5, 3) := by decide +kernel
theorem dL_law_1490 : decode code 1490 = .ok (.iconst 0, 1) := by decide +kernel
theorem dL_law_1491 : decode code 1491 = .ok (.ireturn, 1) := by decide +kernel
theorem dL_law_1492 : decode code 1492 = .ok (.goto 1421, 3) := by decide +kernel
theorem dL_law_1495 : decode code 1495 = .ok (.aload_n 1, 1) := by decide +kernel
theorem dL_law_1496 : decode code 1496 = .ok (.aload_n 0, 1) := by decide +kernel
theorem dL_law_1497 : decode code 1497 = .ok (.iload 5, 2) := by decide +kernel
theorem dL_law_1499 : decode code 1499 = .ok (.iconst 1, 1) := by decide +kernel
theorem dL_law_1500 : decode code 1500 = .ok (.iadd, 1) := by decide +kernel
theorem dL_law_1501 : decode code 1501 = .ok (.iaload, 1) := by decide +kernel
theorem dL_law_1502 : decode code 1502 = .ok (.aload 4, 2) := by decide +kernel
theorem dL_law_1504 : decode code 1504 = .ok (.invokestatic 227, 3) := by decide +kernel
theorem dL_law_1507 : decode code 1507 = .ok (.istore 6, 2) := by decide +kernel
theorem dL_law_1509 : decode code 1509 = .ok (.aload_n 2, 1) := by decide +kernel
theorem dL_law_1510 : decode code 1510 = .ok (.aload_n 0, 1) := by decide +kernel
theorem dL_law_1511 : decode code 1511 = .ok (.iload 5, 2) := by decide +kernel
theorem dL_law_1513 : decode code 1513 = .ok (.iconst 1, 1) := by decide +kernel
theorem dL_law_1514 : decode code 1514 = .ok (.iadd, 1) := by decide +kernel
theorem dL_law_1515 : decode code 1515 = .ok (.iaload, 1) := by decide +kernel
theorem dL_law_1516 : decode code 1516 = .ok (.invokevirtual 229, 3) := by decide +kernel
theorem dL_law_1519 : decode code 1519 = .ok (.fstore 7, 2) := by decide +kernel
theorem dL_law_1521 : decode code 1521 = .ok (.aload_n 2, 1) := by decide +kernel
theorem dL_law_1522 : decode code 1522 = .ok (.invokevirtual 169, 3) := by decide +kernel
theorem dL_law_1525 : decode code 1525 = .ok (.iload 6, 2) := by decide +kernel
theorem dL_law_1527 : decode code 1527 = .ok (.if_icmp .eq 5, 3) := by decide +kernel
theorem dL_law_1530 : decode code 1530 = .ok (.iconst 0, 1) := by decide +kernel
theorem dL_law_1531 : decode code 1531 = .ok (.ireturn, 1) := by decide +kernel
theorem dL_law_1532 : decode code 1532 = .ok (.iload 6, 2) := by decide +kernel
theorem dL_law_1534 : decode code 1534 = .ok (.ifCond .ne 36, 3) := by decide +kernel
theorem dL_law_1537 : decode code 1537 = .ok (.aload 4, 2) := by decide +kernel
theorem dL_law_1539 : decode code 1539 = .ok (.iconst 0, 1) := by decide +kernel
theorem dL_law_1540 : decode code 1540 = .ok (.daload, 1) := by decide +kernel
theorem dL_law_1541 : decode code 1541 = .ok (.fload 7, 2) := by decide +kernel
theorem dL_law_1543 : decode code 1543 = .ok (.f2d, 1) := by decide +kernel
theorem dL_law_1544 : decode code 1544 = .ok (.dcmp .l, 1) := by decide +kernel
theorem dL_law_1545 : decode code 1545 = .ok (.ifCond .eq 25, 3) := by decide +kernel
theorem dL_law_1548 : decode code 1548 = .ok (.aload 4, 2) := by decide +kernel
theorem dL_law_1550 : decode code 1550 = .ok (.iconst 0, 1) := by decide +kernel
theorem dL_law_1551 : decode code 1551 = .ok (.daload, 1) := by decide +kernel
theorem dL_law_1552 : decode code 1552 = .ok (.aload 4, 2) := by decide +kernel
theorem dL_law_1554 : decode code 1554 = .ok (.iconst 0, 1) := by decide +kernel
theorem dL_law_1555 : decode code 1555 = .ok (.daload, 1) := by decide +kernel
theorem dL_law_1556 : decode code 1556 = .ok (.dcmp .l, 1) := by decide +kernel
