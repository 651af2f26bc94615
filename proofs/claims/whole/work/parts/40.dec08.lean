theorem dL_law_1433 : decode code 1433 = .ok (.if_icmp .eq 559, 3) := by decide +kernel
theorem dL_law_1436 : decode code 1436 = .ok (.iconst 0, 1) := by decide +kernel
theorem dL_law_1437 : decode code 1437 = .ok (.ireturn, 1) := by decide +kernel
theorem dL_law_1438 : decode code 1438 = .ok (.aload_n 1, 1) := by decide +kernel
theorem dL_law_1439 : decode code 1439 = .ok (.aload_n 0, 1) := by decide +kernel
theorem dL_law_1440 : decode code 1440 = .ok (.iload 4, 2) := by decide +kernel
theorem dL_law_1442 : decode code 1442 = .ok (.iconst 1, 1) := by decide +kernel
theorem dL_law_1443 : decode code 1443 = .ok (.iadd, 1) := by decide +kernel
theorem dL_law_1444 : decode code 1444 = .ok (.iaload, 1) := by decide +kernel
theorem dL_law_1445 : decode code 1445 = .ok (.invokevirtual 160, 3) := by decide +kernel
theorem dL_law_1448 : decode code 1448 = .ok (.aload_n 2, 1) := by decide +kernel
theorem dL_law_1449 : decode code 1449 = .ok (.aload_n 0, 1) := by decide +kernel
theorem dL_law_1450 : decode code 1450 = .ok (.iload 4, 2) := by decide +kernel
theorem dL_law_1452 : decode code 1452 = .ok (.iconst 1, 1) := by decide +kernel
theorem dL_law_1453 : decode code 1453 = .ok (.iadd, 1) := by decide +kernel
theorem dL_law_1454 : decode code 1454 = .ok (.iaload, 1) := by decide +kernel
theorem dL_law_1455 : decode code 1455 = .ok (.invokevirtual 163, 3) := by decide +kernel
theorem dL_law_1458 : decode code 1458 = .ok (.if_icmp .eq 534, 3) := by decide +kernel
theorem dL_law_1461 : decode code 1461 = .ok (.iconst 0, 1) := by decide +kernel
theorem dL_law_1462 : decode code 1462 = .ok (.ireturn, 1) := by decide +kernel
theorem dL_law_1463 : decode code 1463 = .ok (.aload_n 1, 1) := by decide +kernel
theorem dL_law_1464 : decode code 1464 = .ok (.aload_n 0, 1) := by decide +kernel
theorem dL_law_1465 : decode code 1465 = .ok (.iload 4, 2) := by decide +kernel
theorem dL_law_1467 : decode code 1467 = .ok (.iconst 1, 1) := by decide +kernel
theorem dL_law_1468 : decode code 1468 = .ok (.iadd, 1) := by decide +kernel
theorem dL_law_1469 : decode code 1469 = .ok (.iaload, 1) := by decide +kernel
theorem dL_law_1470 : decode code 1470 = .ok (.aload_n 0, 1) := by decide +kernel
theorem dL_law_1471 : decode code 1471 = .ok (.iload 4, 2) := by decide +kernel
theorem dL_law_1473 : decode code 1473 = .ok (.iconst 2, 1) := by decide +kernel
theorem dL_law_1474 : decode code 1474 = .ok (.iadd, 1) := by decide +kernel
theorem dL_law_1475 : decode code 1475 = .ok (.iaload, 1) := by decide +kernel
theorem dL_law_1476 : decode code 1476 = .ok (.aload_n 0, 1) := by decide +kernel
theorem dL_law_1477 : decode code 1477 = .ok (.iload 4, 2) := by decide +kernel
theorem dL_law_1479 : decode code 1479 = .ok (.iconst 3, 1) := by decide +kernel
theorem dL_law_1480 : decode code 1480 = .ok (.iadd, 1) := by decide +kernel
theorem dL_law_1481 : decode code 1481 = .ok (.iaload, 1) := by decide +kernel
theorem dL_law_1482 : decode code 1482 = .ok (.invokevirtual 164, 3) := by decide +kernel
theorem dL_law_1485 : decode code 1485 = .ok (.aload_n 2, 1) := by decide +kernel
theorem dL_law_1486 : decode code 1486 = .ok (.aload_n 0, 1) := by decide +kernel
theorem dL_law_1487 : decode code 1487 = .ok (.iload 4, 2) := by decide +kernel
theorem dL_law_1489 : decode code 1489 = .ok (.iconst 1, 1) := by decide +kernel
theorem dL_law_1490 : decode code 1490 = .ok (.iadd, 1) := by decide +kernel
theorem dL_law_1491 : decode code 1491 = .ok (.iaload, 1) := by decide +kernel
theorem dL_law_1492 : decode code 1492 = .ok (.aload_n 0, 1) := by decide +kernel
theorem dL_law_1493 : decode code 1493 = .ok (.iload 4, 2) := by decide +kernel
theorem dL_law_1495 : decode code 1495 = .ok (.iconst 2, 1) := by decide +kernel
theorem dL_law_1496 : decode code 1496 = .ok (.iadd, 1) := by decide +kernel
theorem dL_law_1497 : decode code 1497 = .ok (.iaload, 1) := by decide +kernel
theorem dL_law_1498 : decode code 1498 = .ok (.aload_n 0, 1) := by decide +kernel
theorem dL_law_1499 : decode code 1499 = .ok (.iload 4, 2) := by decide +kernel
theorem dL_law_1501 : decode code 1501 = .ok (.iconst 3, 1) := by decide +kernel
theorem dL_law_1502 : decode code 1502 = .ok (.iadd, 1) := by decide +kernel
theorem dL_law_1503 : decode code 1503 = .ok (.iaload, 1) := by decide +kernel
theorem dL_law_1504 : decode code 1504 = .ok (.invokevirtual 167, 3) := by decide +kernel
theorem dL_law_1507 : decode code 1507 = .ok (.if_icmp .eq 485, 3) := by decide +kernel
theorem dL_law_1510 : decode code 1510 = .ok (.iconst 0, 1) := by decide +kernel
theorem dL_law_1511 : decode code 1511 = .ok (.ireturn, 1) := by decide +kernel
theorem dL_law_1512 : decode code 1512 = .ok (.aload_n 1, 1) := by decide +kernel
theorem dL_law_1513 : decode code 1513 = .ok (.aload_n 0, 1) := by decide +kernel
theorem dL_law_1514 : decode code 1514 = .ok (.iload 4, 2) := by decide +kernel
theorem dL_law_1516 : decode code 1516 = .ok (.iconst 1, 1) := by decide +kernel
theorem dL_law_1517 : decode code 1517 = .ok (.iadd, 1) := by decide +kernel
theorem dL_law_1518 : decode code 1518 = .ok (.iaload, 1) := by decide +kernel
theorem dL_law_1519 : decode code 1519 = .ok (.aload_n 0, 1) := by decide +kernel
theorem dL_law_1520 : decode code 1520 = .ok (.iload 4, 2) := by decide +kernel
theorem dL_law_1522 : decode code 1522 = .ok (.iconst 2, 1) := by decide +kernel
theorem dL_law_1523 : decode code 1523 = .ok (.iadd, 1) := by decide +kernel
theorem dL_law_1524 : decode code 1524 = .ok (.iaload, 1) := by decide +kernel
theorem dL_law_1525 : decode code 1525 = .ok (.invokevirtual 168, 3) := by decide +kernel
theorem dL_law_1528 : decode code 1528 = .ok (.aload_n 2, 1) := by decide +kernel
theorem dL_law_1529 : decode code 1529 = .ok (.aload_n 0, 1) := by decide +kernel
theorem dL_law_1530 : decode code 1530 = .ok (.iload 4, 2) := by decide +kernel
theorem dL_law_1532 : decode code 1532 = .ok (.iconst 1, 1) := by decide +kernel
theorem dL_law_1533 : decode code 1533 = .ok (.iadd, 1) := by decide +kernel
theorem dL_law_1534 : decode code 1534 = .ok (.iaload, 1) := by decide +kernel
theorem dL_law_1535 : decode code 1535 = .ok (.aload_n 0, 1) := by decide +kernel
theorem dL_law_1536 : decode code 1536 = .ok (.iload 4, 2) := by decide +kernel
theorem dL_law_1538 : decode code 1538 = .ok (.iconst 2, 1) := by decide +kernel
theorem dL_law_1539 : decode code 1539 = .ok (.iadd, 1) := by decide +kernel
theorem dL_law_1540 : decode code 1540 = .ok (.iaload, 1) := by decide +kernel
theorem dL_law_1541 : decode code 1541 = .ok (.invokevirtual 171, 3) := by decide +kernel
theorem dL_law_1544 : decode code 1544 = .ok (.if_icmp .eq 448, 3) := by decide +kernel
theorem dL_law_1547 : decode code 1547 = .ok (.iconst 0, 1) := by decide +kernel
theorem dL_law_1548 : decode code 1548 = .ok (.ireturn, 1) := by decide +kernel
theorem dL_law_1549 : decode code 1549 = .ok (.aload_n 1, 1) := by decide +kernel
theorem dL_law_1550 : decode code 1550 = .ok (.aload_n 0, 1) := by decide +kernel
theorem dL_law_1551 : decode code 1551 = .ok (.iload 4, 2) := by decide +kernel
theorem dL_law_1553 : decode code 1553 = .ok (.iconst 1, 1) := by decide +kernel
theorem dL_law_1554 : decode code 1554 = .ok (.iadd, 1) := by decide +kernel
theorem dL_law_1555 : decode code 1555 = .ok (.iaload, 1) := by decide +kernel
theorem dL_law_1556 : decode code 1556 = .ok (.aload_n 0, 1) := by decide +kernel
theorem dL_law_1557 : decode code 1557 = .ok (.iload 4, 2) := by decide +kernel
theorem dL_law_1559 : decode code 1559 = .ok (.iconst 2, 1) := by decide +kernel
theorem dL_law_1560 : decode code 1560 = .ok (.iadd, 1) := by decide +kernel
theorem dL_law_1561 : decode code 1561 = .ok (.iaload, 1) := by decide +kernel
theorem dL_law_1562 : decode code 1562 = .ok (.aload_n 0, 1) := by decide +kernel
theorem dL_law_1563 : decode code 1563 = .ok (.iload 4, 2) := by decide +kernel
theorem dL_law_1565 : decode code 1565 = .ok (.iconst 3, 1) := by decide +kernel
theorem dL_law_1566 : decode code 1566 = .ok (.iadd, 1) := by decide +kernel
theorem dL_law_1567 : decode code 1567 = .ok (.iaload, 1) := by decide +kernel
theorem dL_law_1568 : decode code 1568 = .ok (.invokevirtual 172, 3) := by decide +kernel
theorem dL_law_1571 : decode code 1571 = .ok (.aload_n 2, 1) := by decide +kernel
theorem dL_law_1572 : decode code 1572 = .ok (.aload_n 0, 1) := by decide +kernel
theorem dL_law_1573 : decode code 1573 = .ok (.iload 4, 2) := by decide +kernel
theorem dL_law_1575 : decode code 1575 = .ok (.iconst 1, 1) := by decide +kernel
theorem dL_law_1576 : decode code 1576 = .ok (.iadd, 1) := by decide +kernel
theorem dL_law_1577 : decode code 1577 = .ok (.iaload, 1) := by decide +kernel
theorem dL_law_1578 : decode code 1578 = .ok (.aload_n 0, 1) := by decide +kernel
theorem dL_law_1579 : decode code 1579 = .ok (.iload 4, 2) := by decide +kernel
theorem dL_law_1581 : decode code 1581 = .ok (.iconst 2, 1) := by decide +kernel
