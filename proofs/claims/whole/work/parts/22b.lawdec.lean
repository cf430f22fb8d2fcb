/-! The law's own method, decoded, second half (printed rows). -/
theorem dL_law__1400 : decode cL_law_ 1400 = .ok (.iload 5, 2) := by decide +kernel
theorem dL_law__1402 : decode cL_law_ 1402 = .ok (.if_icmp .eq 5, 3) := by decide +kernel
theorem dL_law__1405 : decode cL_law_ 1405 = .ok (.iconst 0, 1) := by decide +kernel
theorem dL_law__1406 : decode cL_law_ 1406 = .ok (.ireturn, 1) := by decide +kernel
theorem dL_law__1407 : decode cL_law_ 1407 = .ok (.iload 5, 2) := by decide +kernel
theorem dL_law__1409 : decode cL_law_ 1409 = .ok (.ifCond .ne 15, 3) := by decide +kernel
theorem dL_law__1412 : decode cL_law_ 1412 = .ok (.aload_n 3, 1) := by decide +kernel
theorem dL_law__1413 : decode cL_law_ 1413 = .ok (.iconst 0, 1) := by decide +kernel
theorem dL_law__1414 : decode cL_law_ 1414 = .ok (.laload, 1) := by decide +kernel
theorem dL_law__1415 : decode cL_law_ 1415 = .ok (.iload 6, 2) := by decide +kernel
theorem dL_law__1417 : decode cL_law_ 1417 = .ok (.i2l, 1) := by decide +kernel
theorem dL_law__1418 : decode cL_law_ 1418 = .ok (.lcmp, 1) := by decide +kernel
theorem dL_law__1419 : decode cL_law_ 1419 = .ok (.ifCond .eq 5, 3) := by decide +kernel
theorem dL_law__1422 : decode cL_law_ 1422 = .ok (.iconst 0, 1) := by decide +kernel
theorem dL_law__1423 : decode cL_law_ 1423 = .ok (.ireturn, 1) := by decide +kernel
theorem dL_law__1424 : decode cL_law_ 1424 = .ok (.goto 1182, 3) := by decide +kernel
theorem dL_law__1427 : decode cL_law_ 1427 = .ok (.aload_n 1, 1) := by decide +kernel
theorem dL_law__1428 : decode cL_law_ 1428 = .ok (.aload_n 0, 1) := by decide +kernel
theorem dL_law__1429 : decode cL_law_ 1429 = .ok (.iload 4, 2) := by decide +kernel
theorem dL_law__1431 : decode cL_law_ 1431 = .ok (.iconst 1, 1) := by decide +kernel
theorem dL_law__1432 : decode cL_law_ 1432 = .ok (.iadd, 1) := by decide +kernel
theorem dL_law__1433 : decode cL_law_ 1433 = .ok (.iaload, 1) := by decide +kernel
theorem dL_law__1434 : decode cL_law_ 1434 = .ok (.aload_n 3, 1) := by decide +kernel
theorem dL_law__1435 : decode cL_law_ 1435 = .ok (.invokestatic 203, 3) := by decide +kernel
theorem dL_law__1438 : decode cL_law_ 1438 = .ok (.istore 5, 2) := by decide +kernel
theorem dL_law__1440 : decode cL_law_ 1440 = .ok (.aload_n 2, 1) := by decide +kernel
theorem dL_law__1441 : decode cL_law_ 1441 = .ok (.aload_n 0, 1) := by decide +kernel
theorem dL_law__1442 : decode cL_law_ 1442 = .ok (.iload 4, 2) := by decide +kernel
theorem dL_law__1444 : decode cL_law_ 1444 = .ok (.iconst 1, 1) := by decide +kernel
theorem dL_law__1445 : decode cL_law_ 1445 = .ok (.iadd, 1) := by decide +kernel
theorem dL_law__1446 : decode cL_law_ 1446 = .ok (.iaload, 1) := by decide +kernel
theorem dL_law__1447 : decode cL_law_ 1447 = .ok (.invokevirtual 205, 3) := by decide +kernel
theorem dL_law__1450 : decode cL_law_ 1450 = .ok (.istore 6, 2) := by decide +kernel
theorem dL_law__1452 : decode cL_law_ 1452 = .ok (.aload_n 2, 1) := by decide +kernel
theorem dL_law__1453 : decode cL_law_ 1453 = .ok (.invokevirtual 132, 3) := by decide +kernel
theorem dL_law__1456 : decode cL_law_ 1456 = .ok (.iload 5, 2) := by decide +kernel
theorem dL_law__1458 : decode cL_law_ 1458 = .ok (.if_icmp .eq 5, 3) := by decide +kernel
theorem dL_law__1461 : decode cL_law_ 1461 = .ok (.iconst 0, 1) := by decide +kernel
theorem dL_law__1462 : decode cL_law_ 1462 = .ok (.ireturn, 1) := by decide +kernel
theorem dL_law__1463 : decode cL_law_ 1463 = .ok (.iload 5, 2) := by decide +kernel
theorem dL_law__1465 : decode cL_law_ 1465 = .ok (.ifCond .ne 15, 3) := by decide +kernel
theorem dL_law__1468 : decode cL_law_ 1468 = .ok (.aload_n 3, 1) := by decide +kernel
theorem dL_law__1469 : decode cL_law_ 1469 = .ok (.iconst 0, 1) := by decide +kernel
theorem dL_law__1470 : decode cL_law_ 1470 = .ok (.laload, 1) := by decide +kernel
theorem dL_law__1471 : decode cL_law_ 1471 = .ok (.iload 6, 2) := by decide +kernel
theorem dL_law__1473 : decode cL_law_ 1473 = .ok (.i2l, 1) := by decide +kernel
theorem dL_law__1474 : decode cL_law_ 1474 = .ok (.lcmp, 1) := by decide +kernel
theorem dL_law__1475 : decode cL_law_ 1475 = .ok (.ifCond .eq 5, 3) := by decide +kernel
theorem dL_law__1478 : decode cL_law_ 1478 = .ok (.iconst 0, 1) := by decide +kernel
theorem dL_law__1479 : decode cL_law_ 1479 = .ok (.ireturn, 1) := by decide +kernel
theorem dL_law__1480 : decode cL_law_ 1480 = .ok (.goto 1126, 3) := by decide +kernel
theorem dL_law__1483 : decode cL_law_ 1483 = .ok (.aload_n 1, 1) := by decide +kernel
theorem dL_law__1484 : decode cL_law_ 1484 = .ok (.aload_n 0, 1) := by decide +kernel
theorem dL_law__1485 : decode cL_law_ 1485 = .ok (.iload 4, 2) := by decide +kernel
theorem dL_law__1487 : decode cL_law_ 1487 = .ok (.iconst 1, 1) := by decide +kernel
theorem dL_law__1488 : decode cL_law_ 1488 = .ok (.iadd, 1) := by decide +kernel
theorem dL_law__1489 : decode cL_law_ 1489 = .ok (.iaload, 1) := by decide +kernel
theorem dL_law__1490 : decode cL_law_ 1490 = .ok (.aload_n 3, 1) := by decide +kernel
theorem dL_law__1491 : decode cL_law_ 1491 = .ok (.invokestatic 206, 3) := by decide +kernel
theorem dL_law__1494 : decode cL_law_ 1494 = .ok (.istore 5, 2) := by decide +kernel
theorem dL_law__1496 : decode cL_law_ 1496 = .ok (.aload_n 2, 1) := by decide +kernel
theorem dL_law__1497 : decode cL_law_ 1497 = .ok (.aload_n 0, 1) := by decide +kernel
theorem dL_law__1498 : decode cL_law_ 1498 = .ok (.iload 4, 2) := by decide +kernel
theorem dL_law__1500 : decode cL_law_ 1500 = .ok (.iconst 1, 1) := by decide +kernel
theorem dL_law__1501 : decode cL_law_ 1501 = .ok (.iadd, 1) := by decide +kernel
theorem dL_law__1502 : decode cL_law_ 1502 = .ok (.iaload, 1) := by decide +kernel
theorem dL_law__1503 : decode cL_law_ 1503 = .ok (.invokevirtual 208, 3) := by decide +kernel
theorem dL_law__1506 : decode cL_law_ 1506 = .ok (.istore 6, 2) := by decide +kernel
theorem dL_law__1508 : decode cL_law_ 1508 = .ok (.aload_n 2, 1) := by decide +kernel
theorem dL_law__1509 : decode cL_law_ 1509 = .ok (.invokevirtual 132, 3) := by decide +kernel
theorem dL_law__1512 : decode cL_law_ 1512 = .ok (.iload 5, 2) := by decide +kernel
theorem dL_law__1514 : decode cL_law_ 1514 = .ok (.if_icmp .eq 5, 3) := by decide +kernel
theorem dL_law__1517 : decode cL_law_ 1517 = .ok (.iconst 0, 1) := by decide +kernel
theorem dL_law__1518 : decode cL_law_ 1518 = .ok (.ireturn, 1) := by decide +kernel
theorem dL_law__1519 : decode cL_law_ 1519 = .ok (.iload 5, 2) := by decide +kernel
theorem dL_law__1521 : decode cL_law_ 1521 = .ok (.ifCond .ne 15, 3) := by decide +kernel
theorem dL_law__1524 : decode cL_law_ 1524 = .ok (.aload_n 3, 1) := by decide +kernel
theorem dL_law__1525 : decode cL_law_ 1525 = .ok (.iconst 0, 1) := by decide +kernel
theorem dL_law__1526 : decode cL_law_ 1526 = .ok (.laload, 1) := by decide +kernel
theorem dL_law__1527 : decode cL_law_ 1527 = .ok (.iload 6, 2) := by decide +kernel
theorem dL_law__1529 : decode cL_law_ 1529 = .ok (.i2l, 1) := by decide +kernel
theorem dL_law__1530 : decode cL_law_ 1530 = .ok (.lcmp, 1) := by decide +kernel
theorem dL_law__1531 : decode cL_law_ 1531 = .ok (.ifCond .eq 5, 3) := by decide +kernel
theorem dL_law__1534 : decode cL_law_ 1534 = .ok (.iconst 0, 1) := by decide +kernel
theorem dL_law__1535 : decode cL_law_ 1535 = .ok (.ireturn, 1) := by decide +kernel
theorem dL_law__1536 : decode cL_law_ 1536 = .ok (.goto 1070, 3) := by decide +kernel
theorem dL_law__1539 : decode cL_law_ 1539 = .ok (.aload_n 1, 1) := by decide +kernel
theorem dL_law__1540 : decode cL_law_ 1540 = .ok (.aload_n 0, 1) := by decide +kernel
theorem dL_law__1541 : decode cL_law_ 1541 = .ok (.iload 4, 2) := by decide +kernel
theorem dL_law__1543 : decode cL_law_ 1543 = .ok (.iconst 1, 1) := by decide +kernel
theorem dL_law__1544 : decode cL_law_ 1544 = .ok (.iadd, 1) := by decide +kernel
theorem dL_law__1545 : decode cL_law_ 1545 = .ok (.iaload, 1) := by decide +kernel
theorem dL_law__1546 : decode cL_law_ 1546 = .ok (.aload_n 0, 1) := by decide +kernel
theorem dL_law__1547 : decode cL_law_ 1547 = .ok (.iload 4, 2) := by decide +kernel
theorem dL_law__1549 : decode cL_law_ 1549 = .ok (.iconst 2, 1) := by decide +kernel
theorem dL_law__1550 : decode cL_law_ 1550 = .ok (.iadd, 1) := by decide +kernel
theorem dL_law__1551 : decode cL_law_ 1551 = .ok (.iaload, 1) := by decide +kernel
theorem dL_law__1552 : decode cL_law_ 1552 = .ok (.aload_n 0, 1) := by decide +kernel
theorem dL_law__1553 : decode cL_law_ 1553 = .ok (.iload 4, 2) := by decide +kernel
theorem dL_law__1555 : decode cL_law_ 1555 = .ok (.iconst 3, 1) := by decide +kernel
theorem dL_law__1556 : decode cL_law_ 1556 = .ok (.iadd, 1) := by decide +kernel
theorem dL_law__1557 : decode cL_law_ 1557 = .ok (.iaload, 1) := by decide +kernel
theorem dL_law__1558 : decode cL_law_ 1558 = .ok (.aload_n 3, 1) := by decide +kernel
theorem dL_law__1559 : decode cL_law_ 1559 = .ok (.invokestatic 209, 3) := by decide +kernel
theorem dL_law__1562 : decode cL_law_ 1562 = .ok (.istore 5, 2) := by decide +kernel
theorem dL_law__1564 : decode cL_law_ 1564 = .ok (.aload_n 2, 1) := by decide +kernel
theorem dL_law__1565 : decode cL_law_ 1565 = .ok (.aload_n 0, 1) := by decide +kernel
theorem dL_law__1566 : decode cL_law_ 1566 = .ok (.iload 4, 2) := by decide +kernel
theorem dL_law__1568 : decode cL_law_ 1568 = .ok (.iconst 1, 1) := by decide +kernel
theorem dL_law__1569 : decode cL_law_ 1569 = .ok (.iadd, 1) := by decide +kernel
theorem dL_law__1570 : decode cL_law_ 1570 = .ok (.iaload, 1) := by decide +kernel
theorem dL_law__1571 : decode cL_law_ 1571 = .ok (.aload_n 0, 1) := by decide +kernel
theorem dL_law__1572 : decode cL_law_ 1572 = .ok (.iload 4, 2) := by decide +kernel
theorem dL_law__1574 : decode cL_law_ 1574 = .ok (.iconst 2, 1) := by decide +kernel
theorem dL_law__1575 : decode cL_law_ 1575 = .ok (.iadd, 1) := by decide +kernel
theorem dL_law__1576 : decode cL_law_ 1576 = .ok (.iaload, 1) := by decide +kernel
theorem dL_law__1577 : decode cL_law_ 1577 = .ok (.aload_n 0, 1) := by decide +kernel
theorem dL_law__1578 : decode cL_law_ 1578 = .ok (.iload 4, 2) := by decide +kernel
theorem dL_law__1580 : decode cL_law_ 1580 = .ok (.iconst 3, 1) := by decide +kernel
theorem dL_law__1581 : decode cL_law_ 1581 = .ok (.iadd, 1) := by decide +kernel
theorem dL_law__1582 : decode cL_law_ 1582 = .ok (.iaload, 1) := by decide +kernel
theorem dL_law__1583 : decode cL_law_ 1583 = .ok (.invokevirtual 212, 3) := by decide +kernel
theorem dL_law__1586 : decode cL_law_ 1586 = .ok (.istore 6, 2) := by decide +kernel
theorem dL_law__1588 : decode cL_law_ 1588 = .ok (.aload_n 2, 1) := by decide +kernel
theorem dL_law__1589 : decode cL_law_ 1589 = .ok (.invokevirtual 132, 3) := by decide +kernel
theorem dL_law__1592 : decode cL_law_ 1592 = .ok (.iload 5, 2) := by decide +kernel
theorem dL_law__1594 : decode cL_law_ 1594 = .ok (.if_icmp .eq 5, 3) := by decide +kernel
theorem dL_law__1597 : decode cL_law_ 1597 = .ok (.iconst 0, 1) := by decide +kernel
theorem dL_law__1598 : decode cL_law_ 1598 = .ok (.ireturn, 1) := by decide +kernel
theorem dL_law__1599 : decode cL_law_ 1599 = .ok (.iload 5, 2) := by decide +kernel
theorem dL_law__1601 : decode cL_law_ 1601 = .ok (.ifCond .ne 15, 3) := by decide +kernel
theorem dL_law__1604 : decode cL_law_ 1604 = .ok (.aload_n 3, 1) := by decide +kernel
theorem dL_law__1605 : decode cL_law_ 1605 = .ok (.iconst 0, 1) := by decide +kernel
theorem dL_law__1606 : decode cL_law_ 1606 = .ok (.laload, 1) := by decide +kernel
theorem dL_law__1607 : decode cL_law_ 1607 = .ok (.iload 6, 2) := by decide +kernel
theorem dL_law__1609 : decode cL_law_ 1609 = .ok (.i2l, 1) := by decide +kernel
theorem dL_law__1610 : decode cL_law_ 1610 = .ok (.lcmp, 1) := by decide +kernel
theorem dL_law__1611 : decode cL_law_ 1611 = .ok (.ifCond .eq 5, 3) := by decide +kernel
theorem dL_law__1614 : decode cL_law_ 1614 = .ok (.iconst 0, 1) := by decide +kernel
theorem dL_law__1615 : decode cL_law_ 1615 = .ok (.ireturn, 1) := by decide +kernel
theorem dL_law__1616 : decode cL_law_ 1616 = .ok (.goto 990, 3) := by decide +kernel
theorem dL_law__1619 : decode cL_law_ 1619 = .ok (.aload_n 1, 1) := by decide +kernel
theorem dL_law__1620 : decode cL_law_ 1620 = .ok (.aload_n 0, 1) := by decide +kernel
theorem dL_law__1621 : decode cL_law_ 1621 = .ok (.iload 4, 2) := by decide +kernel
theorem dL_law__1623 : decode cL_law_ 1623 = .ok (.iconst 1, 1) := by decide +kernel
theorem dL_law__1624 : decode cL_law_ 1624 = .ok (.iadd, 1) := by decide +kernel
theorem dL_law__1625 : decode cL_law_ 1625 = .ok (.iaload, 1) := by decide +kernel
theorem dL_law__1626 : decode cL_law_ 1626 = .ok (.aload_n 0, 1) := by decide +kernel
theorem dL_law__1627 : decode cL_law_ 1627 = .ok (.iload 4, 2) := by decide +kernel
theorem dL_law__1629 : decode cL_law_ 1629 = .ok (.iconst 2, 1) := by decide +kernel
theorem dL_law__1630 : decode cL_law_ 1630 = .ok (.iadd, 1) := by decide +kernel
theorem dL_law__1631 : decode cL_law_ 1631 = .ok (.iaload, 1) := by decide +kernel
theorem dL_law__1632 : decode cL_law_ 1632 = .ok (.aload_n 0, 1) := by decide +kernel
theorem dL_law__1633 : decode cL_law_ 1633 = .ok (.iload 4, 2) := by decide +kernel
theorem dL_law__1635 : decode cL_law_ 1635 = .ok (.iconst 3, 1) := by decide +kernel
theorem dL_law__1636 : decode cL_law_ 1636 = .ok (.iadd, 1) := by decide +kernel
theorem dL_law__1637 : decode cL_law_ 1637 = .ok (.iaload, 1) := by decide +kernel
theorem dL_law__1638 : decode cL_law_ 1638 = .ok (.aload_n 0, 1) := by decide +kernel
theorem dL_law__1639 : decode cL_law_ 1639 = .ok (.iload 4, 2) := by decide +kernel
theorem dL_law__1641 : decode cL_law_ 1641 = .ok (.iconst 4, 1) := by decide +kernel
theorem dL_law__1642 : decode cL_law_ 1642 = .ok (.iadd, 1) := by decide +kernel
theorem dL_law__1643 : decode cL_law_ 1643 = .ok (.iaload, 1) := by decide +kernel
theorem dL_law__1644 : decode cL_law_ 1644 = .ok (.aload_n 3, 1) := by decide +kernel
theorem dL_law__1645 : decode cL_law_ 1645 = .ok (.invokestatic 213, 3) := by decide +kernel
theorem dL_law__1648 : decode cL_law_ 1648 = .ok (.istore 5, 2) := by decide +kernel
theorem dL_law__1650 : decode cL_law_ 1650 = .ok (.aload_n 2, 1) := by decide +kernel
theorem dL_law__1651 : decode cL_law_ 1651 = .ok (.aload_n 0, 1) := by decide +kernel
theorem dL_law__1652 : decode cL_law_ 1652 = .ok (.iload 4, 2) := by decide +kernel
theorem dL_law__1654 : decode cL_law_ 1654 = .ok (.iconst 1, 1) := by decide +kernel
theorem dL_law__1655 : decode cL_law_ 1655 = .ok (.iadd, 1) := by decide +kernel
theorem dL_law__1656 : decode cL_law_ 1656 = .ok (.iaload, 1) := by decide +kernel
theorem dL_law__1657 : decode cL_law_ 1657 = .ok (.aload_n 0, 1) := by decide +kernel
theorem dL_law__1658 : decode cL_law_ 1658 = .ok (.iload 4, 2) := by decide +kernel
theorem dL_law__1660 : decode cL_law_ 1660 = .ok (.iconst 2, 1) := by decide +kernel
theorem dL_law__1661 : decode cL_law_ 1661 = .ok (.iadd, 1) := by decide +kernel
theorem dL_law__1662 : decode cL_law_ 1662 = .ok (.iaload, 1) := by decide +kernel
theorem dL_law__1663 : decode cL_law_ 1663 = .ok (.aload_n 0, 1) := by decide +kernel
theorem dL_law__1664 : decode cL_law_ 1664 = .ok (.iload 4, 2) := by decide +kernel
theorem dL_law__1666 : decode cL_law_ 1666 = .ok (.iconst 3, 1) := by decide +kernel
theorem dL_law__1667 : decode cL_law_ 1667 = .ok (.iadd, 1) := by decide +kernel
theorem dL_law__1668 : decode cL_law_ 1668 = .ok (.iaload, 1) := by decide +kernel
theorem dL_law__1669 : decode cL_law_ 1669 = .ok (.aload_n 0, 1) := by decide +kernel
theorem dL_law__1670 : decode cL_law_ 1670 = .ok (.iload 4, 2) := by decide +kernel
theorem dL_law__1672 : decode cL_law_ 1672 = .ok (.iconst 4, 1) := by decide +kernel
theorem dL_law__1673 : decode cL_law_ 1673 = .ok (.iadd, 1) := by decide +kernel
theorem dL_law__1674 : decode cL_law_ 1674 = .ok (.iaload, 1) := by decide +kernel
theorem dL_law__1675 : decode cL_law_ 1675 = .ok (.invokevirtual 216, 3) := by decide +kernel
theorem dL_law__1678 : decode cL_law_ 1678 = .ok (.lstore 6, 2) := by decide +kernel
theorem dL_law__1680 : decode cL_law_ 1680 = .ok (.aload_n 2, 1) := by decide +kernel
theorem dL_law__1681 : decode cL_law_ 1681 = .ok (.invokevirtual 132, 3) := by decide +kernel
theorem dL_law__1684 : decode cL_law_ 1684 = .ok (.iload 5, 2) := by decide +kernel
theorem dL_law__1686 : decode cL_law_ 1686 = .ok (.if_icmp .eq 5, 3) := by decide +kernel
theorem dL_law__1689 : decode cL_law_ 1689 = .ok (.iconst 0, 1) := by decide +kernel
theorem dL_law__1690 : decode cL_law_ 1690 = .ok (.ireturn, 1) := by decide +kernel
theorem dL_law__1691 : decode cL_law_ 1691 = .ok (.iload 5, 2) := by decide +kernel
theorem dL_law__1693 : decode cL_law_ 1693 = .ok (.ifCond .ne 14, 3) := by decide +kernel
theorem dL_law__1696 : decode cL_law_ 1696 = .ok (.aload_n 3, 1) := by decide +kernel
theorem dL_law__1697 : decode cL_law_ 1697 = .ok (.iconst 0, 1) := by decide +kernel
theorem dL_law__1698 : decode cL_law_ 1698 = .ok (.laload, 1) := by decide +kernel
theorem dL_law__1699 : decode cL_law_ 1699 = .ok (.lload 6, 2) := by decide +kernel
theorem dL_law__1701 : decode cL_law_ 1701 = .ok (.lcmp, 1) := by decide +kernel
theorem dL_law__1702 : decode cL_law_ 1702 = .ok (.ifCond .eq 5, 3) := by decide +kernel
theorem dL_law__1705 : decode cL_law_ 1705 = .ok (.iconst 0, 1) := by decide +kernel
theorem dL_law__1706 : decode cL_law_ 1706 = .ok (.ireturn, 1) := by decide +kernel
theorem dL_law__1707 : decode cL_law_ 1707 = .ok (.goto 899, 3) := by decide +kernel
theorem dL_law__1710 : decode cL_law_ 1710 = .ok (.aload_n 1, 1) := by decide +kernel
theorem dL_law__1711 : decode cL_law_ 1711 = .ok (.aload_n 0, 1) := by decide +kernel
theorem dL_law__1712 : decode cL_law_ 1712 = .ok (.iload 4, 2) := by decide +kernel
theorem dL_law__1714 : decode cL_law_ 1714 = .ok (.iconst 1, 1) := by decide +kernel
theorem dL_law__1715 : decode cL_law_ 1715 = .ok (.iadd, 1) := by decide +kernel
theorem dL_law__1716 : decode cL_law_ 1716 = .ok (.iaload, 1) := by decide +kernel
theorem dL_law__1717 : decode cL_law_ 1717 = .ok (.aload_n 0, 1) := by decide +kernel
theorem dL_law__1718 : decode cL_law_ 1718 = .ok (.iload 4, 2) := by decide +kernel
theorem dL_law__1720 : decode cL_law_ 1720 = .ok (.iconst 2, 1) := by decide +kernel
theorem dL_law__1721 : decode cL_law_ 1721 = .ok (.iadd, 1) := by decide +kernel
theorem dL_law__1722 : decode cL_law_ 1722 = .ok (.iaload, 1) := by decide +kernel
theorem dL_law__1723 : decode cL_law_ 1723 = .ok (.aload_n 0, 1) := by decide +kernel
theorem dL_law__1724 : decode cL_law_ 1724 = .ok (.iload 4, 2) := by decide +kernel
theorem dL_law__1726 : decode cL_law_ 1726 = .ok (.iconst 3, 1) := by decide +kernel
theorem dL_law__1727 : decode cL_law_ 1727 = .ok (.iadd, 1) := by decide +kernel
theorem dL_law__1728 : decode cL_law_ 1728 = .ok (.iaload, 1) := by decide +kernel
theorem dL_law__1729 : decode cL_law_ 1729 = .ok (.aload_n 3, 1) := by decide +kernel
theorem dL_law__1730 : decode cL_law_ 1730 = .ok (.invokestatic 217, 3) := by decide +kernel
theorem dL_law__1733 : decode cL_law_ 1733 = .ok (.istore 5, 2) := by decide +kernel
theorem dL_law__1735 : decode cL_law_ 1735 = .ok (.aload_n 2, 1) := by decide +kernel
theorem dL_law__1736 : decode cL_law_ 1736 = .ok (.aload_n 0, 1) := by decide +kernel
theorem dL_law__1737 : decode cL_law_ 1737 = .ok (.iload 4, 2) := by decide +kernel
theorem dL_law__1739 : decode cL_law_ 1739 = .ok (.iconst 1, 1) := by decide +kernel
theorem dL_law__1740 : decode cL_law_ 1740 = .ok (.iadd, 1) := by decide +kernel
theorem dL_law__1741 : decode cL_law_ 1741 = .ok (.iaload, 1) := by decide +kernel
theorem dL_law__1742 : decode cL_law_ 1742 = .ok (.aload_n 0, 1) := by decide +kernel
theorem dL_law__1743 : decode cL_law_ 1743 = .ok (.iload 4, 2) := by decide +kernel
theorem dL_law__1745 : decode cL_law_ 1745 = .ok (.iconst 2, 1) := by decide +kernel
theorem dL_law__1746 : decode cL_law_ 1746 = .ok (.iadd, 1) := by decide +kernel
theorem dL_law__1747 : decode cL_law_ 1747 = .ok (.iaload, 1) := by decide +kernel
theorem dL_law__1748 : decode cL_law_ 1748 = .ok (.aload_n 0, 1) := by decide +kernel
theorem dL_law__1749 : decode cL_law_ 1749 = .ok (.iload 4, 2) := by decide +kernel
theorem dL_law__1751 : decode cL_law_ 1751 = .ok (.iconst 3, 1) := by decide +kernel
theorem dL_law__1752 : decode cL_law_ 1752 = .ok (.iadd, 1) := by decide +kernel
theorem dL_law__1753 : decode cL_law_ 1753 = .ok (.iaload, 1) := by decide +kernel
theorem dL_law__1754 : decode cL_law_ 1754 = .ok (.invokevirtual 219, 3) := by decide +kernel
theorem dL_law__1757 : decode cL_law_ 1757 = .ok (.istore 6, 2) := by decide +kernel
theorem dL_law__1759 : decode cL_law_ 1759 = .ok (.aload_n 2, 1) := by decide +kernel
theorem dL_law__1760 : decode cL_law_ 1760 = .ok (.invokevirtual 132, 3) := by decide +kernel
theorem dL_law__1763 : decode cL_law_ 1763 = .ok (.iload 5, 2) := by decide +kernel
theorem dL_law__1765 : decode cL_law_ 1765 = .ok (.if_icmp .eq 5, 3) := by decide +kernel
theorem dL_law__1768 : decode cL_law_ 1768 = .ok (.iconst 0, 1) := by decide +kernel
theorem dL_law__1769 : decode cL_law_ 1769 = .ok (.ireturn, 1) := by decide +kernel
theorem dL_law__1770 : decode cL_law_ 1770 = .ok (.iload 5, 2) := by decide +kernel
theorem dL_law__1772 : decode cL_law_ 1772 = .ok (.ifCond .ne 15, 3) := by decide +kernel
theorem dL_law__1775 : decode cL_law_ 1775 = .ok (.aload_n 3, 1) := by decide +kernel
theorem dL_law__1776 : decode cL_law_ 1776 = .ok (.iconst 0, 1) := by decide +kernel
theorem dL_law__1777 : decode cL_law_ 1777 = .ok (.laload, 1) := by decide +kernel
theorem dL_law__1778 : decode cL_law_ 1778 = .ok (.iload 6, 2) := by decide +kernel
theorem dL_law__1780 : decode cL_law_ 1780 = .ok (.i2l, 1) := by decide +kernel
theorem dL_law__1781 : decode cL_law_ 1781 = .ok (.lcmp, 1) := by decide +kernel
theorem dL_law__1782 : decode cL_law_ 1782 = .ok (.ifCond .eq 5, 3) := by decide +kernel
theorem dL_law__1785 : decode cL_law_ 1785 = .ok (.iconst 0, 1) := by decide +kernel
theorem dL_law__1786 : decode cL_law_ 1786 = .ok (.ireturn, 1) := by decide +kernel
theorem dL_law__1787 : decode cL_law_ 1787 = .ok (.goto 819, 3) := by decide +kernel
theorem dL_law__1790 : decode cL_law_ 1790 = .ok (.aload_n 1, 1) := by decide +kernel
theorem dL_law__1791 : decode cL_law_ 1791 = .ok (.aload_n 0, 1) := by decide +kernel
theorem dL_law__1792 : decode cL_law_ 1792 = .ok (.iload 4, 2) := by decide +kernel
theorem dL_law__1794 : decode cL_law_ 1794 = .ok (.iconst 1, 1) := by decide +kernel
theorem dL_law__1795 : decode cL_law_ 1795 = .ok (.iadd, 1) := by decide +kernel
theorem dL_law__1796 : decode cL_law_ 1796 = .ok (.iaload, 1) := by decide +kernel
theorem dL_law__1797 : decode cL_law_ 1797 = .ok (.aload_n 3, 1) := by decide +kernel
theorem dL_law__1798 : decode cL_law_ 1798 = .ok (.invokestatic 220, 3) := by decide +kernel
theorem dL_law__1801 : decode cL_law_ 1801 = .ok (.istore 5, 2) := by decide +kernel
theorem dL_law__1803 : decode cL_law_ 1803 = .ok (.aload_n 2, 1) := by decide +kernel
theorem dL_law__1804 : decode cL_law_ 1804 = .ok (.aload_n 0, 1) := by decide +kernel
theorem dL_law__1805 : decode cL_law_ 1805 = .ok (.iload 4, 2) := by decide +kernel
theorem dL_law__1807 : decode cL_law_ 1807 = .ok (.iconst 1, 1) := by decide +kernel
theorem dL_law__1808 : decode cL_law_ 1808 = .ok (.iadd, 1) := by decide +kernel
theorem dL_law__1809 : decode cL_law_ 1809 = .ok (.iaload, 1) := by decide +kernel
theorem dL_law__1810 : decode cL_law_ 1810 = .ok (.invokevirtual 222, 3) := by decide +kernel
theorem dL_law__1813 : decode cL_law_ 1813 = .ok (.istore 6, 2) := by decide +kernel
theorem dL_law__1815 : decode cL_law_ 1815 = .ok (.aload_n 2, 1) := by decide +kernel
theorem dL_law__1816 : decode cL_law_ 1816 = .ok (.invokevirtual 132, 3) := by decide +kernel
theorem dL_law__1819 : decode cL_law_ 1819 = .ok (.iload 5, 2) := by decide +kernel
theorem dL_law__1821 : decode cL_law_ 1821 = .ok (.if_icmp .eq 5, 3) := by decide +kernel
theorem dL_law__1824 : decode cL_law_ 1824 = .ok (.iconst 0, 1) := by decide +kernel
theorem dL_law__1825 : decode cL_law_ 1825 = .ok (.ireturn, 1) := by decide +kernel
theorem dL_law__1826 : decode cL_law_ 1826 = .ok (.iload 5, 2) := by decide +kernel
theorem dL_law__1828 : decode cL_law_ 1828 = .ok (.ifCond .ne 15, 3) := by decide +kernel
theorem dL_law__1831 : decode cL_law_ 1831 = .ok (.aload_n 3, 1) := by decide +kernel
theorem dL_law__1832 : decode cL_law_ 1832 = .ok (.iconst 0, 1) := by decide +kernel
theorem dL_law__1833 : decode cL_law_ 1833 = .ok (.laload, 1) := by decide +kernel
theorem dL_law__1834 : decode cL_law_ 1834 = .ok (.iload 6, 2) := by decide +kernel
theorem dL_law__1836 : decode cL_law_ 1836 = .ok (.i2l, 1) := by decide +kernel
theorem dL_law__1837 : decode cL_law_ 1837 = .ok (.lcmp, 1) := by decide +kernel
theorem dL_law__1838 : decode cL_law_ 1838 = .ok (.ifCond .eq 5, 3) := by decide +kernel
theorem dL_law__1841 : decode cL_law_ 1841 = .ok (.iconst 0, 1) := by decide +kernel
theorem dL_law__1842 : decode cL_law_ 1842 = .ok (.ireturn, 1) := by decide +kernel
theorem dL_law__1843 : decode cL_law_ 1843 = .ok (.goto 763, 3) := by decide +kernel
theorem dL_law__1846 : decode cL_law_ 1846 = .ok (.aload_n 1, 1) := by decide +kernel
theorem dL_law__1847 : decode cL_law_ 1847 = .ok (.aload_n 0, 1) := by decide +kernel
theorem dL_law__1848 : decode cL_law_ 1848 = .ok (.iload 4, 2) := by decide +kernel
theorem dL_law__1850 : decode cL_law_ 1850 = .ok (.iconst 1, 1) := by decide +kernel
theorem dL_law__1851 : decode cL_law_ 1851 = .ok (.iadd, 1) := by decide +kernel
theorem dL_law__1852 : decode cL_law_ 1852 = .ok (.iaload, 1) := by decide +kernel
theorem dL_law__1853 : decode cL_law_ 1853 = .ok (.aload_n 3, 1) := by decide +kernel
theorem dL_law__1854 : decode cL_law_ 1854 = .ok (.invokestatic 223, 3) := by decide +kernel
theorem dL_law__1857 : decode cL_law_ 1857 = .ok (.istore 5, 2) := by decide +kernel
theorem dL_law__1859 : decode cL_law_ 1859 = .ok (.aload_n 2, 1) := by decide +kernel
theorem dL_law__1860 : decode cL_law_ 1860 = .ok (.aload_n 0, 1) := by decide +kernel
theorem dL_law__1861 : decode cL_law_ 1861 = .ok (.iload 4, 2) := by decide +kernel
theorem dL_law__1863 : decode cL_law_ 1863 = .ok (.iconst 1, 1) := by decide +kernel
theorem dL_law__1864 : decode cL_law_ 1864 = .ok (.iadd, 1) := by decide +kernel
theorem dL_law__1865 : decode cL_law_ 1865 = .ok (.iaload, 1) := by decide +kernel
theorem dL_law__1866 : decode cL_law_ 1866 = .ok (.invokevirtual 225, 3) := by decide +kernel
theorem dL_law__1869 : decode cL_law_ 1869 = .ok (.istore 6, 2) := by decide +kernel
theorem dL_law__1871 : decode cL_law_ 1871 = .ok (.aload_n 2, 1) := by decide +kernel
theorem dL_law__1872 : decode cL_law_ 1872 = .ok (.invokevirtual 132, 3) := by decide +kernel
theorem dL_law__1875 : decode cL_law_ 1875 = .ok (.iload 5, 2) := by decide +kernel
theorem dL_law__1877 : decode cL_law_ 1877 = .ok (.if_icmp .eq 5, 3) := by decide +kernel
theorem dL_law__1880 : decode cL_law_ 1880 = .ok (.iconst 0, 1) := by decide +kernel
theorem dL_law__1881 : decode cL_law_ 1881 = .ok (.ireturn, 1) := by decide +kernel
theorem dL_law__1882 : decode cL_law_ 1882 = .ok (.iload 5, 2) := by decide +kernel
theorem dL_law__1884 : decode cL_law_ 1884 = .ok (.ifCond .ne 15, 3) := by decide +kernel
theorem dL_law__1887 : decode cL_law_ 1887 = .ok (.aload_n 3, 1) := by decide +kernel
theorem dL_law__1888 : decode cL_law_ 1888 = .ok (.iconst 0, 1) := by decide +kernel
theorem dL_law__1889 : decode cL_law_ 1889 = .ok (.laload, 1) := by decide +kernel
theorem dL_law__1890 : decode cL_law_ 1890 = .ok (.iload 6, 2) := by decide +kernel
theorem dL_law__1892 : decode cL_law_ 1892 = .ok (.i2l, 1) := by decide +kernel
theorem dL_law__1893 : decode cL_law_ 1893 = .ok (.lcmp, 1) := by decide +kernel
theorem dL_law__1894 : decode cL_law_ 1894 = .ok (.ifCond .eq 5, 3) := by decide +kernel
theorem dL_law__1897 : decode cL_law_ 1897 = .ok (.iconst 0, 1) := by decide +kernel
theorem dL_law__1898 : decode cL_law_ 1898 = .ok (.ireturn, 1) := by decide +kernel
theorem dL_law__1899 : decode cL_law_ 1899 = .ok (.goto 707, 3) := by decide +kernel
theorem dL_law__1902 : decode cL_law_ 1902 = .ok (.aload_n 1, 1) := by decide +kernel
theorem dL_law__1903 : decode cL_law_ 1903 = .ok (.aload_n 0, 1) := by decide +kernel
theorem dL_law__1904 : decode cL_law_ 1904 = .ok (.iload 4, 2) := by decide +kernel
theorem dL_law__1906 : decode cL_law_ 1906 = .ok (.iconst 1, 1) := by decide +kernel
theorem dL_law__1907 : decode cL_law_ 1907 = .ok (.iadd, 1) := by decide +kernel
theorem dL_law__1908 : decode cL_law_ 1908 = .ok (.iaload, 1) := by decide +kernel
theorem dL_law__1909 : decode cL_law_ 1909 = .ok (.aload_n 3, 1) := by decide +kernel
theorem dL_law__1910 : decode cL_law_ 1910 = .ok (.invokestatic 226, 3) := by decide +kernel
theorem dL_law__1913 : decode cL_law_ 1913 = .ok (.istore 5, 2) := by decide +kernel
theorem dL_law__1915 : decode cL_law_ 1915 = .ok (.aload_n 2, 1) := by decide +kernel
theorem dL_law__1916 : decode cL_law_ 1916 = .ok (.aload_n 0, 1) := by decide +kernel
theorem dL_law__1917 : decode cL_law_ 1917 = .ok (.iload 4, 2) := by decide +kernel
theorem dL_law__1919 : decode cL_law_ 1919 = .ok (.iconst 1, 1) := by decide +kernel
theorem dL_law__1920 : decode cL_law_ 1920 = .ok (.iadd, 1) := by decide +kernel
theorem dL_law__1921 : decode cL_law_ 1921 = .ok (.iaload, 1) := by decide +kernel
theorem dL_law__1922 : decode cL_law_ 1922 = .ok (.invokevirtual 228, 3) := by decide +kernel
theorem dL_law__1925 : decode cL_law_ 1925 = .ok (.istore 6, 2) := by decide +kernel
theorem dL_law__1927 : decode cL_law_ 1927 = .ok (.aload_n 2, 1) := by decide +kernel
theorem dL_law__1928 : decode cL_law_ 1928 = .ok (.invokevirtual 132, 3) := by decide +kernel
theorem dL_law__1931 : decode cL_law_ 1931 = .ok (.iload 5, 2) := by decide +kernel
theorem dL_law__1933 : decode cL_law_ 1933 = .ok (.if_icmp .eq 5, 3) := by decide +kernel
theorem dL_law__1936 : decode cL_law_ 1936 = .ok (.iconst 0, 1) := by decide +kernel
theorem dL_law__1937 : decode cL_law_ 1937 = .ok (.ireturn, 1) := by decide +kernel
theorem dL_law__1938 : decode cL_law_ 1938 = .ok (.iload 5, 2) := by decide +kernel
theorem dL_law__1940 : decode cL_law_ 1940 = .ok (.ifCond .ne 15, 3) := by decide +kernel
theorem dL_law__1943 : decode cL_law_ 1943 = .ok (.aload_n 3, 1) := by decide +kernel
theorem dL_law__1944 : decode cL_law_ 1944 = .ok (.iconst 0, 1) := by decide +kernel
theorem dL_law__1945 : decode cL_law_ 1945 = .ok (.laload, 1) := by decide +kernel
theorem dL_law__1946 : decode cL_law_ 1946 = .ok (.iload 6, 2) := by decide +kernel
theorem dL_law__1948 : decode cL_law_ 1948 = .ok (.i2l, 1) := by decide +kernel
theorem dL_law__1949 : decode cL_law_ 1949 = .ok (.lcmp, 1) := by decide +kernel
theorem dL_law__1950 : decode cL_law_ 1950 = .ok (.ifCond .eq 5, 3) := by decide +kernel
theorem dL_law__1953 : decode cL_law_ 1953 = .ok (.iconst 0, 1) := by decide +kernel
theorem dL_law__1954 : decode cL_law_ 1954 = .ok (.ireturn, 1) := by decide +kernel
theorem dL_law__1955 : decode cL_law_ 1955 = .ok (.goto 651, 3) := by decide +kernel
theorem dL_law__1958 : decode cL_law_ 1958 = .ok (.aload_n 1, 1) := by decide +kernel
theorem dL_law__1959 : decode cL_law_ 1959 = .ok (.aload_n 0, 1) := by decide +kernel
theorem dL_law__1960 : decode cL_law_ 1960 = .ok (.iload 4, 2) := by decide +kernel
theorem dL_law__1962 : decode cL_law_ 1962 = .ok (.iconst 1, 1) := by decide +kernel
theorem dL_law__1963 : decode cL_law_ 1963 = .ok (.iadd, 1) := by decide +kernel
theorem dL_law__1964 : decode cL_law_ 1964 = .ok (.iaload, 1) := by decide +kernel
theorem dL_law__1965 : decode cL_law_ 1965 = .ok (.aload_n 3, 1) := by decide +kernel
theorem dL_law__1966 : decode cL_law_ 1966 = .ok (.invokestatic 229, 3) := by decide +kernel
theorem dL_law__1969 : decode cL_law_ 1969 = .ok (.istore 5, 2) := by decide +kernel
theorem dL_law__1971 : decode cL_law_ 1971 = .ok (.aload_n 2, 1) := by decide +kernel
theorem dL_law__1972 : decode cL_law_ 1972 = .ok (.aload_n 0, 1) := by decide +kernel
theorem dL_law__1973 : decode cL_law_ 1973 = .ok (.iload 4, 2) := by decide +kernel
theorem dL_law__1975 : decode cL_law_ 1975 = .ok (.iconst 1, 1) := by decide +kernel
theorem dL_law__1976 : decode cL_law_ 1976 = .ok (.iadd, 1) := by decide +kernel
theorem dL_law__1977 : decode cL_law_ 1977 = .ok (.iaload, 1) := by decide +kernel
theorem dL_law__1978 : decode cL_law_ 1978 = .ok (.invokevirtual 231, 3) := by decide +kernel
theorem dL_law__1981 : decode cL_law_ 1981 = .ok (.istore 6, 2) := by decide +kernel
theorem dL_law__1983 : decode cL_law_ 1983 = .ok (.aload_n 2, 1) := by decide +kernel
theorem dL_law__1984 : decode cL_law_ 1984 = .ok (.invokevirtual 132, 3) := by decide +kernel
theorem dL_law__1987 : decode cL_law_ 1987 = .ok (.iload 5, 2) := by decide +kernel
theorem dL_law__1989 : decode cL_law_ 1989 = .ok (.if_icmp .eq 5, 3) := by decide +kernel
theorem dL_law__1992 : decode cL_law_ 1992 = .ok (.iconst 0, 1) := by decide +kernel
theorem dL_law__1993 : decode cL_law_ 1993 = .ok (.ireturn, 1) := by decide +kernel
theorem dL_law__1994 : decode cL_law_ 1994 = .ok (.iload 5, 2) := by decide +kernel
theorem dL_law__1996 : decode cL_law_ 1996 = .ok (.ifCond .ne 15, 3) := by decide +kernel
theorem dL_law__1999 : decode cL_law_ 1999 = .ok (.aload_n 3, 1) := by decide +kernel
theorem dL_law__2000 : decode cL_law_ 2000 = .ok (.iconst 0, 1) := by decide +kernel
theorem dL_law__2001 : decode cL_law_ 2001 = .ok (.laload, 1) := by decide +kernel
theorem dL_law__2002 : decode cL_law_ 2002 = .ok (.iload 6, 2) := by decide +kernel
theorem dL_law__2004 : decode cL_law_ 2004 = .ok (.i2l, 1) := by decide +kernel
theorem dL_law__2005 : decode cL_law_ 2005 = .ok (.lcmp, 1) := by decide +kernel
theorem dL_law__2006 : decode cL_law_ 2006 = .ok (.ifCond .eq 5, 3) := by decide +kernel
theorem dL_law__2009 : decode cL_law_ 2009 = .ok (.iconst 0, 1) := by decide +kernel
theorem dL_law__2010 : decode cL_law_ 2010 = .ok (.ireturn, 1) := by decide +kernel
theorem dL_law__2011 : decode cL_law_ 2011 = .ok (.goto 595, 3) := by decide +kernel
theorem dL_law__2014 : decode cL_law_ 2014 = .ok (.aload_n 1, 1) := by decide +kernel
theorem dL_law__2015 : decode cL_law_ 2015 = .ok (.aload_n 0, 1) := by decide +kernel
theorem dL_law__2016 : decode cL_law_ 2016 = .ok (.iload 4, 2) := by decide +kernel
theorem dL_law__2018 : decode cL_law_ 2018 = .ok (.iconst 1, 1) := by decide +kernel
theorem dL_law__2019 : decode cL_law_ 2019 = .ok (.iadd, 1) := by decide +kernel
theorem dL_law__2020 : decode cL_law_ 2020 = .ok (.iaload, 1) := by decide +kernel
theorem dL_law__2021 : decode cL_law_ 2021 = .ok (.aload_n 3, 1) := by decide +kernel
theorem dL_law__2022 : decode cL_law_ 2022 = .ok (.invokestatic 232, 3) := by decide +kernel
theorem dL_law__2025 : decode cL_law_ 2025 = .ok (.istore 5, 2) := by decide +kernel
theorem dL_law__2027 : decode cL_law_ 2027 = .ok (.aload_n 2, 1) := by decide +kernel
theorem dL_law__2028 : decode cL_law_ 2028 = .ok (.aload_n 0, 1) := by decide +kernel
theorem dL_law__2029 : decode cL_law_ 2029 = .ok (.iload 4, 2) := by decide +kernel
theorem dL_law__2031 : decode cL_law_ 2031 = .ok (.iconst 1, 1) := by decide +kernel
theorem dL_law__2032 : decode cL_law_ 2032 = .ok (.iadd, 1) := by decide +kernel
theorem dL_law__2033 : decode cL_law_ 2033 = .ok (.iaload, 1) := by decide +kernel
theorem dL_law__2034 : decode cL_law_ 2034 = .ok (.invokevirtual 234, 3) := by decide +kernel
theorem dL_law__2037 : decode cL_law_ 2037 = .ok (.istore 6, 2) := by decide +kernel
theorem dL_law__2039 : decode cL_law_ 2039 = .ok (.aload_n 2, 1) := by decide +kernel
theorem dL_law__2040 : decode cL_law_ 2040 = .ok (.invokevirtual 132, 3) := by decide +kernel
theorem dL_law__2043 : decode cL_law_ 2043 = .ok (.iload 5, 2) := by decide +kernel
theorem dL_law__2045 : decode cL_law_ 2045 = .ok (.if_icmp .eq 5, 3) := by decide +kernel
theorem dL_law__2048 : decode cL_law_ 2048 = .ok (.iconst 0, 1) := by decide +kernel
theorem dL_law__2049 : decode cL_law_ 2049 = .ok (.ireturn, 1) := by decide +kernel
theorem dL_law__2050 : decode cL_law_ 2050 = .ok (.iload 5, 2) := by decide +kernel
theorem dL_law__2052 : decode cL_law_ 2052 = .ok (.ifCond .ne 15, 3) := by decide +kernel
theorem dL_law__2055 : decode cL_law_ 2055 = .ok (.aload_n 3, 1) := by decide +kernel
theorem dL_law__2056 : decode cL_law_ 2056 = .ok (.iconst 0, 1) := by decide +kernel
theorem dL_law__2057 : decode cL_law_ 2057 = .ok (.laload, 1) := by decide +kernel
theorem dL_law__2058 : decode cL_law_ 2058 = .ok (.iload 6, 2) := by decide +kernel
theorem dL_law__2060 : decode cL_law_ 2060 = .ok (.i2l, 1) := by decide +kernel
theorem dL_law__2061 : decode cL_law_ 2061 = .ok (.lcmp, 1) := by decide +kernel
theorem dL_law__2062 : decode cL_law_ 2062 = .ok (.ifCond .eq 5, 3) := by decide +kernel
theorem dL_law__2065 : decode cL_law_ 2065 = .ok (.iconst 0, 1) := by decide +kernel
theorem dL_law__2066 : decode cL_law_ 2066 = .ok (.ireturn, 1) := by decide +kernel
theorem dL_law__2067 : decode cL_law_ 2067 = .ok (.goto 539, 3) := by decide +kernel
theorem dL_law__2070 : decode cL_law_ 2070 = .ok (.aload_n 1, 1) := by decide +kernel
theorem dL_law__2071 : decode cL_law_ 2071 = .ok (.invokevirtual 235, 3) := by decide +kernel
theorem dL_law__2074 : decode cL_law_ 2074 = .ok (.aload_n 2, 1) := by decide +kernel
theorem dL_law__2075 : decode cL_law_ 2075 = .ok (.invokevirtual 238, 3) := by decide +kernel
theorem dL_law__2078 : decode cL_law_ 2078 = .ok (.if_icmp .eq 528, 3) := by decide +kernel
theorem dL_law__2081 : decode cL_law_ 2081 = .ok (.iconst 0, 1) := by decide +kernel
theorem dL_law__2082 : decode cL_law_ 2082 = .ok (.ireturn, 1) := by decide +kernel
theorem dL_law__2083 : decode cL_law_ 2083 = .ok (.aload_n 1, 1) := by decide +kernel
theorem dL_law__2084 : decode cL_law_ 2084 = .ok (.invokevirtual 239, 3) := by decide +kernel
theorem dL_law__2087 : decode cL_law_ 2087 = .ok (.aload_n 2, 1) := by decide +kernel
theorem dL_law__2088 : decode cL_law_ 2088 = .ok (.invokevirtual 242, 3) := by decide +kernel
theorem dL_law__2091 : decode cL_law_ 2091 = .ok (.if_icmp .eq 515, 3) := by decide +kernel
theorem dL_law__2094 : decode cL_law_ 2094 = .ok (.iconst 0, 1) := by decide +kernel
theorem dL_law__2095 : decode cL_law_ 2095 = .ok (.ireturn, 1) := by decide +kernel
theorem dL_law__2096 : decode cL_law_ 2096 = .ok (.aload_n 1, 1) := by decide +kernel
theorem dL_law__2097 : decode cL_law_ 2097 = .ok (.aload_n 0, 1) := by decide +kernel
theorem dL_law__2098 : decode cL_law_ 2098 = .ok (.iload 4, 2) := by decide +kernel
theorem dL_law__2100 : decode cL_law_ 2100 = .ok (.iconst 1, 1) := by decide +kernel
theorem dL_law__2101 : decode cL_law_ 2101 = .ok (.iadd, 1) := by decide +kernel
theorem dL_law__2102 : decode cL_law_ 2102 = .ok (.iaload, 1) := by decide +kernel
theorem dL_law__2103 : decode cL_law_ 2103 = .ok (.aload_n 3, 1) := by decide +kernel
theorem dL_law__2104 : decode cL_law_ 2104 = .ok (.invokestatic 243, 3) := by decide +kernel
theorem dL_law__2107 : decode cL_law_ 2107 = .ok (.istore 5, 2) := by decide +kernel
theorem dL_law__2109 : decode cL_law_ 2109 = .ok (.aload_n 2, 1) := by decide +kernel
theorem dL_law__2110 : decode cL_law_ 2110 = .ok (.aload_n 0, 1) := by decide +kernel
theorem dL_law__2111 : decode cL_law_ 2111 = .ok (.iload 4, 2) := by decide +kernel
theorem dL_law__2113 : decode cL_law_ 2113 = .ok (.iconst 1, 1) := by decide +kernel
theorem dL_law__2114 : decode cL_law_ 2114 = .ok (.iadd, 1) := by decide +kernel
theorem dL_law__2115 : decode cL_law_ 2115 = .ok (.iaload, 1) := by decide +kernel
theorem dL_law__2116 : decode cL_law_ 2116 = .ok (.invokevirtual 245, 3) := by decide +kernel
theorem dL_law__2119 : decode cL_law_ 2119 = .ok (.istore 6, 2) := by decide +kernel
theorem dL_law__2121 : decode cL_law_ 2121 = .ok (.aload_n 2, 1) := by decide +kernel
theorem dL_law__2122 : decode cL_law_ 2122 = .ok (.invokevirtual 132, 3) := by decide +kernel
theorem dL_law__2125 : decode cL_law_ 2125 = .ok (.iload 5, 2) := by decide +kernel
theorem dL_law__2127 : decode cL_law_ 2127 = .ok (.if_icmp .eq 5, 3) := by decide +kernel
theorem dL_law__2130 : decode cL_law_ 2130 = .ok (.iconst 0, 1) := by decide +kernel
theorem dL_law__2131 : decode cL_law_ 2131 = .ok (.ireturn, 1) := by decide +kernel
theorem dL_law__2132 : decode cL_law_ 2132 = .ok (.iload 5, 2) := by decide +kernel
theorem dL_law__2134 : decode cL_law_ 2134 = .ok (.ifCond .ne 15, 3) := by decide +kernel
theorem dL_law__2137 : decode cL_law_ 2137 = .ok (.aload_n 3, 1) := by decide +kernel
theorem dL_law__2138 : decode cL_law_ 2138 = .ok (.iconst 0, 1) := by decide +kernel
theorem dL_law__2139 : decode cL_law_ 2139 = .ok (.laload, 1) := by decide +kernel
theorem dL_law__2140 : decode cL_law_ 2140 = .ok (.iload 6, 2) := by decide +kernel
theorem dL_law__2142 : decode cL_law_ 2142 = .ok (.i2l, 1) := by decide +kernel
theorem dL_law__2143 : decode cL_law_ 2143 = .ok (.lcmp, 1) := by decide +kernel
theorem dL_law__2144 : decode cL_law_ 2144 = .ok (.ifCond .eq 5, 3) := by decide +kernel
theorem dL_law__2147 : decode cL_law_ 2147 = .ok (.iconst 0, 1) := by decide +kernel
theorem dL_law__2148 : decode cL_law_ 2148 = .ok (.ireturn, 1) := by decide +kernel
theorem dL_law__2149 : decode cL_law_ 2149 = .ok (.goto 457, 3) := by decide +kernel
theorem dL_law__2152 : decode cL_law_ 2152 = .ok (.aload_n 1, 1) := by decide +kernel
theorem dL_law__2153 : decode cL_law_ 2153 = .ok (.aload_n 0, 1) := by decide +kernel
theorem dL_law__2154 : decode cL_law_ 2154 = .ok (.iload 4, 2) := by decide +kernel
theorem dL_law__2156 : decode cL_law_ 2156 = .ok (.iconst 1, 1) := by decide +kernel
theorem dL_law__2157 : decode cL_law_ 2157 = .ok (.iadd, 1) := by decide +kernel
theorem dL_law__2158 : decode cL_law_ 2158 = .ok (.iaload, 1) := by decide +kernel
theorem dL_law__2159 : decode cL_law_ 2159 = .ok (.aload_n 3, 1) := by decide +kernel
theorem dL_law__2160 : decode cL_law_ 2160 = .ok (.invokestatic 246, 3) := by decide +kernel
theorem dL_law__2163 : decode cL_law_ 2163 = .ok (.istore 5, 2) := by decide +kernel
theorem dL_law__2165 : decode cL_law_ 2165 = .ok (.aload_n 2, 1) := by decide +kernel
theorem dL_law__2166 : decode cL_law_ 2166 = .ok (.aload_n 0, 1) := by decide +kernel
theorem dL_law__2167 : decode cL_law_ 2167 = .ok (.iload 4, 2) := by decide +kernel
theorem dL_law__2169 : decode cL_law_ 2169 = .ok (.iconst 1, 1) := by decide +kernel
theorem dL_law__2170 : decode cL_law_ 2170 = .ok (.iadd, 1) := by decide +kernel
theorem dL_law__2171 : decode cL_law_ 2171 = .ok (.iaload, 1) := by decide +kernel
theorem dL_law__2172 : decode cL_law_ 2172 = .ok (.invokevirtual 248, 3) := by decide +kernel
theorem dL_law__2175 : decode cL_law_ 2175 = .ok (.istore 6, 2) := by decide +kernel
theorem dL_law__2177 : decode cL_law_ 2177 = .ok (.aload_n 2, 1) := by decide +kernel
theorem dL_law__2178 : decode cL_law_ 2178 = .ok (.invokevirtual 132, 3) := by decide +kernel
theorem dL_law__2181 : decode cL_law_ 2181 = .ok (.iload 5, 2) := by decide +kernel
theorem dL_law__2183 : decode cL_law_ 2183 = .ok (.if_icmp .eq 5, 3) := by decide +kernel
theorem dL_law__2186 : decode cL_law_ 2186 = .ok (.iconst 0, 1) := by decide +kernel
theorem dL_law__2187 : decode cL_law_ 2187 = .ok (.ireturn, 1) := by decide +kernel
theorem dL_law__2188 : decode cL_law_ 2188 = .ok (.iload 5, 2) := by decide +kernel
theorem dL_law__2190 : decode cL_law_ 2190 = .ok (.ifCond .ne 15, 3) := by decide +kernel
theorem dL_law__2193 : decode cL_law_ 2193 = .ok (.aload_n 3, 1) := by decide +kernel
theorem dL_law__2194 : decode cL_law_ 2194 = .ok (.iconst 0, 1) := by decide +kernel
theorem dL_law__2195 : decode cL_law_ 2195 = .ok (.laload, 1) := by decide +kernel
theorem dL_law__2196 : decode cL_law_ 2196 = .ok (.iload 6, 2) := by decide +kernel
theorem dL_law__2198 : decode cL_law_ 2198 = .ok (.i2l, 1) := by decide +kernel
theorem dL_law__2199 : decode cL_law_ 2199 = .ok (.lcmp, 1) := by decide +kernel
theorem dL_law__2200 : decode cL_law_ 2200 = .ok (.ifCond .eq 5, 3) := by decide +kernel
theorem dL_law__2203 : decode cL_law_ 2203 = .ok (.iconst 0, 1) := by decide +kernel
theorem dL_law__2204 : decode cL_law_ 2204 = .ok (.ireturn, 1) := by decide +kernel
theorem dL_law__2205 : decode cL_law_ 2205 = .ok (.goto 401, 3) := by decide +kernel
theorem dL_law__2208 : decode cL_law_ 2208 = .ok (.aload_n 1, 1) := by decide +kernel
theorem dL_law__2209 : decode cL_law_ 2209 = .ok (.aload_n 0, 1) := by decide +kernel
theorem dL_law__2210 : decode cL_law_ 2210 = .ok (.iload 4, 2) := by decide +kernel
theorem dL_law__2212 : decode cL_law_ 2212 = .ok (.iconst 1, 1) := by decide +kernel
theorem dL_law__2213 : decode cL_law_ 2213 = .ok (.iadd, 1) := by decide +kernel
theorem dL_law__2214 : decode cL_law_ 2214 = .ok (.iaload, 1) := by decide +kernel
theorem dL_law__2215 : decode cL_law_ 2215 = .ok (.aload_n 3, 1) := by decide +kernel
theorem dL_law__2216 : decode cL_law_ 2216 = .ok (.invokestatic 249, 3) := by decide +kernel
theorem dL_law__2219 : decode cL_law_ 2219 = .ok (.istore 5, 2) := by decide +kernel
theorem dL_law__2221 : decode cL_law_ 2221 = .ok (.aload_n 2, 1) := by decide +kernel
theorem dL_law__2222 : decode cL_law_ 2222 = .ok (.aload_n 0, 1) := by decide +kernel
theorem dL_law__2223 : decode cL_law_ 2223 = .ok (.iload 4, 2) := by decide +kernel
theorem dL_law__2225 : decode cL_law_ 2225 = .ok (.iconst 1, 1) := by decide +kernel
theorem dL_law__2226 : decode cL_law_ 2226 = .ok (.iadd, 1) := by decide +kernel
theorem dL_law__2227 : decode cL_law_ 2227 = .ok (.iaload, 1) := by decide +kernel
theorem dL_law__2228 : decode cL_law_ 2228 = .ok (.invokevirtual 251, 3) := by decide +kernel
theorem dL_law__2231 : decode cL_law_ 2231 = .ok (.istore 6, 2) := by decide +kernel
theorem dL_law__2233 : decode cL_law_ 2233 = .ok (.aload_n 2, 1) := by decide +kernel
theorem dL_law__2234 : decode cL_law_ 2234 = .ok (.invokevirtual 132, 3) := by decide +kernel
theorem dL_law__2237 : decode cL_law_ 2237 = .ok (.iload 5, 2) := by decide +kernel
theorem dL_law__2239 : decode cL_law_ 2239 = .ok (.if_icmp .eq 5, 3) := by decide +kernel
theorem dL_law__2242 : decode cL_law_ 2242 = .ok (.iconst 0, 1) := by decide +kernel
theorem dL_law__2243 : decode cL_law_ 2243 = .ok (.ireturn, 1) := by decide +kernel
theorem dL_law__2244 : decode cL_law_ 2244 = .ok (.iload 5, 2) := by decide +kernel
theorem dL_law__2246 : decode cL_law_ 2246 = .ok (.ifCond .ne 15, 3) := by decide +kernel
theorem dL_law__2249 : decode cL_law_ 2249 = .ok (.aload_n 3, 1) := by decide +kernel
theorem dL_law__2250 : decode cL_law_ 2250 = .ok (.iconst 0, 1) := by decide +kernel
theorem dL_law__2251 : decode cL_law_ 2251 = .ok (.laload, 1) := by decide +kernel
theorem dL_law__2252 : decode cL_law_ 2252 = .ok (.iload 6, 2) := by decide +kernel
theorem dL_law__2254 : decode cL_law_ 2254 = .ok (.i2l, 1) := by decide +kernel
theorem dL_law__2255 : decode cL_law_ 2255 = .ok (.lcmp, 1) := by decide +kernel
theorem dL_law__2256 : decode cL_law_ 2256 = .ok (.ifCond .eq 5, 3) := by decide +kernel
theorem dL_law__2259 : decode cL_law_ 2259 = .ok (.iconst 0, 1) := by decide +kernel
theorem dL_law__2260 : decode cL_law_ 2260 = .ok (.ireturn, 1) := by decide +kernel
theorem dL_law__2261 : decode cL_law_ 2261 = .ok (.goto 345, 3) := by decide +kernel
theorem dL_law__2264 : decode cL_law_ 2264 = .ok (.aload_n 1, 1) := by decide +kernel
theorem dL_law__2265 : decode cL_law_ 2265 = .ok (.aload_n 0, 1) := by decide +kernel
theorem dL_law__2266 : decode cL_law_ 2266 = .ok (.iload 4, 2) := by decide +kernel
theorem dL_law__2268 : decode cL_law_ 2268 = .ok (.iconst 1, 1) := by decide +kernel
theorem dL_law__2269 : decode cL_law_ 2269 = .ok (.iadd, 1) := by decide +kernel
theorem dL_law__2270 : decode cL_law_ 2270 = .ok (.iaload, 1) := by decide +kernel
theorem dL_law__2271 : decode cL_law_ 2271 = .ok (.aload_n 3, 1) := by decide +kernel
theorem dL_law__2272 : decode cL_law_ 2272 = .ok (.invokestatic 252, 3) := by decide +kernel
theorem dL_law__2275 : decode cL_law_ 2275 = .ok (.istore 5, 2) := by decide +kernel
theorem dL_law__2277 : decode cL_law_ 2277 = .ok (.aload_n 2, 1) := by decide +kernel
theorem dL_law__2278 : decode cL_law_ 2278 = .ok (.aload_n 0, 1) := by decide +kernel
theorem dL_law__2279 : decode cL_law_ 2279 = .ok (.iload 4, 2) := by decide +kernel
theorem dL_law__2281 : decode cL_law_ 2281 = .ok (.iconst 1, 1) := by decide +kernel
theorem dL_law__2282 : decode cL_law_ 2282 = .ok (.iadd, 1) := by decide +kernel
theorem dL_law__2283 : decode cL_law_ 2283 = .ok (.iaload, 1) := by decide +kernel
theorem dL_law__2284 : decode cL_law_ 2284 = .ok (.invokevirtual 254, 3) := by decide +kernel
theorem dL_law__2287 : decode cL_law_ 2287 = .ok (.istore 6, 2) := by decide +kernel
theorem dL_law__2289 : decode cL_law_ 2289 = .ok (.aload_n 2, 1) := by decide +kernel
theorem dL_law__2290 : decode cL_law_ 2290 = .ok (.invokevirtual 132, 3) := by decide +kernel
theorem dL_law__2293 : decode cL_law_ 2293 = .ok (.iload 5, 2) := by decide +kernel
theorem dL_law__2295 : decode cL_law_ 2295 = .ok (.if_icmp .eq 5, 3) := by decide +kernel
theorem dL_law__2298 : decode cL_law_ 2298 = .ok (.iconst 0, 1) := by decide +kernel
theorem dL_law__2299 : decode cL_law_ 2299 = .ok (.ireturn, 1) := by decide +kernel
theorem dL_law__2300 : decode cL_law_ 2300 = .ok (.iload 5, 2) := by decide +kernel
theorem dL_law__2302 : decode cL_law_ 2302 = .ok (.ifCond .ne 15, 3) := by decide +kernel
theorem dL_law__2305 : decode cL_law_ 2305 = .ok (.aload_n 3, 1) := by decide +kernel
theorem dL_law__2306 : decode cL_law_ 2306 = .ok (.iconst 0, 1) := by decide +kernel
theorem dL_law__2307 : decode cL_law_ 2307 = .ok (.laload, 1) := by decide +kernel
theorem dL_law__2308 : decode cL_law_ 2308 = .ok (.iload 6, 2) := by decide +kernel
theorem dL_law__2310 : decode cL_law_ 2310 = .ok (.i2l, 1) := by decide +kernel
theorem dL_law__2311 : decode cL_law_ 2311 = .ok (.lcmp, 1) := by decide +kernel
theorem dL_law__2312 : decode cL_law_ 2312 = .ok (.ifCond .eq 5, 3) := by decide +kernel
theorem dL_law__2315 : decode cL_law_ 2315 = .ok (.iconst 0, 1) := by decide +kernel
theorem dL_law__2316 : decode cL_law_ 2316 = .ok (.ireturn, 1) := by decide +kernel
theorem dL_law__2317 : decode cL_law_ 2317 = .ok (.goto 289, 3) := by decide +kernel
theorem dL_law__2320 : decode cL_law_ 2320 = .ok (.aload_n 1, 1) := by decide +kernel
theorem dL_law__2321 : decode cL_law_ 2321 = .ok (.aload_n 0, 1) := by decide +kernel
theorem dL_law__2322 : decode cL_law_ 2322 = .ok (.iload 4, 2) := by decide +kernel
theorem dL_law__2324 : decode cL_law_ 2324 = .ok (.iconst 1, 1) := by decide +kernel
theorem dL_law__2325 : decode cL_law_ 2325 = .ok (.iadd, 1) := by decide +kernel
theorem dL_law__2326 : decode cL_law_ 2326 = .ok (.iaload, 1) := by decide +kernel
theorem dL_law__2327 : decode cL_law_ 2327 = .ok (.aload_n 0, 1) := by decide +kernel
theorem dL_law__2328 : decode cL_law_ 2328 = .ok (.iload 4, 2) := by decide +kernel
theorem dL_law__2330 : decode cL_law_ 2330 = .ok (.iconst 2, 1) := by decide +kernel
theorem dL_law__2331 : decode cL_law_ 2331 = .ok (.iadd, 1) := by decide +kernel
theorem dL_law__2332 : decode cL_law_ 2332 = .ok (.iaload, 1) := by decide +kernel
theorem dL_law__2333 : decode cL_law_ 2333 = .ok (.aload_n 0, 1) := by decide +kernel
theorem dL_law__2334 : decode cL_law_ 2334 = .ok (.iload 4, 2) := by decide +kernel
theorem dL_law__2336 : decode cL_law_ 2336 = .ok (.iconst 3, 1) := by decide +kernel
theorem dL_law__2337 : decode cL_law_ 2337 = .ok (.iadd, 1) := by decide +kernel
theorem dL_law__2338 : decode cL_law_ 2338 = .ok (.iaload, 1) := by decide +kernel
theorem dL_law__2339 : decode cL_law_ 2339 = .ok (.aload_n 0, 1) := by decide +kernel
theorem dL_law__2340 : decode cL_law_ 2340 = .ok (.iload 4, 2) := by decide +kernel
theorem dL_law__2342 : decode cL_law_ 2342 = .ok (.iconst 4, 1) := by decide +kernel
theorem dL_law__2343 : decode cL_law_ 2343 = .ok (.iadd, 1) := by decide +kernel
theorem dL_law__2344 : decode cL_law_ 2344 = .ok (.iaload, 1) := by decide +kernel
theorem dL_law__2345 : decode cL_law_ 2345 = .ok (.aload_n 3, 1) := by decide +kernel
theorem dL_law__2346 : decode cL_law_ 2346 = .ok (.invokestatic 255, 3) := by decide +kernel
theorem dL_law__2349 : decode cL_law_ 2349 = .ok (.istore 5, 2) := by decide +kernel
theorem dL_law__2351 : decode cL_law_ 2351 = .ok (.aload_n 2, 1) := by decide +kernel
theorem dL_law__2352 : decode cL_law_ 2352 = .ok (.aload_n 0, 1) := by decide +kernel
theorem dL_law__2353 : decode cL_law_ 2353 = .ok (.iload 4, 2) := by decide +kernel
theorem dL_law__2355 : decode cL_law_ 2355 = .ok (.iconst 1, 1) := by decide +kernel
theorem dL_law__2356 : decode cL_law_ 2356 = .ok (.iadd, 1) := by decide +kernel
theorem dL_law__2357 : decode cL_law_ 2357 = .ok (.iaload, 1) := by decide +kernel
theorem dL_law__2358 : decode cL_law_ 2358 = .ok (.aload_n 0, 1) := by decide +kernel
theorem dL_law__2359 : decode cL_law_ 2359 = .ok (.iload 4, 2) := by decide +kernel
theorem dL_law__2361 : decode cL_law_ 2361 = .ok (.iconst 2, 1) := by decide +kernel
theorem dL_law__2362 : decode cL_law_ 2362 = .ok (.iadd, 1) := by decide +kernel
theorem dL_law__2363 : decode cL_law_ 2363 = .ok (.iaload, 1) := by decide +kernel
theorem dL_law__2364 : decode cL_law_ 2364 = .ok (.aload_n 0, 1) := by decide +kernel
theorem dL_law__2365 : decode cL_law_ 2365 = .ok (.iload 4, 2) := by decide +kernel
theorem dL_law__2367 : decode cL_law_ 2367 = .ok (.iconst 3, 1) := by decide +kernel
theorem dL_law__2368 : decode cL_law_ 2368 = .ok (.iadd, 1) := by decide +kernel
theorem dL_law__2369 : decode cL_law_ 2369 = .ok (.iaload, 1) := by decide +kernel
theorem dL_law__2370 : decode cL_law_ 2370 = .ok (.aload_n 0, 1) := by decide +kernel
theorem dL_law__2371 : decode cL_law_ 2371 = .ok (.iload 4, 2) := by decide +kernel
theorem dL_law__2373 : decode cL_law_ 2373 = .ok (.iconst 4, 1) := by decide +kernel
theorem dL_law__2374 : decode cL_law_ 2374 = .ok (.iadd, 1) := by decide +kernel
theorem dL_law__2375 : decode cL_law_ 2375 = .ok (.iaload, 1) := by decide +kernel
theorem dL_law__2376 : decode cL_law_ 2376 = .ok (.invokevirtual 257, 3) := by decide +kernel
theorem dL_law__2379 : decode cL_law_ 2379 = .ok (.istore 6, 2) := by decide +kernel
theorem dL_law__2381 : decode cL_law_ 2381 = .ok (.aload_n 2, 1) := by decide +kernel
theorem dL_law__2382 : decode cL_law_ 2382 = .ok (.invokevirtual 132, 3) := by decide +kernel
theorem dL_law__2385 : decode cL_law_ 2385 = .ok (.iload 5, 2) := by decide +kernel
theorem dL_law__2387 : decode cL_law_ 2387 = .ok (.if_icmp .eq 5, 3) := by decide +kernel
theorem dL_law__2390 : decode cL_law_ 2390 = .ok (.iconst 0, 1) := by decide +kernel
theorem dL_law__2391 : decode cL_law_ 2391 = .ok (.ireturn, 1) := by decide +kernel
theorem dL_law__2392 : decode cL_law_ 2392 = .ok (.iload 5, 2) := by decide +kernel
theorem dL_law__2394 : decode cL_law_ 2394 = .ok (.ifCond .ne 15, 3) := by decide +kernel
theorem dL_law__2397 : decode cL_law_ 2397 = .ok (.aload_n 3, 1) := by decide +kernel
theorem dL_law__2398 : decode cL_law_ 2398 = .ok (.iconst 0, 1) := by decide +kernel
theorem dL_law__2399 : decode cL_law_ 2399 = .ok (.laload, 1) := by decide +kernel
theorem dL_law__2400 : decode cL_law_ 2400 = .ok (.iload 6, 2) := by decide +kernel
theorem dL_law__2402 : decode cL_law_ 2402 = .ok (.i2l, 1) := by decide +kernel
theorem dL_law__2403 : decode cL_law_ 2403 = .ok (.lcmp, 1) := by decide +kernel
theorem dL_law__2404 : decode cL_law_ 2404 = .ok (.ifCond .eq 5, 3) := by decide +kernel
theorem dL_law__2407 : decode cL_law_ 2407 = .ok (.iconst 0, 1) := by decide +kernel
theorem dL_law__2408 : decode cL_law_ 2408 = .ok (.ireturn, 1) := by decide +kernel
theorem dL_law__2409 : decode cL_law_ 2409 = .ok (.goto 197, 3) := by decide +kernel
theorem dL_law__2412 : decode cL_law_ 2412 = .ok (.aload_n 1, 1) := by decide +kernel
theorem dL_law__2413 : decode cL_law_ 2413 = .ok (.aload_n 0, 1) := by decide +kernel
theorem dL_law__2414 : decode cL_law_ 2414 = .ok (.iload 4, 2) := by decide +kernel
theorem dL_law__2416 : decode cL_law_ 2416 = .ok (.iconst 1, 1) := by decide +kernel
theorem dL_law__2417 : decode cL_law_ 2417 = .ok (.iadd, 1) := by decide +kernel
theorem dL_law__2418 : decode cL_law_ 2418 = .ok (.iaload, 1) := by decide +kernel
theorem dL_law__2419 : decode cL_law_ 2419 = .ok (.aload_n 0, 1) := by decide +kernel
theorem dL_law__2420 : decode cL_law_ 2420 = .ok (.iload 4, 2) := by decide +kernel
theorem dL_law__2422 : decode cL_law_ 2422 = .ok (.iconst 2, 1) := by decide +kernel
theorem dL_law__2423 : decode cL_law_ 2423 = .ok (.iadd, 1) := by decide +kernel
theorem dL_law__2424 : decode cL_law_ 2424 = .ok (.iaload, 1) := by decide +kernel
theorem dL_law__2425 : decode cL_law_ 2425 = .ok (.aload_n 0, 1) := by decide +kernel
theorem dL_law__2426 : decode cL_law_ 2426 = .ok (.iload 4, 2) := by decide +kernel
theorem dL_law__2428 : decode cL_law_ 2428 = .ok (.iconst 3, 1) := by decide +kernel
theorem dL_law__2429 : decode cL_law_ 2429 = .ok (.iadd, 1) := by decide +kernel
theorem dL_law__2430 : decode cL_law_ 2430 = .ok (.iaload, 1) := by decide +kernel
theorem dL_law__2431 : decode cL_law_ 2431 = .ok (.aload_n 0, 1) := by decide +kernel
theorem dL_law__2432 : decode cL_law_ 2432 = .ok (.iload 4, 2) := by decide +kernel
theorem dL_law__2434 : decode cL_law_ 2434 = .ok (.iconst 4, 1) := by decide +kernel
theorem dL_law__2435 : decode cL_law_ 2435 = .ok (.iadd, 1) := by decide +kernel
theorem dL_law__2436 : decode cL_law_ 2436 = .ok (.iaload, 1) := by decide +kernel
theorem dL_law__2437 : decode cL_law_ 2437 = .ok (.aload_n 0, 1) := by decide +kernel
theorem dL_law__2438 : decode cL_law_ 2438 = .ok (.iload 4, 2) := by decide +kernel
theorem dL_law__2440 : decode cL_law_ 2440 = .ok (.iconst 5, 1) := by decide +kernel
theorem dL_law__2441 : decode cL_law_ 2441 = .ok (.iadd, 1) := by decide +kernel
theorem dL_law__2442 : decode cL_law_ 2442 = .ok (.iaload, 1) := by decide +kernel
theorem dL_law__2443 : decode cL_law_ 2443 = .ok (.aload_n 0, 1) := by decide +kernel
theorem dL_law__2444 : decode cL_law_ 2444 = .ok (.iload 4, 2) := by decide +kernel
theorem dL_law__2446 : decode cL_law_ 2446 = .ok (.bipush 6, 2) := by decide +kernel
theorem dL_law__2448 : decode cL_law_ 2448 = .ok (.iadd, 1) := by decide +kernel
theorem dL_law__2449 : decode cL_law_ 2449 = .ok (.iaload, 1) := by decide +kernel
theorem dL_law__2450 : decode cL_law_ 2450 = .ok (.aload_n 3, 1) := by decide +kernel
theorem dL_law__2451 : decode cL_law_ 2451 = .ok (.invokestatic 258, 3) := by decide +kernel
theorem dL_law__2454 : decode cL_law_ 2454 = .ok (.istore 5, 2) := by decide +kernel
theorem dL_law__2456 : decode cL_law_ 2456 = .ok (.aload_n 2, 1) := by decide +kernel
theorem dL_law__2457 : decode cL_law_ 2457 = .ok (.aload_n 0, 1) := by decide +kernel
theorem dL_law__2458 : decode cL_law_ 2458 = .ok (.iload 4, 2) := by decide +kernel
theorem dL_law__2460 : decode cL_law_ 2460 = .ok (.iconst 1, 1) := by decide +kernel
theorem dL_law__2461 : decode cL_law_ 2461 = .ok (.iadd, 1) := by decide +kernel
theorem dL_law__2462 : decode cL_law_ 2462 = .ok (.iaload, 1) := by decide +kernel
theorem dL_law__2463 : decode cL_law_ 2463 = .ok (.aload_n 0, 1) := by decide +kernel
theorem dL_law__2464 : decode cL_law_ 2464 = .ok (.iload 4, 2) := by decide +kernel
theorem dL_law__2466 : decode cL_law_ 2466 = .ok (.iconst 2, 1) := by decide +kernel
theorem dL_law__2467 : decode cL_law_ 2467 = .ok (.iadd, 1) := by decide +kernel
theorem dL_law__2468 : decode cL_law_ 2468 = .ok (.iaload, 1) := by decide +kernel
theorem dL_law__2469 : decode cL_law_ 2469 = .ok (.aload_n 0, 1) := by decide +kernel
theorem dL_law__2470 : decode cL_law_ 2470 = .ok (.iload 4, 2) := by decide +kernel
theorem dL_law__2472 : decode cL_law_ 2472 = .ok (.iconst 3, 1) := by decide +kernel
theorem dL_law__2473 : decode cL_law_ 2473 = .ok (.iadd, 1) := by decide +kernel
theorem dL_law__2474 : decode cL_law_ 2474 = .ok (.iaload, 1) := by decide +kernel
theorem dL_law__2475 : decode cL_law_ 2475 = .ok (.aload_n 0, 1) := by decide +kernel
theorem dL_law__2476 : decode cL_law_ 2476 = .ok (.iload 4, 2) := by decide +kernel
theorem dL_law__2478 : decode cL_law_ 2478 = .ok (.iconst 4, 1) := by decide +kernel
theorem dL_law__2479 : decode cL_law_ 2479 = .ok (.iadd, 1) := by decide +kernel
theorem dL_law__2480 : decode cL_law_ 2480 = .ok (.iaload, 1) := by decide +kernel
theorem dL_law__2481 : decode cL_law_ 2481 = .ok (.aload_n 0, 1) := by decide +kernel
theorem dL_law__2482 : decode cL_law_ 2482 = .ok (.iload 4, 2) := by decide +kernel
theorem dL_law__2484 : decode cL_law_ 2484 = .ok (.iconst 5, 1) := by decide +kernel
theorem dL_law__2485 : decode cL_law_ 2485 = .ok (.iadd, 1) := by decide +kernel
theorem dL_law__2486 : decode cL_law_ 2486 = .ok (.iaload, 1) := by decide +kernel
theorem dL_law__2487 : decode cL_law_ 2487 = .ok (.aload_n 0, 1) := by decide +kernel
theorem dL_law__2488 : decode cL_law_ 2488 = .ok (.iload 4, 2) := by decide +kernel
theorem dL_law__2490 : decode cL_law_ 2490 = .ok (.bipush 6, 2) := by decide +kernel
theorem dL_law__2492 : decode cL_law_ 2492 = .ok (.iadd, 1) := by decide +kernel
theorem dL_law__2493 : decode cL_law_ 2493 = .ok (.iaload, 1) := by decide +kernel
theorem dL_law__2494 : decode cL_law_ 2494 = .ok (.invokevirtual 261, 3) := by decide +kernel
theorem dL_law__2497 : decode cL_law_ 2497 = .ok (.istore 6, 2) := by decide +kernel
theorem dL_law__2499 : decode cL_law_ 2499 = .ok (.aload_n 2, 1) := by decide +kernel
theorem dL_law__2500 : decode cL_law_ 2500 = .ok (.invokevirtual 132, 3) := by decide +kernel
theorem dL_law__2503 : decode cL_law_ 2503 = .ok (.iload 5, 2) := by decide +kernel
theorem dL_law__2505 : decode cL_law_ 2505 = .ok (.if_icmp .eq 5, 3) := by decide +kernel
theorem dL_law__2508 : decode cL_law_ 2508 = .ok (.iconst 0, 1) := by decide +kernel
theorem dL_law__2509 : decode cL_law_ 2509 = .ok (.ireturn, 1) := by decide +kernel
theorem dL_law__2510 : decode cL_law_ 2510 = .ok (.iload 5, 2) := by decide +kernel
theorem dL_law__2512 : decode cL_law_ 2512 = .ok (.ifCond .ne 15, 3) := by decide +kernel
theorem dL_law__2515 : decode cL_law_ 2515 = .ok (.aload_n 3, 1) := by decide +kernel
theorem dL_law__2516 : decode cL_law_ 2516 = .ok (.iconst 0, 1) := by decide +kernel
theorem dL_law__2517 : decode cL_law_ 2517 = .ok (.laload, 1) := by decide +kernel
theorem dL_law__2518 : decode cL_law_ 2518 = .ok (.iload 6, 2) := by decide +kernel
theorem dL_law__2520 : decode cL_law_ 2520 = .ok (.i2l, 1) := by decide +kernel
theorem dL_law__2521 : decode cL_law_ 2521 = .ok (.lcmp, 1) := by decide +kernel
theorem dL_law__2522 : decode cL_law_ 2522 = .ok (.ifCond .eq 5, 3) := by decide +kernel
theorem dL_law__2525 : decode cL_law_ 2525 = .ok (.iconst 0, 1) := by decide +kernel
theorem dL_law__2526 : decode cL_law_ 2526 = .ok (.ireturn, 1) := by decide +kernel
theorem dL_law__2527 : decode cL_law_ 2527 = .ok (.goto 79, 3) := by decide +kernel
theorem dL_law__2530 : decode cL_law_ 2530 = .ok (.aload_n 1, 1) := by decide +kernel
theorem dL_law__2531 : decode cL_law_ 2531 = .ok (.invokevirtual 262, 3) := by decide +kernel
theorem dL_law__2534 : decode cL_law_ 2534 = .ok (.aload_n 2, 1) := by decide +kernel
theorem dL_law__2535 : decode cL_law_ 2535 = .ok (.invokevirtual 265, 3) := by decide +kernel
theorem dL_law__2538 : decode cL_law_ 2538 = .ok (.if_icmp .eq 68, 3) := by decide +kernel
theorem dL_law__2541 : decode cL_law_ 2541 = .ok (.iconst 0, 1) := by decide +kernel
theorem dL_law__2542 : decode cL_law_ 2542 = .ok (.ireturn, 1) := by decide +kernel
theorem dL_law__2543 : decode cL_law_ 2543 = .ok (.aload_n 1, 1) := by decide +kernel
theorem dL_law__2544 : decode cL_law_ 2544 = .ok (.invokevirtual 266, 3) := by decide +kernel
theorem dL_law__2547 : decode cL_law_ 2547 = .ok (.aload_n 2, 1) := by decide +kernel
theorem dL_law__2548 : decode cL_law_ 2548 = .ok (.invokevirtual 269, 3) := by decide +kernel
theorem dL_law__2551 : decode cL_law_ 2551 = .ok (.if_icmp .eq 55, 3) := by decide +kernel
theorem dL_law__2554 : decode cL_law_ 2554 = .ok (.iconst 0, 1) := by decide +kernel
theorem dL_law__2555 : decode cL_law_ 2555 = .ok (.ireturn, 1) := by decide +kernel
theorem dL_law__2556 : decode cL_law_ 2556 = .ok (.aload_n 1, 1) := by decide +kernel
theorem dL_law__2557 : decode cL_law_ 2557 = .ok (.aload_n 0, 1) := by decide +kernel
theorem dL_law__2558 : decode cL_law_ 2558 = .ok (.iload 4, 2) := by decide +kernel
theorem dL_law__2560 : decode cL_law_ 2560 = .ok (.iconst 1, 1) := by decide +kernel
theorem dL_law__2561 : decode cL_law_ 2561 = .ok (.iadd, 1) := by decide +kernel
theorem dL_law__2562 : decode cL_law_ 2562 = .ok (.iaload, 1) := by decide +kernel
theorem dL_law__2563 : decode cL_law_ 2563 = .ok (.invokevirtual 270, 3) := by decide +kernel
theorem dL_law__2566 : decode cL_law_ 2566 = .ok (.aload_n 2, 1) := by decide +kernel
theorem dL_law__2567 : decode cL_law_ 2567 = .ok (.aload_n 0, 1) := by decide +kernel
theorem dL_law__2568 : decode cL_law_ 2568 = .ok (.iload 4, 2) := by decide +kernel
theorem dL_law__2570 : decode cL_law_ 2570 = .ok (.iconst 1, 1) := by decide +kernel
theorem dL_law__2571 : decode cL_law_ 2571 = .ok (.iadd, 1) := by decide +kernel
theorem dL_law__2572 : decode cL_law_ 2572 = .ok (.iaload, 1) := by decide +kernel
theorem dL_law__2573 : decode cL_law_ 2573 = .ok (.invokevirtual 273, 3) := by decide +kernel
theorem dL_law__2576 : decode cL_law_ 2576 = .ok (.if_icmp .eq 30, 3) := by decide +kernel
theorem dL_law__2579 : decode cL_law_ 2579 = .ok (.iconst 0, 1) := by decide +kernel
theorem dL_law__2580 : decode cL_law_ 2580 = .ok (.ireturn, 1) := by decide +kernel
theorem dL_law__2581 : decode cL_law_ 2581 = .ok (.aload_n 1, 1) := by decide +kernel
theorem dL_law__2582 : decode cL_law_ 2582 = .ok (.aload_n 0, 1) := by decide +kernel
theorem dL_law__2583 : decode cL_law_ 2583 = .ok (.iload 4, 2) := by decide +kernel
theorem dL_law__2585 : decode cL_law_ 2585 = .ok (.iconst 1, 1) := by decide +kernel
theorem dL_law__2586 : decode cL_law_ 2586 = .ok (.iadd, 1) := by decide +kernel
theorem dL_law__2587 : decode cL_law_ 2587 = .ok (.iaload, 1) := by decide +kernel
theorem dL_law__2588 : decode cL_law_ 2588 = .ok (.invokevirtual 274, 3) := by decide +kernel
theorem dL_law__2591 : decode cL_law_ 2591 = .ok (.aload_n 2, 1) := by decide +kernel
theorem dL_law__2592 : decode cL_law_ 2592 = .ok (.aload_n 0, 1) := by decide +kernel
theorem dL_law__2593 : decode cL_law_ 2593 = .ok (.iload 4, 2) := by decide +kernel
theorem dL_law__2595 : decode cL_law_ 2595 = .ok (.iconst 1, 1) := by decide +kernel
theorem dL_law__2596 : decode cL_law_ 2596 = .ok (.iadd, 1) := by decide +kernel
theorem dL_law__2597 : decode cL_law_ 2597 = .ok (.iaload, 1) := by decide +kernel
theorem dL_law__2598 : decode cL_law_ 2598 = .ok (.invokevirtual 277, 3) := by decide +kernel
theorem dL_law__2601 : decode cL_law_ 2601 = .ok (.if_icmp .eq 5, 3) := by decide +kernel
theorem dL_law__2604 : decode cL_law_ 2604 = .ok (.iconst 0, 1) := by decide +kernel
theorem dL_law__2605 : decode cL_law_ 2605 = .ok (.ireturn, 1) := by decide +kernel
theorem dL_law__2606 : decode cL_law_ 2606 = .ok (.iinc 4 9, 3) := by decide +kernel
theorem dL_law__2609 : decode cL_law_ 2609 = .ok (.goto (-2586), 3) := by decide +kernel
theorem dL_law__2612 : decode cL_law_ 2612 = .ok (.iconst 1, 1) := by decide +kernel
theorem dL_law__2613 : decode cL_law_ 2613 = .ok (.ireturn, 1) := by decide +kernel
