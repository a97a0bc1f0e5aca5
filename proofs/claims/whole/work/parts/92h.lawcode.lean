/-! Part 92h: the law's instructions -/
theorem dL_law_1557 : decode code 1557 = .ok (.ifCond .eq 11, 3) := by decide +kernel
theorem dL_law_1560 : decode code 1560 = .ok (.fload 7, 2) := by decide +kernel
theorem dL_law_1562 : decode code 1562 = .ok (.fload 7, 2) := by decide +kernel
theorem dL_law_1564 : decode code 1564 = .ok (.fcmp .l, 1) := by decide +kernel
theorem dL_law_1565 : decode code 1565 = .ok (.ifCond .ne 5, 3) := by decide +kernel
theorem dL_law_1568 : decode code 1568 = .ok (.iconst 0, 1) := by decide +kernel
theorem dL_law_1569 : decode code 1569 = .ok (.ireturn, 1) := by decide +kernel
theorem dL_law_1570 : decode code 1570 = .ok (.goto 1343, 3) := by decide +kernel
theorem dL_law_1573 : decode code 1573 = .ok (.aload_n 1, 1) := by decide +kernel
theorem dL_law_1574 : decode code 1574 = .ok (.aload_n 0, 1) := by decide +kernel
theorem dL_law_1575 : decode code 1575 = .ok (.iload 5, 2) := by decide +kernel
theorem dL_law_1577 : decode code 1577 = .ok (.iconst 1, 1) := by decide +kernel
theorem dL_law_1578 : decode code 1578 = .ok (.iadd, 1) := by decide +kernel
theorem dL_law_1579 : decode code 1579 = .ok (.iaload, 1) := by decide +kernel
theorem dL_law_1580 : decode code 1580 = .ok (.aload_n 0, 1) := by decide +kernel
theorem dL_law_1581 : decode code 1581 = .ok (.iload 5, 2) := by decide +kernel
theorem dL_law_1583 : decode code 1583 = .ok (.iconst 2, 1) := by decide +kernel
theorem dL_law_1584 : decode code 1584 = .ok (.iadd, 1) := by decide +kernel
theorem dL_law_1585 : decode code 1585 = .ok (.iaload, 1) := by decide +kernel
theorem dL_law_1586 : decode code 1586 = .ok (.aload_n 3, 1) := by decide +kernel
theorem dL_law_1587 : decode code 1587 = .ok (.invokestatic 230, 3) := by decide +kernel
theorem dL_law_1590 : decode code 1590 = .ok (.istore 6, 2) := by decide +kernel
theorem dL_law_1592 : decode code 1592 = .ok (.aload_n 2, 1) := by decide +kernel
theorem dL_law_1593 : decode code 1593 = .ok (.aload_n 0, 1) := by decide +kernel
theorem dL_law_1594 : decode code 1594 = .ok (.iload 5, 2) := by decide +kernel
theorem dL_law_1596 : decode code 1596 = .ok (.iconst 1, 1) := by decide +kernel
theorem dL_law_1597 : decode code 1597 = .ok (.iadd, 1) := by decide +kernel
theorem dL_law_1598 : decode code 1598 = .ok (.iaload, 1) := by decide +kernel
theorem dL_law_1599 : decode code 1599 = .ok (.aload_n 0, 1) := by decide +kernel
theorem dL_law_1600 : decode code 1600 = .ok (.iload 5, 2) := by decide +kernel
theorem dL_law_1602 : decode code 1602 = .ok (.iconst 2, 1) := by decide +kernel
theorem dL_law_1603 : decode code 1603 = .ok (.iadd, 1) := by decide +kernel
theorem dL_law_1604 : decode code 1604 = .ok (.iaload, 1) := by decide +kernel
theorem dL_law_1605 : decode code 1605 = .ok (.invokevirtual 232, 3) := by decide +kernel
theorem dL_law_1608 : decode code 1608 = .ok (.istore 7, 2) := by decide +kernel
theorem dL_law_1610 : decode code 1610 = .ok (.aload_n 2, 1) := by decide +kernel
theorem dL_law_1611 : decode code 1611 = .ok (.invokevirtual 169, 3) := by decide +kernel
theorem dL_law_1614 : decode code 1614 = .ok (.iload 6, 2) := by decide +kernel
theorem dL_law_1616 : decode code 1616 = .ok (.if_icmp .eq 5, 3) := by decide +kernel
theorem dL_law_1619 : decode code 1619 = .ok (.iconst 0, 1) := by decide +kernel
theorem dL_law_1620 : decode code 1620 = .ok (.ireturn, 1) := by decide +kernel
theorem dL_law_1621 : decode code 1621 = .ok (.iload 6, 2) := by decide +kernel
theorem dL_law_1623 : decode code 1623 = .ok (.ifCond .ne 15, 3) := by decide +kernel
theorem dL_law_1626 : decode code 1626 = .ok (.aload_n 3, 1) := by decide +kernel
theorem dL_law_1627 : decode code 1627 = .ok (.iconst 0, 1) := by decide +kernel
theorem dL_law_1628 : decode code 1628 = .ok (.laload, 1) := by decide +kernel
theorem dL_law_1629 : decode code 1629 = .ok (.iload 7, 2) := by decide +kernel
theorem dL_law_1631 : decode code 1631 = .ok (.i2l, 1) := by decide +kernel
theorem dL_law_1632 : decode code 1632 = .ok (.lcmp, 1) := by decide +kernel
theorem dL_law_1633 : decode code 1633 = .ok (.ifCond .eq 5, 3) := by decide +kernel
theorem dL_law_1636 : decode code 1636 = .ok (.iconst 0, 1) := by decide +kernel
theorem dL_law_1637 : decode code 1637 = .ok (.ireturn, 1) := by decide +kernel
theorem dL_law_1638 : decode code 1638 = .ok (.goto 1275, 3) := by decide +kernel
theorem dL_law_1641 : decode code 1641 = .ok (.aload_n 1, 1) := by decide +kernel
theorem dL_law_1642 : decode code 1642 = .ok (.aload_n 0, 1) := by decide +kernel
theorem dL_law_1643 : decode code 1643 = .ok (.iload 5, 2) := by decide +kernel
theorem dL_law_1645 : decode code 1645 = .ok (.iconst 1, 1) := by decide +kernel
theorem dL_law_1646 : decode code 1646 = .ok (.iadd, 1) := by decide +kernel
theorem dL_law_1647 : decode code 1647 = .ok (.iaload, 1) := by decide +kernel
theorem dL_law_1648 : decode code 1648 = .ok (.aload_n 0, 1) := by decide +kernel
theorem dL_law_1649 : decode code 1649 = .ok (.iload 5, 2) := by decide +kernel
theorem dL_law_1651 : decode code 1651 = .ok (.iconst 2, 1) := by decide +kernel
theorem dL_law_1652 : decode code 1652 = .ok (.iadd, 1) := by decide +kernel
theorem dL_law_1653 : decode code 1653 = .ok (.iaload, 1) := by decide +kernel
theorem dL_law_1654 : decode code 1654 = .ok (.aload_n 3, 1) := by decide +kernel
theorem dL_law_1655 : decode code 1655 = .ok (.invokestatic 233, 3) := by decide +kernel
theorem dL_law_1658 : decode code 1658 = .ok (.istore 6, 2) := by decide +kernel
theorem dL_law_1660 : decode code 1660 = .ok (.aload_n 2, 1) := by decide +kernel
theorem dL_law_1661 : decode code 1661 = .ok (.aload_n 0, 1) := by decide +kernel
theorem dL_law_1662 : decode code 1662 = .ok (.iload 5, 2) := by decide +kernel
theorem dL_law_1664 : decode code 1664 = .ok (.iconst 1, 1) := by decide +kernel
theorem dL_law_1665 : decode code 1665 = .ok (.iadd, 1) := by decide +kernel
theorem dL_law_1666 : decode code 1666 = .ok (.iaload, 1) := by decide +kernel
theorem dL_law_1667 : decode code 1667 = .ok (.aload_n 0, 1) := by decide +kernel
theorem dL_law_1668 : decode code 1668 = .ok (.iload 5, 2) := by decide +kernel
theorem dL_law_1670 : decode code 1670 = .ok (.iconst 2, 1) := by decide +kernel
theorem dL_law_1671 : decode code 1671 = .ok (.iadd, 1) := by decide +kernel
theorem dL_law_1672 : decode code 1672 = .ok (.iaload, 1) := by decide +kernel
theorem dL_law_1673 : decode code 1673 = .ok (.invokevirtual 235, 3) := by decide +kernel
theorem dL_law_1676 : decode code 1676 = .ok (.istore 7, 2) := by decide +kernel
theorem dL_law_1678 : decode code 1678 = .ok (.aload_n 2, 1) := by decide +kernel
theorem dL_law_1679 : decode code 1679 = .ok (.invokevirtual 169, 3) := by decide +kernel
theorem dL_law_1682 : decode code 1682 = .ok (.iload 6, 2) := by decide +kernel
theorem dL_law_1684 : decode code 1684 = .ok (.if_icmp .eq 5, 3) := by decide +kernel
theorem dL_law_1687 : decode code 1687 = .ok (.iconst 0, 1) := by decide +kernel
theorem dL_law_1688 : decode code 1688 = .ok (.ireturn, 1) := by decide +kernel
theorem dL_law_1689 : decode code 1689 = .ok (.iload 6, 2) := by decide +kernel
theorem dL_law_1691 : decode code 1691 = .ok (.ifCond .ne 15, 3) := by decide +kernel
theorem dL_law_1694 : decode code 1694 = .ok (.aload_n 3, 1) := by decide +kernel
theorem dL_law_1695 : decode code 1695 = .ok (.iconst 0, 1) := by decide +kernel
theorem dL_law_1696 : decode code 1696 = .ok (.laload, 1) := by decide +kernel
theorem dL_law_1697 : decode code 1697 = .ok (.iload 7, 2) := by decide +kernel
theorem dL_law_1699 : decode code 1699 = .ok (.i2l, 1) := by decide +kernel
theorem dL_law_1700 : decode code 1700 = .ok (.lcmp, 1) := by decide +kernel
theorem dL_law_1701 : decode code 1701 = .ok (.ifCond .eq 5, 3) := by decide +kernel
theorem dL_law_1704 : decode code 1704 = .ok (.iconst 0, 1) := by decide +kernel
theorem dL_law_1705 : decode code 1705 = .ok (.ireturn, 1) := by decide +kernel
theorem dL_law_1706 : decode code 1706 = .ok (.goto 1207, 3) := by decide +kernel
theorem dL_law_1709 : decode code 1709 = .ok (.aload_n 1, 1) := by decide +kernel
theorem dL_law_1710 : decode code 1710 = .ok (.aload_n 0, 1) := by decide +kernel
theorem dL_law_1711 : decode code 1711 = .ok (.iload 5, 2) := by decide +kernel
theorem dL_law_1713 : decode code 1713 = .ok (.iconst 1, 1) := by decide +kernel
theorem dL_law_1714 : decode code 1714 = .ok (.iadd, 1) := by decide +kernel
theorem dL_law_1715 : decode code 1715 = .ok (.iaload, 1) := by decide +kernel
theorem dL_law_1716 : decode code 1716 = .ok (.aload_n 3, 1) := by decide +kernel
theorem dL_law_1717 : decode code 1717 = .ok (.invokestatic 236, 3) := by decide +kernel
theorem dL_law_1720 : decode code 1720 = .ok (.istore 6, 2) := by decide +kernel
theorem dL_law_1722 : decode code 1722 = .ok (.aload_n 2, 1) := by decide +kernel
theorem dL_law_1723 : decode code 1723 = .ok (.aload_n 0, 1) := by decide +kernel
theorem dL_law_1724 : decode code 1724 = .ok (.iload 5, 2) := by decide +kernel
theorem dL_law_1726 : decode code 1726 = .ok (.iconst 1, 1) := by decide +kernel
theorem dL_law_1727 : decode code 1727 = .ok (.iadd, 1) := by decide +kernel
theorem dL_law_1728 : decode code 1728 = .ok (.iaload, 1) := by decide +kernel
theorem dL_law_1729 : decode code 1729 = .ok (.invokevirtual 238, 3) := by decide +kernel
theorem dL_law_1732 : decode code 1732 = .ok (.istore 7, 2) := by decide +kernel
theorem dL_law_1734 : decode code 1734 = .ok (.aload_n 2, 1) := by decide +kernel
theorem dL_law_1735 : decode code 1735 = .ok (.invokevirtual 169, 3) := by decide +kernel
theorem dL_law_1738 : decode code 1738 = .ok (.iload 6, 2) := by decide +kernel
theorem dL_law_1740 : decode code 1740 = .ok (.if_icmp .eq 5, 3) := by decide +kernel
theorem dL_law_1743 : decode code 1743 = .ok (.iconst 0, 1) := by decide +kernel
theorem dL_law_1744 : decode code 1744 = .ok (.ireturn, 1) := by decide +kernel
theorem dL_law_1745 : decode code 1745 = .ok (.iload 6, 2) := by decide +kernel
theorem dL_law_1747 : decode code 1747 = .ok (.ifCond .ne 15, 3) := by decide +kernel
theorem dL_law_1750 : decode code 1750 = .ok (.aload_n 3, 1) := by decide +kernel
theorem dL_law_1751 : decode code 1751 = .ok (.iconst 0, 1) := by decide +kernel
