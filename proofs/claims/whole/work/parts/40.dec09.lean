theorem dL_law_1582 : decode code 1582 = .ok (.iadd, 1) := by decide +kernel
theorem dL_law_1583 : decode code 1583 = .ok (.iaload, 1) := by decide +kernel
theorem dL_law_1584 : decode code 1584 = .ok (.aload_n 0, 1) := by decide +kernel
theorem dL_law_1585 : decode code 1585 = .ok (.iload 4, 2) := by decide +kernel
theorem dL_law_1587 : decode code 1587 = .ok (.iconst 3, 1) := by decide +kernel
theorem dL_law_1588 : decode code 1588 = .ok (.iadd, 1) := by decide +kernel
theorem dL_law_1589 : decode code 1589 = .ok (.iaload, 1) := by decide +kernel
theorem dL_law_1590 : decode code 1590 = .ok (.invokevirtual 175, 3) := by decide +kernel
theorem dL_law_1593 : decode code 1593 = .ok (.if_icmp .eq 399, 3) := by decide +kernel
theorem dL_law_1596 : decode code 1596 = .ok (.iconst 0, 1) := by decide +kernel
theorem dL_law_1597 : decode code 1597 = .ok (.ireturn, 1) := by decide +kernel
theorem dL_law_1598 : decode code 1598 = .ok (.aload_n 1, 1) := by decide +kernel
theorem dL_law_1599 : decode code 1599 = .ok (.aload_n 0, 1) := by decide +kernel
theorem dL_law_1600 : decode code 1600 = .ok (.iload 4, 2) := by decide +kernel
theorem dL_law_1602 : decode code 1602 = .ok (.iconst 1, 1) := by decide +kernel
theorem dL_law_1603 : decode code 1603 = .ok (.iadd, 1) := by decide +kernel
theorem dL_law_1604 : decode code 1604 = .ok (.iaload, 1) := by decide +kernel
theorem dL_law_1605 : decode code 1605 = .ok (.aload_n 0, 1) := by decide +kernel
theorem dL_law_1606 : decode code 1606 = .ok (.iload 4, 2) := by decide +kernel
theorem dL_law_1608 : decode code 1608 = .ok (.iconst 2, 1) := by decide +kernel
theorem dL_law_1609 : decode code 1609 = .ok (.iadd, 1) := by decide +kernel
theorem dL_law_1610 : decode code 1610 = .ok (.iaload, 1) := by decide +kernel
theorem dL_law_1611 : decode code 1611 = .ok (.invokevirtual 176, 3) := by decide +kernel
theorem dL_law_1614 : decode code 1614 = .ok (.aload_n 2, 1) := by decide +kernel
theorem dL_law_1615 : decode code 1615 = .ok (.aload_n 0, 1) := by decide +kernel
theorem dL_law_1616 : decode code 1616 = .ok (.iload 4, 2) := by decide +kernel
theorem dL_law_1618 : decode code 1618 = .ok (.iconst 1, 1) := by decide +kernel
theorem dL_law_1619 : decode code 1619 = .ok (.iadd, 1) := by decide +kernel
theorem dL_law_1620 : decode code 1620 = .ok (.iaload, 1) := by decide +kernel
theorem dL_law_1621 : decode code 1621 = .ok (.aload_n 0, 1) := by decide +kernel
theorem dL_law_1622 : decode code 1622 = .ok (.iload 4, 2) := by decide +kernel
theorem dL_law_1624 : decode code 1624 = .ok (.iconst 2, 1) := by decide +kernel
theorem dL_law_1625 : decode code 1625 = .ok (.iadd, 1) := by decide +kernel
theorem dL_law_1626 : decode code 1626 = .ok (.iaload, 1) := by decide +kernel
theorem dL_law_1627 : decode code 1627 = .ok (.invokevirtual 179, 3) := by decide +kernel
theorem dL_law_1630 : decode code 1630 = .ok (.if_icmp .eq 362, 3) := by decide +kernel
theorem dL_law_1633 : decode code 1633 = .ok (.iconst 0, 1) := by decide +kernel
theorem dL_law_1634 : decode code 1634 = .ok (.ireturn, 1) := by decide +kernel
theorem dL_law_1635 : decode code 1635 = .ok (.aload_n 1, 1) := by decide +kernel
theorem dL_law_1636 : decode code 1636 = .ok (.aload_n 0, 1) := by decide +kernel
theorem dL_law_1637 : decode code 1637 = .ok (.iload 4, 2) := by decide +kernel
theorem dL_law_1639 : decode code 1639 = .ok (.iconst 1, 1) := by decide +kernel
theorem dL_law_1640 : decode code 1640 = .ok (.iadd, 1) := by decide +kernel
theorem dL_law_1641 : decode code 1641 = .ok (.iaload, 1) := by decide +kernel
theorem dL_law_1642 : decode code 1642 = .ok (.aload_n 0, 1) := by decide +kernel
theorem dL_law_1643 : decode code 1643 = .ok (.iload 4, 2) := by decide +kernel
theorem dL_law_1645 : decode code 1645 = .ok (.iconst 2, 1) := by decide +kernel
theorem dL_law_1646 : decode code 1646 = .ok (.iadd, 1) := by decide +kernel
theorem dL_law_1647 : decode code 1647 = .ok (.iaload, 1) := by decide +kernel
theorem dL_law_1648 : decode code 1648 = .ok (.invokevirtual 180, 3) := by decide +kernel
theorem dL_law_1651 : decode code 1651 = .ok (.aload_n 2, 1) := by decide +kernel
theorem dL_law_1652 : decode code 1652 = .ok (.aload_n 0, 1) := by decide +kernel
theorem dL_law_1653 : decode code 1653 = .ok (.iload 4, 2) := by decide +kernel
theorem dL_law_1655 : decode code 1655 = .ok (.iconst 1, 1) := by decide +kernel
theorem dL_law_1656 : decode code 1656 = .ok (.iadd, 1) := by decide +kernel
theorem dL_law_1657 : decode code 1657 = .ok (.iaload, 1) := by decide +kernel
theorem dL_law_1658 : decode code 1658 = .ok (.aload_n 0, 1) := by decide +kernel
theorem dL_law_1659 : decode code 1659 = .ok (.iload 4, 2) := by decide +kernel
theorem dL_law_1661 : decode code 1661 = .ok (.iconst 2, 1) := by decide +kernel
theorem dL_law_1662 : decode code 1662 = .ok (.iadd, 1) := by decide +kernel
theorem dL_law_1663 : decode code 1663 = .ok (.iaload, 1) := by decide +kernel
theorem dL_law_1664 : decode code 1664 = .ok (.invokevirtual 183, 3) := by decide +kernel
theorem dL_law_1667 : decode code 1667 = .ok (.if_icmp .eq 325, 3) := by decide +kernel
theorem dL_law_1670 : decode code 1670 = .ok (.iconst 0, 1) := by decide +kernel
theorem dL_law_1671 : decode code 1671 = .ok (.ireturn, 1) := by decide +kernel
theorem dL_law_1672 : decode code 1672 = .ok (.aload_n 1, 1) := by decide +kernel
theorem dL_law_1673 : decode code 1673 = .ok (.aload_n 0, 1) := by decide +kernel
theorem dL_law_1674 : decode code 1674 = .ok (.iload 4, 2) := by decide +kernel
theorem dL_law_1676 : decode code 1676 = .ok (.iconst 1, 1) := by decide +kernel
theorem dL_law_1677 : decode code 1677 = .ok (.iadd, 1) := by decide +kernel
theorem dL_law_1678 : decode code 1678 = .ok (.iaload, 1) := by decide +kernel
theorem dL_law_1679 : decode code 1679 = .ok (.aload_n 0, 1) := by decide +kernel
theorem dL_law_1680 : decode code 1680 = .ok (.iload 4, 2) := by decide +kernel
theorem dL_law_1682 : decode code 1682 = .ok (.iconst 2, 1) := by decide +kernel
theorem dL_law_1683 : decode code 1683 = .ok (.iadd, 1) := by decide +kernel
theorem dL_law_1684 : decode code 1684 = .ok (.iaload, 1) := by decide +kernel
theorem dL_law_1685 : decode code 1685 = .ok (.invokevirtual 184, 3) := by decide +kernel
theorem dL_law_1688 : decode code 1688 = .ok (.aload_n 2, 1) := by decide +kernel
theorem dL_law_1689 : decode code 1689 = .ok (.aload_n 0, 1) := by decide +kernel
theorem dL_law_1690 : decode code 1690 = .ok (.iload 4, 2) := by decide +kernel
theorem dL_law_1692 : decode code 1692 = .ok (.iconst 1, 1) := by decide +kernel
theorem dL_law_1693 : decode code 1693 = .ok (.iadd, 1) := by decide +kernel
theorem dL_law_1694 : decode code 1694 = .ok (.iaload, 1) := by decide +kernel
theorem dL_law_1695 : decode code 1695 = .ok (.aload_n 0, 1) := by decide +kernel
theorem dL_law_1696 : decode code 1696 = .ok (.iload 4, 2) := by decide +kernel
theorem dL_law_1698 : decode code 1698 = .ok (.iconst 2, 1) := by decide +kernel
theorem dL_law_1699 : decode code 1699 = .ok (.iadd, 1) := by decide +kernel
theorem dL_law_1700 : decode code 1700 = .ok (.iaload, 1) := by decide +kernel
theorem dL_law_1701 : decode code 1701 = .ok (.invokevirtual 187, 3) := by decide +kernel
theorem dL_law_1704 : decode code 1704 = .ok (.if_icmp .eq 288, 3) := by decide +kernel
theorem dL_law_1707 : decode code 1707 = .ok (.iconst 0, 1) := by decide +kernel
theorem dL_law_1708 : decode code 1708 = .ok (.ireturn, 1) := by decide +kernel
theorem dL_law_1709 : decode code 1709 = .ok (.aload_n 1, 1) := by decide +kernel
theorem dL_law_1710 : decode code 1710 = .ok (.aload_n 0, 1) := by decide +kernel
theorem dL_law_1711 : decode code 1711 = .ok (.iload 4, 2) := by decide +kernel
theorem dL_law_1713 : decode code 1713 = .ok (.iconst 1, 1) := by decide +kernel
theorem dL_law_1714 : decode code 1714 = .ok (.iadd, 1) := by decide +kernel
theorem dL_law_1715 : decode code 1715 = .ok (.iaload, 1) := by decide +kernel
theorem dL_law_1716 : decode code 1716 = .ok (.aload_n 0, 1) := by decide +kernel
theorem dL_law_1717 : decode code 1717 = .ok (.iload 4, 2) := by decide +kernel
theorem dL_law_1719 : decode code 1719 = .ok (.iconst 2, 1) := by decide +kernel
theorem dL_law_1720 : decode code 1720 = .ok (.iadd, 1) := by decide +kernel
theorem dL_law_1721 : decode code 1721 = .ok (.iaload, 1) := by decide +kernel
theorem dL_law_1722 : decode code 1722 = .ok (.invokevirtual 188, 3) := by decide +kernel
theorem dL_law_1725 : decode code 1725 = .ok (.aload_n 2, 1) := by decide +kernel
theorem dL_law_1726 : decode code 1726 = .ok (.aload_n 0, 1) := by decide +kernel
theorem dL_law_1727 : decode code 1727 = .ok (.iload 4, 2) := by decide +kernel
theorem dL_law_1729 : decode code 1729 = .ok (.iconst 1, 1) := by decide +kernel
theorem dL_law_1730 : decode code 1730 = .ok (.iadd, 1) := by decide +kernel
theorem dL_law_1731 : decode code 1731 = .ok (.iaload, 1) := by decide +kernel
