theorem dL_law_1732 : decode code 1732 = .ok (.aload_n 0, 1) := by decide +kernel
theorem dL_law_1733 : decode code 1733 = .ok (.iload 4, 2) := by decide +kernel
theorem dL_law_1735 : decode code 1735 = .ok (.iconst 2, 1) := by decide +kernel
theorem dL_law_1736 : decode code 1736 = .ok (.iadd, 1) := by decide +kernel
theorem dL_law_1737 : decode code 1737 = .ok (.iaload, 1) := by decide +kernel
theorem dL_law_1738 : decode code 1738 = .ok (.invokevirtual 191, 3) := by decide +kernel
theorem dL_law_1741 : decode code 1741 = .ok (.if_icmp .eq 251, 3) := by decide +kernel
theorem dL_law_1744 : decode code 1744 = .ok (.iconst 0, 1) := by decide +kernel
theorem dL_law_1745 : decode code 1745 = .ok (.ireturn, 1) := by decide +kernel
theorem dL_law_1746 : decode code 1746 = .ok (.aload_n 1, 1) := by decide +kernel
theorem dL_law_1747 : decode code 1747 = .ok (.aload_n 0, 1) := by decide +kernel
theorem dL_law_1748 : decode code 1748 = .ok (.iload 4, 2) := by decide +kernel
theorem dL_law_1750 : decode code 1750 = .ok (.iconst 1, 1) := by decide +kernel
theorem dL_law_1751 : decode code 1751 = .ok (.iadd, 1) := by decide +kernel
theorem dL_law_1752 : decode code 1752 = .ok (.iaload, 1) := by decide +kernel
theorem dL_law_1753 : decode code 1753 = .ok (.aload_n 0, 1) := by decide +kernel
theorem dL_law_1754 : decode code 1754 = .ok (.iload 4, 2) := by decide +kernel
theorem dL_law_1756 : decode code 1756 = .ok (.iconst 2, 1) := by decide +kernel
theorem dL_law_1757 : decode code 1757 = .ok (.iadd, 1) := by decide +kernel
theorem dL_law_1758 : decode code 1758 = .ok (.iaload, 1) := by decide +kernel
theorem dL_law_1759 : decode code 1759 = .ok (.invokevirtual 192, 3) := by decide +kernel
theorem dL_law_1762 : decode code 1762 = .ok (.aload_n 2, 1) := by decide +kernel
theorem dL_law_1763 : decode code 1763 = .ok (.aload_n 0, 1) := by decide +kernel
theorem dL_law_1764 : decode code 1764 = .ok (.iload 4, 2) := by decide +kernel
theorem dL_law_1766 : decode code 1766 = .ok (.iconst 1, 1) := by decide +kernel
theorem dL_law_1767 : decode code 1767 = .ok (.iadd, 1) := by decide +kernel
theorem dL_law_1768 : decode code 1768 = .ok (.iaload, 1) := by decide +kernel
theorem dL_law_1769 : decode code 1769 = .ok (.aload_n 0, 1) := by decide +kernel
theorem dL_law_1770 : decode code 1770 = .ok (.iload 4, 2) := by decide +kernel
theorem dL_law_1772 : decode code 1772 = .ok (.iconst 2, 1) := by decide +kernel
theorem dL_law_1773 : decode code 1773 = .ok (.iadd, 1) := by decide +kernel
theorem dL_law_1774 : decode code 1774 = .ok (.iaload, 1) := by decide +kernel
theorem dL_law_1775 : decode code 1775 = .ok (.invokevirtual 195, 3) := by decide +kernel
theorem dL_law_1778 : decode code 1778 = .ok (.if_icmp .eq 214, 3) := by decide +kernel
theorem dL_law_1781 : decode code 1781 = .ok (.iconst 0, 1) := by decide +kernel
theorem dL_law_1782 : decode code 1782 = .ok (.ireturn, 1) := by decide +kernel
theorem dL_law_1783 : decode code 1783 = .ok (.aload_n 1, 1) := by decide +kernel
theorem dL_law_1784 : decode code 1784 = .ok (.aload_n 0, 1) := by decide +kernel
theorem dL_law_1785 : decode code 1785 = .ok (.iload 4, 2) := by decide +kernel
theorem dL_law_1787 : decode code 1787 = .ok (.iconst 1, 1) := by decide +kernel
theorem dL_law_1788 : decode code 1788 = .ok (.iadd, 1) := by decide +kernel
theorem dL_law_1789 : decode code 1789 = .ok (.iaload, 1) := by decide +kernel
theorem dL_law_1790 : decode code 1790 = .ok (.aload_n 0, 1) := by decide +kernel
theorem dL_law_1791 : decode code 1791 = .ok (.iload 4, 2) := by decide +kernel
theorem dL_law_1793 : decode code 1793 = .ok (.iconst 2, 1) := by decide +kernel
theorem dL_law_1794 : decode code 1794 = .ok (.iadd, 1) := by decide +kernel
theorem dL_law_1795 : decode code 1795 = .ok (.iaload, 1) := by decide +kernel
theorem dL_law_1796 : decode code 1796 = .ok (.aload_n 0, 1) := by decide +kernel
theorem dL_law_1797 : decode code 1797 = .ok (.iload 4, 2) := by decide +kernel
theorem dL_law_1799 : decode code 1799 = .ok (.iconst 3, 1) := by decide +kernel
theorem dL_law_1800 : decode code 1800 = .ok (.iadd, 1) := by decide +kernel
theorem dL_law_1801 : decode code 1801 = .ok (.iaload, 1) := by decide +kernel
theorem dL_law_1802 : decode code 1802 = .ok (.invokevirtual 196, 3) := by decide +kernel
theorem dL_law_1805 : decode code 1805 = .ok (.aload_n 2, 1) := by decide +kernel
theorem dL_law_1806 : decode code 1806 = .ok (.aload_n 0, 1) := by decide +kernel
theorem dL_law_1807 : decode code 1807 = .ok (.iload 4, 2) := by decide +kernel
theorem dL_law_1809 : decode code 1809 = .ok (.iconst 1, 1) := by decide +kernel
theorem dL_law_1810 : decode code 1810 = .ok (.iadd, 1) := by decide +kernel
theorem dL_law_1811 : decode code 1811 = .ok (.iaload, 1) := by decide +kernel
theorem dL_law_1812 : decode code 1812 = .ok (.aload_n 0, 1) := by decide +kernel
theorem dL_law_1813 : decode code 1813 = .ok (.iload 4, 2) := by decide +kernel
theorem dL_law_1815 : decode code 1815 = .ok (.iconst 2, 1) := by decide +kernel
theorem dL_law_1816 : decode code 1816 = .ok (.iadd, 1) := by decide +kernel
theorem dL_law_1817 : decode code 1817 = .ok (.iaload, 1) := by decide +kernel
theorem dL_law_1818 : decode code 1818 = .ok (.aload_n 0, 1) := by decide +kernel
theorem dL_law_1819 : decode code 1819 = .ok (.iload 4, 2) := by decide +kernel
theorem dL_law_1821 : decode code 1821 = .ok (.iconst 3, 1) := by decide +kernel
theorem dL_law_1822 : decode code 1822 = .ok (.iadd, 1) := by decide +kernel
theorem dL_law_1823 : decode code 1823 = .ok (.iaload, 1) := by decide +kernel
theorem dL_law_1824 : decode code 1824 = .ok (.invokevirtual 199, 3) := by decide +kernel
theorem dL_law_1827 : decode code 1827 = .ok (.if_icmp .eq 165, 3) := by decide +kernel
theorem dL_law_1830 : decode code 1830 = .ok (.iconst 0, 1) := by decide +kernel
theorem dL_law_1831 : decode code 1831 = .ok (.ireturn, 1) := by decide +kernel
theorem dL_law_1832 : decode code 1832 = .ok (.aload_n 1, 1) := by decide +kernel
theorem dL_law_1833 : decode code 1833 = .ok (.aload_n 0, 1) := by decide +kernel
theorem dL_law_1834 : decode code 1834 = .ok (.iload 4, 2) := by decide +kernel
theorem dL_law_1836 : decode code 1836 = .ok (.iconst 1, 1) := by decide +kernel
theorem dL_law_1837 : decode code 1837 = .ok (.iadd, 1) := by decide +kernel
theorem dL_law_1838 : decode code 1838 = .ok (.iaload, 1) := by decide +kernel
theorem dL_law_1839 : decode code 1839 = .ok (.aload_n 0, 1) := by decide +kernel
theorem dL_law_1840 : decode code 1840 = .ok (.iload 4, 2) := by decide +kernel
theorem dL_law_1842 : decode code 1842 = .ok (.iconst 2, 1) := by decide +kernel
theorem dL_law_1843 : decode code 1843 = .ok (.iadd, 1) := by decide +kernel
theorem dL_law_1844 : decode code 1844 = .ok (.iaload, 1) := by decide +kernel
theorem dL_law_1845 : decode code 1845 = .ok (.invokevirtual 200, 3) := by decide +kernel
theorem dL_law_1848 : decode code 1848 = .ok (.aload_n 2, 1) := by decide +kernel
theorem dL_law_1849 : decode code 1849 = .ok (.aload_n 0, 1) := by decide +kernel
theorem dL_law_1850 : decode code 1850 = .ok (.iload 4, 2) := by decide +kernel
theorem dL_law_1852 : decode code 1852 = .ok (.iconst 1, 1) := by decide +kernel
theorem dL_law_1853 : decode code 1853 = .ok (.iadd, 1) := by decide +kernel
theorem dL_law_1854 : decode code 1854 = .ok (.iaload, 1) := by decide +kernel
theorem dL_law_1855 : decode code 1855 = .ok (.aload_n 0, 1) := by decide +kernel
theorem dL_law_1856 : decode code 1856 = .ok (.iload 4, 2) := by decide +kernel
theorem dL_law_1858 : decode code 1858 = .ok (.iconst 2, 1) := by decide +kernel
theorem dL_law_1859 : decode code 1859 = .ok (.iadd, 1) := by decide +kernel
theorem dL_law_1860 : decode code 1860 = .ok (.iaload, 1) := by decide +kernel
theorem dL_law_1861 : decode code 1861 = .ok (.invokevirtual 203, 3) := by decide +kernel
theorem dL_law_1864 : decode code 1864 = .ok (.if_icmp .eq 128, 3) := by decide +kernel
theorem dL_law_1867 : decode code 1867 = .ok (.iconst 0, 1) := by decide +kernel
theorem dL_law_1868 : decode code 1868 = .ok (.ireturn, 1) := by decide +kernel
theorem dL_law_1869 : decode code 1869 = .ok (.aload_n 1, 1) := by decide +kernel
theorem dL_law_1870 : decode code 1870 = .ok (.invokevirtual 204, 3) := by decide +kernel
theorem dL_law_1873 : decode code 1873 = .ok (.aload_n 2, 1) := by decide +kernel
theorem dL_law_1874 : decode code 1874 = .ok (.invokevirtual 207, 3) := by decide +kernel
theorem dL_law_1877 : decode code 1877 = .ok (.if_icmp .eq 115, 3) := by decide +kernel
theorem dL_law_1880 : decode code 1880 = .ok (.iconst 0, 1) := by decide +kernel
theorem dL_law_1881 : decode code 1881 = .ok (.ireturn, 1) := by decide +kernel
theorem dL_law_1882 : decode code 1882 = .ok (.aload_n 1, 1) := by decide +kernel
theorem dL_law_1883 : decode code 1883 = .ok (.aload_n 0, 1) := by decide +kernel
theorem dL_law_1884 : decode code 1884 = .ok (.iload 4, 2) := by decide +kernel
