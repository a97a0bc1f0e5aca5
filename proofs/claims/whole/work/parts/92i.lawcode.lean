/-! Part 92i: the law's instructions -/
theorem dL_law_1752 : decode code 1752 = .ok (.laload, 1) := by decide +kernel
theorem dL_law_1753 : decode code 1753 = .ok (.iload 7, 2) := by decide +kernel
theorem dL_law_1755 : decode code 1755 = .ok (.i2l, 1) := by decide +kernel
theorem dL_law_1756 : decode code 1756 = .ok (.lcmp, 1) := by decide +kernel
theorem dL_law_1757 : decode code 1757 = .ok (.ifCond .eq 5, 3) := by decide +kernel
theorem dL_law_1760 : decode code 1760 = .ok (.iconst 0, 1) := by decide +kernel
theorem dL_law_1761 : decode code 1761 = .ok (.ireturn, 1) := by decide +kernel
theorem dL_law_1762 : decode code 1762 = .ok (.goto 1151, 3) := by decide +kernel
theorem dL_law_1765 : decode code 1765 = .ok (.aload_n 1, 1) := by decide +kernel
theorem dL_law_1766 : decode code 1766 = .ok (.aload_n 0, 1) := by decide +kernel
theorem dL_law_1767 : decode code 1767 = .ok (.iload 5, 2) := by decide +kernel
theorem dL_law_1769 : decode code 1769 = .ok (.iconst 1, 1) := by decide +kernel
theorem dL_law_1770 : decode code 1770 = .ok (.iadd, 1) := by decide +kernel
theorem dL_law_1771 : decode code 1771 = .ok (.iaload, 1) := by decide +kernel
theorem dL_law_1772 : decode code 1772 = .ok (.aload_n 0, 1) := by decide +kernel
theorem dL_law_1773 : decode code 1773 = .ok (.iload 5, 2) := by decide +kernel
theorem dL_law_1775 : decode code 1775 = .ok (.iconst 2, 1) := by decide +kernel
theorem dL_law_1776 : decode code 1776 = .ok (.iadd, 1) := by decide +kernel
theorem dL_law_1777 : decode code 1777 = .ok (.iaload, 1) := by decide +kernel
theorem dL_law_1778 : decode code 1778 = .ok (.aload_n 0, 1) := by decide +kernel
theorem dL_law_1779 : decode code 1779 = .ok (.iload 5, 2) := by decide +kernel
theorem dL_law_1781 : decode code 1781 = .ok (.iconst 3, 1) := by decide +kernel
theorem dL_law_1782 : decode code 1782 = .ok (.iadd, 1) := by decide +kernel
theorem dL_law_1783 : decode code 1783 = .ok (.iaload, 1) := by decide +kernel
theorem dL_law_1784 : decode code 1784 = .ok (.aload_n 3, 1) := by decide +kernel
theorem dL_law_1785 : decode code 1785 = .ok (.invokestatic 239, 3) := by decide +kernel
theorem dL_law_1788 : decode code 1788 = .ok (.istore 6, 2) := by decide +kernel
theorem dL_law_1790 : decode code 1790 = .ok (.aload_n 2, 1) := by decide +kernel
theorem dL_law_1791 : decode code 1791 = .ok (.aload_n 0, 1) := by decide +kernel
theorem dL_law_1792 : decode code 1792 = .ok (.iload 5, 2) := by decide +kernel
theorem dL_law_1794 : decode code 1794 = .ok (.iconst 1, 1) := by decide +kernel
theorem dL_law_1795 : decode code 1795 = .ok (.iadd, 1) := by decide +kernel
theorem dL_law_1796 : decode code 1796 = .ok (.iaload, 1) := by decide +kernel
theorem dL_law_1797 : decode code 1797 = .ok (.aload_n 0, 1) := by decide +kernel
theorem dL_law_1798 : decode code 1798 = .ok (.iload 5, 2) := by decide +kernel
theorem dL_law_1800 : decode code 1800 = .ok (.iconst 2, 1) := by decide +kernel
theorem dL_law_1801 : decode code 1801 = .ok (.iadd, 1) := by decide +kernel
theorem dL_law_1802 : decode code 1802 = .ok (.iaload, 1) := by decide +kernel
theorem dL_law_1803 : decode code 1803 = .ok (.aload_n 0, 1) := by decide +kernel
theorem dL_law_1804 : decode code 1804 = .ok (.iload 5, 2) := by decide +kernel
theorem dL_law_1806 : decode code 1806 = .ok (.iconst 3, 1) := by decide +kernel
theorem dL_law_1807 : decode code 1807 = .ok (.iadd, 1) := by decide +kernel
theorem dL_law_1808 : decode code 1808 = .ok (.iaload, 1) := by decide +kernel
theorem dL_law_1809 : decode code 1809 = .ok (.invokevirtual 241, 3) := by decide +kernel
theorem dL_law_1812 : decode code 1812 = .ok (.istore 7, 2) := by decide +kernel
theorem dL_law_1814 : decode code 1814 = .ok (.aload_n 2, 1) := by decide +kernel
theorem dL_law_1815 : decode code 1815 = .ok (.invokevirtual 169, 3) := by decide +kernel
theorem dL_law_1818 : decode code 1818 = .ok (.iload 6, 2) := by decide +kernel
theorem dL_law_1820 : decode code 1820 = .ok (.if_icmp .eq 5, 3) := by decide +kernel
theorem dL_law_1823 : decode code 1823 = .ok (.iconst 0, 1) := by decide +kernel
theorem dL_law_1824 : decode code 1824 = .ok (.ireturn, 1) := by decide +kernel
theorem dL_law_1825 : decode code 1825 = .ok (.iload 6, 2) := by decide +kernel
theorem dL_law_1827 : decode code 1827 = .ok (.ifCond .ne 15, 3) := by decide +kernel
theorem dL_law_1830 : decode code 1830 = .ok (.aload_n 3, 1) := by decide +kernel
theorem dL_law_1831 : decode code 1831 = .ok (.iconst 0, 1) := by decide +kernel
theorem dL_law_1832 : decode code 1832 = .ok (.laload, 1) := by decide +kernel
theorem dL_law_1833 : decode code 1833 = .ok (.iload 7, 2) := by decide +kernel
theorem dL_law_1835 : decode code 1835 = .ok (.i2l, 1) := by decide +kernel
theorem dL_law_1836 : decode code 1836 = .ok (.lcmp, 1) := by decide +kernel
theorem dL_law_1837 : decode code 1837 = .ok (.ifCond .eq 5, 3) := by decide +kernel
theorem dL_law_1840 : decode code 1840 = .ok (.iconst 0, 1) := by decide +kernel
theorem dL_law_1841 : decode code 1841 = .ok (.ireturn, 1) := by decide +kernel
theorem dL_law_1842 : decode code 1842 = .ok (.goto 1071, 3) := by decide +kernel
theorem dL_law_1845 : decode code 1845 = .ok (.aload_n 1, 1) := by decide +kernel
theorem dL_law_1846 : decode code 1846 = .ok (.aload_n 0, 1) := by decide +kernel
theorem dL_law_1847 : decode code 1847 = .ok (.iload 5, 2) := by decide +kernel
theorem dL_law_1849 : decode code 1849 = .ok (.iconst 1, 1) := by decide +kernel
theorem dL_law_1850 : decode code 1850 = .ok (.iadd, 1) := by decide +kernel
theorem dL_law_1851 : decode code 1851 = .ok (.iaload, 1) := by decide +kernel
theorem dL_law_1852 : decode code 1852 = .ok (.aload_n 0, 1) := by decide +kernel
theorem dL_law_1853 : decode code 1853 = .ok (.iload 5, 2) := by decide +kernel
theorem dL_law_1855 : decode code 1855 = .ok (.iconst 2, 1) := by decide +kernel
theorem dL_law_1856 : decode code 1856 = .ok (.iadd, 1) := by decide +kernel
theorem dL_law_1857 : decode code 1857 = .ok (.iaload, 1) := by decide +kernel
theorem dL_law_1858 : decode code 1858 = .ok (.aload_n 0, 1) := by decide +kernel
theorem dL_law_1859 : decode code 1859 = .ok (.iload 5, 2) := by decide +kernel
theorem dL_law_1861 : decode code 1861 = .ok (.iconst 3, 1) := by decide +kernel
theorem dL_law_1862 : decode code 1862 = .ok (.iadd, 1) := by decide +kernel
theorem dL_law_1863 : decode code 1863 = .ok (.iaload, 1) := by decide +kernel
theorem dL_law_1864 : decode code 1864 = .ok (.aload_n 3, 1) := by decide +kernel
theorem dL_law_1865 : decode code 1865 = .ok (.invokestatic 242, 3) := by decide +kernel
theorem dL_law_1868 : decode code 1868 = .ok (.istore 6, 2) := by decide +kernel
theorem dL_law_1870 : decode code 1870 = .ok (.aload_n 2, 1) := by decide +kernel
theorem dL_law_1871 : decode code 1871 = .ok (.aload_n 0, 1) := by decide +kernel
theorem dL_law_1872 : decode code 1872 = .ok (.iload 5, 2) := by decide +kernel
theorem dL_law_1874 : decode code 1874 = .ok (.iconst 1, 1) := by decide +kernel
theorem dL_law_1875 : decode code 1875 = .ok (.iadd, 1) := by decide +kernel
theorem dL_law_1876 : decode code 1876 = .ok (.iaload, 1) := by decide +kernel
theorem dL_law_1877 : decode code 1877 = .ok (.aload_n 0, 1) := by decide +kernel
theorem dL_law_1878 : decode code 1878 = .ok (.iload 5, 2) := by decide +kernel
theorem dL_law_1880 : decode code 1880 = .ok (.iconst 2, 1) := by decide +kernel
theorem dL_law_1881 : decode code 1881 = .ok (.iadd, 1) := by decide +kernel
theorem dL_law_1882 : decode code 1882 = .ok (.iaload, 1) := by decide +kernel
theorem dL_law_1883 : decode code 1883 = .ok (.aload_n 0, 1) := by decide +kernel
theorem dL_law_1884 : decode code 1884 = .ok (.iload 5, 2) := by decide +kernel
theorem dL_law_1886 : decode code 1886 = .ok (.iconst 3, 1) := by decide +kernel
theorem dL_law_1887 : decode code 1887 = .ok (.iadd, 1) := by decide +kernel
theorem dL_law_1888 : decode code 1888 = .ok (.iaload, 1) := by decide +kernel
theorem dL_law_1889 : decode code 1889 = .ok (.invokevirtual 244, 3) := by decide +kernel
theorem dL_law_1892 : decode code 1892 = .ok (.istore 7, 2) := by decide +kernel
theorem dL_law_1894 : decode code 1894 = .ok (.aload_n 2, 1) := by decide +kernel
theorem dL_law_1895 : decode code 1895 = .ok (.invokevirtual 169, 3) := by decide +kernel
theorem dL_law_1898 : decode code 1898 = .ok (.iload 6, 2) := by decide +kernel
theorem dL_law_1900 : decode code 1900 = .ok (.if_icmp .eq 5, 3) := by decide +kernel
theorem dL_law_1903 : decode code 1903 = .ok (.iconst 0, 1) := by decide +kernel
theorem dL_law_1904 : decode code 1904 = .ok (.ireturn, 1) := by decide +kernel
theorem dL_law_1905 : decode code 1905 = .ok (.iload 6, 2) := by decide +kernel
theorem dL_law_1907 : decode code 1907 = .ok (.ifCond .ne 15, 3) := by decide +kernel
theorem dL_law_1910 : decode code 1910 = .ok (.aload_n 3, 1) := by decide +kernel
theorem dL_law_1911 : decode code 1911 = .ok (.iconst 0, 1) := by decide +kernel
theorem dL_law_1912 : decode code 1912 = .ok (.laload, 1) := by decide +kernel
theorem dL_law_1913 : decode code 1913 = .ok (.iload 7, 2) := by decide +kernel
theorem dL_law_1915 : decode code 1915 = .ok (.i2l, 1) := by decide +kernel
theorem dL_law_1916 : decode code 1916 = .ok (.lcmp, 1) := by decide +kernel
theorem dL_law_1917 : decode code 1917 = .ok (.ifCond .eq 5, 3) := by decide +kernel
theorem dL_law_1920 : decode code 1920 = .ok (.iconst 0, 1) := by decide +kernel
theorem dL_law_1921 : decode code 1921 = .ok (.ireturn, 1) := by decide +kernel
theorem dL_law_1922 : decode code 1922 = .ok (.goto 991, 3) := by decide +kernel
theorem dL_law_1925 : decode code 1925 = .ok (.aload_n 1, 1) := by decide +kernel
theorem dL_law_1926 : decode code 1926 = .ok (.aload_n 0, 1) := by decide +kernel
theorem dL_law_1927 : decode code 1927 = .ok (.iload 5, 2) := by decide +kernel
theorem dL_law_1929 : decode code 1929 = .ok (.iconst 1, 1) := by decide +kernel
theorem dL_law_1930 : decode code 1930 = .ok (.iadd, 1) := by decide +kernel
theorem dL_law_1931 : decode code 1931 = .ok (.iaload, 1) := by decide +kernel
theorem dL_law_1932 : decode code 1932 = .ok (.aload_n 0, 1) := by decide +kernel
