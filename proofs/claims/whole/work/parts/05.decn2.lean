/-! decode rows -/
theorem dL_law_1630 : decode cL_law 1630 = .ok (.iload 7, 2) := by decide +kernel
theorem dL_law_1632 : decode cL_law 1632 = .ok (.i2l, 1) := by decide +kernel
theorem dL_law_1633 : decode cL_law 1633 = .ok (.lcmp, 1) := by decide +kernel
theorem dL_law_1634 : decode cL_law 1634 = .ok (.ifCond .eq 5, 3) := by decide +kernel
theorem dL_law_1637 : decode cL_law 1637 = .ok (.iconst 0, 1) := by decide +kernel
theorem dL_law_1638 : decode cL_law 1638 = .ok (.ireturn, 1) := by decide +kernel
theorem dL_law_1639 : decode cL_law 1639 = .ok (.goto 1719, 3) := by decide +kernel
theorem dL_law_1642 : decode cL_law 1642 = .ok (.aload_n 1, 1) := by decide +kernel
theorem dL_law_1643 : decode cL_law 1643 = .ok (.aload_n 0, 1) := by decide +kernel
theorem dL_law_1644 : decode cL_law 1644 = .ok (.iload 5, 2) := by decide +kernel
theorem dL_law_1646 : decode cL_law 1646 = .ok (.iconst 1, 1) := by decide +kernel
theorem dL_law_1647 : decode cL_law 1647 = .ok (.iadd, 1) := by decide +kernel
theorem dL_law_1648 : decode cL_law 1648 = .ok (.iaload, 1) := by decide +kernel
theorem dL_law_1649 : decode cL_law 1649 = .ok (.aload_n 3, 1) := by decide +kernel
theorem dL_law_1650 : decode cL_law 1650 = .ok (.invokestatic 261, 3) := by decide +kernel
theorem dL_law_1653 : decode cL_law 1653 = .ok (.istore 6, 2) := by decide +kernel
theorem dL_law_1655 : decode cL_law 1655 = .ok (.aload_n 2, 1) := by decide +kernel
theorem dL_law_1656 : decode cL_law 1656 = .ok (.aload_n 0, 1) := by decide +kernel
theorem dL_law_1657 : decode cL_law 1657 = .ok (.iload 5, 2) := by decide +kernel
theorem dL_law_1659 : decode cL_law 1659 = .ok (.iconst 1, 1) := by decide +kernel
theorem dL_law_1660 : decode cL_law 1660 = .ok (.iadd, 1) := by decide +kernel
theorem dL_law_1661 : decode cL_law 1661 = .ok (.iaload, 1) := by decide +kernel
theorem dL_law_1662 : decode cL_law 1662 = .ok (.invokevirtual 263, 3) := by decide +kernel
theorem dL_law_1665 : decode cL_law 1665 = .ok (.istore 7, 2) := by decide +kernel
theorem dL_law_1667 : decode cL_law 1667 = .ok (.aload_n 2, 1) := by decide +kernel
theorem dL_law_1668 : decode cL_law 1668 = .ok (.invokevirtual 174, 3) := by decide +kernel
theorem dL_law_1671 : decode cL_law 1671 = .ok (.iload 6, 2) := by decide +kernel
theorem dL_law_1673 : decode cL_law 1673 = .ok (.if_icmp .eq 5, 3) := by decide +kernel
theorem dL_law_1676 : decode cL_law 1676 = .ok (.iconst 0, 1) := by decide +kernel
theorem dL_law_1677 : decode cL_law 1677 = .ok (.ireturn, 1) := by decide +kernel
theorem dL_law_1678 : decode cL_law 1678 = .ok (.iload 6, 2) := by decide +kernel
theorem dL_law_1680 : decode cL_law 1680 = .ok (.ifCond .ne 15, 3) := by decide +kernel
theorem dL_law_1683 : decode cL_law 1683 = .ok (.aload_n 3, 1) := by decide +kernel
theorem dL_law_1684 : decode cL_law 1684 = .ok (.iconst 0, 1) := by decide +kernel
theorem dL_law_1685 : decode cL_law 1685 = .ok (.laload, 1) := by decide +kernel
theorem dL_law_1686 : decode cL_law 1686 = .ok (.iload 7, 2) := by decide +kernel
theorem dL_law_1688 : decode cL_law 1688 = .ok (.i2l, 1) := by decide +kernel
theorem dL_law_1689 : decode cL_law 1689 = .ok (.lcmp, 1) := by decide +kernel
theorem dL_law_1690 : decode cL_law 1690 = .ok (.ifCond .eq 5, 3) := by decide +kernel
theorem dL_law_1693 : decode cL_law 1693 = .ok (.iconst 0, 1) := by decide +kernel
theorem dL_law_1694 : decode cL_law 1694 = .ok (.ireturn, 1) := by decide +kernel
theorem dL_law_1695 : decode cL_law 1695 = .ok (.goto 1663, 3) := by decide +kernel
theorem dL_law_1698 : decode cL_law 1698 = .ok (.aload_n 1, 1) := by decide +kernel
theorem dL_law_1699 : decode cL_law 1699 = .ok (.aload_n 0, 1) := by decide +kernel
theorem dL_law_1700 : decode cL_law 1700 = .ok (.iload 5, 2) := by decide +kernel
theorem dL_law_1702 : decode cL_law 1702 = .ok (.iconst 1, 1) := by decide +kernel
theorem dL_law_1703 : decode cL_law 1703 = .ok (.iadd, 1) := by decide +kernel
theorem dL_law_1704 : decode cL_law 1704 = .ok (.iaload, 1) := by decide +kernel
theorem dL_law_1705 : decode cL_law 1705 = .ok (.aload_n 3, 1) := by decide +kernel
theorem dL_law_1706 : decode cL_law 1706 = .ok (.invokestatic 264, 3) := by decide +kernel
theorem dL_law_1709 : decode cL_law 1709 = .ok (.istore 6, 2) := by decide +kernel
theorem dL_law_1711 : decode cL_law 1711 = .ok (.aload_n 2, 1) := by decide +kernel
theorem dL_law_1712 : decode cL_law 1712 = .ok (.aload_n 0, 1) := by decide +kernel
theorem dL_law_1713 : decode cL_law 1713 = .ok (.iload 5, 2) := by decide +kernel
theorem dL_law_1715 : decode cL_law 1715 = .ok (.iconst 1, 1) := by decide +kernel
theorem dL_law_1716 : decode cL_law 1716 = .ok (.iadd, 1) := by decide +kernel
theorem dL_law_1717 : decode cL_law 1717 = .ok (.iaload, 1) := by decide +kernel
theorem dL_law_1718 : decode cL_law 1718 = .ok (.invokevirtual 266, 3) := by decide +kernel
theorem dL_law_1721 : decode cL_law 1721 = .ok (.istore 7, 2) := by decide +kernel
theorem dL_law_1723 : decode cL_law 1723 = .ok (.aload_n 2, 1) := by decide +kernel
theorem dL_law_1724 : decode cL_law 1724 = .ok (.invokevirtual 174, 3) := by decide +kernel
theorem dL_law_1727 : decode cL_law 1727 = .ok (.iload 6, 2) := by decide +kernel
theorem dL_law_1729 : decode cL_law 1729 = .ok (.if_icmp .eq 5, 3) := by decide +kernel
theorem dL_law_1732 : decode cL_law 1732 = .ok (.iconst 0, 1) := by decide +kernel
theorem dL_law_1733 : decode cL_law 1733 = .ok (.ireturn, 1) := by decide +kernel
theorem dL_law_1734 : decode cL_law 1734 = .ok (.iload 6, 2) := by decide +kernel
theorem dL_law_1736 : decode cL_law 1736 = .ok (.ifCond .ne 15, 3) := by decide +kernel
theorem dL_law_1739 : decode cL_law 1739 = .ok (.aload_n 3, 1) := by decide +kernel
theorem dL_law_1740 : decode cL_law 1740 = .ok (.iconst 0, 1) := by decide +kernel
theorem dL_law_1741 : decode cL_law 1741 = .ok (.laload, 1) := by decide +kernel
theorem dL_law_1742 : decode cL_law 1742 = .ok (.iload 7, 2) := by decide +kernel
theorem dL_law_1744 : decode cL_law 1744 = .ok (.i2l, 1) := by decide +kernel
theorem dL_law_1745 : decode cL_law 1745 = .ok (.lcmp, 1) := by decide +kernel
theorem dL_law_1746 : decode cL_law 1746 = .ok (.ifCond .eq 5, 3) := by decide +kernel
theorem dL_law_1749 : decode cL_law 1749 = .ok (.iconst 0, 1) := by decide +kernel
theorem dL_law_1750 : decode cL_law 1750 = .ok (.ireturn, 1) := by decide +kernel
theorem dL_law_1751 : decode cL_law 1751 = .ok (.goto 1607, 3) := by decide +kernel
theorem dL_law_1754 : decode cL_law 1754 = .ok (.aload_n 1, 1) := by decide +kernel
theorem dL_law_1755 : decode cL_law 1755 = .ok (.invokevirtual 267, 3) := by decide +kernel
theorem dL_law_1758 : decode cL_law 1758 = .ok (.aload_n 2, 1) := by decide +kernel
theorem dL_law_1759 : decode cL_law 1759 = .ok (.invokevirtual 270, 3) := by decide +kernel
theorem dL_law_1762 : decode cL_law 1762 = .ok (.if_icmp .eq 1596, 3) := by decide +kernel
theorem dL_law_1765 : decode cL_law 1765 = .ok (.iconst 0, 1) := by decide +kernel
theorem dL_law_1766 : decode cL_law 1766 = .ok (.ireturn, 1) := by decide +kernel
theorem dL_law_1767 : decode cL_law 1767 = .ok (.aload_n 1, 1) := by decide +kernel
theorem dL_law_1768 : decode cL_law 1768 = .ok (.aload_n 0, 1) := by decide +kernel
theorem dL_law_1769 : decode cL_law 1769 = .ok (.iload 5, 2) := by decide +kernel
theorem dL_law_1771 : decode cL_law 1771 = .ok (.iconst 1, 1) := by decide +kernel
theorem dL_law_1772 : decode cL_law 1772 = .ok (.iadd, 1) := by decide +kernel
theorem dL_law_1773 : decode cL_law 1773 = .ok (.iaload, 1) := by decide +kernel
theorem dL_law_1774 : decode cL_law 1774 = .ok (.aload_n 3, 1) := by decide +kernel
theorem dL_law_1775 : decode cL_law 1775 = .ok (.invokestatic 271, 3) := by decide +kernel
theorem dL_law_1778 : decode cL_law 1778 = .ok (.istore 6, 2) := by decide +kernel
theorem dL_law_1780 : decode cL_law 1780 = .ok (.aload_n 2, 1) := by decide +kernel
theorem dL_law_1781 : decode cL_law 1781 = .ok (.aload_n 0, 1) := by decide +kernel
theorem dL_law_1782 : decode cL_law 1782 = .ok (.iload 5, 2) := by decide +kernel
theorem dL_law_1784 : decode cL_law 1784 = .ok (.iconst 1, 1) := by decide +kernel
theorem dL_law_1785 : decode cL_law 1785 = .ok (.iadd, 1) := by decide +kernel
theorem dL_law_1786 : decode cL_law 1786 = .ok (.iaload, 1) := by decide +kernel
theorem dL_law_1787 : decode cL_law 1787 = .ok (.invokevirtual 273, 3) := by decide +kernel
theorem dL_law_1790 : decode cL_law 1790 = .ok (.istore 7, 2) := by decide +kernel
theorem dL_law_1792 : decode cL_law 1792 = .ok (.aload_n 2, 1) := by decide +kernel
theorem dL_law_1793 : decode cL_law 1793 = .ok (.invokevirtual 174, 3) := by decide +kernel
theorem dL_law_1796 : decode cL_law 1796 = .ok (.iload 6, 2) := by decide +kernel
theorem dL_law_1798 : decode cL_law 1798 = .ok (.if_icmp .eq 5, 3) := by decide +kernel
theorem dL_law_1801 : decode cL_law 1801 = .ok (.iconst 0, 1) := by decide +kernel
theorem dL_law_1802 : decode cL_law 1802 = .ok (.ireturn, 1) := by decide +kernel
theorem dL_law_1803 : decode cL_law 1803 = .ok (.iload 6, 2) := by decide +kernel
theorem dL_law_1805 : decode cL_law 1805 = .ok (.ifCond .ne 22, 3) := by decide +kernel
theorem dL_law_1808 : decode cL_law 1808 = .ok (.aload_n 3, 1) := by decide +kernel
theorem dL_law_1809 : decode cL_law 1809 = .ok (.iconst 0, 1) := by decide +kernel
theorem dL_law_1810 : decode cL_law 1810 = .ok (.laload, 1) := by decide +kernel
theorem dL_law_1811 : decode cL_law 1811 = .ok (.iload 7, 2) := by decide +kernel
theorem dL_law_1813 : decode cL_law 1813 = .ok (.ifCond .eq 7, 3) := by decide +kernel
theorem dL_law_1816 : decode cL_law 1816 = .ok (.lconst 1, 1) := by decide +kernel
theorem dL_law_1817 : decode cL_law 1817 = .ok (.goto 4, 3) := by decide +kernel
theorem dL_law_1820 : decode cL_law 1820 = .ok (.lconst 0, 1) := by decide +kernel
theorem dL_law_1821 : decode cL_law 1821 = .ok (.lcmp, 1) := by decide +kernel
theorem dL_law_1822 : decode cL_law 1822 = .ok (.ifCond .eq 5, 3) := by decide +kernel
theorem dL_law_1825 : decode cL_law 1825 = .ok (.iconst 0, 1) := by decide +kernel
theorem dL_law_1826 : decode cL_law 1826 = .ok (.ireturn, 1) := by decide +kernel
theorem dL_law_1827 : decode cL_law 1827 = .ok (.goto 1531, 3) := by decide +kernel
theorem dL_law_1830 : decode cL_law 1830 = .ok (.aload_n 1, 1) := by decide +kernel
theorem dL_law_1831 : decode cL_law 1831 = .ok (.invokevirtual 274, 3) := by decide +kernel
theorem dL_law_1834 : decode cL_law 1834 = .ok (.aload_n 2, 1) := by decide +kernel
theorem dL_law_1835 : decode cL_law 1835 = .ok (.invokevirtual 277, 3) := by decide +kernel
theorem dL_law_1838 : decode cL_law 1838 = .ok (.if_icmp .eq 1520, 3) := by decide +kernel
theorem dL_law_1841 : decode cL_law 1841 = .ok (.iconst 0, 1) := by decide +kernel
theorem dL_law_1842 : decode cL_law 1842 = .ok (.ireturn, 1) := by decide +kernel
theorem dL_law_1843 : decode cL_law 1843 = .ok (.aload_n 1, 1) := by decide +kernel
theorem dL_law_1844 : decode cL_law 1844 = .ok (.aload_n 0, 1) := by decide +kernel
theorem dL_law_1845 : decode cL_law 1845 = .ok (.iload 5, 2) := by decide +kernel
theorem dL_law_1847 : decode cL_law 1847 = .ok (.iconst 1, 1) := by decide +kernel
theorem dL_law_1848 : decode cL_law 1848 = .ok (.iadd, 1) := by decide +kernel
theorem dL_law_1849 : decode cL_law 1849 = .ok (.iaload, 1) := by decide +kernel
theorem dL_law_1850 : decode cL_law 1850 = .ok (.invokevirtual 278, 3) := by decide +kernel
theorem dL_law_1853 : decode cL_law 1853 = .ok (.aload_n 2, 1) := by decide +kernel
theorem dL_law_1854 : decode cL_law 1854 = .ok (.aload_n 0, 1) := by decide +kernel
theorem dL_law_1855 : decode cL_law 1855 = .ok (.iload 5, 2) := by decide +kernel
theorem dL_law_1857 : decode cL_law 1857 = .ok (.iconst 1, 1) := by decide +kernel
theorem dL_law_1858 : decode cL_law 1858 = .ok (.iadd, 1) := by decide +kernel
theorem dL_law_1859 : decode cL_law 1859 = .ok (.iaload, 1) := by decide +kernel
theorem dL_law_1860 : decode cL_law 1860 = .ok (.invokevirtual 281, 3) := by decide +kernel
theorem dL_law_1863 : decode cL_law 1863 = .ok (.if_icmp .eq 1495, 3) := by decide +kernel
theorem dL_law_1866 : decode cL_law 1866 = .ok (.iconst 0, 1) := by decide +kernel
theorem dL_law_1867 : decode cL_law 1867 = .ok (.ireturn, 1) := by decide +kernel
theorem dL_law_1868 : decode cL_law 1868 = .ok (.aload_n 1, 1) := by decide +kernel
theorem dL_law_1869 : decode cL_law 1869 = .ok (.aload_n 0, 1) := by decide +kernel
theorem dL_law_1870 : decode cL_law 1870 = .ok (.iload 5, 2) := by decide +kernel
theorem dL_law_1872 : decode cL_law 1872 = .ok (.iconst 1, 1) := by decide +kernel
theorem dL_law_1873 : decode cL_law 1873 = .ok (.iadd, 1) := by decide +kernel
theorem dL_law_1874 : decode cL_law 1874 = .ok (.iaload, 1) := by decide +kernel
theorem dL_law_1875 : decode cL_law 1875 = .ok (.aload_n 3, 1) := by decide +kernel
theorem dL_law_1876 : decode cL_law 1876 = .ok (.invokestatic 282, 3) := by decide +kernel
theorem dL_law_1879 : decode cL_law 1879 = .ok (.istore 6, 2) := by decide +kernel
theorem dL_law_1881 : decode cL_law 1881 = .ok (.aload_n 2, 1) := by decide +kernel
theorem dL_law_1882 : decode cL_law 1882 = .ok (.aload_n 0, 1) := by decide +kernel
theorem dL_law_1883 : decode cL_law 1883 = .ok (.iload 5, 2) := by decide +kernel
theorem dL_law_1885 : decode cL_law 1885 = .ok (.iconst 1, 1) := by decide +kernel
theorem dL_law_1886 : decode cL_law 1886 = .ok (.iadd, 1) := by decide +kernel
theorem dL_law_1887 : decode cL_law 1887 = .ok (.iaload, 1) := by decide +kernel
theorem dL_law_1888 : decode cL_law 1888 = .ok (.invokevirtual 284, 3) := by decide +kernel
theorem dL_law_1891 : decode cL_law 1891 = .ok (.istore 7, 2) := by decide +kernel
theorem dL_law_1893 : decode cL_law 1893 = .ok (.aload_n 2, 1) := by decide +kernel
theorem dL_law_1894 : decode cL_law 1894 = .ok (.invokevirtual 174, 3) := by decide +kernel
theorem dL_law_1897 : decode cL_law 1897 = .ok (.iload 6, 2) := by decide +kernel
theorem dL_law_1899 : decode cL_law 1899 = .ok (.if_icmp .eq 5, 3) := by decide +kernel
theorem dL_law_1902 : decode cL_law 1902 = .ok (.iconst 0, 1) := by decide +kernel
theorem dL_law_1903 : decode cL_law 1903 = .ok (.ireturn, 1) := by decide +kernel
theorem dL_law_1904 : decode cL_law 1904 = .ok (.iload 6, 2) := by decide +kernel
theorem dL_law_1906 : decode cL_law 1906 = .ok (.ifCond .ne 15, 3) := by decide +kernel
theorem dL_law_1909 : decode cL_law 1909 = .ok (.aload_n 3, 1) := by decide +kernel
theorem dL_law_1910 : decode cL_law 1910 = .ok (.iconst 0, 1) := by decide +kernel
theorem dL_law_1911 : decode cL_law 1911 = .ok (.laload, 1) := by decide +kernel
theorem dL_law_1912 : decode cL_law 1912 = .ok (.iload 7, 2) := by decide +kernel
theorem dL_law_1914 : decode cL_law 1914 = .ok (.i2l, 1) := by decide +kernel
theorem dL_law_1915 : decode cL_law 1915 = .ok (.lcmp, 1) := by decide +kernel
theorem dL_law_1916 : decode cL_law 1916 = .ok (.ifCond .eq 5, 3) := by decide +kernel
theorem dL_law_1919 : decode cL_law 1919 = .ok (.iconst 0, 1) := by decide +kernel
theorem dL_law_1920 : decode cL_law 1920 = .ok (.ireturn, 1) := by decide +kernel
theorem dL_law_1921 : decode cL_law 1921 = .ok (.goto 1437, 3) := by decide +kernel
theorem dL_law_1924 : decode cL_law 1924 = .ok (.aload_n 1, 1) := by decide +kernel
theorem dL_law_1925 : decode cL_law 1925 = .ok (.aload_n 0, 1) := by decide +kernel
theorem dL_law_1926 : decode cL_law 1926 = .ok (.iload 5, 2) := by decide +kernel
theorem dL_law_1928 : decode cL_law 1928 = .ok (.iconst 1, 1) := by decide +kernel
theorem dL_law_1929 : decode cL_law 1929 = .ok (.iadd, 1) := by decide +kernel
theorem dL_law_1930 : decode cL_law 1930 = .ok (.iaload, 1) := by decide +kernel
theorem dL_law_1931 : decode cL_law 1931 = .ok (.aload_n 3, 1) := by decide +kernel
theorem dL_law_1932 : decode cL_law 1932 = .ok (.invokestatic 285, 3) := by decide +kernel
theorem dL_law_1935 : decode cL_law 1935 = .ok (.istore 6, 2) := by decide +kernel
theorem dL_law_1937 : decode cL_law 1937 = .ok (.aload_n 2, 1) := by decide +kernel
theorem dL_law_1938 : decode cL_law 1938 = .ok (.aload_n 0, 1) := by decide +kernel
theorem dL_law_1939 : decode cL_law 1939 = .ok (.iload 5, 2) := by decide +kernel
theorem dL_law_1941 : decode cL_law 1941 = .ok (.iconst 1, 1) := by decide +kernel
theorem dL_law_1942 : decode cL_law 1942 = .ok (.iadd, 1) := by decide +kernel
theorem dL_law_1943 : decode cL_law 1943 = .ok (.iaload, 1) := by decide +kernel
theorem dL_law_1944 : decode cL_law 1944 = .ok (.invokevirtual 287, 3) := by decide +kernel
theorem dL_law_1947 : decode cL_law 1947 = .ok (.lstore 7, 2) := by decide +kernel
theorem dL_law_1949 : decode cL_law 1949 = .ok (.aload_n 2, 1) := by decide +kernel
theorem dL_law_1950 : decode cL_law 1950 = .ok (.invokevirtual 174, 3) := by decide +kernel
theorem dL_law_1953 : decode cL_law 1953 = .ok (.iload 6, 2) := by decide +kernel
theorem dL_law_1955 : decode cL_law 1955 = .ok (.if_icmp .eq 5, 3) := by decide +kernel
theorem dL_law_1958 : decode cL_law 1958 = .ok (.iconst 0, 1) := by decide +kernel
theorem dL_law_1959 : decode cL_law 1959 = .ok (.ireturn, 1) := by decide +kernel
theorem dL_law_1960 : decode cL_law 1960 = .ok (.iload 6, 2) := by decide +kernel
theorem dL_law_1962 : decode cL_law 1962 = .ok (.ifCond .ne 14, 3) := by decide +kernel
theorem dL_law_1965 : decode cL_law 1965 = .ok (.aload_n 3, 1) := by decide +kernel
theorem dL_law_1966 : decode cL_law 1966 = .ok (.iconst 0, 1) := by decide +kernel
theorem dL_law_1967 : decode cL_law 1967 = .ok (.laload, 1) := by decide +kernel
theorem dL_law_1968 : decode cL_law 1968 = .ok (.lload 7, 2) := by decide +kernel
theorem dL_law_1970 : decode cL_law 1970 = .ok (.lcmp, 1) := by decide +kernel
theorem dL_law_1971 : decode cL_law 1971 = .ok (.ifCond .eq 5, 3) := by decide +kernel
theorem dL_law_1974 : decode cL_law 1974 = .ok (.iconst 0, 1) := by decide +kernel
theorem dL_law_1975 : decode cL_law 1975 = .ok (.ireturn, 1) := by decide +kernel
theorem dL_law_1976 : decode cL_law 1976 = .ok (.goto 1382, 3) := by decide +kernel
theorem dL_law_1979 : decode cL_law 1979 = .ok (.aload_n 1, 1) := by decide +kernel
theorem dL_law_1980 : decode cL_law 1980 = .ok (.aload_n 0, 1) := by decide +kernel
theorem dL_law_1981 : decode cL_law 1981 = .ok (.iload 5, 2) := by decide +kernel
theorem dL_law_1983 : decode cL_law 1983 = .ok (.iconst 1, 1) := by decide +kernel
theorem dL_law_1984 : decode cL_law 1984 = .ok (.iadd, 1) := by decide +kernel
theorem dL_law_1985 : decode cL_law 1985 = .ok (.iaload, 1) := by decide +kernel
theorem dL_law_1986 : decode cL_law 1986 = .ok (.aload_n 3, 1) := by decide +kernel
theorem dL_law_1987 : decode cL_law 1987 = .ok (.invokestatic 288, 3) := by decide +kernel
theorem dL_law_1990 : decode cL_law 1990 = .ok (.istore 6, 2) := by decide +kernel
theorem dL_law_1992 : decode cL_law 1992 = .ok (.aload_n 2, 1) := by decide +kernel
theorem dL_law_1993 : decode cL_law 1993 = .ok (.aload_n 0, 1) := by decide +kernel
theorem dL_law_1994 : decode cL_law 1994 = .ok (.iload 5, 2) := by decide +kernel
theorem dL_law_1996 : decode cL_law 1996 = .ok (.iconst 1, 1) := by decide +kernel
theorem dL_law_1997 : decode cL_law 1997 = .ok (.iadd, 1) := by decide +kernel
theorem dL_law_1998 : decode cL_law 1998 = .ok (.iaload, 1) := by decide +kernel
theorem dL_law_1999 : decode cL_law 1999 = .ok (.invokevirtual 290, 3) := by decide +kernel
theorem dL_law_2002 : decode cL_law 2002 = .ok (.istore 7, 2) := by decide +kernel
theorem dL_law_2004 : decode cL_law 2004 = .ok (.aload_n 2, 1) := by decide +kernel
theorem dL_law_2005 : decode cL_law 2005 = .ok (.invokevirtual 174, 3) := by decide +kernel
theorem dL_law_2008 : decode cL_law 2008 = .ok (.iload 6, 2) := by decide +kernel
theorem dL_law_2010 : decode cL_law 2010 = .ok (.if_icmp .eq 5, 3) := by decide +kernel
theorem dL_law_2013 : decode cL_law 2013 = .ok (.iconst 0, 1) := by decide +kernel
theorem dL_law_2014 : decode cL_law 2014 = .ok (.ireturn, 1) := by decide +kernel
theorem dL_law_2015 : decode cL_law 2015 = .ok (.iload 6, 2) := by decide +kernel
theorem dL_law_2017 : decode cL_law 2017 = .ok (.ifCond .ne 15, 3) := by decide +kernel
theorem dL_law_2020 : decode cL_law 2020 = .ok (.aload_n 3, 1) := by decide +kernel
theorem dL_law_2021 : decode cL_law 2021 = .ok (.iconst 0, 1) := by decide +kernel
theorem dL_law_2022 : decode cL_law 2022 = .ok (.laload, 1) := by decide +kernel
theorem dL_law_2023 : decode cL_law 2023 = .ok (.iload 7, 2) := by decide +kernel
theorem dL_law_2025 : decode cL_law 2025 = .ok (.i2l, 1) := by decide +kernel
theorem dL_law_2026 : decode cL_law 2026 = .ok (.lcmp, 1) := by decide +kernel
theorem dL_law_2027 : decode cL_law 2027 = .ok (.ifCond .eq 5, 3) := by decide +kernel
theorem dL_law_2030 : decode cL_law 2030 = .ok (.iconst 0, 1) := by decide +kernel
theorem dL_law_2031 : decode cL_law 2031 = .ok (.ireturn, 1) := by decide +kernel
theorem dL_law_2032 : decode cL_law 2032 = .ok (.goto 1326, 3) := by decide +kernel
theorem dL_law_2035 : decode cL_law 2035 = .ok (.aload_n 1, 1) := by decide +kernel
theorem dL_law_2036 : decode cL_law 2036 = .ok (.aload_n 0, 1) := by decide +kernel
theorem dL_law_2037 : decode cL_law 2037 = .ok (.iload 5, 2) := by decide +kernel
theorem dL_law_2039 : decode cL_law 2039 = .ok (.iconst 1, 1) := by decide +kernel
theorem dL_law_2040 : decode cL_law 2040 = .ok (.iadd, 1) := by decide +kernel
theorem dL_law_2041 : decode cL_law 2041 = .ok (.iaload, 1) := by decide +kernel
theorem dL_law_2042 : decode cL_law 2042 = .ok (.aload_n 3, 1) := by decide +kernel
theorem dL_law_2043 : decode cL_law 2043 = .ok (.invokestatic 291, 3) := by decide +kernel
theorem dL_law_2046 : decode cL_law 2046 = .ok (.istore 6, 2) := by decide +kernel
theorem dL_law_2048 : decode cL_law 2048 = .ok (.aload_n 2, 1) := by decide +kernel
theorem dL_law_2049 : decode cL_law 2049 = .ok (.aload_n 0, 1) := by decide +kernel
theorem dL_law_2050 : decode cL_law 2050 = .ok (.iload 5, 2) := by decide +kernel
theorem dL_law_2052 : decode cL_law 2052 = .ok (.iconst 1, 1) := by decide +kernel
theorem dL_law_2053 : decode cL_law 2053 = .ok (.iadd, 1) := by decide +kernel
theorem dL_law_2054 : decode cL_law 2054 = .ok (.iaload, 1) := by decide +kernel
theorem dL_law_2055 : decode cL_law 2055 = .ok (.invokevirtual 293, 3) := by decide +kernel
theorem dL_law_2058 : decode cL_law 2058 = .ok (.istore 7, 2) := by decide +kernel
theorem dL_law_2060 : decode cL_law 2060 = .ok (.aload_n 2, 1) := by decide +kernel
theorem dL_law_2061 : decode cL_law 2061 = .ok (.invokevirtual 174, 3) := by decide +kernel
theorem dL_law_2064 : decode cL_law 2064 = .ok (.iload 6, 2) := by decide +kernel
theorem dL_law_2066 : decode cL_law 2066 = .ok (.if_icmp .eq 5, 3) := by decide +kernel
theorem dL_law_2069 : decode cL_law 2069 = .ok (.iconst 0, 1) := by decide +kernel
theorem dL_law_2070 : decode cL_law 2070 = .ok (.ireturn, 1) := by decide +kernel
theorem dL_law_2071 : decode cL_law 2071 = .ok (.iload 6, 2) := by decide +kernel
theorem dL_law_2073 : decode cL_law 2073 = .ok (.ifCond .ne 15, 3) := by decide +kernel
theorem dL_law_2076 : decode cL_law 2076 = .ok (.aload_n 3, 1) := by decide +kernel
theorem dL_law_2077 : decode cL_law 2077 = .ok (.iconst 0, 1) := by decide +kernel
theorem dL_law_2078 : decode cL_law 2078 = .ok (.laload, 1) := by decide +kernel
theorem dL_law_2079 : decode cL_law 2079 = .ok (.iload 7, 2) := by decide +kernel
theorem dL_law_2081 : decode cL_law 2081 = .ok (.i2l, 1) := by decide +kernel
theorem dL_law_2082 : decode cL_law 2082 = .ok (.lcmp, 1) := by decide +kernel
theorem dL_law_2083 : decode cL_law 2083 = .ok (.ifCond .eq 5, 3) := by decide +kernel
theorem dL_law_2086 : decode cL_law 2086 = .ok (.iconst 0, 1) := by decide +kernel
theorem dL_law_2087 : decode cL_law 2087 = .ok (.ireturn, 1) := by decide +kernel
theorem dL_law_2088 : decode cL_law 2088 = .ok (.goto 1270, 3) := by decide +kernel
theorem dL_law_2091 : decode cL_law 2091 = .ok (.aload_n 1, 1) := by decide +kernel
theorem dL_law_2092 : decode cL_law 2092 = .ok (.aload_n 0, 1) := by decide +kernel
theorem dL_law_2093 : decode cL_law 2093 = .ok (.iload 5, 2) := by decide +kernel
theorem dL_law_2095 : decode cL_law 2095 = .ok (.iconst 1, 1) := by decide +kernel
theorem dL_law_2096 : decode cL_law 2096 = .ok (.iadd, 1) := by decide +kernel
theorem dL_law_2097 : decode cL_law 2097 = .ok (.iaload, 1) := by decide +kernel
theorem dL_law_2098 : decode cL_law 2098 = .ok (.aload_n 3, 1) := by decide +kernel
theorem dL_law_2099 : decode cL_law 2099 = .ok (.invokestatic 294, 3) := by decide +kernel
theorem dL_law_2102 : decode cL_law 2102 = .ok (.istore 6, 2) := by decide +kernel
theorem dL_law_2104 : decode cL_law 2104 = .ok (.aload_n 2, 1) := by decide +kernel
theorem dL_law_2105 : decode cL_law 2105 = .ok (.aload_n 0, 1) := by decide +kernel
theorem dL_law_2106 : decode cL_law 2106 = .ok (.iload 5, 2) := by decide +kernel
theorem dL_law_2108 : decode cL_law 2108 = .ok (.iconst 1, 1) := by decide +kernel
theorem dL_law_2109 : decode cL_law 2109 = .ok (.iadd, 1) := by decide +kernel
theorem dL_law_2110 : decode cL_law 2110 = .ok (.iaload, 1) := by decide +kernel
theorem dL_law_2111 : decode cL_law 2111 = .ok (.invokevirtual 296, 3) := by decide +kernel
theorem dL_law_2114 : decode cL_law 2114 = .ok (.istore 7, 2) := by decide +kernel
theorem dL_law_2116 : decode cL_law 2116 = .ok (.aload_n 2, 1) := by decide +kernel
theorem dL_law_2117 : decode cL_law 2117 = .ok (.invokevirtual 174, 3) := by decide +kernel
theorem dL_law_2120 : decode cL_law 2120 = .ok (.iload 6, 2) := by decide +kernel
theorem dL_law_2122 : decode cL_law 2122 = .ok (.if_icmp .eq 5, 3) := by decide +kernel
theorem dL_law_2125 : decode cL_law 2125 = .ok (.iconst 0, 1) := by decide +kernel
theorem dL_law_2126 : decode cL_law 2126 = .ok (.ireturn, 1) := by decide +kernel
theorem dL_law_2127 : decode cL_law 2127 = .ok (.iload 6, 2) := by decide +kernel
theorem dL_law_2129 : decode cL_law 2129 = .ok (.ifCond .ne 15, 3) := by decide +kernel
theorem dL_law_2132 : decode cL_law 2132 = .ok (.aload_n 3, 1) := by decide +kernel
theorem dL_law_2133 : decode cL_law 2133 = .ok (.iconst 0, 1) := by decide +kernel
theorem dL_law_2134 : decode cL_law 2134 = .ok (.laload, 1) := by decide +kernel
theorem dL_law_2135 : decode cL_law 2135 = .ok (.iload 7, 2) := by decide +kernel
theorem dL_law_2137 : decode cL_law 2137 = .ok (.i2l, 1) := by decide +kernel
theorem dL_law_2138 : decode cL_law 2138 = .ok (.lcmp, 1) := by decide +kernel
theorem dL_law_2139 : decode cL_law 2139 = .ok (.ifCond .eq 5, 3) := by decide +kernel
theorem dL_law_2142 : decode cL_law 2142 = .ok (.iconst 0, 1) := by decide +kernel
theorem dL_law_2143 : decode cL_law 2143 = .ok (.ireturn, 1) := by decide +kernel
theorem dL_law_2144 : decode cL_law 2144 = .ok (.goto 1214, 3) := by decide +kernel
theorem dL_law_2147 : decode cL_law 2147 = .ok (.aload_n 1, 1) := by decide +kernel
theorem dL_law_2148 : decode cL_law 2148 = .ok (.aload_n 0, 1) := by decide +kernel
theorem dL_law_2149 : decode cL_law 2149 = .ok (.iload 5, 2) := by decide +kernel
theorem dL_law_2151 : decode cL_law 2151 = .ok (.iconst 1, 1) := by decide +kernel
theorem dL_law_2152 : decode cL_law 2152 = .ok (.iadd, 1) := by decide +kernel
theorem dL_law_2153 : decode cL_law 2153 = .ok (.iaload, 1) := by decide +kernel
theorem dL_law_2154 : decode cL_law 2154 = .ok (.aload 4, 2) := by decide +kernel
theorem dL_law_2156 : decode cL_law 2156 = .ok (.invokestatic 297, 3) := by decide +kernel
theorem dL_law_2159 : decode cL_law 2159 = .ok (.istore 6, 2) := by decide +kernel
theorem dL_law_2161 : decode cL_law 2161 = .ok (.aload_n 2, 1) := by decide +kernel
theorem dL_law_2162 : decode cL_law 2162 = .ok (.aload_n 0, 1) := by decide +kernel
theorem dL_law_2163 : decode cL_law 2163 = .ok (.iload 5, 2) := by decide +kernel
theorem dL_law_2165 : decode cL_law 2165 = .ok (.iconst 1, 1) := by decide +kernel
theorem dL_law_2166 : decode cL_law 2166 = .ok (.iadd, 1) := by decide +kernel
theorem dL_law_2167 : decode cL_law 2167 = .ok (.iaload, 1) := by decide +kernel
theorem dL_law_2168 : decode cL_law 2168 = .ok (.invokevirtual 300, 3) := by decide +kernel
theorem dL_law_2171 : decode cL_law 2171 = .ok (.dstore 7, 2) := by decide +kernel
theorem dL_law_2173 : decode cL_law 2173 = .ok (.aload_n 2, 1) := by decide +kernel
theorem dL_law_2174 : decode cL_law 2174 = .ok (.invokevirtual 174, 3) := by decide +kernel
theorem dL_law_2177 : decode cL_law 2177 = .ok (.iload 6, 2) := by decide +kernel
theorem dL_law_2179 : decode cL_law 2179 = .ok (.if_icmp .eq 5, 3) := by decide +kernel
theorem dL_law_2182 : decode cL_law 2182 = .ok (.iconst 0, 1) := by decide +kernel
theorem dL_law_2183 : decode cL_law 2183 = .ok (.ireturn, 1) := by decide +kernel
theorem dL_law_2184 : decode cL_law 2184 = .ok (.iload 6, 2) := by decide +kernel
theorem dL_law_2186 : decode cL_law 2186 = .ok (.ifCond .ne 35, 3) := by decide +kernel
theorem dL_law_2189 : decode cL_law 2189 = .ok (.aload 4, 2) := by decide +kernel
theorem dL_law_2191 : decode cL_law 2191 = .ok (.iconst 0, 1) := by decide +kernel
theorem dL_law_2192 : decode cL_law 2192 = .ok (.daload, 1) := by decide +kernel
theorem dL_law_2193 : decode cL_law 2193 = .ok (.dload 7, 2) := by decide +kernel
theorem dL_law_2195 : decode cL_law 2195 = .ok (.dcmp .l, 1) := by decide +kernel
theorem dL_law_2196 : decode cL_law 2196 = .ok (.ifCond .eq 25, 3) := by decide +kernel
theorem dL_law_2199 : decode cL_law 2199 = .ok (.aload 4, 2) := by decide +kernel
theorem dL_law_2201 : decode cL_law 2201 = .ok (.iconst 0, 1) := by decide +kernel
theorem dL_law_2202 : decode cL_law 2202 = .ok (.daload, 1) := by decide +kernel
theorem dL_law_2203 : decode cL_law 2203 = .ok (.aload 4, 2) := by decide +kernel
theorem dL_law_2205 : decode cL_law 2205 = .ok (.iconst 0, 1) := by decide +kernel
theorem dL_law_2206 : decode cL_law 2206 = .ok (.daload, 1) := by decide +kernel
theorem dL_law_2207 : decode cL_law 2207 = .ok (.dcmp .l, 1) := by decide +kernel
theorem dL_law_2208 : decode cL_law 2208 = .ok (.ifCond .eq 11, 3) := by decide +kernel
theorem dL_law_2211 : decode cL_law 2211 = .ok (.dload 7, 2) := by decide +kernel
theorem dL_law_2213 : decode cL_law 2213 = .ok (.dload 7, 2) := by decide +kernel
theorem dL_law_2215 : decode cL_law 2215 = .ok (.dcmp .l, 1) := by decide +kernel
theorem dL_law_2216 : decode cL_law 2216 = .ok (.ifCond .ne 5, 3) := by decide +kernel
theorem dL_law_2219 : decode cL_law 2219 = .ok (.iconst 0, 1) := by decide +kernel
theorem dL_law_2220 : decode cL_law 2220 = .ok (.ireturn, 1) := by decide +kernel
theorem dL_law_2221 : decode cL_law 2221 = .ok (.goto 1137, 3) := by decide +kernel
theorem dL_law_2224 : decode cL_law 2224 = .ok (.aload_n 1, 1) := by decide +kernel
theorem dL_law_2225 : decode cL_law 2225 = .ok (.invokevirtual 301, 3) := by decide +kernel
theorem dL_law_2228 : decode cL_law 2228 = .ok (.f2d, 1) := by decide +kernel
theorem dL_law_2229 : decode cL_law 2229 = .ok (.dstore 6, 2) := by decide +kernel
theorem dL_law_2231 : decode cL_law 2231 = .ok (.aload_n 2, 1) := by decide +kernel
theorem dL_law_2232 : decode cL_law 2232 = .ok (.invokevirtual 305, 3) := by decide +kernel
theorem dL_law_2235 : decode cL_law 2235 = .ok (.f2d, 1) := by decide +kernel
theorem dL_law_2236 : decode cL_law 2236 = .ok (.dstore 8, 2) := by decide +kernel
theorem dL_law_2238 : decode cL_law 2238 = .ok (.dload 6, 2) := by decide +kernel
theorem dL_law_2240 : decode cL_law 2240 = .ok (.dload 8, 2) := by decide +kernel
theorem dL_law_2242 : decode cL_law 2242 = .ok (.dcmp .l, 1) := by decide +kernel
theorem dL_law_2243 : decode cL_law 2243 = .ok (.ifCond .eq 21, 3) := by decide +kernel
theorem dL_law_2246 : decode cL_law 2246 = .ok (.dload 6, 2) := by decide +kernel
theorem dL_law_2248 : decode cL_law 2248 = .ok (.dload 6, 2) := by decide +kernel
theorem dL_law_2250 : decode cL_law 2250 = .ok (.dcmp .l, 1) := by decide +kernel
theorem dL_law_2251 : decode cL_law 2251 = .ok (.ifCond .eq 11, 3) := by decide +kernel
theorem dL_law_2254 : decode cL_law 2254 = .ok (.dload 8, 2) := by decide +kernel
theorem dL_law_2256 : decode cL_law 2256 = .ok (.dload 8, 2) := by decide +kernel
theorem dL_law_2258 : decode cL_law 2258 = .ok (.dcmp .l, 1) := by decide +kernel
theorem dL_law_2259 : decode cL_law 2259 = .ok (.ifCond .ne 5, 3) := by decide +kernel
theorem dL_law_2262 : decode cL_law 2262 = .ok (.iconst 0, 1) := by decide +kernel
theorem dL_law_2263 : decode cL_law 2263 = .ok (.ireturn, 1) := by decide +kernel
theorem dL_law_2264 : decode cL_law 2264 = .ok (.goto 1094, 3) := by decide +kernel
theorem dL_law_2267 : decode cL_law 2267 = .ok (.aload_n 1, 1) := by decide +kernel
theorem dL_law_2268 : decode cL_law 2268 = .ok (.aload_n 0, 1) := by decide +kernel
theorem dL_law_2269 : decode cL_law 2269 = .ok (.iload 5, 2) := by decide +kernel
theorem dL_law_2271 : decode cL_law 2271 = .ok (.iconst 1, 1) := by decide +kernel
theorem dL_law_2272 : decode cL_law 2272 = .ok (.iadd, 1) := by decide +kernel
theorem dL_law_2273 : decode cL_law 2273 = .ok (.iaload, 1) := by decide +kernel
theorem dL_law_2274 : decode cL_law 2274 = .ok (.aload_n 0, 1) := by decide +kernel
theorem dL_law_2275 : decode cL_law 2275 = .ok (.iload 5, 2) := by decide +kernel
theorem dL_law_2277 : decode cL_law 2277 = .ok (.iconst 2, 1) := by decide +kernel
theorem dL_law_2278 : decode cL_law 2278 = .ok (.iadd, 1) := by decide +kernel
theorem dL_law_2279 : decode cL_law 2279 = .ok (.iaload, 1) := by decide +kernel
theorem dL_law_2280 : decode cL_law 2280 = .ok (.aload_n 3, 1) := by decide +kernel
theorem dL_law_2281 : decode cL_law 2281 = .ok (.invokestatic 306, 3) := by decide +kernel
theorem dL_law_2284 : decode cL_law 2284 = .ok (.istore 6, 2) := by decide +kernel
theorem dL_law_2286 : decode cL_law 2286 = .ok (.aload_n 2, 1) := by decide +kernel
theorem dL_law_2287 : decode cL_law 2287 = .ok (.aload_n 0, 1) := by decide +kernel
theorem dL_law_2288 : decode cL_law 2288 = .ok (.iload 5, 2) := by decide +kernel
theorem dL_law_2290 : decode cL_law 2290 = .ok (.iconst 1, 1) := by decide +kernel
theorem dL_law_2291 : decode cL_law 2291 = .ok (.iadd, 1) := by decide +kernel
theorem dL_law_2292 : decode cL_law 2292 = .ok (.iaload, 1) := by decide +kernel
theorem dL_law_2293 : decode cL_law 2293 = .ok (.aload_n 0, 1) := by decide +kernel
theorem dL_law_2294 : decode cL_law 2294 = .ok (.iload 5, 2) := by decide +kernel
theorem dL_law_2296 : decode cL_law 2296 = .ok (.iconst 2, 1) := by decide +kernel
theorem dL_law_2297 : decode cL_law 2297 = .ok (.iadd, 1) := by decide +kernel
theorem dL_law_2298 : decode cL_law 2298 = .ok (.iaload, 1) := by decide +kernel
theorem dL_law_2299 : decode cL_law 2299 = .ok (.invokevirtual 308, 3) := by decide +kernel
theorem dL_law_2302 : decode cL_law 2302 = .ok (.istore 7, 2) := by decide +kernel
theorem dL_law_2304 : decode cL_law 2304 = .ok (.aload_n 2, 1) := by decide +kernel
theorem dL_law_2305 : decode cL_law 2305 = .ok (.invokevirtual 174, 3) := by decide +kernel
theorem dL_law_2308 : decode cL_law 2308 = .ok (.iload 6, 2) := by decide +kernel
theorem dL_law_2310 : decode cL_law 2310 = .ok (.if_icmp .eq 5, 3) := by decide +kernel
theorem dL_law_2313 : decode cL_law 2313 = .ok (.iconst 0, 1) := by decide +kernel
theorem dL_law_2314 : decode cL_law 2314 = .ok (.ireturn, 1) := by decide +kernel
theorem dL_law_2315 : decode cL_law 2315 = .ok (.iload 6, 2) := by decide +kernel
theorem dL_law_2317 : decode cL_law 2317 = .ok (.ifCond .ne 15, 3) := by decide +kernel
theorem dL_law_2320 : decode cL_law 2320 = .ok (.aload_n 3, 1) := by decide +kernel
theorem dL_law_2321 : decode cL_law 2321 = .ok (.iconst 0, 1) := by decide +kernel
theorem dL_law_2322 : decode cL_law 2322 = .ok (.laload, 1) := by decide +kernel
theorem dL_law_2323 : decode cL_law 2323 = .ok (.iload 7, 2) := by decide +kernel
theorem dL_law_2325 : decode cL_law 2325 = .ok (.i2l, 1) := by decide +kernel
theorem dL_law_2326 : decode cL_law 2326 = .ok (.lcmp, 1) := by decide +kernel
theorem dL_law_2327 : decode cL_law 2327 = .ok (.ifCond .eq 5, 3) := by decide +kernel
theorem dL_law_2330 : decode cL_law 2330 = .ok (.iconst 0, 1) := by decide +kernel
theorem dL_law_2331 : decode cL_law 2331 = .ok (.ireturn, 1) := by decide +kernel
theorem dL_law_2332 : decode cL_law 2332 = .ok (.goto 1026, 3) := by decide +kernel
theorem dL_law_2335 : decode cL_law 2335 = .ok (.aload_n 1, 1) := by decide +kernel
theorem dL_law_2336 : decode cL_law 2336 = .ok (.aload_n 0, 1) := by decide +kernel
theorem dL_law_2337 : decode cL_law 2337 = .ok (.iload 5, 2) := by decide +kernel
theorem dL_law_2339 : decode cL_law 2339 = .ok (.iconst 1, 1) := by decide +kernel
theorem dL_law_2340 : decode cL_law 2340 = .ok (.iadd, 1) := by decide +kernel
theorem dL_law_2341 : decode cL_law 2341 = .ok (.iaload, 1) := by decide +kernel
theorem dL_law_2342 : decode cL_law 2342 = .ok (.aload_n 3, 1) := by decide +kernel
theorem dL_law_2343 : decode cL_law 2343 = .ok (.invokestatic 309, 3) := by decide +kernel
theorem dL_law_2346 : decode cL_law 2346 = .ok (.istore 6, 2) := by decide +kernel
theorem dL_law_2348 : decode cL_law 2348 = .ok (.aload_n 2, 1) := by decide +kernel
theorem dL_law_2349 : decode cL_law 2349 = .ok (.aload_n 0, 1) := by decide +kernel
theorem dL_law_2350 : decode cL_law 2350 = .ok (.iload 5, 2) := by decide +kernel
theorem dL_law_2352 : decode cL_law 2352 = .ok (.iconst 1, 1) := by decide +kernel
theorem dL_law_2353 : decode cL_law 2353 = .ok (.iadd, 1) := by decide +kernel
theorem dL_law_2354 : decode cL_law 2354 = .ok (.iaload, 1) := by decide +kernel
theorem dL_law_2355 : decode cL_law 2355 = .ok (.invokevirtual 311, 3) := by decide +kernel
theorem dL_law_2358 : decode cL_law 2358 = .ok (.istore 7, 2) := by decide +kernel
theorem dL_law_2360 : decode cL_law 2360 = .ok (.aload_n 2, 1) := by decide +kernel
theorem dL_law_2361 : decode cL_law 2361 = .ok (.invokevirtual 174, 3) := by decide +kernel
theorem dL_law_2364 : decode cL_law 2364 = .ok (.iload 6, 2) := by decide +kernel
theorem dL_law_2366 : decode cL_law 2366 = .ok (.if_icmp .eq 5, 3) := by decide +kernel
theorem dL_law_2369 : decode cL_law 2369 = .ok (.iconst 0, 1) := by decide +kernel
theorem dL_law_2370 : decode cL_law 2370 = .ok (.ireturn, 1) := by decide +kernel
theorem dL_law_2371 : decode cL_law 2371 = .ok (.iload 6, 2) := by decide +kernel
theorem dL_law_2373 : decode cL_law 2373 = .ok (.ifCond .ne 15, 3) := by decide +kernel
theorem dL_law_2376 : decode cL_law 2376 = .ok (.aload_n 3, 1) := by decide +kernel
theorem dL_law_2377 : decode cL_law 2377 = .ok (.iconst 0, 1) := by decide +kernel
theorem dL_law_2378 : decode cL_law 2378 = .ok (.laload, 1) := by decide +kernel
theorem dL_law_2379 : decode cL_law 2379 = .ok (.iload 7, 2) := by decide +kernel
theorem dL_law_2381 : decode cL_law 2381 = .ok (.i2l, 1) := by decide +kernel
theorem dL_law_2382 : decode cL_law 2382 = .ok (.lcmp, 1) := by decide +kernel
theorem dL_law_2383 : decode cL_law 2383 = .ok (.ifCond .eq 5, 3) := by decide +kernel
theorem dL_law_2386 : decode cL_law 2386 = .ok (.iconst 0, 1) := by decide +kernel
theorem dL_law_2387 : decode cL_law 2387 = .ok (.ireturn, 1) := by decide +kernel
theorem dL_law_2388 : decode cL_law 2388 = .ok (.goto 970, 3) := by decide +kernel
theorem dL_law_2391 : decode cL_law 2391 = .ok (.aload_n 1, 1) := by decide +kernel
theorem dL_law_2392 : decode cL_law 2392 = .ok (.aload_n 0, 1) := by decide +kernel
theorem dL_law_2393 : decode cL_law 2393 = .ok (.iload 5, 2) := by decide +kernel
theorem dL_law_2395 : decode cL_law 2395 = .ok (.iconst 1, 1) := by decide +kernel
theorem dL_law_2396 : decode cL_law 2396 = .ok (.iadd, 1) := by decide +kernel
theorem dL_law_2397 : decode cL_law 2397 = .ok (.iaload, 1) := by decide +kernel
theorem dL_law_2398 : decode cL_law 2398 = .ok (.aload_n 3, 1) := by decide +kernel
theorem dL_law_2399 : decode cL_law 2399 = .ok (.invokestatic 312, 3) := by decide +kernel
theorem dL_law_2402 : decode cL_law 2402 = .ok (.istore 6, 2) := by decide +kernel
theorem dL_law_2404 : decode cL_law 2404 = .ok (.aload_n 2, 1) := by decide +kernel
theorem dL_law_2405 : decode cL_law 2405 = .ok (.aload_n 0, 1) := by decide +kernel
theorem dL_law_2406 : decode cL_law 2406 = .ok (.iload 5, 2) := by decide +kernel
theorem dL_law_2408 : decode cL_law 2408 = .ok (.iconst 1, 1) := by decide +kernel
theorem dL_law_2409 : decode cL_law 2409 = .ok (.iadd, 1) := by decide +kernel
theorem dL_law_2410 : decode cL_law 2410 = .ok (.iaload, 1) := by decide +kernel
theorem dL_law_2411 : decode cL_law 2411 = .ok (.invokevirtual 314, 3) := by decide +kernel
theorem dL_law_2414 : decode cL_law 2414 = .ok (.istore 7, 2) := by decide +kernel
theorem dL_law_2416 : decode cL_law 2416 = .ok (.aload_n 2, 1) := by decide +kernel
theorem dL_law_2417 : decode cL_law 2417 = .ok (.invokevirtual 174, 3) := by decide +kernel
theorem dL_law_2420 : decode cL_law 2420 = .ok (.iload 6, 2) := by decide +kernel
theorem dL_law_2422 : decode cL_law 2422 = .ok (.if_icmp .eq 5, 3) := by decide +kernel
theorem dL_law_2425 : decode cL_law 2425 = .ok (.iconst 0, 1) := by decide +kernel
theorem dL_law_2426 : decode cL_law 2426 = .ok (.ireturn, 1) := by decide +kernel
theorem dL_law_2427 : decode cL_law 2427 = .ok (.iload 6, 2) := by decide +kernel
theorem dL_law_2429 : decode cL_law 2429 = .ok (.ifCond .ne 15, 3) := by decide +kernel
theorem dL_law_2432 : decode cL_law 2432 = .ok (.aload_n 3, 1) := by decide +kernel
theorem dL_law_2433 : decode cL_law 2433 = .ok (.iconst 0, 1) := by decide +kernel
theorem dL_law_2434 : decode cL_law 2434 = .ok (.laload, 1) := by decide +kernel
theorem dL_law_2435 : decode cL_law 2435 = .ok (.iload 7, 2) := by decide +kernel
theorem dL_law_2437 : decode cL_law 2437 = .ok (.i2l, 1) := by decide +kernel
theorem dL_law_2438 : decode cL_law 2438 = .ok (.lcmp, 1) := by decide +kernel
theorem dL_law_2439 : decode cL_law 2439 = .ok (.ifCond .eq 5, 3) := by decide +kernel
theorem dL_law_2442 : decode cL_law 2442 = .ok (.iconst 0, 1) := by decide +kernel
theorem dL_law_2443 : decode cL_law 2443 = .ok (.ireturn, 1) := by decide +kernel
theorem dL_law_2444 : decode cL_law 2444 = .ok (.goto 914, 3) := by decide +kernel
theorem dL_law_2447 : decode cL_law 2447 = .ok (.aload_n 1, 1) := by decide +kernel
theorem dL_law_2448 : decode cL_law 2448 = .ok (.invokevirtual 315, 3) := by decide +kernel
theorem dL_law_2451 : decode cL_law 2451 = .ok (.aload_n 2, 1) := by decide +kernel
theorem dL_law_2452 : decode cL_law 2452 = .ok (.invokevirtual 318, 3) := by decide +kernel
theorem dL_law_2455 : decode cL_law 2455 = .ok (.if_icmp .eq 903, 3) := by decide +kernel
theorem dL_law_2458 : decode cL_law 2458 = .ok (.iconst 0, 1) := by decide +kernel
theorem dL_law_2459 : decode cL_law 2459 = .ok (.ireturn, 1) := by decide +kernel
theorem dL_law_2460 : decode cL_law 2460 = .ok (.aload_n 1, 1) := by decide +kernel
theorem dL_law_2461 : decode cL_law 2461 = .ok (.invokevirtual 319, 3) := by decide +kernel
theorem dL_law_2464 : decode cL_law 2464 = .ok (.aload_n 2, 1) := by decide +kernel
theorem dL_law_2465 : decode cL_law 2465 = .ok (.invokevirtual 322, 3) := by decide +kernel
theorem dL_law_2468 : decode cL_law 2468 = .ok (.if_icmp .eq 890, 3) := by decide +kernel
theorem dL_law_2471 : decode cL_law 2471 = .ok (.iconst 0, 1) := by decide +kernel
theorem dL_law_2472 : decode cL_law 2472 = .ok (.ireturn, 1) := by decide +kernel
theorem dL_law_2473 : decode cL_law 2473 = .ok (.aload_n 1, 1) := by decide +kernel
theorem dL_law_2474 : decode cL_law 2474 = .ok (.aload_n 0, 1) := by decide +kernel
theorem dL_law_2475 : decode cL_law 2475 = .ok (.iload 5, 2) := by decide +kernel
theorem dL_law_2477 : decode cL_law 2477 = .ok (.iconst 1, 1) := by decide +kernel
theorem dL_law_2478 : decode cL_law 2478 = .ok (.iadd, 1) := by decide +kernel
theorem dL_law_2479 : decode cL_law 2479 = .ok (.iaload, 1) := by decide +kernel
theorem dL_law_2480 : decode cL_law 2480 = .ok (.aload_n 3, 1) := by decide +kernel
theorem dL_law_2481 : decode cL_law 2481 = .ok (.invokestatic 323, 3) := by decide +kernel
theorem dL_law_2484 : decode cL_law 2484 = .ok (.istore 6, 2) := by decide +kernel
theorem dL_law_2486 : decode cL_law 2486 = .ok (.aload_n 2, 1) := by decide +kernel
theorem dL_law_2487 : decode cL_law 2487 = .ok (.aload_n 0, 1) := by decide +kernel
theorem dL_law_2488 : decode cL_law 2488 = .ok (.iload 5, 2) := by decide +kernel
theorem dL_law_2490 : decode cL_law 2490 = .ok (.iconst 1, 1) := by decide +kernel
theorem dL_law_2491 : decode cL_law 2491 = .ok (.iadd, 1) := by decide +kernel
theorem dL_law_2492 : decode cL_law 2492 = .ok (.iaload, 1) := by decide +kernel
theorem dL_law_2493 : decode cL_law 2493 = .ok (.invokevirtual 325, 3) := by decide +kernel
theorem dL_law_2496 : decode cL_law 2496 = .ok (.istore 7, 2) := by decide +kernel
theorem dL_law_2498 : decode cL_law 2498 = .ok (.aload_n 2, 1) := by decide +kernel
theorem dL_law_2499 : decode cL_law 2499 = .ok (.invokevirtual 174, 3) := by decide +kernel
theorem dL_law_2502 : decode cL_law 2502 = .ok (.iload 6, 2) := by decide +kernel
theorem dL_law_2504 : decode cL_law 2504 = .ok (.if_icmp .eq 5, 3) := by decide +kernel
theorem dL_law_2507 : decode cL_law 2507 = .ok (.iconst 0, 1) := by decide +kernel
theorem dL_law_2508 : decode cL_law 2508 = .ok (.ireturn, 1) := by decide +kernel
theorem dL_law_2509 : decode cL_law 2509 = .ok (.iload 6, 2) := by decide +kernel
theorem dL_law_2511 : decode cL_law 2511 = .ok (.ifCond .ne 15, 3) := by decide +kernel
theorem dL_law_2514 : decode cL_law 2514 = .ok (.aload_n 3, 1) := by decide +kernel
theorem dL_law_2515 : decode cL_law 2515 = .ok (.iconst 0, 1) := by decide +kernel
theorem dL_law_2516 : decode cL_law 2516 = .ok (.laload, 1) := by decide +kernel
theorem dL_law_2517 : decode cL_law 2517 = .ok (.iload 7, 2) := by decide +kernel
theorem dL_law_2519 : decode cL_law 2519 = .ok (.i2l, 1) := by decide +kernel
theorem dL_law_2520 : decode cL_law 2520 = .ok (.lcmp, 1) := by decide +kernel
theorem dL_law_2521 : decode cL_law 2521 = .ok (.ifCond .eq 5, 3) := by decide +kernel
theorem dL_law_2524 : decode cL_law 2524 = .ok (.iconst 0, 1) := by decide +kernel
theorem dL_law_2525 : decode cL_law 2525 = .ok (.ireturn, 1) := by decide +kernel
theorem dL_law_2526 : decode cL_law 2526 = .ok (.goto 832, 3) := by decide +kernel
theorem dL_law_2529 : decode cL_law 2529 = .ok (.aload_n 1, 1) := by decide +kernel
theorem dL_law_2530 : decode cL_law 2530 = .ok (.aload_n 0, 1) := by decide +kernel
theorem dL_law_2531 : decode cL_law 2531 = .ok (.iload 5, 2) := by decide +kernel
theorem dL_law_2533 : decode cL_law 2533 = .ok (.iconst 1, 1) := by decide +kernel
theorem dL_law_2534 : decode cL_law 2534 = .ok (.iadd, 1) := by decide +kernel
theorem dL_law_2535 : decode cL_law 2535 = .ok (.iaload, 1) := by decide +kernel
theorem dL_law_2536 : decode cL_law 2536 = .ok (.aload_n 3, 1) := by decide +kernel
theorem dL_law_2537 : decode cL_law 2537 = .ok (.invokestatic 326, 3) := by decide +kernel
theorem dL_law_2540 : decode cL_law 2540 = .ok (.istore 6, 2) := by decide +kernel
theorem dL_law_2542 : decode cL_law 2542 = .ok (.aload_n 2, 1) := by decide +kernel
theorem dL_law_2543 : decode cL_law 2543 = .ok (.aload_n 0, 1) := by decide +kernel
theorem dL_law_2544 : decode cL_law 2544 = .ok (.iload 5, 2) := by decide +kernel
theorem dL_law_2546 : decode cL_law 2546 = .ok (.iconst 1, 1) := by decide +kernel
theorem dL_law_2547 : decode cL_law 2547 = .ok (.iadd, 1) := by decide +kernel
theorem dL_law_2548 : decode cL_law 2548 = .ok (.iaload, 1) := by decide +kernel
theorem dL_law_2549 : decode cL_law 2549 = .ok (.invokevirtual 328, 3) := by decide +kernel
theorem dL_law_2552 : decode cL_law 2552 = .ok (.istore 7, 2) := by decide +kernel
theorem dL_law_2554 : decode cL_law 2554 = .ok (.aload_n 2, 1) := by decide +kernel
theorem dL_law_2555 : decode cL_law 2555 = .ok (.invokevirtual 174, 3) := by decide +kernel
theorem dL_law_2558 : decode cL_law 2558 = .ok (.iload 6, 2) := by decide +kernel
theorem dL_law_2560 : decode cL_law 2560 = .ok (.if_icmp .eq 5, 3) := by decide +kernel
theorem dL_law_2563 : decode cL_law 2563 = .ok (.iconst 0, 1) := by decide +kernel
theorem dL_law_2564 : decode cL_law 2564 = .ok (.ireturn, 1) := by decide +kernel
theorem dL_law_2565 : decode cL_law 2565 = .ok (.iload 6, 2) := by decide +kernel
theorem dL_law_2567 : decode cL_law 2567 = .ok (.ifCond .ne 15, 3) := by decide +kernel
theorem dL_law_2570 : decode cL_law 2570 = .ok (.aload_n 3, 1) := by decide +kernel
theorem dL_law_2571 : decode cL_law 2571 = .ok (.iconst 0, 1) := by decide +kernel
theorem dL_law_2572 : decode cL_law 2572 = .ok (.laload, 1) := by decide +kernel
theorem dL_law_2573 : decode cL_law 2573 = .ok (.iload 7, 2) := by decide +kernel
theorem dL_law_2575 : decode cL_law 2575 = .ok (.i2l, 1) := by decide +kernel
theorem dL_law_2576 : decode cL_law 2576 = .ok (.lcmp, 1) := by decide +kernel
theorem dL_law_2577 : decode cL_law 2577 = .ok (.ifCond .eq 5, 3) := by decide +kernel
theorem dL_law_2580 : decode cL_law 2580 = .ok (.iconst 0, 1) := by decide +kernel
theorem dL_law_2581 : decode cL_law 2581 = .ok (.ireturn, 1) := by decide +kernel
theorem dL_law_2582 : decode cL_law 2582 = .ok (.goto 776, 3) := by decide +kernel
theorem dL_law_2585 : decode cL_law 2585 = .ok (.aload_n 1, 1) := by decide +kernel
theorem dL_law_2586 : decode cL_law 2586 = .ok (.aload_n 0, 1) := by decide +kernel
theorem dL_law_2587 : decode cL_law 2587 = .ok (.iload 5, 2) := by decide +kernel
theorem dL_law_2589 : decode cL_law 2589 = .ok (.iconst 1, 1) := by decide +kernel
theorem dL_law_2590 : decode cL_law 2590 = .ok (.iadd, 1) := by decide +kernel
theorem dL_law_2591 : decode cL_law 2591 = .ok (.iaload, 1) := by decide +kernel
theorem dL_law_2592 : decode cL_law 2592 = .ok (.aload_n 0, 1) := by decide +kernel
theorem dL_law_2593 : decode cL_law 2593 = .ok (.iload 5, 2) := by decide +kernel
theorem dL_law_2595 : decode cL_law 2595 = .ok (.iconst 2, 1) := by decide +kernel
theorem dL_law_2596 : decode cL_law 2596 = .ok (.iadd, 1) := by decide +kernel
theorem dL_law_2597 : decode cL_law 2597 = .ok (.iaload, 1) := by decide +kernel
theorem dL_law_2598 : decode cL_law 2598 = .ok (.aload_n 0, 1) := by decide +kernel
theorem dL_law_2599 : decode cL_law 2599 = .ok (.iload 5, 2) := by decide +kernel
theorem dL_law_2601 : decode cL_law 2601 = .ok (.iconst 3, 1) := by decide +kernel
theorem dL_law_2602 : decode cL_law 2602 = .ok (.iadd, 1) := by decide +kernel
theorem dL_law_2603 : decode cL_law 2603 = .ok (.iaload, 1) := by decide +kernel
theorem dL_law_2604 : decode cL_law 2604 = .ok (.aload_n 3, 1) := by decide +kernel
theorem dL_law_2605 : decode cL_law 2605 = .ok (.invokestatic 329, 3) := by decide +kernel
theorem dL_law_2608 : decode cL_law 2608 = .ok (.istore 6, 2) := by decide +kernel
theorem dL_law_2610 : decode cL_law 2610 = .ok (.aload_n 2, 1) := by decide +kernel
theorem dL_law_2611 : decode cL_law 2611 = .ok (.aload_n 0, 1) := by decide +kernel
theorem dL_law_2612 : decode cL_law 2612 = .ok (.iload 5, 2) := by decide +kernel
theorem dL_law_2614 : decode cL_law 2614 = .ok (.iconst 1, 1) := by decide +kernel
theorem dL_law_2615 : decode cL_law 2615 = .ok (.iadd, 1) := by decide +kernel
theorem dL_law_2616 : decode cL_law 2616 = .ok (.iaload, 1) := by decide +kernel
theorem dL_law_2617 : decode cL_law 2617 = .ok (.aload_n 0, 1) := by decide +kernel
theorem dL_law_2618 : decode cL_law 2618 = .ok (.iload 5, 2) := by decide +kernel
theorem dL_law_2620 : decode cL_law 2620 = .ok (.iconst 2, 1) := by decide +kernel
theorem dL_law_2621 : decode cL_law 2621 = .ok (.iadd, 1) := by decide +kernel
theorem dL_law_2622 : decode cL_law 2622 = .ok (.iaload, 1) := by decide +kernel
theorem dL_law_2623 : decode cL_law 2623 = .ok (.aload_n 0, 1) := by decide +kernel
theorem dL_law_2624 : decode cL_law 2624 = .ok (.iload 5, 2) := by decide +kernel
theorem dL_law_2626 : decode cL_law 2626 = .ok (.iconst 3, 1) := by decide +kernel
theorem dL_law_2627 : decode cL_law 2627 = .ok (.iadd, 1) := by decide +kernel
theorem dL_law_2628 : decode cL_law 2628 = .ok (.iaload, 1) := by decide +kernel
theorem dL_law_2629 : decode cL_law 2629 = .ok (.invokevirtual 332, 3) := by decide +kernel
theorem dL_law_2632 : decode cL_law 2632 = .ok (.istore 7, 2) := by decide +kernel
theorem dL_law_2634 : decode cL_law 2634 = .ok (.aload_n 2, 1) := by decide +kernel
theorem dL_law_2635 : decode cL_law 2635 = .ok (.invokevirtual 174, 3) := by decide +kernel
theorem dL_law_2638 : decode cL_law 2638 = .ok (.iload 6, 2) := by decide +kernel
theorem dL_law_2640 : decode cL_law 2640 = .ok (.if_icmp .eq 5, 3) := by decide +kernel
theorem dL_law_2643 : decode cL_law 2643 = .ok (.iconst 0, 1) := by decide +kernel
theorem dL_law_2644 : decode cL_law 2644 = .ok (.ireturn, 1) := by decide +kernel
theorem dL_law_2645 : decode cL_law 2645 = .ok (.iload 6, 2) := by decide +kernel
theorem dL_law_2647 : decode cL_law 2647 = .ok (.ifCond .ne 15, 3) := by decide +kernel
theorem dL_law_2650 : decode cL_law 2650 = .ok (.aload_n 3, 1) := by decide +kernel
theorem dL_law_2651 : decode cL_law 2651 = .ok (.iconst 0, 1) := by decide +kernel
theorem dL_law_2652 : decode cL_law 2652 = .ok (.laload, 1) := by decide +kernel
theorem dL_law_2653 : decode cL_law 2653 = .ok (.iload 7, 2) := by decide +kernel
theorem dL_law_2655 : decode cL_law 2655 = .ok (.i2l, 1) := by decide +kernel
theorem dL_law_2656 : decode cL_law 2656 = .ok (.lcmp, 1) := by decide +kernel
theorem dL_law_2657 : decode cL_law 2657 = .ok (.ifCond .eq 5, 3) := by decide +kernel
theorem dL_law_2660 : decode cL_law 2660 = .ok (.iconst 0, 1) := by decide +kernel
theorem dL_law_2661 : decode cL_law 2661 = .ok (.ireturn, 1) := by decide +kernel
theorem dL_law_2662 : decode cL_law 2662 = .ok (.goto 696, 3) := by decide +kernel
theorem dL_law_2665 : decode cL_law 2665 = .ok (.aload_n 1, 1) := by decide +kernel
theorem dL_law_2666 : decode cL_law 2666 = .ok (.aload_n 0, 1) := by decide +kernel
theorem dL_law_2667 : decode cL_law 2667 = .ok (.iload 5, 2) := by decide +kernel
theorem dL_law_2669 : decode cL_law 2669 = .ok (.iconst 1, 1) := by decide +kernel
theorem dL_law_2670 : decode cL_law 2670 = .ok (.iadd, 1) := by decide +kernel
theorem dL_law_2671 : decode cL_law 2671 = .ok (.iaload, 1) := by decide +kernel
theorem dL_law_2672 : decode cL_law 2672 = .ok (.aload_n 0, 1) := by decide +kernel
theorem dL_law_2673 : decode cL_law 2673 = .ok (.iload 5, 2) := by decide +kernel
theorem dL_law_2675 : decode cL_law 2675 = .ok (.iconst 2, 1) := by decide +kernel
theorem dL_law_2676 : decode cL_law 2676 = .ok (.iadd, 1) := by decide +kernel
theorem dL_law_2677 : decode cL_law 2677 = .ok (.iaload, 1) := by decide +kernel
theorem dL_law_2678 : decode cL_law 2678 = .ok (.ifCond .eq 7, 3) := by decide +kernel
theorem dL_law_2681 : decode cL_law 2681 = .ok (.iconst 1, 1) := by decide +kernel
theorem dL_law_2682 : decode cL_law 2682 = .ok (.goto 4, 3) := by decide +kernel
theorem dL_law_2685 : decode cL_law 2685 = .ok (.iconst 0, 1) := by decide +kernel
theorem dL_law_2686 : decode cL_law 2686 = .ok (.aload_n 3, 1) := by decide +kernel
theorem dL_law_2687 : decode cL_law 2687 = .ok (.invokestatic 333, 3) := by decide +kernel
theorem dL_law_2690 : decode cL_law 2690 = .ok (.istore 6, 2) := by decide +kernel
theorem dL_law_2692 : decode cL_law 2692 = .ok (.aload_n 2, 1) := by decide +kernel
theorem dL_law_2693 : decode cL_law 2693 = .ok (.aload_n 0, 1) := by decide +kernel
theorem dL_law_2694 : decode cL_law 2694 = .ok (.iload 5, 2) := by decide +kernel
theorem dL_law_2696 : decode cL_law 2696 = .ok (.iconst 1, 1) := by decide +kernel
theorem dL_law_2697 : decode cL_law 2697 = .ok (.iadd, 1) := by decide +kernel
theorem dL_law_2698 : decode cL_law 2698 = .ok (.iaload, 1) := by decide +kernel
theorem dL_law_2699 : decode cL_law 2699 = .ok (.aload_n 0, 1) := by decide +kernel
theorem dL_law_2700 : decode cL_law 2700 = .ok (.iload 5, 2) := by decide +kernel
theorem dL_law_2702 : decode cL_law 2702 = .ok (.iconst 2, 1) := by decide +kernel
theorem dL_law_2703 : decode cL_law 2703 = .ok (.iadd, 1) := by decide +kernel
theorem dL_law_2704 : decode cL_law 2704 = .ok (.iaload, 1) := by decide +kernel
theorem dL_law_2705 : decode cL_law 2705 = .ok (.ifCond .eq 7, 3) := by decide +kernel
theorem dL_law_2708 : decode cL_law 2708 = .ok (.iconst 1, 1) := by decide +kernel
theorem dL_law_2709 : decode cL_law 2709 = .ok (.goto 4, 3) := by decide +kernel
theorem dL_law_2712 : decode cL_law 2712 = .ok (.iconst 0, 1) := by decide +kernel
theorem dL_law_2713 : decode cL_law 2713 = .ok (.invokevirtual 336, 3) := by decide +kernel
theorem dL_law_2716 : decode cL_law 2716 = .ok (.istore 7, 2) := by decide +kernel
theorem dL_law_2718 : decode cL_law 2718 = .ok (.aload_n 2, 1) := by decide +kernel
theorem dL_law_2719 : decode cL_law 2719 = .ok (.invokevirtual 174, 3) := by decide +kernel
theorem dL_law_2722 : decode cL_law 2722 = .ok (.iload 6, 2) := by decide +kernel
theorem dL_law_2724 : decode cL_law 2724 = .ok (.if_icmp .eq 5, 3) := by decide +kernel
theorem dL_law_2727 : decode cL_law 2727 = .ok (.iconst 0, 1) := by decide +kernel
theorem dL_law_2728 : decode cL_law 2728 = .ok (.ireturn, 1) := by decide +kernel
theorem dL_law_2729 : decode cL_law 2729 = .ok (.iload 6, 2) := by decide +kernel
theorem dL_law_2731 : decode cL_law 2731 = .ok (.ifCond .ne 15, 3) := by decide +kernel
theorem dL_law_2734 : decode cL_law 2734 = .ok (.aload_n 3, 1) := by decide +kernel
theorem dL_law_2735 : decode cL_law 2735 = .ok (.iconst 0, 1) := by decide +kernel
theorem dL_law_2736 : decode cL_law 2736 = .ok (.laload, 1) := by decide +kernel
theorem dL_law_2737 : decode cL_law 2737 = .ok (.iload 7, 2) := by decide +kernel
theorem dL_law_2739 : decode cL_law 2739 = .ok (.i2l, 1) := by decide +kernel
theorem dL_law_2740 : decode cL_law 2740 = .ok (.lcmp, 1) := by decide +kernel
theorem dL_law_2741 : decode cL_law 2741 = .ok (.ifCond .eq 5, 3) := by decide +kernel
theorem dL_law_2744 : decode cL_law 2744 = .ok (.iconst 0, 1) := by decide +kernel
theorem dL_law_2745 : decode cL_law 2745 = .ok (.ireturn, 1) := by decide +kernel
theorem dL_law_2746 : decode cL_law 2746 = .ok (.goto 612, 3) := by decide +kernel
theorem dL_law_2749 : decode cL_law 2749 = .ok (.aload_n 1, 1) := by decide +kernel
theorem dL_law_2750 : decode cL_law 2750 = .ok (.aload_n 0, 1) := by decide +kernel
theorem dL_law_2751 : decode cL_law 2751 = .ok (.iload 5, 2) := by decide +kernel
theorem dL_law_2753 : decode cL_law 2753 = .ok (.iconst 1, 1) := by decide +kernel
theorem dL_law_2754 : decode cL_law 2754 = .ok (.iadd, 1) := by decide +kernel
theorem dL_law_2755 : decode cL_law 2755 = .ok (.iaload, 1) := by decide +kernel
theorem dL_law_2756 : decode cL_law 2756 = .ok (.aload_n 0, 1) := by decide +kernel
theorem dL_law_2757 : decode cL_law 2757 = .ok (.iload 5, 2) := by decide +kernel
theorem dL_law_2759 : decode cL_law 2759 = .ok (.iconst 2, 1) := by decide +kernel
theorem dL_law_2760 : decode cL_law 2760 = .ok (.iadd, 1) := by decide +kernel
theorem dL_law_2761 : decode cL_law 2761 = .ok (.iaload, 1) := by decide +kernel
theorem dL_law_2762 : decode cL_law 2762 = .ok (.aload_n 3, 1) := by decide +kernel
theorem dL_law_2763 : decode cL_law 2763 = .ok (.invokestatic 337, 3) := by decide +kernel
theorem dL_law_2766 : decode cL_law 2766 = .ok (.istore 6, 2) := by decide +kernel
theorem dL_law_2768 : decode cL_law 2768 = .ok (.aload_n 2, 1) := by decide +kernel
theorem dL_law_2769 : decode cL_law 2769 = .ok (.aload_n 0, 1) := by decide +kernel
theorem dL_law_2770 : decode cL_law 2770 = .ok (.iload 5, 2) := by decide +kernel
theorem dL_law_2772 : decode cL_law 2772 = .ok (.iconst 1, 1) := by decide +kernel
theorem dL_law_2773 : decode cL_law 2773 = .ok (.iadd, 1) := by decide +kernel
theorem dL_law_2774 : decode cL_law 2774 = .ok (.iaload, 1) := by decide +kernel
theorem dL_law_2775 : decode cL_law 2775 = .ok (.aload_n 0, 1) := by decide +kernel
theorem dL_law_2776 : decode cL_law 2776 = .ok (.iload 5, 2) := by decide +kernel
theorem dL_law_2778 : decode cL_law 2778 = .ok (.iconst 2, 1) := by decide +kernel
theorem dL_law_2779 : decode cL_law 2779 = .ok (.iadd, 1) := by decide +kernel
theorem dL_law_2780 : decode cL_law 2780 = .ok (.iaload, 1) := by decide +kernel
theorem dL_law_2781 : decode cL_law 2781 = .ok (.invokevirtual 339, 3) := by decide +kernel
theorem dL_law_2784 : decode cL_law 2784 = .ok (.istore 7, 2) := by decide +kernel
theorem dL_law_2786 : decode cL_law 2786 = .ok (.aload_n 2, 1) := by decide +kernel
theorem dL_law_2787 : decode cL_law 2787 = .ok (.invokevirtual 174, 3) := by decide +kernel
theorem dL_law_2790 : decode cL_law 2790 = .ok (.iload 6, 2) := by decide +kernel
theorem dL_law_2792 : decode cL_law 2792 = .ok (.if_icmp .eq 5, 3) := by decide +kernel
theorem dL_law_2795 : decode cL_law 2795 = .ok (.iconst 0, 1) := by decide +kernel
theorem dL_law_2796 : decode cL_law 2796 = .ok (.ireturn, 1) := by decide +kernel
theorem dL_law_2797 : decode cL_law 2797 = .ok (.iload 6, 2) := by decide +kernel
theorem dL_law_2799 : decode cL_law 2799 = .ok (.ifCond .ne 15, 3) := by decide +kernel
theorem dL_law_2802 : decode cL_law 2802 = .ok (.aload_n 3, 1) := by decide +kernel
theorem dL_law_2803 : decode cL_law 2803 = .ok (.iconst 0, 1) := by decide +kernel
theorem dL_law_2804 : decode cL_law 2804 = .ok (.laload, 1) := by decide +kernel
theorem dL_law_2805 : decode cL_law 2805 = .ok (.iload 7, 2) := by decide +kernel
theorem dL_law_2807 : decode cL_law 2807 = .ok (.i2l, 1) := by decide +kernel
theorem dL_law_2808 : decode cL_law 2808 = .ok (.lcmp, 1) := by decide +kernel
theorem dL_law_2809 : decode cL_law 2809 = .ok (.ifCond .eq 5, 3) := by decide +kernel
theorem dL_law_2812 : decode cL_law 2812 = .ok (.iconst 0, 1) := by decide +kernel
theorem dL_law_2813 : decode cL_law 2813 = .ok (.ireturn, 1) := by decide +kernel
theorem dL_law_2814 : decode cL_law 2814 = .ok (.goto 544, 3) := by decide +kernel
theorem dL_law_2817 : decode cL_law 2817 = .ok (.aload_n 1, 1) := by decide +kernel
theorem dL_law_2818 : decode cL_law 2818 = .ok (.aload_n 0, 1) := by decide +kernel
theorem dL_law_2819 : decode cL_law 2819 = .ok (.iload 5, 2) := by decide +kernel
theorem dL_law_2821 : decode cL_law 2821 = .ok (.iconst 1, 1) := by decide +kernel
theorem dL_law_2822 : decode cL_law 2822 = .ok (.iadd, 1) := by decide +kernel
theorem dL_law_2823 : decode cL_law 2823 = .ok (.iaload, 1) := by decide +kernel
theorem dL_law_2824 : decode cL_law 2824 = .ok (.aload_n 0, 1) := by decide +kernel
theorem dL_law_2825 : decode cL_law 2825 = .ok (.iload 5, 2) := by decide +kernel
theorem dL_law_2827 : decode cL_law 2827 = .ok (.iconst 2, 1) := by decide +kernel
theorem dL_law_2828 : decode cL_law 2828 = .ok (.iadd, 1) := by decide +kernel
theorem dL_law_2829 : decode cL_law 2829 = .ok (.iaload, 1) := by decide +kernel
theorem dL_law_2830 : decode cL_law 2830 = .ok (.aload_n 3, 1) := by decide +kernel
theorem dL_law_2831 : decode cL_law 2831 = .ok (.invokestatic 340, 3) := by decide +kernel
theorem dL_law_2834 : decode cL_law 2834 = .ok (.istore 6, 2) := by decide +kernel
theorem dL_law_2836 : decode cL_law 2836 = .ok (.aload_n 2, 1) := by decide +kernel
theorem dL_law_2837 : decode cL_law 2837 = .ok (.aload_n 0, 1) := by decide +kernel
theorem dL_law_2838 : decode cL_law 2838 = .ok (.iload 5, 2) := by decide +kernel
theorem dL_law_2840 : decode cL_law 2840 = .ok (.iconst 1, 1) := by decide +kernel
theorem dL_law_2841 : decode cL_law 2841 = .ok (.iadd, 1) := by decide +kernel
theorem dL_law_2842 : decode cL_law 2842 = .ok (.iaload, 1) := by decide +kernel
theorem dL_law_2843 : decode cL_law 2843 = .ok (.aload_n 0, 1) := by decide +kernel
theorem dL_law_2844 : decode cL_law 2844 = .ok (.iload 5, 2) := by decide +kernel
theorem dL_law_2846 : decode cL_law 2846 = .ok (.iconst 2, 1) := by decide +kernel
theorem dL_law_2847 : decode cL_law 2847 = .ok (.iadd, 1) := by decide +kernel
theorem dL_law_2848 : decode cL_law 2848 = .ok (.iaload, 1) := by decide +kernel
theorem dL_law_2849 : decode cL_law 2849 = .ok (.invokevirtual 342, 3) := by decide +kernel
theorem dL_law_2852 : decode cL_law 2852 = .ok (.istore 7, 2) := by decide +kernel
theorem dL_law_2854 : decode cL_law 2854 = .ok (.aload_n 2, 1) := by decide +kernel
theorem dL_law_2855 : decode cL_law 2855 = .ok (.invokevirtual 174, 3) := by decide +kernel
theorem dL_law_2858 : decode cL_law 2858 = .ok (.iload 6, 2) := by decide +kernel
theorem dL_law_2860 : decode cL_law 2860 = .ok (.if_icmp .eq 5, 3) := by decide +kernel
theorem dL_law_2863 : decode cL_law 2863 = .ok (.iconst 0, 1) := by decide +kernel
theorem dL_law_2864 : decode cL_law 2864 = .ok (.ireturn, 1) := by decide +kernel
theorem dL_law_2865 : decode cL_law 2865 = .ok (.iload 6, 2) := by decide +kernel
theorem dL_law_2867 : decode cL_law 2867 = .ok (.ifCond .ne 15, 3) := by decide +kernel
theorem dL_law_2870 : decode cL_law 2870 = .ok (.aload_n 3, 1) := by decide +kernel
theorem dL_law_2871 : decode cL_law 2871 = .ok (.iconst 0, 1) := by decide +kernel
theorem dL_law_2872 : decode cL_law 2872 = .ok (.laload, 1) := by decide +kernel
theorem dL_law_2873 : decode cL_law 2873 = .ok (.iload 7, 2) := by decide +kernel
theorem dL_law_2875 : decode cL_law 2875 = .ok (.i2l, 1) := by decide +kernel
theorem dL_law_2876 : decode cL_law 2876 = .ok (.lcmp, 1) := by decide +kernel
theorem dL_law_2877 : decode cL_law 2877 = .ok (.ifCond .eq 5, 3) := by decide +kernel
theorem dL_law_2880 : decode cL_law 2880 = .ok (.iconst 0, 1) := by decide +kernel
theorem dL_law_2881 : decode cL_law 2881 = .ok (.ireturn, 1) := by decide +kernel
theorem dL_law_2882 : decode cL_law 2882 = .ok (.goto 476, 3) := by decide +kernel
theorem dL_law_2885 : decode cL_law 2885 = .ok (.aload_n 1, 1) := by decide +kernel
theorem dL_law_2886 : decode cL_law 2886 = .ok (.aload_n 0, 1) := by decide +kernel
theorem dL_law_2887 : decode cL_law 2887 = .ok (.iload 5, 2) := by decide +kernel
theorem dL_law_2889 : decode cL_law 2889 = .ok (.iconst 1, 1) := by decide +kernel
theorem dL_law_2890 : decode cL_law 2890 = .ok (.iadd, 1) := by decide +kernel
theorem dL_law_2891 : decode cL_law 2891 = .ok (.iaload, 1) := by decide +kernel
theorem dL_law_2892 : decode cL_law 2892 = .ok (.aload_n 0, 1) := by decide +kernel
theorem dL_law_2893 : decode cL_law 2893 = .ok (.iload 5, 2) := by decide +kernel
theorem dL_law_2895 : decode cL_law 2895 = .ok (.iconst 2, 1) := by decide +kernel
theorem dL_law_2896 : decode cL_law 2896 = .ok (.iadd, 1) := by decide +kernel
theorem dL_law_2897 : decode cL_law 2897 = .ok (.iaload, 1) := by decide +kernel
theorem dL_law_2898 : decode cL_law 2898 = .ok (.aload_n 3, 1) := by decide +kernel
theorem dL_law_2899 : decode cL_law 2899 = .ok (.invokestatic 343, 3) := by decide +kernel
theorem dL_law_2902 : decode cL_law 2902 = .ok (.istore 6, 2) := by decide +kernel
theorem dL_law_2904 : decode cL_law 2904 = .ok (.aload_n 2, 1) := by decide +kernel
theorem dL_law_2905 : decode cL_law 2905 = .ok (.aload_n 0, 1) := by decide +kernel
theorem dL_law_2906 : decode cL_law 2906 = .ok (.iload 5, 2) := by decide +kernel
theorem dL_law_2908 : decode cL_law 2908 = .ok (.iconst 1, 1) := by decide +kernel
theorem dL_law_2909 : decode cL_law 2909 = .ok (.iadd, 1) := by decide +kernel
theorem dL_law_2910 : decode cL_law 2910 = .ok (.iaload, 1) := by decide +kernel
theorem dL_law_2911 : decode cL_law 2911 = .ok (.aload_n 0, 1) := by decide +kernel
theorem dL_law_2912 : decode cL_law 2912 = .ok (.iload 5, 2) := by decide +kernel
theorem dL_law_2914 : decode cL_law 2914 = .ok (.iconst 2, 1) := by decide +kernel
theorem dL_law_2915 : decode cL_law 2915 = .ok (.iadd, 1) := by decide +kernel
theorem dL_law_2916 : decode cL_law 2916 = .ok (.iaload, 1) := by decide +kernel
theorem dL_law_2917 : decode cL_law 2917 = .ok (.invokevirtual 345, 3) := by decide +kernel
theorem dL_law_2920 : decode cL_law 2920 = .ok (.istore 7, 2) := by decide +kernel
theorem dL_law_2922 : decode cL_law 2922 = .ok (.aload_n 2, 1) := by decide +kernel
theorem dL_law_2923 : decode cL_law 2923 = .ok (.invokevirtual 174, 3) := by decide +kernel
theorem dL_law_2926 : decode cL_law 2926 = .ok (.iload 6, 2) := by decide +kernel
theorem dL_law_2928 : decode cL_law 2928 = .ok (.if_icmp .eq 5, 3) := by decide +kernel
theorem dL_law_2931 : decode cL_law 2931 = .ok (.iconst 0, 1) := by decide +kernel
theorem dL_law_2932 : decode cL_law 2932 = .ok (.ireturn, 1) := by decide +kernel
theorem dL_law_2933 : decode cL_law 2933 = .ok (.iload 6, 2) := by decide +kernel
theorem dL_law_2935 : decode cL_law 2935 = .ok (.ifCond .ne 15, 3) := by decide +kernel
theorem dL_law_2938 : decode cL_law 2938 = .ok (.aload_n 3, 1) := by decide +kernel
theorem dL_law_2939 : decode cL_law 2939 = .ok (.iconst 0, 1) := by decide +kernel
theorem dL_law_2940 : decode cL_law 2940 = .ok (.laload, 1) := by decide +kernel
theorem dL_law_2941 : decode cL_law 2941 = .ok (.iload 7, 2) := by decide +kernel
theorem dL_law_2943 : decode cL_law 2943 = .ok (.i2l, 1) := by decide +kernel
theorem dL_law_2944 : decode cL_law 2944 = .ok (.lcmp, 1) := by decide +kernel
theorem dL_law_2945 : decode cL_law 2945 = .ok (.ifCond .eq 5, 3) := by decide +kernel
theorem dL_law_2948 : decode cL_law 2948 = .ok (.iconst 0, 1) := by decide +kernel
theorem dL_law_2949 : decode cL_law 2949 = .ok (.ireturn, 1) := by decide +kernel
theorem dL_law_2950 : decode cL_law 2950 = .ok (.goto 408, 3) := by decide +kernel
theorem dL_law_2953 : decode cL_law 2953 = .ok (.aload_n 1, 1) := by decide +kernel
theorem dL_law_2954 : decode cL_law 2954 = .ok (.aload_n 0, 1) := by decide +kernel
theorem dL_law_2955 : decode cL_law 2955 = .ok (.iload 5, 2) := by decide +kernel
theorem dL_law_2957 : decode cL_law 2957 = .ok (.iconst 1, 1) := by decide +kernel
theorem dL_law_2958 : decode cL_law 2958 = .ok (.iadd, 1) := by decide +kernel
theorem dL_law_2959 : decode cL_law 2959 = .ok (.iaload, 1) := by decide +kernel
theorem dL_law_2960 : decode cL_law 2960 = .ok (.aload_n 3, 1) := by decide +kernel
theorem dL_law_2961 : decode cL_law 2961 = .ok (.invokestatic 346, 3) := by decide +kernel
theorem dL_law_2964 : decode cL_law 2964 = .ok (.istore 6, 2) := by decide +kernel
theorem dL_law_2966 : decode cL_law 2966 = .ok (.aload_n 2, 1) := by decide +kernel
theorem dL_law_2967 : decode cL_law 2967 = .ok (.aload_n 0, 1) := by decide +kernel
theorem dL_law_2968 : decode cL_law 2968 = .ok (.iload 5, 2) := by decide +kernel
theorem dL_law_2970 : decode cL_law 2970 = .ok (.iconst 1, 1) := by decide +kernel
theorem dL_law_2971 : decode cL_law 2971 = .ok (.iadd, 1) := by decide +kernel
theorem dL_law_2972 : decode cL_law 2972 = .ok (.iaload, 1) := by decide +kernel
theorem dL_law_2973 : decode cL_law 2973 = .ok (.invokevirtual 348, 3) := by decide +kernel
theorem dL_law_2976 : decode cL_law 2976 = .ok (.istore 7, 2) := by decide +kernel
theorem dL_law_2978 : decode cL_law 2978 = .ok (.aload_n 2, 1) := by decide +kernel
theorem dL_law_2979 : decode cL_law 2979 = .ok (.invokevirtual 174, 3) := by decide +kernel
theorem dL_law_2982 : decode cL_law 2982 = .ok (.iload 6, 2) := by decide +kernel
theorem dL_law_2984 : decode cL_law 2984 = .ok (.if_icmp .eq 5, 3) := by decide +kernel
theorem dL_law_2987 : decode cL_law 2987 = .ok (.iconst 0, 1) := by decide +kernel
theorem dL_law_2988 : decode cL_law 2988 = .ok (.ireturn, 1) := by decide +kernel
theorem dL_law_2989 : decode cL_law 2989 = .ok (.iload 6, 2) := by decide +kernel
theorem dL_law_2991 : decode cL_law 2991 = .ok (.ifCond .ne 15, 3) := by decide +kernel
theorem dL_law_2994 : decode cL_law 2994 = .ok (.aload_n 3, 1) := by decide +kernel
theorem dL_law_2995 : decode cL_law 2995 = .ok (.iconst 0, 1) := by decide +kernel
theorem dL_law_2996 : decode cL_law 2996 = .ok (.laload, 1) := by decide +kernel
theorem dL_law_2997 : decode cL_law 2997 = .ok (.iload 7, 2) := by decide +kernel
theorem dL_law_2999 : decode cL_law 2999 = .ok (.i2l, 1) := by decide +kernel
theorem dL_law_3000 : decode cL_law 3000 = .ok (.lcmp, 1) := by decide +kernel
theorem dL_law_3001 : decode cL_law 3001 = .ok (.ifCond .eq 5, 3) := by decide +kernel
theorem dL_law_3004 : decode cL_law 3004 = .ok (.iconst 0, 1) := by decide +kernel
theorem dL_law_3005 : decode cL_law 3005 = .ok (.ireturn, 1) := by decide +kernel
theorem dL_law_3006 : decode cL_law 3006 = .ok (.goto 352, 3) := by decide +kernel
theorem dL_law_3009 : decode cL_law 3009 = .ok (.aload_n 1, 1) := by decide +kernel
theorem dL_law_3010 : decode cL_law 3010 = .ok (.invokevirtual 349, 3) := by decide +kernel
theorem dL_law_3013 : decode cL_law 3013 = .ok (.aload_n 2, 1) := by decide +kernel
theorem dL_law_3014 : decode cL_law 3014 = .ok (.invokevirtual 352, 3) := by decide +kernel
theorem dL_law_3017 : decode cL_law 3017 = .ok (.if_icmp .eq 341, 3) := by decide +kernel
theorem dL_law_3020 : decode cL_law 3020 = .ok (.iconst 0, 1) := by decide +kernel
theorem dL_law_3021 : decode cL_law 3021 = .ok (.ireturn, 1) := by decide +kernel
theorem dL_law_3022 : decode cL_law 3022 = .ok (.aload_n 1, 1) := by decide +kernel
theorem dL_law_3023 : decode cL_law 3023 = .ok (.aload_n 0, 1) := by decide +kernel
theorem dL_law_3024 : decode cL_law 3024 = .ok (.iload 5, 2) := by decide +kernel
theorem dL_law_3026 : decode cL_law 3026 = .ok (.iconst 1, 1) := by decide +kernel
theorem dL_law_3027 : decode cL_law 3027 = .ok (.iadd, 1) := by decide +kernel
theorem dL_law_3028 : decode cL_law 3028 = .ok (.iaload, 1) := by decide +kernel
theorem dL_law_3029 : decode cL_law 3029 = .ok (.aload_n 3, 1) := by decide +kernel
theorem dL_law_3030 : decode cL_law 3030 = .ok (.invokestatic 353, 3) := by decide +kernel
theorem dL_law_3033 : decode cL_law 3033 = .ok (.istore 6, 2) := by decide +kernel
theorem dL_law_3035 : decode cL_law 3035 = .ok (.aload_n 2, 1) := by decide +kernel
theorem dL_law_3036 : decode cL_law 3036 = .ok (.aload_n 0, 1) := by decide +kernel
theorem dL_law_3037 : decode cL_law 3037 = .ok (.iload 5, 2) := by decide +kernel
theorem dL_law_3039 : decode cL_law 3039 = .ok (.iconst 1, 1) := by decide +kernel
theorem dL_law_3040 : decode cL_law 3040 = .ok (.iadd, 1) := by decide +kernel
theorem dL_law_3041 : decode cL_law 3041 = .ok (.iaload, 1) := by decide +kernel
theorem dL_law_3042 : decode cL_law 3042 = .ok (.invokevirtual 355, 3) := by decide +kernel
theorem dL_law_3045 : decode cL_law 3045 = .ok (.istore 7, 2) := by decide +kernel
theorem dL_law_3047 : decode cL_law 3047 = .ok (.aload_n 2, 1) := by decide +kernel
theorem dL_law_3048 : decode cL_law 3048 = .ok (.invokevirtual 174, 3) := by decide +kernel
theorem dL_law_3051 : decode cL_law 3051 = .ok (.iload 6, 2) := by decide +kernel
theorem dL_law_3053 : decode cL_law 3053 = .ok (.if_icmp .eq 5, 3) := by decide +kernel
theorem dL_law_3056 : decode cL_law 3056 = .ok (.iconst 0, 1) := by decide +kernel
theorem dL_law_3057 : decode cL_law 3057 = .ok (.ireturn, 1) := by decide +kernel
theorem dL_law_3058 : decode cL_law 3058 = .ok (.iload 6, 2) := by decide +kernel
theorem dL_law_3060 : decode cL_law 3060 = .ok (.ifCond .ne 15, 3) := by decide +kernel
theorem dL_law_3063 : decode cL_law 3063 = .ok (.aload_n 3, 1) := by decide +kernel
theorem dL_law_3064 : decode cL_law 3064 = .ok (.iconst 0, 1) := by decide +kernel
theorem dL_law_3065 : decode cL_law 3065 = .ok (.laload, 1) := by decide +kernel
theorem dL_law_3066 : decode cL_law 3066 = .ok (.iload 7, 2) := by decide +kernel
theorem dL_law_3068 : decode cL_law 3068 = .ok (.i2l, 1) := by decide +kernel
theorem dL_law_3069 : decode cL_law 3069 = .ok (.lcmp, 1) := by decide +kernel
theorem dL_law_3070 : decode cL_law 3070 = .ok (.ifCond .eq 5, 3) := by decide +kernel
theorem dL_law_3073 : decode cL_law 3073 = .ok (.iconst 0, 1) := by decide +kernel
theorem dL_law_3074 : decode cL_law 3074 = .ok (.ireturn, 1) := by decide +kernel
theorem dL_law_3075 : decode cL_law 3075 = .ok (.goto 283, 3) := by decide +kernel
theorem dL_law_3078 : decode cL_law 3078 = .ok (.aload_n 1, 1) := by decide +kernel
theorem dL_law_3079 : decode cL_law 3079 = .ok (.aload_n 0, 1) := by decide +kernel
theorem dL_law_3080 : decode cL_law 3080 = .ok (.iload 5, 2) := by decide +kernel
theorem dL_law_3082 : decode cL_law 3082 = .ok (.iconst 1, 1) := by decide +kernel
theorem dL_law_3083 : decode cL_law 3083 = .ok (.iadd, 1) := by decide +kernel
theorem dL_law_3084 : decode cL_law 3084 = .ok (.iaload, 1) := by decide +kernel
theorem dL_law_3085 : decode cL_law 3085 = .ok (.aload_n 3, 1) := by decide +kernel
theorem dL_law_3086 : decode cL_law 3086 = .ok (.invokestatic 356, 3) := by decide +kernel
theorem dL_law_3089 : decode cL_law 3089 = .ok (.istore 6, 2) := by decide +kernel
theorem dL_law_3091 : decode cL_law 3091 = .ok (.aload_n 2, 1) := by decide +kernel
theorem dL_law_3092 : decode cL_law 3092 = .ok (.aload_n 0, 1) := by decide +kernel
theorem dL_law_3093 : decode cL_law 3093 = .ok (.iload 5, 2) := by decide +kernel
theorem dL_law_3095 : decode cL_law 3095 = .ok (.iconst 1, 1) := by decide +kernel
theorem dL_law_3096 : decode cL_law 3096 = .ok (.iadd, 1) := by decide +kernel
theorem dL_law_3097 : decode cL_law 3097 = .ok (.iaload, 1) := by decide +kernel
theorem dL_law_3098 : decode cL_law 3098 = .ok (.invokevirtual 358, 3) := by decide +kernel
theorem dL_law_3101 : decode cL_law 3101 = .ok (.istore 7, 2) := by decide +kernel
theorem dL_law_3103 : decode cL_law 3103 = .ok (.aload_n 2, 1) := by decide +kernel
theorem dL_law_3104 : decode cL_law 3104 = .ok (.invokevirtual 174, 3) := by decide +kernel
theorem dL_law_3107 : decode cL_law 3107 = .ok (.iload 6, 2) := by decide +kernel
theorem dL_law_3109 : decode cL_law 3109 = .ok (.if_icmp .eq 5, 3) := by decide +kernel
theorem dL_law_3112 : decode cL_law 3112 = .ok (.iconst 0, 1) := by decide +kernel
theorem dL_law_3113 : decode cL_law 3113 = .ok (.ireturn, 1) := by decide +kernel
theorem dL_law_3114 : decode cL_law 3114 = .ok (.iload 6, 2) := by decide +kernel
theorem dL_law_3116 : decode cL_law 3116 = .ok (.ifCond .ne 15, 3) := by decide +kernel
theorem dL_law_3119 : decode cL_law 3119 = .ok (.aload_n 3, 1) := by decide +kernel
theorem dL_law_3120 : decode cL_law 3120 = .ok (.iconst 0, 1) := by decide +kernel
theorem dL_law_3121 : decode cL_law 3121 = .ok (.laload, 1) := by decide +kernel
theorem dL_law_3122 : decode cL_law 3122 = .ok (.iload 7, 2) := by decide +kernel
theorem dL_law_3124 : decode cL_law 3124 = .ok (.i2l, 1) := by decide +kernel
theorem dL_law_3125 : decode cL_law 3125 = .ok (.lcmp, 1) := by decide +kernel
theorem dL_law_3126 : decode cL_law 3126 = .ok (.ifCond .eq 5, 3) := by decide +kernel
theorem dL_law_3129 : decode cL_law 3129 = .ok (.iconst 0, 1) := by decide +kernel
theorem dL_law_3130 : decode cL_law 3130 = .ok (.ireturn, 1) := by decide +kernel
theorem dL_law_3131 : decode cL_law 3131 = .ok (.goto 227, 3) := by decide +kernel
theorem dL_law_3134 : decode cL_law 3134 = .ok (.aload_n 1, 1) := by decide +kernel
theorem dL_law_3135 : decode cL_law 3135 = .ok (.aload_n 0, 1) := by decide +kernel
theorem dL_law_3136 : decode cL_law 3136 = .ok (.iload 5, 2) := by decide +kernel
theorem dL_law_3138 : decode cL_law 3138 = .ok (.iconst 1, 1) := by decide +kernel
theorem dL_law_3139 : decode cL_law 3139 = .ok (.iadd, 1) := by decide +kernel
theorem dL_law_3140 : decode cL_law 3140 = .ok (.iaload, 1) := by decide +kernel
theorem dL_law_3141 : decode cL_law 3141 = .ok (.aload_n 3, 1) := by decide +kernel
theorem dL_law_3142 : decode cL_law 3142 = .ok (.invokestatic 359, 3) := by decide +kernel
theorem dL_law_3145 : decode cL_law 3145 = .ok (.istore 6, 2) := by decide +kernel
theorem dL_law_3147 : decode cL_law 3147 = .ok (.aload_n 2, 1) := by decide +kernel
theorem dL_law_3148 : decode cL_law 3148 = .ok (.aload_n 0, 1) := by decide +kernel
theorem dL_law_3149 : decode cL_law 3149 = .ok (.iload 5, 2) := by decide +kernel
theorem dL_law_3151 : decode cL_law 3151 = .ok (.iconst 1, 1) := by decide +kernel
theorem dL_law_3152 : decode cL_law 3152 = .ok (.iadd, 1) := by decide +kernel
theorem dL_law_3153 : decode cL_law 3153 = .ok (.iaload, 1) := by decide +kernel
theorem dL_law_3154 : decode cL_law 3154 = .ok (.invokevirtual 361, 3) := by decide +kernel
theorem dL_law_3157 : decode cL_law 3157 = .ok (.istore 7, 2) := by decide +kernel
theorem dL_law_3159 : decode cL_law 3159 = .ok (.aload_n 2, 1) := by decide +kernel
theorem dL_law_3160 : decode cL_law 3160 = .ok (.invokevirtual 174, 3) := by decide +kernel
theorem dL_law_3163 : decode cL_law 3163 = .ok (.iload 6, 2) := by decide +kernel
theorem dL_law_3165 : decode cL_law 3165 = .ok (.if_icmp .eq 5, 3) := by decide +kernel
theorem dL_law_3168 : decode cL_law 3168 = .ok (.iconst 0, 1) := by decide +kernel
theorem dL_law_3169 : decode cL_law 3169 = .ok (.ireturn, 1) := by decide +kernel
theorem dL_law_3170 : decode cL_law 3170 = .ok (.iload 6, 2) := by decide +kernel
theorem dL_law_3172 : decode cL_law 3172 = .ok (.ifCond .ne 15, 3) := by decide +kernel
theorem dL_law_3175 : decode cL_law 3175 = .ok (.aload_n 3, 1) := by decide +kernel
theorem dL_law_3176 : decode cL_law 3176 = .ok (.iconst 0, 1) := by decide +kernel
theorem dL_law_3177 : decode cL_law 3177 = .ok (.laload, 1) := by decide +kernel
theorem dL_law_3178 : decode cL_law 3178 = .ok (.iload 7, 2) := by decide +kernel
theorem dL_law_3180 : decode cL_law 3180 = .ok (.i2l, 1) := by decide +kernel
theorem dL_law_3181 : decode cL_law 3181 = .ok (.lcmp, 1) := by decide +kernel
theorem dL_law_3182 : decode cL_law 3182 = .ok (.ifCond .eq 5, 3) := by decide +kernel
theorem dL_law_3185 : decode cL_law 3185 = .ok (.iconst 0, 1) := by decide +kernel
theorem dL_law_3186 : decode cL_law 3186 = .ok (.ireturn, 1) := by decide +kernel
theorem dL_law_3187 : decode cL_law 3187 = .ok (.goto 171, 3) := by decide +kernel
theorem dL_law_3190 : decode cL_law 3190 = .ok (.aload_n 1, 1) := by decide +kernel
theorem dL_law_3191 : decode cL_law 3191 = .ok (.aload_n 0, 1) := by decide +kernel
theorem dL_law_3192 : decode cL_law 3192 = .ok (.iload 5, 2) := by decide +kernel
theorem dL_law_3194 : decode cL_law 3194 = .ok (.iconst 1, 1) := by decide +kernel
theorem dL_law_3195 : decode cL_law 3195 = .ok (.iadd, 1) := by decide +kernel
theorem dL_law_3196 : decode cL_law 3196 = .ok (.iaload, 1) := by decide +kernel
theorem dL_law_3197 : decode cL_law 3197 = .ok (.aload_n 3, 1) := by decide +kernel
theorem dL_law_3198 : decode cL_law 3198 = .ok (.invokestatic 362, 3) := by decide +kernel
theorem dL_law_3201 : decode cL_law 3201 = .ok (.istore 6, 2) := by decide +kernel
theorem dL_law_3203 : decode cL_law 3203 = .ok (.aload_n 2, 1) := by decide +kernel
theorem dL_law_3204 : decode cL_law 3204 = .ok (.aload_n 0, 1) := by decide +kernel
theorem dL_law_3205 : decode cL_law 3205 = .ok (.iload 5, 2) := by decide +kernel
theorem dL_law_3207 : decode cL_law 3207 = .ok (.iconst 1, 1) := by decide +kernel
theorem dL_law_3208 : decode cL_law 3208 = .ok (.iadd, 1) := by decide +kernel
theorem dL_law_3209 : decode cL_law 3209 = .ok (.iaload, 1) := by decide +kernel
theorem dL_law_3210 : decode cL_law 3210 = .ok (.invokevirtual 364, 3) := by decide +kernel
theorem dL_law_3213 : decode cL_law 3213 = .ok (.istore 7, 2) := by decide +kernel
theorem dL_law_3215 : decode cL_law 3215 = .ok (.aload_n 2, 1) := by decide +kernel
theorem dL_law_3216 : decode cL_law 3216 = .ok (.invokevirtual 174, 3) := by decide +kernel
theorem dL_law_3219 : decode cL_law 3219 = .ok (.iload 6, 2) := by decide +kernel
theorem dL_law_3221 : decode cL_law 3221 = .ok (.if_icmp .eq 5, 3) := by decide +kernel
theorem dL_law_3224 : decode cL_law 3224 = .ok (.iconst 0, 1) := by decide +kernel
theorem dL_law_3225 : decode cL_law 3225 = .ok (.ireturn, 1) := by decide +kernel
theorem dL_law_3226 : decode cL_law 3226 = .ok (.iload 6, 2) := by decide +kernel
theorem dL_law_3228 : decode cL_law 3228 = .ok (.ifCond .ne 15, 3) := by decide +kernel
theorem dL_law_3231 : decode cL_law 3231 = .ok (.aload_n 3, 1) := by decide +kernel
theorem dL_law_3232 : decode cL_law 3232 = .ok (.iconst 0, 1) := by decide +kernel
theorem dL_law_3233 : decode cL_law 3233 = .ok (.laload, 1) := by decide +kernel
theorem dL_law_3234 : decode cL_law 3234 = .ok (.iload 7, 2) := by decide +kernel
theorem dL_law_3236 : decode cL_law 3236 = .ok (.i2l, 1) := by decide +kernel
theorem dL_law_3237 : decode cL_law 3237 = .ok (.lcmp, 1) := by decide +kernel
theorem dL_law_3238 : decode cL_law 3238 = .ok (.ifCond .eq 5, 3) := by decide +kernel
theorem dL_law_3241 : decode cL_law 3241 = .ok (.iconst 0, 1) := by decide +kernel
theorem dL_law_3242 : decode cL_law 3242 = .ok (.ireturn, 1) := by decide +kernel
theorem dL_law_3243 : decode cL_law 3243 = .ok (.goto 115, 3) := by decide +kernel
theorem dL_law_3246 : decode cL_law 3246 = .ok (.aload_n 1, 1) := by decide +kernel
theorem dL_law_3247 : decode cL_law 3247 = .ok (.invokevirtual 365, 3) := by decide +kernel
theorem dL_law_3250 : decode cL_law 3250 = .ok (.aload_n 2, 1) := by decide +kernel
theorem dL_law_3251 : decode cL_law 3251 = .ok (.invokevirtual 368, 3) := by decide +kernel
theorem dL_law_3254 : decode cL_law 3254 = .ok (.if_icmp .eq 104, 3) := by decide +kernel
theorem dL_law_3257 : decode cL_law 3257 = .ok (.iconst 0, 1) := by decide +kernel
theorem dL_law_3258 : decode cL_law 3258 = .ok (.ireturn, 1) := by decide +kernel
theorem dL_law_3259 : decode cL_law 3259 = .ok (.aload_n 1, 1) := by decide +kernel
theorem dL_law_3260 : decode cL_law 3260 = .ok (.aload_n 3, 1) := by decide +kernel
theorem dL_law_3261 : decode cL_law 3261 = .ok (.invokestatic 369, 3) := by decide +kernel
theorem dL_law_3264 : decode cL_law 3264 = .ok (.istore 6, 2) := by decide +kernel
theorem dL_law_3266 : decode cL_law 3266 = .ok (.aload_n 2, 1) := by decide +kernel
theorem dL_law_3267 : decode cL_law 3267 = .ok (.invokevirtual 372, 3) := by decide +kernel
theorem dL_law_3270 : decode cL_law 3270 = .ok (.istore 7, 2) := by decide +kernel
theorem dL_law_3272 : decode cL_law 3272 = .ok (.aload_n 2, 1) := by decide +kernel
theorem dL_law_3273 : decode cL_law 3273 = .ok (.invokevirtual 174, 3) := by decide +kernel
theorem dL_law_3276 : decode cL_law 3276 = .ok (.iload 6, 2) := by decide +kernel
theorem dL_law_3278 : decode cL_law 3278 = .ok (.if_icmp .eq 5, 3) := by decide +kernel
theorem dL_law_3281 : decode cL_law 3281 = .ok (.iconst 0, 1) := by decide +kernel
theorem dL_law_3282 : decode cL_law 3282 = .ok (.ireturn, 1) := by decide +kernel
theorem dL_law_3283 : decode cL_law 3283 = .ok (.iload 6, 2) := by decide +kernel
theorem dL_law_3285 : decode cL_law 3285 = .ok (.ifCond .ne 15, 3) := by decide +kernel
theorem dL_law_3288 : decode cL_law 3288 = .ok (.aload_n 3, 1) := by decide +kernel
theorem dL_law_3289 : decode cL_law 3289 = .ok (.iconst 0, 1) := by decide +kernel
theorem dL_law_3290 : decode cL_law 3290 = .ok (.laload, 1) := by decide +kernel
theorem dL_law_3291 : decode cL_law 3291 = .ok (.iload 7, 2) := by decide +kernel
theorem dL_law_3293 : decode cL_law 3293 = .ok (.i2l, 1) := by decide +kernel
theorem dL_law_3294 : decode cL_law 3294 = .ok (.lcmp, 1) := by decide +kernel
theorem dL_law_3295 : decode cL_law 3295 = .ok (.ifCond .eq 5, 3) := by decide +kernel
theorem dL_law_3298 : decode cL_law 3298 = .ok (.iconst 0, 1) := by decide +kernel
theorem dL_law_3299 : decode cL_law 3299 = .ok (.ireturn, 1) := by decide +kernel
theorem dL_law_3300 : decode cL_law 3300 = .ok (.goto 58, 3) := by decide +kernel
theorem dL_law_3303 : decode cL_law 3303 = .ok (.aload_n 1, 1) := by decide +kernel
theorem dL_law_3304 : decode cL_law 3304 = .ok (.invokevirtual 373, 3) := by decide +kernel
theorem dL_law_3307 : decode cL_law 3307 = .ok (.aload_n 2, 1) := by decide +kernel
theorem dL_law_3308 : decode cL_law 3308 = .ok (.invokevirtual 376, 3) := by decide +kernel
theorem dL_law_3311 : decode cL_law 3311 = .ok (.goto 47, 3) := by decide +kernel
theorem dL_law_3314 : decode cL_law 3314 = .ok (.aload_n 1, 1) := by decide +kernel
theorem dL_law_3315 : decode cL_law 3315 = .ok (.aload_n 3, 1) := by decide +kernel
theorem dL_law_3316 : decode cL_law 3316 = .ok (.invokestatic 377, 3) := by decide +kernel
theorem dL_law_3319 : decode cL_law 3319 = .ok (.istore 6, 2) := by decide +kernel
theorem dL_law_3321 : decode cL_law 3321 = .ok (.aload_n 2, 1) := by decide +kernel
theorem dL_law_3322 : decode cL_law 3322 = .ok (.invokevirtual 379, 3) := by decide +kernel
theorem dL_law_3325 : decode cL_law 3325 = .ok (.istore 7, 2) := by decide +kernel
theorem dL_law_3327 : decode cL_law 3327 = .ok (.aload_n 2, 1) := by decide +kernel
theorem dL_law_3328 : decode cL_law 3328 = .ok (.invokevirtual 174, 3) := by decide +kernel
theorem dL_law_3331 : decode cL_law 3331 = .ok (.iload 6, 2) := by decide +kernel
theorem dL_law_3333 : decode cL_law 3333 = .ok (.if_icmp .eq 5, 3) := by decide +kernel
theorem dL_law_3336 : decode cL_law 3336 = .ok (.iconst 0, 1) := by decide +kernel
theorem dL_law_3337 : decode cL_law 3337 = .ok (.ireturn, 1) := by decide +kernel
theorem dL_law_3338 : decode cL_law 3338 = .ok (.iload 6, 2) := by decide +kernel
theorem dL_law_3340 : decode cL_law 3340 = .ok (.ifCond .ne 15, 3) := by decide +kernel
theorem dL_law_3343 : decode cL_law 3343 = .ok (.aload_n 3, 1) := by decide +kernel
theorem dL_law_3344 : decode cL_law 3344 = .ok (.iconst 0, 1) := by decide +kernel
theorem dL_law_3345 : decode cL_law 3345 = .ok (.laload, 1) := by decide +kernel
theorem dL_law_3346 : decode cL_law 3346 = .ok (.iload 7, 2) := by decide +kernel
theorem dL_law_3348 : decode cL_law 3348 = .ok (.i2l, 1) := by decide +kernel
theorem dL_law_3349 : decode cL_law 3349 = .ok (.lcmp, 1) := by decide +kernel
theorem dL_law_3350 : decode cL_law 3350 = .ok (.ifCond .eq 5, 3) := by decide +kernel
theorem dL_law_3353 : decode cL_law 3353 = .ok (.iconst 0, 1) := by decide +kernel
theorem dL_law_3354 : decode cL_law 3354 = .ok (.ireturn, 1) := by decide +kernel
theorem dL_law_3355 : decode cL_law 3355 = .ok (.goto 3, 3) := by decide +kernel
theorem dL_law_3358 : decode cL_law 3358 = .ok (.iinc 5 6, 3) := by decide +kernel
theorem dL_law_3361 : decode cL_law 3361 = .ok (.goto (-3333), 3) := by decide +kernel
theorem dL_law_3364 : decode cL_law 3364 = .ok (.iconst 1, 1) := by decide +kernel
theorem dL_law_3365 : decode cL_law 3365 = .ok (.ireturn, 1) := by decide +kernel
