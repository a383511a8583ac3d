/-! DECODE ROWS of the law -/
theorem dL_law__1796 : decode cL_law_ 1796 = .ok (.iload 4, 2) := by decide +kernel
theorem dL_law__1798 : decode cL_law_ 1798 = .ok (.iconst 1, 1) := by decide +kernel
theorem dL_law__1799 : decode cL_law_ 1799 = .ok (.iadd, 1) := by decide +kernel
theorem dL_law__1800 : decode cL_law_ 1800 = .ok (.iaload, 1) := by decide +kernel
theorem dL_law__1801 : decode cL_law_ 1801 = .ok (.aload_n 0, 1) := by decide +kernel
theorem dL_law__1802 : decode cL_law_ 1802 = .ok (.iload 4, 2) := by decide +kernel
theorem dL_law__1804 : decode cL_law_ 1804 = .ok (.iconst 2, 1) := by decide +kernel
theorem dL_law__1805 : decode cL_law_ 1805 = .ok (.iadd, 1) := by decide +kernel
theorem dL_law__1806 : decode cL_law_ 1806 = .ok (.iaload, 1) := by decide +kernel
theorem dL_law__1807 : decode cL_law_ 1807 = .ok (.invokevirtual 232, 3) := by decide +kernel
theorem dL_law__1810 : decode cL_law_ 1810 = .ok (.istore 6, 2) := by decide +kernel
theorem dL_law__1812 : decode cL_law_ 1812 = .ok (.aload_n 2, 1) := by decide +kernel
theorem dL_law__1813 : decode cL_law_ 1813 = .ok (.invokevirtual 144, 3) := by decide +kernel
theorem dL_law__1816 : decode cL_law_ 1816 = .ok (.iload 5, 2) := by decide +kernel
theorem dL_law__1818 : decode cL_law_ 1818 = .ok (.if_icmp .eq 5, 3) := by decide +kernel
theorem dL_law__1821 : decode cL_law_ 1821 = .ok (.iconst 0, 1) := by decide +kernel
theorem dL_law__1822 : decode cL_law_ 1822 = .ok (.ireturn, 1) := by decide +kernel
theorem dL_law__1823 : decode cL_law_ 1823 = .ok (.iload 5, 2) := by decide +kernel
theorem dL_law__1825 : decode cL_law_ 1825 = .ok (.ifCond .ne 22, 3) := by decide +kernel
theorem dL_law__1828 : decode cL_law_ 1828 = .ok (.aload_n 3, 1) := by decide +kernel
theorem dL_law__1829 : decode cL_law_ 1829 = .ok (.iconst 0, 1) := by decide +kernel
theorem dL_law__1830 : decode cL_law_ 1830 = .ok (.laload, 1) := by decide +kernel
theorem dL_law__1831 : decode cL_law_ 1831 = .ok (.iload 6, 2) := by decide +kernel
theorem dL_law__1833 : decode cL_law_ 1833 = .ok (.ifCond .eq 7, 3) := by decide +kernel
theorem dL_law__1836 : decode cL_law_ 1836 = .ok (.lconst 1, 1) := by decide +kernel
theorem dL_law__1837 : decode cL_law_ 1837 = .ok (.goto 4, 3) := by decide +kernel
theorem dL_law__1840 : decode cL_law_ 1840 = .ok (.lconst 0, 1) := by decide +kernel
theorem dL_law__1841 : decode cL_law_ 1841 = .ok (.lcmp, 1) := by decide +kernel
theorem dL_law__1842 : decode cL_law_ 1842 = .ok (.ifCond .eq 5, 3) := by decide +kernel
theorem dL_law__1845 : decode cL_law_ 1845 = .ok (.iconst 0, 1) := by decide +kernel
theorem dL_law__1846 : decode cL_law_ 1846 = .ok (.ireturn, 1) := by decide +kernel
theorem dL_law__1847 : decode cL_law_ 1847 = .ok (.goto 971, 3) := by decide +kernel
theorem dL_law__1850 : decode cL_law_ 1850 = .ok (.aload_n 1, 1) := by decide +kernel
theorem dL_law__1851 : decode cL_law_ 1851 = .ok (.aload_n 0, 1) := by decide +kernel
theorem dL_law__1852 : decode cL_law_ 1852 = .ok (.iload 4, 2) := by decide +kernel
theorem dL_law__1854 : decode cL_law_ 1854 = .ok (.iconst 1, 1) := by decide +kernel
theorem dL_law__1855 : decode cL_law_ 1855 = .ok (.iadd, 1) := by decide +kernel
theorem dL_law__1856 : decode cL_law_ 1856 = .ok (.iaload, 1) := by decide +kernel
theorem dL_law__1857 : decode cL_law_ 1857 = .ok (.aload_n 3, 1) := by decide +kernel
theorem dL_law__1858 : decode cL_law_ 1858 = .ok (.invokestatic 233, 3) := by decide +kernel
theorem dL_law__1861 : decode cL_law_ 1861 = .ok (.istore 5, 2) := by decide +kernel
theorem dL_law__1863 : decode cL_law_ 1863 = .ok (.aload_n 2, 1) := by decide +kernel
theorem dL_law__1864 : decode cL_law_ 1864 = .ok (.aload_n 0, 1) := by decide +kernel
theorem dL_law__1865 : decode cL_law_ 1865 = .ok (.iload 4, 2) := by decide +kernel
theorem dL_law__1867 : decode cL_law_ 1867 = .ok (.iconst 1, 1) := by decide +kernel
theorem dL_law__1868 : decode cL_law_ 1868 = .ok (.iadd, 1) := by decide +kernel
theorem dL_law__1869 : decode cL_law_ 1869 = .ok (.iaload, 1) := by decide +kernel
theorem dL_law__1870 : decode cL_law_ 1870 = .ok (.invokevirtual 235, 3) := by decide +kernel
theorem dL_law__1873 : decode cL_law_ 1873 = .ok (.istore 6, 2) := by decide +kernel
theorem dL_law__1875 : decode cL_law_ 1875 = .ok (.aload_n 2, 1) := by decide +kernel
theorem dL_law__1876 : decode cL_law_ 1876 = .ok (.invokevirtual 144, 3) := by decide +kernel
theorem dL_law__1879 : decode cL_law_ 1879 = .ok (.iload 5, 2) := by decide +kernel
theorem dL_law__1881 : decode cL_law_ 1881 = .ok (.if_icmp .eq 5, 3) := by decide +kernel
theorem dL_law__1884 : decode cL_law_ 1884 = .ok (.iconst 0, 1) := by decide +kernel
theorem dL_law__1885 : decode cL_law_ 1885 = .ok (.ireturn, 1) := by decide +kernel
theorem dL_law__1886 : decode cL_law_ 1886 = .ok (.iload 5, 2) := by decide +kernel
theorem dL_law__1888 : decode cL_law_ 1888 = .ok (.ifCond .ne 15, 3) := by decide +kernel
theorem dL_law__1891 : decode cL_law_ 1891 = .ok (.aload_n 3, 1) := by decide +kernel
theorem dL_law__1892 : decode cL_law_ 1892 = .ok (.iconst 0, 1) := by decide +kernel
theorem dL_law__1893 : decode cL_law_ 1893 = .ok (.laload, 1) := by decide +kernel
theorem dL_law__1894 : decode cL_law_ 1894 = .ok (.iload 6, 2) := by decide +kernel
theorem dL_law__1896 : decode cL_law_ 1896 = .ok (.i2l, 1) := by decide +kernel
theorem dL_law__1897 : decode cL_law_ 1897 = .ok (.lcmp, 1) := by decide +kernel
theorem dL_law__1898 : decode cL_law_ 1898 = .ok (.ifCond .eq 5, 3) := by decide +kernel
theorem dL_law__1901 : decode cL_law_ 1901 = .ok (.iconst 0, 1) := by decide +kernel
theorem dL_law__1902 : decode cL_law_ 1902 = .ok (.ireturn, 1) := by decide +kernel
theorem dL_law__1903 : decode cL_law_ 1903 = .ok (.goto 915, 3) := by decide +kernel
theorem dL_law__1906 : decode cL_law_ 1906 = .ok (.aload_n 1, 1) := by decide +kernel
theorem dL_law__1907 : decode cL_law_ 1907 = .ok (.aload_n 0, 1) := by decide +kernel
theorem dL_law__1908 : decode cL_law_ 1908 = .ok (.iload 4, 2) := by decide +kernel
theorem dL_law__1910 : decode cL_law_ 1910 = .ok (.iconst 1, 1) := by decide +kernel
theorem dL_law__1911 : decode cL_law_ 1911 = .ok (.iadd, 1) := by decide +kernel
theorem dL_law__1912 : decode cL_law_ 1912 = .ok (.iaload, 1) := by decide +kernel
theorem dL_law__1913 : decode cL_law_ 1913 = .ok (.aload_n 0, 1) := by decide +kernel
theorem dL_law__1914 : decode cL_law_ 1914 = .ok (.iload 4, 2) := by decide +kernel
theorem dL_law__1916 : decode cL_law_ 1916 = .ok (.iconst 2, 1) := by decide +kernel
theorem dL_law__1917 : decode cL_law_ 1917 = .ok (.iadd, 1) := by decide +kernel
theorem dL_law__1918 : decode cL_law_ 1918 = .ok (.iaload, 1) := by decide +kernel
theorem dL_law__1919 : decode cL_law_ 1919 = .ok (.aload_n 3, 1) := by decide +kernel
theorem dL_law__1920 : decode cL_law_ 1920 = .ok (.invokestatic 236, 3) := by decide +kernel
theorem dL_law__1923 : decode cL_law_ 1923 = .ok (.istore 5, 2) := by decide +kernel
theorem dL_law__1925 : decode cL_law_ 1925 = .ok (.aload_n 2, 1) := by decide +kernel
theorem dL_law__1926 : decode cL_law_ 1926 = .ok (.aload_n 0, 1) := by decide +kernel
theorem dL_law__1927 : decode cL_law_ 1927 = .ok (.iload 4, 2) := by decide +kernel
theorem dL_law__1929 : decode cL_law_ 1929 = .ok (.iconst 1, 1) := by decide +kernel
theorem dL_law__1930 : decode cL_law_ 1930 = .ok (.iadd, 1) := by decide +kernel
theorem dL_law__1931 : decode cL_law_ 1931 = .ok (.iaload, 1) := by decide +kernel
theorem dL_law__1932 : decode cL_law_ 1932 = .ok (.aload_n 0, 1) := by decide +kernel
theorem dL_law__1933 : decode cL_law_ 1933 = .ok (.iload 4, 2) := by decide +kernel
theorem dL_law__1935 : decode cL_law_ 1935 = .ok (.iconst 2, 1) := by decide +kernel
theorem dL_law__1936 : decode cL_law_ 1936 = .ok (.iadd, 1) := by decide +kernel
theorem dL_law__1937 : decode cL_law_ 1937 = .ok (.iaload, 1) := by decide +kernel
theorem dL_law__1938 : decode cL_law_ 1938 = .ok (.invokevirtual 238, 3) := by decide +kernel
theorem dL_law__1941 : decode cL_law_ 1941 = .ok (.istore 6, 2) := by decide +kernel
theorem dL_law__1943 : decode cL_law_ 1943 = .ok (.aload_n 2, 1) := by decide +kernel
theorem dL_law__1944 : decode cL_law_ 1944 = .ok (.invokevirtual 144, 3) := by decide +kernel
theorem dL_law__1947 : decode cL_law_ 1947 = .ok (.iload 5, 2) := by decide +kernel
theorem dL_law__1949 : decode cL_law_ 1949 = .ok (.if_icmp .eq 5, 3) := by decide +kernel
theorem dL_law__1952 : decode cL_law_ 1952 = .ok (.iconst 0, 1) := by decide +kernel
theorem dL_law__1953 : decode cL_law_ 1953 = .ok (.ireturn, 1) := by decide +kernel
theorem dL_law__1954 : decode cL_law_ 1954 = .ok (.iload 5, 2) := by decide +kernel
theorem dL_law__1956 : decode cL_law_ 1956 = .ok (.ifCond .ne 15, 3) := by decide +kernel
theorem dL_law__1959 : decode cL_law_ 1959 = .ok (.aload_n 3, 1) := by decide +kernel
theorem dL_law__1960 : decode cL_law_ 1960 = .ok (.iconst 0, 1) := by decide +kernel
theorem dL_law__1961 : decode cL_law_ 1961 = .ok (.laload, 1) := by decide +kernel
theorem dL_law__1962 : decode cL_law_ 1962 = .ok (.iload 6, 2) := by decide +kernel
theorem dL_law__1964 : decode cL_law_ 1964 = .ok (.i2l, 1) := by decide +kernel
theorem dL_law__1965 : decode cL_law_ 1965 = .ok (.lcmp, 1) := by decide +kernel
theorem dL_law__1966 : decode cL_law_ 1966 = .ok (.ifCond .eq 5, 3) := by decide +kernel
theorem dL_law__1969 : decode cL_law_ 1969 = .ok (.iconst 0, 1) := by decide +kernel
theorem dL_law__1970 : decode cL_law_ 1970 = .ok (.ireturn, 1) := by decide +kernel
theorem dL_law__1971 : decode cL_law_ 1971 = .ok (.goto 847, 3) := by decide +kernel
theorem dL_law__1974 : decode cL_law_ 1974 = .ok (.aload_n 1, 1) := by decide +kernel
theorem dL_law__1975 : decode cL_law_ 1975 = .ok (.aload_n 0, 1) := by decide +kernel
theorem dL_law__1976 : decode cL_law_ 1976 = .ok (.iload 4, 2) := by decide +kernel
theorem dL_law__1978 : decode cL_law_ 1978 = .ok (.iconst 1, 1) := by decide +kernel
theorem dL_law__1979 : decode cL_law_ 1979 = .ok (.iadd, 1) := by decide +kernel
theorem dL_law__1980 : decode cL_law_ 1980 = .ok (.iaload, 1) := by decide +kernel
theorem dL_law__1981 : decode cL_law_ 1981 = .ok (.aload_n 0, 1) := by decide +kernel
theorem dL_law__1982 : decode cL_law_ 1982 = .ok (.iload 4, 2) := by decide +kernel
theorem dL_law__1984 : decode cL_law_ 1984 = .ok (.iconst 2, 1) := by decide +kernel
theorem dL_law__1985 : decode cL_law_ 1985 = .ok (.iadd, 1) := by decide +kernel
theorem dL_law__1986 : decode cL_law_ 1986 = .ok (.iaload, 1) := by decide +kernel
theorem dL_law__1987 : decode cL_law_ 1987 = .ok (.aload_n 3, 1) := by decide +kernel
theorem dL_law__1988 : decode cL_law_ 1988 = .ok (.invokestatic 239, 3) := by decide +kernel
theorem dL_law__1991 : decode cL_law_ 1991 = .ok (.istore 5, 2) := by decide +kernel
theorem dL_law__1993 : decode cL_law_ 1993 = .ok (.aload_n 2, 1) := by decide +kernel
theorem dL_law__1994 : decode cL_law_ 1994 = .ok (.aload_n 0, 1) := by decide +kernel
theorem dL_law__1995 : decode cL_law_ 1995 = .ok (.iload 4, 2) := by decide +kernel
theorem dL_law__1997 : decode cL_law_ 1997 = .ok (.iconst 1, 1) := by decide +kernel
theorem dL_law__1998 : decode cL_law_ 1998 = .ok (.iadd, 1) := by decide +kernel
theorem dL_law__1999 : decode cL_law_ 1999 = .ok (.iaload, 1) := by decide +kernel
theorem dL_law__2000 : decode cL_law_ 2000 = .ok (.aload_n 0, 1) := by decide +kernel
theorem dL_law__2001 : decode cL_law_ 2001 = .ok (.iload 4, 2) := by decide +kernel
theorem dL_law__2003 : decode cL_law_ 2003 = .ok (.iconst 2, 1) := by decide +kernel
theorem dL_law__2004 : decode cL_law_ 2004 = .ok (.iadd, 1) := by decide +kernel
theorem dL_law__2005 : decode cL_law_ 2005 = .ok (.iaload, 1) := by decide +kernel
theorem dL_law__2006 : decode cL_law_ 2006 = .ok (.invokevirtual 241, 3) := by decide +kernel
theorem dL_law__2009 : decode cL_law_ 2009 = .ok (.istore 6, 2) := by decide +kernel
theorem dL_law__2011 : decode cL_law_ 2011 = .ok (.aload_n 2, 1) := by decide +kernel
theorem dL_law__2012 : decode cL_law_ 2012 = .ok (.invokevirtual 144, 3) := by decide +kernel
theorem dL_law__2015 : decode cL_law_ 2015 = .ok (.iload 5, 2) := by decide +kernel
theorem dL_law__2017 : decode cL_law_ 2017 = .ok (.if_icmp .eq 5, 3) := by decide +kernel
theorem dL_law__2020 : decode cL_law_ 2020 = .ok (.iconst 0, 1) := by decide +kernel
theorem dL_law__2021 : decode cL_law_ 2021 = .ok (.ireturn, 1) := by decide +kernel
theorem dL_law__2022 : decode cL_law_ 2022 = .ok (.iload 5, 2) := by decide +kernel
theorem dL_law__2024 : decode cL_law_ 2024 = .ok (.ifCond .ne 15, 3) := by decide +kernel
theorem dL_law__2027 : decode cL_law_ 2027 = .ok (.aload_n 3, 1) := by decide +kernel
theorem dL_law__2028 : decode cL_law_ 2028 = .ok (.iconst 0, 1) := by decide +kernel
theorem dL_law__2029 : decode cL_law_ 2029 = .ok (.laload, 1) := by decide +kernel
theorem dL_law__2030 : decode cL_law_ 2030 = .ok (.iload 6, 2) := by decide +kernel
theorem dL_law__2032 : decode cL_law_ 2032 = .ok (.i2l, 1) := by decide +kernel
theorem dL_law__2033 : decode cL_law_ 2033 = .ok (.lcmp, 1) := by decide +kernel
theorem dL_law__2034 : decode cL_law_ 2034 = .ok (.ifCond .eq 5, 3) := by decide +kernel
theorem dL_law__2037 : decode cL_law_ 2037 = .ok (.iconst 0, 1) := by decide +kernel
theorem dL_law__2038 : decode cL_law_ 2038 = .ok (.ireturn, 1) := by decide +kernel
theorem dL_law__2039 : decode cL_law_ 2039 = .ok (.goto 779, 3) := by decide +kernel
theorem dL_law__2042 : decode cL_law_ 2042 = .ok (.aload_n 1, 1) := by decide +kernel
theorem dL_law__2043 : decode cL_law_ 2043 = .ok (.invokevirtual 242, 3) := by decide +kernel
theorem dL_law__2046 : decode cL_law_ 2046 = .ok (.aload_n 2, 1) := by decide +kernel
theorem dL_law__2047 : decode cL_law_ 2047 = .ok (.invokevirtual 245, 3) := by decide +kernel
theorem dL_law__2050 : decode cL_law_ 2050 = .ok (.if_icmp .eq 768, 3) := by decide +kernel
theorem dL_law__2053 : decode cL_law_ 2053 = .ok (.iconst 0, 1) := by decide +kernel
theorem dL_law__2054 : decode cL_law_ 2054 = .ok (.ireturn, 1) := by decide +kernel
theorem dL_law__2055 : decode cL_law_ 2055 = .ok (.aload_n 1, 1) := by decide +kernel
theorem dL_law__2056 : decode cL_law_ 2056 = .ok (.aload_n 0, 1) := by decide +kernel
theorem dL_law__2057 : decode cL_law_ 2057 = .ok (.iload 4, 2) := by decide +kernel
theorem dL_law__2059 : decode cL_law_ 2059 = .ok (.iconst 1, 1) := by decide +kernel
theorem dL_law__2060 : decode cL_law_ 2060 = .ok (.iadd, 1) := by decide +kernel
theorem dL_law__2061 : decode cL_law_ 2061 = .ok (.iaload, 1) := by decide +kernel
theorem dL_law__2062 : decode cL_law_ 2062 = .ok (.aload_n 3, 1) := by decide +kernel
theorem dL_law__2063 : decode cL_law_ 2063 = .ok (.invokestatic 246, 3) := by decide +kernel
theorem dL_law__2066 : decode cL_law_ 2066 = .ok (.istore 5, 2) := by decide +kernel
theorem dL_law__2068 : decode cL_law_ 2068 = .ok (.aload_n 2, 1) := by decide +kernel
theorem dL_law__2069 : decode cL_law_ 2069 = .ok (.aload_n 0, 1) := by decide +kernel
theorem dL_law__2070 : decode cL_law_ 2070 = .ok (.iload 4, 2) := by decide +kernel
theorem dL_law__2072 : decode cL_law_ 2072 = .ok (.iconst 1, 1) := by decide +kernel
theorem dL_law__2073 : decode cL_law_ 2073 = .ok (.iadd, 1) := by decide +kernel
theorem dL_law__2074 : decode cL_law_ 2074 = .ok (.iaload, 1) := by decide +kernel
theorem dL_law__2075 : decode cL_law_ 2075 = .ok (.invokevirtual 248, 3) := by decide +kernel
theorem dL_law__2078 : decode cL_law_ 2078 = .ok (.istore 6, 2) := by decide +kernel
theorem dL_law__2080 : decode cL_law_ 2080 = .ok (.aload_n 2, 1) := by decide +kernel
theorem dL_law__2081 : decode cL_law_ 2081 = .ok (.invokevirtual 144, 3) := by decide +kernel
theorem dL_law__2084 : decode cL_law_ 2084 = .ok (.iload 5, 2) := by decide +kernel
theorem dL_law__2086 : decode cL_law_ 2086 = .ok (.if_icmp .eq 5, 3) := by decide +kernel
theorem dL_law__2089 : decode cL_law_ 2089 = .ok (.iconst 0, 1) := by decide +kernel
theorem dL_law__2090 : decode cL_law_ 2090 = .ok (.ireturn, 1) := by decide +kernel
theorem dL_law__2091 : decode cL_law_ 2091 = .ok (.iload 5, 2) := by decide +kernel
theorem dL_law__2093 : decode cL_law_ 2093 = .ok (.ifCond .ne 15, 3) := by decide +kernel
theorem dL_law__2096 : decode cL_law_ 2096 = .ok (.aload_n 3, 1) := by decide +kernel
theorem dL_law__2097 : decode cL_law_ 2097 = .ok (.iconst 0, 1) := by decide +kernel
theorem dL_law__2098 : decode cL_law_ 2098 = .ok (.laload, 1) := by decide +kernel
theorem dL_law__2099 : decode cL_law_ 2099 = .ok (.iload 6, 2) := by decide +kernel
theorem dL_law__2101 : decode cL_law_ 2101 = .ok (.i2l, 1) := by decide +kernel
theorem dL_law__2102 : decode cL_law_ 2102 = .ok (.lcmp, 1) := by decide +kernel
theorem dL_law__2103 : decode cL_law_ 2103 = .ok (.ifCond .eq 5, 3) := by decide +kernel
theorem dL_law__2106 : decode cL_law_ 2106 = .ok (.iconst 0, 1) := by decide +kernel
theorem dL_law__2107 : decode cL_law_ 2107 = .ok (.ireturn, 1) := by decide +kernel
theorem dL_law__2108 : decode cL_law_ 2108 = .ok (.goto 710, 3) := by decide +kernel
theorem dL_law__2111 : decode cL_law_ 2111 = .ok (.aload_n 1, 1) := by decide +kernel
theorem dL_law__2112 : decode cL_law_ 2112 = .ok (.invokevirtual 249, 3) := by decide +kernel
theorem dL_law__2115 : decode cL_law_ 2115 = .ok (.aload_n 2, 1) := by decide +kernel
theorem dL_law__2116 : decode cL_law_ 2116 = .ok (.invokevirtual 252, 3) := by decide +kernel
theorem dL_law__2119 : decode cL_law_ 2119 = .ok (.if_icmp .eq 699, 3) := by decide +kernel
theorem dL_law__2122 : decode cL_law_ 2122 = .ok (.iconst 0, 1) := by decide +kernel
theorem dL_law__2123 : decode cL_law_ 2123 = .ok (.ireturn, 1) := by decide +kernel
theorem dL_law__2124 : decode cL_law_ 2124 = .ok (.aload_n 1, 1) := by decide +kernel
theorem dL_law__2125 : decode cL_law_ 2125 = .ok (.aload_n 0, 1) := by decide +kernel
theorem dL_law__2126 : decode cL_law_ 2126 = .ok (.iload 4, 2) := by decide +kernel
theorem dL_law__2128 : decode cL_law_ 2128 = .ok (.iconst 1, 1) := by decide +kernel
theorem dL_law__2129 : decode cL_law_ 2129 = .ok (.iadd, 1) := by decide +kernel
theorem dL_law__2130 : decode cL_law_ 2130 = .ok (.iaload, 1) := by decide +kernel
theorem dL_law__2131 : decode cL_law_ 2131 = .ok (.aload_n 3, 1) := by decide +kernel
theorem dL_law__2132 : decode cL_law_ 2132 = .ok (.invokestatic 253, 3) := by decide +kernel
theorem dL_law__2135 : decode cL_law_ 2135 = .ok (.istore 5, 2) := by decide +kernel
theorem dL_law__2137 : decode cL_law_ 2137 = .ok (.aload_n 2, 1) := by decide +kernel
theorem dL_law__2138 : decode cL_law_ 2138 = .ok (.aload_n 0, 1) := by decide +kernel
theorem dL_law__2139 : decode cL_law_ 2139 = .ok (.iload 4, 2) := by decide +kernel
theorem dL_law__2141 : decode cL_law_ 2141 = .ok (.iconst 1, 1) := by decide +kernel
theorem dL_law__2142 : decode cL_law_ 2142 = .ok (.iadd, 1) := by decide +kernel
theorem dL_law__2143 : decode cL_law_ 2143 = .ok (.iaload, 1) := by decide +kernel
theorem dL_law__2144 : decode cL_law_ 2144 = .ok (.invokevirtual 255, 3) := by decide +kernel
theorem dL_law__2147 : decode cL_law_ 2147 = .ok (.istore 6, 2) := by decide +kernel
theorem dL_law__2149 : decode cL_law_ 2149 = .ok (.aload_n 2, 1) := by decide +kernel
theorem dL_law__2150 : decode cL_law_ 2150 = .ok (.invokevirtual 144, 3) := by decide +kernel
theorem dL_law__2153 : decode cL_law_ 2153 = .ok (.iload 5, 2) := by decide +kernel
theorem dL_law__2155 : decode cL_law_ 2155 = .ok (.if_icmp .eq 5, 3) := by decide +kernel
theorem dL_law__2158 : decode cL_law_ 2158 = .ok (.iconst 0, 1) := by decide +kernel
theorem dL_law__2159 : decode cL_law_ 2159 = .ok (.ireturn, 1) := by decide +kernel
theorem dL_law__2160 : decode cL_law_ 2160 = .ok (.iload 5, 2) := by decide +kernel
theorem dL_law__2162 : decode cL_law_ 2162 = .ok (.ifCond .ne 15, 3) := by decide +kernel
theorem dL_law__2165 : decode cL_law_ 2165 = .ok (.aload_n 3, 1) := by decide +kernel
theorem dL_law__2166 : decode cL_law_ 2166 = .ok (.iconst 0, 1) := by decide +kernel
theorem dL_law__2167 : decode cL_law_ 2167 = .ok (.laload, 1) := by decide +kernel
theorem dL_law__2168 : decode cL_law_ 2168 = .ok (.iload 6, 2) := by decide +kernel
theorem dL_law__2170 : decode cL_law_ 2170 = .ok (.i2l, 1) := by decide +kernel
theorem dL_law__2171 : decode cL_law_ 2171 = .ok (.lcmp, 1) := by decide +kernel
theorem dL_law__2172 : decode cL_law_ 2172 = .ok (.ifCond .eq 5, 3) := by decide +kernel
theorem dL_law__2175 : decode cL_law_ 2175 = .ok (.iconst 0, 1) := by decide +kernel
theorem dL_law__2176 : decode cL_law_ 2176 = .ok (.ireturn, 1) := by decide +kernel
theorem dL_law__2177 : decode cL_law_ 2177 = .ok (.goto 641, 3) := by decide +kernel
theorem dL_law__2180 : decode cL_law_ 2180 = .ok (.aload_n 1, 1) := by decide +kernel
theorem dL_law__2181 : decode cL_law_ 2181 = .ok (.aload_n 0, 1) := by decide +kernel
theorem dL_law__2182 : decode cL_law_ 2182 = .ok (.iload 4, 2) := by decide +kernel
theorem dL_law__2184 : decode cL_law_ 2184 = .ok (.iconst 1, 1) := by decide +kernel
theorem dL_law__2185 : decode cL_law_ 2185 = .ok (.iadd, 1) := by decide +kernel
theorem dL_law__2186 : decode cL_law_ 2186 = .ok (.iaload, 1) := by decide +kernel
theorem dL_law__2187 : decode cL_law_ 2187 = .ok (.invokevirtual 256, 3) := by decide +kernel
theorem dL_law__2190 : decode cL_law_ 2190 = .ok (.aload_n 2, 1) := by decide +kernel
theorem dL_law__2191 : decode cL_law_ 2191 = .ok (.aload_n 0, 1) := by decide +kernel
theorem dL_law__2192 : decode cL_law_ 2192 = .ok (.iload 4, 2) := by decide +kernel
theorem dL_law__2194 : decode cL_law_ 2194 = .ok (.iconst 1, 1) := by decide +kernel
theorem dL_law__2195 : decode cL_law_ 2195 = .ok (.iadd, 1) := by decide +kernel
theorem dL_law__2196 : decode cL_law_ 2196 = .ok (.iaload, 1) := by decide +kernel
theorem dL_law__2197 : decode cL_law_ 2197 = .ok (.invokevirtual 259, 3) := by decide +kernel
theorem dL_law__2200 : decode cL_law_ 2200 = .ok (.if_icmp .eq 618, 3) := by decide +kernel
theorem dL_law__2203 : decode cL_law_ 2203 = .ok (.iconst 0, 1) := by decide +kernel
theorem dL_law__2204 : decode cL_law_ 2204 = .ok (.ireturn, 1) := by decide +kernel
theorem dL_law__2205 : decode cL_law_ 2205 = .ok (.aload_n 1, 1) := by decide +kernel
theorem dL_law__2206 : decode cL_law_ 2206 = .ok (.invokevirtual 260, 3) := by decide +kernel
theorem dL_law__2209 : decode cL_law_ 2209 = .ok (.aload_n 2, 1) := by decide +kernel
theorem dL_law__2210 : decode cL_law_ 2210 = .ok (.invokevirtual 263, 3) := by decide +kernel
theorem dL_law__2213 : decode cL_law_ 2213 = .ok (.if_icmp .eq 605, 3) := by decide +kernel
theorem dL_law__2216 : decode cL_law_ 2216 = .ok (.iconst 0, 1) := by decide +kernel
theorem dL_law__2217 : decode cL_law_ 2217 = .ok (.ireturn, 1) := by decide +kernel
theorem dL_law__2218 : decode cL_law_ 2218 = .ok (.aload_n 1, 1) := by decide +kernel
theorem dL_law__2219 : decode cL_law_ 2219 = .ok (.aload_n 3, 1) := by decide +kernel
theorem dL_law__2220 : decode cL_law_ 2220 = .ok (.invokestatic 264, 3) := by decide +kernel
theorem dL_law__2223 : decode cL_law_ 2223 = .ok (.istore 5, 2) := by decide +kernel
theorem dL_law__2225 : decode cL_law_ 2225 = .ok (.aload_n 2, 1) := by decide +kernel
theorem dL_law__2226 : decode cL_law_ 2226 = .ok (.invokevirtual 266, 3) := by decide +kernel
theorem dL_law__2229 : decode cL_law_ 2229 = .ok (.istore 6, 2) := by decide +kernel
theorem dL_law__2231 : decode cL_law_ 2231 = .ok (.aload_n 2, 1) := by decide +kernel
theorem dL_law__2232 : decode cL_law_ 2232 = .ok (.invokevirtual 144, 3) := by decide +kernel
theorem dL_law__2235 : decode cL_law_ 2235 = .ok (.iload 5, 2) := by decide +kernel
theorem dL_law__2237 : decode cL_law_ 2237 = .ok (.if_icmp .eq 5, 3) := by decide +kernel
theorem dL_law__2240 : decode cL_law_ 2240 = .ok (.iconst 0, 1) := by decide +kernel
theorem dL_law__2241 : decode cL_law_ 2241 = .ok (.ireturn, 1) := by decide +kernel
theorem dL_law__2242 : decode cL_law_ 2242 = .ok (.iload 5, 2) := by decide +kernel
theorem dL_law__2244 : decode cL_law_ 2244 = .ok (.ifCond .ne 15, 3) := by decide +kernel
theorem dL_law__2247 : decode cL_law_ 2247 = .ok (.aload_n 3, 1) := by decide +kernel
theorem dL_law__2248 : decode cL_law_ 2248 = .ok (.iconst 0, 1) := by decide +kernel
theorem dL_law__2249 : decode cL_law_ 2249 = .ok (.laload, 1) := by decide +kernel
theorem dL_law__2250 : decode cL_law_ 2250 = .ok (.iload 6, 2) := by decide +kernel
theorem dL_law__2252 : decode cL_law_ 2252 = .ok (.i2l, 1) := by decide +kernel
theorem dL_law__2253 : decode cL_law_ 2253 = .ok (.lcmp, 1) := by decide +kernel
theorem dL_law__2254 : decode cL_law_ 2254 = .ok (.ifCond .eq 5, 3) := by decide +kernel
theorem dL_law__2257 : decode cL_law_ 2257 = .ok (.iconst 0, 1) := by decide +kernel
theorem dL_law__2258 : decode cL_law_ 2258 = .ok (.ireturn, 1) := by decide +kernel
theorem dL_law__2259 : decode cL_law_ 2259 = .ok (.goto 559, 3) := by decide +kernel
theorem dL_law__2262 : decode cL_law_ 2262 = .ok (.aload_n 1, 1) := by decide +kernel
theorem dL_law__2263 : decode cL_law_ 2263 = .ok (.aload_n 0, 1) := by decide +kernel
theorem dL_law__2264 : decode cL_law_ 2264 = .ok (.iload 4, 2) := by decide +kernel
theorem dL_law__2266 : decode cL_law_ 2266 = .ok (.iconst 1, 1) := by decide +kernel
theorem dL_law__2267 : decode cL_law_ 2267 = .ok (.iadd, 1) := by decide +kernel
theorem dL_law__2268 : decode cL_law_ 2268 = .ok (.iaload, 1) := by decide +kernel
theorem dL_law__2269 : decode cL_law_ 2269 = .ok (.aload_n 3, 1) := by decide +kernel
theorem dL_law__2270 : decode cL_law_ 2270 = .ok (.invokestatic 267, 3) := by decide +kernel
theorem dL_law__2273 : decode cL_law_ 2273 = .ok (.istore 5, 2) := by decide +kernel
theorem dL_law__2275 : decode cL_law_ 2275 = .ok (.aload_n 2, 1) := by decide +kernel
theorem dL_law__2276 : decode cL_law_ 2276 = .ok (.aload_n 0, 1) := by decide +kernel
theorem dL_law__2277 : decode cL_law_ 2277 = .ok (.iload 4, 2) := by decide +kernel
theorem dL_law__2279 : decode cL_law_ 2279 = .ok (.iconst 1, 1) := by decide +kernel
theorem dL_law__2280 : decode cL_law_ 2280 = .ok (.iadd, 1) := by decide +kernel
theorem dL_law__2281 : decode cL_law_ 2281 = .ok (.iaload, 1) := by decide +kernel
theorem dL_law__2282 : decode cL_law_ 2282 = .ok (.invokevirtual 269, 3) := by decide +kernel
theorem dL_law__2285 : decode cL_law_ 2285 = .ok (.istore 6, 2) := by decide +kernel
theorem dL_law__2287 : decode cL_law_ 2287 = .ok (.aload_n 2, 1) := by decide +kernel
theorem dL_law__2288 : decode cL_law_ 2288 = .ok (.invokevirtual 144, 3) := by decide +kernel
theorem dL_law__2291 : decode cL_law_ 2291 = .ok (.iload 5, 2) := by decide +kernel
theorem dL_law__2293 : decode cL_law_ 2293 = .ok (.if_icmp .eq 5, 3) := by decide +kernel
theorem dL_law__2296 : decode cL_law_ 2296 = .ok (.iconst 0, 1) := by decide +kernel
theorem dL_law__2297 : decode cL_law_ 2297 = .ok (.ireturn, 1) := by decide +kernel
theorem dL_law__2298 : decode cL_law_ 2298 = .ok (.iload 5, 2) := by decide +kernel
theorem dL_law__2300 : decode cL_law_ 2300 = .ok (.ifCond .ne 15, 3) := by decide +kernel
theorem dL_law__2303 : decode cL_law_ 2303 = .ok (.aload_n 3, 1) := by decide +kernel
theorem dL_law__2304 : decode cL_law_ 2304 = .ok (.iconst 0, 1) := by decide +kernel
theorem dL_law__2305 : decode cL_law_ 2305 = .ok (.laload, 1) := by decide +kernel
theorem dL_law__2306 : decode cL_law_ 2306 = .ok (.iload 6, 2) := by decide +kernel
theorem dL_law__2308 : decode cL_law_ 2308 = .ok (.i2l, 1) := by decide +kernel
theorem dL_law__2309 : decode cL_law_ 2309 = .ok (.lcmp, 1) := by decide +kernel
theorem dL_law__2310 : decode cL_law_ 2310 = .ok (.ifCond .eq 5, 3) := by decide +kernel
theorem dL_law__2313 : decode cL_law_ 2313 = .ok (.iconst 0, 1) := by decide +kernel
theorem dL_law__2314 : decode cL_law_ 2314 = .ok (.ireturn, 1) := by decide +kernel
theorem dL_law__2315 : decode cL_law_ 2315 = .ok (.goto 503, 3) := by decide +kernel
theorem dL_law__2318 : decode cL_law_ 2318 = .ok (.aload_n 1, 1) := by decide +kernel
theorem dL_law__2319 : decode cL_law_ 2319 = .ok (.aload_n 0, 1) := by decide +kernel
theorem dL_law__2320 : decode cL_law_ 2320 = .ok (.iload 4, 2) := by decide +kernel
theorem dL_law__2322 : decode cL_law_ 2322 = .ok (.iconst 1, 1) := by decide +kernel
theorem dL_law__2323 : decode cL_law_ 2323 = .ok (.iadd, 1) := by decide +kernel
theorem dL_law__2324 : decode cL_law_ 2324 = .ok (.iaload, 1) := by decide +kernel
theorem dL_law__2325 : decode cL_law_ 2325 = .ok (.ifCond .eq 7, 3) := by decide +kernel
theorem dL_law__2328 : decode cL_law_ 2328 = .ok (.iconst 1, 1) := by decide +kernel
theorem dL_law__2329 : decode cL_law_ 2329 = .ok (.goto 4, 3) := by decide +kernel
theorem dL_law__2332 : decode cL_law_ 2332 = .ok (.iconst 0, 1) := by decide +kernel
theorem dL_law__2333 : decode cL_law_ 2333 = .ok (.invokevirtual 270, 3) := by decide +kernel
theorem dL_law__2336 : decode cL_law_ 2336 = .ok (.aload_n 2, 1) := by decide +kernel
theorem dL_law__2337 : decode cL_law_ 2337 = .ok (.aload_n 0, 1) := by decide +kernel
theorem dL_law__2338 : decode cL_law_ 2338 = .ok (.iload 4, 2) := by decide +kernel
theorem dL_law__2340 : decode cL_law_ 2340 = .ok (.iconst 1, 1) := by decide +kernel
