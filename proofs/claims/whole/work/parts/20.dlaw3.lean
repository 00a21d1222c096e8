theorem dL_law_1822 : decode cL_law 1822 = .ok (.iload 4, 2) := by decide +kernel
theorem dL_law_1824 : decode cL_law 1824 = .ok (.bipush 6, 2) := by decide +kernel
theorem dL_law_1826 : decode cL_law 1826 = .ok (.iadd, 1) := by decide +kernel
theorem dL_law_1827 : decode cL_law 1827 = .ok (.iaload, 1) := by decide +kernel
theorem dL_law_1828 : decode cL_law 1828 = .ok (.i2l, 1) := by decide +kernel
theorem dL_law_1829 : decode cL_law 1829 = .ok (.ldc2_w 136, 3) := by decide +kernel
theorem dL_law_1832 : decode cL_law 1832 = .ok (.land, 1) := by decide +kernel
theorem dL_law_1833 : decode cL_law 1833 = .ok (.lor, 1) := by decide +kernel
theorem dL_law_1834 : decode cL_law 1834 = .ok (.aload_n 3, 1) := by decide +kernel
theorem dL_law_1835 : decode cL_law 1835 = .ok (.invokestatic 192, 3) := by decide +kernel
theorem dL_law_1838 : decode cL_law 1838 = .ok (.istore 5, 2) := by decide +kernel
theorem dL_law_1840 : decode cL_law 1840 = .ok (.aload_n 2, 1) := by decide +kernel
theorem dL_law_1841 : decode cL_law 1841 = .ok (.aload_n 0, 1) := by decide +kernel
theorem dL_law_1842 : decode cL_law 1842 = .ok (.iload 4, 2) := by decide +kernel
theorem dL_law_1844 : decode cL_law 1844 = .ok (.iconst 1, 1) := by decide +kernel
theorem dL_law_1845 : decode cL_law 1845 = .ok (.iadd, 1) := by decide +kernel
theorem dL_law_1846 : decode cL_law 1846 = .ok (.iaload, 1) := by decide +kernel
theorem dL_law_1847 : decode cL_law 1847 = .ok (.aload_n 0, 1) := by decide +kernel
theorem dL_law_1848 : decode cL_law 1848 = .ok (.iload 4, 2) := by decide +kernel
theorem dL_law_1850 : decode cL_law 1850 = .ok (.iconst 2, 1) := by decide +kernel
theorem dL_law_1851 : decode cL_law 1851 = .ok (.iadd, 1) := by decide +kernel
theorem dL_law_1852 : decode cL_law 1852 = .ok (.iaload, 1) := by decide +kernel
theorem dL_law_1853 : decode cL_law 1853 = .ok (.aload_n 0, 1) := by decide +kernel
theorem dL_law_1854 : decode cL_law 1854 = .ok (.iload 4, 2) := by decide +kernel
theorem dL_law_1856 : decode cL_law 1856 = .ok (.iconst 3, 1) := by decide +kernel
theorem dL_law_1857 : decode cL_law 1857 = .ok (.iadd, 1) := by decide +kernel
theorem dL_law_1858 : decode cL_law 1858 = .ok (.iaload, 1) := by decide +kernel
theorem dL_law_1859 : decode cL_law 1859 = .ok (.aload_n 0, 1) := by decide +kernel
theorem dL_law_1860 : decode cL_law 1860 = .ok (.iload 4, 2) := by decide +kernel
theorem dL_law_1862 : decode cL_law 1862 = .ok (.iconst 4, 1) := by decide +kernel
theorem dL_law_1863 : decode cL_law 1863 = .ok (.iadd, 1) := by decide +kernel
theorem dL_law_1864 : decode cL_law 1864 = .ok (.iaload, 1) := by decide +kernel
theorem dL_law_1865 : decode cL_law 1865 = .ok (.aload_n 0, 1) := by decide +kernel
theorem dL_law_1866 : decode cL_law 1866 = .ok (.iload 4, 2) := by decide +kernel
theorem dL_law_1868 : decode cL_law 1868 = .ok (.iconst 5, 1) := by decide +kernel
theorem dL_law_1869 : decode cL_law 1869 = .ok (.iadd, 1) := by decide +kernel
theorem dL_law_1870 : decode cL_law 1870 = .ok (.iaload, 1) := by decide +kernel
theorem dL_law_1871 : decode cL_law 1871 = .ok (.i2l, 1) := by decide +kernel
theorem dL_law_1872 : decode cL_law 1872 = .ok (.bipush 32, 2) := by decide +kernel
theorem dL_law_1874 : decode cL_law 1874 = .ok (.lshl, 1) := by decide +kernel
theorem dL_law_1875 : decode cL_law 1875 = .ok (.aload_n 0, 1) := by decide +kernel
theorem dL_law_1876 : decode cL_law 1876 = .ok (.iload 4, 2) := by decide +kernel
theorem dL_law_1878 : decode cL_law 1878 = .ok (.bipush 6, 2) := by decide +kernel
theorem dL_law_1880 : decode cL_law 1880 = .ok (.iadd, 1) := by decide +kernel
theorem dL_law_1881 : decode cL_law 1881 = .ok (.iaload, 1) := by decide +kernel
theorem dL_law_1882 : decode cL_law 1882 = .ok (.i2l, 1) := by decide +kernel
theorem dL_law_1883 : decode cL_law 1883 = .ok (.ldc2_w 136, 3) := by decide +kernel
theorem dL_law_1886 : decode cL_law 1886 = .ok (.land, 1) := by decide +kernel
theorem dL_law_1887 : decode cL_law 1887 = .ok (.lor, 1) := by decide +kernel
theorem dL_law_1888 : decode cL_law 1888 = .ok (.invokevirtual 195, 3) := by decide +kernel
theorem dL_law_1891 : decode cL_law 1891 = .ok (.istore 6, 2) := by decide +kernel
theorem dL_law_1893 : decode cL_law 1893 = .ok (.aload_n 2, 1) := by decide +kernel
theorem dL_law_1894 : decode cL_law 1894 = .ok (.invokevirtual 125, 3) := by decide +kernel
theorem dL_law_1897 : decode cL_law 1897 = .ok (.iload 5, 2) := by decide +kernel
theorem dL_law_1899 : decode cL_law 1899 = .ok (.if_icmp .eq 5, 3) := by decide +kernel
theorem dL_law_1902 : decode cL_law 1902 = .ok (.iconst 0, 1) := by decide +kernel
theorem dL_law_1903 : decode cL_law 1903 = .ok (.ireturn, 1) := by decide +kernel
theorem dL_law_1904 : decode cL_law 1904 = .ok (.iload 5, 2) := by decide +kernel
theorem dL_law_1906 : decode cL_law 1906 = .ok (.ifCond .ne 15, 3) := by decide +kernel
theorem dL_law_1909 : decode cL_law 1909 = .ok (.aload_n 3, 1) := by decide +kernel
theorem dL_law_1910 : decode cL_law 1910 = .ok (.iconst 0, 1) := by decide +kernel
theorem dL_law_1911 : decode cL_law 1911 = .ok (.laload, 1) := by decide +kernel
theorem dL_law_1912 : decode cL_law 1912 = .ok (.iload 6, 2) := by decide +kernel
theorem dL_law_1914 : decode cL_law 1914 = .ok (.i2l, 1) := by decide +kernel
theorem dL_law_1915 : decode cL_law 1915 = .ok (.lcmp, 1) := by decide +kernel
theorem dL_law_1916 : decode cL_law 1916 = .ok (.ifCond .eq 5, 3) := by decide +kernel
theorem dL_law_1919 : decode cL_law 1919 = .ok (.iconst 0, 1) := by decide +kernel
theorem dL_law_1920 : decode cL_law 1920 = .ok (.ireturn, 1) := by decide +kernel
theorem dL_law_1921 : decode cL_law 1921 = .ok (.goto 438, 3) := by decide +kernel
theorem dL_law_1924 : decode cL_law 1924 = .ok (.aload_n 1, 1) := by decide +kernel
theorem dL_law_1925 : decode cL_law 1925 = .ok (.aload_n 0, 1) := by decide +kernel
theorem dL_law_1926 : decode cL_law 1926 = .ok (.iload 4, 2) := by decide +kernel
theorem dL_law_1928 : decode cL_law 1928 = .ok (.iconst 1, 1) := by decide +kernel
theorem dL_law_1929 : decode cL_law 1929 = .ok (.iadd, 1) := by decide +kernel
theorem dL_law_1930 : decode cL_law 1930 = .ok (.iaload, 1) := by decide +kernel
theorem dL_law_1931 : decode cL_law 1931 = .ok (.aload_n 0, 1) := by decide +kernel
theorem dL_law_1932 : decode cL_law 1932 = .ok (.iload 4, 2) := by decide +kernel
theorem dL_law_1934 : decode cL_law 1934 = .ok (.iconst 2, 1) := by decide +kernel
theorem dL_law_1935 : decode cL_law 1935 = .ok (.iadd, 1) := by decide +kernel
theorem dL_law_1936 : decode cL_law 1936 = .ok (.iaload, 1) := by decide +kernel
theorem dL_law_1937 : decode cL_law 1937 = .ok (.aload_n 3, 1) := by decide +kernel
theorem dL_law_1938 : decode cL_law 1938 = .ok (.invokestatic 196, 3) := by decide +kernel
theorem dL_law_1941 : decode cL_law 1941 = .ok (.istore 5, 2) := by decide +kernel
theorem dL_law_1943 : decode cL_law 1943 = .ok (.aload_n 2, 1) := by decide +kernel
theorem dL_law_1944 : decode cL_law 1944 = .ok (.aload_n 0, 1) := by decide +kernel
theorem dL_law_1945 : decode cL_law 1945 = .ok (.iload 4, 2) := by decide +kernel
theorem dL_law_1947 : decode cL_law 1947 = .ok (.iconst 1, 1) := by decide +kernel
theorem dL_law_1948 : decode cL_law 1948 = .ok (.iadd, 1) := by decide +kernel
theorem dL_law_1949 : decode cL_law 1949 = .ok (.iaload, 1) := by decide +kernel
theorem dL_law_1950 : decode cL_law 1950 = .ok (.aload_n 0, 1) := by decide +kernel
theorem dL_law_1951 : decode cL_law 1951 = .ok (.iload 4, 2) := by decide +kernel
theorem dL_law_1953 : decode cL_law 1953 = .ok (.iconst 2, 1) := by decide +kernel
theorem dL_law_1954 : decode cL_law 1954 = .ok (.iadd, 1) := by decide +kernel
theorem dL_law_1955 : decode cL_law 1955 = .ok (.iaload, 1) := by decide +kernel
theorem dL_law_1956 : decode cL_law 1956 = .ok (.invokevirtual 198, 3) := by decide +kernel
theorem dL_law_1959 : decode cL_law 1959 = .ok (.lstore 6, 2) := by decide +kernel
theorem dL_law_1961 : decode cL_law 1961 = .ok (.aload_n 2, 1) := by decide +kernel
theorem dL_law_1962 : decode cL_law 1962 = .ok (.invokevirtual 125, 3) := by decide +kernel
theorem dL_law_1965 : decode cL_law 1965 = .ok (.iload 5, 2) := by decide +kernel
theorem dL_law_1967 : decode cL_law 1967 = .ok (.if_icmp .eq 5, 3) := by decide +kernel
theorem dL_law_1970 : decode cL_law 1970 = .ok (.iconst 0, 1) := by decide +kernel
theorem dL_law_1971 : decode cL_law 1971 = .ok (.ireturn, 1) := by decide +kernel
theorem dL_law_1972 : decode cL_law 1972 = .ok (.iload 5, 2) := by decide +kernel
theorem dL_law_1974 : decode cL_law 1974 = .ok (.ifCond .ne 14, 3) := by decide +kernel
theorem dL_law_1977 : decode cL_law 1977 = .ok (.aload_n 3, 1) := by decide +kernel
theorem dL_law_1978 : decode cL_law 1978 = .ok (.iconst 0, 1) := by decide +kernel
theorem dL_law_1979 : decode cL_law 1979 = .ok (.laload, 1) := by decide +kernel
theorem dL_law_1980 : decode cL_law 1980 = .ok (.lload 6, 2) := by decide +kernel
theorem dL_law_1982 : decode cL_law 1982 = .ok (.lcmp, 1) := by decide +kernel
theorem dL_law_1983 : decode cL_law 1983 = .ok (.ifCond .eq 5, 3) := by decide +kernel
theorem dL_law_1986 : decode cL_law 1986 = .ok (.iconst 0, 1) := by decide +kernel
theorem dL_law_1987 : decode cL_law 1987 = .ok (.ireturn, 1) := by decide +kernel
theorem dL_law_1988 : decode cL_law 1988 = .ok (.goto 371, 3) := by decide +kernel
theorem dL_law_1991 : decode cL_law 1991 = .ok (.aload_n 1, 1) := by decide +kernel
theorem dL_law_1992 : decode cL_law 1992 = .ok (.aload_n 0, 1) := by decide +kernel
theorem dL_law_1993 : decode cL_law 1993 = .ok (.iload 4, 2) := by decide +kernel
theorem dL_law_1995 : decode cL_law 1995 = .ok (.iconst 1, 1) := by decide +kernel
theorem dL_law_1996 : decode cL_law 1996 = .ok (.iadd, 1) := by decide +kernel
theorem dL_law_1997 : decode cL_law 1997 = .ok (.iaload, 1) := by decide +kernel
theorem dL_law_1998 : decode cL_law 1998 = .ok (.aload_n 0, 1) := by decide +kernel
theorem dL_law_1999 : decode cL_law 1999 = .ok (.iload 4, 2) := by decide +kernel
theorem dL_law_2001 : decode cL_law 2001 = .ok (.iconst 2, 1) := by decide +kernel
theorem dL_law_2002 : decode cL_law 2002 = .ok (.iadd, 1) := by decide +kernel
theorem dL_law_2003 : decode cL_law 2003 = .ok (.iaload, 1) := by decide +kernel
theorem dL_law_2004 : decode cL_law 2004 = .ok (.aload_n 3, 1) := by decide +kernel
theorem dL_law_2005 : decode cL_law 2005 = .ok (.invokestatic 199, 3) := by decide +kernel
theorem dL_law_2008 : decode cL_law 2008 = .ok (.istore 5, 2) := by decide +kernel
theorem dL_law_2010 : decode cL_law 2010 = .ok (.aload_n 2, 1) := by decide +kernel
theorem dL_law_2011 : decode cL_law 2011 = .ok (.aload_n 0, 1) := by decide +kernel
theorem dL_law_2012 : decode cL_law 2012 = .ok (.iload 4, 2) := by decide +kernel
theorem dL_law_2014 : decode cL_law 2014 = .ok (.iconst 1, 1) := by decide +kernel
theorem dL_law_2015 : decode cL_law 2015 = .ok (.iadd, 1) := by decide +kernel
theorem dL_law_2016 : decode cL_law 2016 = .ok (.iaload, 1) := by decide +kernel
theorem dL_law_2017 : decode cL_law 2017 = .ok (.aload_n 0, 1) := by decide +kernel
theorem dL_law_2018 : decode cL_law 2018 = .ok (.iload 4, 2) := by decide +kernel
theorem dL_law_2020 : decode cL_law 2020 = .ok (.iconst 2, 1) := by decide +kernel
theorem dL_law_2021 : decode cL_law 2021 = .ok (.iadd, 1) := by decide +kernel
theorem dL_law_2022 : decode cL_law 2022 = .ok (.iaload, 1) := by decide +kernel
theorem dL_law_2023 : decode cL_law 2023 = .ok (.invokevirtual 201, 3) := by decide +kernel
theorem dL_law_2026 : decode cL_law 2026 = .ok (.istore 6, 2) := by decide +kernel
theorem dL_law_2028 : decode cL_law 2028 = .ok (.aload_n 2, 1) := by decide +kernel
theorem dL_law_2029 : decode cL_law 2029 = .ok (.invokevirtual 125, 3) := by decide +kernel
theorem dL_law_2032 : decode cL_law 2032 = .ok (.iload 5, 2) := by decide +kernel
theorem dL_law_2034 : decode cL_law 2034 = .ok (.if_icmp .eq 5, 3) := by decide +kernel
theorem dL_law_2037 : decode cL_law 2037 = .ok (.iconst 0, 1) := by decide +kernel
theorem dL_law_2038 : decode cL_law 2038 = .ok (.ireturn, 1) := by decide +kernel
theorem dL_law_2039 : decode cL_law 2039 = .ok (.iload 5, 2) := by decide +kernel
theorem dL_law_2041 : decode cL_law 2041 = .ok (.ifCond .ne 15, 3) := by decide +kernel
theorem dL_law_2044 : decode cL_law 2044 = .ok (.aload_n 3, 1) := by decide +kernel
theorem dL_law_2045 : decode cL_law 2045 = .ok (.iconst 0, 1) := by decide +kernel
theorem dL_law_2046 : decode cL_law 2046 = .ok (.laload, 1) := by decide +kernel
theorem dL_law_2047 : decode cL_law 2047 = .ok (.iload 6, 2) := by decide +kernel
theorem dL_law_2049 : decode cL_law 2049 = .ok (.i2l, 1) := by decide +kernel
theorem dL_law_2050 : decode cL_law 2050 = .ok (.lcmp, 1) := by decide +kernel
theorem dL_law_2051 : decode cL_law 2051 = .ok (.ifCond .eq 5, 3) := by decide +kernel
theorem dL_law_2054 : decode cL_law 2054 = .ok (.iconst 0, 1) := by decide +kernel
theorem dL_law_2055 : decode cL_law 2055 = .ok (.ireturn, 1) := by decide +kernel
theorem dL_law_2056 : decode cL_law 2056 = .ok (.goto 303, 3) := by decide +kernel
theorem dL_law_2059 : decode cL_law 2059 = .ok (.aload_n 1, 1) := by decide +kernel
theorem dL_law_2060 : decode cL_law 2060 = .ok (.aload_n 0, 1) := by decide +kernel
theorem dL_law_2061 : decode cL_law 2061 = .ok (.iload 4, 2) := by decide +kernel
theorem dL_law_2063 : decode cL_law 2063 = .ok (.iconst 1, 1) := by decide +kernel
theorem dL_law_2064 : decode cL_law 2064 = .ok (.iadd, 1) := by decide +kernel
theorem dL_law_2065 : decode cL_law 2065 = .ok (.iaload, 1) := by decide +kernel
theorem dL_law_2066 : decode cL_law 2066 = .ok (.aload_n 0, 1) := by decide +kernel
theorem dL_law_2067 : decode cL_law 2067 = .ok (.iload 4, 2) := by decide +kernel
theorem dL_law_2069 : decode cL_law 2069 = .ok (.iconst 2, 1) := by decide +kernel
theorem dL_law_2070 : decode cL_law 2070 = .ok (.iadd, 1) := by decide +kernel
theorem dL_law_2071 : decode cL_law 2071 = .ok (.iaload, 1) := by decide +kernel
theorem dL_law_2072 : decode cL_law 2072 = .ok (.aload_n 3, 1) := by decide +kernel
theorem dL_law_2073 : decode cL_law 2073 = .ok (.invokestatic 202, 3) := by decide +kernel
theorem dL_law_2076 : decode cL_law 2076 = .ok (.istore 5, 2) := by decide +kernel
theorem dL_law_2078 : decode cL_law 2078 = .ok (.aload_n 2, 1) := by decide +kernel
theorem dL_law_2079 : decode cL_law 2079 = .ok (.aload_n 0, 1) := by decide +kernel
theorem dL_law_2080 : decode cL_law 2080 = .ok (.iload 4, 2) := by decide +kernel
theorem dL_law_2082 : decode cL_law 2082 = .ok (.iconst 1, 1) := by decide +kernel
theorem dL_law_2083 : decode cL_law 2083 = .ok (.iadd, 1) := by decide +kernel
theorem dL_law_2084 : decode cL_law 2084 = .ok (.iaload, 1) := by decide +kernel
theorem dL_law_2085 : decode cL_law 2085 = .ok (.aload_n 0, 1) := by decide +kernel
theorem dL_law_2086 : decode cL_law 2086 = .ok (.iload 4, 2) := by decide +kernel
theorem dL_law_2088 : decode cL_law 2088 = .ok (.iconst 2, 1) := by decide +kernel
theorem dL_law_2089 : decode cL_law 2089 = .ok (.iadd, 1) := by decide +kernel
theorem dL_law_2090 : decode cL_law 2090 = .ok (.iaload, 1) := by decide +kernel
theorem dL_law_2091 : decode cL_law 2091 = .ok (.invokevirtual 204, 3) := by decide +kernel
theorem dL_law_2094 : decode cL_law 2094 = .ok (.istore 6, 2) := by decide +kernel
theorem dL_law_2096 : decode cL_law 2096 = .ok (.aload_n 2, 1) := by decide +kernel
theorem dL_law_2097 : decode cL_law 2097 = .ok (.invokevirtual 125, 3) := by decide +kernel
theorem dL_law_2100 : decode cL_law 2100 = .ok (.iload 5, 2) := by decide +kernel
theorem dL_law_2102 : decode cL_law 2102 = .ok (.if_icmp .eq 5, 3) := by decide +kernel
theorem dL_law_2105 : decode cL_law 2105 = .ok (.iconst 0, 1) := by decide +kernel
theorem dL_law_2106 : decode cL_law 2106 = .ok (.ireturn, 1) := by decide +kernel
theorem dL_law_2107 : decode cL_law 2107 = .ok (.iload 5, 2) := by decide +kernel
theorem dL_law_2109 : decode cL_law 2109 = .ok (.ifCond .ne 15, 3) := by decide +kernel
theorem dL_law_2112 : decode cL_law 2112 = .ok (.aload_n 3, 1) := by decide +kernel
theorem dL_law_2113 : decode cL_law 2113 = .ok (.iconst 0, 1) := by decide +kernel
theorem dL_law_2114 : decode cL_law 2114 = .ok (.laload, 1) := by decide +kernel
theorem dL_law_2115 : decode cL_law 2115 = .ok (.iload 6, 2) := by decide +kernel
theorem dL_law_2117 : decode cL_law 2117 = .ok (.i2l, 1) := by decide +kernel
theorem dL_law_2118 : decode cL_law 2118 = .ok (.lcmp, 1) := by decide +kernel
theorem dL_law_2119 : decode cL_law 2119 = .ok (.ifCond .eq 5, 3) := by decide +kernel
theorem dL_law_2122 : decode cL_law 2122 = .ok (.iconst 0, 1) := by decide +kernel
theorem dL_law_2123 : decode cL_law 2123 = .ok (.ireturn, 1) := by decide +kernel
theorem dL_law_2124 : decode cL_law 2124 = .ok (.goto 235, 3) := by decide +kernel
theorem dL_law_2127 : decode cL_law 2127 = .ok (.aload_n 1, 1) := by decide +kernel
theorem dL_law_2128 : decode cL_law 2128 = .ok (.aload_n 0, 1) := by decide +kernel
theorem dL_law_2129 : decode cL_law 2129 = .ok (.iload 4, 2) := by decide +kernel
theorem dL_law_2131 : decode cL_law 2131 = .ok (.iconst 1, 1) := by decide +kernel
theorem dL_law_2132 : decode cL_law 2132 = .ok (.iadd, 1) := by decide +kernel
theorem dL_law_2133 : decode cL_law 2133 = .ok (.iaload, 1) := by decide +kernel
theorem dL_law_2134 : decode cL_law 2134 = .ok (.aload_n 3, 1) := by decide +kernel
theorem dL_law_2135 : decode cL_law 2135 = .ok (.invokestatic 205, 3) := by decide +kernel
theorem dL_law_2138 : decode cL_law 2138 = .ok (.istore 5, 2) := by decide +kernel
theorem dL_law_2140 : decode cL_law 2140 = .ok (.aload_n 2, 1) := by decide +kernel
theorem dL_law_2141 : decode cL_law 2141 = .ok (.aload_n 0, 1) := by decide +kernel
theorem dL_law_2142 : decode cL_law 2142 = .ok (.iload 4, 2) := by decide +kernel
theorem dL_law_2144 : decode cL_law 2144 = .ok (.iconst 1, 1) := by decide +kernel
theorem dL_law_2145 : decode cL_law 2145 = .ok (.iadd, 1) := by decide +kernel
theorem dL_law_2146 : decode cL_law 2146 = .ok (.iaload, 1) := by decide +kernel
theorem dL_law_2147 : decode cL_law 2147 = .ok (.invokevirtual 207, 3) := by decide +kernel
theorem dL_law_2150 : decode cL_law 2150 = .ok (.istore 6, 2) := by decide +kernel
theorem dL_law_2152 : decode cL_law 2152 = .ok (.aload_n 2, 1) := by decide +kernel
theorem dL_law_2153 : decode cL_law 2153 = .ok (.invokevirtual 125, 3) := by decide +kernel
theorem dL_law_2156 : decode cL_law 2156 = .ok (.iload 5, 2) := by decide +kernel
theorem dL_law_2158 : decode cL_law 2158 = .ok (.if_icmp .eq 5, 3) := by decide +kernel
theorem dL_law_2161 : decode cL_law 2161 = .ok (.iconst 0, 1) := by decide +kernel
theorem dL_law_2162 : decode cL_law 2162 = .ok (.ireturn, 1) := by decide +kernel
theorem dL_law_2163 : decode cL_law 2163 = .ok (.iload 5, 2) := by decide +kernel
theorem dL_law_2165 : decode cL_law 2165 = .ok (.ifCond .ne 15, 3) := by decide +kernel
theorem dL_law_2168 : decode cL_law 2168 = .ok (.aload_n 3, 1) := by decide +kernel
theorem dL_law_2169 : decode cL_law 2169 = .ok (.iconst 0, 1) := by decide +kernel
theorem dL_law_2170 : decode cL_law 2170 = .ok (.laload, 1) := by decide +kernel
theorem dL_law_2171 : decode cL_law 2171 = .ok (.iload 6, 2) := by decide +kernel
theorem dL_law_2173 : decode cL_law 2173 = .ok (.i2l, 1) := by decide +kernel
theorem dL_law_2174 : decode cL_law 2174 = .ok (.lcmp, 1) := by decide +kernel
theorem dL_law_2175 : decode cL_law 2175 = .ok (.ifCond .eq 5, 3) := by decide +kernel
theorem dL_law_2178 : decode cL_law 2178 = .ok (.iconst 0, 1) := by decide +kernel
theorem dL_law_2179 : decode cL_law 2179 = .ok (.ireturn, 1) := by decide +kernel
theorem dL_law_2180 : decode cL_law 2180 = .ok (.goto 179, 3) := by decide +kernel
theorem dL_law_2183 : decode cL_law 2183 = .ok (.aload_n 1, 1) := by decide +kernel
theorem dL_law_2184 : decode cL_law 2184 = .ok (.invokevirtual 208, 3) := by decide +kernel
theorem dL_law_2187 : decode cL_law 2187 = .ok (.aload_n 2, 1) := by decide +kernel
theorem dL_law_2188 : decode cL_law 2188 = .ok (.invokevirtual 211, 3) := by decide +kernel
theorem dL_law_2191 : decode cL_law 2191 = .ok (.if_icmp .eq 168, 3) := by decide +kernel
theorem dL_law_2194 : decode cL_law 2194 = .ok (.iconst 0, 1) := by decide +kernel
theorem dL_law_2195 : decode cL_law 2195 = .ok (.ireturn, 1) := by decide +kernel
theorem dL_law_2196 : decode cL_law 2196 = .ok (.aload_n 1, 1) := by decide +kernel
theorem dL_law_2197 : decode cL_law 2197 = .ok (.aload_n 0, 1) := by decide +kernel
theorem dL_law_2198 : decode cL_law 2198 = .ok (.iload 4, 2) := by decide +kernel
theorem dL_law_2200 : decode cL_law 2200 = .ok (.iconst 1, 1) := by decide +kernel
theorem dL_law_2201 : decode cL_law 2201 = .ok (.iadd, 1) := by decide +kernel
theorem dL_law_2202 : decode cL_law 2202 = .ok (.iaload, 1) := by decide +kernel
theorem dL_law_2203 : decode cL_law 2203 = .ok (.invokestatic 212, 3) := by decide +kernel
theorem dL_law_2206 : decode cL_law 2206 = .ok (.istore 5, 2) := by decide +kernel
theorem dL_law_2208 : decode cL_law 2208 = .ok (.aload_n 2, 1) := by decide +kernel
theorem dL_law_2209 : decode cL_law 2209 = .ok (.aload_n 0, 1) := by decide +kernel
theorem dL_law_2210 : decode cL_law 2210 = .ok (.iload 4, 2) := by decide +kernel
theorem dL_law_2212 : decode cL_law 2212 = .ok (.iconst 1, 1) := by decide +kernel
theorem dL_law_2213 : decode cL_law 2213 = .ok (.iadd, 1) := by decide +kernel
theorem dL_law_2214 : decode cL_law 2214 = .ok (.iaload, 1) := by decide +kernel
theorem dL_law_2215 : decode cL_law 2215 = .ok (.invokevirtual 215, 3) := by decide +kernel
theorem dL_law_2218 : decode cL_law 2218 = .ok (.aload_n 2, 1) := by decide +kernel
theorem dL_law_2219 : decode cL_law 2219 = .ok (.invokevirtual 125, 3) := by decide +kernel
theorem dL_law_2222 : decode cL_law 2222 = .ok (.iload 5, 2) := by decide +kernel
theorem dL_law_2224 : decode cL_law 2224 = .ok (.if_icmp .eq 5, 3) := by decide +kernel
theorem dL_law_2227 : decode cL_law 2227 = .ok (.iconst 0, 1) := by decide +kernel
theorem dL_law_2228 : decode cL_law 2228 = .ok (.ireturn, 1) := by decide +kernel
theorem dL_law_2229 : decode cL_law 2229 = .ok (.goto 130, 3) := by decide +kernel
theorem dL_law_2232 : decode cL_law 2232 = .ok (.aload_n 1, 1) := by decide +kernel
theorem dL_law_2233 : decode cL_law 2233 = .ok (.invokevirtual 216, 3) := by decide +kernel
theorem dL_law_2236 : decode cL_law 2236 = .ok (.aload_n 2, 1) := by decide +kernel
theorem dL_law_2237 : decode cL_law 2237 = .ok (.invokevirtual 219, 3) := by decide +kernel
theorem dL_law_2240 : decode cL_law 2240 = .ok (.if_icmp .eq 119, 3) := by decide +kernel
theorem dL_law_2243 : decode cL_law 2243 = .ok (.iconst 0, 1) := by decide +kernel
theorem dL_law_2244 : decode cL_law 2244 = .ok (.ireturn, 1) := by decide +kernel
theorem dL_law_2245 : decode cL_law 2245 = .ok (.aload_n 1, 1) := by decide +kernel
theorem dL_law_2246 : decode cL_law 2246 = .ok (.invokevirtual 220, 3) := by decide +kernel
theorem dL_law_2249 : decode cL_law 2249 = .ok (.aload_n 2, 1) := by decide +kernel
theorem dL_law_2250 : decode cL_law 2250 = .ok (.invokevirtual 224, 3) := by decide +kernel
theorem dL_law_2253 : decode cL_law 2253 = .ok (.if_icmp .eq 106, 3) := by decide +kernel
theorem dL_law_2256 : decode cL_law 2256 = .ok (.iconst 0, 1) := by decide +kernel
theorem dL_law_2257 : decode cL_law 2257 = .ok (.ireturn, 1) := by decide +kernel
theorem dL_law_2258 : decode cL_law 2258 = .ok (.aload_n 1, 1) := by decide +kernel
theorem dL_law_2259 : decode cL_law 2259 = .ok (.invokevirtual 225, 3) := by decide +kernel
theorem dL_law_2262 : decode cL_law 2262 = .ok (.aload_n 2, 1) := by decide +kernel
theorem dL_law_2263 : decode cL_law 2263 = .ok (.invokevirtual 228, 3) := by decide +kernel
theorem dL_law_2266 : decode cL_law 2266 = .ok (.if_icmp .eq 93, 3) := by decide +kernel
theorem dL_law_2269 : decode cL_law 2269 = .ok (.iconst 0, 1) := by decide +kernel
theorem dL_law_2270 : decode cL_law 2270 = .ok (.ireturn, 1) := by decide +kernel
theorem dL_law_2271 : decode cL_law 2271 = .ok (.aload_n 1, 1) := by decide +kernel
theorem dL_law_2272 : decode cL_law 2272 = .ok (.aload_n 3, 1) := by decide +kernel
theorem dL_law_2273 : decode cL_law 2273 = .ok (.invokestatic 229, 3) := by decide +kernel
theorem dL_law_2276 : decode cL_law 2276 = .ok (.istore 5, 2) := by decide +kernel
theorem dL_law_2278 : decode cL_law 2278 = .ok (.aload_n 2, 1) := by decide +kernel
theorem dL_law_2279 : decode cL_law 2279 = .ok (.invokevirtual 231, 3) := by decide +kernel
theorem dL_law_2282 : decode cL_law 2282 = .ok (.istore 6, 2) := by decide +kernel
theorem dL_law_2284 : decode cL_law 2284 = .ok (.aload_n 2, 1) := by decide +kernel
theorem dL_law_2285 : decode cL_law 2285 = .ok (.invokevirtual 125, 3) := by decide +kernel
theorem dL_law_2288 : decode cL_law 2288 = .ok (.iload 5, 2) := by decide +kernel
theorem dL_law_2290 : decode cL_law 2290 = .ok (.if_icmp .eq 5, 3) := by decide +kernel
theorem dL_law_2293 : decode cL_law 2293 = .ok (.iconst 0, 1) := by decide +kernel
theorem dL_law_2294 : decode cL_law 2294 = .ok (.ireturn, 1) := by decide +kernel
theorem dL_law_2295 : decode cL_law 2295 = .ok (.iload 5, 2) := by decide +kernel
theorem dL_law_2297 : decode cL_law 2297 = .ok (.ifCond .ne 15, 3) := by decide +kernel
theorem dL_law_2300 : decode cL_law 2300 = .ok (.aload_n 3, 1) := by decide +kernel
theorem dL_law_2301 : decode cL_law 2301 = .ok (.iconst 0, 1) := by decide +kernel
theorem dL_law_2302 : decode cL_law 2302 = .ok (.laload, 1) := by decide +kernel
theorem dL_law_2303 : decode cL_law 2303 = .ok (.iload 6, 2) := by decide +kernel
theorem dL_law_2305 : decode cL_law 2305 = .ok (.i2l, 1) := by decide +kernel
theorem dL_law_2306 : decode cL_law 2306 = .ok (.lcmp, 1) := by decide +kernel
theorem dL_law_2307 : decode cL_law 2307 = .ok (.ifCond .eq 5, 3) := by decide +kernel
theorem dL_law_2310 : decode cL_law 2310 = .ok (.iconst 0, 1) := by decide +kernel
theorem dL_law_2311 : decode cL_law 2311 = .ok (.ireturn, 1) := by decide +kernel
theorem dL_law_2312 : decode cL_law 2312 = .ok (.goto 47, 3) := by decide +kernel
theorem dL_law_2315 : decode cL_law 2315 = .ok (.aload_n 1, 1) := by decide +kernel
theorem dL_law_2316 : decode cL_law 2316 = .ok (.aload_n 3, 1) := by decide +kernel
theorem dL_law_2317 : decode cL_law 2317 = .ok (.invokestatic 232, 3) := by decide +kernel
theorem dL_law_2320 : decode cL_law 2320 = .ok (.istore 5, 2) := by decide +kernel
theorem dL_law_2322 : decode cL_law 2322 = .ok (.aload_n 2, 1) := by decide +kernel
theorem dL_law_2323 : decode cL_law 2323 = .ok (.invokevirtual 234, 3) := by decide +kernel
theorem dL_law_2326 : decode cL_law 2326 = .ok (.istore 6, 2) := by decide +kernel
theorem dL_law_2328 : decode cL_law 2328 = .ok (.aload_n 2, 1) := by decide +kernel
theorem dL_law_2329 : decode cL_law 2329 = .ok (.invokevirtual 125, 3) := by decide +kernel
theorem dL_law_2332 : decode cL_law 2332 = .ok (.iload 5, 2) := by decide +kernel
theorem dL_law_2334 : decode cL_law 2334 = .ok (.if_icmp .eq 5, 3) := by decide +kernel
theorem dL_law_2337 : decode cL_law 2337 = .ok (.iconst 0, 1) := by decide +kernel
theorem dL_law_2338 : decode cL_law 2338 = .ok (.ireturn, 1) := by decide +kernel
theorem dL_law_2339 : decode cL_law 2339 = .ok (.iload 5, 2) := by decide +kernel
theorem dL_law_2341 : decode cL_law 2341 = .ok (.ifCond .ne 15, 3) := by decide +kernel
theorem dL_law_2344 : decode cL_law 2344 = .ok (.aload_n 3, 1) := by decide +kernel
theorem dL_law_2345 : decode cL_law 2345 = .ok (.iconst 0, 1) := by decide +kernel
theorem dL_law_2346 : decode cL_law 2346 = .ok (.laload, 1) := by decide +kernel
theorem dL_law_2347 : decode cL_law 2347 = .ok (.iload 6, 2) := by decide +kernel
theorem dL_law_2349 : decode cL_law 2349 = .ok (.i2l, 1) := by decide +kernel
theorem dL_law_2350 : decode cL_law 2350 = .ok (.lcmp, 1) := by decide +kernel
theorem dL_law_2351 : decode cL_law 2351 = .ok (.ifCond .eq 5, 3) := by decide +kernel
theorem dL_law_2354 : decode cL_law 2354 = .ok (.iconst 0, 1) := by decide +kernel
theorem dL_law_2355 : decode cL_law 2355 = .ok (.ireturn, 1) := by decide +kernel
theorem dL_law_2356 : decode cL_law 2356 = .ok (.goto 3, 3) := by decide +kernel
theorem dL_law_2359 : decode cL_law 2359 = .ok (.iinc 4 9, 3) := by decide +kernel
theorem dL_law_2362 : decode cL_law 2362 = .ok (.goto (-2309), 3) := by decide +kernel
theorem dL_law_2365 : decode cL_law 2365 = .ok (.iconst 1, 1) := by decide +kernel
theorem dL_law_2366 : decode cL_law 2366 = .ok (.ireturn, 1) := by decide +kernel
