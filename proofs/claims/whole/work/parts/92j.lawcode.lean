/-! Part 92j: the law's instructions -/
theorem dL_law_1933 : decode code 1933 = .ok (.iload 5, 2) := by decide +kernel
theorem dL_law_1935 : decode code 1935 = .ok (.iconst 2, 1) := by decide +kernel
theorem dL_law_1936 : decode code 1936 = .ok (.iadd, 1) := by decide +kernel
theorem dL_law_1937 : decode code 1937 = .ok (.iaload, 1) := by decide +kernel
theorem dL_law_1938 : decode code 1938 = .ok (.aload_n 0, 1) := by decide +kernel
theorem dL_law_1939 : decode code 1939 = .ok (.iload 5, 2) := by decide +kernel
theorem dL_law_1941 : decode code 1941 = .ok (.iconst 3, 1) := by decide +kernel
theorem dL_law_1942 : decode code 1942 = .ok (.iadd, 1) := by decide +kernel
theorem dL_law_1943 : decode code 1943 = .ok (.iaload, 1) := by decide +kernel
theorem dL_law_1944 : decode code 1944 = .ok (.aload_n 3, 1) := by decide +kernel
theorem dL_law_1945 : decode code 1945 = .ok (.invokestatic 245, 3) := by decide +kernel
theorem dL_law_1948 : decode code 1948 = .ok (.istore 6, 2) := by decide +kernel
theorem dL_law_1950 : decode code 1950 = .ok (.aload_n 2, 1) := by decide +kernel
theorem dL_law_1951 : decode code 1951 = .ok (.aload_n 0, 1) := by decide +kernel
theorem dL_law_1952 : decode code 1952 = .ok (.iload 5, 2) := by decide +kernel
theorem dL_law_1954 : decode code 1954 = .ok (.iconst 1, 1) := by decide +kernel
theorem dL_law_1955 : decode code 1955 = .ok (.iadd, 1) := by decide +kernel
theorem dL_law_1956 : decode code 1956 = .ok (.iaload, 1) := by decide +kernel
theorem dL_law_1957 : decode code 1957 = .ok (.aload_n 0, 1) := by decide +kernel
theorem dL_law_1958 : decode code 1958 = .ok (.iload 5, 2) := by decide +kernel
theorem dL_law_1960 : decode code 1960 = .ok (.iconst 2, 1) := by decide +kernel
theorem dL_law_1961 : decode code 1961 = .ok (.iadd, 1) := by decide +kernel
theorem dL_law_1962 : decode code 1962 = .ok (.iaload, 1) := by decide +kernel
theorem dL_law_1963 : decode code 1963 = .ok (.aload_n 0, 1) := by decide +kernel
theorem dL_law_1964 : decode code 1964 = .ok (.iload 5, 2) := by decide +kernel
theorem dL_law_1966 : decode code 1966 = .ok (.iconst 3, 1) := by decide +kernel
theorem dL_law_1967 : decode code 1967 = .ok (.iadd, 1) := by decide +kernel
theorem dL_law_1968 : decode code 1968 = .ok (.iaload, 1) := by decide +kernel
theorem dL_law_1969 : decode code 1969 = .ok (.invokevirtual 247, 3) := by decide +kernel
theorem dL_law_1972 : decode code 1972 = .ok (.istore 7, 2) := by decide +kernel
theorem dL_law_1974 : decode code 1974 = .ok (.aload_n 2, 1) := by decide +kernel
theorem dL_law_1975 : decode code 1975 = .ok (.invokevirtual 169, 3) := by decide +kernel
theorem dL_law_1978 : decode code 1978 = .ok (.iload 6, 2) := by decide +kernel
theorem dL_law_1980 : decode code 1980 = .ok (.if_icmp .eq 5, 3) := by decide +kernel
theorem dL_law_1983 : decode code 1983 = .ok (.iconst 0, 1) := by decide +kernel
theorem dL_law_1984 : decode code 1984 = .ok (.ireturn, 1) := by decide +kernel
theorem dL_law_1985 : decode code 1985 = .ok (.iload 6, 2) := by decide +kernel
theorem dL_law_1987 : decode code 1987 = .ok (.ifCond .ne 15, 3) := by decide +kernel
theorem dL_law_1990 : decode code 1990 = .ok (.aload_n 3, 1) := by decide +kernel
theorem dL_law_1991 : decode code 1991 = .ok (.iconst 0, 1) := by decide +kernel
theorem dL_law_1992 : decode code 1992 = .ok (.laload, 1) := by decide +kernel
theorem dL_law_1993 : decode code 1993 = .ok (.iload 7, 2) := by decide +kernel
theorem dL_law_1995 : decode code 1995 = .ok (.i2l, 1) := by decide +kernel
theorem dL_law_1996 : decode code 1996 = .ok (.lcmp, 1) := by decide +kernel
theorem dL_law_1997 : decode code 1997 = .ok (.ifCond .eq 5, 3) := by decide +kernel
theorem dL_law_2000 : decode code 2000 = .ok (.iconst 0, 1) := by decide +kernel
theorem dL_law_2001 : decode code 2001 = .ok (.ireturn, 1) := by decide +kernel
theorem dL_law_2002 : decode code 2002 = .ok (.goto 911, 3) := by decide +kernel
theorem dL_law_2005 : decode code 2005 = .ok (.aload_n 1, 1) := by decide +kernel
theorem dL_law_2006 : decode code 2006 = .ok (.aload_n 0, 1) := by decide +kernel
theorem dL_law_2007 : decode code 2007 = .ok (.iload 5, 2) := by decide +kernel
theorem dL_law_2009 : decode code 2009 = .ok (.iconst 1, 1) := by decide +kernel
theorem dL_law_2010 : decode code 2010 = .ok (.iadd, 1) := by decide +kernel
theorem dL_law_2011 : decode code 2011 = .ok (.iaload, 1) := by decide +kernel
theorem dL_law_2012 : decode code 2012 = .ok (.aload_n 0, 1) := by decide +kernel
theorem dL_law_2013 : decode code 2013 = .ok (.iload 5, 2) := by decide +kernel
theorem dL_law_2015 : decode code 2015 = .ok (.iconst 2, 1) := by decide +kernel
theorem dL_law_2016 : decode code 2016 = .ok (.iadd, 1) := by decide +kernel
theorem dL_law_2017 : decode code 2017 = .ok (.iaload, 1) := by decide +kernel
theorem dL_law_2018 : decode code 2018 = .ok (.aload_n 3, 1) := by decide +kernel
theorem dL_law_2019 : decode code 2019 = .ok (.invokestatic 248, 3) := by decide +kernel
theorem dL_law_2022 : decode code 2022 = .ok (.istore 6, 2) := by decide +kernel
theorem dL_law_2024 : decode code 2024 = .ok (.aload_n 2, 1) := by decide +kernel
theorem dL_law_2025 : decode code 2025 = .ok (.aload_n 0, 1) := by decide +kernel
theorem dL_law_2026 : decode code 2026 = .ok (.iload 5, 2) := by decide +kernel
theorem dL_law_2028 : decode code 2028 = .ok (.iconst 1, 1) := by decide +kernel
theorem dL_law_2029 : decode code 2029 = .ok (.iadd, 1) := by decide +kernel
theorem dL_law_2030 : decode code 2030 = .ok (.iaload, 1) := by decide +kernel
theorem dL_law_2031 : decode code 2031 = .ok (.aload_n 0, 1) := by decide +kernel
theorem dL_law_2032 : decode code 2032 = .ok (.iload 5, 2) := by decide +kernel
theorem dL_law_2034 : decode code 2034 = .ok (.iconst 2, 1) := by decide +kernel
theorem dL_law_2035 : decode code 2035 = .ok (.iadd, 1) := by decide +kernel
theorem dL_law_2036 : decode code 2036 = .ok (.iaload, 1) := by decide +kernel
theorem dL_law_2037 : decode code 2037 = .ok (.invokevirtual 250, 3) := by decide +kernel
theorem dL_law_2040 : decode code 2040 = .ok (.istore 7, 2) := by decide +kernel
theorem dL_law_2042 : decode code 2042 = .ok (.aload_n 2, 1) := by decide +kernel
theorem dL_law_2043 : decode code 2043 = .ok (.invokevirtual 169, 3) := by decide +kernel
theorem dL_law_2046 : decode code 2046 = .ok (.iload 6, 2) := by decide +kernel
theorem dL_law_2048 : decode code 2048 = .ok (.if_icmp .eq 5, 3) := by decide +kernel
theorem dL_law_2051 : decode code 2051 = .ok (.iconst 0, 1) := by decide +kernel
theorem dL_law_2052 : decode code 2052 = .ok (.ireturn, 1) := by decide +kernel
theorem dL_law_2053 : decode code 2053 = .ok (.iload 6, 2) := by decide +kernel
theorem dL_law_2055 : decode code 2055 = .ok (.ifCond .ne 15, 3) := by decide +kernel
theorem dL_law_2058 : decode code 2058 = .ok (.aload_n 3, 1) := by decide +kernel
theorem dL_law_2059 : decode code 2059 = .ok (.iconst 0, 1) := by decide +kernel
theorem dL_law_2060 : decode code 2060 = .ok (.laload, 1) := by decide +kernel
theorem dL_law_2061 : decode code 2061 = .ok (.iload 7, 2) := by decide +kernel
theorem dL_law_2063 : decode code 2063 = .ok (.i2l, 1) := by decide +kernel
theorem dL_law_2064 : decode code 2064 = .ok (.lcmp, 1) := by decide +kernel
theorem dL_law_2065 : decode code 2065 = .ok (.ifCond .eq 5, 3) := by decide +kernel
theorem dL_law_2068 : decode code 2068 = .ok (.iconst 0, 1) := by decide +kernel
theorem dL_law_2069 : decode code 2069 = .ok (.ireturn, 1) := by decide +kernel
theorem dL_law_2070 : decode code 2070 = .ok (.goto 843, 3) := by decide +kernel
theorem dL_law_2073 : decode code 2073 = .ok (.aload_n 1, 1) := by decide +kernel
theorem dL_law_2074 : decode code 2074 = .ok (.aload_n 0, 1) := by decide +kernel
theorem dL_law_2075 : decode code 2075 = .ok (.iload 5, 2) := by decide +kernel
theorem dL_law_2077 : decode code 2077 = .ok (.iconst 1, 1) := by decide +kernel
theorem dL_law_2078 : decode code 2078 = .ok (.iadd, 1) := by decide +kernel
theorem dL_law_2079 : decode code 2079 = .ok (.iaload, 1) := by decide +kernel
theorem dL_law_2080 : decode code 2080 = .ok (.aload_n 3, 1) := by decide +kernel
theorem dL_law_2081 : decode code 2081 = .ok (.invokestatic 251, 3) := by decide +kernel
theorem dL_law_2084 : decode code 2084 = .ok (.istore 6, 2) := by decide +kernel
theorem dL_law_2086 : decode code 2086 = .ok (.aload_n 2, 1) := by decide +kernel
theorem dL_law_2087 : decode code 2087 = .ok (.aload_n 0, 1) := by decide +kernel
theorem dL_law_2088 : decode code 2088 = .ok (.iload 5, 2) := by decide +kernel
theorem dL_law_2090 : decode code 2090 = .ok (.iconst 1, 1) := by decide +kernel
theorem dL_law_2091 : decode code 2091 = .ok (.iadd, 1) := by decide +kernel
theorem dL_law_2092 : decode code 2092 = .ok (.iaload, 1) := by decide +kernel
theorem dL_law_2093 : decode code 2093 = .ok (.invokevirtual 253, 3) := by decide +kernel
theorem dL_law_2096 : decode code 2096 = .ok (.istore 7, 2) := by decide +kernel
theorem dL_law_2098 : decode code 2098 = .ok (.aload_n 2, 1) := by decide +kernel
theorem dL_law_2099 : decode code 2099 = .ok (.invokevirtual 169, 3) := by decide +kernel
theorem dL_law_2102 : decode code 2102 = .ok (.iload 6, 2) := by decide +kernel
theorem dL_law_2104 : decode code 2104 = .ok (.if_icmp .eq 5, 3) := by decide +kernel
theorem dL_law_2107 : decode code 2107 = .ok (.iconst 0, 1) := by decide +kernel
theorem dL_law_2108 : decode code 2108 = .ok (.ireturn, 1) := by decide +kernel
theorem dL_law_2109 : decode code 2109 = .ok (.iload 6, 2) := by decide +kernel
theorem dL_law_2111 : decode code 2111 = .ok (.ifCond .ne 15, 3) := by decide +kernel
theorem dL_law_2114 : decode code 2114 = .ok (.aload_n 3, 1) := by decide +kernel
theorem dL_law_2115 : decode code 2115 = .ok (.iconst 0, 1) := by decide +kernel
theorem dL_law_2116 : decode code 2116 = .ok (.laload, 1) := by decide +kernel
theorem dL_law_2117 : decode code 2117 = .ok (.iload 7, 2) := by decide +kernel
theorem dL_law_2119 : decode code 2119 = .ok (.i2l, 1) := by decide +kernel
theorem dL_law_2120 : decode code 2120 = .ok (.lcmp, 1) := by decide +kernel
theorem dL_law_2121 : decode code 2121 = .ok (.ifCond .eq 5, 3) := by decide +kernel
