/-! Part 92k: the law's instructions -/
theorem dL_law_2124 : decode code 2124 = .ok (.iconst 0, 1) := by decide +kernel
theorem dL_law_2125 : decode code 2125 = .ok (.ireturn, 1) := by decide +kernel
theorem dL_law_2126 : decode code 2126 = .ok (.goto 787, 3) := by decide +kernel
theorem dL_law_2129 : decode code 2129 = .ok (.aload_n 1, 1) := by decide +kernel
theorem dL_law_2130 : decode code 2130 = .ok (.aload_n 0, 1) := by decide +kernel
theorem dL_law_2131 : decode code 2131 = .ok (.iload 5, 2) := by decide +kernel
theorem dL_law_2133 : decode code 2133 = .ok (.iconst 1, 1) := by decide +kernel
theorem dL_law_2134 : decode code 2134 = .ok (.iadd, 1) := by decide +kernel
theorem dL_law_2135 : decode code 2135 = .ok (.iaload, 1) := by decide +kernel
theorem dL_law_2136 : decode code 2136 = .ok (.aload_n 3, 1) := by decide +kernel
theorem dL_law_2137 : decode code 2137 = .ok (.invokestatic 254, 3) := by decide +kernel
theorem dL_law_2140 : decode code 2140 = .ok (.istore 6, 2) := by decide +kernel
theorem dL_law_2142 : decode code 2142 = .ok (.aload_n 2, 1) := by decide +kernel
theorem dL_law_2143 : decode code 2143 = .ok (.aload_n 0, 1) := by decide +kernel
theorem dL_law_2144 : decode code 2144 = .ok (.iload 5, 2) := by decide +kernel
theorem dL_law_2146 : decode code 2146 = .ok (.iconst 1, 1) := by decide +kernel
theorem dL_law_2147 : decode code 2147 = .ok (.iadd, 1) := by decide +kernel
theorem dL_law_2148 : decode code 2148 = .ok (.iaload, 1) := by decide +kernel
theorem dL_law_2149 : decode code 2149 = .ok (.invokevirtual 256, 3) := by decide +kernel
theorem dL_law_2152 : decode code 2152 = .ok (.istore 7, 2) := by decide +kernel
theorem dL_law_2154 : decode code 2154 = .ok (.aload_n 2, 1) := by decide +kernel
theorem dL_law_2155 : decode code 2155 = .ok (.invokevirtual 169, 3) := by decide +kernel
theorem dL_law_2158 : decode code 2158 = .ok (.iload 6, 2) := by decide +kernel
theorem dL_law_2160 : decode code 2160 = .ok (.if_icmp .eq 5, 3) := by decide +kernel
theorem dL_law_2163 : decode code 2163 = .ok (.iconst 0, 1) := by decide +kernel
theorem dL_law_2164 : decode code 2164 = .ok (.ireturn, 1) := by decide +kernel
theorem dL_law_2165 : decode code 2165 = .ok (.iload 6, 2) := by decide +kernel
theorem dL_law_2167 : decode code 2167 = .ok (.ifCond .ne 15, 3) := by decide +kernel
theorem dL_law_2170 : decode code 2170 = .ok (.aload_n 3, 1) := by decide +kernel
theorem dL_law_2171 : decode code 2171 = .ok (.iconst 0, 1) := by decide +kernel
theorem dL_law_2172 : decode code 2172 = .ok (.laload, 1) := by decide +kernel
theorem dL_law_2173 : decode code 2173 = .ok (.iload 7, 2) := by decide +kernel
theorem dL_law_2175 : decode code 2175 = .ok (.i2l, 1) := by decide +kernel
theorem dL_law_2176 : decode code 2176 = .ok (.lcmp, 1) := by decide +kernel
theorem dL_law_2177 : decode code 2177 = .ok (.ifCond .eq 5, 3) := by decide +kernel
theorem dL_law_2180 : decode code 2180 = .ok (.iconst 0, 1) := by decide +kernel
theorem dL_law_2181 : decode code 2181 = .ok (.ireturn, 1) := by decide +kernel
theorem dL_law_2182 : decode code 2182 = .ok (.goto 731, 3) := by decide +kernel
theorem dL_law_2185 : decode code 2185 = .ok (.aload_n 1, 1) := by decide +kernel
theorem dL_law_2186 : decode code 2186 = .ok (.aload_n 0, 1) := by decide +kernel
theorem dL_law_2187 : decode code 2187 = .ok (.iload 5, 2) := by decide +kernel
theorem dL_law_2189 : decode code 2189 = .ok (.iconst 1, 1) := by decide +kernel
theorem dL_law_2190 : decode code 2190 = .ok (.iadd, 1) := by decide +kernel
theorem dL_law_2191 : decode code 2191 = .ok (.iaload, 1) := by decide +kernel
theorem dL_law_2192 : decode code 2192 = .ok (.aload_n 0, 1) := by decide +kernel
theorem dL_law_2193 : decode code 2193 = .ok (.iload 5, 2) := by decide +kernel
theorem dL_law_2195 : decode code 2195 = .ok (.iconst 2, 1) := by decide +kernel
theorem dL_law_2196 : decode code 2196 = .ok (.iadd, 1) := by decide +kernel
theorem dL_law_2197 : decode code 2197 = .ok (.iaload, 1) := by decide +kernel
theorem dL_law_2198 : decode code 2198 = .ok (.aload_n 0, 1) := by decide +kernel
theorem dL_law_2199 : decode code 2199 = .ok (.iload 5, 2) := by decide +kernel
theorem dL_law_2201 : decode code 2201 = .ok (.iconst 3, 1) := by decide +kernel
theorem dL_law_2202 : decode code 2202 = .ok (.iadd, 1) := by decide +kernel
theorem dL_law_2203 : decode code 2203 = .ok (.iaload, 1) := by decide +kernel
theorem dL_law_2204 : decode code 2204 = .ok (.aload_n 3, 1) := by decide +kernel
theorem dL_law_2205 : decode code 2205 = .ok (.invokestatic 257, 3) := by decide +kernel
theorem dL_law_2208 : decode code 2208 = .ok (.istore 6, 2) := by decide +kernel
theorem dL_law_2210 : decode code 2210 = .ok (.aload_n 2, 1) := by decide +kernel
theorem dL_law_2211 : decode code 2211 = .ok (.aload_n 0, 1) := by decide +kernel
theorem dL_law_2212 : decode code 2212 = .ok (.iload 5, 2) := by decide +kernel
theorem dL_law_2214 : decode code 2214 = .ok (.iconst 1, 1) := by decide +kernel
theorem dL_law_2215 : decode code 2215 = .ok (.iadd, 1) := by decide +kernel
theorem dL_law_2216 : decode code 2216 = .ok (.iaload, 1) := by decide +kernel
theorem dL_law_2217 : decode code 2217 = .ok (.aload_n 0, 1) := by decide +kernel
theorem dL_law_2218 : decode code 2218 = .ok (.iload 5, 2) := by decide +kernel
theorem dL_law_2220 : decode code 2220 = .ok (.iconst 2, 1) := by decide +kernel
theorem dL_law_2221 : decode code 2221 = .ok (.iadd, 1) := by decide +kernel
theorem dL_law_2222 : decode code 2222 = .ok (.iaload, 1) := by decide +kernel
theorem dL_law_2223 : decode code 2223 = .ok (.aload_n 0, 1) := by decide +kernel
theorem dL_law_2224 : decode code 2224 = .ok (.iload 5, 2) := by decide +kernel
theorem dL_law_2226 : decode code 2226 = .ok (.iconst 3, 1) := by decide +kernel
theorem dL_law_2227 : decode code 2227 = .ok (.iadd, 1) := by decide +kernel
theorem dL_law_2228 : decode code 2228 = .ok (.iaload, 1) := by decide +kernel
theorem dL_law_2229 : decode code 2229 = .ok (.invokevirtual 259, 3) := by decide +kernel
theorem dL_law_2232 : decode code 2232 = .ok (.istore 7, 2) := by decide +kernel
theorem dL_law_2234 : decode code 2234 = .ok (.aload_n 2, 1) := by decide +kernel
theorem dL_law_2235 : decode code 2235 = .ok (.invokevirtual 169, 3) := by decide +kernel
theorem dL_law_2238 : decode code 2238 = .ok (.iload 6, 2) := by decide +kernel
theorem dL_law_2240 : decode code 2240 = .ok (.if_icmp .eq 5, 3) := by decide +kernel
theorem dL_law_2243 : decode code 2243 = .ok (.iconst 0, 1) := by decide +kernel
theorem dL_law_2244 : decode code 2244 = .ok (.ireturn, 1) := by decide +kernel
theorem dL_law_2245 : decode code 2245 = .ok (.iload 6, 2) := by decide +kernel
theorem dL_law_2247 : decode code 2247 = .ok (.ifCond .ne 15, 3) := by decide +kernel
theorem dL_law_2250 : decode code 2250 = .ok (.aload_n 3, 1) := by decide +kernel
theorem dL_law_2251 : decode code 2251 = .ok (.iconst 0, 1) := by decide +kernel
theorem dL_law_2252 : decode code 2252 = .ok (.laload, 1) := by decide +kernel
theorem dL_law_2253 : decode code 2253 = .ok (.iload 7, 2) := by decide +kernel
theorem dL_law_2255 : decode code 2255 = .ok (.i2l, 1) := by decide +kernel
theorem dL_law_2256 : decode code 2256 = .ok (.lcmp, 1) := by decide +kernel
theorem dL_law_2257 : decode code 2257 = .ok (.ifCond .eq 5, 3) := by decide +kernel
theorem dL_law_2260 : decode code 2260 = .ok (.iconst 0, 1) := by decide +kernel
theorem dL_law_2261 : decode code 2261 = .ok (.ireturn, 1) := by decide +kernel
theorem dL_law_2262 : decode code 2262 = .ok (.goto 651, 3) := by decide +kernel
theorem dL_law_2265 : decode code 2265 = .ok (.aload_n 1, 1) := by decide +kernel
theorem dL_law_2266 : decode code 2266 = .ok (.aload_n 0, 1) := by decide +kernel
theorem dL_law_2267 : decode code 2267 = .ok (.iload 5, 2) := by decide +kernel
theorem dL_law_2269 : decode code 2269 = .ok (.iconst 1, 1) := by decide +kernel
theorem dL_law_2270 : decode code 2270 = .ok (.iadd, 1) := by decide +kernel
theorem dL_law_2271 : decode code 2271 = .ok (.iaload, 1) := by decide +kernel
theorem dL_law_2272 : decode code 2272 = .ok (.aload_n 0, 1) := by decide +kernel
theorem dL_law_2273 : decode code 2273 = .ok (.iload 5, 2) := by decide +kernel
theorem dL_law_2275 : decode code 2275 = .ok (.iconst 2, 1) := by decide +kernel
theorem dL_law_2276 : decode code 2276 = .ok (.iadd, 1) := by decide +kernel
theorem dL_law_2277 : decode code 2277 = .ok (.iaload, 1) := by decide +kernel
theorem dL_law_2278 : decode code 2278 = .ok (.aload_n 3, 1) := by decide +kernel
theorem dL_law_2279 : decode code 2279 = .ok (.invokestatic 260, 3) := by decide +kernel
theorem dL_law_2282 : decode code 2282 = .ok (.istore 6, 2) := by decide +kernel
theorem dL_law_2284 : decode code 2284 = .ok (.aload_n 2, 1) := by decide +kernel
theorem dL_law_2285 : decode code 2285 = .ok (.aload_n 0, 1) := by decide +kernel
theorem dL_law_2286 : decode code 2286 = .ok (.iload 5, 2) := by decide +kernel
theorem dL_law_2288 : decode code 2288 = .ok (.iconst 1, 1) := by decide +kernel
theorem dL_law_2289 : decode code 2289 = .ok (.iadd, 1) := by decide +kernel
theorem dL_law_2290 : decode code 2290 = .ok (.iaload, 1) := by decide +kernel
theorem dL_law_2291 : decode code 2291 = .ok (.aload_n 0, 1) := by decide +kernel
theorem dL_law_2292 : decode code 2292 = .ok (.iload 5, 2) := by decide +kernel
theorem dL_law_2294 : decode code 2294 = .ok (.iconst 2, 1) := by decide +kernel
theorem dL_law_2295 : decode code 2295 = .ok (.iadd, 1) := by decide +kernel
theorem dL_law_2296 : decode code 2296 = .ok (.iaload, 1) := by decide +kernel
theorem dL_law_2297 : decode code 2297 = .ok (.invokevirtual 262, 3) := by decide +kernel
theorem dL_law_2300 : decode code 2300 = .ok (.istore 7, 2) := by decide +kernel
theorem dL_law_2302 : decode code 2302 = .ok (.aload_n 2, 1) := by decide +kernel
theorem dL_law_2303 : decode code 2303 = .ok (.invokevirtual 169, 3) := by decide +kernel
theorem dL_law_2306 : decode code 2306 = .ok (.iload 6, 2) := by decide +kernel
theorem dL_law_2308 : decode code 2308 = .ok (.if_icmp .eq 5, 3) := by decide +kernel
theorem dL_law_2311 : decode code 2311 = .ok (.iconst 0, 1) := by decide +kernel
