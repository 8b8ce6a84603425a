theorem dL_law_2026 : decode cL_law 2026 = .ok (.iconst 4, 1) := by decide +kernel
theorem dL_law_2027 : decode cL_law 2027 = .ok (.iadd, 1) := by decide +kernel
theorem dL_law_2028 : decode cL_law 2028 = .ok (.iaload, 1) := by decide +kernel
theorem dL_law_2029 : decode cL_law 2029 = .ok (.aload_n 0, 1) := by decide +kernel
theorem dL_law_2030 : decode cL_law 2030 = .ok (.iload 4, 2) := by decide +kernel
theorem dL_law_2032 : decode cL_law 2032 = .ok (.iconst 5, 1) := by decide +kernel
theorem dL_law_2033 : decode cL_law 2033 = .ok (.iadd, 1) := by decide +kernel
theorem dL_law_2034 : decode cL_law 2034 = .ok (.iaload, 1) := by decide +kernel
theorem dL_law_2035 : decode cL_law 2035 = .ok (.aload_n 0, 1) := by decide +kernel
theorem dL_law_2036 : decode cL_law 2036 = .ok (.iload 4, 2) := by decide +kernel
theorem dL_law_2038 : decode cL_law 2038 = .ok (.bipush 6, 2) := by decide +kernel
theorem dL_law_2040 : decode cL_law 2040 = .ok (.iadd, 1) := by decide +kernel
theorem dL_law_2041 : decode cL_law 2041 = .ok (.iaload, 1) := by decide +kernel
theorem dL_law_2042 : decode cL_law 2042 = .ok (.aload_n 0, 1) := by decide +kernel
theorem dL_law_2043 : decode cL_law 2043 = .ok (.iload 4, 2) := by decide +kernel
theorem dL_law_2045 : decode cL_law 2045 = .ok (.bipush 7, 2) := by decide +kernel
theorem dL_law_2047 : decode cL_law 2047 = .ok (.iadd, 1) := by decide +kernel
theorem dL_law_2048 : decode cL_law 2048 = .ok (.iaload, 1) := by decide +kernel
theorem dL_law_2049 : decode cL_law 2049 = .ok (.ifCond .eq 7, 3) := by decide +kernel
theorem dL_law_2052 : decode cL_law 2052 = .ok (.iconst 1, 1) := by decide +kernel
theorem dL_law_2053 : decode cL_law 2053 = .ok (.goto 4, 3) := by decide +kernel
theorem dL_law_2056 : decode cL_law 2056 = .ok (.iconst 0, 1) := by decide +kernel
theorem dL_law_2057 : decode cL_law 2057 = .ok (.aload_n 3, 1) := by decide +kernel
theorem dL_law_2058 : decode cL_law 2058 = .ok (.invokestatic 238, 3) := by decide +kernel
theorem dL_law_2061 : decode cL_law 2061 = .ok (.istore 5, 2) := by decide +kernel
theorem dL_law_2063 : decode cL_law 2063 = .ok (.aload_n 2, 1) := by decide +kernel
theorem dL_law_2064 : decode cL_law 2064 = .ok (.aload_n 0, 1) := by decide +kernel
theorem dL_law_2065 : decode cL_law 2065 = .ok (.iload 4, 2) := by decide +kernel
theorem dL_law_2067 : decode cL_law 2067 = .ok (.iconst 1, 1) := by decide +kernel
theorem dL_law_2068 : decode cL_law 2068 = .ok (.iadd, 1) := by decide +kernel
theorem dL_law_2069 : decode cL_law 2069 = .ok (.iaload, 1) := by decide +kernel
theorem dL_law_2070 : decode cL_law 2070 = .ok (.aload_n 0, 1) := by decide +kernel
theorem dL_law_2071 : decode cL_law 2071 = .ok (.iload 4, 2) := by decide +kernel
theorem dL_law_2073 : decode cL_law 2073 = .ok (.iconst 2, 1) := by decide +kernel
theorem dL_law_2074 : decode cL_law 2074 = .ok (.iadd, 1) := by decide +kernel
theorem dL_law_2075 : decode cL_law 2075 = .ok (.iaload, 1) := by decide +kernel
theorem dL_law_2076 : decode cL_law 2076 = .ok (.aload_n 0, 1) := by decide +kernel
theorem dL_law_2077 : decode cL_law 2077 = .ok (.iload 4, 2) := by decide +kernel
theorem dL_law_2079 : decode cL_law 2079 = .ok (.iconst 3, 1) := by decide +kernel
theorem dL_law_2080 : decode cL_law 2080 = .ok (.iadd, 1) := by decide +kernel
theorem dL_law_2081 : decode cL_law 2081 = .ok (.iaload, 1) := by decide +kernel
theorem dL_law_2082 : decode cL_law 2082 = .ok (.ifCond .eq 7, 3) := by decide +kernel
theorem dL_law_2085 : decode cL_law 2085 = .ok (.iconst 1, 1) := by decide +kernel
theorem dL_law_2086 : decode cL_law 2086 = .ok (.goto 4, 3) := by decide +kernel
theorem dL_law_2089 : decode cL_law 2089 = .ok (.iconst 0, 1) := by decide +kernel
theorem dL_law_2090 : decode cL_law 2090 = .ok (.aload_n 0, 1) := by decide +kernel
theorem dL_law_2091 : decode cL_law 2091 = .ok (.iload 4, 2) := by decide +kernel
theorem dL_law_2093 : decode cL_law 2093 = .ok (.iconst 4, 1) := by decide +kernel
theorem dL_law_2094 : decode cL_law 2094 = .ok (.iadd, 1) := by decide +kernel
theorem dL_law_2095 : decode cL_law 2095 = .ok (.iaload, 1) := by decide +kernel
theorem dL_law_2096 : decode cL_law 2096 = .ok (.aload_n 0, 1) := by decide +kernel
theorem dL_law_2097 : decode cL_law 2097 = .ok (.iload 4, 2) := by decide +kernel
theorem dL_law_2099 : decode cL_law 2099 = .ok (.iconst 5, 1) := by decide +kernel
theorem dL_law_2100 : decode cL_law 2100 = .ok (.iadd, 1) := by decide +kernel
theorem dL_law_2101 : decode cL_law 2101 = .ok (.iaload, 1) := by decide +kernel
theorem dL_law_2102 : decode cL_law 2102 = .ok (.aload_n 0, 1) := by decide +kernel
theorem dL_law_2103 : decode cL_law 2103 = .ok (.iload 4, 2) := by decide +kernel
theorem dL_law_2105 : decode cL_law 2105 = .ok (.bipush 6, 2) := by decide +kernel
theorem dL_law_2107 : decode cL_law 2107 = .ok (.iadd, 1) := by decide +kernel
theorem dL_law_2108 : decode cL_law 2108 = .ok (.iaload, 1) := by decide +kernel
theorem dL_law_2109 : decode cL_law 2109 = .ok (.aload_n 0, 1) := by decide +kernel
theorem dL_law_2110 : decode cL_law 2110 = .ok (.iload 4, 2) := by decide +kernel
theorem dL_law_2112 : decode cL_law 2112 = .ok (.bipush 7, 2) := by decide +kernel
theorem dL_law_2114 : decode cL_law 2114 = .ok (.iadd, 1) := by decide +kernel
theorem dL_law_2115 : decode cL_law 2115 = .ok (.iaload, 1) := by decide +kernel
theorem dL_law_2116 : decode cL_law 2116 = .ok (.ifCond .eq 7, 3) := by decide +kernel
theorem dL_law_2119 : decode cL_law 2119 = .ok (.iconst 1, 1) := by decide +kernel
theorem dL_law_2120 : decode cL_law 2120 = .ok (.goto 4, 3) := by decide +kernel
theorem dL_law_2123 : decode cL_law 2123 = .ok (.iconst 0, 1) := by decide +kernel
theorem dL_law_2124 : decode cL_law 2124 = .ok (.invokevirtual 241, 3) := by decide +kernel
theorem dL_law_2127 : decode cL_law 2127 = .ok (.lstore 6, 2) := by decide +kernel
theorem dL_law_2129 : decode cL_law 2129 = .ok (.aload_n 2, 1) := by decide +kernel
theorem dL_law_2130 : decode cL_law 2130 = .ok (.invokevirtual 145, 3) := by decide +kernel
theorem dL_law_2133 : decode cL_law 2133 = .ok (.iload 5, 2) := by decide +kernel
theorem dL_law_2135 : decode cL_law 2135 = .ok (.if_icmp .eq 5, 3) := by decide +kernel
theorem dL_law_2138 : decode cL_law 2138 = .ok (.iconst 0, 1) := by decide +kernel
theorem dL_law_2139 : decode cL_law 2139 = .ok (.ireturn, 1) := by decide +kernel
theorem dL_law_2140 : decode cL_law 2140 = .ok (.iload 5, 2) := by decide +kernel
theorem dL_law_2142 : decode cL_law 2142 = .ok (.ifCond .ne 14, 3) := by decide +kernel
theorem dL_law_2145 : decode cL_law 2145 = .ok (.aload_n 3, 1) := by decide +kernel
theorem dL_law_2146 : decode cL_law 2146 = .ok (.iconst 0, 1) := by decide +kernel
theorem dL_law_2147 : decode cL_law 2147 = .ok (.laload, 1) := by decide +kernel
theorem dL_law_2148 : decode cL_law 2148 = .ok (.lload 6, 2) := by decide +kernel
theorem dL_law_2150 : decode cL_law 2150 = .ok (.lcmp, 1) := by decide +kernel
theorem dL_law_2151 : decode cL_law 2151 = .ok (.ifCond .eq 5, 3) := by decide +kernel
theorem dL_law_2154 : decode cL_law 2154 = .ok (.iconst 0, 1) := by decide +kernel
theorem dL_law_2155 : decode cL_law 2155 = .ok (.ireturn, 1) := by decide +kernel
theorem dL_law_2156 : decode cL_law 2156 = .ok (.goto 946, 3) := by decide +kernel
theorem dL_law_2159 : decode cL_law 2159 = .ok (.aload_n 1, 1) := by decide +kernel
theorem dL_law_2160 : decode cL_law 2160 = .ok (.aload_n 0, 1) := by decide +kernel
theorem dL_law_2161 : decode cL_law 2161 = .ok (.iload 4, 2) := by decide +kernel
theorem dL_law_2163 : decode cL_law 2163 = .ok (.iconst 1, 1) := by decide +kernel
theorem dL_law_2164 : decode cL_law 2164 = .ok (.iadd, 1) := by decide +kernel
theorem dL_law_2165 : decode cL_law 2165 = .ok (.iaload, 1) := by decide +kernel
theorem dL_law_2166 : decode cL_law 2166 = .ok (.aload_n 0, 1) := by decide +kernel
theorem dL_law_2167 : decode cL_law 2167 = .ok (.iload 4, 2) := by decide +kernel
theorem dL_law_2169 : decode cL_law 2169 = .ok (.iconst 2, 1) := by decide +kernel
theorem dL_law_2170 : decode cL_law 2170 = .ok (.iadd, 1) := by decide +kernel
theorem dL_law_2171 : decode cL_law 2171 = .ok (.iaload, 1) := by decide +kernel
theorem dL_law_2172 : decode cL_law 2172 = .ok (.aload_n 0, 1) := by decide +kernel
theorem dL_law_2173 : decode cL_law 2173 = .ok (.iload 4, 2) := by decide +kernel
theorem dL_law_2175 : decode cL_law 2175 = .ok (.iconst 3, 1) := by decide +kernel
theorem dL_law_2176 : decode cL_law 2176 = .ok (.iadd, 1) := by decide +kernel
theorem dL_law_2177 : decode cL_law 2177 = .ok (.iaload, 1) := by decide +kernel
theorem dL_law_2178 : decode cL_law 2178 = .ok (.ifCond .eq 7, 3) := by decide +kernel
theorem dL_law_2181 : decode cL_law 2181 = .ok (.iconst 1, 1) := by decide +kernel
theorem dL_law_2182 : decode cL_law 2182 = .ok (.goto 4, 3) := by decide +kernel
theorem dL_law_2185 : decode cL_law 2185 = .ok (.iconst 0, 1) := by decide +kernel
theorem dL_law_2186 : decode cL_law 2186 = .ok (.aload_n 3, 1) := by decide +kernel
theorem dL_law_2187 : decode cL_law 2187 = .ok (.invokestatic 242, 3) := by decide +kernel
theorem dL_law_2190 : decode cL_law 2190 = .ok (.istore 5, 2) := by decide +kernel
theorem dL_law_2192 : decode cL_law 2192 = .ok (.aload_n 2, 1) := by decide +kernel
theorem dL_law_2193 : decode cL_law 2193 = .ok (.aload_n 0, 1) := by decide +kernel
theorem dL_law_2194 : decode cL_law 2194 = .ok (.iload 4, 2) := by decide +kernel
theorem dL_law_2196 : decode cL_law 2196 = .ok (.iconst 1, 1) := by decide +kernel
theorem dL_law_2197 : decode cL_law 2197 = .ok (.iadd, 1) := by decide +kernel
theorem dL_law_2198 : decode cL_law 2198 = .ok (.iaload, 1) := by decide +kernel
theorem dL_law_2199 : decode cL_law 2199 = .ok (.aload_n 0, 1) := by decide +kernel
theorem dL_law_2200 : decode cL_law 2200 = .ok (.iload 4, 2) := by decide +kernel
theorem dL_law_2202 : decode cL_law 2202 = .ok (.iconst 2, 1) := by decide +kernel
theorem dL_law_2203 : decode cL_law 2203 = .ok (.iadd, 1) := by decide +kernel
theorem dL_law_2204 : decode cL_law 2204 = .ok (.iaload, 1) := by decide +kernel
theorem dL_law_2205 : decode cL_law 2205 = .ok (.aload_n 0, 1) := by decide +kernel
theorem dL_law_2206 : decode cL_law 2206 = .ok (.iload 4, 2) := by decide +kernel
theorem dL_law_2208 : decode cL_law 2208 = .ok (.iconst 3, 1) := by decide +kernel
theorem dL_law_2209 : decode cL_law 2209 = .ok (.iadd, 1) := by decide +kernel
theorem dL_law_2210 : decode cL_law 2210 = .ok (.iaload, 1) := by decide +kernel
theorem dL_law_2211 : decode cL_law 2211 = .ok (.ifCond .eq 7, 3) := by decide +kernel
theorem dL_law_2214 : decode cL_law 2214 = .ok (.iconst 1, 1) := by decide +kernel
theorem dL_law_2215 : decode cL_law 2215 = .ok (.goto 4, 3) := by decide +kernel
theorem dL_law_2218 : decode cL_law 2218 = .ok (.iconst 0, 1) := by decide +kernel
theorem dL_law_2219 : decode cL_law 2219 = .ok (.invokevirtual 244, 3) := by decide +kernel
theorem dL_law_2222 : decode cL_law 2222 = .ok (.lstore 6, 2) := by decide +kernel
theorem dL_law_2224 : decode cL_law 2224 = .ok (.aload_n 2, 1) := by decide +kernel
theorem dL_law_2225 : decode cL_law 2225 = .ok (.invokevirtual 145, 3) := by decide +kernel
theorem dL_law_2228 : decode cL_law 2228 = .ok (.iload 5, 2) := by decide +kernel
theorem dL_law_2230 : decode cL_law 2230 = .ok (.if_icmp .eq 5, 3) := by decide +kernel
theorem dL_law_2233 : decode cL_law 2233 = .ok (.iconst 0, 1) := by decide +kernel
theorem dL_law_2234 : decode cL_law 2234 = .ok (.ireturn, 1) := by decide +kernel
theorem dL_law_2235 : decode cL_law 2235 = .ok (.iload 5, 2) := by decide +kernel
theorem dL_law_2237 : decode cL_law 2237 = .ok (.ifCond .ne 14, 3) := by decide +kernel
theorem dL_law_2240 : decode cL_law 2240 = .ok (.aload_n 3, 1) := by decide +kernel
theorem dL_law_2241 : decode cL_law 2241 = .ok (.iconst 0, 1) := by decide +kernel
theorem dL_law_2242 : decode cL_law 2242 = .ok (.laload, 1) := by decide +kernel
theorem dL_law_2243 : decode cL_law 2243 = .ok (.lload 6, 2) := by decide +kernel
theorem dL_law_2245 : decode cL_law 2245 = .ok (.lcmp, 1) := by decide +kernel
theorem dL_law_2246 : decode cL_law 2246 = .ok (.ifCond .eq 5, 3) := by decide +kernel
theorem dL_law_2249 : decode cL_law 2249 = .ok (.iconst 0, 1) := by decide +kernel
theorem dL_law_2250 : decode cL_law 2250 = .ok (.ireturn, 1) := by decide +kernel
theorem dL_law_2251 : decode cL_law 2251 = .ok (.goto 851, 3) := by decide +kernel
theorem dL_law_2254 : decode cL_law 2254 = .ok (.aload_n 1, 1) := by decide +kernel
theorem dL_law_2255 : decode cL_law 2255 = .ok (.aload_n 0, 1) := by decide +kernel
theorem dL_law_2256 : decode cL_law 2256 = .ok (.iload 4, 2) := by decide +kernel
theorem dL_law_2258 : decode cL_law 2258 = .ok (.iconst 1, 1) := by decide +kernel
theorem dL_law_2259 : decode cL_law 2259 = .ok (.iadd, 1) := by decide +kernel
theorem dL_law_2260 : decode cL_law 2260 = .ok (.iaload, 1) := by decide +kernel
theorem dL_law_2261 : decode cL_law 2261 = .ok (.aload_n 0, 1) := by decide +kernel
theorem dL_law_2262 : decode cL_law 2262 = .ok (.iload 4, 2) := by decide +kernel
theorem dL_law_2264 : decode cL_law 2264 = .ok (.iconst 2, 1) := by decide +kernel
theorem dL_law_2265 : decode cL_law 2265 = .ok (.iadd, 1) := by decide +kernel
theorem dL_law_2266 : decode cL_law 2266 = .ok (.iaload, 1) := by decide +kernel
theorem dL_law_2267 : decode cL_law 2267 = .ok (.aload_n 0, 1) := by decide +kernel
theorem dL_law_2268 : decode cL_law 2268 = .ok (.iload 4, 2) := by decide +kernel
theorem dL_law_2270 : decode cL_law 2270 = .ok (.iconst 3, 1) := by decide +kernel
theorem dL_law_2271 : decode cL_law 2271 = .ok (.iadd, 1) := by decide +kernel
theorem dL_law_2272 : decode cL_law 2272 = .ok (.iaload, 1) := by decide +kernel
theorem dL_law_2273 : decode cL_law 2273 = .ok (.ifCond .eq 7, 3) := by decide +kernel
theorem dL_law_2276 : decode cL_law 2276 = .ok (.iconst 1, 1) := by decide +kernel
theorem dL_law_2277 : decode cL_law 2277 = .ok (.goto 4, 3) := by decide +kernel
theorem dL_law_2280 : decode cL_law 2280 = .ok (.iconst 0, 1) := by decide +kernel
theorem dL_law_2281 : decode cL_law 2281 = .ok (.aload_n 3, 1) := by decide +kernel
theorem dL_law_2282 : decode cL_law 2282 = .ok (.invokestatic 245, 3) := by decide +kernel
theorem dL_law_2285 : decode cL_law 2285 = .ok (.istore 5, 2) := by decide +kernel
theorem dL_law_2287 : decode cL_law 2287 = .ok (.aload_n 2, 1) := by decide +kernel
theorem dL_law_2288 : decode cL_law 2288 = .ok (.aload_n 0, 1) := by decide +kernel
theorem dL_law_2289 : decode cL_law 2289 = .ok (.iload 4, 2) := by decide +kernel
theorem dL_law_2291 : decode cL_law 2291 = .ok (.iconst 1, 1) := by decide +kernel
theorem dL_law_2292 : decode cL_law 2292 = .ok (.iadd, 1) := by decide +kernel
theorem dL_law_2293 : decode cL_law 2293 = .ok (.iaload, 1) := by decide +kernel
theorem dL_law_2294 : decode cL_law 2294 = .ok (.aload_n 0, 1) := by decide +kernel
theorem dL_law_2295 : decode cL_law 2295 = .ok (.iload 4, 2) := by decide +kernel
theorem dL_law_2297 : decode cL_law 2297 = .ok (.iconst 2, 1) := by decide +kernel
theorem dL_law_2298 : decode cL_law 2298 = .ok (.iadd, 1) := by decide +kernel
theorem dL_law_2299 : decode cL_law 2299 = .ok (.iaload, 1) := by decide +kernel
theorem dL_law_2300 : decode cL_law 2300 = .ok (.aload_n 0, 1) := by decide +kernel
theorem dL_law_2301 : decode cL_law 2301 = .ok (.iload 4, 2) := by decide +kernel
theorem dL_law_2303 : decode cL_law 2303 = .ok (.iconst 3, 1) := by decide +kernel
theorem dL_law_2304 : decode cL_law 2304 = .ok (.iadd, 1) := by decide +kernel
theorem dL_law_2305 : decode cL_law 2305 = .ok (.iaload, 1) := by decide +kernel
theorem dL_law_2306 : decode cL_law 2306 = .ok (.ifCond .eq 7, 3) := by decide +kernel
theorem dL_law_2309 : decode cL_law 2309 = .ok (.iconst 1, 1) := by decide +kernel
theorem dL_law_2310 : decode cL_law 2310 = .ok (.goto 4, 3) := by decide +kernel
theorem dL_law_2313 : decode cL_law 2313 = .ok (.iconst 0, 1) := by decide +kernel
theorem dL_law_2314 : decode cL_law 2314 = .ok (.invokevirtual 247, 3) := by decide +kernel
theorem dL_law_2317 : decode cL_law 2317 = .ok (.lstore 6, 2) := by decide +kernel
theorem dL_law_2319 : decode cL_law 2319 = .ok (.aload_n 2, 1) := by decide +kernel
theorem dL_law_2320 : decode cL_law 2320 = .ok (.invokevirtual 145, 3) := by decide +kernel
theorem dL_law_2323 : decode cL_law 2323 = .ok (.iload 5, 2) := by decide +kernel
theorem dL_law_2325 : decode cL_law 2325 = .ok (.if_icmp .eq 5, 3) := by decide +kernel
theorem dL_law_2328 : decode cL_law 2328 = .ok (.iconst 0, 1) := by decide +kernel
theorem dL_law_2329 : decode cL_law 2329 = .ok (.ireturn, 1) := by decide +kernel
theorem dL_law_2330 : decode cL_law 2330 = .ok (.iload 5, 2) := by decide +kernel
theorem dL_law_2332 : decode cL_law 2332 = .ok (.ifCond .ne 14, 3) := by decide +kernel
theorem dL_law_2335 : decode cL_law 2335 = .ok (.aload_n 3, 1) := by decide +kernel
theorem dL_law_2336 : decode cL_law 2336 = .ok (.iconst 0, 1) := by decide +kernel
theorem dL_law_2337 : decode cL_law 2337 = .ok (.laload, 1) := by decide +kernel
theorem dL_law_2338 : decode cL_law 2338 = .ok (.lload 6, 2) := by decide +kernel
theorem dL_law_2340 : decode cL_law 2340 = .ok (.lcmp, 1) := by decide +kernel
theorem dL_law_2341 : decode cL_law 2341 = .ok (.ifCond .eq 5, 3) := by decide +kernel
theorem dL_law_2344 : decode cL_law 2344 = .ok (.iconst 0, 1) := by decide +kernel
theorem dL_law_2345 : decode cL_law 2345 = .ok (.ireturn, 1) := by decide +kernel
theorem dL_law_2346 : decode cL_law 2346 = .ok (.goto 756, 3) := by decide +kernel
theorem dL_law_2349 : decode cL_law 2349 = .ok (.aload_n 1, 1) := by decide +kernel
theorem dL_law_2350 : decode cL_law 2350 = .ok (.aload_n 0, 1) := by decide +kernel
theorem dL_law_2351 : decode cL_law 2351 = .ok (.iload 4, 2) := by decide +kernel
theorem dL_law_2353 : decode cL_law 2353 = .ok (.iconst 1, 1) := by decide +kernel
theorem dL_law_2354 : decode cL_law 2354 = .ok (.iadd, 1) := by decide +kernel
theorem dL_law_2355 : decode cL_law 2355 = .ok (.iaload, 1) := by decide +kernel
theorem dL_law_2356 : decode cL_law 2356 = .ok (.aload_n 0, 1) := by decide +kernel
theorem dL_law_2357 : decode cL_law 2357 = .ok (.iload 4, 2) := by decide +kernel
theorem dL_law_2359 : decode cL_law 2359 = .ok (.iconst 2, 1) := by decide +kernel
theorem dL_law_2360 : decode cL_law 2360 = .ok (.iadd, 1) := by decide +kernel
theorem dL_law_2361 : decode cL_law 2361 = .ok (.iaload, 1) := by decide +kernel
theorem dL_law_2362 : decode cL_law 2362 = .ok (.aload_n 3, 1) := by decide +kernel
theorem dL_law_2363 : decode cL_law 2363 = .ok (.invokestatic 248, 3) := by decide +kernel
theorem dL_law_2366 : decode cL_law 2366 = .ok (.istore 5, 2) := by decide +kernel
theorem dL_law_2368 : decode cL_law 2368 = .ok (.aload_n 2, 1) := by decide +kernel
theorem dL_law_2369 : decode cL_law 2369 = .ok (.aload_n 0, 1) := by decide +kernel
theorem dL_law_2370 : decode cL_law 2370 = .ok (.iload 4, 2) := by decide +kernel
theorem dL_law_2372 : decode cL_law 2372 = .ok (.iconst 1, 1) := by decide +kernel
theorem dL_law_2373 : decode cL_law 2373 = .ok (.iadd, 1) := by decide +kernel
theorem dL_law_2374 : decode cL_law 2374 = .ok (.iaload, 1) := by decide +kernel
theorem dL_law_2375 : decode cL_law 2375 = .ok (.aload_n 0, 1) := by decide +kernel
theorem dL_law_2376 : decode cL_law 2376 = .ok (.iload 4, 2) := by decide +kernel
theorem dL_law_2378 : decode cL_law 2378 = .ok (.iconst 2, 1) := by decide +kernel
theorem dL_law_2379 : decode cL_law 2379 = .ok (.iadd, 1) := by decide +kernel
theorem dL_law_2380 : decode cL_law 2380 = .ok (.iaload, 1) := by decide +kernel
theorem dL_law_2381 : decode cL_law 2381 = .ok (.invokevirtual 250, 3) := by decide +kernel
theorem dL_law_2384 : decode cL_law 2384 = .ok (.istore 6, 2) := by decide +kernel
theorem dL_law_2386 : decode cL_law 2386 = .ok (.aload_n 2, 1) := by decide +kernel
