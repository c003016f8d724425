/-! LAYER 3: the law: its operations, one by one (gen/gen_law.py). -/
theorem oL_1402 : opOk 1402 [] 174 177 = true := by decide +kernel
theorem oL_1415 : opOk 1415 [(1, false), (2, false), (3, false)] 178 181 = true := by decide +kernel
theorem oL_1458 : opOk 1458 [(1, false), (2, false)] 182 185 = true := by decide +kernel
theorem oL_1491 : opOk 1491 [(1, false), (2, false), (3, false)] 186 189 = true := by decide +kernel
theorem oL_1534 : opOk 1534 [(1, false)] 190 193 = true := by decide +kernel
theorem oL_1557 : opOk 1557 [(1, false), (2, false), (3, false)] 194 197 = true := by decide +kernel
theorem oL_1600 : opOk 1600 [(1, false), (2, false)] 198 201 = true := by decide +kernel
theorem oL_1633 : opOk 1633 [(1, false)] 202 205 = true := by decide +kernel
theorem oL_1656 : opOk 1656 [(1, false)] 206 209 = true := by decide +kernel
theorem oL_1679 : opOk 1679 [(1, false)] 210 213 = true := by decide +kernel
theorem oL_1702 : opOk 1702 [(1, false), (2, true)] 214 218 = true := by decide +kernel
theorem oL_1751 : opOk 1751 [(1, false)] 219 222 = true := by decide +kernel
theorem oL_1774 : opOk 1774 [] 223 226 = true := by decide +kernel
theorem oL_1787 : opOk 1787 [] 227 230 = true := by decide +kernel
theorem oL_1800 : opOk 1800 [] 231 234 = true := by decide +kernel
theorem oL_1813 : opOk 1813 [(1, false)] 235 238 = true := by decide +kernel
theorem oL_1836 : opOk 1836 [(1, false), (2, false)] 239 242 = true := by decide +kernel
theorem oL_1869 : opOk 1869 [(1, false), (2, false)] 243 246 = true := by decide +kernel
theorem oL_1902 : opOk 1902 [(1, false)] 247 250 = true := by decide +kernel
theorem oL_1925 : opOk 1925 [(1, false), (2, false)] 251 254 = true := by decide +kernel
theorem oL_1958 : opOk 1958 [(1, false)] 255 258 = true := by decide +kernel
theorem oL_1981 : opOk 1981 [(1, false), (2, false)] 259 262 = true := by decide +kernel
theorem oL_2014 : opOk 2014 [(1, false)] 263 266 = true := by decide +kernel
theorem oL_2037 : opOk 2037 [(1, false)] 267 270 = true := by decide +kernel
theorem oL_2060 : opOk 2060 [(1, false), (2, false)] 271 274 = true := by decide +kernel
theorem oL_2093 : opOk 2093 [(1, false), (2, true)] 275 278 = true := by decide +kernel
theorem oL_2142 : opOk 2142 [(1, false)] 279 282 = true := by decide +kernel
theorem oL_2165 : opOk 2165 [(1, false), (2, false)] 283 286 = true := by decide +kernel
theorem oL_2198 : opOk 2198 [(1, false)] 287 290 = true := by decide +kernel
theorem oL_2221 : opOk 2221 [(1, false)] 291 294 = true := by decide +kernel
theorem oL_2244 : opOk 2244 [(1, false)] 295 298 = true := by decide +kernel
theorem oL_2267 : opOk 2267 [(1, false), (2, false)] 299 302 = true := by decide +kernel
theorem oL_2300 : opOk 2300 [(1, false), (2, false)] 303 306 = true := by decide +kernel
theorem oL_2333 : opOk 2333 [(1, false)] 307 310 = true := by decide +kernel
theorem oL_2356 : opLOk 2356 311 315 = true := by decide +kernel
theorem oL_2370 : opOk 2370 [] 316 319 = true := by decide +kernel
theorem oL_2383 : opOk 2383 [] 320 323 = true := by decide +kernel
theorem oL_2396 : opOk 2396 [(1, false)] 324 327 = true := by decide +kernel
