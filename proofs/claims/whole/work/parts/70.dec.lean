theorem dd_put_0 : decode method_3_code 0 = .ok (.aload 5, 2) := by decide +kernel
theorem dd_put_2 : decode method_3_code 2 = .ok (.iconst 0, 1) := by decide +kernel
theorem dd_put_3 : decode method_3_code 3 = .ok (.aload_n 0, 1) := by decide +kernel
theorem dd_put_4 : decode method_3_code 4 = .ok (.iload_n 1, 1) := by decide +kernel
theorem dd_put_5 : decode method_3_code 5 = .ok (.iload_n 2, 1) := by decide +kernel
theorem dd_put_6 : decode method_3_code 6 = .ok (.iload_n 3, 1) := by decide +kernel
theorem dd_put_7 : decode method_3_code 7 = .ok (.iload 4, 2) := by decide +kernel
theorem dd_put_9 : decode method_3_code 9 = .ok (.invokevirtual 7, 3) := by decide +kernel
theorem dd_put_12 : decode method_3_code 12 = .ok (.i2l, 1) := by decide +kernel
theorem dd_put_13 : decode method_3_code 13 = .ok (.lastore, 1) := by decide +kernel
theorem dd_put_14 : decode method_3_code 14 = .ok (.goto 11, 3) := by decide +kernel
theorem dd_put_17 : decode method_3_code 17 = .ok (.astore 6, 2) := by decide +kernel
theorem dd_put_19 : decode method_3_code 19 = .ok (.iconst 1, 1) := by decide +kernel
theorem dd_put_20 : decode method_3_code 20 = .ok (.ireturn, 1) := by decide +kernel
theorem dd_put_21 : decode method_3_code 21 = .ok (.astore 6, 2) := by decide +kernel
theorem dd_put_23 : decode method_3_code 23 = .ok (.iconst 2, 1) := by decide +kernel
theorem dd_put_24 : decode method_3_code 24 = .ok (.ireturn, 1) := by decide +kernel
theorem dd_put_25 : decode method_3_code 25 = .ok (.iconst 0, 1) := by decide +kernel
theorem dd_put_26 : decode method_3_code 26 = .ok (.ireturn, 1) := by decide +kernel
theorem dd_allocate_0 : decode method_4_code 0 = .ok (.aload_n 2, 1) := by decide +kernel
theorem dd_allocate_1 : decode method_4_code 1 = .ok (.iconst 0, 1) := by decide +kernel
theorem dd_allocate_2 : decode method_4_code 2 = .ok (.aload_n 0, 1) := by decide +kernel
theorem dd_allocate_3 : decode method_4_code 3 = .ok (.iload_n 1, 1) := by decide +kernel
theorem dd_allocate_4 : decode method_4_code 4 = .ok (.invokevirtual 17, 3) := by decide +kernel
theorem dd_allocate_7 : decode method_4_code 7 = .ok (.i2l, 1) := by decide +kernel
theorem dd_allocate_8 : decode method_4_code 8 = .ok (.lastore, 1) := by decide +kernel
theorem dd_allocate_9 : decode method_4_code 9 = .ok (.goto 6, 3) := by decide +kernel
theorem dd_allocate_12 : decode method_4_code 12 = .ok (.astore_n 3, 1) := by decide +kernel
theorem dd_allocate_13 : decode method_4_code 13 = .ok (.iconst 1, 1) := by decide +kernel
theorem dd_allocate_14 : decode method_4_code 14 = .ok (.ireturn, 1) := by decide +kernel
theorem dd_allocate_15 : decode method_4_code 15 = .ok (.iconst 0, 1) := by decide +kernel
theorem dd_allocate_16 : decode method_4_code 16 = .ok (.ireturn, 1) := by decide +kernel
theorem dd_line_0 : decode method_5_code 0 = .ok (.aload_n 3, 1) := by decide +kernel
theorem dd_line_1 : decode method_5_code 1 = .ok (.iconst 0, 1) := by decide +kernel
theorem dd_line_2 : decode method_5_code 2 = .ok (.aload_n 0, 1) := by decide +kernel
theorem dd_line_3 : decode method_5_code 3 = .ok (.iload_n 1, 1) := by decide +kernel
theorem dd_line_4 : decode method_5_code 4 = .ok (.iload_n 2, 1) := by decide +kernel
theorem dd_line_5 : decode method_5_code 5 = .ok (.invokevirtual 21, 3) := by decide +kernel
theorem dd_line_8 : decode method_5_code 8 = .ok (.i2l, 1) := by decide +kernel
theorem dd_line_9 : decode method_5_code 9 = .ok (.lastore, 1) := by decide +kernel
theorem dd_line_10 : decode method_5_code 10 = .ok (.goto 7, 3) := by decide +kernel
theorem dd_line_13 : decode method_5_code 13 = .ok (.astore 4, 2) := by decide +kernel
theorem dd_line_15 : decode method_5_code 15 = .ok (.iconst 1, 1) := by decide +kernel
theorem dd_line_16 : decode method_5_code 16 = .ok (.ireturn, 1) := by decide +kernel
theorem dd_line_17 : decode method_5_code 17 = .ok (.iconst 0, 1) := by decide +kernel
theorem dd_line_18 : decode method_5_code 18 = .ok (.ireturn, 1) := by decide +kernel
theorem dd_run_0 : decode method_6_code 0 = .ok (.aload_n 2, 1) := by decide +kernel
theorem dd_run_1 : decode method_6_code 1 = .ok (.iconst 0, 1) := by decide +kernel
theorem dd_run_2 : decode method_6_code 2 = .ok (.aload_n 0, 1) := by decide +kernel
theorem dd_run_3 : decode method_6_code 3 = .ok (.iload_n 1, 1) := by decide +kernel
theorem dd_run_4 : decode method_6_code 4 = .ok (.invokevirtual 27, 3) := by decide +kernel
theorem dd_run_7 : decode method_6_code 7 = .ok (.i2l, 1) := by decide +kernel
theorem dd_run_8 : decode method_6_code 8 = .ok (.lastore, 1) := by decide +kernel
theorem dd_run_9 : decode method_6_code 9 = .ok (.goto 9, 3) := by decide +kernel
theorem dd_run_12 : decode method_6_code 12 = .ok (.astore_n 3, 1) := by decide +kernel
theorem dd_run_13 : decode method_6_code 13 = .ok (.iconst 1, 1) := by decide +kernel
theorem dd_run_14 : decode method_6_code 14 = .ok (.ireturn, 1) := by decide +kernel
theorem dd_run_15 : decode method_6_code 15 = .ok (.astore_n 3, 1) := by decide +kernel
theorem dd_run_16 : decode method_6_code 16 = .ok (.iconst 2, 1) := by decide +kernel
theorem dd_run_17 : decode method_6_code 17 = .ok (.ireturn, 1) := by decide +kernel
theorem dd_run_18 : decode method_6_code 18 = .ok (.iconst 0, 1) := by decide +kernel
theorem dd_run_19 : decode method_6_code 19 = .ok (.ireturn, 1) := by decide +kernel
theorem dd_shown_0 : decode method_7_code 0 = .ok (.aload_n 2, 1) := by decide +kernel
theorem dd_shown_1 : decode method_7_code 1 = .ok (.iconst 0, 1) := by decide +kernel
theorem dd_shown_2 : decode method_7_code 2 = .ok (.aload_n 0, 1) := by decide +kernel
theorem dd_shown_3 : decode method_7_code 3 = .ok (.iload_n 1, 1) := by decide +kernel
theorem dd_shown_4 : decode method_7_code 4 = .ok (.invokevirtual 30, 3) := by decide +kernel
theorem dd_shown_7 : decode method_7_code 7 = .ok (.i2l, 1) := by decide +kernel
theorem dd_shown_8 : decode method_7_code 8 = .ok (.lastore, 1) := by decide +kernel
theorem dd_shown_9 : decode method_7_code 9 = .ok (.goto 6, 3) := by decide +kernel
theorem dd_shown_12 : decode method_7_code 12 = .ok (.astore_n 3, 1) := by decide +kernel
theorem dd_shown_13 : decode method_7_code 13 = .ok (.iconst 1, 1) := by decide +kernel
theorem dd_shown_14 : decode method_7_code 14 = .ok (.ireturn, 1) := by decide +kernel
theorem dd_shown_15 : decode method_7_code 15 = .ok (.iconst 0, 1) := by decide +kernel
theorem dd_shown_16 : decode method_7_code 16 = .ok (.ireturn, 1) := by decide +kernel
theorem dd_law_0 : decode code 0 = .ok (.new 8, 3) := by decide +kernel
theorem dd_law_3 : decode code 3 = .ok (.dup, 1) := by decide +kernel
theorem dd_law_4 : decode code 4 = .ok (.invokespecial 33, 3) := by decide +kernel
theorem dd_law_7 : decode code 7 = .ok (.astore_n 1, 1) := by decide +kernel
theorem dd_law_8 : decode code 8 = .ok (.new 34, 3) := by decide +kernel
theorem dd_law_11 : decode code 11 = .ok (.dup, 1) := by decide +kernel
theorem dd_law_12 : decode code 12 = .ok (.invokespecial 36, 3) := by decide +kernel
theorem dd_law_15 : decode code 15 = .ok (.astore_n 2, 1) := by decide +kernel
theorem dd_law_16 : decode code 16 = .ok (.iconst 1, 1) := by decide +kernel
theorem dd_law_17 : decode code 17 = .ok (.newarray .long, 2) := by decide +kernel
theorem dd_law_19 : decode code 19 = .ok (.astore_n 3, 1) := by decide +kernel
theorem dd_law_20 : decode code 20 = .ok (.iconst 0, 1) := by decide +kernel
theorem dd_law_21 : decode code 21 = .ok (.istore 4, 2) := by decide +kernel
theorem dd_law_23 : decode code 23 = .ok (.iload 4, 2) := by decide +kernel
theorem dd_law_25 : decode code 25 = .ok (.aload_n 0, 1) := by decide +kernel
theorem dd_law_26 : decode code 26 = .ok (.arraylength, 1) := by decide +kernel
theorem dd_law_27 : decode code 27 = .ok (.iconst 5, 1) := by decide +kernel
theorem dd_law_28 : decode code 28 = .ok (.isub, 1) := by decide +kernel
theorem dd_law_29 : decode code 29 = .ok (.if_icmp .gt 573, 3) := by decide +kernel
theorem dd_law_32 : decode code 32 = .ok (.aload_n 0, 1) := by decide +kernel
theorem dd_law_33 : decode code 33 = .ok (.iload 4, 2) := by decide +kernel
theorem dd_law_35 : decode code 35 = .ok (.iaload, 1) := by decide +kernel
theorem dd_law_36 : decode code 36 = .ok (.bipush 15, 2) := by decide +kernel
theorem dd_law_38 : decode code 38 = .ok (.iand, 1) := by decide +kernel
theorem dd_law_39 : decode code 39 = .ok (.tableswitch 557 0 12 #[65, 157, 170, 207, 263, 276, 344, 357, 370, 419, 432, 488, 544], 65) := by decide +kernel
theorem dd_law_104 : decode code 104 = .ok (.aload_n 1, 1) := by decide +kernel
theorem dd_law_105 : decode code 105 = .ok (.aload_n 0, 1) := by decide +kernel
theorem dd_law_106 : decode code 106 = .ok (.iload 4, 2) := by decide +kernel
theorem dd_law_108 : decode code 108 = .ok (.iconst 1, 1) := by decide +kernel
theorem dd_law_109 : decode code 109 = .ok (.iadd, 1) := by decide +kernel
theorem dd_law_110 : decode code 110 = .ok (.iaload, 1) := by decide +kernel
theorem dd_law_111 : decode code 111 = .ok (.aload_n 0, 1) := by decide +kernel
theorem dd_law_112 : decode code 112 = .ok (.iload 4, 2) := by decide +kernel
theorem dd_law_114 : decode code 114 = .ok (.iconst 2, 1) := by decide +kernel
theorem dd_law_115 : decode code 115 = .ok (.iadd, 1) := by decide +kernel
theorem dd_law_116 : decode code 116 = .ok (.iaload, 1) := by decide +kernel
theorem dd_law_117 : decode code 117 = .ok (.aload_n 0, 1) := by decide +kernel
theorem dd_law_118 : decode code 118 = .ok (.iload 4, 2) := by decide +kernel
theorem dd_law_120 : decode code 120 = .ok (.iconst 3, 1) := by decide +kernel
theorem dd_law_121 : decode code 121 = .ok (.iadd, 1) := by decide +kernel
theorem dd_law_122 : decode code 122 = .ok (.iaload, 1) := by decide +kernel
theorem dd_law_123 : decode code 123 = .ok (.aload_n 0, 1) := by decide +kernel
theorem dd_law_124 : decode code 124 = .ok (.iload 4, 2) := by decide +kernel
theorem dd_law_126 : decode code 126 = .ok (.iconst 4, 1) := by decide +kernel
theorem dd_law_127 : decode code 127 = .ok (.iadd, 1) := by decide +kernel
theorem dd_law_128 : decode code 128 = .ok (.iaload, 1) := by decide +kernel
theorem dd_law_129 : decode code 129 = .ok (.aload_n 3, 1) := by decide +kernel
theorem dd_law_130 : decode code 130 = .ok (.invokestatic 37, 3) := by decide +kernel
theorem dd_law_133 : decode code 133 = .ok (.istore 5, 2) := by decide +kernel
theorem dd_law_135 : decode code 135 = .ok (.aload_n 2, 1) := by decide +kernel
theorem dd_law_136 : decode code 136 = .ok (.aload_n 0, 1) := by decide +kernel
theorem dd_law_137 : decode code 137 = .ok (.iload 4, 2) := by decide +kernel
theorem dd_law_139 : decode code 139 = .ok (.iconst 1, 1) := by decide +kernel
theorem dd_law_140 : decode code 140 = .ok (.iadd, 1) := by decide +kernel
theorem dd_law_141 : decode code 141 = .ok (.iaload, 1) := by decide +kernel
theorem dd_law_142 : decode code 142 = .ok (.aload_n 0, 1) := by decide +kernel
theorem dd_law_143 : decode code 143 = .ok (.iload 4, 2) := by decide +kernel
theorem dd_law_145 : decode code 145 = .ok (.iconst 2, 1) := by decide +kernel
theorem dd_law_146 : decode code 146 = .ok (.iadd, 1) := by decide +kernel
theorem dd_law_147 : decode code 147 = .ok (.iaload, 1) := by decide +kernel
theorem dd_law_148 : decode code 148 = .ok (.aload_n 0, 1) := by decide +kernel
theorem dd_law_149 : decode code 149 = .ok (.iload 4, 2) := by decide +kernel
theorem dd_law_151 : decode code 151 = .ok (.iconst 3, 1) := by decide +kernel
theorem dd_law_152 : decode code 152 = .ok (.iadd, 1) := by decide +kernel
theorem dd_law_153 : decode code 153 = .ok (.iaload, 1) := by decide +kernel
theorem dd_law_154 : decode code 154 = .ok (.aload_n 0, 1) := by decide +kernel
theorem dd_law_155 : decode code 155 = .ok (.iload 4, 2) := by decide +kernel
theorem dd_law_157 : decode code 157 = .ok (.iconst 4, 1) := by decide +kernel
theorem dd_law_158 : decode code 158 = .ok (.iadd, 1) := by decide +kernel
theorem dd_law_159 : decode code 159 = .ok (.iaload, 1) := by decide +kernel
theorem dd_law_160 : decode code 160 = .ok (.invokevirtual 42, 3) := by decide +kernel
theorem dd_law_163 : decode code 163 = .ok (.istore 6, 2) := by decide +kernel
theorem dd_law_165 : decode code 165 = .ok (.aload_n 2, 1) := by decide +kernel
theorem dd_law_166 : decode code 166 = .ok (.invokevirtual 43, 3) := by decide +kernel
theorem dd_law_169 : decode code 169 = .ok (.iload 5, 2) := by decide +kernel
theorem dd_law_171 : decode code 171 = .ok (.if_icmp .eq 5, 3) := by decide +kernel
theorem dd_law_174 : decode code 174 = .ok (.iconst 0, 1) := by decide +kernel
theorem dd_law_175 : decode code 175 = .ok (.ireturn, 1) := by decide +kernel
theorem dd_law_176 : decode code 176 = .ok (.iload 5, 2) := by decide +kernel
theorem dd_law_178 : decode code 178 = .ok (.ifCond .ne 15, 3) := by decide +kernel
theorem dd_law_181 : decode code 181 = .ok (.aload_n 3, 1) := by decide +kernel
theorem dd_law_182 : decode code 182 = .ok (.iconst 0, 1) := by decide +kernel
theorem dd_law_183 : decode code 183 = .ok (.laload, 1) := by decide +kernel
theorem dd_law_184 : decode code 184 = .ok (.iload 6, 2) := by decide +kernel
theorem dd_law_186 : decode code 186 = .ok (.i2l, 1) := by decide +kernel
theorem dd_law_187 : decode code 187 = .ok (.lcmp, 1) := by decide +kernel
theorem dd_law_188 : decode code 188 = .ok (.ifCond .eq 5, 3) := by decide +kernel
theorem dd_law_191 : decode code 191 = .ok (.iconst 0, 1) := by decide +kernel
theorem dd_law_192 : decode code 192 = .ok (.ireturn, 1) := by decide +kernel
theorem dd_law_193 : decode code 193 = .ok (.goto 403, 3) := by decide +kernel
theorem dd_law_196 : decode code 196 = .ok (.aload_n 1, 1) := by decide +kernel
theorem dd_law_197 : decode code 197 = .ok (.invokevirtual 47, 3) := by decide +kernel
theorem dd_law_200 : decode code 200 = .ok (.aload_n 2, 1) := by decide +kernel
theorem dd_law_201 : decode code 201 = .ok (.invokevirtual 50, 3) := by decide +kernel
theorem dd_law_204 : decode code 204 = .ok (.if_icmp .eq 392, 3) := by decide +kernel
theorem dd_law_207 : decode code 207 = .ok (.iconst 0, 1) := by decide +kernel
theorem dd_law_208 : decode code 208 = .ok (.ireturn, 1) := by decide +kernel
theorem dd_law_209 : decode code 209 = .ok (.aload_n 1, 1) := by decide +kernel
theorem dd_law_210 : decode code 210 = .ok (.aload_n 0, 1) := by decide +kernel
theorem dd_law_211 : decode code 211 = .ok (.iload 4, 2) := by decide +kernel
theorem dd_law_213 : decode code 213 = .ok (.iconst 1, 1) := by decide +kernel
theorem dd_law_214 : decode code 214 = .ok (.iadd, 1) := by decide +kernel
theorem dd_law_215 : decode code 215 = .ok (.iaload, 1) := by decide +kernel
theorem dd_law_216 : decode code 216 = .ok (.aload_n 0, 1) := by decide +kernel
theorem dd_law_217 : decode code 217 = .ok (.iload 4, 2) := by decide +kernel
theorem dd_law_219 : decode code 219 = .ok (.iconst 2, 1) := by decide +kernel
theorem dd_law_220 : decode code 220 = .ok (.iadd, 1) := by decide +kernel
theorem dd_law_221 : decode code 221 = .ok (.iaload, 1) := by decide +kernel
theorem dd_law_222 : decode code 222 = .ok (.invokevirtual 51, 3) := by decide +kernel
theorem dd_law_225 : decode code 225 = .ok (.aload_n 2, 1) := by decide +kernel
theorem dd_law_226 : decode code 226 = .ok (.aload_n 0, 1) := by decide +kernel
theorem dd_law_227 : decode code 227 = .ok (.iload 4, 2) := by decide +kernel
theorem dd_law_229 : decode code 229 = .ok (.iconst 1, 1) := by decide +kernel
theorem dd_law_230 : decode code 230 = .ok (.iadd, 1) := by decide +kernel
theorem dd_law_231 : decode code 231 = .ok (.iaload, 1) := by decide +kernel
theorem dd_law_232 : decode code 232 = .ok (.aload_n 0, 1) := by decide +kernel
theorem dd_law_233 : decode code 233 = .ok (.iload 4, 2) := by decide +kernel
theorem dd_law_235 : decode code 235 = .ok (.iconst 2, 1) := by decide +kernel
theorem dd_law_236 : decode code 236 = .ok (.iadd, 1) := by decide +kernel
theorem dd_law_237 : decode code 237 = .ok (.iaload, 1) := by decide +kernel
theorem dd_law_238 : decode code 238 = .ok (.invokevirtual 55, 3) := by decide +kernel
theorem dd_law_241 : decode code 241 = .ok (.if_icmp .eq 355, 3) := by decide +kernel
theorem dd_law_244 : decode code 244 = .ok (.iconst 0, 1) := by decide +kernel
theorem dd_law_245 : decode code 245 = .ok (.ireturn, 1) := by decide +kernel
theorem dd_law_246 : decode code 246 = .ok (.aload_n 1, 1) := by decide +kernel
theorem dd_law_247 : decode code 247 = .ok (.aload_n 0, 1) := by decide +kernel
theorem dd_law_248 : decode code 248 = .ok (.iload 4, 2) := by decide +kernel
theorem dd_law_250 : decode code 250 = .ok (.iconst 1, 1) := by decide +kernel
theorem dd_law_251 : decode code 251 = .ok (.iadd, 1) := by decide +kernel
theorem dd_law_252 : decode code 252 = .ok (.iaload, 1) := by decide +kernel
theorem dd_law_253 : decode code 253 = .ok (.aload_n 3, 1) := by decide +kernel
theorem dd_law_254 : decode code 254 = .ok (.invokestatic 56, 3) := by decide +kernel
theorem dd_law_257 : decode code 257 = .ok (.istore 5, 2) := by decide +kernel
theorem dd_law_259 : decode code 259 = .ok (.aload_n 2, 1) := by decide +kernel
theorem dd_law_260 : decode code 260 = .ok (.aload_n 0, 1) := by decide +kernel
theorem dd_law_261 : decode code 261 = .ok (.iload 4, 2) := by decide +kernel
theorem dd_law_263 : decode code 263 = .ok (.iconst 1, 1) := by decide +kernel
theorem dd_law_264 : decode code 264 = .ok (.iadd, 1) := by decide +kernel
theorem dd_law_265 : decode code 265 = .ok (.iaload, 1) := by decide +kernel
theorem dd_law_266 : decode code 266 = .ok (.invokevirtual 59, 3) := by decide +kernel
theorem dd_law_269 : decode code 269 = .ok (.istore 6, 2) := by decide +kernel
theorem dd_law_271 : decode code 271 = .ok (.aload_n 2, 1) := by decide +kernel
theorem dd_law_272 : decode code 272 = .ok (.invokevirtual 43, 3) := by decide +kernel
theorem dd_law_275 : decode code 275 = .ok (.iload 5, 2) := by decide +kernel
theorem dd_law_277 : decode code 277 = .ok (.if_icmp .eq 5, 3) := by decide +kernel
theorem dd_law_280 : decode code 280 = .ok (.iconst 0, 1) := by decide +kernel
theorem dd_law_281 : decode code 281 = .ok (.ireturn, 1) := by decide +kernel
theorem dd_law_282 : decode code 282 = .ok (.iload 5, 2) := by decide +kernel
theorem dd_law_284 : decode code 284 = .ok (.ifCond .ne 15, 3) := by decide +kernel
theorem dd_law_287 : decode code 287 = .ok (.aload_n 3, 1) := by decide +kernel
theorem dd_law_288 : decode code 288 = .ok (.iconst 0, 1) := by decide +kernel
theorem dd_law_289 : decode code 289 = .ok (.laload, 1) := by decide +kernel
theorem dd_law_290 : decode code 290 = .ok (.iload 6, 2) := by decide +kernel
theorem dd_law_292 : decode code 292 = .ok (.i2l, 1) := by decide +kernel
theorem dd_law_293 : decode code 293 = .ok (.lcmp, 1) := by decide +kernel
theorem dd_law_294 : decode code 294 = .ok (.ifCond .eq 5, 3) := by decide +kernel
theorem dd_law_297 : decode code 297 = .ok (.iconst 0, 1) := by decide +kernel
theorem dd_law_298 : decode code 298 = .ok (.ireturn, 1) := by decide +kernel
theorem dd_law_299 : decode code 299 = .ok (.goto 297, 3) := by decide +kernel
theorem dd_law_302 : decode code 302 = .ok (.aload_n 1, 1) := by decide +kernel
theorem dd_law_303 : decode code 303 = .ok (.invokevirtual 60, 3) := by decide +kernel
theorem dd_law_306 : decode code 306 = .ok (.aload_n 2, 1) := by decide +kernel
theorem dd_law_307 : decode code 307 = .ok (.invokevirtual 63, 3) := by decide +kernel
theorem dd_law_310 : decode code 310 = .ok (.if_icmp .eq 286, 3) := by decide +kernel
theorem dd_law_313 : decode code 313 = .ok (.iconst 0, 1) := by decide +kernel
theorem dd_law_314 : decode code 314 = .ok (.ireturn, 1) := by decide +kernel
theorem dd_law_315 : decode code 315 = .ok (.aload_n 1, 1) := by decide +kernel
theorem dd_law_316 : decode code 316 = .ok (.aload_n 0, 1) := by decide +kernel
theorem dd_law_317 : decode code 317 = .ok (.iload 4, 2) := by decide +kernel
theorem dd_law_319 : decode code 319 = .ok (.iconst 1, 1) := by decide +kernel
theorem dd_law_320 : decode code 320 = .ok (.iadd, 1) := by decide +kernel
theorem dd_law_321 : decode code 321 = .ok (.iaload, 1) := by decide +kernel
theorem dd_law_322 : decode code 322 = .ok (.aload_n 0, 1) := by decide +kernel
theorem dd_law_323 : decode code 323 = .ok (.iload 4, 2) := by decide +kernel
theorem dd_law_325 : decode code 325 = .ok (.iconst 2, 1) := by decide +kernel
theorem dd_law_326 : decode code 326 = .ok (.iadd, 1) := by decide +kernel
theorem dd_law_327 : decode code 327 = .ok (.iaload, 1) := by decide +kernel
theorem dd_law_328 : decode code 328 = .ok (.aload_n 3, 1) := by decide +kernel
theorem dd_law_329 : decode code 329 = .ok (.invokestatic 64, 3) := by decide +kernel
theorem dd_law_332 : decode code 332 = .ok (.istore 5, 2) := by decide +kernel
theorem dd_law_334 : decode code 334 = .ok (.aload_n 2, 1) := by decide +kernel
theorem dd_law_335 : decode code 335 = .ok (.aload_n 0, 1) := by decide +kernel
theorem dd_law_336 : decode code 336 = .ok (.iload 4, 2) := by decide +kernel
theorem dd_law_338 : decode code 338 = .ok (.iconst 1, 1) := by decide +kernel
theorem dd_law_339 : decode code 339 = .ok (.iadd, 1) := by decide +kernel
theorem dd_law_340 : decode code 340 = .ok (.iaload, 1) := by decide +kernel
theorem dd_law_341 : decode code 341 = .ok (.aload_n 0, 1) := by decide +kernel
theorem dd_law_342 : decode code 342 = .ok (.iload 4, 2) := by decide +kernel
theorem dd_law_344 : decode code 344 = .ok (.iconst 2, 1) := by decide +kernel
theorem dd_law_345 : decode code 345 = .ok (.iadd, 1) := by decide +kernel
theorem dd_law_346 : decode code 346 = .ok (.iaload, 1) := by decide +kernel
theorem dd_law_347 : decode code 347 = .ok (.invokevirtual 67, 3) := by decide +kernel
theorem dd_law_350 : decode code 350 = .ok (.istore 6, 2) := by decide +kernel
theorem dd_law_352 : decode code 352 = .ok (.aload_n 2, 1) := by decide +kernel
theorem dd_law_353 : decode code 353 = .ok (.invokevirtual 43, 3) := by decide +kernel
theorem dd_law_356 : decode code 356 = .ok (.iload 5, 2) := by decide +kernel
theorem dd_law_358 : decode code 358 = .ok (.if_icmp .eq 5, 3) := by decide +kernel
theorem dd_law_361 : decode code 361 = .ok (.iconst 0, 1) := by decide +kernel
theorem dd_law_362 : decode code 362 = .ok (.ireturn, 1) := by decide +kernel
theorem dd_law_363 : decode code 363 = .ok (.iload 5, 2) := by decide +kernel
theorem dd_law_365 : decode code 365 = .ok (.ifCond .ne 15, 3) := by decide +kernel
theorem dd_law_368 : decode code 368 = .ok (.aload_n 3, 1) := by decide +kernel
theorem dd_law_369 : decode code 369 = .ok (.iconst 0, 1) := by decide +kernel
theorem dd_law_370 : decode code 370 = .ok (.laload, 1) := by decide +kernel
theorem dd_law_371 : decode code 371 = .ok (.iload 6, 2) := by decide +kernel
theorem dd_law_373 : decode code 373 = .ok (.i2l, 1) := by decide +kernel
theorem dd_law_374 : decode code 374 = .ok (.lcmp, 1) := by decide +kernel
theorem dd_law_375 : decode code 375 = .ok (.ifCond .eq 5, 3) := by decide +kernel
theorem dd_law_378 : decode code 378 = .ok (.iconst 0, 1) := by decide +kernel
theorem dd_law_379 : decode code 379 = .ok (.ireturn, 1) := by decide +kernel
theorem dd_law_380 : decode code 380 = .ok (.goto 216, 3) := by decide +kernel
theorem dd_law_383 : decode code 383 = .ok (.aload_n 1, 1) := by decide +kernel
theorem dd_law_384 : decode code 384 = .ok (.invokevirtual 68, 3) := by decide +kernel
theorem dd_law_387 : decode code 387 = .ok (.aload_n 2, 1) := by decide +kernel
theorem dd_law_388 : decode code 388 = .ok (.invokevirtual 71, 3) := by decide +kernel
theorem dd_law_391 : decode code 391 = .ok (.if_icmp .eq 205, 3) := by decide +kernel
theorem dd_law_394 : decode code 394 = .ok (.iconst 0, 1) := by decide +kernel
theorem dd_law_395 : decode code 395 = .ok (.ireturn, 1) := by decide +kernel
theorem dd_law_396 : decode code 396 = .ok (.aload_n 1, 1) := by decide +kernel
theorem dd_law_397 : decode code 397 = .ok (.invokevirtual 72, 3) := by decide +kernel
theorem dd_law_400 : decode code 400 = .ok (.aload_n 2, 1) := by decide +kernel
theorem dd_law_401 : decode code 401 = .ok (.invokevirtual 75, 3) := by decide +kernel
theorem dd_law_404 : decode code 404 = .ok (.if_icmp .eq 192, 3) := by decide +kernel
theorem dd_law_407 : decode code 407 = .ok (.iconst 0, 1) := by decide +kernel
theorem dd_law_408 : decode code 408 = .ok (.ireturn, 1) := by decide +kernel
theorem dd_law_409 : decode code 409 = .ok (.aload_n 1, 1) := by decide +kernel
theorem dd_law_410 : decode code 410 = .ok (.aload_n 0, 1) := by decide +kernel
theorem dd_law_411 : decode code 411 = .ok (.iload 4, 2) := by decide +kernel
theorem dd_law_413 : decode code 413 = .ok (.iconst 1, 1) := by decide +kernel
theorem dd_law_414 : decode code 414 = .ok (.iadd, 1) := by decide +kernel
theorem dd_law_415 : decode code 415 = .ok (.iaload, 1) := by decide +kernel
theorem dd_law_416 : decode code 416 = .ok (.aload_n 0, 1) := by decide +kernel
theorem dd_law_417 : decode code 417 = .ok (.iload 4, 2) := by decide +kernel
theorem dd_law_419 : decode code 419 = .ok (.iconst 2, 1) := by decide +kernel
theorem dd_law_420 : decode code 420 = .ok (.iadd, 1) := by decide +kernel
theorem dd_law_421 : decode code 421 = .ok (.iaload, 1) := by decide +kernel
theorem dd_law_422 : decode code 422 = .ok (.aload_n 0, 1) := by decide +kernel
theorem dd_law_423 : decode code 423 = .ok (.iload 4, 2) := by decide +kernel
theorem dd_law_425 : decode code 425 = .ok (.iconst 3, 1) := by decide +kernel
theorem dd_law_426 : decode code 426 = .ok (.iadd, 1) := by decide +kernel
theorem dd_law_427 : decode code 427 = .ok (.iaload, 1) := by decide +kernel
theorem dd_law_428 : decode code 428 = .ok (.invokevirtual 76, 3) := by decide +kernel
theorem dd_law_431 : decode code 431 = .ok (.aload_n 2, 1) := by decide +kernel
theorem dd_law_432 : decode code 432 = .ok (.aload_n 0, 1) := by decide +kernel
theorem dd_law_433 : decode code 433 = .ok (.iload 4, 2) := by decide +kernel
theorem dd_law_435 : decode code 435 = .ok (.iconst 1, 1) := by decide +kernel
theorem dd_law_436 : decode code 436 = .ok (.iadd, 1) := by decide +kernel
theorem dd_law_437 : decode code 437 = .ok (.iaload, 1) := by decide +kernel
theorem dd_law_438 : decode code 438 = .ok (.aload_n 0, 1) := by decide +kernel
theorem dd_law_439 : decode code 439 = .ok (.iload 4, 2) := by decide +kernel
theorem dd_law_441 : decode code 441 = .ok (.iconst 2, 1) := by decide +kernel
theorem dd_law_442 : decode code 442 = .ok (.iadd, 1) := by decide +kernel
theorem dd_law_443 : decode code 443 = .ok (.iaload, 1) := by decide +kernel
theorem dd_law_444 : decode code 444 = .ok (.aload_n 0, 1) := by decide +kernel
theorem dd_law_445 : decode code 445 = .ok (.iload 4, 2) := by decide +kernel
theorem dd_law_447 : decode code 447 = .ok (.iconst 3, 1) := by decide +kernel
theorem dd_law_448 : decode code 448 = .ok (.iadd, 1) := by decide +kernel
theorem dd_law_449 : decode code 449 = .ok (.iaload, 1) := by decide +kernel
theorem dd_law_450 : decode code 450 = .ok (.invokevirtual 80, 3) := by decide +kernel
theorem dd_law_453 : decode code 453 = .ok (.if_icmp .eq 143, 3) := by decide +kernel
theorem dd_law_456 : decode code 456 = .ok (.iconst 0, 1) := by decide +kernel
theorem dd_law_457 : decode code 457 = .ok (.ireturn, 1) := by decide +kernel
theorem dd_law_458 : decode code 458 = .ok (.aload_n 1, 1) := by decide +kernel
theorem dd_law_459 : decode code 459 = .ok (.invokevirtual 81, 3) := by decide +kernel
theorem dd_law_462 : decode code 462 = .ok (.aload_n 2, 1) := by decide +kernel
theorem dd_law_463 : decode code 463 = .ok (.invokevirtual 85, 3) := by decide +kernel
theorem dd_law_466 : decode code 466 = .ok (.if_icmp .eq 130, 3) := by decide +kernel
theorem dd_law_469 : decode code 469 = .ok (.iconst 0, 1) := by decide +kernel
theorem dd_law_470 : decode code 470 = .ok (.ireturn, 1) := by decide +kernel
theorem dd_law_471 : decode code 471 = .ok (.aload_n 1, 1) := by decide +kernel
theorem dd_law_472 : decode code 472 = .ok (.aload_n 0, 1) := by decide +kernel
theorem dd_law_473 : decode code 473 = .ok (.iload 4, 2) := by decide +kernel
theorem dd_law_475 : decode code 475 = .ok (.iconst 1, 1) := by decide +kernel
theorem dd_law_476 : decode code 476 = .ok (.iadd, 1) := by decide +kernel
theorem dd_law_477 : decode code 477 = .ok (.iaload, 1) := by decide +kernel
theorem dd_law_478 : decode code 478 = .ok (.aload_n 3, 1) := by decide +kernel
theorem dd_law_479 : decode code 479 = .ok (.invokestatic 86, 3) := by decide +kernel
theorem dd_law_482 : decode code 482 = .ok (.istore 5, 2) := by decide +kernel
theorem dd_law_484 : decode code 484 = .ok (.aload_n 2, 1) := by decide +kernel
theorem dd_law_485 : decode code 485 = .ok (.aload_n 0, 1) := by decide +kernel
theorem dd_law_486 : decode code 486 = .ok (.iload 4, 2) := by decide +kernel
theorem dd_law_488 : decode code 488 = .ok (.iconst 1, 1) := by decide +kernel
theorem dd_law_489 : decode code 489 = .ok (.iadd, 1) := by decide +kernel
theorem dd_law_490 : decode code 490 = .ok (.iaload, 1) := by decide +kernel
theorem dd_law_491 : decode code 491 = .ok (.invokevirtual 88, 3) := by decide +kernel
theorem dd_law_494 : decode code 494 = .ok (.istore 6, 2) := by decide +kernel
theorem dd_law_496 : decode code 496 = .ok (.aload_n 2, 1) := by decide +kernel
theorem dd_law_497 : decode code 497 = .ok (.invokevirtual 43, 3) := by decide +kernel
theorem dd_law_500 : decode code 500 = .ok (.iload 5, 2) := by decide +kernel
theorem dd_law_502 : decode code 502 = .ok (.if_icmp .eq 5, 3) := by decide +kernel
theorem dd_law_505 : decode code 505 = .ok (.iconst 0, 1) := by decide +kernel
theorem dd_law_506 : decode code 506 = .ok (.ireturn, 1) := by decide +kernel
theorem dd_law_507 : decode code 507 = .ok (.iload 5, 2) := by decide +kernel
theorem dd_law_509 : decode code 509 = .ok (.ifCond .ne 15, 3) := by decide +kernel
theorem dd_law_512 : decode code 512 = .ok (.aload_n 3, 1) := by decide +kernel
theorem dd_law_513 : decode code 513 = .ok (.iconst 0, 1) := by decide +kernel
theorem dd_law_514 : decode code 514 = .ok (.laload, 1) := by decide +kernel
theorem dd_law_515 : decode code 515 = .ok (.iload 6, 2) := by decide +kernel
theorem dd_law_517 : decode code 517 = .ok (.i2l, 1) := by decide +kernel
theorem dd_law_518 : decode code 518 = .ok (.lcmp, 1) := by decide +kernel
theorem dd_law_519 : decode code 519 = .ok (.ifCond .eq 5, 3) := by decide +kernel
theorem dd_law_522 : decode code 522 = .ok (.iconst 0, 1) := by decide +kernel
theorem dd_law_523 : decode code 523 = .ok (.ireturn, 1) := by decide +kernel
theorem dd_law_524 : decode code 524 = .ok (.goto 72, 3) := by decide +kernel
theorem dd_law_527 : decode code 527 = .ok (.aload_n 1, 1) := by decide +kernel
theorem dd_law_528 : decode code 528 = .ok (.aload_n 0, 1) := by decide +kernel
theorem dd_law_529 : decode code 529 = .ok (.iload 4, 2) := by decide +kernel
theorem dd_law_531 : decode code 531 = .ok (.iconst 1, 1) := by decide +kernel
theorem dd_law_532 : decode code 532 = .ok (.iadd, 1) := by decide +kernel
theorem dd_law_533 : decode code 533 = .ok (.iaload, 1) := by decide +kernel
theorem dd_law_534 : decode code 534 = .ok (.aload_n 3, 1) := by decide +kernel
theorem dd_law_535 : decode code 535 = .ok (.invokestatic 89, 3) := by decide +kernel
theorem dd_law_538 : decode code 538 = .ok (.istore 5, 2) := by decide +kernel
theorem dd_law_540 : decode code 540 = .ok (.aload_n 2, 1) := by decide +kernel
theorem dd_law_541 : decode code 541 = .ok (.aload_n 0, 1) := by decide +kernel
theorem dd_law_542 : decode code 542 = .ok (.iload 4, 2) := by decide +kernel
theorem dd_law_544 : decode code 544 = .ok (.iconst 1, 1) := by decide +kernel
theorem dd_law_545 : decode code 545 = .ok (.iadd, 1) := by decide +kernel
theorem dd_law_546 : decode code 546 = .ok (.iaload, 1) := by decide +kernel
theorem dd_law_547 : decode code 547 = .ok (.invokevirtual 91, 3) := by decide +kernel
theorem dd_law_550 : decode code 550 = .ok (.istore 6, 2) := by decide +kernel
theorem dd_law_552 : decode code 552 = .ok (.aload_n 2, 1) := by decide +kernel
theorem dd_law_553 : decode code 553 = .ok (.invokevirtual 43, 3) := by decide +kernel
theorem dd_law_556 : decode code 556 = .ok (.iload 5, 2) := by decide +kernel
theorem dd_law_558 : decode code 558 = .ok (.if_icmp .eq 5, 3) := by decide +kernel
theorem dd_law_561 : decode code 561 = .ok (.iconst 0, 1) := by decide +kernel
theorem dd_law_562 : decode code 562 = .ok (.ireturn, 1) := by decide +kernel
theorem dd_law_563 : decode code 563 = .ok (.iload 5, 2) := by decide +kernel
theorem dd_law_565 : decode code 565 = .ok (.ifCond .ne 15, 3) := by decide +kernel
theorem dd_law_568 : decode code 568 = .ok (.aload_n 3, 1) := by decide +kernel
theorem dd_law_569 : decode code 569 = .ok (.iconst 0, 1) := by decide +kernel
theorem dd_law_570 : decode code 570 = .ok (.laload, 1) := by decide +kernel
theorem dd_law_571 : decode code 571 = .ok (.iload 6, 2) := by decide +kernel
theorem dd_law_573 : decode code 573 = .ok (.i2l, 1) := by decide +kernel
theorem dd_law_574 : decode code 574 = .ok (.lcmp, 1) := by decide +kernel
theorem dd_law_575 : decode code 575 = .ok (.ifCond .eq 5, 3) := by decide +kernel
theorem dd_law_578 : decode code 578 = .ok (.iconst 0, 1) := by decide +kernel
theorem dd_law_579 : decode code 579 = .ok (.ireturn, 1) := by decide +kernel
theorem dd_law_580 : decode code 580 = .ok (.goto 16, 3) := by decide +kernel
theorem dd_law_583 : decode code 583 = .ok (.aload_n 1, 1) := by decide +kernel
theorem dd_law_584 : decode code 584 = .ok (.invokevirtual 92, 3) := by decide +kernel
theorem dd_law_587 : decode code 587 = .ok (.aload_n 2, 1) := by decide +kernel
theorem dd_law_588 : decode code 588 = .ok (.invokevirtual 95, 3) := by decide +kernel
theorem dd_law_591 : decode code 591 = .ok (.if_icmp .eq 5, 3) := by decide +kernel
theorem dd_law_594 : decode code 594 = .ok (.iconst 0, 1) := by decide +kernel
theorem dd_law_595 : decode code 595 = .ok (.ireturn, 1) := by decide +kernel
theorem dd_law_596 : decode code 596 = .ok (.iinc 4 5, 3) := by decide +kernel
theorem dd_law_599 : decode code 599 = .ok (.goto (-576), 3) := by decide +kernel
theorem dd_law_602 : decode code 602 = .ok (.iconst 1, 1) := by decide +kernel
theorem dd_law_603 : decode code 603 = .ok (.ireturn, 1) := by decide +kernel
