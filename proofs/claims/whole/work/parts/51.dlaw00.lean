theorem dL_0 : decode code 0 = .ok (.new 8, 3) := by decide +kernel
theorem dL_3 : decode code 3 = .ok (.dup, 1) := by decide +kernel
theorem dL_4 : decode code 4 = .ok (.invokespecial 19, 3) := by decide +kernel
theorem dL_7 : decode code 7 = .ok (.astore_n 1, 1) := by decide +kernel
theorem dL_8 : decode code 8 = .ok (.new 20, 3) := by decide +kernel
theorem dL_11 : decode code 11 = .ok (.dup, 1) := by decide +kernel
theorem dL_12 : decode code 12 = .ok (.invokespecial 22, 3) := by decide +kernel
theorem dL_15 : decode code 15 = .ok (.astore_n 2, 1) := by decide +kernel
theorem dL_16 : decode code 16 = .ok (.iconst 1, 1) := by decide +kernel
theorem dL_17 : decode code 17 = .ok (.newarray .long, 2) := by decide +kernel
theorem dL_19 : decode code 19 = .ok (.astore_n 3, 1) := by decide +kernel
theorem dL_20 : decode code 20 = .ok (.iconst 0, 1) := by decide +kernel
theorem dL_21 : decode code 21 = .ok (.istore 4, 2) := by decide +kernel
theorem dL_23 : decode code 23 = .ok (.iload 4, 2) := by decide +kernel
theorem dL_25 : decode code 25 = .ok (.aload_n 0, 1) := by decide +kernel
theorem dL_26 : decode code 26 = .ok (.arraylength, 1) := by decide +kernel
theorem dL_27 : decode code 27 = .ok (.bipush 7, 2) := by decide +kernel
theorem dL_29 : decode code 29 = .ok (.isub, 1) := by decide +kernel
theorem dL_30 : decode code 30 = .ok (.if_icmp .gt 1047, 3) := by decide +kernel
theorem dL_33 : decode code 33 = .ok (.aload_n 0, 1) := by decide +kernel
theorem dL_34 : decode code 34 = .ok (.iload 4, 2) := by decide +kernel
theorem dL_36 : decode code 36 = .ok (.iaload, 1) := by decide +kernel
theorem dL_37 : decode code 37 = .ok (.bipush 31, 2) := by decide +kernel
theorem dL_39 : decode code 39 = .ok (.iand, 1) := by decide +kernel
theorem dL_40 : decode code 40 = .ok (.tableswitch 1031 0 29 #[136, 283, 296, 309, 322, 359, 412, 437, 450, 463, 488, 513, 538, 551, 564, 577, 633, 646, 671, 696, 709, 746, 760, 773, 786, 799, 812, 904, 953, 1006], 136) := by decide +kernel
theorem dL_176 : decode code 176 = .ok (.aload_n 1, 1) := by decide +kernel
theorem dL_177 : decode code 177 = .ok (.aload_n 0, 1) := by decide +kernel
theorem dL_178 : decode code 178 = .ok (.iload 4, 2) := by decide +kernel
theorem dL_180 : decode code 180 = .ok (.iconst 1, 1) := by decide +kernel
theorem dL_181 : decode code 181 = .ok (.iadd, 1) := by decide +kernel
theorem dL_182 : decode code 182 = .ok (.iaload, 1) := by decide +kernel
theorem dL_183 : decode code 183 = .ok (.i2l, 1) := by decide +kernel
theorem dL_184 : decode code 184 = .ok (.bipush 32, 2) := by decide +kernel
theorem dL_186 : decode code 186 = .ok (.lshl, 1) := by decide +kernel
theorem dL_187 : decode code 187 = .ok (.aload_n 0, 1) := by decide +kernel
theorem dL_188 : decode code 188 = .ok (.iload 4, 2) := by decide +kernel
theorem dL_190 : decode code 190 = .ok (.iconst 2, 1) := by decide +kernel
theorem dL_191 : decode code 191 = .ok (.iadd, 1) := by decide +kernel
theorem dL_192 : decode code 192 = .ok (.iaload, 1) := by decide +kernel
theorem dL_193 : decode code 193 = .ok (.i2l, 1) := by decide +kernel
theorem dL_194 : decode code 194 = .ok (.ldc2_w 23, 3) := by decide +kernel
theorem dL_197 : decode code 197 = .ok (.land, 1) := by decide +kernel
theorem dL_198 : decode code 198 = .ok (.lor, 1) := by decide +kernel
theorem dL_199 : decode code 199 = .ok (.aload_n 0, 1) := by decide +kernel
theorem dL_200 : decode code 200 = .ok (.iload 4, 2) := by decide +kernel
theorem dL_202 : decode code 202 = .ok (.iconst 3, 1) := by decide +kernel
theorem dL_203 : decode code 203 = .ok (.iadd, 1) := by decide +kernel
theorem dL_204 : decode code 204 = .ok (.iaload, 1) := by decide +kernel
theorem dL_205 : decode code 205 = .ok (.i2l, 1) := by decide +kernel
theorem dL_206 : decode code 206 = .ok (.bipush 32, 2) := by decide +kernel
theorem dL_208 : decode code 208 = .ok (.lshl, 1) := by decide +kernel
theorem dL_209 : decode code 209 = .ok (.aload_n 0, 1) := by decide +kernel
theorem dL_210 : decode code 210 = .ok (.iload 4, 2) := by decide +kernel
theorem dL_212 : decode code 212 = .ok (.iconst 4, 1) := by decide +kernel
theorem dL_213 : decode code 213 = .ok (.iadd, 1) := by decide +kernel
theorem dL_214 : decode code 214 = .ok (.iaload, 1) := by decide +kernel
theorem dL_215 : decode code 215 = .ok (.i2l, 1) := by decide +kernel
theorem dL_216 : decode code 216 = .ok (.ldc2_w 23, 3) := by decide +kernel
theorem dL_219 : decode code 219 = .ok (.land, 1) := by decide +kernel
theorem dL_220 : decode code 220 = .ok (.lor, 1) := by decide +kernel
theorem dL_221 : decode code 221 = .ok (.aload_n 0, 1) := by decide +kernel
theorem dL_222 : decode code 222 = .ok (.iload 4, 2) := by decide +kernel
theorem dL_224 : decode code 224 = .ok (.iconst 5, 1) := by decide +kernel
theorem dL_225 : decode code 225 = .ok (.iadd, 1) := by decide +kernel
theorem dL_226 : decode code 226 = .ok (.iaload, 1) := by decide +kernel
theorem dL_227 : decode code 227 = .ok (.i2l, 1) := by decide +kernel
theorem dL_228 : decode code 228 = .ok (.bipush 32, 2) := by decide +kernel
theorem dL_230 : decode code 230 = .ok (.lshl, 1) := by decide +kernel
theorem dL_231 : decode code 231 = .ok (.aload_n 0, 1) := by decide +kernel
theorem dL_232 : decode code 232 = .ok (.iload 4, 2) := by decide +kernel
theorem dL_234 : decode code 234 = .ok (.bipush 6, 2) := by decide +kernel
theorem dL_236 : decode code 236 = .ok (.iadd, 1) := by decide +kernel
theorem dL_237 : decode code 237 = .ok (.iaload, 1) := by decide +kernel
theorem dL_238 : decode code 238 = .ok (.i2l, 1) := by decide +kernel
theorem dL_239 : decode code 239 = .ok (.ldc2_w 23, 3) := by decide +kernel
theorem dL_242 : decode code 242 = .ok (.land, 1) := by decide +kernel
theorem dL_243 : decode code 243 = .ok (.lor, 1) := by decide +kernel
theorem dL_244 : decode code 244 = .ok (.invokevirtual 25, 3) := by decide +kernel
theorem dL_247 : decode code 247 = .ok (.aload_n 2, 1) := by decide +kernel
theorem dL_248 : decode code 248 = .ok (.aload_n 0, 1) := by decide +kernel
theorem dL_249 : decode code 249 = .ok (.iload 4, 2) := by decide +kernel
theorem dL_251 : decode code 251 = .ok (.iconst 1, 1) := by decide +kernel
theorem dL_252 : decode code 252 = .ok (.iadd, 1) := by decide +kernel
theorem dL_253 : decode code 253 = .ok (.iaload, 1) := by decide +kernel
theorem dL_254 : decode code 254 = .ok (.i2l, 1) := by decide +kernel
theorem dL_255 : decode code 255 = .ok (.bipush 32, 2) := by decide +kernel
theorem dL_257 : decode code 257 = .ok (.lshl, 1) := by decide +kernel
theorem dL_258 : decode code 258 = .ok (.aload_n 0, 1) := by decide +kernel
theorem dL_259 : decode code 259 = .ok (.iload 4, 2) := by decide +kernel
theorem dL_261 : decode code 261 = .ok (.iconst 2, 1) := by decide +kernel
